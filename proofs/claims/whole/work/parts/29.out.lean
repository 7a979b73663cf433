/-! ===== the outcome of a test with one fault, on both sides ===== -/
theorem OUTv_tree (v : Int32) : (if v < 6 then (if v ≤ 0 then (some 0 : Option Int32) else some 1) else some 2) = some (OUTv v) := by
  unfold OUTv
  by_cases h : v < 6
  · rw [if_pos h, if_pos h]
    by_cases h2 : v ≤ 0
    · rw [if_pos h2, if_pos h2]
    · rw [if_neg h2, if_neg h2]
  · rw [if_neg h, if_neg h]
theorem outcome_eq {fu f p : Nat} {h : Int32} {x : Mem} (hf : f < 168) (hp : p < 12) (hm : ∃ c, c < 65536 ∧ x 14 p = nI c) : F_X2_outcomeWith fu (nI f) (nI p) h x = some (OUT (x 14 p) (x 13 p) h f) := by
  have hc : ∀ M : Option Int32, chk (nI p) 12 M = M := fun M => chk_ok hp (by omega)
  unfold F_X2_outcomeWith OUT
  rw [inHeat_eq (m := x 14 p) hp rfl hm, clp_some]
  simp only [hc, cN (show p < 2 ^ 31 by omega), letv_eq, jn_eq, OUTv_tree]
  by_cases h16 : f < 16
  · rw [if_neg (show ¬ (16 : Int32) ≤ nI f from nI_ge (b := 16) h16 (by omega)), if_pos h16]
    cases hb : bt (x 14 p) f
    · rw [if_pos ((bit_eq0 (by omega)).mpr hb)]; rfl
    · rw [if_neg (fun h => by rw [(bit_eq0 (by omega)).mp h] at hb; cases hb)]; rfl
  · rw [if_pos (show (16 : Int32) ≤ nI f from nI_le (a := 16) (by omega) (by omega)), if_neg h16]
    by_cases h160 : f < 160
    · have e1 : (nI f - 16) = nI (f - 16) := pk_sub (b := 16) (by omega)
      have e2 : nI (f - 16) / 9 = nI ((f - 16) / 9) := pk_div (d := 9) (by omega) (by omega) (by omega)
      have e3 : nI (f - 16) - nI ((f - 16) / 9) * 9 = nI ((f - 16) % 9) := by rw [← e2]; exact pk_rem (d := 9) (by omega) (by omega) (by omega)
      rw [if_neg (show ¬ (160 : Int32) ≤ nI f from nI_ge (b := 160) h160 (by omega)), if_pos h160, nz_ok (by decide), nz_ok (by decide), e1, e2, e3, nI_1]
      cases hb : bt (x 14 p) ((f - 16) / 9)
      · rw [if_pos ((bit_eq0 (by omega)).mpr hb)]; rfl
      · rw [if_neg (fun h => by rw [(bit_eq0 (by omega)).mp h] at hb; cases hb)]; rfl
    · have e1 : (nI f - 160) = nI (f - 160) := pk_sub (b := 160) (by omega)
      rw [if_pos (show (160 : Int32) ≤ nI f from nI_le (a := 160) (by omega) (by omega)), if_neg h160, e1]
      by_cases e : x 13 p = nI (f - 160)
      · rw [if_pos e, if_pos e]
      · rw [if_neg e, if_neg e]
theorem e_isDeadF (fu p : Nat) (hp : p < 12) (l3 : Int32) (fc : Nat → Int32) (y : Mem) (hfc : ∀ c, c < 16 → F_X10_crankBy fu (nI c) l3 y = some (fc c)) (K : Int32 → Option Int32) : ∀ (d k n : Nat) (acc : Int32), k + d = 16 → d < n → (acc = 0 ∨ acc = 1) → ∃ r : Int32, L_X10_isDead_5 fu (nI p) l3 y n acc (nI k) K = K r ∧ (r = 0 ∨ r = 1) ∧ (r = 1 ↔ acc = 1 ∨ ∃ c, k ≤ c ∧ c < 16 ∧ bt (y 8 p) c = true ∧ fc c = 10) := by
  intro d
  induction d with
  | zero =>
    intro k n acc hk hn ha
    obtain ⟨n, rfl⟩ : ∃ m, n = m + 1 := ⟨n - 1, by omega⟩
    refine ⟨acc, ?_, ha, ?_⟩
    · rw [L_X10_isDead_5, if_pos (show (16 : Int32) ≤ nI k from nI_le (a := 16) (by omega) (by omega))]
    · constructor
      · exact Or.inl
      · rintro (h | ⟨s, h1, h2, -⟩)
        · exact h
        · omega
  | succ d ih =>
    intro k n acc hk hn ha
    obtain ⟨n, rfl⟩ : ∃ m, n = m + 1 := ⟨n - 1, by omega⟩
    have hg : ¬ (16 : Int32) ≤ nI k := nI_ge (b := 16) (by omega) (by omega)
    rcases ha with rfl | rfl
    · by_cases e : bt (y 8 p) k = true ∧ fc k = 10
      · obtain ⟨r, r1, r2, r3⟩ := ih (k + 1) n 1 (by omega) (by omega) (Or.inr rfl)
        refine ⟨r, ?_, r2, r3.trans ⟨fun _ => Or.inr ⟨k, by omega, by omega, e⟩, fun _ => Or.inl rfl⟩⟩
        rw [L_X10_isDead_5, if_neg hg, if_pos rfl, chk_ok hp (by omega), cN (by omega), if_pos ((bit_eq1 (by omega)).mpr e.1), hfc k (by omega), clp_some, if_pos e.2, nI_1, r1]
      · obtain ⟨r, r1, r2, r3⟩ := ih (k + 1) n 0 (by omega) (by omega) (Or.inl rfl)
        refine ⟨r, ?_, r2, r3.trans ?_⟩
        · rw [L_X10_isDead_5, if_neg hg, if_pos rfl, chk_ok hp (by omega), cN (by omega)]
          by_cases e1 : bt (y 8 p) k = true
          · rw [if_pos ((bit_eq1 (by omega)).mpr e1), hfc k (by omega), clp_some, if_neg (fun h => e ⟨e1, h⟩), nI_1, r1]
          · rw [if_neg (fun h => e1 ((bit_eq1 (by omega)).mp h)), nI_1, r1]
        · constructor
          · rintro (h | ⟨s, h1, h2, h3⟩)
            · exact absurd h (by decide)
            · exact Or.inr ⟨s, by omega, h2, h3⟩
          · rintro (h | ⟨s, h1, h2, h3⟩)
            · exact absurd h (by decide)
            · by_cases e2 : s = k
              · subst e2; exact absurd h3 e
              · exact Or.inr ⟨s, by omega, h2, h3⟩
    · obtain ⟨r, r1, r2, r3⟩ := ih (k + 1) n 1 (by omega) (by omega) (Or.inr rfl)
      refine ⟨r, ?_, r2, r3.trans ⟨fun _ => Or.inl rfl, fun _ => Or.inl rfl⟩⟩
      rw [L_X10_isDead_5, if_neg hg, if_neg (by decide), nI_1, r1]
theorem e_forceByF (fu p : Nat) (hp : p < 12) (l3 : Int32) (fc : Nat → Int32) (y : Mem) (hfc : ∀ c, c < 16 → F_X10_crankBy fu (nI c) l3 y = some (fc c)) (K : Int32 → Option Int32) : ∀ (d k n : Nat) (a : Int32), k + d = 16 → d < n → L_X10_forceBy_22 fu (nI p) l3 y n a (nI k) K = K (sb (y 8 p) fc d k a) := by
  intro d
  induction d with
  | zero =>
    intro k n a hk hn
    obtain ⟨n, rfl⟩ : ∃ m, n = m + 1 := ⟨n - 1, by omega⟩
    rw [L_X10_forceBy_22, if_pos (show (16 : Int32) ≤ nI k from nI_le (a := 16) (by omega) (by omega))]
    rfl
  | succ d ih =>
    intro k n a hk hn
    obtain ⟨n, rfl⟩ : ∃ m, n = m + 1 := ⟨n - 1, by omega⟩
    rw [L_X10_forceBy_22, if_neg (show ¬ (16 : Int32) ≤ nI k from nI_ge (b := 16) (by omega) (by omega)), chk_ok hp (by omega), cN (by omega), jn_eq, hfc k (by omega), clp_some]
    show _ = K (sb (y 8 p) fc d (k + 1) (if bt (y 8 p) k then a - fc k else a))
    cases hb : bt (y 8 p) k
    · rw [if_neg (fun h => by rw [(bit_eq1 (by omega)).mp h] at hb; cases hb)]
      dsimp only
      rw [letv_eq, nI_1, ih (k + 1) n _ (by omega) (by omega)]
      simp
    · rw [if_pos ((bit_eq1 (by omega)).mpr hb)]
      dsimp only
      rw [letv_eq, nI_1, ih (k + 1) n _ (by omega) (by omega)]
      rfl
theorem sb_one {m : Int32} {fc : Nat → Int32} {c0 : Nat} (h0 : ∀ c, c ≠ c0 → fc c = 0) : ∀ (d k : Nat) (a : Int32), sb m fc d k a = if k ≤ c0 ∧ c0 < k + d ∧ bt m c0 = true then a - fc c0 else a := by
  intro d
  induction d with
  | zero => intro k a; rw [if_neg (by omega)]; rfl
  | succ d ih =>
    intro k a
    show sb m fc d (k + 1) (if bt m k then a - fc k else a) = _
    rw [ih]
    by_cases e : k = c0
    · subst e
      rw [if_neg (by omega)]
      by_cases hb : bt m k = true
      · rw [if_pos hb, if_pos ⟨Nat.le_refl _, by omega, hb⟩]
      · rw [if_neg hb, if_neg (fun h => hb h.2.2)]
    · have ek : (if bt m k then a - fc k else a) = a := by
        rw [h0 k e]
        split
        · simp
        · rfl
      rw [ek]
      by_cases h : k ≤ c0 ∧ c0 < k + (d + 1) ∧ bt m c0 = true
      · rw [if_pos h, if_pos ⟨by omega, by omega, h.2.2⟩]
      · rw [if_neg h, if_neg (fun h2 => h ⟨by omega, by omega, h2.2.2⟩)]
/-- what the model's force comes to, once its cranks are known -/
theorem forceByF_eq {fu p : Nat} {h l3 : Int32} {fc : Nat → Int32} {y : Mem} (hfu : 100 ≤ fu) (hp : p < 12) (hfc : ∀ c, c < 16 → F_X10_crankBy fu (nI c) l3 y = some (fc c)) : ∃ r : Int32, (r = 0 ∨ r = 1) ∧ (r = 1 ↔ ∃ c, c < 16 ∧ bt (y 8 p) c = true ∧ fc c = 10) ∧ F_X10_forceBy fu (nI p) h l3 y = some (if sb (y 8 p) fc 16 0 (OUTb (y 8 p) h) < 0 then 0 else if r = 0 then sb (y 8 p) fc 16 0 (OUTb (y 8 p) h) else 0) := by
  obtain ⟨r, r1, r2, r3⟩ := e_isDeadF fu p hp l3 fc y hfc (fun l3_2 => retzp l3_2) 16 0 fu 0 rfl (by omega) (Or.inl rfl)
  have r1' : F_X10_isDead fu (nI p) l3 y = some r := by
    unfold F_X10_isDead
    have r1' : L_X10_isDead_5 fu (nI p) l3 y fu 0 0 (fun l3_2 => retzp l3_2) = _ := r1
    rw [r1']
    rcases r2 with rfl | rfl <;> rfl
  refine ⟨r, r2, r3.trans ?_, ?_⟩
  · constructor
    · rintro (h | ⟨s, -, h2, h3⟩)
      · exact absurd h (by decide)
      · exact ⟨s, h2, h3⟩
    · rintro ⟨s, h2, h3⟩; exact Or.inr ⟨s, by omega, h2, h3⟩
  · unfold F_X10_forceBy
    have e16 := fun K => e_forceByF fu p hp l3 fc y hfc K 16 0 fu (OUTb (y 8 p) h) rfl (by omega)
    have e16' : ∀ K, L_X10_forceBy_22 fu (nI p) l3 y fu (OUTb (y 8 p) h) 0 K = K (sb (y 8 p) fc 16 0 (OUTb (y 8 p) h)) := e16
    rw [chk_ok hp (by omega), cN (by omega), bits_eq hfu, clp_some, nz_ok (by decide), letv_eq]
    show L_X10_forceBy_22 fu (nI p) l3 y fu (OUTb (y 8 p) h) 0 _ = _
    rw [e16', r1', clp_some]
    by_cases hv : sb (y 8 p) fc 16 0 (OUTb (y 8 p) h) < 0
    · rw [if_pos hv, if_pos hv]
    · rw [if_neg hv, if_neg hv]
      by_cases e : r = 0
      · rw [if_pos e, if_pos e]
      · rw [if_neg e, if_neg e]
theorem own_tree (F v : Int32) (hF : F = if v < 0 then 0 else v) : (if F = 0 then (some 0 : Option Int32) else if F ≤ 5 then some 1 else some 2) = some (OUTv v) := by
  have le5 : ∀ w : Int32, w ≤ 5 ↔ w < 6 := by
    intro w
    rw [Int32.le_iff_toInt_le, Int32.lt_iff_toInt_lt]
    have e5 : (5 : Int32).toInt = 5 := rfl
    have e6 : (6 : Int32).toInt = 6 := rfl
    omega
  unfold OUTv
  by_cases h : v < 0
  · have h6 : v < 6 := by
      rw [Int32.lt_iff_toInt_lt] at h ⊢
      have e0 : (0 : Int32).toInt = 0 := rfl
      have e6 : (6 : Int32).toInt = 6 := rfl
      omega
    have h0 : v ≤ 0 := by
      rw [Int32.lt_iff_toInt_lt] at h
      rw [Int32.le_iff_toInt_le]
      omega
    rw [if_pos h] at hF
    rw [hF, if_pos rfl, if_pos h6, if_pos h0]
  · rw [if_neg h] at hF
    subst hF
    by_cases h0 : F = 0
    · subst h0; decide
    · have n0 : ¬ F ≤ 0 := by
        intro h2
        rw [Int32.le_iff_toInt_le] at h2
        rw [Int32.lt_iff_toInt_lt] at h
        exact h0 (Int32.toInt_inj.mp (by omega))
      rw [if_neg h0]
      by_cases h6 : F < 6
      · rw [if_pos ((le5 F).mpr h6), if_pos h6, if_neg n0]
      · rw [if_neg (fun h2 => h6 ((le5 F).mp h2)), if_neg h6]
theorem ownBy_eq {fu f p be : Nat} {h : Int32} {y : Mem} (hfu : 100 ≤ fu) (hf : f < 168) (hp : p < 12) (hbe : be ≤ 7) (ebe : y 7 p = nI be) : F_X10_ownBy fu (nI p) h (nI f) y = some (OUT (y 8 p) (y 7 p) h f) := by
  have f0 : (0 : Int32) ≤ nI f := nI_pos' (by omega)
  have hwell : F_X10_isWell fu (nI be) (nI f) y = some (if f = 160 + be then 0 else 1) := by
    unfold F_X10_isWell
    have e : (160 : Int32) + nI be = nI (160 + be) := nI_add 160 be
    rw [if_pos f0, e]
    by_cases h : f = 160 + be
    · rw [if_pos (by rw [h]), if_pos h]; rfl
    · rw [if_neg (lit_ne f (160 + be) (by omega) (by omega) h), if_neg h]; rfl
  have main : ∀ F v : Int32, F_X10_forceBy fu (nI p) h (nI f) y = some F → F = (if v < 0 then 0 else v) → F_X10_ownBy fu (nI p) h (nI f) y = some (if f = 160 + be then 0 else OUTv v) := by
    intro F v h1 h2
    unfold F_X10_ownBy
    rw [h1, clp_some, chk_ok hp (by omega), cN (by omega), ebe, hwell, clp_some]
    by_cases e : f = 160 + be
    · rw [if_pos e, if_pos rfl, if_pos e]
    · rw [if_neg e, if_neg (by decide), if_neg e]
      exact own_tree F v h2
  unfold OUT
  by_cases h16 : f < 16
  · -- a dead crank
    have hfc : ∀ c, c < 16 → F_X10_crankBy fu (nI c) (nI f) y = some ((fun c => if c = f then (10 : Int32) else 0) c) := by
      intro c hc
      unfold F_X10_crankBy
      rw [if_pos f0, if_neg (show ¬ (16 : Int32) ≤ nI f from nI_ge (b := 16) h16 (by omega))]
      by_cases e : c = f
      · rw [if_pos (by rw [e])]; simp [e]
      · rw [if_neg (lit_ne f c (by omega) (by omega) (fun h => e h.symm))]; simp [e]
    obtain ⟨r, r2, r3, r1⟩ := forceByF_eq (h := h) hfu hp hfc
    have hsb := sb_one (m := y 8 p) (fc := fun c => if c = f then (10 : Int32) else 0) (c0 := f) (fun c hc => by simp [hc]) 16 0 (OUTb (y 8 p) h)
    rw [if_pos h16]
    cases hb : bt (y 8 p) f
    · have hr : r = 0 := by
        rcases r2 with e | e
        · exact e
        · obtain ⟨c, hc, h1, h2⟩ := r3.mp e
          by_cases ec : c = f
          · subst ec; rw [hb] at h1; cases h1
          · simp [ec] at h2
      rw [if_neg (by rw [hb]; simp)] at hsb
      rw [hsb, hr] at r1
      have := main _ (OUTb (y 8 p) h) r1 (by simp)
      rw [this, if_neg (by omega)]
      rfl
    · have hr : r = 1 := r3.mpr ⟨f, h16, hb, by simp⟩
      rw [hr] at r1
      have := main _ 0 r1 (by
        by_cases hv : sb (y 8 p) (fun c => if c = f then (10 : Int32) else 0) 16 0 (OUTb (y 8 p) h) < 0
        · rw [if_pos hv]; decide
        · rw [if_neg hv, if_neg (by decide)]; decide)
      rw [this, if_neg (by omega)]
      rfl
  · rw [if_neg h16]
    by_cases h160 : f < 160
    · have e1 : (nI f - 16) = nI (f - 16) := pk_sub (b := 16) (by omega)
      have e2 : nI (f - 16) / 9 = nI ((f - 16) / 9) := pk_div (d := 9) (by omega) (by omega) (by omega)
      have e3 : nI (f - 16) - nI ((f - 16) / 9) * 9 = nI ((f - 16) % 9) := by rw [← e2]; exact pk_rem (d := 9) (by omega) (by omega) (by omega)
      have hfc : ∀ c, c < 16 → F_X10_crankBy fu (nI c) (nI f) y = some ((fun c => if c = (f - 16) / 9 then nI ((f - 16) % 9 + 1) else 0) c) := by
        intro c hc
        unfold F_X10_crankBy
        rw [if_pos f0, if_pos (show (16 : Int32) ≤ nI f from nI_le (a := 16) (by omega) (by omega)), if_neg (show ¬ (160 : Int32) ≤ nI f from nI_ge (b := 160) h160 (by omega)), nz_ok (by decide), nz_ok (by decide), e1, e2, e3, nI_1]
        by_cases e : c = (f - 16) / 9
        · rw [if_pos (by rw [e])]; simp [e]
        · rw [if_neg (lit_ne ((f - 16) / 9) c (by omega) (by omega) (fun h => e h.symm))]; simp [e]
      obtain ⟨r, r2, r3, r1⟩ := forceByF_eq (h := h) hfu hp hfc
      have hsb := sb_one (m := y 8 p) (fc := fun c => if c = (f - 16) / 9 then nI ((f - 16) % 9 + 1) else 0) (c0 := (f - 16) / 9) (fun c hc => by simp [hc]) 16 0 (OUTb (y 8 p) h)
      have hr : r = 0 := by
        rcases r2 with e | e
        · exact e
        · obtain ⟨c, hc, h1, h2⟩ := r3.mp e
          exfalso
          by_cases ec : c = (f - 16) / 9
          · simp only [ec, if_true] at h2
            have h9 := nI_inj (by omega) (by omega) (show nI ((f - 16) % 9 + 1) = nI 10 from h2)
            omega
          · simp only [ec, if_false] at h2
            exact absurd h2 (by decide)
      rw [if_pos h160]
      cases hb : bt (y 8 p) ((f - 16) / 9)
      · rw [if_neg (by rw [hb]; simp)] at hsb
        rw [hsb, hr] at r1
        have := main _ (OUTb (y 8 p) h) r1 (by simp)
        rw [this, if_neg (by omega)]
        rfl
      · rw [if_pos ⟨by omega, by omega, hb⟩] at hsb
        simp only [if_true] at hsb
        rw [hsb, hr] at r1
        have := main _ (OUTb (y 8 p) h - nI ((f - 16) % 9 + 1)) r1 (by simp)
        rw [this, if_neg (by omega)]
        rfl
    · have hfc : ∀ c, c < 16 → F_X10_crankBy fu (nI c) (nI f) y = some ((fun _ => (0 : Int32)) c) := by
        intro c hc
        unfold F_X10_crankBy
        rw [if_pos f0, if_pos (show (16 : Int32) ≤ nI f from nI_le (a := 16) (by omega) (by omega)), if_pos (show (160 : Int32) ≤ nI f from nI_le (a := 160) (by omega) (by omega))]
      obtain ⟨r, r2, r3, r1⟩ := forceByF_eq (h := h) hfu hp hfc
      have hsb := sb_one (m := y 8 p) (fc := fun _ => (0 : Int32)) (c0 := 99) (fun c hc => rfl) 16 0 (OUTb (y 8 p) h)
      rw [if_neg (by omega)] at hsb
      have hr : r = 0 := by
        rcases r2 with e | e
        · exact e
        · obtain ⟨c, hc, h1, h2⟩ := r3.mp e
          exact absurd h2 (by decide)
      rw [hsb, hr] at r1
      have := main _ (OUTb (y 8 p) h) r1 (by simp)
      rw [this, if_neg h160, ebe]
      by_cases e : f = 160 + be
      · rw [if_pos e, if_pos (show nI be = nI (f - 160) from by rw [show f - 160 = be by omega])]
      · rw [if_neg e, if_neg (lit_ne be (f - 160) (by omega) (by omega) (by omega))]

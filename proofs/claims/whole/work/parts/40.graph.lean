/-! ===== wires: least functions on the frame ===== -/
def wgt (v : Int32) : Nat := if v = 2 then 0 else 1
def ADJ (B : Nat → Int32) (a b s : Nat) : Prop := (b = a + 1 ∧ a % 6 ≠ 5 ∧ B a ≠ 1 ∧ s = wgt (B a)) ∨ (b = a + 6 ∧ B (24 + a) ≠ 1 ∧ s = wgt (B (24 + a)))
def EDG (B : Nat → Int32) (a b s : Nat) : Prop := a < 24 ∧ b < 24 ∧ (ADJ B a b s ∨ ADJ B b a s)
theorem EDG_symm {B : Nat → Int32} {a b s : Nat} (h : EDG B a b s) : EDG B b a s := ⟨h.2.1, h.1, h.2.2.symm⟩
theorem wgt_le (v : Int32) : wgt v ≤ 1 := by
  unfold wgt
  by_cases h : v = 2
  · rw [if_pos h]; omega
  · rw [if_neg h]; omega
theorem EDG_le {B : Nat → Int32} {a b s : Nat} (h : EDG B a b s) : s ≤ 1 := by
  rcases h.2.2 with (⟨-, -, -, e⟩ | ⟨-, -, e⟩) | (⟨-, -, -, e⟩ | ⟨-, -, e⟩) <;> (rw [e]; exact wgt_le _)
def Lip (B : Nat → Int32) (c : Nat → Nat) : Prop := ∀ a b s, EDG B a b s → c b ≤ c a + s
def CLO (B : Nat → Int32) (G f : Nat → Nat) : Prop := Lip B f ∧ (∀ p, p < 24 → f p ≤ G p) ∧ ∀ h, Lip B h → (∀ p, p < 24 → h p ≤ G p) → ∀ p, p < 24 → h p ≤ f p
theorem max_ex (Q : Nat → Prop) (h0 : Q 0) : ∀ M, (∀ v, Q v → v ≤ M) → ∃ v, Q v ∧ ∀ u, Q u → u ≤ v := by
  intro M
  induction M with
  | zero => intro h; exact ⟨0, h0, h⟩
  | succ M ih =>
    intro h
    rcases Classical.em (Q (M + 1)) with e | e
    · exact ⟨M + 1, e, h⟩
    · refine ih (fun v hv => ?_)
      have := h v hv
      have : ¬ v = M + 1 := fun e2 => e (e2 ▸ hv)
      omega
theorem clo_ex (B : Nat → Int32) (G : Nat → Nat) : ∃ f, CLO B G f := by
  have ex : ∀ p, ∃ v, p < 24 → ((∃ h, Lip B h ∧ (∀ p, p < 24 → h p ≤ G p) ∧ h p = v) ∧ ∀ u, (∃ h, Lip B h ∧ (∀ p, p < 24 → h p ≤ G p) ∧ h p = u) → u ≤ v) := by
    intro p
    by_cases hp : p < 24
    · obtain ⟨v, h1, h2⟩ := max_ex (fun v => ∃ h, Lip B h ∧ (∀ p, p < 24 → h p ≤ G p) ∧ h p = v) ⟨fun _ => 0, fun _ _ _ _ => Nat.zero_le _, fun _ _ => Nat.zero_le _, rfl⟩ (G p) (fun v ⟨h, _, h2, h3⟩ => h3 ▸ h2 p hp)
      exact ⟨v, fun _ => ⟨h1, h2⟩⟩
    · exact ⟨0, fun h => absurd h hp⟩
  obtain ⟨f, hf⟩ := Classical.axiomOfChoice ex
  refine ⟨f, fun a b s he => ?_, fun p hp => ?_, fun h h1 h2 p hp => (hf p hp).2 (h p) ⟨h, h1, h2, rfl⟩⟩
  · obtain ⟨⟨h, h1, h2, h3⟩, -⟩ := hf b he.2.1
    have l1 := (hf a he.1).2 (h a) ⟨h, h1, h2, rfl⟩
    have l2 := h1 a b s he
    omega
  · obtain ⟨⟨h, h1, h2, h3⟩, -⟩ := hf p hp
    rw [← h3]; exact h2 p hp
/-- points whose value is found after k turns -/
def Sk (B : Nat → Int32) (G f : Nat → Nat) : Nat → Nat → Prop
  | 0, p => f p = G p
  | k + 1, p => Sk B G f k p ∨ ∃ a s, EDG B a p s ∧ Sk B G f k a ∧ f p = f a + s
theorem Sk_of0 {B : Nat → Int32} {G f : Nat → Nat} {p : Nat} (h : f p = G p) : ∀ k, Sk B G f k p := by
  intro k
  induction k with
  | zero => exact h
  | succ k ih => exact Or.inl ih
theorem Sk_grow {B : Nat → Int32} {G f : Nat → Nat} (hc : CLO B G f) (Q : Nat → Prop) (h0 : ∀ p, f p = G p → Q p) (hn : ∃ p, p < 24 ∧ ¬ Q p) : ∃ a p s, EDG B a p s ∧ Q a ∧ ¬ Q p ∧ f p = f a + s := by
  rcases Classical.em (∃ a p s, EDG B a p s ∧ Q a ∧ ¬ Q p ∧ f p = f a + s) with h | h
  · exact h
  · exfalso
    obtain ⟨p0, hp0, hq0⟩ := hn
    have hd : ∀ p, ∃ v, (Q p → v = f p) ∧ (¬ Q p → v = f p + 1) := fun p => by
      rcases Classical.em (Q p) with e | e
      · exact ⟨f p, fun _ => rfl, fun h => absurd e h⟩
      · exact ⟨f p + 1, fun h => absurd h e, fun _ => rfl⟩
    obtain ⟨g, hg⟩ := Classical.axiomOfChoice hd
    have hL : Lip B g := by
      intro a b s he
      have hf := hc.1 a b s he
      rcases Classical.em (Q b) with eb | eb
      · have e1 := (hg b).1 eb
        rcases Classical.em (Q a) with ea | ea
        · have e2 := (hg a).1 ea; omega
        · have e2 := (hg a).2 ea; omega
      · have e1 := (hg b).2 eb
        rcases Classical.em (Q a) with ea | ea
        · have e2 := (hg a).1 ea
          have : ¬ f b = f a + s := fun e => h ⟨a, b, s, he, ea, eb, e⟩
          omega
        · have e2 := (hg a).2 ea; omega
    have hle : ∀ p, p < 24 → g p ≤ G p := by
      intro p hp
      have l := hc.2.1 p hp
      rcases Classical.em (Q p) with e | e
      · rw [(hg p).1 e]; exact l
      · have : ¬ f p = G p := fun e2 => e (h0 p e2)
        rw [(hg p).2 e]; omega
    have := hc.2.2 g hL hle p0 hp0
    rw [(hg p0).2 hq0] at this
    omega
theorem Sk_some {B : Nat → Int32} {G f : Nat → Nat} (hc : CLO B G f) : ∃ p, p < 24 ∧ f p = G p := by
  rcases Classical.em (∃ p, p < 24 ∧ f p = G p) with h | h
  · exact h
  · exfalso
    have := hc.2.2 (fun p => f p + 1) (fun a b s he => by have := hc.1 a b s he; show f b + 1 ≤ f a + 1 + s; omega) (fun p hp => by
      have := hc.2.1 p hp
      have : ¬ f p = G p := fun e => h ⟨p, hp, e⟩
      show f p + 1 ≤ G p
      omega) 0 (by omega)
    have : f 0 + 1 ≤ f 0 := this
    omega
theorem cntL_lt {P Q : Nat → Bool} {j : Nat} : ∀ n, j < n → (∀ i, i < n → P i = true → Q i = true) → Q j = true → P j = false → cntL P n + 1 ≤ cntL Q n := by
  intro n
  induction n with
  | zero => intro h; omega
  | succ n ih =>
    intro hj h hq hp
    rw [cntL_s, cntL_s]
    have mono : ∀ m, (∀ i, i < m → P i = true → Q i = true) → cntL P m ≤ cntL Q m := by
      intro m
      induction m with
      | zero => intro _; exact Nat.le_refl _
      | succ m ih =>
        intro h
        rw [cntL_s, cntL_s]
        have := ih (fun i hi => h i (by omega))
        have h2 := h m (by omega)
        cases e1 : P m
        · simp; omega
        · rw [h2 e1]; simp; omega
    by_cases e : j = n
    · subst e
      rw [hq, hp]
      have := mono j (fun i hi => h i (by omega))
      simp
      omega
    · have := ih (by omega) (fun i hi => h i (by omega)) hq hp
      have h2 := h n (by omega)
      cases e1 : P n
      · simp; omega
      · rw [h2 e1]; simp; omega
theorem cntL_full {P : Nat → Bool} : ∀ n, n ≤ cntL P n → ∀ i, i < n → P i = true := by
  intro n
  induction n with
  | zero => intro _ i h; omega
  | succ n ih =>
    intro h i hi
    have l := cntL_le P n
    rw [cntL_s] at h
    cases e : P n
    · rw [e] at h
      simp at h
      omega
    · rw [e] at h
      simp at h
      by_cases e2 : i = n
      · rw [e2]; exact e
      · exact ih h i (by omega)
theorem Sk_all {B : Nat → Int32} {G f : Nat → Nat} (hc : CLO B G f) : ∀ p, p < 24 → Sk B G f 23 p := by
  have ex : ∀ k, ∃ P : Nat → Bool, ∀ p, P p = true ↔ Sk B G f k p := fun k =>
    ⟨fun p => @decide (Sk B G f k p) (Classical.propDecidable _), fun p => @decide_eq_true_iff _ (Classical.propDecidable _)⟩
  obtain ⟨P, hP⟩ := Classical.axiomOfChoice ex
  have H : ∀ k, (∀ p, p < 24 → Sk B G f k p) ∨ k + 1 ≤ cntL (P k) 24 := by
    intro k
    induction k with
    | zero =>
      right
      obtain ⟨p, hp, e⟩ := Sk_some hc
      have := cntL_lt (P := fun _ => false) (Q := P 0) 24 hp (fun i _ h => absurd h (by decide)) ((hP 0 p).mpr e) rfl
      omega
    | succ k ih =>
      rcases Classical.em (∀ p, p < 24 → Sk B G f k p) with h | h
      · exact Or.inl (fun p hp => Or.inl (h p hp))
      · right
        have hk := ih.resolve_left h
        obtain ⟨a, p, s, he, ha, hp, e⟩ := Sk_grow hc (Sk B G f k) (fun p e => Sk_of0 e k) (by
          rcases Classical.em (∃ p, p < 24 ∧ ¬ Sk B G f k p) with h2 | h2
          · exact h2
          · exact absurd (fun p hp => Classical.byContradiction (fun h3 => h2 ⟨p, hp, h3⟩)) h)
        have := cntL_lt (P := P k) (Q := P (k + 1)) 24 he.2.1 (fun i _ hi => (hP (k + 1) i).mpr (Or.inl ((hP k i).mp hi))) ((hP (k + 1) p).mpr (Or.inr ⟨a, s, he, ha, e⟩)) (by
          cases e3 : P k p
          · rfl
          · exact absurd ((hP k p).mp e3) hp)
        omega
  intro p hp
  rcases H 23 with h | h
  · exact h p hp
  · exact (hP 23 p).mp (cntL_full 24 h p hp)
theorem Sk_up {B : Nat → Int32} {G f : Nat → Nat} {p k : Nat} (h : Sk B G f k p) : ∀ d, Sk B G f (k + d) p := by
  intro d
  induction d with
  | zero => exact h
  | succ d ih => exact Or.inl ih
theorem clo_bound {B : Nat → Int32} {G f : Nat → Nat} {F M : Nat} (hc : CLO B G f) (hG : ∀ p, p < 24 → G p = F ∨ G p ≤ M) : ∀ p, p < 24 → F ≤ f p ∨ f p ≤ M + 23 := by
  have H : ∀ k p, p < 24 → Sk B G f k p → F ≤ f p ∨ f p ≤ M + k := by
    intro k
    induction k with
    | zero =>
      intro p hp h
      have h' : f p = G p := h
      rcases hG p hp with e | e
      · left; omega
      · right; omega
    | succ k ih =>
      intro p hp h
      rcases h with h | ⟨a, s, he, ha, e⟩
      · rcases ih p hp h with h | h
        · exact Or.inl h
        · right; omega
      · have := EDG_le he
        rcases ih a he.1 ha with h | h
        · left; omega
        · right; omega
  intro p hp
  exact H 23 p hp (Sk_all hc p hp)
/-- one turn over all neighbours -/
def Trn (B : Nat → Int32) (c c' : Nat → Nat) (fl : Bool) : Prop := (∀ p, p < 24 → c' p ≤ c p) ∧ (∀ a b s, EDG B a b s → c' b ≤ c a + s) ∧ (∀ h, Lip B h → (∀ p, p < 24 → h p ≤ c p) → ∀ p, p < 24 → h p ≤ c' p) ∧ (fl = true → ∃ p, p < 24 ∧ c' p < c p) ∧ (fl = false → ∀ p, p < 24 → c' p = c p)
def Stt (B : Nat → Int32) (G f : Nat → Nat) (k : Nat) (c : Nat → Nat) : Prop := (∀ p, p < 24 → f p ≤ c p) ∧ (∀ p, p < 24 → c p ≤ G p) ∧ ∀ p, p < 24 → Sk B G f k p → c p = f p
theorem Stt_0 {B : Nat → Int32} {G f : Nat → Nat} (hc : CLO B G f) : Stt B G f 0 G := ⟨hc.2.1, fun _ _ => Nat.le_refl _, fun _ _ h => Eq.symm h⟩
theorem Stt_s {B : Nat → Int32} {G f c c' : Nat → Nat} {k : Nat} {fl : Bool} (hc : CLO B G f) (h : Stt B G f k c) (t : Trn B c c' fl) : Stt B G f (k + 1) c' ∧ (fl = false → ∀ p, p < 24 → c' p = f p) := by
  obtain ⟨h1, h2, h3⟩ := h
  obtain ⟨t1, t2, t3, t4, t5⟩ := t
  have lo := t3 f hc.1 h1
  refine ⟨⟨lo, fun p hp => Nat.le_trans (t1 p hp) (h2 p hp), fun p hp hs => ?_⟩, fun e p hp => ?_⟩
  · have l := lo p hp
    rcases hs with hs | ⟨a, s, he, ha, e⟩
    · have := t1 p hp
      have := h3 p hp hs
      omega
    · have := t2 a p s he
      have := h3 a he.1 ha
      omega
  · have e5 := t5 e
    have hL : Lip B c := fun a b s he => by
      have := t2 a b s he
      rw [e5 b he.2.1] at this
      exact this
    have := hc.2.2 c hL h2 p hp
    have := h1 p hp
    have := e5 p hp
    omega
theorem Stt_all {B : Nat → Int32} {G f c : Nat → Nat} {k : Nat} (hc : CLO B G f) (hk : 23 ≤ k) (h : Stt B G f k c) : ∀ p, p < 24 → c p = f p := fun p hp => by
  have := Sk_up (Sk_all hc p hp) (k - 23)
  rw [show 23 + (k - 23) = k by omega] at this
  exact h.2.2 p hp this
theorem Trn_fix {B : Nat → Int32} {f c c' : Nat → Nat} {fl : Bool} (hL : Lip B f) (h : ∀ p, p < 24 → c p = f p) (t : Trn B c c' fl) : fl = false := by
  obtain ⟨t1, t2, t3, t4, t5⟩ := t
  cases fl
  · rfl
  · obtain ⟨p, hp, e⟩ := t4 rfl
    have := t3 f hL (fun p hp => by rw [h p hp]; exact Nat.le_refl _) p hp
    have := h p hp
    omega
/-- within a turn -/
def Iv (B : Nat → Int32) (c0 : Nat → Nat) (Done : Nat → Nat → Prop) (c : Nat → Nat) (fl : Bool) : Prop := (∀ p, p < 24 → c p ≤ c0 p) ∧ (∀ a b s, EDG B a b s → Done a b → c b ≤ c0 a + s) ∧ (∀ h, Lip B h → (∀ p, p < 24 → h p ≤ c0 p) → ∀ p, p < 24 → h p ≤ c p) ∧ (fl = true → ∃ p, p < 24 ∧ c p < c0 p) ∧ (fl = false → ∀ p, p < 24 → c p = c0 p)
def nup (c : Nat → Nat) (b v : Nat) : Nat → Nat := fun p => if p = b then v else c p
theorem nup_s {c : Nat → Nat} {b v : Nat} : nup c b v b = v := by simp [nup]
theorem nup_n {c : Nat → Nat} {b v p : Nat} (h : ¬ p = b) : nup c b v p = c p := by simp [nup, h]
theorem Iv_0 (B : Nat → Int32) (c : Nat → Nat) : Iv B c (fun _ _ => False) c false := ⟨fun _ _ => Nat.le_refl _, fun _ _ _ _ h => absurd h id, fun _ _ h => h, fun h => absurd h (by decide), fun _ _ _ => rfl⟩
theorem Iv_done {B : Nat → Int32} {c0 c : Nat → Nat} {D D' : Nat → Nat → Prop} {fl : Bool} (h : Iv B c0 D c fl) (hd : ∀ a b s, EDG B a b s → D' a b → D a b) : Iv B c0 D' c fl := ⟨h.1, fun a b s he hh => h.2.1 a b s he (hd a b s he hh), h.2.2⟩
theorem Iv_keep {B : Nat → Int32} {c0 c : Nat → Nat} {D : Nat → Nat → Prop} {fl : Bool} {a b s : Nat} (h : Iv B c0 D c fl) (he : EDG B a b s) (hle : c b ≤ c a + s) (hu : ∀ s', EDG B a b s' → s' = s) : Iv B c0 (fun a' b' => D a' b' ∨ (a' = a ∧ b' = b)) c fl := by
  refine ⟨h.1, fun a' b' s' he' hh => ?_, h.2.2⟩
  rcases hh with hh | ⟨rfl, rfl⟩
  · exact h.2.1 a' b' s' he' hh
  · have := hu s' he'
    have := h.1 a' he.1
    omega
theorem Iv_take {B : Nat → Int32} {c0 c : Nat → Nat} {D : Nat → Nat → Prop} {fl : Bool} {a b s : Nat} (h : Iv B c0 D c fl) (he : EDG B a b s) (hlt : c a + s < c b) (hu : ∀ s', EDG B a b s' → s' = s) : Iv B c0 (fun a' b' => D a' b' ∨ (a' = a ∧ b' = b)) (nup c b (c a + s)) true := by
  obtain ⟨h1, h2, h3, h4, h5⟩ := h
  have le : ∀ p, nup c b (c a + s) p ≤ c p := fun p => by
    by_cases e : p = b
    · subst e; rw [nup_s]; omega
    · rw [nup_n e]; exact Nat.le_refl _
  refine ⟨fun p hp => Nat.le_trans (le p) (h1 p hp), fun a' b' s' he' hh => ?_, fun g hL hg p hp => ?_, fun _ => ⟨b, he.2.1, ?_⟩, fun e => absurd e (by decide)⟩
  · rcases hh with hh | ⟨rfl, rfl⟩
    · exact Nat.le_trans (le b') (h2 a' b' s' he' hh)
    · have := hu s' he'
      have := h1 a' he.1
      rw [nup_s]; omega
  · by_cases e : p = b
    · subst e
      rw [nup_s]
      have := hL a p s he
      have := h3 g hL hg a he.1
      omega
    · rw [nup_n e]; exact h3 g hL hg p hp
  · rw [nup_s]
    have := h1 b he.2.1
    omega
theorem Iv_end {B : Nat → Int32} {c0 c : Nat → Nat} {D : Nat → Nat → Prop} {fl : Bool} (h : Iv B c0 D c fl) (hd : ∀ a b s, EDG B a b s → D a b) : Trn B c0 c fl := ⟨h.1, fun a b s he => h.2.1 a b s he (hd a b s he), h.2.2⟩
theorem EDG_uniq {B : Nat → Int32} {a b s s' : Nat} (h : EDG B a b s) (h' : EDG B a b s') : s' = s := by
  obtain ⟨-, -, h⟩ := h
  obtain ⟨-, -, h'⟩ := h'
  rcases h with (⟨e1, e2, e3, e4⟩ | ⟨e1, e3, e4⟩) | (⟨e1, e2, e3, e4⟩ | ⟨e1, e3, e4⟩) <;>
    rcases h' with (⟨g1, g2, g3, g4⟩ | ⟨g1, g3, g4⟩) | (⟨g1, g2, g3, g4⟩ | ⟨g1, g3, g4⟩) <;>
    first
    | (exfalso; omega)
    | (rw [e4, g4])

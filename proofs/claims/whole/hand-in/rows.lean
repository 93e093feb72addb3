section
/-! the numbers less one: -1 stands for none -/
def pl_m : Nat → Int32
  | 0 => -1
  | n + 1 => nI n

theorem pl_m_sub (n : Nat) : nI n - 1 = pl_m n := by
  cases n with
  | zero => decide +kernel
  | succ n => exact nI_pred n

theorem pl_m_add (n : Nat) : pl_m n + 1 = nI n := by
  cases n with
  | zero => decide +kernel
  | succ n => exact nI_1 n

theorem pl_m_none : ∀ n, n < 8 → (pl_m n = -1 ↔ n = 0) := by decide +kernel
theorem pl_m_is : ∀ n, n < 8 → ∀ t, t < 8 → (pl_m n = nI t ↔ n = t + 1) := by decide +kernel
theorem pl_m_inj : ∀ n, n < 8 → ∀ t, t < 8 → (pl_m n = pl_m t ↔ n = t) := by decide +kernel
theorem pl_m_neg : ∀ n, n < 8 → (pl_m n < 0 ↔ n = 0) := by decide +kernel
theorem pl_m_pos : ∀ n, n < 8 → (0 ≤ pl_m n ↔ ¬ n = 0) := by decide +kernel

/-! bits of a set of six -/
theorem pl_bit : ∀ m, m < 64 → ∀ h, h < 6 → ((nI m >>> (nI h &&& 31)) &&& 1 = 1 ↔ m.testBit h = true) := by decide +kernel
theorem pl_or : ∀ m, m < 64 → ∀ s, s < 6 → nI m ||| ((1 : Int32) <<< (nI s &&& 31)) = nI (m ||| 2 ^ s) := by decide +kernel
theorem pl_or_lt : ∀ m, m < 64 → ∀ s, s < 6 → (m ||| 2 ^ s) < 64 := by decide +kernel
theorem pl_or_bit (m s j : Nat) : (m ||| 2 ^ s).testBit j = true ↔ (m.testBit j = true ∨ s = j) := by
  rw [Nat.testBit_or, Nat.testBit_two_pow]
  simp

/-- m has just the bits of P below n -/
def pl_Bt (P : Nat → Prop) (n m : Nat) : Prop := m < 64 ∧ ∀ s, s < 6 → (m.testBit s = true ↔ (s < n ∧ P s))

theorem pl_Bt_0 (P : Nat → Prop) : pl_Bt P 0 0 := ⟨by decide, fun s _ => by simp⟩

theorem pl_Bt_on {P : Nat → Prop} {n m : Nat} (h : pl_Bt P n m) (hn : n < 6) (hp : P n) : pl_Bt P (n + 1) (m ||| 2 ^ n) := by
  refine ⟨pl_or_lt m h.1 n hn, fun s hs => ?_⟩
  rw [pl_or_bit, h.2 s hs]
  constructor
  · rintro (⟨h1, h2⟩ | h1)
    · exact ⟨by omega, h2⟩
    · subst h1; exact ⟨by omega, hp⟩
  · rintro ⟨h1, h2⟩
    by_cases e : n = s
    · exact Or.inr e
    · exact Or.inl ⟨by omega, h2⟩

theorem pl_Bt_off {P : Nat → Prop} {n m : Nat} (h : pl_Bt P n m) (hp : ¬ P n) : pl_Bt P (n + 1) m := by
  refine ⟨h.1, fun s hs => ?_⟩
  rw [h.2 s hs]
  constructor
  · rintro ⟨h1, h2⟩; exact ⟨by omega, h2⟩
  · rintro ⟨h1, h2⟩
    refine ⟨?_, h2⟩
    by_cases e : s = n
    · subst e; exact absurd h2 hp
    · omega

theorem pl_Bt_u {P : Nat → Prop} {n m m' : Nat} (h : pl_Bt P n m) (h' : pl_Bt P n m') : m = m' := by
  apply Nat.eq_of_testBit_eq
  intro i
  by_cases hi : i < 6
  · have e1 := h.2 i hi
    have e2 := h'.2 i hi
    exact Bool.eq_iff_iff.mpr (e1.trans e2.symm)
  · have hp : 2 ^ 6 ≤ 2 ^ i := Nat.pow_le_pow_right (by decide) (by omega)
    rw [Nat.testBit_lt_two_pow (Nat.lt_of_lt_of_le h.1 hp), Nat.testBit_lt_two_pow (Nat.lt_of_lt_of_le h'.1 hp)]

/-! the pigeonhole -/
theorem pl_pig : ∀ (n : Nat) (g : Nat → Nat), (∀ i, i ≤ n → g i < n) → ∃ a b, a < b ∧ b ≤ n ∧ g a = g b := by
  intro n
  induction n with
  | zero => intro g h; exact absurd (h 0 (Nat.le_refl 0)) (Nat.not_lt_zero _)
  | succ n ih =>
    intro g h
    by_cases hc : ∃ i, i ≤ n ∧ g i = g (n + 1)
    · obtain ⟨i, hi, e⟩ := hc
      exact ⟨i, n + 1, by omega, by omega, e⟩
    · have hne : ∀ i, i ≤ n → g i ≠ g (n + 1) := fun i hi e => hc ⟨i, hi, e⟩
      have hv := h (n + 1) (by omega)
      obtain ⟨a, b, hab, hb, e⟩ := ih (fun i => if g i = n then g (n + 1) else g i) (by
        intro i hi
        have h1 := h i (by omega)
        have h2 := hne i hi
        show (if g i = n then g (n + 1) else g i) < n
        split <;> omega)
      refine ⟨a, b, hab, by omega, ?_⟩
      have ha := hne a (by omega)
      have hb' := hne b hb
      have e' : (if g a = n then g (n + 1) else g a) = (if g b = n then g (n + 1) else g b) := e
      split at e' <;> split at e' <;> omega

/-! iterates of the step from a thread to the one that blocks it (0: none, x + 1: thread x) -/
def pl_it (G : Nat → Nat) : Nat → Nat → Nat
  | 0, x => x
  | i + 1, x => pl_it G i (G x)

theorem pl_it_add (G : Nat → Nat) (i : Nat) : ∀ j x, pl_it G (i + j) x = pl_it G i (pl_it G j x) := by
  intro j
  induction j with
  | zero => intro x; rfl
  | succ j ih => intro x; exact ih (G x)

theorem pl_it_s (G : Nat → Nat) (i x : Nat) : pl_it G (i + 1) x = G (pl_it G i x) := by
  rw [Nat.add_comm]; exact pl_it_add G 1 i x

def pl_ok (G : Nat → Nat) : Prop := G 0 = 0 ∧ ∀ x, x ≤ 6 → G x ≤ 6

theorem pl_it_0 {G : Nat → Nat} (h0 : G 0 = 0) : ∀ i, pl_it G i 0 = 0 := by
  intro i
  induction i with
  | zero => rfl
  | succ i ih => show pl_it G i (G 0) = 0; rw [h0]; exact ih

theorem pl_it_le {G : Nat → Nat} (hG : pl_ok G) : ∀ i x, x ≤ 6 → pl_it G i x ≤ 6 := by
  intro i
  induction i with
  | zero => intro x hx; exact hx
  | succ i ih => intro x hx; exact ih (G x) (hG.2 x hx)

theorem pl_short {G : Nat → Nat} (hG : pl_ok G) : ∀ i x y, x ≤ 6 → pl_it G i x = y + 1 → ∃ j, j < 6 ∧ pl_it G j x = y + 1 := by
  intro i
  induction i using Nat.strongRecOn with
  | ind i ih =>
    intro x y hx e
    by_cases hi : i < 6
    · exact ⟨i, hi, e⟩
    · have hnz : ∀ j, j ≤ i → pl_it G j x ≠ 0 := by
        intro j hj z
        have h1 := pl_it_add G (i - j) j x
        rw [Nat.sub_add_cancel hj, z, pl_it_0 hG.1, e] at h1
        omega
      obtain ⟨a, b, hab, hb, e2⟩ := pl_pig 6 (fun j => pl_it G j x - 1) (by
        intro j hj
        have h1 := pl_it_le hG j x hx
        have h2 := hnz j (by omega)
        show pl_it G j x - 1 < 6
        omega)
      have e3 : pl_it G a x = pl_it G b x := by
        have h1 := hnz a (by omega)
        have h2 := hnz b (by omega)
        have e2' : pl_it G a x - 1 = pl_it G b x - 1 := e2
        omega
      have e4 : pl_it G (i - b + a) x = y + 1 := by
        rw [pl_it_add, e3, ← pl_it_add, Nat.sub_add_cancel (by omega), e]
      exact ih (i - b + a) (by omega) x y hx e4

/-- thread s waits, directly or through others, for thread t -/
def pl_T (G : Nat → Nat) (s t : Nat) : Prop := ∃ i, pl_it G i (G (s + 1)) = t + 1

theorem pl_T_bd {G : Nat → Nat} (hG : pl_ok G) {s t : Nat} (hs : s < 6) (h : pl_T G s t) : ∃ i, i < 6 ∧ pl_it G i (G (s + 1)) = t + 1 := by
  obtain ⟨i, e⟩ := h
  exact pl_short hG i _ _ (hG.2 (s + 1) (by omega)) e

theorem pl_T_dir {G : Nat → Nat} {s t : Nat} (e : G (s + 1) = t + 1) : pl_T G s t := ⟨0, e⟩

theorem pl_T_step {G : Nat → Nat} {s h t : Nat} (e : G (s + 1) = h + 1) (H : pl_T G h t) : pl_T G s t := by
  obtain ⟨i, ei⟩ := H
  refine ⟨i + 1, ?_⟩
  show pl_it G i (G (G (s + 1))) = t + 1
  rw [e]; exact ei

theorem pl_T_last {G : Nat → Nat} {s t h : Nat} (H : pl_T G s t) (e : G (t + 1) = h + 1) : pl_T G s h := by
  obtain ⟨i, ei⟩ := H
  refine ⟨i + 1, ?_⟩
  rw [pl_it_s, ei, e]

/-! the greatest base of t and of those that wait for it -/
def pl_M2 (b : Nat → Nat) (T : Nat → Prop) (t n g : Nat) : Prop := b t ≤ g ∧ (∀ s, s < n → T s → b s ≤ g) ∧ (g = b t ∨ ∃ s, s < 6 ∧ T s ∧ g = b s)

theorem pl_M2_0 (b : Nat → Nat) (T : Nat → Prop) (t : Nat) : pl_M2 b T t 0 (b t) := ⟨Nat.le_refl _, fun s h => absurd h (Nat.not_lt_zero _), Or.inl rfl⟩

theorem pl_M2_on {b : Nat → Nat} {T : Nat → Prop} {t n g : Nat} (h : pl_M2 b T t n g) (hn : n < 6) (hb : g < b n) (hT : T n) : pl_M2 b T t (n + 1) (b n) := by
  obtain ⟨h1, h2, h3⟩ := h
  refine ⟨by omega, fun s hs hTs => ?_, Or.inr ⟨n, hn, hT, rfl⟩⟩
  by_cases e : s = n
  · subst e; exact Nat.le_refl _
  · have := h2 s (by omega) hTs; omega

theorem pl_M2_off {b : Nat → Nat} {T : Nat → Prop} {t n g : Nat} (h : pl_M2 b T t n g) (hb : b n ≤ g ∨ ¬ T n) : pl_M2 b T t (n + 1) g := by
  obtain ⟨h1, h2, h3⟩ := h
  refine ⟨h1, fun s hs hTs => ?_, h3⟩
  by_cases e : s = n
  · subst e
    rcases hb with hb | hb
    · exact hb
    · exact absurd hTs hb
  · exact h2 s (by omega) hTs

theorem pl_M2_u {b : Nat → Nat} {T : Nat → Prop} {t g g' : Nat} (h : pl_M2 b T t 6 g) (h' : pl_M2 b T t 6 g') : g = g' := by
  obtain ⟨a1, a2, a3⟩ := h
  obtain ⟨c1, c2, c3⟩ := h'
  have l1 : g ≤ g' := by
    rcases a3 with e | ⟨s, hs, hT, e⟩
    · omega
    · have := c2 s hs hT; omega
  have l2 : g' ≤ g := by
    rcases c3 with e | ⟨s, hs, hT, e⟩
    · omega
    · have := a2 s hs hT; omega
  omega

theorem pl_M2_ex (b : Nat → Nat) (T : Nat → Prop) (t : Nat) : ∀ n, n ≤ 6 → ∃ g, pl_M2 b T t n g := by
  intro n
  induction n with
  | zero => intro _; exact ⟨b t, pl_M2_0 b T t⟩
  | succ n ih =>
    intro hn
    obtain ⟨g, hg⟩ := ih (by omega)
    by_cases hb : g < b n ∧ T n
    · exact ⟨b n, pl_M2_on hg (by omega) hb.1 hb.2⟩
    · refine ⟨g, pl_M2_off hg ?_⟩
      by_cases h1 : g < b n
      · exact Or.inr fun h2 => hb ⟨h1, h2⟩
      · exact Or.inl (by omega)

theorem pl_M2_le {b : Nat → Nat} {T : Nat → Prop} {t m g : Nat} (ht : t < 6) (hb : ∀ s, s < 6 → b s ≤ 9) (h : pl_M2 b T t m g) : g ≤ 9 := by
  rcases h.2.2 with e | ⟨s, hs, _, e⟩
  · have := hb t ht; omega
  · have := hb s hs; omega

/-- U is the urgency -/
def pl_Ur (G b U : Nat → Nat) : Prop := ∀ t, pl_M2 b (fun s => pl_T G s t) t 6 (U t)

theorem pl_Ur_ex (G b : Nat → Nat) : ∃ U, pl_Ur G b U :=
  ⟨fun t => (pl_M2_ex b (fun s => pl_T G s t) t 6 (Nat.le_refl 6)).choose, fun t => (pl_M2_ex b (fun s => pl_T G s t) t 6 (Nat.le_refl 6)).choose_spec⟩

/-! the passes of behind -/
def pl_Sd (G : Nat → Nat) (t m : Nat) : Prop := ∀ s, s < 6 → m.testBit s = true → pl_T G s t
def pl_Cp (G : Nat → Nat) (t p j m : Nat) : Prop := ∀ s, s < j → (∃ i, i < p ∧ pl_it G i (G (s + 1)) = t + 1) → m.testBit s = true
def pl_B2 (G : Nat → Nat) (t p j m : Nat) : Prop := m < 64 ∧ pl_Sd G t m ∧ pl_Cp G t p 6 m ∧ pl_Cp G t (p + 1) j m

theorem pl_B2_00 (G : Nat → Nat) (t : Nat) : pl_B2 G t 0 0 0 := by
  refine ⟨by decide, fun s _ h => ?_, fun s _ h => ?_, fun s h => absurd h (Nat.not_lt_zero _)⟩
  · simp at h
  · obtain ⟨i, hi, _⟩ := h; exact absurd hi (Nat.not_lt_zero _)

theorem pl_B2_next {G : Nat → Nat} {t p m : Nat} (h : pl_B2 G t p 6 m) : pl_B2 G t (p + 1) 0 m :=
  ⟨h.1, h.2.1, h.2.2.2, fun s h => absurd h (Nat.not_lt_zero _)⟩

theorem pl_B2_on {G : Nat → Nat} {t p j m h : Nat} (H : pl_B2 G t p j m) (hj : j < 6) (e : G (j + 1) = h + 1) (hh : h < 6) (ho : h = t ∨ m.testBit h = true) : pl_B2 G t p (j + 1) (m ||| 2 ^ j) := by
  obtain ⟨h1, h2, h3, h4⟩ := H
  refine ⟨pl_or_lt m h1 j hj, fun s hs hb => ?_, fun s hs hi => ?_, fun s hs hi => ?_⟩
  · rcases (pl_or_bit m j s).mp hb with hb | hb
    · exact h2 s hs hb
    · subst hb
      rcases ho with ho | ho
      · subst ho; exact pl_T_dir e
      · exact pl_T_step e (h2 h hh ho)
  · exact (pl_or_bit m j s).mpr (Or.inl (h3 s hs hi))
  · by_cases es : j = s
    · exact (pl_or_bit m j s).mpr (Or.inr es)
    · exact (pl_or_bit m j s).mpr (Or.inl (h4 s (by omega) hi))

theorem pl_B2_off {G : Nat → Nat} (hG : pl_ok G) {t p j m : Nat} (H : pl_B2 G t p j m) (hj : j < 6) (ho : ∀ h, G (j + 1) = h + 1 → ¬ (h = t ∨ m.testBit h = true)) : pl_B2 G t p (j + 1) m := by
  obtain ⟨h1, h2, h3, h4⟩ := H
  refine ⟨h1, h2, h3, fun s hs hi => ?_⟩
  by_cases es : s = j
  · subst es
    exfalso
    obtain ⟨i, hi, e⟩ := hi
    cases i with
    | zero => exact ho t e (Or.inl rfl)
    | succ i =>
      have e' : pl_it G i (G (G (s + 1))) = t + 1 := e
      cases hg : G (s + 1) with
      | zero =>
        rw [hg, hG.1, pl_it_0 hG.1] at e'
        omega
      | succ h =>
        rw [hg] at e'
        have hle := hG.2 (s + 1) (by omega)
        exact ho h hg (Or.inr (h3 h (by omega) ⟨i, by omega, e'⟩))
  · exact h4 s (by omega) hi

theorem pl_B2_end {G : Nat → Nat} (hG : pl_ok G) {t m : Nat} (H : pl_B2 G t 6 0 m) : pl_Bt (fun s => pl_T G s t) 6 m :=
  ⟨H.1, fun s hs => ⟨fun hb => ⟨hs, H.2.1 s hs hb⟩, fun hT => H.2.2.1 s hs (pl_T_bd hG hs hT.2)⟩⟩

/-! the passes of lend -/
def pl_Ls (G b q : Nat → Nat) : Prop := ∀ t, t < 6 → b t ≤ q t ∧ (q t = b t ∨ ∃ s, s < 6 ∧ pl_T G s t ∧ q t = b s)
def pl_L1 (G b : Nat → Nat) (p : Nat) (q : Nat → Nat) : Prop := pl_Ls G b q ∧ ∀ s, s < 6 → ∀ t, t < 6 → ∀ i, i ≤ p → pl_it G i (s + 1) = t + 1 → b s ≤ q t
def pl_L2 (G b : Nat → Nat) (p j : Nat) (q0 q : Nat → Nat) : Prop := pl_L1 G b p q0 ∧ pl_Ls G b q ∧ (∀ t, t < 6 → q0 t ≤ q t) ∧ ∀ s, s < j → ∀ h, G (s + 1) = h + 1 → q0 s ≤ q h

theorem pl_L1_0 (G b : Nat → Nat) : pl_L1 G b 0 b := by
  refine ⟨fun t _ => ⟨Nat.le_refl _, Or.inl rfl⟩, fun s _ t _ i hi e => ?_⟩
  have hi0 : i = 0 := by omega
  subst hi0
  have e' : s + 1 = t + 1 := e
  have e2 : s = t := by omega
  subst e2
  exact Nat.le_refl _

theorem pl_L2_0 {G b q : Nat → Nat} {p : Nat} (h : pl_L1 G b p q) : pl_L2 G b p 0 q q :=
  ⟨h, h.1, fun _ _ => Nat.le_refl _, fun s h => absurd h (Nat.not_lt_zero _)⟩

theorem pl_L2_on {G b q0 q : Nat → Nat} (hG : pl_ok G) {p j h : Nat} (H : pl_L2 G b p j q0 q) (hj : j < 6) (e : G (j + 1) = h + 1) (hq : q h < q j) : pl_L2 G b p (j + 1) q0 (fun x => if x = h then q j else q x) := by
  obtain ⟨h1, h2, h3, h4⟩ := H
  have hle := hG.2 (j + 1) (by omega)
  refine ⟨h1, fun t ht => ?_, fun t ht => ?_, fun s hs h' e' => ?_⟩
  · by_cases et : t = h
    · subst et
      have g1 := (h2 t ht).1
      show b t ≤ (if t = t then q j else q t) ∧ ((if t = t then q j else q t) = b t ∨ ∃ s, s < 6 ∧ pl_T G s t ∧ (if t = t then q j else q t) = b s)
      rw [if_pos rfl]
      refine ⟨by omega, Or.inr ?_⟩
      rcases (h2 j hj).2 with g2 | ⟨s, hs, hT, g2⟩
      · exact ⟨j, hj, pl_T_dir e, g2⟩
      · exact ⟨s, hs, pl_T_last hT e, g2⟩
    · show b t ≤ (if t = h then q j else q t) ∧ ((if t = h then q j else q t) = b t ∨ ∃ s, s < 6 ∧ pl_T G s t ∧ (if t = h then q j else q t) = b s)
      rw [if_neg et]
      exact h2 t ht
  · show q0 t ≤ (if t = h then q j else q t)
    have g := h3 t ht
    by_cases et : t = h
    · subst et; rw [if_pos rfl]; omega
    · rw [if_neg et]; exact g
  · show q0 s ≤ (if h' = h then q j else q h')
    by_cases es : s = j
    · subst es
      rw [e] at e'
      have e3 : h' = h := by omega
      rw [if_pos e3]
      exact h3 s hj
    · have g := h4 s (by omega) h' e'
      by_cases et : h' = h
      · subst et; rw [if_pos rfl]; omega
      · rw [if_neg et]; exact g

theorem pl_L2_off {G b q0 q : Nat → Nat} {p j : Nat} (H : pl_L2 G b p j q0 q) (hj : j < 6) (ho : ∀ h, G (j + 1) = h + 1 → q j ≤ q h) : pl_L2 G b p (j + 1) q0 q := by
  obtain ⟨h1, h2, h3, h4⟩ := H
  refine ⟨h1, h2, h3, fun s hs h' e' => ?_⟩
  by_cases es : s = j
  · subst es
    exact Nat.le_trans (h3 s hj) (ho h' e')
  · exact h4 s (by omega) h' e'

theorem pl_L2_end {G b q0 q : Nat → Nat} (hG : pl_ok G) {p : Nat} (H : pl_L2 G b p 6 q0 q) : pl_L1 G b (p + 1) q := by
  obtain ⟨h1, h2, h3, h4⟩ := H
  refine ⟨h2, fun s hs t ht i hi e => ?_⟩
  cases i with
  | zero => exact Nat.le_trans (h1.2 s hs t ht 0 (by omega) e) (h3 t ht)
  | succ i =>
    rw [pl_it_s] at e
    cases hz : pl_it G i (s + 1) with
    | zero => rw [hz, hG.1] at e; omega
    | succ r =>
      have hle := pl_it_le hG i (s + 1) (by omega)
      rw [hz] at e
      exact Nat.le_trans (h1.2 s hs r (by omega) i (by omega) hz) (h4 r (by omega) t e)

theorem pl_L1_end {G b q U : Nat → Nat} (hG : pl_ok G) (hU : pl_Ur G b U) (H : pl_L1 G b 6 q) : ∀ t, t < 6 → q t = U t := by
  intro t ht
  refine pl_M2_u (b := b) (T := fun s => pl_T G s t) (t := t) ⟨(H.1 t ht).1, fun s hs hT => ?_, (H.1 t ht).2⟩ (hU t)
  obtain ⟨i, hi, e⟩ := pl_T_bd hG hs hT
  exact H.2 s hs t ht (i + 1) (by omega) e
end
section
theorem pk_us {f : Nat → Int32} {k : Nat} {x : Int32} : upd f k x k = x := if_pos rfl
theorem pk_un {f : Nat → Int32} {k j : Nat} {x : Int32} (h : j ≠ k) : upd f k x j = f j := if_neg h
theorem pk_ix (x : Int32) {n : Nat} (hn : n < 2 ^ 31) : x < 0 ∨ nI n ≤ x ∨ ∃ j : Nat, j < n ∧ x = nI j := by
  by_cases h : x < 0
  · exact Or.inl h
  · obtain ⟨j, hj, rfl⟩ := nI_of h
    by_cases h2 : j < n
    · exact Or.inr (Or.inr ⟨j, h2, rfl⟩)
    · exact Or.inr (Or.inl (nI_le (by omega) hj))
theorem pk_le {x y : Int32} {A B : Prop} (a b : Nat) (f : a ≤ b → A) (g : b < a → B) (hx : x = nI a := by rfl) (hy : y = nI b := by rfl) (ha : a < 2 ^ 31 := by omega) (hb : b < 2 ^ 31 := by omega) : (x ≤ y → A) ∧ (¬ x ≤ y → B) := by
  subst hx hy
  rw [nI_leI ha hb]
  exact ⟨f, fun z => g (by omega)⟩
theorem pk_lt {x y : Int32} {A B : Prop} (a b : Nat) (f : a < b → A) (g : b ≤ a → B) (hx : x = nI a := by rfl) (hy : y = nI b := by rfl) (ha : a < 2 ^ 31 := by omega) (hb : b < 2 ^ 31 := by omega) : (x < y → A) ∧ (¬ x < y → B) := by
  subst hx hy
  rw [nI_ltI ha hb]
  exact ⟨f, fun z => g (by omega)⟩
theorem pk_eq {x y : Int32} {A B : Prop} (a b : Nat) (f : a = b → A) (g : a ≠ b → B) (hx : x = nI a := by rfl) (hy : y = nI b := by rfl) (ha : a < 2 ^ 31 := by omega) (hb : b < 2 ^ 31 := by omega) : (x = y → A) ∧ (¬ x = y → B) := by
  subst hx hy
  rw [nI_eq ha hb]
  exact ⟨f, g⟩
theorem pk_in {x : Int32} (n N : Nat) (h : n < N) (hx : x = nI n := by rfl) (hN : N < 2 ^ 31 := by omega) : vp_in x N := by
  subst hx
  exact vp_in_nI h hN
theorem pk_cl {x : Int32} (n : Nat) (hx : x = nI n := by rfl) (h : n < 2 ^ 31 := by omega) : x.toNatClampNeg = n := by
  subst hx
  exact nI_clamp h
theorem ek_if {c d A B : Prop} (e : c ↔ d) (f : d → A) (g : ¬ d → B) : (c → A) ∧ (¬ c → B) :=
  ⟨fun z => f (e.mp z), fun z => g (fun y => z (e.mpr y))⟩
theorem ek_v {α : Sort _} {P : α → Prop} {a b : α} (e : a = b) (h : P b) : P a := e ▸ h
end
section
/-! the pure picture: b bases, w what a thread waits for (0, or lock + 1), o owners (0, or thread + 1), n wait numbers -/
def pl_up (f : Nat → Nat) (k v : Nat) : Nat → Nat := fun x => if x = k then v else f x

theorem pl_up_s (f : Nat → Nat) (k v : Nat) : pl_up f k v k = v := if_pos rfl
theorem pl_up_n (f : Nat → Nat) {k v x : Nat} (h : x ≠ k) : pl_up f k v x = f x := if_neg h

def pl_ar (N : Nat) (g : Nat → Int32) (f : Nat → Nat) (a : Nat → Int32) : Prop := ∀ t, t < N → a t = g (f t)

theorem pl_ar_up {N : Nat} {g : Nat → Int32} {f : Nat → Nat} {a : Nat → Int32} (h : pl_ar N g f a) (k v : Nat) {x : Int32} (e : x = g v) : pl_ar N g (pl_up f k v) (upd a k x) := by
  intro t ht
  show (if t = k then x else a t) = g (if t = k then v else f t)
  by_cases c : t = k
  · rw [if_pos c, if_pos c]; exact e
  · rw [if_neg c, if_neg c]; exact h t ht

def pl_Bd (b w o : Nat → Nat) : Prop := (∀ t, t < 6 → b t ≤ 9) ∧ (∀ t, t < 6 → w t ≤ 5) ∧ (∀ l, l < 5 → o l ≤ 6)

theorem pl_up_le {f : Nat → Nat} {N m k v : Nat} (h : ∀ t, t < N → f t ≤ m) (hv : v ≤ m) : ∀ t, t < N → pl_up f k v t ≤ m := by
  intro t ht
  show (if t = k then v else f t) ≤ m
  by_cases c : t = k
  · rw [if_pos c]; exact hv
  · rw [if_neg c]; exact h t ht

def pl_G (w o : Nat → Nat) : Nat → Nat
  | 0 => 0
  | j + 1 => if w j = 0 then 0 else o (w j - 1)

theorem pl_G_0 {w o : Nat → Nat} {j : Nat} (h : w j = 0) : pl_G w o (j + 1) = 0 := if_pos h
theorem pl_G_n {w o : Nat → Nat} {j : Nat} (h : ¬ w j = 0) : pl_G w o (j + 1) = o (w j - 1) := if_neg h

theorem pl_G_ok {b w o : Nat → Nat} (h : pl_Bd b w o) : pl_ok (pl_G w o) := by
  refine ⟨rfl, fun x hx => ?_⟩
  cases x with
  | zero => exact Nat.zero_le _
  | succ j =>
    have hw := h.2.1 j (by omega)
    by_cases e : w j = 0
    · rw [pl_G_0 e]; exact Nat.zero_le _
    · rw [pl_G_n e]; exact h.2.2 (w j - 1) (by omega)

theorem pl_U_le {b w o U : Nat → Nat} (h : pl_Bd b w o) (hU : pl_Ur (pl_G w o) b U) {t : Nat} (ht : t < 6) : U t ≤ 9 := pl_M2_le ht h.1 (hU t)

/-- the next holder of lock l, among the threads below the count: 0, or thread + 1 -/
def pl_nb (w U n : Nat → Nat) (l : Nat) : Nat → Nat
  | 0 => 0
  | t + 1 => if w t = l + 1 ∧ (pl_nb w U n l t = 0 ∨ U (pl_nb w U n l t - 1) < U t ∨ (U t = U (pl_nb w U n l t - 1) ∧ n t < n (pl_nb w U n l t - 1))) then t + 1 else pl_nb w U n l t

theorem pl_nb_r (w U n : Nat → Nat) (l : Nat) : ∀ t, pl_nb w U n l t ≤ t ∧ (¬ pl_nb w U n l t = 0 → w (pl_nb w U n l t - 1) = l + 1) := by
  intro t
  induction t with
  | zero => exact ⟨Nat.le_refl 0, fun h => absurd rfl h⟩
  | succ t ih =>
    unfold pl_nb
    split
    · rename_i h
      exact ⟨Nat.le_refl _, fun _ => h.1⟩
    · exact ⟨by omega, ih.2⟩

theorem pl_nb_on {w U n : Nat → Nat} {l t r : Nat} (e : pl_nb w U n l t = r) (h : w t = l + 1) (h2 : r = 0 ∨ U (r - 1) < U t ∨ (U t = U (r - 1) ∧ n t < n (r - 1))) : pl_nb w U n l (t + 1) = t + 1 := by
  subst e
  exact if_pos ⟨h, h2⟩

theorem pl_nb_off {w U n : Nat → Nat} {l t r : Nat} (e : pl_nb w U n l t = r) (h : ¬ (w t = l + 1 ∧ (r = 0 ∨ U (r - 1) < U t ∨ (U t = U (r - 1) ∧ n t < n (r - 1))))) : pl_nb w U n l (t + 1) = r := by
  subst e
  exact if_neg h

/-- the running thread, among those below the count: 0, or thread + 1 -/
def pl_ru (w U : Nat → Nat) : Nat → Nat
  | 0 => 0
  | t + 1 => if w t = 0 ∧ (pl_ru w U t = 0 ∨ U (pl_ru w U t - 1) < U t) then t + 1 else pl_ru w U t

theorem pl_ru_r (w U : Nat → Nat) : ∀ t, pl_ru w U t ≤ t := by
  intro t
  induction t with
  | zero => exact Nat.le_refl 0
  | succ t ih =>
    unfold pl_ru
    split <;> omega

theorem pl_ru_on {w U : Nat → Nat} {t r : Nat} (e : pl_ru w U t = r) (h : w t = 0) (h2 : r = 0 ∨ U (r - 1) < U t) : pl_ru w U (t + 1) = t + 1 := by
  subst e
  exact if_pos ⟨h, h2⟩

theorem pl_ru_off {w U : Nat → Nat} {t r : Nat} (e : pl_ru w U t = r) (h : ¬ (w t = 0 ∧ (r = 0 ∨ U (r - 1) < U t))) : pl_ru w U (t + 1) = r := by
  subst e
  exact if_neg h

/-- how many threads below the count wait for lock l -/
def pl_ct (w : Nat → Nat) (l : Nat) : Nat → Nat
  | 0 => 0
  | t + 1 => if w t = l + 1 then pl_ct w l t + 1 else pl_ct w l t

theorem pl_ct_on {w : Nat → Nat} {l t r : Nat} (e : pl_ct w l t = r) (h : w t = l + 1) : pl_ct w l (t + 1) = r + 1 := by
  subst e
  exact if_pos h

theorem pl_ct_off {w : Nat → Nat} {l t r : Nat} (e : pl_ct w l t = r) (h : ¬ w t = l + 1) : pl_ct w l (t + 1) = r := by
  subst e
  exact if_neg h

theorem pl_nb_0 {w U n : Nat → Nat} {l t : Nat} (e : pl_nb w U n l t = 0) (h : w t = l + 1) : pl_nb w U n l (t + 1) = t + 1 := pl_nb_on e h (Or.inl rfl)
theorem pl_nb_y {w U n : Nat → Nat} {l t q : Nat} (e : pl_nb w U n l t = q + 1) (h : w t = l + 1) (h2 : U q < U t ∨ (U t = U q ∧ n t < n q)) : pl_nb w U n l (t + 1) = t + 1 := pl_nb_on e h (Or.inr h2)
theorem pl_nb_w {w U n : Nat → Nat} {l t r : Nat} (e : pl_nb w U n l t = r) (h : ¬ w t = l + 1) : pl_nb w U n l (t + 1) = r := pl_nb_off e fun z => h z.1
theorem pl_nb_n {w U n : Nat → Nat} {l t q : Nat} (e : pl_nb w U n l t = q + 1) (h2 : ¬ (U q < U t ∨ (U t = U q ∧ n t < n q))) : pl_nb w U n l (t + 1) = q + 1 := by
  refine pl_nb_off e fun z => ?_
  rcases z.2 with z | z
  · exact absurd z (Nat.succ_ne_zero q)
  · exact h2 z

theorem pl_ru_0 {w U : Nat → Nat} {t : Nat} (e : pl_ru w U t = 0) (h : w t = 0) : pl_ru w U (t + 1) = t + 1 := pl_ru_on e h (Or.inl rfl)
theorem pl_ru_y {w U : Nat → Nat} {t q : Nat} (e : pl_ru w U t = q + 1) (h : w t = 0) (h2 : U q < U t) : pl_ru w U (t + 1) = t + 1 := pl_ru_on e h (Or.inr h2)
theorem pl_ru_w {w U : Nat → Nat} {t r : Nat} (e : pl_ru w U t = r) (h : ¬ w t = 0) : pl_ru w U (t + 1) = r := pl_ru_off e fun z => h z.1
theorem pl_ru_n {w U : Nat → Nat} {t q : Nat} (e : pl_ru w U t = q + 1) (h2 : ¬ U q < U t) : pl_ru w U (t + 1) = q + 1 := by
  refine pl_ru_off e fun z => ?_
  rcases z.2 with z | z
  · exact absurd z (Nat.succ_ne_zero q)
  · exact h2 z
end
section
/-! the class: its small methods, its search, its urgency -/
theorem pl_nn {n : Nat} {x : Int32} (hn : n < 2 ^ 31) (h : nI n ≤ x) : ¬ x < 0 := Int32.not_lt.mpr (Int32.le_trans (nI_pos' hn) h)
theorem pl_c {t : Nat} (h : t < 6) : (nI t).toNatClampNeg = t := nI_clamp (by omega)
theorem pl_i6 {t : Nat} (h : t < 6) : vp_in (nI t) 6 := vp_in_nI h (by decide)
theorem pl_i5 {t : Nat} (h : t < 5) : vp_in (nI t) 5 := vp_in_nI h (by decide)

theorem pl_xT_y {post : Int32 → Prop} {t : Nat} (ht : t < 6) (h : post 1) : wpX_isThread post (nI t) :=
  br_f (nI_pos (by omega)) (br_f (nI_ge (b := 6) ht (by decide)) h)
theorem pl_xT_n {post : Int32 → Prop} {x : Int32} (hx : ∀ t, t < 6 → ¬ x = nI t) (h : post 0) : wpX_isThread post x := by
  rcases pk_ix x (n := 6) (by decide) with h1 | h1 | ⟨t, ht, e⟩
  · exact br_t h1 h
  · exact br_f (pl_nn (by decide) h1) (br_t h1 h)
  · exact absurd e (hx t ht)
theorem pl_xL_y {post : Int32 → Prop} {t : Nat} (ht : t < 5) (h : post 1) : wpX_isLock post (nI t) :=
  br_f (nI_pos (by omega)) (br_f (nI_ge (b := 5) ht (by decide)) h)
theorem pl_xL_n {post : Int32 → Prop} {x : Int32} (hx : ∀ t, t < 5 → ¬ x = nI t) (h : post 0) : wpX_isLock post x := by
  rcases pk_ix x (n := 5) (by decide) with h1 | h1 | ⟨t, ht, e⟩
  · exact br_t h1 h
  · exact br_f (pl_nn (by decide) h1) (br_t h1 h)
  · exact absurd e (hx t ht)

def pl_HX (b w o n : Nat → Nat) (ba ho aw wn : Nat → Int32) : Prop := pl_ar 6 nI b ba ∧ pl_ar 5 pl_m o ho ∧ pl_ar 6 pl_m w aw ∧ pl_ar 6 nI n wn

section
variable {f : Int32} {ba ho aw wn : Nat → Int32} {b w o n U : Nat → Nat} {post : Int32 → Prop} {s t l : Nat}

theorem pl_xW (H : pl_HX b w o n ba ho aw wn) (B : pl_Bd b w o) (ht : t < 6) (h0 : w t = 0 → post 0) (h1 : ¬ w t = 0 → post 1) : wpX_isWaiting post (f, ba, ho, aw, wn) (nI t) := by
  have hw := B.2.1 t ht
  refine ⟨pl_i6 ht, ?_⟩
  rw [pl_c ht, H.2.2.1 t ht]
  exact ek_if (pl_m_none (w t) (by omega)) h0 h1

theorem pl_xB (H : pl_HX b w o n ba ho aw wn) (B : pl_Bd b w o) (ht : t < 6) (h : post (pl_m (pl_G w o (t + 1)))) : wpX_blockerOf post (f, ba, ho, aw, wn) (nI t) := by
  have hw := B.2.1 t ht
  refine ⟨pl_i6 ht, fun x e => ?_⟩
  rw [pl_c ht, H.2.2.1 t ht] at e
  by_cases c : w t = 0
  · rw [pl_G_0 c] at h
    rw [c] at e
    exact br_t e h
  · obtain ⟨l, hl⟩ : ∃ l, w t = l + 1 := ⟨w t - 1, by omega⟩
    rw [pl_G_n c, hl, Nat.add_sub_cancel] at h
    rw [hl] at e
    have hl5 : l < 5 := by omega
    have e' : x = nI l := e
    subst e'
    refine br_f (fun z => ?_) ⟨pl_i5 hl5, ?_⟩
    · have := (pl_m_none (l + 1) (by omega)).mp z
      omega
    · rw [pl_c (by omega : l < 6), H.2.1 l hl5]
      exact h

theorem pl_xWTl (H : pl_HX b w o n ba ho aw wn) (B : pl_Bd b w o) (ht : t < 6) : ∀ d x i, i + d = 6 → x ≤ 6 → ((∃ j, j < d ∧ pl_it (pl_G w o) j x = t + 1) → post 1) → ((¬ ∃ j, j < d ∧ pl_it (pl_G w o) j x = t + 1) → post 0) → wX_waitsThrough_9 post (nI t) f ba ho aw wn (d + 1) (pl_m x) (nI i) := by
  intro d
  induction d with
  | zero =>
    intro x i hi hx h1 h0
    exact br_t (nI_le (a := 6) (by omega) (by omega)) (h0 fun ⟨j, hj, _⟩ => absurd hj (Nat.not_lt_zero _))
  | succ d ih =>
    intro x i hi hx h1 h0
    refine br_f (nI_ge (b := 6) (by omega) (by decide)) ?_
    refine ek_if (pl_m_none x (by omega)) (fun z => ?_) (fun z => ?_)
    · refine h0 fun ⟨j, _, e⟩ => ?_
      rw [z, pl_it_0 rfl] at e
      omega
    · refine ek_if (pl_m_is x (by omega) t (by omega)) (fun z2 => ?_) (fun z2 => ?_)
      · exact h1 ⟨0, by omega, z2⟩
      · obtain ⟨s, rfl⟩ : ∃ s, x = s + 1 := ⟨x - 1, by omega⟩
        refine pl_xB H B (t := s) (by omega) ?_
        intro y ey
        rw [ey, nI_1]
        refine ih (pl_G w o (s + 1)) (i + 1) (by omega) ((pl_G_ok B).2 _ hx) (fun ⟨j, hj, e⟩ => h1 ⟨j + 1, by omega, e⟩) (fun hn => h0 fun ⟨j, hj, e⟩ => ?_)
        cases j with
        | zero => exact z2 e
        | succ j => exact hn ⟨j, by omega, e⟩

theorem pl_xWT (H : pl_HX b w o n ba ho aw wn) (B : pl_Bd b w o) (hs : s < 6) (ht : t < 6) (h1 : pl_T (pl_G w o) s t → post 1) (h0 : ¬ pl_T (pl_G w o) s t → post 0) : wpX_waitsThrough post (f, ba, ho, aw, wn) (nI s) (nI t) := by
  unfold wpX_waitsThrough
  dsimp only
  refine pl_xB H B hs ?_
  exact ⟨7, pl_xWTl H B ht 6 _ 0 rfl ((pl_G_ok B).2 _ (by omega)) (fun ⟨j, _, e⟩ => h1 ⟨j, e⟩) (fun hn => h0 fun hT => hn (pl_T_bd (pl_G_ok B) hs hT))⟩

theorem pl_xUl (H : pl_HX b w o n ba ho aw wn) (B : pl_Bd b w o) (hU : pl_Ur (pl_G w o) b U) (ht : t < 6) (h : post (nI (U t))) : ∀ d s g, s + d = 6 → pl_M2 b (fun s => pl_T (pl_G w o) s t) t s g → wX_urgencyOf_9 post (nI t) f ba ho aw wn (d + 1) (nI g) (nI s) := by
  intro d
  induction d with
  | zero =>
    intro s g hs M
    have hs6 : s = 6 := by omega
    subst hs6
    have eg : g = U t := pl_M2_u M (hU t)
    subst eg
    exact br_t (nI_le (a := 6) (by omega) (by omega)) h
  | succ d ih =>
    intro s g hs M
    have hs6 : s < 6 := by omega
    have hg := pl_M2_le ht B.1 M
    have hb := B.1 s hs6
    refine br_f (nI_ge (b := 6) hs6 (by decide)) ⟨pl_i6 hs6, ?_⟩
    rw [pl_c hs6, H.1 s hs6]
    refine ek_if (nI_leI (by omega) (by omega)) (fun c => ?_) (fun c => ?_)
    · intro y ey
      rw [ey, nI_1]
      exact ih _ _ (by omega) (pl_M2_off M (Or.inl c))
    · refine pl_xWT H B hs6 ht (fun hT => ?_) (fun hT => ?_)
      · refine br_f (by decide) ⟨pl_i6 hs6, fun y ey z ez => ?_⟩
        rw [ey, ez, nI_1]
        exact ih _ _ (by omega) (pl_M2_on M hs6 (by omega) hT)
      · refine br_t rfl fun z ez => ?_
        rw [ez, nI_1]
        exact ih _ _ (by omega) (pl_M2_off M (Or.inr hT))

theorem pl_xU (H : pl_HX b w o n ba ho aw wn) (B : pl_Bd b w o) (hU : pl_Ur (pl_G w o) b U) (ht : t < 6) (h : post (nI (U t))) : wpX_urgencyOf post (f, ba, ho, aw, wn) (nI t) := by
  refine ⟨pl_i6 ht, fun x e => ?_⟩
  rw [pl_c ht, H.1 t ht] at e
  subst e
  exact ⟨7, pl_xUl H B hU ht h 6 0 (b t) rfl (pl_M2_0 b _ t)⟩
end
end
section
/-! the class: the loops over threads and locks -/
section
variable {f : Int32} {ba ho aw wn : Nat → Int32} {b w o n U : Nat → Nat} {post : Int32 → Prop} {t l : Nat}

theorem pl_xMl (H : pl_HX b w o n ba ho aw wn) (B : pl_Bd b w o) (hU : pl_Ur (pl_G w o) b U) (hn : ∀ t, t < 6 → n t < 2 ^ 30) (hl : l < 5) (h : post (pl_m (pl_nb w U n l 6))) : ∀ d t r y, t + d = 6 → pl_nb w U n l t = r → (∀ q, r = q + 1 → y = nI (U q)) → wX_mostUrgentWaiter_7 post (nI l) f ba ho aw wn (d + 1) (pl_m r) y (nI t) := by
  intro d
  induction d with
  | zero =>
    intro t r y ht e _
    have ht6 : t = 6 := by omega
    subst ht6
    subst e
    exact br_t (nI_le (a := 6) (by omega) (by omega)) h
  | succ d ih =>
    intro t r y ht e hy
    have ht6 : t < 6 := by omega
    have hr := (pl_nb_r w U n l t).1
    have hw := B.2.1 t ht6
    have hUt := pl_U_le B hU ht6
    have hnt := hn t ht6
    rw [e] at hr
    refine br_f (nI_ge (b := 6) ht6 (by decide)) ⟨pl_i6 ht6, ?_⟩
    rw [pl_c ht6, H.2.2.1 t ht6]
    refine ek_if (pl_m_is (w t) (by omega) l (by omega)) (fun c => ?_) (fun c => ?_)
    · refine pl_xU H B hU ht6 ?_
      refine ek_if (pl_m_none r (by omega)) (fun z => ?_) (fun z => ?_)
      · intro x ex
        rw [ex, nI_1]
        subst z
        exact ih (t + 1) (t + 1) _ (by omega) (pl_nb_0 e c) (fun q hq => by cases hq; rfl)
      · obtain ⟨q, rfl⟩ : ∃ q, r = q + 1 := ⟨r - 1, by omega⟩
        have hq6 : q < 6 := by omega
        have hUq := pl_U_le B hU hq6
        have hnq := hn q hq6
        have ey := hy q rfl
        subst ey
        refine ek_if (nI_ltI (by omega) (by omega)) (fun c2 => ?_) (fun c2 => ?_)
        · intro x ex
          rw [ex, nI_1]
          exact ih (t + 1) (t + 1) _ (by omega) (pl_nb_y e c (Or.inl c2)) (fun q hq => by cases hq; rfl)
        · refine ek_if (nI_eq (by omega) (by omega)) (fun c3 => ?_) (fun c3 => ?_)
          · refine ⟨pl_i6 ht6, pl_i6 hq6, ?_⟩
            have cq : (pl_m (q + 1)).toNatClampNeg = q := pl_c hq6
            rw [cq, H.2.2.2 t ht6, H.2.2.2 q hq6]
            refine ek_if (nI_leI (by omega) (by omega)) (fun c4 => ?_) (fun c4 => ?_)
            · intro x ex
              rw [ex, nI_1]
              exact ih (t + 1) (q + 1) _ (by omega) (pl_nb_n e (by omega)) (fun q' hq => by cases hq; rfl)
            · intro x ex
              rw [ex, nI_1]
              exact ih (t + 1) (t + 1) _ (by omega) (pl_nb_y e c (Or.inr ⟨c3, by omega⟩)) (fun q hq => by cases hq; rfl)
          · intro x ex
            rw [ex, nI_1]
            exact ih (t + 1) (q + 1) _ (by omega) (pl_nb_n e (by omega)) (fun q' hq => by cases hq; rfl)
    · intro x ex
      rw [ex, nI_1]
      exact ih (t + 1) r y (by omega) (pl_nb_w e c) hy

theorem pl_xM (H : pl_HX b w o n ba ho aw wn) (B : pl_Bd b w o) (hU : pl_Ur (pl_G w o) b U) (hn : ∀ t, t < 6 → n t < 2 ^ 30) (hl : l < 5) (h : post (pl_m (pl_nb w U n l 6))) : wpX_mostUrgentWaiter post (f, ba, ho, aw, wn) (nI l) :=
  ⟨7, pl_xMl H B hU hn hl h 6 0 0 (-1) rfl rfl (fun _ hq => nomatch hq)⟩

theorem pl_xCl (H : pl_HX b w o n ba ho aw wn) (B : pl_Bd b w o) (hl : l < 5) (h : post (nI (pl_ct w l 6))) : ∀ d t r, t + d = 6 → pl_ct w l t = r → wX_waiting_13 post (nI l) f ba ho aw wn (d + 1) (nI r) (nI t) := by
  intro d
  induction d with
  | zero =>
    intro t r ht e
    have ht6 : t = 6 := by omega
    subst ht6
    subst e
    exact br_t (nI_le (a := 6) (by omega) (by omega)) h
  | succ d ih =>
    intro t r ht e
    have ht6 : t < 6 := by omega
    have hw := B.2.1 t ht6
    refine br_f (nI_ge (b := 6) ht6 (by decide)) ⟨pl_i6 ht6, ?_⟩
    rw [pl_c ht6, H.2.2.1 t ht6]
    refine ek_if (pl_m_is (w t) (by omega) l (by omega)) (fun c => ?_) (fun c => ?_)
    · intro x ex y ey
      rw [ex, ey, nI_1, nI_1]
      exact ih (t + 1) (r + 1) (by omega) (pl_ct_on e c)
    · intro y ey
      rw [ey, nI_1]
      exact ih (t + 1) r (by omega) (pl_ct_off e c)

theorem pl_xHl (H : pl_HX b w o n ba ho aw wn) (B : pl_Bd b w o) (ht : t < 6) (h : ∀ m, pl_Bt (fun l => o l = t + 1) 5 m → post (nI m)) : ∀ d l m, l + d = 5 → pl_Bt (fun l => o l = t + 1) l m → wX_held_13 post (nI t) f ba ho aw wn (d + 1) (nI m) (nI l) := by
  intro d
  induction d with
  | zero =>
    intro l m hl M
    have hl5 : l = 5 := by omega
    subst hl5
    exact br_t (nI_le (a := 5) (by omega) (by omega)) (h m M)
  | succ d ih =>
    intro l m hl M
    have hl5 : l < 5 := by omega
    have ho' := B.2.2 l hl5
    refine br_f (nI_ge (b := 5) hl5 (by decide)) ⟨pl_i5 hl5, ?_⟩
    rw [pl_c (by omega : l < 6), H.2.1 l hl5]
    refine ek_if (pl_m_is (o l) (by omega) t (by omega)) (fun c => ?_) (fun c => ?_)
    · intro x ex y ey
      rw [ex, ey, nI_1, pl_or m M.1 l (by omega)]
      exact ih (l + 1) _ (by omega) (pl_Bt_on M (by omega) c)
    · intro y ey
      rw [ey, nI_1]
      exact ih (l + 1) m (by omega) (pl_Bt_off M c)

theorem pl_xRl (H : pl_HX b w o n ba ho aw wn) (B : pl_Bd b w o) (hU : pl_Ur (pl_G w o) b U) (h : post (pl_m (pl_ru w U 6))) : ∀ d t r y, t + d = 6 → pl_ru w U t = r → (r = 0 → y = -1) → (∀ q, r = q + 1 → y = nI (U q)) → wX_running_6 post f ba ho aw wn (d + 1) (pl_m r) y (nI t) := by
  intro d
  induction d with
  | zero =>
    intro t r y ht e _ _
    have ht6 : t = 6 := by omega
    subst ht6
    subst e
    exact br_t (nI_le (a := 6) (by omega) (by omega)) h
  | succ d ih =>
    intro t r y ht e hy0 hy
    have ht6 : t < 6 := by omega
    have hr := pl_ru_r w U t
    have hUt := pl_U_le B hU ht6
    rw [e] at hr
    refine br_f (nI_ge (b := 6) ht6 (by decide)) ?_
    refine pl_xU H B hU ht6 ?_
    refine pl_xW H B ht6 (fun c => ?_) (fun c => ?_)
    · refine br_t rfl ?_
      by_cases z : r = 0
      · have ey := hy0 z
        subst ey
        subst z
        refine br_f ?_ fun x ex => ?_
        · have h0 : (0 : Int32) ≤ nI (U t) := nI_pos' (by omega)
          rw [Int32.le_iff_toInt_le] at h0 ⊢
          have e1 : (0 : Int32).toInt = 0 := by decide
          have e2 : (-1 : Int32).toInt = -1 := by decide
          omega
        · rw [ex, nI_1]
          exact ih (t + 1) (t + 1) _ (by omega) (pl_ru_0 e c) (fun z => nomatch z) (fun q hq => by cases hq; rfl)
      · obtain ⟨q, rfl⟩ : ∃ q, r = q + 1 := ⟨r - 1, by omega⟩
        have hq6 : q < 6 := by omega
        have hUq := pl_U_le B hU hq6
        have ey := hy q rfl
        subst ey
        refine ek_if (nI_leI (by omega) (by omega)) (fun c2 => ?_) (fun c2 => ?_)
        · intro x ex
          rw [ex, nI_1]
          exact ih (t + 1) (q + 1) _ (by omega) (pl_ru_n e (by omega)) (fun z => nomatch z) (fun q' hq => by cases hq; rfl)
        · intro x ex
          rw [ex, nI_1]
          exact ih (t + 1) (t + 1) _ (by omega) (pl_ru_y e c (by omega)) (fun z => nomatch z) (fun q' hq => by cases hq; rfl)
    · refine br_f (by decide) fun x ex => ?_
      rw [ex, nI_1]
      exact ih (t + 1) r y (by omega) (pl_ru_w e c) hy0 hy

theorem pl_xOl (H : pl_HX b w o n ba ho aw wn) (B : pl_Bd b w o) (ht : t < 6) (h : ∀ m, pl_Bt (fun s => pl_T (pl_G w o) s t) 6 m → post (nI m)) : ∀ d s m, s + d = 6 → pl_Bt (fun s => pl_T (pl_G w o) s t) s m → wX_waitingOn_13 post (nI t) f ba ho aw wn (d + 1) (nI m) (nI s) := by
  intro d
  induction d with
  | zero =>
    intro s m hs M
    have hs6 : s = 6 := by omega
    subst hs6
    exact br_t (nI_le (a := 6) (by omega) (by omega)) (h m M)
  | succ d ih =>
    intro s m hs M
    have hs6 : s < 6 := by omega
    refine br_f (nI_ge (b := 6) hs6 (by decide)) ?_
    refine pl_xWT H B hs6 ht (fun c => ?_) (fun c => ?_)
    · refine br_f (by decide) fun x ex y ey => ?_
      rw [ex, ey, nI_1, pl_or m M.1 s hs6]
      exact ih (s + 1) _ (by omega) (pl_Bt_on M hs6 c)
    · refine br_t rfl fun y ey => ?_
      rw [ey, nI_1]
      exact ih (s + 1) m (by omega) (pl_Bt_off M c)

theorem pl_xFl (H : pl_HX b w o n ba ho aw wn) (B : pl_Bd b w o) (hU : pl_Ur (pl_G w o) b U) (h : ∀ m, pl_Bt (fun t => b t < U t) 6 m → post (nI m)) : ∀ d t m, t + d = 6 → pl_Bt (fun t => b t < U t) t m → wX_lifted_4 post f ba ho aw wn (d + 1) (nI m) (nI t) := by
  intro d
  induction d with
  | zero =>
    intro t m ht M
    have ht6 : t = 6 := by omega
    subst ht6
    exact br_t (nI_le (a := 6) (by omega) (by omega)) (h m M)
  | succ d ih =>
    intro t m ht M
    have ht6 : t < 6 := by omega
    have hUt := pl_U_le B hU ht6
    have hb := B.1 t ht6
    refine br_f (nI_ge (b := 6) ht6 (by decide)) ?_
    refine pl_xU H B hU ht6 ⟨pl_i6 ht6, ?_⟩
    rw [pl_c ht6, H.1 t ht6]
    refine ek_if (nI_leI (by omega) (by omega)) (fun c => ?_) (fun c => ?_)
    · intro y ey
      rw [ey, nI_1]
      exact ih (t + 1) m (by omega) (pl_Bt_off M (Nat.not_lt.mpr c))
    · intro x ex y ey
      rw [ex, ey, nI_1, pl_or m M.1 t ht6]
      exact ih (t + 1) _ (by omega) (pl_Bt_on M ht6 (Nat.lt_of_not_le c))
end
end
section
/-! the reference: its small methods, lend, behind -/
def pl_HY (b w o n : Nat → Nat) (bs hd wa si : Nat → Int32) : Prop := pl_ar 6 nI b bs ∧ pl_ar 5 nI o hd ∧ pl_ar 6 nI w wa ∧ ∀ t, t < 6 → ¬ w t = 0 → si t = nI (n t + 1)

theorem pl_gt {x : Int32} {m : Nat} (hm : m < 2 ^ 30) (h : nI (m + 1) ≤ x) : nI m < x := by
  rw [Int32.le_iff_toInt_le, nI_toInt (by omega)] at h
  rw [Int32.lt_iff_toInt_lt, nI_toInt (by omega)]
  omega

section
variable {g : Int32} {bs hd wa si ur : Nat → Int32} {b w o n U : Nat → Nat} {post : Int32 → Prop} {s t l : Nat}

theorem pl_yT_y (ht : t < 6) (h : post 1) : wpY_thread post (g, bs, hd, wa, si, ur) (nI t) :=
  br_f (nI_pos (by omega)) (br_f (nI_nlt (a := 5) (by omega) (by decide)) h)
theorem pl_yT_n {x : Int32} (hx : ∀ t, t < 6 → ¬ x = nI t) (h : post 0) : wpY_thread post (g, bs, hd, wa, si, ur) x := by
  rcases pk_ix x (n := 6) (by decide) with h1 | h1 | ⟨t, ht, e⟩
  · exact br_t h1 h
  · exact br_f (pl_nn (by decide) h1) (br_t (pl_gt (m := 5) (by decide) h1) h)
  · exact absurd e (hx t ht)
theorem pl_yL_y (ht : t < 5) (h : post 1) : wpY_lock post (g, bs, hd, wa, si, ur) (nI t) :=
  br_f (nI_pos (by omega)) (br_f (nI_nlt (a := 4) (by omega) (by decide)) h)
theorem pl_yL_n {x : Int32} (hx : ∀ t, t < 5 → ¬ x = nI t) (h : post 0) : wpY_lock post (g, bs, hd, wa, si, ur) x := by
  rcases pk_ix x (n := 5) (by decide) with h1 | h1 | ⟨t, ht, e⟩
  · exact br_t h1 h
  · exact br_f (pl_nn (by decide) h1) (br_t (pl_gt (m := 4) (by decide) h1) h)
  · exact absurd e (hx t ht)

theorem pl_n0 {x : Nat} (h : x < 2 ^ 31) : nI x ≤ 0 ↔ x = 0 := by
  have e := nI_leI (a := x) (b := 0) h (by decide)
  exact e.trans (by omega)

theorem pl_yB {K : Int32 → Prop} (H : pl_HY b w o n bs hd wa si) (B : pl_Bd b w o) (ht : t < 6) (h : K (pl_m (pl_G w o (t + 1)))) : ((wa (nI t).toNatClampNeg) ≤ 0 → K (-1)) ∧ (¬ (wa (nI t).toNatClampNeg) ≤ 0 → (vp_in (nI t) 6 ∧ (vp_in ((wa (nI t).toNatClampNeg) - 1) 5 ∧ K ((hd ((wa (nI t).toNatClampNeg) - 1).toNatClampNeg) - 1)))) := by
  have hw := B.2.1 t ht
  rw [pl_c ht, H.2.2.1 t ht]
  refine ek_if (pl_n0 (by omega)) (fun c => ?_) (fun c => ?_)
  · rw [pl_G_0 c] at h
    exact h
  · obtain ⟨l, hl⟩ : ∃ l, w t = l + 1 := ⟨w t - 1, by omega⟩
    have hl5 : l < 5 := by omega
    rw [pl_G_n c, hl, Nat.add_sub_cancel] at h
    rw [hl, nI_pred]
    refine ⟨pl_i6 ht, pl_i5 hl5, ?_⟩
    rw [pl_c (by omega : l < 6), H.2.1 l hl5, pl_m_sub]
    exact h

/-! lend -/
theorem pl_Ls_le {G q : Nat → Nat} (hb : ∀ s, s < 6 → b s ≤ 9) (h : pl_Ls G b q) (ht : t < 6) : q t ≤ 9 := by
  rcases (h t ht).2 with e | ⟨s, hs, _, e⟩
  · have := hb t ht; omega
  · have := hb s hs; omega

theorem pl_yLi {postS : SY → Prop} {J : Int32 → (Nat → Int32) → (Nat → Int32) → (Nat → Int32) → (Nat → Int32) → (Nat → Int32) → Prop} {x1 : Int32} {p : Nat} {q0 : Nat → Nat} (H : pl_HY b w o n bs hd wa si) (B : pl_Bd b w o) (hJ : ∀ (q : Nat → Nat) (ur : Nat → Int32), pl_L2 (pl_G w o) b p 6 q0 q → pl_ar 6 nI q ur → J (x1 + 1) bs hd wa si ur) : ∀ d j (q : Nat → Nat) (ur : Nat → Int32), j + d = 6 → pl_L2 (pl_G w o) b p j q0 q → pl_ar 6 nI q ur → wY_lend_36 postS J x1 g (d + 1) (nI j) bs hd wa si ur := by
  intro d
  induction d with
  | zero =>
    intro j q ur hj L A
    have hj6 : j = 6 := by omega
    subst hj6
    refine br_t (nI_le (a := 6) (by omega) (by omega)) fun x ex => ?_
    rw [ex]
    exact hJ q ur L A
  | succ d ih =>
    intro j q ur hj L A
    have hj6 : j < 6 := by omega
    have hG := (pl_G_ok B).2 (j + 1) (by omega)
    have hqj := pl_Ls_le B.1 L.2.1 hj6
    refine br_f (nI_ge (b := 6) hj6 (by decide)) ⟨pl_i6 hj6, ?_⟩
    refine pl_yB (K := fun z => wY_lend_70 postS J (wY_lend_36 postS J x1 g (d + 1)) x1 (nI j) z g bs hd wa si ur) H B hj6 ?_
    cases hx : pl_G w o (j + 1) with
    | zero =>
      refine br_t (by decide) fun x ex => ?_
      rw [ex, nI_1]
      refine ih (j + 1) q ur (by omega) (pl_L2_off L hj6 fun h e => ?_) A
      rw [hx] at e
      exact nomatch e
    | succ h =>
      have hh : h < 6 := by omega
      have hqh := pl_Ls_le B.1 L.2.1 hh
      show wY_lend_70 postS J (wY_lend_36 postS J x1 g (d + 1)) x1 (nI j) (nI h) g bs hd wa si ur
      refine br_f (nI_pos (by omega)) ⟨pl_i6 hj6, pl_i6 hh, ?_⟩
      rw [pl_c hj6, pl_c hh, A j hj6, A h hh]
      refine ek_if (nI_leI (by omega) (by omega)) (fun c => ?_) (fun c => ?_)
      · intro x ex
        rw [ex, nI_1]
        refine ih (j + 1) q ur (by omega) (pl_L2_off L hj6 fun h' e => ?_) A
        rw [hx] at e
        have e2 : h = h' := by omega
        subst e2
        exact c
      · refine ⟨pl_i6 hj6, pl_i6 hh, fun a ea x ex => ?_⟩
        rw [ex, ea, nI_1]
        exact ih (j + 1) (pl_up q h (q j)) _ (by omega) (pl_L2_on (pl_G_ok B) L hj6 hx (by omega)) (pl_ar_up A h (q j) rfl)

theorem pl_yLo {postS : SY → Prop} (H : pl_HY b w o n bs hd wa si) (B : pl_Bd b w o) (hU : pl_Ur (pl_G w o) b U) (h : ∀ ur, pl_ar 6 nI U ur → postS (g, bs, hd, wa, si, ur)) : ∀ d p (q : Nat → Nat) (ur : Nat → Int32), p + d = 6 → pl_L1 (pl_G w o) b p q → pl_ar 6 nI q ur → wY_lend_28 postS g (d + 1) (nI p) bs hd wa si ur := by
  intro d
  induction d with
  | zero =>
    intro p q ur hp L A
    have hp6 : p = 6 := by omega
    subst hp6
    refine br_t (nI_le (a := 6) (by omega) (by omega)) (h ur fun t ht => ?_)
    rw [A t ht, pl_L1_end (pl_G_ok B) hU L t ht]
  | succ d ih =>
    intro p q ur hp L A
    have hp6 : p < 6 := by omega
    refine br_f (nI_ge (b := 6) hp6 (by decide)) ⟨7, ?_⟩
    refine pl_yLi (p := p) (q0 := q) H B (fun q' ur' L' A' => ?_) 6 0 q ur rfl (pl_L2_0 L) A
    rw [nI_1]
    exact ih (p + 1) q' ur' (by omega) (pl_L2_end (pl_G_ok B) L') A'

theorem pl_yLb {postS : SY → Prop} (H : pl_HY b w o n bs hd wa si) (B : pl_Bd b w o) (hU : pl_Ur (pl_G w o) b U) (h : ∀ ur, pl_ar 6 nI U ur → postS (g, bs, hd, wa, si, ur)) : ∀ d t (ur : Nat → Int32), t + d = 6 → pl_ar t nI b ur → wY_lend_2 postS g (d + 1) (nI t) bs hd wa si ur := by
  intro d
  induction d with
  | zero =>
    intro t ur ht A
    have ht6 : t = 6 := by omega
    subst ht6
    exact br_t (nI_le (a := 6) (by omega) (by omega)) ⟨7, pl_yLo H B hU h 6 0 b ur rfl (pl_L1_0 _ b) A⟩
  | succ d ih =>
    intro t ur ht A
    have ht6 : t < 6 := by omega
    refine br_f (nI_ge (b := 6) ht6 (by decide)) ⟨pl_i6 ht6, pl_i6 ht6, fun a ea x ex => ?_⟩
    rw [ex, ea, nI_1, pl_c ht6, H.1 t ht6]
    refine ih (t + 1) _ (by omega) fun s hs => ?_
    by_cases c : s = t
    · subst c; exact pk_us
    · rw [pk_un c]; exact A s (by omega)

theorem pl_yL {postS : SY → Prop} (H : pl_HY b w o n bs hd wa si) (B : pl_Bd b w o) (hU : pl_Ur (pl_G w o) b U) (h : ∀ ur, pl_ar 6 nI U ur → postS (g, bs, hd, wa, si, ur)) : wpY_lend postS (g, bs, hd, wa, si, ur) :=
  ⟨7, pl_yLb H B hU h 6 0 ur rfl fun _ h => absurd h (Nat.not_lt_zero _)⟩

/-! behind -/
theorem pl_yHi {J : Int32 → Int32 → Prop} {x3 : Int32} {p : Nat} (H : pl_HY b w o n bs hd wa si) (B : pl_Bd b w o) (ht : t < 6) (hJ : ∀ m, pl_B2 (pl_G w o) t p 6 m → J (nI m) (x3 + 1)) : ∀ d j m, j + d = 6 → pl_B2 (pl_G w o) t p j m → wY_behind_13 post J (nI t) x3 g bs hd wa si ur (d + 1) (nI m) (nI j) := by
  intro d
  induction d with
  | zero =>
    intro j m hj M
    have hj6 : j = 6 := by omega
    subst hj6
    refine br_t (nI_le (a := 6) (by omega) (by omega)) fun x ex => ?_
    rw [ex]
    exact hJ m M
  | succ d ih =>
    intro j m hj M
    have hj6 : j < 6 := by omega
    have hG := (pl_G_ok B).2 (j + 1) (by omega)
    have hon : ∀ h, pl_G w o (j + 1) = h + 1 → (h = t ∨ m.testBit h = true) → wY_behind_73 post J (wY_behind_13 post J (nI t) x3 g bs hd wa si ur (d + 1)) (nI t) (nI m) x3 (nI j) g bs hd wa si ur := by
      intro h e ho
      refine br_f (by decide) fun x ex y ey => ?_
      rw [ex, ey, nI_1, pl_or m M.1 j hj6]
      exact ih (j + 1) _ (by omega) (pl_B2_on M hj6 e (by omega) ho)
    have hoff : (∀ h, pl_G w o (j + 1) = h + 1 → ¬ (h = t ∨ m.testBit h = true)) → wY_behind_77 post J (wY_behind_13 post J (nI t) x3 g bs hd wa si ur (d + 1)) (nI t) (nI m) x3 (nI j) g bs hd wa si ur := by
      intro ho
      refine br_t rfl fun y ey => ?_
      rw [ey, nI_1]
      exact ih (j + 1) m (by omega) (pl_B2_off (pl_G_ok B) M hj6 ho)
    refine br_f (nI_ge (b := 6) hj6 (by decide)) ⟨pl_i6 hj6, ?_⟩
    refine pl_yB (K := fun z => wY_behind_50 post J (wY_behind_13 post J (nI t) x3 g bs hd wa si ur (d + 1)) (nI t) (nI m) x3 (nI j) z g bs hd wa si ur) H B hj6 ?_
    cases hx : pl_G w o (j + 1) with
    | zero =>
      refine br_t (by decide) (hoff fun h e => ?_)
      rw [hx] at e
      exact nomatch e
    | succ h =>
      have hh : h < 6 := by omega
      show wY_behind_50 post J (wY_behind_13 post J (nI t) x3 g bs hd wa si ur (d + 1)) (nI t) (nI m) x3 (nI j) (nI h) g bs hd wa si ur
      refine br_f (nI_pos (by omega)) ?_
      refine ek_if (nI_eq (by omega) (by omega)) (fun c => ?_) (fun c => ?_)
      · exact hon h hx (Or.inl c)
      · refine ek_if (pl_bit m M.1 h hh) (fun c2 => ?_) (fun c2 => ?_)
        · exact hon h hx (Or.inr c2)
        · refine hoff fun h' e => ?_
          rw [hx] at e
          have e2 : h = h' := by omega
          subst e2
          exact fun z => z.elim c c2

theorem pl_yHo (H : pl_HY b w o n bs hd wa si) (B : pl_Bd b w o) (ht : t < 6) (h : ∀ m, pl_Bt (fun s => pl_T (pl_G w o) s t) 6 m → post (nI m)) : ∀ d p m, p + d = 6 → pl_B2 (pl_G w o) t p 0 m → wY_behind_4 post (nI t) g bs hd wa si ur (d + 1) (nI m) (nI p) := by
  intro d
  induction d with
  | zero =>
    intro p m hp M
    have hp6 : p = 6 := by omega
    subst hp6
    exact br_t (nI_le (a := 6) (by omega) (by omega)) (h m (pl_B2_end (pl_G_ok B) M))
  | succ d ih =>
    intro p m hp M
    have hp6 : p < 6 := by omega
    refine br_f (nI_ge (b := 6) hp6 (by decide)) ⟨7, ?_⟩
    refine pl_yHi (p := p) H B ht (fun m' M' => ?_) 6 0 m rfl M
    rw [nI_1]
    exact ih (p + 1) m' (by omega) (pl_B2_next M')

theorem pl_yH (H : pl_HY b w o n bs hd wa si) (B : pl_Bd b w o) (ht : t < 6) (h : ∀ m, pl_Bt (fun s => pl_T (pl_G w o) s t) 6 m → post (nI m)) : wpY_behind post (g, bs, hd, wa, si, ur) (nI t) :=
  ⟨7, pl_yHo H B ht h 6 0 0 rfl (pl_B2_00 _ t)⟩
end
end
section
/-! the reference: the loops over threads and locks -/
section
variable {g : Int32} {bs hd wa si ur : Nat → Int32} {b w o n U : Nat → Nat} {post : Int32 → Prop} {postS : Int32 → SY → Prop} {t l : Nat}

theorem pl_yNl (H : pl_HY b w o n bs hd wa si) (B : pl_Bd b w o) (hU : pl_Ur (pl_G w o) b U) (hn : ∀ t, t < 6 → n t < 2 ^ 30) (A : pl_ar 6 nI U ur) (hl : l < 5) (h : postS (pl_m (pl_nb w U n l 6)) (g, bs, hd, wa, si, ur)) : ∀ d t r, t + d = 6 → pl_nb w U n l t = r → wY_nextFor_8 postS (nI l) g bs hd wa si ur (d + 1) (pl_m r) (nI t) := by
  intro d
  induction d with
  | zero =>
    intro t r ht e
    have ht6 : t = 6 := by omega
    subst ht6
    subst e
    exact br_t (nI_le (a := 6) (by omega) (by omega)) h
  | succ d ih =>
    intro t r ht e
    have ht6 : t < 6 := by omega
    have hr := (pl_nb_r w U n l t).1
    have hrw := (pl_nb_r w U n l t).2
    have hw := B.2.1 t ht6
    have hUt := pl_U_le B hU ht6
    have hnt := hn t ht6
    rw [e] at hr hrw
    have hon : pl_nb w U n l (t + 1) = t + 1 → wY_nextFor_83 postS (wY_nextFor_8 postS (nI l) g bs hd wa si ur (d + 1)) (nI l) (pl_m r) (nI t) g bs hd wa si ur := by
      intro e2
      refine br_f (by decide) fun x ex => ?_
      rw [ex, nI_1]
      exact ih (t + 1) (t + 1) (by omega) e2
    have hoff : pl_nb w U n l (t + 1) = r → wY_nextFor_87 postS (wY_nextFor_8 postS (nI l) g bs hd wa si ur (d + 1)) (nI l) (pl_m r) (nI t) g bs hd wa si ur := by
      intro e2
      refine br_t rfl fun x ex => ?_
      rw [ex, nI_1]
      exact ih (t + 1) r (by omega) e2
    refine br_f (nI_ge (b := 6) ht6 (by decide)) ?_
    refine pl_yL_y hl ?_
    refine br_f (by decide) ⟨pl_i6 ht6, ?_⟩
    rw [pl_c ht6, H.2.2.1 t ht6, nI_1 l]
    refine ek_if (nI_eq (by omega) (by omega)) (fun c => ?_) (fun c => ?_)
    · refine ek_if (pl_m_neg r (by omega)) (fun z => ?_) (fun z => ?_)
      · subst z
        exact hon (pl_nb_0 e c)
      · obtain ⟨q, rfl⟩ : ∃ q, r = q + 1 := ⟨r - 1, by omega⟩
        have hq6 : q < 6 := by omega
        have hUq := pl_U_le B hU hq6
        have hnq := hn q hq6
        have hwq : w q = l + 1 := hrw z
        have cq : (pl_m (q + 1)).toNatClampNeg = q := pl_c hq6
        refine ⟨pl_i6 ht6, pl_i6 hq6, ?_⟩
        rw [cq, A t ht6, A q hq6]
        refine ek_if (nI_ltI (by omega) (by omega)) (fun c2 => ?_) (fun c2 => ?_)
        · exact hon (pl_nb_y e c (Or.inl c2))
        · refine ⟨pl_i6 ht6, pl_i6 hq6, ?_⟩
          refine ek_if (nI_eq (by omega) (by omega)) (fun c3 => ?_) (fun c3 => ?_)
          · refine ⟨pl_i6 ht6, pl_i6 hq6, ?_⟩
            rw [H.2.2.2 t ht6 (by omega), H.2.2.2 q hq6 (by omega)]
            refine ek_if (nI_leI (by omega) (by omega)) (fun c4 => ?_) (fun c4 => ?_)
            · exact hoff (pl_nb_n e (by omega))
            · exact hon (pl_nb_y e c (Or.inr ⟨c3, by omega⟩))
          · exact hoff (pl_nb_n e (by omega))
    · intro x ex
      rw [ex, nI_1]
      exact ih (t + 1) r (by omega) (pl_nb_w e c)

theorem pl_yN (H : pl_HY b w o n bs hd wa si) (B : pl_Bd b w o) (hU : pl_Ur (pl_G w o) b U) (hn : ∀ t, t < 6 → n t < 2 ^ 30) (hl : l < 5) (h : ∀ ur, postS (pl_m (pl_nb w U n l 6)) (g, bs, hd, wa, si, ur)) : wpY_nextFor postS (g, bs, hd, wa, si, ur) (nI l) := by
  unfold wpY_nextFor
  dsimp only
  refine pl_yL H B hU fun ur' A => ?_
  exact ⟨7, pl_yNl H B hU hn A hl (h ur') 6 0 0 rfl rfl⟩

theorem pl_yN_n {x : Int32} (H : pl_HY b w o n bs hd wa si) (B : pl_Bd b w o) (hx : ∀ t, t < 5 → ¬ x = nI t) (h : ∀ ur, postS (-1) (g, bs, hd, wa, si, ur)) : wpY_nextFor postS (g, bs, hd, wa, si, ur) x := by
  obtain ⟨U, hU⟩ := pl_Ur_ex (pl_G w o) b
  unfold wpY_nextFor
  dsimp only
  refine pl_yL H B hU fun ur' A => ?_
  refine ⟨1, br_f (by decide) ?_⟩
  refine pl_yL_n hx ?_
  exact br_t rfl (h ur')

theorem pl_yCl (H : pl_HY b w o n bs hd wa si) (B : pl_Bd b w o) (hl : l < 5) (h : post (nI (pl_ct w l 6))) : ∀ d t r, t + d = 6 → pl_ct w l t = r → wY_waiting_4 post (nI l) g bs hd wa si ur (d + 1) (nI r) (nI t) := by
  intro d
  induction d with
  | zero =>
    intro t r ht e
    have ht6 : t = 6 := by omega
    subst ht6
    subst e
    exact br_t (nI_le (a := 6) (by omega) (by omega)) h
  | succ d ih =>
    intro t r ht e
    have ht6 : t < 6 := by omega
    have hw := B.2.1 t ht6
    refine br_f (nI_ge (b := 6) ht6 (by decide)) ?_
    refine pl_yL_y hl ?_
    refine br_f (by decide) ⟨pl_i6 ht6, ?_⟩
    rw [pl_c ht6, H.2.2.1 t ht6, nI_1 l]
    refine ek_if (nI_eq (by omega) (by omega)) (fun c => ?_) (fun c => ?_)
    · intro x ex y ey
      rw [ex, ey, nI_1, nI_1]
      exact ih (t + 1) (r + 1) (by omega) (pl_ct_on e c)
    · intro y ey
      rw [ey, nI_1]
      exact ih (t + 1) r (by omega) (pl_ct_off e c)

theorem pl_yKl (H : pl_HY b w o n bs hd wa si) (B : pl_Bd b w o) (ht : t < 6) (h : ∀ m, pl_Bt (fun l => o l = t + 1) 5 m → post (nI m)) : ∀ d l m, l + d = 5 → pl_Bt (fun l => o l = t + 1) l m → wY_held_4 post (nI t) g bs hd wa si ur (d + 1) (nI m) (nI l) := by
  intro d
  induction d with
  | zero =>
    intro l m hl M
    have hl5 : l = 5 := by omega
    subst hl5
    exact br_t (nI_le (a := 5) (by omega) (by omega)) (h m M)
  | succ d ih =>
    intro l m hl M
    have hl5 : l < 5 := by omega
    have ho' := B.2.2 l hl5
    refine br_f (nI_ge (b := 5) hl5 (by decide)) ?_
    refine pl_yT_y ht ?_
    refine br_f (by decide) ⟨pl_i5 hl5, ?_⟩
    rw [pl_c (by omega : l < 6), H.2.1 l hl5, nI_1 t]
    refine ek_if (nI_eq (by omega) (by omega)) (fun c => ?_) (fun c => ?_)
    · intro x ex y ey
      rw [ex, ey, nI_1, pl_or m M.1 l (by omega)]
      exact ih (l + 1) _ (by omega) (pl_Bt_on M (by omega) c)
    · intro y ey
      rw [ey, nI_1]
      exact ih (l + 1) m (by omega) (pl_Bt_off M c)

theorem pl_yRl (H : pl_HY b w o n bs hd wa si) (B : pl_Bd b w o) (hU : pl_Ur (pl_G w o) b U) (A : pl_ar 6 nI U ur) (h : postS (pl_m (pl_ru w U 6)) (g, bs, hd, wa, si, ur)) : ∀ d t r, t + d = 6 → pl_ru w U t = r → wY_running_8 postS g bs hd wa si ur (d + 1) (pl_m r) (nI t) := by
  intro d
  induction d with
  | zero =>
    intro t r ht e
    have ht6 : t = 6 := by omega
    subst ht6
    subst e
    exact br_t (nI_le (a := 6) (by omega) (by omega)) h
  | succ d ih =>
    intro t r ht e
    have ht6 : t < 6 := by omega
    have hr := pl_ru_r w U t
    have hw := B.2.1 t ht6
    have hUt := pl_U_le B hU ht6
    rw [e] at hr
    refine br_f (nI_ge (b := 6) ht6 (by decide)) ⟨pl_i6 ht6, ?_⟩
    rw [pl_c ht6, H.2.2.1 t ht6]
    refine ek_if (nI_eq (b := 0) (by omega) (by decide)) (fun c => ?_) (fun c => ?_)
    · refine ek_if (pl_m_neg r (by omega)) (fun z => ?_) (fun z => ?_)
      · subst z
        intro x ex
        rw [ex, nI_1]
        exact ih (t + 1) (t + 1) (by omega) (pl_ru_0 e c)
      · obtain ⟨q, rfl⟩ : ∃ q, r = q + 1 := ⟨r - 1, by omega⟩
        have hq6 : q < 6 := by omega
        have hUq := pl_U_le B hU hq6
        have cq : (pl_m (q + 1)).toNatClampNeg = q := pl_c hq6
        refine ⟨pl_i6 ht6, pl_i6 hq6, ?_⟩
        rw [cq, A t ht6, A q hq6]
        refine ek_if (nI_leI (by omega) (by omega)) (fun c2 => ?_) (fun c2 => ?_)
        · intro x ex
          rw [ex, nI_1]
          exact ih (t + 1) (q + 1) (by omega) (pl_ru_n e (by omega))
        · intro x ex
          rw [ex, nI_1]
          exact ih (t + 1) (t + 1) (by omega) (pl_ru_y e c (by omega))
    · intro x ex
      rw [ex, nI_1]
      exact ih (t + 1) r (by omega) (pl_ru_w e c)

theorem pl_yFl (H : pl_HY b w o n bs hd wa si) (B : pl_Bd b w o) (hU : pl_Ur (pl_G w o) b U) (A : pl_ar 6 nI U ur) (h : ∀ m, pl_Bt (fun t => b t < U t) 6 m → postS (nI m) (g, bs, hd, wa, si, ur)) : ∀ d t m, t + d = 6 → pl_Bt (fun t => b t < U t) t m → wY_lifted_8 postS g bs hd wa si ur (d + 1) (nI m) (nI t) := by
  intro d
  induction d with
  | zero =>
    intro t m ht M
    have ht6 : t = 6 := by omega
    subst ht6
    exact br_t (nI_le (a := 6) (by omega) (by omega)) (h m M)
  | succ d ih =>
    intro t m ht M
    have ht6 : t < 6 := by omega
    have hUt := pl_U_le B hU ht6
    have hb := B.1 t ht6
    refine br_f (nI_ge (b := 6) ht6 (by decide)) ⟨pl_i6 ht6, pl_i6 ht6, ?_⟩
    rw [pl_c ht6, H.1 t ht6, A t ht6]
    refine ek_if (nI_leI (by omega) (by omega)) (fun c => ?_) (fun c => ?_)
    · intro y ey
      rw [ey, nI_1]
      exact ih (t + 1) m (by omega) (pl_Bt_off M (Nat.not_lt.mpr c))
    · intro x ex y ey
      rw [ex, ey, nI_1, pl_or m M.1 t ht6]
      exact ih (t + 1) _ (by omega) (pl_Bt_on M ht6 (Nat.lt_of_not_le c))
end
end
section
/-! take and give, each side, case by case -/
section
variable {f : Int32} {ba ho aw wn : Nat → Int32} {b w o n U : Nat → Nat} {post : Int32 → SX → Prop} {s t l : Nat}

theorem pl_xtake_w (H : pl_HX b w o n ba ho aw wn) (B : pl_Bd b w o) (ht : t < 6) (hl : l < 5) (hw : ¬ w t = 0) (h : post (-1) (f, ba, ho, aw, wn)) : wpX_take post (f, ba, ho, aw, wn) (nI t) (nI l) := by
  unfold wpX_take
  dsimp only
  refine pl_xT_y ht ?_
  refine br_f (by decide) ?_
  refine pl_xL_y hl ?_
  refine br_f (by decide) ?_
  refine pl_xW H B ht (fun z => absurd z hw) (fun _ => ?_)
  exact br_f (by decide) h

theorem pl_xtake_o (H : pl_HX b w o n ba ho aw wn) (B : pl_Bd b w o) (ht : t < 6) (hl : l < 5) (hw : w t = 0) (hol : o l = t + 1) (h : post (-1) (f, ba, ho, aw, wn)) : wpX_take post (f, ba, ho, aw, wn) (nI t) (nI l) := by
  unfold wpX_take
  dsimp only
  refine pl_xT_y ht ?_
  refine br_f (by decide) ?_
  refine pl_xL_y hl ?_
  refine br_f (by decide) ?_
  refine pl_xW H B ht (fun _ => ?_) (fun z => absurd hw z)
  refine br_t rfl ⟨pl_i5 hl, ?_⟩
  rw [pl_c (by omega : l < 6), H.2.1 l hl]
  exact br_t ((pl_m_is (o l) (by omega) t (by omega)).mpr hol) h

theorem pl_xtake_f (H : pl_HX b w o n ba ho aw wn) (B : pl_Bd b w o) (ht : t < 6) (hl : l < 5) (hw : w t = 0) (hol : o l = 0) (h : post 0 (f, ba, upd ho l (nI t), aw, wn)) : wpX_take post (f, ba, ho, aw, wn) (nI t) (nI l) := by
  unfold wpX_take
  dsimp only
  refine pl_xT_y ht ?_
  refine br_f (by decide) ?_
  refine pl_xL_y hl ?_
  refine br_f (by decide) ?_
  refine pl_xW H B ht (fun _ => ?_) (fun z => absurd hw z)
  refine br_t rfl ⟨pl_i5 hl, ?_⟩
  rw [pl_c (by omega : l < 6), H.2.1 l hl]
  refine br_f (fun z => ?_) ⟨pl_i5 hl, fun x ex => br_t ?_ ⟨pl_i5 hl, fun a ea => ?_⟩⟩
  · have := (pl_m_is (o l) (by omega) t (by omega)).mp z
    omega
  · rw [ex, hol]; rfl
  · rw [ea]; exact h

theorem pl_xtake_s (H : pl_HX b w o n ba ho aw wn) (B : pl_Bd b w o) (ht : t < 6) (hl : l < 5) (hw : w t = 0) (hol : o l = s + 1) (hst : s ≠ t) (hr : pl_T (pl_G w o) s t → post (-2) (f, ba, ho, aw, wn)) (hq : ¬ pl_T (pl_G w o) s t → post 1 (f + 1, ba, ho, upd aw t (nI l), upd wn t f)) : wpX_take post (f, ba, ho, aw, wn) (nI t) (nI l) := by
  have hs6 := B.2.2 l hl
  unfold wpX_take
  dsimp only
  refine pl_xT_y ht ?_
  refine br_f (by decide) ?_
  refine pl_xL_y hl ?_
  refine br_f (by decide) ?_
  refine pl_xW H B ht (fun _ => ?_) (fun z => absurd hw z)
  refine br_t rfl ⟨pl_i5 hl, ?_⟩
  rw [pl_c (by omega : l < 6), H.2.1 l hl]
  refine br_f (fun z => ?_) ⟨pl_i5 hl, fun x ex => ?_⟩
  · have := (pl_m_is (o l) (by omega) t (by omega)).mp z
    omega
  · rw [hol] at ex
    have ex' : x = nI s := ex
    subst ex'
    refine br_f (fun z => ?_) ?_
    · have := (pl_m_none (s + 1) (by omega)).mp z
      omega
    · refine pl_xWT H B (by omega) ht (fun hT => ?_) (fun hT => ?_)
      · exact br_f (by decide) (hr hT)
      · refine br_t rfl ⟨pl_i6 ht, fun a ea => ⟨pl_i6 ht, fun a2 ea2 y ey => ?_⟩⟩
        rw [ea, ea2, ey, pl_c ht]
        exact hq hT

theorem pl_xgive_w (H : pl_HX b w o n ba ho aw wn) (B : pl_Bd b w o) (ht : t < 6) (hl : l < 5) (hw : ¬ w t = 0) (h : post (-2) (f, ba, ho, aw, wn)) : wpX_give post (f, ba, ho, aw, wn) (nI t) (nI l) := by
  unfold wpX_give
  dsimp only
  refine pl_xT_y ht ?_
  refine br_f (by decide) ?_
  refine pl_xL_y hl ?_
  refine br_f (by decide) ?_
  refine pl_xW H B ht (fun z => absurd z hw) (fun _ => ?_)
  exact br_f (by decide) h

theorem pl_xgive_o (H : pl_HX b w o n ba ho aw wn) (B : pl_Bd b w o) (ht : t < 6) (hl : l < 5) (hw : w t = 0) (hol : ¬ o l = t + 1) (h : post (-2) (f, ba, ho, aw, wn)) : wpX_give post (f, ba, ho, aw, wn) (nI t) (nI l) := by
  have hs6 := B.2.2 l hl
  unfold wpX_give
  dsimp only
  refine pl_xT_y ht ?_
  refine br_f (by decide) ?_
  refine pl_xL_y hl ?_
  refine br_f (by decide) ?_
  refine pl_xW H B ht (fun _ => ?_) (fun z => absurd hw z)
  refine br_t rfl ⟨pl_i5 hl, ?_⟩
  rw [pl_c (by omega : l < 6), H.2.1 l hl]
  exact br_f (fun z => hol ((pl_m_is (o l) (by omega) t (by omega)).mp z)) h

theorem pl_xgive_h (H : pl_HX b w o n ba ho aw wn) (B : pl_Bd b w o) (hU : pl_Ur (pl_G w o) b U) (hn : ∀ t, t < 6 → n t < 2 ^ 30) (ht : t < 6) (hl : l < 5) (hw : w t = 0) (hol : o l = t + 1) (h0 : pl_nb w U n l 6 = 0 → post (-1) (f, ba, upd ho l (-1), aw, wn)) (h1 : ∀ q, pl_nb w U n l 6 = q + 1 → q < 6 → post (nI q) (f, ba, upd ho l (nI q), upd aw q (-1), wn)) : wpX_give post (f, ba, ho, aw, wn) (nI t) (nI l) := by
  have hr := (pl_nb_r w U n l 6).1
  unfold wpX_give
  dsimp only
  refine pl_xT_y ht ?_
  refine br_f (by decide) ?_
  refine pl_xL_y hl ?_
  refine br_f (by decide) ?_
  refine pl_xW H B ht (fun _ => ?_) (fun z => absurd hw z)
  refine br_t rfl ⟨pl_i5 hl, ?_⟩
  rw [pl_c (by omega : l < 6), H.2.1 l hl]
  refine br_t ((pl_m_is (o l) (by omega) t (by omega)).mpr hol) ?_
  refine pl_xM H B hU hn hl ⟨pl_i5 hl, fun a ea => ?_⟩
  cases hx : pl_nb w U n l 6 with
  | zero =>
    rw [hx] at ea
    refine br_t rfl ?_
    rw [ea]
    exact h0 hx
  | succ q =>
    have hq6 : q < 6 := by omega
    rw [hx] at ea
    refine br_f (fun z => ?_) ⟨pl_i6 hq6, fun a2 ea2 => ?_⟩
    · have := (pl_m_none (q + 1) (by omega)).mp z
      omega
    · have cq : (pl_m (q + 1)).toNatClampNeg = q := pl_c hq6
      rw [cq] at ea2
      rw [ea, ea2]
      exact h1 q hx hq6
end

section
variable {g : Int32} {bs hd wa si ur : Nat → Int32} {b w o n U : Nat → Nat} {post : Int32 → SY → Prop} {s t l : Nat}

theorem pl_0n {x : Nat} (h : x < 2 ^ 31) : 0 < nI x ↔ ¬ x = 0 := by
  have e := nI_ltI (a := 0) (b := x) (by decide) h
  exact e.trans (by omega)

theorem pl_ytake_w (H : pl_HY b w o n bs hd wa si) (B : pl_Bd b w o) (ht : t < 6) (hl : l < 5) (hw : ¬ w t = 0) (h : post (-1) (g, bs, hd, wa, si, ur)) : wpY_take post (g, bs, hd, wa, si, ur) (nI t) (nI l) := by
  have hw5 := B.2.1 t ht
  unfold wpY_take
  dsimp only
  refine pl_yT_y ht ?_
  refine br_f (by decide) ?_
  refine pl_yL_y hl ?_
  refine br_f (by decide) ⟨pl_i6 ht, ?_⟩
  rw [pl_c ht, H.2.2.1 t ht]
  exact br_t ((pl_0n (by omega)).mpr hw) h

theorem pl_ytake_o (H : pl_HY b w o n bs hd wa si) (B : pl_Bd b w o) (ht : t < 6) (hl : l < 5) (hw : w t = 0) (hol : o l = t + 1) (h : post (-1) (g, bs, hd, wa, si, ur)) : wpY_take post (g, bs, hd, wa, si, ur) (nI t) (nI l) := by
  unfold wpY_take
  dsimp only
  refine pl_yT_y ht ?_
  refine br_f (by decide) ?_
  refine pl_yL_y hl ?_
  refine br_f (by decide) ⟨pl_i6 ht, ?_⟩
  rw [pl_c ht, H.2.2.1 t ht]
  refine br_f (fun z => (pl_0n (by omega)).mp z hw) ⟨pl_i5 hl, ?_⟩
  rw [pl_c (by omega : l < 6), H.2.1 l hl, nI_1 t]
  exact br_t ((nI_eq (by omega) (by omega)).mpr hol) h

theorem pl_ytake_f (H : pl_HY b w o n bs hd wa si) (B : pl_Bd b w o) (ht : t < 6) (hl : l < 5) (hw : w t = 0) (hol : o l = 0) (h : post 0 (g, bs, upd hd l (nI (t + 1)), wa, si, ur)) : wpY_take post (g, bs, hd, wa, si, ur) (nI t) (nI l) := by
  unfold wpY_take
  dsimp only
  refine pl_yT_y ht ?_
  refine br_f (by decide) ?_
  refine pl_yL_y hl ?_
  refine br_f (by decide) ⟨pl_i6 ht, ?_⟩
  rw [pl_c ht, H.2.2.1 t ht]
  refine br_f (fun z => (pl_0n (by omega)).mp z hw) ⟨pl_i5 hl, ?_⟩
  rw [pl_c (by omega : l < 6), H.2.1 l hl, nI_1 t]
  refine br_f (fun z => ?_) ⟨pl_i5 hl, br_t ?_ ⟨pl_i5 hl, fun a ea => ?_⟩⟩
  · have := (nI_eq (by omega) (by omega)).mp z
    omega
  · rw [hol]; rfl
  · rw [ea]; exact h

theorem pl_ytake_s (H : pl_HY b w o n bs hd wa si) (B : pl_Bd b w o) (ht : t < 6) (hl : l < 5) (hw : w t = 0) (hol : o l = s + 1) (hst : s ≠ t) (hr : pl_T (pl_G w o) s t → post (-2) (g, bs, hd, wa, si, ur)) (hq : ¬ pl_T (pl_G w o) s t → post 1 (g + 1, bs, hd, upd wa t (nI (l + 1)), upd si t (g + 1), ur)) : wpY_take post (g, bs, hd, wa, si, ur) (nI t) (nI l) := by
  have hs6 := B.2.2 l hl
  have hs : s < 6 := by omega
  unfold wpY_take
  dsimp only
  refine pl_yT_y ht ?_
  refine br_f (by decide) ?_
  refine pl_yL_y hl ?_
  refine br_f (by decide) ⟨pl_i6 ht, ?_⟩
  rw [pl_c ht, H.2.2.1 t ht]
  refine br_f (fun z => (pl_0n (by omega)).mp z hw) ⟨pl_i5 hl, ?_⟩
  rw [pl_c (by omega : l < 6), H.2.1 l hl, nI_1 t, nI_1 l]
  refine br_f (fun z => ?_) ⟨pl_i5 hl, br_f (fun z => ?_) ⟨pl_i5 hl, fun x ex => ?_⟩⟩
  · have := (nI_eq (by omega) (by omega)).mp z
    omega
  · have := (nI_eq (b := 0) (by omega) (by decide)).mp z
    omega
  · rw [hol, nI_pred] at ex
    subst ex
    refine pl_yH H B ht fun m M => ?_
    have e := M.2 s hs
    refine ek_if ((pl_bit m M.1 s hs).trans e) (fun c => ?_) (fun c => ?_)
    · exact hr c.2
    · refine ⟨pl_i6 ht, fun a ea y ey => ⟨pl_i6 ht, fun a2 ea2 => ?_⟩⟩
      rw [ea, ea2, ey]
      exact hq fun z => c ⟨hs, z⟩

theorem pl_ygive_w (H : pl_HY b w o n bs hd wa si) (B : pl_Bd b w o) (ht : t < 6) (hl : l < 5) (hw : ¬ w t = 0) (h : post (-2) (g, bs, hd, wa, si, ur)) : wpY_give post (g, bs, hd, wa, si, ur) (nI t) (nI l) := by
  have hw5 := B.2.1 t ht
  unfold wpY_give
  dsimp only
  refine pl_yT_y ht ?_
  refine br_f (by decide) ?_
  refine pl_yL_y hl ?_
  refine br_f (by decide) ⟨pl_i6 ht, ?_⟩
  rw [pl_c ht, H.2.2.1 t ht]
  exact br_t ((pl_0n (by omega)).mpr hw) h

theorem pl_ygive_o (H : pl_HY b w o n bs hd wa si) (B : pl_Bd b w o) (ht : t < 6) (hl : l < 5) (hw : w t = 0) (hol : ¬ o l = t + 1) (h : post (-2) (g, bs, hd, wa, si, ur)) : wpY_give post (g, bs, hd, wa, si, ur) (nI t) (nI l) := by
  have hs6 := B.2.2 l hl
  unfold wpY_give
  dsimp only
  refine pl_yT_y ht ?_
  refine br_f (by decide) ?_
  refine pl_yL_y hl ?_
  refine br_f (by decide) ⟨pl_i6 ht, ?_⟩
  rw [pl_c ht, H.2.2.1 t ht]
  refine br_f (fun z => (pl_0n (by omega)).mp z hw) ⟨pl_i5 hl, ?_⟩
  rw [pl_c (by omega : l < 6), H.2.1 l hl, nI_1 t]
  exact br_f (fun z => hol ((nI_eq (by omega) (by omega)).mp z)) h

theorem pl_ygive_h (H : pl_HY b w o n bs hd wa si) (B : pl_Bd b w o) (hU : pl_Ur (pl_G w o) b U) (hn : ∀ t, t < 6 → n t < 2 ^ 30) (ht : t < 6) (hl : l < 5) (hw : w t = 0) (hol : o l = t + 1) (h0 : pl_nb w U n l 6 = 0 → ∀ ur, post (-1) (g, bs, upd hd l 0, wa, si, ur)) (h1 : ∀ q, pl_nb w U n l 6 = q + 1 → q < 6 → ∀ ur, post (nI q) (g, bs, upd hd l (nI (q + 1)), upd wa q 0, si, ur)) : wpY_give post (g, bs, hd, wa, si, ur) (nI t) (nI l) := by
  have hr := (pl_nb_r w U n l 6).1
  unfold wpY_give
  dsimp only
  refine pl_yT_y ht ?_
  refine br_f (by decide) ?_
  refine pl_yL_y hl ?_
  refine br_f (by decide) ⟨pl_i6 ht, ?_⟩
  rw [pl_c ht, H.2.2.1 t ht]
  refine br_f (fun z => (pl_0n (by omega)).mp z hw) ⟨pl_i5 hl, ?_⟩
  rw [pl_c (by omega : l < 6), H.2.1 l hl, nI_1 t]
  refine br_t ((nI_eq (by omega) (by omega)).mpr hol) ?_
  refine pl_yN H B hU hn hl fun ur' => ⟨pl_i5 hl, fun a ea => ?_⟩
  rw [pl_m_add] at ea
  cases hx : pl_nb w U n l 6 with
  | zero =>
    rw [hx] at ea
    refine br_t (by decide) ?_
    rw [ea]
    exact h0 hx ur'
  | succ q =>
    have hq6 : q < 6 := by omega
    rw [hx] at ea
    refine br_f (nI_pos (by omega)) ⟨pl_i6 hq6, fun a2 ea2 => ?_⟩
    have cq : (pl_m (q + 1)).toNatClampNeg = q := pl_c hq6
    rw [cq] at ea2
    rw [ea, ea2]
    exact h1 q hx hq6 ur'
end
end
section
/-- the two sides hold one picture; what the reference keeps of urgencies is scratch -/
def i_Rel (k : Nat) (u : SX) (v : SY) : Prop := ∃ (b w o n : Nat → Nat) (c : Nat), pl_Bd b w o ∧ c ≤ k ∧ (∀ t, t < 6 → n t ≤ k) ∧ u.1 = nI c ∧ v.1 = nI c ∧ pl_HX b w o n u.2.1 u.2.2.1 u.2.2.2.1 u.2.2.2.2 ∧ pl_HY b w o n v.2.1 v.2.2.1 v.2.2.2.1 v.2.2.2.2.1

theorem i_up {k : Nat} {u : SX} {v : SY} (h : i_Rel k u v) : i_Rel (k + 3) u v := by
  obtain ⟨b, w, o, n, c, B, hc, hn, e1, e2, HX, HY⟩ := h
  exact ⟨b, w, o, n, c, B, by omega, fun t ht => Nat.le_trans (hn t ht) (by omega), e1, e2, HX, HY⟩

theorem pl_ur {k : Nat} {u : SX} {g : Int32} {bs hd wa si ur : Nat → Int32} (I : i_Rel k u (g, bs, hd, wa, si, ur)) (ur' : Nat → Int32) : i_Rel (k + 3) u (g, bs, hd, wa, si, ur') :=
  i_up (v := (g, bs, hd, wa, si, ur')) I

theorem pl_a6 (x : Int32) : (∃ t, t < 6 ∧ x = nI t) ∨ (∀ t, t < 6 → ¬ x = nI t) := by
  by_cases h : ∃ t, t < 6 ∧ x = nI t
  · exact Or.inl h
  · exact Or.inr fun t ht e => h ⟨t, ht, e⟩
theorem pl_a5 (x : Int32) : (∃ t, t < 5 ∧ x = nI t) ∨ (∀ t, t < 5 → ¬ x = nI t) := by
  by_cases h : ∃ t, t < 5 ∧ x = nI t
  · exact Or.inl h
  · exact Or.inr fun t ht e => h ⟨t, ht, e⟩

/-! the constructors -/
theorem pl_x0b {post : SX → Prop} {f : Int32} {ba ho wn : Nat → Int32} (h : ∀ aw, pl_ar 6 pl_m (fun _ => 0) aw → post (f, ba, ho, aw, wn)) : ∀ d t (aw : Nat → Int32), t + d = 6 → pl_ar t pl_m (fun _ => 0) aw → wX_init_62 post f (d + 1) (nI t) ba ho aw wn := by
  intro d
  induction d with
  | zero =>
    intro t aw ht A
    have ht6 : t = 6 := by omega
    subst ht6
    exact br_t (nI_le (a := 6) (by omega) (by omega)) (h aw A)
  | succ d ih =>
    intro t aw ht A
    have ht6 : t < 6 := by omega
    refine br_f (nI_ge (b := 6) ht6 (by decide)) ⟨pl_i6 ht6, fun a ea x ex => ?_⟩
    rw [ex, ea, nI_1, pl_c ht6]
    refine ih (t + 1) _ (by omega) fun s hs => ?_
    by_cases c : s = t
    · subst c; exact pk_us
    · rw [pk_un c]; exact A s (by omega)

theorem pl_x0a {post : SX → Prop} {f : Int32} {ba aw wn : Nat → Int32} (h : ∀ ho aw, pl_ar 5 pl_m (fun _ => 0) ho → pl_ar 6 pl_m (fun _ => 0) aw → post (f, ba, ho, aw, wn)) : ∀ d l (ho : Nat → Int32), l + d = 5 → pl_ar l pl_m (fun _ => 0) ho → wX_init_42 post f (d + 1) (nI l) ba ho aw wn := by
  intro d
  induction d with
  | zero =>
    intro l ho hl A
    have hl5 : l = 5 := by omega
    subst hl5
    exact br_t (nI_le (a := 5) (by omega) (by omega)) ⟨7, pl_x0b (fun aw' A' => h ho aw' A A') 6 0 aw rfl fun _ z => absurd z (Nat.not_lt_zero _)⟩
  | succ d ih =>
    intro l ho hl A
    have hl5 : l < 5 := by omega
    refine br_f (nI_ge (b := 5) hl5 (by decide)) ⟨pl_i5 hl5, fun a ea x ex => ?_⟩
    rw [ex, ea, nI_1, pl_c (by omega : l < 6)]
    refine ih (l + 1) _ (by omega) fun s hs => ?_
    by_cases c : s = l
    · subst c; exact pk_us
    · rw [pk_un c]; exact A s (by omega)

theorem i_vc0 : wpX_init (fun u => wpY_init (fun v => i_Rel 0 u v)) := by
  refine ⟨6, pl_x0a (fun ho aw Ah Aw => ?_) 5 0 _ rfl fun _ z => absurd z (Nat.not_lt_zero _)⟩
  exact ⟨fun _ => 0, fun _ => 0, fun _ => 0, fun _ => 0, 0, ⟨fun _ _ => Nat.zero_le _, fun _ _ => Nat.zero_le _, fun _ _ => Nat.zero_le _⟩, Nat.le_refl 0, fun _ _ => Nat.le_refl 0, rfl, rfl, ⟨fun _ _ => rfl, Ah, Aw, fun _ _ => rfl⟩, ⟨fun _ _ => rfl, fun _ _ => rfl, fun _ _ => rfl, fun _ _ z => absurd rfl z⟩⟩

theorem i_vc_take {k : Nat} {u : SX} {v : SY} (I : i_Rel k u v) (hk : k + 3 ≤ 1536) (v1 : Int32) (v2 : Int32) : wpX_take (fun r u' => wpY_take (fun r' v' => r' = r ∧ i_Rel (k + 3) u' v') v v1 v2) u v1 v2 := by
  obtain ⟨f, ba, ho, aw, wn⟩ := u
  obtain ⟨g, bs, hd, wa, si, ur⟩ := v
  have I2 := I
  obtain ⟨b, w, o, n, c, B, hc, hn, e1, e2, HX, HY⟩ := I2
  have ef : f = nI c := e1
  have eg : g = nI c := e2
  have HX : pl_HX b w o n ba ho aw wn := HX
  have HY : pl_HY b w o n bs hd wa si := HY
  have hn2 : ∀ t, t < 6 → n t < 2 ^ 30 := fun t ht => Nat.lt_of_le_of_lt (hn t ht) (by omega)
  have hn3 : ∀ t, t < 6 → n t ≤ k + 3 := fun t ht => Nat.le_trans (hn t ht) (by omega)
  rcases pl_a6 v1 with ⟨t, ht, rfl⟩ | hx
  rotate_left
  · unfold wpX_take wpY_take
    dsimp only
    refine pl_xT_n hx ?_
    refine br_t rfl ?_
    refine pl_yT_n hx ?_
    exact br_t rfl ⟨rfl, i_up I⟩
  rcases pl_a5 v2 with ⟨l, hl, rfl⟩ | hy
  rotate_left
  · unfold wpX_take wpY_take
    dsimp only
    refine pl_xT_y ht ?_
    refine br_f (by decide) ?_
    refine pl_xL_n hy ?_
    refine br_t rfl ?_
    refine pl_yT_y ht ?_
    refine br_f (by decide) ?_
    refine pl_yL_n hy ?_
    exact br_t rfl ⟨rfl, i_up I⟩
  by_cases hw : w t = 0
  rotate_left
  · exact pl_xtake_w HX B ht hl hw (pl_ytake_w HY B ht hl hw ⟨rfl, i_up I⟩)
  by_cases hot : o l = t + 1
  · exact pl_xtake_o HX B ht hl hw hot (pl_ytake_o HY B ht hl hw hot ⟨rfl, i_up I⟩)
  cases hol : o l with
  | zero =>
    refine pl_xtake_f HX B ht hl hw hol (pl_ytake_f HY B ht hl hw hol ⟨rfl, ?_⟩)
    exact ⟨b, w, pl_up o l (t + 1), n, c, ⟨B.1, B.2.1, pl_up_le B.2.2 (by omega)⟩, by omega, hn3, ef, eg, ⟨HX.1, pl_ar_up HX.2.1 l (t + 1) rfl, HX.2.2⟩, ⟨HY.1, pl_ar_up HY.2.1 l (t + 1) rfl, HY.2.2⟩⟩
  | succ s =>
    have hst : s ≠ t := fun z => hot (by omega)
    refine pl_xtake_s HX B ht hl hw hol hst (fun hT => ?_) (fun hT => ?_)
    · exact pl_ytake_s HY B ht hl hw hol hst (fun _ => ⟨rfl, i_up I⟩) (fun z => absurd hT z)
    · refine pl_ytake_s HY B ht hl hw hol hst (fun z => absurd z hT) (fun _ => ⟨rfl, ?_⟩)
      have ef1 : f + 1 = nI (c + 1) := by rw [ef, nI_1]
      have eg1 : g + 1 = nI (c + 1) := by rw [eg, nI_1]
      refine ⟨b, pl_up w t (l + 1), o, pl_up n t c, c + 1, ⟨B.1, pl_up_le B.2.1 (by omega), B.2.2⟩, by omega, pl_up_le hn3 (by omega), ef1, eg1, ⟨HX.1, HX.2.1, pl_ar_up HX.2.2.1 t (l + 1) rfl, pl_ar_up HX.2.2.2 t c ef⟩, ⟨HY.1, HY.2.1, pl_ar_up HY.2.2.1 t (l + 1) rfl, fun x hx z => ?_⟩⟩
      show upd si t (g + 1) x = nI (pl_up n t c x + 1)
      by_cases ex : x = t
      · subst ex
        rw [pk_us, pl_up_s]
        exact eg1
      · rw [pk_un ex, pl_up_n n ex]
        rw [pl_up_n w ex] at z
        exact HY.2.2.2 x hx z

theorem i_vc_give {k : Nat} {u : SX} {v : SY} (I : i_Rel k u v) (hk : k + 3 ≤ 1536) (v1 : Int32) (v2 : Int32) : wpX_give (fun r u' => wpY_give (fun r' v' => r' = r ∧ i_Rel (k + 3) u' v') v v1 v2) u v1 v2 := by
  obtain ⟨f, ba, ho, aw, wn⟩ := u
  obtain ⟨g, bs, hd, wa, si, ur⟩ := v
  have I2 := I
  obtain ⟨b, w, o, n, c, B, hc, hn, e1, e2, HX, HY⟩ := I2
  have ef : f = nI c := e1
  have eg : g = nI c := e2
  have HX : pl_HX b w o n ba ho aw wn := HX
  have HY : pl_HY b w o n bs hd wa si := HY
  have hn2 : ∀ t, t < 6 → n t < 2 ^ 30 := fun t ht => Nat.lt_of_le_of_lt (hn t ht) (by omega)
  have hn3 : ∀ t, t < 6 → n t ≤ k + 3 := fun t ht => Nat.le_trans (hn t ht) (by omega)
  rcases pl_a6 v1 with ⟨t, ht, rfl⟩ | hx
  rotate_left
  · unfold wpX_give wpY_give
    dsimp only
    refine pl_xT_n hx ?_
    refine br_t rfl ?_
    refine pl_yT_n hx ?_
    exact br_t rfl ⟨rfl, i_up I⟩
  rcases pl_a5 v2 with ⟨l, hl, rfl⟩ | hy
  rotate_left
  · unfold wpX_give wpY_give
    dsimp only
    refine pl_xT_y ht ?_
    refine br_f (by decide) ?_
    refine pl_xL_n hy ?_
    refine br_t rfl ?_
    refine pl_yT_y ht ?_
    refine br_f (by decide) ?_
    refine pl_yL_n hy ?_
    exact br_t rfl ⟨rfl, i_up I⟩
  by_cases hw : w t = 0
  rotate_left
  · exact pl_xgive_w HX B ht hl hw (pl_ygive_w HY B ht hl hw ⟨rfl, i_up I⟩)
  by_cases hot : o l = t + 1
  rotate_left
  · exact pl_xgive_o HX B ht hl hw hot (pl_ygive_o HY B ht hl hw hot ⟨rfl, i_up I⟩)
  obtain ⟨U, hU⟩ := pl_Ur_ex (pl_G w o) b
  refine pl_xgive_h HX B hU hn2 ht hl hw hot (fun z => ?_) (fun q z hq => ?_)
  · refine pl_ygive_h HY B hU hn2 ht hl hw hot (fun _ ur' => ⟨rfl, ?_⟩) (fun q z2 _ => absurd (z.symm.trans z2) (by omega))
    exact ⟨b, w, pl_up o l 0, n, c, ⟨B.1, B.2.1, pl_up_le B.2.2 (by omega)⟩, by omega, hn3, ef, eg, ⟨HX.1, pl_ar_up HX.2.1 l 0 rfl, HX.2.2⟩, ⟨HY.1, pl_ar_up HY.2.1 l 0 rfl, HY.2.2⟩⟩
  · refine pl_ygive_h HY B hU hn2 ht hl hw hot (fun z2 => absurd (z2.symm.trans z) (by omega)) (fun q2 z2 _ ur' => ?_)
    have eq : q2 = q := by omega
    subst eq
    refine ⟨rfl, ?_⟩
    refine ⟨b, pl_up w q2 0, pl_up o l (q2 + 1), n, c, ⟨B.1, pl_up_le B.2.1 (by omega), pl_up_le B.2.2 (by omega)⟩, by omega, hn3, ef, eg, ⟨HX.1, pl_ar_up HX.2.1 l (q2 + 1) rfl, pl_ar_up HX.2.2.1 q2 0 rfl, HX.2.2.2⟩, ⟨HY.1, pl_ar_up HY.2.1 l (q2 + 1) rfl, pl_ar_up HY.2.2.1 q2 0 rfl, fun x hx z => ?_⟩⟩
    by_cases ex : x = q2
    · subst ex
      rw [pl_up_s] at z
      exact absurd rfl z
    · rw [pl_up_n w ex] at z
      exact HY.2.2.2 x hx z

theorem i_vc_giveUp {k : Nat} {u : SX} {v : SY} (I : i_Rel k u v) (hk : k + 3 ≤ 1536) (v1 : Int32) : wpX_giveUp (fun r u' => wpY_giveUp (fun r' v' => r' = r ∧ i_Rel (k + 3) u' v') v v1) u v1 := by
  obtain ⟨f, ba, ho, aw, wn⟩ := u
  obtain ⟨g, bs, hd, wa, si, ur⟩ := v
  have I2 := I
  obtain ⟨b, w, o, n, c, B, hc, hn, e1, e2, HX, HY⟩ := I2
  have ef : f = nI c := e1
  have eg : g = nI c := e2
  have HX : pl_HX b w o n ba ho aw wn := HX
  have HY : pl_HY b w o n bs hd wa si := HY
  have hn2 : ∀ t, t < 6 → n t < 2 ^ 30 := fun t ht => Nat.lt_of_le_of_lt (hn t ht) (by omega)
  have hn3 : ∀ t, t < 6 → n t ≤ k + 3 := fun t ht => Nat.le_trans (hn t ht) (by omega)
  rcases pl_a6 v1 with ⟨t, ht, rfl⟩ | hx
  rotate_left
  · unfold wpX_giveUp wpY_giveUp
    dsimp only
    refine pl_xT_n hx ?_
    refine br_t rfl ?_
    refine pl_yT_n hx ?_
    exact br_t rfl ⟨rfl, i_up I⟩
  have hw5 := B.2.1 t ht
  unfold wpX_giveUp wpY_giveUp
  dsimp only
  refine pl_xT_y ht ?_
  refine br_f (by decide) ?_
  refine pl_xW HX B ht (fun hw => ?_) (fun hw => ?_)
  · refine br_t rfl ?_
    refine pl_yT_y ht ?_
    refine br_f (by decide) ⟨pl_i6 ht, ?_⟩
    rw [pl_c ht, HY.2.2.1 t ht]
    exact br_t ((nI_eq (b := 0) (by omega) (by decide)).mpr hw) ⟨rfl, i_up I⟩
  · refine br_f (by decide) ⟨pl_i6 ht, fun a ea => ?_⟩
    refine pl_yT_y ht ?_
    refine br_f (by decide) ⟨pl_i6 ht, ?_⟩
    rw [pl_c ht, HY.2.2.1 t ht]
    refine br_f (fun z => hw ((nI_eq (b := 0) (by omega) (by decide)).mp z)) ⟨pl_i6 ht, fun a2 ea2 => ⟨rfl, ?_⟩⟩
    rw [ea, ea2, pl_c ht]
    refine ⟨b, pl_up w t 0, o, n, c, ⟨B.1, pl_up_le B.2.1 (by omega), B.2.2⟩, by omega, hn3, ef, eg, ⟨HX.1, HX.2.1, pl_ar_up HX.2.2.1 t 0 rfl, HX.2.2.2⟩, ⟨HY.1, HY.2.1, pl_ar_up HY.2.2.1 t 0 rfl, fun x hx z => ?_⟩⟩
    by_cases ex : x = t
    · subst ex
      rw [pl_up_s] at z
      exact absurd rfl z
    · rw [pl_up_n w ex] at z
      exact HY.2.2.2 x hx z

theorem i_vc_setBase {k : Nat} {u : SX} {v : SY} (I : i_Rel k u v) (hk : k + 3 ≤ 1536) (v1 : Int32) (v2 : Int32) : wpX_setBase (fun r u' => wpY_setBase (fun r' v' => r' = r ∧ i_Rel (k + 3) u' v') v v1 v2) u v1 v2 := by
  obtain ⟨f, ba, ho, aw, wn⟩ := u
  obtain ⟨g, bs, hd, wa, si, ur⟩ := v
  have I2 := I
  obtain ⟨b, w, o, n, c, B, hc, hn, e1, e2, HX, HY⟩ := I2
  have ef : f = nI c := e1
  have eg : g = nI c := e2
  have HX : pl_HX b w o n ba ho aw wn := HX
  have HY : pl_HY b w o n bs hd wa si := HY
  have hn2 : ∀ t, t < 6 → n t < 2 ^ 30 := fun t ht => Nat.lt_of_le_of_lt (hn t ht) (by omega)
  have hn3 : ∀ t, t < 6 → n t ≤ k + 3 := fun t ht => Nat.le_trans (hn t ht) (by omega)
  rcases pl_a6 v1 with ⟨t, ht, rfl⟩ | hx
  rotate_left
  · unfold wpX_setBase wpY_setBase
    dsimp only
    refine pl_xT_n hx ?_
    refine br_t rfl ?_
    refine pl_yT_n hx ?_
    exact br_t rfl ⟨rfl, i_up I⟩
  unfold wpX_setBase wpY_setBase
  dsimp only
  refine pl_xT_y ht ?_
  refine br_f (by decide) ?_
  by_cases h0 : v2 < 0
  · refine br_t h0 ?_
    refine pl_yT_y ht ?_
    refine br_f (by decide) ?_
    exact br_t h0 ⟨rfl, i_up I⟩
  refine br_f h0 ?_
  by_cases h9 : v2 ≤ 9
  rotate_left
  · refine br_f h9 ?_
    refine pl_yT_y ht ?_
    refine br_f (by decide) ?_
    exact br_f h0 (br_f h9 ⟨rfl, i_up I⟩)
  refine br_t h9 ⟨pl_i6 ht, fun a ea => ?_⟩
  refine pl_yT_y ht ?_
  refine br_f (by decide) ?_
  refine br_f h0 (br_t h9 ⟨pl_i6 ht, fun a2 ea2 => ⟨rfl, ?_⟩⟩)
  obtain ⟨j, hj, rfl⟩ := nI_of2 (M := 9) (n := 9) (by decide) h0 h9
  rw [ea, ea2, pl_c ht]
  exact ⟨pl_up b t j, w, o, n, c, ⟨pl_up_le B.1 hj, B.2⟩, by omega, hn3, ef, eg, ⟨pl_ar_up HX.1 t j rfl, HX.2⟩, ⟨pl_ar_up HY.1 t j rfl, HY.2⟩⟩

theorem i_vc_urgency {k : Nat} {u : SX} {v : SY} (I : i_Rel k u v) (hk : k + 3 ≤ 1536) (v1 : Int32) : wpX_urgency (fun r => wpY_urgency (fun r' v' => r' = r ∧ i_Rel (k + 3) u v') v v1) u v1 := by
  obtain ⟨f, ba, ho, aw, wn⟩ := u
  obtain ⟨g, bs, hd, wa, si, ur⟩ := v
  have I2 := I
  obtain ⟨b, w, o, n, c, B, hc, hn, e1, e2, HX, HY⟩ := I2
  have ef : f = nI c := e1
  have eg : g = nI c := e2
  have HX : pl_HX b w o n ba ho aw wn := HX
  have HY : pl_HY b w o n bs hd wa si := HY
  have hn2 : ∀ t, t < 6 → n t < 2 ^ 30 := fun t ht => Nat.lt_of_le_of_lt (hn t ht) (by omega)
  have hn3 : ∀ t, t < 6 → n t ≤ k + 3 := fun t ht => Nat.le_trans (hn t ht) (by omega)
  obtain ⟨U, hU⟩ := pl_Ur_ex (pl_G w o) b
  unfold wpX_urgency wpY_urgency
  dsimp only
  rcases pl_a6 v1 with ⟨t, ht, rfl⟩ | hx
  · refine pl_xT_y ht ?_
    refine br_f (by decide) ?_
    refine pl_xU HX B hU ht ?_
    refine pl_yL HY B hU fun ur' A => ?_
    refine pl_yT_y ht ?_
    refine br_f (by decide) ⟨pl_i6 ht, ?_⟩
    refine ⟨?_, pl_ur I ur'⟩
    rw [pl_c ht]
    exact A t ht
  · refine pl_xT_n hx ?_
    refine br_t rfl ?_
    refine pl_yL HY B hU fun ur' A => ?_
    refine pl_yT_n hx ?_
    exact br_t rfl ⟨rfl, pl_ur I ur'⟩

theorem i_vc_base {k : Nat} {u : SX} {v : SY} (I : i_Rel k u v) (hk : k + 3 ≤ 1536) (v1 : Int32) : wpX_base (fun r => wpY_base (fun r' => r' = r ∧ i_Rel (k + 3) u v) v v1) u v1 := by
  obtain ⟨f, ba, ho, aw, wn⟩ := u
  obtain ⟨g, bs, hd, wa, si, ur⟩ := v
  have I2 := I
  obtain ⟨b, w, o, n, c, B, hc, hn, e1, e2, HX, HY⟩ := I2
  have ef : f = nI c := e1
  have eg : g = nI c := e2
  have HX : pl_HX b w o n ba ho aw wn := HX
  have HY : pl_HY b w o n bs hd wa si := HY
  have hn2 : ∀ t, t < 6 → n t < 2 ^ 30 := fun t ht => Nat.lt_of_le_of_lt (hn t ht) (by omega)
  have hn3 : ∀ t, t < 6 → n t ≤ k + 3 := fun t ht => Nat.le_trans (hn t ht) (by omega)
  unfold wpX_base wpY_base
  dsimp only
  rcases pl_a6 v1 with ⟨t, ht, rfl⟩ | hx
  · refine pl_xT_y ht ?_
    refine br_f (by decide) ⟨pl_i6 ht, ?_⟩
    refine pl_yT_y ht ?_
    refine br_f (by decide) ⟨pl_i6 ht, ?_⟩
    refine ⟨?_, i_up I⟩
    rw [pl_c ht, HX.1 t ht, HY.1 t ht]
  · refine pl_xT_n hx ?_
    refine br_t rfl ?_
    refine pl_yT_n hx ?_
    exact br_t rfl ⟨rfl, i_up I⟩

theorem i_vc_holder {k : Nat} {u : SX} {v : SY} (I : i_Rel k u v) (hk : k + 3 ≤ 1536) (v1 : Int32) : wpX_holder (fun r => wpY_holder (fun r' => r' = r ∧ i_Rel (k + 3) u v) v v1) u v1 := by
  obtain ⟨f, ba, ho, aw, wn⟩ := u
  obtain ⟨g, bs, hd, wa, si, ur⟩ := v
  have I2 := I
  obtain ⟨b, w, o, n, c, B, hc, hn, e1, e2, HX, HY⟩ := I2
  have ef : f = nI c := e1
  have eg : g = nI c := e2
  have HX : pl_HX b w o n ba ho aw wn := HX
  have HY : pl_HY b w o n bs hd wa si := HY
  have hn2 : ∀ t, t < 6 → n t < 2 ^ 30 := fun t ht => Nat.lt_of_le_of_lt (hn t ht) (by omega)
  have hn3 : ∀ t, t < 6 → n t ≤ k + 3 := fun t ht => Nat.le_trans (hn t ht) (by omega)
  unfold wpX_holder wpY_holder
  dsimp only
  rcases pl_a5 v1 with ⟨t, ht, rfl⟩ | hx
  · refine pl_xL_y ht ?_
    refine br_f (by decide) ⟨pl_i5 ht, ?_⟩
    refine pl_yL_y ht ?_
    refine br_f (by decide) ⟨pl_i5 ht, ?_⟩
    refine ⟨?_, i_up I⟩
    rw [pl_c (by omega : t < 6), HX.2.1 t ht, HY.2.1 t ht, pl_m_sub]
  · refine pl_xL_n hx ?_
    refine br_t rfl ?_
    refine pl_yL_n hx ?_
    exact br_t rfl ⟨rfl, i_up I⟩

theorem i_vc_waitsFor {k : Nat} {u : SX} {v : SY} (I : i_Rel k u v) (hk : k + 3 ≤ 1536) (v1 : Int32) : wpX_waitsFor (fun r => wpY_waitsFor (fun r' => r' = r ∧ i_Rel (k + 3) u v) v v1) u v1 := by
  obtain ⟨f, ba, ho, aw, wn⟩ := u
  obtain ⟨g, bs, hd, wa, si, ur⟩ := v
  have I2 := I
  obtain ⟨b, w, o, n, c, B, hc, hn, e1, e2, HX, HY⟩ := I2
  have ef : f = nI c := e1
  have eg : g = nI c := e2
  have HX : pl_HX b w o n ba ho aw wn := HX
  have HY : pl_HY b w o n bs hd wa si := HY
  have hn2 : ∀ t, t < 6 → n t < 2 ^ 30 := fun t ht => Nat.lt_of_le_of_lt (hn t ht) (by omega)
  have hn3 : ∀ t, t < 6 → n t ≤ k + 3 := fun t ht => Nat.le_trans (hn t ht) (by omega)
  unfold wpX_waitsFor wpY_waitsFor
  dsimp only
  rcases pl_a6 v1 with ⟨t, ht, rfl⟩ | hx
  · refine pl_xT_y ht ?_
    refine br_f (by decide) ⟨pl_i6 ht, ?_⟩
    refine pl_yT_y ht ?_
    refine br_f (by decide) ⟨pl_i6 ht, ?_⟩
    refine ⟨?_, i_up I⟩
    rw [pl_c ht, HX.2.2.1 t ht, HY.2.2.1 t ht, pl_m_sub]
  · refine pl_xT_n hx ?_
    refine br_t rfl ?_
    refine pl_yT_n hx ?_
    exact br_t rfl ⟨rfl, i_up I⟩

theorem i_vc_waiting {k : Nat} {u : SX} {v : SY} (I : i_Rel k u v) (hk : k + 3 ≤ 1536) (v1 : Int32) : wpX_waiting (fun r => wpY_waiting (fun r' => r' = r ∧ i_Rel (k + 3) u v) v v1) u v1 := by
  obtain ⟨f, ba, ho, aw, wn⟩ := u
  obtain ⟨g, bs, hd, wa, si, ur⟩ := v
  have I2 := I
  obtain ⟨b, w, o, n, c, B, hc, hn, e1, e2, HX, HY⟩ := I2
  have ef : f = nI c := e1
  have eg : g = nI c := e2
  have HX : pl_HX b w o n ba ho aw wn := HX
  have HY : pl_HY b w o n bs hd wa si := HY
  have hn2 : ∀ t, t < 6 → n t < 2 ^ 30 := fun t ht => Nat.lt_of_le_of_lt (hn t ht) (by omega)
  have hn3 : ∀ t, t < 6 → n t ≤ k + 3 := fun t ht => Nat.le_trans (hn t ht) (by omega)
  unfold wpX_waiting wpY_waiting
  dsimp only
  rcases pl_a5 v1 with ⟨l, hl, rfl⟩ | hx
  · refine pl_xL_y hl ?_
    refine br_f (by decide) ⟨7, ?_⟩
    refine pl_xCl HX B hl ?_ 6 0 0 rfl rfl
    refine ⟨7, ?_⟩
    exact pl_yCl HY B hl ⟨rfl, i_up I⟩ 6 0 0 rfl rfl
  · refine pl_xL_n hx ?_
    refine br_t rfl ⟨1, br_f (by decide) ?_⟩
    refine pl_yL_n hx ?_
    exact br_t rfl ⟨rfl, i_up I⟩

theorem i_vc_nextFor {k : Nat} {u : SX} {v : SY} (I : i_Rel k u v) (hk : k + 3 ≤ 1536) (v1 : Int32) : wpX_nextFor (fun r => wpY_nextFor (fun r' v' => r' = r ∧ i_Rel (k + 3) u v') v v1) u v1 := by
  obtain ⟨f, ba, ho, aw, wn⟩ := u
  obtain ⟨g, bs, hd, wa, si, ur⟩ := v
  have I2 := I
  obtain ⟨b, w, o, n, c, B, hc, hn, e1, e2, HX, HY⟩ := I2
  have ef : f = nI c := e1
  have eg : g = nI c := e2
  have HX : pl_HX b w o n ba ho aw wn := HX
  have HY : pl_HY b w o n bs hd wa si := HY
  have hn2 : ∀ t, t < 6 → n t < 2 ^ 30 := fun t ht => Nat.lt_of_le_of_lt (hn t ht) (by omega)
  have hn3 : ∀ t, t < 6 → n t ≤ k + 3 := fun t ht => Nat.le_trans (hn t ht) (by omega)
  obtain ⟨U, hU⟩ := pl_Ur_ex (pl_G w o) b
  unfold wpX_nextFor
  dsimp only
  rcases pl_a5 v1 with ⟨l, hl, rfl⟩ | hx
  · refine pl_xL_y hl ?_
    refine br_f (by decide) ?_
    refine pl_xM HX B hU hn2 hl ?_
    exact pl_yN HY B hU hn2 hl fun ur' => ⟨rfl, pl_ur I ur'⟩
  · refine pl_xL_n hx ?_
    refine br_t rfl ?_
    exact pl_yN_n HY B hx fun ur' => ⟨rfl, pl_ur I ur'⟩

theorem i_vc_held {k : Nat} {u : SX} {v : SY} (I : i_Rel k u v) (hk : k + 3 ≤ 1536) (v1 : Int32) : wpX_held (fun r => wpY_held (fun r' => r' = r ∧ i_Rel (k + 3) u v) v v1) u v1 := by
  obtain ⟨f, ba, ho, aw, wn⟩ := u
  obtain ⟨g, bs, hd, wa, si, ur⟩ := v
  have I2 := I
  obtain ⟨b, w, o, n, c, B, hc, hn, e1, e2, HX, HY⟩ := I2
  have ef : f = nI c := e1
  have eg : g = nI c := e2
  have HX : pl_HX b w o n ba ho aw wn := HX
  have HY : pl_HY b w o n bs hd wa si := HY
  have hn2 : ∀ t, t < 6 → n t < 2 ^ 30 := fun t ht => Nat.lt_of_le_of_lt (hn t ht) (by omega)
  have hn3 : ∀ t, t < 6 → n t ≤ k + 3 := fun t ht => Nat.le_trans (hn t ht) (by omega)
  unfold wpX_held wpY_held
  dsimp only
  rcases pl_a6 v1 with ⟨t, ht, rfl⟩ | hx
  · refine pl_xT_y ht ?_
    refine br_f (by decide) ⟨6, ?_⟩
    refine pl_xHl HX B ht (fun m M => ?_) 5 0 0 rfl (pl_Bt_0 _)
    refine ⟨6, ?_⟩
    refine pl_yKl HY B ht (fun m' M' => ⟨?_, i_up I⟩) 5 0 0 rfl (pl_Bt_0 _)
    rw [pl_Bt_u M M']
  · refine pl_xT_n hx ?_
    refine br_t rfl ⟨1, br_f (by decide) ?_⟩
    refine pl_yT_n hx ?_
    exact br_t rfl ⟨rfl, i_up I⟩

theorem i_vc_running {k : Nat} {u : SX} {v : SY} (I : i_Rel k u v) (hk : k + 3 ≤ 1536) : wpX_running (fun r => wpY_running (fun r' v' => r' = r ∧ i_Rel (k + 3) u v') v) u := by
  obtain ⟨f, ba, ho, aw, wn⟩ := u
  obtain ⟨g, bs, hd, wa, si, ur⟩ := v
  have I2 := I
  obtain ⟨b, w, o, n, c, B, hc, hn, e1, e2, HX, HY⟩ := I2
  have ef : f = nI c := e1
  have eg : g = nI c := e2
  have HX : pl_HX b w o n ba ho aw wn := HX
  have HY : pl_HY b w o n bs hd wa si := HY
  have hn2 : ∀ t, t < 6 → n t < 2 ^ 30 := fun t ht => Nat.lt_of_le_of_lt (hn t ht) (by omega)
  have hn3 : ∀ t, t < 6 → n t ≤ k + 3 := fun t ht => Nat.le_trans (hn t ht) (by omega)
  obtain ⟨U, hU⟩ := pl_Ur_ex (pl_G w o) b
  unfold wpX_running wpY_running
  dsimp only
  refine ⟨7, ?_⟩
  refine pl_xRl HX B hU ?_ 6 0 0 (-1) rfl rfl (fun _ => rfl) (fun _ z => nomatch z)
  refine pl_yL HY B hU fun ur' A => ?_
  refine ⟨7, ?_⟩
  exact pl_yRl HY B hU A ⟨rfl, pl_ur I ur'⟩ 6 0 0 rfl rfl

theorem i_vc_waitingOn {k : Nat} {u : SX} {v : SY} (I : i_Rel k u v) (hk : k + 3 ≤ 1536) (v1 : Int32) : wpX_waitingOn (fun r => wpY_waitingOn (fun r' => r' = r ∧ i_Rel (k + 3) u v) v v1) u v1 := by
  obtain ⟨f, ba, ho, aw, wn⟩ := u
  obtain ⟨g, bs, hd, wa, si, ur⟩ := v
  have I2 := I
  obtain ⟨b, w, o, n, c, B, hc, hn, e1, e2, HX, HY⟩ := I2
  have ef : f = nI c := e1
  have eg : g = nI c := e2
  have HX : pl_HX b w o n ba ho aw wn := HX
  have HY : pl_HY b w o n bs hd wa si := HY
  have hn2 : ∀ t, t < 6 → n t < 2 ^ 30 := fun t ht => Nat.lt_of_le_of_lt (hn t ht) (by omega)
  have hn3 : ∀ t, t < 6 → n t ≤ k + 3 := fun t ht => Nat.le_trans (hn t ht) (by omega)
  unfold wpX_waitingOn wpY_waitingOn
  dsimp only
  rcases pl_a6 v1 with ⟨t, ht, rfl⟩ | hx
  · refine pl_xT_y ht ?_
    refine br_f (by decide) ⟨7, ?_⟩
    refine pl_xOl HX B ht (fun m M => ?_) 6 0 0 rfl (pl_Bt_0 _)
    refine pl_yT_y ht ?_
    refine br_f (by decide) ?_
    refine pl_yH HY B ht fun m' M' => ⟨?_, i_up I⟩
    rw [pl_Bt_u M M']
  · refine pl_xT_n hx ?_
    refine br_t rfl ?_
    refine pl_yT_n hx ?_
    exact br_t rfl ⟨rfl, i_up I⟩

theorem i_vc_lifted {k : Nat} {u : SX} {v : SY} (I : i_Rel k u v) (hk : k + 3 ≤ 1536) : wpX_lifted (fun r => wpY_lifted (fun r' v' => r' = r ∧ i_Rel (k + 3) u v') v) u := by
  obtain ⟨f, ba, ho, aw, wn⟩ := u
  obtain ⟨g, bs, hd, wa, si, ur⟩ := v
  have I2 := I
  obtain ⟨b, w, o, n, c, B, hc, hn, e1, e2, HX, HY⟩ := I2
  have ef : f = nI c := e1
  have eg : g = nI c := e2
  have HX : pl_HX b w o n ba ho aw wn := HX
  have HY : pl_HY b w o n bs hd wa si := HY
  have hn2 : ∀ t, t < 6 → n t < 2 ^ 30 := fun t ht => Nat.lt_of_le_of_lt (hn t ht) (by omega)
  have hn3 : ∀ t, t < 6 → n t ≤ k + 3 := fun t ht => Nat.le_trans (hn t ht) (by omega)
  obtain ⟨U, hU⟩ := pl_Ur_ex (pl_G w o) b
  unfold wpX_lifted wpY_lifted
  dsimp only
  refine ⟨7, ?_⟩
  refine pl_xFl HX B hU (fun m M => ?_) 6 0 0 rfl (pl_Bt_0 _)
  refine pl_yL HY B hU fun ur' A => ?_
  refine ⟨7, ?_⟩
  refine pl_yFl HY B hU A (fun m' M' => ⟨?_, pl_ur I ur'⟩) 6 0 0 rfl (pl_Bt_0 _)
  rw [pl_Bt_u M M']
end

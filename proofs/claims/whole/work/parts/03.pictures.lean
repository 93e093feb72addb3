/-! the pure picture: b bases, w what a thread waits for (0, or lock + 1), o owners (0, or thread + 1), n wait numbers -/
def pl_up (f : Nat → Nat) (k v : Nat) : Nat → Nat := fun x => if x = k then v else f x

theorem pl_up_s (f : Nat → Nat) (k v : Nat) : pl_up f k v k = v := if_pos rfl
theorem pl_up_n (f : Nat → Nat) {k v x : Nat} (h : x ≠ k) : pl_up f k v x = f x := if_neg h

def pl_ar (N : Nat) (g : Nat → Int32) (f : Nat → Nat) (a : Nat → Int32) : Prop := ∀ t, t < N → a t = g (f t)

theorem pl_ar_up {N : Nat} {g : Nat → Int32} {f : Nat → Nat} {a : Nat → Int32} (h : pl_ar N g f a) (k v : Nat) {x : Int32} (e : x = g v) : pl_ar N g (pl_up f k v) (upd a k x) := by
  intro t ht
  show (if t = k then x else a t) = g (if t = k then v else f t)
  by_cases c : t = k
  · rw [if_pos c, if_pos c]; exact e
  · rw [if_neg c, if_neg c]; exact h t ht

def pl_Bd (b w o : Nat → Nat) : Prop := (∀ t, t < 6 → b t ≤ 9) ∧ (∀ t, t < 6 → w t ≤ 5) ∧ (∀ l, l < 5 → o l ≤ 6)

theorem pl_up_le {f : Nat → Nat} {N m k v : Nat} (h : ∀ t, t < N → f t ≤ m) (hv : v ≤ m) : ∀ t, t < N → pl_up f k v t ≤ m := by
  intro t ht
  show (if t = k then v else f t) ≤ m
  by_cases c : t = k
  · rw [if_pos c]; exact hv
  · rw [if_neg c]; exact h t ht

def pl_G (w o : Nat → Nat) : Nat → Nat
  | 0 => 0
  | j + 1 => if w j = 0 then 0 else o (w j - 1)

theorem pl_G_0 {w o : Nat → Nat} {j : Nat} (h : w j = 0) : pl_G w o (j + 1) = 0 := if_pos h
theorem pl_G_n {w o : Nat → Nat} {j : Nat} (h : ¬ w j = 0) : pl_G w o (j + 1) = o (w j - 1) := if_neg h

theorem pl_G_ok {b w o : Nat → Nat} (h : pl_Bd b w o) : pl_ok (pl_G w o) := by
  refine ⟨rfl, fun x hx => ?_⟩
  cases x with
  | zero => exact Nat.zero_le _
  | succ j =>
    have hw := h.2.1 j (by omega)
    by_cases e : w j = 0
    · rw [pl_G_0 e]; exact Nat.zero_le _
    · rw [pl_G_n e]; exact h.2.2 (w j - 1) (by omega)

theorem pl_U_le {b w o U : Nat → Nat} (h : pl_Bd b w o) (hU : pl_Ur (pl_G w o) b U) {t : Nat} (ht : t < 6) : U t ≤ 9 := pl_M2_le ht h.1 (hU t)

/-- the next holder of lock l, among the threads below the count: 0, or thread + 1 -/
def pl_nb (w U n : Nat → Nat) (l : Nat) : Nat → Nat
  | 0 => 0
  | t + 1 => if w t = l + 1 ∧ (pl_nb w U n l t = 0 ∨ U (pl_nb w U n l t - 1) < U t ∨ (U t = U (pl_nb w U n l t - 1) ∧ n t < n (pl_nb w U n l t - 1))) then t + 1 else pl_nb w U n l t

theorem pl_nb_r (w U n : Nat → Nat) (l : Nat) : ∀ t, pl_nb w U n l t ≤ t ∧ (¬ pl_nb w U n l t = 0 → w (pl_nb w U n l t - 1) = l + 1) := by
  intro t
  induction t with
  | zero => exact ⟨Nat.le_refl 0, fun h => absurd rfl h⟩
  | succ t ih =>
    unfold pl_nb
    split
    · rename_i h
      exact ⟨Nat.le_refl _, fun _ => h.1⟩
    · exact ⟨by omega, ih.2⟩

theorem pl_nb_on {w U n : Nat → Nat} {l t r : Nat} (e : pl_nb w U n l t = r) (h : w t = l + 1) (h2 : r = 0 ∨ U (r - 1) < U t ∨ (U t = U (r - 1) ∧ n t < n (r - 1))) : pl_nb w U n l (t + 1) = t + 1 := by
  subst e
  exact if_pos ⟨h, h2⟩

theorem pl_nb_off {w U n : Nat → Nat} {l t r : Nat} (e : pl_nb w U n l t = r) (h : ¬ (w t = l + 1 ∧ (r = 0 ∨ U (r - 1) < U t ∨ (U t = U (r - 1) ∧ n t < n (r - 1))))) : pl_nb w U n l (t + 1) = r := by
  subst e
  exact if_neg h

/-- the running thread, among those below the count: 0, or thread + 1 -/
def pl_ru (w U : Nat → Nat) : Nat → Nat
  | 0 => 0
  | t + 1 => if w t = 0 ∧ (pl_ru w U t = 0 ∨ U (pl_ru w U t - 1) < U t) then t + 1 else pl_ru w U t

theorem pl_ru_r (w U : Nat → Nat) : ∀ t, pl_ru w U t ≤ t := by
  intro t
  induction t with
  | zero => exact Nat.le_refl 0
  | succ t ih =>
    unfold pl_ru
    split <;> omega

theorem pl_ru_on {w U : Nat → Nat} {t r : Nat} (e : pl_ru w U t = r) (h : w t = 0) (h2 : r = 0 ∨ U (r - 1) < U t) : pl_ru w U (t + 1) = t + 1 := by
  subst e
  exact if_pos ⟨h, h2⟩

theorem pl_ru_off {w U : Nat → Nat} {t r : Nat} (e : pl_ru w U t = r) (h : ¬ (w t = 0 ∧ (r = 0 ∨ U (r - 1) < U t))) : pl_ru w U (t + 1) = r := by
  subst e
  exact if_neg h

/-- how many threads below the count wait for lock l -/
def pl_ct (w : Nat → Nat) (l : Nat) : Nat → Nat
  | 0 => 0
  | t + 1 => if w t = l + 1 then pl_ct w l t + 1 else pl_ct w l t

theorem pl_ct_on {w : Nat → Nat} {l t r : Nat} (e : pl_ct w l t = r) (h : w t = l + 1) : pl_ct w l (t + 1) = r + 1 := by
  subst e
  exact if_pos h

theorem pl_ct_off {w : Nat → Nat} {l t r : Nat} (e : pl_ct w l t = r) (h : ¬ w t = l + 1) : pl_ct w l (t + 1) = r := by
  subst e
  exact if_neg h

theorem pl_nb_0 {w U n : Nat → Nat} {l t : Nat} (e : pl_nb w U n l t = 0) (h : w t = l + 1) : pl_nb w U n l (t + 1) = t + 1 := pl_nb_on e h (Or.inl rfl)
theorem pl_nb_y {w U n : Nat → Nat} {l t q : Nat} (e : pl_nb w U n l t = q + 1) (h : w t = l + 1) (h2 : U q < U t ∨ (U t = U q ∧ n t < n q)) : pl_nb w U n l (t + 1) = t + 1 := pl_nb_on e h (Or.inr h2)
theorem pl_nb_w {w U n : Nat → Nat} {l t r : Nat} (e : pl_nb w U n l t = r) (h : ¬ w t = l + 1) : pl_nb w U n l (t + 1) = r := pl_nb_off e fun z => h z.1
theorem pl_nb_n {w U n : Nat → Nat} {l t q : Nat} (e : pl_nb w U n l t = q + 1) (h2 : ¬ (U q < U t ∨ (U t = U q ∧ n t < n q))) : pl_nb w U n l (t + 1) = q + 1 := by
  refine pl_nb_off e fun z => ?_
  rcases z.2 with z | z
  · exact absurd z (Nat.succ_ne_zero q)
  · exact h2 z

theorem pl_ru_0 {w U : Nat → Nat} {t : Nat} (e : pl_ru w U t = 0) (h : w t = 0) : pl_ru w U (t + 1) = t + 1 := pl_ru_on e h (Or.inl rfl)
theorem pl_ru_y {w U : Nat → Nat} {t q : Nat} (e : pl_ru w U t = q + 1) (h : w t = 0) (h2 : U q < U t) : pl_ru w U (t + 1) = t + 1 := pl_ru_on e h (Or.inr h2)
theorem pl_ru_w {w U : Nat → Nat} {t r : Nat} (e : pl_ru w U t = r) (h : ¬ w t = 0) : pl_ru w U (t + 1) = r := pl_ru_off e fun z => h z.1
theorem pl_ru_n {w U : Nat → Nat} {t q : Nat} (e : pl_ru w U t = q + 1) (h2 : ¬ U q < U t) : pl_ru w U (t + 1) = q + 1 := by
  refine pl_ru_off e fun z => ?_
  rcases z.2 with z | z
  · exact absurd z (Nat.succ_ne_zero q)
  · exact h2 z

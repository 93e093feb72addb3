/-! the reference: its small methods, lend, behind -/
def pl_HY (b w o n : Nat → Nat) (bs hd wa si : Nat → Int32) : Prop := pl_ar 6 nI b bs ∧ pl_ar 5 nI o hd ∧ pl_ar 6 nI w wa ∧ ∀ t, t < 6 → ¬ w t = 0 → si t = nI (n t + 1)

theorem pl_gt {x : Int32} {m : Nat} (hm : m < 2 ^ 30) (h : nI (m + 1) ≤ x) : nI m < x := by
  rw [Int32.le_iff_toInt_le, nI_toInt (by omega)] at h
  rw [Int32.lt_iff_toInt_lt, nI_toInt (by omega)]
  omega

section
variable {g : Int32} {bs hd wa si ur : Nat → Int32} {b w o n U : Nat → Nat} {post : Int32 → Prop} {s t l : Nat}

theorem pl_yT_y (ht : t < 6) (h : post 1) : wpY_thread post (g, bs, hd, wa, si, ur) (nI t) :=
  br_f (nI_pos (by omega)) (br_f (nI_nlt (a := 5) (by omega) (by decide)) h)
theorem pl_yT_n {x : Int32} (hx : ∀ t, t < 6 → ¬ x = nI t) (h : post 0) : wpY_thread post (g, bs, hd, wa, si, ur) x := by
  rcases pk_ix x (n := 6) (by decide) with h1 | h1 | ⟨t, ht, e⟩
  · exact br_t h1 h
  · exact br_f (pl_nn (by decide) h1) (br_t (pl_gt (m := 5) (by decide) h1) h)
  · exact absurd e (hx t ht)
theorem pl_yL_y (ht : t < 5) (h : post 1) : wpY_lock post (g, bs, hd, wa, si, ur) (nI t) :=
  br_f (nI_pos (by omega)) (br_f (nI_nlt (a := 4) (by omega) (by decide)) h)
theorem pl_yL_n {x : Int32} (hx : ∀ t, t < 5 → ¬ x = nI t) (h : post 0) : wpY_lock post (g, bs, hd, wa, si, ur) x := by
  rcases pk_ix x (n := 5) (by decide) with h1 | h1 | ⟨t, ht, e⟩
  · exact br_t h1 h
  · exact br_f (pl_nn (by decide) h1) (br_t (pl_gt (m := 4) (by decide) h1) h)
  · exact absurd e (hx t ht)

theorem pl_n0 {x : Nat} (h : x < 2 ^ 31) : nI x ≤ 0 ↔ x = 0 := by
  have e := nI_leI (a := x) (b := 0) h (by decide)
  exact e.trans (by omega)

theorem pl_yB {K : Int32 → Prop} (H : pl_HY b w o n bs hd wa si) (B : pl_Bd b w o) (ht : t < 6) (h : K (pl_m (pl_G w o (t + 1)))) : ((wa (nI t).toNatClampNeg) ≤ 0 → K (-1)) ∧ (¬ (wa (nI t).toNatClampNeg) ≤ 0 → (vp_in (nI t) 6 ∧ (vp_in ((wa (nI t).toNatClampNeg) - 1) 5 ∧ K ((hd ((wa (nI t).toNatClampNeg) - 1).toNatClampNeg) - 1)))) := by
  have hw := B.2.1 t ht
  rw [pl_c ht, H.2.2.1 t ht]
  refine ek_if (pl_n0 (by omega)) (fun c => ?_) (fun c => ?_)
  · rw [pl_G_0 c] at h
    exact h
  · obtain ⟨l, hl⟩ : ∃ l, w t = l + 1 := ⟨w t - 1, by omega⟩
    have hl5 : l < 5 := by omega
    rw [pl_G_n c, hl, Nat.add_sub_cancel] at h
    rw [hl, nI_pred]
    refine ⟨pl_i6 ht, pl_i5 hl5, ?_⟩
    rw [pl_c (by omega : l < 6), H.2.1 l hl5, pl_m_sub]
    exact h

/-! lend -/
theorem pl_Ls_le {G q : Nat → Nat} (hb : ∀ s, s < 6 → b s ≤ 9) (h : pl_Ls G b q) (ht : t < 6) : q t ≤ 9 := by
  rcases (h t ht).2 with e | ⟨s, hs, _, e⟩
  · have := hb t ht; omega
  · have := hb s hs; omega

theorem pl_yLi {postS : SY → Prop} {J : Int32 → (Nat → Int32) → (Nat → Int32) → (Nat → Int32) → (Nat → Int32) → (Nat → Int32) → Prop} {x1 : Int32} {p : Nat} {q0 : Nat → Nat} (H : pl_HY b w o n bs hd wa si) (B : pl_Bd b w o) (hJ : ∀ (q : Nat → Nat) (ur : Nat → Int32), pl_L2 (pl_G w o) b p 6 q0 q → pl_ar 6 nI q ur → J (x1 + 1) bs hd wa si ur) : ∀ d j (q : Nat → Nat) (ur : Nat → Int32), j + d = 6 → pl_L2 (pl_G w o) b p j q0 q → pl_ar 6 nI q ur → wY_lend_36 postS J x1 g (d + 1) (nI j) bs hd wa si ur := by
  intro d
  induction d with
  | zero =>
    intro j q ur hj L A
    have hj6 : j = 6 := by omega
    subst hj6
    refine br_t (nI_le (a := 6) (by omega) (by omega)) fun x ex => ?_
    rw [ex]
    exact hJ q ur L A
  | succ d ih =>
    intro j q ur hj L A
    have hj6 : j < 6 := by omega
    have hG := (pl_G_ok B).2 (j + 1) (by omega)
    have hqj := pl_Ls_le B.1 L.2.1 hj6
    refine br_f (nI_ge (b := 6) hj6 (by decide)) ⟨pl_i6 hj6, ?_⟩
    refine pl_yB (K := fun z => wY_lend_70 postS J (wY_lend_36 postS J x1 g (d + 1)) x1 (nI j) z g bs hd wa si ur) H B hj6 ?_
    cases hx : pl_G w o (j + 1) with
    | zero =>
      refine br_t (by decide) fun x ex => ?_
      rw [ex, nI_1]
      refine ih (j + 1) q ur (by omega) (pl_L2_off L hj6 fun h e => ?_) A
      rw [hx] at e
      exact nomatch e
    | succ h =>
      have hh : h < 6 := by omega
      have hqh := pl_Ls_le B.1 L.2.1 hh
      show wY_lend_70 postS J (wY_lend_36 postS J x1 g (d + 1)) x1 (nI j) (nI h) g bs hd wa si ur
      refine br_f (nI_pos (by omega)) ⟨pl_i6 hj6, pl_i6 hh, ?_⟩
      rw [pl_c hj6, pl_c hh, A j hj6, A h hh]
      refine ek_if (nI_leI (by omega) (by omega)) (fun c => ?_) (fun c => ?_)
      · intro x ex
        rw [ex, nI_1]
        refine ih (j + 1) q ur (by omega) (pl_L2_off L hj6 fun h' e => ?_) A
        rw [hx] at e
        have e2 : h = h' := by omega
        subst e2
        exact c
      · refine ⟨pl_i6 hj6, pl_i6 hh, fun a ea x ex => ?_⟩
        rw [ex, ea, nI_1]
        exact ih (j + 1) (pl_up q h (q j)) _ (by omega) (pl_L2_on (pl_G_ok B) L hj6 hx (by omega)) (pl_ar_up A h (q j) rfl)

theorem pl_yLo {postS : SY → Prop} (H : pl_HY b w o n bs hd wa si) (B : pl_Bd b w o) (hU : pl_Ur (pl_G w o) b U) (h : ∀ ur, pl_ar 6 nI U ur → postS (g, bs, hd, wa, si, ur)) : ∀ d p (q : Nat → Nat) (ur : Nat → Int32), p + d = 6 → pl_L1 (pl_G w o) b p q → pl_ar 6 nI q ur → wY_lend_28 postS g (d + 1) (nI p) bs hd wa si ur := by
  intro d
  induction d with
  | zero =>
    intro p q ur hp L A
    have hp6 : p = 6 := by omega
    subst hp6
    refine br_t (nI_le (a := 6) (by omega) (by omega)) (h ur fun t ht => ?_)
    rw [A t ht, pl_L1_end (pl_G_ok B) hU L t ht]
  | succ d ih =>
    intro p q ur hp L A
    have hp6 : p < 6 := by omega
    refine br_f (nI_ge (b := 6) hp6 (by decide)) ⟨7, ?_⟩
    refine pl_yLi (p := p) (q0 := q) H B (fun q' ur' L' A' => ?_) 6 0 q ur rfl (pl_L2_0 L) A
    rw [nI_1]
    exact ih (p + 1) q' ur' (by omega) (pl_L2_end (pl_G_ok B) L') A'

theorem pl_yLb {postS : SY → Prop} (H : pl_HY b w o n bs hd wa si) (B : pl_Bd b w o) (hU : pl_Ur (pl_G w o) b U) (h : ∀ ur, pl_ar 6 nI U ur → postS (g, bs, hd, wa, si, ur)) : ∀ d t (ur : Nat → Int32), t + d = 6 → pl_ar t nI b ur → wY_lend_2 postS g (d + 1) (nI t) bs hd wa si ur := by
  intro d
  induction d with
  | zero =>
    intro t ur ht A
    have ht6 : t = 6 := by omega
    subst ht6
    exact br_t (nI_le (a := 6) (by omega) (by omega)) ⟨7, pl_yLo H B hU h 6 0 b ur rfl (pl_L1_0 _ b) A⟩
  | succ d ih =>
    intro t ur ht A
    have ht6 : t < 6 := by omega
    refine br_f (nI_ge (b := 6) ht6 (by decide)) ⟨pl_i6 ht6, pl_i6 ht6, fun a ea x ex => ?_⟩
    rw [ex, ea, nI_1, pl_c ht6, H.1 t ht6]
    refine ih (t + 1) _ (by omega) fun s hs => ?_
    by_cases c : s = t
    · subst c; exact pk_us
    · rw [pk_un c]; exact A s (by omega)

theorem pl_yL {postS : SY → Prop} (H : pl_HY b w o n bs hd wa si) (B : pl_Bd b w o) (hU : pl_Ur (pl_G w o) b U) (h : ∀ ur, pl_ar 6 nI U ur → postS (g, bs, hd, wa, si, ur)) : wpY_lend postS (g, bs, hd, wa, si, ur) :=
  ⟨7, pl_yLb H B hU h 6 0 ur rfl fun _ h => absurd h (Nat.not_lt_zero _)⟩

/-! behind -/
theorem pl_yHi {J : Int32 → Int32 → Prop} {x3 : Int32} {p : Nat} (H : pl_HY b w o n bs hd wa si) (B : pl_Bd b w o) (ht : t < 6) (hJ : ∀ m, pl_B2 (pl_G w o) t p 6 m → J (nI m) (x3 + 1)) : ∀ d j m, j + d = 6 → pl_B2 (pl_G w o) t p j m → wY_behind_13 post J (nI t) x3 g bs hd wa si ur (d + 1) (nI m) (nI j) := by
  intro d
  induction d with
  | zero =>
    intro j m hj M
    have hj6 : j = 6 := by omega
    subst hj6
    refine br_t (nI_le (a := 6) (by omega) (by omega)) fun x ex => ?_
    rw [ex]
    exact hJ m M
  | succ d ih =>
    intro j m hj M
    have hj6 : j < 6 := by omega
    have hG := (pl_G_ok B).2 (j + 1) (by omega)
    have hon : ∀ h, pl_G w o (j + 1) = h + 1 → (h = t ∨ m.testBit h = true) → wY_behind_73 post J (wY_behind_13 post J (nI t) x3 g bs hd wa si ur (d + 1)) (nI t) (nI m) x3 (nI j) g bs hd wa si ur := by
      intro h e ho
      refine br_f (by decide) fun x ex y ey => ?_
      rw [ex, ey, nI_1, pl_or m M.1 j hj6]
      exact ih (j + 1) _ (by omega) (pl_B2_on M hj6 e (by omega) ho)
    have hoff : (∀ h, pl_G w o (j + 1) = h + 1 → ¬ (h = t ∨ m.testBit h = true)) → wY_behind_77 post J (wY_behind_13 post J (nI t) x3 g bs hd wa si ur (d + 1)) (nI t) (nI m) x3 (nI j) g bs hd wa si ur := by
      intro ho
      refine br_t rfl fun y ey => ?_
      rw [ey, nI_1]
      exact ih (j + 1) m (by omega) (pl_B2_off (pl_G_ok B) M hj6 ho)
    refine br_f (nI_ge (b := 6) hj6 (by decide)) ⟨pl_i6 hj6, ?_⟩
    refine pl_yB (K := fun z => wY_behind_50 post J (wY_behind_13 post J (nI t) x3 g bs hd wa si ur (d + 1)) (nI t) (nI m) x3 (nI j) z g bs hd wa si ur) H B hj6 ?_
    cases hx : pl_G w o (j + 1) with
    | zero =>
      refine br_t (by decide) (hoff fun h e => ?_)
      rw [hx] at e
      exact nomatch e
    | succ h =>
      have hh : h < 6 := by omega
      show wY_behind_50 post J (wY_behind_13 post J (nI t) x3 g bs hd wa si ur (d + 1)) (nI t) (nI m) x3 (nI j) (nI h) g bs hd wa si ur
      refine br_f (nI_pos (by omega)) ?_
      refine ek_if (nI_eq (by omega) (by omega)) (fun c => ?_) (fun c => ?_)
      · exact hon h hx (Or.inl c)
      · refine ek_if (pl_bit m M.1 h hh) (fun c2 => ?_) (fun c2 => ?_)
        · exact hon h hx (Or.inr c2)
        · refine hoff fun h' e => ?_
          rw [hx] at e
          have e2 : h = h' := by omega
          subst e2
          exact fun z => z.elim c c2

theorem pl_yHo (H : pl_HY b w o n bs hd wa si) (B : pl_Bd b w o) (ht : t < 6) (h : ∀ m, pl_Bt (fun s => pl_T (pl_G w o) s t) 6 m → post (nI m)) : ∀ d p m, p + d = 6 → pl_B2 (pl_G w o) t p 0 m → wY_behind_4 post (nI t) g bs hd wa si ur (d + 1) (nI m) (nI p) := by
  intro d
  induction d with
  | zero =>
    intro p m hp M
    have hp6 : p = 6 := by omega
    subst hp6
    exact br_t (nI_le (a := 6) (by omega) (by omega)) (h m (pl_B2_end (pl_G_ok B) M))
  | succ d ih =>
    intro p m hp M
    have hp6 : p < 6 := by omega
    refine br_f (nI_ge (b := 6) hp6 (by decide)) ⟨7, ?_⟩
    refine pl_yHi (p := p) H B ht (fun m' M' => ?_) 6 0 m rfl M
    rw [nI_1]
    exact ih (p + 1) m' (by omega) (pl_B2_next M')

theorem pl_yH (H : pl_HY b w o n bs hd wa si) (B : pl_Bd b w o) (ht : t < 6) (h : ∀ m, pl_Bt (fun s => pl_T (pl_G w o) s t) 6 m → post (nI m)) : wpY_behind post (g, bs, hd, wa, si, ur) (nI t) :=
  ⟨7, pl_yHo H B ht h 6 0 0 rfl (pl_B2_00 _ t)⟩
end

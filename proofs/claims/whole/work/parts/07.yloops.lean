/-! the reference: the loops over threads and locks -/
section
variable {g : Int32} {bs hd wa si ur : Nat → Int32} {b w o n U : Nat → Nat} {post : Int32 → Prop} {postS : Int32 → SY → Prop} {t l : Nat}

theorem pl_yNl (H : pl_HY b w o n bs hd wa si) (B : pl_Bd b w o) (hU : pl_Ur (pl_G w o) b U) (hn : ∀ t, t < 6 → n t < 2 ^ 30) (A : pl_ar 6 nI U ur) (hl : l < 5) (h : postS (pl_m (pl_nb w U n l 6)) (g, bs, hd, wa, si, ur)) : ∀ d t r, t + d = 6 → pl_nb w U n l t = r → wY_nextFor_8 postS (nI l) g bs hd wa si ur (d + 1) (pl_m r) (nI t) := by
  intro d
  induction d with
  | zero =>
    intro t r ht e
    have ht6 : t = 6 := by omega
    subst ht6
    subst e
    exact br_t (nI_le (a := 6) (by omega) (by omega)) h
  | succ d ih =>
    intro t r ht e
    have ht6 : t < 6 := by omega
    have hr := (pl_nb_r w U n l t).1
    have hrw := (pl_nb_r w U n l t).2
    have hw := B.2.1 t ht6
    have hUt := pl_U_le B hU ht6
    have hnt := hn t ht6
    rw [e] at hr hrw
    have hon : pl_nb w U n l (t + 1) = t + 1 → wY_nextFor_83 postS (wY_nextFor_8 postS (nI l) g bs hd wa si ur (d + 1)) (nI l) (pl_m r) (nI t) g bs hd wa si ur := by
      intro e2
      refine br_f (by decide) fun x ex => ?_
      rw [ex, nI_1]
      exact ih (t + 1) (t + 1) (by omega) e2
    have hoff : pl_nb w U n l (t + 1) = r → wY_nextFor_87 postS (wY_nextFor_8 postS (nI l) g bs hd wa si ur (d + 1)) (nI l) (pl_m r) (nI t) g bs hd wa si ur := by
      intro e2
      refine br_t rfl fun x ex => ?_
      rw [ex, nI_1]
      exact ih (t + 1) r (by omega) e2
    refine br_f (nI_ge (b := 6) ht6 (by decide)) ?_
    refine pl_yL_y hl ?_
    refine br_f (by decide) ⟨pl_i6 ht6, ?_⟩
    rw [pl_c ht6, H.2.2.1 t ht6, nI_1 l]
    refine ek_if (nI_eq (by omega) (by omega)) (fun c => ?_) (fun c => ?_)
    · refine ek_if (pl_m_neg r (by omega)) (fun z => ?_) (fun z => ?_)
      · subst z
        exact hon (pl_nb_0 e c)
      · obtain ⟨q, rfl⟩ : ∃ q, r = q + 1 := ⟨r - 1, by omega⟩
        have hq6 : q < 6 := by omega
        have hUq := pl_U_le B hU hq6
        have hnq := hn q hq6
        have hwq : w q = l + 1 := hrw z
        have cq : (pl_m (q + 1)).toNatClampNeg = q := pl_c hq6
        refine ⟨pl_i6 ht6, pl_i6 hq6, ?_⟩
        rw [cq, A t ht6, A q hq6]
        refine ek_if (nI_ltI (by omega) (by omega)) (fun c2 => ?_) (fun c2 => ?_)
        · exact hon (pl_nb_y e c (Or.inl c2))
        · refine ⟨pl_i6 ht6, pl_i6 hq6, ?_⟩
          refine ek_if (nI_eq (by omega) (by omega)) (fun c3 => ?_) (fun c3 => ?_)
          · refine ⟨pl_i6 ht6, pl_i6 hq6, ?_⟩
            rw [H.2.2.2 t ht6 (by omega), H.2.2.2 q hq6 (by omega)]
            refine ek_if (nI_leI (by omega) (by omega)) (fun c4 => ?_) (fun c4 => ?_)
            · exact hoff (pl_nb_n e (by omega))
            · exact hon (pl_nb_y e c (Or.inr ⟨c3, by omega⟩))
          · exact hoff (pl_nb_n e (by omega))
    · intro x ex
      rw [ex, nI_1]
      exact ih (t + 1) r (by omega) (pl_nb_w e c)

theorem pl_yN (H : pl_HY b w o n bs hd wa si) (B : pl_Bd b w o) (hU : pl_Ur (pl_G w o) b U) (hn : ∀ t, t < 6 → n t < 2 ^ 30) (hl : l < 5) (h : ∀ ur, postS (pl_m (pl_nb w U n l 6)) (g, bs, hd, wa, si, ur)) : wpY_nextFor postS (g, bs, hd, wa, si, ur) (nI l) := by
  unfold wpY_nextFor
  dsimp only
  refine pl_yL H B hU fun ur' A => ?_
  exact ⟨7, pl_yNl H B hU hn A hl (h ur') 6 0 0 rfl rfl⟩

theorem pl_yN_n {x : Int32} (H : pl_HY b w o n bs hd wa si) (B : pl_Bd b w o) (hx : ∀ t, t < 5 → ¬ x = nI t) (h : ∀ ur, postS (-1) (g, bs, hd, wa, si, ur)) : wpY_nextFor postS (g, bs, hd, wa, si, ur) x := by
  obtain ⟨U, hU⟩ := pl_Ur_ex (pl_G w o) b
  unfold wpY_nextFor
  dsimp only
  refine pl_yL H B hU fun ur' A => ?_
  refine ⟨1, br_f (by decide) ?_⟩
  refine pl_yL_n hx ?_
  exact br_t rfl (h ur')

theorem pl_yCl (H : pl_HY b w o n bs hd wa si) (B : pl_Bd b w o) (hl : l < 5) (h : post (nI (pl_ct w l 6))) : ∀ d t r, t + d = 6 → pl_ct w l t = r → wY_waiting_4 post (nI l) g bs hd wa si ur (d + 1) (nI r) (nI t) := by
  intro d
  induction d with
  | zero =>
    intro t r ht e
    have ht6 : t = 6 := by omega
    subst ht6
    subst e
    exact br_t (nI_le (a := 6) (by omega) (by omega)) h
  | succ d ih =>
    intro t r ht e
    have ht6 : t < 6 := by omega
    have hw := B.2.1 t ht6
    refine br_f (nI_ge (b := 6) ht6 (by decide)) ?_
    refine pl_yL_y hl ?_
    refine br_f (by decide) ⟨pl_i6 ht6, ?_⟩
    rw [pl_c ht6, H.2.2.1 t ht6, nI_1 l]
    refine ek_if (nI_eq (by omega) (by omega)) (fun c => ?_) (fun c => ?_)
    · intro x ex y ey
      rw [ex, ey, nI_1, nI_1]
      exact ih (t + 1) (r + 1) (by omega) (pl_ct_on e c)
    · intro y ey
      rw [ey, nI_1]
      exact ih (t + 1) r (by omega) (pl_ct_off e c)

theorem pl_yKl (H : pl_HY b w o n bs hd wa si) (B : pl_Bd b w o) (ht : t < 6) (h : ∀ m, pl_Bt (fun l => o l = t + 1) 5 m → post (nI m)) : ∀ d l m, l + d = 5 → pl_Bt (fun l => o l = t + 1) l m → wY_held_4 post (nI t) g bs hd wa si ur (d + 1) (nI m) (nI l) := by
  intro d
  induction d with
  | zero =>
    intro l m hl M
    have hl5 : l = 5 := by omega
    subst hl5
    exact br_t (nI_le (a := 5) (by omega) (by omega)) (h m M)
  | succ d ih =>
    intro l m hl M
    have hl5 : l < 5 := by omega
    have ho' := B.2.2 l hl5
    refine br_f (nI_ge (b := 5) hl5 (by decide)) ?_
    refine pl_yT_y ht ?_
    refine br_f (by decide) ⟨pl_i5 hl5, ?_⟩
    rw [pl_c (by omega : l < 6), H.2.1 l hl5, nI_1 t]
    refine ek_if (nI_eq (by omega) (by omega)) (fun c => ?_) (fun c => ?_)
    · intro x ex y ey
      rw [ex, ey, nI_1, pl_or m M.1 l (by omega)]
      exact ih (l + 1) _ (by omega) (pl_Bt_on M (by omega) c)
    · intro y ey
      rw [ey, nI_1]
      exact ih (l + 1) m (by omega) (pl_Bt_off M c)

theorem pl_yRl (H : pl_HY b w o n bs hd wa si) (B : pl_Bd b w o) (hU : pl_Ur (pl_G w o) b U) (A : pl_ar 6 nI U ur) (h : postS (pl_m (pl_ru w U 6)) (g, bs, hd, wa, si, ur)) : ∀ d t r, t + d = 6 → pl_ru w U t = r → wY_running_8 postS g bs hd wa si ur (d + 1) (pl_m r) (nI t) := by
  intro d
  induction d with
  | zero =>
    intro t r ht e
    have ht6 : t = 6 := by omega
    subst ht6
    subst e
    exact br_t (nI_le (a := 6) (by omega) (by omega)) h
  | succ d ih =>
    intro t r ht e
    have ht6 : t < 6 := by omega
    have hr := pl_ru_r w U t
    have hw := B.2.1 t ht6
    have hUt := pl_U_le B hU ht6
    rw [e] at hr
    refine br_f (nI_ge (b := 6) ht6 (by decide)) ⟨pl_i6 ht6, ?_⟩
    rw [pl_c ht6, H.2.2.1 t ht6]
    refine ek_if (nI_eq (b := 0) (by omega) (by decide)) (fun c => ?_) (fun c => ?_)
    · refine ek_if (pl_m_neg r (by omega)) (fun z => ?_) (fun z => ?_)
      · subst z
        intro x ex
        rw [ex, nI_1]
        exact ih (t + 1) (t + 1) (by omega) (pl_ru_0 e c)
      · obtain ⟨q, rfl⟩ : ∃ q, r = q + 1 := ⟨r - 1, by omega⟩
        have hq6 : q < 6 := by omega
        have hUq := pl_U_le B hU hq6
        have cq : (pl_m (q + 1)).toNatClampNeg = q := pl_c hq6
        refine ⟨pl_i6 ht6, pl_i6 hq6, ?_⟩
        rw [cq, A t ht6, A q hq6]
        refine ek_if (nI_leI (by omega) (by omega)) (fun c2 => ?_) (fun c2 => ?_)
        · intro x ex
          rw [ex, nI_1]
          exact ih (t + 1) (q + 1) (by omega) (pl_ru_n e (by omega))
        · intro x ex
          rw [ex, nI_1]
          exact ih (t + 1) (t + 1) (by omega) (pl_ru_y e c (by omega))
    · intro x ex
      rw [ex, nI_1]
      exact ih (t + 1) r (by omega) (pl_ru_w e c)

theorem pl_yFl (H : pl_HY b w o n bs hd wa si) (B : pl_Bd b w o) (hU : pl_Ur (pl_G w o) b U) (A : pl_ar 6 nI U ur) (h : ∀ m, pl_Bt (fun t => b t < U t) 6 m → postS (nI m) (g, bs, hd, wa, si, ur)) : ∀ d t m, t + d = 6 → pl_Bt (fun t => b t < U t) t m → wY_lifted_8 postS g bs hd wa si ur (d + 1) (nI m) (nI t) := by
  intro d
  induction d with
  | zero =>
    intro t m ht M
    have ht6 : t = 6 := by omega
    subst ht6
    exact br_t (nI_le (a := 6) (by omega) (by omega)) (h m M)
  | succ d ih =>
    intro t m ht M
    have ht6 : t < 6 := by omega
    have hUt := pl_U_le B hU ht6
    have hb := B.1 t ht6
    refine br_f (nI_ge (b := 6) ht6 (by decide)) ⟨pl_i6 ht6, pl_i6 ht6, ?_⟩
    rw [pl_c ht6, H.1 t ht6, A t ht6]
    refine ek_if (nI_leI (by omega) (by omega)) (fun c => ?_) (fun c => ?_)
    · intro y ey
      rw [ey, nI_1]
      exact ih (t + 1) m (by omega) (pl_Bt_off M (Nat.not_lt.mpr c))
    · intro x ex y ey
      rw [ex, ey, nI_1, pl_or m M.1 t ht6]
      exact ih (t + 1) _ (by omega) (pl_Bt_on M ht6 (Nat.lt_of_not_le c))
end

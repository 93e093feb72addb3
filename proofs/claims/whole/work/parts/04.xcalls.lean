/-! the class: its small methods, its search, its urgency -/
theorem pl_nn {n : Nat} {x : Int32} (hn : n < 2 ^ 31) (h : nI n ≤ x) : ¬ x < 0 := Int32.not_lt.mpr (Int32.le_trans (nI_pos' hn) h)
theorem pl_c {t : Nat} (h : t < 6) : (nI t).toNatClampNeg = t := nI_clamp (by omega)
theorem pl_i6 {t : Nat} (h : t < 6) : vp_in (nI t) 6 := vp_in_nI h (by decide)
theorem pl_i5 {t : Nat} (h : t < 5) : vp_in (nI t) 5 := vp_in_nI h (by decide)

theorem pl_xT_y {post : Int32 → Prop} {t : Nat} (ht : t < 6) (h : post 1) : wpX_isThread post (nI t) :=
  br_f (nI_pos (by omega)) (br_f (nI_ge (b := 6) ht (by decide)) h)
theorem pl_xT_n {post : Int32 → Prop} {x : Int32} (hx : ∀ t, t < 6 → ¬ x = nI t) (h : post 0) : wpX_isThread post x := by
  rcases pk_ix x (n := 6) (by decide) with h1 | h1 | ⟨t, ht, e⟩
  · exact br_t h1 h
  · exact br_f (pl_nn (by decide) h1) (br_t h1 h)
  · exact absurd e (hx t ht)
theorem pl_xL_y {post : Int32 → Prop} {t : Nat} (ht : t < 5) (h : post 1) : wpX_isLock post (nI t) :=
  br_f (nI_pos (by omega)) (br_f (nI_ge (b := 5) ht (by decide)) h)
theorem pl_xL_n {post : Int32 → Prop} {x : Int32} (hx : ∀ t, t < 5 → ¬ x = nI t) (h : post 0) : wpX_isLock post x := by
  rcases pk_ix x (n := 5) (by decide) with h1 | h1 | ⟨t, ht, e⟩
  · exact br_t h1 h
  · exact br_f (pl_nn (by decide) h1) (br_t h1 h)
  · exact absurd e (hx t ht)

def pl_HX (b w o n : Nat → Nat) (ba ho aw wn : Nat → Int32) : Prop := pl_ar 6 nI b ba ∧ pl_ar 5 pl_m o ho ∧ pl_ar 6 pl_m w aw ∧ pl_ar 6 nI n wn

section
variable {f : Int32} {ba ho aw wn : Nat → Int32} {b w o n U : Nat → Nat} {post : Int32 → Prop} {s t l : Nat}

theorem pl_xW (H : pl_HX b w o n ba ho aw wn) (B : pl_Bd b w o) (ht : t < 6) (h0 : w t = 0 → post 0) (h1 : ¬ w t = 0 → post 1) : wpX_isWaiting post (f, ba, ho, aw, wn) (nI t) := by
  have hw := B.2.1 t ht
  refine ⟨pl_i6 ht, ?_⟩
  rw [pl_c ht, H.2.2.1 t ht]
  exact ek_if (pl_m_none (w t) (by omega)) h0 h1

theorem pl_xB (H : pl_HX b w o n ba ho aw wn) (B : pl_Bd b w o) (ht : t < 6) (h : post (pl_m (pl_G w o (t + 1)))) : wpX_blockerOf post (f, ba, ho, aw, wn) (nI t) := by
  have hw := B.2.1 t ht
  refine ⟨pl_i6 ht, fun x e => ?_⟩
  rw [pl_c ht, H.2.2.1 t ht] at e
  by_cases c : w t = 0
  · rw [pl_G_0 c] at h
    rw [c] at e
    exact br_t e h
  · obtain ⟨l, hl⟩ : ∃ l, w t = l + 1 := ⟨w t - 1, by omega⟩
    rw [pl_G_n c, hl, Nat.add_sub_cancel] at h
    rw [hl] at e
    have hl5 : l < 5 := by omega
    have e' : x = nI l := e
    subst e'
    refine br_f (fun z => ?_) ⟨pl_i5 hl5, ?_⟩
    · have := (pl_m_none (l + 1) (by omega)).mp z
      omega
    · rw [pl_c (by omega : l < 6), H.2.1 l hl5]
      exact h

theorem pl_xWTl (H : pl_HX b w o n ba ho aw wn) (B : pl_Bd b w o) (ht : t < 6) : ∀ d x i, i + d = 6 → x ≤ 6 → ((∃ j, j < d ∧ pl_it (pl_G w o) j x = t + 1) → post 1) → ((¬ ∃ j, j < d ∧ pl_it (pl_G w o) j x = t + 1) → post 0) → wX_waitsThrough_9 post (nI t) f ba ho aw wn (d + 1) (pl_m x) (nI i) := by
  intro d
  induction d with
  | zero =>
    intro x i hi hx h1 h0
    exact br_t (nI_le (a := 6) (by omega) (by omega)) (h0 fun ⟨j, hj, _⟩ => absurd hj (Nat.not_lt_zero _))
  | succ d ih =>
    intro x i hi hx h1 h0
    refine br_f (nI_ge (b := 6) (by omega) (by decide)) ?_
    refine ek_if (pl_m_none x (by omega)) (fun z => ?_) (fun z => ?_)
    · refine h0 fun ⟨j, _, e⟩ => ?_
      rw [z, pl_it_0 rfl] at e
      omega
    · refine ek_if (pl_m_is x (by omega) t (by omega)) (fun z2 => ?_) (fun z2 => ?_)
      · exact h1 ⟨0, by omega, z2⟩
      · obtain ⟨s, rfl⟩ : ∃ s, x = s + 1 := ⟨x - 1, by omega⟩
        refine pl_xB H B (t := s) (by omega) ?_
        intro y ey
        rw [ey, nI_1]
        refine ih (pl_G w o (s + 1)) (i + 1) (by omega) ((pl_G_ok B).2 _ hx) (fun ⟨j, hj, e⟩ => h1 ⟨j + 1, by omega, e⟩) (fun hn => h0 fun ⟨j, hj, e⟩ => ?_)
        cases j with
        | zero => exact z2 e
        | succ j => exact hn ⟨j, by omega, e⟩

theorem pl_xWT (H : pl_HX b w o n ba ho aw wn) (B : pl_Bd b w o) (hs : s < 6) (ht : t < 6) (h1 : pl_T (pl_G w o) s t → post 1) (h0 : ¬ pl_T (pl_G w o) s t → post 0) : wpX_waitsThrough post (f, ba, ho, aw, wn) (nI s) (nI t) := by
  unfold wpX_waitsThrough
  dsimp only
  refine pl_xB H B hs ?_
  exact ⟨7, pl_xWTl H B ht 6 _ 0 rfl ((pl_G_ok B).2 _ (by omega)) (fun ⟨j, _, e⟩ => h1 ⟨j, e⟩) (fun hn => h0 fun hT => hn (pl_T_bd (pl_G_ok B) hs hT))⟩

theorem pl_xUl (H : pl_HX b w o n ba ho aw wn) (B : pl_Bd b w o) (hU : pl_Ur (pl_G w o) b U) (ht : t < 6) (h : post (nI (U t))) : ∀ d s g, s + d = 6 → pl_M2 b (fun s => pl_T (pl_G w o) s t) t s g → wX_urgencyOf_9 post (nI t) f ba ho aw wn (d + 1) (nI g) (nI s) := by
  intro d
  induction d with
  | zero =>
    intro s g hs M
    have hs6 : s = 6 := by omega
    subst hs6
    have eg : g = U t := pl_M2_u M (hU t)
    subst eg
    exact br_t (nI_le (a := 6) (by omega) (by omega)) h
  | succ d ih =>
    intro s g hs M
    have hs6 : s < 6 := by omega
    have hg := pl_M2_le ht B.1 M
    have hb := B.1 s hs6
    refine br_f (nI_ge (b := 6) hs6 (by decide)) ⟨pl_i6 hs6, ?_⟩
    rw [pl_c hs6, H.1 s hs6]
    refine ek_if (nI_leI (by omega) (by omega)) (fun c => ?_) (fun c => ?_)
    · intro y ey
      rw [ey, nI_1]
      exact ih _ _ (by omega) (pl_M2_off M (Or.inl c))
    · refine pl_xWT H B hs6 ht (fun hT => ?_) (fun hT => ?_)
      · refine br_f (by decide) ⟨pl_i6 hs6, fun y ey z ez => ?_⟩
        rw [ey, ez, nI_1]
        exact ih _ _ (by omega) (pl_M2_on M hs6 (by omega) hT)
      · refine br_t rfl fun z ez => ?_
        rw [ez, nI_1]
        exact ih _ _ (by omega) (pl_M2_off M (Or.inr hT))

theorem pl_xU (H : pl_HX b w o n ba ho aw wn) (B : pl_Bd b w o) (hU : pl_Ur (pl_G w o) b U) (ht : t < 6) (h : post (nI (U t))) : wpX_urgencyOf post (f, ba, ho, aw, wn) (nI t) := by
  refine ⟨pl_i6 ht, fun x e => ?_⟩
  rw [pl_c ht, H.1 t ht] at e
  subst e
  exact ⟨7, pl_xUl H B hU ht h 6 0 (b t) rfl (pl_M2_0 b _ t)⟩
end

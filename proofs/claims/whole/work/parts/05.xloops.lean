/-! the class: the loops over threads and locks -/
section
variable {f : Int32} {ba ho aw wn : Nat → Int32} {b w o n U : Nat → Nat} {post : Int32 → Prop} {t l : Nat}

theorem pl_xMl (H : pl_HX b w o n ba ho aw wn) (B : pl_Bd b w o) (hU : pl_Ur (pl_G w o) b U) (hn : ∀ t, t < 6 → n t < 2 ^ 30) (hl : l < 5) (h : post (pl_m (pl_nb w U n l 6))) : ∀ d t r y, t + d = 6 → pl_nb w U n l t = r → (∀ q, r = q + 1 → y = nI (U q)) → wX_mostUrgentWaiter_7 post (nI l) f ba ho aw wn (d + 1) (pl_m r) y (nI t) := by
  intro d
  induction d with
  | zero =>
    intro t r y ht e _
    have ht6 : t = 6 := by omega
    subst ht6
    subst e
    exact br_t (nI_le (a := 6) (by omega) (by omega)) h
  | succ d ih =>
    intro t r y ht e hy
    have ht6 : t < 6 := by omega
    have hr := (pl_nb_r w U n l t).1
    have hw := B.2.1 t ht6
    have hUt := pl_U_le B hU ht6
    have hnt := hn t ht6
    rw [e] at hr
    refine br_f (nI_ge (b := 6) ht6 (by decide)) ⟨pl_i6 ht6, ?_⟩
    rw [pl_c ht6, H.2.2.1 t ht6]
    refine ek_if (pl_m_is (w t) (by omega) l (by omega)) (fun c => ?_) (fun c => ?_)
    · refine pl_xU H B hU ht6 ?_
      refine ek_if (pl_m_none r (by omega)) (fun z => ?_) (fun z => ?_)
      · intro x ex
        rw [ex, nI_1]
        subst z
        exact ih (t + 1) (t + 1) _ (by omega) (pl_nb_0 e c) (fun q hq => by cases hq; rfl)
      · obtain ⟨q, rfl⟩ : ∃ q, r = q + 1 := ⟨r - 1, by omega⟩
        have hq6 : q < 6 := by omega
        have hUq := pl_U_le B hU hq6
        have hnq := hn q hq6
        have ey := hy q rfl
        subst ey
        refine ek_if (nI_ltI (by omega) (by omega)) (fun c2 => ?_) (fun c2 => ?_)
        · intro x ex
          rw [ex, nI_1]
          exact ih (t + 1) (t + 1) _ (by omega) (pl_nb_y e c (Or.inl c2)) (fun q hq => by cases hq; rfl)
        · refine ek_if (nI_eq (by omega) (by omega)) (fun c3 => ?_) (fun c3 => ?_)
          · refine ⟨pl_i6 ht6, pl_i6 hq6, ?_⟩
            have cq : (pl_m (q + 1)).toNatClampNeg = q := pl_c hq6
            rw [cq, H.2.2.2 t ht6, H.2.2.2 q hq6]
            refine ek_if (nI_leI (by omega) (by omega)) (fun c4 => ?_) (fun c4 => ?_)
            · intro x ex
              rw [ex, nI_1]
              exact ih (t + 1) (q + 1) _ (by omega) (pl_nb_n e (by omega)) (fun q' hq => by cases hq; rfl)
            · intro x ex
              rw [ex, nI_1]
              exact ih (t + 1) (t + 1) _ (by omega) (pl_nb_y e c (Or.inr ⟨c3, by omega⟩)) (fun q hq => by cases hq; rfl)
          · intro x ex
            rw [ex, nI_1]
            exact ih (t + 1) (q + 1) _ (by omega) (pl_nb_n e (by omega)) (fun q' hq => by cases hq; rfl)
    · intro x ex
      rw [ex, nI_1]
      exact ih (t + 1) r y (by omega) (pl_nb_w e c) hy

theorem pl_xM (H : pl_HX b w o n ba ho aw wn) (B : pl_Bd b w o) (hU : pl_Ur (pl_G w o) b U) (hn : ∀ t, t < 6 → n t < 2 ^ 30) (hl : l < 5) (h : post (pl_m (pl_nb w U n l 6))) : wpX_mostUrgentWaiter post (f, ba, ho, aw, wn) (nI l) :=
  ⟨7, pl_xMl H B hU hn hl h 6 0 0 (-1) rfl rfl (fun _ hq => nomatch hq)⟩

theorem pl_xCl (H : pl_HX b w o n ba ho aw wn) (B : pl_Bd b w o) (hl : l < 5) (h : post (nI (pl_ct w l 6))) : ∀ d t r, t + d = 6 → pl_ct w l t = r → wX_waiting_13 post (nI l) f ba ho aw wn (d + 1) (nI r) (nI t) := by
  intro d
  induction d with
  | zero =>
    intro t r ht e
    have ht6 : t = 6 := by omega
    subst ht6
    subst e
    exact br_t (nI_le (a := 6) (by omega) (by omega)) h
  | succ d ih =>
    intro t r ht e
    have ht6 : t < 6 := by omega
    have hw := B.2.1 t ht6
    refine br_f (nI_ge (b := 6) ht6 (by decide)) ⟨pl_i6 ht6, ?_⟩
    rw [pl_c ht6, H.2.2.1 t ht6]
    refine ek_if (pl_m_is (w t) (by omega) l (by omega)) (fun c => ?_) (fun c => ?_)
    · intro x ex y ey
      rw [ex, ey, nI_1, nI_1]
      exact ih (t + 1) (r + 1) (by omega) (pl_ct_on e c)
    · intro y ey
      rw [ey, nI_1]
      exact ih (t + 1) r (by omega) (pl_ct_off e c)

theorem pl_xHl (H : pl_HX b w o n ba ho aw wn) (B : pl_Bd b w o) (ht : t < 6) (h : ∀ m, pl_Bt (fun l => o l = t + 1) 5 m → post (nI m)) : ∀ d l m, l + d = 5 → pl_Bt (fun l => o l = t + 1) l m → wX_held_13 post (nI t) f ba ho aw wn (d + 1) (nI m) (nI l) := by
  intro d
  induction d with
  | zero =>
    intro l m hl M
    have hl5 : l = 5 := by omega
    subst hl5
    exact br_t (nI_le (a := 5) (by omega) (by omega)) (h m M)
  | succ d ih =>
    intro l m hl M
    have hl5 : l < 5 := by omega
    have ho' := B.2.2 l hl5
    refine br_f (nI_ge (b := 5) hl5 (by decide)) ⟨pl_i5 hl5, ?_⟩
    rw [pl_c (by omega : l < 6), H.2.1 l hl5]
    refine ek_if (pl_m_is (o l) (by omega) t (by omega)) (fun c => ?_) (fun c => ?_)
    · intro x ex y ey
      rw [ex, ey, nI_1, pl_or m M.1 l (by omega)]
      exact ih (l + 1) _ (by omega) (pl_Bt_on M (by omega) c)
    · intro y ey
      rw [ey, nI_1]
      exact ih (l + 1) m (by omega) (pl_Bt_off M c)

theorem pl_xRl (H : pl_HX b w o n ba ho aw wn) (B : pl_Bd b w o) (hU : pl_Ur (pl_G w o) b U) (h : post (pl_m (pl_ru w U 6))) : ∀ d t r y, t + d = 6 → pl_ru w U t = r → (r = 0 → y = -1) → (∀ q, r = q + 1 → y = nI (U q)) → wX_running_6 post f ba ho aw wn (d + 1) (pl_m r) y (nI t) := by
  intro d
  induction d with
  | zero =>
    intro t r y ht e _ _
    have ht6 : t = 6 := by omega
    subst ht6
    subst e
    exact br_t (nI_le (a := 6) (by omega) (by omega)) h
  | succ d ih =>
    intro t r y ht e hy0 hy
    have ht6 : t < 6 := by omega
    have hr := pl_ru_r w U t
    have hUt := pl_U_le B hU ht6
    rw [e] at hr
    refine br_f (nI_ge (b := 6) ht6 (by decide)) ?_
    refine pl_xU H B hU ht6 ?_
    refine pl_xW H B ht6 (fun c => ?_) (fun c => ?_)
    · refine br_t rfl ?_
      by_cases z : r = 0
      · have ey := hy0 z
        subst ey
        subst z
        refine br_f ?_ fun x ex => ?_
        · have h0 : (0 : Int32) ≤ nI (U t) := nI_pos' (by omega)
          rw [Int32.le_iff_toInt_le] at h0 ⊢
          have e1 : (0 : Int32).toInt = 0 := by decide
          have e2 : (-1 : Int32).toInt = -1 := by decide
          omega
        · rw [ex, nI_1]
          exact ih (t + 1) (t + 1) _ (by omega) (pl_ru_0 e c) (fun z => nomatch z) (fun q hq => by cases hq; rfl)
      · obtain ⟨q, rfl⟩ : ∃ q, r = q + 1 := ⟨r - 1, by omega⟩
        have hq6 : q < 6 := by omega
        have hUq := pl_U_le B hU hq6
        have ey := hy q rfl
        subst ey
        refine ek_if (nI_leI (by omega) (by omega)) (fun c2 => ?_) (fun c2 => ?_)
        · intro x ex
          rw [ex, nI_1]
          exact ih (t + 1) (q + 1) _ (by omega) (pl_ru_n e (by omega)) (fun z => nomatch z) (fun q' hq => by cases hq; rfl)
        · intro x ex
          rw [ex, nI_1]
          exact ih (t + 1) (t + 1) _ (by omega) (pl_ru_y e c (by omega)) (fun z => nomatch z) (fun q' hq => by cases hq; rfl)
    · refine br_f (by decide) fun x ex => ?_
      rw [ex, nI_1]
      exact ih (t + 1) r y (by omega) (pl_ru_w e c) hy0 hy

theorem pl_xOl (H : pl_HX b w o n ba ho aw wn) (B : pl_Bd b w o) (ht : t < 6) (h : ∀ m, pl_Bt (fun s => pl_T (pl_G w o) s t) 6 m → post (nI m)) : ∀ d s m, s + d = 6 → pl_Bt (fun s => pl_T (pl_G w o) s t) s m → wX_waitingOn_13 post (nI t) f ba ho aw wn (d + 1) (nI m) (nI s) := by
  intro d
  induction d with
  | zero =>
    intro s m hs M
    have hs6 : s = 6 := by omega
    subst hs6
    exact br_t (nI_le (a := 6) (by omega) (by omega)) (h m M)
  | succ d ih =>
    intro s m hs M
    have hs6 : s < 6 := by omega
    refine br_f (nI_ge (b := 6) hs6 (by decide)) ?_
    refine pl_xWT H B hs6 ht (fun c => ?_) (fun c => ?_)
    · refine br_f (by decide) fun x ex y ey => ?_
      rw [ex, ey, nI_1, pl_or m M.1 s hs6]
      exact ih (s + 1) _ (by omega) (pl_Bt_on M hs6 c)
    · refine br_t rfl fun y ey => ?_
      rw [ey, nI_1]
      exact ih (s + 1) m (by omega) (pl_Bt_off M c)

theorem pl_xFl (H : pl_HX b w o n ba ho aw wn) (B : pl_Bd b w o) (hU : pl_Ur (pl_G w o) b U) (h : ∀ m, pl_Bt (fun t => b t < U t) 6 m → post (nI m)) : ∀ d t m, t + d = 6 → pl_Bt (fun t => b t < U t) t m → wX_lifted_4 post f ba ho aw wn (d + 1) (nI m) (nI t) := by
  intro d
  induction d with
  | zero =>
    intro t m ht M
    have ht6 : t = 6 := by omega
    subst ht6
    exact br_t (nI_le (a := 6) (by omega) (by omega)) (h m M)
  | succ d ih =>
    intro t m ht M
    have ht6 : t < 6 := by omega
    have hUt := pl_U_le B hU ht6
    have hb := B.1 t ht6
    refine br_f (nI_ge (b := 6) ht6 (by decide)) ?_
    refine pl_xU H B hU ht6 ⟨pl_i6 ht6, ?_⟩
    rw [pl_c ht6, H.1 t ht6]
    refine ek_if (nI_leI (by omega) (by omega)) (fun c => ?_) (fun c => ?_)
    · intro y ey
      rw [ey, nI_1]
      exact ih (t + 1) m (by omega) (pl_Bt_off M (Nat.not_lt.mpr c))
    · intro x ex y ey
      rw [ex, ey, nI_1, pl_or m M.1 t ht6]
      exact ih (t + 1) _ (by omega) (pl_Bt_on M ht6 (Nat.lt_of_not_le c))
end

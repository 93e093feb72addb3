/-! take and give, each side, case by case -/
section
variable {f : Int32} {ba ho aw wn : Nat → Int32} {b w o n U : Nat → Nat} {post : Int32 → SX → Prop} {s t l : Nat}

theorem pl_xtake_w (H : pl_HX b w o n ba ho aw wn) (B : pl_Bd b w o) (ht : t < 6) (hl : l < 5) (hw : ¬ w t = 0) (h : post (-1) (f, ba, ho, aw, wn)) : wpX_take post (f, ba, ho, aw, wn) (nI t) (nI l) := by
  unfold wpX_take
  dsimp only
  refine pl_xT_y ht ?_
  refine br_f (by decide) ?_
  refine pl_xL_y hl ?_
  refine br_f (by decide) ?_
  refine pl_xW H B ht (fun z => absurd z hw) (fun _ => ?_)
  exact br_f (by decide) h

theorem pl_xtake_o (H : pl_HX b w o n ba ho aw wn) (B : pl_Bd b w o) (ht : t < 6) (hl : l < 5) (hw : w t = 0) (hol : o l = t + 1) (h : post (-1) (f, ba, ho, aw, wn)) : wpX_take post (f, ba, ho, aw, wn) (nI t) (nI l) := by
  unfold wpX_take
  dsimp only
  refine pl_xT_y ht ?_
  refine br_f (by decide) ?_
  refine pl_xL_y hl ?_
  refine br_f (by decide) ?_
  refine pl_xW H B ht (fun _ => ?_) (fun z => absurd hw z)
  refine br_t rfl ⟨pl_i5 hl, ?_⟩
  rw [pl_c (by omega : l < 6), H.2.1 l hl]
  exact br_t ((pl_m_is (o l) (by omega) t (by omega)).mpr hol) h

theorem pl_xtake_f (H : pl_HX b w o n ba ho aw wn) (B : pl_Bd b w o) (ht : t < 6) (hl : l < 5) (hw : w t = 0) (hol : o l = 0) (h : post 0 (f, ba, upd ho l (nI t), aw, wn)) : wpX_take post (f, ba, ho, aw, wn) (nI t) (nI l) := by
  unfold wpX_take
  dsimp only
  refine pl_xT_y ht ?_
  refine br_f (by decide) ?_
  refine pl_xL_y hl ?_
  refine br_f (by decide) ?_
  refine pl_xW H B ht (fun _ => ?_) (fun z => absurd hw z)
  refine br_t rfl ⟨pl_i5 hl, ?_⟩
  rw [pl_c (by omega : l < 6), H.2.1 l hl]
  refine br_f (fun z => ?_) ⟨pl_i5 hl, fun x ex => br_t ?_ ⟨pl_i5 hl, fun a ea => ?_⟩⟩
  · have := (pl_m_is (o l) (by omega) t (by omega)).mp z
    omega
  · rw [ex, hol]; rfl
  · rw [ea]; exact h

theorem pl_xtake_s (H : pl_HX b w o n ba ho aw wn) (B : pl_Bd b w o) (ht : t < 6) (hl : l < 5) (hw : w t = 0) (hol : o l = s + 1) (hst : s ≠ t) (hr : pl_T (pl_G w o) s t → post (-2) (f, ba, ho, aw, wn)) (hq : ¬ pl_T (pl_G w o) s t → post 1 (f + 1, ba, ho, upd aw t (nI l), upd wn t f)) : wpX_take post (f, ba, ho, aw, wn) (nI t) (nI l) := by
  have hs6 := B.2.2 l hl
  unfold wpX_take
  dsimp only
  refine pl_xT_y ht ?_
  refine br_f (by decide) ?_
  refine pl_xL_y hl ?_
  refine br_f (by decide) ?_
  refine pl_xW H B ht (fun _ => ?_) (fun z => absurd hw z)
  refine br_t rfl ⟨pl_i5 hl, ?_⟩
  rw [pl_c (by omega : l < 6), H.2.1 l hl]
  refine br_f (fun z => ?_) ⟨pl_i5 hl, fun x ex => ?_⟩
  · have := (pl_m_is (o l) (by omega) t (by omega)).mp z
    omega
  · rw [hol] at ex
    have ex' : x = nI s := ex
    subst ex'
    refine br_f (fun z => ?_) ?_
    · have := (pl_m_none (s + 1) (by omega)).mp z
      omega
    · refine pl_xWT H B (by omega) ht (fun hT => ?_) (fun hT => ?_)
      · exact br_f (by decide) (hr hT)
      · refine br_t rfl ⟨pl_i6 ht, fun a ea => ⟨pl_i6 ht, fun a2 ea2 y ey => ?_⟩⟩
        rw [ea, ea2, ey, pl_c ht]
        exact hq hT

theorem pl_xgive_w (H : pl_HX b w o n ba ho aw wn) (B : pl_Bd b w o) (ht : t < 6) (hl : l < 5) (hw : ¬ w t = 0) (h : post (-2) (f, ba, ho, aw, wn)) : wpX_give post (f, ba, ho, aw, wn) (nI t) (nI l) := by
  unfold wpX_give
  dsimp only
  refine pl_xT_y ht ?_
  refine br_f (by decide) ?_
  refine pl_xL_y hl ?_
  refine br_f (by decide) ?_
  refine pl_xW H B ht (fun z => absurd z hw) (fun _ => ?_)
  exact br_f (by decide) h

theorem pl_xgive_o (H : pl_HX b w o n ba ho aw wn) (B : pl_Bd b w o) (ht : t < 6) (hl : l < 5) (hw : w t = 0) (hol : ¬ o l = t + 1) (h : post (-2) (f, ba, ho, aw, wn)) : wpX_give post (f, ba, ho, aw, wn) (nI t) (nI l) := by
  have hs6 := B.2.2 l hl
  unfold wpX_give
  dsimp only
  refine pl_xT_y ht ?_
  refine br_f (by decide) ?_
  refine pl_xL_y hl ?_
  refine br_f (by decide) ?_
  refine pl_xW H B ht (fun _ => ?_) (fun z => absurd hw z)
  refine br_t rfl ⟨pl_i5 hl, ?_⟩
  rw [pl_c (by omega : l < 6), H.2.1 l hl]
  exact br_f (fun z => hol ((pl_m_is (o l) (by omega) t (by omega)).mp z)) h

theorem pl_xgive_h (H : pl_HX b w o n ba ho aw wn) (B : pl_Bd b w o) (hU : pl_Ur (pl_G w o) b U) (hn : ∀ t, t < 6 → n t < 2 ^ 30) (ht : t < 6) (hl : l < 5) (hw : w t = 0) (hol : o l = t + 1) (h0 : pl_nb w U n l 6 = 0 → post (-1) (f, ba, upd ho l (-1), aw, wn)) (h1 : ∀ q, pl_nb w U n l 6 = q + 1 → q < 6 → post (nI q) (f, ba, upd ho l (nI q), upd aw q (-1), wn)) : wpX_give post (f, ba, ho, aw, wn) (nI t) (nI l) := by
  have hr := (pl_nb_r w U n l 6).1
  unfold wpX_give
  dsimp only
  refine pl_xT_y ht ?_
  refine br_f (by decide) ?_
  refine pl_xL_y hl ?_
  refine br_f (by decide) ?_
  refine pl_xW H B ht (fun _ => ?_) (fun z => absurd hw z)
  refine br_t rfl ⟨pl_i5 hl, ?_⟩
  rw [pl_c (by omega : l < 6), H.2.1 l hl]
  refine br_t ((pl_m_is (o l) (by omega) t (by omega)).mpr hol) ?_
  refine pl_xM H B hU hn hl ⟨pl_i5 hl, fun a ea => ?_⟩
  cases hx : pl_nb w U n l 6 with
  | zero =>
    rw [hx] at ea
    refine br_t rfl ?_
    rw [ea]
    exact h0 hx
  | succ q =>
    have hq6 : q < 6 := by omega
    rw [hx] at ea
    refine br_f (fun z => ?_) ⟨pl_i6 hq6, fun a2 ea2 => ?_⟩
    · have := (pl_m_none (q + 1) (by omega)).mp z
      omega
    · have cq : (pl_m (q + 1)).toNatClampNeg = q := pl_c hq6
      rw [cq] at ea2
      rw [ea, ea2]
      exact h1 q hx hq6
end

section
variable {g : Int32} {bs hd wa si ur : Nat → Int32} {b w o n U : Nat → Nat} {post : Int32 → SY → Prop} {s t l : Nat}

theorem pl_0n {x : Nat} (h : x < 2 ^ 31) : 0 < nI x ↔ ¬ x = 0 := by
  have e := nI_ltI (a := 0) (b := x) (by decide) h
  exact e.trans (by omega)

theorem pl_ytake_w (H : pl_HY b w o n bs hd wa si) (B : pl_Bd b w o) (ht : t < 6) (hl : l < 5) (hw : ¬ w t = 0) (h : post (-1) (g, bs, hd, wa, si, ur)) : wpY_take post (g, bs, hd, wa, si, ur) (nI t) (nI l) := by
  have hw5 := B.2.1 t ht
  unfold wpY_take
  dsimp only
  refine pl_yT_y ht ?_
  refine br_f (by decide) ?_
  refine pl_yL_y hl ?_
  refine br_f (by decide) ⟨pl_i6 ht, ?_⟩
  rw [pl_c ht, H.2.2.1 t ht]
  exact br_t ((pl_0n (by omega)).mpr hw) h

theorem pl_ytake_o (H : pl_HY b w o n bs hd wa si) (B : pl_Bd b w o) (ht : t < 6) (hl : l < 5) (hw : w t = 0) (hol : o l = t + 1) (h : post (-1) (g, bs, hd, wa, si, ur)) : wpY_take post (g, bs, hd, wa, si, ur) (nI t) (nI l) := by
  unfold wpY_take
  dsimp only
  refine pl_yT_y ht ?_
  refine br_f (by decide) ?_
  refine pl_yL_y hl ?_
  refine br_f (by decide) ⟨pl_i6 ht, ?_⟩
  rw [pl_c ht, H.2.2.1 t ht]
  refine br_f (fun z => (pl_0n (by omega)).mp z hw) ⟨pl_i5 hl, ?_⟩
  rw [pl_c (by omega : l < 6), H.2.1 l hl, nI_1 t]
  exact br_t ((nI_eq (by omega) (by omega)).mpr hol) h

theorem pl_ytake_f (H : pl_HY b w o n bs hd wa si) (B : pl_Bd b w o) (ht : t < 6) (hl : l < 5) (hw : w t = 0) (hol : o l = 0) (h : post 0 (g, bs, upd hd l (nI (t + 1)), wa, si, ur)) : wpY_take post (g, bs, hd, wa, si, ur) (nI t) (nI l) := by
  unfold wpY_take
  dsimp only
  refine pl_yT_y ht ?_
  refine br_f (by decide) ?_
  refine pl_yL_y hl ?_
  refine br_f (by decide) ⟨pl_i6 ht, ?_⟩
  rw [pl_c ht, H.2.2.1 t ht]
  refine br_f (fun z => (pl_0n (by omega)).mp z hw) ⟨pl_i5 hl, ?_⟩
  rw [pl_c (by omega : l < 6), H.2.1 l hl, nI_1 t]
  refine br_f (fun z => ?_) ⟨pl_i5 hl, br_t ?_ ⟨pl_i5 hl, fun a ea => ?_⟩⟩
  · have := (nI_eq (by omega) (by omega)).mp z
    omega
  · rw [hol]; rfl
  · rw [ea]; exact h

theorem pl_ytake_s (H : pl_HY b w o n bs hd wa si) (B : pl_Bd b w o) (ht : t < 6) (hl : l < 5) (hw : w t = 0) (hol : o l = s + 1) (hst : s ≠ t) (hr : pl_T (pl_G w o) s t → post (-2) (g, bs, hd, wa, si, ur)) (hq : ¬ pl_T (pl_G w o) s t → post 1 (g + 1, bs, hd, upd wa t (nI (l + 1)), upd si t (g + 1), ur)) : wpY_take post (g, bs, hd, wa, si, ur) (nI t) (nI l) := by
  have hs6 := B.2.2 l hl
  have hs : s < 6 := by omega
  unfold wpY_take
  dsimp only
  refine pl_yT_y ht ?_
  refine br_f (by decide) ?_
  refine pl_yL_y hl ?_
  refine br_f (by decide) ⟨pl_i6 ht, ?_⟩
  rw [pl_c ht, H.2.2.1 t ht]
  refine br_f (fun z => (pl_0n (by omega)).mp z hw) ⟨pl_i5 hl, ?_⟩
  rw [pl_c (by omega : l < 6), H.2.1 l hl, nI_1 t, nI_1 l]
  refine br_f (fun z => ?_) ⟨pl_i5 hl, br_f (fun z => ?_) ⟨pl_i5 hl, fun x ex => ?_⟩⟩
  · have := (nI_eq (by omega) (by omega)).mp z
    omega
  · have := (nI_eq (b := 0) (by omega) (by decide)).mp z
    omega
  · rw [hol, nI_pred] at ex
    subst ex
    refine pl_yH H B ht fun m M => ?_
    have e := M.2 s hs
    refine ek_if ((pl_bit m M.1 s hs).trans e) (fun c => ?_) (fun c => ?_)
    · exact hr c.2
    · refine ⟨pl_i6 ht, fun a ea y ey => ⟨pl_i6 ht, fun a2 ea2 => ?_⟩⟩
      rw [ea, ea2, ey]
      exact hq fun z => c ⟨hs, z⟩

theorem pl_ygive_w (H : pl_HY b w o n bs hd wa si) (B : pl_Bd b w o) (ht : t < 6) (hl : l < 5) (hw : ¬ w t = 0) (h : post (-2) (g, bs, hd, wa, si, ur)) : wpY_give post (g, bs, hd, wa, si, ur) (nI t) (nI l) := by
  have hw5 := B.2.1 t ht
  unfold wpY_give
  dsimp only
  refine pl_yT_y ht ?_
  refine br_f (by decide) ?_
  refine pl_yL_y hl ?_
  refine br_f (by decide) ⟨pl_i6 ht, ?_⟩
  rw [pl_c ht, H.2.2.1 t ht]
  exact br_t ((pl_0n (by omega)).mpr hw) h

theorem pl_ygive_o (H : pl_HY b w o n bs hd wa si) (B : pl_Bd b w o) (ht : t < 6) (hl : l < 5) (hw : w t = 0) (hol : ¬ o l = t + 1) (h : post (-2) (g, bs, hd, wa, si, ur)) : wpY_give post (g, bs, hd, wa, si, ur) (nI t) (nI l) := by
  have hs6 := B.2.2 l hl
  unfold wpY_give
  dsimp only
  refine pl_yT_y ht ?_
  refine br_f (by decide) ?_
  refine pl_yL_y hl ?_
  refine br_f (by decide) ⟨pl_i6 ht, ?_⟩
  rw [pl_c ht, H.2.2.1 t ht]
  refine br_f (fun z => (pl_0n (by omega)).mp z hw) ⟨pl_i5 hl, ?_⟩
  rw [pl_c (by omega : l < 6), H.2.1 l hl, nI_1 t]
  exact br_f (fun z => hol ((nI_eq (by omega) (by omega)).mp z)) h

theorem pl_ygive_h (H : pl_HY b w o n bs hd wa si) (B : pl_Bd b w o) (hU : pl_Ur (pl_G w o) b U) (hn : ∀ t, t < 6 → n t < 2 ^ 30) (ht : t < 6) (hl : l < 5) (hw : w t = 0) (hol : o l = t + 1) (h0 : pl_nb w U n l 6 = 0 → ∀ ur, post (-1) (g, bs, upd hd l 0, wa, si, ur)) (h1 : ∀ q, pl_nb w U n l 6 = q + 1 → q < 6 → ∀ ur, post (nI q) (g, bs, upd hd l (nI (q + 1)), upd wa q 0, si, ur)) : wpY_give post (g, bs, hd, wa, si, ur) (nI t) (nI l) := by
  have hr := (pl_nb_r w U n l 6).1
  unfold wpY_give
  dsimp only
  refine pl_yT_y ht ?_
  refine br_f (by decide) ?_
  refine pl_yL_y hl ?_
  refine br_f (by decide) ⟨pl_i6 ht, ?_⟩
  rw [pl_c ht, H.2.2.1 t ht]
  refine br_f (fun z => (pl_0n (by omega)).mp z hw) ⟨pl_i5 hl, ?_⟩
  rw [pl_c (by omega : l < 6), H.2.1 l hl, nI_1 t]
  refine br_t ((nI_eq (by omega) (by omega)).mpr hol) ?_
  refine pl_yN H B hU hn hl fun ur' => ⟨pl_i5 hl, fun a ea => ?_⟩
  rw [pl_m_add] at ea
  cases hx : pl_nb w U n l 6 with
  | zero =>
    rw [hx] at ea
    refine br_t (by decide) ?_
    rw [ea]
    exact h0 hx ur'
  | succ q =>
    have hq6 : q < 6 := by omega
    rw [hx] at ea
    refine br_f (nI_pos (by omega)) ⟨pl_i6 hq6, fun a2 ea2 => ?_⟩
    have cq : (pl_m (q + 1)).toNatClampNeg = q := pl_c hq6
    rw [cq] at ea2
    rw [ea, ea2]
    exact h1 q hx hq6 ur'
end

/-- the two sides hold one picture; what the reference keeps of urgencies is scratch -/
def i_Rel (k : Nat) (u : SX) (v : SY) : Prop := ∃ (b w o n : Nat → Nat) (c : Nat), pl_Bd b w o ∧ c ≤ k ∧ (∀ t, t < 6 → n t ≤ k) ∧ u.1 = nI c ∧ v.1 = nI c ∧ pl_HX b w o n u.2.1 u.2.2.1 u.2.2.2.1 u.2.2.2.2 ∧ pl_HY b w o n v.2.1 v.2.2.1 v.2.2.2.1 v.2.2.2.2.1

theorem i_up {k : Nat} {u : SX} {v : SY} (h : i_Rel k u v) : i_Rel (k + 3) u v := by
  obtain ⟨b, w, o, n, c, B, hc, hn, e1, e2, HX, HY⟩ := h
  exact ⟨b, w, o, n, c, B, by omega, fun t ht => Nat.le_trans (hn t ht) (by omega), e1, e2, HX, HY⟩

theorem pl_ur {k : Nat} {u : SX} {g : Int32} {bs hd wa si ur : Nat → Int32} (I : i_Rel k u (g, bs, hd, wa, si, ur)) (ur' : Nat → Int32) : i_Rel (k + 3) u (g, bs, hd, wa, si, ur') :=
  i_up (v := (g, bs, hd, wa, si, ur')) I

theorem pl_a6 (x : Int32) : (∃ t, t < 6 ∧ x = nI t) ∨ (∀ t, t < 6 → ¬ x = nI t) := by
  by_cases h : ∃ t, t < 6 ∧ x = nI t
  · exact Or.inl h
  · exact Or.inr fun t ht e => h ⟨t, ht, e⟩
theorem pl_a5 (x : Int32) : (∃ t, t < 5 ∧ x = nI t) ∨ (∀ t, t < 5 → ¬ x = nI t) := by
  by_cases h : ∃ t, t < 5 ∧ x = nI t
  · exact Or.inl h
  · exact Or.inr fun t ht e => h ⟨t, ht, e⟩

/-! the constructors -/
theorem pl_x0b {post : SX → Prop} {f : Int32} {ba ho wn : Nat → Int32} (h : ∀ aw, pl_ar 6 pl_m (fun _ => 0) aw → post (f, ba, ho, aw, wn)) : ∀ d t (aw : Nat → Int32), t + d = 6 → pl_ar t pl_m (fun _ => 0) aw → wX_init_62 post f (d + 1) (nI t) ba ho aw wn := by
  intro d
  induction d with
  | zero =>
    intro t aw ht A
    have ht6 : t = 6 := by omega
    subst ht6
    exact br_t (nI_le (a := 6) (by omega) (by omega)) (h aw A)
  | succ d ih =>
    intro t aw ht A
    have ht6 : t < 6 := by omega
    refine br_f (nI_ge (b := 6) ht6 (by decide)) ⟨pl_i6 ht6, fun a ea x ex => ?_⟩
    rw [ex, ea, nI_1, pl_c ht6]
    refine ih (t + 1) _ (by omega) fun s hs => ?_
    by_cases c : s = t
    · subst c; exact pk_us
    · rw [pk_un c]; exact A s (by omega)

theorem pl_x0a {post : SX → Prop} {f : Int32} {ba aw wn : Nat → Int32} (h : ∀ ho aw, pl_ar 5 pl_m (fun _ => 0) ho → pl_ar 6 pl_m (fun _ => 0) aw → post (f, ba, ho, aw, wn)) : ∀ d l (ho : Nat → Int32), l + d = 5 → pl_ar l pl_m (fun _ => 0) ho → wX_init_42 post f (d + 1) (nI l) ba ho aw wn := by
  intro d
  induction d with
  | zero =>
    intro l ho hl A
    have hl5 : l = 5 := by omega
    subst hl5
    exact br_t (nI_le (a := 5) (by omega) (by omega)) ⟨7, pl_x0b (fun aw' A' => h ho aw' A A') 6 0 aw rfl fun _ z => absurd z (Nat.not_lt_zero _)⟩
  | succ d ih =>
    intro l ho hl A
    have hl5 : l < 5 := by omega
    refine br_f (nI_ge (b := 5) hl5 (by decide)) ⟨pl_i5 hl5, fun a ea x ex => ?_⟩
    rw [ex, ea, nI_1, pl_c (by omega : l < 6)]
    refine ih (l + 1) _ (by omega) fun s hs => ?_
    by_cases c : s = l
    · subst c; exact pk_us
    · rw [pk_un c]; exact A s (by omega)

theorem i_vc0 : wpX_init (fun u => wpY_init (fun v => i_Rel 0 u v)) := by
  refine ⟨6, pl_x0a (fun ho aw Ah Aw => ?_) 5 0 _ rfl fun _ z => absurd z (Nat.not_lt_zero _)⟩
  exact ⟨fun _ => 0, fun _ => 0, fun _ => 0, fun _ => 0, 0, ⟨fun _ _ => Nat.zero_le _, fun _ _ => Nat.zero_le _, fun _ _ => Nat.zero_le _⟩, Nat.le_refl 0, fun _ _ => Nat.le_refl 0, rfl, rfl, ⟨fun _ _ => rfl, Ah, Aw, fun _ _ => rfl⟩, ⟨fun _ _ => rfl, fun _ _ => rfl, fun _ _ => rfl, fun _ _ z => absurd rfl z⟩⟩

theorem i_vc_take {k : Nat} {u : SX} {v : SY} (I : i_Rel k u v) (hk : k + 3 ≤ 1536) (v1 : Int32) (v2 : Int32) : wpX_take (fun r u' => wpY_take (fun r' v' => r' = r ∧ i_Rel (k + 3) u' v') v v1 v2) u v1 v2 := by
  obtain ⟨f, ba, ho, aw, wn⟩ := u
  obtain ⟨g, bs, hd, wa, si, ur⟩ := v
  have I2 := I
  obtain ⟨b, w, o, n, c, B, hc, hn, e1, e2, HX, HY⟩ := I2
  have ef : f = nI c := e1
  have eg : g = nI c := e2
  have HX : pl_HX b w o n ba ho aw wn := HX
  have HY : pl_HY b w o n bs hd wa si := HY
  have hn2 : ∀ t, t < 6 → n t < 2 ^ 30 := fun t ht => Nat.lt_of_le_of_lt (hn t ht) (by omega)
  have hn3 : ∀ t, t < 6 → n t ≤ k + 3 := fun t ht => Nat.le_trans (hn t ht) (by omega)
  rcases pl_a6 v1 with ⟨t, ht, rfl⟩ | hx
  rotate_left
  · unfold wpX_take wpY_take
    dsimp only
    refine pl_xT_n hx ?_
    refine br_t rfl ?_
    refine pl_yT_n hx ?_
    exact br_t rfl ⟨rfl, i_up I⟩
  rcases pl_a5 v2 with ⟨l, hl, rfl⟩ | hy
  rotate_left
  · unfold wpX_take wpY_take
    dsimp only
    refine pl_xT_y ht ?_
    refine br_f (by decide) ?_
    refine pl_xL_n hy ?_
    refine br_t rfl ?_
    refine pl_yT_y ht ?_
    refine br_f (by decide) ?_
    refine pl_yL_n hy ?_
    exact br_t rfl ⟨rfl, i_up I⟩
  by_cases hw : w t = 0
  rotate_left
  · exact pl_xtake_w HX B ht hl hw (pl_ytake_w HY B ht hl hw ⟨rfl, i_up I⟩)
  by_cases hot : o l = t + 1
  · exact pl_xtake_o HX B ht hl hw hot (pl_ytake_o HY B ht hl hw hot ⟨rfl, i_up I⟩)
  cases hol : o l with
  | zero =>
    refine pl_xtake_f HX B ht hl hw hol (pl_ytake_f HY B ht hl hw hol ⟨rfl, ?_⟩)
    exact ⟨b, w, pl_up o l (t + 1), n, c, ⟨B.1, B.2.1, pl_up_le B.2.2 (by omega)⟩, by omega, hn3, ef, eg, ⟨HX.1, pl_ar_up HX.2.1 l (t + 1) rfl, HX.2.2⟩, ⟨HY.1, pl_ar_up HY.2.1 l (t + 1) rfl, HY.2.2⟩⟩
  | succ s =>
    have hst : s ≠ t := fun z => hot (by omega)
    refine pl_xtake_s HX B ht hl hw hol hst (fun hT => ?_) (fun hT => ?_)
    · exact pl_ytake_s HY B ht hl hw hol hst (fun _ => ⟨rfl, i_up I⟩) (fun z => absurd hT z)
    · refine pl_ytake_s HY B ht hl hw hol hst (fun z => absurd z hT) (fun _ => ⟨rfl, ?_⟩)
      have ef1 : f + 1 = nI (c + 1) := by rw [ef, nI_1]
      have eg1 : g + 1 = nI (c + 1) := by rw [eg, nI_1]
      refine ⟨b, pl_up w t (l + 1), o, pl_up n t c, c + 1, ⟨B.1, pl_up_le B.2.1 (by omega), B.2.2⟩, by omega, pl_up_le hn3 (by omega), ef1, eg1, ⟨HX.1, HX.2.1, pl_ar_up HX.2.2.1 t (l + 1) rfl, pl_ar_up HX.2.2.2 t c ef⟩, ⟨HY.1, HY.2.1, pl_ar_up HY.2.2.1 t (l + 1) rfl, fun x hx z => ?_⟩⟩
      show upd si t (g + 1) x = nI (pl_up n t c x + 1)
      by_cases ex : x = t
      · subst ex
        rw [pk_us, pl_up_s]
        exact eg1
      · rw [pk_un ex, pl_up_n n ex]
        rw [pl_up_n w ex] at z
        exact HY.2.2.2 x hx z

theorem i_vc_give {k : Nat} {u : SX} {v : SY} (I : i_Rel k u v) (hk : k + 3 ≤ 1536) (v1 : Int32) (v2 : Int32) : wpX_give (fun r u' => wpY_give (fun r' v' => r' = r ∧ i_Rel (k + 3) u' v') v v1 v2) u v1 v2 := by
  obtain ⟨f, ba, ho, aw, wn⟩ := u
  obtain ⟨g, bs, hd, wa, si, ur⟩ := v
  have I2 := I
  obtain ⟨b, w, o, n, c, B, hc, hn, e1, e2, HX, HY⟩ := I2
  have ef : f = nI c := e1
  have eg : g = nI c := e2
  have HX : pl_HX b w o n ba ho aw wn := HX
  have HY : pl_HY b w o n bs hd wa si := HY
  have hn2 : ∀ t, t < 6 → n t < 2 ^ 30 := fun t ht => Nat.lt_of_le_of_lt (hn t ht) (by omega)
  have hn3 : ∀ t, t < 6 → n t ≤ k + 3 := fun t ht => Nat.le_trans (hn t ht) (by omega)
  rcases pl_a6 v1 with ⟨t, ht, rfl⟩ | hx
  rotate_left
  · unfold wpX_give wpY_give
    dsimp only
    refine pl_xT_n hx ?_
    refine br_t rfl ?_
    refine pl_yT_n hx ?_
    exact br_t rfl ⟨rfl, i_up I⟩
  rcases pl_a5 v2 with ⟨l, hl, rfl⟩ | hy
  rotate_left
  · unfold wpX_give wpY_give
    dsimp only
    refine pl_xT_y ht ?_
    refine br_f (by decide) ?_
    refine pl_xL_n hy ?_
    refine br_t rfl ?_
    refine pl_yT_y ht ?_
    refine br_f (by decide) ?_
    refine pl_yL_n hy ?_
    exact br_t rfl ⟨rfl, i_up I⟩
  by_cases hw : w t = 0
  rotate_left
  · exact pl_xgive_w HX B ht hl hw (pl_ygive_w HY B ht hl hw ⟨rfl, i_up I⟩)
  by_cases hot : o l = t + 1
  rotate_left
  · exact pl_xgive_o HX B ht hl hw hot (pl_ygive_o HY B ht hl hw hot ⟨rfl, i_up I⟩)
  obtain ⟨U, hU⟩ := pl_Ur_ex (pl_G w o) b
  refine pl_xgive_h HX B hU hn2 ht hl hw hot (fun z => ?_) (fun q z hq => ?_)
  · refine pl_ygive_h HY B hU hn2 ht hl hw hot (fun _ ur' => ⟨rfl, ?_⟩) (fun q z2 _ => absurd (z.symm.trans z2) (by omega))
    exact ⟨b, w, pl_up o l 0, n, c, ⟨B.1, B.2.1, pl_up_le B.2.2 (by omega)⟩, by omega, hn3, ef, eg, ⟨HX.1, pl_ar_up HX.2.1 l 0 rfl, HX.2.2⟩, ⟨HY.1, pl_ar_up HY.2.1 l 0 rfl, HY.2.2⟩⟩
  · refine pl_ygive_h HY B hU hn2 ht hl hw hot (fun z2 => absurd (z2.symm.trans z) (by omega)) (fun q2 z2 _ ur' => ?_)
    have eq : q2 = q := by omega
    subst eq
    refine ⟨rfl, ?_⟩
    refine ⟨b, pl_up w q2 0, pl_up o l (q2 + 1), n, c, ⟨B.1, pl_up_le B.2.1 (by omega), pl_up_le B.2.2 (by omega)⟩, by omega, hn3, ef, eg, ⟨HX.1, pl_ar_up HX.2.1 l (q2 + 1) rfl, pl_ar_up HX.2.2.1 q2 0 rfl, HX.2.2.2⟩, ⟨HY.1, pl_ar_up HY.2.1 l (q2 + 1) rfl, pl_ar_up HY.2.2.1 q2 0 rfl, fun x hx z => ?_⟩⟩
    by_cases ex : x = q2
    · subst ex
      rw [pl_up_s] at z
      exact absurd rfl z
    · rw [pl_up_n w ex] at z
      exact HY.2.2.2 x hx z

theorem i_vc_giveUp {k : Nat} {u : SX} {v : SY} (I : i_Rel k u v) (hk : k + 3 ≤ 1536) (v1 : Int32) : wpX_giveUp (fun r u' => wpY_giveUp (fun r' v' => r' = r ∧ i_Rel (k + 3) u' v') v v1) u v1 := by
  obtain ⟨f, ba, ho, aw, wn⟩ := u
  obtain ⟨g, bs, hd, wa, si, ur⟩ := v
  have I2 := I
  obtain ⟨b, w, o, n, c, B, hc, hn, e1, e2, HX, HY⟩ := I2
  have ef : f = nI c := e1
  have eg : g = nI c := e2
  have HX : pl_HX b w o n ba ho aw wn := HX
  have HY : pl_HY b w o n bs hd wa si := HY
  have hn2 : ∀ t, t < 6 → n t < 2 ^ 30 := fun t ht => Nat.lt_of_le_of_lt (hn t ht) (by omega)
  have hn3 : ∀ t, t < 6 → n t ≤ k + 3 := fun t ht => Nat.le_trans (hn t ht) (by omega)
  rcases pl_a6 v1 with ⟨t, ht, rfl⟩ | hx
  rotate_left
  · unfold wpX_giveUp wpY_giveUp
    dsimp only
    refine pl_xT_n hx ?_
    refine br_t rfl ?_
    refine pl_yT_n hx ?_
    exact br_t rfl ⟨rfl, i_up I⟩
  have hw5 := B.2.1 t ht
  unfold wpX_giveUp wpY_giveUp
  dsimp only
  refine pl_xT_y ht ?_
  refine br_f (by decide) ?_
  refine pl_xW HX B ht (fun hw => ?_) (fun hw => ?_)
  · refine br_t rfl ?_
    refine pl_yT_y ht ?_
    refine br_f (by decide) ⟨pl_i6 ht, ?_⟩
    rw [pl_c ht, HY.2.2.1 t ht]
    exact br_t ((nI_eq (b := 0) (by omega) (by decide)).mpr hw) ⟨rfl, i_up I⟩
  · refine br_f (by decide) ⟨pl_i6 ht, fun a ea => ?_⟩
    refine pl_yT_y ht ?_
    refine br_f (by decide) ⟨pl_i6 ht, ?_⟩
    rw [pl_c ht, HY.2.2.1 t ht]
    refine br_f (fun z => hw ((nI_eq (b := 0) (by omega) (by decide)).mp z)) ⟨pl_i6 ht, fun a2 ea2 => ⟨rfl, ?_⟩⟩
    rw [ea, ea2, pl_c ht]
    refine ⟨b, pl_up w t 0, o, n, c, ⟨B.1, pl_up_le B.2.1 (by omega), B.2.2⟩, by omega, hn3, ef, eg, ⟨HX.1, HX.2.1, pl_ar_up HX.2.2.1 t 0 rfl, HX.2.2.2⟩, ⟨HY.1, HY.2.1, pl_ar_up HY.2.2.1 t 0 rfl, fun x hx z => ?_⟩⟩
    by_cases ex : x = t
    · subst ex
      rw [pl_up_s] at z
      exact absurd rfl z
    · rw [pl_up_n w ex] at z
      exact HY.2.2.2 x hx z

theorem i_vc_setBase {k : Nat} {u : SX} {v : SY} (I : i_Rel k u v) (hk : k + 3 ≤ 1536) (v1 : Int32) (v2 : Int32) : wpX_setBase (fun r u' => wpY_setBase (fun r' v' => r' = r ∧ i_Rel (k + 3) u' v') v v1 v2) u v1 v2 := by
  obtain ⟨f, ba, ho, aw, wn⟩ := u
  obtain ⟨g, bs, hd, wa, si, ur⟩ := v
  have I2 := I
  obtain ⟨b, w, o, n, c, B, hc, hn, e1, e2, HX, HY⟩ := I2
  have ef : f = nI c := e1
  have eg : g = nI c := e2
  have HX : pl_HX b w o n ba ho aw wn := HX
  have HY : pl_HY b w o n bs hd wa si := HY
  have hn2 : ∀ t, t < 6 → n t < 2 ^ 30 := fun t ht => Nat.lt_of_le_of_lt (hn t ht) (by omega)
  have hn3 : ∀ t, t < 6 → n t ≤ k + 3 := fun t ht => Nat.le_trans (hn t ht) (by omega)
  rcases pl_a6 v1 with ⟨t, ht, rfl⟩ | hx
  rotate_left
  · unfold wpX_setBase wpY_setBase
    dsimp only
    refine pl_xT_n hx ?_
    refine br_t rfl ?_
    refine pl_yT_n hx ?_
    exact br_t rfl ⟨rfl, i_up I⟩
  unfold wpX_setBase wpY_setBase
  dsimp only
  refine pl_xT_y ht ?_
  refine br_f (by decide) ?_
  by_cases h0 : v2 < 0
  · refine br_t h0 ?_
    refine pl_yT_y ht ?_
    refine br_f (by decide) ?_
    exact br_t h0 ⟨rfl, i_up I⟩
  refine br_f h0 ?_
  by_cases h9 : v2 ≤ 9
  rotate_left
  · refine br_f h9 ?_
    refine pl_yT_y ht ?_
    refine br_f (by decide) ?_
    exact br_f h0 (br_f h9 ⟨rfl, i_up I⟩)
  refine br_t h9 ⟨pl_i6 ht, fun a ea => ?_⟩
  refine pl_yT_y ht ?_
  refine br_f (by decide) ?_
  refine br_f h0 (br_t h9 ⟨pl_i6 ht, fun a2 ea2 => ⟨rfl, ?_⟩⟩)
  obtain ⟨j, hj, rfl⟩ := nI_of2 (M := 9) (n := 9) (by decide) h0 h9
  rw [ea, ea2, pl_c ht]
  exact ⟨pl_up b t j, w, o, n, c, ⟨pl_up_le B.1 hj, B.2⟩, by omega, hn3, ef, eg, ⟨pl_ar_up HX.1 t j rfl, HX.2⟩, ⟨pl_ar_up HY.1 t j rfl, HY.2⟩⟩

theorem i_vc_urgency {k : Nat} {u : SX} {v : SY} (I : i_Rel k u v) (hk : k + 3 ≤ 1536) (v1 : Int32) : wpX_urgency (fun r => wpY_urgency (fun r' v' => r' = r ∧ i_Rel (k + 3) u v') v v1) u v1 := by
  obtain ⟨f, ba, ho, aw, wn⟩ := u
  obtain ⟨g, bs, hd, wa, si, ur⟩ := v
  have I2 := I
  obtain ⟨b, w, o, n, c, B, hc, hn, e1, e2, HX, HY⟩ := I2
  have ef : f = nI c := e1
  have eg : g = nI c := e2
  have HX : pl_HX b w o n ba ho aw wn := HX
  have HY : pl_HY b w o n bs hd wa si := HY
  have hn2 : ∀ t, t < 6 → n t < 2 ^ 30 := fun t ht => Nat.lt_of_le_of_lt (hn t ht) (by omega)
  have hn3 : ∀ t, t < 6 → n t ≤ k + 3 := fun t ht => Nat.le_trans (hn t ht) (by omega)
  obtain ⟨U, hU⟩ := pl_Ur_ex (pl_G w o) b
  unfold wpX_urgency wpY_urgency
  dsimp only
  rcases pl_a6 v1 with ⟨t, ht, rfl⟩ | hx
  · refine pl_xT_y ht ?_
    refine br_f (by decide) ?_
    refine pl_xU HX B hU ht ?_
    refine pl_yL HY B hU fun ur' A => ?_
    refine pl_yT_y ht ?_
    refine br_f (by decide) ⟨pl_i6 ht, ?_⟩
    refine ⟨?_, pl_ur I ur'⟩
    rw [pl_c ht]
    exact A t ht
  · refine pl_xT_n hx ?_
    refine br_t rfl ?_
    refine pl_yL HY B hU fun ur' A => ?_
    refine pl_yT_n hx ?_
    exact br_t rfl ⟨rfl, pl_ur I ur'⟩

theorem i_vc_base {k : Nat} {u : SX} {v : SY} (I : i_Rel k u v) (hk : k + 3 ≤ 1536) (v1 : Int32) : wpX_base (fun r => wpY_base (fun r' => r' = r ∧ i_Rel (k + 3) u v) v v1) u v1 := by
  obtain ⟨f, ba, ho, aw, wn⟩ := u
  obtain ⟨g, bs, hd, wa, si, ur⟩ := v
  have I2 := I
  obtain ⟨b, w, o, n, c, B, hc, hn, e1, e2, HX, HY⟩ := I2
  have ef : f = nI c := e1
  have eg : g = nI c := e2
  have HX : pl_HX b w o n ba ho aw wn := HX
  have HY : pl_HY b w o n bs hd wa si := HY
  have hn2 : ∀ t, t < 6 → n t < 2 ^ 30 := fun t ht => Nat.lt_of_le_of_lt (hn t ht) (by omega)
  have hn3 : ∀ t, t < 6 → n t ≤ k + 3 := fun t ht => Nat.le_trans (hn t ht) (by omega)
  unfold wpX_base wpY_base
  dsimp only
  rcases pl_a6 v1 with ⟨t, ht, rfl⟩ | hx
  · refine pl_xT_y ht ?_
    refine br_f (by decide) ⟨pl_i6 ht, ?_⟩
    refine pl_yT_y ht ?_
    refine br_f (by decide) ⟨pl_i6 ht, ?_⟩
    refine ⟨?_, i_up I⟩
    rw [pl_c ht, HX.1 t ht, HY.1 t ht]
  · refine pl_xT_n hx ?_
    refine br_t rfl ?_
    refine pl_yT_n hx ?_
    exact br_t rfl ⟨rfl, i_up I⟩

theorem i_vc_holder {k : Nat} {u : SX} {v : SY} (I : i_Rel k u v) (hk : k + 3 ≤ 1536) (v1 : Int32) : wpX_holder (fun r => wpY_holder (fun r' => r' = r ∧ i_Rel (k + 3) u v) v v1) u v1 := by
  obtain ⟨f, ba, ho, aw, wn⟩ := u
  obtain ⟨g, bs, hd, wa, si, ur⟩ := v
  have I2 := I
  obtain ⟨b, w, o, n, c, B, hc, hn, e1, e2, HX, HY⟩ := I2
  have ef : f = nI c := e1
  have eg : g = nI c := e2
  have HX : pl_HX b w o n ba ho aw wn := HX
  have HY : pl_HY b w o n bs hd wa si := HY
  have hn2 : ∀ t, t < 6 → n t < 2 ^ 30 := fun t ht => Nat.lt_of_le_of_lt (hn t ht) (by omega)
  have hn3 : ∀ t, t < 6 → n t ≤ k + 3 := fun t ht => Nat.le_trans (hn t ht) (by omega)
  unfold wpX_holder wpY_holder
  dsimp only
  rcases pl_a5 v1 with ⟨t, ht, rfl⟩ | hx
  · refine pl_xL_y ht ?_
    refine br_f (by decide) ⟨pl_i5 ht, ?_⟩
    refine pl_yL_y ht ?_
    refine br_f (by decide) ⟨pl_i5 ht, ?_⟩
    refine ⟨?_, i_up I⟩
    rw [pl_c (by omega : t < 6), HX.2.1 t ht, HY.2.1 t ht, pl_m_sub]
  · refine pl_xL_n hx ?_
    refine br_t rfl ?_
    refine pl_yL_n hx ?_
    exact br_t rfl ⟨rfl, i_up I⟩

theorem i_vc_waitsFor {k : Nat} {u : SX} {v : SY} (I : i_Rel k u v) (hk : k + 3 ≤ 1536) (v1 : Int32) : wpX_waitsFor (fun r => wpY_waitsFor (fun r' => r' = r ∧ i_Rel (k + 3) u v) v v1) u v1 := by
  obtain ⟨f, ba, ho, aw, wn⟩ := u
  obtain ⟨g, bs, hd, wa, si, ur⟩ := v
  have I2 := I
  obtain ⟨b, w, o, n, c, B, hc, hn, e1, e2, HX, HY⟩ := I2
  have ef : f = nI c := e1
  have eg : g = nI c := e2
  have HX : pl_HX b w o n ba ho aw wn := HX
  have HY : pl_HY b w o n bs hd wa si := HY
  have hn2 : ∀ t, t < 6 → n t < 2 ^ 30 := fun t ht => Nat.lt_of_le_of_lt (hn t ht) (by omega)
  have hn3 : ∀ t, t < 6 → n t ≤ k + 3 := fun t ht => Nat.le_trans (hn t ht) (by omega)
  unfold wpX_waitsFor wpY_waitsFor
  dsimp only
  rcases pl_a6 v1 with ⟨t, ht, rfl⟩ | hx
  · refine pl_xT_y ht ?_
    refine br_f (by decide) ⟨pl_i6 ht, ?_⟩
    refine pl_yT_y ht ?_
    refine br_f (by decide) ⟨pl_i6 ht, ?_⟩
    refine ⟨?_, i_up I⟩
    rw [pl_c ht, HX.2.2.1 t ht, HY.2.2.1 t ht, pl_m_sub]
  · refine pl_xT_n hx ?_
    refine br_t rfl ?_
    refine pl_yT_n hx ?_
    exact br_t rfl ⟨rfl, i_up I⟩

theorem i_vc_waiting {k : Nat} {u : SX} {v : SY} (I : i_Rel k u v) (hk : k + 3 ≤ 1536) (v1 : Int32) : wpX_waiting (fun r => wpY_waiting (fun r' => r' = r ∧ i_Rel (k + 3) u v) v v1) u v1 := by
  obtain ⟨f, ba, ho, aw, wn⟩ := u
  obtain ⟨g, bs, hd, wa, si, ur⟩ := v
  have I2 := I
  obtain ⟨b, w, o, n, c, B, hc, hn, e1, e2, HX, HY⟩ := I2
  have ef : f = nI c := e1
  have eg : g = nI c := e2
  have HX : pl_HX b w o n ba ho aw wn := HX
  have HY : pl_HY b w o n bs hd wa si := HY
  have hn2 : ∀ t, t < 6 → n t < 2 ^ 30 := fun t ht => Nat.lt_of_le_of_lt (hn t ht) (by omega)
  have hn3 : ∀ t, t < 6 → n t ≤ k + 3 := fun t ht => Nat.le_trans (hn t ht) (by omega)
  unfold wpX_waiting wpY_waiting
  dsimp only
  rcases pl_a5 v1 with ⟨l, hl, rfl⟩ | hx
  · refine pl_xL_y hl ?_
    refine br_f (by decide) ⟨7, ?_⟩
    refine pl_xCl HX B hl ?_ 6 0 0 rfl rfl
    refine ⟨7, ?_⟩
    exact pl_yCl HY B hl ⟨rfl, i_up I⟩ 6 0 0 rfl rfl
  · refine pl_xL_n hx ?_
    refine br_t rfl ⟨1, br_f (by decide) ?_⟩
    refine pl_yL_n hx ?_
    exact br_t rfl ⟨rfl, i_up I⟩

theorem i_vc_nextFor {k : Nat} {u : SX} {v : SY} (I : i_Rel k u v) (hk : k + 3 ≤ 1536) (v1 : Int32) : wpX_nextFor (fun r => wpY_nextFor (fun r' v' => r' = r ∧ i_Rel (k + 3) u v') v v1) u v1 := by
  obtain ⟨f, ba, ho, aw, wn⟩ := u
  obtain ⟨g, bs, hd, wa, si, ur⟩ := v
  have I2 := I
  obtain ⟨b, w, o, n, c, B, hc, hn, e1, e2, HX, HY⟩ := I2
  have ef : f = nI c := e1
  have eg : g = nI c := e2
  have HX : pl_HX b w o n ba ho aw wn := HX
  have HY : pl_HY b w o n bs hd wa si := HY
  have hn2 : ∀ t, t < 6 → n t < 2 ^ 30 := fun t ht => Nat.lt_of_le_of_lt (hn t ht) (by omega)
  have hn3 : ∀ t, t < 6 → n t ≤ k + 3 := fun t ht => Nat.le_trans (hn t ht) (by omega)
  obtain ⟨U, hU⟩ := pl_Ur_ex (pl_G w o) b
  unfold wpX_nextFor
  dsimp only
  rcases pl_a5 v1 with ⟨l, hl, rfl⟩ | hx
  · refine pl_xL_y hl ?_
    refine br_f (by decide) ?_
    refine pl_xM HX B hU hn2 hl ?_
    exact pl_yN HY B hU hn2 hl fun ur' => ⟨rfl, pl_ur I ur'⟩
  · refine pl_xL_n hx ?_
    refine br_t rfl ?_
    exact pl_yN_n HY B hx fun ur' => ⟨rfl, pl_ur I ur'⟩

theorem i_vc_held {k : Nat} {u : SX} {v : SY} (I : i_Rel k u v) (hk : k + 3 ≤ 1536) (v1 : Int32) : wpX_held (fun r => wpY_held (fun r' => r' = r ∧ i_Rel (k + 3) u v) v v1) u v1 := by
  obtain ⟨f, ba, ho, aw, wn⟩ := u
  obtain ⟨g, bs, hd, wa, si, ur⟩ := v
  have I2 := I
  obtain ⟨b, w, o, n, c, B, hc, hn, e1, e2, HX, HY⟩ := I2
  have ef : f = nI c := e1
  have eg : g = nI c := e2
  have HX : pl_HX b w o n ba ho aw wn := HX
  have HY : pl_HY b w o n bs hd wa si := HY
  have hn2 : ∀ t, t < 6 → n t < 2 ^ 30 := fun t ht => Nat.lt_of_le_of_lt (hn t ht) (by omega)
  have hn3 : ∀ t, t < 6 → n t ≤ k + 3 := fun t ht => Nat.le_trans (hn t ht) (by omega)
  unfold wpX_held wpY_held
  dsimp only
  rcases pl_a6 v1 with ⟨t, ht, rfl⟩ | hx
  · refine pl_xT_y ht ?_
    refine br_f (by decide) ⟨6, ?_⟩
    refine pl_xHl HX B ht (fun m M => ?_) 5 0 0 rfl (pl_Bt_0 _)
    refine ⟨6, ?_⟩
    refine pl_yKl HY B ht (fun m' M' => ⟨?_, i_up I⟩) 5 0 0 rfl (pl_Bt_0 _)
    rw [pl_Bt_u M M']
  · refine pl_xT_n hx ?_
    refine br_t rfl ⟨1, br_f (by decide) ?_⟩
    refine pl_yT_n hx ?_
    exact br_t rfl ⟨rfl, i_up I⟩

theorem i_vc_running {k : Nat} {u : SX} {v : SY} (I : i_Rel k u v) (hk : k + 3 ≤ 1536) : wpX_running (fun r => wpY_running (fun r' v' => r' = r ∧ i_Rel (k + 3) u v') v) u := by
  obtain ⟨f, ba, ho, aw, wn⟩ := u
  obtain ⟨g, bs, hd, wa, si, ur⟩ := v
  have I2 := I
  obtain ⟨b, w, o, n, c, B, hc, hn, e1, e2, HX, HY⟩ := I2
  have ef : f = nI c := e1
  have eg : g = nI c := e2
  have HX : pl_HX b w o n ba ho aw wn := HX
  have HY : pl_HY b w o n bs hd wa si := HY
  have hn2 : ∀ t, t < 6 → n t < 2 ^ 30 := fun t ht => Nat.lt_of_le_of_lt (hn t ht) (by omega)
  have hn3 : ∀ t, t < 6 → n t ≤ k + 3 := fun t ht => Nat.le_trans (hn t ht) (by omega)
  obtain ⟨U, hU⟩ := pl_Ur_ex (pl_G w o) b
  unfold wpX_running wpY_running
  dsimp only
  refine ⟨7, ?_⟩
  refine pl_xRl HX B hU ?_ 6 0 0 (-1) rfl rfl (fun _ => rfl) (fun _ z => nomatch z)
  refine pl_yL HY B hU fun ur' A => ?_
  refine ⟨7, ?_⟩
  exact pl_yRl HY B hU A ⟨rfl, pl_ur I ur'⟩ 6 0 0 rfl rfl

theorem i_vc_waitingOn {k : Nat} {u : SX} {v : SY} (I : i_Rel k u v) (hk : k + 3 ≤ 1536) (v1 : Int32) : wpX_waitingOn (fun r => wpY_waitingOn (fun r' => r' = r ∧ i_Rel (k + 3) u v) v v1) u v1 := by
  obtain ⟨f, ba, ho, aw, wn⟩ := u
  obtain ⟨g, bs, hd, wa, si, ur⟩ := v
  have I2 := I
  obtain ⟨b, w, o, n, c, B, hc, hn, e1, e2, HX, HY⟩ := I2
  have ef : f = nI c := e1
  have eg : g = nI c := e2
  have HX : pl_HX b w o n ba ho aw wn := HX
  have HY : pl_HY b w o n bs hd wa si := HY
  have hn2 : ∀ t, t < 6 → n t < 2 ^ 30 := fun t ht => Nat.lt_of_le_of_lt (hn t ht) (by omega)
  have hn3 : ∀ t, t < 6 → n t ≤ k + 3 := fun t ht => Nat.le_trans (hn t ht) (by omega)
  unfold wpX_waitingOn wpY_waitingOn
  dsimp only
  rcases pl_a6 v1 with ⟨t, ht, rfl⟩ | hx
  · refine pl_xT_y ht ?_
    refine br_f (by decide) ⟨7, ?_⟩
    refine pl_xOl HX B ht (fun m M => ?_) 6 0 0 rfl (pl_Bt_0 _)
    refine pl_yT_y ht ?_
    refine br_f (by decide) ?_
    refine pl_yH HY B ht fun m' M' => ⟨?_, i_up I⟩
    rw [pl_Bt_u M M']
  · refine pl_xT_n hx ?_
    refine br_t rfl ?_
    refine pl_yT_n hx ?_
    exact br_t rfl ⟨rfl, i_up I⟩

theorem i_vc_lifted {k : Nat} {u : SX} {v : SY} (I : i_Rel k u v) (hk : k + 3 ≤ 1536) : wpX_lifted (fun r => wpY_lifted (fun r' v' => r' = r ∧ i_Rel (k + 3) u v') v) u := by
  obtain ⟨f, ba, ho, aw, wn⟩ := u
  obtain ⟨g, bs, hd, wa, si, ur⟩ := v
  have I2 := I
  obtain ⟨b, w, o, n, c, B, hc, hn, e1, e2, HX, HY⟩ := I2
  have ef : f = nI c := e1
  have eg : g = nI c := e2
  have HX : pl_HX b w o n ba ho aw wn := HX
  have HY : pl_HY b w o n bs hd wa si := HY
  have hn2 : ∀ t, t < 6 → n t < 2 ^ 30 := fun t ht => Nat.lt_of_le_of_lt (hn t ht) (by omega)
  have hn3 : ∀ t, t < 6 → n t ≤ k + 3 := fun t ht => Nat.le_trans (hn t ht) (by omega)
  obtain ⟨U, hU⟩ := pl_Ur_ex (pl_G w o) b
  unfold wpX_lifted wpY_lifted
  dsimp only
  refine ⟨7, ?_⟩
  refine pl_xFl HX B hU (fun m M => ?_) 6 0 0 rfl (pl_Bt_0 _)
  refine pl_yL HY B hU fun ur' A => ?_
  refine ⟨7, ?_⟩
  refine pl_yFl HY B hU A (fun m' M' => ⟨?_, pl_ur I ur'⟩) 6 0 0 rfl (pl_Bt_0 _)
  rw [pl_Bt_u M M']

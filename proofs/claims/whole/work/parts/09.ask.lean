theorem tg_Fin_e {r sc : Int32} {xt sp : Nat → Int32} {stp la en : Int32} {yt ct : Nat → Int32} (h : tg_Fin r sc xt sp stp la en yt ct) : en = r := by
  rcases h with ⟨rfl, S, h⟩ | ⟨h, _⟩
  · exact h.2.2.2.1
  · exact h.symm
theorem tg_Fin_0 {sc : Int32} {xt sp : Nat → Int32} {stp la en : Int32} {yt ct : Nat → Int32} (h : tg_Fin 0 sc xt sp stp la en yt ct) : ∃ S, tg_live S sc xt sp stp la en yt ct := by
  rcases h with ⟨_, h⟩ | ⟨_, h⟩
  · exact h
  · exact absurd rfl h
theorem tg_wideN : ∀ (d k : Nat) (x1 : Int32), k + d = 402 → ∀ {ln hg : Int32} {inq s va nu ya yb pl cs ot op yv : Nat → Int32} {stp la en : Int32} {yt ct : Nat → Int32} {post : Int32 → SY → Prop}, ¬ en = 0 → post (-1000000003) (ln, hg, stp, la, en, inq, s, va, nu, ya, yb, pl, cs, ot, op, yv, yt, ct) → wY_widest_8 post ln hg stp la en inq s va nu ya yb pl cs ot op yv yt ct (d + 1) x1 (nI k) := by
  intro d
  induction d with
  | zero =>
    intro k x1 hk
    intros
    have : k = 402 := by omega
    subst this
    rename_i he hp
    exact br_t (by decide) (br_f he hp)
  | succ d ih =>
    intro k x1 hk
    intros
    rename_i ct post he hp
    have hin : vp_in (nI k) 402 := vp_in_nI (by omega) (by decide)
    exact br_f (nI_ge (b := 402) (by omega) (by decide)) ⟨hin, br_c (fun _ => nm_r (nI_1 k) (ih (k + 1) x1 (by omega) he hp)) (fun _ => ⟨hin, nm_e (nm_r (nI_1 k) (ih (k + 1) _ (by omega) he hp))⟩)⟩
theorem tg_wide {S : Nat} {sc : Int32} {xt sp : Nat → Int32} {stp la en : Int32} {yt ct : Nat → Int32} (H : tg_live S sc xt sp stp la en yt ct) : ∀ (d k w : Nat), w ≤ S → k + d = 401 → ∃ r : Int32,
    (∀ {lc : Int32} {inp lk tg fs sd ob oc be bb xv : Nat → Int32} {post : Int32 → SX → Prop}, post r (lc, sc, inp, lk, tg, fs, sd, ob, oc, be, bb, xv, xt, sp) → wX_widest_14 post lc sc inp lk tg fs sd ob oc be bb xv xt sp (d + 1) (nI w) (nI k)) ∧
    (∀ {ln hg : Int32} {inq s va nu ya yb pl cs ot op yv : Nat → Int32} {post : Int32 → SY → Prop}, post r (ln, hg, stp, la, en, inq, s, va, nu, ya, yb, pl, cs, ot, op, yv, yt, ct) → wY_widest_8 post ln hg stp la en inq s va nu ya yb pl cs ot op yv yt ct (d + 1 + 1) (nI w) (nI k)) := by
  intro d
  have hS := H.1
  have he : en = 0 := H.2.2.2.1
  induction d with
  | zero =>
    intro k w hw hk
    have : k = 401 := by omega
    subst this
    have h1 : ct (nI 401).toNatClampNeg ≤ nI w := by rw [nI_clamp (by decide), H.2.2.2.2.2.2.1]; exact nI_pos' (by omega)
    refine ⟨nI w, fun hp => br_t (by decide) hp, fun hp => br_f (by decide) ⟨vp_in_nI (by omega) (by decide), br_t h1 (nm_r (nI_1 401) ?_)⟩⟩
    exact br_t (by decide) (br_t he hp)
  | succ d ih =>
    intro k w hw hk
    obtain ⟨a, ha, ex, ey⟩ := H.2.2.2.2.2.1 k (by omega)
    have ex' : sp (nI k).toNatClampNeg = nI a := by rw [nI_clamp (by omega)]; exact ex
    have ey' : ct (nI k).toNatClampNeg = nI a := by rw [nI_clamp (by omega)]; exact ey
    have i1 : vp_in (nI k) 401 := vp_in_nI (by omega) (by decide)
    have i2 : vp_in (nI k) 402 := vp_in_nI (by omega) (by decide)
    by_cases h : a ≤ w
    · obtain ⟨r, hX, hY⟩ := ih (k + 1) w hw (by omega)
      have hle : nI a ≤ nI w := nI_le h (by omega)
      exact ⟨r, fun hp => br_f (nI_ge (b := 401) (by omega) (by decide)) ⟨i1, br_t (by rw [ex']; exact hle) (nm_r (nI_1 k) (hX hp))⟩,
        fun hp => br_f (nI_ge (b := 402) (by omega) (by decide)) ⟨i2, br_t (by rw [ey']; exact hle) (nm_r (nI_1 k) (hY hp))⟩⟩
    · obtain ⟨r, hX, hY⟩ := ih (k + 1) a ha (by omega)
      have hle : ¬ nI a ≤ nI w := nI_ge (by omega) (by omega)
      exact ⟨r, fun hp => br_f (nI_ge (b := 401) (by omega) (by decide)) ⟨i1, br_f (by rw [ex']; exact hle) ⟨i1, nm_r ex' (nm_r (nI_1 k) (hX hp))⟩⟩,
        fun hp => br_f (nI_ge (b := 402) (by omega) (by decide)) ⟨i2, br_f (by rw [ey']; exact hle) ⟨i2, nm_r ey' (nm_r (nI_1 k) (hY hp))⟩⟩⟩
theorem tg_lastX {S l : Nat} {sp : Nat → Int32} (hS : S ≤ 400) (hC : ∀ t, t < 401 → ∃ a, a ≤ S ∧ sp t = nI a) (hl : l ≤ S) (hl0 : ∀ t, l < t → t < 401 → sp t = 0) (hl1 : l = 0 ∨ ∃ a, 0 < a ∧ a ≤ S ∧ sp l = nI a) :
    ∀ (d k w : Nat), k + d = 401 → (k = 0 → w = 0) → (l < k → w = l) → ∀ {lc : Int32} {inp lk tg fs sd ob oc be bb xv : Nat → Int32} {sc : Int32} {xt : Nat → Int32} {post : Int32 → SX → Prop}, post (nI l) (lc, sc, inp, lk, tg, fs, sd, ob, oc, be, bb, xv, xt, sp) → wX_last_14 post lc sc inp lk tg fs sd ob oc be bb xv xt sp (d + 1) (nI w) (nI k) := by
  intro d
  induction d with
  | zero =>
    intro k w hk h0 h1 lc inp lk tg fs sd ob oc be bb xv sc xt post hp
    have : k = 401 := by omega
    subst this
    rw [h1 (by omega)]
    exact br_t (by decide) hp
  | succ d ih =>
    intro k w hk h0 h1 lc inp lk tg fs sd ob oc be bb xv sc xt post hp
    obtain ⟨a, ha, ex⟩ := hC k (by omega)
    have ex' : sp (nI k).toNatClampNeg = nI a := by rw [nI_clamp (by omega)]; exact ex
    have i1 : vp_in (nI k) 401 := vp_in_nI (by omega) (by decide)
    by_cases h : a = 0
    · subst h
      refine br_f (nI_ge (b := 401) (by omega) (by decide)) ⟨i1, br_t (by rw [ex']; decide) (nm_r (nI_1 k) (ih (k + 1) w (by omega) (by omega) ?_ hp))⟩
      intro hlk
      by_cases e : l = k
      · rcases hl1 with h | ⟨a', g1, g2, g3⟩
        · rw [h0 (by omega), h]
        · rw [e, ex] at g3
          have := (nI_eq (a := 0) (b := a') (by omega) (by omega)).mp g3
          omega
      · exact h1 (by omega)
    · refine br_f (nI_ge (b := 401) (by omega) (by decide)) ⟨i1, br_f (by rw [ex']; exact nI_nle (by omega) (by omega)) (nm_r (nI_1 k) (ih (k + 1) k (by omega) (by omega) ?_ hp))⟩
      intro hlk
      by_cases e : l = k
      · exact e.symm
      · have := hl0 k (by omega) (by omega)
        rw [ex] at this
        exact absurd ((nI_eq (b := 0) (by omega) (by omega)).mp this) h
theorem i_vc_run {k : Nat} {u : SX} {v : SY} (I : i_Rel k u v) (hk : k + 5 ≤ 2560) : wpX_run (fun r u' => wpY_run (fun r' v' => r' = r ∧ i_Rel (k + 5) u' v') v) u := by
  obtain ⟨lc, sc, inp, lk, tg, fs, sd, ob, oc, be, bb, xv, xt, sp⟩ := u
  obtain ⟨ln, hg, stp, la, en, inq, s, va, nu, ya, yb, pl, cs, ot, op, yv, yt, ct⟩ := v
  obtain ⟨L, rfl, rfl, R⟩ := I
  obtain ⟨r, xv', sc', xt', sp', hg', stp', la', en', pl', cs', ot', op', yv', yt', ct', hF, hV, hX, hY⟩ := tg_run R sc xv xt sp hg stp la en pl cs ot op yv yt ct
  unfold wpX_run wpY_run
  refine hX ?_
  refine hY ?_
  exact ⟨tg_Fin_e hF, L, rfl, rfl, R⟩
theorem i_vc_value {k : Nat} {u : SX} {v : SY} (I : i_Rel k u v) (hk : k + 5 ≤ 2560) (v1 : Int32) (v2 : Int32) : wpX_value (fun r u' => wpY_value (fun r' v' => r' = r ∧ i_Rel (k + 5) u' v') v v1 v2) u v1 v2 := by
  obtain ⟨lc, sc, inp, lk, tg, fs, sd, ob, oc, be, bb, xv, xt, sp⟩ := u
  obtain ⟨ln, hg, stp, la, en, inq, s, va, nu, ya, yb, pl, cs, ot, op, yv, yt, ct⟩ := v
  obtain ⟨L, rfl, rfl, R⟩ := I
  obtain ⟨r, xv', sc', xt', sp', hg', stp', la', en', pl', cs', ot', op', yv', yt', ct', hF, hV, hX, hY⟩ := tg_run R sc xv xt sp hg stp la en pl cs ot op yv yt ct
  unfold wpX_value wpY_value
  rcases tg_ix4 v1 with h | ⟨j, hj, rfl⟩
  · refine tg_vX0 h ?_
    refine br_t rfl ?_
    refine tg_vY0 h ?_
    refine br_t rfl ?_
    exact ⟨rfl, L, rfl, rfl, R⟩
  refine tg_vX1 hj ?_
  refine br_f (by decide) ?_
  by_cases h0 : v2 < 0
  · refine br_t h0 ?_
    refine tg_vY1 hj ?_
    refine br_f (by decide) (br_t h0 ?_)
    exact ⟨rfl, L, rfl, rfl, R⟩
  refine br_f h0 ?_
  obtain ⟨o, ho, rfl⟩ := nI_of h0
  by_cases h3 : o < 3
  · have hle : nI o ≤ 2 := nI_le (b := 2) (by omega) (by decide)
    refine br_t (nI_lt (b := 3) h3 (by decide)) ?_
    refine hX ?_
    by_cases z : r = 0
    · subst z
      obtain ⟨S, H⟩ := tg_Fin_0 hF
      have he : en' = 0 := H.2.2.2.1
      refine br_t rfl ⟨vp_in_nI hj (by decide), ?_⟩
      refine tg_vY1 hj ?_
      refine br_f (by decide) (br_f h0 (br_t hle ?_))
      refine hY ?_
      refine br_t he ⟨vp_in_nI (by omega) (by decide), ?_⟩
      rw [nI_clamp (by omega), hV rfl j hj]
      exact ⟨rfl, L, rfl, rfl, R⟩
    · refine br_f z ?_
      refine tg_vY1 hj ?_
      refine br_f (by decide) (br_f h0 (br_t hle ?_))
      refine hY ?_
      refine br_f (by rw [tg_Fin_e hF]; exact z) ?_
      exact ⟨rfl, L, rfl, rfl, R⟩
  · refine br_f (fun q => h3 ((nI_ltI (b := 3) ho (by decide)).mp q)) ?_
    refine tg_vY1 hj ?_
    refine br_f (by decide) (br_f h0 (br_f (nI_ge (a := 2) (by omega) ho) ?_))
    exact ⟨rfl, L, rfl, rfl, R⟩
theorem i_vc_time {k : Nat} {u : SX} {v : SY} (I : i_Rel k u v) (hk : k + 5 ≤ 2560) (v1 : Int32) : wpX_time (fun r u' => wpY_time (fun r' v' => r' = r ∧ i_Rel (k + 5) u' v') v v1) u v1 := by
  obtain ⟨lc, sc, inp, lk, tg, fs, sd, ob, oc, be, bb, xv, xt, sp⟩ := u
  obtain ⟨ln, hg, stp, la, en, inq, s, va, nu, ya, yb, pl, cs, ot, op, yv, yt, ct⟩ := v
  obtain ⟨L, rfl, rfl, R⟩ := I
  obtain ⟨r, xv', sc', xt', sp', hg', stp', la', en', pl', cs', ot', op', yv', yt', ct', hF, hV, hX, hY⟩ := tg_run R sc xv xt sp hg stp la en pl cs ot op yv yt ct
  unfold wpX_time wpY_time
  rcases tg_ix4 v1 with h | ⟨j, hj, rfl⟩
  · refine tg_vX0 h ?_
    refine br_t rfl ?_
    refine tg_vY0 h ?_
    refine br_t rfl ?_
    exact ⟨rfl, L, rfl, rfl, R⟩
  refine tg_vX1 hj ?_
  refine br_f (by decide) ?_
  refine hX ?_
  by_cases z : r = 0
  · subst z
    obtain ⟨S, H⟩ := tg_Fin_0 hF
    have he : en' = 0 := H.2.2.2.1
    obtain ⟨a, _, ex, ey⟩ := H.2.2.2.2.1 j (by omega)
    have hin : vp_in (nI j) 5 := vp_in_nI (by omega) (by decide)
    refine br_t rfl ⟨hin, ?_⟩
    refine tg_vY1 hj ?_
    refine br_f (by decide) ?_
    refine hY ?_
    refine br_t he ⟨hin, ?_⟩
    rw [nI_clamp (by omega), ex, ey]
    exact ⟨rfl, L, rfl, rfl, R⟩
  · refine br_f z ?_
    refine tg_vY1 hj ?_
    refine br_f (by decide) ?_
    refine hY ?_
    refine br_f (by rw [tg_Fin_e hF]; exact z) ?_
    exact ⟨rfl, L, rfl, rfl, R⟩
theorem i_vc_go {k : Nat} {u : SX} {v : SY} (I : i_Rel k u v) (hk : k + 5 ≤ 2560) : wpX_go (fun r u' => wpY_go (fun r' v' => r' = r ∧ i_Rel (k + 5) u' v') v) u := by
  obtain ⟨lc, sc, inp, lk, tg, fs, sd, ob, oc, be, bb, xv, xt, sp⟩ := u
  obtain ⟨ln, hg, stp, la, en, inq, s, va, nu, ya, yb, pl, cs, ot, op, yv, yt, ct⟩ := v
  obtain ⟨L, rfl, rfl, R⟩ := I
  obtain ⟨r, xv', sc', xt', sp', hg', stp', la', en', pl', cs', ot', op', yv', yt', ct', hF, hV, hX, hY⟩ := tg_run R sc xv xt sp hg stp la en pl cs ot op yv yt ct
  unfold wpX_go wpY_go
  refine hX ?_
  by_cases z : r = 0
  · subst z
    obtain ⟨S, H⟩ := tg_Fin_0 hF
    have he : en' = 0 := H.2.2.2.1
    obtain ⟨a, _, ex, ey⟩ := H.2.2.2.2.1 4 (by omega)
    refine br_t rfl ?_
    refine hY ?_
    refine br_t he ?_
    exact ⟨ey.trans ex.symm, L, rfl, rfl, R⟩
  · refine br_f z ?_
    refine hY ?_
    refine br_f (by rw [tg_Fin_e hF]; exact z) ?_
    exact ⟨rfl, L, rfl, rfl, R⟩
theorem i_vc_steps {k : Nat} {u : SX} {v : SY} (I : i_Rel k u v) (hk : k + 5 ≤ 2560) : wpX_steps (fun r u' => wpY_steps (fun r' v' => r' = r ∧ i_Rel (k + 5) u' v') v) u := by
  obtain ⟨lc, sc, inp, lk, tg, fs, sd, ob, oc, be, bb, xv, xt, sp⟩ := u
  obtain ⟨ln, hg, stp, la, en, inq, s, va, nu, ya, yb, pl, cs, ot, op, yv, yt, ct⟩ := v
  obtain ⟨L, rfl, rfl, R⟩ := I
  obtain ⟨r, xv', sc', xt', sp', hg', stp', la', en', pl', cs', ot', op', yv', yt', ct', hF, hV, hX, hY⟩ := tg_run R sc xv xt sp hg stp la en pl cs ot op yv yt ct
  unfold wpX_steps wpY_steps
  refine hX ?_
  by_cases z : r = 0
  · subst z
    obtain ⟨S, H⟩ := tg_Fin_0 hF
    have he : en' = 0 := H.2.2.2.1
    refine br_t rfl ?_
    refine hY ?_
    refine br_t he ?_
    exact ⟨H.2.2.1.trans H.2.1.symm, L, rfl, rfl, R⟩
  · refine br_f z ?_
    refine hY ?_
    refine br_f (by rw [tg_Fin_e hF]; exact z) ?_
    exact ⟨rfl, L, rfl, rfl, R⟩
theorem i_vc_widest {k : Nat} {u : SX} {v : SY} (I : i_Rel k u v) (hk : k + 5 ≤ 2560) : wpX_widest (fun r u' => wpY_widest (fun r' v' => r' = r ∧ i_Rel (k + 5) u' v') v) u := by
  obtain ⟨lc, sc, inp, lk, tg, fs, sd, ob, oc, be, bb, xv, xt, sp⟩ := u
  obtain ⟨ln, hg, stp, la, en, inq, s, va, nu, ya, yb, pl, cs, ot, op, yv, yt, ct⟩ := v
  obtain ⟨L, rfl, rfl, R⟩ := I
  obtain ⟨r, xv', sc', xt', sp', hg', stp', la', en', pl', cs', ot', op', yv', yt', ct', hF, hV, hX, hY⟩ := tg_run R sc xv xt sp hg stp la en pl cs ot op yv yt ct
  unfold wpX_widest wpY_widest
  refine hX ?_
  by_cases z : r = 0
  · subst z
    obtain ⟨S, H⟩ := tg_Fin_0 hF
    have he : en' = 0 := H.2.2.2.1
    obtain ⟨w, wX, wY⟩ := tg_wide H 401 0 0 (by omega) rfl
    refine br_t rfl ⟨402, ?_⟩
    refine wX ?_
    refine hY ?_
    refine ⟨403, wY ?_⟩
    exact ⟨rfl, L, rfl, rfl, R⟩
  · refine br_f z ?_
    refine hY ?_
    refine ⟨403, tg_wideN 402 0 0 rfl (by rw [tg_Fin_e hF]; exact z) ?_⟩
    exact ⟨rfl, L, rfl, rfl, R⟩
theorem i_vc_at {k : Nat} {u : SX} {v : SY} (I : i_Rel k u v) (hk : k + 5 ≤ 2560) (v1 : Int32) : wpX_at (fun r u' => wpY_at (fun r' v' => r' = r ∧ i_Rel (k + 5) u' v') v v1) u v1 := by
  obtain ⟨lc, sc, inp, lk, tg, fs, sd, ob, oc, be, bb, xv, xt, sp⟩ := u
  obtain ⟨ln, hg, stp, la, en, inq, s, va, nu, ya, yb, pl, cs, ot, op, yv, yt, ct⟩ := v
  obtain ⟨L, rfl, rfl, R⟩ := I
  obtain ⟨r, xv', sc', xt', sp', hg', stp', la', en', pl', cs', ot', op', yv', yt', ct', hF, hV, hX, hY⟩ := tg_run R sc xv xt sp hg stp la en pl cs ot op yv yt ct
  unfold wpX_at wpY_at
  refine hX ?_
  by_cases z : r = 0
  · subst z
    obtain ⟨S, H⟩ := tg_Fin_0 hF
    have he : en' = 0 := H.2.2.2.1
    refine br_t rfl ?_
    by_cases h0 : v1 < 0
    · refine br_t h0 ?_
      refine hY ?_
      refine br_t he (br_t h0 ?_)
      exact ⟨rfl, L, rfl, rfl, R⟩
    obtain ⟨t, ht, rfl⟩ := nI_of h0
    refine br_f h0 ?_
    by_cases h1 : t < 401
    · obtain ⟨a, _, ex, ey⟩ := H.2.2.2.2.2.1 t h1
      refine br_t (nI_lt (b := 401) h1 (by decide)) ⟨vp_in_nI h1 (by decide), ?_⟩
      refine hY ?_
      refine br_t he (br_f h0 (br_t (nI_le (b := 401) (by omega) (by decide)) ⟨vp_in_nI (by omega) (by decide), ?_⟩))
      rw [nI_clamp ht, ex, ey]
      exact ⟨rfl, L, rfl, rfl, R⟩
    · refine br_f (fun q => h1 ((nI_ltI (b := 401) ht (by decide)).mp q)) ?_
      refine hY ?_
      by_cases h2 : t = 401
      · subst h2
        refine br_t he (br_f h0 (br_t (by decide) ⟨vp_in_nI (by omega) (by decide), ?_⟩))
        rw [nI_clamp ht, H.2.2.2.2.2.2.1]
        exact ⟨rfl, L, rfl, rfl, R⟩
      · refine br_t he (br_f h0 (br_f (nI_ge (a := 401) (by omega) ht) ?_))
        exact ⟨rfl, L, rfl, rfl, R⟩
  · refine br_f z ?_
    refine hY ?_
    refine br_f (by rw [tg_Fin_e hF]; exact z) ?_
    exact ⟨rfl, L, rfl, rfl, R⟩
theorem i_vc_last {k : Nat} {u : SX} {v : SY} (I : i_Rel k u v) (hk : k + 5 ≤ 2560) : wpX_last (fun r u' => wpY_last (fun r' v' => r' = r ∧ i_Rel (k + 5) u' v') v) u := by
  obtain ⟨lc, sc, inp, lk, tg, fs, sd, ob, oc, be, bb, xv, xt, sp⟩ := u
  obtain ⟨ln, hg, stp, la, en, inq, s, va, nu, ya, yb, pl, cs, ot, op, yv, yt, ct⟩ := v
  obtain ⟨L, rfl, rfl, R⟩ := I
  obtain ⟨r, xv', sc', xt', sp', hg', stp', la', en', pl', cs', ot', op', yv', yt', ct', hF, hV, hX, hY⟩ := tg_run R sc xv xt sp hg stp la en pl cs ot op yv yt ct
  unfold wpX_last wpY_last
  refine hX ?_
  by_cases z : r = 0
  · subst z
    obtain ⟨S, H⟩ := tg_Fin_0 hF
    have he : en' = 0 := H.2.2.2.1
    have H' := H
    obtain ⟨hS4, e1, e2, e3, hT, hC, h401, l, hl, e4, hl0, hl1⟩ := H'
    refine br_t rfl ⟨402, ?_⟩
    refine tg_lastX hS4 (fun t ht => by obtain ⟨a, g1, g2, _⟩ := hC t ht; exact ⟨a, g1, g2⟩) hl hl0 hl1 401 0 0 rfl (fun _ => rfl) (fun q => absurd q (by omega)) ?_
    refine hY ?_
    refine br_t he ?_
    exact ⟨e4, L, rfl, rfl, R⟩
  · refine br_f z ?_
    refine hY ?_
    refine br_f (by rw [tg_Fin_e hF]; exact z) ?_
    exact ⟨rfl, L, rfl, rfl, R⟩

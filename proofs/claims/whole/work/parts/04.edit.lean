section
variable {L : Nat} {sc : Int32} {inp lk tg fs sd ob oc be bb xv xt sp : Nat → Int32} {hg stp la en : Int32} {inq s va nu ya yb pl cs ot op yv yt ct : Nat → Int32}
theorem tg_asX {post : Int32 → SX → Prop} {p0 p1 p2 p3 : Int32} (hL : L < 20) (ho : ∀ i, i < L → tg_ops s ob oc i)
    (h : post (nI (L + 1)) (nI (L + 1), sc, inp, upd lk L p0, upd tg L p1, upd fs L p2, upd sd L p3, upd ob L (tg_top (tg_st s L)), upd oc L (nI (tg_st s L).length), be, bb, xv, xt, sp)) :
    wpX_appendStatement post (nI L, sc, inp, lk, tg, fs, sd, ob, oc, be, bb, xv, xt, sp) p0 p1 p2 p3 := by
  have hin : vp_in (nI L) 20 := vp_in_nI hL (by omega)
  refine br_t (nI_lt (b := 20) hL (by decide)) ⟨hin, nm_r (tg_uc (by omega)) ⟨hin, nm_r (tg_uc (by omega)) ⟨hin, nm_r (tg_uc (by omega)) ?_⟩⟩⟩
  refine tg_inner (by omega) ho ?_
  refine tg_ocnt (by omega) ho ?_
  exact tg_apX hL h
theorem tg_fsX {post : Int32 → SX → Prop} {p0 p1 p2 p3 : Int32} (hL : L = 20) (h : post (-1000000002) (nI L, sc, inp, lk, tg, fs, sd, ob, oc, be, bb, xv, xt, sp)) : wpX_appendStatement post (nI L, sc, inp, lk, tg, fs, sd, ob, oc, be, bb, xv, xt, sp) p0 p1 p2 p3 := by
  subst hL
  exact br_f (by decide) h
theorem tg_aoX {post : Int32 → SX → Prop} {p0 : Int32} {c : Nat} (hc : c < 4) (hL : L < 20) (h4 : (tg_st s L).length < 4) (ho : ∀ i, i < L → tg_ops s ob oc i)
    (h : post (nI (L + 1)) (nI (L + 1), sc, inp, upd lk L p0, tg, upd fs L (nI c), sd, upd ob L (nI L), upd oc L (nI ((tg_st s L).length + 1)), be, bb, xv, xt, sp)) :
    wpX_appendOpening post (nI L, sc, inp, lk, tg, fs, sd, ob, oc, be, bb, xv, xt, sp) p0 (nI c) := by
  have hin : vp_in (nI L) 20 := vp_in_nI hL (by omega)
  unfold wpX_appendOpening
  refine tg_vX1 hc ?_
  refine br_f (by decide) ?_
  refine tg_ocnt (by omega) ho ?_
  refine br_f (nI_ge (b := 20) hL (by decide)) (br_t (nI_lt (b := 4) h4 (by decide)) ⟨hin, nm_r (tg_uc (by omega)) ?_⟩)
  rw [nI_1]
  exact tg_apX hL h
theorem tg_foX {post : Int32 → SX → Prop} {p0 : Int32} {c : Nat} (hc : c < 4) (hL : L ≤ 20) (h4 : L = 20 ∨ (tg_st s L).length = 4) (ho : ∀ i, i < L → tg_ops s ob oc i)
    (h : post (-1000000002) (nI L, sc, inp, lk, tg, fs, sd, ob, oc, be, bb, xv, xt, sp)) : wpX_appendOpening post (nI L, sc, inp, lk, tg, fs, sd, ob, oc, be, bb, xv, xt, sp) p0 (nI c) := by
  unfold wpX_appendOpening
  refine tg_vX1 hc ?_
  refine br_f (by decide) ?_
  refine tg_ocnt (by omega) ho ?_
  by_cases e : L = 20
  · subst e
    exact br_t (by decide) h
  · refine br_f (nI_ge (b := 20) (by omega) (by decide)) (br_f ?_ h)
    rw [h4.resolve_left e]
    decide
theorem tg_boX {post : Int32 → SX → Prop} {p0 x : Int32} {u : SX} (hx : x < 0 ∨ nI 4 ≤ x) (h : post (-1000000001) u) : wpX_appendOpening post u p0 x := by
  obtain ⟨lc, sc, inp, lk, tg, fs, sd, ob, oc, be, bb, xv, xt, sp⟩ := u
  unfold wpX_appendOpening
  refine tg_vX0 hx ?_
  exact br_t rfl h
theorem tg_boY {post : Int32 → SY → Prop} {p0 x : Int32} {u : SY} (hx : x < 0 ∨ nI 4 ≤ x) (h : post (-1000000001) u) : wpY_open post u p0 x := by
  obtain ⟨ln, hg, stp, la, en, inq, s, va, nu, ya, yb, pl, cs, ot, op, yv, yt, ct⟩ := u
  unfold wpY_open
  refine tg_vY0 hx ?_
  exact br_t rfl h
theorem tg_lk (R : tg_R L inp lk tg fs sd ob oc be bb inq s va nu ya yb) {i : Nat} (hi : i < L) : (s i = 2 → lk i = 6) ∧ (s i = 3 → lk i = 7) ∧ (s i = 4 → lk i = 8) ∧ (s i = 5 → lk i = 9) := by
  rcases R.2.2.1 i hi with h | h | h | h | h | h
  · exact ⟨fun z => absurd (h.1.symm.trans z) (by decide), fun z => absurd (h.1.symm.trans z) (by decide), fun z => absurd (h.1.symm.trans z) (by decide), fun z => absurd (h.1.symm.trans z) (by decide)⟩
  · exact ⟨fun z => absurd (h.1.symm.trans z) (by decide), fun z => absurd (h.1.symm.trans z) (by decide), fun z => absurd (h.1.symm.trans z) (by decide), fun z => absurd (h.1.symm.trans z) (by decide)⟩
  · exact ⟨fun _ => h.2.1, fun z => absurd (h.1.symm.trans z) (by decide), fun z => absurd (h.1.symm.trans z) (by decide), fun z => absurd (h.1.symm.trans z) (by decide)⟩
  · exact ⟨fun z => absurd (h.1.symm.trans z) (by decide), fun _ => h.2.1, fun z => absurd (h.1.symm.trans z) (by decide), fun z => absurd (h.1.symm.trans z) (by decide)⟩
  · exact ⟨fun z => absurd (h.1.symm.trans z) (by decide), fun z => absurd (h.1.symm.trans z) (by decide), fun _ => h.2.1, fun z => absurd (h.1.symm.trans z) (by decide)⟩
  · exact ⟨fun z => absurd (h.1.symm.trans z) (by decide), fun z => absurd (h.1.symm.trans z) (by decide), fun z => absurd (h.1.symm.trans z) (by decide), fun _ => h.2.1⟩
theorem tg_endX {post : SX → Prop} {c : Nat} (hc : c < 20) (hL : L < 20) (h : post (nI L, sc, inp, lk, tg, fs, sd, ob, oc, upd be c (nI L), upd bb L (nI c), xv, xt, sp)) : wpX_endBlock post (nI L, sc, inp, lk, tg, fs, sd, ob, oc, be, bb, xv, xt, sp) (nI c) :=
  ⟨vp_in_nI hc (by omega), nm_r (tg_uc (by omega)) ⟨vp_in_nI hL (by omega), nm_r (tg_uc (by omega)) h⟩⟩
theorem tg_ba21 {post : Int32 → Prop} {b : Nat} (hb : b ≤ L) (hL : L ≤ 20) (ho : ∀ i, i < L → tg_ops s ob oc i) (h : post (tg_top (tg_st s b))) : wX_blockAround_21 post (nI b) (nI L) sc inp lk tg fs sd ob oc be bb xv xt sp := by
  cases b with
  | zero => exact br_t (by decide) h
  | succ k =>
    refine br_f (nI_nle (by omega) (by omega)) ⟨?_, ?_⟩
    · rw [nI_pred]; exact vp_in_nI (by omega) (by omega)
    · rw [nI_pred, nI_clamp (by omega), (ho k (by omega)).2.2]; exact h
theorem tg_baX {post : Int32 → Prop} {b c : Nat} {t : List (Nat × Nat)} (R : tg_R L inp lk tg fs sd ob oc be bb inq s va nu ya yb) (e : tg_st s L = (b, c) :: t) (h : post (tg_top t)) : wpX_blockAround post (nI L, sc, inp, lk, tg, fs, sd, ob, oc, be, bb, xv, xt, sp) (nI c) := by
  obtain ⟨h1, h2, h3, h4, h5, h6⟩ := tg_hd (tg_R_va R) (Nat.le_refl _) e
  have hL := R.1
  have hin : vp_in (nI c) 20 := vp_in_nI (by omega) (by omega)
  rw [← h3] at h
  refine ⟨hin, ?_⟩
  rw [nI_clamp (by omega)]
  by_cases hbc : c = b
  · subst hbc
    refine br_f ?_ (tg_ba21 (by omega) hL R.2.2.2 h)
    rcases h4 with h4 | h4
    · rw [(tg_lk R h2).1 h4]; decide
    · rw [(tg_lk R h2).2.2.1 h4]; decide
  · obtain ⟨s3, sb, e3⟩ := h5.resolve_left hbc
    refine br_t ((tg_lk R h2).2.1 s3) ⟨hin, ?_⟩
    have hb : bb c = nI b := by
      rcases R.2.2.1 c h2 with q | q | q | ⟨_, _, b', t', e', _, _, q, _⟩ | q | q
      · exact absurd (q.1.symm.trans s3) (by decide)
      · exact absurd (q.1.symm.trans s3) (by decide)
      · exact absurd (q.1.symm.trans s3) (by decide)
      · rw [e3] at e'; cases e'; exact q
      · exact absurd (q.1.symm.trans s3) (by decide)
      · exact absurd (q.1.symm.trans s3) (by decide)
    rw [hb]
    exact tg_ba21 (by omega) hL R.2.2.2 h
theorem tg_ap0 (R : tg_R L inp lk tg fs sd ob oc be bb inq s va nu ya yb) (hL : L < 20) {j : Nat} {k : Int32} (hj : j < 4) :
    tg_R (L + 1) inp (upd lk L 5) (upd tg L (nI j)) (upd fs L k) (upd sd L 0) (upd ob L (tg_top (tg_st s L))) (upd oc L (nI (tg_st s L).length)) be bb inq (upd s L 0) (upd va L (nI j)) (upd nu L k) (upd ya L 0) (upd yb L 0) := by
  refine tg_app R hL (fun j hj => ?_) (fun _ _ _ _ _ _ _ => rfl) (fun e => ?_) (fun e => ?_)
  · refine ⟨?_, ?_, ?_, ?_, ?_, ?_, ?_, ?_, ?_, rfl, ?_, ?_⟩ <;> exact pk_un (by omega)
  · exact Or.inl ⟨pk_us, pk_us, pk_us.trans pk_us.symm, j, hj, pk_us, pk_us⟩
  · unfold tg_ops
    rw [tg_st_n (Or.inl pk_us), e]
    exact ⟨tg_R_len R L (Nat.le_refl _), pk_us, pk_us⟩
theorem tg_ap1 (R : tg_R L inp lk tg fs sd ob oc be bb inq s va nu ya yb) (hL : L < 20) {j k a b : Nat} (hj : j < 4) (hk : k < 5) (ha : a < 4) (hb : b < 4) :
    tg_R (L + 1) inp (upd lk L (nI k)) (upd tg L (nI j)) (upd fs L (nI a)) (upd sd L (nI b)) (upd ob L (tg_top (tg_st s L))) (upd oc L (nI (tg_st s L).length)) be bb inq (upd s L 1) (upd va L (nI j)) (upd nu L (nI k)) (upd ya L (nI a)) (upd yb L (nI b)) := by
  refine tg_app R hL (fun j hj => ?_) (fun _ _ _ _ _ _ _ => rfl) (fun e => ?_) (fun e => ?_)
  · refine ⟨?_, ?_, ?_, ?_, ?_, ?_, ?_, ?_, ?_, rfl, ?_, ?_⟩ <;> exact pk_un (by omega)
  · exact Or.inr (Or.inl ⟨pk_us, k, j, a, b, hk, hj, ha, hb, pk_us, pk_us, pk_us, pk_us, pk_us, pk_us, pk_us, pk_us⟩)
  · unfold tg_ops
    rw [tg_st_n (Or.inr pk_us), e]
    exact ⟨tg_R_len R L (Nat.le_refl _), pk_us, pk_us⟩
theorem tg_ap2 (R : tg_R L inp lk tg fs sd ob oc be bb inq s va nu ya yb) (hL : L < 20) (h4 : (tg_st s L).length < 4) {c : Nat} (hc : c < 4) {p q : Int32} (hp : (p = 6 ∧ q = 2) ∨ (p = 8 ∧ q = 4)) :
    tg_R (L + 1) inp (upd lk L p) tg (upd fs L (nI c)) sd (upd ob L (nI L)) (upd oc L (nI ((tg_st s L).length + 1))) be bb inq (upd s L q) (upd va L (nI c)) (upd nu L 0) (upd ya L 0) (upd yb L 0) := by
  refine tg_app R hL (fun j hj => ?_) (fun _ _ _ _ _ _ _ => rfl) (fun e => ?_) (fun e => ?_)
  · exact ⟨pk_un (by omega), pk_un (by omega), pk_un (by omega), pk_un (by omega), pk_un (by omega), pk_un (by omega), rfl, pk_un (by omega), rfl, rfl, pk_un (by omega), pk_un (by omega)⟩
  · rcases hp with ⟨rfl, rfl⟩ | ⟨rfl, rfl⟩
    · exact Or.inr (Or.inr (Or.inl ⟨pk_us, pk_us, c, hc, pk_us, pk_us⟩))
    · exact Or.inr (Or.inr (Or.inr (Or.inr (Or.inl ⟨pk_us, pk_us, c, hc, pk_us, pk_us⟩))))
  · unfold tg_ops
    rw [tg_st_o (by rcases hp with ⟨rfl, rfl⟩ | ⟨rfl, rfl⟩; exact Or.inl pk_us; exact Or.inr pk_us), e, List.length_cons]
    exact ⟨by omega, pk_us, pk_us⟩
theorem tg_ap3 (R : tg_R L inp lk tg fs sd ob oc be bb inq s va nu ya yb) (hL : L < 20) {b : Nat} {t : List (Nat × Nat)} (e : tg_st s L = (b, b) :: t) (sb : s b = 2) :
    tg_R (L + 1) inp (upd lk L 7) tg fs sd (upd ob L (nI L)) (upd oc L (nI (tg_st s L).length)) (upd be b (nI L)) (upd bb L (nI b)) inq (upd s L 3) (upd va L 0) (upd nu L 0) (upd ya L 0) (upd yb L 0) := by
  have hd := tg_hd (tg_R_va R) (Nat.le_refl _) e
  have hl := tg_R_len R L (Nat.le_refl _)
  refine tg_app R hL (fun j hj => ?_) (fun j b' c' t' hj hs e' => ?_) (fun e' => ?_) (fun e' => ?_)
  · exact ⟨pk_un (by omega), pk_un (by omega), pk_un (by omega), pk_un (by omega), pk_un (by omega), pk_un (by omega), rfl, rfl, rfl, pk_un (by omega), pk_un (by omega), pk_un (by omega)⟩
  · have := (tg_never (tg_R_va R) hs e' L hj (Nat.le_refl _) (b, b) (by rw [e]; exact List.mem_cons_self ..)).1
    exact pk_un (fun z => this z.symm)
  · exact Or.inr (Or.inr (Or.inr (Or.inl ⟨pk_us, pk_us, b, t, e'.trans e, by omega, by rw [pk_un (by omega)]; exact sb, pk_us, pk_us⟩)))
  · unfold tg_ops
    rw [tg_st_w pk_us (e'.trans e), e]
    rw [e] at hl
    exact ⟨hl, pk_us, pk_us⟩
theorem tg_ap5 (R : tg_R L inp lk tg fs sd ob oc be bb inq s va nu ya yb) (hL : L < 20) {b c : Nat} {t : List (Nat × Nat)} (e : tg_st s L = (b, c) :: t) :
    tg_R (L + 1) inp (upd lk L 9) tg fs sd (upd ob L (tg_top t)) (upd oc L (nI t.length)) (upd be c (nI L)) (upd bb L (nI c)) inq (upd s L 5) (upd va L 0) (upd nu L 0) (upd ya L 0) (upd yb L 0) := by
  have hd := tg_hd (tg_R_va R) (Nat.le_refl _) e
  have hl := tg_R_len R L (Nat.le_refl _)
  refine tg_app R hL (fun j hj => ?_) (fun j b' c' t' hj hs e' => ?_) (fun e' => ?_) (fun e' => ?_)
  · exact ⟨pk_un (by omega), pk_un (by omega), pk_un (by omega), pk_un (by omega), pk_un (by omega), pk_un (by omega), rfl, rfl, rfl, pk_un (by omega), pk_un (by omega), pk_un (by omega)⟩
  · have := (tg_never (tg_R_va R) hs e' L hj (Nat.le_refl _) (b, c) (by rw [e]; exact List.mem_cons_self ..)).1
    exact pk_un (fun z => this z.symm)
  · exact Or.inr (Or.inr (Or.inr (Or.inr (Or.inr ⟨pk_us, pk_us, b, c, t, e'.trans e, pk_us, pk_us⟩))))
  · unfold tg_ops
    rw [tg_st_c pk_us, e', e, List.tail_cons]
    rw [e, List.length_cons] at hl
    exact ⟨by omega, pk_us, pk_us⟩
end
theorem tg_ix4 (x : Int32) : (x < 0 ∨ nI 4 ≤ x) ∨ ∃ j : Nat, j < 4 ∧ x = nI j := by
  rcases pk_ix x (n := 4) (by decide) with h | h | h
  · exact Or.inl (Or.inl h)
  · exact Or.inl (Or.inr h)
  · exact Or.inr h
theorem i_vc_input {k : Nat} {u : SX} {v : SY} (I : i_Rel k u v) (hk : k + 5 ≤ 2560) (v1 : Int32) (v2 : Int32) : wpX_input (fun r u' => wpY_input (fun r' v' => r' = r ∧ i_Rel (k + 5) u' v') v v1 v2) u v1 v2 := by
  obtain ⟨lc, sc, inp, lk, tg, fs, sd, ob, oc, be, bb, xv, xt, sp⟩ := u
  obtain ⟨ln, hg, stp, la, en, inq, s, va, nu, ya, yb, pl, cs, ot, op, yv, yt, ct⟩ := v
  obtain ⟨L, rfl, rfl, R⟩ := I
  unfold wpX_input wpY_input
  have hR := R
  obtain ⟨hL, rfl, R1, R2⟩ := R
  rcases tg_ix4 v1 with h | ⟨j, hj, rfl⟩
  · refine tg_vX0 h ?_
    refine br_t rfl ?_
    refine tg_vY0 h ?_
    refine br_t rfl ?_
    exact ⟨rfl, L, rfl, rfl, hR⟩
  · have hin : vp_in (nI j) 4 := vp_in_nI hj (by omega)
    refine tg_vX1 hj ?_
    refine br_f (by decide) ⟨hin, fun x ex => ⟨hin, fun a ea => ?_⟩⟩
    refine tg_vY1 hj ?_
    refine br_f (by decide) ⟨hin, fun y ey => ⟨hin, fun b eb => ?_⟩⟩
    exact ⟨ey.trans ex.symm, L, rfl, rfl, hL, eb.trans ea.symm, R1, R2⟩
theorem i_vc_constant {k : Nat} {u : SX} {v : SY} (I : i_Rel k u v) (hk : k + 5 ≤ 2560) (v1 : Int32) (v2 : Int32) : wpX_constant (fun r u' => wpY_constant (fun r' v' => r' = r ∧ i_Rel (k + 5) u' v') v v1 v2) u v1 v2 := by
  obtain ⟨lc, sc, inp, lk, tg, fs, sd, ob, oc, be, bb, xv, xt, sp⟩ := u
  obtain ⟨ln, hg, stp, la, en, inq, s, va, nu, ya, yb, pl, cs, ot, op, yv, yt, ct⟩ := v
  obtain ⟨L, rfl, rfl, R⟩ := I
  unfold wpX_constant wpY_constant
  have hL := R.1
  rcases tg_ix4 v1 with h | ⟨j, hj, rfl⟩
  · refine tg_vX0 h ?_
    refine br_t rfl ?_
    refine tg_vY0 h ?_
    refine br_t rfl ?_
    exact ⟨rfl, L, rfl, rfl, R⟩
  · refine tg_vX1 hj ?_
    refine br_f (by decide) ?_
    by_cases e : L = 20
    · refine tg_fsX e ?_
      refine tg_vY1 hj ?_
      refine br_f (by decide) ?_
      refine tg_fuY e ?_
      exact ⟨rfl, L, rfl, rfl, R⟩
    · refine tg_asX (by omega) R.2.2.2 ?_
      refine tg_vY1 hj ?_
      refine br_f (by decide) ?_
      refine tg_apY (by omega) ?_
      exact ⟨rfl, L + 1, rfl, rfl, tg_ap0 R (by omega) hj⟩
theorem i_vc_operation {k : Nat} {u : SX} {v : SY} (I : i_Rel k u v) (hk : k + 5 ≤ 2560) (v1 : Int32) (v2 : Int32) (v3 : Int32) (v4 : Int32) : wpX_operation (fun r u' => wpY_operation (fun r' v' => r' = r ∧ i_Rel (k + 5) u' v') v v1 v2 v3 v4) u v1 v2 v3 v4 := by
  obtain ⟨lc, sc, inp, lk, tg, fs, sd, ob, oc, be, bb, xv, xt, sp⟩ := u
  obtain ⟨ln, hg, stp, la, en, inq, s, va, nu, ya, yb, pl, cs, ot, op, yv, yt, ct⟩ := v
  obtain ⟨L, rfl, rfl, R⟩ := I
  unfold wpX_operation wpY_operation
  have hL := R.1
  rcases tg_ix4 v1 with h | ⟨j, hj, rfl⟩
  · refine tg_vX0 h ?_
    refine br_t rfl ?_
    refine tg_vY0 h ?_
    refine br_t rfl ?_
    exact br_t rfl ⟨rfl, L, rfl, rfl, R⟩
  rcases tg_ix4 v3 with h | ⟨a, ha, rfl⟩
  · refine tg_vX1 hj ?_
    refine br_f (by decide) ?_
    refine tg_vX0 h ?_
    refine br_t rfl ?_
    refine tg_vY1 hj ?_
    refine br_f (by decide) ?_
    refine tg_vY0 h ?_
    refine br_t rfl ?_
    exact br_t rfl ⟨rfl, L, rfl, rfl, R⟩
  rcases tg_ix4 v4 with h | ⟨b, hb, rfl⟩
  · refine tg_vX1 hj ?_
    refine br_f (by decide) ?_
    refine tg_vX1 ha ?_
    refine br_f (by decide) ?_
    refine tg_vX0 h ?_
    refine br_t rfl ?_
    refine tg_vY1 hj ?_
    refine br_f (by decide) ?_
    refine tg_vY1 ha ?_
    refine br_f (by decide) ?_
    refine tg_vY0 h ?_
    refine br_t rfl ?_
    exact br_t rfl ⟨rfl, L, rfl, rfl, R⟩
  refine tg_vX1 hj ?_
  refine br_f (by decide) ?_
  refine tg_vX1 ha ?_
  refine br_f (by decide) ?_
  refine tg_vX1 hb ?_
  refine br_f (by decide) ?_
  have Y : ∀ {P : Int32 → SY → Prop}, ((v2 < 0 → wY_operation_38 P (nI j) v2 (nI a) (nI b) (nI L) hg stp la en inq s va nu ya yb pl cs ot op yv yt ct) ∧ (¬ v2 < 0 → ((4 < v2 → wY_operation_38 P (nI j) v2 (nI a) (nI b) (nI L) hg stp la en inq s va nu ya yb pl cs ot op yv yt ct) ∧ (¬ 4 < v2 → wY_operation_39 P (nI j) v2 (nI a) (nI b) 1 (nI L) hg stp la en inq s va nu ya yb pl cs ot op yv yt ct)))) → wpY_operation P (nI L, hg, stp, la, en, inq, s, va, nu, ya, yb, pl, cs, ot, op, yv, yt, ct) (nI j) v2 (nI a) (nI b) := by
    intro P h
    unfold wpY_operation
    refine tg_vY1 hj ?_
    refine br_f (by decide) ?_
    refine tg_vY1 ha ?_
    refine br_f (by decide) ?_
    refine tg_vY1 hb ?_
    refine br_f (by decide) ?_
    exact h
  by_cases h0 : v2 < 0
  · refine br_t h0 (Y (br_t h0 ?_))
    exact br_t rfl ⟨rfl, L, rfl, rfl, R⟩
  by_cases h5 : v2 ≤ 4
  · obtain ⟨k', hk', rfl⟩ := nI_of2 (M := 4) (n := 4) (by decide) h0 h5
    have h6 : ¬ 4 < nI k' := Int32.not_lt.mpr h5
    refine br_f h0 (br_t h5 ?_)
    by_cases e : L = 20
    · refine tg_fsX e (Y (br_f h0 (br_f h6 (br_f (by decide) ?_))))
      refine tg_fuY e ?_
      exact ⟨rfl, L, rfl, rfl, R⟩
    · refine tg_asX (by omega) R.2.2.2 (Y (br_f h0 (br_f h6 (br_f (by decide) ?_))))
      refine tg_apY (by omega) ?_
      exact ⟨rfl, L + 1, rfl, rfl, tg_ap1 R (by omega) hj (by omega) ha hb⟩
  · have h6 : 4 < v2 := Int32.not_le.mp h5
    refine br_f h0 (br_f h5 (Y (br_f h0 (br_t h6 ?_))))
    exact br_t rfl ⟨rfl, L, rfl, rfl, R⟩
theorem i_vc_when {k : Nat} {u : SX} {v : SY} (I : i_Rel k u v) (hk : k + 5 ≤ 2560) (v1 : Int32) : wpX_when (fun r u' => wpY_when (fun r' v' => r' = r ∧ i_Rel (k + 5) u' v') v v1) u v1 := by
  obtain ⟨lc, sc, inp, lk, tg, fs, sd, ob, oc, be, bb, xv, xt, sp⟩ := u
  obtain ⟨ln, hg, stp, la, en, inq, s, va, nu, ya, yb, pl, cs, ot, op, yv, yt, ct⟩ := v
  obtain ⟨L, rfl, rfl, R⟩ := I
  have hL := R.1
  have hl := tg_R_len R L (Nat.le_refl _)
  unfold wpX_when wpY_when
  rcases tg_ix4 v1 with h | ⟨j, hj, rfl⟩
  · refine tg_boX h ?_
    refine tg_boY h ?_
    exact ⟨rfl, L, rfl, rfl, R⟩
  · obtain ⟨pl', cs', ot', op', hP, hw⟩ := tg_pair R hg stp la en pl cs ot op yv yt ct
    unfold wpY_open
    by_cases e : L = 20 ∨ (tg_st s L).length = 4
    · refine tg_foX hj hL e R.2.2.2 ?_
      refine tg_vY1 hj ?_
      refine br_f (by decide) ?_
      refine hw _ ?_
      by_cases e4 : (tg_st s L).length = 4
      · refine br_t (by rw [e4]; rfl) ?_
        exact ⟨rfl, L, rfl, rfl, R⟩
      · refine br_f (fun z => e4 ((nI_eq (b := 4) (by omega) (by decide)).mp z)) ?_
        refine tg_fuY (e.resolve_right e4) ?_
        exact ⟨rfl, L, rfl, rfl, R⟩
    · refine tg_aoX hj (by omega) (by omega) R.2.2.2 ?_
      refine tg_vY1 hj ?_
      refine br_f (by decide) ?_
      refine hw _ ?_
      refine br_f (fun z => e (Or.inr ((nI_eq (b := 4) (by omega) (by decide)).mp z))) ?_
      refine tg_apY (by omega) ?_
      exact ⟨rfl, L + 1, rfl, rfl, tg_ap2 R (by omega) (by omega) hj (Or.inl ⟨rfl, rfl⟩)⟩
theorem i_vc_repeat {k : Nat} {u : SX} {v : SY} (I : i_Rel k u v) (hk : k + 5 ≤ 2560) (v1 : Int32) : wpX_repeat (fun r u' => wpY_repeat (fun r' v' => r' = r ∧ i_Rel (k + 5) u' v') v v1) u v1 := by
  obtain ⟨lc, sc, inp, lk, tg, fs, sd, ob, oc, be, bb, xv, xt, sp⟩ := u
  obtain ⟨ln, hg, stp, la, en, inq, s, va, nu, ya, yb, pl, cs, ot, op, yv, yt, ct⟩ := v
  obtain ⟨L, rfl, rfl, R⟩ := I
  have hL := R.1
  have hl := tg_R_len R L (Nat.le_refl _)
  unfold wpX_repeat wpY_repeat
  rcases tg_ix4 v1 with h | ⟨j, hj, rfl⟩
  · refine tg_boX h ?_
    refine tg_boY h ?_
    exact ⟨rfl, L, rfl, rfl, R⟩
  · obtain ⟨pl', cs', ot', op', hP, hw⟩ := tg_pair R hg stp la en pl cs ot op yv yt ct
    unfold wpY_open
    by_cases e : L = 20 ∨ (tg_st s L).length = 4
    · refine tg_foX hj hL e R.2.2.2 ?_
      refine tg_vY1 hj ?_
      refine br_f (by decide) ?_
      refine hw _ ?_
      by_cases e4 : (tg_st s L).length = 4
      · refine br_t (by rw [e4]; rfl) ?_
        exact ⟨rfl, L, rfl, rfl, R⟩
      · refine br_f (fun z => e4 ((nI_eq (b := 4) (by omega) (by decide)).mp z)) ?_
        refine tg_fuY (e.resolve_right e4) ?_
        exact ⟨rfl, L, rfl, rfl, R⟩
    · refine tg_aoX hj (by omega) (by omega) R.2.2.2 ?_
      refine tg_vY1 hj ?_
      refine br_f (by decide) ?_
      refine hw _ ?_
      refine br_f (fun z => e (Or.inr ((nI_eq (b := 4) (by omega) (by decide)).mp z))) ?_
      refine tg_apY (by omega) ?_
      exact ⟨rfl, L + 1, rfl, rfl, tg_ap2 R (by omega) (by omega) hj (Or.inr ⟨rfl, rfl⟩)⟩
theorem i_vc_otherwise {k : Nat} {u : SX} {v : SY} (I : i_Rel k u v) (hk : k + 5 ≤ 2560) : wpX_otherwise (fun r u' => wpY_otherwise (fun r' v' => r' = r ∧ i_Rel (k + 5) u' v') v) u := by
  obtain ⟨lc, sc, inp, lk, tg, fs, sd, ob, oc, be, bb, xv, xt, sp⟩ := u
  obtain ⟨ln, hg, stp, la, en, inq, s, va, nu, ya, yb, pl, cs, ot, op, yv, yt, ct⟩ := v
  obtain ⟨L, rfl, rfl, R⟩ := I
  have hL := R.1
  have hl := tg_R_len R L (Nat.le_refl _)
  obtain ⟨pl', cs', ot', op', hP, hw⟩ := tg_pair R hg stp la en pl cs ot op yv yt ct
  unfold wpX_otherwise wpY_otherwise
  refine tg_inner hL R.2.2.2 ?_
  cases e : tg_st s L with
  | nil =>
    rw [e] at hw
    refine br_t (by decide) ?_
    refine hw _ ?_
    refine br_t rfl ?_
    exact ⟨rfl, L, rfl, rfl, R⟩
  | cons a t =>
    obtain ⟨b, c⟩ := a
    obtain ⟨h1, h2, h3, h4, h5, h6⟩ := tg_hd (tg_R_va R) (Nat.le_refl _) e
    have p1 := hP.1
    have p2 := hP.2.1 (b, c) (by rw [e]; exact List.mem_cons_self ..)
    rw [e] at p1
    rw [e, List.length_cons] at hw hl
    have e2 : pl' (nI (t.length + 1) - 1).toNatClampNeg = nI b := by rw [nI_pred, nI_clamp (by omega)]; exact p1.1
    have i1 : vp_in (nI (t.length + 1) - 1) 20 := by rw [nI_pred]; exact vp_in_nI (by omega) (by omega)
    have i2 : vp_in (pl' (nI (t.length + 1) - 1).toNatClampNeg) 20 := by rw [e2]; exact vp_in_nI (by omega) (by omega)
    have e3 : s (pl' (nI (t.length + 1) - 1).toNatClampNeg).toNatClampNeg = s b := by rw [e2, nI_clamp (by omega)]
    have e4 : ot' (pl' (nI (t.length + 1) - 1).toNatClampNeg).toNatClampNeg = (if c = b then -1 else nI c) := by rw [e2, nI_clamp (by omega)]; exact p2
    have hc : lk (nI c).toNatClampNeg = lk c := by rw [nI_clamp (by omega)]
    have hz : ¬ nI (t.length + 1) = 0 := nI_ne0 (by omega) (by omega)
    have ic : vp_in (nI c) 20 := vp_in_nI (by omega) (by omega)
    refine br_f (nI_pos (by omega)) ⟨ic, ?_⟩
    show (lk (nI c).toNatClampNeg = 6 → _) ∧ (¬ lk (nI c).toNatClampNeg = 6 → _)
    by_cases hbc : c = b
    · subst hbc
      rw [if_pos rfl] at e4
      rcases h4 with h4 | h4
      · refine br_t (hc.trans ((tg_lk R h2).1 h4)) ?_
        by_cases e20 : L = 20
        · refine br_f (by subst e20; decide) ?_
          refine hw _ ?_
          refine br_f hz ⟨i1, i2, br_t (e3.trans h4) ⟨i1, i2, br_t (by rw [e4]; decide) ?_⟩⟩
          refine tg_fuY e20 ?_
          exact ⟨rfl, L, rfl, rfl, R⟩
        · refine br_t (nI_lt (b := 20) (by omega) (by decide)) ?_
          refine tg_ocnt hL R.2.2.2 ?_
          refine tg_endX (by omega) (by omega) ?_
          refine tg_apX (by omega) ?_
          refine hw _ ?_
          refine br_f hz ⟨i1, i2, br_t (e3.trans h4) ⟨i1, i2, br_t (by rw [e4]; decide) ?_⟩⟩
          refine tg_apY (by omega) ?_
          exact ⟨rfl, L + 1, rfl, rfl, tg_ap3 R (by omega) e h4⟩
      · refine br_f (by rw [hc, (tg_lk R h2).2.2.1 h4]; decide) ?_
        refine hw _ ?_
        refine br_f hz ⟨i1, i2, br_f (by rw [e3, h4]; decide) ?_⟩
        exact ⟨rfl, L, rfl, rfl, R⟩
    · obtain ⟨s3, sb, _⟩ := h5.resolve_left hbc
      rw [if_neg hbc] at e4
      refine br_f (by rw [hc, (tg_lk R h2).2.1 s3]; decide) ?_
      refine hw _ ?_
      refine br_f hz ⟨i1, i2, br_t (e3.trans sb) ⟨i1, i2, br_f (by rw [e4]; exact nI_pos (by omega)) ?_⟩⟩
      exact ⟨rfl, L, rfl, rfl, R⟩
theorem i_vc_close {k : Nat} {u : SX} {v : SY} (I : i_Rel k u v) (hk : k + 5 ≤ 2560) : wpX_close (fun r u' => wpY_close (fun r' v' => r' = r ∧ i_Rel (k + 5) u' v') v) u := by
  obtain ⟨lc, sc, inp, lk, tg, fs, sd, ob, oc, be, bb, xv, xt, sp⟩ := u
  obtain ⟨ln, hg, stp, la, en, inq, s, va, nu, ya, yb, pl, cs, ot, op, yv, yt, ct⟩ := v
  obtain ⟨L, rfl, rfl, R⟩ := I
  have hL := R.1
  have hl := tg_R_len R L (Nat.le_refl _)
  obtain ⟨pl', cs', ot', op', hP, hw⟩ := tg_pair R hg stp la en pl cs ot op yv yt ct
  unfold wpX_close wpY_close
  refine tg_inner hL R.2.2.2 ?_
  cases e : tg_st s L with
  | nil =>
    rw [e] at hw
    refine br_f (by decide) ?_
    refine hw _ ?_
    refine br_t rfl ?_
    exact ⟨rfl, L, rfl, rfl, R⟩
  | cons a t =>
    obtain ⟨b, c⟩ := a
    obtain ⟨h1, h2, h3, h4, h5, h6⟩ := tg_hd (tg_R_va R) (Nat.le_refl _) e
    rw [e, List.length_cons] at hw hl
    have hz : ¬ nI (t.length + 1) = 0 := nI_ne0 (by omega) (by omega)
    refine br_t (nI_pos' (by omega)) ?_
    by_cases e20 : L = 20
    · refine br_f (by subst e20; decide) ?_
      refine hw _ ?_
      refine br_f hz ?_
      refine tg_fuY e20 ?_
      exact ⟨rfl, L, rfl, rfl, R⟩
    · refine br_t (nI_lt (b := 20) (by omega) (by decide)) ?_
      refine tg_baX R e ?_
      refine tg_ocnt hL R.2.2.2 ?_
      refine tg_endX (by omega) (by omega) ?_
      rw [e, List.length_cons, nI_pred]
      refine tg_apX (by omega) ?_
      refine hw _ ?_
      refine br_f hz ?_
      refine tg_apY (by omega) ?_
      exact ⟨rfl, L + 1, rfl, rfl, tg_ap5 R (by omega) e⟩
theorem i_vc_undo {k : Nat} {u : SX} {v : SY} (I : i_Rel k u v) (hk : k + 5 ≤ 2560) : wpX_undo (fun r u' => wpY_undo (fun r' v' => r' = r ∧ i_Rel (k + 5) u' v') v) u := by
  obtain ⟨lc, sc, inp, lk, tg, fs, sd, ob, oc, be, bb, xv, xt, sp⟩ := u
  obtain ⟨ln, hg, stp, la, en, inq, s, va, nu, ya, yb, pl, cs, ot, op, yv, yt, ct⟩ := v
  obtain ⟨L, rfl, rfl, R⟩ := I
  have hL := R.1
  cases L with
  | zero => exact br_t rfl (br_t rfl ⟨rfl, 0, rfl, rfl, R⟩)
  | succ m =>
    have hz : ¬ nI (m + 1) = 0 := nI_ne0 (by omega) (by omega)
    refine br_f hz (nm_r (nI_pred m) ?_)
    refine br_f hz (nm_r (nI_pred m) ?_)
    exact ⟨rfl, m, rfl, rfl, by omega, R.2.1, fun i hi => R.2.2.1 i (by omega), fun i hi => R.2.2.2 i (by omega)⟩
theorem i_vc_clear {k : Nat} {u : SX} {v : SY} (I : i_Rel k u v) (hk : k + 5 ≤ 2560) : wpX_clear (fun u' => wpY_clear (fun v' => i_Rel (k + 5) u' v') v) u := by
  obtain ⟨lc, sc, inp, lk, tg, fs, sd, ob, oc, be, bb, xv, xt, sp⟩ := u
  obtain ⟨ln, hg, stp, la, en, inq, s, va, nu, ya, yb, pl, cs, ot, op, yv, yt, ct⟩ := v
  obtain ⟨L, rfl, rfl, R⟩ := I
  exact ⟨0, rfl, rfl, by omega, R.2.1, fun i hi => absurd hi (by omega), fun i hi => absurd hi (by omega)⟩

theorem tg_b47 : ∀ (d k : Nat) (sp : Nat → Int32), k + d = 401 → (∀ t, t < k → sp t = 0) → ∃ sp' : Nat → Int32, (∀ t, t < 401 → sp' t = 0) ∧
    ∀ {lc : Int32} {inp lk tg fs sd ob oc be bb xv : Nat → Int32} {xt : Nat → Int32} {sc : Int32} {post : SX → Prop}, post (lc, 0, inp, lk, tg, fs, sd, ob, oc, be, bb, xv, xt, sp') → wX_beginRun_47 post lc sc (d + 1) (nI k) inp lk tg fs sd ob oc be bb xv xt sp := by
  intro d
  induction d with
  | zero =>
    intro k sp hk h
    have : k = 401 := by omega
    subst this
    exact ⟨sp, h, fun hp => br_t (by decide) hp⟩
  | succ d ih =>
    intro k sp hk h
    obtain ⟨sp', h', hX⟩ := ih (k + 1) (upd sp k 0) (by omega) (fun t ht => by
      by_cases e : t = k
      · subst e; exact pk_us
      · rw [pk_un e]; exact h t (by omega))
    exact ⟨sp', h', fun hp => br_f (nI_ge (b := 401) (by omega) (by decide)) ⟨vp_in_nI (by omega) (by decide), nm_r (tg_uc (by omega)) (nm_r (nI_1 k) (hX hp))⟩⟩
theorem tg_b27 : ∀ (d k : Nat) (xt : Nat → Int32), k + d = 5 → (∀ t, t < k → xt t = 0) → ∃ xt' : Nat → Int32, (∀ t, t < 5 → xt' t = 0) ∧
    ∀ {lc : Int32} {inp lk tg fs sd ob oc be bb xv : Nat → Int32} {sp : Nat → Int32} {sc : Int32} {post : SX → Prop}, (∃ n, wX_beginRun_47 post lc sc n 0 inp lk tg fs sd ob oc be bb xv xt' sp) → wX_beginRun_27 post lc sc (d + 1) (nI k) inp lk tg fs sd ob oc be bb xv xt sp := by
  intro d
  induction d with
  | zero =>
    intro k xt hk h
    have : k = 5 := by omega
    subst this
    exact ⟨xt, h, fun hp => br_t (by decide) hp⟩
  | succ d ih =>
    intro k xt hk h
    obtain ⟨xt', h', hX⟩ := ih (k + 1) (upd xt k 0) (by omega) (fun t ht => by
      by_cases e : t = k
      · subst e; exact pk_us
      · rw [pk_un e]; exact h t (by omega))
    exact ⟨xt', h', fun hp => br_f (lt5' k (by omega)) ⟨vp_in_nI (by omega) (by decide), nm_r (tg_uc (by omega)) (nm_r (nI_1 k) (hX hp))⟩⟩
theorem tg_b2 (inp : Nat → Int32) : ∀ (d k : Nat) (xv : Nat → Int32), k + d = 4 → (∀ t, t < k → xv t = inp t) → ∃ xv' : Nat → Int32, (∀ t, t < 4 → xv' t = inp t) ∧
    ∀ {lc : Int32} {lk tg fs sd ob oc be bb xt sp : Nat → Int32} {sc : Int32} {post : SX → Prop}, (∃ n, wX_beginRun_27 post lc sc n 0 inp lk tg fs sd ob oc be bb xv' xt sp) → wX_beginRun_2 post lc sc (d + 1) (nI k) inp lk tg fs sd ob oc be bb xv xt sp := by
  intro d
  induction d with
  | zero =>
    intro k xv hk h
    have : k = 4 := by omega
    subst this
    exact ⟨xv, h, fun hp => br_t (by decide) hp⟩
  | succ d ih =>
    intro k xv hk h
    obtain ⟨xv', h', hX⟩ := ih (k + 1) (upd xv k (inp k)) (by omega) (fun t ht => by
      by_cases e : t = k
      · subst e; exact pk_us
      · rw [pk_un e]; exact h t (by omega))
    have hin : vp_in (nI k) 4 := vp_in_nI (by omega) (by decide)
    exact ⟨xv', h', fun hp => br_f (nI_ge (b := 4) (by omega) (by decide)) ⟨hin, hin, nm_r (e' := upd xv k (inp k)) (by rw [nI_clamp (by omega)]) (nm_r (nI_1 k) (hX hp))⟩⟩
theorem tg_begin (inp xv xt sp : Nat → Int32) : ∃ xv' xt' sp' : Nat → Int32, (∀ t, t < 4 → xv' t = inp t) ∧ (∀ t, t < 5 → xt' t = 0) ∧ (∀ t, t < 401 → sp' t = 0) ∧
    ∀ {lc sc : Int32} {lk tg fs sd ob oc be bb : Nat → Int32} {post : SX → Prop}, post (lc, 0, inp, lk, tg, fs, sd, ob, oc, be, bb, xv', xt', sp') → wpX_beginRun post (lc, sc, inp, lk, tg, fs, sd, ob, oc, be, bb, xv, xt, sp) := by
  obtain ⟨xv', h1, g1⟩ := tg_b2 inp 4 0 xv rfl (fun t ht => absurd ht (by omega))
  obtain ⟨xt', h2, g2⟩ := tg_b27 5 0 xt rfl (fun t ht => absurd ht (by omega))
  obtain ⟨sp', h3, g3⟩ := tg_b47 401 0 sp rfl (fun t ht => absurd ht (by omega))
  refine ⟨xv', xt', sp', h1, h2, h3, fun hp => ⟨5, g1 ⟨6, g2 ⟨402, g3 hp⟩⟩⟩⟩
theorem tg_y32 : ∀ (d k : Nat) (ct : Nat → Int32), k + d = 402 → (∀ t, t < k → ct t = 0) → ∃ ct' : Nat → Int32, (∀ t, t < 402 → ct' t = 0) ∧
    ∀ {ln hg : Int32} {inq s va nu ya yb pl cs ot op yv : Nat → Int32} {stp la en : Int32} {yt : Nat → Int32} {post : SY → Prop}, (∃ n, wY_work_54 post ln hg stp la en n 0 inq s va nu ya yb pl cs ot op yv yt ct') → wY_work_32 post ln hg stp la en (d + 1) (nI k) inq s va nu ya yb pl cs ot op yv yt ct := by
  intro d
  induction d with
  | zero =>
    intro k ct hk h
    have : k = 402 := by omega
    subst this
    exact ⟨ct, h, fun hp => br_t (by decide) hp⟩
  | succ d ih =>
    intro k ct hk h
    obtain ⟨ct', h', hX⟩ := ih (k + 1) (upd ct k 0) (by omega) (fun t ht => by
      by_cases e : t = k
      · subst e; exact pk_us
      · rw [pk_un e]; exact h t (by omega))
    exact ⟨ct', h', fun hp => br_f (nI_ge (b := 402) (by omega) (by decide)) ⟨vp_in_nI (by omega) (by decide), nm_r (tg_uc (by omega)) (nm_r (nI_1 k) (hX hp))⟩⟩
theorem tg_y54 (inq : Nat → Int32) : ∀ (d k : Nat) (yv yt : Nat → Int32), k + d = 5 → (∀ t, t < k → t < 4 → yv t = inq t) → (∀ t, t < k → yt t = 0) → ∃ yv' yt' : Nat → Int32, (∀ t, t < 4 → yv' t = inq t) ∧ (∀ t, t < 5 → yt' t = 0) ∧
    ∀ {ln hg stp la en : Int32} {s va nu ya yb pl cs ot op ct : Nat → Int32} {post : SY → Prop}, (∃ n, wY_work_95 post n 0 ln hg stp la en inq s va nu ya yb pl cs ot op yv' yt' ct) → wY_work_54 post ln hg stp la en (d + 1) (nI k) inq s va nu ya yb pl cs ot op yv yt ct := by
  intro d
  induction d with
  | zero =>
    intro k yv yt hk h1 h2
    have : k = 5 := by omega
    subst this
    exact ⟨yv, yt, fun t ht => h1 t (by omega) ht, h2, fun hp => br_t (by decide) hp⟩
  | succ d ih =>
    intro k yv yt hk h1 h2
    have hin : vp_in (nI k) 5 := vp_in_nI (by omega) (by decide)
    have hz : ∀ t, t < k + 1 → upd yt k 0 t = 0 := fun t ht => by
      by_cases e : t = k
      · subst e; exact pk_us
      · rw [pk_un e]; exact h2 t (by omega)
    by_cases h4 : k < 4
    · obtain ⟨yv', yt', g1, g2, hY⟩ := ih (k + 1) (upd yv k (inq k)) (upd yt k 0) (by omega) (fun t ht h4' => by
        by_cases e : t = k
        · subst e; exact pk_us
        · rw [pk_un e]; exact h1 t (by omega) h4') hz
      refine ⟨yv', yt', g1, g2, fun hp => br_f (lt5' k (by omega)) (br_f (nI_ge (b := 4) h4 (by decide)) ⟨vp_in_nI h4 (by decide), ?_⟩)⟩
      exact ⟨hin, nm_r (e' := upd yv k (inq k)) (by rw [nI_clamp (by omega)]) ⟨hin, nm_r (tg_uc (by omega)) (nm_r (nI_1 k) (hY hp))⟩⟩
    · obtain ⟨yv', yt', g1, g2, hY⟩ := ih (k + 1) (upd yv k 0) (upd yt k 0) (by omega) (fun t ht h4' => by
        rw [pk_un (by omega)]; exact h1 t (by omega) h4') hz
      refine ⟨yv', yt', g1, g2, fun hp => br_f (lt5' k (by omega)) (br_t (nI_le (a := 4) (by omega) (by omega)) ?_)⟩
      exact ⟨hin, nm_r (tg_uc (by omega)) ⟨hin, nm_r (tg_uc (by omega)) (nm_r (nI_1 k) (hY hp))⟩⟩
theorem tg_w17 (inq yv yt ct : Nat → Int32) : ∃ yv' yt' ct' : Nat → Int32, (∀ t, t < 4 → yv' t = inq t) ∧ (∀ t, t < 5 → yt' t = 0) ∧ (∀ t, t < 402 → ct' t = 0) ∧
    ∀ {ln hg stp la en z : Int32} {s va nu ya yb pl cs ot op : Nat → Int32} {post : SY → Prop}, (∃ n, wY_work_95 post n 0 ln hg 0 0 z inq s va nu ya yb pl cs ot op yv' yt' ct') → wY_work_17 post z ln hg stp la en inq s va nu ya yb pl cs ot op yv yt ct := by
  obtain ⟨ct', h1, g1⟩ := tg_y32 402 0 ct rfl (fun t ht => absurd ht (by omega))
  obtain ⟨yv', yt', h2, h3, g2⟩ := tg_y54 inq 5 0 yv yt rfl (fun t ht => absurd ht (by omega)) (fun t ht => absurd ht (by omega))
  exact ⟨yv', yt', ct', h2, h3, h1, fun hp => ⟨403, g1 ⟨6, g2 hp⟩⟩⟩
theorem tg_live0 {xt sp yt ct : Nat → Int32} (h1 : ∀ t, t < 5 → xt t = 0) (h2 : ∀ t, t < 401 → sp t = 0) (h3 : ∀ t, t < 5 → yt t = 0) (h4 : ∀ t, t < 402 → ct t = 0) : tg_live 0 0 xt sp 0 0 0 yt ct :=
  ⟨by omega, rfl, rfl, rfl, fun j hj => ⟨0, by omega, h1 j hj, h3 j hj⟩, fun t ht => ⟨0, by omega, h2 t ht, h4 t (by omega)⟩, h4 401 (by omega), 0, by omega, rfl, fun t _ ht => h2 t ht, Or.inl rfl⟩
section
variable {L : Nat} {inp lk tg fs sd ob oc be bb inq s va nu ya yb : Nat → Int32}
/-- a whole run of both -/
theorem tg_run (R : tg_R L inp lk tg fs sd ob oc be bb inq s va nu ya yb) (sc : Int32) (xv xt sp : Nat → Int32) (hg stp la en : Int32) (pl cs ot op yv yt ct : Nat → Int32) :
    ∃ r xv' sc' xt' sp' hg' stp' la' en' pl' cs' ot' op' yv' yt' ct', tg_Fin r sc' xt' sp' stp' la' en' yt' ct' ∧ (r = 0 → ∀ j, j < 4 → xv' j = yv' j) ∧
      (∀ {post : Int32 → SX → Prop}, post r (nI L, sc', inp, lk, tg, fs, sd, ob, oc, be, bb, xv', xt', sp') → wpX_carryOut post (nI L, sc, inp, lk, tg, fs, sd, ob, oc, be, bb, xv, xt, sp)) ∧
      (∀ {post : SY → Prop}, post (nI L, hg', stp', la', en', inq, s, va, nu, ya, yb, pl', cs', ot', op', yv', yt', ct') → wpY_work post (nI L, hg, stp, la, en, inq, s, va, nu, ya, yb, pl, cs, ot, op, yv, yt, ct)) := by
  have hL := R.1
  have hl := tg_R_len R L (Nat.le_refl _)
  obtain ⟨pl', cs', ot', op', P, hw⟩ := tg_pair R hg stp la en pl cs ot op yv yt ct
  obtain ⟨yv0, yt0, ct0, y1, y2, y3, y4⟩ := tg_w17 inq yv yt ct
  by_cases h0 : tg_st s L = []
  · obtain ⟨xv0, xt0, sp0, x1, x2, x3, x4⟩ := tg_begin inp xv xt sp
    have e0 : nI (tg_st s L).length = 0 := by rw [h0]; rfl
    obtain ⟨r, xv', sc', xt', sp', stp', la', en', yv', yt', ct', hF, hV, hX', hY'⟩ := tg_main (hg := nI (tg_st s L).length) R h0 P 401 0 0 0 0 xv0 xt0 sp0 0 0 0 yv0 yt0 ct0 (tg_live0 x2 x3 y2 y3) (by omega) (by omega) (fun j hj => by rw [x1 j hj, y1 j hj, R.2.1]) (by omega)
    refine ⟨r, xv', sc', xt', sp', nI (tg_st s L).length, stp', la', en', pl', cs', ot', op', yv', yt', ct', hF, hV, ?_, ?_⟩
    · intro post hp
      unfold wpX_carryOut
      refine tg_ocnt hL R.2.2.2 ?_
      refine br_t (by rw [e0]; decide) ?_
      refine x4 ?_
      exact ⟨804, hX' (by omega) hp⟩
    · intro post hp
      unfold wpY_work
      refine hw _ ?_
      refine br_t (by rw [e0]; decide) ?_
      refine y4 ?_
      exact hY' hp
  · have hn : 0 < (tg_st s L).length := by
      cases e : tg_st s L with
      | nil => exact absurd e h0
      | cons a t => exact Nat.succ_pos _
    have hz : ¬ nI (tg_st s L).length ≤ 0 := nI_nle hn (by omega)
    refine ⟨2, xv, sc, xt, sp, nI (tg_st s L).length, 0, 0, 2, pl', cs', ot', op', yv0, yt0, ct0, Or.inr ⟨rfl, by decide⟩, fun z => absurd z (by decide), ?_, ?_⟩
    · intro post hp
      unfold wpX_carryOut
      refine tg_ocnt hL R.2.2.2 ?_
      exact br_f hz hp
    · intro post hp
      unfold wpY_work
      refine hw _ ?_
      refine br_f hz ?_
      refine y4 ?_
      exact ⟨1, br_f (by decide) hp⟩
end

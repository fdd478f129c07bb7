section
variable {L i S : Nat} {sc : Int32} {inp lk tg fs sd ob oc be bb xv xt sp : Nat → Int32} {hg stp la en : Int32} {inq s va nu ya yb pl cs ot op yv yt ct : Nat → Int32}
theorem tg_xf (R : tg_R L inp lk tg fs sd ob oc be bb inq s va nu ya yb) {j b c : Nat} {t : List (Nat × Nat)} (hj : j < L) (hs : s j = 3 ∨ s j = 5) (e : tg_st s j = (b, c) :: t) : bb j = nI c ∧ be c = nI j := by
  have q : ∀ {x : Int32}, s j = x → x = 3 ∨ x = 5 := fun e => by rw [← e]; exact hs
  rcases R.2.2.1 j hj with h | h | h | ⟨_, _, b', t', e', _, _, h1, h2⟩ | h | ⟨_, _, b', c', t', e', h1, h2⟩
  · exact absurd (q h.1) (by decide)
  · exact absurd (q h.1) (by decide)
  · exact absurd (q h.1) (by decide)
  · rw [e] at e'; cases e'; exact ⟨h1, h2⟩
  · exact absurd (q h.1) (by decide)
  · rw [e] at e'; cases e'; exact ⟨h1, h2⟩
theorem tg_s3 (R : tg_R L inp lk tg fs sd ob oc be bb inq s va nu ya yb) {j : Nat} (hj : j < L) (hs : s j = 3) : ∃ b t, tg_st s j = (b, b) :: t ∧ s b = 2 := by
  rcases tg_R_va R j hj with h | h | h | h
  · rcases h with h | h
    · exact absurd (hs.symm.trans h) (by decide)
    · exact absurd (hs.symm.trans h) (by decide)
  · exact h.2
  · exact absurd (hs.symm.trans h.1) (by decide)
  · rcases h with h | h
    · exact absurd (hs.symm.trans h) (by decide)
    · exact absurd (hs.symm.trans h) (by decide)
theorem tg_s5 (R : tg_R L inp lk tg fs sd ob oc be bb inq s va nu ya yb) {j : Nat} (hj : j < L) (hs : s j = 5) : ∃ b c t, tg_st s j = (b, c) :: t := by
  rcases tg_R_va R j hj with h | h | h | h
  · rcases h with h | h
    · exact absurd (hs.symm.trans h) (by decide)
    · exact absurd (hs.symm.trans h) (by decide)
  · exact absurd (hs.symm.trans h.1) (by decide)
  · exact h.2
  · rcases h with h | h
    · exact absurd (hs.symm.trans h) (by decide)
    · exact absurd (hs.symm.trans h) (by decide)
theorem tg_rt2 (R : tg_R L inp lk tg fs sd ob oc be bb inq s va nu ya yb) (h0 : tg_st s L = []) (P : tg_PF s L pl cs ot op) {i : Nat} (hi : i < L) (hs : s i = 2) :
    ∃ e, i < e ∧ e < L ∧ be i = nI e ∧ ((s e = 3 ∧ ot i = nI e) ∨ (s e = 5 ∧ ot i = -1 ∧ cs i = nI e)) := by
  obtain ⟨j, t, h1, h2, h3, h4⟩ := tg_ends (tg_R_va R) h0 hi (b := i) (c := i) (by rw [tg_st_o (Or.inl hs)]; exact List.mem_cons_self ..)
  refine ⟨j, h1, h2, (tg_xf R h2 h3 h4).2, ?_⟩
  rcases h3 with h3 | h3
  · obtain ⟨j', t', g1, g2, g3, g4⟩ := tg_ends (tg_R_va R) h0 h2 (b := i) (c := j) (by rw [tg_st_w h3 h4]; exact List.mem_cons_self ..)
    rcases g3 with g3 | g3
    · obtain ⟨b', t'', e', _⟩ := tg_s3 R g2 g3
      rw [g4] at e'; cases e'; omega
    · have := (P.2.2.1 j' i j t' g2 g3 g4).2.2
      rw [if_neg (by omega)] at this
      exact Or.inl ⟨h3, this⟩
  · have := P.2.2.1 j i i t h2 h3 h4
    rw [if_pos rfl] at this
    exact Or.inr ⟨h3, this.2.2, this.2.1⟩
theorem tg_rt3 (R : tg_R L inp lk tg fs sd ob oc be bb inq s va nu ya yb) (h0 : tg_st s L = []) (P : tg_PF s L pl cs ot op) {i : Nat} (hi : i < L) (hs : s i = 3) :
    ∃ e b, i < e ∧ e < L ∧ be i = nI e ∧ b < L ∧ op i = nI b ∧ cs b = nI e ∧ s e = 5 ∧ op e = nI b ∧ s b = 2 := by
  obtain ⟨b, t0, e0, sb⟩ := tg_s3 R hi hs
  have hd := tg_hd (tg_R_va R) (by omega) e0
  obtain ⟨j, t, h1, h2, h3, h4⟩ := tg_ends (tg_R_va R) h0 hi (b := b) (c := i) (by rw [tg_st_w hs e0]; exact List.mem_cons_self ..)
  rcases h3 with h3 | h3
  · obtain ⟨b', t'', e', _⟩ := tg_s3 R h2 h3
    rw [h4] at e'; cases e'; omega
  · have := P.2.2.1 j b i t h2 h3 h4
    exact ⟨j, b, h1, h2, (tg_xf R h2 (Or.inr h3) h4).2, by omega, P.2.2.2 i b b t0 hi hs e0, this.2.1, h3, this.1, sb⟩
theorem tg_rt4 (R : tg_R L inp lk tg fs sd ob oc be bb inq s va nu ya yb) (h0 : tg_st s L = []) (P : tg_PF s L pl cs ot op) {i : Nat} (hi : i < L) (hs : s i = 4) :
    ∃ e, i < e ∧ e < L ∧ be i = nI e ∧ cs i = nI e := by
  obtain ⟨j, t, h1, h2, h3, h4⟩ := tg_ends (tg_R_va R) h0 hi (b := i) (c := i) (by rw [tg_st_o (Or.inr hs)]; exact List.mem_cons_self ..)
  rcases h3 with h3 | h3
  · obtain ⟨b', t'', e', sb⟩ := tg_s3 R h2 h3
    rw [h4] at e'; cases e'; exact absurd (hs.symm.trans sb) (by decide)
  · exact ⟨j, h1, h2, (tg_xf R h2 (Or.inr h3) h4).2, (P.2.2.1 j i i t h2 h3 h4).2.1⟩
theorem tg_rt5 (R : tg_R L inp lk tg fs sd ob oc be bb inq s va nu ya yb) (P : tg_PF s L pl cs ot op) {i : Nat} (hi : i < L) (hs : s i = 5) :
    ∃ b c, b < L ∧ c < L ∧ op i = nI b ∧ bb i = nI c ∧ ((s b = 4 ∧ lk c = 8 ∧ c = b) ∨ (s b = 2 ∧ ¬ lk c = 8)) := by
  obtain ⟨b, c, t, e⟩ := tg_s5 R hi hs
  obtain ⟨h1, h2, h3, h4, h5, h6⟩ := tg_hd (tg_R_va R) (by omega) e
  refine ⟨b, c, by omega, by omega, (P.2.2.1 i b c t hi hs e).1, (tg_xf R hi (Or.inr hs) e).1, ?_⟩
  by_cases hc : c = b
  · subst hc
    rcases h4 with h4 | h4
    · exact Or.inr ⟨h4, by rw [(tg_lk R (by omega)).1 h4]; decide⟩
    · exact Or.inl ⟨h4, (tg_lk R (by omega)).2.2.1 h4, rfl⟩
  · obtain ⟨s3, sb, _⟩ := h5.resolve_left hc
    exact Or.inr ⟨sb, by rw [(tg_lk R (by omega)).2.1 s3]; decide⟩
theorem tg_res {k : Nat} (hk : k < 5) (x y : Int32) : ∃ r, (∀ {post : Int32 → Prop}, post r → wpX_resultOf post (nI k) x y) ∧ (∀ {u : SY} {post : Int32 → Prop}, post r → wpY_result post u (nI k) x y) := by
  have c : k = 0 ∨ k = 1 ∨ k = 2 ∨ k = 3 ∨ k = 4 := by omega
  rcases c with rfl | rfl | rfl | rfl | rfl
  · exact ⟨x + y, fun hp => br_f (by decide) (br_f (by decide) (br_t rfl hp)), fun hp => br_f (by decide) (br_t rfl hp)⟩
  · exact ⟨x - y, fun hp => br_f (by decide) (br_f (by decide) (br_f (by decide) (br_t rfl hp))), fun hp => br_f (by decide) (br_f (by decide) (br_t rfl hp))⟩
  · exact ⟨x * y, fun hp => br_f (by decide) (br_f (by decide) (br_f (by decide) (br_f (by decide) (br_t rfl hp)))), fun hp => br_f (by decide) (br_f (by decide) (br_f (by decide) hp))⟩
  · by_cases h : y ≤ x
    · exact ⟨0, fun hp => br_f (by decide) (br_f (by decide) (br_f (by decide) (br_f (by decide) (br_f (by decide) (br_t rfl (br_t h hp)))))), fun hp => br_t (by decide) (br_t rfl (br_t h hp))⟩
    · exact ⟨1, fun hp => br_f (by decide) (br_f (by decide) (br_f (by decide) (br_f (by decide) (br_f (by decide) (br_t rfl (br_f h hp)))))), fun hp => br_t (by decide) (br_t rfl (br_f h hp))⟩
  · by_cases h : x = y
    · exact ⟨1, fun hp => br_f (by decide) (br_t (by decide) (br_t h hp)), fun hp => br_t (by decide) (br_f (by decide) (br_t h hp))⟩
    · exact ⟨0, fun hp => br_f (by decide) (br_t (by decide) (br_f h hp)), fun hp => br_t (by decide) (br_f (by decide) (br_f h hp))⟩
theorem tg_l0 (hi : i < L) (hL : L ≤ 20) (hv : ∀ j, j < 4 → xv j = yv j) (H : tg_live S sc xt sp stp la en yt ct) (h : s i = 0 ∧ lk i = 5 ∧ fs i = nu i ∧ ∃ v, v < 4 ∧ tg i = nI v ∧ va i = nI v) :
    ∃ i' S' xv' sc' xt' sp' stp' la' en' yv' yt' ct', i' ≤ 20 ∧ S < S' ∧ tg_RR S' 420 sc' xt' sp' stp' la' en' yt' ct' ∧ (∀ j, j < 4 → xv' j = yv' j) ∧
      (∀ {post : Int32 → SX → Prop}, post (nI i') (nI L, sc', inp, lk, tg, fs, sd, ob, oc, be, bb, xv', xt', sp') → wpX_carryOutLine post (nI L, sc, inp, lk, tg, fs, sd, ob, oc, be, bb, xv, xt, sp) (nI i)) ∧
      (∀ {post : Int32 → SY → Prop}, post (nI i') (nI L, hg, stp', la', en', inq, s, va, nu, ya, yb, pl, cs, ot, op, yv', yt', ct') → wpY_carry post (nI L, hg, stp, la, en, inq, s, va, nu, ya, yb, pl, cs, ot, op, yv, yt, ct) (nI i)) := by
  obtain ⟨h1, h2, h3, v, hv4, h5, h6⟩ := h
  obtain ⟨a, ha, ex, ey⟩ := H.2.2.2.2.1 4 (by omega)
  obtain ⟨sc1, t, sp1, stp1, la1, en1, yt1, ct1, HR, hX, hY⟩ := tg_step1 (a := a) (b := a) (c := a) (k := v) (by omega) H (by omega) (by omega) (Or.inl rfl) ha
  have hin : vp_in (nI i) 20 := vp_in_nI (by omega) (by decide)
  have hcl : (nI i).toNatClampNeg = i := nI_clamp (by omega)
  refine ⟨i + 1, S + 1, upd xv v (fs i), sc1, upd xt v t, sp1, stp1, la1, en1, upd yv v (fs i), yt1, ct1, by omega, by omega, tg_RR_up HR (by omega), fun j hj => ?_, ?_, ?_⟩
  · by_cases e : j = v
    · subst e; rw [pk_us, pk_us]
    · rw [pk_un e, pk_un e]; exact hv j hj
  · intro post hp
    unfold wpX_carryOutLine
    refine ⟨hin, nm_r (e' := 5) (by rw [hcl]; exact h2) ?_⟩
    refine br_f (by decide) (br_f (by decide) (br_t rfl ?_))
    unfold wpX_carryOutConstant
    refine ⟨hin, nm_r (e' := nI v) (by rw [hcl]; exact h5) ?_⟩
    refine hX ex ex ?_
    refine ⟨vp_in_nI (by omega) (by decide), nm_r (tg_uc (by omega)) ⟨hin, vp_in_nI hv4 (by decide), nm_r (e' := upd xv v (fs i)) (by rw [hcl]; exact tg_uc (by omega)) ?_⟩⟩
    rw [nI_1]
    exact hp
  · intro post hp
    unfold wpY_carry
    refine ⟨hin, nm_r (e' := 0) (by rw [hcl]; exact h1) ?_⟩
    refine br_t rfl ?_
    have e6 : va (nI i).toNatClampNeg = nI v := by rw [hcl]; exact h6
    refine ⟨hin, hin, by rw [e6]; exact vp_in_nI (by omega) (by decide), nm_r (e' := upd yv v (fs i)) (by rw [e6, hcl, h3]; exact tg_uc (by omega)) ⟨hin, ?_⟩⟩
    refine hY e6 ey ?_
    rw [nI_1]
    exact hp
theorem tg_l1 (hi : i < L) (hL : L ≤ 20) (hv : ∀ j, j < 4 → xv j = yv j) (H : tg_live S sc xt sp stp la en yt ct)
    (h : s i = 1 ∧ ∃ k v a b, k < 5 ∧ v < 4 ∧ a < 4 ∧ b < 4 ∧ lk i = nI k ∧ nu i = nI k ∧ tg i = nI v ∧ va i = nI v ∧ fs i = nI a ∧ ya i = nI a ∧ sd i = nI b ∧ yb i = nI b) :
    ∃ i' S' xv' sc' xt' sp' stp' la' en' yv' yt' ct', i' ≤ 20 ∧ S < S' ∧ tg_RR S' 420 sc' xt' sp' stp' la' en' yt' ct' ∧ (∀ j, j < 4 → xv' j = yv' j) ∧
      (∀ {post : Int32 → SX → Prop}, post (nI i') (nI L, sc', inp, lk, tg, fs, sd, ob, oc, be, bb, xv', xt', sp') → wpX_carryOutLine post (nI L, sc, inp, lk, tg, fs, sd, ob, oc, be, bb, xv, xt, sp) (nI i)) ∧
      (∀ {post : Int32 → SY → Prop}, post (nI i') (nI L, hg, stp', la', en', inq, s, va, nu, ya, yb, pl, cs, ot, op, yv', yt', ct') → wpY_carry post (nI L, hg, stp, la, en, inq, s, va, nu, ya, yb, pl, cs, ot, op, yv, yt, ct) (nI i)) := by
  obtain ⟨h1, k, v, a, b, hk, hv4, ha4, hb4, q1, q2, q3, q4, q5, q6, q7, q8⟩ := h
  obtain ⟨ta, hta, eax, eay⟩ := H.2.2.2.2.1 a (by omega)
  obtain ⟨tb, htb, ebx, eby⟩ := H.2.2.2.2.1 b (by omega)
  obtain ⟨c, hac, hbc, hc, hcS⟩ : ∃ c, ta ≤ c ∧ tb ≤ c ∧ (c = ta ∨ c = tb) ∧ c ≤ S := by
    by_cases h : ta ≤ tb
    · exact ⟨tb, h, Nat.le_refl _, Or.inr rfl, htb⟩
    · exact ⟨ta, Nat.le_refl _, by omega, Or.inl rfl, hta⟩
  have hcb : ta ≤ tb → c = tb := fun h => by omega
  have hca : tb < ta → c = ta := fun h => by omega
  have hS := H.1
  obtain ⟨sc1, t, sp1, stp1, la1, en1, yt1, ct1, HR, hX, hY⟩ := tg_step1 (a := ta) (b := tb) (c := c) (k := v) (by omega) H hac hbc hc hcS
  obtain ⟨r, rX, rY⟩ := tg_res hk (xv a) (xv b)
  have hin : vp_in (nI i) 20 := vp_in_nI (by omega) (by decide)
  have hcl : (nI i).toNatClampNeg = i := nI_clamp (by omega)
  have ca : (nI a).toNatClampNeg = a := nI_clamp (by omega)
  have cb : (nI b).toNatClampNeg = b := nI_clamp (by omega)
  have ia : vp_in (nI a) 5 := vp_in_nI (by omega) (by decide)
  have ib : vp_in (nI b) 5 := vp_in_nI (by omega) (by decide)
  refine ⟨i + 1, S + 1, upd xv v r, sc1, upd xt v t, sp1, stp1, la1, en1, upd yv v r, yt1, ct1, by omega, by omega, tg_RR_up HR (by omega), fun j hj => ?_, ?_, ?_⟩
  · by_cases e : j = v
    · subst e; rw [pk_us, pk_us]
    · rw [pk_un e, pk_un e]; exact hv j hj
  · intro post hp
    unfold wpX_carryOutLine
    refine ⟨hin, nm_r (e' := nI k) (by rw [hcl]; exact q1) ?_⟩
    refine br_t (nI_lt (b := 5) hk (by decide)) ?_
    unfold wpX_carryOutOperation
    refine ⟨hin, nm_r (e' := nI v) (by rw [hcl]; exact q3) ⟨hin, nm_r (e' := nI a) (by rw [hcl]; exact q5) ⟨hin, nm_r (e' := nI b) (by rw [hcl]; exact q7) ⟨ia, ib, ?_⟩⟩⟩⟩
    refine hX (by rw [ca]; exact eax) (by rw [cb]; exact ebx) ?_
    refine ⟨vp_in_nI (by omega) (by decide), nm_r (tg_uc (by omega)) ⟨hin, vp_in_nI ha4 (by decide), vp_in_nI hb4 (by decide), ?_⟩⟩
    rw [hcl, q1, ca, cb]
    refine rX ?_
    refine ⟨vp_in_nI hv4 (by decide), nm_r (tg_uc (by omega)) ?_⟩
    rw [nI_1]
    exact hp
  · intro post hp
    have e4 : va (nI i).toNatClampNeg = nI v := by rw [hcl]; exact q4
    unfold wpY_carry
    refine ⟨hin, nm_r (e' := 1) (by rw [hcl]; exact h1) ?_⟩
    refine br_f (by decide) (br_t rfl ?_)
    unfold wpY_operate
    refine ⟨hin, nm_r (e' := nI a) (by rw [hcl]; exact q6) ⟨hin, nm_r (e' := nI b) (by rw [hcl]; exact q8) ⟨hin, hin, ia, ib, ?_⟩⟩⟩
    have e5 : nu (nI i).toNatClampNeg = nI k := by rw [hcl]; exact q2
    have e6 : yv (nI a).toNatClampNeg = xv a := by rw [ca]; exact (hv a ha4).symm
    have e7 : yv (nI b).toNatClampNeg = xv b := by rw [cb]; exact (hv b hb4).symm
    rw [e5, e6, e7]
    refine rY ?_
    refine ⟨by rw [e4]; exact vp_in_nI (by omega) (by decide), nm_r (e' := upd yv v r) (by rw [e4]; exact tg_uc (by omega)) ⟨hin, ia, ib, ?_⟩⟩
    have hp' : post (nI i + 1) (nI L, hg, stp1, la1, en1, inq, s, va, nu, ya, yb, pl, cs, ot, op, upd yv v r, yt1, ct1) := by rw [nI_1]; exact hp
    have e8 : yt (nI a).toNatClampNeg = nI ta := by rw [ca]; exact eay
    have e9 : yt (nI b).toNatClampNeg = nI tb := by rw [cb]; exact eby
    refine pk_le ta tb (fun h => ⟨ib, ?_⟩) (fun h => ⟨ia, ?_⟩) e8 e9
    · unfold wY_operate_84
      exact hY e4 (by rw [e9, hcb h]) hp'
    · unfold wY_operate_84
      exact hY e4 (by rw [e8, hca h]) hp'
theorem tg_l2 (R : tg_R L inp lk tg fs sd ob oc be bb inq s va nu ya yb) (h0 : tg_st s L = []) (P : tg_PF s L pl cs ot op) (hi : i < L) (hv : ∀ j, j < 4 → xv j = yv j) (H : tg_live S sc xt sp stp la en yt ct)
    (h : s i = 2 ∧ lk i = 6 ∧ ∃ c, c < 4 ∧ fs i = nI c ∧ va i = nI c) : ∃ i' S' xv' sc' xt' sp' stp' la' en' yv' yt' ct', i' ≤ 20 ∧ S < S' ∧ tg_RR S' 420 sc' xt' sp' stp' la' en' yt' ct' ∧ (∀ j, j < 4 → xv' j = yv' j) ∧
      (∀ {post : Int32 → SX → Prop}, post (nI i') (nI L, sc', inp, lk, tg, fs, sd, ob, oc, be, bb, xv', xt', sp') → wpX_carryOutLine post (nI L, sc, inp, lk, tg, fs, sd, ob, oc, be, bb, xv, xt, sp) (nI i)) ∧
      (∀ {post : Int32 → SY → Prop}, post (nI i') (nI L, hg, stp', la', en', inq, s, va, nu, ya, yb, pl, cs, ot, op, yv', yt', ct') → wpY_carry post (nI L, hg, stp, la, en, inq, s, va, nu, ya, yb, pl, cs, ot, op, yv, yt, ct) (nI i)) := by
  obtain ⟨h1, h2, c, hc, h3, h4⟩ := h
  have hL := R.1
  obtain ⟨e, g1, g2, g3, g4⟩ := tg_rt2 R h0 P hi h1
  obtain ⟨sc1, xt1, sp1, stp1, la1, en1, yt1, ct1, HR, hX, hY⟩ := tg_choo (m := 401) (c := c) (by omega) (by omega) (Or.inl H)
  have hin : vp_in (nI i) 20 := vp_in_nI (by omega) (by decide)
  have hcl : (nI i).toNatClampNeg = i := nI_clamp (by omega)
  have cc : (nI c).toNatClampNeg = c := nI_clamp (by omega)
  have e4 : va (nI i).toNatClampNeg = nI c := by rw [hcl]; exact h4
  have ie : vp_in (nI e) 20 := vp_in_nI (by omega) (by decide)
  have ce : (nI e).toNatClampNeg = e := nI_clamp (by omega)
  have ic : vp_in (nI c) 5 := vp_in_nI (by omega) (by decide)
  have dX : ∀ {post : Int32 → SX → Prop}, wpX_enterWhen post (nI L, sc, inp, lk, tg, fs, sd, ob, oc, be, bb, xv, xt, sp) (nI i) → wpX_carryOutLine post (nI L, sc, inp, lk, tg, fs, sd, ob, oc, be, bb, xv, xt, sp) (nI i) := by
    intro post hp
    unfold wpX_carryOutLine
    refine ⟨hin, nm_r (e' := 6) (by rw [hcl]; exact h2) ?_⟩
    exact br_f (by decide) (br_f (by decide) (br_f (by decide) (br_t rfl hp)))
  by_cases z : xv c = 0
  · have zy : yv (va (nI i).toNatClampNeg).toNatClampNeg = 0 := by rw [e4, cc, ← hv c hc]; exact z
    have fin : ∀ i', i' ≤ 20 → (∀ {post : Int32 → SX → Prop} {u : SX}, post (nI i') u → ((lk (nI e).toNatClampNeg = 7 → post (nI e + 1) u) ∧ (¬ lk (nI e).toNatClampNeg = 7 → post (nI e) u))) →
        (∀ {post : Int32 → SY → Prop} {u : SY}, post (nI i') u → ((ot (nI i).toNatClampNeg < 0 → (vp_in (nI i) 20 ∧ post (cs (nI i).toNatClampNeg) u)) ∧ (¬ ot (nI i).toNatClampNeg < 0 → (vp_in (nI i) 20 ∧ post (ot (nI i).toNatClampNeg + 1) u)))) → ∃ i' S' xv' sc' xt' sp' stp' la' en' yv' yt' ct', i' ≤ 20 ∧ S < S' ∧ tg_RR S' 420 sc' xt' sp' stp' la' en' yt' ct' ∧ (∀ j, j < 4 → xv' j = yv' j) ∧
      (∀ {post : Int32 → SX → Prop}, post (nI i') (nI L, sc', inp, lk, tg, fs, sd, ob, oc, be, bb, xv', xt', sp') → wpX_carryOutLine post (nI L, sc, inp, lk, tg, fs, sd, ob, oc, be, bb, xv, xt, sp) (nI i)) ∧
      (∀ {post : Int32 → SY → Prop}, post (nI i') (nI L, hg, stp', la', en', inq, s, va, nu, ya, yb, pl, cs, ot, op, yv', yt', ct') → wpY_carry post (nI L, hg, stp, la, en, inq, s, va, nu, ya, yb, pl, cs, ot, op, yv, yt, ct) (nI i)) := by
      intro i' hi' fX fY
      refine ⟨i', S + 5, xv, sc1, xt1, sp1, stp1, la1, en1, yv, yt1, ct1, hi', by omega, tg_RR_up HR (by omega), hv, fun hp => dX ?_, fun hp => ?_⟩
      · unfold wpX_enterWhen
        refine ⟨hin, nm_r (e' := nI c) (by rw [hcl]; exact h3) ?_⟩
        refine hX rfl ?_
        refine ⟨vp_in_nI hc (by decide), br_t (by rw [cc]; exact z) ⟨hin, nm_r (e' := nI e) (by rw [hcl]; exact g3) ⟨ie, fX hp⟩⟩⟩
      · unfold wpY_carry
        refine ⟨hin, nm_r (e' := 2) (by rw [hcl]; exact h1) ?_⟩
        refine br_f (by decide) (br_f (by decide) (br_t rfl ⟨hin, ?_⟩))
        refine hY e4 ?_
        exact ⟨hin, by rw [e4]; exact ic, br_t zy ⟨hin, fY hp⟩⟩
    rcases g4 with ⟨s3, o1⟩ | ⟨s5, o1, o2⟩
    · refine fin (e + 1) (by omega) (fun hp => br_t (by rw [ce]; exact (tg_lk R g2).2.1 s3) (by rw [nI_1]; exact hp)) (fun hp => ?_)
      rw [hcl, o1, nI_1]
      exact br_f (nI_pos (by omega)) ⟨hin, hp⟩
    · refine fin e (by omega) (fun hp => br_f (by rw [ce, (tg_lk R g2).2.2.2 s5]; decide) hp) (fun hp => ?_)
      rw [hcl, o1, o2]
      exact br_t (by decide) ⟨hin, hp⟩
  · have zy : ¬ yv (va (nI i).toNatClampNeg).toNatClampNeg = 0 := by rw [e4, cc, ← hv c hc]; exact z
    refine ⟨i + 1, S + 5, xv, sc1, xt1, sp1, stp1, la1, en1, yv, yt1, ct1, by omega, by omega, tg_RR_up HR (by omega), hv, fun hp => dX ?_, fun hp => ?_⟩
    · unfold wpX_enterWhen
      refine ⟨hin, nm_r (e' := nI c) (by rw [hcl]; exact h3) ?_⟩
      refine hX rfl ?_
      refine ⟨vp_in_nI hc (by decide), br_f (by rw [cc]; exact z) ?_⟩
      rw [nI_1]
      exact hp
    · unfold wpY_carry
      refine ⟨hin, nm_r (e' := 2) (by rw [hcl]; exact h1) ?_⟩
      refine br_f (by decide) (br_f (by decide) (br_t rfl ⟨hin, ?_⟩))
      refine hY e4 ?_
      refine ⟨hin, by rw [e4]; exact ic, br_f zy ?_⟩
      rw [nI_1]
      exact hp
theorem tg_l4 (R : tg_R L inp lk tg fs sd ob oc be bb inq s va nu ya yb) (h0 : tg_st s L = []) (P : tg_PF s L pl cs ot op) (hi : i < L) (hv : ∀ j, j < 4 → xv j = yv j) (H : tg_live S sc xt sp stp la en yt ct)
    (h : s i = 4 ∧ lk i = 8 ∧ ∃ c, c < 4 ∧ fs i = nI c ∧ va i = nI c) : ∃ i' S' xv' sc' xt' sp' stp' la' en' yv' yt' ct', i' ≤ 20 ∧ S < S' ∧ tg_RR S' 420 sc' xt' sp' stp' la' en' yt' ct' ∧ (∀ j, j < 4 → xv' j = yv' j) ∧
      (∀ {post : Int32 → SX → Prop}, post (nI i') (nI L, sc', inp, lk, tg, fs, sd, ob, oc, be, bb, xv', xt', sp') → wpX_carryOutLine post (nI L, sc, inp, lk, tg, fs, sd, ob, oc, be, bb, xv, xt, sp) (nI i)) ∧
      (∀ {post : Int32 → SY → Prop}, post (nI i') (nI L, hg, stp', la', en', inq, s, va, nu, ya, yb, pl, cs, ot, op, yv', yt', ct') → wpY_carry post (nI L, hg, stp, la, en, inq, s, va, nu, ya, yb, pl, cs, ot, op, yv, yt, ct) (nI i)) := by
  obtain ⟨h1, h2, c, hc, h3, h4⟩ := h
  have hL := R.1
  obtain ⟨e, g1, g2, g3, g4⟩ := tg_rt4 R h0 P hi h1
  obtain ⟨sc1, xt1, sp1, stp1, la1, en1, yt1, ct1, HR1, hX1, hY1⟩ := tg_pass (m := 401) (by omega) (Or.inl H)
  obtain ⟨sc2, xt2, sp2, stp2, la2, en2, yt2, ct2, HR2, hX2, hY2⟩ := tg_choo (m := 401 + 5) (c := c) (by omega) (by omega) HR1
  obtain ⟨sc3, xt3, sp3, stp3, la3, en3, yt3, ct3, HR3, hX3, hY3⟩ := tg_pass (m := 401 + 5 + 5) (by omega) HR2
  have hin : vp_in (nI i) 20 := vp_in_nI (by omega) (by decide)
  have hcl : (nI i).toNatClampNeg = i := nI_clamp (by omega)
  have cc : (nI c).toNatClampNeg = c := nI_clamp (by omega)
  have e4 : va (nI i).toNatClampNeg = nI c := by rw [hcl]; exact h4
  have ic : vp_in (nI c) 5 := vp_in_nI (by omega) (by decide)
  have dX : ∀ {post : Int32 → SX → Prop}, wpX_enterRepeat post (nI L, sc, inp, lk, tg, fs, sd, ob, oc, be, bb, xv, xt, sp) (nI i) → wpX_carryOutLine post (nI L, sc, inp, lk, tg, fs, sd, ob, oc, be, bb, xv, xt, sp) (nI i) := by
    intro post hp
    unfold wpX_carryOutLine
    refine ⟨hin, nm_r (e' := 8) (by rw [hcl]; exact h2) ?_⟩
    exact br_f (by decide) (br_f (by decide) (br_f (by decide) (br_f (by decide) (br_f (by decide) (br_t rfl hp)))))
  have dY : ∀ {post : Int32 → SY → Prop}, wpY_round post (nI L, hg, stp, la, en, inq, s, va, nu, ya, yb, pl, cs, ot, op, yv, yt, ct) (nI i) → wpY_carry post (nI L, hg, stp, la, en, inq, s, va, nu, ya, yb, pl, cs, ot, op, yv, yt, ct) (nI i) := by
    intro post hp
    unfold wpY_carry
    refine ⟨hin, nm_r (e' := 4) (by rw [hcl]; exact h1) ?_⟩
    exact br_f (by decide) (br_f (by decide) (br_f (by decide) (br_f (by decide) (br_t rfl hp))))
  by_cases z : xv c = 0
  · have zy : yv (va (nI i).toNatClampNeg).toNatClampNeg = 0 := by rw [e4, cc, ← hv c hc]; exact z
    refine ⟨e + 1, S + 5 + 5 + 5, xv, sc3, xt3, sp3, stp3, la3, en3, yv, yt3, ct3, by omega, by omega, tg_RR_up HR3 (by omega), hv, fun hp => dX ?_, fun hp => dY ?_⟩
    · unfold wpX_enterRepeat
      refine ⟨hin, nm_r (e' := nI c) (by rw [hcl]; exact h3) ?_⟩
      refine hX1 ?_
      refine hX2 rfl ?_
      refine ⟨vp_in_nI hc (by decide), br_t (by rw [cc]; exact z) ?_⟩
      refine hX3 ?_
      refine ⟨hin, ?_⟩
      rw [hcl, g3, nI_1]
      exact hp
    · unfold wpY_round
      refine hY1 ?_
      refine ⟨hin, ?_⟩
      refine hY2 e4 ?_
      refine ⟨hin, by rw [e4]; exact ic, br_t zy ?_⟩
      refine hY3 ?_
      refine ⟨hin, ?_⟩
      rw [hcl, g4, nI_1]
      exact hp
  · have zy : ¬ yv (va (nI i).toNatClampNeg).toNatClampNeg = 0 := by rw [e4, cc, ← hv c hc]; exact z
    refine ⟨i + 1, S + 5 + 5, xv, sc2, xt2, sp2, stp2, la2, en2, yv, yt2, ct2, by omega, by omega, tg_RR_up HR2 (by omega), hv, fun hp => dX ?_, fun hp => dY ?_⟩
    · unfold wpX_enterRepeat
      refine ⟨hin, nm_r (e' := nI c) (by rw [hcl]; exact h3) ?_⟩
      refine hX1 ?_
      refine hX2 rfl ?_
      refine ⟨vp_in_nI hc (by decide), br_f (by rw [cc]; exact z) ?_⟩
      rw [nI_1]
      exact hp
    · unfold wpY_round
      refine hY1 ?_
      refine ⟨hin, ?_⟩
      refine hY2 e4 ?_
      refine ⟨hin, by rw [e4]; exact ic, br_f zy ?_⟩
      rw [nI_1]
      exact hp
theorem tg_l5 (R : tg_R L inp lk tg fs sd ob oc be bb inq s va nu ya yb) (hi : i < L) (hv : ∀ j, j < 4 → xv j = yv j) (H : tg_live S sc xt sp stp la en yt ct)
    (h5 : s i = 5) {b c : Nat} (hb : b < L) (hc : c < L) (ho : op i = nI b) (hbb : bb i = nI c) (sb : s b = 2) (hk : ¬ lk c = 8) : ∃ i' S' xv' sc' xt' sp' stp' la' en' yv' yt' ct', i' ≤ 20 ∧ S < S' ∧ tg_RR S' 420 sc' xt' sp' stp' la' en' yt' ct' ∧ (∀ j, j < 4 → xv' j = yv' j) ∧
      (∀ {post : Int32 → SX → Prop}, post (nI i') (nI L, sc', inp, lk, tg, fs, sd, ob, oc, be, bb, xv', xt', sp') → wpX_carryOutLine post (nI L, sc, inp, lk, tg, fs, sd, ob, oc, be, bb, xv, xt, sp) (nI i)) ∧
      (∀ {post : Int32 → SY → Prop}, post (nI i') (nI L, hg, stp', la', en', inq, s, va, nu, ya, yb, pl, cs, ot, op, yv', yt', ct') → wpY_carry post (nI L, hg, stp, la, en, inq, s, va, nu, ya, yb, pl, cs, ot, op, yv, yt, ct) (nI i)) := by
  have hL := R.1
  obtain ⟨sc1, xt1, sp1, stp1, la1, en1, yt1, ct1, HR1, hX1, hY1⟩ := tg_pass (m := 401) (by omega) (Or.inl H)
  have hin : vp_in (nI i) 20 := vp_in_nI (by omega) (by decide)
  have hcl : (nI i).toNatClampNeg = i := nI_clamp (by omega)
  have cc : (nI c).toNatClampNeg = c := nI_clamp (by omega)
  have cb : (nI b).toNatClampNeg = b := nI_clamp (by omega)
  have eo : op (nI i).toNatClampNeg = nI b := by rw [hcl]; exact ho
  refine ⟨i + 1, S + 5, xv, sc1, xt1, sp1, stp1, la1, en1, yv, yt1, ct1, by omega, by omega, tg_RR_up HR1 (by omega), hv, fun hp => ?_, fun hp => ?_⟩
  · unfold wpX_carryOutLine
    refine ⟨hin, nm_r (e' := 9) (by rw [hcl]; exact (tg_lk R hi).2.2.2 h5) ?_⟩
    refine br_f (by decide) (br_f (by decide) (br_f (by decide) (br_f (by decide) (br_f (by decide) (br_f (by decide) (br_t rfl ?_))))))
    unfold wpX_passClose
    refine ⟨hin, nm_r (e' := nI c) (by rw [hcl]; exact hbb) ⟨vp_in_nI (by omega) (by decide), br_f (by rw [cc]; exact hk) ?_⟩⟩
    refine hX1 ?_
    rw [nI_1]
    exact hp
  · unfold wpY_carry
    refine ⟨hin, nm_r (e' := 5) (by rw [hcl]; exact h5) ?_⟩
    refine br_f (by decide) (br_f (by decide) (br_f (by decide) (br_f (by decide) (br_f (by decide) ⟨hin, ?_⟩))))
    refine ⟨by rw [eo]; exact vp_in_nI (by omega) (by decide), br_f (by rw [eo, cb, sb]; decide) ?_⟩
    refine hY1 ?_
    rw [nI_1]
    exact hp
theorem tg_q3 (R : tg_R L inp lk tg fs sd ob oc be bb inq s va nu ya yb) (hi : i < L) (h3 : s i = 3) {e b : Nat} (hb : b < L) (g1 : be i = nI e) (g2 : op i = nI b) (g3 : cs b = nI e) :
    (∀ {post : Int32 → SX → Prop}, post (nI e) (nI L, sc, inp, lk, tg, fs, sd, ob, oc, be, bb, xv, xt, sp) → wpX_carryOutLine post (nI L, sc, inp, lk, tg, fs, sd, ob, oc, be, bb, xv, xt, sp) (nI i)) ∧ (∀ {post : Int32 → SY → Prop}, post (nI e) (nI L, hg, stp, la, en, inq, s, va, nu, ya, yb, pl, cs, ot, op, yv, yt, ct) → wpY_carry post (nI L, hg, stp, la, en, inq, s, va, nu, ya, yb, pl, cs, ot, op, yv, yt, ct) (nI i)) := by
  have hL := R.1
  have hin : vp_in (nI i) 20 := vp_in_nI (by omega) (by decide)
  have hcl : (nI i).toNatClampNeg = i := nI_clamp (by omega)
  have cb : (nI b).toNatClampNeg = b := nI_clamp (by omega)
  have eo : op (nI i).toNatClampNeg = nI b := by rw [hcl]; exact g2
  refine ⟨fun hp => ?_, fun hp => ?_⟩
  · unfold wpX_carryOutLine
    refine ⟨hin, nm_r (e' := 7) (by rw [hcl]; exact (tg_lk R hi).2.1 h3) ?_⟩
    refine br_f (by decide) (br_f (by decide) (br_f (by decide) (br_f (by decide) (br_t rfl ⟨hin, ?_⟩))))
    rw [hcl, g1]
    exact hp
  · unfold wpY_carry
    refine ⟨hin, nm_r (e' := 3) (by rw [hcl]; exact h3) ?_⟩
    refine br_f (by decide) (br_f (by decide) (br_f (by decide) (br_t rfl ⟨hin, ?_⟩)))
    refine ⟨by rw [eo]; exact vp_in_nI (by omega) (by decide), ?_⟩
    rw [eo, cb, g3]
    exact hp
theorem tg_q5 (R : tg_R L inp lk tg fs sd ob oc be bb inq s va nu ya yb) (hi : i < L) (h5 : s i = 5) {b : Nat} (hb : b < L) (g1 : bb i = nI b) (g2 : op i = nI b) (g3 : s b = 4) :
    (∀ {post : Int32 → SX → Prop}, post (nI b) (nI L, sc, inp, lk, tg, fs, sd, ob, oc, be, bb, xv, xt, sp) → wpX_carryOutLine post (nI L, sc, inp, lk, tg, fs, sd, ob, oc, be, bb, xv, xt, sp) (nI i)) ∧ (∀ {post : Int32 → SY → Prop}, wpY_carry post (nI L, hg, stp, la, en, inq, s, va, nu, ya, yb, pl, cs, ot, op, yv, yt, ct) (nI b) → wpY_carry post (nI L, hg, stp, la, en, inq, s, va, nu, ya, yb, pl, cs, ot, op, yv, yt, ct) (nI i)) := by
  have hL := R.1
  have hin : vp_in (nI i) 20 := vp_in_nI (by omega) (by decide)
  have hcl : (nI i).toNatClampNeg = i := nI_clamp (by omega)
  have ib : vp_in (nI b) 20 := vp_in_nI (by omega) (by decide)
  have cb : (nI b).toNatClampNeg = b := nI_clamp (by omega)
  have eo : op (nI i).toNatClampNeg = nI b := by rw [hcl]; exact g2
  refine ⟨fun hp => ?_, fun {post} hp => ?_⟩
  · unfold wpX_carryOutLine
    refine ⟨hin, nm_r (e' := 9) (by rw [hcl]; exact (tg_lk R hi).2.2.2 h5) ?_⟩
    refine br_f (by decide) (br_f (by decide) (br_f (by decide) (br_f (by decide) (br_f (by decide) (br_f (by decide) (br_t rfl ?_))))))
    unfold wpX_passClose
    refine ⟨hin, nm_r (e' := nI b) (by rw [hcl]; exact g1) ⟨ib, br_t (by rw [cb]; exact (tg_lk R hb).2.2.1 g3) hp⟩⟩
  · unfold wpY_carry at hp ⊢
    have hr : wpY_round post (nI L, hg, stp, la, en, inq, s, va, nu, ya, yb, pl, cs, ot, op, yv, yt, ct) (nI b) := by
      have h1 := hp.2 4 (by rw [cb, g3])
      have h2 := h1.2 (by decide)
      have h3 := h2.2 (by decide)
      have h4 := h3.2 (by decide)
      have h5 := h4.2 (by decide)
      exact h5.1 rfl
    refine ⟨hin, nm_r (e' := 5) (by rw [hcl]; exact h5) ?_⟩
    refine br_f (by decide) (br_f (by decide) (br_f (by decide) (br_f (by decide) (br_f (by decide) ⟨hin, ?_⟩))))
    refine ⟨by rw [eo]; exact ib, br_t (by rw [eo, cb]; exact g3) ⟨hin, ?_⟩⟩
    rw [eo]
    exact hr
end

/-- both run on alike after S steps -/
def tg_live (S : Nat) (sc : Int32) (xt sp : Nat → Int32) (stp la en : Int32) (yt ct : Nat → Int32) : Prop :=
  S ≤ 400 ∧ sc = nI S ∧ stp = nI S ∧ en = 0 ∧ (∀ j, j < 5 → ∃ a, a ≤ S ∧ xt j = nI a ∧ yt j = nI a) ∧
  (∀ t, t < 401 → ∃ a, a ≤ S ∧ sp t = nI a ∧ ct t = nI a) ∧ ct 401 = 0 ∧
  (∃ l, l ≤ S ∧ la = nI l ∧ (∀ t, l < t → t < 401 → sp t = 0) ∧ (l = 0 ∨ ∃ a, 0 < a ∧ a ≤ S ∧ sp l = nI a))
def tg_tired (m : Nat) (sc en : Int32) : Prop := en = 1 ∧ ∃ S, 400 < S ∧ S ≤ m ∧ sc = nI S
def tg_RR (S m : Nat) (sc : Int32) (xt sp : Nat → Int32) (stp la en : Int32) (yt ct : Nat → Int32) : Prop :=
  tg_live S sc xt sp stp la en yt ct ∨ tg_tired m sc en
theorem tg_tired_up {m m' : Nat} {sc en : Int32} (h : tg_tired m sc en) (hm : m ≤ m') : tg_tired m' sc en := by
  obtain ⟨h1, S, h2, h3, h4⟩ := h
  exact ⟨h1, S, h2, by omega, h4⟩
theorem tg_RR_up {S m m' : Nat} {sc : Int32} {xt sp : Nat → Int32} {stp la en : Int32} {yt ct : Nat → Int32} (h : tg_RR S m sc xt sp stp la en yt ct) (hm : m ≤ m') : tg_RR S m' sc xt sp stp la en yt ct := by
  rcases h with h | h
  · exact Or.inl h
  · exact Or.inr (tg_tired_up h hm)
/-- the class's step ends whatever the times are -/
theorem tg_sx (sc : Int32) (xt sp : Nat → Int32) (p0 p1 : Int32) : ∃ t sp', ∀ {lc : Int32} {inp lk tg fs sd ob oc be bb xv : Nat → Int32} {post : Int32 → SX → Prop}, post t (lc, sc + 1, inp, lk, tg, fs, sd, ob, oc, be, bb, xv, xt, sp') → wpX_stepAfter post (lc, sc, inp, lk, tg, fs, sd, ob, oc, be, bb, xv, xt, sp) p0 p1 := by
  have key : ∀ z : Int32, ∃ t sp', ∀ {lc : Int32} {inp lk tg fs sd ob oc be bb xv : Nat → Int32} {post : Int32 → SX → Prop}, post t (lc, sc + 1, inp, lk, tg, fs, sd, ob, oc, be, bb, xv, xt, sp') → wX_stepAfter_10 post z lc sc inp lk tg fs sd ob oc be bb xv xt sp := by
    intro z
    by_cases h0 : z + 1 ≤ 0
    · exact ⟨z + 1, sp, fun hp => nm_e (nm_e (br_t h0 hp))⟩
    by_cases h1 : 401 ≤ z + 1
    · exact ⟨z + 1, sp, fun hp => nm_e (nm_e (br_f h0 (br_t h1 hp)))⟩
    have hin : vp_in (z + 1) 401 := by
      rcases pk_ix (z + 1) (n := 401) (by decide) with h | h | ⟨j, hj, e⟩
      · exact absurd (Int32.le_of_lt h) h0
      · exact absurd h h1
      · rw [e]; exact vp_in_nI hj (by decide)
    exact ⟨z + 1, _, fun hp => nm_e (nm_e (br_f h0 (br_f h1 ⟨hin, hin, nm_e hp⟩)))⟩
  by_cases h : p0 ≤ p1
  · obtain ⟨t, sp', hX⟩ := key p1
    exact ⟨t, sp', fun hp => br_t h (hX hp)⟩
  · obtain ⟨t, sp', hX⟩ := key p0
    exact ⟨t, sp', fun hp => br_f h (hX hp)⟩
theorem tg_live_s {S k c q l l' : Nat} {xt sp yt ct : Nat → Int32} (hS : S < 400) (hc : c ≤ S)
    (hT : ∀ j, j < 5 → ∃ a, a ≤ S ∧ xt j = nI a ∧ yt j = nI a) (hC : ∀ t, t < 401 → ∃ a, a ≤ S ∧ sp t = nI a ∧ ct t = nI a) (h401 : ct 401 = 0)
    (hl : l ≤ S) (hl0 : ∀ t, l < t → t < 401 → sp t = 0) (hl1 : l = 0 ∨ ∃ a, 0 < a ∧ a ≤ S ∧ sp l = nI a)
    (hl' : (c + 1 ≤ l ∧ l' = l) ∨ (l < c + 1 ∧ l' = c + 1)) (hq : q ≤ S) :
    tg_live (S + 1) (nI (S + 1)) (upd xt k (nI (c + 1))) (upd sp (c + 1) (nI (q + 1))) (nI (S + 1)) (nI l') 0 (upd yt k (nI (c + 1))) (upd ct (c + 1) (nI (q + 1))) := by
  refine ⟨by omega, rfl, rfl, rfl, fun j hj => ?_, fun t ht => ?_, ?_, l', by omega, rfl, fun t h1 h2 => ?_, ?_⟩
  · by_cases e : j = k
    · subst e; exact ⟨c + 1, by omega, pk_us, pk_us⟩
    · rw [pk_un e, pk_un e]
      obtain ⟨a, ha, h⟩ := hT j hj
      exact ⟨a, by omega, h⟩
  · by_cases e : t = c + 1
    · subst e; exact ⟨q + 1, by omega, pk_us, pk_us⟩
    · rw [pk_un e, pk_un e]
      obtain ⟨a, ha, h⟩ := hC t ht
      exact ⟨a, by omega, h⟩
  · rw [pk_un (by omega)]; exact h401
  · rw [pk_un (by omega)]; exact hl0 t (by omega) h2
  · refine Or.inr ?_
    by_cases e : l' = c + 1
    · subst e; exact ⟨q + 1, by omega, by omega, pk_us⟩
    · rw [pk_un e]
      have : l' = l := by omega
      subst this
      rcases hl1 with h | ⟨a, h1, h2, h3⟩
      · omega
      · exact ⟨a, h1, by omega, h3⟩
/-- one step of both -/
theorem tg_step1 {S k a b c : Nat} {sc : Int32} {xt sp : Nat → Int32} {stp la en : Int32} {yt ct : Nat → Int32} (hk : k < 5) (H : tg_live S sc xt sp stp la en yt ct)
    (ha : a ≤ c) (hb : b ≤ c) (hc : c = a ∨ c = b) (hcS : c ≤ S) :
    ∃ sc' t sp' stp' la' en' yt' ct', tg_RR (S + 1) 401 sc' (upd xt k t) sp' stp' la' en' yt' ct' ∧
      (∀ {lc : Int32} {inp lk tg fs sd ob oc be bb xv : Nat → Int32} {p0 p1 : Int32} {post : Int32 → SX → Prop}, p0 = nI a → p1 = nI b → post t (lc, sc', inp, lk, tg, fs, sd, ob, oc, be, bb, xv, xt, sp') → wpX_stepAfter post (lc, sc, inp, lk, tg, fs, sd, ob, oc, be, bb, xv, xt, sp) p0 p1) ∧
      (∀ {ln hg : Int32} {inq s va nu ya yb pl cs ot op yv : Nat → Int32} {p0 p1 : Int32} {post : SY → Prop}, p0 = nI k → p1 = nI c → post (ln, hg, stp', la', en', inq, s, va, nu, ya, yb, pl, cs, ot, op, yv, yt', ct') → wpY_step post (ln, hg, stp, la, en, inq, s, va, nu, ya, yb, pl, cs, ot, op, yv, yt, ct) p0 p1) := by
  have hcb : a ≤ b → c = b := fun h => by omega
  have hca : b < a → c = a := fun h => by omega
  obtain ⟨hS4, rfl, rfl, rfl, hT, hC, h401, l, hl, rfl, hl0, hl1⟩ := H
  by_cases e : S = 400
  · subst e
    obtain ⟨t, sp', hX⟩ := tg_sx (nI 400) xt sp (nI a) (nI b)
    rw [nI_1] at hX
    exact ⟨nI 401, t, sp', nI 400, nI l, 1, yt, ct, Or.inr ⟨rfl, 401, by omega, by omega, rfl⟩, fun e0 e1 hp => by subst e0 e1; exact hX hp, fun e0 e1 hp => br_t rfl hp⟩
  · obtain ⟨q, hq, eq1, eq2⟩ := hC (c + 1) (by omega)
    have main : ∀ l', (c + 1 ≤ l ∧ l' = l) ∨ (l < c + 1 ∧ l' = c + 1) → ∃ sc' t sp' stp' la' en' yt' ct', tg_RR (S + 1) 401 sc' (upd xt k t) sp' stp' la' en' yt' ct' ∧
      (∀ {lc : Int32} {inp lk tg fs sd ob oc be bb xv : Nat → Int32} {p0 p1 : Int32} {post : Int32 → SX → Prop}, p0 = nI a → p1 = nI b → post t (lc, sc', inp, lk, tg, fs, sd, ob, oc, be, bb, xv, xt, sp') → wpX_stepAfter post (lc, nI S, inp, lk, tg, fs, sd, ob, oc, be, bb, xv, xt, sp) p0 p1) ∧
      (∀ {ln hg : Int32} {inq s va nu ya yb pl cs ot op yv : Nat → Int32} {p0 p1 : Int32} {post : SY → Prop}, p0 = nI k → p1 = nI c → post (ln, hg, stp', la', en', inq, s, va, nu, ya, yb, pl, cs, ot, op, yv, yt', ct') → wpY_step post (ln, hg, nI S, nI l, 0, inq, s, va, nu, ya, yb, pl, cs, ot, op, yv, yt, ct) p0 p1) := by
      intro l' hl'
      refine ⟨nI (S + 1), nI (c + 1), upd sp (c + 1) (nI (q + 1)), nI (S + 1), nI l', 0, upd yt k (nI (c + 1)), upd ct (c + 1) (nI (q + 1)), Or.inl (tg_live_s (by omega) hcS hT hC h401 hl hl0 hl1 hl' hq), ?_, ?_⟩
      · intro lc inp lk tg fs sd ob oc be bb xv p0 p1 post e0 e1 hp
        have key : wX_stepAfter_10 post (nI c) lc (nI S) inp lk tg fs sd ob oc be bb xv xt sp := by
          have hin : vp_in (nI (c + 1)) 401 := vp_in_nI (by omega) (by decide)
          refine nm_r (nI_1 c) (nm_r (nI_1 S) (br_f (nI_nle (by omega) (by omega)) (br_f (nI_ge (b := 401) (by omega) (by decide)) ⟨hin, hin, nm_r (e' := upd sp (c + 1) (nI (q + 1))) ?_ hp⟩)))
          rw [nI_clamp (by omega), eq1, nI_1]
        subst e0 e1
        refine pk_le a b (fun h => ?_) (fun h => ?_)
        · have : c = b := hcb h
          subst this; exact key
        · have : c = a := hca h
          subst this; exact key
      · intro ln hg inq s va nu ya yb pl cs ot op yv p0 p1 post e0 e1 hp
        subst e0 e1
        have hin : vp_in (nI (c + 1)) 402 := vp_in_nI (by omega) (by decide)
        refine br_f (fun z => e ((nI_eq (b := 400) (by omega) (by decide)).mp z)) (nm_r (nI_1 S) (nm_r (nI_1 c) ⟨vp_in_nI hk (by decide), nm_r (tg_uc (by omega)) ⟨hin, hin, nm_r (e' := upd ct (c + 1) (nI (q + 1))) ?_ ?_⟩⟩))
        · rw [nI_clamp (by omega), eq2, nI_1]
        · refine pk_le (c + 1) l (fun h => ?_) (fun h => ?_)
          · have : l' = l := by omega
            subst this; exact hp
          · have : l' = c + 1 := by omega
            subst this; exact hp
    by_cases h : c + 1 ≤ l
    · exact main l (Or.inl ⟨h, rfl⟩)
    · exact main (c + 1) (Or.inr ⟨by omega, rfl⟩)
theorem tg_passX : ∀ (d k S : Nat) (xt sp : Nat → Int32), k + d = 5 → ∃ xt' sp', ∀ {lc : Int32} {inp lk tg fs sd ob oc be bb xv : Nat → Int32} {post : SX → Prop}, post (lc, nI (S + d), inp, lk, tg, fs, sd, ob, oc, be, bb, xv, xt', sp') → wX_passAll_2 post (d + 1) (nI k) lc (nI S) inp lk tg fs sd ob oc be bb xv xt sp := by
  intro d
  induction d with
  | zero =>
    intro k S xt sp hk
    have : k = 5 := by omega
    subst this
    exact ⟨xt, sp, fun hp => br_t (by decide) hp⟩
  | succ d ih =>
    intro k S xt sp hk
    have hin : vp_in (nI k) 5 := vp_in_nI (by omega) (by decide)
    obtain ⟨t, sp1, hX⟩ := tg_sx (nI S) xt sp (xt (nI k).toNatClampNeg) (xt (nI k).toNatClampNeg)
    obtain ⟨xt', sp', hr⟩ := ih (k + 1) (S + 1) (upd xt (nI k).toNatClampNeg t) sp1 (by omega)
    rw [nI_1] at hX
    rw [show S + 1 + d = S + (d + 1) by omega] at hr
    exact ⟨xt', sp', fun hp => br_f (lt5' k (by omega)) ⟨hin, hin, hX ⟨hin, nm_e (nm_r (nI_1 k) (hr hp))⟩⟩⟩
theorem tg_chooX (x2 : Int32) : ∀ (d k S : Nat) (xt sp : Nat → Int32), k + d = 5 → ∃ xt' sp', ∀ {lc : Int32} {inp lk tg fs sd ob oc be bb xv : Nat → Int32} {post : SX → Prop}, post (lc, nI (S + d), inp, lk, tg, fs, sd, ob, oc, be, bb, xv, xt', sp') → wX_chooseAll_9 post x2 (d + 1) (nI k) lc (nI S) inp lk tg fs sd ob oc be bb xv xt sp := by
  intro d
  induction d with
  | zero =>
    intro k S xt sp hk
    have : k = 5 := by omega
    subst this
    exact ⟨xt, sp, fun hp => br_t (by decide) hp⟩
  | succ d ih =>
    intro k S xt sp hk
    have hin : vp_in (nI k) 5 := vp_in_nI (by omega) (by decide)
    obtain ⟨t, sp1, hX⟩ := tg_sx (nI S) xt sp (xt (nI k).toNatClampNeg) x2
    obtain ⟨xt', sp', hr⟩ := ih (k + 1) (S + 1) (upd xt (nI k).toNatClampNeg t) sp1 (by omega)
    rw [nI_1] at hX
    rw [show S + 1 + d = S + (d + 1) by omega] at hr
    exact ⟨xt', sp', fun hp => br_f (lt5' k (by omega)) ⟨hin, hX ⟨hin, nm_e (nm_r (nI_1 k) (hr hp))⟩⟩⟩
theorem tg_passL : ∀ (d k S m : Nat) (sc : Int32) (xt sp : Nat → Int32) (stp la en : Int32) (yt ct : Nat → Int32), k + d = 5 → 401 ≤ m → tg_RR S m sc xt sp stp la en yt ct →
    ∃ sc' xt' sp' stp' la' en' yt' ct', tg_RR (S + d) (m + d) sc' xt' sp' stp' la' en' yt' ct' ∧
      (∀ {lc : Int32} {inp lk tg fs sd ob oc be bb xv : Nat → Int32} {post : SX → Prop}, post (lc, sc', inp, lk, tg, fs, sd, ob, oc, be, bb, xv, xt', sp') → wX_passAll_2 post (d + 1) (nI k) lc sc inp lk tg fs sd ob oc be bb xv xt sp) ∧
      (∀ {ln hg : Int32} {inq s va nu ya yb pl cs ot op yv : Nat → Int32} {post : SY → Prop}, post (ln, hg, stp', la', en', inq, s, va, nu, ya, yb, pl, cs, ot, op, yv, yt', ct') → wY_pass_2 post (d + 1) (nI k) ln hg stp la en inq s va nu ya yb pl cs ot op yv yt ct) := by
  intro d
  induction d with
  | zero =>
    intro k S m sc xt sp stp la en yt ct hk hm H
    have : k = 5 := by omega
    subst this
    exact ⟨sc, xt, sp, stp, la, en, yt, ct, H, fun hp => br_t (by decide) hp, fun hp => br_t (by decide) hp⟩
  | succ d ih =>
    intro k S m sc xt sp stp la en yt ct hk hm H
    have hin : vp_in (nI k) 5 := vp_in_nI (by omega) (by decide)
    have hk5 := lt5' k (by omega)
    rcases H with H | ⟨rfl, S', h1, h2, rfl⟩
    · obtain ⟨a, ha, ex, ey⟩ := H.2.2.2.2.1 k (by omega)
      have he : en = 0 := H.2.2.2.1
      obtain ⟨sc1, t, sp1, stp1, la1, en1, yt1, ct1, HR, hX, hY⟩ := tg_step1 (a := a) (b := a) (c := a) (k := k) (by omega) H (by omega) (by omega) (Or.inl rfl) ha
      obtain ⟨sc', xt', sp', stp', la', en', yt', ct', HR', hX', hY'⟩ := ih (k + 1) (S + 1) (m + 1) sc1 (upd xt k t) sp1 stp1 la1 en1 yt1 ct1 (by omega) (by omega) (tg_RR_up HR (by omega))
      have ex' : xt (nI k).toNatClampNeg = nI a := by rw [nI_clamp (by omega)]; exact ex
      have ey' : yt (nI k).toNatClampNeg = nI a := by rw [nI_clamp (by omega)]; exact ey
      refine ⟨sc', xt', sp', stp', la', en', yt', ct', by rw [show S + (d + 1) = S + 1 + d by omega, show m + (d + 1) = m + 1 + d by omega]; exact HR', ?_, ?_⟩
      · exact fun hp => br_f hk5 ⟨hin, hin, hX ex' ex' ⟨hin, nm_r (tg_uc (by omega)) (nm_r (nI_1 k) (hX' hp))⟩⟩
      · exact fun hp => br_f hk5 (br_t he ⟨hin, hY rfl ey' (nm_r (nI_1 k) (hY' hp))⟩)
    · obtain ⟨xt', sp', hX⟩ := tg_passX (d + 1) k S' xt sp hk
      exact ⟨nI (S' + (d + 1)), xt', sp', stp, la, 1, yt, ct, Or.inr ⟨rfl, S' + (d + 1), by omega, by omega, rfl⟩, hX, fun hp => br_f hk5 (br_f (by decide) hp)⟩
theorem tg_chooL (x2 : Int32) (c0 : Nat) : ∀ (d k S m : Nat) (sc : Int32) (xt sp : Nat → Int32) (stp la en : Int32) (yt ct : Nat → Int32) (y2 : Int32), k + d = 5 → 401 ≤ m → (en = 0 → x2 = nI c0 ∧ y2 = nI c0 ∧ c0 ≤ S) → tg_RR S m sc xt sp stp la en yt ct →
    ∃ sc' xt' sp' stp' la' en' yt' ct', tg_RR (S + d) (m + d) sc' xt' sp' stp' la' en' yt' ct' ∧
      (∀ {lc : Int32} {inp lk tg fs sd ob oc be bb xv : Nat → Int32} {post : SX → Prop}, post (lc, sc', inp, lk, tg, fs, sd, ob, oc, be, bb, xv, xt', sp') → wX_chooseAll_9 post x2 (d + 1) (nI k) lc sc inp lk tg fs sd ob oc be bb xv xt sp) ∧
      (∀ {ln hg : Int32} {inq s va nu ya yb pl cs ot op yv : Nat → Int32} {post : SY → Prop}, post (ln, hg, stp', la', en', inq, s, va, nu, ya, yb, pl, cs, ot, op, yv, yt', ct') → wY_choose_9 post y2 (d + 1) (nI k) ln hg stp la en inq s va nu ya yb pl cs ot op yv yt ct) := by
  intro d
  induction d with
  | zero =>
    intro k S m sc xt sp stp la en yt ct y2 hk hm h2 H
    have : k = 5 := by omega
    subst this
    exact ⟨sc, xt, sp, stp, la, en, yt, ct, H, fun hp => br_t (by decide) hp, fun hp => br_t (by decide) hp⟩
  | succ d ih =>
    intro k S m sc xt sp stp la en yt ct y2 hk hm hx2 H
    have hin : vp_in (nI k) 5 := vp_in_nI (by omega) (by decide)
    have hk5 := lt5' k (by omega)
    rcases H with H | ⟨rfl, S', h1, h2, rfl⟩
    · obtain ⟨a, ha, ex, ey⟩ := H.2.2.2.2.1 k (by omega)
      have he : en = 0 := H.2.2.2.1
      have hS := H.1
      obtain ⟨rfl, rfl, hc0⟩ := hx2 he
      obtain ⟨c, hac, hcc, hc, hcS⟩ : ∃ c, a ≤ c ∧ c0 ≤ c ∧ (c = a ∨ c = c0) ∧ c ≤ S := by
        by_cases h : a ≤ c0
        · exact ⟨c0, h, Nat.le_refl _, Or.inr rfl, hc0⟩
        · exact ⟨a, Nat.le_refl _, by omega, Or.inl rfl, ha⟩
      obtain ⟨sc1, t, sp1, stp1, la1, en1, yt1, ct1, HR, hX, hY⟩ := tg_step1 (a := a) (b := c0) (c := c) (k := k) (by omega) H hac hcc hc hcS
      obtain ⟨sc', xt', sp', stp', la', en', yt', ct', HR', hX', hY'⟩ := ih (k + 1) (S + 1) (m + 1) sc1 (upd xt k t) sp1 stp1 la1 en1 yt1 ct1 (nI c0) (by omega) (by omega) (fun _ => ⟨rfl, rfl, by omega⟩) (tg_RR_up HR (by omega))
      have ex' : xt (nI k).toNatClampNeg = nI a := by rw [nI_clamp (by omega)]; exact ex
      have ey' : yt (nI k).toNatClampNeg = nI a := by rw [nI_clamp (by omega)]; exact ey
      refine ⟨sc', xt', sp', stp', la', en', yt', ct', by rw [show S + (d + 1) = S + 1 + d by omega, show m + (d + 1) = m + 1 + d by omega]; exact HR', ?_, ?_⟩
      · exact fun hp => br_f hk5 ⟨hin, hX ex' rfl ⟨hin, nm_r (tg_uc (by omega)) (nm_r (nI_1 k) (hX' hp))⟩⟩
      · intro ln hg inq s va nu ya yb pl cs ot op yv post hp
        refine br_f hk5 (br_t he ⟨hin, ?_⟩)
        refine pk_le a c0 (fun h => ?_) (fun h => ⟨hin, ?_⟩) ey' rfl
        · exact hY rfl (by rw [show c = c0 by omega]) (nm_r (nI_1 k) (hY' hp))
        · exact hY rfl (by rw [show c = a by omega]; exact ey') (nm_r (nI_1 k) (hY' hp))
    · obtain ⟨xt', sp', hX⟩ := tg_chooX x2 (d + 1) k S' xt sp hk
      exact ⟨nI (S' + (d + 1)), xt', sp', stp, la, 1, yt, ct, Or.inr ⟨rfl, S' + (d + 1), by omega, by omega, rfl⟩, hX, fun hp => br_f hk5 (br_f (by decide) hp)⟩
section
variable {S m : Nat} {sc : Int32} {xt sp : Nat → Int32} {stp la en : Int32} {yt ct : Nat → Int32}
theorem tg_pass (hm : 401 ≤ m) (H : tg_RR S m sc xt sp stp la en yt ct) :
    ∃ sc' xt' sp' stp' la' en' yt' ct', tg_RR (S + 5) (m + 5) sc' xt' sp' stp' la' en' yt' ct' ∧
      (∀ {lc : Int32} {inp lk tg fs sd ob oc be bb xv : Nat → Int32} {post : SX → Prop}, post (lc, sc', inp, lk, tg, fs, sd, ob, oc, be, bb, xv, xt', sp') → wpX_passAll post (lc, sc, inp, lk, tg, fs, sd, ob, oc, be, bb, xv, xt, sp)) ∧
      (∀ {ln hg : Int32} {inq s va nu ya yb pl cs ot op yv : Nat → Int32} {post : SY → Prop}, post (ln, hg, stp', la', en', inq, s, va, nu, ya, yb, pl, cs, ot, op, yv, yt', ct') → wpY_pass post (ln, hg, stp, la, en, inq, s, va, nu, ya, yb, pl, cs, ot, op, yv, yt, ct)) := by
  obtain ⟨sc', xt', sp', stp', la', en', yt', ct', HR', hX', hY'⟩ := tg_passL 5 0 S m sc xt sp stp la en yt ct rfl hm H
  exact ⟨sc', xt', sp', stp', la', en', yt', ct', HR', fun hp => ⟨6, hX' hp⟩, fun hp => ⟨6, hY' hp⟩⟩
theorem tg_choo (hm : 401 ≤ m) {c : Nat} (hc : c < 5) (H : tg_RR S m sc xt sp stp la en yt ct) :
    ∃ sc' xt' sp' stp' la' en' yt' ct', tg_RR (S + 5) (m + 5) sc' xt' sp' stp' la' en' yt' ct' ∧
      (∀ {lc : Int32} {inp lk tg fs sd ob oc be bb xv : Nat → Int32} {p : Int32} {post : SX → Prop}, p = nI c → post (lc, sc', inp, lk, tg, fs, sd, ob, oc, be, bb, xv, xt', sp') → wpX_chooseAll post (lc, sc, inp, lk, tg, fs, sd, ob, oc, be, bb, xv, xt, sp) p) ∧
      (∀ {ln hg : Int32} {inq s va nu ya yb pl cs ot op yv : Nat → Int32} {p : Int32} {post : SY → Prop}, p = nI c → post (ln, hg, stp', la', en', inq, s, va, nu, ya, yb, pl, cs, ot, op, yv, yt', ct') → wpY_choose post (ln, hg, stp, la, en, inq, s, va, nu, ya, yb, pl, cs, ot, op, yv, yt, ct) p) := by
  have hin : vp_in (nI c) 5 := vp_in_nI hc (by decide)
  have hcl : (nI c).toNatClampNeg = c := nI_clamp (by omega)
  have pre : ∃ c0, en = 0 → xt c = nI c0 ∧ yt c = nI c0 ∧ c0 ≤ S := by
    rcases H with H | H
    · obtain ⟨a, ha, ex, ey⟩ := H.2.2.2.2.1 c hc
      exact ⟨a, fun _ => ⟨ex, ey, ha⟩⟩
    · exact ⟨0, fun z => absurd (H.1.symm.trans z) (by decide)⟩
  obtain ⟨c0, h0⟩ := pre
  obtain ⟨sc', xt', sp', stp', la', en', yt', ct', HR', hX', hY'⟩ := tg_chooL (xt c) c0 5 0 S m sc xt sp stp la en yt ct (yt c) rfl hm h0 H
  refine ⟨sc', xt', sp', stp', la', en', yt', ct', HR', fun e hp => ?_, fun e hp => ?_⟩
  · subst e; exact ⟨hin, nm_r (by rw [hcl]) ⟨6, hX' hp⟩⟩
  · subst e; exact ⟨hin, nm_r (by rw [hcl]) ⟨6, hY' hp⟩⟩
end

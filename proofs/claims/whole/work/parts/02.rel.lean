def tg_top : List (Nat × Nat) → Int32
  | [] => -1
  | e :: _ => nI e.2
/-- line i as both hold it -/
def tg_ln (s va nu ya yb lk tg fs sd be bb : Nat → Int32) (i : Nat) : Prop :=
  (s i = 0 ∧ lk i = 5 ∧ fs i = nu i ∧ ∃ v, v < 4 ∧ tg i = nI v ∧ va i = nI v) ∨
  (s i = 1 ∧ ∃ k v a b, k < 5 ∧ v < 4 ∧ a < 4 ∧ b < 4 ∧ lk i = nI k ∧ nu i = nI k ∧ tg i = nI v ∧ va i = nI v ∧ fs i = nI a ∧ ya i = nI a ∧ sd i = nI b ∧ yb i = nI b) ∨
  (s i = 2 ∧ lk i = 6 ∧ ∃ c, c < 4 ∧ fs i = nI c ∧ va i = nI c) ∨
  (s i = 3 ∧ lk i = 7 ∧ ∃ b t, tg_st s i = (b, b) :: t ∧ b < i ∧ s b = 2 ∧ bb i = nI b ∧ be b = nI i) ∨
  (s i = 4 ∧ lk i = 8 ∧ ∃ c, c < 4 ∧ fs i = nI c ∧ va i = nI c) ∨
  (s i = 5 ∧ lk i = 9 ∧ ∃ b c t, tg_st s i = (b, c) :: t ∧ bb i = nI c ∧ be c = nI i)
def tg_ops (s ob oc : Nat → Int32) (i : Nat) : Prop :=
  (tg_st s (i + 1)).length ≤ 4 ∧ oc i = nI (tg_st s (i + 1)).length ∧ ob i = tg_top (tg_st s (i + 1))
def tg_R (L : Nat) (inp lk tg fs sd ob oc be bb inq s va nu ya yb : Nat → Int32) : Prop :=
  L ≤ 20 ∧ inq = inp ∧ (∀ i, i < L → tg_ln s va nu ya yb lk tg fs sd be bb i) ∧ (∀ i, i < L → tg_ops s ob oc i)
def i_Rel (k : Nat) (u : SX) (v : SY) : Prop := match u, v with
  | (lc, sc, inp, lk, tg, fs, sd, ob, oc, be, bb, xv, xt, sp), (ln, hg, stp, la, en, inq, s, va, nu, ya, yb, pl, cs, ot, op, yv, yt, ct) => ∃ L, lc = nI L ∧ ln = nI L ∧ tg_R L inp lk tg fs sd ob oc be bb inq s va nu ya yb
theorem i_up {k : Nat} {u : SX} {v : SY} (h : i_Rel k u v) : i_Rel (k + 5) u v := h
theorem i_vc0 : wpX_init (fun u => wpY_init (fun v => i_Rel 0 u v)) :=
  ⟨0, rfl, rfl, by omega, rfl, fun i hi => absurd hi (by omega), fun i hi => absurd hi (by omega)⟩
section
variable {L : Nat} {sc : Int32} {inp lk tg fs sd ob oc be bb xv xt sp : Nat → Int32} {hg stp la en : Int32} {inq s va nu ya yb pl cs ot op yv yt ct : Nat → Int32}
theorem tg_R_va (R : tg_R L inp lk tg fs sd ob oc be bb inq s va nu ya yb) : tg_va s L := by
  intro i hi
  rcases R.2.2.1 i hi with h | h | h | ⟨h, _, b, t, e, _, sb, _⟩ | h | ⟨h, _, b, c, t, e, _⟩
  · exact Or.inr (Or.inr (Or.inr (Or.inl h.1)))
  · exact Or.inr (Or.inr (Or.inr (Or.inr h.1)))
  · exact Or.inl (Or.inl h.1)
  · exact Or.inr (Or.inl ⟨h, b, t, e, sb⟩)
  · exact Or.inl (Or.inr h.1)
  · exact Or.inr (Or.inr (Or.inl ⟨h, b, c, t, e⟩))
theorem tg_len (hL : L ≤ 20) (ho : ∀ i, i < L → tg_ops s ob oc i) : (tg_st s L).length ≤ 4 := by
  cases L with
  | zero => exact Nat.zero_le _
  | succ k => exact (ho k (by omega)).1
theorem tg_inner {post : Int32 → Prop} (hL : L ≤ 20) (ho : ∀ i, i < L → tg_ops s ob oc i) (h : post (tg_top (tg_st s L))) : wpX_innermostBlock post (nI L, sc, inp, lk, tg, fs, sd, ob, oc, be, bb, xv, xt, sp) := by
  cases L with
  | zero => exact br_t (by decide) h
  | succ k =>
    refine br_f (nI_nle (by omega) (by omega)) ⟨?_, ?_⟩
    · rw [nI_pred]; exact vp_in_nI (by omega) (by omega)
    · rw [nI_pred, nI_clamp (by omega), (ho k (by omega)).2.2]; exact h
theorem tg_ocnt {post : Int32 → Prop} (hL : L ≤ 20) (ho : ∀ i, i < L → tg_ops s ob oc i) (h : post (nI (tg_st s L).length)) : wpX_openCount post (nI L, sc, inp, lk, tg, fs, sd, ob, oc, be, bb, xv, xt, sp) := by
  cases L with
  | zero => exact br_t (by decide) h
  | succ k =>
    refine br_f (nI_nle (by omega) (by omega)) ⟨?_, ?_⟩
    · rw [nI_pred]; exact vp_in_nI (by omega) (by omega)
    · rw [nI_pred, nI_clamp (by omega), (ho k (by omega)).2.1]; exact h
theorem tg_uc {f : Nat → Int32} {k : Nat} {x : Int32} (h : k < 2 ^ 31) : upd f (nI k).toNatClampNeg x = upd f k x := by rw [nI_clamp h]
theorem tg_apX {post : Int32 → SX → Prop} {p0 p1 p2 : Int32} (hL : L < 20) (h : post (nI (L + 1)) (nI (L + 1), sc, inp, upd lk L p0, tg, fs, sd, upd ob L p1, upd oc L p2, be, bb, xv, xt, sp)) :
    wpX_appendLine post (nI L, sc, inp, lk, tg, fs, sd, ob, oc, be, bb, xv, xt, sp) p0 p1 p2 :=
  ⟨vp_in_nI hL (by omega), nm_r (tg_uc (by omega)) ⟨vp_in_nI hL (by omega), nm_r (tg_uc (by omega)) ⟨vp_in_nI hL (by omega), nm_r (tg_uc (by omega)) (nm_r (nI_1 L) h)⟩⟩⟩
theorem tg_apY {post : Int32 → SY → Prop} {p0 p1 p2 p3 p4 : Int32} (hL : L < 20) (h : post (nI (L + 1)) (nI (L + 1), hg, stp, la, en, inq, upd s L p0, upd va L p1, upd nu L p2, upd ya L p3, upd yb L p4, pl, cs, ot, op, yv, yt, ct)) :
    wpY_append post (nI L, hg, stp, la, en, inq, s, va, nu, ya, yb, pl, cs, ot, op, yv, yt, ct) p0 p1 p2 p3 p4 :=
  pk_eq L 20 (fun e => absurd e (by omega)) (fun _ => ⟨vp_in_nI hL (by omega), nm_r (tg_uc (by omega)) ⟨vp_in_nI hL (by omega), nm_r (tg_uc (by omega)) ⟨vp_in_nI hL (by omega), nm_r (tg_uc (by omega)) ⟨vp_in_nI hL (by omega), nm_r (tg_uc (by omega)) ⟨vp_in_nI hL (by omega), nm_r (tg_uc (by omega)) (nm_r (nI_1 L) h)⟩⟩⟩⟩⟩)
theorem tg_fuY {post : Int32 → SY → Prop} {p0 p1 p2 p3 p4 : Int32} (hL : L = 20) (h : post (-1000000002) (nI L, hg, stp, la, en, inq, s, va, nu, ya, yb, pl, cs, ot, op, yv, yt, ct)) :
    wpY_append post (nI L, hg, stp, la, en, inq, s, va, nu, ya, yb, pl, cs, ot, op, yv, yt, ct) p0 p1 p2 p3 p4 :=
  pk_eq L 20 (fun _ => h) (fun e => absurd hL e)
theorem tg_vX0 {x : Int32} {post : Int32 → Prop} (h : x < 0 ∨ nI 4 ≤ x) (hp : post 0) : wpX_isVariable post x := by
  cases h with
  | inl h => exact br_t h hp
  | inr h => exact br_c (fun _ => hp) (fun _ => br_t h hp)
theorem tg_vX1 {j : Nat} {post : Int32 → Prop} (h : j < 4) (hp : post 1) : wpX_isVariable post (nI j) :=
  br_f (nI_pos (by omega)) (br_f (nI_ge (b := 4) h (by decide)) hp)
theorem tg_34 {x : Int32} (h : nI 4 ≤ x) : 3 < x := Int32.lt_of_lt_of_le (by decide) h
theorem tg_vY0 {x : Int32} {post : Int32 → Prop} {u : SY} (h : x < 0 ∨ nI 4 ≤ x) (hp : post 0) : wpY_isVariable post u x := by
  obtain ⟨ln, hg, stp, la, en, inq, s, va, nu, ya, yb, pl, cs, ot, op, yv, yt, ct⟩ := u
  cases h with
  | inl h => exact br_t h hp
  | inr h => exact br_c (fun _ => hp) (fun _ => br_t (tg_34 h) hp)
theorem tg_vY1 {j : Nat} {post : Int32 → Prop} {u : SY} (h : j < 4) (hp : post 1) : wpY_isVariable post u (nI j) := by
  obtain ⟨ln, hg, stp, la, en, inq, s, va, nu, ya, yb, pl, cs, ot, op, yv, yt, ct⟩ := u
  exact br_f (nI_pos (by omega)) (br_f (nI_nlt (b := 3) (a := j) |> fun f => by
    intro z
    have := (nI_ltI (a := 3) (b := j) (by decide) (by omega)).mp z
    omega) hp)
/-- a line more -/
theorem tg_app {lk' tg' fs' sd' ob' oc' be' bb' s' va' nu' ya' yb' : Nat → Int32} (R : tg_R L inp lk tg fs sd ob oc be bb inq s va nu ya yb) (hL : L < 20)
    (hx : ∀ j, j < L → s' j = s j ∧ va' j = va j ∧ nu' j = nu j ∧ ya' j = ya j ∧ yb' j = yb j ∧ lk' j = lk j ∧ tg' j = tg j ∧ fs' j = fs j ∧ sd' j = sd j ∧ bb' j = bb j ∧ ob' j = ob j ∧ oc' j = oc j)
    (hb : ∀ j b c t, j < L → (s j = 3 ∨ s j = 5) → tg_st s j = (b, c) :: t → be' c = be c)
    (hn : tg_st s' L = tg_st s L → tg_ln s' va' nu' ya' yb' lk' tg' fs' sd' be' bb' L)
    (ho : tg_st s' L = tg_st s L → tg_ops s' ob' oc' L) : tg_R (L + 1) inp lk' tg' fs' sd' ob' oc' be' bb' inq s' va' nu' ya' yb' := by
  have hst : ∀ i, i ≤ L → tg_st s' i = tg_st s i := fun i hi => tg_st_ext i (fun j hj => (hx j (by omega)).1)
  refine ⟨by omega, R.2.1, fun i hi => ?_, fun i hi => ?_⟩
  · by_cases e : i = L
    · subst e; exact hn (hst i (Nat.le_refl _))
    · have hi : i < L := by omega
      obtain ⟨h1, h2, h3, h4, h5, h6, h7, h8, h9, h10, _⟩ := hx i hi
      have := R.2.2.1 i hi
      unfold tg_ln at this ⊢
      rw [h1, h2, h3, h4, h5, h6, h7, h8, h9, h10, hst i (by omega)]
      rcases this with h | h | h | ⟨a1, a2, b, t, e, bi, sb, a3, a4⟩ | h | ⟨a1, a2, b, c, t, e, a3, a4⟩
      · exact Or.inl h
      · exact Or.inr (Or.inl h)
      · exact Or.inr (Or.inr (Or.inl h))
      · exact Or.inr (Or.inr (Or.inr (Or.inl ⟨a1, a2, b, t, e, bi, by rw [(hx b (by omega)).1]; exact sb, a3, by rw [hb i b b t hi (Or.inl a1) e]; exact a4⟩)))
      · exact Or.inr (Or.inr (Or.inr (Or.inr (Or.inl h))))
      · exact Or.inr (Or.inr (Or.inr (Or.inr (Or.inr ⟨a1, a2, b, c, t, e, a3, by rw [hb i b c t hi (Or.inr a1) e]; exact a4⟩))))
  · by_cases e : i = L
    · subst e; exact ho (hst i (Nat.le_refl _))
    · have hi : i < L := by omega
      obtain ⟨_, _, _, _, _, _, _, _, _, _, h11, h12⟩ := hx i hi
      have := R.2.2.2 i hi
      unfold tg_ops at this ⊢
      rw [h11, h12, hst (i + 1) (by omega)]
      exact this
end

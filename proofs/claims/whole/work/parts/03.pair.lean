def tg_pl (p : Nat → Int32) : List (Nat × Nat) → Prop
  | [] => True
  | e :: t => p t.length = nI e.1 ∧ tg_pl p t
theorem tg_pl_u {p : Nat → Int32} {m : Nat} {x : Int32} : ∀ l : List (Nat × Nat), tg_pl p l → l.length ≤ m → tg_pl (upd p m x) l := by
  intro l
  induction l with
  | nil => intro _ _; trivial
  | cons e t ih =>
    intro h hm
    have hm' : t.length + 1 ≤ m := hm
    exact ⟨by rw [pk_un (by omega)]; exact h.1, ih h.2 (by omega)⟩
/-- what pair has found before line i -/
def tg_PF (s : Nat → Int32) (i : Nat) (pl cs ot op : Nat → Int32) : Prop :=
  tg_pl pl (tg_st s i) ∧ (∀ e, e ∈ tg_st s i → ot e.1 = (if e.2 = e.1 then -1 else nI e.2)) ∧
  (∀ j b c t, j < i → s j = 5 → tg_st s j = (b, c) :: t → op j = nI b ∧ cs b = nI j ∧ ot b = (if c = b then -1 else nI c)) ∧
  (∀ j b c t, j < i → s j = 3 → tg_st s j = (b, c) :: t → op j = nI b)
theorem tg_hd {s : Nat → Int32} {L j b c : Nat} {t : List (Nat × Nat)} (h : tg_va s L) (hj : j ≤ L) (e : tg_st s j = (b, c) :: t) : b ≤ c ∧ c < j ∧ tg_st s b = t ∧ (s b = 2 ∨ s b = 4) ∧ (c = b ∨ (s c = 3 ∧ s b = 2 ∧ tg_st s c = (b, b) :: t)) ∧ tg_wf s b t := by
  have := tg_wf_st h j hj
  rw [e] at this
  exact this
theorem tg_PF_u {s pl cs ot op : Nat → Int32} {L i : Nat} {x y z : Int32} (h : tg_va s L) (hi : i ≤ L) (P : tg_PF s i pl cs ot op) : tg_PF s i pl (upd cs i x) (upd ot i y) (upd op i z) := by
  obtain ⟨p1, p2, p3, p4⟩ := P
  refine ⟨p1, fun e he => ?_, fun j b c t hj s5 e => ?_, fun j b c t hj s3 e => ?_⟩
  · have := tg_wf_mem _ _ (tg_wf_st h i hi) e he
    rw [pk_un (by omega)]; exact p2 e he
  · have := tg_hd h (by omega) e
    rw [pk_un (by omega), pk_un (by omega), pk_un (by omega)]; exact p3 j b c t hj s5 e
  · rw [pk_un (by omega)]; exact p4 j b c t hj s3 e
theorem tg_PF_v {s pl cs ot op : Nat → Int32} {L i : Nat} {x y : Int32} (h : tg_va s L) (hi : i ≤ L) (P : tg_PF s i pl cs ot op) : tg_PF s i pl (upd cs i x) (upd ot i y) op := by
  obtain ⟨p1, p2, p3, p4⟩ := P
  refine ⟨p1, fun e he => ?_, fun j b c t hj s5 e => ?_, p4⟩
  · have := tg_wf_mem _ _ (tg_wf_st h i hi) e he
    rw [pk_un (by omega)]; exact p2 e he
  · have := tg_hd h (by omega) e
    rw [pk_un (by omega), pk_un (by omega)]; exact p3 j b c t hj s5 e
theorem tg_PF_n {s pl cs ot op : Nat → Int32} {i : Nat} (n : s i = 0 ∨ s i = 1) (P : tg_PF s i pl cs ot op) : tg_PF s (i + 1) pl cs ot op := by
  obtain ⟨p1, p2, p3, p4⟩ := P
  have q : ∀ {x : Int32}, s i = x → x = 0 ∨ x = 1 := fun e => by rw [← e]; exact n
  refine ⟨by rw [tg_st_n n]; exact p1, by rw [tg_st_n n]; exact p2, fun j b c t hj s5 e => ?_, fun j b c t hj s3 e => ?_⟩
  · by_cases ji : j = i
    · subst ji; exact absurd (q s5) (by decide)
    · exact p3 j b c t (by omega) s5 e
  · by_cases ji : j = i
    · subst ji; exact absurd (q s3) (by decide)
    · exact p4 j b c t (by omega) s3 e
theorem tg_PF_o {s pl cs ot op : Nat → Int32} {i : Nat} (o : s i = 2 ∨ s i = 4) (oi : ot i = -1) (P : tg_PF s i pl cs ot op) : tg_PF s (i + 1) (upd pl (tg_st s i).length (nI i)) cs ot op := by
  obtain ⟨p1, p2, p3, p4⟩ := P
  have q : ∀ {x : Int32}, s i = x → x = 2 ∨ x = 4 := fun e => by rw [← e]; exact o
  refine ⟨?_, ?_, fun j b c t hj s5 e => ?_, fun j b c t hj s3 e => ?_⟩
  · rw [tg_st_o o]
    exact ⟨pk_us, tg_pl_u _ p1 (Nat.le_refl _)⟩
  · rw [tg_st_o o]
    intro e he
    rcases List.mem_cons.mp he with rfl | he
    · rw [if_pos rfl]; exact oi
    · exact p2 e he
  · by_cases ji : j = i
    · subst ji; exact absurd (q s5) (by decide)
    · exact p3 j b c t (by omega) s5 e
  · by_cases ji : j = i
    · subst ji; exact absurd (q s3) (by decide)
    · exact p4 j b c t (by omega) s3 e
theorem tg_PF_w {s pl cs ot op : Nat → Int32} {L i b : Nat} {t : List (Nat × Nat)} (h : tg_va s L) (hi : i < L) (w : s i = 3) (e : tg_st s i = (b, b) :: t) (oi : op i = nI b) (P : tg_PF s i pl cs ot op) : tg_PF s (i + 1) pl cs (upd ot b (nI i)) op := by
  obtain ⟨p1, p2, p3, p4⟩ := P
  have hd := tg_hd h (by omega) e
  have ht := tg_wf_mem t b hd.2.2.2.2.2
  have nv : ∀ j b' c' t', j < i → s j = 5 → tg_st s j = (b', c') :: t' → b' ≠ b := fun j b' c' t' hj s5 e' => by
    have := (tg_never h (Or.inr s5) e' i hj (by omega) (b, b) (by rw [e]; exact List.mem_cons_self ..)).2 s5
    exact fun z => this z.symm
  rw [e] at p1 p2
  refine ⟨?_, ?_, fun j b' c' t' hj s5 e' => ?_, fun j b' c' t' hj s3 e' => ?_⟩
  · rw [tg_st_w w e]; exact p1
  · rw [tg_st_w w e]
    intro e' he
    rcases List.mem_cons.mp he with rfl | he
    · rw [if_neg (by show ¬ i = b; omega)]; exact pk_us
    · have := ht e' he
      rw [pk_un (by omega)]; exact p2 e' (List.mem_cons_of_mem _ he)
  · by_cases ji : j = i
    · subst ji; exact absurd (w.symm.trans s5) (by decide)
    · rw [pk_un (nv j b' c' t' (by omega) s5 e')]; exact p3 j b' c' t' (by omega) s5 e'
  · by_cases ji : j = i
    · subst ji; rw [e] at e'; cases e'; exact oi
    · exact p4 j b' c' t' (by omega) s3 e'
theorem tg_PF_c {s pl cs ot op : Nat → Int32} {L i b c : Nat} {t : List (Nat × Nat)} (h : tg_va s L) (hi : i < L) (w : s i = 5) (e : tg_st s i = (b, c) :: t) (oi : op i = nI b) (P : tg_PF s i pl cs ot op) : tg_PF s (i + 1) pl (upd cs b (nI i)) ot op := by
  obtain ⟨p1, p2, p3, p4⟩ := P
  have nv : ∀ j b' c' t', j < i → s j = 5 → tg_st s j = (b', c') :: t' → b' ≠ b := fun j b' c' t' hj s5 e' => by
    have := (tg_never h (Or.inr s5) e' i hj (by omega) (b, c) (by rw [e]; exact List.mem_cons_self ..)).2 s5
    exact fun z => this z.symm
  rw [e] at p1 p2
  refine ⟨?_, ?_, fun j b' c' t' hj s5 e' => ?_, fun j b' c' t' hj s3 e' => ?_⟩
  · rw [tg_st_c w, e]; exact p1.2
  · rw [tg_st_c w, e]
    exact fun e' he => p2 e' (List.mem_cons_of_mem _ he)
  · by_cases ji : j = i
    · subst ji; rw [e] at e'; cases e'
      exact ⟨oi, pk_us, p2 (b, c) (List.mem_cons_self ..)⟩
    · rw [pk_un (nv j b' c' t' (by omega) s5 e')]; exact p3 j b' c' t' (by omega) s5 e'
  · by_cases ji : j = i
    · subst ji; exact absurd (w.symm.trans s3) (by decide)
    · exact p4 j b' c' t' (by omega) s3 e'
section
variable {L : Nat} {stp la en : Int32} {inq s va nu ya yb yv yt ct : Nat → Int32}
theorem tg_pairL (h : tg_va s L) (hL : L ≤ 20) (hlen : ∀ i, i ≤ L → (tg_st s i).length ≤ 4) : ∀ (d i : Nat) (pl cs ot op : Nat → Int32), i + d = L → tg_PF s i pl cs ot op →
    ∃ pl' cs' ot' op', tg_PF s L pl' cs' ot' op' ∧ ∀ post : SY → Prop, post (nI L, nI (tg_st s L).length, stp, la, en, inq, s, va, nu, ya, yb, pl', cs', ot', op', yv, yt, ct) →
      wY_pair_7 post (nI L) stp la en (d + 1) (nI i) (nI (tg_st s i).length) inq s va nu ya yb pl cs ot op yv yt ct := by
  intro d
  induction d with
  | zero =>
    intro i pl cs ot op hi P
    have : i = L := by omega
    subst this
    exact ⟨pl, cs, ot, op, P, fun post hp => br_t (nI_le (Nat.le_refl _) (by omega)) hp⟩
  | succ d ih =>
    intro i pl cs ot op hi P
    have hin : vp_in (nI i) 20 := vp_in_nI (by omega) (by omega)
    have hlt : ¬ nI L ≤ nI i := nI_ge (by omega) (by omega)
    have hat : s (nI i).toNatClampNeg = s i := by rw [nI_clamp (by omega)]
    have hu : ∀ (f : Nat → Int32) (x : Int32), upd f (nI i).toNatClampNeg x = upd f i x := fun f x => tg_uc (by omega)
    have hl := hlen i (by omega)
    rcases h i (by omega) with o | ⟨w, b, t, e, sb⟩ | ⟨c5, b, c, t, e⟩ | n
    · obtain ⟨pl', cs', ot', op', hP, hw⟩ := ih (i + 1) _ _ _ _ (by omega) (tg_PF_o o pk_us (tg_PF_v (x := -1) (y := -1) h (by omega) P))
      rw [tg_st_o o, List.length_cons] at hw
      have hh : vp_in (nI (tg_st s i).length) 20 := vp_in_nI (by omega) (by omega)
      have hr : ∀ post : SY → Prop, post (nI L, nI (tg_st s L).length, stp, la, en, inq, s, va, nu, ya, yb, pl', cs', ot', op', yv, yt, ct) → wY_pair_49 post (wY_pair_7 post (nI L) stp la en (d + 1)) (nI i) (nI L) (nI (tg_st s i).length) stp la en inq s va nu ya yb pl (upd cs i (-1)) (upd ot i (-1)) op yv yt ct :=
        fun post hp => ⟨hh, nm_r (tg_uc (by omega)) (nm_r (nI_1 _) (nm_r (nI_1 i) (hw post hp)))⟩
      refine ⟨pl', cs', ot', op', hP, fun post hp => br_f hlt ⟨hin, nm_r (hu _ _) ⟨hin, nm_r (hu _ _) ⟨hin, ?_⟩⟩⟩⟩
      by_cases h2 : s i = 2
      · exact br_t (hat.trans h2) (hr post hp)
      · have h4 : s i = 4 := o.resolve_left h2
        exact br_f (by rw [hat]; exact h2) ⟨hin, br_t (hat.trans h4) (hr post hp)⟩
    · obtain ⟨p1, _⟩ := id P
      rw [e] at p1
      have hb := tg_hd h (by omega) e
      have hl' : t.length + 1 ≤ 4 := by rw [e] at hl; exact hl
      obtain ⟨pl', cs', ot', op', hP, hw⟩ := ih (i + 1) _ _ _ _ (by omega) (tg_PF_w h (by omega) w e pk_us (tg_PF_u (x := -1) (y := -1) (z := nI b) h (by omega) P))
      rw [tg_st_w w e, List.length_cons] at hw
      rw [e, List.length_cons]
      have e1 : nI (t.length + 1) - 1 = nI t.length := nI_pred _
      have e2 : pl (nI (t.length + 1) - 1).toNatClampNeg = nI b := by rw [e1, nI_clamp (by omega)]; exact p1.1
      have i1 : vp_in (nI (t.length + 1) - 1) 20 := by rw [e1]; exact vp_in_nI (by omega) (by omega)
      have i2 : vp_in (pl (nI (t.length + 1) - 1).toNatClampNeg) 20 := by rw [e2]; exact vp_in_nI (by omega) (by omega)
      refine ⟨pl', cs', ot', op', hP, fun post hp => br_f hlt ⟨hin, nm_r (hu _ _) ⟨hin, nm_r (hu _ _) ⟨hin, br_f (by rw [hat, w]; decide) ⟨hin, br_f (by rw [hat, w]; decide) ⟨hin, br_t (hat.trans w) ⟨i1, hin, nm_r (e' := upd op i (nI b)) (by rw [hu, e2]) ⟨i1, i2, nm_r (e' := upd (upd ot i (-1)) b (nI i)) (by rw [e2]; exact tg_uc (by omega)) (nm_r (nI_1 i) (hw post hp))⟩⟩⟩⟩⟩⟩⟩⟩
    · obtain ⟨p1, _⟩ := id P
      rw [e] at p1
      have hb := tg_hd h (by omega) e
      have hl' : t.length + 1 ≤ 4 := by rw [e] at hl; exact hl
      obtain ⟨pl', cs', ot', op', hP, hw⟩ := ih (i + 1) _ _ _ _ (by omega) (tg_PF_c h (by omega) c5 e pk_us (tg_PF_u (x := -1) (y := -1) (z := nI b) h (by omega) P))
      rw [tg_st_c c5, e, List.tail_cons] at hw
      rw [e, List.length_cons]
      have e2 : pl (nI t.length).toNatClampNeg = nI b := by rw [nI_clamp (by omega)]; exact p1.1
      have i1 : vp_in (nI t.length) 20 := vp_in_nI (by omega) (by omega)
      have i2 : vp_in (pl (nI t.length).toNatClampNeg) 20 := by rw [e2]; exact vp_in_nI (by omega) (by omega)
      refine ⟨pl', cs', ot', op', hP, fun post hp => br_f hlt ⟨hin, nm_r (hu _ _) ⟨hin, nm_r (hu _ _) ⟨hin, br_f (by rw [hat, c5]; decide) ⟨hin, br_f (by rw [hat, c5]; decide) ⟨hin, br_f (by rw [hat, c5]; decide) ⟨hin, br_t (hat.trans c5) (nm_r (nI_pred _) ⟨i1, hin, nm_r (e' := upd op i (nI b)) (by rw [hu, e2]) ⟨i1, i2, nm_r (e' := upd (upd cs i (-1)) b (nI i)) (by rw [e2]; exact tg_uc (by omega)) (nm_r (nI_1 i) (hw post hp))⟩⟩)⟩⟩⟩⟩⟩⟩⟩
    · obtain ⟨pl', cs', ot', op', hP, hw⟩ := ih (i + 1) _ _ _ _ (by omega) (tg_PF_n n (tg_PF_v (x := -1) (y := -1) h (by omega) P))
      rw [tg_st_n n] at hw
      have q : ∀ x : Int32, x ≠ 0 → x ≠ 1 → ¬ s (nI i).toNatClampNeg = x := fun x h0 h1 z => by
        rw [hat] at z
        rcases n with n | n
        · exact h0 (z.symm.trans n)
        · exact h1 (z.symm.trans n)
      refine ⟨pl', cs', ot', op', hP, fun post hp => br_f hlt ⟨hin, nm_r (hu _ _) ⟨hin, nm_r (hu _ _) ⟨hin, br_f (q 2 (by decide) (by decide)) ⟨hin, br_f (q 4 (by decide) (by decide)) ⟨hin, br_f (q 3 (by decide) (by decide)) ⟨hin, br_f (q 5 (by decide) (by decide)) (nm_r (nI_1 i) (hw post hp))⟩⟩⟩⟩⟩⟩⟩
end
section
variable {L : Nat} {inp lk tg fs sd ob oc be bb inq s va nu ya yb : Nat → Int32}
theorem tg_R_len (R : tg_R L inp lk tg fs sd ob oc be bb inq s va nu ya yb) : ∀ i, i ≤ L → (tg_st s i).length ≤ 4 :=
  fun i hi => tg_len (L := i) (by have := R.1; omega) (fun j hj => R.2.2.2 j (by omega))
theorem tg_pair (R : tg_R L inp lk tg fs sd ob oc be bb inq s va nu ya yb) (hg stp la en : Int32) (pl cs ot op yv yt ct : Nat → Int32) :
    ∃ pl' cs' ot' op', tg_PF s L pl' cs' ot' op' ∧ ∀ post : SY → Prop, post (nI L, nI (tg_st s L).length, stp, la, en, inq, s, va, nu, ya, yb, pl', cs', ot', op', yv, yt, ct) → wpY_pair post (nI L, hg, stp, la, en, inq, s, va, nu, ya, yb, pl, cs, ot, op, yv, yt, ct) := by
  obtain ⟨pl', cs', ot', op', hP, hw⟩ := tg_pairL (stp := stp) (la := la) (en := en) (inq := inq) (va := va) (nu := nu) (ya := ya) (yb := yb) (yv := yv) (yt := yt) (ct := ct) (tg_R_va R) R.1 (tg_R_len R) L 0 pl cs ot op (by omega) ⟨trivial, fun e he => (by cases he), fun j b c t hj => absurd hj (by omega), fun j b c t hj => absurd hj (by omega)⟩
  exact ⟨pl', cs', ot', op', hP, fun post hp => ⟨L + 1, hw post hp⟩⟩
end

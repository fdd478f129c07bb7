section
theorem pk_us {f : Nat → Int32} {k : Nat} {x : Int32} : upd f k x k = x := if_pos rfl
theorem pk_un {f : Nat → Int32} {k j : Nat} {x : Int32} (h : j ≠ k) : upd f k x j = f j := if_neg h
theorem pk_sub {a b : Nat} (h : b ≤ a) : nI a - nI b = nI (a - b) := by
  obtain ⟨c, rfl⟩ : ∃ c, a = c + b := ⟨a - b, by omega⟩
  rw [← nI_add, Int32.add_sub_cancel, Nat.add_sub_cancel]
theorem pk_ix (x : Int32) {n : Nat} (hn : n < 2 ^ 31) : x < 0 ∨ nI n ≤ x ∨ ∃ j : Nat, j < n ∧ x = nI j := by
  by_cases h : x < 0
  · exact Or.inl h
  · obtain ⟨j, hj, rfl⟩ := nI_of h
    by_cases h2 : j < n
    · exact Or.inr (Or.inr ⟨j, h2, rfl⟩)
    · exact Or.inr (Or.inl (nI_le (by omega) hj))
theorem pk_le {x y : Int32} {A B : Prop} (a b : Nat) (f : a ≤ b → A) (g : b < a → B) (hx : x = nI a := by rfl) (hy : y = nI b := by rfl) (ha : a < 2 ^ 31 := by omega) (hb : b < 2 ^ 31 := by omega) : (x ≤ y → A) ∧ (¬ x ≤ y → B) := by
  subst hx hy
  rw [nI_leI ha hb]
  exact ⟨f, fun z => g (by omega)⟩
theorem pk_lt {x y : Int32} {A B : Prop} (a b : Nat) (f : a < b → A) (g : b ≤ a → B) (hx : x = nI a := by rfl) (hy : y = nI b := by rfl) (ha : a < 2 ^ 31 := by omega) (hb : b < 2 ^ 31 := by omega) : (x < y → A) ∧ (¬ x < y → B) := by
  subst hx hy
  rw [nI_ltI ha hb]
  exact ⟨f, fun z => g (by omega)⟩
theorem pk_eq {x y : Int32} {A B : Prop} (a b : Nat) (f : a = b → A) (g : a ≠ b → B) (hx : x = nI a := by rfl) (hy : y = nI b := by rfl) (ha : a < 2 ^ 31 := by omega) (hb : b < 2 ^ 31 := by omega) : (x = y → A) ∧ (¬ x = y → B) := by
  subst hx hy
  rw [nI_eq ha hb]
  exact ⟨f, g⟩
theorem pk_in {x : Int32} (n N : Nat) (h : n < N) (hx : x = nI n := by rfl) (hN : N < 2 ^ 31 := by omega) : vp_in x N := by
  subst hx
  exact vp_in_nI h hN
theorem pk_cl {x : Int32} (n : Nat) (hx : x = nI n := by rfl) (h : n < 2 ^ 31 := by omega) : x.toNatClampNeg = n := by
  subst hx
  exact nI_clamp h
/-- the stack before line i: (the line of the when or repeat, the line that began its present block) -/
def tg_st (s : Nat → Int32) : Nat → List (Nat × Nat)
  | 0 => []
  | i + 1 => if s i = 2 ∨ s i = 4 then (i, i) :: tg_st s i
    else if s i = 3 then (match tg_st s i with | [] => [] | e :: t => (e.1, i) :: t)
    else if s i = 5 then (tg_st s i).tail else tg_st s i
theorem tg_st_o {s : Nat → Int32} {i : Nat} (h : s i = 2 ∨ s i = 4) : tg_st s (i + 1) = (i, i) :: tg_st s i := by
  rw [tg_st, if_pos h]
theorem tg_st_w {s : Nat → Int32} {i b c : Nat} {t : List (Nat × Nat)} (h : s i = 3) (e : tg_st s i = (b, c) :: t) : tg_st s (i + 1) = (b, i) :: t := by
  rw [tg_st, if_neg (by rw [h]; decide), if_pos h, e]
theorem tg_st_c {s : Nat → Int32} {i : Nat} (h : s i = 5) : tg_st s (i + 1) = (tg_st s i).tail := by
  rw [tg_st, if_neg (by rw [h]; decide), if_neg (by rw [h]; decide), if_pos h]
theorem tg_st_n {s : Nat → Int32} {i : Nat} (h : s i = 0 ∨ s i = 1) : tg_st s (i + 1) = tg_st s i := by
  rw [tg_st]
  cases h with
  | inl h => rw [if_neg (by rw [h]; decide), if_neg (by rw [h]; decide), if_neg (by rw [h]; decide)]
  | inr h => rw [if_neg (by rw [h]; decide), if_neg (by rw [h]; decide), if_neg (by rw [h]; decide)]
theorem tg_st_ext {s s' : Nat → Int32} : ∀ i, (∀ j, j < i → s' j = s j) → tg_st s' i = tg_st s i := by
  intro i
  induction i with
  | zero => intro _; rfl
  | succ i ih =>
    intro h
    rw [tg_st, tg_st, ih (fun j hj => h j (by omega)), h i (by omega)]
/-- the lines below L end only what stands -/
def tg_va (s : Nat → Int32) (L : Nat) : Prop := ∀ i, i < L →
  ((s i = 2 ∨ s i = 4) ∨ (s i = 3 ∧ ∃ b t, tg_st s i = (b, b) :: t ∧ s b = 2) ∨ (s i = 5 ∧ ∃ b c t, tg_st s i = (b, c) :: t) ∨ (s i = 0 ∨ s i = 1))
def tg_wf (s : Nat → Int32) : Nat → List (Nat × Nat) → Prop
  | _, [] => True
  | i, (b, c) :: t => b ≤ c ∧ c < i ∧ tg_st s b = t ∧ (s b = 2 ∨ s b = 4) ∧ (c = b ∨ (s c = 3 ∧ s b = 2 ∧ tg_st s c = (b, b) :: t)) ∧ tg_wf s b t
theorem tg_wf_up {s : Nat → Int32} {l : List (Nat × Nat)} {i i' : Nat} (h : tg_wf s i l) (hi : i ≤ i') : tg_wf s i' l := by
  cases l with
  | nil => trivial
  | cons e t =>
    obtain ⟨b, c⟩ := e
    obtain ⟨h1, h2, h3⟩ := h
    exact ⟨h1, by omega, h3⟩
theorem tg_wf_st {s : Nat → Int32} {L : Nat} (h : tg_va s L) : ∀ i, i ≤ L → tg_wf s i (tg_st s i) := by
  intro i
  induction i with
  | zero => intro _; trivial
  | succ i ih =>
    intro hi
    have ih := ih (by omega)
    rcases h i (by omega) with o | ⟨w, b, t, e, sb⟩ | ⟨c5, b, c, t, e⟩ | n
    · rw [tg_st_o o]
      exact ⟨Nat.le_refl _, by omega, rfl, o, Or.inl rfl, ih⟩
    · rw [tg_st_w w e]
      rw [e] at ih
      obtain ⟨h1, h2, h3, h4, h5, h6⟩ := ih
      exact ⟨by omega, by omega, h3, h4, Or.inr ⟨w, sb, e⟩, h6⟩
    · rw [tg_st_c c5]
      rw [e] at ih ⊢
      obtain ⟨h1, h2, h3, h4, h5, h6⟩ := ih
      exact tg_wf_up h6 (by omega)
    · rw [tg_st_n n]
      exact tg_wf_up ih (by omega)
theorem tg_wf_mem {s : Nat → Int32} : ∀ (l : List (Nat × Nat)) (i : Nat), tg_wf s i l → ∀ e, e ∈ l → e.1 ≤ e.2 ∧ e.2 < i := by
  intro l
  induction l with
  | nil => intro i _ e he; cases he
  | cons a t ih =>
    intro i h e he
    obtain ⟨b, c⟩ := a
    obtain ⟨h1, h2, h3, h4, h5, h6⟩ := h
    rcases List.mem_cons.mp he with rfl | he
    · exact ⟨h1, h2⟩
    · have := ih b h6 e he
      exact ⟨this.1, by omega⟩
/-- what was ended at line j is never on the stack again -/
theorem tg_never {s : Nat → Int32} {L j b c : Nat} {t : List (Nat × Nat)} (h : tg_va s L) (hs : s j = 3 ∨ s j = 5) (ej : tg_st s j = (b, c) :: t) :
    ∀ i, j < i → i ≤ L → ∀ e, e ∈ tg_st s i → e.2 ≠ c ∧ (s j = 5 → e.1 ≠ b) := by
  intro i hji
  induction i with
  | zero => omega
  | succ i ih =>
    intro hi e he
    have wj := tg_wf_st h j (by omega)
    rw [ej] at wj
    obtain ⟨h1, h2, h3, h4, h5, h6⟩ := wj
    have ht := tg_wf_mem t b h6
    by_cases hij : i = j
    · subst hij
      cases hs with
      | inl s3 =>
        rw [tg_st_w s3 ej] at he
        rcases List.mem_cons.mp he with rfl | he
        · exact ⟨by show i ≠ c; omega, fun s5 => absurd (s3.symm.trans s5) (by decide)⟩
        · have := ht e he
          exact ⟨by omega, fun _ => by omega⟩
      | inr s5 =>
        rw [tg_st_c s5, ej] at he
        have := ht e he
        exact ⟨by omega, fun _ => by omega⟩
    · have ih := ih (by omega) (by omega)
      rcases h i (by omega) with o | ⟨w, b', t', e', sb⟩ | ⟨c5, b', c', t', e'⟩ | n
      · rw [tg_st_o o] at he
        rcases List.mem_cons.mp he with rfl | he
        · exact ⟨by show i ≠ c; omega, fun _ => by show i ≠ b; omega⟩
        · exact ih e he
      · rw [tg_st_w w e'] at he
        rw [e'] at ih
        rcases List.mem_cons.mp he with rfl | he
        · exact ⟨by show i ≠ c; omega, fun s5 => (ih (b', b') (List.mem_cons_self ..)).2 s5⟩
        · exact ih e (List.mem_cons_of_mem _ he)
      · rw [tg_st_c c5, e'] at he
        rw [e'] at ih
        exact ih e (List.mem_cons_of_mem _ he)
      · rw [tg_st_n n] at he
        exact ih e he
/-- what is on the stack stays, or is ended -/
theorem tg_stay {s : Nat → Int32} {L m b c : Nat} (h : tg_va s L) (hm : (b, c) ∈ tg_st s m) :
    ∀ i, m ≤ i → i ≤ L → ((b, c) ∈ tg_st s i ∨ ∃ j t, m ≤ j ∧ j < i ∧ (s j = 3 ∨ s j = 5) ∧ tg_st s j = (b, c) :: t) := by
  intro i hmi
  induction i with
  | zero => intro _; have : m = 0 := by omega
            subst this; exact Or.inl hm
  | succ i ih =>
    intro hi
    by_cases e : m = i + 1
    · subst e; exact Or.inl hm
    · rcases ih (by omega) (by omega) with hin | ⟨j, t, h1, h2, h3, h4⟩
      · rcases h i (by omega) with o | ⟨w, b', t', e', sb⟩ | ⟨c5, b', c', t', e'⟩ | n
        · rw [tg_st_o o]; exact Or.inl (List.mem_cons_of_mem _ hin)
        · rw [e'] at hin
          rcases List.mem_cons.mp hin with q | hin
          · exact Or.inr ⟨i, t', by omega, by omega, Or.inl w, by rw [e', q]⟩
          · rw [tg_st_w w e']; exact Or.inl (List.mem_cons_of_mem _ hin)
        · rw [e'] at hin
          rcases List.mem_cons.mp hin with q | hin
          · exact Or.inr ⟨i, t', by omega, by omega, Or.inr c5, by rw [e', q]⟩
          · rw [tg_st_c c5, e']; exact Or.inl hin
        · rw [tg_st_n n]; exact Or.inl hin
      · exact Or.inr ⟨j, t, h1, by omega, h3, h4⟩
/-- where the stack is empty at L, a block is ended -/
theorem tg_ends {s : Nat → Int32} {L b c : Nat} (h : tg_va s L) (h0 : tg_st s L = []) (hc : c < L) (hm : (b, c) ∈ tg_st s (c + 1)) :
    ∃ j t, c < j ∧ j < L ∧ (s j = 3 ∨ s j = 5) ∧ tg_st s j = (b, c) :: t := by
  rcases tg_stay h hm L (by omega) (Nat.le_refl _) with hin | ⟨j, t, h1, h2, h3, h4⟩
  · rw [h0] at hin; cases hin
  · exact ⟨j, t, by omega, h2, h3, h4⟩
end
section
def tg_top : List (Nat × Nat) → Int32
  | [] => -1
  | e :: _ => nI e.2
/-- line i as both hold it -/
def tg_ln (s va nu ya yb lk tg fs sd be bb : Nat → Int32) (i : Nat) : Prop :=
  (s i = 0 ∧ lk i = 5 ∧ fs i = nu i ∧ ∃ v, v < 4 ∧ tg i = nI v ∧ va i = nI v) ∨
  (s i = 1 ∧ ∃ k v a b, k < 5 ∧ v < 4 ∧ a < 4 ∧ b < 4 ∧ lk i = nI k ∧ nu i = nI k ∧ tg i = nI v ∧ va i = nI v ∧ fs i = nI a ∧ ya i = nI a ∧ sd i = nI b ∧ yb i = nI b) ∨
  (s i = 2 ∧ lk i = 6 ∧ ∃ c, c < 4 ∧ fs i = nI c ∧ va i = nI c) ∨
  (s i = 3 ∧ lk i = 7 ∧ ∃ b t, tg_st s i = (b, b) :: t ∧ b < i ∧ s b = 2 ∧ bb i = nI b ∧ be b = nI i) ∨
  (s i = 4 ∧ lk i = 8 ∧ ∃ c, c < 4 ∧ fs i = nI c ∧ va i = nI c) ∨
  (s i = 5 ∧ lk i = 9 ∧ ∃ b c t, tg_st s i = (b, c) :: t ∧ bb i = nI c ∧ be c = nI i)
def tg_ops (s ob oc : Nat → Int32) (i : Nat) : Prop :=
  (tg_st s (i + 1)).length ≤ 4 ∧ oc i = nI (tg_st s (i + 1)).length ∧ ob i = tg_top (tg_st s (i + 1))
def tg_R (L : Nat) (inp lk tg fs sd ob oc be bb inq s va nu ya yb : Nat → Int32) : Prop :=
  L ≤ 20 ∧ inq = inp ∧ (∀ i, i < L → tg_ln s va nu ya yb lk tg fs sd be bb i) ∧ (∀ i, i < L → tg_ops s ob oc i)
def i_Rel (k : Nat) (u : SX) (v : SY) : Prop := match u, v with
  | (lc, sc, inp, lk, tg, fs, sd, ob, oc, be, bb, xv, xt, sp), (ln, hg, stp, la, en, inq, s, va, nu, ya, yb, pl, cs, ot, op, yv, yt, ct) => ∃ L, lc = nI L ∧ ln = nI L ∧ tg_R L inp lk tg fs sd ob oc be bb inq s va nu ya yb
theorem i_up {k : Nat} {u : SX} {v : SY} (h : i_Rel k u v) : i_Rel (k + 5) u v := h
theorem i_vc0 : wpX_init (fun u => wpY_init (fun v => i_Rel 0 u v)) :=
  ⟨0, rfl, rfl, by omega, rfl, fun i hi => absurd hi (by omega), fun i hi => absurd hi (by omega)⟩
section
variable {L : Nat} {sc : Int32} {inp lk tg fs sd ob oc be bb xv xt sp : Nat → Int32} {hg stp la en : Int32} {inq s va nu ya yb pl cs ot op yv yt ct : Nat → Int32}
theorem tg_R_va (R : tg_R L inp lk tg fs sd ob oc be bb inq s va nu ya yb) : tg_va s L := by
  intro i hi
  rcases R.2.2.1 i hi with h | h | h | ⟨h, _, b, t, e, _, sb, _⟩ | h | ⟨h, _, b, c, t, e, _⟩
  · exact Or.inr (Or.inr (Or.inr (Or.inl h.1)))
  · exact Or.inr (Or.inr (Or.inr (Or.inr h.1)))
  · exact Or.inl (Or.inl h.1)
  · exact Or.inr (Or.inl ⟨h, b, t, e, sb⟩)
  · exact Or.inl (Or.inr h.1)
  · exact Or.inr (Or.inr (Or.inl ⟨h, b, c, t, e⟩))
theorem tg_len (hL : L ≤ 20) (ho : ∀ i, i < L → tg_ops s ob oc i) : (tg_st s L).length ≤ 4 := by
  cases L with
  | zero => exact Nat.zero_le _
  | succ k => exact (ho k (by omega)).1
theorem tg_inner {post : Int32 → Prop} (hL : L ≤ 20) (ho : ∀ i, i < L → tg_ops s ob oc i) (h : post (tg_top (tg_st s L))) : wpX_innermostBlock post (nI L, sc, inp, lk, tg, fs, sd, ob, oc, be, bb, xv, xt, sp) := by
  cases L with
  | zero => exact br_t (by decide) h
  | succ k =>
    refine br_f (nI_nle (by omega) (by omega)) ⟨?_, ?_⟩
    · rw [nI_pred]; exact vp_in_nI (by omega) (by omega)
    · rw [nI_pred, nI_clamp (by omega), (ho k (by omega)).2.2]; exact h
theorem tg_ocnt {post : Int32 → Prop} (hL : L ≤ 20) (ho : ∀ i, i < L → tg_ops s ob oc i) (h : post (nI (tg_st s L).length)) : wpX_openCount post (nI L, sc, inp, lk, tg, fs, sd, ob, oc, be, bb, xv, xt, sp) := by
  cases L with
  | zero => exact br_t (by decide) h
  | succ k =>
    refine br_f (nI_nle (by omega) (by omega)) ⟨?_, ?_⟩
    · rw [nI_pred]; exact vp_in_nI (by omega) (by omega)
    · rw [nI_pred, nI_clamp (by omega), (ho k (by omega)).2.1]; exact h
theorem tg_uc {f : Nat → Int32} {k : Nat} {x : Int32} (h : k < 2 ^ 31) : upd f (nI k).toNatClampNeg x = upd f k x := by rw [nI_clamp h]
theorem tg_apX {post : Int32 → SX → Prop} {p0 p1 p2 : Int32} (hL : L < 20) (h : post (nI (L + 1)) (nI (L + 1), sc, inp, upd lk L p0, tg, fs, sd, upd ob L p1, upd oc L p2, be, bb, xv, xt, sp)) :
    wpX_appendLine post (nI L, sc, inp, lk, tg, fs, sd, ob, oc, be, bb, xv, xt, sp) p0 p1 p2 :=
  ⟨vp_in_nI hL (by omega), nm_r (tg_uc (by omega)) ⟨vp_in_nI hL (by omega), nm_r (tg_uc (by omega)) ⟨vp_in_nI hL (by omega), nm_r (tg_uc (by omega)) (nm_r (nI_1 L) h)⟩⟩⟩
theorem tg_apY {post : Int32 → SY → Prop} {p0 p1 p2 p3 p4 : Int32} (hL : L < 20) (h : post (nI (L + 1)) (nI (L + 1), hg, stp, la, en, inq, upd s L p0, upd va L p1, upd nu L p2, upd ya L p3, upd yb L p4, pl, cs, ot, op, yv, yt, ct)) :
    wpY_append post (nI L, hg, stp, la, en, inq, s, va, nu, ya, yb, pl, cs, ot, op, yv, yt, ct) p0 p1 p2 p3 p4 :=
  pk_eq L 20 (fun e => absurd e (by omega)) (fun _ => ⟨vp_in_nI hL (by omega), nm_r (tg_uc (by omega)) ⟨vp_in_nI hL (by omega), nm_r (tg_uc (by omega)) ⟨vp_in_nI hL (by omega), nm_r (tg_uc (by omega)) ⟨vp_in_nI hL (by omega), nm_r (tg_uc (by omega)) ⟨vp_in_nI hL (by omega), nm_r (tg_uc (by omega)) (nm_r (nI_1 L) h)⟩⟩⟩⟩⟩)
theorem tg_fuY {post : Int32 → SY → Prop} {p0 p1 p2 p3 p4 : Int32} (hL : L = 20) (h : post (-1000000002) (nI L, hg, stp, la, en, inq, s, va, nu, ya, yb, pl, cs, ot, op, yv, yt, ct)) :
    wpY_append post (nI L, hg, stp, la, en, inq, s, va, nu, ya, yb, pl, cs, ot, op, yv, yt, ct) p0 p1 p2 p3 p4 :=
  pk_eq L 20 (fun _ => h) (fun e => absurd hL e)
theorem tg_vX0 {x : Int32} {post : Int32 → Prop} (h : x < 0 ∨ nI 4 ≤ x) (hp : post 0) : wpX_isVariable post x := by
  cases h with
  | inl h => exact br_t h hp
  | inr h => exact br_c (fun _ => hp) (fun _ => br_t h hp)
theorem tg_vX1 {j : Nat} {post : Int32 → Prop} (h : j < 4) (hp : post 1) : wpX_isVariable post (nI j) :=
  br_f (nI_pos (by omega)) (br_f (nI_ge (b := 4) h (by decide)) hp)
theorem tg_34 {x : Int32} (h : nI 4 ≤ x) : 3 < x := Int32.lt_of_lt_of_le (by decide) h
theorem tg_vY0 {x : Int32} {post : Int32 → Prop} {u : SY} (h : x < 0 ∨ nI 4 ≤ x) (hp : post 0) : wpY_isVariable post u x := by
  obtain ⟨ln, hg, stp, la, en, inq, s, va, nu, ya, yb, pl, cs, ot, op, yv, yt, ct⟩ := u
  cases h with
  | inl h => exact br_t h hp
  | inr h => exact br_c (fun _ => hp) (fun _ => br_t (tg_34 h) hp)
theorem tg_vY1 {j : Nat} {post : Int32 → Prop} {u : SY} (h : j < 4) (hp : post 1) : wpY_isVariable post u (nI j) := by
  obtain ⟨ln, hg, stp, la, en, inq, s, va, nu, ya, yb, pl, cs, ot, op, yv, yt, ct⟩ := u
  exact br_f (nI_pos (by omega)) (br_f (nI_nlt (b := 3) (a := j) |> fun f => by
    intro z
    have := (nI_ltI (a := 3) (b := j) (by decide) (by omega)).mp z
    omega) hp)
/-- a line more -/
theorem tg_app {lk' tg' fs' sd' ob' oc' be' bb' s' va' nu' ya' yb' : Nat → Int32} (R : tg_R L inp lk tg fs sd ob oc be bb inq s va nu ya yb) (hL : L < 20)
    (hx : ∀ j, j < L → s' j = s j ∧ va' j = va j ∧ nu' j = nu j ∧ ya' j = ya j ∧ yb' j = yb j ∧ lk' j = lk j ∧ tg' j = tg j ∧ fs' j = fs j ∧ sd' j = sd j ∧ bb' j = bb j ∧ ob' j = ob j ∧ oc' j = oc j)
    (hb : ∀ j b c t, j < L → (s j = 3 ∨ s j = 5) → tg_st s j = (b, c) :: t → be' c = be c)
    (hn : tg_st s' L = tg_st s L → tg_ln s' va' nu' ya' yb' lk' tg' fs' sd' be' bb' L)
    (ho : tg_st s' L = tg_st s L → tg_ops s' ob' oc' L) : tg_R (L + 1) inp lk' tg' fs' sd' ob' oc' be' bb' inq s' va' nu' ya' yb' := by
  have hst : ∀ i, i ≤ L → tg_st s' i = tg_st s i := fun i hi => tg_st_ext i (fun j hj => (hx j (by omega)).1)
  refine ⟨by omega, R.2.1, fun i hi => ?_, fun i hi => ?_⟩
  · by_cases e : i = L
    · subst e; exact hn (hst i (Nat.le_refl _))
    · have hi : i < L := by omega
      obtain ⟨h1, h2, h3, h4, h5, h6, h7, h8, h9, h10, _⟩ := hx i hi
      have := R.2.2.1 i hi
      unfold tg_ln at this ⊢
      rw [h1, h2, h3, h4, h5, h6, h7, h8, h9, h10, hst i (by omega)]
      rcases this with h | h | h | ⟨a1, a2, b, t, e, bi, sb, a3, a4⟩ | h | ⟨a1, a2, b, c, t, e, a3, a4⟩
      · exact Or.inl h
      · exact Or.inr (Or.inl h)
      · exact Or.inr (Or.inr (Or.inl h))
      · exact Or.inr (Or.inr (Or.inr (Or.inl ⟨a1, a2, b, t, e, bi, by rw [(hx b (by omega)).1]; exact sb, a3, by rw [hb i b b t hi (Or.inl a1) e]; exact a4⟩)))
      · exact Or.inr (Or.inr (Or.inr (Or.inr (Or.inl h))))
      · exact Or.inr (Or.inr (Or.inr (Or.inr (Or.inr ⟨a1, a2, b, c, t, e, a3, by rw [hb i b c t hi (Or.inr a1) e]; exact a4⟩))))
  · by_cases e : i = L
    · subst e; exact ho (hst i (Nat.le_refl _))
    · have hi : i < L := by omega
      obtain ⟨_, _, _, _, _, _, _, _, _, _, h11, h12⟩ := hx i hi
      have := R.2.2.2 i hi
      unfold tg_ops at this ⊢
      rw [h11, h12, hst (i + 1) (by omega)]
      exact this
end
end
section
def tg_pl (p : Nat → Int32) : List (Nat × Nat) → Prop
  | [] => True
  | e :: t => p t.length = nI e.1 ∧ tg_pl p t
theorem tg_pl_u {p : Nat → Int32} {m : Nat} {x : Int32} : ∀ l : List (Nat × Nat), tg_pl p l → l.length ≤ m → tg_pl (upd p m x) l := by
  intro l
  induction l with
  | nil => intro _ _; trivial
  | cons e t ih =>
    intro h hm
    have hm' : t.length + 1 ≤ m := hm
    exact ⟨by rw [pk_un (by omega)]; exact h.1, ih h.2 (by omega)⟩
/-- what pair has found before line i -/
def tg_PF (s : Nat → Int32) (i : Nat) (pl cs ot op : Nat → Int32) : Prop :=
  tg_pl pl (tg_st s i) ∧ (∀ e, e ∈ tg_st s i → ot e.1 = (if e.2 = e.1 then -1 else nI e.2)) ∧
  (∀ j b c t, j < i → s j = 5 → tg_st s j = (b, c) :: t → op j = nI b ∧ cs b = nI j ∧ ot b = (if c = b then -1 else nI c)) ∧
  (∀ j b c t, j < i → s j = 3 → tg_st s j = (b, c) :: t → op j = nI b)
theorem tg_hd {s : Nat → Int32} {L j b c : Nat} {t : List (Nat × Nat)} (h : tg_va s L) (hj : j ≤ L) (e : tg_st s j = (b, c) :: t) : b ≤ c ∧ c < j ∧ tg_st s b = t ∧ (s b = 2 ∨ s b = 4) ∧ (c = b ∨ (s c = 3 ∧ s b = 2 ∧ tg_st s c = (b, b) :: t)) ∧ tg_wf s b t := by
  have := tg_wf_st h j hj
  rw [e] at this
  exact this
theorem tg_PF_u {s pl cs ot op : Nat → Int32} {L i : Nat} {x y z : Int32} (h : tg_va s L) (hi : i ≤ L) (P : tg_PF s i pl cs ot op) : tg_PF s i pl (upd cs i x) (upd ot i y) (upd op i z) := by
  obtain ⟨p1, p2, p3, p4⟩ := P
  refine ⟨p1, fun e he => ?_, fun j b c t hj s5 e => ?_, fun j b c t hj s3 e => ?_⟩
  · have := tg_wf_mem _ _ (tg_wf_st h i hi) e he
    rw [pk_un (by omega)]; exact p2 e he
  · have := tg_hd h (by omega) e
    rw [pk_un (by omega), pk_un (by omega), pk_un (by omega)]; exact p3 j b c t hj s5 e
  · rw [pk_un (by omega)]; exact p4 j b c t hj s3 e
theorem tg_PF_v {s pl cs ot op : Nat → Int32} {L i : Nat} {x y : Int32} (h : tg_va s L) (hi : i ≤ L) (P : tg_PF s i pl cs ot op) : tg_PF s i pl (upd cs i x) (upd ot i y) op := by
  obtain ⟨p1, p2, p3, p4⟩ := P
  refine ⟨p1, fun e he => ?_, fun j b c t hj s5 e => ?_, p4⟩
  · have := tg_wf_mem _ _ (tg_wf_st h i hi) e he
    rw [pk_un (by omega)]; exact p2 e he
  · have := tg_hd h (by omega) e
    rw [pk_un (by omega), pk_un (by omega)]; exact p3 j b c t hj s5 e
theorem tg_PF_n {s pl cs ot op : Nat → Int32} {i : Nat} (n : s i = 0 ∨ s i = 1) (P : tg_PF s i pl cs ot op) : tg_PF s (i + 1) pl cs ot op := by
  obtain ⟨p1, p2, p3, p4⟩ := P
  have q : ∀ {x : Int32}, s i = x → x = 0 ∨ x = 1 := fun e => by rw [← e]; exact n
  refine ⟨by rw [tg_st_n n]; exact p1, by rw [tg_st_n n]; exact p2, fun j b c t hj s5 e => ?_, fun j b c t hj s3 e => ?_⟩
  · by_cases ji : j = i
    · subst ji; exact absurd (q s5) (by decide)
    · exact p3 j b c t (by omega) s5 e
  · by_cases ji : j = i
    · subst ji; exact absurd (q s3) (by decide)
    · exact p4 j b c t (by omega) s3 e
theorem tg_PF_o {s pl cs ot op : Nat → Int32} {i : Nat} (o : s i = 2 ∨ s i = 4) (oi : ot i = -1) (P : tg_PF s i pl cs ot op) : tg_PF s (i + 1) (upd pl (tg_st s i).length (nI i)) cs ot op := by
  obtain ⟨p1, p2, p3, p4⟩ := P
  have q : ∀ {x : Int32}, s i = x → x = 2 ∨ x = 4 := fun e => by rw [← e]; exact o
  refine ⟨?_, ?_, fun j b c t hj s5 e => ?_, fun j b c t hj s3 e => ?_⟩
  · rw [tg_st_o o]
    exact ⟨pk_us, tg_pl_u _ p1 (Nat.le_refl _)⟩
  · rw [tg_st_o o]
    intro e he
    rcases List.mem_cons.mp he with rfl | he
    · rw [if_pos rfl]; exact oi
    · exact p2 e he
  · by_cases ji : j = i
    · subst ji; exact absurd (q s5) (by decide)
    · exact p3 j b c t (by omega) s5 e
  · by_cases ji : j = i
    · subst ji; exact absurd (q s3) (by decide)
    · exact p4 j b c t (by omega) s3 e
theorem tg_PF_w {s pl cs ot op : Nat → Int32} {L i b : Nat} {t : List (Nat × Nat)} (h : tg_va s L) (hi : i < L) (w : s i = 3) (e : tg_st s i = (b, b) :: t) (oi : op i = nI b) (P : tg_PF s i pl cs ot op) : tg_PF s (i + 1) pl cs (upd ot b (nI i)) op := by
  obtain ⟨p1, p2, p3, p4⟩ := P
  have hd := tg_hd h (by omega) e
  have ht := tg_wf_mem t b hd.2.2.2.2.2
  have nv : ∀ j b' c' t', j < i → s j = 5 → tg_st s j = (b', c') :: t' → b' ≠ b := fun j b' c' t' hj s5 e' => by
    have := (tg_never h (Or.inr s5) e' i hj (by omega) (b, b) (by rw [e]; exact List.mem_cons_self ..)).2 s5
    exact fun z => this z.symm
  rw [e] at p1 p2
  refine ⟨?_, ?_, fun j b' c' t' hj s5 e' => ?_, fun j b' c' t' hj s3 e' => ?_⟩
  · rw [tg_st_w w e]; exact p1
  · rw [tg_st_w w e]
    intro e' he
    rcases List.mem_cons.mp he with rfl | he
    · rw [if_neg (by show ¬ i = b; omega)]; exact pk_us
    · have := ht e' he
      rw [pk_un (by omega)]; exact p2 e' (List.mem_cons_of_mem _ he)
  · by_cases ji : j = i
    · subst ji; exact absurd (w.symm.trans s5) (by decide)
    · rw [pk_un (nv j b' c' t' (by omega) s5 e')]; exact p3 j b' c' t' (by omega) s5 e'
  · by_cases ji : j = i
    · subst ji; rw [e] at e'; cases e'; exact oi
    · exact p4 j b' c' t' (by omega) s3 e'
theorem tg_PF_c {s pl cs ot op : Nat → Int32} {L i b c : Nat} {t : List (Nat × Nat)} (h : tg_va s L) (hi : i < L) (w : s i = 5) (e : tg_st s i = (b, c) :: t) (oi : op i = nI b) (P : tg_PF s i pl cs ot op) : tg_PF s (i + 1) pl (upd cs b (nI i)) ot op := by
  obtain ⟨p1, p2, p3, p4⟩ := P
  have nv : ∀ j b' c' t', j < i → s j = 5 → tg_st s j = (b', c') :: t' → b' ≠ b := fun j b' c' t' hj s5 e' => by
    have := (tg_never h (Or.inr s5) e' i hj (by omega) (b, c) (by rw [e]; exact List.mem_cons_self ..)).2 s5
    exact fun z => this z.symm
  rw [e] at p1 p2
  refine ⟨?_, ?_, fun j b' c' t' hj s5 e' => ?_, fun j b' c' t' hj s3 e' => ?_⟩
  · rw [tg_st_c w, e]; exact p1.2
  · rw [tg_st_c w, e]
    exact fun e' he => p2 e' (List.mem_cons_of_mem _ he)
  · by_cases ji : j = i
    · subst ji; rw [e] at e'; cases e'
      exact ⟨oi, pk_us, p2 (b, c) (List.mem_cons_self ..)⟩
    · rw [pk_un (nv j b' c' t' (by omega) s5 e')]; exact p3 j b' c' t' (by omega) s5 e'
  · by_cases ji : j = i
    · subst ji; exact absurd (w.symm.trans s3) (by decide)
    · exact p4 j b' c' t' (by omega) s3 e'
section
variable {L : Nat} {stp la en : Int32} {inq s va nu ya yb yv yt ct : Nat → Int32}
theorem tg_pairL (h : tg_va s L) (hL : L ≤ 20) (hlen : ∀ i, i ≤ L → (tg_st s i).length ≤ 4) : ∀ (d i : Nat) (pl cs ot op : Nat → Int32), i + d = L → tg_PF s i pl cs ot op →
    ∃ pl' cs' ot' op', tg_PF s L pl' cs' ot' op' ∧ ∀ post : SY → Prop, post (nI L, nI (tg_st s L).length, stp, la, en, inq, s, va, nu, ya, yb, pl', cs', ot', op', yv, yt, ct) →
      wY_pair_7 post (nI L) stp la en (d + 1) (nI i) (nI (tg_st s i).length) inq s va nu ya yb pl cs ot op yv yt ct := by
  intro d
  induction d with
  | zero =>
    intro i pl cs ot op hi P
    have : i = L := by omega
    subst this
    exact ⟨pl, cs, ot, op, P, fun post hp => br_t (nI_le (Nat.le_refl _) (by omega)) hp⟩
  | succ d ih =>
    intro i pl cs ot op hi P
    have hin : vp_in (nI i) 20 := vp_in_nI (by omega) (by omega)
    have hlt : ¬ nI L ≤ nI i := nI_ge (by omega) (by omega)
    have hat : s (nI i).toNatClampNeg = s i := by rw [nI_clamp (by omega)]
    have hu : ∀ (f : Nat → Int32) (x : Int32), upd f (nI i).toNatClampNeg x = upd f i x := fun f x => tg_uc (by omega)
    have hl := hlen i (by omega)
    rcases h i (by omega) with o | ⟨w, b, t, e, sb⟩ | ⟨c5, b, c, t, e⟩ | n
    · obtain ⟨pl', cs', ot', op', hP, hw⟩ := ih (i + 1) _ _ _ _ (by omega) (tg_PF_o o pk_us (tg_PF_v (x := -1) (y := -1) h (by omega) P))
      rw [tg_st_o o, List.length_cons] at hw
      have hh : vp_in (nI (tg_st s i).length) 20 := vp_in_nI (by omega) (by omega)
      have hr : ∀ post : SY → Prop, post (nI L, nI (tg_st s L).length, stp, la, en, inq, s, va, nu, ya, yb, pl', cs', ot', op', yv, yt, ct) → wY_pair_49 post (wY_pair_7 post (nI L) stp la en (d + 1)) (nI i) (nI L) (nI (tg_st s i).length) stp la en inq s va nu ya yb pl (upd cs i (-1)) (upd ot i (-1)) op yv yt ct :=
        fun post hp => ⟨hh, nm_r (tg_uc (by omega)) (nm_r (nI_1 _) (nm_r (nI_1 i) (hw post hp)))⟩
      refine ⟨pl', cs', ot', op', hP, fun post hp => br_f hlt ⟨hin, nm_r (hu _ _) ⟨hin, nm_r (hu _ _) ⟨hin, ?_⟩⟩⟩⟩
      by_cases h2 : s i = 2
      · exact br_t (hat.trans h2) (hr post hp)
      · have h4 : s i = 4 := o.resolve_left h2
        exact br_f (by rw [hat]; exact h2) ⟨hin, br_t (hat.trans h4) (hr post hp)⟩
    · obtain ⟨p1, _⟩ := id P
      rw [e] at p1
      have hb := tg_hd h (by omega) e
      have hl' : t.length + 1 ≤ 4 := by rw [e] at hl; exact hl
      obtain ⟨pl', cs', ot', op', hP, hw⟩ := ih (i + 1) _ _ _ _ (by omega) (tg_PF_w h (by omega) w e pk_us (tg_PF_u (x := -1) (y := -1) (z := nI b) h (by omega) P))
      rw [tg_st_w w e, List.length_cons] at hw
      rw [e, List.length_cons]
      have e1 : nI (t.length + 1) - 1 = nI t.length := nI_pred _
      have e2 : pl (nI (t.length + 1) - 1).toNatClampNeg = nI b := by rw [e1, nI_clamp (by omega)]; exact p1.1
      have i1 : vp_in (nI (t.length + 1) - 1) 20 := by rw [e1]; exact vp_in_nI (by omega) (by omega)
      have i2 : vp_in (pl (nI (t.length + 1) - 1).toNatClampNeg) 20 := by rw [e2]; exact vp_in_nI (by omega) (by omega)
      refine ⟨pl', cs', ot', op', hP, fun post hp => br_f hlt ⟨hin, nm_r (hu _ _) ⟨hin, nm_r (hu _ _) ⟨hin, br_f (by rw [hat, w]; decide) ⟨hin, br_f (by rw [hat, w]; decide) ⟨hin, br_t (hat.trans w) ⟨i1, hin, nm_r (e' := upd op i (nI b)) (by rw [hu, e2]) ⟨i1, i2, nm_r (e' := upd (upd ot i (-1)) b (nI i)) (by rw [e2]; exact tg_uc (by omega)) (nm_r (nI_1 i) (hw post hp))⟩⟩⟩⟩⟩⟩⟩⟩
    · obtain ⟨p1, _⟩ := id P
      rw [e] at p1
      have hb := tg_hd h (by omega) e
      have hl' : t.length + 1 ≤ 4 := by rw [e] at hl; exact hl
      obtain ⟨pl', cs', ot', op', hP, hw⟩ := ih (i + 1) _ _ _ _ (by omega) (tg_PF_c h (by omega) c5 e pk_us (tg_PF_u (x := -1) (y := -1) (z := nI b) h (by omega) P))
      rw [tg_st_c c5, e, List.tail_cons] at hw
      rw [e, List.length_cons]
      have e2 : pl (nI t.length).toNatClampNeg = nI b := by rw [nI_clamp (by omega)]; exact p1.1
      have i1 : vp_in (nI t.length) 20 := vp_in_nI (by omega) (by omega)
      have i2 : vp_in (pl (nI t.length).toNatClampNeg) 20 := by rw [e2]; exact vp_in_nI (by omega) (by omega)
      refine ⟨pl', cs', ot', op', hP, fun post hp => br_f hlt ⟨hin, nm_r (hu _ _) ⟨hin, nm_r (hu _ _) ⟨hin, br_f (by rw [hat, c5]; decide) ⟨hin, br_f (by rw [hat, c5]; decide) ⟨hin, br_f (by rw [hat, c5]; decide) ⟨hin, br_t (hat.trans c5) (nm_r (nI_pred _) ⟨i1, hin, nm_r (e' := upd op i (nI b)) (by rw [hu, e2]) ⟨i1, i2, nm_r (e' := upd (upd cs i (-1)) b (nI i)) (by rw [e2]; exact tg_uc (by omega)) (nm_r (nI_1 i) (hw post hp))⟩⟩)⟩⟩⟩⟩⟩⟩⟩
    · obtain ⟨pl', cs', ot', op', hP, hw⟩ := ih (i + 1) _ _ _ _ (by omega) (tg_PF_n n (tg_PF_v (x := -1) (y := -1) h (by omega) P))
      rw [tg_st_n n] at hw
      have q : ∀ x : Int32, x ≠ 0 → x ≠ 1 → ¬ s (nI i).toNatClampNeg = x := fun x h0 h1 z => by
        rw [hat] at z
        rcases n with n | n
        · exact h0 (z.symm.trans n)
        · exact h1 (z.symm.trans n)
      refine ⟨pl', cs', ot', op', hP, fun post hp => br_f hlt ⟨hin, nm_r (hu _ _) ⟨hin, nm_r (hu _ _) ⟨hin, br_f (q 2 (by decide) (by decide)) ⟨hin, br_f (q 4 (by decide) (by decide)) ⟨hin, br_f (q 3 (by decide) (by decide)) ⟨hin, br_f (q 5 (by decide) (by decide)) (nm_r (nI_1 i) (hw post hp))⟩⟩⟩⟩⟩⟩⟩
end
section
variable {L : Nat} {inp lk tg fs sd ob oc be bb inq s va nu ya yb : Nat → Int32}
theorem tg_R_len (R : tg_R L inp lk tg fs sd ob oc be bb inq s va nu ya yb) : ∀ i, i ≤ L → (tg_st s i).length ≤ 4 :=
  fun i hi => tg_len (L := i) (by have := R.1; omega) (fun j hj => R.2.2.2 j (by omega))
theorem tg_pair (R : tg_R L inp lk tg fs sd ob oc be bb inq s va nu ya yb) (hg stp la en : Int32) (pl cs ot op yv yt ct : Nat → Int32) :
    ∃ pl' cs' ot' op', tg_PF s L pl' cs' ot' op' ∧ ∀ post : SY → Prop, post (nI L, nI (tg_st s L).length, stp, la, en, inq, s, va, nu, ya, yb, pl', cs', ot', op', yv, yt, ct) → wpY_pair post (nI L, hg, stp, la, en, inq, s, va, nu, ya, yb, pl, cs, ot, op, yv, yt, ct) := by
  obtain ⟨pl', cs', ot', op', hP, hw⟩ := tg_pairL (stp := stp) (la := la) (en := en) (inq := inq) (va := va) (nu := nu) (ya := ya) (yb := yb) (yv := yv) (yt := yt) (ct := ct) (tg_R_va R) R.1 (tg_R_len R) L 0 pl cs ot op (by omega) ⟨trivial, fun e he => (by cases he), fun j b c t hj => absurd hj (by omega), fun j b c t hj => absurd hj (by omega)⟩
  exact ⟨pl', cs', ot', op', hP, fun post hp => ⟨L + 1, hw post hp⟩⟩
end
end
section
section
variable {L : Nat} {sc : Int32} {inp lk tg fs sd ob oc be bb xv xt sp : Nat → Int32} {hg stp la en : Int32} {inq s va nu ya yb pl cs ot op yv yt ct : Nat → Int32}
theorem tg_asX {post : Int32 → SX → Prop} {p0 p1 p2 p3 : Int32} (hL : L < 20) (ho : ∀ i, i < L → tg_ops s ob oc i)
    (h : post (nI (L + 1)) (nI (L + 1), sc, inp, upd lk L p0, upd tg L p1, upd fs L p2, upd sd L p3, upd ob L (tg_top (tg_st s L)), upd oc L (nI (tg_st s L).length), be, bb, xv, xt, sp)) :
    wpX_appendStatement post (nI L, sc, inp, lk, tg, fs, sd, ob, oc, be, bb, xv, xt, sp) p0 p1 p2 p3 := by
  have hin : vp_in (nI L) 20 := vp_in_nI hL (by omega)
  refine br_t (nI_lt (b := 20) hL (by decide)) ⟨hin, nm_r (tg_uc (by omega)) ⟨hin, nm_r (tg_uc (by omega)) ⟨hin, nm_r (tg_uc (by omega)) ?_⟩⟩⟩
  refine tg_inner (by omega) ho ?_
  refine tg_ocnt (by omega) ho ?_
  exact tg_apX hL h
theorem tg_fsX {post : Int32 → SX → Prop} {p0 p1 p2 p3 : Int32} (hL : L = 20) (h : post (-1000000002) (nI L, sc, inp, lk, tg, fs, sd, ob, oc, be, bb, xv, xt, sp)) : wpX_appendStatement post (nI L, sc, inp, lk, tg, fs, sd, ob, oc, be, bb, xv, xt, sp) p0 p1 p2 p3 := by
  subst hL
  exact br_f (by decide) h
theorem tg_aoX {post : Int32 → SX → Prop} {p0 : Int32} {c : Nat} (hc : c < 4) (hL : L < 20) (h4 : (tg_st s L).length < 4) (ho : ∀ i, i < L → tg_ops s ob oc i)
    (h : post (nI (L + 1)) (nI (L + 1), sc, inp, upd lk L p0, tg, upd fs L (nI c), sd, upd ob L (nI L), upd oc L (nI ((tg_st s L).length + 1)), be, bb, xv, xt, sp)) :
    wpX_appendOpening post (nI L, sc, inp, lk, tg, fs, sd, ob, oc, be, bb, xv, xt, sp) p0 (nI c) := by
  have hin : vp_in (nI L) 20 := vp_in_nI hL (by omega)
  unfold wpX_appendOpening
  refine tg_vX1 hc ?_
  refine br_f (by decide) ?_
  refine tg_ocnt (by omega) ho ?_
  refine br_f (nI_ge (b := 20) hL (by decide)) (br_t (nI_lt (b := 4) h4 (by decide)) ⟨hin, nm_r (tg_uc (by omega)) ?_⟩)
  rw [nI_1]
  exact tg_apX hL h
theorem tg_foX {post : Int32 → SX → Prop} {p0 : Int32} {c : Nat} (hc : c < 4) (hL : L ≤ 20) (h4 : L = 20 ∨ (tg_st s L).length = 4) (ho : ∀ i, i < L → tg_ops s ob oc i)
    (h : post (-1000000002) (nI L, sc, inp, lk, tg, fs, sd, ob, oc, be, bb, xv, xt, sp)) : wpX_appendOpening post (nI L, sc, inp, lk, tg, fs, sd, ob, oc, be, bb, xv, xt, sp) p0 (nI c) := by
  unfold wpX_appendOpening
  refine tg_vX1 hc ?_
  refine br_f (by decide) ?_
  refine tg_ocnt (by omega) ho ?_
  by_cases e : L = 20
  · subst e
    exact br_t (by decide) h
  · refine br_f (nI_ge (b := 20) (by omega) (by decide)) (br_f ?_ h)
    rw [h4.resolve_left e]
    decide
theorem tg_boX {post : Int32 → SX → Prop} {p0 x : Int32} {u : SX} (hx : x < 0 ∨ nI 4 ≤ x) (h : post (-1000000001) u) : wpX_appendOpening post u p0 x := by
  obtain ⟨lc, sc, inp, lk, tg, fs, sd, ob, oc, be, bb, xv, xt, sp⟩ := u
  unfold wpX_appendOpening
  refine tg_vX0 hx ?_
  exact br_t rfl h
theorem tg_boY {post : Int32 → SY → Prop} {p0 x : Int32} {u : SY} (hx : x < 0 ∨ nI 4 ≤ x) (h : post (-1000000001) u) : wpY_open post u p0 x := by
  obtain ⟨ln, hg, stp, la, en, inq, s, va, nu, ya, yb, pl, cs, ot, op, yv, yt, ct⟩ := u
  unfold wpY_open
  refine tg_vY0 hx ?_
  exact br_t rfl h
theorem tg_lk (R : tg_R L inp lk tg fs sd ob oc be bb inq s va nu ya yb) {i : Nat} (hi : i < L) : (s i = 2 → lk i = 6) ∧ (s i = 3 → lk i = 7) ∧ (s i = 4 → lk i = 8) ∧ (s i = 5 → lk i = 9) := by
  rcases R.2.2.1 i hi with h | h | h | h | h | h
  · exact ⟨fun z => absurd (h.1.symm.trans z) (by decide), fun z => absurd (h.1.symm.trans z) (by decide), fun z => absurd (h.1.symm.trans z) (by decide), fun z => absurd (h.1.symm.trans z) (by decide)⟩
  · exact ⟨fun z => absurd (h.1.symm.trans z) (by decide), fun z => absurd (h.1.symm.trans z) (by decide), fun z => absurd (h.1.symm.trans z) (by decide), fun z => absurd (h.1.symm.trans z) (by decide)⟩
  · exact ⟨fun _ => h.2.1, fun z => absurd (h.1.symm.trans z) (by decide), fun z => absurd (h.1.symm.trans z) (by decide), fun z => absurd (h.1.symm.trans z) (by decide)⟩
  · exact ⟨fun z => absurd (h.1.symm.trans z) (by decide), fun _ => h.2.1, fun z => absurd (h.1.symm.trans z) (by decide), fun z => absurd (h.1.symm.trans z) (by decide)⟩
  · exact ⟨fun z => absurd (h.1.symm.trans z) (by decide), fun z => absurd (h.1.symm.trans z) (by decide), fun _ => h.2.1, fun z => absurd (h.1.symm.trans z) (by decide)⟩
  · exact ⟨fun z => absurd (h.1.symm.trans z) (by decide), fun z => absurd (h.1.symm.trans z) (by decide), fun z => absurd (h.1.symm.trans z) (by decide), fun _ => h.2.1⟩
theorem tg_endX {post : SX → Prop} {c : Nat} (hc : c < 20) (hL : L < 20) (h : post (nI L, sc, inp, lk, tg, fs, sd, ob, oc, upd be c (nI L), upd bb L (nI c), xv, xt, sp)) : wpX_endBlock post (nI L, sc, inp, lk, tg, fs, sd, ob, oc, be, bb, xv, xt, sp) (nI c) :=
  ⟨vp_in_nI hc (by omega), nm_r (tg_uc (by omega)) ⟨vp_in_nI hL (by omega), nm_r (tg_uc (by omega)) h⟩⟩
theorem tg_ba21 {post : Int32 → Prop} {b : Nat} (hb : b ≤ L) (hL : L ≤ 20) (ho : ∀ i, i < L → tg_ops s ob oc i) (h : post (tg_top (tg_st s b))) : wX_blockAround_21 post (nI b) (nI L) sc inp lk tg fs sd ob oc be bb xv xt sp := by
  cases b with
  | zero => exact br_t (by decide) h
  | succ k =>
    refine br_f (nI_nle (by omega) (by omega)) ⟨?_, ?_⟩
    · rw [nI_pred]; exact vp_in_nI (by omega) (by omega)
    · rw [nI_pred, nI_clamp (by omega), (ho k (by omega)).2.2]; exact h
theorem tg_baX {post : Int32 → Prop} {b c : Nat} {t : List (Nat × Nat)} (R : tg_R L inp lk tg fs sd ob oc be bb inq s va nu ya yb) (e : tg_st s L = (b, c) :: t) (h : post (tg_top t)) : wpX_blockAround post (nI L, sc, inp, lk, tg, fs, sd, ob, oc, be, bb, xv, xt, sp) (nI c) := by
  obtain ⟨h1, h2, h3, h4, h5, h6⟩ := tg_hd (tg_R_va R) (Nat.le_refl _) e
  have hL := R.1
  have hin : vp_in (nI c) 20 := vp_in_nI (by omega) (by omega)
  rw [← h3] at h
  refine ⟨hin, ?_⟩
  rw [nI_clamp (by omega)]
  by_cases hbc : c = b
  · subst hbc
    refine br_f ?_ (tg_ba21 (by omega) hL R.2.2.2 h)
    rcases h4 with h4 | h4
    · rw [(tg_lk R h2).1 h4]; decide
    · rw [(tg_lk R h2).2.2.1 h4]; decide
  · obtain ⟨s3, sb, e3⟩ := h5.resolve_left hbc
    refine br_t ((tg_lk R h2).2.1 s3) ⟨hin, ?_⟩
    have hb : bb c = nI b := by
      rcases R.2.2.1 c h2 with q | q | q | ⟨_, _, b', t', e', _, _, q, _⟩ | q | q
      · exact absurd (q.1.symm.trans s3) (by decide)
      · exact absurd (q.1.symm.trans s3) (by decide)
      · exact absurd (q.1.symm.trans s3) (by decide)
      · rw [e3] at e'; cases e'; exact q
      · exact absurd (q.1.symm.trans s3) (by decide)
      · exact absurd (q.1.symm.trans s3) (by decide)
    rw [hb]
    exact tg_ba21 (by omega) hL R.2.2.2 h
theorem tg_ap0 (R : tg_R L inp lk tg fs sd ob oc be bb inq s va nu ya yb) (hL : L < 20) {j : Nat} {k : Int32} (hj : j < 4) :
    tg_R (L + 1) inp (upd lk L 5) (upd tg L (nI j)) (upd fs L k) (upd sd L 0) (upd ob L (tg_top (tg_st s L))) (upd oc L (nI (tg_st s L).length)) be bb inq (upd s L 0) (upd va L (nI j)) (upd nu L k) (upd ya L 0) (upd yb L 0) := by
  refine tg_app R hL (fun j hj => ?_) (fun _ _ _ _ _ _ _ => rfl) (fun e => ?_) (fun e => ?_)
  · refine ⟨?_, ?_, ?_, ?_, ?_, ?_, ?_, ?_, ?_, rfl, ?_, ?_⟩ <;> exact pk_un (by omega)
  · exact Or.inl ⟨pk_us, pk_us, pk_us.trans pk_us.symm, j, hj, pk_us, pk_us⟩
  · unfold tg_ops
    rw [tg_st_n (Or.inl pk_us), e]
    exact ⟨tg_R_len R L (Nat.le_refl _), pk_us, pk_us⟩
theorem tg_ap1 (R : tg_R L inp lk tg fs sd ob oc be bb inq s va nu ya yb) (hL : L < 20) {j k a b : Nat} (hj : j < 4) (hk : k < 5) (ha : a < 4) (hb : b < 4) :
    tg_R (L + 1) inp (upd lk L (nI k)) (upd tg L (nI j)) (upd fs L (nI a)) (upd sd L (nI b)) (upd ob L (tg_top (tg_st s L))) (upd oc L (nI (tg_st s L).length)) be bb inq (upd s L 1) (upd va L (nI j)) (upd nu L (nI k)) (upd ya L (nI a)) (upd yb L (nI b)) := by
  refine tg_app R hL (fun j hj => ?_) (fun _ _ _ _ _ _ _ => rfl) (fun e => ?_) (fun e => ?_)
  · refine ⟨?_, ?_, ?_, ?_, ?_, ?_, ?_, ?_, ?_, rfl, ?_, ?_⟩ <;> exact pk_un (by omega)
  · exact Or.inr (Or.inl ⟨pk_us, k, j, a, b, hk, hj, ha, hb, pk_us, pk_us, pk_us, pk_us, pk_us, pk_us, pk_us, pk_us⟩)
  · unfold tg_ops
    rw [tg_st_n (Or.inr pk_us), e]
    exact ⟨tg_R_len R L (Nat.le_refl _), pk_us, pk_us⟩
theorem tg_ap2 (R : tg_R L inp lk tg fs sd ob oc be bb inq s va nu ya yb) (hL : L < 20) (h4 : (tg_st s L).length < 4) {c : Nat} (hc : c < 4) {p q : Int32} (hp : (p = 6 ∧ q = 2) ∨ (p = 8 ∧ q = 4)) :
    tg_R (L + 1) inp (upd lk L p) tg (upd fs L (nI c)) sd (upd ob L (nI L)) (upd oc L (nI ((tg_st s L).length + 1))) be bb inq (upd s L q) (upd va L (nI c)) (upd nu L 0) (upd ya L 0) (upd yb L 0) := by
  refine tg_app R hL (fun j hj => ?_) (fun _ _ _ _ _ _ _ => rfl) (fun e => ?_) (fun e => ?_)
  · exact ⟨pk_un (by omega), pk_un (by omega), pk_un (by omega), pk_un (by omega), pk_un (by omega), pk_un (by omega), rfl, pk_un (by omega), rfl, rfl, pk_un (by omega), pk_un (by omega)⟩
  · rcases hp with ⟨rfl, rfl⟩ | ⟨rfl, rfl⟩
    · exact Or.inr (Or.inr (Or.inl ⟨pk_us, pk_us, c, hc, pk_us, pk_us⟩))
    · exact Or.inr (Or.inr (Or.inr (Or.inr (Or.inl ⟨pk_us, pk_us, c, hc, pk_us, pk_us⟩))))
  · unfold tg_ops
    rw [tg_st_o (by rcases hp with ⟨rfl, rfl⟩ | ⟨rfl, rfl⟩; exact Or.inl pk_us; exact Or.inr pk_us), e, List.length_cons]
    exact ⟨by omega, pk_us, pk_us⟩
theorem tg_ap3 (R : tg_R L inp lk tg fs sd ob oc be bb inq s va nu ya yb) (hL : L < 20) {b : Nat} {t : List (Nat × Nat)} (e : tg_st s L = (b, b) :: t) (sb : s b = 2) :
    tg_R (L + 1) inp (upd lk L 7) tg fs sd (upd ob L (nI L)) (upd oc L (nI (tg_st s L).length)) (upd be b (nI L)) (upd bb L (nI b)) inq (upd s L 3) (upd va L 0) (upd nu L 0) (upd ya L 0) (upd yb L 0) := by
  have hd := tg_hd (tg_R_va R) (Nat.le_refl _) e
  have hl := tg_R_len R L (Nat.le_refl _)
  refine tg_app R hL (fun j hj => ?_) (fun j b' c' t' hj hs e' => ?_) (fun e' => ?_) (fun e' => ?_)
  · exact ⟨pk_un (by omega), pk_un (by omega), pk_un (by omega), pk_un (by omega), pk_un (by omega), pk_un (by omega), rfl, rfl, rfl, pk_un (by omega), pk_un (by omega), pk_un (by omega)⟩
  · have := (tg_never (tg_R_va R) hs e' L hj (Nat.le_refl _) (b, b) (by rw [e]; exact List.mem_cons_self ..)).1
    exact pk_un (fun z => this z.symm)
  · exact Or.inr (Or.inr (Or.inr (Or.inl ⟨pk_us, pk_us, b, t, e'.trans e, by omega, by rw [pk_un (by omega)]; exact sb, pk_us, pk_us⟩)))
  · unfold tg_ops
    rw [tg_st_w pk_us (e'.trans e), e]
    rw [e] at hl
    exact ⟨hl, pk_us, pk_us⟩
theorem tg_ap5 (R : tg_R L inp lk tg fs sd ob oc be bb inq s va nu ya yb) (hL : L < 20) {b c : Nat} {t : List (Nat × Nat)} (e : tg_st s L = (b, c) :: t) :
    tg_R (L + 1) inp (upd lk L 9) tg fs sd (upd ob L (tg_top t)) (upd oc L (nI t.length)) (upd be c (nI L)) (upd bb L (nI c)) inq (upd s L 5) (upd va L 0) (upd nu L 0) (upd ya L 0) (upd yb L 0) := by
  have hd := tg_hd (tg_R_va R) (Nat.le_refl _) e
  have hl := tg_R_len R L (Nat.le_refl _)
  refine tg_app R hL (fun j hj => ?_) (fun j b' c' t' hj hs e' => ?_) (fun e' => ?_) (fun e' => ?_)
  · exact ⟨pk_un (by omega), pk_un (by omega), pk_un (by omega), pk_un (by omega), pk_un (by omega), pk_un (by omega), rfl, rfl, rfl, pk_un (by omega), pk_un (by omega), pk_un (by omega)⟩
  · have := (tg_never (tg_R_va R) hs e' L hj (Nat.le_refl _) (b, c) (by rw [e]; exact List.mem_cons_self ..)).1
    exact pk_un (fun z => this z.symm)
  · exact Or.inr (Or.inr (Or.inr (Or.inr (Or.inr ⟨pk_us, pk_us, b, c, t, e'.trans e, pk_us, pk_us⟩))))
  · unfold tg_ops
    rw [tg_st_c pk_us, e', e, List.tail_cons]
    rw [e, List.length_cons] at hl
    exact ⟨by omega, pk_us, pk_us⟩
end
theorem tg_ix4 (x : Int32) : (x < 0 ∨ nI 4 ≤ x) ∨ ∃ j : Nat, j < 4 ∧ x = nI j := by
  rcases pk_ix x (n := 4) (by decide) with h | h | h
  · exact Or.inl (Or.inl h)
  · exact Or.inl (Or.inr h)
  · exact Or.inr h
theorem i_vc_input {k : Nat} {u : SX} {v : SY} (I : i_Rel k u v) (hk : k + 5 ≤ 2560) (v1 : Int32) (v2 : Int32) : wpX_input (fun r u' => wpY_input (fun r' v' => r' = r ∧ i_Rel (k + 5) u' v') v v1 v2) u v1 v2 := by
  obtain ⟨lc, sc, inp, lk, tg, fs, sd, ob, oc, be, bb, xv, xt, sp⟩ := u
  obtain ⟨ln, hg, stp, la, en, inq, s, va, nu, ya, yb, pl, cs, ot, op, yv, yt, ct⟩ := v
  obtain ⟨L, rfl, rfl, R⟩ := I
  unfold wpX_input wpY_input
  have hR := R
  obtain ⟨hL, rfl, R1, R2⟩ := R
  rcases tg_ix4 v1 with h | ⟨j, hj, rfl⟩
  · refine tg_vX0 h ?_
    refine br_t rfl ?_
    refine tg_vY0 h ?_
    refine br_t rfl ?_
    exact ⟨rfl, L, rfl, rfl, hR⟩
  · have hin : vp_in (nI j) 4 := vp_in_nI hj (by omega)
    refine tg_vX1 hj ?_
    refine br_f (by decide) ⟨hin, fun x ex => ⟨hin, fun a ea => ?_⟩⟩
    refine tg_vY1 hj ?_
    refine br_f (by decide) ⟨hin, fun y ey => ⟨hin, fun b eb => ?_⟩⟩
    exact ⟨ey.trans ex.symm, L, rfl, rfl, hL, eb.trans ea.symm, R1, R2⟩
theorem i_vc_constant {k : Nat} {u : SX} {v : SY} (I : i_Rel k u v) (hk : k + 5 ≤ 2560) (v1 : Int32) (v2 : Int32) : wpX_constant (fun r u' => wpY_constant (fun r' v' => r' = r ∧ i_Rel (k + 5) u' v') v v1 v2) u v1 v2 := by
  obtain ⟨lc, sc, inp, lk, tg, fs, sd, ob, oc, be, bb, xv, xt, sp⟩ := u
  obtain ⟨ln, hg, stp, la, en, inq, s, va, nu, ya, yb, pl, cs, ot, op, yv, yt, ct⟩ := v
  obtain ⟨L, rfl, rfl, R⟩ := I
  unfold wpX_constant wpY_constant
  have hL := R.1
  rcases tg_ix4 v1 with h | ⟨j, hj, rfl⟩
  · refine tg_vX0 h ?_
    refine br_t rfl ?_
    refine tg_vY0 h ?_
    refine br_t rfl ?_
    exact ⟨rfl, L, rfl, rfl, R⟩
  · refine tg_vX1 hj ?_
    refine br_f (by decide) ?_
    by_cases e : L = 20
    · refine tg_fsX e ?_
      refine tg_vY1 hj ?_
      refine br_f (by decide) ?_
      refine tg_fuY e ?_
      exact ⟨rfl, L, rfl, rfl, R⟩
    · refine tg_asX (by omega) R.2.2.2 ?_
      refine tg_vY1 hj ?_
      refine br_f (by decide) ?_
      refine tg_apY (by omega) ?_
      exact ⟨rfl, L + 1, rfl, rfl, tg_ap0 R (by omega) hj⟩
theorem i_vc_operation {k : Nat} {u : SX} {v : SY} (I : i_Rel k u v) (hk : k + 5 ≤ 2560) (v1 : Int32) (v2 : Int32) (v3 : Int32) (v4 : Int32) : wpX_operation (fun r u' => wpY_operation (fun r' v' => r' = r ∧ i_Rel (k + 5) u' v') v v1 v2 v3 v4) u v1 v2 v3 v4 := by
  obtain ⟨lc, sc, inp, lk, tg, fs, sd, ob, oc, be, bb, xv, xt, sp⟩ := u
  obtain ⟨ln, hg, stp, la, en, inq, s, va, nu, ya, yb, pl, cs, ot, op, yv, yt, ct⟩ := v
  obtain ⟨L, rfl, rfl, R⟩ := I
  unfold wpX_operation wpY_operation
  have hL := R.1
  rcases tg_ix4 v1 with h | ⟨j, hj, rfl⟩
  · refine tg_vX0 h ?_
    refine br_t rfl ?_
    refine tg_vY0 h ?_
    refine br_t rfl ?_
    exact br_t rfl ⟨rfl, L, rfl, rfl, R⟩
  rcases tg_ix4 v3 with h | ⟨a, ha, rfl⟩
  · refine tg_vX1 hj ?_
    refine br_f (by decide) ?_
    refine tg_vX0 h ?_
    refine br_t rfl ?_
    refine tg_vY1 hj ?_
    refine br_f (by decide) ?_
    refine tg_vY0 h ?_
    refine br_t rfl ?_
    exact br_t rfl ⟨rfl, L, rfl, rfl, R⟩
  rcases tg_ix4 v4 with h | ⟨b, hb, rfl⟩
  · refine tg_vX1 hj ?_
    refine br_f (by decide) ?_
    refine tg_vX1 ha ?_
    refine br_f (by decide) ?_
    refine tg_vX0 h ?_
    refine br_t rfl ?_
    refine tg_vY1 hj ?_
    refine br_f (by decide) ?_
    refine tg_vY1 ha ?_
    refine br_f (by decide) ?_
    refine tg_vY0 h ?_
    refine br_t rfl ?_
    exact br_t rfl ⟨rfl, L, rfl, rfl, R⟩
  refine tg_vX1 hj ?_
  refine br_f (by decide) ?_
  refine tg_vX1 ha ?_
  refine br_f (by decide) ?_
  refine tg_vX1 hb ?_
  refine br_f (by decide) ?_
  have Y : ∀ {P : Int32 → SY → Prop}, ((v2 < 0 → wY_operation_38 P (nI j) v2 (nI a) (nI b) (nI L) hg stp la en inq s va nu ya yb pl cs ot op yv yt ct) ∧ (¬ v2 < 0 → ((4 < v2 → wY_operation_38 P (nI j) v2 (nI a) (nI b) (nI L) hg stp la en inq s va nu ya yb pl cs ot op yv yt ct) ∧ (¬ 4 < v2 → wY_operation_39 P (nI j) v2 (nI a) (nI b) 1 (nI L) hg stp la en inq s va nu ya yb pl cs ot op yv yt ct)))) → wpY_operation P (nI L, hg, stp, la, en, inq, s, va, nu, ya, yb, pl, cs, ot, op, yv, yt, ct) (nI j) v2 (nI a) (nI b) := by
    intro P h
    unfold wpY_operation
    refine tg_vY1 hj ?_
    refine br_f (by decide) ?_
    refine tg_vY1 ha ?_
    refine br_f (by decide) ?_
    refine tg_vY1 hb ?_
    refine br_f (by decide) ?_
    exact h
  by_cases h0 : v2 < 0
  · refine br_t h0 (Y (br_t h0 ?_))
    exact br_t rfl ⟨rfl, L, rfl, rfl, R⟩
  by_cases h5 : v2 ≤ 4
  · obtain ⟨k', hk', rfl⟩ := nI_of2 (M := 4) (n := 4) (by decide) h0 h5
    have h6 : ¬ 4 < nI k' := Int32.not_lt.mpr h5
    refine br_f h0 (br_t h5 ?_)
    by_cases e : L = 20
    · refine tg_fsX e (Y (br_f h0 (br_f h6 (br_f (by decide) ?_))))
      refine tg_fuY e ?_
      exact ⟨rfl, L, rfl, rfl, R⟩
    · refine tg_asX (by omega) R.2.2.2 (Y (br_f h0 (br_f h6 (br_f (by decide) ?_))))
      refine tg_apY (by omega) ?_
      exact ⟨rfl, L + 1, rfl, rfl, tg_ap1 R (by omega) hj (by omega) ha hb⟩
  · have h6 : 4 < v2 := Int32.not_le.mp h5
    refine br_f h0 (br_f h5 (Y (br_f h0 (br_t h6 ?_))))
    exact br_t rfl ⟨rfl, L, rfl, rfl, R⟩
theorem i_vc_when {k : Nat} {u : SX} {v : SY} (I : i_Rel k u v) (hk : k + 5 ≤ 2560) (v1 : Int32) : wpX_when (fun r u' => wpY_when (fun r' v' => r' = r ∧ i_Rel (k + 5) u' v') v v1) u v1 := by
  obtain ⟨lc, sc, inp, lk, tg, fs, sd, ob, oc, be, bb, xv, xt, sp⟩ := u
  obtain ⟨ln, hg, stp, la, en, inq, s, va, nu, ya, yb, pl, cs, ot, op, yv, yt, ct⟩ := v
  obtain ⟨L, rfl, rfl, R⟩ := I
  have hL := R.1
  have hl := tg_R_len R L (Nat.le_refl _)
  unfold wpX_when wpY_when
  rcases tg_ix4 v1 with h | ⟨j, hj, rfl⟩
  · refine tg_boX h ?_
    refine tg_boY h ?_
    exact ⟨rfl, L, rfl, rfl, R⟩
  · obtain ⟨pl', cs', ot', op', hP, hw⟩ := tg_pair R hg stp la en pl cs ot op yv yt ct
    unfold wpY_open
    by_cases e : L = 20 ∨ (tg_st s L).length = 4
    · refine tg_foX hj hL e R.2.2.2 ?_
      refine tg_vY1 hj ?_
      refine br_f (by decide) ?_
      refine hw _ ?_
      by_cases e4 : (tg_st s L).length = 4
      · refine br_t (by rw [e4]; rfl) ?_
        exact ⟨rfl, L, rfl, rfl, R⟩
      · refine br_f (fun z => e4 ((nI_eq (b := 4) (by omega) (by decide)).mp z)) ?_
        refine tg_fuY (e.resolve_right e4) ?_
        exact ⟨rfl, L, rfl, rfl, R⟩
    · refine tg_aoX hj (by omega) (by omega) R.2.2.2 ?_
      refine tg_vY1 hj ?_
      refine br_f (by decide) ?_
      refine hw _ ?_
      refine br_f (fun z => e (Or.inr ((nI_eq (b := 4) (by omega) (by decide)).mp z))) ?_
      refine tg_apY (by omega) ?_
      exact ⟨rfl, L + 1, rfl, rfl, tg_ap2 R (by omega) (by omega) hj (Or.inl ⟨rfl, rfl⟩)⟩
theorem i_vc_repeat {k : Nat} {u : SX} {v : SY} (I : i_Rel k u v) (hk : k + 5 ≤ 2560) (v1 : Int32) : wpX_repeat (fun r u' => wpY_repeat (fun r' v' => r' = r ∧ i_Rel (k + 5) u' v') v v1) u v1 := by
  obtain ⟨lc, sc, inp, lk, tg, fs, sd, ob, oc, be, bb, xv, xt, sp⟩ := u
  obtain ⟨ln, hg, stp, la, en, inq, s, va, nu, ya, yb, pl, cs, ot, op, yv, yt, ct⟩ := v
  obtain ⟨L, rfl, rfl, R⟩ := I
  have hL := R.1
  have hl := tg_R_len R L (Nat.le_refl _)
  unfold wpX_repeat wpY_repeat
  rcases tg_ix4 v1 with h | ⟨j, hj, rfl⟩
  · refine tg_boX h ?_
    refine tg_boY h ?_
    exact ⟨rfl, L, rfl, rfl, R⟩
  · obtain ⟨pl', cs', ot', op', hP, hw⟩ := tg_pair R hg stp la en pl cs ot op yv yt ct
    unfold wpY_open
    by_cases e : L = 20 ∨ (tg_st s L).length = 4
    · refine tg_foX hj hL e R.2.2.2 ?_
      refine tg_vY1 hj ?_
      refine br_f (by decide) ?_
      refine hw _ ?_
      by_cases e4 : (tg_st s L).length = 4
      · refine br_t (by rw [e4]; rfl) ?_
        exact ⟨rfl, L, rfl, rfl, R⟩
      · refine br_f (fun z => e4 ((nI_eq (b := 4) (by omega) (by decide)).mp z)) ?_
        refine tg_fuY (e.resolve_right e4) ?_
        exact ⟨rfl, L, rfl, rfl, R⟩
    · refine tg_aoX hj (by omega) (by omega) R.2.2.2 ?_
      refine tg_vY1 hj ?_
      refine br_f (by decide) ?_
      refine hw _ ?_
      refine br_f (fun z => e (Or.inr ((nI_eq (b := 4) (by omega) (by decide)).mp z))) ?_
      refine tg_apY (by omega) ?_
      exact ⟨rfl, L + 1, rfl, rfl, tg_ap2 R (by omega) (by omega) hj (Or.inr ⟨rfl, rfl⟩)⟩
theorem i_vc_otherwise {k : Nat} {u : SX} {v : SY} (I : i_Rel k u v) (hk : k + 5 ≤ 2560) : wpX_otherwise (fun r u' => wpY_otherwise (fun r' v' => r' = r ∧ i_Rel (k + 5) u' v') v) u := by
  obtain ⟨lc, sc, inp, lk, tg, fs, sd, ob, oc, be, bb, xv, xt, sp⟩ := u
  obtain ⟨ln, hg, stp, la, en, inq, s, va, nu, ya, yb, pl, cs, ot, op, yv, yt, ct⟩ := v
  obtain ⟨L, rfl, rfl, R⟩ := I
  have hL := R.1
  have hl := tg_R_len R L (Nat.le_refl _)
  obtain ⟨pl', cs', ot', op', hP, hw⟩ := tg_pair R hg stp la en pl cs ot op yv yt ct
  unfold wpX_otherwise wpY_otherwise
  refine tg_inner hL R.2.2.2 ?_
  cases e : tg_st s L with
  | nil =>
    rw [e] at hw
    refine br_t (by decide) ?_
    refine hw _ ?_
    refine br_t rfl ?_
    exact ⟨rfl, L, rfl, rfl, R⟩
  | cons a t =>
    obtain ⟨b, c⟩ := a
    obtain ⟨h1, h2, h3, h4, h5, h6⟩ := tg_hd (tg_R_va R) (Nat.le_refl _) e
    have p1 := hP.1
    have p2 := hP.2.1 (b, c) (by rw [e]; exact List.mem_cons_self ..)
    rw [e] at p1
    rw [e, List.length_cons] at hw hl
    have e2 : pl' (nI (t.length + 1) - 1).toNatClampNeg = nI b := by rw [nI_pred, nI_clamp (by omega)]; exact p1.1
    have i1 : vp_in (nI (t.length + 1) - 1) 20 := by rw [nI_pred]; exact vp_in_nI (by omega) (by omega)
    have i2 : vp_in (pl' (nI (t.length + 1) - 1).toNatClampNeg) 20 := by rw [e2]; exact vp_in_nI (by omega) (by omega)
    have e3 : s (pl' (nI (t.length + 1) - 1).toNatClampNeg).toNatClampNeg = s b := by rw [e2, nI_clamp (by omega)]
    have e4 : ot' (pl' (nI (t.length + 1) - 1).toNatClampNeg).toNatClampNeg = (if c = b then -1 else nI c) := by rw [e2, nI_clamp (by omega)]; exact p2
    have hc : lk (nI c).toNatClampNeg = lk c := by rw [nI_clamp (by omega)]
    have hz : ¬ nI (t.length + 1) = 0 := nI_ne0 (by omega) (by omega)
    have ic : vp_in (nI c) 20 := vp_in_nI (by omega) (by omega)
    refine br_f (nI_pos (by omega)) ⟨ic, ?_⟩
    show (lk (nI c).toNatClampNeg = 6 → _) ∧ (¬ lk (nI c).toNatClampNeg = 6 → _)
    by_cases hbc : c = b
    · subst hbc
      rw [if_pos rfl] at e4
      rcases h4 with h4 | h4
      · refine br_t (hc.trans ((tg_lk R h2).1 h4)) ?_
        by_cases e20 : L = 20
        · refine br_f (by subst e20; decide) ?_
          refine hw _ ?_
          refine br_f hz ⟨i1, i2, br_t (e3.trans h4) ⟨i1, i2, br_t (by rw [e4]; decide) ?_⟩⟩
          refine tg_fuY e20 ?_
          exact ⟨rfl, L, rfl, rfl, R⟩
        · refine br_t (nI_lt (b := 20) (by omega) (by decide)) ?_
          refine tg_ocnt hL R.2.2.2 ?_
          refine tg_endX (by omega) (by omega) ?_
          refine tg_apX (by omega) ?_
          refine hw _ ?_
          refine br_f hz ⟨i1, i2, br_t (e3.trans h4) ⟨i1, i2, br_t (by rw [e4]; decide) ?_⟩⟩
          refine tg_apY (by omega) ?_
          exact ⟨rfl, L + 1, rfl, rfl, tg_ap3 R (by omega) e h4⟩
      · refine br_f (by rw [hc, (tg_lk R h2).2.2.1 h4]; decide) ?_
        refine hw _ ?_
        refine br_f hz ⟨i1, i2, br_f (by rw [e3, h4]; decide) ?_⟩
        exact ⟨rfl, L, rfl, rfl, R⟩
    · obtain ⟨s3, sb, _⟩ := h5.resolve_left hbc
      rw [if_neg hbc] at e4
      refine br_f (by rw [hc, (tg_lk R h2).2.1 s3]; decide) ?_
      refine hw _ ?_
      refine br_f hz ⟨i1, i2, br_t (e3.trans sb) ⟨i1, i2, br_f (by rw [e4]; exact nI_pos (by omega)) ?_⟩⟩
      exact ⟨rfl, L, rfl, rfl, R⟩
theorem i_vc_close {k : Nat} {u : SX} {v : SY} (I : i_Rel k u v) (hk : k + 5 ≤ 2560) : wpX_close (fun r u' => wpY_close (fun r' v' => r' = r ∧ i_Rel (k + 5) u' v') v) u := by
  obtain ⟨lc, sc, inp, lk, tg, fs, sd, ob, oc, be, bb, xv, xt, sp⟩ := u
  obtain ⟨ln, hg, stp, la, en, inq, s, va, nu, ya, yb, pl, cs, ot, op, yv, yt, ct⟩ := v
  obtain ⟨L, rfl, rfl, R⟩ := I
  have hL := R.1
  have hl := tg_R_len R L (Nat.le_refl _)
  obtain ⟨pl', cs', ot', op', hP, hw⟩ := tg_pair R hg stp la en pl cs ot op yv yt ct
  unfold wpX_close wpY_close
  refine tg_inner hL R.2.2.2 ?_
  cases e : tg_st s L with
  | nil =>
    rw [e] at hw
    refine br_f (by decide) ?_
    refine hw _ ?_
    refine br_t rfl ?_
    exact ⟨rfl, L, rfl, rfl, R⟩
  | cons a t =>
    obtain ⟨b, c⟩ := a
    obtain ⟨h1, h2, h3, h4, h5, h6⟩ := tg_hd (tg_R_va R) (Nat.le_refl _) e
    rw [e, List.length_cons] at hw hl
    have hz : ¬ nI (t.length + 1) = 0 := nI_ne0 (by omega) (by omega)
    refine br_t (nI_pos' (by omega)) ?_
    by_cases e20 : L = 20
    · refine br_f (by subst e20; decide) ?_
      refine hw _ ?_
      refine br_f hz ?_
      refine tg_fuY e20 ?_
      exact ⟨rfl, L, rfl, rfl, R⟩
    · refine br_t (nI_lt (b := 20) (by omega) (by decide)) ?_
      refine tg_baX R e ?_
      refine tg_ocnt hL R.2.2.2 ?_
      refine tg_endX (by omega) (by omega) ?_
      rw [e, List.length_cons, nI_pred]
      refine tg_apX (by omega) ?_
      refine hw _ ?_
      refine br_f hz ?_
      refine tg_apY (by omega) ?_
      exact ⟨rfl, L + 1, rfl, rfl, tg_ap5 R (by omega) e⟩
theorem i_vc_undo {k : Nat} {u : SX} {v : SY} (I : i_Rel k u v) (hk : k + 5 ≤ 2560) : wpX_undo (fun r u' => wpY_undo (fun r' v' => r' = r ∧ i_Rel (k + 5) u' v') v) u := by
  obtain ⟨lc, sc, inp, lk, tg, fs, sd, ob, oc, be, bb, xv, xt, sp⟩ := u
  obtain ⟨ln, hg, stp, la, en, inq, s, va, nu, ya, yb, pl, cs, ot, op, yv, yt, ct⟩ := v
  obtain ⟨L, rfl, rfl, R⟩ := I
  have hL := R.1
  cases L with
  | zero => exact br_t rfl (br_t rfl ⟨rfl, 0, rfl, rfl, R⟩)
  | succ m =>
    have hz : ¬ nI (m + 1) = 0 := nI_ne0 (by omega) (by omega)
    refine br_f hz (nm_r (nI_pred m) ?_)
    refine br_f hz (nm_r (nI_pred m) ?_)
    exact ⟨rfl, m, rfl, rfl, by omega, R.2.1, fun i hi => R.2.2.1 i (by omega), fun i hi => R.2.2.2 i (by omega)⟩
theorem i_vc_clear {k : Nat} {u : SX} {v : SY} (I : i_Rel k u v) (hk : k + 5 ≤ 2560) : wpX_clear (fun u' => wpY_clear (fun v' => i_Rel (k + 5) u' v') v) u := by
  obtain ⟨lc, sc, inp, lk, tg, fs, sd, ob, oc, be, bb, xv, xt, sp⟩ := u
  obtain ⟨ln, hg, stp, la, en, inq, s, va, nu, ya, yb, pl, cs, ot, op, yv, yt, ct⟩ := v
  obtain ⟨L, rfl, rfl, R⟩ := I
  exact ⟨0, rfl, rfl, by omega, R.2.1, fun i hi => absurd hi (by omega), fun i hi => absurd hi (by omega)⟩
end
section
/-- both run on alike after S steps -/
def tg_live (S : Nat) (sc : Int32) (xt sp : Nat → Int32) (stp la en : Int32) (yt ct : Nat → Int32) : Prop :=
  S ≤ 400 ∧ sc = nI S ∧ stp = nI S ∧ en = 0 ∧ (∀ j, j < 5 → ∃ a, a ≤ S ∧ xt j = nI a ∧ yt j = nI a) ∧
  (∀ t, t < 401 → ∃ a, a ≤ S ∧ sp t = nI a ∧ ct t = nI a) ∧ ct 401 = 0 ∧
  (∃ l, l ≤ S ∧ la = nI l ∧ (∀ t, l < t → t < 401 → sp t = 0) ∧ (l = 0 ∨ ∃ a, 0 < a ∧ a ≤ S ∧ sp l = nI a))
def tg_tired (m : Nat) (sc en : Int32) : Prop := en = 1 ∧ ∃ S, 400 < S ∧ S ≤ m ∧ sc = nI S
def tg_RR (S m : Nat) (sc : Int32) (xt sp : Nat → Int32) (stp la en : Int32) (yt ct : Nat → Int32) : Prop :=
  tg_live S sc xt sp stp la en yt ct ∨ tg_tired m sc en
theorem tg_tired_up {m m' : Nat} {sc en : Int32} (h : tg_tired m sc en) (hm : m ≤ m') : tg_tired m' sc en := by
  obtain ⟨h1, S, h2, h3, h4⟩ := h
  exact ⟨h1, S, h2, by omega, h4⟩
theorem tg_RR_up {S m m' : Nat} {sc : Int32} {xt sp : Nat → Int32} {stp la en : Int32} {yt ct : Nat → Int32} (h : tg_RR S m sc xt sp stp la en yt ct) (hm : m ≤ m') : tg_RR S m' sc xt sp stp la en yt ct := by
  rcases h with h | h
  · exact Or.inl h
  · exact Or.inr (tg_tired_up h hm)
/-- the class's step ends whatever the times are -/
theorem tg_sx (sc : Int32) (xt sp : Nat → Int32) (p0 p1 : Int32) : ∃ t sp', ∀ {lc : Int32} {inp lk tg fs sd ob oc be bb xv : Nat → Int32} {post : Int32 → SX → Prop}, post t (lc, sc + 1, inp, lk, tg, fs, sd, ob, oc, be, bb, xv, xt, sp') → wpX_stepAfter post (lc, sc, inp, lk, tg, fs, sd, ob, oc, be, bb, xv, xt, sp) p0 p1 := by
  have key : ∀ z : Int32, ∃ t sp', ∀ {lc : Int32} {inp lk tg fs sd ob oc be bb xv : Nat → Int32} {post : Int32 → SX → Prop}, post t (lc, sc + 1, inp, lk, tg, fs, sd, ob, oc, be, bb, xv, xt, sp') → wX_stepAfter_10 post z lc sc inp lk tg fs sd ob oc be bb xv xt sp := by
    intro z
    by_cases h0 : z + 1 ≤ 0
    · exact ⟨z + 1, sp, fun hp => nm_e (nm_e (br_t h0 hp))⟩
    by_cases h1 : 401 ≤ z + 1
    · exact ⟨z + 1, sp, fun hp => nm_e (nm_e (br_f h0 (br_t h1 hp)))⟩
    have hin : vp_in (z + 1) 401 := by
      rcases pk_ix (z + 1) (n := 401) (by decide) with h | h | ⟨j, hj, e⟩
      · exact absurd (Int32.le_of_lt h) h0
      · exact absurd h h1
      · rw [e]; exact vp_in_nI hj (by decide)
    exact ⟨z + 1, _, fun hp => nm_e (nm_e (br_f h0 (br_f h1 ⟨hin, hin, nm_e hp⟩)))⟩
  by_cases h : p0 ≤ p1
  · obtain ⟨t, sp', hX⟩ := key p1
    exact ⟨t, sp', fun hp => br_t h (hX hp)⟩
  · obtain ⟨t, sp', hX⟩ := key p0
    exact ⟨t, sp', fun hp => br_f h (hX hp)⟩
theorem tg_live_s {S k c q l l' : Nat} {xt sp yt ct : Nat → Int32} (hS : S < 400) (hc : c ≤ S)
    (hT : ∀ j, j < 5 → ∃ a, a ≤ S ∧ xt j = nI a ∧ yt j = nI a) (hC : ∀ t, t < 401 → ∃ a, a ≤ S ∧ sp t = nI a ∧ ct t = nI a) (h401 : ct 401 = 0)
    (hl : l ≤ S) (hl0 : ∀ t, l < t → t < 401 → sp t = 0) (hl1 : l = 0 ∨ ∃ a, 0 < a ∧ a ≤ S ∧ sp l = nI a)
    (hl' : (c + 1 ≤ l ∧ l' = l) ∨ (l < c + 1 ∧ l' = c + 1)) (hq : q ≤ S) :
    tg_live (S + 1) (nI (S + 1)) (upd xt k (nI (c + 1))) (upd sp (c + 1) (nI (q + 1))) (nI (S + 1)) (nI l') 0 (upd yt k (nI (c + 1))) (upd ct (c + 1) (nI (q + 1))) := by
  refine ⟨by omega, rfl, rfl, rfl, fun j hj => ?_, fun t ht => ?_, ?_, l', by omega, rfl, fun t h1 h2 => ?_, ?_⟩
  · by_cases e : j = k
    · subst e; exact ⟨c + 1, by omega, pk_us, pk_us⟩
    · rw [pk_un e, pk_un e]
      obtain ⟨a, ha, h⟩ := hT j hj
      exact ⟨a, by omega, h⟩
  · by_cases e : t = c + 1
    · subst e; exact ⟨q + 1, by omega, pk_us, pk_us⟩
    · rw [pk_un e, pk_un e]
      obtain ⟨a, ha, h⟩ := hC t ht
      exact ⟨a, by omega, h⟩
  · rw [pk_un (by omega)]; exact h401
  · rw [pk_un (by omega)]; exact hl0 t (by omega) h2
  · refine Or.inr ?_
    by_cases e : l' = c + 1
    · subst e; exact ⟨q + 1, by omega, by omega, pk_us⟩
    · rw [pk_un e]
      have : l' = l := by omega
      subst this
      rcases hl1 with h | ⟨a, h1, h2, h3⟩
      · omega
      · exact ⟨a, h1, by omega, h3⟩
/-- one step of both -/
theorem tg_step1 {S k a b c : Nat} {sc : Int32} {xt sp : Nat → Int32} {stp la en : Int32} {yt ct : Nat → Int32} (hk : k < 5) (H : tg_live S sc xt sp stp la en yt ct)
    (ha : a ≤ c) (hb : b ≤ c) (hc : c = a ∨ c = b) (hcS : c ≤ S) :
    ∃ sc' t sp' stp' la' en' yt' ct', tg_RR (S + 1) 401 sc' (upd xt k t) sp' stp' la' en' yt' ct' ∧
      (∀ {lc : Int32} {inp lk tg fs sd ob oc be bb xv : Nat → Int32} {p0 p1 : Int32} {post : Int32 → SX → Prop}, p0 = nI a → p1 = nI b → post t (lc, sc', inp, lk, tg, fs, sd, ob, oc, be, bb, xv, xt, sp') → wpX_stepAfter post (lc, sc, inp, lk, tg, fs, sd, ob, oc, be, bb, xv, xt, sp) p0 p1) ∧
      (∀ {ln hg : Int32} {inq s va nu ya yb pl cs ot op yv : Nat → Int32} {p0 p1 : Int32} {post : SY → Prop}, p0 = nI k → p1 = nI c → post (ln, hg, stp', la', en', inq, s, va, nu, ya, yb, pl, cs, ot, op, yv, yt', ct') → wpY_step post (ln, hg, stp, la, en, inq, s, va, nu, ya, yb, pl, cs, ot, op, yv, yt, ct) p0 p1) := by
  have hcb : a ≤ b → c = b := fun h => by omega
  have hca : b < a → c = a := fun h => by omega
  obtain ⟨hS4, rfl, rfl, rfl, hT, hC, h401, l, hl, rfl, hl0, hl1⟩ := H
  by_cases e : S = 400
  · subst e
    obtain ⟨t, sp', hX⟩ := tg_sx (nI 400) xt sp (nI a) (nI b)
    rw [nI_1] at hX
    exact ⟨nI 401, t, sp', nI 400, nI l, 1, yt, ct, Or.inr ⟨rfl, 401, by omega, by omega, rfl⟩, fun e0 e1 hp => by subst e0 e1; exact hX hp, fun e0 e1 hp => br_t rfl hp⟩
  · obtain ⟨q, hq, eq1, eq2⟩ := hC (c + 1) (by omega)
    have main : ∀ l', (c + 1 ≤ l ∧ l' = l) ∨ (l < c + 1 ∧ l' = c + 1) → ∃ sc' t sp' stp' la' en' yt' ct', tg_RR (S + 1) 401 sc' (upd xt k t) sp' stp' la' en' yt' ct' ∧
      (∀ {lc : Int32} {inp lk tg fs sd ob oc be bb xv : Nat → Int32} {p0 p1 : Int32} {post : Int32 → SX → Prop}, p0 = nI a → p1 = nI b → post t (lc, sc', inp, lk, tg, fs, sd, ob, oc, be, bb, xv, xt, sp') → wpX_stepAfter post (lc, nI S, inp, lk, tg, fs, sd, ob, oc, be, bb, xv, xt, sp) p0 p1) ∧
      (∀ {ln hg : Int32} {inq s va nu ya yb pl cs ot op yv : Nat → Int32} {p0 p1 : Int32} {post : SY → Prop}, p0 = nI k → p1 = nI c → post (ln, hg, stp', la', en', inq, s, va, nu, ya, yb, pl, cs, ot, op, yv, yt', ct') → wpY_step post (ln, hg, nI S, nI l, 0, inq, s, va, nu, ya, yb, pl, cs, ot, op, yv, yt, ct) p0 p1) := by
      intro l' hl'
      refine ⟨nI (S + 1), nI (c + 1), upd sp (c + 1) (nI (q + 1)), nI (S + 1), nI l', 0, upd yt k (nI (c + 1)), upd ct (c + 1) (nI (q + 1)), Or.inl (tg_live_s (by omega) hcS hT hC h401 hl hl0 hl1 hl' hq), ?_, ?_⟩
      · intro lc inp lk tg fs sd ob oc be bb xv p0 p1 post e0 e1 hp
        have key : wX_stepAfter_10 post (nI c) lc (nI S) inp lk tg fs sd ob oc be bb xv xt sp := by
          have hin : vp_in (nI (c + 1)) 401 := vp_in_nI (by omega) (by decide)
          refine nm_r (nI_1 c) (nm_r (nI_1 S) (br_f (nI_nle (by omega) (by omega)) (br_f (nI_ge (b := 401) (by omega) (by decide)) ⟨hin, hin, nm_r (e' := upd sp (c + 1) (nI (q + 1))) ?_ hp⟩)))
          rw [nI_clamp (by omega), eq1, nI_1]
        subst e0 e1
        refine pk_le a b (fun h => ?_) (fun h => ?_)
        · have : c = b := hcb h
          subst this; exact key
        · have : c = a := hca h
          subst this; exact key
      · intro ln hg inq s va nu ya yb pl cs ot op yv p0 p1 post e0 e1 hp
        subst e0 e1
        have hin : vp_in (nI (c + 1)) 402 := vp_in_nI (by omega) (by decide)
        refine br_f (fun z => e ((nI_eq (b := 400) (by omega) (by decide)).mp z)) (nm_r (nI_1 S) (nm_r (nI_1 c) ⟨vp_in_nI hk (by decide), nm_r (tg_uc (by omega)) ⟨hin, hin, nm_r (e' := upd ct (c + 1) (nI (q + 1))) ?_ ?_⟩⟩))
        · rw [nI_clamp (by omega), eq2, nI_1]
        · refine pk_le (c + 1) l (fun h => ?_) (fun h => ?_)
          · have : l' = l := by omega
            subst this; exact hp
          · have : l' = c + 1 := by omega
            subst this; exact hp
    by_cases h : c + 1 ≤ l
    · exact main l (Or.inl ⟨h, rfl⟩)
    · exact main (c + 1) (Or.inr ⟨by omega, rfl⟩)
theorem tg_passX : ∀ (d k S : Nat) (xt sp : Nat → Int32), k + d = 5 → ∃ xt' sp', ∀ {lc : Int32} {inp lk tg fs sd ob oc be bb xv : Nat → Int32} {post : SX → Prop}, post (lc, nI (S + d), inp, lk, tg, fs, sd, ob, oc, be, bb, xv, xt', sp') → wX_passAll_2 post (d + 1) (nI k) lc (nI S) inp lk tg fs sd ob oc be bb xv xt sp := by
  intro d
  induction d with
  | zero =>
    intro k S xt sp hk
    have : k = 5 := by omega
    subst this
    exact ⟨xt, sp, fun hp => br_t (by decide) hp⟩
  | succ d ih =>
    intro k S xt sp hk
    have hin : vp_in (nI k) 5 := vp_in_nI (by omega) (by decide)
    obtain ⟨t, sp1, hX⟩ := tg_sx (nI S) xt sp (xt (nI k).toNatClampNeg) (xt (nI k).toNatClampNeg)
    obtain ⟨xt', sp', hr⟩ := ih (k + 1) (S + 1) (upd xt (nI k).toNatClampNeg t) sp1 (by omega)
    rw [nI_1] at hX
    rw [show S + 1 + d = S + (d + 1) by omega] at hr
    exact ⟨xt', sp', fun hp => br_f (lt5' k (by omega)) ⟨hin, hin, hX ⟨hin, nm_e (nm_r (nI_1 k) (hr hp))⟩⟩⟩
theorem tg_chooX (x2 : Int32) : ∀ (d k S : Nat) (xt sp : Nat → Int32), k + d = 5 → ∃ xt' sp', ∀ {lc : Int32} {inp lk tg fs sd ob oc be bb xv : Nat → Int32} {post : SX → Prop}, post (lc, nI (S + d), inp, lk, tg, fs, sd, ob, oc, be, bb, xv, xt', sp') → wX_chooseAll_9 post x2 (d + 1) (nI k) lc (nI S) inp lk tg fs sd ob oc be bb xv xt sp := by
  intro d
  induction d with
  | zero =>
    intro k S xt sp hk
    have : k = 5 := by omega
    subst this
    exact ⟨xt, sp, fun hp => br_t (by decide) hp⟩
  | succ d ih =>
    intro k S xt sp hk
    have hin : vp_in (nI k) 5 := vp_in_nI (by omega) (by decide)
    obtain ⟨t, sp1, hX⟩ := tg_sx (nI S) xt sp (xt (nI k).toNatClampNeg) x2
    obtain ⟨xt', sp', hr⟩ := ih (k + 1) (S + 1) (upd xt (nI k).toNatClampNeg t) sp1 (by omega)
    rw [nI_1] at hX
    rw [show S + 1 + d = S + (d + 1) by omega] at hr
    exact ⟨xt', sp', fun hp => br_f (lt5' k (by omega)) ⟨hin, hX ⟨hin, nm_e (nm_r (nI_1 k) (hr hp))⟩⟩⟩
theorem tg_passL : ∀ (d k S m : Nat) (sc : Int32) (xt sp : Nat → Int32) (stp la en : Int32) (yt ct : Nat → Int32), k + d = 5 → 401 ≤ m → tg_RR S m sc xt sp stp la en yt ct →
    ∃ sc' xt' sp' stp' la' en' yt' ct', tg_RR (S + d) (m + d) sc' xt' sp' stp' la' en' yt' ct' ∧
      (∀ {lc : Int32} {inp lk tg fs sd ob oc be bb xv : Nat → Int32} {post : SX → Prop}, post (lc, sc', inp, lk, tg, fs, sd, ob, oc, be, bb, xv, xt', sp') → wX_passAll_2 post (d + 1) (nI k) lc sc inp lk tg fs sd ob oc be bb xv xt sp) ∧
      (∀ {ln hg : Int32} {inq s va nu ya yb pl cs ot op yv : Nat → Int32} {post : SY → Prop}, post (ln, hg, stp', la', en', inq, s, va, nu, ya, yb, pl, cs, ot, op, yv, yt', ct') → wY_pass_2 post (d + 1) (nI k) ln hg stp la en inq s va nu ya yb pl cs ot op yv yt ct) := by
  intro d
  induction d with
  | zero =>
    intro k S m sc xt sp stp la en yt ct hk hm H
    have : k = 5 := by omega
    subst this
    exact ⟨sc, xt, sp, stp, la, en, yt, ct, H, fun hp => br_t (by decide) hp, fun hp => br_t (by decide) hp⟩
  | succ d ih =>
    intro k S m sc xt sp stp la en yt ct hk hm H
    have hin : vp_in (nI k) 5 := vp_in_nI (by omega) (by decide)
    have hk5 := lt5' k (by omega)
    rcases H with H | ⟨rfl, S', h1, h2, rfl⟩
    · obtain ⟨a, ha, ex, ey⟩ := H.2.2.2.2.1 k (by omega)
      have he : en = 0 := H.2.2.2.1
      obtain ⟨sc1, t, sp1, stp1, la1, en1, yt1, ct1, HR, hX, hY⟩ := tg_step1 (a := a) (b := a) (c := a) (k := k) (by omega) H (by omega) (by omega) (Or.inl rfl) ha
      obtain ⟨sc', xt', sp', stp', la', en', yt', ct', HR', hX', hY'⟩ := ih (k + 1) (S + 1) (m + 1) sc1 (upd xt k t) sp1 stp1 la1 en1 yt1 ct1 (by omega) (by omega) (tg_RR_up HR (by omega))
      have ex' : xt (nI k).toNatClampNeg = nI a := by rw [nI_clamp (by omega)]; exact ex
      have ey' : yt (nI k).toNatClampNeg = nI a := by rw [nI_clamp (by omega)]; exact ey
      refine ⟨sc', xt', sp', stp', la', en', yt', ct', by rw [show S + (d + 1) = S + 1 + d by omega, show m + (d + 1) = m + 1 + d by omega]; exact HR', ?_, ?_⟩
      · exact fun hp => br_f hk5 ⟨hin, hin, hX ex' ex' ⟨hin, nm_r (tg_uc (by omega)) (nm_r (nI_1 k) (hX' hp))⟩⟩
      · exact fun hp => br_f hk5 (br_t he ⟨hin, hY rfl ey' (nm_r (nI_1 k) (hY' hp))⟩)
    · obtain ⟨xt', sp', hX⟩ := tg_passX (d + 1) k S' xt sp hk
      exact ⟨nI (S' + (d + 1)), xt', sp', stp, la, 1, yt, ct, Or.inr ⟨rfl, S' + (d + 1), by omega, by omega, rfl⟩, hX, fun hp => br_f hk5 (br_f (by decide) hp)⟩
theorem tg_chooL (x2 : Int32) (c0 : Nat) : ∀ (d k S m : Nat) (sc : Int32) (xt sp : Nat → Int32) (stp la en : Int32) (yt ct : Nat → Int32) (y2 : Int32), k + d = 5 → 401 ≤ m → (en = 0 → x2 = nI c0 ∧ y2 = nI c0 ∧ c0 ≤ S) → tg_RR S m sc xt sp stp la en yt ct →
    ∃ sc' xt' sp' stp' la' en' yt' ct', tg_RR (S + d) (m + d) sc' xt' sp' stp' la' en' yt' ct' ∧
      (∀ {lc : Int32} {inp lk tg fs sd ob oc be bb xv : Nat → Int32} {post : SX → Prop}, post (lc, sc', inp, lk, tg, fs, sd, ob, oc, be, bb, xv, xt', sp') → wX_chooseAll_9 post x2 (d + 1) (nI k) lc sc inp lk tg fs sd ob oc be bb xv xt sp) ∧
      (∀ {ln hg : Int32} {inq s va nu ya yb pl cs ot op yv : Nat → Int32} {post : SY → Prop}, post (ln, hg, stp', la', en', inq, s, va, nu, ya, yb, pl, cs, ot, op, yv, yt', ct') → wY_choose_9 post y2 (d + 1) (nI k) ln hg stp la en inq s va nu ya yb pl cs ot op yv yt ct) := by
  intro d
  induction d with
  | zero =>
    intro k S m sc xt sp stp la en yt ct y2 hk hm h2 H
    have : k = 5 := by omega
    subst this
    exact ⟨sc, xt, sp, stp, la, en, yt, ct, H, fun hp => br_t (by decide) hp, fun hp => br_t (by decide) hp⟩
  | succ d ih =>
    intro k S m sc xt sp stp la en yt ct y2 hk hm hx2 H
    have hin : vp_in (nI k) 5 := vp_in_nI (by omega) (by decide)
    have hk5 := lt5' k (by omega)
    rcases H with H | ⟨rfl, S', h1, h2, rfl⟩
    · obtain ⟨a, ha, ex, ey⟩ := H.2.2.2.2.1 k (by omega)
      have he : en = 0 := H.2.2.2.1
      have hS := H.1
      obtain ⟨rfl, rfl, hc0⟩ := hx2 he
      obtain ⟨c, hac, hcc, hc, hcS⟩ : ∃ c, a ≤ c ∧ c0 ≤ c ∧ (c = a ∨ c = c0) ∧ c ≤ S := by
        by_cases h : a ≤ c0
        · exact ⟨c0, h, Nat.le_refl _, Or.inr rfl, hc0⟩
        · exact ⟨a, Nat.le_refl _, by omega, Or.inl rfl, ha⟩
      obtain ⟨sc1, t, sp1, stp1, la1, en1, yt1, ct1, HR, hX, hY⟩ := tg_step1 (a := a) (b := c0) (c := c) (k := k) (by omega) H hac hcc hc hcS
      obtain ⟨sc', xt', sp', stp', la', en', yt', ct', HR', hX', hY'⟩ := ih (k + 1) (S + 1) (m + 1) sc1 (upd xt k t) sp1 stp1 la1 en1 yt1 ct1 (nI c0) (by omega) (by omega) (fun _ => ⟨rfl, rfl, by omega⟩) (tg_RR_up HR (by omega))
      have ex' : xt (nI k).toNatClampNeg = nI a := by rw [nI_clamp (by omega)]; exact ex
      have ey' : yt (nI k).toNatClampNeg = nI a := by rw [nI_clamp (by omega)]; exact ey
      refine ⟨sc', xt', sp', stp', la', en', yt', ct', by rw [show S + (d + 1) = S + 1 + d by omega, show m + (d + 1) = m + 1 + d by omega]; exact HR', ?_, ?_⟩
      · exact fun hp => br_f hk5 ⟨hin, hX ex' rfl ⟨hin, nm_r (tg_uc (by omega)) (nm_r (nI_1 k) (hX' hp))⟩⟩
      · intro ln hg inq s va nu ya yb pl cs ot op yv post hp
        refine br_f hk5 (br_t he ⟨hin, ?_⟩)
        refine pk_le a c0 (fun h => ?_) (fun h => ⟨hin, ?_⟩) ey' rfl
        · exact hY rfl (by rw [show c = c0 by omega]) (nm_r (nI_1 k) (hY' hp))
        · exact hY rfl (by rw [show c = a by omega]; exact ey') (nm_r (nI_1 k) (hY' hp))
    · obtain ⟨xt', sp', hX⟩ := tg_chooX x2 (d + 1) k S' xt sp hk
      exact ⟨nI (S' + (d + 1)), xt', sp', stp, la, 1, yt, ct, Or.inr ⟨rfl, S' + (d + 1), by omega, by omega, rfl⟩, hX, fun hp => br_f hk5 (br_f (by decide) hp)⟩
section
variable {S m : Nat} {sc : Int32} {xt sp : Nat → Int32} {stp la en : Int32} {yt ct : Nat → Int32}
theorem tg_pass (hm : 401 ≤ m) (H : tg_RR S m sc xt sp stp la en yt ct) :
    ∃ sc' xt' sp' stp' la' en' yt' ct', tg_RR (S + 5) (m + 5) sc' xt' sp' stp' la' en' yt' ct' ∧
      (∀ {lc : Int32} {inp lk tg fs sd ob oc be bb xv : Nat → Int32} {post : SX → Prop}, post (lc, sc', inp, lk, tg, fs, sd, ob, oc, be, bb, xv, xt', sp') → wpX_passAll post (lc, sc, inp, lk, tg, fs, sd, ob, oc, be, bb, xv, xt, sp)) ∧
      (∀ {ln hg : Int32} {inq s va nu ya yb pl cs ot op yv : Nat → Int32} {post : SY → Prop}, post (ln, hg, stp', la', en', inq, s, va, nu, ya, yb, pl, cs, ot, op, yv, yt', ct') → wpY_pass post (ln, hg, stp, la, en, inq, s, va, nu, ya, yb, pl, cs, ot, op, yv, yt, ct)) := by
  obtain ⟨sc', xt', sp', stp', la', en', yt', ct', HR', hX', hY'⟩ := tg_passL 5 0 S m sc xt sp stp la en yt ct rfl hm H
  exact ⟨sc', xt', sp', stp', la', en', yt', ct', HR', fun hp => ⟨6, hX' hp⟩, fun hp => ⟨6, hY' hp⟩⟩
theorem tg_choo (hm : 401 ≤ m) {c : Nat} (hc : c < 5) (H : tg_RR S m sc xt sp stp la en yt ct) :
    ∃ sc' xt' sp' stp' la' en' yt' ct', tg_RR (S + 5) (m + 5) sc' xt' sp' stp' la' en' yt' ct' ∧
      (∀ {lc : Int32} {inp lk tg fs sd ob oc be bb xv : Nat → Int32} {p : Int32} {post : SX → Prop}, p = nI c → post (lc, sc', inp, lk, tg, fs, sd, ob, oc, be, bb, xv, xt', sp') → wpX_chooseAll post (lc, sc, inp, lk, tg, fs, sd, ob, oc, be, bb, xv, xt, sp) p) ∧
      (∀ {ln hg : Int32} {inq s va nu ya yb pl cs ot op yv : Nat → Int32} {p : Int32} {post : SY → Prop}, p = nI c → post (ln, hg, stp', la', en', inq, s, va, nu, ya, yb, pl, cs, ot, op, yv, yt', ct') → wpY_choose post (ln, hg, stp, la, en, inq, s, va, nu, ya, yb, pl, cs, ot, op, yv, yt, ct) p) := by
  have hin : vp_in (nI c) 5 := vp_in_nI hc (by decide)
  have hcl : (nI c).toNatClampNeg = c := nI_clamp (by omega)
  have pre : ∃ c0, en = 0 → xt c = nI c0 ∧ yt c = nI c0 ∧ c0 ≤ S := by
    rcases H with H | H
    · obtain ⟨a, ha, ex, ey⟩ := H.2.2.2.2.1 c hc
      exact ⟨a, fun _ => ⟨ex, ey, ha⟩⟩
    · exact ⟨0, fun z => absurd (H.1.symm.trans z) (by decide)⟩
  obtain ⟨c0, h0⟩ := pre
  obtain ⟨sc', xt', sp', stp', la', en', yt', ct', HR', hX', hY'⟩ := tg_chooL (xt c) c0 5 0 S m sc xt sp stp la en yt ct (yt c) rfl hm h0 H
  refine ⟨sc', xt', sp', stp', la', en', yt', ct', HR', fun e hp => ?_, fun e hp => ?_⟩
  · subst e; exact ⟨hin, nm_r (by rw [hcl]) ⟨6, hX' hp⟩⟩
  · subst e; exact ⟨hin, nm_r (by rw [hcl]) ⟨6, hY' hp⟩⟩
end
end
section
section
variable {L i S : Nat} {sc : Int32} {inp lk tg fs sd ob oc be bb xv xt sp : Nat → Int32} {hg stp la en : Int32} {inq s va nu ya yb pl cs ot op yv yt ct : Nat → Int32}
theorem tg_xf (R : tg_R L inp lk tg fs sd ob oc be bb inq s va nu ya yb) {j b c : Nat} {t : List (Nat × Nat)} (hj : j < L) (hs : s j = 3 ∨ s j = 5) (e : tg_st s j = (b, c) :: t) : bb j = nI c ∧ be c = nI j := by
  have q : ∀ {x : Int32}, s j = x → x = 3 ∨ x = 5 := fun e => by rw [← e]; exact hs
  rcases R.2.2.1 j hj with h | h | h | ⟨_, _, b', t', e', _, _, h1, h2⟩ | h | ⟨_, _, b', c', t', e', h1, h2⟩
  · exact absurd (q h.1) (by decide)
  · exact absurd (q h.1) (by decide)
  · exact absurd (q h.1) (by decide)
  · rw [e] at e'; cases e'; exact ⟨h1, h2⟩
  · exact absurd (q h.1) (by decide)
  · rw [e] at e'; cases e'; exact ⟨h1, h2⟩
theorem tg_s3 (R : tg_R L inp lk tg fs sd ob oc be bb inq s va nu ya yb) {j : Nat} (hj : j < L) (hs : s j = 3) : ∃ b t, tg_st s j = (b, b) :: t ∧ s b = 2 := by
  rcases tg_R_va R j hj with h | h | h | h
  · rcases h with h | h
    · exact absurd (hs.symm.trans h) (by decide)
    · exact absurd (hs.symm.trans h) (by decide)
  · exact h.2
  · exact absurd (hs.symm.trans h.1) (by decide)
  · rcases h with h | h
    · exact absurd (hs.symm.trans h) (by decide)
    · exact absurd (hs.symm.trans h) (by decide)
theorem tg_s5 (R : tg_R L inp lk tg fs sd ob oc be bb inq s va nu ya yb) {j : Nat} (hj : j < L) (hs : s j = 5) : ∃ b c t, tg_st s j = (b, c) :: t := by
  rcases tg_R_va R j hj with h | h | h | h
  · rcases h with h | h
    · exact absurd (hs.symm.trans h) (by decide)
    · exact absurd (hs.symm.trans h) (by decide)
  · exact absurd (hs.symm.trans h.1) (by decide)
  · exact h.2
  · rcases h with h | h
    · exact absurd (hs.symm.trans h) (by decide)
    · exact absurd (hs.symm.trans h) (by decide)
theorem tg_rt2 (R : tg_R L inp lk tg fs sd ob oc be bb inq s va nu ya yb) (h0 : tg_st s L = []) (P : tg_PF s L pl cs ot op) {i : Nat} (hi : i < L) (hs : s i = 2) :
    ∃ e, i < e ∧ e < L ∧ be i = nI e ∧ ((s e = 3 ∧ ot i = nI e) ∨ (s e = 5 ∧ ot i = -1 ∧ cs i = nI e)) := by
  obtain ⟨j, t, h1, h2, h3, h4⟩ := tg_ends (tg_R_va R) h0 hi (b := i) (c := i) (by rw [tg_st_o (Or.inl hs)]; exact List.mem_cons_self ..)
  refine ⟨j, h1, h2, (tg_xf R h2 h3 h4).2, ?_⟩
  rcases h3 with h3 | h3
  · obtain ⟨j', t', g1, g2, g3, g4⟩ := tg_ends (tg_R_va R) h0 h2 (b := i) (c := j) (by rw [tg_st_w h3 h4]; exact List.mem_cons_self ..)
    rcases g3 with g3 | g3
    · obtain ⟨b', t'', e', _⟩ := tg_s3 R g2 g3
      rw [g4] at e'; cases e'; omega
    · have := (P.2.2.1 j' i j t' g2 g3 g4).2.2
      rw [if_neg (by omega)] at this
      exact Or.inl ⟨h3, this⟩
  · have := P.2.2.1 j i i t h2 h3 h4
    rw [if_pos rfl] at this
    exact Or.inr ⟨h3, this.2.2, this.2.1⟩
theorem tg_rt3 (R : tg_R L inp lk tg fs sd ob oc be bb inq s va nu ya yb) (h0 : tg_st s L = []) (P : tg_PF s L pl cs ot op) {i : Nat} (hi : i < L) (hs : s i = 3) :
    ∃ e b, i < e ∧ e < L ∧ be i = nI e ∧ b < L ∧ op i = nI b ∧ cs b = nI e ∧ s e = 5 ∧ op e = nI b ∧ s b = 2 := by
  obtain ⟨b, t0, e0, sb⟩ := tg_s3 R hi hs
  have hd := tg_hd (tg_R_va R) (by omega) e0
  obtain ⟨j, t, h1, h2, h3, h4⟩ := tg_ends (tg_R_va R) h0 hi (b := b) (c := i) (by rw [tg_st_w hs e0]; exact List.mem_cons_self ..)
  rcases h3 with h3 | h3
  · obtain ⟨b', t'', e', _⟩ := tg_s3 R h2 h3
    rw [h4] at e'; cases e'; omega
  · have := P.2.2.1 j b i t h2 h3 h4
    exact ⟨j, b, h1, h2, (tg_xf R h2 (Or.inr h3) h4).2, by omega, P.2.2.2 i b b t0 hi hs e0, this.2.1, h3, this.1, sb⟩
theorem tg_rt4 (R : tg_R L inp lk tg fs sd ob oc be bb inq s va nu ya yb) (h0 : tg_st s L = []) (P : tg_PF s L pl cs ot op) {i : Nat} (hi : i < L) (hs : s i = 4) :
    ∃ e, i < e ∧ e < L ∧ be i = nI e ∧ cs i = nI e := by
  obtain ⟨j, t, h1, h2, h3, h4⟩ := tg_ends (tg_R_va R) h0 hi (b := i) (c := i) (by rw [tg_st_o (Or.inr hs)]; exact List.mem_cons_self ..)
  rcases h3 with h3 | h3
  · obtain ⟨b', t'', e', sb⟩ := tg_s3 R h2 h3
    rw [h4] at e'; cases e'; exact absurd (hs.symm.trans sb) (by decide)
  · exact ⟨j, h1, h2, (tg_xf R h2 (Or.inr h3) h4).2, (P.2.2.1 j i i t h2 h3 h4).2.1⟩
theorem tg_rt5 (R : tg_R L inp lk tg fs sd ob oc be bb inq s va nu ya yb) (P : tg_PF s L pl cs ot op) {i : Nat} (hi : i < L) (hs : s i = 5) :
    ∃ b c, b < L ∧ c < L ∧ op i = nI b ∧ bb i = nI c ∧ ((s b = 4 ∧ lk c = 8 ∧ c = b) ∨ (s b = 2 ∧ ¬ lk c = 8)) := by
  obtain ⟨b, c, t, e⟩ := tg_s5 R hi hs
  obtain ⟨h1, h2, h3, h4, h5, h6⟩ := tg_hd (tg_R_va R) (by omega) e
  refine ⟨b, c, by omega, by omega, (P.2.2.1 i b c t hi hs e).1, (tg_xf R hi (Or.inr hs) e).1, ?_⟩
  by_cases hc : c = b
  · subst hc
    rcases h4 with h4 | h4
    · exact Or.inr ⟨h4, by rw [(tg_lk R (by omega)).1 h4]; decide⟩
    · exact Or.inl ⟨h4, (tg_lk R (by omega)).2.2.1 h4, rfl⟩
  · obtain ⟨s3, sb, _⟩ := h5.resolve_left hc
    exact Or.inr ⟨sb, by rw [(tg_lk R (by omega)).2.1 s3]; decide⟩
theorem tg_res {k : Nat} (hk : k < 5) (x y : Int32) : ∃ r, (∀ {post : Int32 → Prop}, post r → wpX_resultOf post (nI k) x y) ∧ (∀ {u : SY} {post : Int32 → Prop}, post r → wpY_result post u (nI k) x y) := by
  have c : k = 0 ∨ k = 1 ∨ k = 2 ∨ k = 3 ∨ k = 4 := by omega
  rcases c with rfl | rfl | rfl | rfl | rfl
  · exact ⟨x + y, fun hp => br_f (by decide) (br_f (by decide) (br_t rfl hp)), fun hp => br_f (by decide) (br_t rfl hp)⟩
  · exact ⟨x - y, fun hp => br_f (by decide) (br_f (by decide) (br_f (by decide) (br_t rfl hp))), fun hp => br_f (by decide) (br_f (by decide) (br_t rfl hp))⟩
  · exact ⟨x * y, fun hp => br_f (by decide) (br_f (by decide) (br_f (by decide) (br_f (by decide) (br_t rfl hp)))), fun hp => br_f (by decide) (br_f (by decide) (br_f (by decide) hp))⟩
  · by_cases h : y ≤ x
    · exact ⟨0, fun hp => br_f (by decide) (br_f (by decide) (br_f (by decide) (br_f (by decide) (br_f (by decide) (br_t rfl (br_t h hp)))))), fun hp => br_t (by decide) (br_t rfl (br_t h hp))⟩
    · exact ⟨1, fun hp => br_f (by decide) (br_f (by decide) (br_f (by decide) (br_f (by decide) (br_f (by decide) (br_t rfl (br_f h hp)))))), fun hp => br_t (by decide) (br_t rfl (br_f h hp))⟩
  · by_cases h : x = y
    · exact ⟨1, fun hp => br_f (by decide) (br_t (by decide) (br_t h hp)), fun hp => br_t (by decide) (br_f (by decide) (br_t h hp))⟩
    · exact ⟨0, fun hp => br_f (by decide) (br_t (by decide) (br_f h hp)), fun hp => br_t (by decide) (br_f (by decide) (br_f h hp))⟩
theorem tg_l0 (hi : i < L) (hL : L ≤ 20) (hv : ∀ j, j < 4 → xv j = yv j) (H : tg_live S sc xt sp stp la en yt ct) (h : s i = 0 ∧ lk i = 5 ∧ fs i = nu i ∧ ∃ v, v < 4 ∧ tg i = nI v ∧ va i = nI v) :
    ∃ i' S' xv' sc' xt' sp' stp' la' en' yv' yt' ct', i' ≤ 20 ∧ S < S' ∧ tg_RR S' 420 sc' xt' sp' stp' la' en' yt' ct' ∧ (∀ j, j < 4 → xv' j = yv' j) ∧
      (∀ {post : Int32 → SX → Prop}, post (nI i') (nI L, sc', inp, lk, tg, fs, sd, ob, oc, be, bb, xv', xt', sp') → wpX_carryOutLine post (nI L, sc, inp, lk, tg, fs, sd, ob, oc, be, bb, xv, xt, sp) (nI i)) ∧
      (∀ {post : Int32 → SY → Prop}, post (nI i') (nI L, hg, stp', la', en', inq, s, va, nu, ya, yb, pl, cs, ot, op, yv', yt', ct') → wpY_carry post (nI L, hg, stp, la, en, inq, s, va, nu, ya, yb, pl, cs, ot, op, yv, yt, ct) (nI i)) := by
  obtain ⟨h1, h2, h3, v, hv4, h5, h6⟩ := h
  obtain ⟨a, ha, ex, ey⟩ := H.2.2.2.2.1 4 (by omega)
  obtain ⟨sc1, t, sp1, stp1, la1, en1, yt1, ct1, HR, hX, hY⟩ := tg_step1 (a := a) (b := a) (c := a) (k := v) (by omega) H (by omega) (by omega) (Or.inl rfl) ha
  have hin : vp_in (nI i) 20 := vp_in_nI (by omega) (by decide)
  have hcl : (nI i).toNatClampNeg = i := nI_clamp (by omega)
  refine ⟨i + 1, S + 1, upd xv v (fs i), sc1, upd xt v t, sp1, stp1, la1, en1, upd yv v (fs i), yt1, ct1, by omega, by omega, tg_RR_up HR (by omega), fun j hj => ?_, ?_, ?_⟩
  · by_cases e : j = v
    · subst e; rw [pk_us, pk_us]
    · rw [pk_un e, pk_un e]; exact hv j hj
  · intro post hp
    unfold wpX_carryOutLine
    refine ⟨hin, nm_r (e' := 5) (by rw [hcl]; exact h2) ?_⟩
    refine br_f (by decide) (br_f (by decide) (br_t rfl ?_))
    unfold wpX_carryOutConstant
    refine ⟨hin, nm_r (e' := nI v) (by rw [hcl]; exact h5) ?_⟩
    refine hX ex ex ?_
    refine ⟨vp_in_nI (by omega) (by decide), nm_r (tg_uc (by omega)) ⟨hin, vp_in_nI hv4 (by decide), nm_r (e' := upd xv v (fs i)) (by rw [hcl]; exact tg_uc (by omega)) ?_⟩⟩
    rw [nI_1]
    exact hp
  · intro post hp
    unfold wpY_carry
    refine ⟨hin, nm_r (e' := 0) (by rw [hcl]; exact h1) ?_⟩
    refine br_t rfl ?_
    have e6 : va (nI i).toNatClampNeg = nI v := by rw [hcl]; exact h6
    refine ⟨hin, hin, by rw [e6]; exact vp_in_nI (by omega) (by decide), nm_r (e' := upd yv v (fs i)) (by rw [e6, hcl, h3]; exact tg_uc (by omega)) ⟨hin, ?_⟩⟩
    refine hY e6 ey ?_
    rw [nI_1]
    exact hp
theorem tg_l1 (hi : i < L) (hL : L ≤ 20) (hv : ∀ j, j < 4 → xv j = yv j) (H : tg_live S sc xt sp stp la en yt ct)
    (h : s i = 1 ∧ ∃ k v a b, k < 5 ∧ v < 4 ∧ a < 4 ∧ b < 4 ∧ lk i = nI k ∧ nu i = nI k ∧ tg i = nI v ∧ va i = nI v ∧ fs i = nI a ∧ ya i = nI a ∧ sd i = nI b ∧ yb i = nI b) :
    ∃ i' S' xv' sc' xt' sp' stp' la' en' yv' yt' ct', i' ≤ 20 ∧ S < S' ∧ tg_RR S' 420 sc' xt' sp' stp' la' en' yt' ct' ∧ (∀ j, j < 4 → xv' j = yv' j) ∧
      (∀ {post : Int32 → SX → Prop}, post (nI i') (nI L, sc', inp, lk, tg, fs, sd, ob, oc, be, bb, xv', xt', sp') → wpX_carryOutLine post (nI L, sc, inp, lk, tg, fs, sd, ob, oc, be, bb, xv, xt, sp) (nI i)) ∧
      (∀ {post : Int32 → SY → Prop}, post (nI i') (nI L, hg, stp', la', en', inq, s, va, nu, ya, yb, pl, cs, ot, op, yv', yt', ct') → wpY_carry post (nI L, hg, stp, la, en, inq, s, va, nu, ya, yb, pl, cs, ot, op, yv, yt, ct) (nI i)) := by
  obtain ⟨h1, k, v, a, b, hk, hv4, ha4, hb4, q1, q2, q3, q4, q5, q6, q7, q8⟩ := h
  obtain ⟨ta, hta, eax, eay⟩ := H.2.2.2.2.1 a (by omega)
  obtain ⟨tb, htb, ebx, eby⟩ := H.2.2.2.2.1 b (by omega)
  obtain ⟨c, hac, hbc, hc, hcS⟩ : ∃ c, ta ≤ c ∧ tb ≤ c ∧ (c = ta ∨ c = tb) ∧ c ≤ S := by
    by_cases h : ta ≤ tb
    · exact ⟨tb, h, Nat.le_refl _, Or.inr rfl, htb⟩
    · exact ⟨ta, Nat.le_refl _, by omega, Or.inl rfl, hta⟩
  have hcb : ta ≤ tb → c = tb := fun h => by omega
  have hca : tb < ta → c = ta := fun h => by omega
  have hS := H.1
  obtain ⟨sc1, t, sp1, stp1, la1, en1, yt1, ct1, HR, hX, hY⟩ := tg_step1 (a := ta) (b := tb) (c := c) (k := v) (by omega) H hac hbc hc hcS
  obtain ⟨r, rX, rY⟩ := tg_res hk (xv a) (xv b)
  have hin : vp_in (nI i) 20 := vp_in_nI (by omega) (by decide)
  have hcl : (nI i).toNatClampNeg = i := nI_clamp (by omega)
  have ca : (nI a).toNatClampNeg = a := nI_clamp (by omega)
  have cb : (nI b).toNatClampNeg = b := nI_clamp (by omega)
  have ia : vp_in (nI a) 5 := vp_in_nI (by omega) (by decide)
  have ib : vp_in (nI b) 5 := vp_in_nI (by omega) (by decide)
  refine ⟨i + 1, S + 1, upd xv v r, sc1, upd xt v t, sp1, stp1, la1, en1, upd yv v r, yt1, ct1, by omega, by omega, tg_RR_up HR (by omega), fun j hj => ?_, ?_, ?_⟩
  · by_cases e : j = v
    · subst e; rw [pk_us, pk_us]
    · rw [pk_un e, pk_un e]; exact hv j hj
  · intro post hp
    unfold wpX_carryOutLine
    refine ⟨hin, nm_r (e' := nI k) (by rw [hcl]; exact q1) ?_⟩
    refine br_t (nI_lt (b := 5) hk (by decide)) ?_
    unfold wpX_carryOutOperation
    refine ⟨hin, nm_r (e' := nI v) (by rw [hcl]; exact q3) ⟨hin, nm_r (e' := nI a) (by rw [hcl]; exact q5) ⟨hin, nm_r (e' := nI b) (by rw [hcl]; exact q7) ⟨ia, ib, ?_⟩⟩⟩⟩
    refine hX (by rw [ca]; exact eax) (by rw [cb]; exact ebx) ?_
    refine ⟨vp_in_nI (by omega) (by decide), nm_r (tg_uc (by omega)) ⟨hin, vp_in_nI ha4 (by decide), vp_in_nI hb4 (by decide), ?_⟩⟩
    rw [hcl, q1, ca, cb]
    refine rX ?_
    refine ⟨vp_in_nI hv4 (by decide), nm_r (tg_uc (by omega)) ?_⟩
    rw [nI_1]
    exact hp
  · intro post hp
    have e4 : va (nI i).toNatClampNeg = nI v := by rw [hcl]; exact q4
    unfold wpY_carry
    refine ⟨hin, nm_r (e' := 1) (by rw [hcl]; exact h1) ?_⟩
    refine br_f (by decide) (br_t rfl ?_)
    unfold wpY_operate
    refine ⟨hin, nm_r (e' := nI a) (by rw [hcl]; exact q6) ⟨hin, nm_r (e' := nI b) (by rw [hcl]; exact q8) ⟨hin, hin, ia, ib, ?_⟩⟩⟩
    have e5 : nu (nI i).toNatClampNeg = nI k := by rw [hcl]; exact q2
    have e6 : yv (nI a).toNatClampNeg = xv a := by rw [ca]; exact (hv a ha4).symm
    have e7 : yv (nI b).toNatClampNeg = xv b := by rw [cb]; exact (hv b hb4).symm
    rw [e5, e6, e7]
    refine rY ?_
    refine ⟨by rw [e4]; exact vp_in_nI (by omega) (by decide), nm_r (e' := upd yv v r) (by rw [e4]; exact tg_uc (by omega)) ⟨hin, ia, ib, ?_⟩⟩
    have hp' : post (nI i + 1) (nI L, hg, stp1, la1, en1, inq, s, va, nu, ya, yb, pl, cs, ot, op, upd yv v r, yt1, ct1) := by rw [nI_1]; exact hp
    have e8 : yt (nI a).toNatClampNeg = nI ta := by rw [ca]; exact eay
    have e9 : yt (nI b).toNatClampNeg = nI tb := by rw [cb]; exact eby
    refine pk_le ta tb (fun h => ⟨ib, ?_⟩) (fun h => ⟨ia, ?_⟩) e8 e9
    · unfold wY_operate_84
      exact hY e4 (by rw [e9, hcb h]) hp'
    · unfold wY_operate_84
      exact hY e4 (by rw [e8, hca h]) hp'
theorem tg_l2 (R : tg_R L inp lk tg fs sd ob oc be bb inq s va nu ya yb) (h0 : tg_st s L = []) (P : tg_PF s L pl cs ot op) (hi : i < L) (hv : ∀ j, j < 4 → xv j = yv j) (H : tg_live S sc xt sp stp la en yt ct)
    (h : s i = 2 ∧ lk i = 6 ∧ ∃ c, c < 4 ∧ fs i = nI c ∧ va i = nI c) : ∃ i' S' xv' sc' xt' sp' stp' la' en' yv' yt' ct', i' ≤ 20 ∧ S < S' ∧ tg_RR S' 420 sc' xt' sp' stp' la' en' yt' ct' ∧ (∀ j, j < 4 → xv' j = yv' j) ∧
      (∀ {post : Int32 → SX → Prop}, post (nI i') (nI L, sc', inp, lk, tg, fs, sd, ob, oc, be, bb, xv', xt', sp') → wpX_carryOutLine post (nI L, sc, inp, lk, tg, fs, sd, ob, oc, be, bb, xv, xt, sp) (nI i)) ∧
      (∀ {post : Int32 → SY → Prop}, post (nI i') (nI L, hg, stp', la', en', inq, s, va, nu, ya, yb, pl, cs, ot, op, yv', yt', ct') → wpY_carry post (nI L, hg, stp, la, en, inq, s, va, nu, ya, yb, pl, cs, ot, op, yv, yt, ct) (nI i)) := by
  obtain ⟨h1, h2, c, hc, h3, h4⟩ := h
  have hL := R.1
  obtain ⟨e, g1, g2, g3, g4⟩ := tg_rt2 R h0 P hi h1
  obtain ⟨sc1, xt1, sp1, stp1, la1, en1, yt1, ct1, HR, hX, hY⟩ := tg_choo (m := 401) (c := c) (by omega) (by omega) (Or.inl H)
  have hin : vp_in (nI i) 20 := vp_in_nI (by omega) (by decide)
  have hcl : (nI i).toNatClampNeg = i := nI_clamp (by omega)
  have cc : (nI c).toNatClampNeg = c := nI_clamp (by omega)
  have e4 : va (nI i).toNatClampNeg = nI c := by rw [hcl]; exact h4
  have ie : vp_in (nI e) 20 := vp_in_nI (by omega) (by decide)
  have ce : (nI e).toNatClampNeg = e := nI_clamp (by omega)
  have ic : vp_in (nI c) 5 := vp_in_nI (by omega) (by decide)
  have dX : ∀ {post : Int32 → SX → Prop}, wpX_enterWhen post (nI L, sc, inp, lk, tg, fs, sd, ob, oc, be, bb, xv, xt, sp) (nI i) → wpX_carryOutLine post (nI L, sc, inp, lk, tg, fs, sd, ob, oc, be, bb, xv, xt, sp) (nI i) := by
    intro post hp
    unfold wpX_carryOutLine
    refine ⟨hin, nm_r (e' := 6) (by rw [hcl]; exact h2) ?_⟩
    exact br_f (by decide) (br_f (by decide) (br_f (by decide) (br_t rfl hp)))
  by_cases z : xv c = 0
  · have zy : yv (va (nI i).toNatClampNeg).toNatClampNeg = 0 := by rw [e4, cc, ← hv c hc]; exact z
    have fin : ∀ i', i' ≤ 20 → (∀ {post : Int32 → SX → Prop} {u : SX}, post (nI i') u → ((lk (nI e).toNatClampNeg = 7 → post (nI e + 1) u) ∧ (¬ lk (nI e).toNatClampNeg = 7 → post (nI e) u))) →
        (∀ {post : Int32 → SY → Prop} {u : SY}, post (nI i') u → ((ot (nI i).toNatClampNeg < 0 → (vp_in (nI i) 20 ∧ post (cs (nI i).toNatClampNeg) u)) ∧ (¬ ot (nI i).toNatClampNeg < 0 → (vp_in (nI i) 20 ∧ post (ot (nI i).toNatClampNeg + 1) u)))) → ∃ i' S' xv' sc' xt' sp' stp' la' en' yv' yt' ct', i' ≤ 20 ∧ S < S' ∧ tg_RR S' 420 sc' xt' sp' stp' la' en' yt' ct' ∧ (∀ j, j < 4 → xv' j = yv' j) ∧
      (∀ {post : Int32 → SX → Prop}, post (nI i') (nI L, sc', inp, lk, tg, fs, sd, ob, oc, be, bb, xv', xt', sp') → wpX_carryOutLine post (nI L, sc, inp, lk, tg, fs, sd, ob, oc, be, bb, xv, xt, sp) (nI i)) ∧
      (∀ {post : Int32 → SY → Prop}, post (nI i') (nI L, hg, stp', la', en', inq, s, va, nu, ya, yb, pl, cs, ot, op, yv', yt', ct') → wpY_carry post (nI L, hg, stp, la, en, inq, s, va, nu, ya, yb, pl, cs, ot, op, yv, yt, ct) (nI i)) := by
      intro i' hi' fX fY
      refine ⟨i', S + 5, xv, sc1, xt1, sp1, stp1, la1, en1, yv, yt1, ct1, hi', by omega, tg_RR_up HR (by omega), hv, fun hp => dX ?_, fun hp => ?_⟩
      · unfold wpX_enterWhen
        refine ⟨hin, nm_r (e' := nI c) (by rw [hcl]; exact h3) ?_⟩
        refine hX rfl ?_
        refine ⟨vp_in_nI hc (by decide), br_t (by rw [cc]; exact z) ⟨hin, nm_r (e' := nI e) (by rw [hcl]; exact g3) ⟨ie, fX hp⟩⟩⟩
      · unfold wpY_carry
        refine ⟨hin, nm_r (e' := 2) (by rw [hcl]; exact h1) ?_⟩
        refine br_f (by decide) (br_f (by decide) (br_t rfl ⟨hin, ?_⟩))
        refine hY e4 ?_
        exact ⟨hin, by rw [e4]; exact ic, br_t zy ⟨hin, fY hp⟩⟩
    rcases g4 with ⟨s3, o1⟩ | ⟨s5, o1, o2⟩
    · refine fin (e + 1) (by omega) (fun hp => br_t (by rw [ce]; exact (tg_lk R g2).2.1 s3) (by rw [nI_1]; exact hp)) (fun hp => ?_)
      rw [hcl, o1, nI_1]
      exact br_f (nI_pos (by omega)) ⟨hin, hp⟩
    · refine fin e (by omega) (fun hp => br_f (by rw [ce, (tg_lk R g2).2.2.2 s5]; decide) hp) (fun hp => ?_)
      rw [hcl, o1, o2]
      exact br_t (by decide) ⟨hin, hp⟩
  · have zy : ¬ yv (va (nI i).toNatClampNeg).toNatClampNeg = 0 := by rw [e4, cc, ← hv c hc]; exact z
    refine ⟨i + 1, S + 5, xv, sc1, xt1, sp1, stp1, la1, en1, yv, yt1, ct1, by omega, by omega, tg_RR_up HR (by omega), hv, fun hp => dX ?_, fun hp => ?_⟩
    · unfold wpX_enterWhen
      refine ⟨hin, nm_r (e' := nI c) (by rw [hcl]; exact h3) ?_⟩
      refine hX rfl ?_
      refine ⟨vp_in_nI hc (by decide), br_f (by rw [cc]; exact z) ?_⟩
      rw [nI_1]
      exact hp
    · unfold wpY_carry
      refine ⟨hin, nm_r (e' := 2) (by rw [hcl]; exact h1) ?_⟩
      refine br_f (by decide) (br_f (by decide) (br_t rfl ⟨hin, ?_⟩))
      refine hY e4 ?_
      refine ⟨hin, by rw [e4]; exact ic, br_f zy ?_⟩
      rw [nI_1]
      exact hp
theorem tg_l4 (R : tg_R L inp lk tg fs sd ob oc be bb inq s va nu ya yb) (h0 : tg_st s L = []) (P : tg_PF s L pl cs ot op) (hi : i < L) (hv : ∀ j, j < 4 → xv j = yv j) (H : tg_live S sc xt sp stp la en yt ct)
    (h : s i = 4 ∧ lk i = 8 ∧ ∃ c, c < 4 ∧ fs i = nI c ∧ va i = nI c) : ∃ i' S' xv' sc' xt' sp' stp' la' en' yv' yt' ct', i' ≤ 20 ∧ S < S' ∧ tg_RR S' 420 sc' xt' sp' stp' la' en' yt' ct' ∧ (∀ j, j < 4 → xv' j = yv' j) ∧
      (∀ {post : Int32 → SX → Prop}, post (nI i') (nI L, sc', inp, lk, tg, fs, sd, ob, oc, be, bb, xv', xt', sp') → wpX_carryOutLine post (nI L, sc, inp, lk, tg, fs, sd, ob, oc, be, bb, xv, xt, sp) (nI i)) ∧
      (∀ {post : Int32 → SY → Prop}, post (nI i') (nI L, hg, stp', la', en', inq, s, va, nu, ya, yb, pl, cs, ot, op, yv', yt', ct') → wpY_carry post (nI L, hg, stp, la, en, inq, s, va, nu, ya, yb, pl, cs, ot, op, yv, yt, ct) (nI i)) := by
  obtain ⟨h1, h2, c, hc, h3, h4⟩ := h
  have hL := R.1
  obtain ⟨e, g1, g2, g3, g4⟩ := tg_rt4 R h0 P hi h1
  obtain ⟨sc1, xt1, sp1, stp1, la1, en1, yt1, ct1, HR1, hX1, hY1⟩ := tg_pass (m := 401) (by omega) (Or.inl H)
  obtain ⟨sc2, xt2, sp2, stp2, la2, en2, yt2, ct2, HR2, hX2, hY2⟩ := tg_choo (m := 401 + 5) (c := c) (by omega) (by omega) HR1
  obtain ⟨sc3, xt3, sp3, stp3, la3, en3, yt3, ct3, HR3, hX3, hY3⟩ := tg_pass (m := 401 + 5 + 5) (by omega) HR2
  have hin : vp_in (nI i) 20 := vp_in_nI (by omega) (by decide)
  have hcl : (nI i).toNatClampNeg = i := nI_clamp (by omega)
  have cc : (nI c).toNatClampNeg = c := nI_clamp (by omega)
  have e4 : va (nI i).toNatClampNeg = nI c := by rw [hcl]; exact h4
  have ic : vp_in (nI c) 5 := vp_in_nI (by omega) (by decide)
  have dX : ∀ {post : Int32 → SX → Prop}, wpX_enterRepeat post (nI L, sc, inp, lk, tg, fs, sd, ob, oc, be, bb, xv, xt, sp) (nI i) → wpX_carryOutLine post (nI L, sc, inp, lk, tg, fs, sd, ob, oc, be, bb, xv, xt, sp) (nI i) := by
    intro post hp
    unfold wpX_carryOutLine
    refine ⟨hin, nm_r (e' := 8) (by rw [hcl]; exact h2) ?_⟩
    exact br_f (by decide) (br_f (by decide) (br_f (by decide) (br_f (by decide) (br_f (by decide) (br_t rfl hp)))))
  have dY : ∀ {post : Int32 → SY → Prop}, wpY_round post (nI L, hg, stp, la, en, inq, s, va, nu, ya, yb, pl, cs, ot, op, yv, yt, ct) (nI i) → wpY_carry post (nI L, hg, stp, la, en, inq, s, va, nu, ya, yb, pl, cs, ot, op, yv, yt, ct) (nI i) := by
    intro post hp
    unfold wpY_carry
    refine ⟨hin, nm_r (e' := 4) (by rw [hcl]; exact h1) ?_⟩
    exact br_f (by decide) (br_f (by decide) (br_f (by decide) (br_f (by decide) (br_t rfl hp))))
  by_cases z : xv c = 0
  · have zy : yv (va (nI i).toNatClampNeg).toNatClampNeg = 0 := by rw [e4, cc, ← hv c hc]; exact z
    refine ⟨e + 1, S + 5 + 5 + 5, xv, sc3, xt3, sp3, stp3, la3, en3, yv, yt3, ct3, by omega, by omega, tg_RR_up HR3 (by omega), hv, fun hp => dX ?_, fun hp => dY ?_⟩
    · unfold wpX_enterRepeat
      refine ⟨hin, nm_r (e' := nI c) (by rw [hcl]; exact h3) ?_⟩
      refine hX1 ?_
      refine hX2 rfl ?_
      refine ⟨vp_in_nI hc (by decide), br_t (by rw [cc]; exact z) ?_⟩
      refine hX3 ?_
      refine ⟨hin, ?_⟩
      rw [hcl, g3, nI_1]
      exact hp
    · unfold wpY_round
      refine hY1 ?_
      refine ⟨hin, ?_⟩
      refine hY2 e4 ?_
      refine ⟨hin, by rw [e4]; exact ic, br_t zy ?_⟩
      refine hY3 ?_
      refine ⟨hin, ?_⟩
      rw [hcl, g4, nI_1]
      exact hp
  · have zy : ¬ yv (va (nI i).toNatClampNeg).toNatClampNeg = 0 := by rw [e4, cc, ← hv c hc]; exact z
    refine ⟨i + 1, S + 5 + 5, xv, sc2, xt2, sp2, stp2, la2, en2, yv, yt2, ct2, by omega, by omega, tg_RR_up HR2 (by omega), hv, fun hp => dX ?_, fun hp => dY ?_⟩
    · unfold wpX_enterRepeat
      refine ⟨hin, nm_r (e' := nI c) (by rw [hcl]; exact h3) ?_⟩
      refine hX1 ?_
      refine hX2 rfl ?_
      refine ⟨vp_in_nI hc (by decide), br_f (by rw [cc]; exact z) ?_⟩
      rw [nI_1]
      exact hp
    · unfold wpY_round
      refine hY1 ?_
      refine ⟨hin, ?_⟩
      refine hY2 e4 ?_
      refine ⟨hin, by rw [e4]; exact ic, br_f zy ?_⟩
      rw [nI_1]
      exact hp
theorem tg_l5 (R : tg_R L inp lk tg fs sd ob oc be bb inq s va nu ya yb) (hi : i < L) (hv : ∀ j, j < 4 → xv j = yv j) (H : tg_live S sc xt sp stp la en yt ct)
    (h5 : s i = 5) {b c : Nat} (hb : b < L) (hc : c < L) (ho : op i = nI b) (hbb : bb i = nI c) (sb : s b = 2) (hk : ¬ lk c = 8) : ∃ i' S' xv' sc' xt' sp' stp' la' en' yv' yt' ct', i' ≤ 20 ∧ S < S' ∧ tg_RR S' 420 sc' xt' sp' stp' la' en' yt' ct' ∧ (∀ j, j < 4 → xv' j = yv' j) ∧
      (∀ {post : Int32 → SX → Prop}, post (nI i') (nI L, sc', inp, lk, tg, fs, sd, ob, oc, be, bb, xv', xt', sp') → wpX_carryOutLine post (nI L, sc, inp, lk, tg, fs, sd, ob, oc, be, bb, xv, xt, sp) (nI i)) ∧
      (∀ {post : Int32 → SY → Prop}, post (nI i') (nI L, hg, stp', la', en', inq, s, va, nu, ya, yb, pl, cs, ot, op, yv', yt', ct') → wpY_carry post (nI L, hg, stp, la, en, inq, s, va, nu, ya, yb, pl, cs, ot, op, yv, yt, ct) (nI i)) := by
  have hL := R.1
  obtain ⟨sc1, xt1, sp1, stp1, la1, en1, yt1, ct1, HR1, hX1, hY1⟩ := tg_pass (m := 401) (by omega) (Or.inl H)
  have hin : vp_in (nI i) 20 := vp_in_nI (by omega) (by decide)
  have hcl : (nI i).toNatClampNeg = i := nI_clamp (by omega)
  have cc : (nI c).toNatClampNeg = c := nI_clamp (by omega)
  have cb : (nI b).toNatClampNeg = b := nI_clamp (by omega)
  have eo : op (nI i).toNatClampNeg = nI b := by rw [hcl]; exact ho
  refine ⟨i + 1, S + 5, xv, sc1, xt1, sp1, stp1, la1, en1, yv, yt1, ct1, by omega, by omega, tg_RR_up HR1 (by omega), hv, fun hp => ?_, fun hp => ?_⟩
  · unfold wpX_carryOutLine
    refine ⟨hin, nm_r (e' := 9) (by rw [hcl]; exact (tg_lk R hi).2.2.2 h5) ?_⟩
    refine br_f (by decide) (br_f (by decide) (br_f (by decide) (br_f (by decide) (br_f (by decide) (br_f (by decide) (br_t rfl ?_))))))
    unfold wpX_passClose
    refine ⟨hin, nm_r (e' := nI c) (by rw [hcl]; exact hbb) ⟨vp_in_nI (by omega) (by decide), br_f (by rw [cc]; exact hk) ?_⟩⟩
    refine hX1 ?_
    rw [nI_1]
    exact hp
  · unfold wpY_carry
    refine ⟨hin, nm_r (e' := 5) (by rw [hcl]; exact h5) ?_⟩
    refine br_f (by decide) (br_f (by decide) (br_f (by decide) (br_f (by decide) (br_f (by decide) ⟨hin, ?_⟩))))
    refine ⟨by rw [eo]; exact vp_in_nI (by omega) (by decide), br_f (by rw [eo, cb, sb]; decide) ?_⟩
    refine hY1 ?_
    rw [nI_1]
    exact hp
theorem tg_q3 (R : tg_R L inp lk tg fs sd ob oc be bb inq s va nu ya yb) (hi : i < L) (h3 : s i = 3) {e b : Nat} (hb : b < L) (g1 : be i = nI e) (g2 : op i = nI b) (g3 : cs b = nI e) :
    (∀ {post : Int32 → SX → Prop}, post (nI e) (nI L, sc, inp, lk, tg, fs, sd, ob, oc, be, bb, xv, xt, sp) → wpX_carryOutLine post (nI L, sc, inp, lk, tg, fs, sd, ob, oc, be, bb, xv, xt, sp) (nI i)) ∧ (∀ {post : Int32 → SY → Prop}, post (nI e) (nI L, hg, stp, la, en, inq, s, va, nu, ya, yb, pl, cs, ot, op, yv, yt, ct) → wpY_carry post (nI L, hg, stp, la, en, inq, s, va, nu, ya, yb, pl, cs, ot, op, yv, yt, ct) (nI i)) := by
  have hL := R.1
  have hin : vp_in (nI i) 20 := vp_in_nI (by omega) (by decide)
  have hcl : (nI i).toNatClampNeg = i := nI_clamp (by omega)
  have cb : (nI b).toNatClampNeg = b := nI_clamp (by omega)
  have eo : op (nI i).toNatClampNeg = nI b := by rw [hcl]; exact g2
  refine ⟨fun hp => ?_, fun hp => ?_⟩
  · unfold wpX_carryOutLine
    refine ⟨hin, nm_r (e' := 7) (by rw [hcl]; exact (tg_lk R hi).2.1 h3) ?_⟩
    refine br_f (by decide) (br_f (by decide) (br_f (by decide) (br_f (by decide) (br_t rfl ⟨hin, ?_⟩))))
    rw [hcl, g1]
    exact hp
  · unfold wpY_carry
    refine ⟨hin, nm_r (e' := 3) (by rw [hcl]; exact h3) ?_⟩
    refine br_f (by decide) (br_f (by decide) (br_f (by decide) (br_t rfl ⟨hin, ?_⟩)))
    refine ⟨by rw [eo]; exact vp_in_nI (by omega) (by decide), ?_⟩
    rw [eo, cb, g3]
    exact hp
theorem tg_q5 (R : tg_R L inp lk tg fs sd ob oc be bb inq s va nu ya yb) (hi : i < L) (h5 : s i = 5) {b : Nat} (hb : b < L) (g1 : bb i = nI b) (g2 : op i = nI b) (g3 : s b = 4) :
    (∀ {post : Int32 → SX → Prop}, post (nI b) (nI L, sc, inp, lk, tg, fs, sd, ob, oc, be, bb, xv, xt, sp) → wpX_carryOutLine post (nI L, sc, inp, lk, tg, fs, sd, ob, oc, be, bb, xv, xt, sp) (nI i)) ∧ (∀ {post : Int32 → SY → Prop}, wpY_carry post (nI L, hg, stp, la, en, inq, s, va, nu, ya, yb, pl, cs, ot, op, yv, yt, ct) (nI b) → wpY_carry post (nI L, hg, stp, la, en, inq, s, va, nu, ya, yb, pl, cs, ot, op, yv, yt, ct) (nI i)) := by
  have hL := R.1
  have hin : vp_in (nI i) 20 := vp_in_nI (by omega) (by decide)
  have hcl : (nI i).toNatClampNeg = i := nI_clamp (by omega)
  have ib : vp_in (nI b) 20 := vp_in_nI (by omega) (by decide)
  have cb : (nI b).toNatClampNeg = b := nI_clamp (by omega)
  have eo : op (nI i).toNatClampNeg = nI b := by rw [hcl]; exact g2
  refine ⟨fun hp => ?_, fun {post} hp => ?_⟩
  · unfold wpX_carryOutLine
    refine ⟨hin, nm_r (e' := 9) (by rw [hcl]; exact (tg_lk R hi).2.2.2 h5) ?_⟩
    refine br_f (by decide) (br_f (by decide) (br_f (by decide) (br_f (by decide) (br_f (by decide) (br_f (by decide) (br_t rfl ?_))))))
    unfold wpX_passClose
    refine ⟨hin, nm_r (e' := nI b) (by rw [hcl]; exact g1) ⟨ib, br_t (by rw [cb]; exact (tg_lk R hb).2.2.1 g3) hp⟩⟩
  · unfold wpY_carry at hp ⊢
    have hr : wpY_round post (nI L, hg, stp, la, en, inq, s, va, nu, ya, yb, pl, cs, ot, op, yv, yt, ct) (nI b) := by
      have h1 := hp.2 4 (by rw [cb, g3])
      have h2 := h1.2 (by decide)
      have h3 := h2.2 (by decide)
      have h4 := h3.2 (by decide)
      have h5 := h4.2 (by decide)
      exact h5.1 rfl
    refine ⟨hin, nm_r (e' := 5) (by rw [hcl]; exact h5) ?_⟩
    refine br_f (by decide) (br_f (by decide) (br_f (by decide) (br_f (by decide) (br_f (by decide) ⟨hin, ?_⟩))))
    refine ⟨by rw [eo]; exact ib, br_t (by rw [eo, cb]; exact g3) ⟨hin, ?_⟩⟩
    rw [eo]
    exact hr
end
end
section
/-- how both end: done alike, or not done with one answer -/
def tg_Fin (r sc : Int32) (xt sp : Nat → Int32) (stp la en : Int32) (yt ct : Nat → Int32) : Prop :=
  (r = 0 ∧ ∃ S, tg_live S sc xt sp stp la en yt ct) ∨ (r = en ∧ ¬ r = 0)
theorem tg_le400 {S : Nat} (h : S ≤ 400) : nI S ≤ 400 := nI_le (b := 400) h (by decide)
theorem tg_gt400 {S : Nat} (h : 400 < S) (h' : S ≤ 1000) : ¬ nI S ≤ 400 := nI_ge (a := 400) h (by omega)
theorem tg_mv {m : Nat} (h : m < 1000000) : ¬ (1000000 : Int32) ≤ nI m := nI_ge (b := 1000000) h (by decide)
section
variable {L i S mv K : Nat} {sc : Int32} {inp lk tg fs sd ob oc be bb xv xt sp : Nat → Int32} {hg stp la en : Int32} {inq s va nu ya yb pl cs ot op yv yt ct : Nat → Int32}
theorem tg_next (hL : L ≤ 20) (hi : i < L) (H : tg_live S sc xt sp stp la en yt ct) (hS : 401 ≤ S + (K + 1)) (hm : mv + 2 * (K + 1) ≤ 1000000)
    (ih : ∀ (i S mv : Nat) (sc : Int32) (xv xt sp : Nat → Int32) (stp la en : Int32) (yv yt ct : Nat → Int32), tg_live S sc xt sp stp la en yt ct → 401 ≤ S + K → i ≤ 20 → (∀ j, j < 4 → xv j = yv j) → mv + 2 * K + 1 ≤ 1000000 →
      ∃ r xv' sc' xt' sp' stp' la' en' yv' yt' ct', tg_Fin r sc' xt' sp' stp' la' en' yt' ct' ∧ (r = 0 → ∀ j, j < 4 → xv' j = yv' j) ∧
      (∀ {n : Nat} {post : Int32 → SX → Prop}, 2 * K + 1 < n → post r (nI L, sc', inp, lk, tg, fs, sd, ob, oc, be, bb, xv', xt', sp') → wX_carryOut_17 post n (nI i) (nI mv) (nI L) sc inp lk tg fs sd ob oc be bb xv xt sp) ∧
      (∀ {post : SY → Prop}, post (nI L, hg, stp', la', en', inq, s, va, nu, ya, yb, pl, cs, ot, op, yv', yt', ct') → ∃ n, wY_work_95 post n (nI i) (nI L) hg stp la en inq s va nu ya yb pl cs ot op yv yt ct))
    (ln : ∃ i' S' xv' sc' xt' sp' stp' la' en' yv' yt' ct', i' ≤ 20 ∧ S < S' ∧ tg_RR S' 420 sc' xt' sp' stp' la' en' yt' ct' ∧ (∀ j, j < 4 → xv' j = yv' j) ∧
      (∀ {post : Int32 → SX → Prop}, post (nI i') (nI L, sc', inp, lk, tg, fs, sd, ob, oc, be, bb, xv', xt', sp') → wpX_carryOutLine post (nI L, sc, inp, lk, tg, fs, sd, ob, oc, be, bb, xv, xt, sp) (nI i)) ∧
      (∀ {post : Int32 → SY → Prop}, post (nI i') (nI L, hg, stp', la', en', inq, s, va, nu, ya, yb, pl, cs, ot, op, yv', yt', ct') → wpY_carry post (nI L, hg, stp, la, en, inq, s, va, nu, ya, yb, pl, cs, ot, op, yv, yt, ct) (nI i))) : ∃ r xv' sc' xt' sp' stp' la' en' yv' yt' ct', tg_Fin r sc' xt' sp' stp' la' en' yt' ct' ∧ (r = 0 → ∀ j, j < 4 → xv' j = yv' j) ∧
      (∀ {n : Nat} {post : Int32 → SX → Prop}, 2 * (K + 1) < n → post r (nI L, sc', inp, lk, tg, fs, sd, ob, oc, be, bb, xv', xt', sp') → wX_carryOut_17 post n (nI i) (nI mv) (nI L) sc inp lk tg fs sd ob oc be bb xv xt sp) ∧
      (∀ {post : SY → Prop}, post (nI L, hg, stp', la', en', inq, s, va, nu, ya, yb, pl, cs, ot, op, yv', yt', ct') → ∃ n, wY_work_95 post n (nI i) (nI L) hg stp la en inq s va nu ya yb pl cs ot op yv yt ct) := by
  obtain ⟨i1, S1, xv1, sc1, xt1, sp1, stp1, la1, en1, yv1, yt1, ct1, hi1, hS1, HR, hv1, hX, hY⟩ := ln
  have hS0 := H.1
  have esc : sc = nI S := H.2.1
  have een : en = 0 := H.2.2.2.1
  have h400 : sc ≤ 400 := by rw [esc]; exact tg_le400 hS0
  have hmv := tg_mv (m := mv) (by omega)
  have hiL : ¬ nI L ≤ nI i := nI_ge hi (by omega)
  rcases HR with HR | ⟨e1, S2, g1, g2, g3⟩
  · obtain ⟨r, xv', sc', xt', sp', stp', la', en', yv', yt', ct', hF, hV, hX', hY'⟩ := ih i1 S1 (mv + 1) sc1 xv1 xt1 sp1 stp1 la1 en1 yv1 yt1 ct1 HR (by omega) hi1 hv1 (by omega)
    refine ⟨r, xv', sc', xt', sp', stp', la', en', yv', yt', ct', hF, hV, ?_, ?_⟩
    · intro n post hn hp
      obtain ⟨n', rfl⟩ : ∃ n', n = n' + 1 := ⟨n - 1, by omega⟩
      refine br_f hmv (br_f hiL (br_t h400 ?_))
      refine hX ?_
      exact nm_r (nI_1 mv) (hX' (by omega) hp)
    · intro post hp
      obtain ⟨n, hn⟩ := hY' hp
      exact ⟨n + 1, br_t een (br_f hiL (hY hn))⟩
  · refine ⟨1, xv1, sc1, xt1, sp1, stp1, la1, en1, yv1, yt1, ct1, Or.inr ⟨e1.symm, by decide⟩, fun z => absurd z (by decide), ?_, ?_⟩
    · intro n post hn hp
      obtain ⟨n', rfl⟩ : ∃ n', n = n' + 1 + 1 := ⟨n - 2, by omega⟩
      refine br_f hmv (br_f hiL (br_t h400 ?_))
      refine hX ?_
      refine nm_r (nI_1 mv) ?_
      have h5 : ¬ sc1 ≤ 400 := by rw [g3]; exact tg_gt400 g1 (by omega)
      have h6 : wX_carryOut_56 post (nI L) sc1 inp lk tg fs sd ob oc be bb xv1 xt1 sp1 := br_f h5 hp
      exact br_f (tg_mv (by omega)) (br_c (fun _ => h6) (fun _ => br_f h5 h6))
    · intro post hp
      exact ⟨2, br_t een (br_f hiL (hY (br_f (by rw [e1]; decide) hp)))⟩
theorem tg_main (R : tg_R L inp lk tg fs sd ob oc be bb inq s va nu ya yb) (h0 : tg_st s L = []) (P : tg_PF s L pl cs ot op) : ∀ K : Nat, ∀ (i S mv : Nat) (sc : Int32) (xv xt sp : Nat → Int32) (stp la en : Int32) (yv yt ct : Nat → Int32), tg_live S sc xt sp stp la en yt ct → 401 ≤ S + K → i ≤ 20 → (∀ j, j < 4 → xv j = yv j) → mv + 2 * K + 1 ≤ 1000000 →
      ∃ r xv' sc' xt' sp' stp' la' en' yv' yt' ct', tg_Fin r sc' xt' sp' stp' la' en' yt' ct' ∧ (r = 0 → ∀ j, j < 4 → xv' j = yv' j) ∧
      (∀ {n : Nat} {post : Int32 → SX → Prop}, 2 * K + 1 < n → post r (nI L, sc', inp, lk, tg, fs, sd, ob, oc, be, bb, xv', xt', sp') → wX_carryOut_17 post n (nI i) (nI mv) (nI L) sc inp lk tg fs sd ob oc be bb xv xt sp) ∧
      (∀ {post : SY → Prop}, post (nI L, hg, stp', la', en', inq, s, va, nu, ya, yb, pl, cs, ot, op, yv', yt', ct') → ∃ n, wY_work_95 post n (nI i) (nI L) hg stp la en inq s va nu ya yb pl cs ot op yv yt ct) := by
  intro K
  induction K with
  | zero =>
    intro i S mv sc xv xt sp stp la en yv yt ct H hS
    have := H.1
    omega
  | succ K ih =>
    intro i S mv sc xv xt sp stp la en yv yt ct H hS hi20 hv hm
    have hL := R.1
    have hS0 := H.1
    have esc : sc = nI S := H.2.1
    have een : en = 0 := H.2.2.2.1
    have h400 : sc ≤ 400 := by rw [esc]; exact tg_le400 hS0
    have hmv := tg_mv (m := mv) (by omega)
    by_cases hi : i < L
    · have hiL : ¬ nI L ≤ nI i := nI_ge hi (by omega)
      have A : (∃ i' S' xv' sc' xt' sp' stp' la' en' yv' yt' ct', i' ≤ 20 ∧ S < S' ∧ tg_RR S' 420 sc' xt' sp' stp' la' en' yt' ct' ∧ (∀ j, j < 4 → xv' j = yv' j) ∧
      (∀ {post : Int32 → SX → Prop}, post (nI i') (nI L, sc', inp, lk, tg, fs, sd, ob, oc, be, bb, xv', xt', sp') → wpX_carryOutLine post (nI L, sc, inp, lk, tg, fs, sd, ob, oc, be, bb, xv, xt, sp) (nI i)) ∧
      (∀ {post : Int32 → SY → Prop}, post (nI i') (nI L, hg, stp', la', en', inq, s, va, nu, ya, yb, pl, cs, ot, op, yv', yt', ct') → wpY_carry post (nI L, hg, stp, la, en, inq, s, va, nu, ya, yb, pl, cs, ot, op, yv, yt, ct) (nI i))) → ∃ r xv' sc' xt' sp' stp' la' en' yv' yt' ct', tg_Fin r sc' xt' sp' stp' la' en' yt' ct' ∧ (r = 0 → ∀ j, j < 4 → xv' j = yv' j) ∧
      (∀ {n : Nat} {post : Int32 → SX → Prop}, 2 * (K + 1) + 1 < n → post r (nI L, sc', inp, lk, tg, fs, sd, ob, oc, be, bb, xv', xt', sp') → wX_carryOut_17 post n (nI i) (nI mv) (nI L) sc inp lk tg fs sd ob oc be bb xv xt sp) ∧
      (∀ {post : SY → Prop}, post (nI L, hg, stp', la', en', inq, s, va, nu, ya, yb, pl, cs, ot, op, yv', yt', ct') → ∃ n, wY_work_95 post n (nI i) (nI L) hg stp la en inq s va nu ya yb pl cs ot op yv yt ct) := by
        intro ln
        obtain ⟨r, xv', sc', xt', sp', stp', la', en', yv', yt', ct', hF, hV, hX', hY'⟩ := tg_next hL hi H hS (mv := mv) (by omega) ih ln
        exact ⟨r, xv', sc', xt', sp', stp', la', en', yv', yt', ct', hF, hV, fun hn hp => hX' (by omega) hp, hY'⟩
      rcases R.2.2.1 i hi with h | h | h | h | h | h
      · exact A (tg_l0 hi hL hv H h)
      · exact A (tg_l1 hi hL hv H h)
      · exact A (tg_l2 R h0 P hi hv H h)
      · obtain ⟨e, b, g1, g2, g3, g4, g5, g6, g7, g8, g9⟩ := tg_rt3 R h0 P hi h.1
        obtain ⟨qX, qY⟩ := tg_q3 (sc := sc) (xv := xv) (xt := xt) (sp := sp) (hg := hg) (stp := stp) (la := la) (en := en) (pl := pl) (ot := ot) (yv := yv) (yt := yt) (ct := ct) R hi h.1 g4 g3 g5 g6
        obtain ⟨b', c', w1, w2, w3, w4, w5⟩ := tg_rt5 R P g2 g7
        have hb : b' = b := (nI_eq (by omega) (by omega)).mp (w3.symm.trans g8)
        subst hb
        have w6 := w5.resolve_left (fun z => absurd (g9.symm.trans z.1) (by decide))
        obtain ⟨r, xv', sc', xt', sp', stp', la', en', yv', yt', ct', hF, hV, hX', hY'⟩ := tg_next hL g2 H hS (mv := mv + 1) (by omega) ih (tg_l5 R g2 hv H g7 w1 w2 w3 w4 w6.1 w6.2)
        refine ⟨r, xv', sc', xt', sp', stp', la', en', yv', yt', ct', hF, hV, ?_, ?_⟩
        · intro n post hn hp
          obtain ⟨n', rfl⟩ : ∃ n', n = n' + 1 := ⟨n - 1, by omega⟩
          refine br_f hmv (br_f hiL (br_t h400 ?_))
          refine qX ?_
          exact nm_r (nI_1 mv) (hX' (by omega) hp)
        · intro post hp
          obtain ⟨n, hn⟩ := hY' hp
          exact ⟨n + 1, br_t een (br_f hiL (qY hn))⟩
      · exact A (tg_l4 R h0 P hi hv H h)
      · obtain ⟨b, c, w1, w2, w3, w4, w5⟩ := tg_rt5 R P hi h.1
        rcases w5 with ⟨w5, w6, w7⟩ | ⟨w5, w6⟩
        · subst w7
          obtain ⟨qX, qY⟩ := tg_q5 (sc := sc) (xv := xv) (xt := xt) (sp := sp) (hg := hg) (stp := stp) (la := la) (en := en) (pl := pl) (cs := cs) (ot := ot) (yv := yv) (yt := yt) (ct := ct) R hi h.1 w1 w4 w3 w5
          have lb : s c = 4 ∧ lk c = 8 ∧ ∃ c', c' < 4 ∧ fs c = nI c' ∧ va c = nI c' := by
            rcases R.2.2.1 c w1 with q | q | q | q | q | q
            · exact absurd (w5.symm.trans q.1) (by decide)
            · exact absurd (w5.symm.trans q.1) (by decide)
            · exact absurd (w5.symm.trans q.1) (by decide)
            · exact absurd (w5.symm.trans q.1) (by decide)
            · exact q
            · exact absurd (w5.symm.trans q.1) (by decide)
          obtain ⟨r, xv', sc', xt', sp', stp', la', en', yv', yt', ct', hF, hV, hX', hY'⟩ := tg_next hL w1 H hS (mv := mv + 1) (by omega) ih (tg_l4 R h0 P w1 hv H lb)
          refine ⟨r, xv', sc', xt', sp', stp', la', en', yv', yt', ct', hF, hV, ?_, ?_⟩
          · intro n post hn hp
            obtain ⟨n', rfl⟩ : ∃ n', n = n' + 1 := ⟨n - 1, by omega⟩
            refine br_f hmv (br_f hiL (br_t h400 ?_))
            refine qX ?_
            exact nm_r (nI_1 mv) (hX' (by omega) hp)
          · intro post hp
            obtain ⟨n, hn⟩ := hY' hp
            cases n with
            | zero => exact absurd hn (fun z => z)
            | succ n =>
              rw [wY_work_95] at hn
              have h1 := (hn.1 een).2 (nI_ge w1 (by omega))
              exact ⟨n + 1, br_t een (br_f hiL (qY h1))⟩
        · exact A (tg_l5 R hi hv H h.1 w1 w2 w3 w4 w5 w6)
    · have hiL : nI L ≤ nI i := nI_le (by omega) (by omega)
      refine ⟨0, xv, sc, xt, sp, stp, la, en, yv, yt, ct, Or.inl ⟨rfl, S, H⟩, fun _ => hv, ?_, ?_⟩
      · intro n post hn hp
        obtain ⟨n', rfl⟩ : ∃ n', n = n' + 1 := ⟨n - 1, by omega⟩
        have h6 : wX_carryOut_56 post (nI L) sc inp lk tg fs sd ob oc be bb xv xt sp := br_t h400 hp
        exact br_f hmv (br_t hiL h6)
      · intro post hp
        exact ⟨1, br_t een (br_t hiL hp)⟩
end
end
section
theorem tg_b47 : ∀ (d k : Nat) (sp : Nat → Int32), k + d = 401 → (∀ t, t < k → sp t = 0) → ∃ sp' : Nat → Int32, (∀ t, t < 401 → sp' t = 0) ∧
    ∀ {lc : Int32} {inp lk tg fs sd ob oc be bb xv : Nat → Int32} {xt : Nat → Int32} {sc : Int32} {post : SX → Prop}, post (lc, 0, inp, lk, tg, fs, sd, ob, oc, be, bb, xv, xt, sp') → wX_beginRun_47 post lc sc (d + 1) (nI k) inp lk tg fs sd ob oc be bb xv xt sp := by
  intro d
  induction d with
  | zero =>
    intro k sp hk h
    have : k = 401 := by omega
    subst this
    exact ⟨sp, h, fun hp => br_t (by decide) hp⟩
  | succ d ih =>
    intro k sp hk h
    obtain ⟨sp', h', hX⟩ := ih (k + 1) (upd sp k 0) (by omega) (fun t ht => by
      by_cases e : t = k
      · subst e; exact pk_us
      · rw [pk_un e]; exact h t (by omega))
    exact ⟨sp', h', fun hp => br_f (nI_ge (b := 401) (by omega) (by decide)) ⟨vp_in_nI (by omega) (by decide), nm_r (tg_uc (by omega)) (nm_r (nI_1 k) (hX hp))⟩⟩
theorem tg_b27 : ∀ (d k : Nat) (xt : Nat → Int32), k + d = 5 → (∀ t, t < k → xt t = 0) → ∃ xt' : Nat → Int32, (∀ t, t < 5 → xt' t = 0) ∧
    ∀ {lc : Int32} {inp lk tg fs sd ob oc be bb xv : Nat → Int32} {sp : Nat → Int32} {sc : Int32} {post : SX → Prop}, (∃ n, wX_beginRun_47 post lc sc n 0 inp lk tg fs sd ob oc be bb xv xt' sp) → wX_beginRun_27 post lc sc (d + 1) (nI k) inp lk tg fs sd ob oc be bb xv xt sp := by
  intro d
  induction d with
  | zero =>
    intro k xt hk h
    have : k = 5 := by omega
    subst this
    exact ⟨xt, h, fun hp => br_t (by decide) hp⟩
  | succ d ih =>
    intro k xt hk h
    obtain ⟨xt', h', hX⟩ := ih (k + 1) (upd xt k 0) (by omega) (fun t ht => by
      by_cases e : t = k
      · subst e; exact pk_us
      · rw [pk_un e]; exact h t (by omega))
    exact ⟨xt', h', fun hp => br_f (lt5' k (by omega)) ⟨vp_in_nI (by omega) (by decide), nm_r (tg_uc (by omega)) (nm_r (nI_1 k) (hX hp))⟩⟩
theorem tg_b2 (inp : Nat → Int32) : ∀ (d k : Nat) (xv : Nat → Int32), k + d = 4 → (∀ t, t < k → xv t = inp t) → ∃ xv' : Nat → Int32, (∀ t, t < 4 → xv' t = inp t) ∧
    ∀ {lc : Int32} {lk tg fs sd ob oc be bb xt sp : Nat → Int32} {sc : Int32} {post : SX → Prop}, (∃ n, wX_beginRun_27 post lc sc n 0 inp lk tg fs sd ob oc be bb xv' xt sp) → wX_beginRun_2 post lc sc (d + 1) (nI k) inp lk tg fs sd ob oc be bb xv xt sp := by
  intro d
  induction d with
  | zero =>
    intro k xv hk h
    have : k = 4 := by omega
    subst this
    exact ⟨xv, h, fun hp => br_t (by decide) hp⟩
  | succ d ih =>
    intro k xv hk h
    obtain ⟨xv', h', hX⟩ := ih (k + 1) (upd xv k (inp k)) (by omega) (fun t ht => by
      by_cases e : t = k
      · subst e; exact pk_us
      · rw [pk_un e]; exact h t (by omega))
    have hin : vp_in (nI k) 4 := vp_in_nI (by omega) (by decide)
    exact ⟨xv', h', fun hp => br_f (nI_ge (b := 4) (by omega) (by decide)) ⟨hin, hin, nm_r (e' := upd xv k (inp k)) (by rw [nI_clamp (by omega)]) (nm_r (nI_1 k) (hX hp))⟩⟩
theorem tg_begin (inp xv xt sp : Nat → Int32) : ∃ xv' xt' sp' : Nat → Int32, (∀ t, t < 4 → xv' t = inp t) ∧ (∀ t, t < 5 → xt' t = 0) ∧ (∀ t, t < 401 → sp' t = 0) ∧
    ∀ {lc sc : Int32} {lk tg fs sd ob oc be bb : Nat → Int32} {post : SX → Prop}, post (lc, 0, inp, lk, tg, fs, sd, ob, oc, be, bb, xv', xt', sp') → wpX_beginRun post (lc, sc, inp, lk, tg, fs, sd, ob, oc, be, bb, xv, xt, sp) := by
  obtain ⟨xv', h1, g1⟩ := tg_b2 inp 4 0 xv rfl (fun t ht => absurd ht (by omega))
  obtain ⟨xt', h2, g2⟩ := tg_b27 5 0 xt rfl (fun t ht => absurd ht (by omega))
  obtain ⟨sp', h3, g3⟩ := tg_b47 401 0 sp rfl (fun t ht => absurd ht (by omega))
  refine ⟨xv', xt', sp', h1, h2, h3, fun hp => ⟨5, g1 ⟨6, g2 ⟨402, g3 hp⟩⟩⟩⟩
theorem tg_y32 : ∀ (d k : Nat) (ct : Nat → Int32), k + d = 402 → (∀ t, t < k → ct t = 0) → ∃ ct' : Nat → Int32, (∀ t, t < 402 → ct' t = 0) ∧
    ∀ {ln hg : Int32} {inq s va nu ya yb pl cs ot op yv : Nat → Int32} {stp la en : Int32} {yt : Nat → Int32} {post : SY → Prop}, (∃ n, wY_work_54 post ln hg stp la en n 0 inq s va nu ya yb pl cs ot op yv yt ct') → wY_work_32 post ln hg stp la en (d + 1) (nI k) inq s va nu ya yb pl cs ot op yv yt ct := by
  intro d
  induction d with
  | zero =>
    intro k ct hk h
    have : k = 402 := by omega
    subst this
    exact ⟨ct, h, fun hp => br_t (by decide) hp⟩
  | succ d ih =>
    intro k ct hk h
    obtain ⟨ct', h', hX⟩ := ih (k + 1) (upd ct k 0) (by omega) (fun t ht => by
      by_cases e : t = k
      · subst e; exact pk_us
      · rw [pk_un e]; exact h t (by omega))
    exact ⟨ct', h', fun hp => br_f (nI_ge (b := 402) (by omega) (by decide)) ⟨vp_in_nI (by omega) (by decide), nm_r (tg_uc (by omega)) (nm_r (nI_1 k) (hX hp))⟩⟩
theorem tg_y54 (inq : Nat → Int32) : ∀ (d k : Nat) (yv yt : Nat → Int32), k + d = 5 → (∀ t, t < k → t < 4 → yv t = inq t) → (∀ t, t < k → yt t = 0) → ∃ yv' yt' : Nat → Int32, (∀ t, t < 4 → yv' t = inq t) ∧ (∀ t, t < 5 → yt' t = 0) ∧
    ∀ {ln hg stp la en : Int32} {s va nu ya yb pl cs ot op ct : Nat → Int32} {post : SY → Prop}, (∃ n, wY_work_95 post n 0 ln hg stp la en inq s va nu ya yb pl cs ot op yv' yt' ct) → wY_work_54 post ln hg stp la en (d + 1) (nI k) inq s va nu ya yb pl cs ot op yv yt ct := by
  intro d
  induction d with
  | zero =>
    intro k yv yt hk h1 h2
    have : k = 5 := by omega
    subst this
    exact ⟨yv, yt, fun t ht => h1 t (by omega) ht, h2, fun hp => br_t (by decide) hp⟩
  | succ d ih =>
    intro k yv yt hk h1 h2
    have hin : vp_in (nI k) 5 := vp_in_nI (by omega) (by decide)
    have hz : ∀ t, t < k + 1 → upd yt k 0 t = 0 := fun t ht => by
      by_cases e : t = k
      · subst e; exact pk_us
      · rw [pk_un e]; exact h2 t (by omega)
    by_cases h4 : k < 4
    · obtain ⟨yv', yt', g1, g2, hY⟩ := ih (k + 1) (upd yv k (inq k)) (upd yt k 0) (by omega) (fun t ht h4' => by
        by_cases e : t = k
        · subst e; exact pk_us
        · rw [pk_un e]; exact h1 t (by omega) h4') hz
      refine ⟨yv', yt', g1, g2, fun hp => br_f (lt5' k (by omega)) (br_f (nI_ge (b := 4) h4 (by decide)) ⟨vp_in_nI h4 (by decide), ?_⟩)⟩
      exact ⟨hin, nm_r (e' := upd yv k (inq k)) (by rw [nI_clamp (by omega)]) ⟨hin, nm_r (tg_uc (by omega)) (nm_r (nI_1 k) (hY hp))⟩⟩
    · obtain ⟨yv', yt', g1, g2, hY⟩ := ih (k + 1) (upd yv k 0) (upd yt k 0) (by omega) (fun t ht h4' => by
        rw [pk_un (by omega)]; exact h1 t (by omega) h4') hz
      refine ⟨yv', yt', g1, g2, fun hp => br_f (lt5' k (by omega)) (br_t (nI_le (a := 4) (by omega) (by omega)) ?_)⟩
      exact ⟨hin, nm_r (tg_uc (by omega)) ⟨hin, nm_r (tg_uc (by omega)) (nm_r (nI_1 k) (hY hp))⟩⟩
theorem tg_w17 (inq yv yt ct : Nat → Int32) : ∃ yv' yt' ct' : Nat → Int32, (∀ t, t < 4 → yv' t = inq t) ∧ (∀ t, t < 5 → yt' t = 0) ∧ (∀ t, t < 402 → ct' t = 0) ∧
    ∀ {ln hg stp la en z : Int32} {s va nu ya yb pl cs ot op : Nat → Int32} {post : SY → Prop}, (∃ n, wY_work_95 post n 0 ln hg 0 0 z inq s va nu ya yb pl cs ot op yv' yt' ct') → wY_work_17 post z ln hg stp la en inq s va nu ya yb pl cs ot op yv yt ct := by
  obtain ⟨ct', h1, g1⟩ := tg_y32 402 0 ct rfl (fun t ht => absurd ht (by omega))
  obtain ⟨yv', yt', h2, h3, g2⟩ := tg_y54 inq 5 0 yv yt rfl (fun t ht => absurd ht (by omega)) (fun t ht => absurd ht (by omega))
  exact ⟨yv', yt', ct', h2, h3, h1, fun hp => ⟨403, g1 ⟨6, g2 hp⟩⟩⟩
theorem tg_live0 {xt sp yt ct : Nat → Int32} (h1 : ∀ t, t < 5 → xt t = 0) (h2 : ∀ t, t < 401 → sp t = 0) (h3 : ∀ t, t < 5 → yt t = 0) (h4 : ∀ t, t < 402 → ct t = 0) : tg_live 0 0 xt sp 0 0 0 yt ct :=
  ⟨by omega, rfl, rfl, rfl, fun j hj => ⟨0, by omega, h1 j hj, h3 j hj⟩, fun t ht => ⟨0, by omega, h2 t ht, h4 t (by omega)⟩, h4 401 (by omega), 0, by omega, rfl, fun t _ ht => h2 t ht, Or.inl rfl⟩
section
variable {L : Nat} {inp lk tg fs sd ob oc be bb inq s va nu ya yb : Nat → Int32}
/-- a whole run of both -/
theorem tg_run (R : tg_R L inp lk tg fs sd ob oc be bb inq s va nu ya yb) (sc : Int32) (xv xt sp : Nat → Int32) (hg stp la en : Int32) (pl cs ot op yv yt ct : Nat → Int32) :
    ∃ r xv' sc' xt' sp' hg' stp' la' en' pl' cs' ot' op' yv' yt' ct', tg_Fin r sc' xt' sp' stp' la' en' yt' ct' ∧ (r = 0 → ∀ j, j < 4 → xv' j = yv' j) ∧
      (∀ {post : Int32 → SX → Prop}, post r (nI L, sc', inp, lk, tg, fs, sd, ob, oc, be, bb, xv', xt', sp') → wpX_carryOut post (nI L, sc, inp, lk, tg, fs, sd, ob, oc, be, bb, xv, xt, sp)) ∧
      (∀ {post : SY → Prop}, post (nI L, hg', stp', la', en', inq, s, va, nu, ya, yb, pl', cs', ot', op', yv', yt', ct') → wpY_work post (nI L, hg, stp, la, en, inq, s, va, nu, ya, yb, pl, cs, ot, op, yv, yt, ct)) := by
  have hL := R.1
  have hl := tg_R_len R L (Nat.le_refl _)
  obtain ⟨pl', cs', ot', op', P, hw⟩ := tg_pair R hg stp la en pl cs ot op yv yt ct
  obtain ⟨yv0, yt0, ct0, y1, y2, y3, y4⟩ := tg_w17 inq yv yt ct
  by_cases h0 : tg_st s L = []
  · obtain ⟨xv0, xt0, sp0, x1, x2, x3, x4⟩ := tg_begin inp xv xt sp
    have e0 : nI (tg_st s L).length = 0 := by rw [h0]; rfl
    obtain ⟨r, xv', sc', xt', sp', stp', la', en', yv', yt', ct', hF, hV, hX', hY'⟩ := tg_main (hg := nI (tg_st s L).length) R h0 P 401 0 0 0 0 xv0 xt0 sp0 0 0 0 yv0 yt0 ct0 (tg_live0 x2 x3 y2 y3) (by omega) (by omega) (fun j hj => by rw [x1 j hj, y1 j hj, R.2.1]) (by omega)
    refine ⟨r, xv', sc', xt', sp', nI (tg_st s L).length, stp', la', en', pl', cs', ot', op', yv', yt', ct', hF, hV, ?_, ?_⟩
    · intro post hp
      unfold wpX_carryOut
      refine tg_ocnt hL R.2.2.2 ?_
      refine br_t (by rw [e0]; decide) ?_
      refine x4 ?_
      exact ⟨804, hX' (by omega) hp⟩
    · intro post hp
      unfold wpY_work
      refine hw _ ?_
      refine br_t (by rw [e0]; decide) ?_
      refine y4 ?_
      exact hY' hp
  · have hn : 0 < (tg_st s L).length := by
      cases e : tg_st s L with
      | nil => exact absurd e h0
      | cons a t => exact Nat.succ_pos _
    have hz : ¬ nI (tg_st s L).length ≤ 0 := nI_nle hn (by omega)
    refine ⟨2, xv, sc, xt, sp, nI (tg_st s L).length, 0, 0, 2, pl', cs', ot', op', yv0, yt0, ct0, Or.inr ⟨rfl, by decide⟩, fun z => absurd z (by decide), ?_, ?_⟩
    · intro post hp
      unfold wpX_carryOut
      refine tg_ocnt hL R.2.2.2 ?_
      exact br_f hz hp
    · intro post hp
      unfold wpY_work
      refine hw _ ?_
      refine br_f hz ?_
      refine y4 ?_
      exact ⟨1, br_f (by decide) hp⟩
end
end
section
theorem tg_Fin_e {r sc : Int32} {xt sp : Nat → Int32} {stp la en : Int32} {yt ct : Nat → Int32} (h : tg_Fin r sc xt sp stp la en yt ct) : en = r := by
  rcases h with ⟨rfl, S, h⟩ | ⟨h, _⟩
  · exact h.2.2.2.1
  · exact h.symm
theorem tg_Fin_0 {sc : Int32} {xt sp : Nat → Int32} {stp la en : Int32} {yt ct : Nat → Int32} (h : tg_Fin 0 sc xt sp stp la en yt ct) : ∃ S, tg_live S sc xt sp stp la en yt ct := by
  rcases h with ⟨_, h⟩ | ⟨_, h⟩
  · exact h
  · exact absurd rfl h
theorem tg_wideN : ∀ (d k : Nat) (x1 : Int32), k + d = 402 → ∀ {ln hg : Int32} {inq s va nu ya yb pl cs ot op yv : Nat → Int32} {stp la en : Int32} {yt ct : Nat → Int32} {post : Int32 → SY → Prop}, ¬ en = 0 → post (-1000000003) (ln, hg, stp, la, en, inq, s, va, nu, ya, yb, pl, cs, ot, op, yv, yt, ct) → wY_widest_8 post ln hg stp la en inq s va nu ya yb pl cs ot op yv yt ct (d + 1) x1 (nI k) := by
  intro d
  induction d with
  | zero =>
    intro k x1 hk
    intros
    have : k = 402 := by omega
    subst this
    rename_i he hp
    exact br_t (by decide) (br_f he hp)
  | succ d ih =>
    intro k x1 hk
    intros
    rename_i ct post he hp
    have hin : vp_in (nI k) 402 := vp_in_nI (by omega) (by decide)
    exact br_f (nI_ge (b := 402) (by omega) (by decide)) ⟨hin, br_c (fun _ => nm_r (nI_1 k) (ih (k + 1) x1 (by omega) he hp)) (fun _ => ⟨hin, nm_e (nm_r (nI_1 k) (ih (k + 1) _ (by omega) he hp))⟩)⟩
theorem tg_wide {S : Nat} {sc : Int32} {xt sp : Nat → Int32} {stp la en : Int32} {yt ct : Nat → Int32} (H : tg_live S sc xt sp stp la en yt ct) : ∀ (d k w : Nat), w ≤ S → k + d = 401 → ∃ r : Int32,
    (∀ {lc : Int32} {inp lk tg fs sd ob oc be bb xv : Nat → Int32} {post : Int32 → SX → Prop}, post r (lc, sc, inp, lk, tg, fs, sd, ob, oc, be, bb, xv, xt, sp) → wX_widest_14 post lc sc inp lk tg fs sd ob oc be bb xv xt sp (d + 1) (nI w) (nI k)) ∧
    (∀ {ln hg : Int32} {inq s va nu ya yb pl cs ot op yv : Nat → Int32} {post : Int32 → SY → Prop}, post r (ln, hg, stp, la, en, inq, s, va, nu, ya, yb, pl, cs, ot, op, yv, yt, ct) → wY_widest_8 post ln hg stp la en inq s va nu ya yb pl cs ot op yv yt ct (d + 1 + 1) (nI w) (nI k)) := by
  intro d
  have hS := H.1
  have he : en = 0 := H.2.2.2.1
  induction d with
  | zero =>
    intro k w hw hk
    have : k = 401 := by omega
    subst this
    have h1 : ct (nI 401).toNatClampNeg ≤ nI w := by rw [nI_clamp (by decide), H.2.2.2.2.2.2.1]; exact nI_pos' (by omega)
    refine ⟨nI w, fun hp => br_t (by decide) hp, fun hp => br_f (by decide) ⟨vp_in_nI (by omega) (by decide), br_t h1 (nm_r (nI_1 401) ?_)⟩⟩
    exact br_t (by decide) (br_t he hp)
  | succ d ih =>
    intro k w hw hk
    obtain ⟨a, ha, ex, ey⟩ := H.2.2.2.2.2.1 k (by omega)
    have ex' : sp (nI k).toNatClampNeg = nI a := by rw [nI_clamp (by omega)]; exact ex
    have ey' : ct (nI k).toNatClampNeg = nI a := by rw [nI_clamp (by omega)]; exact ey
    have i1 : vp_in (nI k) 401 := vp_in_nI (by omega) (by decide)
    have i2 : vp_in (nI k) 402 := vp_in_nI (by omega) (by decide)
    by_cases h : a ≤ w
    · obtain ⟨r, hX, hY⟩ := ih (k + 1) w hw (by omega)
      have hle : nI a ≤ nI w := nI_le h (by omega)
      exact ⟨r, fun hp => br_f (nI_ge (b := 401) (by omega) (by decide)) ⟨i1, br_t (by rw [ex']; exact hle) (nm_r (nI_1 k) (hX hp))⟩,
        fun hp => br_f (nI_ge (b := 402) (by omega) (by decide)) ⟨i2, br_t (by rw [ey']; exact hle) (nm_r (nI_1 k) (hY hp))⟩⟩
    · obtain ⟨r, hX, hY⟩ := ih (k + 1) a ha (by omega)
      have hle : ¬ nI a ≤ nI w := nI_ge (by omega) (by omega)
      exact ⟨r, fun hp => br_f (nI_ge (b := 401) (by omega) (by decide)) ⟨i1, br_f (by rw [ex']; exact hle) ⟨i1, nm_r ex' (nm_r (nI_1 k) (hX hp))⟩⟩,
        fun hp => br_f (nI_ge (b := 402) (by omega) (by decide)) ⟨i2, br_f (by rw [ey']; exact hle) ⟨i2, nm_r ey' (nm_r (nI_1 k) (hY hp))⟩⟩⟩
theorem tg_lastX {S l : Nat} {sp : Nat → Int32} (hS : S ≤ 400) (hC : ∀ t, t < 401 → ∃ a, a ≤ S ∧ sp t = nI a) (hl : l ≤ S) (hl0 : ∀ t, l < t → t < 401 → sp t = 0) (hl1 : l = 0 ∨ ∃ a, 0 < a ∧ a ≤ S ∧ sp l = nI a) :
    ∀ (d k w : Nat), k + d = 401 → (k = 0 → w = 0) → (l < k → w = l) → ∀ {lc : Int32} {inp lk tg fs sd ob oc be bb xv : Nat → Int32} {sc : Int32} {xt : Nat → Int32} {post : Int32 → SX → Prop}, post (nI l) (lc, sc, inp, lk, tg, fs, sd, ob, oc, be, bb, xv, xt, sp) → wX_last_14 post lc sc inp lk tg fs sd ob oc be bb xv xt sp (d + 1) (nI w) (nI k) := by
  intro d
  induction d with
  | zero =>
    intro k w hk h0 h1 lc inp lk tg fs sd ob oc be bb xv sc xt post hp
    have : k = 401 := by omega
    subst this
    rw [h1 (by omega)]
    exact br_t (by decide) hp
  | succ d ih =>
    intro k w hk h0 h1 lc inp lk tg fs sd ob oc be bb xv sc xt post hp
    obtain ⟨a, ha, ex⟩ := hC k (by omega)
    have ex' : sp (nI k).toNatClampNeg = nI a := by rw [nI_clamp (by omega)]; exact ex
    have i1 : vp_in (nI k) 401 := vp_in_nI (by omega) (by decide)
    by_cases h : a = 0
    · subst h
      refine br_f (nI_ge (b := 401) (by omega) (by decide)) ⟨i1, br_t (by rw [ex']; decide) (nm_r (nI_1 k) (ih (k + 1) w (by omega) (by omega) ?_ hp))⟩
      intro hlk
      by_cases e : l = k
      · rcases hl1 with h | ⟨a', g1, g2, g3⟩
        · rw [h0 (by omega), h]
        · rw [e, ex] at g3
          have := (nI_eq (a := 0) (b := a') (by omega) (by omega)).mp g3
          omega
      · exact h1 (by omega)
    · refine br_f (nI_ge (b := 401) (by omega) (by decide)) ⟨i1, br_f (by rw [ex']; exact nI_nle (by omega) (by omega)) (nm_r (nI_1 k) (ih (k + 1) k (by omega) (by omega) ?_ hp))⟩
      intro hlk
      by_cases e : l = k
      · exact e.symm
      · have := hl0 k (by omega) (by omega)
        rw [ex] at this
        exact absurd ((nI_eq (b := 0) (by omega) (by omega)).mp this) h
theorem i_vc_run {k : Nat} {u : SX} {v : SY} (I : i_Rel k u v) (hk : k + 5 ≤ 2560) : wpX_run (fun r u' => wpY_run (fun r' v' => r' = r ∧ i_Rel (k + 5) u' v') v) u := by
  obtain ⟨lc, sc, inp, lk, tg, fs, sd, ob, oc, be, bb, xv, xt, sp⟩ := u
  obtain ⟨ln, hg, stp, la, en, inq, s, va, nu, ya, yb, pl, cs, ot, op, yv, yt, ct⟩ := v
  obtain ⟨L, rfl, rfl, R⟩ := I
  obtain ⟨r, xv', sc', xt', sp', hg', stp', la', en', pl', cs', ot', op', yv', yt', ct', hF, hV, hX, hY⟩ := tg_run R sc xv xt sp hg stp la en pl cs ot op yv yt ct
  unfold wpX_run wpY_run
  refine hX ?_
  refine hY ?_
  exact ⟨tg_Fin_e hF, L, rfl, rfl, R⟩
theorem i_vc_value {k : Nat} {u : SX} {v : SY} (I : i_Rel k u v) (hk : k + 5 ≤ 2560) (v1 : Int32) (v2 : Int32) : wpX_value (fun r u' => wpY_value (fun r' v' => r' = r ∧ i_Rel (k + 5) u' v') v v1 v2) u v1 v2 := by
  obtain ⟨lc, sc, inp, lk, tg, fs, sd, ob, oc, be, bb, xv, xt, sp⟩ := u
  obtain ⟨ln, hg, stp, la, en, inq, s, va, nu, ya, yb, pl, cs, ot, op, yv, yt, ct⟩ := v
  obtain ⟨L, rfl, rfl, R⟩ := I
  obtain ⟨r, xv', sc', xt', sp', hg', stp', la', en', pl', cs', ot', op', yv', yt', ct', hF, hV, hX, hY⟩ := tg_run R sc xv xt sp hg stp la en pl cs ot op yv yt ct
  unfold wpX_value wpY_value
  rcases tg_ix4 v1 with h | ⟨j, hj, rfl⟩
  · refine tg_vX0 h ?_
    refine br_t rfl ?_
    refine tg_vY0 h ?_
    refine br_t rfl ?_
    exact ⟨rfl, L, rfl, rfl, R⟩
  refine tg_vX1 hj ?_
  refine br_f (by decide) ?_
  by_cases h0 : v2 < 0
  · refine br_t h0 ?_
    refine tg_vY1 hj ?_
    refine br_f (by decide) (br_t h0 ?_)
    exact ⟨rfl, L, rfl, rfl, R⟩
  refine br_f h0 ?_
  obtain ⟨o, ho, rfl⟩ := nI_of h0
  by_cases h3 : o < 3
  · have hle : nI o ≤ 2 := nI_le (b := 2) (by omega) (by decide)
    refine br_t (nI_lt (b := 3) h3 (by decide)) ?_
    refine hX ?_
    by_cases z : r = 0
    · subst z
      obtain ⟨S, H⟩ := tg_Fin_0 hF
      have he : en' = 0 := H.2.2.2.1
      refine br_t rfl ⟨vp_in_nI hj (by decide), ?_⟩
      refine tg_vY1 hj ?_
      refine br_f (by decide) (br_f h0 (br_t hle ?_))
      refine hY ?_
      refine br_t he ⟨vp_in_nI (by omega) (by decide), ?_⟩
      rw [nI_clamp (by omega), hV rfl j hj]
      exact ⟨rfl, L, rfl, rfl, R⟩
    · refine br_f z ?_
      refine tg_vY1 hj ?_
      refine br_f (by decide) (br_f h0 (br_t hle ?_))
      refine hY ?_
      refine br_f (by rw [tg_Fin_e hF]; exact z) ?_
      exact ⟨rfl, L, rfl, rfl, R⟩
  · refine br_f (fun q => h3 ((nI_ltI (b := 3) ho (by decide)).mp q)) ?_
    refine tg_vY1 hj ?_
    refine br_f (by decide) (br_f h0 (br_f (nI_ge (a := 2) (by omega) ho) ?_))
    exact ⟨rfl, L, rfl, rfl, R⟩
theorem i_vc_time {k : Nat} {u : SX} {v : SY} (I : i_Rel k u v) (hk : k + 5 ≤ 2560) (v1 : Int32) : wpX_time (fun r u' => wpY_time (fun r' v' => r' = r ∧ i_Rel (k + 5) u' v') v v1) u v1 := by
  obtain ⟨lc, sc, inp, lk, tg, fs, sd, ob, oc, be, bb, xv, xt, sp⟩ := u
  obtain ⟨ln, hg, stp, la, en, inq, s, va, nu, ya, yb, pl, cs, ot, op, yv, yt, ct⟩ := v
  obtain ⟨L, rfl, rfl, R⟩ := I
  obtain ⟨r, xv', sc', xt', sp', hg', stp', la', en', pl', cs', ot', op', yv', yt', ct', hF, hV, hX, hY⟩ := tg_run R sc xv xt sp hg stp la en pl cs ot op yv yt ct
  unfold wpX_time wpY_time
  rcases tg_ix4 v1 with h | ⟨j, hj, rfl⟩
  · refine tg_vX0 h ?_
    refine br_t rfl ?_
    refine tg_vY0 h ?_
    refine br_t rfl ?_
    exact ⟨rfl, L, rfl, rfl, R⟩
  refine tg_vX1 hj ?_
  refine br_f (by decide) ?_
  refine hX ?_
  by_cases z : r = 0
  · subst z
    obtain ⟨S, H⟩ := tg_Fin_0 hF
    have he : en' = 0 := H.2.2.2.1
    obtain ⟨a, _, ex, ey⟩ := H.2.2.2.2.1 j (by omega)
    have hin : vp_in (nI j) 5 := vp_in_nI (by omega) (by decide)
    refine br_t rfl ⟨hin, ?_⟩
    refine tg_vY1 hj ?_
    refine br_f (by decide) ?_
    refine hY ?_
    refine br_t he ⟨hin, ?_⟩
    rw [nI_clamp (by omega), ex, ey]
    exact ⟨rfl, L, rfl, rfl, R⟩
  · refine br_f z ?_
    refine tg_vY1 hj ?_
    refine br_f (by decide) ?_
    refine hY ?_
    refine br_f (by rw [tg_Fin_e hF]; exact z) ?_
    exact ⟨rfl, L, rfl, rfl, R⟩
theorem i_vc_go {k : Nat} {u : SX} {v : SY} (I : i_Rel k u v) (hk : k + 5 ≤ 2560) : wpX_go (fun r u' => wpY_go (fun r' v' => r' = r ∧ i_Rel (k + 5) u' v') v) u := by
  obtain ⟨lc, sc, inp, lk, tg, fs, sd, ob, oc, be, bb, xv, xt, sp⟩ := u
  obtain ⟨ln, hg, stp, la, en, inq, s, va, nu, ya, yb, pl, cs, ot, op, yv, yt, ct⟩ := v
  obtain ⟨L, rfl, rfl, R⟩ := I
  obtain ⟨r, xv', sc', xt', sp', hg', stp', la', en', pl', cs', ot', op', yv', yt', ct', hF, hV, hX, hY⟩ := tg_run R sc xv xt sp hg stp la en pl cs ot op yv yt ct
  unfold wpX_go wpY_go
  refine hX ?_
  by_cases z : r = 0
  · subst z
    obtain ⟨S, H⟩ := tg_Fin_0 hF
    have he : en' = 0 := H.2.2.2.1
    obtain ⟨a, _, ex, ey⟩ := H.2.2.2.2.1 4 (by omega)
    refine br_t rfl ?_
    refine hY ?_
    refine br_t he ?_
    exact ⟨ey.trans ex.symm, L, rfl, rfl, R⟩
  · refine br_f z ?_
    refine hY ?_
    refine br_f (by rw [tg_Fin_e hF]; exact z) ?_
    exact ⟨rfl, L, rfl, rfl, R⟩
theorem i_vc_steps {k : Nat} {u : SX} {v : SY} (I : i_Rel k u v) (hk : k + 5 ≤ 2560) : wpX_steps (fun r u' => wpY_steps (fun r' v' => r' = r ∧ i_Rel (k + 5) u' v') v) u := by
  obtain ⟨lc, sc, inp, lk, tg, fs, sd, ob, oc, be, bb, xv, xt, sp⟩ := u
  obtain ⟨ln, hg, stp, la, en, inq, s, va, nu, ya, yb, pl, cs, ot, op, yv, yt, ct⟩ := v
  obtain ⟨L, rfl, rfl, R⟩ := I
  obtain ⟨r, xv', sc', xt', sp', hg', stp', la', en', pl', cs', ot', op', yv', yt', ct', hF, hV, hX, hY⟩ := tg_run R sc xv xt sp hg stp la en pl cs ot op yv yt ct
  unfold wpX_steps wpY_steps
  refine hX ?_
  by_cases z : r = 0
  · subst z
    obtain ⟨S, H⟩ := tg_Fin_0 hF
    have he : en' = 0 := H.2.2.2.1
    refine br_t rfl ?_
    refine hY ?_
    refine br_t he ?_
    exact ⟨H.2.2.1.trans H.2.1.symm, L, rfl, rfl, R⟩
  · refine br_f z ?_
    refine hY ?_
    refine br_f (by rw [tg_Fin_e hF]; exact z) ?_
    exact ⟨rfl, L, rfl, rfl, R⟩
theorem i_vc_widest {k : Nat} {u : SX} {v : SY} (I : i_Rel k u v) (hk : k + 5 ≤ 2560) : wpX_widest (fun r u' => wpY_widest (fun r' v' => r' = r ∧ i_Rel (k + 5) u' v') v) u := by
  obtain ⟨lc, sc, inp, lk, tg, fs, sd, ob, oc, be, bb, xv, xt, sp⟩ := u
  obtain ⟨ln, hg, stp, la, en, inq, s, va, nu, ya, yb, pl, cs, ot, op, yv, yt, ct⟩ := v
  obtain ⟨L, rfl, rfl, R⟩ := I
  obtain ⟨r, xv', sc', xt', sp', hg', stp', la', en', pl', cs', ot', op', yv', yt', ct', hF, hV, hX, hY⟩ := tg_run R sc xv xt sp hg stp la en pl cs ot op yv yt ct
  unfold wpX_widest wpY_widest
  refine hX ?_
  by_cases z : r = 0
  · subst z
    obtain ⟨S, H⟩ := tg_Fin_0 hF
    have he : en' = 0 := H.2.2.2.1
    obtain ⟨w, wX, wY⟩ := tg_wide H 401 0 0 (by omega) rfl
    refine br_t rfl ⟨402, ?_⟩
    refine wX ?_
    refine hY ?_
    refine ⟨403, wY ?_⟩
    exact ⟨rfl, L, rfl, rfl, R⟩
  · refine br_f z ?_
    refine hY ?_
    refine ⟨403, tg_wideN 402 0 0 rfl (by rw [tg_Fin_e hF]; exact z) ?_⟩
    exact ⟨rfl, L, rfl, rfl, R⟩
theorem i_vc_at {k : Nat} {u : SX} {v : SY} (I : i_Rel k u v) (hk : k + 5 ≤ 2560) (v1 : Int32) : wpX_at (fun r u' => wpY_at (fun r' v' => r' = r ∧ i_Rel (k + 5) u' v') v v1) u v1 := by
  obtain ⟨lc, sc, inp, lk, tg, fs, sd, ob, oc, be, bb, xv, xt, sp⟩ := u
  obtain ⟨ln, hg, stp, la, en, inq, s, va, nu, ya, yb, pl, cs, ot, op, yv, yt, ct⟩ := v
  obtain ⟨L, rfl, rfl, R⟩ := I
  obtain ⟨r, xv', sc', xt', sp', hg', stp', la', en', pl', cs', ot', op', yv', yt', ct', hF, hV, hX, hY⟩ := tg_run R sc xv xt sp hg stp la en pl cs ot op yv yt ct
  unfold wpX_at wpY_at
  refine hX ?_
  by_cases z : r = 0
  · subst z
    obtain ⟨S, H⟩ := tg_Fin_0 hF
    have he : en' = 0 := H.2.2.2.1
    refine br_t rfl ?_
    by_cases h0 : v1 < 0
    · refine br_t h0 ?_
      refine hY ?_
      refine br_t he (br_t h0 ?_)
      exact ⟨rfl, L, rfl, rfl, R⟩
    obtain ⟨t, ht, rfl⟩ := nI_of h0
    refine br_f h0 ?_
    by_cases h1 : t < 401
    · obtain ⟨a, _, ex, ey⟩ := H.2.2.2.2.2.1 t h1
      refine br_t (nI_lt (b := 401) h1 (by decide)) ⟨vp_in_nI h1 (by decide), ?_⟩
      refine hY ?_
      refine br_t he (br_f h0 (br_t (nI_le (b := 401) (by omega) (by decide)) ⟨vp_in_nI (by omega) (by decide), ?_⟩))
      rw [nI_clamp ht, ex, ey]
      exact ⟨rfl, L, rfl, rfl, R⟩
    · refine br_f (fun q => h1 ((nI_ltI (b := 401) ht (by decide)).mp q)) ?_
      refine hY ?_
      by_cases h2 : t = 401
      · subst h2
        refine br_t he (br_f h0 (br_t (by decide) ⟨vp_in_nI (by omega) (by decide), ?_⟩))
        rw [nI_clamp ht, H.2.2.2.2.2.2.1]
        exact ⟨rfl, L, rfl, rfl, R⟩
      · refine br_t he (br_f h0 (br_f (nI_ge (a := 401) (by omega) ht) ?_))
        exact ⟨rfl, L, rfl, rfl, R⟩
  · refine br_f z ?_
    refine hY ?_
    refine br_f (by rw [tg_Fin_e hF]; exact z) ?_
    exact ⟨rfl, L, rfl, rfl, R⟩
theorem i_vc_last {k : Nat} {u : SX} {v : SY} (I : i_Rel k u v) (hk : k + 5 ≤ 2560) : wpX_last (fun r u' => wpY_last (fun r' v' => r' = r ∧ i_Rel (k + 5) u' v') v) u := by
  obtain ⟨lc, sc, inp, lk, tg, fs, sd, ob, oc, be, bb, xv, xt, sp⟩ := u
  obtain ⟨ln, hg, stp, la, en, inq, s, va, nu, ya, yb, pl, cs, ot, op, yv, yt, ct⟩ := v
  obtain ⟨L, rfl, rfl, R⟩ := I
  obtain ⟨r, xv', sc', xt', sp', hg', stp', la', en', pl', cs', ot', op', yv', yt', ct', hF, hV, hX, hY⟩ := tg_run R sc xv xt sp hg stp la en pl cs ot op yv yt ct
  unfold wpX_last wpY_last
  refine hX ?_
  by_cases z : r = 0
  · subst z
    obtain ⟨S, H⟩ := tg_Fin_0 hF
    have he : en' = 0 := H.2.2.2.1
    have H' := H
    obtain ⟨hS4, e1, e2, e3, hT, hC, h401, l, hl, e4, hl0, hl1⟩ := H'
    refine br_t rfl ⟨402, ?_⟩
    refine tg_lastX hS4 (fun t ht => by obtain ⟨a, g1, g2, _⟩ := hC t ht; exact ⟨a, g1, g2⟩) hl hl0 hl1 401 0 0 rfl (fun _ => rfl) (fun q => absurd q (by omega)) ?_
    refine hY ?_
    refine br_t he ?_
    exact ⟨e4, L, rfl, rfl, R⟩
  · refine br_f z ?_
    refine hY ?_
    refine br_f (by rw [tg_Fin_e hF]; exact z) ?_
    exact ⟨rfl, L, rfl, rfl, R⟩
end

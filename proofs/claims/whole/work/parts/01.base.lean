theorem pk_us {f : Nat → Int32} {k : Nat} {x : Int32} : upd f k x k = x := if_pos rfl
theorem pk_un {f : Nat → Int32} {k j : Nat} {x : Int32} (h : j ≠ k) : upd f k x j = f j := if_neg h
theorem pk_sub {a b : Nat} (h : b ≤ a) : nI a - nI b = nI (a - b) := by
  obtain ⟨c, rfl⟩ : ∃ c, a = c + b := ⟨a - b, by omega⟩
  rw [← nI_add, Int32.add_sub_cancel, Nat.add_sub_cancel]
theorem pk_ix (x : Int32) {n : Nat} (hn : n < 2 ^ 31) : x < 0 ∨ nI n ≤ x ∨ ∃ j : Nat, j < n ∧ x = nI j := by
  by_cases h : x < 0
  · exact Or.inl h
  · obtain ⟨j, hj, rfl⟩ := nI_of h
    by_cases h2 : j < n
    · exact Or.inr (Or.inr ⟨j, h2, rfl⟩)
    · exact Or.inr (Or.inl (nI_le (by omega) hj))
theorem pk_le {x y : Int32} {A B : Prop} (a b : Nat) (f : a ≤ b → A) (g : b < a → B) (hx : x = nI a := by rfl) (hy : y = nI b := by rfl) (ha : a < 2 ^ 31 := by omega) (hb : b < 2 ^ 31 := by omega) : (x ≤ y → A) ∧ (¬ x ≤ y → B) := by
  subst hx hy
  rw [nI_leI ha hb]
  exact ⟨f, fun z => g (by omega)⟩
theorem pk_lt {x y : Int32} {A B : Prop} (a b : Nat) (f : a < b → A) (g : b ≤ a → B) (hx : x = nI a := by rfl) (hy : y = nI b := by rfl) (ha : a < 2 ^ 31 := by omega) (hb : b < 2 ^ 31 := by omega) : (x < y → A) ∧ (¬ x < y → B) := by
  subst hx hy
  rw [nI_ltI ha hb]
  exact ⟨f, fun z => g (by omega)⟩
theorem pk_eq {x y : Int32} {A B : Prop} (a b : Nat) (f : a = b → A) (g : a ≠ b → B) (hx : x = nI a := by rfl) (hy : y = nI b := by rfl) (ha : a < 2 ^ 31 := by omega) (hb : b < 2 ^ 31 := by omega) : (x = y → A) ∧ (¬ x = y → B) := by
  subst hx hy
  rw [nI_eq ha hb]
  exact ⟨f, g⟩
theorem pk_in {x : Int32} (n N : Nat) (h : n < N) (hx : x = nI n := by rfl) (hN : N < 2 ^ 31 := by omega) : vp_in x N := by
  subst hx
  exact vp_in_nI h hN
theorem pk_cl {x : Int32} (n : Nat) (hx : x = nI n := by rfl) (h : n < 2 ^ 31 := by omega) : x.toNatClampNeg = n := by
  subst hx
  exact nI_clamp h
/-- the stack before line i: (the line of the when or repeat, the line that began its present block) -/
def tg_st (s : Nat → Int32) : Nat → List (Nat × Nat)
  | 0 => []
  | i + 1 => if s i = 2 ∨ s i = 4 then (i, i) :: tg_st s i
    else if s i = 3 then (match tg_st s i with | [] => [] | e :: t => (e.1, i) :: t)
    else if s i = 5 then (tg_st s i).tail else tg_st s i
theorem tg_st_o {s : Nat → Int32} {i : Nat} (h : s i = 2 ∨ s i = 4) : tg_st s (i + 1) = (i, i) :: tg_st s i := by
  rw [tg_st, if_pos h]
theorem tg_st_w {s : Nat → Int32} {i b c : Nat} {t : List (Nat × Nat)} (h : s i = 3) (e : tg_st s i = (b, c) :: t) : tg_st s (i + 1) = (b, i) :: t := by
  rw [tg_st, if_neg (by rw [h]; decide), if_pos h, e]
theorem tg_st_c {s : Nat → Int32} {i : Nat} (h : s i = 5) : tg_st s (i + 1) = (tg_st s i).tail := by
  rw [tg_st, if_neg (by rw [h]; decide), if_neg (by rw [h]; decide), if_pos h]
theorem tg_st_n {s : Nat → Int32} {i : Nat} (h : s i = 0 ∨ s i = 1) : tg_st s (i + 1) = tg_st s i := by
  rw [tg_st]
  cases h with
  | inl h => rw [if_neg (by rw [h]; decide), if_neg (by rw [h]; decide), if_neg (by rw [h]; decide)]
  | inr h => rw [if_neg (by rw [h]; decide), if_neg (by rw [h]; decide), if_neg (by rw [h]; decide)]
theorem tg_st_ext {s s' : Nat → Int32} : ∀ i, (∀ j, j < i → s' j = s j) → tg_st s' i = tg_st s i := by
  intro i
  induction i with
  | zero => intro _; rfl
  | succ i ih =>
    intro h
    rw [tg_st, tg_st, ih (fun j hj => h j (by omega)), h i (by omega)]
/-- the lines below L end only what stands -/
def tg_va (s : Nat → Int32) (L : Nat) : Prop := ∀ i, i < L →
  ((s i = 2 ∨ s i = 4) ∨ (s i = 3 ∧ ∃ b t, tg_st s i = (b, b) :: t ∧ s b = 2) ∨ (s i = 5 ∧ ∃ b c t, tg_st s i = (b, c) :: t) ∨ (s i = 0 ∨ s i = 1))
def tg_wf (s : Nat → Int32) : Nat → List (Nat × Nat) → Prop
  | _, [] => True
  | i, (b, c) :: t => b ≤ c ∧ c < i ∧ tg_st s b = t ∧ (s b = 2 ∨ s b = 4) ∧ (c = b ∨ (s c = 3 ∧ s b = 2 ∧ tg_st s c = (b, b) :: t)) ∧ tg_wf s b t
theorem tg_wf_up {s : Nat → Int32} {l : List (Nat × Nat)} {i i' : Nat} (h : tg_wf s i l) (hi : i ≤ i') : tg_wf s i' l := by
  cases l with
  | nil => trivial
  | cons e t =>
    obtain ⟨b, c⟩ := e
    obtain ⟨h1, h2, h3⟩ := h
    exact ⟨h1, by omega, h3⟩
theorem tg_wf_st {s : Nat → Int32} {L : Nat} (h : tg_va s L) : ∀ i, i ≤ L → tg_wf s i (tg_st s i) := by
  intro i
  induction i with
  | zero => intro _; trivial
  | succ i ih =>
    intro hi
    have ih := ih (by omega)
    rcases h i (by omega) with o | ⟨w, b, t, e, sb⟩ | ⟨c5, b, c, t, e⟩ | n
    · rw [tg_st_o o]
      exact ⟨Nat.le_refl _, by omega, rfl, o, Or.inl rfl, ih⟩
    · rw [tg_st_w w e]
      rw [e] at ih
      obtain ⟨h1, h2, h3, h4, h5, h6⟩ := ih
      exact ⟨by omega, by omega, h3, h4, Or.inr ⟨w, sb, e⟩, h6⟩
    · rw [tg_st_c c5]
      rw [e] at ih ⊢
      obtain ⟨h1, h2, h3, h4, h5, h6⟩ := ih
      exact tg_wf_up h6 (by omega)
    · rw [tg_st_n n]
      exact tg_wf_up ih (by omega)
theorem tg_wf_mem {s : Nat → Int32} : ∀ (l : List (Nat × Nat)) (i : Nat), tg_wf s i l → ∀ e, e ∈ l → e.1 ≤ e.2 ∧ e.2 < i := by
  intro l
  induction l with
  | nil => intro i _ e he; cases he
  | cons a t ih =>
    intro i h e he
    obtain ⟨b, c⟩ := a
    obtain ⟨h1, h2, h3, h4, h5, h6⟩ := h
    rcases List.mem_cons.mp he with rfl | he
    · exact ⟨h1, h2⟩
    · have := ih b h6 e he
      exact ⟨this.1, by omega⟩
/-- what was ended at line j is never on the stack again -/
theorem tg_never {s : Nat → Int32} {L j b c : Nat} {t : List (Nat × Nat)} (h : tg_va s L) (hs : s j = 3 ∨ s j = 5) (ej : tg_st s j = (b, c) :: t) :
    ∀ i, j < i → i ≤ L → ∀ e, e ∈ tg_st s i → e.2 ≠ c ∧ (s j = 5 → e.1 ≠ b) := by
  intro i hji
  induction i with
  | zero => omega
  | succ i ih =>
    intro hi e he
    have wj := tg_wf_st h j (by omega)
    rw [ej] at wj
    obtain ⟨h1, h2, h3, h4, h5, h6⟩ := wj
    have ht := tg_wf_mem t b h6
    by_cases hij : i = j
    · subst hij
      cases hs with
      | inl s3 =>
        rw [tg_st_w s3 ej] at he
        rcases List.mem_cons.mp he with rfl | he
        · exact ⟨by show i ≠ c; omega, fun s5 => absurd (s3.symm.trans s5) (by decide)⟩
        · have := ht e he
          exact ⟨by omega, fun _ => by omega⟩
      | inr s5 =>
        rw [tg_st_c s5, ej] at he
        have := ht e he
        exact ⟨by omega, fun _ => by omega⟩
    · have ih := ih (by omega) (by omega)
      rcases h i (by omega) with o | ⟨w, b', t', e', sb⟩ | ⟨c5, b', c', t', e'⟩ | n
      · rw [tg_st_o o] at he
        rcases List.mem_cons.mp he with rfl | he
        · exact ⟨by show i ≠ c; omega, fun _ => by show i ≠ b; omega⟩
        · exact ih e he
      · rw [tg_st_w w e'] at he
        rw [e'] at ih
        rcases List.mem_cons.mp he with rfl | he
        · exact ⟨by show i ≠ c; omega, fun s5 => (ih (b', b') (List.mem_cons_self ..)).2 s5⟩
        · exact ih e (List.mem_cons_of_mem _ he)
      · rw [tg_st_c c5, e'] at he
        rw [e'] at ih
        exact ih e (List.mem_cons_of_mem _ he)
      · rw [tg_st_n n] at he
        exact ih e he
/-- what is on the stack stays, or is ended -/
theorem tg_stay {s : Nat → Int32} {L m b c : Nat} (h : tg_va s L) (hm : (b, c) ∈ tg_st s m) :
    ∀ i, m ≤ i → i ≤ L → ((b, c) ∈ tg_st s i ∨ ∃ j t, m ≤ j ∧ j < i ∧ (s j = 3 ∨ s j = 5) ∧ tg_st s j = (b, c) :: t) := by
  intro i hmi
  induction i with
  | zero => intro _; have : m = 0 := by omega
            subst this; exact Or.inl hm
  | succ i ih =>
    intro hi
    by_cases e : m = i + 1
    · subst e; exact Or.inl hm
    · rcases ih (by omega) (by omega) with hin | ⟨j, t, h1, h2, h3, h4⟩
      · rcases h i (by omega) with o | ⟨w, b', t', e', sb⟩ | ⟨c5, b', c', t', e'⟩ | n
        · rw [tg_st_o o]; exact Or.inl (List.mem_cons_of_mem _ hin)
        · rw [e'] at hin
          rcases List.mem_cons.mp hin with q | hin
          · exact Or.inr ⟨i, t', by omega, by omega, Or.inl w, by rw [e', q]⟩
          · rw [tg_st_w w e']; exact Or.inl (List.mem_cons_of_mem _ hin)
        · rw [e'] at hin
          rcases List.mem_cons.mp hin with q | hin
          · exact Or.inr ⟨i, t', by omega, by omega, Or.inr c5, by rw [e', q]⟩
          · rw [tg_st_c c5, e']; exact Or.inl hin
        · rw [tg_st_n n]; exact Or.inl hin
      · exact Or.inr ⟨j, t, h1, by omega, h3, h4⟩
/-- where the stack is empty at L, a block is ended -/
theorem tg_ends {s : Nat → Int32} {L b c : Nat} (h : tg_va s L) (h0 : tg_st s L = []) (hc : c < L) (hm : (b, c) ∈ tg_st s (c + 1)) :
    ∃ j t, c < j ∧ j < L ∧ (s j = 3 ∨ s j = 5) ∧ tg_st s j = (b, c) :: t := by
  rcases tg_stay h hm L (by omega) (Nat.le_refl _) with hin | ⟨j, t, h1, h2, h3, h4⟩
  · rw [h0] at hin; cases hin
  · exact ⟨j, t, by omega, h2, h3, h4⟩

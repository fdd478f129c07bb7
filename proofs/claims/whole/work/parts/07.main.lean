/-- how both end: done alike, or not done with one answer -/
def tg_Fin (r sc : Int32) (xt sp : Nat → Int32) (stp la en : Int32) (yt ct : Nat → Int32) : Prop :=
  (r = 0 ∧ ∃ S, tg_live S sc xt sp stp la en yt ct) ∨ (r = en ∧ ¬ r = 0)
theorem tg_le400 {S : Nat} (h : S ≤ 400) : nI S ≤ 400 := nI_le (b := 400) h (by decide)
theorem tg_gt400 {S : Nat} (h : 400 < S) (h' : S ≤ 1000) : ¬ nI S ≤ 400 := nI_ge (a := 400) h (by omega)
theorem tg_mv {m : Nat} (h : m < 1000000) : ¬ (1000000 : Int32) ≤ nI m := nI_ge (b := 1000000) h (by decide)
section
variable {L i S mv K : Nat} {sc : Int32} {inp lk tg fs sd ob oc be bb xv xt sp : Nat → Int32} {hg stp la en : Int32} {inq s va nu ya yb pl cs ot op yv yt ct : Nat → Int32}
theorem tg_next (hL : L ≤ 20) (hi : i < L) (H : tg_live S sc xt sp stp la en yt ct) (hS : 401 ≤ S + (K + 1)) (hm : mv + 2 * (K + 1) ≤ 1000000)
    (ih : ∀ (i S mv : Nat) (sc : Int32) (xv xt sp : Nat → Int32) (stp la en : Int32) (yv yt ct : Nat → Int32), tg_live S sc xt sp stp la en yt ct → 401 ≤ S + K → i ≤ 20 → (∀ j, j < 4 → xv j = yv j) → mv + 2 * K + 1 ≤ 1000000 →
      ∃ r xv' sc' xt' sp' stp' la' en' yv' yt' ct', tg_Fin r sc' xt' sp' stp' la' en' yt' ct' ∧ (r = 0 → ∀ j, j < 4 → xv' j = yv' j) ∧
      (∀ {n : Nat} {post : Int32 → SX → Prop}, 2 * K + 1 < n → post r (nI L, sc', inp, lk, tg, fs, sd, ob, oc, be, bb, xv', xt', sp') → wX_carryOut_17 post n (nI i) (nI mv) (nI L) sc inp lk tg fs sd ob oc be bb xv xt sp) ∧
      (∀ {post : SY → Prop}, post (nI L, hg, stp', la', en', inq, s, va, nu, ya, yb, pl, cs, ot, op, yv', yt', ct') → ∃ n, wY_work_95 post n (nI i) (nI L) hg stp la en inq s va nu ya yb pl cs ot op yv yt ct))
    (ln : ∃ i' S' xv' sc' xt' sp' stp' la' en' yv' yt' ct', i' ≤ 20 ∧ S < S' ∧ tg_RR S' 420 sc' xt' sp' stp' la' en' yt' ct' ∧ (∀ j, j < 4 → xv' j = yv' j) ∧
      (∀ {post : Int32 → SX → Prop}, post (nI i') (nI L, sc', inp, lk, tg, fs, sd, ob, oc, be, bb, xv', xt', sp') → wpX_carryOutLine post (nI L, sc, inp, lk, tg, fs, sd, ob, oc, be, bb, xv, xt, sp) (nI i)) ∧
      (∀ {post : Int32 → SY → Prop}, post (nI i') (nI L, hg, stp', la', en', inq, s, va, nu, ya, yb, pl, cs, ot, op, yv', yt', ct') → wpY_carry post (nI L, hg, stp, la, en, inq, s, va, nu, ya, yb, pl, cs, ot, op, yv, yt, ct) (nI i))) : ∃ r xv' sc' xt' sp' stp' la' en' yv' yt' ct', tg_Fin r sc' xt' sp' stp' la' en' yt' ct' ∧ (r = 0 → ∀ j, j < 4 → xv' j = yv' j) ∧
      (∀ {n : Nat} {post : Int32 → SX → Prop}, 2 * (K + 1) < n → post r (nI L, sc', inp, lk, tg, fs, sd, ob, oc, be, bb, xv', xt', sp') → wX_carryOut_17 post n (nI i) (nI mv) (nI L) sc inp lk tg fs sd ob oc be bb xv xt sp) ∧
      (∀ {post : SY → Prop}, post (nI L, hg, stp', la', en', inq, s, va, nu, ya, yb, pl, cs, ot, op, yv', yt', ct') → ∃ n, wY_work_95 post n (nI i) (nI L) hg stp la en inq s va nu ya yb pl cs ot op yv yt ct) := by
  obtain ⟨i1, S1, xv1, sc1, xt1, sp1, stp1, la1, en1, yv1, yt1, ct1, hi1, hS1, HR, hv1, hX, hY⟩ := ln
  have hS0 := H.1
  have esc : sc = nI S := H.2.1
  have een : en = 0 := H.2.2.2.1
  have h400 : sc ≤ 400 := by rw [esc]; exact tg_le400 hS0
  have hmv := tg_mv (m := mv) (by omega)
  have hiL : ¬ nI L ≤ nI i := nI_ge hi (by omega)
  rcases HR with HR | ⟨e1, S2, g1, g2, g3⟩
  · obtain ⟨r, xv', sc', xt', sp', stp', la', en', yv', yt', ct', hF, hV, hX', hY'⟩ := ih i1 S1 (mv + 1) sc1 xv1 xt1 sp1 stp1 la1 en1 yv1 yt1 ct1 HR (by omega) hi1 hv1 (by omega)
    refine ⟨r, xv', sc', xt', sp', stp', la', en', yv', yt', ct', hF, hV, ?_, ?_⟩
    · intro n post hn hp
      obtain ⟨n', rfl⟩ : ∃ n', n = n' + 1 := ⟨n - 1, by omega⟩
      refine br_f hmv (br_f hiL (br_t h400 ?_))
      refine hX ?_
      exact nm_r (nI_1 mv) (hX' (by omega) hp)
    · intro post hp
      obtain ⟨n, hn⟩ := hY' hp
      exact ⟨n + 1, br_t een (br_f hiL (hY hn))⟩
  · refine ⟨1, xv1, sc1, xt1, sp1, stp1, la1, en1, yv1, yt1, ct1, Or.inr ⟨e1.symm, by decide⟩, fun z => absurd z (by decide), ?_, ?_⟩
    · intro n post hn hp
      obtain ⟨n', rfl⟩ : ∃ n', n = n' + 1 + 1 := ⟨n - 2, by omega⟩
      refine br_f hmv (br_f hiL (br_t h400 ?_))
      refine hX ?_
      refine nm_r (nI_1 mv) ?_
      have h5 : ¬ sc1 ≤ 400 := by rw [g3]; exact tg_gt400 g1 (by omega)
      have h6 : wX_carryOut_56 post (nI L) sc1 inp lk tg fs sd ob oc be bb xv1 xt1 sp1 := br_f h5 hp
      exact br_f (tg_mv (by omega)) (br_c (fun _ => h6) (fun _ => br_f h5 h6))
    · intro post hp
      exact ⟨2, br_t een (br_f hiL (hY (br_f (by rw [e1]; decide) hp)))⟩
theorem tg_main (R : tg_R L inp lk tg fs sd ob oc be bb inq s va nu ya yb) (h0 : tg_st s L = []) (P : tg_PF s L pl cs ot op) : ∀ K : Nat, ∀ (i S mv : Nat) (sc : Int32) (xv xt sp : Nat → Int32) (stp la en : Int32) (yv yt ct : Nat → Int32), tg_live S sc xt sp stp la en yt ct → 401 ≤ S + K → i ≤ 20 → (∀ j, j < 4 → xv j = yv j) → mv + 2 * K + 1 ≤ 1000000 →
      ∃ r xv' sc' xt' sp' stp' la' en' yv' yt' ct', tg_Fin r sc' xt' sp' stp' la' en' yt' ct' ∧ (r = 0 → ∀ j, j < 4 → xv' j = yv' j) ∧
      (∀ {n : Nat} {post : Int32 → SX → Prop}, 2 * K + 1 < n → post r (nI L, sc', inp, lk, tg, fs, sd, ob, oc, be, bb, xv', xt', sp') → wX_carryOut_17 post n (nI i) (nI mv) (nI L) sc inp lk tg fs sd ob oc be bb xv xt sp) ∧
      (∀ {post : SY → Prop}, post (nI L, hg, stp', la', en', inq, s, va, nu, ya, yb, pl, cs, ot, op, yv', yt', ct') → ∃ n, wY_work_95 post n (nI i) (nI L) hg stp la en inq s va nu ya yb pl cs ot op yv yt ct) := by
  intro K
  induction K with
  | zero =>
    intro i S mv sc xv xt sp stp la en yv yt ct H hS
    have := H.1
    omega
  | succ K ih =>
    intro i S mv sc xv xt sp stp la en yv yt ct H hS hi20 hv hm
    have hL := R.1
    have hS0 := H.1
    have esc : sc = nI S := H.2.1
    have een : en = 0 := H.2.2.2.1
    have h400 : sc ≤ 400 := by rw [esc]; exact tg_le400 hS0
    have hmv := tg_mv (m := mv) (by omega)
    by_cases hi : i < L
    · have hiL : ¬ nI L ≤ nI i := nI_ge hi (by omega)
      have A : (∃ i' S' xv' sc' xt' sp' stp' la' en' yv' yt' ct', i' ≤ 20 ∧ S < S' ∧ tg_RR S' 420 sc' xt' sp' stp' la' en' yt' ct' ∧ (∀ j, j < 4 → xv' j = yv' j) ∧
      (∀ {post : Int32 → SX → Prop}, post (nI i') (nI L, sc', inp, lk, tg, fs, sd, ob, oc, be, bb, xv', xt', sp') → wpX_carryOutLine post (nI L, sc, inp, lk, tg, fs, sd, ob, oc, be, bb, xv, xt, sp) (nI i)) ∧
      (∀ {post : Int32 → SY → Prop}, post (nI i') (nI L, hg, stp', la', en', inq, s, va, nu, ya, yb, pl, cs, ot, op, yv', yt', ct') → wpY_carry post (nI L, hg, stp, la, en, inq, s, va, nu, ya, yb, pl, cs, ot, op, yv, yt, ct) (nI i))) → ∃ r xv' sc' xt' sp' stp' la' en' yv' yt' ct', tg_Fin r sc' xt' sp' stp' la' en' yt' ct' ∧ (r = 0 → ∀ j, j < 4 → xv' j = yv' j) ∧
      (∀ {n : Nat} {post : Int32 → SX → Prop}, 2 * (K + 1) + 1 < n → post r (nI L, sc', inp, lk, tg, fs, sd, ob, oc, be, bb, xv', xt', sp') → wX_carryOut_17 post n (nI i) (nI mv) (nI L) sc inp lk tg fs sd ob oc be bb xv xt sp) ∧
      (∀ {post : SY → Prop}, post (nI L, hg, stp', la', en', inq, s, va, nu, ya, yb, pl, cs, ot, op, yv', yt', ct') → ∃ n, wY_work_95 post n (nI i) (nI L) hg stp la en inq s va nu ya yb pl cs ot op yv yt ct) := by
        intro ln
        obtain ⟨r, xv', sc', xt', sp', stp', la', en', yv', yt', ct', hF, hV, hX', hY'⟩ := tg_next hL hi H hS (mv := mv) (by omega) ih ln
        exact ⟨r, xv', sc', xt', sp', stp', la', en', yv', yt', ct', hF, hV, fun hn hp => hX' (by omega) hp, hY'⟩
      rcases R.2.2.1 i hi with h | h | h | h | h | h
      · exact A (tg_l0 hi hL hv H h)
      · exact A (tg_l1 hi hL hv H h)
      · exact A (tg_l2 R h0 P hi hv H h)
      · obtain ⟨e, b, g1, g2, g3, g4, g5, g6, g7, g8, g9⟩ := tg_rt3 R h0 P hi h.1
        obtain ⟨qX, qY⟩ := tg_q3 (sc := sc) (xv := xv) (xt := xt) (sp := sp) (hg := hg) (stp := stp) (la := la) (en := en) (pl := pl) (ot := ot) (yv := yv) (yt := yt) (ct := ct) R hi h.1 g4 g3 g5 g6
        obtain ⟨b', c', w1, w2, w3, w4, w5⟩ := tg_rt5 R P g2 g7
        have hb : b' = b := (nI_eq (by omega) (by omega)).mp (w3.symm.trans g8)
        subst hb
        have w6 := w5.resolve_left (fun z => absurd (g9.symm.trans z.1) (by decide))
        obtain ⟨r, xv', sc', xt', sp', stp', la', en', yv', yt', ct', hF, hV, hX', hY'⟩ := tg_next hL g2 H hS (mv := mv + 1) (by omega) ih (tg_l5 R g2 hv H g7 w1 w2 w3 w4 w6.1 w6.2)
        refine ⟨r, xv', sc', xt', sp', stp', la', en', yv', yt', ct', hF, hV, ?_, ?_⟩
        · intro n post hn hp
          obtain ⟨n', rfl⟩ : ∃ n', n = n' + 1 := ⟨n - 1, by omega⟩
          refine br_f hmv (br_f hiL (br_t h400 ?_))
          refine qX ?_
          exact nm_r (nI_1 mv) (hX' (by omega) hp)
        · intro post hp
          obtain ⟨n, hn⟩ := hY' hp
          exact ⟨n + 1, br_t een (br_f hiL (qY hn))⟩
      · exact A (tg_l4 R h0 P hi hv H h)
      · obtain ⟨b, c, w1, w2, w3, w4, w5⟩ := tg_rt5 R P hi h.1
        rcases w5 with ⟨w5, w6, w7⟩ | ⟨w5, w6⟩
        · subst w7
          obtain ⟨qX, qY⟩ := tg_q5 (sc := sc) (xv := xv) (xt := xt) (sp := sp) (hg := hg) (stp := stp) (la := la) (en := en) (pl := pl) (cs := cs) (ot := ot) (yv := yv) (yt := yt) (ct := ct) R hi h.1 w1 w4 w3 w5
          have lb : s c = 4 ∧ lk c = 8 ∧ ∃ c', c' < 4 ∧ fs c = nI c' ∧ va c = nI c' := by
            rcases R.2.2.1 c w1 with q | q | q | q | q | q
            · exact absurd (w5.symm.trans q.1) (by decide)
            · exact absurd (w5.symm.trans q.1) (by decide)
            · exact absurd (w5.symm.trans q.1) (by decide)
            · exact absurd (w5.symm.trans q.1) (by decide)
            · exact q
            · exact absurd (w5.symm.trans q.1) (by decide)
          obtain ⟨r, xv', sc', xt', sp', stp', la', en', yv', yt', ct', hF, hV, hX', hY'⟩ := tg_next hL w1 H hS (mv := mv + 1) (by omega) ih (tg_l4 R h0 P w1 hv H lb)
          refine ⟨r, xv', sc', xt', sp', stp', la', en', yv', yt', ct', hF, hV, ?_, ?_⟩
          · intro n post hn hp
            obtain ⟨n', rfl⟩ : ∃ n', n = n' + 1 := ⟨n - 1, by omega⟩
            refine br_f hmv (br_f hiL (br_t h400 ?_))
            refine qX ?_
            exact nm_r (nI_1 mv) (hX' (by omega) hp)
          · intro post hp
            obtain ⟨n, hn⟩ := hY' hp
            cases n with
            | zero => exact absurd hn (fun z => z)
            | succ n =>
              rw [wY_work_95] at hn
              have h1 := (hn.1 een).2 (nI_ge w1 (by omega))
              exact ⟨n + 1, br_t een (br_f hiL (qY h1))⟩
        · exact A (tg_l5 R hi hv H h.1 w1 w2 w3 w4 w5 w6)
    · have hiL : nI L ≤ nI i := nI_le (by omega) (by omega)
      refine ⟨0, xv, sc, xt, sp, stp, la, en, yv, yt, ct, Or.inl ⟨rfl, S, H⟩, fun _ => hv, ?_, ?_⟩
      · intro n post hn hp
        obtain ⟨n', rfl⟩ : ∃ n', n = n' + 1 := ⟨n - 1, by omega⟩
        have h6 : wX_carryOut_56 post (nI L) sc inp lk tg fs sd ob oc be bb xv xt sp := br_t h400 hp
        exact br_f hmv (br_t hiL h6)
      · intro post hp
        exact ⟨1, br_t een (br_t hiL hp)⟩
end

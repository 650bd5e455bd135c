/-! ===== PURE: lies, readings, days ===== -/
theorem liesD {β : qB} {σc σm : qM} (h : RD β σc σm) {t l j : Nat} (ht : t < 4) (hl : l < v_n (vw β)) (hj : j < 2) : SimD β ((fX0_settled σc).bind fun q7 => if nI j = 0 then (if qin (nI t) 4 then if qin (nI l) 12 then some ((q7 (18 + (nI t).toNatClampNeg) (nI l).toNatClampNeg), q7) else none else none)
  else (if qin (nI t) 4 then if qin (nI l) 12 then some ((q7 (23 + (nI t).toNatClampNeg) (nI l).toNatClampNeg), q7) else none else none))
    ((fX5_turnsOne σm (nI l) (nI t)).bind fun q8 => if nI j = 0 then (if qin (nI l) 13 then some ((q8 12 (nI l).toNatClampNeg), q8) else none)
  else (if qin (nI l) 13 then some ((q8 13 (nI l).toNatClampNeg), q8) else none)) := by
  have hV := vw_ok h.1
  have hn := hV.1
  simp only [nI_clamp (show t < 2 ^ 31 by omega), nI_clamp (show l < 2 ^ 31 by omega), if_pos (qin_of ht (by decide : 4 < 2 ^ 31)), if_pos (qin_of (show l < 12 by omega) (by decide : 12 < 2 ^ 31)), if_pos (qin_of (show l < 13 by omega) (by decide : 13 < 2 ^ 31))]
  have fr : frP (vw β) σm (qup (qup σm 12 l (nI (y_c (ly (vw β) t) l))) 13 l (nI (y_r (ly (vw β) t) l))) := ⟨fun a _ _ a3 a4 _ => by rw [qup_ne _ _ _ a4, qup_ne _ _ _ a3], fun k _ _ => by rw [qup_ne _ _ _ (by decide), qup_ne _ _ _ (by decide)], fun i _ => by rw [qup_ne _ _ _ (by decide), qup_ne _ _ _ (by decide)]⟩
  rcases (show j = 0 ∨ j = 1 by omega) with rfl | rfl
  · refine askD h (nI (y_c (ly (vw β) t) l)) (setp h _ (fun σ _ _ hu => ?_)) ?_
    · rw [if_pos (show nI 0 = (0 : Int32) from rfl), ((hu.2.1.2.2 t ht).1.1 l hl).1]
    · rw [turnsOne_ok hV h.2.2.2.2.2.2.1 hl ht]
      simp only [Option.bind_some]
      rw [if_pos (show nI 0 = (0 : Int32) from rfl)]
      exact qok_some ⟨by dsimp only; rw [qup_ne _ _ _ (by decide), qup_eq, upd_at, if_pos rfl], fr⟩
  · refine askD h (nI (y_r (ly (vw β) t) l)) (setp h _ (fun σ _ _ hu => ?_)) ?_
    · rw [if_neg (show ¬ nI 1 = (0 : Int32) by decide), ((hu.2.1.2.2 t ht).1.1 l hl).2]
    · rw [turnsOne_ok hV h.2.2.2.2.2.2.1 hl ht]
      simp only [Option.bind_some]
      rw [if_neg (show ¬ nI 1 = (0 : Int32) by decide)]
      exact qok_some ⟨by dsimp only; rw [qup_eq, upd_at, if_pos rfl], fr⟩
theorem sim_lies {σc σm : qM} (h : RR σc σm) (x1 x2 x3 : Int32) : Sim (fX4_lies σc x1 x2 x3) (fX5_lies σm x1 x2 x3) := by
  unfold fX5_lies
  refine sim_q h (fun β σ1 hR => ?_)
  · unfold fX4_lies
    refine simD_test (t1 := fun σ => fX4_below σ x1 4) (t2 := fun σ => fX5_areTurns σ x1) (t_below x1 4 (by decide)) (t_turns x1) hR (fun h1 => ?_)
    dsimp only
    have hV := vw_ok hR.1
    have hn : v_n (vw β) < 2 ^ 30 := by have := hV.1; omega
    have e1 : σc 1 5 = nI (v_n (vw β)) := (hR.2.1.rd hR.1).1
    have e2 : σ1 0 8 = nI (v_n (vw β)) := hR.2.2.2.2.2.2.1.2.1
    unfold fX5_isLeaf
    rw [e1, e2]
    have k1 := below_ok σc x2 (v_n (vw β)) (by omega)
    have k2 := in_n (σ := σ1) hn x2
    by_cases c : bl x2 (v_n (vw β))
    · rw [k1.1 c, k2.1 c]
      show SimD β ((fX4_below σc x3 2).bind _) ((fX5_isTwo σ1 x3).bind _)
      refine simD_test (t1 := fun σ => fX4_below σ x3 2) (t2 := fun σ => fX5_isTwo σ x3) (t_below x3 2 (by decide)) (t_two x3) hR (fun h3 => ?_)
      obtain ⟨t, ht, rfl⟩ := bl_of h1 (by decide)
      obtain ⟨l, hl, rfl⟩ := bl_of c (by omega)
      obtain ⟨j, hj, rfl⟩ := bl_of h3 (by decide)
      exact liesD hR ht hl hj
    · rw [k1.2 c, k2.2 c]
      exact ⟨_, _, _, rfl, rfl, hR⟩
/-! readings -/
def rv (V : qV) (t j : Nat) : Nat := if j = 0 then sm V (ly V t) else if j = 1 then am V t else rdg V t
theorem smN {V : qV} (hV : v_ok V) (t : Nat) : sm V (ly V t) < 2 ^ 12 := by
  have := sm_lt V (ly V t)
  have h2 : y_n (ly V t) ≤ 12 := hV.1
  have := p2_le h2
  omega
theorem readingOf_ok {β : qB} {σ : qM} (h : MS β σ) {t j : Nat} (ht : t < 4) (hj : j < 3) : qok (fX5_readingOf σ (nI t) (nI j)) (fun q => q.1 = nI (rv (vw β) t j) ∧ frP (vw β) σ q.2) := by
  have hV := vw_ok h.1
  by_cases e2 : j = 2
  · subst e2
    have := readNow_ok h ht
    unfold fX5_readNow at this
    unfold fX5_readingOf
    obtain ⟨⟨r, s⟩, e, q1, q2⟩ := this
    refine ⟨(r, s), ?_, q1, q2⟩
    rw [← e]
    cases fX5_turnsCup σ (nI t) with
    | none => rfl
    | some q => rfl
  · unfold fX5_readingOf
    refine qok_bind (qok_mono (turnsCup_ok hV h.2.2.2.1 ht) ?_)
    rintro σ1 ⟨f1, c1, c2, c3⟩
    have hm1 := h.2.2.fr f1
    rcases (show j = 0 ∨ j = 1 by omega) with rfl | rfl
    · rw [if_pos (show nI 0 = (0 : Int32) from rfl)]
      exact qok_some ⟨c2, f1⟩
    · rw [if_neg (show ¬ nI 1 = (0 : Int32) by decide), if_pos (show nI 1 = (1 : Int32) from rfl), bind_id, apNow_ok hV (ly_ok hV t) hm1.2.1.1 c1.1 c3 (by have := smN hV t; omega) c2]
      exact qok_some ⟨rfl, f1⟩
theorem readingD {β : qB} {σc σm : qM} (h : RD β σc σm) {t j : Nat} (ht : t < 4) (hj : j < 3) : SimD β ((fX0_settled σc).bind fun q5 => if nI j = 0 then (if qin (nI t) 4 then some ((q5 27 (nI t).toNatClampNeg), q5) else none)
  else (if nI j = 1 then (if qin (nI t) 4 then some ((q5 28 (nI t).toNatClampNeg), q5) else none)
  else (if qin (nI t) 4 then some ((q5 29 (nI t).toNatClampNeg), q5) else none))) (fX5_readingOf σm (nI t) (nI j)) := by
  refine askD h (nI (rv (vw β) t j)) (setp h _ (fun σ _ _ hu => ?_)) (readingOf_ok h.ms ht hj)
  obtain ⟨u1, u2, u3⟩ := hu.2.1.2.2 t ht
  rw [if_pos (qin_of ht (by decide)), if_pos (qin_of ht (by decide)), if_pos (qin_of ht (by decide)), nI_clamp (by omega), u1.2, u2.2, u3]
  rcases (show j = 0 ∨ j = 1 ∨ j = 2 by omega) with rfl | rfl | rfl
  · rw [if_pos (show nI 0 = (0 : Int32) from rfl)]; rfl
  · rw [if_neg (show ¬ nI 1 = (0 : Int32) by decide), if_pos (show nI 1 = (1 : Int32) from rfl)]; rfl
  · rw [if_neg (show ¬ nI 2 = (0 : Int32) by decide), if_neg (show ¬ nI 2 = (1 : Int32) by decide)]; rfl
theorem readingX {β : qB} {σc σm : qM} (h : RD β σc σm) {t j : Nat} (ht : t < 4) (hj : j < 3) : SimD β (fX4_reading σc (nI t) (nI j)) (fX5_readingOf σm (nI t) (nI j)) := by
  unfold fX4_reading
  rw [show (4 : Int32) = nI 4 from rfl, show (3 : Int32) = nI 3 from rfl, bnd_1 ((below_ok σc (nI t) 4 (by decide)).1 (bl_nI ht (by decide))) (by decide)]
  dsimp only
  rw [bnd_1 ((below_ok σc (nI j) 3 (by decide)).1 (bl_nI hj (by decide))) (by decide)]
  exact readingD h ht hj
theorem sim_reading {σc σm : qM} (h : RR σc σm) (x1 x2 : Int32) : Sim (fX4_reading σc x1 x2) (fX5_reading σm x1 x2) := by
  unfold fX5_reading
  refine sim_q h (fun β σ1 hR => ?_)
  · unfold fX4_reading
    refine simD_test (t1 := fun σ => fX4_below σ x1 4) (t2 := fun σ => fX5_areTurns σ x1) (t_below x1 4 (by decide)) (t_turns x1) hR (fun h1 => ?_)
    refine simD_test (t1 := fun σ => fX4_below σ x2 3) (t2 := fun σ => fX5_in σ x2.toInt64 0 2) (t_below x2 3 (by decide)) (t_in x2 3 (by decide) rfl) hR (fun h2 => ?_)
    obtain ⟨t, ht, rfl⟩ := bl_of h1 (by decide)
    obtain ⟨j, hj, rfl⟩ := bl_of h2 (by decide)
    dsimp only
    rw [bind_id]
    exact readingD hR ht hj
/-! day -/
theorem sim_day {σc σm : qM} (h : RR σc σm) (x1 : Int32) : Sim (fX4_day σc x1) (fX5_day σm x1) := by
  unfold fX5_day
  refine sim_q h (fun β σ1 hR => ?_)
  · unfold fX4_day
    refine simD_test (t1 := fun σ => fX4_below σ x1 28) (t2 := fun σ => fX5_isDay σ x1) (t_below x1 28 (by decide)) (t_day x1) hR (fun h1 => ?_)
    obtain ⟨d, hd, rfl⟩ := bl_of h1 (by decide)
    dsimp only
    rw [bind_id]
    refine askD hR (nI (rdg (vw β) (dy β d))) (setp hR _ (fun σ hA _ hu => ?_)) (dayOf_ok hR.ms hd)
    have hdy := dy_lt β d
    rw [turnsOn_ok hR.1 hA hd]
    simp only [Option.bind_some]
    rw [if_pos (qin_of hdy (by decide)), nI_clamp (by omega), (hu.2.1.2.2 _ hdy).2.2]
/-! free -/
def frB (β : qB) (k d : Nat) : Bool := !(rdg (vw β) (dy β d)).testBit k
theorem freeC {β : qB} {σ : qM} (hb : bt_ok β) (hA : AC σ β) (hu : cupV σ (vw β)) {k : Nat} (hk : k < 8) : ∀ n i, i ≤ 28 → 28 - i < n → qlp (fun _ _ _ _ => none) bX4_free_25 n σ (nI k) (nI (mk (frB β k) i)) (nI i) = some (nI (mk (frB β k) 28), σ) := by
  intro n
  induction n with
  | zero => intro i _ h; omega
  | succ n ih =>
    intro i hi hn
    rw [qlp_succ]
    generalize qlp (fun _ _ _ _ => none) bX4_free_25 n = kk at ih ⊢
    unfold bX4_free_25 fX4_free_53
    by_cases e : i = 28
    · subst e
      rw [if_pos (show (28 : Int32) ≤ nI 28 by decide)]
    · rw [if_neg (show ¬ (28 : Int32) ≤ nI i from nI_ge (b := 28) (by omega) (by decide)), turnsOn_ok hb hA (by omega)]
      simp only [Option.bind_some]
      have e2 := inF (vw_ok hb) hu (dy_lt β i) (k := k) (by omega)
      cases hq : (rdg (vw β) (dy β i)).testBit k with
      | true =>
        rw [hq] at e2
        rw [bnd_1 e2 (by decide)]
        dsimp only
        rw [nI_1, mk_f (b := i) (by omega) (show frB β k i = false by unfold frB; rw [hq]; rfl)]
        exact ih (i + 1) (by omega) (by omega)
      | false =>
        rw [hq] at e2
        rw [bnd_0 e2]
        dsimp only
        rw [nI_1, mk_t (b := i) (by omega) (show frB β k i = true by unfold frB; rw [hq]; rfl)]
        exact ih (i + 1) (by omega) (by omega)
theorem freeOf_ok {β : qB} {σ0 : qM} (h0 : MS β σ0) {k : Nat} (hk : k < 8) : qok (fX5_freeOf σ0 (nI k)) (fun q => q.1 = nI (mk (frB β k) 28) ∧ frP (vw β) σ0 q.2) := by
  unfold fX5_freeOf
  refine qok_lp4 (z := fun _ _ _ _ => none) (b := bX5_freeOf_4) (fun m σ x1 x2 x3 => x1 = nI k ∧ frP (vw β) σ0 σ ∧ ∃ i, i ≤ 28 ∧ m = 28 - i ∧ x2 = nI (mk (frB β k) i) ∧ x3 = nI i) ?_ qFU 28 σ0 _ 0 0 (by rw [qFU_eq]; omega) ⟨rfl, frP.rf _ _, 0, by omega, rfl, rfl, rfl⟩
  rintro m kk ih σ x1 x2 x3 ⟨rfl, f1, i, hi, rfl, rfl, rfl⟩
  unfold bX5_freeOf_4 fX5_freeOf_30 fX5_freeOf_32
  by_cases e : i = 28
  · subst e
    exact qok_t (show (28 : Int32) ≤ nI 28 by decide) (qok_some ⟨rfl, f1⟩)
  · refine qok_f (show ¬ (28 : Int32) ≤ nI i from nI_ge (b := 28) (by omega) (by decide)) (qok_bind (qok_mono (dayOf_ok (h0.fr f1) (show i < 28 by omega)) ?_))
    rintro ⟨r, σ1⟩ ⟨r1, r2⟩
    dsimp only at r1 r2 ⊢
    subst r1
    have hl := rdg_lt (vw_ok h0.1) (dy β i)
    have e2 := isIn_b σ1 (a := rdg (vw β) (dy β i)) (k := k) (by omega) (by omega)
    cases hq : (rdg (vw β) (dy β i)).testBit k with
    | true =>
      rw [hq] at e2
      rw [bnd_1 e2 (by decide)]
      dsimp only
      rw [nI_1, mk_f0 (b := i) (by omega) (show frB β k i = false by unfold frB; rw [hq]; rfl)]
      exact ih (28 - (i + 1)) _ _ _ _ (by omega) ⟨rfl, f1.tr r2, i + 1, by omega, rfl, rfl, rfl⟩
    | false =>
      rw [hq] at e2
      rw [bnd_0 e2]
      dsimp only
      rw [nI_1, mk_t (b := i) (by omega) (show frB β k i = true by unfold frB; rw [hq]; rfl)]
      exact ih (28 - (i + 1)) _ _ _ _ (by omega) ⟨rfl, f1.tr r2, i + 1, by omega, rfl, rfl, rfl⟩
theorem freeD {β : qB} {σc σm : qM} (h : RD β σc σm) {k : Nat} (hk : k < 8) : SimD β ((fX0_settled σc).bind fun q3 => fX4_free_25 q3 (nI k) 0 0) (fX5_freeOf σm (nI k)) :=
  askD h (nI (mk (frB β k) 28)) (setp h _ (fun σ hA _ hu => freeC h.1 hA hu hk qFU 0 (by omega) (by rw [qFU_eq]; omega))) (freeOf_ok h.ms hk)
theorem freeX {β : qB} {σc σm : qM} (h : RD β σc σm) {k : Nat} (hk : k < 8) : SimD β (fX4_free σc (nI k)) (fX5_freeOf σm (nI k)) := by
  unfold fX4_free
  rw [show (8 : Int32) = nI 8 from rfl, bnd_1 ((below_ok σc (nI k) 8 (by decide)).1 (bl_nI hk (by decide))) (by decide)]
  exact freeD h hk
theorem sim_free {σc σm : qM} (h : RR σc σm) (x1 : Int32) : Sim (fX4_free σc x1) (fX5_free σm x1) := by
  unfold fX5_free
  refine sim_q h (fun β σ1 hR => ?_)
  · unfold fX4_free
    refine simD_test (t1 := fun σ => fX4_below σ x1 8) (t2 := fun σ => fX5_isLaw σ x1) (t_below x1 8 (by decide)) (t_law x1) hR (fun h1 => ?_)
    obtain ⟨d, hd, rfl⟩ := bl_of h1 (by decide)
    dsimp only
    rw [bind_id]
    exact freeD hR hd

/-! ===== PURE: clash, pour, write ===== -/
theorem alike_ok {σ : qM} {V : qV} (hV : v_ok V) (h : rdc σ V) {a b j : Nat} (ha : a < v_r V) (hb : b < v_r V) (hj : j < 5) : fX0_alike σ (nI a) (nI b) (nI j) = some (b2i (decide (v_q V a j = v_q V b j)), σ) := by
  unfold fX0_alike
  rw [partR_ok hV h ha hj]
  simp only [Option.bind_some]
  rw [partR_ok hV h hb hj]
  simp only [Option.bind_some]
  have hx : ∀ k, k < v_r V → v_q V k j < 2 ^ 31 := fun k hk => by
    have := hV.2.2.2.2.1 k hk
    rcases (show j = 0 ∨ j = 1 ∨ j = 2 ∨ j = 3 ∨ j = 4 by omega) with rfl | rfl | rfl | rfl | rfl <;> omega
  by_cases c : v_q V a j = v_q V b j
  · rw [if_pos (congrArg nI c), decide_eq_true c, b2i_t]
  · rw [if_neg (fun q => c ((nI_eq (hx a ha) (hx b hb)).mp q)), decide_eq_false c, b2i_f]
def clP (V : qV) (m k j : Nat) : Bool := m.testBit j && (decide (v_q V j 4 = v_q V k 4) && !decide (v_q V j 3 = v_q V k 3))
def clB (V : qV) (m k : Nat) : Bool := m.testBit k && (List.range k).any (clP V m k)
theorem contraC {σ : qM} {V : qV} (hV : v_ok V) (h : rdc σ V) (hu : cupV σ V) {t k : Nat} (ht : t < 4) (hk : k < v_r V) : ∀ n j, j ≤ k → k - j < n → (List.range j).any (clP V (am V t) k) = false → qlp (fun _ _ _ _ => none) bX0_contradictsEarlier_2 n σ (nI t) (nI k) (nI j) = some (b2i ((List.range k).any (clP V (am V t) k)), σ) := by
  intro n
  induction n with
  | zero => intro i _ h; omega
  | succ n ih =>
    intro j hj hn hany
    have hr := hV.2.1
    rw [qlp_succ]
    generalize qlp (fun _ _ _ _ => none) bX0_contradictsEarlier_2 n = kk at ih ⊢
    unfold bX0_contradictsEarlier_2 fX0_contradictsEarlier_38
    by_cases e : j = k
    · subst e
      rw [if_pos (nI_le (Nat.le_refl _) (by omega)), hany, b2i_f]
    · rw [if_neg (nI_ge (by omega) (by omega)), nI_1]
      have h1 : (clP V (am V t) k j = false) → kk σ (nI t) (nI k) (nI (j + 1)) = some (b2i ((List.range k).any (clP V (am V t) k)), σ) := fun q => ih (j + 1) (by omega) (by omega) (by rw [any_succ, hany, q]; rfl)
      have e2 := apC hV hu ht (k := j) (by omega)
      have e3 := alike_ok hV h (a := j) (b := k) (j := 4) (by omega) hk (by decide)
      have e4 := alike_ok hV h (a := j) (b := k) (j := 3) (by omega) hk (by decide)
      cases hq : (am V t).testBit j with
      | false =>
        rw [hq] at e2
        rw [bnd_0 e2]
        exact h1 (by unfold clP; rw [hq]; rfl)
      | true =>
        rw [hq] at e2
        rw [bnd_1 e2 (by decide)]
        dsimp only
        by_cases c : v_q V j 4 = v_q V k 4
        · rw [decide_eq_true c] at e3
          rw [bnd_1 (show fX0_alike σ (nI j) (nI k) 4 = some (b2i true, σ) from e3) (by decide)]
          dsimp only
          by_cases c2 : v_q V j 3 = v_q V k 3
          · rw [decide_eq_true c2] at e4
            rw [bnd_1 (show fX0_alike σ (nI j) (nI k) 3 = some (b2i true, σ) from e4) (by decide)]
            exact h1 (by unfold clP; rw [hq, decide_eq_true c2, decide_eq_true c]; rfl)
          · rw [decide_eq_false c2] at e4
            rw [bnd_0 (show fX0_alike σ (nI j) (nI k) 3 = some (b2i false, σ) from e4), b2i_o (any_of (i := j + 1) (by omega) (by rw [any_succ, show clP V (am V t) k j = true by unfold clP; rw [hq, decide_eq_false c2, decide_eq_true c]; rfl, Bool.or_true]))]
        · rw [decide_eq_false c] at e3
          rw [bnd_0 (show fX0_alike σ (nI j) (nI k) 4 = some (b2i false, σ) from e3)]
          exact h1 (by unfold clP; rw [hq, decide_eq_false c]; rfl)
theorem clashC {σ : qM} {V : qV} (hV : v_ok V) (h : rdc σ V) (hu : cupV σ V) {t : Nat} (ht : t < 4) : ∀ n i, i ≤ v_r V → v_r V - i < n → qlp (fun _ _ _ => none) bX0_firstClash_2 n σ (nI t) (nI i) = some (fs (clB V (am V t)) (v_r V - i) i, σ) := by
  intro n
  induction n with
  | zero => intro i _ h; omega
  | succ n ih =>
    intro i hi hn
    have hr := hV.2.1
    rw [qlp_succ]
    generalize qlp (fun _ _ _ => none) bX0_firstClash_2 n = kk at ih ⊢
    unfold bX0_firstClash_2 fX0_firstClash_33
    rw [h.2.2.2.1]
    by_cases e : i = v_r V
    · subst e
      rw [if_pos (nI_le (Nat.le_refl _) (by omega)), Nat.sub_self]
      rfl
    · obtain ⟨d, hd⟩ : ∃ d, v_r V - i = d + 1 := ⟨v_r V - i - 1, by omega⟩
      have hd2 : v_r V - (i + 1) = d := by omega
      have h1 := ih (i + 1) (by omega) (by omega)
      rw [hd2] at h1
      rw [if_neg (nI_ge (by omega) (by omega)), nI_1, hd, fs_s]
      have e2 := apC hV hu ht (k := i) (by omega)
      have e3 : fX0_contradictsEarlier σ (nI t) (nI i) = some (b2i ((List.range i).any (clP V (am V t) i)), σ) := contraC hV h hu ht (k := i) (by omega) qFU 0 (by omega) (by rw [qFU_eq]; omega) rfl
      unfold clB
      cases hq : (am V t).testBit i with
      | false =>
        rw [hq] at e2
        rw [bnd_0 e2, if_neg (fun h : (false && (List.range i).any (clP V (am V t) i)) = true => Bool.noConfusion h)]
        exact h1
      | true =>
        rw [hq] at e2
        rw [bnd_1 e2 (by decide)]
        dsimp only
        cases hq2 : (List.range i).any (clP V (am V t) i) with
        | false =>
          rw [hq2] at e3
          rw [bnd_0 e3, if_neg (by decide)]
          exact h1
        | true =>
          rw [hq2] at e3
          rw [bnd_1 e3 (by decide)]
          rfl
theorem clashM1 {σ : qM} {V : qV} (hV : v_ok V) (h : rqm σ V) {m k : Nat} (hm : m < 2 ^ 31) (hk : k < v_r V) (k12 : qM → Int32 → Int32 → Option (Int32 × qM)) : ∀ n j, j ≤ k → k - j < n → (m.testBit k = true → (List.range j).any (clP V m k) = false) → qlp (fun _ _ _ _ => none) (bX5_clashOf_23 k12) n σ (nI m) (nI k) (nI j) = if clB V m k = true then some (nI k, σ) else k12 σ (nI m) (nI (k + 1)) := by
  intro n
  induction n with
  | zero => intro i _ h; omega
  | succ n ih =>
    intro j hj hn hany
    have hr := hV.2.1
    rw [qlp_succ]
    generalize qlp (fun _ _ _ _ => none) (bX5_clashOf_23 k12) n = kk at ih ⊢
    unfold bX5_clashOf_23 fX5_clashOf_74 fX5_clashOf_75 fX5_clashOf_108
    by_cases e : j = k
    · subst e
      rw [if_pos (nI_le (Nat.le_refl _) (by omega)), nI_1]
      rw [if_neg]
      unfold clB
      intro q
      rw [Bool.and_eq_true] at q
      rw [hany q.1] at q
      exact Bool.noConfusion q.2
    · rw [if_neg (nI_ge (by omega) (by omega)), nI_1]
      have n4 : ∀ a, (5 : Int32) * nI a + 4 = nI (5 * a + 4) := fun a => by rw [show (5 : Int32) * nI a = nI (5 * a) from pk_mul 5 a]; exact nI_add _ 4
      have n3 : ∀ a, (5 : Int32) * nI a + 3 = nI (5 * a + 3) := fun a => by rw [show (5 : Int32) * nI a = nI (5 * a) from pk_mul 5 a]; exact nI_add _ 3
      have h1 : (m.testBit k = true → clP V m k j = false) → kk σ (nI m) (nI k) (nI (j + 1)) = if clB V m k = true then some (nI k, σ) else k12 σ (nI m) (nI (k + 1)) := fun q => ih (j + 1) (by omega) (by omega) (fun w => by rw [any_succ, hany w, q w]; rfl)
      have e2 := isIn_b σ (a := m) (k := k) hm (by omega)
      have e3 := isIn_b σ (a := m) (k := j) hm (by omega)
      have hq4 := (hV.2.2.2.2.1 k hk).2.2.2
      have hq4j := (hV.2.2.2.2.1 j (by omega)).2.2.2
      cases hq : m.testBit k with
      | false =>
        rw [hq] at e2
        rw [bnd_0 e2]
        dsimp only
        rw [if_pos rfl]
        exact h1 (fun w => by rw [hq] at w; exact Bool.noConfusion w)
      | true =>
        rw [hq] at e2
        rw [bnd_1 e2 (by decide)]
        dsimp only
        cases hq2 : m.testBit j with
        | false =>
          rw [hq2] at e3
          rw [bnd_0 e3]
          dsimp only
          rw [if_pos rfl]
          exact h1 (fun w => by unfold clP; rw [hq2]; rfl)
        | true =>
          rw [hq2] at e3
          rw [bnd_1 e3 (by decide)]
          dsimp only
          simp only [n4, n3]
          rw [if_pos (qin_of (show 5 * k + 4 < 50 by omega) (by decide)), if_pos (qin_of (show 5 * j + 4 < 50 by omega) (by decide)), nI_clamp (show 5 * k + 4 < 2 ^ 31 by omega), nI_clamp (show 5 * j + 4 < 2 ^ 31 by omega)]
          have v1 := h.2.1 k 4 hk (by decide)
          have v2 := h.2.1 j 4 (by omega) (by decide)
          have v3 := h.2.1 k 3 hk (by decide)
          have v4 := h.2.1 j 3 (by omega) (by decide)
          by_cases c : v_q V j 4 = v_q V k 4
          · rw [if_pos (show σ 8 (5 * k + 4) = σ 8 (5 * j + 4) by rw [v1, v2, c]), if_neg (show ¬ (1 : Int32) = 0 by decide), if_pos (qin_of (show 5 * k + 3 < 50 by omega) (by decide)), if_pos (qin_of (show 5 * j + 3 < 50 by omega) (by decide)), nI_clamp (show 5 * k + 3 < 2 ^ 31 by omega), nI_clamp (show 5 * j + 3 < 2 ^ 31 by omega)]
            by_cases c2 : v_q V j 3 = v_q V k 3
            · rw [if_pos (show σ 8 (5 * k + 3) = σ 8 (5 * j + 3) by rw [v3, v4, c2])]
              exact h1 (fun w => by unfold clP; rw [hq2, decide_eq_true c2, decide_eq_true c]; rfl)
            · rw [if_neg (show ¬ σ 8 (5 * k + 3) = σ 8 (5 * j + 3) from fun w => by rw [v3, v4] at w; exact c2 ((nI_eq (by omega) (by omega)).mp w).symm)]
              rw [if_pos]
              unfold clB
              rw [hq, any_of (i := j + 1) (by omega) (by rw [any_succ, show clP V m k j = true by unfold clP; rw [hq2, decide_eq_false c2, decide_eq_true c]; rfl, Bool.or_true])]
              rfl
          · rw [if_neg (show ¬ σ 8 (5 * k + 4) = σ 8 (5 * j + 4) from fun w => by rw [v1, v2] at w; exact c ((nI_eq (by omega) (by omega)).mp w).symm), if_pos trivial]
            exact h1 (fun w => by unfold clP; rw [hq2, decide_eq_false c]; rfl)
theorem clashM {σ : qM} {V : qV} (hV : v_ok V) (h : rqm σ V) {m : Nat} (hm : m < 2 ^ 31) : ∀ n i, i ≤ v_r V → v_r V - i < n → qlp (fun _ _ _ => none) bX5_clashOf_12 n σ (nI m) (nI i) = some (fs (clB V m) (v_r V - i) i, σ) := by
  intro n
  induction n with
  | zero => intro i _ h; omega
  | succ n ih =>
    intro i hi hn
    have hr := hV.2.1
    rw [qlp_succ]
    generalize qlp (fun _ _ _ => none) bX5_clashOf_12 n = kk at ih ⊢
    unfold bX5_clashOf_12
    rw [h.1]
    by_cases e : i = v_r V
    · subst e
      rw [if_pos (nI_le (Nat.le_refl _) (by omega)), Nat.sub_self]
      rfl
    · obtain ⟨d, hd⟩ : ∃ d, v_r V - i = d + 1 := ⟨v_r V - i - 1, by omega⟩
      have hd2 : v_r V - (i + 1) = d := by omega
      have h1 := ih (i + 1) (by omega) (by omega)
      rw [hd2] at h1
      rw [if_neg (nI_ge (by omega) (by omega)), hd, fs_s, show fX5_clashOf_23 kk σ (nI m) (nI i) 0 = if clB V m i = true then some (nI i, σ) else kk σ (nI m) (nI (i + 1)) from clashM1 hV h hm (by omega) kk qFU 0 (by omega) (by rw [qFU_eq]; omega) (fun _ => rfl), h1]
      by_cases q : clB V m i = true
      · rw [if_pos q, if_pos q]
      · rw [if_neg q, if_neg q]
theorem clashD {β : qB} {σc σm : qM} (h : RD β σc σm) {t : Nat} (ht : t < 4) : SimD β ((fX0_settled σc).bind fun q3 => (fX0_firstClash q3 (nI t)).bind fun q4 => some (q4.1, q4.2)) (fX5_clashOf σm (nI t)) := by
  have hV := vw_ok h.1
  have hr := hV.2.1
  refine askD h (fs (clB (vw β) (am (vw β) t)) (v_r (vw β)) 0) (setp h _ (fun σ _ hd hu => ?_)) ?_
  · rw [bind_id]
    exact clashC hV hd hu ht qFU 0 (by omega) (by rw [qFU_eq]; omega)
  · unfold fX5_clashOf
    refine qok_bind (qok_mono (turnsCup_ok hV h.2.2.2.2.2.2.1 ht) ?_)
    rintro σ1 ⟨f1, c1, c2, c3⟩
    have hm1 := h.2.2.2.2.2.fr f1
    rw [apNow_ok hV (ly_ok hV t) hm1.2.1.1 c1.1 c3 (by have := smN hV t; omega) c2]
    have hl := am_lt (vw β) t
    have hp := p2_le hr
    exact ⟨_, clashM hV hm1.2.1.1 (m := am (vw β) t) (by omega) qFU 0 (by omega) (by rw [qFU_eq]; omega), rfl, f1⟩
theorem clashX {β : qB} {σc σm : qM} (h : RD β σc σm) {t : Nat} (ht : t < 4) : SimD β (fX4_clash σc (nI t)) (fX5_clashOf σm (nI t)) := by
  unfold fX4_clash
  rw [show (4 : Int32) = nI 4 from rfl, bnd_1 ((below_ok σc (nI t) 4 (by decide)).1 (bl_nI ht (by decide))) (by decide)]
  exact clashD h ht
theorem sim_clash {σc σm : qM} (h : RR σc σm) (x1 : Int32) : Sim (fX4_clash σc x1) (fX5_clash σm x1) := by
  unfold fX5_clash
  refine sim_q h (fun β σ1 hR => ?_)
  unfold fX4_clash
  refine simD_test (t1 := fun σ => fX4_below σ x1 4) (t2 := fun σ => fX5_areTurns σ x1) (t_below x1 4 (by decide)) (t_turns x1) hR (fun h1 => ?_)
  obtain ⟨t, ht, rfl⟩ := bl_of h1 (by decide)
  dsimp only
  rw [bind_id]
  exact clashD hR ht

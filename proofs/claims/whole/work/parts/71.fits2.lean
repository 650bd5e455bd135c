/-! ===== PURE: fits, the class ===== -/
theorem turnedL {σ : qM} {V : qV} (hV : v_ok V) (hd : rdc σ V) (hu : cupV σ V) {t i : Nat} (ht : t < 4) (hi : i < v_r V) : ∀ n k, i < k → k ≤ v_r V → v_r V - k < n → ltB V (ap V (ly V t) (sm V (ly V t))) i k = false → qlp (fun _ _ _ _ => none) bX0_inForceWithTurnedRule_20 n σ (nI t) (nI i) (nI k) = some (nI (if ltB V (ap V (ly V t) (sm V (ly V t))) i (v_r V) = true then rdg V t else rdg V t ^^^ 2 ^ v_q V i 4), σ) := by
  have hr := hV.2.1
  intro n
  induction n with
  | zero => intro k _ _ h; omega
  | succ n ih =>
    intro k hik hk hfu hany
    rw [qlp_succ]
    generalize qlp (fun _ _ _ _ => none) bX0_inForceWithTurnedRule_20 n = kk at ih ⊢
    unfold bX0_inForceWithTurnedRule_20 fX0_inForceWithTurnedRule_57
    rw [hd.2.2.2.1]
    have g29 := (hu.2.1.2.2 t ht).2.2
    by_cases e : k = v_r V
    · have hq4 := (hV.2.2.2.2.1 i hi).2.2.2.2
      rw [if_pos (nI_le (by omega) (by omega)), if_pos (qin_of ht (by decide)), bnd_s (show fX3_part σ 4 (nI i) 4 = some (nI (v_q V i 4), σ) from partR_ok hV hd hi (by decide))]
      dsimp only
      rw [nI_clamp (by omega), g29, jshl1 (by omega), fa_xor, ← e, hany, if_neg (by decide)]
    · rw [if_neg (nI_ge (by omega) (by omega)), nI_1]
      have e2 := apC hV hu ht (k := k) (by omega)
      have hs : ltB V (ap V (ly V t) (sm V (ly V t))) i (k + 1) = (ap V (ly V t) (sm V (ly V t)) k && decide (v_q V k 4 = v_q V i 4)) := by
        have h2 : ltB V (ap V (ly V t) (sm V (ly V t))) i (k + 1) = (ltB V (ap V (ly V t) (sm V (ly V t))) i k || (decide (i < k) && (ap V (ly V t) (sm V (ly V t)) k && decide (v_q V k 4 = v_q V i 4)))) := any_succ _ _
        rw [h2, hany, decide_eq_true hik, Bool.true_and, Bool.false_or]
      have ebit : (am V t).testBit k = ap V (ly V t) (sm V (ly V t)) k := by unfold am; rw [mk_bit, decide_eq_true (by omega), Bool.true_and]
      rw [ebit] at e2
      have e3 := alike_ok hV hd (a := i) (b := k) (j := 4) hi (by omega) (by decide)
      cases hq : ap V (ly V t) (sm V (ly V t)) k with
      | false =>
        rw [hq] at e2 hs
        rw [bnd_0 e2]
        exact ih (k + 1) (by omega) (by omega) (by omega) (by rw [hs]; rfl)
      | true =>
        rw [hq] at e2 hs
        rw [bnd_1 e2 (by decide)]
        dsimp only
        by_cases c : v_q V i 4 = v_q V k 4
        · rw [decide_eq_true c] at e3
          rw [bnd_1 (show fX0_alike σ (nI i) (nI k) 4 = some (b2i true, σ) from e3) (by decide)]
          dsimp only
          rw [if_pos (qin_of ht (by decide)), nI_clamp (by omega), g29, if_pos]
          exact any_of (i := k + 1) (by omega) (by rw [show (List.range (k + 1)).any (fun k => decide (i < k) && (ap V (ly V t) (sm V (ly V t)) k && decide (v_q V k 4 = v_q V i 4))) = ltB V (ap V (ly V t) (sm V (ly V t))) i (k + 1) from rfl, hs, decide_eq_true c.symm]; rfl)
        · rw [decide_eq_false c] at e3
          rw [bnd_0 (show fX0_alike σ (nI i) (nI k) 4 = some (b2i false, σ) from e3)]
          exact ih (k + 1) (by omega) (by omega) (by omega) (by rw [hs, decide_eq_false (fun q => c q.symm)]; rfl)
theorem turned_ok {σ : qM} {V : qV} (hV : v_ok V) (hd : rdc σ V) (hu : cupV σ V) {t i : Nat} (ht : t < 4) (hi : i < v_r V) : fX0_inForceWithTurnedRule σ (nI t) (nI i) = some (nI (had V t 2 i), σ) := by
  have hr := hV.2.1
  unfold fX0_inForceWithTurnedRule
  have e2 := apC hV hu ht (k := i) (by omega)
  have ebit : (am V t).testBit i = ap V (ly V t) (sm V (ly V t)) i := by unfold am; rw [mk_bit, decide_eq_true (by omega), Bool.true_and]
  rw [ebit] at e2
  rw [had2 hV hi]
  cases hq : ap V (ly V t) (sm V (ly V t)) i with
  | false =>
    rw [hq] at e2
    rw [bnd_0 e2]
    dsimp only
    rw [if_pos (qin_of ht (by decide)), nI_clamp (by omega), (hu.2.1.2.2 t ht).2.2, lw_no hq]
    rfl
  | true =>
    rw [hq] at e2
    rw [bnd_1 e2 (by decide)]
    dsimp only
    rw [nI_1, lw_turn hq _ hi]
    refine turnedL hV hd hu ht hi qFU (i + 1) (by omega) (by omega) (by rw [qFU_eq]; omega) ?_
    cases hl : ltB V (ap V (ly V t) (sm V (ly V t))) i (i + 1) with
    | false => rfl
    | true =>
      unfold ltB at hl
      rw [List.any_eq_true] at hl
      obtain ⟨k, k1, k2⟩ := hl
      rw [Bool.and_eq_true] at k2
      have := List.mem_range.mp k1
      have := of_decide_eq_true k2.1
      omega
/-! without one leaf -/
def woB (V : qV) (t i A B k : Nat) : Prop := ∃ a b, a < b ∧ b < v_n V ∧ (a < A ∨ (a = A ∧ b < B)) ∧ ¬ a = i ∧ ¬ b = i ∧ (mp V t a b).testBit k = true
theorem wo_end {V : qV} {t i x : Nat} (hx : ∀ k, x.testBit k = true ↔ woB V t i (v_n V) 0 k) : x = mk (ap V (ly V t) (sm V (ly V t) ^^^ (sm V (ly V t) &&& 2 ^ i))) (v_r V) := by
  apply Nat.eq_of_testBit_eq
  intro k
  rw [Bool.eq_iff_iff, hx, mk_bit, Bool.and_eq_true, decide_eq_true_eq]
  have hb : ∀ a, (sm V (ly V t) ^^^ (sm V (ly V t) &&& 2 ^ i)).testBit a = ((sm V (ly V t)).testBit a && !decide (a = i)) := fun a => clr_bit _ _ _
  constructor
  · rintro ⟨a, b, hab, hbn, _, hai, hbi, h⟩
    unfold mp at h
    rw [mk_bit, Bool.and_eq_true, decide_eq_true_eq] at h
    refine ⟨h.1, ?_⟩
    have h2 := h.2
    unfold mpf at h2
    rw [Bool.and_eq_true, Bool.and_eq_true, Bool.or_eq_true] at h2
    have s1 : (sm V (ly V t) ^^^ (sm V (ly V t) &&& 2 ^ i)).testBit a = true := by rw [hb, h2.1.1, decide_eq_false hai]; rfl
    have s2 : (sm V (ly V t) ^^^ (sm V (ly V t) &&& 2 ^ i)).testBit b = true := by rw [hb, h2.1.2, decide_eq_false hbi]; rfl
    rcases h2.2 with w | w
    · exact ap_iff.mpr ⟨a, b, show a < v_n V by omega, hbn, s1, s2, w⟩
    · exact ap_iff.mpr ⟨b, a, hbn, show a < v_n V by omega, s2, s1, w⟩
  · rintro ⟨hk, h⟩
    obtain ⟨a, b, ha, hb2, s1, s2, h3⟩ := ap_iff.mp h
    have ha' : a < v_n V := ha
    have hb' : b < v_n V := hb2
    rw [hb, Bool.and_eq_true] at s1 s2
    have n1 : ¬ a = i := fun e => by rw [decide_eq_true e] at s1; exact Bool.noConfusion s1.2
    have n2 : ¬ b = i := fun e => by rw [decide_eq_true e] at s2; exact Bool.noConfusion s2.2
    have hne := pa_ne h3
    rcases Nat.lt_or_ge a b with c | c
    · refine ⟨a, b, c, hb', Or.inl ha', n1, n2, ?_⟩
      unfold mp mpf
      rw [mk_bit, decide_eq_true hk, s1.1, s2.1, h3]; rfl
    · refine ⟨b, a, by omega, ha', Or.inl hb', n2, n1, ?_⟩
      unfold mp mpf
      rw [mk_bit, decide_eq_true hk, s1.1, s2.1, h3, Bool.or_true]; rfl
theorem wo_ok {σ : qM} {V : qV} (hV : v_ok V) (hd : rdc σ V) (hu : cupV σ V) {t i : Nat} (ht : t < 4) (hi : i < v_n V) : fX0_inForceWithoutLeaf σ (nI t) (nI i) = some (nI (had V t 1 i), σ) := by
  have hn := hV.1
  have hr2 := p2_le hV.2.1
  have main : qok (fX0_inForceWithoutLeaf σ (nI t) (nI i)) (fun q => q = (nI (had V t 1 i), σ)) := by
    unfold fX0_inForceWithoutLeaf
    refine qok_lp5 (z := fun _ _ _ _ _ => none) (b := bX0_inForceWithoutLeaf_5) (fun mm σ1 x1 x2 x3 x4 => σ1 = σ ∧ x1 = nI t ∧ x2 = nI i ∧ ∃ A x, A ≤ v_n V ∧ mm = v_n V - A ∧ x3 = nI x ∧ x4 = nI A ∧ x < 2 ^ v_r V ∧ ∀ k, x.testBit k = true ↔ woB V t i A 0 k) ?_ qFU (v_n V) σ _ _ 0 0 (by rw [qFU_eq]; omega) ⟨rfl, rfl, rfl, 0, 0, Nat.zero_le _, rfl, rfl, rfl, Nat.two_pow_pos _, fun k => ?_⟩
    · rintro mm k5 ih σ1 x1 x2 x3 x4 ⟨rfl, rfl, rfl, A, x, hA, rfl, rfl, rfl, hx, hbits⟩
      unfold bX0_inForceWithoutLeaf_5
      rw [hd.1]
      by_cases e : A = v_n V
      · refine qok_t (nI_le (by omega) (by omega)) (qok_t (qin_of (by omega) (by decide)) (qok_some ?_))
        rw [e] at hbits
        rw [nI_clamp (by omega), hu.2.1.2.1 x hx, wo_end hbits, lm_mk, had1 hV]
        rfl
      · refine qok_f (nI_ge (by omega) (by omega)) ?_
        unfold fX0_inForceWithoutLeaf_23
        rw [nI_1]
        refine qok_lp6 (z := fun _ _ _ _ _ _ => none) (b := bX0_inForceWithoutLeaf_23 k5) (fun mm s1 x1 x2 x3 x4 x5 => s1 = σ1 ∧ x1 = nI t ∧ x2 = nI i ∧ x4 = nI A ∧ ∃ B x, A + 1 ≤ B ∧ B ≤ v_n V ∧ mm = v_n V - B ∧ x3 = nI x ∧ x5 = nI B ∧ x < 2 ^ v_r V ∧ ∀ k, x.testBit k = true ↔ woB V t i A B k) ?_ qFU (v_n V - (A + 1)) σ1 _ _ _ _ _ (by rw [qFU_eq]; omega) ⟨rfl, rfl, rfl, rfl, A + 1, x, by omega, by omega, rfl, rfl, rfl, hx, fun k => ?_⟩
        · rintro mm k23 ih2 σ1 x1 x2 x3 x4 x5 ⟨rfl, rfl, rfl, rfl, B, y, hB1, hB2, rfl, rfl, rfl, hy, hb2⟩
          unfold bX0_inForceWithoutLeaf_23 fX0_inForceWithoutLeaf_65
          rw [hd.1]
          by_cases e2 : B = v_n V
          · refine qok_t (nI_le (by omega) (by omega)) ?_
            rw [nI_1]
            refine ih (v_n V - (A + 1)) _ _ _ _ _ (by omega) ⟨rfl, rfl, rfl, A + 1, y, by omega, rfl, rfl, rfl, hy, fun k => ?_⟩
            rw [hb2]
            constructor
            · rintro ⟨a, b, h1, h2, h3, h4⟩; exact ⟨a, b, h1, h2, by omega, h4⟩
            · rintro ⟨a, b, h1, h2, h3, h4⟩; exact ⟨a, b, h1, h2, by omega, h4⟩
          · refine qok_f (nI_ge (by omega) (by omega)) ?_
            rw [nI_1]
            have skip : (A = i ∨ B = i) → qok (k23 σ1 (nI t) (nI i) (nI y) (nI A) (nI (B + 1))) (fun q => q = (nI (had V t 1 i), σ1)) := fun hs => by
              refine ih2 (v_n V - (B + 1)) _ _ _ _ _ _ (by omega) ⟨rfl, rfl, rfl, rfl, B + 1, y, by omega, by omega, rfl, rfl, rfl, hy, fun k => ?_⟩
              rw [hb2]
              constructor
              · rintro ⟨a, b, h1, h2, h3, h4⟩; exact ⟨a, b, h1, h2, by omega, h4⟩
              · rintro ⟨a, b, h1, h2, h3, h4, h5, h6⟩; exact ⟨a, b, h1, h2, by omega, h4, h5, h6⟩
            by_cases c1 : A = i
            · exact qok_t (congrArg nI c1) (skip (Or.inl c1))
            · refine qok_f (fun q => c1 ((nI_eq (by omega) (by omega)).mp q)) ?_
              by_cases c2 : B = i
              · exact qok_t (congrArg nI c2) (skip (Or.inr c2))
              · refine qok_f (fun q => c2 ((nI_eq (by omega) (by omega)).mp q)) (qok_t (qin_of ht (by decide)) ?_)
                rw [show nI A * 12 + nI B = nI (A * 12 + B) from by rw [show nI A * 12 = nI (A * 12) from pk_mul _ 12, nI_add]]
                refine qok_t (qin_of (by omega) (by decide)) ?_
                rw [nI_clamp (by omega), nI_clamp (by omega), (hu.2.1.2.2 t ht).2.1.1 A B (by omega) (by omega), fa_or]
                refine ih2 (v_n V - (B + 1)) _ _ _ _ _ _ (by omega) ⟨rfl, rfl, rfl, rfl, B + 1, y ||| mp V t A B, by omega, by omega, rfl, rfl, rfl, or_lt hy (mp_lt V t A B), fun k => ?_⟩
                rw [Nat.testBit_or, Bool.or_eq_true, hb2]
                constructor
                · rintro (⟨a, b, h1, h2, h3, h4⟩ | h)
                  · exact ⟨a, b, h1, h2, by omega, h4⟩
                  · exact ⟨A, B, by omega, by omega, by omega, c1, c2, h⟩
                · rintro ⟨a, b, h1, h2, h3, h4, h5, h6⟩
                  by_cases w : a = A ∧ b = B
                  · rw [w.1, w.2] at h6; exact Or.inr h6
                  · exact Or.inl ⟨a, b, h1, h2, by omega, h4, h5, h6⟩
        · rw [hbits]
          constructor
          · rintro ⟨a, b, h1, h2, h3, h4⟩; exact ⟨a, b, h1, h2, by omega, h4⟩
          · rintro ⟨a, b, h1, h2, h3, h4⟩; exact ⟨a, b, h1, h2, by omega, h4⟩
    · rw [Nat.zero_testBit]
      constructor
      · intro h; exact Bool.noConfusion h
      · rintro ⟨a, b, h1, h2, h3, h4⟩; omega
  obtain ⟨q, e, rfl⟩ := main
  exact e
theorem had_ok {σ : qM} {V : qV} (hV : v_ok V) (hd : rdc σ V) (hu : cupV σ V) {t kind i : Nat} (ht : t < 4) (hk : kind < 3) (hi : i < if kind = 1 then v_n V else v_r V) : fX0_inForceHad σ (nI kind) (nI i) (nI t) = some (nI (had V t kind i), σ) := by
  have hn := hV.1
  have hr := hV.2.1
  have hr2 := p2_le hV.2.1
  have ham := am_lt V t
  unfold fX0_inForceHad
  rcases (show kind = 0 ∨ kind = 1 ∨ kind = 2 by omega) with rfl | rfl | rfl
  · rw [if_neg (by decide)] at hi
    have hc : am V t ^^^ (am V t &&& 2 ^ i) < 2 ^ v_r V := cut_lt ham
    rw [if_pos (show nI 0 = (0 : Int32) from rfl), if_pos (qin_of ht (by decide)), nI_clamp (by omega), jshl1 (by omega)]
    simp only [(hu.2.1.2.2 t ht).2.1.2, andNot]
    rw [if_pos (qin_of (by omega) (by decide)), nI_clamp (by omega), hu.2.1.2.1 _ hc, had0 hV]
  · rw [if_pos rfl] at hi
    rw [if_neg (show ¬ nI 1 = (0 : Int32) by decide), if_pos (show nI 1 = (1 : Int32) from rfl), bind_id]
    exact wo_ok hV hd hu ht hi
  · rw [if_neg (by decide)] at hi
    rw [if_neg (show ¬ nI 2 = (0 : Int32) by decide), if_neg (show ¬ nI 2 = (1 : Int32) by decide), bind_id]
    exact turned_ok hV hd hu ht hi

/-! ===== PURE: which rules apply, for every choice of leaves ===== -/
def rlv (V : qV) (t m : Nat) : Nat := mk (ap V (ly V t) (m &&& sm V (ly V t))) (v_r V)
theorem mk_0 {f : Nat → Bool} {n : Nat} (h : ∀ i, i < n → f i = false) : mk f n = 0 := by
  apply Nat.eq_of_testBit_eq
  intro i
  rw [mk_bit, Nat.zero_testBit]
  by_cases c : i < n
  · rw [h i c, Bool.and_false]
  · rw [decide_eq_false c, Bool.false_and]
theorem pa_ne {V : qV} {Y : qL} {k a b : Nat} (h : pa V Y k a b = true) : ¬ a = b := by
  unfold pa at h
  rw [Bool.and_eq_true] at h
  exact (of_decide_eq_true h.1).1
theorem clr_lt2 {i j : Nat} (h : i.testBit j = true) : clr i j < i := by
  have e : i &&& clr i j = clr i j := by
    apply Nat.eq_of_testBit_eq
    intro k
    rw [Nat.testBit_and, clr_bit]
    cases i.testBit k <;> rfl
  have h1 : clr i j ≤ i := by rw [← e]; exact Nat.and_le_left
  refine Nat.lt_of_le_of_ne h1 (fun q => ?_)
  have h2 := clr_bit i j j
  rw [q, h, decide_eq_true rfl] at h2
  exact Bool.noConfusion h2
theorem rlv_one {V : qV} {t m : Nat} (h0 : ¬ m = 0) (hm : m < 4096) (h : tzN 12 m = hbN 12 m) : rlv V t m = 0 := by
  refine mk_0 (fun k hk => ?_)
  cases hq : ap V (ly V t) (m &&& sm V (ly V t)) k with
  | false => rfl
  | true =>
    obtain ⟨a, b, ha, hb, h1, h2, h3⟩ := ap_iff.mp hq
    rw [Nat.testBit_and, Bool.and_eq_true] at h1 h2
    have z1 := zb_in h0 hm h1.1
    have z2 := zb_in h0 hm h2.1
    exact absurd (show a = b by omega) (pa_ne h3)
theorem rlv_two {V : qV} {t m : Nat} (h0 : ¬ m = 0) (hm : m < 4096) (hn : m < 2 ^ v_n V) (h : ¬ tzN 12 m = hbN 12 m) : rlv V t (clr m (tzN 12 m)) ||| rlv V t (clr m (hbN 12 m)) ||| mp V t (tzN 12 m) (hbN 12 m) = rlv V t m := by
  obtain ⟨z1, z2, z3, z4, z5, z6⟩ := zb_ok h0 hm
  unfold rlv mp
  rw [mk_mk, mk_mk]
  refine mk_cong (fun k hk => ?_)
  have hlo : ∀ j, m.testBit j = true → j < v_n V := fun j hj => by
    by_cases c : j < v_n V
    · exact c
    · rw [bit_hi hn (by omega)] at hj; exact Bool.noConfusion hj
  have hL := hlo _ z3
  have hH := hlo _ z4
  rw [Bool.eq_iff_iff]
  constructor
  · intro q
    rw [Bool.or_eq_true, Bool.or_eq_true] at q
    rcases q with (q | q) | q
    · obtain ⟨a, b, ha, hb, h1, h2, h3⟩ := ap_iff.mp q
      rw [Nat.testBit_and, clr_bit, Bool.and_eq_true, Bool.and_eq_true] at h1 h2
      exact ap_iff.mpr ⟨a, b, ha, hb, by rw [Nat.testBit_and, h1.1.1, h1.2]; rfl, by rw [Nat.testBit_and, h2.1.1, h2.2]; rfl, h3⟩
    · obtain ⟨a, b, ha, hb, h1, h2, h3⟩ := ap_iff.mp q
      rw [Nat.testBit_and, clr_bit, Bool.and_eq_true, Bool.and_eq_true] at h1 h2
      exact ap_iff.mpr ⟨a, b, ha, hb, by rw [Nat.testBit_and, h1.1.1, h1.2]; rfl, by rw [Nat.testBit_and, h2.1.1, h2.2]; rfl, h3⟩
    · unfold mpf at q
      rw [Bool.and_eq_true, Bool.and_eq_true, Bool.or_eq_true] at q
      obtain ⟨⟨q1, q2⟩, q3⟩ := q
      rcases q3 with q3 | q3
      · exact ap_iff.mpr ⟨_, _, hL, hH, by rw [Nat.testBit_and, z3, q1]; rfl, by rw [Nat.testBit_and, z4, q2]; rfl, q3⟩
      · exact ap_iff.mpr ⟨_, _, hH, hL, by rw [Nat.testBit_and, z4, q2]; rfl, by rw [Nat.testBit_and, z3, q1]; rfl, q3⟩
  · intro q
    obtain ⟨a, b, ha, hb, h1, h2, h3⟩ := ap_iff.mp q
    rw [Nat.testBit_and, Bool.and_eq_true] at h1 h2
    have hne := pa_ne h3
    have y1 := zb_in h0 hm h1.1
    have y2 := zb_in h0 hm h2.1
    rw [Bool.or_eq_true, Bool.or_eq_true]
    by_cases c1 : a = tzN 12 m ∨ b = tzN 12 m
    · by_cases c2 : a = hbN 12 m ∨ b = hbN 12 m
      · refine Or.inr ?_
        unfold mpf
        rw [Bool.and_eq_true, Bool.and_eq_true, Bool.or_eq_true]
        rcases c1 with c1 | c1
        · have c3 : b = hbN 12 m := by
            rcases c2 with c2 | c2
            · exact absurd (c1.symm.trans c2) h
            · exact c2
          rw [c1] at h1 h3
          rw [c3] at h2 h3
          exact ⟨⟨h1.2, h2.2⟩, Or.inl h3⟩
        · have c3 : a = hbN 12 m := by
            rcases c2 with c2 | c2
            · exact c2
            · exact absurd (c1.symm.trans c2) h
          rw [c3] at h1 h3
          rw [c1] at h2 h3
          exact ⟨⟨h2.2, h1.2⟩, Or.inr h3⟩
      · refine Or.inl (Or.inr (ap_iff.mpr ⟨a, b, ha, hb, ?_, ?_, h3⟩))
        · rw [Nat.testBit_and, clr_bit, h1.1, h1.2, decide_eq_false (by omega)]; rfl
        · rw [Nat.testBit_and, clr_bit, h2.1, h2.2, decide_eq_false (by omega)]; rfl
    · refine Or.inl (Or.inl (ap_iff.mpr ⟨a, b, ha, hb, ?_, ?_, h3⟩))
      · rw [Nat.testBit_and, clr_bit, h1.1, h1.2, decide_eq_false (by omega)]; rfl
      · rw [Nat.testBit_and, clr_bit, h2.1, h2.2, decide_eq_false (by omega)]; rfl
theorem fillL {σ0 : qM} {V : qV} (hV : v_ok V) {t : Nat} (ht : t < 4) (hP : cuP σ0 V t) (h0 : σ0 41 0 = 0) : qok (fX0_fillRulesByLeaves_33 σ0 (nI t) (nI (2 ^ v_n V)) 1) (fun σ' => (∀ a, ¬ a = 41 → σ' a = σ0 a) ∧ cuR σ' V t) := by
  have hn := hV.1
  have hp := p2_le hn
  have hp0 : 0 < 2 ^ v_n V := Nat.two_pow_pos _
  refine qok_lp4 (z := fun _ _ _ _ => none) (b := bX0_fillRulesByLeaves_33) (fun mm σ x1 x2 x3 => x1 = nI t ∧ x2 = nI (2 ^ v_n V) ∧ ∃ i, 1 ≤ i ∧ i ≤ 2 ^ v_n V ∧ mm = 2 ^ v_n V - i ∧ x3 = nI i ∧ (∀ a, ¬ a = 41 → σ a = σ0 a) ∧ ∀ j, j < i → σ 41 j = nI (rlv V t j)) ?_ qFU (2 ^ v_n V - 1) σ0 _ _ 1 (by rw [qFU_eq]; omega) ⟨rfl, rfl, 1, by omega, by omega, rfl, rfl, fun _ _ => rfl, fun j hj => ?_⟩
  · rintro mm kk ih σ x1 x2 x3 ⟨rfl, rfl, i, i1, i2, rfl, rfl, f1, f2⟩
    unfold bX0_fillRulesByLeaves_33
    by_cases e : i = 2 ^ v_n V
    · refine qok_t (nI_le (by omega) (by omega)) (qok_some ⟨f1, fun m hm => ?_⟩)
      exact f2 m (by omega)
    · have hi0 : ¬ i = 0 := by omega
      have him : i < 4096 := by omega
      obtain ⟨z1, z2, z3, z4, z5, z6⟩ := zb_ok hi0 him
      refine qok_f (nI_ge (by omega) (by omega)) ?_
      rw [bnd_s (ntz_ok σ hi0 him)]
      dsimp only
      obtain ⟨r, r1, r2⟩ := nlz_ok σ hi0 him
      rw [bnd_s r1]
      dsimp only
      rw [r2]
      unfold fX0_fillRulesByLeaves_53 fX0_fillRulesByLeaves_112
      rw [nI_1]
      simp only [nI_clamp (show i < 2 ^ 31 by omega)]
      have step : ∀ v, v = nI (rlv V t i) → qok (kk (qup σ 41 i v) (nI t) (nI (2 ^ v_n V)) (nI (i + 1))) (fun σ' => (∀ a, ¬ a = 41 → σ' a = σ0 a) ∧ cuR σ' V t) := fun v hv => by
        refine ih (2 ^ v_n V - (i + 1)) _ _ _ _ (by omega) ⟨rfl, rfl, i + 1, by omega, by omega, rfl, rfl, fun a ha => by rw [qup_ne _ _ _ ha, f1 a ha], fun j hj => ?_⟩
        rw [qup_eq, upd_at]
        by_cases c : j = i
        · rw [if_pos c, hv, c]
        · rw [if_neg c]; exact f2 j (by omega)
      by_cases c : tzN 12 i = hbN 12 i
      · refine qok_t (congrArg nI c) (qok_t (qin_of him (by decide)) (step _ ?_))
        rw [rlv_one hi0 him c]; rfl
      · refine qok_f (fun q => c ((nI_eq (by omega) (by omega)).mp q)) ?_
        have l1 := clr_lt2 z3
        have l2 := clr_lt2 z4
        have hhi : hbN 12 i < v_n V := by
          by_cases w : hbN 12 i < v_n V
          · exact w
          · rw [bit_hi (show i < 2 ^ v_n V by omega) (by omega)] at z4; exact Bool.noConfusion z4
        rw [jshl1 (show tzN 12 i < 31 by omega), jshl1 (show hbN 12 i < 31 by omega), andNot, andNot, show nI (tzN 12 i) * 12 + nI (hbN 12 i) = nI (tzN 12 i * 12 + hbN 12 i) from by rw [show nI (tzN 12 i) * 12 = nI (tzN 12 i * 12) from pk_mul _ 12, nI_add]]
        have g1 : clr i (tzN 12 i) = i ^^^ (i &&& 2 ^ tzN 12 i) := rfl
        have g2 : clr i (hbN 12 i) = i ^^^ (i &&& 2 ^ hbN 12 i) := rfl
        rw [← g1, ← g2]
        refine qok_t (qin_of (by omega) (by decide)) (qok_t (qin_of (by omega) (by decide)) (qok_t (qin_of ht (by decide)) (qok_t (qin_of (by omega) (by decide)) (qok_t (qin_of him (by decide)) (step _ ?_)))))
        rw [nI_clamp (by omega), nI_clamp (by omega), nI_clamp (by omega), nI_clamp (by omega), f2 _ l1, f2 _ l2, f1 (31 + t) (by omega), hP.1 _ _ (by omega) hhi, fa_or, fa_or, rlv_two hi0 him (by omega) c]
  · have : j = 0 := by omega
    subst this
    rw [h0]
    unfold rlv
    rw [mk_0]
    · rfl
    · intro k _
      cases hq : ap V (ly V t) (0 &&& sm V (ly V t)) k with
      | false => rfl
      | true =>
        obtain ⟨a, b, ha, hb, h1, _⟩ := ap_iff.mp hq
        rw [Nat.testBit_and, Nat.zero_testBit] at h1
        exact Bool.noConfusion h1
theorem cuA.fr2 {σ σ' : qM} {V : qV} (h : cuA σ V) (g : ∀ a, 17 ≤ a → a ≤ 40 → σ' a = σ a) : cuA σ' V := by
  obtain ⟨h1, h2, h3⟩ := h
  refine ⟨fun a s ha hs => by rw [g (36 + a) (by omega) (by omega)]; exact h1 a s ha hs, fun m hm => by rw [g 40 (by omega) (by omega)]; exact h2 m hm, fun t ht => ?_⟩
  obtain ⟨L, P, F⟩ := h3 t ht
  refine ⟨?_, ?_, by rw [g 29 (by omega) (by omega)]; exact F⟩
  · unfold cuL; rw [g (18 + t) (by omega) (by omega), g (23 + t) (by omega) (by omega), g 27 (by omega) (by omega)]; exact L
  · unfold cuP; rw [g (31 + t) (by omega) (by omega), g 28 (by omega) (by omega)]; exact P
theorem fill_ok {σ : qM} {V : qV} (hV : v_ok V) (hd : rdc σ V) (hu : cupV σ V) {t : Nat} (ht : t < 4) : qok (fX0_fillRulesByLeaves σ (nI t)) (fun σ' => frU σ σ' ∧ cupV σ' V ∧ cuR σ' V t) := by
  have hn := hV.1
  unfold fX0_fillRulesByLeaves fX0_fillRulesByLeaves_14 fX0_fillRulesByLeaves_21
  by_cases c : σ 16 12 = nI t
  · refine qok_t c (qok_some ⟨frU.rf σ, hu, ?_⟩)
    rcases hu.2.2 with q | ⟨t2, h1, h2, h3⟩
    · rw [c] at q; exact absurd q (nI_m1 (by omega))
    · have : t = t2 := (nI_eq (by omega) (by omega)).mp (c.symm.trans h2)
      subst this
      exact h3
  · refine qok_f c ?_
    rw [show (0 : Int32).toNatClampNeg = 0 from rfl, qup_ne _ _ _ (by decide : ¬ 1 = 41), qup_ne _ _ _ (by decide : ¬ 1 = 16), hd.1, jshl1 (show v_n V < 31 by omega)]
    refine qok_mono (fillL hV ht ?_ ?_) ?_
    · unfold cuP
      rw [qup_ne _ _ _ (by omega), qup_ne _ _ _ (by omega), qup_ne _ _ _ (by decide), qup_ne _ _ _ (by decide)]
      exact (hu.2.1.2.2 t ht).2.1
    · rw [qup_eq, upd_at, if_pos rfl]
    · rintro σ1 ⟨f1, f2⟩
      have fr : ∀ a, ¬ a = 41 → ¬ a = 16 → σ1 a = σ a := fun a a1 a2 => by rw [f1 a a1, qup_ne _ _ _ a1, qup_ne _ _ _ a2]
      refine ⟨fun a ha => fr a (by omega) (by omega), ⟨?_, hu.2.1.fr2 (fun a a1 a2 => fr a (by omega) (by omega)), Or.inr ⟨t, ht, ?_, f2⟩⟩, f2⟩
      · rw [f1 16 (by decide), qup_ne _ _ _ (by decide), qup_eq, upd_at, if_neg (by decide)]; exact hu.1
      · rw [f1 16 (by decide), qup_ne _ _ _ (by decide), qup_eq, upd_at, if_pos rfl]

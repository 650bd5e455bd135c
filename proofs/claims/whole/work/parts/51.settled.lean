/-! ===== PURE: the class's cup settled ===== -/
/-- rules that two leaves make apply -/
def mpf (V : qV) (t a b k : Nat) : Bool := ((sm V (ly V t)).testBit a && (sm V (ly V t)).testBit b) && (pa V (ly V t) k a b || pa V (ly V t) k b a)
def mp (V : qV) (t a b : Nat) : Nat := mk (mpf V t a b) (v_r V)
/-- rules that apply -/
def am (V : qV) (t : Nat) : Nat := mk (ap V (ly V t) (sm V (ly V t))) (v_r V)
def cuP (σ : qM) (V : qV) (t : Nat) : Prop := (∀ a b, a < b → b < v_n V → σ (31 + t) (a * 12 + b) = nI (mp V t a b)) ∧ σ 28 t = nI (am V t)
theorem mwf_mp {V : qV} {t a b k : Nat} (h : ¬ a = b) (ha : (sm V (ly V t)).testBit a = true) : mwf V t b (y_s (ly V t) a) (y_c (ly V t) a) (y_r (ly V t) a) k = mpf V t a b k := by
  unfold mwf mpf pa
  rw [ha, Bool.true_and]
  have h2 : ¬ b = a := fun q => h q.symm
  have e1 : decide (v_q V k 0 = y_s (ly V t) b ∧ v_q V k 2 = y_s (ly V t) a) = decide (¬ b = a ∧ y_s (ly V t) b = v_q V k 0 ∧ y_s (ly V t) a = v_q V k 2) := by
    apply decide_eq_decide.mpr
    exact ⟨fun q => ⟨h2, q.1.symm, q.2.symm⟩, fun q => ⟨q.2.1.symm, q.2.2.symm⟩⟩
  have e2 : decide (v_q V k 0 = y_s (ly V t) a ∧ v_q V k 2 = y_s (ly V t) b) = decide (¬ a = b ∧ y_s (ly V t) a = v_q V k 0 ∧ y_s (ly V t) b = v_q V k 2) := by
    apply decide_eq_decide.mpr
    exact ⟨fun q => ⟨h, q.1.symm, q.2.symm⟩, fun q => ⟨q.2.1.symm, q.2.2.symm⟩⟩
  rw [e1, e2, Bool.or_comm]
theorem mp_lt (V : qV) (t a b : Nat) : mp V t a b < 2 ^ v_r V := mk_lt _ _
theorem am_lt (V : qV) (t : Nat) : am V t < 2 ^ v_r V := mk_lt _ _
theorem am_of {V : qV} {t x : Nat} (hx : ∀ k, x.testBit k = true ↔ ∃ a b, a < b ∧ b < v_n V ∧ (mp V t a b).testBit k = true) : x = am V t := by
  apply Nat.eq_of_testBit_eq
  intro k
  rw [Bool.eq_iff_iff, hx]
  unfold am
  rw [mk_bit, Bool.and_eq_true, decide_eq_true_eq, ap_iff]
  constructor
  · rintro ⟨a, b, hab, hb, h⟩
    unfold mp at h
    rw [mk_bit, Bool.and_eq_true, decide_eq_true_eq] at h
    unfold mpf at h
    rw [Bool.and_eq_true, Bool.and_eq_true, Bool.or_eq_true] at h
    obtain ⟨h1, ⟨h2, h3⟩, h4⟩ := h
    rcases h4 with h4 | h4
    · exact ⟨h1, a, b, show a < v_n V by omega, hb, h2, h3, h4⟩
    · exact ⟨h1, b, a, hb, show a < v_n V by omega, h3, h2, h4⟩
  · rintro ⟨h1, a, b, ha, hb, h2, h3, h4⟩
    have hne : ¬ a = b := by
      intro e
      subst e
      unfold pa at h4
      simp at h4
    rcases Nat.lt_or_ge a b with q | q
    · refine ⟨a, b, q, hb, ?_⟩
      unfold mp
      rw [mk_bit, Bool.and_eq_true, decide_eq_true_eq]
      refine ⟨h1, ?_⟩
      unfold mpf
      rw [h2, h3, h4]; rfl
    · refine ⟨b, a, by omega, ha, ?_⟩
      unfold mp
      rw [mk_bit, Bool.and_eq_true, decide_eq_true_eq]
      refine ⟨h1, ?_⟩
      unfold mpf
      rw [h2, h3, h4]; simp
theorem pairLeaves_ok {σ0 : qM} {V : qV} (hV : v_ok V) (h : rdc σ0 V) (hS : cuS σ0 V) {t : Nat} (ht : t < 4) (hL : cuL σ0 V t) : qok (fX0_pairLeaves σ0 (nI t)) (fun σ' => ((∀ a, ¬ a = 31 + t → ¬ a = 28 → σ' a = σ0 a) ∧ ∀ i, ¬ i = t → σ' 28 i = σ0 28 i) ∧ cuP σ' V t) := by
  have h12 := hV.1
  have h10 := hV.2.1
  have p10 : 2 ^ v_r V ≤ 2 ^ 10 := p2_le h10
  unfold fX0_pairLeaves fX0_pairLeaves_9
  refine qok_t (qin_of ht (by decide)) ?_
  rw [nI_clamp (by omega)]
  refine qok_lp3 (fun m σ x1 x2 => ∃ a x, m = v_n V - a ∧ a ≤ v_n V ∧ x1 = nI t ∧ x2 = nI a ∧ ((∀ a, ¬ a = 31 + t → ¬ a = 28 → σ a = σ0 a) ∧ ∀ i, ¬ i = t → σ 28 i = σ0 28 i) ∧ (∀ a2 b, a2 < a → a2 < b → b < v_n V → σ (31 + t) (a2 * 12 + b) = nI (mp V t a2 b)) ∧ σ 28 t = nI x ∧ x < 2 ^ v_r V ∧ ∀ k, x.testBit k = true ↔ ∃ a2 b, a2 < a ∧ a2 < b ∧ b < v_n V ∧ (mp V t a2 b).testBit k = true) ?_ qFU (v_n V) _ (nI t) 0 (by rw [qFU_eq]; omega) ⟨0, 0, rfl, by omega, rfl, rfl, ⟨fun a _ h2 => qup_ne _ _ _ h2, fun i hi => by rw [qup_eq, upd_at, if_neg hi]⟩, fun a2 b h1 => by omega, by rw [qup_eq, upd_at, if_pos rfl]; rfl, Nat.two_pow_pos _, fun k => ⟨fun q => (by rw [Nat.zero_testBit] at q; cases q), fun ⟨a2, b, h1, _⟩ => (by omega)⟩⟩
  rintro m k9 ih σ x1 x2 ⟨a, x, hm, ha, rfl, rfl, hf, hp, h28, hxl, hx⟩
  have hfu : frU σ0 σ := fun a ha => hf.1 a (by omega) (by omega)
  have hd := h.fr hfu
  have hL2 : cuL σ V t := by unfold cuL; rw [hf.1 (18 + t) (by omega) (by omega), hf.1 (23 + t) (by omega) (by omega), hf.1 27 (by omega) (by omega)]; exact hL
  unfold bX0_pairLeaves_9
  rw [hd.1]
  by_cases e : a = v_n V
  · subst e
    refine qok_t (nI_le (Nat.le_refl _) (by omega)) (qok_some ⟨hf, fun a2 b h1 h2 => hp a2 b (by omega) h1 h2, ?_⟩)
    rw [h28, am_of (x := x) (fun k => (hx k).trans ⟨fun ⟨a2, b, h1, h2, h3, h4⟩ => ⟨a2, b, h2, h3, h4⟩, fun ⟨a2, b, h2, h3, h4⟩ => ⟨a2, b, by omega, h2, h3, h4⟩⟩)]
  · have hlt : a < v_n V := by omega
    obtain ⟨y1, y2, y3⟩ := (ly_ok hV t).2 a hlt
    refine qok_f (nI_ge hlt (by omega)) (qok_eq (partL_ok hV hd hlt (j := 2) (by decide)) ?_)
    dsimp only
    refine qok_t (qin_of ht (by decide)) (qok_t (qin_of (by omega) (by decide)) (qok_t (qin_of ht (by decide)) (qok_t (qin_of (by omega) (by decide)) ?_)))
    rw [nI_clamp (by omega), nI_clamp (by omega), (hL2.1 a hlt).1, (hL2.1 a hlt).2, show nI a + 1 = nI (a + 1) from nI_1 a]
    unfold fX0_pairLeaves_55
    refine qok_lp7 (fun m2 σ2 x1 x2 x3 x4 x5 x6 => ∃ b x, m2 = v_n V - b ∧ a < b ∧ b ≤ v_n V ∧ x1 = nI t ∧ x2 = nI a ∧ x3 = nI (v_l V a 2) ∧ x4 = nI (y_c (ly V t) a) ∧ x5 = nI (y_r (ly V t) a) ∧ x6 = nI b ∧ ((∀ a, ¬ a = 31 + t → ¬ a = 28 → σ2 a = σ0 a) ∧ ∀ i, ¬ i = t → σ2 28 i = σ0 28 i) ∧ (∀ a2 b2, a2 < a → a2 < b2 → b2 < v_n V → σ2 (31 + t) (a2 * 12 + b2) = nI (mp V t a2 b2)) ∧ (∀ b2, a < b2 → b2 < b → σ2 (31 + t) (a * 12 + b2) = nI (mp V t a b2)) ∧ σ2 28 t = nI x ∧ x < 2 ^ v_r V ∧ ∀ k, x.testBit k = true ↔ ∃ a2 b2, (a2 < a ∨ (a2 = a ∧ b2 < b)) ∧ a2 < b2 ∧ b2 < v_n V ∧ (mp V t a2 b2).testBit k = true) ?_ qFU (v_n V - (a + 1)) σ _ _ _ _ _ _ (by rw [qFU_eq]; omega) ⟨a + 1, x, rfl, by omega, by omega, rfl, rfl, rfl, rfl, rfl, rfl, hf, hp, fun b2 h1 h2 => by omega, h28, hxl, fun k => (hx k).trans ⟨fun ⟨a2, b2, h1, h2, h3, h4⟩ => ⟨a2, b2, Or.inl h1, h2, h3, h4⟩, fun ⟨a2, b2, h1, h2, h3, h4⟩ => ⟨a2, b2, by omega, h2, h3, h4⟩⟩⟩
    rintro m2 k55 ih2 σ2 x1 x2 x3 x4 x5 x6 ⟨b, x, hm2, hab, hb, rfl, rfl, rfl, rfl, rfl, rfl, hf2, hp2, hq2, h28, hxl, hx⟩
    have hfu2 : frU σ0 σ2 := fun a ha => hf2.1 a (by omega) (by omega)
    have hd2 := h.fr hfu2
    have hL3 : cuL σ2 V t := by unfold cuL; rw [hf2.1 (18 + t) (by omega) (by omega), hf2.1 (23 + t) (by omega) (by omega), hf2.1 27 (by omega) (by omega)]; exact hL
    have hS2 : cuS σ2 V := fun h2 s a1 a2 => by rw [hf2.1 (36 + h2) (by omega) (by omega)]; exact hS h2 s a1 a2
    unfold bX0_pairLeaves_55
    rw [hd2.1]
    by_cases e2 : b = v_n V
    · subst e2
      refine qok_t (nI_le (Nat.le_refl _) (by omega)) (ih (v_n V - (a + 1)) _ _ _ (by omega) ⟨a + 1, x, rfl, by omega, rfl, nI_1 a, hf2, fun a2 b2 h1 h2 h3 => ?_, h28, hxl, fun k => (hx k).trans ⟨fun ⟨a2, b2, h1, h2, h3, h4⟩ => ⟨a2, b2, by omega, h2, h3, h4⟩, fun ⟨a2, b2, h1, h2, h3, h4⟩ => ⟨a2, b2, by omega, h2, h3, h4⟩⟩⟩)
      by_cases e3 : a2 = a
      · subst e3; exact hq2 b2 h2 h3
      · exact hp2 a2 b2 (by omega) h2 h3
    · have hbl : b < v_n V := by omega
      refine qok_f (nI_ge hbl (by omega)) (qok_eq (counts_ok hV ht (show a < 32 by omega) hL3.2) ?_)
      dsimp only
      have go : qok (fX0_pairLeaves_92 k9 k55 σ2 (nI t) (nI a) (nI (v_l V a 2)) (nI (y_c (ly V t) a)) (nI (y_r (ly V t) a)) (nI b) (nI (mp V t a b))) (fun σ' => ((∀ a, ¬ a = 31 + t → ¬ a = 28 → σ' a = σ0 a) ∧ ∀ i, ¬ i = t → σ' 28 i = σ0 28 i) ∧ cuP σ' V t) := by
        unfold fX0_pairLeaves_92 fX0_pairLeaves_110
        rw [show nI a * 12 = nI (a * 12) from pk_mul a 12, nI_add]
        refine qok_t (qin_of ht (by decide)) (qok_t (qin_of (by omega) (by decide)) (qok_t (qin_of ht (by decide)) (qok_t (qin_of ht (by decide)) ?_)))
        rw [nI_clamp (by omega), nI_clamp (by omega), qup_ne (a := 28) _ _ _ (by omega), h28, fa_or]
        have hml := mp_lt V t a b
        refine ih2 (v_n V - (b + 1)) _ _ _ _ _ _ _ (by omega) ⟨b + 1, x ||| mp V t a b, rfl, by omega, by omega, rfl, rfl, rfl, rfl, rfl, nI_1 b, ⟨fun c c1 c2 => by rw [qup_ne _ _ _ c2, qup_ne _ _ _ c1, hf2.1 c c1 c2], fun i hi => by rw [qup_eq, upd_at, if_neg hi, qup_ne _ _ _ (by omega), hf2.2 i hi]⟩, fun a2 b2 h1 h2 h3 => ?_, fun b2 h1 h2 => ?_, by rw [qup_eq, upd_at, if_pos rfl], or_lt hxl hml, fun k => ?_⟩
        · rw [qup_ne (a := 31 + t) _ _ _ (by omega), qup_eq, upd_at, if_neg (by omega)]
          exact hp2 a2 b2 h1 h2 h3
        · rw [qup_ne (a := 31 + t) _ _ _ (by omega), qup_eq, upd_at]
          by_cases e3 : b2 = b
          · subst e3; rw [if_pos rfl]
          · rw [if_neg (by omega)]; exact hq2 b2 h1 (by omega)
        · rw [Nat.testBit_or, Bool.or_eq_true, hx k]
          constructor
          · rintro (⟨a2, b2, h1, h2, h3, h4⟩ | h4)
            · exact ⟨a2, b2, by omega, h2, h3, h4⟩
            · exact ⟨a, b, by omega, hab, hbl, h4⟩
          · rintro ⟨a2, b2, h1, h2, h3, h4⟩
            by_cases e3 : a2 = a ∧ b2 = b
            · obtain ⟨rfl, rfl⟩ := e3; exact Or.inr h4
            · exact Or.inl ⟨a2, b2, by omega, h2, h3, h4⟩
      cases hbit : (sm V (ly V t)).testBit a with
      | false =>
        refine qok_t (by decide) ?_
        have hz : mp V t a b = 0 := by
          unfold mp
          rw [show mk (mpf V t a b) (v_r V) = mk (fun _ => false) (v_r V) from mk_cong (fun k _ => by simp [mpf, hbit])]
          apply Nat.eq_of_testBit_eq
          intro i
          rw [mk_bit]; simp
        rw [hz] at go
        exact go
      | true =>
        refine qok_f (by decide) (qok_eq (madeWith_ok hV hd2 hS2 ht hL3 hbl (show v_l V a 2 < 3 from y1) y2 y3) ?_)
        dsimp only
        rw [show mk (mwf V t b (v_l V a 2) (y_c (ly V t) a) (y_r (ly V t) a)) (v_r V) = mp V t a b from mk_cong (fun k _ => mwf_mp (by omega) hbit)]
        exact go
/-! the reading -/
def rdg (V : qV) (t : Nat) : Nat := lw V (ap V (ly V t) (sm V (ly V t))) nof (v_r V)
theorem lm_mk {V : qV} {P : Nat → Bool} : lm V (mk P (v_r V)) = lw V P nof (v_r V) := lw_cong (fun k hk => by rw [mk_bit]; simp [hk]) (fun _ _ => rfl)
theorem rdg_lm (V : qV) (t : Nat) : rdg V t = lm V (am V t) := lm_mk.symm
def cuT (σ : qM) (V : qV) : Prop := ∀ m, m < 2 ^ v_r V → σ 40 m = nI (lm V m)
/-- all that is kept -/
def cuA (σ : qM) (V : qV) : Prop := cuS σ V ∧ cuT σ V ∧ ∀ t, t < 4 → cuL σ V t ∧ cuP σ V t ∧ σ 29 t = nI (rdg V t)
theorem settle_ok {σ0 : qM} {V : qV} (hV : v_ok V) (h : rdc σ0 V) : qok (fX0_settled_14 (qup σ0 16 14 0)) (fun σ' => frU σ0 σ' ∧ σ' 16 14 = 0 ∧ σ' 16 12 = -1 ∧ cuA σ' V) := by
  have h10 := hV.2.1
  have p10 : 2 ^ v_r V ≤ 2 ^ 10 := p2_le h10
  unfold fX0_settled_14 fX0_settled_19
  have hu0 : frU σ0 (qup (qup σ0 16 14 0) 16 12 (-1)) := (frU.up σ0 14 0 (by omega)).tr (frU.up _ 12 (-1) (by omega))
  have e14 : (qup (qup σ0 16 14 0) 16 12 (-1)) 16 14 = 0 := by rw [qup_eq, upd_at, if_neg (by decide), qup_eq, upd_at, if_pos rfl]
  have e12 : (qup (qup σ0 16 14 0) 16 12 (-1)) 16 12 = -1 := by rw [qup_eq, upd_at, if_pos rfl]
  generalize qup (qup σ0 16 14 0) 16 12 (-1) = σ1 at hu0 e14 e12
  refine qok_bind (qok_mono (sortRules_ok hV (h.fr hu0)) ?_)
  rintro σ2 ⟨u1, u2, u3⟩
  refine qok_bind (qok_mono (readRules_ok hV ((h.fr hu0).fr u1)) ?_)
  rintro σ3 ⟨w1, w2, w3⟩
  unfold fX0_settled_29
  have hS3 : cuS σ3 V := fun h s a b => by rw [w2 (36 + h) (by omega)]; exact u3 h s a b
  refine qok_lp2 (fun m σ x1 => ∃ t, m = 4 - t ∧ t ≤ 4 ∧ x1 = nI t ∧ frU σ3 σ ∧ σ 16 = σ3 16 ∧ (∀ a, 36 ≤ a → a ≤ 40 → σ a = σ3 a) ∧ ∀ s, s < t → cuL σ V s ∧ cuP σ V s ∧ σ 29 s = nI (rdg V s)) ?_ qFU 4 σ3 0 (by rw [qFU_eq]; omega) ⟨0, rfl, by omega, rfl, frU.rf _, rfl, fun _ _ _ => rfl, fun s hs => by omega⟩
  rintro m kk ih σ x1 ⟨t, hm, ht, rfl, hf, hf16, hf36, hp⟩
  have hd : rdc σ V := (((h.fr hu0).fr u1).fr w1).fr hf
  have hS : cuS σ V := fun h s a b => by rw [hf36 (36 + h) (by omega) (by omega)]; exact hS3 h s a b
  have hT : cuT σ V := fun m hm => by rw [hf36 40 (by omega) (by omega)]; exact w3 m hm
  unfold bX0_settled_29
  by_cases e : t = 4
  · subst e
    refine qok_t (by decide) (qok_some ⟨((hu0.tr u1).tr w1).tr hf, ?_, ?_, hS, hT, hp⟩)
    · rw [hf16, w2 16 (by omega), u2 16 (by omega), e14]
    · rw [hf16, w2 16 (by omega), u2 16 (by omega), e12]
  · have htl : t < 4 := by omega
    refine qok_f (show ¬ nI 4 ≤ nI t from nI_ge htl (by decide)) (qok_bind (qok_mono (layLeaves_ok hV hd htl) ?_))
    rintro σ4 ⟨⟨a1, a2⟩, a3⟩
    have hd4 : rdc σ4 V := hd.fr (fun a ha => a1 a (by omega) (by omega) (by omega))
    have hS4 : cuS σ4 V := fun h s p q => by rw [a1 (36 + h) (by omega) (by omega) (by omega)]; exact hS h s p q
    refine qok_bind (qok_mono (pairLeaves_ok hV hd4 hS4 htl a3) ?_)
    rintro σ5 ⟨⟨b1, b2⟩, b3⟩
    have hal := am_lt V t
    refine qok_t (qin_of htl (by decide)) (qok_t (by rw [nI_clamp (by omega), b3.2]; exact qin_of (by omega) (by decide)) (qok_t (qin_of htl (by decide)) ?_))
    rw [nI_clamp (by omega), b3.2, nI_clamp (by omega), b1 40 (by omega) (by omega), a1 40 (by omega) (by omega) (by omega), hT _ hal, ← rdg_lm]
    have o45 : ∀ a, ¬ a = 18 + t → ¬ a = 23 + t → ¬ a = 27 → ¬ a = 31 + t → ¬ a = 28 → σ5 a = σ a := fun a c1 c2 c3 c4 c5 => by rw [b1 a c4 c5, a1 a c1 c2 c3]
    have L5 : cuL σ5 V t := by unfold cuL; rw [b1 (18 + t) (by omega) (by omega), b1 (23 + t) (by omega) (by omega), b1 27 (by omega) (by omega)]; exact a3
    refine ih (4 - (t + 1)) _ _ (by omega) ⟨t + 1, rfl, by omega, nI_1 t, hf.tr (fun a ha => by rw [qup_ne _ _ _ (by omega), o45 a (by omega) (by omega) (by omega) (by omega) (by omega)]), by rw [qup_ne _ _ _ (by decide), o45 16 (by omega) (by omega) (by omega) (by omega) (by omega), hf16], fun a c1 c2 => by rw [qup_ne _ _ _ (by omega), o45 a (by omega) (by omega) (by omega) (by omega) (by omega), hf36 a c1 c2], fun s hs => ?_⟩
    by_cases e2 : s = t
    · subst e2
      refine ⟨?_, ?_, by rw [qup_eq, upd_at, if_pos rfl]⟩
      · unfold cuL; rw [qup_ne (a := 18 + s) _ _ _ (by omega), qup_ne (a := 23 + s) _ _ _ (by omega), qup_ne (a := 27) _ _ _ (by omega)]; exact L5
      · unfold cuP; rw [qup_ne (a := 31 + s) _ _ _ (by omega), qup_ne (a := 28) _ _ _ (by omega)]; exact b3
    · obtain ⟨L, P, F⟩ := hp s (by omega)
      refine ⟨?_, ?_, ?_⟩
      · unfold cuL
        rw [qup_ne (a := 18 + s) _ _ _ (by omega), qup_ne (a := 23 + s) _ _ _ (by omega), qup_ne (a := 27) _ _ _ (by omega), o45 (18 + s) (by omega) (by omega) (by omega) (by omega) (by omega), o45 (23 + s) (by omega) (by omega) (by omega) (by omega) (by omega), b1 27 (by omega) (by omega), a2 s e2]
        exact L
      · unfold cuP
        rw [qup_ne (a := 31 + s) _ _ _ (by omega), qup_ne (a := 28) _ _ _ (by omega), o45 (31 + s) (by omega) (by omega) (by omega) (by omega) (by omega), b2 s e2, a1 28 (by omega) (by omega) (by omega)]
        exact P
      · rw [qup_eq, upd_at, if_neg e2, o45 29 (by omega) (by omega) (by omega) (by omega) (by omega)]
        exact F

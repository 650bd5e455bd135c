/-! ===== PURE: pour, write ===== -/
def poD (V : qV) (m i : Nat) : Int32 := nI (pc (rdg V i &&& m)) - nI (pc (rdg V i ^^^ (rdg V i &&& m)))
def po (V : qV) (m : Nat) : Nat → Int32 × Int32
  | 0 => (0, -9)
  | i + 1 => if poD V m i ≤ (po V m i).2 then po V m i else (nI i, poD V m i)
theorem po_s (V : qV) (m i : Nat) : po V m (i + 1) = if poD V m i ≤ (po V m i).2 then po V m i else (nI i, poD V m i) := rfl
def poV (V : qV) (m : Nat) : Int32 := (po V m 4).1
theorem poV_is {V : qV} {m i : Nat} (e : i = 4) : (po V m i).1 = poV V m := by subst e; rfl
theorem rdg_b {V : qV} (hV : v_ok V) (t m : Nat) : rdg V t &&& m < 4096 ∧ rdg V t ^^^ (rdg V t &&& m) < 4096 := by
  have h := rdg_lt hV t
  have h1 : rdg V t &&& m < 2 ^ 8 := Nat.lt_of_le_of_lt Nat.and_le_left h
  have h2 : rdg V t ^^^ (rdg V t &&& m) < 2 ^ 8 := Nat.xor_lt_two_pow h h1
  exact ⟨by omega, by omega⟩
theorem bnd_s {A R : Type} {X : Option A} {a : A} {g : A → Option R} (h : X = some a) : X.bind g = g a := by subst h; rfl
theorem pourC {σ : qM} {V : qV} (hV : v_ok V) (hu : cupV σ V) (m : Nat) : ∀ n i, i ≤ 4 → 4 - i < n → qlp (fun _ _ _ _ _ => none) bX4_pour_27 n σ (nI m) (po V m i).1 (po V m i).2 (nI i) = some (poV V m, σ) := by
  intro n
  induction n with
  | zero => intro i _ h; omega
  | succ n ih =>
    intro i hi hn
    rw [qlp_succ]
    generalize qlp (fun _ _ _ _ _ => none) bX4_pour_27 n = kk at ih ⊢
    unfold bX4_pour_27 fX4_pour_42 fX4_pour_61 fX4_pour_75
    by_cases e : i = 4
    · rw [if_pos (show (4 : Int32) ≤ nI i from by rw [e]; decide), poV_is e]
    · have h1 := ih (i + 1) (by omega) (by omega)
      have hb := rdg_b hV i m
      rw [if_neg (show ¬ (4 : Int32) ≤ nI i from nI_ge (b := 4) (by omega) (by decide)), if_pos (qin_of (by omega) (by decide)), nI_clamp (by omega), (hu.2.1.2.2 i (by omega)).2.2, fa_and, andNot, bnd_s (bitCount_ok σ hb.1)]
      dsimp only
      rw [bnd_s (bitCount_ok σ hb.2)]
      dsimp only
      rw [nI_1, show nI (pc (rdg V i &&& m)) - nI (pc (rdg V i ^^^ (rdg V i &&& m))) = poD V m i from rfl]
      rw [po_s] at h1
      by_cases c : poD V m i ≤ (po V m i).2
      · rw [if_pos c] at h1
        rw [if_pos c]
        exact h1
      · rw [if_neg c] at h1
        rw [if_neg c]
        exact h1
theorem pourOf_ok {β : qB} {σ0 : qM} (h0 : MS β σ0) (m : Nat) : qok (fX5_pourOf σ0 (nI m)) (fun q => q.1 = poV (vw β) m ∧ frP (vw β) σ0 q.2) := by
  have hV := vw_ok h0.1
  unfold fX5_pourOf
  refine qok_lp5 (z := fun _ _ _ _ _ => none) (b := bX5_pourOf_8) (fun mm σ x1 x2 x3 x4 => x1 = nI m ∧ frP (vw β) σ0 σ ∧ ∃ i, i ≤ 4 ∧ mm = 4 - i ∧ x2 = (po (vw β) m i).1 ∧ x3 = (po (vw β) m i).2 ∧ x4 = nI i) ?_ qFU 4 σ0 _ 0 (-9) 0 (by rw [qFU_eq]; omega) ⟨rfl, frP.rf _ _, 0, by omega, rfl, rfl, rfl, rfl⟩
  rintro mm kk ih σ x1 x2 x3 x4 ⟨rfl, f1, i, hi, rfl, rfl, rfl, rfl⟩
  unfold bX5_pourOf_8 fX5_pourOf_41 fX5_pourOf_53 fX5_pourOf_66
  by_cases e : i = 4
  · exact qok_t (show (4 : Int32) ≤ nI i from by rw [e]; decide) (qok_some ⟨poV_is e, f1⟩)
  · refine qok_f (show ¬ (4 : Int32) ≤ nI i from nI_ge (b := 4) (by omega) (by decide)) (qok_bind (qok_mono (readNow_ok (h0.fr f1) (show i < 4 by omega)) ?_))
    rintro ⟨r, σ1⟩ ⟨r1, r2⟩
    dsimp only at r1 r2 ⊢
    subst r1
    have hb := rdg_b hV i m
    rw [fa_and, andNot, ones_ok σ1 hb.1]
    simp only [Option.bind_some]
    rw [ones_ok σ1 hb.2]
    simp only [Option.bind_some]
    rw [nI_1]
    have hs := po_s (vw β) m i
    by_cases c : poD (vw β) m i ≤ (po (vw β) m i).2
    · rw [if_pos c] at hs
      refine qok_t (show nI (pc (rdg (vw β) i &&& m)) - nI (pc (rdg (vw β) i ^^^ (rdg (vw β) i &&& m))) ≤ (po (vw β) m i).2 from c) (qok_t (show nI (pc (rdg (vw β) i &&& m)) - nI (pc (rdg (vw β) i ^^^ (rdg (vw β) i &&& m))) ≤ (po (vw β) m i).2 from c) ?_)
      exact ih (4 - (i + 1)) _ _ _ _ _ (by omega) ⟨rfl, f1.tr r2, i + 1, by omega, rfl, by rw [hs], by rw [hs], rfl⟩
    · rw [if_neg c] at hs
      refine qok_f (show ¬ nI (pc (rdg (vw β) i &&& m)) - nI (pc (rdg (vw β) i ^^^ (rdg (vw β) i &&& m))) ≤ (po (vw β) m i).2 from c) (qok_f (show ¬ nI (pc (rdg (vw β) i &&& m)) - nI (pc (rdg (vw β) i ^^^ (rdg (vw β) i &&& m))) ≤ (po (vw β) m i).2 from c) ?_)
      exact ih (4 - (i + 1)) _ _ _ _ _ (by omega) ⟨rfl, f1.tr r2, i + 1, by omega, rfl, by rw [hs], by rw [hs]; rfl, rfl⟩
theorem pourD {β : qB} {σc σm : qM} (h : RD β σc σm) (m : Nat) : SimD β ((fX0_settled σc).bind fun q3 => fX4_pour_27 q3 (nI m) 0 (-9) 0) (fX5_pourOf σm (nI m)) :=
  askD h (poV (vw β) m) (setp h _ (fun σ _ _ hu => pourC (vw_ok h.1) hu m qFU 0 (by omega) (by rw [qFU_eq]; omega))) (pourOf_ok h.ms m)
theorem pourX {β : qB} {σc σm : qM} (h : RD β σc σm) {m : Nat} (hm : m < 256) : SimD β (fX4_pour σc (nI m)) (fX5_pourOf σm (nI m)) := by
  unfold fX4_pour
  rw [bnd_1 ((t_lawsC (nI m) σc).1 (bl_nI hm (by decide))) (by decide)]
  exact pourD h m
theorem sim_pour {σc σm : qM} (h : RR σc σm) (x1 : Int32) : Sim (fX4_pour σc x1) (fX5_pour σm x1) := by
  unfold fX5_pour
  refine sim_q h (fun β σ1 hR => ?_)
  unfold fX4_pour
  refine simD_test (t1 := fun σ => fX4_areLaws σ x1) (t2 := fun σ => fX5_areLaws σ x1) (t_lawsC x1) (t_laws x1) hR (fun h1 => ?_)
  obtain ⟨m, hm, rfl⟩ := bl_of h1 (by decide)
  dsimp only
  rw [bind_id]
  exact pourD hR m
/-! write -/
theorem AC.lo {σ σ' : qM} {β : qB} (h : AC σ β) (g : ∀ a, a < 16 → σ' a = σ a) : AC σ' β := by
  unfold AC txC prC
  rw [g 0 (by omega), g 1 (by omega), g (1 + 1) (by omega), g (1 + 2) (by omega), g 4 (by omega), g (4 + 1) (by omega), g (4 + 2) (by omega), g 7 (by omega), g (7 + 1) (by omega), g (7 + 2) (by omega), g 10 (by omega), g (10 + 1) (by omega), g (10 + 2) (by omega), g 13 (by omega), g (13 + 1) (by omega), g (13 + 2) (by omega)]
  exact h
theorem RD.put {β : qB} {σc σm : qM} (h : RD β σc σm) {s i : Nat} (hs : s < 4) (hi : i < 60) (v : Int32) : RD β (qup σc (44 + 2 * s + 1) i v) (qup σm 3 (60 * s + i) v) := by
  refine ⟨h.1, h.2.1.lo (fun a ha => qup_ne _ _ _ (by omega)), cupQ.fr h.2.2.1 (fun a a1 a2 => qup_ne _ _ _ (by omega)), ?_, (rr_put h.rr hs hi v).sh, h.2.2.2.2.2.1, ?_, ?_, ?_⟩
  · have hM := h.2.2.2.1
    unfold AM
    rw [qup_ne (a := 0) _ _ _ (by decide), qup_ne (a := 5) _ _ _ (by decide), qup_ne (a := 6) _ _ _ (by decide), qup_ne (a := 9) _ _ _ (by decide), qup_ne (a := 10) _ _ _ (by decide), qup_ne (a := 11) _ _ _ (by decide), qup_ne (a := 15) _ _ _ (by decide)]
    exact hM
  · have hM := h.2.2.2.2.2.2.1
    unfold rdm rqm
    rw [qup_ne (a := 0) _ _ _ (by decide), qup_ne (a := 7) _ _ _ (by decide), qup_ne (a := 8) _ _ _ (by decide), qup_ne (a := 9) _ _ _ (by decide)]
    exact hM
  · rw [qup_ne _ _ _ (by decide)]; exact h.2.2.2.2.2.2.2.1
  · rw [qup_ne _ _ _ (by decide)]; exact h.2.2.2.2.2.2.2.2
theorem writeL {β : qB} {s f w : Nat} (hs : s < 4) (hf : f < 3) (hw : w ≤ 28) : ∀ (d i n1 n2 : Nat) (σc σm : qM), d = w - i → i ≤ w → d < n1 → d < n2 → RD β σc σm → cupV σc (vw β) → σm 1 s = nI f → SimD β (qlp (fun _ _ _ _ => none) bX4_write_53 n1 σc (44 + 2 * s) (nI w) (nI i)) (qlp (fun _ _ _ _ => none) bX5_write_54 n2 σm (nI s) (nI w) (nI i)) := by
  intro d
  induction d with
  | zero =>
    intro i n1 n2 σc σm hd hi h1 h2 hR hu e1
    obtain ⟨m1, rfl⟩ : ∃ m, n1 = m + 1 := ⟨n1 - 1, by omega⟩
    obtain ⟨m2, rfl⟩ : ∃ m, n2 = m + 1 := ⟨n2 - 1, by omega⟩
    have : i = w := by omega
    subst this
    rw [qlp_succ, qlp_succ]
    unfold bX4_write_53 bX5_write_54
    rw [if_pos (nI_le (Nat.le_refl _) (by omega)), if_pos (nI_le (Nat.le_refl _) (by omega))]
    exact ⟨_, _, _, rfl, rfl, hR⟩
  | succ d ih =>
    intro i n1 n2 σc σm hd hi h1 h2 hR hu e1
    obtain ⟨m1, rfl⟩ : ∃ m, n1 = m + 1 := ⟨n1 - 1, by omega⟩
    obtain ⟨m2, rfl⟩ : ∃ m, n2 = m + 1 := ⟨n2 - 1, by omega⟩
    rw [qlp_succ, qlp_succ]
    have hk := ih (i + 1) m1 m2
    generalize qlp (fun _ _ _ _ => none) bX4_write_53 m1 = k1 at hk ⊢
    generalize qlp (fun _ _ _ _ => none) bX5_write_54 m2 = k2 at hk ⊢
    unfold bX4_write_53 bX5_write_54
    have hdy := dy_lt β i
    obtain ⟨⟨r, σ1⟩, q0, q1, q2⟩ := dayOf_ok hR.ms (show i < 28 by omega)
    dsimp only at q1 q2
    subst q1
    rw [if_neg (nI_ge (by omega) (by omega)), if_neg (nI_ge (by omega) (by omega)), if_pos (qin_of hs (by decide)), nI_clamp (show s < 2 ^ 31 by omega), turnsOn_ok hR.1 hR.2.1 (by omega), q0]
    simp only [Option.bind_some]
    have e44 : σc (44 + 2 * s) 1 = nI f := ((hR.2.2.2.2.1.2 s hs).1).trans e1
    rw [if_pos (qin_of hdy (by decide)), nI_clamp (show dy β i < 2 ^ 31 by omega), (hu.2.1.2.2 _ hdy).2.2, put_ok hf e44 (by omega), e1, cut_ok _ hf]
    simp only [Option.bind_some]
    rw [show (60 : Int32) * nI s + nI i = nI (60 * s + i) from by rw [show (60 : Int32) * nI s = nI (60 * s) from pk_mul 60 s, nI_add], if_pos (qin_of (by omega) (by decide)), nI_clamp (show 60 * s + i < 2 ^ 31 by omega), nI_1]
    have hR1 : RD β σc σ1 := hR.mo (frU.rf _) (Or.inr hu) q2
    refine hk _ _ (by omega) (by omega) (by omega) (by omega) (hR1.put hs (by omega) _) (hu.fr (fun a a1 a2 => qup_ne _ _ _ (by omega))) ?_
    rw [qup_ne _ _ _ (by decide), q2.1 1 (by decide) (by decide) (by decide) (by decide) (by decide), e1]
theorem sim_write {σc σm : qM} (h : RR σc σm) (x1 : Int32) : Sim (fX4_write σc x1) (fX5_write σm x1) := by
  unfold fX4_write fX5_write
  refine sim_test (t1 := fun σ => fX4_below σ x1 4) (t2 := fun σ => fX5_isSheet σ x1) (t_below x1 4 (by decide)) (t_sheet x1) h (fun h1 => ?_)
  obtain ⟨s, hs, rfl⟩ := bl_of h1 (by decide)
  dsimp only
  simp only [nI_clamp (show s < 2 ^ 31 by omega), if_pos (qin_of hs (by decide : 4 < 2 ^ 31))]
  refine sim_lost h hs (fun f z hf hz e1 e2 e3 e4 e5 => ?_) (sim_finds h 1)
  dsimp only
  refine sim_q h (fun β σ1 hR => ?_)
  obtain ⟨σ2, u0, u1, u2⟩ := settled_ok (vw_ok hR.1) (hR.2.1.rd hR.1) hR.2.2.1
  rw [u0]
  simp only [Option.bind_some]
  have hR2 : RD β σ2 σ1 := hR.mo u1 (Or.inr u2) (frP.rf _ _)
  unfold fX5_write_51 fJ9_min_7cf53
  have hc := hR2.2.2.2.2.1.2 s hs
  have hc0 : σ2 (44 + 2 * s) = σc (44 + 2 * s) := u1 _ (by omega)
  rw [hc0, e3]
  rw [hc0, e2] at hc
  have m1 : σ1 1 s = nI f := hc.1.symm
  have m2 : σ1 2 s = nI z := by
    rcases hc.2 with q | ⟨g, hg, _, w, hw, w1, w2, _⟩
    · rw [m1] at q; exact absurd q (nI_m1 (by omega))
    · rw [e3] at w1; rw [w2, ← w1]
  rw [m2]
  by_cases c : 28 < z
  · rw [if_pos (show (28 : Int32) < nI z from nI_lt (a := 28) c (by omega)), if_pos (show (28 : Int32) ≤ nI z from nI_le (a := 28) (by omega) (by omega))]
    exact writeL (w := 28) hs hf (by omega) 28 0 qFU qFU σ2 σ1 rfl (by omega) (by rw [qFU_eq]; omega) (by rw [qFU_eq]; omega) hR2 u2 m1
  · rw [if_neg (show ¬ (28 : Int32) < nI z from nI_nlt (a := 28) (by omega) (by decide))]
    by_cases c2 : z = 28
    · subst c2
      rw [if_pos (show (28 : Int32) ≤ nI 28 by decide)]
      exact writeL (w := 28) hs hf (by omega) 28 0 qFU qFU σ2 σ1 rfl (by omega) (by rw [qFU_eq]; omega) (by rw [qFU_eq]; omega) hR2 u2 m1
    · rw [if_neg (show ¬ (28 : Int32) ≤ nI z from nI_ge (b := 28) (by omega) (by decide))]
      exact writeL (w := z) hs hf (by omega) z 0 qFU qFU σ2 σ1 rfl (by omega) (by rw [qFU_eq]; omega) (by rw [qFU_eq]; omega) hR2 u2 m1

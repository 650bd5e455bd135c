/-! ===== PURE: sheets ===== -/
theorem RR.sh {σc σm : qM} (h : RR σc σm) : SH σc σm := by obtain ⟨β, _, _, _, _, hS⟩ := h; exact hS
theorem newsh {σc σm σc' σm' : qM} (h : RR σc σm) (f0 : ∀ k, ¬ k = 9 → σc' 0 k = σc 0 k) (f1 : ∀ a, ¬ a = 0 → a < 44 → σc' a = σc a) (g0 : ∀ k, ¬ k = 4 → σm' 0 k = σm 0 k) (g1 : ∀ a, ¬ a = 0 → ¬ a = 1 → ¬ a = 2 → ¬ a = 3 → ¬ a = 4 → σm' a = σm a) (hs : SH σc' σm') : RR σc' σm' := by
  obtain ⟨β, hb, hC, hU, hM, hS⟩ := h
  refine ⟨β, hb, ?_, cupQ.fr hU (fun a a1 a2 => f1 a (by omega) (by omega)), ?_, hs⟩
  · unfold AC txC prC
    rw [f0 7 (by decide), f0 8 (by decide), f1 1 (by decide) (by decide), f1 (1 + 1) (by decide) (by decide), f1 (1 + 2) (by decide) (by decide), f1 4 (by decide) (by decide), f1 (4 + 1) (by decide) (by decide), f1 (4 + 2) (by decide) (by decide), f1 7 (by decide) (by decide), f1 (7 + 1) (by decide) (by decide), f1 (7 + 2) (by decide) (by decide), f1 10 (by decide) (by decide), f1 (10 + 1) (by decide) (by decide), f1 (10 + 2) (by decide) (by decide), f1 13 (by decide) (by decide), f1 (13 + 1) (by decide) (by decide), f1 (13 + 2) (by decide) (by decide)]
    exact hC
  · unfold AM
    rw [g1 5 (by decide) (by decide) (by decide) (by decide) (by decide), g1 6 (by decide) (by decide) (by decide) (by decide) (by decide), g1 9 (by decide) (by decide) (by decide) (by decide) (by decide), g1 10 (by decide) (by decide) (by decide) (by decide) (by decide), g1 11 (by decide) (by decide) (by decide) (by decide) (by decide), g1 15 (by decide) (by decide) (by decide) (by decide) (by decide), g0 12 (by decide), g0 14 (by decide), g0 22 (by decide), g0 23 (by decide), g0 24 (by decide)]
    exact hM
theorem rr_find {σc σm : qM} (h : RR σc σm) (x : Int32) : RR (qup σc 0 9 x) (qup σm 0 4 x) := by
  refine newsh h (fun k hk => by rw [qup_eq, upd_at, if_neg hk]) (fun a a0 _ => qup_ne _ _ _ a0) (fun k hk => by rw [qup_eq, upd_at, if_neg hk]) (fun a a0 _ _ _ _ => qup_ne _ _ _ a0) ⟨by rw [qup_eq, upd_at, if_pos rfl, qup_eq, upd_at, if_pos rfl], fun s hs => ?_⟩
  rw [qup_ne _ _ _ (by omega), qup_ne _ _ _ (by omega), qup_ne _ _ _ (by omega), qup_ne _ _ _ (by omega), qup_ne _ _ _ (by omega)]
  exact h.sh.2 s hs
theorem sim_finds {σc σm : qM} (h : RR σc σm) (x : Int32) : Sim ((fX4_find σc x).bind fun q => some (q.1, q.2)) ((fX5_finds σm x).bind fun q => some (q.1, q.2)) := ⟨_, _, _, rfl, rfl, rr_find h x⟩
theorem isLost_t {σ : qM} {o : Nat} (h : σ o 1 = -1) : fX2_isLost σ o = some (1, σ) := by unfold fX2_isLost; rw [if_pos h]
theorem isLost_f {σ : qM} {o f : Nat} (h : σ o 1 = nI f) (hf : f < 3) : fX2_isLost σ o = some (0, σ) := by unfold fX2_isLost; rw [h, if_neg (nI_m1 (by omega))]
theorem sim_lost {α : Type} {σc σm : qM} (h : RR σc σm) {s : Nat} (hs : s < 4) {A LC : Int32 × qM → Option (α × qM)} {B LM : Option (α × qM)} (k : ∀ f z, f < 3 → z ≤ 60 → σm 1 s = nI f → σc (44 + 2 * s) 1 = nI f → σc (44 + 2 * s) 2 = nI z → σm 2 s = nI z → (∀ i, i < z → σc (45 + 2 * s) i = σm 3 (60 * s + i)) → Sim (A (0, σc)) B) (kl : Sim (LC (1, σc)) LM) : Sim ((fX2_isLost σc (44 + 2 * s)).bind fun q => if q.1 = 0 then A q else LC q) (if 0 ≤ σm 1 s then B else LM) := by
  obtain ⟨e1, e2⟩ := h.sh.2 s hs
  rcases e2 with e2 | ⟨f, hf, e2, z, hz, e3, e4, e5⟩
  · rw [isLost_t (e1.trans e2), e2, if_neg (show ¬ (0 : Int32) ≤ -1 by decide)]
    exact kl
  · rw [isLost_f (e1.trans e2) hf, e2, if_pos (nI_pos' (by omega))]
    exact k f z hf hz e2 (e1.trans e2) e3 e4 e5
/-- one sheet becomes another -/
theorem newsh1 {σc σm σc' σm' : qM} (h : RR σc σm) {s : Nat} (hs : s < 4) (f1 : ∀ a, ¬ a = 44 + 2 * s → ¬ a = 45 + 2 * s → σc' a = σc a) (g0 : ∀ a, ¬ a = 1 → ¬ a = 2 → ¬ a = 3 → ¬ a = 4 → σm' a = σm a) (g1 : ∀ t, ¬ t = s → σm' 1 t = σm 1 t ∧ σm' 2 t = σm 2 t ∧ ∀ i, i < 60 → σm' 3 (60 * t + i) = σm 3 (60 * t + i)) (e1 : σc' (44 + 2 * s) 1 = σm' 1 s) (e2 : σm' 1 s = -1 ∨ ∃ f, f < 3 ∧ σm' 1 s = nI f ∧ ∃ z, z ≤ 60 ∧ σc' (44 + 2 * s) 2 = nI z ∧ σm' 2 s = nI z ∧ ∀ i, i < z → σc' (45 + 2 * s) i = σm' 3 (60 * s + i)) : RR σc' σm' := by
  refine newsh h (fun k hk => by rw [f1 0 (by omega) (by omega)]) (fun a a0 a1 => f1 a (by omega) (by omega)) (fun k hk => by rw [g0 0 (by omega) (by omega) (by omega) (by omega)]) (fun a a0 a1 a2 a3 a4 => g0 a a1 a2 a3 a4) ⟨by rw [f1 0 (by omega) (by omega), g0 0 (by omega) (by omega) (by omega) (by omega)]; exact h.sh.1, fun t ht => ?_⟩
  by_cases q : t = s
  · subst q; exact ⟨e1, e2⟩
  · obtain ⟨u1, u2⟩ := h.sh.2 t ht
    obtain ⟨g1, g2, g3⟩ := g1 t q
    rw [f1 (44 + 2 * t) (by omega) (by omega), f1 (45 + 2 * t) (by omega) (by omega), g1, g2]
    refine ⟨u1, ?_⟩
    rcases u2 with u2 | ⟨f, hf, u2, z, hz, u3, u4, u5⟩
    · exact Or.inl u2
    · exact Or.inr ⟨f, hf, u2, z, hz, u3, u4, fun i hi => by rw [g3 i (by omega)]; exact u5 i hi⟩
theorem sim_lose {σc σm : qM} (h : RR σc σm) (x1 : Int32) : Sim (fX4_lose σc x1) (fX5_lose σm x1) := by
  unfold fX4_lose fX5_lose
  refine sim_test (t1 := fun σ => fX4_below σ x1 4) (t2 := fun σ => fX5_isSheet σ x1) (t_below x1 4 (by decide)) (t_sheet x1) h (fun h1 => ?_)
  obtain ⟨s, hs, rfl⟩ := bl_of h1 (by decide)
  dsimp only
  simp only [nI_clamp (show s < 2 ^ 31 by omega), if_pos (qin_of hs (by decide : 4 < 2 ^ 31))]
  refine sim_lost h hs (fun f z hf hz e1 e2 e3 e4 e5 => ?_) (sim_finds h 1)
  unfold fX2_end fX2_end_10 fX5_lose_32
  simp only [nI_clamp (show s < 2 ^ 31 by omega), if_pos (qin_of hs (by decide : 4 < 2 ^ 31)), bind_id]
  rw [e3, qup_ne _ _ _ (by omega : ¬ 2 = 1), e4]
  refine ⟨_, _, _, rfl, rfl, newsh1 h hs (fun a a1 a2 => by rw [qup_ne _ _ _ a1, qup_ne _ _ _ a1]) (fun a a1 a2 a3 a4 => qup_ne _ _ _ a1) (fun t ht => ⟨by rw [qup_eq, upd_at, if_neg ht], by rw [qup_ne _ _ _ (by omega)], fun i hi => by rw [qup_ne _ _ _ (by omega)]⟩) ?_ (Or.inl (by rw [qup_eq, upd_at, if_pos rfl]))⟩
  rw [qup_eq, upd_at, if_neg (by decide), qup_eq, upd_at, if_pos rfl, qup_eq, upd_at, if_pos rfl]
/-- the loops that lay zeroes -/
theorem begin_ok (σ : qM) (o : Nat) : ∀ i, i ≤ 60 → qok (fX2_begin_12 σ o (nI i)) (fun σ' => (∀ a, ¬ a = o + 1 → σ' a = σ a) ∧ ∀ j, σ' (o + 1) j = if i ≤ j ∧ j < 60 then 0 else σ (o + 1) j) := by
  intro i hi
  have := qok_lp3 (z := fun _ _ _ => none) (b := bX2_begin_12) (P := fun σ' => (∀ a, ¬ a = o + 1 → σ' a = σ a) ∧ ∀ j, σ' (o + 1) j = if i ≤ j ∧ j < 60 then 0 else σ (o + 1) j) (fun m σ1 o1 x => o1 = o ∧ ∃ k, i ≤ k ∧ k ≤ 60 ∧ m = 60 - k ∧ x = nI k ∧ (∀ a, ¬ a = o + 1 → σ1 a = σ a) ∧ ∀ j, σ1 (o + 1) j = if i ≤ j ∧ j < k then 0 else σ (o + 1) j) ?_ qFU (60 - i) σ o (nI i) (by rw [qFU_eq]; omega) ⟨rfl, i, by omega, by omega, rfl, rfl, fun _ _ => rfl, fun j => by rw [if_neg (by omega)]⟩
  · exact this
  · rintro m k ih σ1 o1 x ⟨rfl, n, n1, n2, rfl, rfl, f1, f2⟩
    unfold bX2_begin_12
    by_cases e : n = 60
    · subst e
      exact qok_t (show (60 : Int32) ≤ nI 60 by decide) (qok_some ⟨f1, f2⟩)
    · refine qok_f (show ¬ (60 : Int32) ≤ nI n from nI_ge (b := 60) (by omega) (by decide)) (qok_t (qin_of (by omega) (by decide)) ?_)
      rw [nI_clamp (by omega), nI_1]
      refine ih (60 - (n + 1)) _ _ _ (by omega) ⟨rfl, n + 1, by omega, by omega, rfl, rfl, fun a ha => by rw [qup_ne _ _ _ ha, f1 a ha], fun j => ?_⟩
      rw [qup_eq, upd_at, f2]
      by_cases e2 : j = n
      · rw [if_pos e2, if_pos (by omega)]
      · rw [if_neg e2]
        by_cases e3 : i ≤ j ∧ j < n
        · rw [if_pos e3, if_pos (by omega)]
        · rw [if_neg e3, if_neg (by omega)]
theorem zero_ok (σ : qM) {s z : Nat} (hs : s < 4) (hz : z ≤ 60) : qok (fX5_sheet_55 σ (nI s) (nI z) 0) (fun q => q.1 = nI z ∧ (∀ a, ¬ a = 3 → q.2 a = σ a) ∧ ∀ j, q.2 3 j = if 60 * s ≤ j ∧ j < 60 * s + z then 0 else σ 3 j) := by
  refine qok_lp4 (z := fun _ _ _ _ => none) (b := bX5_sheet_55) (fun m σ1 x1 x3 x => x1 = nI s ∧ x3 = nI z ∧ ∃ k, k ≤ z ∧ m = z - k ∧ x = nI k ∧ (∀ a, ¬ a = 3 → σ1 a = σ a) ∧ ∀ j, σ1 3 j = if 60 * s ≤ j ∧ j < 60 * s + k then 0 else σ 3 j) ?_ qFU (z - 0) σ (nI s) (nI z) 0 (by rw [qFU_eq]; omega) ⟨rfl, rfl, 0, by omega, by omega, rfl, fun _ _ => rfl, fun j => by rw [if_neg (by omega)]⟩
  rintro m k ih σ1 x1 x3 x ⟨rfl, rfl, n, n1, rfl, rfl, f1, f2⟩
  unfold bX5_sheet_55
  by_cases e : n = z
  · subst e
    exact qok_t (nI_le (Nat.le_refl _) (by omega)) (qok_some ⟨rfl, f1, f2⟩)
  · refine qok_f (nI_ge (by omega) (by omega)) ?_
    rw [show (60 : Int32) * nI s + nI n = nI (60 * s + n) from by rw [show (60 : Int32) * nI s = nI (60 * s) from pk_mul 60 s, nI_add]]
    refine qok_t (qin_of (by omega) (by decide)) ?_
    rw [nI_clamp (by omega), nI_1]
    refine ih (z - (n + 1)) _ _ _ _ (by omega) ⟨rfl, rfl, n + 1, by omega, rfl, rfl, fun a ha => by rw [qup_ne _ _ _ ha, f1 a ha], fun j => ?_⟩
    rw [qup_eq, upd_at, f2]
    by_cases e2 : j = 60 * s + n
    · rw [if_pos e2, if_pos (by omega)]
    · rw [if_neg e2]
      by_cases e3 : 60 * s ≤ j ∧ j < 60 * s + n
      · rw [if_pos e3, if_pos (by omega)]
      · rw [if_neg e3, if_neg (by omega)]
theorem sim_sheet {σc σm : qM} (h : RR σc σm) (x1 x2 x3 : Int32) : Sim (fX4_sheet σc x1 x2 x3) (fX5_sheet σm x1 x2 x3) := by
  unfold fX4_sheet fX5_sheet
  refine sim_test (t1 := fun σ => fX4_below σ x1 4) (t2 := fun σ => fX5_isSheet σ x1) (t_below x1 4 (by decide)) (t_sheet x1) h (fun h1 => ?_)
  refine sim_test (t1 := fun σ => fX4_below σ x2 3) (t2 := fun σ => fX5_in σ x2.toInt64 0 2) (t_below x2 3 (by decide)) (t_in x2 3 (by decide) rfl) h (fun h2 => ?_)
  obtain ⟨s, hs, rfl⟩ := bl_of h1 (by decide)
  obtain ⟨f, hf, rfl⟩ := bl_of h2 (by decide)
  dsimp only
  by_cases c1 : x3 ≤ 60
  · rw [if_pos c1, if_pos c1]
    by_cases c2 : 0 ≤ x3
    · rw [if_pos c2, if_pos c2]
      obtain ⟨z, hz, rfl⟩ := nI_of2 (n := 60) (M := 60) rfl (fun q => by rw [fa_le] at c2; rw [fa_lt] at q; omega) c1
      unfold fX5_sheet_45
      rw [if_pos (qin_of hs (by decide)), if_pos (qin_of hs (by decide)), if_pos (qin_of hs (by decide)), nI_clamp (by omega)]
      obtain ⟨σ1, b0, b1, b2⟩ := begin_ok (qup (qup σc (44 + 2 * s) 1 (nI f)) (44 + 2 * s) 2 (nI z)) (44 + 2 * s) 0 (by omega)
      obtain ⟨⟨r, σ2⟩, d0, d1, d2, d3⟩ := zero_ok (qup (qup σm 1 s (nI f)) 2 s (nI z)) hs hz
      have b0' : fX2_begin σc (44 + 2 * s) (nI f) (nI z) = some σ1 := b0
      rw [b0', d0]
      dsimp only at d1 d2 d3
      subst d1
      refine ⟨_, _, _, rfl, rfl, newsh1 h hs (fun a a1 a2 => by rw [b1 a (by omega), qup_ne _ _ _ a1, qup_ne _ _ _ a1]) (fun a a1 a2 a3 a4 => by rw [d2 a a3, qup_ne _ _ _ a2, qup_ne _ _ _ a1]) (fun t ht => ⟨by rw [d2 1 (by decide), qup_ne _ _ _ (by decide), qup_eq, upd_at, if_neg ht], by rw [d2 2 (by decide), qup_eq, upd_at, if_neg ht, qup_ne _ _ _ (by decide)], fun i hi => by rw [d3, if_neg (by omega), qup_ne _ _ _ (by decide), qup_ne _ _ _ (by decide)]⟩) ?_ (Or.inr ⟨f, hf, ?_, z, hz, ?_, ?_, fun i hi => ?_⟩)⟩
      · rw [b1 _ (by omega), qup_eq, upd_at, if_neg (by decide), qup_eq, upd_at, if_pos rfl, d2 1 (by decide), qup_ne _ _ _ (by decide), qup_eq, upd_at, if_pos rfl]
      · rw [d2 1 (by decide), qup_ne _ _ _ (by decide), qup_eq, upd_at, if_pos rfl]
      · rw [b1 _ (by omega), qup_eq, upd_at, if_pos rfl]
      · rw [d2 2 (by decide), qup_eq, upd_at, if_pos rfl]
      · rw [d3, if_pos (by omega), show 45 + 2 * s = 44 + 2 * s + 1 by omega, b2, if_pos (by omega)]
    · rw [if_neg c2, if_neg c2]
      exact sim_finds h 5
  · rw [if_neg c1, if_neg c1]
    exact ⟨_, _, _, rfl, rfl, h⟩
/-- whether there is such an item -/
theorem item_ok {σc σm : qM} (h : RR σc σm) {s f : Nat} (hs : s < 4) (hf : f < 3) (x3 : Int32) : (fX4_itemFinding σc (44 + 2 * s) (nI f) x3 = some (0, σc) ∧ fX5_lacks σm (nI s) (nI f) x3 = some (0, σm) ∧ σm 1 s = nI f ∧ σc (44 + 2 * s) 1 = nI f ∧ ∃ z i, z ≤ 60 ∧ i < z ∧ x3 = nI i ∧ σc (44 + 2 * s) 2 = nI z ∧ σm 2 s = nI z ∧ ∀ i, i < z → σc (45 + 2 * s) i = σm 3 (60 * s + i)) ∨ ∃ r v : Int32, v = (-10 : Int32) - r ∧ ¬ r = 0 ∧ ¬ v = 0 ∧ fX4_itemFinding σc (44 + 2 * s) (nI f) x3 = some (r, σc) ∧ fX5_lacks σm (nI s) (nI f) x3 = some (v, qup σm 0 4 r) := by
  obtain ⟨e1, e2⟩ := h.sh.2 s hs
  unfold fX4_itemFinding fX5_lacks
  simp only [nI_clamp (show s < 2 ^ 31 by omega), if_pos (qin_of hs (by decide : 4 < 2 ^ 31))]
  rcases e2 with e2 | ⟨g, hg, e2, z, hz, e3, e4, e5⟩
  · rw [isLost_t (e1.trans e2), e2, if_neg (show ¬ (0 : Int32) ≤ -1 by decide)]
    exact Or.inr ⟨1, (-10 : Int32) - 1, rfl, by decide, by decide, rfl, rfl⟩
  · rw [isLost_f (e1.trans e2) hg, e2, if_pos (nI_pos' (by omega))]
    simp only [Option.bind_some, e1.trans e2, e3, e4]
    rw [if_pos trivial]
    by_cases c : g = f
    · subst c
      rw [if_pos rfl, if_pos rfl]
      have hb := below_ok σc x3 z (by omega)
      by_cases hz0 : z = 0
      · subst hz0
        have hn : ¬ bl x3 0 := fun q => by obtain ⟨j, hj, _⟩ := bl_of q (by decide); omega
        have e6 : fX5_in σm x3.toInt64 0 (nI 0 - 1).toInt64 = some (0, σm) := by
          rw [in_gen, if_neg]
          rw [fa_le64, fa_le64]
          have : (nI 0 - 1).toInt64.toInt = -1 := by decide
          have : (0 : Int64).toInt = 0 := rfl
          omega
        rw [hb.2 hn, e6]
        exact Or.inr ⟨2, (-10 : Int32) - 2, rfl, by decide, by decide, rfl, rfl⟩
      · have e7 : (nI z - 1).toInt64 = lN (z - 1) := by rw [show nI z - 1 = nI (z - 1) from pk_sub (b := 1) (by omega), nI_l (by omega)]
        have hi := in_ok σm x3 z (by omega) e7
        by_cases c : bl x3 z
        · obtain ⟨i, hi2, hi3⟩ := bl_of c (by omega)
          rw [hb.1 c, hi.1 c]
          exact Or.inl ⟨rfl, rfl, rfl, rfl, z, i, hz, hi2, hi3, rfl, rfl, e5⟩
        · rw [hb.2 c, hi.2 c]
          exact Or.inr ⟨2, (-10 : Int32) - 2, rfl, by decide, by decide, rfl, rfl⟩
    · rw [if_neg (fun q => c ((nI_eq (by omega) (by omega)).mp q)), if_neg (fun q => c ((nI_eq (by omega) (by omega)).mp q))]
      exact Or.inr ⟨3, (-10 : Int32) - 3, rfl, by decide, by decide, rfl, rfl⟩
theorem ite_no {α : Type} {v r : Int32} {σ1 σ2 : qM} {X Y : Option (Int32 × qM)} {A LC B LM : Int32 × qM → Option (α × qM)} (hx : X = some (r, σ1)) (hy : Y = some (v, σ2)) (r1 : ¬ r = 0) (r2 : ¬ v = 0) (kl : Sim (LC (r, σ1)) (LM (v, σ2))) : Sim (X.bind fun q => if q.1 = 0 then A q else LC q) (Y.bind fun q => if q.1 = 0 then B q else LM q) := by
  subst hx
  subst hy
  show Sim (if r = 0 then A (r, σ1) else LC (r, σ1)) (if v = 0 then B (v, σ2) else LM (v, σ2))
  rw [if_neg r1, if_neg r2]
  exact kl
theorem ite_yes {α : Type} {v r : Int32} {σ1 σ2 : qM} {X Y : Option (Int32 × qM)} {A LC B LM : Int32 × qM → Option (α × qM)} (hx : X = some (r, σ1)) (hy : Y = some (v, σ2)) (r1 : r = 0) (r2 : v = 0) (kl : Sim (A (r, σ1)) (B (v, σ2))) : Sim (X.bind fun q => if q.1 = 0 then A q else LC q) (Y.bind fun q => if q.1 = 0 then B q else LM q) := by
  subst hx
  subst hy
  show Sim (if r = 0 then A (r, σ1) else LC (r, σ1)) (if v = 0 then B (v, σ2) else LM (v, σ2))
  rw [if_pos r1, if_pos r2]
  exact kl
theorem sim_item {α : Type} {σc σm : qM} (h : RR σc σm) {s f : Nat} (hs : s < 4) (hf : f < 3) (x3 : Int32) {A LC B LM : Int32 × qM → Option (α × qM)} (k : ∀ z i, z ≤ 60 → i < z → x3 = nI i → σm 1 s = nI f → σc (44 + 2 * s) 1 = nI f → (∀ i, i < z → σc (45 + 2 * s) i = σm 3 (60 * s + i)) → Sim (A (0, σc)) (B (0, σm))) (kl : ∀ r v : Int32, v = (-10 : Int32) - r → Sim (LC (r, σc)) (LM (v, qup σm 0 4 r))) : Sim ((fX4_itemFinding σc (44 + 2 * s) (nI f) x3).bind fun q => if q.1 = 0 then A q else LC q) ((fX5_lacks σm (nI s) (nI f) x3).bind fun q => if q.1 = 0 then B q else LM q) := by
  rcases item_ok h hs hf x3 with ⟨a1, a2, a3, a4, z, i, hz, hi, e, a5, a6, a7⟩ | ⟨r, v, ev, r1, r2, r3, r4⟩
  · exact ite_yes a1 a2 rfl rfl (k z i hz hi e a3 a4 a7)
  · exact ite_no r3 r4 r1 r2 (kl r v ev)
theorem sim_get0 {σc σm : qM} (h : RR σc σm) {s i z : Nat} (hs : s < 4) (hz : z ≤ 60) (hi : i < z) (a7 : ∀ i, i < z → σc (45 + 2 * s) i = σm 3 (60 * s + i)) : Sim (if qin (nI i) 60 then some ((σc ((44 + 2 * s) + 1) (nI i).toNatClampNeg), σc) else none) (if qin (((60 : Int32) * nI s) + nI i) 240 then some ((σm 3 (((60 : Int32) * nI s) + nI i).toNatClampNeg), σm) else none) := by
  rw [if_pos (qin_of (by omega) (by decide)), show (60 : Int32) * nI s + nI i = nI (60 * s + i) from by rw [show (60 : Int32) * nI s = nI (60 * s) from pk_mul 60 s, nI_add], if_pos (qin_of (by omega) (by decide)), nI_clamp (by omega), nI_clamp (by omega), show 44 + 2 * s + 1 = 45 + 2 * s by omega, a7 i hi]
  exact ⟨_, _, _, rfl, rfl, h⟩
theorem sim_get {σc σm : qM} (h : RR σc σm) (x1 x2 x3 : Int32) : Sim (fX4_get σc x1 x2 x3) (fX5_get σm x1 x2 x3) := by
  unfold fX4_get fX5_get
  refine sim_test (t1 := fun σ => fX4_below σ x1 4) (t2 := fun σ => fX5_isSheet σ x1) (t_below x1 4 (by decide)) (t_sheet x1) h (fun h1 => ?_)
  refine sim_test (t1 := fun σ => fX4_below σ x2 3) (t2 := fun σ => fX5_in σ x2.toInt64 0 2) (t_below x2 3 (by decide)) (t_in x2 3 (by decide) rfl) h (fun h2 => ?_)
  obtain ⟨s, hs, rfl⟩ := bl_of h1 (by decide)
  obtain ⟨f, hf, rfl⟩ := bl_of h2 (by decide)
  dsimp only
  simp only [nI_clamp (show s < 2 ^ 31 by omega), if_pos (qin_of hs (by decide : 4 < 2 ^ 31))]
  refine sim_item h hs hf x3 (fun z i hz hi e a3 a4 a7 => ?_) (fun r v _ => ⟨_, _, _, rfl, rfl, rr_find h r⟩)
  subst e
  exact sim_get0 h hs hz hi a7
/-- putting an item -/
def cutI (f : Nat) (x : Int32) : Int32 := if f = 0 then x.toInt8.toInt32 else if f = 1 then x.toInt16.toInt32 else x
theorem cut_ok (σ : qM) {f : Nat} (hf : f < 3) (x : Int32) : fX5_cut σ (nI f) x = some (cutI f x, σ) := by
  unfold fX5_cut cutI
  rcases (show f = 0 ∨ f = 1 ∨ f = 2 by omega) with rfl | rfl | rfl
  · rw [if_pos (show nI 0 = (0 : Int32) from rfl), if_pos (show 0 = 0 from rfl)]
  · rw [if_neg (show ¬ nI 1 = (0 : Int32) by decide), if_pos (show nI 1 = (1 : Int32) from rfl), if_neg (show ¬ 1 = 0 by decide), if_pos (show 1 = 1 from rfl)]
  · rw [if_neg (show ¬ nI 2 = (0 : Int32) by decide), if_neg (show ¬ nI 2 = (1 : Int32) by decide), if_neg (show ¬ 2 = 0 by decide), if_neg (show ¬ 2 = 1 by decide)]
theorem put_ok {σ : qM} {o f i : Nat} (hf : f < 3) (h : σ o 1 = nI f) (hi : i < 60) (x : Int32) : fX2_put σ o (nI i) x = some (qup σ (o + 1) i (cutI f x)) := by
  unfold fX2_put cutI
  rw [h, if_pos (qin_of hi (by decide)), if_pos (qin_of hi (by decide)), if_pos (qin_of hi (by decide)), nI_clamp (by omega)]
  rcases (show f = 0 ∨ f = 1 ∨ f = 2 by omega) with rfl | rfl | rfl
  · rw [if_pos (show nI 0 = (0 : Int32) from rfl), if_pos (show 0 = 0 from rfl)]
  · rw [if_neg (show ¬ nI 1 = (0 : Int32) by decide), if_pos (show nI 1 = (1 : Int32) from rfl), if_neg (show ¬ 1 = 0 by decide), if_pos (show 1 = 1 from rfl)]
  · rw [if_neg (show ¬ nI 2 = (0 : Int32) by decide), if_neg (show ¬ nI 2 = (1 : Int32) by decide), if_neg (show ¬ 2 = 0 by decide), if_neg (show ¬ 2 = 1 by decide)]
theorem rr_put {σc σm : qM} (h : RR σc σm) {s i : Nat} (hs : s < 4) (hi : i < 60) (v : Int32) : RR (qup σc (44 + 2 * s + 1) i v) (qup σm 3 (60 * s + i) v) := by
  refine newsh1 h hs (fun a a1 a2 => qup_ne _ _ _ (by omega)) (fun a a1 a2 a3 a4 => qup_ne _ _ _ a3) (fun t ht => ⟨by rw [qup_ne _ _ _ (by decide)], by rw [qup_ne _ _ _ (by decide)], fun j hj => by rw [qup_eq, upd_at, if_neg (by omega)]⟩) ?_ ?_
  · rw [qup_ne _ _ _ (by omega), qup_ne _ _ _ (by decide)]; exact (h.sh.2 s hs).1
  · rw [qup_ne (a := 44 + 2 * s) _ _ _ (by omega), qup_ne (a := 1) _ _ _ (by decide), qup_ne (a := 2) _ _ _ (by decide)]
    rcases (h.sh.2 s hs).2 with q | ⟨f, hf, e2, z, hz, e3, e4, e5⟩
    · exact Or.inl q
    · refine Or.inr ⟨f, hf, e2, z, hz, e3, e4, fun j hj => ?_⟩
      rw [show 45 + 2 * s = 44 + 2 * s + 1 by omega, qup_eq, qup_eq, upd_at, upd_at]
      by_cases q : j = i
      · rw [if_pos q, if_pos (by omega)]
      · rw [if_neg q, if_neg (by omega), show 44 + 2 * s + 1 = 45 + 2 * s by omega]; exact e5 j hj
theorem sim_lay0 {σc σm : qM} (h : RR σc σm) {s i z f : Nat} (hs : s < 4) (hf : f < 3) (hz : z ≤ 60) (hi : i < z) (x4 : Int32) (a4 : σc (44 + 2 * s) 1 = nI f) : Sim ((fX2_put σc (44 + 2 * s) (nI i) x4).bind fun q9 => some ((1 : Int32), q9)) ((fX5_cut σm (nI f) x4).bind fun q7 => if qin (((60 : Int32) * nI s) + nI i) 240 then some ((1 : Int32), qup q7.2 3 (((60 : Int32) * nI s) + nI i).toNatClampNeg q7.1) else none) := by
  rw [put_ok hf a4 (by omega), cut_ok _ hf]
  simp only [Option.bind_some]
  rw [show (60 : Int32) * nI s + nI i = nI (60 * s + i) from by rw [show (60 : Int32) * nI s = nI (60 * s) from pk_mul 60 s, nI_add], if_pos (qin_of (by omega) (by decide)), nI_clamp (by omega)]
  exact ⟨_, _, _, rfl, rfl, rr_put h hs (by omega) _⟩
theorem sim_lay {σc σm : qM} (h : RR σc σm) (x1 x2 x3 x4 : Int32) : Sim (fX4_lay σc x1 x2 x3 x4) (fX5_lay σm x1 x2 x3 x4) := by
  unfold fX4_lay fX5_lay
  refine sim_test (t1 := fun σ => fX4_below σ x1 4) (t2 := fun σ => fX5_isSheet σ x1) (t_below x1 4 (by decide)) (t_sheet x1) h (fun h1 => ?_)
  refine sim_test (t1 := fun σ => fX4_below σ x2 3) (t2 := fun σ => fX5_in σ x2.toInt64 0 2) (t_below x2 3 (by decide)) (t_in x2 3 (by decide) rfl) h (fun h2 => ?_)
  obtain ⟨s, hs, rfl⟩ := bl_of h1 (by decide)
  obtain ⟨f, hf, rfl⟩ := bl_of h2 (by decide)
  dsimp only
  simp only [nI_clamp (show s < 2 ^ 31 by omega), if_pos (qin_of hs (by decide : 4 < 2 ^ 31))]
  refine sim_item h hs hf x3 (fun z i hz hi e a3 a4 a7 => ?_) (fun r v ev => by subst ev; exact ⟨_, _, _, rfl, rfl, rr_find h r⟩)
  subst e
  exact sim_lay0 h hs hf hz hi x4 a4

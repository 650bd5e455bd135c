/-! ===== PURE: count, broken, mornings, sides, clash, pour ===== -/
def sq (V : qV) : Nat → Int32
  | 0 => 0
  | k + 1 => sq V k + nI (v_q V k 3)
theorem plusC {σ : qM} {V : qV} (hV : v_ok V) (h : rdc σ V) : ∀ n i, i ≤ v_r V → v_r V - i < n → qlp (fun _ _ _ => none) bX4_rulesWithPlus_4 n σ (sq V i) (nI i) = some (sq V (v_r V), σ) := by
  intro n
  induction n with
  | zero => intro i _ h; omega
  | succ n ih =>
    intro i hi hn
    have hr := hV.2.1
    rw [qlp_succ]
    generalize qlp (fun _ _ _ => none) bX4_rulesWithPlus_4 n = kk at ih ⊢
    unfold bX4_rulesWithPlus_4 fX4_rulesWithPlus_27
    rw [h.2.2.2.1]
    by_cases e : i = v_r V
    · subst e
      rw [if_pos (nI_le (Nat.le_refl _) (by omega))]
    · rw [if_neg (nI_ge (by omega) (by omega)), show fX3_part σ 4 (nI i) 3 = some (nI (v_q V i 3), σ) from partR_ok hV h (j := 3) (by omega) (by decide)]
      simp only [Option.bind_some]
      rw [nI_1]
      exact ih (i + 1) (by omega) (by omega)
theorem plusM {σ : qM} {V : qV} (hV : v_ok V) (h : rdm σ V) : ∀ n i, i ≤ v_r V → v_r V - i < n → qlp (fun _ _ _ => none) bX5_count_92 n σ (sq V i) (nI i) = some (sq V (v_r V), σ) := by
  intro n
  induction n with
  | zero => intro i _ h; omega
  | succ n ih =>
    intro i hi hn
    have hr := hV.2.1
    rw [qlp_succ]
    generalize qlp (fun _ _ _ => none) bX5_count_92 n = kk at ih ⊢
    unfold bX5_count_92 fX5_count_113
    rw [h.1.1]
    by_cases e : i = v_r V
    · subst e
      rw [if_pos (nI_le (Nat.le_refl _) (by omega))]
    · rw [if_neg (nI_ge (by omega) (by omega)), show (5 : Int32) * nI i + 3 = nI (5 * i + 3) from by rw [show (5 : Int32) * nI i = nI (5 * i) from pk_mul 5 i]; exact nI_add _ 3, if_pos (qin_of (by omega) (by decide)), nI_clamp (by omega), h.1.2.1 i 3 (by omega) (by decide), nI_1]
      exact ih (i + 1) (by omega) (by omega)
theorem countE {σc σm : qM} (h : RR σc σm) (x1 : Int32) : ∃ β, SimD β (fX4_count σc x1) (fX5_count σm x1) := by
  unfold fX4_count fX5_count
  refine sim_reads h (fun β σ1 hR => ?_)
  have hV := vw_ok hR.1
  have hd := hR.2.1.rd hR.1
  have hm := hR.2.2.2.2.2.2.1
  have aM := hR.2.2.2.1
  have aC := hR.2.1
  by_cases e0 : x1 = 0
  · rw [if_pos e0, if_pos e0, hd.1, hm.2.1]; exact ⟨_, _, _, rfl, rfl, hR⟩
  rw [if_neg e0, if_neg e0]
  by_cases e1 : x1 = 1
  · rw [if_pos e1, if_pos e1, hd.2.2.2.1, hm.1.1]; exact ⟨_, _, _, rfl, rfl, hR⟩
  rw [if_neg e1, if_neg e1]
  by_cases e2 : x1 = 2
  · subst e2
    unfold fX5_count_66
    rw [if_pos rfl, if_pos rfl, if_pos (show qin ((2 : Int32) - 2) 2 by decide), show ((2 : Int32) - 2).toNatClampNeg = 0 from rfl, aM.1.1, aC.1.1]; exact ⟨_, _, _, rfl, rfl, hR⟩
  rw [if_neg e2, if_neg e2]
  by_cases e3 : x1 = 3
  · subst e3
    unfold fX5_count_66
    rw [if_pos rfl, if_pos rfl, if_pos (show qin ((3 : Int32) - 2) 2 by decide), show ((3 : Int32) - 2).toNatClampNeg = 1 from rfl, aM.2.1.1, aC.2.1.1]; exact ⟨_, _, _, rfl, rfl, hR⟩
  rw [if_neg e3, if_neg e3]
  by_cases e4 : x1 = 4
  · rw [if_pos e4, if_pos e4, aC.2.2.1.1, aM.2.2.1.1]; exact ⟨_, _, _, rfl, rfl, hR⟩
  rw [if_neg e4, if_neg e4]
  by_cases e5 : x1 = 5
  · rw [if_pos e5, if_pos e5, aC.2.2.2.1.1, aM.2.2.2.1.1]; exact ⟨_, _, _, rfl, rfl, hR⟩
  rw [if_neg e5, if_neg e5]
  by_cases e6 : x1 = 6
  · rw [if_pos e6, if_pos e6, aC.2.2.2.2.1.1, aM.2.2.2.2.1.1]; exact ⟨_, _, _, rfl, rfl, hR⟩
  rw [if_neg e6, if_neg e6]
  by_cases e7 : x1 = 7
  · rw [if_pos e7, if_pos e7, bind_id]
    unfold fX4_rulesWithPlus
    exact ⟨_, _, _, plusC hV hd qFU 0 (by omega) (by have := hV.2.1; rw [qFU_eq]; omega), plusM hV hm qFU 0 (by omega) (by have := hV.2.1; rw [qFU_eq]; omega), hR⟩
  rw [if_neg e7, if_neg e7]
  by_cases e8 : x1 = 8
  · rw [if_pos e8, if_pos e8, hR.2.2.2.2.1.1]; exact ⟨_, _, _, rfl, rfl, hR⟩
  rw [if_neg e8, if_neg e8]
  exact ⟨_, _, _, rfl, rfl, hR⟩
theorem sim_count {σc σm : qM} (h : RR σc σm) (x1 : Int32) : Sim (fX4_count σc x1) (fX5_count σm x1) := by
  obtain ⟨β, k⟩ := countE h x1
  exact k.s
/-! broken -/
def bkB (β : qB) (i : Nat) : Bool := (rdg (vw β) (dy β ((btd β).2 i 0))).testBit ((btd β).2 i 1)
theorem brokenC {β : qB} {σ : qM} (hb : bt_ok β) (hA : AC σ β) (hu : cupV σ (vw β)) : ∀ n i, i ≤ (btd β).1 → (btd β).1 - i < n → qlp (fun _ _ _ => none) bX4_brokenDeeds_4 n σ (nI (mk (bkB β) i)) (nI i) = some (nI (mk (bkB β) (btd β).1), σ) := by
  intro n
  induction n with
  | zero => intro i _ h; omega
  | succ n ih =>
    intro i hi hn
    have hL := hb.2.2.2.1
    rw [qlp_succ]
    generalize qlp (fun _ _ _ => none) bX4_brokenDeeds_4 n = kk at ih ⊢
    unfold bX4_brokenDeeds_4 fX4_brokenDeeds_50
    rw [hA.2.2.2.1.1]
    by_cases e : i = (btd β).1
    · subst e
      rw [if_pos (nI_le (Nat.le_refl _) (by omega))]
    · obtain ⟨d1, d2⟩ := hL.2 i (by omega)
      rw [if_neg (nI_ge (by omega) (by omega)), if_pos (qin_of (by omega) (by decide))]
      simp only [nI_clamp (show i < 2 ^ 31 by omega)]
      rw [show σ 11 i = nI ((btd β).2 i 0) from (hA.2.2.2.1.2 i (by omega)).1, turnsOn_ok hb hA d1]
      simp only [Option.bind_some]
      rw [if_pos (qin_of (by omega) (by decide)), show σ 12 i = nI ((btd β).2 i 1) from (hA.2.2.2.1.2 i (by omega)).2]
      have e2 := inF (vw_ok hb) hu (dy_lt β ((btd β).2 i 0)) (k := (btd β).2 i 1) (by omega)
      cases hq : (rdg (vw β) (dy β ((btd β).2 i 0))).testBit ((btd β).2 i 1) with
      | true =>
        rw [hq] at e2
        rw [bnd_1 e2 (by decide)]
        dsimp only
        rw [nI_1, mk_t (b := i) (by omega) hq]
        exact ih (i + 1) (by omega) (by omega)
      | false =>
        rw [hq] at e2
        rw [bnd_0 e2]
        dsimp only
        rw [nI_1, mk_f (f := bkB β) (b := i) (by omega) hq]
        exact ih (i + 1) (by omega) (by omega)
theorem brokenNow_ok {β : qB} {σ0 : qM} (h0 : MS β σ0) : qok (fX5_brokenNow σ0) (fun q => q.1 = nI (mk (bkB β) (btd β).1) ∧ frP (vw β) σ0 q.2) := by
  have hL := h0.1.2.2.2.1
  unfold fX5_brokenNow
  refine qok_lp3 (z := fun _ _ _ => none) (b := bX5_brokenNow_4) (fun m σ x1 x2 => frP (vw β) σ0 σ ∧ ∃ i, i ≤ (btd β).1 ∧ m = (btd β).1 - i ∧ x1 = nI (mk (bkB β) i) ∧ x2 = nI i) ?_ qFU (btd β).1 σ0 0 0 (by rw [qFU_eq]; omega) ⟨frP.rf _ _, 0, by omega, rfl, rfl, rfl⟩
  rintro m kk ih σ x1 x2 ⟨f1, i, hi, rfl, rfl, rfl⟩
  have hM := (h0.fr f1).2.1
  unfold bX5_brokenNow_4 fX5_brokenNow_48 fX5_brokenNow_50
  rw [hM.2.2.2.1.1]
  by_cases e : i = (btd β).1
  · subst e
    exact qok_t (nI_le (Nat.le_refl _) (by omega)) (qok_some ⟨rfl, f1⟩)
  · obtain ⟨d1, d2⟩ := hL.2 i (by omega)
    obtain ⟨g1, g2⟩ := hM.2.2.2.1.2 i (by omega)
    have n2 : (2 : Int32) * nI i = nI (2 * i) := pk_mul 2 i
    rw [n2, nI_1]
    refine qok_f (nI_ge (by omega) (by omega)) (qok_t (qin_of (by omega) (by decide)) ?_)
    rw [nI_clamp (by omega), g1]
    refine qok_bind (qok_mono (dayOf_ok (h0.fr f1) d1) ?_)
    rintro ⟨r, σ1⟩ ⟨r1, r2⟩
    dsimp only at r1 r2 ⊢
    subst r1
    refine qok_t (qin_of (by omega) (by decide)) ?_
    have hl := rdg_lt (vw_ok h0.1) (dy β ((btd β).2 i 0))
    rw [nI_clamp (by omega), r2.1 10 (by decide) (by decide) (by decide) (by decide) (by decide), g2]
    have e2 := isIn_b σ1 (a := rdg (vw β) (dy β ((btd β).2 i 0))) (k := (btd β).2 i 1) (by omega) (by omega)
    cases hq : (rdg (vw β) (dy β ((btd β).2 i 0))).testBit ((btd β).2 i 1) with
    | true =>
      rw [hq] at e2
      rw [bnd_1 e2 (by decide)]
      dsimp only
      rw [nI_1, mk_t (b := i) (by omega) hq]
      exact ih ((btd β).1 - (i + 1)) _ _ _ (by omega) ⟨f1.tr r2, i + 1, by omega, rfl, rfl, rfl⟩
    | false =>
      rw [hq] at e2
      rw [bnd_0 e2]
      dsimp only
      rw [nI_1, mk_f0 (f := bkB β) (b := i) (by omega) hq]
      exact ih ((btd β).1 - (i + 1)) _ _ _ (by omega) ⟨f1.tr r2, i + 1, by omega, rfl, rfl, rfl⟩
/-- the earliest of the broken deeds -/
def fb (D : Nat → Nat) (B : Nat → Bool) : Nat → Option Nat
  | 0 => none
  | i + 1 => if B i = true then (match fb D B i with | none => some i | some b => if D b ≤ D i then some b else some i) else fb D B i
def fbI : Option Nat → Int32
  | none => -1
  | some b => nI b
def fbD (D : Nat → Nat) : Option Nat → Int32
  | none => 28
  | some b => nI (D b)
theorem fb_s (D : Nat → Nat) (B : Nat → Bool) (i : Nat) : fb D B (i + 1) = if B i = true then (match fb D B i with | none => some i | some b => if D b ≤ D i then some b else some i) else fb D B i := rfl
theorem fb_lt {D : Nat → Nat} {B : Nat → Bool} : ∀ i b, fb D B i = some b → b < i := by
  intro i
  induction i with
  | zero => intro b h; cases h
  | succ i ih =>
    intro b h
    rw [fb_s] at h
    split at h
    · split at h
      · cases h; omega
      · rename_i c hc
        split at h
        · cases h; have := ih _ hc; omega
        · cases h; omega
    · have := ih b h; omega
theorem earlyC {β : qB} {σ : qM} (hb : bt_ok β) (hA : AC σ β) : ∀ n i, i ≤ (btd β).1 → (btd β).1 - i < n → qlp (fun _ _ _ _ _ => none) bX4_earliestDeed_8 n σ (nI (mk (bkB β) (btd β).1)) (fbI (fb (fun i => (btd β).2 i 0) (bkB β) i)) (fbD (fun i => (btd β).2 i 0) (fb (fun i => (btd β).2 i 0) (bkB β) i)) (nI i) = some (fbI (fb (fun i => (btd β).2 i 0) (bkB β) (btd β).1), σ) := by
  intro n
  induction n with
  | zero => intro i _ h; omega
  | succ n ih =>
    intro i hi hn
    have hL := hb.2.2.2.1
    have hmk := mk_lt (bkB β) (btd β).1
    have hp := p2_le hL.1
    rw [qlp_succ]
    generalize qlp (fun _ _ _ _ _ => none) bX4_earliestDeed_8 n = kk at ih ⊢
    unfold bX4_earliestDeed_8 fX4_earliestDeed_58
    rw [hA.2.2.2.1.1]
    by_cases e : i = (btd β).1
    · subst e
      rw [if_pos (nI_le (Nat.le_refl _) (by omega))]
    · have h1 := ih (i + 1) (by omega) (by omega)
      obtain ⟨d1, d2⟩ := hL.2 i (by omega)
      rw [if_neg (nI_ge (by omega) (by omega)), nI_1]
      have hbit : ((mk (bkB β) (btd β).1).testBit i = true) ↔ bkB β i = true := by rw [mk_bit, decide_eq_true (show i < (btd β).1 by omega), Bool.true_and]
      rw [if_pos (qin_of (by omega) (by decide)), if_pos (qin_of (by omega) (by decide)), nI_clamp (by omega), show σ 11 i = nI ((btd β).2 i 0) from (hA.2.2.2.1.2 i (by omega)).1]
      by_cases q : bkB β i = true
      · rw [if_pos ((bit1 (by omega) (by omega)).mpr (hbit.mpr q))]
        rw [fb_s] at h1
        rw [if_pos q] at h1
        cases hf : fb (fun i => (btd β).2 i 0) (bkB β) i with
        | none =>
          rw [hf] at h1
          rw [if_neg (show ¬ fbD (fun i => (btd β).2 i 0) none ≤ nI ((btd β).2 i 0) from nI_ge (b := 28) d1 (by decide))]
          exact h1
        | some b =>
          rw [hf] at h1
          have hbi := fb_lt _ _ hf
          have hDb := (hL.2 b (by omega)).1
          dsimp only at h1
          by_cases w : (btd β).2 b 0 ≤ (btd β).2 i 0
          · rw [if_pos w] at h1
            rw [if_pos (show fbD (fun i => (btd β).2 i 0) (some b) ≤ nI ((btd β).2 i 0) from nI_le w (by omega))]
            exact h1
          · rw [if_neg w] at h1
            rw [if_neg (show ¬ fbD (fun i => (btd β).2 i 0) (some b) ≤ nI ((btd β).2 i 0) from nI_ge (a := (btd β).2 i 0) (b := (btd β).2 b 0) (by omega) (by omega))]
            exact h1
      · rw [fb_s] at h1
        rw [if_neg q] at h1
        rw [if_neg (fun z => q (hbit.mp ((bit1 (by omega) (by omega)).mp z)))]
        exact h1
theorem earlyM {β : qB} {σ : qM} (hb : bt_ok β) (hM : AM σ β) : ∀ n i, i ≤ (btd β).1 → (btd β).1 - i < n → qlp (fun _ _ _ _ => none) bX5_firstBroken_9 n σ (nI (mk (bkB β) (btd β).1)) (fbI (fb (fun i => (btd β).2 i 0) (bkB β) i)) (nI i) = some (fbI (fb (fun i => (btd β).2 i 0) (bkB β) (btd β).1), σ) := by
  intro n
  induction n with
  | zero => intro i _ h; omega
  | succ n ih =>
    intro i hi hn
    have hL := hb.2.2.2.1
    have hmk := mk_lt (bkB β) (btd β).1
    have hp := p2_le hL.1
    rw [qlp_succ]
    generalize qlp (fun _ _ _ _ => none) bX5_firstBroken_9 n = kk at ih ⊢
    unfold bX5_firstBroken_9 fX5_firstBroken_53 fX5_firstBroken_49 fX5_firstBroken_54
    rw [hM.2.2.2.1.1]
    by_cases e : i = (btd β).1
    · subst e
      rw [if_pos (nI_le (Nat.le_refl _) (by omega))]
    · have h1 := ih (i + 1) (by omega) (by omega)
      obtain ⟨d1, d2⟩ := hL.2 i (by omega)
      rw [if_neg (nI_ge (by omega) (by omega)), nI_1]
      have hbit : ((mk (bkB β) (btd β).1).testBit i) = bkB β i := by rw [mk_bit, decide_eq_true (show i < (btd β).1 by omega), Bool.true_and]
      have e2 := isIn_b σ (a := mk (bkB β) (btd β).1) (k := i) (by omega) (by omega)
      rw [hbit] at e2
      cases q : bkB β i with
      | true =>
        rw [q] at e2
        rw [bnd_1 e2 (by decide)]
        dsimp only
        rw [fb_s] at h1
        rw [if_pos q] at h1
        cases hf : fb (fun i => (btd β).2 i 0) (bkB β) i with
        | none =>
          rw [hf] at h1
          rw [if_pos (show fbI none = -1 from rfl)]
          exact h1
        | some b =>
          rw [hf] at h1
          have hbi := fb_lt _ _ hf
          have hDb := (hL.2 b (by omega)).1
          dsimp only at h1
          rw [if_neg (show ¬ fbI (some b) = -1 from nI_m1 (by omega)), show (2 : Int32) * nI i = nI (2 * i) from pk_mul 2 i, show (2 : Int32) * fbI (some b) = nI (2 * b) from pk_mul 2 b, if_pos (qin_of (by omega) (by decide)), if_pos (qin_of (by omega) (by decide)), nI_clamp (by omega), nI_clamp (by omega)]
          simp only [(hM.2.2.2.1.2 i (by omega)).1, (hM.2.2.2.1.2 b (by omega)).1]
          by_cases w : (btd β).2 b 0 ≤ (btd β).2 i 0
          · rw [if_pos w] at h1
            rw [if_pos (nI_le w (by omega))]
            exact h1
          · rw [if_neg w] at h1
            rw [if_neg (nI_ge (show (btd β).2 i 0 < (btd β).2 b 0 by omega) (by omega))]
            exact h1
      | false =>
        rw [q] at e2
        rw [bnd_0 e2]
        dsimp only
        rw [fb_s] at h1
        rw [if_neg (by rw [q]; decide)] at h1
        exact h1
theorem firstBroken_ok {β : qB} {σ0 : qM} (h0 : MS β σ0) : qok (fX5_firstBroken σ0) (fun q => q.1 = fbI (fb (fun i => (btd β).2 i 0) (bkB β) (btd β).1) ∧ frP (vw β) σ0 q.2) := by
  unfold fX5_firstBroken
  refine qok_bind (qok_mono (brokenNow_ok h0) ?_)
  rintro ⟨r, σ1⟩ ⟨r1, r2⟩
  dsimp only at r1 r2 ⊢
  subst r1
  have hL := h0.1.2.2.2.1
  have e := earlyM (σ := σ1) h0.1 (h0.fr r2).2.1 qFU 0 (by omega) (by rw [qFU_eq]; omega)
  exact ⟨_, e, rfl, r2⟩
def bkV (β : qB) (j : Nat) : Int32 := if j = 0 then nI (mk (bkB β) (btd β).1) else fbI (fb (fun i => (btd β).2 i 0) (bkB β) (btd β).1)
theorem brokenS {β : qB} {σc σm : qM} (h : RD β σc σm) {j : Nat} (hj : j < 2) : qok ((fX0_settled σc).bind fun q3 => (fX4_brokenDeeds q3).bind fun q4 => if nI j = 0 then (some (q4.1, q4.2))
  else ((fX4_earliestDeed q4.2 q4.1).bind fun q6 => some (q6.1, q6.2))) (fun q => q.1 = bkV β j ∧ frU σc q.2 ∧ (q.2 16 14 = 1 ∨ cupV q.2 (vw β))) := by
  have hL := h.1.2.2.2.1
  refine setp h _ (fun σ hA _ hu => ?_)
  rw [show fX4_brokenDeeds σ = some (nI (mk (bkB β) (btd β).1), σ) from brokenC h.1 hA hu qFU 0 (by omega) (by rw [qFU_eq]; omega)]
  simp only [Option.bind_some]
  rcases (show j = 0 ∨ j = 1 by omega) with rfl | rfl
  · rw [if_pos (show nI 0 = (0 : Int32) from rfl)]; rfl
  · rw [if_neg (show ¬ nI 1 = (0 : Int32) by decide), bind_id]
    exact earlyC h.1 hA qFU 0 (by omega) (by rw [qFU_eq]; omega)
theorem brokenX {β : qB} {σc σm : qM} (h : RD β σc σm) {j : Nat} (hj : j < 2) {y : Option (Int32 × qM)} (hy : y = if j = 0 then fX5_brokenNow σm else fX5_firstBroken σm) : SimD β (fX4_broken σc (nI j)) y := by
  unfold fX4_broken
  rw [show (2 : Int32) = nI 2 from rfl, bnd_1 ((below_ok σc (nI j) 2 (by decide)).1 (bl_nI hj (by decide))) (by decide), hy]
  refine askD h _ (brokenS h hj) ?_
  rcases (show j = 0 ∨ j = 1 by omega) with rfl | rfl
  · exact brokenNow_ok h.ms
  · exact firstBroken_ok h.ms
theorem sim_broken {σc σm : qM} (h : RR σc σm) (x1 : Int32) : Sim (fX4_broken σc x1) (fX5_broken σm x1) := by
  unfold fX5_broken
  refine sim_q h (fun β σ1 hR => ?_)
  unfold fX4_broken
  refine simD_test (t1 := fun σ => fX4_below σ x1 2) (t2 := fun σ => fX5_isTwo σ x1) (t_below x1 2 (by decide)) (t_two x1) hR (fun h1 => ?_)
  obtain ⟨j, hj, rfl⟩ := bl_of h1 (by decide)
  dsimp only
  rw [bind_id, bind_id]
  refine askD hR _ (brokenS hR hj) ?_
  rcases (show j = 0 ∨ j = 1 by omega) with rfl | rfl
  · rw [if_pos (show nI 0 = (0 : Int32) from rfl)]
    exact brokenNow_ok hR.ms
  · rw [if_neg (show ¬ nI 1 = (0 : Int32) by decide)]
    exact firstBroken_ok hR.ms

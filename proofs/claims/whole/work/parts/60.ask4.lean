/-! ===== PURE: mornings, sides, clash, pour, write ===== -/
theorem nI_bv (x : Int32) : nI x.toBitVec.toNat = x := by
  apply Int32.toBitVec_inj.mp
  apply BitVec.eq_of_toNat_eq
  rw [pk_tn x.toBitVec.isLt]
theorem ushr16 (x : Int32) : jushr x 16 = nI (x.toBitVec.toNat / 2 ^ 16) := by
  have := pk_ushrN (n := x.toBitVec.toNat) x.toBitVec.isLt 16 16 rfl
  rw [nI_bv] at this
  exact this
def mt (x : Int32) : Nat := x.toBitVec.toNat / 2 ^ 16 % 4
theorem mt_lt (x : Int32) : mt x < 4 := Nat.mod_lt _ (by decide)
theorem mt_is (x : Int32) : jrem (jushr x 16) 4 = nI (mt x) := by
  have := x.toBitVec.isLt
  rw [ushr16, jrem4 (by omega)]
  rfl
def nx (x : Int32) : Int32 := (1103515245 * x) + 12345
def mo (V : qV) (k : Nat) : Nat → Int32 → Int32 → Int32
  | 0, _, c => c
  | d + 1, s, c => mo V k d (nx s) (if (rdg V (mt (nx s))).testBit k = true then c + 1 else c)
theorem mo_s (V : qV) (k d : Nat) (s c : Int32) : mo V k (d + 1) s c = mo V k d (nx s) (if (rdg V (mt (nx s))).testBit k = true then c + 1 else c) := rfl
theorem mornC {σ : qM} {V : qV} (hV : v_ok V) (hu : cupV σ V) {k N : Nat} (hk : k < 8) (hN : N < 100) : ∀ n i s c, i ≤ N → N - i < n → qlp (fun _ _ _ _ _ _ => none) bX4_mornings_41 n σ (nI N) (nI k) s c (nI i) = some (mo V k (N - i) s c, σ) := by
  intro n
  induction n with
  | zero => intro i s c _ h; omega
  | succ n ih =>
    intro i s c hi hn
    rw [qlp_succ]
    generalize qlp (fun _ _ _ _ _ _ => none) bX4_mornings_41 n = kk at ih ⊢
    unfold bX4_mornings_41 fX4_mornings_58 fX4_mornings_77
    by_cases e : i = N
    · subst e
      rw [if_pos (nI_le (Nat.le_refl _) (by omega)), Nat.sub_self]
      rfl
    · obtain ⟨d, hd⟩ : ∃ d, N - i = d + 1 := ⟨N - i - 1, by omega⟩
      have hd2 : N - (i + 1) = d := by omega
      rw [if_neg (nI_ge (by omega) (by omega)), hd, mt_is, nI_1]
      have e2 := inF hV hu (mt_lt (nx s)) (k := k) (by omega)
      rw [mo_s]
      cases hq : (rdg V (mt (nx s))).testBit k with
      | true =>
        rw [hq] at e2
        rw [if_pos rfl]
        rw [show fX0_isInForce σ (nI (mt (1103515245 * s + 12345))) (nI k) = some (b2i true, σ) from e2]
        show kk σ (nI N) (nI k) (nx s) (c + 1) (nI (i + 1)) = _
        rw [ih (i + 1) _ _ (by omega) (by omega), hd2]
      | false =>
        rw [hq] at e2
        rw [if_neg (by decide)]
        rw [show fX0_isInForce σ (nI (mt (1103515245 * s + 12345))) (nI k) = some (b2i false, σ) from e2]
        show kk σ (nI N) (nI k) (nx s) c (nI (i + 1)) = _
        rw [ih (i + 1) _ _ (by omega) (by omega), hd2]
theorem morningsOf_ok {β : qB} {σ0 : qM} (h0 : MS β σ0) {k N : Nat} (hk : k < 8) (hN : N < 100) (s0 : Int32) : qok (fX5_morningsOf σ0 s0 (nI N) (nI k)) (fun q => q.1 = mo (vw β) k N s0 0 ∧ frP (vw β) σ0 q.2) := by
  unfold fX5_morningsOf
  refine qok_lp6 (z := fun _ _ _ _ _ _ => none) (b := bX5_morningsOf_9) (fun m σ x2 x3 x4 x5 x6 => x2 = nI N ∧ x3 = nI k ∧ frP (vw β) σ0 σ ∧ ∃ i, i ≤ N ∧ m = N - i ∧ mo (vw β) k (N - i) x4 x5 = mo (vw β) k N s0 0 ∧ x6 = nI i) ?_ qFU N σ0 _ _ _ 0 0 (by rw [qFU_eq]; omega) ⟨rfl, rfl, frP.rf _ _, 0, by omega, rfl, rfl, rfl⟩
  rintro m kk ih σ x2 x3 s c x6 ⟨rfl, rfl, f1, i, hi, rfl, hv, rfl⟩
  unfold bX5_morningsOf_9 fX5_morningsOf_27 fX5_morningsOf_52 fX5_morningsOf_55
  by_cases e : i = N
  · subst e
    rw [Nat.sub_self] at hv
    exact qok_t (nI_le (Nat.le_refl _) (by omega)) (qok_some ⟨hv, f1⟩)
  · obtain ⟨d, hd⟩ : ∃ d, N - i = d + 1 := ⟨N - i - 1, by omega⟩
    have hd2 : N - (i + 1) = d := by omega
    rw [hd] at hv
    rw [mo_s] at hv
    refine qok_f (nI_ge (by omega) (by omega)) ?_
    rw [mt_is, nI_1]
    refine qok_bind (qok_mono (readNow_ok (h0.fr f1) (mt_lt _)) ?_)
    rintro ⟨r, σ1⟩ ⟨r1, r2⟩
    dsimp only at r1 r2 ⊢
    subst r1
    have hl := rdg_lt (vw_ok h0.1) (mt (nx s))
    have e2 := isIn_b σ1 (a := rdg (vw β) (mt (nx s))) (k := k) (by omega) (by omega)
    have e3 : fX5_isIn σ1 (nI (rdg (vw β) (mt (1103515245 * s + 12345)))) (nI k) = some (b2i ((rdg (vw β) (mt (nx s))).testBit k), σ1) := e2
    cases hq : (rdg (vw β) (mt (nx s))).testBit k with
    | true =>
      rw [hq] at e3 hv
      rw [if_pos rfl] at hv
      rw [bnd_1 e3 (by decide)]
      exact ih (N - (i + 1)) _ _ _ _ _ _ (by omega) ⟨rfl, rfl, f1.tr r2, i + 1, by omega, rfl, by rw [hd2]; exact hv, rfl⟩
    | false =>
      rw [hq] at e3 hv
      rw [if_neg (by decide)] at hv
      rw [bnd_0 e3]
      dsimp only
      rw [Int32.add_zero]
      exact ih (N - (i + 1)) _ _ _ _ _ _ (by omega) ⟨rfl, rfl, f1.tr r2, i + 1, by omega, rfl, by rw [hd2]; exact hv, rfl⟩
theorem morningsD {β : qB} {σc σm : qM} (h : RD β σc σm) {k N : Nat} (hk : k < 8) (hN : N < 100) (s0 : Int32) : SimD β ((fX0_settled σc).bind fun q5 => fX4_mornings_41 q5 (nI N) (nI k) s0 0 0) (fX5_morningsOf σm s0 (nI N) (nI k)) :=
  askD h (mo (vw β) k N s0 0) (setp h _ (fun σ _ _ hu => mornC (vw_ok h.1) hu hk hN qFU 0 s0 0 (by omega) (by rw [qFU_eq]; omega))) (morningsOf_ok h.ms hk hN s0)
theorem morningsX {β : qB} {σc σm : qM} (h : RD β σc σm) {k N : Nat} (hk : k < 8) (h1 : 1 ≤ N) (hN : N < 100) (s0 : Int32) : SimD β (fX4_mornings σc s0 (nI N) (nI k)) (fX5_morningsOf σm s0 (nI N) (nI k)) := by
  unfold fX4_mornings
  rw [if_neg (show ¬ nI N < (1 : Int32) from nI_nlt (b := 1) h1 (by omega)), if_neg (show ¬ (99 : Int32) < nI N from nI_nlt (a := 99) (by omega) (by decide)), show (8 : Int32) = nI 8 from rfl, bnd_1 ((below_ok σc (nI k) 8 (by decide)).1 (bl_nI hk (by decide))) (by decide)]
  exact morningsD h hk hN s0
theorem sim_mornings {σc σm : qM} (h : RR σc σm) (x1 x2 x3 : Int32) : Sim (fX4_mornings σc x1 x2 x3) (fX5_mornings σm x1 x2 x3) := by
  unfold fX5_mornings
  refine sim_q h (fun β σ1 hR => ?_)
  unfold fX4_mornings
  have e := in_gen σ1 x2.toInt64 1 99
  by_cases c1 : x2 < 1
  · rw [if_pos c1, bnd_0 (show fX5_in σ1 x2.toInt64 1 99 = some (0, σ1) from by rw [e, if_neg]; rw [show (1 : Int64) = (1 : Int32).toInt64 from rfl, fa_wide_le]; intro q; have := q.1; rw [fa_le] at this; rw [fa_lt] at c1; omega)]
    exact ⟨_, _, _, rfl, rfl, hR⟩
  · rw [if_neg c1]
    by_cases c2 : 99 < x2
    · rw [if_pos c2, bnd_0 (show fX5_in σ1 x2.toInt64 1 99 = some (0, σ1) from by rw [e, if_neg]; rw [show (99 : Int64) = (99 : Int32).toInt64 from rfl, fa_wide_le x2 99]; intro q; have := q.2; rw [fa_le] at this; rw [fa_lt] at c2; omega)]
      exact ⟨_, _, _, rfl, rfl, hR⟩
    · rw [if_neg c2, bnd_1 (show fX5_in σ1 x2.toInt64 1 99 = some (1, σ1) from by rw [e, if_pos]; rw [show (99 : Int64) = (99 : Int32).toInt64 from rfl, show (1 : Int64) = (1 : Int32).toInt64 from rfl, fa_wide_le, fa_wide_le]; rw [fa_lt] at c1 c2; rw [fa_le, fa_le]; omega) (by decide)]
      refine simD_test (t1 := fun σ => fX4_below σ x3 8) (t2 := fun σ => fX5_isLaw σ x3) (t_below x3 8 (by decide)) (t_law x3) hR (fun h3 => ?_)
      obtain ⟨k, hk, rfl⟩ := bl_of h3 (by decide)
      obtain ⟨N, hN, rfl⟩ := nI_of2 (x := x2) (M := 99) (n := 99) rfl (fun q => c1 (by rw [fa_lt] at q ⊢; have : (1 : Int32).toInt = 1 := rfl; have : (0 : Int32).toInt = 0 := rfl; omega)) (fa_of_nlt c2)
      dsimp only
      rw [bind_id]
      exact morningsD hR hk (by omega) x1
/-! the first that is so -/
def fs (p : Nat → Bool) : Nat → Nat → Int32
  | 0, _ => -1
  | d + 1, k => if p k = true then nI k else fs p d (k + 1)
theorem fs_s (p : Nat → Bool) (d k : Nat) : fs p (d + 1) k = if p k = true then nI k else fs p d (k + 1) := rfl
def hdB (V : qV) (k t : Nat) : Bool := (rdg V t).testBit k && (rdg V ((t + 1) % 4)).testBit k
theorem holdC {σ : qM} {V : qV} (hV : v_ok V) (hu : cupV σ V) {k : Nat} (hk : k < 8) : ∀ n i, i ≤ 4 → 4 - i < n → qlp (fun _ _ _ => none) bX0_turnsThatHold_2 n σ (nI k) (nI i) = some (fs (hdB V k) (4 - i) i, σ) := by
  intro n
  induction n with
  | zero => intro i _ h; omega
  | succ n ih =>
    intro i hi hn
    rw [qlp_succ]
    generalize qlp (fun _ _ _ => none) bX0_turnsThatHold_2 n = kk at ih ⊢
    unfold bX0_turnsThatHold_2 fX0_turnsThatHold_31
    by_cases e : i = 4
    · subst e
      rw [if_pos (show (4 : Int32) ≤ nI 4 by decide)]
      rfl
    · obtain ⟨d, hd⟩ : ∃ d, 4 - i = d + 1 := ⟨4 - i - 1, by omega⟩
      have hd2 : 4 - (i + 1) = d := by omega
      have h1 := ih (i + 1) (by omega) (by omega)
      rw [hd2] at h1
      rw [if_neg (show ¬ (4 : Int32) ≤ nI i from nI_ge (b := 4) (by omega) (by decide)), hd, fs_s]
      have e2 := inF hV hu (show i < 4 by omega) (k := k) (by omega)
      have e3 := inF hV hu (show (i + 1) % 4 < 4 by omega) (k := k) (by omega)
      rw [nI_1, jrem4 (by omega)]
      unfold hdB
      cases hq : (rdg V i).testBit k with
      | true =>
        rw [hq] at e2
        rw [bnd_1 e2 (by decide)]
        dsimp only
        cases hq2 : (rdg V ((i + 1) % 4)).testBit k with
        | true =>
          rw [hq2] at e3
          rw [bnd_1 e3 (by decide)]
          rfl
        | false =>
          rw [hq2] at e3
          rw [bnd_0 e3, if_neg (by decide)]
          exact h1
      | false =>
        rw [hq] at e2
        rw [bnd_0 e2, if_neg (fun h : (false && (rdg V ((i + 1) % 4)).testBit k) = true => Bool.noConfusion h)]
        exact h1
def sdV (V : qV) (k j d i : Nat) : Int32 := if j = 0 then (if fs (hdB V k) d i = -1 then 0 else 1) else fs (hdB V k) d i
theorem sidesOf_ok {β : qB} {σ0 : qM} (h0 : MS β σ0) {k j : Nat} (hk : k < 8) (hj : j < 2) : qok (fX5_sidesOf σ0 (nI k) (nI j)) (fun q => q.1 = sdV (vw β) k j 4 0 ∧ frP (vw β) σ0 q.2) := by
  unfold fX5_sidesOf
  refine qok_lp4 (z := fun _ _ _ _ => none) (b := bX5_sidesOf_2) (fun m σ x1 x2 x3 => x1 = nI k ∧ x2 = nI j ∧ frP (vw β) σ0 σ ∧ ∃ i, i ≤ 4 ∧ m = 4 - i ∧ sdV (vw β) k j (4 - i) i = sdV (vw β) k j 4 0 ∧ x3 = nI i) ?_ qFU 4 σ0 _ _ 0 (by rw [qFU_eq]; omega) ⟨rfl, rfl, frP.rf _ _, 0, by omega, rfl, rfl, rfl⟩
  rintro m kk ih σ x1 x2 x3 ⟨rfl, rfl, f1, i, hi, rfl, hv, rfl⟩
  have j0 : nI j = 0 ↔ j = 0 := nI_eq (b := 0) (by omega) (by decide)
  unfold bX5_sidesOf_2 fX5_sidesOf_45
  by_cases e : i = 4
  · subst e
    refine qok_t (show (4 : Int32) ≤ nI 4 by decide) ?_
    have hv2 : (if j = 0 then (0 : Int32) else -1) = sdV (vw β) k j 4 0 := hv
    by_cases c : j = 0
    · rw [if_pos c] at hv2
      exact qok_t (j0.mpr c) (qok_some ⟨hv2, f1⟩)
    · rw [if_neg c] at hv2
      exact qok_f (fun q => c (j0.mp q)) (qok_some ⟨hv2, f1⟩)
  · obtain ⟨d, hd⟩ : ∃ d, 4 - i = d + 1 := ⟨4 - i - 1, by omega⟩
    have hd2 : 4 - (i + 1) = d := by omega
    rw [hd] at hv
    unfold sdV at hv
    rw [fs_s] at hv
    refine qok_f (show ¬ (4 : Int32) ≤ nI i from nI_ge (b := 4) (by omega) (by decide)) ?_
    rw [nI_1, jrem4 (by omega)]
    refine qok_bind (qok_mono (readNow_ok (h0.fr f1) (show i < 4 by omega)) ?_)
    rintro ⟨r, σ1⟩ ⟨r1, r2⟩
    dsimp only at r1 r2 ⊢
    subst r1
    have hl := rdg_lt (vw_ok h0.1) i
    have e2 := isIn_b σ1 (a := rdg (vw β) i) (k := k) (by omega) (by omega)
    have hno : (hdB (vw β) k i = false) → ∀ σ2, frP (vw β) σ0 σ2 → qok (kk σ2 (nI k) (nI j) (nI (i + 1))) (fun q => q.1 = sdV (vw β) k j 4 0 ∧ frP (vw β) σ0 q.2) := fun hq σ2 f2 => by
      rw [if_neg (show ¬ hdB (vw β) k i = true by rw [hq]; decide)] at hv
      exact ih (4 - (i + 1)) _ _ _ _ (by omega) ⟨rfl, rfl, f2, i + 1, by omega, rfl, by rw [hd2]; exact hv, rfl⟩
    cases hq : (rdg (vw β) i).testBit k with
    | true =>
      rw [hq] at e2
      rw [bnd_1 e2 (by decide)]
      dsimp only
      refine qok_bind (qok_mono (readNow_ok (h0.fr (f1.tr r2)) (show (i + 1) % 4 < 4 by omega)) ?_)
      rintro ⟨r, σ2⟩ ⟨r3, r4⟩
      dsimp only at r3 r4 ⊢
      subst r3
      have hl := rdg_lt (vw_ok h0.1) ((i + 1) % 4)
      have e3 := isIn_b σ2 (a := rdg (vw β) ((i + 1) % 4)) (k := k) (by omega) (by omega)
      cases hq2 : (rdg (vw β) ((i + 1) % 4)).testBit k with
      | true =>
        rw [hq2] at e3
        rw [bnd_1 e3 (by decide)]
        dsimp only
        rw [if_pos (show hdB (vw β) k i = true by unfold hdB; rw [hq, hq2]; rfl), if_neg (nI_m1 (by omega))] at hv
        by_cases c : j = 0
        · rw [if_pos c] at hv
          exact qok_t (j0.mpr c) (qok_some ⟨hv, (f1.tr r2).tr r4⟩)
        · rw [if_neg c] at hv
          exact qok_f (fun q => c (j0.mp q)) (qok_some ⟨hv, (f1.tr r2).tr r4⟩)
      | false =>
        rw [hq2] at e3
        rw [bnd_0 e3]
        exact hno (by unfold hdB; rw [hq, hq2]; rfl) σ2 ((f1.tr r2).tr r4)
    | false =>
      rw [hq] at e2
      rw [bnd_0 e2]
      exact hno (by unfold hdB; rw [hq]; rfl) σ1 (f1.tr r2)
theorem sidesD {β : qB} {σc σm : qM} (h : RD β σc σm) {k j : Nat} (hk : k < 8) (hj : j < 2) : SimD β ((fX0_settled σc).bind fun q5 => (fX0_turnsThatHold q5 (nI k)).bind fun q6 => if nI j = 1 then (some (q6.1, q6.2))
  else (if q6.1 = -1 then (some ((0 : Int32), q6.2))
  else (some ((1 : Int32), q6.2)))) (fX5_sidesOf σm (nI k) (nI j)) := by
  refine askD h (sdV (vw β) k j 4 0) (setp h _ (fun σ _ _ hu => ?_)) (sidesOf_ok h.ms hk hj)
  rw [show fX0_turnsThatHold σ (nI k) = some (fs (hdB (vw β) k) 4 0, σ) from holdC (vw_ok h.1) hu hk qFU 0 (by omega) (by rw [qFU_eq]; omega)]
  simp only [Option.bind_some]
  unfold sdV
  rcases (show j = 0 ∨ j = 1 by omega) with rfl | rfl
  · rw [if_neg (show ¬ nI 0 = (1 : Int32) by decide), if_pos rfl]
    by_cases c : fs (hdB (vw β) k) 4 0 = -1
    · rw [if_pos c, if_pos c]
    · rw [if_neg c, if_neg c]
  · rw [if_pos (show nI 1 = (1 : Int32) from rfl), if_neg (by decide)]
theorem sidesX {β : qB} {σc σm : qM} (h : RD β σc σm) {k j : Nat} (hk : k < 8) (hj : j < 2) : SimD β (fX4_sides σc (nI k) (nI j)) (fX5_sidesOf σm (nI k) (nI j)) := by
  unfold fX4_sides
  rw [show (8 : Int32) = nI 8 from rfl, show (2 : Int32) = nI 2 from rfl, bnd_1 ((below_ok σc (nI k) 8 (by decide)).1 (bl_nI hk (by decide))) (by decide)]
  dsimp only
  rw [bnd_1 ((below_ok σc (nI j) 2 (by decide)).1 (bl_nI hj (by decide))) (by decide)]
  exact sidesD h hk hj
theorem sim_sides {σc σm : qM} (h : RR σc σm) (x1 x2 : Int32) : Sim (fX4_sides σc x1 x2) (fX5_sides σm x1 x2) := by
  unfold fX5_sides
  refine sim_q h (fun β σ1 hR => ?_)
  unfold fX4_sides
  refine simD_test (t1 := fun σ => fX4_below σ x1 8) (t2 := fun σ => fX5_isLaw σ x1) (t_below x1 8 (by decide)) (t_law x1) hR (fun h1 => ?_)
  refine simD_test (t1 := fun σ => fX4_below σ x2 2) (t2 := fun σ => fX5_isTwo σ x2) (t_below x2 2 (by decide)) (t_two x2) hR (fun h2 => ?_)
  obtain ⟨k, hk, rfl⟩ := bl_of h1 (by decide)
  obtain ⟨j, hj, rfl⟩ := bl_of h2 (by decide)
  dsimp only
  rw [bind_id]
  exact sidesD hR hk hj

/-! ===== PURE: copying and taking ===== -/
theorem bnd_0 {R : Type} {X : Option (Int32 × qM)} {A L : Int32 × qM → Option R} {σ : qM} (h : X = some (0, σ)) : (X.bind fun q => if q.1 = 0 then A q else L q) = A (0, σ) := by
  subst h
  show (if (0 : Int32) = 0 then A (0, σ) else L (0, σ)) = A (0, σ)
  rw [if_pos rfl]
theorem bnd_1 {R : Type} {X : Option (Int32 × qM)} {A L : Int32 × qM → Option R} {σ : qM} {r : Int32} (h : X = some (r, σ)) (hr : ¬ r = 0) : (X.bind fun q => if q.1 = 0 then A q else L q) = L (r, σ) := by
  subst h
  show (if r = 0 then A (r, σ) else L (r, σ)) = L (r, σ)
  rw [if_neg hr]
def hasP (x y : Int32) (z : Nat) : Prop := ∃ a n, x = nI a ∧ y = nI n ∧ a + n ≤ z
theorem has_ok {σ : qM} {o z : Nat} (h : σ o 2 = nI z) (hz : z ≤ 60) (x y : Int32) : (hasP x y z → fX2_has σ o x y = some (1, σ)) ∧ (¬ hasP x y z → fX2_has σ o x y = some (0, σ)) := by
  unfold fX2_has
  rw [h]
  by_cases c1 : x < 0
  · rw [if_pos c1]
    refine ⟨fun ⟨a, n, q, _, hs⟩ => ?_, fun _ => rfl⟩
    rw [q] at c1
    exact absurd c1 (nI_pos (by omega))
  · rw [if_neg c1]
    obtain ⟨a, ha, rfl⟩ := nI_of c1
    by_cases c2 : y < 0
    · rw [if_pos c2]
      refine ⟨fun ⟨a, n, _, q, hs⟩ => ?_, fun _ => rfl⟩
      rw [q] at c2
      exact absurd c2 (nI_pos (by omega))
    · rw [if_neg c2]
      obtain ⟨n, hn, rfl⟩ := nI_of c2
      have key : hasP (nI a) (nI n) z ↔ a + n ≤ z := by
        refine ⟨fun ⟨a2, n2, q1, q2, hs⟩ => ?_, fun q => ⟨a, n, rfl, rfl, q⟩⟩
        have := (nI_eq ha (by omega)).mp q1
        have := (nI_eq hn (by omega)).mp q2
        omega
      by_cases c3 : z < a
      · rw [if_pos (nI_lt c3 ha)]
        exact ⟨fun q => by have := key.mp q; omega, fun _ => rfl⟩
      · rw [if_neg (nI_nlt (by omega) (by omega)), pk_sub (by omega)]
        by_cases c4 : z - a < n
        · rw [if_pos (nI_lt c4 hn)]
          exact ⟨fun q => by have := key.mp q; omega, fun _ => rfl⟩
        · rw [if_neg (nI_nlt (by omega) (by omega))]
          exact ⟨fun _ => rfl, fun q => absurd (key.mpr (by omega)) q⟩
/-- the reference's two loops -/
theorem cpA_ok (σ : qM) (s a t b n : Nat) (hs : s < 4) (ha : a + n ≤ 60) (P : Int32 × qM → Prop) (hk : ∀ σ' : qM, (∀ c, ¬ c = 4 → σ' c = σ c) → (∀ i, i < n → σ' 4 i = σ 3 (60 * s + a + i)) → qok (fX5_copy_157 σ' (nI t) (nI b) (nI n) 0) P) : qok (fX5_copy_120 σ (nI s) (nI a) (nI t) (nI b) (nI n) 0) P := by
  refine qok_lp7 (z := fun _ _ _ _ _ _ _ => none) (b := bX5_copy_120) (fun m σ1 x1 x2 x3 x4 x5 x6 => x1 = nI s ∧ x2 = nI a ∧ x3 = nI t ∧ x4 = nI b ∧ x5 = nI n ∧ ∃ k, k ≤ n ∧ m = n - k ∧ x6 = nI k ∧ (∀ c, ¬ c = 4 → σ1 c = σ c) ∧ ∀ i, i < k → σ1 4 i = σ 3 (60 * s + a + i)) ?_ qFU (n - 0) σ _ _ _ _ _ 0 (by rw [qFU_eq]; omega) ⟨rfl, rfl, rfl, rfl, rfl, 0, by omega, rfl, rfl, fun _ _ => rfl, fun i hi => by omega⟩
  rintro m k ih σ1 x1 x2 x3 x4 x5 x6 ⟨rfl, rfl, rfl, rfl, rfl, j, j1, rfl, rfl, f1, f2⟩
  unfold bX5_copy_120
  by_cases e : j = n
  · subst e
    exact qok_t (nI_le (Nat.le_refl _) (by omega)) (hk σ1 f1 f2)
  · refine qok_f (nI_ge (by omega) (by omega)) ?_
    rw [show ((60 : Int32) * nI s + nI a) + nI j = nI (60 * s + a + j) from by rw [show (60 : Int32) * nI s = nI (60 * s) from pk_mul 60 s, nI_add, nI_add]]
    refine qok_t (qin_of (by omega) (by decide)) (qok_t (qin_of (by omega) (by decide)) ?_)
    rw [nI_clamp (by omega), nI_clamp (by omega), nI_1, f1 3 (by decide)]
    refine ih (n - (j + 1)) _ _ _ _ _ _ _ (by omega) ⟨rfl, rfl, rfl, rfl, rfl, j + 1, by omega, rfl, rfl, fun c hc => by rw [qup_ne _ _ _ hc, f1 c hc], fun i hi => ?_⟩
    rw [qup_eq, upd_at]
    by_cases e2 : i = j
    · rw [if_pos e2, e2]
    · rw [if_neg e2]; exact f2 i (by omega)
theorem cpB_ok (σ : qM) (t b n : Nat) (ht : t < 4) (hb : b + n ≤ 60) : qok (fX5_copy_157 σ (nI t) (nI b) (nI n) 0) (fun q => q.1 = 1 ∧ (∀ c, ¬ c = 3 → q.2 c = σ c) ∧ ∀ i, q.2 3 i = if 60 * t + b ≤ i ∧ i < 60 * t + b + n then σ 4 (i - (60 * t + b)) else σ 3 i) := by
  refine qok_lp5 (z := fun _ _ _ _ _ => none) (b := bX5_copy_157) (fun m σ1 x3 x4 x5 x6 => x3 = nI t ∧ x4 = nI b ∧ x5 = nI n ∧ ∃ k, k ≤ n ∧ m = n - k ∧ x6 = nI k ∧ (∀ c, ¬ c = 3 → σ1 c = σ c) ∧ ∀ i, σ1 3 i = if 60 * t + b ≤ i ∧ i < 60 * t + b + k then σ 4 (i - (60 * t + b)) else σ 3 i) ?_ qFU (n - 0) σ _ _ _ 0 (by rw [qFU_eq]; omega) ⟨rfl, rfl, rfl, 0, by omega, rfl, rfl, fun _ _ => rfl, fun i => by rw [if_neg (by omega)]⟩
  rintro m k ih σ1 x3 x4 x5 x6 ⟨rfl, rfl, rfl, j, j1, rfl, rfl, f1, f2⟩
  unfold bX5_copy_157
  by_cases e : j = n
  · subst e
    exact qok_t (nI_le (Nat.le_refl _) (by omega)) (qok_some ⟨rfl, f1, f2⟩)
  · refine qok_f (nI_ge (by omega) (by omega)) (qok_t (qin_of (by omega) (by decide)) ?_)
    rw [show ((60 : Int32) * nI t + nI b) + nI j = nI (60 * t + b + j) from by rw [show (60 : Int32) * nI t = nI (60 * t) from pk_mul 60 t, nI_add, nI_add]]
    refine qok_t (qin_of (by omega) (by decide)) ?_
    rw [nI_clamp (by omega), nI_clamp (by omega), nI_1, f1 4 (by decide)]
    refine ih (n - (j + 1)) _ _ _ _ _ (by omega) ⟨rfl, rfl, rfl, j + 1, by omega, rfl, rfl, fun c hc => by rw [qup_ne _ _ _ hc, f1 c hc], fun i => ?_⟩
    rw [qup_eq, upd_at, f2]
    by_cases e2 : i = 60 * t + b + j
    · rw [if_pos e2, if_pos (by omega)]; congr 1; omega
    · rw [if_neg e2]
      by_cases e3 : 60 * t + b ≤ i ∧ i < 60 * t + b + j
      · rw [if_pos e3, if_pos (by omega)]
      · rw [if_neg e3, if_neg (by omega)]
theorem rr_copy {σc σm σm' : qM} (h : RR σc σm) {s t a b n z1 z2 f : Nat} (hs : s < 4) (ht : t < 4) (hf : f < 3) (h1 : σm 1 t = nI f) (ha : a + n ≤ z1) (hb : b + n ≤ z2) (hz1 : z1 ≤ 60) (hz2 : z2 ≤ 60) (c2 : σc (44 + 2 * t) 2 = nI z2) (m2 : σm 2 t = nI z2) (u1 : ∀ i, i < z1 → σc (45 + 2 * s) i = σm 3 (60 * s + i)) (u2 : ∀ i, i < z2 → σc (45 + 2 * t) i = σm 3 (60 * t + i)) (g1 : ∀ c, ¬ c = 3 → ¬ c = 4 → σm' c = σm c) (g2 : ∀ i, σm' 3 i = if 60 * t + b ≤ i ∧ i < 60 * t + b + n then σm 3 (60 * s + a + (i - (60 * t + b))) else σm 3 i) : RR (qset σc (44 + 2 * t + 1) (va_cpy (σc (44 + 2 * s + 1)) (σc (44 + 2 * t + 1)) a b n)) σm' := by
  refine newsh1 h ht (fun c c1 c2 => qset_n _ _ (by omega)) (fun c c1 c2 c3 c4 => g1 c c3 c4) (fun q hq => ⟨by rw [g1 1 (by decide) (by decide)], by rw [g1 2 (by decide) (by decide)], fun i hi => by rw [g2, if_neg (by omega)]⟩) ?_ (Or.inr ⟨f, hf, ?_, z2, hz2, ?_, ?_, fun i hi => ?_⟩)
  · rw [qset_n _ _ (by omega), g1 1 (by decide) (by decide)]; exact (h.sh.2 t ht).1
  · rw [g1 1 (by decide) (by decide)]; exact h1
  · rw [qset_n _ _ (by omega)]; exact c2
  · rw [g1 2 (by decide) (by decide)]; exact m2
  · rw [show 45 + 2 * t = 44 + 2 * t + 1 by omega, qset_s, g2, show 44 + 2 * t + 1 = 45 + 2 * t by omega, show 44 + 2 * s + 1 = 45 + 2 * s by omega]
    by_cases e : b ≤ i ∧ i < b + n
    · rw [pk_cpy_in e.1 e.2, if_pos (by omega), u1 _ (by omega)]
      congr 1
      omega
    · rw [pk_cpy_out (by omega), if_neg (by omega), u2 i hi]
theorem sim_copy0 {σc σm : qM} (h : RR σc σm) {s t z1 z2 f : Nat} (hs : s < 4) (ht : t < 4) (hf : f < 3) (h1 : σm 1 t = nI f) (hz1 : z1 ≤ 60) (hz2 : z2 ≤ 60) (c1 : σc (44 + 2 * s) 2 = nI z1) (c2 : σc (44 + 2 * t) 2 = nI z2) (m1 : σm 2 s = nI z1) (m2 : σm 2 t = nI z2) (u1 : ∀ i, i < z1 → σc (45 + 2 * s) i = σm 3 (60 * s + i)) (u2 : ∀ i, i < z2 → σc (45 + 2 * t) i = σm 3 (60 * t + i)) (x2 x4 x5 : Int32) : Sim ((fX2_has σc (44 + 2 * s) x2 x5).bind fun q12 => if q12.1 = 0 then (fX4_copy_99 q12.2)
  else ((fX2_has q12.2 (44 + 2 * t) x4 x5).bind fun q14 => if q14.1 = 0 then (fX4_copy_99 q14.2)
  else (if ¬ x2 < 0 ∧ ¬ x4 < 0 ∧ ¬ x5 < 0 ∧ x2.toNatClampNeg + x5.toNatClampNeg ≤ 60 ∧ x4.toNatClampNeg + x5.toNatClampNeg ≤ 60 then some ((1 : Int32), qset q14.2 ((44 + 2 * t) + 1) (va_cpy (q14.2 ((44 + 2 * s) + 1)) (q14.2 ((44 + 2 * t) + 1)) x2.toNatClampNeg x4.toNatClampNeg x5.toNatClampNeg)) else none)))
    (if x2 < 0 then (fX5_copy_111 σm)
  else (if x4 < 0 then (fX5_copy_111 σm)
  else (if x5 < 0 then (fX5_copy_111 σm)
  else (if 0 < (lg_cmp (x2.toInt64 + x5.toInt64) ((σm 2 s).toInt64)) then (fX5_copy_111 σm)
  else (if (lg_cmp (x4.toInt64 + x5.toInt64) ((σm 2 t).toInt64)) ≤ 0 then (fX5_copy_120 σm (nI s) x2 (nI t) x4 x5 0)
  else (fX5_copy_111 σm)))))) := by
  have hno : Sim (fX4_copy_99 σc) (fX5_copy_111 σm) := sim_finds h 2
  have hA := has_ok c1 hz1 x2 x5
  have hB := has_ok c2 hz2 x4 x5
  by_cases p1 : hasP x2 x5 z1
  · rw [bnd_1 (hA.1 p1) (by decide)]
    obtain ⟨a, n, rfl, rfl, ha⟩ := p1
    dsimp only
    rw [if_neg (show ¬ nI a < 0 from nI_pos (by omega)), if_neg (show ¬ nI n < 0 from nI_pos (by omega))]
    by_cases p2 : hasP x4 (nI n) z2
    · rw [bnd_1 (hB.1 p2) (by decide)]
      obtain ⟨b, n2, rfl, e, hb⟩ := p2
      have hn : n = n2 := (nI_eq (by omega) (by omega)).mp e
      subst hn
      dsimp only
      rw [if_neg (show ¬ nI b < 0 from nI_pos (by omega)), m1, m2, nI_l (show a < 2 ^ 31 by omega), nI_l (show b < 2 ^ 31 by omega), nI_l (show n < 2 ^ 31 by omega), nI_l (show z1 < 2 ^ 31 by omega), nI_l (show z2 < 2 ^ 31 by omega), lN_add, lN_add]
      rw [if_neg (show ¬ 0 < lg_cmp (lN (a + n)) (lN z1) from fun q => by rw [lg_cmp_gt, lN_lt (by omega) (by omega)] at q; omega), if_pos (show lg_cmp (lN (b + n)) (lN z2) ≤ 0 from by rw [lg_cmp_le, lN_le (by omega) (by omega)]; exact hb)]
      rw [nI_clamp (by omega), nI_clamp (by omega), nI_clamp (by omega), if_pos ⟨nI_pos (by omega), nI_pos (by omega), nI_pos (by omega), by omega, by omega⟩]
      obtain ⟨⟨r, σ'⟩, e0, e1, e2, e3⟩ := cpA_ok σm s a t b n hs (by omega) (fun q => q.1 = 1 ∧ (∀ c, ¬ c = 3 → ¬ c = 4 → q.2 c = σm c) ∧ ∀ i, q.2 3 i = if 60 * t + b ≤ i ∧ i < 60 * t + b + n then σm 3 (60 * s + a + (i - (60 * t + b))) else σm 3 i) (fun σ1 g1 g2 => by
        refine qok_mono (cpB_ok σ1 t b n ht (by omega)) ?_
        rintro ⟨r, σ2⟩ ⟨k1, k2, k3⟩
        refine ⟨k1, fun c c3 c4 => by rw [k2 c c3, g1 c c4], fun i => ?_⟩
        rw [k3]
        by_cases q : 60 * t + b ≤ i ∧ i < 60 * t + b + n
        · rw [if_pos q, if_pos q, g2 _ (by omega)]
        · rw [if_neg q, if_neg q, g1 3 (by decide)])
      dsimp only at e1 e2 e3
      subst e1
      rw [e0]
      exact ⟨_, _, _, rfl, rfl, rr_copy h hs ht hf h1 ha hb hz1 hz2 c2 m2 u1 u2 e2 e3⟩
    · rw [bnd_0 (hB.2 p2)]
      by_cases c : x4 < 0
      · rw [if_pos c]; exact hno
      · obtain ⟨b, hb, rfl⟩ := nI_of c
        rw [if_neg c, m1, m2, nI_l (show a < 2 ^ 31 by omega), nI_l (show b < 2 ^ 31 by omega), nI_l (show n < 2 ^ 31 by omega), nI_l (show z1 < 2 ^ 31 by omega), nI_l (show z2 < 2 ^ 31 by omega), lN_add, lN_add]
        rw [if_neg (show ¬ 0 < lg_cmp (lN (a + n)) (lN z1) from fun q => by rw [lg_cmp_gt, lN_lt (by omega) (by omega)] at q; omega), if_neg (show ¬ lg_cmp (lN (b + n)) (lN z2) ≤ 0 from fun q => by rw [lg_cmp_le, pk_lLE (by omega) (by omega)] at q; exact p2 ⟨b, n, rfl, rfl, q⟩)]
        exact hno
  · rw [bnd_0 (hA.2 p1)]
    by_cases q1 : x2 < 0
    · rw [if_pos q1]; exact hno
    · rw [if_neg q1]
      by_cases q2 : x4 < 0
      · rw [if_pos q2]; exact hno
      · rw [if_neg q2]
        by_cases q3 : x5 < 0
        · rw [if_pos q3]; exact hno
        · obtain ⟨a, ha, rfl⟩ := nI_of q1
          obtain ⟨n, hn, rfl⟩ := nI_of q3
          rw [if_neg q3, m1, nI_l ha, nI_l hn, nI_l (show z1 < 2 ^ 31 by omega), lN_add, if_pos (show 0 < lg_cmp (lN (a + n)) (lN z1) from by
            rw [lg_cmp_gt, pk_lLT (by omega) (by omega)]
            by_cases w : a + n ≤ z1
            · exact absurd ⟨a, n, rfl, rfl, w⟩ p1
            · omega)]
          exact hno
theorem sim_copy {σc σm : qM} (h : RR σc σm) (x1 x2 x3 x4 x5 : Int32) : Sim (fX4_copy σc x1 x2 x3 x4 x5) (fX5_copy σm x1 x2 x3 x4 x5) := by
  unfold fX4_copy fX5_copy
  refine sim_test (t1 := fun σ => fX4_below σ x1 4) (t2 := fun σ => fX5_isSheet σ x1) (t_below x1 4 (by decide)) (t_sheet x1) h (fun h1 => ?_)
  refine sim_test (t1 := fun σ => fX4_below σ x3 4) (t2 := fun σ => fX5_isSheet σ x3) (t_below x3 4 (by decide)) (t_sheet x3) h (fun h2 => ?_)
  obtain ⟨s, hs, rfl⟩ := bl_of h1 (by decide)
  obtain ⟨t, ht, rfl⟩ := bl_of h2 (by decide)
  dsimp only
  simp only [nI_clamp (show s < 2 ^ 31 by omega), nI_clamp (show t < 2 ^ 31 by omega), if_pos (qin_of hs (by decide : 4 < 2 ^ 31)), if_pos (qin_of ht (by decide : 4 < 2 ^ 31))]
  have hno : Sim (fX4_copy_51 σc) (fX5_copy_35 σm) := sim_finds h 1
  obtain ⟨e1, e2⟩ := h.sh.2 s hs
  rcases e2 with e2 | ⟨f, hf, e2, z1, hz1, e3, e4, e5⟩
  · rw [bnd_1 (isLost_t (e1.trans e2)) (by decide), e2, if_pos (show (-1 : Int32) < 0 by decide)]
    exact hno
  · rw [bnd_0 (isLost_f (e1.trans e2) hf), e2, if_neg (show ¬ nI f < 0 from nI_pos (by omega))]
    obtain ⟨i1, i2⟩ := h.sh.2 t ht
    rcases i2 with i2 | ⟨g, hg, i2, z2, hz2, i3, i4, i5⟩
    · rw [bnd_1 (isLost_t (i1.trans i2)) (by decide), i2, if_neg (show ¬ (0 : Int32) ≤ -1 by decide)]
      exact hno
    · rw [bnd_0 (isLost_f (i1.trans i2) hg), i2, if_pos (nI_pos' (by omega))]
      dsimp only
      simp only [e1.trans e2, i1.trans i2]
      by_cases c : f = g
      · subst c
        rw [if_pos rfl, if_pos rfl]
        exact sim_copy0 h hs ht hf i2 hz1 hz2 e3 i3 e4 i4 e5 i5 x2 x4 x5
      · rw [if_neg (fun q => c ((nI_eq (by omega) (by omega)).mp q)), if_neg (fun q => c ((nI_eq (by omega) (by omega)).mp q))]
        exact sim_finds h 4
theorem read5_fr {σ σ' : qM} {x y r : Int32} (h : fX5_read σ x y = some (r, σ')) : σ' 1 = σ 1 ∧ σ' 2 = σ 2 := by
  unfold fX5_read at h
  have h1 := t_turns x σ
  have h2 := t_laws y σ
  dsimp only at h1 h2
  by_cases c1 : bl x 4
  · rw [bnd_1 (h1.1 c1) (by decide)] at h
    dsimp only at h
    by_cases c2 : bl y 256
    · rw [bnd_1 (h2.1 c2) (by decide)] at h
      unfold fX5_read_41 fX5_read_55 fX5_read_65 at h
      dsimp only at h
      split at h
      · cases h; exact ⟨rfl, rfl⟩
      · split at h
        · split at h
          · cases h
            exact ⟨by rw [qup_ne _ _ _ (by decide), qup_ne _ _ _ (by decide), qup_ne _ _ _ (by decide)], by rw [qup_ne _ _ _ (by decide), qup_ne _ _ _ (by decide), qup_ne _ _ _ (by decide)]⟩
          · cases h
        · cases h
    · rw [bnd_0 (h2.2 c2)] at h
      cases h; exact ⟨rfl, rfl⟩
  · rw [bnd_0 (h1.2 c1)] at h
    cases h; exact ⟨rfl, rfl⟩
theorem take_ok (s f z : Nat) (hs : s < 4) (hf : f < 3) (hz : z ≤ 60) : ∀ (d i n1 n2 : Nat) (σc σm : qM), d = z - 2 * i → 2 * i ≤ z + 1 → d < n1 → d + 1 < n2 → RR σc σm → σm 1 s = nI f → σm 2 s = nI z → Sim (qlp (fun _ _ _ _ => none) bX4_take_36 n1 σc (44 + 2 * s) (nI i) (nI (2 * i))) (qlp (fun _ _ _ _ => none) bX5_take_29 n2 σm (nI s) (nI i) 1) := by
  intro d
  induction d using Nat.strongRecOn with
  | _ d ih =>
    intro i n1 n2 σc σm hd hi h1 h2 hR e1 e2
    obtain ⟨m1, rfl⟩ : ∃ m, n1 = m + 1 := ⟨n1 - 1, by omega⟩
    obtain ⟨m2, rfl⟩ : ∃ m, n2 = m + 1 + 1 := ⟨n2 - 2, by omega⟩
    obtain ⟨u1, u2⟩ := hR.sh.2 s hs
    rcases u2 with u2 | ⟨g, hg, u2, w, hw, u3, u4, u5⟩
    · rw [e1] at u2
      exact absurd u2 (nI_m1 (by omega))
    have hwz : w = z := (nI_eq (by omega) (by omega)).mp (u4.symm.trans e2)
    subst hwz
    rw [qlp_succ, qlp_succ]
    generalize hk1 : qlp (fun _ _ _ _ => none) bX4_take_36 m1 = k1
    generalize hk2 : qlp (fun _ _ _ _ => none) bX5_take_29 (m2 + 1) = k2
    unfold bX4_take_36 bX5_take_29
    rw [if_neg (show ¬ (1 : Int32) = 0 by decide), if_pos (qin_of hs (by decide)), nI_clamp (show s < 2 ^ 31 by omega), u3, e2, nI_1, show (2 : Int32) * nI i = nI (2 * i) from pk_mul 2 i, show nI (2 * i) + 2 = nI (2 * i + 2) from nI_add _ 2]
    by_cases c : w ≤ 2 * i + 1
    · rw [if_pos (nI_le c (by omega)), if_pos (nI_lt (by omega) (by omega))]
      exact ⟨_, _, _, rfl, rfl, hR⟩
    · rw [if_neg (nI_ge (by omega) (by omega)), if_neg (nI_nlt (by omega) (by omega)), if_pos (qin_of (by omega) (by decide)), if_pos (qin_of (by omega) (by decide)), show (60 : Int32) * nI s + nI (2 * i) = nI (60 * s + 2 * i) from by rw [show (60 : Int32) * nI s = nI (60 * s) from pk_mul 60 s, nI_add], if_pos (qin_of (by omega) (by decide)), show nI (60 * s + 2 * i) + 1 = nI (60 * s + 2 * i + 1) from nI_1 _, if_pos (qin_of (by omega) (by decide)), nI_clamp (show 2 * i < 2 ^ 31 by omega), nI_clamp (show 2 * i + 1 < 2 ^ 31 by omega), nI_clamp (show 60 * s + 2 * i < 2 ^ 31 by omega), nI_clamp (show 60 * s + 2 * i + 1 < 2 ^ 31 by omega), show 44 + 2 * s + 1 = 45 + 2 * s by omega, u5 _ (by omega), u5 _ (by omega), show 60 * s + (2 * i + 1) = 60 * s + 2 * i + 1 by omega]
      obtain ⟨r, s1, s2, q1, q2, q3⟩ := sim_read hR (σm 3 (60 * s + 2 * i)) (σm 3 (60 * s + 2 * i + 1))
      obtain ⟨f1, f2⟩ := read5_fr q2
      rw [q1, q2]
      simp only [Option.bind_some]
      unfold fX5_take_87 fX5_take_98 fX5_take_100
      by_cases c2 : r < 0
      · rw [if_neg (show ¬ 0 ≤ r from fun q => by rw [fa_le] at q; rw [fa_lt] at c2; omega), if_pos c2, if_pos rfl, ← hk2, qlp_succ]
        unfold bX5_take_29
        rw [if_pos rfl, Int32.add_zero]
        exact ⟨_, _, _, rfl, rfl, q3⟩
      · rw [if_pos (show 0 ≤ r from by rw [fa_le]; rw [fa_lt] at c2; omega), if_neg c2, if_neg (show ¬ (1 : Int32) = 0 by decide), nI_1, ← hk1, ← hk2]
        exact ih (w - 2 * (i + 1)) (by omega) (i + 1) m1 (m2 + 1) s1 s2 rfl (by omega) (by omega) (by omega) q3 (by rw [f1, e1]) (by rw [f2, e2])
theorem sim_take {σc σm : qM} (h : RR σc σm) (x1 : Int32) : Sim (fX4_take σc x1) (fX5_take σm x1) := by
  unfold fX4_take fX5_take
  refine sim_test (t1 := fun σ => fX4_below σ x1 4) (t2 := fun σ => fX5_isSheet σ x1) (t_below x1 4 (by decide)) (t_sheet x1) h (fun h1 => ?_)
  obtain ⟨s, hs, rfl⟩ := bl_of h1 (by decide)
  dsimp only
  simp only [nI_clamp (show s < 2 ^ 31 by omega), if_pos (qin_of hs (by decide : 4 < 2 ^ 31))]
  refine sim_lost h hs (fun f z hf hz e1 e2 e3 e4 e5 => ?_) (sim_finds h 1)
  exact take_ok s f z hs hf hz z 0 qFU qFU σc σm (by omega) (by omega) (by rw [qFU_eq]; omega) (by rw [qFU_eq]; omega) h e1 e4

/-! ===== PURE: the reference's pairs, lays, applies, readings ===== -/
theorem or0 (x : Int32) : x ||| 0 = x := by
  rw [← Int32.toBitVec_inj, Int32.toBitVec_or]
  exact BitVec.or_zero
theorem pairStep {σ : qM} {V : qV} {Y : qL} (hV : v_ok V) (hY : y_ok Y) (hq : rqm σ V) (hy : lym σ Y) {k a b : Nat} (hk : k < v_r V) (ha : a < y_n Y) (hb : b < y_n Y) (k2 : qM → Int32 → Int32 → Option qM) (kk : qM → Int32 → Int32 → Int32 → Int32 → Option qM) (x3 : Int32) :
    bX5_pairs_15 k2 kk σ (nI k) (nI a) x3 (nI b) = kk σ (nI k) (nI a) (x3 ||| (if pa V Y k a b = true then jshl 1 (nI b) else 0)) (nI (b + 1)) := by
  have h10 := hV.2.1
  have h13 := hY.1
  obtain ⟨q0, q1, q2, -, -⟩ := hV.2.2.2.2.1 k hk
  obtain ⟨a1, -, -⟩ := hY.2 a ha
  obtain ⟨b1, -, -⟩ := hY.2 b hb
  have no : ∀ x : Int32, fX5_pairs_79 k2 kk σ (nI k) (nI a) x (nI b) = kk σ (nI k) (nI a) (x ||| 0) (nI (b + 1)) := by
    intro x
    unfold fX5_pairs_79 fX5_pairs_80 fX5_pairs_115 fX5_pairs_116 fX5_pairs_118
    rw [if_pos rfl, show nI b + 1 = nI (b + 1) from nI_1 b]
  unfold bX5_pairs_15
  rw [hy.1, if_neg (nI_ge hb (by omega))]
  unfold pa
  by_cases e : a = b
  · subst e
    rw [if_pos rfl, no, if_neg (by simp)]
  · rw [if_neg (fun q => e ((nI_eq (by omega) (by omega)).mp q))]
    simp only [show (3 : Int32) * nI a = nI (3 * a) from pk_mul 3 a, show (3 : Int32) * nI b = nI (3 * b) from pk_mul 3 b, show (5 : Int32) * nI k = nI (5 * k) from pk_mul 5 k, show nI (3 * a) + 2 = nI (3 * a + 2) from nI_add _ 2, show nI (3 * b) + 2 = nI (3 * b + 2) from nI_add _ 2, show nI (5 * k) + 2 = nI (5 * k + 2) from nI_add _ 2, nI_clamp (show 3 * a + 2 < 2 ^ 31 by omega), nI_clamp (show 3 * b + 2 < 2 ^ 31 by omega), nI_clamp (show 5 * k < 2 ^ 31 by omega), nI_clamp (show 5 * k + 2 < 2 ^ 31 by omega), (hy.2 a ha).1, (hy.2 b hb).1, hq.2.1 k 2 hk (by decide), show σ 8 (5 * k) = nI (v_q V k 0) from hq.2.1 k 0 hk (by decide)]
    rw [if_pos (qin_of (by omega) (by decide)), if_pos (qin_of (by omega) (by decide)), if_pos (qin_of (by omega) (by decide)), if_pos (qin_of (by omega) (by decide))]
    by_cases e1 : y_s Y a = v_q V k 0
    · rw [if_pos (by rw [e1])]
      by_cases e2 : y_s Y b = v_q V k 2
      · rw [if_pos (by rw [e2])]
        unfold fX5_pairs_80 fX5_pairs_115 fX5_pairs_116 fX5_pairs_118
        simp only [show (5 : Int32) * nI k = nI (5 * k) from pk_mul 5 k, show nI (5 * k) + 1 = nI (5 * k + 1) from nI_1 _, nI_clamp (show 5 * k + 1 < 2 ^ 31 by omega), hq.2.1 k 1 hk (by decide), lieSo_ok hY hy q1 ha hb, Option.bind_some]
        rw [if_neg (by decide), if_pos (qin_of (by omega) (by decide)), show nI b + 1 = nI (b + 1) from nI_1 b]
        cases hl : lieB (v_q V k 1) (y_c Y a) (y_r Y a) (y_c Y b) (y_r Y b) with
        | true => rw [if_neg (by decide), if_pos (by simp [e, e1, e2])]
        | false => rw [if_pos (by decide), if_neg (by simp)]
      · rw [if_neg (fun q => e2 ((nI_eq (by omega) (by omega)).mp q)), no, if_neg (by simp [e2])]
    · rw [if_neg (fun q => e1 ((nI_eq (by omega) (by omega)).mp q)), no, if_neg (by simp [e1])]
theorem mk_or {f : Nat → Bool} {b : Nat} (hb : b < 31) : nI (mk f b) ||| (if f b = true then jshl 1 (nI b) else 0) = nI (mk f (b + 1)) := by
  rw [mk]
  by_cases h : f b = true
  · rw [if_pos h, if_pos h, jshl1 hb, fa_or]
  · rw [if_neg h, if_neg h, or0, Nat.or_zero]
theorem pairIn {σ : qM} {V : qV} {Y : qL} (hV : v_ok V) (hY : y_ok Y) (hq : rqm σ V) (hy : lym σ Y) {k a : Nat} (hk : k < v_r V) (ha : a < y_n Y) (k2 : qM → Int32 → Int32 → Option qM) : ∀ n b, b ≤ y_n Y → y_n Y - b < n → qlp (fun _ _ _ _ _ => none) (bX5_pairs_15 k2) n σ (nI k) (nI a) (nI (mk (pa V Y k a) b)) (nI b) = k2 (qup σ 14 (13 * k + a) (nI (wm V Y k a))) (nI k) (nI (a + 1)) := by
  have h10 := hV.2.1
  have h13 := hY.1
  intro n
  induction n with
  | zero => intro b h1 h2; omega
  | succ n ih =>
    intro b h1 h2
    rw [qlp_succ]
    by_cases e : b = y_n Y
    · subst e
      unfold bX5_pairs_15
      rw [hy.1, if_pos (nI_le (Nat.le_refl _) (by omega)), show (13 : Int32) * nI k = nI (13 * k) from pk_mul 13 k, nI_add, if_pos (qin_of (by omega) (by decide)), nI_clamp (by omega), show nI a + 1 = nI (a + 1) from nI_1 a]
      rfl
    · rw [pairStep hV hY hq hy hk ha (by omega), mk_or (by omega)]
      exact ih (b + 1) (by omega) (by omega)
/-- only cell 14 is written -/
def fr14 (σ σ' : qM) : Prop := ∀ a, ¬ a = 14 → σ' a = σ a
theorem rqm.f14 {V : qV} {σ σ' : qM} (h : rqm σ V) (g : fr14 σ σ') : rqm σ' V := by unfold rqm; rw [g 0 (by decide), g 8 (by decide), g 9 (by decide)]; exact h
theorem lym.f14 {Y : qL} {σ σ' : qM} (h : lym σ Y) (g : fr14 σ σ') : lym σ' Y := by unfold lym; rw [g 0 (by decide), g 7 (by decide), g 12 (by decide), g 13 (by decide)]; exact h
theorem pairs_ok {σ0 : qM} {V : qV} {Y : qL} (hV : v_ok V) (hY : y_ok Y) (hq : rqm σ0 V) (hy : lym σ0 Y) {k : Nat} (hk : k < v_r V) : qok (fX5_pairs σ0 (nI k)) (fun σ' => fr14 σ0 σ' ∧ (∀ i, i < 13 * k → σ' 14 i = σ0 14 i) ∧ ∀ a, a < y_n Y → σ' 14 (13 * k + a) = nI (wm V Y k a)) := by
  have h13 := hY.1
  unfold fX5_pairs fX5_pairs_2
  refine qok_lp3 (fun m σ x1 x2 => ∃ a, m = y_n Y - a ∧ a ≤ y_n Y ∧ x1 = nI k ∧ x2 = nI a ∧ fr14 σ0 σ ∧ (∀ i, i < 13 * k → σ 14 i = σ0 14 i) ∧ ∀ b, b < a → σ 14 (13 * k + b) = nI (wm V Y k b)) ?_ qFU (y_n Y) σ0 (nI k) 0 (by rw [qFU_eq]; omega) ⟨0, rfl, by omega, rfl, rfl, fun _ _ => rfl, fun _ _ => rfl, fun b h => by omega⟩
  rintro m kk ih σ x1 x2 ⟨a, hm, ha, rfl, rfl, hf, ho, hw⟩
  unfold bX5_pairs_2 fX5_pairs_15
  rw [(hy.f14 hf).1]
  by_cases e : a = y_n Y
  · subst e
    exact qok_t (nI_le (Nat.le_refl _) (by omega)) (qok_some ⟨hf, ho, hw⟩)
  · refine qok_f (nI_ge (by omega) (by omega)) ?_
    rw [show (0 : Int32) = nI (mk (pa V Y k a) 0) from rfl, show nI (mk (pa V Y k a) 0) = nI (mk (pa V Y k a) 0) from rfl]
    have := pairIn hV hY (hq.f14 hf) (hy.f14 hf) hk (show a < y_n Y by omega) kk qFU 0 (by omega) (by rw [qFU_eq]; omega)
    show qok (qlp (fun _ _ _ _ _ => none) (bX5_pairs_15 kk) qFU σ (nI k) (nI a) (nI (mk (pa V Y k a) 0)) (nI 0)) _
    rw [this]
    refine ih (y_n Y - (a + 1)) _ _ _ (by omega) ⟨a + 1, rfl, by omega, rfl, rfl, fun c hc => by rw [qup_ne _ _ _ hc]; exact hf c hc, fun i hi => ?_, fun b hb => ?_⟩
    · rw [qup_eq, upd_at, if_neg (by omega)]; exact ho i hi
    · rw [qup_eq, upd_at]
      by_cases e2 : b = a
      · subst e2; rw [if_pos rfl]
      · rw [if_neg (by omega)]; exact hw b (by omega)
def wtm (σ : qM) (V : qV) (Y : qL) : Prop := ∀ k a, k < v_r V → a < y_n Y → σ 14 (13 * k + a) = nI (wm V Y k a)
/-- all the rules' pairs -/
theorem allPairs {σ0 : qM} {V : qV} {Y : qL} (hV : v_ok V) (hY : y_ok Y) (hq : rqm σ0 V) (hy : lym σ0 Y) : qok (fX5_laysOut_58 σ0 0) (fun σ' => fr14 σ0 σ' ∧ wtm σ' V Y) := by
  have h10 := hV.2.1
  have h13 := hY.1
  unfold fX5_laysOut_58
  refine qok_lp2 (fun m σ x1 => ∃ k, m = v_r V - k ∧ k ≤ v_r V ∧ x1 = nI k ∧ fr14 σ0 σ ∧ ∀ j a, j < k → a < y_n Y → σ 14 (13 * j + a) = nI (wm V Y j a)) ?_ qFU (v_r V) σ0 0 (by rw [qFU_eq]; omega) ⟨0, rfl, by omega, rfl, fun _ _ => rfl, fun j a h => by omega⟩
  rintro m kk ih σ x1 ⟨k, hm, hk, rfl, hf, hw⟩
  unfold bX5_laysOut_58
  rw [(hq.f14 hf).1]
  by_cases e : k = v_r V
  · subst e
    exact qok_t (nI_le (Nat.le_refl _) (by omega)) (qok_some ⟨hf, hw⟩)
  · refine qok_f (nI_ge (by omega) (by omega)) (qok_bind (qok_mono (pairs_ok hV hY (hq.f14 hf) (hy.f14 hf) (show k < v_r V by omega)) ?_))
    rintro σ2 ⟨g1, g2, g3⟩
    refine ih (v_r V - (k + 1)) _ _ (by omega) ⟨k + 1, rfl, by omega, nI_1 k, fun c hc => by rw [g1 c hc, hf c hc], fun j a hj ha => ?_⟩
    by_cases e2 : j = k
    · subst e2; exact g3 a ha
    · rw [g2 _ (by omega)]; exact hw j a (by omega) ha
/-- cells 14 and 0's field 21 are written -/
def fr21 (σ σ' : qM) : Prop := (∀ a, ¬ a = 0 → ¬ a = 14 → σ' a = σ a) ∧ ∀ k, ¬ k = 21 → σ' 0 k = σ 0 k
theorem rqm.f21 {V : qV} {σ σ' : qM} (h : rqm σ V) (g : fr21 σ σ') : rqm σ' V := by unfold rqm; rw [g.2 10 (by decide), g.2 12 (by decide), g.1 8 (by decide) (by decide), g.1 9 (by decide) (by decide)]; exact h
theorem lym.f21 {Y : qL} {σ σ' : qM} (h : lym σ Y) (g : fr21 σ σ') : lym σ' Y := by unfold lym; rw [g.2 20 (by decide), g.1 7 (by decide) (by decide), g.1 12 (by decide) (by decide), g.1 13 (by decide) (by decide)]; exact h
theorem laysOut_ok {σ0 : qM} {V : qV} {Y : qL} (hV : v_ok V) (hY : y_ok Y) (hq : rqm σ0 V) (hy : lym σ0 Y) : qok (fX5_laysOut σ0) (fun σ' => fr21 σ0 σ' ∧ σ' 0 21 = nI (sm V Y) ∧ wtm σ' V Y) := by
  have h13 := hY.1
  unfold fX5_laysOut fX5_laysOut_7
  refine qok_lp2 (fun m σ x1 => ∃ l, m = y_n Y - l ∧ l ≤ y_n Y ∧ x1 = nI l ∧ fr21 σ0 σ ∧ σ 0 21 = nI (mk (fun l => !crk V (y_c Y l) (y_r Y l)) l)) ?_ qFU (y_n Y) _ 0 (by rw [qFU_eq]; omega) ⟨0, rfl, by omega, rfl, ⟨fun a h1 h2 => qup_ne _ _ _ h1, fun k h1 => by rw [qup_eq, upd_at, if_neg h1]⟩, by rw [qup_eq, upd_at, if_pos rfl]; rfl⟩
  rintro m kk ih σ x1 ⟨l, hm, hl, rfl, hf, hs⟩
  unfold bX5_laysOut_7
  rw [(hy.f21 hf).1]
  by_cases e : l = y_n Y
  · subst e
    refine qok_t (nI_le (Nat.le_refl _) (by omega)) (qok_mono (allPairs hV hY (hq.f21 hf) (hy.f21 hf)) ?_)
    rintro σ2 ⟨g1, g2⟩
    refine ⟨⟨fun a h1 h2 => by rw [g1 a h2, hf.1 a h1 h2], fun k h1 => by rw [g1 0 (by decide), hf.2 k h1]⟩, by rw [g1 0 (by decide), hs]; rfl, g2⟩
  · have hlt : l < y_n Y := by omega
    obtain ⟨-, c1, c2⟩ := (hy.f21 hf).2 l hlt
    obtain ⟨-, c3, c4⟩ := hY.2 l hlt
    refine qok_f (nI_ge hlt (by omega)) (qok_t (qin_of (by omega) (by decide)) (qok_t (qin_of (by omega) (by decide)) ?_))
    rw [nI_clamp (by omega), c1, c2]
    refine qok_eq (crackM_ok hV (hq.f21 hf) c3 c4) ?_
    show qok (if b2i (crk V (y_c Y l) (y_r Y l)) = 0 then fX5_laysOut_46 kk σ (nI l) (jshl 1 (nI l)) (σ 0 21) else fX5_laysOut_46 kk σ (nI l) 0 (σ 0 21)) _
    have fin : ∀ v : Int32, σ 0 21 ||| v = nI (mk (fun l => !crk V (y_c Y l) (y_r Y l)) (l + 1)) → qok (fX5_laysOut_46 kk σ (nI l) v (σ 0 21)) (fun σ' => fr21 σ0 σ' ∧ σ' 0 21 = nI (sm V Y) ∧ wtm σ' V Y) := by
      intro v hv
      unfold fX5_laysOut_46
      exact ih (y_n Y - (l + 1)) _ _ (by omega) ⟨l + 1, rfl, by omega, nI_1 l, ⟨fun a h1 h2 => by rw [qup_ne _ _ _ h1, hf.1 a h1 h2], fun k h1 => by rw [qup_eq, upd_at, if_neg h1, hf.2 k h1]⟩, by rw [qup_eq, upd_at, if_pos rfl, hv]⟩
    have hmk := mk_or (f := fun l => !crk V (y_c Y l) (y_r Y l)) (b := l) (by omega)
    cases hc : crk V (y_c Y l) (y_r Y l) with
    | true => exact qok_f (by decide) (fin 0 (by rw [hs, ← hmk, if_neg (by simp [hc])]))
    | false => exact qok_t (by decide) (fin _ (by rw [hs, ← hmk, if_pos (by simp [hc])]))
/-- the cup turned -/
def cup (σ : qM) (V : qV) (Y : qL) : Prop := lym σ Y ∧ σ 0 21 = nI (sm V Y) ∧ wtm σ V Y
theorem turnsCup_ok {σ0 : qM} {V : qV} (hV : v_ok V) (h : rdm σ0 V) {t : Nat} (ht : t < 4) : qok (fX5_turnsCup σ0 (nI t)) (fun σ' => frP V σ0 σ' ∧ cup σ' V (ly V t)) := by
  have h12 := hV.1
  unfold fX5_turnsCup fX5_turnsCup_10
  refine qok_lp3 (fun m σ x1 x2 => ∃ l, m = v_n V - l ∧ l ≤ v_n V ∧ x1 = nI t ∧ x2 = nI l ∧ frP V σ0 σ ∧ σ 0 20 = nI (v_n V) ∧ ∀ j, j < l → σ 12 j = nI (y_c (ly V t) j) ∧ σ 13 j = nI (y_r (ly V t) j)) ?_ qFU (v_n V) _ (nI t) 0 (by rw [qFU_eq]; omega) ⟨0, rfl, by omega, rfl, rfl, ⟨fun a h1 _ _ _ _ => qup_ne _ _ _ h1, fun k h1 _ => by rw [qup_eq, upd_at, if_neg h1], fun i _ => by rw [qup_ne _ _ _ (by decide)]⟩, by rw [qup_eq, upd_at, if_pos rfl, h.2.1], fun j hj => by omega⟩
  rintro m kk ih σ x1 x2 ⟨l, hm, hl, rfl, rfl, hf, hs, hp⟩
  have h2 := h.fr hf
  unfold bX5_turnsCup_10
  rw [h2.2.1]
  by_cases e : l = v_n V
  · subst e
    have hy : lym σ (ly V t) := ⟨hs, fun l hl => ⟨h2.2.2 l 2 hl (by decide), (hp l hl).1, (hp l hl).2⟩⟩
    refine qok_t (nI_le (Nat.le_refl _) (by omega)) (qok_bind (qok_mono (laysOut_ok hV (ly_ok hV t) h2.1 hy) ?_))
    rintro σ2 ⟨g1, g2, g3⟩
    exact qok_some ⟨hf.tr ⟨fun a a1 a2 a3 a4 a5 => g1.1 a a1 a5, fun k k1 k2 => g1.2 k k2, fun i _ => by rw [g1.1 7 (by decide) (by decide)]⟩, hy.f21 g1, g2, g3⟩
  · refine qok_f (nI_ge (by omega) (by omega)) (qok_eq (turnsOne_ok hV h2 (show l < v_n V by omega) ht) ?_)
    refine ih (v_n V - (l + 1)) _ _ _ (by omega) ⟨l + 1, rfl, by omega, rfl, nI_1 l, hf.tr ⟨fun a a1 a2 a3 a4 a5 => by rw [qup_ne _ _ _ a4, qup_ne _ _ _ a3], fun k k1 k2 => by rw [qup_ne _ _ _ (by decide), qup_ne _ _ _ (by decide)], fun i _ => by rw [qup_ne _ _ _ (by decide), qup_ne _ _ _ (by decide)]⟩, by rw [qup_ne _ _ _ (by decide), qup_ne _ _ _ (by decide), hs], fun j hj => ?_⟩
    rw [qup_ne (a := 12) _ _ _ (by decide), qup_eq, qup_eq, qup_ne (a := 13) _ _ _ (by decide), upd_at, upd_at]
    by_cases e2 : j = l
    · subst e2; rw [if_pos rfl, if_pos rfl]; exact ⟨rfl, rfl⟩
    · rw [if_neg e2, if_neg e2]; exact hp j (by omega)

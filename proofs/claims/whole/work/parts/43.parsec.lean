/-! ===== PURE: what a text says, in closed form; the class's parse ===== -/
/-- what byte i tells: at the place of a separator 0 or -1 -/
def tval (t : Nat) (B : Nat → Int32) (i : Nat) : Int32 := if i % (twd t + 1) = twd t then (if B i = 59 then 0 else -1) else tell t (i % (twd t + 1)) (B i)
def tfst (t : Nat) (B : Nat → Int32) (L : Nat) : Nat := fa_first (fun i => decide (tval t B i = -1)) L
/-- the FAULT -/
def pF (t : Nat) (B : Nat → Int32) (L : Nat) : Int32 := if tfst t B L < L then nI (tfst t B L) else if L % (twd t + 1) = twd t ∨ L = 0 then -1 else nI L
/-- how many things -/
def pN (t : Nat) (B : Nat → Int32) (L : Nat) : Nat := if pF t B L = -1 ∧ 0 < L then L / (twd t + 1) + 1 else 0
theorem tbd_le (t k : Nat) : tbd t k ≤ 8 := by unfold tbd; (repeat' split) <;> decide
theorem tfst_bad {t : Nat} {B : Nat → Int32} {L i : Nat} (hi : i < L) (hb : tval t B i = -1) (hg : ∀ j, j < i → ¬ tval t B j = -1) : tfst t B L = i := by
  unfold tfst
  have h0 : fa_first (fun i => decide (tval t B i = -1)) L < L := by
    rcases Nat.lt_or_ge i (fa_first (fun i => decide (tval t B i = -1)) L) with q | q
    · have := fa_first_no _ _ _ q
      simp [hb] at this
    · omega
  have h1 := fa_first_yes _ _ h0
  simp only [decide_eq_true_eq] at h1
  rcases Nat.lt_trichotomy (fa_first (fun i => decide (tval t B i = -1)) L) i with q | q | q
  · exact absurd h1 (hg _ q)
  · exact q
  · have := fa_first_no _ _ _ q
    simp [hb] at this
theorem tfst_good {t : Nat} {B : Nat → Int32} {L : Nat} (hg : ∀ j, j < L → ¬ tval t B j = -1) : tfst t B L = L := by
  unfold tfst
  have hl := fa_first_le (fun i => decide (tval t B i = -1)) L
  rcases Nat.lt_or_ge (fa_first (fun i => decide (tval t B i = -1)) L) L with q | q
  · have h1 := fa_first_yes _ _ q
    simp only [decide_eq_true_eq] at h1
    exact absurd h1 (hg _ q)
  · omega
theorem nI_m1 {n : Nat} (h : n < 2 ^ 31) : ¬ nI n = -1 := by
  intro e
  rw [fa_eq, nI_toInt h, show (-1 : Int32).toInt = -1 from rfl] at e
  omega
theorem m1_neg : ¬ (0 : Int32) ≤ -1 := by decide
theorem pF_bad {t : Nat} {B : Nat → Int32} {L i : Nat} (hi : i < L) (hb : tval t B i = -1) (hg : ∀ j, j < i → ¬ tval t B j = -1) : pF t B L = nI i := by
  unfold pF
  rw [tfst_bad hi hb hg, if_pos hi]
theorem pF_good {t : Nat} {B : Nat → Int32} {L : Nat} (hg : ∀ j, j < L → ¬ tval t B j = -1) : pF t B L = if L % (twd t + 1) = twd t ∨ L = 0 then -1 else nI L := by
  unfold pF
  rw [tfst_good hg, if_neg (Nat.lt_irrefl L)]
theorem pF_ok {t : Nat} {B : Nat → Int32} {L : Nat} (hL : L < 2 ^ 31) (h : pF t B L = -1) : (∀ j, j < L → ¬ tval t B j = -1) ∧ (L % (twd t + 1) = twd t ∨ L = 0) := by
  unfold pF at h
  have hl : tfst t B L ≤ L := fa_first_le _ _
  by_cases h1 : tfst t B L < L
  · rw [if_pos h1] at h
    exact absurd h (nI_m1 (by omega))
  · rw [if_neg h1] at h
    by_cases h2 : L % (twd t + 1) = twd t ∨ L = 0
    · refine ⟨fun j hj => ?_, h2⟩
      have := fa_first_no (fun i => decide (tval t B i = -1)) L j (by unfold tfst at h1 hl; omega)
      simpa using this
    · rw [if_neg h2] at h
      exact absurd h (nI_m1 hL)
theorem pN_ok {t : Nat} {B : Nat → Int32} {L : Nat} (h : pF t B L = -1) (h0 : 0 < L) : pN t B L = L / (twd t + 1) + 1 := by unfold pN; rw [if_pos ⟨h, h0⟩]
theorem pN_bad {t : Nat} {B : Nat → Int32} {L : Nat} (h : ¬ pF t B L = -1) : pN t B L = 0 := by unfold pN; rw [if_neg (fun q => h q.1)]
theorem pN_0 {t : Nat} {B : Nat → Int32} : pN t B 0 = 0 := by unfold pN; rw [if_neg (fun q => absurd q.2 (Nat.lt_irrefl 0))]
/-- what stands behind a parse -/
def parsed (t o w L : Nat) (B : Nat → Int32) (σ σ' : qM) : Prop :=
  (∀ a, ¬ a = o → ¬ a = o + 2 → σ' a = σ a) ∧ (∀ k, ¬ k = 5 → ¬ k = 6 → σ' o k = σ o k) ∧ σ' o 5 = nI (pN t B L) ∧ σ' o 6 = pF t B L ∧ (pF t B L = -1 → ∀ l j, l < pN t B L → j < w → σ' (o + 2) (l * w + j) = tell t j (B (l * (w + 1) + j)))
/-- the loop of the class's parse, text 0 -/
theorem parseL0 (σ0 : qM) (B : Nat → Int32) (bn : Nat → Nat) (L : Nat) (hL : L ≤ 47) (hB : ∀ i, i < L → B i = nI (bn i) ∧ bn i < 256) (h4 : σ0 1 4 = nI L) (h1 : σ0 1 1 = nI 3) (h0 : σ0 1 0 = 1) (h5 : σ0 1 5 = 0) (h6 : σ0 1 6 = -1) (hb : ∀ i, i < L → σ0 2 i = B i) :
    qok (fX3_parse_16 σ0 1 0 0 0) (fun σ' => parsed 0 1 3 L B σ0 σ') := by
  unfold fX3_parse_16
  refine qok_lp5 (fun m σ o x1 x2 x3 => ∃ i, m = L - i ∧ i ≤ L ∧ o = 1 ∧ x1 = nI (i / 4) ∧ x2 = nI (i % 4) ∧ x3 = nI i ∧ (∀ j, j < i → ¬ tval 0 B j = -1) ∧ (∀ a, ¬ a = 3 → σ a = σ0 a) ∧ (∀ j, j < i → ¬ j % 4 = 3 → σ 3 (j / 4 * 3 + j % 4) = tval 0 B j)) ?_ qFU L σ0 1 0 0 0 (by rw [qFU_eq]; omega) ⟨0, rfl, by omega, rfl, rfl, rfl, rfl, fun j h => by omega, fun _ _ => rfl, fun j h => by omega⟩
  rintro m k ih σ o x1 x2 x3 ⟨i, hm, hi, rfl, rfl, rfl, rfl, hg, hs, hp⟩
  have e4 : σ 1 4 = nI L := by rw [hs 1 (by decide), h4]
  have e1 : σ 1 1 = nI 3 := by rw [hs 1 (by decide), h1]
  have e0 : σ 1 0 = 1 := by rw [hs 1 (by decide), h0]
  have e5 : σ 1 5 = 0 := by rw [hs 1 (by decide), h5]
  have e6 : σ 1 6 = -1 := by rw [hs 1 (by decide), h6]
  unfold bX3_parse_16
  simp only [e4, e1]
  by_cases hiL : i = L
  · subst hiL
    refine qok_t (nI_le (Nat.le_refl _) (by omega)) ?_
    have hF : pF 0 B i = if i % 4 = 3 ∨ i = 0 then -1 else nI i := pF_good (t := 0) hg
    by_cases hw : i % 4 = 3
    · refine qok_t (by rw [hw]) (qok_some ?_)
      have hF1 : pF 0 B i = -1 := by rw [hF, if_pos (Or.inl hw)]
      have hN : pN 0 B i = i / 4 + 1 := pN_ok hF1 (by omega)
      refine ⟨fun a ha ha2 => ?_, fun k hk hk2 => ?_, ?_, ?_, fun _ l j hl hj => ?_⟩
      · rw [qup_ne _ _ _ ha, hs a ha2]
      · rw [qup_eq, upd_at, if_neg hk, hs 1 (by decide)]
      · rw [qup_eq, upd_at, if_pos rfl, hN]
        exact nI_1 _
      · rw [qup_eq, upd_at, if_neg (by decide), e6, hF1]
      · rw [hN] at hl
        rw [qup_ne _ _ _ (by decide)]
        have hq := hp (l * 4 + j) (by omega) (by omega)
        rw [show (l * 4 + j) / 4 = l by omega, show (l * 4 + j) % 4 = j by omega] at hq
        rw [hq]
        unfold tval
        rw [show (l * 4 + j) % (twd 0 + 1) = j by show (l * 4 + j) % 4 = j; omega, if_neg (by show ¬ j = 3; omega)]
    · refine qok_f (fun q => hw ((nI_eq (by omega) (by omega)).mp q)) ?_
      by_cases hz : i = 0
      · subst hz
        refine qok_t (by decide) (qok_some ?_)
        have hF1 : pF 0 B 0 = -1 := by rw [hF, if_pos (Or.inr rfl)]
        refine ⟨fun a ha ha2 => ?_, fun k hk hk2 => ?_, ?_, ?_, fun _ l j hl hj => ?_⟩
        · rw [hs a ha2]
        · rw [hs 1 (by decide)]
        · rw [e5, pN_0]; rfl
        · rw [e6, hF1]
        · rw [pN_0] at hl; omega
      · refine qok_f (by rw [show (0 : Int32) = nI 0 from rfl]; exact nI_ge (by omega) (by omega)) (qok_some ?_)
        have hF1 : pF 0 B i = nI i := by rw [hF, if_neg (by show ¬ (i % 4 = 3 ∨ i = 0); omega)]
        have hF2 : ¬ pF 0 B i = -1 := by rw [hF1]; exact nI_m1 (by omega)
        refine ⟨fun a ha ha2 => ?_, fun k hk hk2 => ?_, ?_, ?_, fun q => absurd q hF2⟩
        · rw [qup_ne _ _ _ ha, hs a ha2]
        · rw [qup_eq, upd_at, if_neg hk2, hs 1 (by decide)]
        · rw [qup_eq, upd_at, if_neg (by decide), e5, pN_bad hF2]; rfl
        · rw [qup_eq, upd_at, if_pos rfl, hF1]
  · have hlt : i < L := by omega
    refine qok_f (nI_ge (by omega) (by omega)) ?_
    obtain ⟨b1, b2⟩ := hB i hlt
    have eb : σ 2 i = B i := by rw [hs 2 (by decide), hb i hlt]
    -- what goes on behind the value
    have go : ∀ v : Int32, v = tval 0 B i → qok (if 0 ≤ v then (if nI (i % 4) = σ 1 1 then fX3_parse_85 k σ 1 (nI (i / 4) + 1) 0 (nI i) else (if qin (nI (i / 4) * σ 1 1 + nI (i % 4)) (lnC (1 + 2)) then fX3_parse_85 k (qup σ (1 + 2) (nI (i / 4) * σ 1 1 + nI (i % 4)).toNatClampNeg v) 1 (nI (i / 4)) (nI (i % 4) + 1) (nI i) else none)) else some (qup σ 1 6 (nI i))) (fun σ' => parsed 0 1 3 L B σ0 σ') := by
      intro v hv
      by_cases hbad : tval 0 B i = -1
      · refine qok_f (by rw [hv, hbad]; exact m1_neg) (qok_some ?_)
        have hF1 : pF 0 B L = nI i := pF_bad hlt hbad hg
        have hF2 : ¬ pF 0 B L = -1 := by rw [hF1]; exact nI_m1 (by omega)
        refine ⟨fun a ha ha2 => ?_, fun k hk hk2 => ?_, ?_, ?_, fun q => absurd q hF2⟩
        · rw [qup_ne _ _ _ ha, hs a ha2]
        · rw [qup_eq, upd_at, if_neg hk2, hs 1 (by decide)]
        · rw [qup_eq, upd_at, if_neg (by decide), e5, pN_bad hF2]; rfl
        · rw [qup_eq, upd_at, if_pos rfl, hF1]
      · have hg2 : ∀ j, j < i + 1 → ¬ tval 0 B j = -1 := fun j hj => by
          rcases Nat.lt_or_ge j i with q | q
          · exact hg j q
          · rw [show j = i by omega]; exact hbad
        by_cases hw : i % 4 = 3
        · have hv0 : v = 0 := by
            rw [hv]
            unfold tval at hbad ⊢
            rw [if_pos (show i % (twd 0 + 1) = twd 0 from hw)] at hbad ⊢
            by_cases q : B i = 59
            · rw [if_pos q]
            · rw [if_neg q] at hbad; exact absurd rfl hbad
          refine qok_t (by rw [hv0]; decide) (qok_t (by rw [hw, e1]) ?_)
          unfold fX3_parse_85
          refine ih (L - (i + 1)) _ _ _ _ _ (by omega) ⟨i + 1, rfl, by omega, rfl, ?_, ?_, nI_1 i, hg2, hs, fun j hj hjw => hp j (by omega) hjw⟩
          · rw [show (i + 1) / 4 = i / 4 + 1 by omega]; exact nI_1 _
          · rw [show (i + 1) % 4 = 0 by omega]; rfl
        · have hr := tell_rng (t := 0) (k := i % 4) (n := bn i) (by decide) (by omega) b2
          have ht : tval 0 B i = tell 0 (i % 4) (nI (bn i)) := by
            unfold tval
            rw [if_neg (show ¬ i % (twd 0 + 1) = twd 0 from hw), b1]
            rfl
          rw [ht] at hbad
          rcases hr with hr | ⟨j, hj, hr⟩
          · exact absurd hr hbad
          · have hjb : j < 8 := Nat.lt_of_lt_of_le hj (tbd_le _ _)
            refine qok_t (by rw [hv, ht, hr]; exact nI_pos' (by omega)) (qok_f (by rw [e1]; exact fun q => hw ((nI_eq (by omega) (by omega)).mp q)) ?_)
            have ix : nI (i / 4) * σ 1 1 + nI (i % 4) = nI (i / 4 * 3 + i % 4) := by rw [e1, pk_mul, nI_add]
            rw [ix]
            refine qok_t (qin_of (by show _ < 36; omega) (by decide)) ?_
            rw [nI_clamp (by omega)]
            unfold fX3_parse_85
            refine ih (L - (i + 1)) _ _ _ _ _ (by omega) ⟨i + 1, rfl, by omega, rfl, ?_, ?_, nI_1 i, hg2, fun a ha => by rw [qup_ne _ _ _ ha]; exact hs a ha, fun q hq hqw => ?_⟩
            · rw [show (i + 1) / 4 = i / 4 by omega]
            · rw [show (i + 1) % 4 = i % 4 + 1 by omega]; exact nI_1 _
            · rw [qup_eq, upd_at]
              by_cases e : q = i
              · subst e
                rw [if_pos rfl, hv]
              · rw [if_neg (by omega)]
                exact hp q (by omega) hqw
    have hm : i % 4 < 4 := Nat.mod_lt _ (by decide)
    have es : fX3_signs σ 1 (nI (i % 4)) = some (sgj 0 (i % 4), σ) := by
      unfold fX3_signs fX3_signsOfLeaf fX3_signsOfRule
      rw [e0, e1]
      generalize i % 4 = j at hm
      rcases (show j = 0 ∨ j = 1 ∨ j = 2 ∨ j = 3 by omega) with rfl | rfl | rfl | rfl <;> rfl
    refine qok_t (qin_of (by show i < 47; omega) (by decide)) (qok_eq es ?_)
    refine qok_t (sgj_lt 0 (by decide) (i % 4) (by omega)) ?_
    rw [nI_clamp (by omega)]
    show qok ((fX3_placeOf σ (σ 2 i) (sgj 0 (i % 4))).bind _) _
    rw [eb, b1]
    refine qok_eq (ix_ok σ (sgj_lt 0 (by decide) (i % 4) (by omega)) b2) (go _ ?_)
    rw [ix_tell_d 0 (by decide) (i % 4) hm (bn i) b2]
    unfold tval
    rw [b1]
    rfl
/-- the loop of the class's parse, text 1 -/
theorem parseL1 (σ0 : qM) (B : Nat → Int32) (bn : Nat → Nat) (L : Nat) (hL : L ≤ 59) (hB : ∀ i, i < L → B i = nI (bn i) ∧ bn i < 256) (h4 : σ0 4 4 = nI L) (h1 : σ0 4 1 = nI 5) (h0 : σ0 4 0 = 0) (h5 : σ0 4 5 = 0) (h6 : σ0 4 6 = -1) (hb : ∀ i, i < L → σ0 5 i = B i) :
    qok (fX3_parse_16 σ0 4 0 0 0) (fun σ' => parsed 1 4 5 L B σ0 σ') := by
  unfold fX3_parse_16
  refine qok_lp5 (fun m σ o x1 x2 x3 => ∃ i, m = L - i ∧ i ≤ L ∧ o = 4 ∧ x1 = nI (i / 6) ∧ x2 = nI (i % 6) ∧ x3 = nI i ∧ (∀ j, j < i → ¬ tval 1 B j = -1) ∧ (∀ a, ¬ a = 6 → σ a = σ0 a) ∧ (∀ j, j < i → ¬ j % 6 = 5 → σ 6 (j / 6 * 5 + j % 6) = tval 1 B j)) ?_ qFU L σ0 4 0 0 0 (by rw [qFU_eq]; omega) ⟨0, rfl, by omega, rfl, rfl, rfl, rfl, fun j h => by omega, fun _ _ => rfl, fun j h => by omega⟩
  rintro m k ih σ o x1 x2 x3 ⟨i, hm, hi, rfl, rfl, rfl, rfl, hg, hs, hp⟩
  have e4 : σ 4 4 = nI L := by rw [hs 4 (by decide), h4]
  have e1 : σ 4 1 = nI 5 := by rw [hs 4 (by decide), h1]
  have e0 : σ 4 0 = 0 := by rw [hs 4 (by decide), h0]
  have e5 : σ 4 5 = 0 := by rw [hs 4 (by decide), h5]
  have e6 : σ 4 6 = -1 := by rw [hs 4 (by decide), h6]
  unfold bX3_parse_16
  simp only [e4, e1]
  by_cases hiL : i = L
  · subst hiL
    refine qok_t (nI_le (Nat.le_refl _) (by omega)) ?_
    have hF : pF 1 B i = if i % 6 = 5 ∨ i = 0 then -1 else nI i := pF_good (t := 1) hg
    by_cases hw : i % 6 = 5
    · refine qok_t (by rw [hw]) (qok_some ?_)
      have hF1 : pF 1 B i = -1 := by rw [hF, if_pos (Or.inl hw)]
      have hN : pN 1 B i = i / 6 + 1 := pN_ok hF1 (by omega)
      refine ⟨fun a ha ha2 => ?_, fun k hk hk2 => ?_, ?_, ?_, fun _ l j hl hj => ?_⟩
      · rw [qup_ne _ _ _ ha, hs a ha2]
      · rw [qup_eq, upd_at, if_neg hk, hs 4 (by decide)]
      · rw [qup_eq, upd_at, if_pos rfl, hN]
        exact nI_1 _
      · rw [qup_eq, upd_at, if_neg (by decide), e6, hF1]
      · rw [hN] at hl
        rw [qup_ne _ _ _ (by decide)]
        have hq := hp (l * 6 + j) (by omega) (by omega)
        rw [show (l * 6 + j) / 6 = l by omega, show (l * 6 + j) % 6 = j by omega] at hq
        rw [hq]
        unfold tval
        rw [show (l * 6 + j) % (twd 1 + 1) = j by show (l * 6 + j) % 6 = j; omega, if_neg (by show ¬ j = 5; omega)]
    · refine qok_f (fun q => hw ((nI_eq (by omega) (by omega)).mp q)) ?_
      by_cases hz : i = 0
      · subst hz
        refine qok_t (by decide) (qok_some ?_)
        have hF1 : pF 1 B 0 = -1 := by rw [hF, if_pos (Or.inr rfl)]
        refine ⟨fun a ha ha2 => ?_, fun k hk hk2 => ?_, ?_, ?_, fun _ l j hl hj => ?_⟩
        · rw [hs a ha2]
        · rw [hs 4 (by decide)]
        · rw [e5, pN_0]; rfl
        · rw [e6, hF1]
        · rw [pN_0] at hl; omega
      · refine qok_f (by rw [show (0 : Int32) = nI 0 from rfl]; exact nI_ge (by omega) (by omega)) (qok_some ?_)
        have hF1 : pF 1 B i = nI i := by rw [hF, if_neg (by show ¬ (i % 6 = 5 ∨ i = 0); omega)]
        have hF2 : ¬ pF 1 B i = -1 := by rw [hF1]; exact nI_m1 (by omega)
        refine ⟨fun a ha ha2 => ?_, fun k hk hk2 => ?_, ?_, ?_, fun q => absurd q hF2⟩
        · rw [qup_ne _ _ _ ha, hs a ha2]
        · rw [qup_eq, upd_at, if_neg hk2, hs 4 (by decide)]
        · rw [qup_eq, upd_at, if_neg (by decide), e5, pN_bad hF2]; rfl
        · rw [qup_eq, upd_at, if_pos rfl, hF1]
  · have hlt : i < L := by omega
    refine qok_f (nI_ge (by omega) (by omega)) ?_
    obtain ⟨b1, b2⟩ := hB i hlt
    have eb : σ 5 i = B i := by rw [hs 5 (by decide), hb i hlt]
    -- what goes on behind the value
    have go : ∀ v : Int32, v = tval 1 B i → qok (if 0 ≤ v then (if nI (i % 6) = σ 4 1 then fX3_parse_85 k σ 4 (nI (i / 6) + 1) 0 (nI i) else (if qin (nI (i / 6) * σ 4 1 + nI (i % 6)) (lnC (4 + 2)) then fX3_parse_85 k (qup σ (4 + 2) (nI (i / 6) * σ 4 1 + nI (i % 6)).toNatClampNeg v) 4 (nI (i / 6)) (nI (i % 6) + 1) (nI i) else none)) else some (qup σ 4 6 (nI i))) (fun σ' => parsed 1 4 5 L B σ0 σ') := by
      intro v hv
      by_cases hbad : tval 1 B i = -1
      · refine qok_f (by rw [hv, hbad]; exact m1_neg) (qok_some ?_)
        have hF1 : pF 1 B L = nI i := pF_bad hlt hbad hg
        have hF2 : ¬ pF 1 B L = -1 := by rw [hF1]; exact nI_m1 (by omega)
        refine ⟨fun a ha ha2 => ?_, fun k hk hk2 => ?_, ?_, ?_, fun q => absurd q hF2⟩
        · rw [qup_ne _ _ _ ha, hs a ha2]
        · rw [qup_eq, upd_at, if_neg hk2, hs 4 (by decide)]
        · rw [qup_eq, upd_at, if_neg (by decide), e5, pN_bad hF2]; rfl
        · rw [qup_eq, upd_at, if_pos rfl, hF1]
      · have hg2 : ∀ j, j < i + 1 → ¬ tval 1 B j = -1 := fun j hj => by
          rcases Nat.lt_or_ge j i with q | q
          · exact hg j q
          · rw [show j = i by omega]; exact hbad
        by_cases hw : i % 6 = 5
        · have hv0 : v = 0 := by
            rw [hv]
            unfold tval at hbad ⊢
            rw [if_pos (show i % (twd 1 + 1) = twd 1 from hw)] at hbad ⊢
            by_cases q : B i = 59
            · rw [if_pos q]
            · rw [if_neg q] at hbad; exact absurd rfl hbad
          refine qok_t (by rw [hv0]; decide) (qok_t (by rw [hw, e1]) ?_)
          unfold fX3_parse_85
          refine ih (L - (i + 1)) _ _ _ _ _ (by omega) ⟨i + 1, rfl, by omega, rfl, ?_, ?_, nI_1 i, hg2, hs, fun j hj hjw => hp j (by omega) hjw⟩
          · rw [show (i + 1) / 6 = i / 6 + 1 by omega]; exact nI_1 _
          · rw [show (i + 1) % 6 = 0 by omega]; rfl
        · have hr := tell_rng (t := 1) (k := i % 6) (n := bn i) (by decide) (by omega) b2
          have ht : tval 1 B i = tell 1 (i % 6) (nI (bn i)) := by
            unfold tval
            rw [if_neg (show ¬ i % (twd 1 + 1) = twd 1 from hw), b1]
            rfl
          rw [ht] at hbad
          rcases hr with hr | ⟨j, hj, hr⟩
          · exact absurd hr hbad
          · have hjb : j < 8 := Nat.lt_of_lt_of_le hj (tbd_le _ _)
            refine qok_t (by rw [hv, ht, hr]; exact nI_pos' (by omega)) (qok_f (by rw [e1]; exact fun q => hw ((nI_eq (by omega) (by omega)).mp q)) ?_)
            have ix : nI (i / 6) * σ 4 1 + nI (i % 6) = nI (i / 6 * 5 + i % 6) := by rw [e1, pk_mul, nI_add]
            rw [ix]
            refine qok_t (qin_of (by show _ < 50; omega) (by decide)) ?_
            rw [nI_clamp (by omega)]
            unfold fX3_parse_85
            refine ih (L - (i + 1)) _ _ _ _ _ (by omega) ⟨i + 1, rfl, by omega, rfl, ?_, ?_, nI_1 i, hg2, fun a ha => by rw [qup_ne _ _ _ ha]; exact hs a ha, fun q hq hqw => ?_⟩
            · rw [show (i + 1) / 6 = i / 6 by omega]
            · rw [show (i + 1) % 6 = i % 6 + 1 by omega]; exact nI_1 _
            · rw [qup_eq, upd_at]
              by_cases e : q = i
              · subst e
                rw [if_pos rfl, hv]
              · rw [if_neg (by omega)]
                exact hp q (by omega) hqw
    have hm : i % 6 < 6 := Nat.mod_lt _ (by decide)
    have es : fX3_signs σ 4 (nI (i % 6)) = some (sgj 1 (i % 6), σ) := by
      unfold fX3_signs fX3_signsOfLeaf fX3_signsOfRule
      rw [e0, e1]
      generalize i % 6 = j at hm
      rcases (show j = 0 ∨ j = 1 ∨ j = 2 ∨ j = 3 ∨ j = 4 ∨ j = 5 by omega) with rfl | rfl | rfl | rfl | rfl | rfl <;> rfl
    refine qok_t (qin_of (by show i < 59; omega) (by decide)) (qok_eq es ?_)
    refine qok_t (sgj_lt 1 (by decide) (i % 6) (by omega)) ?_
    rw [nI_clamp (by omega)]
    show qok ((fX3_placeOf σ (σ 5 i) (sgj 1 (i % 6))).bind _) _
    rw [eb, b1]
    refine qok_eq (ix_ok σ (sgj_lt 1 (by decide) (i % 6) (by omega)) b2) (go _ ?_)
    rw [ix_tell_d 1 (by decide) (i % 6) hm (bn i) b2]
    unfold tval
    rw [b1]
    rfl

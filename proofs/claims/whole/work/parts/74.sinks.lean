/-! ===== PURE: sinks, the two sums ===== -/
def snB (V : qV) (t k m : Nat) : Bool := (lm V (rlv V t m)).testBit k
def chV (V : qV) (t k x : Nat) : Nat := sN (fun j => cN (snB V t k) (2 ^ v_n V) j * ((16 - x) ^ j * x ^ (v_n V - j))) (v_n V + 1)
def toF (V : qV) (t k x o : Nat) : Nat := if (lwo V t o).testBit k = true then wN x o (v_n V) else 0
theorem snB_rev {V : qV} {t k o : Nat} (ho : o < 2 ^ v_n V) : snB V t k (2 ^ v_n V - (o + 1)) = (lwo V t o).testBit k := by
  unfold snB rlv
  rw [lm_mk]
  unfold lwo
  rw [show (2 ^ v_n V - (o + 1)) &&& sm V (ly V t) = sm V (ly V t) ^^^ (sm V (ly V t) &&& o) from ?_]
  apply Nat.eq_of_testBit_eq
  intro j
  rw [Nat.testBit_and, Nat.testBit_two_pow_sub_succ ho, Nat.testBit_xor, Nat.testBit_and]
  by_cases c : j < v_n V
  · rw [decide_eq_true c]
    cases (sm V (ly V t)).testBit j <;> cases o.testBit j <;> rfl
  · rw [bit_hi (show sm V (ly V t) < 2 ^ v_n V from sm_lt V (ly V t)) (by omega), decide_eq_false c]
    rfl
theorem ch_is {V : qV} (hV : v_ok V) (t k x : Nat) : chV V t k x = sN (toF V t k x) (2 ^ v_n V) := by
  have hn := hV.1
  unfold chV
  rw [sum_cN (B := snB V t k) (h := fun j => (16 - x) ^ j * x ^ (v_n V - j)) (2 ^ v_n V) (fun m hm => pcn_w 12 _ m hm), sN_rev]
  refine sN_cong (fun o ho => ?_)
  unfold toF
  rw [snB_rev ho, pc_rev hn ho, wN_is]
  have := cbt_le o (v_n V)
  rw [show v_n V - (v_n V - cbt o (v_n V)) = cbt o (v_n V) by omega, Nat.mul_comm]
theorem ch_lt {V : qV} (hV : v_ok V) {t k x : Nat} (hx : x ≤ 16) : chV V t k x < 2 ^ 61 := by
  have hn := hV.1
  rw [ch_is hV]
  have h1 := sN_le (f := toF V t k x) (c := 16 ^ v_n V) (2 ^ v_n V) (fun o _ => by
    unfold toF
    split
    · exact wN_le hx o _
    · exact Nat.zero_le _)
  have h2 : 2 ^ v_n V * 16 ^ v_n V ≤ 2 ^ 12 * 16 ^ 12 := Nat.mul_le_mul (p2_le hn) (Nat.pow_le_pow_right (by decide) hn)
  have h3 : 2 ^ 12 * 16 ^ 12 < 2 ^ 61 := by decide
  omega
theorem bitN (L k : Nat) (hL : L < 2 ^ 31) (hk : k < 32) : (jshr (nI L) (nI k) &&& 1) = nI (if L.testBit k = true then 1 else 0) := by
  rw [jshr_n hL hk, show (1 : Int32) = nI (2 ^ 1 - 1) from rfl, fa_mask]
  congr 1
  rw [Nat.testBit_eq_decide_div_mod_eq]
  by_cases c : L / 2 ^ k % 2 = 1
  · rw [decide_eq_true c, if_pos rfl]; exact c
  · rw [decide_eq_false c, if_neg (by decide)]
    have : L / 2 ^ k % 2 ^ 1 = L / 2 ^ k % 2 := by rw [Nat.pow_one]
    omega
theorem countL {σ0 : qM} {V : qV} (hV : v_ok V) (hT : cuT σ0 V) {t k : Nat} (hk : k < 8) (hR : cuR σ0 V t) (hz : ∀ j, j < 13 → σ0 42 j = nI 0) : qok (fX0_countChoices_39 σ0 (nI k) (nI (2 ^ v_n V)) 0) (fun σ' => (∀ a, ¬ a = 42 → σ' a = σ0 a) ∧ ∀ j, j < 13 → σ' 42 j = nI (cN (snB V t k) (2 ^ v_n V) j)) := by
  have hn := hV.1
  have hp := p2_le hn
  have hr := p2_le hV.2.1
  refine qok_lp4 (z := fun _ _ _ _ => none) (b := bX0_countChoices_39) (fun mm σ x2 x3 x4 => x2 = nI k ∧ x3 = nI (2 ^ v_n V) ∧ ∃ i, i ≤ 2 ^ v_n V ∧ mm = 2 ^ v_n V - i ∧ x4 = nI i ∧ (∀ a, ¬ a = 42 → σ a = σ0 a) ∧ ∀ j, j < 13 → σ 42 j = nI (cN (snB V t k) i j)) ?_ qFU (2 ^ v_n V) σ0 _ _ 0 (by rw [qFU_eq]; omega) ⟨rfl, rfl, 0, Nat.zero_le _, rfl, rfl, fun _ _ => rfl, hz⟩
  rintro mm kk ih σ x2 x3 x4 ⟨rfl, rfl, i, hi, rfl, rfl, f1, f2⟩
  unfold bX0_countChoices_39
  by_cases e : i = 2 ^ v_n V
  · refine qok_t (nI_le (by omega) (by omega)) (qok_some ⟨f1, ?_⟩)
    rw [e] at f2
    exact f2
  · refine qok_f (nI_ge (by omega) (by omega)) ?_
    rw [bnd_s (bitCount_ok σ (show i < 4096 by omega))]
    dsimp only
    have hpc := pc_le i
    have hm : rlv V t i < 2 ^ v_r V := mk_lt _ _
    have t1 : σ 41 i = nI (rlv V t i) := by rw [f1 41 (by decide)]; exact hR i (by omega)
    have t2 : σ 40 (rlv V t i) = nI (lm V (rlv V t i)) := by rw [f1 40 (by decide)]; exact hT _ hm
    have hL : lm V (rlv V t i) < 2 ^ 8 := lw_lt hV (Nat.le_refl _)
    refine qok_t (qin_of (by omega) (by decide)) (qok_t (qin_of (by omega) (by decide)) ?_)
    simp only [nI_clamp (show i < 2 ^ 31 by omega), t1]
    refine qok_t (qin_of (by omega) (by decide)) (qok_t (qin_of (by omega) (by decide)) ?_)
    rw [nI_clamp (show pc i < 2 ^ 31 by omega), nI_clamp (show rlv V t i < 2 ^ 31 by omega), t2, bitN _ _ (by omega) (by omega), f2 _ (by omega), nI_add, nI_1]
    refine ih (2 ^ v_n V - (i + 1)) _ _ _ _ (by omega) ⟨rfl, rfl, i + 1, by omega, rfl, rfl, fun a ha => by rw [qup_ne _ _ _ ha, f1 a ha], fun j hj => ?_⟩
    rw [qup_eq, upd_at, cN_s]
    by_cases c : j = pc i
    · rw [if_pos c, if_pos c, c]; rfl
    · rw [if_neg c, if_neg c, Nat.add_zero]; exact f2 j hj
theorem count0 {σ0 : qM} {V : qV} (hV : v_ok V) (hd : σ0 1 5 = nI (v_n V)) (hT : cuT σ0 V) {t k : Nat} (hk : k < 8) (hR : cuR σ0 V t) : qok (fX0_countChoices_7 σ0 (nI k) 0) (fun σ' => (∀ a, ¬ a = 42 → σ' a = σ0 a) ∧ ∀ j, j < 13 → σ' 42 j = nI (cN (snB V t k) (2 ^ v_n V) j)) := by
  have hn := hV.1
  refine qok_lp3 (z := fun _ _ _ => none) (b := bX0_countChoices_7) (fun mm σ x2 x3 => x2 = nI k ∧ ∃ i, i ≤ 13 ∧ mm = 13 - i ∧ x3 = nI i ∧ (∀ a, ¬ a = 42 → σ a = σ0 a) ∧ ∀ j, j < i → σ 42 j = nI 0) ?_ qFU 13 σ0 _ 0 (by rw [qFU_eq]; omega) ⟨rfl, 0, by omega, rfl, rfl, fun _ _ => rfl, fun j hj => by omega⟩
  rintro mm kk ih σ x2 x3 ⟨rfl, i, hi, rfl, rfl, f1, f2⟩
  unfold bX0_countChoices_7 fX0_countChoices_36
  by_cases e : i = 13
  · refine qok_t (show (12 : Int32) < nI i from by rw [e]; decide) ?_
    rw [f1 1 (by decide), hd, jshl1 (show v_n V < 31 by omega)]
    refine qok_mono (countL (σ0 := σ) hV (t := t) (fun m hm => by rw [f1 40 (by decide)]; exact hT m hm) hk (fun m hm => by rw [f1 41 (by decide)]; exact hR m hm) (fun j hj => f2 j (by omega))) ?_
    rintro σ' ⟨g1, g2⟩
    exact ⟨fun a ha => by rw [g1 a ha, f1 a ha], g2⟩
  · refine qok_f (show ¬ (12 : Int32) < nI i from nI_nlt (a := 12) (by omega) (by decide)) (qok_t (qin_of (by omega) (by decide)) ?_)
    rw [nI_clamp (by omega), nI_1]
    refine ih (13 - (i + 1)) _ _ _ (by omega) ⟨rfl, i + 1, by omega, rfl, rfl, fun a ha => by rw [qup_ne _ _ _ ha, f1 a ha], fun j hj => ?_⟩
    rw [qup_eq, upd_at]
    by_cases c : j = i
    · rw [if_pos c]; rfl
    · rw [if_neg c]; exact f2 j (by omega)
theorem power_ok (σ : qM) (a : Nat) {e : Nat} (he : e < 100) : ∀ n i, i ≤ e → e - i < n → qlp (fun _ _ _ _ _ => none) bX0_power_5 n σ (lN a) (nI e) (lN (a ^ i)) (nI i) = some (lN (a ^ e), σ) := by
  intro n
  induction n with
  | zero => intro i _ h; omega
  | succ n ih =>
    intro i hi hn
    rw [qlp_succ]
    generalize qlp (fun _ _ _ _ _ => none) bX0_power_5 n = kk at ih ⊢
    unfold bX0_power_5 fX0_power_15
    by_cases c : i = e
    · rw [if_pos (nI_le (by omega) (by omega)), c]
    · rw [if_neg (nI_ge (by omega) (by omega)), lN_mul, ← Nat.pow_succ, nI_1]
      exact ih (i + 1) (by omega) (by omega)
theorem chanceL {σ : qM} {V : qV} (hV : v_ok V) (hd : σ 1 5 = nI (v_n V)) {t k x : Nat} (hx : x ≤ 16) (h42 : ∀ j, j < 13 → σ 42 j = nI (cN (snB V t k) (2 ^ v_n V) j)) : ∀ n i, i ≤ v_n V + 1 → v_n V + 1 - i < n → qlp (fun _ _ _ _ => none) bX0_chanceAbove_12 n σ (nI x) (lN (sN (fun j => cN (snB V t k) (2 ^ v_n V) j * ((16 - x) ^ j * x ^ (v_n V - j))) i)) (nI i) = some (lN (chV V t k x), σ) := by
  have hn := hV.1
  have hp := p2_le hn
  intro n
  induction n with
  | zero => intro i _ h; omega
  | succ n ih =>
    intro i hi hfu
    have h1 := ih (i + 1)
    rw [qlp_succ]
    generalize qlp (fun _ _ _ _ => none) bX0_chanceAbove_12 n = kk at h1 ⊢
    unfold bX0_chanceAbove_12 fX0_chanceAbove_64
    rw [hd]
    by_cases c : i = v_n V + 1
    · rw [if_pos (nI_lt (by omega) (by omega)), c]; rfl
    · have hc := cN_le (B := snB V t k) (2 ^ v_n V) i
      rw [if_neg (nI_nlt (by omega) (by omega)), if_pos (qin_of (by omega) (by decide)), show (16 : Int32) - nI x = nI (16 - x) from pk_sub (a := 16) hx, nI_l (show 16 - x < 2 ^ 31 by omega), nI_l (show x < 2 ^ 31 by omega), bnd_s (show fX0_power σ (lN (16 - x)) (nI i) = some (lN ((16 - x) ^ i), σ) from power_ok σ (16 - x) (show i < 100 by omega) qFU 0 (Nat.zero_le _) (by rw [qFU_eq]; omega))]
      dsimp only
      rw [hd, pk_sub (show i ≤ v_n V by omega), bnd_s (show fX0_power σ (lN x) (nI (v_n V - i)) = some (lN (x ^ (v_n V - i)), σ) from power_ok σ x (show v_n V - i < 100 by omega) qFU 0 (Nat.zero_le _) (by rw [qFU_eq]; omega))]
      dsimp only
      rw [nI_clamp (by omega), h42 i (by omega), nI_l (by omega), lN_mul, lN_mul, lN_add, Nat.mul_assoc, nI_1]
      exact h1 (by omega) (by omega)
theorem cupV.fr3 {σ σ' : qM} {V : qV} (h : cupV σ V) (g : ∀ a, ¬ a = 42 → σ' a = σ a) : cupV σ' V := by
  obtain ⟨h1, h2, h3⟩ := h
  refine ⟨by rw [g 16 (by omega)]; exact h1, h2.fr2 (fun a a1 a2 => g a (by omega)), ?_⟩
  rw [g 16 (by omega)]
  unfold cuR
  rw [g 41 (by omega)]
  exact h3
theorem chance_ok {σ : qM} {V : qV} (hV : v_ok V) (hd : rdc σ V) (hu : cupV σ V) {t k x : Nat} (ht : t < 4) (hk : k < 8) (hx : x ≤ 16) : qok (fX0_chanceAbove σ (nI x) (nI t) (nI k)) (fun q => q.1 = lN (chV V t k x) ∧ frU σ q.2 ∧ cupV q.2 V) := by
  unfold fX0_chanceAbove fX0_countChoices
  obtain ⟨σ1, e0, e1, e2, e3⟩ := fill_ok hV hd hu ht
  obtain ⟨σ2, g0, g1, g2⟩ := count0 hV (hd.fr e1).1 e2.2.1.2.1 hk e3
  rw [bnd_s e0, g0]
  refine qok_eq rfl ?_
  have hn := hV.1
  refine ⟨_, chanceL hV (by rw [g1 1 (by decide)]; exact (hd.fr e1).1) hx g2 qFU 0 (Nat.zero_le _) (by rw [qFU_eq]; omega), rfl, e1.tr (fun a ha => g1 a (by omega)), e2.fr3 g1⟩

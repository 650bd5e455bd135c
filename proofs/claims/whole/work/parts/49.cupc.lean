/-! ===== PURE: the class's cup: rules sorted, readings by rules ===== -/
/-- leaves, rules and cracks stand in the class's memory -/
def rdc (σ : qM) (V : qV) : Prop := σ 1 5 = nI (v_n V) ∧ σ 1 1 = nI 3 ∧ (∀ l j, l < v_n V → j < 3 → σ 3 (3 * l + j) = nI (v_l V l j)) ∧ σ 4 5 = nI (v_r V) ∧ σ 4 1 = nI 5 ∧ (∀ k j, k < v_r V → j < 5 → σ 6 (5 * k + j) = nI (v_q V k j)) ∧ σ 7 2 = nI (v_c V) ∧ (∀ i, i < v_c V → σ 8 i = nI (v_k V i 0) ∧ σ 9 i = nI (v_k V i 1))
/-- only the cup's own cells are written -/
def frU (σ σ' : qM) : Prop := ∀ a, (a < 16 ∨ 42 < a) → σ' a = σ a
theorem frU.rf (σ : qM) : frU σ σ := fun _ _ => rfl
theorem frU.tr {σ σ' σ'' : qM} (h : frU σ σ') (g : frU σ' σ'') : frU σ σ'' := fun a ha => by rw [g a ha, h a ha]
theorem frU.up (σ : qM) {o : Nat} (k : Nat) (v : Int32) (h : 16 ≤ o ∧ o ≤ 42) : frU σ (qup σ o k v) := fun a ha => qup_ne _ _ _ (by omega)
theorem rdc.fr {σ σ' : qM} {V : qV} (h : rdc σ V) (g : frU σ σ') : rdc σ' V := by
  unfold rdc
  rw [g 1 (by omega), g 3 (by omega), g 4 (by omega), g 6 (by omega), g 7 (by omega), g 8 (by omega), g 9 (by omega)]
  exact h
theorem partL_ok {σ : qM} {V : qV} (hV : v_ok V) (h : rdc σ V) {l j : Nat} (hl : l < v_n V) (hj : j < 3) : fX3_part σ 1 (nI l) (nI j) = some (nI (v_l V l j), σ) := by
  have h12 := hV.1
  unfold fX3_part
  simp only [h.2.1, pk_mul, nI_add, show l * 3 + j = 3 * l + j by omega, nI_clamp (show 3 * l + j < 2 ^ 31 by omega), h.2.2.1 l j hl hj]
  rw [if_pos (qin_of (by show _ < 36; omega) (by decide))]
theorem partR_ok {σ : qM} {V : qV} (hV : v_ok V) (h : rdc σ V) {k j : Nat} (hk : k < v_r V) (hj : j < 5) : fX3_part σ 4 (nI k) (nI j) = some (nI (v_q V k j), σ) := by
  have h10 := hV.2.1
  unfold fX3_part
  simp only [h.2.2.2.2.1, pk_mul, nI_add, show k * 5 + j = 5 * k + j by omega, nI_clamp (show 5 * k + j < 2 ^ 31 by omega), h.2.2.2.2.2.1 k j hk hj]
  rw [if_pos (qin_of (by show _ < 50; omega) (by decide))]
/-! rules sorted by kind -/
def rkf (V : qV) (h s : Nat) (k : Nat) : Bool := decide (v_q V k 1 = h ∧ 3 * v_q V k 0 + v_q V k 2 = s)
def rk (V : qV) (h s : Nat) : Nat := mk (rkf V h s) (v_r V)
theorem sort38 {σ0 : qM} {V : qV} (hV : v_ok V) (h : rdc σ0 V) (hz : ∀ h s, h < 4 → s < 9 → σ0 (36 + h) s = 0) : qok (fX0_sortRules_38 σ0 0) (fun σ' => frU σ0 σ' ∧ (∀ a, (a < 36 ∨ 39 < a) → σ' a = σ0 a) ∧ ∀ h s, h < 4 → s < 9 → σ' (36 + h) s = nI (rk V h s)) := by
  have h10 := hV.2.1
  unfold fX0_sortRules_38
  refine qok_lp2 (fun m σ x1 => ∃ k, m = v_r V - k ∧ k ≤ v_r V ∧ x1 = nI k ∧ (∀ a, (a < 36 ∨ 39 < a) → σ a = σ0 a) ∧ ∀ h s, h < 4 → s < 9 → σ (36 + h) s = nI (mk (rkf V h s) k)) ?_ qFU (v_r V) σ0 0 (by rw [qFU_eq]; omega) ⟨0, rfl, by omega, rfl, fun _ _ => rfl, fun h s hh hs => hz h s hh hs⟩
  rintro m kk ih σ x1 ⟨k, hm, hk, rfl, hf, hr⟩
  have hfu : frU σ0 σ := fun a ha => hf a (by omega)
  have hd := h.fr hfu
  unfold bX0_sortRules_38
  rw [hd.2.2.2.1]
  by_cases e : k = v_r V
  · subst e
    exact qok_t (nI_le (Nat.le_refl _) (by omega)) (qok_some ⟨hfu, hf, hr⟩)
  · have hlt : k < v_r V := by omega
    obtain ⟨q0, q1, q2, -, -⟩ := hV.2.2.2.2.1 k hlt
    refine qok_f (nI_ge hlt (by omega)) (qok_eq (partR_ok hV hd hlt (j := 0) (by decide)) (qok_eq (partR_ok hV hd hlt (j := 2) (by decide)) ?_))
    show qok (fX0_sortRules_71 kk σ (nI k) (3 * nI (v_q V k 0) + nI (v_q V k 2))) _
    rw [show (3 : Int32) * nI (v_q V k 0) = nI (3 * v_q V k 0) from pk_mul 3 _, nI_add]
    unfold fX0_sortRules_71
    refine qok_eq (partR_ok hV hd hlt (j := 1) (by decide)) (qok_t (qin_of q1 (by decide)) (qok_t (qin_of (by omega) (by decide)) (qok_t (qin_of (by omega) (by decide)) ?_)))
    show qok (kk (qup σ (36 + (nI (v_q V k 1)).toNatClampNeg) (nI (3 * v_q V k 0 + v_q V k 2)).toNatClampNeg ((σ (36 + (nI (v_q V k 1)).toNatClampNeg) (nI (3 * v_q V k 0 + v_q V k 2)).toNatClampNeg) ||| jshl 1 (nI k))) (nI k + 1)) _
    rw [nI_clamp (by omega), nI_clamp (by omega), hr _ _ q1 (show 3 * v_q V k 0 + v_q V k 2 < 9 by omega)]
    refine ih (v_r V - (k + 1)) _ _ (by omega) ⟨k + 1, rfl, by omega, nI_1 k, fun a ha => by rw [qup_ne _ _ _ (by omega)]; exact hf a ha, fun h2 s hh hs => ?_⟩
    rw [qup_at, ← mk_or (show k < 31 by omega)]
    by_cases e1 : h2 = v_q V k 1
    · subst e1
      rw [if_pos rfl]
      by_cases e2 : s = 3 * v_q V k 0 + v_q V k 2
      · subst e2
        rw [if_pos rfl, if_pos (by simp [rkf])]
      · rw [if_neg e2, hr _ _ hh hs, if_neg (by simp [rkf]; omega), or0]
    · rw [if_neg (by omega), hr _ _ hh hs, if_neg (by simp [rkf]; omega), or0]
theorem sortRules_ok {σ0 : qM} {V : qV} (hV : v_ok V) (h : rdc σ0 V) : qok (fX0_sortRules σ0) (fun σ' => frU σ0 σ' ∧ (∀ a, (a < 36 ∨ 39 < a) → σ' a = σ0 a) ∧ ∀ h s, h < 4 → s < 9 → σ' (36 + h) s = nI (rk V h s)) := by
  unfold fX0_sortRules fX0_sortRules_2
  refine qok_lp2 (fun m σ x1 => ∃ i, m = 4 - i ∧ i ≤ 4 ∧ x1 = nI i ∧ (∀ a, (a < 36 ∨ 39 < a) → σ a = σ0 a) ∧ ∀ h s, h < i → s < 9 → σ (36 + h) s = 0) ?_ qFU 4 σ0 0 (by rw [qFU_eq]; omega) ⟨0, rfl, by omega, rfl, fun _ _ => rfl, fun h s hh => by omega⟩
  rintro m k2 ih σ x1 ⟨i, hm, hi, rfl, hf, hr⟩
  unfold bX0_sortRules_2
  by_cases e : i = 4
  · subst e
    refine qok_t (by decide) (qok_mono (sort38 hV (h.fr (fun a ha => hf a (by omega))) hr) ?_)
    rintro σ2 ⟨g1, g2, g3⟩
    exact ⟨fun a ha => by rw [g1 a ha, hf a (by omega)], fun a ha => by rw [g2 a ha, hf a ha], g3⟩
  · refine qok_f (show ¬ nI 4 ≤ nI i from nI_ge (by omega) (by decide)) ?_
    unfold fX0_sortRules_9
    refine qok_lp3 (fun m2 σ2 x1 x2 => ∃ j, m2 = 9 - j ∧ j ≤ 9 ∧ x1 = nI i ∧ x2 = nI j ∧ (∀ a, (a < 36 ∨ 39 < a) → σ2 a = σ0 a) ∧ (∀ h s, h < i → s < 9 → σ2 (36 + h) s = 0) ∧ ∀ s, s < j → σ2 (36 + i) s = 0) ?_ qFU 9 σ (nI i) 0 (by rw [qFU_eq]; omega) ⟨0, rfl, by omega, rfl, rfl, hf, hr, fun s hs => by omega⟩
    rintro m2 k9 ih2 σ2 x1 x2 ⟨j, hm2, hj, rfl, rfl, hf2, hr2, hr3⟩
    unfold bX0_sortRules_9
    by_cases e2 : j = 9
    · subst e2
      refine qok_t (by decide) (ih (4 - (i + 1)) _ _ (by omega) ⟨i + 1, rfl, by omega, nI_1 i, hf2, fun h s hh hs => ?_⟩)
      by_cases e3 : h = i
      · subst e3; exact hr3 s hs
      · exact hr2 h s (by omega) hs
    · refine qok_f (show ¬ nI 9 ≤ nI j from nI_ge (by omega) (by decide)) (qok_t (qin_of (by omega) (by decide)) (qok_t (qin_of (by omega) (by decide)) ?_))
      rw [nI_clamp (by omega), nI_clamp (by omega)]
      refine ih2 (9 - (j + 1)) _ _ _ (by omega) ⟨j + 1, rfl, by omega, rfl, nI_1 j, fun a ha => by rw [qup_ne _ _ _ (by omega)]; exact hf2 a ha, fun h s hh hs => by rw [qup_ne _ _ _ (by omega)]; exact hr2 h s hh hs, fun s hs => ?_⟩
      rw [qup_eq, upd_at]
      by_cases e3 : s = j
      · rw [if_pos e3]
      · rw [if_neg e3]; exact hr3 s (by omega)
/-! readings by the rules that apply -/
def nof : Nat → Bool := fun _ => false
/-- the laws by a mask of rules -/
def lm (V : qV) (m : Nat) : Nat := lw V m.testBit nof (v_r V)
theorem lw_more {V : qV} {P fl : Nat → Bool} {k : Nat} : ∀ {n : Nat}, k ≤ n → (∀ j, k ≤ j → j < n → P j = false) → lw V P fl n = lw V P fl k
  | 0, h, _ => by rw [show k = 0 by omega]
  | n + 1, h, hp => by
    by_cases e : k = n + 1
    · rw [e]
    · rw [lw, if_neg (by rw [hp n (by omega) (by omega)]; decide)]
      exact lw_more (by omega) (fun j h1 h2 => hp j h1 (by omega))
theorem bit_hi {m k j : Nat} (h : m < 2 ^ k) (hj : k ≤ j) : m.testBit j = false := Nat.testBit_lt_two_pow (Nat.lt_of_lt_of_le h (p2_le hj))
theorem lm_at {V : qV} {m k : Nat} (hk : k ≤ v_r V) (h : m < 2 ^ k) : lm V m = lw V m.testBit nof k := lw_more hk (fun j h1 _ => bit_hi h h1)
theorem or_add {k e : Nat} (h : e < 2 ^ k) : 2 ^ k ||| e = 2 ^ k + e := by
  have := Nat.two_pow_add_eq_or_of_lt h 1
  rw [Nat.mul_one] at this
  exact this.symm
theorem lm_step {V : qV} {e k : Nat} (hk : k < v_r V) (h : e < 2 ^ k) : lm V (2 ^ k + e) = lstep V nof k (lm V e) := by
  have h1 : 2 ^ k + e < 2 ^ (k + 1) := by rw [Nat.pow_succ]; omega
  rw [lm_at (show k + 1 ≤ v_r V by omega) h1, lm_at (show k ≤ v_r V by omega) h, ← or_add h, lw, if_pos (by rw [Nat.testBit_or, Nat.testBit_two_pow]; simp)]
  congr 1
  refine lw_cong (fun j hj => ?_) (fun _ _ => rfl)
  rw [Nat.testBit_or, Nat.testBit_two_pow]
  have : ¬ k = j := by omega
  simp [this]
theorem readRules_ok {σ0 : qM} {V : qV} (hV : v_ok V) (h : rdc σ0 V) : qok (fX0_readRules σ0) (fun σ' => frU σ0 σ' ∧ (∀ a, ¬ a = 40 → σ' a = σ0 a) ∧ ∀ m, m < 2 ^ v_r V → σ' 40 m = nI (lm V m)) := by
  have h10 := hV.2.1
  unfold fX0_readRules fX0_readRules_9
  refine qok_lp2 (fun m σ x1 => ∃ k, m = v_r V - k ∧ k ≤ v_r V ∧ x1 = nI k ∧ (∀ a, ¬ a = 40 → σ a = σ0 a) ∧ ∀ m, m < 2 ^ k → σ 40 m = nI (lm V m)) ?_ qFU (v_r V) _ 0 (by rw [qFU_eq]; omega) ⟨0, rfl, by omega, rfl, fun a ha => qup_ne _ _ _ ha, fun m hm => ?_⟩
  · rintro m k9 ih σ x1 ⟨k, hm, hk, rfl, hf, hr⟩
    have hfu : frU σ0 σ := fun a ha => hf a (by omega)
    have hd := h.fr hfu
    unfold bX0_readRules_9
    rw [hd.2.2.2.1]
    by_cases e : k = v_r V
    · subst e
      exact qok_t (nI_le (Nat.le_refl _) (by omega)) (qok_some ⟨hfu, hf, hr⟩)
    · have hlt : k < v_r V := by omega
      obtain ⟨-, -, -, q3, q4⟩ := hV.2.2.2.2.1 k hlt
      refine qok_f (nI_ge hlt (by omega)) ?_
      rw [jshl1 (by omega)]
      unfold fX0_readRules_24
      refine qok_eq (partR_ok hV hd hlt (j := 4) (by decide)) ?_
      show qok (fX0_readRules_36 k9 σ (nI k) (nI (2 ^ k)) (jshl 1 (nI (v_q V k 4)))) _
      rw [jshl1 (by omega)]
      unfold fX0_readRules_36
      refine qok_eq (partR_ok hV hd hlt (j := 3) (by decide)) ?_
      have hp2 : 2 ^ k ≤ 512 := p2_le (a := k) (b := 9) (by omega)
      have inner : ∀ pl : Int32, (pl = if v_q V k 3 = 1 then 1 else 0) → qok (fX0_readRules_54 k9 σ (nI k) (nI (2 ^ k)) (nI (2 ^ v_q V k 4)) pl) (fun σ' => frU σ0 σ' ∧ (∀ a, ¬ a = 40 → σ' a = σ0 a) ∧ ∀ m, m < 2 ^ v_r V → σ' 40 m = nI (lm V m)) := by
        intro pl hpl
        unfold fX0_readRules_54 fX0_readRules_59
        refine qok_lp6 (fun m2 σ2 x1 x2 x3 x4 x5 => ∃ e, m2 = 2 ^ k - e ∧ e ≤ 2 ^ k ∧ x1 = nI k ∧ x2 = nI (2 ^ k) ∧ x3 = nI (2 ^ v_q V k 4) ∧ x4 = pl ∧ x5 = nI e ∧ (∀ a, ¬ a = 40 → σ2 a = σ0 a) ∧ ∀ m, m < 2 ^ k + e → σ2 40 m = nI (lm V m)) ?_ qFU (2 ^ k) σ _ _ _ _ 0 (by rw [qFU_eq]; omega) ⟨0, rfl, Nat.zero_le _, rfl, rfl, rfl, rfl, rfl, hf, fun m hm => hr m (by omega)⟩
        rintro m2 k59 ih2 σ2 x1 x2 x3 x4 x5 ⟨e2, hm2, he2, rfl, rfl, rfl, rfl, rfl, hf2, hr2⟩
        unfold bX0_readRules_59
        by_cases e3 : e2 = 2 ^ k
        · subst e3
          refine qok_t (nI_le (Nat.le_refl _) (by omega)) (ih (v_r V - (k + 1)) _ _ (by omega) ⟨k + 1, rfl, by omega, nI_1 k, hf2, fun m hm => hr2 m (by rw [Nat.pow_succ] at hm; omega)⟩)
        · have he3 : e2 < 2 ^ k := by omega
          refine qok_f (nI_ge he3 (by omega)) (qok_t (qin_of (by omega) (by decide)) ?_)
          rw [nI_clamp (by omega), hr2 e2 (by omega)]
          unfold fX0_readRules_74 fX0_readRules_100
          have hgo : ∀ v : Int32, v = nI (lm V (2 ^ k + e2)) → qok (if qin (nI (2 ^ k) ||| nI e2) 1024 then k59 (qup σ2 40 (nI (2 ^ k) ||| nI e2).toNatClampNeg v) (nI k) (nI (2 ^ k)) (nI (2 ^ v_q V k 4)) x4 (nI e2 + 1) else none) (fun σ' => frU σ0 σ' ∧ (∀ a, ¬ a = 40 → σ' a = σ0 a) ∧ ∀ m, m < 2 ^ v_r V → σ' 40 m = nI (lm V m)) := by
            intro v hv
            rw [fa_or, or_add he3]
            refine qok_t (qin_of (by omega) (by decide)) ?_
            rw [nI_clamp (by omega)]
            refine ih2 (2 ^ k - (e2 + 1)) _ _ _ _ _ _ (by omega) ⟨e2 + 1, rfl, by omega, rfl, rfl, rfl, rfl, nI_1 e2, fun a ha => by rw [qup_ne _ _ _ ha]; exact hf2 a ha, fun m hm => ?_⟩
            rw [qup_eq, upd_at]
            by_cases e4 : m = 2 ^ k + e2
            · rw [if_pos e4, hv, e4]
            · rw [if_neg e4]; exact hr2 m (by omega)
          have hst := lm_step hlt he3
          unfold lstep nof at hst
          by_cases hp : v_q V k 3 = 1
          · rw [if_pos hp] at hpl
            refine qok_f (by rw [hpl]; decide) (hgo _ ?_)
            rw [fa_or, hst, if_pos (by simp [hp])]
          · rw [if_neg hp] at hpl
            refine qok_t (by rw [hpl]) (hgo _ ?_)
            rw [andNot, hst, if_neg (by simp [hp])]
            rfl
      by_cases hp : v_q V k 3 = 1
      · refine qok_t (show nI (v_q V k 3) = 1 by rw [hp]; rfl) (inner 1 (by rw [if_pos hp]))
      · refine qok_f (show ¬ nI (v_q V k 3) = 1 from fun q => hp ((nI_eq (a := v_q V k 3) (b := 1) (by omega) (by decide)).mp q)) (inner 0 (by rw [if_neg hp]))
  · rw [show m = 0 by omega, qup_eq, upd_at, if_pos (by decide), lm_at (Nat.zero_le _) (show 0 < 2 ^ 0 by decide)]
    rfl

/-! ===== PURE: sinks ===== -/
/-- how often the terms can be halved -/
def snE (V : qV) (t k x e : Nat) : Prop := e ≤ 4 * v_n V ∧ Nat.gcd (chV V t k x) (2 ^ (4 * v_n V)) = 2 ^ e
def snV (V : qV) (t k x e j : Nat) : Int64 := if j = 0 then lN (chV V t k x / 2 ^ e) else lN (2 ^ (4 * v_n V - e))
theorem min_ok (σ : qM) {a b : Nat} (ha : a < 2 ^ 31) (hb : b < 2 ^ 31) : fJ9_min_7cf53 σ (nI a) (nI b) = some (nI (min a b), σ) := by
  unfold fJ9_min_7cf53
  by_cases c : b < a
  · rw [if_pos (nI_lt c ha), Nat.min_eq_right (by omega)]
  · rw [if_neg (nI_nlt (by omega) hb), Nat.min_eq_left (by omega)]
theorem smod64 : ∀ k, k < 64 → ((lN k).toBitVec.smod 64).toNat = k := by decide +kernel
theorem jlshr_n {a k : Nat} (ha : a < 2 ^ 62) (hk : k < 64) : jlshr (lN a) (nI k) = lN (a / 2 ^ k) := by
  unfold jlshr
  rw [wb_c k hk]
  exact pf_shr (smod64 k hk) ha
theorem jlshl_1 {k : Nat} (hk : k < 64) : jlshl 1 (nI k) = lN (2 ^ k) := by
  have := wb_shl 1 hk
  rw [Nat.one_mul] at this
  exact this
theorem sinks65 (σ : qM) {V : qV} (hV : v_ok V) {t k x j : Nat} (hx : x ≤ 16) (hj : j < 2) : ∃ e, snE V t k x e ∧ fX4_sinks_65 σ (nI j) (lN (chV V t k x)) (nI (4 * v_n V)) = some (snV V t k x e j, σ) := by
  have hn := hV.1
  have hT := ch_lt hV (t := t) (k := k) hx
  unfold fX4_sinks_65 snV snE
  generalize chV V t k x = T at hT ⊢
  have fin : ∀ e, e ≤ 4 * v_n V → (if nI j = 0 then (some ((jlshr (lN T) (nI e)), σ)) else (some ((jlshl (1 : Int64) (nI (4 * v_n V) - nI e)), σ))) = some ((if j = 0 then lN (T / 2 ^ e) else lN (2 ^ (4 * v_n V - e))), σ) := fun e he => by
    rw [jlshr_n (by omega) (by omega), pk_sub he, jlshl_1 (by omega)]
    rcases (show j = 0 ∨ j = 1 by omega) with rfl | rfl
    · rw [if_pos (show nI 0 = (0 : Int32) from rfl), if_pos rfl]
    · rw [if_neg (show ¬ nI 1 = (0 : Int32) by decide), if_neg (by decide)]
  by_cases c : T = 0
  · subst c
    refine ⟨4 * v_n V, ⟨Nat.le_refl _, Nat.gcd_zero_left _⟩, ?_⟩
    rw [bnd_s (lntz0 σ)]
    dsimp only
    rw [show (64 : Int32) = nI 64 from rfl, bnd_s (min_ok σ (a := 64) (b := 4 * v_n V) (by decide) (by omega)), Nat.min_eq_right (show 4 * v_n V ≤ 64 by omega)]
    exact fin _ (Nat.le_refl _)
  · obtain ⟨z, q, e⟩ := two_part T (by omega)
    have hz : z < 2 ^ 31 := by
      have h1 : z < 2 ^ z := Nat.lt_two_pow_self
      have h2 : 2 ^ z * 1 ≤ 2 ^ z * (2 * q + 1) := Nat.mul_le_mul (Nat.le_refl _) (by omega)
      by_cases w : z < 62
      · omega
      · have : 2 ^ 62 ≤ 2 ^ z := p2_le (by omega)
        omega
    refine ⟨min z (4 * v_n V), ⟨Nat.min_le_right _ _, by rw [e]; exact gcd_two z q _⟩, ?_⟩
    have hl : fJ13_numberOfTrailingZeros_95d88 σ (lN T) = some (nI z, σ) := by
      rw [e] at hT ⊢
      exact lntz σ (by omega)
    rw [bnd_s hl]
    dsimp only
    rw [bnd_s (min_ok σ hz (show 4 * v_n V < 2 ^ 31 by omega))]
    exact fin _ (Nat.min_le_right _ _)
theorem snE_uniq {V : qV} {t k x e e2 : Nat} (h : snE V t k x e) (h2 : snE V t k x e2) : e = e2 := by
  have h3 : 2 ^ e = 2 ^ e2 := h.2.symm.trans h2.2
  rcases Nat.lt_or_ge e e2 with c | c
  · have := Nat.pow_lt_pow_right (a := 2) (by decide) c; omega
  · rcases Nat.lt_or_ge e2 e with d | d
    · have := Nat.pow_lt_pow_right (a := 2) (by decide) d; omega
    · omega
theorem p16 (n : Nat) : 16 ^ n = 2 ^ (4 * n) := by rw [Nat.pow_mul]
theorem sinksOf_ok {β : qB} {σ : qM} (h : MS β σ) {t k x j e : Nat} (ht : t < 4) (hk : k < 8) (hx : x ≤ 16) (hj : j < 2) (he : snE (vw β) t k x e) : qok (fX5_sinksOf σ (nI x) (nI t) (nI k) (nI j)) (fun q => q.1 = snV (vw β) t k x e j ∧ frP (vw β) σ q.2) := by
  have hV := vw_ok h.1
  have hn := hV.1
  have hp := p2_le hn
  have hT := ch_lt hV (t := t) (k := k) hx
  unfold fX5_sinksOf
  refine qok_bind (qok_mono (turnsCup_ok hV h.2.2.2.1 ht) ?_)
  rintro σ1 ⟨f1, hc⟩
  have h1 := h.fr f1
  rw [show fX5_sinksOf_14 σ1 (nI x) (nI k) (nI j) 0 1 0 = _ from sinkPow hV h1.2.2.2.1.2.1 (nI x) (nI k) (nI j) 0 qFU 0 (Nat.zero_le _) (by rw [qFU_eq]; omega), show fX5_sinksOf_40 σ1 (nI x) (nI k) (nI j) 0 (lN (16 ^ v_n (vw β))) 0 = _ from sinkOut h1 hc hk hx (nI j) (lN (16 ^ v_n (vw β))) qFU 0 (Nat.zero_le _) (by rw [qFU_eq]; omega), ← ch_is hV, p16]
  unfold fX5_part fX5_part_6
  have hD : 2 ^ (4 * v_n (vw β)) ≤ 2 ^ 48 := p2_le (by omega)
  have hD0 : 0 < 2 ^ (4 * v_n (vw β)) := Nat.two_pow_pos _
  rw [partL σ1 _ _ (nI j) 49 (chV (vw β) t k x) (2 ^ (4 * v_n (vw β))) qFU (by omega) (by omega) (by omega) (Or.inr hD0) (by rw [qFU_eq]; omega), he.2]
  have hE : 2 ^ e ≤ 2 ^ 48 := p2_le (by have := he.1; omega)
  have hE0 : 0 < 2 ^ e := Nat.two_pow_pos _
  rw [pk_lDiv (by omega) hE0 (by omega), pk_lDiv (by omega) hE0 (by omega), Nat.pow_div he.1 (by decide)]
  unfold snV
  rcases (show j = 0 ∨ j = 1 by omega) with rfl | rfl
  · exact qok_t (show nI 0 = (0 : Int32) from rfl) (qok_some ⟨rfl, f1⟩)
  · exact qok_f (show ¬ nI 1 = (0 : Int32) by decide) (qok_some ⟨rfl, f1⟩)
theorem sinksD {β : qB} {σc σm : qM} (h : RD β σc σm) {t k x j : Nat} (ht : t < 4) (hk : k < 8) (hx : x ≤ 16) (hj : j < 2) : SimD β ((fX0_settled σc).bind fun q9 => (fX0_chanceAbove q9 (nI x) (nI t) (nI k)).bind fun q10 => fX4_sinks_65 q10.2 (nI j) q10.1 (4 * (q10.2 1 5))) (fX5_sinksOf σm (nI x) (nI t) (nI k) (nI j)) := by
  have hV := vw_ok h.1
  obtain ⟨e, he, _⟩ := sinks65 σc hV (t := t) (k := k) hx hj
  refine askD h (snV (vw β) t k x e j) (setq h _ (fun σ _ hd hu => ?_)) (sinksOf_ok h.ms ht hk hx hj he)
  obtain ⟨⟨r, σ1⟩, c0, c1, c2, c3⟩ := chance_ok hV hd hu ht hk hx
  dsimp only at c1 c2 c3
  subst c1
  rw [bnd_s c0]
  dsimp only
  obtain ⟨e2, he2, hv⟩ := sinks65 σ1 hV (t := t) (k := k) hx hj
  have := snE_uniq he he2
  subst this
  rw [(hd.fr c2).1, show (4 : Int32) * nI (v_n (vw β)) = nI (4 * v_n (vw β)) from pk_mul 4 _, hv]
  exact qok_some ⟨rfl, c2, Or.inr c3⟩
theorem sinksX {β : qB} {σc σm : qM} (h : RD β σc σm) {t k x j : Nat} (ht : t < 4) (hk : k < 8) (hx : x ≤ 16) (hj : j < 2) : SimD β (fX4_sinks σc (nI x) (nI t) (nI k) (nI j)) (fX5_sinksOf σm (nI x) (nI t) (nI k) (nI j)) := by
  unfold fX4_sinks
  rw [show (17 : Int32) = nI 17 from rfl, bnd_1 ((below_ok σc (nI x) 17 (by decide)).1 (bl_nI (show x < 17 by omega) (by decide))) (by decide)]
  dsimp only
  rw [bnd_1 (show fX4_below σc (nI t) 4 = some (1, σc) from (below_ok σc (nI t) 4 (by decide)).1 (bl_nI ht (by decide))) (by decide)]
  dsimp only
  rw [bnd_1 (show fX4_below σc (nI k) 8 = some (1, σc) from (below_ok σc (nI k) 8 (by decide)).1 (bl_nI hk (by decide))) (by decide)]
  dsimp only
  rw [bnd_1 (show fX4_below σc (nI j) 2 = some (1, σc) from (below_ok σc (nI j) 2 (by decide)).1 (bl_nI hj (by decide))) (by decide)]
  exact sinksD h ht hk hx hj
theorem bindL_id {α : Type} (x : Option (α × qM)) : (x.bind fun q => some (q.1, q.2)) = x := by cases x <;> rfl
theorem sim_sinks {σc σm : qM} (h : RR σc σm) (x1 x2 x3 x4 : Int32) : Sim (fX4_sinks σc x1 x2 x3 x4) (fX5_sinks σm x1 x2 x3 x4) := by
  unfold fX5_sinks
  refine sim_q h (fun β σ1 hR => ?_)
  have e50 : ∀ σ, fX5_sinks_50 σ = some ((-9223372036854775806 : Int64), σ) := fun σ => rfl
  simp only [e50]
  unfold fX4_sinks
  refine simD_test (t1 := fun σ => fX4_below σ x1 17) (t2 := fun σ => fX5_in σ x1.toInt64 0 16) (t_below x1 17 (by decide)) (t_in x1 17 (by decide) rfl) hR (fun h1 => ?_)
  refine simD_test (t1 := fun σ => fX4_below σ x2 4) (t2 := fun σ => fX5_areTurns σ x2) (t_below x2 4 (by decide)) (t_turns x2) hR (fun h2 => ?_)
  refine simD_test (t1 := fun σ => fX4_below σ x3 8) (t2 := fun σ => fX5_isLaw σ x3) (t_below x3 8 (by decide)) (t_law x3) hR (fun h3 => ?_)
  refine simD_test (t1 := fun σ => fX4_below σ x4 2) (t2 := fun σ => fX5_isTwo σ x4) (t_below x4 2 (by decide)) (t_two x4) hR (fun h4 => ?_)
  obtain ⟨x, hx, rfl⟩ := bl_of h1 (by decide)
  obtain ⟨t, ht, rfl⟩ := bl_of h2 (by decide)
  obtain ⟨k, hk, rfl⟩ := bl_of h3 (by decide)
  obtain ⟨j, hj, rfl⟩ := bl_of h4 (by decide)
  dsimp only
  rw [bind_id]
  exact sinksD hR ht hk (by omega) hj

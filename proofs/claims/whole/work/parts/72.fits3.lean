/-! ===== PURE: fits ===== -/
def miB (β : qB) (kind i j : Nat) : Bool := !decide (had (vw β) ((bts β).2 j 0) kind i = (bts β).2 j 1)
def fitB (β : qB) (kind i : Nat) : Bool := !(List.range (bts β).1).any (miB β kind i)
def fN (V : qV) (kind : Nat) : Nat := if kind = 1 then v_n V else v_r V
theorem fN_le {V : qV} (hV : v_ok V) (kind : Nat) : fN V kind ≤ 12 := by
  have := hV.1
  have := hV.2.1
  unfold fN
  split <;> omega
theorem wouldL {β : qB} {σ : qM} (hb : bt_ok β) (hA : AC σ β) (hd : rdc σ (vw β)) (hu : cupV σ (vw β)) {kind i : Nat} (hk : kind < 3) (hi : i < fN (vw β) kind) : ∀ n j, j ≤ (bts β).1 → (bts β).1 - j < n → (List.range j).any (miB β kind i) = false → qlp (fun _ _ _ _ => none) bX4_wouldFit_3 n σ (nI kind) (nI i) (nI j) = some (b2i (fitB β kind i), σ) := by
  have hV := vw_ok hb
  have hS := hb.2.2.2.2.1
  intro n
  induction n with
  | zero => intro j _ h; omega
  | succ n ih =>
    intro j hj hfu hany
    rw [qlp_succ]
    generalize qlp (fun _ _ _ _ => none) bX4_wouldFit_3 n = kk at ih ⊢
    unfold bX4_wouldFit_3
    rw [hA.2.2.2.2.1.1]
    by_cases e : j = (bts β).1
    · rw [if_pos (nI_le (by omega) (by omega))]
      unfold fitB
      rw [← e, hany]
      rfl
    · obtain ⟨s1, s2⟩ := hS.2 j (by omega)
      obtain ⟨a1, a2⟩ := hA.2.2.2.2.1.2 j (by omega)
      have hl := had_lt hV ((bts β).2 j 0) kind i
      rw [if_neg (nI_ge (by omega) (by omega)), if_pos (qin_of (by omega) (by decide))]
      simp only [nI_clamp (show j < 2 ^ 31 by omega)]
      rw [show σ 14 j = nI ((bts β).2 j 0) from a1, bnd_s (had_ok hV hd hu s1 hk hi)]
      dsimp only
      rw [if_pos (qin_of (by omega) (by decide)), nI_1]
      by_cases c : had (vw β) ((bts β).2 j 0) kind i = (bts β).2 j 1
      · rw [if_pos (show nI (had (vw β) ((bts β).2 j 0) kind i) = σ 15 j by rw [c]; exact a2.symm)]
        exact ih (j + 1) (by omega) (by omega) (by rw [any_succ, hany, show miB β kind i j = false by unfold miB; rw [decide_eq_true c]; rfl]; rfl)
      · rw [if_neg (show ¬ nI (had (vw β) ((bts β).2 j 0) kind i) = σ 15 j from fun q => c ((nI_eq (by omega) (by omega)).mp (q.trans a2)))]
        unfold fitB
        rw [any_of (i := j + 1) (by omega) (by rw [any_succ, show miB β kind i j = true by unfold miB; rw [decide_eq_false c]; rfl, Bool.or_true])]
        rfl
theorem fitsC {β : qB} {σ : qM} (hb : bt_ok β) (hA : AC σ β) (hd : rdc σ (vw β)) (hu : cupV σ (vw β)) {kind : Nat} (hk : kind < 3) : ∀ n i, i ≤ fN (vw β) kind → fN (vw β) kind - i < n → qlp (fun _ _ _ _ _ => none) bX4_fits_48 n σ (nI kind) (nI (fN (vw β) kind)) (nI (mk (fitB β kind) i)) (nI i) = some (nI (mk (fitB β kind) (fN (vw β) kind)), σ) := by
  have hV := vw_ok hb
  have hS := hb.2.2.2.2.1
  have hN := fN_le hV kind
  intro n
  induction n with
  | zero => intro j _ h; omega
  | succ n ih =>
    intro i hi hfu
    rw [qlp_succ]
    generalize qlp (fun _ _ _ _ _ => none) bX4_fits_48 n = kk at ih ⊢
    unfold bX4_fits_48 fX4_fits_74
    by_cases e : i = fN (vw β) kind
    · rw [if_pos (nI_le (by omega) (by omega)), e]
    · have e1 : fX4_wouldFit σ (nI kind) (nI i) = some (b2i (fitB β kind i), σ) := wouldL hb hA hd hu hk (by omega) qFU 0 (Nat.zero_le _) (by rw [qFU_eq]; omega) rfl
      rw [if_neg (nI_ge (by omega) (by omega)), nI_1]
      cases hq : fitB β kind i with
      | true =>
        rw [hq] at e1
        rw [bnd_1 e1 (by decide)]
        dsimp only
        rw [mk_t (b := i) (by omega) hq]
        exact ih (i + 1) (by omega) (by omega)
      | false =>
        rw [hq] at e1
        rw [bnd_0 e1]
        dsimp only
        rw [mk_f (f := fitB β kind) (b := i) (by omega) hq]
        exact ih (i + 1) (by omega) (by omega)
/-! the reference -/
def frF (V : qV) (σ σ' : qM) : Prop := (∀ a, ¬ a = 0 → ¬ a = 7 → ¬ a = 12 → ¬ a = 13 → ¬ a = 14 → σ' a = σ a) ∧ (∀ k, ¬ k = 20 → ¬ k = 21 → ¬ k = 22 → ¬ k = 23 → σ' 0 k = σ 0 k) ∧ (∀ i, i < 3 * v_n V → σ' 7 i = σ 7 i)
theorem frF.tr {V : qV} {σ σ' σ'' : qM} (h : frF V σ σ') (g : frF V σ' σ'') : frF V σ σ'' := ⟨fun a h1 h2 h3 h4 h5 => by rw [g.1 a h1 h2 h3 h4 h5, h.1 a h1 h2 h3 h4 h5], fun k h1 h2 h3 h4 => by rw [g.2.1 k h1 h2 h3 h4, h.2.1 k h1 h2 h3 h4], fun i hi => by rw [g.2.2 i hi, h.2.2 i hi]⟩
theorem frP.F {V : qV} {σ σ' : qM} (h : frP V σ σ') : frF V σ σ' := ⟨h.1, fun k k1 k2 _ _ => h.2.1 k k1 k2, h.2.2⟩
theorem frF.rf (V : qV) (σ : qM) : frF V σ σ := (frP.rf V σ).F
theorem frF.up {V : qV} (σ : qM) {k : Nat} (v : Int32) (hk : k = 22 ∨ k = 23) : frF V σ (qup σ 0 k v) := ⟨fun a a1 _ _ _ _ => qup_ne _ _ _ a1, fun j _ _ j3 j4 => by rw [qup_eq, upd_at, if_neg (by omega)], fun i _ => by rw [qup_ne _ _ _ (by decide)]⟩
theorem rdm.fF {V : qV} {σ σ' : qM} (h : rdm σ V) (g : frF V σ σ') : rdm σ' V := by
  refine ⟨⟨by rw [g.2.1 10 (by decide) (by decide) (by decide) (by decide)]; exact h.1.1, fun k j hk hj => by rw [g.1 8 (by decide) (by decide) (by decide) (by decide) (by decide)]; exact h.1.2.1 k j hk hj, by rw [g.2.1 12 (by decide) (by decide) (by decide) (by decide)]; exact h.1.2.2.1, fun i hi => by rw [g.1 9 (by decide) (by decide) (by decide) (by decide) (by decide)]; exact h.1.2.2.2 i hi⟩, by rw [g.2.1 8 (by decide) (by decide) (by decide) (by decide)]; exact h.2.1, fun l j hl hj => by rw [g.2.2 _ (by omega)]; exact h.2.2 l j hl hj⟩
theorem isRead_ok {β : qB} {σ0 σ : qM} (h0 : MS β σ0) {kind i : Nat} (hi : i < 12) (f : frF (vw β) σ0 σ) (h22 : σ 0 22 = nI (fSt kind i)) (h23 : σ 0 23 = fFl kind i) : qok (fX5_isRead σ (nI (fOu kind i))) (fun q => q.1 = b2i (fitB β kind i) ∧ frF (vw β) σ0 q.2) := by
  have hV := vw_ok h0.1
  have hS := h0.1.2.2.2.2.1
  have hst : fSt kind i < 2 ^ 31 := by
    have : 2 ^ i < 2 ^ 31 := Nat.pow_lt_pow_right (by decide) (by omega)
    unfold fSt
    split <;> omega
  unfold fX5_isRead
  refine qok_lp4 (z := fun _ _ _ _ => none) (b := bX5_isRead_4) (fun mm σ x1 x2 x3 => x1 = nI (fOu kind i) ∧ frF (vw β) σ0 σ ∧ σ 0 22 = nI (fSt kind i) ∧ σ 0 23 = fFl kind i ∧ ∃ j, j ≤ (bts β).1 ∧ mm = (bts β).1 - j ∧ x2 = b2i (!(List.range j).any (miB β kind i)) ∧ x3 = nI j) ?_ qFU (bts β).1 σ _ 1 0 (by rw [qFU_eq]; omega) ⟨rfl, f, h22, h23, 0, Nat.zero_le _, rfl, rfl, rfl⟩
  rintro mm kk ih σ1 x1 x2 x3 ⟨rfl, f1, e22, e23, j, hj, rfl, rfl, rfl⟩
  have e24 : σ1 0 24 = nI (bts β).1 := by rw [f1.2.1 24 (by decide) (by decide) (by decide) (by decide)]; exact h0.2.1.2.2.2.2.1.1
  unfold bX5_isRead_4 fX5_isRead_58
  rw [e24]
  by_cases e : j = (bts β).1
  · refine qok_t (nI_le (by omega) (by omega)) (qok_t (b2i_01 _) (qok_some ⟨?_, f1⟩))
    unfold fitB
    rw [e]
  · refine qok_f (nI_ge (by omega) (by omega)) ?_
    cases hq : (List.range j).any (miB β kind i) with
    | true =>
      refine qok_t (show b2i (!true) = 0 from rfl) (qok_t (Or.inl rfl) (qok_some ⟨?_, f1⟩))
      unfold fitB
      rw [any_of (i := j) (by omega) hq]
    | false =>
      refine qok_f (show ¬ b2i (!false) = 0 by decide) ?_
      obtain ⟨s1, s2⟩ := hS.2 j (by omega)
      obtain ⟨a1, a2⟩ := h0.2.1.2.2.2.2.1.2 j (by omega)
      have c15 : σ1 15 = σ0 15 := f1.1 15 (by decide) (by decide) (by decide) (by decide) (by decide)
      rw [show (2 : Int32) * nI j = nI (2 * j) from pk_mul 2 j, show nI (2 * j) + 1 = nI (2 * j + 1) from nI_1 _]
      refine qok_t (qin_of (by omega) (by decide)) ?_
      rw [nI_clamp (by omega), c15, a1]
      refine qok_bind (qok_mono (turnsCup_ok hV (h0.2.2.2.1.fF f1) s1) ?_)
      rintro σ2 ⟨g1, g2, g3, g4⟩
      have f2 := f1.tr g1.F
      have hsm := smN hV ((bts β).2 j 0)
      have hout : sm (vw β) (ly (vw β) ((bts β).2 j 0)) ^^^ (sm (vw β) (ly (vw β) ((bts β).2 j 0)) &&& fOu kind i) < 2 ^ 12 := cut_lt hsm
      have r22 : σ2 0 22 = nI (fSt kind i) := by rw [g1.2.1 22 (by decide) (by decide)]; exact e22
      have r23 : σ2 0 23 = fFl kind i := by rw [g1.2.1 23 (by decide) (by decide)]; exact e23
      have hrd := readBy_ok hV (ly_ok hV ((bts β).2 j 0)) (h0.2.2.2.1.fF f2).1 g2.1 g4 (m := sm (vw β) (ly (vw β) ((bts β).2 j 0)) ^^^ (sm (vw β) (ly (vw β) ((bts β).2 j 0)) &&& fOu kind i)) (st := fSt kind i) (by omega) hst r22
      rw [r23] at hrd
      rw [g3, andNot, bnd_s hrd]
      dsimp only
      refine qok_t (qin_of (by omega) (by decide)) ?_
      have hl := had_lt hV ((bts β).2 j 0) kind i
      have c15b : σ2 15 (2 * j + 1) = nI ((bts β).2 j 1) := by rw [f2.1 15 (by decide) (by decide) (by decide) (by decide) (by decide)]; exact a2
      rw [nI_clamp (by omega), nI_1]
      have e2 : ∀ x : Int32, x = b2i (!(List.range (j + 1)).any (miB β kind i)) → qok (kk σ2 (nI (fOu kind i)) x (nI (j + 1))) (fun q => q.1 = b2i (fitB β kind i) ∧ frF (vw β) σ0 q.2) := fun x hx => ih ((bts β).1 - (j + 1)) _ _ _ _ (by omega) ⟨rfl, f2, r22, r23, j + 1, by omega, rfl, hx, rfl⟩
      by_cases c : had (vw β) ((bts β).2 j 0) kind i = (bts β).2 j 1
      · refine qok_t ?_ (e2 _ ?_)
        · rw [c15b, ← c]; rfl
        · rw [any_succ, hq, show miB β kind i j = false by unfold miB; rw [decide_eq_true c]; rfl]; rfl
      · refine qok_f (fun q => c ?_) (e2 _ ?_)
        · rw [c15b] at q
          exact (nI_eq (a := had (vw β) ((bts β).2 j 0) kind i) (by omega) (by omega)).mp q
        · rw [any_succ, hq, show miB β kind i j = true by unfold miB; rw [decide_eq_false c]; rfl]; rfl
theorem fitsOf_ok {β : qB} {σ0 : qM} (h0 : MS β σ0) {kind : Nat} (hk : kind < 3) : qok (fX5_fitsOf σ0 (nI kind)) (fun q => q.1 = nI (mk (fitB β kind) (fN (vw β) kind)) ∧ frP (vw β) σ0 q.2) := by
  have hV := vw_ok h0.1
  have hN := fN_le hV kind
  unfold fX5_fitsOf
  refine qok_lp4 (z := fun _ _ _ _ => none) (b := bX5_fitsOf_4) (fun mm σ x1 x2 x3 => x1 = nI kind ∧ frF (vw β) σ0 σ ∧ ∃ i, i ≤ fN (vw β) kind ∧ mm = fN (vw β) kind - i ∧ x2 = nI (mk (fitB β kind) i) ∧ x3 = nI i) ?_ qFU (fN (vw β) kind) σ0 _ 0 0 (by rw [qFU_eq]; omega) ⟨rfl, frF.rf _ _, 0, Nat.zero_le _, rfl, rfl, rfl⟩
  rintro mm kk ih σ x1 x2 x3 ⟨rfl, f, i, hi, rfl, rfl, rfl⟩
  have hm := h0.2.2.2.1.fF f
  have e21 : bX5_fitsOf_4 kk σ (nI kind) (nI (mk (fitB β kind) i)) (nI i) = fX5_fitsOf_21 kk σ (nI kind) (nI (mk (fitB β kind) i)) (nI i) (nI (fN (vw β) kind)) (nI i) := by
    unfold bX5_fitsOf_4 fN
    rw [hm.2.1, hm.1.1]
    by_cases c : kind = 1
    · rw [if_pos (show nI kind = (1 : Int32) from congrArg nI c), if_pos c]
    · rw [if_neg (show ¬ nI kind = (1 : Int32) from fun q => c ((nI_eq (b := 1) (by omega) (by decide)).mp q)), if_neg c]
  rw [e21]
  unfold fX5_fitsOf_21 fX5_fitsOf_93
  by_cases e : i = fN (vw β) kind
  · refine qok_t (nI_le (by omega) (by omega)) (qok_some ⟨by rw [e], ⟨fun a a1 a2 a3 a4 a5 => by dsimp only; rw [qup_ne _ _ _ a1, qup_ne _ _ _ a1, f.1 a a1 a2 a3 a4 a5], fun k k1 k2 => ?_, fun j hj => by dsimp only; rw [qup_ne _ _ _ (by decide), qup_ne _ _ _ (by decide), f.2.2 j hj]⟩⟩)
    dsimp only
    rw [qup_eq, upd_at, qup_eq, upd_at]
    by_cases c : k = 23
    · rw [if_pos c, c]; exact h0.2.2.2.2.2.symm
    · rw [if_neg c]
      by_cases c2 : k = 22
      · rw [if_pos c2, c2]; exact h0.2.2.2.2.1.symm
      · rw [if_neg c2, f.2.1 k k1 k2 c2 c]
  · refine qok_f (nI_ge (by omega) (by omega)) ?_
    have step : ∀ σ', σ' = qup (qup σ 0 22 (nI (fSt kind i))) 0 23 (fFl kind i) → qok (fX5_fitsOf_67 kk σ' (nI kind) (nI i) (nI (fOu kind i)) (nI (mk (fitB β kind) i))) (fun q => q.1 = nI (mk (fitB β kind) (fN (vw β) kind)) ∧ frP (vw β) σ0 q.2) := fun σ' hσ => by
      have f' : frF (vw β) σ0 σ' := by rw [hσ]; exact (f.tr (frF.up σ _ (Or.inl rfl))).tr (frF.up _ _ (Or.inr rfl))
      unfold fX5_fitsOf_67 fX5_fitsOf_80 fX5_fitsOf_82
      refine qok_bind (qok_mono (isRead_ok h0 (show i < 12 by omega) f' (by rw [hσ, qup_eq, upd_at, if_neg (by decide), qup_eq, upd_at, if_pos rfl]) (by rw [hσ, qup_eq, upd_at, if_pos rfl])) ?_)
      rintro ⟨r, σ2⟩ ⟨r1, r2⟩
      dsimp only at r1 r2 ⊢
      subst r1
      rw [nI_1]
      cases hq : fitB β kind i with
      | true =>
        refine qok_f (show ¬ b2i true = 0 by decide) ?_
        rw [mk_t (b := i) (by omega) hq]
        exact ih (fN (vw β) kind - (i + 1)) _ _ _ _ (by omega) ⟨rfl, r2, i + 1, by omega, rfl, rfl, rfl⟩
      | false =>
        refine qok_t (show b2i false = 0 from rfl) ?_
        rw [mk_f0 (f := fitB β kind) (b := i) (by omega) hq]
        exact ih (fN (vw β) kind - (i + 1)) _ _ _ _ (by omega) ⟨rfl, r2, i + 1, by omega, rfl, rfl, rfl⟩
    unfold fX5_fitsOf_36 fX5_fitsOf_50
    rw [jshl1 (show i < 31 by omega)]
    rcases (show kind = 0 ∨ kind = 1 ∨ kind = 2 by omega) with rfl | rfl | rfl
    · refine qok_t (show nI 0 = (0 : Int32) from rfl) (qok_f (show ¬ nI 0 = (2 : Int32) by decide) (qok_f (show ¬ nI 0 = (1 : Int32) by decide) ?_))
      exact step _ rfl
    · refine qok_f (show ¬ nI 1 = (0 : Int32) by decide) (qok_f (show ¬ nI 1 = (2 : Int32) by decide) (qok_t (show nI 1 = (1 : Int32) from rfl) ?_))
      exact step _ rfl
    · refine qok_f (show ¬ nI 2 = (0 : Int32) by decide) (qok_t (show nI 2 = (2 : Int32) from rfl) (qok_f (show ¬ nI 2 = (1 : Int32) by decide) ?_))
      exact step _ rfl
theorem fitsD {β : qB} {σc σm : qM} (h : RD β σc σm) {kind : Nat} (hk : kind < 3) : SimD β ((fX0_settled σc).bind fun q3 => if nI kind = 1 then (fX4_fits_41 q3 (nI kind) (q3 1 5))
  else (fX4_fits_41 q3 (nI kind) (q3 4 5))) (fX5_fitsOf σm (nI kind)) := by
  have hV := vw_ok h.1
  have hN := fN_le hV kind
  refine askD h _ (setp h _ (fun σ hA hd hu => ?_)) (fitsOf_ok h.ms hk)
  have e : (if nI kind = 1 then (fX4_fits_41 σ (nI kind) (σ 1 5)) else (fX4_fits_41 σ (nI kind) (σ 4 5))) = fX4_fits_41 σ (nI kind) (nI (fN (vw β) kind)) := by
    unfold fN
    rw [hd.1, hd.2.2.2.1]
    by_cases c : kind = 1
    · rw [if_pos (show nI kind = (1 : Int32) from congrArg nI c), if_pos c]
    · rw [if_neg (show ¬ nI kind = (1 : Int32) from fun q => c ((nI_eq (b := 1) (by omega) (by decide)).mp q)), if_neg c]
  rw [e]
  unfold fX4_fits_41
  exact fitsC h.1 hA hd hu hk qFU 0 (Nat.zero_le _) (by rw [qFU_eq]; omega)
theorem fitsX {β : qB} {σc σm : qM} (h : RD β σc σm) {kind : Nat} (hk : kind < 3) : SimD β (fX4_fits σc (nI kind)) (fX5_fitsOf σm (nI kind)) := by
  unfold fX4_fits
  rw [show (3 : Int32) = nI 3 from rfl, bnd_1 ((below_ok σc (nI kind) 3 (by decide)).1 (bl_nI hk (by decide))) (by decide)]
  exact fitsD h hk
theorem sim_fits {σc σm : qM} (h : RR σc σm) (x1 : Int32) : Sim (fX4_fits σc x1) (fX5_fits σm x1) := by
  unfold fX5_fits
  refine sim_q h (fun β σ1 hR => ?_)
  unfold fX4_fits
  refine simD_test (t1 := fun σ => fX4_below σ x1 3) (t2 := fun σ => fX5_in σ x1.toInt64 0 2) (t_below x1 3 (by decide)) (t_in x1 3 (by decide) rfl) hR (fun h1 => ?_)
  obtain ⟨k, hk, rfl⟩ := bl_of h1 (by decide)
  dsimp only
  rw [bind_id]
  exact fitsD hR hk

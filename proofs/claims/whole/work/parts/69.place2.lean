/-! ===== PURE: one leaf more, the reference ===== -/
theorem readNowC {β : qB} {σ : qM} (h : MS β σ) {t : Nat} (ht : t < 4) : qok (fX5_readNow σ (nI t)) (fun q => q.1 = nI (rdg (vw β) t) ∧ frP (vw β) σ q.2 ∧ cup q.2 (vw β) (ly (vw β) t)) := by
  have hV := vw_ok h.1
  unfold fX5_readNow
  refine qok_bind (qok_mono (turnsCup_ok hV h.2.2.2.1 ht) ?_)
  rintro σ1 ⟨f1, hc⟩
  have hsm := smN hV t
  rw [hc.2.1, rdB (h.fr f1) hc (by omega)]
  exact qok_some ⟨rfl, f1, hc⟩
def lpo (σ : qM) (V : qV) (t : Nat) : Prop := ∀ l, l < v_n V → σ 12 l = nI (y_c (ly V t) l) ∧ σ 13 l = nI (y_r (ly V t) l)
theorem isFree_ok {σ : qM} {V : qV} (hV : v_ok V) {t c r : Nat} (h8 : σ 0 8 = nI (v_n V)) (hp : lpo σ V t) (hc : c < 6) (hr : r < 6) : ∀ n i, i ≤ v_n V → v_n V - i < n → qlp (fun _ _ _ _ _ => none) bX5_isFree_5 n σ (nI c) (nI r) (b2i (!(List.range i).any (tkB V t c r))) (nI i) = some (b2i (!(List.range (v_n V)).any (tkB V t c r)), σ) := by
  have hn := hV.1
  intro n
  induction n with
  | zero => intro i _ h; omega
  | succ n ih =>
    intro i hi hfu
    rw [qlp_succ]
    generalize qlp (fun _ _ _ _ _ => none) bX5_isFree_5 n = kk at ih ⊢
    unfold bX5_isFree_5 fX5_isFree_44 fX5_isFree_40 fX5_isFree_45
    rw [h8]
    by_cases e : i = v_n V
    · rw [if_pos (nI_le (by omega) (by omega)), if_pos (b2i_01 _), e]
    · obtain ⟨p1, p2⟩ := hp i (by omega)
      have yl := (ly_ok hV t).2 i (show i < v_n V by omega)
      have h1 := ih (i + 1) (by omega) (by omega)
      rw [any_succ] at h1
      rw [if_neg (nI_ge (by omega) (by omega)), nI_1, if_pos (qin_of (show i < 13 by omega) (by decide)), if_pos (qin_of (show i < 13 by omega) (by decide)), nI_clamp (by omega)]
      simp only [p1, p2]
      cases hq : (List.range i).any (tkB V t c r) with
      | true =>
        rw [hq] at h1
        rw [if_pos (show b2i (!true) = 0 from rfl)]
        exact h1
      | false =>
        rw [hq, Bool.false_or] at h1
        rw [if_neg (show ¬ b2i (!false) = 0 by decide)]
        by_cases c1 : y_c (ly V t) i = c
        · rw [if_pos (congrArg nI c1)]
          by_cases c2 : y_r (ly V t) i = r
          · rw [if_pos (congrArg nI c2)]
            rw [show tkB V t c r i = true from decide_eq_true ⟨c1, c2⟩] at h1
            exact h1
          · rw [if_neg (fun q => c2 ((nI_eq (by omega) (by omega)).mp q))]
            rw [show tkB V t c r i = false from decide_eq_false (fun q => c2 q.2)] at h1
            exact h1
        · rw [if_neg (fun q => c1 ((nI_eq (by omega) (by omega)).mp q))]
          rw [show tkB V t c r i = false from decide_eq_false (fun q => c1 q.1)] at h1
          exact h1
theorem pl66 {σ : qM} {n : Nat} (hn : n ≤ 12) (h8 : σ 0 8 = nI n) (k13 : qM → Int32 → Int32 → Int32 → Option (Int32 × qM)) (x2 x3 x4 x5 x6 : Int32) : fX5_placeOf_66 k13 σ x2 x3 x4 x5 x6 = fX5_placeOf_98 k13 (qup (qup (qup σ 12 n x5) 13 n x6) 0 20 (nI (n + 1))) x2 x3 x4 := by
  have e1 : (qup σ 12 n x5) 0 8 = nI n := by rw [qup_ne _ _ _ (by decide), h8]
  have e2 : (qup (qup σ 12 n x5) 13 n x6) 0 8 = nI n := by rw [qup_ne _ _ _ (by decide), e1]
  unfold fX5_placeOf_66
  rw [h8, if_pos (qin_of (by omega) (by decide)), nI_clamp (by omega)]
  unfold fX5_placeOf_77
  rw [e1, if_pos (qin_of (by omega) (by decide)), nI_clamp (by omega)]
  unfold fX5_placeOf_88
  rw [e2, nI_1]
theorem pl98 {β : qB} {σ0 σ : qM} (h0 : MS β σ0) {t k s c r : Nat} (hk : k < 8) (hs : s < 3) (hc : c < 6) (hr : r < 6) (f : frP (vw β) σ0 σ) (hp : lpo σ (vw β) t) : ∃ σ5, frP (vw β) σ0 σ5 ∧ lpo σ5 (vw β) t ∧ ∀ (k13 : qM → Int32 → Int32 → Int32 → Option (Int32 × qM)) (x2 x3 x4 : Int32), x2 = nI k → fX5_placeOf_66 k13 (qup σ 7 (3 * v_n (vw β) + 2) (nI s)) x2 x3 x4 (nI c) (nI r) = if b2i ((rdx (vw β) t s c r).testBit k) = x3 then k13 σ5 x2 x3 (x4 + 1) else some (x4, σ5) := by
  have hV := vw_ok h0.1
  have hn := hV.1
  have hm := (h0.fr f).2.2
  have h8 : (qup σ 7 (3 * v_n (vw β) + 2) (nI s)) 0 8 = nI (v_n (vw β)) := by rw [qup_ne _ _ _ (by decide)]; exact hm.2.1.2.1
  generalize hσ4 : qup (qup (qup (qup σ 7 (3 * v_n (vw β) + 2) (nI s)) 12 (v_n (vw β)) (nI c)) 13 (v_n (vw β)) (nI r)) 0 20 (nI (v_n (vw β) + 1)) = σ4
  have a0 : ∀ a, ¬ a = 0 → ¬ a = 7 → ¬ a = 12 → ¬ a = 13 → σ4 a = σ a := fun a a1 a2 a3 a4 => by rw [← hσ4, qup_ne _ _ _ a1, qup_ne _ _ _ a4, qup_ne _ _ _ a3, qup_ne _ _ _ a2]
  have a1 : ∀ j, σ4 0 j = if j = 20 then nI (v_n (vw β) + 1) else σ 0 j := fun j => by rw [← hσ4, qup_eq, upd_at, qup_ne _ _ _ (by decide), qup_ne _ _ _ (by decide), qup_ne _ _ _ (by decide)]
  have a7 : ∀ j, σ4 7 j = if j = 3 * v_n (vw β) + 2 then nI s else σ 7 j := fun j => by rw [← hσ4, qup_ne _ _ _ (by decide), qup_ne _ _ _ (by decide), qup_ne _ _ _ (by decide), qup_eq, upd_at]
  have a12 : ∀ j, σ4 12 j = if j = v_n (vw β) then nI c else σ 12 j := fun j => by rw [← hσ4, qup_ne _ _ _ (by decide), qup_ne _ _ _ (by decide), qup_eq, upd_at, qup_ne _ _ _ (by decide)]
  have a13 : ∀ j, σ4 13 j = if j = v_n (vw β) then nI r else σ 13 j := fun j => by rw [← hσ4, qup_ne _ _ _ (by decide), qup_eq, upd_at, qup_ne _ _ _ (by decide), qup_ne _ _ _ (by decide)]
  have hq4 : rqm σ4 (vw β) := by
    unfold rqm
    rw [a1, a1, if_neg (by decide), if_neg (by decide), a0 8 (by decide) (by decide) (by decide) (by decide), a0 9 (by decide) (by decide) (by decide) (by decide)]
    exact hm.2.1.1
  have hy4 : lym σ4 (lyx (vw β) t s c r) := by
    refine ⟨by rw [a1, if_pos rfl]; rfl, fun l hl => ?_⟩
    have hl2 : l < v_n (vw β) + 1 := hl
    rw [a7, a12, a13]
    show _ = nI (if l = v_n (vw β) then s else y_s (ly (vw β) t) l) ∧ _ = nI (if l = v_n (vw β) then c else y_c (ly (vw β) t) l) ∧ _ = nI (if l = v_n (vw β) then r else y_r (ly (vw β) t) l)
    by_cases e : l = v_n (vw β)
    · rw [if_pos (by omega), if_pos e, if_pos e, if_pos e, if_pos e, if_pos e]; exact ⟨rfl, rfl, rfl⟩
    · rw [if_neg (by omega), if_neg e, if_neg e, if_neg e, if_neg e, if_neg e]
      exact ⟨hm.2.1.2.2 l 2 (by omega) (by decide), hp l (by omega)⟩
  obtain ⟨σ5, e5, g1, g2, g3⟩ := laysOut_ok hV (lyx_ok hV t hs hc hr) hq4 hy4
  have hsx : sm (vw β) (lyx (vw β) t s c r) < 2 ^ 13 := by
    have h1 := sm_lt (vw β) (lyx (vw β) t s c r)
    have h2 : y_n (lyx (vw β) t s c r) ≤ 13 := (lyx_ok hV t hs hc hr).1
    have h3 := p2_le h2
    omega
  have h22 : σ5 0 22 = nI 0 := by rw [g1.2 22 (by decide), a1, if_neg (by decide)]; exact hm.2.2.1
  have h23 : σ5 0 23 = -1 := by rw [g1.2 23 (by decide), a1, if_neg (by decide)]; exact hm.2.2.2
  have hrd := readBy_ok hV (lyx_ok hV t hs hc hr) (hq4.f21 g1) (hy4.f21 g1).1 g3 (m := sm (vw β) (lyx (vw β) t s c r)) (st := 0) (by omega) (by decide) h22
  have hval : lw (vw β) (rp (vw β) (lyx (vw β) t s c r) 0 (sm (vw β) (lyx (vw β) t s c r))) (fp (σ5 0 23)) (v_r (vw β)) = rdx (vw β) t s c r := by
    rw [h23]
    refine lw_cong (fun k hk => ?_) (fun k hk => ?_)
    · unfold rp; rw [Nat.zero_testBit, apx]; rfl
    · unfold fp nof; exact decide_eq_false (nI_m1 (by have := hV.2.1; omega))
  rw [hval] at hrd
  refine ⟨σ5, f.tr ⟨fun a b1 b2 b3 b4 b5 => by rw [g1.1 a b1 b5, a0 a b1 b2 b3 b4], fun j b1 b2 => by rw [g1.2 j b2, a1, if_neg b1], fun i hi => by rw [g1.1 7 (by decide) (by decide), a7, if_neg (by omega)]⟩, fun l hl => ?_, fun k13 x2 x3 x4 hx => ?_⟩
  · rw [g1.1 12 (by decide) (by decide), g1.1 13 (by decide) (by decide), a12, a13, if_neg (by omega), if_neg (by omega)]
    exact hp l hl
  · subst hx
    rw [pl66 hn h8, hσ4]
    unfold fX5_placeOf_98 fX5_placeOf_121
    rw [bnd_s e5, g2, bnd_s hrd]
    dsimp only
    have hx := rdx_lt hV t s c r
    rw [bnd_s (isIn_b σ5 (by omega) (by omega))]
theorem placeOf_ok {β : qB} {σ : qM} (h : MS β σ) {t k : Nat} (ht : t < 4) (hk : k < 8) : qok (fX5_placeOf σ (nI t) (nI k)) (fun q => q.1 = fs (plB (vw β) t k) 108 0 ∧ frP (vw β) σ q.2) := by
  have hV := vw_ok h.1
  have hn := hV.1
  unfold fX5_placeOf
  refine qok_bind (qok_mono (readNowC h ht) ?_)
  rintro ⟨r, σ0⟩ ⟨r1, r2, r3⟩
  dsimp only at r1 r2 r3 ⊢
  subst r1
  have hg := rdg_lt hV t
  rw [bnd_s (isIn_b σ0 (a := rdg (vw β) t) (k := k) (by omega) (by omega))]
  dsimp only
  have h0 := h.fr r2
  refine qok_mono (P := fun q => q.1 = fs (plB (vw β) t k) 108 0 ∧ frP (vw β) σ0 q.2) ?_ (fun q hq => ⟨hq.1, r2.tr hq.2⟩)
  refine qok_lp4 (z := fun _ _ _ _ => none) (b := bX5_placeOf_13) (fun mm σ x2 x3 x4 => x2 = nI k ∧ x3 = b2i ((rdg (vw β) t).testBit k) ∧ frP (vw β) σ0 σ ∧ lpo σ (vw β) t ∧ ∃ i, i ≤ 108 ∧ mm = 108 - i ∧ x4 = nI i ∧ fs (plB (vw β) t k) (108 - i) i = fs (plB (vw β) t k) 108 0) ?_ qFU 108 σ0 _ _ 0 (by rw [qFU_eq]; omega) ⟨rfl, rfl, frP.rf _ _, fun l hl => (r3.1.2 l hl).2, 0, by omega, rfl, rfl, rfl⟩
  rintro mm kk ih σ1 x2 x3 x4 ⟨rfl, rfl, f, hp, i, hi, rfl, rfl, hv⟩
  unfold bX5_placeOf_13
  by_cases e : i = 108
  · refine qok_t (show (108 : Int32) ≤ nI i from by rw [e]; decide) (qok_some ⟨?_, f⟩)
    rw [← hv, e]
    rfl
  · refine qok_f (show ¬ (108 : Int32) ≤ nI i from nI_ge (b := 108) (by omega) (by decide)) ?_
    obtain ⟨d, hd⟩ : ∃ d, 108 - i = d + 1 := ⟨108 - i - 1, by omega⟩
    have hd2 : 108 - (i + 1) = d := by omega
    rw [hd, fs_s] at hv
    have hm := (h0.fr f).2.2
    unfold fX5_placeOf_27 fX5_placeOf_37
    rw [show jrem (nI i) 6 = nI (i % 6) from pk_rem (d := 6) (by omega) (by decide) (by decide), show nI i / 6 = nI (i / 6) from pk_div (d := 6) (by omega) (by decide) (by decide), show jrem (nI (i / 6)) 6 = nI (i / 6 % 6) from pk_rem (d := 6) (by omega) (by decide) (by decide), show nI i / 36 = nI (i / 36) from pk_div (d := 36) (by omega) (by decide) (by decide)]
    have eF : fX5_isFree σ1 (nI (i % 6)) (nI (i / 6 % 6)) = some (b2i (!(List.range (v_n (vw β))).any (tkB (vw β) t (i % 6) (i / 6 % 6))), σ1) := isFree_ok hV hm.2.1.2.1 hp (by omega) (by omega) qFU 0 (Nat.zero_le _) (by rw [qFU_eq]; omega)
    have go : plB (vw β) t k i = false → ∀ σ2, frP (vw β) σ0 σ2 → lpo σ2 (vw β) t → qok (kk σ2 (nI k) (b2i ((rdg (vw β) t).testBit k)) (nI i + 1)) (fun q => q.1 = fs (plB (vw β) t k) 108 0 ∧ frP (vw β) σ0 q.2) := fun hq σ2 w1 w2 => by
      rw [if_neg (by rw [hq]; decide)] at hv
      rw [nI_1]
      exact ih (108 - (i + 1)) _ _ _ _ (by omega) ⟨rfl, rfl, w1, w2, i + 1, by omega, rfl, rfl, by rw [hd2]; exact hv⟩
    cases hq : (List.range (v_n (vw β))).any (tkB (vw β) t (i % 6) (i / 6 % 6)) with
    | true =>
      rw [hq] at eF
      rw [bnd_0 eF]
      exact go (by unfold plB plC; rw [hq]; rfl) σ1 f hp
    | false =>
      rw [hq] at eF
      rw [bnd_1 eF (by decide)]
      dsimp only
      have e3 : (3 : Int32) * σ1 0 8 + 2 = nI (3 * v_n (vw β) + 2) := by
        rw [hm.2.1.2.1, show (3 : Int32) * nI (v_n (vw β)) = nI (3 * v_n (vw β)) from pk_mul 3 _]
        exact nI_add _ 2
      refine qok_t (by rw [e3]; exact qin_of (by omega) (by decide)) ?_
      rw [e3, nI_clamp (by omega)]
      obtain ⟨σ5, w1, w2, w3⟩ := pl98 h0 hk (show i / 36 < 3 by omega) (show i % 6 < 6 by omega) (show i / 6 % 6 < 6 by omega) f hp
      rw [w3 kk _ _ _ rfl]
      by_cases c : (rdx (vw β) t (i / 36) (i % 6) (i / 6 % 6)).testBit k = (rdg (vw β) t).testBit k
      · refine qok_t (by rw [c]) (go ?_ σ5 w1 w2)
        unfold plB plC
        rw [hq, c]
        cases (rdg (vw β) t).testBit k <;> rfl
      · refine qok_f (fun z => c ?_) (qok_some ⟨?_, w1⟩)
        · revert z
          cases (rdx (vw β) t (i / 36) (i % 6) (i / 6 % 6)).testBit k <;> cases (rdg (vw β) t).testBit k <;> decide
        · rw [if_pos] at hv
          · exact hv
          · unfold plB plC
            rw [hq]
            revert c
            cases (rdx (vw β) t (i / 36) (i % 6) (i / 6 % 6)).testBit k <;> cases (rdg (vw β) t).testBit k <;> decide
theorem placeD {β : qB} {σc σm : qM} (h : RD β σc σm) {t k : Nat} (ht : t < 4) (hk : k < 8) : SimD β ((fX0_settled σc).bind fun q5 => (fX0_leastLeafThatChanges q5 (nI t) (nI k)).bind fun q6 => some (q6.1, q6.2)) (fX5_placeOf σm (nI t) (nI k)) := by
  refine askD h _ (setp h _ (fun σ _ hd hu => ?_)) (placeOf_ok h.ms ht hk)
  rw [bind_id]
  exact placeC (vw_ok h.1) hd hu ht hk qFU 0 (by omega) (by rw [qFU_eq]; omega)
theorem placeX {β : qB} {σc σm : qM} (h : RD β σc σm) {t k : Nat} (ht : t < 4) (hk : k < 8) : SimD β (fX4_place σc (nI t) (nI k)) (fX5_placeOf σm (nI t) (nI k)) := by
  unfold fX4_place
  rw [show (4 : Int32) = nI 4 from rfl, show (8 : Int32) = nI 8 from rfl, bnd_1 ((below_ok σc (nI t) 4 (by decide)).1 (bl_nI ht (by decide))) (by decide)]
  dsimp only
  rw [bnd_1 ((below_ok σc (nI k) 8 (by decide)).1 (bl_nI hk (by decide))) (by decide)]
  exact placeD h ht hk
theorem sim_place {σc σm : qM} (h : RR σc σm) (x1 x2 : Int32) : Sim (fX4_place σc x1 x2) (fX5_place σm x1 x2) := by
  unfold fX5_place
  refine sim_q h (fun β σ1 hR => ?_)
  unfold fX4_place
  refine simD_test (t1 := fun σ => fX4_below σ x1 4) (t2 := fun σ => fX5_areTurns σ x1) (t_below x1 4 (by decide)) (t_turns x1) hR (fun h1 => ?_)
  refine simD_test (t1 := fun σ => fX4_below σ x2 8) (t2 := fun σ => fX5_isLaw σ x2) (t_below x2 8 (by decide)) (t_law x2) hR (fun h2 => ?_)
  obtain ⟨t, ht, rfl⟩ := bl_of h1 (by decide)
  obtain ⟨k, hk, rfl⟩ := bl_of h2 (by decide)
  dsimp only
  rw [bind_id]
  exact placeD hR ht hk

/-! ===== PURE: strain and strike, side by side ===== -/
theorem strainTell {β : qB} {σ : qM} (h : MS β σ) {t a b j : Nat} (ht : t < 4) (ha : a < 256) (hb : b < 256) (hj : j < 2) : qok ((fX5_strainOf σ (nI t) (nI a) (nI b)).bind fun q2 => (fX5_tells q2.2 q2.1 (nI j)).bind fun q3 => some (q3.1, q3.2)) (fun q => q.1 = hm j (stV (vw β) t a b) ∧ frP (vw β) σ q.2) := by
  refine qok_bind (qok_mono (strainOf_ok h ht ha hb) ?_)
  rintro ⟨r, σ1⟩ ⟨r1, r2⟩
  dsimp only at r1 r2 ⊢
  subst r1
  rw [bind_id, tells_ok σ1 hj (fun w hw => stV_lt (vw_ok h.1) hw)]
  exact qok_some ⟨rfl, r2⟩
theorem sim_strain {σc σm : qM} (h : RR σc σm) (x1 x2 x3 x4 : Int32) : Sim (fX4_strain σc x1 x2 x3 x4) (fX5_strain σm x1 x2 x3 x4) := by
  unfold fX5_strain
  refine sim_q h (fun β σ1 hR => ?_)
  have e43 : ∀ σ, fX5_strain_43 σ x1 x2 x3 x4 = some (-2, σ) := fun σ => by unfold fX5_strain_43 fX5_strain_44; rw [if_pos rfl]
  simp only [e43]
  unfold fX4_strain
  refine simD_test (t1 := fun σ => fX4_below σ x1 4) (t2 := fun σ => fX5_areTurns σ x1) (t_below x1 4 (by decide)) (t_turns x1) hR (fun h1 => ?_)
  refine simD_test (t1 := fun σ => fX4_areLaws σ x2) (t2 := fun σ => fX5_areLaws σ x2) (t_lawsC x2) (t_laws x2) hR (fun h2 => ?_)
  refine simD_test (t1 := fun σ => fX4_areLaws σ x3) (t2 := fun σ => fX5_areLaws σ x3) (t_lawsC x3) (t_laws x3) hR (fun h3 => ?_)
  dsimp only
  by_cases c : x2 &&& x3 = 0
  · rw [if_pos c, if_pos c]
    refine simD_test (t1 := fun σ => fX4_below σ x4 2) (t2 := fun σ => fX5_isTwo σ x4) (t_below x4 2 (by decide)) (t_two x4) hR (fun h4 => ?_)
    obtain ⟨t, ht, rfl⟩ := bl_of h1 (by decide)
    obtain ⟨a, ha, rfl⟩ := bl_of h2 (by decide)
    obtain ⟨b, hb, rfl⟩ := bl_of h3 (by decide)
    obtain ⟨j, hj, rfl⟩ := bl_of h4 (by decide)
    have hab : a &&& b = 0 := by
      rw [fa_and, show (0 : Int32) = nI 0 from rfl] at c
      exact (nI_eq (Nat.lt_of_le_of_lt Nat.and_le_left (by omega)) (by decide)).mp c
    dsimp only
    unfold fX5_strain_44
    rw [if_neg (show ¬ (1 : Int32) = 0 by decide)]
    exact askD hR _ (strainS hR ht ha hab hj) (strainTell hR.ms ht ha hb hj)
  · rw [if_neg c, if_neg c]
    exact ⟨_, _, _, rfl, rfl, hR⟩
/-! strike -/
def skL (V : qV) (t i : Nat) : Nat := lm V (am V t ^^^ (am V t &&& i))
def skT (V : qV) (t g i : Nat) : Bool := decide (skL V t i = g)
theorem skL_lt {V : qV} (hV : v_ok V) (t i : Nat) : skL V t i < 2 ^ 8 := lw_lt hV (Nat.le_refl _)
theorem strikeC {σ : qM} {V : qV} (hV : v_ok V) (hu : cupV σ V) {t : Nat} (ht : t < 4) {g : Nat} (hg : g < 256) : ∀ n i, i ≤ 2 ^ v_r V → 2 ^ v_r V - i < n → qlp (fun _ _ _ _ _ _ _ => none) bX0_fewestRulesStruck_20 n σ (nI t) (nI g) (nI (2 ^ v_r V)) (fbI (be (skT V t g) i)) (beK 11 (be (skT V t g) i)) (nI i) = some (fbI (be (skT V t g) (2 ^ v_r V)), σ) := by
  have hr := p2_le hV.2.1
  have ham := am_lt V t
  intro n
  induction n with
  | zero => intro i _ h; omega
  | succ n ih =>
    intro i hi hfu
    rw [qlp_succ]
    generalize qlp (fun _ _ _ _ _ _ _ => none) bX0_fewestRulesStruck_20 n = kk at ih ⊢
    unfold bX0_fewestRulesStruck_20 fX0_fewestRulesStruck_68
    by_cases e : i = 2 ^ v_r V
    · rw [if_pos (nI_le (by omega) (by omega)), e]
    · have h1 := ih (i + 1) (by omega) (by omega)
      rw [be_s] at h1
      rw [if_neg (nI_ge (by omega) (by omega)), bnd_s (bitCount_ok σ (show i < 4096 by omega))]
      dsimp only
      have hpc : pc i ≤ 10 := pcn_w 12 10 i (by omega)
      have hL := skL_lt hV t i
      have hm : am V t ^^^ (am V t &&& i) < 2 ^ v_r V := cut_lt ham
      have t2 : σ 40 (am V t ^^^ (am V t &&& i)) = nI (skL V t i) := hu.2.1.2.1 _ hm
      have hbits : (nI (skL V t i) = nI g) ↔ skT V t g i = true := by
        unfold skT
        rw [nI_eq (by omega) (by omega), decide_eq_true_eq]
      rw [nI_1, if_pos (qin_of ht (by decide)), nI_clamp (by omega)]
      simp only [(hu.2.1.2.2 t ht).2.1.2, andNot]
      rw [if_pos (qin_of (by omega) (by decide)), nI_clamp (by omega)]
      simp only [t2]
      cases hf : be (skT V t g) i with
      | none =>
        rw [hf] at h1
        dsimp only at h1
        rw [if_neg (show ¬ beK 11 none ≤ nI (pc i) from nI_ge (b := 11) (by omega) (by decide))]
        by_cases c : skT V t g i = true
        · rw [if_pos c] at h1
          rw [if_pos (hbits.mpr c)]
          exact h1
        · rw [if_neg c] at h1
          rw [if_neg (fun q => c (hbits.mp q))]
          exact h1
      | some w =>
        rw [hf] at h1
        dsimp only at h1
        have hw := pc_le w
        by_cases c0 : pc w ≤ pc i
        · rw [if_pos c0] at h1
          rw [if_pos (show beK 11 (some w) ≤ nI (pc i) from nI_le c0 (by omega))]
          exact h1
        · rw [if_neg c0] at h1
          rw [if_neg (show ¬ beK 11 (some w) ≤ nI (pc i) from nI_ge (by omega) (by omega))]
          by_cases c : skT V t g i = true
          · rw [if_pos c] at h1
            rw [if_pos (hbits.mpr c)]
            exact h1
          · rw [if_neg c] at h1
            rw [if_neg (fun q => c (hbits.mp q))]
            exact h1
/-- the reference's state, but for what is struck -/
def fr22 (σ σ' : qM) : Prop := (∀ a, ¬ a = 0 → σ' a = σ a) ∧ ∀ k, ¬ k = 22 → σ' 0 k = σ 0 k
theorem skRead {β : qB} {σ0 σ : qM} (h : MS β σ0) {t : Nat} (hc : cup σ0 (vw β) (ly (vw β) t)) (f : fr22 σ0 σ) {i : Nat} (hi : i < 2 ^ 31) : fX5_readBy (qup σ 0 22 (nI i)) ((qup σ 0 22 (nI i)) 0 21) = some (nI (skL (vw β) t i), qup σ 0 22 (nI i)) := by
  have hV := vw_ok h.1
  have g : fr22 σ0 (qup σ 0 22 (nI i)) := ⟨fun a ha => by rw [qup_ne _ _ _ ha, f.1 a ha], fun k hk => by rw [qup_eq, upd_at, if_neg hk, f.2 k hk]⟩
  have g22 : (qup σ 0 22 (nI i)) 0 22 = nI i := by rw [qup_eq, upd_at, if_pos rfl]
  generalize qup σ 0 22 (nI i) = σ1 at g g22 ⊢
  have hq : rqm σ1 (vw β) := by
    unfold rqm
    rw [g.2 10 (by decide), g.2 12 (by decide), g.1 8 (by decide), g.1 9 (by decide)]
    exact h.2.2.2.1.1
  have hw : wtm σ1 (vw β) (ly (vw β) t) := by
    unfold wtm
    rw [g.1 14 (by decide)]
    exact hc.2.2
  have hsm := smN hV t
  rw [g.2 21 (by decide), hc.2.1, readBy_ok hV (ly_ok hV t) hq (by rw [g.2 20 (by decide)]; exact hc.1.1) hw (st := i) (by omega) hi g22, g.2 23 (by decide), h.2.2.2.2.2]
  refine congrArg some (Prod.ext (congrArg nI ?_) rfl)
  unfold skL lm
  refine lw_cong (fun k hk => ?_) (fun k hk => ?_)
  · unfold rp am
    rw [Nat.testBit_xor, Nat.testBit_and, mk_bit, decide_eq_true hk, Bool.true_and]
    cases ap (vw β) (ly (vw β) t) (sm (vw β) (ly (vw β) t)) k <;> cases i.testBit k <;> rfl
  · unfold fp nof; exact decide_eq_false (nI_m1 (by have := hV.2.1; omega))
theorem strikeM {β : qB} {σ0 : qM} (h : MS β σ0) {t : Nat} (hc : cup σ0 (vw β) (ly (vw β) t)) {g : Nat} (hg : g < 256) : qok (fX5_strikeOf_10 σ0 (nI g) (-1) 0) (fun q => q.1 = fbI (be (skT (vw β) t g) (2 ^ v_r (vw β))) ∧ frP (vw β) σ0 q.2) := by
  have hV := vw_ok h.1
  have hr := p2_le hV.2.1
  refine qok_lp4 (z := fun _ _ _ _ => none) (b := bX5_strikeOf_10) (fun mm σ x2 x3 x4 => x2 = nI g ∧ fr22 σ0 σ ∧ ∃ i, i ≤ 2 ^ v_r (vw β) ∧ mm = 2 ^ v_r (vw β) - i ∧ x3 = fbI (be (skT (vw β) t g) i) ∧ x4 = nI i) ?_ qFU (2 ^ v_r (vw β)) σ0 _ (-1) 0 (by rw [qFU_eq]; omega) ⟨rfl, ⟨fun _ _ => rfl, fun _ _ => rfl⟩, 0, Nat.zero_le _, rfl, rfl, rfl⟩
  rintro mm kk ih σ x2 x3 x4 ⟨rfl, f, i, hi, rfl, rfl, rfl⟩
  unfold bX5_strikeOf_10 fX5_strikeOf_38 fX5_strikeOf_44 fX5_strikeOf_62 fX5_strikeOf_63
  rw [f.2 10 (by decide), h.2.2.2.1.1.1, jshl1 (show v_r (vw β) < 31 by have := hV.2.1; omega)]
  by_cases e : i = 2 ^ v_r (vw β)
  · refine qok_t (nI_le (by omega) (by omega)) (qok_some ⟨by rw [e], ⟨fun a a1 _ _ _ _ => by dsimp only; rw [qup_ne _ _ _ a1, f.1 a a1], fun k _ _ => ?_, fun j _ => by dsimp only; rw [qup_ne _ _ _ (by decide), f.1 7 (by decide)]⟩⟩)
    dsimp only
    rw [qup_eq, upd_at]
    by_cases c : k = 22
    · rw [if_pos c, c]; exact h.2.2.2.2.1.symm
    · rw [if_neg c, f.2 k c]
  · refine qok_f (nI_ge (by omega) (by omega)) ?_
    rw [nI_1, skRead h hc f (show i < 2 ^ 31 by omega)]
    have hL := skL_lt hV t i
    have g22 : fr22 σ0 (qup σ 0 22 (nI i)) := ⟨fun a ha => by rw [qup_ne _ _ _ ha, f.1 a ha], fun k hk => by rw [qup_eq, upd_at, if_neg hk, f.2 k hk]⟩
    have hbits : (nI (skL (vw β) t i) = nI g) ↔ skT (vw β) t g i = true := by
      unfold skT
      rw [nI_eq (by omega) (by omega), decide_eq_true_eq]
    have go : ∀ (σ1 : qM) (x : Int32), fr22 σ0 σ1 → x = fbI (be (skT (vw β) t g) (i + 1)) → qok (kk σ1 (nI g) x (nI (i + 1))) (fun q => q.1 = fbI (be (skT (vw β) t g) (2 ^ v_r (vw β))) ∧ frP (vw β) σ0 q.2) := fun σ1 x w1 w2 => ih (2 ^ v_r (vw β) - (i + 1)) _ _ _ _ (by omega) ⟨rfl, w1, i + 1, by omega, rfl, w2, rfl⟩
    have hs := be_s (skT (vw β) t g) i
    have tail : ∀ x : Int32, (skT (vw β) t g i = true → nI i = fbI (be (skT (vw β) t g) (i + 1))) → (¬ skT (vw β) t g i = true → x = fbI (be (skT (vw β) t g) (i + 1))) → qok ((some (nI (skL (vw β) t i), qup σ 0 22 (nI i))).bind fun q1 => if q1.1 = nI g then (kk q1.2 (nI g) (nI i) (nI (i + 1))) else (kk q1.2 (nI g) x (nI (i + 1)))) (fun q => q.1 = fbI (be (skT (vw β) t g) (2 ^ v_r (vw β))) ∧ frP (vw β) σ0 q.2) := fun x w1 w2 => by
      refine qok_eq rfl ?_
      dsimp only
      by_cases c : skT (vw β) t g i = true
      · exact qok_t (hbits.mpr c) (go _ _ g22 (w1 c))
      · exact qok_f (fun q => c (hbits.mp q)) (go _ _ g22 (w2 c))
    cases hf : be (skT (vw β) t g) i with
    | none =>
      rw [hf] at hs
      dsimp only at hs
      refine qok_t (show fbI none = -1 from rfl) (tail _ (fun c => ?_) (fun c => ?_))
      · rw [if_pos c] at hs; rw [hs]; rfl
      · rw [if_neg c] at hs; rw [hs]
    | some w =>
      have hw := be_lt _ _ hf
      rw [hf] at hs
      dsimp only at hs
      refine qok_f (show ¬ fbI (some w) = -1 from nI_m1 (by omega)) ?_
      rw [bnd_s (ones_ok σ (show i < 4096 by omega))]
      dsimp only
      rw [bnd_s (show fX5_ones σ (fbI (some w)) = some (nI (pc w), σ) from ones_ok σ (show w < 4096 by omega))]
      dsimp only
      have hpi := pc_le i
      have hpw := pc_le w
      by_cases c0 : pc w ≤ pc i
      · rw [if_pos c0] at hs
        exact qok_t (nI_le c0 (by omega)) (go _ _ f (by rw [hs]))
      · rw [if_neg c0] at hs
        refine qok_f (nI_ge (by omega) (by omega)) ?_
        rw [skRead h hc f (show i < 2 ^ 31 by omega)]
        refine tail _ (fun c => ?_) (fun c => ?_)
        · rw [if_pos c] at hs; rw [hs]; rfl
        · rw [if_neg c] at hs; rw [hs]
def skV (V : qV) (t g : Nat) : Option Nat := be (skT V t g) (2 ^ v_r V)
theorem skV_lt {V : qV} (hV : v_ok V) {t g w : Nat} (h : skV V t g = some w) : w < 4096 := by
  have := be_lt _ _ h
  have := p2_le hV.2.1
  omega
theorem strikeOf_ok {β : qB} {σ : qM} (h : MS β σ) {t g : Nat} (ht : t < 4) (hg : g < 256) : qok (fX5_strikeOf σ (nI t) (nI g)) (fun q => q.1 = fbI (skV (vw β) t g) ∧ frP (vw β) σ q.2) := by
  have hV := vw_ok h.1
  unfold fX5_strikeOf
  refine qok_bind (qok_mono (turnsCup_ok hV h.2.2.2.1 ht) ?_)
  rintro σ1 ⟨f1, hc⟩
  refine qok_mono (strikeM (h.fr f1) hc hg) ?_
  rintro ⟨r, s⟩ ⟨q1, q2⟩
  exact ⟨q1, f1.tr q2⟩
theorem strikeTell {β : qB} {σ : qM} (h : MS β σ) {t g j : Nat} (ht : t < 4) (hg : g < 256) (hj : j < 2) : qok ((fX5_strikeOf σ (nI t) (nI g)).bind fun q2 => (fX5_tells q2.2 q2.1 (nI j)).bind fun q3 => some (q3.1, q3.2)) (fun q => q.1 = hm j (skV (vw β) t g) ∧ frP (vw β) σ q.2) := by
  refine qok_bind (qok_mono (strikeOf_ok h ht hg) ?_)
  rintro ⟨r, σ1⟩ ⟨r1, r2⟩
  dsimp only at r1 r2 ⊢
  subst r1
  rw [bind_id, tells_ok σ1 hj (fun w hw => skV_lt (vw_ok h.1) hw)]
  exact qok_some ⟨rfl, r2⟩
theorem strikeS {β : qB} {σc σm : qM} (h : RD β σc σm) {t g j : Nat} (ht : t < 4) (hg : g < 256) (hj : j < 2) : qok ((fX0_settled σc).bind fun q7 => (fX0_fewestRulesStruck q7 (nI t) (nI g)).bind fun q8 => (fX4_howManyOrBits q8.2 q8.1 (nI j)).bind fun q9 => some (q9.1, q9.2)) (fun q => q.1 = hm j (skV (vw β) t g) ∧ frU σc q.2 ∧ (q.2 16 14 = 1 ∨ cupV q.2 (vw β))) := by
  have hV := vw_ok h.1
  have hp := p2_le hV.2.1
  refine setp h _ (fun σ _ hd hu => ?_)
  unfold fX0_fewestRulesStruck
  rw [hd.2.2.2.1, jshl1 (show v_r (vw β) < 31 by have := hV.2.1; omega), bnd_s (show fX0_fewestRulesStruck_20 σ (nI t) (nI g) (nI (2 ^ v_r (vw β))) (-1) 11 0 = some (fbI (skV (vw β) t g), σ) from strikeC hV hu ht hg qFU 0 (Nat.zero_le _) (by rw [qFU_eq]; omega))]
  dsimp only
  rw [bind_id, howMany_ok σ hj (fun w hw => skV_lt hV hw)]
theorem strikeX {β : qB} {σc σm : qM} (h : RD β σc σm) {t g j : Nat} (ht : t < 4) (hg : g < 256) (hj : j < 2) : qok (fX4_strike σc (nI t) (nI g) (nI j)) (fun q => q.1 = hm j (skV (vw β) t g) ∧ frU σc q.2 ∧ (q.2 16 14 = 1 ∨ cupV q.2 (vw β))) := by
  unfold fX4_strike
  rw [show (4 : Int32) = nI 4 from rfl, show (2 : Int32) = nI 2 from rfl, bnd_1 ((below_ok σc (nI t) 4 (by decide)).1 (bl_nI ht (by decide))) (by decide)]
  dsimp only
  rw [bnd_1 ((t_lawsC (nI g) σc).1 (bl_nI hg (by decide))) (by decide)]
  dsimp only
  rw [bnd_1 ((below_ok σc (nI j) 2 (by decide)).1 (bl_nI hj (by decide))) (by decide)]
  exact strikeS h ht hg hj
theorem sim_strike {σc σm : qM} (h : RR σc σm) (x1 x2 x3 : Int32) : Sim (fX4_strike σc x1 x2 x3) (fX5_strike σm x1 x2 x3) := by
  unfold fX5_strike
  refine sim_q h (fun β σ1 hR => ?_)
  unfold fX4_strike
  refine simD_test (t1 := fun σ => fX4_below σ x1 4) (t2 := fun σ => fX5_areTurns σ x1) (t_below x1 4 (by decide)) (t_turns x1) hR (fun h1 => ?_)
  refine simD_test (t1 := fun σ => fX4_areLaws σ x2) (t2 := fun σ => fX5_areLaws σ x2) (t_lawsC x2) (t_laws x2) hR (fun h2 => ?_)
  refine simD_test (t1 := fun σ => fX4_below σ x3 2) (t2 := fun σ => fX5_isTwo σ x3) (t_below x3 2 (by decide)) (t_two x3) hR (fun h4 => ?_)
  obtain ⟨t, ht, rfl⟩ := bl_of h1 (by decide)
  obtain ⟨a, ha, rfl⟩ := bl_of h2 (by decide)
  obtain ⟨j, hj, rfl⟩ := bl_of h4 (by decide)
  exact askD hR _ (strikeS hR ht ha hj) (strikeTell hR.ms ht ha hj)

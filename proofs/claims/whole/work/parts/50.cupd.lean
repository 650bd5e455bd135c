/-! ===== PURE: the class's cup: leaves laid and paired ===== -/
theorem nz_bit {x : Nat} : ¬ x = 0 ↔ ∃ i, x.testBit i = true := by
  constructor
  · intro h
    by_cases q : ∃ i, x.testBit i = true
    · exact q
    · exfalso
      apply h
      apply Nat.eq_of_testBit_eq
      intro i
      rw [Nat.zero_testBit]
      cases hb : x.testBit i
      · rfl
      · exact absurd ⟨i, hb⟩ q
  · rintro ⟨i, hi⟩ rfl
    rw [Nat.zero_testBit] at hi
    cases hi
theorem ap_iff {V : qV} {Y : qL} {m k : Nat} : ap V Y m k = true ↔ ∃ a b, a < y_n Y ∧ b < y_n Y ∧ m.testBit a = true ∧ m.testBit b = true ∧ pa V Y k a b = true := by
  unfold ap
  rw [List.any_eq_true]
  constructor
  · rintro ⟨a, ha, h⟩
    rw [Bool.and_eq_true, decide_eq_true_eq] at h
    obtain ⟨b, hb⟩ := nz_bit.mp h.2
    rw [Nat.testBit_and, Bool.and_eq_true] at hb
    have hw := hb.1
    unfold wm at hw
    rw [mk_bit, Bool.and_eq_true, decide_eq_true_eq] at hw
    exact ⟨a, b, List.mem_range.mp ha, hw.1, h.1, hb.2, hw.2⟩
  · rintro ⟨a, b, ha, hb, h1, h2, h3⟩
    refine ⟨a, List.mem_range.mpr ha, ?_⟩
    rw [Bool.and_eq_true, decide_eq_true_eq]
    refine ⟨h1, nz_bit.mpr ⟨b, ?_⟩⟩
    rw [Nat.testBit_and, Bool.and_eq_true]
    refine ⟨?_, h2⟩
    unfold wm
    rw [mk_bit, Bool.and_eq_true, decide_eq_true_eq]
    exact ⟨hb, h3⟩
theorem mk_mk (f g : Nat → Bool) : ∀ n, mk f n ||| mk g n = mk (fun k => f k || g k) n := by
  intro n
  apply Nat.eq_of_testBit_eq
  intro i
  rw [Nat.testBit_or, mk_bit, mk_bit, mk_bit]
  cases decide (i < n) <;> simp
/-! a crack -/
theorem crackC {σ : qM} {V : qV} (hV : v_ok V) (h : rdc σ V) (c r : Nat) (hc : c < 6) (hr : r < 6) : ∀ n i, i ≤ v_c V → v_c V - i < n → (List.range i).any (fun i => decide (v_k V i 0 = c ∧ v_k V i 1 = r)) = false → qlp (fun _ _ _ _ => none) bX0_isCracked_2 n σ (nI c) (nI r) (nI i) = some (b2i (crk V c r), σ) := by
  have h8 := hV.2.2.1
  intro n
  induction n with
  | zero => intro i h1 h2; omega
  | succ n ih =>
    intro i h1 h2 hno
    rw [qlp_succ]
    generalize qlp (fun _ _ _ _ => none) bX0_isCracked_2 n = kk at ih ⊢
    unfold bX0_isCracked_2
    rw [h.2.2.2.2.2.2.1]
    by_cases e : i = v_c V
    · subst e
      rw [if_pos (nI_le (Nat.le_refl _) (by omega))]
      have : crk V c r = false := hno
      rw [this]; rfl
    · have hlt : i < v_c V := by omega
      obtain ⟨k1, k2⟩ := h.2.2.2.2.2.2.2 i hlt
      obtain ⟨b1, b2⟩ := hV.2.2.2.2.2 i hlt
      rw [if_neg (nI_ge hlt (by omega))]
      simp only [nI_clamp (show i < 2 ^ 31 by omega), k1, k2, if_pos (qin_of (show i < 8 by omega) (show 8 < 2 ^ 31 by decide))]
      unfold fX0_isCracked_41
      rw [show nI i + 1 = nI (i + 1) from nI_1 i]
      have hn := ih (i + 1) (by omega) (by omega)
      rw [any_succ, hno, Bool.false_or] at hn
      by_cases e1 : v_k V i 0 = c
      · rw [if_pos (by rw [e1])]
        by_cases e2 : v_k V i 1 = r
        · rw [if_pos (by rw [e2])]
          have : crk V c r = true := by
            unfold crk
            rw [List.any_eq_true]
            exact ⟨i, List.mem_range.mpr hlt, by simp [e1, e2]⟩
          rw [this]; rfl
        · rw [if_neg (fun q => e2 ((nI_eq (by omega) (by omega)).mp q))]
          exact hn (by simp [e2])
      · rw [if_neg (fun q => e1 ((nI_eq (by omega) (by omega)).mp q))]
        exact hn (by simp [e1])
theorem crackC_ok {σ : qM} {V : qV} (hV : v_ok V) (h : rdc σ V) {c r : Nat} (hc : c < 6) (hr : r < 6) : fX0_isCracked σ (nI c) (nI r) = some (b2i (crk V c r), σ) := by
  unfold fX0_isCracked fX0_isCracked_2
  exact crackC hV h c r hc hr qFU 0 (by omega) (by rw [qFU_eq]; have := hV.2.2.1; omega) rfl
/-! leaves laid -/
def cuL (σ : qM) (V : qV) (t : Nat) : Prop := (∀ l, l < v_n V → σ (18 + t) l = nI (y_c (ly V t) l) ∧ σ (23 + t) l = nI (y_r (ly V t) l)) ∧ σ 27 t = nI (sm V (ly V t))
theorem layIn {σ : qM} (c r t l : Nat) (hl : l < 12) (hc : c < 6) (hr : r < 6) (ht : t < 4) (k9 : qM → Int32 → Int32 → Option qM) : ∀ n i, i ≤ t → t - i < n → qlp (fun _ _ _ _ _ _ => none) (bX0_layLeaves_44 k9) n σ (nI t) (nI l) (nI (tn i c r).1) (nI (tn i c r).2) (nI i) = fX0_layLeaves_77 k9 (qup σ (18 + t) l (nI (tn t c r).1)) (nI t) (nI l) (nI (tn t c r).1) (nI (tn t c r).2) := by
  intro n
  induction n with
  | zero => intro i h1 h2; omega
  | succ n ih =>
    intro i h1 h2
    rw [qlp_succ]
    generalize qlp (fun _ _ _ _ _ _ => none) (bX0_layLeaves_44 k9) n = kk at ih ⊢
    unfold bX0_layLeaves_44 fX0_layLeaves_58
    by_cases e : i = t
    · subst e
      rw [if_pos (nI_le (Nat.le_refl _) (by omega)), if_pos (qin_of ht (by decide)), if_pos (qin_of hl (by decide)), nI_clamp (by omega), nI_clamp (by omega)]
    · have hb := tn_lt hc hr i
      rw [if_neg (nI_ge (by omega) (by omega)), show (5 : Int32) - nI (tn i c r).2 = nI (5 - (tn i c r).2) from pk_sub (a := 5) (by omega), show nI i + 1 = nI (i + 1) from nI_1 i]
      exact ih (i + 1) (by omega) (by omega)
theorem layLeaves_ok {σ0 : qM} {V : qV} (hV : v_ok V) (h : rdc σ0 V) {t : Nat} (ht : t < 4) : qok (fX0_layLeaves σ0 (nI t)) (fun σ' => ((∀ a, ¬ a = 18 + t → ¬ a = 23 + t → ¬ a = 27 → σ' a = σ0 a) ∧ ∀ i, ¬ i = t → σ' 27 i = σ0 27 i) ∧ cuL σ' V t) := by
  have h12 := hV.1
  unfold fX0_layLeaves fX0_layLeaves_9
  refine qok_t (qin_of ht (by decide)) ?_
  rw [nI_clamp (by omega)]
  refine qok_lp3 (fun m σ x1 x2 => ∃ l, m = v_n V - l ∧ l ≤ v_n V ∧ x1 = nI t ∧ x2 = nI l ∧ ((∀ a, ¬ a = 18 + t → ¬ a = 23 + t → ¬ a = 27 → σ a = σ0 a) ∧ ∀ i, ¬ i = t → σ 27 i = σ0 27 i) ∧ (∀ j, j < l → σ (18 + t) j = nI (y_c (ly V t) j) ∧ σ (23 + t) j = nI (y_r (ly V t) j)) ∧ σ 27 t = nI (mk (fun l => !crk V (y_c (ly V t) l) (y_r (ly V t) l)) l)) ?_ qFU (v_n V) _ (nI t) 0 (by rw [qFU_eq]; omega) ⟨0, rfl, by omega, rfl, rfl, ⟨fun a _ _ h3 => qup_ne _ _ _ h3, fun i hi => by rw [qup_eq, upd_at, if_neg hi]⟩, fun j hj => by omega, by rw [qup_eq, upd_at, if_pos rfl]; rfl⟩
  rintro m k9 ih σ x1 x2 ⟨l, hm, hl, rfl, rfl, hf, hp, hs⟩
  have hfu : frU σ0 σ := fun a ha => hf.1 a (by omega) (by omega) (by omega)
  have hd := h.fr hfu
  unfold bX0_layLeaves_9
  rw [hd.1]
  by_cases e : l = v_n V
  · subst e
    exact qok_t (nI_le (Nat.le_refl _) (by omega)) (qok_some ⟨hf, hp, hs⟩)
  · have hlt : l < v_n V := by omega
    obtain ⟨b0, b1, -⟩ := hV.2.2.2.1 l hlt
    have hc := (ly_ok hV t).2 l hlt
    refine qok_f (nI_ge hlt (by omega)) (qok_eq (partL_ok hV hd hlt (j := 0) (by decide)) (qok_eq (partL_ok hV hd hlt (j := 1) (by decide)) ?_))
    unfold fX0_layLeaves_44
    show qok (qlp (fun _ _ _ _ _ _ => none) (bX0_layLeaves_44 k9) qFU σ (nI t) (nI l) (nI (tn 0 (v_l V l 0) (v_l V l 1)).1) (nI (tn 0 (v_l V l 0) (v_l V l 1)).2) (nI 0)) _
    rw [layIn (v_l V l 0) (v_l V l 1) t l (by omega) b0 b1 ht k9 qFU 0 (by omega) (by rw [qFU_eq]; omega)]
    unfold fX0_layLeaves_77
    refine qok_t (qin_of ht (by decide)) (qok_t (qin_of (by omega) (by decide)) ?_)
    rw [nI_clamp (by omega), nI_clamp (by omega)]
    show qok (fX0_layLeaves_87 k9 (qup (qup σ (18 + t) l (nI (y_c (ly V t) l))) (23 + t) l (nI (y_r (ly V t) l))) (nI t) (nI l) (nI (y_c (ly V t) l)) (nI (y_r (ly V t) l))) _
    have hf2 : (∀ a, ¬ a = 18 + t → ¬ a = 23 + t → (qup (qup σ (18 + t) l (nI (y_c (ly V t) l))) (23 + t) l (nI (y_r (ly V t) l))) a = σ a) := fun a a1 a2 => by rw [qup_ne _ _ _ a2, qup_ne _ _ _ a1]
    have hp2 : ∀ j, j < l + 1 → (qup (qup σ (18 + t) l (nI (y_c (ly V t) l))) (23 + t) l (nI (y_r (ly V t) l))) (18 + t) j = nI (y_c (ly V t) j) ∧ (qup (qup σ (18 + t) l (nI (y_c (ly V t) l))) (23 + t) l (nI (y_r (ly V t) l))) (23 + t) j = nI (y_r (ly V t) j) := by
      intro j hj
      rw [qup_ne (a := 18 + t) _ _ _ (by omega), qup_eq, qup_eq, qup_ne (a := 23 + t) _ _ _ (by omega), upd_at, upd_at]
      by_cases e2 : j = l
      · subst e2; rw [if_pos rfl, if_pos rfl]; exact ⟨rfl, rfl⟩
      · rw [if_neg e2, if_neg e2]; exact hp j (by omega)
    generalize qup (qup σ (18 + t) l (nI (y_c (ly V t) l))) (23 + t) l (nI (y_r (ly V t) l)) = σ2 at hf2 hp2
    have hd2 : rdc σ2 V := hd.fr (fun a ha => hf2 a (by omega) (by omega))
    have h27 : σ2 27 = σ 27 := hf2 27 (by omega) (by omega)
    unfold fX0_layLeaves_87 fX0_layLeaves_109
    refine qok_eq (crackC_ok hV hd2 hc.2.1 hc.2.2) ?_
    dsimp only
    have hmk := mk_or (f := fun l => !crk V (y_c (ly V t) l) (y_r (ly V t) l)) (b := l) (by omega)
    cases hcr : crk V (y_c (ly V t) l) (y_r (ly V t) l) with
    | false =>
      refine qok_t (by decide) (qok_t (qin_of ht (by decide)) (qok_t (qin_of ht (by decide)) ?_))
      rw [nI_clamp (by omega), h27, hs]
      refine ih (v_n V - (l + 1)) _ _ _ (by omega) ⟨l + 1, rfl, by omega, rfl, nI_1 l, ⟨fun a a1 a2 a3 => by rw [qup_ne _ _ _ a3, hf2 a a1 a2, hf.1 a a1 a2 a3], fun i hi => by rw [qup_eq, upd_at, if_neg hi, h27, hf.2 i hi]⟩, fun j hj => by rw [qup_ne (a := 18 + t) _ _ _ (by omega), qup_ne (a := 23 + t) _ _ _ (by omega)]; exact hp2 j hj, ?_⟩
      rw [qup_eq, upd_at, if_pos rfl, ← hmk, if_pos (by simp [hcr])]
    | true =>
      refine qok_f (by decide) ?_
      refine ih (v_n V - (l + 1)) _ _ _ (by omega) ⟨l + 1, rfl, by omega, rfl, nI_1 l, ⟨fun a a1 a2 a3 => by rw [hf2 a a1 a2, hf.1 a a1 a2 a3], fun i hi => by rw [h27, hf.2 i hi]⟩, hp2, ?_⟩
      rw [h27, hs, ← hmk, if_neg (by simp [hcr]), or0]
/-! pairs -/
theorem sm_lt (V : qV) (Y : qL) : sm V Y < 2 ^ y_n Y := mk_lt _ _
theorem counts_ok {σ : qM} {V : qV} (hV : v_ok V) {t l : Nat} (ht : t < 4) (hl : l < 32) (h : σ 27 t = nI (sm V (ly V t))) : fX0_counts σ (nI t) (nI l) = some (b2i ((sm V (ly V t)).testBit l), σ) := by
  have hs := sm_lt V (ly V t)
  have : 2 ^ y_n (ly V t) ≤ 2 ^ 12 := p2_le hV.1
  unfold fX0_counts
  simp only [nI_clamp (show t < 2 ^ 31 by omega), h, if_pos (qin_of ht (show 4 < 2 ^ 31 by decide))]
  by_cases q : (sm V (ly V t)).testBit l = true
  · rw [if_pos ((bit1 (by omega) hl).mpr q), q]; rfl
  · rw [if_neg (fun z => q ((bit1 (by omega) hl).mp z)), Bool.eq_false_iff.mpr q]; rfl
def cuS (σ : qM) (V : qV) : Prop := ∀ h s, h < 4 → s < 9 → σ (36 + h) s = nI (rk V h s)
def mif (V : qV) (s ap : Nat) (ov : Bool) (k : Nat) : Bool := ((rkf V 3 s k || (decide (ap ≤ 1) && rkf V 0 s k)) || (ov && rkf V 1 s k)) || (decide (3 ≤ ap) && rkf V 2 s k)
theorem mio_ok {σ : qM} {V : qV} (h : cuS σ V) {s1 s2 ap : Nat} (hs1 : s1 < 3) (hs2 : s2 < 3) (hap : ap < 2 ^ 31) (ov : Bool) : fX0_madeInOrder σ (nI s1) (nI s2) (nI ap) (b2i ov) = some (nI (mk (mif V (3 * s1 + s2) ap ov) (v_r V)), σ) := by
  have hs : 3 * s1 + s2 < 9 := by omega
  unfold fX0_madeInOrder fX0_madeInOrder_7 fX0_madeInOrder_18 fX0_madeInOrder_37 fX0_madeInOrder_56 fX0_madeInOrder_75
  simp only [show (3 : Int32) * nI s1 = nI (3 * s1) from pk_mul 3 s1, nI_add]
  generalize 3 * s1 + s2 = s at hs
  simp only [nI_clamp (show s < 2 ^ 31 by omega), if_pos (qin_of hs (show 9 < 2 ^ 31 by decide)), show (3 : Int32).toNatClampNeg = 3 from rfl, show (2 : Int32).toNatClampNeg = 2 from rfl, show (1 : Int32).toNatClampNeg = 1 from rfl, show (0 : Int32).toNatClampNeg = 0 from rfl, h 0 s (by decide) hs, h 1 s (by decide) hs, h 2 s (by decide) hs, h 3 s (by decide) hs, fa_or]
  simp only [show ((1 : Int32) < nI ap) ↔ (1 < ap) from nI_ltI (a := 1) (by decide) hap, show (nI ap < (3 : Int32)) ↔ (ap < 3) from nI_ltI (b := 3) hap (by decide)]
  unfold rk
  simp only [mk_mk]
  by_cases n1 : 1 < ap
  · by_cases n3 : ap < 3
    · cases ov <;> simp only [b2i, n1, n3, if_true, if_false, reduceCtorEq] <;> refine congrArg (fun x => some (nI x, σ)) (mk_cong (fun k _ => ?_)) <;> simp [mif, show ¬ ap ≤ 1 by omega, show ¬ 3 ≤ ap by omega]
    · cases ov <;> simp only [b2i, n1, n3, if_true, if_false, reduceCtorEq] <;> refine congrArg (fun x => some (nI x, σ)) (mk_cong (fun k _ => ?_)) <;> simp [mif, show ¬ ap ≤ 1 by omega, show 3 ≤ ap by omega]
  · cases ov <;> simp only [b2i, n1, show ap < 3 by omega, if_true, if_false, reduceCtorEq] <;> refine congrArg (fun x => some (nI x, σ)) (mk_cong (fun k _ => ?_)) <;> simp [mif, show ap ≤ 1 by omega, show ¬ 3 ≤ ap by omega]
/-- rules that a leaf of the cup and one more, of a shape at a cell, make apply -/
def mwf (V : qV) (t l s c r : Nat) (k : Nat) : Bool := (sm V (ly V t)).testBit l && ((decide (v_q V k 0 = y_s (ly V t) l ∧ v_q V k 2 = s) && lieB (v_q V k 1) (y_c (ly V t) l) (y_r (ly V t) l) c r) || (decide (v_q V k 0 = s ∧ v_q V k 2 = y_s (ly V t) l) && lieB (v_q V k 1) c r (y_c (ly V t) l) (y_r (ly V t) l)))
theorem sub_d : ∀ a, a < 6 → ∀ b, b < 6 → ((nI a - nI b ≤ 0 ↔ a ≤ b) ∧ (0 ≤ nI a - nI b ↔ b ≤ a)) := by decide +kernel
theorem rkf_is {V : qV} {h s1 s2 k : Nat} (h0 : v_q V k 0 < 3) (h2 : v_q V k 2 < 3) (hs1 : s1 < 3) (hs2 : s2 < 3) : rkf V h (3 * s1 + s2) k = decide (v_q V k 1 = h ∧ v_q V k 0 = s1 ∧ v_q V k 2 = s2) := by
  unfold rkf
  apply decide_eq_decide.mpr
  omega
theorem dst_comm (a b : Nat) : dst a b = dst b a := by unfold dst; omega
theorem mif_is {V : qV} {s1 s2 k c1 r1 c2 r2 : Nat} (h0 : v_q V k 0 < 3) (h1 : v_q V k 1 < 4) (h2 : v_q V k 2 < 3) (hs1 : s1 < 3) (hs2 : s2 < 3) : mif V (3 * s1 + s2) (max (dst c2 c1) (dst r2 r1)) (decide (c1 = c2 ∧ r1 < r2)) k = (decide (v_q V k 0 = s1 ∧ v_q V k 2 = s2) && lieB (v_q V k 1) c1 r1 c2 r2) := by
  unfold mif
  rw [rkf_is h0 h2 hs1 hs2, rkf_is h0 h2 hs1 hs2, rkf_is h0 h2 hs1 hs2, rkf_is h0 h2 hs1 hs2]
  unfold lieB
  rw [dst_comm c1 c2, dst_comm r1 r2]
  by_cases q : v_q V k 0 = s1 ∧ v_q V k 2 = s2
  · obtain ⟨q1, q2⟩ := q
    rcases (show v_q V k 1 = 0 ∨ v_q V k 1 = 1 ∨ v_q V k 1 = 2 ∨ v_q V k 1 = 3 by omega) with e | e | e | e
    · simp only [e, q1, q2, true_and, decide_true, if_true, Bool.true_and]
      simp only [show ¬ (0 : Nat) = 3 by decide, show ¬ (0 : Nat) = 1 by decide, show ¬ (0 : Nat) = 2 by decide, false_and, decide_false, Bool.false_or, Bool.and_false, Bool.or_false, Bool.and_true, and_self, decide_true]
      apply decide_eq_decide.mpr
      omega
    · simp only [e, q1, q2, true_and, decide_true, if_true, Bool.true_and]
      simp [show ¬ (1 : Nat) = 3 by decide]
    · simp only [e, q1, q2, true_and, decide_true, if_true, Bool.true_and]
      simp only [show ¬ (2 : Nat) = 3 by decide, show ¬ (2 : Nat) = 0 by decide, show ¬ (2 : Nat) = 1 by decide, if_false, false_and, decide_false, Bool.false_or, Bool.and_false, Bool.or_false, Bool.and_true, and_self, decide_true]
      apply decide_eq_decide.mpr
      omega
    · simp only [e, q1, q2, true_and, decide_true, if_true, Bool.true_and]
      simp
  · have : ∀ h, decide (v_q V k 1 = h ∧ v_q V k 0 = s1 ∧ v_q V k 2 = s2) = false := fun h => by
      rw [decide_eq_false_iff_not]
      exact fun z => q z.2
    simp only [this, decide_eq_false q, Bool.and_false, Bool.or_false, Bool.false_and]
theorem madeWith_ok {σ : qM} {V : qV} (hV : v_ok V) (h : rdc σ V) (hS : cuS σ V) {t : Nat} (ht : t < 4) (hL : cuL σ V t) {l s c r : Nat} (hl : l < v_n V) (hs : s < 3) (hc : c < 6) (hr : r < 6) : fX0_madeWith σ (nI t) (nI l) (nI s) (nI c) (nI r) = some (nI (mk (mwf V t l s c r) (v_r V)), σ) := by
  have h12 := hV.1
  obtain ⟨y1, y2, y3⟩ := (ly_ok hV t).2 l hl
  unfold fX0_madeWith
  rw [counts_ok hV ht (by omega) hL.2]
  simp only [Option.bind_some]
  cases hb : (sm V (ly V t)).testBit l with
  | false =>
    rw [if_pos (by decide)]
    refine congrArg (fun x => some (nI x, σ)) ?_
    rw [show mk (mwf V t l s c r) (v_r V) = mk (fun _ => false) (v_r V) from mk_cong (fun k _ => by simp [mwf, hb])]
    apply Nat.eq_of_testBit_eq
    intro i
    rw [mk_bit]
    simp
  | true =>
    rw [if_neg (by decide), show (2 : Int32) = nI 2 from rfl, partL_ok hV h hl (by decide)]
    have habs : ∀ {a b : Nat}, a < 6 → b < 6 → fJ9_abs_0f7a4 σ (nI a - nI b) = some (nI (dst a b), σ) := fun ha hb => amount_ok σ ha hb
    simp only [Option.bind_some, nI_clamp (show t < 2 ^ 31 by omega), nI_clamp (show l < 2 ^ 31 by omega), (hL.1 l hl).1, (hL.1 l hl).2, habs hc y2, if_pos (qin_of ht (show 4 < 2 ^ 31 by decide)), if_pos (qin_of (show l < 12 by omega) (show 12 < 2 ^ 31 by decide))]
    unfold fX0_madeWith_51
    have hd1 := dst_lt hc y2
    have hd2 := dst_lt hr y3
    have hmx : fJ9_max_7cf53 σ (nI (dst c (y_c (ly V t) l))) (nI (dst r (y_r (ly V t) l))) = some (nI (max (dst c (y_c (ly V t) l)) (dst r (y_r (ly V t) l))), σ) := by
      unfold fJ9_max_7cf53
      by_cases q : dst c (y_c (ly V t) l) < dst r (y_r (ly V t) l)
      · rw [if_pos (nI_lt q (by omega)), Nat.max_eq_right (by omega)]
      · rw [if_neg (nI_nlt (by omega) (by omega)), Nat.max_eq_left (by omega)]
    simp only [habs hr y3, Option.bind_some, hmx]
    have hsl : v_l V l 2 = y_s (ly V t) l := rfl
    have e0 : (nI (dst c (y_c (ly V t) l)) = 0) ↔ c = y_c (ly V t) l := by
      rw [show (0 : Int32) = nI 0 from rfl, nI_eq (by omega) (by decide)]
      unfold dst; omega
    obtain ⟨s1, s2⟩ := sub_d r hr _ y3
    -- the second order
    have snd : ∀ x : Nat, (∀ b : Bool, b = decide (c = y_c (ly V t) l ∧ r < y_r (ly V t) l) → fX0_madeWith_108 σ (b2i b) (nI (max (dst c (y_c (ly V t) l)) (dst r (y_r (ly V t) l)))) (nI (v_l V l 2)) (nI s) (nI x) = some (nI (x ||| mk (fun k => decide (v_q V k 0 = s ∧ v_q V k 2 = y_s (ly V t) l) && lieB (v_q V k 1) c r (y_c (ly V t) l) (y_r (ly V t) l)) (v_r V)), σ)) := by
      intro x b hbb
      unfold fX0_madeWith_108
      rw [mio_ok hS hs (show v_l V l 2 < 3 from y1) (by omega)]
      simp only [Option.bind_some, fa_or]
      refine congrArg (fun z => some (nI (x ||| z), σ)) (mk_cong (fun k hk => ?_))
      obtain ⟨q0, q1, q2, -, -⟩ := hV.2.2.2.2.1 k hk
      rw [hbb, dst_comm c, dst_comm r]
      exact mif_is q0 q1 q2 hs y1
    have fst : ∀ b : Bool, b = decide (y_c (ly V t) l = c ∧ y_r (ly V t) l < r) → fX0_madeWith_84 σ (nI s) (nI (v_l V l 2)) (nI (dst c (y_c (ly V t) l))) (nI r - nI (y_r (ly V t) l)) (nI (max (dst c (y_c (ly V t) l)) (dst r (y_r (ly V t) l)))) (b2i b) (nI (max (dst c (y_c (ly V t) l)) (dst r (y_r (ly V t) l)))) (nI s) (nI (v_l V l 2)) = some (nI (mk (mwf V t l s c r) (v_r V)), σ) := by
      intro b hbb
      unfold fX0_madeWith_84 fX0_madeWith_107
      rw [mio_ok hS (show v_l V l 2 < 3 from y1) hs (by omega)]
      simp only [Option.bind_some]
      have hfin : ∀ y : Option (Int32 × qM), y = some (nI (mk (mif V (3 * v_l V l 2 + s) (max (dst c (y_c (ly V t) l)) (dst r (y_r (ly V t) l))) b) (v_r V) ||| mk (fun k => decide (v_q V k 0 = s ∧ v_q V k 2 = y_s (ly V t) l) && lieB (v_q V k 1) c r (y_c (ly V t) l) (y_r (ly V t) l)) (v_r V)), σ) → y = some (nI (mk (mwf V t l s c r) (v_r V)), σ) := by
        intro y hy
        rw [hy, mk_mk]
        refine congrArg (fun z => some (nI z, σ)) (mk_cong (fun k hk => ?_))
        obtain ⟨q0, q1, q2, -, -⟩ := hV.2.2.2.2.1 k hk
        rw [hbb, show mif V (3 * v_l V l 2 + s) (max (dst c (y_c (ly V t) l)) (dst r (y_r (ly V t) l))) (decide (y_c (ly V t) l = c ∧ y_r (ly V t) l < r)) k = _ from mif_is (s1 := y_s (ly V t) l) q0 q1 q2 y1 hs]
        unfold mwf
        rw [hb, Bool.true_and]
      apply hfin
      by_cases q : c = y_c (ly V t) l
      · rw [if_pos (e0.mpr q)]
        by_cases q2 : y_r (ly V t) l ≤ r
        · rw [if_pos (s2.mpr q2)]
          exact snd _ false (by rw [eq_comm, decide_eq_false_iff_not]; omega)
        · rw [if_neg (fun z => q2 (s2.mp z))]
          exact snd _ true (by rw [eq_comm, decide_eq_true_eq]; omega)
      · rw [if_neg (fun z => q (e0.mp z))]
        exact snd _ false (by rw [eq_comm, decide_eq_false_iff_not]; omega)
    unfold fX0_madeWith_83
    by_cases q : c = y_c (ly V t) l
    · rw [if_pos (e0.mpr q)]
      by_cases q2 : r ≤ y_r (ly V t) l
      · rw [if_pos (s1.mpr q2)]
        exact fst false (by rw [eq_comm, decide_eq_false_iff_not]; omega)
      · rw [if_neg (fun z => q2 (s1.mp z))]
        exact fst true (by rw [eq_comm, decide_eq_true_eq]; omega)
    · rw [if_neg (fun z => q (e0.mp z))]
      exact fst false (by rw [eq_comm, decide_eq_false_iff_not]; omega)

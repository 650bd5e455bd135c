/-! ===== PURE: the fewest that do ===== -/
def be (T : Nat → Bool) : Nat → Option Nat
  | 0 => none
  | i + 1 => match be T i with
    | none => if T i = true then some i else none
    | some b => if pc b ≤ pc i then some b else if T i = true then some i else some b
theorem be_s (T : Nat → Bool) (i : Nat) : be T (i + 1) = match be T i with
    | none => if T i = true then some i else none
    | some b => if pc b ≤ pc i then some b else if T i = true then some i else some b := rfl
theorem be_lt {T : Nat → Bool} : ∀ i b, be T i = some b → b < i := by
  intro i
  induction i with
  | zero => intro b h; cases h
  | succ i ih =>
    intro b h
    rw [be_s] at h
    split at h
    · split at h
      · cases h; omega
      · cases h
    · rename_i c hc
      have := ih _ hc
      split at h
      · cases h; omega
      · split at h
        · cases h; omega
        · cases h; omega
def beK (K : Nat) : Option Nat → Int32
  | none => nI K
  | some b => nI (pc b)
theorem pcn_w : ∀ v w n, n < 2 ^ w → pcn v n ≤ w := by
  intro v
  induction v with
  | zero => intro w n _; exact Nat.zero_le _
  | succ v ih =>
    intro w n h
    show n % 2 + pcn v (n / 2) ≤ w
    cases w with
    | zero =>
      have h0 : n = 0 := by rw [Nat.pow_zero] at h; omega
      subst h0
      have := ih 0 (0 / 2) (by decide)
      omega
    | succ w =>
      have := ih w (n / 2) (by rw [Nat.pow_succ] at h; omega)
      omega
theorem rdB {β : qB} {σ : qM} {t : Nat} (h : MS β σ) (hc : cup σ (vw β) (ly (vw β) t)) {m : Nat} (hm : m < 2 ^ 31) : fX5_readBy σ (nI m) = some (nI (lw (vw β) (ap (vw β) (ly (vw β) t) m) nof (v_r (vw β))), σ) := by
  have hV := vw_ok h.1
  rw [readBy_ok hV (ly_ok hV t) h.2.2.2.1.1 hc.1.1 hc.2.2 (st := 0) hm (by decide) h.2.2.2.2.1, h.2.2.2.2.2]
  refine congrArg some (Prod.ext (congrArg nI (lw_cong (fun k hk => ?_) (fun k hk => ?_))) rfl)
  · unfold rp; rw [Nat.zero_testBit]; rfl
  · unfold fp nof; exact decide_eq_false (nI_m1 (by have := hV.2.1; omega))
/-- what is read when some leaves are left out -/
def lwo (V : qV) (t i : Nat) : Nat := lw V (ap V (ly V t) (sm V (ly V t) ^^^ (sm V (ly V t) &&& i))) nof (v_r V)
theorem lwo_lt {V : qV} (hV : v_ok V) (t i : Nat) : lwo V t i < 2 ^ 8 := lw_lt hV (Nat.le_refl _)
theorem cut_lt {x i n : Nat} (h : x < 2 ^ n) : x ^^^ (x &&& i) < 2 ^ n := Nat.xor_lt_two_pow h (Nat.lt_of_le_of_lt Nat.and_le_left h)
theorem full_is {V : qV} (t i : Nat) : ((2 ^ v_n V - 1) ^^^ ((2 ^ v_n V - 1) &&& i)) &&& sm V (ly V t) = sm V (ly V t) ^^^ (sm V (ly V t) &&& i) := by
  apply Nat.eq_of_testBit_eq
  intro j
  rw [Nat.testBit_and, Nat.testBit_xor, Nat.testBit_xor, Nat.testBit_and, Nat.testBit_and, Nat.testBit_two_pow_sub_one]
  by_cases c : j < v_n V
  · rw [decide_eq_true c]
    cases (sm V (ly V t)).testBit j <;> cases i.testBit j <;> rfl
  · rw [bit_hi (show sm V (ly V t) < 2 ^ v_n V from sm_lt V (ly V t)) (by omega), decide_eq_false c]
    rfl
theorem table_is {σ : qM} {V : qV} (hV : v_ok V) (hT : cuT σ V) {t : Nat} (hR : cuR σ V t) {i : Nat} : σ 41 ((2 ^ v_n V - 1) ^^^ ((2 ^ v_n V - 1) &&& i)) = nI (mk (ap V (ly V t) (sm V (ly V t) ^^^ (sm V (ly V t) &&& i))) (v_r V)) ∧ σ 40 (mk (ap V (ly V t) (sm V (ly V t) ^^^ (sm V (ly V t) &&& i))) (v_r V)) = nI (lwo V t i) := by
  have hp0 : 0 < 2 ^ v_n V := Nat.two_pow_pos _
  refine ⟨?_, ?_⟩
  · rw [hR _ (cut_lt (by omega)), full_is]
  · rw [hT _ (mk_lt _ _), lm_mk]; rfl
theorem and_or_eq {L a b : Nat} (h : a &&& b = 0) : (L &&& (a ||| b) = a) ↔ (L &&& a = a ∧ L &&& b = 0) := by
  have hb : ∀ j, a.testBit j = true → b.testBit j = false := fun j hj => by
    have this : (a &&& b).testBit j = (0 : Nat).testBit j := by rw [h]
    rw [Nat.testBit_and, hj, Bool.true_and, Nat.zero_testBit] at this
    exact this
  constructor
  · intro q
    have hq : ∀ j, (L.testBit j && (a.testBit j || b.testBit j)) = a.testBit j := fun j => by
      have this : (L &&& (a ||| b)).testBit j = a.testBit j := by rw [q]
      rw [Nat.testBit_and, Nat.testBit_or] at this
      exact this
    constructor
    · apply Nat.eq_of_testBit_eq
      intro j
      rw [Nat.testBit_and]
      have := hq j
      cases h1 : a.testBit j
      · rw [Bool.and_false]
      · rw [h1, Bool.true_or, Bool.and_true] at this; rw [this]; rfl
    · apply Nat.eq_of_testBit_eq
      intro j
      rw [Nat.testBit_and, Nat.zero_testBit]
      have := hq j
      cases h2 : b.testBit j
      · rw [Bool.and_false]
      · cases h1 : a.testBit j
        · rw [h1, h2, Bool.or_true, Bool.and_true] at this; rw [this]; rfl
        · rw [hb j h1] at h2; exact Bool.noConfusion h2
  · rintro ⟨q1, q2⟩
    apply Nat.eq_of_testBit_eq
    intro j
    rw [Nat.testBit_and, Nat.testBit_or]
    have e1 : (L &&& a).testBit j = a.testBit j := by rw [q1]
    have e2 : (L &&& b).testBit j = (0 : Nat).testBit j := by rw [q2]
    rw [Nat.testBit_and] at e1 e2
    rw [Nat.zero_testBit] at e2
    cases h1 : a.testBit j
    · rw [Bool.false_or, e2]
    · rw [h1, Bool.and_true] at e1; rw [e1]; rfl
def stT (V : qV) (t a b i : Nat) : Bool := decide (lwo V t i &&& a = a ∧ lwo V t i &&& b = 0)
theorem strainC {σ : qM} {V : qV} (hV : v_ok V) (hT : cuT σ V) {t : Nat} (hR : cuR σ V t) {a b : Nat} (ha : a < 256) (hab : a &&& b = 0) : ∀ n i, i ≤ 2 ^ v_n V → 2 ^ v_n V - i < n → qlp (fun _ _ _ _ _ _ _ => none) bX0_fewestLeavesOut_28 n σ (nI a) (nI b) (nI (2 ^ v_n V - 1)) (fbI (be (stT V t a b) i)) (beK 13 (be (stT V t a b) i)) (nI i) = some (fbI (be (stT V t a b) (2 ^ v_n V)), σ) := by
  have hn := hV.1
  have hp := p2_le hn
  have hp0 : 0 < 2 ^ v_n V := Nat.two_pow_pos _
  have hr := p2_le hV.2.1
  intro n
  induction n with
  | zero => intro i _ h; omega
  | succ n ih =>
    intro i hi hfu
    rw [qlp_succ]
    generalize qlp (fun _ _ _ _ _ _ _ => none) bX0_fewestLeavesOut_28 n = kk at ih ⊢
    unfold bX0_fewestLeavesOut_28 fX0_fewestLeavesOut_82
    by_cases e : i = 2 ^ v_n V
    · rw [if_pos (nI_lt (by omega) (by omega)), e]
    · have h1 := ih (i + 1) (by omega) (by omega)
      rw [be_s] at h1
      rw [if_neg (nI_nlt (by omega) (by omega)), bnd_s (bitCount_ok σ (show i < 4096 by omega))]
      dsimp only
      have hpc := pc_le i
      have hL := lwo_lt hV t i
      obtain ⟨t1, t2⟩ := table_is hV hT hR (i := i)
      have hm : mk (ap V (ly V t) (sm V (ly V t) ^^^ (sm V (ly V t) &&& i))) (v_r V) < 2 ^ v_r V := mk_lt _ _
      have hg : (2 ^ v_n V - 1) ^^^ ((2 ^ v_n V - 1) &&& i) < 2 ^ v_n V := cut_lt (by omega)
      have hbits : (nI (lwo V t i) &&& (nI a ||| nI b) = nI a) ↔ stT V t a b i = true := by
        unfold stT
        rw [fa_or, fa_and, nI_eq (Nat.lt_of_le_of_lt Nat.and_le_left (by omega)) (by omega), and_or_eq hab, decide_eq_true_eq]
      rw [nI_1, andNot, if_pos (qin_of (by omega) (by decide)), nI_clamp (by omega)]
      simp only [t1]
      rw [if_pos (qin_of (by omega) (by decide))]
      simp only [nI_clamp (show mk (ap V (ly V t) (sm V (ly V t) ^^^ (sm V (ly V t) &&& i))) (v_r V) < 2 ^ 31 by omega), t2]
      cases hf : be (stT V t a b) i with
      | none =>
        rw [hf] at h1
        dsimp only at h1
        rw [if_neg (show ¬ beK 13 none ≤ nI (pc i) from nI_ge (b := 13) (by omega) (by decide))]
        by_cases c : stT V t a b i = true
        · rw [if_pos c] at h1
          rw [if_pos (hbits.mpr c)]
          exact h1
        · rw [if_neg c] at h1
          rw [if_neg (fun q => c (hbits.mp q))]
          exact h1
      | some w =>
        rw [hf] at h1
        dsimp only at h1
        have hw := pc_le w
        by_cases c0 : pc w ≤ pc i
        · rw [if_pos c0] at h1
          rw [if_pos (show beK 13 (some w) ≤ nI (pc i) from nI_le c0 (by omega))]
          exact h1
        · rw [if_neg c0] at h1
          rw [if_neg (show ¬ beK 13 (some w) ≤ nI (pc i) from nI_ge (by omega) (by omega))]
          by_cases c : stT V t a b i = true
          · rw [if_pos c] at h1
            rw [if_pos (hbits.mpr c)]
            exact h1
          · rw [if_neg c] at h1
            rw [if_neg (fun q => c (hbits.mp q))]
            exact h1
theorem strainM {β : qB} {σ : qM} (h : MS β σ) {t : Nat} (hc : cup σ (vw β) (ly (vw β) t)) {a b : Nat} (ha : a < 256) (hb : b < 256) : ∀ n i, i ≤ 2 ^ v_n (vw β) → 2 ^ v_n (vw β) - i < n → qlp (fun _ _ _ _ _ => none) bX5_strainOf_11 n σ (nI a) (nI b) (fbI (be (stT (vw β) t a b) i)) (nI i) = some (fbI (be (stT (vw β) t a b) (2 ^ v_n (vw β))), σ) := by
  have hV := vw_ok h.1
  have hn := hV.1
  have hp := p2_le hn
  have hsm := smN hV t
  intro n
  induction n with
  | zero => intro i _ h; omega
  | succ n ih =>
    intro i hi hfu
    rw [qlp_succ]
    generalize qlp (fun _ _ _ _ _ => none) bX5_strainOf_11 n = kk at ih ⊢
    unfold bX5_strainOf_11 fX5_strainOf_41 fX5_strainOf_76 fX5_strainOf_78 fX5_strainOf_80
    rw [h.2.2.2.1.2.1, jshl1 (show v_n (vw β) < 31 by omega)]
    by_cases e : i = 2 ^ v_n (vw β)
    · rw [if_pos (nI_le (by omega) (by omega)), e]
    · have h1 := ih (i + 1) (by omega) (by omega)
      rw [be_s] at h1
      rw [if_neg (nI_ge (by omega) (by omega)), hc.2.1, andNot, nI_1]
      have hrd : fX5_readBy σ (nI (sm (vw β) (ly (vw β) t) ^^^ (sm (vw β) (ly (vw β) t) &&& i))) = some (nI (lwo (vw β) t i), σ) := rdB h hc (by have := cut_lt (i := i) hsm; omega)
      have hL := lwo_lt hV t i
      have c1 : (nI (lwo (vw β) t i) &&& nI a = nI a) ↔ lwo (vw β) t i &&& a = a := by rw [fa_and, nI_eq (Nat.lt_of_le_of_lt Nat.and_le_left (by omega)) (by omega)]
      have c2 : (nI (lwo (vw β) t i) &&& nI b = 0) ↔ lwo (vw β) t i &&& b = 0 := by rw [fa_and, show (0 : Int32) = nI 0 from rfl, nI_eq (Nat.lt_of_le_of_lt Nat.and_le_left (by omega)) (by omega)]
      have tail : ∀ x4 : Int32, kk σ (nI a) (nI b) (if stT (vw β) t a b i = true then nI i else x4) (nI (i + 1)) = some (fbI (be (stT (vw β) t a b) (2 ^ v_n (vw β))), σ) → ((fX5_readBy σ (nI (sm (vw β) (ly (vw β) t) ^^^ (sm (vw β) (ly (vw β) t) &&& i)))).bind fun q1 => if (q1.1 &&& nI a) = nI a then (if (q1.1 &&& nI b) = 0 then (kk q1.2 (nI a) (nI b) (nI i) (nI (i + 1))) else (kk q1.2 (nI a) (nI b) x4 (nI (i + 1)))) else (kk q1.2 (nI a) (nI b) x4 (nI (i + 1)))) = some (fbI (be (stT (vw β) t a b) (2 ^ v_n (vw β))), σ) := fun x4 q => by
        rw [bnd_s hrd]
        dsimp only
        unfold stT at q
        by_cases d1 : lwo (vw β) t i &&& a = a
        · rw [if_pos (c1.mpr d1)]
          by_cases d2 : lwo (vw β) t i &&& b = 0
          · rw [if_pos (c2.mpr d2)]
            rw [if_pos (decide_eq_true ⟨d1, d2⟩)] at q
            exact q
          · rw [if_neg (fun z => d2 (c2.mp z))]
            rw [if_neg (fun z => d2 (of_decide_eq_true z).2)] at q
            exact q
        · rw [if_neg (fun z => d1 (c1.mp z))]
          rw [if_neg (fun z => d1 (of_decide_eq_true z).1)] at q
          exact q
      cases hf : be (stT (vw β) t a b) i with
      | none =>
        rw [hf] at h1
        dsimp only at h1
        rw [if_pos (show fbI none = -1 from rfl)]
        refine tail _ ?_
        by_cases c : stT (vw β) t a b i = true
        · rw [if_pos c] at h1 ⊢; exact h1
        · rw [if_neg c] at h1 ⊢; exact h1
      | some w =>
        have hw := be_lt _ _ hf
        rw [hf] at h1
        dsimp only at h1
        rw [if_neg (show ¬ fbI (some w) = -1 from nI_m1 (by omega)), bnd_s (ones_ok σ (show i < 4096 by omega))]
        dsimp only
        rw [bnd_s (show fX5_ones σ (fbI (some w)) = some (nI (pc w), σ) from ones_ok σ (show w < 4096 by omega))]
        dsimp only
        have hpi := pc_le i
        have hpw := pc_le w
        by_cases c0 : pc w ≤ pc i
        · rw [if_pos c0] at h1
          rw [if_pos (nI_le c0 (by omega))]
          exact h1
        · rw [if_neg c0] at h1
          rw [if_neg (nI_ge (by omega) (by omega))]
          rw [hc.2.1, andNot]
          refine tail (fbI (some w)) ?_
          by_cases c : stT (vw β) t a b i = true
          · rw [if_pos c] at h1 ⊢; exact h1
          · rw [if_neg c] at h1 ⊢; exact h1
/-- how many, or which -/
def hm (j : Nat) : Option Nat → Int32
  | none => -1
  | some w => if j = 1 then nI w else nI (pc w)
theorem howMany_ok (σ : qM) {o : Option Nat} {j : Nat} (hj : j < 2) (ho : ∀ w, o = some w → w < 4096) : fX4_howManyOrBits σ (fbI o) (nI j) = some (hm j o, σ) := by
  unfold fX4_howManyOrBits fX4_howManyOrBits_10
  cases o with
  | none => rw [if_pos (show fbI none = -1 from rfl)]; rfl
  | some w =>
    have hw := ho w rfl
    rw [if_neg (show ¬ fbI (some w) = -1 from nI_m1 (by omega))]
    rcases (show j = 0 ∨ j = 1 by omega) with rfl | rfl
    · rw [if_neg (show ¬ nI 0 = (1 : Int32) by decide), bind_id]
      exact bitCount_ok σ hw
    · rw [if_pos (show nI 1 = (1 : Int32) from rfl)]; rfl
theorem tells_ok (σ : qM) {o : Option Nat} {j : Nat} (hj : j < 2) (ho : ∀ w, o = some w → w < 4096) : fX5_tells σ (fbI o) (nI j) = some (hm j o, σ) := by
  unfold fX5_tells fX5_tells_10
  cases o with
  | none => rw [if_pos (show fbI none = -1 from rfl)]; rfl
  | some w =>
    have hw := ho w rfl
    rw [if_neg (show ¬ fbI (some w) = -1 from nI_m1 (by omega))]
    rcases (show j = 0 ∨ j = 1 by omega) with rfl | rfl
    · rw [if_neg (show ¬ nI 0 = (1 : Int32) by decide), bind_id]
      exact ones_ok σ hw
    · rw [if_pos (show nI 1 = (1 : Int32) from rfl)]; rfl
def stV (V : qV) (t a b : Nat) : Option Nat := be (stT V t a b) (2 ^ v_n V)
theorem stV_lt {V : qV} (hV : v_ok V) {t a b w : Nat} (h : stV V t a b = some w) : w < 4096 := by
  have := be_lt _ _ h
  have := p2_le hV.1
  omega
theorem strainOf_ok {β : qB} {σ : qM} (h : MS β σ) {t a b : Nat} (ht : t < 4) (ha : a < 256) (hb : b < 256) : qok (fX5_strainOf σ (nI t) (nI a) (nI b)) (fun q => q.1 = fbI (stV (vw β) t a b) ∧ frP (vw β) σ q.2) := by
  have hV := vw_ok h.1
  have hp := p2_le hV.1
  unfold fX5_strainOf
  refine qok_bind (qok_mono (turnsCup_ok hV h.2.2.2.1 ht) ?_)
  rintro σ1 ⟨f1, hc⟩
  exact ⟨_, strainM (h.fr f1) hc ha hb qFU 0 (Nat.zero_le _) (by rw [qFU_eq]; omega), rfl, f1⟩
theorem strainS {β : qB} {σc σm : qM} (h : RD β σc σm) {t a b j : Nat} (ht : t < 4) (ha : a < 256) (hab : a &&& b = 0) (hj : j < 2) : qok ((fX0_settled σc).bind fun q10 => (fX0_fewestLeavesOut q10 (nI t) (nI a) (nI b)).bind fun q11 => (fX4_howManyOrBits q11.2 q11.1 (nI j)).bind fun q12 => some (q12.1, q12.2)) (fun q => q.1 = hm j (stV (vw β) t a b) ∧ frU σc q.2 ∧ (q.2 16 14 = 1 ∨ cupV q.2 (vw β))) := by
  have hV := vw_ok h.1
  have hp := p2_le hV.1
  have hp0 : 0 < 2 ^ v_n (vw β) := Nat.two_pow_pos _
  refine setq h _ (fun σ _ hd hu => ?_)
  unfold fX0_fewestLeavesOut fX0_fewestLeavesOut_18
  obtain ⟨σ1, e0, e1, e2, e3⟩ := fill_ok hV hd hu ht
  rw [bnd_s e0, (hd.fr e1).1, jshl1 (show v_n (vw β) < 31 by have := hV.1; omega), show nI (2 ^ v_n (vw β)) - 1 = nI (2 ^ v_n (vw β) - 1) from pk_sub (b := 1) (by omega), bnd_s (show fX0_fewestLeavesOut_28 σ1 (nI a) (nI b) (nI (2 ^ v_n (vw β) - 1)) (-1) 13 0 = some (fbI (stV (vw β) t a b), σ1) from strainC hV e2.2.1.2.1 e3 ha hab qFU 0 (by omega) (by rw [qFU_eq]; omega))]
  dsimp only
  rw [bind_id, howMany_ok σ1 hj (fun w hw => stV_lt hV hw)]
  exact qok_some ⟨rfl, e1, Or.inr e2⟩
theorem strainX {β : qB} {σc σm : qM} (h : RD β σc σm) {t a b j : Nat} (ht : t < 4) (ha : a < 256) (hb : b < 256) (hab : a &&& b = 0) (hj : j < 2) : qok (fX4_strain σc (nI t) (nI a) (nI b) (nI j)) (fun q => q.1 = hm j (stV (vw β) t a b) ∧ frU σc q.2 ∧ (q.2 16 14 = 1 ∨ cupV q.2 (vw β))) := by
  unfold fX4_strain
  rw [show (4 : Int32) = nI 4 from rfl, show (2 : Int32) = nI 2 from rfl, bnd_1 ((below_ok σc (nI t) 4 (by decide)).1 (bl_nI ht (by decide))) (by decide)]
  dsimp only
  rw [bnd_1 ((t_lawsC (nI a) σc).1 (bl_nI ha (by decide))) (by decide)]
  dsimp only
  rw [bnd_1 ((t_lawsC (nI b) σc).1 (bl_nI hb (by decide))) (by decide)]
  dsimp only
  rw [if_pos (show nI a &&& nI b = 0 by rw [fa_and, hab]; rfl), bnd_1 ((below_ok σc (nI j) 2 (by decide)).1 (bl_nI hj (by decide))) (by decide)]
  exact strainS h ht ha hab hj

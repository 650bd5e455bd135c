/-! ===== PURE: one leaf more ===== -/
def lyx (V : qV) (t s c r : Nat) : qL := (v_n V + 1, fun l => if l = v_n V then s else y_s (ly V t) l, fun l => if l = v_n V then c else y_c (ly V t) l, fun l => if l = v_n V then r else y_r (ly V t) l)
theorem lyx_ok {V : qV} (hV : v_ok V) (t : Nat) {s c r : Nat} (hs : s < 3) (hc : c < 6) (hr : r < 6) : y_ok (lyx V t s c r) := by
  refine ⟨by show v_n V + 1 ≤ 13; have := hV.1; omega, fun l hl => ?_⟩
  have hl2 : l < v_n V + 1 := hl
  show (if l = v_n V then s else y_s (ly V t) l) < 3 ∧ (if l = v_n V then c else y_c (ly V t) l) < 6 ∧ (if l = v_n V then r else y_r (ly V t) l) < 6
  by_cases e : l = v_n V
  · rw [if_pos e, if_pos e, if_pos e]; exact ⟨hs, hc, hr⟩
  · rw [if_neg e, if_neg e, if_neg e]; exact (ly_ok hV t).2 l (show l < v_n V by omega)
theorem smx_lo {V : qV} {t s c r l : Nat} (hl : l < v_n V) : (sm V (lyx V t s c r)).testBit l = (sm V (ly V t)).testBit l := by
  unfold sm
  rw [mk_bit, mk_bit, decide_eq_true (show l < y_n (lyx V t s c r) from by show l < v_n V + 1; omega), decide_eq_true (show l < y_n (ly V t) from hl)]
  show (true && !crk V (if l = v_n V then c else y_c (ly V t) l) (if l = v_n V then r else y_r (ly V t) l)) = _
  rw [if_neg (by omega), if_neg (by omega)]
theorem smx_hi {V : qV} {t s c r : Nat} : (sm V (lyx V t s c r)).testBit (v_n V) = !crk V c r := by
  unfold sm
  rw [mk_bit, decide_eq_true (show v_n V < y_n (lyx V t s c r) from by show v_n V < v_n V + 1; omega)]
  show (true && !crk V (if v_n V = v_n V then c else y_c (ly V t) (v_n V)) (if v_n V = v_n V then r else y_r (ly V t) (v_n V))) = _
  rw [if_pos rfl, if_pos rfl, Bool.true_and]
theorem pax_ll {V : qV} {t s c r k a b : Nat} (ha : a < v_n V) (hb : b < v_n V) : pa V (lyx V t s c r) k a b = pa V (ly V t) k a b := by
  unfold pa
  show (decide (¬ a = b ∧ (if a = v_n V then s else y_s (ly V t) a) = v_q V k 0 ∧ (if b = v_n V then s else y_s (ly V t) b) = v_q V k 2) && lieB (v_q V k 1) (if a = v_n V then c else y_c (ly V t) a) (if a = v_n V then r else y_r (ly V t) a) (if b = v_n V then c else y_c (ly V t) b) (if b = v_n V then r else y_r (ly V t) b)) = _
  simp only [if_neg (show ¬ a = v_n V by omega), if_neg (show ¬ b = v_n V by omega)]
theorem pax_hl {V : qV} {t s c r k b : Nat} (hb : b < v_n V) : pa V (lyx V t s c r) k (v_n V) b = (decide (v_q V k 0 = s ∧ v_q V k 2 = y_s (ly V t) b) && lieB (v_q V k 1) c r (y_c (ly V t) b) (y_r (ly V t) b)) := by
  unfold pa
  show (decide (¬ v_n V = b ∧ (if v_n V = v_n V then s else y_s (ly V t) (v_n V)) = v_q V k 0 ∧ (if b = v_n V then s else y_s (ly V t) b) = v_q V k 2) && lieB (v_q V k 1) (if v_n V = v_n V then c else y_c (ly V t) (v_n V)) (if v_n V = v_n V then r else y_r (ly V t) (v_n V)) (if b = v_n V then c else y_c (ly V t) b) (if b = v_n V then r else y_r (ly V t) b)) = _
  rw [if_pos rfl, if_pos rfl, if_pos rfl, if_neg (show ¬ b = v_n V by omega), if_neg (show ¬ b = v_n V by omega), if_neg (show ¬ b = v_n V by omega)]
  congr 1
  apply decide_eq_decide.mpr
  constructor
  · rintro ⟨_, h1, h2⟩; exact ⟨h1.symm, h2.symm⟩
  · rintro ⟨h1, h2⟩; exact ⟨by omega, h1.symm, h2.symm⟩
theorem pax_lh {V : qV} {t s c r k a : Nat} (ha : a < v_n V) : pa V (lyx V t s c r) k a (v_n V) = (decide (v_q V k 0 = y_s (ly V t) a ∧ v_q V k 2 = s) && lieB (v_q V k 1) (y_c (ly V t) a) (y_r (ly V t) a) c r) := by
  unfold pa
  show (decide (¬ a = v_n V ∧ (if a = v_n V then s else y_s (ly V t) a) = v_q V k 0 ∧ (if v_n V = v_n V then s else y_s (ly V t) (v_n V)) = v_q V k 2) && lieB (v_q V k 1) (if a = v_n V then c else y_c (ly V t) a) (if a = v_n V then r else y_r (ly V t) a) (if v_n V = v_n V then c else y_c (ly V t) (v_n V)) (if v_n V = v_n V then r else y_r (ly V t) (v_n V))) = _
  rw [if_pos rfl, if_pos rfl, if_pos rfl, if_neg (show ¬ a = v_n V by omega), if_neg (show ¬ a = v_n V by omega), if_neg (show ¬ a = v_n V by omega)]
  congr 1
  apply decide_eq_decide.mpr
  constructor
  · rintro ⟨_, h1, h2⟩; exact ⟨h1.symm, h2.symm⟩
  · rintro ⟨h1, h2⟩; exact ⟨by omega, h1.symm, h2.symm⟩
/-- which rules apply with one leaf more -/
def axf (V : qV) (t s c r k : Nat) : Bool := ap V (ly V t) (sm V (ly V t)) k || (!crk V c r && (List.range (v_n V)).any (fun l => mwf V t l s c r k))
theorem apx {V : qV} {t s c r k : Nat} : ap V (lyx V t s c r) (sm V (lyx V t s c r)) k = axf V t s c r k := by
  unfold axf
  rw [Bool.eq_iff_iff, Bool.or_eq_true, Bool.and_eq_true, List.any_eq_true]
  constructor
  · intro q
    obtain ⟨a, b, ha, hb, h1, h2, h3⟩ := ap_iff.mp q
    have ha2 : a < v_n V + 1 := ha
    have hb2 : b < v_n V + 1 := hb
    by_cases ea : a = v_n V
    · by_cases eb : b = v_n V
      · exact absurd (ea.trans eb.symm) (pa_ne h3)
      · subst ea
        rw [smx_hi] at h1
        rw [smx_lo (by omega)] at h2
        rw [pax_hl (by omega)] at h3
        refine Or.inr ⟨h1, b, List.mem_range.mpr (by omega), ?_⟩
        unfold mwf
        rw [h2, h3, Bool.or_true, Bool.true_and]
    · by_cases eb : b = v_n V
      · subst eb
        rw [smx_hi] at h2
        rw [smx_lo (by omega)] at h1
        rw [pax_lh (by omega)] at h3
        refine Or.inr ⟨h2, a, List.mem_range.mpr (by omega), ?_⟩
        unfold mwf
        rw [h1, h3, Bool.true_or, Bool.true_and]
      · rw [smx_lo (by omega)] at h1 h2
        rw [pax_ll (by omega) (by omega)] at h3
        exact Or.inl (ap_iff.mpr ⟨a, b, show a < v_n V by omega, show b < v_n V by omega, h1, h2, h3⟩)
  · intro q
    rcases q with q | ⟨q1, l, hl, q2⟩
    · obtain ⟨a, b, ha, hb, h1, h2, h3⟩ := ap_iff.mp q
      have ha2 : a < v_n V := ha
      have hb2 : b < v_n V := hb
      exact ap_iff.mpr ⟨a, b, show a < v_n V + 1 by omega, show b < v_n V + 1 by omega, by rw [smx_lo ha2]; exact h1, by rw [smx_lo hb2]; exact h2, by rw [pax_ll ha2 hb2]; exact h3⟩
    · have hl2 := List.mem_range.mp hl
      unfold mwf at q2
      rw [Bool.and_eq_true, Bool.or_eq_true] at q2
      rcases q2.2 with w | w
      · exact ap_iff.mpr ⟨l, v_n V, show l < v_n V + 1 by omega, show v_n V < v_n V + 1 by omega, by rw [smx_lo hl2]; exact q2.1, by rw [smx_hi]; exact q1, by rw [pax_lh hl2]; exact w⟩
      · exact ap_iff.mpr ⟨v_n V, l, show v_n V < v_n V + 1 by omega, show l < v_n V + 1 by omega, by rw [smx_hi]; exact q1, by rw [smx_lo hl2]; exact q2.1, by rw [pax_hl hl2]; exact w⟩
def rdx (V : qV) (t s c r : Nat) : Nat := lw V (axf V t s c r) nof (v_r V)
theorem rdx_lt {V : qV} (hV : v_ok V) (t s c r : Nat) : rdx V t s c r < 2 ^ 8 := lw_lt hV (Nat.le_refl _)
theorem rdx_cr {V : qV} {t s c r : Nat} (h : crk V c r = true) : rdx V t s c r = rdg V t := lw_cong (fun k _ => by unfold axf; rw [h]; cases ap V (ly V t) (sm V (ly V t)) k <;> rfl) (fun _ _ => rfl)
/-- a leaf lies there -/
def tkB (V : qV) (t c r l : Nat) : Bool := decide (y_c (ly V t) l = c ∧ y_r (ly V t) l = r)
def plC (V : qV) (t k s c r : Nat) : Bool := !(List.range (v_n V)).any (tkB V t c r) && ((rdx V t s c r).testBit k != (rdg V t).testBit k)
def plB (V : qV) (t k x : Nat) : Bool := plC V t k (x / 36) (x % 6) (x / 6 % 6)
def axi (V : qV) (t s c r i k : Nat) : Bool := ap V (ly V t) (sm V (ly V t)) k || (List.range i).any (fun l => mwf V t l s c r k)
theorem fa_xor (a b : Nat) : nI a ^^^ nI b = nI (a ^^^ b) := by
  apply Int32.toBitVec_inj.mp
  show BitVec.ofNat 32 a ^^^ BitVec.ofNat 32 b = BitVec.ofNat 32 (a ^^^ b)
  apply BitVec.eq_of_toNat_eq
  rw [BitVec.toNat_xor, BitVec.toNat_ofNat, BitVec.toNat_ofNat, BitVec.toNat_ofNat, Nat.xor_mod_two_pow]
theorem changesL {σ : qM} {V : qV} (hV : v_ok V) (hd : rdc σ V) (hu : cupV σ V) {t k s c r : Nat} (ht : t < 4) (hk : k < 8) (hs : s < 3) (hc : c < 6) (hr : r < 6) (hcr : crk V c r = false) : ∀ n i, i ≤ v_n V → v_n V - i < n → (List.range i).any (tkB V t c r) = false → qlp (fun _ _ _ _ _ _ _ _ => none) bX0_changes_24 n σ (nI t) (nI k) (nI s) (nI c) (nI r) (nI (mk (axi V t s c r i) (v_r V))) (nI i) = some (b2i (plC V t k s c r), σ) := by
  have hn := hV.1
  have hr2 := p2_le hV.2.1
  intro n
  induction n with
  | zero => intro i _ h; omega
  | succ n ih =>
    intro i hi hfu hany
    have hmk := mk_lt (axi V t s c r i) (v_r V)
    rw [qlp_succ]
    generalize qlp (fun _ _ _ _ _ _ _ _ => none) bX0_changes_24 n = kk at ih ⊢
    unfold bX0_changes_24 fX0_changes_66 fX0_changes_83
    rw [hd.1]
    by_cases e : i = v_n V
    · rw [if_pos (nI_le (by omega) (by omega)), if_pos (qin_of (by omega) (by decide)), if_pos (qin_of ht (by decide)), nI_clamp (by omega), nI_clamp (by omega), hu.2.1.2.1 _ hmk, (hu.2.1.2.2 t ht).2.2]
      have e1 : lm V (mk (axi V t s c r i) (v_r V)) = rdx V t s c r := by
        rw [lm_mk]
        exact lw_cong (fun k _ => by unfold axi axf; rw [hcr, e]; rfl) (fun _ _ => rfl)
      have hx := rdx_lt hV t s c r
      have hg := rdg_lt hV t
      rw [e1, fa_xor]
      have hxx : rdx V t s c r ^^^ rdg V t < 2 ^ 8 := Nat.xor_lt_two_pow hx hg
      have e2 : plC V t k s c r = (rdx V t s c r ^^^ rdg V t).testBit k := by
        unfold plC
        rw [← e, hany, Nat.testBit_xor]
        cases (rdx V t s c r).testBit k <;> cases (rdg V t).testBit k <;> rfl
      rw [e2]
      by_cases q : (rdx V t s c r ^^^ rdg V t).testBit k = true
      · rw [if_pos ((bit1 (by omega) (by omega)).mpr q), q, b2i_t]
      · rw [if_neg (fun z => q ((bit1 (by omega) (by omega)).mp z)), b2i_z ((Bool.not_eq_true _).mp q)]
    · have hl : i < v_n V := by omega
      obtain ⟨u1, u2⟩ := (hu.2.1.2.2 t ht).1.1 i hl
      have yl := (ly_ok hV t).2 i hl
      rw [if_neg (nI_ge (by omega) (by omega)), if_pos (qin_of ht (by decide)), if_pos (qin_of ht (by decide)), if_pos (qin_of (show i < 12 by omega) (by decide)), if_pos (qin_of (show i < 12 by omega) (by decide)), nI_clamp (show t < 2 ^ 31 by omega), nI_clamp (show i < 2 ^ 31 by omega)]
      simp only [u1, u2]
      have e3 := madeWith_ok hV hd hu.2.1.1 ht (hu.2.1.2.2 t ht).1 hl hs hc hr
      have go : tkB V t c r i = false → ((fX0_madeWith σ (nI t) (nI i) (nI s) (nI c) (nI r)).bind fun q1 => kk q1.2 (nI t) (nI k) (nI s) (nI c) (nI r) (nI (mk (axi V t s c r i) (v_r V)) ||| q1.1) (nI i + 1)) = some (b2i (plC V t k s c r), σ) := fun hq => by
        rw [bnd_s e3]
        dsimp only
        rw [fa_or, mk_mk, nI_1, mk_cong (g := axi V t s c r (i + 1)) (fun k _ => by unfold axi; rw [any_succ, Bool.or_assoc])]
        exact ih (i + 1) (by omega) (by omega) (by rw [any_succ, hany, hq]; rfl)
      by_cases c1 : y_c (ly V t) i = c
      · rw [if_pos (congrArg nI c1)]
        by_cases c2 : y_r (ly V t) i = r
        · rw [if_pos (congrArg nI c2)]
          have : (List.range (v_n V)).any (tkB V t c r) = true := any_of (i := i + 1) (by omega) (by rw [any_succ, show tkB V t c r i = true from decide_eq_true ⟨c1, c2⟩, Bool.or_true])
          unfold plC
          rw [this]
          rfl
        · rw [if_neg (fun q => c2 ((nI_eq (by omega) (by omega)).mp q))]
          exact go (decide_eq_false (fun q => c2 q.2))
      · rw [if_neg (fun q => c1 ((nI_eq (by omega) (by omega)).mp q))]
        exact go (decide_eq_false (fun q => c1 q.1))
theorem changes_ok {σ : qM} {V : qV} (hV : v_ok V) (hd : rdc σ V) (hu : cupV σ V) {t k s c r : Nat} (ht : t < 4) (hk : k < 8) (hs : s < 3) (hc : c < 6) (hr : r < 6) : fX0_changes σ (nI t) (nI k) (nI s) (nI c) (nI r) = some (b2i (plC V t k s c r), σ) := by
  have hn := hV.1
  unfold fX0_changes fX0_changes_21
  have e1 := crackC_ok hV hd hc hr
  cases hq : crk V c r with
  | true =>
    rw [hq] at e1
    rw [bnd_1 e1 (by decide)]
    unfold plC
    rw [rdx_cr hq]
    cases (rdg V t).testBit k <;> cases (List.range (v_n V)).any (tkB V t c r) <;> rfl
  | false =>
    rw [hq] at e1
    rw [bnd_0 e1]
    dsimp only
    rw [if_pos (qin_of ht (by decide)), nI_clamp (by omega), (hu.2.1.2.2 t ht).2.1.2]
    have e2 : am V t = mk (axi V t s c r 0) (v_r V) := mk_cong (fun k _ => by unfold axi; rw [show (List.range 0).any (fun l => mwf V t l s c r k) = false from rfl, Bool.or_false])
    rw [e2]
    exact changesL hV hd hu ht hk hs hc hr hq qFU 0 (Nat.zero_le _) (by rw [qFU_eq]; omega) rfl
theorem place20 {σ : qM} {V : qV} (hV : v_ok V) (hd : rdc σ V) (hu : cupV σ V) {t k s r : Nat} (ht : t < 4) (hk : k < 8) (hs : s < 3) (hr : r < 6) (k2 : qM → Int32 → Int32 → Int32 → Option (Int32 × qM)) (k10 : qM → Int32 → Int32 → Int32 → Int32 → Option (Int32 × qM)) (h10 : k10 σ (nI t) (nI k) (nI s) (nI (r + 1)) = some (fs (plB V t k) (108 - (36 * s + 6 * (r + 1))) (36 * s + 6 * (r + 1)), σ)) : ∀ n c, c ≤ 6 → 6 - c < n → qlp (fun _ _ _ _ _ _ => none) (bX0_leastLeafThatChanges_20 k2 k10) n σ (nI t) (nI k) (nI s) (nI r) (nI c) = some (fs (plB V t k) (108 - (36 * s + 6 * r + c)) (36 * s + 6 * r + c), σ) := by
  intro n
  induction n with
  | zero => intro i _ h; omega
  | succ n ih =>
    intro c hc hn
    rw [qlp_succ]
    generalize qlp (fun _ _ _ _ _ _ => none) (bX0_leastLeafThatChanges_20 k2 k10) n = kk at ih ⊢
    unfold bX0_leastLeafThatChanges_20
    by_cases e : c = 6
    · subst e
      rw [if_pos (show (6 : Int32) ≤ nI 6 by decide), nI_1, h10, show 36 * s + 6 * (r + 1) = 36 * s + 6 * r + 6 by omega]
    · obtain ⟨d, hdd⟩ : ∃ d, 108 - (36 * s + 6 * r + c) = d + 1 := ⟨108 - (36 * s + 6 * r + c) - 1, by omega⟩
      have hd2 : 108 - (36 * s + 6 * r + (c + 1)) = d := by omega
      have h1 := ih (c + 1) (by omega) (by omega)
      rw [hd2] at h1
      rw [if_neg (show ¬ (6 : Int32) ≤ nI c from nI_ge (b := 6) (by omega) (by decide)), nI_1, hdd, fs_s]
      have e1 := changes_ok hV hd hu ht hk hs (show c < 6 by omega) hr
      have e2 : plB V t k (36 * s + 6 * r + c) = plC V t k s c r := by
        unfold plB
        rw [show (36 * s + 6 * r + c) / 36 = s by omega, show (36 * s + 6 * r + c) % 6 = c by omega, show (36 * s + 6 * r + c) / 6 % 6 = r by omega]
      rw [e2]
      cases hq : plC V t k s c r with
      | true =>
        rw [hq] at e1
        rw [bnd_1 e1 (by decide)]
        dsimp only
        rw [if_pos rfl, show (36 : Int32) * nI s = nI (36 * s) from pk_mul 36 s, show (6 : Int32) * nI r = nI (6 * r) from pk_mul 6 r, nI_add, nI_add]
      | false =>
        rw [hq] at e1
        rw [bnd_0 e1]
        dsimp only
        rw [if_neg (by decide)]
        exact h1
theorem place10 {σ : qM} {V : qV} (hV : v_ok V) (hd : rdc σ V) (hu : cupV σ V) {t k s : Nat} (ht : t < 4) (hk : k < 8) (hs : s < 3) (k2 : qM → Int32 → Int32 → Int32 → Option (Int32 × qM)) (h2 : k2 σ (nI t) (nI k) (nI (s + 1)) = some (fs (plB V t k) (108 - 36 * (s + 1)) (36 * (s + 1)), σ)) : ∀ n r, r ≤ 6 → 6 - r < n → qlp (fun _ _ _ _ _ => none) (bX0_leastLeafThatChanges_10 k2) n σ (nI t) (nI k) (nI s) (nI r) = some (fs (plB V t k) (108 - (36 * s + 6 * r)) (36 * s + 6 * r), σ) := by
  intro n
  induction n with
  | zero => intro i _ h; omega
  | succ n ih =>
    intro r hr hn
    rw [qlp_succ]
    generalize qlp (fun _ _ _ _ _ => none) (bX0_leastLeafThatChanges_10 k2) n = kk at ih ⊢
    unfold bX0_leastLeafThatChanges_10
    by_cases e : r = 6
    · subst e
      rw [if_pos (show (6 : Int32) ≤ nI 6 by decide), nI_1, h2, show 36 * (s + 1) = 36 * s + 6 * 6 by omega]
    · rw [if_neg (show ¬ (6 : Int32) ≤ nI r from nI_ge (b := 6) (by omega) (by decide))]
      exact place20 hV hd hu ht hk hs (by omega) k2 kk (ih (r + 1) (by omega) (by omega)) qFU 0 (by omega) (by rw [qFU_eq]; omega)
theorem placeC {σ : qM} {V : qV} (hV : v_ok V) (hd : rdc σ V) (hu : cupV σ V) {t k : Nat} (ht : t < 4) (hk : k < 8) : ∀ n s, s ≤ 3 → 3 - s < n → qlp (fun _ _ _ _ => none) bX0_leastLeafThatChanges_2 n σ (nI t) (nI k) (nI s) = some (fs (plB V t k) (108 - 36 * s) (36 * s), σ) := by
  intro n
  induction n with
  | zero => intro i _ h; omega
  | succ n ih =>
    intro s hs hn
    rw [qlp_succ]
    generalize qlp (fun _ _ _ _ => none) bX0_leastLeafThatChanges_2 n = kk at ih ⊢
    unfold bX0_leastLeafThatChanges_2
    by_cases e : s = 3
    · subst e
      rw [if_pos (show (3 : Int32) ≤ nI 3 by decide)]
      rfl
    · rw [if_neg (show ¬ (3 : Int32) ≤ nI s from nI_ge (b := 3) (by omega) (by decide))]
      exact place10 hV hd hu ht hk (by omega) kk (ih (s + 1) (by omega) (by omega)) qFU 0 (by omega) (by rw [qFU_eq]; omega)

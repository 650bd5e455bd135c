/-! ===== PURE: digest ===== -/
theorem sd_bind {α γ : Type} {β : qB} {x y : Option (α × qM)} {f g : α × qM → Option (γ × qM)} (h : SimD β x y) (k : ∀ r σc σm, RD β σc σm → SimD β (f (r, σc)) (g (r, σm))) : SimD β (x.bind f) (y.bind g) := by
  obtain ⟨r, a, b, e1, e2, e3⟩ := h
  subst e1
  subst e2
  exact k r a b e3
theorem faultD0 {β : qB} {σc σm : qM} (h : RD β σc σm) : SimD β (fX4_fault σc 0) (fX5_readsText σm 0) := by
  obtain ⟨⟨r, s⟩, e, q1, q2, q3⟩ := readsText0 h.1 h.2.2.2.1
  unfold fX4_fault fX4_textOf
  rw [bnd_1 (show fX4_below σc 0 2 = some (1, σc) from (below_ok σc 0 2 (by decide)).1 (bl_nI (j := 0) (by decide) (by decide))) (by decide), e]
  dsimp only
  rw [if_pos rfl, bnd_s rfl]
  dsimp only
  rw [if_pos (show q_kd sC 1 = 3 from rfl), h.2.1.1.2.2.2.2.2.1]
  exact ⟨_, _, _, rfl, congrArg some (Prod.ext q1 rfl), h.1, h.2.1, h.2.2.1, h.2.2.2.1.fr q2, h.2.2.2.2.1.fr (frU.rf _) q2, q3 h.2.2.2.2.2⟩
theorem faultD1 {β : qB} {σc σm : qM} (h : RD β σc σm) : SimD β (fX4_fault σc 1) (fX5_readsText σm 1) := by
  obtain ⟨⟨r, s⟩, e, q1, q2, q3⟩ := readsText1 h.1 h.2.2.2.1
  unfold fX4_fault fX4_textOf
  rw [bnd_1 (show fX4_below σc 1 2 = some (1, σc) from (below_ok σc 1 2 (by decide)).1 (bl_nI (j := 1) (by decide) (by decide))) (by decide), e]
  dsimp only
  rw [if_neg (show ¬ (1 : Int32) = 0 by decide), bnd_s rfl]
  dsimp only
  rw [if_pos (show q_kd sC 4 = 3 from rfl), h.2.1.2.1.2.2.2.2.2.1]
  exact ⟨_, _, _, rfl, congrArg some (Prod.ext q1 rfl), h.1, h.2.1, h.2.2.1, h.2.2.2.1.fr q2, h.2.2.2.2.1.fr (frU.rf _) q2, q3 h.2.2.2.2.2⟩
def dl (f : Nat → Nat → Nat) (i : Nat) : Nat → Nat → Int64 → Int64
  | 0, _, acc => acc
  | d + 1, j, acc => dl f i d (j + 1) ((31 : Int64) * acc + (nI (f i j)).toInt64)
def dL (f : Nat → Nat → Nat) (w : Nat) : Nat → Nat → Int64 → Int64
  | 0, _, acc => acc
  | d + 1, i, acc => dL f w d (i + 1) (dl f i w 0 acc)
theorem dl_s (f : Nat → Nat → Nat) (i d j : Nat) (acc : Int64) : dl f i (d + 1) j acc = dl f i d (j + 1) ((31 : Int64) * acc + (nI (f i j)).toInt64) := rfl
theorem dL_s (f : Nat → Nat → Nat) (w d i : Nat) (acc : Int64) : dL f w (d + 1) i acc = dL f w d (i + 1) (dl f i w 0 acc) := rfl
theorem leafE {β : qB} {σ : qM} (hb : bt_ok β) (hA : AC σ β) {l j : Nat} (hl : l < v_n (vw β)) (hj : j < 3) : fX4_leaf σ (nI l) (nI j) = some (nI (v_l (vw β) l j), σ) := by
  have hV := vw_ok hb
  have hd := hA.rd hb
  have hn := hV.1
  unfold fX4_leaf
  rw [hd.1, bnd_1 ((below_ok σ (nI l) (v_n (vw β)) (by omega)).1 (bl_nI hl (by omega))) (by decide)]
  dsimp only
  rw [bnd_1 (show fX4_below σ (nI j) 3 = some (1, σ) from (below_ok σ (nI j) 3 (by decide)).1 (bl_nI hj (by decide))) (by decide)]
  dsimp only
  rw [bind_id]
  exact partL_ok hV hd hl hj
theorem ruleE {β : qB} {σ : qM} (hb : bt_ok β) (hA : AC σ β) {l j : Nat} (hl : l < v_r (vw β)) (hj : j < 5) : fX4_rule σ (nI l) (nI j) = some (nI (v_q (vw β) l j), σ) := by
  have hV := vw_ok hb
  have hd := hA.rd hb
  have hn := hV.2.1
  unfold fX4_rule
  rw [hd.2.2.2.1, bnd_1 ((below_ok σ (nI l) (v_r (vw β)) (by omega)).1 (bl_nI hl (by omega))) (by decide)]
  dsimp only
  rw [bnd_1 (show fX4_below σ (nI j) 5 = some (1, σ) from (below_ok σ (nI j) 5 (by decide)).1 (bl_nI hj (by decide))) (by decide)]
  dsimp only
  rw [bind_id]
  exact partR_ok hV hd hl hj
theorem dgC44 {β : qB} {σ : qM} (hb : bt_ok β) (hA : AC σ β) {i : Nat} (hi : i < v_n (vw β)) (k29 : qM → Int64 → Int32 → Option (Int64 × qM)) : ∀ n j acc, j ≤ 3 → 3 - j < n → qlp (fun _ _ _ _ => none) (bX4_digestOfTexts_44 k29) n σ acc (nI i) (nI j) = k29 σ (dl (v_l (vw β)) i (3 - j) j acc) (nI (i + 1)) := by
  intro n
  induction n with
  | zero => intro j acc _ h; omega
  | succ n ih =>
    intro j acc hj hn
    rw [qlp_succ]
    have h1 := ih (j + 1)
    generalize qlp (fun _ _ _ _ => none) (bX4_digestOfTexts_44 k29) n = kk at h1 ⊢
    unfold bX4_digestOfTexts_44 fX4_digestOfTexts_66
    by_cases e : j = 3
    · subst e
      rw [if_pos (show (3 : Int32) ≤ nI 3 by decide), nI_1]
      rfl
    · rw [if_neg (show ¬ (3 : Int32) ≤ nI j from nI_ge (b := 3) (by omega) (by decide)), bnd_s (leafE hb hA hi (show j < 3 by omega))]
      dsimp only
      rw [nI_1, h1 _ (by omega) (by omega), show 3 - j = 3 - (j + 1) + 1 by omega, dl_s]
theorem dgM70 {V : qV} {σ : qM} (h : rdm σ V) (hV : v_ok V) {i : Nat} (hi : i < v_n V) (k59 : qM → Int64 → Int32 → Option (Int64 × qM)) : ∀ n j acc, j ≤ 3 → 3 - j < n → qlp (fun _ _ _ _ => none) (bX5_digest_70 k59) n σ acc (nI i) (nI j) = k59 σ (dl (v_l V) i (3 - j) j acc) (nI (i + 1)) := by
  have hn := hV.1
  intro n
  induction n with
  | zero => intro j acc _ h; omega
  | succ n ih =>
    intro j acc hj hfu
    rw [qlp_succ]
    have h1 := ih (j + 1)
    generalize qlp (fun _ _ _ _ => none) (bX5_digest_70 k59) n = kk at h1 ⊢
    unfold bX5_digest_70 fX5_digest_95
    by_cases e : j = 3
    · subst e
      rw [if_pos (show (3 : Int32) ≤ nI 3 by decide), nI_1]
      rfl
    · rw [if_neg (show ¬ (3 : Int32) ≤ nI j from nI_ge (b := 3) (by omega) (by decide)), show (3 : Int32) * nI i + nI j = nI (3 * i + j) from by rw [show (3 : Int32) * nI i = nI (3 * i) from pk_mul 3 i, nI_add], if_pos (qin_of (by omega) (by decide)), nI_clamp (by omega), h.2.2 i j hi (by omega), nI_1, h1 _ (by omega) (by omega), show 3 - j = 3 - (j + 1) + 1 by omega, dl_s]
theorem dgC96 {β : qB} {σ : qM} (hb : bt_ok β) (hA : AC σ β) {i : Nat} (hi : i < v_r (vw β)) (k81 : qM → Int64 → Int32 → Option (Int64 × qM)) : ∀ n j acc, j ≤ 5 → 5 - j < n → qlp (fun _ _ _ _ => none) (bX4_digestOfTexts_96 k81) n σ acc (nI i) (nI j) = k81 σ (dl (v_q (vw β)) i (5 - j) j acc) (nI (i + 1)) := by
  intro n
  induction n with
  | zero => intro j acc _ h; omega
  | succ n ih =>
    intro j acc hj hn
    rw [qlp_succ]
    have h1 := ih (j + 1)
    generalize qlp (fun _ _ _ _ => none) (bX4_digestOfTexts_96 k81) n = kk at h1 ⊢
    unfold bX4_digestOfTexts_96 fX4_digestOfTexts_118
    by_cases e : j = 5
    · subst e
      rw [if_pos (show (5 : Int32) ≤ nI 5 by decide), nI_1]
      rfl
    · rw [if_neg (show ¬ (5 : Int32) ≤ nI j from nI_ge (b := 5) (by omega) (by decide)), bnd_s (ruleE hb hA hi (show j < 5 by omega))]
      dsimp only
      rw [nI_1, h1 _ (by omega) (by omega), show 5 - j = 5 - (j + 1) + 1 by omega, dl_s]
theorem dgM120 {V : qV} {σ : qM} (h : rdm σ V) (hV : v_ok V) {i : Nat} (hi : i < v_r V) (k109 : qM → Int64 → Int32 → Option (Int64 × qM)) : ∀ n j acc, j ≤ 5 → 5 - j < n → qlp (fun _ _ _ _ => none) (bX5_digest_120 k109) n σ acc (nI i) (nI j) = k109 σ (dl (v_q V) i (5 - j) j acc) (nI (i + 1)) := by
  have hn := hV.2.1
  intro n
  induction n with
  | zero => intro j acc _ h; omega
  | succ n ih =>
    intro j acc hj hfu
    rw [qlp_succ]
    have h1 := ih (j + 1)
    generalize qlp (fun _ _ _ _ => none) (bX5_digest_120 k109) n = kk at h1 ⊢
    unfold bX5_digest_120 fX5_digest_145
    by_cases e : j = 5
    · subst e
      rw [if_pos (show (5 : Int32) ≤ nI 5 by decide), nI_1]
      rfl
    · rw [if_neg (show ¬ (5 : Int32) ≤ nI j from nI_ge (b := 5) (by omega) (by decide)), show (5 : Int32) * nI i + nI j = nI (5 * i + j) from by rw [show (5 : Int32) * nI i = nI (5 * i) from pk_mul 5 i, nI_add], if_pos (qin_of (by omega) (by decide)), nI_clamp (by omega), h.1.2.1 i j hi (by omega), nI_1, h1 _ (by omega) (by omega), show 5 - j = 5 - (j + 1) + 1 by omega, dl_s]
theorem dgC81 {β : qB} {σ : qM} (hb : bt_ok β) (hA : AC σ β) : ∀ n i acc, i ≤ v_r (vw β) → v_r (vw β) - i < n → qlp (fun _ _ _ => none) bX4_digestOfTexts_81 n σ acc (nI i) = some (dL (v_q (vw β)) 5 (v_r (vw β) - i) i acc, σ) := by
  have hV := vw_ok hb
  have hr := hV.2.1
  intro n
  induction n with
  | zero => intro j acc _ h; omega
  | succ n ih =>
    intro i acc hi hn
    rw [qlp_succ]
    have h1 := ih (i + 1)
    generalize qlp (fun _ _ _ => none) bX4_digestOfTexts_81 n = kk at h1 ⊢
    unfold bX4_digestOfTexts_81
    rw [(hA.rd hb).2.2.2.1]
    by_cases e : i = v_r (vw β)
    · rw [if_pos (nI_le (by omega) (by omega)), e, Nat.sub_self]; rfl
    · rw [if_neg (nI_ge (by omega) (by omega)), show fX4_digestOfTexts_96 kk σ acc (nI i) 0 = _ from dgC96 hb hA (show i < v_r (vw β) by omega) kk qFU 0 acc (by omega) (by rw [qFU_eq]; omega), h1 _ (by omega) (by omega), show v_r (vw β) - i = v_r (vw β) - (i + 1) + 1 by omega, dL_s]
theorem dgC29 {β : qB} {σ : qM} (hb : bt_ok β) (hA : AC σ β) : ∀ n i acc, i ≤ v_n (vw β) → v_n (vw β) - i < n → qlp (fun _ _ _ => none) bX4_digestOfTexts_29 n σ acc (nI i) = some (dL (v_q (vw β)) 5 (v_r (vw β)) 0 (dL (v_l (vw β)) 3 (v_n (vw β) - i) i acc), σ) := by
  have hV := vw_ok hb
  have hn := hV.1
  have hr := hV.2.1
  intro n
  induction n with
  | zero => intro j acc _ h; omega
  | succ n ih =>
    intro i acc hi hfu
    rw [qlp_succ]
    have h1 := ih (i + 1)
    generalize qlp (fun _ _ _ => none) bX4_digestOfTexts_29 n = kk at h1 ⊢
    unfold bX4_digestOfTexts_29
    rw [(hA.rd hb).1]
    by_cases e : i = v_n (vw β)
    · rw [if_pos (nI_le (by omega) (by omega)), e, Nat.sub_self]
      exact dgC81 hb hA qFU 0 acc (Nat.zero_le _) (by rw [qFU_eq]; omega)
    · rw [if_neg (nI_ge (by omega) (by omega)), show fX4_digestOfTexts_44 kk σ acc (nI i) 0 = _ from dgC44 hb hA (show i < v_n (vw β) by omega) kk qFU 0 acc (by omega) (by rw [qFU_eq]; omega), h1 _ (by omega) (by omega), show v_n (vw β) - i = v_n (vw β) - (i + 1) + 1 by omega, dL_s]
theorem dgM109 {V : qV} {σ : qM} (h : rdm σ V) (hV : v_ok V) : ∀ n i acc, i ≤ v_r V → v_r V - i < n → qlp (fun _ _ _ => none) bX5_digest_109 n σ acc (nI i) = fX5_digest_159 σ (dL (v_q V) 5 (v_r V - i) i acc) 0 := by
  have hr := hV.2.1
  intro n
  induction n with
  | zero => intro j acc _ h; omega
  | succ n ih =>
    intro i acc hi hn
    rw [qlp_succ]
    have h1 := ih (i + 1)
    generalize qlp (fun _ _ _ => none) bX5_digest_109 n = kk at h1 ⊢
    unfold bX5_digest_109
    rw [h.1.1]
    by_cases e : i = v_r V
    · rw [if_pos (nI_le (by omega) (by omega)), e, Nat.sub_self]; rfl
    · rw [if_neg (nI_ge (by omega) (by omega)), show fX5_digest_120 kk σ acc (nI i) 0 = _ from dgM120 h hV (show i < v_r V by omega) kk qFU 0 acc (by omega) (by rw [qFU_eq]; omega), h1 _ (by omega) (by omega), show v_r V - i = v_r V - (i + 1) + 1 by omega, dL_s]
theorem dgM59 {V : qV} {σ : qM} (h : rdm σ V) (hV : v_ok V) : ∀ n i acc, i ≤ v_n V → v_n V - i < n → qlp (fun _ _ _ => none) bX5_digest_59 n σ acc (nI i) = fX5_digest_159 σ (dL (v_q V) 5 (v_r V) 0 (dL (v_l V) 3 (v_n V - i) i acc)) 0 := by
  have hn := hV.1
  have hr := hV.2.1
  intro n
  induction n with
  | zero => intro j acc _ h; omega
  | succ n ih =>
    intro i acc hi hfu
    rw [qlp_succ]
    have h1 := ih (i + 1)
    generalize qlp (fun _ _ _ => none) bX5_digest_59 n = kk at h1 ⊢
    unfold bX5_digest_59
    rw [h.2.1]
    by_cases e : i = v_n V
    · rw [if_pos (nI_le (by omega) (by omega)), e, Nat.sub_self]
      exact dgM109 h hV qFU 0 acc (Nat.zero_le _) (by rw [qFU_eq]; omega)
    · rw [if_neg (nI_ge (by omega) (by omega)), show fX5_digest_70 kk σ acc (nI i) 0 = _ from dgM70 h hV (show i < v_n V by omega) kk qFU 0 acc (by omega) (by rw [qFU_eq]; omega), h1 _ (by omega) (by omega), show v_n V - i = v_n V - (i + 1) + 1 by omega, dL_s]

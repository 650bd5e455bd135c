/-! ===== PURE: sinks, the reference and the shortest terms ===== -/
theorem sinkIn {σ : qM} {V : qV} (hV : v_ok V) (h8 : σ 0 8 = nI (v_n V)) {x i : Nat} (hx : x ≤ 16) (hi : i < 2 ^ 31) (k40 : qM → Int32 → Int32 → Int32 → Int64 → Int64 → Int32 → Option (Int64 × qM)) (x3 x4 : Int32) (x5 x7 : Int64) : ∀ n l, l ≤ v_n V → v_n V - l < n → qlp (fun _ _ _ _ _ _ _ _ _ => none) (bX5_sinksOf_77 k40) n σ (nI x) x3 x4 x5 x7 (nI i) (lN (wN x i l)) (nI l) = k40 σ (nI x) x3 x4 (x5 + lN (wN x i (v_n V))) x7 (nI (i + 1)) := by
  have hn := hV.1
  intro n
  induction n with
  | zero => intro i _ h; omega
  | succ n ih =>
    intro l hl hfu
    rw [qlp_succ]
    have h1 := ih (l + 1)
    generalize qlp (fun _ _ _ _ _ _ _ _ _ => none) (bX5_sinksOf_77 k40) n = kk at h1 ⊢
    unfold bX5_sinksOf_77 fX5_sinksOf_108 fX5_sinksOf_111 fX5_sinksOf_124
    rw [h8]
    by_cases e : l = v_n V
    · rw [if_pos (nI_le (by omega) (by omega)), e, nI_1]
    · have e2 := isIn_b σ (a := i) (k := l) hi (by omega)
      rw [wN_s] at h1
      rw [if_neg (nI_ge (by omega) (by omega)), nI_1, show (16 : Int32) - nI x = nI (16 - x) from pk_sub (a := 16) hx, nI_l (show 16 - x < 2 ^ 31 by omega), nI_l (show x < 2 ^ 31 by omega), lN_mul, lN_mul]
      cases hq : i.testBit l with
      | true =>
        rw [hq] at e2
        rw [hq, if_pos rfl] at h1
        rw [bnd_1 e2 (by decide)]
        exact h1 (by omega) (by omega)
      | false =>
        rw [hq] at e2
        rw [hq, if_neg (by decide)] at h1
        rw [bnd_0 e2]
        exact h1 (by omega) (by omega)
theorem sinkOut {β : qB} {σ : qM} (h : MS β σ) {t : Nat} (hc : cup σ (vw β) (ly (vw β) t)) {k x : Nat} (hk : k < 8) (hx : x ≤ 16) (x4 : Int32) (x7 : Int64) : ∀ n i, i ≤ 2 ^ v_n (vw β) → 2 ^ v_n (vw β) - i < n → qlp (fun _ _ _ _ _ _ _ => none) bX5_sinksOf_40 n σ (nI x) (nI k) x4 (lN (sN (toF (vw β) t k x) i)) x7 (nI i) = fX5_part σ (lN (sN (toF (vw β) t k x) (2 ^ v_n (vw β)))) x7 x4 := by
  have hV := vw_ok h.1
  have hn := hV.1
  have hp := p2_le hn
  have hsm := smN hV t
  intro n
  induction n with
  | zero => intro i _ h; omega
  | succ n ih =>
    intro i hi hfu
    rw [qlp_succ]
    have h1 := ih (i + 1)
    generalize qlp (fun _ _ _ _ _ _ _ => none) bX5_sinksOf_40 n = kk at h1 ⊢
    unfold bX5_sinksOf_40 fX5_sinksOf_124
    rw [h.2.2.2.1.2.1, jshl1 (show v_n (vw β) < 31 by omega)]
    by_cases e : i = 2 ^ v_n (vw β)
    · rw [if_pos (nI_le (by omega) (by omega)), e]
      exact (by cases fX5_part σ (lN (sN (toF (vw β) t k x) (2 ^ v_n (vw β)))) x7 x4 <;> rfl)
    · have hrd : fX5_readBy σ (nI (sm (vw β) (ly (vw β) t) ^^^ (sm (vw β) (ly (vw β) t) &&& i))) = some (nI (lwo (vw β) t i), σ) := rdB h hc (by have := cut_lt (i := i) hsm; omega)
      have hL := lwo_lt hV t i
      rw [if_neg (nI_ge (by omega) (by omega)), hc.2.1, andNot, bnd_s hrd]
      dsimp only
      have e2 := isIn_b σ (a := lwo (vw β) t i) (k := k) (by omega) (by omega)
      rw [sN_s] at h1
      unfold toF at h1
      cases hq : (lwo (vw β) t i).testBit k with
      | true =>
        rw [hq] at e2
        rw [hq, if_pos rfl] at h1
        rw [bnd_1 e2 (by decide)]
        dsimp only
        rw [show fX5_sinksOf_77 kk σ (nI x) (nI k) x4 (lN (sN (toF (vw β) t k x) i)) x7 (nI i) 1 0 = _ from sinkIn hV h.2.2.2.1.2.1 hx (by omega) kk (nI k) x4 _ x7 qFU 0 (Nat.zero_le _) (by rw [qFU_eq]; omega), lN_add]
        exact h1 (by omega) (by omega)
      | false =>
        rw [hq] at e2
        rw [hq, if_neg (by decide), Nat.add_zero] at h1
        rw [bnd_0 e2]
        dsimp only
        rw [nI_1]
        exact h1 (by omega) (by omega)
theorem sinkPow {σ : qM} {V : qV} (hV : v_ok V) (h8 : σ 0 8 = nI (v_n V)) (x1 x3 x4 : Int32) (x5 : Int64) : ∀ n i, i ≤ v_n V → v_n V - i < n → qlp (fun _ _ _ _ _ _ _ => none) bX5_sinksOf_14 n σ x1 x3 x4 x5 (lN (16 ^ i)) (nI i) = fX5_sinksOf_40 σ x1 x3 x4 x5 (lN (16 ^ v_n V)) 0 := by
  have hn := hV.1
  intro n
  induction n with
  | zero => intro i _ h; omega
  | succ n ih =>
    intro i hi hfu
    rw [qlp_succ]
    have h1 := ih (i + 1)
    generalize qlp (fun _ _ _ _ _ _ _ => none) bX5_sinksOf_14 n = kk at h1 ⊢
    unfold bX5_sinksOf_14 fX5_sinksOf_31
    rw [h8]
    by_cases e : i = v_n V
    · rw [if_pos (nI_le (by omega) (by omega)), e]
    · rw [if_neg (nI_ge (by omega) (by omega)), nI_1, show lN (16 ^ i) * (16 : Int64) = lN (16 ^ (i + 1)) from by rw [Nat.pow_succ, ← lN_mul]; rfl]
      exact h1 (by omega) (by omega)
theorem gcd_step (a b : Nat) : Nat.gcd b (a % b) = Nat.gcd a b := by rw [Nat.gcd_comm a b, Nat.gcd_rec b a, Nat.gcd_comm]
theorem partStep (σ : qM) (x0 x2 : Int64) (x4 : Int32) {a b : Nat} (ha : a < 2 ^ 62) (hb : b < 2 ^ 62) (kk : qM → Int64 → Int64 → Int32 → Int64 → Int64 → Option (Int64 × qM)) (R : Option (Int64 × qM)) (h0 : b = 0 → 0 < a → R = if x4 = 0 then some (x0 / lN a, σ) else some (x2 / lN a, σ)) (h1 : 0 < b → kk σ x0 x2 x4 (lN b) (lN (a % b)) = R) (hp : 0 < a ∨ 0 < b) : bX5_part_6 kk σ x0 x2 x4 (lN a) (lN b) = R := by
  unfold bX5_part_6 fX5_part_28
  have z : ∀ c, c < 2 ^ 62 → (lN c = 0 ↔ c = 0) := fun c hc => pk_lEQ (b := 0) (by omega) (by decide)
  by_cases e : b = 0
  · have ha0 : ¬ lN a = 0 := fun q => by have := (z a ha).mp q; omega
    rw [if_pos ((lg_cmp_eq _ _).mpr ((z b hb).mpr e)), if_pos ha0, if_pos ha0, h0 e (by omega)]
  · rw [if_neg (fun q => e ((z b hb).mp ((lg_cmp_eq _ _).mp q))), if_pos (fun q => e ((z b hb).mp q)), show jlrem (lN a) (lN b) = lN (a % b) from pk_lRem (by omega) (by omega) (by omega)]
    exact h1 (by omega)
theorem partL (σ : qM) (x0 x2 : Int64) (x4 : Int32) : ∀ d a b n, b < 2 ^ d → a < 2 ^ 62 → b < 2 ^ 62 → (0 < a ∨ 0 < b) → 2 * d + 2 ≤ n → qlp (fun _ _ _ _ _ _ => none) bX5_part_6 n σ x0 x2 x4 (lN a) (lN b) = if x4 = 0 then some (x0 / lN (Nat.gcd a b), σ) else some (x2 / lN (Nat.gcd a b), σ) := by
  intro d
  induction d with
  | zero =>
    intro a b n hb ha hb2 hp hn
    obtain ⟨m, rfl⟩ : ∃ m, n = m + 1 := ⟨n - 1, by omega⟩
    have : b = 0 := by rw [Nat.pow_zero] at hb; omega
    subst this
    rw [qlp_succ]
    exact partStep σ x0 x2 x4 ha hb2 _ _ (fun _ _ => by rw [Nat.gcd_zero_right]) (fun h => by omega) hp
  | succ d ih =>
    intro a b n hb ha hb2 hp hn
    obtain ⟨m, rfl⟩ : ∃ m, n = m + 1 + 1 := ⟨n - 2, by omega⟩
    rw [qlp_succ]
    refine partStep σ x0 x2 x4 ha hb2 _ _ (fun e _ => by rw [e, Nat.gcd_zero_right]) (fun hb0 => ?_) hp
    have hr : a % b < b := Nat.mod_lt _ hb0
    rw [qlp_succ]
    refine partStep σ x0 x2 x4 hb2 (by omega) _ _ (fun e _ => by rw [← gcd_step, e, Nat.gcd_zero_right]) (fun hr0 => ?_) (Or.inl hb0)
    have hr2 : b % (a % b) < a % b := Nat.mod_lt _ hr0
    have hr3 : b % (a % b) ≤ b - a % b := by
      rw [Nat.mod_eq_sub_mod (by omega)]
      exact Nat.mod_le _ _
    rw [ih (a % b) (b % (a % b)) m (by rw [Nat.pow_succ] at hb; omega) (by omega) (by omega) (Or.inl hr0) (by omega), gcd_step, gcd_step]
/-! how often two goes into a long -/
theorem ntz8_any (σ : qM) (x : Int32) : fJ6_numberOfTrailingZeros_0f7a4_8 σ x = (fJ6_numberOfTrailingZeros_0f7a4_8 q0m x).map (fun q => (q.1, σ)) := by
  unfold fJ6_numberOfTrailingZeros_0f7a4_8 fJ6_numberOfTrailingZeros_0f7a4_34 fJ6_numberOfTrailingZeros_0f7a4_49 fJ6_numberOfTrailingZeros_0f7a4_62 fJ6_numberOfTrailingZeros_0f7a4_74
  repeat' split
  all_goals rfl
theorem ntz8_d : ∀ z, z < 32 → (fJ6_numberOfTrailingZeros_0f7a4_8 q0m (nI (2 ^ z - 1))).map (fun q => q.1) = some (nI z) := by decide +kernel
theorem low_is (z q : Nat) : (2 ^ z * (2 * q + 1) - 1) ^^^ ((2 ^ z * (2 * q + 1) - 1) &&& (2 ^ z * (2 * q + 1))) = 2 ^ z - 1 := by
  have hp : 0 < 2 ^ z := Nat.two_pow_pos z
  have e1 : 2 ^ z * (2 * q + 1) - 1 = 2 ^ z * (2 * q) + (2 ^ z - 1) := by rw [Nat.mul_add, Nat.mul_one]; omega
  have e2 : 2 ^ z * (2 * q + 1) = 2 ^ z * (2 * q + 1) + 0 := rfl
  rw [e1]
  apply Nat.eq_of_testBit_eq
  intro j
  rw [Nat.testBit_xor, Nat.testBit_and, Nat.testBit_two_pow_sub_one]
  rw [Nat.testBit_two_pow_mul_add _ (show 2 ^ z - 1 < 2 ^ z by omega), e2, Nat.testBit_two_pow_mul_add _ hp]
  by_cases c : j < z
  · rw [if_pos c, if_pos c, Nat.testBit_two_pow_sub_one, Nat.zero_testBit, decide_eq_true c]; rfl
  · rw [if_neg c, if_neg c, decide_eq_false c]
    cases hj : j - z with
    | zero => rw [Nat.testBit_zero, decide_eq_false (by omega)]; rfl
    | succ i =>
      rw [Nat.testBit_succ, Nat.testBit_succ, show 2 * q / 2 = q by omega, show (2 * q + 1) / 2 = q by omega]
      cases q.testBit i <;> rfl
theorem ntzG (σ : qM) {z q : Nat} (hz : z < 32) : fJ6_numberOfTrailingZeros_0f7a4 σ (nI (2 ^ z * (2 * q + 1))) = some (nI z, σ) := by
  have hp : 0 < 2 ^ z * (2 * q + 1) := Nat.mul_pos (Nat.two_pow_pos z) (by omega)
  unfold fJ6_numberOfTrailingZeros_0f7a4
  rw [show nI (2 ^ z * (2 * q + 1)) - 1 = nI (2 ^ z * (2 * q + 1) - 1) from pk_sub (b := 1) hp, Int32.and_comm, andNot, low_is, ntz8_any]
  have := ntz8_d z hz
  cases h : fJ6_numberOfTrailingZeros_0f7a4_8 q0m (nI (2 ^ z - 1)) with
  | none => rw [h] at this; cases this
  | some w =>
    rw [h] at this
    have e : w.1 = nI z := Option.some.inj this
    show some (w.1, σ) = _
    rw [e]
theorem lntz (σ : qM) {z q : Nat} (hT : 2 ^ z * (2 * q + 1) < 2 ^ 62) : fJ13_numberOfTrailingZeros_95d88 σ (lN (2 ^ z * (2 * q + 1))) = some (nI z, σ) := by
  have hz : z < 62 := by
    by_cases c : z < 62
    · exact c
    · have h1 : 2 ^ 62 ≤ 2 ^ z := p2_le (by omega)
      have h2 : 2 ^ z * 1 ≤ 2 ^ z * (2 * q + 1) := Nat.mul_le_mul (Nat.le_refl _) (by omega)
      omega
  unfold fJ13_numberOfTrailingZeros_95d88
  rw [lN_i]
  by_cases c : z < 32
  · have hne : ¬ nI (2 ^ z * (2 * q + 1)) = 0 := fun e => by
      have h1 := bt_nI (2 ^ z * (2 * q + 1)) z c
      have h2 := bt_nI 0 z c
      rw [e, show (0 : Int32) = nI 0 from rfl, h2, Nat.zero_testBit, show 2 ^ z * (2 * q + 1) = 2 ^ z * (2 * q + 1) + 0 from rfl, Nat.testBit_two_pow_mul_add _ (Nat.two_pow_pos z), if_neg (by omega), Nat.sub_self, Nat.testBit_zero, decide_eq_true (by omega)] at h1
      exact Bool.noConfusion h1
    rw [if_neg hne, bind_id]
    exact ntzG σ c
  · have e : 2 ^ z * (2 * q + 1) = 2 ^ 32 * (2 ^ (z - 32) * (2 * q + 1)) := by rw [← Nat.mul_assoc, ← Nat.pow_add, show 32 + (z - 32) = z by omega]
    have h0 : nI (2 ^ z * (2 * q + 1)) = 0 := by rw [e, ← pk_mul, show nI (2 ^ 32) = 0 by decide, Int32.zero_mul]
    rw [if_pos h0, show jlushr (lN (2 ^ z * (2 * q + 1))) 32 = lN (2 ^ z * (2 * q + 1) / 2 ^ 32) from wb_shr (k := 32) (by omega) (by decide), lN_i, e, Nat.mul_div_cancel_left _ (by decide), bnd_s (ntzG σ (show z - 32 < 32 by omega))]
    show some ((32 : Int32) + nI (z - 32), σ) = _
    rw [show (32 : Int32) + nI (z - 32) = nI (32 + (z - 32)) from nI_add 32 _, show 32 + (z - 32) = z by omega]
theorem lntz0 (σ : qM) : fJ13_numberOfTrailingZeros_95d88 σ (lN 0) = some (64, σ) := by
  unfold fJ13_numberOfTrailingZeros_95d88
  rw [if_pos (show (lN 0).toInt32 = 0 by decide), show (jlushr (lN 0) 32).toInt32 = nI 0 by decide]
  unfold fJ6_numberOfTrailingZeros_0f7a4
  rw [ntz8_any, show (fJ6_numberOfTrailingZeros_0f7a4_8 q0m ((nI 0 ^^^ -1) &&& (nI 0 - 1))) = some (32, q0m) from rfl]
  rfl

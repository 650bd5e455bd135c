/-! ===== PURE: lowest and highest bits ===== -/
def tzN : Nat → Nat → Nat
  | 0, _ => 0
  | w + 1, m => if m % 2 = 1 then 0 else 1 + tzN w (m / 2)
def hbN : Nat → Nat → Nat
  | 0, _ => 0
  | w + 1, m => if m < 2 then 0 else 1 + hbN w (m / 2)
def q0m : qM := fun _ _ => 0
theorem ntz_any (σ : qM) (x : Int32) : fJ6_numberOfTrailingZeros_0f7a4 σ x = (fJ6_numberOfTrailingZeros_0f7a4 q0m x).map (fun q => (q.1, σ)) := by
  unfold fJ6_numberOfTrailingZeros_0f7a4 fJ6_numberOfTrailingZeros_0f7a4_8 fJ6_numberOfTrailingZeros_0f7a4_34 fJ6_numberOfTrailingZeros_0f7a4_49 fJ6_numberOfTrailingZeros_0f7a4_62 fJ6_numberOfTrailingZeros_0f7a4_74
  repeat' split
  all_goals rfl
theorem nlz_any (σ : qM) (x : Int32) : fJ6_numberOfLeadingZeros_0f7a4 σ x = (fJ6_numberOfLeadingZeros_0f7a4 q0m x).map (fun q => (q.1, σ)) := by
  unfold fJ6_numberOfLeadingZeros_0f7a4 fJ6_numberOfLeadingZeros_0f7a4_33 fJ6_numberOfLeadingZeros_0f7a4_48 fJ6_numberOfLeadingZeros_0f7a4_61 fJ6_numberOfLeadingZeros_0f7a4_73
  repeat' split
  all_goals rfl
theorem ntz_d : ∀ a, a < 64 → ∀ b, b < 64 → ¬ 64 * a + b = 0 → (fJ6_numberOfTrailingZeros_0f7a4 q0m (nI (64 * a + b))).map (fun q => q.1) = some (nI (tzN 12 (64 * a + b))) := by decide +kernel
theorem nlz_d : ∀ a, a < 64 → ∀ b, b < 64 → ¬ 64 * a + b = 0 → (fJ6_numberOfLeadingZeros_0f7a4 q0m (nI (64 * a + b))).map (fun q => 31 - q.1) = some (nI (hbN 12 (64 * a + b))) := by decide +kernel
theorem zb_d : ∀ a, a < 64 → ∀ b, b < 64 → ¬ 64 * a + b = 0 → (tzN 12 (64 * a + b) ≤ hbN 12 (64 * a + b) ∧ hbN 12 (64 * a + b) < 12 ∧ (64 * a + b).testBit (tzN 12 (64 * a + b)) = true ∧ (64 * a + b).testBit (hbN 12 (64 * a + b)) = true ∧ (64 * a + b) % 2 ^ tzN 12 (64 * a + b) = 0 ∧ 64 * a + b < 2 ^ (hbN 12 (64 * a + b) + 1)) := by decide +kernel
theorem split64 {P : Nat → Prop} (h : ∀ a, a < 64 → ∀ b, b < 64 → ¬ 64 * a + b = 0 → P (64 * a + b)) {m : Nat} (h0 : ¬ m = 0) (hm : m < 4096) : P m := by
  have := h (m / 64) (by omega) (m % 64) (by omega)
  rw [show 64 * (m / 64) + m % 64 = m by omega] at this
  exact this h0
theorem ntz_ok (σ : qM) {m : Nat} (h0 : ¬ m = 0) (hm : m < 4096) : fJ6_numberOfTrailingZeros_0f7a4 σ (nI m) = some (nI (tzN 12 m), σ) := by
  have := split64 (P := fun m => (fJ6_numberOfTrailingZeros_0f7a4 q0m (nI m)).map (fun q => q.1) = some (nI (tzN 12 m))) ntz_d h0 hm
  rw [ntz_any]
  cases h : fJ6_numberOfTrailingZeros_0f7a4 q0m (nI m) with
  | none => rw [h] at this; cases this
  | some q =>
    rw [h] at this
    have e : q.1 = nI (tzN 12 m) := Option.some.inj this
    show some (q.1, σ) = _
    rw [e]
theorem nlz_ok (σ : qM) {m : Nat} (h0 : ¬ m = 0) (hm : m < 4096) : ∃ r, fJ6_numberOfLeadingZeros_0f7a4 σ (nI m) = some (r, σ) ∧ 31 - r = nI (hbN 12 m) := by
  have := split64 (P := fun m => (fJ6_numberOfLeadingZeros_0f7a4 q0m (nI m)).map (fun q => 31 - q.1) = some (nI (hbN 12 m))) nlz_d h0 hm
  rw [nlz_any]
  cases h : fJ6_numberOfLeadingZeros_0f7a4 q0m (nI m) with
  | none => rw [h] at this; cases this
  | some q =>
    rw [h] at this
    have e : 31 - q.1 = nI (hbN 12 m) := Option.some.inj this
    exact ⟨q.1, rfl, e⟩
theorem zb_ok {m : Nat} (h0 : ¬ m = 0) (hm : m < 4096) : tzN 12 m ≤ hbN 12 m ∧ hbN 12 m < 12 ∧ m.testBit (tzN 12 m) = true ∧ m.testBit (hbN 12 m) = true ∧ m % 2 ^ tzN 12 m = 0 ∧ m < 2 ^ (hbN 12 m + 1) := split64 (P := fun m => tzN 12 m ≤ hbN 12 m ∧ hbN 12 m < 12 ∧ m.testBit (tzN 12 m) = true ∧ m.testBit (hbN 12 m) = true ∧ m % 2 ^ tzN 12 m = 0 ∧ m < 2 ^ (hbN 12 m + 1)) zb_d h0 hm
/-- set bits lie between the two -/
theorem zb_in {m j : Nat} (h0 : ¬ m = 0) (hm : m < 4096) (hj : m.testBit j = true) : tzN 12 m ≤ j ∧ j ≤ hbN 12 m := by
  obtain ⟨z1, z2, z3, z4, z5, z6⟩ := zb_ok h0 hm
  constructor
  · by_cases c : tzN 12 m ≤ j
    · exact c
    · have h1 : (m % 2 ^ tzN 12 m).testBit j = m.testBit j := by rw [Nat.testBit_mod_two_pow, decide_eq_true (by omega), Bool.true_and]
      rw [z5, Nat.zero_testBit, hj] at h1
      exact Bool.noConfusion h1
  · by_cases c : j ≤ hbN 12 m
    · exact c
    · rw [bit_hi z6 (by omega)] at hj
      exact Bool.noConfusion hj

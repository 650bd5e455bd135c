/-! ===== PURE: sums, weights, powers of two ===== -/
def sN (f : Nat → Nat) : Nat → Nat
  | 0 => 0
  | n + 1 => sN f n + f n
theorem sN_s (f : Nat → Nat) (n : Nat) : sN f (n + 1) = sN f n + f n := rfl
theorem sN_cong {f g : Nat → Nat} : ∀ {n : Nat}, (∀ i, i < n → f i = g i) → sN f n = sN g n := by
  intro n
  induction n with
  | zero => intro _; rfl
  | succ n ih => intro h; rw [sN_s, sN_s, ih (fun i hi => h i (by omega)), h n (by omega)]
theorem sN_add (f g : Nat → Nat) : ∀ n, sN (fun i => f i + g i) n = sN f n + sN g n := by
  intro n
  induction n with
  | zero => rfl
  | succ n ih => rw [sN_s, sN_s, sN_s, ih]; omega
theorem sN_0 : ∀ n, sN (fun _ => 0) n = 0 := by
  intro n
  induction n with
  | zero => rfl
  | succ n ih => rw [sN_s, ih]
theorem sN_one {p a : Nat} : ∀ n, p < n → sN (fun j => if j = p then a else 0) n = a := by
  intro n
  induction n with
  | zero => intro h; omega
  | succ n ih =>
    intro h
    rw [sN_s]
    by_cases e : n = p
    · subst e
      rw [if_pos rfl, sN_cong (g := fun _ => 0) (fun i hi => if_neg (by omega)), sN_0]; omega
    · rw [if_neg e, ih (by omega), Nat.add_zero]
theorem sN_front (f : Nat → Nat) : ∀ n, sN f (n + 1) = f 0 + sN (fun i => f (i + 1)) n := by
  intro n
  induction n with
  | zero => show 0 + f 0 = f 0 + 0; omega
  | succ n ih => rw [sN_s, ih, sN_s]; omega
theorem sN_rev (f : Nat → Nat) : ∀ n, sN f n = sN (fun i => f (n - (i + 1))) n := by
  intro n
  induction n with
  | zero => rfl
  | succ n ih =>
    rw [sN_front (fun i => f (n + 1 - (i + 1))), sN_s, ih, show n + 1 - (0 + 1) = n by omega, Nat.add_comm]
    congr 1
    exact sN_cong (fun i _ => by rw [show n + 1 - (i + 1 + 1) = n - (i + 1) by omega])
theorem sN_le {f : Nat → Nat} {c : Nat} : ∀ n, (∀ i, i < n → f i ≤ c) → sN f n ≤ n * c := by
  intro n
  induction n with
  | zero => intro _; rw [Nat.zero_mul]; exact Nat.le_refl 0
  | succ n ih => intro h; have := ih (fun i hi => h i (by omega)); have := h n (by omega); rw [sN_s, Nat.succ_mul]; omega
def cN (B : Nat → Bool) : Nat → Nat → Nat
  | 0, _ => 0
  | M + 1, j => cN B M j + (if j = pc M then (if B M = true then 1 else 0) else 0)
theorem cN_s (B : Nat → Bool) (M j : Nat) : cN B (M + 1) j = cN B M j + (if j = pc M then (if B M = true then 1 else 0) else 0) := rfl
theorem cN_le {B : Nat → Bool} : ∀ M j, cN B M j ≤ M := by
  intro M
  induction M with
  | zero => intro j; exact Nat.le_refl 0
  | succ M ih => intro j; have := ih j; rw [cN_s]; split; split; omega; omega; omega
theorem sum_cN {B : Nat → Bool} {h : Nat → Nat} {n : Nat} : ∀ M, (∀ m, m < M → pc m ≤ n) → sN (fun j => cN B M j * h j) (n + 1) = sN (fun m => if B m = true then h (pc m) else 0) M := by
  intro M
  induction M with
  | zero => intro _; exact (sN_cong (fun i _ => Nat.zero_mul _)).trans (sN_0 _)
  | succ M ih =>
    intro hp
    rw [sN_s (fun m => if B m = true then h (pc m) else 0) M, ← ih (fun m hm => hp m (by omega)), ← sN_one (p := pc M) (a := if B M = true then h (pc M) else 0) (n + 1) (by have := hp M (by omega); omega), ← sN_add]
    refine sN_cong (fun j _ => ?_)
    rw [cN_s, Nat.add_mul]
    congr 1
    by_cases e : j = pc M
    · rw [if_pos e, if_pos e, e]
      by_cases b : B M = true
      · rw [if_pos b, if_pos b, Nat.one_mul]
      · rw [if_neg b, if_neg b, Nat.zero_mul]
    · rw [if_neg e, if_neg e, Nat.zero_mul]
def cbt (x : Nat) : Nat → Nat
  | 0 => 0
  | l + 1 => cbt x l + (if x.testBit l = true then 1 else 0)
theorem cbt_s (x l : Nat) : cbt x (l + 1) = cbt x l + (if x.testBit l = true then 1 else 0) := rfl
theorem cbt_le (x : Nat) : ∀ l, cbt x l ≤ l := by
  intro l
  induction l with
  | zero => exact Nat.le_refl 0
  | succ l ih => rw [cbt_s]; split <;> omega
theorem cbt_front (x : Nat) : ∀ l, cbt x (l + 1) = x % 2 + cbt (x / 2) l := by
  intro l
  induction l with
  | zero =>
    rw [cbt_s]
    show 0 + _ = x % 2 + 0
    rw [Nat.testBit_zero]
    by_cases c : x % 2 = 1
    · rw [decide_eq_true c, if_pos rfl, c]
    · rw [decide_eq_false c, if_neg (by decide)]; omega
  | succ l ih => rw [cbt_s, ih, cbt_s, Nat.testBit_succ]; omega
theorem pcn_cbt : ∀ w m, pcn w m = cbt m w := by
  intro w
  induction w with
  | zero => intro m; rfl
  | succ w ih => intro m; rw [cbt_front, ← ih]; rfl
theorem cbt_hi {m n : Nat} (h : m < 2 ^ n) : ∀ w, n ≤ w → cbt m w = cbt m n := by
  intro w
  induction w with
  | zero => intro h2; have : n = 0 := by omega
            subst this; rfl
  | succ w ih =>
    intro h2
    by_cases e : n = w + 1
    · rw [e]
    · rw [cbt_s, ih (by omega), bit_hi h (by omega), if_neg (by decide)]; omega
theorem cbt_rev {o n : Nat} (h : o < 2 ^ n) : ∀ l, l ≤ n → cbt (2 ^ n - (o + 1)) l = l - cbt o l := by
  intro l
  induction l with
  | zero => intro _; rfl
  | succ l ih =>
    intro hl
    have := cbt_le o l
    rw [cbt_s, cbt_s, ih (by omega), Nat.testBit_two_pow_sub_succ h, decide_eq_true (by omega), Bool.true_and]
    cases o.testBit l
    · rw [if_pos (show (!false) = true from rfl), if_neg (by decide)]; omega
    · rw [if_neg (by decide), if_pos rfl]; omega
theorem pc_rev {o n : Nat} (hn : n ≤ 12) (h : o < 2 ^ n) : pc (2 ^ n - (o + 1)) = n - cbt o n := by
  unfold pc
  rw [pcn_cbt, cbt_hi (show 2 ^ n - (o + 1) < 2 ^ n by omega) 12 hn, cbt_rev h n (Nat.le_refl _)]
def wN (x o : Nat) : Nat → Nat
  | 0 => 1
  | l + 1 => wN x o l * (if o.testBit l = true then x else 16 - x)
theorem wN_s (x o l : Nat) : wN x o (l + 1) = wN x o l * (if o.testBit l = true then x else 16 - x) := rfl
theorem wN_is (x o : Nat) : ∀ l, wN x o l = x ^ cbt o l * (16 - x) ^ (l - cbt o l) := by
  intro l
  induction l with
  | zero => rfl
  | succ l ih =>
    have := cbt_le o l
    rw [wN_s, ih, cbt_s]
    by_cases c : o.testBit l = true
    · rw [if_pos c, if_pos c, show l + 1 - (cbt o l + 1) = l - cbt o l by omega, Nat.pow_succ]
      rw [Nat.mul_assoc, Nat.mul_comm ((16 - x) ^ (l - cbt o l)) x, ← Nat.mul_assoc]
    · rw [if_neg c, if_neg c, show l + 1 - (cbt o l + 0) = l - cbt o l + 1 by omega, Nat.pow_succ, Nat.add_zero, Nat.mul_assoc]
theorem wN_le {x : Nat} (hx : x ≤ 16) (o : Nat) : ∀ l, wN x o l ≤ 16 ^ l := by
  intro l
  induction l with
  | zero => exact Nat.le_refl 1
  | succ l ih =>
    rw [wN_s, Nat.pow_succ]
    refine Nat.mul_le_mul ih ?_
    split <;> omega
/-! powers of two -/
theorem odd_div {g : Nat} (h : g % 2 = 1) : ∀ D, g ∣ 2 ^ D → g = 1 := by
  intro D
  induction D with
  | zero => intro h; exact Nat.dvd_one.mp h
  | succ D ih =>
    rintro ⟨c, hc⟩
    have h2 : (g * c) % 2 = 0 := by rw [← hc, Nat.pow_succ]; omega
    rw [Nat.mul_mod, h, Nat.one_mul, Nat.mod_mod] at h2
    refine ih ⟨c / 2, ?_⟩
    have e : c = 2 * (c / 2) := by omega
    rw [e, Nat.pow_succ, Nat.mul_comm (2 ^ D) 2, ← Nat.mul_assoc, Nat.mul_comm g 2, Nat.mul_assoc] at hc
    exact Nat.eq_of_mul_eq_mul_left (by decide) hc
theorem gcd_odd (q D : Nat) : Nat.gcd (2 * q + 1) (2 ^ D) = 1 := by
  refine odd_div ?_ D (Nat.gcd_dvd_right _ _)
  obtain ⟨c, hc⟩ := Nat.gcd_dvd_left (2 * q + 1) (2 ^ D)
  generalize Nat.gcd (2 * q + 1) (2 ^ D) = g at hc
  have : (g * c) % 2 = 1 := by rw [← hc]; omega
  rw [Nat.mul_mod] at this
  by_cases e : g % 2 = 1
  · exact e
  · have e0 : g % 2 = 0 := by omega
    rw [e0, Nat.zero_mul] at this
    exact absurd this (by decide)
theorem gcd_two (z q D : Nat) : Nat.gcd (2 ^ z * (2 * q + 1)) (2 ^ D) = 2 ^ (min z D) := by
  by_cases h : z ≤ D
  · rw [Nat.min_eq_left h, show 2 ^ D = 2 ^ z * 2 ^ (D - z) from by rw [← Nat.pow_add, Nat.add_sub_cancel' h], Nat.gcd_mul_left, gcd_odd, Nat.mul_one]
  · rw [Nat.min_eq_right (by omega)]
    refine Nat.gcd_eq_right ⟨2 ^ (z - D) * (2 * q + 1), ?_⟩
    rw [← Nat.mul_assoc, ← Nat.pow_add, show D + (z - D) = z by omega]
theorem two_part : ∀ n, 0 < n → ∃ z q, n = 2 ^ z * (2 * q + 1) := by
  intro n
  induction n using Nat.strongRecOn with
  | _ n ih =>
    intro h
    by_cases c : n % 2 = 1
    · exact ⟨0, n / 2, by rw [Nat.pow_zero, Nat.one_mul]; omega⟩
    · obtain ⟨z, q, e⟩ := ih (n / 2) (by omega) (by omega)
      refine ⟨z + 1, q, ?_⟩
      rw [Nat.pow_succ, Nat.mul_comm (2 ^ z) 2, Nat.mul_assoc, ← e]
      omega

/-! counting bits -/
def pcn : Nat → Nat → Nat
  | 0, _ => 0
  | w + 1, n => n % 2 + pcn w (n / 2)
def pc (n : Nat) : Nat := pcn 12 n
theorem pcn_le : ∀ w n, pcn w n ≤ w := by
  intro w
  induction w with
  | zero => intro n; exact Nat.le_refl 0
  | succ w ih => intro n; have := ih (n / 2); show n % 2 + pcn w (n / 2) ≤ w + 1; omega
theorem pc_le (n : Nat) : pc n ≤ 12 := pcn_le 12 n
def bcI (x0 : Int32) : Int32 :=
  let a := x0 - ((jushr x0 1) &&& 1431655765)
  let b := (a &&& 858993459) + ((jushr a 2) &&& 858993459)
  let c := (b + (jushr b 4)) &&& 252645135
  let d := c + (jushr c 8)
  let e := d + (jushr d 16)
  e &&& 63
theorem bc_d : ∀ a, a < 64 → ∀ b, b < 64 → bcI (nI (64 * a + b)) = nI (pc (64 * a + b)) := by decide +kernel
theorem bitCount_ok (σ : qM) {n : Nat} (h : n < 4096) : fJ6_bitCount_0f7a4 σ (nI n) = some (nI (pc n), σ) := by
  have := bc_d (n / 64) (by omega) (n % 64) (by omega)
  rw [show 64 * (n / 64) + n % 64 = n by omega] at this
  rw [← this]
  rfl
def onI : Nat → Int32 → Int32 → Int32
  | 0, c, _ => c
  | d + 1, c, x => if x = 0 then c else onI d (c + 1) (x &&& (x - 1))
def onZ : Nat → Int32 → Bool
  | 0, x => decide (x = 0)
  | d + 1, x => decide (x = 0) || onZ d (x &&& (x - 1))
theorem on_d : ∀ a, a < 64 → ∀ b, b < 64 → (onZ 12 (nI (64 * a + b)) = true ∧ onI 13 0 (nI (64 * a + b)) = nI (pc (64 * a + b))) := by decide +kernel
theorem onL (σ : qM) : ∀ d n c x, d < n → onZ d x = true → qlp (fun _ _ _ => none) bX5_ones_4 n σ c x = some (onI (d + 1) c x, σ) := by
  intro d
  induction d with
  | zero =>
    intro n c x hn hz
    obtain ⟨m, rfl⟩ : ∃ m, n = m + 1 := ⟨n - 1, by omega⟩
    have hx : x = 0 := of_decide_eq_true hz
    subst hx
    rfl
  | succ d ih =>
    intro n c x hn hz
    obtain ⟨m, rfl⟩ : ∃ m, n = m + 1 := ⟨n - 1, by omega⟩
    rw [qlp_succ]
    have h1 := ih m (c + 1) (x &&& (x - 1)) (by omega)
    generalize qlp (fun _ _ _ => none) bX5_ones_4 m = kk at h1 ⊢
    unfold bX5_ones_4 fX5_ones_17
    rw [show onI (d + 1 + 1) c x = if x = 0 then c else onI (d + 1) (c + 1) (x &&& (x - 1)) from rfl]
    by_cases e : x = 0
    · rw [if_pos e, if_pos e]
    · rw [if_neg e, if_neg e]
      refine h1 ?_
      have hz2 : (decide (x = 0) || onZ d (x &&& (x - 1))) = true := hz
      rw [decide_eq_false e, Bool.false_or] at hz2
      exact hz2
theorem ones_ok (σ : qM) {n : Nat} (h : n < 4096) : fX5_ones σ (nI n) = some (nI (pc n), σ) := by
  have := on_d (n / 64) (by omega) (n % 64) (by omega)
  rw [show 64 * (n / 64) + n % 64 = n by omega] at this
  rw [← this.2]
  exact onL σ 12 qFU 0 (nI n) (by rw [qFU_eq]; omega) this.1

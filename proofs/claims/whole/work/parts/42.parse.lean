/-! ===== PURE: texts ===== -/
def shp (b : Int32) : Int32 := if b = 115 then 0 else if b = 100 then 1 else if b = 114 then 2 else -1
def lie (b : Int32) : Int32 := if b = 110 then 0 else if b = 111 then 1 else if b = 102 then 2 else if b = 98 then 3 else -1
def wit (a z b : Int32) : Int32 := if a ≤ b ∧ b ≤ z then b - a else -1
/-- what a byte tells at place k of a thing of text t -/
def tell (t k : Nat) (b : Int32) : Int32 :=
  if t = 0 then (if k = 0 then wit 97 102 b else if k = 1 then wit 49 54 b else shp b)
  else (if k = 0 then shp b else if k = 1 then lie b else if k = 2 then shp b else if k = 3 then (if b = 43 then 1 else if b = 45 then 0 else -1) else wit 65 72 b)
def twd (t : Nat) : Nat := if t = 0 then 3 else 5
def tbd (t k : Nat) : Nat := if t = 0 then (if k = 0 then 6 else if k = 1 then 6 else 3) else (if k = 0 then 3 else if k = 1 then 4 else if k = 2 then 3 else if k = 3 then 2 else 8)
theorem tell_rng_d : ∀ t, t < 2 → ∀ k, k < 5 → ∀ n, n < 256 → (tell t k (nI n) = -1 ∨ ∃ j, j < tbd t k ∧ tell t k (nI n) = nI j) := by decide +kernel
theorem tell_rng {t k n : Nat} (ht : t < 2) (hk : k < 5) (hn : n < 256) : tell t k (nI n) = -1 ∨ ∃ j, j < tbd t k ∧ tell t k (nI n) = nI j := tell_rng_d t ht k hk n hn
/-! indexOf -/
def ixl (i : Nat) (ch : Int32) : Nat → Nat → Int32
  | 0, _ => -1
  | m + 1, k => if q_tc i k = ch then nI k else ixl i ch m (k + 1)
theorem ixl_ok (σ : qM) (i : Nat) (ch : Int32) (hi : q_tl i < 2 ^ 31) : ∀ (n m k : Nat), m < n → k + m = q_tl i → qlp (fun _ _ _ _ _ => none) bJ1_indexOfChar_4cfef_7 n σ i (nI (q_tl i)) ch (nI k) = some (ixl i ch m k, σ) := by
  intro n
  induction n with
  | zero => intro m k h; omega
  | succ n ih =>
    intro m k h hk
    rw [qlp_succ]
    unfold bJ1_indexOfChar_4cfef_7
    cases m with
    | zero => rw [if_pos (nI_le (by omega) (by omega))]; rfl
    | succ m =>
      rw [if_neg (nI_ge (by omega) (by omega)), if_pos (qin_of (by omega) hi), nI_clamp (by omega)]
      unfold ixl
      by_cases hc : q_tc i k = ch
      · rw [if_pos hc, if_pos hc]
      · rw [if_neg hc, if_neg hc, show nI k + 1 = nI (k + 1) from nI_1 k]
        exact ih m (k + 1) (by omega) (by omega)
theorem q_tl_pos : ∀ i, i < 6 → 0 < q_tl i ∧ q_tl i < 100 := by decide
theorem ix_ok (σ : qM) {i n : Nat} (hi : i < 6) (hn : n < 256) : fJ0_indexOf_0f7a4 σ i (nI n) = some (ixl i (nI n).toInt8.toInt32 (q_tl i) 0, σ) := by
  obtain ⟨h1, h2⟩ := q_tl_pos i hi
  have e1 : fJ0_length_8abf5 σ i = some (nI (q_tl i), σ) := by
    unfold fJ0_length_8abf5 fJ0_coder_7d493
    rw [if_neg (by decide)]
    show some (jshr (nI (q_tl i)) 0, σ) = _
    unfold jshr
    rw [show ((0 : Int32) &&& 31) = (0 : Int32) from rfl, pk_shrN (by omega) 0 0 (by decide)]
    simp
  have e2 : fJ1_canEncode_9a6ad σ (nI n) = some (1, σ) := by
    unfold fJ1_canEncode_9a6ad
    rw [if_neg (nI_pos (by omega)), if_neg (by rw [show (255 : Int32) = nI 255 from rfl]; exact nI_nlt (by omega) (by omega))]
  have e3 : fJ1_indexOf_4cfef σ i (nI n) 0 (nI (q_tl i)) = some (ixl i (nI n).toInt8.toInt32 (q_tl i) 0, σ) := by
    have e4 : fJ9_max_7cf53 σ 0 0 = some (0, σ) := by unfold fJ9_max_7cf53; rw [if_neg (by decide)]
    have e5 : fJ9_min_7cf53 σ (nI (q_tl i)) (Int32.ofNat (q_tl i)) = some (nI (q_tl i), σ) := by
      unfold fJ9_min_7cf53; rw [if_neg (by rw [show Int32.ofNat (q_tl i) = nI (q_tl i) from rfl]; exact nI_nlt (Nat.le_refl _) (by omega))]
    have e6 : fJ1_indexOfChar_4cfef σ i (nI n) 0 (nI (q_tl i)) = some (ixl i (nI n).toInt8.toInt32 (q_tl i) 0, σ) := by
      unfold fJ1_indexOfChar_4cfef fJ1_indexOfChar_4cfef_7
      exact ixl_ok σ i _ (by omega) qFU (q_tl i) 0 (by rw [qFU_eq]; omega) (by omega)
    unfold fJ1_indexOf_4cfef
    simp only [e2, e4, e5, e6, Option.bind_some]
    rw [if_neg (by decide), if_pos (by rw [show (0 : Int32) = nI 0 from rfl]; exact nI_lt h1 (by omega))]
  have e7 : fJ0_isLatin1_aae02 σ i = some (1, σ) := by unfold fJ0_isLatin1_aae02; rw [if_neg (by decide), if_pos rfl]
  unfold fJ0_indexOf_0f7a4 fJ0_indexOf_7cf53
  simp only [e7, e1, e3, Option.bind_some]
  rw [if_neg (by decide)]
  rfl
def sgi (t k : Nat) : Nat := if t = 0 then (if k = 0 then 0 else if k = 1 then 1 else 2) else (if k = 1 then 3 else if k = 2 then 2 else if k = 3 then 4 else if k = 4 then 5 else 2)
theorem ix_tell_d : ∀ t, t < 2 → ∀ k, k < twd t → ∀ n, n < 256 → ixl (sgi t k) (nI n).toInt8.toInt32 (q_tl (sgi t k)) 0 = tell t k (nI n) := by decide +kernel

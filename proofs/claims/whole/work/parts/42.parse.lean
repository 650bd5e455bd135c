/-! ===== PURE: texts ===== -/
def shp (b : Int32) : Int32 := if b = 115 then 0 else if b = 100 then 1 else if b = 114 then 2 else -1
def lie (b : Int32) : Int32 := if b = 110 then 0 else if b = 111 then 1 else if b = 102 then 2 else if b = 98 then 3 else -1
def wit (a z b : Int32) : Int32 := if a ≤ b ∧ b ≤ z then b - a else -1
/-- what a byte tells at place k of a thing of text t -/
def tell (t k : Nat) (b : Int32) : Int32 :=
  if t = 0 then (if k = 0 then wit 97 102 b else if k = 1 then wit 49 54 b else shp b)
  else (if k = 0 then shp b else if k = 1 then lie b else if k = 2 then shp b else if k = 3 then (if b = 43 then 1 else if b = 45 then 0 else -1) else wit 65 72 b)
def twd (t : Nat) : Nat := if t = 0 then 3 else 5
def tbd (t k : Nat) : Nat := if t = 0 then (if k = 0 then 6 else if k = 1 then 6 else 3) else (if k = 0 then 3 else if k = 1 then 4 else if k = 2 then 3 else if k = 3 then 2 else 8)
theorem tell_rng_d : ∀ t, t < 2 → ∀ k, k < 5 → ∀ n, n < 256 → (tell t k (nI n) = -1 ∨ ∃ j, j < tbd t k ∧ tell t k (nI n) = nI j) := by decide +kernel
theorem tell_rng {t k n : Nat} (ht : t < 2) (hk : k < 5) (hn : n < 256) : tell t k (nI n) = -1 ∨ ∃ j, j < tbd t k ∧ tell t k (nI n) = nI j := tell_rng_d t ht k hk n hn
/-! the place of a sign -/
def ixl (i : Nat) (ch : Int32) : Nat → Nat → Int32
  | 0, _ => -1
  | m + 1, k => if q_tc i k = ch then nI k else ixl i ch m (k + 1)
theorem ixl_ok (σ : qM) (i : Nat) (ch : Int32) (hi : q_tl i < 2 ^ 31) : ∀ (n m k : Nat), m < n → k + m = q_tl i → qlp (fun _ _ _ _ => none) bX3_placeOf_2 n σ ch i (nI k) = some (ixl i ch m k, σ) := by
  intro n
  induction n with
  | zero => intro m k h; omega
  | succ n ih =>
    intro m k h hk
    rw [qlp_succ]
    unfold bX3_placeOf_2
    cases m with
    | zero => rw [if_pos (show Int32.ofNat (q_tl i) ≤ nI k from nI_le (by omega) (by omega))]; rfl
    | succ m =>
      rw [if_neg (show ¬ Int32.ofNat (q_tl i) ≤ nI k from nI_ge (by omega) (by omega)), if_pos (qin_of (by omega) hi), nI_clamp (by omega)]
      unfold ixl
      by_cases hc : q_tc i k = ch
      · rw [if_pos hc, if_pos hc]
      · rw [if_neg hc, if_neg hc, show nI k + 1 = nI (k + 1) from nI_1 k]
        exact ih m (k + 1) (by omega) (by omega)
theorem q_tl_lt : ∀ i, i < 7 → q_tl i < 100 := by decide
theorem ix_ok (σ : qM) {i n : Nat} (hi : i < 7) (hn : n < 256) : fX3_placeOf σ (nI n) i = some (ixl i (nI n) (q_tl i) 0, σ) := by
  have h2 := q_tl_lt i hi
  unfold fX3_placeOf fX3_placeOf_2
  exact ixl_ok σ i _ (by omega) qFU (q_tl i) 0 (by rw [qFU_eq]; omega) (by omega)
def sgi (t k : Nat) : Nat := if t = 0 then (if k = 0 then 0 else if k = 1 then 1 else 2) else (if k = 1 then 3 else if k = 2 then 2 else if k = 3 then 4 else if k = 4 then 5 else 2)
/-- which row of signs is asked at place k: behind the last place that of the separators -/
def sgj (t k : Nat) : Nat := if k = twd t then 6 else sgi t k
theorem sgj_lt : ∀ t, t < 2 → ∀ k, k < 6 → sgj t k < 7 := by decide
theorem ix_tell_d : ∀ t, t < 2 → ∀ k, k < twd t + 1 → ∀ n, n < 256 → ixl (sgj t k) (nI n) (q_tl (sgj t k)) 0 = if k = twd t then (if nI n = 59 then 0 else -1) else tell t k (nI n) := by decide +kernel

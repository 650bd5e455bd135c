/-! ===== PURE: what the court would have read ===== -/
def fSt (kind i : Nat) : Nat := if kind = 0 then 2 ^ i else 0
def fFl (kind i : Nat) : Int32 := if kind = 2 then nI i else -1
def fOu (kind i : Nat) : Nat := if kind = 1 then 2 ^ i else 0
def had (V : qV) (t kind i : Nat) : Nat := lw V (rp V (ly V t) (fSt kind i) (sm V (ly V t) ^^^ (sm V (ly V t) &&& fOu kind i))) (fp (fFl kind i)) (v_r V)
theorem had_lt {V : qV} (hV : v_ok V) (t kind i : Nat) : had V t kind i < 2 ^ 8 := lw_lt hV (Nat.le_refl _)
theorem had0 {V : qV} (hV : v_ok V) (t i : Nat) : had V t 0 i = lm V (am V t ^^^ (am V t &&& 2 ^ i)) := by
  unfold had lm
  refine lw_cong (fun k hk => ?_) (fun k hk => ?_)
  · unfold rp am fSt fOu
    rw [if_pos rfl, if_neg (by decide), Nat.and_zero, Nat.xor_zero, Nat.testBit_xor, Nat.testBit_and, mk_bit, decide_eq_true hk, Bool.true_and]
    cases ap V (ly V t) (sm V (ly V t)) k <;> cases (2 ^ i).testBit k <;> rfl
  · unfold fp nof fFl; rw [if_neg (by decide)]; exact decide_eq_false (nI_m1 (by have := hV.2.1; omega))
theorem had1 {V : qV} (hV : v_ok V) (t i : Nat) : had V t 1 i = lwo V t (2 ^ i) := by
  unfold had lwo
  refine lw_cong (fun k hk => ?_) (fun k hk => ?_)
  · unfold rp fSt fOu
    rw [if_neg (by decide), if_pos rfl, Nat.zero_testBit]
    rfl
  · unfold fp nof fFl; rw [if_neg (by decide)]; exact decide_eq_false (nI_m1 (by have := hV.2.1; omega))
/-- one rule with its sign turned -/
def tnf (i : Nat) (k : Nat) : Bool := decide (k = i)
theorem had2 {V : qV} (hV : v_ok V) {t i : Nat} (hi : i < v_r V) : had V t 2 i = lw V (ap V (ly V t) (sm V (ly V t))) (tnf i) (v_r V) := by
  have hr := hV.2.1
  unfold had
  refine lw_cong (fun k hk => ?_) (fun k hk => ?_)
  · unfold rp fSt fOu
    rw [if_neg (by decide), if_neg (by decide), Nat.zero_testBit, Nat.and_zero, Nat.xor_zero]
    rfl
  · unfold fp tnf fFl
    rw [if_pos rfl]
    exact decide_eq_decide.mpr (nI_eq (by omega) (by omega))
theorem xor_or {x a b : Nat} (h : ¬ a = b) : (x ^^^ 2 ^ b) ||| 2 ^ a = (x ||| 2 ^ a) ^^^ 2 ^ b := by
  apply Nat.eq_of_testBit_eq
  intro j
  rw [Nat.testBit_or, Nat.testBit_xor, Nat.testBit_xor, Nat.testBit_or, Nat.testBit_two_pow, Nat.testBit_two_pow]
  by_cases c1 : a = j
  · rw [decide_eq_true c1, decide_eq_false (by omega)]; cases x.testBit j <;> rfl
  · rw [decide_eq_false c1]; cases x.testBit j <;> cases decide (b = j) <;> rfl
theorem xor_or_same {x a : Nat} : (x ^^^ 2 ^ a) ||| 2 ^ a = x ||| 2 ^ a := by
  apply Nat.eq_of_testBit_eq
  intro j
  rw [Nat.testBit_or, Nat.testBit_xor, Nat.testBit_or]
  cases x.testBit j <;> cases (2 ^ a).testBit j <;> rfl
theorem xor_clr {x a b : Nat} (h : ¬ a = b) : clr (x ^^^ 2 ^ b) a = clr x a ^^^ 2 ^ b := by
  apply Nat.eq_of_testBit_eq
  intro j
  rw [clr_bit, Nat.testBit_xor, Nat.testBit_xor, clr_bit, Nat.testBit_two_pow]
  by_cases c1 : j = a
  · rw [decide_eq_true c1, decide_eq_false (show ¬ b = j by omega)]; cases x.testBit j <;> rfl
  · rw [decide_eq_false c1]; cases x.testBit j <;> cases decide (b = j) <;> rfl
theorem xor_clr_same {x a : Nat} : clr (x ^^^ 2 ^ a) a = clr x a := by
  apply Nat.eq_of_testBit_eq
  intro j
  rw [clr_bit, Nat.testBit_xor, clr_bit, Nat.testBit_two_pow]
  by_cases c1 : j = a
  · rw [decide_eq_true c1]; cases x.testBit j <;> cases decide (a = j) <;> rfl
  · rw [decide_eq_false (show ¬ a = j by omega)]; cases x.testBit j <;> rfl
theorem or_clr {x a : Nat} : x ||| 2 ^ a = clr x a ^^^ 2 ^ a := by
  apply Nat.eq_of_testBit_eq
  intro j
  rw [Nat.testBit_or, Nat.testBit_xor, clr_bit, Nat.testBit_two_pow]
  by_cases c1 : a = j
  · rw [decide_eq_true c1, decide_eq_true c1.symm]; cases x.testBit j <;> rfl
  · rw [decide_eq_false c1, decide_eq_false (show ¬ j = a by omega)]; cases x.testBit j <;> rfl
theorem clr_or {x a : Nat} : clr x a = (x ||| 2 ^ a) ^^^ 2 ^ a := by
  rw [or_clr, Nat.xor_assoc, Nat.xor_self, Nat.xor_zero]
theorem lstep_tn {V : qV} {i k x : Nat} (h : ¬ k = i) : lstep V (tnf i) k x = lstep V nof k x := by
  unfold lstep tnf nof
  rw [decide_eq_false h]
theorem lstep_at {V : qV} {i x : Nat} : lstep V (tnf i) i x = lstep V nof i x ^^^ 2 ^ v_q V i 4 := by
  unfold lstep tnf nof
  rw [decide_eq_true rfl]
  by_cases c : v_q V i 3 = 1
  · rw [decide_eq_true c, if_neg (by decide), if_pos (show (true != false) = true from rfl)]; exact clr_or
  · rw [decide_eq_false c, if_pos (show (false != true) = true from rfl), if_neg (by decide)]; exact or_clr
theorem lstep_xo {V : qV} {k x a : Nat} (h : ¬ v_q V k 4 = a) : lstep V nof k (x ^^^ 2 ^ a) = lstep V nof k x ^^^ 2 ^ a := by
  unfold lstep
  by_cases c : (decide (v_q V k 3 = 1) != nof k) = true
  · rw [if_pos c, if_pos c]; exact xor_or h
  · rw [if_neg c, if_neg c]; exact xor_clr h
theorem lstep_xs {V : qV} {k x a : Nat} (h : v_q V k 4 = a) : lstep V nof k (x ^^^ 2 ^ a) = lstep V nof k x := by
  subst h
  unfold lstep
  by_cases c : (decide (v_q V k 3 = 1) != nof k) = true
  · rw [if_pos c, if_pos c]; exact xor_or_same
  · rw [if_neg c, if_neg c]; exact xor_clr_same
theorem lw_s (V : qV) (P fl : Nat → Bool) (n : Nat) : lw V P fl (n + 1) = if P n = true then lstep V fl n (lw V P fl n) else lw V P fl n := rfl
theorem lw_lo {V : qV} {P : Nat → Bool} {i : Nat} : ∀ n, n ≤ i → lw V P (tnf i) n = lw V P nof n := fun n hn => lw_cong (fun _ _ => rfl) (fun k hk => decide_eq_false (by omega))
/-- a later rule speaks of the same law -/
def ltB (V : qV) (P : Nat → Bool) (i n : Nat) : Bool := (List.range n).any (fun k => decide (i < k) && (P k && decide (v_q V k 4 = v_q V i 4)))
theorem lw_no {V : qV} {P : Nat → Bool} {i : Nat} (h : P i = false) : ∀ n, lw V P (tnf i) n = lw V P nof n := by
  intro n
  induction n with
  | zero => rfl
  | succ n ih =>
    rw [lw_s, lw_s, ih]
    by_cases c : P n = true
    · rw [if_pos c, if_pos c, lstep_tn (fun e => by rw [e, h] at c; exact Bool.noConfusion c)]
    · rw [if_neg c, if_neg c]
theorem lw_turn {V : qV} {P : Nat → Bool} {i : Nat} (h : P i = true) : ∀ n, i < n → lw V P (tnf i) n = if ltB V P i n = true then lw V P nof n else lw V P nof n ^^^ 2 ^ v_q V i 4 := by
  intro n
  induction n with
  | zero => intro h; omega
  | succ n ih =>
    intro hn
    rw [lw_s, lw_s]
    by_cases e : n = i
    · subst e
      rw [if_pos h, if_pos h, lw_lo n (Nat.le_refl _), lstep_at]
      rw [if_neg]
      intro q
      unfold ltB at q
      rw [List.any_eq_true] at q
      obtain ⟨k, k1, k2⟩ := q
      rw [Bool.and_eq_true] at k2
      have := List.mem_range.mp k1
      have := of_decide_eq_true k2.1
      omega
    · have h1 := ih (by omega)
      have hs : ltB V P i (n + 1) = (ltB V P i n || (P n && decide (v_q V n 4 = v_q V i 4))) := by
        unfold ltB
        rw [any_succ, decide_eq_true (show i < n by omega), Bool.true_and]
      rw [h1, hs]
      by_cases c : P n = true
      · rw [if_pos c, if_pos c, c, lstep_tn e]
        by_cases d : v_q V n 4 = v_q V i 4
        · rw [decide_eq_true d, Bool.and_true, Bool.or_true, if_pos rfl]
          by_cases w : ltB V P i n = true
          · rw [if_pos w]
          · rw [if_neg w, lstep_xs d]
        · rw [decide_eq_false d, Bool.and_false, Bool.or_false]
          by_cases w : ltB V P i n = true
          · rw [if_pos w, if_pos w]
          · rw [if_neg w, if_neg w, lstep_xo d]
      · rw [if_neg c, if_neg c, (Bool.not_eq_true _).mp c, Bool.false_and, Bool.or_false]

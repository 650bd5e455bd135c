/-! ===== PURE: a court's view: leaves, rules, cracks as numbers ===== -/
abbrev qV : Type := Nat × (Nat → Nat → Nat) × Nat × (Nat → Nat → Nat) × Nat × (Nat → Nat → Nat)
abbrev v_n (V : qV) : Nat := V.1
abbrev v_l (V : qV) : Nat → Nat → Nat := V.2.1
abbrev v_r (V : qV) : Nat := V.2.2.1
abbrev v_q (V : qV) : Nat → Nat → Nat := V.2.2.2.1
abbrev v_c (V : qV) : Nat := V.2.2.2.2.1
abbrev v_k (V : qV) : Nat → Nat → Nat := V.2.2.2.2.2
def v_ok (V : qV) : Prop := v_n V ≤ 12 ∧ v_r V ≤ 10 ∧ v_c V ≤ 8 ∧ (∀ l, l < v_n V → v_l V l 0 < 6 ∧ v_l V l 1 < 6 ∧ v_l V l 2 < 3) ∧ (∀ k, k < v_r V → v_q V k 0 < 3 ∧ v_q V k 1 < 4 ∧ v_q V k 2 < 3 ∧ v_q V k 3 < 2 ∧ v_q V k 4 < 8) ∧ (∀ i, i < v_c V → v_k V i 0 < 6 ∧ v_k V i 1 < 6)
/-- a cell turned by so many quarters -/
def tn : Nat → Nat → Nat → Nat × Nat
  | 0, c, r => (c, r)
  | t + 1, c, r => (5 - (tn t c r).2, (tn t c r).1)
theorem tn_lt {c r : Nat} (hc : c < 6) (hr : r < 6) : ∀ t, (tn t c r).1 < 6 ∧ (tn t c r).2 < 6
  | 0 => ⟨hc, hr⟩
  | t + 1 => by
    have := tn_lt hc hr t
    exact ⟨by show 5 - (tn t c r).2 < 6; omega, this.1⟩
/-- a lay: how many, shapes, columns, rows -/
abbrev qL : Type := Nat × (Nat → Nat) × (Nat → Nat) × (Nat → Nat)
abbrev y_n (Y : qL) : Nat := Y.1
abbrev y_s (Y : qL) : Nat → Nat := Y.2.1
abbrev y_c (Y : qL) : Nat → Nat := Y.2.2.1
abbrev y_r (Y : qL) : Nat → Nat := Y.2.2.2
def y_ok (Y : qL) : Prop := y_n Y ≤ 13 ∧ ∀ l, l < y_n Y → y_s Y l < 3 ∧ y_c Y l < 6 ∧ y_r Y l < 6
def ly (V : qV) (t : Nat) : qL := (v_n V, fun l => v_l V l 2, fun l => (tn t (v_l V l 0) (v_l V l 1)).1, fun l => (tn t (v_l V l 0) (v_l V l 1)).2)
theorem ly_ok {V : qV} (h : v_ok V) (t : Nat) : y_ok (ly V t) := ⟨by show v_n V ≤ 13; have := h.1; omega, fun l hl => ⟨(h.2.2.2.1 l hl).2.2, (tn_lt (h.2.2.2.1 l hl).1 (h.2.2.2.1 l hl).2.1 t).1, (tn_lt (h.2.2.2.1 l hl).1 (h.2.2.2.1 l hl).2.1 t).2⟩⟩
def dst (a b : Nat) : Nat := (a - b) + (b - a)
def lieB (how c1 r1 c2 r2 : Nat) : Bool := if how = 0 then decide (dst c1 c2 ≤ 1 ∧ dst r1 r2 ≤ 1) else if how = 1 then decide (c1 = c2 ∧ r1 < r2) else if how = 2 then decide (3 ≤ dst c1 c2 ∨ 3 ≤ dst r1 r2) else true
/-- leaf a first, leaf b second make rule k apply -/
def pa (V : qV) (Y : qL) (k a b : Nat) : Bool := decide (¬ a = b ∧ y_s Y a = v_q V k 0 ∧ y_s Y b = v_q V k 2) && lieB (v_q V k 1) (y_c Y a) (y_r Y a) (y_c Y b) (y_r Y b)
def crk (V : qV) (c r : Nat) : Bool := (List.range (v_c V)).any (fun i => decide (v_k V i 0 = c ∧ v_k V i 1 = r))
/-! masks -/
def mk (f : Nat → Bool) : Nat → Nat
  | 0 => 0
  | n + 1 => mk f n ||| (if f n then 2 ^ n else 0)
theorem mk_bit (f : Nat → Bool) (i : Nat) : ∀ n, (mk f n).testBit i = (decide (i < n) && f i)
  | 0 => by simp [mk]
  | n + 1 => by
    unfold mk
    rw [Nat.testBit_or, mk_bit f i n]
    by_cases h : f n
    · rw [if_pos h, Nat.testBit_two_pow]
      by_cases e : n = i
      · subst e; simp [h]
      · have : (i < n + 1) = (i < n) := by simp; omega
        simp [e, this]
    · rw [if_neg h, Nat.zero_testBit]
      by_cases e : i = n
      · subst e; simp [h]
      · have : (i < n + 1) = (i < n) := by simp; omega
        simp [this]
theorem mk_lt (f : Nat → Bool) : ∀ n, mk f n < 2 ^ n
  | 0 => by show 0 < 1; decide
  | n + 1 => by
    unfold mk
    have h := mk_lt f n
    refine Nat.or_lt_two_pow (by rw [Nat.pow_succ]; omega) ?_
    split
    · rw [Nat.pow_succ]; have := Nat.two_pow_pos n; omega
    · exact Nat.two_pow_pos _
theorem mk_cong {f g : Nat → Bool} : ∀ {n : Nat}, (∀ i, i < n → f i = g i) → mk f n = mk g n
  | 0, _ => rfl
  | n + 1, h => by unfold mk; rw [mk_cong (fun i hi => h i (by omega)), h n (by omega)]
theorem p2_le {a b : Nat} (h : a ≤ b) : 2 ^ a ≤ 2 ^ b := Nat.pow_le_pow_right (by decide) h
theorem jshl1 {k : Nat} (h : k < 31) : jshl 1 (nI k) = nI (2 ^ k) := by
  unfold jshl
  have key : ∀ k, k < 31 → (1 : Int32) <<< (nI k &&& 31) = nI (2 ^ k) := by decide +kernel
  exact key k h
theorem smod5 : ∀ k, k < 32 → ((nI k &&& 31).toBitVec.smod 32).toNat = k := by decide +kernel
theorem jshr_n {a k : Nat} (ha : a < 2 ^ 31) (hk : k < 32) : jshr (nI a) (nI k) = nI (a / 2 ^ k) := by
  unfold jshr
  exact pk_shrN ha _ k (smod5 k hk)
theorem bit1 {a k : Nat} (ha : a < 2 ^ 31) (hk : k < 32) : (jshr (nI a) (nI k) &&& 1 = 1) ↔ a.testBit k = true := by
  rw [jshr_n ha hk, show (1 : Int32) = nI 1 from rfl, fa_and, nI_eq (by rw [Nat.and_one_is_mod]; omega) (by decide), Nat.and_one_is_mod, Nat.testBit_eq_decide_div_mod_eq, decide_eq_true_eq]
theorem isIn_ok (σ : qM) {a k : Nat} (ha : a < 2 ^ 31) (hk : k < 32) : fX5_isIn σ (nI a) (nI k) = some (if a.testBit k then 1 else 0, σ) := by
  unfold fX5_isIn
  by_cases h : a.testBit k = true
  · rw [if_pos ((bit1 ha hk).mpr h), if_pos h]
  · rw [if_neg (fun q => h ((bit1 ha hk).mp q)), if_neg h]
theorem or_lt {a b n : Nat} (ha : a < 2 ^ n) (hb : b < 2 ^ n) : a ||| b < 2 ^ n := Nat.or_lt_two_pow ha hb
/-- with, sound, applies, the laws -/
def wm (V : qV) (Y : qL) (k a : Nat) : Nat := mk (pa V Y k a) (y_n Y)
def sm (V : qV) (Y : qL) : Nat := mk (fun l => !crk V (y_c Y l) (y_r Y l)) (y_n Y)
def ap (V : qV) (Y : qL) (m k : Nat) : Bool := (List.range (y_n Y)).any (fun a => m.testBit a && decide (¬ wm V Y k a &&& m = 0))
def clr (x j : Nat) : Nat := x ^^^ (x &&& 2 ^ j)
theorem clr_bit (x j i : Nat) : (clr x j).testBit i = (x.testBit i && !decide (i = j)) := by
  unfold clr
  rw [Nat.testBit_xor, Nat.testBit_and, Nat.testBit_two_pow]
  by_cases e : j = i
  · subst e; simp
  · have e2 : ¬ i = j := fun q => e q.symm
    simp [e, e2]
theorem clr_lt {x j n : Nat} (h : x < 2 ^ n) : clr x j < 2 ^ n := Nat.xor_lt_two_pow h (Nat.lt_of_le_of_lt Nat.and_le_left h)
theorem bt_nI (x i : Nat) (hi : i < 32) : bt (nI x) i = x.testBit i := by
  show (Int32.ofNat x).toBitVec.getLsbD i = _
  rw [Int32.toBitVec_ofNat', BitVec.getLsbD_ofNat]
  simp [hi]
theorem andNot {x y : Nat} : nI x &&& (nI y ^^^ -1) = nI (x ^^^ (x &&& y)) := by
  apply b_ext
  intro i hi
  rw [b_and, b_xor, b_m1 i hi, bt_nI _ _ hi, bt_nI _ _ hi, bt_nI _ _ hi, Nat.testBit_xor, Nat.testBit_and]
  cases x.testBit i <;> cases y.testBit i <;> rfl
def lstep (V : qV) (fl : Nat → Bool) (k : Nat) (x : Nat) : Nat := if (decide (v_q V k 3 = 1) != fl k) = true then x ||| 2 ^ (v_q V k 4) else clr x (v_q V k 4)
/-- the laws, as bits, by the rules that apply, read by the first n rules -/
def lw (V : qV) (P fl : Nat → Bool) : Nat → Nat
  | 0 => 0
  | k + 1 => if P k = true then lstep V fl k (lw V P fl k) else lw V P fl k
theorem lw_cong {V : qV} {P P' fl fl' : Nat → Bool} : ∀ {n : Nat}, (∀ k, k < n → P k = P' k) → (∀ k, k < n → fl k = fl' k) → lw V P fl n = lw V P' fl' n
  | 0, _, _ => rfl
  | n + 1, h, g => by
    unfold lw
    rw [lw_cong (fun k hk => h k (by omega)) (fun k hk => g k (by omega)), h n (by omega)]
    unfold lstep
    rw [g n (by omega)]
theorem lw_lt {V : qV} (hV : v_ok V) {P fl : Nat → Bool} : ∀ {n : Nat}, n ≤ v_r V → lw V P fl n < 2 ^ 8
  | 0, _ => by show 0 < 256; decide
  | n + 1, h => by
    have ih := lw_lt hV (P := P) (fl := fl) (n := n) (by omega)
    have hq := (hV.2.2.2.2.1 n (by omega)).2.2.2.2
    unfold lw lstep
    split
    · split
      · exact or_lt ih (Nat.pow_lt_pow_right (by decide) hq)
      · exact clr_lt ih
    · exact ih

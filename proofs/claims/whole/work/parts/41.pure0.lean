/-! ===== PURE: words for answers, loops and numbers ===== -/
def qok {R : Type} (o : Option R) (P : R → Prop) : Prop := ∃ r, o = some r ∧ P r
theorem qok_some {R : Type} {r : R} {P : R → Prop} (h : P r) : qok (some r) P := ⟨r, rfl, h⟩
theorem qok_bind {A R : Type} {x : Option A} {g : A → Option R} {P : R → Prop} (h : qok x (fun a => qok (g a) P)) : qok (x.bind g) P := by
  obtain ⟨a, rfl, r, h1, h2⟩ := h
  exact ⟨r, h1, h2⟩
theorem qok_eq {A R : Type} {x : Option A} {a : A} {g : A → Option R} {P : R → Prop} (e : x = some a) (h : qok (g a) P) : qok (x.bind g) P := by
  subst e; exact h
theorem qok_if {R : Type} {c : Prop} [Decidable c] {a b : Option R} {P : R → Prop} (h1 : c → qok a P) (h2 : ¬ c → qok b P) : qok (if c then a else b) P := by
  by_cases h : c
  · rw [if_pos h]; exact h1 h
  · rw [if_neg h]; exact h2 h
theorem qok_t {R : Type} {c : Prop} [Decidable c] {a b : Option R} {P : R → Prop} (h : c) (h1 : qok a P) : qok (if c then a else b) P := by rw [if_pos h]; exact h1
theorem qok_f {R : Type} {c : Prop} [Decidable c] {a b : Option R} {P : R → Prop} (h : ¬ c) (h1 : qok b P) : qok (if c then a else b) P := by rw [if_neg h]; exact h1
theorem qok_mono {R : Type} {o : Option R} {P Q : R → Prop} (h : qok o P) (hpq : ∀ r, P r → Q r) : qok o Q := by
  obtain ⟨r, h1, h2⟩ := h
  exact ⟨r, h1, hpq r h2⟩
theorem qlp_succ {F : Type} (z : F) (b : F → F) (n : Nat) : qlp z b (n + 1) = b (qlp z b n) := rfl
theorem qFU_eq : qFU = 5000 := rfl
theorem qok_lp1 {T1 R : Type} {z : T1 → Option R} {b : (T1 → Option R) → T1 → Option R} {P : R → Prop} (I : Nat → T1 → Prop) (hs : ∀ (m : Nat) (k : T1 → Option R), (∀ (m2 : Nat) (v1 : T1), m2 < m → I m2 v1 → qok (k v1) P) → ∀ (v1 : T1), I m v1 → qok (b k v1) P) : ∀ (n m : Nat) (v1 : T1), m < n → I m v1 → qok (qlp z b n v1) P := by
  intro n
  induction n with
  | zero => intro m v1 h; omega
  | succ n ih => intro m v1 h hI; exact hs m _ (fun m2 v1 h2 hI2 => ih m2 v1 (by omega) hI2) v1 hI
theorem qok_lp2 {T1 T2 R : Type} {z : T1 → T2 → Option R} {b : (T1 → T2 → Option R) → T1 → T2 → Option R} {P : R → Prop} (I : Nat → T1 → T2 → Prop) (hs : ∀ (m : Nat) (k : T1 → T2 → Option R), (∀ (m2 : Nat) (v1 : T1) (v2 : T2), m2 < m → I m2 v1 v2 → qok (k v1 v2) P) → ∀ (v1 : T1) (v2 : T2), I m v1 v2 → qok (b k v1 v2) P) : ∀ (n m : Nat) (v1 : T1) (v2 : T2), m < n → I m v1 v2 → qok (qlp z b n v1 v2) P := by
  intro n
  induction n with
  | zero => intro m v1 v2 h; omega
  | succ n ih => intro m v1 v2 h hI; exact hs m _ (fun m2 v1 v2 h2 hI2 => ih m2 v1 v2 (by omega) hI2) v1 v2 hI
theorem qok_lp3 {T1 T2 T3 R : Type} {z : T1 → T2 → T3 → Option R} {b : (T1 → T2 → T3 → Option R) → T1 → T2 → T3 → Option R} {P : R → Prop} (I : Nat → T1 → T2 → T3 → Prop) (hs : ∀ (m : Nat) (k : T1 → T2 → T3 → Option R), (∀ (m2 : Nat) (v1 : T1) (v2 : T2) (v3 : T3), m2 < m → I m2 v1 v2 v3 → qok (k v1 v2 v3) P) → ∀ (v1 : T1) (v2 : T2) (v3 : T3), I m v1 v2 v3 → qok (b k v1 v2 v3) P) : ∀ (n m : Nat) (v1 : T1) (v2 : T2) (v3 : T3), m < n → I m v1 v2 v3 → qok (qlp z b n v1 v2 v3) P := by
  intro n
  induction n with
  | zero => intro m v1 v2 v3 h; omega
  | succ n ih => intro m v1 v2 v3 h hI; exact hs m _ (fun m2 v1 v2 v3 h2 hI2 => ih m2 v1 v2 v3 (by omega) hI2) v1 v2 v3 hI
theorem qok_lp4 {T1 T2 T3 T4 R : Type} {z : T1 → T2 → T3 → T4 → Option R} {b : (T1 → T2 → T3 → T4 → Option R) → T1 → T2 → T3 → T4 → Option R} {P : R → Prop} (I : Nat → T1 → T2 → T3 → T4 → Prop) (hs : ∀ (m : Nat) (k : T1 → T2 → T3 → T4 → Option R), (∀ (m2 : Nat) (v1 : T1) (v2 : T2) (v3 : T3) (v4 : T4), m2 < m → I m2 v1 v2 v3 v4 → qok (k v1 v2 v3 v4) P) → ∀ (v1 : T1) (v2 : T2) (v3 : T3) (v4 : T4), I m v1 v2 v3 v4 → qok (b k v1 v2 v3 v4) P) : ∀ (n m : Nat) (v1 : T1) (v2 : T2) (v3 : T3) (v4 : T4), m < n → I m v1 v2 v3 v4 → qok (qlp z b n v1 v2 v3 v4) P := by
  intro n
  induction n with
  | zero => intro m v1 v2 v3 v4 h; omega
  | succ n ih => intro m v1 v2 v3 v4 h hI; exact hs m _ (fun m2 v1 v2 v3 v4 h2 hI2 => ih m2 v1 v2 v3 v4 (by omega) hI2) v1 v2 v3 v4 hI
theorem qok_lp5 {T1 T2 T3 T4 T5 R : Type} {z : T1 → T2 → T3 → T4 → T5 → Option R} {b : (T1 → T2 → T3 → T4 → T5 → Option R) → T1 → T2 → T3 → T4 → T5 → Option R} {P : R → Prop} (I : Nat → T1 → T2 → T3 → T4 → T5 → Prop) (hs : ∀ (m : Nat) (k : T1 → T2 → T3 → T4 → T5 → Option R), (∀ (m2 : Nat) (v1 : T1) (v2 : T2) (v3 : T3) (v4 : T4) (v5 : T5), m2 < m → I m2 v1 v2 v3 v4 v5 → qok (k v1 v2 v3 v4 v5) P) → ∀ (v1 : T1) (v2 : T2) (v3 : T3) (v4 : T4) (v5 : T5), I m v1 v2 v3 v4 v5 → qok (b k v1 v2 v3 v4 v5) P) : ∀ (n m : Nat) (v1 : T1) (v2 : T2) (v3 : T3) (v4 : T4) (v5 : T5), m < n → I m v1 v2 v3 v4 v5 → qok (qlp z b n v1 v2 v3 v4 v5) P := by
  intro n
  induction n with
  | zero => intro m v1 v2 v3 v4 v5 h; omega
  | succ n ih => intro m v1 v2 v3 v4 v5 h hI; exact hs m _ (fun m2 v1 v2 v3 v4 v5 h2 hI2 => ih m2 v1 v2 v3 v4 v5 (by omega) hI2) v1 v2 v3 v4 v5 hI
theorem qok_lp6 {T1 T2 T3 T4 T5 T6 R : Type} {z : T1 → T2 → T3 → T4 → T5 → T6 → Option R} {b : (T1 → T2 → T3 → T4 → T5 → T6 → Option R) → T1 → T2 → T3 → T4 → T5 → T6 → Option R} {P : R → Prop} (I : Nat → T1 → T2 → T3 → T4 → T5 → T6 → Prop) (hs : ∀ (m : Nat) (k : T1 → T2 → T3 → T4 → T5 → T6 → Option R), (∀ (m2 : Nat) (v1 : T1) (v2 : T2) (v3 : T3) (v4 : T4) (v5 : T5) (v6 : T6), m2 < m → I m2 v1 v2 v3 v4 v5 v6 → qok (k v1 v2 v3 v4 v5 v6) P) → ∀ (v1 : T1) (v2 : T2) (v3 : T3) (v4 : T4) (v5 : T5) (v6 : T6), I m v1 v2 v3 v4 v5 v6 → qok (b k v1 v2 v3 v4 v5 v6) P) : ∀ (n m : Nat) (v1 : T1) (v2 : T2) (v3 : T3) (v4 : T4) (v5 : T5) (v6 : T6), m < n → I m v1 v2 v3 v4 v5 v6 → qok (qlp z b n v1 v2 v3 v4 v5 v6) P := by
  intro n
  induction n with
  | zero => intro m v1 v2 v3 v4 v5 v6 h; omega
  | succ n ih => intro m v1 v2 v3 v4 v5 v6 h hI; exact hs m _ (fun m2 v1 v2 v3 v4 v5 v6 h2 hI2 => ih m2 v1 v2 v3 v4 v5 v6 (by omega) hI2) v1 v2 v3 v4 v5 v6 hI
theorem qok_lp7 {T1 T2 T3 T4 T5 T6 T7 R : Type} {z : T1 → T2 → T3 → T4 → T5 → T6 → T7 → Option R} {b : (T1 → T2 → T3 → T4 → T5 → T6 → T7 → Option R) → T1 → T2 → T3 → T4 → T5 → T6 → T7 → Option R} {P : R → Prop} (I : Nat → T1 → T2 → T3 → T4 → T5 → T6 → T7 → Prop) (hs : ∀ (m : Nat) (k : T1 → T2 → T3 → T4 → T5 → T6 → T7 → Option R), (∀ (m2 : Nat) (v1 : T1) (v2 : T2) (v3 : T3) (v4 : T4) (v5 : T5) (v6 : T6) (v7 : T7), m2 < m → I m2 v1 v2 v3 v4 v5 v6 v7 → qok (k v1 v2 v3 v4 v5 v6 v7) P) → ∀ (v1 : T1) (v2 : T2) (v3 : T3) (v4 : T4) (v5 : T5) (v6 : T6) (v7 : T7), I m v1 v2 v3 v4 v5 v6 v7 → qok (b k v1 v2 v3 v4 v5 v6 v7) P) : ∀ (n m : Nat) (v1 : T1) (v2 : T2) (v3 : T3) (v4 : T4) (v5 : T5) (v6 : T6) (v7 : T7), m < n → I m v1 v2 v3 v4 v5 v6 v7 → qok (qlp z b n v1 v2 v3 v4 v5 v6 v7) P := by
  intro n
  induction n with
  | zero => intro m v1 v2 v3 v4 v5 v6 v7 h; omega
  | succ n ih => intro m v1 v2 v3 v4 v5 v6 v7 h hI; exact hs m _ (fun m2 v1 v2 v3 v4 v5 v6 v7 h2 hI2 => ih m2 v1 v2 v3 v4 v5 v6 v7 (by omega) hI2) v1 v2 v3 v4 v5 v6 v7 hI
theorem qok_lp8 {T1 T2 T3 T4 T5 T6 T7 T8 R : Type} {z : T1 → T2 → T3 → T4 → T5 → T6 → T7 → T8 → Option R} {b : (T1 → T2 → T3 → T4 → T5 → T6 → T7 → T8 → Option R) → T1 → T2 → T3 → T4 → T5 → T6 → T7 → T8 → Option R} {P : R → Prop} (I : Nat → T1 → T2 → T3 → T4 → T5 → T6 → T7 → T8 → Prop) (hs : ∀ (m : Nat) (k : T1 → T2 → T3 → T4 → T5 → T6 → T7 → T8 → Option R), (∀ (m2 : Nat) (v1 : T1) (v2 : T2) (v3 : T3) (v4 : T4) (v5 : T5) (v6 : T6) (v7 : T7) (v8 : T8), m2 < m → I m2 v1 v2 v3 v4 v5 v6 v7 v8 → qok (k v1 v2 v3 v4 v5 v6 v7 v8) P) → ∀ (v1 : T1) (v2 : T2) (v3 : T3) (v4 : T4) (v5 : T5) (v6 : T6) (v7 : T7) (v8 : T8), I m v1 v2 v3 v4 v5 v6 v7 v8 → qok (b k v1 v2 v3 v4 v5 v6 v7 v8) P) : ∀ (n m : Nat) (v1 : T1) (v2 : T2) (v3 : T3) (v4 : T4) (v5 : T5) (v6 : T6) (v7 : T7) (v8 : T8), m < n → I m v1 v2 v3 v4 v5 v6 v7 v8 → qok (qlp z b n v1 v2 v3 v4 v5 v6 v7 v8) P := by
  intro n
  induction n with
  | zero => intro m v1 v2 v3 v4 v5 v6 v7 v8 h; omega
  | succ n ih => intro m v1 v2 v3 v4 v5 v6 v7 v8 h hI; exact hs m _ (fun m2 v1 v2 v3 v4 v5 v6 v7 v8 h2 hI2 => ih m2 v1 v2 v3 v4 v5 v6 v7 v8 (by omega) hI2) v1 v2 v3 v4 v5 v6 v7 v8 hI
/-! numbers -/
theorem qup_at (σ : qM) (o k : Nat) (v : Int32) (a j : Nat) : qup σ o k v a j = if a = o then (if j = k then v else σ o j) else σ a j := by
  unfold qup qset upd
  by_cases h : a = o
  · rw [if_pos h, if_pos h]
  · rw [if_neg h, if_neg h]
theorem qup_ne (σ : qM) {o a : Nat} (k : Nat) (v : Int32) (h : ¬ a = o) : qup σ o k v a = σ a := qset_n _ _ h
theorem qup_eq (σ : qM) (o k : Nat) (v : Int32) : qup σ o k v o = upd (σ o) k v := qset_s _ _ _
theorem upd_at (f : Nat → Int32) (k : Nat) (v : Int32) (j : Nat) : upd f k v j = if j = k then v else f j := rfl
theorem qin_nI {i n : Nat} (h : i < 2 ^ 31) : qin (nI i) n ↔ i < n := by
  show ¬ (nI i < 0 ∨ n ≤ (nI i).toNatClampNeg) ↔ i < n
  rw [nI_clamp h]
  constructor
  · intro q; exact Nat.not_le.mp (fun z => q (Or.inr z))
  · intro q z
    rcases z with z | z
    · exact nI_pos h z
    · omega
theorem qin_of {i n : Nat} (h : i < n) (hn : n < 2 ^ 31) : qin (nI i) n := (qin_nI (by omega)).mpr h
/-- the test 'x is one of 0 .. n - 1' -/
def bl (x : Int32) (n : Nat) : Prop := 0 ≤ x ∧ x < nI n
theorem bl_of {x : Int32} {n : Nat} (h : bl x n) (hn : n < 2 ^ 31) : ∃ j, j < n ∧ x = nI j := by
  obtain ⟨j, hj, rfl⟩ := nI_of (x := x) (fun q => by
    have h1 := h.1
    rw [fa_le] at h1
    rw [fa_lt] at q
    omega)
  exact ⟨j, (nI_ltI hj hn).mp h.2, rfl⟩
theorem bl_nI {j n : Nat} (hj : j < n) (hn : n < 2 ^ 31) : bl (nI j) n := ⟨nI_pos' (by omega), nI_lt hj hn⟩
theorem below_ok (σ : qM) (x : Int32) (n : Nat) (hn : n < 2 ^ 31) : (bl x n → fX4_below σ x (nI n) = some (1, σ)) ∧ (¬ bl x n → fX4_below σ x (nI n) = some (0, σ)) := by
  unfold fX4_below bl
  constructor
  · intro ⟨h1, h2⟩
    have a1 : ¬ x < 0 := fun q => by rw [fa_lt] at q; rw [fa_le] at h1; omega
    have a2 : ¬ nI n ≤ x := fun q => by rw [fa_le] at q; rw [fa_lt] at h2; omega
    rw [if_neg a1, if_neg a2]
  · intro h
    by_cases a1 : x < 0
    · rw [if_pos a1]
    · have a2 : nI n ≤ x := by
        rw [fa_le, Int.not_lt.symm]
        intro q
        refine h ⟨?_, (fa_lt _ _).mpr q⟩
        rw [fa_lt] at a1
        rw [fa_le]
        omega
      rw [if_neg a1, if_pos a2]
theorem in_gen (σ : qM) (x : Int64) (lo hi : Int64) : fX5_in σ x lo hi = some (if lo ≤ x ∧ x ≤ hi then 1 else 0, σ) := by
  unfold fX5_in
  simp only [lg_cmp_lt, lg_cmp_gt, Int64.lt_iff_toInt_lt, Int64.le_iff_toInt_le]
  by_cases h1 : x.toInt < lo.toInt
  · rw [if_pos h1, if_neg (by omega)]
  · by_cases h2 : hi.toInt < x.toInt
    · rw [if_neg h1, if_pos h2, if_neg (by omega)]
    · rw [if_neg h1, if_neg h2, if_pos (by omega)]
theorem in_ok (σ : qM) (x : Int32) (n : Nat) {hi : Int64} (hn : 0 < n ∧ n < 2 ^ 31) (hh : hi = lN (n - 1)) : (bl x n → fX5_in σ x.toInt64 0 hi = some (1, σ)) ∧ (¬ bl x n → fX5_in σ x.toInt64 0 hi = some (0, σ)) := by
  subst hh
  have e : (0 : Int64) ≤ x.toInt64 ∧ x.toInt64 ≤ lN (n - 1) ↔ bl x n := by
    unfold bl
    rw [fa_le64, fa_le64, fa_le, fa_lt, Int32.toInt_toInt64, lN_toInt (by omega), nI_toInt hn.2, show (0 : Int64).toInt = 0 from rfl, show (0 : Int32).toInt = 0 from rfl]
    omega
  rw [in_gen]
  exact ⟨fun h => by rw [if_pos (e.mpr h)], fun h => by rw [if_neg (fun q => h (e.mp q))]⟩
theorem isTwo_ok (σ : qM) (x : Int32) : (bl x 2 → fX5_isTwo σ x = some (1, σ)) ∧ (¬ bl x 2 → fX5_isTwo σ x = some (0, σ)) := by
  have h := in_ok σ x 2 (hi := 1) (by decide) rfl
  unfold fX5_isTwo
  exact ⟨fun q => by rw [h.1 q]; rfl, fun q => by rw [h.2 q]; rfl⟩

/-! ===== PURE: the reference's cup ===== -/
def b2i (b : Bool) : Int32 := if b = true then 1 else 0
theorem b2i_t : b2i true = 1 := rfl
theorem b2i_f : b2i false = 0 := rfl
/-- rules and cracks stand in memory -/
def rqm (σ : qM) (V : qV) : Prop := σ 0 10 = nI (v_r V) ∧ (∀ k j, k < v_r V → j < 5 → σ 8 (5 * k + j) = nI (v_q V k j)) ∧ σ 0 12 = nI (v_c V) ∧ (∀ i, i < v_c V → σ 9 (2 * i) = nI (v_k V i 0) ∧ σ 9 (2 * i + 1) = nI (v_k V i 1))
/-- leaves too -/
def rdm (σ : qM) (V : qV) : Prop := rqm σ V ∧ σ 0 8 = nI (v_n V) ∧ (∀ l j, l < v_n V → j < 3 → σ 7 (3 * l + j) = nI (v_l V l j))
/-- a lay stands in memory -/
def lym (σ : qM) (Y : qL) : Prop := σ 0 20 = nI (y_n Y) ∧ ∀ l, l < y_n Y → σ 7 (3 * l + 2) = nI (y_s Y l) ∧ σ 12 l = nI (y_c Y l) ∧ σ 13 l = nI (y_r Y l)
/-- what the cup's work leaves as it was -/
def frP (V : qV) (σ σ' : qM) : Prop := (∀ a, ¬ a = 0 → ¬ a = 7 → ¬ a = 12 → ¬ a = 13 → ¬ a = 14 → σ' a = σ a) ∧ (∀ k, ¬ k = 20 → ¬ k = 21 → σ' 0 k = σ 0 k) ∧ (∀ i, i < 3 * v_n V → σ' 7 i = σ 7 i)
theorem frP.rf (V : qV) (σ : qM) : frP V σ σ := ⟨fun _ _ _ _ _ _ => rfl, fun _ _ _ => rfl, fun _ _ => rfl⟩
theorem frP.tr {V : qV} {σ σ' σ'' : qM} (h : frP V σ σ') (g : frP V σ' σ'') : frP V σ σ'' := ⟨fun a h1 h2 h3 h4 h5 => by rw [g.1 a h1 h2 h3 h4 h5, h.1 a h1 h2 h3 h4 h5], fun k h1 h2 => by rw [g.2.1 k h1 h2, h.2.1 k h1 h2], fun i hi => by rw [g.2.2 i hi, h.2.2 i hi]⟩
theorem rqm.fr {V : qV} {σ σ' : qM} (h : rqm σ V) (g : frP V σ σ') : rqm σ' V := ⟨by rw [g.2.1 10 (by decide) (by decide), h.1], fun k j hk hj => by rw [g.1 8 (by decide) (by decide) (by decide) (by decide) (by decide)]; exact h.2.1 k j hk hj, by rw [g.2.1 12 (by decide) (by decide), h.2.2.1], fun i hi => by rw [g.1 9 (by decide) (by decide) (by decide) (by decide) (by decide)]; exact h.2.2.2 i hi⟩
theorem rdm.fr {V : qV} {σ σ' : qM} (h : rdm σ V) (g : frP V σ σ') : rdm σ' V := ⟨h.1.fr g, by rw [g.2.1 8 (by decide) (by decide), h.2.1], fun l j hl hj => by rw [g.2.2 _ (by omega)]; exact h.2.2 l j hl hj⟩
/-! one leaf turned -/
theorem turnL (σ : qM) (c r t l : Nat) (hl : l < 13) (hc : c < 6) (hr : r < 6) (ht : t < 4) : ∀ n i, i ≤ t → t - i < n → qlp (fun _ _ _ _ _ _ => none) bX5_turnsOne_24 n σ (nI l) (nI t) (nI (tn i c r).1) (nI (tn i c r).2) (nI i) = some (qup (qup σ 12 l (nI (tn t c r).1)) 13 l (nI (tn t c r).2)) := by
  intro n
  induction n with
  | zero => intro i h1 h2; omega
  | succ n ih =>
    intro i h1 h2
    rw [qlp_succ]
    generalize qlp (fun _ _ _ _ _ _ => none) bX5_turnsOne_24 n = kk at ih ⊢
    unfold bX5_turnsOne_24 fX5_turnsOne_55 fX5_turnsOne_38
    by_cases e : i = t
    · subst e
      rw [if_pos (nI_le (Nat.le_refl _) (by omega)), if_pos (qin_of hl (by decide)), if_pos (qin_of hl (by decide)), nI_clamp (by omega)]
    · have hb := tn_lt hc hr i
      rw [if_neg (nI_ge (by omega) (by omega)), show (5 : Int32) - nI (tn i c r).2 = nI (5 - (tn i c r).2) from pk_sub (a := 5) (by omega), show nI i + 1 = nI (i + 1) from nI_1 i]
      exact ih (i + 1) (by omega) (by omega)
theorem turnsOne_ok {σ : qM} {V : qV} (hV : v_ok V) (h : rdm σ V) {l t : Nat} (hl : l < v_n V) (ht : t < 4) : fX5_turnsOne σ (nI l) (nI t) = some (qup (qup σ 12 l (nI (y_c (ly V t) l))) 13 l (nI (y_r (ly V t) l))) := by
  have h12 := hV.1
  have hb := hV.2.2.2.1 l hl
  unfold fX5_turnsOne fX5_turnsOne_9 fX5_turnsOne_21 fX5_turnsOne_24
  rw [show (3 : Int32) * nI l = nI (3 * l) from pk_mul 3 l, show nI (3 * l) + 1 = nI (3 * l + 1) from nI_1 _, if_pos (qin_of (by omega) (by decide)), if_pos (qin_of (by omega) (by decide)), nI_clamp (by omega), nI_clamp (by omega), show (3 * l) = 3 * l + 0 from rfl, h.2.2 l 0 hl (by decide), h.2.2 l 1 hl (by decide)]
  exact turnL σ _ _ t l (by omega) hb.1 hb.2.1 ht qFU 0 (by omega) (by rw [qFU_eq]; omega)
/-! a crack -/
theorem any_succ (n : Nat) (f : Nat → Bool) : (List.range (n + 1)).any f = ((List.range n).any f || f n) := by
  rw [List.range_succ, List.any_append]; simp
theorem crackL {σ : qM} {V : qV} (hV : v_ok V) (h : rqm σ V) (c r : Nat) (hc : c < 6) (hr : r < 6) : ∀ n i, i ≤ v_c V → v_c V - i < n → qlp (fun _ _ _ _ _ => none) bX5_isCracked_5 n σ (nI c) (nI r) (b2i ((List.range i).any (fun i => decide (v_k V i 0 = c ∧ v_k V i 1 = r)))) (nI i) = some (b2i (crk V c r), σ) := by
  have h8 := hV.2.2.1
  intro n
  induction n with
  | zero => intro i h1 h2; omega
  | succ n ih =>
    intro i h1 h2
    rw [qlp_succ]
    generalize qlp (fun _ _ _ _ _ => none) bX5_isCracked_5 n = kk at ih ⊢
    unfold bX5_isCracked_5
    rw [h.2.2.1]
    by_cases e : i = v_c V
    · subst e
      rw [if_pos (nI_le (Nat.le_refl _) (by omega)), if_pos (by unfold b2i; split <;> simp)]
      rfl
    · have hlt : i < v_c V := by omega
      obtain ⟨k1, k2⟩ := h.2.2.2 i hlt
      obtain ⟨b1, b2⟩ := hV.2.2.2.2.2 i hlt
      have hn := ih (i + 1) (by omega) (by omega)
      rw [any_succ] at hn
      rw [if_neg (nI_ge (by omega) (by omega))]
      simp only [show (2 : Int32) * nI i = nI (2 * i) from pk_mul 2 i, show nI (2 * i) + 1 = nI (2 * i + 1) from nI_1 _, nI_clamp (show 2 * i < 2 ^ 31 by omega), nI_clamp (show 2 * i + 1 < 2 ^ 31 by omega), k1, k2]
      unfold fX5_isCracked_46 fX5_isCracked_50 fX5_isCracked_51
      rw [show nI i + 1 = nI (i + 1) from nI_1 i, if_pos (qin_of (by omega) (by decide)), if_pos (qin_of (by omega) (by decide))]
      cases hx : (List.range i).any (fun i => decide (v_k V i 0 = c ∧ v_k V i 1 = r)) with
      | true =>
        rw [hx, Bool.true_or] at hn
        rw [if_neg (by decide)]
        exact hn
      | false =>
        rw [hx, Bool.false_or] at hn
        rw [if_pos (by decide)]
        by_cases e1 : v_k V i 0 = c
        · rw [if_pos (by rw [e1])]
          by_cases e2 : v_k V i 1 = r
          · rw [if_pos (by rw [e2])]
            rw [show decide (v_k V i 0 = c ∧ v_k V i 1 = r) = true by simp [e1, e2]] at hn
            exact hn
          · rw [if_neg (fun q => e2 ((nI_eq (by omega) (by omega)).mp q))]
            rw [show decide (v_k V i 0 = c ∧ v_k V i 1 = r) = false by simp [e2]] at hn
            exact hn
        · rw [if_neg (fun q => e1 ((nI_eq (by omega) (by omega)).mp q))]
          rw [show decide (v_k V i 0 = c ∧ v_k V i 1 = r) = false by simp [e1]] at hn
          exact hn
theorem crackM_ok {σ : qM} {V : qV} (hV : v_ok V) (h : rqm σ V) {c r : Nat} (hc : c < 6) (hr : r < 6) : fX5_isCracked σ (nI c) (nI r) = some (b2i (crk V c r), σ) := by
  unfold fX5_isCracked fX5_isCracked_5
  exact crackL hV h c r hc hr qFU 0 (by omega) (by rw [qFU_eq]; have := hV.2.2.1; omega)
/-! how two lie -/
theorem amt_d : ∀ a, a < 6 → ∀ b, b < 6 → (if 0 ≤ nI a - nI b then nI a - nI b else -(nI a - nI b)) = nI (dst a b) := by decide +kernel
theorem amount_ok (σ : qM) {a b : Nat} (ha : a < 6) (hb : b < 6) : fX5_amount σ (nI a - nI b) = some (nI (dst a b), σ) := by
  unfold fX5_amount
  rw [← amt_d a ha b hb]
  by_cases h : 0 ≤ nI a - nI b
  · rw [if_pos h, if_pos h]
  · rw [if_neg h, if_neg h]
theorem dst_lt {a b : Nat} (ha : a < 6) (hb : b < 6) : dst a b < 6 := by unfold dst; omega
theorem lie_d : ∀ how, how < 4 → ∀ c1, c1 < 6 → ∀ r1, r1 < 6 → ∀ c2, c2 < 6 → ∀ r2, r2 < 6 → (if nI how = 0 then (if 1 < nI (dst c1 c2) then (0 : Int32) else (if 1 < nI (dst r1 r2) then 0 else 1)) else (if nI how = 1 then (if nI (dst c1 c2) = 0 then (if nI r2 ≤ nI r1 then 0 else 1) else 0) else (if nI how = 2 then (if 3 ≤ nI (dst c1 c2) then 1 else (if nI (dst r1 r2) < 3 then 0 else 1)) else 1))) = b2i (lieB how c1 r1 c2 r2) := by decide +kernel
theorem some_ite {c : Prop} [Decidable c] {a b : Int32} {σ : qM} : (some ((if c then a else b), σ) : Option (Int32 × qM)) = if c then some (a, σ) else some (b, σ) := by by_cases h : c <;> simp [h]
theorem lieSo_ok {σ : qM} {Y : qL} (hY : y_ok Y) (h : lym σ Y) {how a b : Nat} (hh : how < 4) (ha : a < y_n Y) (hb : b < y_n Y) : fX5_lieSo σ (nI how) (nI a) (nI b) = some (b2i (lieB how (y_c Y a) (y_r Y a) (y_c Y b) (y_r Y b)), σ) := by
  have h13 := hY.1
  obtain ⟨-, a2, a3⟩ := hY.2 a ha
  obtain ⟨-, b2, b3⟩ := hY.2 b hb
  obtain ⟨-, c1, c2⟩ := h.2 a ha
  obtain ⟨-, d1, d2⟩ := h.2 b hb
  have hd1 := dst_lt a2 b2
  have hd2 := dst_lt a3 b3
  unfold fX5_lieSo fX5_lieSo_120
  simp only [nI_clamp (show a < 2 ^ 31 by omega), nI_clamp (show b < 2 ^ 31 by omega), c1, d1, c2, d2, amount_ok σ a2 b2, amount_ok σ a3 b3, Option.bind_some, if_pos (qin_of (show a < 13 by omega) (show 13 < 2 ^ 31 by decide)), if_pos (qin_of (show b < 13 by omega) (show 13 < 2 ^ 31 by decide))]
  rw [← lie_d how hh _ a2 _ a3 _ b2 _ b3]
  simp only [some_ite]

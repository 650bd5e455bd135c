/-! ===== PURE: applies, readBy, appliesNow of the reference ===== -/
theorem any_of {n i : Nat} {f : Nat → Bool} (h : i ≤ n) (hi : (List.range i).any f = true) : (List.range n).any f = true := by
  rw [List.any_eq_true] at hi ⊢
  obtain ⟨a, h1, h2⟩ := hi
  exact ⟨a, List.mem_range.mpr (Nat.lt_of_lt_of_le (List.mem_range.mp h1) h), h2⟩
theorem b2i_01 (b : Bool) : b2i b = 0 ∨ b2i b = 1 := by cases b <;> simp [b2i]
theorem wm_lt (V : qV) (Y : qL) (k a : Nat) : wm V Y k a < 2 ^ y_n Y := mk_lt _ _
theorem appL {σ : qM} {V : qV} {Y : qL} (hV : v_ok V) (hY : y_ok Y) (hs : σ 0 20 = nI (y_n Y)) (hw : wtm σ V Y) {m k : Nat} (hm : m < 2 ^ 31) (hk : k < v_r V) : ∀ n i, i ≤ y_n Y → y_n Y - i < n → qlp (fun _ _ _ _ _ => none) bX5_applies_5 n σ (nI k) (nI m) (b2i ((List.range i).any (fun a => m.testBit a && decide (¬ wm V Y k a &&& m = 0)))) (nI i) = some (b2i (ap V Y m k), σ) := by
  have h13 := hY.1
  have h10 := hV.2.1
  intro n
  induction n with
  | zero => intro i h1 h2; omega
  | succ n ih =>
    intro i h1 h2
    rw [qlp_succ]
    generalize qlp (fun _ _ _ _ _ => none) bX5_applies_5 n = kk at ih ⊢
    unfold bX5_applies_5
    rw [hs]
    by_cases e : i = y_n Y
    · subst e
      rw [if_pos (nI_le (Nat.le_refl _) (by omega)), if_pos (b2i_01 _)]
      rfl
    · have hlt : i < y_n Y := by omega
      rw [if_neg (nI_ge hlt (by omega))]
      have hn := ih (i + 1) (by omega) (by omega)
      rw [any_succ] at hn
      cases hx : (List.range i).any (fun a => m.testBit a && decide (¬ wm V Y k a &&& m = 0)) with
      | true =>
        rw [if_neg (by decide), if_pos (by decide)]
        have : ap V Y m k = true := any_of (by omega) hx
        rw [this]
      | false =>
        rw [hx, Bool.false_or] at hn
        rw [if_pos (by decide), isIn_ok σ hm (by omega)]
        simp only [Option.bind_some]
        unfold fX5_applies_48 fX5_applies_49
        rw [show nI i + 1 = nI (i + 1) from nI_1 i]
        cases hb : m.testBit i with
        | false =>
          rw [hb, Bool.false_and] at hn
          rw [if_pos (by decide)]
          exact hn
        | true =>
          rw [hb, Bool.true_and] at hn
          rw [if_neg (by decide)]
          simp only [show (13 : Int32) * nI k = nI (13 * k) from pk_mul 13 k, nI_add, nI_clamp (show 13 * k + i < 2 ^ 31 by omega), hw k i hk hlt, fa_and]
          rw [if_pos (qin_of (by omega) (by decide))]
          have hwl : wm V Y k i &&& m < 2 ^ 31 := Nat.lt_of_le_of_lt Nat.and_le_right hm
          by_cases hz : wm V Y k i &&& m = 0
          · rw [show decide (¬ wm V Y k i &&& m = 0) = false by simp [hz]] at hn
            rw [if_pos (by rw [hz]; rfl)]
            exact hn
          · rw [show decide (¬ wm V Y k i &&& m = 0) = true by simp [hz]] at hn
            rw [if_neg (show ¬ nI (wm V Y k i &&& m) = (0 : Int32) from fun q => hz ((nI_eq (b := 0) hwl (by decide)).mp q))]
            exact hn
theorem applies_ok {σ : qM} {V : qV} {Y : qL} (hV : v_ok V) (hY : y_ok Y) (hs : σ 0 20 = nI (y_n Y)) (hw : wtm σ V Y) {m k : Nat} (hm : m < 2 ^ 31) (hk : k < v_r V) : fX5_applies σ (nI k) (nI m) = some (b2i (ap V Y m k), σ) := by
  unfold fX5_applies fX5_applies_5
  exact appL hV hY hs hw hm hk qFU 0 (by omega) (by rw [qFU_eq]; have := hY.1; omega)
/-- which rules are read: not struck, and apply -/
def rp (V : qV) (Y : qL) (st m : Nat) (k : Nat) : Bool := !st.testBit k && ap V Y m k
def fp (f : Int32) (k : Nat) : Bool := decide (nI k = f)
theorem readL {σ : qM} {V : qV} {Y : qL} (hV : v_ok V) (hY : y_ok Y) (hq : rqm σ V) (hs : σ 0 20 = nI (y_n Y)) (hw : wtm σ V Y) {m st : Nat} (hm : m < 2 ^ 31) (hst : st < 2 ^ 31) (h22 : σ 0 22 = nI st) : ∀ n k, k ≤ v_r V → v_r V - k < n → qlp (fun _ _ _ _ => none) bX5_readBy_4 n σ (nI m) (nI (lw V (rp V Y st m) (fp (σ 0 23)) k)) (nI k) = some (nI (lw V (rp V Y st m) (fp (σ 0 23)) (v_r V)), σ) := by
  have h10 := hV.2.1
  intro n
  induction n with
  | zero => intro i h1 h2; omega
  | succ n ih =>
    intro k h1 h2
    rw [qlp_succ]
    generalize qlp (fun _ _ _ _ => none) bX5_readBy_4 n = kk at ih ⊢
    unfold bX5_readBy_4
    rw [hq.1]
    by_cases e : k = v_r V
    · subst e
      rw [if_pos (nI_le (Nat.le_refl _) (by omega))]
    · have hlt : k < v_r V := by omega
      obtain ⟨-, -, -, q3, q4⟩ := hV.2.2.2.2.1 k hlt
      have hn := ih (k + 1) (by omega) (by omega)
      rw [show lw V (rp V Y st m) (fp (σ 0 23)) (k + 1) = if rp V Y st m k = true then lstep V (fp (σ 0 23)) k (lw V (rp V Y st m) (fp (σ 0 23)) k) else lw V (rp V Y st m) (fp (σ 0 23)) k from rfl] at hn
      generalize lw V (rp V Y st m) (fp (σ 0 23)) k = x at hn ⊢
      rw [if_neg (nI_ge hlt (by omega)), h22, isIn_ok σ hst (by omega)]
      simp only [Option.bind_some]
      unfold fX5_readBy_107
      rw [show nI k + 1 = nI (k + 1) from nI_1 k]
      cases hb : st.testBit k with
      | true =>
        rw [if_neg (by decide)]
        rw [if_neg (by simp [rp, hb])] at hn
        exact hn
      | false =>
        rw [if_pos (by decide), applies_ok hV hY hs hw hm hlt]
        simp only [Option.bind_some]
        cases ha : ap V Y m k with
        | false =>
          rw [if_pos (by decide)]
          rw [if_neg (by simp [rp, ha])] at hn
          exact hn
        | true =>
          rw [if_neg (by decide)]
          rw [if_pos (by simp [rp, hb, ha])] at hn
          unfold fX5_readBy_46 fX5_readBy_65 fX5_readBy_78 fX5_readBy_86 fX5_readBy_106 fX5_readBy_107
          simp only [show (5 : Int32) * nI k = nI (5 * k) from pk_mul 5 k, show nI (5 * k) + 4 = nI (5 * k + 4) from nI_add _ 4, show nI (5 * k) + 3 = nI (5 * k + 3) from nI_add _ 3, nI_clamp (show 5 * k + 4 < 2 ^ 31 by omega), nI_clamp (show 5 * k + 3 < 2 ^ 31 by omega), hq.2.1 k 3 hlt (by decide), hq.2.1 k 4 hlt (by decide), jshl1 (show v_q V k 4 < 31 by omega), show nI k + 1 = nI (k + 1) from nI_1 k, andNot, fa_or]
          rw [if_pos (qin_of (by omega) (by decide)), if_pos (qin_of (by omega) (by decide))]
          unfold lstep clr fp at hn
          by_cases hf : nI k = σ 0 23
          · simp only [hf, decide_true, if_true] at hn ⊢
            by_cases hp : v_q V k 3 = 1
            · simp only [hp, decide_true] at hn ⊢
              exact hn
            · have hp0 : v_q V k 3 = 0 := by omega
              simp only [hp0] at hn ⊢
              exact hn
          · simp only [hf, decide_false, if_false] at hn ⊢
            by_cases hp : v_q V k 3 = 1
            · simp only [hp, decide_true] at hn ⊢
              exact hn
            · have hp0 : v_q V k 3 = 0 := by omega
              simp only [hp0] at hn ⊢
              exact hn
theorem readBy_ok {σ : qM} {V : qV} {Y : qL} (hV : v_ok V) (hY : y_ok Y) (hq : rqm σ V) (hs : σ 0 20 = nI (y_n Y)) (hw : wtm σ V Y) {m st : Nat} (hm : m < 2 ^ 31) (hst : st < 2 ^ 31) (h22 : σ 0 22 = nI st) : fX5_readBy σ (nI m) = some (nI (lw V (rp V Y st m) (fp (σ 0 23)) (v_r V)), σ) := by
  unfold fX5_readBy fX5_readBy_4
  exact readL hV hY hq hs hw hm hst h22 qFU 0 (by omega) (by rw [qFU_eq]; have := hV.2.1; omega)
theorem apNowL {σ : qM} {V : qV} {Y : qL} (hV : v_ok V) (hY : y_ok Y) (hq : rqm σ V) (hs : σ 0 20 = nI (y_n Y)) (hw : wtm σ V Y) {m : Nat} (hm : m < 2 ^ 31) (h21 : σ 0 21 = nI m) : ∀ n k, k ≤ v_r V → v_r V - k < n → qlp (fun _ _ _ => none) bX5_appliesNow_4 n σ (nI (mk (ap V Y m) k)) (nI k) = some (nI (mk (ap V Y m) (v_r V)), σ) := by
  have h10 := hV.2.1
  intro n
  induction n with
  | zero => intro i h1 h2; omega
  | succ n ih =>
    intro k h1 h2
    rw [qlp_succ]
    generalize qlp (fun _ _ _ => none) bX5_appliesNow_4 n = kk at ih ⊢
    unfold bX5_appliesNow_4
    rw [hq.1]
    by_cases e : k = v_r V
    · subst e
      rw [if_pos (nI_le (Nat.le_refl _) (by omega))]
    · have hlt : k < v_r V := by omega
      have hn := ih (k + 1) (by omega) (by omega)
      rw [← mk_or (show k < 31 by omega)] at hn
      rw [if_neg (nI_ge hlt (by omega)), h21, applies_ok hV hY hs hw hm hlt]
      simp only [Option.bind_some]
      unfold fX5_appliesNow_32 fX5_appliesNow_34
      rw [show nI k + 1 = nI (k + 1) from nI_1 k]
      cases ha : ap V Y m k with
      | true => rw [if_neg (by decide)]; rw [if_pos ha] at hn; exact hn
      | false => rw [if_pos (by decide)]; rw [if_neg (by simp [ha])] at hn; exact hn
theorem apNow_ok {σ : qM} {V : qV} {Y : qL} (hV : v_ok V) (hY : y_ok Y) (hq : rqm σ V) (hs : σ 0 20 = nI (y_n Y)) (hw : wtm σ V Y) {m : Nat} (hm : m < 2 ^ 31) (h21 : σ 0 21 = nI m) : fX5_appliesNow σ = some (nI (mk (ap V Y m) (v_r V)), σ) := by
  unfold fX5_appliesNow fX5_appliesNow_4
  exact apNowL hV hY hq hs hw hm h21 qFU 0 (by omega) (by rw [qFU_eq]; have := hV.2.1; omega)

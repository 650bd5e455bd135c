/-! ===== PURE: the methods that tell ===== -/
def tst (t : qM → Option (Int32 × qM)) (P : Prop) : Prop := ∀ σ, (P → t σ = some (1, σ)) ∧ (¬ P → t σ = some (0, σ))
theorem t_below (x : Int32) (n : Nat) (hn : n < 2 ^ 31) : tst (fun σ => fX4_below σ x (nI n)) (bl x n) := fun σ => below_ok σ x n hn
theorem t_in (x : Int32) (n : Nat) {hi : Int64} (hn : 0 < n ∧ n < 2 ^ 31) (hh : hi = lN (n - 1)) : tst (fun σ => fX5_in σ x.toInt64 0 hi) (bl x n) := fun σ => in_ok σ x n hn hh
theorem t_two (x : Int32) : tst (fun σ => fX5_isTwo σ x) (bl x 2) := fun σ => isTwo_ok σ x
theorem t_turns (x : Int32) : tst (fun σ => fX5_areTurns σ x) (bl x 4) := fun σ => by
  have h := in_ok σ x 4 (hi := 3) (by decide) rfl
  unfold fX5_areTurns
  exact ⟨fun q => by dsimp only; rw [h.1 q]; rfl, fun q => by dsimp only; rw [h.2 q]; rfl⟩
theorem t_law (x : Int32) : tst (fun σ => fX5_isLaw σ x) (bl x 8) := fun σ => by
  have h := in_ok σ x 8 (hi := 7) (by decide) rfl
  unfold fX5_isLaw
  exact ⟨fun q => by dsimp only; rw [h.1 q]; rfl, fun q => by dsimp only; rw [h.2 q]; rfl⟩
theorem t_laws (x : Int32) : tst (fun σ => fX5_areLaws σ x) (bl x 256) := fun σ => by
  have h := in_ok σ x 256 (hi := 255) (by decide) rfl
  unfold fX5_areLaws
  exact ⟨fun q => by dsimp only; rw [h.1 q]; rfl, fun q => by dsimp only; rw [h.2 q]; rfl⟩
theorem t_day (x : Int32) : tst (fun σ => fX5_isDay σ x) (bl x 28) := fun σ => by
  have h := in_ok σ x 28 (hi := 27) (by decide) rfl
  unfold fX5_isDay
  exact ⟨fun q => by dsimp only; rw [h.1 q]; rfl, fun q => by dsimp only; rw [h.2 q]; rfl⟩
theorem t_sheet (x : Int32) : tst (fun σ => fX5_isSheet σ x) (bl x 4) := fun σ => by
  have h := in_ok σ x 4 (hi := 3) (by decide) rfl
  unfold fX5_isSheet
  exact ⟨fun q => by dsimp only; rw [h.1 q]; rfl, fun q => by dsimp only; rw [h.2 q]; rfl⟩
theorem t_lawsC (x : Int32) : tst (fun σ => fX4_areLaws σ x) (bl x 256) := fun σ => by
  have h := below_ok σ x 256 (by decide)
  have e : fX4_areLaws σ x = fX4_below σ x (nI 256) := by
    unfold fX4_areLaws fX4_below
    by_cases h1 : x < 0
    · rw [if_pos h1, if_pos h1]
    · rw [if_neg h1, if_neg h1]
      by_cases h2 : nI 256 ≤ x
      · rw [if_pos h2, if_pos (by rw [fa_lt]; rw [fa_le] at h2; have : (nI 256).toInt = 256 := rfl; have : (255 : Int32).toInt = 255 := rfl; omega)]
      · rw [if_neg h2, if_neg (by rw [fa_lt]; rw [fa_le] at h2; have : (nI 256).toInt = 256 := rfl; have : (255 : Int32).toInt = 255 := rfl; omega)]
  dsimp only
  rw [e]
  exact h
/-- both test an argument alike -/
theorem sim_test {α : Type} {t1 t2 : qM → Option (Int32 × qM)} {P : Prop} {σc σm : qM} {v : α} {g1 g2 : Int32 × qM → Option (α × qM)} (h1 : tst t1 P) (h2 : tst t2 P) (h : RR σc σm) (k : P → Sim (g1 (1, σc)) (g2 (1, σm))) :
    Sim ((t1 σc).bind fun q => if q.1 = 0 then some (v, q.2) else g1 q) ((t2 σm).bind fun q => if q.1 = 0 then some (v, q.2) else g2 q) := by
  by_cases q : P
  · rw [(h1 σc).1 q, (h2 σm).1 q]
    exact k q
  · rw [(h1 σc).2 q, (h2 σm).2 q]
    exact ⟨v, σc, σm, rfl, rfl, h⟩
theorem bind_id {α : Type} (x : Option (α × qM)) : (x.bind fun q => some (q.1, q.2)) = x := by cases x <;> rfl
theorem txC.fr {σ σ' : qM} {o t w : Nat} {x : Nat × (Nat → Nat)} (h : txC σ o t w x) (h0 : σ' o = σ o) (h1 : σ' (o + 1) = σ (o + 1)) (h2 : σ' (o + 2) = σ (o + 2)) : txC σ' o t w x := by unfold txC; rw [h0, h1, h2]; exact h
theorem prC.fr {σ σ' : qM} {o : Nat} {x : Nat × (Nat → Nat → Nat)} (h : prC σ o x) (h0 : σ' o = σ o) (h1 : σ' (o + 1) = σ (o + 1)) (h2 : σ' (o + 2) = σ (o + 2)) : prC σ' o x := by unfold prC; rw [h0, h1, h2]; exact h
theorem SH.c {σc σc' σm σm' : qM} (h : SH σc σm) (g0 : σc' 0 9 = σc 0 9) (g : ∀ a, 43 < a → σc' a = σc a) (m4 : σm' 0 4 = σm 0 4) (m1 : σm' 1 = σm 1) (m2 : σm' 2 = σm 2) (m3 : σm' 3 = σm 3) : SH σc' σm' := by
  unfold SH
  rw [g0, m4, m1, m2, m3]
  refine ⟨h.1, fun s hs => ?_⟩
  rw [g (44 + 2 * s) (by omega), g (45 + 2 * s) (by omega)]
  exact h.2 s hs
/-- the class's parse, text 0 -/
theorem parseC0 {σ : qM} {x : Nat × (Nat → Nat)} (hL : x.1 ≤ 47) (hb : ∀ i, i < x.1 → x.2 i < 256) (h4 : σ 1 4 = nI x.1) (h1 : σ 1 1 = nI 3) (h0 : σ 1 0 = (if 0 = 0 then 1 else 0)) (hB : ∀ i, i < x.1 → σ (1 + 1) i = nI (x.2 i)) : qok (fX3_parse σ 1) (fun σ' => txC σ' 1 0 3 x ∧ ∀ a, ¬ a = 1 → ¬ a = 1 + 2 → σ' a = σ a) := by
  unfold fX3_parse fX3_parse_5
  refine qok_mono (parseL0 (qup (qup σ 1 5 0) 1 6 (-1)) (tB x) x.2 x.1 hL (fun i hi => ⟨rfl, hb i hi⟩) ?_ ?_ ?_ ?_ ?_ ?_) ?_
  · rw [qup_eq, upd_at, if_neg (by decide), qup_eq, upd_at, if_neg (by decide), h4]
  · rw [qup_eq, upd_at, if_neg (by decide), qup_eq, upd_at, if_neg (by decide), h1]
  · rw [qup_eq, upd_at, if_neg (by decide), qup_eq, upd_at, if_neg (by decide), h0]; rfl
  · rw [qup_eq, upd_at, if_neg (by decide), qup_eq, upd_at, if_pos rfl]
  · rw [qup_eq, upd_at, if_pos rfl]
  · intro i hi
    rw [qup_ne _ _ _ (by decide), qup_ne _ _ _ (by decide)]
    exact hB i hi
  · rintro σ' ⟨p1, p2, p3, p4, p5⟩
    have f : ∀ k, ¬ k = 5 → ¬ k = 6 → σ' 1 k = σ 1 k := fun k k1 k2 => by rw [p2 k k1 k2, qup_eq, upd_at, if_neg k2, qup_eq, upd_at, if_neg k1]
    have g : ∀ a, ¬ a = 1 → ¬ a = 1 + 2 → σ' a = σ a := fun a a1 a2 => by rw [p1 a a1 a2, qup_ne _ _ _ a1, qup_ne _ _ _ a1]
    exact ⟨⟨by rw [f 4 (by decide) (by decide), h4], by rw [f 1 (by decide) (by decide), h1], by rw [f 0 (by decide) (by decide), h0], fun i hi => by rw [g (1 + 1) (by decide) (by decide)]; exact hB i hi, p3, p4, p5⟩, g⟩
/-- text 0 becomes another -/
theorem newtx0 {σc σm σc' σm' : qM} {β : qB} (hb : bt_ok β) (hC : AC σc β) (hM : AM σm β) (hS : SH σc σm) {x : Nat × (Nat → Nat)} (hL : x.1 ≤ 47) (hx : ∀ i, i < x.1 → x.2 i < 256) (ht : txC σc' 1 0 3 x) (hf : ∀ a, ¬ a = 1 → ¬ a = 1 + 1 → ¬ a = 1 + 2 → ¬ a = 16 → σc' a = σc a) (h16 : σc' 16 14 = 1) (m6 : ∀ i, σm' 6 i = if i = 0 then nI x.1 else σm 6 i) (m5 : ∀ i, i < x.1 → σm' 5 (0 + i) = nI (x.2 i)) (m5o : ∀ i, (47 ≤ i) → σm' 5 i = σm 5 i) (mf : ∀ a, ¬ a = 5 → ¬ a = 6 → σm' a = σm a) : RR σc' σm' := by
  refine ⟨(x, β.2), ⟨⟨hL, hx⟩, hb.2⟩, ⟨ht, hC.2.1.fr (hf 4 (by decide) (by decide) (by decide) (by decide)) (hf 5 (by decide) (by decide) (by decide) (by decide)) (hf 6 (by decide) (by decide) (by decide) (by decide)), hC.2.2.1.fr (hf 7 (by decide) (by decide) (by decide) (by decide)) (hf 8 (by decide) (by decide) (by decide) (by decide)) (hf 9 (by decide) (by decide) (by decide) (by decide)), hC.2.2.2.1.fr (hf 10 (by decide) (by decide) (by decide) (by decide)) (hf 11 (by decide) (by decide) (by decide) (by decide)) (hf 12 (by decide) (by decide) (by decide) (by decide)), hC.2.2.2.2.1.fr (hf 13 (by decide) (by decide) (by decide) (by decide)) (hf 14 (by decide) (by decide) (by decide) (by decide)) (hf 15 (by decide) (by decide) (by decide) (by decide)), by rw [hf 0 (by decide) (by decide) (by decide) (by decide)]; exact hC.2.2.2.2.2.1, by rw [hf 0 (by decide) (by decide) (by decide) (by decide)]; exact hC.2.2.2.2.2.2⟩, Or.inl h16, ?_, hS.c (by rw [hf 0 (by decide) (by decide) (by decide) (by decide)]) (fun a ha => hf a (by omega) (by omega) (by omega) (by omega)) (by rw [mf 0 (by decide) (by decide)]) (mf 1 (by decide) (by decide)) (mf 2 (by decide) (by decide)) (mf 3 (by decide) (by decide))⟩
  obtain ⟨⟨a1, a2⟩, ⟨a3, a4⟩, a5⟩ := hM
  refine ⟨⟨by rw [m6 0, if_pos rfl], m5⟩, ⟨by rw [m6 1, if_neg (by decide)]; exact a3, fun i hi => by rw [m5o _ (by omega)]; exact a4 i hi⟩, ?_⟩
  rw [mf 0 (by decide) (by decide), mf 9 (by decide) (by decide), mf 10 (by decide) (by decide), mf 11 (by decide) (by decide), mf 15 (by decide) (by decide)]
  exact a5
/-- the class's parse, text 1 -/
theorem parseC1 {σ : qM} {x : Nat × (Nat → Nat)} (hL : x.1 ≤ 59) (hb : ∀ i, i < x.1 → x.2 i < 256) (h4 : σ 4 4 = nI x.1) (h1 : σ 4 1 = nI 5) (h0 : σ 4 0 = (if 1 = 0 then 1 else 0)) (hB : ∀ i, i < x.1 → σ (4 + 1) i = nI (x.2 i)) : qok (fX3_parse σ 4) (fun σ' => txC σ' 4 1 5 x ∧ ∀ a, ¬ a = 4 → ¬ a = 4 + 2 → σ' a = σ a) := by
  unfold fX3_parse fX3_parse_5
  refine qok_mono (parseL1 (qup (qup σ 4 5 0) 4 6 (-1)) (tB x) x.2 x.1 hL (fun i hi => ⟨rfl, hb i hi⟩) ?_ ?_ ?_ ?_ ?_ ?_) ?_
  · rw [qup_eq, upd_at, if_neg (by decide), qup_eq, upd_at, if_neg (by decide), h4]
  · rw [qup_eq, upd_at, if_neg (by decide), qup_eq, upd_at, if_neg (by decide), h1]
  · rw [qup_eq, upd_at, if_neg (by decide), qup_eq, upd_at, if_neg (by decide), h0]; rfl
  · rw [qup_eq, upd_at, if_neg (by decide), qup_eq, upd_at, if_pos rfl]
  · rw [qup_eq, upd_at, if_pos rfl]
  · intro i hi
    rw [qup_ne _ _ _ (by decide), qup_ne _ _ _ (by decide)]
    exact hB i hi
  · rintro σ' ⟨p1, p2, p3, p4, p5⟩
    have f : ∀ k, ¬ k = 5 → ¬ k = 6 → σ' 4 k = σ 4 k := fun k k1 k2 => by rw [p2 k k1 k2, qup_eq, upd_at, if_neg k2, qup_eq, upd_at, if_neg k1]
    have g : ∀ a, ¬ a = 4 → ¬ a = 4 + 2 → σ' a = σ a := fun a a1 a2 => by rw [p1 a a1 a2, qup_ne _ _ _ a1, qup_ne _ _ _ a1]
    exact ⟨⟨by rw [f 4 (by decide) (by decide), h4], by rw [f 1 (by decide) (by decide), h1], by rw [f 0 (by decide) (by decide), h0], fun i hi => by rw [g (4 + 1) (by decide) (by decide)]; exact hB i hi, p3, p4, p5⟩, g⟩
/-- text 1 becomes another -/
theorem newtx1 {σc σm σc' σm' : qM} {β : qB} (hb : bt_ok β) (hC : AC σc β) (hM : AM σm β) (hS : SH σc σm) {x : Nat × (Nat → Nat)} (hL : x.1 ≤ 59) (hx : ∀ i, i < x.1 → x.2 i < 256) (ht : txC σc' 4 1 5 x) (hf : ∀ a, ¬ a = 4 → ¬ a = 4 + 1 → ¬ a = 4 + 2 → ¬ a = 16 → σc' a = σc a) (h16 : σc' 16 14 = 1) (m6 : ∀ i, σm' 6 i = if i = 1 then nI x.1 else σm 6 i) (m5 : ∀ i, i < x.1 → σm' 5 (60 + i) = nI (x.2 i)) (m5o : ∀ i, (i < 60) → σm' 5 i = σm 5 i) (mf : ∀ a, ¬ a = 5 → ¬ a = 6 → σm' a = σm a) : RR σc' σm' := by
  refine ⟨(β.1, x, β.2.2), ⟨hb.1, ⟨hL, hx⟩, hb.2.2⟩, ⟨hC.1.fr (hf 1 (by decide) (by decide) (by decide) (by decide)) (hf 2 (by decide) (by decide) (by decide) (by decide)) (hf 3 (by decide) (by decide) (by decide) (by decide)), ht, hC.2.2.1.fr (hf 7 (by decide) (by decide) (by decide) (by decide)) (hf 8 (by decide) (by decide) (by decide) (by decide)) (hf 9 (by decide) (by decide) (by decide) (by decide)), hC.2.2.2.1.fr (hf 10 (by decide) (by decide) (by decide) (by decide)) (hf 11 (by decide) (by decide) (by decide) (by decide)) (hf 12 (by decide) (by decide) (by decide) (by decide)), hC.2.2.2.2.1.fr (hf 13 (by decide) (by decide) (by decide) (by decide)) (hf 14 (by decide) (by decide) (by decide) (by decide)) (hf 15 (by decide) (by decide) (by decide) (by decide)), by rw [hf 0 (by decide) (by decide) (by decide) (by decide)]; exact hC.2.2.2.2.2.1, by rw [hf 0 (by decide) (by decide) (by decide) (by decide)]; exact hC.2.2.2.2.2.2⟩, Or.inl h16, ?_, hS.c (by rw [hf 0 (by decide) (by decide) (by decide) (by decide)]) (fun a ha => hf a (by omega) (by omega) (by omega) (by omega)) (by rw [mf 0 (by decide) (by decide)]) (mf 1 (by decide) (by decide)) (mf 2 (by decide) (by decide)) (mf 3 (by decide) (by decide))⟩
  obtain ⟨⟨a1, a2⟩, ⟨a3, a4⟩, a5⟩ := hM
  refine ⟨⟨by rw [m6 0, if_neg (by decide)]; exact a1, fun i hi => by rw [m5o _ (by have h2 : i < (bt0 β).1 := hi; have := hb.1.1; omega)]; exact a2 i hi⟩, ⟨by rw [m6 1, if_pos rfl], m5⟩, ?_⟩
  rw [mf 0 (by decide) (by decide), mf 9 (by decide) (by decide), mf 10 (by decide) (by decide), mf 11 (by decide) (by decide), mf 15 (by decide) (by decide)]
  exact a5
theorem sim_type0 {σc σm : qM} (h : RR σc σm) {b : Nat} (hb256 : b < 256) : Sim (fX4_type_29 (qup σc 16 14 1) 0 (nI b)) (fX5_type_39 σm 0 (nI b) 47 (σm 6 0)) := by
  obtain ⟨β, hb, hC, hU, hM, hS⟩ := h
  have ht := hC.1
  have hL := hb.1.1
  have e4 : (qup σc 16 14 1) 1 4 = nI (bt0 β).1 := by rw [qup_ne _ _ _ (by decide)]; exact ht.1
  have m6 : σm 6 0 = nI (bt0 β).1 := hM.1.1
  unfold fX4_type_29 fX4_textOf
  rw [if_pos rfl]
  simp only [Option.bind_some]
  rw [if_pos (show q_kd sC 1 = 3 from rfl), bind_id]
  unfold fX3_append
  rw [e4, m6]
  unfold fX5_type_39
  by_cases hfull : (bt0 β).1 = 47
  · rw [hfull, if_neg (show ¬ nI 47 < Int32.ofNat (lnC (1 + 1)) by decide), if_pos (show nI 47 = (47 : Int32) from rfl)]
    refine ⟨_, _, _, rfl, rfl, β, hb, hC.fr (frU.up _ _ _ (by omega)), Or.inl (by rw [qup_eq, upd_at, if_pos rfl]), hM, hS.c (by rw [qup_ne _ _ _ (by decide)]) (fun a ha => qup_ne _ _ _ (by omega)) rfl rfl rfl rfl⟩
  · have hlt : (bt0 β).1 < 47 := by omega
    rw [if_pos (show nI (bt0 β).1 < Int32.ofNat (lnC (1 + 1)) from nI_lt (b := 47) hlt (by decide)), if_pos (show qin (nI (bt0 β).1) (lnC (1 + 1)) from qin_of hlt (by decide)), if_neg (show ¬ nI (bt0 β).1 = (47 : Int32) from fun q => hfull ((nI_eq (b := 47) (by omega) (by decide)).mp q)), if_pos (show qin (0 : Int32) 2 by decide)]
    rw [show (0 : Int32).toNatClampNeg = 0 from rfl, m6, show (60 : Int32) * 0 + nI (bt0 β).1 = nI (0 + (bt0 β).1) from by rw [show (60 : Int32) * 0 = nI 0 from by decide, nI_add], if_pos (qin_of (by omega) (by decide)), nI_clamp (by omega), nI_clamp (by omega)]
    unfold fX3_append_25 fX3_append_35 fX5_type_62 fX5_type_72
    rw [if_pos (show qin (0 : Int32) 2 by decide), if_pos (show qin (0 : Int32) 2 by decide), if_pos (show qin (0 : Int32) 2 by decide), show (0 : Int32).toNatClampNeg = 0 from rfl]
    have n1 : nI (bt0 β).1 + 1 = nI ((bt0 β).1 + 1) := nI_1 _
    obtain ⟨σ', p0, p1, p2⟩ := parseC0 (σ := qup (qup (qup σc 16 14 1) (1 + 1) (bt0 β).1 (nI b)) 1 4 ((qup (qup σc 16 14 1) (1 + 1) (bt0 β).1 (nI b)) 1 4 + 1)) (x := ((bt0 β).1 + 1, fun i => if i = (bt0 β).1 then b else (bt0 β).2 i)) (by show (bt0 β).1 + 1 ≤ 47; omega) (fun i hi => by dsimp only at hi ⊢; split; exact hb256; exact hb.1.2 i (by omega))
      (by rw [qup_eq, upd_at, if_pos rfl, qup_ne _ _ _ (by decide), e4, n1])
      (by rw [qup_eq, upd_at, if_neg (by decide), qup_ne _ _ _ (by decide), qup_ne _ _ _ (by decide)]; exact ht.2.1)
      (by rw [qup_eq, upd_at, if_neg (by decide), qup_ne _ _ _ (by decide), qup_ne _ _ _ (by decide)]; exact ht.2.2.1)
      (fun i hi => by
        dsimp only at hi ⊢
        rw [qup_ne _ _ _ (by decide), qup_eq, upd_at]
        by_cases e : i = (bt0 β).1
        · rw [if_pos e, if_pos e]
        · rw [if_neg e, if_neg e, qup_ne _ _ _ (by decide)]; exact ht.2.2.2.1 i (by omega))
    rw [p0]
    refine ⟨nI ((bt0 β).1 + 1), _, _, congrArg some (Prod.ext p1.1 rfl), congrArg some (Prod.ext ?_ rfl), newtx0 hb hC hM hS (x := ((bt0 β).1 + 1, fun i => if i = (bt0 β).1 then b else (bt0 β).2 i)) (by show (bt0 β).1 + 1 ≤ 47; omega) (fun i hi => by dsimp only at hi ⊢; split; exact hb256; exact hb.1.2 i (by omega)) p1 (fun a a1 a2 a3 a4 => by rw [p2 a a1 a3, qup_ne _ _ _ a1, qup_ne _ _ _ a2, qup_ne _ _ _ a4]) (by rw [p2 16 (by decide) (by decide), qup_ne _ _ _ (by decide), qup_ne _ _ _ (by decide), qup_eq, upd_at, if_pos rfl]) (fun i => ?_) (fun i hi => ?_) (fun i hi => ?_) (fun a a1 a2 => ?_)⟩
    · dsimp only; rw [qup_eq, upd_at, if_pos rfl, qup_ne _ _ _ (by decide), m6, n1]
    · rw [qup_eq, upd_at, qup_ne _ _ _ (by decide), m6, n1]
    · dsimp only at hi ⊢
      rw [qup_ne _ _ _ (by decide), qup_eq, upd_at]
      by_cases e : i = (bt0 β).1
      · rw [if_pos (by omega), if_pos e]
      · rw [if_neg (by omega), if_neg e]; exact hM.1.2 i (by omega)
    · rw [qup_ne _ _ _ (by decide), qup_eq, upd_at, if_neg (by omega)]
    · rw [qup_ne _ _ _ a2, qup_ne _ _ _ a1]
theorem sim_wipe0 {σc σm : qM} (h : RR σc σm) : Sim (fX4_wipe_19 (qup σc 16 14 1) 0) (some (σm 6 0, qup σm 6 0 0)) := by
  obtain ⟨β, hb, hC, hU, hM, hS⟩ := h
  have ht := hC.1
  unfold fX4_wipe_19 fX4_textOf
  rw [if_pos rfl]
  simp only [Option.bind_some]
  rw [if_pos (show q_kd sC 1 = 3 from rfl), bind_id]
  unfold fX3_empty fX3_empty_10
  have e4 : (qup σc 16 14 1) 1 4 = σm 6 0 := by rw [qup_ne _ _ _ (by decide), ht.1]; exact hM.1.1.symm
  obtain ⟨σ', p0, p1, p2⟩ := parseC0 (σ := qup (qup σc 16 14 1) 1 4 0) (x := (0, (bt0 β).2)) (by show 0 ≤ 47; omega) (fun i hi => by dsimp only at hi; omega)
    (by rw [qup_eq, upd_at, if_pos rfl]; rfl)
    (by rw [qup_eq, upd_at, if_neg (by decide), qup_ne _ _ _ (by decide)]; exact ht.2.1)
    (by rw [qup_eq, upd_at, if_neg (by decide), qup_ne _ _ _ (by decide)]; exact ht.2.2.1)
    (fun i hi => by dsimp only at hi; omega)
  rw [p0, e4]
  refine ⟨_, _, _, rfl, rfl, newtx0 hb hC hM hS (x := (0, (bt0 β).2)) (by show 0 ≤ 47; omega) (fun i hi => by dsimp only at hi; omega) p1 (fun a a1 a2 a3 a4 => by rw [p2 a a1 a3, qup_ne _ _ _ a1, qup_ne _ _ _ a4]) (by rw [p2 16 (by decide) (by decide), qup_ne _ _ _ (by decide), qup_eq, upd_at, if_pos rfl]) (fun i => by rw [qup_eq, upd_at]; rfl) (fun i hi => by dsimp only at hi; omega) (fun i hi => by rw [qup_ne _ _ _ (by decide)]) (fun a a1 a2 => qup_ne _ _ _ a2)⟩
theorem sim_undo0 {σc σm : qM} (h : RR σc σm) : Sim (fX4_undo_19 (qup σc 16 14 1) 0) (if σm 6 0 = 0 then some (-3, σm) else (fX5_undo_32 (qup σm 6 0 (σm 6 0 - 1)) 0)) := by
  obtain ⟨β, hb, hC, hU, hM, hS⟩ := h
  have ht := hC.1
  have hL := hb.1.1
  unfold fX4_undo_19 fX4_textOf
  rw [if_pos rfl]
  simp only [Option.bind_some]
  rw [if_pos (show q_kd sC 1 = 3 from rfl), bind_id]
  unfold fX3_dropLast fX3_dropLast_20 fX5_undo_32
  have e4 : (qup σc 16 14 1) 1 4 = nI (bt0 β).1 := by rw [qup_ne _ _ _ (by decide)]; exact ht.1
  have m6 : σm 6 0 = nI (bt0 β).1 := hM.1.1
  rw [e4, m6]
  by_cases hz : (bt0 β).1 = 0
  · rw [hz, if_pos (show nI 0 = 0 from rfl), if_pos (show nI 0 = 0 from rfl)]
    exact ⟨_, _, _, rfl, rfl, β, hb, hC.fr (frU.up _ _ _ (by omega)), Or.inl (by rw [qup_eq, upd_at, if_pos rfl]), hM, hS.c (by rw [qup_ne _ _ _ (by decide)]) (fun a ha => qup_ne _ _ _ (by omega)) rfl rfl rfl rfl⟩
  · rw [if_neg (show ¬ nI (bt0 β).1 = 0 from fun q => hz ((nI_eq (b := 0) (by omega) (by decide)).mp q)), if_neg (show ¬ nI (bt0 β).1 = 0 from fun q => hz ((nI_eq (b := 0) (by omega) (by decide)).mp q)), if_pos (show qin (0 : Int32) 2 by decide), show (0 : Int32).toNatClampNeg = 0 from rfl]
    have n1 : nI (bt0 β).1 - 1 = nI ((bt0 β).1 - 1) := pk_sub (b := 1) (by omega)
    obtain ⟨σ', p0, p1, p2⟩ := parseC0 (σ := qup (qup σc 16 14 1) 1 4 (nI (bt0 β).1 - 1)) (x := ((bt0 β).1 - 1, (bt0 β).2)) (by show (bt0 β).1 - 1 ≤ 47; omega) (fun i hi => by dsimp only at hi ⊢; exact hb.1.2 i (by omega))
      (by rw [qup_eq, upd_at, if_pos rfl, n1])
      (by rw [qup_eq, upd_at, if_neg (by decide), qup_ne _ _ _ (by decide)]; exact ht.2.1)
      (by rw [qup_eq, upd_at, if_neg (by decide), qup_ne _ _ _ (by decide)]; exact ht.2.2.1)
      (fun i hi => by dsimp only at hi ⊢; rw [qup_ne _ _ _ (by decide), qup_ne _ _ _ (by decide)]; exact ht.2.2.2.1 i (by omega))
    rw [p0]
    refine ⟨nI ((bt0 β).1 - 1), _, _, congrArg some (Prod.ext p1.1 rfl), congrArg some (Prod.ext (by dsimp only; rw [qup_eq, upd_at, if_pos rfl, n1]) rfl), newtx0 hb hC hM hS (x := ((bt0 β).1 - 1, (bt0 β).2)) (by show (bt0 β).1 - 1 ≤ 47; omega) (fun i hi => by dsimp only at hi ⊢; exact hb.1.2 i (by omega)) p1 (fun a a1 a2 a3 a4 => by rw [p2 a a1 a3, qup_ne _ _ _ a1, qup_ne _ _ _ a4]) (by rw [p2 16 (by decide) (by decide), qup_ne _ _ _ (by decide), qup_eq, upd_at, if_pos rfl]) (fun i => by rw [n1, qup_eq, upd_at]) (fun i hi => by dsimp only at hi ⊢; rw [qup_ne _ _ _ (by decide)]; exact hM.1.2 i (by omega)) (fun i hi => by rw [qup_ne _ _ _ (by decide)]) (fun a a1 a2 => qup_ne _ _ _ a2)⟩
theorem sim_type1 {σc σm : qM} (h : RR σc σm) {b : Nat} (hb256 : b < 256) : Sim (fX4_type_29 (qup σc 16 14 1) 1 (nI b)) (fX5_type_39 σm 1 (nI b) 59 (σm 6 1)) := by
  obtain ⟨β, hb, hC, hU, hM, hS⟩ := h
  have ht := hC.2.1
  have hL := hb.2.1.1
  have e4 : (qup σc 16 14 1) 4 4 = nI (bt1 β).1 := by rw [qup_ne _ _ _ (by decide)]; exact ht.1
  have m6 : σm 6 1 = nI (bt1 β).1 := hM.2.1.1
  unfold fX4_type_29 fX4_textOf
  rw [if_neg (by decide)]
  simp only [Option.bind_some]
  rw [if_pos (show q_kd sC 4 = 3 from rfl), bind_id]
  unfold fX3_append
  rw [e4, m6]
  unfold fX5_type_39
  by_cases hfull : (bt1 β).1 = 59
  · rw [hfull, if_neg (show ¬ nI 59 < Int32.ofNat (lnC (4 + 1)) by decide), if_pos (show nI 59 = (59 : Int32) from rfl)]
    refine ⟨_, _, _, rfl, rfl, β, hb, hC.fr (frU.up _ _ _ (by omega)), Or.inl (by rw [qup_eq, upd_at, if_pos rfl]), hM, hS.c (by rw [qup_ne _ _ _ (by decide)]) (fun a ha => qup_ne _ _ _ (by omega)) rfl rfl rfl rfl⟩
  · have hlt : (bt1 β).1 < 59 := by omega
    rw [if_pos (show nI (bt1 β).1 < Int32.ofNat (lnC (4 + 1)) from nI_lt (b := 59) hlt (by decide)), if_pos (show qin (nI (bt1 β).1) (lnC (4 + 1)) from qin_of hlt (by decide)), if_neg (show ¬ nI (bt1 β).1 = (59 : Int32) from fun q => hfull ((nI_eq (b := 59) (by omega) (by decide)).mp q)), if_pos (show qin (1 : Int32) 2 by decide)]
    rw [show (1 : Int32).toNatClampNeg = 1 from rfl, m6, show (60 : Int32) * 1 + nI (bt1 β).1 = nI (60 + (bt1 β).1) from by rw [show (60 : Int32) * 1 = nI 60 from by decide, nI_add], if_pos (qin_of (by omega) (by decide)), nI_clamp (by omega), nI_clamp (by omega)]
    unfold fX3_append_25 fX3_append_35 fX5_type_62 fX5_type_72
    rw [if_pos (show qin (1 : Int32) 2 by decide), if_pos (show qin (1 : Int32) 2 by decide), if_pos (show qin (1 : Int32) 2 by decide), show (1 : Int32).toNatClampNeg = 1 from rfl]
    have n1 : nI (bt1 β).1 + 1 = nI ((bt1 β).1 + 1) := nI_1 _
    obtain ⟨σ', p0, p1, p2⟩ := parseC1 (σ := qup (qup (qup σc 16 14 1) (4 + 1) (bt1 β).1 (nI b)) 4 4 ((qup (qup σc 16 14 1) (4 + 1) (bt1 β).1 (nI b)) 4 4 + 1)) (x := ((bt1 β).1 + 1, fun i => if i = (bt1 β).1 then b else (bt1 β).2 i)) (by show (bt1 β).1 + 1 ≤ 59; omega) (fun i hi => by dsimp only at hi ⊢; split; exact hb256; exact hb.2.1.2 i (by omega))
      (by rw [qup_eq, upd_at, if_pos rfl, qup_ne _ _ _ (by decide), e4, n1])
      (by rw [qup_eq, upd_at, if_neg (by decide), qup_ne _ _ _ (by decide), qup_ne _ _ _ (by decide)]; exact ht.2.1)
      (by rw [qup_eq, upd_at, if_neg (by decide), qup_ne _ _ _ (by decide), qup_ne _ _ _ (by decide)]; exact ht.2.2.1)
      (fun i hi => by
        dsimp only at hi ⊢
        rw [qup_ne _ _ _ (by decide), qup_eq, upd_at]
        by_cases e : i = (bt1 β).1
        · rw [if_pos e, if_pos e]
        · rw [if_neg e, if_neg e, qup_ne _ _ _ (by decide)]; exact ht.2.2.2.1 i (by omega))
    rw [p0]
    refine ⟨nI ((bt1 β).1 + 1), _, _, congrArg some (Prod.ext p1.1 rfl), congrArg some (Prod.ext ?_ rfl), newtx1 hb hC hM hS (x := ((bt1 β).1 + 1, fun i => if i = (bt1 β).1 then b else (bt1 β).2 i)) (by show (bt1 β).1 + 1 ≤ 59; omega) (fun i hi => by dsimp only at hi ⊢; split; exact hb256; exact hb.2.1.2 i (by omega)) p1 (fun a a1 a2 a3 a4 => by rw [p2 a a1 a3, qup_ne _ _ _ a1, qup_ne _ _ _ a2, qup_ne _ _ _ a4]) (by rw [p2 16 (by decide) (by decide), qup_ne _ _ _ (by decide), qup_ne _ _ _ (by decide), qup_eq, upd_at, if_pos rfl]) (fun i => ?_) (fun i hi => ?_) (fun i hi => ?_) (fun a a1 a2 => ?_)⟩
    · dsimp only; rw [qup_eq, upd_at, if_pos rfl, qup_ne _ _ _ (by decide), m6, n1]
    · rw [qup_eq, upd_at, qup_ne _ _ _ (by decide), m6, n1]
    · dsimp only at hi ⊢
      rw [qup_ne _ _ _ (by decide), qup_eq, upd_at]
      by_cases e : i = (bt1 β).1
      · rw [if_pos (by omega), if_pos e]
      · rw [if_neg (by omega), if_neg e]; exact hM.2.1.2 i (by omega)
    · rw [qup_ne _ _ _ (by decide), qup_eq, upd_at, if_neg (by omega)]
    · rw [qup_ne _ _ _ a2, qup_ne _ _ _ a1]
theorem sim_wipe1 {σc σm : qM} (h : RR σc σm) : Sim (fX4_wipe_19 (qup σc 16 14 1) 1) (some (σm 6 1, qup σm 6 1 0)) := by
  obtain ⟨β, hb, hC, hU, hM, hS⟩ := h
  have ht := hC.2.1
  unfold fX4_wipe_19 fX4_textOf
  rw [if_neg (by decide)]
  simp only [Option.bind_some]
  rw [if_pos (show q_kd sC 4 = 3 from rfl), bind_id]
  unfold fX3_empty fX3_empty_10
  have e4 : (qup σc 16 14 1) 4 4 = σm 6 1 := by rw [qup_ne _ _ _ (by decide), ht.1]; exact hM.2.1.1.symm
  obtain ⟨σ', p0, p1, p2⟩ := parseC1 (σ := qup (qup σc 16 14 1) 4 4 0) (x := (0, (bt1 β).2)) (by show 0 ≤ 59; omega) (fun i hi => by dsimp only at hi; omega)
    (by rw [qup_eq, upd_at, if_pos rfl]; rfl)
    (by rw [qup_eq, upd_at, if_neg (by decide), qup_ne _ _ _ (by decide)]; exact ht.2.1)
    (by rw [qup_eq, upd_at, if_neg (by decide), qup_ne _ _ _ (by decide)]; exact ht.2.2.1)
    (fun i hi => by dsimp only at hi; omega)
  rw [p0, e4]
  refine ⟨_, _, _, rfl, rfl, newtx1 hb hC hM hS (x := (0, (bt1 β).2)) (by show 0 ≤ 59; omega) (fun i hi => by dsimp only at hi; omega) p1 (fun a a1 a2 a3 a4 => by rw [p2 a a1 a3, qup_ne _ _ _ a1, qup_ne _ _ _ a4]) (by rw [p2 16 (by decide) (by decide), qup_ne _ _ _ (by decide), qup_eq, upd_at, if_pos rfl]) (fun i => by rw [qup_eq, upd_at]; rfl) (fun i hi => by dsimp only at hi; omega) (fun i hi => by rw [qup_ne _ _ _ (by decide)]) (fun a a1 a2 => qup_ne _ _ _ a2)⟩
theorem sim_undo1 {σc σm : qM} (h : RR σc σm) : Sim (fX4_undo_19 (qup σc 16 14 1) 1) (if σm 6 1 = 0 then some (-3, σm) else (fX5_undo_32 (qup σm 6 1 (σm 6 1 - 1)) 1)) := by
  obtain ⟨β, hb, hC, hU, hM, hS⟩ := h
  have ht := hC.2.1
  have hL := hb.2.1.1
  unfold fX4_undo_19 fX4_textOf
  rw [if_neg (by decide)]
  simp only [Option.bind_some]
  rw [if_pos (show q_kd sC 4 = 3 from rfl), bind_id]
  unfold fX3_dropLast fX3_dropLast_20 fX5_undo_32
  have e4 : (qup σc 16 14 1) 4 4 = nI (bt1 β).1 := by rw [qup_ne _ _ _ (by decide)]; exact ht.1
  have m6 : σm 6 1 = nI (bt1 β).1 := hM.2.1.1
  rw [e4, m6]
  by_cases hz : (bt1 β).1 = 0
  · rw [hz, if_pos (show nI 0 = 0 from rfl), if_pos (show nI 0 = 0 from rfl)]
    exact ⟨_, _, _, rfl, rfl, β, hb, hC.fr (frU.up _ _ _ (by omega)), Or.inl (by rw [qup_eq, upd_at, if_pos rfl]), hM, hS.c (by rw [qup_ne _ _ _ (by decide)]) (fun a ha => qup_ne _ _ _ (by omega)) rfl rfl rfl rfl⟩
  · rw [if_neg (show ¬ nI (bt1 β).1 = 0 from fun q => hz ((nI_eq (b := 0) (by omega) (by decide)).mp q)), if_neg (show ¬ nI (bt1 β).1 = 0 from fun q => hz ((nI_eq (b := 0) (by omega) (by decide)).mp q)), if_pos (show qin (1 : Int32) 2 by decide), show (1 : Int32).toNatClampNeg = 1 from rfl]
    have n1 : nI (bt1 β).1 - 1 = nI ((bt1 β).1 - 1) := pk_sub (b := 1) (by omega)
    obtain ⟨σ', p0, p1, p2⟩ := parseC1 (σ := qup (qup σc 16 14 1) 4 4 (nI (bt1 β).1 - 1)) (x := ((bt1 β).1 - 1, (bt1 β).2)) (by show (bt1 β).1 - 1 ≤ 59; omega) (fun i hi => by dsimp only at hi ⊢; exact hb.2.1.2 i (by omega))
      (by rw [qup_eq, upd_at, if_pos rfl, n1])
      (by rw [qup_eq, upd_at, if_neg (by decide), qup_ne _ _ _ (by decide)]; exact ht.2.1)
      (by rw [qup_eq, upd_at, if_neg (by decide), qup_ne _ _ _ (by decide)]; exact ht.2.2.1)
      (fun i hi => by dsimp only at hi ⊢; rw [qup_ne _ _ _ (by decide), qup_ne _ _ _ (by decide)]; exact ht.2.2.2.1 i (by omega))
    rw [p0]
    refine ⟨nI ((bt1 β).1 - 1), _, _, congrArg some (Prod.ext p1.1 rfl), congrArg some (Prod.ext (by dsimp only; rw [qup_eq, upd_at, if_pos rfl, n1]) rfl), newtx1 hb hC hM hS (x := ((bt1 β).1 - 1, (bt1 β).2)) (by show (bt1 β).1 - 1 ≤ 59; omega) (fun i hi => by dsimp only at hi ⊢; exact hb.2.1.2 i (by omega)) p1 (fun a a1 a2 a3 a4 => by rw [p2 a a1 a3, qup_ne _ _ _ a1, qup_ne _ _ _ a4]) (by rw [p2 16 (by decide) (by decide), qup_ne _ _ _ (by decide), qup_eq, upd_at, if_pos rfl]) (fun i => by rw [n1, qup_eq, upd_at]) (fun i hi => by dsimp only at hi ⊢; rw [qup_ne _ _ _ (by decide)]; exact hM.2.1.2 i (by omega)) (fun i hi => by rw [qup_ne _ _ _ (by decide)]) (fun a a1 a2 => qup_ne _ _ _ a2)⟩
theorem bl2 {x : Int32} (h : bl x 2) : x = 0 ∨ x = 1 := by
  obtain ⟨j, hj, rfl⟩ := bl_of h (by decide)
  rcases (show j = 0 ∨ j = 1 by omega) with rfl | rfl
  · exact Or.inl rfl
  · exact Or.inr rfl
theorem sim_type {σc σm : qM} (h : RR σc σm) (x1 x2 : Int32) : Sim (fX4_type σc x1 x2) (fX5_type σm x1 x2) := by
  unfold fX4_type fX5_type
  refine sim_test (t1 := fun σ => fX4_below σ x1 2) (t2 := fun σ => fX5_isTwo σ x1) (t_below x1 2 (by decide)) (t_two x1) h (fun h1 => ?_)
  refine sim_test (t1 := fun σ => fX4_below σ x2 256) (t2 := fun σ => fX5_in σ x2.toInt64 0 255) (t_below x2 256 (by decide)) (t_in x2 256 (by decide) rfl) h (fun h2 => ?_)
  obtain ⟨b, hb, rfl⟩ := bl_of h2 (by decide)
  dsimp only
  rcases bl2 h1 with rfl | rfl
  · rw [if_pos (show qin (0 : Int32) 2 by decide), if_pos rfl]; exact sim_type0 h hb
  · rw [if_pos (show qin (1 : Int32) 2 by decide), if_neg (by decide)]; exact sim_type1 h hb
theorem sim_wipe {σc σm : qM} (h : RR σc σm) (x1 : Int32) : Sim (fX4_wipe σc x1) (fX5_wipe σm x1) := by
  unfold fX4_wipe fX5_wipe
  refine sim_test (t1 := fun σ => fX4_below σ x1 2) (t2 := fun σ => fX5_isTwo σ x1) (t_below x1 2 (by decide)) (t_two x1) h (fun h1 => ?_)
  dsimp only
  rcases bl2 h1 with rfl | rfl
  · rw [if_pos (show qin (0 : Int32) 2 by decide), if_pos (show qin (0 : Int32) 2 by decide)]; exact sim_wipe0 h
  · rw [if_pos (show qin (1 : Int32) 2 by decide), if_pos (show qin (1 : Int32) 2 by decide)]; exact sim_wipe1 h
theorem sim_undo {σc σm : qM} (h : RR σc σm) (x1 : Int32) : Sim (fX4_undo σc x1) (fX5_undo σm x1) := by
  unfold fX4_undo fX5_undo
  refine sim_test (t1 := fun σ => fX4_below σ x1 2) (t2 := fun σ => fX5_isTwo σ x1) (t_below x1 2 (by decide)) (t_two x1) h (fun h1 => ?_)
  dsimp only
  rcases bl2 h1 with rfl | rfl
  · rw [if_pos (show qin (0 : Int32) 2 by decide), if_pos (show qin (0 : Int32) 2 by decide), if_pos (show qin (0 : Int32) 2 by decide)]; exact sim_undo0 h
  · rw [if_pos (show qin (1 : Int32) 2 by decide), if_pos (show qin (1 : Int32) 2 by decide), if_pos (show qin (1 : Int32) 2 by decide)]; exact sim_undo1 h

/-! ===== PURE: cracks, deeds, what was read, FIRST and STEP ===== -/
theorem cuA.fr {σ σ' : qM} {V : qV} (h : cuA σ V) (g : ∀ a, 16 ≤ a → a ≤ 40 → σ' a = σ a) : cuA σ' V := by
  obtain ⟨h1, h2, h3⟩ := h
  refine ⟨fun a s ha hs => by rw [g (36 + a) (by omega) (by omega)]; exact h1 a s ha hs, fun m hm => by rw [g 40 (by omega) (by omega)]; exact h2 m hm, fun t ht => ?_⟩
  obtain ⟨L, P, F⟩ := h3 t ht
  refine ⟨?_, ?_, by rw [g 29 (by omega) (by omega)]; exact F⟩
  · unfold cuL; rw [g (18 + t) (by omega) (by omega), g (23 + t) (by omega) (by omega), g 27 (by omega) (by omega)]; exact L
  · unfold cuP; rw [g (31 + t) (by omega) (by omega), g 28 (by omega) (by omega)]; exact P
theorem cupV.fr {σ σ' : qM} {V : qV} (h : cupV σ V) (g : ∀ a, 16 ≤ a → a ≤ 42 → σ' a = σ a) : cupV σ' V := by
  obtain ⟨h1, h2, h3⟩ := h
  refine ⟨by rw [g 16 (by omega) (by omega)]; exact h1, h2.fr (fun a a1 a2 => g a a1 (by omega)), ?_⟩
  rw [g 16 (by omega) (by omega)]
  unfold cuR
  rw [g 41 (by omega) (by omega)]
  exact h3
theorem cupQ.fr {σ σ' : qM} {V : qV} (h : σ 16 14 = 1 ∨ cupV σ V) (g : ∀ a, 16 ≤ a → a ≤ 42 → σ' a = σ a) : σ' 16 14 = 1 ∨ cupV σ' V := by
  rcases h with h | h
  · exact Or.inl (by rw [g 16 (by omega) (by omega)]; exact h)
  · exact Or.inr (h.fr g)
def addp (x : Nat × (Nat → Nat → Nat)) (a b : Nat) : Nat × (Nat → Nat → Nat) := (x.1 + 1, fun i j => if i = x.1 then (if j = 0 then a else b) else x.2 i j)
theorem appC {σ : qM} {x : Nat × (Nat → Nat → Nat)} (h : prC σ 7 x) (hx : x.1 ≤ 8) (a b : Nat) : fX1_append σ 7 (nI a) (nI b) = if x.1 = 8 then some (-4, σ) else some (nI (x.1 + 1), qup (qup (qup σ (7 + 1) x.1 (nI a)) (7 + 2) x.1 (nI b)) 7 2 (nI (x.1 + 1))) := by
  unfold fX1_append fX1_append_25 fX1_append_35 fX1_append_45
  rw [h.1]
  by_cases e : x.1 = 8
  · rw [e, if_pos rfl, if_neg (show ¬ nI 8 < Int32.ofNat (lnC (7 + 1)) by decide)]
  · have hlt : x.1 < 8 := by omega
    have e2 : (qup σ (7 + 1) x.1 (nI a)) 7 2 = nI x.1 := by rw [qup_ne _ _ _ (by decide), h.1]
    rw [if_neg e, if_pos (show nI x.1 < Int32.ofNat (lnC (7 + 1)) from nI_lt (b := 8) hlt (by decide)), if_pos (show qin (nI x.1) (lnC (7 + 1)) from qin_of hlt (by decide)), nI_clamp (by omega), e2, if_pos (show qin (nI x.1) (lnC (7 + 2)) from qin_of hlt (by decide)), nI_clamp (by omega)]
    have e3 : (qup (qup σ (7 + 1) x.1 (nI a)) (7 + 2) x.1 (nI b)) 7 2 = nI x.1 := by rw [qup_ne _ _ _ (by decide), e2]
    rw [e3, show nI x.1 + 1 = nI (x.1 + 1) from nI_1 _, qup_eq, upd_at, if_pos rfl]
theorem prAppC {σ : qM} {x : Nat × (Nat → Nat → Nat)} (h : prC σ 7 x) (a b : Nat) : prC (qup (qup (qup σ (7 + 1) x.1 (nI a)) (7 + 2) x.1 (nI b)) 7 2 (nI (x.1 + 1))) 7 (addp x a b) := by
  refine ⟨by rw [qup_eq, upd_at, if_pos rfl]; rfl, fun i hi => ?_⟩
  have hi2 : i < x.1 + 1 := hi
  unfold addp
  dsimp only
  rw [qup_ne (a := 7 + 1) _ _ _ (by decide), qup_ne (a := 7 + 1) _ _ _ (by decide), qup_eq, qup_ne (a := 7 + 2) _ _ _ (by decide), qup_eq, upd_at, upd_at]
  by_cases e : i = x.1
  · rw [if_pos e, if_pos e, if_pos e, if_pos rfl, if_pos e, if_neg (by decide)]; exact ⟨rfl, rfl⟩
  · rw [if_neg e, if_neg e, if_neg e, if_neg e, qup_ne (a := 7 + 2) _ _ _ (by decide)]
    exact h.2 i (by omega)
theorem newC {σc σm σc' σm' : qM} {β : qB} (hb : bt_ok β) (hC : AC σc β) (hM : AM σm β) (hS : SH σc σm) {x : Nat × (Nat → Nat → Nat)} (hx : x.1 ≤ 8 ∧ ∀ i, i < x.1 → x.2 i 0 < 6 ∧ x.2 i 1 < 6) (hp : prC σc' 7 x) (hf : ∀ a, ¬ a = 7 → ¬ a = 7 + 1 → ¬ a = 7 + 2 → ¬ a = 16 → σc' a = σc a) (hu : σc' 16 14 = 1 ∨ cupV σc' (vw (β.1, β.2.1, x, β.2.2.2))) (m0 : σm' 0 12 = nI x.1) (m1 : ∀ i, i < x.1 → σm' 9 (2 * i) = nI (x.2 i 0) ∧ σm' 9 (2 * i + 1) = nI (x.2 i 1)) (mo : ∀ k, ¬ k = 12 → σm' 0 k = σm 0 k) (mf : ∀ a, ¬ a = 0 → ¬ a = 9 → σm' a = σm a) : RR σc' σm' := by
  refine ⟨(β.1, β.2.1, x, β.2.2.2), ⟨hb.1, hb.2.1, hx, hb.2.2.2⟩, ?_, hu, ?_, hS.c (by rw [hf 0 (by decide) (by decide) (by decide) (by decide)]) (fun a ha => hf a (by omega) (by omega) (by omega) (by omega)) (mo 4 (by decide)) (mf 1 (by decide) (by decide)) (mf 2 (by decide) (by decide)) (mf 3 (by decide) (by decide))⟩
  · exact ⟨hC.1.fr (hf 1 (by decide) (by decide) (by decide) (by decide)) (hf 2 (by decide) (by decide) (by decide) (by decide)) (hf 3 (by decide) (by decide) (by decide) (by decide)), hC.2.1.fr (hf 4 (by decide) (by decide) (by decide) (by decide)) (hf 5 (by decide) (by decide) (by decide) (by decide)) (hf 6 (by decide) (by decide) (by decide) (by decide)), hp, hC.2.2.2.1.fr (hf 10 (by decide) (by decide) (by decide) (by decide)) (hf 11 (by decide) (by decide) (by decide) (by decide)) (hf 12 (by decide) (by decide) (by decide) (by decide)), hC.2.2.2.2.1.fr (hf 13 (by decide) (by decide) (by decide) (by decide)) (hf 14 (by decide) (by decide) (by decide) (by decide)) (hf 15 (by decide) (by decide) (by decide) (by decide)), by rw [hf 0 (by decide) (by decide) (by decide) (by decide)]; exact hC.2.2.2.2.2.1, by rw [hf 0 (by decide) (by decide) (by decide) (by decide)]; exact hC.2.2.2.2.2.2⟩
  · exact ⟨⟨by rw [mf 6 (by decide) (by decide)]; exact hM.1.1, fun i hi => by rw [mf 5 (by decide) (by decide)]; exact hM.1.2 i hi⟩, ⟨by rw [mf 6 (by decide) (by decide)]; exact hM.2.1.1, fun i hi => by rw [mf 5 (by decide) (by decide)]; exact hM.2.1.2 i hi⟩, ⟨m0, m1⟩, ⟨by rw [mo 14 (by decide)]; exact hM.2.2.2.1.1, fun i hi => by rw [mf 10 (by decide) (by decide)]; exact hM.2.2.2.1.2 i hi⟩, ⟨by rw [mo 24 (by decide)]; exact hM.2.2.2.2.1.1, fun i hi => by rw [mf 15 (by decide) (by decide)]; exact hM.2.2.2.2.1.2 i hi⟩, by rw [mf 11 (by decide) (by decide)]; exact hM.2.2.2.2.2.1, by rw [mo 22 (by decide)]; exact hM.2.2.2.2.2.2.1, by rw [mo 23 (by decide)]; exact hM.2.2.2.2.2.2.2⟩
theorem sim_appC {σc σm : qM} {σc0 : qM} {β : qB} (hb : bt_ok β) (hC : AC σc β) (hM : AM σm β) (hS : SH σc σm) (hu : σc0 16 14 = 1 ∨ cupV σc0 (vw β)) (h0 : ∀ a, ¬ a = 16 → σc0 a = σc a) (h16 : σc0 16 14 = 1) {a b : Nat} (ha : a < 6) (hb2 : b < 6) : Sim (fX1_append σc0 7 (nI a) (nI b)) (if σm 0 12 = 8 then some (-4, σm) else (if qin (2 * (σm 0 12)) 16 then fX5_crack_51 (qup σm 9 (2 * (σm 0 12)).toNatClampNeg (nI a)) (nI b) else none)) := by
  have hp : prC σc0 7 (btc β) := hC.2.2.1.fr (h0 7 (by decide)) (h0 (7 + 1) (by decide)) (h0 (7 + 2) (by decide))
  have hx := hb.2.2.1
  have hm0 : σm 0 12 = nI (btc β).1 := hM.2.2.1.1
  rw [appC hp hx.1, hm0]
  by_cases e : (btc β).1 = 8
  · rw [if_pos e, if_pos (by rw [e]; rfl)]
    exact ⟨_, _, _, rfl, rfl, β, hb, ⟨hC.1.fr (h0 1 (by decide)) (h0 2 (by decide)) (h0 3 (by decide)), hC.2.1.fr (h0 4 (by decide)) (h0 5 (by decide)) (h0 6 (by decide)), hC.2.2.1.fr (h0 7 (by decide)) (h0 8 (by decide)) (h0 9 (by decide)), hC.2.2.2.1.fr (h0 10 (by decide)) (h0 11 (by decide)) (h0 12 (by decide)), hC.2.2.2.2.1.fr (h0 13 (by decide)) (h0 14 (by decide)) (h0 15 (by decide)), by rw [h0 0 (by decide)]; exact hC.2.2.2.2.2.1, by rw [h0 0 (by decide)]; exact hC.2.2.2.2.2.2⟩, hu, hM, hS.c (by rw [h0 0 (by decide)]) (fun a ha => h0 a (by omega)) rfl rfl rfl rfl⟩
  · have hlt : (btc β).1 < 8 := by omega
    rw [if_neg e, if_neg (show ¬ nI (btc β).1 = (8 : Int32) from fun q => e ((nI_eq (b := 8) (by omega) (by decide)).mp q))]
    have n2 : (2 : Int32) * nI (btc β).1 = nI (2 * (btc β).1) := pk_mul 2 _
    have n3 : nI (2 * (btc β).1) + 1 = nI (2 * (btc β).1 + 1) := nI_1 _
    have e1 : (qup σm 9 (2 * (btc β).1) (nI a)) 0 12 = nI (btc β).1 := by rw [qup_ne _ _ _ (by decide), hm0]
    have e2 : (qup (qup σm 9 (2 * (btc β).1) (nI a)) 9 (2 * (btc β).1 + 1) (nI b)) 0 12 = nI (btc β).1 := by rw [qup_ne _ _ _ (by decide), e1]
    unfold fX5_crack_51 fX5_crack_65 fX5_crack_75
    rw [n2, if_pos (qin_of (by omega) (by decide)), nI_clamp (by omega), e1, n2, n3, if_pos (qin_of (by omega) (by decide)), nI_clamp (by omega), e2, show nI (btc β).1 + 1 = nI ((btc β).1 + 1) from nI_1 _]
    refine ⟨nI ((btc β).1 + 1), _, _, rfl, congrArg some (Prod.ext (by dsimp only; rw [qup_eq, upd_at, if_pos rfl]) rfl), newC hb hC hM hS (x := addp (btc β) a b) ⟨by show (btc β).1 + 1 ≤ 8; omega, fun i hi => ?_⟩ (prAppC hp a b) (fun c c1 c2 c3 c4 => by rw [qup_ne _ _ _ c1, qup_ne _ _ _ c3, qup_ne _ _ _ c2, h0 c c4]) (Or.inl (by rw [qup_ne _ _ _ (by decide), qup_ne _ _ _ (by decide), qup_ne _ _ _ (by decide)]; exact h16)) (by rw [qup_eq, upd_at, if_pos rfl]; rfl) (fun i hi => ?_) (fun k hk => by rw [qup_eq, upd_at, if_neg hk, qup_ne _ _ _ (by decide), qup_ne _ _ _ (by decide)]) (fun c c1 c2 => by rw [qup_ne _ _ _ c1, qup_ne _ _ _ c2, qup_ne _ _ _ c2])⟩
    · have hi2 : i < (btc β).1 + 1 := hi
      unfold addp
      dsimp only
      by_cases e5 : i = (btc β).1
      · rw [if_pos e5, if_pos rfl, if_pos e5, if_neg (by decide)]; exact ⟨ha, hb2⟩
      · rw [if_neg e5, if_neg e5]; exact hx.2 i (by omega)
    · have hi2 : i < (btc β).1 + 1 := hi
      unfold addp
      dsimp only
      rw [qup_ne _ _ _ (by decide), qup_eq, upd_at, upd_at, qup_eq, upd_at, upd_at]
      by_cases e5 : i = (btc β).1
      · subst e5
        rw [if_neg (by omega), if_pos rfl, if_pos rfl, if_pos rfl, if_pos rfl, if_pos rfl, if_neg (by decide)]; exact ⟨rfl, rfl⟩
      · rw [if_neg (show ¬ 2 * i = 2 * (btc β).1 + 1 by omega), if_neg (show ¬ 2 * i = 2 * (btc β).1 by omega), if_neg (show ¬ 2 * i + 1 = 2 * (btc β).1 + 1 by omega), if_neg (show ¬ 2 * i + 1 = 2 * (btc β).1 by omega), if_neg e5, if_neg e5]
        exact hM.2.2.1.2 i (by omega)
theorem appD {σ : qM} {x : Nat × (Nat → Nat → Nat)} (h : prC σ 10 x) (hx : x.1 ≤ 12) (a b : Nat) : fX1_append σ 10 (nI a) (nI b) = if x.1 = 12 then some (-4, σ) else some (nI (x.1 + 1), qup (qup (qup σ (10 + 1) x.1 (nI a)) (10 + 2) x.1 (nI b)) 10 2 (nI (x.1 + 1))) := by
  unfold fX1_append fX1_append_25 fX1_append_35 fX1_append_45
  rw [h.1]
  by_cases e : x.1 = 12
  · rw [e, if_pos rfl, if_neg (show ¬ nI 12 < Int32.ofNat (lnC (10 + 1)) by decide)]
  · have hlt : x.1 < 12 := by omega
    have e2 : (qup σ (10 + 1) x.1 (nI a)) 10 2 = nI x.1 := by rw [qup_ne _ _ _ (by decide), h.1]
    rw [if_neg e, if_pos (show nI x.1 < Int32.ofNat (lnC (10 + 1)) from nI_lt (b := 12) hlt (by decide)), if_pos (show qin (nI x.1) (lnC (10 + 1)) from qin_of hlt (by decide)), nI_clamp (by omega), e2, if_pos (show qin (nI x.1) (lnC (10 + 2)) from qin_of hlt (by decide)), nI_clamp (by omega)]
    have e3 : (qup (qup σ (10 + 1) x.1 (nI a)) (10 + 2) x.1 (nI b)) 10 2 = nI x.1 := by rw [qup_ne _ _ _ (by decide), e2]
    rw [e3, show nI x.1 + 1 = nI (x.1 + 1) from nI_1 _, qup_eq, upd_at, if_pos rfl]
theorem prAppD {σ : qM} {x : Nat × (Nat → Nat → Nat)} (h : prC σ 10 x) (a b : Nat) : prC (qup (qup (qup σ (10 + 1) x.1 (nI a)) (10 + 2) x.1 (nI b)) 10 2 (nI (x.1 + 1))) 10 (addp x a b) := by
  refine ⟨by rw [qup_eq, upd_at, if_pos rfl]; rfl, fun i hi => ?_⟩
  have hi2 : i < x.1 + 1 := hi
  unfold addp
  dsimp only
  rw [qup_ne (a := 10 + 1) _ _ _ (by decide), qup_ne (a := 10 + 1) _ _ _ (by decide), qup_eq, qup_ne (a := 10 + 2) _ _ _ (by decide), qup_eq, upd_at, upd_at]
  by_cases e : i = x.1
  · rw [if_pos e, if_pos e, if_pos e, if_pos rfl, if_pos e, if_neg (by decide)]; exact ⟨rfl, rfl⟩
  · rw [if_neg e, if_neg e, if_neg e, if_neg e, qup_ne (a := 10 + 2) _ _ _ (by decide)]
    exact h.2 i (by omega)
theorem newD {σc σm σc' σm' : qM} {β : qB} (hb : bt_ok β) (hC : AC σc β) (hM : AM σm β) (hS : SH σc σm) {x : Nat × (Nat → Nat → Nat)} (hx : x.1 ≤ 12 ∧ ∀ i, i < x.1 → x.2 i 0 < 28 ∧ x.2 i 1 < 8) (hp : prC σc' 10 x) (hf : ∀ a, ¬ a = 10 → ¬ a = 10 + 1 → ¬ a = 10 + 2 → ¬ a = 16 → σc' a = σc a) (hu : σc' 16 14 = 1 ∨ cupV σc' (vw (β.1, β.2.1, β.2.2.1, x, β.2.2.2.2))) (m0 : σm' 0 14 = nI x.1) (m1 : ∀ i, i < x.1 → σm' 10 (2 * i) = nI (x.2 i 0) ∧ σm' 10 (2 * i + 1) = nI (x.2 i 1)) (mo : ∀ k, ¬ k = 14 → σm' 0 k = σm 0 k) (mf : ∀ a, ¬ a = 0 → ¬ a = 10 → σm' a = σm a) : RR σc' σm' := by
  refine ⟨(β.1, β.2.1, β.2.2.1, x, β.2.2.2.2), ⟨hb.1, hb.2.1, hb.2.2.1, hx, hb.2.2.2.2⟩, ?_, hu, ?_, hS.c (by rw [hf 0 (by decide) (by decide) (by decide) (by decide)]) (fun a ha => hf a (by omega) (by omega) (by omega) (by omega)) (mo 4 (by decide)) (mf 1 (by decide) (by decide)) (mf 2 (by decide) (by decide)) (mf 3 (by decide) (by decide))⟩
  · exact ⟨hC.1.fr (hf 1 (by decide) (by decide) (by decide) (by decide)) (hf 2 (by decide) (by decide) (by decide) (by decide)) (hf 3 (by decide) (by decide) (by decide) (by decide)), hC.2.1.fr (hf 4 (by decide) (by decide) (by decide) (by decide)) (hf 5 (by decide) (by decide) (by decide) (by decide)) (hf 6 (by decide) (by decide) (by decide) (by decide)), hC.2.2.1.fr (hf 7 (by decide) (by decide) (by decide) (by decide)) (hf 8 (by decide) (by decide) (by decide) (by decide)) (hf 9 (by decide) (by decide) (by decide) (by decide)), hp, hC.2.2.2.2.1.fr (hf 13 (by decide) (by decide) (by decide) (by decide)) (hf 14 (by decide) (by decide) (by decide) (by decide)) (hf 15 (by decide) (by decide) (by decide) (by decide)), by rw [hf 0 (by decide) (by decide) (by decide) (by decide)]; exact hC.2.2.2.2.2.1, by rw [hf 0 (by decide) (by decide) (by decide) (by decide)]; exact hC.2.2.2.2.2.2⟩
  · exact ⟨⟨by rw [mf 6 (by decide) (by decide)]; exact hM.1.1, fun i hi => by rw [mf 5 (by decide) (by decide)]; exact hM.1.2 i hi⟩, ⟨by rw [mf 6 (by decide) (by decide)]; exact hM.2.1.1, fun i hi => by rw [mf 5 (by decide) (by decide)]; exact hM.2.1.2 i hi⟩, ⟨by rw [mo 12 (by decide)]; exact hM.2.2.1.1, fun i hi => by rw [mf 9 (by decide) (by decide)]; exact hM.2.2.1.2 i hi⟩, ⟨m0, m1⟩, ⟨by rw [mo 24 (by decide)]; exact hM.2.2.2.2.1.1, fun i hi => by rw [mf 15 (by decide) (by decide)]; exact hM.2.2.2.2.1.2 i hi⟩, by rw [mf 11 (by decide) (by decide)]; exact hM.2.2.2.2.2.1, by rw [mo 22 (by decide)]; exact hM.2.2.2.2.2.2.1, by rw [mo 23 (by decide)]; exact hM.2.2.2.2.2.2.2⟩
theorem sim_appD {σc σm : qM} {σc0 : qM} {β : qB} (hb : bt_ok β) (hC : AC σc β) (hM : AM σm β) (hS : SH σc σm) (hu : σc0 16 14 = 1 ∨ cupV σc0 (vw β)) (h0 : ∀ a, ¬ a = 16 → σc0 a = σc a) {a b : Nat} (ha : a < 28) (hb2 : b < 8) : Sim (fX1_append σc0 10 (nI a) (nI b)) (if σm 0 14 = 12 then some (-4, σm) else (if qin (2 * (σm 0 14)) 24 then fX5_deed_41 (qup σm 10 (2 * (σm 0 14)).toNatClampNeg (nI a)) (nI b) else none)) := by
  have hp : prC σc0 10 (btd β) := hC.2.2.2.1.fr (h0 10 (by decide)) (h0 (10 + 1) (by decide)) (h0 (10 + 2) (by decide))
  have hx := hb.2.2.2.1
  have hm0 : σm 0 14 = nI (btd β).1 := hM.2.2.2.1.1
  rw [appD hp hx.1, hm0]
  by_cases e : (btd β).1 = 12
  · rw [if_pos e, if_pos (by rw [e]; rfl)]
    exact ⟨_, _, _, rfl, rfl, β, hb, ⟨hC.1.fr (h0 1 (by decide)) (h0 2 (by decide)) (h0 3 (by decide)), hC.2.1.fr (h0 4 (by decide)) (h0 5 (by decide)) (h0 6 (by decide)), hC.2.2.1.fr (h0 7 (by decide)) (h0 8 (by decide)) (h0 9 (by decide)), hC.2.2.2.1.fr (h0 10 (by decide)) (h0 11 (by decide)) (h0 12 (by decide)), hC.2.2.2.2.1.fr (h0 13 (by decide)) (h0 14 (by decide)) (h0 15 (by decide)), by rw [h0 0 (by decide)]; exact hC.2.2.2.2.2.1, by rw [h0 0 (by decide)]; exact hC.2.2.2.2.2.2⟩, hu, hM, hS.c (by rw [h0 0 (by decide)]) (fun a ha => h0 a (by omega)) rfl rfl rfl rfl⟩
  · have hlt : (btd β).1 < 12 := by omega
    rw [if_neg e, if_neg (show ¬ nI (btd β).1 = (12 : Int32) from fun q => e ((nI_eq (b := 12) (by omega) (by decide)).mp q))]
    have n2 : (2 : Int32) * nI (btd β).1 = nI (2 * (btd β).1) := pk_mul 2 _
    have n3 : nI (2 * (btd β).1) + 1 = nI (2 * (btd β).1 + 1) := nI_1 _
    have e1 : (qup σm 10 (2 * (btd β).1) (nI a)) 0 14 = nI (btd β).1 := by rw [qup_ne _ _ _ (by decide), hm0]
    have e2 : (qup (qup σm 10 (2 * (btd β).1) (nI a)) 10 (2 * (btd β).1 + 1) (nI b)) 0 14 = nI (btd β).1 := by rw [qup_ne _ _ _ (by decide), e1]
    unfold fX5_deed_41 fX5_deed_55 fX5_deed_65
    rw [n2, if_pos (qin_of (by omega) (by decide)), nI_clamp (by omega), e1, n2, n3, if_pos (qin_of (by omega) (by decide)), nI_clamp (by omega), e2, show nI (btd β).1 + 1 = nI ((btd β).1 + 1) from nI_1 _]
    refine ⟨nI ((btd β).1 + 1), _, _, rfl, congrArg some (Prod.ext (by dsimp only; rw [qup_eq, upd_at, if_pos rfl]) rfl), newD hb hC hM hS (x := addp (btd β) a b) ⟨by show (btd β).1 + 1 ≤ 12; omega, fun i hi => ?_⟩ (prAppD hp a b) (fun c c1 c2 c3 c4 => by rw [qup_ne _ _ _ c1, qup_ne _ _ _ c3, qup_ne _ _ _ c2, h0 c c4]) (cupQ.fr (V := vw β) hu (fun c c1 c2 => by rw [qup_ne _ _ _ (by omega), qup_ne _ _ _ (by omega), qup_ne _ _ _ (by omega)])) (by rw [qup_eq, upd_at, if_pos rfl]; rfl) (fun i hi => ?_) (fun k hk => by rw [qup_eq, upd_at, if_neg hk, qup_ne _ _ _ (by decide), qup_ne _ _ _ (by decide)]) (fun c c1 c2 => by rw [qup_ne _ _ _ c1, qup_ne _ _ _ c2, qup_ne _ _ _ c2])⟩
    · have hi2 : i < (btd β).1 + 1 := hi
      unfold addp
      dsimp only
      by_cases e5 : i = (btd β).1
      · rw [if_pos e5, if_pos rfl, if_pos e5, if_neg (by decide)]; exact ⟨ha, hb2⟩
      · rw [if_neg e5, if_neg e5]; exact hx.2 i (by omega)
    · have hi2 : i < (btd β).1 + 1 := hi
      unfold addp
      dsimp only
      rw [qup_ne _ _ _ (by decide), qup_eq, upd_at, upd_at, qup_eq, upd_at, upd_at]
      by_cases e5 : i = (btd β).1
      · subst e5
        rw [if_neg (by omega), if_pos rfl, if_pos rfl, if_pos rfl, if_pos rfl, if_pos rfl, if_neg (by decide)]; exact ⟨rfl, rfl⟩
      · rw [if_neg (show ¬ 2 * i = 2 * (btd β).1 + 1 by omega), if_neg (show ¬ 2 * i = 2 * (btd β).1 by omega), if_neg (show ¬ 2 * i + 1 = 2 * (btd β).1 + 1 by omega), if_neg (show ¬ 2 * i + 1 = 2 * (btd β).1 by omega), if_neg e5, if_neg e5]
        exact hM.2.2.2.1.2 i (by omega)
theorem appS {σ : qM} {x : Nat × (Nat → Nat → Nat)} (h : prC σ 13 x) (hx : x.1 ≤ 8) (a b : Nat) : fX1_append σ 13 (nI a) (nI b) = if x.1 = 8 then some (-4, σ) else some (nI (x.1 + 1), qup (qup (qup σ (13 + 1) x.1 (nI a)) (13 + 2) x.1 (nI b)) 13 2 (nI (x.1 + 1))) := by
  unfold fX1_append fX1_append_25 fX1_append_35 fX1_append_45
  rw [h.1]
  by_cases e : x.1 = 8
  · rw [e, if_pos rfl, if_neg (show ¬ nI 8 < Int32.ofNat (lnC (13 + 1)) by decide)]
  · have hlt : x.1 < 8 := by omega
    have e2 : (qup σ (13 + 1) x.1 (nI a)) 13 2 = nI x.1 := by rw [qup_ne _ _ _ (by decide), h.1]
    rw [if_neg e, if_pos (show nI x.1 < Int32.ofNat (lnC (13 + 1)) from nI_lt (b := 8) hlt (by decide)), if_pos (show qin (nI x.1) (lnC (13 + 1)) from qin_of hlt (by decide)), nI_clamp (by omega), e2, if_pos (show qin (nI x.1) (lnC (13 + 2)) from qin_of hlt (by decide)), nI_clamp (by omega)]
    have e3 : (qup (qup σ (13 + 1) x.1 (nI a)) (13 + 2) x.1 (nI b)) 13 2 = nI x.1 := by rw [qup_ne _ _ _ (by decide), e2]
    rw [e3, show nI x.1 + 1 = nI (x.1 + 1) from nI_1 _, qup_eq, upd_at, if_pos rfl]
theorem prAppS {σ : qM} {x : Nat × (Nat → Nat → Nat)} (h : prC σ 13 x) (a b : Nat) : prC (qup (qup (qup σ (13 + 1) x.1 (nI a)) (13 + 2) x.1 (nI b)) 13 2 (nI (x.1 + 1))) 13 (addp x a b) := by
  refine ⟨by rw [qup_eq, upd_at, if_pos rfl]; rfl, fun i hi => ?_⟩
  have hi2 : i < x.1 + 1 := hi
  unfold addp
  dsimp only
  rw [qup_ne (a := 13 + 1) _ _ _ (by decide), qup_ne (a := 13 + 1) _ _ _ (by decide), qup_eq, qup_ne (a := 13 + 2) _ _ _ (by decide), qup_eq, upd_at, upd_at]
  by_cases e : i = x.1
  · rw [if_pos e, if_pos e, if_pos e, if_pos rfl, if_pos e, if_neg (by decide)]; exact ⟨rfl, rfl⟩
  · rw [if_neg e, if_neg e, if_neg e, if_neg e, qup_ne (a := 13 + 2) _ _ _ (by decide)]
    exact h.2 i (by omega)
theorem newS {σc σm σc' σm' : qM} {β : qB} (hb : bt_ok β) (hC : AC σc β) (hM : AM σm β) (hS : SH σc σm) {x : Nat × (Nat → Nat → Nat)} (hx : x.1 ≤ 8 ∧ ∀ i, i < x.1 → x.2 i 0 < 4 ∧ x.2 i 1 < 256) (hp : prC σc' 13 x) (hf : ∀ a, ¬ a = 13 → ¬ a = 13 + 1 → ¬ a = 13 + 2 → ¬ a = 16 → σc' a = σc a) (hu : σc' 16 14 = 1 ∨ cupV σc' (vw (β.1, β.2.1, β.2.2.1, β.2.2.2.1, x, β.2.2.2.2.2))) (m0 : σm' 0 24 = nI x.1) (m1 : ∀ i, i < x.1 → σm' 15 (2 * i) = nI (x.2 i 0) ∧ σm' 15 (2 * i + 1) = nI (x.2 i 1)) (mo : ∀ k, ¬ k = 24 → σm' 0 k = σm 0 k) (mf : ∀ a, ¬ a = 0 → ¬ a = 15 → σm' a = σm a) : RR σc' σm' := by
  refine ⟨(β.1, β.2.1, β.2.2.1, β.2.2.2.1, x, β.2.2.2.2.2), ⟨hb.1, hb.2.1, hb.2.2.1, hb.2.2.2.1, hx, hb.2.2.2.2.2⟩, ?_, hu, ?_, hS.c (by rw [hf 0 (by decide) (by decide) (by decide) (by decide)]) (fun a ha => hf a (by omega) (by omega) (by omega) (by omega)) (mo 4 (by decide)) (mf 1 (by decide) (by decide)) (mf 2 (by decide) (by decide)) (mf 3 (by decide) (by decide))⟩
  · exact ⟨hC.1.fr (hf 1 (by decide) (by decide) (by decide) (by decide)) (hf 2 (by decide) (by decide) (by decide) (by decide)) (hf 3 (by decide) (by decide) (by decide) (by decide)), hC.2.1.fr (hf 4 (by decide) (by decide) (by decide) (by decide)) (hf 5 (by decide) (by decide) (by decide) (by decide)) (hf 6 (by decide) (by decide) (by decide) (by decide)), hC.2.2.1.fr (hf 7 (by decide) (by decide) (by decide) (by decide)) (hf 8 (by decide) (by decide) (by decide) (by decide)) (hf 9 (by decide) (by decide) (by decide) (by decide)), hC.2.2.2.1.fr (hf 10 (by decide) (by decide) (by decide) (by decide)) (hf 11 (by decide) (by decide) (by decide) (by decide)) (hf 12 (by decide) (by decide) (by decide) (by decide)), hp, by rw [hf 0 (by decide) (by decide) (by decide) (by decide)]; exact hC.2.2.2.2.2.1, by rw [hf 0 (by decide) (by decide) (by decide) (by decide)]; exact hC.2.2.2.2.2.2⟩
  · exact ⟨⟨by rw [mf 6 (by decide) (by decide)]; exact hM.1.1, fun i hi => by rw [mf 5 (by decide) (by decide)]; exact hM.1.2 i hi⟩, ⟨by rw [mf 6 (by decide) (by decide)]; exact hM.2.1.1, fun i hi => by rw [mf 5 (by decide) (by decide)]; exact hM.2.1.2 i hi⟩, ⟨by rw [mo 12 (by decide)]; exact hM.2.2.1.1, fun i hi => by rw [mf 9 (by decide) (by decide)]; exact hM.2.2.1.2 i hi⟩, ⟨by rw [mo 14 (by decide)]; exact hM.2.2.2.1.1, fun i hi => by rw [mf 10 (by decide) (by decide)]; exact hM.2.2.2.1.2 i hi⟩, ⟨m0, m1⟩, by rw [mf 11 (by decide) (by decide)]; exact hM.2.2.2.2.2.1, by rw [mo 22 (by decide)]; exact hM.2.2.2.2.2.2.1, by rw [mo 23 (by decide)]; exact hM.2.2.2.2.2.2.2⟩
theorem sim_appS {σc σm : qM} {σc0 : qM} {β : qB} (hb : bt_ok β) (hC : AC σc β) (hM : AM σm β) (hS : SH σc σm) (hu : σc0 16 14 = 1 ∨ cupV σc0 (vw β)) (h0 : ∀ a, ¬ a = 16 → σc0 a = σc a) {a b : Nat} (ha : a < 4) (hb2 : b < 256) : Sim (fX1_append σc0 13 (nI a) (nI b)) (if σm 0 24 = 8 then some (-4, σm) else (if qin (2 * (σm 0 24)) 16 then fX5_read_41 (qup σm 15 (2 * (σm 0 24)).toNatClampNeg (nI a)) (nI b) else none)) := by
  have hp : prC σc0 13 (bts β) := hC.2.2.2.2.1.fr (h0 13 (by decide)) (h0 (13 + 1) (by decide)) (h0 (13 + 2) (by decide))
  have hx := hb.2.2.2.2.1
  have hm0 : σm 0 24 = nI (bts β).1 := hM.2.2.2.2.1.1
  rw [appS hp hx.1, hm0]
  by_cases e : (bts β).1 = 8
  · rw [if_pos e, if_pos (by rw [e]; rfl)]
    exact ⟨_, _, _, rfl, rfl, β, hb, ⟨hC.1.fr (h0 1 (by decide)) (h0 2 (by decide)) (h0 3 (by decide)), hC.2.1.fr (h0 4 (by decide)) (h0 5 (by decide)) (h0 6 (by decide)), hC.2.2.1.fr (h0 7 (by decide)) (h0 8 (by decide)) (h0 9 (by decide)), hC.2.2.2.1.fr (h0 10 (by decide)) (h0 11 (by decide)) (h0 12 (by decide)), hC.2.2.2.2.1.fr (h0 13 (by decide)) (h0 14 (by decide)) (h0 15 (by decide)), by rw [h0 0 (by decide)]; exact hC.2.2.2.2.2.1, by rw [h0 0 (by decide)]; exact hC.2.2.2.2.2.2⟩, hu, hM, hS.c (by rw [h0 0 (by decide)]) (fun a ha => h0 a (by omega)) rfl rfl rfl rfl⟩
  · have hlt : (bts β).1 < 8 := by omega
    rw [if_neg e, if_neg (show ¬ nI (bts β).1 = (8 : Int32) from fun q => e ((nI_eq (b := 8) (by omega) (by decide)).mp q))]
    have n2 : (2 : Int32) * nI (bts β).1 = nI (2 * (bts β).1) := pk_mul 2 _
    have n3 : nI (2 * (bts β).1) + 1 = nI (2 * (bts β).1 + 1) := nI_1 _
    have e1 : (qup σm 15 (2 * (bts β).1) (nI a)) 0 24 = nI (bts β).1 := by rw [qup_ne _ _ _ (by decide), hm0]
    have e2 : (qup (qup σm 15 (2 * (bts β).1) (nI a)) 15 (2 * (bts β).1 + 1) (nI b)) 0 24 = nI (bts β).1 := by rw [qup_ne _ _ _ (by decide), e1]
    unfold fX5_read_41 fX5_read_55 fX5_read_65
    rw [n2, if_pos (qin_of (by omega) (by decide)), nI_clamp (by omega), e1, n2, n3, if_pos (qin_of (by omega) (by decide)), nI_clamp (by omega), e2, show nI (bts β).1 + 1 = nI ((bts β).1 + 1) from nI_1 _]
    refine ⟨nI ((bts β).1 + 1), _, _, rfl, congrArg some (Prod.ext (by dsimp only; rw [qup_eq, upd_at, if_pos rfl]) rfl), newS hb hC hM hS (x := addp (bts β) a b) ⟨by show (bts β).1 + 1 ≤ 8; omega, fun i hi => ?_⟩ (prAppS hp a b) (fun c c1 c2 c3 c4 => by rw [qup_ne _ _ _ c1, qup_ne _ _ _ c3, qup_ne _ _ _ c2, h0 c c4]) (cupQ.fr (V := vw β) hu (fun c c1 c2 => by rw [qup_ne _ _ _ (by omega), qup_ne _ _ _ (by omega), qup_ne _ _ _ (by omega)])) (by rw [qup_eq, upd_at, if_pos rfl]; rfl) (fun i hi => ?_) (fun k hk => by rw [qup_eq, upd_at, if_neg hk, qup_ne _ _ _ (by decide), qup_ne _ _ _ (by decide)]) (fun c c1 c2 => by rw [qup_ne _ _ _ c1, qup_ne _ _ _ c2, qup_ne _ _ _ c2])⟩
    · have hi2 : i < (bts β).1 + 1 := hi
      unfold addp
      dsimp only
      by_cases e5 : i = (bts β).1
      · rw [if_pos e5, if_pos rfl, if_pos e5, if_neg (by decide)]; exact ⟨ha, hb2⟩
      · rw [if_neg e5, if_neg e5]; exact hx.2 i (by omega)
    · have hi2 : i < (bts β).1 + 1 := hi
      unfold addp
      dsimp only
      rw [qup_ne _ _ _ (by decide), qup_eq, upd_at, upd_at, qup_eq, upd_at, upd_at]
      by_cases e5 : i = (bts β).1
      · subst e5
        rw [if_neg (by omega), if_pos rfl, if_pos rfl, if_pos rfl, if_pos rfl, if_pos rfl, if_neg (by decide)]; exact ⟨rfl, rfl⟩
      · rw [if_neg (show ¬ 2 * i = 2 * (bts β).1 + 1 by omega), if_neg (show ¬ 2 * i = 2 * (bts β).1 by omega), if_neg (show ¬ 2 * i + 1 = 2 * (bts β).1 + 1 by omega), if_neg (show ¬ 2 * i + 1 = 2 * (bts β).1 by omega), if_neg e5, if_neg e5]
        exact hM.2.2.2.2.1.2 i (by omega)
theorem sim_crack {σc σm : qM} (h : RR σc σm) (x1 x2 : Int32) : Sim (fX4_crack σc x1 x2) (fX5_crack σm x1 x2) := by
  unfold fX4_crack fX5_crack
  refine sim_test (t1 := fun σ => fX4_below σ x1 6) (t2 := fun σ => fX5_in σ x1.toInt64 0 5) (t_below x1 6 (by decide)) (t_in x1 6 (by decide) rfl) h (fun h1 => ?_)
  refine sim_test (t1 := fun σ => fX4_below σ x2 6) (t2 := fun σ => fX5_in σ x2.toInt64 0 5) (t_below x2 6 (by decide)) (t_in x2 6 (by decide) rfl) h (fun h2 => ?_)
  obtain ⟨a, ha, rfl⟩ := bl_of h1 (by decide)
  obtain ⟨b, hb2, rfl⟩ := bl_of h2 (by decide)
  dsimp only
  unfold fX4_crack_29
  rw [bind_id]
  obtain ⟨β, hb, hC, hU, hM, hS⟩ := h
  exact sim_appC hb hC hM hS (Or.inl (by rw [qup_eq, upd_at, if_pos rfl])) (fun a ha => qup_ne _ _ _ ha) (by rw [qup_eq, upd_at, if_pos rfl]) ha hb2
theorem sim_deed {σc σm : qM} (h : RR σc σm) (x1 x2 : Int32) : Sim (fX4_deed σc x1 x2) (fX5_deed σm x1 x2) := by
  unfold fX4_deed fX5_deed
  refine sim_test (t1 := fun σ => fX4_below σ x1 28) (t2 := fun σ => fX5_isDay σ x1) (t_below x1 28 (by decide)) (t_day x1) h (fun h1 => ?_)
  refine sim_test (t1 := fun σ => fX4_below σ x2 8) (t2 := fun σ => fX5_isLaw σ x2) (t_below x2 8 (by decide)) (t_law x2) h (fun h2 => ?_)
  obtain ⟨a, ha, rfl⟩ := bl_of h1 (by decide)
  obtain ⟨b, hb2, rfl⟩ := bl_of h2 (by decide)
  dsimp only
  rw [bind_id]
  obtain ⟨β, hb, hC, hU, hM, hS⟩ := h
  exact sim_appD hb hC hM hS hU (fun a ha => rfl) ha hb2
theorem sim_read {σc σm : qM} (h : RR σc σm) (x1 x2 : Int32) : Sim (fX4_read σc x1 x2) (fX5_read σm x1 x2) := by
  unfold fX4_read fX5_read
  refine sim_test (t1 := fun σ => fX4_below σ x1 4) (t2 := fun σ => fX5_areTurns σ x1) (t_below x1 4 (by decide)) (t_turns x1) h (fun h1 => ?_)
  refine sim_test (t1 := fun σ => fX4_areLaws σ x2) (t2 := fun σ => fX5_areLaws σ x2) (t_lawsC x2) (t_laws x2) h (fun h2 => ?_)
  obtain ⟨a, ha, rfl⟩ := bl_of h1 (by decide)
  obtain ⟨b, hb2, rfl⟩ := bl_of h2 (by decide)
  dsimp only
  rw [bind_id]
  obtain ⟨β, hb, hC, hU, hM, hS⟩ := h
  exact sim_appS hb hC hM hS hU (fun a ha => rfl) ha hb2
theorem sim_forget {σc σm : qM} (h : RR σc σm) : Sim (fX4_forget σc) (fX5_forget σm) := by
  obtain ⟨β, hb, hC, hU, hM, hS⟩ := h
  unfold fX4_forget fX5_forget fX1_empty
  have e : σc 13 2 = σm 0 24 := hC.2.2.2.2.1.1.trans hM.2.2.2.2.1.1.symm
  rw [bind_id, e]
  exact ⟨_, _, _, rfl, rfl, newS hb hC hM hS (x := (0, (bts β).2)) ⟨by show 0 ≤ 8; omega, fun i hi => by dsimp only at hi; omega⟩ ⟨by rw [qup_eq, upd_at, if_pos rfl]; rfl, fun i hi => by dsimp only at hi; omega⟩ (fun a a1 _ _ _ => qup_ne _ _ _ a1) (cupQ.fr (V := vw β) hU (fun a a1 a2 => qup_ne _ _ _ (by omega))) (by rw [qup_eq, upd_at, if_pos rfl]; rfl) (fun i hi => by dsimp only at hi; omega) (fun k hk => by rw [qup_eq, upd_at, if_neg hk]) (fun a a1 _ => qup_ne _ _ _ a1)⟩
theorem sim_back {σc σm : qM} (h : RR σc σm) (x1 : Int32) : Sim (fX4_back σc x1) (fX5_back σm x1) := by
  unfold fX4_back fX5_back
  refine sim_test (t1 := fun σ => fX4_below σ x1 2) (t2 := fun σ => fX5_isTwo σ x1) (t_below x1 2 (by decide)) (t_two x1) h (fun h1 => ?_)
  obtain ⟨β, hb, hC, hU, hM, hS⟩ := h
  dsimp only
  rcases bl2 h1 with rfl | rfl
  · rw [if_neg (by decide), if_pos rfl]
    unfold fX4_back_32 fX1_dropLast fX1_dropLast_20 fX5_back_25
    have hp : prC (qup σc 16 14 1) 7 (btc β) := hC.2.2.1.fr (qup_ne _ _ _ (by decide)) (qup_ne _ _ _ (by decide)) (qup_ne _ _ _ (by decide))
    have hm := hM.2.2.1.1
    have hL := hb.2.2.1.1
    rw [bind_id, hp.1, hm]
    by_cases hz : (btc β).1 = 0
    · rw [hz, if_pos (show nI 0 = 0 from rfl), if_pos (show nI 0 = 0 from rfl)]
      exact ⟨_, _, _, rfl, rfl, β, hb, hC.fr (frU.up _ _ _ (by omega)), Or.inl (by rw [qup_eq, upd_at, if_pos rfl]), hM, hS.c (by rw [qup_ne _ _ _ (by decide)]) (fun a ha => qup_ne _ _ _ (by omega)) rfl rfl rfl rfl⟩
    · rw [if_neg (show ¬ nI (btc β).1 = 0 from fun q => hz ((nI_eq (b := 0) (by omega) (by decide)).mp q)), if_neg (show ¬ nI (btc β).1 = 0 from fun q => hz ((nI_eq (b := 0) (by omega) (by decide)).mp q)), if_pos rfl]
      unfold fX5_back_47 fX5_back_51
      have n1 : nI (btc β).1 - 1 = nI ((btc β).1 - 1) := pk_sub (b := 1) (by omega)
      rw [n1]
      refine ⟨nI ((btc β).1 - 1), _, _, congrArg some (Prod.ext (by dsimp only; rw [qup_eq, upd_at, if_pos rfl]) rfl), rfl, newC hb hC hM hS (x := ((btc β).1 - 1, (btc β).2)) ⟨by show (btc β).1 - 1 ≤ 8; omega, fun i hi => hb.2.2.1.2 i (by dsimp only at hi; omega)⟩ ⟨by rw [qup_eq, upd_at, if_pos rfl], fun i hi => by rw [qup_ne _ _ _ (by decide), qup_ne _ _ _ (by decide)]; exact hp.2 i (by dsimp only at hi; omega)⟩ (fun a a1 _ _ a4 => by rw [qup_ne _ _ _ a1, qup_ne _ _ _ a4]) (Or.inl (by rw [qup_ne _ _ _ (by decide), qup_eq, upd_at, if_pos rfl])) (by rw [qup_eq, upd_at, if_neg (by decide), qup_eq, upd_at, if_pos rfl]) (fun i hi => by rw [qup_ne _ _ _ (by decide), qup_ne _ _ _ (by decide)]; exact hM.2.2.1.2 i (by dsimp only at hi; omega)) (fun k hk => ?_) (fun a a1 _ => by rw [qup_ne _ _ _ a1, qup_ne _ _ _ a1])⟩
      rw [qup_eq, upd_at]
      by_cases e : k = 14
      · subst e; rw [if_pos rfl, qup_eq, upd_at, if_neg (by decide), Int32.sub_zero]
      · rw [if_neg e, qup_eq, upd_at, if_neg hk]
  · rw [if_pos rfl, if_neg (by decide)]
    unfold fX1_dropLast fX1_dropLast_20 fX5_back_25
    have hp := hC.2.2.2.1
    have hm := hM.2.2.2.1.1
    have hL := hb.2.2.2.1.1
    rw [bind_id, hp.1, hm]
    by_cases hz : (btd β).1 = 0
    · rw [hz, if_pos (show nI 0 = 0 from rfl), if_pos (show nI 0 = 0 from rfl)]
      exact ⟨_, _, _, rfl, rfl, β, hb, hC, hU, hM, hS⟩
    · rw [if_neg (show ¬ nI (btd β).1 = 0 from fun q => hz ((nI_eq (b := 0) (by omega) (by decide)).mp q)), if_neg (show ¬ nI (btd β).1 = 0 from fun q => hz ((nI_eq (b := 0) (by omega) (by decide)).mp q)), if_neg (by decide)]
      unfold fX5_back_47 fX5_back_51
      have n1 : nI (btd β).1 - 1 = nI ((btd β).1 - 1) := pk_sub (b := 1) (by omega)
      have e14 : (qup σm 0 12 (σm 0 12 - 0)) 0 14 = nI (btd β).1 := by rw [qup_eq, upd_at, if_neg (by decide), hm]
      rw [e14, n1]
      refine ⟨nI ((btd β).1 - 1), _, _, congrArg some (Prod.ext (by dsimp only; rw [qup_eq, upd_at, if_pos rfl]) rfl), rfl, newD hb hC hM hS (x := ((btd β).1 - 1, (btd β).2)) ⟨by show (btd β).1 - 1 ≤ 12; omega, fun i hi => hb.2.2.2.1.2 i (by dsimp only at hi; omega)⟩ ⟨by rw [qup_eq, upd_at, if_pos rfl], fun i hi => by rw [qup_ne _ _ _ (by decide), qup_ne _ _ _ (by decide)]; exact hp.2 i (by dsimp only at hi; omega)⟩ (fun a a1 _ _ _ => qup_ne _ _ _ a1) (cupQ.fr (V := vw β) hU (fun a a1 a2 => qup_ne _ _ _ (by omega))) (by rw [qup_eq, upd_at, if_pos rfl]) (fun i hi => by rw [qup_ne _ _ _ (by decide), qup_ne _ _ _ (by decide)]; exact hM.2.2.2.1.2 i (by dsimp only at hi; omega)) (fun k hk => ?_) (fun a a1 _ => by rw [qup_ne _ _ _ a1, qup_ne _ _ _ a1])⟩
      rw [qup_eq, upd_at, if_neg hk, qup_eq, upd_at]
      by_cases e : k = 12
      · subst e; rw [if_pos rfl, Int32.sub_zero]
      · rw [if_neg e]
theorem sim_set {σc σm : qM} (h : RR σc σm) (x1 x2 : Int32) : Sim (fX4_set σc x1 x2) (fX5_set σm x1 x2) := by
  unfold fX4_set fX5_set
  refine sim_test (t1 := fun σ => fX4_below σ x1 2) (t2 := fun σ => fX5_isTwo σ x1) (t_below x1 2 (by decide)) (t_two x1) h (fun h1 => ?_)
  refine sim_test (t1 := fun σ => fX4_below σ x2 4) (t2 := fun σ => fX5_in σ x2.toInt64 0 3) (t_below x2 4 (by decide)) (t_in x2 4 (by decide) rfl) h (fun h2 => ?_)
  obtain ⟨b, hb2, rfl⟩ := bl_of h2 (by decide)
  obtain ⟨β, hb, hC, hU, hM, hS⟩ := h
  dsimp only
  obtain ⟨c0, c1, c2, c3, c4, c5, c6⟩ := hC
  obtain ⟨m0, m1, m2, m3, m4, ⟨m5, m6⟩, m7⟩ := hM
  rcases bl2 h1 with rfl | rfl
  · rw [if_pos rfl, if_pos (show qin (0 : Int32) 2 by decide), if_pos (show qin (0 : Int32) 2 by decide)]
    unfold fX4_set_34
    rw [if_pos rfl, show (0 : Int32).toNatClampNeg = 0 from rfl, c5, m5]
    refine ⟨_, _, _, rfl, rfl, (β.1, β.2.1, β.2.2.1, β.2.2.2.1, β.2.2.2.2.1, (b, (btt β).2)), ⟨hb.1, hb.2.1, hb.2.2.1, hb.2.2.2.1, hb.2.2.2.2.1, hb2, hb.2.2.2.2.2.2⟩, ⟨c0.fr (qup_ne _ _ _ (by decide)) (qup_ne _ _ _ (by decide)) (qup_ne _ _ _ (by decide)), c1.fr (qup_ne _ _ _ (by decide)) (qup_ne _ _ _ (by decide)) (qup_ne _ _ _ (by decide)), c2.fr (qup_ne _ _ _ (by decide)) (qup_ne _ _ _ (by decide)) (qup_ne _ _ _ (by decide)), c3.fr (qup_ne _ _ _ (by decide)) (qup_ne _ _ _ (by decide)) (qup_ne _ _ _ (by decide)), c4.fr (qup_ne _ _ _ (by decide)) (qup_ne _ _ _ (by decide)) (qup_ne _ _ _ (by decide)), by rw [qup_eq, upd_at, if_pos rfl], by rw [qup_eq, upd_at, if_neg (by decide)]; exact c6⟩, cupQ.fr (V := vw β) hU (fun a a1 a2 => qup_ne _ _ _ (by omega)), ⟨by rw [qup_ne _ _ _ (by decide), qup_ne _ _ _ (by decide)]; exact m0, by rw [qup_ne _ _ _ (by decide), qup_ne _ _ _ (by decide)]; exact m1, by rw [qup_ne _ _ _ (by decide), qup_ne _ _ _ (by decide)]; exact m2, by rw [qup_ne _ _ _ (by decide), qup_ne _ _ _ (by decide)]; exact m3, by rw [qup_ne _ _ _ (by decide), qup_ne _ _ _ (by decide)]; exact m4, ⟨by rw [qup_eq, upd_at, if_pos rfl], by rw [qup_eq, upd_at, if_neg (by decide)]; exact m6⟩, by rw [qup_ne _ _ _ (by decide)]; exact m7⟩, hS.c (by rw [qup_eq, upd_at, if_neg (by decide)]) (fun a ha => qup_ne _ _ _ (by omega)) (by rw [qup_ne _ _ _ (by decide)]) (qup_ne _ _ _ (by decide)) (qup_ne _ _ _ (by decide)) (qup_ne _ _ _ (by decide))⟩
  · rw [if_neg (by decide), if_pos (show qin (1 : Int32) 2 by decide), if_pos (show qin (1 : Int32) 2 by decide)]
    unfold fX4_set_34
    rw [if_neg (by decide), show (1 : Int32).toNatClampNeg = 1 from rfl, c6, m6]
    refine ⟨_, _, _, rfl, rfl, (β.1, β.2.1, β.2.2.1, β.2.2.2.1, β.2.2.2.2.1, ((btt β).1, b)), ⟨hb.1, hb.2.1, hb.2.2.1, hb.2.2.2.1, hb.2.2.2.2.1, hb.2.2.2.2.2.1, hb2⟩, ⟨c0.fr (qup_ne _ _ _ (by decide)) (qup_ne _ _ _ (by decide)) (qup_ne _ _ _ (by decide)), c1.fr (qup_ne _ _ _ (by decide)) (qup_ne _ _ _ (by decide)) (qup_ne _ _ _ (by decide)), c2.fr (qup_ne _ _ _ (by decide)) (qup_ne _ _ _ (by decide)) (qup_ne _ _ _ (by decide)), c3.fr (qup_ne _ _ _ (by decide)) (qup_ne _ _ _ (by decide)) (qup_ne _ _ _ (by decide)), c4.fr (qup_ne _ _ _ (by decide)) (qup_ne _ _ _ (by decide)) (qup_ne _ _ _ (by decide)), by rw [qup_eq, upd_at, if_neg (by decide)]; exact c5, by rw [qup_eq, upd_at, if_pos rfl]⟩, cupQ.fr (V := vw β) hU (fun a a1 a2 => qup_ne _ _ _ (by omega)), ⟨by rw [qup_ne _ _ _ (by decide), qup_ne _ _ _ (by decide)]; exact m0, by rw [qup_ne _ _ _ (by decide), qup_ne _ _ _ (by decide)]; exact m1, by rw [qup_ne _ _ _ (by decide), qup_ne _ _ _ (by decide)]; exact m2, by rw [qup_ne _ _ _ (by decide), qup_ne _ _ _ (by decide)]; exact m3, by rw [qup_ne _ _ _ (by decide), qup_ne _ _ _ (by decide)]; exact m4, ⟨by rw [qup_eq, upd_at, if_neg (by decide)]; exact m5, by rw [qup_eq, upd_at, if_pos rfl]⟩, by rw [qup_ne _ _ _ (by decide)]; exact m7⟩, hS.c (by rw [qup_eq, upd_at, if_neg (by decide)]) (fun a ha => qup_ne _ _ _ (by omega)) (by rw [qup_ne _ _ _ (by decide)]) (qup_ne _ _ _ (by decide)) (qup_ne _ _ _ (by decide)) (qup_ne _ _ _ (by decide))⟩

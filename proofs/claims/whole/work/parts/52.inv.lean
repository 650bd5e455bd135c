/-! ===== PURE: the two courts beside each other ===== -/
/-- what both hold: texts 0, 1; cracks, deeds, what was read; FIRST and STEP -/
abbrev qB : Type := (Nat × (Nat → Nat)) × (Nat × (Nat → Nat)) × (Nat × (Nat → Nat → Nat)) × (Nat × (Nat → Nat → Nat)) × (Nat × (Nat → Nat → Nat)) × (Nat × Nat)
abbrev bt0 (β : qB) : Nat × (Nat → Nat) := β.1
abbrev bt1 (β : qB) : Nat × (Nat → Nat) := β.2.1
abbrev btc (β : qB) : Nat × (Nat → Nat → Nat) := β.2.2.1
abbrev btd (β : qB) : Nat × (Nat → Nat → Nat) := β.2.2.2.1
abbrev bts (β : qB) : Nat × (Nat → Nat → Nat) := β.2.2.2.2.1
abbrev btt (β : qB) : Nat × Nat := β.2.2.2.2.2
def tB (x : Nat × (Nat → Nat)) : Nat → Int32 := fun i => nI (x.2 i)
def bt_ok (β : qB) : Prop := ((bt0 β).1 ≤ 47 ∧ ∀ i, i < (bt0 β).1 → (bt0 β).2 i < 256) ∧ ((bt1 β).1 ≤ 59 ∧ ∀ i, i < (bt1 β).1 → (bt1 β).2 i < 256) ∧ ((btc β).1 ≤ 8 ∧ ∀ i, i < (btc β).1 → (btc β).2 i 0 < 6 ∧ (btc β).2 i 1 < 6) ∧ ((btd β).1 ≤ 12 ∧ ∀ i, i < (btd β).1 → (btd β).2 i 0 < 28 ∧ (btd β).2 i 1 < 8) ∧ ((bts β).1 ≤ 8 ∧ ∀ i, i < (bts β).1 → (bts β).2 i 0 < 4 ∧ (bts β).2 i 1 < 256) ∧ (btt β).1 < 4 ∧ (btt β).2 < 4
def vw (β : qB) : qV := (pN 0 (tB (bt0 β)) (bt0 β).1, fun l j => (tell 0 j (tB (bt0 β) (4 * l + j))).toNatClampNeg, pN 1 (tB (bt1 β)) (bt1 β).1, fun k j => (tell 1 j (tB (bt1 β) (6 * k + j))).toNatClampNeg, (btc β).1, (btc β).2)
/-- a text of the class: object o, width w -/
def txC (σ : qM) (o t w : Nat) (x : Nat × (Nat → Nat)) : Prop := σ o 4 = nI x.1 ∧ σ o 1 = nI w ∧ σ o 0 = (if t = 0 then 1 else 0) ∧ (∀ i, i < x.1 → σ (o + 1) i = nI (x.2 i)) ∧ σ o 5 = nI (pN t (tB x) x.1) ∧ σ o 6 = pF t (tB x) x.1 ∧ (pF t (tB x) x.1 = -1 → ∀ l j, l < pN t (tB x) x.1 → j < w → σ (o + 2) (l * w + j) = tell t j (tB x (l * (w + 1) + j)))
def prC (σ : qM) (o : Nat) (x : Nat × (Nat → Nat → Nat)) : Prop := σ o 2 = nI x.1 ∧ ∀ i, i < x.1 → σ (o + 1) i = nI (x.2 i 0) ∧ σ (o + 2) i = nI (x.2 i 1)
def cuR (σ : qM) (V : qV) (t : Nat) : Prop := ∀ m, m < 2 ^ v_n V → σ 41 m = nI (mk (ap V (ly V t) (m &&& sm V (ly V t))) (v_r V))
/-- the cup is settled -/
def cupV (σ : qM) (V : qV) : Prop := σ 16 14 = 0 ∧ cuA σ V ∧ (σ 16 12 = -1 ∨ ∃ t, t < 4 ∧ σ 16 12 = nI t ∧ cuR σ V t)
def AC (σ : qM) (β : qB) : Prop := txC σ 1 0 3 (bt0 β) ∧ txC σ 4 1 5 (bt1 β) ∧ prC σ 7 (btc β) ∧ prC σ 10 (btd β) ∧ prC σ 13 (bts β) ∧ σ 0 7 = nI (btt β).1 ∧ σ 0 8 = nI (btt β).2
def AM (σ : qM) (β : qB) : Prop := (σ 6 0 = nI (bt0 β).1 ∧ ∀ i, i < (bt0 β).1 → σ 5 (0 + i) = nI ((bt0 β).2 i)) ∧ (σ 6 1 = nI (bt1 β).1 ∧ ∀ i, i < (bt1 β).1 → σ 5 (60 + i) = nI ((bt1 β).2 i)) ∧ (σ 0 12 = nI (btc β).1 ∧ ∀ i, i < (btc β).1 → σ 9 (2 * i) = nI ((btc β).2 i 0) ∧ σ 9 (2 * i + 1) = nI ((btc β).2 i 1)) ∧ (σ 0 14 = nI (btd β).1 ∧ ∀ i, i < (btd β).1 → σ 10 (2 * i) = nI ((btd β).2 i 0) ∧ σ 10 (2 * i + 1) = nI ((btd β).2 i 1)) ∧ (σ 0 24 = nI (bts β).1 ∧ ∀ i, i < (bts β).1 → σ 15 (2 * i) = nI ((bts β).2 i 0) ∧ σ 15 (2 * i + 1) = nI ((bts β).2 i 1)) ∧ (σ 11 0 = nI (btt β).1 ∧ σ 11 1 = nI (btt β).2) ∧ σ 0 22 = 0 ∧ σ 0 23 = -1
/-- sheets, and the latest finding -/
def SH (σc σm : qM) : Prop := σc 0 9 = σm 0 4 ∧ ∀ s, s < 4 → σc (44 + 2 * s) 1 = σm 1 s ∧ (σm 1 s = -1 ∨ ∃ f, f < 3 ∧ σm 1 s = nI f ∧ ∃ z, z ≤ 60 ∧ σc (44 + 2 * s) 2 = nI z ∧ σm 2 s = nI z ∧ ∀ i, i < z → σc (45 + 2 * s) i = σm 3 (60 * s + i))
def RR (σc σm : qM) : Prop := ∃ β, bt_ok β ∧ AC σc β ∧ (σc 16 14 = 1 ∨ cupV σc (vw β)) ∧ AM σm β ∧ SH σc σm
def Sim {α : Type} (x y : Option (α × qM)) : Prop := ∃ r σc σm, x = some (r, σc) ∧ y = some (r, σm) ∧ RR σc σm
theorem vw_ok {β : qB} (h : bt_ok β) : v_ok (vw β) := by
  obtain ⟨⟨h0, h0b⟩, ⟨h1, h1b⟩, ⟨hc, hcb⟩, -⟩ := h
  have n0 : pN 0 (tB (bt0 β)) (bt0 β).1 ≤ 12 := by unfold pN; split; show (bt0 β).1 / 4 + 1 ≤ 12; omega; omega
  have n1 : pN 1 (tB (bt1 β)) (bt1 β).1 ≤ 10 := by unfold pN; split; show (bt1 β).1 / 6 + 1 ≤ 10; omega; omega
  have k0 : ∀ l j, l < pN 0 (tB (bt0 β)) (bt0 β).1 → j < 3 → ∃ q, q < tbd 0 j ∧ tell 0 j (tB (bt0 β) (4 * l + j)) = nI q := by
    intro l j hl hj
    by_cases hF : pF 0 (tB (bt0 β)) (bt0 β).1 = -1
    · obtain ⟨g1, g2⟩ := pF_ok (by omega) hF
      have hL : 0 < (bt0 β).1 := by
        rcases Nat.eq_zero_or_pos (bt0 β).1 with q | q
        · rw [q, pN_0] at hl; omega
        · exact q
      rw [pN_ok hF hL] at hl
      have hl' : l < (bt0 β).1 / 4 + 1 := hl
      have g2' : (bt0 β).1 % 4 = 3 ∨ (bt0 β).1 = 0 := g2
      have hi : 4 * l + j < (bt0 β).1 := by omega
      have := g1 _ hi
      unfold tval at this
      rw [if_neg (show ¬ (4 * l + j) % (twd 0 + 1) = twd 0 from by show ¬ (4 * l + j) % 4 = 3; omega), show (4 * l + j) % (twd 0 + 1) = j by show (4 * l + j) % 4 = j; omega] at this
      rcases tell_rng (t := 0) (k := j) (by decide) (by omega) (h0b _ hi) with q | q
      · exact absurd q this
      · exact q
    · rw [pN_bad hF] at hl; omega
  have k1 : ∀ l j, l < pN 1 (tB (bt1 β)) (bt1 β).1 → j < 5 → ∃ q, q < tbd 1 j ∧ tell 1 j (tB (bt1 β) (6 * l + j)) = nI q := by
    intro l j hl hj
    by_cases hF : pF 1 (tB (bt1 β)) (bt1 β).1 = -1
    · obtain ⟨g1, g2⟩ := pF_ok (by omega) hF
      have hL : 0 < (bt1 β).1 := by
        rcases Nat.eq_zero_or_pos (bt1 β).1 with q | q
        · rw [q, pN_0] at hl; omega
        · exact q
      rw [pN_ok hF hL] at hl
      have hl' : l < (bt1 β).1 / 6 + 1 := hl
      have g2' : (bt1 β).1 % 6 = 5 ∨ (bt1 β).1 = 0 := g2
      have hi : 6 * l + j < (bt1 β).1 := by omega
      have := g1 _ hi
      unfold tval at this
      rw [if_neg (show ¬ (6 * l + j) % (twd 1 + 1) = twd 1 from by show ¬ (6 * l + j) % 6 = 5; omega), show (6 * l + j) % (twd 1 + 1) = j by show (6 * l + j) % 6 = j; omega] at this
      rcases tell_rng (t := 1) (k := j) (by decide) (by omega) (h1b _ hi) with q | q
      · exact absurd q this
      · exact q
    · rw [pN_bad hF] at hl; omega
  have c0 : ∀ l j, l < pN 0 (tB (bt0 β)) (bt0 β).1 → j < 3 → (tell 0 j (tB (bt0 β) (4 * l + j))).toNatClampNeg < tbd 0 j := fun l j hl hj => by
    obtain ⟨q, h1, h2⟩ := k0 l j hl hj
    rw [h2, nI_clamp (by have := tbd_le 0 j; omega)]; exact h1
  have c1 : ∀ l j, l < pN 1 (tB (bt1 β)) (bt1 β).1 → j < 5 → (tell 1 j (tB (bt1 β) (6 * l + j))).toNatClampNeg < tbd 1 j := fun l j hl hj => by
    obtain ⟨q, h1, h2⟩ := k1 l j hl hj
    rw [h2, nI_clamp (by have := tbd_le 1 j; omega)]; exact h1
  exact ⟨n0, n1, hc, fun l hl => ⟨c0 l 0 hl (by decide), c0 l 1 hl (by decide), c0 l 2 hl (by decide)⟩, fun k hk => ⟨c1 k 0 hk (by decide), c1 k 1 hk (by decide), c1 k 2 hk (by decide), c1 k 3 hk (by decide), c1 k 4 hk (by decide)⟩, hcb⟩
/-- the things' numbers are what the bytes tell -/
theorem vw_0 {β : qB} (h : bt_ok β) {l j : Nat} (hl : l < v_n (vw β)) (hj : j < 3) : pF 0 (tB (bt0 β)) (bt0 β).1 = -1 ∧ tell 0 j (tB (bt0 β) (4 * l + j)) = nI (v_l (vw β) l j) := by
  have hl0 : l < pN 0 (tB (bt0 β)) (bt0 β).1 := hl
  have hF : pF 0 (tB (bt0 β)) (bt0 β).1 = -1 := by
    by_cases q : pF 0 (tB (bt0 β)) (bt0 β).1 = -1
    · exact q
    · rw [pN_bad q] at hl0; omega
  refine ⟨hF, ?_⟩
  obtain ⟨g1, g2⟩ := pF_ok (by have := h.1.1; omega) hF
  have hL : 0 < (bt0 β).1 := by
    rcases Nat.eq_zero_or_pos (bt0 β).1 with q | q
    · rw [q, pN_0] at hl0; omega
    · exact q
  rw [pN_ok hF hL] at hl0
  have hl' : l < (bt0 β).1 / 4 + 1 := hl0
  have g2' : (bt0 β).1 % 4 = 3 ∨ (bt0 β).1 = 0 := g2
  have hi : 4 * l + j < (bt0 β).1 := by omega
  have := g1 _ hi
  unfold tval at this
  rw [if_neg (show ¬ (4 * l + j) % (twd 0 + 1) = twd 0 from by show ¬ (4 * l + j) % 4 = 3; omega), show (4 * l + j) % (twd 0 + 1) = j by show (4 * l + j) % 4 = j; omega] at this
  rcases tell_rng (t := 0) (k := j) (by decide) (by omega) (h.1.2 _ hi) with q | ⟨q, q1, q2⟩
  · exact absurd q this
  · show tell 0 j (nI ((bt0 β).2 (4 * l + j))) = nI (tell 0 j (nI ((bt0 β).2 (4 * l + j)))).toNatClampNeg
    rw [q2, nI_clamp (by have := tbd_le 0 j; omega)]
theorem vw_1 {β : qB} (h : bt_ok β) {l j : Nat} (hl : l < v_r (vw β)) (hj : j < 5) : pF 1 (tB (bt1 β)) (bt1 β).1 = -1 ∧ tell 1 j (tB (bt1 β) (6 * l + j)) = nI (v_q (vw β) l j) := by
  have hl0 : l < pN 1 (tB (bt1 β)) (bt1 β).1 := hl
  have hF : pF 1 (tB (bt1 β)) (bt1 β).1 = -1 := by
    by_cases q : pF 1 (tB (bt1 β)) (bt1 β).1 = -1
    · exact q
    · rw [pN_bad q] at hl0; omega
  refine ⟨hF, ?_⟩
  obtain ⟨g1, g2⟩ := pF_ok (by have := h.2.1.1; omega) hF
  have hL : 0 < (bt1 β).1 := by
    rcases Nat.eq_zero_or_pos (bt1 β).1 with q | q
    · rw [q, pN_0] at hl0; omega
    · exact q
  rw [pN_ok hF hL] at hl0
  have hl' : l < (bt1 β).1 / 6 + 1 := hl0
  have g2' : (bt1 β).1 % 6 = 5 ∨ (bt1 β).1 = 0 := g2
  have hi : 6 * l + j < (bt1 β).1 := by omega
  have := g1 _ hi
  unfold tval at this
  rw [if_neg (show ¬ (6 * l + j) % (twd 1 + 1) = twd 1 from by show ¬ (6 * l + j) % 6 = 5; omega), show (6 * l + j) % (twd 1 + 1) = j by show (6 * l + j) % 6 = j; omega] at this
  rcases tell_rng (t := 1) (k := j) (by decide) (by omega) (h.2.1.2 _ hi) with q | ⟨q, q1, q2⟩
  · exact absurd q this
  · show tell 1 j (nI ((bt1 β).2 (6 * l + j))) = nI (tell 1 j (nI ((bt1 β).2 (6 * l + j)))).toNatClampNeg
    rw [q2, nI_clamp (by have := tbd_le 1 j; omega)]
theorem AC.rd {σ : qM} {β : qB} (hb : bt_ok β) (h : AC σ β) : rdc σ (vw β) := by
  obtain ⟨h0, h1, h2, -⟩ := h
  refine ⟨h0.2.2.2.2.1, h0.2.1, fun l j hl hj => ?_, h1.2.2.2.2.1, h1.2.1, fun k j hk hj => ?_, h2.1, h2.2⟩
  · obtain ⟨e1, e2⟩ := vw_0 hb hl hj
    rw [← e2, show 3 * l + j = l * 3 + j by omega, show 4 * l + j = l * (3 + 1) + j by omega]
    exact h0.2.2.2.2.2.2 e1 l j hl hj
  · obtain ⟨e1, e2⟩ := vw_1 hb hk hj
    rw [← e2, show 5 * k + j = k * 5 + j by omega, show 6 * k + j = k * (5 + 1) + j by omega]
    exact h1.2.2.2.2.2.2 e1 k j hk hj
theorem AC.fr {σ σ' : qM} {β : qB} (h : AC σ β) (g : frU σ σ') : AC σ' β := by
  unfold AC txC prC
  rw [g 0 (by omega), g 1 (by omega), g (1 + 1) (by omega), g (1 + 2) (by omega), g 4 (by omega), g (4 + 1) (by omega), g (4 + 2) (by omega), g 7 (by omega), g (7 + 1) (by omega), g (7 + 2) (by omega), g 10 (by omega), g (10 + 1) (by omega), g (10 + 2) (by omega), g 13 (by omega), g (13 + 1) (by omega), g (13 + 2) (by omega)]
  exact h
/-- what the reference's questions leave as it was -/
def frM (σ σ' : qM) : Prop := (∀ a, ¬ a = 0 → ¬ a = 4 → ¬ a = 7 → ¬ a = 8 → ¬ a = 12 → ¬ a = 13 → ¬ a = 14 → σ' a = σ a) ∧ (∀ k, ¬ k = 7 → ¬ k = 8 → ¬ k = 10 → ¬ k = 20 → ¬ k = 21 → σ' 0 k = σ 0 k)
theorem frM.rf (σ : qM) : frM σ σ := ⟨fun _ _ _ _ _ _ _ _ => rfl, fun _ _ _ _ _ _ => rfl⟩
theorem frM.tr {σ σ' σ'' : qM} (h : frM σ σ') (g : frM σ' σ'') : frM σ σ'' := ⟨fun a a1 a2 a3 a4 a5 a6 a7 => by rw [g.1 a a1 a2 a3 a4 a5 a6 a7, h.1 a a1 a2 a3 a4 a5 a6 a7], fun k k1 k2 k3 k4 k5 => by rw [g.2 k k1 k2 k3 k4 k5, h.2 k k1 k2 k3 k4 k5]⟩
theorem frP.M {V : qV} {σ σ' : qM} (h : frP V σ σ') : frM σ σ' := ⟨fun a a1 _ a3 _ a5 a6 a7 => h.1 a a1 a3 a5 a6 a7, fun k _ _ _ k4 k5 => h.2.1 k k4 k5⟩
theorem AM.fr {σ σ' : qM} {β : qB} (h : AM σ β) (g : frM σ σ') : AM σ' β := by
  unfold AM
  rw [g.1 5 (by decide) (by decide) (by decide) (by decide) (by decide) (by decide) (by decide), g.1 6 (by decide) (by decide) (by decide) (by decide) (by decide) (by decide) (by decide), g.1 9 (by decide) (by decide) (by decide) (by decide) (by decide) (by decide) (by decide), g.1 10 (by decide) (by decide) (by decide) (by decide) (by decide) (by decide) (by decide), g.1 11 (by decide) (by decide) (by decide) (by decide) (by decide) (by decide) (by decide), g.1 15 (by decide) (by decide) (by decide) (by decide) (by decide) (by decide) (by decide), g.2 12 (by decide) (by decide) (by decide) (by decide) (by decide), g.2 14 (by decide) (by decide) (by decide) (by decide) (by decide), g.2 22 (by decide) (by decide) (by decide) (by decide) (by decide), g.2 23 (by decide) (by decide) (by decide) (by decide) (by decide), g.2 24 (by decide) (by decide) (by decide) (by decide) (by decide)]
  exact h
theorem SH.fr {σc σc' σm σm' : qM} (h : SH σc σm) (g : frU σc σc') (g2 : frM σm σm') : SH σc' σm' := by
  unfold SH
  rw [g 0 (by omega), g2.1 1 (by decide) (by decide) (by decide) (by decide) (by decide) (by decide) (by decide), g2.1 2 (by decide) (by decide) (by decide) (by decide) (by decide) (by decide) (by decide), g2.1 3 (by decide) (by decide) (by decide) (by decide) (by decide) (by decide) (by decide), g2.2 4 (by decide) (by decide) (by decide) (by decide) (by decide)]
  refine ⟨h.1, fun s hs => ?_⟩
  rw [g (44 + 2 * s) (by omega), g (45 + 2 * s) (by omega)]
  exact h.2 s hs
/-- the reference has read its texts -/
def mst (σ : qM) (V : qV) : Prop := v_ok V ∧ rdm σ V ∧ σ 0 22 = 0 ∧ σ 0 23 = -1
theorem mst.fr {σ σ' : qM} {V : qV} (h : mst σ V) (g : frP V σ σ') : mst σ' V := ⟨h.1, h.2.1.fr g, by rw [g.2.1 22 (by decide) (by decide), h.2.2.1], by rw [g.2.1 23 (by decide) (by decide), h.2.2.2]⟩
theorem reads_ok {σ : qM} {β : qB} (hb : bt_ok β) (h : AM σ β) : qok (fX5_reads σ) (fun σ' => frM σ σ' ∧ mst σ' (vw β)) := by
  obtain ⟨⟨a1, a2⟩, ⟨a3, a4⟩, ⟨a5, a6⟩, -, -, -, a7, a8⟩ := h
  unfold fX5_reads
  refine qok_bind (qok_mono (text0 σ (tB (bt0 β)) (bt0 β).2 (bt0 β).1 hb.1.1 (fun i hi => ⟨rfl, hb.1.2 i hi⟩) a1 a2) ?_)
  rintro ⟨r, σ1⟩ ⟨-, f1, f2, f3⟩
  dsimp only at f1 f2 f3 ⊢
  refine qok_bind (qok_mono (text1 σ1 (tB (bt1 β)) (bt1 β).2 (bt1 β).1 hb.2.1.1 (fun i hi => ⟨rfl, hb.2.1.2 i hi⟩) (by rw [f1.1 6 (by decide) (by decide)]; exact a3) (fun i hi => by rw [f1.1 5 (by decide) (by decide)]; exact a4 i hi)) ?_)
  rintro ⟨r2, σ2⟩ ⟨-, g1, g2, g3⟩
  dsimp only at g1 g2 g3 ⊢
  refine qok_some ⟨⟨fun a b1 _ b3 b4 _ _ _ => by rw [g1.1 a b1 b4, f1.1 a b1 b3], fun k k1 k2 k3 _ _ => by rw [g1.2 k k1 k3, f1.2 k k1 k2]⟩, vw_ok hb, ⟨⟨g2, fun k j hk hj => ?_, ?_, fun i hi => ?_⟩, ?_, fun l j hl hj => ?_⟩, ?_, ?_⟩
  · obtain ⟨e1, e2⟩ := vw_1 hb hk hj
    rw [← e2, show 5 * k + j = k * 5 + j by omega, show 6 * k + j = k * 6 + j by omega]
    exact g3 e1 k j hk hj
  · rw [g1.2 12 (by decide) (by decide), f1.2 12 (by decide) (by decide)]; exact a5
  · rw [g1.1 9 (by decide) (by decide), f1.1 9 (by decide) (by decide)]; exact a6 i hi
  · rw [g1.2 8 (by decide) (by decide)]; exact f2
  · obtain ⟨e1, e2⟩ := vw_0 hb hl hj
    rw [← e2, show 3 * l + j = l * 3 + j by omega, show 4 * l + j = l * 4 + j by omega, g1.1 7 (by decide) (by decide)]
    exact f3 e1 l j hl hj
  · rw [g1.2 22 (by decide) (by decide), f1.2 22 (by decide) (by decide)]; exact a7
  · rw [g1.2 23 (by decide) (by decide), f1.2 23 (by decide) (by decide)]; exact a8
theorem settled_ok {σ : qM} {V : qV} (hV : v_ok V) (h : rdc σ V) (hc : σ 16 14 = 1 ∨ cupV σ V) : qok (fX0_settled σ) (fun σ' => frU σ σ' ∧ cupV σ' V) := by
  unfold fX0_settled
  rcases hc with hc | hc
  · refine qok_f (by rw [hc]; decide) (qok_mono (settle_ok hV h) ?_)
    rintro σ2 ⟨u1, u2, u3, u4⟩
    exact ⟨u1, u2, u4, Or.inl u3⟩
  · exact qok_t hc.1 (qok_some ⟨frU.rf σ, hc⟩)
/-- a question: both answer alike, and nothing but the cup's and the reference's own cells moves -/
theorem sim_ask {α : Type} {σc σm : qM} {x y : Option (α × qM)} (h : RR σc σm) (k : ∀ β, bt_ok β → AC σc β → (σc 16 14 = 1 ∨ cupV σc (vw β)) → AM σm β → SH σc σm → ∃ v, qok x (fun q => q.1 = v ∧ frU σc q.2 ∧ (q.2 16 14 = 1 ∨ cupV q.2 (vw β))) ∧ qok y (fun q => q.1 = v ∧ frM σm q.2)) : Sim x y := by
  obtain ⟨β, hb, hC, hU, hM, hS⟩ := h
  obtain ⟨v, ⟨⟨r1, s1⟩, e1, h1, h2, h3⟩, ⟨⟨r2, s2⟩, e2, h4, h5⟩⟩ := k β hb hC hU hM hS
  dsimp only at h1 h2 h3 h4 h5
  subst h1
  subst h4
  exact ⟨_, s1, s2, e1, e2, β, hb, hC.fr h2, h3, hM.fr h5, hS.fr h2 h5⟩

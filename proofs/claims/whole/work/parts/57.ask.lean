/-! ===== PURE: questions, one beside the other ===== -/
def RD (β : qB) (σc σm : qM) : Prop := bt_ok β ∧ AC σc β ∧ (σc 16 14 = 1 ∨ cupV σc (vw β)) ∧ AM σm β ∧ SH σc σm ∧ mst σm (vw β)
def SimD {α : Type} (β : qB) (x y : Option (α × qM)) : Prop := ∃ r σc σm, x = some (r, σc) ∧ y = some (r, σm) ∧ RD β σc σm
theorem RD.rr {β : qB} {σc σm : qM} (h : RD β σc σm) : RR σc σm := ⟨β, h.1, h.2.1, h.2.2.1, h.2.2.2.1, h.2.2.2.2.1⟩
theorem SimD.s {α : Type} {β : qB} {x y : Option (α × qM)} (h : SimD β x y) : Sim x y := by
  obtain ⟨r, a, b, e1, e2, e3⟩ := h
  exact ⟨r, a, b, e1, e2, e3.rr⟩
theorem RD.mo {β : qB} {σc σc' σm σm' : qM} (h : RD β σc σm) (g : frU σc σc') (hu : σc' 16 14 = 1 ∨ cupV σc' (vw β)) (gm : frP (vw β) σm σm') : RD β σc' σm' := ⟨h.1, h.2.1.fr g, hu, h.2.2.2.1.fr gm.M, h.2.2.2.2.1.fr g gm.M, h.2.2.2.2.2.fr gm⟩
theorem askD {α : Type} {β : qB} {σc σm : qM} {x y : Option (α × qM)} (h : RD β σc σm) (v : α) (hx : qok x (fun q => q.1 = v ∧ frU σc q.2 ∧ (q.2 16 14 = 1 ∨ cupV q.2 (vw β)))) (hy : qok y (fun q => q.1 = v ∧ frP (vw β) σm q.2)) : SimD β x y := by
  obtain ⟨⟨r1, s1⟩, e1, h1, h2, h3⟩ := hx
  obtain ⟨⟨r2, s2⟩, e2, h4, h5⟩ := hy
  dsimp only at h1 h2 h3 h4 h5
  subst h1
  subst h4
  exact ⟨_, s1, s2, e1, e2, h.mo h2 h3 h5⟩
theorem simD_test {α : Type} {β : qB} {t1 t2 : qM → Option (Int32 × qM)} {P : Prop} {σc σm : qM} {v : α} {g1 g2 : Int32 × qM → Option (α × qM)} (h1 : tst t1 P) (h2 : tst t2 P) (h : RD β σc σm) (k : P → SimD β (g1 (1, σc)) (g2 (1, σm))) :
    SimD β ((t1 σc).bind fun q => if q.1 = 0 then some (v, q.2) else g1 q) ((t2 σm).bind fun q => if q.1 = 0 then some (v, q.2) else g2 q) := by
  by_cases q : P
  · rw [(h1 σc).1 q, (h2 σm).1 q]
    exact k q
  · rw [(h1 σc).2 q, (h2 σm).2 q]
    exact ⟨v, σc, σm, rfl, rfl, h⟩
theorem sim_reads {α : Type} {σc σm : qM} (h : RR σc σm) {x : Option (α × qM)} {g : qM → Option (α × qM)} (k : ∀ β σm1, RD β σc σm1 → SimD β x (g σm1)) : ∃ β, SimD β x ((fX5_reads σm).bind g) := by
  obtain ⟨β, hb, hC, hU, hM, hS⟩ := h
  obtain ⟨s, e, f1, f2⟩ := reads_ok hb hM
  rw [e]
  exact ⟨β, k β s ⟨hb, hC, hU, hM.fr f1, hS.fr (frU.rf _) f1, f2⟩⟩
theorem sim_q {α : Type} {σc σm : qM} (h : RR σc σm) {x : Option (α × qM)} {g : qM → Option (α × qM)} (k : ∀ β σm1, RD β σc σm1 → SimD β x (g σm1)) : Sim x ((fX5_reads σm).bind g) := by
  obtain ⟨β, q⟩ := sim_reads h k
  exact q.s
theorem isIn_b (σ : qM) {a k : Nat} (ha : a < 2 ^ 31) (hk : k < 32) : fX5_isIn σ (nI a) (nI k) = some (b2i (a.testBit k), σ) := isIn_ok σ ha hk
theorem setq {α : Type} {β : qB} {σc σm : qM} (h : RD β σc σm) (v : α) {g : qM → Option (α × qM)} (k : ∀ σ, AC σ β → rdc σ (vw β) → cupV σ (vw β) → qok (g σ) (fun q => q.1 = v ∧ frU σ q.2 ∧ (q.2 16 14 = 1 ∨ cupV q.2 (vw β)))) : qok ((fX0_settled σc).bind g) (fun q => q.1 = v ∧ frU σc q.2 ∧ (q.2 16 14 = 1 ∨ cupV q.2 (vw β))) := by
  refine qok_bind (qok_mono (settled_ok (vw_ok h.1) (h.2.1.rd h.1) h.2.2.1) ?_)
  rintro σ ⟨u1, u2⟩
  refine qok_mono (k σ (h.2.1.fr u1) ((h.2.1.rd h.1).fr u1) u2) ?_
  rintro ⟨r, s⟩ ⟨q1, q2, q3⟩
  exact ⟨q1, u1.tr q2, q3⟩
theorem setp {α : Type} {β : qB} {σc σm : qM} (h : RD β σc σm) (v : α) {g : qM → Option (α × qM)} (k : ∀ σ, AC σ β → rdc σ (vw β) → cupV σ (vw β) → g σ = some (v, σ)) : qok ((fX0_settled σc).bind g) (fun q => q.1 = v ∧ frU σc q.2 ∧ (q.2 16 14 = 1 ∨ cupV q.2 (vw β))) :=
  setq h v (fun σ h1 h2 h3 => by rw [k σ h1 h2 h3]; exact qok_some ⟨rfl, frU.rf σ, Or.inr h3⟩)
/-- the reference's state -/
def MS (β : qB) (σ : qM) : Prop := bt_ok β ∧ AM σ β ∧ mst σ (vw β)
theorem RD.ms {β : qB} {σc σm : qM} (h : RD β σc σm) : MS β σm := ⟨h.1, h.2.2.2.1, h.2.2.2.2.2⟩
theorem MS.fr {β : qB} {σ σ' : qM} (h : MS β σ) (g : frP (vw β) σ σ') : MS β σ' := ⟨h.1, h.2.1.fr g.M, h.2.2.fr g⟩
theorem rdg_lt {V : qV} (hV : v_ok V) (t : Nat) : rdg V t < 2 ^ 8 := lw_lt hV (Nat.le_refl _)
theorem readNow_ok {β : qB} {σ : qM} (h : MS β σ) {t : Nat} (ht : t < 4) : qok (fX5_readNow σ (nI t)) (fun q => q.1 = nI (rdg (vw β) t) ∧ frP (vw β) σ q.2) := by
  obtain ⟨hb, hM, hm⟩ := h
  have hV := vw_ok hb
  unfold fX5_readNow
  refine qok_bind (qok_mono (turnsCup_ok hV hm.2.1 ht) ?_)
  rintro σ1 ⟨f1, c1, c2, c3⟩
  have hm1 := hm.fr f1
  rw [c2, readBy_ok hV (ly_ok hV t) hm1.2.1.1 c1.1 c3 (st := 0) (by have := sm_lt (vw β) (ly (vw β) t); have h2 : y_n (ly (vw β) t) ≤ 12 := hV.1; have := p2_le h2; omega) (by decide) hm1.2.2.1, hm1.2.2.2]
  refine qok_some ⟨congrArg nI (lw_cong (fun k hk => ?_) (fun k hk => ?_)), f1⟩
  · unfold rp; rw [Nat.zero_testBit]; rfl
  · unfold fp nof; exact decide_eq_false (nI_m1 (by have := hV.2.1; omega))
theorem jrem4 {a : Nat} (ha : a < 2 ^ 31) : jrem (nI a) 4 = nI (a % 4) := pk_rem (d := 4) ha (by decide) (by decide)
def dy (β : qB) (d : Nat) : Nat := ((btt β).1 + d * (btt β).2) % 4
theorem dy_lt (β : qB) (d : Nat) : dy β d < 4 := Nat.mod_lt _ (by decide)
theorem dy_is {β : qB} (hb : bt_ok β) {d : Nat} (hd : d < 28) : jrem (nI (btt β).1 + nI d * nI (btt β).2) 4 = nI (dy β d) := by
  have h1 := hb.2.2.2.2.2.1
  have h2 := hb.2.2.2.2.2.2
  have h3 : d * (btt β).2 ≤ 28 * 4 := Nat.mul_le_mul (by omega) (by omega)
  rw [pk_mul, nI_add, jrem4 (by omega)]
  rfl
theorem turnsOn_ok {β : qB} {σ : qM} (hb : bt_ok β) (h : AC σ β) {d : Nat} (hd : d < 28) : fX4_turnsOn σ (nI d) = some (nI (dy β d), σ) := by
  unfold fX4_turnsOn
  rw [h.2.2.2.2.2.1, h.2.2.2.2.2.2, dy_is hb hd]
theorem dayOf_ok {β : qB} {σ : qM} (h : MS β σ) {d : Nat} (hd : d < 28) : qok (fX5_dayOf σ (nI d)) (fun q => q.1 = nI (rdg (vw β) (dy β d)) ∧ frP (vw β) σ q.2) := by
  unfold fX5_dayOf
  rw [bind_id, show (0 : Int32).toNatClampNeg = 0 from rfl, show (1 : Int32).toNatClampNeg = 1 from rfl, h.2.1.2.2.2.2.2.1.1, h.2.1.2.2.2.2.2.1.2, dy_is h.1 hd]
  exact readNow_ok h (dy_lt β d)
theorem b2i_z {b : Bool} (h : b = false) : b2i b = 0 := by subst h; rfl
theorem b2i_o {b : Bool} (h : b = true) : b2i b = 1 := by subst h; rfl
theorem inF {σ : qM} {V : qV} (hV : v_ok V) (h : cupV σ V) {t k : Nat} (ht : t < 4) (hk : k < 32) : fX0_isInForce σ (nI t) (nI k) = some (b2i ((rdg V t).testBit k), σ) := by
  have := rdg_lt hV t
  unfold fX0_isInForce
  rw [if_pos (qin_of ht (by decide)), nI_clamp (by omega), (h.2.1.2.2 t ht).2.2]
  by_cases q : (rdg V t).testBit k = true
  · rw [if_pos ((bit1 (by omega) hk).mpr q), q, b2i_t]
  · rw [if_neg (fun z => q ((bit1 (by omega) hk).mp z)), b2i_z ((Bool.not_eq_true _).mp q)]
theorem apC {σ : qM} {V : qV} (hV : v_ok V) (h : cupV σ V) {t k : Nat} (ht : t < 4) (hk : k < 32) : fX0_applies σ (nI t) (nI k) = some (b2i ((am V t).testBit k), σ) := by
  have := am_lt V t
  have h2 := p2_le hV.2.1
  unfold fX0_applies
  rw [if_pos (qin_of ht (by decide)), nI_clamp (by omega), (h.2.1.2.2 t ht).2.1.2]
  by_cases q : (am V t).testBit k = true
  · rw [if_pos ((bit1 (by omega) hk).mpr q), q, b2i_t]
  · rw [if_neg (fun z => q ((bit1 (by omega) hk).mp z)), b2i_z ((Bool.not_eq_true _).mp q)]
theorem mk_t {f : Nat → Bool} {b : Nat} (hb : b < 31) (h : f b = true) : nI (mk f b) ||| jshl 1 (nI b) = nI (mk f (b + 1)) := by
  have := mk_or (f := f) hb
  rw [if_pos h] at this
  exact this
theorem mk_f0 {f : Nat → Bool} {b : Nat} (hb : b < 31) (h : f b = false) : nI (mk f b) ||| 0 = nI (mk f (b + 1)) := by
  have := mk_or (f := f) hb
  rw [if_neg (by rw [h]; decide)] at this
  exact this
theorem mk_f {f : Nat → Bool} {b : Nat} (hb : b < 31) (h : f b = false) : nI (mk f b) = nI (mk f (b + 1)) := by rw [← mk_f0 hb h, or0]
/-! fault, leaf, rule -/
theorem readsText0 {β : qB} {σ : qM} (hb : bt_ok β) (h : AM σ β) : qok (fX5_readsText σ 0) (fun q => q.1 = pF 0 (tB (bt0 β)) (bt0 β).1 ∧ frM σ q.2 ∧ (mst σ (vw β) → mst q.2 (vw β))) := by
  refine qok_mono (text0 σ (tB (bt0 β)) (bt0 β).2 (bt0 β).1 hb.1.1 (fun i hi => ⟨rfl, hb.1.2 i hi⟩) h.1.1 h.1.2) ?_
  rintro ⟨r, s⟩ ⟨q1, q2, q3, q4⟩
  dsimp only at q1 q2 q3 q4 ⊢
  refine ⟨q1, ⟨fun a b1 _ b3 _ _ _ _ => q2.1 a b1 b3, fun k k1 k2 _ _ _ => q2.2 k k1 k2⟩, fun hm => ⟨hm.1, ⟨?_, q3, fun l j hl hj => ?_⟩, by rw [q2.2 22 (by decide) (by decide)]; exact hm.2.2.1, by rw [q2.2 23 (by decide) (by decide)]; exact hm.2.2.2⟩⟩
  · unfold rqm
    rw [q2.2 10 (by decide) (by decide), q2.2 12 (by decide) (by decide), q2.1 8 (by decide) (by decide), q2.1 9 (by decide) (by decide)]
    exact hm.2.1.1
  · obtain ⟨e1, e2⟩ := vw_0 hb hl hj
    rw [← e2, show 3 * l + j = l * 3 + j by omega, show 4 * l + j = l * 4 + j by omega]
    exact q4 e1 l j hl hj
theorem readsText1 {β : qB} {σ : qM} (hb : bt_ok β) (h : AM σ β) : qok (fX5_readsText σ 1) (fun q => q.1 = pF 1 (tB (bt1 β)) (bt1 β).1 ∧ frM σ q.2 ∧ (mst σ (vw β) → mst q.2 (vw β))) := by
  refine qok_mono (text1 σ (tB (bt1 β)) (bt1 β).2 (bt1 β).1 hb.2.1.1 (fun i hi => ⟨rfl, hb.2.1.2 i hi⟩) h.2.1.1 h.2.1.2) ?_
  rintro ⟨r, s⟩ ⟨q1, q2, q3, q4⟩
  dsimp only at q1 q2 q3 q4 ⊢
  refine ⟨q1, ⟨fun a b1 _ _ b4 _ _ _ => q2.1 a b1 b4, fun k k1 _ k3 _ _ => q2.2 k k1 k3⟩, fun hm => ⟨hm.1, ⟨⟨q3, fun l j hl hj => ?_, ?_, ?_⟩, ?_, ?_⟩, by rw [q2.2 22 (by decide) (by decide)]; exact hm.2.2.1, by rw [q2.2 23 (by decide) (by decide)]; exact hm.2.2.2⟩⟩
  · obtain ⟨e1, e2⟩ := vw_1 hb hl hj
    rw [← e2, show 5 * l + j = l * 5 + j by omega, show 6 * l + j = l * 6 + j by omega]
    exact q4 e1 l j hl hj
  · rw [q2.2 12 (by decide) (by decide)]; exact hm.2.1.1.2.2.1
  · rw [q2.1 9 (by decide) (by decide)]; exact hm.2.1.1.2.2.2
  · rw [q2.2 8 (by decide) (by decide)]; exact hm.2.1.2.1
  · rw [q2.1 7 (by decide) (by decide)]; exact hm.2.1.2.2
theorem sim_fault {σc σm : qM} (h : RR σc σm) (x1 : Int32) : Sim (fX4_fault σc x1) (fX5_fault σm x1) := by
  unfold fX4_fault fX5_fault
  refine sim_test (t1 := fun σ => fX4_below σ x1 2) (t2 := fun σ => fX5_isTwo σ x1) (t_below x1 2 (by decide)) (t_two x1) h (fun h1 => ?_)
  obtain ⟨β, hb, hC, hU, hM, hS⟩ := h
  dsimp only
  unfold fX4_textOf
  rw [bind_id]
  rcases bl2 h1 with rfl | rfl
  · obtain ⟨⟨r, s⟩, e, q1, q2, _⟩ := readsText0 hb hM
    rw [e, if_pos rfl]
    simp only [Option.bind_some]
    rw [if_pos (show q_kd sC 1 = 3 from rfl), hC.1.2.2.2.2.2.1]
    exact ⟨_, _, _, rfl, congrArg some (Prod.ext q1 rfl), β, hb, hC, hU, hM.fr q2, hS.fr (frU.rf _) q2⟩
  · obtain ⟨⟨r, s⟩, e, q1, q2, _⟩ := readsText1 hb hM
    rw [e, if_neg (by decide)]
    simp only [Option.bind_some]
    rw [if_pos (show q_kd sC 4 = 3 from rfl), hC.2.1.2.2.2.2.2.1]
    exact ⟨_, _, _, rfl, congrArg some (Prod.ext q1 rfl), β, hb, hC, hU, hM.fr q2, hS.fr (frU.rf _) q2⟩
theorem in_n {σ : qM} {n : Nat} (hn : n < 2 ^ 30) (x : Int32) : (bl x n → fX5_in σ x.toInt64 0 (nI n - 1).toInt64 = some (1, σ)) ∧ (¬ bl x n → fX5_in σ x.toInt64 0 (nI n - 1).toInt64 = some (0, σ)) := by
  by_cases hz : n = 0
  · subst hz
    refine ⟨fun q => by obtain ⟨j, hj, _⟩ := bl_of q (by decide); omega, fun _ => ?_⟩
    rw [in_gen, if_neg]
    rw [fa_le64, fa_le64]
    have : (nI 0 - 1).toInt64.toInt = -1 := by decide
    have : (0 : Int64).toInt = 0 := rfl
    omega
  · exact in_ok σ x n (by omega) (by rw [show nI n - 1 = nI (n - 1) from pk_sub (b := 1) (by omega), nI_l (by omega)])
theorem leafD {β : qB} {σc σm : qM} (h : RD β σc σm) (x1 x2 : Int32) : SimD β (fX4_leaf σc x1 x2) ((fX5_isLeaf σm x1).bind fun q2 => if q2.1 = 0 then (some ((-2 : Int32), q2.2))
  else ((fX5_in q2.2 x2.toInt64 (0 : Int64) (2 : Int64)).bind fun q4 => if q4.1 = 0 then (some ((-2 : Int32), q4.2))
  else (if qin (((3 : Int32) * x1) + x2) 39 then some ((q4.2 7 (((3 : Int32) * x1) + x2).toNatClampNeg), q4.2) else none))) := by
  have hV := vw_ok h.1
  have hn : v_n (vw β) < 2 ^ 30 := by have := hV.1; omega
  unfold fX4_leaf fX5_isLeaf
  have e1 : σc 1 5 = nI (v_n (vw β)) := (h.2.1.rd h.1).1
  have e2 : σm 0 8 = nI (v_n (vw β)) := h.2.2.2.2.2.2.1.2.1
  rw [e1, e2]
  have k1 := below_ok σc x1 (v_n (vw β)) (by omega)
  have k2 := in_n (σ := σm) hn x1
  by_cases c : bl x1 (v_n (vw β))
  · rw [k1.1 c, k2.1 c]
    obtain ⟨l, hl, rfl⟩ := bl_of c (by omega)
    show SimD β ((fX4_below σc x2 3).bind _) ((fX5_in σm x2.toInt64 0 2).bind _)
    refine simD_test (t1 := fun σ => fX4_below σ x2 3) (t2 := fun σ => fX5_in σ x2.toInt64 0 2) (t_below x2 3 (by decide)) (t_in x2 3 (by decide) rfl) h (fun h2 => ?_)
    obtain ⟨j, hj, rfl⟩ := bl_of h2 (by decide)
    dsimp only
    rw [bind_id, partL_ok hV (h.2.1.rd h.1) hl hj, show (3 : Int32) * nI l + nI j = nI (3 * l + j) from by rw [show (3 : Int32) * nI l = nI (3 * l) from pk_mul 3 l, nI_add], if_pos (qin_of (by have := hV.1; omega) (by decide)), nI_clamp (by have := hV.1; omega), h.2.2.2.2.2.2.1.2.2 l j hl hj]
    exact ⟨_, _, _, rfl, rfl, h⟩
  · rw [k1.2 c, k2.2 c]
    exact ⟨_, _, _, rfl, rfl, h⟩
theorem sim_leaf {σc σm : qM} (h : RR σc σm) (x1 x2 : Int32) : Sim (fX4_leaf σc x1 x2) (fX5_leaf σm x1 x2) := by
  unfold fX5_leaf
  obtain ⟨β, k⟩ := sim_reads h (x := fX4_leaf σc x1 x2) (g := fun q1 => (fX5_isLeaf q1 x1).bind fun q2 => if q2.1 = 0 then (some ((-2 : Int32), q2.2))
  else ((fX5_in q2.2 x2.toInt64 (0 : Int64) (2 : Int64)).bind fun q4 => if q4.1 = 0 then (some ((-2 : Int32), q4.2))
  else (if qin (((3 : Int32) * x1) + x2) 39 then some ((q4.2 7 (((3 : Int32) * x1) + x2).toNatClampNeg), q4.2) else none))) (fun β σ1 hR => leafD hR x1 x2)
  exact k.s
theorem ruleD {β : qB} {σc σm : qM} (h : RD β σc σm) (x1 x2 : Int32) : SimD β (fX4_rule σc x1 x2) ((fX5_in σm x1.toInt64 (0 : Int64) (((σm 0 10) - (1 : Int32)).toInt64)).bind fun q2 => if q2.1 = 0 then (some ((-2 : Int32), q2.2))
  else ((fX5_in q2.2 x2.toInt64 (0 : Int64) (4 : Int64)).bind fun q4 => if q4.1 = 0 then (some ((-2 : Int32), q4.2))
  else (if qin (((5 : Int32) * x1) + x2) 50 then some ((q4.2 8 (((5 : Int32) * x1) + x2).toNatClampNeg), q4.2) else none))) := by
  have hV := vw_ok h.1
  have hn : v_r (vw β) < 2 ^ 30 := by have := hV.2.1; omega
  unfold fX4_rule
  have e1 : σc 4 5 = nI (v_r (vw β)) := (h.2.1.rd h.1).2.2.2.1
  have e2 : σm 0 10 = nI (v_r (vw β)) := h.2.2.2.2.2.2.1.1.1
  rw [e1, e2]
  have k1 := below_ok σc x1 (v_r (vw β)) (by omega)
  have k2 := in_n (σ := σm) hn x1
  by_cases c : bl x1 (v_r (vw β))
  · rw [k1.1 c, k2.1 c]
    obtain ⟨l, hl, rfl⟩ := bl_of c (by omega)
    show SimD β ((fX4_below σc x2 5).bind _) ((fX5_in σm x2.toInt64 0 4).bind _)
    refine simD_test (t1 := fun σ => fX4_below σ x2 5) (t2 := fun σ => fX5_in σ x2.toInt64 0 4) (t_below x2 5 (by decide)) (t_in x2 5 (by decide) rfl) h (fun h2 => ?_)
    obtain ⟨j, hj, rfl⟩ := bl_of h2 (by decide)
    dsimp only
    rw [bind_id, partR_ok hV (h.2.1.rd h.1) hl hj, show (5 : Int32) * nI l + nI j = nI (5 * l + j) from by rw [show (5 : Int32) * nI l = nI (5 * l) from pk_mul 5 l, nI_add], if_pos (qin_of (by have := hV.2.1; omega) (by decide)), nI_clamp (by have := hV.2.1; omega), h.2.2.2.2.2.2.1.1.2.1 l j hl hj]
    exact ⟨_, _, _, rfl, rfl, h⟩
  · rw [k1.2 c, k2.2 c]
    exact ⟨_, _, _, rfl, rfl, h⟩
theorem sim_rule {σc σm : qM} (h : RR σc σm) (x1 x2 : Int32) : Sim (fX4_rule σc x1 x2) (fX5_rule σm x1 x2) := by
  unfold fX5_rule
  obtain ⟨β, k⟩ := sim_reads h (x := fX4_rule σc x1 x2) (g := fun q1 => (fX5_in q1 x1.toInt64 (0 : Int64) (((q1 0 10) - (1 : Int32)).toInt64)).bind fun q2 => if q2.1 = 0 then (some ((-2 : Int32), q2.2))
  else ((fX5_in q2.2 x2.toInt64 (0 : Int64) (4 : Int64)).bind fun q4 => if q4.1 = 0 then (some ((-2 : Int32), q4.2))
  else (if qin (((5 : Int32) * x1) + x2) 50 then some ((q4.2 8 (((5 : Int32) * x1) + x2).toNatClampNeg), q4.2) else none))) (fun β σ1 hR => ruleD hR x1 x2)
  exact k.s

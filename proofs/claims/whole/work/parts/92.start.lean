theorem in_v7 : Cond.classLink RL 7 RX4 ∈ gw := gw_mem (List.mem_of_getElem? (i := 11) (by decide +kernel)) (by decide +kernel)
theorem in_v10 : Cond.classLink RL 10 RX5 ∈ gw := gw_mem (List.mem_of_getElem? (i := 613) (by decide +kernel)) (by decide +kernel)
theorem in_n4 : Cond.instantiable RX4 10 ∈ gw := gw_mem (List.mem_of_getElem? (i := 12) (by decide +kernel)) (by decide +kernel)
theorem in_n5 : Cond.instantiable RX5 26 ∈ gw := gw_mem (List.mem_of_getElem? (i := 614) (by decide +kernel)) (by decide +kernel)
theorem in_z4 : Cond.initialized RX4 ∈ gw := gw_mem (List.mem_of_getElem? (i := 1) (by decide +kernel)) (by decide +kernel)
theorem in_z5 : Cond.initialized RX5 ∈ gw := gw_mem (List.mem_of_getElem? (i := 6) (by decide +kernel)) (by decide +kernel)
theorem in_m4 : Cond.instanceMethod yX4_init ∈ gw := gw_mem (List.mem_of_getElem? (i := 14) (by decide +kernel)) (by decide +kernel)
theorem in_m5 : Cond.instanceMethod yX5_init ∈ gw := gw_mem (List.mem_of_getElem? (i := 616) (by decide +kernel)) (by decide +kernel)
theorem in_c4 : Cond.code yX4_init cX4_init 2 none ∈ gw := gw_mem (List.mem_of_getElem? (i := 15) (by decide +kernel)) (by decide +kernel)
theorem in_c5 : Cond.code yX5_init cX5_init 2 none ∈ gw := gw_mem (List.mem_of_getElem? (i := 617) (by decide +kernel)) (by decide +kernel)
theorem in_oA : Cond.arrayOver (.array .int) ∈ lw_tbl := List.mem_append_right _ (List.mem_of_getElem? (i := 81) (by decide +kernel))
theorem in_oS : Cond.arrayOver (.object "TeaLaws$Sheet") ∈ lw_tbl := List.mem_append_right _ (List.mem_of_getElem? (i := 135) (by decide +kernel))
theorem in_ne : Cond.methodLinkNest RX4 61 yX2_init RX4 ∈ lw_tbl := List.mem_append_right _ (List.mem_of_getElem? (i := 137) (by decide +kernel))
theorem in_tw0 : q_tw 0 ∈ lw_tbl := List.mem_append_right _ (List.mem_of_getElem? (i := 213) (by decide +kernel))
theorem in_ls0 : Cond.laysStatic RX4 (q_tn 0) "[C" ∈ lw_tbl := List.mem_append_right _ (List.mem_of_getElem? (i := 214) (by decide +kernel))
theorem in_tw1 : q_tw 1 ∈ lw_tbl := List.mem_append_right _ (List.mem_of_getElem? (i := 215) (by decide +kernel))
theorem in_ls1 : Cond.laysStatic RX4 (q_tn 1) "[C" ∈ lw_tbl := List.mem_append_right _ (List.mem_of_getElem? (i := 216) (by decide +kernel))
theorem in_tw2 : q_tw 2 ∈ lw_tbl := List.mem_append_right _ (List.mem_of_getElem? (i := 217) (by decide +kernel))
theorem in_ls2 : Cond.laysStatic RX4 (q_tn 2) "[C" ∈ lw_tbl := List.mem_append_right _ (List.mem_of_getElem? (i := 218) (by decide +kernel))
theorem in_tw3 : q_tw 3 ∈ lw_tbl := List.mem_append_right _ (List.mem_of_getElem? (i := 222) (by decide +kernel))
theorem in_ls3 : Cond.laysStatic RX4 (q_tn 3) "[C" ∈ lw_tbl := List.mem_append_right _ (List.mem_of_getElem? (i := 223) (by decide +kernel))
theorem in_tw4 : q_tw 4 ∈ lw_tbl := List.mem_append_right _ (List.mem_of_getElem? (i := 224) (by decide +kernel))
theorem in_ls4 : Cond.laysStatic RX4 (q_tn 4) "[C" ∈ lw_tbl := List.mem_append_right _ (List.mem_of_getElem? (i := 225) (by decide +kernel))
theorem in_tw5 : q_tw 5 ∈ lw_tbl := List.mem_append_right _ (List.mem_of_getElem? (i := 226) (by decide +kernel))
theorem in_ls5 : Cond.laysStatic RX4 (q_tn 5) "[C" ∈ lw_tbl := List.mem_append_right _ (List.mem_of_getElem? (i := 227) (by decide +kernel))
theorem in_tw6 : q_tw 6 ∈ lw_tbl := List.mem_append_right _ (List.mem_of_getElem? (i := 208) (by decide +kernel))
theorem in_ls6 : Cond.laysStatic RX4 (q_tn 6) "[C" ∈ lw_tbl := List.mem_append_right _ (List.mem_of_getElem? (i := 209) (by decide +kernel))
theorem in_tw : ∀ i, i < 7 → q_tw i ∈ lw_tbl := (ls_s (ls_s (ls_s (ls_s (ls_s (ls_s (ls_s ls_0 in_tw0) in_tw1) in_tw2) in_tw3) in_tw4) in_tw5) in_tw6)
theorem in_ls : ∀ i, i < 7 → Cond.laysStatic RX4 (q_tn i) "[C" ∈ lw_tbl := (ls_s (ls_s (ls_s (ls_s (ls_s (ls_s (ls_s ls_0 in_ls0) in_ls1) in_ls2) in_ls3) in_ls4) in_ls5) in_ls6)
def l_F : List Cond := flatC (Jvm.Cond.and given_1 narrow_1)
def l_tm (i : Nat) : Term := Term.static RX4 (q_tn i) "[C"
theorem f_ar : ∀ i, i < 7 → Cond.arrayOf (l_tm i) .char ∈ l_F := by decide +kernel
theorem f_le : ∀ i, i < 7 → Cond.eq (.length (l_tm i)) (.int (Int32.ofNat (q_tl i))) ∈ l_F := by decide +kernel
theorem f_el : ∀ i, i < 7 → ∀ j, j < q_tl i → Cond.eq (.elem (l_tm i) (.int (Int32.ofNat j))) (.int (q_tc i j)) ∈ l_F := by decide +kernel
/-- the rows of signs at the start -/
theorem l_start {s : State} {b : Nat} (hts : ∀ w ∈ lw_tbl, w.before #[Value.ref b] s = true) (hg : ∀ w ∈ gw, w.before #[Value.ref b] s = true) (hgv : (Jvm.Cond.and given_1 narrow_1).before #[Value.ref b] s = true) : ∃ aK : Nat → Nat, ∀ (D : va_G) (ad : Nat → Nat) (cI cII cS : ClassId), l_str (D, ad, cI, cII, cS, aK) s := by
  have hs : ∀ w ∈ l_F, w.before #[Value.ref b] s = true := flat_of_before _ hgv
  have hA : ∀ a : Nat, a < s.heap.size → ¬ lA s a := fun a h => Nat.not_le.mpr h
  have key : ∀ i : Nat, ∃ t : Nat, i < 7 → (l_tm i).eval #[Value.ref b] s none [] s = some (.ref t) ∧ va_T .char t (q_tl i) (fun j => .int (q_tc i j)) (lA s) s s.heap := by
    intro i
    by_cases hi : i < 7
    · have h1 := q_tl_lt i hi
      obtain ⟨t, ht⟩ := va_Tof (args := #[Value.ref b]) (s := s) (A := lA s) (tm := l_tm i) (ty := .char) (N := q_tl i) (f := fun j => .int (q_tc i j)) (by omega) (hs _ (f_ar i hi)) (va_eqt (hs _ (f_le i hi))) (fun j hj => va_eqt (hs _ (f_el i hi j hj))) hA
      exact ⟨t, fun _ => ht⟩
    · exact ⟨0, fun h => absurd h hi⟩
  obtain ⟨aK, hK⟩ := Classical.axiomOfChoice key
  exact ⟨aK, fun D ad cI cII cS i hi => ⟨va_Nw.of rfl (hts _ (in_tw i hi)), va_Zof (hts _ (in_ls i hi)) (hg _ in_z4) (hK i hi).1 hA, (hK i hi).2⟩⟩
/-- the tables' numbers and the classes of the arrays -/
theorem l_known {s : State} {b : Nat} (hts : ∀ w ∈ lw_tbl, w.before #[Value.ref b] s = true) (hg : ∀ w ∈ gw, w.before #[Value.ref b] s = true) : ∃ (D : va_G) (cI cII cS : ClassId), va_K D vwCl (i_ty cI cII cS) s := by
  obtain ⟨c0, i0, k0⟩ := u_known (C := RX0) (T := TX0) (N := 15) (n := 15) hg inX_0 (hg _ in_n0)
  obtain ⟨c1, i1, k1⟩ := u_known (C := RX1) (T := TX1) (N := 3) (n := 3) hg inX_1 (hg _ in_n1)
  obtain ⟨c2, i2, k2⟩ := u_known (C := RX2) (T := TX2) (N := 3) (n := 3) hg inX_2 (hg _ in_n2)
  obtain ⟨c3, i3, k3⟩ := u_known (C := RX3) (T := TX3) (N := 7) (n := 7) hg inX_3 (hg _ in_n3)
  obtain ⟨c4, i4, k4⟩ := u_known (C := RX4) (T := TX4) (N := 10) (n := 10) hg inX_4 (hg _ in_n4)
  obtain ⟨c5, i5, k5⟩ := u_known (C := RX5) (T := TX5) (N := 26) (n := 26) hg inX_5 (hg _ in_n5)
  obtain ⟨cI, kI, mI, a1, a2, a3⟩ := Cond.arrayClass_spec (hg _ in_ai)
  obtain ⟨mA, cII, kA, b1, -, b3, b4, b5⟩ := arrayOverA_spec (hts _ in_oA)
  obtain ⟨mS, cS, kS, d1, d2, d3, d4, d5⟩ := Cond.arrayOver_spec (hts _ in_oS)
  refine ⟨(fun k => [c0, c1, c2, c3, c4, c5].getD k c0, fun k => [i0, i1, i2, i3, i4, i5].getD k i0), cI, cII, cS, fun k q hq => ?_, fun k q hq => ?_⟩
  · match k, hq with
    | 0, hq => cases hq; exact k0
    | 1, hq => cases hq; exact k1
    | 2, hq => cases hq; exact k2
    | 3, hq => cases hq; exact k3
    | 4, hq => cases hq; exact k4
    | 5, hq => cases hq; exact k5
    | k + 6, hq => simp [vwCl] at hq
  · match k, hq with
    | 0, hq => cases hq; exact ⟨fun N z => ⟨(fun q hq => by cases hq), kI, a2, mI, a3⟩, a1⟩
    | 1, hq => cases hq; exact ⟨fun N z => ⟨(fun q hq => by cases hq), kA, b3, mA, b4⟩, b5⟩
    | 2, hq => cases hq; exact ⟨fun N z => ⟨(fun q hq => by cases hq), kS, d3, mS, d4⟩, kS, mS, d3, d4, d1, d5⟩
    | k + 3, hq => simp at hq
theorem va_P_l {D : va_G} {cl : List vw_C} {w1 w2 : va_W} {H : Heap} (h : va_P D cl (w1 ++ w2) H) : va_P D cl w1 H := fun k q hk => h k q (by rw [List.getElem?_append_left (List.getElem?_eq_some_iff.mp hk).1]; exact hk)
theorem va_P_r {D : va_G} {cl : List vw_C} {w1 w2 : va_W} {H : Heap} (h : va_P D cl (w1 ++ w2) H) : va_P D cl w2 H := fun k q hk => h (w1.length + k) q (by rw [List.getElem?_append_right (Nat.le_add_right _ _), Nat.add_sub_cancel_left]; exact hk)
theorem va_D_l {A : Nat → Prop} {w1 w2 : va_W} (h : va_D A (w1 ++ w2)) : va_D A w1 :=
  have e : ∀ (k : Nat) (q : Nat × va_E), w1[k]? = some q → (w1 ++ w2)[k]? = some q := fun k q hk => by rw [List.getElem?_append_left (List.getElem?_eq_some_iff.mp hk).1]; exact hk
  ⟨fun i j p q hi hj hpq => h.1 i j p q (e i p hi) (e j q hj) hpq, fun k q hk => h.2 k q (e k q hk)⟩
theorem va_D_r {A : Nat → Prop} {w1 w2 : va_W} (h : va_D A (w1 ++ w2)) : va_D A w2 :=
  have e : ∀ (k : Nat) (q : Nat × va_E), w2[k]? = some q → (w1 ++ w2)[w1.length + k]? = some q := fun k q hk => by rw [List.getElem?_append_right (Nat.le_add_right _ _), Nat.add_sub_cancel_left]; exact hk
  ⟨fun i j p q hi hj hpq => Nat.add_left_cancel (h.1 _ _ p q (e i p hi) (e j q hj) hpq), fun k q hk => h.2 _ q (e k q hk)⟩
theorem va_D_x {A : Nat → Prop} {w1 w2 : va_W} (h : va_D A (w1 ++ w2)) {i j : Nat} {p q : Nat × va_E} (hi : w1[i]? = some p) (hj : w2[j]? = some q) : ¬ p.1 = q.1 := fun hpq => by
  have hl := (List.getElem?_eq_some_iff.mp hi).1
  have := h.1 i (w1.length + j) p q (by rw [List.getElem?_append_left hl]; exact hi) (by rw [List.getElem?_append_right (Nat.le_add_right _ _), Nat.add_sub_cancel_left]; exact hj) hpq
  omega

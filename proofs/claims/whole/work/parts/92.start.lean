theorem in_v7 : Cond.classLink RL 7 RX4 ∈ gw := gw_mem (List.mem_of_getElem? (i := 16) (by decide +kernel)) (by decide +kernel)
theorem in_v10 : Cond.classLink RL 10 RX5 ∈ gw := gw_mem (List.mem_of_getElem? (i := 687) (by decide +kernel)) (by decide +kernel)
theorem in_n4 : Cond.instantiable RX4 10 ∈ gw := gw_mem (List.mem_of_getElem? (i := 17) (by decide +kernel)) (by decide +kernel)
theorem in_n5 : Cond.instantiable RX5 26 ∈ gw := gw_mem (List.mem_of_getElem? (i := 688) (by decide +kernel)) (by decide +kernel)
theorem in_z4 : Cond.initialized RX4 ∈ gw := gw_mem (List.mem_of_getElem? (i := 1) (by decide +kernel)) (by decide +kernel)
theorem in_z5 : Cond.initialized RX5 ∈ gw := gw_mem (List.mem_of_getElem? (i := 6) (by decide +kernel)) (by decide +kernel)
theorem in_m4 : Cond.instanceMethod yX4_init ∈ gw := gw_mem (List.mem_of_getElem? (i := 19) (by decide +kernel)) (by decide +kernel)
theorem in_m5 : Cond.instanceMethod yX5_init ∈ gw := gw_mem (List.mem_of_getElem? (i := 690) (by decide +kernel)) (by decide +kernel)
theorem in_c4 : Cond.code yX4_init cX4_init 2 none ∈ gw := gw_mem (List.mem_of_getElem? (i := 20) (by decide +kernel)) (by decide +kernel)
theorem in_c5 : Cond.code yX5_init cX5_init 2 none ∈ gw := gw_mem (List.mem_of_getElem? (i := 691) (by decide +kernel)) (by decide +kernel)
theorem in_oA : Cond.arrayOver (.array .int) ∈ lw_tbl := List.mem_append_right _ (List.mem_of_getElem? (i := 86) (by decide +kernel))
theorem in_oS : Cond.arrayOver (.object "TeaLaws$Sheet") ∈ lw_tbl := List.mem_append_right _ (List.mem_of_getElem? (i := 140) (by decide +kernel))
theorem in_ne : Cond.methodLinkNest RX4 61 yX2_init RX4 ∈ lw_tbl := List.mem_append_right _ (List.mem_of_getElem? (i := 142) (by decide +kernel))
theorem in_ls : Cond.laysStatic "java/lang/String" "COMPACT_STRINGS" "Z" ∈ lw_tbl := List.mem_append_right _ (List.mem_of_getElem? (i := 235) (by decide +kernel))
theorem in_is : Cond.initialized "java/lang/String" ∈ lw_tbl := List.mem_append_right _ (List.mem_of_getElem? (i := 7) (by decide +kernel))
theorem in_r0 : Cond.stringRef RX3 (q_ti 0) (q_tx 0) ∈ lw_tbl := List.mem_append_right _ (List.mem_of_getElem? (i := 216) (by decide +kernel))
theorem in_r1 : Cond.stringRef RX3 (q_ti 1) (q_tx 1) ∈ lw_tbl := List.mem_append_right _ (List.mem_of_getElem? (i := 217) (by decide +kernel))
theorem in_r2 : Cond.stringRef RX3 (q_ti 2) (q_tx 2) ∈ lw_tbl := List.mem_append_right _ (List.mem_of_getElem? (i := 218) (by decide +kernel))
theorem in_r3 : Cond.stringRef RX3 (q_ti 3) (q_tx 3) ∈ lw_tbl := List.mem_append_right _ (List.mem_of_getElem? (i := 219) (by decide +kernel))
theorem in_r4 : Cond.stringRef RX3 (q_ti 4) (q_tx 4) ∈ lw_tbl := List.mem_append_right _ (List.mem_of_getElem? (i := 220) (by decide +kernel))
theorem in_r5 : Cond.stringRef RX3 (q_ti 5) (q_tx 5) ∈ lw_tbl := List.mem_append_right _ (List.mem_of_getElem? (i := 221) (by decide +kernel))
theorem in_rs : ∀ i, i < 6 → Cond.stringRef RX3 (q_ti i) (q_tx i) ∈ lw_tbl := ls_s (ls_s (ls_s (ls_s (ls_s (ls_s ls_0 in_r0) in_r1) in_r2) in_r3) in_r4) in_r5
def l_F : List Cond := flatC (Jvm.Cond.and given_1 narrow_1)
def l_tm (i : Nat) : Term := Term.string RX3 (q_ti i)
theorem f_cs : Cond.eq (.static "java/lang/String" "COMPACT_STRINGS" "Z") (.int 1) ∈ l_F := by decide +kernel
theorem f_ex : ∀ i, i < 6 → Cond.exactly (l_tm i) "java/lang/String" ∈ l_F := by decide +kernel
theorem f_co : ∀ i, i < 6 → Cond.eq (.field (l_tm i) "java/lang/String" "coder" "B") (.int 0) ∈ l_F := by decide +kernel
theorem f_ar : ∀ i, i < 6 → Cond.arrayOf (.field (l_tm i) "java/lang/String" "value" "[B") .byte ∈ l_F := by decide +kernel
theorem f_le : ∀ i, i < 6 → Cond.eq (.length (.field (l_tm i) "java/lang/String" "value" "[B")) (.int (Int32.ofNat (([6, 6, 3, 4, 2, 8] : List Nat).getD i 0))) ∈ l_F := by decide +kernel
theorem f_el : ∀ i, i < 6 → ∀ j, j < ([6, 6, 3, 4, 2, 8] : List Nat).getD i 0 → Cond.eq (.elem (.field (l_tm i) "java/lang/String" "value" "[B") (.int (Int32.ofNat j))) (.int ((q_tbs.getD i []).getD j 0)) ∈ l_F := by decide +kernel
theorem f_ne : ∀ i, i < 6 → ∀ j, j < 6 → i ≠ j → (Cond.not (Cond.eq (l_tm i) (l_tm j)) ∈ l_F ∨ Cond.not (Cond.eq (l_tm j) (l_tm i)) ∈ l_F) := by decide +kernel
/-- the texts' constants at the start -/
theorem l_start {s : State} {b : Nat} (hts : ∀ w ∈ lw_tbl, w.before #[Value.ref b] s = true) (hgv : (Jvm.Cond.and given_1 narrow_1).before #[Value.ref b] s = true) : ∃ aK aV : Nat → Nat, ∀ (D : va_G) (ad : Nat → Nat) (cI cII cS : ClassId), l_str (D, ad, cI, cII, cS, aK, aV) s := by
  have hs : ∀ w ∈ l_F, w.before #[Value.ref b] s = true := flat_of_before _ hgv
  have hA : ∀ a : Nat, a < s.heap.size → ¬ lA s a := fun a h => Nat.not_le.mpr h
  obtain ⟨aK, aV, hZ, hE⟩ := vk_Sof (args := #[Value.ref b]) (s := s) (A := lA s) (tm := l_tm) (len := [6, 6, 3, 4, 2, 8]) (byt := q_tbs) (N := 6) (by decide) (fun i hi => hs _ (f_ex i hi)) (fun i hi => hs _ (f_co i hi)) (fun i hi => hs _ (f_ar i hi)) (fun i hi => hs _ (f_le i hi)) (fun i hi j hj => hs _ (f_el i hi j hj)) (fun i j hi hj h => (f_ne i hi j hj h).imp (hs _) (hs _)) hA
  refine ⟨aK, aV, fun D ad cI cII cS => ⟨fun i hi => vk_R.of (hts _ (in_rs i hi)) (hE i hi), hZ, ?_⟩⟩
  exact va_Zof (hts _ in_ls) (hts _ in_is) (va_eqt (hs _ f_cs)) hA
/-- the tables' numbers and the classes of the arrays -/
theorem l_known {s : State} {b : Nat} (hts : ∀ w ∈ lw_tbl, w.before #[Value.ref b] s = true) (hg : ∀ w ∈ gw, w.before #[Value.ref b] s = true) : ∃ (D : va_G) (cI cII cS : ClassId), va_K D vwCl (i_ty cI cII cS) s := by
  obtain ⟨c0, i0, k0⟩ := u_known (C := RX0) (T := TX0) (N := 15) (n := 15) hg inX_0 (hg _ in_n0)
  obtain ⟨c1, i1, k1⟩ := u_known (C := RX1) (T := TX1) (N := 3) (n := 3) hg inX_1 (hg _ in_n1)
  obtain ⟨c2, i2, k2⟩ := u_known (C := RX2) (T := TX2) (N := 3) (n := 3) hg inX_2 (hg _ in_n2)
  obtain ⟨c3, i3, k3⟩ := u_known (C := RX3) (T := TX3) (N := 7) (n := 7) hg inX_3 (hg _ in_n3)
  obtain ⟨c4, i4, k4⟩ := u_known (C := RX4) (T := TX4) (N := 10) (n := 10) hg inX_4 (hg _ in_n4)
  obtain ⟨c5, i5, k5⟩ := u_known (C := RX5) (T := TX5) (N := 26) (n := 26) hg inX_5 (hg _ in_n5)
  obtain ⟨cI, kI, mI, a1, a2, a3⟩ := Cond.arrayClass_spec (hg _ in_ai)
  obtain ⟨mA, cII, kA, b1, -, b3, b4, b5⟩ := arrayOverA_spec (hts _ in_oA)
  obtain ⟨mS, cS, kS, d1, d2, d3, d4, d5⟩ := Cond.arrayOver_spec (hts _ in_oS)
  refine ⟨(fun k => [c0, c1, c2, c3, c4, c5].getD k c0, fun k => [i0, i1, i2, i3, i4, i5].getD k i0), cI, cII, cS, fun k q hq => ?_, fun k q hq => ?_⟩
  · match k, hq with
    | 0, hq => cases hq; exact k0
    | 1, hq => cases hq; exact k1
    | 2, hq => cases hq; exact k2
    | 3, hq => cases hq; exact k3
    | 4, hq => cases hq; exact k4
    | 5, hq => cases hq; exact k5
    | k + 6, hq => simp [vwCl] at hq
  · match k, hq with
    | 0, hq => cases hq; exact ⟨fun N z => ⟨(fun q hq => by cases hq), kI, a2, mI, a3⟩, a1⟩
    | 1, hq => cases hq; exact ⟨fun N z => ⟨(fun q hq => by cases hq), kA, b3, mA, b4⟩, b5⟩
    | 2, hq => cases hq; exact ⟨fun N z => ⟨(fun q hq => by cases hq), kS, d3, mS, d4⟩, kS, mS, d3, d4, d1, d5⟩
    | k + 3, hq => simp at hq
theorem va_P_l {D : va_G} {cl : List vw_C} {w1 w2 : va_W} {H : Heap} (h : va_P D cl (w1 ++ w2) H) : va_P D cl w1 H := fun k q hk => h k q (by rw [List.getElem?_append_left (List.getElem?_eq_some_iff.mp hk).1]; exact hk)
theorem va_P_r {D : va_G} {cl : List vw_C} {w1 w2 : va_W} {H : Heap} (h : va_P D cl (w1 ++ w2) H) : va_P D cl w2 H := fun k q hk => h (w1.length + k) q (by rw [List.getElem?_append_right (Nat.le_add_right _ _), Nat.add_sub_cancel_left]; exact hk)
theorem va_D_l {A : Nat → Prop} {w1 w2 : va_W} (h : va_D A (w1 ++ w2)) : va_D A w1 :=
  have e : ∀ (k : Nat) (q : Nat × va_E), w1[k]? = some q → (w1 ++ w2)[k]? = some q := fun k q hk => by rw [List.getElem?_append_left (List.getElem?_eq_some_iff.mp hk).1]; exact hk
  ⟨fun i j p q hi hj hpq => h.1 i j p q (e i p hi) (e j q hj) hpq, fun k q hk => h.2 k q (e k q hk)⟩
theorem va_D_r {A : Nat → Prop} {w1 w2 : va_W} (h : va_D A (w1 ++ w2)) : va_D A w2 :=
  have e : ∀ (k : Nat) (q : Nat × va_E), w2[k]? = some q → (w1 ++ w2)[w1.length + k]? = some q := fun k q hk => by rw [List.getElem?_append_right (Nat.le_add_right _ _), Nat.add_sub_cancel_left]; exact hk
  ⟨fun i j p q hi hj hpq => Nat.add_left_cancel (h.1 _ _ p q (e i p hi) (e j q hj) hpq), fun k q hk => h.2 _ q (e k q hk)⟩
theorem va_D_x {A : Nat → Prop} {w1 w2 : va_W} (h : va_D A (w1 ++ w2)) {i j : Nat} {p q : Nat × va_E} (hi : w1[i]? = some p) (hj : w2[j]? = some q) : ¬ p.1 = q.1 := fun hpq => by
  have hl := (List.getElem?_eq_some_iff.mp hi).1
  have := h.1 i (w1.length + j) p q (by rw [List.getElem?_append_left hl]; exact hi) (by rw [List.getElem?_append_right (Nat.le_add_right _ _), Nat.add_sub_cancel_left]; exact hj) hpq
  omega

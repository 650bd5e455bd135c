/-! ===== the constructors ===== -/
def i_Rm (d mc ms : Nat) : Room := { frames := d, cells := mc, slots := ms, locals := 38 * d }
theorem in_oi : Cond.instanceMethod objectInit ∈ gw := gw_mem (List.mem_of_getElem? (i := 17) (by decide +kernel)) (by decide +kernel)
theorem in_oc : Cond.code objectInit ⟨#[0xb1]⟩ 1 none ∈ gw := gw_mem (List.mem_of_getElem? (i := 18) (by decide +kernel)) (by decide +kernel)
theorem in_ai : Cond.arrayClass .int ∈ gw := gw_mem (List.mem_of_getElem? (i := 51) (by decide +kernel)) (by decide +kernel)
theorem in_l1 : Cond.methodLink RX1 3 objectInit ∈ gw := gw_mem (List.mem_of_getElem? (i := 57) (by decide +kernel)) (by decide +kernel)
theorem in_l2 : Cond.methodLink RX2 3 objectInit ∈ gw := gw_mem (List.mem_of_getElem? (i := 140) (by decide +kernel)) (by decide +kernel)
theorem in_l3 : Cond.methodLink RX3 3 objectInit ∈ gw := gw_mem (List.mem_of_getElem? (i := 24) (by decide +kernel)) (by decide +kernel)
abbrev iar (cI : ClassId) (q n : Nat) : Nat × va_E := (q, .inl (cI, n, .inl (fun _ => 0)))
theorem nX1 (l : Launch) (D : va_G) (cI cII cS : ClassId) (h0 n : Nat) (hn : n < 5000) : iCon D cI cII cS l yX1_init cX1_init 2 (i_Rm 2 2 (n + n)) [.ref h0, .int (nI n)] [(h0, .inr (1, [.null, .null, .int 0]))] (fun u : Nat × Nat => [(h0, .inr (1, [.ref u.1, .ref u.2, .int 0])), iar cI u.1 n, iar cI u.2 n]) 2 (n + n) := by
  refine iCon.mk (lv := [(0, .ref h0), (1, .int (nI n))]) (by decide) rfl (Nat.le_of_ble_eq_true rfl) rfl ?_
  intro X A hl hR hin hA hr C
  refine i_aload_n C 0 rfl dX1_init_0 rfl ?_
  refine i_obj C in_l1 in_oi in_oc dX1_init_1 (by rw [hR]; exact Nat.le_of_ble_eq_true rfl) (by rw [hR]; exact Nat.le_of_ble_eq_true rfl) ?_
  refine i_aload_n C 0 rfl dX1_init_4 rfl ?_
  refine i_iconst C dX1_init_5 rfl ?_
  refine i_put C fl_RX1_9 0 rfl rfl rfl (Nat.le_of_ble_eq_true rfl) dX1_init_6 rfl ?_
  refine i_aload_n C 0 rfl dX1_init_9 rfl ?_
  refine i_iload_n C 1 rfl dX1_init_10 rfl ?_
  refine i_newa C in_ai (nI_pos (by omega)) (nI_clamp (by omega)) (by omega) (by rw [hR]; exact Nat.le_of_ble_eq_true rfl) (by rw [hR]; show 0 + n ≤ n + n; omega) dX1_init_11 (fun q1 => ?_)
  refine i_putF C hin fl_RX1_15 (fun T h => by cases h; rfl) 0 rfl rfl rfl (Nat.le_of_ble_eq_true rfl) dX1_init_13 rfl ?_
  refine i_aload_n C 0 rfl dX1_init_16 rfl ?_
  refine i_iload_n C 1 rfl dX1_init_17 rfl ?_
  refine i_newa C in_ai (nI_pos (by omega)) (nI_clamp (by omega)) (by omega) (by rw [hR]; exact Nat.le_of_ble_eq_true rfl) (by rw [hR]; show 0 + n + n ≤ n + n; omega) dX1_init_18 (fun q2 => ?_)
  refine i_putF C hin fl_RX1_19 (fun T h => by cases h; rfl) 0 rfl rfl rfl (Nat.le_of_ble_eq_true rfl) dX1_init_20 rfl ?_
  rw [show 0 + n + n = n + n by omega]
  exact i_ret C hA hr (q1, q2) [0, 1, 2] rfl (fun h => h) dX1_init_23
theorem nX2 (l : Launch) (D : va_G) (cI cII cS : ClassId) (h0 : Nat) : iCon D cI cII cS l yX2_init cX2_init 1 (i_Rm 2 1 60) [.ref h0] [(h0, .inr (2, [.null, .int 0, .int 0]))] (fun u : Nat => [(h0, .inr (2, [.ref u, .int (-1), .int 0])), iar cI u 60]) 1 60 := by
  refine iCon.mk (lv := [(0, .ref h0)]) (by decide) rfl (Nat.le_of_ble_eq_true rfl) rfl ?_
  intro X A hl hR hin hA hr C
  refine i_aload_n C 0 rfl dX2_init_0 rfl ?_
  refine i_obj C in_l2 in_oi in_oc dX2_init_1 (by rw [hR]; exact Nat.le_of_ble_eq_true rfl) (by rw [hR]; exact Nat.le_of_ble_eq_true rfl) ?_
  refine i_aload_n C 0 rfl dX2_init_4 rfl ?_
  refine i_bipush C dX2_init_5 rfl ?_
  refine i_newa (N := 60) C in_ai (by decide) rfl (by decide) (by rw [hR]; exact Nat.le_of_ble_eq_true rfl) (by rw [hR]; exact Nat.le_of_ble_eq_true rfl) dX2_init_7 (fun q1 => ?_)
  refine i_putF C hin fl_RX2_9 (fun T h => by cases h; rfl) 0 rfl rfl rfl (Nat.le_of_ble_eq_true rfl) dX2_init_9 rfl ?_
  refine i_aload_n C 0 rfl dX2_init_12 rfl ?_
  refine i_iconst C dX2_init_13 rfl ?_
  refine i_put C fl_RX2_15 0 rfl rfl rfl (Nat.le_of_ble_eq_true rfl) dX2_init_14 rfl ?_
  refine i_aload_n C 0 rfl dX2_init_17 rfl ?_
  refine i_iconst C dX2_init_18 rfl ?_
  refine i_put C fl_RX2_19 0 rfl rfl rfl (Nat.le_of_ble_eq_true rfl) dX2_init_19 rfl ?_
  exact i_ret C hA hr q1 [0, 1] rfl (fun h => h) dX2_init_22
theorem nX3 (l : Launch) (D : va_G) (cI cII cS : ClassId) (h0 : Nat) (b : Int32) (hb : b = 0 ∨ b = 1) (w most nb np : Nat) (hw : w < 100) (hm : most < 100) (e1 : nI most * (nI w + 1) - 1 = nI nb) (e2 : nI most * nI w = nI np) (hnb : nb < 5000) (hnp : np < 5000) : iCon D cI cII cS l yX3_init cX3_init 4 (i_Rm 2 2 (nb + np)) [.ref h0, .int b, .int (nI w), .int (nI most)] [(h0, .inr (3, [.int 0, .int 0, .null, .null, .int 0, .int 0, .int 0]))] (fun u : Nat × Nat => [(h0, .inr (3, [.int b, .int (nI w), .ref u.1, .ref u.2, .int 0, .int 0, .int (-1)])), iar cI u.1 nb, iar cI u.2 np]) 2 (nb + np) := by
  refine iCon.mk (lv := [(0, .ref h0), (1, .int b), (2, .int (nI w)), (3, .int (nI most))]) (by decide) rfl (Nat.le_of_ble_eq_true rfl) rfl ?_
  intro X A hl hR hin hA hr C
  refine i_aload_n C 0 rfl dX3_init_0 rfl ?_
  refine i_obj C in_l3 in_oi in_oc dX3_init_1 (by rw [hR]; exact Nat.le_of_ble_eq_true rfl) (by rw [hR]; exact Nat.le_of_ble_eq_true rfl) ?_
  refine i_aload_n C 0 rfl dX3_init_4 rfl ?_
  refine i_iconst C dX3_init_5 rfl ?_
  refine i_put C fl_RX3_9 0 rfl rfl rfl (Nat.le_of_ble_eq_true rfl) dX3_init_6 rfl ?_
  refine i_aload_n C 0 rfl dX3_init_9 rfl ?_
  refine i_iconst C dX3_init_10 rfl ?_
  refine i_put C fl_RX3_15 0 rfl rfl rfl (Nat.le_of_ble_eq_true rfl) dX3_init_11 rfl ?_
  refine i_aload_n C 0 rfl dX3_init_14 rfl ?_
  refine i_iconst C dX3_init_15 rfl ?_
  refine i_put C fl_RX3_18 0 rfl rfl rfl (Nat.le_of_ble_eq_true rfl) dX3_init_16 rfl ?_
  refine i_aload_n C 0 rfl dX3_init_19 rfl ?_
  refine i_iload_n C 1 rfl dX3_init_20 rfl ?_
  refine i_putF C hin fl_RX3_21 (fun T h => by cases h; rfl) 0 rfl (by rcases hb with rfl | rfl <;> rfl) (by rcases hb with rfl | rfl <;> rfl) (Nat.le_of_ble_eq_true rfl) dX3_init_21 rfl ?_
  refine i_aload_n C 0 rfl dX3_init_24 rfl ?_
  refine i_iload_n C 2 rfl dX3_init_25 rfl ?_
  refine i_putF C hin fl_RX3_25 (fun T h => by cases h; rfl) 0 rfl rfl rfl (Nat.le_of_ble_eq_true rfl) dX3_init_26 rfl ?_
  refine i_aload_n C 0 rfl dX3_init_29 rfl ?_
  refine i_iload_n C 3 rfl dX3_init_30 rfl ?_
  refine i_iload_n C 2 rfl dX3_init_31 rfl ?_
  refine i_iconst C dX3_init_32 rfl ?_
  refine i_iadd C dX3_init_33 rfl ?_
  refine i_imul C dX3_init_34 rfl ?_
  refine i_iconst C dX3_init_35 rfl ?_
  refine i_isub C dX3_init_36 e1 ?_
  refine i_newa (N := nb) C in_ai (nI_pos (by omega)) (nI_clamp (by omega)) (by omega) (by rw [hR]; exact Nat.le_of_ble_eq_true rfl) (by rw [hR]; show 0 + nb ≤ nb + np; omega) dX3_init_37 (fun q1 => ?_)
  refine i_putF C hin fl_RX3_28 (fun T h => by cases h; rfl) 0 rfl rfl rfl (Nat.le_of_ble_eq_true rfl) dX3_init_39 rfl ?_
  refine i_aload_n C 0 rfl dX3_init_42 rfl ?_
  refine i_iload_n C 3 rfl dX3_init_43 rfl ?_
  refine i_iload_n C 2 rfl dX3_init_44 rfl ?_
  refine i_imul C dX3_init_45 e2 ?_
  refine i_newa (N := np) C in_ai (nI_pos (by omega)) (nI_clamp (by omega)) (by omega) (by rw [hR]; exact Nat.le_of_ble_eq_true rfl) (by rw [hR]; show 0 + nb + np ≤ nb + np; omega) dX3_init_46 (fun q2 => ?_)
  refine i_putF C hin fl_RX3_32 (fun T h => by cases h; rfl) 0 rfl rfl rfl (Nat.le_of_ble_eq_true rfl) dX3_init_48 rfl ?_
  rw [show 0 + nb + np = nb + np by omega]
  exact i_ret C hA hr (q1, q2) [0, 1, 2] rfl (fun h => h) dX3_init_51

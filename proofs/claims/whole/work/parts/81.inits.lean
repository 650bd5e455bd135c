/-! ===== the constructors ===== -/
def i_Rm (d mc ms : Nat) : Room := { frames := d, cells := mc, slots := ms, locals := 38 * d }
theorem in_oi : Cond.instanceMethod objectInit ∈ gw := gw_mem (List.mem_of_getElem? (i := 22) (by decide +kernel)) (by decide +kernel)
theorem in_oc : Cond.code objectInit ⟨#[0xb1]⟩ 1 none ∈ gw := gw_mem (List.mem_of_getElem? (i := 23) (by decide +kernel)) (by decide +kernel)
theorem in_ai : Cond.arrayClass .int ∈ gw := gw_mem (List.mem_of_getElem? (i := 56) (by decide +kernel)) (by decide +kernel)
theorem in_l1 : Cond.methodLink RX1 3 objectInit ∈ gw := gw_mem (List.mem_of_getElem? (i := 62) (by decide +kernel)) (by decide +kernel)
theorem in_l2 : Cond.methodLink RX2 3 objectInit ∈ gw := gw_mem (List.mem_of_getElem? (i := 145) (by decide +kernel)) (by decide +kernel)
theorem in_l3 : Cond.methodLink RX3 3 objectInit ∈ gw := gw_mem (List.mem_of_getElem? (i := 29) (by decide +kernel)) (by decide +kernel)
abbrev iar (cI : ClassId) (q n : Nat) : Nat × va_E := (q, .inl (cI, n, .inl (fun _ => 0)))
theorem nX1 (l : Launch) (D : va_G) (cI cII cS : ClassId) (h0 n : Nat) (hn : n < 5000) : iCon D cI cII cS l yX1_init cX1_init 2 (i_Rm 2 2 (n + n)) [.ref h0, .int (nI n)] [(h0, .inr (1, [.null, .null, .int 0]))] (fun u : Nat × Nat => [(h0, .inr (1, [.ref u.1, .ref u.2, .int 0])), iar cI u.1 n, iar cI u.2 n]) 2 (n + n) := by
  refine iCon.mk (lv := [(0, .ref h0), (1, .int (nI n))]) (by decide) rfl (Nat.le_of_ble_eq_true rfl) rfl ?_
  intro X A hl hR hin hA hr C
  refine i_aload_n C 0 rfl dX1_init_0 rfl ?_
  refine i_obj C in_l1 in_oi in_oc dX1_init_1 (by rw [hR]; exact Nat.le_of_ble_eq_true rfl) (by rw [hR]; exact Nat.le_of_ble_eq_true rfl) ?_
  refine i_aload_n C 0 rfl dX1_init_4 rfl ?_
  refine i_iconst C dX1_init_5 rfl ?_
  refine i_put C fl_RX1_9 0 rfl rfl rfl (Nat.le_of_ble_eq_true rfl) dX1_init_6 rfl ?_
  refine i_aload_n C 0 rfl dX1_init_9 rfl ?_
  refine i_iload_n C 1 rfl dX1_init_10 rfl ?_
  refine i_newa C in_ai (nI_pos (by omega)) (nI_clamp (by omega)) (by omega) (by rw [hR]; exact Nat.le_of_ble_eq_true rfl) (by rw [hR]; show 0 + n ≤ n + n; omega) dX1_init_11 (fun q1 => ?_)
  refine i_putF C hin fl_RX1_15 (fun T h => by cases h; rfl) 0 rfl rfl rfl (Nat.le_of_ble_eq_true rfl) dX1_init_13 rfl ?_
  refine i_aload_n C 0 rfl dX1_init_16 rfl ?_
  refine i_iload_n C 1 rfl dX1_init_17 rfl ?_
  refine i_newa C in_ai (nI_pos (by omega)) (nI_clamp (by omega)) (by omega) (by rw [hR]; exact Nat.le_of_ble_eq_true rfl) (by rw [hR]; show 0 + n + n ≤ n + n; omega) dX1_init_18 (fun q2 => ?_)
  refine i_putF C hin fl_RX1_19 (fun T h => by cases h; rfl) 0 rfl rfl rfl (Nat.le_of_ble_eq_true rfl) dX1_init_20 rfl ?_
  rw [show 0 + n + n = n + n by omega]
  exact i_ret C hA hr (q1, q2) [0, 1, 2] rfl (fun h => h) dX1_init_23

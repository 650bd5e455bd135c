/-! X5_reads -/
theorem zX5_reads {G : qG} {l : Launch} {σ : qM}  {res : qM}  (h : fX5_reads σ  = some res) : qCon sM G l yX5_reads cX5_reads 1 none 5 [.ref (q_ad G 0)] σ none res := by
  refine qCon.mkF (lv := [(0, .ref (q_ad G 0))]) (plainFor_of_name (by decide)) (Nat.le_of_ble_eq_true rfl) rfl (fun X hX C => ?_)
  unfold fX5_reads at h
  refine q_aload_n (pc := 0) C 0 rfl dX5_reads_0 rfl ?_
  refine q_iconst (pc := 1) C dX5_reads_1 ci_0 ?_
  obtain ⟨q1, hq1, h⟩ := q_bind h
  refine q_callV1 (pc := 2) (st := []) C (zX5_readsText hq1) yi_X5_readsText ml_RX5_122 kM_0 rfl (by decide) rfl (Nat.le_of_ble_eq_true rfl) dX5_reads_2 ?_
  refine q_pop (pc := 5) C dX5_reads_5 rfl ?_
  refine q_aload_n (pc := 6) C 0 rfl dX5_reads_6 rfl ?_
  refine q_iconst (pc := 7) C dX5_reads_7 ci_1 ?_
  obtain ⟨q2, hq2, h⟩ := q_bind h
  refine q_callV1 (pc := 8) (st := []) C (zX5_readsText hq2) yi_X5_readsText ml_RX5_122 kM_0 rfl (by decide) rfl (Nat.le_of_ble_eq_true rfl) dX5_reads_8 ?_
  refine q_pop (pc := 11) C dX5_reads_11 rfl ?_
  obtain rfl := Option.some.inj h
  exact q_vret (pc := 12) C dX5_reads_12
/-! X5_fault -/
theorem zX5_fault {G : qG} {l : Launch} {σ : qM} {x1 : Int32} {res : (Int32 × qM)}  (h : fX5_fault σ x1 = some res) : qCon sM G l yX5_fault cX5_fault 2 (some .int) 5 [.ref (q_ad G 0), .int x1] σ (some (.int res.1)) res.2 := by
  refine qCon.mkF (lv := [(0, .ref (q_ad G 0)), (1, .int x1)]) (plainFor_of_name (by decide)) (Nat.le_of_ble_eq_true rfl) rfl (fun X hX C => ?_)
  unfold fX5_fault at h
  refine q_iload_n (pc := 0) C 1 rfl dX5_fault_0 rfl ?_
  obtain ⟨q1, hq1, h⟩ := q_bind h
  refine q_callS1 (pc := 1) (st := []) C (zX5_isTwo hq1) ys_X5_isTwo ml_RX5_89 rfl (by decide) rfl (Nat.le_of_ble_eq_true rfl) dX5_fault_1 ?_
  refine q_if_eq (pc := 4) C 15 dX5_fault_4 (by decide) (fun c2 => ?_) (fun c2 => ?_)
  · have h := q_t c2 h
    refine q_bipush (pc := 15) C dX5_fault_15 cb_m2 ?_
    obtain rfl := Option.some.inj h
    exact q_iret (pc := 17) C dX5_fault_17
  · have h := q_f c2 h
    refine q_aload_n (pc := 7) C 0 rfl dX5_fault_7 rfl ?_
    refine q_iload_n (pc := 8) C 1 rfl dX5_fault_8 rfl ?_
    obtain ⟨q3, hq3, h⟩ := q_bind h
    refine q_callV1 (pc := 9) (st := []) C (zX5_readsText hq3) yi_X5_readsText ml_RX5_122 kM_0 rfl (by decide) rfl (Nat.le_of_ble_eq_true rfl) dX5_fault_9 ?_
    refine q_goto (pc := 12) C 17 dX5_fault_12 (by decide) ?_
    obtain rfl := Option.some.inj h
    exact q_iret (pc := 17) C dX5_fault_17
/-! X5_isLeaf -/
theorem zX5_isLeaf {G : qG} {l : Launch} {σ : qM} {x1 : Int32} {res : (Int32 × qM)}  (h : fX5_isLeaf σ x1 = some res) : qCon sM G l yX5_isLeaf cX5_isLeaf 2 (some .boolean) 1 [.ref (q_ad G 0), .int x1] σ (some (.int res.1)) res.2 := by
  refine qCon.mkF (lv := [(0, .ref (q_ad G 0)), (1, .int x1)]) (plainFor_of_name (by decide)) (Nat.le_of_ble_eq_true rfl) rfl (fun X hX C => ?_)
  unfold fX5_isLeaf at h
  refine q_iload_n (pc := 0) C 1 rfl dX5_isLeaf_0 rfl ?_
  refine q_i2l (pc := 1) C dX5_isLeaf_1 ?_
  refine q_lconst (pc := 2) (v := (0 : Int64)) C dX5_isLeaf_2 rfl ?_
  refine q_aload_n (pc := 3) C 0 rfl dX5_isLeaf_3 rfl ?_
  refine q_getI (pc := 4) C fl_RX5_103 kM_0 rfl dX5_isLeaf_4 ?_
  refine q_iconst (pc := 7) C dX5_isLeaf_7 ci_1 ?_
  refine q_isub (pc := 8) C dX5_isLeaf_8 ?_
  refine q_i2l (pc := 9) C dX5_isLeaf_9 ?_
  obtain ⟨q1, hq1, h⟩ := q_bind h
  refine q_callS1 (pc := 10) (st := []) C (zX5_in hq1) ys_X5_in ml_RX5_61 rfl (by decide) rfl (Nat.le_of_ble_eq_true rfl) dX5_isLeaf_10 ?_
  obtain ⟨g2, h⟩ := q_guard h
  obtain rfl := Option.some.inj h
  exact q_zret (pc := 13) C g2 dX5_isLeaf_13
/-! X5_isLaw -/
theorem zX5_isLaw {G : qG} {l : Launch} {σ : qM} {x0 : Int32} {res : (Int32 × qM)}  (h : fX5_isLaw σ x0 = some res) : qCon sM G l yX5_isLaw cX5_isLaw 1 (some .boolean) 1 [.int x0] σ (some (.int res.1)) res.2 := by
  refine qCon.mkF (lv := [(0, .int x0)]) (plainFor_of_name (by decide)) (Nat.le_of_ble_eq_true rfl) rfl (fun X hX C => ?_)
  unfold fX5_isLaw at h
  refine q_iload_n (pc := 0) C 0 rfl dX5_isLaw_0 rfl ?_
  refine q_i2l (pc := 1) C dX5_isLaw_1 ?_
  refine q_lconst (pc := 2) (v := (0 : Int64)) C dX5_isLaw_2 rfl ?_
  refine q_ldc2 (pc := 3) C kn_RX5_125 dX5_isLaw_3 ?_
  obtain ⟨q1, hq1, h⟩ := q_bind h
  refine q_callS1 (pc := 6) (st := []) C (zX5_in hq1) ys_X5_in ml_RX5_61 rfl (by decide) rfl (Nat.le_of_ble_eq_true rfl) dX5_isLaw_6 ?_
  obtain ⟨g2, h⟩ := q_guard h
  obtain rfl := Option.some.inj h
  exact q_zret (pc := 9) C g2 dX5_isLaw_9
/-! X5_areLaws -/
theorem zX5_areLaws {G : qG} {l : Launch} {σ : qM} {x0 : Int32} {res : (Int32 × qM)}  (h : fX5_areLaws σ x0 = some res) : qCon sM G l yX5_areLaws cX5_areLaws 1 (some .boolean) 1 [.int x0] σ (some (.int res.1)) res.2 := by
  refine qCon.mkF (lv := [(0, .int x0)]) (plainFor_of_name (by decide)) (Nat.le_of_ble_eq_true rfl) rfl (fun X hX C => ?_)
  unfold fX5_areLaws at h
  refine q_iload_n (pc := 0) C 0 rfl dX5_areLaws_0 rfl ?_
  refine q_i2l (pc := 1) C dX5_areLaws_1 ?_
  refine q_lconst (pc := 2) (v := (0 : Int64)) C dX5_areLaws_2 rfl ?_
  refine q_ldc2 (pc := 3) C kn_RX5_92 dX5_areLaws_3 ?_
  obtain ⟨q1, hq1, h⟩ := q_bind h
  refine q_callS1 (pc := 6) (st := []) C (zX5_in hq1) ys_X5_in ml_RX5_61 rfl (by decide) rfl (Nat.le_of_ble_eq_true rfl) dX5_areLaws_6 ?_
  obtain ⟨g2, h⟩ := q_guard h
  obtain rfl := Option.some.inj h
  exact q_zret (pc := 9) C g2 dX5_areLaws_9
/-! X5_areTurns -/
theorem zX5_areTurns {G : qG} {l : Launch} {σ : qM} {x0 : Int32} {res : (Int32 × qM)}  (h : fX5_areTurns σ x0 = some res) : qCon sM G l yX5_areTurns cX5_areTurns 1 (some .boolean) 1 [.int x0] σ (some (.int res.1)) res.2 := by
  refine qCon.mkF (lv := [(0, .int x0)]) (plainFor_of_name (by decide)) (Nat.le_of_ble_eq_true rfl) rfl (fun X hX C => ?_)
  unfold fX5_areTurns at h
  refine q_iload_n (pc := 0) C 0 rfl dX5_areTurns_0 rfl ?_
  refine q_i2l (pc := 1) C dX5_areTurns_1 ?_
  refine q_lconst (pc := 2) (v := (0 : Int64)) C dX5_areTurns_2 rfl ?_
  refine q_ldc2 (pc := 3) C kn_RX5_68 dX5_areTurns_3 ?_
  obtain ⟨q1, hq1, h⟩ := q_bind h
  refine q_callS1 (pc := 6) (st := []) C (zX5_in hq1) ys_X5_in ml_RX5_61 rfl (by decide) rfl (Nat.le_of_ble_eq_true rfl) dX5_areTurns_6 ?_
  obtain ⟨g2, h⟩ := q_guard h
  obtain rfl := Option.some.inj h
  exact q_zret (pc := 9) C g2 dX5_areTurns_9
/-! X5_isDay -/
theorem zX5_isDay {G : qG} {l : Launch} {σ : qM} {x0 : Int32} {res : (Int32 × qM)}  (h : fX5_isDay σ x0 = some res) : qCon sM G l yX5_isDay cX5_isDay 1 (some .boolean) 1 [.int x0] σ (some (.int res.1)) res.2 := by
  refine qCon.mkF (lv := [(0, .int x0)]) (plainFor_of_name (by decide)) (Nat.le_of_ble_eq_true rfl) rfl (fun X hX C => ?_)
  unfold fX5_isDay at h
  refine q_iload_n (pc := 0) C 0 rfl dX5_isDay_0 rfl ?_
  refine q_i2l (pc := 1) C dX5_isDay_1 ?_
  refine q_lconst (pc := 2) (v := (0 : Int64)) C dX5_isDay_2 rfl ?_
  refine q_ldc2 (pc := 3) C kn_RX5_127 dX5_isDay_3 ?_
  obtain ⟨q1, hq1, h⟩ := q_bind h
  refine q_callS1 (pc := 6) (st := []) C (zX5_in hq1) ys_X5_in ml_RX5_61 rfl (by decide) rfl (Nat.le_of_ble_eq_true rfl) dX5_isDay_6 ?_
  obtain ⟨g2, h⟩ := q_guard h
  obtain rfl := Option.some.inj h
  exact q_zret (pc := 9) C g2 dX5_isDay_9
/-! X5_leaf -/
theorem zX5_leaf {G : qG} {l : Launch} {σ : qM} {x1 : Int32} {x2 : Int32} {res : (Int32 × qM)}  (h : fX5_leaf σ x1 x2 = some res) : qCon sM G l yX5_leaf cX5_leaf 3 (some .int) 6 [.ref (q_ad G 0), .int x1, .int x2] σ (some (.int res.1)) res.2 := by
  refine qCon.mkF (lv := [(0, .ref (q_ad G 0)), (1, .int x1), (2, .int x2)]) (plainFor_of_name (by decide)) (Nat.le_of_ble_eq_true rfl) rfl (fun X hX C => ?_)
  unfold fX5_leaf at h
  refine q_aload_n (pc := 0) C 0 rfl dX5_leaf_0 rfl ?_
  obtain ⟨q1, hq1, h⟩ := q_bind h
  refine q_callV0 (pc := 1) (st := []) C (zX5_reads hq1) yi_X5_reads ml_RX5_129 kM_0 rfl (by decide) rfl (Nat.le_of_ble_eq_true rfl) dX5_leaf_1 ?_
  refine q_aload_n (pc := 4) C 0 rfl dX5_leaf_4 rfl ?_
  refine q_iload_n (pc := 5) C 1 rfl dX5_leaf_5 rfl ?_
  obtain ⟨q2, hq2, h⟩ := q_bind h
  refine q_callV1 (pc := 6) (st := []) C (zX5_isLeaf hq2) yi_X5_isLeaf ml_RX5_132 kM_0 rfl (by decide) rfl (Nat.le_of_ble_eq_true rfl) dX5_leaf_6 ?_
  refine q_if_eq (pc := 9) C 37 dX5_leaf_9 (by decide) (fun c3 => ?_) (fun c3 => ?_)
  · have h := q_t c3 h
    refine q_bipush (pc := 37) C dX5_leaf_37 cb_m2 ?_
    obtain rfl := Option.some.inj h
    exact q_iret (pc := 39) C dX5_leaf_39
  · have h := q_f c3 h
    refine q_iload_n (pc := 12) C 2 rfl dX5_leaf_12 rfl ?_
    refine q_i2l (pc := 13) C dX5_leaf_13 ?_
    refine q_lconst (pc := 14) (v := (0 : Int64)) C dX5_leaf_14 rfl ?_
    refine q_ldc2 (pc := 15) C kn_RX5_74 dX5_leaf_15 ?_
    obtain ⟨q4, hq4, h⟩ := q_bind h
    refine q_callS1 (pc := 18) (st := []) C (zX5_in hq4) ys_X5_in ml_RX5_61 rfl (by decide) rfl (Nat.le_of_ble_eq_true rfl) dX5_leaf_18 ?_
    refine q_if_eq (pc := 21) C 37 dX5_leaf_21 (by decide) (fun c5 => ?_) (fun c5 => ?_)
    · have h := q_t c5 h
      refine q_bipush (pc := 37) C dX5_leaf_37 cb_m2 ?_
      obtain rfl := Option.some.inj h
      exact q_iret (pc := 39) C dX5_leaf_39
    · have h := q_f c5 h
      refine q_aload_n (pc := 24) C 0 rfl dX5_leaf_24 rfl ?_
      refine q_getR (pc := 25) (t := 7) C fl_RX5_28 kM_0 rfl rM_0_9 dX5_leaf_25 ?_
      refine q_iconst (pc := 28) C dX5_leaf_28 ci_3 ?_
      refine q_iload_n (pc := 29) C 1 rfl dX5_leaf_29 rfl ?_
      refine q_imul (pc := 30) C dX5_leaf_30 ?_
      refine q_iload_n (pc := 31) C 2 rfl dX5_leaf_31 rfl ?_
      refine q_iadd (pc := 32) C dX5_leaf_32 ?_
      obtain ⟨g6, h⟩ := q_guard h
      refine q_iald (pc := 33) C kM_7 lM_7 g6 dX5_leaf_33 ?_
      refine q_goto (pc := 34) C 39 dX5_leaf_34 (by decide) ?_
      obtain rfl := Option.some.inj h
      exact q_iret (pc := 39) C dX5_leaf_39
/-! X5_rule -/
theorem zX5_rule {G : qG} {l : Launch} {σ : qM} {x1 : Int32} {x2 : Int32} {res : (Int32 × qM)}  (h : fX5_rule σ x1 x2 = some res) : qCon sM G l yX5_rule cX5_rule 3 (some .int) 6 [.ref (q_ad G 0), .int x1, .int x2] σ (some (.int res.1)) res.2 := by
  refine qCon.mkF (lv := [(0, .ref (q_ad G 0)), (1, .int x1), (2, .int x2)]) (plainFor_of_name (by decide)) (Nat.le_of_ble_eq_true rfl) rfl (fun X hX C => ?_)
  unfold fX5_rule at h
  refine q_aload_n (pc := 0) C 0 rfl dX5_rule_0 rfl ?_
  obtain ⟨q1, hq1, h⟩ := q_bind h
  refine q_callV0 (pc := 1) (st := []) C (zX5_reads hq1) yi_X5_reads ml_RX5_129 kM_0 rfl (by decide) rfl (Nat.le_of_ble_eq_true rfl) dX5_rule_1 ?_
  refine q_iload_n (pc := 4) C 1 rfl dX5_rule_4 rfl ?_
  refine q_i2l (pc := 5) C dX5_rule_5 ?_
  refine q_lconst (pc := 6) (v := (0 : Int64)) C dX5_rule_6 rfl ?_
  refine q_aload_n (pc := 7) C 0 rfl dX5_rule_7 rfl ?_
  refine q_getI (pc := 8) C fl_RX5_106 kM_0 rfl dX5_rule_8 ?_
  refine q_iconst (pc := 11) C dX5_rule_11 ci_1 ?_
  refine q_isub (pc := 12) C dX5_rule_12 ?_
  refine q_i2l (pc := 13) C dX5_rule_13 ?_
  obtain ⟨q2, hq2, h⟩ := q_bind h
  refine q_callS1 (pc := 14) (st := []) C (zX5_in hq2) ys_X5_in ml_RX5_61 rfl (by decide) rfl (Nat.le_of_ble_eq_true rfl) dX5_rule_14 ?_
  refine q_if_eq (pc := 17) C 45 dX5_rule_17 (by decide) (fun c3 => ?_) (fun c3 => ?_)
  · have h := q_t c3 h
    refine q_bipush (pc := 45) C dX5_rule_45 cb_m2 ?_
    obtain rfl := Option.some.inj h
    exact q_iret (pc := 47) C dX5_rule_47
  · have h := q_f c3 h
    refine q_iload_n (pc := 20) C 2 rfl dX5_rule_20 rfl ?_
    refine q_i2l (pc := 21) C dX5_rule_21 ?_
    refine q_lconst (pc := 22) (v := (0 : Int64)) C dX5_rule_22 rfl ?_
    refine q_ldc2 (pc := 23) C kn_RX5_135 dX5_rule_23 ?_
    obtain ⟨q4, hq4, h⟩ := q_bind h
    refine q_callS1 (pc := 26) (st := []) C (zX5_in hq4) ys_X5_in ml_RX5_61 rfl (by decide) rfl (Nat.le_of_ble_eq_true rfl) dX5_rule_26 ?_
    refine q_if_eq (pc := 29) C 45 dX5_rule_29 (by decide) (fun c5 => ?_) (fun c5 => ?_)
    · have h := q_t c5 h
      refine q_bipush (pc := 45) C dX5_rule_45 cb_m2 ?_
      obtain rfl := Option.some.inj h
      exact q_iret (pc := 47) C dX5_rule_47
    · have h := q_f c5 h
      refine q_aload_n (pc := 32) C 0 rfl dX5_rule_32 rfl ?_
      refine q_getR (pc := 33) (t := 8) C fl_RX5_31 kM_0 rfl rM_0_11 dX5_rule_33 ?_
      refine q_iconst (pc := 36) C dX5_rule_36 ci_5 ?_
      refine q_iload_n (pc := 37) C 1 rfl dX5_rule_37 rfl ?_
      refine q_imul (pc := 38) C dX5_rule_38 ?_
      refine q_iload_n (pc := 39) C 2 rfl dX5_rule_39 rfl ?_
      refine q_iadd (pc := 40) C dX5_rule_40 ?_
      obtain ⟨g6, h⟩ := q_guard h
      refine q_iald (pc := 41) C kM_8 lM_8 g6 dX5_rule_41 ?_
      refine q_goto (pc := 42) C 47 dX5_rule_42 (by decide) ?_
      obtain rfl := Option.some.inj h
      exact q_iret (pc := 47) C dX5_rule_47
/-! X5_crack -/
theorem tX5_crack_75 {X : qX} {G : qG} (C : qC sM X G RX5 cX5_crack 3 1 (some .int))  (σ : qM)  (res : (Int32 × qM))  (h : fX5_crack_75  σ  = some res) : qY sM X G 3 (q_Q sM X G (some (.int res.1)) res.2) σ 75 [(0, .ref (q_ad G 0))] [] := by
  unfold fX5_crack_75 at h
  refine q_aload_n (pc := 75) C 0 rfl dX5_crack_75 rfl ?_
  refine q_getI (pc := 76) C fl_RX5_139 kM_0 rfl dX5_crack_76 ?_
  obtain rfl := Option.some.inj h
  exact q_iret (pc := 79) C dX5_crack_79
theorem tX5_crack_65 {X : qX} {G : qG} (C : qC sM X G RX5 cX5_crack 3 1 (some .int))  (σ : qM)  (res : (Int32 × qM))  (h : fX5_crack_65  σ  = some res) : qY sM X G 3 (q_Q sM X G (some (.int res.1)) res.2) σ 65 [(0, .ref (q_ad G 0))] [] := by
  unfold fX5_crack_65 at h
  refine q_aload_n (pc := 65) C 0 rfl dX5_crack_65 rfl ?_
  refine q_dup (pc := 66) C dX5_crack_66 rfl ?_
  refine q_getI (pc := 67) C fl_RX5_139 kM_0 rfl dX5_crack_67 ?_
  refine q_iconst (pc := 70) C dX5_crack_70 ci_1 ?_
  refine q_iadd (pc := 71) C dX5_crack_71 ?_
  refine q_putI (pc := 72) C fl_RX5_139 kM_0 rfl rfl rfl dX5_crack_72 ?_
  exact tX5_crack_75 C _ _ h
theorem tX5_crack_51 {X : qX} {G : qG} (C : qC sM X G RX5 cX5_crack 3 1 (some .int))  (σ : qM) (x2 : Int32) (res : (Int32 × qM))  (h : fX5_crack_51  σ x2 = some res) : qY sM X G 3 (q_Q sM X G (some (.int res.1)) res.2) σ 51 [(0, .ref (q_ad G 0)), (2, .int x2)] [] := by
  unfold fX5_crack_51 at h
  refine q_aload_n (pc := 51) C 0 rfl dX5_crack_51 rfl ?_
  refine q_getR (pc := 52) (t := 9) C fl_RX5_34 kM_0 rfl rM_0_13 dX5_crack_52 ?_
  refine q_iconst (pc := 55) C dX5_crack_55 ci_2 ?_
  refine q_aload_n (pc := 56) C 0 rfl dX5_crack_56 rfl ?_
  refine q_getI (pc := 57) C fl_RX5_139 kM_0 rfl dX5_crack_57 ?_
  refine q_imul (pc := 60) C dX5_crack_60 ?_
  refine q_iconst (pc := 61) C dX5_crack_61 ci_1 ?_
  refine q_iadd (pc := 62) C dX5_crack_62 ?_
  refine q_iload_n (pc := 63) C 1 rfl dX5_crack_63 rfl ?_
  obtain ⟨g1, h⟩ := q_guard h
  refine q_iast (pc := 64) C kM_9 lM_9 g1 dX5_crack_64 ?_
  refine q_sub [0] rfl ?_
  exact tX5_crack_65 C _ _ h
theorem zX5_crack {G : qG} {l : Launch} {σ : qM} {x1 : Int32} {x2 : Int32} {res : (Int32 × qM)}  (h : fX5_crack σ x1 x2 = some res) : qCon sM G l yX5_crack cX5_crack 3 (some .int) 1 [.ref (q_ad G 0), .int x1, .int x2] σ (some (.int res.1)) res.2 := by
  refine qCon.mkF (lv := [(0, .ref (q_ad G 0)), (1, .int x1), (2, .int x2)]) (plainFor_of_name (by decide)) (Nat.le_of_ble_eq_true rfl) rfl (fun X hX C => ?_)
  unfold fX5_crack at h
  refine q_iload_n (pc := 0) C 1 rfl dX5_crack_0 rfl ?_
  refine q_i2l (pc := 1) C dX5_crack_1 ?_
  refine q_lconst (pc := 2) (v := (0 : Int64)) C dX5_crack_2 rfl ?_
  refine q_ldc2 (pc := 3) C kn_RX5_137 dX5_crack_3 ?_
  obtain ⟨q1, hq1, h⟩ := q_bind h
  refine q_callS1 (pc := 6) (st := []) C (zX5_in hq1) ys_X5_in ml_RX5_61 rfl (by decide) rfl (Nat.le_of_ble_eq_true rfl) dX5_crack_6 ?_
  refine q_if_eq (pc := 9) C 24 dX5_crack_9 (by decide) (fun c2 => ?_) (fun c2 => ?_)
  · have h := q_t c2 h
    refine q_bipush (pc := 24) C dX5_crack_24 cb_m2 ?_
    obtain rfl := Option.some.inj h
    exact q_iret (pc := 26) C dX5_crack_26
  · have h := q_f c2 h
    refine q_iload_n (pc := 12) C 2 rfl dX5_crack_12 rfl ?_
    refine q_i2l (pc := 13) C dX5_crack_13 ?_
    refine q_lconst (pc := 14) (v := (0 : Int64)) C dX5_crack_14 rfl ?_
    refine q_ldc2 (pc := 15) C kn_RX5_137 dX5_crack_15 ?_
    obtain ⟨q3, hq3, h⟩ := q_bind h
    refine q_callS1 (pc := 18) (st := []) C (zX5_in hq3) ys_X5_in ml_RX5_61 rfl (by decide) rfl (Nat.le_of_ble_eq_true rfl) dX5_crack_18 ?_
    refine q_if_ne (pc := 21) C 27 dX5_crack_21 (by decide) (fun c4 => ?_) (fun c4 => ?_)
    · have h := q_f c4 h
      refine q_aload_n (pc := 27) C 0 rfl dX5_crack_27 rfl ?_
      refine q_getI (pc := 28) C fl_RX5_139 kM_0 rfl dX5_crack_28 ?_
      refine q_bipush (pc := 31) C dX5_crack_31 cb_8 ?_
      refine q_ic_ne (pc := 33) C 39 dX5_crack_33 (by decide) (fun c5 => ?_) (fun c5 => ?_)
      · have h := q_f c5 h
        refine q_aload_n (pc := 39) C 0 rfl dX5_crack_39 rfl ?_
        refine q_getR (pc := 40) (t := 9) C fl_RX5_34 kM_0 rfl rM_0_13 dX5_crack_40 ?_
        refine q_iconst (pc := 43) C dX5_crack_43 ci_2 ?_
        refine q_aload_n (pc := 44) C 0 rfl dX5_crack_44 rfl ?_
        refine q_getI (pc := 45) C fl_RX5_139 kM_0 rfl dX5_crack_45 ?_
        refine q_imul (pc := 48) C dX5_crack_48 ?_
        refine q_iload_n (pc := 49) C 1 rfl dX5_crack_49 rfl ?_
        obtain ⟨g6, h⟩ := q_guard h
        refine q_iast (pc := 50) C kM_9 lM_9 g6 dX5_crack_50 ?_
        refine q_sub [0, 2] rfl ?_
        exact tX5_crack_51 C _ _ _ h
      · have h := q_t c5 h
        refine q_bipush (pc := 36) C dX5_crack_36 cb_m4 ?_
        obtain rfl := Option.some.inj h
        exact q_iret (pc := 38) C dX5_crack_38
    · have h := q_t c4 h
      refine q_bipush (pc := 24) C dX5_crack_24 cb_m2 ?_
      obtain rfl := Option.some.inj h
      exact q_iret (pc := 26) C dX5_crack_26
/-! X5_deed -/
theorem tX5_deed_65 {X : qX} {G : qG} (C : qC sM X G RX5 cX5_deed 3 2 (some .int))  (σ : qM)  (res : (Int32 × qM))  (h : fX5_deed_65  σ  = some res) : qY sM X G 3 (q_Q sM X G (some (.int res.1)) res.2) σ 65 [(0, .ref (q_ad G 0))] [] := by
  unfold fX5_deed_65 at h
  refine q_aload_n (pc := 65) C 0 rfl dX5_deed_65 rfl ?_
  refine q_getI (pc := 66) C fl_RX5_148 kM_0 rfl dX5_deed_66 ?_
  obtain rfl := Option.some.inj h
  exact q_iret (pc := 69) C dX5_deed_69
theorem tX5_deed_55 {X : qX} {G : qG} (C : qC sM X G RX5 cX5_deed 3 2 (some .int))  (σ : qM)  (res : (Int32 × qM))  (h : fX5_deed_55  σ  = some res) : qY sM X G 3 (q_Q sM X G (some (.int res.1)) res.2) σ 55 [(0, .ref (q_ad G 0))] [] := by
  unfold fX5_deed_55 at h
  refine q_aload_n (pc := 55) C 0 rfl dX5_deed_55 rfl ?_
  refine q_dup (pc := 56) C dX5_deed_56 rfl ?_
  refine q_getI (pc := 57) C fl_RX5_148 kM_0 rfl dX5_deed_57 ?_
  refine q_iconst (pc := 60) C dX5_deed_60 ci_1 ?_
  refine q_iadd (pc := 61) C dX5_deed_61 ?_
  refine q_putI (pc := 62) C fl_RX5_148 kM_0 rfl rfl rfl dX5_deed_62 ?_
  exact tX5_deed_65 C _ _ h
theorem tX5_deed_41 {X : qX} {G : qG} (C : qC sM X G RX5 cX5_deed 3 2 (some .int))  (σ : qM) (x2 : Int32) (res : (Int32 × qM))  (h : fX5_deed_41  σ x2 = some res) : qY sM X G 3 (q_Q sM X G (some (.int res.1)) res.2) σ 41 [(0, .ref (q_ad G 0)), (2, .int x2)] [] := by
  unfold fX5_deed_41 at h
  refine q_aload_n (pc := 41) C 0 rfl dX5_deed_41 rfl ?_
  refine q_getR (pc := 42) (t := 10) C fl_RX5_37 kM_0 rfl rM_0_15 dX5_deed_42 ?_
  refine q_iconst (pc := 45) C dX5_deed_45 ci_2 ?_
  refine q_aload_n (pc := 46) C 0 rfl dX5_deed_46 rfl ?_
  refine q_getI (pc := 47) C fl_RX5_148 kM_0 rfl dX5_deed_47 ?_
  refine q_imul (pc := 50) C dX5_deed_50 ?_
  refine q_iconst (pc := 51) C dX5_deed_51 ci_1 ?_
  refine q_iadd (pc := 52) C dX5_deed_52 ?_
  refine q_iload_n (pc := 53) C 1 rfl dX5_deed_53 rfl ?_
  obtain ⟨g1, h⟩ := q_guard h
  refine q_iast (pc := 54) C kM_10 lM_10 g1 dX5_deed_54 ?_
  refine q_sub [0] rfl ?_
  exact tX5_deed_55 C _ _ h
theorem zX5_deed {G : qG} {l : Launch} {σ : qM} {x1 : Int32} {x2 : Int32} {res : (Int32 × qM)}  (h : fX5_deed σ x1 x2 = some res) : qCon sM G l yX5_deed cX5_deed 3 (some .int) 2 [.ref (q_ad G 0), .int x1, .int x2] σ (some (.int res.1)) res.2 := by
  refine qCon.mkF (lv := [(0, .ref (q_ad G 0)), (1, .int x1), (2, .int x2)]) (plainFor_of_name (by decide)) (Nat.le_of_ble_eq_true rfl) rfl (fun X hX C => ?_)
  unfold fX5_deed at h
  refine q_iload_n (pc := 0) C 1 rfl dX5_deed_0 rfl ?_
  obtain ⟨q1, hq1, h⟩ := q_bind h
  refine q_callS1 (pc := 1) (st := []) C (zX5_isDay hq1) ys_X5_isDay ml_RX5_142 rfl (by decide) rfl (Nat.le_of_ble_eq_true rfl) dX5_deed_1 ?_
  refine q_if_eq (pc := 4) C 14 dX5_deed_4 (by decide) (fun c2 => ?_) (fun c2 => ?_)
  · have h := q_t c2 h
    refine q_bipush (pc := 14) C dX5_deed_14 cb_m2 ?_
    obtain rfl := Option.some.inj h
    exact q_iret (pc := 16) C dX5_deed_16
  · have h := q_f c2 h
    refine q_iload_n (pc := 7) C 2 rfl dX5_deed_7 rfl ?_
    obtain ⟨q3, hq3, h⟩ := q_bind h
    refine q_callS1 (pc := 8) (st := []) C (zX5_isLaw hq3) ys_X5_isLaw ml_RX5_145 rfl (by decide) rfl (Nat.le_of_ble_eq_true rfl) dX5_deed_8 ?_
    refine q_if_ne (pc := 11) C 17 dX5_deed_11 (by decide) (fun c4 => ?_) (fun c4 => ?_)
    · have h := q_f c4 h
      refine q_aload_n (pc := 17) C 0 rfl dX5_deed_17 rfl ?_
      refine q_getI (pc := 18) C fl_RX5_148 kM_0 rfl dX5_deed_18 ?_
      refine q_bipush (pc := 21) C dX5_deed_21 cb_12 ?_
      refine q_ic_ne (pc := 23) C 29 dX5_deed_23 (by decide) (fun c5 => ?_) (fun c5 => ?_)
      · have h := q_f c5 h
        refine q_aload_n (pc := 29) C 0 rfl dX5_deed_29 rfl ?_
        refine q_getR (pc := 30) (t := 10) C fl_RX5_37 kM_0 rfl rM_0_15 dX5_deed_30 ?_
        refine q_iconst (pc := 33) C dX5_deed_33 ci_2 ?_
        refine q_aload_n (pc := 34) C 0 rfl dX5_deed_34 rfl ?_
        refine q_getI (pc := 35) C fl_RX5_148 kM_0 rfl dX5_deed_35 ?_
        refine q_imul (pc := 38) C dX5_deed_38 ?_
        refine q_iload_n (pc := 39) C 1 rfl dX5_deed_39 rfl ?_
        obtain ⟨g6, h⟩ := q_guard h
        refine q_iast (pc := 40) C kM_10 lM_10 g6 dX5_deed_40 ?_
        refine q_sub [0, 2] rfl ?_
        exact tX5_deed_41 C _ _ _ h
      · have h := q_t c5 h
        refine q_bipush (pc := 26) C dX5_deed_26 cb_m4 ?_
        obtain rfl := Option.some.inj h
        exact q_iret (pc := 28) C dX5_deed_28
    · have h := q_t c4 h
      refine q_bipush (pc := 14) C dX5_deed_14 cb_m2 ?_
      obtain rfl := Option.some.inj h
      exact q_iret (pc := 16) C dX5_deed_16
/-! X5_back -/
theorem tX5_back_51 {X : qX} {G : qG} (C : qC sM X G RX5 cX5_back 3 2 (some .int))  (σ : qM) (x1 : Int32) (x2 : Int32) (res : (Int32 × qM))  (h : fX5_back_51  σ x1 x2 = some res) : qY sM X G 3 (q_Q sM X G (some (.int res.1)) res.2) σ 51 [(0, .ref (q_ad G 0)), (1, .int x1), (2, .int x2)] [] := by
  unfold fX5_back_51 at h
  refine q_aload_n (pc := 51) C 0 rfl dX5_back_51 rfl ?_
  refine q_dup (pc := 52) C dX5_back_52 rfl ?_
  refine q_getI (pc := 53) C fl_RX5_148 kM_0 rfl dX5_back_53 ?_
  refine q_iload_n (pc := 56) C 1 rfl dX5_back_56 rfl ?_
  refine q_isub (pc := 57) C dX5_back_57 ?_
  refine q_putI (pc := 58) C fl_RX5_148 kM_0 rfl rfl rfl dX5_back_58 ?_
  refine q_iload_n (pc := 61) C 2 rfl dX5_back_61 rfl ?_
  refine q_iconst (pc := 62) C dX5_back_62 ci_1 ?_
  refine q_isub (pc := 63) C dX5_back_63 ?_
  obtain rfl := Option.some.inj h
  exact q_iret (pc := 64) C dX5_back_64
theorem tX5_back_47 {X : qX} {G : qG} (C : qC sM X G RX5 cX5_back 3 2 (some .int))  (σ : qM) (x1 : Int32) (x2 : Int32) (t0 : Int32) (t1 : Int32) (res : (Int32 × qM))  (h : fX5_back_47  σ x1 x2 t0 t1 = some res) : qY sM X G 3 (q_Q sM X G (some (.int res.1)) res.2) σ 47 [(0, .ref (q_ad G 0)), (1, .int x1), (2, .int x2)] [.int t0, .int t1, .ref (q_ad G 0)] := by
  unfold fX5_back_47 at h
  refine q_isub (pc := 47) C dX5_back_47 ?_
  refine q_putI (pc := 48) C fl_RX5_139 kM_0 rfl rfl rfl dX5_back_48 ?_
  exact tX5_back_51 C _ _ _ _ h
theorem tX5_back_25 {X : qX} {G : qG} (C : qC sM X G RX5 cX5_back 3 2 (some .int))  (σ : qM) (x1 : Int32) (t0 : Int32) (res : (Int32 × qM))  (h : fX5_back_25  σ x1 t0 = some res) : qY sM X G 3 (q_Q sM X G (some (.int res.1)) res.2) σ 25 [(0, .ref (q_ad G 0)), (1, .int x1)] [.int t0] := by
  unfold fX5_back_25 at h
  refine q_istore_n (pc := 25) C dX5_back_25 rfl (by decide) rfl ?_
  refine q_iload_n (pc := 26) C 0 rfl dX5_back_26 rfl ?_
  refine q_if_ne (pc := 27) C 33 dX5_back_27 (by decide) (fun c1 => ?_) (fun c1 => ?_)
  · have h := q_f c1 h
    refine q_aload_n (pc := 33) C 1 rfl dX5_back_33 rfl ?_
    refine q_dup (pc := 34) C dX5_back_34 rfl ?_
    refine q_getI (pc := 35) C fl_RX5_139 kM_0 rfl dX5_back_35 ?_
    refine q_iload_n (pc := 38) C 2 rfl dX5_back_38 rfl ?_
    refine q_if_ne (pc := 39) C 46 dX5_back_39 (by decide) (fun c2 => ?_) (fun c2 => ?_)
    · have h := q_f c2 h
      refine q_iconst (pc := 46) C dX5_back_46 ci_0 ?_
      refine q_sub [1, 2, 0] rfl ?_
      exact tX5_back_47 C _ _ _ _ _ _ h
    · have h := q_t c2 h
      refine q_iconst (pc := 42) C dX5_back_42 ci_1 ?_
      refine q_goto (pc := 43) C 47 dX5_back_43 (by decide) ?_
      refine q_sub [1, 2, 0] rfl ?_
      exact tX5_back_47 C _ _ _ _ _ _ h
  · have h := q_t c1 h
    refine q_bipush (pc := 30) C dX5_back_30 cb_m3 ?_
    obtain rfl := Option.some.inj h
    exact q_iret (pc := 32) C dX5_back_32
theorem zX5_back {G : qG} {l : Launch} {σ : qM} {x1 : Int32} {res : (Int32 × qM)}  (h : fX5_back σ x1 = some res) : qCon sM G l yX5_back cX5_back 3 (some .int) 2 [.ref (q_ad G 0), .int x1] σ (some (.int res.1)) res.2 := by
  refine qCon.mkF (lv := [(0, .ref (q_ad G 0)), (1, .int x1)]) (plainFor_of_name (by decide)) (Nat.le_of_ble_eq_true rfl) rfl (fun X hX C => ?_)
  unfold fX5_back at h
  refine q_iload_n (pc := 0) C 1 rfl dX5_back_0 rfl ?_
  obtain ⟨q1, hq1, h⟩ := q_bind h
  refine q_callS1 (pc := 1) (st := []) C (zX5_isTwo hq1) ys_X5_isTwo ml_RX5_89 rfl (by decide) rfl (Nat.le_of_ble_eq_true rfl) dX5_back_1 ?_
  refine q_if_ne (pc := 4) C 10 dX5_back_4 (by decide) (fun c2 => ?_) (fun c2 => ?_)
  · have h := q_f c2 h
    refine q_iload_n (pc := 10) C 1 rfl dX5_back_10 rfl ?_
    refine q_if_ne (pc := 11) C 21 dX5_back_11 (by decide) (fun c3 => ?_) (fun c3 => ?_)
    · have h := q_f c3 h
      refine q_aload_n (pc := 21) C 0 rfl dX5_back_21 rfl ?_
      refine q_getI (pc := 22) C fl_RX5_148 kM_0 rfl dX5_back_22 ?_
      exact tX5_back_25 C _ _ _ _ h
    · have h := q_t c3 h
      refine q_aload_n (pc := 14) C 0 rfl dX5_back_14 rfl ?_
      refine q_getI (pc := 15) C fl_RX5_139 kM_0 rfl dX5_back_15 ?_
      refine q_goto (pc := 18) C 25 dX5_back_18 (by decide) ?_
      exact tX5_back_25 C _ _ _ _ h
  · have h := q_t c2 h
    refine q_bipush (pc := 7) C dX5_back_7 cb_m2 ?_
    obtain rfl := Option.some.inj h
    exact q_iret (pc := 9) C dX5_back_9
/-! X5_set -/
theorem zX5_set {G : qG} {l : Launch} {σ : qM} {x1 : Int32} {x2 : Int32} {res : (Int32 × qM)}  (h : fX5_set σ x1 x2 = some res) : qCon sM G l yX5_set cX5_set 4 (some .int) 2 [.ref (q_ad G 0), .int x1, .int x2] σ (some (.int res.1)) res.2 := by
  refine qCon.mkF (lv := [(0, .ref (q_ad G 0)), (1, .int x1), (2, .int x2)]) (plainFor_of_name (by decide)) (Nat.le_of_ble_eq_true rfl) rfl (fun X hX C => ?_)
  unfold fX5_set at h
  refine q_iload_n (pc := 0) C 1 rfl dX5_set_0 rfl ?_
  obtain ⟨q1, hq1, h⟩ := q_bind h
  refine q_callS1 (pc := 1) (st := []) C (zX5_isTwo hq1) ys_X5_isTwo ml_RX5_89 rfl (by decide) rfl (Nat.le_of_ble_eq_true rfl) dX5_set_1 ?_
  refine q_if_eq (pc := 4) C 19 dX5_set_4 (by decide) (fun c2 => ?_) (fun c2 => ?_)
  · have h := q_t c2 h
    refine q_bipush (pc := 19) C dX5_set_19 cb_m2 ?_
    obtain rfl := Option.some.inj h
    exact q_iret (pc := 21) C dX5_set_21
  · have h := q_f c2 h
    refine q_iload_n (pc := 7) C 2 rfl dX5_set_7 rfl ?_
    refine q_i2l (pc := 8) C dX5_set_8 ?_
    refine q_lconst (pc := 9) (v := (0 : Int64)) C dX5_set_9 rfl ?_
    refine q_ldc2 (pc := 10) C kn_RX5_68 dX5_set_10 ?_
    obtain ⟨q3, hq3, h⟩ := q_bind h
    refine q_callS1 (pc := 13) (st := []) C (zX5_in hq3) ys_X5_in ml_RX5_61 rfl (by decide) rfl (Nat.le_of_ble_eq_true rfl) dX5_set_13 ?_
    refine q_if_ne (pc := 16) C 22 dX5_set_16 (by decide) (fun c4 => ?_) (fun c4 => ?_)
    · have h := q_f c4 h
      refine q_aload_n (pc := 22) C 0 rfl dX5_set_22 rfl ?_
      refine q_getR (pc := 23) (t := 11) C fl_RX5_40 kM_0 rfl rM_0_16 dX5_set_23 ?_
      refine q_iload_n (pc := 26) C 1 rfl dX5_set_26 rfl ?_
      obtain ⟨g5, h⟩ := q_guard h
      refine q_iald (pc := 27) C kM_11 lM_11 g5 dX5_set_27 ?_
      refine q_istore_n (pc := 28) C dX5_set_28 rfl (by decide) rfl ?_
      refine q_aload_n (pc := 29) C 1 rfl dX5_set_29 rfl ?_
      refine q_getR (pc := 30) (t := 11) C fl_RX5_40 kM_0 rfl rM_0_16 dX5_set_30 ?_
      refine q_iload_n (pc := 33) C 2 rfl dX5_set_33 rfl ?_
      refine q_iload_n (pc := 34) C 3 rfl dX5_set_34 rfl ?_
      obtain ⟨g6, h⟩ := q_guard h
      refine q_iast (pc := 35) C kM_11 lM_11 g6 dX5_set_35 ?_
      refine q_iload_n (pc := 36) C 0 rfl dX5_set_36 rfl ?_
      obtain rfl := Option.some.inj h
      exact q_iret (pc := 37) C dX5_set_37
    · have h := q_t c4 h
      refine q_bipush (pc := 19) C dX5_set_19 cb_m2 ?_
      obtain rfl := Option.some.inj h
      exact q_iret (pc := 21) C dX5_set_21
/-! X5_turnsOne -/
theorem tX5_turnsOne_38 {X : qX} {G : qG} (C : qC sM X G RX5 cX5_turnsOne 7 0 none) (k24 : qM → Int32 → Int32 → Int32 → Int32 → Int32 → Option qM) (hk24 : ∀ (σ : qM) (x1 : Int32) (x2 : Int32) (x3 : Int32) (x4 : Int32) (x5 : Int32) (res : qM), k24 σ x1 x2 x3 x4 x5 = some res → qY sM X G 7 (q_Q sM X G none res) σ 24 [(0, .ref (q_ad G 0)), (1, .int x1), (2, .int x2), (3, .int x3), (4, .int x4), (5, .int x5)] []) (σ : qM) (x1 : Int32) (x2 : Int32) (x3 : Int32) (x5 : Int32) (x6 : Int32) (res : qM)  (h : fX5_turnsOne_38 k24 σ x1 x2 x3 x5 x6 = some res) : qY sM X G 7 (q_Q sM X G none res) σ 38 [(0, .ref (q_ad G 0)), (1, .int x1), (2, .int x2), (3, .int x3), (5, .int x5), (6, .int x6)] [] := by
  unfold fX5_turnsOne_38 at h
  refine q_iload (pc := 38) C 5 rfl dX5_turnsOne_38 ?_
  refine q_istore (pc := 40) C dX5_turnsOne_40 (by decide) rfl ?_
  refine q_inc (pc := 42) C 5 rfl ci_1 dX5_turnsOne_42 (by decide) rfl ?_
  refine q_goto (pc := 45) C 24 dX5_turnsOne_45 (by decide) ?_
  refine q_sub [2, 3, 4, 5, 1, 0] rfl ?_
  exact hk24 _ _ _ _ _ _ _ h
theorem tX5_turnsOne_55 {X : qX} {G : qG} (C : qC sM X G RX5 cX5_turnsOne 7 0 none)  (σ : qM) (x1 : Int32) (x4 : Int32) (res : qM)  (h : fX5_turnsOne_55  σ x1 x4 = some res) : qY sM X G 7 (q_Q sM X G none res) σ 55 [(0, .ref (q_ad G 0)), (1, .int x1), (4, .int x4)] [] := by
  unfold fX5_turnsOne_55 at h
  refine q_aload_n (pc := 55) C 0 rfl dX5_turnsOne_55 rfl ?_
  refine q_getR (pc := 56) (t := 13) C fl_RX5_46 kM_0 rfl rM_0_18 dX5_turnsOne_56 ?_
  refine q_iload_n (pc := 59) C 1 rfl dX5_turnsOne_59 rfl ?_
  refine q_iload (pc := 60) C 2 rfl dX5_turnsOne_60 ?_
  obtain ⟨g1, h⟩ := q_guard h
  refine q_iast (pc := 62) C kM_13 lM_13 g1 dX5_turnsOne_62 ?_
  obtain rfl := Option.some.inj h
  exact q_vret (pc := 63) C dX5_turnsOne_63
theorem uX5_turnsOne_24 {X : qX} {G : qG} (C : qC sM X G RX5 cX5_turnsOne 7 0 none) (k24 : qM → Int32 → Int32 → Int32 → Int32 → Int32 → Option qM) (hk24 : ∀ (σ : qM) (x1 : Int32) (x2 : Int32) (x3 : Int32) (x4 : Int32) (x5 : Int32) (res : qM), k24 σ x1 x2 x3 x4 x5 = some res → qY sM X G 7 (q_Q sM X G none res) σ 24 [(0, .ref (q_ad G 0)), (1, .int x1), (2, .int x2), (3, .int x3), (4, .int x4), (5, .int x5)] []) (σ : qM) (x1 : Int32) (x2 : Int32) (x3 : Int32) (x4 : Int32) (x5 : Int32) (res : qM)  (h : bX5_turnsOne_24 k24 σ x1 x2 x3 x4 x5 = some res) : qY sM X G 7 (q_Q sM X G none res) σ 24 [(0, .ref (q_ad G 0)), (1, .int x1), (2, .int x2), (3, .int x3), (4, .int x4), (5, .int x5)] [] := by
  unfold bX5_turnsOne_24 at h
  refine q_iload (pc := 24) C 5 rfl dX5_turnsOne_24 ?_
  refine q_iload_n (pc := 26) C 2 rfl dX5_turnsOne_26 rfl ?_
  refine q_ic_ge (pc := 27) C 48 dX5_turnsOne_27 (by decide) (fun c1 => ?_) (fun c1 => ?_)
  · have h := q_t c1 h
    refine q_aload_n (pc := 48) C 0 rfl dX5_turnsOne_48 rfl ?_
    refine q_getR (pc := 49) (t := 12) C fl_RX5_43 kM_0 rfl rM_0_17 dX5_turnsOne_49 ?_
    refine q_iload_n (pc := 52) C 1 rfl dX5_turnsOne_52 rfl ?_
    refine q_iload_n (pc := 53) C 3 rfl dX5_turnsOne_53 rfl ?_
    obtain ⟨g2, h⟩ := q_guard h
    refine q_iast (pc := 54) C kM_12 lM_12 g2 dX5_turnsOne_54 ?_
    refine q_sub [0, 1, 4] rfl ?_
    exact tX5_turnsOne_55 C _ _ _ _ h
  · have h := q_f c1 h
    refine q_iload_n (pc := 30) C 3 rfl dX5_turnsOne_30 rfl ?_
    refine q_istore (pc := 31) C dX5_turnsOne_31 (by decide) rfl ?_
    refine q_iconst (pc := 33) C dX5_turnsOne_33 ci_5 ?_
    refine q_iload (pc := 34) C 5 rfl dX5_turnsOne_34 ?_
    refine q_isub (pc := 36) C dX5_turnsOne_36 ?_
    refine q_istore_n (pc := 37) C dX5_turnsOne_37 rfl (by decide) rfl ?_
    refine q_sub [2, 3, 4, 0, 6, 1] rfl ?_
    exact tX5_turnsOne_38 C k24 hk24 _ _ _ _ _ _ _ h
theorem tX5_turnsOne_24 {X : qX} {G : qG} (C : qC sM X G RX5 cX5_turnsOne 7 0 none)  (σ : qM) (x1 : Int32) (x2 : Int32) (x3 : Int32) (x4 : Int32) (x5 : Int32) (res : qM)  (h : fX5_turnsOne_24  σ x1 x2 x3 x4 x5 = some res) : qY sM X G 7 (q_Q sM X G none res) σ 24 [(0, .ref (q_ad G 0)), (1, .int x1), (2, .int x2), (3, .int x3), (4, .int x4), (5, .int x5)] [] := by
  have key : ∀ (n : Nat) (σ : qM) (x1 : Int32) (x2 : Int32) (x3 : Int32) (x4 : Int32) (x5 : Int32) (res : qM) , qlp (fun _ _ _ _ _ _ => none) (bX5_turnsOne_24 ) n σ x1 x2 x3 x4 x5 = some res → qY sM X G 7 (q_Q sM X G none res) σ 24 [(0, .ref (q_ad G 0)), (1, .int x1), (2, .int x2), (3, .int x3), (4, .int x4), (5, .int x5)] [] := by
    intro n
    induction n with
    | zero => intro σ x1 x2 x3 x4 x5 res h; cases h
    | succ n ih => intro σ x1 x2 x3 x4 x5 res h; exact uX5_turnsOne_24 C  (qlp (fun _ _ _ _ _ _ => none) (bX5_turnsOne_24 ) n) (fun σ x1 x2 x3 x4 x5 res h => ih σ x1 x2 x3 x4 x5 res h) σ x1 x2 x3 x4 x5 res h
  exact key qFU σ x1 x2 x3 x4 x5 res h
theorem tX5_turnsOne_21 {X : qX} {G : qG} (C : qC sM X G RX5 cX5_turnsOne 7 0 none)  (σ : qM) (x1 : Int32) (x2 : Int32) (x3 : Int32) (x4 : Int32) (res : qM)  (h : fX5_turnsOne_21  σ x1 x2 x3 x4 = some res) : qY sM X G 7 (q_Q sM X G none res) σ 21 [(0, .ref (q_ad G 0)), (1, .int x1), (2, .int x2), (3, .int x3), (4, .int x4)] [] := by
  unfold fX5_turnsOne_21 at h
  refine q_iconst (pc := 21) C dX5_turnsOne_21 ci_0 ?_
  refine q_istore (pc := 22) C dX5_turnsOne_22 (by decide) rfl ?_
  refine q_sub [1, 2, 3, 4, 5, 0] rfl ?_
  exact tX5_turnsOne_24 C _ _ _ _ _ _ _ h
theorem tX5_turnsOne_9 {X : qX} {G : qG} (C : qC sM X G RX5 cX5_turnsOne 7 0 none)  (σ : qM) (x1 : Int32) (x2 : Int32) (x3 : Int32) (res : qM)  (h : fX5_turnsOne_9  σ x1 x2 x3 = some res) : qY sM X G 7 (q_Q sM X G none res) σ 9 [(0, .ref (q_ad G 0)), (1, .int x1), (2, .int x2), (3, .int x3)] [] := by
  unfold fX5_turnsOne_9 at h
  refine q_aload_n (pc := 9) C 0 rfl dX5_turnsOne_9 rfl ?_
  refine q_getR (pc := 10) (t := 7) C fl_RX5_28 kM_0 rfl rM_0_9 dX5_turnsOne_10 ?_
  refine q_iconst (pc := 13) C dX5_turnsOne_13 ci_3 ?_
  refine q_iload_n (pc := 14) C 1 rfl dX5_turnsOne_14 rfl ?_
  refine q_imul (pc := 15) C dX5_turnsOne_15 ?_
  refine q_iconst (pc := 16) C dX5_turnsOne_16 ci_1 ?_
  refine q_iadd (pc := 17) C dX5_turnsOne_17 ?_
  obtain ⟨g1, h⟩ := q_guard h
  refine q_iald (pc := 18) C kM_7 lM_7 g1 dX5_turnsOne_18 ?_
  refine q_istore (pc := 19) C dX5_turnsOne_19 (by decide) rfl ?_
  refine q_sub [1, 2, 3, 4, 0] rfl ?_
  exact tX5_turnsOne_21 C _ _ _ _ _ _ h
theorem zX5_turnsOne {G : qG} {l : Launch} {σ : qM} {x1 : Int32} {x2 : Int32} {res : qM}  (h : fX5_turnsOne σ x1 x2 = some res) : qCon sM G l yX5_turnsOne cX5_turnsOne 7 none 0 [.ref (q_ad G 0), .int x1, .int x2] σ none res := by
  refine qCon.mkF (lv := [(0, .ref (q_ad G 0)), (1, .int x1), (2, .int x2)]) (plainFor_of_name (by decide)) (Nat.le_of_ble_eq_true rfl) rfl (fun X hX C => ?_)
  unfold fX5_turnsOne at h
  refine q_aload_n (pc := 0) C 0 rfl dX5_turnsOne_0 rfl ?_
  refine q_getR (pc := 1) (t := 7) C fl_RX5_28 kM_0 rfl rM_0_9 dX5_turnsOne_1 ?_
  refine q_iconst (pc := 4) C dX5_turnsOne_4 ci_3 ?_
  refine q_iload_n (pc := 5) C 1 rfl dX5_turnsOne_5 rfl ?_
  refine q_imul (pc := 6) C dX5_turnsOne_6 ?_
  obtain ⟨g1, h⟩ := q_guard h
  refine q_iald (pc := 7) C kM_7 lM_7 g1 dX5_turnsOne_7 ?_
  refine q_istore_n (pc := 8) C dX5_turnsOne_8 rfl (by decide) rfl ?_
  refine q_sub [1, 2, 3, 0] rfl ?_
  exact tX5_turnsOne_9 C _ _ _ _ _ h
/-! X5_isCracked -/
theorem tX5_isCracked_51 {X : qX} {G : qG} (C : qC sM X G RX5 cX5_isCracked 5 0 (some .boolean)) (k5 : qM → Int32 → Int32 → Int32 → Int32 → Option (Int32 × qM)) (hk5 : ∀ (σ : qM) (x1 : Int32) (x2 : Int32) (x3 : Int32) (x4 : Int32) (res : (Int32 × qM)), k5 σ x1 x2 x3 x4 = some res → qY sM X G 5 (q_Q sM X G (some (.int res.1)) res.2) σ 5 [(0, .ref (q_ad G 0)), (1, .int x1), (2, .int x2), (3, .int x3), (4, .int x4)] []) (σ : qM) (x1 : Int32) (x2 : Int32) (x4 : Int32) (t0 : Int32) (res : (Int32 × qM))  (h : fX5_isCracked_51 k5 σ x1 x2 x4 t0 = some res) : qY sM X G 5 (q_Q sM X G (some (.int res.1)) res.2) σ 51 [(0, .ref (q_ad G 0)), (1, .int x1), (2, .int x2), (4, .int x4)] [.int t0] := by
  unfold fX5_isCracked_51 at h
  refine q_istore_n (pc := 51) C dX5_isCracked_51 rfl (by decide) rfl ?_
  refine q_inc (pc := 52) C 4 rfl ci_1 dX5_isCracked_52 (by decide) rfl ?_
  refine q_goto (pc := 55) C 5 dX5_isCracked_55 (by decide) ?_
  refine q_sub [2, 3, 4, 1, 0] rfl ?_
  exact hk5 _ _ _ _ _ _ h
theorem tX5_isCracked_50 {X : qX} {G : qG} (C : qC sM X G RX5 cX5_isCracked 5 0 (some .boolean)) (k5 : qM → Int32 → Int32 → Int32 → Int32 → Option (Int32 × qM)) (hk5 : ∀ (σ : qM) (x1 : Int32) (x2 : Int32) (x3 : Int32) (x4 : Int32) (res : (Int32 × qM)), k5 σ x1 x2 x3 x4 = some res → qY sM X G 5 (q_Q sM X G (some (.int res.1)) res.2) σ 5 [(0, .ref (q_ad G 0)), (1, .int x1), (2, .int x2), (3, .int x3), (4, .int x4)] []) (σ : qM) (x1 : Int32) (x2 : Int32) (x4 : Int32) (res : (Int32 × qM))  (h : fX5_isCracked_50 k5 σ x1 x2 x4 = some res) : qY sM X G 5 (q_Q sM X G (some (.int res.1)) res.2) σ 50 [(0, .ref (q_ad G 0)), (1, .int x1), (2, .int x2), (4, .int x4)] [] := by
  unfold fX5_isCracked_50 at h
  refine q_iconst (pc := 50) C dX5_isCracked_50 ci_0 ?_
  exact tX5_isCracked_51 C k5 hk5 _ _ _ _ _ _ h
theorem tX5_isCracked_46 {X : qX} {G : qG} (C : qC sM X G RX5 cX5_isCracked 5 0 (some .boolean)) (k5 : qM → Int32 → Int32 → Int32 → Int32 → Option (Int32 × qM)) (hk5 : ∀ (σ : qM) (x1 : Int32) (x2 : Int32) (x3 : Int32) (x4 : Int32) (res : (Int32 × qM)), k5 σ x1 x2 x3 x4 = some res → qY sM X G 5 (q_Q sM X G (some (.int res.1)) res.2) σ 5 [(0, .ref (q_ad G 0)), (1, .int x1), (2, .int x2), (3, .int x3), (4, .int x4)] []) (σ : qM) (x1 : Int32) (x2 : Int32) (x4 : Int32) (res : (Int32 × qM))  (h : fX5_isCracked_46 k5 σ x1 x2 x4 = some res) : qY sM X G 5 (q_Q sM X G (some (.int res.1)) res.2) σ 46 [(0, .ref (q_ad G 0)), (1, .int x1), (2, .int x2), (4, .int x4)] [] := by
  unfold fX5_isCracked_46 at h
  refine q_iconst (pc := 46) C dX5_isCracked_46 ci_1 ?_
  refine q_goto (pc := 47) C 51 dX5_isCracked_47 (by decide) ?_
  exact tX5_isCracked_51 C k5 hk5 _ _ _ _ _ _ h
theorem uX5_isCracked_5 {X : qX} {G : qG} (C : qC sM X G RX5 cX5_isCracked 5 0 (some .boolean)) (k5 : qM → Int32 → Int32 → Int32 → Int32 → Option (Int32 × qM)) (hk5 : ∀ (σ : qM) (x1 : Int32) (x2 : Int32) (x3 : Int32) (x4 : Int32) (res : (Int32 × qM)), k5 σ x1 x2 x3 x4 = some res → qY sM X G 5 (q_Q sM X G (some (.int res.1)) res.2) σ 5 [(0, .ref (q_ad G 0)), (1, .int x1), (2, .int x2), (3, .int x3), (4, .int x4)] []) (σ : qM) (x1 : Int32) (x2 : Int32) (x3 : Int32) (x4 : Int32) (res : (Int32 × qM))  (h : bX5_isCracked_5 k5 σ x1 x2 x3 x4 = some res) : qY sM X G 5 (q_Q sM X G (some (.int res.1)) res.2) σ 5 [(0, .ref (q_ad G 0)), (1, .int x1), (2, .int x2), (3, .int x3), (4, .int x4)] [] := by
  unfold bX5_isCracked_5 at h
  refine q_iload (pc := 5) C 4 rfl dX5_isCracked_5 ?_
  refine q_aload_n (pc := 7) C 0 rfl dX5_isCracked_7 rfl ?_
  refine q_getI (pc := 8) C fl_RX5_139 kM_0 rfl dX5_isCracked_8 ?_
  refine q_ic_ge (pc := 11) C 58 dX5_isCracked_11 (by decide) (fun c1 => ?_) (fun c1 => ?_)
  · have h := q_t c1 h
    refine q_iload_n (pc := 58) C 3 rfl dX5_isCracked_58 rfl ?_
    obtain ⟨g2, h⟩ := q_guard h
    obtain rfl := Option.some.inj h
    exact q_zret (pc := 59) C g2 dX5_isCracked_59
  · have h := q_f c1 h
    refine q_iload_n (pc := 14) C 3 rfl dX5_isCracked_14 rfl ?_
    refine q_if_ne (pc := 15) C 46 dX5_isCracked_15 (by decide) (fun c3 => ?_) (fun c3 => ?_)
    · have h := q_f c3 h
      refine q_sub [0, 1, 2, 4] rfl ?_
      exact tX5_isCracked_46 C k5 hk5 _ _ _ _ _ h
    · have h := q_t c3 h
      refine q_aload_n (pc := 18) C 0 rfl dX5_isCracked_18 rfl ?_
      refine q_getR (pc := 19) (t := 9) C fl_RX5_34 kM_0 rfl rM_0_13 dX5_isCracked_19 ?_
      refine q_iconst (pc := 22) C dX5_isCracked_22 ci_2 ?_
      refine q_iload (pc := 23) C 4 rfl dX5_isCracked_23 ?_
      refine q_imul (pc := 25) C dX5_isCracked_25 ?_
      obtain ⟨g4, h⟩ := q_guard h
      refine q_iald (pc := 26) C kM_9 lM_9 g4 dX5_isCracked_26 ?_
      refine q_iload_n (pc := 27) C 1 rfl dX5_isCracked_27 rfl ?_
      refine q_ic_ne (pc := 28) C 50 dX5_isCracked_28 (by decide) (fun c5 => ?_) (fun c5 => ?_)
      · have h := q_f c5 h
        refine q_sub [0, 1, 2, 4] rfl ?_
        exact tX5_isCracked_50 C k5 hk5 _ _ _ _ _ h
      · have h := q_t c5 h
        refine q_aload_n (pc := 31) C 0 rfl dX5_isCracked_31 rfl ?_
        refine q_getR (pc := 32) (t := 9) C fl_RX5_34 kM_0 rfl rM_0_13 dX5_isCracked_32 ?_
        refine q_iconst (pc := 35) C dX5_isCracked_35 ci_2 ?_
        refine q_iload (pc := 36) C 4 rfl dX5_isCracked_36 ?_
        refine q_imul (pc := 38) C dX5_isCracked_38 ?_
        refine q_iconst (pc := 39) C dX5_isCracked_39 ci_1 ?_
        refine q_iadd (pc := 40) C dX5_isCracked_40 ?_
        obtain ⟨g6, h⟩ := q_guard h
        refine q_iald (pc := 41) C kM_9 lM_9 g6 dX5_isCracked_41 ?_
        refine q_iload_n (pc := 42) C 2 rfl dX5_isCracked_42 rfl ?_
        refine q_ic_ne (pc := 43) C 50 dX5_isCracked_43 (by decide) (fun c7 => ?_) (fun c7 => ?_)
        · have h := q_f c7 h
          refine q_sub [0, 1, 2, 4] rfl ?_
          exact tX5_isCracked_50 C k5 hk5 _ _ _ _ _ h
        · have h := q_t c7 h
          refine q_sub [0, 1, 2, 4] rfl ?_
          exact tX5_isCracked_46 C k5 hk5 _ _ _ _ _ h
theorem tX5_isCracked_5 {X : qX} {G : qG} (C : qC sM X G RX5 cX5_isCracked 5 0 (some .boolean))  (σ : qM) (x1 : Int32) (x2 : Int32) (x3 : Int32) (x4 : Int32) (res : (Int32 × qM))  (h : fX5_isCracked_5  σ x1 x2 x3 x4 = some res) : qY sM X G 5 (q_Q sM X G (some (.int res.1)) res.2) σ 5 [(0, .ref (q_ad G 0)), (1, .int x1), (2, .int x2), (3, .int x3), (4, .int x4)] [] := by
  have key : ∀ (n : Nat) (σ : qM) (x1 : Int32) (x2 : Int32) (x3 : Int32) (x4 : Int32) (res : (Int32 × qM)) , qlp (fun _ _ _ _ _ => none) (bX5_isCracked_5 ) n σ x1 x2 x3 x4 = some res → qY sM X G 5 (q_Q sM X G (some (.int res.1)) res.2) σ 5 [(0, .ref (q_ad G 0)), (1, .int x1), (2, .int x2), (3, .int x3), (4, .int x4)] [] := by
    intro n
    induction n with
    | zero => intro σ x1 x2 x3 x4 res h; cases h
    | succ n ih => intro σ x1 x2 x3 x4 res h; exact uX5_isCracked_5 C  (qlp (fun _ _ _ _ _ => none) (bX5_isCracked_5 ) n) (fun σ x1 x2 x3 x4 res h => ih σ x1 x2 x3 x4 res h) σ x1 x2 x3 x4 res h
  exact key qFU σ x1 x2 x3 x4 res h
theorem zX5_isCracked {G : qG} {l : Launch} {σ : qM} {x1 : Int32} {x2 : Int32} {res : (Int32 × qM)}  (h : fX5_isCracked σ x1 x2 = some res) : qCon sM G l yX5_isCracked cX5_isCracked 5 (some .boolean) 0 [.ref (q_ad G 0), .int x1, .int x2] σ (some (.int res.1)) res.2 := by
  refine qCon.mkF (lv := [(0, .ref (q_ad G 0)), (1, .int x1), (2, .int x2)]) (plainFor_of_name (by decide)) (Nat.le_of_ble_eq_true rfl) rfl (fun X hX C => ?_)
  unfold fX5_isCracked at h
  refine q_iconst (pc := 0) C dX5_isCracked_0 ci_0 ?_
  refine q_istore_n (pc := 1) C dX5_isCracked_1 rfl (by decide) rfl ?_
  refine q_iconst (pc := 2) C dX5_isCracked_2 ci_0 ?_
  refine q_istore (pc := 3) C dX5_isCracked_3 (by decide) rfl ?_
  refine q_sub [2, 3, 4, 1, 0] rfl ?_
  exact tX5_isCracked_5 C _ _ _ _ _ _ h
/-! X5_lieSo -/
theorem tX5_lieSo_120 {X : qX} {G : qG} (C : qC sM X G RX5 cX5_lieSo 6 1 (some .boolean))  (σ : qM)  (res : (Int32 × qM))  (h : fX5_lieSo_120  σ  = some res) : qY sM X G 6 (q_Q sM X G (some (.int res.1)) res.2) σ 120 [] [] := by
  unfold fX5_lieSo_120 at h
  refine q_iconst (pc := 120) C dX5_lieSo_120 ci_1 ?_
  refine q_goto (pc := 121) C 125 dX5_lieSo_121 (by decide) ?_
  obtain rfl := Option.some.inj h
  exact q_zret (pc := 125) C (Or.inr rfl) dX5_lieSo_125
theorem zX5_lieSo {G : qG} {l : Launch} {σ : qM} {x1 : Int32} {x2 : Int32} {x3 : Int32} {res : (Int32 × qM)}  (h : fX5_lieSo σ x1 x2 x3 = some res) : qCon sM G l yX5_lieSo cX5_lieSo 6 (some .boolean) 1 [.ref (q_ad G 0), .int x1, .int x2, .int x3] σ (some (.int res.1)) res.2 := by
  refine qCon.mkF (lv := [(0, .ref (q_ad G 0)), (1, .int x1), (2, .int x2), (3, .int x3)]) (plainFor_of_name (by decide)) (Nat.le_of_ble_eq_true rfl) rfl (fun X hX C => ?_)
  unfold fX5_lieSo at h
  refine q_aload_n (pc := 0) C 0 rfl dX5_lieSo_0 rfl ?_
  refine q_getR (pc := 1) (t := 12) C fl_RX5_43 kM_0 rfl rM_0_17 dX5_lieSo_1 ?_
  refine q_iload_n (pc := 4) C 2 rfl dX5_lieSo_4 rfl ?_
  obtain ⟨g1, h⟩ := q_guard h
  refine q_iald (pc := 5) C kM_12 lM_12 g1 dX5_lieSo_5 ?_
  refine q_aload_n (pc := 6) C 0 rfl dX5_lieSo_6 rfl ?_
  refine q_getR (pc := 7) (t := 12) C fl_RX5_43 kM_0 rfl rM_0_17 dX5_lieSo_7 ?_
  refine q_iload_n (pc := 10) C 3 rfl dX5_lieSo_10 rfl ?_
  obtain ⟨g2, h⟩ := q_guard h
  refine q_iald (pc := 11) C kM_12 lM_12 g2 dX5_lieSo_11 ?_
  refine q_isub (pc := 12) C dX5_lieSo_12 ?_
  obtain ⟨q3, hq3, h⟩ := q_bind h
  refine q_callS1 (pc := 13) (st := []) C (zX5_amount hq3) ys_X5_amount ml_RX5_151 rfl (by decide) rfl (Nat.le_of_ble_eq_true rfl) dX5_lieSo_13 ?_
  refine q_istore (pc := 16) C dX5_lieSo_16 (by decide) rfl ?_
  refine q_aload_n (pc := 18) C 1 rfl dX5_lieSo_18 rfl ?_
  refine q_getR (pc := 19) (t := 13) C fl_RX5_46 kM_0 rfl rM_0_18 dX5_lieSo_19 ?_
  refine q_iload_n (pc := 22) C 3 rfl dX5_lieSo_22 rfl ?_
  obtain ⟨g4, h⟩ := q_guard h
  refine q_iald (pc := 23) C kM_13 lM_13 g4 dX5_lieSo_23 ?_
  refine q_aload_n (pc := 24) C 1 rfl dX5_lieSo_24 rfl ?_
  refine q_getR (pc := 25) (t := 13) C fl_RX5_46 kM_0 rfl rM_0_18 dX5_lieSo_25 ?_
  refine q_iload_n (pc := 28) C 4 rfl dX5_lieSo_28 rfl ?_
  obtain ⟨g5, h⟩ := q_guard h
  refine q_iald (pc := 29) C kM_13 lM_13 g5 dX5_lieSo_29 ?_
  refine q_isub (pc := 30) C dX5_lieSo_30 ?_
  obtain ⟨q6, hq6, h⟩ := q_bind h
  refine q_callS1 (pc := 31) (st := []) C (zX5_amount hq6) ys_X5_amount ml_RX5_151 rfl (by decide) rfl (Nat.le_of_ble_eq_true rfl) dX5_lieSo_31 ?_
  refine q_istore (pc := 34) C dX5_lieSo_34 (by decide) rfl ?_
  refine q_iload_n (pc := 36) C 3 rfl dX5_lieSo_36 rfl ?_
  by_cases c7 : x1 = (0 : Int32)
  · have h := q_t c7 h
    refine q_tableIn (pc := 37) (off := 27) C 64 dX5_lieSo_37 (by rw [c7]; decide) (by rw [c7]; decide) (by rw [c7]; decide) (by decide) ?_
    refine q_iload (pc := 64) C 1 rfl dX5_lieSo_64 ?_
    refine q_iconst (pc := 66) C dX5_lieSo_66 ci_1 ?_
    refine q_ic_gt (pc := 67) C 80 dX5_lieSo_67 (by decide) (fun c8 => ?_) (fun c8 => ?_)
    · have h := q_t c8 h
      refine q_iconst (pc := 80) C dX5_lieSo_80 ci_0 ?_
      obtain rfl := Option.some.inj h
      exact q_zret (pc := 81) C (Or.inl rfl) dX5_lieSo_81
    · have h := q_f c8 h
      refine q_iload (pc := 70) C 0 rfl dX5_lieSo_70 ?_
      refine q_iconst (pc := 72) C dX5_lieSo_72 ci_1 ?_
      refine q_ic_gt (pc := 73) C 80 dX5_lieSo_73 (by decide) (fun c9 => ?_) (fun c9 => ?_)
      · have h := q_t c9 h
        refine q_iconst (pc := 80) C dX5_lieSo_80 ci_0 ?_
        obtain rfl := Option.some.inj h
        exact q_zret (pc := 81) C (Or.inl rfl) dX5_lieSo_81
      · have h := q_f c9 h
        refine q_iconst (pc := 76) C dX5_lieSo_76 ci_1 ?_
        refine q_goto (pc := 77) C 81 dX5_lieSo_77 (by decide) ?_
        obtain rfl := Option.some.inj h
        exact q_zret (pc := 81) C (Or.inr rfl) dX5_lieSo_81
  · have h := q_f c7 h
    by_cases c10 : x1 = (1 : Int32)
    · have h := q_t c10 h
      refine q_tableIn (pc := 37) (off := 45) C 82 dX5_lieSo_37 (by rw [c10]; decide) (by rw [c10]; decide) (by rw [c10]; decide) (by decide) ?_
      refine q_iload (pc := 82) C 1 rfl dX5_lieSo_82 ?_
      refine q_if_ne (pc := 84) C 106 dX5_lieSo_84 (by decide) (fun c11 => ?_) (fun c11 => ?_)
      · have h := q_f c11 h
        refine q_iconst (pc := 106) C dX5_lieSo_106 ci_0 ?_
        obtain rfl := Option.some.inj h
        exact q_zret (pc := 107) C (Or.inl rfl) dX5_lieSo_107
      · have h := q_t c11 h
        refine q_aload_n (pc := 87) C 2 rfl dX5_lieSo_87 rfl ?_
        refine q_getR (pc := 88) (t := 13) C fl_RX5_46 kM_0 rfl rM_0_18 dX5_lieSo_88 ?_
        refine q_iload_n (pc := 91) C 4 rfl dX5_lieSo_91 rfl ?_
        obtain ⟨g12, h⟩ := q_guard h
        refine q_iald (pc := 92) C kM_13 lM_13 g12 dX5_lieSo_92 ?_
        refine q_aload_n (pc := 93) C 2 rfl dX5_lieSo_93 rfl ?_
        refine q_getR (pc := 94) (t := 13) C fl_RX5_46 kM_0 rfl rM_0_18 dX5_lieSo_94 ?_
        refine q_iload_n (pc := 97) C 5 rfl dX5_lieSo_97 rfl ?_
        obtain ⟨g13, h⟩ := q_guard h
        refine q_iald (pc := 98) C kM_13 lM_13 g13 dX5_lieSo_98 ?_
        refine q_ic_ge (pc := 99) C 106 dX5_lieSo_99 (by decide) (fun c14 => ?_) (fun c14 => ?_)
        · have h := q_t c14 h
          refine q_iconst (pc := 106) C dX5_lieSo_106 ci_0 ?_
          obtain rfl := Option.some.inj h
          exact q_zret (pc := 107) C (Or.inl rfl) dX5_lieSo_107
        · have h := q_f c14 h
          refine q_iconst (pc := 102) C dX5_lieSo_102 ci_1 ?_
          refine q_goto (pc := 103) C 107 dX5_lieSo_103 (by decide) ?_
          obtain rfl := Option.some.inj h
          exact q_zret (pc := 107) C (Or.inr rfl) dX5_lieSo_107
    · have h := q_f c10 h
      by_cases c15 : x1 = (2 : Int32)
      · have h := q_t c15 h
        refine q_tableIn (pc := 37) (off := 71) C 108 dX5_lieSo_37 (by rw [c15]; decide) (by rw [c15]; decide) (by rw [c15]; decide) (by decide) ?_
        refine q_iload (pc := 108) C 1 rfl dX5_lieSo_108 ?_
        refine q_iconst (pc := 110) C dX5_lieSo_110 ci_3 ?_
        refine q_ic_ge (pc := 111) C 120 dX5_lieSo_111 (by decide) (fun c16 => ?_) (fun c16 => ?_)
        · have h := q_t c16 h
          refine q_sub [] rfl ?_
          exact tX5_lieSo_120 C _ _ h
        · have h := q_f c16 h
          refine q_iload (pc := 114) C 0 rfl dX5_lieSo_114 ?_
          refine q_iconst (pc := 116) C dX5_lieSo_116 ci_3 ?_
          refine q_ic_lt (pc := 117) C 124 dX5_lieSo_117 (by decide) (fun c17 => ?_) (fun c17 => ?_)
          · have h := q_t c17 h
            refine q_iconst (pc := 124) C dX5_lieSo_124 ci_0 ?_
            obtain rfl := Option.some.inj h
            exact q_zret (pc := 125) C (Or.inl rfl) dX5_lieSo_125
          · have h := q_f c17 h
            refine q_sub [] rfl ?_
            exact tX5_lieSo_120 C _ _ h
      · have h := q_f c15 h
        have ec7 := lv_neT c7 ct_0
        have ec10 := lv_neT c10 ct_1
        have ec15 := lv_neT c15 ct_2
        refine q_tableOut (pc := 37) C 126 dX5_lieSo_37 (by omega) (by decide) ?_
        refine q_iconst (pc := 126) C dX5_lieSo_126 ci_1 ?_
        obtain rfl := Option.some.inj h
        exact q_zret (pc := 127) C (Or.inr rfl) dX5_lieSo_127
/-! X5_pairs -/
theorem tX5_pairs_118 {X : qX} {G : qG} (C : qC sM X G RX5 cX5_pairs 6 2 none) (k2 : qM → Int32 → Int32 → Option qM) (hk2 : ∀ (σ : qM) (x1 : Int32) (x2 : Int32) (res : qM), k2 σ x1 x2 = some res → qY sM X G 6 (q_Q sM X G none res) σ 2 [(0, .ref (q_ad G 0)), (1, .int x1), (2, .int x2)] []) (k15 : qM → Int32 → Int32 → Int32 → Int32 → Option qM) (hk15 : ∀ (σ : qM) (x1 : Int32) (x2 : Int32) (x3 : Int32) (x4 : Int32) (res : qM), k15 σ x1 x2 x3 x4 = some res → qY sM X G 6 (q_Q sM X G none res) σ 15 [(0, .ref (q_ad G 0)), (1, .int x1), (2, .int x2), (3, .int x3), (4, .int x4)] []) (σ : qM) (x1 : Int32) (x2 : Int32) (x3 : Int32) (x4 : Int32) (res : qM)  (h : fX5_pairs_118 k2 k15 σ x1 x2 x3 x4 = some res) : qY sM X G 6 (q_Q sM X G none res) σ 118 [(0, .ref (q_ad G 0)), (1, .int x1), (2, .int x2), (3, .int x3), (4, .int x4)] [] := by
  unfold fX5_pairs_118 at h
  refine q_inc (pc := 118) C 4 rfl ci_1 dX5_pairs_118 (by decide) rfl ?_
  refine q_goto (pc := 121) C 15 dX5_pairs_121 (by decide) ?_
  refine q_sub [1, 2, 3, 4, 0] rfl ?_
  exact hk15 _ _ _ _ _ _ h
theorem tX5_pairs_116 {X : qX} {G : qG} (C : qC sM X G RX5 cX5_pairs 6 2 none) (k2 : qM → Int32 → Int32 → Option qM) (hk2 : ∀ (σ : qM) (x1 : Int32) (x2 : Int32) (res : qM), k2 σ x1 x2 = some res → qY sM X G 6 (q_Q sM X G none res) σ 2 [(0, .ref (q_ad G 0)), (1, .int x1), (2, .int x2)] []) (k15 : qM → Int32 → Int32 → Int32 → Int32 → Option qM) (hk15 : ∀ (σ : qM) (x1 : Int32) (x2 : Int32) (x3 : Int32) (x4 : Int32) (res : qM), k15 σ x1 x2 x3 x4 = some res → qY sM X G 6 (q_Q sM X G none res) σ 15 [(0, .ref (q_ad G 0)), (1, .int x1), (2, .int x2), (3, .int x3), (4, .int x4)] []) (σ : qM) (x1 : Int32) (x2 : Int32) (x4 : Int32) (t0 : Int32) (t1 : Int32) (res : qM)  (h : fX5_pairs_116 k2 k15 σ x1 x2 x4 t0 t1 = some res) : qY sM X G 6 (q_Q sM X G none res) σ 116 [(0, .ref (q_ad G 0)), (1, .int x1), (2, .int x2), (4, .int x4)] [.int t0, .int t1] := by
  unfold fX5_pairs_116 at h
  refine q_ior (pc := 116) C dX5_pairs_116 ?_
  refine q_istore_n (pc := 117) C dX5_pairs_117 rfl (by decide) rfl ?_
  refine q_sub [1, 2, 3, 0, 4] rfl ?_
  exact tX5_pairs_118 C k2 hk2 k15 hk15 _ _ _ _ _ _ h
theorem tX5_pairs_115 {X : qX} {G : qG} (C : qC sM X G RX5 cX5_pairs 6 2 none) (k2 : qM → Int32 → Int32 → Option qM) (hk2 : ∀ (σ : qM) (x1 : Int32) (x2 : Int32) (res : qM), k2 σ x1 x2 = some res → qY sM X G 6 (q_Q sM X G none res) σ 2 [(0, .ref (q_ad G 0)), (1, .int x1), (2, .int x2)] []) (k15 : qM → Int32 → Int32 → Int32 → Int32 → Option qM) (hk15 : ∀ (σ : qM) (x1 : Int32) (x2 : Int32) (x3 : Int32) (x4 : Int32) (res : qM), k15 σ x1 x2 x3 x4 = some res → qY sM X G 6 (q_Q sM X G none res) σ 15 [(0, .ref (q_ad G 0)), (1, .int x1), (2, .int x2), (3, .int x3), (4, .int x4)] []) (σ : qM) (x1 : Int32) (x2 : Int32) (x4 : Int32) (t0 : Int32) (res : qM)  (h : fX5_pairs_115 k2 k15 σ x1 x2 x4 t0 = some res) : qY sM X G 6 (q_Q sM X G none res) σ 115 [(0, .ref (q_ad G 0)), (1, .int x1), (2, .int x2), (4, .int x4)] [.int t0] := by
  unfold fX5_pairs_115 at h
  refine q_iconst (pc := 115) C dX5_pairs_115 ci_0 ?_
  exact tX5_pairs_116 C k2 hk2 k15 hk15 _ _ _ _ _ _ _ h
theorem tX5_pairs_80 {X : qX} {G : qG} (C : qC sM X G RX5 cX5_pairs 6 2 none) (k2 : qM → Int32 → Int32 → Option qM) (hk2 : ∀ (σ : qM) (x1 : Int32) (x2 : Int32) (res : qM), k2 σ x1 x2 = some res → qY sM X G 6 (q_Q sM X G none res) σ 2 [(0, .ref (q_ad G 0)), (1, .int x1), (2, .int x2)] []) (k15 : qM → Int32 → Int32 → Int32 → Int32 → Option qM) (hk15 : ∀ (σ : qM) (x1 : Int32) (x2 : Int32) (x3 : Int32) (x4 : Int32) (res : qM), k15 σ x1 x2 x3 x4 = some res → qY sM X G 6 (q_Q sM X G none res) σ 15 [(0, .ref (q_ad G 0)), (1, .int x1), (2, .int x2), (3, .int x3), (4, .int x4)] []) (σ : qM) (x1 : Int32) (x2 : Int32) (x3 : Int32) (x4 : Int32) (t0 : Int32) (res : qM)  (h : fX5_pairs_80 k2 k15 σ x1 x2 x3 x4 t0 = some res) : qY sM X G 6 (q_Q sM X G none res) σ 80 [(0, .ref (q_ad G 0)), (1, .int x1), (2, .int x2), (3, .int x3), (4, .int x4)] [.int t0] := by
  unfold fX5_pairs_80 at h
  refine q_istore (pc := 80) C dX5_pairs_80 (by decide) rfl ?_
  refine q_iload_n (pc := 82) C 4 rfl dX5_pairs_82 rfl ?_
  refine q_iload (pc := 83) C 0 rfl dX5_pairs_83 ?_
  refine q_if_eq (pc := 85) C 115 dX5_pairs_85 (by decide) (fun c1 => ?_) (fun c1 => ?_)
  · have h := q_t c1 h
    refine q_sub [1, 2, 3, 5] rfl ?_
    exact tX5_pairs_115 C k2 hk2 k15 hk15 _ _ _ _ _ _ h
  · have h := q_f c1 h
    refine q_aload_n (pc := 88) C 1 rfl dX5_pairs_88 rfl ?_
    refine q_aload_n (pc := 89) C 1 rfl dX5_pairs_89 rfl ?_
    refine q_getR (pc := 90) (t := 8) C fl_RX5_31 kM_0 rfl rM_0_11 dX5_pairs_90 ?_
    refine q_iconst (pc := 93) C dX5_pairs_93 ci_5 ?_
    refine q_iload_n (pc := 94) C 2 rfl dX5_pairs_94 rfl ?_
    refine q_imul (pc := 95) C dX5_pairs_95 ?_
    refine q_iconst (pc := 96) C dX5_pairs_96 ci_1 ?_
    refine q_iadd (pc := 97) C dX5_pairs_97 ?_
    obtain ⟨g2, h⟩ := q_guard h
    refine q_iald (pc := 98) C kM_8 lM_8 g2 dX5_pairs_98 ?_
    refine q_iload_n (pc := 99) C 3 rfl dX5_pairs_99 rfl ?_
    refine q_iload (pc := 100) C 5 rfl dX5_pairs_100 ?_
    obtain ⟨q3, hq3, h⟩ := q_bind h
    refine q_callV1 (pc := 102) (st := [.int x3]) C (zX5_lieSo hq3) yi_X5_lieSo ml_RX5_157 kM_0 rfl (by decide) rfl (Nat.le_of_ble_eq_true rfl) dX5_pairs_102 ?_
    refine q_if_eq (pc := 105) C 115 dX5_pairs_105 (by decide) (fun c4 => ?_) (fun c4 => ?_)
    · have h := q_t c4 h
      refine q_sub [1, 2, 3, 5] rfl ?_
      exact tX5_pairs_115 C k2 hk2 k15 hk15 _ _ _ _ _ _ h
    · have h := q_f c4 h
      refine q_iconst (pc := 108) C dX5_pairs_108 ci_1 ?_
      refine q_iload (pc := 109) C 5 rfl dX5_pairs_109 ?_
      refine q_shl (pc := 111) C dX5_pairs_111 ?_
      refine q_goto (pc := 112) C 116 dX5_pairs_112 (by decide) ?_
      refine q_sub [1, 2, 3, 5] rfl ?_
      exact tX5_pairs_116 C k2 hk2 k15 hk15 _ _ _ _ _ _ _ h
theorem tX5_pairs_79 {X : qX} {G : qG} (C : qC sM X G RX5 cX5_pairs 6 2 none) (k2 : qM → Int32 → Int32 → Option qM) (hk2 : ∀ (σ : qM) (x1 : Int32) (x2 : Int32) (res : qM), k2 σ x1 x2 = some res → qY sM X G 6 (q_Q sM X G none res) σ 2 [(0, .ref (q_ad G 0)), (1, .int x1), (2, .int x2)] []) (k15 : qM → Int32 → Int32 → Int32 → Int32 → Option qM) (hk15 : ∀ (σ : qM) (x1 : Int32) (x2 : Int32) (x3 : Int32) (x4 : Int32) (res : qM), k15 σ x1 x2 x3 x4 = some res → qY sM X G 6 (q_Q sM X G none res) σ 15 [(0, .ref (q_ad G 0)), (1, .int x1), (2, .int x2), (3, .int x3), (4, .int x4)] []) (σ : qM) (x1 : Int32) (x2 : Int32) (x3 : Int32) (x4 : Int32) (res : qM)  (h : fX5_pairs_79 k2 k15 σ x1 x2 x3 x4 = some res) : qY sM X G 6 (q_Q sM X G none res) σ 79 [(0, .ref (q_ad G 0)), (1, .int x1), (2, .int x2), (3, .int x3), (4, .int x4)] [] := by
  unfold fX5_pairs_79 at h
  refine q_iconst (pc := 79) C dX5_pairs_79 ci_0 ?_
  exact tX5_pairs_80 C k2 hk2 k15 hk15 _ _ _ _ _ _ _ h
theorem uX5_pairs_15 {X : qX} {G : qG} (C : qC sM X G RX5 cX5_pairs 6 2 none) (k2 : qM → Int32 → Int32 → Option qM) (hk2 : ∀ (σ : qM) (x1 : Int32) (x2 : Int32) (res : qM), k2 σ x1 x2 = some res → qY sM X G 6 (q_Q sM X G none res) σ 2 [(0, .ref (q_ad G 0)), (1, .int x1), (2, .int x2)] []) (k15 : qM → Int32 → Int32 → Int32 → Int32 → Option qM) (hk15 : ∀ (σ : qM) (x1 : Int32) (x2 : Int32) (x3 : Int32) (x4 : Int32) (res : qM), k15 σ x1 x2 x3 x4 = some res → qY sM X G 6 (q_Q sM X G none res) σ 15 [(0, .ref (q_ad G 0)), (1, .int x1), (2, .int x2), (3, .int x3), (4, .int x4)] []) (σ : qM) (x1 : Int32) (x2 : Int32) (x3 : Int32) (x4 : Int32) (res : qM)  (h : bX5_pairs_15 k2 k15 σ x1 x2 x3 x4 = some res) : qY sM X G 6 (q_Q sM X G none res) σ 15 [(0, .ref (q_ad G 0)), (1, .int x1), (2, .int x2), (3, .int x3), (4, .int x4)] [] := by
  unfold bX5_pairs_15 at h
  refine q_iload (pc := 15) C 4 rfl dX5_pairs_15 ?_
  refine q_aload_n (pc := 17) C 0 rfl dX5_pairs_17 rfl ?_
  refine q_getI (pc := 18) C fl_RX5_154 kM_0 rfl dX5_pairs_18 ?_
  refine q_ic_ge (pc := 21) C 124 dX5_pairs_21 (by decide) (fun c1 => ?_) (fun c1 => ?_)
  · have h := q_t c1 h
    refine q_aload_n (pc := 124) C 0 rfl dX5_pairs_124 rfl ?_
    refine q_getR (pc := 125) (t := 14) C fl_RX5_49 kM_0 rfl rM_0_19 dX5_pairs_125 ?_
    refine q_bipush (pc := 128) C dX5_pairs_128 cb_13 ?_
    refine q_iload_n (pc := 130) C 1 rfl dX5_pairs_130 rfl ?_
    refine q_imul (pc := 131) C dX5_pairs_131 ?_
    refine q_iload_n (pc := 132) C 2 rfl dX5_pairs_132 rfl ?_
    refine q_iadd (pc := 133) C dX5_pairs_133 ?_
    refine q_iload_n (pc := 134) C 3 rfl dX5_pairs_134 rfl ?_
    obtain ⟨g2, h⟩ := q_guard h
    refine q_iast (pc := 135) C kM_14 lM_14 g2 dX5_pairs_135 ?_
    refine q_inc (pc := 136) C 2 rfl ci_1 dX5_pairs_136 (by decide) rfl ?_
    refine q_goto (pc := 139) C 2 dX5_pairs_139 (by decide) ?_
    refine q_sub [1, 2, 0] rfl ?_
    exact hk2 _ _ _ _ h
  · have h := q_f c1 h
    refine q_iload_n (pc := 24) C 2 rfl dX5_pairs_24 rfl ?_
    refine q_iload (pc := 25) C 4 rfl dX5_pairs_25 ?_
    refine q_ic_eq (pc := 27) C 79 dX5_pairs_27 (by decide) (fun c3 => ?_) (fun c3 => ?_)
    · have h := q_t c3 h
      exact tX5_pairs_79 C k2 hk2 k15 hk15 _ _ _ _ _ _ h
    · have h := q_f c3 h
      refine q_aload_n (pc := 30) C 0 rfl dX5_pairs_30 rfl ?_
      refine q_getR (pc := 31) (t := 7) C fl_RX5_28 kM_0 rfl rM_0_9 dX5_pairs_31 ?_
      refine q_iconst (pc := 34) C dX5_pairs_34 ci_3 ?_
      refine q_iload_n (pc := 35) C 2 rfl dX5_pairs_35 rfl ?_
      refine q_imul (pc := 36) C dX5_pairs_36 ?_
      refine q_iconst (pc := 37) C dX5_pairs_37 ci_2 ?_
      refine q_iadd (pc := 38) C dX5_pairs_38 ?_
      obtain ⟨g4, h⟩ := q_guard h
      refine q_iald (pc := 39) C kM_7 lM_7 g4 dX5_pairs_39 ?_
      refine q_aload_n (pc := 40) C 0 rfl dX5_pairs_40 rfl ?_
      refine q_getR (pc := 41) (t := 8) C fl_RX5_31 kM_0 rfl rM_0_11 dX5_pairs_41 ?_
      refine q_iconst (pc := 44) C dX5_pairs_44 ci_5 ?_
      refine q_iload_n (pc := 45) C 1 rfl dX5_pairs_45 rfl ?_
      refine q_imul (pc := 46) C dX5_pairs_46 ?_
      obtain ⟨g5, h⟩ := q_guard h
      refine q_iald (pc := 47) C kM_8 lM_8 g5 dX5_pairs_47 ?_
      refine q_ic_ne (pc := 48) C 79 dX5_pairs_48 (by decide) (fun c6 => ?_) (fun c6 => ?_)
      · have h := q_f c6 h
        exact tX5_pairs_79 C k2 hk2 k15 hk15 _ _ _ _ _ _ h
      · have h := q_t c6 h
        refine q_aload_n (pc := 51) C 0 rfl dX5_pairs_51 rfl ?_
        refine q_getR (pc := 52) (t := 7) C fl_RX5_28 kM_0 rfl rM_0_9 dX5_pairs_52 ?_
        refine q_iconst (pc := 55) C dX5_pairs_55 ci_3 ?_
        refine q_iload (pc := 56) C 4 rfl dX5_pairs_56 ?_
        refine q_imul (pc := 58) C dX5_pairs_58 ?_
        refine q_iconst (pc := 59) C dX5_pairs_59 ci_2 ?_
        refine q_iadd (pc := 60) C dX5_pairs_60 ?_
        obtain ⟨g7, h⟩ := q_guard h
        refine q_iald (pc := 61) C kM_7 lM_7 g7 dX5_pairs_61 ?_
        refine q_aload_n (pc := 62) C 0 rfl dX5_pairs_62 rfl ?_
        refine q_getR (pc := 63) (t := 8) C fl_RX5_31 kM_0 rfl rM_0_11 dX5_pairs_63 ?_
        refine q_iconst (pc := 66) C dX5_pairs_66 ci_5 ?_
        refine q_iload_n (pc := 67) C 1 rfl dX5_pairs_67 rfl ?_
        refine q_imul (pc := 68) C dX5_pairs_68 ?_
        refine q_iconst (pc := 69) C dX5_pairs_69 ci_2 ?_
        refine q_iadd (pc := 70) C dX5_pairs_70 ?_
        obtain ⟨g8, h⟩ := q_guard h
        refine q_iald (pc := 71) C kM_8 lM_8 g8 dX5_pairs_71 ?_
        refine q_ic_ne (pc := 72) C 79 dX5_pairs_72 (by decide) (fun c9 => ?_) (fun c9 => ?_)
        · have h := q_f c9 h
          exact tX5_pairs_79 C k2 hk2 k15 hk15 _ _ _ _ _ _ h
        · have h := q_t c9 h
          refine q_iconst (pc := 75) C dX5_pairs_75 ci_1 ?_
          refine q_goto (pc := 76) C 80 dX5_pairs_76 (by decide) ?_
          exact tX5_pairs_80 C k2 hk2 k15 hk15 _ _ _ _ _ _ _ h
theorem tX5_pairs_15 {X : qX} {G : qG} (C : qC sM X G RX5 cX5_pairs 6 2 none) (k2 : qM → Int32 → Int32 → Option qM) (hk2 : ∀ (σ : qM) (x1 : Int32) (x2 : Int32) (res : qM), k2 σ x1 x2 = some res → qY sM X G 6 (q_Q sM X G none res) σ 2 [(0, .ref (q_ad G 0)), (1, .int x1), (2, .int x2)] []) (σ : qM) (x1 : Int32) (x2 : Int32) (x3 : Int32) (x4 : Int32) (res : qM)  (h : fX5_pairs_15 k2 σ x1 x2 x3 x4 = some res) : qY sM X G 6 (q_Q sM X G none res) σ 15 [(0, .ref (q_ad G 0)), (1, .int x1), (2, .int x2), (3, .int x3), (4, .int x4)] [] := by
  have key : ∀ (n : Nat) (σ : qM) (x1 : Int32) (x2 : Int32) (x3 : Int32) (x4 : Int32) (res : qM) , qlp (fun _ _ _ _ _ => none) (bX5_pairs_15 k2) n σ x1 x2 x3 x4 = some res → qY sM X G 6 (q_Q sM X G none res) σ 15 [(0, .ref (q_ad G 0)), (1, .int x1), (2, .int x2), (3, .int x3), (4, .int x4)] [] := by
    intro n
    induction n with
    | zero => intro σ x1 x2 x3 x4 res h; cases h
    | succ n ih => intro σ x1 x2 x3 x4 res h; exact uX5_pairs_15 C k2 hk2 (qlp (fun _ _ _ _ _ => none) (bX5_pairs_15 k2) n) (fun σ x1 x2 x3 x4 res h => ih σ x1 x2 x3 x4 res h) σ x1 x2 x3 x4 res h
  exact key qFU σ x1 x2 x3 x4 res h
theorem uX5_pairs_2 {X : qX} {G : qG} (C : qC sM X G RX5 cX5_pairs 6 2 none) (k2 : qM → Int32 → Int32 → Option qM) (hk2 : ∀ (σ : qM) (x1 : Int32) (x2 : Int32) (res : qM), k2 σ x1 x2 = some res → qY sM X G 6 (q_Q sM X G none res) σ 2 [(0, .ref (q_ad G 0)), (1, .int x1), (2, .int x2)] []) (σ : qM) (x1 : Int32) (x2 : Int32) (res : qM)  (h : bX5_pairs_2 k2 σ x1 x2 = some res) : qY sM X G 6 (q_Q sM X G none res) σ 2 [(0, .ref (q_ad G 0)), (1, .int x1), (2, .int x2)] [] := by
  unfold bX5_pairs_2 at h
  refine q_iload_n (pc := 2) C 2 rfl dX5_pairs_2 rfl ?_
  refine q_aload_n (pc := 3) C 0 rfl dX5_pairs_3 rfl ?_
  refine q_getI (pc := 4) C fl_RX5_154 kM_0 rfl dX5_pairs_4 ?_
  refine q_ic_ge (pc := 7) C 142 dX5_pairs_7 (by decide) (fun c1 => ?_) (fun c1 => ?_)
  · have h := q_t c1 h
    obtain rfl := Option.some.inj h
    exact q_vret (pc := 142) C dX5_pairs_142
  · have h := q_f c1 h
    refine q_iconst (pc := 10) C dX5_pairs_10 ci_0 ?_
    refine q_istore_n (pc := 11) C dX5_pairs_11 rfl (by decide) rfl ?_
    refine q_iconst (pc := 12) C dX5_pairs_12 ci_0 ?_
    refine q_istore (pc := 13) C dX5_pairs_13 (by decide) rfl ?_
    refine q_sub [2, 3, 4, 1, 0] rfl ?_
    exact tX5_pairs_15 C k2 hk2 _ _ _ _ _ _ h
theorem tX5_pairs_2 {X : qX} {G : qG} (C : qC sM X G RX5 cX5_pairs 6 2 none)  (σ : qM) (x1 : Int32) (x2 : Int32) (res : qM)  (h : fX5_pairs_2  σ x1 x2 = some res) : qY sM X G 6 (q_Q sM X G none res) σ 2 [(0, .ref (q_ad G 0)), (1, .int x1), (2, .int x2)] [] := by
  have key : ∀ (n : Nat) (σ : qM) (x1 : Int32) (x2 : Int32) (res : qM) , qlp (fun _ _ _ => none) (bX5_pairs_2 ) n σ x1 x2 = some res → qY sM X G 6 (q_Q sM X G none res) σ 2 [(0, .ref (q_ad G 0)), (1, .int x1), (2, .int x2)] [] := by
    intro n
    induction n with
    | zero => intro σ x1 x2 res h; cases h
    | succ n ih => intro σ x1 x2 res h; exact uX5_pairs_2 C  (qlp (fun _ _ _ => none) (bX5_pairs_2 ) n) (fun σ x1 x2 res h => ih σ x1 x2 res h) σ x1 x2 res h
  exact key qFU σ x1 x2 res h
theorem zX5_pairs {G : qG} {l : Launch} {σ : qM} {x1 : Int32} {res : qM}  (h : fX5_pairs σ x1 = some res) : qCon sM G l yX5_pairs cX5_pairs 6 none 2 [.ref (q_ad G 0), .int x1] σ none res := by
  refine qCon.mkF (lv := [(0, .ref (q_ad G 0)), (1, .int x1)]) (plainFor_of_name (by decide)) (Nat.le_of_ble_eq_true rfl) rfl (fun X hX C => ?_)
  unfold fX5_pairs at h
  refine q_iconst (pc := 0) C dX5_pairs_0 ci_0 ?_
  refine q_istore_n (pc := 1) C dX5_pairs_1 rfl (by decide) rfl ?_
  refine q_sub [1, 2, 0] rfl ?_
  exact tX5_pairs_2 C _ _ _ _ h
/-! X5_laysOut -/
theorem uX5_laysOut_58 {X : qX} {G : qG} (C : qC sM X G RX5 cX5_laysOut 2 3 none) (k58 : qM → Int32 → Option qM) (hk58 : ∀ (σ : qM) (x1 : Int32) (res : qM), k58 σ x1 = some res → qY sM X G 2 (q_Q sM X G none res) σ 58 [(0, .ref (q_ad G 0)), (1, .int x1)] []) (σ : qM) (x1 : Int32) (res : qM)  (h : bX5_laysOut_58 k58 σ x1 = some res) : qY sM X G 2 (q_Q sM X G none res) σ 58 [(0, .ref (q_ad G 0)), (1, .int x1)] [] := by
  unfold bX5_laysOut_58 at h
  refine q_iload_n (pc := 58) C 1 rfl dX5_laysOut_58 rfl ?_
  refine q_aload_n (pc := 59) C 0 rfl dX5_laysOut_59 rfl ?_
  refine q_getI (pc := 60) C fl_RX5_106 kM_0 rfl dX5_laysOut_60 ?_
  refine q_ic_ge (pc := 63) C 77 dX5_laysOut_63 (by decide) (fun c1 => ?_) (fun c1 => ?_)
  · have h := q_t c1 h
    obtain rfl := Option.some.inj h
    exact q_vret (pc := 77) C dX5_laysOut_77
  · have h := q_f c1 h
    refine q_aload_n (pc := 66) C 0 rfl dX5_laysOut_66 rfl ?_
    refine q_iload_n (pc := 67) C 1 rfl dX5_laysOut_67 rfl ?_
    obtain ⟨q2, hq2, h⟩ := q_bind h
    refine q_callV0 (pc := 68) (st := []) C (zX5_pairs hq2) yi_X5_pairs ml_RX5_168 kM_0 rfl (by decide) rfl (Nat.le_of_ble_eq_true rfl) dX5_laysOut_68 ?_
    refine q_inc (pc := 71) C 1 rfl ci_1 dX5_laysOut_71 (by decide) rfl ?_
    refine q_goto (pc := 74) C 58 dX5_laysOut_74 (by decide) ?_
    refine q_sub [1, 0] rfl ?_
    exact hk58 _ _ _ h
theorem tX5_laysOut_58 {X : qX} {G : qG} (C : qC sM X G RX5 cX5_laysOut 2 3 none)  (σ : qM) (x1 : Int32) (res : qM)  (h : fX5_laysOut_58  σ x1 = some res) : qY sM X G 2 (q_Q sM X G none res) σ 58 [(0, .ref (q_ad G 0)), (1, .int x1)] [] := by
  have key : ∀ (n : Nat) (σ : qM) (x1 : Int32) (res : qM) , qlp (fun _ _ => none) (bX5_laysOut_58 ) n σ x1 = some res → qY sM X G 2 (q_Q sM X G none res) σ 58 [(0, .ref (q_ad G 0)), (1, .int x1)] [] := by
    intro n
    induction n with
    | zero => intro σ x1 res h; cases h
    | succ n ih => intro σ x1 res h; exact uX5_laysOut_58 C  (qlp (fun _ _ => none) (bX5_laysOut_58 ) n) (fun σ x1 res h => ih σ x1 res h) σ x1 res h
  exact key qFU σ x1 res h
theorem tX5_laysOut_46 {X : qX} {G : qG} (C : qC sM X G RX5 cX5_laysOut 2 3 none) (k7 : qM → Int32 → Option qM) (hk7 : ∀ (σ : qM) (x1 : Int32) (res : qM), k7 σ x1 = some res → qY sM X G 2 (q_Q sM X G none res) σ 7 [(0, .ref (q_ad G 0)), (1, .int x1)] []) (σ : qM) (x1 : Int32) (t0 : Int32) (t1 : Int32) (res : qM)  (h : fX5_laysOut_46 k7 σ x1 t0 t1 = some res) : qY sM X G 2 (q_Q sM X G none res) σ 46 [(0, .ref (q_ad G 0)), (1, .int x1)] [.int t0, .int t1, .ref (q_ad G 0)] := by
  unfold fX5_laysOut_46 at h
  refine q_ior (pc := 46) C dX5_laysOut_46 ?_
  refine q_putI (pc := 47) C fl_RX5_161 kM_0 rfl rfl rfl dX5_laysOut_47 ?_
  refine q_inc (pc := 50) C 1 rfl ci_1 dX5_laysOut_50 (by decide) rfl ?_
  refine q_goto (pc := 53) C 7 dX5_laysOut_53 (by decide) ?_
  refine q_sub [1, 0] rfl ?_
  exact hk7 _ _ _ h
theorem uX5_laysOut_7 {X : qX} {G : qG} (C : qC sM X G RX5 cX5_laysOut 2 3 none) (k7 : qM → Int32 → Option qM) (hk7 : ∀ (σ : qM) (x1 : Int32) (res : qM), k7 σ x1 = some res → qY sM X G 2 (q_Q sM X G none res) σ 7 [(0, .ref (q_ad G 0)), (1, .int x1)] []) (σ : qM) (x1 : Int32) (res : qM)  (h : bX5_laysOut_7 k7 σ x1 = some res) : qY sM X G 2 (q_Q sM X G none res) σ 7 [(0, .ref (q_ad G 0)), (1, .int x1)] [] := by
  unfold bX5_laysOut_7 at h
  refine q_iload_n (pc := 7) C 1 rfl dX5_laysOut_7 rfl ?_
  refine q_aload_n (pc := 8) C 0 rfl dX5_laysOut_8 rfl ?_
  refine q_getI (pc := 9) C fl_RX5_154 kM_0 rfl dX5_laysOut_9 ?_
  refine q_ic_ge (pc := 12) C 56 dX5_laysOut_12 (by decide) (fun c1 => ?_) (fun c1 => ?_)
  · have h := q_t c1 h
    refine q_iconst (pc := 56) C dX5_laysOut_56 ci_0 ?_
    refine q_istore_n (pc := 57) C dX5_laysOut_57 rfl (by decide) rfl ?_
    refine q_sub [1, 0] rfl ?_
    exact tX5_laysOut_58 C _ _ _ h
  · have h := q_f c1 h
    refine q_aload_n (pc := 15) C 0 rfl dX5_laysOut_15 rfl ?_
    refine q_dup (pc := 16) C dX5_laysOut_16 rfl ?_
    refine q_getI (pc := 17) C fl_RX5_161 kM_0 rfl dX5_laysOut_17 ?_
    refine q_aload_n (pc := 20) C 0 rfl dX5_laysOut_20 rfl ?_
    refine q_aload_n (pc := 21) C 0 rfl dX5_laysOut_21 rfl ?_
    refine q_getR (pc := 22) (t := 12) C fl_RX5_43 kM_0 rfl rM_0_17 dX5_laysOut_22 ?_
    refine q_iload_n (pc := 25) C 1 rfl dX5_laysOut_25 rfl ?_
    obtain ⟨g2, h⟩ := q_guard h
    refine q_iald (pc := 26) C kM_12 lM_12 g2 dX5_laysOut_26 ?_
    refine q_aload_n (pc := 27) C 0 rfl dX5_laysOut_27 rfl ?_
    refine q_getR (pc := 28) (t := 13) C fl_RX5_46 kM_0 rfl rM_0_18 dX5_laysOut_28 ?_
    refine q_iload_n (pc := 31) C 1 rfl dX5_laysOut_31 rfl ?_
    obtain ⟨g3, h⟩ := q_guard h
    refine q_iald (pc := 32) C kM_13 lM_13 g3 dX5_laysOut_32 ?_
    obtain ⟨q4, hq4, h⟩ := q_bind h
    refine q_callV1 (pc := 33) (st := [.int (σ 0 21), .ref (q_ad G 0)]) C (zX5_isCracked hq4) yi_X5_isCracked ml_RX5_164 kM_0 rfl (by decide) rfl (Nat.le_of_ble_eq_true rfl) dX5_laysOut_33 ?_
    refine q_if_eq (pc := 36) C 43 dX5_laysOut_36 (by decide) (fun c5 => ?_) (fun c5 => ?_)
    · have h := q_t c5 h
      refine q_iconst (pc := 43) C dX5_laysOut_43 ci_1 ?_
      refine q_iload_n (pc := 44) C 1 rfl dX5_laysOut_44 rfl ?_
      refine q_shl (pc := 45) C dX5_laysOut_45 ?_
      exact tX5_laysOut_46 C k7 hk7 _ _ _ _ _ h
    · have h := q_f c5 h
      refine q_iconst (pc := 39) C dX5_laysOut_39 ci_0 ?_
      refine q_goto (pc := 40) C 46 dX5_laysOut_40 (by decide) ?_
      exact tX5_laysOut_46 C k7 hk7 _ _ _ _ _ h
theorem tX5_laysOut_7 {X : qX} {G : qG} (C : qC sM X G RX5 cX5_laysOut 2 3 none)  (σ : qM) (x1 : Int32) (res : qM)  (h : fX5_laysOut_7  σ x1 = some res) : qY sM X G 2 (q_Q sM X G none res) σ 7 [(0, .ref (q_ad G 0)), (1, .int x1)] [] := by
  have key : ∀ (n : Nat) (σ : qM) (x1 : Int32) (res : qM) , qlp (fun _ _ => none) (bX5_laysOut_7 ) n σ x1 = some res → qY sM X G 2 (q_Q sM X G none res) σ 7 [(0, .ref (q_ad G 0)), (1, .int x1)] [] := by
    intro n
    induction n with
    | zero => intro σ x1 res h; cases h
    | succ n ih => intro σ x1 res h; exact uX5_laysOut_7 C  (qlp (fun _ _ => none) (bX5_laysOut_7 ) n) (fun σ x1 res h => ih σ x1 res h) σ x1 res h
  exact key qFU σ x1 res h
theorem zX5_laysOut {G : qG} {l : Launch} {σ : qM}  {res : qM}  (h : fX5_laysOut σ  = some res) : qCon sM G l yX5_laysOut cX5_laysOut 2 none 3 [.ref (q_ad G 0)] σ none res := by
  refine qCon.mkF (lv := [(0, .ref (q_ad G 0))]) (plainFor_of_name (by decide)) (Nat.le_of_ble_eq_true rfl) rfl (fun X hX C => ?_)
  unfold fX5_laysOut at h
  refine q_aload_n (pc := 0) C 0 rfl dX5_laysOut_0 rfl ?_
  refine q_iconst (pc := 1) C dX5_laysOut_1 ci_0 ?_
  refine q_putI (pc := 2) C fl_RX5_161 kM_0 rfl rfl rfl dX5_laysOut_2 ?_
  refine q_iconst (pc := 5) C dX5_laysOut_5 ci_0 ?_
  refine q_istore_n (pc := 6) C dX5_laysOut_6 rfl (by decide) rfl ?_
  refine q_sub [1, 0] rfl ?_
  exact tX5_laysOut_7 C _ _ _ h
/-! X5_turnsCup -/
theorem uX5_turnsCup_10 {X : qX} {G : qG} (C : qC sM X G RX5 cX5_turnsCup 3 4 none) (k10 : qM → Int32 → Int32 → Option qM) (hk10 : ∀ (σ : qM) (x1 : Int32) (x2 : Int32) (res : qM), k10 σ x1 x2 = some res → qY sM X G 3 (q_Q sM X G none res) σ 10 [(0, .ref (q_ad G 0)), (1, .int x1), (2, .int x2)] []) (σ : qM) (x1 : Int32) (x2 : Int32) (res : qM)  (h : bX5_turnsCup_10 k10 σ x1 x2 = some res) : qY sM X G 3 (q_Q sM X G none res) σ 10 [(0, .ref (q_ad G 0)), (1, .int x1), (2, .int x2)] [] := by
  unfold bX5_turnsCup_10 at h
  refine q_iload_n (pc := 10) C 2 rfl dX5_turnsCup_10 rfl ?_
  refine q_aload_n (pc := 11) C 0 rfl dX5_turnsCup_11 rfl ?_
  refine q_getI (pc := 12) C fl_RX5_103 kM_0 rfl dX5_turnsCup_12 ?_
  refine q_ic_ge (pc := 15) C 30 dX5_turnsCup_15 (by decide) (fun c1 => ?_) (fun c1 => ?_)
  · have h := q_t c1 h
    refine q_aload_n (pc := 30) C 0 rfl dX5_turnsCup_30 rfl ?_
    obtain ⟨q2, hq2, h⟩ := q_bind h
    refine q_callV0 (pc := 31) (st := []) C (zX5_laysOut hq2) yi_X5_laysOut ml_RX5_175 kM_0 rfl (by decide) rfl (Nat.le_of_ble_eq_true rfl) dX5_turnsCup_31 ?_
    obtain rfl := Option.some.inj h
    exact q_vret (pc := 34) C dX5_turnsCup_34
  · have h := q_f c1 h
    refine q_aload_n (pc := 18) C 0 rfl dX5_turnsCup_18 rfl ?_
    refine q_iload_n (pc := 19) C 2 rfl dX5_turnsCup_19 rfl ?_
    refine q_iload_n (pc := 20) C 1 rfl dX5_turnsCup_20 rfl ?_
    obtain ⟨q3, hq3, h⟩ := q_bind h
    refine q_callV0 (pc := 21) (st := []) C (zX5_turnsOne hq3) yi_X5_turnsOne ml_RX5_171 kM_0 rfl (by decide) rfl (Nat.le_of_ble_eq_true rfl) dX5_turnsCup_21 ?_
    refine q_inc (pc := 24) C 2 rfl ci_1 dX5_turnsCup_24 (by decide) rfl ?_
    refine q_goto (pc := 27) C 10 dX5_turnsCup_27 (by decide) ?_
    refine q_sub [1, 2, 0] rfl ?_
    exact hk10 _ _ _ _ h
theorem tX5_turnsCup_10 {X : qX} {G : qG} (C : qC sM X G RX5 cX5_turnsCup 3 4 none)  (σ : qM) (x1 : Int32) (x2 : Int32) (res : qM)  (h : fX5_turnsCup_10  σ x1 x2 = some res) : qY sM X G 3 (q_Q sM X G none res) σ 10 [(0, .ref (q_ad G 0)), (1, .int x1), (2, .int x2)] [] := by
  have key : ∀ (n : Nat) (σ : qM) (x1 : Int32) (x2 : Int32) (res : qM) , qlp (fun _ _ _ => none) (bX5_turnsCup_10 ) n σ x1 x2 = some res → qY sM X G 3 (q_Q sM X G none res) σ 10 [(0, .ref (q_ad G 0)), (1, .int x1), (2, .int x2)] [] := by
    intro n
    induction n with
    | zero => intro σ x1 x2 res h; cases h
    | succ n ih => intro σ x1 x2 res h; exact uX5_turnsCup_10 C  (qlp (fun _ _ _ => none) (bX5_turnsCup_10 ) n) (fun σ x1 x2 res h => ih σ x1 x2 res h) σ x1 x2 res h
  exact key qFU σ x1 x2 res h
theorem zX5_turnsCup {G : qG} {l : Launch} {σ : qM} {x1 : Int32} {res : qM}  (h : fX5_turnsCup σ x1 = some res) : qCon sM G l yX5_turnsCup cX5_turnsCup 3 none 4 [.ref (q_ad G 0), .int x1] σ none res := by
  refine qCon.mkF (lv := [(0, .ref (q_ad G 0)), (1, .int x1)]) (plainFor_of_name (by decide)) (Nat.le_of_ble_eq_true rfl) rfl (fun X hX C => ?_)
  unfold fX5_turnsCup at h
  refine q_aload_n (pc := 0) C 0 rfl dX5_turnsCup_0 rfl ?_
  refine q_aload_n (pc := 1) C 0 rfl dX5_turnsCup_1 rfl ?_
  refine q_getI (pc := 2) C fl_RX5_103 kM_0 rfl dX5_turnsCup_2 ?_
  refine q_putI (pc := 5) C fl_RX5_154 kM_0 rfl rfl rfl dX5_turnsCup_5 ?_
  refine q_iconst (pc := 8) C dX5_turnsCup_8 ci_0 ?_
  refine q_istore_n (pc := 9) C dX5_turnsCup_9 rfl (by decide) rfl ?_
  refine q_sub [1, 2, 0] rfl ?_
  exact tX5_turnsCup_10 C _ _ _ _ h
/-! X5_applies -/
theorem tX5_applies_49 {X : qX} {G : qG} (C : qC sM X G RX5 cX5_applies 5 1 (some .boolean)) (k5 : qM → Int32 → Int32 → Int32 → Int32 → Option (Int32 × qM)) (hk5 : ∀ (σ : qM) (x1 : Int32) (x2 : Int32) (x3 : Int32) (x4 : Int32) (res : (Int32 × qM)), k5 σ x1 x2 x3 x4 = some res → qY sM X G 5 (q_Q sM X G (some (.int res.1)) res.2) σ 5 [(0, .ref (q_ad G 0)), (1, .int x1), (2, .int x2), (3, .int x3), (4, .int x4)] []) (σ : qM) (x1 : Int32) (x2 : Int32) (x4 : Int32) (t0 : Int32) (res : (Int32 × qM))  (h : fX5_applies_49 k5 σ x1 x2 x4 t0 = some res) : qY sM X G 5 (q_Q sM X G (some (.int res.1)) res.2) σ 49 [(0, .ref (q_ad G 0)), (1, .int x1), (2, .int x2), (4, .int x4)] [.int t0] := by
  unfold fX5_applies_49 at h
  refine q_istore_n (pc := 49) C dX5_applies_49 rfl (by decide) rfl ?_
  refine q_inc (pc := 50) C 4 rfl ci_1 dX5_applies_50 (by decide) rfl ?_
  refine q_goto (pc := 53) C 5 dX5_applies_53 (by decide) ?_
  refine q_sub [2, 3, 4, 1, 0] rfl ?_
  exact hk5 _ _ _ _ _ _ h
theorem tX5_applies_48 {X : qX} {G : qG} (C : qC sM X G RX5 cX5_applies 5 1 (some .boolean)) (k5 : qM → Int32 → Int32 → Int32 → Int32 → Option (Int32 × qM)) (hk5 : ∀ (σ : qM) (x1 : Int32) (x2 : Int32) (x3 : Int32) (x4 : Int32) (res : (Int32 × qM)), k5 σ x1 x2 x3 x4 = some res → qY sM X G 5 (q_Q sM X G (some (.int res.1)) res.2) σ 5 [(0, .ref (q_ad G 0)), (1, .int x1), (2, .int x2), (3, .int x3), (4, .int x4)] []) (σ : qM) (x1 : Int32) (x2 : Int32) (x4 : Int32) (res : (Int32 × qM))  (h : fX5_applies_48 k5 σ x1 x2 x4 = some res) : qY sM X G 5 (q_Q sM X G (some (.int res.1)) res.2) σ 48 [(0, .ref (q_ad G 0)), (1, .int x1), (2, .int x2), (4, .int x4)] [] := by
  unfold fX5_applies_48 at h
  refine q_iconst (pc := 48) C dX5_applies_48 ci_0 ?_
  exact tX5_applies_49 C k5 hk5 _ _ _ _ _ _ h
theorem uX5_applies_5 {X : qX} {G : qG} (C : qC sM X G RX5 cX5_applies 5 1 (some .boolean)) (k5 : qM → Int32 → Int32 → Int32 → Int32 → Option (Int32 × qM)) (hk5 : ∀ (σ : qM) (x1 : Int32) (x2 : Int32) (x3 : Int32) (x4 : Int32) (res : (Int32 × qM)), k5 σ x1 x2 x3 x4 = some res → qY sM X G 5 (q_Q sM X G (some (.int res.1)) res.2) σ 5 [(0, .ref (q_ad G 0)), (1, .int x1), (2, .int x2), (3, .int x3), (4, .int x4)] []) (σ : qM) (x1 : Int32) (x2 : Int32) (x3 : Int32) (x4 : Int32) (res : (Int32 × qM))  (h : bX5_applies_5 k5 σ x1 x2 x3 x4 = some res) : qY sM X G 5 (q_Q sM X G (some (.int res.1)) res.2) σ 5 [(0, .ref (q_ad G 0)), (1, .int x1), (2, .int x2), (3, .int x3), (4, .int x4)] [] := by
  unfold bX5_applies_5 at h
  refine q_iload (pc := 5) C 4 rfl dX5_applies_5 ?_
  refine q_aload_n (pc := 7) C 0 rfl dX5_applies_7 rfl ?_
  refine q_getI (pc := 8) C fl_RX5_154 kM_0 rfl dX5_applies_8 ?_
  refine q_ic_ge (pc := 11) C 56 dX5_applies_11 (by decide) (fun c1 => ?_) (fun c1 => ?_)
  · have h := q_t c1 h
    refine q_iload_n (pc := 56) C 3 rfl dX5_applies_56 rfl ?_
    obtain ⟨g2, h⟩ := q_guard h
    obtain rfl := Option.some.inj h
    exact q_zret (pc := 57) C g2 dX5_applies_57
  · have h := q_f c1 h
    refine q_iload_n (pc := 14) C 3 rfl dX5_applies_14 rfl ?_
    refine q_if_ne (pc := 15) C 56 dX5_applies_15 (by decide) (fun c3 => ?_) (fun c3 => ?_)
    · have h := q_f c3 h
      refine q_iload_n (pc := 56) C 3 rfl dX5_applies_56 rfl ?_
      obtain ⟨g4, h⟩ := q_guard h
      obtain rfl := Option.some.inj h
      exact q_zret (pc := 57) C g4 dX5_applies_57
    · have h := q_t c3 h
      refine q_iload_n (pc := 18) C 2 rfl dX5_applies_18 rfl ?_
      refine q_iload (pc := 19) C 4 rfl dX5_applies_19 ?_
      obtain ⟨q5, hq5, h⟩ := q_bind h
      refine q_callS1 (pc := 21) (st := []) C (zX5_isIn hq5) ys_X5_isIn ml_RX5_178 rfl (by decide) rfl (Nat.le_of_ble_eq_true rfl) dX5_applies_21 ?_
      refine q_if_eq (pc := 24) C 48 dX5_applies_24 (by decide) (fun c6 => ?_) (fun c6 => ?_)
      · have h := q_t c6 h
        refine q_sub [0, 1, 2, 4] rfl ?_
        exact tX5_applies_48 C k5 hk5 _ _ _ _ _ h
      · have h := q_f c6 h
        refine q_aload_n (pc := 27) C 0 rfl dX5_applies_27 rfl ?_
        refine q_getR (pc := 28) (t := 14) C fl_RX5_49 kM_0 rfl rM_0_19 dX5_applies_28 ?_
        refine q_bipush (pc := 31) C dX5_applies_31 cb_13 ?_
        refine q_iload_n (pc := 33) C 1 rfl dX5_applies_33 rfl ?_
        refine q_imul (pc := 34) C dX5_applies_34 ?_
        refine q_iload (pc := 35) C 4 rfl dX5_applies_35 ?_
        refine q_iadd (pc := 37) C dX5_applies_37 ?_
        obtain ⟨g7, h⟩ := q_guard h
        refine q_iald (pc := 38) C kM_14 lM_14 g7 dX5_applies_38 ?_
        refine q_iload_n (pc := 39) C 2 rfl dX5_applies_39 rfl ?_
        refine q_iand (pc := 40) C dX5_applies_40 ?_
        refine q_if_eq (pc := 41) C 48 dX5_applies_41 (by decide) (fun c8 => ?_) (fun c8 => ?_)
        · have h := q_t c8 h
          refine q_sub [0, 1, 2, 4] rfl ?_
          exact tX5_applies_48 C k5 hk5 _ _ _ _ _ h
        · have h := q_f c8 h
          refine q_iconst (pc := 44) C dX5_applies_44 ci_1 ?_
          refine q_goto (pc := 45) C 49 dX5_applies_45 (by decide) ?_
          refine q_sub [0, 1, 2, 4] rfl ?_
          exact tX5_applies_49 C k5 hk5 _ _ _ _ _ _ h
theorem tX5_applies_5 {X : qX} {G : qG} (C : qC sM X G RX5 cX5_applies 5 1 (some .boolean))  (σ : qM) (x1 : Int32) (x2 : Int32) (x3 : Int32) (x4 : Int32) (res : (Int32 × qM))  (h : fX5_applies_5  σ x1 x2 x3 x4 = some res) : qY sM X G 5 (q_Q sM X G (some (.int res.1)) res.2) σ 5 [(0, .ref (q_ad G 0)), (1, .int x1), (2, .int x2), (3, .int x3), (4, .int x4)] [] := by
  have key : ∀ (n : Nat) (σ : qM) (x1 : Int32) (x2 : Int32) (x3 : Int32) (x4 : Int32) (res : (Int32 × qM)) , qlp (fun _ _ _ _ _ => none) (bX5_applies_5 ) n σ x1 x2 x3 x4 = some res → qY sM X G 5 (q_Q sM X G (some (.int res.1)) res.2) σ 5 [(0, .ref (q_ad G 0)), (1, .int x1), (2, .int x2), (3, .int x3), (4, .int x4)] [] := by
    intro n
    induction n with
    | zero => intro σ x1 x2 x3 x4 res h; cases h
    | succ n ih => intro σ x1 x2 x3 x4 res h; exact uX5_applies_5 C  (qlp (fun _ _ _ _ _ => none) (bX5_applies_5 ) n) (fun σ x1 x2 x3 x4 res h => ih σ x1 x2 x3 x4 res h) σ x1 x2 x3 x4 res h
  exact key qFU σ x1 x2 x3 x4 res h
theorem zX5_applies {G : qG} {l : Launch} {σ : qM} {x1 : Int32} {x2 : Int32} {res : (Int32 × qM)}  (h : fX5_applies σ x1 x2 = some res) : qCon sM G l yX5_applies cX5_applies 5 (some .boolean) 1 [.ref (q_ad G 0), .int x1, .int x2] σ (some (.int res.1)) res.2 := by
  refine qCon.mkF (lv := [(0, .ref (q_ad G 0)), (1, .int x1), (2, .int x2)]) (plainFor_of_name (by decide)) (Nat.le_of_ble_eq_true rfl) rfl (fun X hX C => ?_)
  unfold fX5_applies at h
  refine q_iconst (pc := 0) C dX5_applies_0 ci_0 ?_
  refine q_istore_n (pc := 1) C dX5_applies_1 rfl (by decide) rfl ?_
  refine q_iconst (pc := 2) C dX5_applies_2 ci_0 ?_
  refine q_istore (pc := 3) C dX5_applies_3 (by decide) rfl ?_
  refine q_sub [2, 3, 4, 1, 0] rfl ?_
  exact tX5_applies_5 C _ _ _ _ _ _ h
/-! X5_readBy -/
theorem tX5_readBy_107 {X : qX} {G : qG} (C : qC sM X G RX5 cX5_readBy 6 2 (some .int)) (k4 : qM → Int32 → Int32 → Int32 → Option (Int32 × qM)) (hk4 : ∀ (σ : qM) (x1 : Int32) (x2 : Int32) (x3 : Int32) (res : (Int32 × qM)), k4 σ x1 x2 x3 = some res → qY sM X G 6 (q_Q sM X G (some (.int res.1)) res.2) σ 4 [(0, .ref (q_ad G 0)), (1, .int x1), (2, .int x2), (3, .int x3)] []) (σ : qM) (x1 : Int32) (x2 : Int32) (x3 : Int32) (res : (Int32 × qM))  (h : fX5_readBy_107 k4 σ x1 x2 x3 = some res) : qY sM X G 6 (q_Q sM X G (some (.int res.1)) res.2) σ 107 [(0, .ref (q_ad G 0)), (1, .int x1), (2, .int x2), (3, .int x3)] [] := by
  unfold fX5_readBy_107 at h
  refine q_inc (pc := 107) C 3 rfl ci_1 dX5_readBy_107 (by decide) rfl ?_
  refine q_goto (pc := 110) C 4 dX5_readBy_110 (by decide) ?_
  refine q_sub [1, 2, 3, 0] rfl ?_
  exact hk4 _ _ _ _ _ h
theorem tX5_readBy_106 {X : qX} {G : qG} (C : qC sM X G RX5 cX5_readBy 6 2 (some .int)) (k4 : qM → Int32 → Int32 → Int32 → Option (Int32 × qM)) (hk4 : ∀ (σ : qM) (x1 : Int32) (x2 : Int32) (x3 : Int32) (res : (Int32 × qM)), k4 σ x1 x2 x3 = some res → qY sM X G 6 (q_Q sM X G (some (.int res.1)) res.2) σ 4 [(0, .ref (q_ad G 0)), (1, .int x1), (2, .int x2), (3, .int x3)] []) (σ : qM) (x1 : Int32) (x3 : Int32) (t0 : Int32) (res : (Int32 × qM))  (h : fX5_readBy_106 k4 σ x1 x3 t0 = some res) : qY sM X G 6 (q_Q sM X G (some (.int res.1)) res.2) σ 106 [(0, .ref (q_ad G 0)), (1, .int x1), (3, .int x3)] [.int t0] := by
  unfold fX5_readBy_106 at h
  refine q_istore_n (pc := 106) C dX5_readBy_106 rfl (by decide) rfl ?_
  refine q_sub [1, 2, 0, 3] rfl ?_
  exact tX5_readBy_107 C k4 hk4 _ _ _ _ _ h
theorem tX5_readBy_86 {X : qX} {G : qG} (C : qC sM X G RX5 cX5_readBy 6 2 (some .int)) (k4 : qM → Int32 → Int32 → Int32 → Option (Int32 × qM)) (hk4 : ∀ (σ : qM) (x1 : Int32) (x2 : Int32) (x3 : Int32) (res : (Int32 × qM)), k4 σ x1 x2 x3 = some res → qY sM X G 6 (q_Q sM X G (some (.int res.1)) res.2) σ 4 [(0, .ref (q_ad G 0)), (1, .int x1), (2, .int x2), (3, .int x3)] []) (σ : qM) (x1 : Int32) (x2 : Int32) (x3 : Int32) (x4 : Int32) (t0 : Int32) (res : (Int32 × qM))  (h : fX5_readBy_86 k4 σ x1 x2 x3 x4 t0 = some res) : qY sM X G 6 (q_Q sM X G (some (.int res.1)) res.2) σ 86 [(0, .ref (q_ad G 0)), (1, .int x1), (2, .int x2), (3, .int x3), (4, .int x4)] [.int t0] := by
  unfold fX5_readBy_86 at h
  refine q_istore (pc := 86) C dX5_readBy_86 (by decide) rfl ?_
  refine q_iload (pc := 88) C 0 rfl dX5_readBy_88 ?_
  refine q_if_eq (pc := 90) C 100 dX5_readBy_90 (by decide) (fun c1 => ?_) (fun c1 => ?_)
  · have h := q_t c1 h
    refine q_iload_n (pc := 100) C 3 rfl dX5_readBy_100 rfl ?_
    refine q_iload (pc := 101) C 5 rfl dX5_readBy_101 ?_
    refine q_iconst (pc := 103) C dX5_readBy_103 ci_m1 ?_
    refine q_ixor (pc := 104) C dX5_readBy_104 ?_
    refine q_iand (pc := 105) C dX5_readBy_105 ?_
    refine q_sub [1, 2, 4] rfl ?_
    exact tX5_readBy_106 C k4 hk4 _ _ _ _ _ h
  · have h := q_f c1 h
    refine q_iload_n (pc := 93) C 3 rfl dX5_readBy_93 rfl ?_
    refine q_iload (pc := 94) C 5 rfl dX5_readBy_94 ?_
    refine q_ior (pc := 96) C dX5_readBy_96 ?_
    refine q_goto (pc := 97) C 106 dX5_readBy_97 (by decide) ?_
    refine q_sub [1, 2, 4] rfl ?_
    exact tX5_readBy_106 C k4 hk4 _ _ _ _ _ h
theorem tX5_readBy_78 {X : qX} {G : qG} (C : qC sM X G RX5 cX5_readBy 6 2 (some .int)) (k4 : qM → Int32 → Int32 → Int32 → Option (Int32 × qM)) (hk4 : ∀ (σ : qM) (x1 : Int32) (x2 : Int32) (x3 : Int32) (res : (Int32 × qM)), k4 σ x1 x2 x3 = some res → qY sM X G 6 (q_Q sM X G (some (.int res.1)) res.2) σ 4 [(0, .ref (q_ad G 0)), (1, .int x1), (2, .int x2), (3, .int x3)] []) (σ : qM) (x1 : Int32) (x2 : Int32) (x3 : Int32) (x4 : Int32) (t0 : Int32) (t1 : Int32) (res : (Int32 × qM))  (h : fX5_readBy_78 k4 σ x1 x2 x3 x4 t0 t1 = some res) : qY sM X G 6 (q_Q sM X G (some (.int res.1)) res.2) σ 78 [(0, .ref (q_ad G 0)), (1, .int x1), (2, .int x2), (3, .int x3), (4, .int x4)] [.int t0, .int t1] := by
  unfold fX5_readBy_78 at h
  refine q_ic_eq (pc := 78) C 85 dX5_readBy_78 (by decide) (fun c1 => ?_) (fun c1 => ?_)
  · have h := q_t c1 h
    refine q_iconst (pc := 85) C dX5_readBy_85 ci_0 ?_
    exact tX5_readBy_86 C k4 hk4 _ _ _ _ _ _ _ h
  · have h := q_f c1 h
    refine q_iconst (pc := 81) C dX5_readBy_81 ci_1 ?_
    refine q_goto (pc := 82) C 86 dX5_readBy_82 (by decide) ?_
    exact tX5_readBy_86 C k4 hk4 _ _ _ _ _ _ _ h
theorem tX5_readBy_65 {X : qX} {G : qG} (C : qC sM X G RX5 cX5_readBy 6 2 (some .int)) (k4 : qM → Int32 → Int32 → Int32 → Option (Int32 × qM)) (hk4 : ∀ (σ : qM) (x1 : Int32) (x2 : Int32) (x3 : Int32) (res : (Int32 × qM)), k4 σ x1 x2 x3 = some res → qY sM X G 6 (q_Q sM X G (some (.int res.1)) res.2) σ 4 [(0, .ref (q_ad G 0)), (1, .int x1), (2, .int x2), (3, .int x3)] []) (σ : qM) (x1 : Int32) (x2 : Int32) (x3 : Int32) (x4 : Int32) (t0 : Int32) (res : (Int32 × qM))  (h : fX5_readBy_65 k4 σ x1 x2 x3 x4 t0 = some res) : qY sM X G 6 (q_Q sM X G (some (.int res.1)) res.2) σ 65 [(0, .ref (q_ad G 0)), (1, .int x1), (2, .int x2), (3, .int x3), (4, .int x4)] [.int t0] := by
  unfold fX5_readBy_65 at h
  refine q_iload_n (pc := 65) C 3 rfl dX5_readBy_65 rfl ?_
  refine q_aload_n (pc := 66) C 0 rfl dX5_readBy_66 rfl ?_
  refine q_getI (pc := 67) C fl_RX5_55 kM_0 rfl dX5_readBy_67 ?_
  refine q_ic_ne (pc := 70) C 77 dX5_readBy_70 (by decide) (fun c1 => ?_) (fun c1 => ?_)
  · have h := q_f c1 h
    refine q_iconst (pc := 77) C dX5_readBy_77 ci_0 ?_
    exact tX5_readBy_78 C k4 hk4 _ _ _ _ _ _ _ _ h
  · have h := q_t c1 h
    refine q_iconst (pc := 73) C dX5_readBy_73 ci_1 ?_
    refine q_goto (pc := 74) C 78 dX5_readBy_74 (by decide) ?_
    exact tX5_readBy_78 C k4 hk4 _ _ _ _ _ _ _ _ h
theorem tX5_readBy_46 {X : qX} {G : qG} (C : qC sM X G RX5 cX5_readBy 6 2 (some .int)) (k4 : qM → Int32 → Int32 → Int32 → Option (Int32 × qM)) (hk4 : ∀ (σ : qM) (x1 : Int32) (x2 : Int32) (x3 : Int32) (res : (Int32 × qM)), k4 σ x1 x2 x3 = some res → qY sM X G 6 (q_Q sM X G (some (.int res.1)) res.2) σ 4 [(0, .ref (q_ad G 0)), (1, .int x1), (2, .int x2), (3, .int x3)] []) (σ : qM) (x1 : Int32) (x2 : Int32) (x3 : Int32) (x4 : Int32) (res : (Int32 × qM))  (h : fX5_readBy_46 k4 σ x1 x2 x3 x4 = some res) : qY sM X G 6 (q_Q sM X G (some (.int res.1)) res.2) σ 46 [(0, .ref (q_ad G 0)), (1, .int x1), (2, .int x2), (3, .int x3), (4, .int x4)] [] := by
  unfold fX5_readBy_46 at h
  refine q_aload_n (pc := 46) C 0 rfl dX5_readBy_46 rfl ?_
  refine q_getR (pc := 47) (t := 8) C fl_RX5_31 kM_0 rfl rM_0_11 dX5_readBy_47 ?_
  refine q_iconst (pc := 50) C dX5_readBy_50 ci_5 ?_
  refine q_iload_n (pc := 51) C 3 rfl dX5_readBy_51 rfl ?_
  refine q_imul (pc := 52) C dX5_readBy_52 ?_
  refine q_iconst (pc := 53) C dX5_readBy_53 ci_3 ?_
  refine q_iadd (pc := 54) C dX5_readBy_54 ?_
  obtain ⟨g1, h⟩ := q_guard h
  refine q_iald (pc := 55) C kM_8 lM_8 g1 dX5_readBy_55 ?_
  refine q_iconst (pc := 56) C dX5_readBy_56 ci_1 ?_
  refine q_ic_ne (pc := 57) C 64 dX5_readBy_57 (by decide) (fun c2 => ?_) (fun c2 => ?_)
  · have h := q_f c2 h
    refine q_iconst (pc := 64) C dX5_readBy_64 ci_0 ?_
    exact tX5_readBy_65 C k4 hk4 _ _ _ _ _ _ _ h
  · have h := q_t c2 h
    refine q_iconst (pc := 60) C dX5_readBy_60 ci_1 ?_
    refine q_goto (pc := 61) C 65 dX5_readBy_61 (by decide) ?_
    exact tX5_readBy_65 C k4 hk4 _ _ _ _ _ _ _ h
theorem uX5_readBy_4 {X : qX} {G : qG} (C : qC sM X G RX5 cX5_readBy 6 2 (some .int)) (k4 : qM → Int32 → Int32 → Int32 → Option (Int32 × qM)) (hk4 : ∀ (σ : qM) (x1 : Int32) (x2 : Int32) (x3 : Int32) (res : (Int32 × qM)), k4 σ x1 x2 x3 = some res → qY sM X G 6 (q_Q sM X G (some (.int res.1)) res.2) σ 4 [(0, .ref (q_ad G 0)), (1, .int x1), (2, .int x2), (3, .int x3)] []) (σ : qM) (x1 : Int32) (x2 : Int32) (x3 : Int32) (res : (Int32 × qM))  (h : bX5_readBy_4 k4 σ x1 x2 x3 = some res) : qY sM X G 6 (q_Q sM X G (some (.int res.1)) res.2) σ 4 [(0, .ref (q_ad G 0)), (1, .int x1), (2, .int x2), (3, .int x3)] [] := by
  unfold bX5_readBy_4 at h
  refine q_iload_n (pc := 4) C 3 rfl dX5_readBy_4 rfl ?_
  refine q_aload_n (pc := 5) C 0 rfl dX5_readBy_5 rfl ?_
  refine q_getI (pc := 6) C fl_RX5_106 kM_0 rfl dX5_readBy_6 ?_
  refine q_ic_ge (pc := 9) C 113 dX5_readBy_9 (by decide) (fun c1 => ?_) (fun c1 => ?_)
  · have h := q_t c1 h
    refine q_iload_n (pc := 113) C 2 rfl dX5_readBy_113 rfl ?_
    obtain rfl := Option.some.inj h
    exact q_iret (pc := 114) C dX5_readBy_114
  · have h := q_f c1 h
    refine q_aload_n (pc := 12) C 0 rfl dX5_readBy_12 rfl ?_
    refine q_getI (pc := 13) C fl_RX5_181 kM_0 rfl dX5_readBy_13 ?_
    refine q_iload_n (pc := 16) C 3 rfl dX5_readBy_16 rfl ?_
    obtain ⟨q2, hq2, h⟩ := q_bind h
    refine q_callS1 (pc := 17) (st := []) C (zX5_isIn hq2) ys_X5_isIn ml_RX5_178 rfl (by decide) rfl (Nat.le_of_ble_eq_true rfl) dX5_readBy_17 ?_
    refine q_if_ne (pc := 20) C 107 dX5_readBy_20 (by decide) (fun c3 => ?_) (fun c3 => ?_)
    · have h := q_f c3 h
      exact tX5_readBy_107 C k4 hk4 _ _ _ _ _ h
    · have h := q_t c3 h
      refine q_aload_n (pc := 23) C 0 rfl dX5_readBy_23 rfl ?_
      refine q_iload_n (pc := 24) C 3 rfl dX5_readBy_24 rfl ?_
      refine q_iload_n (pc := 25) C 1 rfl dX5_readBy_25 rfl ?_
      obtain ⟨q4, hq4, h⟩ := q_bind h
      refine q_callV1 (pc := 26) (st := []) C (zX5_applies hq4) yi_X5_applies ml_RX5_184 kM_0 rfl (by decide) rfl (Nat.le_of_ble_eq_true rfl) dX5_readBy_26 ?_
      refine q_if_eq (pc := 29) C 107 dX5_readBy_29 (by decide) (fun c5 => ?_) (fun c5 => ?_)
      · have h := q_t c5 h
        exact tX5_readBy_107 C k4 hk4 _ _ _ _ _ h
      · have h := q_f c5 h
        refine q_iconst (pc := 32) C dX5_readBy_32 ci_1 ?_
        refine q_aload_n (pc := 33) C 0 rfl dX5_readBy_33 rfl ?_
        refine q_getR (pc := 34) (t := 8) C fl_RX5_31 kM_0 rfl rM_0_11 dX5_readBy_34 ?_
        refine q_iconst (pc := 37) C dX5_readBy_37 ci_5 ?_
        refine q_iload_n (pc := 38) C 3 rfl dX5_readBy_38 rfl ?_
        refine q_imul (pc := 39) C dX5_readBy_39 ?_
        refine q_iconst (pc := 40) C dX5_readBy_40 ci_4 ?_
        refine q_iadd (pc := 41) C dX5_readBy_41 ?_
        obtain ⟨g6, h⟩ := q_guard h
        refine q_iald (pc := 42) C kM_8 lM_8 g6 dX5_readBy_42 ?_
        refine q_shl (pc := 43) C dX5_readBy_43 ?_
        refine q_istore (pc := 44) C dX5_readBy_44 (by decide) rfl ?_
        refine q_sub [1, 2, 3, 4, 0] rfl ?_
        exact tX5_readBy_46 C k4 hk4 _ _ _ _ _ _ h
theorem tX5_readBy_4 {X : qX} {G : qG} (C : qC sM X G RX5 cX5_readBy 6 2 (some .int))  (σ : qM) (x1 : Int32) (x2 : Int32) (x3 : Int32) (res : (Int32 × qM))  (h : fX5_readBy_4  σ x1 x2 x3 = some res) : qY sM X G 6 (q_Q sM X G (some (.int res.1)) res.2) σ 4 [(0, .ref (q_ad G 0)), (1, .int x1), (2, .int x2), (3, .int x3)] [] := by
  have key : ∀ (n : Nat) (σ : qM) (x1 : Int32) (x2 : Int32) (x3 : Int32) (res : (Int32 × qM)) , qlp (fun _ _ _ _ => none) (bX5_readBy_4 ) n σ x1 x2 x3 = some res → qY sM X G 6 (q_Q sM X G (some (.int res.1)) res.2) σ 4 [(0, .ref (q_ad G 0)), (1, .int x1), (2, .int x2), (3, .int x3)] [] := by
    intro n
    induction n with
    | zero => intro σ x1 x2 x3 res h; cases h
    | succ n ih => intro σ x1 x2 x3 res h; exact uX5_readBy_4 C  (qlp (fun _ _ _ _ => none) (bX5_readBy_4 ) n) (fun σ x1 x2 x3 res h => ih σ x1 x2 x3 res h) σ x1 x2 x3 res h
  exact key qFU σ x1 x2 x3 res h
theorem zX5_readBy {G : qG} {l : Launch} {σ : qM} {x1 : Int32} {res : (Int32 × qM)}  (h : fX5_readBy σ x1 = some res) : qCon sM G l yX5_readBy cX5_readBy 6 (some .int) 2 [.ref (q_ad G 0), .int x1] σ (some (.int res.1)) res.2 := by
  refine qCon.mkF (lv := [(0, .ref (q_ad G 0)), (1, .int x1)]) (plainFor_of_name (by decide)) (Nat.le_of_ble_eq_true rfl) rfl (fun X hX C => ?_)
  unfold fX5_readBy at h
  refine q_iconst (pc := 0) C dX5_readBy_0 ci_0 ?_
  refine q_istore_n (pc := 1) C dX5_readBy_1 rfl (by decide) rfl ?_
  refine q_iconst (pc := 2) C dX5_readBy_2 ci_0 ?_
  refine q_istore_n (pc := 3) C dX5_readBy_3 rfl (by decide) rfl ?_
  refine q_sub [2, 3, 1, 0] rfl ?_
  exact tX5_readBy_4 C _ _ _ _ _ h
/-! X5_readNow -/
theorem zX5_readNow {G : qG} {l : Launch} {σ : qM} {x1 : Int32} {res : (Int32 × qM)}  (h : fX5_readNow σ x1 = some res) : qCon sM G l yX5_readNow cX5_readNow 2 (some .int) 5 [.ref (q_ad G 0), .int x1] σ (some (.int res.1)) res.2 := by
  refine qCon.mkF (lv := [(0, .ref (q_ad G 0)), (1, .int x1)]) (plainFor_of_name (by decide)) (Nat.le_of_ble_eq_true rfl) rfl (fun X hX C => ?_)
  unfold fX5_readNow at h
  refine q_aload_n (pc := 0) C 0 rfl dX5_readNow_0 rfl ?_
  refine q_iload_n (pc := 1) C 1 rfl dX5_readNow_1 rfl ?_
  obtain ⟨q1, hq1, h⟩ := q_bind h
  refine q_callV0 (pc := 2) (st := []) C (zX5_turnsCup hq1) yi_X5_turnsCup ml_RX5_187 kM_0 rfl (by decide) rfl (Nat.le_of_ble_eq_true rfl) dX5_readNow_2 ?_
  refine q_aload_n (pc := 5) C 0 rfl dX5_readNow_5 rfl ?_
  refine q_aload_n (pc := 6) C 0 rfl dX5_readNow_6 rfl ?_
  refine q_getI (pc := 7) C fl_RX5_161 kM_0 rfl dX5_readNow_7 ?_
  obtain ⟨q2, hq2, h⟩ := q_bind h
  refine q_callV1 (pc := 10) (st := []) C (zX5_readBy hq2) yi_X5_readBy ml_RX5_190 kM_0 rfl (by decide) rfl (Nat.le_of_ble_eq_true rfl) dX5_readNow_10 ?_
  obtain rfl := Option.some.inj h
  exact q_iret (pc := 13) C dX5_readNow_13
/-! X5_lies -/
theorem zX5_lies {G : qG} {l : Launch} {σ : qM} {x1 : Int32} {x2 : Int32} {x3 : Int32} {res : (Int32 × qM)}  (h : fX5_lies σ x1 x2 x3 = some res) : qCon sM G l yX5_lies cX5_lies 4 (some .int) 6 [.ref (q_ad G 0), .int x1, .int x2, .int x3] σ (some (.int res.1)) res.2 := by
  refine qCon.mkF (lv := [(0, .ref (q_ad G 0)), (1, .int x1), (2, .int x2), (3, .int x3)]) (plainFor_of_name (by decide)) (Nat.le_of_ble_eq_true rfl) rfl (fun X hX C => ?_)
  unfold fX5_lies at h
  refine q_aload_n (pc := 0) C 0 rfl dX5_lies_0 rfl ?_
  obtain ⟨q1, hq1, h⟩ := q_bind h
  refine q_callV0 (pc := 1) (st := []) C (zX5_reads hq1) yi_X5_reads ml_RX5_129 kM_0 rfl (by decide) rfl (Nat.le_of_ble_eq_true rfl) dX5_lies_1 ?_
  refine q_iload_n (pc := 4) C 1 rfl dX5_lies_4 rfl ?_
  obtain ⟨q2, hq2, h⟩ := q_bind h
  refine q_callS1 (pc := 5) (st := []) C (zX5_areTurns hq2) ys_X5_areTurns ml_RX5_193 rfl (by decide) rfl (Nat.le_of_ble_eq_true rfl) dX5_lies_5 ?_
  refine q_if_eq (pc := 8) C 26 dX5_lies_8 (by decide) (fun c3 => ?_) (fun c3 => ?_)
  · have h := q_t c3 h
    refine q_bipush (pc := 26) C dX5_lies_26 cb_m2 ?_
    obtain rfl := Option.some.inj h
    exact q_iret (pc := 28) C dX5_lies_28
  · have h := q_f c3 h
    refine q_aload_n (pc := 11) C 0 rfl dX5_lies_11 rfl ?_
    refine q_iload_n (pc := 12) C 2 rfl dX5_lies_12 rfl ?_
    obtain ⟨q4, hq4, h⟩ := q_bind h
    refine q_callV1 (pc := 13) (st := []) C (zX5_isLeaf hq4) yi_X5_isLeaf ml_RX5_132 kM_0 rfl (by decide) rfl (Nat.le_of_ble_eq_true rfl) dX5_lies_13 ?_
    refine q_if_eq (pc := 16) C 26 dX5_lies_16 (by decide) (fun c5 => ?_) (fun c5 => ?_)
    · have h := q_t c5 h
      refine q_bipush (pc := 26) C dX5_lies_26 cb_m2 ?_
      obtain rfl := Option.some.inj h
      exact q_iret (pc := 28) C dX5_lies_28
    · have h := q_f c5 h
      refine q_iload_n (pc := 19) C 3 rfl dX5_lies_19 rfl ?_
      obtain ⟨q6, hq6, h⟩ := q_bind h
      refine q_callS1 (pc := 20) (st := []) C (zX5_isTwo hq6) ys_X5_isTwo ml_RX5_89 rfl (by decide) rfl (Nat.le_of_ble_eq_true rfl) dX5_lies_20 ?_
      refine q_if_ne (pc := 23) C 29 dX5_lies_23 (by decide) (fun c7 => ?_) (fun c7 => ?_)
      · have h := q_f c7 h
        refine q_aload_n (pc := 29) C 0 rfl dX5_lies_29 rfl ?_
        refine q_iload_n (pc := 30) C 2 rfl dX5_lies_30 rfl ?_
        refine q_iload_n (pc := 31) C 1 rfl dX5_lies_31 rfl ?_
        obtain ⟨q8, hq8, h⟩ := q_bind h
        refine q_callV0 (pc := 32) (st := []) C (zX5_turnsOne hq8) yi_X5_turnsOne ml_RX5_171 kM_0 rfl (by decide) rfl (Nat.le_of_ble_eq_true rfl) dX5_lies_32 ?_
        refine q_iload_n (pc := 35) C 3 rfl dX5_lies_35 rfl ?_
        refine q_if_ne (pc := 36) C 48 dX5_lies_36 (by decide) (fun c9 => ?_) (fun c9 => ?_)
        · have h := q_f c9 h
          refine q_aload_n (pc := 48) C 0 rfl dX5_lies_48 rfl ?_
          refine q_getR (pc := 49) (t := 13) C fl_RX5_46 kM_0 rfl rM_0_18 dX5_lies_49 ?_
          refine q_iload_n (pc := 52) C 2 rfl dX5_lies_52 rfl ?_
          obtain ⟨g10, h⟩ := q_guard h
          refine q_iald (pc := 53) C kM_13 lM_13 g10 dX5_lies_53 ?_
          obtain rfl := Option.some.inj h
          exact q_iret (pc := 54) C dX5_lies_54
        · have h := q_t c9 h
          refine q_aload_n (pc := 39) C 0 rfl dX5_lies_39 rfl ?_
          refine q_getR (pc := 40) (t := 12) C fl_RX5_43 kM_0 rfl rM_0_17 dX5_lies_40 ?_
          refine q_iload_n (pc := 43) C 2 rfl dX5_lies_43 rfl ?_
          obtain ⟨g11, h⟩ := q_guard h
          refine q_iald (pc := 44) C kM_12 lM_12 g11 dX5_lies_44 ?_
          refine q_goto (pc := 45) C 54 dX5_lies_45 (by decide) ?_
          obtain rfl := Option.some.inj h
          exact q_iret (pc := 54) C dX5_lies_54
      · have h := q_t c7 h
        refine q_bipush (pc := 26) C dX5_lies_26 cb_m2 ?_
        obtain rfl := Option.some.inj h
        exact q_iret (pc := 28) C dX5_lies_28
/-! X5_appliesNow -/
theorem tX5_appliesNow_34 {X : qX} {G : qG} (C : qC sM X G RX5 cX5_appliesNow 3 2 (some .int)) (k4 : qM → Int32 → Int32 → Option (Int32 × qM)) (hk4 : ∀ (σ : qM) (x1 : Int32) (x2 : Int32) (res : (Int32 × qM)), k4 σ x1 x2 = some res → qY sM X G 3 (q_Q sM X G (some (.int res.1)) res.2) σ 4 [(0, .ref (q_ad G 0)), (1, .int x1), (2, .int x2)] []) (σ : qM) (x1 : Int32) (x2 : Int32) (res : (Int32 × qM))  (h : fX5_appliesNow_34 k4 σ x1 x2 = some res) : qY sM X G 3 (q_Q sM X G (some (.int res.1)) res.2) σ 34 [(0, .ref (q_ad G 0)), (1, .int x1), (2, .int x2)] [] := by
  unfold fX5_appliesNow_34 at h
  refine q_inc (pc := 34) C 2 rfl ci_1 dX5_appliesNow_34 (by decide) rfl ?_
  refine q_goto (pc := 37) C 4 dX5_appliesNow_37 (by decide) ?_
  refine q_sub [1, 2, 0] rfl ?_
  exact hk4 _ _ _ _ h
theorem tX5_appliesNow_32 {X : qX} {G : qG} (C : qC sM X G RX5 cX5_appliesNow 3 2 (some .int)) (k4 : qM → Int32 → Int32 → Option (Int32 × qM)) (hk4 : ∀ (σ : qM) (x1 : Int32) (x2 : Int32) (res : (Int32 × qM)), k4 σ x1 x2 = some res → qY sM X G 3 (q_Q sM X G (some (.int res.1)) res.2) σ 4 [(0, .ref (q_ad G 0)), (1, .int x1), (2, .int x2)] []) (σ : qM) (x2 : Int32) (t0 : Int32) (t1 : Int32) (res : (Int32 × qM))  (h : fX5_appliesNow_32 k4 σ x2 t0 t1 = some res) : qY sM X G 3 (q_Q sM X G (some (.int res.1)) res.2) σ 32 [(0, .ref (q_ad G 0)), (2, .int x2)] [.int t0, .int t1] := by
  unfold fX5_appliesNow_32 at h
  refine q_ior (pc := 32) C dX5_appliesNow_32 ?_
  refine q_istore_n (pc := 33) C dX5_appliesNow_33 rfl (by decide) rfl ?_
  refine q_sub [1, 0, 2] rfl ?_
  exact tX5_appliesNow_34 C k4 hk4 _ _ _ _ h
theorem uX5_appliesNow_4 {X : qX} {G : qG} (C : qC sM X G RX5 cX5_appliesNow 3 2 (some .int)) (k4 : qM → Int32 → Int32 → Option (Int32 × qM)) (hk4 : ∀ (σ : qM) (x1 : Int32) (x2 : Int32) (res : (Int32 × qM)), k4 σ x1 x2 = some res → qY sM X G 3 (q_Q sM X G (some (.int res.1)) res.2) σ 4 [(0, .ref (q_ad G 0)), (1, .int x1), (2, .int x2)] []) (σ : qM) (x1 : Int32) (x2 : Int32) (res : (Int32 × qM))  (h : bX5_appliesNow_4 k4 σ x1 x2 = some res) : qY sM X G 3 (q_Q sM X G (some (.int res.1)) res.2) σ 4 [(0, .ref (q_ad G 0)), (1, .int x1), (2, .int x2)] [] := by
  unfold bX5_appliesNow_4 at h
  refine q_iload_n (pc := 4) C 2 rfl dX5_appliesNow_4 rfl ?_
  refine q_aload_n (pc := 5) C 0 rfl dX5_appliesNow_5 rfl ?_
  refine q_getI (pc := 6) C fl_RX5_106 kM_0 rfl dX5_appliesNow_6 ?_
  refine q_ic_ge (pc := 9) C 40 dX5_appliesNow_9 (by decide) (fun c1 => ?_) (fun c1 => ?_)
  · have h := q_t c1 h
    refine q_iload_n (pc := 40) C 1 rfl dX5_appliesNow_40 rfl ?_
    obtain rfl := Option.some.inj h
    exact q_iret (pc := 41) C dX5_appliesNow_41
  · have h := q_f c1 h
    refine q_iload_n (pc := 12) C 1 rfl dX5_appliesNow_12 rfl ?_
    refine q_aload_n (pc := 13) C 0 rfl dX5_appliesNow_13 rfl ?_
    refine q_iload_n (pc := 14) C 2 rfl dX5_appliesNow_14 rfl ?_
    refine q_aload_n (pc := 15) C 0 rfl dX5_appliesNow_15 rfl ?_
    refine q_getI (pc := 16) C fl_RX5_161 kM_0 rfl dX5_appliesNow_16 ?_
    obtain ⟨q2, hq2, h⟩ := q_bind h
    refine q_callV1 (pc := 19) (st := [.int x1]) C (zX5_applies hq2) yi_X5_applies ml_RX5_184 kM_0 rfl (by decide) rfl (Nat.le_of_ble_eq_true rfl) dX5_appliesNow_19 ?_
    refine q_if_eq (pc := 22) C 31 dX5_appliesNow_22 (by decide) (fun c3 => ?_) (fun c3 => ?_)
    · have h := q_t c3 h
      refine q_iconst (pc := 31) C dX5_appliesNow_31 ci_0 ?_
      refine q_sub [0, 2] rfl ?_
      exact tX5_appliesNow_32 C k4 hk4 _ _ _ _ _ h
    · have h := q_f c3 h
      refine q_iconst (pc := 25) C dX5_appliesNow_25 ci_1 ?_
      refine q_iload_n (pc := 26) C 2 rfl dX5_appliesNow_26 rfl ?_
      refine q_shl (pc := 27) C dX5_appliesNow_27 ?_
      refine q_goto (pc := 28) C 32 dX5_appliesNow_28 (by decide) ?_
      refine q_sub [0, 2] rfl ?_
      exact tX5_appliesNow_32 C k4 hk4 _ _ _ _ _ h
theorem tX5_appliesNow_4 {X : qX} {G : qG} (C : qC sM X G RX5 cX5_appliesNow 3 2 (some .int))  (σ : qM) (x1 : Int32) (x2 : Int32) (res : (Int32 × qM))  (h : fX5_appliesNow_4  σ x1 x2 = some res) : qY sM X G 3 (q_Q sM X G (some (.int res.1)) res.2) σ 4 [(0, .ref (q_ad G 0)), (1, .int x1), (2, .int x2)] [] := by
  have key : ∀ (n : Nat) (σ : qM) (x1 : Int32) (x2 : Int32) (res : (Int32 × qM)) , qlp (fun _ _ _ => none) (bX5_appliesNow_4 ) n σ x1 x2 = some res → qY sM X G 3 (q_Q sM X G (some (.int res.1)) res.2) σ 4 [(0, .ref (q_ad G 0)), (1, .int x1), (2, .int x2)] [] := by
    intro n
    induction n with
    | zero => intro σ x1 x2 res h; cases h
    | succ n ih => intro σ x1 x2 res h; exact uX5_appliesNow_4 C  (qlp (fun _ _ _ => none) (bX5_appliesNow_4 ) n) (fun σ x1 x2 res h => ih σ x1 x2 res h) σ x1 x2 res h
  exact key qFU σ x1 x2 res h
theorem zX5_appliesNow {G : qG} {l : Launch} {σ : qM}  {res : (Int32 × qM)}  (h : fX5_appliesNow σ  = some res) : qCon sM G l yX5_appliesNow cX5_appliesNow 3 (some .int) 2 [.ref (q_ad G 0)] σ (some (.int res.1)) res.2 := by
  refine qCon.mkF (lv := [(0, .ref (q_ad G 0))]) (plainFor_of_name (by decide)) (Nat.le_of_ble_eq_true rfl) rfl (fun X hX C => ?_)
  unfold fX5_appliesNow at h
  refine q_iconst (pc := 0) C dX5_appliesNow_0 ci_0 ?_
  refine q_istore_n (pc := 1) C dX5_appliesNow_1 rfl (by decide) rfl ?_
  refine q_iconst (pc := 2) C dX5_appliesNow_2 ci_0 ?_
  refine q_istore_n (pc := 3) C dX5_appliesNow_3 rfl (by decide) rfl ?_
  refine q_sub [2, 1, 0] rfl ?_
  exact tX5_appliesNow_4 C _ _ _ _ h
/-! X5_readingOf -/
theorem zX5_readingOf {G : qG} {l : Launch} {σ : qM} {x1 : Int32} {x2 : Int32} {res : (Int32 × qM)}  (h : fX5_readingOf σ x1 x2 = some res) : qCon sM G l yX5_readingOf cX5_readingOf 3 (some .int) 5 [.ref (q_ad G 0), .int x1, .int x2] σ (some (.int res.1)) res.2 := by
  refine qCon.mkF (lv := [(0, .ref (q_ad G 0)), (1, .int x1), (2, .int x2)]) (plainFor_of_name (by decide)) (Nat.le_of_ble_eq_true rfl) rfl (fun X hX C => ?_)
  unfold fX5_readingOf at h
  refine q_aload_n (pc := 0) C 0 rfl dX5_readingOf_0 rfl ?_
  refine q_iload_n (pc := 1) C 1 rfl dX5_readingOf_1 rfl ?_
  obtain ⟨q1, hq1, h⟩ := q_bind h
  refine q_callV0 (pc := 2) (st := []) C (zX5_turnsCup hq1) yi_X5_turnsCup ml_RX5_187 kM_0 rfl (by decide) rfl (Nat.le_of_ble_eq_true rfl) dX5_readingOf_2 ?_
  refine q_iload_n (pc := 5) C 2 rfl dX5_readingOf_5 rfl ?_
  refine q_if_ne (pc := 6) C 16 dX5_readingOf_6 (by decide) (fun c2 => ?_) (fun c2 => ?_)
  · have h := q_f c2 h
    refine q_iload_n (pc := 16) C 2 rfl dX5_readingOf_16 rfl ?_
    refine q_iconst (pc := 17) C dX5_readingOf_17 ci_1 ?_
    refine q_ic_ne (pc := 18) C 28 dX5_readingOf_18 (by decide) (fun c3 => ?_) (fun c3 => ?_)
    · have h := q_f c3 h
      refine q_aload_n (pc := 28) C 0 rfl dX5_readingOf_28 rfl ?_
      refine q_aload_n (pc := 29) C 0 rfl dX5_readingOf_29 rfl ?_
      refine q_getI (pc := 30) C fl_RX5_161 kM_0 rfl dX5_readingOf_30 ?_
      obtain ⟨q4, hq4, h⟩ := q_bind h
      refine q_callV1 (pc := 33) (st := []) C (zX5_readBy hq4) yi_X5_readBy ml_RX5_190 kM_0 rfl (by decide) rfl (Nat.le_of_ble_eq_true rfl) dX5_readingOf_33 ?_
      obtain rfl := Option.some.inj h
      exact q_iret (pc := 36) C dX5_readingOf_36
    · have h := q_t c3 h
      refine q_aload_n (pc := 21) C 0 rfl dX5_readingOf_21 rfl ?_
      obtain ⟨q5, hq5, h⟩ := q_bind h
      refine q_callV1 (pc := 22) (st := []) C (zX5_appliesNow hq5) yi_X5_appliesNow ml_RX5_196 kM_0 rfl (by decide) rfl (Nat.le_of_ble_eq_true rfl) dX5_readingOf_22 ?_
      refine q_goto (pc := 25) C 36 dX5_readingOf_25 (by decide) ?_
      obtain rfl := Option.some.inj h
      exact q_iret (pc := 36) C dX5_readingOf_36
  · have h := q_t c2 h
    refine q_aload_n (pc := 9) C 0 rfl dX5_readingOf_9 rfl ?_
    refine q_getI (pc := 10) C fl_RX5_161 kM_0 rfl dX5_readingOf_10 ?_
    refine q_goto (pc := 13) C 36 dX5_readingOf_13 (by decide) ?_
    obtain rfl := Option.some.inj h
    exact q_iret (pc := 36) C dX5_readingOf_36

/-! X3_append -/
theorem tX3_append_35 {X : qX} {G : qG} (C : qC sC X G RX3 cX3_append 2 3 (some .int))  (σ : qM) (x0 : Nat) (res : (Int32 × qM)) (hx0 : q_kd sC x0 = 3) (h : fX3_append_35  σ x0 = some res) : qY sC X G 2 (q_Q sC X G (some (.int res.1)) res.2) σ 35 [(0, .ref (q_ad G x0))] [] := by
  unfold fX3_append_35 at h
  refine q_aload_n (pc := 35) C 0 rfl dX3_append_35 rfl ?_
  obtain ⟨q1, hq1, h⟩ := q_bind h
  refine q_callV0 (pc := 36) (st := []) C (zX3_parse hx0 hq1) yi_X3_parse ml_RX3_35 hx0 rfl (by decide) rfl (Nat.le_of_ble_eq_true rfl) dX3_append_36 ?_
  refine q_aload_n (pc := 39) C 0 rfl dX3_append_39 rfl ?_
  refine q_getI (pc := 40) C fl_RX3_9 hx0 rfl dX3_append_40 ?_
  obtain rfl := Option.some.inj h
  exact q_iret (pc := 43) C dX3_append_43
theorem tX3_append_25 {X : qX} {G : qG} (C : qC sC X G RX3 cX3_append 2 3 (some .int))  (σ : qM) (x0 : Nat) (res : (Int32 × qM)) (hx0 : q_kd sC x0 = 3) (h : fX3_append_25  σ x0 = some res) : qY sC X G 2 (q_Q sC X G (some (.int res.1)) res.2) σ 25 [(0, .ref (q_ad G x0))] [] := by
  unfold fX3_append_25 at h
  refine q_aload_n (pc := 25) C 0 rfl dX3_append_25 rfl ?_
  refine q_dup (pc := 26) C dX3_append_26 rfl ?_
  refine q_getI (pc := 27) C fl_RX3_9 hx0 rfl dX3_append_27 ?_
  refine q_iconst (pc := 30) C dX3_append_30 ci_1 ?_
  refine q_iadd (pc := 31) C dX3_append_31 ?_
  refine q_putI (pc := 32) C fl_RX3_9 hx0 rfl rfl rfl dX3_append_32 ?_
  exact tX3_append_35 C _ _ _ hx0 h
theorem zX3_append {G : qG} {l : Launch} {σ : qM} {o : Nat} {x1 : Int32} {res : (Int32 × qM)} (ho : q_kd sC o = 3) (h : fX3_append σ o x1 = some res) : qCon sC G l yX3_append cX3_append 2 (some .int) 3 [.ref (q_ad G o), .int x1] σ (some (.int res.1)) res.2 := by
  refine qCon.mkF (lv := [(0, .ref (q_ad G o)), (1, .int x1)]) (plainFor_of_name (by decide)) (Nat.le_of_ble_eq_true rfl) rfl (fun X hX C => ?_)
  unfold fX3_append at h
  refine q_aload_n (pc := 0) C 0 rfl dX3_append_0 rfl ?_
  refine q_getI (pc := 1) C fl_RX3_9 ho rfl dX3_append_1 ?_
  refine q_aload_n (pc := 4) C 0 rfl dX3_append_4 rfl ?_
  refine q_getR (pc := 5) (t := (o + 1)) C fl_RX3_28 ho rfl (rT_2 ho) dX3_append_5 ?_
  refine q_alen (pc := 8) C (kT_1 ho) rfl dX3_append_8 ?_
  refine q_ic_lt (pc := 9) C 15 dX3_append_9 (by decide) (fun c1 => ?_) (fun c1 => ?_)
  · have h := q_t c1 h
    refine q_aload_n (pc := 15) C 0 rfl dX3_append_15 rfl ?_
    refine q_getR (pc := 16) (t := (o + 1)) C fl_RX3_28 ho rfl (rT_2 ho) dX3_append_16 ?_
    refine q_aload_n (pc := 19) C 0 rfl dX3_append_19 rfl ?_
    refine q_getI (pc := 20) C fl_RX3_9 ho rfl dX3_append_20 ?_
    refine q_iload_n (pc := 23) C 1 rfl dX3_append_23 rfl ?_
    obtain ⟨g2, h⟩ := q_guard h
    refine q_iast (pc := 24) C (kT_1 ho) rfl g2 dX3_append_24 ?_
    refine q_sub [0] rfl ?_
    exact tX3_append_25 C _ _ _ ho h
  · have h := q_f c1 h
    refine q_bipush (pc := 12) C dX3_append_12 cb_m4 ?_
    obtain rfl := Option.some.inj h
    exact q_iret (pc := 14) C dX3_append_14
/-! X3_empty -/
theorem tX3_empty_10 {X : qX} {G : qG} (C : qC sC X G RX3 cX3_empty 2 3 (some .int))  (σ : qM) (x0 : Nat) (x1 : Int32) (res : (Int32 × qM)) (hx0 : q_kd sC x0 = 3) (h : fX3_empty_10  σ x0 x1 = some res) : qY sC X G 2 (q_Q sC X G (some (.int res.1)) res.2) σ 10 [(0, .ref (q_ad G x0)), (1, .int x1)] [] := by
  unfold fX3_empty_10 at h
  refine q_aload_n (pc := 10) C 0 rfl dX3_empty_10 rfl ?_
  obtain ⟨q1, hq1, h⟩ := q_bind h
  refine q_callV0 (pc := 11) (st := []) C (zX3_parse hx0 hq1) yi_X3_parse ml_RX3_35 hx0 rfl (by decide) rfl (Nat.le_of_ble_eq_true rfl) dX3_empty_11 ?_
  refine q_iload_n (pc := 14) C 1 rfl dX3_empty_14 rfl ?_
  obtain rfl := Option.some.inj h
  exact q_iret (pc := 15) C dX3_empty_15
theorem zX3_empty {G : qG} {l : Launch} {σ : qM} {o : Nat} {res : (Int32 × qM)} (ho : q_kd sC o = 3) (h : fX3_empty σ o = some res) : qCon sC G l yX3_empty cX3_empty 2 (some .int) 3 [.ref (q_ad G o)] σ (some (.int res.1)) res.2 := by
  refine qCon.mkF (lv := [(0, .ref (q_ad G o))]) (plainFor_of_name (by decide)) (Nat.le_of_ble_eq_true rfl) rfl (fun X hX C => ?_)
  unfold fX3_empty at h
  refine q_aload_n (pc := 0) C 0 rfl dX3_empty_0 rfl ?_
  refine q_getI (pc := 1) C fl_RX3_9 ho rfl dX3_empty_1 ?_
  refine q_istore_n (pc := 4) C dX3_empty_4 rfl (by decide) rfl ?_
  refine q_aload_n (pc := 5) C 1 rfl dX3_empty_5 rfl ?_
  refine q_iconst (pc := 6) C dX3_empty_6 ci_0 ?_
  refine q_putI (pc := 7) C fl_RX3_9 ho rfl rfl rfl dX3_empty_7 ?_
  refine q_sub [1, 0] rfl ?_
  exact tX3_empty_10 C _ _ _ _ ho h
/-! X3_dropLast -/
theorem tX3_dropLast_20 {X : qX} {G : qG} (C : qC sC X G RX3 cX3_dropLast 1 3 (some .int))  (σ : qM) (x0 : Nat) (res : (Int32 × qM)) (hx0 : q_kd sC x0 = 3) (h : fX3_dropLast_20  σ x0 = some res) : qY sC X G 1 (q_Q sC X G (some (.int res.1)) res.2) σ 20 [(0, .ref (q_ad G x0))] [] := by
  unfold fX3_dropLast_20 at h
  refine q_aload_n (pc := 20) C 0 rfl dX3_dropLast_20 rfl ?_
  obtain ⟨q1, hq1, h⟩ := q_bind h
  refine q_callV0 (pc := 21) (st := []) C (zX3_parse hx0 hq1) yi_X3_parse ml_RX3_35 hx0 rfl (by decide) rfl (Nat.le_of_ble_eq_true rfl) dX3_dropLast_21 ?_
  refine q_aload_n (pc := 24) C 0 rfl dX3_dropLast_24 rfl ?_
  refine q_getI (pc := 25) C fl_RX3_9 hx0 rfl dX3_dropLast_25 ?_
  obtain rfl := Option.some.inj h
  exact q_iret (pc := 28) C dX3_dropLast_28
theorem zX3_dropLast {G : qG} {l : Launch} {σ : qM} {o : Nat} {res : (Int32 × qM)} (ho : q_kd sC o = 3) (h : fX3_dropLast σ o = some res) : qCon sC G l yX3_dropLast cX3_dropLast 1 (some .int) 3 [.ref (q_ad G o)] σ (some (.int res.1)) res.2 := by
  refine qCon.mkF (lv := [(0, .ref (q_ad G o))]) (plainFor_of_name (by decide)) (Nat.le_of_ble_eq_true rfl) rfl (fun X hX C => ?_)
  unfold fX3_dropLast at h
  refine q_aload_n (pc := 0) C 0 rfl dX3_dropLast_0 rfl ?_
  refine q_getI (pc := 1) C fl_RX3_9 ho rfl dX3_dropLast_1 ?_
  refine q_if_ne (pc := 4) C 10 dX3_dropLast_4 (by decide) (fun c1 => ?_) (fun c1 => ?_)
  · have h := q_f c1 h
    refine q_aload_n (pc := 10) C 0 rfl dX3_dropLast_10 rfl ?_
    refine q_dup (pc := 11) C dX3_dropLast_11 rfl ?_
    refine q_getI (pc := 12) C fl_RX3_9 ho rfl dX3_dropLast_12 ?_
    refine q_iconst (pc := 15) C dX3_dropLast_15 ci_1 ?_
    refine q_isub (pc := 16) C dX3_dropLast_16 ?_
    refine q_putI (pc := 17) C fl_RX3_9 ho rfl rfl rfl dX3_dropLast_17 ?_
    exact tX3_dropLast_20 C _ _ _ ho h
  · have h := q_t c1 h
    refine q_bipush (pc := 7) C dX3_dropLast_7 cb_m3 ?_
    obtain rfl := Option.some.inj h
    exact q_iret (pc := 9) C dX3_dropLast_9
/-! X4_below -/
theorem zX4_below {G : qG} {l : Launch} {σ : qM} {x0 : Int32} {x1 : Int32} {res : (Int32 × qM)}  (h : fX4_below σ x0 x1 = some res) : qCon sC G l yX4_below cX4_below 2 (some .boolean) 0 [.int x0, .int x1] σ (some (.int res.1)) res.2 := by
  refine qCon.mkF (lv := [(0, .int x0), (1, .int x1)]) (plainFor_of_name (by decide)) (Nat.le_of_ble_eq_true rfl) rfl (fun X hX C => ?_)
  unfold fX4_below at h
  refine q_iload_n (pc := 0) C 0 rfl dX4_below_0 rfl ?_
  refine q_if_lt (pc := 1) C 13 dX4_below_1 (by decide) (fun c1 => ?_) (fun c1 => ?_)
  · have h := q_t c1 h
    refine q_iconst (pc := 13) C dX4_below_13 ci_0 ?_
    obtain rfl := Option.some.inj h
    exact q_zret (pc := 14) C (Or.inl rfl) dX4_below_14
  · have h := q_f c1 h
    refine q_iload_n (pc := 4) C 0 rfl dX4_below_4 rfl ?_
    refine q_iload_n (pc := 5) C 1 rfl dX4_below_5 rfl ?_
    refine q_ic_ge (pc := 6) C 13 dX4_below_6 (by decide) (fun c2 => ?_) (fun c2 => ?_)
    · have h := q_t c2 h
      refine q_iconst (pc := 13) C dX4_below_13 ci_0 ?_
      obtain rfl := Option.some.inj h
      exact q_zret (pc := 14) C (Or.inl rfl) dX4_below_14
    · have h := q_f c2 h
      refine q_iconst (pc := 9) C dX4_below_9 ci_1 ?_
      refine q_goto (pc := 10) C 14 dX4_below_10 (by decide) ?_
      obtain rfl := Option.some.inj h
      exact q_zret (pc := 14) C (Or.inr rfl) dX4_below_14
/-! X4_textOf -/
theorem zX4_textOf {G : qG} {l : Launch} {σ : qM} {x1 : Int32} {res : (Nat × qM)}  (h : fX4_textOf σ x1 = some res) : qCon sC G l yX4_textOf cX4_textOf 2 (some (.object "TeaLaws$Text")) 0 [.ref (q_ad G 0), .int x1] σ (some (.ref (q_ad G res.1))) res.2 := by
  refine qCon.mkF (lv := [(0, .ref (q_ad G 0)), (1, .int x1)]) (plainFor_of_name (by decide)) (Nat.le_of_ble_eq_true rfl) rfl (fun X hX C => ?_)
  unfold fX4_textOf at h
  refine q_iload_n (pc := 0) C 1 rfl dX4_textOf_0 rfl ?_
  refine q_if_ne (pc := 1) C 11 dX4_textOf_1 (by decide) (fun c1 => ?_) (fun c1 => ?_)
  · have h := q_f c1 h
    refine q_aload_n (pc := 11) C 0 rfl dX4_textOf_11 rfl ?_
    refine q_getR (pc := 12) (t := 4) C fl_RX4_18 kC_0 rfl rC_0_1 dX4_textOf_12 ?_
    obtain rfl := Option.some.inj h
    exact q_aret (pc := 15) C dX4_textOf_15
  · have h := q_t c1 h
    refine q_aload_n (pc := 4) C 0 rfl dX4_textOf_4 rfl ?_
    refine q_getR (pc := 5) (t := 1) C fl_RX4_14 kC_0 rfl rC_0_0 dX4_textOf_5 ?_
    refine q_goto (pc := 8) C 15 dX4_textOf_8 (by decide) ?_
    obtain rfl := Option.some.inj h
    exact q_aret (pc := 15) C dX4_textOf_15
/-! X4_type -/
theorem tX4_type_29 {X : qX} {G : qG} (C : qC sC X G RX4 cX4_type 3 4 (some .int))  (σ : qM) (x1 : Int32) (x2 : Int32) (res : (Int32 × qM))  (h : fX4_type_29  σ x1 x2 = some res) : qY sC X G 3 (q_Q sC X G (some (.int res.1)) res.2) σ 29 [(0, .ref (q_ad G 0)), (1, .int x1), (2, .int x2)] [] := by
  unfold fX4_type_29 at h
  refine q_aload_n (pc := 29) C 0 rfl dX4_type_29 rfl ?_
  refine q_iload_n (pc := 30) C 1 rfl dX4_type_30 rfl ?_
  obtain ⟨q1, hq1, h⟩ := q_bind h
  refine q_callV1 (pc := 31) (st := []) C (zX4_textOf hq1) yi_X4_textOf ml_RX4_70 kC_0 rfl (by decide) rfl (Nat.le_of_ble_eq_true rfl) dX4_type_31 ?_
  obtain ⟨g2, h⟩ := q_guard h
  refine q_iload_n (pc := 34) C 2 rfl dX4_type_34 rfl ?_
  obtain ⟨q3, hq3, h⟩ := q_bind h
  refine q_callV1 (pc := 35) (st := []) C (zX3_append g2 hq3) yi_X3_append ml_RX4_74 g2 rfl (by decide) rfl (Nat.le_of_ble_eq_true rfl) dX4_type_35 ?_
  obtain rfl := Option.some.inj h
  exact q_iret (pc := 38) C dX4_type_38
theorem zX4_type {G : qG} {l : Launch} {σ : qM} {x1 : Int32} {x2 : Int32} {res : (Int32 × qM)}  (h : fX4_type σ x1 x2 = some res) : qCon sC G l yX4_type cX4_type 3 (some .int) 4 [.ref (q_ad G 0), .int x1, .int x2] σ (some (.int res.1)) res.2 := by
  refine qCon.mkF (lv := [(0, .ref (q_ad G 0)), (1, .int x1), (2, .int x2)]) (plainFor_of_name (by decide)) (Nat.le_of_ble_eq_true rfl) rfl (fun X hX C => ?_)
  unfold fX4_type at h
  refine q_iload_n (pc := 0) C 1 rfl dX4_type_0 rfl ?_
  refine q_iconst (pc := 1) C dX4_type_1 ci_2 ?_
  obtain ⟨q1, hq1, h⟩ := q_bind h
  refine q_callS1 (pc := 2) (st := []) C (zX4_below hq1) ys_X4_below ml_RX4_62 rfl (by decide) rfl (Nat.le_of_ble_eq_true rfl) dX4_type_2 ?_
  refine q_if_eq (pc := 5) C 18 dX4_type_5 (by decide) (fun c2 => ?_) (fun c2 => ?_)
  · have h := q_t c2 h
    refine q_bipush (pc := 18) C dX4_type_18 cb_m2 ?_
    obtain rfl := Option.some.inj h
    exact q_iret (pc := 20) C dX4_type_20
  · have h := q_f c2 h
    refine q_iload_n (pc := 8) C 2 rfl dX4_type_8 rfl ?_
    refine q_sipush (pc := 9) C dX4_type_9 cs_256 ?_
    obtain ⟨q3, hq3, h⟩ := q_bind h
    refine q_callS1 (pc := 12) (st := []) C (zX4_below hq3) ys_X4_below ml_RX4_62 rfl (by decide) rfl (Nat.le_of_ble_eq_true rfl) dX4_type_12 ?_
    refine q_if_ne (pc := 15) C 21 dX4_type_15 (by decide) (fun c4 => ?_) (fun c4 => ?_)
    · have h := q_f c4 h
      refine q_aload_n (pc := 21) C 0 rfl dX4_type_21 rfl ?_
      refine q_getR (pc := 22) (t := 16) C fl_RX4_41 kC_0 rfl rC_0_5 dX4_type_22 ?_
      refine q_iconst (pc := 25) C dX4_type_25 ci_1 ?_
      refine q_putI (pc := 26) C fl_RX4_66 kC_16 rfl rfl rfl dX4_type_26 ?_
      exact tX4_type_29 C _ _ _ _ h
    · have h := q_t c4 h
      refine q_bipush (pc := 18) C dX4_type_18 cb_m2 ?_
      obtain rfl := Option.some.inj h
      exact q_iret (pc := 20) C dX4_type_20
/-! X4_wipe -/
theorem tX4_wipe_19 {X : qX} {G : qG} (C : qC sC X G RX4 cX4_wipe 2 4 (some .int))  (σ : qM) (x1 : Int32) (res : (Int32 × qM))  (h : fX4_wipe_19  σ x1 = some res) : qY sC X G 2 (q_Q sC X G (some (.int res.1)) res.2) σ 19 [(0, .ref (q_ad G 0)), (1, .int x1)] [] := by
  unfold fX4_wipe_19 at h
  refine q_aload_n (pc := 19) C 0 rfl dX4_wipe_19 rfl ?_
  refine q_iload_n (pc := 20) C 1 rfl dX4_wipe_20 rfl ?_
  obtain ⟨q1, hq1, h⟩ := q_bind h
  refine q_callV1 (pc := 21) (st := []) C (zX4_textOf hq1) yi_X4_textOf ml_RX4_70 kC_0 rfl (by decide) rfl (Nat.le_of_ble_eq_true rfl) dX4_wipe_21 ?_
  obtain ⟨g2, h⟩ := q_guard h
  obtain ⟨q3, hq3, h⟩ := q_bind h
  refine q_callV1 (pc := 24) (st := []) C (zX3_empty g2 hq3) yi_X3_empty ml_RX4_78 g2 rfl (by decide) rfl (Nat.le_of_ble_eq_true rfl) dX4_wipe_24 ?_
  obtain rfl := Option.some.inj h
  exact q_iret (pc := 27) C dX4_wipe_27
theorem zX4_wipe {G : qG} {l : Launch} {σ : qM} {x1 : Int32} {res : (Int32 × qM)}  (h : fX4_wipe σ x1 = some res) : qCon sC G l yX4_wipe cX4_wipe 2 (some .int) 4 [.ref (q_ad G 0), .int x1] σ (some (.int res.1)) res.2 := by
  refine qCon.mkF (lv := [(0, .ref (q_ad G 0)), (1, .int x1)]) (plainFor_of_name (by decide)) (Nat.le_of_ble_eq_true rfl) rfl (fun X hX C => ?_)
  unfold fX4_wipe at h
  refine q_iload_n (pc := 0) C 1 rfl dX4_wipe_0 rfl ?_
  refine q_iconst (pc := 1) C dX4_wipe_1 ci_2 ?_
  obtain ⟨q1, hq1, h⟩ := q_bind h
  refine q_callS1 (pc := 2) (st := []) C (zX4_below hq1) ys_X4_below ml_RX4_62 rfl (by decide) rfl (Nat.le_of_ble_eq_true rfl) dX4_wipe_2 ?_
  refine q_if_ne (pc := 5) C 11 dX4_wipe_5 (by decide) (fun c2 => ?_) (fun c2 => ?_)
  · have h := q_f c2 h
    refine q_aload_n (pc := 11) C 0 rfl dX4_wipe_11 rfl ?_
    refine q_getR (pc := 12) (t := 16) C fl_RX4_41 kC_0 rfl rC_0_5 dX4_wipe_12 ?_
    refine q_iconst (pc := 15) C dX4_wipe_15 ci_1 ?_
    refine q_putI (pc := 16) C fl_RX4_66 kC_16 rfl rfl rfl dX4_wipe_16 ?_
    exact tX4_wipe_19 C _ _ _ h
  · have h := q_t c2 h
    refine q_bipush (pc := 8) C dX4_wipe_8 cb_m2 ?_
    obtain rfl := Option.some.inj h
    exact q_iret (pc := 10) C dX4_wipe_10
/-! X4_undo -/
theorem tX4_undo_19 {X : qX} {G : qG} (C : qC sC X G RX4 cX4_undo 2 4 (some .int))  (σ : qM) (x1 : Int32) (res : (Int32 × qM))  (h : fX4_undo_19  σ x1 = some res) : qY sC X G 2 (q_Q sC X G (some (.int res.1)) res.2) σ 19 [(0, .ref (q_ad G 0)), (1, .int x1)] [] := by
  unfold fX4_undo_19 at h
  refine q_aload_n (pc := 19) C 0 rfl dX4_undo_19 rfl ?_
  refine q_iload_n (pc := 20) C 1 rfl dX4_undo_20 rfl ?_
  obtain ⟨q1, hq1, h⟩ := q_bind h
  refine q_callV1 (pc := 21) (st := []) C (zX4_textOf hq1) yi_X4_textOf ml_RX4_70 kC_0 rfl (by decide) rfl (Nat.le_of_ble_eq_true rfl) dX4_undo_21 ?_
  obtain ⟨g2, h⟩ := q_guard h
  obtain ⟨q3, hq3, h⟩ := q_bind h
  refine q_callV1 (pc := 24) (st := []) C (zX3_dropLast g2 hq3) yi_X3_dropLast ml_RX4_82 g2 rfl (by decide) rfl (Nat.le_of_ble_eq_true rfl) dX4_undo_24 ?_
  obtain rfl := Option.some.inj h
  exact q_iret (pc := 27) C dX4_undo_27
theorem zX4_undo {G : qG} {l : Launch} {σ : qM} {x1 : Int32} {res : (Int32 × qM)}  (h : fX4_undo σ x1 = some res) : qCon sC G l yX4_undo cX4_undo 2 (some .int) 4 [.ref (q_ad G 0), .int x1] σ (some (.int res.1)) res.2 := by
  refine qCon.mkF (lv := [(0, .ref (q_ad G 0)), (1, .int x1)]) (plainFor_of_name (by decide)) (Nat.le_of_ble_eq_true rfl) rfl (fun X hX C => ?_)
  unfold fX4_undo at h
  refine q_iload_n (pc := 0) C 1 rfl dX4_undo_0 rfl ?_
  refine q_iconst (pc := 1) C dX4_undo_1 ci_2 ?_
  obtain ⟨q1, hq1, h⟩ := q_bind h
  refine q_callS1 (pc := 2) (st := []) C (zX4_below hq1) ys_X4_below ml_RX4_62 rfl (by decide) rfl (Nat.le_of_ble_eq_true rfl) dX4_undo_2 ?_
  refine q_if_ne (pc := 5) C 11 dX4_undo_5 (by decide) (fun c2 => ?_) (fun c2 => ?_)
  · have h := q_f c2 h
    refine q_aload_n (pc := 11) C 0 rfl dX4_undo_11 rfl ?_
    refine q_getR (pc := 12) (t := 16) C fl_RX4_41 kC_0 rfl rC_0_5 dX4_undo_12 ?_
    refine q_iconst (pc := 15) C dX4_undo_15 ci_1 ?_
    refine q_putI (pc := 16) C fl_RX4_66 kC_16 rfl rfl rfl dX4_undo_16 ?_
    exact tX4_undo_19 C _ _ _ h
  · have h := q_t c2 h
    refine q_bipush (pc := 8) C dX4_undo_8 cb_m2 ?_
    obtain rfl := Option.some.inj h
    exact q_iret (pc := 10) C dX4_undo_10
/-! X4_fault -/
theorem zX4_fault {G : qG} {l : Launch} {σ : qM} {x1 : Int32} {res : (Int32 × qM)}  (h : fX4_fault σ x1 = some res) : qCon sC G l yX4_fault cX4_fault 2 (some .int) 1 [.ref (q_ad G 0), .int x1] σ (some (.int res.1)) res.2 := by
  refine qCon.mkF (lv := [(0, .ref (q_ad G 0)), (1, .int x1)]) (plainFor_of_name (by decide)) (Nat.le_of_ble_eq_true rfl) rfl (fun X hX C => ?_)
  unfold fX4_fault at h
  refine q_iload_n (pc := 0) C 1 rfl dX4_fault_0 rfl ?_
  refine q_iconst (pc := 1) C dX4_fault_1 ci_2 ?_
  obtain ⟨q1, hq1, h⟩ := q_bind h
  refine q_callS1 (pc := 2) (st := []) C (zX4_below hq1) ys_X4_below ml_RX4_62 rfl (by decide) rfl (Nat.le_of_ble_eq_true rfl) dX4_fault_2 ?_
  refine q_if_eq (pc := 5) C 19 dX4_fault_5 (by decide) (fun c2 => ?_) (fun c2 => ?_)
  · have h := q_t c2 h
    refine q_bipush (pc := 19) C dX4_fault_19 cb_m2 ?_
    obtain rfl := Option.some.inj h
    exact q_iret (pc := 21) C dX4_fault_21
  · have h := q_f c2 h
    refine q_aload_n (pc := 8) C 0 rfl dX4_fault_8 rfl ?_
    refine q_iload_n (pc := 9) C 1 rfl dX4_fault_9 rfl ?_
    obtain ⟨q3, hq3, h⟩ := q_bind h
    refine q_callV1 (pc := 10) (st := []) C (zX4_textOf hq3) yi_X4_textOf ml_RX4_70 kC_0 rfl (by decide) rfl (Nat.le_of_ble_eq_true rfl) dX4_fault_10 ?_
    obtain ⟨g4, h⟩ := q_guard h
    refine q_getI (pc := 13) C fl_RX4_85 g4 rfl dX4_fault_13 ?_
    refine q_goto (pc := 16) C 21 dX4_fault_16 (by decide) ?_
    obtain rfl := Option.some.inj h
    exact q_iret (pc := 21) C dX4_fault_21
/-! X4_leaf -/
theorem zX4_leaf {G : qG} {l : Launch} {σ : qM} {x1 : Int32} {x2 : Int32} {res : (Int32 × qM)}  (h : fX4_leaf σ x1 x2 = some res) : qCon sC G l yX4_leaf cX4_leaf 3 (some .int) 1 [.ref (q_ad G 0), .int x1, .int x2] σ (some (.int res.1)) res.2 := by
  refine qCon.mkF (lv := [(0, .ref (q_ad G 0)), (1, .int x1), (2, .int x2)]) (plainFor_of_name (by decide)) (Nat.le_of_ble_eq_true rfl) rfl (fun X hX C => ?_)
  unfold fX4_leaf at h
  refine q_iload_n (pc := 0) C 1 rfl dX4_leaf_0 rfl ?_
  refine q_aload_n (pc := 1) C 0 rfl dX4_leaf_1 rfl ?_
  refine q_getR (pc := 2) (t := 1) C fl_RX4_14 kC_0 rfl rC_0_0 dX4_leaf_2 ?_
  refine q_getI (pc := 5) C fl_RX4_88 kC_1 rfl dX4_leaf_5 ?_
  obtain ⟨q1, hq1, h⟩ := q_bind h
  refine q_callS1 (pc := 8) (st := []) C (zX4_below hq1) ys_X4_below ml_RX4_62 rfl (by decide) rfl (Nat.le_of_ble_eq_true rfl) dX4_leaf_8 ?_
  refine q_if_eq (pc := 11) C 34 dX4_leaf_11 (by decide) (fun c2 => ?_) (fun c2 => ?_)
  · have h := q_t c2 h
    refine q_bipush (pc := 34) C dX4_leaf_34 cb_m2 ?_
    obtain rfl := Option.some.inj h
    exact q_iret (pc := 36) C dX4_leaf_36
  · have h := q_f c2 h
    refine q_iload_n (pc := 14) C 2 rfl dX4_leaf_14 rfl ?_
    refine q_iconst (pc := 15) C dX4_leaf_15 ci_3 ?_
    obtain ⟨q3, hq3, h⟩ := q_bind h
    refine q_callS1 (pc := 16) (st := []) C (zX4_below hq3) ys_X4_below ml_RX4_62 rfl (by decide) rfl (Nat.le_of_ble_eq_true rfl) dX4_leaf_16 ?_
    refine q_if_eq (pc := 19) C 34 dX4_leaf_19 (by decide) (fun c4 => ?_) (fun c4 => ?_)
    · have h := q_t c4 h
      refine q_bipush (pc := 34) C dX4_leaf_34 cb_m2 ?_
      obtain rfl := Option.some.inj h
      exact q_iret (pc := 36) C dX4_leaf_36
    · have h := q_f c4 h
      refine q_aload_n (pc := 22) C 0 rfl dX4_leaf_22 rfl ?_
      refine q_getR (pc := 23) (t := 1) C fl_RX4_14 kC_0 rfl rC_0_0 dX4_leaf_23 ?_
      refine q_iload_n (pc := 26) C 1 rfl dX4_leaf_26 rfl ?_
      refine q_iload_n (pc := 27) C 2 rfl dX4_leaf_27 rfl ?_
      obtain ⟨q5, hq5, h⟩ := q_bind h
      refine q_callV1 (pc := 28) (st := []) C (zX3_part kC_1 hq5) yi_X3_part ml_RX4_91 kC_1 rfl (by decide) rfl (Nat.le_of_ble_eq_true rfl) dX4_leaf_28 ?_
      refine q_goto (pc := 31) C 36 dX4_leaf_31 (by decide) ?_
      obtain rfl := Option.some.inj h
      exact q_iret (pc := 36) C dX4_leaf_36
/-! X4_rule -/
theorem zX4_rule {G : qG} {l : Launch} {σ : qM} {x1 : Int32} {x2 : Int32} {res : (Int32 × qM)}  (h : fX4_rule σ x1 x2 = some res) : qCon sC G l yX4_rule cX4_rule 3 (some .int) 1 [.ref (q_ad G 0), .int x1, .int x2] σ (some (.int res.1)) res.2 := by
  refine qCon.mkF (lv := [(0, .ref (q_ad G 0)), (1, .int x1), (2, .int x2)]) (plainFor_of_name (by decide)) (Nat.le_of_ble_eq_true rfl) rfl (fun X hX C => ?_)
  unfold fX4_rule at h
  refine q_iload_n (pc := 0) C 1 rfl dX4_rule_0 rfl ?_
  refine q_aload_n (pc := 1) C 0 rfl dX4_rule_1 rfl ?_
  refine q_getR (pc := 2) (t := 4) C fl_RX4_18 kC_0 rfl rC_0_1 dX4_rule_2 ?_
  refine q_getI (pc := 5) C fl_RX4_88 kC_4 rfl dX4_rule_5 ?_
  obtain ⟨q1, hq1, h⟩ := q_bind h
  refine q_callS1 (pc := 8) (st := []) C (zX4_below hq1) ys_X4_below ml_RX4_62 rfl (by decide) rfl (Nat.le_of_ble_eq_true rfl) dX4_rule_8 ?_
  refine q_if_eq (pc := 11) C 34 dX4_rule_11 (by decide) (fun c2 => ?_) (fun c2 => ?_)
  · have h := q_t c2 h
    refine q_bipush (pc := 34) C dX4_rule_34 cb_m2 ?_
    obtain rfl := Option.some.inj h
    exact q_iret (pc := 36) C dX4_rule_36
  · have h := q_f c2 h
    refine q_iload_n (pc := 14) C 2 rfl dX4_rule_14 rfl ?_
    refine q_iconst (pc := 15) C dX4_rule_15 ci_5 ?_
    obtain ⟨q3, hq3, h⟩ := q_bind h
    refine q_callS1 (pc := 16) (st := []) C (zX4_below hq3) ys_X4_below ml_RX4_62 rfl (by decide) rfl (Nat.le_of_ble_eq_true rfl) dX4_rule_16 ?_
    refine q_if_eq (pc := 19) C 34 dX4_rule_19 (by decide) (fun c4 => ?_) (fun c4 => ?_)
    · have h := q_t c4 h
      refine q_bipush (pc := 34) C dX4_rule_34 cb_m2 ?_
      obtain rfl := Option.some.inj h
      exact q_iret (pc := 36) C dX4_rule_36
    · have h := q_f c4 h
      refine q_aload_n (pc := 22) C 0 rfl dX4_rule_22 rfl ?_
      refine q_getR (pc := 23) (t := 4) C fl_RX4_18 kC_0 rfl rC_0_1 dX4_rule_23 ?_
      refine q_iload_n (pc := 26) C 1 rfl dX4_rule_26 rfl ?_
      refine q_iload_n (pc := 27) C 2 rfl dX4_rule_27 rfl ?_
      obtain ⟨q5, hq5, h⟩ := q_bind h
      refine q_callV1 (pc := 28) (st := []) C (zX3_part kC_4 hq5) yi_X3_part ml_RX4_91 kC_4 rfl (by decide) rfl (Nat.le_of_ble_eq_true rfl) dX4_rule_28 ?_
      refine q_goto (pc := 31) C 36 dX4_rule_31 (by decide) ?_
      obtain rfl := Option.some.inj h
      exact q_iret (pc := 36) C dX4_rule_36
/-! X4_crack -/
theorem tX4_crack_29 {X : qX} {G : qG} (C : qC sC X G RX4 cX4_crack 3 1 (some .int))  (σ : qM) (x1 : Int32) (x2 : Int32) (res : (Int32 × qM))  (h : fX4_crack_29  σ x1 x2 = some res) : qY sC X G 3 (q_Q sC X G (some (.int res.1)) res.2) σ 29 [(0, .ref (q_ad G 0)), (1, .int x1), (2, .int x2)] [] := by
  unfold fX4_crack_29 at h
  refine q_aload_n (pc := 29) C 0 rfl dX4_crack_29 rfl ?_
  refine q_getR (pc := 30) (t := 7) C fl_RX4_26 kC_0 rfl rC_0_2 dX4_crack_30 ?_
  refine q_iload_n (pc := 33) C 1 rfl dX4_crack_33 rfl ?_
  refine q_iload_n (pc := 34) C 2 rfl dX4_crack_34 rfl ?_
  obtain ⟨q1, hq1, h⟩ := q_bind h
  refine q_callV1 (pc := 35) (st := []) C (zX1_append kC_7 hq1) yi_X1_append ml_RX4_95 kC_7 rfl (by decide) rfl (Nat.le_of_ble_eq_true rfl) dX4_crack_35 ?_
  obtain rfl := Option.some.inj h
  exact q_iret (pc := 38) C dX4_crack_38
theorem zX4_crack {G : qG} {l : Launch} {σ : qM} {x1 : Int32} {x2 : Int32} {res : (Int32 × qM)}  (h : fX4_crack σ x1 x2 = some res) : qCon sC G l yX4_crack cX4_crack 3 (some .int) 1 [.ref (q_ad G 0), .int x1, .int x2] σ (some (.int res.1)) res.2 := by
  refine qCon.mkF (lv := [(0, .ref (q_ad G 0)), (1, .int x1), (2, .int x2)]) (plainFor_of_name (by decide)) (Nat.le_of_ble_eq_true rfl) rfl (fun X hX C => ?_)
  unfold fX4_crack at h
  refine q_iload_n (pc := 0) C 1 rfl dX4_crack_0 rfl ?_
  refine q_bipush (pc := 1) C dX4_crack_1 cb_6 ?_
  obtain ⟨q1, hq1, h⟩ := q_bind h
  refine q_callS1 (pc := 3) (st := []) C (zX4_below hq1) ys_X4_below ml_RX4_62 rfl (by decide) rfl (Nat.le_of_ble_eq_true rfl) dX4_crack_3 ?_
  refine q_if_eq (pc := 6) C 18 dX4_crack_6 (by decide) (fun c2 => ?_) (fun c2 => ?_)
  · have h := q_t c2 h
    refine q_bipush (pc := 18) C dX4_crack_18 cb_m2 ?_
    obtain rfl := Option.some.inj h
    exact q_iret (pc := 20) C dX4_crack_20
  · have h := q_f c2 h
    refine q_iload_n (pc := 9) C 2 rfl dX4_crack_9 rfl ?_
    refine q_bipush (pc := 10) C dX4_crack_10 cb_6 ?_
    obtain ⟨q3, hq3, h⟩ := q_bind h
    refine q_callS1 (pc := 12) (st := []) C (zX4_below hq3) ys_X4_below ml_RX4_62 rfl (by decide) rfl (Nat.le_of_ble_eq_true rfl) dX4_crack_12 ?_
    refine q_if_ne (pc := 15) C 21 dX4_crack_15 (by decide) (fun c4 => ?_) (fun c4 => ?_)
    · have h := q_f c4 h
      refine q_aload_n (pc := 21) C 0 rfl dX4_crack_21 rfl ?_
      refine q_getR (pc := 22) (t := 16) C fl_RX4_41 kC_0 rfl rC_0_5 dX4_crack_22 ?_
      refine q_iconst (pc := 25) C dX4_crack_25 ci_1 ?_
      refine q_putI (pc := 26) C fl_RX4_66 kC_16 rfl rfl rfl dX4_crack_26 ?_
      exact tX4_crack_29 C _ _ _ _ h
    · have h := q_t c4 h
      refine q_bipush (pc := 18) C dX4_crack_18 cb_m2 ?_
      obtain rfl := Option.some.inj h
      exact q_iret (pc := 20) C dX4_crack_20
/-! X4_deed -/
theorem zX4_deed {G : qG} {l : Launch} {σ : qM} {x1 : Int32} {x2 : Int32} {res : (Int32 × qM)}  (h : fX4_deed σ x1 x2 = some res) : qCon sC G l yX4_deed cX4_deed 3 (some .int) 1 [.ref (q_ad G 0), .int x1, .int x2] σ (some (.int res.1)) res.2 := by
  refine qCon.mkF (lv := [(0, .ref (q_ad G 0)), (1, .int x1), (2, .int x2)]) (plainFor_of_name (by decide)) (Nat.le_of_ble_eq_true rfl) rfl (fun X hX C => ?_)
  unfold fX4_deed at h
  refine q_iload_n (pc := 0) C 1 rfl dX4_deed_0 rfl ?_
  refine q_bipush (pc := 1) C dX4_deed_1 cb_28 ?_
  obtain ⟨q1, hq1, h⟩ := q_bind h
  refine q_callS1 (pc := 3) (st := []) C (zX4_below hq1) ys_X4_below ml_RX4_62 rfl (by decide) rfl (Nat.le_of_ble_eq_true rfl) dX4_deed_3 ?_
  refine q_if_eq (pc := 6) C 30 dX4_deed_6 (by decide) (fun c2 => ?_) (fun c2 => ?_)
  · have h := q_t c2 h
    refine q_bipush (pc := 30) C dX4_deed_30 cb_m2 ?_
    obtain rfl := Option.some.inj h
    exact q_iret (pc := 32) C dX4_deed_32
  · have h := q_f c2 h
    refine q_iload_n (pc := 9) C 2 rfl dX4_deed_9 rfl ?_
    refine q_bipush (pc := 10) C dX4_deed_10 cb_8 ?_
    obtain ⟨q3, hq3, h⟩ := q_bind h
    refine q_callS1 (pc := 12) (st := []) C (zX4_below hq3) ys_X4_below ml_RX4_62 rfl (by decide) rfl (Nat.le_of_ble_eq_true rfl) dX4_deed_12 ?_
    refine q_if_eq (pc := 15) C 30 dX4_deed_15 (by decide) (fun c4 => ?_) (fun c4 => ?_)
    · have h := q_t c4 h
      refine q_bipush (pc := 30) C dX4_deed_30 cb_m2 ?_
      obtain rfl := Option.some.inj h
      exact q_iret (pc := 32) C dX4_deed_32
    · have h := q_f c4 h
      refine q_aload_n (pc := 18) C 0 rfl dX4_deed_18 rfl ?_
      refine q_getR (pc := 19) (t := 10) C fl_RX4_30 kC_0 rfl rC_0_3 dX4_deed_19 ?_
      refine q_iload_n (pc := 22) C 1 rfl dX4_deed_22 rfl ?_
      refine q_iload_n (pc := 23) C 2 rfl dX4_deed_23 rfl ?_
      obtain ⟨q5, hq5, h⟩ := q_bind h
      refine q_callV1 (pc := 24) (st := []) C (zX1_append kC_10 hq5) yi_X1_append ml_RX4_95 kC_10 rfl (by decide) rfl (Nat.le_of_ble_eq_true rfl) dX4_deed_24 ?_
      refine q_goto (pc := 27) C 32 dX4_deed_27 (by decide) ?_
      obtain rfl := Option.some.inj h
      exact q_iret (pc := 32) C dX4_deed_32
/-! X4_back -/
theorem tX4_back_32 {X : qX} {G : qG} (C : qC sC X G RX4 cX4_back 2 1 (some .int))  (σ : qM)  (res : (Int32 × qM))  (h : fX4_back_32  σ  = some res) : qY sC X G 2 (q_Q sC X G (some (.int res.1)) res.2) σ 32 [(0, .ref (q_ad G 0))] [] := by
  unfold fX4_back_32 at h
  refine q_aload_n (pc := 32) C 0 rfl dX4_back_32 rfl ?_
  refine q_getR (pc := 33) (t := 7) C fl_RX4_26 kC_0 rfl rC_0_2 dX4_back_33 ?_
  obtain ⟨q1, hq1, h⟩ := q_bind h
  refine q_callV1 (pc := 36) (st := []) C (zX1_dropLast kC_7 hq1) yi_X1_dropLast ml_RX4_97 kC_7 rfl (by decide) rfl (Nat.le_of_ble_eq_true rfl) dX4_back_36 ?_
  obtain rfl := Option.some.inj h
  exact q_iret (pc := 39) C dX4_back_39
theorem zX4_back {G : qG} {l : Launch} {σ : qM} {x1 : Int32} {res : (Int32 × qM)}  (h : fX4_back σ x1 = some res) : qCon sC G l yX4_back cX4_back 2 (some .int) 1 [.ref (q_ad G 0), .int x1] σ (some (.int res.1)) res.2 := by
  refine qCon.mkF (lv := [(0, .ref (q_ad G 0)), (1, .int x1)]) (plainFor_of_name (by decide)) (Nat.le_of_ble_eq_true rfl) rfl (fun X hX C => ?_)
  unfold fX4_back at h
  refine q_iload_n (pc := 0) C 1 rfl dX4_back_0 rfl ?_
  refine q_iconst (pc := 1) C dX4_back_1 ci_2 ?_
  obtain ⟨q1, hq1, h⟩ := q_bind h
  refine q_callS1 (pc := 2) (st := []) C (zX4_below hq1) ys_X4_below ml_RX4_62 rfl (by decide) rfl (Nat.le_of_ble_eq_true rfl) dX4_back_2 ?_
  refine q_if_ne (pc := 5) C 11 dX4_back_5 (by decide) (fun c2 => ?_) (fun c2 => ?_)
  · have h := q_f c2 h
    refine q_iload_n (pc := 11) C 1 rfl dX4_back_11 rfl ?_
    refine q_iconst (pc := 12) C dX4_back_12 ci_1 ?_
    refine q_ic_ne (pc := 13) C 24 dX4_back_13 (by decide) (fun c3 => ?_) (fun c3 => ?_)
    · have h := q_f c3 h
      refine q_aload_n (pc := 24) C 0 rfl dX4_back_24 rfl ?_
      refine q_getR (pc := 25) (t := 16) C fl_RX4_41 kC_0 rfl rC_0_5 dX4_back_25 ?_
      refine q_iconst (pc := 28) C dX4_back_28 ci_1 ?_
      refine q_putI (pc := 29) C fl_RX4_66 kC_16 rfl rfl rfl dX4_back_29 ?_
      refine q_sub [0] rfl ?_
      exact tX4_back_32 C _ _ h
    · have h := q_t c3 h
      refine q_aload_n (pc := 16) C 0 rfl dX4_back_16 rfl ?_
      refine q_getR (pc := 17) (t := 10) C fl_RX4_30 kC_0 rfl rC_0_3 dX4_back_17 ?_
      obtain ⟨q4, hq4, h⟩ := q_bind h
      refine q_callV1 (pc := 20) (st := []) C (zX1_dropLast kC_10 hq4) yi_X1_dropLast ml_RX4_97 kC_10 rfl (by decide) rfl (Nat.le_of_ble_eq_true rfl) dX4_back_20 ?_
      obtain rfl := Option.some.inj h
      exact q_iret (pc := 23) C dX4_back_23
  · have h := q_t c2 h
    refine q_bipush (pc := 8) C dX4_back_8 cb_m2 ?_
    obtain rfl := Option.some.inj h
    exact q_iret (pc := 10) C dX4_back_10
/-! X4_set -/
theorem tX4_set_34 {X : qX} {G : qG} (C : qC sC X G RX4 cX4_set 4 1 (some .int))  (σ : qM) (x1 : Int32) (x2 : Int32) (t0 : Int32) (res : (Int32 × qM))  (h : fX4_set_34  σ x1 x2 t0 = some res) : qY sC X G 4 (q_Q sC X G (some (.int res.1)) res.2) σ 34 [(0, .ref (q_ad G 0)), (1, .int x1), (2, .int x2)] [.int t0] := by
  unfold fX4_set_34 at h
  refine q_istore_n (pc := 34) C dX4_set_34 rfl (by decide) rfl ?_
  refine q_iload_n (pc := 35) C 2 rfl dX4_set_35 rfl ?_
  refine q_if_ne (pc := 36) C 47 dX4_set_36 (by decide) (fun c1 => ?_) (fun c1 => ?_)
  · have h := q_f c1 h
    refine q_aload_n (pc := 47) C 1 rfl dX4_set_47 rfl ?_
    refine q_iload_n (pc := 48) C 3 rfl dX4_set_48 rfl ?_
    refine q_putI (pc := 49) C fl_RX4_55 kC_0 rfl rfl rfl dX4_set_49 ?_
    refine q_iload_n (pc := 52) C 0 rfl dX4_set_52 rfl ?_
    obtain rfl := Option.some.inj h
    exact q_iret (pc := 53) C dX4_set_53
  · have h := q_t c1 h
    refine q_aload_n (pc := 39) C 1 rfl dX4_set_39 rfl ?_
    refine q_iload_n (pc := 40) C 3 rfl dX4_set_40 rfl ?_
    refine q_putI (pc := 41) C fl_RX4_51 kC_0 rfl rfl rfl dX4_set_41 ?_
    refine q_goto (pc := 44) C 52 dX4_set_44 (by decide) ?_
    refine q_iload_n (pc := 52) C 0 rfl dX4_set_52 rfl ?_
    obtain rfl := Option.some.inj h
    exact q_iret (pc := 53) C dX4_set_53
theorem zX4_set {G : qG} {l : Launch} {σ : qM} {x1 : Int32} {x2 : Int32} {res : (Int32 × qM)}  (h : fX4_set σ x1 x2 = some res) : qCon sC G l yX4_set cX4_set 4 (some .int) 1 [.ref (q_ad G 0), .int x1, .int x2] σ (some (.int res.1)) res.2 := by
  refine qCon.mkF (lv := [(0, .ref (q_ad G 0)), (1, .int x1), (2, .int x2)]) (plainFor_of_name (by decide)) (Nat.le_of_ble_eq_true rfl) rfl (fun X hX C => ?_)
  unfold fX4_set at h
  refine q_iload_n (pc := 0) C 1 rfl dX4_set_0 rfl ?_
  refine q_iconst (pc := 1) C dX4_set_1 ci_2 ?_
  obtain ⟨q1, hq1, h⟩ := q_bind h
  refine q_callS1 (pc := 2) (st := []) C (zX4_below hq1) ys_X4_below ml_RX4_62 rfl (by decide) rfl (Nat.le_of_ble_eq_true rfl) dX4_set_2 ?_
  refine q_if_eq (pc := 5) C 16 dX4_set_5 (by decide) (fun c2 => ?_) (fun c2 => ?_)
  · have h := q_t c2 h
    refine q_bipush (pc := 16) C dX4_set_16 cb_m2 ?_
    obtain rfl := Option.some.inj h
    exact q_iret (pc := 18) C dX4_set_18
  · have h := q_f c2 h
    refine q_iload_n (pc := 8) C 2 rfl dX4_set_8 rfl ?_
    refine q_iconst (pc := 9) C dX4_set_9 ci_4 ?_
    obtain ⟨q3, hq3, h⟩ := q_bind h
    refine q_callS1 (pc := 10) (st := []) C (zX4_below hq3) ys_X4_below ml_RX4_62 rfl (by decide) rfl (Nat.le_of_ble_eq_true rfl) dX4_set_10 ?_
    refine q_if_ne (pc := 13) C 19 dX4_set_13 (by decide) (fun c4 => ?_) (fun c4 => ?_)
    · have h := q_f c4 h
      refine q_iload_n (pc := 19) C 1 rfl dX4_set_19 rfl ?_
      refine q_if_ne (pc := 20) C 30 dX4_set_20 (by decide) (fun c5 => ?_) (fun c5 => ?_)
      · have h := q_f c5 h
        refine q_aload_n (pc := 30) C 0 rfl dX4_set_30 rfl ?_
        refine q_getI (pc := 31) C fl_RX4_55 kC_0 rfl dX4_set_31 ?_
        exact tX4_set_34 C _ _ _ _ _ h
      · have h := q_t c5 h
        refine q_aload_n (pc := 23) C 0 rfl dX4_set_23 rfl ?_
        refine q_getI (pc := 24) C fl_RX4_51 kC_0 rfl dX4_set_24 ?_
        refine q_goto (pc := 27) C 34 dX4_set_27 (by decide) ?_
        exact tX4_set_34 C _ _ _ _ _ h
    · have h := q_t c4 h
      refine q_bipush (pc := 16) C dX4_set_16 cb_m2 ?_
      obtain rfl := Option.some.inj h
      exact q_iret (pc := 18) C dX4_set_18
/-! X4_lies -/
theorem zX4_lies {G : qG} {l : Launch} {σ : qM} {x1 : Int32} {x2 : Int32} {x3 : Int32} {res : (Int32 × qM)}  (h : fX4_lies σ x1 x2 x3 = some res) : qCon sC G l yX4_lies cX4_lies 5 (some .int) 4 [.ref (q_ad G 0), .int x1, .int x2, .int x3] σ (some (.int res.1)) res.2 := by
  refine qCon.mkF (lv := [(0, .ref (q_ad G 0)), (1, .int x1), (2, .int x2), (3, .int x3)]) (plainFor_of_name (by decide)) (Nat.le_of_ble_eq_true rfl) rfl (fun X hX C => ?_)
  unfold fX4_lies at h
  refine q_iload_n (pc := 0) C 1 rfl dX4_lies_0 rfl ?_
  refine q_iconst (pc := 1) C dX4_lies_1 ci_4 ?_
  obtain ⟨q1, hq1, h⟩ := q_bind h
  refine q_callS1 (pc := 2) (st := []) C (zX4_below hq1) ys_X4_below ml_RX4_62 rfl (by decide) rfl (Nat.le_of_ble_eq_true rfl) dX4_lies_2 ?_
  refine q_if_eq (pc := 5) C 30 dX4_lies_5 (by decide) (fun c2 => ?_) (fun c2 => ?_)
  · have h := q_t c2 h
    refine q_bipush (pc := 30) C dX4_lies_30 cb_m2 ?_
    obtain rfl := Option.some.inj h
    exact q_iret (pc := 32) C dX4_lies_32
  · have h := q_f c2 h
    refine q_iload_n (pc := 8) C 2 rfl dX4_lies_8 rfl ?_
    refine q_aload_n (pc := 9) C 0 rfl dX4_lies_9 rfl ?_
    refine q_getR (pc := 10) (t := 1) C fl_RX4_14 kC_0 rfl rC_0_0 dX4_lies_10 ?_
    refine q_getI (pc := 13) C fl_RX4_88 kC_1 rfl dX4_lies_13 ?_
    obtain ⟨q3, hq3, h⟩ := q_bind h
    refine q_callS1 (pc := 16) (st := []) C (zX4_below hq3) ys_X4_below ml_RX4_62 rfl (by decide) rfl (Nat.le_of_ble_eq_true rfl) dX4_lies_16 ?_
    refine q_if_eq (pc := 19) C 30 dX4_lies_19 (by decide) (fun c4 => ?_) (fun c4 => ?_)
    · have h := q_t c4 h
      refine q_bipush (pc := 30) C dX4_lies_30 cb_m2 ?_
      obtain rfl := Option.some.inj h
      exact q_iret (pc := 32) C dX4_lies_32
    · have h := q_f c4 h
      refine q_iload_n (pc := 22) C 3 rfl dX4_lies_22 rfl ?_
      refine q_iconst (pc := 23) C dX4_lies_23 ci_2 ?_
      obtain ⟨q5, hq5, h⟩ := q_bind h
      refine q_callS1 (pc := 24) (st := []) C (zX4_below hq5) ys_X4_below ml_RX4_62 rfl (by decide) rfl (Nat.le_of_ble_eq_true rfl) dX4_lies_24 ?_
      refine q_if_ne (pc := 27) C 33 dX4_lies_27 (by decide) (fun c6 => ?_) (fun c6 => ?_)
      · have h := q_f c6 h
        refine q_aload_n (pc := 33) C 0 rfl dX4_lies_33 rfl ?_
        refine q_getR (pc := 34) (t := 16) C fl_RX4_41 kC_0 rfl rC_0_5 dX4_lies_34 ?_
        obtain ⟨q7, hq7, h⟩ := q_bind h
        refine q_callV1 (pc := 37) (st := []) C (zX0_settled hq7) yi_X0_settled ml_RX4_98 kC_16 rfl (by decide) rfl (Nat.le_of_ble_eq_true rfl) dX4_lies_37 ?_
        refine q_astore (pc := 40) C dX4_lies_40 (by decide) rfl ?_
        refine q_iload_n (pc := 42) C 4 rfl dX4_lies_42 rfl ?_
        refine q_if_ne (pc := 43) C 58 dX4_lies_43 (by decide) (fun c8 => ?_) (fun c8 => ?_)
        · have h := q_f c8 h
          refine q_aload (pc := 58) C 0 rfl dX4_lies_58 ?_
          refine q_getR (pc := 60) (t := 22) C fl_RX4_106 kC_16 rfl rC_16_4 dX4_lies_60 ?_
          refine q_iload_n (pc := 63) C 2 rfl dX4_lies_63 rfl ?_
          obtain ⟨g9, h⟩ := q_guard h
          refine q_aald (pc := 64) (t := (23 + x1.toNatClampNeg)) C (Or.inl kC_22) lC_22 g9 (rR_22 _) dX4_lies_64 ?_
          refine q_iload_n (pc := 65) C 3 rfl dX4_lies_65 rfl ?_
          obtain ⟨g10, h⟩ := q_guard h
          refine q_iald (pc := 66) C (kR_22 g9) (lR_22 g9) g10 dX4_lies_66 ?_
          obtain rfl := Option.some.inj h
          exact q_iret (pc := 67) C dX4_lies_67
        · have h := q_t c8 h
          refine q_aload (pc := 46) C 0 rfl dX4_lies_46 ?_
          refine q_getR (pc := 48) (t := 17) C fl_RX4_102 kC_16 rfl rC_16_3 dX4_lies_48 ?_
          refine q_iload_n (pc := 51) C 2 rfl dX4_lies_51 rfl ?_
          obtain ⟨g11, h⟩ := q_guard h
          refine q_aald (pc := 52) (t := (18 + x1.toNatClampNeg)) C (Or.inl kC_17) lC_17 g11 (rR_17 _) dX4_lies_52 ?_
          refine q_iload_n (pc := 53) C 3 rfl dX4_lies_53 rfl ?_
          obtain ⟨g12, h⟩ := q_guard h
          refine q_iald (pc := 54) C (kR_17 g11) (lR_17 g11) g12 dX4_lies_54 ?_
          refine q_goto (pc := 55) C 67 dX4_lies_55 (by decide) ?_
          obtain rfl := Option.some.inj h
          exact q_iret (pc := 67) C dX4_lies_67
      · have h := q_t c6 h
        refine q_bipush (pc := 30) C dX4_lies_30 cb_m2 ?_
        obtain rfl := Option.some.inj h
        exact q_iret (pc := 32) C dX4_lies_32
/-! X4_reading -/
theorem zX4_reading {G : qG} {l : Launch} {σ : qM} {x1 : Int32} {x2 : Int32} {res : (Int32 × qM)}  (h : fX4_reading σ x1 x2 = some res) : qCon sC G l yX4_reading cX4_reading 4 (some .int) 4 [.ref (q_ad G 0), .int x1, .int x2] σ (some (.int res.1)) res.2 := by
  refine qCon.mkF (lv := [(0, .ref (q_ad G 0)), (1, .int x1), (2, .int x2)]) (plainFor_of_name (by decide)) (Nat.le_of_ble_eq_true rfl) rfl (fun X hX C => ?_)
  unfold fX4_reading at h
  refine q_iload_n (pc := 0) C 1 rfl dX4_reading_0 rfl ?_
  refine q_iconst (pc := 1) C dX4_reading_1 ci_4 ?_
  obtain ⟨q1, hq1, h⟩ := q_bind h
  refine q_callS1 (pc := 2) (st := []) C (zX4_below hq1) ys_X4_below ml_RX4_62 rfl (by decide) rfl (Nat.le_of_ble_eq_true rfl) dX4_reading_2 ?_
  refine q_if_eq (pc := 5) C 16 dX4_reading_5 (by decide) (fun c2 => ?_) (fun c2 => ?_)
  · have h := q_t c2 h
    refine q_bipush (pc := 16) C dX4_reading_16 cb_m2 ?_
    obtain rfl := Option.some.inj h
    exact q_iret (pc := 18) C dX4_reading_18
  · have h := q_f c2 h
    refine q_iload_n (pc := 8) C 2 rfl dX4_reading_8 rfl ?_
    refine q_iconst (pc := 9) C dX4_reading_9 ci_3 ?_
    obtain ⟨q3, hq3, h⟩ := q_bind h
    refine q_callS1 (pc := 10) (st := []) C (zX4_below hq3) ys_X4_below ml_RX4_62 rfl (by decide) rfl (Nat.le_of_ble_eq_true rfl) dX4_reading_10 ?_
    refine q_if_ne (pc := 13) C 19 dX4_reading_13 (by decide) (fun c4 => ?_) (fun c4 => ?_)
    · have h := q_f c4 h
      refine q_aload_n (pc := 19) C 0 rfl dX4_reading_19 rfl ?_
      refine q_getR (pc := 20) (t := 16) C fl_RX4_41 kC_0 rfl rC_0_5 dX4_reading_20 ?_
      obtain ⟨q5, hq5, h⟩ := q_bind h
      refine q_callV1 (pc := 23) (st := []) C (zX0_settled hq5) yi_X0_settled ml_RX4_98 kC_16 rfl (by decide) rfl (Nat.le_of_ble_eq_true rfl) dX4_reading_23 ?_
      refine q_astore_n (pc := 26) C dX4_reading_26 rfl (by decide) rfl ?_
      refine q_iload_n (pc := 27) C 3 rfl dX4_reading_27 rfl ?_
      by_cases c6 : x2 = (0 : Int32)
      · have h := q_t c6 h
        refine q_lookup (pc := 28) (off := 28) C 56 dX4_reading_28 (by decide) (by rw [c6]; decide) (by decide) ?_
        refine q_aload_n (pc := 56) C 0 rfl dX4_reading_56 rfl ?_
        refine q_getR (pc := 57) (t := 27) C fl_RX4_109 kC_16 rfl rC_16_5 dX4_reading_57 ?_
        refine q_iload_n (pc := 60) C 2 rfl dX4_reading_60 rfl ?_
        obtain ⟨g7, h⟩ := q_guard h
        refine q_iald (pc := 61) C kC_27 lC_27 g7 dX4_reading_61 ?_
        obtain rfl := Option.some.inj h
        exact q_iret (pc := 62) C dX4_reading_62
      · have h := q_f c6 h
        by_cases c8 : x2 = (1 : Int32)
        · have h := q_t c8 h
          refine q_lookup (pc := 28) (off := 35) C 63 dX4_reading_28 (by decide) (by rw [c8]; decide) (by decide) ?_
          refine q_aload_n (pc := 63) C 0 rfl dX4_reading_63 rfl ?_
          refine q_getR (pc := 64) (t := 28) C fl_RX4_113 kC_16 rfl rC_16_6 dX4_reading_64 ?_
          refine q_iload_n (pc := 67) C 2 rfl dX4_reading_67 rfl ?_
          obtain ⟨g9, h⟩ := q_guard h
          refine q_iald (pc := 68) C kC_28 lC_28 g9 dX4_reading_68 ?_
          obtain rfl := Option.some.inj h
          exact q_iret (pc := 69) C dX4_reading_69
        · have h := q_f c8 h
          refine q_lookup (pc := 28) (off := 42) C 70 dX4_reading_28 (by decide) (by show Op.lookupswitch.offset [(0, 28), (1, 35)] 42 _ = _; rw [lv_osw c6 ct_0, lv_osw c8 ct_1]; rfl) (by decide) ?_
          refine q_aload_n (pc := 70) C 0 rfl dX4_reading_70 rfl ?_
          refine q_getR (pc := 71) (t := 29) C fl_RX4_116 kC_16 rfl rC_16_7 dX4_reading_71 ?_
          refine q_iload_n (pc := 74) C 2 rfl dX4_reading_74 rfl ?_
          obtain ⟨g10, h⟩ := q_guard h
          refine q_iald (pc := 75) C kC_29 lC_29 g10 dX4_reading_75 ?_
          obtain rfl := Option.some.inj h
          exact q_iret (pc := 76) C dX4_reading_76
    · have h := q_t c4 h
      refine q_bipush (pc := 16) C dX4_reading_16 cb_m2 ?_
      obtain rfl := Option.some.inj h
      exact q_iret (pc := 18) C dX4_reading_18
/-! X4_turnsOn -/
theorem zX4_turnsOn {G : qG} {l : Launch} {σ : qM} {x1 : Int32} {res : (Int32 × qM)}  (h : fX4_turnsOn σ x1 = some res) : qCon sC G l yX4_turnsOn cX4_turnsOn 2 (some .int) 0 [.ref (q_ad G 0), .int x1] σ (some (.int res.1)) res.2 := by
  refine qCon.mkF (lv := [(0, .ref (q_ad G 0)), (1, .int x1)]) (plainFor_of_name (by decide)) (Nat.le_of_ble_eq_true rfl) rfl (fun X hX C => ?_)
  unfold fX4_turnsOn at h
  refine q_aload_n (pc := 0) C 0 rfl dX4_turnsOn_0 rfl ?_
  refine q_getI (pc := 1) C fl_RX4_51 kC_0 rfl dX4_turnsOn_1 ?_
  refine q_iload_n (pc := 4) C 1 rfl dX4_turnsOn_4 rfl ?_
  refine q_aload_n (pc := 5) C 0 rfl dX4_turnsOn_5 rfl ?_
  refine q_getI (pc := 6) C fl_RX4_55 kC_0 rfl dX4_turnsOn_6 ?_
  refine q_imul (pc := 9) C dX4_turnsOn_9 ?_
  refine q_iadd (pc := 10) C dX4_turnsOn_10 ?_
  refine q_iconst (pc := 11) C dX4_turnsOn_11 ci_4 ?_
  refine q_rem (pc := 12) C dX4_turnsOn_12 (by decide) ?_
  obtain rfl := Option.some.inj h
  exact q_iret (pc := 13) C dX4_turnsOn_13
/-! X4_day -/
theorem zX4_day {G : qG} {l : Launch} {σ : qM} {x1 : Int32} {res : (Int32 × qM)}  (h : fX4_day σ x1 = some res) : qCon sC G l yX4_day cX4_day 2 (some .int) 4 [.ref (q_ad G 0), .int x1] σ (some (.int res.1)) res.2 := by
  refine qCon.mkF (lv := [(0, .ref (q_ad G 0)), (1, .int x1)]) (plainFor_of_name (by decide)) (Nat.le_of_ble_eq_true rfl) rfl (fun X hX C => ?_)
  unfold fX4_day at h
  refine q_iload_n (pc := 0) C 1 rfl dX4_day_0 rfl ?_
  refine q_bipush (pc := 1) C dX4_day_1 cb_28 ?_
  obtain ⟨q1, hq1, h⟩ := q_bind h
  refine q_callS1 (pc := 3) (st := []) C (zX4_below hq1) ys_X4_below ml_RX4_62 rfl (by decide) rfl (Nat.le_of_ble_eq_true rfl) dX4_day_3 ?_
  refine q_if_eq (pc := 6) C 28 dX4_day_6 (by decide) (fun c2 => ?_) (fun c2 => ?_)
  · have h := q_t c2 h
    refine q_bipush (pc := 28) C dX4_day_28 cb_m2 ?_
    obtain rfl := Option.some.inj h
    exact q_iret (pc := 30) C dX4_day_30
  · have h := q_f c2 h
    refine q_aload_n (pc := 9) C 0 rfl dX4_day_9 rfl ?_
    refine q_getR (pc := 10) (t := 16) C fl_RX4_41 kC_0 rfl rC_0_5 dX4_day_10 ?_
    obtain ⟨q3, hq3, h⟩ := q_bind h
    refine q_callV1 (pc := 13) (st := []) C (zX0_settled hq3) yi_X0_settled ml_RX4_98 kC_16 rfl (by decide) rfl (Nat.le_of_ble_eq_true rfl) dX4_day_13 ?_
    refine q_getR (pc := 16) (t := 29) C fl_RX4_116 kC_16 rfl rC_16_7 dX4_day_16 ?_
    refine q_aload_n (pc := 19) C 0 rfl dX4_day_19 rfl ?_
    refine q_iload_n (pc := 20) C 1 rfl dX4_day_20 rfl ?_
    obtain ⟨q4, hq4, h⟩ := q_bind h
    refine q_callV1 (pc := 21) (st := [.ref (q_ad G 29)]) C (zX4_turnsOn hq4) yi_X4_turnsOn ml_RX4_119 kC_0 rfl (by decide) rfl (Nat.le_of_ble_eq_true rfl) dX4_day_21 ?_
    obtain ⟨g5, h⟩ := q_guard h
    refine q_iald (pc := 24) C kC_29 lC_29 g5 dX4_day_24 ?_
    refine q_goto (pc := 25) C 30 dX4_day_25 (by decide) ?_
    obtain rfl := Option.some.inj h
    exact q_iret (pc := 30) C dX4_day_30
/-! X4_brokenDeeds -/
theorem tX4_brokenDeeds_50 {X : qX} {G : qG} (C : qC sC X G RX4 cX4_brokenDeeds 4 1 (some .int)) (k4 : qM → Int32 → Int32 → Option (Int32 × qM)) (hk4 : ∀ (σ : qM) (x2 : Int32) (x3 : Int32) (res : (Int32 × qM)), k4 σ x2 x3 = some res → qY sC X G 4 (q_Q sC X G (some (.int res.1)) res.2) σ 4 [(0, .ref (q_ad G 0)), (1, .ref (q_ad G 16)), (2, .int x2), (3, .int x3)] []) (σ : qM) (x2 : Int32) (x3 : Int32) (res : (Int32 × qM))  (h : fX4_brokenDeeds_50 k4 σ x2 x3 = some res) : qY sC X G 4 (q_Q sC X G (some (.int res.1)) res.2) σ 50 [(0, .ref (q_ad G 0)), (1, .ref (q_ad G 16)), (2, .int x2), (3, .int x3)] [] := by
  unfold fX4_brokenDeeds_50 at h
  refine q_inc (pc := 50) C 3 rfl ci_1 dX4_brokenDeeds_50 (by decide) rfl ?_
  refine q_goto (pc := 53) C 4 dX4_brokenDeeds_53 (by decide) ?_
  refine q_sub [1, 2, 3, 0] rfl ?_
  exact hk4 _ _ _ _ h
theorem uX4_brokenDeeds_4 {X : qX} {G : qG} (C : qC sC X G RX4 cX4_brokenDeeds 4 1 (some .int)) (k4 : qM → Int32 → Int32 → Option (Int32 × qM)) (hk4 : ∀ (σ : qM) (x2 : Int32) (x3 : Int32) (res : (Int32 × qM)), k4 σ x2 x3 = some res → qY sC X G 4 (q_Q sC X G (some (.int res.1)) res.2) σ 4 [(0, .ref (q_ad G 0)), (1, .ref (q_ad G 16)), (2, .int x2), (3, .int x3)] []) (σ : qM) (x2 : Int32) (x3 : Int32) (res : (Int32 × qM))  (h : bX4_brokenDeeds_4 k4 σ x2 x3 = some res) : qY sC X G 4 (q_Q sC X G (some (.int res.1)) res.2) σ 4 [(0, .ref (q_ad G 0)), (1, .ref (q_ad G 16)), (2, .int x2), (3, .int x3)] [] := by
  unfold bX4_brokenDeeds_4 at h
  refine q_iload_n (pc := 4) C 3 rfl dX4_brokenDeeds_4 rfl ?_
  refine q_aload_n (pc := 5) C 0 rfl dX4_brokenDeeds_5 rfl ?_
  refine q_getR (pc := 6) (t := 10) C fl_RX4_30 kC_0 rfl rC_0_3 dX4_brokenDeeds_6 ?_
  refine q_getI (pc := 9) C fl_RX4_229 kC_10 rfl dX4_brokenDeeds_9 ?_
  refine q_ic_ge (pc := 12) C 56 dX4_brokenDeeds_12 (by decide) (fun c1 => ?_) (fun c1 => ?_)
  · have h := q_t c1 h
    refine q_iload_n (pc := 56) C 2 rfl dX4_brokenDeeds_56 rfl ?_
    obtain rfl := Option.some.inj h
    exact q_iret (pc := 57) C dX4_brokenDeeds_57
  · have h := q_f c1 h
    refine q_aload_n (pc := 15) C 1 rfl dX4_brokenDeeds_15 rfl ?_
    refine q_aload_n (pc := 16) C 0 rfl dX4_brokenDeeds_16 rfl ?_
    refine q_aload_n (pc := 17) C 0 rfl dX4_brokenDeeds_17 rfl ?_
    refine q_getR (pc := 18) (t := 10) C fl_RX4_30 kC_0 rfl rC_0_3 dX4_brokenDeeds_18 ?_
    refine q_getR (pc := 21) (t := 11) C fl_RX4_298 kC_10 rfl (rP_0 kC_10) dX4_brokenDeeds_21 ?_
    refine q_iload_n (pc := 24) C 3 rfl dX4_brokenDeeds_24 rfl ?_
    obtain ⟨g2, h⟩ := q_guard h
    refine q_iald (pc := 25) C kC_11 lC_11 g2 dX4_brokenDeeds_25 ?_
    obtain ⟨q3, hq3, h⟩ := q_bind h
    refine q_callV1 (pc := 26) (st := [.ref (q_ad G 16)]) C (zX4_turnsOn hq3) yi_X4_turnsOn ml_RX4_119 kC_0 rfl (by decide) rfl (Nat.le_of_ble_eq_true rfl) dX4_brokenDeeds_26 ?_
    refine q_aload_n (pc := 29) C 0 rfl dX4_brokenDeeds_29 rfl ?_
    refine q_getR (pc := 30) (t := 10) C fl_RX4_30 kC_0 rfl rC_0_3 dX4_brokenDeeds_30 ?_
    refine q_getR (pc := 33) (t := 12) C fl_RX4_301 kC_10 rfl (rP_1 kC_10) dX4_brokenDeeds_33 ?_
    refine q_iload_n (pc := 36) C 3 rfl dX4_brokenDeeds_36 rfl ?_
    obtain ⟨g4, h⟩ := q_guard h
    refine q_iald (pc := 37) C kC_12 lC_12 g4 dX4_brokenDeeds_37 ?_
    obtain ⟨q5, hq5, h⟩ := q_bind h
    refine q_callV1 (pc := 38) (st := []) C (zX0_isInForce hq5) yi_X0_isInForce ml_RX4_129 kC_16 rfl (by decide) rfl (Nat.le_of_ble_eq_true rfl) dX4_brokenDeeds_38 ?_
    refine q_if_eq (pc := 41) C 50 dX4_brokenDeeds_41 (by decide) (fun c6 => ?_) (fun c6 => ?_)
    · have h := q_t c6 h
      exact tX4_brokenDeeds_50 C k4 hk4 _ _ _ _ h
    · have h := q_f c6 h
      refine q_iload_n (pc := 44) C 2 rfl dX4_brokenDeeds_44 rfl ?_
      refine q_iconst (pc := 45) C dX4_brokenDeeds_45 ci_1 ?_
      refine q_iload_n (pc := 46) C 3 rfl dX4_brokenDeeds_46 rfl ?_
      refine q_shl (pc := 47) C dX4_brokenDeeds_47 ?_
      refine q_ior (pc := 48) C dX4_brokenDeeds_48 ?_
      refine q_istore_n (pc := 49) C dX4_brokenDeeds_49 rfl (by decide) rfl ?_
      refine q_sub [1, 2, 0, 3] rfl ?_
      exact tX4_brokenDeeds_50 C k4 hk4 _ _ _ _ h
theorem tX4_brokenDeeds_4 {X : qX} {G : qG} (C : qC sC X G RX4 cX4_brokenDeeds 4 1 (some .int))  (σ : qM) (x2 : Int32) (x3 : Int32) (res : (Int32 × qM))  (h : fX4_brokenDeeds_4  σ x2 x3 = some res) : qY sC X G 4 (q_Q sC X G (some (.int res.1)) res.2) σ 4 [(0, .ref (q_ad G 0)), (1, .ref (q_ad G 16)), (2, .int x2), (3, .int x3)] [] := by
  have key : ∀ (n : Nat) (σ : qM) (x2 : Int32) (x3 : Int32) (res : (Int32 × qM)) , qlp (fun _ _ _ => none) (bX4_brokenDeeds_4 ) n σ x2 x3 = some res → qY sC X G 4 (q_Q sC X G (some (.int res.1)) res.2) σ 4 [(0, .ref (q_ad G 0)), (1, .ref (q_ad G 16)), (2, .int x2), (3, .int x3)] [] := by
    intro n
    induction n with
    | zero => intro σ x2 x3 res h; cases h
    | succ n ih => intro σ x2 x3 res h; exact uX4_brokenDeeds_4 C  (qlp (fun _ _ _ => none) (bX4_brokenDeeds_4 ) n) (fun σ x2 x3 res h => ih σ x2 x3 res h) σ x2 x3 res h
  exact key qFU σ x2 x3 res h
theorem zX4_brokenDeeds {G : qG} {l : Launch} {σ : qM}  {res : (Int32 × qM)}  (h : fX4_brokenDeeds σ  = some res) : qCon sC G l yX4_brokenDeeds cX4_brokenDeeds 4 (some .int) 1 [.ref (q_ad G 0), .ref (q_ad G 16)] σ (some (.int res.1)) res.2 := by
  refine qCon.mkF (lv := [(0, .ref (q_ad G 0)), (1, .ref (q_ad G 16))]) (plainFor_of_name (by decide)) (Nat.le_of_ble_eq_true rfl) rfl (fun X hX C => ?_)
  unfold fX4_brokenDeeds at h
  refine q_iconst (pc := 0) C dX4_brokenDeeds_0 ci_0 ?_
  refine q_istore_n (pc := 1) C dX4_brokenDeeds_1 rfl (by decide) rfl ?_
  refine q_iconst (pc := 2) C dX4_brokenDeeds_2 ci_0 ?_
  refine q_istore_n (pc := 3) C dX4_brokenDeeds_3 rfl (by decide) rfl ?_
  refine q_sub [2, 3, 1, 0] rfl ?_
  exact tX4_brokenDeeds_4 C _ _ _ _ h
/-! X4_earliestDeed -/
theorem tX4_earliestDeed_58 {X : qX} {G : qG} (C : qC sC X G RX4 cX4_earliestDeed 5 0 (some .int)) (k8 : qM → Int32 → Int32 → Int32 → Int32 → Option (Int32 × qM)) (hk8 : ∀ (σ : qM) (x1 : Int32) (x2 : Int32) (x3 : Int32) (x4 : Int32) (res : (Int32 × qM)), k8 σ x1 x2 x3 x4 = some res → qY sC X G 5 (q_Q sC X G (some (.int res.1)) res.2) σ 8 [(0, .ref (q_ad G 0)), (1, .int x1), (2, .int x2), (3, .int x3), (4, .int x4)] []) (σ : qM) (x1 : Int32) (x2 : Int32) (x3 : Int32) (x4 : Int32) (res : (Int32 × qM))  (h : fX4_earliestDeed_58 k8 σ x1 x2 x3 x4 = some res) : qY sC X G 5 (q_Q sC X G (some (.int res.1)) res.2) σ 58 [(0, .ref (q_ad G 0)), (1, .int x1), (2, .int x2), (3, .int x3), (4, .int x4)] [] := by
  unfold fX4_earliestDeed_58 at h
  refine q_inc (pc := 58) C 4 rfl ci_1 dX4_earliestDeed_58 (by decide) rfl ?_
  refine q_goto (pc := 61) C 8 dX4_earliestDeed_61 (by decide) ?_
  refine q_sub [1, 2, 3, 4, 0] rfl ?_
  exact hk8 _ _ _ _ _ _ h
theorem uX4_earliestDeed_8 {X : qX} {G : qG} (C : qC sC X G RX4 cX4_earliestDeed 5 0 (some .int)) (k8 : qM → Int32 → Int32 → Int32 → Int32 → Option (Int32 × qM)) (hk8 : ∀ (σ : qM) (x1 : Int32) (x2 : Int32) (x3 : Int32) (x4 : Int32) (res : (Int32 × qM)), k8 σ x1 x2 x3 x4 = some res → qY sC X G 5 (q_Q sC X G (some (.int res.1)) res.2) σ 8 [(0, .ref (q_ad G 0)), (1, .int x1), (2, .int x2), (3, .int x3), (4, .int x4)] []) (σ : qM) (x1 : Int32) (x2 : Int32) (x3 : Int32) (x4 : Int32) (res : (Int32 × qM))  (h : bX4_earliestDeed_8 k8 σ x1 x2 x3 x4 = some res) : qY sC X G 5 (q_Q sC X G (some (.int res.1)) res.2) σ 8 [(0, .ref (q_ad G 0)), (1, .int x1), (2, .int x2), (3, .int x3), (4, .int x4)] [] := by
  unfold bX4_earliestDeed_8 at h
  refine q_iload (pc := 8) C 4 rfl dX4_earliestDeed_8 ?_
  refine q_aload_n (pc := 10) C 0 rfl dX4_earliestDeed_10 rfl ?_
  refine q_getR (pc := 11) (t := 10) C fl_RX4_30 kC_0 rfl rC_0_3 dX4_earliestDeed_11 ?_
  refine q_getI (pc := 14) C fl_RX4_229 kC_10 rfl dX4_earliestDeed_14 ?_
  refine q_ic_ge (pc := 17) C 64 dX4_earliestDeed_17 (by decide) (fun c1 => ?_) (fun c1 => ?_)
  · have h := q_t c1 h
    refine q_iload_n (pc := 64) C 2 rfl dX4_earliestDeed_64 rfl ?_
    obtain rfl := Option.some.inj h
    exact q_iret (pc := 65) C dX4_earliestDeed_65
  · have h := q_f c1 h
    refine q_iload_n (pc := 20) C 1 rfl dX4_earliestDeed_20 rfl ?_
    refine q_iload (pc := 21) C 4 rfl dX4_earliestDeed_21 ?_
    refine q_shr (pc := 23) C dX4_earliestDeed_23 ?_
    refine q_iconst (pc := 24) C dX4_earliestDeed_24 ci_1 ?_
    refine q_iand (pc := 25) C dX4_earliestDeed_25 ?_
    refine q_iconst (pc := 26) C dX4_earliestDeed_26 ci_1 ?_
    refine q_ic_ne (pc := 27) C 58 dX4_earliestDeed_27 (by decide) (fun c2 => ?_) (fun c2 => ?_)
    · have h := q_f c2 h
      exact tX4_earliestDeed_58 C k8 hk8 _ _ _ _ _ _ h
    · have h := q_t c2 h
      refine q_aload_n (pc := 30) C 0 rfl dX4_earliestDeed_30 rfl ?_
      refine q_getR (pc := 31) (t := 10) C fl_RX4_30 kC_0 rfl rC_0_3 dX4_earliestDeed_31 ?_
      refine q_getR (pc := 34) (t := 11) C fl_RX4_298 kC_10 rfl (rP_0 kC_10) dX4_earliestDeed_34 ?_
      refine q_iload (pc := 37) C 4 rfl dX4_earliestDeed_37 ?_
      obtain ⟨g3, h⟩ := q_guard h
      refine q_iald (pc := 39) C kC_11 lC_11 g3 dX4_earliestDeed_39 ?_
      refine q_iload_n (pc := 40) C 3 rfl dX4_earliestDeed_40 rfl ?_
      refine q_ic_ge (pc := 41) C 58 dX4_earliestDeed_41 (by decide) (fun c4 => ?_) (fun c4 => ?_)
      · have h := q_t c4 h
        exact tX4_earliestDeed_58 C k8 hk8 _ _ _ _ _ _ h
      · have h := q_f c4 h
        refine q_iload (pc := 44) C 4 rfl dX4_earliestDeed_44 ?_
        refine q_istore_n (pc := 46) C dX4_earliestDeed_46 rfl (by decide) rfl ?_
        refine q_aload_n (pc := 47) C 1 rfl dX4_earliestDeed_47 rfl ?_
        refine q_getR (pc := 48) (t := 10) C fl_RX4_30 kC_0 rfl rC_0_3 dX4_earliestDeed_48 ?_
        refine q_getR (pc := 51) (t := 11) C fl_RX4_298 kC_10 rfl (rP_0 kC_10) dX4_earliestDeed_51 ?_
        refine q_iload (pc := 54) C 4 rfl dX4_earliestDeed_54 ?_
        obtain ⟨g5, h⟩ := q_guard h
        refine q_iald (pc := 56) C kC_11 lC_11 g5 dX4_earliestDeed_56 ?_
        refine q_istore_n (pc := 57) C dX4_earliestDeed_57 rfl (by decide) rfl ?_
        refine q_sub [2, 3, 1, 0, 4] rfl ?_
        exact tX4_earliestDeed_58 C k8 hk8 _ _ _ _ _ _ h
theorem tX4_earliestDeed_8 {X : qX} {G : qG} (C : qC sC X G RX4 cX4_earliestDeed 5 0 (some .int))  (σ : qM) (x1 : Int32) (x2 : Int32) (x3 : Int32) (x4 : Int32) (res : (Int32 × qM))  (h : fX4_earliestDeed_8  σ x1 x2 x3 x4 = some res) : qY sC X G 5 (q_Q sC X G (some (.int res.1)) res.2) σ 8 [(0, .ref (q_ad G 0)), (1, .int x1), (2, .int x2), (3, .int x3), (4, .int x4)] [] := by
  have key : ∀ (n : Nat) (σ : qM) (x1 : Int32) (x2 : Int32) (x3 : Int32) (x4 : Int32) (res : (Int32 × qM)) , qlp (fun _ _ _ _ _ => none) (bX4_earliestDeed_8 ) n σ x1 x2 x3 x4 = some res → qY sC X G 5 (q_Q sC X G (some (.int res.1)) res.2) σ 8 [(0, .ref (q_ad G 0)), (1, .int x1), (2, .int x2), (3, .int x3), (4, .int x4)] [] := by
    intro n
    induction n with
    | zero => intro σ x1 x2 x3 x4 res h; cases h
    | succ n ih => intro σ x1 x2 x3 x4 res h; exact uX4_earliestDeed_8 C  (qlp (fun _ _ _ _ _ => none) (bX4_earliestDeed_8 ) n) (fun σ x1 x2 x3 x4 res h => ih σ x1 x2 x3 x4 res h) σ x1 x2 x3 x4 res h
  exact key qFU σ x1 x2 x3 x4 res h
theorem zX4_earliestDeed {G : qG} {l : Launch} {σ : qM} {x1 : Int32} {res : (Int32 × qM)}  (h : fX4_earliestDeed σ x1 = some res) : qCon sC G l yX4_earliestDeed cX4_earliestDeed 5 (some .int) 0 [.ref (q_ad G 0), .int x1] σ (some (.int res.1)) res.2 := by
  refine qCon.mkF (lv := [(0, .ref (q_ad G 0)), (1, .int x1)]) (plainFor_of_name (by decide)) (Nat.le_of_ble_eq_true rfl) rfl (fun X hX C => ?_)
  unfold fX4_earliestDeed at h
  refine q_iconst (pc := 0) C dX4_earliestDeed_0 ci_m1 ?_
  refine q_istore_n (pc := 1) C dX4_earliestDeed_1 rfl (by decide) rfl ?_
  refine q_bipush (pc := 2) C dX4_earliestDeed_2 cb_28 ?_
  refine q_istore_n (pc := 4) C dX4_earliestDeed_4 rfl (by decide) rfl ?_
  refine q_iconst (pc := 5) C dX4_earliestDeed_5 ci_0 ?_
  refine q_istore (pc := 6) C dX4_earliestDeed_6 (by decide) rfl ?_
  refine q_sub [3, 4, 2, 1, 0] rfl ?_
  exact tX4_earliestDeed_8 C _ _ _ _ _ _ h
/-! X4_broken -/
theorem zX4_broken {G : qG} {l : Launch} {σ : qM} {x1 : Int32} {res : (Int32 × qM)}  (h : fX4_broken σ x1 = some res) : qCon sC G l yX4_broken cX4_broken 3 (some .int) 4 [.ref (q_ad G 0), .int x1] σ (some (.int res.1)) res.2 := by
  refine qCon.mkF (lv := [(0, .ref (q_ad G 0)), (1, .int x1)]) (plainFor_of_name (by decide)) (Nat.le_of_ble_eq_true rfl) rfl (fun X hX C => ?_)
  unfold fX4_broken at h
  refine q_iload_n (pc := 0) C 1 rfl dX4_broken_0 rfl ?_
  refine q_iconst (pc := 1) C dX4_broken_1 ci_2 ?_
  obtain ⟨q1, hq1, h⟩ := q_bind h
  refine q_callS1 (pc := 2) (st := []) C (zX4_below hq1) ys_X4_below ml_RX4_62 rfl (by decide) rfl (Nat.le_of_ble_eq_true rfl) dX4_broken_2 ?_
  refine q_if_ne (pc := 5) C 11 dX4_broken_5 (by decide) (fun c2 => ?_) (fun c2 => ?_)
  · have h := q_f c2 h
    refine q_aload_n (pc := 11) C 0 rfl dX4_broken_11 rfl ?_
    refine q_aload_n (pc := 12) C 0 rfl dX4_broken_12 rfl ?_
    refine q_getR (pc := 13) (t := 16) C fl_RX4_41 kC_0 rfl rC_0_5 dX4_broken_13 ?_
    obtain ⟨q3, hq3, h⟩ := q_bind h
    refine q_callV1 (pc := 16) (st := [.ref (q_ad G 0)]) C (zX0_settled hq3) yi_X0_settled ml_RX4_98 kC_16 rfl (by decide) rfl (Nat.le_of_ble_eq_true rfl) dX4_broken_16 ?_
    obtain ⟨q4, hq4, h⟩ := q_bind h
    refine q_callV1 (pc := 19) (st := []) C (zX4_brokenDeeds hq4) yi_X4_brokenDeeds ml_RX4_122 kC_0 rfl (by decide) rfl (Nat.le_of_ble_eq_true rfl) dX4_broken_19 ?_
    refine q_istore_n (pc := 22) C dX4_broken_22 rfl (by decide) rfl ?_
    refine q_iload_n (pc := 23) C 2 rfl dX4_broken_23 rfl ?_
    refine q_if_ne (pc := 24) C 31 dX4_broken_24 (by decide) (fun c5 => ?_) (fun c5 => ?_)
    · have h := q_f c5 h
      refine q_aload_n (pc := 31) C 1 rfl dX4_broken_31 rfl ?_
      refine q_iload_n (pc := 32) C 0 rfl dX4_broken_32 rfl ?_
      obtain ⟨q6, hq6, h⟩ := q_bind h
      refine q_callV1 (pc := 33) (st := []) C (zX4_earliestDeed hq6) yi_X4_earliestDeed ml_RX4_126 kC_0 rfl (by decide) rfl (Nat.le_of_ble_eq_true rfl) dX4_broken_33 ?_
      obtain rfl := Option.some.inj h
      exact q_iret (pc := 36) C dX4_broken_36
    · have h := q_t c5 h
      refine q_iload_n (pc := 27) C 0 rfl dX4_broken_27 rfl ?_
      refine q_goto (pc := 28) C 36 dX4_broken_28 (by decide) ?_
      obtain rfl := Option.some.inj h
      exact q_iret (pc := 36) C dX4_broken_36
  · have h := q_t c2 h
    refine q_bipush (pc := 8) C dX4_broken_8 cb_m2 ?_
    obtain rfl := Option.some.inj h
    exact q_iret (pc := 10) C dX4_broken_10
/-! X4_free -/
theorem tX4_free_53 {X : qX} {G : qG} (C : qC sC X G RX4 cX4_free 5 4 (some .int)) (k25 : qM → Int32 → Int32 → Int32 → Option (Int32 × qM)) (hk25 : ∀ (σ : qM) (x1 : Int32) (x3 : Int32) (x4 : Int32) (res : (Int32 × qM)), k25 σ x1 x3 x4 = some res → qY sC X G 5 (q_Q sC X G (some (.int res.1)) res.2) σ 25 [(0, .ref (q_ad G 0)), (1, .int x1), (2, .ref (q_ad G 16)), (3, .int x3), (4, .int x4)] []) (σ : qM) (x1 : Int32) (x3 : Int32) (x4 : Int32) (res : (Int32 × qM))  (h : fX4_free_53 k25 σ x1 x3 x4 = some res) : qY sC X G 5 (q_Q sC X G (some (.int res.1)) res.2) σ 53 [(0, .ref (q_ad G 0)), (1, .int x1), (2, .ref (q_ad G 16)), (3, .int x3), (4, .int x4)] [] := by
  unfold fX4_free_53 at h
  refine q_inc (pc := 53) C 4 rfl ci_1 dX4_free_53 (by decide) rfl ?_
  refine q_goto (pc := 56) C 25 dX4_free_56 (by decide) ?_
  refine q_sub [1, 2, 3, 4, 0] rfl ?_
  exact hk25 _ _ _ _ _ h
theorem uX4_free_25 {X : qX} {G : qG} (C : qC sC X G RX4 cX4_free 5 4 (some .int)) (k25 : qM → Int32 → Int32 → Int32 → Option (Int32 × qM)) (hk25 : ∀ (σ : qM) (x1 : Int32) (x3 : Int32) (x4 : Int32) (res : (Int32 × qM)), k25 σ x1 x3 x4 = some res → qY sC X G 5 (q_Q sC X G (some (.int res.1)) res.2) σ 25 [(0, .ref (q_ad G 0)), (1, .int x1), (2, .ref (q_ad G 16)), (3, .int x3), (4, .int x4)] []) (σ : qM) (x1 : Int32) (x3 : Int32) (x4 : Int32) (res : (Int32 × qM))  (h : bX4_free_25 k25 σ x1 x3 x4 = some res) : qY sC X G 5 (q_Q sC X G (some (.int res.1)) res.2) σ 25 [(0, .ref (q_ad G 0)), (1, .int x1), (2, .ref (q_ad G 16)), (3, .int x3), (4, .int x4)] [] := by
  unfold bX4_free_25 at h
  refine q_iload (pc := 25) C 4 rfl dX4_free_25 ?_
  refine q_bipush (pc := 27) C dX4_free_27 cb_28 ?_
  refine q_ic_ge (pc := 29) C 59 dX4_free_29 (by decide) (fun c1 => ?_) (fun c1 => ?_)
  · have h := q_t c1 h
    refine q_iload_n (pc := 59) C 3 rfl dX4_free_59 rfl ?_
    obtain rfl := Option.some.inj h
    exact q_iret (pc := 60) C dX4_free_60
  · have h := q_f c1 h
    refine q_aload_n (pc := 32) C 2 rfl dX4_free_32 rfl ?_
    refine q_aload_n (pc := 33) C 0 rfl dX4_free_33 rfl ?_
    refine q_iload (pc := 34) C 4 rfl dX4_free_34 ?_
    obtain ⟨q2, hq2, h⟩ := q_bind h
    refine q_callV1 (pc := 36) (st := [.ref (q_ad G 16)]) C (zX4_turnsOn hq2) yi_X4_turnsOn ml_RX4_119 kC_0 rfl (by decide) rfl (Nat.le_of_ble_eq_true rfl) dX4_free_36 ?_
    refine q_iload_n (pc := 39) C 1 rfl dX4_free_39 rfl ?_
    obtain ⟨q3, hq3, h⟩ := q_bind h
    refine q_callV1 (pc := 40) (st := []) C (zX0_isInForce hq3) yi_X0_isInForce ml_RX4_129 kC_16 rfl (by decide) rfl (Nat.le_of_ble_eq_true rfl) dX4_free_40 ?_
    refine q_if_ne (pc := 43) C 53 dX4_free_43 (by decide) (fun c4 => ?_) (fun c4 => ?_)
    · have h := q_f c4 h
      exact tX4_free_53 C k25 hk25 _ _ _ _ _ h
    · have h := q_t c4 h
      refine q_iload_n (pc := 46) C 3 rfl dX4_free_46 rfl ?_
      refine q_iconst (pc := 47) C dX4_free_47 ci_1 ?_
      refine q_iload (pc := 48) C 4 rfl dX4_free_48 ?_
      refine q_shl (pc := 50) C dX4_free_50 ?_
      refine q_ior (pc := 51) C dX4_free_51 ?_
      refine q_istore_n (pc := 52) C dX4_free_52 rfl (by decide) rfl ?_
      refine q_sub [1, 2, 3, 0, 4] rfl ?_
      exact tX4_free_53 C k25 hk25 _ _ _ _ _ h
theorem tX4_free_25 {X : qX} {G : qG} (C : qC sC X G RX4 cX4_free 5 4 (some .int))  (σ : qM) (x1 : Int32) (x3 : Int32) (x4 : Int32) (res : (Int32 × qM))  (h : fX4_free_25  σ x1 x3 x4 = some res) : qY sC X G 5 (q_Q sC X G (some (.int res.1)) res.2) σ 25 [(0, .ref (q_ad G 0)), (1, .int x1), (2, .ref (q_ad G 16)), (3, .int x3), (4, .int x4)] [] := by
  have key : ∀ (n : Nat) (σ : qM) (x1 : Int32) (x3 : Int32) (x4 : Int32) (res : (Int32 × qM)) , qlp (fun _ _ _ _ => none) (bX4_free_25 ) n σ x1 x3 x4 = some res → qY sC X G 5 (q_Q sC X G (some (.int res.1)) res.2) σ 25 [(0, .ref (q_ad G 0)), (1, .int x1), (2, .ref (q_ad G 16)), (3, .int x3), (4, .int x4)] [] := by
    intro n
    induction n with
    | zero => intro σ x1 x3 x4 res h; cases h
    | succ n ih => intro σ x1 x3 x4 res h; exact uX4_free_25 C  (qlp (fun _ _ _ _ => none) (bX4_free_25 ) n) (fun σ x1 x3 x4 res h => ih σ x1 x3 x4 res h) σ x1 x3 x4 res h
  exact key qFU σ x1 x3 x4 res h
theorem zX4_free {G : qG} {l : Launch} {σ : qM} {x1 : Int32} {res : (Int32 × qM)}  (h : fX4_free σ x1 = some res) : qCon sC G l yX4_free cX4_free 5 (some .int) 4 [.ref (q_ad G 0), .int x1] σ (some (.int res.1)) res.2 := by
  refine qCon.mkF (lv := [(0, .ref (q_ad G 0)), (1, .int x1)]) (plainFor_of_name (by decide)) (Nat.le_of_ble_eq_true rfl) rfl (fun X hX C => ?_)
  unfold fX4_free at h
  refine q_iload_n (pc := 0) C 1 rfl dX4_free_0 rfl ?_
  refine q_bipush (pc := 1) C dX4_free_1 cb_8 ?_
  obtain ⟨q1, hq1, h⟩ := q_bind h
  refine q_callS1 (pc := 3) (st := []) C (zX4_below hq1) ys_X4_below ml_RX4_62 rfl (by decide) rfl (Nat.le_of_ble_eq_true rfl) dX4_free_3 ?_
  refine q_if_ne (pc := 6) C 12 dX4_free_6 (by decide) (fun c2 => ?_) (fun c2 => ?_)
  · have h := q_f c2 h
    refine q_aload_n (pc := 12) C 0 rfl dX4_free_12 rfl ?_
    refine q_getR (pc := 13) (t := 16) C fl_RX4_41 kC_0 rfl rC_0_5 dX4_free_13 ?_
    obtain ⟨q3, hq3, h⟩ := q_bind h
    refine q_callV1 (pc := 16) (st := []) C (zX0_settled hq3) yi_X0_settled ml_RX4_98 kC_16 rfl (by decide) rfl (Nat.le_of_ble_eq_true rfl) dX4_free_16 ?_
    refine q_astore_n (pc := 19) C dX4_free_19 rfl (by decide) rfl ?_
    refine q_iconst (pc := 20) C dX4_free_20 ci_0 ?_
    refine q_istore_n (pc := 21) C dX4_free_21 rfl (by decide) rfl ?_
    refine q_iconst (pc := 22) C dX4_free_22 ci_0 ?_
    refine q_istore (pc := 23) C dX4_free_23 (by decide) rfl ?_
    refine q_sub [3, 4, 2, 1, 0] rfl ?_
    exact tX4_free_25 C _ _ _ _ _ h
  · have h := q_t c2 h
    refine q_bipush (pc := 9) C dX4_free_9 cb_m2 ?_
    obtain rfl := Option.some.inj h
    exact q_iret (pc := 11) C dX4_free_11
/-! X4_clash -/
theorem zX4_clash {G : qG} {l : Launch} {σ : qM} {x1 : Int32} {res : (Int32 × qM)}  (h : fX4_clash σ x1 = some res) : qCon sC G l yX4_clash cX4_clash 2 (some .int) 4 [.ref (q_ad G 0), .int x1] σ (some (.int res.1)) res.2 := by
  refine qCon.mkF (lv := [(0, .ref (q_ad G 0)), (1, .int x1)]) (plainFor_of_name (by decide)) (Nat.le_of_ble_eq_true rfl) rfl (fun X hX C => ?_)
  unfold fX4_clash at h
  refine q_iload_n (pc := 0) C 1 rfl dX4_clash_0 rfl ?_
  refine q_iconst (pc := 1) C dX4_clash_1 ci_4 ?_
  obtain ⟨q1, hq1, h⟩ := q_bind h
  refine q_callS1 (pc := 2) (st := []) C (zX4_below hq1) ys_X4_below ml_RX4_62 rfl (by decide) rfl (Nat.le_of_ble_eq_true rfl) dX4_clash_2 ?_
  refine q_if_eq (pc := 5) C 22 dX4_clash_5 (by decide) (fun c2 => ?_) (fun c2 => ?_)
  · have h := q_t c2 h
    refine q_bipush (pc := 22) C dX4_clash_22 cb_m2 ?_
    obtain rfl := Option.some.inj h
    exact q_iret (pc := 24) C dX4_clash_24
  · have h := q_f c2 h
    refine q_aload_n (pc := 8) C 0 rfl dX4_clash_8 rfl ?_
    refine q_getR (pc := 9) (t := 16) C fl_RX4_41 kC_0 rfl rC_0_5 dX4_clash_9 ?_
    obtain ⟨q3, hq3, h⟩ := q_bind h
    refine q_callV1 (pc := 12) (st := []) C (zX0_settled hq3) yi_X0_settled ml_RX4_98 kC_16 rfl (by decide) rfl (Nat.le_of_ble_eq_true rfl) dX4_clash_12 ?_
    refine q_iload_n (pc := 15) C 1 rfl dX4_clash_15 rfl ?_
    obtain ⟨q4, hq4, h⟩ := q_bind h
    refine q_callV1 (pc := 16) (st := []) C (zX0_firstClash hq4) yi_X0_firstClash ml_RX4_132 kC_16 rfl (by decide) rfl (Nat.le_of_ble_eq_true rfl) dX4_clash_16 ?_
    refine q_goto (pc := 19) C 24 dX4_clash_19 (by decide) ?_
    obtain rfl := Option.some.inj h
    exact q_iret (pc := 24) C dX4_clash_24
/-! X4_areLaws -/
theorem zX4_areLaws {G : qG} {l : Launch} {σ : qM} {x0 : Int32} {res : (Int32 × qM)}  (h : fX4_areLaws σ x0 = some res) : qCon sC G l yX4_areLaws cX4_areLaws 1 (some .boolean) 0 [.int x0] σ (some (.int res.1)) res.2 := by
  refine qCon.mkF (lv := [(0, .int x0)]) (plainFor_of_name (by decide)) (Nat.le_of_ble_eq_true rfl) rfl (fun X hX C => ?_)
  unfold fX4_areLaws at h
  refine q_iload_n (pc := 0) C 0 rfl dX4_areLaws_0 rfl ?_
  refine q_if_lt (pc := 1) C 15 dX4_areLaws_1 (by decide) (fun c1 => ?_) (fun c1 => ?_)
  · have h := q_t c1 h
    refine q_iconst (pc := 15) C dX4_areLaws_15 ci_0 ?_
    obtain rfl := Option.some.inj h
    exact q_zret (pc := 16) C (Or.inl rfl) dX4_areLaws_16
  · have h := q_f c1 h
    refine q_iload_n (pc := 4) C 0 rfl dX4_areLaws_4 rfl ?_
    refine q_sipush (pc := 5) C dX4_areLaws_5 cs_255 ?_
    refine q_ic_gt (pc := 8) C 15 dX4_areLaws_8 (by decide) (fun c2 => ?_) (fun c2 => ?_)
    · have h := q_t c2 h
      refine q_iconst (pc := 15) C dX4_areLaws_15 ci_0 ?_
      obtain rfl := Option.some.inj h
      exact q_zret (pc := 16) C (Or.inl rfl) dX4_areLaws_16
    · have h := q_f c2 h
      refine q_iconst (pc := 11) C dX4_areLaws_11 ci_1 ?_
      refine q_goto (pc := 12) C 16 dX4_areLaws_12 (by decide) ?_
      obtain rfl := Option.some.inj h
      exact q_zret (pc := 16) C (Or.inr rfl) dX4_areLaws_16
/-! X4_pour -/
theorem tX4_pour_75 {X : qX} {G : qG} (C : qC sC X G RX4 cX4_pour 8 4 (some .int)) (k27 : qM → Int32 → Int32 → Int32 → Int32 → Option (Int32 × qM)) (hk27 : ∀ (σ : qM) (x1 : Int32) (x3 : Int32) (x4 : Int32) (x5 : Int32) (res : (Int32 × qM)), k27 σ x1 x3 x4 x5 = some res → qY sC X G 8 (q_Q sC X G (some (.int res.1)) res.2) σ 27 [(1, .int x1), (2, .ref (q_ad G 16)), (3, .int x3), (4, .int x4), (5, .int x5)] []) (σ : qM) (x1 : Int32) (x3 : Int32) (x4 : Int32) (x5 : Int32) (res : (Int32 × qM))  (h : fX4_pour_75 k27 σ x1 x3 x4 x5 = some res) : qY sC X G 8 (q_Q sC X G (some (.int res.1)) res.2) σ 75 [(1, .int x1), (2, .ref (q_ad G 16)), (3, .int x3), (4, .int x4), (5, .int x5)] [] := by
  unfold fX4_pour_75 at h
  refine q_inc (pc := 75) C 4 rfl ci_1 dX4_pour_75 (by decide) rfl ?_
  refine q_goto (pc := 78) C 27 dX4_pour_78 (by decide) ?_
  refine q_sub [1, 2, 3, 4, 0] rfl ?_
  exact hk27 _ _ _ _ _ _ h
theorem tX4_pour_61 {X : qX} {G : qG} (C : qC sC X G RX4 cX4_pour 8 4 (some .int)) (k27 : qM → Int32 → Int32 → Int32 → Int32 → Option (Int32 × qM)) (hk27 : ∀ (σ : qM) (x1 : Int32) (x3 : Int32) (x4 : Int32) (x5 : Int32) (res : (Int32 × qM)), k27 σ x1 x3 x4 x5 = some res → qY sC X G 8 (q_Q sC X G (some (.int res.1)) res.2) σ 27 [(1, .int x1), (2, .ref (q_ad G 16)), (3, .int x3), (4, .int x4), (5, .int x5)] []) (σ : qM) (x1 : Int32) (x3 : Int32) (x4 : Int32) (x5 : Int32) (x7 : Int32) (res : (Int32 × qM))  (h : fX4_pour_61 k27 σ x1 x3 x4 x5 x7 = some res) : qY sC X G 8 (q_Q sC X G (some (.int res.1)) res.2) σ 61 [(1, .int x1), (2, .ref (q_ad G 16)), (3, .int x3), (4, .int x4), (5, .int x5), (7, .int x7)] [] := by
  unfold fX4_pour_61 at h
  refine q_iload (pc := 61) C 5 rfl dX4_pour_61 ?_
  refine q_iload (pc := 63) C 3 rfl dX4_pour_63 ?_
  refine q_ic_le (pc := 65) C 75 dX4_pour_65 (by decide) (fun c1 => ?_) (fun c1 => ?_)
  · have h := q_t c1 h
    refine q_sub [0, 1, 2, 3, 4] rfl ?_
    exact tX4_pour_75 C k27 hk27 _ _ _ _ _ _ h
  · have h := q_f c1 h
    refine q_iload (pc := 68) C 5 rfl dX4_pour_68 ?_
    refine q_istore (pc := 70) C dX4_pour_70 (by decide) rfl ?_
    refine q_iload (pc := 72) C 4 rfl dX4_pour_72 ?_
    refine q_istore_n (pc := 74) C dX4_pour_74 rfl (by decide) rfl ?_
    refine q_sub [2, 3, 0, 1, 4] rfl ?_
    exact tX4_pour_75 C k27 hk27 _ _ _ _ _ _ h
theorem tX4_pour_42 {X : qX} {G : qG} (C : qC sC X G RX4 cX4_pour 8 4 (some .int)) (k27 : qM → Int32 → Int32 → Int32 → Int32 → Option (Int32 × qM)) (hk27 : ∀ (σ : qM) (x1 : Int32) (x3 : Int32) (x4 : Int32) (x5 : Int32) (res : (Int32 × qM)), k27 σ x1 x3 x4 x5 = some res → qY sC X G 8 (q_Q sC X G (some (.int res.1)) res.2) σ 27 [(1, .int x1), (2, .ref (q_ad G 16)), (3, .int x3), (4, .int x4), (5, .int x5)] []) (σ : qM) (x1 : Int32) (x3 : Int32) (x4 : Int32) (x5 : Int32) (x6 : Int32) (res : (Int32 × qM))  (h : fX4_pour_42 k27 σ x1 x3 x4 x5 x6 = some res) : qY sC X G 8 (q_Q sC X G (some (.int res.1)) res.2) σ 42 [(1, .int x1), (2, .ref (q_ad G 16)), (3, .int x3), (4, .int x4), (5, .int x5), (6, .int x6)] [] := by
  unfold fX4_pour_42 at h
  refine q_iload (pc := 42) C 5 rfl dX4_pour_42 ?_
  refine q_iload_n (pc := 44) C 0 rfl dX4_pour_44 rfl ?_
  refine q_iand (pc := 45) C dX4_pour_45 ?_
  obtain ⟨q1, hq1, h⟩ := q_bind h
  refine q_callS1 (pc := 46) (st := []) C (zJ6_bitCount_0f7a4 hq1) ys_J6_bitCount_0f7a4 ml_RX4_139 rfl (by decide) rfl (Nat.le_of_ble_eq_true rfl) dX4_pour_46 ?_
  refine q_iload (pc := 49) C 5 rfl dX4_pour_49 ?_
  refine q_iload_n (pc := 51) C 0 rfl dX4_pour_51 rfl ?_
  refine q_iconst (pc := 52) C dX4_pour_52 ci_m1 ?_
  refine q_ixor (pc := 53) C dX4_pour_53 ?_
  refine q_iand (pc := 54) C dX4_pour_54 ?_
  obtain ⟨q2, hq2, h⟩ := q_bind h
  refine q_callS1 (pc := 55) (st := [.int q1.1]) C (zJ6_bitCount_0f7a4 hq2) ys_J6_bitCount_0f7a4 ml_RX4_139 rfl (by decide) rfl (Nat.le_of_ble_eq_true rfl) dX4_pour_55 ?_
  refine q_isub (pc := 58) C dX4_pour_58 ?_
  refine q_istore (pc := 59) C dX4_pour_59 (by decide) rfl ?_
  refine q_sub [1, 2, 3, 4, 5, 0] rfl ?_
  exact tX4_pour_61 C k27 hk27 _ _ _ _ _ _ _ h
theorem uX4_pour_27 {X : qX} {G : qG} (C : qC sC X G RX4 cX4_pour 8 4 (some .int)) (k27 : qM → Int32 → Int32 → Int32 → Int32 → Option (Int32 × qM)) (hk27 : ∀ (σ : qM) (x1 : Int32) (x3 : Int32) (x4 : Int32) (x5 : Int32) (res : (Int32 × qM)), k27 σ x1 x3 x4 x5 = some res → qY sC X G 8 (q_Q sC X G (some (.int res.1)) res.2) σ 27 [(1, .int x1), (2, .ref (q_ad G 16)), (3, .int x3), (4, .int x4), (5, .int x5)] []) (σ : qM) (x1 : Int32) (x3 : Int32) (x4 : Int32) (x5 : Int32) (res : (Int32 × qM))  (h : bX4_pour_27 k27 σ x1 x3 x4 x5 = some res) : qY sC X G 8 (q_Q sC X G (some (.int res.1)) res.2) σ 27 [(1, .int x1), (2, .ref (q_ad G 16)), (3, .int x3), (4, .int x4), (5, .int x5)] [] := by
  unfold bX4_pour_27 at h
  refine q_iload (pc := 27) C 4 rfl dX4_pour_27 ?_
  refine q_iconst (pc := 29) C dX4_pour_29 ci_4 ?_
  refine q_ic_ge (pc := 30) C 81 dX4_pour_30 (by decide) (fun c1 => ?_) (fun c1 => ?_)
  · have h := q_t c1 h
    refine q_iload_n (pc := 81) C 2 rfl dX4_pour_81 rfl ?_
    obtain rfl := Option.some.inj h
    exact q_iret (pc := 82) C dX4_pour_82
  · have h := q_f c1 h
    refine q_aload_n (pc := 33) C 1 rfl dX4_pour_33 rfl ?_
    refine q_getR (pc := 34) (t := 29) C fl_RX4_116 kC_16 rfl rC_16_7 dX4_pour_34 ?_
    refine q_iload (pc := 37) C 4 rfl dX4_pour_37 ?_
    obtain ⟨g2, h⟩ := q_guard h
    refine q_iald (pc := 39) C kC_29 lC_29 g2 dX4_pour_39 ?_
    refine q_istore (pc := 40) C dX4_pour_40 (by decide) rfl ?_
    refine q_sub [1, 2, 3, 4, 5, 0] rfl ?_
    exact tX4_pour_42 C k27 hk27 _ _ _ _ _ _ _ h
theorem tX4_pour_27 {X : qX} {G : qG} (C : qC sC X G RX4 cX4_pour 8 4 (some .int))  (σ : qM) (x1 : Int32) (x3 : Int32) (x4 : Int32) (x5 : Int32) (res : (Int32 × qM))  (h : fX4_pour_27  σ x1 x3 x4 x5 = some res) : qY sC X G 8 (q_Q sC X G (some (.int res.1)) res.2) σ 27 [(1, .int x1), (2, .ref (q_ad G 16)), (3, .int x3), (4, .int x4), (5, .int x5)] [] := by
  have key : ∀ (n : Nat) (σ : qM) (x1 : Int32) (x3 : Int32) (x4 : Int32) (x5 : Int32) (res : (Int32 × qM)) , qlp (fun _ _ _ _ _ => none) (bX4_pour_27 ) n σ x1 x3 x4 x5 = some res → qY sC X G 8 (q_Q sC X G (some (.int res.1)) res.2) σ 27 [(1, .int x1), (2, .ref (q_ad G 16)), (3, .int x3), (4, .int x4), (5, .int x5)] [] := by
    intro n
    induction n with
    | zero => intro σ x1 x3 x4 x5 res h; cases h
    | succ n ih => intro σ x1 x3 x4 x5 res h; exact uX4_pour_27 C  (qlp (fun _ _ _ _ _ => none) (bX4_pour_27 ) n) (fun σ x1 x3 x4 x5 res h => ih σ x1 x3 x4 x5 res h) σ x1 x3 x4 x5 res h
  exact key qFU σ x1 x3 x4 x5 res h
theorem zX4_pour {G : qG} {l : Launch} {σ : qM} {x1 : Int32} {res : (Int32 × qM)}  (h : fX4_pour σ x1 = some res) : qCon sC G l yX4_pour cX4_pour 8 (some .int) 4 [.ref (q_ad G 0), .int x1] σ (some (.int res.1)) res.2 := by
  refine qCon.mkF (lv := [(0, .ref (q_ad G 0)), (1, .int x1)]) (plainFor_of_name (by decide)) (Nat.le_of_ble_eq_true rfl) rfl (fun X hX C => ?_)
  unfold fX4_pour at h
  refine q_iload_n (pc := 0) C 1 rfl dX4_pour_0 rfl ?_
  obtain ⟨q1, hq1, h⟩ := q_bind h
  refine q_callS1 (pc := 1) (st := []) C (zX4_areLaws hq1) ys_X4_areLaws ml_RX4_135 rfl (by decide) rfl (Nat.le_of_ble_eq_true rfl) dX4_pour_1 ?_
  refine q_if_ne (pc := 4) C 10 dX4_pour_4 (by decide) (fun c2 => ?_) (fun c2 => ?_)
  · have h := q_f c2 h
    refine q_aload_n (pc := 10) C 0 rfl dX4_pour_10 rfl ?_
    refine q_getR (pc := 11) (t := 16) C fl_RX4_41 kC_0 rfl rC_0_5 dX4_pour_11 ?_
    obtain ⟨q3, hq3, h⟩ := q_bind h
    refine q_callV1 (pc := 14) (st := []) C (zX0_settled hq3) yi_X0_settled ml_RX4_98 kC_16 rfl (by decide) rfl (Nat.le_of_ble_eq_true rfl) dX4_pour_14 ?_
    refine q_astore_n (pc := 17) C dX4_pour_17 rfl (by decide) rfl ?_
    refine q_iconst (pc := 18) C dX4_pour_18 ci_0 ?_
    refine q_istore_n (pc := 19) C dX4_pour_19 rfl (by decide) rfl ?_
    refine q_bipush (pc := 20) C dX4_pour_20 cb_m9 ?_
    refine q_istore (pc := 22) C dX4_pour_22 (by decide) rfl ?_
    refine q_iconst (pc := 24) C dX4_pour_24 ci_0 ?_
    refine q_istore (pc := 25) C dX4_pour_25 (by decide) rfl ?_
    refine q_sub [5, 3, 2, 1, 0] rfl ?_
    exact tX4_pour_27 C _ _ _ _ _ _ h
  · have h := q_t c2 h
    refine q_bipush (pc := 7) C dX4_pour_7 cb_m2 ?_
    obtain rfl := Option.some.inj h
    exact q_iret (pc := 9) C dX4_pour_9
/-! X4_howManyOrBits -/
theorem tX4_howManyOrBits_10 {X : qX} {G : qG} (C : qC sC X G RX4 cX4_howManyOrBits 2 1 (some .int))  (σ : qM) (x0 : Int32) (res : (Int32 × qM))  (h : fX4_howManyOrBits_10  σ x0 = some res) : qY sC X G 2 (q_Q sC X G (some (.int res.1)) res.2) σ 10 [(0, .int x0)] [] := by
  unfold fX4_howManyOrBits_10 at h
  refine q_iload_n (pc := 10) C 0 rfl dX4_howManyOrBits_10 rfl ?_
  refine q_goto (pc := 11) C 18 dX4_howManyOrBits_11 (by decide) ?_
  obtain rfl := Option.some.inj h
  exact q_iret (pc := 18) C dX4_howManyOrBits_18
theorem zX4_howManyOrBits {G : qG} {l : Launch} {σ : qM} {x0 : Int32} {x1 : Int32} {res : (Int32 × qM)}  (h : fX4_howManyOrBits σ x0 x1 = some res) : qCon sC G l yX4_howManyOrBits cX4_howManyOrBits 2 (some .int) 1 [.int x0, .int x1] σ (some (.int res.1)) res.2 := by
  refine qCon.mkF (lv := [(0, .int x0), (1, .int x1)]) (plainFor_of_name (by decide)) (Nat.le_of_ble_eq_true rfl) rfl (fun X hX C => ?_)
  unfold fX4_howManyOrBits at h
  refine q_iload_n (pc := 0) C 0 rfl dX4_howManyOrBits_0 rfl ?_
  refine q_iconst (pc := 1) C dX4_howManyOrBits_1 ci_m1 ?_
  refine q_ic_eq (pc := 2) C 10 dX4_howManyOrBits_2 (by decide) (fun c1 => ?_) (fun c1 => ?_)
  · have h := q_t c1 h
    refine q_sub [0] rfl ?_
    exact tX4_howManyOrBits_10 C _ _ _ h
  · have h := q_f c1 h
    refine q_iload_n (pc := 5) C 1 rfl dX4_howManyOrBits_5 rfl ?_
    refine q_iconst (pc := 6) C dX4_howManyOrBits_6 ci_1 ?_
    refine q_ic_ne (pc := 7) C 14 dX4_howManyOrBits_7 (by decide) (fun c2 => ?_) (fun c2 => ?_)
    · have h := q_f c2 h
      refine q_iload_n (pc := 14) C 0 rfl dX4_howManyOrBits_14 rfl ?_
      obtain ⟨q3, hq3, h⟩ := q_bind h
      refine q_callS1 (pc := 15) (st := []) C (zJ6_bitCount_0f7a4 hq3) ys_J6_bitCount_0f7a4 ml_RX4_139 rfl (by decide) rfl (Nat.le_of_ble_eq_true rfl) dX4_howManyOrBits_15 ?_
      obtain rfl := Option.some.inj h
      exact q_iret (pc := 18) C dX4_howManyOrBits_18
    · have h := q_t c2 h
      refine q_sub [0] rfl ?_
      exact tX4_howManyOrBits_10 C _ _ _ h
/-! X4_strain -/
theorem zX4_strain {G : qG} {l : Launch} {σ : qM} {x1 : Int32} {x2 : Int32} {x3 : Int32} {x4 : Int32} {res : (Int32 × qM)}  (h : fX4_strain σ x1 x2 x3 x4 = some res) : qCon sC G l yX4_strain cX4_strain 5 (some .int) 4 [.ref (q_ad G 0), .int x1, .int x2, .int x3, .int x4] σ (some (.int res.1)) res.2 := by
  refine qCon.mkF (lv := [(0, .ref (q_ad G 0)), (1, .int x1), (2, .int x2), (3, .int x3), (4, .int x4)]) (plainFor_of_name (by decide)) (Nat.le_of_ble_eq_true rfl) rfl (fun X hX C => ?_)
  unfold fX4_strain at h
  refine q_iload_n (pc := 0) C 1 rfl dX4_strain_0 rfl ?_
  refine q_iconst (pc := 1) C dX4_strain_1 ci_4 ?_
  obtain ⟨q1, hq1, h⟩ := q_bind h
  refine q_callS1 (pc := 2) (st := []) C (zX4_below hq1) ys_X4_below ml_RX4_62 rfl (by decide) rfl (Nat.le_of_ble_eq_true rfl) dX4_strain_2 ?_
  refine q_if_eq (pc := 5) C 37 dX4_strain_5 (by decide) (fun c2 => ?_) (fun c2 => ?_)
  · have h := q_t c2 h
    refine q_bipush (pc := 37) C dX4_strain_37 cb_m2 ?_
    obtain rfl := Option.some.inj h
    exact q_iret (pc := 39) C dX4_strain_39
  · have h := q_f c2 h
    refine q_iload_n (pc := 8) C 2 rfl dX4_strain_8 rfl ?_
    obtain ⟨q3, hq3, h⟩ := q_bind h
    refine q_callS1 (pc := 9) (st := []) C (zX4_areLaws hq3) ys_X4_areLaws ml_RX4_135 rfl (by decide) rfl (Nat.le_of_ble_eq_true rfl) dX4_strain_9 ?_
    refine q_if_eq (pc := 12) C 37 dX4_strain_12 (by decide) (fun c4 => ?_) (fun c4 => ?_)
    · have h := q_t c4 h
      refine q_bipush (pc := 37) C dX4_strain_37 cb_m2 ?_
      obtain rfl := Option.some.inj h
      exact q_iret (pc := 39) C dX4_strain_39
    · have h := q_f c4 h
      refine q_iload_n (pc := 15) C 3 rfl dX4_strain_15 rfl ?_
      obtain ⟨q5, hq5, h⟩ := q_bind h
      refine q_callS1 (pc := 16) (st := []) C (zX4_areLaws hq5) ys_X4_areLaws ml_RX4_135 rfl (by decide) rfl (Nat.le_of_ble_eq_true rfl) dX4_strain_16 ?_
      refine q_if_eq (pc := 19) C 37 dX4_strain_19 (by decide) (fun c6 => ?_) (fun c6 => ?_)
      · have h := q_t c6 h
        refine q_bipush (pc := 37) C dX4_strain_37 cb_m2 ?_
        obtain rfl := Option.some.inj h
        exact q_iret (pc := 39) C dX4_strain_39
      · have h := q_f c6 h
        refine q_iload_n (pc := 22) C 2 rfl dX4_strain_22 rfl ?_
        refine q_iload_n (pc := 23) C 3 rfl dX4_strain_23 rfl ?_
        refine q_iand (pc := 24) C dX4_strain_24 ?_
        refine q_if_ne (pc := 25) C 37 dX4_strain_25 (by decide) (fun c7 => ?_) (fun c7 => ?_)
        · have h := q_f c7 h
          refine q_bipush (pc := 37) C dX4_strain_37 cb_m2 ?_
          obtain rfl := Option.some.inj h
          exact q_iret (pc := 39) C dX4_strain_39
        · have h := q_t c7 h
          refine q_iload (pc := 28) C 4 rfl dX4_strain_28 ?_
          refine q_iconst (pc := 30) C dX4_strain_30 ci_2 ?_
          obtain ⟨q8, hq8, h⟩ := q_bind h
          refine q_callS1 (pc := 31) (st := []) C (zX4_below hq8) ys_X4_below ml_RX4_62 rfl (by decide) rfl (Nat.le_of_ble_eq_true rfl) dX4_strain_31 ?_
          refine q_if_ne (pc := 34) C 40 dX4_strain_34 (by decide) (fun c9 => ?_) (fun c9 => ?_)
          · have h := q_f c9 h
            refine q_aload_n (pc := 40) C 0 rfl dX4_strain_40 rfl ?_
            refine q_getR (pc := 41) (t := 16) C fl_RX4_41 kC_0 rfl rC_0_5 dX4_strain_41 ?_
            obtain ⟨q10, hq10, h⟩ := q_bind h
            refine q_callV1 (pc := 44) (st := []) C (zX0_settled hq10) yi_X0_settled ml_RX4_98 kC_16 rfl (by decide) rfl (Nat.le_of_ble_eq_true rfl) dX4_strain_44 ?_
            refine q_iload_n (pc := 47) C 1 rfl dX4_strain_47 rfl ?_
            refine q_iload_n (pc := 48) C 2 rfl dX4_strain_48 rfl ?_
            refine q_iload_n (pc := 49) C 3 rfl dX4_strain_49 rfl ?_
            obtain ⟨q11, hq11, h⟩ := q_bind h
            refine q_callV1 (pc := 50) (st := []) C (zX0_fewestLeavesOut hq11) yi_X0_fewestLeavesOut ml_RX4_144 kC_16 rfl (by decide) rfl (Nat.le_of_ble_eq_true rfl) dX4_strain_50 ?_
            refine q_iload (pc := 53) C 4 rfl dX4_strain_53 ?_
            obtain ⟨q12, hq12, h⟩ := q_bind h
            refine q_callS1 (pc := 55) (st := []) C (zX4_howManyOrBits hq12) ys_X4_howManyOrBits ml_RX4_148 rfl (by decide) rfl (Nat.le_of_ble_eq_true rfl) dX4_strain_55 ?_
            obtain rfl := Option.some.inj h
            exact q_iret (pc := 58) C dX4_strain_58
          · have h := q_t c9 h
            refine q_bipush (pc := 37) C dX4_strain_37 cb_m2 ?_
            obtain rfl := Option.some.inj h
            exact q_iret (pc := 39) C dX4_strain_39
/-! X4_strike -/
theorem zX4_strike {G : qG} {l : Launch} {σ : qM} {x1 : Int32} {x2 : Int32} {x3 : Int32} {res : (Int32 × qM)}  (h : fX4_strike σ x1 x2 x3 = some res) : qCon sC G l yX4_strike cX4_strike 4 (some .int) 4 [.ref (q_ad G 0), .int x1, .int x2, .int x3] σ (some (.int res.1)) res.2 := by
  refine qCon.mkF (lv := [(0, .ref (q_ad G 0)), (1, .int x1), (2, .int x2), (3, .int x3)]) (plainFor_of_name (by decide)) (Nat.le_of_ble_eq_true rfl) rfl (fun X hX C => ?_)
  unfold fX4_strike at h
  refine q_iload_n (pc := 0) C 1 rfl dX4_strike_0 rfl ?_
  refine q_iconst (pc := 1) C dX4_strike_1 ci_4 ?_
  obtain ⟨q1, hq1, h⟩ := q_bind h
  refine q_callS1 (pc := 2) (st := []) C (zX4_below hq1) ys_X4_below ml_RX4_62 rfl (by decide) rfl (Nat.le_of_ble_eq_true rfl) dX4_strike_2 ?_
  refine q_if_eq (pc := 5) C 23 dX4_strike_5 (by decide) (fun c2 => ?_) (fun c2 => ?_)
  · have h := q_t c2 h
    refine q_bipush (pc := 23) C dX4_strike_23 cb_m2 ?_
    obtain rfl := Option.some.inj h
    exact q_iret (pc := 25) C dX4_strike_25
  · have h := q_f c2 h
    refine q_iload_n (pc := 8) C 2 rfl dX4_strike_8 rfl ?_
    obtain ⟨q3, hq3, h⟩ := q_bind h
    refine q_callS1 (pc := 9) (st := []) C (zX4_areLaws hq3) ys_X4_areLaws ml_RX4_135 rfl (by decide) rfl (Nat.le_of_ble_eq_true rfl) dX4_strike_9 ?_
    refine q_if_eq (pc := 12) C 23 dX4_strike_12 (by decide) (fun c4 => ?_) (fun c4 => ?_)
    · have h := q_t c4 h
      refine q_bipush (pc := 23) C dX4_strike_23 cb_m2 ?_
      obtain rfl := Option.some.inj h
      exact q_iret (pc := 25) C dX4_strike_25
    · have h := q_f c4 h
      refine q_iload_n (pc := 15) C 3 rfl dX4_strike_15 rfl ?_
      refine q_iconst (pc := 16) C dX4_strike_16 ci_2 ?_
      obtain ⟨q5, hq5, h⟩ := q_bind h
      refine q_callS1 (pc := 17) (st := []) C (zX4_below hq5) ys_X4_below ml_RX4_62 rfl (by decide) rfl (Nat.le_of_ble_eq_true rfl) dX4_strike_17 ?_
      refine q_if_ne (pc := 20) C 26 dX4_strike_20 (by decide) (fun c6 => ?_) (fun c6 => ?_)
      · have h := q_f c6 h
        refine q_aload_n (pc := 26) C 0 rfl dX4_strike_26 rfl ?_
        refine q_getR (pc := 27) (t := 16) C fl_RX4_41 kC_0 rfl rC_0_5 dX4_strike_27 ?_
        obtain ⟨q7, hq7, h⟩ := q_bind h
        refine q_callV1 (pc := 30) (st := []) C (zX0_settled hq7) yi_X0_settled ml_RX4_98 kC_16 rfl (by decide) rfl (Nat.le_of_ble_eq_true rfl) dX4_strike_30 ?_
        refine q_iload_n (pc := 33) C 1 rfl dX4_strike_33 rfl ?_
        refine q_iload_n (pc := 34) C 2 rfl dX4_strike_34 rfl ?_
        obtain ⟨q8, hq8, h⟩ := q_bind h
        refine q_callV1 (pc := 35) (st := []) C (zX0_fewestRulesStruck hq8) yi_X0_fewestRulesStruck ml_RX4_151 kC_16 rfl (by decide) rfl (Nat.le_of_ble_eq_true rfl) dX4_strike_35 ?_
        refine q_iload_n (pc := 38) C 3 rfl dX4_strike_38 rfl ?_
        obtain ⟨q9, hq9, h⟩ := q_bind h
        refine q_callS1 (pc := 39) (st := []) C (zX4_howManyOrBits hq9) ys_X4_howManyOrBits ml_RX4_148 rfl (by decide) rfl (Nat.le_of_ble_eq_true rfl) dX4_strike_39 ?_
        obtain rfl := Option.some.inj h
        exact q_iret (pc := 42) C dX4_strike_42
      · have h := q_t c6 h
        refine q_bipush (pc := 23) C dX4_strike_23 cb_m2 ?_
        obtain rfl := Option.some.inj h
        exact q_iret (pc := 25) C dX4_strike_25
/-! X4_place -/
theorem zX4_place {G : qG} {l : Launch} {σ : qM} {x1 : Int32} {x2 : Int32} {res : (Int32 × qM)}  (h : fX4_place σ x1 x2 = some res) : qCon sC G l yX4_place cX4_place 3 (some .int) 4 [.ref (q_ad G 0), .int x1, .int x2] σ (some (.int res.1)) res.2 := by
  refine qCon.mkF (lv := [(0, .ref (q_ad G 0)), (1, .int x1), (2, .int x2)]) (plainFor_of_name (by decide)) (Nat.le_of_ble_eq_true rfl) rfl (fun X hX C => ?_)
  unfold fX4_place at h
  refine q_iload_n (pc := 0) C 1 rfl dX4_place_0 rfl ?_
  refine q_iconst (pc := 1) C dX4_place_1 ci_4 ?_
  obtain ⟨q1, hq1, h⟩ := q_bind h
  refine q_callS1 (pc := 2) (st := []) C (zX4_below hq1) ys_X4_below ml_RX4_62 rfl (by decide) rfl (Nat.le_of_ble_eq_true rfl) dX4_place_2 ?_
  refine q_if_eq (pc := 5) C 32 dX4_place_5 (by decide) (fun c2 => ?_) (fun c2 => ?_)
  · have h := q_t c2 h
    refine q_bipush (pc := 32) C dX4_place_32 cb_m2 ?_
    obtain rfl := Option.some.inj h
    exact q_iret (pc := 34) C dX4_place_34
  · have h := q_f c2 h
    refine q_iload_n (pc := 8) C 2 rfl dX4_place_8 rfl ?_
    refine q_bipush (pc := 9) C dX4_place_9 cb_8 ?_
    obtain ⟨q3, hq3, h⟩ := q_bind h
    refine q_callS1 (pc := 11) (st := []) C (zX4_below hq3) ys_X4_below ml_RX4_62 rfl (by decide) rfl (Nat.le_of_ble_eq_true rfl) dX4_place_11 ?_
    refine q_if_eq (pc := 14) C 32 dX4_place_14 (by decide) (fun c4 => ?_) (fun c4 => ?_)
    · have h := q_t c4 h
      refine q_bipush (pc := 32) C dX4_place_32 cb_m2 ?_
      obtain rfl := Option.some.inj h
      exact q_iret (pc := 34) C dX4_place_34
    · have h := q_f c4 h
      refine q_aload_n (pc := 17) C 0 rfl dX4_place_17 rfl ?_
      refine q_getR (pc := 18) (t := 16) C fl_RX4_41 kC_0 rfl rC_0_5 dX4_place_18 ?_
      obtain ⟨q5, hq5, h⟩ := q_bind h
      refine q_callV1 (pc := 21) (st := []) C (zX0_settled hq5) yi_X0_settled ml_RX4_98 kC_16 rfl (by decide) rfl (Nat.le_of_ble_eq_true rfl) dX4_place_21 ?_
      refine q_iload_n (pc := 24) C 1 rfl dX4_place_24 rfl ?_
      refine q_iload_n (pc := 25) C 2 rfl dX4_place_25 rfl ?_
      obtain ⟨q6, hq6, h⟩ := q_bind h
      refine q_callV1 (pc := 26) (st := []) C (zX0_leastLeafThatChanges hq6) yi_X0_leastLeafThatChanges ml_RX4_154 kC_16 rfl (by decide) rfl (Nat.le_of_ble_eq_true rfl) dX4_place_26 ?_
      refine q_goto (pc := 29) C 34 dX4_place_29 (by decide) ?_
      obtain rfl := Option.some.inj h
      exact q_iret (pc := 34) C dX4_place_34
/-! X4_sides -/
theorem zX4_sides {G : qG} {l : Launch} {σ : qM} {x1 : Int32} {x2 : Int32} {res : (Int32 × qM)}  (h : fX4_sides σ x1 x2 = some res) : qCon sC G l yX4_sides cX4_sides 4 (some .int) 4 [.ref (q_ad G 0), .int x1, .int x2] σ (some (.int res.1)) res.2 := by
  refine qCon.mkF (lv := [(0, .ref (q_ad G 0)), (1, .int x1), (2, .int x2)]) (plainFor_of_name (by decide)) (Nat.le_of_ble_eq_true rfl) rfl (fun X hX C => ?_)
  unfold fX4_sides at h
  refine q_iload_n (pc := 0) C 1 rfl dX4_sides_0 rfl ?_
  refine q_bipush (pc := 1) C dX4_sides_1 cb_8 ?_
  obtain ⟨q1, hq1, h⟩ := q_bind h
  refine q_callS1 (pc := 3) (st := []) C (zX4_below hq1) ys_X4_below ml_RX4_62 rfl (by decide) rfl (Nat.le_of_ble_eq_true rfl) dX4_sides_3 ?_
  refine q_if_eq (pc := 6) C 17 dX4_sides_6 (by decide) (fun c2 => ?_) (fun c2 => ?_)
  · have h := q_t c2 h
    refine q_bipush (pc := 17) C dX4_sides_17 cb_m2 ?_
    obtain rfl := Option.some.inj h
    exact q_iret (pc := 19) C dX4_sides_19
  · have h := q_f c2 h
    refine q_iload_n (pc := 9) C 2 rfl dX4_sides_9 rfl ?_
    refine q_iconst (pc := 10) C dX4_sides_10 ci_2 ?_
    obtain ⟨q3, hq3, h⟩ := q_bind h
    refine q_callS1 (pc := 11) (st := []) C (zX4_below hq3) ys_X4_below ml_RX4_62 rfl (by decide) rfl (Nat.le_of_ble_eq_true rfl) dX4_sides_11 ?_
    refine q_if_ne (pc := 14) C 20 dX4_sides_14 (by decide) (fun c4 => ?_) (fun c4 => ?_)
    · have h := q_f c4 h
      refine q_aload_n (pc := 20) C 0 rfl dX4_sides_20 rfl ?_
      refine q_getR (pc := 21) (t := 16) C fl_RX4_41 kC_0 rfl rC_0_5 dX4_sides_21 ?_
      obtain ⟨q5, hq5, h⟩ := q_bind h
      refine q_callV1 (pc := 24) (st := []) C (zX0_settled hq5) yi_X0_settled ml_RX4_98 kC_16 rfl (by decide) rfl (Nat.le_of_ble_eq_true rfl) dX4_sides_24 ?_
      refine q_iload_n (pc := 27) C 1 rfl dX4_sides_27 rfl ?_
      obtain ⟨q6, hq6, h⟩ := q_bind h
      refine q_callV1 (pc := 28) (st := []) C (zX0_turnsThatHold hq6) yi_X0_turnsThatHold ml_RX4_157 kC_16 rfl (by decide) rfl (Nat.le_of_ble_eq_true rfl) dX4_sides_28 ?_
      refine q_istore_n (pc := 31) C dX4_sides_31 rfl (by decide) rfl ?_
      refine q_iload_n (pc := 32) C 3 rfl dX4_sides_32 rfl ?_
      refine q_iconst (pc := 33) C dX4_sides_33 ci_1 ?_
      refine q_ic_ne (pc := 34) C 39 dX4_sides_34 (by decide) (fun c7 => ?_) (fun c7 => ?_)
      · have h := q_f c7 h
        refine q_iload_n (pc := 39) C 0 rfl dX4_sides_39 rfl ?_
        refine q_iconst (pc := 40) C dX4_sides_40 ci_m1 ?_
        refine q_ic_ne (pc := 41) C 48 dX4_sides_41 (by decide) (fun c8 => ?_) (fun c8 => ?_)
        · have h := q_f c8 h
          refine q_iconst (pc := 48) C dX4_sides_48 ci_1 ?_
          obtain rfl := Option.some.inj h
          exact q_iret (pc := 49) C dX4_sides_49
        · have h := q_t c8 h
          refine q_iconst (pc := 44) C dX4_sides_44 ci_0 ?_
          refine q_goto (pc := 45) C 49 dX4_sides_45 (by decide) ?_
          obtain rfl := Option.some.inj h
          exact q_iret (pc := 49) C dX4_sides_49
      · have h := q_t c7 h
        refine q_iload_n (pc := 37) C 0 rfl dX4_sides_37 rfl ?_
        obtain rfl := Option.some.inj h
        exact q_iret (pc := 38) C dX4_sides_38
    · have h := q_t c4 h
      refine q_bipush (pc := 17) C dX4_sides_17 cb_m2 ?_
      obtain rfl := Option.some.inj h
      exact q_iret (pc := 19) C dX4_sides_19
/-! X4_read -/
theorem zX4_read {G : qG} {l : Launch} {σ : qM} {x1 : Int32} {x2 : Int32} {res : (Int32 × qM)}  (h : fX4_read σ x1 x2 = some res) : qCon sC G l yX4_read cX4_read 3 (some .int) 1 [.ref (q_ad G 0), .int x1, .int x2] σ (some (.int res.1)) res.2 := by
  refine qCon.mkF (lv := [(0, .ref (q_ad G 0)), (1, .int x1), (2, .int x2)]) (plainFor_of_name (by decide)) (Nat.le_of_ble_eq_true rfl) rfl (fun X hX C => ?_)
  unfold fX4_read at h
  refine q_iload_n (pc := 0) C 1 rfl dX4_read_0 rfl ?_
  refine q_iconst (pc := 1) C dX4_read_1 ci_4 ?_
  obtain ⟨q1, hq1, h⟩ := q_bind h
  refine q_callS1 (pc := 2) (st := []) C (zX4_below hq1) ys_X4_below ml_RX4_62 rfl (by decide) rfl (Nat.le_of_ble_eq_true rfl) dX4_read_2 ?_
  refine q_if_eq (pc := 5) C 27 dX4_read_5 (by decide) (fun c2 => ?_) (fun c2 => ?_)
  · have h := q_t c2 h
    refine q_bipush (pc := 27) C dX4_read_27 cb_m2 ?_
    obtain rfl := Option.some.inj h
    exact q_iret (pc := 29) C dX4_read_29
  · have h := q_f c2 h
    refine q_iload_n (pc := 8) C 2 rfl dX4_read_8 rfl ?_
    obtain ⟨q3, hq3, h⟩ := q_bind h
    refine q_callS1 (pc := 9) (st := []) C (zX4_areLaws hq3) ys_X4_areLaws ml_RX4_135 rfl (by decide) rfl (Nat.le_of_ble_eq_true rfl) dX4_read_9 ?_
    refine q_if_eq (pc := 12) C 27 dX4_read_12 (by decide) (fun c4 => ?_) (fun c4 => ?_)
    · have h := q_t c4 h
      refine q_bipush (pc := 27) C dX4_read_27 cb_m2 ?_
      obtain rfl := Option.some.inj h
      exact q_iret (pc := 29) C dX4_read_29
    · have h := q_f c4 h
      refine q_aload_n (pc := 15) C 0 rfl dX4_read_15 rfl ?_
      refine q_getR (pc := 16) (t := 13) C fl_RX4_33 kC_0 rfl rC_0_4 dX4_read_16 ?_
      refine q_iload_n (pc := 19) C 1 rfl dX4_read_19 rfl ?_
      refine q_iload_n (pc := 20) C 2 rfl dX4_read_20 rfl ?_
      obtain ⟨q5, hq5, h⟩ := q_bind h
      refine q_callV1 (pc := 21) (st := []) C (zX1_append kC_13 hq5) yi_X1_append ml_RX4_95 kC_13 rfl (by decide) rfl (Nat.le_of_ble_eq_true rfl) dX4_read_21 ?_
      refine q_goto (pc := 24) C 29 dX4_read_24 (by decide) ?_
      obtain rfl := Option.some.inj h
      exact q_iret (pc := 29) C dX4_read_29
/-! X4_forget -/
theorem zX4_forget {G : qG} {l : Launch} {σ : qM}  {res : (Int32 × qM)}  (h : fX4_forget σ  = some res) : qCon sC G l yX4_forget cX4_forget 1 (some .int) 1 [.ref (q_ad G 0)] σ (some (.int res.1)) res.2 := by
  refine qCon.mkF (lv := [(0, .ref (q_ad G 0))]) (plainFor_of_name (by decide)) (Nat.le_of_ble_eq_true rfl) rfl (fun X hX C => ?_)
  unfold fX4_forget at h
  refine q_aload_n (pc := 0) C 0 rfl dX4_forget_0 rfl ?_
  refine q_getR (pc := 1) (t := 13) C fl_RX4_33 kC_0 rfl rC_0_4 dX4_forget_1 ?_
  obtain ⟨q1, hq1, h⟩ := q_bind h
  refine q_callV1 (pc := 4) (st := []) C (zX1_empty kC_13 hq1) yi_X1_empty ml_RX4_160 kC_13 rfl (by decide) rfl (Nat.le_of_ble_eq_true rfl) dX4_forget_4 ?_
  obtain rfl := Option.some.inj h
  exact q_iret (pc := 7) C dX4_forget_7
/-! X4_find -/
theorem zX4_find {G : qG} {l : Launch} {σ : qM} {x1 : Int32} {res : (Int32 × qM)}  (h : fX4_find σ x1 = some res) : qCon sC G l yX4_find cX4_find 2 (some .int) 0 [.ref (q_ad G 0), .int x1] σ (some (.int res.1)) res.2 := by
  refine qCon.mkF (lv := [(0, .ref (q_ad G 0)), (1, .int x1)]) (plainFor_of_name (by decide)) (Nat.le_of_ble_eq_true rfl) rfl (fun X hX C => ?_)
  unfold fX4_find at h
  refine q_aload_n (pc := 0) C 0 rfl dX4_find_0 rfl ?_
  refine q_iload_n (pc := 1) C 1 rfl dX4_find_1 rfl ?_
  refine q_putI (pc := 2) C fl_RX4_58 kC_0 rfl rfl rfl dX4_find_2 ?_
  refine q_bipush (pc := 5) C dX4_find_5 cb_m10 ?_
  refine q_iload_n (pc := 7) C 1 rfl dX4_find_7 rfl ?_
  refine q_isub (pc := 8) C dX4_find_8 ?_
  obtain rfl := Option.some.inj h
  exact q_iret (pc := 9) C dX4_find_9
/-! X4_take -/
theorem uX4_take_36 {X : qX} {G : qG} (C : qC sC X G RX4 cX4_take 5 2 (some .int)) (k36 : qM → Nat → Int32 → Int32 → Option (Int32 × qM)) (hk36 : ∀ (σ : qM) (x2 : Nat) (x3 : Int32) (x4 : Int32) (res : (Int32 × qM)) (hx2 : q_kd sC x2 = 2), k36 σ x2 x3 x4 = some res → qY sC X G 5 (q_Q sC X G (some (.int res.1)) res.2) σ 36 [(0, .ref (q_ad G 0)), (2, .ref (q_ad G x2)), (3, .int x3), (4, .int x4)] []) (σ : qM) (x2 : Nat) (x3 : Int32) (x4 : Int32) (res : (Int32 × qM)) (hx2 : q_kd sC x2 = 2) (h : bX4_take_36 k36 σ x2 x3 x4 = some res) : qY sC X G 5 (q_Q sC X G (some (.int res.1)) res.2) σ 36 [(0, .ref (q_ad G 0)), (2, .ref (q_ad G x2)), (3, .int x3), (4, .int x4)] [] := by
  unfold bX4_take_36 at h
  refine q_iload (pc := 36) C 3 rfl dX4_take_36 ?_
  refine q_iconst (pc := 38) C dX4_take_38 ci_1 ?_
  refine q_iadd (pc := 39) C dX4_take_39 ?_
  refine q_aload_n (pc := 40) C 1 rfl dX4_take_40 rfl ?_
  refine q_getI (pc := 41) C fl_RX4_168 hx2 rfl dX4_take_41 ?_
  refine q_ic_ge (pc := 44) C 82 dX4_take_44 (by decide) (fun c1 => ?_) (fun c1 => ?_)
  · have h := q_t c1 h
    refine q_iload_n (pc := 82) C 2 rfl dX4_take_82 rfl ?_
    obtain rfl := Option.some.inj h
    exact q_iret (pc := 83) C dX4_take_83
  · have h := q_f c1 h
    refine q_aload_n (pc := 47) C 0 rfl dX4_take_47 rfl ?_
    refine q_aload_n (pc := 48) C 1 rfl dX4_take_48 rfl ?_
    refine q_getR (pc := 49) (t := (x2 + 1)) C fl_RX4_171 hx2 rfl (rH_0 hx2) dX4_take_49 ?_
    refine q_iload (pc := 52) C 3 rfl dX4_take_52 ?_
    obtain ⟨g2, h⟩ := q_guard h
    refine q_iald (pc := 54) C (kH_1 hx2) (lH_1 hx2) g2 dX4_take_54 ?_
    refine q_aload_n (pc := 55) C 1 rfl dX4_take_55 rfl ?_
    refine q_getR (pc := 56) (t := (x2 + 1)) C fl_RX4_171 hx2 rfl (rH_0 hx2) dX4_take_56 ?_
    refine q_iload (pc := 59) C 3 rfl dX4_take_59 ?_
    refine q_iconst (pc := 61) C dX4_take_61 ci_1 ?_
    refine q_iadd (pc := 62) C dX4_take_62 ?_
    obtain ⟨g3, h⟩ := q_guard h
    refine q_iald (pc := 63) C (kH_1 hx2) (lH_1 hx2) g3 dX4_take_63 ?_
    obtain ⟨q4, hq4, h⟩ := q_bind h
    refine q_callV1 (pc := 64) (st := []) C (zX4_read hq4) yi_X4_read ml_RX4_174 kC_0 rfl (by decide) rfl (Nat.le_of_ble_eq_true rfl) dX4_take_64 ?_
    refine q_if_ge (pc := 67) C 73 dX4_take_67 (by decide) (fun c5 => ?_) (fun c5 => ?_)
    · have h := q_t c5 h
      refine q_inc (pc := 73) C 2 rfl ci_1 dX4_take_73 (by decide) rfl ?_
      refine q_inc (pc := 76) C 3 rfl ci_2 dX4_take_76 (by decide) rfl ?_
      refine q_goto (pc := 79) C 36 dX4_take_79 (by decide) ?_
      refine q_sub [2, 3, 1, 0] rfl ?_
      exact hk36 _ _ _ _ _ hx2 h
    · have h := q_f c5 h
      refine q_goto (pc := 70) C 82 dX4_take_70 (by decide) ?_
      refine q_iload_n (pc := 82) C 2 rfl dX4_take_82 rfl ?_
      obtain rfl := Option.some.inj h
      exact q_iret (pc := 83) C dX4_take_83
theorem tX4_take_36 {X : qX} {G : qG} (C : qC sC X G RX4 cX4_take 5 2 (some .int))  (σ : qM) (x2 : Nat) (x3 : Int32) (x4 : Int32) (res : (Int32 × qM)) (hx2 : q_kd sC x2 = 2) (h : fX4_take_36  σ x2 x3 x4 = some res) : qY sC X G 5 (q_Q sC X G (some (.int res.1)) res.2) σ 36 [(0, .ref (q_ad G 0)), (2, .ref (q_ad G x2)), (3, .int x3), (4, .int x4)] [] := by
  have key : ∀ (n : Nat) (σ : qM) (x2 : Nat) (x3 : Int32) (x4 : Int32) (res : (Int32 × qM)) (hx2 : q_kd sC x2 = 2), qlp (fun _ _ _ _ => none) (bX4_take_36 ) n σ x2 x3 x4 = some res → qY sC X G 5 (q_Q sC X G (some (.int res.1)) res.2) σ 36 [(0, .ref (q_ad G 0)), (2, .ref (q_ad G x2)), (3, .int x3), (4, .int x4)] [] := by
    intro n
    induction n with
    | zero => intro σ x2 x3 x4 res hx2 h; cases h
    | succ n ih => intro σ x2 x3 x4 res hx2 h; exact uX4_take_36 C  (qlp (fun _ _ _ _ => none) (bX4_take_36 ) n) (fun σ x2 x3 x4 res hx2 h => ih σ x2 x3 x4 res hx2 h) σ x2 x3 x4 res hx2 h
  exact key qFU σ x2 x3 x4 res hx2 h
theorem zX4_take {G : qG} {l : Launch} {σ : qM} {x1 : Int32} {res : (Int32 × qM)}  (h : fX4_take σ x1 = some res) : qCon sC G l yX4_take cX4_take 5 (some .int) 2 [.ref (q_ad G 0), .int x1] σ (some (.int res.1)) res.2 := by
  refine qCon.mkF (lv := [(0, .ref (q_ad G 0)), (1, .int x1)]) (plainFor_of_name (by decide)) (Nat.le_of_ble_eq_true rfl) rfl (fun X hX C => ?_)
  unfold fX4_take at h
  refine q_iload_n (pc := 0) C 1 rfl dX4_take_0 rfl ?_
  refine q_iconst (pc := 1) C dX4_take_1 ci_4 ?_
  obtain ⟨q1, hq1, h⟩ := q_bind h
  refine q_callS1 (pc := 2) (st := []) C (zX4_below hq1) ys_X4_below ml_RX4_62 rfl (by decide) rfl (Nat.le_of_ble_eq_true rfl) dX4_take_2 ?_
  refine q_if_ne (pc := 5) C 11 dX4_take_5 (by decide) (fun c2 => ?_) (fun c2 => ?_)
  · have h := q_f c2 h
    refine q_aload_n (pc := 11) C 0 rfl dX4_take_11 rfl ?_
    refine q_getR (pc := 12) (t := 43) C fl_RX4_47 kC_0 rfl rC_0_6 dX4_take_12 ?_
    refine q_iload_n (pc := 15) C 1 rfl dX4_take_15 rfl ?_
    obtain ⟨g3, h⟩ := q_guard h
    refine q_aald (pc := 16) (t := (44 + 2 * x1.toNatClampNeg)) C (Or.inr kC_43) lC_43 g3 (rR_43 _) dX4_take_16 ?_
    refine q_astore_n (pc := 17) C dX4_take_17 rfl (by decide) rfl ?_
    refine q_aload_n (pc := 18) C 0 rfl dX4_take_18 rfl ?_
    obtain ⟨q4, hq4, h⟩ := q_bind h
    refine q_callV1 (pc := 19) (st := []) C (zX2_isLost (kR_43 g3) hq4) yi_X2_isLost ml_RX4_161 (kR_43 g3) rfl (by decide) rfl (Nat.le_of_ble_eq_true rfl) dX4_take_19 ?_
    refine q_if_eq (pc := 22) C 31 dX4_take_22 (by decide) (fun c5 => ?_) (fun c5 => ?_)
    · have h := q_t c5 h
      refine q_iconst (pc := 31) C dX4_take_31 ci_0 ?_
      refine q_istore_n (pc := 32) C dX4_take_32 rfl (by decide) rfl ?_
      refine q_iconst (pc := 33) C dX4_take_33 ci_0 ?_
      refine q_istore (pc := 34) C dX4_take_34 (by decide) rfl ?_
      refine q_sub [3, 2, 1, 0] rfl ?_
      exact tX4_take_36 C _ _ _ _ _ (kR_43 g3) h
    · have h := q_f c5 h
      refine q_aload_n (pc := 25) C 1 rfl dX4_take_25 rfl ?_
      refine q_iconst (pc := 26) C dX4_take_26 ci_1 ?_
      obtain ⟨q6, hq6, h⟩ := q_bind h
      refine q_callV1 (pc := 27) (st := []) C (zX4_find hq6) yi_X4_find ml_RX4_165 kC_0 rfl (by decide) rfl (Nat.le_of_ble_eq_true rfl) dX4_take_27 ?_
      obtain rfl := Option.some.inj h
      exact q_iret (pc := 30) C dX4_take_30
  · have h := q_t c2 h
    refine q_bipush (pc := 8) C dX4_take_8 cb_m2 ?_
    obtain rfl := Option.some.inj h
    exact q_iret (pc := 10) C dX4_take_10
/-! X4_wouldFit -/
theorem uX4_wouldFit_3 {X : qX} {G : qG} (C : qC sC X G RX4 cX4_wouldFit 5 4 (some .boolean)) (k3 : qM → Int32 → Int32 → Int32 → Option (Int32 × qM)) (hk3 : ∀ (σ : qM) (x2 : Int32) (x3 : Int32) (x4 : Int32) (res : (Int32 × qM)), k3 σ x2 x3 x4 = some res → qY sC X G 5 (q_Q sC X G (some (.int res.1)) res.2) σ 3 [(0, .ref (q_ad G 0)), (1, .ref (q_ad G 16)), (2, .int x2), (3, .int x3), (4, .int x4)] []) (σ : qM) (x2 : Int32) (x3 : Int32) (x4 : Int32) (res : (Int32 × qM))  (h : bX4_wouldFit_3 k3 σ x2 x3 x4 = some res) : qY sC X G 5 (q_Q sC X G (some (.int res.1)) res.2) σ 3 [(0, .ref (q_ad G 0)), (1, .ref (q_ad G 16)), (2, .int x2), (3, .int x3), (4, .int x4)] [] := by
  unfold bX4_wouldFit_3 at h
  refine q_iload (pc := 3) C 4 rfl dX4_wouldFit_3 ?_
  refine q_aload_n (pc := 5) C 0 rfl dX4_wouldFit_5 rfl ?_
  refine q_getR (pc := 6) (t := 13) C fl_RX4_33 kC_0 rfl rC_0_4 dX4_wouldFit_6 ?_
  refine q_getI (pc := 9) C fl_RX4_229 kC_13 rfl dX4_wouldFit_9 ?_
  refine q_ic_ge (pc := 12) C 52 dX4_wouldFit_12 (by decide) (fun c1 => ?_) (fun c1 => ?_)
  · have h := q_t c1 h
    refine q_iconst (pc := 52) C dX4_wouldFit_52 ci_1 ?_
    obtain rfl := Option.some.inj h
    exact q_zret (pc := 53) C (Or.inr rfl) dX4_wouldFit_53
  · have h := q_f c1 h
    refine q_aload_n (pc := 15) C 1 rfl dX4_wouldFit_15 rfl ?_
    refine q_iload_n (pc := 16) C 2 rfl dX4_wouldFit_16 rfl ?_
    refine q_iload_n (pc := 17) C 3 rfl dX4_wouldFit_17 rfl ?_
    refine q_aload_n (pc := 18) C 0 rfl dX4_wouldFit_18 rfl ?_
    refine q_getR (pc := 19) (t := 13) C fl_RX4_33 kC_0 rfl rC_0_4 dX4_wouldFit_19 ?_
    refine q_getR (pc := 22) (t := 14) C fl_RX4_298 kC_13 rfl (rP_0 kC_13) dX4_wouldFit_22 ?_
    refine q_iload (pc := 25) C 4 rfl dX4_wouldFit_25 ?_
    obtain ⟨g2, h⟩ := q_guard h
    refine q_iald (pc := 27) C kC_14 lC_14 g2 dX4_wouldFit_27 ?_
    obtain ⟨q3, hq3, h⟩ := q_bind h
    refine q_callV1 (pc := 28) (st := []) C (zX0_inForceHad hq3) yi_X0_inForceHad ml_RX4_304 kC_16 rfl (by decide) rfl (Nat.le_of_ble_eq_true rfl) dX4_wouldFit_28 ?_
    refine q_aload_n (pc := 31) C 0 rfl dX4_wouldFit_31 rfl ?_
    refine q_getR (pc := 32) (t := 13) C fl_RX4_33 kC_0 rfl rC_0_4 dX4_wouldFit_32 ?_
    refine q_getR (pc := 35) (t := 15) C fl_RX4_301 kC_13 rfl (rP_1 kC_13) dX4_wouldFit_35 ?_
    refine q_iload (pc := 38) C 4 rfl dX4_wouldFit_38 ?_
    obtain ⟨g4, h⟩ := q_guard h
    refine q_iald (pc := 40) C kC_15 lC_15 g4 dX4_wouldFit_40 ?_
    refine q_ic_eq (pc := 41) C 46 dX4_wouldFit_41 (by decide) (fun c5 => ?_) (fun c5 => ?_)
    · have h := q_t c5 h
      refine q_inc (pc := 46) C 4 rfl ci_1 dX4_wouldFit_46 (by decide) rfl ?_
      refine q_goto (pc := 49) C 3 dX4_wouldFit_49 (by decide) ?_
      refine q_sub [1, 2, 3, 4, 0] rfl ?_
      exact hk3 _ _ _ _ _ h
    · have h := q_f c5 h
      refine q_iconst (pc := 44) C dX4_wouldFit_44 ci_0 ?_
      obtain rfl := Option.some.inj h
      exact q_zret (pc := 45) C (Or.inl rfl) dX4_wouldFit_45
theorem tX4_wouldFit_3 {X : qX} {G : qG} (C : qC sC X G RX4 cX4_wouldFit 5 4 (some .boolean))  (σ : qM) (x2 : Int32) (x3 : Int32) (x4 : Int32) (res : (Int32 × qM))  (h : fX4_wouldFit_3  σ x2 x3 x4 = some res) : qY sC X G 5 (q_Q sC X G (some (.int res.1)) res.2) σ 3 [(0, .ref (q_ad G 0)), (1, .ref (q_ad G 16)), (2, .int x2), (3, .int x3), (4, .int x4)] [] := by
  have key : ∀ (n : Nat) (σ : qM) (x2 : Int32) (x3 : Int32) (x4 : Int32) (res : (Int32 × qM)) , qlp (fun _ _ _ _ => none) (bX4_wouldFit_3 ) n σ x2 x3 x4 = some res → qY sC X G 5 (q_Q sC X G (some (.int res.1)) res.2) σ 3 [(0, .ref (q_ad G 0)), (1, .ref (q_ad G 16)), (2, .int x2), (3, .int x3), (4, .int x4)] [] := by
    intro n
    induction n with
    | zero => intro σ x2 x3 x4 res h; cases h
    | succ n ih => intro σ x2 x3 x4 res h; exact uX4_wouldFit_3 C  (qlp (fun _ _ _ _ => none) (bX4_wouldFit_3 ) n) (fun σ x2 x3 x4 res h => ih σ x2 x3 x4 res h) σ x2 x3 x4 res h
  exact key qFU σ x2 x3 x4 res h
theorem zX4_wouldFit {G : qG} {l : Launch} {σ : qM} {x2 : Int32} {x3 : Int32} {res : (Int32 × qM)}  (h : fX4_wouldFit σ x2 x3 = some res) : qCon sC G l yX4_wouldFit cX4_wouldFit 5 (some .boolean) 4 [.ref (q_ad G 0), .ref (q_ad G 16), .int x2, .int x3] σ (some (.int res.1)) res.2 := by
  refine qCon.mkF (lv := [(0, .ref (q_ad G 0)), (1, .ref (q_ad G 16)), (2, .int x2), (3, .int x3)]) (plainFor_of_name (by decide)) (Nat.le_of_ble_eq_true rfl) rfl (fun X hX C => ?_)
  unfold fX4_wouldFit at h
  refine q_iconst (pc := 0) C dX4_wouldFit_0 ci_0 ?_
  refine q_istore (pc := 1) C dX4_wouldFit_1 (by decide) rfl ?_
  refine q_sub [1, 2, 3, 4, 0] rfl ?_
  exact tX4_wouldFit_3 C _ _ _ _ _ h

/-! X5_reading -/
theorem zX5_reading {G : qG} {l : Launch} {σ : qM} {x1 : Int32} {x2 : Int32} {res : (Int32 × qM)}  (h : fX5_reading σ x1 x2 = some res) : qCon sM G l yX5_reading cX5_reading 3 (some .int) 6 [.ref (q_ad G 0), .int x1, .int x2] σ (some (.int res.1)) res.2 := by
  refine qCon.mkF (lv := [(0, .ref (q_ad G 0)), (1, .int x1), (2, .int x2)]) (plainFor_of_name (by decide)) (Nat.le_of_ble_eq_true rfl) rfl (fun X hX C => ?_)
  unfold fX5_reading at h
  refine q_aload_n (pc := 0) C 0 rfl dX5_reading_0 rfl ?_
  obtain ⟨q1, hq1, h⟩ := q_bind h
  refine q_callV0 (pc := 1) (st := []) C (zX5_reads hq1) yi_X5_reads ml_RX5_129 kM_0 rfl (by decide) rfl (Nat.le_of_ble_eq_true rfl) dX5_reading_1 ?_
  refine q_iload_n (pc := 4) C 1 rfl dX5_reading_4 rfl ?_
  obtain ⟨q2, hq2, h⟩ := q_bind h
  refine q_callS1 (pc := 5) (st := []) C (zX5_areTurns hq2) ys_X5_areTurns ml_RX5_193 rfl (by decide) rfl (Nat.le_of_ble_eq_true rfl) dX5_reading_5 ?_
  refine q_if_eq (pc := 8) C 32 dX5_reading_8 (by decide) (fun c3 => ?_) (fun c3 => ?_)
  · have h := q_t c3 h
    refine q_bipush (pc := 32) C dX5_reading_32 cb_m2 ?_
    obtain rfl := Option.some.inj h
    exact q_iret (pc := 34) C dX5_reading_34
  · have h := q_f c3 h
    refine q_iload_n (pc := 11) C 2 rfl dX5_reading_11 rfl ?_
    refine q_i2l (pc := 12) C dX5_reading_12 ?_
    refine q_lconst (pc := 13) (v := (0 : Int64)) C dX5_reading_13 rfl ?_
    refine q_ldc2 (pc := 14) C kn_RX5_74 dX5_reading_14 ?_
    obtain ⟨q4, hq4, h⟩ := q_bind h
    refine q_callS1 (pc := 17) (st := []) C (zX5_in hq4) ys_X5_in ml_RX5_61 rfl (by decide) rfl (Nat.le_of_ble_eq_true rfl) dX5_reading_17 ?_
    refine q_if_eq (pc := 20) C 32 dX5_reading_20 (by decide) (fun c5 => ?_) (fun c5 => ?_)
    · have h := q_t c5 h
      refine q_bipush (pc := 32) C dX5_reading_32 cb_m2 ?_
      obtain rfl := Option.some.inj h
      exact q_iret (pc := 34) C dX5_reading_34
    · have h := q_f c5 h
      refine q_aload_n (pc := 23) C 0 rfl dX5_reading_23 rfl ?_
      refine q_iload_n (pc := 24) C 1 rfl dX5_reading_24 rfl ?_
      refine q_iload_n (pc := 25) C 2 rfl dX5_reading_25 rfl ?_
      obtain ⟨q6, hq6, h⟩ := q_bind h
      refine q_callV1 (pc := 26) (st := []) C (zX5_readingOf hq6) yi_X5_readingOf ml_RX5_200 kM_0 rfl (by decide) rfl (Nat.le_of_ble_eq_true rfl) dX5_reading_26 ?_
      refine q_goto (pc := 29) C 34 dX5_reading_29 (by decide) ?_
      obtain rfl := Option.some.inj h
      exact q_iret (pc := 34) C dX5_reading_34
/-! X5_dayOf -/
theorem zX5_dayOf {G : qG} {l : Launch} {σ : qM} {x1 : Int32} {res : (Int32 × qM)}  (h : fX5_dayOf σ x1 = some res) : qCon sM G l yX5_dayOf cX5_dayOf 2 (some .int) 6 [.ref (q_ad G 0), .int x1] σ (some (.int res.1)) res.2 := by
  refine qCon.mkF (lv := [(0, .ref (q_ad G 0)), (1, .int x1)]) (plainFor_of_name (by decide)) (Nat.le_of_ble_eq_true rfl) rfl (fun X hX C => ?_)
  unfold fX5_dayOf at h
  refine q_aload_n (pc := 0) C 0 rfl dX5_dayOf_0 rfl ?_
  refine q_aload_n (pc := 1) C 0 rfl dX5_dayOf_1 rfl ?_
  refine q_getR (pc := 2) (t := 11) C fl_RX5_40 kM_0 rfl rM_0_16 dX5_dayOf_2 ?_
  refine q_iconst (pc := 5) C dX5_dayOf_5 ci_0 ?_
  refine q_iald (pc := 6) C kM_11 lM_11 (show qin (0 : Int32) 2 by decide) dX5_dayOf_6 ?_
  refine q_iload_n (pc := 7) C 1 rfl dX5_dayOf_7 rfl ?_
  refine q_aload_n (pc := 8) C 0 rfl dX5_dayOf_8 rfl ?_
  refine q_getR (pc := 9) (t := 11) C fl_RX5_40 kM_0 rfl rM_0_16 dX5_dayOf_9 ?_
  refine q_iconst (pc := 12) C dX5_dayOf_12 ci_1 ?_
  refine q_iald (pc := 13) C kM_11 lM_11 (show qin (1 : Int32) 2 by decide) dX5_dayOf_13 ?_
  refine q_imul (pc := 14) C dX5_dayOf_14 ?_
  refine q_iadd (pc := 15) C dX5_dayOf_15 ?_
  refine q_iconst (pc := 16) C dX5_dayOf_16 ci_4 ?_
  refine q_rem (pc := 17) C dX5_dayOf_17 (by decide) ?_
  obtain ⟨q1, hq1, h⟩ := q_bind h
  refine q_callV1 (pc := 18) (st := []) C (zX5_readNow hq1) yi_X5_readNow ml_RX5_203 kM_0 rfl (by decide) rfl (Nat.le_of_ble_eq_true rfl) dX5_dayOf_18 ?_
  obtain rfl := Option.some.inj h
  exact q_iret (pc := 21) C dX5_dayOf_21
/-! X5_day -/
theorem zX5_day {G : qG} {l : Launch} {σ : qM} {x1 : Int32} {res : (Int32 × qM)}  (h : fX5_day σ x1 = some res) : qCon sM G l yX5_day cX5_day 2 (some .int) 7 [.ref (q_ad G 0), .int x1] σ (some (.int res.1)) res.2 := by
  refine qCon.mkF (lv := [(0, .ref (q_ad G 0)), (1, .int x1)]) (plainFor_of_name (by decide)) (Nat.le_of_ble_eq_true rfl) rfl (fun X hX C => ?_)
  unfold fX5_day at h
  refine q_aload_n (pc := 0) C 0 rfl dX5_day_0 rfl ?_
  obtain ⟨q1, hq1, h⟩ := q_bind h
  refine q_callV0 (pc := 1) (st := []) C (zX5_reads hq1) yi_X5_reads ml_RX5_129 kM_0 rfl (by decide) rfl (Nat.le_of_ble_eq_true rfl) dX5_day_1 ?_
  refine q_iload_n (pc := 4) C 1 rfl dX5_day_4 rfl ?_
  obtain ⟨q2, hq2, h⟩ := q_bind h
  refine q_callS1 (pc := 5) (st := []) C (zX5_isDay hq2) ys_X5_isDay ml_RX5_142 rfl (by decide) rfl (Nat.le_of_ble_eq_true rfl) dX5_day_5 ?_
  refine q_if_eq (pc := 8) C 19 dX5_day_8 (by decide) (fun c3 => ?_) (fun c3 => ?_)
  · have h := q_t c3 h
    refine q_bipush (pc := 19) C dX5_day_19 cb_m2 ?_
    obtain rfl := Option.some.inj h
    exact q_iret (pc := 21) C dX5_day_21
  · have h := q_f c3 h
    refine q_aload_n (pc := 11) C 0 rfl dX5_day_11 rfl ?_
    refine q_iload_n (pc := 12) C 1 rfl dX5_day_12 rfl ?_
    obtain ⟨q4, hq4, h⟩ := q_bind h
    refine q_callV1 (pc := 13) (st := []) C (zX5_dayOf hq4) yi_X5_dayOf ml_RX5_206 kM_0 rfl (by decide) rfl (Nat.le_of_ble_eq_true rfl) dX5_day_13 ?_
    refine q_goto (pc := 16) C 21 dX5_day_16 (by decide) ?_
    obtain rfl := Option.some.inj h
    exact q_iret (pc := 21) C dX5_day_21
/-! X5_brokenNow -/
theorem tX5_brokenNow_50 {X : qX} {G : qG} (C : qC sM X G RX5 cX5_brokenNow 3 7 (some .int)) (k4 : qM → Int32 → Int32 → Option (Int32 × qM)) (hk4 : ∀ (σ : qM) (x1 : Int32) (x2 : Int32) (res : (Int32 × qM)), k4 σ x1 x2 = some res → qY sM X G 3 (q_Q sM X G (some (.int res.1)) res.2) σ 4 [(0, .ref (q_ad G 0)), (1, .int x1), (2, .int x2)] []) (σ : qM) (x1 : Int32) (x2 : Int32) (res : (Int32 × qM))  (h : fX5_brokenNow_50 k4 σ x1 x2 = some res) : qY sM X G 3 (q_Q sM X G (some (.int res.1)) res.2) σ 50 [(0, .ref (q_ad G 0)), (1, .int x1), (2, .int x2)] [] := by
  unfold fX5_brokenNow_50 at h
  refine q_inc (pc := 50) C 2 rfl ci_1 dX5_brokenNow_50 (by decide) rfl ?_
  refine q_goto (pc := 53) C 4 dX5_brokenNow_53 (by decide) ?_
  refine q_sub [1, 2, 0] rfl ?_
  exact hk4 _ _ _ _ h
theorem tX5_brokenNow_48 {X : qX} {G : qG} (C : qC sM X G RX5 cX5_brokenNow 3 7 (some .int)) (k4 : qM → Int32 → Int32 → Option (Int32 × qM)) (hk4 : ∀ (σ : qM) (x1 : Int32) (x2 : Int32) (res : (Int32 × qM)), k4 σ x1 x2 = some res → qY sM X G 3 (q_Q sM X G (some (.int res.1)) res.2) σ 4 [(0, .ref (q_ad G 0)), (1, .int x1), (2, .int x2)] []) (σ : qM) (x2 : Int32) (t0 : Int32) (t1 : Int32) (res : (Int32 × qM))  (h : fX5_brokenNow_48 k4 σ x2 t0 t1 = some res) : qY sM X G 3 (q_Q sM X G (some (.int res.1)) res.2) σ 48 [(0, .ref (q_ad G 0)), (2, .int x2)] [.int t0, .int t1] := by
  unfold fX5_brokenNow_48 at h
  refine q_ior (pc := 48) C dX5_brokenNow_48 ?_
  refine q_istore_n (pc := 49) C dX5_brokenNow_49 rfl (by decide) rfl ?_
  refine q_sub [1, 0, 2] rfl ?_
  exact tX5_brokenNow_50 C k4 hk4 _ _ _ _ h
theorem uX5_brokenNow_4 {X : qX} {G : qG} (C : qC sM X G RX5 cX5_brokenNow 3 7 (some .int)) (k4 : qM → Int32 → Int32 → Option (Int32 × qM)) (hk4 : ∀ (σ : qM) (x1 : Int32) (x2 : Int32) (res : (Int32 × qM)), k4 σ x1 x2 = some res → qY sM X G 3 (q_Q sM X G (some (.int res.1)) res.2) σ 4 [(0, .ref (q_ad G 0)), (1, .int x1), (2, .int x2)] []) (σ : qM) (x1 : Int32) (x2 : Int32) (res : (Int32 × qM))  (h : bX5_brokenNow_4 k4 σ x1 x2 = some res) : qY sM X G 3 (q_Q sM X G (some (.int res.1)) res.2) σ 4 [(0, .ref (q_ad G 0)), (1, .int x1), (2, .int x2)] [] := by
  unfold bX5_brokenNow_4 at h
  refine q_iload_n (pc := 4) C 2 rfl dX5_brokenNow_4 rfl ?_
  refine q_aload_n (pc := 5) C 0 rfl dX5_brokenNow_5 rfl ?_
  refine q_getI (pc := 6) C fl_RX5_148 kM_0 rfl dX5_brokenNow_6 ?_
  refine q_ic_ge (pc := 9) C 56 dX5_brokenNow_9 (by decide) (fun c1 => ?_) (fun c1 => ?_)
  · have h := q_t c1 h
    refine q_iload_n (pc := 56) C 1 rfl dX5_brokenNow_56 rfl ?_
    obtain rfl := Option.some.inj h
    exact q_iret (pc := 57) C dX5_brokenNow_57
  · have h := q_f c1 h
    refine q_iload_n (pc := 12) C 1 rfl dX5_brokenNow_12 rfl ?_
    refine q_aload_n (pc := 13) C 0 rfl dX5_brokenNow_13 rfl ?_
    refine q_aload_n (pc := 14) C 0 rfl dX5_brokenNow_14 rfl ?_
    refine q_getR (pc := 15) (t := 10) C fl_RX5_37 kM_0 rfl rM_0_15 dX5_brokenNow_15 ?_
    refine q_iconst (pc := 18) C dX5_brokenNow_18 ci_2 ?_
    refine q_iload_n (pc := 19) C 2 rfl dX5_brokenNow_19 rfl ?_
    refine q_imul (pc := 20) C dX5_brokenNow_20 ?_
    obtain ⟨g2, h⟩ := q_guard h
    refine q_iald (pc := 21) C kM_10 lM_10 g2 dX5_brokenNow_21 ?_
    obtain ⟨q3, hq3, h⟩ := q_bind h
    refine q_callV1 (pc := 22) (st := [.int x1]) C (zX5_dayOf hq3) yi_X5_dayOf ml_RX5_206 kM_0 rfl (by decide) rfl (Nat.le_of_ble_eq_true rfl) dX5_brokenNow_22 ?_
    refine q_aload_n (pc := 25) C 0 rfl dX5_brokenNow_25 rfl ?_
    refine q_getR (pc := 26) (t := 10) C fl_RX5_37 kM_0 rfl rM_0_15 dX5_brokenNow_26 ?_
    refine q_iconst (pc := 29) C dX5_brokenNow_29 ci_2 ?_
    refine q_iload_n (pc := 30) C 2 rfl dX5_brokenNow_30 rfl ?_
    refine q_imul (pc := 31) C dX5_brokenNow_31 ?_
    refine q_iconst (pc := 32) C dX5_brokenNow_32 ci_1 ?_
    refine q_iadd (pc := 33) C dX5_brokenNow_33 ?_
    obtain ⟨g4, h⟩ := q_guard h
    refine q_iald (pc := 34) C kM_10 lM_10 g4 dX5_brokenNow_34 ?_
    obtain ⟨q5, hq5, h⟩ := q_bind h
    refine q_callS1 (pc := 35) (st := [.int x1]) C (zX5_isIn hq5) ys_X5_isIn ml_RX5_178 rfl (by decide) rfl (Nat.le_of_ble_eq_true rfl) dX5_brokenNow_35 ?_
    refine q_if_eq (pc := 38) C 47 dX5_brokenNow_38 (by decide) (fun c6 => ?_) (fun c6 => ?_)
    · have h := q_t c6 h
      refine q_iconst (pc := 47) C dX5_brokenNow_47 ci_0 ?_
      refine q_sub [0, 2] rfl ?_
      exact tX5_brokenNow_48 C k4 hk4 _ _ _ _ _ h
    · have h := q_f c6 h
      refine q_iconst (pc := 41) C dX5_brokenNow_41 ci_1 ?_
      refine q_iload_n (pc := 42) C 2 rfl dX5_brokenNow_42 rfl ?_
      refine q_shl (pc := 43) C dX5_brokenNow_43 ?_
      refine q_goto (pc := 44) C 48 dX5_brokenNow_44 (by decide) ?_
      refine q_sub [0, 2] rfl ?_
      exact tX5_brokenNow_48 C k4 hk4 _ _ _ _ _ h
theorem tX5_brokenNow_4 {X : qX} {G : qG} (C : qC sM X G RX5 cX5_brokenNow 3 7 (some .int))  (σ : qM) (x1 : Int32) (x2 : Int32) (res : (Int32 × qM))  (h : fX5_brokenNow_4  σ x1 x2 = some res) : qY sM X G 3 (q_Q sM X G (some (.int res.1)) res.2) σ 4 [(0, .ref (q_ad G 0)), (1, .int x1), (2, .int x2)] [] := by
  have key : ∀ (n : Nat) (σ : qM) (x1 : Int32) (x2 : Int32) (res : (Int32 × qM)) , qlp (fun _ _ _ => none) (bX5_brokenNow_4 ) n σ x1 x2 = some res → qY sM X G 3 (q_Q sM X G (some (.int res.1)) res.2) σ 4 [(0, .ref (q_ad G 0)), (1, .int x1), (2, .int x2)] [] := by
    intro n
    induction n with
    | zero => intro σ x1 x2 res h; cases h
    | succ n ih => intro σ x1 x2 res h; exact uX5_brokenNow_4 C  (qlp (fun _ _ _ => none) (bX5_brokenNow_4 ) n) (fun σ x1 x2 res h => ih σ x1 x2 res h) σ x1 x2 res h
  exact key qFU σ x1 x2 res h
theorem zX5_brokenNow {G : qG} {l : Launch} {σ : qM}  {res : (Int32 × qM)}  (h : fX5_brokenNow σ  = some res) : qCon sM G l yX5_brokenNow cX5_brokenNow 3 (some .int) 7 [.ref (q_ad G 0)] σ (some (.int res.1)) res.2 := by
  refine qCon.mkF (lv := [(0, .ref (q_ad G 0))]) (plainFor_of_name (by decide)) (Nat.le_of_ble_eq_true rfl) rfl (fun X hX C => ?_)
  unfold fX5_brokenNow at h
  refine q_iconst (pc := 0) C dX5_brokenNow_0 ci_0 ?_
  refine q_istore_n (pc := 1) C dX5_brokenNow_1 rfl (by decide) rfl ?_
  refine q_iconst (pc := 2) C dX5_brokenNow_2 ci_0 ?_
  refine q_istore_n (pc := 3) C dX5_brokenNow_3 rfl (by decide) rfl ?_
  refine q_sub [2, 1, 0] rfl ?_
  exact tX5_brokenNow_4 C _ _ _ _ h
/-! X5_firstBroken -/
theorem tX5_firstBroken_54 {X : qX} {G : qG} (C : qC sM X G RX5 cX5_firstBroken 4 8 (some .int)) (k9 : qM → Int32 → Int32 → Int32 → Option (Int32 × qM)) (hk9 : ∀ (σ : qM) (x1 : Int32) (x2 : Int32) (x3 : Int32) (res : (Int32 × qM)), k9 σ x1 x2 x3 = some res → qY sM X G 4 (q_Q sM X G (some (.int res.1)) res.2) σ 9 [(0, .ref (q_ad G 0)), (1, .int x1), (2, .int x2), (3, .int x3)] []) (σ : qM) (x1 : Int32) (x3 : Int32) (t0 : Int32) (res : (Int32 × qM))  (h : fX5_firstBroken_54 k9 σ x1 x3 t0 = some res) : qY sM X G 4 (q_Q sM X G (some (.int res.1)) res.2) σ 54 [(0, .ref (q_ad G 0)), (1, .int x1), (3, .int x3)] [.int t0] := by
  unfold fX5_firstBroken_54 at h
  refine q_istore_n (pc := 54) C dX5_firstBroken_54 rfl (by decide) rfl ?_
  refine q_inc (pc := 55) C 3 rfl ci_1 dX5_firstBroken_55 (by decide) rfl ?_
  refine q_goto (pc := 58) C 9 dX5_firstBroken_58 (by decide) ?_
  refine q_sub [2, 3, 1, 0] rfl ?_
  exact hk9 _ _ _ _ _ h
theorem tX5_firstBroken_49 {X : qX} {G : qG} (C : qC sM X G RX5 cX5_firstBroken 4 8 (some .int)) (k9 : qM → Int32 → Int32 → Int32 → Option (Int32 × qM)) (hk9 : ∀ (σ : qM) (x1 : Int32) (x2 : Int32) (x3 : Int32) (res : (Int32 × qM)), k9 σ x1 x2 x3 = some res → qY sM X G 4 (q_Q sM X G (some (.int res.1)) res.2) σ 9 [(0, .ref (q_ad G 0)), (1, .int x1), (2, .int x2), (3, .int x3)] []) (σ : qM) (x1 : Int32) (x3 : Int32) (res : (Int32 × qM))  (h : fX5_firstBroken_49 k9 σ x1 x3 = some res) : qY sM X G 4 (q_Q sM X G (some (.int res.1)) res.2) σ 49 [(0, .ref (q_ad G 0)), (1, .int x1), (3, .int x3)] [] := by
  unfold fX5_firstBroken_49 at h
  refine q_iload_n (pc := 49) C 2 rfl dX5_firstBroken_49 rfl ?_
  refine q_goto (pc := 50) C 54 dX5_firstBroken_50 (by decide) ?_
  exact tX5_firstBroken_54 C k9 hk9 _ _ _ _ _ h
theorem tX5_firstBroken_53 {X : qX} {G : qG} (C : qC sM X G RX5 cX5_firstBroken 4 8 (some .int)) (k9 : qM → Int32 → Int32 → Int32 → Option (Int32 × qM)) (hk9 : ∀ (σ : qM) (x1 : Int32) (x2 : Int32) (x3 : Int32) (res : (Int32 × qM)), k9 σ x1 x2 x3 = some res → qY sM X G 4 (q_Q sM X G (some (.int res.1)) res.2) σ 9 [(0, .ref (q_ad G 0)), (1, .int x1), (2, .int x2), (3, .int x3)] []) (σ : qM) (x1 : Int32) (x2 : Int32) (x3 : Int32) (res : (Int32 × qM))  (h : fX5_firstBroken_53 k9 σ x1 x2 x3 = some res) : qY sM X G 4 (q_Q sM X G (some (.int res.1)) res.2) σ 53 [(0, .ref (q_ad G 0)), (1, .int x1), (2, .int x2), (3, .int x3)] [] := by
  unfold fX5_firstBroken_53 at h
  refine q_iload_n (pc := 53) C 2 rfl dX5_firstBroken_53 rfl ?_
  refine q_sub [0, 1, 3] rfl ?_
  exact tX5_firstBroken_54 C k9 hk9 _ _ _ _ _ h
theorem uX5_firstBroken_9 {X : qX} {G : qG} (C : qC sM X G RX5 cX5_firstBroken 4 8 (some .int)) (k9 : qM → Int32 → Int32 → Int32 → Option (Int32 × qM)) (hk9 : ∀ (σ : qM) (x1 : Int32) (x2 : Int32) (x3 : Int32) (res : (Int32 × qM)), k9 σ x1 x2 x3 = some res → qY sM X G 4 (q_Q sM X G (some (.int res.1)) res.2) σ 9 [(0, .ref (q_ad G 0)), (1, .int x1), (2, .int x2), (3, .int x3)] []) (σ : qM) (x1 : Int32) (x2 : Int32) (x3 : Int32) (res : (Int32 × qM))  (h : bX5_firstBroken_9 k9 σ x1 x2 x3 = some res) : qY sM X G 4 (q_Q sM X G (some (.int res.1)) res.2) σ 9 [(0, .ref (q_ad G 0)), (1, .int x1), (2, .int x2), (3, .int x3)] [] := by
  unfold bX5_firstBroken_9 at h
  refine q_iload_n (pc := 9) C 3 rfl dX5_firstBroken_9 rfl ?_
  refine q_aload_n (pc := 10) C 0 rfl dX5_firstBroken_10 rfl ?_
  refine q_getI (pc := 11) C fl_RX5_148 kM_0 rfl dX5_firstBroken_11 ?_
  refine q_ic_ge (pc := 14) C 61 dX5_firstBroken_14 (by decide) (fun c1 => ?_) (fun c1 => ?_)
  · have h := q_t c1 h
    refine q_iload_n (pc := 61) C 2 rfl dX5_firstBroken_61 rfl ?_
    obtain rfl := Option.some.inj h
    exact q_iret (pc := 62) C dX5_firstBroken_62
  · have h := q_f c1 h
    refine q_iload_n (pc := 17) C 1 rfl dX5_firstBroken_17 rfl ?_
    refine q_iload_n (pc := 18) C 3 rfl dX5_firstBroken_18 rfl ?_
    obtain ⟨q2, hq2, h⟩ := q_bind h
    refine q_callS1 (pc := 19) (st := []) C (zX5_isIn hq2) ys_X5_isIn ml_RX5_178 rfl (by decide) rfl (Nat.le_of_ble_eq_true rfl) dX5_firstBroken_19 ?_
    refine q_if_eq (pc := 22) C 53 dX5_firstBroken_22 (by decide) (fun c3 => ?_) (fun c3 => ?_)
    · have h := q_t c3 h
      exact tX5_firstBroken_53 C k9 hk9 _ _ _ _ _ h
    · have h := q_f c3 h
      refine q_iload_n (pc := 25) C 2 rfl dX5_firstBroken_25 rfl ?_
      refine q_iconst (pc := 26) C dX5_firstBroken_26 ci_m1 ?_
      refine q_ic_eq (pc := 27) C 49 dX5_firstBroken_27 (by decide) (fun c4 => ?_) (fun c4 => ?_)
      · have h := q_t c4 h
        refine q_sub [0, 1, 3] rfl ?_
        exact tX5_firstBroken_49 C k9 hk9 _ _ _ _ h
      · have h := q_f c4 h
        refine q_aload_n (pc := 30) C 0 rfl dX5_firstBroken_30 rfl ?_
        refine q_getR (pc := 31) (t := 10) C fl_RX5_37 kM_0 rfl rM_0_15 dX5_firstBroken_31 ?_
        refine q_iconst (pc := 34) C dX5_firstBroken_34 ci_2 ?_
        refine q_iload_n (pc := 35) C 3 rfl dX5_firstBroken_35 rfl ?_
        refine q_imul (pc := 36) C dX5_firstBroken_36 ?_
        obtain ⟨g5, h⟩ := q_guard h
        refine q_iald (pc := 37) C kM_10 lM_10 g5 dX5_firstBroken_37 ?_
        refine q_aload_n (pc := 38) C 0 rfl dX5_firstBroken_38 rfl ?_
        refine q_getR (pc := 39) (t := 10) C fl_RX5_37 kM_0 rfl rM_0_15 dX5_firstBroken_39 ?_
        refine q_iconst (pc := 42) C dX5_firstBroken_42 ci_2 ?_
        refine q_iload_n (pc := 43) C 2 rfl dX5_firstBroken_43 rfl ?_
        refine q_imul (pc := 44) C dX5_firstBroken_44 ?_
        obtain ⟨g6, h⟩ := q_guard h
        refine q_iald (pc := 45) C kM_10 lM_10 g6 dX5_firstBroken_45 ?_
        refine q_ic_ge (pc := 46) C 53 dX5_firstBroken_46 (by decide) (fun c7 => ?_) (fun c7 => ?_)
        · have h := q_t c7 h
          exact tX5_firstBroken_53 C k9 hk9 _ _ _ _ _ h
        · have h := q_f c7 h
          refine q_sub [0, 1, 3] rfl ?_
          exact tX5_firstBroken_49 C k9 hk9 _ _ _ _ h
theorem tX5_firstBroken_9 {X : qX} {G : qG} (C : qC sM X G RX5 cX5_firstBroken 4 8 (some .int))  (σ : qM) (x1 : Int32) (x2 : Int32) (x3 : Int32) (res : (Int32 × qM))  (h : fX5_firstBroken_9  σ x1 x2 x3 = some res) : qY sM X G 4 (q_Q sM X G (some (.int res.1)) res.2) σ 9 [(0, .ref (q_ad G 0)), (1, .int x1), (2, .int x2), (3, .int x3)] [] := by
  have key : ∀ (n : Nat) (σ : qM) (x1 : Int32) (x2 : Int32) (x3 : Int32) (res : (Int32 × qM)) , qlp (fun _ _ _ _ => none) (bX5_firstBroken_9 ) n σ x1 x2 x3 = some res → qY sM X G 4 (q_Q sM X G (some (.int res.1)) res.2) σ 9 [(0, .ref (q_ad G 0)), (1, .int x1), (2, .int x2), (3, .int x3)] [] := by
    intro n
    induction n with
    | zero => intro σ x1 x2 x3 res h; cases h
    | succ n ih => intro σ x1 x2 x3 res h; exact uX5_firstBroken_9 C  (qlp (fun _ _ _ _ => none) (bX5_firstBroken_9 ) n) (fun σ x1 x2 x3 res h => ih σ x1 x2 x3 res h) σ x1 x2 x3 res h
  exact key qFU σ x1 x2 x3 res h
theorem zX5_firstBroken {G : qG} {l : Launch} {σ : qM}  {res : (Int32 × qM)}  (h : fX5_firstBroken σ  = some res) : qCon sM G l yX5_firstBroken cX5_firstBroken 4 (some .int) 8 [.ref (q_ad G 0)] σ (some (.int res.1)) res.2 := by
  refine qCon.mkF (lv := [(0, .ref (q_ad G 0))]) (plainFor_of_name (by decide)) (Nat.le_of_ble_eq_true rfl) rfl (fun X hX C => ?_)
  unfold fX5_firstBroken at h
  refine q_aload_n (pc := 0) C 0 rfl dX5_firstBroken_0 rfl ?_
  obtain ⟨q1, hq1, h⟩ := q_bind h
  refine q_callV1 (pc := 1) (st := []) C (zX5_brokenNow hq1) yi_X5_brokenNow ml_RX5_209 kM_0 rfl (by decide) rfl (Nat.le_of_ble_eq_true rfl) dX5_firstBroken_1 ?_
  refine q_istore_n (pc := 4) C dX5_firstBroken_4 rfl (by decide) rfl ?_
  refine q_iconst (pc := 5) C dX5_firstBroken_5 ci_m1 ?_
  refine q_istore_n (pc := 6) C dX5_firstBroken_6 rfl (by decide) rfl ?_
  refine q_iconst (pc := 7) C dX5_firstBroken_7 ci_0 ?_
  refine q_istore_n (pc := 8) C dX5_firstBroken_8 rfl (by decide) rfl ?_
  refine q_sub [3, 2, 1, 0] rfl ?_
  exact tX5_firstBroken_9 C _ _ _ _ _ h
/-! X5_broken -/
theorem zX5_broken {G : qG} {l : Launch} {σ : qM} {x1 : Int32} {res : (Int32 × qM)}  (h : fX5_broken σ x1 = some res) : qCon sM G l yX5_broken cX5_broken 2 (some .int) 9 [.ref (q_ad G 0), .int x1] σ (some (.int res.1)) res.2 := by
  refine qCon.mkF (lv := [(0, .ref (q_ad G 0)), (1, .int x1)]) (plainFor_of_name (by decide)) (Nat.le_of_ble_eq_true rfl) rfl (fun X hX C => ?_)
  unfold fX5_broken at h
  refine q_aload_n (pc := 0) C 0 rfl dX5_broken_0 rfl ?_
  obtain ⟨q1, hq1, h⟩ := q_bind h
  refine q_callV0 (pc := 1) (st := []) C (zX5_reads hq1) yi_X5_reads ml_RX5_129 kM_0 rfl (by decide) rfl (Nat.le_of_ble_eq_true rfl) dX5_broken_1 ?_
  refine q_iload_n (pc := 4) C 1 rfl dX5_broken_4 rfl ?_
  obtain ⟨q2, hq2, h⟩ := q_bind h
  refine q_callS1 (pc := 5) (st := []) C (zX5_isTwo hq2) ys_X5_isTwo ml_RX5_89 rfl (by decide) rfl (Nat.le_of_ble_eq_true rfl) dX5_broken_5 ?_
  refine q_if_ne (pc := 8) C 16 dX5_broken_8 (by decide) (fun c3 => ?_) (fun c3 => ?_)
  · have h := q_f c3 h
    refine q_iload_n (pc := 16) C 1 rfl dX5_broken_16 rfl ?_
    refine q_if_ne (pc := 17) C 27 dX5_broken_17 (by decide) (fun c4 => ?_) (fun c4 => ?_)
    · have h := q_f c4 h
      refine q_aload_n (pc := 27) C 0 rfl dX5_broken_27 rfl ?_
      obtain ⟨q5, hq5, h⟩ := q_bind h
      refine q_callV1 (pc := 28) (st := []) C (zX5_firstBroken hq5) yi_X5_firstBroken ml_RX5_212 kM_0 rfl (by decide) rfl (Nat.le_of_ble_eq_true rfl) dX5_broken_28 ?_
      obtain rfl := Option.some.inj h
      exact q_iret (pc := 31) C dX5_broken_31
    · have h := q_t c4 h
      refine q_aload_n (pc := 20) C 0 rfl dX5_broken_20 rfl ?_
      obtain ⟨q6, hq6, h⟩ := q_bind h
      refine q_callV1 (pc := 21) (st := []) C (zX5_brokenNow hq6) yi_X5_brokenNow ml_RX5_209 kM_0 rfl (by decide) rfl (Nat.le_of_ble_eq_true rfl) dX5_broken_21 ?_
      refine q_goto (pc := 24) C 31 dX5_broken_24 (by decide) ?_
      obtain rfl := Option.some.inj h
      exact q_iret (pc := 31) C dX5_broken_31
  · have h := q_t c3 h
    refine q_bipush (pc := 11) C dX5_broken_11 cb_m2 ?_
    refine q_goto (pc := 13) C 31 dX5_broken_13 (by decide) ?_
    obtain rfl := Option.some.inj h
    exact q_iret (pc := 31) C dX5_broken_31
/-! X5_freeOf -/
theorem tX5_freeOf_32 {X : qX} {G : qG} (C : qC sM X G RX5 cX5_freeOf 4 7 (some .int)) (k4 : qM → Int32 → Int32 → Int32 → Option (Int32 × qM)) (hk4 : ∀ (σ : qM) (x1 : Int32) (x2 : Int32) (x3 : Int32) (res : (Int32 × qM)), k4 σ x1 x2 x3 = some res → qY sM X G 4 (q_Q sM X G (some (.int res.1)) res.2) σ 4 [(0, .ref (q_ad G 0)), (1, .int x1), (2, .int x2), (3, .int x3)] []) (σ : qM) (x1 : Int32) (x2 : Int32) (x3 : Int32) (res : (Int32 × qM))  (h : fX5_freeOf_32 k4 σ x1 x2 x3 = some res) : qY sM X G 4 (q_Q sM X G (some (.int res.1)) res.2) σ 32 [(0, .ref (q_ad G 0)), (1, .int x1), (2, .int x2), (3, .int x3)] [] := by
  unfold fX5_freeOf_32 at h
  refine q_inc (pc := 32) C 3 rfl ci_1 dX5_freeOf_32 (by decide) rfl ?_
  refine q_goto (pc := 35) C 4 dX5_freeOf_35 (by decide) ?_
  refine q_sub [1, 2, 3, 0] rfl ?_
  exact hk4 _ _ _ _ _ h
theorem tX5_freeOf_30 {X : qX} {G : qG} (C : qC sM X G RX5 cX5_freeOf 4 7 (some .int)) (k4 : qM → Int32 → Int32 → Int32 → Option (Int32 × qM)) (hk4 : ∀ (σ : qM) (x1 : Int32) (x2 : Int32) (x3 : Int32) (res : (Int32 × qM)), k4 σ x1 x2 x3 = some res → qY sM X G 4 (q_Q sM X G (some (.int res.1)) res.2) σ 4 [(0, .ref (q_ad G 0)), (1, .int x1), (2, .int x2), (3, .int x3)] []) (σ : qM) (x1 : Int32) (x3 : Int32) (t0 : Int32) (t1 : Int32) (res : (Int32 × qM))  (h : fX5_freeOf_30 k4 σ x1 x3 t0 t1 = some res) : qY sM X G 4 (q_Q sM X G (some (.int res.1)) res.2) σ 30 [(0, .ref (q_ad G 0)), (1, .int x1), (3, .int x3)] [.int t0, .int t1] := by
  unfold fX5_freeOf_30 at h
  refine q_ior (pc := 30) C dX5_freeOf_30 ?_
  refine q_istore_n (pc := 31) C dX5_freeOf_31 rfl (by decide) rfl ?_
  refine q_sub [1, 2, 0, 3] rfl ?_
  exact tX5_freeOf_32 C k4 hk4 _ _ _ _ _ h
theorem uX5_freeOf_4 {X : qX} {G : qG} (C : qC sM X G RX5 cX5_freeOf 4 7 (some .int)) (k4 : qM → Int32 → Int32 → Int32 → Option (Int32 × qM)) (hk4 : ∀ (σ : qM) (x1 : Int32) (x2 : Int32) (x3 : Int32) (res : (Int32 × qM)), k4 σ x1 x2 x3 = some res → qY sM X G 4 (q_Q sM X G (some (.int res.1)) res.2) σ 4 [(0, .ref (q_ad G 0)), (1, .int x1), (2, .int x2), (3, .int x3)] []) (σ : qM) (x1 : Int32) (x2 : Int32) (x3 : Int32) (res : (Int32 × qM))  (h : bX5_freeOf_4 k4 σ x1 x2 x3 = some res) : qY sM X G 4 (q_Q sM X G (some (.int res.1)) res.2) σ 4 [(0, .ref (q_ad G 0)), (1, .int x1), (2, .int x2), (3, .int x3)] [] := by
  unfold bX5_freeOf_4 at h
  refine q_iload_n (pc := 4) C 3 rfl dX5_freeOf_4 rfl ?_
  refine q_bipush (pc := 5) C dX5_freeOf_5 cb_28 ?_
  refine q_ic_ge (pc := 7) C 38 dX5_freeOf_7 (by decide) (fun c1 => ?_) (fun c1 => ?_)
  · have h := q_t c1 h
    refine q_iload_n (pc := 38) C 2 rfl dX5_freeOf_38 rfl ?_
    obtain rfl := Option.some.inj h
    exact q_iret (pc := 39) C dX5_freeOf_39
  · have h := q_f c1 h
    refine q_iload_n (pc := 10) C 2 rfl dX5_freeOf_10 rfl ?_
    refine q_aload_n (pc := 11) C 0 rfl dX5_freeOf_11 rfl ?_
    refine q_iload_n (pc := 12) C 3 rfl dX5_freeOf_12 rfl ?_
    obtain ⟨q2, hq2, h⟩ := q_bind h
    refine q_callV1 (pc := 13) (st := [.int x2]) C (zX5_dayOf hq2) yi_X5_dayOf ml_RX5_206 kM_0 rfl (by decide) rfl (Nat.le_of_ble_eq_true rfl) dX5_freeOf_13 ?_
    refine q_iload_n (pc := 16) C 1 rfl dX5_freeOf_16 rfl ?_
    obtain ⟨q3, hq3, h⟩ := q_bind h
    refine q_callS1 (pc := 17) (st := [.int x2]) C (zX5_isIn hq3) ys_X5_isIn ml_RX5_178 rfl (by decide) rfl (Nat.le_of_ble_eq_true rfl) dX5_freeOf_17 ?_
    refine q_if_eq (pc := 20) C 27 dX5_freeOf_20 (by decide) (fun c4 => ?_) (fun c4 => ?_)
    · have h := q_t c4 h
      refine q_iconst (pc := 27) C dX5_freeOf_27 ci_1 ?_
      refine q_iload_n (pc := 28) C 3 rfl dX5_freeOf_28 rfl ?_
      refine q_shl (pc := 29) C dX5_freeOf_29 ?_
      refine q_sub [0, 1, 3] rfl ?_
      exact tX5_freeOf_30 C k4 hk4 _ _ _ _ _ _ h
    · have h := q_f c4 h
      refine q_iconst (pc := 23) C dX5_freeOf_23 ci_0 ?_
      refine q_goto (pc := 24) C 30 dX5_freeOf_24 (by decide) ?_
      refine q_sub [0, 1, 3] rfl ?_
      exact tX5_freeOf_30 C k4 hk4 _ _ _ _ _ _ h
theorem tX5_freeOf_4 {X : qX} {G : qG} (C : qC sM X G RX5 cX5_freeOf 4 7 (some .int))  (σ : qM) (x1 : Int32) (x2 : Int32) (x3 : Int32) (res : (Int32 × qM))  (h : fX5_freeOf_4  σ x1 x2 x3 = some res) : qY sM X G 4 (q_Q sM X G (some (.int res.1)) res.2) σ 4 [(0, .ref (q_ad G 0)), (1, .int x1), (2, .int x2), (3, .int x3)] [] := by
  have key : ∀ (n : Nat) (σ : qM) (x1 : Int32) (x2 : Int32) (x3 : Int32) (res : (Int32 × qM)) , qlp (fun _ _ _ _ => none) (bX5_freeOf_4 ) n σ x1 x2 x3 = some res → qY sM X G 4 (q_Q sM X G (some (.int res.1)) res.2) σ 4 [(0, .ref (q_ad G 0)), (1, .int x1), (2, .int x2), (3, .int x3)] [] := by
    intro n
    induction n with
    | zero => intro σ x1 x2 x3 res h; cases h
    | succ n ih => intro σ x1 x2 x3 res h; exact uX5_freeOf_4 C  (qlp (fun _ _ _ _ => none) (bX5_freeOf_4 ) n) (fun σ x1 x2 x3 res h => ih σ x1 x2 x3 res h) σ x1 x2 x3 res h
  exact key qFU σ x1 x2 x3 res h
theorem zX5_freeOf {G : qG} {l : Launch} {σ : qM} {x1 : Int32} {res : (Int32 × qM)}  (h : fX5_freeOf σ x1 = some res) : qCon sM G l yX5_freeOf cX5_freeOf 4 (some .int) 7 [.ref (q_ad G 0), .int x1] σ (some (.int res.1)) res.2 := by
  refine qCon.mkF (lv := [(0, .ref (q_ad G 0)), (1, .int x1)]) (plainFor_of_name (by decide)) (Nat.le_of_ble_eq_true rfl) rfl (fun X hX C => ?_)
  unfold fX5_freeOf at h
  refine q_iconst (pc := 0) C dX5_freeOf_0 ci_0 ?_
  refine q_istore_n (pc := 1) C dX5_freeOf_1 rfl (by decide) rfl ?_
  refine q_iconst (pc := 2) C dX5_freeOf_2 ci_0 ?_
  refine q_istore_n (pc := 3) C dX5_freeOf_3 rfl (by decide) rfl ?_
  refine q_sub [2, 3, 1, 0] rfl ?_
  exact tX5_freeOf_4 C _ _ _ _ _ h
/-! X5_free -/
theorem zX5_free {G : qG} {l : Launch} {σ : qM} {x1 : Int32} {res : (Int32 × qM)}  (h : fX5_free σ x1 = some res) : qCon sM G l yX5_free cX5_free 2 (some .int) 8 [.ref (q_ad G 0), .int x1] σ (some (.int res.1)) res.2 := by
  refine qCon.mkF (lv := [(0, .ref (q_ad G 0)), (1, .int x1)]) (plainFor_of_name (by decide)) (Nat.le_of_ble_eq_true rfl) rfl (fun X hX C => ?_)
  unfold fX5_free at h
  refine q_aload_n (pc := 0) C 0 rfl dX5_free_0 rfl ?_
  obtain ⟨q1, hq1, h⟩ := q_bind h
  refine q_callV0 (pc := 1) (st := []) C (zX5_reads hq1) yi_X5_reads ml_RX5_129 kM_0 rfl (by decide) rfl (Nat.le_of_ble_eq_true rfl) dX5_free_1 ?_
  refine q_iload_n (pc := 4) C 1 rfl dX5_free_4 rfl ?_
  obtain ⟨q2, hq2, h⟩ := q_bind h
  refine q_callS1 (pc := 5) (st := []) C (zX5_isLaw hq2) ys_X5_isLaw ml_RX5_145 rfl (by decide) rfl (Nat.le_of_ble_eq_true rfl) dX5_free_5 ?_
  refine q_if_eq (pc := 8) C 19 dX5_free_8 (by decide) (fun c3 => ?_) (fun c3 => ?_)
  · have h := q_t c3 h
    refine q_bipush (pc := 19) C dX5_free_19 cb_m2 ?_
    obtain rfl := Option.some.inj h
    exact q_iret (pc := 21) C dX5_free_21
  · have h := q_f c3 h
    refine q_aload_n (pc := 11) C 0 rfl dX5_free_11 rfl ?_
    refine q_iload_n (pc := 12) C 1 rfl dX5_free_12 rfl ?_
    obtain ⟨q4, hq4, h⟩ := q_bind h
    refine q_callV1 (pc := 13) (st := []) C (zX5_freeOf hq4) yi_X5_freeOf ml_RX5_215 kM_0 rfl (by decide) rfl (Nat.le_of_ble_eq_true rfl) dX5_free_13 ?_
    refine q_goto (pc := 16) C 21 dX5_free_16 (by decide) ?_
    obtain rfl := Option.some.inj h
    exact q_iret (pc := 21) C dX5_free_21
/-! X5_clashOf -/
theorem tX5_clashOf_108 {X : qX} {G : qG} (C : qC sM X G RX5 cX5_clashOf 6 5 (some .int)) (k12 : qM → Int32 → Int32 → Option (Int32 × qM)) (hk12 : ∀ (σ : qM) (x2 : Int32) (x3 : Int32) (res : (Int32 × qM)), k12 σ x2 x3 = some res → qY sM X G 6 (q_Q sM X G (some (.int res.1)) res.2) σ 12 [(0, .ref (q_ad G 0)), (2, .int x2), (3, .int x3)] []) (k23 : qM → Int32 → Int32 → Int32 → Option (Int32 × qM)) (hk23 : ∀ (σ : qM) (x2 : Int32) (x3 : Int32) (x4 : Int32) (res : (Int32 × qM)), k23 σ x2 x3 x4 = some res → qY sM X G 6 (q_Q sM X G (some (.int res.1)) res.2) σ 23 [(0, .ref (q_ad G 0)), (2, .int x2), (3, .int x3), (4, .int x4)] []) (σ : qM) (x2 : Int32) (x3 : Int32) (x4 : Int32) (res : (Int32 × qM))  (h : fX5_clashOf_108 k12 k23 σ x2 x3 x4 = some res) : qY sM X G 6 (q_Q sM X G (some (.int res.1)) res.2) σ 108 [(0, .ref (q_ad G 0)), (2, .int x2), (3, .int x3), (4, .int x4)] [] := by
  unfold fX5_clashOf_108 at h
  refine q_inc (pc := 108) C 3 rfl ci_1 dX5_clashOf_108 (by decide) rfl ?_
  refine q_goto (pc := 111) C 23 dX5_clashOf_111 (by decide) ?_
  refine q_sub [1, 2, 3, 0] rfl ?_
  exact hk23 _ _ _ _ _ h
theorem tX5_clashOf_75 {X : qX} {G : qG} (C : qC sM X G RX5 cX5_clashOf 6 5 (some .int)) (k12 : qM → Int32 → Int32 → Option (Int32 × qM)) (hk12 : ∀ (σ : qM) (x2 : Int32) (x3 : Int32) (res : (Int32 × qM)), k12 σ x2 x3 = some res → qY sM X G 6 (q_Q sM X G (some (.int res.1)) res.2) σ 12 [(0, .ref (q_ad G 0)), (2, .int x2), (3, .int x3)] []) (k23 : qM → Int32 → Int32 → Int32 → Option (Int32 × qM)) (hk23 : ∀ (σ : qM) (x2 : Int32) (x3 : Int32) (x4 : Int32) (res : (Int32 × qM)), k23 σ x2 x3 x4 = some res → qY sM X G 6 (q_Q sM X G (some (.int res.1)) res.2) σ 23 [(0, .ref (q_ad G 0)), (2, .int x2), (3, .int x3), (4, .int x4)] []) (σ : qM) (x2 : Int32) (x3 : Int32) (x4 : Int32) (t0 : Int32) (res : (Int32 × qM))  (h : fX5_clashOf_75 k12 k23 σ x2 x3 x4 t0 = some res) : qY sM X G 6 (q_Q sM X G (some (.int res.1)) res.2) σ 75 [(0, .ref (q_ad G 0)), (2, .int x2), (3, .int x3), (4, .int x4)] [.int t0] := by
  unfold fX5_clashOf_75 at h
  refine q_istore (pc := 75) C dX5_clashOf_75 (by decide) rfl ?_
  refine q_iload (pc := 77) C 0 rfl dX5_clashOf_77 ?_
  refine q_if_eq (pc := 79) C 108 dX5_clashOf_79 (by decide) (fun c1 => ?_) (fun c1 => ?_)
  · have h := q_t c1 h
    refine q_sub [1, 2, 3, 4] rfl ?_
    exact tX5_clashOf_108 C k12 hk12 k23 hk23 _ _ _ _ _ h
  · have h := q_f c1 h
    refine q_aload_n (pc := 82) C 1 rfl dX5_clashOf_82 rfl ?_
    refine q_getR (pc := 83) (t := 8) C fl_RX5_31 kM_0 rfl rM_0_11 dX5_clashOf_83 ?_
    refine q_iconst (pc := 86) C dX5_clashOf_86 ci_5 ?_
    refine q_iload_n (pc := 87) C 3 rfl dX5_clashOf_87 rfl ?_
    refine q_imul (pc := 88) C dX5_clashOf_88 ?_
    refine q_iconst (pc := 89) C dX5_clashOf_89 ci_3 ?_
    refine q_iadd (pc := 90) C dX5_clashOf_90 ?_
    obtain ⟨g2, h⟩ := q_guard h
    refine q_iald (pc := 91) C kM_8 lM_8 g2 dX5_clashOf_91 ?_
    refine q_aload_n (pc := 92) C 1 rfl dX5_clashOf_92 rfl ?_
    refine q_getR (pc := 93) (t := 8) C fl_RX5_31 kM_0 rfl rM_0_11 dX5_clashOf_93 ?_
    refine q_iconst (pc := 96) C dX5_clashOf_96 ci_5 ?_
    refine q_iload (pc := 97) C 4 rfl dX5_clashOf_97 ?_
    refine q_imul (pc := 99) C dX5_clashOf_99 ?_
    refine q_iconst (pc := 100) C dX5_clashOf_100 ci_3 ?_
    refine q_iadd (pc := 101) C dX5_clashOf_101 ?_
    obtain ⟨g3, h⟩ := q_guard h
    refine q_iald (pc := 102) C kM_8 lM_8 g3 dX5_clashOf_102 ?_
    refine q_ic_eq (pc := 103) C 108 dX5_clashOf_103 (by decide) (fun c4 => ?_) (fun c4 => ?_)
    · have h := q_t c4 h
      refine q_sub [1, 2, 3, 4] rfl ?_
      exact tX5_clashOf_108 C k12 hk12 k23 hk23 _ _ _ _ _ h
    · have h := q_f c4 h
      refine q_iload_n (pc := 106) C 3 rfl dX5_clashOf_106 rfl ?_
      obtain rfl := Option.some.inj h
      exact q_iret (pc := 107) C dX5_clashOf_107
theorem tX5_clashOf_74 {X : qX} {G : qG} (C : qC sM X G RX5 cX5_clashOf 6 5 (some .int)) (k12 : qM → Int32 → Int32 → Option (Int32 × qM)) (hk12 : ∀ (σ : qM) (x2 : Int32) (x3 : Int32) (res : (Int32 × qM)), k12 σ x2 x3 = some res → qY sM X G 6 (q_Q sM X G (some (.int res.1)) res.2) σ 12 [(0, .ref (q_ad G 0)), (2, .int x2), (3, .int x3)] []) (k23 : qM → Int32 → Int32 → Int32 → Option (Int32 × qM)) (hk23 : ∀ (σ : qM) (x2 : Int32) (x3 : Int32) (x4 : Int32) (res : (Int32 × qM)), k23 σ x2 x3 x4 = some res → qY sM X G 6 (q_Q sM X G (some (.int res.1)) res.2) σ 23 [(0, .ref (q_ad G 0)), (2, .int x2), (3, .int x3), (4, .int x4)] []) (σ : qM) (x2 : Int32) (x3 : Int32) (x4 : Int32) (res : (Int32 × qM))  (h : fX5_clashOf_74 k12 k23 σ x2 x3 x4 = some res) : qY sM X G 6 (q_Q sM X G (some (.int res.1)) res.2) σ 74 [(0, .ref (q_ad G 0)), (2, .int x2), (3, .int x3), (4, .int x4)] [] := by
  unfold fX5_clashOf_74 at h
  refine q_iconst (pc := 74) C dX5_clashOf_74 ci_0 ?_
  exact tX5_clashOf_75 C k12 hk12 k23 hk23 _ _ _ _ _ _ h
theorem uX5_clashOf_23 {X : qX} {G : qG} (C : qC sM X G RX5 cX5_clashOf 6 5 (some .int)) (k12 : qM → Int32 → Int32 → Option (Int32 × qM)) (hk12 : ∀ (σ : qM) (x2 : Int32) (x3 : Int32) (res : (Int32 × qM)), k12 σ x2 x3 = some res → qY sM X G 6 (q_Q sM X G (some (.int res.1)) res.2) σ 12 [(0, .ref (q_ad G 0)), (2, .int x2), (3, .int x3)] []) (k23 : qM → Int32 → Int32 → Int32 → Option (Int32 × qM)) (hk23 : ∀ (σ : qM) (x2 : Int32) (x3 : Int32) (x4 : Int32) (res : (Int32 × qM)), k23 σ x2 x3 x4 = some res → qY sM X G 6 (q_Q sM X G (some (.int res.1)) res.2) σ 23 [(0, .ref (q_ad G 0)), (2, .int x2), (3, .int x3), (4, .int x4)] []) (σ : qM) (x2 : Int32) (x3 : Int32) (x4 : Int32) (res : (Int32 × qM))  (h : bX5_clashOf_23 k12 k23 σ x2 x3 x4 = some res) : qY sM X G 6 (q_Q sM X G (some (.int res.1)) res.2) σ 23 [(0, .ref (q_ad G 0)), (2, .int x2), (3, .int x3), (4, .int x4)] [] := by
  unfold bX5_clashOf_23 at h
  refine q_iload (pc := 23) C 3 rfl dX5_clashOf_23 ?_
  refine q_iload_n (pc := 25) C 2 rfl dX5_clashOf_25 rfl ?_
  refine q_ic_ge (pc := 26) C 114 dX5_clashOf_26 (by decide) (fun c1 => ?_) (fun c1 => ?_)
  · have h := q_t c1 h
    refine q_inc (pc := 114) C 2 rfl ci_1 dX5_clashOf_114 (by decide) rfl ?_
    refine q_goto (pc := 117) C 12 dX5_clashOf_117 (by decide) ?_
    refine q_sub [1, 2, 0] rfl ?_
    exact hk12 _ _ _ _ h
  · have h := q_f c1 h
    refine q_iload_n (pc := 29) C 1 rfl dX5_clashOf_29 rfl ?_
    refine q_iload_n (pc := 30) C 2 rfl dX5_clashOf_30 rfl ?_
    obtain ⟨q2, hq2, h⟩ := q_bind h
    refine q_callS1 (pc := 31) (st := []) C (zX5_isIn hq2) ys_X5_isIn ml_RX5_178 rfl (by decide) rfl (Nat.le_of_ble_eq_true rfl) dX5_clashOf_31 ?_
    refine q_if_eq (pc := 34) C 74 dX5_clashOf_34 (by decide) (fun c3 => ?_) (fun c3 => ?_)
    · have h := q_t c3 h
      exact tX5_clashOf_74 C k12 hk12 k23 hk23 _ _ _ _ _ h
    · have h := q_f c3 h
      refine q_iload_n (pc := 37) C 1 rfl dX5_clashOf_37 rfl ?_
      refine q_iload (pc := 38) C 3 rfl dX5_clashOf_38 ?_
      obtain ⟨q4, hq4, h⟩ := q_bind h
      refine q_callS1 (pc := 40) (st := []) C (zX5_isIn hq4) ys_X5_isIn ml_RX5_178 rfl (by decide) rfl (Nat.le_of_ble_eq_true rfl) dX5_clashOf_40 ?_
      refine q_if_eq (pc := 43) C 74 dX5_clashOf_43 (by decide) (fun c5 => ?_) (fun c5 => ?_)
      · have h := q_t c5 h
        exact tX5_clashOf_74 C k12 hk12 k23 hk23 _ _ _ _ _ h
      · have h := q_f c5 h
        refine q_aload_n (pc := 46) C 0 rfl dX5_clashOf_46 rfl ?_
        refine q_getR (pc := 47) (t := 8) C fl_RX5_31 kM_0 rfl rM_0_11 dX5_clashOf_47 ?_
        refine q_iconst (pc := 50) C dX5_clashOf_50 ci_5 ?_
        refine q_iload_n (pc := 51) C 2 rfl dX5_clashOf_51 rfl ?_
        refine q_imul (pc := 52) C dX5_clashOf_52 ?_
        refine q_iconst (pc := 53) C dX5_clashOf_53 ci_4 ?_
        refine q_iadd (pc := 54) C dX5_clashOf_54 ?_
        obtain ⟨g6, h⟩ := q_guard h
        refine q_iald (pc := 55) C kM_8 lM_8 g6 dX5_clashOf_55 ?_
        refine q_aload_n (pc := 56) C 0 rfl dX5_clashOf_56 rfl ?_
        refine q_getR (pc := 57) (t := 8) C fl_RX5_31 kM_0 rfl rM_0_11 dX5_clashOf_57 ?_
        refine q_iconst (pc := 60) C dX5_clashOf_60 ci_5 ?_
        refine q_iload (pc := 61) C 3 rfl dX5_clashOf_61 ?_
        refine q_imul (pc := 63) C dX5_clashOf_63 ?_
        refine q_iconst (pc := 64) C dX5_clashOf_64 ci_4 ?_
        refine q_iadd (pc := 65) C dX5_clashOf_65 ?_
        obtain ⟨g7, h⟩ := q_guard h
        refine q_iald (pc := 66) C kM_8 lM_8 g7 dX5_clashOf_66 ?_
        refine q_ic_ne (pc := 67) C 74 dX5_clashOf_67 (by decide) (fun c8 => ?_) (fun c8 => ?_)
        · have h := q_f c8 h
          exact tX5_clashOf_74 C k12 hk12 k23 hk23 _ _ _ _ _ h
        · have h := q_t c8 h
          refine q_iconst (pc := 70) C dX5_clashOf_70 ci_1 ?_
          refine q_goto (pc := 71) C 75 dX5_clashOf_71 (by decide) ?_
          exact tX5_clashOf_75 C k12 hk12 k23 hk23 _ _ _ _ _ _ h
theorem tX5_clashOf_23 {X : qX} {G : qG} (C : qC sM X G RX5 cX5_clashOf 6 5 (some .int)) (k12 : qM → Int32 → Int32 → Option (Int32 × qM)) (hk12 : ∀ (σ : qM) (x2 : Int32) (x3 : Int32) (res : (Int32 × qM)), k12 σ x2 x3 = some res → qY sM X G 6 (q_Q sM X G (some (.int res.1)) res.2) σ 12 [(0, .ref (q_ad G 0)), (2, .int x2), (3, .int x3)] []) (σ : qM) (x2 : Int32) (x3 : Int32) (x4 : Int32) (res : (Int32 × qM))  (h : fX5_clashOf_23 k12 σ x2 x3 x4 = some res) : qY sM X G 6 (q_Q sM X G (some (.int res.1)) res.2) σ 23 [(0, .ref (q_ad G 0)), (2, .int x2), (3, .int x3), (4, .int x4)] [] := by
  have key : ∀ (n : Nat) (σ : qM) (x2 : Int32) (x3 : Int32) (x4 : Int32) (res : (Int32 × qM)) , qlp (fun _ _ _ _ => none) (bX5_clashOf_23 k12) n σ x2 x3 x4 = some res → qY sM X G 6 (q_Q sM X G (some (.int res.1)) res.2) σ 23 [(0, .ref (q_ad G 0)), (2, .int x2), (3, .int x3), (4, .int x4)] [] := by
    intro n
    induction n with
    | zero => intro σ x2 x3 x4 res h; cases h
    | succ n ih => intro σ x2 x3 x4 res h; exact uX5_clashOf_23 C k12 hk12 (qlp (fun _ _ _ _ => none) (bX5_clashOf_23 k12) n) (fun σ x2 x3 x4 res h => ih σ x2 x3 x4 res h) σ x2 x3 x4 res h
  exact key qFU σ x2 x3 x4 res h
theorem uX5_clashOf_12 {X : qX} {G : qG} (C : qC sM X G RX5 cX5_clashOf 6 5 (some .int)) (k12 : qM → Int32 → Int32 → Option (Int32 × qM)) (hk12 : ∀ (σ : qM) (x2 : Int32) (x3 : Int32) (res : (Int32 × qM)), k12 σ x2 x3 = some res → qY sM X G 6 (q_Q sM X G (some (.int res.1)) res.2) σ 12 [(0, .ref (q_ad G 0)), (2, .int x2), (3, .int x3)] []) (σ : qM) (x2 : Int32) (x3 : Int32) (res : (Int32 × qM))  (h : bX5_clashOf_12 k12 σ x2 x3 = some res) : qY sM X G 6 (q_Q sM X G (some (.int res.1)) res.2) σ 12 [(0, .ref (q_ad G 0)), (2, .int x2), (3, .int x3)] [] := by
  unfold bX5_clashOf_12 at h
  refine q_iload_n (pc := 12) C 2 rfl dX5_clashOf_12 rfl ?_
  refine q_aload_n (pc := 13) C 0 rfl dX5_clashOf_13 rfl ?_
  refine q_getI (pc := 14) C fl_RX5_106 kM_0 rfl dX5_clashOf_14 ?_
  refine q_ic_ge (pc := 17) C 120 dX5_clashOf_17 (by decide) (fun c1 => ?_) (fun c1 => ?_)
  · have h := q_t c1 h
    refine q_iconst (pc := 120) C dX5_clashOf_120 ci_m1 ?_
    obtain rfl := Option.some.inj h
    exact q_iret (pc := 121) C dX5_clashOf_121
  · have h := q_f c1 h
    refine q_iconst (pc := 20) C dX5_clashOf_20 ci_0 ?_
    refine q_istore (pc := 21) C dX5_clashOf_21 (by decide) rfl ?_
    refine q_sub [1, 2, 3, 0] rfl ?_
    exact tX5_clashOf_23 C k12 hk12 _ _ _ _ _ h
theorem tX5_clashOf_12 {X : qX} {G : qG} (C : qC sM X G RX5 cX5_clashOf 6 5 (some .int))  (σ : qM) (x2 : Int32) (x3 : Int32) (res : (Int32 × qM))  (h : fX5_clashOf_12  σ x2 x3 = some res) : qY sM X G 6 (q_Q sM X G (some (.int res.1)) res.2) σ 12 [(0, .ref (q_ad G 0)), (2, .int x2), (3, .int x3)] [] := by
  have key : ∀ (n : Nat) (σ : qM) (x2 : Int32) (x3 : Int32) (res : (Int32 × qM)) , qlp (fun _ _ _ => none) (bX5_clashOf_12 ) n σ x2 x3 = some res → qY sM X G 6 (q_Q sM X G (some (.int res.1)) res.2) σ 12 [(0, .ref (q_ad G 0)), (2, .int x2), (3, .int x3)] [] := by
    intro n
    induction n with
    | zero => intro σ x2 x3 res h; cases h
    | succ n ih => intro σ x2 x3 res h; exact uX5_clashOf_12 C  (qlp (fun _ _ _ => none) (bX5_clashOf_12 ) n) (fun σ x2 x3 res h => ih σ x2 x3 res h) σ x2 x3 res h
  exact key qFU σ x2 x3 res h
theorem zX5_clashOf {G : qG} {l : Launch} {σ : qM} {x1 : Int32} {res : (Int32 × qM)}  (h : fX5_clashOf σ x1 = some res) : qCon sM G l yX5_clashOf cX5_clashOf 6 (some .int) 5 [.ref (q_ad G 0), .int x1] σ (some (.int res.1)) res.2 := by
  refine qCon.mkF (lv := [(0, .ref (q_ad G 0)), (1, .int x1)]) (plainFor_of_name (by decide)) (Nat.le_of_ble_eq_true rfl) rfl (fun X hX C => ?_)
  unfold fX5_clashOf at h
  refine q_aload_n (pc := 0) C 0 rfl dX5_clashOf_0 rfl ?_
  refine q_iload_n (pc := 1) C 1 rfl dX5_clashOf_1 rfl ?_
  obtain ⟨q1, hq1, h⟩ := q_bind h
  refine q_callV0 (pc := 2) (st := []) C (zX5_turnsCup hq1) yi_X5_turnsCup ml_RX5_187 kM_0 rfl (by decide) rfl (Nat.le_of_ble_eq_true rfl) dX5_clashOf_2 ?_
  refine q_aload_n (pc := 5) C 0 rfl dX5_clashOf_5 rfl ?_
  obtain ⟨q2, hq2, h⟩ := q_bind h
  refine q_callV1 (pc := 6) (st := []) C (zX5_appliesNow hq2) yi_X5_appliesNow ml_RX5_196 kM_0 rfl (by decide) rfl (Nat.le_of_ble_eq_true rfl) dX5_clashOf_6 ?_
  refine q_istore_n (pc := 9) C dX5_clashOf_9 rfl (by decide) rfl ?_
  refine q_iconst (pc := 10) C dX5_clashOf_10 ci_0 ?_
  refine q_istore_n (pc := 11) C dX5_clashOf_11 rfl (by decide) rfl ?_
  refine q_sub [2, 1, 0] rfl ?_
  exact tX5_clashOf_12 C _ _ _ _ h
/-! X5_clash -/
theorem zX5_clash {G : qG} {l : Launch} {σ : qM} {x1 : Int32} {res : (Int32 × qM)}  (h : fX5_clash σ x1 = some res) : qCon sM G l yX5_clash cX5_clash 2 (some .int) 6 [.ref (q_ad G 0), .int x1] σ (some (.int res.1)) res.2 := by
  refine qCon.mkF (lv := [(0, .ref (q_ad G 0)), (1, .int x1)]) (plainFor_of_name (by decide)) (Nat.le_of_ble_eq_true rfl) rfl (fun X hX C => ?_)
  unfold fX5_clash at h
  refine q_aload_n (pc := 0) C 0 rfl dX5_clash_0 rfl ?_
  obtain ⟨q1, hq1, h⟩ := q_bind h
  refine q_callV0 (pc := 1) (st := []) C (zX5_reads hq1) yi_X5_reads ml_RX5_129 kM_0 rfl (by decide) rfl (Nat.le_of_ble_eq_true rfl) dX5_clash_1 ?_
  refine q_iload_n (pc := 4) C 1 rfl dX5_clash_4 rfl ?_
  obtain ⟨q2, hq2, h⟩ := q_bind h
  refine q_callS1 (pc := 5) (st := []) C (zX5_areTurns hq2) ys_X5_areTurns ml_RX5_193 rfl (by decide) rfl (Nat.le_of_ble_eq_true rfl) dX5_clash_5 ?_
  refine q_if_eq (pc := 8) C 19 dX5_clash_8 (by decide) (fun c3 => ?_) (fun c3 => ?_)
  · have h := q_t c3 h
    refine q_bipush (pc := 19) C dX5_clash_19 cb_m2 ?_
    obtain rfl := Option.some.inj h
    exact q_iret (pc := 21) C dX5_clash_21
  · have h := q_f c3 h
    refine q_aload_n (pc := 11) C 0 rfl dX5_clash_11 rfl ?_
    refine q_iload_n (pc := 12) C 1 rfl dX5_clash_12 rfl ?_
    obtain ⟨q4, hq4, h⟩ := q_bind h
    refine q_callV1 (pc := 13) (st := []) C (zX5_clashOf hq4) yi_X5_clashOf ml_RX5_218 kM_0 rfl (by decide) rfl (Nat.le_of_ble_eq_true rfl) dX5_clash_13 ?_
    refine q_goto (pc := 16) C 21 dX5_clash_16 (by decide) ?_
    obtain rfl := Option.some.inj h
    exact q_iret (pc := 21) C dX5_clash_21
/-! X5_pourOf -/
theorem tX5_pourOf_66 {X : qX} {G : qG} (C : qC sM X G RX5 cX5_pourOf 7 6 (some .int)) (k8 : qM → Int32 → Int32 → Int32 → Int32 → Option (Int32 × qM)) (hk8 : ∀ (σ : qM) (x1 : Int32) (x2 : Int32) (x3 : Int32) (x4 : Int32) (res : (Int32 × qM)), k8 σ x1 x2 x3 x4 = some res → qY sM X G 7 (q_Q sM X G (some (.int res.1)) res.2) σ 8 [(0, .ref (q_ad G 0)), (1, .int x1), (2, .int x2), (3, .int x3), (4, .int x4)] []) (σ : qM) (x1 : Int32) (x2 : Int32) (x4 : Int32) (t0 : Int32) (res : (Int32 × qM))  (h : fX5_pourOf_66 k8 σ x1 x2 x4 t0 = some res) : qY sM X G 7 (q_Q sM X G (some (.int res.1)) res.2) σ 66 [(0, .ref (q_ad G 0)), (1, .int x1), (2, .int x2), (4, .int x4)] [.int t0] := by
  unfold fX5_pourOf_66 at h
  refine q_istore_n (pc := 66) C dX5_pourOf_66 rfl (by decide) rfl ?_
  refine q_inc (pc := 67) C 4 rfl ci_1 dX5_pourOf_67 (by decide) rfl ?_
  refine q_goto (pc := 70) C 8 dX5_pourOf_70 (by decide) ?_
  refine q_sub [2, 3, 4, 1, 0] rfl ?_
  exact hk8 _ _ _ _ _ _ h
theorem tX5_pourOf_53 {X : qX} {G : qG} (C : qC sM X G RX5 cX5_pourOf 7 6 (some .int)) (k8 : qM → Int32 → Int32 → Int32 → Int32 → Option (Int32 × qM)) (hk8 : ∀ (σ : qM) (x1 : Int32) (x2 : Int32) (x3 : Int32) (x4 : Int32) (res : (Int32 × qM)), k8 σ x1 x2 x3 x4 = some res → qY sM X G 7 (q_Q sM X G (some (.int res.1)) res.2) σ 8 [(0, .ref (q_ad G 0)), (1, .int x1), (2, .int x2), (3, .int x3), (4, .int x4)] []) (σ : qM) (x1 : Int32) (x3 : Int32) (x4 : Int32) (x6 : Int32) (t0 : Int32) (res : (Int32 × qM))  (h : fX5_pourOf_53 k8 σ x1 x3 x4 x6 t0 = some res) : qY sM X G 7 (q_Q sM X G (some (.int res.1)) res.2) σ 53 [(0, .ref (q_ad G 0)), (1, .int x1), (3, .int x3), (4, .int x4), (6, .int x6)] [.int t0] := by
  unfold fX5_pourOf_53 at h
  refine q_istore_n (pc := 53) C dX5_pourOf_53 rfl (by decide) rfl ?_
  refine q_iload (pc := 54) C 5 rfl dX5_pourOf_54 ?_
  refine q_iload_n (pc := 56) C 3 rfl dX5_pourOf_56 rfl ?_
  refine q_ic_le (pc := 57) C 65 dX5_pourOf_57 (by decide) (fun c1 => ?_) (fun c1 => ?_)
  · have h := q_t c1 h
    refine q_iload_n (pc := 65) C 3 rfl dX5_pourOf_65 rfl ?_
    refine q_sub [1, 2, 0, 4] rfl ?_
    exact tX5_pourOf_66 C k8 hk8 _ _ _ _ _ _ h
  · have h := q_f c1 h
    refine q_iload (pc := 60) C 5 rfl dX5_pourOf_60 ?_
    refine q_goto (pc := 62) C 66 dX5_pourOf_62 (by decide) ?_
    refine q_sub [1, 2, 0, 4] rfl ?_
    exact tX5_pourOf_66 C k8 hk8 _ _ _ _ _ _ h
theorem tX5_pourOf_41 {X : qX} {G : qG} (C : qC sM X G RX5 cX5_pourOf 7 6 (some .int)) (k8 : qM → Int32 → Int32 → Int32 → Int32 → Option (Int32 × qM)) (hk8 : ∀ (σ : qM) (x1 : Int32) (x2 : Int32) (x3 : Int32) (x4 : Int32) (res : (Int32 × qM)), k8 σ x1 x2 x3 x4 = some res → qY sM X G 7 (q_Q sM X G (some (.int res.1)) res.2) σ 8 [(0, .ref (q_ad G 0)), (1, .int x1), (2, .int x2), (3, .int x3), (4, .int x4)] []) (σ : qM) (x1 : Int32) (x2 : Int32) (x3 : Int32) (x4 : Int32) (x6 : Int32) (res : (Int32 × qM))  (h : fX5_pourOf_41 k8 σ x1 x2 x3 x4 x6 = some res) : qY sM X G 7 (q_Q sM X G (some (.int res.1)) res.2) σ 41 [(0, .ref (q_ad G 0)), (1, .int x1), (2, .int x2), (3, .int x3), (4, .int x4), (6, .int x6)] [] := by
  unfold fX5_pourOf_41 at h
  refine q_iload (pc := 41) C 5 rfl dX5_pourOf_41 ?_
  refine q_iload_n (pc := 43) C 3 rfl dX5_pourOf_43 rfl ?_
  refine q_ic_le (pc := 44) C 52 dX5_pourOf_44 (by decide) (fun c1 => ?_) (fun c1 => ?_)
  · have h := q_t c1 h
    refine q_iload_n (pc := 52) C 2 rfl dX5_pourOf_52 rfl ?_
    refine q_sub [0, 1, 3, 4, 5] rfl ?_
    exact tX5_pourOf_53 C k8 hk8 _ _ _ _ _ _ _ h
  · have h := q_f c1 h
    refine q_iload (pc := 47) C 4 rfl dX5_pourOf_47 ?_
    refine q_goto (pc := 49) C 53 dX5_pourOf_49 (by decide) ?_
    refine q_sub [0, 1, 3, 4, 5] rfl ?_
    exact tX5_pourOf_53 C k8 hk8 _ _ _ _ _ _ _ h
theorem uX5_pourOf_8 {X : qX} {G : qG} (C : qC sM X G RX5 cX5_pourOf 7 6 (some .int)) (k8 : qM → Int32 → Int32 → Int32 → Int32 → Option (Int32 × qM)) (hk8 : ∀ (σ : qM) (x1 : Int32) (x2 : Int32) (x3 : Int32) (x4 : Int32) (res : (Int32 × qM)), k8 σ x1 x2 x3 x4 = some res → qY sM X G 7 (q_Q sM X G (some (.int res.1)) res.2) σ 8 [(0, .ref (q_ad G 0)), (1, .int x1), (2, .int x2), (3, .int x3), (4, .int x4)] []) (σ : qM) (x1 : Int32) (x2 : Int32) (x3 : Int32) (x4 : Int32) (res : (Int32 × qM))  (h : bX5_pourOf_8 k8 σ x1 x2 x3 x4 = some res) : qY sM X G 7 (q_Q sM X G (some (.int res.1)) res.2) σ 8 [(0, .ref (q_ad G 0)), (1, .int x1), (2, .int x2), (3, .int x3), (4, .int x4)] [] := by
  unfold bX5_pourOf_8 at h
  refine q_iload (pc := 8) C 4 rfl dX5_pourOf_8 ?_
  refine q_iconst (pc := 10) C dX5_pourOf_10 ci_4 ?_
  refine q_ic_ge (pc := 11) C 73 dX5_pourOf_11 (by decide) (fun c1 => ?_) (fun c1 => ?_)
  · have h := q_t c1 h
    refine q_iload_n (pc := 73) C 2 rfl dX5_pourOf_73 rfl ?_
    obtain rfl := Option.some.inj h
    exact q_iret (pc := 74) C dX5_pourOf_74
  · have h := q_f c1 h
    refine q_aload_n (pc := 14) C 0 rfl dX5_pourOf_14 rfl ?_
    refine q_iload (pc := 15) C 4 rfl dX5_pourOf_15 ?_
    obtain ⟨q2, hq2, h⟩ := q_bind h
    refine q_callV1 (pc := 17) (st := []) C (zX5_readNow hq2) yi_X5_readNow ml_RX5_203 kM_0 rfl (by decide) rfl (Nat.le_of_ble_eq_true rfl) dX5_pourOf_17 ?_
    refine q_istore (pc := 20) C dX5_pourOf_20 (by decide) rfl ?_
    refine q_iload (pc := 22) C 0 rfl dX5_pourOf_22 ?_
    refine q_iload_n (pc := 24) C 2 rfl dX5_pourOf_24 rfl ?_
    refine q_iand (pc := 25) C dX5_pourOf_25 ?_
    obtain ⟨q3, hq3, h⟩ := q_bind h
    refine q_callS1 (pc := 26) (st := []) C (zX5_ones hq3) ys_X5_ones ml_RX5_221 rfl (by decide) rfl (Nat.le_of_ble_eq_true rfl) dX5_pourOf_26 ?_
    refine q_iload (pc := 29) C 0 rfl dX5_pourOf_29 ?_
    refine q_iload_n (pc := 31) C 2 rfl dX5_pourOf_31 rfl ?_
    refine q_iconst (pc := 32) C dX5_pourOf_32 ci_m1 ?_
    refine q_ixor (pc := 33) C dX5_pourOf_33 ?_
    refine q_iand (pc := 34) C dX5_pourOf_34 ?_
    obtain ⟨q4, hq4, h⟩ := q_bind h
    refine q_callS1 (pc := 35) (st := [.int q3.1]) C (zX5_ones hq4) ys_X5_ones ml_RX5_221 rfl (by decide) rfl (Nat.le_of_ble_eq_true rfl) dX5_pourOf_35 ?_
    refine q_isub (pc := 38) C dX5_pourOf_38 ?_
    refine q_istore (pc := 39) C dX5_pourOf_39 (by decide) rfl ?_
    refine q_sub [2, 3, 4, 5, 6, 0] rfl ?_
    exact tX5_pourOf_41 C k8 hk8 _ _ _ _ _ _ _ h
theorem tX5_pourOf_8 {X : qX} {G : qG} (C : qC sM X G RX5 cX5_pourOf 7 6 (some .int))  (σ : qM) (x1 : Int32) (x2 : Int32) (x3 : Int32) (x4 : Int32) (res : (Int32 × qM))  (h : fX5_pourOf_8  σ x1 x2 x3 x4 = some res) : qY sM X G 7 (q_Q sM X G (some (.int res.1)) res.2) σ 8 [(0, .ref (q_ad G 0)), (1, .int x1), (2, .int x2), (3, .int x3), (4, .int x4)] [] := by
  have key : ∀ (n : Nat) (σ : qM) (x1 : Int32) (x2 : Int32) (x3 : Int32) (x4 : Int32) (res : (Int32 × qM)) , qlp (fun _ _ _ _ _ => none) (bX5_pourOf_8 ) n σ x1 x2 x3 x4 = some res → qY sM X G 7 (q_Q sM X G (some (.int res.1)) res.2) σ 8 [(0, .ref (q_ad G 0)), (1, .int x1), (2, .int x2), (3, .int x3), (4, .int x4)] [] := by
    intro n
    induction n with
    | zero => intro σ x1 x2 x3 x4 res h; cases h
    | succ n ih => intro σ x1 x2 x3 x4 res h; exact uX5_pourOf_8 C  (qlp (fun _ _ _ _ _ => none) (bX5_pourOf_8 ) n) (fun σ x1 x2 x3 x4 res h => ih σ x1 x2 x3 x4 res h) σ x1 x2 x3 x4 res h
  exact key qFU σ x1 x2 x3 x4 res h
theorem zX5_pourOf {G : qG} {l : Launch} {σ : qM} {x1 : Int32} {res : (Int32 × qM)}  (h : fX5_pourOf σ x1 = some res) : qCon sM G l yX5_pourOf cX5_pourOf 7 (some .int) 6 [.ref (q_ad G 0), .int x1] σ (some (.int res.1)) res.2 := by
  refine qCon.mkF (lv := [(0, .ref (q_ad G 0)), (1, .int x1)]) (plainFor_of_name (by decide)) (Nat.le_of_ble_eq_true rfl) rfl (fun X hX C => ?_)
  unfold fX5_pourOf at h
  refine q_iconst (pc := 0) C dX5_pourOf_0 ci_0 ?_
  refine q_istore_n (pc := 1) C dX5_pourOf_1 rfl (by decide) rfl ?_
  refine q_bipush (pc := 2) C dX5_pourOf_2 cb_m9 ?_
  refine q_istore_n (pc := 4) C dX5_pourOf_4 rfl (by decide) rfl ?_
  refine q_iconst (pc := 5) C dX5_pourOf_5 ci_0 ?_
  refine q_istore (pc := 6) C dX5_pourOf_6 (by decide) rfl ?_
  refine q_sub [3, 4, 2, 1, 0] rfl ?_
  exact tX5_pourOf_8 C _ _ _ _ _ _ h
/-! X5_pour -/
theorem zX5_pour {G : qG} {l : Launch} {σ : qM} {x1 : Int32} {res : (Int32 × qM)}  (h : fX5_pour σ x1 = some res) : qCon sM G l yX5_pour cX5_pour 2 (some .int) 7 [.ref (q_ad G 0), .int x1] σ (some (.int res.1)) res.2 := by
  refine qCon.mkF (lv := [(0, .ref (q_ad G 0)), (1, .int x1)]) (plainFor_of_name (by decide)) (Nat.le_of_ble_eq_true rfl) rfl (fun X hX C => ?_)
  unfold fX5_pour at h
  refine q_aload_n (pc := 0) C 0 rfl dX5_pour_0 rfl ?_
  obtain ⟨q1, hq1, h⟩ := q_bind h
  refine q_callV0 (pc := 1) (st := []) C (zX5_reads hq1) yi_X5_reads ml_RX5_129 kM_0 rfl (by decide) rfl (Nat.le_of_ble_eq_true rfl) dX5_pour_1 ?_
  refine q_iload_n (pc := 4) C 1 rfl dX5_pour_4 rfl ?_
  obtain ⟨q2, hq2, h⟩ := q_bind h
  refine q_callS1 (pc := 5) (st := []) C (zX5_areLaws hq2) ys_X5_areLaws ml_RX5_224 rfl (by decide) rfl (Nat.le_of_ble_eq_true rfl) dX5_pour_5 ?_
  refine q_if_eq (pc := 8) C 19 dX5_pour_8 (by decide) (fun c3 => ?_) (fun c3 => ?_)
  · have h := q_t c3 h
    refine q_bipush (pc := 19) C dX5_pour_19 cb_m2 ?_
    obtain rfl := Option.some.inj h
    exact q_iret (pc := 21) C dX5_pour_21
  · have h := q_f c3 h
    refine q_aload_n (pc := 11) C 0 rfl dX5_pour_11 rfl ?_
    refine q_iload_n (pc := 12) C 1 rfl dX5_pour_12 rfl ?_
    obtain ⟨q4, hq4, h⟩ := q_bind h
    refine q_callV1 (pc := 13) (st := []) C (zX5_pourOf hq4) yi_X5_pourOf ml_RX5_227 kM_0 rfl (by decide) rfl (Nat.le_of_ble_eq_true rfl) dX5_pour_13 ?_
    refine q_goto (pc := 16) C 21 dX5_pour_16 (by decide) ?_
    obtain rfl := Option.some.inj h
    exact q_iret (pc := 21) C dX5_pour_21
/-! X5_tells -/
theorem tX5_tells_10 {X : qX} {G : qG} (C : qC sM X G RX5 cX5_tells 2 1 (some .int))  (σ : qM) (x0 : Int32) (res : (Int32 × qM))  (h : fX5_tells_10  σ x0 = some res) : qY sM X G 2 (q_Q sM X G (some (.int res.1)) res.2) σ 10 [(0, .int x0)] [] := by
  unfold fX5_tells_10 at h
  refine q_iload_n (pc := 10) C 0 rfl dX5_tells_10 rfl ?_
  refine q_goto (pc := 11) C 18 dX5_tells_11 (by decide) ?_
  obtain rfl := Option.some.inj h
  exact q_iret (pc := 18) C dX5_tells_18
theorem zX5_tells {G : qG} {l : Launch} {σ : qM} {x0 : Int32} {x1 : Int32} {res : (Int32 × qM)}  (h : fX5_tells σ x0 x1 = some res) : qCon sM G l yX5_tells cX5_tells 2 (some .int) 1 [.int x0, .int x1] σ (some (.int res.1)) res.2 := by
  refine qCon.mkF (lv := [(0, .int x0), (1, .int x1)]) (plainFor_of_name (by decide)) (Nat.le_of_ble_eq_true rfl) rfl (fun X hX C => ?_)
  unfold fX5_tells at h
  refine q_iload_n (pc := 0) C 0 rfl dX5_tells_0 rfl ?_
  refine q_iconst (pc := 1) C dX5_tells_1 ci_m1 ?_
  refine q_ic_eq (pc := 2) C 10 dX5_tells_2 (by decide) (fun c1 => ?_) (fun c1 => ?_)
  · have h := q_t c1 h
    refine q_sub [0] rfl ?_
    exact tX5_tells_10 C _ _ _ h
  · have h := q_f c1 h
    refine q_iload_n (pc := 5) C 1 rfl dX5_tells_5 rfl ?_
    refine q_iconst (pc := 6) C dX5_tells_6 ci_1 ?_
    refine q_ic_ne (pc := 7) C 14 dX5_tells_7 (by decide) (fun c2 => ?_) (fun c2 => ?_)
    · have h := q_f c2 h
      refine q_iload_n (pc := 14) C 0 rfl dX5_tells_14 rfl ?_
      obtain ⟨q3, hq3, h⟩ := q_bind h
      refine q_callS1 (pc := 15) (st := []) C (zX5_ones hq3) ys_X5_ones ml_RX5_221 rfl (by decide) rfl (Nat.le_of_ble_eq_true rfl) dX5_tells_15 ?_
      obtain rfl := Option.some.inj h
      exact q_iret (pc := 18) C dX5_tells_18
    · have h := q_t c2 h
      refine q_sub [0] rfl ?_
      exact tX5_tells_10 C _ _ _ h
/-! X5_strainOf -/
theorem tX5_strainOf_80 {X : qX} {G : qG} (C : qC sM X G RX5 cX5_strainOf 7 5 (some .int)) (k11 : qM → Int32 → Int32 → Int32 → Int32 → Option (Int32 × qM)) (hk11 : ∀ (σ : qM) (x2 : Int32) (x3 : Int32) (x4 : Int32) (x5 : Int32) (res : (Int32 × qM)), k11 σ x2 x3 x4 x5 = some res → qY sM X G 7 (q_Q sM X G (some (.int res.1)) res.2) σ 11 [(0, .ref (q_ad G 0)), (2, .int x2), (3, .int x3), (4, .int x4), (5, .int x5)] []) (σ : qM) (x2 : Int32) (x3 : Int32) (x4 : Int32) (x5 : Int32) (res : (Int32 × qM))  (h : fX5_strainOf_80 k11 σ x2 x3 x4 x5 = some res) : qY sM X G 7 (q_Q sM X G (some (.int res.1)) res.2) σ 80 [(0, .ref (q_ad G 0)), (2, .int x2), (3, .int x3), (4, .int x4), (5, .int x5)] [] := by
  unfold fX5_strainOf_80 at h
  refine q_inc (pc := 80) C 4 rfl ci_1 dX5_strainOf_80 (by decide) rfl ?_
  refine q_goto (pc := 83) C 11 dX5_strainOf_83 (by decide) ?_
  refine q_sub [1, 2, 3, 4, 0] rfl ?_
  exact hk11 _ _ _ _ _ _ h
theorem tX5_strainOf_78 {X : qX} {G : qG} (C : qC sM X G RX5 cX5_strainOf 7 5 (some .int)) (k11 : qM → Int32 → Int32 → Int32 → Int32 → Option (Int32 × qM)) (hk11 : ∀ (σ : qM) (x2 : Int32) (x3 : Int32) (x4 : Int32) (x5 : Int32) (res : (Int32 × qM)), k11 σ x2 x3 x4 x5 = some res → qY sM X G 7 (q_Q sM X G (some (.int res.1)) res.2) σ 11 [(0, .ref (q_ad G 0)), (2, .int x2), (3, .int x3), (4, .int x4), (5, .int x5)] []) (σ : qM) (x2 : Int32) (x3 : Int32) (x5 : Int32) (t0 : Int32) (res : (Int32 × qM))  (h : fX5_strainOf_78 k11 σ x2 x3 x5 t0 = some res) : qY sM X G 7 (q_Q sM X G (some (.int res.1)) res.2) σ 78 [(0, .ref (q_ad G 0)), (2, .int x2), (3, .int x3), (5, .int x5)] [.int t0] := by
  unfold fX5_strainOf_78 at h
  refine q_istore (pc := 78) C dX5_strainOf_78 (by decide) rfl ?_
  refine q_sub [1, 2, 3, 0, 4] rfl ?_
  exact tX5_strainOf_80 C k11 hk11 _ _ _ _ _ _ h
theorem tX5_strainOf_76 {X : qX} {G : qG} (C : qC sM X G RX5 cX5_strainOf 7 5 (some .int)) (k11 : qM → Int32 → Int32 → Int32 → Int32 → Option (Int32 × qM)) (hk11 : ∀ (σ : qM) (x2 : Int32) (x3 : Int32) (x4 : Int32) (x5 : Int32) (res : (Int32 × qM)), k11 σ x2 x3 x4 x5 = some res → qY sM X G 7 (q_Q sM X G (some (.int res.1)) res.2) σ 11 [(0, .ref (q_ad G 0)), (2, .int x2), (3, .int x3), (4, .int x4), (5, .int x5)] []) (σ : qM) (x2 : Int32) (x3 : Int32) (x4 : Int32) (x5 : Int32) (res : (Int32 × qM))  (h : fX5_strainOf_76 k11 σ x2 x3 x4 x5 = some res) : qY sM X G 7 (q_Q sM X G (some (.int res.1)) res.2) σ 76 [(0, .ref (q_ad G 0)), (2, .int x2), (3, .int x3), (4, .int x4), (5, .int x5)] [] := by
  unfold fX5_strainOf_76 at h
  refine q_iload (pc := 76) C 3 rfl dX5_strainOf_76 ?_
  refine q_sub [0, 1, 2, 4] rfl ?_
  exact tX5_strainOf_78 C k11 hk11 _ _ _ _ _ _ h
theorem tX5_strainOf_41 {X : qX} {G : qG} (C : qC sM X G RX5 cX5_strainOf 7 5 (some .int)) (k11 : qM → Int32 → Int32 → Int32 → Int32 → Option (Int32 × qM)) (hk11 : ∀ (σ : qM) (x2 : Int32) (x3 : Int32) (x4 : Int32) (x5 : Int32) (res : (Int32 × qM)), k11 σ x2 x3 x4 x5 = some res → qY sM X G 7 (q_Q sM X G (some (.int res.1)) res.2) σ 11 [(0, .ref (q_ad G 0)), (2, .int x2), (3, .int x3), (4, .int x4), (5, .int x5)] []) (σ : qM) (x2 : Int32) (x3 : Int32) (x4 : Int32) (x5 : Int32) (res : (Int32 × qM))  (h : fX5_strainOf_41 k11 σ x2 x3 x4 x5 = some res) : qY sM X G 7 (q_Q sM X G (some (.int res.1)) res.2) σ 41 [(0, .ref (q_ad G 0)), (2, .int x2), (3, .int x3), (4, .int x4), (5, .int x5)] [] := by
  unfold fX5_strainOf_41 at h
  refine q_aload_n (pc := 41) C 0 rfl dX5_strainOf_41 rfl ?_
  refine q_aload_n (pc := 42) C 0 rfl dX5_strainOf_42 rfl ?_
  refine q_getI (pc := 43) C fl_RX5_161 kM_0 rfl dX5_strainOf_43 ?_
  refine q_iload (pc := 46) C 4 rfl dX5_strainOf_46 ?_
  refine q_iconst (pc := 48) C dX5_strainOf_48 ci_m1 ?_
  refine q_ixor (pc := 49) C dX5_strainOf_49 ?_
  refine q_iand (pc := 50) C dX5_strainOf_50 ?_
  obtain ⟨q1, hq1, h⟩ := q_bind h
  refine q_callV1 (pc := 51) (st := []) C (zX5_readBy hq1) yi_X5_readBy ml_RX5_190 kM_0 rfl (by decide) rfl (Nat.le_of_ble_eq_true rfl) dX5_strainOf_51 ?_
  refine q_istore (pc := 54) C dX5_strainOf_54 (by decide) rfl ?_
  refine q_iload (pc := 56) C 0 rfl dX5_strainOf_56 ?_
  refine q_iload_n (pc := 58) C 2 rfl dX5_strainOf_58 rfl ?_
  refine q_iand (pc := 59) C dX5_strainOf_59 ?_
  refine q_iload_n (pc := 60) C 2 rfl dX5_strainOf_60 rfl ?_
  refine q_ic_ne (pc := 61) C 76 dX5_strainOf_61 (by decide) (fun c2 => ?_) (fun c2 => ?_)
  · have h := q_f c2 h
    refine q_sub [1, 2, 3, 4, 5] rfl ?_
    exact tX5_strainOf_76 C k11 hk11 _ _ _ _ _ _ h
  · have h := q_t c2 h
    refine q_iload (pc := 64) C 0 rfl dX5_strainOf_64 ?_
    refine q_iload_n (pc := 66) C 3 rfl dX5_strainOf_66 rfl ?_
    refine q_iand (pc := 67) C dX5_strainOf_67 ?_
    refine q_if_ne (pc := 68) C 76 dX5_strainOf_68 (by decide) (fun c3 => ?_) (fun c3 => ?_)
    · have h := q_f c3 h
      refine q_sub [1, 2, 3, 4, 5] rfl ?_
      exact tX5_strainOf_76 C k11 hk11 _ _ _ _ _ _ h
    · have h := q_t c3 h
      refine q_iload (pc := 71) C 5 rfl dX5_strainOf_71 ?_
      refine q_goto (pc := 73) C 78 dX5_strainOf_73 (by decide) ?_
      refine q_sub [1, 2, 3, 5] rfl ?_
      exact tX5_strainOf_78 C k11 hk11 _ _ _ _ _ _ h
theorem uX5_strainOf_11 {X : qX} {G : qG} (C : qC sM X G RX5 cX5_strainOf 7 5 (some .int)) (k11 : qM → Int32 → Int32 → Int32 → Int32 → Option (Int32 × qM)) (hk11 : ∀ (σ : qM) (x2 : Int32) (x3 : Int32) (x4 : Int32) (x5 : Int32) (res : (Int32 × qM)), k11 σ x2 x3 x4 x5 = some res → qY sM X G 7 (q_Q sM X G (some (.int res.1)) res.2) σ 11 [(0, .ref (q_ad G 0)), (2, .int x2), (3, .int x3), (4, .int x4), (5, .int x5)] []) (σ : qM) (x2 : Int32) (x3 : Int32) (x4 : Int32) (x5 : Int32) (res : (Int32 × qM))  (h : bX5_strainOf_11 k11 σ x2 x3 x4 x5 = some res) : qY sM X G 7 (q_Q sM X G (some (.int res.1)) res.2) σ 11 [(0, .ref (q_ad G 0)), (2, .int x2), (3, .int x3), (4, .int x4), (5, .int x5)] [] := by
  unfold bX5_strainOf_11 at h
  refine q_iload (pc := 11) C 4 rfl dX5_strainOf_11 ?_
  refine q_iconst (pc := 13) C dX5_strainOf_13 ci_1 ?_
  refine q_aload_n (pc := 14) C 0 rfl dX5_strainOf_14 rfl ?_
  refine q_getI (pc := 15) C fl_RX5_103 kM_0 rfl dX5_strainOf_15 ?_
  refine q_shl (pc := 18) C dX5_strainOf_18 ?_
  refine q_ic_ge (pc := 19) C 86 dX5_strainOf_19 (by decide) (fun c1 => ?_) (fun c1 => ?_)
  · have h := q_t c1 h
    refine q_iload (pc := 86) C 3 rfl dX5_strainOf_86 ?_
    obtain rfl := Option.some.inj h
    exact q_iret (pc := 88) C dX5_strainOf_88
  · have h := q_f c1 h
    refine q_iload (pc := 22) C 3 rfl dX5_strainOf_22 ?_
    refine q_iconst (pc := 24) C dX5_strainOf_24 ci_m1 ?_
    refine q_ic_eq (pc := 25) C 41 dX5_strainOf_25 (by decide) (fun c2 => ?_) (fun c2 => ?_)
    · have h := q_t c2 h
      exact tX5_strainOf_41 C k11 hk11 _ _ _ _ _ _ h
    · have h := q_f c2 h
      refine q_iload (pc := 28) C 4 rfl dX5_strainOf_28 ?_
      obtain ⟨q3, hq3, h⟩ := q_bind h
      refine q_callS1 (pc := 30) (st := []) C (zX5_ones hq3) ys_X5_ones ml_RX5_221 rfl (by decide) rfl (Nat.le_of_ble_eq_true rfl) dX5_strainOf_30 ?_
      refine q_iload (pc := 33) C 3 rfl dX5_strainOf_33 ?_
      obtain ⟨q4, hq4, h⟩ := q_bind h
      refine q_callS1 (pc := 35) (st := [.int q3.1]) C (zX5_ones hq4) ys_X5_ones ml_RX5_221 rfl (by decide) rfl (Nat.le_of_ble_eq_true rfl) dX5_strainOf_35 ?_
      refine q_ic_ge (pc := 38) C 80 dX5_strainOf_38 (by decide) (fun c5 => ?_) (fun c5 => ?_)
      · have h := q_t c5 h
        exact tX5_strainOf_80 C k11 hk11 _ _ _ _ _ _ h
      · have h := q_f c5 h
        exact tX5_strainOf_41 C k11 hk11 _ _ _ _ _ _ h
theorem tX5_strainOf_11 {X : qX} {G : qG} (C : qC sM X G RX5 cX5_strainOf 7 5 (some .int))  (σ : qM) (x2 : Int32) (x3 : Int32) (x4 : Int32) (x5 : Int32) (res : (Int32 × qM))  (h : fX5_strainOf_11  σ x2 x3 x4 x5 = some res) : qY sM X G 7 (q_Q sM X G (some (.int res.1)) res.2) σ 11 [(0, .ref (q_ad G 0)), (2, .int x2), (3, .int x3), (4, .int x4), (5, .int x5)] [] := by
  have key : ∀ (n : Nat) (σ : qM) (x2 : Int32) (x3 : Int32) (x4 : Int32) (x5 : Int32) (res : (Int32 × qM)) , qlp (fun _ _ _ _ _ => none) (bX5_strainOf_11 ) n σ x2 x3 x4 x5 = some res → qY sM X G 7 (q_Q sM X G (some (.int res.1)) res.2) σ 11 [(0, .ref (q_ad G 0)), (2, .int x2), (3, .int x3), (4, .int x4), (5, .int x5)] [] := by
    intro n
    induction n with
    | zero => intro σ x2 x3 x4 x5 res h; cases h
    | succ n ih => intro σ x2 x3 x4 x5 res h; exact uX5_strainOf_11 C  (qlp (fun _ _ _ _ _ => none) (bX5_strainOf_11 ) n) (fun σ x2 x3 x4 x5 res h => ih σ x2 x3 x4 x5 res h) σ x2 x3 x4 x5 res h
  exact key qFU σ x2 x3 x4 x5 res h
theorem zX5_strainOf {G : qG} {l : Launch} {σ : qM} {x1 : Int32} {x2 : Int32} {x3 : Int32} {res : (Int32 × qM)}  (h : fX5_strainOf σ x1 x2 x3 = some res) : qCon sM G l yX5_strainOf cX5_strainOf 7 (some .int) 5 [.ref (q_ad G 0), .int x1, .int x2, .int x3] σ (some (.int res.1)) res.2 := by
  refine qCon.mkF (lv := [(0, .ref (q_ad G 0)), (1, .int x1), (2, .int x2), (3, .int x3)]) (plainFor_of_name (by decide)) (Nat.le_of_ble_eq_true rfl) rfl (fun X hX C => ?_)
  unfold fX5_strainOf at h
  refine q_aload_n (pc := 0) C 0 rfl dX5_strainOf_0 rfl ?_
  refine q_iload_n (pc := 1) C 1 rfl dX5_strainOf_1 rfl ?_
  obtain ⟨q1, hq1, h⟩ := q_bind h
  refine q_callV0 (pc := 2) (st := []) C (zX5_turnsCup hq1) yi_X5_turnsCup ml_RX5_187 kM_0 rfl (by decide) rfl (Nat.le_of_ble_eq_true rfl) dX5_strainOf_2 ?_
  refine q_iconst (pc := 5) C dX5_strainOf_5 ci_m1 ?_
  refine q_istore (pc := 6) C dX5_strainOf_6 (by decide) rfl ?_
  refine q_iconst (pc := 8) C dX5_strainOf_8 ci_0 ?_
  refine q_istore (pc := 9) C dX5_strainOf_9 (by decide) rfl ?_
  refine q_sub [2, 4, 5, 1, 0] rfl ?_
  exact tX5_strainOf_11 C _ _ _ _ _ _ h
/-! X5_strain -/
theorem tX5_strain_44 {X : qX} {G : qG} (C : qC sM X G RX5 cX5_strain 6 6 (some .int))  (σ : qM) (x1 : Int32) (x2 : Int32) (x3 : Int32) (x4 : Int32) (t0 : Int32) (res : (Int32 × qM))  (h : fX5_strain_44  σ x1 x2 x3 x4 t0 = some res) : qY sM X G 6 (q_Q sM X G (some (.int res.1)) res.2) σ 44 [(0, .ref (q_ad G 0)), (1, .int x1), (2, .int x2), (3, .int x3), (4, .int x4)] [.int t0] := by
  unfold fX5_strain_44 at h
  refine q_istore (pc := 44) C dX5_strain_44 (by decide) rfl ?_
  refine q_iload (pc := 46) C 0 rfl dX5_strain_46 ?_
  refine q_if_eq (pc := 48) C 66 dX5_strain_48 (by decide) (fun c1 => ?_) (fun c1 => ?_)
  · have h := q_t c1 h
    refine q_bipush (pc := 66) C dX5_strain_66 cb_m2 ?_
    obtain rfl := Option.some.inj h
    exact q_iret (pc := 68) C dX5_strain_68
  · have h := q_f c1 h
    refine q_aload_n (pc := 51) C 1 rfl dX5_strain_51 rfl ?_
    refine q_iload_n (pc := 52) C 2 rfl dX5_strain_52 rfl ?_
    refine q_iload_n (pc := 53) C 3 rfl dX5_strain_53 rfl ?_
    refine q_iload_n (pc := 54) C 4 rfl dX5_strain_54 rfl ?_
    obtain ⟨q2, hq2, h⟩ := q_bind h
    refine q_callV1 (pc := 55) (st := []) C (zX5_strainOf hq2) yi_X5_strainOf ml_RX5_230 kM_0 rfl (by decide) rfl (Nat.le_of_ble_eq_true rfl) dX5_strain_55 ?_
    refine q_iload (pc := 58) C 5 rfl dX5_strain_58 ?_
    obtain ⟨q3, hq3, h⟩ := q_bind h
    refine q_callS1 (pc := 60) (st := []) C (zX5_tells hq3) ys_X5_tells ml_RX5_233 rfl (by decide) rfl (Nat.le_of_ble_eq_true rfl) dX5_strain_60 ?_
    refine q_goto (pc := 63) C 68 dX5_strain_63 (by decide) ?_
    obtain rfl := Option.some.inj h
    exact q_iret (pc := 68) C dX5_strain_68
theorem tX5_strain_43 {X : qX} {G : qG} (C : qC sM X G RX5 cX5_strain 6 6 (some .int))  (σ : qM) (x1 : Int32) (x2 : Int32) (x3 : Int32) (x4 : Int32) (res : (Int32 × qM))  (h : fX5_strain_43  σ x1 x2 x3 x4 = some res) : qY sM X G 6 (q_Q sM X G (some (.int res.1)) res.2) σ 43 [(0, .ref (q_ad G 0)), (1, .int x1), (2, .int x2), (3, .int x3), (4, .int x4)] [] := by
  unfold fX5_strain_43 at h
  refine q_iconst (pc := 43) C dX5_strain_43 ci_0 ?_
  exact tX5_strain_44 C _ _ _ _ _ _ _ h
theorem zX5_strain {G : qG} {l : Launch} {σ : qM} {x1 : Int32} {x2 : Int32} {x3 : Int32} {x4 : Int32} {res : (Int32 × qM)}  (h : fX5_strain σ x1 x2 x3 x4 = some res) : qCon sM G l yX5_strain cX5_strain 6 (some .int) 6 [.ref (q_ad G 0), .int x1, .int x2, .int x3, .int x4] σ (some (.int res.1)) res.2 := by
  refine qCon.mkF (lv := [(0, .ref (q_ad G 0)), (1, .int x1), (2, .int x2), (3, .int x3), (4, .int x4)]) (plainFor_of_name (by decide)) (Nat.le_of_ble_eq_true rfl) rfl (fun X hX C => ?_)
  unfold fX5_strain at h
  refine q_aload_n (pc := 0) C 0 rfl dX5_strain_0 rfl ?_
  obtain ⟨q1, hq1, h⟩ := q_bind h
  refine q_callV0 (pc := 1) (st := []) C (zX5_reads hq1) yi_X5_reads ml_RX5_129 kM_0 rfl (by decide) rfl (Nat.le_of_ble_eq_true rfl) dX5_strain_1 ?_
  refine q_iload_n (pc := 4) C 1 rfl dX5_strain_4 rfl ?_
  obtain ⟨q2, hq2, h⟩ := q_bind h
  refine q_callS1 (pc := 5) (st := []) C (zX5_areTurns hq2) ys_X5_areTurns ml_RX5_193 rfl (by decide) rfl (Nat.le_of_ble_eq_true rfl) dX5_strain_5 ?_
  refine q_if_eq (pc := 8) C 43 dX5_strain_8 (by decide) (fun c3 => ?_) (fun c3 => ?_)
  · have h := q_t c3 h
    exact tX5_strain_43 C _ _ _ _ _ _ h
  · have h := q_f c3 h
    refine q_iload_n (pc := 11) C 2 rfl dX5_strain_11 rfl ?_
    obtain ⟨q4, hq4, h⟩ := q_bind h
    refine q_callS1 (pc := 12) (st := []) C (zX5_areLaws hq4) ys_X5_areLaws ml_RX5_224 rfl (by decide) rfl (Nat.le_of_ble_eq_true rfl) dX5_strain_12 ?_
    refine q_if_eq (pc := 15) C 43 dX5_strain_15 (by decide) (fun c5 => ?_) (fun c5 => ?_)
    · have h := q_t c5 h
      exact tX5_strain_43 C _ _ _ _ _ _ h
    · have h := q_f c5 h
      refine q_iload_n (pc := 18) C 3 rfl dX5_strain_18 rfl ?_
      obtain ⟨q6, hq6, h⟩ := q_bind h
      refine q_callS1 (pc := 19) (st := []) C (zX5_areLaws hq6) ys_X5_areLaws ml_RX5_224 rfl (by decide) rfl (Nat.le_of_ble_eq_true rfl) dX5_strain_19 ?_
      refine q_if_eq (pc := 22) C 43 dX5_strain_22 (by decide) (fun c7 => ?_) (fun c7 => ?_)
      · have h := q_t c7 h
        exact tX5_strain_43 C _ _ _ _ _ _ h
      · have h := q_f c7 h
        refine q_iload_n (pc := 25) C 2 rfl dX5_strain_25 rfl ?_
        refine q_iload_n (pc := 26) C 3 rfl dX5_strain_26 rfl ?_
        refine q_iand (pc := 27) C dX5_strain_27 ?_
        refine q_if_ne (pc := 28) C 43 dX5_strain_28 (by decide) (fun c8 => ?_) (fun c8 => ?_)
        · have h := q_f c8 h
          exact tX5_strain_43 C _ _ _ _ _ _ h
        · have h := q_t c8 h
          refine q_iload (pc := 31) C 4 rfl dX5_strain_31 ?_
          obtain ⟨q9, hq9, h⟩ := q_bind h
          refine q_callS1 (pc := 33) (st := []) C (zX5_isTwo hq9) ys_X5_isTwo ml_RX5_89 rfl (by decide) rfl (Nat.le_of_ble_eq_true rfl) dX5_strain_33 ?_
          refine q_if_eq (pc := 36) C 43 dX5_strain_36 (by decide) (fun c10 => ?_) (fun c10 => ?_)
          · have h := q_t c10 h
            exact tX5_strain_43 C _ _ _ _ _ _ h
          · have h := q_f c10 h
            refine q_iconst (pc := 39) C dX5_strain_39 ci_1 ?_
            refine q_goto (pc := 40) C 44 dX5_strain_40 (by decide) ?_
            exact tX5_strain_44 C _ _ _ _ _ _ _ h
/-! X5_strikeOf -/
theorem tX5_strikeOf_63 {X : qX} {G : qG} (C : qC sM X G RX5 cX5_strikeOf 5 5 (some .int)) (k10 : qM → Int32 → Int32 → Int32 → Option (Int32 × qM)) (hk10 : ∀ (σ : qM) (x2 : Int32) (x3 : Int32) (x4 : Int32) (res : (Int32 × qM)), k10 σ x2 x3 x4 = some res → qY sM X G 5 (q_Q sM X G (some (.int res.1)) res.2) σ 10 [(0, .ref (q_ad G 0)), (2, .int x2), (3, .int x3), (4, .int x4)] []) (σ : qM) (x2 : Int32) (x3 : Int32) (x4 : Int32) (res : (Int32 × qM))  (h : fX5_strikeOf_63 k10 σ x2 x3 x4 = some res) : qY sM X G 5 (q_Q sM X G (some (.int res.1)) res.2) σ 63 [(0, .ref (q_ad G 0)), (2, .int x2), (3, .int x3), (4, .int x4)] [] := by
  unfold fX5_strikeOf_63 at h
  refine q_inc (pc := 63) C 3 rfl ci_1 dX5_strikeOf_63 (by decide) rfl ?_
  refine q_goto (pc := 66) C 10 dX5_strikeOf_66 (by decide) ?_
  refine q_sub [1, 2, 3, 0] rfl ?_
  exact hk10 _ _ _ _ _ h
theorem tX5_strikeOf_62 {X : qX} {G : qG} (C : qC sM X G RX5 cX5_strikeOf 5 5 (some .int)) (k10 : qM → Int32 → Int32 → Int32 → Option (Int32 × qM)) (hk10 : ∀ (σ : qM) (x2 : Int32) (x3 : Int32) (x4 : Int32) (res : (Int32 × qM)), k10 σ x2 x3 x4 = some res → qY sM X G 5 (q_Q sM X G (some (.int res.1)) res.2) σ 10 [(0, .ref (q_ad G 0)), (2, .int x2), (3, .int x3), (4, .int x4)] []) (σ : qM) (x2 : Int32) (x4 : Int32) (t0 : Int32) (res : (Int32 × qM))  (h : fX5_strikeOf_62 k10 σ x2 x4 t0 = some res) : qY sM X G 5 (q_Q sM X G (some (.int res.1)) res.2) σ 62 [(0, .ref (q_ad G 0)), (2, .int x2), (4, .int x4)] [.int t0] := by
  unfold fX5_strikeOf_62 at h
  refine q_istore_n (pc := 62) C dX5_strikeOf_62 rfl (by decide) rfl ?_
  refine q_sub [1, 2, 0, 3] rfl ?_
  exact tX5_strikeOf_63 C k10 hk10 _ _ _ _ _ h
theorem tX5_strikeOf_44 {X : qX} {G : qG} (C : qC sM X G RX5 cX5_strikeOf 5 5 (some .int)) (k10 : qM → Int32 → Int32 → Int32 → Option (Int32 × qM)) (hk10 : ∀ (σ : qM) (x2 : Int32) (x3 : Int32) (x4 : Int32) (res : (Int32 × qM)), k10 σ x2 x3 x4 = some res → qY sM X G 5 (q_Q sM X G (some (.int res.1)) res.2) σ 10 [(0, .ref (q_ad G 0)), (2, .int x2), (3, .int x3), (4, .int x4)] []) (σ : qM) (x2 : Int32) (x3 : Int32) (x4 : Int32) (res : (Int32 × qM))  (h : fX5_strikeOf_44 k10 σ x2 x3 x4 = some res) : qY sM X G 5 (q_Q sM X G (some (.int res.1)) res.2) σ 44 [(0, .ref (q_ad G 0)), (2, .int x2), (3, .int x3), (4, .int x4)] [] := by
  unfold fX5_strikeOf_44 at h
  refine q_aload_n (pc := 44) C 0 rfl dX5_strikeOf_44 rfl ?_
  refine q_aload_n (pc := 45) C 0 rfl dX5_strikeOf_45 rfl ?_
  refine q_getI (pc := 46) C fl_RX5_161 kM_0 rfl dX5_strikeOf_46 ?_
  obtain ⟨q1, hq1, h⟩ := q_bind h
  refine q_callV1 (pc := 49) (st := []) C (zX5_readBy hq1) yi_X5_readBy ml_RX5_190 kM_0 rfl (by decide) rfl (Nat.le_of_ble_eq_true rfl) dX5_strikeOf_49 ?_
  refine q_iload_n (pc := 52) C 1 rfl dX5_strikeOf_52 rfl ?_
  refine q_ic_ne (pc := 53) C 61 dX5_strikeOf_53 (by decide) (fun c2 => ?_) (fun c2 => ?_)
  · have h := q_f c2 h
    refine q_iload_n (pc := 61) C 2 rfl dX5_strikeOf_61 rfl ?_
    refine q_sub [0, 1, 3] rfl ?_
    exact tX5_strikeOf_62 C k10 hk10 _ _ _ _ _ h
  · have h := q_t c2 h
    refine q_iload (pc := 56) C 3 rfl dX5_strikeOf_56 ?_
    refine q_goto (pc := 58) C 62 dX5_strikeOf_58 (by decide) ?_
    refine q_sub [0, 1, 3] rfl ?_
    exact tX5_strikeOf_62 C k10 hk10 _ _ _ _ _ h
theorem tX5_strikeOf_38 {X : qX} {G : qG} (C : qC sM X G RX5 cX5_strikeOf 5 5 (some .int)) (k10 : qM → Int32 → Int32 → Int32 → Option (Int32 × qM)) (hk10 : ∀ (σ : qM) (x2 : Int32) (x3 : Int32) (x4 : Int32) (res : (Int32 × qM)), k10 σ x2 x3 x4 = some res → qY sM X G 5 (q_Q sM X G (some (.int res.1)) res.2) σ 10 [(0, .ref (q_ad G 0)), (2, .int x2), (3, .int x3), (4, .int x4)] []) (σ : qM) (x2 : Int32) (x3 : Int32) (x4 : Int32) (res : (Int32 × qM))  (h : fX5_strikeOf_38 k10 σ x2 x3 x4 = some res) : qY sM X G 5 (q_Q sM X G (some (.int res.1)) res.2) σ 38 [(0, .ref (q_ad G 0)), (2, .int x2), (3, .int x3), (4, .int x4)] [] := by
  unfold fX5_strikeOf_38 at h
  refine q_aload_n (pc := 38) C 0 rfl dX5_strikeOf_38 rfl ?_
  refine q_iload (pc := 39) C 3 rfl dX5_strikeOf_39 ?_
  refine q_putI (pc := 41) C fl_RX5_181 kM_0 rfl rfl rfl dX5_strikeOf_41 ?_
  exact tX5_strikeOf_44 C k10 hk10 _ _ _ _ _ h
theorem uX5_strikeOf_10 {X : qX} {G : qG} (C : qC sM X G RX5 cX5_strikeOf 5 5 (some .int)) (k10 : qM → Int32 → Int32 → Int32 → Option (Int32 × qM)) (hk10 : ∀ (σ : qM) (x2 : Int32) (x3 : Int32) (x4 : Int32) (res : (Int32 × qM)), k10 σ x2 x3 x4 = some res → qY sM X G 5 (q_Q sM X G (some (.int res.1)) res.2) σ 10 [(0, .ref (q_ad G 0)), (2, .int x2), (3, .int x3), (4, .int x4)] []) (σ : qM) (x2 : Int32) (x3 : Int32) (x4 : Int32) (res : (Int32 × qM))  (h : bX5_strikeOf_10 k10 σ x2 x3 x4 = some res) : qY sM X G 5 (q_Q sM X G (some (.int res.1)) res.2) σ 10 [(0, .ref (q_ad G 0)), (2, .int x2), (3, .int x3), (4, .int x4)] [] := by
  unfold bX5_strikeOf_10 at h
  refine q_iload (pc := 10) C 3 rfl dX5_strikeOf_10 ?_
  refine q_iconst (pc := 12) C dX5_strikeOf_12 ci_1 ?_
  refine q_aload_n (pc := 13) C 0 rfl dX5_strikeOf_13 rfl ?_
  refine q_getI (pc := 14) C fl_RX5_106 kM_0 rfl dX5_strikeOf_14 ?_
  refine q_shl (pc := 17) C dX5_strikeOf_17 ?_
  refine q_ic_ge (pc := 18) C 69 dX5_strikeOf_18 (by decide) (fun c1 => ?_) (fun c1 => ?_)
  · have h := q_t c1 h
    refine q_aload_n (pc := 69) C 0 rfl dX5_strikeOf_69 rfl ?_
    refine q_iconst (pc := 70) C dX5_strikeOf_70 ci_0 ?_
    refine q_putI (pc := 71) C fl_RX5_181 kM_0 rfl rfl rfl dX5_strikeOf_71 ?_
    refine q_iload_n (pc := 74) C 2 rfl dX5_strikeOf_74 rfl ?_
    obtain rfl := Option.some.inj h
    exact q_iret (pc := 75) C dX5_strikeOf_75
  · have h := q_f c1 h
    refine q_iload_n (pc := 21) C 2 rfl dX5_strikeOf_21 rfl ?_
    refine q_iconst (pc := 22) C dX5_strikeOf_22 ci_m1 ?_
    refine q_ic_eq (pc := 23) C 38 dX5_strikeOf_23 (by decide) (fun c2 => ?_) (fun c2 => ?_)
    · have h := q_t c2 h
      exact tX5_strikeOf_38 C k10 hk10 _ _ _ _ _ h
    · have h := q_f c2 h
      refine q_iload (pc := 26) C 3 rfl dX5_strikeOf_26 ?_
      obtain ⟨q3, hq3, h⟩ := q_bind h
      refine q_callS1 (pc := 28) (st := []) C (zX5_ones hq3) ys_X5_ones ml_RX5_221 rfl (by decide) rfl (Nat.le_of_ble_eq_true rfl) dX5_strikeOf_28 ?_
      refine q_iload_n (pc := 31) C 2 rfl dX5_strikeOf_31 rfl ?_
      obtain ⟨q4, hq4, h⟩ := q_bind h
      refine q_callS1 (pc := 32) (st := [.int q3.1]) C (zX5_ones hq4) ys_X5_ones ml_RX5_221 rfl (by decide) rfl (Nat.le_of_ble_eq_true rfl) dX5_strikeOf_32 ?_
      refine q_ic_ge (pc := 35) C 63 dX5_strikeOf_35 (by decide) (fun c5 => ?_) (fun c5 => ?_)
      · have h := q_t c5 h
        exact tX5_strikeOf_63 C k10 hk10 _ _ _ _ _ h
      · have h := q_f c5 h
        exact tX5_strikeOf_38 C k10 hk10 _ _ _ _ _ h
theorem tX5_strikeOf_10 {X : qX} {G : qG} (C : qC sM X G RX5 cX5_strikeOf 5 5 (some .int))  (σ : qM) (x2 : Int32) (x3 : Int32) (x4 : Int32) (res : (Int32 × qM))  (h : fX5_strikeOf_10  σ x2 x3 x4 = some res) : qY sM X G 5 (q_Q sM X G (some (.int res.1)) res.2) σ 10 [(0, .ref (q_ad G 0)), (2, .int x2), (3, .int x3), (4, .int x4)] [] := by
  have key : ∀ (n : Nat) (σ : qM) (x2 : Int32) (x3 : Int32) (x4 : Int32) (res : (Int32 × qM)) , qlp (fun _ _ _ _ => none) (bX5_strikeOf_10 ) n σ x2 x3 x4 = some res → qY sM X G 5 (q_Q sM X G (some (.int res.1)) res.2) σ 10 [(0, .ref (q_ad G 0)), (2, .int x2), (3, .int x3), (4, .int x4)] [] := by
    intro n
    induction n with
    | zero => intro σ x2 x3 x4 res h; cases h
    | succ n ih => intro σ x2 x3 x4 res h; exact uX5_strikeOf_10 C  (qlp (fun _ _ _ _ => none) (bX5_strikeOf_10 ) n) (fun σ x2 x3 x4 res h => ih σ x2 x3 x4 res h) σ x2 x3 x4 res h
  exact key qFU σ x2 x3 x4 res h
theorem zX5_strikeOf {G : qG} {l : Launch} {σ : qM} {x1 : Int32} {x2 : Int32} {res : (Int32 × qM)}  (h : fX5_strikeOf σ x1 x2 = some res) : qCon sM G l yX5_strikeOf cX5_strikeOf 5 (some .int) 5 [.ref (q_ad G 0), .int x1, .int x2] σ (some (.int res.1)) res.2 := by
  refine qCon.mkF (lv := [(0, .ref (q_ad G 0)), (1, .int x1), (2, .int x2)]) (plainFor_of_name (by decide)) (Nat.le_of_ble_eq_true rfl) rfl (fun X hX C => ?_)
  unfold fX5_strikeOf at h
  refine q_aload_n (pc := 0) C 0 rfl dX5_strikeOf_0 rfl ?_
  refine q_iload_n (pc := 1) C 1 rfl dX5_strikeOf_1 rfl ?_
  obtain ⟨q1, hq1, h⟩ := q_bind h
  refine q_callV0 (pc := 2) (st := []) C (zX5_turnsCup hq1) yi_X5_turnsCup ml_RX5_187 kM_0 rfl (by decide) rfl (Nat.le_of_ble_eq_true rfl) dX5_strikeOf_2 ?_
  refine q_iconst (pc := 5) C dX5_strikeOf_5 ci_m1 ?_
  refine q_istore_n (pc := 6) C dX5_strikeOf_6 rfl (by decide) rfl ?_
  refine q_iconst (pc := 7) C dX5_strikeOf_7 ci_0 ?_
  refine q_istore (pc := 8) C dX5_strikeOf_8 (by decide) rfl ?_
  refine q_sub [2, 4, 1, 0] rfl ?_
  exact tX5_strikeOf_10 C _ _ _ _ _ h
/-! X5_strike -/
theorem zX5_strike {G : qG} {l : Launch} {σ : qM} {x1 : Int32} {x2 : Int32} {x3 : Int32} {res : (Int32 × qM)}  (h : fX5_strike σ x1 x2 x3 = some res) : qCon sM G l yX5_strike cX5_strike 4 (some .int) 6 [.ref (q_ad G 0), .int x1, .int x2, .int x3] σ (some (.int res.1)) res.2 := by
  refine qCon.mkF (lv := [(0, .ref (q_ad G 0)), (1, .int x1), (2, .int x2), (3, .int x3)]) (plainFor_of_name (by decide)) (Nat.le_of_ble_eq_true rfl) rfl (fun X hX C => ?_)
  unfold fX5_strike at h
  refine q_aload_n (pc := 0) C 0 rfl dX5_strike_0 rfl ?_
  obtain ⟨q1, hq1, h⟩ := q_bind h
  refine q_callV0 (pc := 1) (st := []) C (zX5_reads hq1) yi_X5_reads ml_RX5_129 kM_0 rfl (by decide) rfl (Nat.le_of_ble_eq_true rfl) dX5_strike_1 ?_
  refine q_iload_n (pc := 4) C 1 rfl dX5_strike_4 rfl ?_
  obtain ⟨q2, hq2, h⟩ := q_bind h
  refine q_callS1 (pc := 5) (st := []) C (zX5_areTurns hq2) ys_X5_areTurns ml_RX5_193 rfl (by decide) rfl (Nat.le_of_ble_eq_true rfl) dX5_strike_5 ?_
  refine q_if_eq (pc := 8) C 38 dX5_strike_8 (by decide) (fun c3 => ?_) (fun c3 => ?_)
  · have h := q_t c3 h
    refine q_bipush (pc := 38) C dX5_strike_38 cb_m2 ?_
    obtain rfl := Option.some.inj h
    exact q_iret (pc := 40) C dX5_strike_40
  · have h := q_f c3 h
    refine q_iload_n (pc := 11) C 2 rfl dX5_strike_11 rfl ?_
    obtain ⟨q4, hq4, h⟩ := q_bind h
    refine q_callS1 (pc := 12) (st := []) C (zX5_areLaws hq4) ys_X5_areLaws ml_RX5_224 rfl (by decide) rfl (Nat.le_of_ble_eq_true rfl) dX5_strike_12 ?_
    refine q_if_eq (pc := 15) C 38 dX5_strike_15 (by decide) (fun c5 => ?_) (fun c5 => ?_)
    · have h := q_t c5 h
      refine q_bipush (pc := 38) C dX5_strike_38 cb_m2 ?_
      obtain rfl := Option.some.inj h
      exact q_iret (pc := 40) C dX5_strike_40
    · have h := q_f c5 h
      refine q_iload_n (pc := 18) C 3 rfl dX5_strike_18 rfl ?_
      obtain ⟨q6, hq6, h⟩ := q_bind h
      refine q_callS1 (pc := 19) (st := []) C (zX5_isTwo hq6) ys_X5_isTwo ml_RX5_89 rfl (by decide) rfl (Nat.le_of_ble_eq_true rfl) dX5_strike_19 ?_
      refine q_if_eq (pc := 22) C 38 dX5_strike_22 (by decide) (fun c7 => ?_) (fun c7 => ?_)
      · have h := q_t c7 h
        refine q_bipush (pc := 38) C dX5_strike_38 cb_m2 ?_
        obtain rfl := Option.some.inj h
        exact q_iret (pc := 40) C dX5_strike_40
      · have h := q_f c7 h
        refine q_aload_n (pc := 25) C 0 rfl dX5_strike_25 rfl ?_
        refine q_iload_n (pc := 26) C 1 rfl dX5_strike_26 rfl ?_
        refine q_iload_n (pc := 27) C 2 rfl dX5_strike_27 rfl ?_
        obtain ⟨q8, hq8, h⟩ := q_bind h
        refine q_callV1 (pc := 28) (st := []) C (zX5_strikeOf hq8) yi_X5_strikeOf ml_RX5_236 kM_0 rfl (by decide) rfl (Nat.le_of_ble_eq_true rfl) dX5_strike_28 ?_
        refine q_iload_n (pc := 31) C 3 rfl dX5_strike_31 rfl ?_
        obtain ⟨q9, hq9, h⟩ := q_bind h
        refine q_callS1 (pc := 32) (st := []) C (zX5_tells hq9) ys_X5_tells ml_RX5_233 rfl (by decide) rfl (Nat.le_of_ble_eq_true rfl) dX5_strike_32 ?_
        refine q_goto (pc := 35) C 40 dX5_strike_35 (by decide) ?_
        obtain rfl := Option.some.inj h
        exact q_iret (pc := 40) C dX5_strike_40
/-! X5_isFree -/
theorem tX5_isFree_45 {X : qX} {G : qG} (C : qC sM X G RX5 cX5_isFree 5 0 (some .boolean)) (k5 : qM → Int32 → Int32 → Int32 → Int32 → Option (Int32 × qM)) (hk5 : ∀ (σ : qM) (x1 : Int32) (x2 : Int32) (x3 : Int32) (x4 : Int32) (res : (Int32 × qM)), k5 σ x1 x2 x3 x4 = some res → qY sM X G 5 (q_Q sM X G (some (.int res.1)) res.2) σ 5 [(0, .ref (q_ad G 0)), (1, .int x1), (2, .int x2), (3, .int x3), (4, .int x4)] []) (σ : qM) (x1 : Int32) (x2 : Int32) (x4 : Int32) (t0 : Int32) (res : (Int32 × qM))  (h : fX5_isFree_45 k5 σ x1 x2 x4 t0 = some res) : qY sM X G 5 (q_Q sM X G (some (.int res.1)) res.2) σ 45 [(0, .ref (q_ad G 0)), (1, .int x1), (2, .int x2), (4, .int x4)] [.int t0] := by
  unfold fX5_isFree_45 at h
  refine q_istore_n (pc := 45) C dX5_isFree_45 rfl (by decide) rfl ?_
  refine q_inc (pc := 46) C 4 rfl ci_1 dX5_isFree_46 (by decide) rfl ?_
  refine q_goto (pc := 49) C 5 dX5_isFree_49 (by decide) ?_
  refine q_sub [2, 3, 4, 1, 0] rfl ?_
  exact hk5 _ _ _ _ _ _ h
theorem tX5_isFree_40 {X : qX} {G : qG} (C : qC sM X G RX5 cX5_isFree 5 0 (some .boolean)) (k5 : qM → Int32 → Int32 → Int32 → Int32 → Option (Int32 × qM)) (hk5 : ∀ (σ : qM) (x1 : Int32) (x2 : Int32) (x3 : Int32) (x4 : Int32) (res : (Int32 × qM)), k5 σ x1 x2 x3 x4 = some res → qY sM X G 5 (q_Q sM X G (some (.int res.1)) res.2) σ 5 [(0, .ref (q_ad G 0)), (1, .int x1), (2, .int x2), (3, .int x3), (4, .int x4)] []) (σ : qM) (x1 : Int32) (x2 : Int32) (x4 : Int32) (res : (Int32 × qM))  (h : fX5_isFree_40 k5 σ x1 x2 x4 = some res) : qY sM X G 5 (q_Q sM X G (some (.int res.1)) res.2) σ 40 [(0, .ref (q_ad G 0)), (1, .int x1), (2, .int x2), (4, .int x4)] [] := by
  unfold fX5_isFree_40 at h
  refine q_iconst (pc := 40) C dX5_isFree_40 ci_1 ?_
  refine q_goto (pc := 41) C 45 dX5_isFree_41 (by decide) ?_
  exact tX5_isFree_45 C k5 hk5 _ _ _ _ _ _ h
theorem tX5_isFree_44 {X : qX} {G : qG} (C : qC sM X G RX5 cX5_isFree 5 0 (some .boolean)) (k5 : qM → Int32 → Int32 → Int32 → Int32 → Option (Int32 × qM)) (hk5 : ∀ (σ : qM) (x1 : Int32) (x2 : Int32) (x3 : Int32) (x4 : Int32) (res : (Int32 × qM)), k5 σ x1 x2 x3 x4 = some res → qY sM X G 5 (q_Q sM X G (some (.int res.1)) res.2) σ 5 [(0, .ref (q_ad G 0)), (1, .int x1), (2, .int x2), (3, .int x3), (4, .int x4)] []) (σ : qM) (x1 : Int32) (x2 : Int32) (x4 : Int32) (res : (Int32 × qM))  (h : fX5_isFree_44 k5 σ x1 x2 x4 = some res) : qY sM X G 5 (q_Q sM X G (some (.int res.1)) res.2) σ 44 [(0, .ref (q_ad G 0)), (1, .int x1), (2, .int x2), (4, .int x4)] [] := by
  unfold fX5_isFree_44 at h
  refine q_iconst (pc := 44) C dX5_isFree_44 ci_0 ?_
  exact tX5_isFree_45 C k5 hk5 _ _ _ _ _ _ h
theorem uX5_isFree_5 {X : qX} {G : qG} (C : qC sM X G RX5 cX5_isFree 5 0 (some .boolean)) (k5 : qM → Int32 → Int32 → Int32 → Int32 → Option (Int32 × qM)) (hk5 : ∀ (σ : qM) (x1 : Int32) (x2 : Int32) (x3 : Int32) (x4 : Int32) (res : (Int32 × qM)), k5 σ x1 x2 x3 x4 = some res → qY sM X G 5 (q_Q sM X G (some (.int res.1)) res.2) σ 5 [(0, .ref (q_ad G 0)), (1, .int x1), (2, .int x2), (3, .int x3), (4, .int x4)] []) (σ : qM) (x1 : Int32) (x2 : Int32) (x3 : Int32) (x4 : Int32) (res : (Int32 × qM))  (h : bX5_isFree_5 k5 σ x1 x2 x3 x4 = some res) : qY sM X G 5 (q_Q sM X G (some (.int res.1)) res.2) σ 5 [(0, .ref (q_ad G 0)), (1, .int x1), (2, .int x2), (3, .int x3), (4, .int x4)] [] := by
  unfold bX5_isFree_5 at h
  refine q_iload (pc := 5) C 4 rfl dX5_isFree_5 ?_
  refine q_aload_n (pc := 7) C 0 rfl dX5_isFree_7 rfl ?_
  refine q_getI (pc := 8) C fl_RX5_103 kM_0 rfl dX5_isFree_8 ?_
  refine q_ic_ge (pc := 11) C 52 dX5_isFree_11 (by decide) (fun c1 => ?_) (fun c1 => ?_)
  · have h := q_t c1 h
    refine q_iload_n (pc := 52) C 3 rfl dX5_isFree_52 rfl ?_
    obtain ⟨g2, h⟩ := q_guard h
    obtain rfl := Option.some.inj h
    exact q_zret (pc := 53) C g2 dX5_isFree_53
  · have h := q_f c1 h
    refine q_iload_n (pc := 14) C 3 rfl dX5_isFree_14 rfl ?_
    refine q_if_eq (pc := 15) C 44 dX5_isFree_15 (by decide) (fun c3 => ?_) (fun c3 => ?_)
    · have h := q_t c3 h
      refine q_sub [0, 1, 2, 4] rfl ?_
      exact tX5_isFree_44 C k5 hk5 _ _ _ _ _ h
    · have h := q_f c3 h
      refine q_aload_n (pc := 18) C 0 rfl dX5_isFree_18 rfl ?_
      refine q_getR (pc := 19) (t := 12) C fl_RX5_43 kM_0 rfl rM_0_17 dX5_isFree_19 ?_
      refine q_iload (pc := 22) C 4 rfl dX5_isFree_22 ?_
      obtain ⟨g4, h⟩ := q_guard h
      refine q_iald (pc := 24) C kM_12 lM_12 g4 dX5_isFree_24 ?_
      refine q_iload_n (pc := 25) C 1 rfl dX5_isFree_25 rfl ?_
      refine q_ic_ne (pc := 26) C 40 dX5_isFree_26 (by decide) (fun c5 => ?_) (fun c5 => ?_)
      · have h := q_f c5 h
        refine q_sub [0, 1, 2, 4] rfl ?_
        exact tX5_isFree_40 C k5 hk5 _ _ _ _ _ h
      · have h := q_t c5 h
        refine q_aload_n (pc := 29) C 0 rfl dX5_isFree_29 rfl ?_
        refine q_getR (pc := 30) (t := 13) C fl_RX5_46 kM_0 rfl rM_0_18 dX5_isFree_30 ?_
        refine q_iload (pc := 33) C 4 rfl dX5_isFree_33 ?_
        obtain ⟨g6, h⟩ := q_guard h
        refine q_iald (pc := 35) C kM_13 lM_13 g6 dX5_isFree_35 ?_
        refine q_iload_n (pc := 36) C 2 rfl dX5_isFree_36 rfl ?_
        refine q_ic_eq (pc := 37) C 44 dX5_isFree_37 (by decide) (fun c7 => ?_) (fun c7 => ?_)
        · have h := q_t c7 h
          refine q_sub [0, 1, 2, 4] rfl ?_
          exact tX5_isFree_44 C k5 hk5 _ _ _ _ _ h
        · have h := q_f c7 h
          refine q_sub [0, 1, 2, 4] rfl ?_
          exact tX5_isFree_40 C k5 hk5 _ _ _ _ _ h
theorem tX5_isFree_5 {X : qX} {G : qG} (C : qC sM X G RX5 cX5_isFree 5 0 (some .boolean))  (σ : qM) (x1 : Int32) (x2 : Int32) (x3 : Int32) (x4 : Int32) (res : (Int32 × qM))  (h : fX5_isFree_5  σ x1 x2 x3 x4 = some res) : qY sM X G 5 (q_Q sM X G (some (.int res.1)) res.2) σ 5 [(0, .ref (q_ad G 0)), (1, .int x1), (2, .int x2), (3, .int x3), (4, .int x4)] [] := by
  have key : ∀ (n : Nat) (σ : qM) (x1 : Int32) (x2 : Int32) (x3 : Int32) (x4 : Int32) (res : (Int32 × qM)) , qlp (fun _ _ _ _ _ => none) (bX5_isFree_5 ) n σ x1 x2 x3 x4 = some res → qY sM X G 5 (q_Q sM X G (some (.int res.1)) res.2) σ 5 [(0, .ref (q_ad G 0)), (1, .int x1), (2, .int x2), (3, .int x3), (4, .int x4)] [] := by
    intro n
    induction n with
    | zero => intro σ x1 x2 x3 x4 res h; cases h
    | succ n ih => intro σ x1 x2 x3 x4 res h; exact uX5_isFree_5 C  (qlp (fun _ _ _ _ _ => none) (bX5_isFree_5 ) n) (fun σ x1 x2 x3 x4 res h => ih σ x1 x2 x3 x4 res h) σ x1 x2 x3 x4 res h
  exact key qFU σ x1 x2 x3 x4 res h
theorem zX5_isFree {G : qG} {l : Launch} {σ : qM} {x1 : Int32} {x2 : Int32} {res : (Int32 × qM)}  (h : fX5_isFree σ x1 x2 = some res) : qCon sM G l yX5_isFree cX5_isFree 5 (some .boolean) 0 [.ref (q_ad G 0), .int x1, .int x2] σ (some (.int res.1)) res.2 := by
  refine qCon.mkF (lv := [(0, .ref (q_ad G 0)), (1, .int x1), (2, .int x2)]) (plainFor_of_name (by decide)) (Nat.le_of_ble_eq_true rfl) rfl (fun X hX C => ?_)
  unfold fX5_isFree at h
  refine q_iconst (pc := 0) C dX5_isFree_0 ci_1 ?_
  refine q_istore_n (pc := 1) C dX5_isFree_1 rfl (by decide) rfl ?_
  refine q_iconst (pc := 2) C dX5_isFree_2 ci_0 ?_
  refine q_istore (pc := 3) C dX5_isFree_3 (by decide) rfl ?_
  refine q_sub [2, 3, 4, 1, 0] rfl ?_
  exact tX5_isFree_5 C _ _ _ _ _ _ h
/-! X5_placeOf -/
theorem tX5_placeOf_121 {X : qX} {G : qG} (C : qC sM X G RX5 cX5_placeOf 7 6 (some .int)) (k13 : qM → Int32 → Int32 → Int32 → Option (Int32 × qM)) (hk13 : ∀ (σ : qM) (x2 : Int32) (x3 : Int32) (x4 : Int32) (res : (Int32 × qM)), k13 σ x2 x3 x4 = some res → qY sM X G 7 (q_Q sM X G (some (.int res.1)) res.2) σ 13 [(0, .ref (q_ad G 0)), (2, .int x2), (3, .int x3), (4, .int x4)] []) (σ : qM) (x2 : Int32) (x3 : Int32) (x4 : Int32) (res : (Int32 × qM))  (h : fX5_placeOf_121 k13 σ x2 x3 x4 = some res) : qY sM X G 7 (q_Q sM X G (some (.int res.1)) res.2) σ 121 [(0, .ref (q_ad G 0)), (2, .int x2), (3, .int x3), (4, .int x4)] [] := by
  unfold fX5_placeOf_121 at h
  refine q_inc (pc := 121) C 3 rfl ci_1 dX5_placeOf_121 (by decide) rfl ?_
  refine q_goto (pc := 124) C 13 dX5_placeOf_124 (by decide) ?_
  refine q_sub [1, 2, 3, 0] rfl ?_
  exact hk13 _ _ _ _ _ h
theorem tX5_placeOf_98 {X : qX} {G : qG} (C : qC sM X G RX5 cX5_placeOf 7 6 (some .int)) (k13 : qM → Int32 → Int32 → Int32 → Option (Int32 × qM)) (hk13 : ∀ (σ : qM) (x2 : Int32) (x3 : Int32) (x4 : Int32) (res : (Int32 × qM)), k13 σ x2 x3 x4 = some res → qY sM X G 7 (q_Q sM X G (some (.int res.1)) res.2) σ 13 [(0, .ref (q_ad G 0)), (2, .int x2), (3, .int x3), (4, .int x4)] []) (σ : qM) (x2 : Int32) (x3 : Int32) (x4 : Int32) (res : (Int32 × qM))  (h : fX5_placeOf_98 k13 σ x2 x3 x4 = some res) : qY sM X G 7 (q_Q sM X G (some (.int res.1)) res.2) σ 98 [(0, .ref (q_ad G 0)), (2, .int x2), (3, .int x3), (4, .int x4)] [] := by
  unfold fX5_placeOf_98 at h
  refine q_aload_n (pc := 98) C 0 rfl dX5_placeOf_98 rfl ?_
  obtain ⟨q1, hq1, h⟩ := q_bind h
  refine q_callV0 (pc := 99) (st := []) C (zX5_laysOut hq1) yi_X5_laysOut ml_RX5_175 kM_0 rfl (by decide) rfl (Nat.le_of_ble_eq_true rfl) dX5_placeOf_99 ?_
  refine q_aload_n (pc := 102) C 0 rfl dX5_placeOf_102 rfl ?_
  refine q_aload_n (pc := 103) C 0 rfl dX5_placeOf_103 rfl ?_
  refine q_getI (pc := 104) C fl_RX5_161 kM_0 rfl dX5_placeOf_104 ?_
  obtain ⟨q2, hq2, h⟩ := q_bind h
  refine q_callV1 (pc := 107) (st := []) C (zX5_readBy hq2) yi_X5_readBy ml_RX5_190 kM_0 rfl (by decide) rfl (Nat.le_of_ble_eq_true rfl) dX5_placeOf_107 ?_
  refine q_iload_n (pc := 110) C 1 rfl dX5_placeOf_110 rfl ?_
  obtain ⟨q3, hq3, h⟩ := q_bind h
  refine q_callS1 (pc := 111) (st := []) C (zX5_isIn hq3) ys_X5_isIn ml_RX5_178 rfl (by decide) rfl (Nat.le_of_ble_eq_true rfl) dX5_placeOf_111 ?_
  refine q_iload_n (pc := 114) C 2 rfl dX5_placeOf_114 rfl ?_
  refine q_ic_eq (pc := 115) C 121 dX5_placeOf_115 (by decide) (fun c4 => ?_) (fun c4 => ?_)
  · have h := q_t c4 h
    exact tX5_placeOf_121 C k13 hk13 _ _ _ _ _ h
  · have h := q_f c4 h
    refine q_iload (pc := 118) C 3 rfl dX5_placeOf_118 ?_
    obtain rfl := Option.some.inj h
    exact q_iret (pc := 120) C dX5_placeOf_120
theorem tX5_placeOf_88 {X : qX} {G : qG} (C : qC sM X G RX5 cX5_placeOf 7 6 (some .int)) (k13 : qM → Int32 → Int32 → Int32 → Option (Int32 × qM)) (hk13 : ∀ (σ : qM) (x2 : Int32) (x3 : Int32) (x4 : Int32) (res : (Int32 × qM)), k13 σ x2 x3 x4 = some res → qY sM X G 7 (q_Q sM X G (some (.int res.1)) res.2) σ 13 [(0, .ref (q_ad G 0)), (2, .int x2), (3, .int x3), (4, .int x4)] []) (σ : qM) (x2 : Int32) (x3 : Int32) (x4 : Int32) (res : (Int32 × qM))  (h : fX5_placeOf_88 k13 σ x2 x3 x4 = some res) : qY sM X G 7 (q_Q sM X G (some (.int res.1)) res.2) σ 88 [(0, .ref (q_ad G 0)), (2, .int x2), (3, .int x3), (4, .int x4)] [] := by
  unfold fX5_placeOf_88 at h
  refine q_aload_n (pc := 88) C 0 rfl dX5_placeOf_88 rfl ?_
  refine q_aload_n (pc := 89) C 0 rfl dX5_placeOf_89 rfl ?_
  refine q_getI (pc := 90) C fl_RX5_103 kM_0 rfl dX5_placeOf_90 ?_
  refine q_iconst (pc := 93) C dX5_placeOf_93 ci_1 ?_
  refine q_iadd (pc := 94) C dX5_placeOf_94 ?_
  refine q_putI (pc := 95) C fl_RX5_154 kM_0 rfl rfl rfl dX5_placeOf_95 ?_
  exact tX5_placeOf_98 C k13 hk13 _ _ _ _ _ h
theorem tX5_placeOf_77 {X : qX} {G : qG} (C : qC sM X G RX5 cX5_placeOf 7 6 (some .int)) (k13 : qM → Int32 → Int32 → Int32 → Option (Int32 × qM)) (hk13 : ∀ (σ : qM) (x2 : Int32) (x3 : Int32) (x4 : Int32) (res : (Int32 × qM)), k13 σ x2 x3 x4 = some res → qY sM X G 7 (q_Q sM X G (some (.int res.1)) res.2) σ 13 [(0, .ref (q_ad G 0)), (2, .int x2), (3, .int x3), (4, .int x4)] []) (σ : qM) (x2 : Int32) (x3 : Int32) (x4 : Int32) (x6 : Int32) (res : (Int32 × qM))  (h : fX5_placeOf_77 k13 σ x2 x3 x4 x6 = some res) : qY sM X G 7 (q_Q sM X G (some (.int res.1)) res.2) σ 77 [(0, .ref (q_ad G 0)), (2, .int x2), (3, .int x3), (4, .int x4), (6, .int x6)] [] := by
  unfold fX5_placeOf_77 at h
  refine q_aload_n (pc := 77) C 0 rfl dX5_placeOf_77 rfl ?_
  refine q_getR (pc := 78) (t := 13) C fl_RX5_46 kM_0 rfl rM_0_18 dX5_placeOf_78 ?_
  refine q_aload_n (pc := 81) C 0 rfl dX5_placeOf_81 rfl ?_
  refine q_getI (pc := 82) C fl_RX5_103 kM_0 rfl dX5_placeOf_82 ?_
  refine q_iload (pc := 85) C 4 rfl dX5_placeOf_85 ?_
  obtain ⟨g1, h⟩ := q_guard h
  refine q_iast (pc := 87) C kM_13 lM_13 g1 dX5_placeOf_87 ?_
  refine q_sub [0, 1, 2, 3] rfl ?_
  exact tX5_placeOf_88 C k13 hk13 _ _ _ _ _ h
theorem tX5_placeOf_66 {X : qX} {G : qG} (C : qC sM X G RX5 cX5_placeOf 7 6 (some .int)) (k13 : qM → Int32 → Int32 → Int32 → Option (Int32 × qM)) (hk13 : ∀ (σ : qM) (x2 : Int32) (x3 : Int32) (x4 : Int32) (res : (Int32 × qM)), k13 σ x2 x3 x4 = some res → qY sM X G 7 (q_Q sM X G (some (.int res.1)) res.2) σ 13 [(0, .ref (q_ad G 0)), (2, .int x2), (3, .int x3), (4, .int x4)] []) (σ : qM) (x2 : Int32) (x3 : Int32) (x4 : Int32) (x5 : Int32) (x6 : Int32) (res : (Int32 × qM))  (h : fX5_placeOf_66 k13 σ x2 x3 x4 x5 x6 = some res) : qY sM X G 7 (q_Q sM X G (some (.int res.1)) res.2) σ 66 [(0, .ref (q_ad G 0)), (2, .int x2), (3, .int x3), (4, .int x4), (5, .int x5), (6, .int x6)] [] := by
  unfold fX5_placeOf_66 at h
  refine q_aload_n (pc := 66) C 0 rfl dX5_placeOf_66 rfl ?_
  refine q_getR (pc := 67) (t := 12) C fl_RX5_43 kM_0 rfl rM_0_17 dX5_placeOf_67 ?_
  refine q_aload_n (pc := 70) C 0 rfl dX5_placeOf_70 rfl ?_
  refine q_getI (pc := 71) C fl_RX5_103 kM_0 rfl dX5_placeOf_71 ?_
  refine q_iload (pc := 74) C 4 rfl dX5_placeOf_74 ?_
  obtain ⟨g1, h⟩ := q_guard h
  refine q_iast (pc := 76) C kM_12 lM_12 g1 dX5_placeOf_76 ?_
  refine q_sub [0, 1, 2, 3, 5] rfl ?_
  exact tX5_placeOf_77 C k13 hk13 _ _ _ _ _ _ h
theorem tX5_placeOf_37 {X : qX} {G : qG} (C : qC sM X G RX5 cX5_placeOf 7 6 (some .int)) (k13 : qM → Int32 → Int32 → Int32 → Option (Int32 × qM)) (hk13 : ∀ (σ : qM) (x2 : Int32) (x3 : Int32) (x4 : Int32) (res : (Int32 × qM)), k13 σ x2 x3 x4 = some res → qY sM X G 7 (q_Q sM X G (some (.int res.1)) res.2) σ 13 [(0, .ref (q_ad G 0)), (2, .int x2), (3, .int x3), (4, .int x4)] []) (σ : qM) (x2 : Int32) (x3 : Int32) (x4 : Int32) (x5 : Int32) (x6 : Int32) (res : (Int32 × qM))  (h : fX5_placeOf_37 k13 σ x2 x3 x4 x5 x6 = some res) : qY sM X G 7 (q_Q sM X G (some (.int res.1)) res.2) σ 37 [(0, .ref (q_ad G 0)), (2, .int x2), (3, .int x3), (4, .int x4), (5, .int x5), (6, .int x6)] [] := by
  unfold fX5_placeOf_37 at h
  refine q_aload_n (pc := 37) C 0 rfl dX5_placeOf_37 rfl ?_
  refine q_iload (pc := 38) C 4 rfl dX5_placeOf_38 ?_
  refine q_iload (pc := 40) C 5 rfl dX5_placeOf_40 ?_
  obtain ⟨q1, hq1, h⟩ := q_bind h
  refine q_callV1 (pc := 42) (st := []) C (zX5_isFree hq1) yi_X5_isFree ml_RX5_239 kM_0 rfl (by decide) rfl (Nat.le_of_ble_eq_true rfl) dX5_placeOf_42 ?_
  refine q_if_eq (pc := 45) C 121 dX5_placeOf_45 (by decide) (fun c2 => ?_) (fun c2 => ?_)
  · have h := q_t c2 h
    refine q_sub [0, 1, 2, 3] rfl ?_
    exact tX5_placeOf_121 C k13 hk13 _ _ _ _ _ h
  · have h := q_f c2 h
    refine q_aload_n (pc := 48) C 0 rfl dX5_placeOf_48 rfl ?_
    refine q_getR (pc := 49) (t := 7) C fl_RX5_28 kM_0 rfl rM_0_9 dX5_placeOf_49 ?_
    refine q_iconst (pc := 52) C dX5_placeOf_52 ci_3 ?_
    refine q_aload_n (pc := 53) C 0 rfl dX5_placeOf_53 rfl ?_
    refine q_getI (pc := 54) C fl_RX5_103 kM_0 rfl dX5_placeOf_54 ?_
    refine q_imul (pc := 57) C dX5_placeOf_57 ?_
    refine q_iconst (pc := 58) C dX5_placeOf_58 ci_2 ?_
    refine q_iadd (pc := 59) C dX5_placeOf_59 ?_
    refine q_iload (pc := 60) C 3 rfl dX5_placeOf_60 ?_
    refine q_bipush (pc := 62) C dX5_placeOf_62 cb_36 ?_
    refine q_idiv (pc := 64) C dX5_placeOf_64 (by decide) ?_
    obtain ⟨g3, h⟩ := q_guard h
    refine q_iast (pc := 65) C kM_7 lM_7 g3 dX5_placeOf_65 ?_
    exact tX5_placeOf_66 C k13 hk13 _ _ _ _ _ _ _ h
theorem tX5_placeOf_27 {X : qX} {G : qG} (C : qC sM X G RX5 cX5_placeOf 7 6 (some .int)) (k13 : qM → Int32 → Int32 → Int32 → Option (Int32 × qM)) (hk13 : ∀ (σ : qM) (x2 : Int32) (x3 : Int32) (x4 : Int32) (res : (Int32 × qM)), k13 σ x2 x3 x4 = some res → qY sM X G 7 (q_Q sM X G (some (.int res.1)) res.2) σ 13 [(0, .ref (q_ad G 0)), (2, .int x2), (3, .int x3), (4, .int x4)] []) (σ : qM) (x2 : Int32) (x3 : Int32) (x4 : Int32) (x5 : Int32) (res : (Int32 × qM))  (h : fX5_placeOf_27 k13 σ x2 x3 x4 x5 = some res) : qY sM X G 7 (q_Q sM X G (some (.int res.1)) res.2) σ 27 [(0, .ref (q_ad G 0)), (2, .int x2), (3, .int x3), (4, .int x4), (5, .int x5)] [] := by
  unfold fX5_placeOf_27 at h
  refine q_iload (pc := 27) C 3 rfl dX5_placeOf_27 ?_
  refine q_bipush (pc := 29) C dX5_placeOf_29 cb_6 ?_
  refine q_idiv (pc := 31) C dX5_placeOf_31 (by decide) ?_
  refine q_bipush (pc := 32) C dX5_placeOf_32 cb_6 ?_
  refine q_rem (pc := 34) C dX5_placeOf_34 (by decide) ?_
  refine q_istore (pc := 35) C dX5_placeOf_35 (by decide) rfl ?_
  refine q_sub [1, 2, 3, 4, 5, 0] rfl ?_
  exact tX5_placeOf_37 C k13 hk13 _ _ _ _ _ _ _ h
theorem uX5_placeOf_13 {X : qX} {G : qG} (C : qC sM X G RX5 cX5_placeOf 7 6 (some .int)) (k13 : qM → Int32 → Int32 → Int32 → Option (Int32 × qM)) (hk13 : ∀ (σ : qM) (x2 : Int32) (x3 : Int32) (x4 : Int32) (res : (Int32 × qM)), k13 σ x2 x3 x4 = some res → qY sM X G 7 (q_Q sM X G (some (.int res.1)) res.2) σ 13 [(0, .ref (q_ad G 0)), (2, .int x2), (3, .int x3), (4, .int x4)] []) (σ : qM) (x2 : Int32) (x3 : Int32) (x4 : Int32) (res : (Int32 × qM))  (h : bX5_placeOf_13 k13 σ x2 x3 x4 = some res) : qY sM X G 7 (q_Q sM X G (some (.int res.1)) res.2) σ 13 [(0, .ref (q_ad G 0)), (2, .int x2), (3, .int x3), (4, .int x4)] [] := by
  unfold bX5_placeOf_13 at h
  refine q_iload (pc := 13) C 3 rfl dX5_placeOf_13 ?_
  refine q_bipush (pc := 15) C dX5_placeOf_15 cb_108 ?_
  refine q_ic_ge (pc := 17) C 127 dX5_placeOf_17 (by decide) (fun c1 => ?_) (fun c1 => ?_)
  · have h := q_t c1 h
    refine q_iconst (pc := 127) C dX5_placeOf_127 ci_m1 ?_
    obtain rfl := Option.some.inj h
    exact q_iret (pc := 128) C dX5_placeOf_128
  · have h := q_f c1 h
    refine q_iload (pc := 20) C 3 rfl dX5_placeOf_20 ?_
    refine q_bipush (pc := 22) C dX5_placeOf_22 cb_6 ?_
    refine q_rem (pc := 24) C dX5_placeOf_24 (by decide) ?_
    refine q_istore (pc := 25) C dX5_placeOf_25 (by decide) rfl ?_
    refine q_sub [1, 2, 3, 4, 0] rfl ?_
    exact tX5_placeOf_27 C k13 hk13 _ _ _ _ _ _ h
theorem tX5_placeOf_13 {X : qX} {G : qG} (C : qC sM X G RX5 cX5_placeOf 7 6 (some .int))  (σ : qM) (x2 : Int32) (x3 : Int32) (x4 : Int32) (res : (Int32 × qM))  (h : fX5_placeOf_13  σ x2 x3 x4 = some res) : qY sM X G 7 (q_Q sM X G (some (.int res.1)) res.2) σ 13 [(0, .ref (q_ad G 0)), (2, .int x2), (3, .int x3), (4, .int x4)] [] := by
  have key : ∀ (n : Nat) (σ : qM) (x2 : Int32) (x3 : Int32) (x4 : Int32) (res : (Int32 × qM)) , qlp (fun _ _ _ _ => none) (bX5_placeOf_13 ) n σ x2 x3 x4 = some res → qY sM X G 7 (q_Q sM X G (some (.int res.1)) res.2) σ 13 [(0, .ref (q_ad G 0)), (2, .int x2), (3, .int x3), (4, .int x4)] [] := by
    intro n
    induction n with
    | zero => intro σ x2 x3 x4 res h; cases h
    | succ n ih => intro σ x2 x3 x4 res h; exact uX5_placeOf_13 C  (qlp (fun _ _ _ _ => none) (bX5_placeOf_13 ) n) (fun σ x2 x3 x4 res h => ih σ x2 x3 x4 res h) σ x2 x3 x4 res h
  exact key qFU σ x2 x3 x4 res h
theorem zX5_placeOf {G : qG} {l : Launch} {σ : qM} {x1 : Int32} {x2 : Int32} {res : (Int32 × qM)}  (h : fX5_placeOf σ x1 x2 = some res) : qCon sM G l yX5_placeOf cX5_placeOf 7 (some .int) 6 [.ref (q_ad G 0), .int x1, .int x2] σ (some (.int res.1)) res.2 := by
  refine qCon.mkF (lv := [(0, .ref (q_ad G 0)), (1, .int x1), (2, .int x2)]) (plainFor_of_name (by decide)) (Nat.le_of_ble_eq_true rfl) rfl (fun X hX C => ?_)
  unfold fX5_placeOf at h
  refine q_aload_n (pc := 0) C 0 rfl dX5_placeOf_0 rfl ?_
  refine q_iload_n (pc := 1) C 1 rfl dX5_placeOf_1 rfl ?_
  obtain ⟨q1, hq1, h⟩ := q_bind h
  refine q_callV1 (pc := 2) (st := []) C (zX5_readNow hq1) yi_X5_readNow ml_RX5_203 kM_0 rfl (by decide) rfl (Nat.le_of_ble_eq_true rfl) dX5_placeOf_2 ?_
  refine q_iload_n (pc := 5) C 2 rfl dX5_placeOf_5 rfl ?_
  obtain ⟨q2, hq2, h⟩ := q_bind h
  refine q_callS1 (pc := 6) (st := []) C (zX5_isIn hq2) ys_X5_isIn ml_RX5_178 rfl (by decide) rfl (Nat.le_of_ble_eq_true rfl) dX5_placeOf_6 ?_
  refine q_istore_n (pc := 9) C dX5_placeOf_9 rfl (by decide) rfl ?_
  refine q_iconst (pc := 10) C dX5_placeOf_10 ci_0 ?_
  refine q_istore (pc := 11) C dX5_placeOf_11 (by decide) rfl ?_
  refine q_sub [2, 4, 1, 0] rfl ?_
  exact tX5_placeOf_13 C _ _ _ _ _ h
/-! X5_place -/
theorem zX5_place {G : qG} {l : Launch} {σ : qM} {x1 : Int32} {x2 : Int32} {res : (Int32 × qM)}  (h : fX5_place σ x1 x2 = some res) : qCon sM G l yX5_place cX5_place 3 (some .int) 7 [.ref (q_ad G 0), .int x1, .int x2] σ (some (.int res.1)) res.2 := by
  refine qCon.mkF (lv := [(0, .ref (q_ad G 0)), (1, .int x1), (2, .int x2)]) (plainFor_of_name (by decide)) (Nat.le_of_ble_eq_true rfl) rfl (fun X hX C => ?_)
  unfold fX5_place at h
  refine q_aload_n (pc := 0) C 0 rfl dX5_place_0 rfl ?_
  obtain ⟨q1, hq1, h⟩ := q_bind h
  refine q_callV0 (pc := 1) (st := []) C (zX5_reads hq1) yi_X5_reads ml_RX5_129 kM_0 rfl (by decide) rfl (Nat.le_of_ble_eq_true rfl) dX5_place_1 ?_
  refine q_iload_n (pc := 4) C 1 rfl dX5_place_4 rfl ?_
  obtain ⟨q2, hq2, h⟩ := q_bind h
  refine q_callS1 (pc := 5) (st := []) C (zX5_areTurns hq2) ys_X5_areTurns ml_RX5_193 rfl (by decide) rfl (Nat.le_of_ble_eq_true rfl) dX5_place_5 ?_
  refine q_if_eq (pc := 8) C 27 dX5_place_8 (by decide) (fun c3 => ?_) (fun c3 => ?_)
  · have h := q_t c3 h
    refine q_bipush (pc := 27) C dX5_place_27 cb_m2 ?_
    obtain rfl := Option.some.inj h
    exact q_iret (pc := 29) C dX5_place_29
  · have h := q_f c3 h
    refine q_iload_n (pc := 11) C 2 rfl dX5_place_11 rfl ?_
    obtain ⟨q4, hq4, h⟩ := q_bind h
    refine q_callS1 (pc := 12) (st := []) C (zX5_isLaw hq4) ys_X5_isLaw ml_RX5_145 rfl (by decide) rfl (Nat.le_of_ble_eq_true rfl) dX5_place_12 ?_
    refine q_if_eq (pc := 15) C 27 dX5_place_15 (by decide) (fun c5 => ?_) (fun c5 => ?_)
    · have h := q_t c5 h
      refine q_bipush (pc := 27) C dX5_place_27 cb_m2 ?_
      obtain rfl := Option.some.inj h
      exact q_iret (pc := 29) C dX5_place_29
    · have h := q_f c5 h
      refine q_aload_n (pc := 18) C 0 rfl dX5_place_18 rfl ?_
      refine q_iload_n (pc := 19) C 1 rfl dX5_place_19 rfl ?_
      refine q_iload_n (pc := 20) C 2 rfl dX5_place_20 rfl ?_
      obtain ⟨q6, hq6, h⟩ := q_bind h
      refine q_callV1 (pc := 21) (st := []) C (zX5_placeOf hq6) yi_X5_placeOf ml_RX5_242 kM_0 rfl (by decide) rfl (Nat.le_of_ble_eq_true rfl) dX5_place_21 ?_
      refine q_goto (pc := 24) C 29 dX5_place_24 (by decide) ?_
      obtain rfl := Option.some.inj h
      exact q_iret (pc := 29) C dX5_place_29
/-! X5_sidesOf -/
theorem tX5_sidesOf_45 {X : qX} {G : qG} (C : qC sM X G RX5 cX5_sidesOf 4 6 (some .int)) (k2 : qM → Int32 → Int32 → Int32 → Option (Int32 × qM)) (hk2 : ∀ (σ : qM) (x1 : Int32) (x2 : Int32) (x3 : Int32) (res : (Int32 × qM)), k2 σ x1 x2 x3 = some res → qY sM X G 4 (q_Q sM X G (some (.int res.1)) res.2) σ 2 [(0, .ref (q_ad G 0)), (1, .int x1), (2, .int x2), (3, .int x3)] []) (σ : qM) (x1 : Int32) (x2 : Int32) (x3 : Int32) (res : (Int32 × qM))  (h : fX5_sidesOf_45 k2 σ x1 x2 x3 = some res) : qY sM X G 4 (q_Q sM X G (some (.int res.1)) res.2) σ 45 [(0, .ref (q_ad G 0)), (1, .int x1), (2, .int x2), (3, .int x3)] [] := by
  unfold fX5_sidesOf_45 at h
  refine q_inc (pc := 45) C 3 rfl ci_1 dX5_sidesOf_45 (by decide) rfl ?_
  refine q_goto (pc := 48) C 2 dX5_sidesOf_48 (by decide) ?_
  refine q_sub [1, 2, 3, 0] rfl ?_
  exact hk2 _ _ _ _ _ h
theorem uX5_sidesOf_2 {X : qX} {G : qG} (C : qC sM X G RX5 cX5_sidesOf 4 6 (some .int)) (k2 : qM → Int32 → Int32 → Int32 → Option (Int32 × qM)) (hk2 : ∀ (σ : qM) (x1 : Int32) (x2 : Int32) (x3 : Int32) (res : (Int32 × qM)), k2 σ x1 x2 x3 = some res → qY sM X G 4 (q_Q sM X G (some (.int res.1)) res.2) σ 2 [(0, .ref (q_ad G 0)), (1, .int x1), (2, .int x2), (3, .int x3)] []) (σ : qM) (x1 : Int32) (x2 : Int32) (x3 : Int32) (res : (Int32 × qM))  (h : bX5_sidesOf_2 k2 σ x1 x2 x3 = some res) : qY sM X G 4 (q_Q sM X G (some (.int res.1)) res.2) σ 2 [(0, .ref (q_ad G 0)), (1, .int x1), (2, .int x2), (3, .int x3)] [] := by
  unfold bX5_sidesOf_2 at h
  refine q_iload_n (pc := 2) C 3 rfl dX5_sidesOf_2 rfl ?_
  refine q_iconst (pc := 3) C dX5_sidesOf_3 ci_4 ?_
  refine q_ic_ge (pc := 4) C 51 dX5_sidesOf_4 (by decide) (fun c1 => ?_) (fun c1 => ?_)
  · have h := q_t c1 h
    refine q_iload_n (pc := 51) C 2 rfl dX5_sidesOf_51 rfl ?_
    refine q_if_ne (pc := 52) C 59 dX5_sidesOf_52 (by decide) (fun c2 => ?_) (fun c2 => ?_)
    · have h := q_f c2 h
      refine q_iconst (pc := 59) C dX5_sidesOf_59 ci_m1 ?_
      obtain rfl := Option.some.inj h
      exact q_iret (pc := 60) C dX5_sidesOf_60
    · have h := q_t c2 h
      refine q_iconst (pc := 55) C dX5_sidesOf_55 ci_0 ?_
      refine q_goto (pc := 56) C 60 dX5_sidesOf_56 (by decide) ?_
      obtain rfl := Option.some.inj h
      exact q_iret (pc := 60) C dX5_sidesOf_60
  · have h := q_f c1 h
    refine q_aload_n (pc := 7) C 0 rfl dX5_sidesOf_7 rfl ?_
    refine q_iload_n (pc := 8) C 3 rfl dX5_sidesOf_8 rfl ?_
    obtain ⟨q3, hq3, h⟩ := q_bind h
    refine q_callV1 (pc := 9) (st := []) C (zX5_readNow hq3) yi_X5_readNow ml_RX5_203 kM_0 rfl (by decide) rfl (Nat.le_of_ble_eq_true rfl) dX5_sidesOf_9 ?_
    refine q_iload_n (pc := 12) C 1 rfl dX5_sidesOf_12 rfl ?_
    obtain ⟨q4, hq4, h⟩ := q_bind h
    refine q_callS1 (pc := 13) (st := []) C (zX5_isIn hq4) ys_X5_isIn ml_RX5_178 rfl (by decide) rfl (Nat.le_of_ble_eq_true rfl) dX5_sidesOf_13 ?_
    refine q_if_eq (pc := 16) C 45 dX5_sidesOf_16 (by decide) (fun c5 => ?_) (fun c5 => ?_)
    · have h := q_t c5 h
      exact tX5_sidesOf_45 C k2 hk2 _ _ _ _ _ h
    · have h := q_f c5 h
      refine q_aload_n (pc := 19) C 0 rfl dX5_sidesOf_19 rfl ?_
      refine q_iload_n (pc := 20) C 3 rfl dX5_sidesOf_20 rfl ?_
      refine q_iconst (pc := 21) C dX5_sidesOf_21 ci_1 ?_
      refine q_iadd (pc := 22) C dX5_sidesOf_22 ?_
      refine q_iconst (pc := 23) C dX5_sidesOf_23 ci_4 ?_
      refine q_rem (pc := 24) C dX5_sidesOf_24 (by decide) ?_
      obtain ⟨q6, hq6, h⟩ := q_bind h
      refine q_callV1 (pc := 25) (st := []) C (zX5_readNow hq6) yi_X5_readNow ml_RX5_203 kM_0 rfl (by decide) rfl (Nat.le_of_ble_eq_true rfl) dX5_sidesOf_25 ?_
      refine q_iload_n (pc := 28) C 1 rfl dX5_sidesOf_28 rfl ?_
      obtain ⟨q7, hq7, h⟩ := q_bind h
      refine q_callS1 (pc := 29) (st := []) C (zX5_isIn hq7) ys_X5_isIn ml_RX5_178 rfl (by decide) rfl (Nat.le_of_ble_eq_true rfl) dX5_sidesOf_29 ?_
      refine q_if_eq (pc := 32) C 45 dX5_sidesOf_32 (by decide) (fun c8 => ?_) (fun c8 => ?_)
      · have h := q_t c8 h
        exact tX5_sidesOf_45 C k2 hk2 _ _ _ _ _ h
      · have h := q_f c8 h
        refine q_iload_n (pc := 35) C 2 rfl dX5_sidesOf_35 rfl ?_
        refine q_if_ne (pc := 36) C 43 dX5_sidesOf_36 (by decide) (fun c9 => ?_) (fun c9 => ?_)
        · have h := q_f c9 h
          refine q_iload_n (pc := 43) C 3 rfl dX5_sidesOf_43 rfl ?_
          obtain rfl := Option.some.inj h
          exact q_iret (pc := 44) C dX5_sidesOf_44
        · have h := q_t c9 h
          refine q_iconst (pc := 39) C dX5_sidesOf_39 ci_1 ?_
          refine q_goto (pc := 40) C 44 dX5_sidesOf_40 (by decide) ?_
          obtain rfl := Option.some.inj h
          exact q_iret (pc := 44) C dX5_sidesOf_44
theorem tX5_sidesOf_2 {X : qX} {G : qG} (C : qC sM X G RX5 cX5_sidesOf 4 6 (some .int))  (σ : qM) (x1 : Int32) (x2 : Int32) (x3 : Int32) (res : (Int32 × qM))  (h : fX5_sidesOf_2  σ x1 x2 x3 = some res) : qY sM X G 4 (q_Q sM X G (some (.int res.1)) res.2) σ 2 [(0, .ref (q_ad G 0)), (1, .int x1), (2, .int x2), (3, .int x3)] [] := by
  have key : ∀ (n : Nat) (σ : qM) (x1 : Int32) (x2 : Int32) (x3 : Int32) (res : (Int32 × qM)) , qlp (fun _ _ _ _ => none) (bX5_sidesOf_2 ) n σ x1 x2 x3 = some res → qY sM X G 4 (q_Q sM X G (some (.int res.1)) res.2) σ 2 [(0, .ref (q_ad G 0)), (1, .int x1), (2, .int x2), (3, .int x3)] [] := by
    intro n
    induction n with
    | zero => intro σ x1 x2 x3 res h; cases h
    | succ n ih => intro σ x1 x2 x3 res h; exact uX5_sidesOf_2 C  (qlp (fun _ _ _ _ => none) (bX5_sidesOf_2 ) n) (fun σ x1 x2 x3 res h => ih σ x1 x2 x3 res h) σ x1 x2 x3 res h
  exact key qFU σ x1 x2 x3 res h
theorem zX5_sidesOf {G : qG} {l : Launch} {σ : qM} {x1 : Int32} {x2 : Int32} {res : (Int32 × qM)}  (h : fX5_sidesOf σ x1 x2 = some res) : qCon sM G l yX5_sidesOf cX5_sidesOf 4 (some .int) 6 [.ref (q_ad G 0), .int x1, .int x2] σ (some (.int res.1)) res.2 := by
  refine qCon.mkF (lv := [(0, .ref (q_ad G 0)), (1, .int x1), (2, .int x2)]) (plainFor_of_name (by decide)) (Nat.le_of_ble_eq_true rfl) rfl (fun X hX C => ?_)
  unfold fX5_sidesOf at h
  refine q_iconst (pc := 0) C dX5_sidesOf_0 ci_0 ?_
  refine q_istore_n (pc := 1) C dX5_sidesOf_1 rfl (by decide) rfl ?_
  refine q_sub [1, 2, 3, 0] rfl ?_
  exact tX5_sidesOf_2 C _ _ _ _ _ h
/-! X5_sides -/
theorem zX5_sides {G : qG} {l : Launch} {σ : qM} {x1 : Int32} {x2 : Int32} {res : (Int32 × qM)}  (h : fX5_sides σ x1 x2 = some res) : qCon sM G l yX5_sides cX5_sides 3 (some .int) 7 [.ref (q_ad G 0), .int x1, .int x2] σ (some (.int res.1)) res.2 := by
  refine qCon.mkF (lv := [(0, .ref (q_ad G 0)), (1, .int x1), (2, .int x2)]) (plainFor_of_name (by decide)) (Nat.le_of_ble_eq_true rfl) rfl (fun X hX C => ?_)
  unfold fX5_sides at h
  refine q_aload_n (pc := 0) C 0 rfl dX5_sides_0 rfl ?_
  obtain ⟨q1, hq1, h⟩ := q_bind h
  refine q_callV0 (pc := 1) (st := []) C (zX5_reads hq1) yi_X5_reads ml_RX5_129 kM_0 rfl (by decide) rfl (Nat.le_of_ble_eq_true rfl) dX5_sides_1 ?_
  refine q_iload_n (pc := 4) C 1 rfl dX5_sides_4 rfl ?_
  obtain ⟨q2, hq2, h⟩ := q_bind h
  refine q_callS1 (pc := 5) (st := []) C (zX5_isLaw hq2) ys_X5_isLaw ml_RX5_145 rfl (by decide) rfl (Nat.le_of_ble_eq_true rfl) dX5_sides_5 ?_
  refine q_if_eq (pc := 8) C 27 dX5_sides_8 (by decide) (fun c3 => ?_) (fun c3 => ?_)
  · have h := q_t c3 h
    refine q_bipush (pc := 27) C dX5_sides_27 cb_m2 ?_
    obtain rfl := Option.some.inj h
    exact q_iret (pc := 29) C dX5_sides_29
  · have h := q_f c3 h
    refine q_iload_n (pc := 11) C 2 rfl dX5_sides_11 rfl ?_
    obtain ⟨q4, hq4, h⟩ := q_bind h
    refine q_callS1 (pc := 12) (st := []) C (zX5_isTwo hq4) ys_X5_isTwo ml_RX5_89 rfl (by decide) rfl (Nat.le_of_ble_eq_true rfl) dX5_sides_12 ?_
    refine q_if_eq (pc := 15) C 27 dX5_sides_15 (by decide) (fun c5 => ?_) (fun c5 => ?_)
    · have h := q_t c5 h
      refine q_bipush (pc := 27) C dX5_sides_27 cb_m2 ?_
      obtain rfl := Option.some.inj h
      exact q_iret (pc := 29) C dX5_sides_29
    · have h := q_f c5 h
      refine q_aload_n (pc := 18) C 0 rfl dX5_sides_18 rfl ?_
      refine q_iload_n (pc := 19) C 1 rfl dX5_sides_19 rfl ?_
      refine q_iload_n (pc := 20) C 2 rfl dX5_sides_20 rfl ?_
      obtain ⟨q6, hq6, h⟩ := q_bind h
      refine q_callV1 (pc := 21) (st := []) C (zX5_sidesOf hq6) yi_X5_sidesOf ml_RX5_245 kM_0 rfl (by decide) rfl (Nat.le_of_ble_eq_true rfl) dX5_sides_21 ?_
      refine q_goto (pc := 24) C 29 dX5_sides_24 (by decide) ?_
      obtain rfl := Option.some.inj h
      exact q_iret (pc := 29) C dX5_sides_29
/-! X5_read -/
theorem tX5_read_65 {X : qX} {G : qG} (C : qC sM X G RX5 cX5_read 3 2 (some .int))  (σ : qM)  (res : (Int32 × qM))  (h : fX5_read_65  σ  = some res) : qY sM X G 3 (q_Q sM X G (some (.int res.1)) res.2) σ 65 [(0, .ref (q_ad G 0))] [] := by
  unfold fX5_read_65 at h
  refine q_aload_n (pc := 65) C 0 rfl dX5_read_65 rfl ?_
  refine q_getI (pc := 66) C fl_RX5_248 kM_0 rfl dX5_read_66 ?_
  obtain rfl := Option.some.inj h
  exact q_iret (pc := 69) C dX5_read_69
theorem tX5_read_55 {X : qX} {G : qG} (C : qC sM X G RX5 cX5_read 3 2 (some .int))  (σ : qM)  (res : (Int32 × qM))  (h : fX5_read_55  σ  = some res) : qY sM X G 3 (q_Q sM X G (some (.int res.1)) res.2) σ 55 [(0, .ref (q_ad G 0))] [] := by
  unfold fX5_read_55 at h
  refine q_aload_n (pc := 55) C 0 rfl dX5_read_55 rfl ?_
  refine q_dup (pc := 56) C dX5_read_56 rfl ?_
  refine q_getI (pc := 57) C fl_RX5_248 kM_0 rfl dX5_read_57 ?_
  refine q_iconst (pc := 60) C dX5_read_60 ci_1 ?_
  refine q_iadd (pc := 61) C dX5_read_61 ?_
  refine q_putI (pc := 62) C fl_RX5_248 kM_0 rfl rfl rfl dX5_read_62 ?_
  exact tX5_read_65 C _ _ h
theorem tX5_read_41 {X : qX} {G : qG} (C : qC sM X G RX5 cX5_read 3 2 (some .int))  (σ : qM) (x2 : Int32) (res : (Int32 × qM))  (h : fX5_read_41  σ x2 = some res) : qY sM X G 3 (q_Q sM X G (some (.int res.1)) res.2) σ 41 [(0, .ref (q_ad G 0)), (2, .int x2)] [] := by
  unfold fX5_read_41 at h
  refine q_aload_n (pc := 41) C 0 rfl dX5_read_41 rfl ?_
  refine q_getR (pc := 42) (t := 15) C fl_RX5_52 kM_0 rfl rM_0_25 dX5_read_42 ?_
  refine q_iconst (pc := 45) C dX5_read_45 ci_2 ?_
  refine q_aload_n (pc := 46) C 0 rfl dX5_read_46 rfl ?_
  refine q_getI (pc := 47) C fl_RX5_248 kM_0 rfl dX5_read_47 ?_
  refine q_imul (pc := 50) C dX5_read_50 ?_
  refine q_iconst (pc := 51) C dX5_read_51 ci_1 ?_
  refine q_iadd (pc := 52) C dX5_read_52 ?_
  refine q_iload_n (pc := 53) C 1 rfl dX5_read_53 rfl ?_
  obtain ⟨g1, h⟩ := q_guard h
  refine q_iast (pc := 54) C kM_15 lM_15 g1 dX5_read_54 ?_
  refine q_sub [0] rfl ?_
  exact tX5_read_55 C _ _ h
theorem zX5_read {G : qG} {l : Launch} {σ : qM} {x1 : Int32} {x2 : Int32} {res : (Int32 × qM)}  (h : fX5_read σ x1 x2 = some res) : qCon sM G l yX5_read cX5_read 3 (some .int) 2 [.ref (q_ad G 0), .int x1, .int x2] σ (some (.int res.1)) res.2 := by
  refine qCon.mkF (lv := [(0, .ref (q_ad G 0)), (1, .int x1), (2, .int x2)]) (plainFor_of_name (by decide)) (Nat.le_of_ble_eq_true rfl) rfl (fun X hX C => ?_)
  unfold fX5_read at h
  refine q_iload_n (pc := 0) C 1 rfl dX5_read_0 rfl ?_
  obtain ⟨q1, hq1, h⟩ := q_bind h
  refine q_callS1 (pc := 1) (st := []) C (zX5_areTurns hq1) ys_X5_areTurns ml_RX5_193 rfl (by decide) rfl (Nat.le_of_ble_eq_true rfl) dX5_read_1 ?_
  refine q_if_eq (pc := 4) C 14 dX5_read_4 (by decide) (fun c2 => ?_) (fun c2 => ?_)
  · have h := q_t c2 h
    refine q_bipush (pc := 14) C dX5_read_14 cb_m2 ?_
    obtain rfl := Option.some.inj h
    exact q_iret (pc := 16) C dX5_read_16
  · have h := q_f c2 h
    refine q_iload_n (pc := 7) C 2 rfl dX5_read_7 rfl ?_
    obtain ⟨q3, hq3, h⟩ := q_bind h
    refine q_callS1 (pc := 8) (st := []) C (zX5_areLaws hq3) ys_X5_areLaws ml_RX5_224 rfl (by decide) rfl (Nat.le_of_ble_eq_true rfl) dX5_read_8 ?_
    refine q_if_ne (pc := 11) C 17 dX5_read_11 (by decide) (fun c4 => ?_) (fun c4 => ?_)
    · have h := q_f c4 h
      refine q_aload_n (pc := 17) C 0 rfl dX5_read_17 rfl ?_
      refine q_getI (pc := 18) C fl_RX5_248 kM_0 rfl dX5_read_18 ?_
      refine q_bipush (pc := 21) C dX5_read_21 cb_8 ?_
      refine q_ic_ne (pc := 23) C 29 dX5_read_23 (by decide) (fun c5 => ?_) (fun c5 => ?_)
      · have h := q_f c5 h
        refine q_aload_n (pc := 29) C 0 rfl dX5_read_29 rfl ?_
        refine q_getR (pc := 30) (t := 15) C fl_RX5_52 kM_0 rfl rM_0_25 dX5_read_30 ?_
        refine q_iconst (pc := 33) C dX5_read_33 ci_2 ?_
        refine q_aload_n (pc := 34) C 0 rfl dX5_read_34 rfl ?_
        refine q_getI (pc := 35) C fl_RX5_248 kM_0 rfl dX5_read_35 ?_
        refine q_imul (pc := 38) C dX5_read_38 ?_
        refine q_iload_n (pc := 39) C 1 rfl dX5_read_39 rfl ?_
        obtain ⟨g6, h⟩ := q_guard h
        refine q_iast (pc := 40) C kM_15 lM_15 g6 dX5_read_40 ?_
        refine q_sub [0, 2] rfl ?_
        exact tX5_read_41 C _ _ _ h
      · have h := q_t c5 h
        refine q_bipush (pc := 26) C dX5_read_26 cb_m4 ?_
        obtain rfl := Option.some.inj h
        exact q_iret (pc := 28) C dX5_read_28
    · have h := q_t c4 h
      refine q_bipush (pc := 14) C dX5_read_14 cb_m2 ?_
      obtain rfl := Option.some.inj h
      exact q_iret (pc := 16) C dX5_read_16
/-! X5_forget -/
theorem zX5_forget {G : qG} {l : Launch} {σ : qM}  {res : (Int32 × qM)}  (h : fX5_forget σ  = some res) : qCon sM G l yX5_forget cX5_forget 2 (some .int) 0 [.ref (q_ad G 0)] σ (some (.int res.1)) res.2 := by
  refine qCon.mkF (lv := [(0, .ref (q_ad G 0))]) (plainFor_of_name (by decide)) (Nat.le_of_ble_eq_true rfl) rfl (fun X hX C => ?_)
  unfold fX5_forget at h
  refine q_aload_n (pc := 0) C 0 rfl dX5_forget_0 rfl ?_
  refine q_getI (pc := 1) C fl_RX5_248 kM_0 rfl dX5_forget_1 ?_
  refine q_istore_n (pc := 4) C dX5_forget_4 rfl (by decide) rfl ?_
  refine q_aload_n (pc := 5) C 1 rfl dX5_forget_5 rfl ?_
  refine q_iconst (pc := 6) C dX5_forget_6 ci_0 ?_
  refine q_putI (pc := 7) C fl_RX5_248 kM_0 rfl rfl rfl dX5_forget_7 ?_
  refine q_iload_n (pc := 10) C 0 rfl dX5_forget_10 rfl ?_
  obtain rfl := Option.some.inj h
  exact q_iret (pc := 11) C dX5_forget_11
/-! X5_take -/
theorem tX5_take_100 {X : qX} {G : qG} (C : qC sM X G RX5 cX5_take 4 3 (some .int)) (k29 : qM → Int32 → Int32 → Int32 → Option (Int32 × qM)) (hk29 : ∀ (σ : qM) (x1 : Int32) (x2 : Int32) (x3 : Int32) (res : (Int32 × qM)), k29 σ x1 x2 x3 = some res → qY sM X G 4 (q_Q sM X G (some (.int res.1)) res.2) σ 29 [(0, .ref (q_ad G 0)), (1, .int x1), (2, .int x2), (3, .int x3)] []) (σ : qM) (x1 : Int32) (x2 : Int32) (x3 : Int32) (res : (Int32 × qM))  (h : fX5_take_100 k29 σ x1 x2 x3 = some res) : qY sM X G 4 (q_Q sM X G (some (.int res.1)) res.2) σ 100 [(0, .ref (q_ad G 0)), (1, .int x1), (2, .int x2), (3, .int x3)] [] := by
  unfold fX5_take_100 at h
  refine q_goto (pc := 100) C 29 dX5_take_100 (by decide) ?_
  exact hk29 _ _ _ _ _ h
theorem tX5_take_98 {X : qX} {G : qG} (C : qC sM X G RX5 cX5_take 4 3 (some .int)) (k29 : qM → Int32 → Int32 → Int32 → Option (Int32 × qM)) (hk29 : ∀ (σ : qM) (x1 : Int32) (x2 : Int32) (x3 : Int32) (res : (Int32 × qM)), k29 σ x1 x2 x3 = some res → qY sM X G 4 (q_Q sM X G (some (.int res.1)) res.2) σ 29 [(0, .ref (q_ad G 0)), (1, .int x1), (2, .int x2), (3, .int x3)] []) (σ : qM) (x1 : Int32) (x3 : Int32) (t0 : Int32) (t1 : Int32) (res : (Int32 × qM))  (h : fX5_take_98 k29 σ x1 x3 t0 t1 = some res) : qY sM X G 4 (q_Q sM X G (some (.int res.1)) res.2) σ 98 [(0, .ref (q_ad G 0)), (1, .int x1), (3, .int x3)] [.int t0, .int t1] := by
  unfold fX5_take_98 at h
  refine q_iadd (pc := 98) C dX5_take_98 ?_
  refine q_istore_n (pc := 99) C dX5_take_99 rfl (by decide) rfl ?_
  refine q_sub [1, 2, 0, 3] rfl ?_
  exact tX5_take_100 C k29 hk29 _ _ _ _ _ h
theorem tX5_take_87 {X : qX} {G : qG} (C : qC sM X G RX5 cX5_take 4 3 (some .int)) (k29 : qM → Int32 → Int32 → Int32 → Option (Int32 × qM)) (hk29 : ∀ (σ : qM) (x1 : Int32) (x2 : Int32) (x3 : Int32) (res : (Int32 × qM)), k29 σ x1 x2 x3 = some res → qY sM X G 4 (q_Q sM X G (some (.int res.1)) res.2) σ 29 [(0, .ref (q_ad G 0)), (1, .int x1), (2, .int x2), (3, .int x3)] []) (σ : qM) (x1 : Int32) (x2 : Int32) (t0 : Int32) (res : (Int32 × qM))  (h : fX5_take_87 k29 σ x1 x2 t0 = some res) : qY sM X G 4 (q_Q sM X G (some (.int res.1)) res.2) σ 87 [(0, .ref (q_ad G 0)), (1, .int x1), (2, .int x2)] [.int t0] := by
  unfold fX5_take_87 at h
  refine q_istore_n (pc := 87) C dX5_take_87 rfl (by decide) rfl ?_
  refine q_iload_n (pc := 88) C 3 rfl dX5_take_88 rfl ?_
  refine q_iload_n (pc := 89) C 0 rfl dX5_take_89 rfl ?_
  refine q_if_eq (pc := 90) C 97 dX5_take_90 (by decide) (fun c1 => ?_) (fun c1 => ?_)
  · have h := q_t c1 h
    refine q_iconst (pc := 97) C dX5_take_97 ci_0 ?_
    refine q_sub [1, 2, 0] rfl ?_
    exact tX5_take_98 C k29 hk29 _ _ _ _ _ _ h
  · have h := q_f c1 h
    refine q_iconst (pc := 93) C dX5_take_93 ci_1 ?_
    refine q_goto (pc := 94) C 98 dX5_take_94 (by decide) ?_
    refine q_sub [1, 2, 0] rfl ?_
    exact tX5_take_98 C k29 hk29 _ _ _ _ _ _ h
theorem uX5_take_29 {X : qX} {G : qG} (C : qC sM X G RX5 cX5_take 4 3 (some .int)) (k29 : qM → Int32 → Int32 → Int32 → Option (Int32 × qM)) (hk29 : ∀ (σ : qM) (x1 : Int32) (x2 : Int32) (x3 : Int32) (res : (Int32 × qM)), k29 σ x1 x2 x3 = some res → qY sM X G 4 (q_Q sM X G (some (.int res.1)) res.2) σ 29 [(0, .ref (q_ad G 0)), (1, .int x1), (2, .int x2), (3, .int x3)] []) (σ : qM) (x1 : Int32) (x2 : Int32) (x3 : Int32) (res : (Int32 × qM))  (h : bX5_take_29 k29 σ x1 x2 x3 = some res) : qY sM X G 4 (q_Q sM X G (some (.int res.1)) res.2) σ 29 [(0, .ref (q_ad G 0)), (1, .int x1), (2, .int x2), (3, .int x3)] [] := by
  unfold bX5_take_29 at h
  refine q_iload_n (pc := 29) C 3 rfl dX5_take_29 rfl ?_
  refine q_if_eq (pc := 30) C 103 dX5_take_30 (by decide) (fun c1 => ?_) (fun c1 => ?_)
  · have h := q_t c1 h
    refine q_iload_n (pc := 103) C 2 rfl dX5_take_103 rfl ?_
    obtain rfl := Option.some.inj h
    exact q_iret (pc := 104) C dX5_take_104
  · have h := q_f c1 h
    refine q_iconst (pc := 33) C dX5_take_33 ci_2 ?_
    refine q_iload_n (pc := 34) C 2 rfl dX5_take_34 rfl ?_
    refine q_imul (pc := 35) C dX5_take_35 ?_
    refine q_iconst (pc := 36) C dX5_take_36 ci_2 ?_
    refine q_iadd (pc := 37) C dX5_take_37 ?_
    refine q_aload_n (pc := 38) C 0 rfl dX5_take_38 rfl ?_
    refine q_getR (pc := 39) (t := 2) C fl_RX5_13 kM_0 rfl rM_0_1 dX5_take_39 ?_
    refine q_iload_n (pc := 42) C 1 rfl dX5_take_42 rfl ?_
    obtain ⟨g2, h⟩ := q_guard h
    refine q_iald (pc := 43) C kM_2 lM_2 g2 dX5_take_43 ?_
    refine q_ic_gt (pc := 44) C 103 dX5_take_44 (by decide) (fun c3 => ?_) (fun c3 => ?_)
    · have h := q_t c3 h
      refine q_iload_n (pc := 103) C 2 rfl dX5_take_103 rfl ?_
      obtain rfl := Option.some.inj h
      exact q_iret (pc := 104) C dX5_take_104
    · have h := q_f c3 h
      refine q_aload_n (pc := 47) C 0 rfl dX5_take_47 rfl ?_
      refine q_aload_n (pc := 48) C 0 rfl dX5_take_48 rfl ?_
      refine q_getR (pc := 49) (t := 3) C fl_RX5_16 kM_0 rfl rM_0_2 dX5_take_49 ?_
      refine q_bipush (pc := 52) C dX5_take_52 cb_60 ?_
      refine q_iload_n (pc := 54) C 1 rfl dX5_take_54 rfl ?_
      refine q_imul (pc := 55) C dX5_take_55 ?_
      refine q_iconst (pc := 56) C dX5_take_56 ci_2 ?_
      refine q_iload_n (pc := 57) C 2 rfl dX5_take_57 rfl ?_
      refine q_imul (pc := 58) C dX5_take_58 ?_
      refine q_iadd (pc := 59) C dX5_take_59 ?_
      obtain ⟨g4, h⟩ := q_guard h
      refine q_iald (pc := 60) C kM_3 lM_3 g4 dX5_take_60 ?_
      refine q_aload_n (pc := 61) C 0 rfl dX5_take_61 rfl ?_
      refine q_getR (pc := 62) (t := 3) C fl_RX5_16 kM_0 rfl rM_0_2 dX5_take_62 ?_
      refine q_bipush (pc := 65) C dX5_take_65 cb_60 ?_
      refine q_iload_n (pc := 67) C 1 rfl dX5_take_67 rfl ?_
      refine q_imul (pc := 68) C dX5_take_68 ?_
      refine q_iconst (pc := 69) C dX5_take_69 ci_2 ?_
      refine q_iload_n (pc := 70) C 2 rfl dX5_take_70 rfl ?_
      refine q_imul (pc := 71) C dX5_take_71 ?_
      refine q_iadd (pc := 72) C dX5_take_72 ?_
      refine q_iconst (pc := 73) C dX5_take_73 ci_1 ?_
      refine q_iadd (pc := 74) C dX5_take_74 ?_
      obtain ⟨g5, h⟩ := q_guard h
      refine q_iald (pc := 75) C kM_3 lM_3 g5 dX5_take_75 ?_
      obtain ⟨q6, hq6, h⟩ := q_bind h
      refine q_callV1 (pc := 76) (st := []) C (zX5_read hq6) yi_X5_read ml_RX5_251 kM_0 rfl (by decide) rfl (Nat.le_of_ble_eq_true rfl) dX5_take_76 ?_
      refine q_if_lt (pc := 79) C 86 dX5_take_79 (by decide) (fun c7 => ?_) (fun c7 => ?_)
      · have h := q_t c7 h
        refine q_iconst (pc := 86) C dX5_take_86 ci_0 ?_
        refine q_sub [0, 1, 2] rfl ?_
        exact tX5_take_87 C k29 hk29 _ _ _ _ _ h
      · have h := q_f c7 h
        refine q_iconst (pc := 82) C dX5_take_82 ci_1 ?_
        refine q_goto (pc := 83) C 87 dX5_take_83 (by decide) ?_
        refine q_sub [0, 1, 2] rfl ?_
        exact tX5_take_87 C k29 hk29 _ _ _ _ _ h
theorem tX5_take_29 {X : qX} {G : qG} (C : qC sM X G RX5 cX5_take 4 3 (some .int))  (σ : qM) (x1 : Int32) (x2 : Int32) (x3 : Int32) (res : (Int32 × qM))  (h : fX5_take_29  σ x1 x2 x3 = some res) : qY sM X G 4 (q_Q sM X G (some (.int res.1)) res.2) σ 29 [(0, .ref (q_ad G 0)), (1, .int x1), (2, .int x2), (3, .int x3)] [] := by
  have key : ∀ (n : Nat) (σ : qM) (x1 : Int32) (x2 : Int32) (x3 : Int32) (res : (Int32 × qM)) , qlp (fun _ _ _ _ => none) (bX5_take_29 ) n σ x1 x2 x3 = some res → qY sM X G 4 (q_Q sM X G (some (.int res.1)) res.2) σ 29 [(0, .ref (q_ad G 0)), (1, .int x1), (2, .int x2), (3, .int x3)] [] := by
    intro n
    induction n with
    | zero => intro σ x1 x2 x3 res h; cases h
    | succ n ih => intro σ x1 x2 x3 res h; exact uX5_take_29 C  (qlp (fun _ _ _ _ => none) (bX5_take_29 ) n) (fun σ x1 x2 x3 res h => ih σ x1 x2 x3 res h) σ x1 x2 x3 res h
  exact key qFU σ x1 x2 x3 res h
theorem zX5_take {G : qG} {l : Launch} {σ : qM} {x1 : Int32} {res : (Int32 × qM)}  (h : fX5_take σ x1 = some res) : qCon sM G l yX5_take cX5_take 4 (some .int) 3 [.ref (q_ad G 0), .int x1] σ (some (.int res.1)) res.2 := by
  refine qCon.mkF (lv := [(0, .ref (q_ad G 0)), (1, .int x1)]) (plainFor_of_name (by decide)) (Nat.le_of_ble_eq_true rfl) rfl (fun X hX C => ?_)
  unfold fX5_take at h
  refine q_iload_n (pc := 0) C 1 rfl dX5_take_0 rfl ?_
  obtain ⟨q1, hq1, h⟩ := q_bind h
  refine q_callS1 (pc := 1) (st := []) C (zX5_isSheet hq1) ys_X5_isSheet ml_RX5_70 rfl (by decide) rfl (Nat.le_of_ble_eq_true rfl) dX5_take_1 ?_
  refine q_if_ne (pc := 4) C 10 dX5_take_4 (by decide) (fun c2 => ?_) (fun c2 => ?_)
  · have h := q_f c2 h
    refine q_aload_n (pc := 10) C 0 rfl dX5_take_10 rfl ?_
    refine q_getR (pc := 11) (t := 1) C fl_RX5_7 kM_0 rfl rM_0_0 dX5_take_11 ?_
    refine q_iload_n (pc := 14) C 1 rfl dX5_take_14 rfl ?_
    obtain ⟨g3, h⟩ := q_guard h
    refine q_iald (pc := 15) C kM_1 lM_1 g3 dX5_take_15 ?_
    refine q_if_ge (pc := 16) C 25 dX5_take_16 (by decide) (fun c4 => ?_) (fun c4 => ?_)
    · have h := q_t c4 h
      refine q_iconst (pc := 25) C dX5_take_25 ci_0 ?_
      refine q_istore_n (pc := 26) C dX5_take_26 rfl (by decide) rfl ?_
      refine q_iconst (pc := 27) C dX5_take_27 ci_1 ?_
      refine q_istore_n (pc := 28) C dX5_take_28 rfl (by decide) rfl ?_
      refine q_sub [2, 3, 1, 0] rfl ?_
      exact tX5_take_29 C _ _ _ _ _ h
    · have h := q_f c4 h
      refine q_aload_n (pc := 19) C 0 rfl dX5_take_19 rfl ?_
      refine q_iconst (pc := 20) C dX5_take_20 ci_1 ?_
      obtain ⟨q5, hq5, h⟩ := q_bind h
      refine q_callV1 (pc := 21) (st := []) C (zX5_finds hq5) yi_X5_finds ml_RX5_76 kM_0 rfl (by decide) rfl (Nat.le_of_ble_eq_true rfl) dX5_take_21 ?_
      obtain rfl := Option.some.inj h
      exact q_iret (pc := 24) C dX5_take_24
  · have h := q_t c2 h
    refine q_bipush (pc := 7) C dX5_take_7 cb_m2 ?_
    obtain rfl := Option.some.inj h
    exact q_iret (pc := 9) C dX5_take_9

/-! X4_fits -/
theorem tX4_fits_74 {X : qX} {G : qG} (C : qC sC X G RX4 cX4_fits 6 5 (some .int)) (k48 : qM → Int32 → Int32 → Int32 → Int32 → Option (Int32 × qM)) (hk48 : ∀ (σ : qM) (x1 : Int32) (x3 : Int32) (x4 : Int32) (x5 : Int32) (res : (Int32 × qM)), k48 σ x1 x3 x4 x5 = some res → qY sC X G 6 (q_Q sC X G (some (.int res.1)) res.2) σ 48 [(0, .ref (q_ad G 0)), (1, .int x1), (2, .ref (q_ad G 16)), (3, .int x3), (4, .int x4), (5, .int x5)] []) (σ : qM) (x1 : Int32) (x3 : Int32) (x4 : Int32) (x5 : Int32) (res : (Int32 × qM))  (h : fX4_fits_74 k48 σ x1 x3 x4 x5 = some res) : qY sC X G 6 (q_Q sC X G (some (.int res.1)) res.2) σ 74 [(0, .ref (q_ad G 0)), (1, .int x1), (2, .ref (q_ad G 16)), (3, .int x3), (4, .int x4), (5, .int x5)] [] := by
  unfold fX4_fits_74 at h
  refine q_inc (pc := 74) C 5 rfl ci_1 dX4_fits_74 (by decide) rfl ?_
  refine q_goto (pc := 77) C 48 dX4_fits_77 (by decide) ?_
  refine q_sub [1, 2, 3, 4, 5, 0] rfl ?_
  exact hk48 _ _ _ _ _ _ h
theorem uX4_fits_48 {X : qX} {G : qG} (C : qC sC X G RX4 cX4_fits 6 5 (some .int)) (k48 : qM → Int32 → Int32 → Int32 → Int32 → Option (Int32 × qM)) (hk48 : ∀ (σ : qM) (x1 : Int32) (x3 : Int32) (x4 : Int32) (x5 : Int32) (res : (Int32 × qM)), k48 σ x1 x3 x4 x5 = some res → qY sC X G 6 (q_Q sC X G (some (.int res.1)) res.2) σ 48 [(0, .ref (q_ad G 0)), (1, .int x1), (2, .ref (q_ad G 16)), (3, .int x3), (4, .int x4), (5, .int x5)] []) (σ : qM) (x1 : Int32) (x3 : Int32) (x4 : Int32) (x5 : Int32) (res : (Int32 × qM))  (h : bX4_fits_48 k48 σ x1 x3 x4 x5 = some res) : qY sC X G 6 (q_Q sC X G (some (.int res.1)) res.2) σ 48 [(0, .ref (q_ad G 0)), (1, .int x1), (2, .ref (q_ad G 16)), (3, .int x3), (4, .int x4), (5, .int x5)] [] := by
  unfold bX4_fits_48 at h
  refine q_iload (pc := 48) C 5 rfl dX4_fits_48 ?_
  refine q_iload_n (pc := 50) C 3 rfl dX4_fits_50 rfl ?_
  refine q_ic_ge (pc := 51) C 80 dX4_fits_51 (by decide) (fun c1 => ?_) (fun c1 => ?_)
  · have h := q_t c1 h
    refine q_iload (pc := 80) C 4 rfl dX4_fits_80 ?_
    obtain rfl := Option.some.inj h
    exact q_iret (pc := 82) C dX4_fits_82
  · have h := q_f c1 h
    refine q_aload_n (pc := 54) C 0 rfl dX4_fits_54 rfl ?_
    refine q_aload_n (pc := 55) C 2 rfl dX4_fits_55 rfl ?_
    refine q_iload_n (pc := 56) C 1 rfl dX4_fits_56 rfl ?_
    refine q_iload (pc := 57) C 5 rfl dX4_fits_57 ?_
    obtain ⟨q2, hq2, h⟩ := q_bind h
    refine q_callV1 (pc := 59) (st := []) C (zX4_wouldFit hq2) yi_X4_wouldFit ml_RX4_177 kC_0 rfl (by decide) rfl (Nat.le_of_ble_eq_true rfl) dX4_fits_59 ?_
    refine q_if_eq (pc := 62) C 74 dX4_fits_62 (by decide) (fun c3 => ?_) (fun c3 => ?_)
    · have h := q_t c3 h
      exact tX4_fits_74 C k48 hk48 _ _ _ _ _ _ h
    · have h := q_f c3 h
      refine q_iload (pc := 65) C 4 rfl dX4_fits_65 ?_
      refine q_iconst (pc := 67) C dX4_fits_67 ci_1 ?_
      refine q_iload (pc := 68) C 5 rfl dX4_fits_68 ?_
      refine q_shl (pc := 70) C dX4_fits_70 ?_
      refine q_ior (pc := 71) C dX4_fits_71 ?_
      refine q_istore (pc := 72) C dX4_fits_72 (by decide) rfl ?_
      refine q_sub [1, 2, 3, 4, 0, 5] rfl ?_
      exact tX4_fits_74 C k48 hk48 _ _ _ _ _ _ h
theorem tX4_fits_48 {X : qX} {G : qG} (C : qC sC X G RX4 cX4_fits 6 5 (some .int))  (σ : qM) (x1 : Int32) (x3 : Int32) (x4 : Int32) (x5 : Int32) (res : (Int32 × qM))  (h : fX4_fits_48  σ x1 x3 x4 x5 = some res) : qY sC X G 6 (q_Q sC X G (some (.int res.1)) res.2) σ 48 [(0, .ref (q_ad G 0)), (1, .int x1), (2, .ref (q_ad G 16)), (3, .int x3), (4, .int x4), (5, .int x5)] [] := by
  have key : ∀ (n : Nat) (σ : qM) (x1 : Int32) (x3 : Int32) (x4 : Int32) (x5 : Int32) (res : (Int32 × qM)) , qlp (fun _ _ _ _ _ => none) (bX4_fits_48 ) n σ x1 x3 x4 x5 = some res → qY sC X G 6 (q_Q sC X G (some (.int res.1)) res.2) σ 48 [(0, .ref (q_ad G 0)), (1, .int x1), (2, .ref (q_ad G 16)), (3, .int x3), (4, .int x4), (5, .int x5)] [] := by
    intro n
    induction n with
    | zero => intro σ x1 x3 x4 x5 res h; cases h
    | succ n ih => intro σ x1 x3 x4 x5 res h; exact uX4_fits_48 C  (qlp (fun _ _ _ _ _ => none) (bX4_fits_48 ) n) (fun σ x1 x3 x4 x5 res h => ih σ x1 x3 x4 x5 res h) σ x1 x3 x4 x5 res h
  exact key qFU σ x1 x3 x4 x5 res h
theorem tX4_fits_41 {X : qX} {G : qG} (C : qC sC X G RX4 cX4_fits 6 5 (some .int))  (σ : qM) (x1 : Int32) (t0 : Int32) (res : (Int32 × qM))  (h : fX4_fits_41  σ x1 t0 = some res) : qY sC X G 6 (q_Q sC X G (some (.int res.1)) res.2) σ 41 [(0, .ref (q_ad G 0)), (1, .int x1), (2, .ref (q_ad G 16))] [.int t0] := by
  unfold fX4_fits_41 at h
  refine q_istore_n (pc := 41) C dX4_fits_41 rfl (by decide) rfl ?_
  refine q_iconst (pc := 42) C dX4_fits_42 ci_0 ?_
  refine q_istore (pc := 43) C dX4_fits_43 (by decide) rfl ?_
  refine q_iconst (pc := 45) C dX4_fits_45 ci_0 ?_
  refine q_istore (pc := 46) C dX4_fits_46 (by decide) rfl ?_
  refine q_sub [3, 4, 5, 2, 1, 0] rfl ?_
  exact tX4_fits_48 C _ _ _ _ _ _ h
theorem zX4_fits {G : qG} {l : Launch} {σ : qM} {x1 : Int32} {res : (Int32 × qM)}  (h : fX4_fits σ x1 = some res) : qCon sC G l yX4_fits cX4_fits 6 (some .int) 5 [.ref (q_ad G 0), .int x1] σ (some (.int res.1)) res.2 := by
  refine qCon.mkF (lv := [(0, .ref (q_ad G 0)), (1, .int x1)]) (plainFor_of_name (by decide)) (Nat.le_of_ble_eq_true rfl) rfl (fun X hX C => ?_)
  unfold fX4_fits at h
  refine q_iload_n (pc := 0) C 1 rfl dX4_fits_0 rfl ?_
  refine q_iconst (pc := 1) C dX4_fits_1 ci_3 ?_
  obtain ⟨q1, hq1, h⟩ := q_bind h
  refine q_callS1 (pc := 2) (st := []) C (zX4_below hq1) ys_X4_below ml_RX4_62 rfl (by decide) rfl (Nat.le_of_ble_eq_true rfl) dX4_fits_2 ?_
  refine q_if_ne (pc := 5) C 11 dX4_fits_5 (by decide) (fun c2 => ?_) (fun c2 => ?_)
  · have h := q_f c2 h
    refine q_aload_n (pc := 11) C 0 rfl dX4_fits_11 rfl ?_
    refine q_getR (pc := 12) (t := 16) C fl_RX4_41 kC_0 rfl rC_0_5 dX4_fits_12 ?_
    obtain ⟨q3, hq3, h⟩ := q_bind h
    refine q_callV1 (pc := 15) (st := []) C (zX0_settled hq3) yi_X0_settled ml_RX4_98 kC_16 rfl (by decide) rfl (Nat.le_of_ble_eq_true rfl) dX4_fits_15 ?_
    refine q_astore_n (pc := 18) C dX4_fits_18 rfl (by decide) rfl ?_
    refine q_iload_n (pc := 19) C 2 rfl dX4_fits_19 rfl ?_
    refine q_iconst (pc := 20) C dX4_fits_20 ci_1 ?_
    refine q_ic_ne (pc := 21) C 34 dX4_fits_21 (by decide) (fun c4 => ?_) (fun c4 => ?_)
    · have h := q_f c4 h
      refine q_aload_n (pc := 34) C 1 rfl dX4_fits_34 rfl ?_
      refine q_getR (pc := 35) (t := 4) C fl_RX4_18 kC_0 rfl rC_0_1 dX4_fits_35 ?_
      refine q_getI (pc := 38) C fl_RX4_88 kC_4 rfl dX4_fits_38 ?_
      refine q_sub [1, 2, 0] rfl ?_
      exact tX4_fits_41 C _ _ _ _ h
    · have h := q_t c4 h
      refine q_aload_n (pc := 24) C 1 rfl dX4_fits_24 rfl ?_
      refine q_getR (pc := 25) (t := 1) C fl_RX4_14 kC_0 rfl rC_0_0 dX4_fits_25 ?_
      refine q_getI (pc := 28) C fl_RX4_88 kC_1 rfl dX4_fits_28 ?_
      refine q_goto (pc := 31) C 41 dX4_fits_31 (by decide) ?_
      refine q_sub [1, 2, 0] rfl ?_
      exact tX4_fits_41 C _ _ _ _ h
  · have h := q_t c2 h
    refine q_bipush (pc := 8) C dX4_fits_8 cb_m2 ?_
    obtain rfl := Option.some.inj h
    exact q_iret (pc := 10) C dX4_fits_10
/-! J13_numberOfTrailingZeros_95d88 -/
theorem zJ13_numberOfTrailingZeros_95d88 {G : qG} {l : Launch} {σ : qM} {x0 : Int64} {res : (Int32 × qM)}  (h : fJ13_numberOfTrailingZeros_95d88 σ x0 = some res) : qCon sC G l yJ13_numberOfTrailingZeros_95d88 cJ13_numberOfTrailingZeros_95d88 3 (some .int) 1 [.long x0] σ (some (.int res.1)) res.2 := by
  refine qCon.mkF (lv := [(0, .long x0)]) (plainFor_of_name (by decide)) (Nat.le_of_ble_eq_true rfl) rfl (fun X hX C => ?_)
  unfold fJ13_numberOfTrailingZeros_95d88 at h
  refine q_lload_n (pc := 0) C 0 rfl dJ13_numberOfTrailingZeros_95d88_0 rfl ?_
  refine q_l2i (pc := 1) C dJ13_numberOfTrailingZeros_95d88_1 ?_
  refine q_istore_n (pc := 2) C dJ13_numberOfTrailingZeros_95d88_2 rfl (by decide) rfl ?_
  refine q_iload_n (pc := 3) C 0 rfl dJ13_numberOfTrailingZeros_95d88_3 rfl ?_
  refine q_if_ne (pc := 4) C 21 dJ13_numberOfTrailingZeros_95d88_4 (by decide) (fun c1 => ?_) (fun c1 => ?_)
  · have h := q_f c1 h
    refine q_iload_n (pc := 21) C 0 rfl dJ13_numberOfTrailingZeros_95d88_21 rfl ?_
    obtain ⟨q2, hq2, h⟩ := q_bind h
    refine q_callS1 (pc := 22) (st := []) C (zJ6_numberOfTrailingZeros_0f7a4 hq2) ys_J6_numberOfTrailingZeros_0f7a4 ml_RJ13_311 rfl (by decide) rfl (Nat.le_of_ble_eq_true rfl) dJ13_numberOfTrailingZeros_95d88_22 ?_
    obtain rfl := Option.some.inj h
    exact q_iret (pc := 25) C dJ13_numberOfTrailingZeros_95d88_25
  · have h := q_t c1 h
    refine q_bipush (pc := 7) C dJ13_numberOfTrailingZeros_95d88_7 cb_32 ?_
    refine q_lload_n (pc := 9) C 1 rfl dJ13_numberOfTrailingZeros_95d88_9 rfl ?_
    refine q_bipush (pc := 10) C dJ13_numberOfTrailingZeros_95d88_10 cb_32 ?_
    refine q_lushr (pc := 12) C dJ13_numberOfTrailingZeros_95d88_12 ?_
    refine q_l2i (pc := 13) C dJ13_numberOfTrailingZeros_95d88_13 ?_
    obtain ⟨q3, hq3, h⟩ := q_bind h
    refine q_callS1 (pc := 14) (st := [.int (32 : Int32)]) C (zJ6_numberOfTrailingZeros_0f7a4 hq3) ys_J6_numberOfTrailingZeros_0f7a4 ml_RJ13_311 rfl (by decide) rfl (Nat.le_of_ble_eq_true rfl) dJ13_numberOfTrailingZeros_95d88_14 ?_
    refine q_iadd (pc := 17) C dJ13_numberOfTrailingZeros_95d88_17 ?_
    refine q_goto (pc := 18) C 25 dJ13_numberOfTrailingZeros_95d88_18 (by decide) ?_
    obtain rfl := Option.some.inj h
    exact q_iret (pc := 25) C dJ13_numberOfTrailingZeros_95d88_25
/-! J9_min_7cf53 -/
theorem zJ9_min_7cf53 {G : qG} {l : Launch} {σ : qM} {x0 : Int32} {x1 : Int32} {res : (Int32 × qM)}  (h : fJ9_min_7cf53 σ x0 x1 = some res) : qCon sC G l yJ9_min_7cf53 cJ9_min_7cf53 2 (some .int) 0 [.int x0, .int x1] σ (some (.int res.1)) res.2 := by
  refine qCon.mkF (lv := [(0, .int x0), (1, .int x1)]) pf_min (Nat.le_of_ble_eq_true rfl) rfl (fun X hX C => ?_)
  unfold fJ9_min_7cf53 at h
  refine q_iload_n (pc := 0) C 0 rfl dJ9_min_7cf53_0 rfl ?_
  refine q_iload_n (pc := 1) C 1 rfl dJ9_min_7cf53_1 rfl ?_
  refine q_ic_gt (pc := 2) C 9 dJ9_min_7cf53_2 (by decide) (fun c1 => ?_) (fun c1 => ?_)
  · have h := q_t c1 h
    refine q_iload_n (pc := 9) C 1 rfl dJ9_min_7cf53_9 rfl ?_
    obtain rfl := Option.some.inj h
    exact q_iret (pc := 10) C dJ9_min_7cf53_10
  · have h := q_f c1 h
    refine q_iload_n (pc := 5) C 0 rfl dJ9_min_7cf53_5 rfl ?_
    refine q_goto (pc := 6) C 10 dJ9_min_7cf53_6 (by decide) ?_
    obtain rfl := Option.some.inj h
    exact q_iret (pc := 10) C dJ9_min_7cf53_10
/-! X4_sinks -/
theorem tX4_sinks_65 {X : qX} {G : qG} (C : qC sC X G RX4 cX4_sinks 9 4 (some .long))  (σ : qM) (x4 : Int32) (x5 : Int64) (x7 : Int32) (res : (Int64 × qM))  (h : fX4_sinks_65  σ x4 x5 x7 = some res) : qY sC X G 9 (q_Q sC X G (some (.long res.1)) res.2) σ 65 [(4, .int x4), (5, .long x5), (7, .int x7)] [] := by
  unfold fX4_sinks_65 at h
  refine q_lload (pc := 65) C 1 rfl dX4_sinks_65 ?_
  obtain ⟨q1, hq1, h⟩ := q_bind h
  refine q_callS1 (pc := 67) (st := []) C (zJ13_numberOfTrailingZeros_95d88 hq1) ys_J13_numberOfTrailingZeros_95d88 ml_RX4_187 rfl (by decide) rfl (Nat.le_of_ble_eq_true rfl) dX4_sinks_67 ?_
  refine q_iload (pc := 70) C 2 rfl dX4_sinks_70 ?_
  obtain ⟨q2, hq2, h⟩ := q_bind h
  refine q_callS1 (pc := 72) (st := []) C (zJ9_min_7cf53 hq2) ys_J9_min_7cf53 ml_RX4_193 rfl (by decide) rfl (Nat.le_of_ble_eq_true rfl) dX4_sinks_72 ?_
  refine q_istore (pc := 75) C dX4_sinks_75 (by decide) rfl ?_
  refine q_iload (pc := 77) C 1 rfl dX4_sinks_77 ?_
  refine q_if_ne (pc := 79) C 90 dX4_sinks_79 (by decide) (fun c3 => ?_) (fun c3 => ?_)
  · have h := q_f c3 h
    refine q_lconst (pc := 90) (v := (1 : Int64)) C dX4_sinks_90 rfl ?_
    refine q_iload (pc := 91) C 3 rfl dX4_sinks_91 ?_
    refine q_iload (pc := 93) C 0 rfl dX4_sinks_93 ?_
    refine q_isub (pc := 95) C dX4_sinks_95 ?_
    refine q_lshl (pc := 96) C dX4_sinks_96 ?_
    obtain rfl := Option.some.inj h
    exact q_lret (pc := 97) C dX4_sinks_97
  · have h := q_t c3 h
    refine q_lload (pc := 82) C 2 rfl dX4_sinks_82 ?_
    refine q_iload (pc := 84) C 0 rfl dX4_sinks_84 ?_
    refine q_lshr (pc := 86) C dX4_sinks_86 ?_
    refine q_goto (pc := 87) C 97 dX4_sinks_87 (by decide) ?_
    obtain rfl := Option.some.inj h
    exact q_lret (pc := 97) C dX4_sinks_97
theorem zX4_sinks {G : qG} {l : Launch} {σ : qM} {x1 : Int32} {x2 : Int32} {x3 : Int32} {x4 : Int32} {res : (Int64 × qM)}  (h : fX4_sinks σ x1 x2 x3 x4 = some res) : qCon sC G l yX4_sinks cX4_sinks 9 (some .long) 4 [.ref (q_ad G 0), .int x1, .int x2, .int x3, .int x4] σ (some (.long res.1)) res.2 := by
  refine qCon.mkF (lv := [(0, .ref (q_ad G 0)), (1, .int x1), (2, .int x2), (3, .int x3), (4, .int x4)]) (plainFor_of_name (by decide)) (Nat.le_of_ble_eq_true rfl) rfl (fun X hX C => ?_)
  unfold fX4_sinks at h
  refine q_iload_n (pc := 0) C 1 rfl dX4_sinks_0 rfl ?_
  refine q_bipush (pc := 1) C dX4_sinks_1 cb_17 ?_
  obtain ⟨q1, hq1, h⟩ := q_bind h
  refine q_callS1 (pc := 3) (st := []) C (zX4_below hq1) ys_X4_below ml_RX4_62 rfl (by decide) rfl (Nat.le_of_ble_eq_true rfl) dX4_sinks_3 ?_
  refine q_if_eq (pc := 6) C 35 dX4_sinks_6 (by decide) (fun c2 => ?_) (fun c2 => ?_)
  · have h := q_t c2 h
    refine q_ldc2 (pc := 35) C kn_RX4_181 dX4_sinks_35 ?_
    obtain rfl := Option.some.inj h
    exact q_lret (pc := 38) C dX4_sinks_38
  · have h := q_f c2 h
    refine q_iload_n (pc := 9) C 2 rfl dX4_sinks_9 rfl ?_
    refine q_iconst (pc := 10) C dX4_sinks_10 ci_4 ?_
    obtain ⟨q3, hq3, h⟩ := q_bind h
    refine q_callS1 (pc := 11) (st := []) C (zX4_below hq3) ys_X4_below ml_RX4_62 rfl (by decide) rfl (Nat.le_of_ble_eq_true rfl) dX4_sinks_11 ?_
    refine q_if_eq (pc := 14) C 35 dX4_sinks_14 (by decide) (fun c4 => ?_) (fun c4 => ?_)
    · have h := q_t c4 h
      refine q_ldc2 (pc := 35) C kn_RX4_181 dX4_sinks_35 ?_
      obtain rfl := Option.some.inj h
      exact q_lret (pc := 38) C dX4_sinks_38
    · have h := q_f c4 h
      refine q_iload_n (pc := 17) C 3 rfl dX4_sinks_17 rfl ?_
      refine q_bipush (pc := 18) C dX4_sinks_18 cb_8 ?_
      obtain ⟨q5, hq5, h⟩ := q_bind h
      refine q_callS1 (pc := 20) (st := []) C (zX4_below hq5) ys_X4_below ml_RX4_62 rfl (by decide) rfl (Nat.le_of_ble_eq_true rfl) dX4_sinks_20 ?_
      refine q_if_eq (pc := 23) C 35 dX4_sinks_23 (by decide) (fun c6 => ?_) (fun c6 => ?_)
      · have h := q_t c6 h
        refine q_ldc2 (pc := 35) C kn_RX4_181 dX4_sinks_35 ?_
        obtain rfl := Option.some.inj h
        exact q_lret (pc := 38) C dX4_sinks_38
      · have h := q_f c6 h
        refine q_iload (pc := 26) C 4 rfl dX4_sinks_26 ?_
        refine q_iconst (pc := 28) C dX4_sinks_28 ci_2 ?_
        obtain ⟨q7, hq7, h⟩ := q_bind h
        refine q_callS1 (pc := 29) (st := []) C (zX4_below hq7) ys_X4_below ml_RX4_62 rfl (by decide) rfl (Nat.le_of_ble_eq_true rfl) dX4_sinks_29 ?_
        refine q_if_ne (pc := 32) C 39 dX4_sinks_32 (by decide) (fun c8 => ?_) (fun c8 => ?_)
        · have h := q_f c8 h
          refine q_aload_n (pc := 39) C 0 rfl dX4_sinks_39 rfl ?_
          refine q_getR (pc := 40) (t := 16) C fl_RX4_41 kC_0 rfl rC_0_5 dX4_sinks_40 ?_
          obtain ⟨q9, hq9, h⟩ := q_bind h
          refine q_callV1 (pc := 43) (st := []) C (zX0_settled hq9) yi_X0_settled ml_RX4_98 kC_16 rfl (by decide) rfl (Nat.le_of_ble_eq_true rfl) dX4_sinks_43 ?_
          refine q_iload_n (pc := 46) C 1 rfl dX4_sinks_46 rfl ?_
          refine q_iload_n (pc := 47) C 2 rfl dX4_sinks_47 rfl ?_
          refine q_iload_n (pc := 48) C 3 rfl dX4_sinks_48 rfl ?_
          obtain ⟨q10, hq10, h⟩ := q_bind h
          refine q_callV1 (pc := 49) (st := []) C (zX0_chanceAbove hq10) yi_X0_chanceAbove ml_RX4_183 kC_16 rfl (by decide) rfl (Nat.le_of_ble_eq_true rfl) dX4_sinks_49 ?_
          refine q_lstore (pc := 52) C dX4_sinks_52 (by decide) rfl ?_
          refine q_iconst (pc := 54) C dX4_sinks_54 ci_4 ?_
          refine q_aload_n (pc := 55) C 1 rfl dX4_sinks_55 rfl ?_
          refine q_getR (pc := 56) (t := 1) C fl_RX4_14 kC_0 rfl rC_0_0 dX4_sinks_56 ?_
          refine q_getI (pc := 59) C fl_RX4_88 kC_1 rfl dX4_sinks_59 ?_
          refine q_imul (pc := 62) C dX4_sinks_62 ?_
          refine q_istore (pc := 63) C dX4_sinks_63 (by decide) rfl ?_
          refine q_sub [6, 1, 0] rfl ?_
          exact tX4_sinks_65 C _ _ _ _ _ h
        · have h := q_t c8 h
          refine q_ldc2 (pc := 35) C kn_RX4_181 dX4_sinks_35 ?_
          obtain rfl := Option.some.inj h
          exact q_lret (pc := 38) C dX4_sinks_38
/-! X4_mornings -/
theorem tX4_mornings_77 {X : qX} {G : qG} (C : qC sC X G RX4 cX4_mornings 8 4 (some .int)) (k41 : qM → Int32 → Int32 → Int32 → Int32 → Int32 → Option (Int32 × qM)) (hk41 : ∀ (σ : qM) (x2 : Int32) (x3 : Int32) (x5 : Int32) (x6 : Int32) (x7 : Int32) (res : (Int32 × qM)), k41 σ x2 x3 x5 x6 x7 = some res → qY sC X G 8 (q_Q sC X G (some (.int res.1)) res.2) σ 41 [(2, .int x2), (3, .int x3), (4, .ref (q_ad G 16)), (5, .int x5), (6, .int x6), (7, .int x7)] []) (σ : qM) (x2 : Int32) (x3 : Int32) (x5 : Int32) (x6 : Int32) (x7 : Int32) (res : (Int32 × qM))  (h : fX4_mornings_77 k41 σ x2 x3 x5 x6 x7 = some res) : qY sC X G 8 (q_Q sC X G (some (.int res.1)) res.2) σ 77 [(2, .int x2), (3, .int x3), (4, .ref (q_ad G 16)), (5, .int x5), (6, .int x6), (7, .int x7)] [] := by
  unfold fX4_mornings_77 at h
  refine q_inc (pc := 77) C 5 rfl ci_1 dX4_mornings_77 (by decide) rfl ?_
  refine q_goto (pc := 80) C 41 dX4_mornings_80 (by decide) ?_
  refine q_sub [1, 2, 3, 4, 5, 0] rfl ?_
  exact hk41 _ _ _ _ _ _ _ h
theorem tX4_mornings_58 {X : qX} {G : qG} (C : qC sC X G RX4 cX4_mornings 8 4 (some .int)) (k41 : qM → Int32 → Int32 → Int32 → Int32 → Int32 → Option (Int32 × qM)) (hk41 : ∀ (σ : qM) (x2 : Int32) (x3 : Int32) (x5 : Int32) (x6 : Int32) (x7 : Int32) (res : (Int32 × qM)), k41 σ x2 x3 x5 x6 x7 = some res → qY sC X G 8 (q_Q sC X G (some (.int res.1)) res.2) σ 41 [(2, .int x2), (3, .int x3), (4, .ref (q_ad G 16)), (5, .int x5), (6, .int x6), (7, .int x7)] []) (σ : qM) (x2 : Int32) (x3 : Int32) (x5 : Int32) (x6 : Int32) (x7 : Int32) (res : (Int32 × qM))  (h : fX4_mornings_58 k41 σ x2 x3 x5 x6 x7 = some res) : qY sC X G 8 (q_Q sC X G (some (.int res.1)) res.2) σ 58 [(2, .int x2), (3, .int x3), (4, .ref (q_ad G 16)), (5, .int x5), (6, .int x6), (7, .int x7)] [] := by
  unfold fX4_mornings_58 at h
  refine q_aload (pc := 58) C 2 rfl dX4_mornings_58 ?_
  refine q_iload (pc := 60) C 3 rfl dX4_mornings_60 ?_
  refine q_bipush (pc := 62) C dX4_mornings_62 cb_16 ?_
  refine q_iushr (pc := 64) C dX4_mornings_64 ?_
  refine q_iconst (pc := 65) C dX4_mornings_65 ci_4 ?_
  refine q_rem (pc := 66) C dX4_mornings_66 (by decide) ?_
  refine q_iload_n (pc := 67) C 1 rfl dX4_mornings_67 rfl ?_
  obtain ⟨q1, hq1, h⟩ := q_bind h
  refine q_callV1 (pc := 68) (st := []) C (zX0_isInForce hq1) yi_X0_isInForce ml_RX4_129 kC_16 rfl (by decide) rfl (Nat.le_of_ble_eq_true rfl) dX4_mornings_68 ?_
  refine q_if_eq (pc := 71) C 77 dX4_mornings_71 (by decide) (fun c2 => ?_) (fun c2 => ?_)
  · have h := q_t c2 h
    exact tX4_mornings_77 C k41 hk41 _ _ _ _ _ _ _ h
  · have h := q_f c2 h
    refine q_inc (pc := 74) C 4 rfl ci_1 dX4_mornings_74 (by decide) rfl ?_
    refine q_sub [1, 2, 3, 4, 0, 5] rfl ?_
    exact tX4_mornings_77 C k41 hk41 _ _ _ _ _ _ _ h
theorem uX4_mornings_41 {X : qX} {G : qG} (C : qC sC X G RX4 cX4_mornings 8 4 (some .int)) (k41 : qM → Int32 → Int32 → Int32 → Int32 → Int32 → Option (Int32 × qM)) (hk41 : ∀ (σ : qM) (x2 : Int32) (x3 : Int32) (x5 : Int32) (x6 : Int32) (x7 : Int32) (res : (Int32 × qM)), k41 σ x2 x3 x5 x6 x7 = some res → qY sC X G 8 (q_Q sC X G (some (.int res.1)) res.2) σ 41 [(2, .int x2), (3, .int x3), (4, .ref (q_ad G 16)), (5, .int x5), (6, .int x6), (7, .int x7)] []) (σ : qM) (x2 : Int32) (x3 : Int32) (x5 : Int32) (x6 : Int32) (x7 : Int32) (res : (Int32 × qM))  (h : bX4_mornings_41 k41 σ x2 x3 x5 x6 x7 = some res) : qY sC X G 8 (q_Q sC X G (some (.int res.1)) res.2) σ 41 [(2, .int x2), (3, .int x3), (4, .ref (q_ad G 16)), (5, .int x5), (6, .int x6), (7, .int x7)] [] := by
  unfold bX4_mornings_41 at h
  refine q_iload (pc := 41) C 5 rfl dX4_mornings_41 ?_
  refine q_iload_n (pc := 43) C 0 rfl dX4_mornings_43 rfl ?_
  refine q_ic_ge (pc := 44) C 83 dX4_mornings_44 (by decide) (fun c1 => ?_) (fun c1 => ?_)
  · have h := q_t c1 h
    refine q_iload (pc := 83) C 4 rfl dX4_mornings_83 ?_
    obtain rfl := Option.some.inj h
    exact q_iret (pc := 85) C dX4_mornings_85
  · have h := q_f c1 h
    refine q_ldc (pc := 47) C kn_RX4_198 dX4_mornings_47 ?_
    refine q_iload (pc := 49) C 3 rfl dX4_mornings_49 ?_
    refine q_imul (pc := 51) C dX4_mornings_51 ?_
    refine q_sipush (pc := 52) C dX4_mornings_52 cs_12345 ?_
    refine q_iadd (pc := 55) C dX4_mornings_55 ?_
    refine q_istore (pc := 56) C dX4_mornings_56 (by decide) rfl ?_
    refine q_sub [1, 2, 3, 0, 4, 5] rfl ?_
    exact tX4_mornings_58 C k41 hk41 _ _ _ _ _ _ _ h
theorem tX4_mornings_41 {X : qX} {G : qG} (C : qC sC X G RX4 cX4_mornings 8 4 (some .int))  (σ : qM) (x2 : Int32) (x3 : Int32) (x5 : Int32) (x6 : Int32) (x7 : Int32) (res : (Int32 × qM))  (h : fX4_mornings_41  σ x2 x3 x5 x6 x7 = some res) : qY sC X G 8 (q_Q sC X G (some (.int res.1)) res.2) σ 41 [(2, .int x2), (3, .int x3), (4, .ref (q_ad G 16)), (5, .int x5), (6, .int x6), (7, .int x7)] [] := by
  have key : ∀ (n : Nat) (σ : qM) (x2 : Int32) (x3 : Int32) (x5 : Int32) (x6 : Int32) (x7 : Int32) (res : (Int32 × qM)) , qlp (fun _ _ _ _ _ _ => none) (bX4_mornings_41 ) n σ x2 x3 x5 x6 x7 = some res → qY sC X G 8 (q_Q sC X G (some (.int res.1)) res.2) σ 41 [(2, .int x2), (3, .int x3), (4, .ref (q_ad G 16)), (5, .int x5), (6, .int x6), (7, .int x7)] [] := by
    intro n
    induction n with
    | zero => intro σ x2 x3 x5 x6 x7 res h; cases h
    | succ n ih => intro σ x2 x3 x5 x6 x7 res h; exact uX4_mornings_41 C  (qlp (fun _ _ _ _ _ _ => none) (bX4_mornings_41 ) n) (fun σ x2 x3 x5 x6 x7 res h => ih σ x2 x3 x5 x6 x7 res h) σ x2 x3 x5 x6 x7 res h
  exact key qFU σ x2 x3 x5 x6 x7 res h
theorem zX4_mornings {G : qG} {l : Launch} {σ : qM} {x1 : Int32} {x2 : Int32} {x3 : Int32} {res : (Int32 × qM)}  (h : fX4_mornings σ x1 x2 x3 = some res) : qCon sC G l yX4_mornings cX4_mornings 8 (some .int) 4 [.ref (q_ad G 0), .int x1, .int x2, .int x3] σ (some (.int res.1)) res.2 := by
  refine qCon.mkF (lv := [(0, .ref (q_ad G 0)), (1, .int x1), (2, .int x2), (3, .int x3)]) (plainFor_of_name (by decide)) (Nat.le_of_ble_eq_true rfl) rfl (fun X hX C => ?_)
  unfold fX4_mornings at h
  refine q_iload_n (pc := 0) C 2 rfl dX4_mornings_0 rfl ?_
  refine q_iconst (pc := 1) C dX4_mornings_1 ci_1 ?_
  refine q_ic_lt (pc := 2) C 20 dX4_mornings_2 (by decide) (fun c1 => ?_) (fun c1 => ?_)
  · have h := q_t c1 h
    refine q_bipush (pc := 20) C dX4_mornings_20 cb_m2 ?_
    obtain rfl := Option.some.inj h
    exact q_iret (pc := 22) C dX4_mornings_22
  · have h := q_f c1 h
    refine q_iload_n (pc := 5) C 2 rfl dX4_mornings_5 rfl ?_
    refine q_bipush (pc := 6) C dX4_mornings_6 cb_99 ?_
    refine q_ic_gt (pc := 8) C 20 dX4_mornings_8 (by decide) (fun c2 => ?_) (fun c2 => ?_)
    · have h := q_t c2 h
      refine q_bipush (pc := 20) C dX4_mornings_20 cb_m2 ?_
      obtain rfl := Option.some.inj h
      exact q_iret (pc := 22) C dX4_mornings_22
    · have h := q_f c2 h
      refine q_iload_n (pc := 11) C 3 rfl dX4_mornings_11 rfl ?_
      refine q_bipush (pc := 12) C dX4_mornings_12 cb_8 ?_
      obtain ⟨q3, hq3, h⟩ := q_bind h
      refine q_callS1 (pc := 14) (st := []) C (zX4_below hq3) ys_X4_below ml_RX4_62 rfl (by decide) rfl (Nat.le_of_ble_eq_true rfl) dX4_mornings_14 ?_
      refine q_if_ne (pc := 17) C 23 dX4_mornings_17 (by decide) (fun c4 => ?_) (fun c4 => ?_)
      · have h := q_f c4 h
        refine q_aload_n (pc := 23) C 0 rfl dX4_mornings_23 rfl ?_
        refine q_getR (pc := 24) (t := 16) C fl_RX4_41 kC_0 rfl rC_0_5 dX4_mornings_24 ?_
        obtain ⟨q5, hq5, h⟩ := q_bind h
        refine q_callV1 (pc := 27) (st := []) C (zX0_settled hq5) yi_X0_settled ml_RX4_98 kC_16 rfl (by decide) rfl (Nat.le_of_ble_eq_true rfl) dX4_mornings_27 ?_
        refine q_astore (pc := 30) C dX4_mornings_30 (by decide) rfl ?_
        refine q_iload_n (pc := 32) C 2 rfl dX4_mornings_32 rfl ?_
        refine q_istore (pc := 33) C dX4_mornings_33 (by decide) rfl ?_
        refine q_iconst (pc := 35) C dX4_mornings_35 ci_0 ?_
        refine q_istore (pc := 36) C dX4_mornings_36 (by decide) rfl ?_
        refine q_iconst (pc := 38) C dX4_mornings_38 ci_0 ?_
        refine q_istore (pc := 39) C dX4_mornings_39 (by decide) rfl ?_
        refine q_sub [6, 7, 3, 2, 1, 0] rfl ?_
        exact tX4_mornings_41 C _ _ _ _ _ _ _ h
      · have h := q_t c4 h
        refine q_bipush (pc := 20) C dX4_mornings_20 cb_m2 ?_
        obtain rfl := Option.some.inj h
        exact q_iret (pc := 22) C dX4_mornings_22
/-! X4_sheet -/
theorem zX4_sheet {G : qG} {l : Launch} {σ : qM} {x1 : Int32} {x2 : Int32} {x3 : Int32} {res : (Int32 × qM)}  (h : fX4_sheet σ x1 x2 x3 = some res) : qCon sC G l yX4_sheet cX4_sheet 4 (some .int) 1 [.ref (q_ad G 0), .int x1, .int x2, .int x3] σ (some (.int res.1)) res.2 := by
  refine qCon.mkF (lv := [(0, .ref (q_ad G 0)), (1, .int x1), (2, .int x2), (3, .int x3)]) (plainFor_of_name (by decide)) (Nat.le_of_ble_eq_true rfl) rfl (fun X hX C => ?_)
  unfold fX4_sheet at h
  refine q_iload_n (pc := 0) C 1 rfl dX4_sheet_0 rfl ?_
  refine q_iconst (pc := 1) C dX4_sheet_1 ci_4 ?_
  obtain ⟨q1, hq1, h⟩ := q_bind h
  refine q_callS1 (pc := 2) (st := []) C (zX4_below hq1) ys_X4_below ml_RX4_62 rfl (by decide) rfl (Nat.le_of_ble_eq_true rfl) dX4_sheet_2 ?_
  refine q_if_eq (pc := 5) C 22 dX4_sheet_5 (by decide) (fun c2 => ?_) (fun c2 => ?_)
  · have h := q_t c2 h
    refine q_bipush (pc := 22) C dX4_sheet_22 cb_m2 ?_
    obtain rfl := Option.some.inj h
    exact q_iret (pc := 24) C dX4_sheet_24
  · have h := q_f c2 h
    refine q_iload_n (pc := 8) C 2 rfl dX4_sheet_8 rfl ?_
    refine q_iconst (pc := 9) C dX4_sheet_9 ci_3 ?_
    obtain ⟨q3, hq3, h⟩ := q_bind h
    refine q_callS1 (pc := 10) (st := []) C (zX4_below hq3) ys_X4_below ml_RX4_62 rfl (by decide) rfl (Nat.le_of_ble_eq_true rfl) dX4_sheet_10 ?_
    refine q_if_eq (pc := 13) C 22 dX4_sheet_13 (by decide) (fun c4 => ?_) (fun c4 => ?_)
    · have h := q_t c4 h
      refine q_bipush (pc := 22) C dX4_sheet_22 cb_m2 ?_
      obtain rfl := Option.some.inj h
      exact q_iret (pc := 24) C dX4_sheet_24
    · have h := q_f c4 h
      refine q_iload_n (pc := 16) C 3 rfl dX4_sheet_16 rfl ?_
      refine q_bipush (pc := 17) C dX4_sheet_17 cb_60 ?_
      refine q_ic_le (pc := 19) C 25 dX4_sheet_19 (by decide) (fun c5 => ?_) (fun c5 => ?_)
      · have h := q_t c5 h
        refine q_iload_n (pc := 25) C 3 rfl dX4_sheet_25 rfl ?_
        refine q_if_ge (pc := 26) C 35 dX4_sheet_26 (by decide) (fun c6 => ?_) (fun c6 => ?_)
        · have h := q_t c6 h
          refine q_aload_n (pc := 35) C 0 rfl dX4_sheet_35 rfl ?_
          refine q_getR (pc := 36) (t := 43) C fl_RX4_47 kC_0 rfl rC_0_6 dX4_sheet_36 ?_
          refine q_iload_n (pc := 39) C 1 rfl dX4_sheet_39 rfl ?_
          obtain ⟨g7, h⟩ := q_guard h
          refine q_aald (pc := 40) (t := (44 + 2 * x1.toNatClampNeg)) C (Or.inr kC_43) lC_43 g7 (rR_43 _) dX4_sheet_40 ?_
          refine q_iload_n (pc := 41) C 2 rfl dX4_sheet_41 rfl ?_
          refine q_iload_n (pc := 42) C 3 rfl dX4_sheet_42 rfl ?_
          obtain ⟨q8, hq8, h⟩ := q_bind h
          refine q_callV0 (pc := 43) (st := []) C (zX2_begin (kR_43 g7) hq8) yi_X2_begin ml_RX4_199 (kR_43 g7) rfl (by decide) rfl (Nat.le_of_ble_eq_true rfl) dX4_sheet_43 ?_
          refine q_iload_n (pc := 46) C 3 rfl dX4_sheet_46 rfl ?_
          obtain rfl := Option.some.inj h
          exact q_iret (pc := 47) C dX4_sheet_47
        · have h := q_f c6 h
          refine q_aload_n (pc := 29) C 0 rfl dX4_sheet_29 rfl ?_
          refine q_iconst (pc := 30) C dX4_sheet_30 ci_5 ?_
          obtain ⟨q9, hq9, h⟩ := q_bind h
          refine q_callV1 (pc := 31) (st := []) C (zX4_find hq9) yi_X4_find ml_RX4_165 kC_0 rfl (by decide) rfl (Nat.le_of_ble_eq_true rfl) dX4_sheet_31 ?_
          obtain rfl := Option.some.inj h
          exact q_iret (pc := 34) C dX4_sheet_34
      · have h := q_f c5 h
        refine q_bipush (pc := 22) C dX4_sheet_22 cb_m2 ?_
        obtain rfl := Option.some.inj h
        exact q_iret (pc := 24) C dX4_sheet_24
/-! X4_lose -/
theorem zX4_lose {G : qG} {l : Launch} {σ : qM} {x1 : Int32} {res : (Int32 × qM)}  (h : fX4_lose σ x1 = some res) : qCon sC G l yX4_lose cX4_lose 2 (some .int) 1 [.ref (q_ad G 0), .int x1] σ (some (.int res.1)) res.2 := by
  refine qCon.mkF (lv := [(0, .ref (q_ad G 0)), (1, .int x1)]) (plainFor_of_name (by decide)) (Nat.le_of_ble_eq_true rfl) rfl (fun X hX C => ?_)
  unfold fX4_lose at h
  refine q_iload_n (pc := 0) C 1 rfl dX4_lose_0 rfl ?_
  refine q_iconst (pc := 1) C dX4_lose_1 ci_4 ?_
  obtain ⟨q1, hq1, h⟩ := q_bind h
  refine q_callS1 (pc := 2) (st := []) C (zX4_below hq1) ys_X4_below ml_RX4_62 rfl (by decide) rfl (Nat.le_of_ble_eq_true rfl) dX4_lose_2 ?_
  refine q_if_ne (pc := 5) C 11 dX4_lose_5 (by decide) (fun c2 => ?_) (fun c2 => ?_)
  · have h := q_f c2 h
    refine q_aload_n (pc := 11) C 0 rfl dX4_lose_11 rfl ?_
    refine q_getR (pc := 12) (t := 43) C fl_RX4_47 kC_0 rfl rC_0_6 dX4_lose_12 ?_
    refine q_iload_n (pc := 15) C 1 rfl dX4_lose_15 rfl ?_
    obtain ⟨g3, h⟩ := q_guard h
    refine q_aald (pc := 16) (t := (44 + 2 * x1.toNatClampNeg)) C (Or.inr kC_43) lC_43 g3 (rR_43 _) dX4_lose_16 ?_
    obtain ⟨q4, hq4, h⟩ := q_bind h
    refine q_callV1 (pc := 17) (st := []) C (zX2_isLost (kR_43 g3) hq4) yi_X2_isLost ml_RX4_161 (kR_43 g3) rfl (by decide) rfl (Nat.le_of_ble_eq_true rfl) dX4_lose_17 ?_
    refine q_if_eq (pc := 20) C 31 dX4_lose_20 (by decide) (fun c5 => ?_) (fun c5 => ?_)
    · have h := q_t c5 h
      refine q_aload_n (pc := 31) C 0 rfl dX4_lose_31 rfl ?_
      refine q_getR (pc := 32) (t := 43) C fl_RX4_47 kC_0 rfl rC_0_6 dX4_lose_32 ?_
      refine q_iload_n (pc := 35) C 1 rfl dX4_lose_35 rfl ?_
      obtain ⟨g6, h⟩ := q_guard h
      refine q_aald (pc := 36) (t := (44 + 2 * x1.toNatClampNeg)) C (Or.inr kC_43) lC_43 g6 (rR_43 _) dX4_lose_36 ?_
      obtain ⟨q7, hq7, h⟩ := q_bind h
      refine q_callV1 (pc := 37) (st := []) C (zX2_end (kR_43 g6) hq7) yi_X2_end ml_RX4_203 (kR_43 g6) rfl (by decide) rfl (Nat.le_of_ble_eq_true rfl) dX4_lose_37 ?_
      obtain rfl := Option.some.inj h
      exact q_iret (pc := 40) C dX4_lose_40
    · have h := q_f c5 h
      refine q_aload_n (pc := 23) C 0 rfl dX4_lose_23 rfl ?_
      refine q_iconst (pc := 24) C dX4_lose_24 ci_1 ?_
      obtain ⟨q8, hq8, h⟩ := q_bind h
      refine q_callV1 (pc := 25) (st := []) C (zX4_find hq8) yi_X4_find ml_RX4_165 kC_0 rfl (by decide) rfl (Nat.le_of_ble_eq_true rfl) dX4_lose_25 ?_
      refine q_goto (pc := 28) C 40 dX4_lose_28 (by decide) ?_
      obtain rfl := Option.some.inj h
      exact q_iret (pc := 40) C dX4_lose_40
  · have h := q_t c2 h
    refine q_bipush (pc := 8) C dX4_lose_8 cb_m2 ?_
    obtain rfl := Option.some.inj h
    exact q_iret (pc := 10) C dX4_lose_10
/-! X4_itemFinding -/
theorem zX4_itemFinding {G : qG} {l : Launch} {σ : qM} {x0 : Nat} {x1 : Int32} {x2 : Int32} {res : (Int32 × qM)} (hx0 : q_kd sC x0 = 2) (h : fX4_itemFinding σ x0 x1 x2 = some res) : qCon sC G l yX4_itemFinding cX4_itemFinding 3 (some .int) 1 [.ref (q_ad G x0), .int x1, .int x2] σ (some (.int res.1)) res.2 := by
  refine qCon.mkF (lv := [(0, .ref (q_ad G x0)), (1, .int x1), (2, .int x2)]) (plainFor_of_name (by decide)) (Nat.le_of_ble_eq_true rfl) rfl (fun X hX C => ?_)
  unfold fX4_itemFinding at h
  refine q_aload_n (pc := 0) C 0 rfl dX4_itemFinding_0 rfl ?_
  obtain ⟨q1, hq1, h⟩ := q_bind h
  refine q_callV1 (pc := 1) (st := []) C (zX2_isLost hx0 hq1) yi_X2_isLost ml_RX4_161 hx0 rfl (by decide) rfl (Nat.le_of_ble_eq_true rfl) dX4_itemFinding_1 ?_
  refine q_if_eq (pc := 4) C 9 dX4_itemFinding_4 (by decide) (fun c2 => ?_) (fun c2 => ?_)
  · have h := q_t c2 h
    refine q_aload_n (pc := 9) C 0 rfl dX4_itemFinding_9 rfl ?_
    refine q_getI (pc := 10) C fl_RX4_214 hx0 rfl dX4_itemFinding_10 ?_
    refine q_iload_n (pc := 13) C 1 rfl dX4_itemFinding_13 rfl ?_
    refine q_ic_eq (pc := 14) C 19 dX4_itemFinding_14 (by decide) (fun c3 => ?_) (fun c3 => ?_)
    · have h := q_t c3 h
      refine q_iload_n (pc := 19) C 2 rfl dX4_itemFinding_19 rfl ?_
      refine q_aload_n (pc := 20) C 0 rfl dX4_itemFinding_20 rfl ?_
      refine q_getI (pc := 21) C fl_RX4_168 hx0 rfl dX4_itemFinding_21 ?_
      obtain ⟨q4, hq4, h⟩ := q_bind h
      refine q_callS1 (pc := 24) (st := []) C (zX4_below hq4) ys_X4_below ml_RX4_62 rfl (by decide) rfl (Nat.le_of_ble_eq_true rfl) dX4_itemFinding_24 ?_
      refine q_if_eq (pc := 27) C 34 dX4_itemFinding_27 (by decide) (fun c5 => ?_) (fun c5 => ?_)
      · have h := q_t c5 h
        refine q_iconst (pc := 34) C dX4_itemFinding_34 ci_2 ?_
        obtain rfl := Option.some.inj h
        exact q_iret (pc := 35) C dX4_itemFinding_35
      · have h := q_f c5 h
        refine q_iconst (pc := 30) C dX4_itemFinding_30 ci_0 ?_
        refine q_goto (pc := 31) C 35 dX4_itemFinding_31 (by decide) ?_
        obtain rfl := Option.some.inj h
        exact q_iret (pc := 35) C dX4_itemFinding_35
    · have h := q_f c3 h
      refine q_iconst (pc := 17) C dX4_itemFinding_17 ci_3 ?_
      obtain rfl := Option.some.inj h
      exact q_iret (pc := 18) C dX4_itemFinding_18
  · have h := q_f c2 h
    refine q_iconst (pc := 7) C dX4_itemFinding_7 ci_1 ?_
    obtain rfl := Option.some.inj h
    exact q_iret (pc := 8) C dX4_itemFinding_8
/-! X4_lay -/
theorem zX4_lay {G : qG} {l : Launch} {σ : qM} {x1 : Int32} {x2 : Int32} {x3 : Int32} {x4 : Int32} {res : (Int32 × qM)}  (h : fX4_lay σ x1 x2 x3 x4 = some res) : qCon sC G l yX4_lay cX4_lay 6 (some .int) 2 [.ref (q_ad G 0), .int x1, .int x2, .int x3, .int x4] σ (some (.int res.1)) res.2 := by
  refine qCon.mkF (lv := [(0, .ref (q_ad G 0)), (1, .int x1), (2, .int x2), (3, .int x3), (4, .int x4)]) (plainFor_of_name (by decide)) (Nat.le_of_ble_eq_true rfl) rfl (fun X hX C => ?_)
  unfold fX4_lay at h
  refine q_iload_n (pc := 0) C 1 rfl dX4_lay_0 rfl ?_
  refine q_iconst (pc := 1) C dX4_lay_1 ci_4 ?_
  obtain ⟨q1, hq1, h⟩ := q_bind h
  refine q_callS1 (pc := 2) (st := []) C (zX4_below hq1) ys_X4_below ml_RX4_62 rfl (by decide) rfl (Nat.le_of_ble_eq_true rfl) dX4_lay_2 ?_
  refine q_if_eq (pc := 5) C 16 dX4_lay_5 (by decide) (fun c2 => ?_) (fun c2 => ?_)
  · have h := q_t c2 h
    refine q_bipush (pc := 16) C dX4_lay_16 cb_m2 ?_
    obtain rfl := Option.some.inj h
    exact q_iret (pc := 18) C dX4_lay_18
  · have h := q_f c2 h
    refine q_iload_n (pc := 8) C 2 rfl dX4_lay_8 rfl ?_
    refine q_iconst (pc := 9) C dX4_lay_9 ci_3 ?_
    obtain ⟨q3, hq3, h⟩ := q_bind h
    refine q_callS1 (pc := 10) (st := []) C (zX4_below hq3) ys_X4_below ml_RX4_62 rfl (by decide) rfl (Nat.le_of_ble_eq_true rfl) dX4_lay_10 ?_
    refine q_if_ne (pc := 13) C 19 dX4_lay_13 (by decide) (fun c4 => ?_) (fun c4 => ?_)
    · have h := q_f c4 h
      refine q_aload_n (pc := 19) C 0 rfl dX4_lay_19 rfl ?_
      refine q_getR (pc := 20) (t := 43) C fl_RX4_47 kC_0 rfl rC_0_6 dX4_lay_20 ?_
      refine q_iload_n (pc := 23) C 1 rfl dX4_lay_23 rfl ?_
      obtain ⟨g5, h⟩ := q_guard h
      refine q_aald (pc := 24) (t := (44 + 2 * x1.toNatClampNeg)) C (Or.inr kC_43) lC_43 g5 (rR_43 _) dX4_lay_24 ?_
      refine q_iload_n (pc := 25) C 2 rfl dX4_lay_25 rfl ?_
      refine q_iload_n (pc := 26) C 3 rfl dX4_lay_26 rfl ?_
      obtain ⟨q6, hq6, h⟩ := q_bind h
      refine q_callS1 (pc := 27) (st := []) C (zX4_itemFinding (kR_43 g5) hq6) ys_X4_itemFinding ml_RX4_206 rfl (by decide) rfl (Nat.le_of_ble_eq_true rfl) dX4_lay_27 ?_
      refine q_istore (pc := 30) C dX4_lay_30 (by decide) rfl ?_
      refine q_iload (pc := 32) C 0 rfl dX4_lay_32 ?_
      refine q_if_eq (pc := 34) C 44 dX4_lay_34 (by decide) (fun c7 => ?_) (fun c7 => ?_)
      · have h := q_t c7 h
        refine q_aload_n (pc := 44) C 1 rfl dX4_lay_44 rfl ?_
        refine q_getR (pc := 45) (t := 43) C fl_RX4_47 kC_0 rfl rC_0_6 dX4_lay_45 ?_
        refine q_iload_n (pc := 48) C 2 rfl dX4_lay_48 rfl ?_
        obtain ⟨g8, h⟩ := q_guard h
        refine q_aald (pc := 49) (t := (44 + 2 * x1.toNatClampNeg)) C (Or.inr kC_43) lC_43 g8 (rR_43 _) dX4_lay_49 ?_
        refine q_iload_n (pc := 50) C 4 rfl dX4_lay_50 rfl ?_
        refine q_iload (pc := 51) C 5 rfl dX4_lay_51 ?_
        obtain ⟨q9, hq9, h⟩ := q_bind h
        refine q_callV0 (pc := 53) (st := []) C (zX2_put (kR_43 g8) hq9) yi_X2_put ml_RX4_210 (kR_43 g8) rfl (by decide) rfl (Nat.le_of_ble_eq_true rfl) dX4_lay_53 ?_
        refine q_iconst (pc := 56) C dX4_lay_56 ci_1 ?_
        obtain rfl := Option.some.inj h
        exact q_iret (pc := 57) C dX4_lay_57
      · have h := q_f c7 h
        refine q_aload_n (pc := 37) C 1 rfl dX4_lay_37 rfl ?_
        refine q_iload (pc := 38) C 0 rfl dX4_lay_38 ?_
        obtain ⟨q10, hq10, h⟩ := q_bind h
        refine q_callV1 (pc := 40) (st := []) C (zX4_find hq10) yi_X4_find ml_RX4_165 kC_0 rfl (by decide) rfl (Nat.le_of_ble_eq_true rfl) dX4_lay_40 ?_
        obtain rfl := Option.some.inj h
        exact q_iret (pc := 43) C dX4_lay_43
    · have h := q_t c4 h
      refine q_bipush (pc := 16) C dX4_lay_16 cb_m2 ?_
      obtain rfl := Option.some.inj h
      exact q_iret (pc := 18) C dX4_lay_18
/-! X4_get -/
theorem zX4_get {G : qG} {l : Launch} {σ : qM} {x1 : Int32} {x2 : Int32} {x3 : Int32} {res : (Int32 × qM)}  (h : fX4_get σ x1 x2 x3 = some res) : qCon sC G l yX4_get cX4_get 5 (some .int) 2 [.ref (q_ad G 0), .int x1, .int x2, .int x3] σ (some (.int res.1)) res.2 := by
  refine qCon.mkF (lv := [(0, .ref (q_ad G 0)), (1, .int x1), (2, .int x2), (3, .int x3)]) (plainFor_of_name (by decide)) (Nat.le_of_ble_eq_true rfl) rfl (fun X hX C => ?_)
  unfold fX4_get at h
  refine q_iload_n (pc := 0) C 1 rfl dX4_get_0 rfl ?_
  refine q_iconst (pc := 1) C dX4_get_1 ci_4 ?_
  obtain ⟨q1, hq1, h⟩ := q_bind h
  refine q_callS1 (pc := 2) (st := []) C (zX4_below hq1) ys_X4_below ml_RX4_62 rfl (by decide) rfl (Nat.le_of_ble_eq_true rfl) dX4_get_2 ?_
  refine q_if_eq (pc := 5) C 16 dX4_get_5 (by decide) (fun c2 => ?_) (fun c2 => ?_)
  · have h := q_t c2 h
    refine q_ldc (pc := 16) C kn_RX4_213 dX4_get_16 ?_
    obtain rfl := Option.some.inj h
    exact q_iret (pc := 18) C dX4_get_18
  · have h := q_f c2 h
    refine q_iload_n (pc := 8) C 2 rfl dX4_get_8 rfl ?_
    refine q_iconst (pc := 9) C dX4_get_9 ci_3 ?_
    obtain ⟨q3, hq3, h⟩ := q_bind h
    refine q_callS1 (pc := 10) (st := []) C (zX4_below hq3) ys_X4_below ml_RX4_62 rfl (by decide) rfl (Nat.le_of_ble_eq_true rfl) dX4_get_10 ?_
    refine q_if_ne (pc := 13) C 19 dX4_get_13 (by decide) (fun c4 => ?_) (fun c4 => ?_)
    · have h := q_f c4 h
      refine q_aload_n (pc := 19) C 0 rfl dX4_get_19 rfl ?_
      refine q_getR (pc := 20) (t := 43) C fl_RX4_47 kC_0 rfl rC_0_6 dX4_get_20 ?_
      refine q_iload_n (pc := 23) C 1 rfl dX4_get_23 rfl ?_
      obtain ⟨g5, h⟩ := q_guard h
      refine q_aald (pc := 24) (t := (44 + 2 * x1.toNatClampNeg)) C (Or.inr kC_43) lC_43 g5 (rR_43 _) dX4_get_24 ?_
      refine q_iload_n (pc := 25) C 2 rfl dX4_get_25 rfl ?_
      refine q_iload_n (pc := 26) C 3 rfl dX4_get_26 rfl ?_
      obtain ⟨q6, hq6, h⟩ := q_bind h
      refine q_callS1 (pc := 27) (st := []) C (zX4_itemFinding (kR_43 g5) hq6) ys_X4_itemFinding ml_RX4_206 rfl (by decide) rfl (Nat.le_of_ble_eq_true rfl) dX4_get_27 ?_
      refine q_istore (pc := 30) C dX4_get_30 (by decide) rfl ?_
      refine q_iload (pc := 32) C 0 rfl dX4_get_32 ?_
      refine q_if_eq (pc := 34) C 47 dX4_get_34 (by decide) (fun c7 => ?_) (fun c7 => ?_)
      · have h := q_t c7 h
        refine q_aload_n (pc := 47) C 1 rfl dX4_get_47 rfl ?_
        refine q_getR (pc := 48) (t := 43) C fl_RX4_47 kC_0 rfl rC_0_6 dX4_get_48 ?_
        refine q_iload_n (pc := 51) C 2 rfl dX4_get_51 rfl ?_
        obtain ⟨g8, h⟩ := q_guard h
        refine q_aald (pc := 52) (t := (44 + 2 * x1.toNatClampNeg)) C (Or.inr kC_43) lC_43 g8 (rR_43 _) dX4_get_52 ?_
        refine q_getR (pc := 53) (t := ((44 + 2 * x1.toNatClampNeg) + 1)) C fl_RX4_171 (kR_43 g8) rfl (rH_0 (kR_43 g8)) dX4_get_53 ?_
        refine q_iload_n (pc := 56) C 4 rfl dX4_get_56 rfl ?_
        obtain ⟨g9, h⟩ := q_guard h
        refine q_iald (pc := 57) C (kH_1 (kR_43 g8)) (lH_1 (kR_43 g8)) g9 dX4_get_57 ?_
        obtain rfl := Option.some.inj h
        exact q_iret (pc := 58) C dX4_get_58
      · have h := q_f c7 h
        refine q_aload_n (pc := 37) C 1 rfl dX4_get_37 rfl ?_
        refine q_iload (pc := 38) C 0 rfl dX4_get_38 ?_
        obtain ⟨q10, hq10, h⟩ := q_bind h
        refine q_callV1 (pc := 40) (st := []) C (zX4_find hq10) yi_X4_find ml_RX4_165 kC_0 rfl (by decide) rfl (Nat.le_of_ble_eq_true rfl) dX4_get_40 ?_
        refine q_pop (pc := 43) C dX4_get_43 rfl ?_
        refine q_ldc (pc := 44) C kn_RX4_213 dX4_get_44 ?_
        obtain rfl := Option.some.inj h
        exact q_iret (pc := 46) C dX4_get_46
    · have h := q_t c4 h
      refine q_ldc (pc := 16) C kn_RX4_213 dX4_get_16 ?_
      obtain rfl := Option.some.inj h
      exact q_iret (pc := 18) C dX4_get_18
/-! X4_copy -/
theorem tX4_copy_51 {X : qX} {G : qG} (C : qC sC X G RX4 cX4_copy 8 1 (some .int))  (σ : qM)  (res : (Int32 × qM))  (h : fX4_copy_51  σ  = some res) : qY sC X G 8 (q_Q sC X G (some (.int res.1)) res.2) σ 51 [(0, .ref (q_ad G 0))] [] := by
  unfold fX4_copy_51 at h
  refine q_aload_n (pc := 51) C 0 rfl dX4_copy_51 rfl ?_
  refine q_iconst (pc := 52) C dX4_copy_52 ci_1 ?_
  obtain ⟨q1, hq1, h⟩ := q_bind h
  refine q_callV1 (pc := 53) (st := []) C (zX4_find hq1) yi_X4_find ml_RX4_165 kC_0 rfl (by decide) rfl (Nat.le_of_ble_eq_true rfl) dX4_copy_53 ?_
  obtain rfl := Option.some.inj h
  exact q_iret (pc := 56) C dX4_copy_56
theorem tX4_copy_99 {X : qX} {G : qG} (C : qC sC X G RX4 cX4_copy 8 1 (some .int))  (σ : qM)  (res : (Int32 × qM))  (h : fX4_copy_99  σ  = some res) : qY sC X G 8 (q_Q sC X G (some (.int res.1)) res.2) σ 99 [(0, .ref (q_ad G 0))] [] := by
  unfold fX4_copy_99 at h
  refine q_aload_n (pc := 99) C 0 rfl dX4_copy_99 rfl ?_
  refine q_iconst (pc := 100) C dX4_copy_100 ci_2 ?_
  obtain ⟨q1, hq1, h⟩ := q_bind h
  refine q_callV1 (pc := 101) (st := []) C (zX4_find hq1) yi_X4_find ml_RX4_165 kC_0 rfl (by decide) rfl (Nat.le_of_ble_eq_true rfl) dX4_copy_101 ?_
  obtain rfl := Option.some.inj h
  exact q_iret (pc := 104) C dX4_copy_104
theorem zX4_copy {G : qG} {l : Launch} {σ : qM} {x1 : Int32} {x2 : Int32} {x3 : Int32} {x4 : Int32} {x5 : Int32} {res : (Int32 × qM)}  (h : fX4_copy σ x1 x2 x3 x4 x5 = some res) : qCon sC G l yX4_copy cX4_copy 8 (some .int) 1 [.ref (q_ad G 0), .int x1, .int x2, .int x3, .int x4, .int x5] σ (some (.int res.1)) res.2 := by
  refine qCon.mkF (lv := [(0, .ref (q_ad G 0)), (1, .int x1), (2, .int x2), (3, .int x3), (4, .int x4), (5, .int x5)]) (plainFor_of_name (by decide)) (Nat.le_of_ble_eq_true rfl) rfl (fun X hX C => ?_)
  unfold fX4_copy at h
  refine q_iload_n (pc := 0) C 1 rfl dX4_copy_0 rfl ?_
  refine q_iconst (pc := 1) C dX4_copy_1 ci_4 ?_
  obtain ⟨q1, hq1, h⟩ := q_bind h
  refine q_callS1 (pc := 2) (st := []) C (zX4_below hq1) ys_X4_below ml_RX4_62 rfl (by decide) rfl (Nat.le_of_ble_eq_true rfl) dX4_copy_2 ?_
  refine q_if_eq (pc := 5) C 16 dX4_copy_5 (by decide) (fun c2 => ?_) (fun c2 => ?_)
  · have h := q_t c2 h
    refine q_bipush (pc := 16) C dX4_copy_16 cb_m2 ?_
    obtain rfl := Option.some.inj h
    exact q_iret (pc := 18) C dX4_copy_18
  · have h := q_f c2 h
    refine q_iload_n (pc := 8) C 3 rfl dX4_copy_8 rfl ?_
    refine q_iconst (pc := 9) C dX4_copy_9 ci_4 ?_
    obtain ⟨q3, hq3, h⟩ := q_bind h
    refine q_callS1 (pc := 10) (st := []) C (zX4_below hq3) ys_X4_below ml_RX4_62 rfl (by decide) rfl (Nat.le_of_ble_eq_true rfl) dX4_copy_10 ?_
    refine q_if_ne (pc := 13) C 19 dX4_copy_13 (by decide) (fun c4 => ?_) (fun c4 => ?_)
    · have h := q_f c4 h
      refine q_aload_n (pc := 19) C 0 rfl dX4_copy_19 rfl ?_
      refine q_getR (pc := 20) (t := 43) C fl_RX4_47 kC_0 rfl rC_0_6 dX4_copy_20 ?_
      refine q_iload_n (pc := 23) C 1 rfl dX4_copy_23 rfl ?_
      obtain ⟨g5, h⟩ := q_guard h
      refine q_aald (pc := 24) (t := (44 + 2 * x1.toNatClampNeg)) C (Or.inr kC_43) lC_43 g5 (rR_43 _) dX4_copy_24 ?_
      refine q_astore (pc := 25) C dX4_copy_25 (by decide) rfl ?_
      refine q_aload_n (pc := 27) C 1 rfl dX4_copy_27 rfl ?_
      refine q_getR (pc := 28) (t := 43) C fl_RX4_47 kC_0 rfl rC_0_6 dX4_copy_28 ?_
      refine q_iload_n (pc := 31) C 4 rfl dX4_copy_31 rfl ?_
      obtain ⟨g6, h⟩ := q_guard h
      refine q_aald (pc := 32) (t := (44 + 2 * x3.toNatClampNeg)) C (Or.inr kC_43) lC_43 g6 (rR_43 _) dX4_copy_32 ?_
      refine q_astore (pc := 33) C dX4_copy_33 (by decide) rfl ?_
      refine q_aload (pc := 35) C 1 rfl dX4_copy_35 ?_
      obtain ⟨q7, hq7, h⟩ := q_bind h
      refine q_callV1 (pc := 37) (st := []) C (zX2_isLost (kR_43 g5) hq7) yi_X2_isLost ml_RX4_161 (kR_43 g5) rfl (by decide) rfl (Nat.le_of_ble_eq_true rfl) dX4_copy_37 ?_
      refine q_if_ne (pc := 40) C 51 dX4_copy_40 (by decide) (fun c8 => ?_) (fun c8 => ?_)
      · have h := q_f c8 h
        refine q_sub [2] rfl ?_
        exact tX4_copy_51 C _ _ h
      · have h := q_t c8 h
        refine q_aload (pc := 43) C 0 rfl dX4_copy_43 ?_
        obtain ⟨q9, hq9, h⟩ := q_bind h
        refine q_callV1 (pc := 45) (st := []) C (zX2_isLost (kR_43 g6) hq9) yi_X2_isLost ml_RX4_161 (kR_43 g6) rfl (by decide) rfl (Nat.le_of_ble_eq_true rfl) dX4_copy_45 ?_
        refine q_if_eq (pc := 48) C 57 dX4_copy_48 (by decide) (fun c10 => ?_) (fun c10 => ?_)
        · have h := q_t c10 h
          refine q_aload (pc := 57) C 1 rfl dX4_copy_57 ?_
          refine q_getI (pc := 59) C fl_RX4_214 (kR_43 g5) rfl dX4_copy_59 ?_
          refine q_aload (pc := 62) C 0 rfl dX4_copy_62 ?_
          refine q_getI (pc := 64) C fl_RX4_214 (kR_43 g6) rfl dX4_copy_64 ?_
          refine q_ic_eq (pc := 67) C 76 dX4_copy_67 (by decide) (fun c11 => ?_) (fun c11 => ?_)
          · have h := q_t c11 h
            refine q_aload (pc := 76) C 1 rfl dX4_copy_76 ?_
            refine q_iload_n (pc := 78) C 4 rfl dX4_copy_78 rfl ?_
            refine q_iload (pc := 79) C 7 rfl dX4_copy_79 ?_
            obtain ⟨q12, hq12, h⟩ := q_bind h
            refine q_callV1 (pc := 81) (st := []) C (zX2_has (kR_43 g5) hq12) yi_X2_has ml_RX4_217 (kR_43 g5) rfl (by decide) rfl (Nat.le_of_ble_eq_true rfl) dX4_copy_81 ?_
            refine q_if_eq (pc := 84) C 99 dX4_copy_84 (by decide) (fun c13 => ?_) (fun c13 => ?_)
            · have h := q_t c13 h
              refine q_sub [2] rfl ?_
              exact tX4_copy_99 C _ _ h
            · have h := q_f c13 h
              refine q_aload (pc := 87) C 0 rfl dX4_copy_87 ?_
              refine q_iload (pc := 89) C 6 rfl dX4_copy_89 ?_
              refine q_iload (pc := 91) C 7 rfl dX4_copy_91 ?_
              obtain ⟨q14, hq14, h⟩ := q_bind h
              refine q_callV1 (pc := 93) (st := []) C (zX2_has (kR_43 g6) hq14) yi_X2_has ml_RX4_217 (kR_43 g6) rfl (by decide) rfl (Nat.le_of_ble_eq_true rfl) dX4_copy_93 ?_
              refine q_if_ne (pc := 96) C 105 dX4_copy_96 (by decide) (fun c15 => ?_) (fun c15 => ?_)
              · have h := q_f c15 h
                refine q_aload (pc := 105) C 1 rfl dX4_copy_105 ?_
                refine q_getR (pc := 107) (t := ((44 + 2 * x1.toNatClampNeg) + 1)) C fl_RX4_171 (kR_43 g5) rfl (rH_0 (kR_43 g5)) dX4_copy_107 ?_
                refine q_iload_n (pc := 110) C 4 rfl dX4_copy_110 rfl ?_
                refine q_aload (pc := 111) C 0 rfl dX4_copy_111 ?_
                refine q_getR (pc := 113) (t := ((44 + 2 * x3.toNatClampNeg) + 1)) C fl_RX4_171 (kR_43 g6) rfl (rH_0 (kR_43 g6)) dX4_copy_113 ?_
                refine q_iload (pc := 116) C 6 rfl dX4_copy_116 ?_
                refine q_iload (pc := 118) C 7 rfl dX4_copy_118 ?_
                obtain ⟨g16, h⟩ := q_guard h
                refine q_copy (pc := 120) (d := 1) C ml_RX4_220 ac_native ac_static ac_init (kH_1 (kR_43 g5)) (kH_1 (kR_43 g6)) (lH_1 (kR_43 g5)) (lH_1 (kR_43 g6)) g16 (by decide) (Nat.le_of_ble_eq_true rfl) dX4_copy_120 ?_
                refine q_iconst (pc := 123) C dX4_copy_123 ci_1 ?_
                obtain rfl := Option.some.inj h
                exact q_iret (pc := 124) C dX4_copy_124
              · have h := q_t c15 h
                refine q_sub [2] rfl ?_
                exact tX4_copy_99 C _ _ h
          · have h := q_f c11 h
            refine q_aload_n (pc := 70) C 2 rfl dX4_copy_70 rfl ?_
            refine q_iconst (pc := 71) C dX4_copy_71 ci_4 ?_
            obtain ⟨q17, hq17, h⟩ := q_bind h
            refine q_callV1 (pc := 72) (st := []) C (zX4_find hq17) yi_X4_find ml_RX4_165 kC_0 rfl (by decide) rfl (Nat.le_of_ble_eq_true rfl) dX4_copy_72 ?_
            obtain rfl := Option.some.inj h
            exact q_iret (pc := 75) C dX4_copy_75
        · have h := q_f c10 h
          refine q_sub [2] rfl ?_
          exact tX4_copy_51 C _ _ h
    · have h := q_t c4 h
      refine q_bipush (pc := 16) C dX4_copy_16 cb_m2 ?_
      obtain rfl := Option.some.inj h
      exact q_iret (pc := 18) C dX4_copy_18
/-! X4_write -/
theorem uX4_write_53 {X : qX} {G : qG} (C : qC sC X G RX4 cX4_write 6 4 (some .int)) (k53 : qM → Nat → Int32 → Int32 → Option (Int32 × qM)) (hk53 : ∀ (σ : qM) (x2 : Nat) (x4 : Int32) (x5 : Int32) (res : (Int32 × qM)) (hx2 : q_kd sC x2 = 2), k53 σ x2 x4 x5 = some res → qY sC X G 6 (q_Q sC X G (some (.int res.1)) res.2) σ 53 [(0, .ref (q_ad G 0)), (2, .ref (q_ad G x2)), (3, .ref (q_ad G 16)), (4, .int x4), (5, .int x5)] []) (σ : qM) (x2 : Nat) (x4 : Int32) (x5 : Int32) (res : (Int32 × qM)) (hx2 : q_kd sC x2 = 2) (h : bX4_write_53 k53 σ x2 x4 x5 = some res) : qY sC X G 6 (q_Q sC X G (some (.int res.1)) res.2) σ 53 [(0, .ref (q_ad G 0)), (2, .ref (q_ad G x2)), (3, .ref (q_ad G 16)), (4, .int x4), (5, .int x5)] [] := by
  unfold bX4_write_53 at h
  refine q_iload (pc := 53) C 4 rfl dX4_write_53 ?_
  refine q_iload (pc := 55) C 3 rfl dX4_write_55 ?_
  refine q_ic_ge (pc := 57) C 83 dX4_write_57 (by decide) (fun c1 => ?_) (fun c1 => ?_)
  · have h := q_t c1 h
    refine q_iload (pc := 83) C 3 rfl dX4_write_83 ?_
    obtain rfl := Option.some.inj h
    exact q_iret (pc := 85) C dX4_write_85
  · have h := q_f c1 h
    refine q_aload_n (pc := 60) C 1 rfl dX4_write_60 rfl ?_
    refine q_iload (pc := 61) C 4 rfl dX4_write_61 ?_
    refine q_aload_n (pc := 63) C 2 rfl dX4_write_63 rfl ?_
    refine q_getR (pc := 64) (t := 29) C fl_RX4_116 kC_16 rfl rC_16_7 dX4_write_64 ?_
    refine q_aload_n (pc := 67) C 0 rfl dX4_write_67 rfl ?_
    refine q_iload (pc := 68) C 4 rfl dX4_write_68 ?_
    obtain ⟨q2, hq2, h⟩ := q_bind h
    refine q_callV1 (pc := 70) (st := [.ref (q_ad G 29), .int x5, .ref (q_ad G x2)]) C (zX4_turnsOn hq2) yi_X4_turnsOn ml_RX4_119 kC_0 rfl (by decide) rfl (Nat.le_of_ble_eq_true rfl) dX4_write_70 ?_
    obtain ⟨g3, h⟩ := q_guard h
    refine q_iald (pc := 73) C kC_29 lC_29 g3 dX4_write_73 ?_
    obtain ⟨q4, hq4, h⟩ := q_bind h
    refine q_callV0 (pc := 74) (st := []) C (zX2_put hx2 hq4) yi_X2_put ml_RX4_210 hx2 rfl (by decide) rfl (Nat.le_of_ble_eq_true rfl) dX4_write_74 ?_
    refine q_inc (pc := 77) C 4 rfl ci_1 dX4_write_77 (by decide) rfl ?_
    refine q_goto (pc := 80) C 53 dX4_write_80 (by decide) ?_
    refine q_sub [1, 2, 3, 4, 0] rfl ?_
    exact hk53 _ _ _ _ _ hx2 h
theorem tX4_write_53 {X : qX} {G : qG} (C : qC sC X G RX4 cX4_write 6 4 (some .int))  (σ : qM) (x2 : Nat) (x4 : Int32) (x5 : Int32) (res : (Int32 × qM)) (hx2 : q_kd sC x2 = 2) (h : fX4_write_53  σ x2 x4 x5 = some res) : qY sC X G 6 (q_Q sC X G (some (.int res.1)) res.2) σ 53 [(0, .ref (q_ad G 0)), (2, .ref (q_ad G x2)), (3, .ref (q_ad G 16)), (4, .int x4), (5, .int x5)] [] := by
  have key : ∀ (n : Nat) (σ : qM) (x2 : Nat) (x4 : Int32) (x5 : Int32) (res : (Int32 × qM)) (hx2 : q_kd sC x2 = 2), qlp (fun _ _ _ _ => none) (bX4_write_53 ) n σ x2 x4 x5 = some res → qY sC X G 6 (q_Q sC X G (some (.int res.1)) res.2) σ 53 [(0, .ref (q_ad G 0)), (2, .ref (q_ad G x2)), (3, .ref (q_ad G 16)), (4, .int x4), (5, .int x5)] [] := by
    intro n
    induction n with
    | zero => intro σ x2 x4 x5 res hx2 h; cases h
    | succ n ih => intro σ x2 x4 x5 res hx2 h; exact uX4_write_53 C  (qlp (fun _ _ _ _ => none) (bX4_write_53 ) n) (fun σ x2 x4 x5 res hx2 h => ih σ x2 x4 x5 res hx2 h) σ x2 x4 x5 res hx2 h
  exact key qFU σ x2 x4 x5 res hx2 h
theorem zX4_write {G : qG} {l : Launch} {σ : qM} {x1 : Int32} {res : (Int32 × qM)}  (h : fX4_write σ x1 = some res) : qCon sC G l yX4_write cX4_write 6 (some .int) 4 [.ref (q_ad G 0), .int x1] σ (some (.int res.1)) res.2 := by
  refine qCon.mkF (lv := [(0, .ref (q_ad G 0)), (1, .int x1)]) (plainFor_of_name (by decide)) (Nat.le_of_ble_eq_true rfl) rfl (fun X hX C => ?_)
  unfold fX4_write at h
  refine q_iload_n (pc := 0) C 1 rfl dX4_write_0 rfl ?_
  refine q_iconst (pc := 1) C dX4_write_1 ci_4 ?_
  obtain ⟨q1, hq1, h⟩ := q_bind h
  refine q_callS1 (pc := 2) (st := []) C (zX4_below hq1) ys_X4_below ml_RX4_62 rfl (by decide) rfl (Nat.le_of_ble_eq_true rfl) dX4_write_2 ?_
  refine q_if_ne (pc := 5) C 11 dX4_write_5 (by decide) (fun c2 => ?_) (fun c2 => ?_)
  · have h := q_f c2 h
    refine q_aload_n (pc := 11) C 0 rfl dX4_write_11 rfl ?_
    refine q_getR (pc := 12) (t := 43) C fl_RX4_47 kC_0 rfl rC_0_6 dX4_write_12 ?_
    refine q_iload_n (pc := 15) C 1 rfl dX4_write_15 rfl ?_
    obtain ⟨g3, h⟩ := q_guard h
    refine q_aald (pc := 16) (t := (44 + 2 * x1.toNatClampNeg)) C (Or.inr kC_43) lC_43 g3 (rR_43 _) dX4_write_16 ?_
    refine q_astore_n (pc := 17) C dX4_write_17 rfl (by decide) rfl ?_
    refine q_aload_n (pc := 18) C 0 rfl dX4_write_18 rfl ?_
    obtain ⟨q4, hq4, h⟩ := q_bind h
    refine q_callV1 (pc := 19) (st := []) C (zX2_isLost (kR_43 g3) hq4) yi_X2_isLost ml_RX4_161 (kR_43 g3) rfl (by decide) rfl (Nat.le_of_ble_eq_true rfl) dX4_write_19 ?_
    refine q_if_eq (pc := 22) C 31 dX4_write_22 (by decide) (fun c5 => ?_) (fun c5 => ?_)
    · have h := q_t c5 h
      refine q_aload_n (pc := 31) C 1 rfl dX4_write_31 rfl ?_
      refine q_getR (pc := 32) (t := 16) C fl_RX4_41 kC_0 rfl rC_0_5 dX4_write_32 ?_
      obtain ⟨q6, hq6, h⟩ := q_bind h
      refine q_callV1 (pc := 35) (st := []) C (zX0_settled hq6) yi_X0_settled ml_RX4_98 kC_16 rfl (by decide) rfl (Nat.le_of_ble_eq_true rfl) dX4_write_35 ?_
      refine q_astore_n (pc := 38) C dX4_write_38 rfl (by decide) rfl ?_
      refine q_aload_n (pc := 39) C 1 rfl dX4_write_39 rfl ?_
      refine q_getI (pc := 40) C fl_RX4_168 (kR_43 g3) rfl dX4_write_40 ?_
      refine q_bipush (pc := 43) C dX4_write_43 cb_28 ?_
      obtain ⟨q7, hq7, h⟩ := q_bind h
      refine q_callS1 (pc := 45) (st := []) C (zJ9_min_7cf53 hq7) ys_J9_min_7cf53 ml_RX4_193 rfl (by decide) rfl (Nat.le_of_ble_eq_true rfl) dX4_write_45 ?_
      refine q_istore (pc := 48) C dX4_write_48 (by decide) rfl ?_
      refine q_iconst (pc := 50) C dX4_write_50 ci_0 ?_
      refine q_istore (pc := 51) C dX4_write_51 (by decide) rfl ?_
      refine q_sub [4, 3, 2, 1, 0] rfl ?_
      exact tX4_write_53 C _ _ _ _ _ (kR_43 g3) h
    · have h := q_f c5 h
      refine q_aload_n (pc := 25) C 1 rfl dX4_write_25 rfl ?_
      refine q_iconst (pc := 26) C dX4_write_26 ci_1 ?_
      obtain ⟨q8, hq8, h⟩ := q_bind h
      refine q_callV1 (pc := 27) (st := []) C (zX4_find hq8) yi_X4_find ml_RX4_165 kC_0 rfl (by decide) rfl (Nat.le_of_ble_eq_true rfl) dX4_write_27 ?_
      obtain rfl := Option.some.inj h
      exact q_iret (pc := 30) C dX4_write_30
  · have h := q_t c2 h
    refine q_bipush (pc := 8) C dX4_write_8 cb_m2 ?_
    obtain rfl := Option.some.inj h
    exact q_iret (pc := 10) C dX4_write_10
/-! X4_rulesWithPlus -/
theorem tX4_rulesWithPlus_27 {X : qX} {G : qG} (C : qC sC X G RX4 cX4_rulesWithPlus 3 1 (some .int)) (k4 : qM → Int32 → Int32 → Option (Int32 × qM)) (hk4 : ∀ (σ : qM) (x1 : Int32) (x2 : Int32) (res : (Int32 × qM)), k4 σ x1 x2 = some res → qY sC X G 3 (q_Q sC X G (some (.int res.1)) res.2) σ 4 [(0, .ref (q_ad G 0)), (1, .int x1), (2, .int x2)] []) (σ : qM) (x1 : Int32) (x2 : Int32) (res : (Int32 × qM))  (h : fX4_rulesWithPlus_27 k4 σ x1 x2 = some res) : qY sC X G 3 (q_Q sC X G (some (.int res.1)) res.2) σ 27 [(0, .ref (q_ad G 0)), (1, .int x1), (2, .int x2)] [] := by
  unfold fX4_rulesWithPlus_27 at h
  refine q_inc (pc := 27) C 2 rfl ci_1 dX4_rulesWithPlus_27 (by decide) rfl ?_
  refine q_goto (pc := 30) C 4 dX4_rulesWithPlus_30 (by decide) ?_
  refine q_sub [1, 2, 0] rfl ?_
  exact hk4 _ _ _ _ h
theorem uX4_rulesWithPlus_4 {X : qX} {G : qG} (C : qC sC X G RX4 cX4_rulesWithPlus 3 1 (some .int)) (k4 : qM → Int32 → Int32 → Option (Int32 × qM)) (hk4 : ∀ (σ : qM) (x1 : Int32) (x2 : Int32) (res : (Int32 × qM)), k4 σ x1 x2 = some res → qY sC X G 3 (q_Q sC X G (some (.int res.1)) res.2) σ 4 [(0, .ref (q_ad G 0)), (1, .int x1), (2, .int x2)] []) (σ : qM) (x1 : Int32) (x2 : Int32) (res : (Int32 × qM))  (h : bX4_rulesWithPlus_4 k4 σ x1 x2 = some res) : qY sC X G 3 (q_Q sC X G (some (.int res.1)) res.2) σ 4 [(0, .ref (q_ad G 0)), (1, .int x1), (2, .int x2)] [] := by
  unfold bX4_rulesWithPlus_4 at h
  refine q_iload_n (pc := 4) C 2 rfl dX4_rulesWithPlus_4 rfl ?_
  refine q_aload_n (pc := 5) C 0 rfl dX4_rulesWithPlus_5 rfl ?_
  refine q_getR (pc := 6) (t := 4) C fl_RX4_18 kC_0 rfl rC_0_1 dX4_rulesWithPlus_6 ?_
  refine q_getI (pc := 9) C fl_RX4_88 kC_4 rfl dX4_rulesWithPlus_9 ?_
  refine q_ic_ge (pc := 12) C 33 dX4_rulesWithPlus_12 (by decide) (fun c1 => ?_) (fun c1 => ?_)
  · have h := q_t c1 h
    refine q_iload_n (pc := 33) C 1 rfl dX4_rulesWithPlus_33 rfl ?_
    obtain rfl := Option.some.inj h
    exact q_iret (pc := 34) C dX4_rulesWithPlus_34
  · have h := q_f c1 h
    refine q_iload_n (pc := 15) C 1 rfl dX4_rulesWithPlus_15 rfl ?_
    refine q_aload_n (pc := 16) C 0 rfl dX4_rulesWithPlus_16 rfl ?_
    refine q_getR (pc := 17) (t := 4) C fl_RX4_18 kC_0 rfl rC_0_1 dX4_rulesWithPlus_17 ?_
    refine q_iload_n (pc := 20) C 2 rfl dX4_rulesWithPlus_20 rfl ?_
    refine q_iconst (pc := 21) C dX4_rulesWithPlus_21 ci_3 ?_
    obtain ⟨q2, hq2, h⟩ := q_bind h
    refine q_callV1 (pc := 22) (st := [.int x1]) C (zX3_part kC_4 hq2) yi_X3_part ml_RX4_91 kC_4 rfl (by decide) rfl (Nat.le_of_ble_eq_true rfl) dX4_rulesWithPlus_22 ?_
    refine q_iadd (pc := 25) C dX4_rulesWithPlus_25 ?_
    refine q_istore_n (pc := 26) C dX4_rulesWithPlus_26 rfl (by decide) rfl ?_
    refine q_sub [1, 0, 2] rfl ?_
    exact tX4_rulesWithPlus_27 C k4 hk4 _ _ _ _ h
theorem tX4_rulesWithPlus_4 {X : qX} {G : qG} (C : qC sC X G RX4 cX4_rulesWithPlus 3 1 (some .int))  (σ : qM) (x1 : Int32) (x2 : Int32) (res : (Int32 × qM))  (h : fX4_rulesWithPlus_4  σ x1 x2 = some res) : qY sC X G 3 (q_Q sC X G (some (.int res.1)) res.2) σ 4 [(0, .ref (q_ad G 0)), (1, .int x1), (2, .int x2)] [] := by
  have key : ∀ (n : Nat) (σ : qM) (x1 : Int32) (x2 : Int32) (res : (Int32 × qM)) , qlp (fun _ _ _ => none) (bX4_rulesWithPlus_4 ) n σ x1 x2 = some res → qY sC X G 3 (q_Q sC X G (some (.int res.1)) res.2) σ 4 [(0, .ref (q_ad G 0)), (1, .int x1), (2, .int x2)] [] := by
    intro n
    induction n with
    | zero => intro σ x1 x2 res h; cases h
    | succ n ih => intro σ x1 x2 res h; exact uX4_rulesWithPlus_4 C  (qlp (fun _ _ _ => none) (bX4_rulesWithPlus_4 ) n) (fun σ x1 x2 res h => ih σ x1 x2 res h) σ x1 x2 res h
  exact key qFU σ x1 x2 res h
theorem zX4_rulesWithPlus {G : qG} {l : Launch} {σ : qM}  {res : (Int32 × qM)}  (h : fX4_rulesWithPlus σ  = some res) : qCon sC G l yX4_rulesWithPlus cX4_rulesWithPlus 3 (some .int) 1 [.ref (q_ad G 0)] σ (some (.int res.1)) res.2 := by
  refine qCon.mkF (lv := [(0, .ref (q_ad G 0))]) (plainFor_of_name (by decide)) (Nat.le_of_ble_eq_true rfl) rfl (fun X hX C => ?_)
  unfold fX4_rulesWithPlus at h
  refine q_iconst (pc := 0) C dX4_rulesWithPlus_0 ci_0 ?_
  refine q_istore_n (pc := 1) C dX4_rulesWithPlus_1 rfl (by decide) rfl ?_
  refine q_iconst (pc := 2) C dX4_rulesWithPlus_2 ci_0 ?_
  refine q_istore_n (pc := 3) C dX4_rulesWithPlus_3 rfl (by decide) rfl ?_
  refine q_sub [2, 1, 0] rfl ?_
  exact tX4_rulesWithPlus_4 C _ _ _ _ h
/-! X4_count -/
theorem zX4_count {G : qG} {l : Launch} {σ : qM} {x1 : Int32} {res : (Int32 × qM)}  (h : fX4_count σ x1 = some res) : qCon sC G l yX4_count cX4_count 2 (some .int) 2 [.ref (q_ad G 0), .int x1] σ (some (.int res.1)) res.2 := by
  refine qCon.mkF (lv := [(0, .ref (q_ad G 0)), (1, .int x1)]) (plainFor_of_name (by decide)) (Nat.le_of_ble_eq_true rfl) rfl (fun X hX C => ?_)
  unfold fX4_count at h
  refine q_iload_n (pc := 0) C 1 rfl dX4_count_0 rfl ?_
  by_cases c1 : x1 = (0 : Int32)
  · have h := q_t c1 h
    refine q_tableIn (pc := 1) (off := 51) C 52 dX4_count_1 (by rw [c1]; decide) (by rw [c1]; decide) (by rw [c1]; decide) (by decide) ?_
    refine q_aload_n (pc := 52) C 0 rfl dX4_count_52 rfl ?_
    refine q_getR (pc := 53) (t := 1) C fl_RX4_14 kC_0 rfl rC_0_0 dX4_count_53 ?_
    refine q_getI (pc := 56) C fl_RX4_88 kC_1 rfl dX4_count_56 ?_
    obtain rfl := Option.some.inj h
    exact q_iret (pc := 59) C dX4_count_59
  · have h := q_f c1 h
    by_cases c2 : x1 = (1 : Int32)
    · have h := q_t c2 h
      refine q_tableIn (pc := 1) (off := 59) C 60 dX4_count_1 (by rw [c2]; decide) (by rw [c2]; decide) (by rw [c2]; decide) (by decide) ?_
      refine q_aload_n (pc := 60) C 0 rfl dX4_count_60 rfl ?_
      refine q_getR (pc := 61) (t := 4) C fl_RX4_18 kC_0 rfl rC_0_1 dX4_count_61 ?_
      refine q_getI (pc := 64) C fl_RX4_88 kC_4 rfl dX4_count_64 ?_
      obtain rfl := Option.some.inj h
      exact q_iret (pc := 67) C dX4_count_67
    · have h := q_f c2 h
      by_cases c3 : x1 = (2 : Int32)
      · have h := q_t c3 h
        refine q_tableIn (pc := 1) (off := 67) C 68 dX4_count_1 (by rw [c3]; decide) (by rw [c3]; decide) (by rw [c3]; decide) (by decide) ?_
        refine q_aload_n (pc := 68) C 0 rfl dX4_count_68 rfl ?_
        refine q_getR (pc := 69) (t := 1) C fl_RX4_14 kC_0 rfl rC_0_0 dX4_count_69 ?_
        refine q_getI (pc := 72) C fl_RX4_226 kC_1 rfl dX4_count_72 ?_
        obtain rfl := Option.some.inj h
        exact q_iret (pc := 75) C dX4_count_75
      · have h := q_f c3 h
        by_cases c4 : x1 = (3 : Int32)
        · have h := q_t c4 h
          refine q_tableIn (pc := 1) (off := 75) C 76 dX4_count_1 (by rw [c4]; decide) (by rw [c4]; decide) (by rw [c4]; decide) (by decide) ?_
          refine q_aload_n (pc := 76) C 0 rfl dX4_count_76 rfl ?_
          refine q_getR (pc := 77) (t := 4) C fl_RX4_18 kC_0 rfl rC_0_1 dX4_count_77 ?_
          refine q_getI (pc := 80) C fl_RX4_226 kC_4 rfl dX4_count_80 ?_
          obtain rfl := Option.some.inj h
          exact q_iret (pc := 83) C dX4_count_83
        · have h := q_f c4 h
          by_cases c5 : x1 = (4 : Int32)
          · have h := q_t c5 h
            refine q_tableIn (pc := 1) (off := 83) C 84 dX4_count_1 (by rw [c5]; decide) (by rw [c5]; decide) (by rw [c5]; decide) (by decide) ?_
            refine q_aload_n (pc := 84) C 0 rfl dX4_count_84 rfl ?_
            refine q_getR (pc := 85) (t := 7) C fl_RX4_26 kC_0 rfl rC_0_2 dX4_count_85 ?_
            refine q_getI (pc := 88) C fl_RX4_229 kC_7 rfl dX4_count_88 ?_
            obtain rfl := Option.some.inj h
            exact q_iret (pc := 91) C dX4_count_91
          · have h := q_f c5 h
            by_cases c6 : x1 = (5 : Int32)
            · have h := q_t c6 h
              refine q_tableIn (pc := 1) (off := 91) C 92 dX4_count_1 (by rw [c6]; decide) (by rw [c6]; decide) (by rw [c6]; decide) (by decide) ?_
              refine q_aload_n (pc := 92) C 0 rfl dX4_count_92 rfl ?_
              refine q_getR (pc := 93) (t := 10) C fl_RX4_30 kC_0 rfl rC_0_3 dX4_count_93 ?_
              refine q_getI (pc := 96) C fl_RX4_229 kC_10 rfl dX4_count_96 ?_
              obtain rfl := Option.some.inj h
              exact q_iret (pc := 99) C dX4_count_99
            · have h := q_f c6 h
              by_cases c7 : x1 = (6 : Int32)
              · have h := q_t c7 h
                refine q_tableIn (pc := 1) (off := 99) C 100 dX4_count_1 (by rw [c7]; decide) (by rw [c7]; decide) (by rw [c7]; decide) (by decide) ?_
                refine q_aload_n (pc := 100) C 0 rfl dX4_count_100 rfl ?_
                refine q_getR (pc := 101) (t := 13) C fl_RX4_33 kC_0 rfl rC_0_4 dX4_count_101 ?_
                refine q_getI (pc := 104) C fl_RX4_229 kC_13 rfl dX4_count_104 ?_
                obtain rfl := Option.some.inj h
                exact q_iret (pc := 107) C dX4_count_107
              · have h := q_f c7 h
                by_cases c8 : x1 = (7 : Int32)
                · have h := q_t c8 h
                  refine q_tableIn (pc := 1) (off := 107) C 108 dX4_count_1 (by rw [c8]; decide) (by rw [c8]; decide) (by rw [c8]; decide) (by decide) ?_
                  refine q_aload_n (pc := 108) C 0 rfl dX4_count_108 rfl ?_
                  obtain ⟨q9, hq9, h⟩ := q_bind h
                  refine q_callV1 (pc := 109) (st := []) C (zX4_rulesWithPlus hq9) yi_X4_rulesWithPlus ml_RX4_230 kC_0 rfl (by decide) rfl (Nat.le_of_ble_eq_true rfl) dX4_count_109 ?_
                  obtain rfl := Option.some.inj h
                  exact q_iret (pc := 112) C dX4_count_112
                · have h := q_f c8 h
                  by_cases c10 : x1 = (8 : Int32)
                  · have h := q_t c10 h
                    refine q_tableIn (pc := 1) (off := 112) C 113 dX4_count_1 (by rw [c10]; decide) (by rw [c10]; decide) (by rw [c10]; decide) (by decide) ?_
                    refine q_aload_n (pc := 113) C 0 rfl dX4_count_113 rfl ?_
                    refine q_getI (pc := 114) C fl_RX4_58 kC_0 rfl dX4_count_114 ?_
                    obtain rfl := Option.some.inj h
                    exact q_iret (pc := 117) C dX4_count_117
                  · have h := q_f c10 h
                    have ec1 := lv_neT c1 ct_0
                    have ec2 := lv_neT c2 ct_1
                    have ec3 := lv_neT c3 ct_2
                    have ec4 := lv_neT c4 ct_3
                    have ec5 := lv_neT c5 ct_4
                    have ec6 := lv_neT c6 ct_5
                    have ec7 := lv_neT c7 ct_6
                    have ec8 := lv_neT c8 ct_7
                    have ec10 := lv_neT c10 ct_8
                    refine q_tableOut (pc := 1) C 118 dX4_count_1 (by omega) (by decide) ?_
                    refine q_bipush (pc := 118) C dX4_count_118 cb_m2 ?_
                    obtain rfl := Option.some.inj h
                    exact q_iret (pc := 120) C dX4_count_120
/-! X4_digestOfTexts -/
theorem tX4_digestOfTexts_118 {X : qX} {G : qG} (C : qC sC X G RX4 cX4_digestOfTexts 7 2 (some .long)) (k81 : qM → Int64 → Int32 → Option (Int64 × qM)) (hk81 : ∀ (σ : qM) (x3 : Int64) (x5 : Int32) (res : (Int64 × qM)), k81 σ x3 x5 = some res → qY sC X G 7 (q_Q sC X G (some (.long res.1)) res.2) σ 81 [(0, .ref (q_ad G 0)), (3, .long x3), (5, .int x5)] []) (k96 : qM → Int64 → Int32 → Int32 → Option (Int64 × qM)) (hk96 : ∀ (σ : qM) (x3 : Int64) (x5 : Int32) (x6 : Int32) (res : (Int64 × qM)), k96 σ x3 x5 x6 = some res → qY sC X G 7 (q_Q sC X G (some (.long res.1)) res.2) σ 96 [(0, .ref (q_ad G 0)), (3, .long x3), (5, .int x5), (6, .int x6)] []) (σ : qM) (x3 : Int64) (x5 : Int32) (x6 : Int32) (res : (Int64 × qM))  (h : fX4_digestOfTexts_118 k81 k96 σ x3 x5 x6 = some res) : qY sC X G 7 (q_Q sC X G (some (.long res.1)) res.2) σ 118 [(0, .ref (q_ad G 0)), (3, .long x3), (5, .int x5), (6, .int x6)] [] := by
  unfold fX4_digestOfTexts_118 at h
  refine q_inc (pc := 118) C 3 rfl ci_1 dX4_digestOfTexts_118 (by decide) rfl ?_
  refine q_goto (pc := 121) C 96 dX4_digestOfTexts_121 (by decide) ?_
  refine q_sub [1, 2, 3, 0] rfl ?_
  exact hk96 _ _ _ _ _ h
theorem uX4_digestOfTexts_96 {X : qX} {G : qG} (C : qC sC X G RX4 cX4_digestOfTexts 7 2 (some .long)) (k81 : qM → Int64 → Int32 → Option (Int64 × qM)) (hk81 : ∀ (σ : qM) (x3 : Int64) (x5 : Int32) (res : (Int64 × qM)), k81 σ x3 x5 = some res → qY sC X G 7 (q_Q sC X G (some (.long res.1)) res.2) σ 81 [(0, .ref (q_ad G 0)), (3, .long x3), (5, .int x5)] []) (k96 : qM → Int64 → Int32 → Int32 → Option (Int64 × qM)) (hk96 : ∀ (σ : qM) (x3 : Int64) (x5 : Int32) (x6 : Int32) (res : (Int64 × qM)), k96 σ x3 x5 x6 = some res → qY sC X G 7 (q_Q sC X G (some (.long res.1)) res.2) σ 96 [(0, .ref (q_ad G 0)), (3, .long x3), (5, .int x5), (6, .int x6)] []) (σ : qM) (x3 : Int64) (x5 : Int32) (x6 : Int32) (res : (Int64 × qM))  (h : bX4_digestOfTexts_96 k81 k96 σ x3 x5 x6 = some res) : qY sC X G 7 (q_Q sC X G (some (.long res.1)) res.2) σ 96 [(0, .ref (q_ad G 0)), (3, .long x3), (5, .int x5), (6, .int x6)] [] := by
  unfold bX4_digestOfTexts_96 at h
  refine q_iload (pc := 96) C 3 rfl dX4_digestOfTexts_96 ?_
  refine q_iconst (pc := 98) C dX4_digestOfTexts_98 ci_5 ?_
  refine q_ic_ge (pc := 99) C 124 dX4_digestOfTexts_99 (by decide) (fun c1 => ?_) (fun c1 => ?_)
  · have h := q_t c1 h
    refine q_inc (pc := 124) C 2 rfl ci_1 dX4_digestOfTexts_124 (by decide) rfl ?_
    refine q_goto (pc := 127) C 81 dX4_digestOfTexts_127 (by decide) ?_
    refine q_sub [1, 2, 0] rfl ?_
    exact hk81 _ _ _ _ h
  · have h := q_f c1 h
    refine q_ldc2 (pc := 102) C kn_RX4_235 dX4_digestOfTexts_102 ?_
    refine q_lload_n (pc := 105) C 1 rfl dX4_digestOfTexts_105 rfl ?_
    refine q_lmul (pc := 106) C dX4_digestOfTexts_106 ?_
    refine q_aload_n (pc := 107) C 0 rfl dX4_digestOfTexts_107 rfl ?_
    refine q_iload (pc := 108) C 2 rfl dX4_digestOfTexts_108 ?_
    refine q_iload (pc := 110) C 3 rfl dX4_digestOfTexts_110 ?_
    obtain ⟨q2, hq2, h⟩ := q_bind h
    refine q_callV1 (pc := 112) (st := [.long ((31 : Int64) * x3)]) C (zX4_rule hq2) yi_X4_rule ml_RX4_266 kC_0 rfl (by decide) rfl (Nat.le_of_ble_eq_true rfl) dX4_digestOfTexts_112 ?_
    refine q_i2l (pc := 115) C dX4_digestOfTexts_115 ?_
    refine q_ladd (pc := 116) C dX4_digestOfTexts_116 ?_
    refine q_lstore_n (pc := 117) C dX4_digestOfTexts_117 rfl (by decide) rfl ?_
    refine q_sub [1, 0, 2, 3] rfl ?_
    exact tX4_digestOfTexts_118 C k81 hk81 k96 hk96 _ _ _ _ _ h
theorem tX4_digestOfTexts_96 {X : qX} {G : qG} (C : qC sC X G RX4 cX4_digestOfTexts 7 2 (some .long)) (k81 : qM → Int64 → Int32 → Option (Int64 × qM)) (hk81 : ∀ (σ : qM) (x3 : Int64) (x5 : Int32) (res : (Int64 × qM)), k81 σ x3 x5 = some res → qY sC X G 7 (q_Q sC X G (some (.long res.1)) res.2) σ 81 [(0, .ref (q_ad G 0)), (3, .long x3), (5, .int x5)] []) (σ : qM) (x3 : Int64) (x5 : Int32) (x6 : Int32) (res : (Int64 × qM))  (h : fX4_digestOfTexts_96 k81 σ x3 x5 x6 = some res) : qY sC X G 7 (q_Q sC X G (some (.long res.1)) res.2) σ 96 [(0, .ref (q_ad G 0)), (3, .long x3), (5, .int x5), (6, .int x6)] [] := by
  have key : ∀ (n : Nat) (σ : qM) (x3 : Int64) (x5 : Int32) (x6 : Int32) (res : (Int64 × qM)) , qlp (fun _ _ _ _ => none) (bX4_digestOfTexts_96 k81) n σ x3 x5 x6 = some res → qY sC X G 7 (q_Q sC X G (some (.long res.1)) res.2) σ 96 [(0, .ref (q_ad G 0)), (3, .long x3), (5, .int x5), (6, .int x6)] [] := by
    intro n
    induction n with
    | zero => intro σ x3 x5 x6 res h; cases h
    | succ n ih => intro σ x3 x5 x6 res h; exact uX4_digestOfTexts_96 C k81 hk81 (qlp (fun _ _ _ _ => none) (bX4_digestOfTexts_96 k81) n) (fun σ x3 x5 x6 res h => ih σ x3 x5 x6 res h) σ x3 x5 x6 res h
  exact key qFU σ x3 x5 x6 res h
theorem uX4_digestOfTexts_81 {X : qX} {G : qG} (C : qC sC X G RX4 cX4_digestOfTexts 7 2 (some .long)) (k81 : qM → Int64 → Int32 → Option (Int64 × qM)) (hk81 : ∀ (σ : qM) (x3 : Int64) (x5 : Int32) (res : (Int64 × qM)), k81 σ x3 x5 = some res → qY sC X G 7 (q_Q sC X G (some (.long res.1)) res.2) σ 81 [(0, .ref (q_ad G 0)), (3, .long x3), (5, .int x5)] []) (σ : qM) (x3 : Int64) (x5 : Int32) (res : (Int64 × qM))  (h : bX4_digestOfTexts_81 k81 σ x3 x5 = some res) : qY sC X G 7 (q_Q sC X G (some (.long res.1)) res.2) σ 81 [(0, .ref (q_ad G 0)), (3, .long x3), (5, .int x5)] [] := by
  unfold bX4_digestOfTexts_81 at h
  refine q_iload (pc := 81) C 2 rfl dX4_digestOfTexts_81 ?_
  refine q_aload_n (pc := 83) C 0 rfl dX4_digestOfTexts_83 rfl ?_
  refine q_getR (pc := 84) (t := 4) C fl_RX4_18 kC_0 rfl rC_0_1 dX4_digestOfTexts_84 ?_
  refine q_getI (pc := 87) C fl_RX4_88 kC_4 rfl dX4_digestOfTexts_87 ?_
  refine q_ic_ge (pc := 90) C 130 dX4_digestOfTexts_90 (by decide) (fun c1 => ?_) (fun c1 => ?_)
  · have h := q_t c1 h
    refine q_lload_n (pc := 130) C 1 rfl dX4_digestOfTexts_130 rfl ?_
    obtain rfl := Option.some.inj h
    exact q_lret (pc := 131) C dX4_digestOfTexts_131
  · have h := q_f c1 h
    refine q_iconst (pc := 93) C dX4_digestOfTexts_93 ci_0 ?_
    refine q_istore (pc := 94) C dX4_digestOfTexts_94 (by decide) rfl ?_
    refine q_sub [1, 2, 3, 0] rfl ?_
    exact tX4_digestOfTexts_96 C k81 hk81 _ _ _ _ _ h
theorem tX4_digestOfTexts_81 {X : qX} {G : qG} (C : qC sC X G RX4 cX4_digestOfTexts 7 2 (some .long))  (σ : qM) (x3 : Int64) (x5 : Int32) (res : (Int64 × qM))  (h : fX4_digestOfTexts_81  σ x3 x5 = some res) : qY sC X G 7 (q_Q sC X G (some (.long res.1)) res.2) σ 81 [(0, .ref (q_ad G 0)), (3, .long x3), (5, .int x5)] [] := by
  have key : ∀ (n : Nat) (σ : qM) (x3 : Int64) (x5 : Int32) (res : (Int64 × qM)) , qlp (fun _ _ _ => none) (bX4_digestOfTexts_81 ) n σ x3 x5 = some res → qY sC X G 7 (q_Q sC X G (some (.long res.1)) res.2) σ 81 [(0, .ref (q_ad G 0)), (3, .long x3), (5, .int x5)] [] := by
    intro n
    induction n with
    | zero => intro σ x3 x5 res h; cases h
    | succ n ih => intro σ x3 x5 res h; exact uX4_digestOfTexts_81 C  (qlp (fun _ _ _ => none) (bX4_digestOfTexts_81 ) n) (fun σ x3 x5 res h => ih σ x3 x5 res h) σ x3 x5 res h
  exact key qFU σ x3 x5 res h
theorem tX4_digestOfTexts_66 {X : qX} {G : qG} (C : qC sC X G RX4 cX4_digestOfTexts 7 2 (some .long)) (k29 : qM → Int64 → Int32 → Option (Int64 × qM)) (hk29 : ∀ (σ : qM) (x3 : Int64) (x5 : Int32) (res : (Int64 × qM)), k29 σ x3 x5 = some res → qY sC X G 7 (q_Q sC X G (some (.long res.1)) res.2) σ 29 [(0, .ref (q_ad G 0)), (3, .long x3), (5, .int x5)] []) (k44 : qM → Int64 → Int32 → Int32 → Option (Int64 × qM)) (hk44 : ∀ (σ : qM) (x3 : Int64) (x5 : Int32) (x6 : Int32) (res : (Int64 × qM)), k44 σ x3 x5 x6 = some res → qY sC X G 7 (q_Q sC X G (some (.long res.1)) res.2) σ 44 [(0, .ref (q_ad G 0)), (3, .long x3), (5, .int x5), (6, .int x6)] []) (σ : qM) (x3 : Int64) (x5 : Int32) (x6 : Int32) (res : (Int64 × qM))  (h : fX4_digestOfTexts_66 k29 k44 σ x3 x5 x6 = some res) : qY sC X G 7 (q_Q sC X G (some (.long res.1)) res.2) σ 66 [(0, .ref (q_ad G 0)), (3, .long x3), (5, .int x5), (6, .int x6)] [] := by
  unfold fX4_digestOfTexts_66 at h
  refine q_inc (pc := 66) C 3 rfl ci_1 dX4_digestOfTexts_66 (by decide) rfl ?_
  refine q_goto (pc := 69) C 44 dX4_digestOfTexts_69 (by decide) ?_
  refine q_sub [1, 2, 3, 0] rfl ?_
  exact hk44 _ _ _ _ _ h
theorem uX4_digestOfTexts_44 {X : qX} {G : qG} (C : qC sC X G RX4 cX4_digestOfTexts 7 2 (some .long)) (k29 : qM → Int64 → Int32 → Option (Int64 × qM)) (hk29 : ∀ (σ : qM) (x3 : Int64) (x5 : Int32) (res : (Int64 × qM)), k29 σ x3 x5 = some res → qY sC X G 7 (q_Q sC X G (some (.long res.1)) res.2) σ 29 [(0, .ref (q_ad G 0)), (3, .long x3), (5, .int x5)] []) (k44 : qM → Int64 → Int32 → Int32 → Option (Int64 × qM)) (hk44 : ∀ (σ : qM) (x3 : Int64) (x5 : Int32) (x6 : Int32) (res : (Int64 × qM)), k44 σ x3 x5 x6 = some res → qY sC X G 7 (q_Q sC X G (some (.long res.1)) res.2) σ 44 [(0, .ref (q_ad G 0)), (3, .long x3), (5, .int x5), (6, .int x6)] []) (σ : qM) (x3 : Int64) (x5 : Int32) (x6 : Int32) (res : (Int64 × qM))  (h : bX4_digestOfTexts_44 k29 k44 σ x3 x5 x6 = some res) : qY sC X G 7 (q_Q sC X G (some (.long res.1)) res.2) σ 44 [(0, .ref (q_ad G 0)), (3, .long x3), (5, .int x5), (6, .int x6)] [] := by
  unfold bX4_digestOfTexts_44 at h
  refine q_iload (pc := 44) C 3 rfl dX4_digestOfTexts_44 ?_
  refine q_iconst (pc := 46) C dX4_digestOfTexts_46 ci_3 ?_
  refine q_ic_ge (pc := 47) C 72 dX4_digestOfTexts_47 (by decide) (fun c1 => ?_) (fun c1 => ?_)
  · have h := q_t c1 h
    refine q_inc (pc := 72) C 2 rfl ci_1 dX4_digestOfTexts_72 (by decide) rfl ?_
    refine q_goto (pc := 75) C 29 dX4_digestOfTexts_75 (by decide) ?_
    refine q_sub [1, 2, 0] rfl ?_
    exact hk29 _ _ _ _ h
  · have h := q_f c1 h
    refine q_ldc2 (pc := 50) C kn_RX4_235 dX4_digestOfTexts_50 ?_
    refine q_lload_n (pc := 53) C 1 rfl dX4_digestOfTexts_53 rfl ?_
    refine q_lmul (pc := 54) C dX4_digestOfTexts_54 ?_
    refine q_aload_n (pc := 55) C 0 rfl dX4_digestOfTexts_55 rfl ?_
    refine q_iload (pc := 56) C 2 rfl dX4_digestOfTexts_56 ?_
    refine q_iload (pc := 58) C 3 rfl dX4_digestOfTexts_58 ?_
    obtain ⟨q2, hq2, h⟩ := q_bind h
    refine q_callV1 (pc := 60) (st := [.long ((31 : Int64) * x3)]) C (zX4_leaf hq2) yi_X4_leaf ml_RX4_263 kC_0 rfl (by decide) rfl (Nat.le_of_ble_eq_true rfl) dX4_digestOfTexts_60 ?_
    refine q_i2l (pc := 63) C dX4_digestOfTexts_63 ?_
    refine q_ladd (pc := 64) C dX4_digestOfTexts_64 ?_
    refine q_lstore_n (pc := 65) C dX4_digestOfTexts_65 rfl (by decide) rfl ?_
    refine q_sub [1, 0, 2, 3] rfl ?_
    exact tX4_digestOfTexts_66 C k29 hk29 k44 hk44 _ _ _ _ _ h
theorem tX4_digestOfTexts_44 {X : qX} {G : qG} (C : qC sC X G RX4 cX4_digestOfTexts 7 2 (some .long)) (k29 : qM → Int64 → Int32 → Option (Int64 × qM)) (hk29 : ∀ (σ : qM) (x3 : Int64) (x5 : Int32) (res : (Int64 × qM)), k29 σ x3 x5 = some res → qY sC X G 7 (q_Q sC X G (some (.long res.1)) res.2) σ 29 [(0, .ref (q_ad G 0)), (3, .long x3), (5, .int x5)] []) (σ : qM) (x3 : Int64) (x5 : Int32) (x6 : Int32) (res : (Int64 × qM))  (h : fX4_digestOfTexts_44 k29 σ x3 x5 x6 = some res) : qY sC X G 7 (q_Q sC X G (some (.long res.1)) res.2) σ 44 [(0, .ref (q_ad G 0)), (3, .long x3), (5, .int x5), (6, .int x6)] [] := by
  have key : ∀ (n : Nat) (σ : qM) (x3 : Int64) (x5 : Int32) (x6 : Int32) (res : (Int64 × qM)) , qlp (fun _ _ _ _ => none) (bX4_digestOfTexts_44 k29) n σ x3 x5 x6 = some res → qY sC X G 7 (q_Q sC X G (some (.long res.1)) res.2) σ 44 [(0, .ref (q_ad G 0)), (3, .long x3), (5, .int x5), (6, .int x6)] [] := by
    intro n
    induction n with
    | zero => intro σ x3 x5 x6 res h; cases h
    | succ n ih => intro σ x3 x5 x6 res h; exact uX4_digestOfTexts_44 C k29 hk29 (qlp (fun _ _ _ _ => none) (bX4_digestOfTexts_44 k29) n) (fun σ x3 x5 x6 res h => ih σ x3 x5 x6 res h) σ x3 x5 x6 res h
  exact key qFU σ x3 x5 x6 res h
theorem uX4_digestOfTexts_29 {X : qX} {G : qG} (C : qC sC X G RX4 cX4_digestOfTexts 7 2 (some .long)) (k29 : qM → Int64 → Int32 → Option (Int64 × qM)) (hk29 : ∀ (σ : qM) (x3 : Int64) (x5 : Int32) (res : (Int64 × qM)), k29 σ x3 x5 = some res → qY sC X G 7 (q_Q sC X G (some (.long res.1)) res.2) σ 29 [(0, .ref (q_ad G 0)), (3, .long x3), (5, .int x5)] []) (σ : qM) (x3 : Int64) (x5 : Int32) (res : (Int64 × qM))  (h : bX4_digestOfTexts_29 k29 σ x3 x5 = some res) : qY sC X G 7 (q_Q sC X G (some (.long res.1)) res.2) σ 29 [(0, .ref (q_ad G 0)), (3, .long x3), (5, .int x5)] [] := by
  unfold bX4_digestOfTexts_29 at h
  refine q_iload (pc := 29) C 2 rfl dX4_digestOfTexts_29 ?_
  refine q_aload_n (pc := 31) C 0 rfl dX4_digestOfTexts_31 rfl ?_
  refine q_getR (pc := 32) (t := 1) C fl_RX4_14 kC_0 rfl rC_0_0 dX4_digestOfTexts_32 ?_
  refine q_getI (pc := 35) C fl_RX4_88 kC_1 rfl dX4_digestOfTexts_35 ?_
  refine q_ic_ge (pc := 38) C 78 dX4_digestOfTexts_38 (by decide) (fun c1 => ?_) (fun c1 => ?_)
  · have h := q_t c1 h
    refine q_iconst (pc := 78) C dX4_digestOfTexts_78 ci_0 ?_
    refine q_istore (pc := 79) C dX4_digestOfTexts_79 (by decide) rfl ?_
    refine q_sub [1, 2, 0] rfl ?_
    exact tX4_digestOfTexts_81 C _ _ _ _ h
  · have h := q_f c1 h
    refine q_iconst (pc := 41) C dX4_digestOfTexts_41 ci_0 ?_
    refine q_istore (pc := 42) C dX4_digestOfTexts_42 (by decide) rfl ?_
    refine q_sub [1, 2, 3, 0] rfl ?_
    exact tX4_digestOfTexts_44 C k29 hk29 _ _ _ _ _ h
theorem tX4_digestOfTexts_29 {X : qX} {G : qG} (C : qC sC X G RX4 cX4_digestOfTexts 7 2 (some .long))  (σ : qM) (x3 : Int64) (x5 : Int32) (res : (Int64 × qM))  (h : fX4_digestOfTexts_29  σ x3 x5 = some res) : qY sC X G 7 (q_Q sC X G (some (.long res.1)) res.2) σ 29 [(0, .ref (q_ad G 0)), (3, .long x3), (5, .int x5)] [] := by
  have key : ∀ (n : Nat) (σ : qM) (x3 : Int64) (x5 : Int32) (res : (Int64 × qM)) , qlp (fun _ _ _ => none) (bX4_digestOfTexts_29 ) n σ x3 x5 = some res → qY sC X G 7 (q_Q sC X G (some (.long res.1)) res.2) σ 29 [(0, .ref (q_ad G 0)), (3, .long x3), (5, .int x5)] [] := by
    intro n
    induction n with
    | zero => intro σ x3 x5 res h; cases h
    | succ n ih => intro σ x3 x5 res h; exact uX4_digestOfTexts_29 C  (qlp (fun _ _ _ => none) (bX4_digestOfTexts_29 ) n) (fun σ x3 x5 res h => ih σ x3 x5 res h) σ x3 x5 res h
  exact key qFU σ x3 x5 res h
theorem tX4_digestOfTexts_26 {X : qX} {G : qG} (C : qC sC X G RX4 cX4_digestOfTexts 7 2 (some .long))  (σ : qM) (x3 : Int64) (res : (Int64 × qM))  (h : fX4_digestOfTexts_26  σ x3 = some res) : qY sC X G 7 (q_Q sC X G (some (.long res.1)) res.2) σ 26 [(0, .ref (q_ad G 0)), (3, .long x3)] [] := by
  unfold fX4_digestOfTexts_26 at h
  refine q_iconst (pc := 26) C dX4_digestOfTexts_26 ci_0 ?_
  refine q_istore (pc := 27) C dX4_digestOfTexts_27 (by decide) rfl ?_
  refine q_sub [1, 2, 0] rfl ?_
  exact tX4_digestOfTexts_29 C _ _ _ _ h
theorem tX4_digestOfTexts_13 {X : qX} {G : qG} (C : qC sC X G RX4 cX4_digestOfTexts 7 2 (some .long))  (σ : qM) (x3 : Int64) (res : (Int64 × qM))  (h : fX4_digestOfTexts_13  σ x3 = some res) : qY sC X G 7 (q_Q sC X G (some (.long res.1)) res.2) σ 13 [(0, .ref (q_ad G 0)), (3, .long x3)] [] := by
  unfold fX4_digestOfTexts_13 at h
  refine q_ldc2 (pc := 13) C kn_RX4_235 dX4_digestOfTexts_13 ?_
  refine q_lload_n (pc := 16) C 1 rfl dX4_digestOfTexts_16 rfl ?_
  refine q_lmul (pc := 17) C dX4_digestOfTexts_17 ?_
  refine q_aload_n (pc := 18) C 0 rfl dX4_digestOfTexts_18 rfl ?_
  refine q_iconst (pc := 19) C dX4_digestOfTexts_19 ci_1 ?_
  obtain ⟨q1, hq1, h⟩ := q_bind h
  refine q_callV1 (pc := 20) (st := [.long ((31 : Int64) * x3)]) C (zX4_fault hq1) yi_X4_fault ml_RX4_260 kC_0 rfl (by decide) rfl (Nat.le_of_ble_eq_true rfl) dX4_digestOfTexts_20 ?_
  refine q_i2l (pc := 23) C dX4_digestOfTexts_23 ?_
  refine q_ladd (pc := 24) C dX4_digestOfTexts_24 ?_
  refine q_lstore_n (pc := 25) C dX4_digestOfTexts_25 rfl (by decide) rfl ?_
  refine q_sub [1, 0] rfl ?_
  exact tX4_digestOfTexts_26 C _ _ _ h
theorem zX4_digestOfTexts {G : qG} {l : Launch} {σ : qM} {x1 : Int64} {res : (Int64 × qM)}  (h : fX4_digestOfTexts σ x1 = some res) : qCon sC G l yX4_digestOfTexts cX4_digestOfTexts 7 (some .long) 2 [.ref (q_ad G 0), .long x1] σ (some (.long res.1)) res.2 := by
  refine qCon.mkF (lv := [(0, .ref (q_ad G 0)), (1, .long x1)]) (plainFor_of_name (by decide)) (Nat.le_of_ble_eq_true rfl) rfl (fun X hX C => ?_)
  unfold fX4_digestOfTexts at h
  refine q_ldc2 (pc := 0) C kn_RX4_235 dX4_digestOfTexts_0 ?_
  refine q_lload_n (pc := 3) C 1 rfl dX4_digestOfTexts_3 rfl ?_
  refine q_lmul (pc := 4) C dX4_digestOfTexts_4 ?_
  refine q_aload_n (pc := 5) C 0 rfl dX4_digestOfTexts_5 rfl ?_
  refine q_iconst (pc := 6) C dX4_digestOfTexts_6 ci_0 ?_
  obtain ⟨q1, hq1, h⟩ := q_bind h
  refine q_callV1 (pc := 7) (st := [.long ((31 : Int64) * x1)]) C (zX4_fault hq1) yi_X4_fault ml_RX4_260 kC_0 rfl (by decide) rfl (Nat.le_of_ble_eq_true rfl) dX4_digestOfTexts_7 ?_
  refine q_i2l (pc := 10) C dX4_digestOfTexts_10 ?_
  refine q_ladd (pc := 11) C dX4_digestOfTexts_11 ?_
  refine q_lstore_n (pc := 12) C dX4_digestOfTexts_12 rfl (by decide) rfl ?_
  refine q_sub [1, 0] rfl ?_
  exact tX4_digestOfTexts_13 C _ _ _ h
/-! X4_digestOfTurns -/
theorem tX4_digestOfTurns_120 {X : qX} {G : qG} (C : qC sC X G RX4 cX4_digestOfTurns 7 5 (some .long))  (σ : qM) (x3 : Int32) (x4 : Int64) (res : (Int64 × qM))  (h : fX4_digestOfTurns_120  σ x3 x4 = some res) : qY sC X G 7 (q_Q sC X G (some (.long res.1)) res.2) σ 120 [(0, .ref (q_ad G 0)), (3, .int x3), (4, .long x4)] [] := by
  unfold fX4_digestOfTurns_120 at h
  refine q_ldc2 (pc := 120) C kn_RX4_235 dX4_digestOfTurns_120 ?_
  refine q_lload (pc := 123) C 2 rfl dX4_digestOfTurns_123 ?_
  refine q_lmul (pc := 125) C dX4_digestOfTurns_125 ?_
  refine q_aload_n (pc := 126) C 0 rfl dX4_digestOfTurns_126 rfl ?_
  refine q_iload_n (pc := 127) C 1 rfl dX4_digestOfTurns_127 rfl ?_
  refine q_iconst (pc := 128) C dX4_digestOfTurns_128 ci_0 ?_
  obtain ⟨q1, hq1, h⟩ := q_bind h
  refine q_callV1 (pc := 129) (st := [.long ((31 : Int64) * x4)]) C (zX4_place hq1) yi_X4_place ml_RX4_282 kC_0 rfl (by decide) rfl (Nat.le_of_ble_eq_true rfl) dX4_digestOfTurns_129 ?_
  refine q_i2l (pc := 132) C dX4_digestOfTurns_132 ?_
  refine q_ladd (pc := 133) C dX4_digestOfTurns_133 ?_
  obtain rfl := Option.some.inj h
  exact q_lret (pc := 134) C dX4_digestOfTurns_134
theorem tX4_digestOfTurns_103 {X : qX} {G : qG} (C : qC sC X G RX4 cX4_digestOfTurns 7 5 (some .long))  (σ : qM) (x3 : Int32) (x4 : Int64) (res : (Int64 × qM))  (h : fX4_digestOfTurns_103  σ x3 x4 = some res) : qY sC X G 7 (q_Q sC X G (some (.long res.1)) res.2) σ 103 [(0, .ref (q_ad G 0)), (3, .int x3), (4, .long x4)] [] := by
  unfold fX4_digestOfTurns_103 at h
  refine q_ldc2 (pc := 103) C kn_RX4_235 dX4_digestOfTurns_103 ?_
  refine q_lload (pc := 106) C 2 rfl dX4_digestOfTurns_106 ?_
  refine q_lmul (pc := 108) C dX4_digestOfTurns_108 ?_
  refine q_aload_n (pc := 109) C 0 rfl dX4_digestOfTurns_109 rfl ?_
  refine q_iload_n (pc := 110) C 1 rfl dX4_digestOfTurns_110 rfl ?_
  refine q_iconst (pc := 111) C dX4_digestOfTurns_111 ci_3 ?_
  refine q_iconst (pc := 112) C dX4_digestOfTurns_112 ci_1 ?_
  obtain ⟨q1, hq1, h⟩ := q_bind h
  refine q_callV1 (pc := 113) (st := [.long ((31 : Int64) * x4)]) C (zX4_strike hq1) yi_X4_strike ml_RX4_279 kC_0 rfl (by decide) rfl (Nat.le_of_ble_eq_true rfl) dX4_digestOfTurns_113 ?_
  refine q_i2l (pc := 116) C dX4_digestOfTurns_116 ?_
  refine q_ladd (pc := 117) C dX4_digestOfTurns_117 ?_
  refine q_lstore (pc := 118) C dX4_digestOfTurns_118 (by decide) rfl ?_
  refine q_sub [1, 2, 0] rfl ?_
  exact tX4_digestOfTurns_120 C _ _ _ _ h
theorem tX4_digestOfTurns_86 {X : qX} {G : qG} (C : qC sC X G RX4 cX4_digestOfTurns 7 5 (some .long))  (σ : qM) (x3 : Int32) (x4 : Int64) (res : (Int64 × qM))  (h : fX4_digestOfTurns_86  σ x3 x4 = some res) : qY sC X G 7 (q_Q sC X G (some (.long res.1)) res.2) σ 86 [(0, .ref (q_ad G 0)), (3, .int x3), (4, .long x4)] [] := by
  unfold fX4_digestOfTurns_86 at h
  refine q_ldc2 (pc := 86) C kn_RX4_235 dX4_digestOfTurns_86 ?_
  refine q_lload (pc := 89) C 2 rfl dX4_digestOfTurns_89 ?_
  refine q_lmul (pc := 91) C dX4_digestOfTurns_91 ?_
  refine q_aload_n (pc := 92) C 0 rfl dX4_digestOfTurns_92 rfl ?_
  refine q_iload_n (pc := 93) C 1 rfl dX4_digestOfTurns_93 rfl ?_
  refine q_iconst (pc := 94) C dX4_digestOfTurns_94 ci_3 ?_
  refine q_iconst (pc := 95) C dX4_digestOfTurns_95 ci_0 ?_
  obtain ⟨q1, hq1, h⟩ := q_bind h
  refine q_callV1 (pc := 96) (st := [.long ((31 : Int64) * x4)]) C (zX4_strike hq1) yi_X4_strike ml_RX4_279 kC_0 rfl (by decide) rfl (Nat.le_of_ble_eq_true rfl) dX4_digestOfTurns_96 ?_
  refine q_i2l (pc := 99) C dX4_digestOfTurns_99 ?_
  refine q_ladd (pc := 100) C dX4_digestOfTurns_100 ?_
  refine q_lstore (pc := 101) C dX4_digestOfTurns_101 (by decide) rfl ?_
  refine q_sub [1, 2, 0] rfl ?_
  exact tX4_digestOfTurns_103 C _ _ _ _ h
theorem tX4_digestOfTurns_68 {X : qX} {G : qG} (C : qC sC X G RX4 cX4_digestOfTurns 7 5 (some .long))  (σ : qM) (x3 : Int32) (x4 : Int64) (res : (Int64 × qM))  (h : fX4_digestOfTurns_68  σ x3 x4 = some res) : qY sC X G 7 (q_Q sC X G (some (.long res.1)) res.2) σ 68 [(0, .ref (q_ad G 0)), (3, .int x3), (4, .long x4)] [] := by
  unfold fX4_digestOfTurns_68 at h
  refine q_ldc2 (pc := 68) C kn_RX4_235 dX4_digestOfTurns_68 ?_
  refine q_lload (pc := 71) C 2 rfl dX4_digestOfTurns_71 ?_
  refine q_lmul (pc := 73) C dX4_digestOfTurns_73 ?_
  refine q_aload_n (pc := 74) C 0 rfl dX4_digestOfTurns_74 rfl ?_
  refine q_iload_n (pc := 75) C 1 rfl dX4_digestOfTurns_75 rfl ?_
  refine q_iconst (pc := 76) C dX4_digestOfTurns_76 ci_1 ?_
  refine q_iconst (pc := 77) C dX4_digestOfTurns_77 ci_2 ?_
  refine q_iconst (pc := 78) C dX4_digestOfTurns_78 ci_1 ?_
  obtain ⟨q1, hq1, h⟩ := q_bind h
  refine q_callV1 (pc := 79) (st := [.long ((31 : Int64) * x4)]) C (zX4_strain hq1) yi_X4_strain ml_RX4_275 kC_0 rfl (by decide) rfl (Nat.le_of_ble_eq_true rfl) dX4_digestOfTurns_79 ?_
  refine q_i2l (pc := 82) C dX4_digestOfTurns_82 ?_
  refine q_ladd (pc := 83) C dX4_digestOfTurns_83 ?_
  refine q_lstore (pc := 84) C dX4_digestOfTurns_84 (by decide) rfl ?_
  refine q_sub [1, 2, 0] rfl ?_
  exact tX4_digestOfTurns_86 C _ _ _ _ h
theorem tX4_digestOfTurns_50 {X : qX} {G : qG} (C : qC sC X G RX4 cX4_digestOfTurns 7 5 (some .long))  (σ : qM) (x3 : Int32) (x4 : Int64) (res : (Int64 × qM))  (h : fX4_digestOfTurns_50  σ x3 x4 = some res) : qY sC X G 7 (q_Q sC X G (some (.long res.1)) res.2) σ 50 [(0, .ref (q_ad G 0)), (3, .int x3), (4, .long x4)] [] := by
  unfold fX4_digestOfTurns_50 at h
  refine q_ldc2 (pc := 50) C kn_RX4_235 dX4_digestOfTurns_50 ?_
  refine q_lload (pc := 53) C 2 rfl dX4_digestOfTurns_53 ?_
  refine q_lmul (pc := 55) C dX4_digestOfTurns_55 ?_
  refine q_aload_n (pc := 56) C 0 rfl dX4_digestOfTurns_56 rfl ?_
  refine q_iload_n (pc := 57) C 1 rfl dX4_digestOfTurns_57 rfl ?_
  refine q_iconst (pc := 58) C dX4_digestOfTurns_58 ci_1 ?_
  refine q_iconst (pc := 59) C dX4_digestOfTurns_59 ci_2 ?_
  refine q_iconst (pc := 60) C dX4_digestOfTurns_60 ci_0 ?_
  obtain ⟨q1, hq1, h⟩ := q_bind h
  refine q_callV1 (pc := 61) (st := [.long ((31 : Int64) * x4)]) C (zX4_strain hq1) yi_X4_strain ml_RX4_275 kC_0 rfl (by decide) rfl (Nat.le_of_ble_eq_true rfl) dX4_digestOfTurns_61 ?_
  refine q_i2l (pc := 64) C dX4_digestOfTurns_64 ?_
  refine q_ladd (pc := 65) C dX4_digestOfTurns_65 ?_
  refine q_lstore (pc := 66) C dX4_digestOfTurns_66 (by decide) rfl ?_
  refine q_sub [1, 2, 0] rfl ?_
  exact tX4_digestOfTurns_68 C _ _ _ _ h
theorem tX4_digestOfTurns_29 {X : qX} {G : qG} (C : qC sC X G RX4 cX4_digestOfTurns 7 5 (some .long)) (k6 : qM → Int32 → Int64 → Int32 → Option (Int64 × qM)) (hk6 : ∀ (σ : qM) (x3 : Int32) (x4 : Int64) (x6 : Int32) (res : (Int64 × qM)), k6 σ x3 x4 x6 = some res → qY sC X G 7 (q_Q sC X G (some (.long res.1)) res.2) σ 6 [(0, .ref (q_ad G 0)), (3, .int x3), (4, .long x4), (6, .int x6)] []) (σ : qM) (x3 : Int32) (x4 : Int64) (x6 : Int32) (res : (Int64 × qM))  (h : fX4_digestOfTurns_29 k6 σ x3 x4 x6 = some res) : qY sC X G 7 (q_Q sC X G (some (.long res.1)) res.2) σ 29 [(0, .ref (q_ad G 0)), (3, .int x3), (4, .long x4), (6, .int x6)] [] := by
  unfold fX4_digestOfTurns_29 at h
  refine q_inc (pc := 29) C 3 rfl ci_1 dX4_digestOfTurns_29 (by decide) rfl ?_
  refine q_goto (pc := 32) C 6 dX4_digestOfTurns_32 (by decide) ?_
  refine q_sub [1, 2, 3, 0] rfl ?_
  exact hk6 _ _ _ _ _ h
theorem uX4_digestOfTurns_6 {X : qX} {G : qG} (C : qC sC X G RX4 cX4_digestOfTurns 7 5 (some .long)) (k6 : qM → Int32 → Int64 → Int32 → Option (Int64 × qM)) (hk6 : ∀ (σ : qM) (x3 : Int32) (x4 : Int64) (x6 : Int32) (res : (Int64 × qM)), k6 σ x3 x4 x6 = some res → qY sC X G 7 (q_Q sC X G (some (.long res.1)) res.2) σ 6 [(0, .ref (q_ad G 0)), (3, .int x3), (4, .long x4), (6, .int x6)] []) (σ : qM) (x3 : Int32) (x4 : Int64) (x6 : Int32) (res : (Int64 × qM))  (h : bX4_digestOfTurns_6 k6 σ x3 x4 x6 = some res) : qY sC X G 7 (q_Q sC X G (some (.long res.1)) res.2) σ 6 [(0, .ref (q_ad G 0)), (3, .int x3), (4, .long x4), (6, .int x6)] [] := by
  unfold bX4_digestOfTurns_6 at h
  refine q_iload (pc := 6) C 3 rfl dX4_digestOfTurns_6 ?_
  refine q_iconst (pc := 8) C dX4_digestOfTurns_8 ci_3 ?_
  refine q_ic_ge (pc := 9) C 35 dX4_digestOfTurns_9 (by decide) (fun c1 => ?_) (fun c1 => ?_)
  · have h := q_t c1 h
    refine q_ldc2 (pc := 35) C kn_RX4_235 dX4_digestOfTurns_35 ?_
    refine q_lload (pc := 38) C 2 rfl dX4_digestOfTurns_38 ?_
    refine q_lmul (pc := 40) C dX4_digestOfTurns_40 ?_
    refine q_aload_n (pc := 41) C 0 rfl dX4_digestOfTurns_41 rfl ?_
    refine q_iload_n (pc := 42) C 1 rfl dX4_digestOfTurns_42 rfl ?_
    obtain ⟨q2, hq2, h⟩ := q_bind h
    refine q_callV1 (pc := 43) (st := [.long ((31 : Int64) * x4)]) C (zX4_clash hq2) yi_X4_clash ml_RX4_272 kC_0 rfl (by decide) rfl (Nat.le_of_ble_eq_true rfl) dX4_digestOfTurns_43 ?_
    refine q_i2l (pc := 46) C dX4_digestOfTurns_46 ?_
    refine q_ladd (pc := 47) C dX4_digestOfTurns_47 ?_
    refine q_lstore (pc := 48) C dX4_digestOfTurns_48 (by decide) rfl ?_
    refine q_sub [1, 2, 0] rfl ?_
    exact tX4_digestOfTurns_50 C _ _ _ _ h
  · have h := q_f c1 h
    refine q_ldc2 (pc := 12) C kn_RX4_235 dX4_digestOfTurns_12 ?_
    refine q_lload (pc := 15) C 2 rfl dX4_digestOfTurns_15 ?_
    refine q_lmul (pc := 17) C dX4_digestOfTurns_17 ?_
    refine q_aload_n (pc := 18) C 0 rfl dX4_digestOfTurns_18 rfl ?_
    refine q_iload_n (pc := 19) C 1 rfl dX4_digestOfTurns_19 rfl ?_
    refine q_iload (pc := 20) C 3 rfl dX4_digestOfTurns_20 ?_
    obtain ⟨q3, hq3, h⟩ := q_bind h
    refine q_callV1 (pc := 22) (st := [.long ((31 : Int64) * x4)]) C (zX4_reading hq3) yi_X4_reading ml_RX4_269 kC_0 rfl (by decide) rfl (Nat.le_of_ble_eq_true rfl) dX4_digestOfTurns_22 ?_
    refine q_i2l (pc := 25) C dX4_digestOfTurns_25 ?_
    refine q_ladd (pc := 26) C dX4_digestOfTurns_26 ?_
    refine q_lstore (pc := 27) C dX4_digestOfTurns_27 (by decide) rfl ?_
    refine q_sub [1, 2, 0, 3] rfl ?_
    exact tX4_digestOfTurns_29 C k6 hk6 _ _ _ _ _ h
theorem tX4_digestOfTurns_6 {X : qX} {G : qG} (C : qC sC X G RX4 cX4_digestOfTurns 7 5 (some .long))  (σ : qM) (x3 : Int32) (x4 : Int64) (x6 : Int32) (res : (Int64 × qM))  (h : fX4_digestOfTurns_6  σ x3 x4 x6 = some res) : qY sC X G 7 (q_Q sC X G (some (.long res.1)) res.2) σ 6 [(0, .ref (q_ad G 0)), (3, .int x3), (4, .long x4), (6, .int x6)] [] := by
  have key : ∀ (n : Nat) (σ : qM) (x3 : Int32) (x4 : Int64) (x6 : Int32) (res : (Int64 × qM)) , qlp (fun _ _ _ _ => none) (bX4_digestOfTurns_6 ) n σ x3 x4 x6 = some res → qY sC X G 7 (q_Q sC X G (some (.long res.1)) res.2) σ 6 [(0, .ref (q_ad G 0)), (3, .int x3), (4, .long x4), (6, .int x6)] [] := by
    intro n
    induction n with
    | zero => intro σ x3 x4 x6 res h; cases h
    | succ n ih => intro σ x3 x4 x6 res h; exact uX4_digestOfTurns_6 C  (qlp (fun _ _ _ _ => none) (bX4_digestOfTurns_6 ) n) (fun σ x3 x4 x6 res h => ih σ x3 x4 x6 res h) σ x3 x4 x6 res h
  exact key qFU σ x3 x4 x6 res h
theorem zX4_digestOfTurns {G : qG} {l : Launch} {σ : qM} {x1 : Int64} {x3 : Int32} {res : (Int64 × qM)}  (h : fX4_digestOfTurns σ x1 x3 = some res) : qCon sC G l yX4_digestOfTurns cX4_digestOfTurns 7 (some .long) 5 [.ref (q_ad G 0), .long x1, .int x3] σ (some (.long res.1)) res.2 := by
  refine qCon.mkF (lv := [(0, .ref (q_ad G 0)), (1, .long x1), (3, .int x3)]) (plainFor_of_name (by decide)) (Nat.le_of_ble_eq_true rfl) rfl (fun X hX C => ?_)
  unfold fX4_digestOfTurns at h
  refine q_lload_n (pc := 0) C 1 rfl dX4_digestOfTurns_0 rfl ?_
  refine q_lstore (pc := 1) C dX4_digestOfTurns_1 (by decide) rfl ?_
  refine q_iconst (pc := 3) C dX4_digestOfTurns_3 ci_0 ?_
  refine q_istore (pc := 4) C dX4_digestOfTurns_4 (by decide) rfl ?_
  refine q_sub [2, 4, 1, 0] rfl ?_
  exact tX4_digestOfTurns_6 C _ _ _ _ _ h
/-! X4_digestOfLaw -/
theorem tX4_digestOfLaw_80 {X : qX} {G : qG} (C : qC sC X G RX4 cX4_digestOfLaw 6 5 (some .long))  (σ : qM) (x3 : Int32) (x4 : Int64) (res : (Int64 × qM))  (h : fX4_digestOfLaw_80  σ x3 x4 = some res) : qY sC X G 6 (q_Q sC X G (some (.long res.1)) res.2) σ 80 [(0, .ref (q_ad G 0)), (3, .int x3), (4, .long x4)] [] := by
  unfold fX4_digestOfLaw_80 at h
  refine q_ldc2 (pc := 80) C kn_RX4_235 dX4_digestOfLaw_80 ?_
  refine q_lload (pc := 83) C 2 rfl dX4_digestOfLaw_83 ?_
  refine q_lmul (pc := 85) C dX4_digestOfLaw_85 ?_
  refine q_aload_n (pc := 86) C 0 rfl dX4_digestOfLaw_86 rfl ?_
  refine q_bipush (pc := 87) C dX4_digestOfLaw_87 cb_7 ?_
  refine q_bipush (pc := 89) C dX4_digestOfLaw_89 cb_20 ?_
  refine q_iload_n (pc := 91) C 1 rfl dX4_digestOfLaw_91 rfl ?_
  obtain ⟨q1, hq1, h⟩ := q_bind h
  refine q_callV1 (pc := 92) (st := [.long ((31 : Int64) * x4)]) C (zX4_mornings hq1) yi_X4_mornings ml_RX4_295 kC_0 rfl (by decide) rfl (Nat.le_of_ble_eq_true rfl) dX4_digestOfLaw_92 ?_
  refine q_i2l (pc := 95) C dX4_digestOfLaw_95 ?_
  refine q_ladd (pc := 96) C dX4_digestOfLaw_96 ?_
  obtain rfl := Option.some.inj h
  exact q_lret (pc := 97) C dX4_digestOfLaw_97
theorem tX4_digestOfLaw_63 {X : qX} {G : qG} (C : qC sC X G RX4 cX4_digestOfLaw 6 5 (some .long))  (σ : qM) (x3 : Int32) (x4 : Int64) (res : (Int64 × qM))  (h : fX4_digestOfLaw_63  σ x3 x4 = some res) : qY sC X G 6 (q_Q sC X G (some (.long res.1)) res.2) σ 63 [(0, .ref (q_ad G 0)), (3, .int x3), (4, .long x4)] [] := by
  unfold fX4_digestOfLaw_63 at h
  refine q_ldc2 (pc := 63) C kn_RX4_235 dX4_digestOfLaw_63 ?_
  refine q_lload (pc := 66) C 2 rfl dX4_digestOfLaw_66 ?_
  refine q_lmul (pc := 68) C dX4_digestOfLaw_68 ?_
  refine q_aload_n (pc := 69) C 0 rfl dX4_digestOfLaw_69 rfl ?_
  refine q_iconst (pc := 70) C dX4_digestOfLaw_70 ci_5 ?_
  refine q_iconst (pc := 71) C dX4_digestOfLaw_71 ci_1 ?_
  refine q_iload_n (pc := 72) C 1 rfl dX4_digestOfLaw_72 rfl ?_
  refine q_iconst (pc := 73) C dX4_digestOfLaw_73 ci_1 ?_
  obtain ⟨q1, hq1, h⟩ := q_bind h
  refine q_callV1 (pc := 74) (st := [.long ((31 : Int64) * x4)]) C (zX4_sinks hq1) yi_X4_sinks ml_RX4_291 kC_0 rfl (by decide) rfl (Nat.le_of_ble_eq_true rfl) dX4_digestOfLaw_74 ?_
  refine q_ladd (pc := 77) C dX4_digestOfLaw_77 ?_
  refine q_lstore (pc := 78) C dX4_digestOfLaw_78 (by decide) rfl ?_
  refine q_sub [1, 2, 0] rfl ?_
  exact tX4_digestOfLaw_80 C _ _ _ _ h
theorem tX4_digestOfLaw_46 {X : qX} {G : qG} (C : qC sC X G RX4 cX4_digestOfLaw 6 5 (some .long))  (σ : qM) (x3 : Int32) (x4 : Int64) (res : (Int64 × qM))  (h : fX4_digestOfLaw_46  σ x3 x4 = some res) : qY sC X G 6 (q_Q sC X G (some (.long res.1)) res.2) σ 46 [(0, .ref (q_ad G 0)), (3, .int x3), (4, .long x4)] [] := by
  unfold fX4_digestOfLaw_46 at h
  refine q_ldc2 (pc := 46) C kn_RX4_235 dX4_digestOfLaw_46 ?_
  refine q_lload (pc := 49) C 2 rfl dX4_digestOfLaw_49 ?_
  refine q_lmul (pc := 51) C dX4_digestOfLaw_51 ?_
  refine q_aload_n (pc := 52) C 0 rfl dX4_digestOfLaw_52 rfl ?_
  refine q_iconst (pc := 53) C dX4_digestOfLaw_53 ci_5 ?_
  refine q_iconst (pc := 54) C dX4_digestOfLaw_54 ci_1 ?_
  refine q_iload_n (pc := 55) C 1 rfl dX4_digestOfLaw_55 rfl ?_
  refine q_iconst (pc := 56) C dX4_digestOfLaw_56 ci_0 ?_
  obtain ⟨q1, hq1, h⟩ := q_bind h
  refine q_callV1 (pc := 57) (st := [.long ((31 : Int64) * x4)]) C (zX4_sinks hq1) yi_X4_sinks ml_RX4_291 kC_0 rfl (by decide) rfl (Nat.le_of_ble_eq_true rfl) dX4_digestOfLaw_57 ?_
  refine q_ladd (pc := 60) C dX4_digestOfLaw_60 ?_
  refine q_lstore (pc := 61) C dX4_digestOfLaw_61 (by decide) rfl ?_
  refine q_sub [1, 2, 0] rfl ?_
  exact tX4_digestOfLaw_63 C _ _ _ _ h
theorem tX4_digestOfLaw_30 {X : qX} {G : qG} (C : qC sC X G RX4 cX4_digestOfLaw 6 5 (some .long))  (σ : qM) (x3 : Int32) (x4 : Int64) (res : (Int64 × qM))  (h : fX4_digestOfLaw_30  σ x3 x4 = some res) : qY sC X G 6 (q_Q sC X G (some (.long res.1)) res.2) σ 30 [(0, .ref (q_ad G 0)), (3, .int x3), (4, .long x4)] [] := by
  unfold fX4_digestOfLaw_30 at h
  refine q_ldc2 (pc := 30) C kn_RX4_235 dX4_digestOfLaw_30 ?_
  refine q_lload (pc := 33) C 2 rfl dX4_digestOfLaw_33 ?_
  refine q_lmul (pc := 35) C dX4_digestOfLaw_35 ?_
  refine q_aload_n (pc := 36) C 0 rfl dX4_digestOfLaw_36 rfl ?_
  refine q_iload_n (pc := 37) C 1 rfl dX4_digestOfLaw_37 rfl ?_
  refine q_iconst (pc := 38) C dX4_digestOfLaw_38 ci_1 ?_
  obtain ⟨q1, hq1, h⟩ := q_bind h
  refine q_callV1 (pc := 39) (st := [.long ((31 : Int64) * x4)]) C (zX4_sides hq1) yi_X4_sides ml_RX4_288 kC_0 rfl (by decide) rfl (Nat.le_of_ble_eq_true rfl) dX4_digestOfLaw_39 ?_
  refine q_i2l (pc := 42) C dX4_digestOfLaw_42 ?_
  refine q_ladd (pc := 43) C dX4_digestOfLaw_43 ?_
  refine q_lstore (pc := 44) C dX4_digestOfLaw_44 (by decide) rfl ?_
  refine q_sub [1, 2, 0] rfl ?_
  exact tX4_digestOfLaw_46 C _ _ _ _ h
theorem tX4_digestOfLaw_14 {X : qX} {G : qG} (C : qC sC X G RX4 cX4_digestOfLaw 6 5 (some .long))  (σ : qM) (x3 : Int32) (x4 : Int64) (res : (Int64 × qM))  (h : fX4_digestOfLaw_14  σ x3 x4 = some res) : qY sC X G 6 (q_Q sC X G (some (.long res.1)) res.2) σ 14 [(0, .ref (q_ad G 0)), (3, .int x3), (4, .long x4)] [] := by
  unfold fX4_digestOfLaw_14 at h
  refine q_ldc2 (pc := 14) C kn_RX4_235 dX4_digestOfLaw_14 ?_
  refine q_lload (pc := 17) C 2 rfl dX4_digestOfLaw_17 ?_
  refine q_lmul (pc := 19) C dX4_digestOfLaw_19 ?_
  refine q_aload_n (pc := 20) C 0 rfl dX4_digestOfLaw_20 rfl ?_
  refine q_iload_n (pc := 21) C 1 rfl dX4_digestOfLaw_21 rfl ?_
  refine q_iconst (pc := 22) C dX4_digestOfLaw_22 ci_0 ?_
  obtain ⟨q1, hq1, h⟩ := q_bind h
  refine q_callV1 (pc := 23) (st := [.long ((31 : Int64) * x4)]) C (zX4_sides hq1) yi_X4_sides ml_RX4_288 kC_0 rfl (by decide) rfl (Nat.le_of_ble_eq_true rfl) dX4_digestOfLaw_23 ?_
  refine q_i2l (pc := 26) C dX4_digestOfLaw_26 ?_
  refine q_ladd (pc := 27) C dX4_digestOfLaw_27 ?_
  refine q_lstore (pc := 28) C dX4_digestOfLaw_28 (by decide) rfl ?_
  refine q_sub [1, 2, 0] rfl ?_
  exact tX4_digestOfLaw_30 C _ _ _ _ h
theorem zX4_digestOfLaw {G : qG} {l : Launch} {σ : qM} {x1 : Int64} {x3 : Int32} {res : (Int64 × qM)}  (h : fX4_digestOfLaw σ x1 x3 = some res) : qCon sC G l yX4_digestOfLaw cX4_digestOfLaw 6 (some .long) 5 [.ref (q_ad G 0), .long x1, .int x3] σ (some (.long res.1)) res.2 := by
  refine qCon.mkF (lv := [(0, .ref (q_ad G 0)), (1, .long x1), (3, .int x3)]) (plainFor_of_name (by decide)) (Nat.le_of_ble_eq_true rfl) rfl (fun X hX C => ?_)
  unfold fX4_digestOfLaw at h
  refine q_ldc2 (pc := 0) C kn_RX4_235 dX4_digestOfLaw_0 ?_
  refine q_lload_n (pc := 3) C 1 rfl dX4_digestOfLaw_3 rfl ?_
  refine q_lmul (pc := 4) C dX4_digestOfLaw_4 ?_
  refine q_aload_n (pc := 5) C 0 rfl dX4_digestOfLaw_5 rfl ?_
  refine q_iload_n (pc := 6) C 2 rfl dX4_digestOfLaw_6 rfl ?_
  obtain ⟨q1, hq1, h⟩ := q_bind h
  refine q_callV1 (pc := 7) (st := [.long ((31 : Int64) * x1)]) C (zX4_free hq1) yi_X4_free ml_RX4_285 kC_0 rfl (by decide) rfl (Nat.le_of_ble_eq_true rfl) dX4_digestOfLaw_7 ?_
  refine q_i2l (pc := 10) C dX4_digestOfLaw_10 ?_
  refine q_ladd (pc := 11) C dX4_digestOfLaw_11 ?_
  refine q_lstore (pc := 12) C dX4_digestOfLaw_12 (by decide) rfl ?_
  refine q_sub [1, 3, 0] rfl ?_
  exact tX4_digestOfLaw_14 C _ _ _ _ h
/-! X4_digest -/
theorem tX4_digest_25 {X : qX} {G : qG} (C : qC sC X G RX4 cX4_digest 4 6 (some .long)) (k6 : qM → Int64 → Int32 → Option (Int64 × qM)) (hk6 : ∀ (σ : qM) (x1 : Int64) (x3 : Int32) (res : (Int64 × qM)), k6 σ x1 x3 = some res → qY sC X G 4 (q_Q sC X G (some (.long res.1)) res.2) σ 6 [(0, .ref (q_ad G 0)), (1, .long x1), (3, .int x3)] []) (σ : qM) (x1 : Int64) (x3 : Int32) (res : (Int64 × qM))  (h : fX4_digest_25 k6 σ x1 x3 = some res) : qY sC X G 4 (q_Q sC X G (some (.long res.1)) res.2) σ 25 [(0, .ref (q_ad G 0)), (1, .long x1), (3, .int x3)] [] := by
  unfold fX4_digest_25 at h
  refine q_inc (pc := 25) C 2 rfl ci_1 dX4_digest_25 (by decide) rfl ?_
  refine q_goto (pc := 28) C 6 dX4_digest_28 (by decide) ?_
  refine q_sub [1, 2, 0] rfl ?_
  exact hk6 _ _ _ _ h
theorem tX4_digest_137 {X : qX} {G : qG} (C : qC sC X G RX4 cX4_digest 4 6 (some .long)) (k119 : qM → Int64 → Int32 → Option (Int64 × qM)) (hk119 : ∀ (σ : qM) (x1 : Int64) (x3 : Int32) (res : (Int64 × qM)), k119 σ x1 x3 = some res → qY sC X G 4 (q_Q sC X G (some (.long res.1)) res.2) σ 119 [(0, .ref (q_ad G 0)), (1, .long x1), (3, .int x3)] []) (σ : qM) (x1 : Int64) (x3 : Int32) (res : (Int64 × qM))  (h : fX4_digest_137 k119 σ x1 x3 = some res) : qY sC X G 4 (q_Q sC X G (some (.long res.1)) res.2) σ 137 [(0, .ref (q_ad G 0)), (1, .long x1), (3, .int x3)] [] := by
  unfold fX4_digest_137 at h
  refine q_inc (pc := 137) C 2 rfl ci_1 dX4_digest_137 (by decide) rfl ?_
  refine q_goto (pc := 140) C 119 dX4_digest_140 (by decide) ?_
  refine q_sub [1, 2, 0] rfl ?_
  exact hk119 _ _ _ _ h
theorem uX4_digest_119 {X : qX} {G : qG} (C : qC sC X G RX4 cX4_digest 4 6 (some .long)) (k119 : qM → Int64 → Int32 → Option (Int64 × qM)) (hk119 : ∀ (σ : qM) (x1 : Int64) (x3 : Int32) (res : (Int64 × qM)), k119 σ x1 x3 = some res → qY sC X G 4 (q_Q sC X G (some (.long res.1)) res.2) σ 119 [(0, .ref (q_ad G 0)), (1, .long x1), (3, .int x3)] []) (σ : qM) (x1 : Int64) (x3 : Int32) (res : (Int64 × qM))  (h : bX4_digest_119 k119 σ x1 x3 = some res) : qY sC X G 4 (q_Q sC X G (some (.long res.1)) res.2) σ 119 [(0, .ref (q_ad G 0)), (1, .long x1), (3, .int x3)] [] := by
  unfold bX4_digest_119 at h
  refine q_iload_n (pc := 119) C 2 rfl dX4_digest_119 rfl ?_
  refine q_iconst (pc := 120) C dX4_digest_120 ci_3 ?_
  refine q_ic_ge (pc := 121) C 143 dX4_digest_121 (by decide) (fun c1 => ?_) (fun c1 => ?_)
  · have h := q_t c1 h
    refine q_lload_n (pc := 143) C 1 rfl dX4_digest_143 rfl ?_
    obtain rfl := Option.some.inj h
    exact q_lret (pc := 144) C dX4_digest_144
  · have h := q_f c1 h
    refine q_ldc2 (pc := 124) C kn_RX4_235 dX4_digest_124 ?_
    refine q_lload_n (pc := 127) C 1 rfl dX4_digest_127 rfl ?_
    refine q_lmul (pc := 128) C dX4_digest_128 ?_
    refine q_aload_n (pc := 129) C 0 rfl dX4_digest_129 rfl ?_
    refine q_iload_n (pc := 130) C 2 rfl dX4_digest_130 rfl ?_
    obtain ⟨q2, hq2, h⟩ := q_bind h
    refine q_callV1 (pc := 131) (st := [.long ((31 : Int64) * x1)]) C (zX4_fits hq2) yi_X4_fits ml_RX4_257 kC_0 rfl (by decide) rfl (Nat.le_of_ble_eq_true rfl) dX4_digest_131 ?_
    refine q_i2l (pc := 134) C dX4_digest_134 ?_
    refine q_ladd (pc := 135) C dX4_digest_135 ?_
    refine q_lstore_n (pc := 136) C dX4_digest_136 rfl (by decide) rfl ?_
    refine q_sub [1, 0, 2] rfl ?_
    exact tX4_digest_137 C k119 hk119 _ _ _ _ h
theorem tX4_digest_119 {X : qX} {G : qG} (C : qC sC X G RX4 cX4_digest 4 6 (some .long))  (σ : qM) (x1 : Int64) (x3 : Int32) (res : (Int64 × qM))  (h : fX4_digest_119  σ x1 x3 = some res) : qY sC X G 4 (q_Q sC X G (some (.long res.1)) res.2) σ 119 [(0, .ref (q_ad G 0)), (1, .long x1), (3, .int x3)] [] := by
  have key : ∀ (n : Nat) (σ : qM) (x1 : Int64) (x3 : Int32) (res : (Int64 × qM)) , qlp (fun _ _ _ => none) (bX4_digest_119 ) n σ x1 x3 = some res → qY sC X G 4 (q_Q sC X G (some (.long res.1)) res.2) σ 119 [(0, .ref (q_ad G 0)), (1, .long x1), (3, .int x3)] [] := by
    intro n
    induction n with
    | zero => intro σ x1 x3 res h; cases h
    | succ n ih => intro σ x1 x3 res h; exact uX4_digest_119 C  (qlp (fun _ _ _ => none) (bX4_digest_119 ) n) (fun σ x1 x3 res h => ih σ x1 x3 res h) σ x1 x3 res h
  exact key qFU σ x1 x3 res h
theorem tX4_digest_117 {X : qX} {G : qG} (C : qC sC X G RX4 cX4_digest 4 6 (some .long))  (σ : qM) (x1 : Int64) (res : (Int64 × qM))  (h : fX4_digest_117  σ x1 = some res) : qY sC X G 4 (q_Q sC X G (some (.long res.1)) res.2) σ 117 [(0, .ref (q_ad G 0)), (1, .long x1)] [] := by
  unfold fX4_digest_117 at h
  refine q_iconst (pc := 117) C dX4_digest_117 ci_0 ?_
  refine q_istore_n (pc := 118) C dX4_digest_118 rfl (by decide) rfl ?_
  refine q_sub [1, 2, 0] rfl ?_
  exact tX4_digest_119 C _ _ _ _ h
theorem tX4_digest_104 {X : qX} {G : qG} (C : qC sC X G RX4 cX4_digest 4 6 (some .long))  (σ : qM) (x1 : Int64) (res : (Int64 × qM))  (h : fX4_digest_104  σ x1 = some res) : qY sC X G 4 (q_Q sC X G (some (.long res.1)) res.2) σ 104 [(0, .ref (q_ad G 0)), (1, .long x1)] [] := by
  unfold fX4_digest_104 at h
  refine q_ldc2 (pc := 104) C kn_RX4_235 dX4_digest_104 ?_
  refine q_lload_n (pc := 107) C 1 rfl dX4_digest_107 rfl ?_
  refine q_lmul (pc := 108) C dX4_digest_108 ?_
  refine q_aload_n (pc := 109) C 0 rfl dX4_digest_109 rfl ?_
  refine q_iconst (pc := 110) C dX4_digest_110 ci_5 ?_
  obtain ⟨q1, hq1, h⟩ := q_bind h
  refine q_callV1 (pc := 111) (st := [.long ((31 : Int64) * x1)]) C (zX4_pour hq1) yi_X4_pour ml_RX4_254 kC_0 rfl (by decide) rfl (Nat.le_of_ble_eq_true rfl) dX4_digest_111 ?_
  refine q_i2l (pc := 114) C dX4_digest_114 ?_
  refine q_ladd (pc := 115) C dX4_digest_115 ?_
  refine q_lstore_n (pc := 116) C dX4_digest_116 rfl (by decide) rfl ?_
  refine q_sub [1, 0] rfl ?_
  exact tX4_digest_117 C _ _ _ h
theorem tX4_digest_91 {X : qX} {G : qG} (C : qC sC X G RX4 cX4_digest 4 6 (some .long))  (σ : qM) (x1 : Int64) (res : (Int64 × qM))  (h : fX4_digest_91  σ x1 = some res) : qY sC X G 4 (q_Q sC X G (some (.long res.1)) res.2) σ 91 [(0, .ref (q_ad G 0)), (1, .long x1)] [] := by
  unfold fX4_digest_91 at h
  refine q_ldc2 (pc := 91) C kn_RX4_235 dX4_digest_91 ?_
  refine q_lload_n (pc := 94) C 1 rfl dX4_digest_94 rfl ?_
  refine q_lmul (pc := 95) C dX4_digest_95 ?_
  refine q_aload_n (pc := 96) C 0 rfl dX4_digest_96 rfl ?_
  refine q_iconst (pc := 97) C dX4_digest_97 ci_1 ?_
  obtain ⟨q1, hq1, h⟩ := q_bind h
  refine q_callV1 (pc := 98) (st := [.long ((31 : Int64) * x1)]) C (zX4_broken hq1) yi_X4_broken ml_RX4_251 kC_0 rfl (by decide) rfl (Nat.le_of_ble_eq_true rfl) dX4_digest_98 ?_
  refine q_i2l (pc := 101) C dX4_digest_101 ?_
  refine q_ladd (pc := 102) C dX4_digest_102 ?_
  refine q_lstore_n (pc := 103) C dX4_digest_103 rfl (by decide) rfl ?_
  refine q_sub [1, 0] rfl ?_
  exact tX4_digest_104 C _ _ _ h
theorem uX4_digest_59 {X : qX} {G : qG} (C : qC sC X G RX4 cX4_digest 4 6 (some .long)) (k59 : qM → Int64 → Int32 → Option (Int64 × qM)) (hk59 : ∀ (σ : qM) (x1 : Int64) (x3 : Int32) (res : (Int64 × qM)), k59 σ x1 x3 = some res → qY sC X G 4 (q_Q sC X G (some (.long res.1)) res.2) σ 59 [(0, .ref (q_ad G 0)), (1, .long x1), (3, .int x3)] []) (σ : qM) (x1 : Int64) (x3 : Int32) (res : (Int64 × qM))  (h : bX4_digest_59 k59 σ x1 x3 = some res) : qY sC X G 4 (q_Q sC X G (some (.long res.1)) res.2) σ 59 [(0, .ref (q_ad G 0)), (1, .long x1), (3, .int x3)] [] := by
  unfold bX4_digest_59 at h
  refine q_iload_n (pc := 59) C 2 rfl dX4_digest_59 rfl ?_
  refine q_bipush (pc := 60) C dX4_digest_60 cb_8 ?_
  refine q_ic_ge (pc := 62) C 78 dX4_digest_62 (by decide) (fun c1 => ?_) (fun c1 => ?_)
  · have h := q_t c1 h
    refine q_ldc2 (pc := 78) C kn_RX4_235 dX4_digest_78 ?_
    refine q_lload_n (pc := 81) C 1 rfl dX4_digest_81 rfl ?_
    refine q_lmul (pc := 82) C dX4_digest_82 ?_
    refine q_aload_n (pc := 83) C 0 rfl dX4_digest_83 rfl ?_
    refine q_iconst (pc := 84) C dX4_digest_84 ci_0 ?_
    obtain ⟨q2, hq2, h⟩ := q_bind h
    refine q_callV1 (pc := 85) (st := [.long ((31 : Int64) * x1)]) C (zX4_broken hq2) yi_X4_broken ml_RX4_251 kC_0 rfl (by decide) rfl (Nat.le_of_ble_eq_true rfl) dX4_digest_85 ?_
    refine q_i2l (pc := 88) C dX4_digest_88 ?_
    refine q_ladd (pc := 89) C dX4_digest_89 ?_
    refine q_lstore_n (pc := 90) C dX4_digest_90 rfl (by decide) rfl ?_
    refine q_sub [1, 0] rfl ?_
    exact tX4_digest_91 C _ _ _ h
  · have h := q_f c1 h
    refine q_aload_n (pc := 65) C 0 rfl dX4_digest_65 rfl ?_
    refine q_lload_n (pc := 66) C 1 rfl dX4_digest_66 rfl ?_
    refine q_iload_n (pc := 67) C 2 rfl dX4_digest_67 rfl ?_
    obtain ⟨q3, hq3, h⟩ := q_bind h
    refine q_callV1 (pc := 68) (st := []) C (zX4_digestOfLaw hq3) yi_X4_digestOfLaw ml_RX4_248 kC_0 rfl (by decide) rfl (Nat.le_of_ble_eq_true rfl) dX4_digest_68 ?_
    refine q_lstore_n (pc := 71) C dX4_digest_71 rfl (by decide) rfl ?_
    refine q_inc (pc := 72) C 2 rfl ci_1 dX4_digest_72 (by decide) rfl ?_
    refine q_goto (pc := 75) C 59 dX4_digest_75 (by decide) ?_
    refine q_sub [2, 1, 0] rfl ?_
    exact hk59 _ _ _ _ h
theorem tX4_digest_59 {X : qX} {G : qG} (C : qC sC X G RX4 cX4_digest 4 6 (some .long))  (σ : qM) (x1 : Int64) (x3 : Int32) (res : (Int64 × qM))  (h : fX4_digest_59  σ x1 x3 = some res) : qY sC X G 4 (q_Q sC X G (some (.long res.1)) res.2) σ 59 [(0, .ref (q_ad G 0)), (1, .long x1), (3, .int x3)] [] := by
  have key : ∀ (n : Nat) (σ : qM) (x1 : Int64) (x3 : Int32) (res : (Int64 × qM)) , qlp (fun _ _ _ => none) (bX4_digest_59 ) n σ x1 x3 = some res → qY sC X G 4 (q_Q sC X G (some (.long res.1)) res.2) σ 59 [(0, .ref (q_ad G 0)), (1, .long x1), (3, .int x3)] [] := by
    intro n
    induction n with
    | zero => intro σ x1 x3 res h; cases h
    | succ n ih => intro σ x1 x3 res h; exact uX4_digest_59 C  (qlp (fun _ _ _ => none) (bX4_digest_59 ) n) (fun σ x1 x3 res h => ih σ x1 x3 res h) σ x1 x3 res h
  exact key qFU σ x1 x3 res h
theorem uX4_digest_39 {X : qX} {G : qG} (C : qC sC X G RX4 cX4_digest 4 6 (some .long)) (k39 : qM → Int64 → Int32 → Option (Int64 × qM)) (hk39 : ∀ (σ : qM) (x1 : Int64) (x3 : Int32) (res : (Int64 × qM)), k39 σ x1 x3 = some res → qY sC X G 4 (q_Q sC X G (some (.long res.1)) res.2) σ 39 [(0, .ref (q_ad G 0)), (1, .long x1), (3, .int x3)] []) (σ : qM) (x1 : Int64) (x3 : Int32) (res : (Int64 × qM))  (h : bX4_digest_39 k39 σ x1 x3 = some res) : qY sC X G 4 (q_Q sC X G (some (.long res.1)) res.2) σ 39 [(0, .ref (q_ad G 0)), (1, .long x1), (3, .int x3)] [] := by
  unfold bX4_digest_39 at h
  refine q_iload_n (pc := 39) C 2 rfl dX4_digest_39 rfl ?_
  refine q_iconst (pc := 40) C dX4_digest_40 ci_4 ?_
  refine q_ic_ge (pc := 41) C 57 dX4_digest_41 (by decide) (fun c1 => ?_) (fun c1 => ?_)
  · have h := q_t c1 h
    refine q_iconst (pc := 57) C dX4_digest_57 ci_0 ?_
    refine q_istore_n (pc := 58) C dX4_digest_58 rfl (by decide) rfl ?_
    refine q_sub [1, 2, 0] rfl ?_
    exact tX4_digest_59 C _ _ _ _ h
  · have h := q_f c1 h
    refine q_aload_n (pc := 44) C 0 rfl dX4_digest_44 rfl ?_
    refine q_lload_n (pc := 45) C 1 rfl dX4_digest_45 rfl ?_
    refine q_iload_n (pc := 46) C 2 rfl dX4_digest_46 rfl ?_
    obtain ⟨q2, hq2, h⟩ := q_bind h
    refine q_callV1 (pc := 47) (st := []) C (zX4_digestOfTurns hq2) yi_X4_digestOfTurns ml_RX4_244 kC_0 rfl (by decide) rfl (Nat.le_of_ble_eq_true rfl) dX4_digest_47 ?_
    refine q_lstore_n (pc := 50) C dX4_digest_50 rfl (by decide) rfl ?_
    refine q_inc (pc := 51) C 2 rfl ci_1 dX4_digest_51 (by decide) rfl ?_
    refine q_goto (pc := 54) C 39 dX4_digest_54 (by decide) ?_
    refine q_sub [2, 1, 0] rfl ?_
    exact hk39 _ _ _ _ h
theorem tX4_digest_39 {X : qX} {G : qG} (C : qC sC X G RX4 cX4_digest 4 6 (some .long))  (σ : qM) (x1 : Int64) (x3 : Int32) (res : (Int64 × qM))  (h : fX4_digest_39  σ x1 x3 = some res) : qY sC X G 4 (q_Q sC X G (some (.long res.1)) res.2) σ 39 [(0, .ref (q_ad G 0)), (1, .long x1), (3, .int x3)] [] := by
  have key : ∀ (n : Nat) (σ : qM) (x1 : Int64) (x3 : Int32) (res : (Int64 × qM)) , qlp (fun _ _ _ => none) (bX4_digest_39 ) n σ x1 x3 = some res → qY sC X G 4 (q_Q sC X G (some (.long res.1)) res.2) σ 39 [(0, .ref (q_ad G 0)), (1, .long x1), (3, .int x3)] [] := by
    intro n
    induction n with
    | zero => intro σ x1 x3 res h; cases h
    | succ n ih => intro σ x1 x3 res h; exact uX4_digest_39 C  (qlp (fun _ _ _ => none) (bX4_digest_39 ) n) (fun σ x1 x3 res h => ih σ x1 x3 res h) σ x1 x3 res h
  exact key qFU σ x1 x3 res h
theorem uX4_digest_6 {X : qX} {G : qG} (C : qC sC X G RX4 cX4_digest 4 6 (some .long)) (k6 : qM → Int64 → Int32 → Option (Int64 × qM)) (hk6 : ∀ (σ : qM) (x1 : Int64) (x3 : Int32) (res : (Int64 × qM)), k6 σ x1 x3 = some res → qY sC X G 4 (q_Q sC X G (some (.long res.1)) res.2) σ 6 [(0, .ref (q_ad G 0)), (1, .long x1), (3, .int x3)] []) (σ : qM) (x1 : Int64) (x3 : Int32) (res : (Int64 × qM))  (h : bX4_digest_6 k6 σ x1 x3 = some res) : qY sC X G 4 (q_Q sC X G (some (.long res.1)) res.2) σ 6 [(0, .ref (q_ad G 0)), (1, .long x1), (3, .int x3)] [] := by
  unfold bX4_digest_6 at h
  refine q_iload_n (pc := 6) C 2 rfl dX4_digest_6 rfl ?_
  refine q_bipush (pc := 7) C dX4_digest_7 cb_7 ?_
  refine q_ic_gt (pc := 9) C 31 dX4_digest_9 (by decide) (fun c1 => ?_) (fun c1 => ?_)
  · have h := q_t c1 h
    refine q_aload_n (pc := 31) C 0 rfl dX4_digest_31 rfl ?_
    refine q_lload_n (pc := 32) C 1 rfl dX4_digest_32 rfl ?_
    obtain ⟨q2, hq2, h⟩ := q_bind h
    refine q_callV1 (pc := 33) (st := []) C (zX4_digestOfTexts hq2) yi_X4_digestOfTexts ml_RX4_240 kC_0 rfl (by decide) rfl (Nat.le_of_ble_eq_true rfl) dX4_digest_33 ?_
    refine q_lstore_n (pc := 36) C dX4_digest_36 rfl (by decide) rfl ?_
    refine q_iconst (pc := 37) C dX4_digest_37 ci_0 ?_
    refine q_istore_n (pc := 38) C dX4_digest_38 rfl (by decide) rfl ?_
    refine q_sub [2, 1, 0] rfl ?_
    exact tX4_digest_39 C _ _ _ _ h
  · have h := q_f c1 h
    refine q_ldc2 (pc := 12) C kn_RX4_235 dX4_digest_12 ?_
    refine q_lload_n (pc := 15) C 1 rfl dX4_digest_15 rfl ?_
    refine q_lmul (pc := 16) C dX4_digest_16 ?_
    refine q_aload_n (pc := 17) C 0 rfl dX4_digest_17 rfl ?_
    refine q_iload_n (pc := 18) C 2 rfl dX4_digest_18 rfl ?_
    obtain ⟨q3, hq3, h⟩ := q_bind h
    refine q_callV1 (pc := 19) (st := [.long ((31 : Int64) * x1)]) C (zX4_count hq3) yi_X4_count ml_RX4_237 kC_0 rfl (by decide) rfl (Nat.le_of_ble_eq_true rfl) dX4_digest_19 ?_
    refine q_i2l (pc := 22) C dX4_digest_22 ?_
    refine q_ladd (pc := 23) C dX4_digest_23 ?_
    refine q_lstore_n (pc := 24) C dX4_digest_24 rfl (by decide) rfl ?_
    refine q_sub [1, 0, 2] rfl ?_
    exact tX4_digest_25 C k6 hk6 _ _ _ _ h
theorem tX4_digest_6 {X : qX} {G : qG} (C : qC sC X G RX4 cX4_digest 4 6 (some .long))  (σ : qM) (x1 : Int64) (x3 : Int32) (res : (Int64 × qM))  (h : fX4_digest_6  σ x1 x3 = some res) : qY sC X G 4 (q_Q sC X G (some (.long res.1)) res.2) σ 6 [(0, .ref (q_ad G 0)), (1, .long x1), (3, .int x3)] [] := by
  have key : ∀ (n : Nat) (σ : qM) (x1 : Int64) (x3 : Int32) (res : (Int64 × qM)) , qlp (fun _ _ _ => none) (bX4_digest_6 ) n σ x1 x3 = some res → qY sC X G 4 (q_Q sC X G (some (.long res.1)) res.2) σ 6 [(0, .ref (q_ad G 0)), (1, .long x1), (3, .int x3)] [] := by
    intro n
    induction n with
    | zero => intro σ x1 x3 res h; cases h
    | succ n ih => intro σ x1 x3 res h; exact uX4_digest_6 C  (qlp (fun _ _ _ => none) (bX4_digest_6 ) n) (fun σ x1 x3 res h => ih σ x1 x3 res h) σ x1 x3 res h
  exact key qFU σ x1 x3 res h
theorem zX4_digest {G : qG} {l : Launch} {σ : qM}  {res : (Int64 × qM)}  (h : fX4_digest σ  = some res) : qCon sC G l yX4_digest cX4_digest 4 (some .long) 6 [.ref (q_ad G 0)] σ (some (.long res.1)) res.2 := by
  refine qCon.mkF (lv := [(0, .ref (q_ad G 0))]) (plainFor_of_name (by decide)) (Nat.le_of_ble_eq_true rfl) rfl (fun X hX C => ?_)
  unfold fX4_digest at h
  refine q_ldc2 (pc := 0) C kn_RX4_233 dX4_digest_0 ?_
  refine q_lstore_n (pc := 3) C dX4_digest_3 rfl (by decide) rfl ?_
  refine q_iconst (pc := 4) C dX4_digest_4 ci_0 ?_
  refine q_istore_n (pc := 5) C dX4_digest_5 rfl (by decide) rfl ?_
  refine q_sub [2, 1, 0] rfl ?_
  exact tX4_digest_6 C _ _ _ _ h

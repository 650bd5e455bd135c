/-! J6_bitCount_0f7a4 -/
theorem tJ6_bitCount_0f7a4_48 {X : qX} {G : qG} (C : qC sC X G RJ6 cJ6_bitCount_0f7a4 1 0 (some .int))  (σ : qM) (x0 : Int32) (res : (Int32 × qM))  (h : fJ6_bitCount_0f7a4_48  σ x0 = some res) : qY sC X G 1 (q_Q sC X G (some (.int res.1)) res.2) σ 48 [(0, .int x0)] [] := by
  unfold fJ6_bitCount_0f7a4_48 at h
  refine q_iload_n (pc := 48) C 0 rfl dJ6_bitCount_0f7a4_48 rfl ?_
  refine q_bipush (pc := 49) C dJ6_bitCount_0f7a4_49 cb_63 ?_
  refine q_iand (pc := 51) C dJ6_bitCount_0f7a4_51 ?_
  obtain rfl := Option.some.inj h
  exact q_iret (pc := 52) C dJ6_bitCount_0f7a4_52
theorem tJ6_bitCount_0f7a4_41 {X : qX} {G : qG} (C : qC sC X G RJ6 cJ6_bitCount_0f7a4 1 0 (some .int))  (σ : qM) (x0 : Int32) (res : (Int32 × qM))  (h : fJ6_bitCount_0f7a4_41  σ x0 = some res) : qY sC X G 1 (q_Q sC X G (some (.int res.1)) res.2) σ 41 [(0, .int x0)] [] := by
  unfold fJ6_bitCount_0f7a4_41 at h
  refine q_iload_n (pc := 41) C 0 rfl dJ6_bitCount_0f7a4_41 rfl ?_
  refine q_iload_n (pc := 42) C 0 rfl dJ6_bitCount_0f7a4_42 rfl ?_
  refine q_bipush (pc := 43) C dJ6_bitCount_0f7a4_43 cb_16 ?_
  refine q_iushr (pc := 45) C dJ6_bitCount_0f7a4_45 ?_
  refine q_iadd (pc := 46) C dJ6_bitCount_0f7a4_46 ?_
  refine q_istore_n (pc := 47) C dJ6_bitCount_0f7a4_47 rfl (by decide) rfl ?_
  exact tJ6_bitCount_0f7a4_48 C _ _ _ h
theorem tJ6_bitCount_0f7a4_34 {X : qX} {G : qG} (C : qC sC X G RJ6 cJ6_bitCount_0f7a4 1 0 (some .int))  (σ : qM) (x0 : Int32) (res : (Int32 × qM))  (h : fJ6_bitCount_0f7a4_34  σ x0 = some res) : qY sC X G 1 (q_Q sC X G (some (.int res.1)) res.2) σ 34 [(0, .int x0)] [] := by
  unfold fJ6_bitCount_0f7a4_34 at h
  refine q_iload_n (pc := 34) C 0 rfl dJ6_bitCount_0f7a4_34 rfl ?_
  refine q_iload_n (pc := 35) C 0 rfl dJ6_bitCount_0f7a4_35 rfl ?_
  refine q_bipush (pc := 36) C dJ6_bitCount_0f7a4_36 cb_8 ?_
  refine q_iushr (pc := 38) C dJ6_bitCount_0f7a4_38 ?_
  refine q_iadd (pc := 39) C dJ6_bitCount_0f7a4_39 ?_
  refine q_istore_n (pc := 40) C dJ6_bitCount_0f7a4_40 rfl (by decide) rfl ?_
  exact tJ6_bitCount_0f7a4_41 C _ _ _ h
theorem tJ6_bitCount_0f7a4_24 {X : qX} {G : qG} (C : qC sC X G RJ6 cJ6_bitCount_0f7a4 1 0 (some .int))  (σ : qM) (x0 : Int32) (res : (Int32 × qM))  (h : fJ6_bitCount_0f7a4_24  σ x0 = some res) : qY sC X G 1 (q_Q sC X G (some (.int res.1)) res.2) σ 24 [(0, .int x0)] [] := by
  unfold fJ6_bitCount_0f7a4_24 at h
  refine q_iload_n (pc := 24) C 0 rfl dJ6_bitCount_0f7a4_24 rfl ?_
  refine q_iload_n (pc := 25) C 0 rfl dJ6_bitCount_0f7a4_25 rfl ?_
  refine q_iconst (pc := 26) C dJ6_bitCount_0f7a4_26 ci_4 ?_
  refine q_iushr (pc := 27) C dJ6_bitCount_0f7a4_27 ?_
  refine q_iadd (pc := 28) C dJ6_bitCount_0f7a4_28 ?_
  refine q_ldcw (pc := 29) C kn_RJ6_267 dJ6_bitCount_0f7a4_29 ?_
  refine q_iand (pc := 32) C dJ6_bitCount_0f7a4_32 ?_
  refine q_istore_n (pc := 33) C dJ6_bitCount_0f7a4_33 rfl (by decide) rfl ?_
  exact tJ6_bitCount_0f7a4_34 C _ _ _ h
theorem tJ6_bitCount_0f7a4_10 {X : qX} {G : qG} (C : qC sC X G RJ6 cJ6_bitCount_0f7a4 1 0 (some .int))  (σ : qM) (x0 : Int32) (res : (Int32 × qM))  (h : fJ6_bitCount_0f7a4_10  σ x0 = some res) : qY sC X G 1 (q_Q sC X G (some (.int res.1)) res.2) σ 10 [(0, .int x0)] [] := by
  unfold fJ6_bitCount_0f7a4_10 at h
  refine q_iload_n (pc := 10) C 0 rfl dJ6_bitCount_0f7a4_10 rfl ?_
  refine q_ldcw (pc := 11) C kn_RJ6_266 dJ6_bitCount_0f7a4_11 ?_
  refine q_iand (pc := 14) C dJ6_bitCount_0f7a4_14 ?_
  refine q_iload_n (pc := 15) C 0 rfl dJ6_bitCount_0f7a4_15 rfl ?_
  refine q_iconst (pc := 16) C dJ6_bitCount_0f7a4_16 ci_2 ?_
  refine q_iushr (pc := 17) C dJ6_bitCount_0f7a4_17 ?_
  refine q_ldcw (pc := 18) C kn_RJ6_266 dJ6_bitCount_0f7a4_18 ?_
  refine q_iand (pc := 21) C dJ6_bitCount_0f7a4_21 ?_
  refine q_iadd (pc := 22) C dJ6_bitCount_0f7a4_22 ?_
  refine q_istore_n (pc := 23) C dJ6_bitCount_0f7a4_23 rfl (by decide) rfl ?_
  exact tJ6_bitCount_0f7a4_24 C _ _ _ h
theorem zJ6_bitCount_0f7a4 {G : qG} {l : Launch} {σ : qM} {x0 : Int32} {res : (Int32 × qM)}  (h : fJ6_bitCount_0f7a4 σ x0 = some res) : qCon sC G l yJ6_bitCount_0f7a4 cJ6_bitCount_0f7a4 1 (some .int) 0 [.int x0] σ (some (.int res.1)) res.2 := by
  refine qCon.mkF (lv := [(0, .int x0)]) (plainFor_of_name (by decide)) (Nat.le_of_ble_eq_true rfl) rfl (fun X hX C => ?_)
  unfold fJ6_bitCount_0f7a4 at h
  refine q_iload_n (pc := 0) C 0 rfl dJ6_bitCount_0f7a4_0 rfl ?_
  refine q_iload_n (pc := 1) C 0 rfl dJ6_bitCount_0f7a4_1 rfl ?_
  refine q_iconst (pc := 2) C dJ6_bitCount_0f7a4_2 ci_1 ?_
  refine q_iushr (pc := 3) C dJ6_bitCount_0f7a4_3 ?_
  refine q_ldcw (pc := 4) C kn_RJ6_265 dJ6_bitCount_0f7a4_4 ?_
  refine q_iand (pc := 7) C dJ6_bitCount_0f7a4_7 ?_
  refine q_isub (pc := 8) C dJ6_bitCount_0f7a4_8 ?_
  refine q_istore_n (pc := 9) C dJ6_bitCount_0f7a4_9 rfl (by decide) rfl ?_
  exact tJ6_bitCount_0f7a4_10 C _ _ _ h
/-! X0_fewestLeavesOut -/
theorem tX0_fewestLeavesOut_82 {X : qX} {G : qG} (C : qC sC X G RX0 cX0_fewestLeavesOut 9 2 (some .int)) (k28 : qM → Int32 → Int32 → Int32 → Int32 → Int32 → Int32 → Option (Int32 × qM)) (hk28 : ∀ (σ : qM) (x2 : Int32) (x3 : Int32) (x4 : Int32) (x5 : Int32) (x6 : Int32) (x7 : Int32) (res : (Int32 × qM)), k28 σ x2 x3 x4 x5 x6 x7 = some res → qY sC X G 9 (q_Q sC X G (some (.int res.1)) res.2) σ 28 [(0, .ref (q_ad G 16)), (2, .int x2), (3, .int x3), (4, .int x4), (5, .int x5), (6, .int x6), (7, .int x7)] []) (σ : qM) (x2 : Int32) (x3 : Int32) (x4 : Int32) (x5 : Int32) (x6 : Int32) (x7 : Int32) (res : (Int32 × qM))  (h : fX0_fewestLeavesOut_82 k28 σ x2 x3 x4 x5 x6 x7 = some res) : qY sC X G 9 (q_Q sC X G (some (.int res.1)) res.2) σ 82 [(0, .ref (q_ad G 16)), (2, .int x2), (3, .int x3), (4, .int x4), (5, .int x5), (6, .int x6), (7, .int x7)] [] := by
  unfold fX0_fewestLeavesOut_82 at h
  refine q_inc (pc := 82) C 6 rfl ci_1 dX0_fewestLeavesOut_82 (by decide) rfl ?_
  refine q_goto (pc := 85) C 28 dX0_fewestLeavesOut_85 (by decide) ?_
  refine q_sub [1, 2, 3, 4, 5, 6, 0] rfl ?_
  exact hk28 _ _ _ _ _ _ _ _ h
theorem uX0_fewestLeavesOut_28 {X : qX} {G : qG} (C : qC sC X G RX0 cX0_fewestLeavesOut 9 2 (some .int)) (k28 : qM → Int32 → Int32 → Int32 → Int32 → Int32 → Int32 → Option (Int32 × qM)) (hk28 : ∀ (σ : qM) (x2 : Int32) (x3 : Int32) (x4 : Int32) (x5 : Int32) (x6 : Int32) (x7 : Int32) (res : (Int32 × qM)), k28 σ x2 x3 x4 x5 x6 x7 = some res → qY sC X G 9 (q_Q sC X G (some (.int res.1)) res.2) σ 28 [(0, .ref (q_ad G 16)), (2, .int x2), (3, .int x3), (4, .int x4), (5, .int x5), (6, .int x6), (7, .int x7)] []) (σ : qM) (x2 : Int32) (x3 : Int32) (x4 : Int32) (x5 : Int32) (x6 : Int32) (x7 : Int32) (res : (Int32 × qM))  (h : bX0_fewestLeavesOut_28 k28 σ x2 x3 x4 x5 x6 x7 = some res) : qY sC X G 9 (q_Q sC X G (some (.int res.1)) res.2) σ 28 [(0, .ref (q_ad G 16)), (2, .int x2), (3, .int x3), (4, .int x4), (5, .int x5), (6, .int x6), (7, .int x7)] [] := by
  unfold bX0_fewestLeavesOut_28 at h
  refine q_iload (pc := 28) C 6 rfl dX0_fewestLeavesOut_28 ?_
  refine q_iload (pc := 30) C 3 rfl dX0_fewestLeavesOut_30 ?_
  refine q_ic_gt (pc := 32) C 88 dX0_fewestLeavesOut_32 (by decide) (fun c1 => ?_) (fun c1 => ?_)
  · have h := q_t c1 h
    refine q_iload (pc := 88) C 4 rfl dX0_fewestLeavesOut_88 ?_
    obtain rfl := Option.some.inj h
    exact q_iret (pc := 90) C dX0_fewestLeavesOut_90
  · have h := q_f c1 h
    refine q_iload (pc := 35) C 6 rfl dX0_fewestLeavesOut_35 ?_
    obtain ⟨q2, hq2, h⟩ := q_bind h
    refine q_callS1 (pc := 37) (st := []) C (zJ6_bitCount_0f7a4 hq2) ys_J6_bitCount_0f7a4 ml_RX0_141 rfl (by decide) rfl (Nat.le_of_ble_eq_true rfl) dX0_fewestLeavesOut_37 ?_
    refine q_istore (pc := 40) C dX0_fewestLeavesOut_40 (by decide) rfl ?_
    refine q_iload (pc := 42) C 0 rfl dX0_fewestLeavesOut_42 ?_
    refine q_iload (pc := 44) C 6 rfl dX0_fewestLeavesOut_44 ?_
    refine q_ic_ge (pc := 46) C 82 dX0_fewestLeavesOut_46 (by decide) (fun c3 => ?_) (fun c3 => ?_)
    · have h := q_t c3 h
      refine q_sub [1, 2, 3, 4, 5, 6, 7] rfl ?_
      exact tX0_fewestLeavesOut_82 C k28 hk28 _ _ _ _ _ _ _ _ h
    · have h := q_f c3 h
      refine q_aload_n (pc := 49) C 1 rfl dX0_fewestLeavesOut_49 rfl ?_
      refine q_getR (pc := 50) (t := 40) C fl_RX0_35 kC_16 rfl rC_16_10 dX0_fewestLeavesOut_50 ?_
      refine q_aload_n (pc := 53) C 1 rfl dX0_fewestLeavesOut_53 rfl ?_
      refine q_getR (pc := 54) (t := 41) C fl_RX0_38 kC_16 rfl rC_16_11 dX0_fewestLeavesOut_54 ?_
      refine q_iload (pc := 57) C 4 rfl dX0_fewestLeavesOut_57 ?_
      refine q_iload (pc := 59) C 7 rfl dX0_fewestLeavesOut_59 ?_
      refine q_iconst (pc := 61) C dX0_fewestLeavesOut_61 ci_m1 ?_
      refine q_ixor (pc := 62) C dX0_fewestLeavesOut_62 ?_
      refine q_iand (pc := 63) C dX0_fewestLeavesOut_63 ?_
      obtain ⟨g4, h⟩ := q_guard h
      refine q_iald (pc := 64) C kC_41 lC_41 g4 dX0_fewestLeavesOut_64 ?_
      obtain ⟨g5, h⟩ := q_guard h
      refine q_iald (pc := 65) C kC_40 lC_40 g5 dX0_fewestLeavesOut_65 ?_
      refine q_iload_n (pc := 66) C 2 rfl dX0_fewestLeavesOut_66 rfl ?_
      refine q_iload_n (pc := 67) C 3 rfl dX0_fewestLeavesOut_67 rfl ?_
      refine q_ior (pc := 68) C dX0_fewestLeavesOut_68 ?_
      refine q_iand (pc := 69) C dX0_fewestLeavesOut_69 ?_
      refine q_iload_n (pc := 70) C 2 rfl dX0_fewestLeavesOut_70 rfl ?_
      refine q_ic_ne (pc := 71) C 82 dX0_fewestLeavesOut_71 (by decide) (fun c6 => ?_) (fun c6 => ?_)
      · have h := q_f c6 h
        refine q_sub [1, 2, 3, 4, 5, 6, 7] rfl ?_
        exact tX0_fewestLeavesOut_82 C k28 hk28 _ _ _ _ _ _ _ _ h
      · have h := q_t c6 h
        refine q_iload (pc := 74) C 7 rfl dX0_fewestLeavesOut_74 ?_
        refine q_istore (pc := 76) C dX0_fewestLeavesOut_76 (by decide) rfl ?_
        refine q_iload (pc := 78) C 1 rfl dX0_fewestLeavesOut_78 ?_
        refine q_istore (pc := 80) C dX0_fewestLeavesOut_80 (by decide) rfl ?_
        refine q_sub [3, 4, 5, 6, 1, 0, 7] rfl ?_
        exact tX0_fewestLeavesOut_82 C k28 hk28 _ _ _ _ _ _ _ _ h
theorem tX0_fewestLeavesOut_28 {X : qX} {G : qG} (C : qC sC X G RX0 cX0_fewestLeavesOut 9 2 (some .int))  (σ : qM) (x2 : Int32) (x3 : Int32) (x4 : Int32) (x5 : Int32) (x6 : Int32) (x7 : Int32) (res : (Int32 × qM))  (h : fX0_fewestLeavesOut_28  σ x2 x3 x4 x5 x6 x7 = some res) : qY sC X G 9 (q_Q sC X G (some (.int res.1)) res.2) σ 28 [(0, .ref (q_ad G 16)), (2, .int x2), (3, .int x3), (4, .int x4), (5, .int x5), (6, .int x6), (7, .int x7)] [] := by
  have key : ∀ (n : Nat) (σ : qM) (x2 : Int32) (x3 : Int32) (x4 : Int32) (x5 : Int32) (x6 : Int32) (x7 : Int32) (res : (Int32 × qM)) , qlp (fun _ _ _ _ _ _ _ => none) (bX0_fewestLeavesOut_28 ) n σ x2 x3 x4 x5 x6 x7 = some res → qY sC X G 9 (q_Q sC X G (some (.int res.1)) res.2) σ 28 [(0, .ref (q_ad G 16)), (2, .int x2), (3, .int x3), (4, .int x4), (5, .int x5), (6, .int x6), (7, .int x7)] [] := by
    intro n
    induction n with
    | zero => intro σ x2 x3 x4 x5 x6 x7 res h; cases h
    | succ n ih => intro σ x2 x3 x4 x5 x6 x7 res h; exact uX0_fewestLeavesOut_28 C  (qlp (fun _ _ _ _ _ _ _ => none) (bX0_fewestLeavesOut_28 ) n) (fun σ x2 x3 x4 x5 x6 x7 res h => ih σ x2 x3 x4 x5 x6 x7 res h) σ x2 x3 x4 x5 x6 x7 res h
  exact key qFU σ x2 x3 x4 x5 x6 x7 res h
theorem tX0_fewestLeavesOut_18 {X : qX} {G : qG} (C : qC sC X G RX0 cX0_fewestLeavesOut 9 2 (some .int))  (σ : qM) (x2 : Int32) (x3 : Int32) (x4 : Int32) (res : (Int32 × qM))  (h : fX0_fewestLeavesOut_18  σ x2 x3 x4 = some res) : qY sC X G 9 (q_Q sC X G (some (.int res.1)) res.2) σ 18 [(0, .ref (q_ad G 16)), (2, .int x2), (3, .int x3), (4, .int x4)] [] := by
  unfold fX0_fewestLeavesOut_18 at h
  refine q_iconst (pc := 18) C dX0_fewestLeavesOut_18 ci_m1 ?_
  refine q_istore (pc := 19) C dX0_fewestLeavesOut_19 (by decide) rfl ?_
  refine q_bipush (pc := 21) C dX0_fewestLeavesOut_21 cb_13 ?_
  refine q_istore (pc := 23) C dX0_fewestLeavesOut_23 (by decide) rfl ?_
  refine q_iconst (pc := 25) C dX0_fewestLeavesOut_25 ci_0 ?_
  refine q_istore (pc := 26) C dX0_fewestLeavesOut_26 (by decide) rfl ?_
  refine q_sub [3, 4, 5, 6, 2, 1, 0] rfl ?_
  exact tX0_fewestLeavesOut_28 C _ _ _ _ _ _ _ _ h
theorem zX0_fewestLeavesOut {G : qG} {l : Launch} {σ : qM} {x1 : Int32} {x2 : Int32} {x3 : Int32} {res : (Int32 × qM)}  (h : fX0_fewestLeavesOut σ x1 x2 x3 = some res) : qCon sC G l yX0_fewestLeavesOut cX0_fewestLeavesOut 9 (some .int) 2 [.ref (q_ad G 16), .int x1, .int x2, .int x3] σ (some (.int res.1)) res.2 := by
  refine qCon.mkF (lv := [(0, .ref (q_ad G 16)), (1, .int x1), (2, .int x2), (3, .int x3)]) (plainFor_of_name (by decide)) (Nat.le_of_ble_eq_true rfl) rfl (fun X hX C => ?_)
  unfold fX0_fewestLeavesOut at h
  refine q_aload_n (pc := 0) C 0 rfl dX0_fewestLeavesOut_0 rfl ?_
  refine q_iload_n (pc := 1) C 1 rfl dX0_fewestLeavesOut_1 rfl ?_
  obtain ⟨q1, hq1, h⟩ := q_bind h
  refine q_callV0 (pc := 2) (st := []) C (zX0_fillRulesByLeaves hq1) yi_X0_fillRulesByLeaves ml_RX0_138 kC_16 rfl (by decide) rfl (Nat.le_of_ble_eq_true rfl) dX0_fewestLeavesOut_2 ?_
  refine q_iconst (pc := 5) C dX0_fewestLeavesOut_5 ci_1 ?_
  refine q_aload_n (pc := 6) C 0 rfl dX0_fewestLeavesOut_6 rfl ?_
  refine q_getR (pc := 7) (t := 1) C fl_RX0_52 kC_16 rfl rC_16_0 dX0_fewestLeavesOut_7 ?_
  refine q_getI (pc := 10) C fl_RX0_76 kC_1 rfl dX0_fewestLeavesOut_10 ?_
  refine q_shl (pc := 13) C dX0_fewestLeavesOut_13 ?_
  refine q_iconst (pc := 14) C dX0_fewestLeavesOut_14 ci_1 ?_
  refine q_isub (pc := 15) C dX0_fewestLeavesOut_15 ?_
  refine q_istore (pc := 16) C dX0_fewestLeavesOut_16 (by decide) rfl ?_
  refine q_sub [1, 3, 4, 0] rfl ?_
  exact tX0_fewestLeavesOut_18 C _ _ _ _ _ h
/-! X0_fewestRulesStruck -/
theorem tX0_fewestRulesStruck_68 {X : qX} {G : qG} (C : qC sC X G RX0 cX0_fewestRulesStruck 8 1 (some .int)) (k20 : qM → Int32 → Int32 → Int32 → Int32 → Int32 → Int32 → Option (Int32 × qM)) (hk20 : ∀ (σ : qM) (x1 : Int32) (x2 : Int32) (x3 : Int32) (x4 : Int32) (x5 : Int32) (x6 : Int32) (res : (Int32 × qM)), k20 σ x1 x2 x3 x4 x5 x6 = some res → qY sC X G 8 (q_Q sC X G (some (.int res.1)) res.2) σ 20 [(0, .ref (q_ad G 16)), (1, .int x1), (2, .int x2), (3, .int x3), (4, .int x4), (5, .int x5), (6, .int x6)] []) (σ : qM) (x1 : Int32) (x2 : Int32) (x3 : Int32) (x4 : Int32) (x5 : Int32) (x6 : Int32) (res : (Int32 × qM))  (h : fX0_fewestRulesStruck_68 k20 σ x1 x2 x3 x4 x5 x6 = some res) : qY sC X G 8 (q_Q sC X G (some (.int res.1)) res.2) σ 68 [(0, .ref (q_ad G 16)), (1, .int x1), (2, .int x2), (3, .int x3), (4, .int x4), (5, .int x5), (6, .int x6)] [] := by
  unfold fX0_fewestRulesStruck_68 at h
  refine q_inc (pc := 68) C 6 rfl ci_1 dX0_fewestRulesStruck_68 (by decide) rfl ?_
  refine q_goto (pc := 71) C 20 dX0_fewestRulesStruck_71 (by decide) ?_
  refine q_sub [1, 2, 3, 4, 5, 6, 0] rfl ?_
  exact hk20 _ _ _ _ _ _ _ _ h
theorem uX0_fewestRulesStruck_20 {X : qX} {G : qG} (C : qC sC X G RX0 cX0_fewestRulesStruck 8 1 (some .int)) (k20 : qM → Int32 → Int32 → Int32 → Int32 → Int32 → Int32 → Option (Int32 × qM)) (hk20 : ∀ (σ : qM) (x1 : Int32) (x2 : Int32) (x3 : Int32) (x4 : Int32) (x5 : Int32) (x6 : Int32) (res : (Int32 × qM)), k20 σ x1 x2 x3 x4 x5 x6 = some res → qY sC X G 8 (q_Q sC X G (some (.int res.1)) res.2) σ 20 [(0, .ref (q_ad G 16)), (1, .int x1), (2, .int x2), (3, .int x3), (4, .int x4), (5, .int x5), (6, .int x6)] []) (σ : qM) (x1 : Int32) (x2 : Int32) (x3 : Int32) (x4 : Int32) (x5 : Int32) (x6 : Int32) (res : (Int32 × qM))  (h : bX0_fewestRulesStruck_20 k20 σ x1 x2 x3 x4 x5 x6 = some res) : qY sC X G 8 (q_Q sC X G (some (.int res.1)) res.2) σ 20 [(0, .ref (q_ad G 16)), (1, .int x1), (2, .int x2), (3, .int x3), (4, .int x4), (5, .int x5), (6, .int x6)] [] := by
  unfold bX0_fewestRulesStruck_20 at h
  refine q_iload (pc := 20) C 6 rfl dX0_fewestRulesStruck_20 ?_
  refine q_iload_n (pc := 22) C 3 rfl dX0_fewestRulesStruck_22 rfl ?_
  refine q_ic_ge (pc := 23) C 74 dX0_fewestRulesStruck_23 (by decide) (fun c1 => ?_) (fun c1 => ?_)
  · have h := q_t c1 h
    refine q_iload (pc := 74) C 4 rfl dX0_fewestRulesStruck_74 ?_
    obtain rfl := Option.some.inj h
    exact q_iret (pc := 76) C dX0_fewestRulesStruck_76
  · have h := q_f c1 h
    refine q_iload (pc := 26) C 6 rfl dX0_fewestRulesStruck_26 ?_
    obtain ⟨q2, hq2, h⟩ := q_bind h
    refine q_callS1 (pc := 28) (st := []) C (zJ6_bitCount_0f7a4 hq2) ys_J6_bitCount_0f7a4 ml_RX0_141 rfl (by decide) rfl (Nat.le_of_ble_eq_true rfl) dX0_fewestRulesStruck_28 ?_
    refine q_istore (pc := 31) C dX0_fewestRulesStruck_31 (by decide) rfl ?_
    refine q_iload (pc := 33) C 0 rfl dX0_fewestRulesStruck_33 ?_
    refine q_iload (pc := 35) C 6 rfl dX0_fewestRulesStruck_35 ?_
    refine q_ic_ge (pc := 37) C 68 dX0_fewestRulesStruck_37 (by decide) (fun c3 => ?_) (fun c3 => ?_)
    · have h := q_t c3 h
      refine q_sub [1, 2, 3, 4, 5, 6, 7] rfl ?_
      exact tX0_fewestRulesStruck_68 C k20 hk20 _ _ _ _ _ _ _ _ h
    · have h := q_f c3 h
      refine q_aload_n (pc := 40) C 1 rfl dX0_fewestRulesStruck_40 rfl ?_
      refine q_getR (pc := 41) (t := 40) C fl_RX0_35 kC_16 rfl rC_16_10 dX0_fewestRulesStruck_41 ?_
      refine q_aload_n (pc := 44) C 1 rfl dX0_fewestRulesStruck_44 rfl ?_
      refine q_getR (pc := 45) (t := 28) C fl_RX0_23 kC_16 rfl rC_16_6 dX0_fewestRulesStruck_45 ?_
      refine q_iload_n (pc := 48) C 2 rfl dX0_fewestRulesStruck_48 rfl ?_
      obtain ⟨g4, h⟩ := q_guard h
      refine q_iald (pc := 49) C kC_28 lC_28 g4 dX0_fewestRulesStruck_49 ?_
      refine q_iload (pc := 50) C 7 rfl dX0_fewestRulesStruck_50 ?_
      refine q_iconst (pc := 52) C dX0_fewestRulesStruck_52 ci_m1 ?_
      refine q_ixor (pc := 53) C dX0_fewestRulesStruck_53 ?_
      refine q_iand (pc := 54) C dX0_fewestRulesStruck_54 ?_
      obtain ⟨g5, h⟩ := q_guard h
      refine q_iald (pc := 55) C kC_40 lC_40 g5 dX0_fewestRulesStruck_55 ?_
      refine q_iload_n (pc := 56) C 3 rfl dX0_fewestRulesStruck_56 rfl ?_
      refine q_ic_ne (pc := 57) C 68 dX0_fewestRulesStruck_57 (by decide) (fun c6 => ?_) (fun c6 => ?_)
      · have h := q_f c6 h
        refine q_sub [1, 2, 3, 4, 5, 6, 7] rfl ?_
        exact tX0_fewestRulesStruck_68 C k20 hk20 _ _ _ _ _ _ _ _ h
      · have h := q_t c6 h
        refine q_iload (pc := 60) C 7 rfl dX0_fewestRulesStruck_60 ?_
        refine q_istore (pc := 62) C dX0_fewestRulesStruck_62 (by decide) rfl ?_
        refine q_iload (pc := 64) C 1 rfl dX0_fewestRulesStruck_64 ?_
        refine q_istore (pc := 66) C dX0_fewestRulesStruck_66 (by decide) rfl ?_
        refine q_sub [3, 4, 5, 6, 1, 0, 7] rfl ?_
        exact tX0_fewestRulesStruck_68 C k20 hk20 _ _ _ _ _ _ _ _ h
theorem tX0_fewestRulesStruck_20 {X : qX} {G : qG} (C : qC sC X G RX0 cX0_fewestRulesStruck 8 1 (some .int))  (σ : qM) (x1 : Int32) (x2 : Int32) (x3 : Int32) (x4 : Int32) (x5 : Int32) (x6 : Int32) (res : (Int32 × qM))  (h : fX0_fewestRulesStruck_20  σ x1 x2 x3 x4 x5 x6 = some res) : qY sC X G 8 (q_Q sC X G (some (.int res.1)) res.2) σ 20 [(0, .ref (q_ad G 16)), (1, .int x1), (2, .int x2), (3, .int x3), (4, .int x4), (5, .int x5), (6, .int x6)] [] := by
  have key : ∀ (n : Nat) (σ : qM) (x1 : Int32) (x2 : Int32) (x3 : Int32) (x4 : Int32) (x5 : Int32) (x6 : Int32) (res : (Int32 × qM)) , qlp (fun _ _ _ _ _ _ _ => none) (bX0_fewestRulesStruck_20 ) n σ x1 x2 x3 x4 x5 x6 = some res → qY sC X G 8 (q_Q sC X G (some (.int res.1)) res.2) σ 20 [(0, .ref (q_ad G 16)), (1, .int x1), (2, .int x2), (3, .int x3), (4, .int x4), (5, .int x5), (6, .int x6)] [] := by
    intro n
    induction n with
    | zero => intro σ x1 x2 x3 x4 x5 x6 res h; cases h
    | succ n ih => intro σ x1 x2 x3 x4 x5 x6 res h; exact uX0_fewestRulesStruck_20 C  (qlp (fun _ _ _ _ _ _ _ => none) (bX0_fewestRulesStruck_20 ) n) (fun σ x1 x2 x3 x4 x5 x6 res h => ih σ x1 x2 x3 x4 x5 x6 res h) σ x1 x2 x3 x4 x5 x6 res h
  exact key qFU σ x1 x2 x3 x4 x5 x6 res h
theorem zX0_fewestRulesStruck {G : qG} {l : Launch} {σ : qM} {x1 : Int32} {x2 : Int32} {res : (Int32 × qM)}  (h : fX0_fewestRulesStruck σ x1 x2 = some res) : qCon sC G l yX0_fewestRulesStruck cX0_fewestRulesStruck 8 (some .int) 1 [.ref (q_ad G 16), .int x1, .int x2] σ (some (.int res.1)) res.2 := by
  refine qCon.mkF (lv := [(0, .ref (q_ad G 16)), (1, .int x1), (2, .int x2)]) (plainFor_of_name (by decide)) (Nat.le_of_ble_eq_true rfl) rfl (fun X hX C => ?_)
  unfold fX0_fewestRulesStruck at h
  refine q_iconst (pc := 0) C dX0_fewestRulesStruck_0 ci_1 ?_
  refine q_aload_n (pc := 1) C 0 rfl dX0_fewestRulesStruck_1 rfl ?_
  refine q_getR (pc := 2) (t := 4) C fl_RX0_56 kC_16 rfl rC_16_1 dX0_fewestRulesStruck_2 ?_
  refine q_getI (pc := 5) C fl_RX0_76 kC_4 rfl dX0_fewestRulesStruck_5 ?_
  refine q_shl (pc := 8) C dX0_fewestRulesStruck_8 ?_
  refine q_istore_n (pc := 9) C dX0_fewestRulesStruck_9 rfl (by decide) rfl ?_
  refine q_iconst (pc := 10) C dX0_fewestRulesStruck_10 ci_m1 ?_
  refine q_istore (pc := 11) C dX0_fewestRulesStruck_11 (by decide) rfl ?_
  refine q_bipush (pc := 13) C dX0_fewestRulesStruck_13 cb_11 ?_
  refine q_istore (pc := 15) C dX0_fewestRulesStruck_15 (by decide) rfl ?_
  refine q_iconst (pc := 17) C dX0_fewestRulesStruck_17 ci_0 ?_
  refine q_istore (pc := 18) C dX0_fewestRulesStruck_18 (by decide) rfl ?_
  refine q_sub [4, 5, 6, 3, 2, 1, 0] rfl ?_
  exact tX0_fewestRulesStruck_20 C _ _ _ _ _ _ _ _ h
/-! X0_changes -/
theorem tX0_changes_83 {X : qX} {G : qG} (C : qC sC X G RX0 cX0_changes 8 2 (some .boolean)) (k24 : qM → Int32 → Int32 → Int32 → Int32 → Int32 → Int32 → Int32 → Option (Int32 × qM)) (hk24 : ∀ (σ : qM) (x1 : Int32) (x2 : Int32) (x3 : Int32) (x4 : Int32) (x5 : Int32) (x6 : Int32) (x7 : Int32) (res : (Int32 × qM)), k24 σ x1 x2 x3 x4 x5 x6 x7 = some res → qY sC X G 8 (q_Q sC X G (some (.int res.1)) res.2) σ 24 [(0, .ref (q_ad G 16)), (1, .int x1), (2, .int x2), (3, .int x3), (4, .int x4), (5, .int x5), (6, .int x6), (7, .int x7)] []) (σ : qM) (x1 : Int32) (x2 : Int32) (x3 : Int32) (x4 : Int32) (x5 : Int32) (x6 : Int32) (x7 : Int32) (res : (Int32 × qM))  (h : fX0_changes_83 k24 σ x1 x2 x3 x4 x5 x6 x7 = some res) : qY sC X G 8 (q_Q sC X G (some (.int res.1)) res.2) σ 83 [(0, .ref (q_ad G 16)), (1, .int x1), (2, .int x2), (3, .int x3), (4, .int x4), (5, .int x5), (6, .int x6), (7, .int x7)] [] := by
  unfold fX0_changes_83 at h
  refine q_inc (pc := 83) C 7 rfl ci_1 dX0_changes_83 (by decide) rfl ?_
  refine q_goto (pc := 86) C 24 dX0_changes_86 (by decide) ?_
  refine q_sub [1, 2, 3, 4, 5, 6, 7, 0] rfl ?_
  exact hk24 _ _ _ _ _ _ _ _ _ h
theorem tX0_changes_66 {X : qX} {G : qG} (C : qC sC X G RX0 cX0_changes 8 2 (some .boolean)) (k24 : qM → Int32 → Int32 → Int32 → Int32 → Int32 → Int32 → Int32 → Option (Int32 × qM)) (hk24 : ∀ (σ : qM) (x1 : Int32) (x2 : Int32) (x3 : Int32) (x4 : Int32) (x5 : Int32) (x6 : Int32) (x7 : Int32) (res : (Int32 × qM)), k24 σ x1 x2 x3 x4 x5 x6 x7 = some res → qY sC X G 8 (q_Q sC X G (some (.int res.1)) res.2) σ 24 [(0, .ref (q_ad G 16)), (1, .int x1), (2, .int x2), (3, .int x3), (4, .int x4), (5, .int x5), (6, .int x6), (7, .int x7)] []) (σ : qM) (x1 : Int32) (x2 : Int32) (x3 : Int32) (x4 : Int32) (x5 : Int32) (x6 : Int32) (x7 : Int32) (res : (Int32 × qM))  (h : fX0_changes_66 k24 σ x1 x2 x3 x4 x5 x6 x7 = some res) : qY sC X G 8 (q_Q sC X G (some (.int res.1)) res.2) σ 66 [(0, .ref (q_ad G 16)), (1, .int x1), (2, .int x2), (3, .int x3), (4, .int x4), (5, .int x5), (6, .int x6), (7, .int x7)] [] := by
  unfold fX0_changes_66 at h
  refine q_iload (pc := 66) C 6 rfl dX0_changes_66 ?_
  refine q_aload_n (pc := 68) C 0 rfl dX0_changes_68 rfl ?_
  refine q_iload_n (pc := 69) C 1 rfl dX0_changes_69 rfl ?_
  refine q_iload (pc := 70) C 7 rfl dX0_changes_70 ?_
  refine q_iload_n (pc := 72) C 3 rfl dX0_changes_72 rfl ?_
  refine q_iload (pc := 73) C 4 rfl dX0_changes_73 ?_
  refine q_iload (pc := 75) C 5 rfl dX0_changes_75 ?_
  obtain ⟨q1, hq1, h⟩ := q_bind h
  refine q_callV1 (pc := 77) (st := [.int x6]) C (zX0_madeWith hq1) yi_X0_madeWith ml_RX0_103 kC_16 rfl (by decide) rfl (Nat.le_of_ble_eq_true rfl) dX0_changes_77 ?_
  refine q_ior (pc := 80) C dX0_changes_80 ?_
  refine q_istore (pc := 81) C dX0_changes_81 (by decide) rfl ?_
  refine q_sub [1, 2, 3, 4, 5, 6, 0, 7] rfl ?_
  exact tX0_changes_83 C k24 hk24 _ _ _ _ _ _ _ _ _ h
theorem uX0_changes_24 {X : qX} {G : qG} (C : qC sC X G RX0 cX0_changes 8 2 (some .boolean)) (k24 : qM → Int32 → Int32 → Int32 → Int32 → Int32 → Int32 → Int32 → Option (Int32 × qM)) (hk24 : ∀ (σ : qM) (x1 : Int32) (x2 : Int32) (x3 : Int32) (x4 : Int32) (x5 : Int32) (x6 : Int32) (x7 : Int32) (res : (Int32 × qM)), k24 σ x1 x2 x3 x4 x5 x6 x7 = some res → qY sC X G 8 (q_Q sC X G (some (.int res.1)) res.2) σ 24 [(0, .ref (q_ad G 16)), (1, .int x1), (2, .int x2), (3, .int x3), (4, .int x4), (5, .int x5), (6, .int x6), (7, .int x7)] []) (σ : qM) (x1 : Int32) (x2 : Int32) (x3 : Int32) (x4 : Int32) (x5 : Int32) (x6 : Int32) (x7 : Int32) (res : (Int32 × qM))  (h : bX0_changes_24 k24 σ x1 x2 x3 x4 x5 x6 x7 = some res) : qY sC X G 8 (q_Q sC X G (some (.int res.1)) res.2) σ 24 [(0, .ref (q_ad G 16)), (1, .int x1), (2, .int x2), (3, .int x3), (4, .int x4), (5, .int x5), (6, .int x6), (7, .int x7)] [] := by
  unfold bX0_changes_24 at h
  refine q_iload (pc := 24) C 7 rfl dX0_changes_24 ?_
  refine q_aload_n (pc := 26) C 0 rfl dX0_changes_26 rfl ?_
  refine q_getR (pc := 27) (t := 1) C fl_RX0_52 kC_16 rfl rC_16_0 dX0_changes_27 ?_
  refine q_getI (pc := 30) C fl_RX0_76 kC_1 rfl dX0_changes_30 ?_
  refine q_ic_ge (pc := 33) C 89 dX0_changes_33 (by decide) (fun c1 => ?_) (fun c1 => ?_)
  · have h := q_t c1 h
    refine q_aload_n (pc := 89) C 0 rfl dX0_changes_89 rfl ?_
    refine q_getR (pc := 90) (t := 40) C fl_RX0_35 kC_16 rfl rC_16_10 dX0_changes_90 ?_
    refine q_iload (pc := 93) C 6 rfl dX0_changes_93 ?_
    obtain ⟨g2, h⟩ := q_guard h
    refine q_iald (pc := 95) C kC_40 lC_40 g2 dX0_changes_95 ?_
    refine q_aload_n (pc := 96) C 0 rfl dX0_changes_96 rfl ?_
    refine q_getR (pc := 97) (t := 29) C fl_RX0_26 kC_16 rfl rC_16_7 dX0_changes_97 ?_
    refine q_iload_n (pc := 100) C 1 rfl dX0_changes_100 rfl ?_
    obtain ⟨g3, h⟩ := q_guard h
    refine q_iald (pc := 101) C kC_29 lC_29 g3 dX0_changes_101 ?_
    refine q_ixor (pc := 102) C dX0_changes_102 ?_
    refine q_iload_n (pc := 103) C 2 rfl dX0_changes_103 rfl ?_
    refine q_shr (pc := 104) C dX0_changes_104 ?_
    refine q_iconst (pc := 105) C dX0_changes_105 ci_1 ?_
    refine q_iand (pc := 106) C dX0_changes_106 ?_
    refine q_iconst (pc := 107) C dX0_changes_107 ci_1 ?_
    refine q_ic_ne (pc := 108) C 115 dX0_changes_108 (by decide) (fun c4 => ?_) (fun c4 => ?_)
    · have h := q_f c4 h
      refine q_iconst (pc := 115) C dX0_changes_115 ci_0 ?_
      obtain rfl := Option.some.inj h
      exact q_zret (pc := 116) C (Or.inl rfl) dX0_changes_116
    · have h := q_t c4 h
      refine q_iconst (pc := 111) C dX0_changes_111 ci_1 ?_
      refine q_goto (pc := 112) C 116 dX0_changes_112 (by decide) ?_
      obtain rfl := Option.some.inj h
      exact q_zret (pc := 116) C (Or.inr rfl) dX0_changes_116
  · have h := q_f c1 h
    refine q_aload_n (pc := 36) C 0 rfl dX0_changes_36 rfl ?_
    refine q_getR (pc := 37) (t := 17) C fl_RX0_11 kC_16 rfl rC_16_3 dX0_changes_37 ?_
    refine q_iload_n (pc := 40) C 1 rfl dX0_changes_40 rfl ?_
    obtain ⟨g5, h⟩ := q_guard h
    refine q_aald (pc := 41) (t := (18 + x1.toNatClampNeg)) C (Or.inl kC_17) lC_17 g5 (rR_17 _) dX0_changes_41 ?_
    refine q_iload (pc := 42) C 7 rfl dX0_changes_42 ?_
    obtain ⟨g6, h⟩ := q_guard h
    refine q_iald (pc := 44) C (kR_17 g5) (lR_17 g5) g6 dX0_changes_44 ?_
    refine q_iload (pc := 45) C 4 rfl dX0_changes_45 ?_
    refine q_ic_ne (pc := 47) C 66 dX0_changes_47 (by decide) (fun c7 => ?_) (fun c7 => ?_)
    · have h := q_f c7 h
      exact tX0_changes_66 C k24 hk24 _ _ _ _ _ _ _ _ _ h
    · have h := q_t c7 h
      refine q_aload_n (pc := 50) C 0 rfl dX0_changes_50 rfl ?_
      refine q_getR (pc := 51) (t := 22) C fl_RX0_16 kC_16 rfl rC_16_4 dX0_changes_51 ?_
      refine q_iload_n (pc := 54) C 1 rfl dX0_changes_54 rfl ?_
      obtain ⟨g8, h⟩ := q_guard h
      refine q_aald (pc := 55) (t := (23 + x1.toNatClampNeg)) C (Or.inl kC_22) lC_22 g8 (rR_22 _) dX0_changes_55 ?_
      refine q_iload (pc := 56) C 7 rfl dX0_changes_56 ?_
      obtain ⟨g9, h⟩ := q_guard h
      refine q_iald (pc := 58) C (kR_22 g8) (lR_22 g8) g9 dX0_changes_58 ?_
      refine q_iload (pc := 59) C 5 rfl dX0_changes_59 ?_
      refine q_ic_ne (pc := 61) C 66 dX0_changes_61 (by decide) (fun c10 => ?_) (fun c10 => ?_)
      · have h := q_f c10 h
        exact tX0_changes_66 C k24 hk24 _ _ _ _ _ _ _ _ _ h
      · have h := q_t c10 h
        refine q_iconst (pc := 64) C dX0_changes_64 ci_0 ?_
        obtain rfl := Option.some.inj h
        exact q_zret (pc := 65) C (Or.inl rfl) dX0_changes_65
theorem tX0_changes_24 {X : qX} {G : qG} (C : qC sC X G RX0 cX0_changes 8 2 (some .boolean))  (σ : qM) (x1 : Int32) (x2 : Int32) (x3 : Int32) (x4 : Int32) (x5 : Int32) (x6 : Int32) (x7 : Int32) (res : (Int32 × qM))  (h : fX0_changes_24  σ x1 x2 x3 x4 x5 x6 x7 = some res) : qY sC X G 8 (q_Q sC X G (some (.int res.1)) res.2) σ 24 [(0, .ref (q_ad G 16)), (1, .int x1), (2, .int x2), (3, .int x3), (4, .int x4), (5, .int x5), (6, .int x6), (7, .int x7)] [] := by
  have key : ∀ (n : Nat) (σ : qM) (x1 : Int32) (x2 : Int32) (x3 : Int32) (x4 : Int32) (x5 : Int32) (x6 : Int32) (x7 : Int32) (res : (Int32 × qM)) , qlp (fun _ _ _ _ _ _ _ _ => none) (bX0_changes_24 ) n σ x1 x2 x3 x4 x5 x6 x7 = some res → qY sC X G 8 (q_Q sC X G (some (.int res.1)) res.2) σ 24 [(0, .ref (q_ad G 16)), (1, .int x1), (2, .int x2), (3, .int x3), (4, .int x4), (5, .int x5), (6, .int x6), (7, .int x7)] [] := by
    intro n
    induction n with
    | zero => intro σ x1 x2 x3 x4 x5 x6 x7 res h; cases h
    | succ n ih => intro σ x1 x2 x3 x4 x5 x6 x7 res h; exact uX0_changes_24 C  (qlp (fun _ _ _ _ _ _ _ _ => none) (bX0_changes_24 ) n) (fun σ x1 x2 x3 x4 x5 x6 x7 res h => ih σ x1 x2 x3 x4 x5 x6 x7 res h) σ x1 x2 x3 x4 x5 x6 x7 res h
  exact key qFU σ x1 x2 x3 x4 x5 x6 x7 res h
theorem tX0_changes_21 {X : qX} {G : qG} (C : qC sC X G RX0 cX0_changes 8 2 (some .boolean))  (σ : qM) (x1 : Int32) (x2 : Int32) (x3 : Int32) (x4 : Int32) (x5 : Int32) (x6 : Int32) (res : (Int32 × qM))  (h : fX0_changes_21  σ x1 x2 x3 x4 x5 x6 = some res) : qY sC X G 8 (q_Q sC X G (some (.int res.1)) res.2) σ 21 [(0, .ref (q_ad G 16)), (1, .int x1), (2, .int x2), (3, .int x3), (4, .int x4), (5, .int x5), (6, .int x6)] [] := by
  unfold fX0_changes_21 at h
  refine q_iconst (pc := 21) C dX0_changes_21 ci_0 ?_
  refine q_istore (pc := 22) C dX0_changes_22 (by decide) rfl ?_
  refine q_sub [1, 2, 3, 4, 5, 6, 7, 0] rfl ?_
  exact tX0_changes_24 C _ _ _ _ _ _ _ _ _ h
theorem zX0_changes {G : qG} {l : Launch} {σ : qM} {x1 : Int32} {x2 : Int32} {x3 : Int32} {x4 : Int32} {x5 : Int32} {res : (Int32 × qM)}  (h : fX0_changes σ x1 x2 x3 x4 x5 = some res) : qCon sC G l yX0_changes cX0_changes 8 (some .boolean) 2 [.ref (q_ad G 16), .int x1, .int x2, .int x3, .int x4, .int x5] σ (some (.int res.1)) res.2 := by
  refine qCon.mkF (lv := [(0, .ref (q_ad G 16)), (1, .int x1), (2, .int x2), (3, .int x3), (4, .int x4), (5, .int x5)]) (plainFor_of_name (by decide)) (Nat.le_of_ble_eq_true rfl) rfl (fun X hX C => ?_)
  unfold fX0_changes at h
  refine q_aload_n (pc := 0) C 0 rfl dX0_changes_0 rfl ?_
  refine q_iload (pc := 1) C 4 rfl dX0_changes_1 ?_
  refine q_iload (pc := 3) C 5 rfl dX0_changes_3 ?_
  obtain ⟨q1, hq1, h⟩ := q_bind h
  refine q_callV1 (pc := 5) (st := []) C (zX0_isCracked hq1) yi_X0_isCracked ml_RX0_85 kC_16 rfl (by decide) rfl (Nat.le_of_ble_eq_true rfl) dX0_changes_5 ?_
  refine q_if_eq (pc := 8) C 13 dX0_changes_8 (by decide) (fun c2 => ?_) (fun c2 => ?_)
  · have h := q_t c2 h
    refine q_aload_n (pc := 13) C 0 rfl dX0_changes_13 rfl ?_
    refine q_getR (pc := 14) (t := 28) C fl_RX0_23 kC_16 rfl rC_16_6 dX0_changes_14 ?_
    refine q_iload_n (pc := 17) C 1 rfl dX0_changes_17 rfl ?_
    obtain ⟨g3, h⟩ := q_guard h
    refine q_iald (pc := 18) C kC_28 lC_28 g3 dX0_changes_18 ?_
    refine q_istore (pc := 19) C dX0_changes_19 (by decide) rfl ?_
    refine q_sub [1, 2, 3, 4, 5, 6, 0] rfl ?_
    exact tX0_changes_21 C _ _ _ _ _ _ _ _ h
  · have h := q_f c2 h
    refine q_iconst (pc := 11) C dX0_changes_11 ci_0 ?_
    obtain rfl := Option.some.inj h
    exact q_zret (pc := 12) C (Or.inl rfl) dX0_changes_12
/-! X0_leastLeafThatChanges -/
theorem uX0_leastLeafThatChanges_20 {X : qX} {G : qG} (C : qC sC X G RX0 cX0_leastLeafThatChanges 6 3 (some .int)) (k2 : qM → Int32 → Int32 → Int32 → Option (Int32 × qM)) (hk2 : ∀ (σ : qM) (x1 : Int32) (x2 : Int32) (x3 : Int32) (res : (Int32 × qM)), k2 σ x1 x2 x3 = some res → qY sC X G 6 (q_Q sC X G (some (.int res.1)) res.2) σ 2 [(0, .ref (q_ad G 16)), (1, .int x1), (2, .int x2), (3, .int x3)] []) (k10 : qM → Int32 → Int32 → Int32 → Int32 → Option (Int32 × qM)) (hk10 : ∀ (σ : qM) (x1 : Int32) (x2 : Int32) (x3 : Int32) (x4 : Int32) (res : (Int32 × qM)), k10 σ x1 x2 x3 x4 = some res → qY sC X G 6 (q_Q sC X G (some (.int res.1)) res.2) σ 10 [(0, .ref (q_ad G 16)), (1, .int x1), (2, .int x2), (3, .int x3), (4, .int x4)] []) (k20 : qM → Int32 → Int32 → Int32 → Int32 → Int32 → Option (Int32 × qM)) (hk20 : ∀ (σ : qM) (x1 : Int32) (x2 : Int32) (x3 : Int32) (x4 : Int32) (x5 : Int32) (res : (Int32 × qM)), k20 σ x1 x2 x3 x4 x5 = some res → qY sC X G 6 (q_Q sC X G (some (.int res.1)) res.2) σ 20 [(0, .ref (q_ad G 16)), (1, .int x1), (2, .int x2), (3, .int x3), (4, .int x4), (5, .int x5)] []) (σ : qM) (x1 : Int32) (x2 : Int32) (x3 : Int32) (x4 : Int32) (x5 : Int32) (res : (Int32 × qM))  (h : bX0_leastLeafThatChanges_20 k2 k10 k20 σ x1 x2 x3 x4 x5 = some res) : qY sC X G 6 (q_Q sC X G (some (.int res.1)) res.2) σ 20 [(0, .ref (q_ad G 16)), (1, .int x1), (2, .int x2), (3, .int x3), (4, .int x4), (5, .int x5)] [] := by
  unfold bX0_leastLeafThatChanges_20 at h
  refine q_iload (pc := 20) C 5 rfl dX0_leastLeafThatChanges_20 ?_
  refine q_bipush (pc := 22) C dX0_leastLeafThatChanges_22 cb_6 ?_
  refine q_ic_ge (pc := 24) C 61 dX0_leastLeafThatChanges_24 (by decide) (fun c1 => ?_) (fun c1 => ?_)
  · have h := q_t c1 h
    refine q_inc (pc := 61) C 4 rfl ci_1 dX0_leastLeafThatChanges_61 (by decide) rfl ?_
    refine q_goto (pc := 64) C 10 dX0_leastLeafThatChanges_64 (by decide) ?_
    refine q_sub [1, 2, 3, 4, 0] rfl ?_
    exact hk10 _ _ _ _ _ _ h
  · have h := q_f c1 h
    refine q_aload_n (pc := 27) C 0 rfl dX0_leastLeafThatChanges_27 rfl ?_
    refine q_iload_n (pc := 28) C 1 rfl dX0_leastLeafThatChanges_28 rfl ?_
    refine q_iload_n (pc := 29) C 2 rfl dX0_leastLeafThatChanges_29 rfl ?_
    refine q_iload_n (pc := 30) C 3 rfl dX0_leastLeafThatChanges_30 rfl ?_
    refine q_iload (pc := 31) C 5 rfl dX0_leastLeafThatChanges_31 ?_
    refine q_iload (pc := 33) C 4 rfl dX0_leastLeafThatChanges_33 ?_
    obtain ⟨q2, hq2, h⟩ := q_bind h
    refine q_callV1 (pc := 35) (st := []) C (zX0_changes hq2) yi_X0_changes ml_RX0_144 kC_16 rfl (by decide) rfl (Nat.le_of_ble_eq_true rfl) dX0_leastLeafThatChanges_35 ?_
    refine q_if_eq (pc := 38) C 55 dX0_leastLeafThatChanges_38 (by decide) (fun c3 => ?_) (fun c3 => ?_)
    · have h := q_t c3 h
      refine q_inc (pc := 55) C 5 rfl ci_1 dX0_leastLeafThatChanges_55 (by decide) rfl ?_
      refine q_goto (pc := 58) C 20 dX0_leastLeafThatChanges_58 (by decide) ?_
      refine q_sub [1, 2, 3, 4, 5, 0] rfl ?_
      exact hk20 _ _ _ _ _ _ _ h
    · have h := q_f c3 h
      refine q_bipush (pc := 41) C dX0_leastLeafThatChanges_41 cb_36 ?_
      refine q_iload_n (pc := 43) C 3 rfl dX0_leastLeafThatChanges_43 rfl ?_
      refine q_imul (pc := 44) C dX0_leastLeafThatChanges_44 ?_
      refine q_bipush (pc := 45) C dX0_leastLeafThatChanges_45 cb_6 ?_
      refine q_iload (pc := 47) C 4 rfl dX0_leastLeafThatChanges_47 ?_
      refine q_imul (pc := 49) C dX0_leastLeafThatChanges_49 ?_
      refine q_iadd (pc := 50) C dX0_leastLeafThatChanges_50 ?_
      refine q_iload (pc := 51) C 5 rfl dX0_leastLeafThatChanges_51 ?_
      refine q_iadd (pc := 53) C dX0_leastLeafThatChanges_53 ?_
      obtain rfl := Option.some.inj h
      exact q_iret (pc := 54) C dX0_leastLeafThatChanges_54
theorem tX0_leastLeafThatChanges_20 {X : qX} {G : qG} (C : qC sC X G RX0 cX0_leastLeafThatChanges 6 3 (some .int)) (k2 : qM → Int32 → Int32 → Int32 → Option (Int32 × qM)) (hk2 : ∀ (σ : qM) (x1 : Int32) (x2 : Int32) (x3 : Int32) (res : (Int32 × qM)), k2 σ x1 x2 x3 = some res → qY sC X G 6 (q_Q sC X G (some (.int res.1)) res.2) σ 2 [(0, .ref (q_ad G 16)), (1, .int x1), (2, .int x2), (3, .int x3)] []) (k10 : qM → Int32 → Int32 → Int32 → Int32 → Option (Int32 × qM)) (hk10 : ∀ (σ : qM) (x1 : Int32) (x2 : Int32) (x3 : Int32) (x4 : Int32) (res : (Int32 × qM)), k10 σ x1 x2 x3 x4 = some res → qY sC X G 6 (q_Q sC X G (some (.int res.1)) res.2) σ 10 [(0, .ref (q_ad G 16)), (1, .int x1), (2, .int x2), (3, .int x3), (4, .int x4)] []) (σ : qM) (x1 : Int32) (x2 : Int32) (x3 : Int32) (x4 : Int32) (x5 : Int32) (res : (Int32 × qM))  (h : fX0_leastLeafThatChanges_20 k2 k10 σ x1 x2 x3 x4 x5 = some res) : qY sC X G 6 (q_Q sC X G (some (.int res.1)) res.2) σ 20 [(0, .ref (q_ad G 16)), (1, .int x1), (2, .int x2), (3, .int x3), (4, .int x4), (5, .int x5)] [] := by
  have key : ∀ (n : Nat) (σ : qM) (x1 : Int32) (x2 : Int32) (x3 : Int32) (x4 : Int32) (x5 : Int32) (res : (Int32 × qM)) , qlp (fun _ _ _ _ _ _ => none) (bX0_leastLeafThatChanges_20 k2 k10) n σ x1 x2 x3 x4 x5 = some res → qY sC X G 6 (q_Q sC X G (some (.int res.1)) res.2) σ 20 [(0, .ref (q_ad G 16)), (1, .int x1), (2, .int x2), (3, .int x3), (4, .int x4), (5, .int x5)] [] := by
    intro n
    induction n with
    | zero => intro σ x1 x2 x3 x4 x5 res h; cases h
    | succ n ih => intro σ x1 x2 x3 x4 x5 res h; exact uX0_leastLeafThatChanges_20 C k2 hk2 k10 hk10 (qlp (fun _ _ _ _ _ _ => none) (bX0_leastLeafThatChanges_20 k2 k10) n) (fun σ x1 x2 x3 x4 x5 res h => ih σ x1 x2 x3 x4 x5 res h) σ x1 x2 x3 x4 x5 res h
  exact key qFU σ x1 x2 x3 x4 x5 res h
theorem uX0_leastLeafThatChanges_10 {X : qX} {G : qG} (C : qC sC X G RX0 cX0_leastLeafThatChanges 6 3 (some .int)) (k2 : qM → Int32 → Int32 → Int32 → Option (Int32 × qM)) (hk2 : ∀ (σ : qM) (x1 : Int32) (x2 : Int32) (x3 : Int32) (res : (Int32 × qM)), k2 σ x1 x2 x3 = some res → qY sC X G 6 (q_Q sC X G (some (.int res.1)) res.2) σ 2 [(0, .ref (q_ad G 16)), (1, .int x1), (2, .int x2), (3, .int x3)] []) (k10 : qM → Int32 → Int32 → Int32 → Int32 → Option (Int32 × qM)) (hk10 : ∀ (σ : qM) (x1 : Int32) (x2 : Int32) (x3 : Int32) (x4 : Int32) (res : (Int32 × qM)), k10 σ x1 x2 x3 x4 = some res → qY sC X G 6 (q_Q sC X G (some (.int res.1)) res.2) σ 10 [(0, .ref (q_ad G 16)), (1, .int x1), (2, .int x2), (3, .int x3), (4, .int x4)] []) (σ : qM) (x1 : Int32) (x2 : Int32) (x3 : Int32) (x4 : Int32) (res : (Int32 × qM))  (h : bX0_leastLeafThatChanges_10 k2 k10 σ x1 x2 x3 x4 = some res) : qY sC X G 6 (q_Q sC X G (some (.int res.1)) res.2) σ 10 [(0, .ref (q_ad G 16)), (1, .int x1), (2, .int x2), (3, .int x3), (4, .int x4)] [] := by
  unfold bX0_leastLeafThatChanges_10 at h
  refine q_iload (pc := 10) C 4 rfl dX0_leastLeafThatChanges_10 ?_
  refine q_bipush (pc := 12) C dX0_leastLeafThatChanges_12 cb_6 ?_
  refine q_ic_ge (pc := 14) C 67 dX0_leastLeafThatChanges_14 (by decide) (fun c1 => ?_) (fun c1 => ?_)
  · have h := q_t c1 h
    refine q_inc (pc := 67) C 3 rfl ci_1 dX0_leastLeafThatChanges_67 (by decide) rfl ?_
    refine q_goto (pc := 70) C 2 dX0_leastLeafThatChanges_70 (by decide) ?_
    refine q_sub [1, 2, 3, 0] rfl ?_
    exact hk2 _ _ _ _ _ h
  · have h := q_f c1 h
    refine q_iconst (pc := 17) C dX0_leastLeafThatChanges_17 ci_0 ?_
    refine q_istore (pc := 18) C dX0_leastLeafThatChanges_18 (by decide) rfl ?_
    refine q_sub [1, 2, 3, 4, 5, 0] rfl ?_
    exact tX0_leastLeafThatChanges_20 C k2 hk2 k10 hk10 _ _ _ _ _ _ _ h
theorem tX0_leastLeafThatChanges_10 {X : qX} {G : qG} (C : qC sC X G RX0 cX0_leastLeafThatChanges 6 3 (some .int)) (k2 : qM → Int32 → Int32 → Int32 → Option (Int32 × qM)) (hk2 : ∀ (σ : qM) (x1 : Int32) (x2 : Int32) (x3 : Int32) (res : (Int32 × qM)), k2 σ x1 x2 x3 = some res → qY sC X G 6 (q_Q sC X G (some (.int res.1)) res.2) σ 2 [(0, .ref (q_ad G 16)), (1, .int x1), (2, .int x2), (3, .int x3)] []) (σ : qM) (x1 : Int32) (x2 : Int32) (x3 : Int32) (x4 : Int32) (res : (Int32 × qM))  (h : fX0_leastLeafThatChanges_10 k2 σ x1 x2 x3 x4 = some res) : qY sC X G 6 (q_Q sC X G (some (.int res.1)) res.2) σ 10 [(0, .ref (q_ad G 16)), (1, .int x1), (2, .int x2), (3, .int x3), (4, .int x4)] [] := by
  have key : ∀ (n : Nat) (σ : qM) (x1 : Int32) (x2 : Int32) (x3 : Int32) (x4 : Int32) (res : (Int32 × qM)) , qlp (fun _ _ _ _ _ => none) (bX0_leastLeafThatChanges_10 k2) n σ x1 x2 x3 x4 = some res → qY sC X G 6 (q_Q sC X G (some (.int res.1)) res.2) σ 10 [(0, .ref (q_ad G 16)), (1, .int x1), (2, .int x2), (3, .int x3), (4, .int x4)] [] := by
    intro n
    induction n with
    | zero => intro σ x1 x2 x3 x4 res h; cases h
    | succ n ih => intro σ x1 x2 x3 x4 res h; exact uX0_leastLeafThatChanges_10 C k2 hk2 (qlp (fun _ _ _ _ _ => none) (bX0_leastLeafThatChanges_10 k2) n) (fun σ x1 x2 x3 x4 res h => ih σ x1 x2 x3 x4 res h) σ x1 x2 x3 x4 res h
  exact key qFU σ x1 x2 x3 x4 res h
theorem uX0_leastLeafThatChanges_2 {X : qX} {G : qG} (C : qC sC X G RX0 cX0_leastLeafThatChanges 6 3 (some .int)) (k2 : qM → Int32 → Int32 → Int32 → Option (Int32 × qM)) (hk2 : ∀ (σ : qM) (x1 : Int32) (x2 : Int32) (x3 : Int32) (res : (Int32 × qM)), k2 σ x1 x2 x3 = some res → qY sC X G 6 (q_Q sC X G (some (.int res.1)) res.2) σ 2 [(0, .ref (q_ad G 16)), (1, .int x1), (2, .int x2), (3, .int x3)] []) (σ : qM) (x1 : Int32) (x2 : Int32) (x3 : Int32) (res : (Int32 × qM))  (h : bX0_leastLeafThatChanges_2 k2 σ x1 x2 x3 = some res) : qY sC X G 6 (q_Q sC X G (some (.int res.1)) res.2) σ 2 [(0, .ref (q_ad G 16)), (1, .int x1), (2, .int x2), (3, .int x3)] [] := by
  unfold bX0_leastLeafThatChanges_2 at h
  refine q_iload_n (pc := 2) C 3 rfl dX0_leastLeafThatChanges_2 rfl ?_
  refine q_iconst (pc := 3) C dX0_leastLeafThatChanges_3 ci_3 ?_
  refine q_ic_ge (pc := 4) C 73 dX0_leastLeafThatChanges_4 (by decide) (fun c1 => ?_) (fun c1 => ?_)
  · have h := q_t c1 h
    refine q_iconst (pc := 73) C dX0_leastLeafThatChanges_73 ci_m1 ?_
    obtain rfl := Option.some.inj h
    exact q_iret (pc := 74) C dX0_leastLeafThatChanges_74
  · have h := q_f c1 h
    refine q_iconst (pc := 7) C dX0_leastLeafThatChanges_7 ci_0 ?_
    refine q_istore (pc := 8) C dX0_leastLeafThatChanges_8 (by decide) rfl ?_
    refine q_sub [1, 2, 3, 4, 0] rfl ?_
    exact tX0_leastLeafThatChanges_10 C k2 hk2 _ _ _ _ _ _ h
theorem tX0_leastLeafThatChanges_2 {X : qX} {G : qG} (C : qC sC X G RX0 cX0_leastLeafThatChanges 6 3 (some .int))  (σ : qM) (x1 : Int32) (x2 : Int32) (x3 : Int32) (res : (Int32 × qM))  (h : fX0_leastLeafThatChanges_2  σ x1 x2 x3 = some res) : qY sC X G 6 (q_Q sC X G (some (.int res.1)) res.2) σ 2 [(0, .ref (q_ad G 16)), (1, .int x1), (2, .int x2), (3, .int x3)] [] := by
  have key : ∀ (n : Nat) (σ : qM) (x1 : Int32) (x2 : Int32) (x3 : Int32) (res : (Int32 × qM)) , qlp (fun _ _ _ _ => none) (bX0_leastLeafThatChanges_2 ) n σ x1 x2 x3 = some res → qY sC X G 6 (q_Q sC X G (some (.int res.1)) res.2) σ 2 [(0, .ref (q_ad G 16)), (1, .int x1), (2, .int x2), (3, .int x3)] [] := by
    intro n
    induction n with
    | zero => intro σ x1 x2 x3 res h; cases h
    | succ n ih => intro σ x1 x2 x3 res h; exact uX0_leastLeafThatChanges_2 C  (qlp (fun _ _ _ _ => none) (bX0_leastLeafThatChanges_2 ) n) (fun σ x1 x2 x3 res h => ih σ x1 x2 x3 res h) σ x1 x2 x3 res h
  exact key qFU σ x1 x2 x3 res h
theorem zX0_leastLeafThatChanges {G : qG} {l : Launch} {σ : qM} {x1 : Int32} {x2 : Int32} {res : (Int32 × qM)}  (h : fX0_leastLeafThatChanges σ x1 x2 = some res) : qCon sC G l yX0_leastLeafThatChanges cX0_leastLeafThatChanges 6 (some .int) 3 [.ref (q_ad G 16), .int x1, .int x2] σ (some (.int res.1)) res.2 := by
  refine qCon.mkF (lv := [(0, .ref (q_ad G 16)), (1, .int x1), (2, .int x2)]) (plainFor_of_name (by decide)) (Nat.le_of_ble_eq_true rfl) rfl (fun X hX C => ?_)
  unfold fX0_leastLeafThatChanges at h
  refine q_iconst (pc := 0) C dX0_leastLeafThatChanges_0 ci_0 ?_
  refine q_istore_n (pc := 1) C dX0_leastLeafThatChanges_1 rfl (by decide) rfl ?_
  refine q_sub [1, 2, 3, 0] rfl ?_
  exact tX0_leastLeafThatChanges_2 C _ _ _ _ _ h
/-! X0_turnsThatHold -/
theorem tX0_turnsThatHold_31 {X : qX} {G : qG} (C : qC sC X G RX0 cX0_turnsThatHold 3 1 (some .int)) (k2 : qM → Int32 → Int32 → Option (Int32 × qM)) (hk2 : ∀ (σ : qM) (x1 : Int32) (x2 : Int32) (res : (Int32 × qM)), k2 σ x1 x2 = some res → qY sC X G 3 (q_Q sC X G (some (.int res.1)) res.2) σ 2 [(0, .ref (q_ad G 16)), (1, .int x1), (2, .int x2)] []) (σ : qM) (x1 : Int32) (x2 : Int32) (res : (Int32 × qM))  (h : fX0_turnsThatHold_31 k2 σ x1 x2 = some res) : qY sC X G 3 (q_Q sC X G (some (.int res.1)) res.2) σ 31 [(0, .ref (q_ad G 16)), (1, .int x1), (2, .int x2)] [] := by
  unfold fX0_turnsThatHold_31 at h
  refine q_inc (pc := 31) C 2 rfl ci_1 dX0_turnsThatHold_31 (by decide) rfl ?_
  refine q_goto (pc := 34) C 2 dX0_turnsThatHold_34 (by decide) ?_
  refine q_sub [1, 2, 0] rfl ?_
  exact hk2 _ _ _ _ h
theorem uX0_turnsThatHold_2 {X : qX} {G : qG} (C : qC sC X G RX0 cX0_turnsThatHold 3 1 (some .int)) (k2 : qM → Int32 → Int32 → Option (Int32 × qM)) (hk2 : ∀ (σ : qM) (x1 : Int32) (x2 : Int32) (res : (Int32 × qM)), k2 σ x1 x2 = some res → qY sC X G 3 (q_Q sC X G (some (.int res.1)) res.2) σ 2 [(0, .ref (q_ad G 16)), (1, .int x1), (2, .int x2)] []) (σ : qM) (x1 : Int32) (x2 : Int32) (res : (Int32 × qM))  (h : bX0_turnsThatHold_2 k2 σ x1 x2 = some res) : qY sC X G 3 (q_Q sC X G (some (.int res.1)) res.2) σ 2 [(0, .ref (q_ad G 16)), (1, .int x1), (2, .int x2)] [] := by
  unfold bX0_turnsThatHold_2 at h
  refine q_iload_n (pc := 2) C 2 rfl dX0_turnsThatHold_2 rfl ?_
  refine q_iconst (pc := 3) C dX0_turnsThatHold_3 ci_4 ?_
  refine q_ic_ge (pc := 4) C 37 dX0_turnsThatHold_4 (by decide) (fun c1 => ?_) (fun c1 => ?_)
  · have h := q_t c1 h
    refine q_iconst (pc := 37) C dX0_turnsThatHold_37 ci_m1 ?_
    obtain rfl := Option.some.inj h
    exact q_iret (pc := 38) C dX0_turnsThatHold_38
  · have h := q_f c1 h
    refine q_aload_n (pc := 7) C 0 rfl dX0_turnsThatHold_7 rfl ?_
    refine q_iload_n (pc := 8) C 2 rfl dX0_turnsThatHold_8 rfl ?_
    refine q_iload_n (pc := 9) C 1 rfl dX0_turnsThatHold_9 rfl ?_
    obtain ⟨q2, hq2, h⟩ := q_bind h
    refine q_callV1 (pc := 10) (st := []) C (zX0_isInForce hq2) yi_X0_isInForce ml_RX0_148 kC_16 rfl (by decide) rfl (Nat.le_of_ble_eq_true rfl) dX0_turnsThatHold_10 ?_
    refine q_if_eq (pc := 13) C 31 dX0_turnsThatHold_13 (by decide) (fun c3 => ?_) (fun c3 => ?_)
    · have h := q_t c3 h
      exact tX0_turnsThatHold_31 C k2 hk2 _ _ _ _ h
    · have h := q_f c3 h
      refine q_aload_n (pc := 16) C 0 rfl dX0_turnsThatHold_16 rfl ?_
      refine q_iload_n (pc := 17) C 2 rfl dX0_turnsThatHold_17 rfl ?_
      refine q_iconst (pc := 18) C dX0_turnsThatHold_18 ci_1 ?_
      refine q_iadd (pc := 19) C dX0_turnsThatHold_19 ?_
      refine q_iconst (pc := 20) C dX0_turnsThatHold_20 ci_4 ?_
      refine q_rem (pc := 21) C dX0_turnsThatHold_21 (by decide) ?_
      refine q_iload_n (pc := 22) C 1 rfl dX0_turnsThatHold_22 rfl ?_
      obtain ⟨q4, hq4, h⟩ := q_bind h
      refine q_callV1 (pc := 23) (st := []) C (zX0_isInForce hq4) yi_X0_isInForce ml_RX0_148 kC_16 rfl (by decide) rfl (Nat.le_of_ble_eq_true rfl) dX0_turnsThatHold_23 ?_
      refine q_if_eq (pc := 26) C 31 dX0_turnsThatHold_26 (by decide) (fun c5 => ?_) (fun c5 => ?_)
      · have h := q_t c5 h
        exact tX0_turnsThatHold_31 C k2 hk2 _ _ _ _ h
      · have h := q_f c5 h
        refine q_iload_n (pc := 29) C 2 rfl dX0_turnsThatHold_29 rfl ?_
        obtain rfl := Option.some.inj h
        exact q_iret (pc := 30) C dX0_turnsThatHold_30
theorem tX0_turnsThatHold_2 {X : qX} {G : qG} (C : qC sC X G RX0 cX0_turnsThatHold 3 1 (some .int))  (σ : qM) (x1 : Int32) (x2 : Int32) (res : (Int32 × qM))  (h : fX0_turnsThatHold_2  σ x1 x2 = some res) : qY sC X G 3 (q_Q sC X G (some (.int res.1)) res.2) σ 2 [(0, .ref (q_ad G 16)), (1, .int x1), (2, .int x2)] [] := by
  have key : ∀ (n : Nat) (σ : qM) (x1 : Int32) (x2 : Int32) (res : (Int32 × qM)) , qlp (fun _ _ _ => none) (bX0_turnsThatHold_2 ) n σ x1 x2 = some res → qY sC X G 3 (q_Q sC X G (some (.int res.1)) res.2) σ 2 [(0, .ref (q_ad G 16)), (1, .int x1), (2, .int x2)] [] := by
    intro n
    induction n with
    | zero => intro σ x1 x2 res h; cases h
    | succ n ih => intro σ x1 x2 res h; exact uX0_turnsThatHold_2 C  (qlp (fun _ _ _ => none) (bX0_turnsThatHold_2 ) n) (fun σ x1 x2 res h => ih σ x1 x2 res h) σ x1 x2 res h
  exact key qFU σ x1 x2 res h
theorem zX0_turnsThatHold {G : qG} {l : Launch} {σ : qM} {x1 : Int32} {res : (Int32 × qM)}  (h : fX0_turnsThatHold σ x1 = some res) : qCon sC G l yX0_turnsThatHold cX0_turnsThatHold 3 (some .int) 1 [.ref (q_ad G 16), .int x1] σ (some (.int res.1)) res.2 := by
  refine qCon.mkF (lv := [(0, .ref (q_ad G 16)), (1, .int x1)]) (plainFor_of_name (by decide)) (Nat.le_of_ble_eq_true rfl) rfl (fun X hX C => ?_)
  unfold fX0_turnsThatHold at h
  refine q_iconst (pc := 0) C dX0_turnsThatHold_0 ci_0 ?_
  refine q_istore_n (pc := 1) C dX0_turnsThatHold_1 rfl (by decide) rfl ?_
  refine q_sub [1, 2, 0] rfl ?_
  exact tX0_turnsThatHold_2 C _ _ _ _ h
/-! X0_inForceWithoutLeaf -/
theorem tX0_inForceWithoutLeaf_65 {X : qX} {G : qG} (C : qC sC X G RX0 cX0_inForceWithoutLeaf 6 0 (some .int)) (k5 : qM → Int32 → Int32 → Int32 → Int32 → Option (Int32 × qM)) (hk5 : ∀ (σ : qM) (x1 : Int32) (x2 : Int32) (x3 : Int32) (x4 : Int32) (res : (Int32 × qM)), k5 σ x1 x2 x3 x4 = some res → qY sC X G 6 (q_Q sC X G (some (.int res.1)) res.2) σ 5 [(0, .ref (q_ad G 16)), (1, .int x1), (2, .int x2), (3, .int x3), (4, .int x4)] []) (k23 : qM → Int32 → Int32 → Int32 → Int32 → Int32 → Option (Int32 × qM)) (hk23 : ∀ (σ : qM) (x1 : Int32) (x2 : Int32) (x3 : Int32) (x4 : Int32) (x5 : Int32) (res : (Int32 × qM)), k23 σ x1 x2 x3 x4 x5 = some res → qY sC X G 6 (q_Q sC X G (some (.int res.1)) res.2) σ 23 [(0, .ref (q_ad G 16)), (1, .int x1), (2, .int x2), (3, .int x3), (4, .int x4), (5, .int x5)] []) (σ : qM) (x1 : Int32) (x2 : Int32) (x3 : Int32) (x4 : Int32) (x5 : Int32) (res : (Int32 × qM))  (h : fX0_inForceWithoutLeaf_65 k5 k23 σ x1 x2 x3 x4 x5 = some res) : qY sC X G 6 (q_Q sC X G (some (.int res.1)) res.2) σ 65 [(0, .ref (q_ad G 16)), (1, .int x1), (2, .int x2), (3, .int x3), (4, .int x4), (5, .int x5)] [] := by
  unfold fX0_inForceWithoutLeaf_65 at h
  refine q_inc (pc := 65) C 5 rfl ci_1 dX0_inForceWithoutLeaf_65 (by decide) rfl ?_
  refine q_goto (pc := 68) C 23 dX0_inForceWithoutLeaf_68 (by decide) ?_
  refine q_sub [1, 2, 3, 4, 5, 0] rfl ?_
  exact hk23 _ _ _ _ _ _ _ h
theorem uX0_inForceWithoutLeaf_23 {X : qX} {G : qG} (C : qC sC X G RX0 cX0_inForceWithoutLeaf 6 0 (some .int)) (k5 : qM → Int32 → Int32 → Int32 → Int32 → Option (Int32 × qM)) (hk5 : ∀ (σ : qM) (x1 : Int32) (x2 : Int32) (x3 : Int32) (x4 : Int32) (res : (Int32 × qM)), k5 σ x1 x2 x3 x4 = some res → qY sC X G 6 (q_Q sC X G (some (.int res.1)) res.2) σ 5 [(0, .ref (q_ad G 16)), (1, .int x1), (2, .int x2), (3, .int x3), (4, .int x4)] []) (k23 : qM → Int32 → Int32 → Int32 → Int32 → Int32 → Option (Int32 × qM)) (hk23 : ∀ (σ : qM) (x1 : Int32) (x2 : Int32) (x3 : Int32) (x4 : Int32) (x5 : Int32) (res : (Int32 × qM)), k23 σ x1 x2 x3 x4 x5 = some res → qY sC X G 6 (q_Q sC X G (some (.int res.1)) res.2) σ 23 [(0, .ref (q_ad G 16)), (1, .int x1), (2, .int x2), (3, .int x3), (4, .int x4), (5, .int x5)] []) (σ : qM) (x1 : Int32) (x2 : Int32) (x3 : Int32) (x4 : Int32) (x5 : Int32) (res : (Int32 × qM))  (h : bX0_inForceWithoutLeaf_23 k5 k23 σ x1 x2 x3 x4 x5 = some res) : qY sC X G 6 (q_Q sC X G (some (.int res.1)) res.2) σ 23 [(0, .ref (q_ad G 16)), (1, .int x1), (2, .int x2), (3, .int x3), (4, .int x4), (5, .int x5)] [] := by
  unfold bX0_inForceWithoutLeaf_23 at h
  refine q_iload (pc := 23) C 5 rfl dX0_inForceWithoutLeaf_23 ?_
  refine q_aload_n (pc := 25) C 0 rfl dX0_inForceWithoutLeaf_25 rfl ?_
  refine q_getR (pc := 26) (t := 1) C fl_RX0_52 kC_16 rfl rC_16_0 dX0_inForceWithoutLeaf_26 ?_
  refine q_getI (pc := 29) C fl_RX0_76 kC_1 rfl dX0_inForceWithoutLeaf_29 ?_
  refine q_ic_ge (pc := 32) C 71 dX0_inForceWithoutLeaf_32 (by decide) (fun c1 => ?_) (fun c1 => ?_)
  · have h := q_t c1 h
    refine q_inc (pc := 71) C 4 rfl ci_1 dX0_inForceWithoutLeaf_71 (by decide) rfl ?_
    refine q_goto (pc := 74) C 5 dX0_inForceWithoutLeaf_74 (by decide) ?_
    refine q_sub [1, 2, 3, 4, 0] rfl ?_
    exact hk5 _ _ _ _ _ _ h
  · have h := q_f c1 h
    refine q_iload (pc := 35) C 4 rfl dX0_inForceWithoutLeaf_35 ?_
    refine q_iload_n (pc := 37) C 2 rfl dX0_inForceWithoutLeaf_37 rfl ?_
    refine q_ic_eq (pc := 38) C 65 dX0_inForceWithoutLeaf_38 (by decide) (fun c2 => ?_) (fun c2 => ?_)
    · have h := q_t c2 h
      exact tX0_inForceWithoutLeaf_65 C k5 hk5 k23 hk23 _ _ _ _ _ _ _ h
    · have h := q_f c2 h
      refine q_iload (pc := 41) C 5 rfl dX0_inForceWithoutLeaf_41 ?_
      refine q_iload_n (pc := 43) C 2 rfl dX0_inForceWithoutLeaf_43 rfl ?_
      refine q_ic_eq (pc := 44) C 65 dX0_inForceWithoutLeaf_44 (by decide) (fun c3 => ?_) (fun c3 => ?_)
      · have h := q_t c3 h
        exact tX0_inForceWithoutLeaf_65 C k5 hk5 k23 hk23 _ _ _ _ _ _ _ h
      · have h := q_f c3 h
        refine q_iload_n (pc := 47) C 3 rfl dX0_inForceWithoutLeaf_47 rfl ?_
        refine q_aload_n (pc := 48) C 0 rfl dX0_inForceWithoutLeaf_48 rfl ?_
        refine q_getR (pc := 49) (t := 30) C fl_RX0_29 kC_16 rfl rC_16_8 dX0_inForceWithoutLeaf_49 ?_
        refine q_iload_n (pc := 52) C 1 rfl dX0_inForceWithoutLeaf_52 rfl ?_
        obtain ⟨g4, h⟩ := q_guard h
        refine q_aald (pc := 53) (t := (31 + x1.toNatClampNeg)) C (Or.inl kC_30) lC_30 g4 (rR_30 _) dX0_inForceWithoutLeaf_53 ?_
        refine q_iload (pc := 54) C 4 rfl dX0_inForceWithoutLeaf_54 ?_
        refine q_bipush (pc := 56) C dX0_inForceWithoutLeaf_56 cb_12 ?_
        refine q_imul (pc := 58) C dX0_inForceWithoutLeaf_58 ?_
        refine q_iload (pc := 59) C 5 rfl dX0_inForceWithoutLeaf_59 ?_
        refine q_iadd (pc := 61) C dX0_inForceWithoutLeaf_61 ?_
        obtain ⟨g5, h⟩ := q_guard h
        refine q_iald (pc := 62) C (kR_30 g4) (lR_30 g4) g5 dX0_inForceWithoutLeaf_62 ?_
        refine q_ior (pc := 63) C dX0_inForceWithoutLeaf_63 ?_
        refine q_istore_n (pc := 64) C dX0_inForceWithoutLeaf_64 rfl (by decide) rfl ?_
        refine q_sub [1, 2, 3, 0, 4, 5] rfl ?_
        exact tX0_inForceWithoutLeaf_65 C k5 hk5 k23 hk23 _ _ _ _ _ _ _ h
theorem tX0_inForceWithoutLeaf_23 {X : qX} {G : qG} (C : qC sC X G RX0 cX0_inForceWithoutLeaf 6 0 (some .int)) (k5 : qM → Int32 → Int32 → Int32 → Int32 → Option (Int32 × qM)) (hk5 : ∀ (σ : qM) (x1 : Int32) (x2 : Int32) (x3 : Int32) (x4 : Int32) (res : (Int32 × qM)), k5 σ x1 x2 x3 x4 = some res → qY sC X G 6 (q_Q sC X G (some (.int res.1)) res.2) σ 5 [(0, .ref (q_ad G 16)), (1, .int x1), (2, .int x2), (3, .int x3), (4, .int x4)] []) (σ : qM) (x1 : Int32) (x2 : Int32) (x3 : Int32) (x4 : Int32) (x5 : Int32) (res : (Int32 × qM))  (h : fX0_inForceWithoutLeaf_23 k5 σ x1 x2 x3 x4 x5 = some res) : qY sC X G 6 (q_Q sC X G (some (.int res.1)) res.2) σ 23 [(0, .ref (q_ad G 16)), (1, .int x1), (2, .int x2), (3, .int x3), (4, .int x4), (5, .int x5)] [] := by
  have key : ∀ (n : Nat) (σ : qM) (x1 : Int32) (x2 : Int32) (x3 : Int32) (x4 : Int32) (x5 : Int32) (res : (Int32 × qM)) , qlp (fun _ _ _ _ _ _ => none) (bX0_inForceWithoutLeaf_23 k5) n σ x1 x2 x3 x4 x5 = some res → qY sC X G 6 (q_Q sC X G (some (.int res.1)) res.2) σ 23 [(0, .ref (q_ad G 16)), (1, .int x1), (2, .int x2), (3, .int x3), (4, .int x4), (5, .int x5)] [] := by
    intro n
    induction n with
    | zero => intro σ x1 x2 x3 x4 x5 res h; cases h
    | succ n ih => intro σ x1 x2 x3 x4 x5 res h; exact uX0_inForceWithoutLeaf_23 C k5 hk5 (qlp (fun _ _ _ _ _ _ => none) (bX0_inForceWithoutLeaf_23 k5) n) (fun σ x1 x2 x3 x4 x5 res h => ih σ x1 x2 x3 x4 x5 res h) σ x1 x2 x3 x4 x5 res h
  exact key qFU σ x1 x2 x3 x4 x5 res h
theorem uX0_inForceWithoutLeaf_5 {X : qX} {G : qG} (C : qC sC X G RX0 cX0_inForceWithoutLeaf 6 0 (some .int)) (k5 : qM → Int32 → Int32 → Int32 → Int32 → Option (Int32 × qM)) (hk5 : ∀ (σ : qM) (x1 : Int32) (x2 : Int32) (x3 : Int32) (x4 : Int32) (res : (Int32 × qM)), k5 σ x1 x2 x3 x4 = some res → qY sC X G 6 (q_Q sC X G (some (.int res.1)) res.2) σ 5 [(0, .ref (q_ad G 16)), (1, .int x1), (2, .int x2), (3, .int x3), (4, .int x4)] []) (σ : qM) (x1 : Int32) (x2 : Int32) (x3 : Int32) (x4 : Int32) (res : (Int32 × qM))  (h : bX0_inForceWithoutLeaf_5 k5 σ x1 x2 x3 x4 = some res) : qY sC X G 6 (q_Q sC X G (some (.int res.1)) res.2) σ 5 [(0, .ref (q_ad G 16)), (1, .int x1), (2, .int x2), (3, .int x3), (4, .int x4)] [] := by
  unfold bX0_inForceWithoutLeaf_5 at h
  refine q_iload (pc := 5) C 4 rfl dX0_inForceWithoutLeaf_5 ?_
  refine q_aload_n (pc := 7) C 0 rfl dX0_inForceWithoutLeaf_7 rfl ?_
  refine q_getR (pc := 8) (t := 1) C fl_RX0_52 kC_16 rfl rC_16_0 dX0_inForceWithoutLeaf_8 ?_
  refine q_getI (pc := 11) C fl_RX0_76 kC_1 rfl dX0_inForceWithoutLeaf_11 ?_
  refine q_ic_ge (pc := 14) C 77 dX0_inForceWithoutLeaf_14 (by decide) (fun c1 => ?_) (fun c1 => ?_)
  · have h := q_t c1 h
    refine q_aload_n (pc := 77) C 0 rfl dX0_inForceWithoutLeaf_77 rfl ?_
    refine q_getR (pc := 78) (t := 40) C fl_RX0_35 kC_16 rfl rC_16_10 dX0_inForceWithoutLeaf_78 ?_
    refine q_iload_n (pc := 81) C 3 rfl dX0_inForceWithoutLeaf_81 rfl ?_
    obtain ⟨g2, h⟩ := q_guard h
    refine q_iald (pc := 82) C kC_40 lC_40 g2 dX0_inForceWithoutLeaf_82 ?_
    obtain rfl := Option.some.inj h
    exact q_iret (pc := 83) C dX0_inForceWithoutLeaf_83
  · have h := q_f c1 h
    refine q_iload (pc := 17) C 4 rfl dX0_inForceWithoutLeaf_17 ?_
    refine q_iconst (pc := 19) C dX0_inForceWithoutLeaf_19 ci_1 ?_
    refine q_iadd (pc := 20) C dX0_inForceWithoutLeaf_20 ?_
    refine q_istore (pc := 21) C dX0_inForceWithoutLeaf_21 (by decide) rfl ?_
    refine q_sub [1, 2, 3, 4, 5, 0] rfl ?_
    exact tX0_inForceWithoutLeaf_23 C k5 hk5 _ _ _ _ _ _ _ h
theorem tX0_inForceWithoutLeaf_5 {X : qX} {G : qG} (C : qC sC X G RX0 cX0_inForceWithoutLeaf 6 0 (some .int))  (σ : qM) (x1 : Int32) (x2 : Int32) (x3 : Int32) (x4 : Int32) (res : (Int32 × qM))  (h : fX0_inForceWithoutLeaf_5  σ x1 x2 x3 x4 = some res) : qY sC X G 6 (q_Q sC X G (some (.int res.1)) res.2) σ 5 [(0, .ref (q_ad G 16)), (1, .int x1), (2, .int x2), (3, .int x3), (4, .int x4)] [] := by
  have key : ∀ (n : Nat) (σ : qM) (x1 : Int32) (x2 : Int32) (x3 : Int32) (x4 : Int32) (res : (Int32 × qM)) , qlp (fun _ _ _ _ _ => none) (bX0_inForceWithoutLeaf_5 ) n σ x1 x2 x3 x4 = some res → qY sC X G 6 (q_Q sC X G (some (.int res.1)) res.2) σ 5 [(0, .ref (q_ad G 16)), (1, .int x1), (2, .int x2), (3, .int x3), (4, .int x4)] [] := by
    intro n
    induction n with
    | zero => intro σ x1 x2 x3 x4 res h; cases h
    | succ n ih => intro σ x1 x2 x3 x4 res h; exact uX0_inForceWithoutLeaf_5 C  (qlp (fun _ _ _ _ _ => none) (bX0_inForceWithoutLeaf_5 ) n) (fun σ x1 x2 x3 x4 res h => ih σ x1 x2 x3 x4 res h) σ x1 x2 x3 x4 res h
  exact key qFU σ x1 x2 x3 x4 res h
theorem zX0_inForceWithoutLeaf {G : qG} {l : Launch} {σ : qM} {x1 : Int32} {x2 : Int32} {res : (Int32 × qM)}  (h : fX0_inForceWithoutLeaf σ x1 x2 = some res) : qCon sC G l yX0_inForceWithoutLeaf cX0_inForceWithoutLeaf 6 (some .int) 0 [.ref (q_ad G 16), .int x1, .int x2] σ (some (.int res.1)) res.2 := by
  refine qCon.mkF (lv := [(0, .ref (q_ad G 16)), (1, .int x1), (2, .int x2)]) (plainFor_of_name (by decide)) (Nat.le_of_ble_eq_true rfl) rfl (fun X hX C => ?_)
  unfold fX0_inForceWithoutLeaf at h
  refine q_iconst (pc := 0) C dX0_inForceWithoutLeaf_0 ci_0 ?_
  refine q_istore_n (pc := 1) C dX0_inForceWithoutLeaf_1 rfl (by decide) rfl ?_
  refine q_iconst (pc := 2) C dX0_inForceWithoutLeaf_2 ci_0 ?_
  refine q_istore (pc := 3) C dX0_inForceWithoutLeaf_3 (by decide) rfl ?_
  refine q_sub [2, 3, 4, 1, 0] rfl ?_
  exact tX0_inForceWithoutLeaf_5 C _ _ _ _ _ _ h
/-! X0_inForceWithTurnedRule -/
theorem tX0_inForceWithTurnedRule_57 {X : qX} {G : qG} (C : qC sC X G RX0 cX0_inForceWithTurnedRule 4 2 (some .int)) (k20 : qM → Int32 → Int32 → Int32 → Option (Int32 × qM)) (hk20 : ∀ (σ : qM) (x1 : Int32) (x2 : Int32) (x3 : Int32) (res : (Int32 × qM)), k20 σ x1 x2 x3 = some res → qY sC X G 4 (q_Q sC X G (some (.int res.1)) res.2) σ 20 [(0, .ref (q_ad G 16)), (1, .int x1), (2, .int x2), (3, .int x3)] []) (σ : qM) (x1 : Int32) (x2 : Int32) (x3 : Int32) (res : (Int32 × qM))  (h : fX0_inForceWithTurnedRule_57 k20 σ x1 x2 x3 = some res) : qY sC X G 4 (q_Q sC X G (some (.int res.1)) res.2) σ 57 [(0, .ref (q_ad G 16)), (1, .int x1), (2, .int x2), (3, .int x3)] [] := by
  unfold fX0_inForceWithTurnedRule_57 at h
  refine q_inc (pc := 57) C 3 rfl ci_1 dX0_inForceWithTurnedRule_57 (by decide) rfl ?_
  refine q_goto (pc := 60) C 20 dX0_inForceWithTurnedRule_60 (by decide) ?_
  refine q_sub [1, 2, 3, 0] rfl ?_
  exact hk20 _ _ _ _ _ h
theorem uX0_inForceWithTurnedRule_20 {X : qX} {G : qG} (C : qC sC X G RX0 cX0_inForceWithTurnedRule 4 2 (some .int)) (k20 : qM → Int32 → Int32 → Int32 → Option (Int32 × qM)) (hk20 : ∀ (σ : qM) (x1 : Int32) (x2 : Int32) (x3 : Int32) (res : (Int32 × qM)), k20 σ x1 x2 x3 = some res → qY sC X G 4 (q_Q sC X G (some (.int res.1)) res.2) σ 20 [(0, .ref (q_ad G 16)), (1, .int x1), (2, .int x2), (3, .int x3)] []) (σ : qM) (x1 : Int32) (x2 : Int32) (x3 : Int32) (res : (Int32 × qM))  (h : bX0_inForceWithTurnedRule_20 k20 σ x1 x2 x3 = some res) : qY sC X G 4 (q_Q sC X G (some (.int res.1)) res.2) σ 20 [(0, .ref (q_ad G 16)), (1, .int x1), (2, .int x2), (3, .int x3)] [] := by
  unfold bX0_inForceWithTurnedRule_20 at h
  refine q_iload_n (pc := 20) C 3 rfl dX0_inForceWithTurnedRule_20 rfl ?_
  refine q_aload_n (pc := 21) C 0 rfl dX0_inForceWithTurnedRule_21 rfl ?_
  refine q_getR (pc := 22) (t := 4) C fl_RX0_56 kC_16 rfl rC_16_1 dX0_inForceWithTurnedRule_22 ?_
  refine q_getI (pc := 25) C fl_RX0_76 kC_4 rfl dX0_inForceWithTurnedRule_25 ?_
  refine q_ic_ge (pc := 28) C 63 dX0_inForceWithTurnedRule_28 (by decide) (fun c1 => ?_) (fun c1 => ?_)
  · have h := q_t c1 h
    refine q_aload_n (pc := 63) C 0 rfl dX0_inForceWithTurnedRule_63 rfl ?_
    refine q_getR (pc := 64) (t := 29) C fl_RX0_26 kC_16 rfl rC_16_7 dX0_inForceWithTurnedRule_64 ?_
    refine q_iload_n (pc := 67) C 1 rfl dX0_inForceWithTurnedRule_67 rfl ?_
    obtain ⟨g2, h⟩ := q_guard h
    refine q_iald (pc := 68) C kC_29 lC_29 g2 dX0_inForceWithTurnedRule_68 ?_
    refine q_iconst (pc := 69) C dX0_inForceWithTurnedRule_69 ci_1 ?_
    refine q_aload_n (pc := 70) C 0 rfl dX0_inForceWithTurnedRule_70 rfl ?_
    refine q_getR (pc := 71) (t := 4) C fl_RX0_56 kC_16 rfl rC_16_1 dX0_inForceWithTurnedRule_71 ?_
    refine q_iload_n (pc := 74) C 2 rfl dX0_inForceWithTurnedRule_74 rfl ?_
    refine q_iconst (pc := 75) C dX0_inForceWithTurnedRule_75 ci_4 ?_
    obtain ⟨q3, hq3, h⟩ := q_bind h
    refine q_callV1 (pc := 76) (st := [.int (1 : Int32), .int (σ 29 x1.toNatClampNeg)]) C (zX3_part kC_4 hq3) yi_X3_part ml_RX0_81 kC_4 rfl (by decide) rfl (Nat.le_of_ble_eq_true rfl) dX0_inForceWithTurnedRule_76 ?_
    refine q_shl (pc := 79) C dX0_inForceWithTurnedRule_79 ?_
    refine q_ixor (pc := 80) C dX0_inForceWithTurnedRule_80 ?_
    obtain rfl := Option.some.inj h
    exact q_iret (pc := 81) C dX0_inForceWithTurnedRule_81
  · have h := q_f c1 h
    refine q_aload_n (pc := 31) C 0 rfl dX0_inForceWithTurnedRule_31 rfl ?_
    refine q_iload_n (pc := 32) C 1 rfl dX0_inForceWithTurnedRule_32 rfl ?_
    refine q_iload_n (pc := 33) C 3 rfl dX0_inForceWithTurnedRule_33 rfl ?_
    obtain ⟨q4, hq4, h⟩ := q_bind h
    refine q_callV1 (pc := 34) (st := []) C (zX0_applies hq4) yi_X0_applies ml_RX0_120 kC_16 rfl (by decide) rfl (Nat.le_of_ble_eq_true rfl) dX0_inForceWithTurnedRule_34 ?_
    refine q_if_eq (pc := 37) C 57 dX0_inForceWithTurnedRule_37 (by decide) (fun c5 => ?_) (fun c5 => ?_)
    · have h := q_t c5 h
      exact tX0_inForceWithTurnedRule_57 C k20 hk20 _ _ _ _ _ h
    · have h := q_f c5 h
      refine q_aload_n (pc := 40) C 0 rfl dX0_inForceWithTurnedRule_40 rfl ?_
      refine q_iload_n (pc := 41) C 2 rfl dX0_inForceWithTurnedRule_41 rfl ?_
      refine q_iload_n (pc := 42) C 3 rfl dX0_inForceWithTurnedRule_42 rfl ?_
      refine q_iconst (pc := 43) C dX0_inForceWithTurnedRule_43 ci_4 ?_
      obtain ⟨q6, hq6, h⟩ := q_bind h
      refine q_callV1 (pc := 44) (st := []) C (zX0_alike hq6) yi_X0_alike ml_RX0_126 kC_16 rfl (by decide) rfl (Nat.le_of_ble_eq_true rfl) dX0_inForceWithTurnedRule_44 ?_
      refine q_if_eq (pc := 47) C 57 dX0_inForceWithTurnedRule_47 (by decide) (fun c7 => ?_) (fun c7 => ?_)
      · have h := q_t c7 h
        exact tX0_inForceWithTurnedRule_57 C k20 hk20 _ _ _ _ _ h
      · have h := q_f c7 h
        refine q_aload_n (pc := 50) C 0 rfl dX0_inForceWithTurnedRule_50 rfl ?_
        refine q_getR (pc := 51) (t := 29) C fl_RX0_26 kC_16 rfl rC_16_7 dX0_inForceWithTurnedRule_51 ?_
        refine q_iload_n (pc := 54) C 1 rfl dX0_inForceWithTurnedRule_54 rfl ?_
        obtain ⟨g8, h⟩ := q_guard h
        refine q_iald (pc := 55) C kC_29 lC_29 g8 dX0_inForceWithTurnedRule_55 ?_
        obtain rfl := Option.some.inj h
        exact q_iret (pc := 56) C dX0_inForceWithTurnedRule_56
theorem tX0_inForceWithTurnedRule_20 {X : qX} {G : qG} (C : qC sC X G RX0 cX0_inForceWithTurnedRule 4 2 (some .int))  (σ : qM) (x1 : Int32) (x2 : Int32) (x3 : Int32) (res : (Int32 × qM))  (h : fX0_inForceWithTurnedRule_20  σ x1 x2 x3 = some res) : qY sC X G 4 (q_Q sC X G (some (.int res.1)) res.2) σ 20 [(0, .ref (q_ad G 16)), (1, .int x1), (2, .int x2), (3, .int x3)] [] := by
  have key : ∀ (n : Nat) (σ : qM) (x1 : Int32) (x2 : Int32) (x3 : Int32) (res : (Int32 × qM)) , qlp (fun _ _ _ _ => none) (bX0_inForceWithTurnedRule_20 ) n σ x1 x2 x3 = some res → qY sC X G 4 (q_Q sC X G (some (.int res.1)) res.2) σ 20 [(0, .ref (q_ad G 16)), (1, .int x1), (2, .int x2), (3, .int x3)] [] := by
    intro n
    induction n with
    | zero => intro σ x1 x2 x3 res h; cases h
    | succ n ih => intro σ x1 x2 x3 res h; exact uX0_inForceWithTurnedRule_20 C  (qlp (fun _ _ _ _ => none) (bX0_inForceWithTurnedRule_20 ) n) (fun σ x1 x2 x3 res h => ih σ x1 x2 x3 res h) σ x1 x2 x3 res h
  exact key qFU σ x1 x2 x3 res h
theorem zX0_inForceWithTurnedRule {G : qG} {l : Launch} {σ : qM} {x1 : Int32} {x2 : Int32} {res : (Int32 × qM)}  (h : fX0_inForceWithTurnedRule σ x1 x2 = some res) : qCon sC G l yX0_inForceWithTurnedRule cX0_inForceWithTurnedRule 4 (some .int) 2 [.ref (q_ad G 16), .int x1, .int x2] σ (some (.int res.1)) res.2 := by
  refine qCon.mkF (lv := [(0, .ref (q_ad G 16)), (1, .int x1), (2, .int x2)]) (plainFor_of_name (by decide)) (Nat.le_of_ble_eq_true rfl) rfl (fun X hX C => ?_)
  unfold fX0_inForceWithTurnedRule at h
  refine q_aload_n (pc := 0) C 0 rfl dX0_inForceWithTurnedRule_0 rfl ?_
  refine q_iload_n (pc := 1) C 1 rfl dX0_inForceWithTurnedRule_1 rfl ?_
  refine q_iload_n (pc := 2) C 2 rfl dX0_inForceWithTurnedRule_2 rfl ?_
  obtain ⟨q1, hq1, h⟩ := q_bind h
  refine q_callV1 (pc := 3) (st := []) C (zX0_applies hq1) yi_X0_applies ml_RX0_120 kC_16 rfl (by decide) rfl (Nat.le_of_ble_eq_true rfl) dX0_inForceWithTurnedRule_3 ?_
  refine q_if_ne (pc := 6) C 16 dX0_inForceWithTurnedRule_6 (by decide) (fun c2 => ?_) (fun c2 => ?_)
  · have h := q_f c2 h
    refine q_iload_n (pc := 16) C 2 rfl dX0_inForceWithTurnedRule_16 rfl ?_
    refine q_iconst (pc := 17) C dX0_inForceWithTurnedRule_17 ci_1 ?_
    refine q_iadd (pc := 18) C dX0_inForceWithTurnedRule_18 ?_
    refine q_istore_n (pc := 19) C dX0_inForceWithTurnedRule_19 rfl (by decide) rfl ?_
    refine q_sub [1, 2, 3, 0] rfl ?_
    exact tX0_inForceWithTurnedRule_20 C _ _ _ _ _ h
  · have h := q_t c2 h
    refine q_aload_n (pc := 9) C 0 rfl dX0_inForceWithTurnedRule_9 rfl ?_
    refine q_getR (pc := 10) (t := 29) C fl_RX0_26 kC_16 rfl rC_16_7 dX0_inForceWithTurnedRule_10 ?_
    refine q_iload_n (pc := 13) C 1 rfl dX0_inForceWithTurnedRule_13 rfl ?_
    obtain ⟨g3, h⟩ := q_guard h
    refine q_iald (pc := 14) C kC_29 lC_29 g3 dX0_inForceWithTurnedRule_14 ?_
    obtain rfl := Option.some.inj h
    exact q_iret (pc := 15) C dX0_inForceWithTurnedRule_15
/-! X0_inForceHad -/
theorem zX0_inForceHad {G : qG} {l : Launch} {σ : qM} {x1 : Int32} {x2 : Int32} {x3 : Int32} {res : (Int32 × qM)}  (h : fX0_inForceHad σ x1 x2 x3 = some res) : qCon sC G l yX0_inForceHad cX0_inForceHad 4 (some .int) 3 [.ref (q_ad G 16), .int x1, .int x2, .int x3] σ (some (.int res.1)) res.2 := by
  refine qCon.mkF (lv := [(0, .ref (q_ad G 16)), (1, .int x1), (2, .int x2), (3, .int x3)]) (plainFor_of_name (by decide)) (Nat.le_of_ble_eq_true rfl) rfl (fun X hX C => ?_)
  unfold fX0_inForceHad at h
  refine q_iload_n (pc := 0) C 1 rfl dX0_inForceHad_0 rfl ?_
  by_cases c1 : x1 = (0 : Int32)
  · have h := q_t c1 h
    refine q_lookup (pc := 1) (off := 27) C 28 dX0_inForceHad_1 (by decide) (by rw [c1]; decide) (by decide) ?_
    refine q_aload_n (pc := 28) C 0 rfl dX0_inForceHad_28 rfl ?_
    refine q_getR (pc := 29) (t := 40) C fl_RX0_35 kC_16 rfl rC_16_10 dX0_inForceHad_29 ?_
    refine q_aload_n (pc := 32) C 0 rfl dX0_inForceHad_32 rfl ?_
    refine q_getR (pc := 33) (t := 28) C fl_RX0_23 kC_16 rfl rC_16_6 dX0_inForceHad_33 ?_
    refine q_iload_n (pc := 36) C 3 rfl dX0_inForceHad_36 rfl ?_
    obtain ⟨g2, h⟩ := q_guard h
    refine q_iald (pc := 37) C kC_28 lC_28 g2 dX0_inForceHad_37 ?_
    refine q_iconst (pc := 38) C dX0_inForceHad_38 ci_1 ?_
    refine q_iload_n (pc := 39) C 2 rfl dX0_inForceHad_39 rfl ?_
    refine q_shl (pc := 40) C dX0_inForceHad_40 ?_
    refine q_iconst (pc := 41) C dX0_inForceHad_41 ci_m1 ?_
    refine q_ixor (pc := 42) C dX0_inForceHad_42 ?_
    refine q_iand (pc := 43) C dX0_inForceHad_43 ?_
    obtain ⟨g3, h⟩ := q_guard h
    refine q_iald (pc := 44) C kC_40 lC_40 g3 dX0_inForceHad_44 ?_
    obtain rfl := Option.some.inj h
    exact q_iret (pc := 45) C dX0_inForceHad_45
  · have h := q_f c1 h
    by_cases c4 : x1 = (1 : Int32)
    · have h := q_t c4 h
      refine q_lookup (pc := 1) (off := 45) C 46 dX0_inForceHad_1 (by decide) (by rw [c4]; decide) (by decide) ?_
      refine q_aload_n (pc := 46) C 0 rfl dX0_inForceHad_46 rfl ?_
      refine q_iload_n (pc := 47) C 3 rfl dX0_inForceHad_47 rfl ?_
      refine q_iload_n (pc := 48) C 2 rfl dX0_inForceHad_48 rfl ?_
      obtain ⟨q5, hq5, h⟩ := q_bind h
      refine q_callV1 (pc := 49) (st := []) C (zX0_inForceWithoutLeaf hq5) yi_X0_inForceWithoutLeaf ml_RX0_151 kC_16 rfl (by decide) rfl (Nat.le_of_ble_eq_true rfl) dX0_inForceHad_49 ?_
      obtain rfl := Option.some.inj h
      exact q_iret (pc := 52) C dX0_inForceHad_52
    · have h := q_f c4 h
      refine q_lookup (pc := 1) (off := 52) C 53 dX0_inForceHad_1 (by decide) (by show Op.lookupswitch.offset [(0, 27), (1, 45)] 52 _ = _; rw [lv_osw c1 ct_0, lv_osw c4 ct_1]; rfl) (by decide) ?_
      refine q_aload_n (pc := 53) C 0 rfl dX0_inForceHad_53 rfl ?_
      refine q_iload_n (pc := 54) C 3 rfl dX0_inForceHad_54 rfl ?_
      refine q_iload_n (pc := 55) C 2 rfl dX0_inForceHad_55 rfl ?_
      obtain ⟨q6, hq6, h⟩ := q_bind h
      refine q_callV1 (pc := 56) (st := []) C (zX0_inForceWithTurnedRule hq6) yi_X0_inForceWithTurnedRule ml_RX0_154 kC_16 rfl (by decide) rfl (Nat.le_of_ble_eq_true rfl) dX0_inForceHad_56 ?_
      obtain rfl := Option.some.inj h
      exact q_iret (pc := 59) C dX0_inForceHad_59
/-! X0_countChoices -/
theorem uX0_countChoices_39 {X : qX} {G : qG} (C : qC sC X G RX0 cX0_countChoices 5 2 none) (k39 : qM → Int32 → Int32 → Int32 → Option qM) (hk39 : ∀ (σ : qM) (x2 : Int32) (x3 : Int32) (x4 : Int32) (res : qM), k39 σ x2 x3 x4 = some res → qY sC X G 5 (q_Q sC X G none res) σ 39 [(0, .ref (q_ad G 16)), (2, .int x2), (3, .int x3), (4, .int x4)] []) (σ : qM) (x2 : Int32) (x3 : Int32) (x4 : Int32) (res : qM)  (h : bX0_countChoices_39 k39 σ x2 x3 x4 = some res) : qY sC X G 5 (q_Q sC X G none res) σ 39 [(0, .ref (q_ad G 16)), (2, .int x2), (3, .int x3), (4, .int x4)] [] := by
  unfold bX0_countChoices_39 at h
  refine q_iload (pc := 39) C 3 rfl dX0_countChoices_39 ?_
  refine q_iload_n (pc := 41) C 2 rfl dX0_countChoices_41 rfl ?_
  refine q_ic_ge (pc := 42) C 80 dX0_countChoices_42 (by decide) (fun c1 => ?_) (fun c1 => ?_)
  · have h := q_t c1 h
    obtain rfl := Option.some.inj h
    exact q_vret (pc := 80) C dX0_countChoices_80
  · have h := q_f c1 h
    refine q_aload_n (pc := 45) C 0 rfl dX0_countChoices_45 rfl ?_
    refine q_getR (pc := 46) (t := 42) C fl_RX0_45 kC_16 rfl rC_16_13 dX0_countChoices_46 ?_
    refine q_iload (pc := 49) C 3 rfl dX0_countChoices_49 ?_
    obtain ⟨q2, hq2, h⟩ := q_bind h
    refine q_callS1 (pc := 51) (st := [.ref (q_ad G 42)]) C (zJ6_bitCount_0f7a4 hq2) ys_J6_bitCount_0f7a4 ml_RX0_141 rfl (by decide) rfl (Nat.le_of_ble_eq_true rfl) dX0_countChoices_51 ?_
    refine q_dup2 (pc := 54) C dX0_countChoices_54 rfl rfl ?_
    obtain ⟨g3, h⟩ := q_guard h
    refine q_iald (pc := 55) C kC_42 lC_42 g3 dX0_countChoices_55 ?_
    refine q_aload_n (pc := 56) C 0 rfl dX0_countChoices_56 rfl ?_
    refine q_getR (pc := 57) (t := 40) C fl_RX0_35 kC_16 rfl rC_16_10 dX0_countChoices_57 ?_
    refine q_aload_n (pc := 60) C 0 rfl dX0_countChoices_60 rfl ?_
    refine q_getR (pc := 61) (t := 41) C fl_RX0_38 kC_16 rfl rC_16_11 dX0_countChoices_61 ?_
    refine q_iload (pc := 64) C 3 rfl dX0_countChoices_64 ?_
    obtain ⟨g4, h⟩ := q_guard h
    refine q_iald (pc := 66) C kC_41 lC_41 g4 dX0_countChoices_66 ?_
    obtain ⟨g5, h⟩ := q_guard h
    refine q_iald (pc := 67) C kC_40 lC_40 g5 dX0_countChoices_67 ?_
    refine q_iload_n (pc := 68) C 1 rfl dX0_countChoices_68 rfl ?_
    refine q_shr (pc := 69) C dX0_countChoices_69 ?_
    refine q_iconst (pc := 70) C dX0_countChoices_70 ci_1 ?_
    refine q_iand (pc := 71) C dX0_countChoices_71 ?_
    refine q_iadd (pc := 72) C dX0_countChoices_72 ?_
    obtain ⟨g6, h⟩ := q_guard h
    refine q_iast (pc := 73) C kC_42 lC_42 g6 dX0_countChoices_73 ?_
    refine q_inc (pc := 74) C 3 rfl ci_1 dX0_countChoices_74 (by decide) rfl ?_
    refine q_goto (pc := 77) C 39 dX0_countChoices_77 (by decide) ?_
    refine q_sub [1, 2, 3, 0] rfl ?_
    exact hk39 _ _ _ _ _ h
theorem tX0_countChoices_39 {X : qX} {G : qG} (C : qC sC X G RX0 cX0_countChoices 5 2 none)  (σ : qM) (x2 : Int32) (x3 : Int32) (x4 : Int32) (res : qM)  (h : fX0_countChoices_39  σ x2 x3 x4 = some res) : qY sC X G 5 (q_Q sC X G none res) σ 39 [(0, .ref (q_ad G 16)), (2, .int x2), (3, .int x3), (4, .int x4)] [] := by
  have key : ∀ (n : Nat) (σ : qM) (x2 : Int32) (x3 : Int32) (x4 : Int32) (res : qM) , qlp (fun _ _ _ _ => none) (bX0_countChoices_39 ) n σ x2 x3 x4 = some res → qY sC X G 5 (q_Q sC X G none res) σ 39 [(0, .ref (q_ad G 16)), (2, .int x2), (3, .int x3), (4, .int x4)] [] := by
    intro n
    induction n with
    | zero => intro σ x2 x3 x4 res h; cases h
    | succ n ih => intro σ x2 x3 x4 res h; exact uX0_countChoices_39 C  (qlp (fun _ _ _ _ => none) (bX0_countChoices_39 ) n) (fun σ x2 x3 x4 res h => ih σ x2 x3 x4 res h) σ x2 x3 x4 res h
  exact key qFU σ x2 x3 x4 res h
theorem tX0_countChoices_36 {X : qX} {G : qG} (C : qC sC X G RX0 cX0_countChoices 5 2 none)  (σ : qM) (x2 : Int32) (x3 : Int32) (res : qM)  (h : fX0_countChoices_36  σ x2 x3 = some res) : qY sC X G 5 (q_Q sC X G none res) σ 36 [(0, .ref (q_ad G 16)), (2, .int x2), (3, .int x3)] [] := by
  unfold fX0_countChoices_36 at h
  refine q_iconst (pc := 36) C dX0_countChoices_36 ci_0 ?_
  refine q_istore (pc := 37) C dX0_countChoices_37 (by decide) rfl ?_
  refine q_sub [1, 2, 3, 0] rfl ?_
  exact tX0_countChoices_39 C _ _ _ _ _ h
theorem uX0_countChoices_7 {X : qX} {G : qG} (C : qC sC X G RX0 cX0_countChoices 5 2 none) (k7 : qM → Int32 → Int32 → Option qM) (hk7 : ∀ (σ : qM) (x2 : Int32) (x3 : Int32) (res : qM), k7 σ x2 x3 = some res → qY sC X G 5 (q_Q sC X G none res) σ 7 [(0, .ref (q_ad G 16)), (2, .int x2), (3, .int x3)] []) (σ : qM) (x2 : Int32) (x3 : Int32) (res : qM)  (h : bX0_countChoices_7 k7 σ x2 x3 = some res) : qY sC X G 5 (q_Q sC X G none res) σ 7 [(0, .ref (q_ad G 16)), (2, .int x2), (3, .int x3)] [] := by
  unfold bX0_countChoices_7 at h
  refine q_iload_n (pc := 7) C 2 rfl dX0_countChoices_7 rfl ?_
  refine q_bipush (pc := 8) C dX0_countChoices_8 cb_12 ?_
  refine q_ic_gt (pc := 10) C 26 dX0_countChoices_10 (by decide) (fun c1 => ?_) (fun c1 => ?_)
  · have h := q_t c1 h
    refine q_iconst (pc := 26) C dX0_countChoices_26 ci_1 ?_
    refine q_aload_n (pc := 27) C 0 rfl dX0_countChoices_27 rfl ?_
    refine q_getR (pc := 28) (t := 1) C fl_RX0_52 kC_16 rfl rC_16_0 dX0_countChoices_28 ?_
    refine q_getI (pc := 31) C fl_RX0_76 kC_1 rfl dX0_countChoices_31 ?_
    refine q_shl (pc := 34) C dX0_countChoices_34 ?_
    refine q_istore_n (pc := 35) C dX0_countChoices_35 rfl (by decide) rfl ?_
    refine q_sub [1, 2, 0] rfl ?_
    exact tX0_countChoices_36 C _ _ _ _ h
  · have h := q_f c1 h
    refine q_aload_n (pc := 13) C 0 rfl dX0_countChoices_13 rfl ?_
    refine q_getR (pc := 14) (t := 42) C fl_RX0_45 kC_16 rfl rC_16_13 dX0_countChoices_14 ?_
    refine q_iload_n (pc := 17) C 2 rfl dX0_countChoices_17 rfl ?_
    refine q_iconst (pc := 18) C dX0_countChoices_18 ci_0 ?_
    obtain ⟨g2, h⟩ := q_guard h
    refine q_iast (pc := 19) C kC_42 lC_42 g2 dX0_countChoices_19 ?_
    refine q_inc (pc := 20) C 2 rfl ci_1 dX0_countChoices_20 (by decide) rfl ?_
    refine q_goto (pc := 23) C 7 dX0_countChoices_23 (by decide) ?_
    refine q_sub [1, 2, 0] rfl ?_
    exact hk7 _ _ _ _ h
theorem tX0_countChoices_7 {X : qX} {G : qG} (C : qC sC X G RX0 cX0_countChoices 5 2 none)  (σ : qM) (x2 : Int32) (x3 : Int32) (res : qM)  (h : fX0_countChoices_7  σ x2 x3 = some res) : qY sC X G 5 (q_Q sC X G none res) σ 7 [(0, .ref (q_ad G 16)), (2, .int x2), (3, .int x3)] [] := by
  have key : ∀ (n : Nat) (σ : qM) (x2 : Int32) (x3 : Int32) (res : qM) , qlp (fun _ _ _ => none) (bX0_countChoices_7 ) n σ x2 x3 = some res → qY sC X G 5 (q_Q sC X G none res) σ 7 [(0, .ref (q_ad G 16)), (2, .int x2), (3, .int x3)] [] := by
    intro n
    induction n with
    | zero => intro σ x2 x3 res h; cases h
    | succ n ih => intro σ x2 x3 res h; exact uX0_countChoices_7 C  (qlp (fun _ _ _ => none) (bX0_countChoices_7 ) n) (fun σ x2 x3 res h => ih σ x2 x3 res h) σ x2 x3 res h
  exact key qFU σ x2 x3 res h
theorem zX0_countChoices {G : qG} {l : Launch} {σ : qM} {x1 : Int32} {x2 : Int32} {res : qM}  (h : fX0_countChoices σ x1 x2 = some res) : qCon sC G l yX0_countChoices cX0_countChoices 5 none 2 [.ref (q_ad G 16), .int x1, .int x2] σ none res := by
  refine qCon.mkF (lv := [(0, .ref (q_ad G 16)), (1, .int x1), (2, .int x2)]) (plainFor_of_name (by decide)) (Nat.le_of_ble_eq_true rfl) rfl (fun X hX C => ?_)
  unfold fX0_countChoices at h
  refine q_aload_n (pc := 0) C 0 rfl dX0_countChoices_0 rfl ?_
  refine q_iload_n (pc := 1) C 1 rfl dX0_countChoices_1 rfl ?_
  obtain ⟨q1, hq1, h⟩ := q_bind h
  refine q_callV0 (pc := 2) (st := []) C (zX0_fillRulesByLeaves hq1) yi_X0_fillRulesByLeaves ml_RX0_138 kC_16 rfl (by decide) rfl (Nat.le_of_ble_eq_true rfl) dX0_countChoices_2 ?_
  refine q_iconst (pc := 5) C dX0_countChoices_5 ci_0 ?_
  refine q_istore_n (pc := 6) C dX0_countChoices_6 rfl (by decide) rfl ?_
  refine q_sub [1, 3, 0] rfl ?_
  exact tX0_countChoices_7 C _ _ _ _ h
/-! X0_power -/
theorem tX0_power_15 {X : qX} {G : qG} (C : qC sC X G RX0 cX0_power 6 0 (some .long)) (k5 : qM → Int64 → Int32 → Int64 → Int32 → Option (Int64 × qM)) (hk5 : ∀ (σ : qM) (x0 : Int64) (x2 : Int32) (x3 : Int64) (x5 : Int32) (res : (Int64 × qM)), k5 σ x0 x2 x3 x5 = some res → qY sC X G 6 (q_Q sC X G (some (.long res.1)) res.2) σ 5 [(0, .long x0), (2, .int x2), (3, .long x3), (5, .int x5)] []) (σ : qM) (x0 : Int64) (x2 : Int32) (x3 : Int64) (x5 : Int32) (res : (Int64 × qM))  (h : fX0_power_15 k5 σ x0 x2 x3 x5 = some res) : qY sC X G 6 (q_Q sC X G (some (.long res.1)) res.2) σ 15 [(0, .long x0), (2, .int x2), (3, .long x3), (5, .int x5)] [] := by
  unfold fX0_power_15 at h
  refine q_inc (pc := 15) C 3 rfl ci_1 dX0_power_15 (by decide) rfl ?_
  refine q_goto (pc := 18) C 5 dX0_power_18 (by decide) ?_
  refine q_sub [1, 2, 3, 0] rfl ?_
  exact hk5 _ _ _ _ _ _ h
theorem uX0_power_5 {X : qX} {G : qG} (C : qC sC X G RX0 cX0_power 6 0 (some .long)) (k5 : qM → Int64 → Int32 → Int64 → Int32 → Option (Int64 × qM)) (hk5 : ∀ (σ : qM) (x0 : Int64) (x2 : Int32) (x3 : Int64) (x5 : Int32) (res : (Int64 × qM)), k5 σ x0 x2 x3 x5 = some res → qY sC X G 6 (q_Q sC X G (some (.long res.1)) res.2) σ 5 [(0, .long x0), (2, .int x2), (3, .long x3), (5, .int x5)] []) (σ : qM) (x0 : Int64) (x2 : Int32) (x3 : Int64) (x5 : Int32) (res : (Int64 × qM))  (h : bX0_power_5 k5 σ x0 x2 x3 x5 = some res) : qY sC X G 6 (q_Q sC X G (some (.long res.1)) res.2) σ 5 [(0, .long x0), (2, .int x2), (3, .long x3), (5, .int x5)] [] := by
  unfold bX0_power_5 at h
  refine q_iload (pc := 5) C 3 rfl dX0_power_5 ?_
  refine q_iload_n (pc := 7) C 1 rfl dX0_power_7 rfl ?_
  refine q_ic_ge (pc := 8) C 21 dX0_power_8 (by decide) (fun c1 => ?_) (fun c1 => ?_)
  · have h := q_t c1 h
    refine q_lload_n (pc := 21) C 2 rfl dX0_power_21 rfl ?_
    obtain rfl := Option.some.inj h
    exact q_lret (pc := 22) C dX0_power_22
  · have h := q_f c1 h
    refine q_lload_n (pc := 11) C 2 rfl dX0_power_11 rfl ?_
    refine q_lload_n (pc := 12) C 0 rfl dX0_power_12 rfl ?_
    refine q_lmul (pc := 13) C dX0_power_13 ?_
    refine q_lstore_n (pc := 14) C dX0_power_14 rfl (by decide) rfl ?_
    refine q_sub [1, 2, 0, 3] rfl ?_
    exact tX0_power_15 C k5 hk5 _ _ _ _ _ _ h
theorem tX0_power_5 {X : qX} {G : qG} (C : qC sC X G RX0 cX0_power 6 0 (some .long))  (σ : qM) (x0 : Int64) (x2 : Int32) (x3 : Int64) (x5 : Int32) (res : (Int64 × qM))  (h : fX0_power_5  σ x0 x2 x3 x5 = some res) : qY sC X G 6 (q_Q sC X G (some (.long res.1)) res.2) σ 5 [(0, .long x0), (2, .int x2), (3, .long x3), (5, .int x5)] [] := by
  have key : ∀ (n : Nat) (σ : qM) (x0 : Int64) (x2 : Int32) (x3 : Int64) (x5 : Int32) (res : (Int64 × qM)) , qlp (fun _ _ _ _ _ => none) (bX0_power_5 ) n σ x0 x2 x3 x5 = some res → qY sC X G 6 (q_Q sC X G (some (.long res.1)) res.2) σ 5 [(0, .long x0), (2, .int x2), (3, .long x3), (5, .int x5)] [] := by
    intro n
    induction n with
    | zero => intro σ x0 x2 x3 x5 res h; cases h
    | succ n ih => intro σ x0 x2 x3 x5 res h; exact uX0_power_5 C  (qlp (fun _ _ _ _ _ => none) (bX0_power_5 ) n) (fun σ x0 x2 x3 x5 res h => ih σ x0 x2 x3 x5 res h) σ x0 x2 x3 x5 res h
  exact key qFU σ x0 x2 x3 x5 res h
theorem zX0_power {G : qG} {l : Launch} {σ : qM} {x0 : Int64} {x2 : Int32} {res : (Int64 × qM)}  (h : fX0_power σ x0 x2 = some res) : qCon sC G l yX0_power cX0_power 6 (some .long) 0 [.long x0, .int x2] σ (some (.long res.1)) res.2 := by
  refine qCon.mkF (lv := [(0, .long x0), (2, .int x2)]) (plainFor_of_name (by decide)) (Nat.le_of_ble_eq_true rfl) rfl (fun X hX C => ?_)
  unfold fX0_power at h
  refine q_lconst (pc := 0) (v := (1 : Int64)) C dX0_power_0 rfl ?_
  refine q_lstore_n (pc := 1) C dX0_power_1 rfl (by decide) rfl ?_
  refine q_iconst (pc := 2) C dX0_power_2 ci_0 ?_
  refine q_istore (pc := 3) C dX0_power_3 (by decide) rfl ?_
  refine q_sub [2, 3, 1, 0] rfl ?_
  exact tX0_power_5 C _ _ _ _ _ _ h
/-! X0_chanceAbove -/
theorem tX0_chanceAbove_64 {X : qX} {G : qG} (C : qC sC X G RX0 cX0_chanceAbove 7 3 (some .long)) (k12 : qM → Int32 → Int64 → Int32 → Option (Int64 × qM)) (hk12 : ∀ (σ : qM) (x1 : Int32) (x4 : Int64) (x6 : Int32) (res : (Int64 × qM)), k12 σ x1 x4 x6 = some res → qY sC X G 7 (q_Q sC X G (some (.long res.1)) res.2) σ 12 [(0, .ref (q_ad G 16)), (1, .int x1), (4, .long x4), (6, .int x6)] []) (σ : qM) (x1 : Int32) (x4 : Int64) (x6 : Int32) (res : (Int64 × qM))  (h : fX0_chanceAbove_64 k12 σ x1 x4 x6 = some res) : qY sC X G 7 (q_Q sC X G (some (.long res.1)) res.2) σ 64 [(0, .ref (q_ad G 16)), (1, .int x1), (4, .long x4), (6, .int x6)] [] := by
  unfold fX0_chanceAbove_64 at h
  refine q_inc (pc := 64) C 3 rfl ci_1 dX0_chanceAbove_64 (by decide) rfl ?_
  refine q_goto (pc := 67) C 12 dX0_chanceAbove_67 (by decide) ?_
  refine q_sub [1, 2, 3, 0] rfl ?_
  exact hk12 _ _ _ _ _ h
theorem uX0_chanceAbove_12 {X : qX} {G : qG} (C : qC sC X G RX0 cX0_chanceAbove 7 3 (some .long)) (k12 : qM → Int32 → Int64 → Int32 → Option (Int64 × qM)) (hk12 : ∀ (σ : qM) (x1 : Int32) (x4 : Int64) (x6 : Int32) (res : (Int64 × qM)), k12 σ x1 x4 x6 = some res → qY sC X G 7 (q_Q sC X G (some (.long res.1)) res.2) σ 12 [(0, .ref (q_ad G 16)), (1, .int x1), (4, .long x4), (6, .int x6)] []) (σ : qM) (x1 : Int32) (x4 : Int64) (x6 : Int32) (res : (Int64 × qM))  (h : bX0_chanceAbove_12 k12 σ x1 x4 x6 = some res) : qY sC X G 7 (q_Q sC X G (some (.long res.1)) res.2) σ 12 [(0, .ref (q_ad G 16)), (1, .int x1), (4, .long x4), (6, .int x6)] [] := by
  unfold bX0_chanceAbove_12 at h
  refine q_iload (pc := 12) C 3 rfl dX0_chanceAbove_12 ?_
  refine q_aload_n (pc := 14) C 0 rfl dX0_chanceAbove_14 rfl ?_
  refine q_getR (pc := 15) (t := 1) C fl_RX0_52 kC_16 rfl rC_16_0 dX0_chanceAbove_15 ?_
  refine q_getI (pc := 18) C fl_RX0_76 kC_1 rfl dX0_chanceAbove_18 ?_
  refine q_ic_gt (pc := 21) C 70 dX0_chanceAbove_21 (by decide) (fun c1 => ?_) (fun c1 => ?_)
  · have h := q_t c1 h
    refine q_lload (pc := 70) C 2 rfl dX0_chanceAbove_70 ?_
    obtain rfl := Option.some.inj h
    exact q_lret (pc := 72) C dX0_chanceAbove_72
  · have h := q_f c1 h
    refine q_lload (pc := 24) C 2 rfl dX0_chanceAbove_24 ?_
    refine q_aload_n (pc := 26) C 0 rfl dX0_chanceAbove_26 rfl ?_
    refine q_getR (pc := 27) (t := 42) C fl_RX0_45 kC_16 rfl rC_16_13 dX0_chanceAbove_27 ?_
    refine q_iload (pc := 30) C 3 rfl dX0_chanceAbove_30 ?_
    obtain ⟨g2, h⟩ := q_guard h
    refine q_iald (pc := 32) C kC_42 lC_42 g2 dX0_chanceAbove_32 ?_
    refine q_i2l (pc := 33) C dX0_chanceAbove_33 ?_
    refine q_bipush (pc := 34) C dX0_chanceAbove_34 cb_16 ?_
    refine q_iload_n (pc := 36) C 1 rfl dX0_chanceAbove_36 rfl ?_
    refine q_isub (pc := 37) C dX0_chanceAbove_37 ?_
    refine q_i2l (pc := 38) C dX0_chanceAbove_38 ?_
    refine q_iload (pc := 39) C 3 rfl dX0_chanceAbove_39 ?_
    obtain ⟨q3, hq3, h⟩ := q_bind h
    refine q_callS1 (pc := 41) (st := [.long ((σ 42 x6.toNatClampNeg).toInt64), .long x4]) C (zX0_power hq3) ys_X0_power ml_RX0_161 rfl (by decide) rfl (Nat.le_of_ble_eq_true rfl) dX0_chanceAbove_41 ?_
    refine q_lmul (pc := 44) C dX0_chanceAbove_44 ?_
    refine q_iload_n (pc := 45) C 1 rfl dX0_chanceAbove_45 rfl ?_
    refine q_i2l (pc := 46) C dX0_chanceAbove_46 ?_
    refine q_aload_n (pc := 47) C 0 rfl dX0_chanceAbove_47 rfl ?_
    refine q_getR (pc := 48) (t := 1) C fl_RX0_52 kC_16 rfl rC_16_0 dX0_chanceAbove_48 ?_
    refine q_getI (pc := 51) C fl_RX0_76 kC_1 rfl dX0_chanceAbove_51 ?_
    refine q_iload (pc := 54) C 3 rfl dX0_chanceAbove_54 ?_
    refine q_isub (pc := 56) C dX0_chanceAbove_56 ?_
    obtain ⟨q4, hq4, h⟩ := q_bind h
    refine q_callS1 (pc := 57) (st := [.long ((σ 42 x6.toNatClampNeg).toInt64 * q3.1), .long x4]) C (zX0_power hq4) ys_X0_power ml_RX0_161 rfl (by decide) rfl (Nat.le_of_ble_eq_true rfl) dX0_chanceAbove_57 ?_
    refine q_lmul (pc := 60) C dX0_chanceAbove_60 ?_
    refine q_ladd (pc := 61) C dX0_chanceAbove_61 ?_
    refine q_lstore (pc := 62) C dX0_chanceAbove_62 (by decide) rfl ?_
    refine q_sub [1, 2, 0, 3] rfl ?_
    exact tX0_chanceAbove_64 C k12 hk12 _ _ _ _ _ h
theorem tX0_chanceAbove_12 {X : qX} {G : qG} (C : qC sC X G RX0 cX0_chanceAbove 7 3 (some .long))  (σ : qM) (x1 : Int32) (x4 : Int64) (x6 : Int32) (res : (Int64 × qM))  (h : fX0_chanceAbove_12  σ x1 x4 x6 = some res) : qY sC X G 7 (q_Q sC X G (some (.long res.1)) res.2) σ 12 [(0, .ref (q_ad G 16)), (1, .int x1), (4, .long x4), (6, .int x6)] [] := by
  have key : ∀ (n : Nat) (σ : qM) (x1 : Int32) (x4 : Int64) (x6 : Int32) (res : (Int64 × qM)) , qlp (fun _ _ _ _ => none) (bX0_chanceAbove_12 ) n σ x1 x4 x6 = some res → qY sC X G 7 (q_Q sC X G (some (.long res.1)) res.2) σ 12 [(0, .ref (q_ad G 16)), (1, .int x1), (4, .long x4), (6, .int x6)] [] := by
    intro n
    induction n with
    | zero => intro σ x1 x4 x6 res h; cases h
    | succ n ih => intro σ x1 x4 x6 res h; exact uX0_chanceAbove_12 C  (qlp (fun _ _ _ _ => none) (bX0_chanceAbove_12 ) n) (fun σ x1 x4 x6 res h => ih σ x1 x4 x6 res h) σ x1 x4 x6 res h
  exact key qFU σ x1 x4 x6 res h
theorem zX0_chanceAbove {G : qG} {l : Launch} {σ : qM} {x1 : Int32} {x2 : Int32} {x3 : Int32} {res : (Int64 × qM)}  (h : fX0_chanceAbove σ x1 x2 x3 = some res) : qCon sC G l yX0_chanceAbove cX0_chanceAbove 7 (some .long) 3 [.ref (q_ad G 16), .int x1, .int x2, .int x3] σ (some (.long res.1)) res.2 := by
  refine qCon.mkF (lv := [(0, .ref (q_ad G 16)), (1, .int x1), (2, .int x2), (3, .int x3)]) (plainFor_of_name (by decide)) (Nat.le_of_ble_eq_true rfl) rfl (fun X hX C => ?_)
  unfold fX0_chanceAbove at h
  refine q_aload_n (pc := 0) C 0 rfl dX0_chanceAbove_0 rfl ?_
  refine q_iload_n (pc := 1) C 2 rfl dX0_chanceAbove_1 rfl ?_
  refine q_iload_n (pc := 2) C 3 rfl dX0_chanceAbove_2 rfl ?_
  obtain ⟨q1, hq1, h⟩ := q_bind h
  refine q_callV0 (pc := 3) (st := []) C (zX0_countChoices hq1) yi_X0_countChoices ml_RX0_157 kC_16 rfl (by decide) rfl (Nat.le_of_ble_eq_true rfl) dX0_chanceAbove_3 ?_
  refine q_lconst (pc := 6) (v := (0 : Int64)) C dX0_chanceAbove_6 rfl ?_
  refine q_lstore (pc := 7) C dX0_chanceAbove_7 (by decide) rfl ?_
  refine q_iconst (pc := 9) C dX0_chanceAbove_9 ci_0 ?_
  refine q_istore (pc := 10) C dX0_chanceAbove_10 (by decide) rfl ?_
  refine q_sub [2, 3, 1, 0] rfl ?_
  exact tX0_chanceAbove_12 C _ _ _ _ _ h
/-! X1_append -/
theorem tX1_append_45 {X : qX} {G : qG} (C : qC sC X G RX1 cX1_append 3 0 (some .int))  (σ : qM) (x0 : Nat) (res : (Int32 × qM)) (hx0 : q_kd sC x0 = 1) (h : fX1_append_45  σ x0 = some res) : qY sC X G 3 (q_Q sC X G (some (.int res.1)) res.2) σ 45 [(0, .ref (q_ad G x0))] [] := by
  unfold fX1_append_45 at h
  refine q_aload_n (pc := 45) C 0 rfl dX1_append_45 rfl ?_
  refine q_getI (pc := 46) C fl_RX1_9 hx0 rfl dX1_append_46 ?_
  obtain rfl := Option.some.inj h
  exact q_iret (pc := 49) C dX1_append_49
theorem tX1_append_35 {X : qX} {G : qG} (C : qC sC X G RX1 cX1_append 3 0 (some .int))  (σ : qM) (x0 : Nat) (res : (Int32 × qM)) (hx0 : q_kd sC x0 = 1) (h : fX1_append_35  σ x0 = some res) : qY sC X G 3 (q_Q sC X G (some (.int res.1)) res.2) σ 35 [(0, .ref (q_ad G x0))] [] := by
  unfold fX1_append_35 at h
  refine q_aload_n (pc := 35) C 0 rfl dX1_append_35 rfl ?_
  refine q_dup (pc := 36) C dX1_append_36 rfl ?_
  refine q_getI (pc := 37) C fl_RX1_9 hx0 rfl dX1_append_37 ?_
  refine q_iconst (pc := 40) C dX1_append_40 ci_1 ?_
  refine q_iadd (pc := 41) C dX1_append_41 ?_
  refine q_putI (pc := 42) C fl_RX1_9 hx0 rfl rfl rfl dX1_append_42 ?_
  exact tX1_append_45 C _ _ _ hx0 h
theorem tX1_append_25 {X : qX} {G : qG} (C : qC sC X G RX1 cX1_append 3 0 (some .int))  (σ : qM) (x0 : Nat) (x2 : Int32) (res : (Int32 × qM)) (hx0 : q_kd sC x0 = 1) (h : fX1_append_25  σ x0 x2 = some res) : qY sC X G 3 (q_Q sC X G (some (.int res.1)) res.2) σ 25 [(0, .ref (q_ad G x0)), (2, .int x2)] [] := by
  unfold fX1_append_25 at h
  refine q_aload_n (pc := 25) C 0 rfl dX1_append_25 rfl ?_
  refine q_getR (pc := 26) (t := (x0 + 2)) C fl_RX1_19 hx0 rfl (rP_1 hx0) dX1_append_26 ?_
  refine q_aload_n (pc := 29) C 0 rfl dX1_append_29 rfl ?_
  refine q_getI (pc := 30) C fl_RX1_9 hx0 rfl dX1_append_30 ?_
  refine q_iload_n (pc := 33) C 1 rfl dX1_append_33 rfl ?_
  obtain ⟨g1, h⟩ := q_guard h
  refine q_iast (pc := 34) C (kP_2 hx0) rfl g1 dX1_append_34 ?_
  refine q_sub [0] rfl ?_
  exact tX1_append_35 C _ _ _ hx0 h
theorem zX1_append {G : qG} {l : Launch} {σ : qM} {o : Nat} {x1 : Int32} {x2 : Int32} {res : (Int32 × qM)} (ho : q_kd sC o = 1) (h : fX1_append σ o x1 x2 = some res) : qCon sC G l yX1_append cX1_append 3 (some .int) 0 [.ref (q_ad G o), .int x1, .int x2] σ (some (.int res.1)) res.2 := by
  refine qCon.mkF (lv := [(0, .ref (q_ad G o)), (1, .int x1), (2, .int x2)]) (plainFor_of_name (by decide)) (Nat.le_of_ble_eq_true rfl) rfl (fun X hX C => ?_)
  unfold fX1_append at h
  refine q_aload_n (pc := 0) C 0 rfl dX1_append_0 rfl ?_
  refine q_getI (pc := 1) C fl_RX1_9 ho rfl dX1_append_1 ?_
  refine q_aload_n (pc := 4) C 0 rfl dX1_append_4 rfl ?_
  refine q_getR (pc := 5) (t := (o + 1)) C fl_RX1_15 ho rfl (rP_0 ho) dX1_append_5 ?_
  refine q_alen (pc := 8) C (kP_1 ho) rfl dX1_append_8 ?_
  refine q_ic_lt (pc := 9) C 15 dX1_append_9 (by decide) (fun c1 => ?_) (fun c1 => ?_)
  · have h := q_t c1 h
    refine q_aload_n (pc := 15) C 0 rfl dX1_append_15 rfl ?_
    refine q_getR (pc := 16) (t := (o + 1)) C fl_RX1_15 ho rfl (rP_0 ho) dX1_append_16 ?_
    refine q_aload_n (pc := 19) C 0 rfl dX1_append_19 rfl ?_
    refine q_getI (pc := 20) C fl_RX1_9 ho rfl dX1_append_20 ?_
    refine q_iload_n (pc := 23) C 1 rfl dX1_append_23 rfl ?_
    obtain ⟨g2, h⟩ := q_guard h
    refine q_iast (pc := 24) C (kP_1 ho) rfl g2 dX1_append_24 ?_
    refine q_sub [0, 2] rfl ?_
    exact tX1_append_25 C _ _ _ _ ho h
  · have h := q_f c1 h
    refine q_bipush (pc := 12) C dX1_append_12 cb_m4 ?_
    obtain rfl := Option.some.inj h
    exact q_iret (pc := 14) C dX1_append_14
/-! X1_dropLast -/
theorem tX1_dropLast_20 {X : qX} {G : qG} (C : qC sC X G RX1 cX1_dropLast 1 0 (some .int))  (σ : qM) (x0 : Nat) (res : (Int32 × qM)) (hx0 : q_kd sC x0 = 1) (h : fX1_dropLast_20  σ x0 = some res) : qY sC X G 1 (q_Q sC X G (some (.int res.1)) res.2) σ 20 [(0, .ref (q_ad G x0))] [] := by
  unfold fX1_dropLast_20 at h
  refine q_aload_n (pc := 20) C 0 rfl dX1_dropLast_20 rfl ?_
  refine q_getI (pc := 21) C fl_RX1_9 hx0 rfl dX1_dropLast_21 ?_
  obtain rfl := Option.some.inj h
  exact q_iret (pc := 24) C dX1_dropLast_24
theorem zX1_dropLast {G : qG} {l : Launch} {σ : qM} {o : Nat} {res : (Int32 × qM)} (ho : q_kd sC o = 1) (h : fX1_dropLast σ o = some res) : qCon sC G l yX1_dropLast cX1_dropLast 1 (some .int) 0 [.ref (q_ad G o)] σ (some (.int res.1)) res.2 := by
  refine qCon.mkF (lv := [(0, .ref (q_ad G o))]) (plainFor_of_name (by decide)) (Nat.le_of_ble_eq_true rfl) rfl (fun X hX C => ?_)
  unfold fX1_dropLast at h
  refine q_aload_n (pc := 0) C 0 rfl dX1_dropLast_0 rfl ?_
  refine q_getI (pc := 1) C fl_RX1_9 ho rfl dX1_dropLast_1 ?_
  refine q_if_ne (pc := 4) C 10 dX1_dropLast_4 (by decide) (fun c1 => ?_) (fun c1 => ?_)
  · have h := q_f c1 h
    refine q_aload_n (pc := 10) C 0 rfl dX1_dropLast_10 rfl ?_
    refine q_dup (pc := 11) C dX1_dropLast_11 rfl ?_
    refine q_getI (pc := 12) C fl_RX1_9 ho rfl dX1_dropLast_12 ?_
    refine q_iconst (pc := 15) C dX1_dropLast_15 ci_1 ?_
    refine q_isub (pc := 16) C dX1_dropLast_16 ?_
    refine q_putI (pc := 17) C fl_RX1_9 ho rfl rfl rfl dX1_dropLast_17 ?_
    exact tX1_dropLast_20 C _ _ _ ho h
  · have h := q_t c1 h
    refine q_bipush (pc := 7) C dX1_dropLast_7 cb_m3 ?_
    obtain rfl := Option.some.inj h
    exact q_iret (pc := 9) C dX1_dropLast_9
/-! X1_empty -/
theorem zX1_empty {G : qG} {l : Launch} {σ : qM} {o : Nat} {res : (Int32 × qM)} (ho : q_kd sC o = 1) (h : fX1_empty σ o = some res) : qCon sC G l yX1_empty cX1_empty 2 (some .int) 0 [.ref (q_ad G o)] σ (some (.int res.1)) res.2 := by
  refine qCon.mkF (lv := [(0, .ref (q_ad G o))]) (plainFor_of_name (by decide)) (Nat.le_of_ble_eq_true rfl) rfl (fun X hX C => ?_)
  unfold fX1_empty at h
  refine q_aload_n (pc := 0) C 0 rfl dX1_empty_0 rfl ?_
  refine q_getI (pc := 1) C fl_RX1_9 ho rfl dX1_empty_1 ?_
  refine q_istore_n (pc := 4) C dX1_empty_4 rfl (by decide) rfl ?_
  refine q_aload_n (pc := 5) C 1 rfl dX1_empty_5 rfl ?_
  refine q_iconst (pc := 6) C dX1_empty_6 ci_0 ?_
  refine q_putI (pc := 7) C fl_RX1_9 ho rfl rfl rfl dX1_empty_7 ?_
  refine q_iload_n (pc := 10) C 0 rfl dX1_empty_10 rfl ?_
  obtain rfl := Option.some.inj h
  exact q_iret (pc := 11) C dX1_empty_11
/-! X2_isLost -/
theorem zX2_isLost {G : qG} {l : Launch} {σ : qM} {o : Nat} {res : (Int32 × qM)} (ho : q_kd sC o = 2) (h : fX2_isLost σ o = some res) : qCon sC G l yX2_isLost cX2_isLost 1 (some .boolean) 0 [.ref (q_ad G o)] σ (some (.int res.1)) res.2 := by
  refine qCon.mkF (lv := [(0, .ref (q_ad G o))]) (plainFor_of_name (by decide)) (Nat.le_of_ble_eq_true rfl) rfl (fun X hX C => ?_)
  unfold fX2_isLost at h
  refine q_aload_n (pc := 0) C 0 rfl dX2_isLost_0 rfl ?_
  refine q_getI (pc := 1) C fl_RX2_15 ho rfl dX2_isLost_1 ?_
  refine q_iconst (pc := 4) C dX2_isLost_4 ci_m1 ?_
  refine q_ic_ne (pc := 5) C 12 dX2_isLost_5 (by decide) (fun c1 => ?_) (fun c1 => ?_)
  · have h := q_f c1 h
    refine q_iconst (pc := 12) C dX2_isLost_12 ci_0 ?_
    obtain rfl := Option.some.inj h
    exact q_zret (pc := 13) C (Or.inl rfl) dX2_isLost_13
  · have h := q_t c1 h
    refine q_iconst (pc := 8) C dX2_isLost_8 ci_1 ?_
    refine q_goto (pc := 9) C 13 dX2_isLost_9 (by decide) ?_
    obtain rfl := Option.some.inj h
    exact q_zret (pc := 13) C (Or.inr rfl) dX2_isLost_13
/-! X2_begin -/
theorem uX2_begin_12 {X : qX} {G : qG} (C : qC sC X G RX2 cX2_begin 4 0 none) (k12 : qM → Nat → Int32 → Option qM) (hk12 : ∀ (σ : qM) (x0 : Nat) (x3 : Int32) (res : qM) (hx0 : q_kd sC x0 = 2), k12 σ x0 x3 = some res → qY sC X G 4 (q_Q sC X G none res) σ 12 [(0, .ref (q_ad G x0)), (3, .int x3)] []) (σ : qM) (x0 : Nat) (x3 : Int32) (res : qM) (hx0 : q_kd sC x0 = 2) (h : bX2_begin_12 k12 σ x0 x3 = some res) : qY sC X G 4 (q_Q sC X G none res) σ 12 [(0, .ref (q_ad G x0)), (3, .int x3)] [] := by
  unfold bX2_begin_12 at h
  refine q_iload_n (pc := 12) C 1 rfl dX2_begin_12 rfl ?_
  refine q_bipush (pc := 13) C dX2_begin_13 cb_60 ?_
  refine q_ic_ge (pc := 15) C 31 dX2_begin_15 (by decide) (fun c1 => ?_) (fun c1 => ?_)
  · have h := q_t c1 h
    obtain rfl := Option.some.inj h
    exact q_vret (pc := 31) C dX2_begin_31
  · have h := q_f c1 h
    refine q_aload_n (pc := 18) C 0 rfl dX2_begin_18 rfl ?_
    refine q_getR (pc := 19) (t := (x0 + 1)) C fl_RX2_9 hx0 rfl (rH_0 hx0) dX2_begin_19 ?_
    refine q_iload_n (pc := 22) C 1 rfl dX2_begin_22 rfl ?_
    refine q_iconst (pc := 23) C dX2_begin_23 ci_0 ?_
    obtain ⟨g2, h⟩ := q_guard h
    refine q_iast (pc := 24) C (kH_1 hx0) (lH_1 hx0) g2 dX2_begin_24 ?_
    refine q_inc (pc := 25) C 1 rfl ci_1 dX2_begin_25 (by decide) rfl ?_
    refine q_goto (pc := 28) C 12 dX2_begin_28 (by decide) ?_
    refine q_sub [1, 0] rfl ?_
    exact hk12 _ _ _ _ hx0 h
theorem tX2_begin_12 {X : qX} {G : qG} (C : qC sC X G RX2 cX2_begin 4 0 none)  (σ : qM) (x0 : Nat) (x3 : Int32) (res : qM) (hx0 : q_kd sC x0 = 2) (h : fX2_begin_12  σ x0 x3 = some res) : qY sC X G 4 (q_Q sC X G none res) σ 12 [(0, .ref (q_ad G x0)), (3, .int x3)] [] := by
  have key : ∀ (n : Nat) (σ : qM) (x0 : Nat) (x3 : Int32) (res : qM) (hx0 : q_kd sC x0 = 2), qlp (fun _ _ _ => none) (bX2_begin_12 ) n σ x0 x3 = some res → qY sC X G 4 (q_Q sC X G none res) σ 12 [(0, .ref (q_ad G x0)), (3, .int x3)] [] := by
    intro n
    induction n with
    | zero => intro σ x0 x3 res hx0 h; cases h
    | succ n ih => intro σ x0 x3 res hx0 h; exact uX2_begin_12 C  (qlp (fun _ _ _ => none) (bX2_begin_12 ) n) (fun σ x0 x3 res hx0 h => ih σ x0 x3 res hx0 h) σ x0 x3 res hx0 h
  exact key qFU σ x0 x3 res hx0 h
theorem tX2_begin_5 {X : qX} {G : qG} (C : qC sC X G RX2 cX2_begin 4 0 none)  (σ : qM) (x0 : Nat) (x2 : Int32) (res : qM) (hx0 : q_kd sC x0 = 2) (h : fX2_begin_5  σ x0 x2 = some res) : qY sC X G 4 (q_Q sC X G none res) σ 5 [(0, .ref (q_ad G x0)), (2, .int x2)] [] := by
  unfold fX2_begin_5 at h
  refine q_aload_n (pc := 5) C 0 rfl dX2_begin_5 rfl ?_
  refine q_iload_n (pc := 6) C 1 rfl dX2_begin_6 rfl ?_
  refine q_putI (pc := 7) C fl_RX2_19 hx0 rfl rfl rfl dX2_begin_7 ?_
  refine q_iconst (pc := 10) C dX2_begin_10 ci_0 ?_
  refine q_istore_n (pc := 11) C dX2_begin_11 rfl (by decide) rfl ?_
  refine q_sub [1, 0] rfl ?_
  exact tX2_begin_12 C _ _ _ _ hx0 h
theorem zX2_begin {G : qG} {l : Launch} {σ : qM} {o : Nat} {x1 : Int32} {x2 : Int32} {res : qM} (ho : q_kd sC o = 2) (h : fX2_begin σ o x1 x2 = some res) : qCon sC G l yX2_begin cX2_begin 4 none 0 [.ref (q_ad G o), .int x1, .int x2] σ none res := by
  refine qCon.mkF (lv := [(0, .ref (q_ad G o)), (1, .int x1), (2, .int x2)]) (plainFor_of_name (by decide)) (Nat.le_of_ble_eq_true rfl) rfl (fun X hX C => ?_)
  unfold fX2_begin at h
  refine q_aload_n (pc := 0) C 0 rfl dX2_begin_0 rfl ?_
  refine q_iload_n (pc := 1) C 1 rfl dX2_begin_1 rfl ?_
  refine q_putI (pc := 2) C fl_RX2_15 ho rfl rfl rfl dX2_begin_2 ?_
  refine q_sub [0, 2] rfl ?_
  exact tX2_begin_5 C _ _ _ _ ho h
/-! X2_end -/
theorem tX2_end_10 {X : qX} {G : qG} (C : qC sC X G RX2 cX2_end 2 0 (some .int))  (σ : qM) (x0 : Nat) (x1 : Int32) (res : (Int32 × qM)) (hx0 : q_kd sC x0 = 2) (h : fX2_end_10  σ x0 x1 = some res) : qY sC X G 2 (q_Q sC X G (some (.int res.1)) res.2) σ 10 [(0, .ref (q_ad G x0)), (1, .int x1)] [] := by
  unfold fX2_end_10 at h
  refine q_aload_n (pc := 10) C 0 rfl dX2_end_10 rfl ?_
  refine q_iconst (pc := 11) C dX2_end_11 ci_0 ?_
  refine q_putI (pc := 12) C fl_RX2_19 hx0 rfl rfl rfl dX2_end_12 ?_
  refine q_iload_n (pc := 15) C 1 rfl dX2_end_15 rfl ?_
  obtain rfl := Option.some.inj h
  exact q_iret (pc := 16) C dX2_end_16
theorem zX2_end {G : qG} {l : Launch} {σ : qM} {o : Nat} {res : (Int32 × qM)} (ho : q_kd sC o = 2) (h : fX2_end σ o = some res) : qCon sC G l yX2_end cX2_end 2 (some .int) 0 [.ref (q_ad G o)] σ (some (.int res.1)) res.2 := by
  refine qCon.mkF (lv := [(0, .ref (q_ad G o))]) (plainFor_of_name (by decide)) (Nat.le_of_ble_eq_true rfl) rfl (fun X hX C => ?_)
  unfold fX2_end at h
  refine q_aload_n (pc := 0) C 0 rfl dX2_end_0 rfl ?_
  refine q_getI (pc := 1) C fl_RX2_19 ho rfl dX2_end_1 ?_
  refine q_istore_n (pc := 4) C dX2_end_4 rfl (by decide) rfl ?_
  refine q_aload_n (pc := 5) C 1 rfl dX2_end_5 rfl ?_
  refine q_iconst (pc := 6) C dX2_end_6 ci_m1 ?_
  refine q_putI (pc := 7) C fl_RX2_15 ho rfl rfl rfl dX2_end_7 ?_
  refine q_sub [1, 0] rfl ?_
  exact tX2_end_10 C _ _ _ _ ho h
/-! X2_has -/
theorem zX2_has {G : qG} {l : Launch} {σ : qM} {o : Nat} {x1 : Int32} {x2 : Int32} {res : (Int32 × qM)} (ho : q_kd sC o = 2) (h : fX2_has σ o x1 x2 = some res) : qCon sC G l yX2_has cX2_has 3 (some .boolean) 0 [.ref (q_ad G o), .int x1, .int x2] σ (some (.int res.1)) res.2 := by
  refine qCon.mkF (lv := [(0, .ref (q_ad G o)), (1, .int x1), (2, .int x2)]) (plainFor_of_name (by decide)) (Nat.le_of_ble_eq_true rfl) rfl (fun X hX C => ?_)
  unfold fX2_has at h
  refine q_iload_n (pc := 0) C 1 rfl dX2_has_0 rfl ?_
  refine q_if_lt (pc := 1) C 30 dX2_has_1 (by decide) (fun c1 => ?_) (fun c1 => ?_)
  · have h := q_t c1 h
    refine q_iconst (pc := 30) C dX2_has_30 ci_0 ?_
    obtain rfl := Option.some.inj h
    exact q_zret (pc := 31) C (Or.inl rfl) dX2_has_31
  · have h := q_f c1 h
    refine q_iload_n (pc := 4) C 2 rfl dX2_has_4 rfl ?_
    refine q_if_lt (pc := 5) C 30 dX2_has_5 (by decide) (fun c2 => ?_) (fun c2 => ?_)
    · have h := q_t c2 h
      refine q_iconst (pc := 30) C dX2_has_30 ci_0 ?_
      obtain rfl := Option.some.inj h
      exact q_zret (pc := 31) C (Or.inl rfl) dX2_has_31
    · have h := q_f c2 h
      refine q_iload_n (pc := 8) C 1 rfl dX2_has_8 rfl ?_
      refine q_aload_n (pc := 9) C 0 rfl dX2_has_9 rfl ?_
      refine q_getI (pc := 10) C fl_RX2_19 ho rfl dX2_has_10 ?_
      refine q_ic_gt (pc := 13) C 30 dX2_has_13 (by decide) (fun c3 => ?_) (fun c3 => ?_)
      · have h := q_t c3 h
        refine q_iconst (pc := 30) C dX2_has_30 ci_0 ?_
        obtain rfl := Option.some.inj h
        exact q_zret (pc := 31) C (Or.inl rfl) dX2_has_31
      · have h := q_f c3 h
        refine q_iload_n (pc := 16) C 2 rfl dX2_has_16 rfl ?_
        refine q_aload_n (pc := 17) C 0 rfl dX2_has_17 rfl ?_
        refine q_getI (pc := 18) C fl_RX2_19 ho rfl dX2_has_18 ?_
        refine q_iload_n (pc := 21) C 1 rfl dX2_has_21 rfl ?_
        refine q_isub (pc := 22) C dX2_has_22 ?_
        refine q_ic_gt (pc := 23) C 30 dX2_has_23 (by decide) (fun c4 => ?_) (fun c4 => ?_)
        · have h := q_t c4 h
          refine q_iconst (pc := 30) C dX2_has_30 ci_0 ?_
          obtain rfl := Option.some.inj h
          exact q_zret (pc := 31) C (Or.inl rfl) dX2_has_31
        · have h := q_f c4 h
          refine q_iconst (pc := 26) C dX2_has_26 ci_1 ?_
          refine q_goto (pc := 27) C 31 dX2_has_27 (by decide) ?_
          obtain rfl := Option.some.inj h
          exact q_zret (pc := 31) C (Or.inr rfl) dX2_has_31
/-! X2_put -/
theorem zX2_put {G : qG} {l : Launch} {σ : qM} {o : Nat} {x1 : Int32} {x2 : Int32} {res : qM} (ho : q_kd sC o = 2) (h : fX2_put σ o x1 x2 = some res) : qCon sC G l yX2_put cX2_put 3 none 0 [.ref (q_ad G o), .int x1, .int x2] σ none res := by
  refine qCon.mkF (lv := [(0, .ref (q_ad G o)), (1, .int x1), (2, .int x2)]) (plainFor_of_name (by decide)) (Nat.le_of_ble_eq_true rfl) rfl (fun X hX C => ?_)
  unfold fX2_put at h
  refine q_aload_n (pc := 0) C 0 rfl dX2_put_0 rfl ?_
  refine q_getI (pc := 1) C fl_RX2_15 ho rfl dX2_put_1 ?_
  by_cases c1 : (σ o 1) = (0 : Int32)
  · have h := q_t c1 h
    refine q_lookup (pc := 4) (off := 28) C 32 dX2_put_4 (by decide) (by rw [c1]; decide) (by decide) ?_
    refine q_aload_n (pc := 32) C 0 rfl dX2_put_32 rfl ?_
    refine q_getR (pc := 33) (t := (o + 1)) C fl_RX2_9 ho rfl (rH_0 ho) dX2_put_33 ?_
    refine q_iload_n (pc := 36) C 1 rfl dX2_put_36 rfl ?_
    refine q_iload_n (pc := 37) C 2 rfl dX2_put_37 rfl ?_
    refine q_i2b (pc := 38) C dX2_put_38 ?_
    obtain ⟨g2, h⟩ := q_guard h
    refine q_iast (pc := 39) C (kH_1 ho) (lH_1 ho) g2 dX2_put_39 ?_
    refine q_goto (pc := 40) C 61 dX2_put_40 (by decide) ?_
    obtain rfl := Option.some.inj h
    exact q_vret (pc := 61) C dX2_put_61
  · have h := q_f c1 h
    by_cases c3 : (σ o 1) = (1 : Int32)
    · have h := q_t c3 h
      refine q_lookup (pc := 4) (off := 39) C 43 dX2_put_4 (by decide) (by rw [c3]; decide) (by decide) ?_
      refine q_aload_n (pc := 43) C 0 rfl dX2_put_43 rfl ?_
      refine q_getR (pc := 44) (t := (o + 1)) C fl_RX2_9 ho rfl (rH_0 ho) dX2_put_44 ?_
      refine q_iload_n (pc := 47) C 1 rfl dX2_put_47 rfl ?_
      refine q_iload_n (pc := 48) C 2 rfl dX2_put_48 rfl ?_
      refine q_i2s (pc := 49) C dX2_put_49 ?_
      obtain ⟨g4, h⟩ := q_guard h
      refine q_iast (pc := 50) C (kH_1 ho) (lH_1 ho) g4 dX2_put_50 ?_
      refine q_goto (pc := 51) C 61 dX2_put_51 (by decide) ?_
      obtain rfl := Option.some.inj h
      exact q_vret (pc := 61) C dX2_put_61
    · have h := q_f c3 h
      refine q_lookup (pc := 4) (off := 50) C 54 dX2_put_4 (by decide) (by show Op.lookupswitch.offset [(0, 28), (1, 39)] 50 _ = _; rw [lv_osw c1 ct_0, lv_osw c3 ct_1]; rfl) (by decide) ?_
      refine q_aload_n (pc := 54) C 0 rfl dX2_put_54 rfl ?_
      refine q_getR (pc := 55) (t := (o + 1)) C fl_RX2_9 ho rfl (rH_0 ho) dX2_put_55 ?_
      refine q_iload_n (pc := 58) C 1 rfl dX2_put_58 rfl ?_
      refine q_iload_n (pc := 59) C 2 rfl dX2_put_59 rfl ?_
      obtain ⟨g5, h⟩ := q_guard h
      refine q_iast (pc := 60) C (kH_1 ho) (lH_1 ho) g5 dX2_put_60 ?_
      obtain rfl := Option.some.inj h
      exact q_vret (pc := 61) C dX2_put_61
/-! X3_signsOfLeaf -/
theorem zX3_signsOfLeaf {G : qG} {l : Launch} {σ : qM} {x0 : Int32} {res : (Nat × qM)}  (h : fX3_signsOfLeaf σ x0 = some res) : qCon sC G l yX3_signsOfLeaf cX3_signsOfLeaf 1 (some (.array .char)) 0 [.int x0] σ (some (.ref (q_aK G res.1))) res.2 := by
  refine qCon.mkF (lv := [(0, .int x0)]) (plainFor_of_name (by decide)) (Nat.le_of_ble_eq_true rfl) rfl (fun X hX C => ?_)
  unfold fX3_signsOfLeaf at h
  refine q_iload_n (pc := 0) C 0 rfl dX3_signsOfLeaf_0 rfl ?_
  by_cases c1 : x0 = (0 : Int32)
  · have h := q_t c1 h
    refine q_lookup (pc := 1) (off := 27) C 28 dX3_signsOfLeaf_1 (by decide) (by rw [c1]; decide) (by decide) ?_
    refine q_gst (pc := 28) C 0 (by decide) rfl dX3_signsOfLeaf_28 ?_
    obtain rfl := Option.some.inj h
    exact q_aretA (pc := 31) C dX3_signsOfLeaf_31
  · have h := q_f c1 h
    by_cases c2 : x0 = (1 : Int32)
    · have h := q_t c2 h
      refine q_lookup (pc := 1) (off := 31) C 32 dX3_signsOfLeaf_1 (by decide) (by rw [c2]; decide) (by decide) ?_
      refine q_gst (pc := 32) C 1 (by decide) rfl dX3_signsOfLeaf_32 ?_
      obtain rfl := Option.some.inj h
      exact q_aretA (pc := 35) C dX3_signsOfLeaf_35
    · have h := q_f c2 h
      refine q_lookup (pc := 1) (off := 35) C 36 dX3_signsOfLeaf_1 (by decide) (by show Op.lookupswitch.offset [(0, 27), (1, 31)] 35 _ = _; rw [lv_osw c1 ct_0, lv_osw c2 ct_1]; rfl) (by decide) ?_
      refine q_gst (pc := 36) C 2 (by decide) rfl dX3_signsOfLeaf_36 ?_
      obtain rfl := Option.some.inj h
      exact q_aretA (pc := 39) C dX3_signsOfLeaf_39
/-! X3_signsOfRule -/
theorem zX3_signsOfRule {G : qG} {l : Launch} {σ : qM} {x0 : Int32} {res : (Nat × qM)}  (h : fX3_signsOfRule σ x0 = some res) : qCon sC G l yX3_signsOfRule cX3_signsOfRule 1 (some (.array .char)) 0 [.int x0] σ (some (.ref (q_aK G res.1))) res.2 := by
  refine qCon.mkF (lv := [(0, .int x0)]) (plainFor_of_name (by decide)) (Nat.le_of_ble_eq_true rfl) rfl (fun X hX C => ?_)
  unfold fX3_signsOfRule at h
  refine q_iload_n (pc := 0) C 0 rfl dX3_signsOfRule_0 rfl ?_
  by_cases c1 : x0 = (1 : Int32)
  · have h := q_t c1 h
    refine q_tableIn (pc := 1) (off := 31) C 32 dX3_signsOfRule_1 (by rw [c1]; decide) (by rw [c1]; decide) (by rw [c1]; decide) (by decide) ?_
    refine q_gst (pc := 32) C 3 (by decide) rfl dX3_signsOfRule_32 ?_
    obtain rfl := Option.some.inj h
    exact q_aretA (pc := 35) C dX3_signsOfRule_35
  · have h := q_f c1 h
    by_cases c2 : x0 = (2 : Int32)
    · have h := q_t c2 h
      refine q_tableIn (pc := 1) (off := 43) C 44 dX3_signsOfRule_1 (by rw [c2]; decide) (by rw [c2]; decide) (by rw [c2]; decide) (by decide) ?_
      refine q_gst (pc := 44) C 2 (by decide) rfl dX3_signsOfRule_44 ?_
      obtain rfl := Option.some.inj h
      exact q_aretA (pc := 47) C dX3_signsOfRule_47
    · have h := q_f c2 h
      by_cases c3 : x0 = (3 : Int32)
      · have h := q_t c3 h
        refine q_tableIn (pc := 1) (off := 35) C 36 dX3_signsOfRule_1 (by rw [c3]; decide) (by rw [c3]; decide) (by rw [c3]; decide) (by decide) ?_
        refine q_gst (pc := 36) C 4 (by decide) rfl dX3_signsOfRule_36 ?_
        obtain rfl := Option.some.inj h
        exact q_aretA (pc := 39) C dX3_signsOfRule_39
      · have h := q_f c3 h
        by_cases c4 : x0 = (4 : Int32)
        · have h := q_t c4 h
          refine q_tableIn (pc := 1) (off := 39) C 40 dX3_signsOfRule_1 (by rw [c4]; decide) (by rw [c4]; decide) (by rw [c4]; decide) (by decide) ?_
          refine q_gst (pc := 40) C 5 (by decide) rfl dX3_signsOfRule_40 ?_
          obtain rfl := Option.some.inj h
          exact q_aretA (pc := 43) C dX3_signsOfRule_43
        · have h := q_f c4 h
          have ec1 := lv_neT c1 ct_1
          have ec2 := lv_neT c2 ct_2
          have ec3 := lv_neT c3 ct_3
          have ec4 := lv_neT c4 ct_4
          refine q_tableOut (pc := 1) C 44 dX3_signsOfRule_1 (by omega) (by decide) ?_
          refine q_gst (pc := 44) C 2 (by decide) rfl dX3_signsOfRule_44 ?_
          obtain rfl := Option.some.inj h
          exact q_aretA (pc := 47) C dX3_signsOfRule_47
/-! X3_signs -/
theorem zX3_signs {G : qG} {l : Launch} {σ : qM} {o : Nat} {x1 : Int32} {res : (Nat × qM)} (ho : q_kd sC o = 3) (h : fX3_signs σ o x1 = some res) : qCon sC G l yX3_signs cX3_signs 2 (some (.array .char)) 1 [.ref (q_ad G o), .int x1] σ (some (.ref (q_aK G res.1))) res.2 := by
  refine qCon.mkF (lv := [(0, .ref (q_ad G o)), (1, .int x1)]) (plainFor_of_name (by decide)) (Nat.le_of_ble_eq_true rfl) rfl (fun X hX C => ?_)
  unfold fX3_signs at h
  refine q_iload_n (pc := 0) C 1 rfl dX3_signs_0 rfl ?_
  refine q_aload_n (pc := 1) C 0 rfl dX3_signs_1 rfl ?_
  refine q_getI (pc := 2) C fl_RX3_25 ho rfl dX3_signs_2 ?_
  refine q_ic_ne (pc := 5) C 12 dX3_signs_5 (by decide) (fun c1 => ?_) (fun c1 => ?_)
  · have h := q_f c1 h
    refine q_aload_n (pc := 12) C 0 rfl dX3_signs_12 rfl ?_
    refine q_getI (pc := 13) C fl_RX3_21 ho rfl dX3_signs_13 ?_
    refine q_if_eq (pc := 16) C 26 dX3_signs_16 (by decide) (fun c2 => ?_) (fun c2 => ?_)
    · have h := q_t c2 h
      refine q_iload_n (pc := 26) C 1 rfl dX3_signs_26 rfl ?_
      obtain ⟨q3, hq3, h⟩ := q_bind h
      refine q_callS1 (pc := 27) (st := []) C (zX3_signsOfRule hq3) ys_X3_signsOfRule ml_RX3_53 rfl (by decide) rfl (Nat.le_of_ble_eq_true rfl) dX3_signs_27 ?_
      obtain ⟨g4, h⟩ := q_guard h
      obtain rfl := Option.some.inj h
      exact q_aretA (pc := 30) C dX3_signs_30
    · have h := q_f c2 h
      refine q_iload_n (pc := 19) C 1 rfl dX3_signs_19 rfl ?_
      obtain ⟨q5, hq5, h⟩ := q_bind h
      refine q_callS1 (pc := 20) (st := []) C (zX3_signsOfLeaf hq5) ys_X3_signsOfLeaf ml_RX3_50 rfl (by decide) rfl (Nat.le_of_ble_eq_true rfl) dX3_signs_20 ?_
      obtain ⟨g6, h⟩ := q_guard h
      refine q_goto (pc := 23) C 30 dX3_signs_23 (by decide) ?_
      obtain rfl := Option.some.inj h
      exact q_aretA (pc := 30) C dX3_signs_30
  · have h := q_t c1 h
    refine q_gst (pc := 8) C 6 (by decide) rfl dX3_signs_8 ?_
    obtain rfl := Option.some.inj h
    exact q_aretA (pc := 11) C dX3_signs_11
/-! X3_placeOf -/
theorem uX3_placeOf_2 {X : qX} {G : qG} (C : qC sC X G RX3 cX3_placeOf 3 0 (some .int)) (k2 : qM → Int32 → Nat → Int32 → Option (Int32 × qM)) (hk2 : ∀ (σ : qM) (x0 : Int32) (x1 : Nat) (x2 : Int32) (res : (Int32 × qM)) (hx1 : x1 < 7), k2 σ x0 x1 x2 = some res → qY sC X G 3 (q_Q sC X G (some (.int res.1)) res.2) σ 2 [(0, .int x0), (1, .ref (q_aK G x1)), (2, .int x2)] []) (σ : qM) (x0 : Int32) (x1 : Nat) (x2 : Int32) (res : (Int32 × qM)) (hx1 : x1 < 7) (h : bX3_placeOf_2 k2 σ x0 x1 x2 = some res) : qY sC X G 3 (q_Q sC X G (some (.int res.1)) res.2) σ 2 [(0, .int x0), (1, .ref (q_aK G x1)), (2, .int x2)] [] := by
  unfold bX3_placeOf_2 at h
  refine q_iload_n (pc := 2) C 2 rfl dX3_placeOf_2 rfl ?_
  refine q_aload_n (pc := 3) C 1 rfl dX3_placeOf_3 rfl ?_
  refine q_clen (pc := 4) C hx1 dX3_placeOf_4 ?_
  refine q_ic_ge (pc := 5) C 23 dX3_placeOf_5 (by decide) (fun c1 => ?_) (fun c1 => ?_)
  · have h := q_t c1 h
    refine q_iconst (pc := 23) C dX3_placeOf_23 ci_m1 ?_
    obtain rfl := Option.some.inj h
    exact q_iret (pc := 24) C dX3_placeOf_24
  · have h := q_f c1 h
    refine q_aload_n (pc := 8) C 1 rfl dX3_placeOf_8 rfl ?_
    refine q_iload_n (pc := 9) C 2 rfl dX3_placeOf_9 rfl ?_
    obtain ⟨g2, h⟩ := q_guard h
    refine q_cald (pc := 10) C hx1 g2 dX3_placeOf_10 ?_
    refine q_iload_n (pc := 11) C 0 rfl dX3_placeOf_11 rfl ?_
    refine q_ic_ne (pc := 12) C 17 dX3_placeOf_12 (by decide) (fun c3 => ?_) (fun c3 => ?_)
    · have h := q_f c3 h
      refine q_inc (pc := 17) C 2 rfl ci_1 dX3_placeOf_17 (by decide) rfl ?_
      refine q_goto (pc := 20) C 2 dX3_placeOf_20 (by decide) ?_
      refine q_sub [1, 2, 0] rfl ?_
      exact hk2 _ _ _ _ _ hx1 h
    · have h := q_t c3 h
      refine q_iload_n (pc := 15) C 2 rfl dX3_placeOf_15 rfl ?_
      obtain rfl := Option.some.inj h
      exact q_iret (pc := 16) C dX3_placeOf_16
theorem tX3_placeOf_2 {X : qX} {G : qG} (C : qC sC X G RX3 cX3_placeOf 3 0 (some .int))  (σ : qM) (x0 : Int32) (x1 : Nat) (x2 : Int32) (res : (Int32 × qM)) (hx1 : x1 < 7) (h : fX3_placeOf_2  σ x0 x1 x2 = some res) : qY sC X G 3 (q_Q sC X G (some (.int res.1)) res.2) σ 2 [(0, .int x0), (1, .ref (q_aK G x1)), (2, .int x2)] [] := by
  have key : ∀ (n : Nat) (σ : qM) (x0 : Int32) (x1 : Nat) (x2 : Int32) (res : (Int32 × qM)) (hx1 : x1 < 7), qlp (fun _ _ _ _ => none) (bX3_placeOf_2 ) n σ x0 x1 x2 = some res → qY sC X G 3 (q_Q sC X G (some (.int res.1)) res.2) σ 2 [(0, .int x0), (1, .ref (q_aK G x1)), (2, .int x2)] [] := by
    intro n
    induction n with
    | zero => intro σ x0 x1 x2 res hx1 h; cases h
    | succ n ih => intro σ x0 x1 x2 res hx1 h; exact uX3_placeOf_2 C  (qlp (fun _ _ _ _ => none) (bX3_placeOf_2 ) n) (fun σ x0 x1 x2 res hx1 h => ih σ x0 x1 x2 res hx1 h) σ x0 x1 x2 res hx1 h
  exact key qFU σ x0 x1 x2 res hx1 h
theorem zX3_placeOf {G : qG} {l : Launch} {σ : qM} {x0 : Int32} {x1 : Nat} {res : (Int32 × qM)} (hx1 : x1 < 7) (h : fX3_placeOf σ x0 x1 = some res) : qCon sC G l yX3_placeOf cX3_placeOf 3 (some .int) 0 [.int x0, .ref (q_aK G x1)] σ (some (.int res.1)) res.2 := by
  refine qCon.mkF (lv := [(0, .int x0), (1, .ref (q_aK G x1))]) (plainFor_of_name (by decide)) (Nat.le_of_ble_eq_true rfl) rfl (fun X hX C => ?_)
  unfold fX3_placeOf at h
  refine q_iconst (pc := 0) C dX3_placeOf_0 ci_0 ?_
  refine q_istore_n (pc := 1) C dX3_placeOf_1 rfl (by decide) rfl ?_
  refine q_sub [1, 2, 0] rfl ?_
  exact tX3_placeOf_2 C _ _ _ _ _ hx1 h
/-! X3_parse -/
theorem tX3_parse_85 {X : qX} {G : qG} (C : qC sC X G RX3 cX3_parse 5 2 none) (k16 : qM → Nat → Int32 → Int32 → Int32 → Option qM) (hk16 : ∀ (σ : qM) (x0 : Nat) (x1 : Int32) (x2 : Int32) (x3 : Int32) (res : qM) (hx0 : q_kd sC x0 = 3), k16 σ x0 x1 x2 x3 = some res → qY sC X G 5 (q_Q sC X G none res) σ 16 [(0, .ref (q_ad G x0)), (1, .int x1), (2, .int x2), (3, .int x3)] []) (σ : qM) (x0 : Nat) (x1 : Int32) (x2 : Int32) (x3 : Int32) (res : qM) (hx0 : q_kd sC x0 = 3) (h : fX3_parse_85 k16 σ x0 x1 x2 x3 = some res) : qY sC X G 5 (q_Q sC X G none res) σ 85 [(0, .ref (q_ad G x0)), (1, .int x1), (2, .int x2), (3, .int x3)] [] := by
  unfold fX3_parse_85 at h
  refine q_inc (pc := 85) C 3 rfl ci_1 dX3_parse_85 (by decide) rfl ?_
  refine q_goto (pc := 88) C 16 dX3_parse_88 (by decide) ?_
  refine q_sub [1, 2, 3, 0] rfl ?_
  exact hk16 _ _ _ _ _ _ hx0 h
theorem uX3_parse_16 {X : qX} {G : qG} (C : qC sC X G RX3 cX3_parse 5 2 none) (k16 : qM → Nat → Int32 → Int32 → Int32 → Option qM) (hk16 : ∀ (σ : qM) (x0 : Nat) (x1 : Int32) (x2 : Int32) (x3 : Int32) (res : qM) (hx0 : q_kd sC x0 = 3), k16 σ x0 x1 x2 x3 = some res → qY sC X G 5 (q_Q sC X G none res) σ 16 [(0, .ref (q_ad G x0)), (1, .int x1), (2, .int x2), (3, .int x3)] []) (σ : qM) (x0 : Nat) (x1 : Int32) (x2 : Int32) (x3 : Int32) (res : qM) (hx0 : q_kd sC x0 = 3) (h : bX3_parse_16 k16 σ x0 x1 x2 x3 = some res) : qY sC X G 5 (q_Q sC X G none res) σ 16 [(0, .ref (q_ad G x0)), (1, .int x1), (2, .int x2), (3, .int x3)] [] := by
  unfold bX3_parse_16 at h
  refine q_iload_n (pc := 16) C 3 rfl dX3_parse_16 rfl ?_
  refine q_aload_n (pc := 17) C 0 rfl dX3_parse_17 rfl ?_
  refine q_getI (pc := 18) C fl_RX3_9 hx0 rfl dX3_parse_18 ?_
  refine q_ic_ge (pc := 21) C 91 dX3_parse_21 (by decide) (fun c1 => ?_) (fun c1 => ?_)
  · have h := q_t c1 h
    refine q_iload_n (pc := 91) C 2 rfl dX3_parse_91 rfl ?_
    refine q_aload_n (pc := 92) C 0 rfl dX3_parse_92 rfl ?_
    refine q_getI (pc := 93) C fl_RX3_25 hx0 rfl dX3_parse_93 ?_
    refine q_ic_ne (pc := 96) C 109 dX3_parse_96 (by decide) (fun c2 => ?_) (fun c2 => ?_)
    · have h := q_f c2 h
      refine q_aload_n (pc := 109) C 0 rfl dX3_parse_109 rfl ?_
      refine q_getI (pc := 110) C fl_RX3_9 hx0 rfl dX3_parse_110 ?_
      refine q_if_le (pc := 113) C 124 dX3_parse_113 (by decide) (fun c3 => ?_) (fun c3 => ?_)
      · have h := q_t c3 h
        obtain rfl := Option.some.inj h
        exact q_vret (pc := 124) C dX3_parse_124
      · have h := q_f c3 h
        refine q_aload_n (pc := 116) C 0 rfl dX3_parse_116 rfl ?_
        refine q_aload_n (pc := 117) C 0 rfl dX3_parse_117 rfl ?_
        refine q_getI (pc := 118) C fl_RX3_9 hx0 rfl dX3_parse_118 ?_
        refine q_putI (pc := 121) C fl_RX3_18 hx0 rfl rfl rfl dX3_parse_121 ?_
        obtain rfl := Option.some.inj h
        exact q_vret (pc := 124) C dX3_parse_124
    · have h := q_t c2 h
      refine q_aload_n (pc := 99) C 0 rfl dX3_parse_99 rfl ?_
      refine q_iload_n (pc := 100) C 1 rfl dX3_parse_100 rfl ?_
      refine q_iconst (pc := 101) C dX3_parse_101 ci_1 ?_
      refine q_iadd (pc := 102) C dX3_parse_102 ?_
      refine q_putI (pc := 103) C fl_RX3_15 hx0 rfl rfl rfl dX3_parse_103 ?_
      refine q_goto (pc := 106) C 124 dX3_parse_106 (by decide) ?_
      obtain rfl := Option.some.inj h
      exact q_vret (pc := 124) C dX3_parse_124
  · have h := q_f c1 h
    refine q_aload_n (pc := 24) C 0 rfl dX3_parse_24 rfl ?_
    refine q_getR (pc := 25) (t := (x0 + 1)) C fl_RX3_28 hx0 rfl (rT_2 hx0) dX3_parse_25 ?_
    refine q_iload_n (pc := 28) C 3 rfl dX3_parse_28 rfl ?_
    obtain ⟨g4, h⟩ := q_guard h
    refine q_iald (pc := 29) C (kT_1 hx0) rfl g4 dX3_parse_29 ?_
    refine q_aload_n (pc := 30) C 0 rfl dX3_parse_30 rfl ?_
    refine q_iload_n (pc := 31) C 2 rfl dX3_parse_31 rfl ?_
    obtain ⟨q5, hq5, h⟩ := q_bind h
    refine q_callV1 (pc := 32) (st := [.int (σ (x0 + 1) x3.toNatClampNeg)]) C (zX3_signs hx0 hq5) yi_X3_signs ml_RX3_38 hx0 rfl (by decide) rfl (Nat.le_of_ble_eq_true rfl) dX3_parse_32 ?_
    obtain ⟨g6, h⟩ := q_guard h
    obtain ⟨q7, hq7, h⟩ := q_bind h
    refine q_callS1 (pc := 35) (st := []) C (zX3_placeOf g6 hq7) ys_X3_placeOf ml_RX3_42 rfl (by decide) rfl (Nat.le_of_ble_eq_true rfl) dX3_parse_35 ?_
    refine q_istore (pc := 38) C dX3_parse_38 (by decide) rfl ?_
    refine q_iload (pc := 40) C 0 rfl dX3_parse_40 ?_
    refine q_if_ge (pc := 42) C 51 dX3_parse_42 (by decide) (fun c8 => ?_) (fun c8 => ?_)
    · have h := q_t c8 h
      refine q_iload_n (pc := 51) C 3 rfl dX3_parse_51 rfl ?_
      refine q_aload_n (pc := 52) C 1 rfl dX3_parse_52 rfl ?_
      refine q_getI (pc := 53) C fl_RX3_25 hx0 rfl dX3_parse_53 ?_
      refine q_ic_ne (pc := 56) C 67 dX3_parse_56 (by decide) (fun c9 => ?_) (fun c9 => ?_)
      · have h := q_f c9 h
        refine q_aload_n (pc := 67) C 1 rfl dX3_parse_67 rfl ?_
        refine q_getR (pc := 68) (t := (x0 + 2)) C fl_RX3_32 hx0 rfl (rT_3 hx0) dX3_parse_68 ?_
        refine q_iload_n (pc := 71) C 2 rfl dX3_parse_71 rfl ?_
        refine q_aload_n (pc := 72) C 1 rfl dX3_parse_72 rfl ?_
        refine q_getI (pc := 73) C fl_RX3_25 hx0 rfl dX3_parse_73 ?_
        refine q_imul (pc := 76) C dX3_parse_76 ?_
        refine q_iload_n (pc := 77) C 3 rfl dX3_parse_77 rfl ?_
        refine q_iadd (pc := 78) C dX3_parse_78 ?_
        refine q_iload (pc := 79) C 0 rfl dX3_parse_79 ?_
        obtain ⟨g10, h⟩ := q_guard h
        refine q_iast (pc := 81) C (kT_2 hx0) rfl g10 dX3_parse_81 ?_
        refine q_inc (pc := 82) C 3 rfl ci_1 dX3_parse_82 (by decide) rfl ?_
        refine q_sub [2, 3, 0, 4] rfl ?_
        exact tX3_parse_85 C k16 hk16 _ _ _ _ _ _ hx0 h
      · have h := q_t c9 h
        refine q_inc (pc := 59) C 2 rfl ci_1 dX3_parse_59 (by decide) rfl ?_
        refine q_iconst (pc := 62) C dX3_parse_62 ci_0 ?_
        refine q_istore_n (pc := 63) C dX3_parse_63 rfl (by decide) rfl ?_
        refine q_goto (pc := 64) C 85 dX3_parse_64 (by decide) ?_
        refine q_sub [3, 1, 0, 4] rfl ?_
        exact tX3_parse_85 C k16 hk16 _ _ _ _ _ _ hx0 h
    · have h := q_f c8 h
      refine q_aload_n (pc := 45) C 1 rfl dX3_parse_45 rfl ?_
      refine q_iload_n (pc := 46) C 4 rfl dX3_parse_46 rfl ?_
      refine q_putI (pc := 47) C fl_RX3_18 hx0 rfl rfl rfl dX3_parse_47 ?_
      obtain rfl := Option.some.inj h
      exact q_vret (pc := 50) C dX3_parse_50
theorem tX3_parse_16 {X : qX} {G : qG} (C : qC sC X G RX3 cX3_parse 5 2 none)  (σ : qM) (x0 : Nat) (x1 : Int32) (x2 : Int32) (x3 : Int32) (res : qM) (hx0 : q_kd sC x0 = 3) (h : fX3_parse_16  σ x0 x1 x2 x3 = some res) : qY sC X G 5 (q_Q sC X G none res) σ 16 [(0, .ref (q_ad G x0)), (1, .int x1), (2, .int x2), (3, .int x3)] [] := by
  have key : ∀ (n : Nat) (σ : qM) (x0 : Nat) (x1 : Int32) (x2 : Int32) (x3 : Int32) (res : qM) (hx0 : q_kd sC x0 = 3), qlp (fun _ _ _ _ _ => none) (bX3_parse_16 ) n σ x0 x1 x2 x3 = some res → qY sC X G 5 (q_Q sC X G none res) σ 16 [(0, .ref (q_ad G x0)), (1, .int x1), (2, .int x2), (3, .int x3)] [] := by
    intro n
    induction n with
    | zero => intro σ x0 x1 x2 x3 res hx0 h; cases h
    | succ n ih => intro σ x0 x1 x2 x3 res hx0 h; exact uX3_parse_16 C  (qlp (fun _ _ _ _ _ => none) (bX3_parse_16 ) n) (fun σ x0 x1 x2 x3 res hx0 h => ih σ x0 x1 x2 x3 res hx0 h) σ x0 x1 x2 x3 res hx0 h
  exact key qFU σ x0 x1 x2 x3 res hx0 h
theorem tX3_parse_5 {X : qX} {G : qG} (C : qC sC X G RX3 cX3_parse 5 2 none)  (σ : qM) (x0 : Nat) (res : qM) (hx0 : q_kd sC x0 = 3) (h : fX3_parse_5  σ x0 = some res) : qY sC X G 5 (q_Q sC X G none res) σ 5 [(0, .ref (q_ad G x0))] [] := by
  unfold fX3_parse_5 at h
  refine q_aload_n (pc := 5) C 0 rfl dX3_parse_5 rfl ?_
  refine q_iconst (pc := 6) C dX3_parse_6 ci_m1 ?_
  refine q_putI (pc := 7) C fl_RX3_18 hx0 rfl rfl rfl dX3_parse_7 ?_
  refine q_iconst (pc := 10) C dX3_parse_10 ci_0 ?_
  refine q_istore_n (pc := 11) C dX3_parse_11 rfl (by decide) rfl ?_
  refine q_iconst (pc := 12) C dX3_parse_12 ci_0 ?_
  refine q_istore_n (pc := 13) C dX3_parse_13 rfl (by decide) rfl ?_
  refine q_iconst (pc := 14) C dX3_parse_14 ci_0 ?_
  refine q_istore_n (pc := 15) C dX3_parse_15 rfl (by decide) rfl ?_
  refine q_sub [3, 2, 1, 0] rfl ?_
  exact tX3_parse_16 C _ _ _ _ _ _ hx0 h
theorem zX3_parse {G : qG} {l : Launch} {σ : qM} {o : Nat} {res : qM} (ho : q_kd sC o = 3) (h : fX3_parse σ o = some res) : qCon sC G l yX3_parse cX3_parse 5 none 2 [.ref (q_ad G o)] σ none res := by
  refine qCon.mkF (lv := [(0, .ref (q_ad G o))]) (plainFor_of_name (by decide)) (Nat.le_of_ble_eq_true rfl) rfl (fun X hX C => ?_)
  unfold fX3_parse at h
  refine q_aload_n (pc := 0) C 0 rfl dX3_parse_0 rfl ?_
  refine q_iconst (pc := 1) C dX3_parse_1 ci_0 ?_
  refine q_putI (pc := 2) C fl_RX3_15 ho rfl rfl rfl dX3_parse_2 ?_
  exact tX3_parse_5 C _ _ _ ho h

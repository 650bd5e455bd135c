/-! X3_part -/
theorem zX3_part {G : qG} {l : Launch} {σ : qM} {o : Nat} {x1 : Int32} {x2 : Int32} {res : (Int32 × qM)} (ho : q_kd sC o = 3) (h : fX3_part σ o x1 x2 = some res) : qCon sC G l yX3_part cX3_part 3 (some .int) 0 [.ref (q_ad G o), .int x1, .int x2] σ (some (.int res.1)) res.2 := by
  refine qCon.mkF (lv := [(0, .ref (q_ad G o)), (1, .int x1), (2, .int x2)]) (plainFor_of_name (by decide)) (Nat.le_of_ble_eq_true rfl) rfl (fun X hX C => ?_)
  unfold fX3_part at h
  refine q_aload_n (pc := 0) C 0 rfl dX3_part_0 rfl ?_
  refine q_getR (pc := 1) (t := (o + 2)) C fl_RX3_32 ho rfl (rT_3 ho) dX3_part_1 ?_
  refine q_iload_n (pc := 4) C 1 rfl dX3_part_4 rfl ?_
  refine q_aload_n (pc := 5) C 0 rfl dX3_part_5 rfl ?_
  refine q_getI (pc := 6) C fl_RX3_25 ho rfl dX3_part_6 ?_
  refine q_imul (pc := 9) C dX3_part_9 ?_
  refine q_iload_n (pc := 10) C 2 rfl dX3_part_10 rfl ?_
  refine q_iadd (pc := 11) C dX3_part_11 ?_
  obtain ⟨g1, h⟩ := q_guard h
  refine q_iald (pc := 12) C (kT_2 ho) rfl g1 dX3_part_12 ?_
  obtain rfl := Option.some.inj h
  exact q_iret (pc := 13) C dX3_part_13
/-! X0_sortRules -/
theorem uX0_sortRules_9 {X : qX} {G : qG} (C : qC sC X G RX0 cX0_sortRules 3 1 none) (k2 : qM → Int32 → Option qM) (hk2 : ∀ (σ : qM) (x1 : Int32) (res : qM), k2 σ x1 = some res → qY sC X G 3 (q_Q sC X G none res) σ 2 [(0, .ref (q_ad G 16)), (1, .int x1)] []) (k9 : qM → Int32 → Int32 → Option qM) (hk9 : ∀ (σ : qM) (x1 : Int32) (x2 : Int32) (res : qM), k9 σ x1 x2 = some res → qY sC X G 3 (q_Q sC X G none res) σ 9 [(0, .ref (q_ad G 16)), (1, .int x1), (2, .int x2)] []) (σ : qM) (x1 : Int32) (x2 : Int32) (res : qM)  (h : bX0_sortRules_9 k2 k9 σ x1 x2 = some res) : qY sC X G 3 (q_Q sC X G none res) σ 9 [(0, .ref (q_ad G 16)), (1, .int x1), (2, .int x2)] [] := by
  unfold bX0_sortRules_9 at h
  refine q_iload_n (pc := 9) C 2 rfl dX0_sortRules_9 rfl ?_
  refine q_bipush (pc := 10) C dX0_sortRules_10 cb_9 ?_
  refine q_ic_ge (pc := 12) C 30 dX0_sortRules_12 (by decide) (fun c1 => ?_) (fun c1 => ?_)
  · have h := q_t c1 h
    refine q_inc (pc := 30) C 1 rfl ci_1 dX0_sortRules_30 (by decide) rfl ?_
    refine q_goto (pc := 33) C 2 dX0_sortRules_33 (by decide) ?_
    refine q_sub [1, 0] rfl ?_
    exact hk2 _ _ _ h
  · have h := q_f c1 h
    refine q_aload_n (pc := 15) C 0 rfl dX0_sortRules_15 rfl ?_
    refine q_getR (pc := 16) (t := 35) C fl_RX0_32 kC_16 rfl rC_16_9 dX0_sortRules_16 ?_
    refine q_iload_n (pc := 19) C 1 rfl dX0_sortRules_19 rfl ?_
    obtain ⟨g2, h⟩ := q_guard h
    refine q_aald (pc := 20) (t := (36 + x1.toNatClampNeg)) C (Or.inl kC_35) lC_35 g2 (rR_35 _) dX0_sortRules_20 ?_
    refine q_iload_n (pc := 21) C 2 rfl dX0_sortRules_21 rfl ?_
    refine q_iconst (pc := 22) C dX0_sortRules_22 ci_0 ?_
    obtain ⟨g3, h⟩ := q_guard h
    refine q_iast (pc := 23) C (kR_35 g2) (lR_35 g2) g3 dX0_sortRules_23 ?_
    refine q_inc (pc := 24) C 2 rfl ci_1 dX0_sortRules_24 (by decide) rfl ?_
    refine q_goto (pc := 27) C 9 dX0_sortRules_27 (by decide) ?_
    refine q_sub [1, 2, 0] rfl ?_
    exact hk9 _ _ _ _ h
theorem tX0_sortRules_9 {X : qX} {G : qG} (C : qC sC X G RX0 cX0_sortRules 3 1 none) (k2 : qM → Int32 → Option qM) (hk2 : ∀ (σ : qM) (x1 : Int32) (res : qM), k2 σ x1 = some res → qY sC X G 3 (q_Q sC X G none res) σ 2 [(0, .ref (q_ad G 16)), (1, .int x1)] []) (σ : qM) (x1 : Int32) (x2 : Int32) (res : qM)  (h : fX0_sortRules_9 k2 σ x1 x2 = some res) : qY sC X G 3 (q_Q sC X G none res) σ 9 [(0, .ref (q_ad G 16)), (1, .int x1), (2, .int x2)] [] := by
  have key : ∀ (n : Nat) (σ : qM) (x1 : Int32) (x2 : Int32) (res : qM) , qlp (fun _ _ _ => none) (bX0_sortRules_9 k2) n σ x1 x2 = some res → qY sC X G 3 (q_Q sC X G none res) σ 9 [(0, .ref (q_ad G 16)), (1, .int x1), (2, .int x2)] [] := by
    intro n
    induction n with
    | zero => intro σ x1 x2 res h; cases h
    | succ n ih => intro σ x1 x2 res h; exact uX0_sortRules_9 C k2 hk2 (qlp (fun _ _ _ => none) (bX0_sortRules_9 k2) n) (fun σ x1 x2 res h => ih σ x1 x2 res h) σ x1 x2 res h
  exact key qFU σ x1 x2 res h
theorem tX0_sortRules_71 {X : qX} {G : qG} (C : qC sC X G RX0 cX0_sortRules 3 1 none) (k38 : qM → Int32 → Option qM) (hk38 : ∀ (σ : qM) (x1 : Int32) (res : qM), k38 σ x1 = some res → qY sC X G 3 (q_Q sC X G none res) σ 38 [(0, .ref (q_ad G 16)), (1, .int x1)] []) (σ : qM) (x1 : Int32) (x2 : Int32) (res : qM)  (h : fX0_sortRules_71 k38 σ x1 x2 = some res) : qY sC X G 3 (q_Q sC X G none res) σ 71 [(0, .ref (q_ad G 16)), (1, .int x1), (2, .int x2)] [] := by
  unfold fX0_sortRules_71 at h
  refine q_aload_n (pc := 71) C 0 rfl dX0_sortRules_71 rfl ?_
  refine q_getR (pc := 72) (t := 35) C fl_RX0_32 kC_16 rfl rC_16_9 dX0_sortRules_72 ?_
  refine q_aload_n (pc := 75) C 0 rfl dX0_sortRules_75 rfl ?_
  refine q_getR (pc := 76) (t := 4) C fl_RX0_56 kC_16 rfl rC_16_1 dX0_sortRules_76 ?_
  refine q_iload_n (pc := 79) C 1 rfl dX0_sortRules_79 rfl ?_
  refine q_iconst (pc := 80) C dX0_sortRules_80 ci_1 ?_
  obtain ⟨q1, hq1, h⟩ := q_bind h
  refine q_callV1 (pc := 81) (st := [.ref (q_ad G 35)]) C (zX3_part kC_4 hq1) yi_X3_part ml_RX0_81 kC_4 rfl (by decide) rfl (Nat.le_of_ble_eq_true rfl) dX0_sortRules_81 ?_
  obtain ⟨g2, h⟩ := q_guard h
  refine q_aald (pc := 84) (t := (36 + q1.1.toNatClampNeg)) C (Or.inl kC_35) lC_35 g2 (rR_35 _) dX0_sortRules_84 ?_
  refine q_iload_n (pc := 85) C 2 rfl dX0_sortRules_85 rfl ?_
  refine q_dup2 (pc := 86) C dX0_sortRules_86 rfl rfl ?_
  obtain ⟨g3, h⟩ := q_guard h
  refine q_iald (pc := 87) C (kR_35 g2) (lR_35 g2) g3 dX0_sortRules_87 ?_
  refine q_iconst (pc := 88) C dX0_sortRules_88 ci_1 ?_
  refine q_iload_n (pc := 89) C 1 rfl dX0_sortRules_89 rfl ?_
  refine q_shl (pc := 90) C dX0_sortRules_90 ?_
  refine q_ior (pc := 91) C dX0_sortRules_91 ?_
  obtain ⟨g4, h⟩ := q_guard h
  refine q_iast (pc := 92) C (kR_35 g2) (lR_35 g2) g4 dX0_sortRules_92 ?_
  refine q_inc (pc := 93) C 1 rfl ci_1 dX0_sortRules_93 (by decide) rfl ?_
  refine q_goto (pc := 96) C 38 dX0_sortRules_96 (by decide) ?_
  refine q_sub [1, 0] rfl ?_
  exact hk38 _ _ _ h
theorem uX0_sortRules_38 {X : qX} {G : qG} (C : qC sC X G RX0 cX0_sortRules 3 1 none) (k38 : qM → Int32 → Option qM) (hk38 : ∀ (σ : qM) (x1 : Int32) (res : qM), k38 σ x1 = some res → qY sC X G 3 (q_Q sC X G none res) σ 38 [(0, .ref (q_ad G 16)), (1, .int x1)] []) (σ : qM) (x1 : Int32) (res : qM)  (h : bX0_sortRules_38 k38 σ x1 = some res) : qY sC X G 3 (q_Q sC X G none res) σ 38 [(0, .ref (q_ad G 16)), (1, .int x1)] [] := by
  unfold bX0_sortRules_38 at h
  refine q_iload_n (pc := 38) C 1 rfl dX0_sortRules_38 rfl ?_
  refine q_aload_n (pc := 39) C 0 rfl dX0_sortRules_39 rfl ?_
  refine q_getR (pc := 40) (t := 4) C fl_RX0_56 kC_16 rfl rC_16_1 dX0_sortRules_40 ?_
  refine q_getI (pc := 43) C fl_RX0_76 kC_4 rfl dX0_sortRules_43 ?_
  refine q_ic_ge (pc := 46) C 99 dX0_sortRules_46 (by decide) (fun c1 => ?_) (fun c1 => ?_)
  · have h := q_t c1 h
    obtain rfl := Option.some.inj h
    exact q_vret (pc := 99) C dX0_sortRules_99
  · have h := q_f c1 h
    refine q_iconst (pc := 49) C dX0_sortRules_49 ci_3 ?_
    refine q_aload_n (pc := 50) C 0 rfl dX0_sortRules_50 rfl ?_
    refine q_getR (pc := 51) (t := 4) C fl_RX0_56 kC_16 rfl rC_16_1 dX0_sortRules_51 ?_
    refine q_iload_n (pc := 54) C 1 rfl dX0_sortRules_54 rfl ?_
    refine q_iconst (pc := 55) C dX0_sortRules_55 ci_0 ?_
    obtain ⟨q2, hq2, h⟩ := q_bind h
    refine q_callV1 (pc := 56) (st := [.int (3 : Int32)]) C (zX3_part kC_4 hq2) yi_X3_part ml_RX0_81 kC_4 rfl (by decide) rfl (Nat.le_of_ble_eq_true rfl) dX0_sortRules_56 ?_
    refine q_imul (pc := 59) C dX0_sortRules_59 ?_
    refine q_aload_n (pc := 60) C 0 rfl dX0_sortRules_60 rfl ?_
    refine q_getR (pc := 61) (t := 4) C fl_RX0_56 kC_16 rfl rC_16_1 dX0_sortRules_61 ?_
    refine q_iload_n (pc := 64) C 1 rfl dX0_sortRules_64 rfl ?_
    refine q_iconst (pc := 65) C dX0_sortRules_65 ci_2 ?_
    obtain ⟨q3, hq3, h⟩ := q_bind h
    refine q_callV1 (pc := 66) (st := [.int ((3 : Int32) * q2.1)]) C (zX3_part kC_4 hq3) yi_X3_part ml_RX0_81 kC_4 rfl (by decide) rfl (Nat.le_of_ble_eq_true rfl) dX0_sortRules_66 ?_
    refine q_iadd (pc := 69) C dX0_sortRules_69 ?_
    refine q_istore_n (pc := 70) C dX0_sortRules_70 rfl (by decide) rfl ?_
    refine q_sub [1, 2, 0] rfl ?_
    exact tX0_sortRules_71 C k38 hk38 _ _ _ _ h
theorem tX0_sortRules_38 {X : qX} {G : qG} (C : qC sC X G RX0 cX0_sortRules 3 1 none)  (σ : qM) (x1 : Int32) (res : qM)  (h : fX0_sortRules_38  σ x1 = some res) : qY sC X G 3 (q_Q sC X G none res) σ 38 [(0, .ref (q_ad G 16)), (1, .int x1)] [] := by
  have key : ∀ (n : Nat) (σ : qM) (x1 : Int32) (res : qM) , qlp (fun _ _ => none) (bX0_sortRules_38 ) n σ x1 = some res → qY sC X G 3 (q_Q sC X G none res) σ 38 [(0, .ref (q_ad G 16)), (1, .int x1)] [] := by
    intro n
    induction n with
    | zero => intro σ x1 res h; cases h
    | succ n ih => intro σ x1 res h; exact uX0_sortRules_38 C  (qlp (fun _ _ => none) (bX0_sortRules_38 ) n) (fun σ x1 res h => ih σ x1 res h) σ x1 res h
  exact key qFU σ x1 res h
theorem uX0_sortRules_2 {X : qX} {G : qG} (C : qC sC X G RX0 cX0_sortRules 3 1 none) (k2 : qM → Int32 → Option qM) (hk2 : ∀ (σ : qM) (x1 : Int32) (res : qM), k2 σ x1 = some res → qY sC X G 3 (q_Q sC X G none res) σ 2 [(0, .ref (q_ad G 16)), (1, .int x1)] []) (σ : qM) (x1 : Int32) (res : qM)  (h : bX0_sortRules_2 k2 σ x1 = some res) : qY sC X G 3 (q_Q sC X G none res) σ 2 [(0, .ref (q_ad G 16)), (1, .int x1)] [] := by
  unfold bX0_sortRules_2 at h
  refine q_iload_n (pc := 2) C 1 rfl dX0_sortRules_2 rfl ?_
  refine q_iconst (pc := 3) C dX0_sortRules_3 ci_4 ?_
  refine q_ic_ge (pc := 4) C 36 dX0_sortRules_4 (by decide) (fun c1 => ?_) (fun c1 => ?_)
  · have h := q_t c1 h
    refine q_iconst (pc := 36) C dX0_sortRules_36 ci_0 ?_
    refine q_istore_n (pc := 37) C dX0_sortRules_37 rfl (by decide) rfl ?_
    refine q_sub [1, 0] rfl ?_
    exact tX0_sortRules_38 C _ _ _ h
  · have h := q_f c1 h
    refine q_iconst (pc := 7) C dX0_sortRules_7 ci_0 ?_
    refine q_istore_n (pc := 8) C dX0_sortRules_8 rfl (by decide) rfl ?_
    refine q_sub [1, 2, 0] rfl ?_
    exact tX0_sortRules_9 C k2 hk2 _ _ _ _ h
theorem tX0_sortRules_2 {X : qX} {G : qG} (C : qC sC X G RX0 cX0_sortRules 3 1 none)  (σ : qM) (x1 : Int32) (res : qM)  (h : fX0_sortRules_2  σ x1 = some res) : qY sC X G 3 (q_Q sC X G none res) σ 2 [(0, .ref (q_ad G 16)), (1, .int x1)] [] := by
  have key : ∀ (n : Nat) (σ : qM) (x1 : Int32) (res : qM) , qlp (fun _ _ => none) (bX0_sortRules_2 ) n σ x1 = some res → qY sC X G 3 (q_Q sC X G none res) σ 2 [(0, .ref (q_ad G 16)), (1, .int x1)] [] := by
    intro n
    induction n with
    | zero => intro σ x1 res h; cases h
    | succ n ih => intro σ x1 res h; exact uX0_sortRules_2 C  (qlp (fun _ _ => none) (bX0_sortRules_2 ) n) (fun σ x1 res h => ih σ x1 res h) σ x1 res h
  exact key qFU σ x1 res h
theorem zX0_sortRules {G : qG} {l : Launch} {σ : qM}  {res : qM}  (h : fX0_sortRules σ  = some res) : qCon sC G l yX0_sortRules cX0_sortRules 3 none 1 [.ref (q_ad G 16)] σ none res := by
  refine qCon.mkF (lv := [(0, .ref (q_ad G 16))]) (plainFor_of_name (by decide)) (Nat.le_of_ble_eq_true rfl) rfl (fun X hX C => ?_)
  unfold fX0_sortRules at h
  refine q_iconst (pc := 0) C dX0_sortRules_0 ci_0 ?_
  refine q_istore_n (pc := 1) C dX0_sortRules_1 rfl (by decide) rfl ?_
  refine q_sub [1, 0] rfl ?_
  exact tX0_sortRules_2 C _ _ _ h
/-! X0_readRules -/
theorem tX0_readRules_100 {X : qX} {G : qG} (C : qC sC X G RX0 cX0_readRules 7 1 none) (k9 : qM → Int32 → Option qM) (hk9 : ∀ (σ : qM) (x1 : Int32) (res : qM), k9 σ x1 = some res → qY sC X G 7 (q_Q sC X G none res) σ 9 [(0, .ref (q_ad G 16)), (1, .int x1)] []) (k59 : qM → Int32 → Int32 → Int32 → Int32 → Int32 → Option qM) (hk59 : ∀ (σ : qM) (x1 : Int32) (x2 : Int32) (x3 : Int32) (x4 : Int32) (x5 : Int32) (res : qM), k59 σ x1 x2 x3 x4 x5 = some res → qY sC X G 7 (q_Q sC X G none res) σ 59 [(0, .ref (q_ad G 16)), (1, .int x1), (2, .int x2), (3, .int x3), (4, .int x4), (5, .int x5)] []) (σ : qM) (x1 : Int32) (x2 : Int32) (x3 : Int32) (x4 : Int32) (x5 : Int32) (t0 : Int32) (t1 : Int32) (res : qM)  (h : fX0_readRules_100 k9 k59 σ x1 x2 x3 x4 x5 t0 t1 = some res) : qY sC X G 7 (q_Q sC X G none res) σ 100 [(0, .ref (q_ad G 16)), (1, .int x1), (2, .int x2), (3, .int x3), (4, .int x4), (5, .int x5)] [.int t0, .int t1, .ref (q_ad G 40)] := by
  unfold fX0_readRules_100 at h
  obtain ⟨g1, h⟩ := q_guard h
  refine q_iast (pc := 100) C kC_40 lC_40 g1 dX0_readRules_100 ?_
  refine q_inc (pc := 101) C 5 rfl ci_1 dX0_readRules_101 (by decide) rfl ?_
  refine q_goto (pc := 104) C 59 dX0_readRules_104 (by decide) ?_
  refine q_sub [1, 2, 3, 4, 5, 0] rfl ?_
  exact hk59 _ _ _ _ _ _ _ h
theorem tX0_readRules_74 {X : qX} {G : qG} (C : qC sC X G RX0 cX0_readRules 7 1 none) (k9 : qM → Int32 → Option qM) (hk9 : ∀ (σ : qM) (x1 : Int32) (res : qM), k9 σ x1 = some res → qY sC X G 7 (q_Q sC X G none res) σ 9 [(0, .ref (q_ad G 16)), (1, .int x1)] []) (k59 : qM → Int32 → Int32 → Int32 → Int32 → Int32 → Option qM) (hk59 : ∀ (σ : qM) (x1 : Int32) (x2 : Int32) (x3 : Int32) (x4 : Int32) (x5 : Int32) (res : qM), k59 σ x1 x2 x3 x4 x5 = some res → qY sC X G 7 (q_Q sC X G none res) σ 59 [(0, .ref (q_ad G 16)), (1, .int x1), (2, .int x2), (3, .int x3), (4, .int x4), (5, .int x5)] []) (σ : qM) (x1 : Int32) (x2 : Int32) (x3 : Int32) (x4 : Int32) (x5 : Int32) (x6 : Int32) (res : qM)  (h : fX0_readRules_74 k9 k59 σ x1 x2 x3 x4 x5 x6 = some res) : qY sC X G 7 (q_Q sC X G none res) σ 74 [(0, .ref (q_ad G 16)), (1, .int x1), (2, .int x2), (3, .int x3), (4, .int x4), (5, .int x5), (6, .int x6)] [] := by
  unfold fX0_readRules_74 at h
  refine q_aload_n (pc := 74) C 0 rfl dX0_readRules_74 rfl ?_
  refine q_getR (pc := 75) (t := 40) C fl_RX0_35 kC_16 rfl rC_16_10 dX0_readRules_75 ?_
  refine q_iload_n (pc := 78) C 2 rfl dX0_readRules_78 rfl ?_
  refine q_iload (pc := 79) C 5 rfl dX0_readRules_79 ?_
  refine q_ior (pc := 81) C dX0_readRules_81 ?_
  refine q_iload (pc := 82) C 4 rfl dX0_readRules_82 ?_
  refine q_if_eq (pc := 84) C 94 dX0_readRules_84 (by decide) (fun c1 => ?_) (fun c1 => ?_)
  · have h := q_t c1 h
    refine q_iload (pc := 94) C 6 rfl dX0_readRules_94 ?_
    refine q_iload_n (pc := 96) C 3 rfl dX0_readRules_96 rfl ?_
    refine q_iconst (pc := 97) C dX0_readRules_97 ci_m1 ?_
    refine q_ixor (pc := 98) C dX0_readRules_98 ?_
    refine q_iand (pc := 99) C dX0_readRules_99 ?_
    refine q_sub [0, 1, 2, 3, 4, 5] rfl ?_
    exact tX0_readRules_100 C k9 hk9 k59 hk59 _ _ _ _ _ _ _ _ _ h
  · have h := q_f c1 h
    refine q_iload (pc := 87) C 6 rfl dX0_readRules_87 ?_
    refine q_iload_n (pc := 89) C 3 rfl dX0_readRules_89 rfl ?_
    refine q_ior (pc := 90) C dX0_readRules_90 ?_
    refine q_goto (pc := 91) C 100 dX0_readRules_91 (by decide) ?_
    refine q_sub [0, 1, 2, 3, 4, 5] rfl ?_
    exact tX0_readRules_100 C k9 hk9 k59 hk59 _ _ _ _ _ _ _ _ _ h
theorem uX0_readRules_59 {X : qX} {G : qG} (C : qC sC X G RX0 cX0_readRules 7 1 none) (k9 : qM → Int32 → Option qM) (hk9 : ∀ (σ : qM) (x1 : Int32) (res : qM), k9 σ x1 = some res → qY sC X G 7 (q_Q sC X G none res) σ 9 [(0, .ref (q_ad G 16)), (1, .int x1)] []) (k59 : qM → Int32 → Int32 → Int32 → Int32 → Int32 → Option qM) (hk59 : ∀ (σ : qM) (x1 : Int32) (x2 : Int32) (x3 : Int32) (x4 : Int32) (x5 : Int32) (res : qM), k59 σ x1 x2 x3 x4 x5 = some res → qY sC X G 7 (q_Q sC X G none res) σ 59 [(0, .ref (q_ad G 16)), (1, .int x1), (2, .int x2), (3, .int x3), (4, .int x4), (5, .int x5)] []) (σ : qM) (x1 : Int32) (x2 : Int32) (x3 : Int32) (x4 : Int32) (x5 : Int32) (res : qM)  (h : bX0_readRules_59 k9 k59 σ x1 x2 x3 x4 x5 = some res) : qY sC X G 7 (q_Q sC X G none res) σ 59 [(0, .ref (q_ad G 16)), (1, .int x1), (2, .int x2), (3, .int x3), (4, .int x4), (5, .int x5)] [] := by
  unfold bX0_readRules_59 at h
  refine q_iload (pc := 59) C 5 rfl dX0_readRules_59 ?_
  refine q_iload_n (pc := 61) C 2 rfl dX0_readRules_61 rfl ?_
  refine q_ic_ge (pc := 62) C 107 dX0_readRules_62 (by decide) (fun c1 => ?_) (fun c1 => ?_)
  · have h := q_t c1 h
    refine q_inc (pc := 107) C 1 rfl ci_1 dX0_readRules_107 (by decide) rfl ?_
    refine q_goto (pc := 110) C 9 dX0_readRules_110 (by decide) ?_
    refine q_sub [1, 0] rfl ?_
    exact hk9 _ _ _ h
  · have h := q_f c1 h
    refine q_aload_n (pc := 65) C 0 rfl dX0_readRules_65 rfl ?_
    refine q_getR (pc := 66) (t := 40) C fl_RX0_35 kC_16 rfl rC_16_10 dX0_readRules_66 ?_
    refine q_iload (pc := 69) C 5 rfl dX0_readRules_69 ?_
    obtain ⟨g2, h⟩ := q_guard h
    refine q_iald (pc := 71) C kC_40 lC_40 g2 dX0_readRules_71 ?_
    refine q_istore (pc := 72) C dX0_readRules_72 (by decide) rfl ?_
    refine q_sub [1, 2, 3, 4, 5, 6, 0] rfl ?_
    exact tX0_readRules_74 C k9 hk9 k59 hk59 _ _ _ _ _ _ _ _ h
theorem tX0_readRules_59 {X : qX} {G : qG} (C : qC sC X G RX0 cX0_readRules 7 1 none) (k9 : qM → Int32 → Option qM) (hk9 : ∀ (σ : qM) (x1 : Int32) (res : qM), k9 σ x1 = some res → qY sC X G 7 (q_Q sC X G none res) σ 9 [(0, .ref (q_ad G 16)), (1, .int x1)] []) (σ : qM) (x1 : Int32) (x2 : Int32) (x3 : Int32) (x4 : Int32) (x5 : Int32) (res : qM)  (h : fX0_readRules_59 k9 σ x1 x2 x3 x4 x5 = some res) : qY sC X G 7 (q_Q sC X G none res) σ 59 [(0, .ref (q_ad G 16)), (1, .int x1), (2, .int x2), (3, .int x3), (4, .int x4), (5, .int x5)] [] := by
  have key : ∀ (n : Nat) (σ : qM) (x1 : Int32) (x2 : Int32) (x3 : Int32) (x4 : Int32) (x5 : Int32) (res : qM) , qlp (fun _ _ _ _ _ _ => none) (bX0_readRules_59 k9) n σ x1 x2 x3 x4 x5 = some res → qY sC X G 7 (q_Q sC X G none res) σ 59 [(0, .ref (q_ad G 16)), (1, .int x1), (2, .int x2), (3, .int x3), (4, .int x4), (5, .int x5)] [] := by
    intro n
    induction n with
    | zero => intro σ x1 x2 x3 x4 x5 res h; cases h
    | succ n ih => intro σ x1 x2 x3 x4 x5 res h; exact uX0_readRules_59 C k9 hk9 (qlp (fun _ _ _ _ _ _ => none) (bX0_readRules_59 k9) n) (fun σ x1 x2 x3 x4 x5 res h => ih σ x1 x2 x3 x4 x5 res h) σ x1 x2 x3 x4 x5 res h
  exact key qFU σ x1 x2 x3 x4 x5 res h
theorem tX0_readRules_54 {X : qX} {G : qG} (C : qC sC X G RX0 cX0_readRules 7 1 none) (k9 : qM → Int32 → Option qM) (hk9 : ∀ (σ : qM) (x1 : Int32) (res : qM), k9 σ x1 = some res → qY sC X G 7 (q_Q sC X G none res) σ 9 [(0, .ref (q_ad G 16)), (1, .int x1)] []) (σ : qM) (x1 : Int32) (x2 : Int32) (x3 : Int32) (t0 : Int32) (res : qM)  (h : fX0_readRules_54 k9 σ x1 x2 x3 t0 = some res) : qY sC X G 7 (q_Q sC X G none res) σ 54 [(0, .ref (q_ad G 16)), (1, .int x1), (2, .int x2), (3, .int x3)] [.int t0] := by
  unfold fX0_readRules_54 at h
  refine q_istore (pc := 54) C dX0_readRules_54 (by decide) rfl ?_
  refine q_iconst (pc := 56) C dX0_readRules_56 ci_0 ?_
  refine q_istore (pc := 57) C dX0_readRules_57 (by decide) rfl ?_
  refine q_sub [2, 3, 4, 5, 1, 0] rfl ?_
  exact tX0_readRules_59 C k9 hk9 _ _ _ _ _ _ _ h
theorem tX0_readRules_36 {X : qX} {G : qG} (C : qC sC X G RX0 cX0_readRules 7 1 none) (k9 : qM → Int32 → Option qM) (hk9 : ∀ (σ : qM) (x1 : Int32) (res : qM), k9 σ x1 = some res → qY sC X G 7 (q_Q sC X G none res) σ 9 [(0, .ref (q_ad G 16)), (1, .int x1)] []) (σ : qM) (x1 : Int32) (x2 : Int32) (x3 : Int32) (res : qM)  (h : fX0_readRules_36 k9 σ x1 x2 x3 = some res) : qY sC X G 7 (q_Q sC X G none res) σ 36 [(0, .ref (q_ad G 16)), (1, .int x1), (2, .int x2), (3, .int x3)] [] := by
  unfold fX0_readRules_36 at h
  refine q_aload_n (pc := 36) C 0 rfl dX0_readRules_36 rfl ?_
  refine q_getR (pc := 37) (t := 4) C fl_RX0_56 kC_16 rfl rC_16_1 dX0_readRules_37 ?_
  refine q_iload_n (pc := 40) C 1 rfl dX0_readRules_40 rfl ?_
  refine q_iconst (pc := 41) C dX0_readRules_41 ci_3 ?_
  obtain ⟨q1, hq1, h⟩ := q_bind h
  refine q_callV1 (pc := 42) (st := []) C (zX3_part kC_4 hq1) yi_X3_part ml_RX0_81 kC_4 rfl (by decide) rfl (Nat.le_of_ble_eq_true rfl) dX0_readRules_42 ?_
  refine q_iconst (pc := 45) C dX0_readRules_45 ci_1 ?_
  refine q_ic_ne (pc := 46) C 53 dX0_readRules_46 (by decide) (fun c2 => ?_) (fun c2 => ?_)
  · have h := q_f c2 h
    refine q_iconst (pc := 53) C dX0_readRules_53 ci_0 ?_
    exact tX0_readRules_54 C k9 hk9 _ _ _ _ _ _ h
  · have h := q_t c2 h
    refine q_iconst (pc := 49) C dX0_readRules_49 ci_1 ?_
    refine q_goto (pc := 50) C 54 dX0_readRules_50 (by decide) ?_
    exact tX0_readRules_54 C k9 hk9 _ _ _ _ _ _ h
theorem tX0_readRules_24 {X : qX} {G : qG} (C : qC sC X G RX0 cX0_readRules 7 1 none) (k9 : qM → Int32 → Option qM) (hk9 : ∀ (σ : qM) (x1 : Int32) (res : qM), k9 σ x1 = some res → qY sC X G 7 (q_Q sC X G none res) σ 9 [(0, .ref (q_ad G 16)), (1, .int x1)] []) (σ : qM) (x1 : Int32) (x2 : Int32) (res : qM)  (h : fX0_readRules_24 k9 σ x1 x2 = some res) : qY sC X G 7 (q_Q sC X G none res) σ 24 [(0, .ref (q_ad G 16)), (1, .int x1), (2, .int x2)] [] := by
  unfold fX0_readRules_24 at h
  refine q_iconst (pc := 24) C dX0_readRules_24 ci_1 ?_
  refine q_aload_n (pc := 25) C 0 rfl dX0_readRules_25 rfl ?_
  refine q_getR (pc := 26) (t := 4) C fl_RX0_56 kC_16 rfl rC_16_1 dX0_readRules_26 ?_
  refine q_iload_n (pc := 29) C 1 rfl dX0_readRules_29 rfl ?_
  refine q_iconst (pc := 30) C dX0_readRules_30 ci_4 ?_
  obtain ⟨q1, hq1, h⟩ := q_bind h
  refine q_callV1 (pc := 31) (st := [.int (1 : Int32)]) C (zX3_part kC_4 hq1) yi_X3_part ml_RX0_81 kC_4 rfl (by decide) rfl (Nat.le_of_ble_eq_true rfl) dX0_readRules_31 ?_
  refine q_shl (pc := 34) C dX0_readRules_34 ?_
  refine q_istore_n (pc := 35) C dX0_readRules_35 rfl (by decide) rfl ?_
  refine q_sub [1, 2, 3, 0] rfl ?_
  exact tX0_readRules_36 C k9 hk9 _ _ _ _ _ h
theorem uX0_readRules_9 {X : qX} {G : qG} (C : qC sC X G RX0 cX0_readRules 7 1 none) (k9 : qM → Int32 → Option qM) (hk9 : ∀ (σ : qM) (x1 : Int32) (res : qM), k9 σ x1 = some res → qY sC X G 7 (q_Q sC X G none res) σ 9 [(0, .ref (q_ad G 16)), (1, .int x1)] []) (σ : qM) (x1 : Int32) (res : qM)  (h : bX0_readRules_9 k9 σ x1 = some res) : qY sC X G 7 (q_Q sC X G none res) σ 9 [(0, .ref (q_ad G 16)), (1, .int x1)] [] := by
  unfold bX0_readRules_9 at h
  refine q_iload_n (pc := 9) C 1 rfl dX0_readRules_9 rfl ?_
  refine q_aload_n (pc := 10) C 0 rfl dX0_readRules_10 rfl ?_
  refine q_getR (pc := 11) (t := 4) C fl_RX0_56 kC_16 rfl rC_16_1 dX0_readRules_11 ?_
  refine q_getI (pc := 14) C fl_RX0_76 kC_4 rfl dX0_readRules_14 ?_
  refine q_ic_ge (pc := 17) C 113 dX0_readRules_17 (by decide) (fun c1 => ?_) (fun c1 => ?_)
  · have h := q_t c1 h
    obtain rfl := Option.some.inj h
    exact q_vret (pc := 113) C dX0_readRules_113
  · have h := q_f c1 h
    refine q_iconst (pc := 20) C dX0_readRules_20 ci_1 ?_
    refine q_iload_n (pc := 21) C 1 rfl dX0_readRules_21 rfl ?_
    refine q_shl (pc := 22) C dX0_readRules_22 ?_
    refine q_istore_n (pc := 23) C dX0_readRules_23 rfl (by decide) rfl ?_
    refine q_sub [1, 2, 0] rfl ?_
    exact tX0_readRules_24 C k9 hk9 _ _ _ _ h
theorem tX0_readRules_9 {X : qX} {G : qG} (C : qC sC X G RX0 cX0_readRules 7 1 none)  (σ : qM) (x1 : Int32) (res : qM)  (h : fX0_readRules_9  σ x1 = some res) : qY sC X G 7 (q_Q sC X G none res) σ 9 [(0, .ref (q_ad G 16)), (1, .int x1)] [] := by
  have key : ∀ (n : Nat) (σ : qM) (x1 : Int32) (res : qM) , qlp (fun _ _ => none) (bX0_readRules_9 ) n σ x1 = some res → qY sC X G 7 (q_Q sC X G none res) σ 9 [(0, .ref (q_ad G 16)), (1, .int x1)] [] := by
    intro n
    induction n with
    | zero => intro σ x1 res h; cases h
    | succ n ih => intro σ x1 res h; exact uX0_readRules_9 C  (qlp (fun _ _ => none) (bX0_readRules_9 ) n) (fun σ x1 res h => ih σ x1 res h) σ x1 res h
  exact key qFU σ x1 res h
theorem zX0_readRules {G : qG} {l : Launch} {σ : qM}  {res : qM}  (h : fX0_readRules σ  = some res) : qCon sC G l yX0_readRules cX0_readRules 7 none 1 [.ref (q_ad G 16)] σ none res := by
  refine qCon.mkF (lv := [(0, .ref (q_ad G 16))]) (plainFor_of_name (by decide)) (Nat.le_of_ble_eq_true rfl) rfl (fun X hX C => ?_)
  unfold fX0_readRules at h
  refine q_aload_n (pc := 0) C 0 rfl dX0_readRules_0 rfl ?_
  refine q_getR (pc := 1) (t := 40) C fl_RX0_35 kC_16 rfl rC_16_10 dX0_readRules_1 ?_
  refine q_iconst (pc := 4) C dX0_readRules_4 ci_0 ?_
  refine q_iconst (pc := 5) C dX0_readRules_5 ci_0 ?_
  refine q_iast (pc := 6) C kC_40 lC_40 (show qin (0 : Int32) 1024 by decide) dX0_readRules_6 ?_
  refine q_iconst (pc := 7) C dX0_readRules_7 ci_0 ?_
  refine q_istore_n (pc := 8) C dX0_readRules_8 rfl (by decide) rfl ?_
  refine q_sub [1, 0] rfl ?_
  exact tX0_readRules_9 C _ _ _ h
/-! X0_isCracked -/
theorem tX0_isCracked_41 {X : qX} {G : qG} (C : qC sC X G RX0 cX0_isCracked 4 0 (some .boolean)) (k2 : qM → Int32 → Int32 → Int32 → Option (Int32 × qM)) (hk2 : ∀ (σ : qM) (x1 : Int32) (x2 : Int32) (x3 : Int32) (res : (Int32 × qM)), k2 σ x1 x2 x3 = some res → qY sC X G 4 (q_Q sC X G (some (.int res.1)) res.2) σ 2 [(0, .ref (q_ad G 16)), (1, .int x1), (2, .int x2), (3, .int x3)] []) (σ : qM) (x1 : Int32) (x2 : Int32) (x3 : Int32) (res : (Int32 × qM))  (h : fX0_isCracked_41 k2 σ x1 x2 x3 = some res) : qY sC X G 4 (q_Q sC X G (some (.int res.1)) res.2) σ 41 [(0, .ref (q_ad G 16)), (1, .int x1), (2, .int x2), (3, .int x3)] [] := by
  unfold fX0_isCracked_41 at h
  refine q_inc (pc := 41) C 3 rfl ci_1 dX0_isCracked_41 (by decide) rfl ?_
  refine q_goto (pc := 44) C 2 dX0_isCracked_44 (by decide) ?_
  refine q_sub [1, 2, 3, 0] rfl ?_
  exact hk2 _ _ _ _ _ h
theorem uX0_isCracked_2 {X : qX} {G : qG} (C : qC sC X G RX0 cX0_isCracked 4 0 (some .boolean)) (k2 : qM → Int32 → Int32 → Int32 → Option (Int32 × qM)) (hk2 : ∀ (σ : qM) (x1 : Int32) (x2 : Int32) (x3 : Int32) (res : (Int32 × qM)), k2 σ x1 x2 x3 = some res → qY sC X G 4 (q_Q sC X G (some (.int res.1)) res.2) σ 2 [(0, .ref (q_ad G 16)), (1, .int x1), (2, .int x2), (3, .int x3)] []) (σ : qM) (x1 : Int32) (x2 : Int32) (x3 : Int32) (res : (Int32 × qM))  (h : bX0_isCracked_2 k2 σ x1 x2 x3 = some res) : qY sC X G 4 (q_Q sC X G (some (.int res.1)) res.2) σ 2 [(0, .ref (q_ad G 16)), (1, .int x1), (2, .int x2), (3, .int x3)] [] := by
  unfold bX0_isCracked_2 at h
  refine q_iload_n (pc := 2) C 3 rfl dX0_isCracked_2 rfl ?_
  refine q_aload_n (pc := 3) C 0 rfl dX0_isCracked_3 rfl ?_
  refine q_getR (pc := 4) (t := 7) C fl_RX0_59 kC_16 rfl rC_16_2 dX0_isCracked_4 ?_
  refine q_getI (pc := 7) C fl_RX0_89 kC_7 rfl dX0_isCracked_7 ?_
  refine q_ic_ge (pc := 10) C 47 dX0_isCracked_10 (by decide) (fun c1 => ?_) (fun c1 => ?_)
  · have h := q_t c1 h
    refine q_iconst (pc := 47) C dX0_isCracked_47 ci_0 ?_
    obtain rfl := Option.some.inj h
    exact q_zret (pc := 48) C (Or.inl rfl) dX0_isCracked_48
  · have h := q_f c1 h
    refine q_aload_n (pc := 13) C 0 rfl dX0_isCracked_13 rfl ?_
    refine q_getR (pc := 14) (t := 7) C fl_RX0_59 kC_16 rfl rC_16_2 dX0_isCracked_14 ?_
    refine q_getR (pc := 17) (t := 8) C fl_RX0_94 kC_7 rfl (rP_0 kC_7) dX0_isCracked_17 ?_
    refine q_iload_n (pc := 20) C 3 rfl dX0_isCracked_20 rfl ?_
    obtain ⟨g2, h⟩ := q_guard h
    refine q_iald (pc := 21) C kC_8 lC_8 g2 dX0_isCracked_21 ?_
    refine q_iload_n (pc := 22) C 1 rfl dX0_isCracked_22 rfl ?_
    refine q_ic_ne (pc := 23) C 41 dX0_isCracked_23 (by decide) (fun c3 => ?_) (fun c3 => ?_)
    · have h := q_f c3 h
      exact tX0_isCracked_41 C k2 hk2 _ _ _ _ _ h
    · have h := q_t c3 h
      refine q_aload_n (pc := 26) C 0 rfl dX0_isCracked_26 rfl ?_
      refine q_getR (pc := 27) (t := 7) C fl_RX0_59 kC_16 rfl rC_16_2 dX0_isCracked_27 ?_
      refine q_getR (pc := 30) (t := 9) C fl_RX0_97 kC_7 rfl (rP_1 kC_7) dX0_isCracked_30 ?_
      refine q_iload_n (pc := 33) C 3 rfl dX0_isCracked_33 rfl ?_
      obtain ⟨g4, h⟩ := q_guard h
      refine q_iald (pc := 34) C kC_9 lC_9 g4 dX0_isCracked_34 ?_
      refine q_iload_n (pc := 35) C 2 rfl dX0_isCracked_35 rfl ?_
      refine q_ic_ne (pc := 36) C 41 dX0_isCracked_36 (by decide) (fun c5 => ?_) (fun c5 => ?_)
      · have h := q_f c5 h
        exact tX0_isCracked_41 C k2 hk2 _ _ _ _ _ h
      · have h := q_t c5 h
        refine q_iconst (pc := 39) C dX0_isCracked_39 ci_1 ?_
        obtain rfl := Option.some.inj h
        exact q_zret (pc := 40) C (Or.inr rfl) dX0_isCracked_40
theorem tX0_isCracked_2 {X : qX} {G : qG} (C : qC sC X G RX0 cX0_isCracked 4 0 (some .boolean))  (σ : qM) (x1 : Int32) (x2 : Int32) (x3 : Int32) (res : (Int32 × qM))  (h : fX0_isCracked_2  σ x1 x2 x3 = some res) : qY sC X G 4 (q_Q sC X G (some (.int res.1)) res.2) σ 2 [(0, .ref (q_ad G 16)), (1, .int x1), (2, .int x2), (3, .int x3)] [] := by
  have key : ∀ (n : Nat) (σ : qM) (x1 : Int32) (x2 : Int32) (x3 : Int32) (res : (Int32 × qM)) , qlp (fun _ _ _ _ => none) (bX0_isCracked_2 ) n σ x1 x2 x3 = some res → qY sC X G 4 (q_Q sC X G (some (.int res.1)) res.2) σ 2 [(0, .ref (q_ad G 16)), (1, .int x1), (2, .int x2), (3, .int x3)] [] := by
    intro n
    induction n with
    | zero => intro σ x1 x2 x3 res h; cases h
    | succ n ih => intro σ x1 x2 x3 res h; exact uX0_isCracked_2 C  (qlp (fun _ _ _ _ => none) (bX0_isCracked_2 ) n) (fun σ x1 x2 x3 res h => ih σ x1 x2 x3 res h) σ x1 x2 x3 res h
  exact key qFU σ x1 x2 x3 res h
theorem zX0_isCracked {G : qG} {l : Launch} {σ : qM} {x1 : Int32} {x2 : Int32} {res : (Int32 × qM)}  (h : fX0_isCracked σ x1 x2 = some res) : qCon sC G l yX0_isCracked cX0_isCracked 4 (some .boolean) 0 [.ref (q_ad G 16), .int x1, .int x2] σ (some (.int res.1)) res.2 := by
  refine qCon.mkF (lv := [(0, .ref (q_ad G 16)), (1, .int x1), (2, .int x2)]) (plainFor_of_name (by decide)) (Nat.le_of_ble_eq_true rfl) rfl (fun X hX C => ?_)
  unfold fX0_isCracked at h
  refine q_iconst (pc := 0) C dX0_isCracked_0 ci_0 ?_
  refine q_istore_n (pc := 1) C dX0_isCracked_1 rfl (by decide) rfl ?_
  refine q_sub [1, 2, 3, 0] rfl ?_
  exact tX0_isCracked_2 C _ _ _ _ _ h
/-! X0_layLeaves -/
theorem tX0_layLeaves_58 {X : qX} {G : qG} (C : qC sC X G RX0 cX0_layLeaves 7 1 none) (k9 : qM → Int32 → Int32 → Option qM) (hk9 : ∀ (σ : qM) (x1 : Int32) (x2 : Int32) (res : qM), k9 σ x1 x2 = some res → qY sC X G 7 (q_Q sC X G none res) σ 9 [(0, .ref (q_ad G 16)), (1, .int x1), (2, .int x2)] []) (k44 : qM → Int32 → Int32 → Int32 → Int32 → Int32 → Option qM) (hk44 : ∀ (σ : qM) (x1 : Int32) (x2 : Int32) (x3 : Int32) (x4 : Int32) (x5 : Int32) (res : qM), k44 σ x1 x2 x3 x4 x5 = some res → qY sC X G 7 (q_Q sC X G none res) σ 44 [(0, .ref (q_ad G 16)), (1, .int x1), (2, .int x2), (3, .int x3), (4, .int x4), (5, .int x5)] []) (σ : qM) (x1 : Int32) (x2 : Int32) (x3 : Int32) (x5 : Int32) (x6 : Int32) (res : qM)  (h : fX0_layLeaves_58 k9 k44 σ x1 x2 x3 x5 x6 = some res) : qY sC X G 7 (q_Q sC X G none res) σ 58 [(0, .ref (q_ad G 16)), (1, .int x1), (2, .int x2), (3, .int x3), (5, .int x5), (6, .int x6)] [] := by
  unfold fX0_layLeaves_58 at h
  refine q_iload (pc := 58) C 5 rfl dX0_layLeaves_58 ?_
  refine q_istore (pc := 60) C dX0_layLeaves_60 (by decide) rfl ?_
  refine q_inc (pc := 62) C 5 rfl ci_1 dX0_layLeaves_62 (by decide) rfl ?_
  refine q_goto (pc := 65) C 44 dX0_layLeaves_65 (by decide) ?_
  refine q_sub [2, 3, 4, 5, 1, 0] rfl ?_
  exact hk44 _ _ _ _ _ _ _ h
theorem tX0_layLeaves_109 {X : qX} {G : qG} (C : qC sC X G RX0 cX0_layLeaves 7 1 none) (k9 : qM → Int32 → Int32 → Option qM) (hk9 : ∀ (σ : qM) (x1 : Int32) (x2 : Int32) (res : qM), k9 σ x1 x2 = some res → qY sC X G 7 (q_Q sC X G none res) σ 9 [(0, .ref (q_ad G 16)), (1, .int x1), (2, .int x2)] []) (σ : qM) (x1 : Int32) (x2 : Int32) (res : qM)  (h : fX0_layLeaves_109 k9 σ x1 x2 = some res) : qY sC X G 7 (q_Q sC X G none res) σ 109 [(0, .ref (q_ad G 16)), (1, .int x1), (2, .int x2)] [] := by
  unfold fX0_layLeaves_109 at h
  refine q_inc (pc := 109) C 2 rfl ci_1 dX0_layLeaves_109 (by decide) rfl ?_
  refine q_goto (pc := 112) C 9 dX0_layLeaves_112 (by decide) ?_
  refine q_sub [1, 2, 0] rfl ?_
  exact hk9 _ _ _ _ h
theorem tX0_layLeaves_87 {X : qX} {G : qG} (C : qC sC X G RX0 cX0_layLeaves 7 1 none) (k9 : qM → Int32 → Int32 → Option qM) (hk9 : ∀ (σ : qM) (x1 : Int32) (x2 : Int32) (res : qM), k9 σ x1 x2 = some res → qY sC X G 7 (q_Q sC X G none res) σ 9 [(0, .ref (q_ad G 16)), (1, .int x1), (2, .int x2)] []) (σ : qM) (x1 : Int32) (x2 : Int32) (x3 : Int32) (x4 : Int32) (res : qM)  (h : fX0_layLeaves_87 k9 σ x1 x2 x3 x4 = some res) : qY sC X G 7 (q_Q sC X G none res) σ 87 [(0, .ref (q_ad G 16)), (1, .int x1), (2, .int x2), (3, .int x3), (4, .int x4)] [] := by
  unfold fX0_layLeaves_87 at h
  refine q_aload_n (pc := 87) C 0 rfl dX0_layLeaves_87 rfl ?_
  refine q_iload_n (pc := 88) C 3 rfl dX0_layLeaves_88 rfl ?_
  refine q_iload (pc := 89) C 4 rfl dX0_layLeaves_89 ?_
  obtain ⟨q1, hq1, h⟩ := q_bind h
  refine q_callV1 (pc := 91) (st := []) C (zX0_isCracked hq1) yi_X0_isCracked ml_RX0_85 kC_16 rfl (by decide) rfl (Nat.le_of_ble_eq_true rfl) dX0_layLeaves_91 ?_
  refine q_if_ne (pc := 94) C 109 dX0_layLeaves_94 (by decide) (fun c2 => ?_) (fun c2 => ?_)
  · have h := q_f c2 h
    refine q_sub [0, 1, 2] rfl ?_
    exact tX0_layLeaves_109 C k9 hk9 _ _ _ _ h
  · have h := q_t c2 h
    refine q_aload_n (pc := 97) C 0 rfl dX0_layLeaves_97 rfl ?_
    refine q_getR (pc := 98) (t := 27) C fl_RX0_19 kC_16 rfl rC_16_5 dX0_layLeaves_98 ?_
    refine q_iload_n (pc := 101) C 1 rfl dX0_layLeaves_101 rfl ?_
    refine q_dup2 (pc := 102) C dX0_layLeaves_102 rfl rfl ?_
    obtain ⟨g3, h⟩ := q_guard h
    refine q_iald (pc := 103) C kC_27 lC_27 g3 dX0_layLeaves_103 ?_
    refine q_iconst (pc := 104) C dX0_layLeaves_104 ci_1 ?_
    refine q_iload_n (pc := 105) C 2 rfl dX0_layLeaves_105 rfl ?_
    refine q_shl (pc := 106) C dX0_layLeaves_106 ?_
    refine q_ior (pc := 107) C dX0_layLeaves_107 ?_
    obtain ⟨g4, h⟩ := q_guard h
    refine q_iast (pc := 108) C kC_27 lC_27 g4 dX0_layLeaves_108 ?_
    refine q_sub [0, 1, 2] rfl ?_
    exact tX0_layLeaves_109 C k9 hk9 _ _ _ _ h
theorem tX0_layLeaves_77 {X : qX} {G : qG} (C : qC sC X G RX0 cX0_layLeaves 7 1 none) (k9 : qM → Int32 → Int32 → Option qM) (hk9 : ∀ (σ : qM) (x1 : Int32) (x2 : Int32) (res : qM), k9 σ x1 x2 = some res → qY sC X G 7 (q_Q sC X G none res) σ 9 [(0, .ref (q_ad G 16)), (1, .int x1), (2, .int x2)] []) (σ : qM) (x1 : Int32) (x2 : Int32) (x3 : Int32) (x4 : Int32) (res : qM)  (h : fX0_layLeaves_77 k9 σ x1 x2 x3 x4 = some res) : qY sC X G 7 (q_Q sC X G none res) σ 77 [(0, .ref (q_ad G 16)), (1, .int x1), (2, .int x2), (3, .int x3), (4, .int x4)] [] := by
  unfold fX0_layLeaves_77 at h
  refine q_aload_n (pc := 77) C 0 rfl dX0_layLeaves_77 rfl ?_
  refine q_getR (pc := 78) (t := 22) C fl_RX0_16 kC_16 rfl rC_16_4 dX0_layLeaves_78 ?_
  refine q_iload_n (pc := 81) C 1 rfl dX0_layLeaves_81 rfl ?_
  obtain ⟨g1, h⟩ := q_guard h
  refine q_aald (pc := 82) (t := (23 + x1.toNatClampNeg)) C (Or.inl kC_22) lC_22 g1 (rR_22 _) dX0_layLeaves_82 ?_
  refine q_iload_n (pc := 83) C 2 rfl dX0_layLeaves_83 rfl ?_
  refine q_iload (pc := 84) C 4 rfl dX0_layLeaves_84 ?_
  obtain ⟨g2, h⟩ := q_guard h
  refine q_iast (pc := 86) C (kR_22 g1) (lR_22 g1) g2 dX0_layLeaves_86 ?_
  exact tX0_layLeaves_87 C k9 hk9 _ _ _ _ _ _ h
theorem uX0_layLeaves_44 {X : qX} {G : qG} (C : qC sC X G RX0 cX0_layLeaves 7 1 none) (k9 : qM → Int32 → Int32 → Option qM) (hk9 : ∀ (σ : qM) (x1 : Int32) (x2 : Int32) (res : qM), k9 σ x1 x2 = some res → qY sC X G 7 (q_Q sC X G none res) σ 9 [(0, .ref (q_ad G 16)), (1, .int x1), (2, .int x2)] []) (k44 : qM → Int32 → Int32 → Int32 → Int32 → Int32 → Option qM) (hk44 : ∀ (σ : qM) (x1 : Int32) (x2 : Int32) (x3 : Int32) (x4 : Int32) (x5 : Int32) (res : qM), k44 σ x1 x2 x3 x4 x5 = some res → qY sC X G 7 (q_Q sC X G none res) σ 44 [(0, .ref (q_ad G 16)), (1, .int x1), (2, .int x2), (3, .int x3), (4, .int x4), (5, .int x5)] []) (σ : qM) (x1 : Int32) (x2 : Int32) (x3 : Int32) (x4 : Int32) (x5 : Int32) (res : qM)  (h : bX0_layLeaves_44 k9 k44 σ x1 x2 x3 x4 x5 = some res) : qY sC X G 7 (q_Q sC X G none res) σ 44 [(0, .ref (q_ad G 16)), (1, .int x1), (2, .int x2), (3, .int x3), (4, .int x4), (5, .int x5)] [] := by
  unfold bX0_layLeaves_44 at h
  refine q_iload (pc := 44) C 5 rfl dX0_layLeaves_44 ?_
  refine q_iload_n (pc := 46) C 1 rfl dX0_layLeaves_46 rfl ?_
  refine q_ic_ge (pc := 47) C 68 dX0_layLeaves_47 (by decide) (fun c1 => ?_) (fun c1 => ?_)
  · have h := q_t c1 h
    refine q_aload_n (pc := 68) C 0 rfl dX0_layLeaves_68 rfl ?_
    refine q_getR (pc := 69) (t := 17) C fl_RX0_11 kC_16 rfl rC_16_3 dX0_layLeaves_69 ?_
    refine q_iload_n (pc := 72) C 1 rfl dX0_layLeaves_72 rfl ?_
    obtain ⟨g2, h⟩ := q_guard h
    refine q_aald (pc := 73) (t := (18 + x1.toNatClampNeg)) C (Or.inl kC_17) lC_17 g2 (rR_17 _) dX0_layLeaves_73 ?_
    refine q_iload_n (pc := 74) C 2 rfl dX0_layLeaves_74 rfl ?_
    refine q_iload_n (pc := 75) C 3 rfl dX0_layLeaves_75 rfl ?_
    obtain ⟨g3, h⟩ := q_guard h
    refine q_iast (pc := 76) C (kR_17 g2) (lR_17 g2) g3 dX0_layLeaves_76 ?_
    refine q_sub [0, 1, 2, 3, 4] rfl ?_
    exact tX0_layLeaves_77 C k9 hk9 _ _ _ _ _ _ h
  · have h := q_f c1 h
    refine q_iload_n (pc := 50) C 3 rfl dX0_layLeaves_50 rfl ?_
    refine q_istore (pc := 51) C dX0_layLeaves_51 (by decide) rfl ?_
    refine q_iconst (pc := 53) C dX0_layLeaves_53 ci_5 ?_
    refine q_iload (pc := 54) C 5 rfl dX0_layLeaves_54 ?_
    refine q_isub (pc := 56) C dX0_layLeaves_56 ?_
    refine q_istore_n (pc := 57) C dX0_layLeaves_57 rfl (by decide) rfl ?_
    refine q_sub [2, 3, 4, 0, 6, 1] rfl ?_
    exact tX0_layLeaves_58 C k9 hk9 k44 hk44 _ _ _ _ _ _ _ h
theorem tX0_layLeaves_44 {X : qX} {G : qG} (C : qC sC X G RX0 cX0_layLeaves 7 1 none) (k9 : qM → Int32 → Int32 → Option qM) (hk9 : ∀ (σ : qM) (x1 : Int32) (x2 : Int32) (res : qM), k9 σ x1 x2 = some res → qY sC X G 7 (q_Q sC X G none res) σ 9 [(0, .ref (q_ad G 16)), (1, .int x1), (2, .int x2)] []) (σ : qM) (x1 : Int32) (x2 : Int32) (x3 : Int32) (x4 : Int32) (x5 : Int32) (res : qM)  (h : fX0_layLeaves_44 k9 σ x1 x2 x3 x4 x5 = some res) : qY sC X G 7 (q_Q sC X G none res) σ 44 [(0, .ref (q_ad G 16)), (1, .int x1), (2, .int x2), (3, .int x3), (4, .int x4), (5, .int x5)] [] := by
  have key : ∀ (n : Nat) (σ : qM) (x1 : Int32) (x2 : Int32) (x3 : Int32) (x4 : Int32) (x5 : Int32) (res : qM) , qlp (fun _ _ _ _ _ _ => none) (bX0_layLeaves_44 k9) n σ x1 x2 x3 x4 x5 = some res → qY sC X G 7 (q_Q sC X G none res) σ 44 [(0, .ref (q_ad G 16)), (1, .int x1), (2, .int x2), (3, .int x3), (4, .int x4), (5, .int x5)] [] := by
    intro n
    induction n with
    | zero => intro σ x1 x2 x3 x4 x5 res h; cases h
    | succ n ih => intro σ x1 x2 x3 x4 x5 res h; exact uX0_layLeaves_44 C k9 hk9 (qlp (fun _ _ _ _ _ _ => none) (bX0_layLeaves_44 k9) n) (fun σ x1 x2 x3 x4 x5 res h => ih σ x1 x2 x3 x4 x5 res h) σ x1 x2 x3 x4 x5 res h
  exact key qFU σ x1 x2 x3 x4 x5 res h
theorem uX0_layLeaves_9 {X : qX} {G : qG} (C : qC sC X G RX0 cX0_layLeaves 7 1 none) (k9 : qM → Int32 → Int32 → Option qM) (hk9 : ∀ (σ : qM) (x1 : Int32) (x2 : Int32) (res : qM), k9 σ x1 x2 = some res → qY sC X G 7 (q_Q sC X G none res) σ 9 [(0, .ref (q_ad G 16)), (1, .int x1), (2, .int x2)] []) (σ : qM) (x1 : Int32) (x2 : Int32) (res : qM)  (h : bX0_layLeaves_9 k9 σ x1 x2 = some res) : qY sC X G 7 (q_Q sC X G none res) σ 9 [(0, .ref (q_ad G 16)), (1, .int x1), (2, .int x2)] [] := by
  unfold bX0_layLeaves_9 at h
  refine q_iload_n (pc := 9) C 2 rfl dX0_layLeaves_9 rfl ?_
  refine q_aload_n (pc := 10) C 0 rfl dX0_layLeaves_10 rfl ?_
  refine q_getR (pc := 11) (t := 1) C fl_RX0_52 kC_16 rfl rC_16_0 dX0_layLeaves_11 ?_
  refine q_getI (pc := 14) C fl_RX0_76 kC_1 rfl dX0_layLeaves_14 ?_
  refine q_ic_ge (pc := 17) C 115 dX0_layLeaves_17 (by decide) (fun c1 => ?_) (fun c1 => ?_)
  · have h := q_t c1 h
    obtain rfl := Option.some.inj h
    exact q_vret (pc := 115) C dX0_layLeaves_115
  · have h := q_f c1 h
    refine q_aload_n (pc := 20) C 0 rfl dX0_layLeaves_20 rfl ?_
    refine q_getR (pc := 21) (t := 1) C fl_RX0_52 kC_16 rfl rC_16_0 dX0_layLeaves_21 ?_
    refine q_iload_n (pc := 24) C 2 rfl dX0_layLeaves_24 rfl ?_
    refine q_iconst (pc := 25) C dX0_layLeaves_25 ci_0 ?_
    obtain ⟨q2, hq2, h⟩ := q_bind h
    refine q_callV1 (pc := 26) (st := []) C (zX3_part kC_1 hq2) yi_X3_part ml_RX0_81 kC_1 rfl (by decide) rfl (Nat.le_of_ble_eq_true rfl) dX0_layLeaves_26 ?_
    refine q_istore_n (pc := 29) C dX0_layLeaves_29 rfl (by decide) rfl ?_
    refine q_aload_n (pc := 30) C 1 rfl dX0_layLeaves_30 rfl ?_
    refine q_getR (pc := 31) (t := 1) C fl_RX0_52 kC_16 rfl rC_16_0 dX0_layLeaves_31 ?_
    refine q_iload_n (pc := 34) C 3 rfl dX0_layLeaves_34 rfl ?_
    refine q_iconst (pc := 35) C dX0_layLeaves_35 ci_1 ?_
    obtain ⟨q3, hq3, h⟩ := q_bind h
    refine q_callV1 (pc := 36) (st := []) C (zX3_part kC_1 hq3) yi_X3_part ml_RX0_81 kC_1 rfl (by decide) rfl (Nat.le_of_ble_eq_true rfl) dX0_layLeaves_36 ?_
    refine q_istore (pc := 39) C dX0_layLeaves_39 (by decide) rfl ?_
    refine q_iconst (pc := 41) C dX0_layLeaves_41 ci_0 ?_
    refine q_istore (pc := 42) C dX0_layLeaves_42 (by decide) rfl ?_
    refine q_sub [3, 4, 5, 2, 1, 0] rfl ?_
    exact tX0_layLeaves_44 C k9 hk9 _ _ _ _ _ _ _ h
theorem tX0_layLeaves_9 {X : qX} {G : qG} (C : qC sC X G RX0 cX0_layLeaves 7 1 none)  (σ : qM) (x1 : Int32) (x2 : Int32) (res : qM)  (h : fX0_layLeaves_9  σ x1 x2 = some res) : qY sC X G 7 (q_Q sC X G none res) σ 9 [(0, .ref (q_ad G 16)), (1, .int x1), (2, .int x2)] [] := by
  have key : ∀ (n : Nat) (σ : qM) (x1 : Int32) (x2 : Int32) (res : qM) , qlp (fun _ _ _ => none) (bX0_layLeaves_9 ) n σ x1 x2 = some res → qY sC X G 7 (q_Q sC X G none res) σ 9 [(0, .ref (q_ad G 16)), (1, .int x1), (2, .int x2)] [] := by
    intro n
    induction n with
    | zero => intro σ x1 x2 res h; cases h
    | succ n ih => intro σ x1 x2 res h; exact uX0_layLeaves_9 C  (qlp (fun _ _ _ => none) (bX0_layLeaves_9 ) n) (fun σ x1 x2 res h => ih σ x1 x2 res h) σ x1 x2 res h
  exact key qFU σ x1 x2 res h
theorem zX0_layLeaves {G : qG} {l : Launch} {σ : qM} {x1 : Int32} {res : qM}  (h : fX0_layLeaves σ x1 = some res) : qCon sC G l yX0_layLeaves cX0_layLeaves 7 none 1 [.ref (q_ad G 16), .int x1] σ none res := by
  refine qCon.mkF (lv := [(0, .ref (q_ad G 16)), (1, .int x1)]) (plainFor_of_name (by decide)) (Nat.le_of_ble_eq_true rfl) rfl (fun X hX C => ?_)
  unfold fX0_layLeaves at h
  refine q_aload_n (pc := 0) C 0 rfl dX0_layLeaves_0 rfl ?_
  refine q_getR (pc := 1) (t := 27) C fl_RX0_19 kC_16 rfl rC_16_5 dX0_layLeaves_1 ?_
  refine q_iload_n (pc := 4) C 1 rfl dX0_layLeaves_4 rfl ?_
  refine q_iconst (pc := 5) C dX0_layLeaves_5 ci_0 ?_
  obtain ⟨g1, h⟩ := q_guard h
  refine q_iast (pc := 6) C kC_27 lC_27 g1 dX0_layLeaves_6 ?_
  refine q_iconst (pc := 7) C dX0_layLeaves_7 ci_0 ?_
  refine q_istore_n (pc := 8) C dX0_layLeaves_8 rfl (by decide) rfl ?_
  refine q_sub [1, 2, 0] rfl ?_
  exact tX0_layLeaves_9 C _ _ _ _ h
/-! X0_counts -/
theorem zX0_counts {G : qG} {l : Launch} {σ : qM} {x1 : Int32} {x2 : Int32} {res : (Int32 × qM)}  (h : fX0_counts σ x1 x2 = some res) : qCon sC G l yX0_counts cX0_counts 3 (some .boolean) 0 [.ref (q_ad G 16), .int x1, .int x2] σ (some (.int res.1)) res.2 := by
  refine qCon.mkF (lv := [(0, .ref (q_ad G 16)), (1, .int x1), (2, .int x2)]) (plainFor_of_name (by decide)) (Nat.le_of_ble_eq_true rfl) rfl (fun X hX C => ?_)
  unfold fX0_counts at h
  refine q_aload_n (pc := 0) C 0 rfl dX0_counts_0 rfl ?_
  refine q_getR (pc := 1) (t := 27) C fl_RX0_19 kC_16 rfl rC_16_5 dX0_counts_1 ?_
  refine q_iload_n (pc := 4) C 1 rfl dX0_counts_4 rfl ?_
  obtain ⟨g1, h⟩ := q_guard h
  refine q_iald (pc := 5) C kC_27 lC_27 g1 dX0_counts_5 ?_
  refine q_iload_n (pc := 6) C 2 rfl dX0_counts_6 rfl ?_
  refine q_shr (pc := 7) C dX0_counts_7 ?_
  refine q_iconst (pc := 8) C dX0_counts_8 ci_1 ?_
  refine q_iand (pc := 9) C dX0_counts_9 ?_
  refine q_iconst (pc := 10) C dX0_counts_10 ci_1 ?_
  refine q_ic_ne (pc := 11) C 18 dX0_counts_11 (by decide) (fun c2 => ?_) (fun c2 => ?_)
  · have h := q_f c2 h
    refine q_iconst (pc := 18) C dX0_counts_18 ci_0 ?_
    obtain rfl := Option.some.inj h
    exact q_zret (pc := 19) C (Or.inl rfl) dX0_counts_19
  · have h := q_t c2 h
    refine q_iconst (pc := 14) C dX0_counts_14 ci_1 ?_
    refine q_goto (pc := 15) C 19 dX0_counts_15 (by decide) ?_
    obtain rfl := Option.some.inj h
    exact q_zret (pc := 19) C (Or.inr rfl) dX0_counts_19
/-! J9_abs_0f7a4 -/
theorem zJ9_abs_0f7a4 {G : qG} {l : Launch} {σ : qM} {x0 : Int32} {res : (Int32 × qM)}  (h : fJ9_abs_0f7a4 σ x0 = some res) : qCon sC G l yJ9_abs_0f7a4 cJ9_abs_0f7a4 1 (some .int) 0 [.int x0] σ (some (.int res.1)) res.2 := by
  refine qCon.mkF (lv := [(0, .int x0)]) pf_abs (Nat.le_of_ble_eq_true rfl) rfl (fun X hX C => ?_)
  unfold fJ9_abs_0f7a4 at h
  refine q_iload_n (pc := 0) C 0 rfl dJ9_abs_0f7a4_0 rfl ?_
  refine q_if_ge (pc := 1) C 9 dJ9_abs_0f7a4_1 (by decide) (fun c1 => ?_) (fun c1 => ?_)
  · have h := q_t c1 h
    refine q_iload_n (pc := 9) C 0 rfl dJ9_abs_0f7a4_9 rfl ?_
    obtain rfl := Option.some.inj h
    exact q_iret (pc := 10) C dJ9_abs_0f7a4_10
  · have h := q_f c1 h
    refine q_iload_n (pc := 4) C 0 rfl dJ9_abs_0f7a4_4 rfl ?_
    refine q_ineg (pc := 5) C dJ9_abs_0f7a4_5 ?_
    refine q_goto (pc := 6) C 10 dJ9_abs_0f7a4_6 (by decide) ?_
    obtain rfl := Option.some.inj h
    exact q_iret (pc := 10) C dJ9_abs_0f7a4_10
/-! J9_max_7cf53 -/
theorem zJ9_max_7cf53 {G : qG} {l : Launch} {σ : qM} {x0 : Int32} {x1 : Int32} {res : (Int32 × qM)}  (h : fJ9_max_7cf53 σ x0 x1 = some res) : qCon sC G l yJ9_max_7cf53 cJ9_max_7cf53 2 (some .int) 0 [.int x0, .int x1] σ (some (.int res.1)) res.2 := by
  refine qCon.mkF (lv := [(0, .int x0), (1, .int x1)]) pf_max (Nat.le_of_ble_eq_true rfl) rfl (fun X hX C => ?_)
  unfold fJ9_max_7cf53 at h
  refine q_iload_n (pc := 0) C 0 rfl dJ9_max_7cf53_0 rfl ?_
  refine q_iload_n (pc := 1) C 1 rfl dJ9_max_7cf53_1 rfl ?_
  refine q_ic_lt (pc := 2) C 9 dJ9_max_7cf53_2 (by decide) (fun c1 => ?_) (fun c1 => ?_)
  · have h := q_t c1 h
    refine q_iload_n (pc := 9) C 1 rfl dJ9_max_7cf53_9 rfl ?_
    obtain rfl := Option.some.inj h
    exact q_iret (pc := 10) C dJ9_max_7cf53_10
  · have h := q_f c1 h
    refine q_iload_n (pc := 5) C 0 rfl dJ9_max_7cf53_5 rfl ?_
    refine q_goto (pc := 6) C 10 dJ9_max_7cf53_6 (by decide) ?_
    obtain rfl := Option.some.inj h
    exact q_iret (pc := 10) C dJ9_max_7cf53_10
/-! X0_madeInOrder -/
theorem tX0_madeInOrder_75 {X : qX} {G : qG} (C : qC sC X G RX0 cX0_madeInOrder 7 0 (some .int))  (σ : qM) (x6 : Int32) (res : (Int32 × qM))  (h : fX0_madeInOrder_75  σ x6 = some res) : qY sC X G 7 (q_Q sC X G (some (.int res.1)) res.2) σ 75 [(6, .int x6)] [] := by
  unfold fX0_madeInOrder_75 at h
  refine q_iload (pc := 75) C 0 rfl dX0_madeInOrder_75 ?_
  obtain rfl := Option.some.inj h
  exact q_iret (pc := 77) C dX0_madeInOrder_77
theorem tX0_madeInOrder_56 {X : qX} {G : qG} (C : qC sC X G RX0 cX0_madeInOrder 7 0 (some .int))  (σ : qM) (x3 : Int32) (x5 : Int32) (x6 : Int32) (res : (Int32 × qM))  (h : fX0_madeInOrder_56  σ x3 x5 x6 = some res) : qY sC X G 7 (q_Q sC X G (some (.int res.1)) res.2) σ 56 [(0, .ref (q_ad G 16)), (3, .int x3), (5, .int x5), (6, .int x6)] [] := by
  unfold fX0_madeInOrder_56 at h
  refine q_iload_n (pc := 56) C 1 rfl dX0_madeInOrder_56 rfl ?_
  refine q_iconst (pc := 57) C dX0_madeInOrder_57 ci_3 ?_
  refine q_ic_lt (pc := 58) C 75 dX0_madeInOrder_58 (by decide) (fun c1 => ?_) (fun c1 => ?_)
  · have h := q_t c1 h
    refine q_sub [3] rfl ?_
    exact tX0_madeInOrder_75 C _ _ _ h
  · have h := q_f c1 h
    refine q_iload (pc := 61) C 3 rfl dX0_madeInOrder_61 ?_
    refine q_aload_n (pc := 63) C 0 rfl dX0_madeInOrder_63 rfl ?_
    refine q_getR (pc := 64) (t := 35) C fl_RX0_32 kC_16 rfl rC_16_9 dX0_madeInOrder_64 ?_
    refine q_iconst (pc := 67) C dX0_madeInOrder_67 ci_2 ?_
    refine q_aald (pc := 68) (t := (36 + (2 : Int32).toNatClampNeg)) C (Or.inl kC_35) lC_35 (show qin (2 : Int32) 4 by decide) (rR_35 _) dX0_madeInOrder_68 ?_
    refine q_iload (pc := 69) C 2 rfl dX0_madeInOrder_69 ?_
    obtain ⟨g2, h⟩ := q_guard h
    refine q_iald (pc := 71) C (kR_35 (show qin (2 : Int32) 4 by decide)) (lR_35 (show qin (2 : Int32) 4 by decide)) g2 dX0_madeInOrder_71 ?_
    refine q_ior (pc := 72) C dX0_madeInOrder_72 ?_
    refine q_istore (pc := 73) C dX0_madeInOrder_73 (by decide) rfl ?_
    refine q_sub [0] rfl ?_
    exact tX0_madeInOrder_75 C _ _ _ h
theorem tX0_madeInOrder_37 {X : qX} {G : qG} (C : qC sC X G RX0 cX0_madeInOrder 7 0 (some .int))  (σ : qM) (x3 : Int32) (x4 : Int32) (x5 : Int32) (x6 : Int32) (res : (Int32 × qM))  (h : fX0_madeInOrder_37  σ x3 x4 x5 x6 = some res) : qY sC X G 7 (q_Q sC X G (some (.int res.1)) res.2) σ 37 [(0, .ref (q_ad G 16)), (3, .int x3), (4, .int x4), (5, .int x5), (6, .int x6)] [] := by
  unfold fX0_madeInOrder_37 at h
  refine q_iload (pc := 37) C 2 rfl dX0_madeInOrder_37 ?_
  refine q_if_eq (pc := 39) C 56 dX0_madeInOrder_39 (by decide) (fun c1 => ?_) (fun c1 => ?_)
  · have h := q_t c1 h
    refine q_sub [0, 1, 3, 4] rfl ?_
    exact tX0_madeInOrder_56 C _ _ _ _ _ h
  · have h := q_f c1 h
    refine q_iload (pc := 42) C 4 rfl dX0_madeInOrder_42 ?_
    refine q_aload_n (pc := 44) C 0 rfl dX0_madeInOrder_44 rfl ?_
    refine q_getR (pc := 45) (t := 35) C fl_RX0_32 kC_16 rfl rC_16_9 dX0_madeInOrder_45 ?_
    refine q_iconst (pc := 48) C dX0_madeInOrder_48 ci_1 ?_
    refine q_aald (pc := 49) (t := (36 + (1 : Int32).toNatClampNeg)) C (Or.inl kC_35) lC_35 (show qin (1 : Int32) 4 by decide) (rR_35 _) dX0_madeInOrder_49 ?_
    refine q_iload (pc := 50) C 3 rfl dX0_madeInOrder_50 ?_
    obtain ⟨g2, h⟩ := q_guard h
    refine q_iald (pc := 52) C (kR_35 (show qin (1 : Int32) 4 by decide)) (lR_35 (show qin (1 : Int32) 4 by decide)) g2 dX0_madeInOrder_52 ?_
    refine q_ior (pc := 53) C dX0_madeInOrder_53 ?_
    refine q_istore (pc := 54) C dX0_madeInOrder_54 (by decide) rfl ?_
    refine q_sub [1, 2, 4, 0] rfl ?_
    exact tX0_madeInOrder_56 C _ _ _ _ _ h
theorem tX0_madeInOrder_18 {X : qX} {G : qG} (C : qC sC X G RX0 cX0_madeInOrder 7 0 (some .int))  (σ : qM) (x3 : Int32) (x4 : Int32) (x5 : Int32) (x6 : Int32) (res : (Int32 × qM))  (h : fX0_madeInOrder_18  σ x3 x4 x5 x6 = some res) : qY sC X G 7 (q_Q sC X G (some (.int res.1)) res.2) σ 18 [(0, .ref (q_ad G 16)), (3, .int x3), (4, .int x4), (5, .int x5), (6, .int x6)] [] := by
  unfold fX0_madeInOrder_18 at h
  refine q_iload_n (pc := 18) C 1 rfl dX0_madeInOrder_18 rfl ?_
  refine q_iconst (pc := 19) C dX0_madeInOrder_19 ci_1 ?_
  refine q_ic_gt (pc := 20) C 37 dX0_madeInOrder_20 (by decide) (fun c1 => ?_) (fun c1 => ?_)
  · have h := q_t c1 h
    exact tX0_madeInOrder_37 C _ _ _ _ _ _ h
  · have h := q_f c1 h
    refine q_iload (pc := 23) C 4 rfl dX0_madeInOrder_23 ?_
    refine q_aload_n (pc := 25) C 0 rfl dX0_madeInOrder_25 rfl ?_
    refine q_getR (pc := 26) (t := 35) C fl_RX0_32 kC_16 rfl rC_16_9 dX0_madeInOrder_26 ?_
    refine q_iconst (pc := 29) C dX0_madeInOrder_29 ci_0 ?_
    refine q_aald (pc := 30) (t := (36 + (0 : Int32).toNatClampNeg)) C (Or.inl kC_35) lC_35 (show qin (0 : Int32) 4 by decide) (rR_35 _) dX0_madeInOrder_30 ?_
    refine q_iload (pc := 31) C 3 rfl dX0_madeInOrder_31 ?_
    obtain ⟨g2, h⟩ := q_guard h
    refine q_iald (pc := 33) C (kR_35 (show qin (0 : Int32) 4 by decide)) (lR_35 (show qin (0 : Int32) 4 by decide)) g2 dX0_madeInOrder_33 ?_
    refine q_ior (pc := 34) C dX0_madeInOrder_34 ?_
    refine q_istore (pc := 35) C dX0_madeInOrder_35 (by decide) rfl ?_
    refine q_sub [1, 2, 3, 4, 0] rfl ?_
    exact tX0_madeInOrder_37 C _ _ _ _ _ _ h
theorem tX0_madeInOrder_7 {X : qX} {G : qG} (C : qC sC X G RX0 cX0_madeInOrder 7 0 (some .int))  (σ : qM) (x3 : Int32) (x4 : Int32) (x5 : Int32) (res : (Int32 × qM))  (h : fX0_madeInOrder_7  σ x3 x4 x5 = some res) : qY sC X G 7 (q_Q sC X G (some (.int res.1)) res.2) σ 7 [(0, .ref (q_ad G 16)), (3, .int x3), (4, .int x4), (5, .int x5)] [] := by
  unfold fX0_madeInOrder_7 at h
  refine q_aload_n (pc := 7) C 0 rfl dX0_madeInOrder_7 rfl ?_
  refine q_getR (pc := 8) (t := 35) C fl_RX0_32 kC_16 rfl rC_16_9 dX0_madeInOrder_8 ?_
  refine q_iconst (pc := 11) C dX0_madeInOrder_11 ci_3 ?_
  refine q_aald (pc := 12) (t := (36 + (3 : Int32).toNatClampNeg)) C (Or.inl kC_35) lC_35 (show qin (3 : Int32) 4 by decide) (rR_35 _) dX0_madeInOrder_12 ?_
  refine q_iload (pc := 13) C 3 rfl dX0_madeInOrder_13 ?_
  obtain ⟨g1, h⟩ := q_guard h
  refine q_iald (pc := 15) C (kR_35 (show qin (3 : Int32) 4 by decide)) (lR_35 (show qin (3 : Int32) 4 by decide)) g1 dX0_madeInOrder_15 ?_
  refine q_istore (pc := 16) C dX0_madeInOrder_16 (by decide) rfl ?_
  refine q_sub [1, 2, 3, 4, 0] rfl ?_
  exact tX0_madeInOrder_18 C _ _ _ _ _ _ h
theorem zX0_madeInOrder {G : qG} {l : Launch} {σ : qM} {x1 : Int32} {x2 : Int32} {x3 : Int32} {x4 : Int32} {res : (Int32 × qM)}  (h : fX0_madeInOrder σ x1 x2 x3 x4 = some res) : qCon sC G l yX0_madeInOrder cX0_madeInOrder 7 (some .int) 0 [.ref (q_ad G 16), .int x1, .int x2, .int x3, .int x4] σ (some (.int res.1)) res.2 := by
  refine qCon.mkF (lv := [(0, .ref (q_ad G 16)), (1, .int x1), (2, .int x2), (3, .int x3), (4, .int x4)]) (plainFor_of_name (by decide)) (Nat.le_of_ble_eq_true rfl) rfl (fun X hX C => ?_)
  unfold fX0_madeInOrder at h
  refine q_iconst (pc := 0) C dX0_madeInOrder_0 ci_3 ?_
  refine q_iload_n (pc := 1) C 1 rfl dX0_madeInOrder_1 rfl ?_
  refine q_imul (pc := 2) C dX0_madeInOrder_2 ?_
  refine q_iload_n (pc := 3) C 2 rfl dX0_madeInOrder_3 rfl ?_
  refine q_iadd (pc := 4) C dX0_madeInOrder_4 ?_
  refine q_istore (pc := 5) C dX0_madeInOrder_5 (by decide) rfl ?_
  refine q_sub [1, 4, 5, 0] rfl ?_
  exact tX0_madeInOrder_7 C _ _ _ _ _ h
/-! X0_madeWith -/
theorem tX0_madeWith_108 {X : qX} {G : qG} (C : qC sC X G RX0 cX0_madeWith 10 1 (some .int))  (σ : qM) (t0 : Int32) (t1 : Int32) (t2 : Int32) (t3 : Int32) (t5 : Int32) (res : (Int32 × qM))  (h : fX0_madeWith_108  σ t0 t1 t2 t3 t5 = some res) : qY sC X G 10 (q_Q sC X G (some (.int res.1)) res.2) σ 108 [] [.int t0, .int t1, .int t2, .int t3, .ref (q_ad G 16), .int t5] := by
  unfold fX0_madeWith_108 at h
  obtain ⟨q1, hq1, h⟩ := q_bind h
  refine q_callV1 (pc := 108) (st := [.int t5]) C (zX0_madeInOrder hq1) yi_X0_madeInOrder ml_RX0_116 kC_16 rfl (by decide) rfl (Nat.le_of_ble_eq_true rfl) dX0_madeWith_108 ?_
  refine q_ior (pc := 111) C dX0_madeWith_111 ?_
  obtain rfl := Option.some.inj h
  exact q_iret (pc := 112) C dX0_madeWith_112
theorem tX0_madeWith_107 {X : qX} {G : qG} (C : qC sC X G RX0 cX0_madeWith 10 1 (some .int))  (σ : qM) (t0 : Int32) (t1 : Int32) (t2 : Int32) (t4 : Int32) (res : (Int32 × qM))  (h : fX0_madeWith_107  σ t0 t1 t2 t4 = some res) : qY sC X G 10 (q_Q sC X G (some (.int res.1)) res.2) σ 107 [] [.int t0, .int t1, .int t2, .ref (q_ad G 16), .int t4] := by
  unfold fX0_madeWith_107 at h
  refine q_iconst (pc := 107) C dX0_madeWith_107 ci_0 ?_
  exact tX0_madeWith_108 C _ _ _ _ _ _ _ h
theorem tX0_madeWith_84 {X : qX} {G : qG} (C : qC sC X G RX0 cX0_madeWith 10 1 (some .int))  (σ : qM) (x3 : Int32) (x6 : Int32) (x7 : Int32) (x8 : Int32) (x9 : Int32) (t0 : Int32) (t1 : Int32) (t2 : Int32) (t3 : Int32) (res : (Int32 × qM))  (h : fX0_madeWith_84  σ x3 x6 x7 x8 x9 t0 t1 t2 t3 = some res) : qY sC X G 10 (q_Q sC X G (some (.int res.1)) res.2) σ 84 [(0, .ref (q_ad G 16)), (3, .int x3), (6, .int x6), (7, .int x7), (8, .int x8), (9, .int x9)] [.int t0, .int t1, .int t2, .int t3, .ref (q_ad G 16)] := by
  unfold fX0_madeWith_84 at h
  obtain ⟨q1, hq1, h⟩ := q_bind h
  refine q_callV1 (pc := 84) (st := []) C (zX0_madeInOrder hq1) yi_X0_madeInOrder ml_RX0_116 kC_16 rfl (by decide) rfl (Nat.le_of_ble_eq_true rfl) dX0_madeWith_84 ?_
  refine q_aload_n (pc := 87) C 0 rfl dX0_madeWith_87 rfl ?_
  refine q_iload_n (pc := 88) C 1 rfl dX0_madeWith_88 rfl ?_
  refine q_iload (pc := 89) C 2 rfl dX0_madeWith_89 ?_
  refine q_iload (pc := 91) C 5 rfl dX0_madeWith_91 ?_
  refine q_iload (pc := 93) C 3 rfl dX0_madeWith_93 ?_
  refine q_if_ne (pc := 95) C 107 dX0_madeWith_95 (by decide) (fun c2 => ?_) (fun c2 => ?_)
  · have h := q_f c2 h
    refine q_sub [] rfl ?_
    exact tX0_madeWith_107 C _ _ _ _ _ _ h
  · have h := q_t c2 h
    refine q_iload (pc := 98) C 4 rfl dX0_madeWith_98 ?_
    refine q_if_ge (pc := 100) C 107 dX0_madeWith_100 (by decide) (fun c3 => ?_) (fun c3 => ?_)
    · have h := q_t c3 h
      refine q_sub [] rfl ?_
      exact tX0_madeWith_107 C _ _ _ _ _ _ h
    · have h := q_f c3 h
      refine q_iconst (pc := 103) C dX0_madeWith_103 ci_1 ?_
      refine q_goto (pc := 104) C 108 dX0_madeWith_104 (by decide) ?_
      refine q_sub [] rfl ?_
      exact tX0_madeWith_108 C _ _ _ _ _ _ _ h
theorem tX0_madeWith_83 {X : qX} {G : qG} (C : qC sC X G RX0 cX0_madeWith 10 1 (some .int))  (σ : qM) (x3 : Int32) (x6 : Int32) (x7 : Int32) (x8 : Int32) (x9 : Int32) (t0 : Int32) (t1 : Int32) (t2 : Int32) (res : (Int32 × qM))  (h : fX0_madeWith_83  σ x3 x6 x7 x8 x9 t0 t1 t2 = some res) : qY sC X G 10 (q_Q sC X G (some (.int res.1)) res.2) σ 83 [(0, .ref (q_ad G 16)), (3, .int x3), (6, .int x6), (7, .int x7), (8, .int x8), (9, .int x9)] [.int t0, .int t1, .int t2, .ref (q_ad G 16)] := by
  unfold fX0_madeWith_83 at h
  refine q_iconst (pc := 83) C dX0_madeWith_83 ci_0 ?_
  exact tX0_madeWith_84 C _ _ _ _ _ _ _ _ _ _ _ h
theorem tX0_madeWith_51 {X : qX} {G : qG} (C : qC sC X G RX0 cX0_madeWith 10 1 (some .int))  (σ : qM) (x3 : Int32) (x6 : Int32) (x7 : Int32) (x8 : Int32) (res : (Int32 × qM))  (h : fX0_madeWith_51  σ x3 x6 x7 x8 = some res) : qY sC X G 10 (q_Q sC X G (some (.int res.1)) res.2) σ 51 [(0, .ref (q_ad G 16)), (3, .int x3), (6, .int x6), (7, .int x7), (8, .int x8)] [] := by
  unfold fX0_madeWith_51 at h
  refine q_iload (pc := 51) C 3 rfl dX0_madeWith_51 ?_
  refine q_iload (pc := 53) C 4 rfl dX0_madeWith_53 ?_
  obtain ⟨q1, hq1, h⟩ := q_bind h
  refine q_callS1 (pc := 55) (st := [.int x7]) C (zJ9_abs_0f7a4 hq1) ys_J9_abs_0f7a4 ml_RX0_107 rfl (by decide) rfl (Nat.le_of_ble_eq_true rfl) dX0_madeWith_55 ?_
  obtain ⟨q2, hq2, h⟩ := q_bind h
  refine q_callS1 (pc := 58) (st := []) C (zJ9_max_7cf53 hq2) ys_J9_max_7cf53 ml_RX0_113 rfl (by decide) rfl (Nat.le_of_ble_eq_true rfl) dX0_madeWith_58 ?_
  refine q_istore (pc := 61) C dX0_madeWith_61 (by decide) rfl ?_
  refine q_aload_n (pc := 63) C 1 rfl dX0_madeWith_63 rfl ?_
  refine q_iload (pc := 64) C 3 rfl dX0_madeWith_64 ?_
  refine q_iload_n (pc := 66) C 2 rfl dX0_madeWith_66 rfl ?_
  refine q_iload (pc := 67) C 0 rfl dX0_madeWith_67 ?_
  refine q_iload (pc := 69) C 4 rfl dX0_madeWith_69 ?_
  refine q_if_ne (pc := 71) C 83 dX0_madeWith_71 (by decide) (fun c3 => ?_) (fun c3 => ?_)
  · have h := q_f c3 h
    refine q_sub [1, 2, 3, 4, 5, 0] rfl ?_
    exact tX0_madeWith_83 C _ _ _ _ _ _ _ _ _ _ h
  · have h := q_t c3 h
    refine q_iload (pc := 74) C 5 rfl dX0_madeWith_74 ?_
    refine q_if_le (pc := 76) C 83 dX0_madeWith_76 (by decide) (fun c4 => ?_) (fun c4 => ?_)
    · have h := q_t c4 h
      refine q_sub [1, 2, 3, 4, 5, 0] rfl ?_
      exact tX0_madeWith_83 C _ _ _ _ _ _ _ _ _ _ h
    · have h := q_f c4 h
      refine q_iconst (pc := 79) C dX0_madeWith_79 ci_1 ?_
      refine q_goto (pc := 80) C 84 dX0_madeWith_80 (by decide) ?_
      refine q_sub [1, 2, 3, 4, 5, 0] rfl ?_
      exact tX0_madeWith_84 C _ _ _ _ _ _ _ _ _ _ _ h
theorem zX0_madeWith {G : qG} {l : Launch} {σ : qM} {x1 : Int32} {x2 : Int32} {x3 : Int32} {x4 : Int32} {x5 : Int32} {res : (Int32 × qM)}  (h : fX0_madeWith σ x1 x2 x3 x4 x5 = some res) : qCon sC G l yX0_madeWith cX0_madeWith 10 (some .int) 1 [.ref (q_ad G 16), .int x1, .int x2, .int x3, .int x4, .int x5] σ (some (.int res.1)) res.2 := by
  refine qCon.mkF (lv := [(0, .ref (q_ad G 16)), (1, .int x1), (2, .int x2), (3, .int x3), (4, .int x4), (5, .int x5)]) (plainFor_of_name (by decide)) (Nat.le_of_ble_eq_true rfl) rfl (fun X hX C => ?_)
  unfold fX0_madeWith at h
  refine q_aload_n (pc := 0) C 0 rfl dX0_madeWith_0 rfl ?_
  refine q_iload_n (pc := 1) C 1 rfl dX0_madeWith_1 rfl ?_
  refine q_iload_n (pc := 2) C 2 rfl dX0_madeWith_2 rfl ?_
  obtain ⟨q1, hq1, h⟩ := q_bind h
  refine q_callV1 (pc := 3) (st := []) C (zX0_counts hq1) yi_X0_counts ml_RX0_100 kC_16 rfl (by decide) rfl (Nat.le_of_ble_eq_true rfl) dX0_madeWith_3 ?_
  refine q_if_ne (pc := 6) C 11 dX0_madeWith_6 (by decide) (fun c2 => ?_) (fun c2 => ?_)
  · have h := q_f c2 h
    refine q_aload_n (pc := 11) C 0 rfl dX0_madeWith_11 rfl ?_
    refine q_getR (pc := 12) (t := 1) C fl_RX0_52 kC_16 rfl rC_16_0 dX0_madeWith_12 ?_
    refine q_iload_n (pc := 15) C 2 rfl dX0_madeWith_15 rfl ?_
    refine q_iconst (pc := 16) C dX0_madeWith_16 ci_2 ?_
    obtain ⟨q3, hq3, h⟩ := q_bind h
    refine q_callV1 (pc := 17) (st := []) C (zX3_part kC_1 hq3) yi_X3_part ml_RX0_81 kC_1 rfl (by decide) rfl (Nat.le_of_ble_eq_true rfl) dX0_madeWith_17 ?_
    refine q_istore (pc := 20) C dX0_madeWith_20 (by decide) rfl ?_
    refine q_iload (pc := 22) C 5 rfl dX0_madeWith_22 ?_
    refine q_aload_n (pc := 24) C 1 rfl dX0_madeWith_24 rfl ?_
    refine q_getR (pc := 25) (t := 17) C fl_RX0_11 kC_16 rfl rC_16_3 dX0_madeWith_25 ?_
    refine q_iload_n (pc := 28) C 2 rfl dX0_madeWith_28 rfl ?_
    obtain ⟨g4, h⟩ := q_guard h
    refine q_aald (pc := 29) (t := (18 + x1.toNatClampNeg)) C (Or.inl kC_17) lC_17 g4 (rR_17 _) dX0_madeWith_29 ?_
    refine q_iload_n (pc := 30) C 3 rfl dX0_madeWith_30 rfl ?_
    obtain ⟨g5, h⟩ := q_guard h
    refine q_iald (pc := 31) C (kR_17 g4) (lR_17 g4) g5 dX0_madeWith_31 ?_
    refine q_isub (pc := 32) C dX0_madeWith_32 ?_
    obtain ⟨q6, hq6, h⟩ := q_bind h
    refine q_callS1 (pc := 33) (st := []) C (zJ9_abs_0f7a4 hq6) ys_J9_abs_0f7a4 ml_RX0_107 rfl (by decide) rfl (Nat.le_of_ble_eq_true rfl) dX0_madeWith_33 ?_
    refine q_istore (pc := 36) C dX0_madeWith_36 (by decide) rfl ?_
    refine q_iload (pc := 38) C 7 rfl dX0_madeWith_38 ?_
    refine q_aload_n (pc := 40) C 2 rfl dX0_madeWith_40 rfl ?_
    refine q_getR (pc := 41) (t := 22) C fl_RX0_16 kC_16 rfl rC_16_4 dX0_madeWith_41 ?_
    refine q_iload_n (pc := 44) C 3 rfl dX0_madeWith_44 rfl ?_
    obtain ⟨g7, h⟩ := q_guard h
    refine q_aald (pc := 45) (t := (23 + x1.toNatClampNeg)) C (Or.inl kC_22) lC_22 g7 (rR_22 _) dX0_madeWith_45 ?_
    refine q_iload_n (pc := 46) C 4 rfl dX0_madeWith_46 rfl ?_
    obtain ⟨g8, h⟩ := q_guard h
    refine q_iald (pc := 47) C (kR_22 g7) (lR_22 g7) g8 dX0_madeWith_47 ?_
    refine q_isub (pc := 48) C dX0_madeWith_48 ?_
    refine q_istore (pc := 49) C dX0_madeWith_49 (by decide) rfl ?_
    refine q_sub [3, 6, 2, 1, 0] rfl ?_
    exact tX0_madeWith_51 C _ _ _ _ _ _ h
  · have h := q_t c2 h
    refine q_iconst (pc := 9) C dX0_madeWith_9 ci_0 ?_
    obtain rfl := Option.some.inj h
    exact q_iret (pc := 10) C dX0_madeWith_10
/-! X0_pairLeaves -/
theorem tX0_pairLeaves_110 {X : qX} {G : qG} (C : qC sC X G RX0 cX0_pairLeaves 8 2 none) (k9 : qM → Int32 → Int32 → Option qM) (hk9 : ∀ (σ : qM) (x1 : Int32) (x2 : Int32) (res : qM), k9 σ x1 x2 = some res → qY sC X G 8 (q_Q sC X G none res) σ 9 [(0, .ref (q_ad G 16)), (1, .int x1), (2, .int x2)] []) (k55 : qM → Int32 → Int32 → Int32 → Int32 → Int32 → Int32 → Option qM) (hk55 : ∀ (σ : qM) (x1 : Int32) (x2 : Int32) (x3 : Int32) (x4 : Int32) (x5 : Int32) (x6 : Int32) (res : qM), k55 σ x1 x2 x3 x4 x5 x6 = some res → qY sC X G 8 (q_Q sC X G none res) σ 55 [(0, .ref (q_ad G 16)), (1, .int x1), (2, .int x2), (3, .int x3), (4, .int x4), (5, .int x5), (6, .int x6)] []) (σ : qM) (x1 : Int32) (x2 : Int32) (x3 : Int32) (x4 : Int32) (x5 : Int32) (x6 : Int32) (x7 : Int32) (res : qM)  (h : fX0_pairLeaves_110 k9 k55 σ x1 x2 x3 x4 x5 x6 x7 = some res) : qY sC X G 8 (q_Q sC X G none res) σ 110 [(0, .ref (q_ad G 16)), (1, .int x1), (2, .int x2), (3, .int x3), (4, .int x4), (5, .int x5), (6, .int x6), (7, .int x7)] [] := by
  unfold fX0_pairLeaves_110 at h
  refine q_aload_n (pc := 110) C 0 rfl dX0_pairLeaves_110 rfl ?_
  refine q_getR (pc := 111) (t := 28) C fl_RX0_23 kC_16 rfl rC_16_6 dX0_pairLeaves_111 ?_
  refine q_iload_n (pc := 114) C 1 rfl dX0_pairLeaves_114 rfl ?_
  refine q_dup2 (pc := 115) C dX0_pairLeaves_115 rfl rfl ?_
  obtain ⟨g1, h⟩ := q_guard h
  refine q_iald (pc := 116) C kC_28 lC_28 g1 dX0_pairLeaves_116 ?_
  refine q_iload (pc := 117) C 7 rfl dX0_pairLeaves_117 ?_
  refine q_ior (pc := 119) C dX0_pairLeaves_119 ?_
  obtain ⟨g2, h⟩ := q_guard h
  refine q_iast (pc := 120) C kC_28 lC_28 g2 dX0_pairLeaves_120 ?_
  refine q_inc (pc := 121) C 6 rfl ci_1 dX0_pairLeaves_121 (by decide) rfl ?_
  refine q_goto (pc := 124) C 55 dX0_pairLeaves_124 (by decide) ?_
  refine q_sub [1, 2, 3, 4, 5, 6, 0] rfl ?_
  exact hk55 _ _ _ _ _ _ _ _ h
theorem tX0_pairLeaves_92 {X : qX} {G : qG} (C : qC sC X G RX0 cX0_pairLeaves 8 2 none) (k9 : qM → Int32 → Int32 → Option qM) (hk9 : ∀ (σ : qM) (x1 : Int32) (x2 : Int32) (res : qM), k9 σ x1 x2 = some res → qY sC X G 8 (q_Q sC X G none res) σ 9 [(0, .ref (q_ad G 16)), (1, .int x1), (2, .int x2)] []) (k55 : qM → Int32 → Int32 → Int32 → Int32 → Int32 → Int32 → Option qM) (hk55 : ∀ (σ : qM) (x1 : Int32) (x2 : Int32) (x3 : Int32) (x4 : Int32) (x5 : Int32) (x6 : Int32) (res : qM), k55 σ x1 x2 x3 x4 x5 x6 = some res → qY sC X G 8 (q_Q sC X G none res) σ 55 [(0, .ref (q_ad G 16)), (1, .int x1), (2, .int x2), (3, .int x3), (4, .int x4), (5, .int x5), (6, .int x6)] []) (σ : qM) (x1 : Int32) (x2 : Int32) (x3 : Int32) (x4 : Int32) (x5 : Int32) (x6 : Int32) (t0 : Int32) (res : qM)  (h : fX0_pairLeaves_92 k9 k55 σ x1 x2 x3 x4 x5 x6 t0 = some res) : qY sC X G 8 (q_Q sC X G none res) σ 92 [(0, .ref (q_ad G 16)), (1, .int x1), (2, .int x2), (3, .int x3), (4, .int x4), (5, .int x5), (6, .int x6)] [.int t0] := by
  unfold fX0_pairLeaves_92 at h
  refine q_istore (pc := 92) C dX0_pairLeaves_92 (by decide) rfl ?_
  refine q_aload_n (pc := 94) C 1 rfl dX0_pairLeaves_94 rfl ?_
  refine q_getR (pc := 95) (t := 30) C fl_RX0_29 kC_16 rfl rC_16_8 dX0_pairLeaves_95 ?_
  refine q_iload_n (pc := 98) C 2 rfl dX0_pairLeaves_98 rfl ?_
  obtain ⟨g1, h⟩ := q_guard h
  refine q_aald (pc := 99) (t := (31 + x1.toNatClampNeg)) C (Or.inl kC_30) lC_30 g1 (rR_30 _) dX0_pairLeaves_99 ?_
  refine q_iload_n (pc := 100) C 3 rfl dX0_pairLeaves_100 rfl ?_
  refine q_bipush (pc := 101) C dX0_pairLeaves_101 cb_12 ?_
  refine q_imul (pc := 103) C dX0_pairLeaves_103 ?_
  refine q_iload (pc := 104) C 7 rfl dX0_pairLeaves_104 ?_
  refine q_iadd (pc := 106) C dX0_pairLeaves_106 ?_
  refine q_iload (pc := 107) C 0 rfl dX0_pairLeaves_107 ?_
  obtain ⟨g2, h⟩ := q_guard h
  refine q_iast (pc := 109) C (kR_30 g1) (lR_30 g1) g2 dX0_pairLeaves_109 ?_
  refine q_sub [1, 2, 3, 4, 5, 6, 7, 0] rfl ?_
  exact tX0_pairLeaves_110 C k9 hk9 k55 hk55 _ _ _ _ _ _ _ _ _ h
theorem uX0_pairLeaves_55 {X : qX} {G : qG} (C : qC sC X G RX0 cX0_pairLeaves 8 2 none) (k9 : qM → Int32 → Int32 → Option qM) (hk9 : ∀ (σ : qM) (x1 : Int32) (x2 : Int32) (res : qM), k9 σ x1 x2 = some res → qY sC X G 8 (q_Q sC X G none res) σ 9 [(0, .ref (q_ad G 16)), (1, .int x1), (2, .int x2)] []) (k55 : qM → Int32 → Int32 → Int32 → Int32 → Int32 → Int32 → Option qM) (hk55 : ∀ (σ : qM) (x1 : Int32) (x2 : Int32) (x3 : Int32) (x4 : Int32) (x5 : Int32) (x6 : Int32) (res : qM), k55 σ x1 x2 x3 x4 x5 x6 = some res → qY sC X G 8 (q_Q sC X G none res) σ 55 [(0, .ref (q_ad G 16)), (1, .int x1), (2, .int x2), (3, .int x3), (4, .int x4), (5, .int x5), (6, .int x6)] []) (σ : qM) (x1 : Int32) (x2 : Int32) (x3 : Int32) (x4 : Int32) (x5 : Int32) (x6 : Int32) (res : qM)  (h : bX0_pairLeaves_55 k9 k55 σ x1 x2 x3 x4 x5 x6 = some res) : qY sC X G 8 (q_Q sC X G none res) σ 55 [(0, .ref (q_ad G 16)), (1, .int x1), (2, .int x2), (3, .int x3), (4, .int x4), (5, .int x5), (6, .int x6)] [] := by
  unfold bX0_pairLeaves_55 at h
  refine q_iload (pc := 55) C 6 rfl dX0_pairLeaves_55 ?_
  refine q_aload_n (pc := 57) C 0 rfl dX0_pairLeaves_57 rfl ?_
  refine q_getR (pc := 58) (t := 1) C fl_RX0_52 kC_16 rfl rC_16_0 dX0_pairLeaves_58 ?_
  refine q_getI (pc := 61) C fl_RX0_76 kC_1 rfl dX0_pairLeaves_61 ?_
  refine q_ic_ge (pc := 64) C 127 dX0_pairLeaves_64 (by decide) (fun c1 => ?_) (fun c1 => ?_)
  · have h := q_t c1 h
    refine q_inc (pc := 127) C 2 rfl ci_1 dX0_pairLeaves_127 (by decide) rfl ?_
    refine q_goto (pc := 130) C 9 dX0_pairLeaves_130 (by decide) ?_
    refine q_sub [1, 2, 0] rfl ?_
    exact hk9 _ _ _ _ h
  · have h := q_f c1 h
    refine q_aload_n (pc := 67) C 0 rfl dX0_pairLeaves_67 rfl ?_
    refine q_iload_n (pc := 68) C 1 rfl dX0_pairLeaves_68 rfl ?_
    refine q_iload_n (pc := 69) C 2 rfl dX0_pairLeaves_69 rfl ?_
    obtain ⟨q2, hq2, h⟩ := q_bind h
    refine q_callV1 (pc := 70) (st := []) C (zX0_counts hq2) yi_X0_counts ml_RX0_100 kC_16 rfl (by decide) rfl (Nat.le_of_ble_eq_true rfl) dX0_pairLeaves_70 ?_
    refine q_if_eq (pc := 73) C 91 dX0_pairLeaves_73 (by decide) (fun c3 => ?_) (fun c3 => ?_)
    · have h := q_t c3 h
      refine q_iconst (pc := 91) C dX0_pairLeaves_91 ci_0 ?_
      exact tX0_pairLeaves_92 C k9 hk9 k55 hk55 _ _ _ _ _ _ _ _ _ h
    · have h := q_f c3 h
      refine q_aload_n (pc := 76) C 0 rfl dX0_pairLeaves_76 rfl ?_
      refine q_iload_n (pc := 77) C 1 rfl dX0_pairLeaves_77 rfl ?_
      refine q_iload (pc := 78) C 6 rfl dX0_pairLeaves_78 ?_
      refine q_iload_n (pc := 80) C 3 rfl dX0_pairLeaves_80 rfl ?_
      refine q_iload (pc := 81) C 4 rfl dX0_pairLeaves_81 ?_
      refine q_iload (pc := 83) C 5 rfl dX0_pairLeaves_83 ?_
      obtain ⟨q4, hq4, h⟩ := q_bind h
      refine q_callV1 (pc := 85) (st := []) C (zX0_madeWith hq4) yi_X0_madeWith ml_RX0_103 kC_16 rfl (by decide) rfl (Nat.le_of_ble_eq_true rfl) dX0_pairLeaves_85 ?_
      refine q_goto (pc := 88) C 92 dX0_pairLeaves_88 (by decide) ?_
      exact tX0_pairLeaves_92 C k9 hk9 k55 hk55 _ _ _ _ _ _ _ _ _ h
theorem tX0_pairLeaves_55 {X : qX} {G : qG} (C : qC sC X G RX0 cX0_pairLeaves 8 2 none) (k9 : qM → Int32 → Int32 → Option qM) (hk9 : ∀ (σ : qM) (x1 : Int32) (x2 : Int32) (res : qM), k9 σ x1 x2 = some res → qY sC X G 8 (q_Q sC X G none res) σ 9 [(0, .ref (q_ad G 16)), (1, .int x1), (2, .int x2)] []) (σ : qM) (x1 : Int32) (x2 : Int32) (x3 : Int32) (x4 : Int32) (x5 : Int32) (x6 : Int32) (res : qM)  (h : fX0_pairLeaves_55 k9 σ x1 x2 x3 x4 x5 x6 = some res) : qY sC X G 8 (q_Q sC X G none res) σ 55 [(0, .ref (q_ad G 16)), (1, .int x1), (2, .int x2), (3, .int x3), (4, .int x4), (5, .int x5), (6, .int x6)] [] := by
  have key : ∀ (n : Nat) (σ : qM) (x1 : Int32) (x2 : Int32) (x3 : Int32) (x4 : Int32) (x5 : Int32) (x6 : Int32) (res : qM) , qlp (fun _ _ _ _ _ _ _ => none) (bX0_pairLeaves_55 k9) n σ x1 x2 x3 x4 x5 x6 = some res → qY sC X G 8 (q_Q sC X G none res) σ 55 [(0, .ref (q_ad G 16)), (1, .int x1), (2, .int x2), (3, .int x3), (4, .int x4), (5, .int x5), (6, .int x6)] [] := by
    intro n
    induction n with
    | zero => intro σ x1 x2 x3 x4 x5 x6 res h; cases h
    | succ n ih => intro σ x1 x2 x3 x4 x5 x6 res h; exact uX0_pairLeaves_55 C k9 hk9 (qlp (fun _ _ _ _ _ _ _ => none) (bX0_pairLeaves_55 k9) n) (fun σ x1 x2 x3 x4 x5 x6 res h => ih σ x1 x2 x3 x4 x5 x6 res h) σ x1 x2 x3 x4 x5 x6 res h
  exact key qFU σ x1 x2 x3 x4 x5 x6 res h
theorem uX0_pairLeaves_9 {X : qX} {G : qG} (C : qC sC X G RX0 cX0_pairLeaves 8 2 none) (k9 : qM → Int32 → Int32 → Option qM) (hk9 : ∀ (σ : qM) (x1 : Int32) (x2 : Int32) (res : qM), k9 σ x1 x2 = some res → qY sC X G 8 (q_Q sC X G none res) σ 9 [(0, .ref (q_ad G 16)), (1, .int x1), (2, .int x2)] []) (σ : qM) (x1 : Int32) (x2 : Int32) (res : qM)  (h : bX0_pairLeaves_9 k9 σ x1 x2 = some res) : qY sC X G 8 (q_Q sC X G none res) σ 9 [(0, .ref (q_ad G 16)), (1, .int x1), (2, .int x2)] [] := by
  unfold bX0_pairLeaves_9 at h
  refine q_iload_n (pc := 9) C 2 rfl dX0_pairLeaves_9 rfl ?_
  refine q_aload_n (pc := 10) C 0 rfl dX0_pairLeaves_10 rfl ?_
  refine q_getR (pc := 11) (t := 1) C fl_RX0_52 kC_16 rfl rC_16_0 dX0_pairLeaves_11 ?_
  refine q_getI (pc := 14) C fl_RX0_76 kC_1 rfl dX0_pairLeaves_14 ?_
  refine q_ic_ge (pc := 17) C 133 dX0_pairLeaves_17 (by decide) (fun c1 => ?_) (fun c1 => ?_)
  · have h := q_t c1 h
    obtain rfl := Option.some.inj h
    exact q_vret (pc := 133) C dX0_pairLeaves_133
  · have h := q_f c1 h
    refine q_aload_n (pc := 20) C 0 rfl dX0_pairLeaves_20 rfl ?_
    refine q_getR (pc := 21) (t := 1) C fl_RX0_52 kC_16 rfl rC_16_0 dX0_pairLeaves_21 ?_
    refine q_iload_n (pc := 24) C 2 rfl dX0_pairLeaves_24 rfl ?_
    refine q_iconst (pc := 25) C dX0_pairLeaves_25 ci_2 ?_
    obtain ⟨q2, hq2, h⟩ := q_bind h
    refine q_callV1 (pc := 26) (st := []) C (zX3_part kC_1 hq2) yi_X3_part ml_RX0_81 kC_1 rfl (by decide) rfl (Nat.le_of_ble_eq_true rfl) dX0_pairLeaves_26 ?_
    refine q_istore_n (pc := 29) C dX0_pairLeaves_29 rfl (by decide) rfl ?_
    refine q_aload_n (pc := 30) C 1 rfl dX0_pairLeaves_30 rfl ?_
    refine q_getR (pc := 31) (t := 17) C fl_RX0_11 kC_16 rfl rC_16_3 dX0_pairLeaves_31 ?_
    refine q_iload_n (pc := 34) C 2 rfl dX0_pairLeaves_34 rfl ?_
    obtain ⟨g3, h⟩ := q_guard h
    refine q_aald (pc := 35) (t := (18 + x1.toNatClampNeg)) C (Or.inl kC_17) lC_17 g3 (rR_17 _) dX0_pairLeaves_35 ?_
    refine q_iload_n (pc := 36) C 3 rfl dX0_pairLeaves_36 rfl ?_
    obtain ⟨g4, h⟩ := q_guard h
    refine q_iald (pc := 37) C (kR_17 g3) (lR_17 g3) g4 dX0_pairLeaves_37 ?_
    refine q_istore (pc := 38) C dX0_pairLeaves_38 (by decide) rfl ?_
    refine q_aload_n (pc := 40) C 2 rfl dX0_pairLeaves_40 rfl ?_
    refine q_getR (pc := 41) (t := 22) C fl_RX0_16 kC_16 rfl rC_16_4 dX0_pairLeaves_41 ?_
    refine q_iload_n (pc := 44) C 3 rfl dX0_pairLeaves_44 rfl ?_
    obtain ⟨g5, h⟩ := q_guard h
    refine q_aald (pc := 45) (t := (23 + x1.toNatClampNeg)) C (Or.inl kC_22) lC_22 g5 (rR_22 _) dX0_pairLeaves_45 ?_
    refine q_iload_n (pc := 46) C 4 rfl dX0_pairLeaves_46 rfl ?_
    obtain ⟨g6, h⟩ := q_guard h
    refine q_iald (pc := 47) C (kR_22 g5) (lR_22 g5) g6 dX0_pairLeaves_47 ?_
    refine q_istore (pc := 48) C dX0_pairLeaves_48 (by decide) rfl ?_
    refine q_iload_n (pc := 50) C 5 rfl dX0_pairLeaves_50 rfl ?_
    refine q_iconst (pc := 51) C dX0_pairLeaves_51 ci_1 ?_
    refine q_iadd (pc := 52) C dX0_pairLeaves_52 ?_
    refine q_istore (pc := 53) C dX0_pairLeaves_53 (by decide) rfl ?_
    refine q_sub [4, 5, 6, 3, 2, 1, 0] rfl ?_
    exact tX0_pairLeaves_55 C k9 hk9 _ _ _ _ _ _ _ _ h
theorem tX0_pairLeaves_9 {X : qX} {G : qG} (C : qC sC X G RX0 cX0_pairLeaves 8 2 none)  (σ : qM) (x1 : Int32) (x2 : Int32) (res : qM)  (h : fX0_pairLeaves_9  σ x1 x2 = some res) : qY sC X G 8 (q_Q sC X G none res) σ 9 [(0, .ref (q_ad G 16)), (1, .int x1), (2, .int x2)] [] := by
  have key : ∀ (n : Nat) (σ : qM) (x1 : Int32) (x2 : Int32) (res : qM) , qlp (fun _ _ _ => none) (bX0_pairLeaves_9 ) n σ x1 x2 = some res → qY sC X G 8 (q_Q sC X G none res) σ 9 [(0, .ref (q_ad G 16)), (1, .int x1), (2, .int x2)] [] := by
    intro n
    induction n with
    | zero => intro σ x1 x2 res h; cases h
    | succ n ih => intro σ x1 x2 res h; exact uX0_pairLeaves_9 C  (qlp (fun _ _ _ => none) (bX0_pairLeaves_9 ) n) (fun σ x1 x2 res h => ih σ x1 x2 res h) σ x1 x2 res h
  exact key qFU σ x1 x2 res h
theorem zX0_pairLeaves {G : qG} {l : Launch} {σ : qM} {x1 : Int32} {res : qM}  (h : fX0_pairLeaves σ x1 = some res) : qCon sC G l yX0_pairLeaves cX0_pairLeaves 8 none 2 [.ref (q_ad G 16), .int x1] σ none res := by
  refine qCon.mkF (lv := [(0, .ref (q_ad G 16)), (1, .int x1)]) (plainFor_of_name (by decide)) (Nat.le_of_ble_eq_true rfl) rfl (fun X hX C => ?_)
  unfold fX0_pairLeaves at h
  refine q_aload_n (pc := 0) C 0 rfl dX0_pairLeaves_0 rfl ?_
  refine q_getR (pc := 1) (t := 28) C fl_RX0_23 kC_16 rfl rC_16_6 dX0_pairLeaves_1 ?_
  refine q_iload_n (pc := 4) C 1 rfl dX0_pairLeaves_4 rfl ?_
  refine q_iconst (pc := 5) C dX0_pairLeaves_5 ci_0 ?_
  obtain ⟨g1, h⟩ := q_guard h
  refine q_iast (pc := 6) C kC_28 lC_28 g1 dX0_pairLeaves_6 ?_
  refine q_iconst (pc := 7) C dX0_pairLeaves_7 ci_0 ?_
  refine q_istore_n (pc := 8) C dX0_pairLeaves_8 rfl (by decide) rfl ?_
  refine q_sub [1, 2, 0] rfl ?_
  exact tX0_pairLeaves_9 C _ _ _ _ h
/-! X0_settled -/
theorem uX0_settled_29 {X : qX} {G : qG} (C : qC sC X G RX0 cX0_settled 2 3 (some (.object "TeaLaws$Cup"))) (k29 : qM → Int32 → Option qM) (hk29 : ∀ (σ : qM) (x1 : Int32) (res : qM), k29 σ x1 = some res → qY sC X G 2 (q_Q sC X G (some (.ref (q_ad G 16))) res) σ 29 [(0, .ref (q_ad G 16)), (1, .int x1)] []) (σ : qM) (x1 : Int32) (res : qM)  (h : bX0_settled_29 k29 σ x1 = some res) : qY sC X G 2 (q_Q sC X G (some (.ref (q_ad G 16))) res) σ 29 [(0, .ref (q_ad G 16)), (1, .int x1)] [] := by
  unfold bX0_settled_29 at h
  refine q_iload_n (pc := 29) C 1 rfl dX0_settled_29 rfl ?_
  refine q_iconst (pc := 30) C dX0_settled_30 ci_4 ?_
  refine q_ic_ge (pc := 31) C 67 dX0_settled_31 (by decide) (fun c1 => ?_) (fun c1 => ?_)
  · have h := q_t c1 h
    refine q_aload_n (pc := 67) C 0 rfl dX0_settled_67 rfl ?_
    obtain rfl := Option.some.inj h
    exact q_aret (pc := 68) C dX0_settled_68
  · have h := q_f c1 h
    refine q_aload_n (pc := 34) C 0 rfl dX0_settled_34 rfl ?_
    refine q_iload_n (pc := 35) C 1 rfl dX0_settled_35 rfl ?_
    obtain ⟨q2, hq2, h⟩ := q_bind h
    refine q_callV0 (pc := 36) (st := []) C (zX0_layLeaves hq2) yi_X0_layLeaves ml_RX0_69 kC_16 rfl (by decide) rfl (Nat.le_of_ble_eq_true rfl) dX0_settled_36 ?_
    refine q_aload_n (pc := 39) C 0 rfl dX0_settled_39 rfl ?_
    refine q_iload_n (pc := 40) C 1 rfl dX0_settled_40 rfl ?_
    obtain ⟨q3, hq3, h⟩ := q_bind h
    refine q_callV0 (pc := 41) (st := []) C (zX0_pairLeaves hq3) yi_X0_pairLeaves ml_RX0_73 kC_16 rfl (by decide) rfl (Nat.le_of_ble_eq_true rfl) dX0_settled_41 ?_
    refine q_aload_n (pc := 44) C 0 rfl dX0_settled_44 rfl ?_
    refine q_getR (pc := 45) (t := 29) C fl_RX0_26 kC_16 rfl rC_16_7 dX0_settled_45 ?_
    refine q_iload_n (pc := 48) C 1 rfl dX0_settled_48 rfl ?_
    refine q_aload_n (pc := 49) C 0 rfl dX0_settled_49 rfl ?_
    refine q_getR (pc := 50) (t := 40) C fl_RX0_35 kC_16 rfl rC_16_10 dX0_settled_50 ?_
    refine q_aload_n (pc := 53) C 0 rfl dX0_settled_53 rfl ?_
    refine q_getR (pc := 54) (t := 28) C fl_RX0_23 kC_16 rfl rC_16_6 dX0_settled_54 ?_
    refine q_iload_n (pc := 57) C 1 rfl dX0_settled_57 rfl ?_
    obtain ⟨g4, h⟩ := q_guard h
    refine q_iald (pc := 58) C kC_28 lC_28 g4 dX0_settled_58 ?_
    obtain ⟨g5, h⟩ := q_guard h
    refine q_iald (pc := 59) C kC_40 lC_40 g5 dX0_settled_59 ?_
    obtain ⟨g6, h⟩ := q_guard h
    refine q_iast (pc := 60) C kC_29 lC_29 g6 dX0_settled_60 ?_
    refine q_inc (pc := 61) C 1 rfl ci_1 dX0_settled_61 (by decide) rfl ?_
    refine q_goto (pc := 64) C 29 dX0_settled_64 (by decide) ?_
    refine q_sub [1, 0] rfl ?_
    exact hk29 _ _ _ h
theorem tX0_settled_29 {X : qX} {G : qG} (C : qC sC X G RX0 cX0_settled 2 3 (some (.object "TeaLaws$Cup")))  (σ : qM) (x1 : Int32) (res : qM)  (h : fX0_settled_29  σ x1 = some res) : qY sC X G 2 (q_Q sC X G (some (.ref (q_ad G 16))) res) σ 29 [(0, .ref (q_ad G 16)), (1, .int x1)] [] := by
  have key : ∀ (n : Nat) (σ : qM) (x1 : Int32) (res : qM) , qlp (fun _ _ => none) (bX0_settled_29 ) n σ x1 = some res → qY sC X G 2 (q_Q sC X G (some (.ref (q_ad G 16))) res) σ 29 [(0, .ref (q_ad G 16)), (1, .int x1)] [] := by
    intro n
    induction n with
    | zero => intro σ x1 res h; cases h
    | succ n ih => intro σ x1 res h; exact uX0_settled_29 C  (qlp (fun _ _ => none) (bX0_settled_29 ) n) (fun σ x1 res h => ih σ x1 res h) σ x1 res h
  exact key qFU σ x1 res h
theorem tX0_settled_19 {X : qX} {G : qG} (C : qC sC X G RX0 cX0_settled 2 3 (some (.object "TeaLaws$Cup")))  (σ : qM)  (res : qM)  (h : fX0_settled_19  σ  = some res) : qY sC X G 2 (q_Q sC X G (some (.ref (q_ad G 16))) res) σ 19 [(0, .ref (q_ad G 16))] [] := by
  unfold fX0_settled_19 at h
  refine q_aload_n (pc := 19) C 0 rfl dX0_settled_19 rfl ?_
  obtain ⟨q1, hq1, h⟩ := q_bind h
  refine q_callV0 (pc := 20) (st := []) C (zX0_sortRules hq1) yi_X0_sortRules ml_RX0_63 kC_16 rfl (by decide) rfl (Nat.le_of_ble_eq_true rfl) dX0_settled_20 ?_
  refine q_aload_n (pc := 23) C 0 rfl dX0_settled_23 rfl ?_
  obtain ⟨q2, hq2, h⟩ := q_bind h
  refine q_callV0 (pc := 24) (st := []) C (zX0_readRules hq2) yi_X0_readRules ml_RX0_66 kC_16 rfl (by decide) rfl (Nat.le_of_ble_eq_true rfl) dX0_settled_24 ?_
  refine q_iconst (pc := 27) C dX0_settled_27 ci_0 ?_
  refine q_istore_n (pc := 28) C dX0_settled_28 rfl (by decide) rfl ?_
  refine q_sub [1, 0] rfl ?_
  exact tX0_settled_29 C _ _ _ h
theorem tX0_settled_14 {X : qX} {G : qG} (C : qC sC X G RX0 cX0_settled 2 3 (some (.object "TeaLaws$Cup")))  (σ : qM)  (res : qM)  (h : fX0_settled_14  σ  = some res) : qY sC X G 2 (q_Q sC X G (some (.ref (q_ad G 16))) res) σ 14 [(0, .ref (q_ad G 16))] [] := by
  unfold fX0_settled_14 at h
  refine q_aload_n (pc := 14) C 0 rfl dX0_settled_14 rfl ?_
  refine q_iconst (pc := 15) C dX0_settled_15 ci_m1 ?_
  refine q_putI (pc := 16) C fl_RX0_41 kC_16 rfl rfl rfl dX0_settled_16 ?_
  exact tX0_settled_19 C _ _ h
theorem zX0_settled {G : qG} {l : Launch} {σ : qM}  {res : qM}  (h : fX0_settled σ  = some res) : qCon sC G l yX0_settled cX0_settled 2 (some (.object "TeaLaws$Cup")) 3 [.ref (q_ad G 16)] σ (some (.ref (q_ad G 16))) res := by
  refine qCon.mkF (lv := [(0, .ref (q_ad G 16))]) (plainFor_of_name (by decide)) (Nat.le_of_ble_eq_true rfl) rfl (fun X hX C => ?_)
  unfold fX0_settled at h
  refine q_aload_n (pc := 0) C 0 rfl dX0_settled_0 rfl ?_
  refine q_getI (pc := 1) C fl_RX0_48 kC_16 rfl dX0_settled_1 ?_
  refine q_if_ne (pc := 4) C 9 dX0_settled_4 (by decide) (fun c1 => ?_) (fun c1 => ?_)
  · have h := q_f c1 h
    refine q_aload_n (pc := 9) C 0 rfl dX0_settled_9 rfl ?_
    refine q_iconst (pc := 10) C dX0_settled_10 ci_0 ?_
    refine q_putI (pc := 11) C fl_RX0_48 kC_16 rfl rfl rfl dX0_settled_11 ?_
    exact tX0_settled_14 C _ _ h
  · have h := q_t c1 h
    refine q_aload_n (pc := 7) C 0 rfl dX0_settled_7 rfl ?_
    obtain rfl := Option.some.inj h
    exact q_aret (pc := 8) C dX0_settled_8
/-! X0_isInForce -/
theorem zX0_isInForce {G : qG} {l : Launch} {σ : qM} {x1 : Int32} {x2 : Int32} {res : (Int32 × qM)}  (h : fX0_isInForce σ x1 x2 = some res) : qCon sC G l yX0_isInForce cX0_isInForce 3 (some .boolean) 0 [.ref (q_ad G 16), .int x1, .int x2] σ (some (.int res.1)) res.2 := by
  refine qCon.mkF (lv := [(0, .ref (q_ad G 16)), (1, .int x1), (2, .int x2)]) (plainFor_of_name (by decide)) (Nat.le_of_ble_eq_true rfl) rfl (fun X hX C => ?_)
  unfold fX0_isInForce at h
  refine q_aload_n (pc := 0) C 0 rfl dX0_isInForce_0 rfl ?_
  refine q_getR (pc := 1) (t := 29) C fl_RX0_26 kC_16 rfl rC_16_7 dX0_isInForce_1 ?_
  refine q_iload_n (pc := 4) C 1 rfl dX0_isInForce_4 rfl ?_
  obtain ⟨g1, h⟩ := q_guard h
  refine q_iald (pc := 5) C kC_29 lC_29 g1 dX0_isInForce_5 ?_
  refine q_iload_n (pc := 6) C 2 rfl dX0_isInForce_6 rfl ?_
  refine q_shr (pc := 7) C dX0_isInForce_7 ?_
  refine q_iconst (pc := 8) C dX0_isInForce_8 ci_1 ?_
  refine q_iand (pc := 9) C dX0_isInForce_9 ?_
  refine q_iconst (pc := 10) C dX0_isInForce_10 ci_1 ?_
  refine q_ic_ne (pc := 11) C 18 dX0_isInForce_11 (by decide) (fun c2 => ?_) (fun c2 => ?_)
  · have h := q_f c2 h
    refine q_iconst (pc := 18) C dX0_isInForce_18 ci_0 ?_
    obtain rfl := Option.some.inj h
    exact q_zret (pc := 19) C (Or.inl rfl) dX0_isInForce_19
  · have h := q_t c2 h
    refine q_iconst (pc := 14) C dX0_isInForce_14 ci_1 ?_
    refine q_goto (pc := 15) C 19 dX0_isInForce_15 (by decide) ?_
    obtain rfl := Option.some.inj h
    exact q_zret (pc := 19) C (Or.inr rfl) dX0_isInForce_19
/-! X0_applies -/
theorem zX0_applies {G : qG} {l : Launch} {σ : qM} {x1 : Int32} {x2 : Int32} {res : (Int32 × qM)}  (h : fX0_applies σ x1 x2 = some res) : qCon sC G l yX0_applies cX0_applies 3 (some .boolean) 0 [.ref (q_ad G 16), .int x1, .int x2] σ (some (.int res.1)) res.2 := by
  refine qCon.mkF (lv := [(0, .ref (q_ad G 16)), (1, .int x1), (2, .int x2)]) (plainFor_of_name (by decide)) (Nat.le_of_ble_eq_true rfl) rfl (fun X hX C => ?_)
  unfold fX0_applies at h
  refine q_aload_n (pc := 0) C 0 rfl dX0_applies_0 rfl ?_
  refine q_getR (pc := 1) (t := 28) C fl_RX0_23 kC_16 rfl rC_16_6 dX0_applies_1 ?_
  refine q_iload_n (pc := 4) C 1 rfl dX0_applies_4 rfl ?_
  obtain ⟨g1, h⟩ := q_guard h
  refine q_iald (pc := 5) C kC_28 lC_28 g1 dX0_applies_5 ?_
  refine q_iload_n (pc := 6) C 2 rfl dX0_applies_6 rfl ?_
  refine q_shr (pc := 7) C dX0_applies_7 ?_
  refine q_iconst (pc := 8) C dX0_applies_8 ci_1 ?_
  refine q_iand (pc := 9) C dX0_applies_9 ?_
  refine q_iconst (pc := 10) C dX0_applies_10 ci_1 ?_
  refine q_ic_ne (pc := 11) C 18 dX0_applies_11 (by decide) (fun c2 => ?_) (fun c2 => ?_)
  · have h := q_f c2 h
    refine q_iconst (pc := 18) C dX0_applies_18 ci_0 ?_
    obtain rfl := Option.some.inj h
    exact q_zret (pc := 19) C (Or.inl rfl) dX0_applies_19
  · have h := q_t c2 h
    refine q_iconst (pc := 14) C dX0_applies_14 ci_1 ?_
    refine q_goto (pc := 15) C 19 dX0_applies_15 (by decide) ?_
    obtain rfl := Option.some.inj h
    exact q_zret (pc := 19) C (Or.inr rfl) dX0_applies_19
/-! X0_alike -/
theorem zX0_alike {G : qG} {l : Launch} {σ : qM} {x1 : Int32} {x2 : Int32} {x3 : Int32} {res : (Int32 × qM)}  (h : fX0_alike σ x1 x2 x3 = some res) : qCon sC G l yX0_alike cX0_alike 4 (some .boolean) 1 [.ref (q_ad G 16), .int x1, .int x2, .int x3] σ (some (.int res.1)) res.2 := by
  refine qCon.mkF (lv := [(0, .ref (q_ad G 16)), (1, .int x1), (2, .int x2), (3, .int x3)]) (plainFor_of_name (by decide)) (Nat.le_of_ble_eq_true rfl) rfl (fun X hX C => ?_)
  unfold fX0_alike at h
  refine q_aload_n (pc := 0) C 0 rfl dX0_alike_0 rfl ?_
  refine q_getR (pc := 1) (t := 4) C fl_RX0_56 kC_16 rfl rC_16_1 dX0_alike_1 ?_
  refine q_iload_n (pc := 4) C 1 rfl dX0_alike_4 rfl ?_
  refine q_iload_n (pc := 5) C 3 rfl dX0_alike_5 rfl ?_
  obtain ⟨q1, hq1, h⟩ := q_bind h
  refine q_callV1 (pc := 6) (st := []) C (zX3_part kC_4 hq1) yi_X3_part ml_RX0_81 kC_4 rfl (by decide) rfl (Nat.le_of_ble_eq_true rfl) dX0_alike_6 ?_
  refine q_aload_n (pc := 9) C 0 rfl dX0_alike_9 rfl ?_
  refine q_getR (pc := 10) (t := 4) C fl_RX0_56 kC_16 rfl rC_16_1 dX0_alike_10 ?_
  refine q_iload_n (pc := 13) C 2 rfl dX0_alike_13 rfl ?_
  refine q_iload_n (pc := 14) C 3 rfl dX0_alike_14 rfl ?_
  obtain ⟨q2, hq2, h⟩ := q_bind h
  refine q_callV1 (pc := 15) (st := [.int q1.1]) C (zX3_part kC_4 hq2) yi_X3_part ml_RX0_81 kC_4 rfl (by decide) rfl (Nat.le_of_ble_eq_true rfl) dX0_alike_15 ?_
  refine q_ic_ne (pc := 18) C 25 dX0_alike_18 (by decide) (fun c3 => ?_) (fun c3 => ?_)
  · have h := q_f c3 h
    refine q_iconst (pc := 25) C dX0_alike_25 ci_0 ?_
    obtain rfl := Option.some.inj h
    exact q_zret (pc := 26) C (Or.inl rfl) dX0_alike_26
  · have h := q_t c3 h
    refine q_iconst (pc := 21) C dX0_alike_21 ci_1 ?_
    refine q_goto (pc := 22) C 26 dX0_alike_22 (by decide) ?_
    obtain rfl := Option.some.inj h
    exact q_zret (pc := 26) C (Or.inr rfl) dX0_alike_26
/-! X0_contradictsEarlier -/
theorem tX0_contradictsEarlier_38 {X : qX} {G : qG} (C : qC sC X G RX0 cX0_contradictsEarlier 4 2 (some .boolean)) (k2 : qM → Int32 → Int32 → Int32 → Option (Int32 × qM)) (hk2 : ∀ (σ : qM) (x1 : Int32) (x2 : Int32) (x3 : Int32) (res : (Int32 × qM)), k2 σ x1 x2 x3 = some res → qY sC X G 4 (q_Q sC X G (some (.int res.1)) res.2) σ 2 [(0, .ref (q_ad G 16)), (1, .int x1), (2, .int x2), (3, .int x3)] []) (σ : qM) (x1 : Int32) (x2 : Int32) (x3 : Int32) (res : (Int32 × qM))  (h : fX0_contradictsEarlier_38 k2 σ x1 x2 x3 = some res) : qY sC X G 4 (q_Q sC X G (some (.int res.1)) res.2) σ 38 [(0, .ref (q_ad G 16)), (1, .int x1), (2, .int x2), (3, .int x3)] [] := by
  unfold fX0_contradictsEarlier_38 at h
  refine q_inc (pc := 38) C 3 rfl ci_1 dX0_contradictsEarlier_38 (by decide) rfl ?_
  refine q_goto (pc := 41) C 2 dX0_contradictsEarlier_41 (by decide) ?_
  refine q_sub [1, 2, 3, 0] rfl ?_
  exact hk2 _ _ _ _ _ h
theorem uX0_contradictsEarlier_2 {X : qX} {G : qG} (C : qC sC X G RX0 cX0_contradictsEarlier 4 2 (some .boolean)) (k2 : qM → Int32 → Int32 → Int32 → Option (Int32 × qM)) (hk2 : ∀ (σ : qM) (x1 : Int32) (x2 : Int32) (x3 : Int32) (res : (Int32 × qM)), k2 σ x1 x2 x3 = some res → qY sC X G 4 (q_Q sC X G (some (.int res.1)) res.2) σ 2 [(0, .ref (q_ad G 16)), (1, .int x1), (2, .int x2), (3, .int x3)] []) (σ : qM) (x1 : Int32) (x2 : Int32) (x3 : Int32) (res : (Int32 × qM))  (h : bX0_contradictsEarlier_2 k2 σ x1 x2 x3 = some res) : qY sC X G 4 (q_Q sC X G (some (.int res.1)) res.2) σ 2 [(0, .ref (q_ad G 16)), (1, .int x1), (2, .int x2), (3, .int x3)] [] := by
  unfold bX0_contradictsEarlier_2 at h
  refine q_iload_n (pc := 2) C 3 rfl dX0_contradictsEarlier_2 rfl ?_
  refine q_iload_n (pc := 3) C 2 rfl dX0_contradictsEarlier_3 rfl ?_
  refine q_ic_ge (pc := 4) C 44 dX0_contradictsEarlier_4 (by decide) (fun c1 => ?_) (fun c1 => ?_)
  · have h := q_t c1 h
    refine q_iconst (pc := 44) C dX0_contradictsEarlier_44 ci_0 ?_
    obtain rfl := Option.some.inj h
    exact q_zret (pc := 45) C (Or.inl rfl) dX0_contradictsEarlier_45
  · have h := q_f c1 h
    refine q_aload_n (pc := 7) C 0 rfl dX0_contradictsEarlier_7 rfl ?_
    refine q_iload_n (pc := 8) C 1 rfl dX0_contradictsEarlier_8 rfl ?_
    refine q_iload_n (pc := 9) C 3 rfl dX0_contradictsEarlier_9 rfl ?_
    obtain ⟨q2, hq2, h⟩ := q_bind h
    refine q_callV1 (pc := 10) (st := []) C (zX0_applies hq2) yi_X0_applies ml_RX0_120 kC_16 rfl (by decide) rfl (Nat.le_of_ble_eq_true rfl) dX0_contradictsEarlier_10 ?_
    refine q_if_eq (pc := 13) C 38 dX0_contradictsEarlier_13 (by decide) (fun c3 => ?_) (fun c3 => ?_)
    · have h := q_t c3 h
      exact tX0_contradictsEarlier_38 C k2 hk2 _ _ _ _ _ h
    · have h := q_f c3 h
      refine q_aload_n (pc := 16) C 0 rfl dX0_contradictsEarlier_16 rfl ?_
      refine q_iload_n (pc := 17) C 3 rfl dX0_contradictsEarlier_17 rfl ?_
      refine q_iload_n (pc := 18) C 2 rfl dX0_contradictsEarlier_18 rfl ?_
      refine q_iconst (pc := 19) C dX0_contradictsEarlier_19 ci_4 ?_
      obtain ⟨q4, hq4, h⟩ := q_bind h
      refine q_callV1 (pc := 20) (st := []) C (zX0_alike hq4) yi_X0_alike ml_RX0_126 kC_16 rfl (by decide) rfl (Nat.le_of_ble_eq_true rfl) dX0_contradictsEarlier_20 ?_
      refine q_if_eq (pc := 23) C 38 dX0_contradictsEarlier_23 (by decide) (fun c5 => ?_) (fun c5 => ?_)
      · have h := q_t c5 h
        exact tX0_contradictsEarlier_38 C k2 hk2 _ _ _ _ _ h
      · have h := q_f c5 h
        refine q_aload_n (pc := 26) C 0 rfl dX0_contradictsEarlier_26 rfl ?_
        refine q_iload_n (pc := 27) C 3 rfl dX0_contradictsEarlier_27 rfl ?_
        refine q_iload_n (pc := 28) C 2 rfl dX0_contradictsEarlier_28 rfl ?_
        refine q_iconst (pc := 29) C dX0_contradictsEarlier_29 ci_3 ?_
        obtain ⟨q6, hq6, h⟩ := q_bind h
        refine q_callV1 (pc := 30) (st := []) C (zX0_alike hq6) yi_X0_alike ml_RX0_126 kC_16 rfl (by decide) rfl (Nat.le_of_ble_eq_true rfl) dX0_contradictsEarlier_30 ?_
        refine q_if_ne (pc := 33) C 38 dX0_contradictsEarlier_33 (by decide) (fun c7 => ?_) (fun c7 => ?_)
        · have h := q_f c7 h
          exact tX0_contradictsEarlier_38 C k2 hk2 _ _ _ _ _ h
        · have h := q_t c7 h
          refine q_iconst (pc := 36) C dX0_contradictsEarlier_36 ci_1 ?_
          obtain rfl := Option.some.inj h
          exact q_zret (pc := 37) C (Or.inr rfl) dX0_contradictsEarlier_37
theorem tX0_contradictsEarlier_2 {X : qX} {G : qG} (C : qC sC X G RX0 cX0_contradictsEarlier 4 2 (some .boolean))  (σ : qM) (x1 : Int32) (x2 : Int32) (x3 : Int32) (res : (Int32 × qM))  (h : fX0_contradictsEarlier_2  σ x1 x2 x3 = some res) : qY sC X G 4 (q_Q sC X G (some (.int res.1)) res.2) σ 2 [(0, .ref (q_ad G 16)), (1, .int x1), (2, .int x2), (3, .int x3)] [] := by
  have key : ∀ (n : Nat) (σ : qM) (x1 : Int32) (x2 : Int32) (x3 : Int32) (res : (Int32 × qM)) , qlp (fun _ _ _ _ => none) (bX0_contradictsEarlier_2 ) n σ x1 x2 x3 = some res → qY sC X G 4 (q_Q sC X G (some (.int res.1)) res.2) σ 2 [(0, .ref (q_ad G 16)), (1, .int x1), (2, .int x2), (3, .int x3)] [] := by
    intro n
    induction n with
    | zero => intro σ x1 x2 x3 res h; cases h
    | succ n ih => intro σ x1 x2 x3 res h; exact uX0_contradictsEarlier_2 C  (qlp (fun _ _ _ _ => none) (bX0_contradictsEarlier_2 ) n) (fun σ x1 x2 x3 res h => ih σ x1 x2 x3 res h) σ x1 x2 x3 res h
  exact key qFU σ x1 x2 x3 res h
theorem zX0_contradictsEarlier {G : qG} {l : Launch} {σ : qM} {x1 : Int32} {x2 : Int32} {res : (Int32 × qM)}  (h : fX0_contradictsEarlier σ x1 x2 = some res) : qCon sC G l yX0_contradictsEarlier cX0_contradictsEarlier 4 (some .boolean) 2 [.ref (q_ad G 16), .int x1, .int x2] σ (some (.int res.1)) res.2 := by
  refine qCon.mkF (lv := [(0, .ref (q_ad G 16)), (1, .int x1), (2, .int x2)]) (plainFor_of_name (by decide)) (Nat.le_of_ble_eq_true rfl) rfl (fun X hX C => ?_)
  unfold fX0_contradictsEarlier at h
  refine q_iconst (pc := 0) C dX0_contradictsEarlier_0 ci_0 ?_
  refine q_istore_n (pc := 1) C dX0_contradictsEarlier_1 rfl (by decide) rfl ?_
  refine q_sub [1, 2, 3, 0] rfl ?_
  exact tX0_contradictsEarlier_2 C _ _ _ _ _ h
/-! X0_firstClash -/
theorem tX0_firstClash_33 {X : qX} {G : qG} (C : qC sC X G RX0 cX0_firstClash 3 3 (some .int)) (k2 : qM → Int32 → Int32 → Option (Int32 × qM)) (hk2 : ∀ (σ : qM) (x1 : Int32) (x2 : Int32) (res : (Int32 × qM)), k2 σ x1 x2 = some res → qY sC X G 3 (q_Q sC X G (some (.int res.1)) res.2) σ 2 [(0, .ref (q_ad G 16)), (1, .int x1), (2, .int x2)] []) (σ : qM) (x1 : Int32) (x2 : Int32) (res : (Int32 × qM))  (h : fX0_firstClash_33 k2 σ x1 x2 = some res) : qY sC X G 3 (q_Q sC X G (some (.int res.1)) res.2) σ 33 [(0, .ref (q_ad G 16)), (1, .int x1), (2, .int x2)] [] := by
  unfold fX0_firstClash_33 at h
  refine q_inc (pc := 33) C 2 rfl ci_1 dX0_firstClash_33 (by decide) rfl ?_
  refine q_goto (pc := 36) C 2 dX0_firstClash_36 (by decide) ?_
  refine q_sub [1, 2, 0] rfl ?_
  exact hk2 _ _ _ _ h
theorem uX0_firstClash_2 {X : qX} {G : qG} (C : qC sC X G RX0 cX0_firstClash 3 3 (some .int)) (k2 : qM → Int32 → Int32 → Option (Int32 × qM)) (hk2 : ∀ (σ : qM) (x1 : Int32) (x2 : Int32) (res : (Int32 × qM)), k2 σ x1 x2 = some res → qY sC X G 3 (q_Q sC X G (some (.int res.1)) res.2) σ 2 [(0, .ref (q_ad G 16)), (1, .int x1), (2, .int x2)] []) (σ : qM) (x1 : Int32) (x2 : Int32) (res : (Int32 × qM))  (h : bX0_firstClash_2 k2 σ x1 x2 = some res) : qY sC X G 3 (q_Q sC X G (some (.int res.1)) res.2) σ 2 [(0, .ref (q_ad G 16)), (1, .int x1), (2, .int x2)] [] := by
  unfold bX0_firstClash_2 at h
  refine q_iload_n (pc := 2) C 2 rfl dX0_firstClash_2 rfl ?_
  refine q_aload_n (pc := 3) C 0 rfl dX0_firstClash_3 rfl ?_
  refine q_getR (pc := 4) (t := 4) C fl_RX0_56 kC_16 rfl rC_16_1 dX0_firstClash_4 ?_
  refine q_getI (pc := 7) C fl_RX0_76 kC_4 rfl dX0_firstClash_7 ?_
  refine q_ic_ge (pc := 10) C 39 dX0_firstClash_10 (by decide) (fun c1 => ?_) (fun c1 => ?_)
  · have h := q_t c1 h
    refine q_iconst (pc := 39) C dX0_firstClash_39 ci_m1 ?_
    obtain rfl := Option.some.inj h
    exact q_iret (pc := 40) C dX0_firstClash_40
  · have h := q_f c1 h
    refine q_aload_n (pc := 13) C 0 rfl dX0_firstClash_13 rfl ?_
    refine q_iload_n (pc := 14) C 1 rfl dX0_firstClash_14 rfl ?_
    refine q_iload_n (pc := 15) C 2 rfl dX0_firstClash_15 rfl ?_
    obtain ⟨q2, hq2, h⟩ := q_bind h
    refine q_callV1 (pc := 16) (st := []) C (zX0_applies hq2) yi_X0_applies ml_RX0_120 kC_16 rfl (by decide) rfl (Nat.le_of_ble_eq_true rfl) dX0_firstClash_16 ?_
    refine q_if_eq (pc := 19) C 33 dX0_firstClash_19 (by decide) (fun c3 => ?_) (fun c3 => ?_)
    · have h := q_t c3 h
      exact tX0_firstClash_33 C k2 hk2 _ _ _ _ h
    · have h := q_f c3 h
      refine q_aload_n (pc := 22) C 0 rfl dX0_firstClash_22 rfl ?_
      refine q_iload_n (pc := 23) C 1 rfl dX0_firstClash_23 rfl ?_
      refine q_iload_n (pc := 24) C 2 rfl dX0_firstClash_24 rfl ?_
      obtain ⟨q4, hq4, h⟩ := q_bind h
      refine q_callV1 (pc := 25) (st := []) C (zX0_contradictsEarlier hq4) yi_X0_contradictsEarlier ml_RX0_123 kC_16 rfl (by decide) rfl (Nat.le_of_ble_eq_true rfl) dX0_firstClash_25 ?_
      refine q_if_eq (pc := 28) C 33 dX0_firstClash_28 (by decide) (fun c5 => ?_) (fun c5 => ?_)
      · have h := q_t c5 h
        exact tX0_firstClash_33 C k2 hk2 _ _ _ _ h
      · have h := q_f c5 h
        refine q_iload_n (pc := 31) C 2 rfl dX0_firstClash_31 rfl ?_
        obtain rfl := Option.some.inj h
        exact q_iret (pc := 32) C dX0_firstClash_32
theorem tX0_firstClash_2 {X : qX} {G : qG} (C : qC sC X G RX0 cX0_firstClash 3 3 (some .int))  (σ : qM) (x1 : Int32) (x2 : Int32) (res : (Int32 × qM))  (h : fX0_firstClash_2  σ x1 x2 = some res) : qY sC X G 3 (q_Q sC X G (some (.int res.1)) res.2) σ 2 [(0, .ref (q_ad G 16)), (1, .int x1), (2, .int x2)] [] := by
  have key : ∀ (n : Nat) (σ : qM) (x1 : Int32) (x2 : Int32) (res : (Int32 × qM)) , qlp (fun _ _ _ => none) (bX0_firstClash_2 ) n σ x1 x2 = some res → qY sC X G 3 (q_Q sC X G (some (.int res.1)) res.2) σ 2 [(0, .ref (q_ad G 16)), (1, .int x1), (2, .int x2)] [] := by
    intro n
    induction n with
    | zero => intro σ x1 x2 res h; cases h
    | succ n ih => intro σ x1 x2 res h; exact uX0_firstClash_2 C  (qlp (fun _ _ _ => none) (bX0_firstClash_2 ) n) (fun σ x1 x2 res h => ih σ x1 x2 res h) σ x1 x2 res h
  exact key qFU σ x1 x2 res h
theorem zX0_firstClash {G : qG} {l : Launch} {σ : qM} {x1 : Int32} {res : (Int32 × qM)}  (h : fX0_firstClash σ x1 = some res) : qCon sC G l yX0_firstClash cX0_firstClash 3 (some .int) 3 [.ref (q_ad G 16), .int x1] σ (some (.int res.1)) res.2 := by
  refine qCon.mkF (lv := [(0, .ref (q_ad G 16)), (1, .int x1)]) (plainFor_of_name (by decide)) (Nat.le_of_ble_eq_true rfl) rfl (fun X hX C => ?_)
  unfold fX0_firstClash at h
  refine q_iconst (pc := 0) C dX0_firstClash_0 ci_0 ?_
  refine q_istore_n (pc := 1) C dX0_firstClash_1 rfl (by decide) rfl ?_
  refine q_sub [1, 2, 0] rfl ?_
  exact tX0_firstClash_2 C _ _ _ _ h
/-! J6_numberOfTrailingZeros_0f7a4 -/
theorem tJ6_numberOfTrailingZeros_0f7a4_74 {X : qX} {G : qG} (C : qC sC X G RJ6 cJ6_numberOfTrailingZeros_0f7a4 2 0 (some .int))  (σ : qM) (x0 : Int32) (x1 : Int32) (res : (Int32 × qM))  (h : fJ6_numberOfTrailingZeros_0f7a4_74  σ x0 x1 = some res) : qY sC X G 2 (q_Q sC X G (some (.int res.1)) res.2) σ 74 [(0, .int x0), (1, .int x1)] [] := by
  unfold fJ6_numberOfTrailingZeros_0f7a4_74 at h
  refine q_iload_n (pc := 74) C 1 rfl dJ6_numberOfTrailingZeros_0f7a4_74 rfl ?_
  refine q_iload_n (pc := 75) C 0 rfl dJ6_numberOfTrailingZeros_0f7a4_75 rfl ?_
  refine q_iconst (pc := 76) C dJ6_numberOfTrailingZeros_0f7a4_76 ci_1 ?_
  refine q_iushr (pc := 77) C dJ6_numberOfTrailingZeros_0f7a4_77 ?_
  refine q_iadd (pc := 78) C dJ6_numberOfTrailingZeros_0f7a4_78 ?_
  obtain rfl := Option.some.inj h
  exact q_iret (pc := 79) C dJ6_numberOfTrailingZeros_0f7a4_79
theorem tJ6_numberOfTrailingZeros_0f7a4_62 {X : qX} {G : qG} (C : qC sC X G RJ6 cJ6_numberOfTrailingZeros_0f7a4 2 0 (some .int))  (σ : qM) (x0 : Int32) (x1 : Int32) (res : (Int32 × qM))  (h : fJ6_numberOfTrailingZeros_0f7a4_62  σ x0 x1 = some res) : qY sC X G 2 (q_Q sC X G (some (.int res.1)) res.2) σ 62 [(0, .int x0), (1, .int x1)] [] := by
  unfold fJ6_numberOfTrailingZeros_0f7a4_62 at h
  refine q_iload_n (pc := 62) C 0 rfl dJ6_numberOfTrailingZeros_0f7a4_62 rfl ?_
  refine q_iconst (pc := 63) C dJ6_numberOfTrailingZeros_0f7a4_63 ci_4 ?_
  refine q_ic_le (pc := 64) C 74 dJ6_numberOfTrailingZeros_0f7a4_64 (by decide) (fun c1 => ?_) (fun c1 => ?_)
  · have h := q_t c1 h
    exact tJ6_numberOfTrailingZeros_0f7a4_74 C _ _ _ _ h
  · have h := q_f c1 h
    refine q_inc (pc := 67) C 1 rfl ci_2 dJ6_numberOfTrailingZeros_0f7a4_67 (by decide) rfl ?_
    refine q_iload_n (pc := 70) C 1 rfl dJ6_numberOfTrailingZeros_0f7a4_70 rfl ?_
    refine q_iconst (pc := 71) C dJ6_numberOfTrailingZeros_0f7a4_71 ci_2 ?_
    refine q_iushr (pc := 72) C dJ6_numberOfTrailingZeros_0f7a4_72 ?_
    refine q_istore_n (pc := 73) C dJ6_numberOfTrailingZeros_0f7a4_73 rfl (by decide) rfl ?_
    exact tJ6_numberOfTrailingZeros_0f7a4_74 C _ _ _ _ h
theorem tJ6_numberOfTrailingZeros_0f7a4_49 {X : qX} {G : qG} (C : qC sC X G RJ6 cJ6_numberOfTrailingZeros_0f7a4 2 0 (some .int))  (σ : qM) (x0 : Int32) (x1 : Int32) (res : (Int32 × qM))  (h : fJ6_numberOfTrailingZeros_0f7a4_49  σ x0 x1 = some res) : qY sC X G 2 (q_Q sC X G (some (.int res.1)) res.2) σ 49 [(0, .int x0), (1, .int x1)] [] := by
  unfold fJ6_numberOfTrailingZeros_0f7a4_49 at h
  refine q_iload_n (pc := 49) C 0 rfl dJ6_numberOfTrailingZeros_0f7a4_49 rfl ?_
  refine q_bipush (pc := 50) C dJ6_numberOfTrailingZeros_0f7a4_50 cb_16 ?_
  refine q_ic_le (pc := 52) C 62 dJ6_numberOfTrailingZeros_0f7a4_52 (by decide) (fun c1 => ?_) (fun c1 => ?_)
  · have h := q_t c1 h
    exact tJ6_numberOfTrailingZeros_0f7a4_62 C _ _ _ _ h
  · have h := q_f c1 h
    refine q_inc (pc := 55) C 1 rfl ci_4 dJ6_numberOfTrailingZeros_0f7a4_55 (by decide) rfl ?_
    refine q_iload_n (pc := 58) C 1 rfl dJ6_numberOfTrailingZeros_0f7a4_58 rfl ?_
    refine q_iconst (pc := 59) C dJ6_numberOfTrailingZeros_0f7a4_59 ci_4 ?_
    refine q_iushr (pc := 60) C dJ6_numberOfTrailingZeros_0f7a4_60 ?_
    refine q_istore_n (pc := 61) C dJ6_numberOfTrailingZeros_0f7a4_61 rfl (by decide) rfl ?_
    exact tJ6_numberOfTrailingZeros_0f7a4_62 C _ _ _ _ h
theorem tJ6_numberOfTrailingZeros_0f7a4_34 {X : qX} {G : qG} (C : qC sC X G RJ6 cJ6_numberOfTrailingZeros_0f7a4 2 0 (some .int))  (σ : qM) (x0 : Int32) (x1 : Int32) (res : (Int32 × qM))  (h : fJ6_numberOfTrailingZeros_0f7a4_34  σ x0 x1 = some res) : qY sC X G 2 (q_Q sC X G (some (.int res.1)) res.2) σ 34 [(0, .int x0), (1, .int x1)] [] := by
  unfold fJ6_numberOfTrailingZeros_0f7a4_34 at h
  refine q_iload_n (pc := 34) C 0 rfl dJ6_numberOfTrailingZeros_0f7a4_34 rfl ?_
  refine q_sipush (pc := 35) C dJ6_numberOfTrailingZeros_0f7a4_35 cs_256 ?_
  refine q_ic_le (pc := 38) C 49 dJ6_numberOfTrailingZeros_0f7a4_38 (by decide) (fun c1 => ?_) (fun c1 => ?_)
  · have h := q_t c1 h
    exact tJ6_numberOfTrailingZeros_0f7a4_49 C _ _ _ _ h
  · have h := q_f c1 h
    refine q_inc (pc := 41) C 1 rfl ci_8 dJ6_numberOfTrailingZeros_0f7a4_41 (by decide) rfl ?_
    refine q_iload_n (pc := 44) C 1 rfl dJ6_numberOfTrailingZeros_0f7a4_44 rfl ?_
    refine q_bipush (pc := 45) C dJ6_numberOfTrailingZeros_0f7a4_45 cb_8 ?_
    refine q_iushr (pc := 47) C dJ6_numberOfTrailingZeros_0f7a4_47 ?_
    refine q_istore_n (pc := 48) C dJ6_numberOfTrailingZeros_0f7a4_48 rfl (by decide) rfl ?_
    exact tJ6_numberOfTrailingZeros_0f7a4_49 C _ _ _ _ h
theorem tJ6_numberOfTrailingZeros_0f7a4_8 {X : qX} {G : qG} (C : qC sC X G RJ6 cJ6_numberOfTrailingZeros_0f7a4 2 0 (some .int))  (σ : qM) (x0 : Int32) (res : (Int32 × qM))  (h : fJ6_numberOfTrailingZeros_0f7a4_8  σ x0 = some res) : qY sC X G 2 (q_Q sC X G (some (.int res.1)) res.2) σ 8 [(0, .int x0)] [] := by
  unfold fJ6_numberOfTrailingZeros_0f7a4_8 at h
  refine q_iload_n (pc := 8) C 0 rfl dJ6_numberOfTrailingZeros_0f7a4_8 rfl ?_
  refine q_if_gt (pc := 9) C 17 dJ6_numberOfTrailingZeros_0f7a4_9 (by decide) (fun c1 => ?_) (fun c1 => ?_)
  · have h := q_t c1 h
    refine q_iconst (pc := 17) C dJ6_numberOfTrailingZeros_0f7a4_17 ci_1 ?_
    refine q_istore_n (pc := 18) C dJ6_numberOfTrailingZeros_0f7a4_18 rfl (by decide) rfl ?_
    refine q_iload_n (pc := 19) C 1 rfl dJ6_numberOfTrailingZeros_0f7a4_19 rfl ?_
    refine q_ldcw (pc := 20) C kn_RJ6_264 dJ6_numberOfTrailingZeros_0f7a4_20 ?_
    refine q_ic_le (pc := 23) C 34 dJ6_numberOfTrailingZeros_0f7a4_23 (by decide) (fun c2 => ?_) (fun c2 => ?_)
    · have h := q_t c2 h
      refine q_sub [1, 0] rfl ?_
      exact tJ6_numberOfTrailingZeros_0f7a4_34 C _ _ _ _ h
    · have h := q_f c2 h
      refine q_inc (pc := 26) C 0 rfl ci_16 dJ6_numberOfTrailingZeros_0f7a4_26 (by decide) rfl ?_
      refine q_iload_n (pc := 29) C 1 rfl dJ6_numberOfTrailingZeros_0f7a4_29 rfl ?_
      refine q_bipush (pc := 30) C dJ6_numberOfTrailingZeros_0f7a4_30 cb_16 ?_
      refine q_iushr (pc := 32) C dJ6_numberOfTrailingZeros_0f7a4_32 ?_
      refine q_istore_n (pc := 33) C dJ6_numberOfTrailingZeros_0f7a4_33 rfl (by decide) rfl ?_
      exact tJ6_numberOfTrailingZeros_0f7a4_34 C _ _ _ _ h
  · have h := q_f c1 h
    refine q_iload_n (pc := 12) C 0 rfl dJ6_numberOfTrailingZeros_0f7a4_12 rfl ?_
    refine q_bipush (pc := 13) C dJ6_numberOfTrailingZeros_0f7a4_13 cb_32 ?_
    refine q_iand (pc := 15) C dJ6_numberOfTrailingZeros_0f7a4_15 ?_
    obtain rfl := Option.some.inj h
    exact q_iret (pc := 16) C dJ6_numberOfTrailingZeros_0f7a4_16
theorem zJ6_numberOfTrailingZeros_0f7a4 {G : qG} {l : Launch} {σ : qM} {x0 : Int32} {res : (Int32 × qM)}  (h : fJ6_numberOfTrailingZeros_0f7a4 σ x0 = some res) : qCon sC G l yJ6_numberOfTrailingZeros_0f7a4 cJ6_numberOfTrailingZeros_0f7a4 2 (some .int) 0 [.int x0] σ (some (.int res.1)) res.2 := by
  refine qCon.mkF (lv := [(0, .int x0)]) (plainFor_of_name (by decide)) (Nat.le_of_ble_eq_true rfl) rfl (fun X hX C => ?_)
  unfold fJ6_numberOfTrailingZeros_0f7a4 at h
  refine q_iload_n (pc := 0) C 0 rfl dJ6_numberOfTrailingZeros_0f7a4_0 rfl ?_
  refine q_iconst (pc := 1) C dJ6_numberOfTrailingZeros_0f7a4_1 ci_m1 ?_
  refine q_ixor (pc := 2) C dJ6_numberOfTrailingZeros_0f7a4_2 ?_
  refine q_iload_n (pc := 3) C 0 rfl dJ6_numberOfTrailingZeros_0f7a4_3 rfl ?_
  refine q_iconst (pc := 4) C dJ6_numberOfTrailingZeros_0f7a4_4 ci_1 ?_
  refine q_isub (pc := 5) C dJ6_numberOfTrailingZeros_0f7a4_5 ?_
  refine q_iand (pc := 6) C dJ6_numberOfTrailingZeros_0f7a4_6 ?_
  refine q_istore_n (pc := 7) C dJ6_numberOfTrailingZeros_0f7a4_7 rfl (by decide) rfl ?_
  exact tJ6_numberOfTrailingZeros_0f7a4_8 C _ _ _ h
/-! J6_numberOfLeadingZeros_0f7a4 -/
theorem tJ6_numberOfLeadingZeros_0f7a4_73 {X : qX} {G : qG} (C : qC sC X G RJ6 cJ6_numberOfLeadingZeros_0f7a4 2 0 (some .int))  (σ : qM) (x0 : Int32) (x1 : Int32) (res : (Int32 × qM))  (h : fJ6_numberOfLeadingZeros_0f7a4_73  σ x0 x1 = some res) : qY sC X G 2 (q_Q sC X G (some (.int res.1)) res.2) σ 73 [(0, .int x0), (1, .int x1)] [] := by
  unfold fJ6_numberOfLeadingZeros_0f7a4_73 at h
  refine q_iload_n (pc := 73) C 1 rfl dJ6_numberOfLeadingZeros_0f7a4_73 rfl ?_
  refine q_iload_n (pc := 74) C 0 rfl dJ6_numberOfLeadingZeros_0f7a4_74 rfl ?_
  refine q_iconst (pc := 75) C dJ6_numberOfLeadingZeros_0f7a4_75 ci_1 ?_
  refine q_iushr (pc := 76) C dJ6_numberOfLeadingZeros_0f7a4_76 ?_
  refine q_isub (pc := 77) C dJ6_numberOfLeadingZeros_0f7a4_77 ?_
  obtain rfl := Option.some.inj h
  exact q_iret (pc := 78) C dJ6_numberOfLeadingZeros_0f7a4_78
theorem tJ6_numberOfLeadingZeros_0f7a4_61 {X : qX} {G : qG} (C : qC sC X G RJ6 cJ6_numberOfLeadingZeros_0f7a4 2 0 (some .int))  (σ : qM) (x0 : Int32) (x1 : Int32) (res : (Int32 × qM))  (h : fJ6_numberOfLeadingZeros_0f7a4_61  σ x0 x1 = some res) : qY sC X G 2 (q_Q sC X G (some (.int res.1)) res.2) σ 61 [(0, .int x0), (1, .int x1)] [] := by
  unfold fJ6_numberOfLeadingZeros_0f7a4_61 at h
  refine q_iload_n (pc := 61) C 0 rfl dJ6_numberOfLeadingZeros_0f7a4_61 rfl ?_
  refine q_iconst (pc := 62) C dJ6_numberOfLeadingZeros_0f7a4_62 ci_4 ?_
  refine q_ic_lt (pc := 63) C 73 dJ6_numberOfLeadingZeros_0f7a4_63 (by decide) (fun c1 => ?_) (fun c1 => ?_)
  · have h := q_t c1 h
    exact tJ6_numberOfLeadingZeros_0f7a4_73 C _ _ _ _ h
  · have h := q_f c1 h
    refine q_inc (pc := 66) C 1 rfl ci_m2 dJ6_numberOfLeadingZeros_0f7a4_66 (by decide) rfl ?_
    refine q_iload_n (pc := 69) C 1 rfl dJ6_numberOfLeadingZeros_0f7a4_69 rfl ?_
    refine q_iconst (pc := 70) C dJ6_numberOfLeadingZeros_0f7a4_70 ci_2 ?_
    refine q_iushr (pc := 71) C dJ6_numberOfLeadingZeros_0f7a4_71 ?_
    refine q_istore_n (pc := 72) C dJ6_numberOfLeadingZeros_0f7a4_72 rfl (by decide) rfl ?_
    exact tJ6_numberOfLeadingZeros_0f7a4_73 C _ _ _ _ h
theorem tJ6_numberOfLeadingZeros_0f7a4_48 {X : qX} {G : qG} (C : qC sC X G RJ6 cJ6_numberOfLeadingZeros_0f7a4 2 0 (some .int))  (σ : qM) (x0 : Int32) (x1 : Int32) (res : (Int32 × qM))  (h : fJ6_numberOfLeadingZeros_0f7a4_48  σ x0 x1 = some res) : qY sC X G 2 (q_Q sC X G (some (.int res.1)) res.2) σ 48 [(0, .int x0), (1, .int x1)] [] := by
  unfold fJ6_numberOfLeadingZeros_0f7a4_48 at h
  refine q_iload_n (pc := 48) C 0 rfl dJ6_numberOfLeadingZeros_0f7a4_48 rfl ?_
  refine q_bipush (pc := 49) C dJ6_numberOfLeadingZeros_0f7a4_49 cb_16 ?_
  refine q_ic_lt (pc := 51) C 61 dJ6_numberOfLeadingZeros_0f7a4_51 (by decide) (fun c1 => ?_) (fun c1 => ?_)
  · have h := q_t c1 h
    exact tJ6_numberOfLeadingZeros_0f7a4_61 C _ _ _ _ h
  · have h := q_f c1 h
    refine q_inc (pc := 54) C 1 rfl ci_m4 dJ6_numberOfLeadingZeros_0f7a4_54 (by decide) rfl ?_
    refine q_iload_n (pc := 57) C 1 rfl dJ6_numberOfLeadingZeros_0f7a4_57 rfl ?_
    refine q_iconst (pc := 58) C dJ6_numberOfLeadingZeros_0f7a4_58 ci_4 ?_
    refine q_iushr (pc := 59) C dJ6_numberOfLeadingZeros_0f7a4_59 ?_
    refine q_istore_n (pc := 60) C dJ6_numberOfLeadingZeros_0f7a4_60 rfl (by decide) rfl ?_
    exact tJ6_numberOfLeadingZeros_0f7a4_61 C _ _ _ _ h
theorem tJ6_numberOfLeadingZeros_0f7a4_33 {X : qX} {G : qG} (C : qC sC X G RJ6 cJ6_numberOfLeadingZeros_0f7a4 2 0 (some .int))  (σ : qM) (x0 : Int32) (x1 : Int32) (res : (Int32 × qM))  (h : fJ6_numberOfLeadingZeros_0f7a4_33  σ x0 x1 = some res) : qY sC X G 2 (q_Q sC X G (some (.int res.1)) res.2) σ 33 [(0, .int x0), (1, .int x1)] [] := by
  unfold fJ6_numberOfLeadingZeros_0f7a4_33 at h
  refine q_iload_n (pc := 33) C 0 rfl dJ6_numberOfLeadingZeros_0f7a4_33 rfl ?_
  refine q_sipush (pc := 34) C dJ6_numberOfLeadingZeros_0f7a4_34 cs_256 ?_
  refine q_ic_lt (pc := 37) C 48 dJ6_numberOfLeadingZeros_0f7a4_37 (by decide) (fun c1 => ?_) (fun c1 => ?_)
  · have h := q_t c1 h
    exact tJ6_numberOfLeadingZeros_0f7a4_48 C _ _ _ _ h
  · have h := q_f c1 h
    refine q_inc (pc := 40) C 1 rfl ci_m8 dJ6_numberOfLeadingZeros_0f7a4_40 (by decide) rfl ?_
    refine q_iload_n (pc := 43) C 1 rfl dJ6_numberOfLeadingZeros_0f7a4_43 rfl ?_
    refine q_bipush (pc := 44) C dJ6_numberOfLeadingZeros_0f7a4_44 cb_8 ?_
    refine q_iushr (pc := 46) C dJ6_numberOfLeadingZeros_0f7a4_46 ?_
    refine q_istore_n (pc := 47) C dJ6_numberOfLeadingZeros_0f7a4_47 rfl (by decide) rfl ?_
    exact tJ6_numberOfLeadingZeros_0f7a4_48 C _ _ _ _ h
theorem zJ6_numberOfLeadingZeros_0f7a4 {G : qG} {l : Launch} {σ : qM} {x0 : Int32} {res : (Int32 × qM)}  (h : fJ6_numberOfLeadingZeros_0f7a4 σ x0 = some res) : qCon sC G l yJ6_numberOfLeadingZeros_0f7a4 cJ6_numberOfLeadingZeros_0f7a4 2 (some .int) 0 [.int x0] σ (some (.int res.1)) res.2 := by
  refine qCon.mkF (lv := [(0, .int x0)]) (plainFor_of_name (by decide)) (Nat.le_of_ble_eq_true rfl) rfl (fun X hX C => ?_)
  unfold fJ6_numberOfLeadingZeros_0f7a4 at h
  refine q_iload_n (pc := 0) C 0 rfl dJ6_numberOfLeadingZeros_0f7a4_0 rfl ?_
  refine q_if_gt (pc := 1) C 15 dJ6_numberOfLeadingZeros_0f7a4_1 (by decide) (fun c1 => ?_) (fun c1 => ?_)
  · have h := q_t c1 h
    refine q_bipush (pc := 15) C dJ6_numberOfLeadingZeros_0f7a4_15 cb_31 ?_
    refine q_istore_n (pc := 17) C dJ6_numberOfLeadingZeros_0f7a4_17 rfl (by decide) rfl ?_
    refine q_iload_n (pc := 18) C 1 rfl dJ6_numberOfLeadingZeros_0f7a4_18 rfl ?_
    refine q_ldcw (pc := 19) C kn_RJ6_264 dJ6_numberOfLeadingZeros_0f7a4_19 ?_
    refine q_ic_lt (pc := 22) C 33 dJ6_numberOfLeadingZeros_0f7a4_22 (by decide) (fun c2 => ?_) (fun c2 => ?_)
    · have h := q_t c2 h
      refine q_sub [1, 0] rfl ?_
      exact tJ6_numberOfLeadingZeros_0f7a4_33 C _ _ _ _ h
    · have h := q_f c2 h
      refine q_inc (pc := 25) C 0 rfl ci_m16 dJ6_numberOfLeadingZeros_0f7a4_25 (by decide) rfl ?_
      refine q_iload_n (pc := 28) C 1 rfl dJ6_numberOfLeadingZeros_0f7a4_28 rfl ?_
      refine q_bipush (pc := 29) C dJ6_numberOfLeadingZeros_0f7a4_29 cb_16 ?_
      refine q_iushr (pc := 31) C dJ6_numberOfLeadingZeros_0f7a4_31 ?_
      refine q_istore_n (pc := 32) C dJ6_numberOfLeadingZeros_0f7a4_32 rfl (by decide) rfl ?_
      exact tJ6_numberOfLeadingZeros_0f7a4_33 C _ _ _ _ h
  · have h := q_f c1 h
    refine q_iload_n (pc := 4) C 0 rfl dJ6_numberOfLeadingZeros_0f7a4_4 rfl ?_
    refine q_if_ne (pc := 5) C 13 dJ6_numberOfLeadingZeros_0f7a4_5 (by decide) (fun c3 => ?_) (fun c3 => ?_)
    · have h := q_f c3 h
      refine q_iconst (pc := 13) C dJ6_numberOfLeadingZeros_0f7a4_13 ci_0 ?_
      obtain rfl := Option.some.inj h
      exact q_iret (pc := 14) C dJ6_numberOfLeadingZeros_0f7a4_14
    · have h := q_t c3 h
      refine q_bipush (pc := 8) C dJ6_numberOfLeadingZeros_0f7a4_8 cb_32 ?_
      refine q_goto (pc := 10) C 14 dJ6_numberOfLeadingZeros_0f7a4_10 (by decide) ?_
      obtain rfl := Option.some.inj h
      exact q_iret (pc := 14) C dJ6_numberOfLeadingZeros_0f7a4_14
/-! X0_fillRulesByLeaves -/
theorem tX0_fillRulesByLeaves_112 {X : qX} {G : qG} (C : qC sC X G RX0 cX0_fillRulesByLeaves 6 1 none) (k33 : qM → Int32 → Int32 → Int32 → Option qM) (hk33 : ∀ (σ : qM) (x1 : Int32) (x2 : Int32) (x3 : Int32) (res : qM), k33 σ x1 x2 x3 = some res → qY sC X G 6 (q_Q sC X G none res) σ 33 [(0, .ref (q_ad G 16)), (1, .int x1), (2, .int x2), (3, .int x3)] []) (σ : qM) (x1 : Int32) (x2 : Int32) (x3 : Int32) (t0 : Int32) (t1 : Int32) (res : qM)  (h : fX0_fillRulesByLeaves_112 k33 σ x1 x2 x3 t0 t1 = some res) : qY sC X G 6 (q_Q sC X G none res) σ 112 [(0, .ref (q_ad G 16)), (1, .int x1), (2, .int x2), (3, .int x3)] [.int t0, .int t1, .ref (q_ad G 41)] := by
  unfold fX0_fillRulesByLeaves_112 at h
  obtain ⟨g1, h⟩ := q_guard h
  refine q_iast (pc := 112) C kC_41 lC_41 g1 dX0_fillRulesByLeaves_112 ?_
  refine q_inc (pc := 113) C 3 rfl ci_1 dX0_fillRulesByLeaves_113 (by decide) rfl ?_
  refine q_goto (pc := 116) C 33 dX0_fillRulesByLeaves_116 (by decide) ?_
  refine q_sub [1, 2, 3, 0] rfl ?_
  exact hk33 _ _ _ _ _ h
theorem tX0_fillRulesByLeaves_53 {X : qX} {G : qG} (C : qC sC X G RX0 cX0_fillRulesByLeaves 6 1 none) (k33 : qM → Int32 → Int32 → Int32 → Option qM) (hk33 : ∀ (σ : qM) (x1 : Int32) (x2 : Int32) (x3 : Int32) (res : qM), k33 σ x1 x2 x3 = some res → qY sC X G 6 (q_Q sC X G none res) σ 33 [(0, .ref (q_ad G 16)), (1, .int x1), (2, .int x2), (3, .int x3)] []) (σ : qM) (x1 : Int32) (x2 : Int32) (x3 : Int32) (x4 : Int32) (x5 : Int32) (res : qM)  (h : fX0_fillRulesByLeaves_53 k33 σ x1 x2 x3 x4 x5 = some res) : qY sC X G 6 (q_Q sC X G none res) σ 53 [(0, .ref (q_ad G 16)), (1, .int x1), (2, .int x2), (3, .int x3), (4, .int x4), (5, .int x5)] [] := by
  unfold fX0_fillRulesByLeaves_53 at h
  refine q_aload_n (pc := 53) C 0 rfl dX0_fillRulesByLeaves_53 rfl ?_
  refine q_getR (pc := 54) (t := 41) C fl_RX0_38 kC_16 rfl rC_16_11 dX0_fillRulesByLeaves_54 ?_
  refine q_iload_n (pc := 57) C 3 rfl dX0_fillRulesByLeaves_57 rfl ?_
  refine q_iload (pc := 58) C 4 rfl dX0_fillRulesByLeaves_58 ?_
  refine q_iload (pc := 60) C 5 rfl dX0_fillRulesByLeaves_60 ?_
  refine q_ic_ne (pc := 62) C 69 dX0_fillRulesByLeaves_62 (by decide) (fun c1 => ?_) (fun c1 => ?_)
  · have h := q_f c1 h
    refine q_aload_n (pc := 69) C 0 rfl dX0_fillRulesByLeaves_69 rfl ?_
    refine q_getR (pc := 70) (t := 41) C fl_RX0_38 kC_16 rfl rC_16_11 dX0_fillRulesByLeaves_70 ?_
    refine q_iload_n (pc := 73) C 3 rfl dX0_fillRulesByLeaves_73 rfl ?_
    refine q_iconst (pc := 74) C dX0_fillRulesByLeaves_74 ci_1 ?_
    refine q_iload (pc := 75) C 4 rfl dX0_fillRulesByLeaves_75 ?_
    refine q_shl (pc := 77) C dX0_fillRulesByLeaves_77 ?_
    refine q_iconst (pc := 78) C dX0_fillRulesByLeaves_78 ci_m1 ?_
    refine q_ixor (pc := 79) C dX0_fillRulesByLeaves_79 ?_
    refine q_iand (pc := 80) C dX0_fillRulesByLeaves_80 ?_
    obtain ⟨g2, h⟩ := q_guard h
    refine q_iald (pc := 81) C kC_41 lC_41 g2 dX0_fillRulesByLeaves_81 ?_
    refine q_aload_n (pc := 82) C 0 rfl dX0_fillRulesByLeaves_82 rfl ?_
    refine q_getR (pc := 83) (t := 41) C fl_RX0_38 kC_16 rfl rC_16_11 dX0_fillRulesByLeaves_83 ?_
    refine q_iload_n (pc := 86) C 3 rfl dX0_fillRulesByLeaves_86 rfl ?_
    refine q_iconst (pc := 87) C dX0_fillRulesByLeaves_87 ci_1 ?_
    refine q_iload (pc := 88) C 5 rfl dX0_fillRulesByLeaves_88 ?_
    refine q_shl (pc := 90) C dX0_fillRulesByLeaves_90 ?_
    refine q_iconst (pc := 91) C dX0_fillRulesByLeaves_91 ci_m1 ?_
    refine q_ixor (pc := 92) C dX0_fillRulesByLeaves_92 ?_
    refine q_iand (pc := 93) C dX0_fillRulesByLeaves_93 ?_
    obtain ⟨g3, h⟩ := q_guard h
    refine q_iald (pc := 94) C kC_41 lC_41 g3 dX0_fillRulesByLeaves_94 ?_
    refine q_ior (pc := 95) C dX0_fillRulesByLeaves_95 ?_
    refine q_aload_n (pc := 96) C 0 rfl dX0_fillRulesByLeaves_96 rfl ?_
    refine q_getR (pc := 97) (t := 30) C fl_RX0_29 kC_16 rfl rC_16_8 dX0_fillRulesByLeaves_97 ?_
    refine q_iload_n (pc := 100) C 1 rfl dX0_fillRulesByLeaves_100 rfl ?_
    obtain ⟨g4, h⟩ := q_guard h
    refine q_aald (pc := 101) (t := (31 + x1.toNatClampNeg)) C (Or.inl kC_30) lC_30 g4 (rR_30 _) dX0_fillRulesByLeaves_101 ?_
    refine q_iload (pc := 102) C 4 rfl dX0_fillRulesByLeaves_102 ?_
    refine q_bipush (pc := 104) C dX0_fillRulesByLeaves_104 cb_12 ?_
    refine q_imul (pc := 106) C dX0_fillRulesByLeaves_106 ?_
    refine q_iload (pc := 107) C 5 rfl dX0_fillRulesByLeaves_107 ?_
    refine q_iadd (pc := 109) C dX0_fillRulesByLeaves_109 ?_
    obtain ⟨g5, h⟩ := q_guard h
    refine q_iald (pc := 110) C (kR_30 g4) (lR_30 g4) g5 dX0_fillRulesByLeaves_110 ?_
    refine q_ior (pc := 111) C dX0_fillRulesByLeaves_111 ?_
    refine q_sub [0, 1, 2, 3] rfl ?_
    exact tX0_fillRulesByLeaves_112 C k33 hk33 _ _ _ _ _ _ _ h
  · have h := q_t c1 h
    refine q_iconst (pc := 65) C dX0_fillRulesByLeaves_65 ci_0 ?_
    refine q_goto (pc := 66) C 112 dX0_fillRulesByLeaves_66 (by decide) ?_
    refine q_sub [0, 1, 2, 3] rfl ?_
    exact tX0_fillRulesByLeaves_112 C k33 hk33 _ _ _ _ _ _ _ h
theorem uX0_fillRulesByLeaves_33 {X : qX} {G : qG} (C : qC sC X G RX0 cX0_fillRulesByLeaves 6 1 none) (k33 : qM → Int32 → Int32 → Int32 → Option qM) (hk33 : ∀ (σ : qM) (x1 : Int32) (x2 : Int32) (x3 : Int32) (res : qM), k33 σ x1 x2 x3 = some res → qY sC X G 6 (q_Q sC X G none res) σ 33 [(0, .ref (q_ad G 16)), (1, .int x1), (2, .int x2), (3, .int x3)] []) (σ : qM) (x1 : Int32) (x2 : Int32) (x3 : Int32) (res : qM)  (h : bX0_fillRulesByLeaves_33 k33 σ x1 x2 x3 = some res) : qY sC X G 6 (q_Q sC X G none res) σ 33 [(0, .ref (q_ad G 16)), (1, .int x1), (2, .int x2), (3, .int x3)] [] := by
  unfold bX0_fillRulesByLeaves_33 at h
  refine q_iload_n (pc := 33) C 3 rfl dX0_fillRulesByLeaves_33 rfl ?_
  refine q_iload_n (pc := 34) C 2 rfl dX0_fillRulesByLeaves_34 rfl ?_
  refine q_ic_ge (pc := 35) C 119 dX0_fillRulesByLeaves_35 (by decide) (fun c1 => ?_) (fun c1 => ?_)
  · have h := q_t c1 h
    obtain rfl := Option.some.inj h
    exact q_vret (pc := 119) C dX0_fillRulesByLeaves_119
  · have h := q_f c1 h
    refine q_iload_n (pc := 38) C 3 rfl dX0_fillRulesByLeaves_38 rfl ?_
    obtain ⟨q2, hq2, h⟩ := q_bind h
    refine q_callS1 (pc := 39) (st := []) C (zJ6_numberOfTrailingZeros_0f7a4 hq2) ys_J6_numberOfTrailingZeros_0f7a4 ml_RX0_130 rfl (by decide) rfl (Nat.le_of_ble_eq_true rfl) dX0_fillRulesByLeaves_39 ?_
    refine q_istore (pc := 42) C dX0_fillRulesByLeaves_42 (by decide) rfl ?_
    refine q_bipush (pc := 44) C dX0_fillRulesByLeaves_44 cb_31 ?_
    refine q_iload_n (pc := 46) C 4 rfl dX0_fillRulesByLeaves_46 rfl ?_
    obtain ⟨q3, hq3, h⟩ := q_bind h
    refine q_callS1 (pc := 47) (st := [.int (31 : Int32)]) C (zJ6_numberOfLeadingZeros_0f7a4 hq3) ys_J6_numberOfLeadingZeros_0f7a4 ml_RX0_135 rfl (by decide) rfl (Nat.le_of_ble_eq_true rfl) dX0_fillRulesByLeaves_47 ?_
    refine q_isub (pc := 50) C dX0_fillRulesByLeaves_50 ?_
    refine q_istore (pc := 51) C dX0_fillRulesByLeaves_51 (by decide) rfl ?_
    refine q_sub [2, 3, 4, 5, 1, 0] rfl ?_
    exact tX0_fillRulesByLeaves_53 C k33 hk33 _ _ _ _ _ _ _ h
theorem tX0_fillRulesByLeaves_33 {X : qX} {G : qG} (C : qC sC X G RX0 cX0_fillRulesByLeaves 6 1 none)  (σ : qM) (x1 : Int32) (x2 : Int32) (x3 : Int32) (res : qM)  (h : fX0_fillRulesByLeaves_33  σ x1 x2 x3 = some res) : qY sC X G 6 (q_Q sC X G none res) σ 33 [(0, .ref (q_ad G 16)), (1, .int x1), (2, .int x2), (3, .int x3)] [] := by
  have key : ∀ (n : Nat) (σ : qM) (x1 : Int32) (x2 : Int32) (x3 : Int32) (res : qM) , qlp (fun _ _ _ _ => none) (bX0_fillRulesByLeaves_33 ) n σ x1 x2 x3 = some res → qY sC X G 6 (q_Q sC X G none res) σ 33 [(0, .ref (q_ad G 16)), (1, .int x1), (2, .int x2), (3, .int x3)] [] := by
    intro n
    induction n with
    | zero => intro σ x1 x2 x3 res h; cases h
    | succ n ih => intro σ x1 x2 x3 res h; exact uX0_fillRulesByLeaves_33 C  (qlp (fun _ _ _ _ => none) (bX0_fillRulesByLeaves_33 ) n) (fun σ x1 x2 x3 res h => ih σ x1 x2 x3 res h) σ x1 x2 x3 res h
  exact key qFU σ x1 x2 x3 res h
theorem tX0_fillRulesByLeaves_21 {X : qX} {G : qG} (C : qC sC X G RX0 cX0_fillRulesByLeaves 6 1 none)  (σ : qM) (x1 : Int32) (res : qM)  (h : fX0_fillRulesByLeaves_21  σ x1 = some res) : qY sC X G 6 (q_Q sC X G none res) σ 21 [(0, .ref (q_ad G 16)), (1, .int x1)] [] := by
  unfold fX0_fillRulesByLeaves_21 at h
  refine q_iconst (pc := 21) C dX0_fillRulesByLeaves_21 ci_1 ?_
  refine q_aload_n (pc := 22) C 0 rfl dX0_fillRulesByLeaves_22 rfl ?_
  refine q_getR (pc := 23) (t := 1) C fl_RX0_52 kC_16 rfl rC_16_0 dX0_fillRulesByLeaves_23 ?_
  refine q_getI (pc := 26) C fl_RX0_76 kC_1 rfl dX0_fillRulesByLeaves_26 ?_
  refine q_shl (pc := 29) C dX0_fillRulesByLeaves_29 ?_
  refine q_istore_n (pc := 30) C dX0_fillRulesByLeaves_30 rfl (by decide) rfl ?_
  refine q_iconst (pc := 31) C dX0_fillRulesByLeaves_31 ci_1 ?_
  refine q_istore_n (pc := 32) C dX0_fillRulesByLeaves_32 rfl (by decide) rfl ?_
  refine q_sub [2, 3, 1, 0] rfl ?_
  exact tX0_fillRulesByLeaves_33 C _ _ _ _ _ h
theorem tX0_fillRulesByLeaves_14 {X : qX} {G : qG} (C : qC sC X G RX0 cX0_fillRulesByLeaves 6 1 none)  (σ : qM) (x1 : Int32) (res : qM)  (h : fX0_fillRulesByLeaves_14  σ x1 = some res) : qY sC X G 6 (q_Q sC X G none res) σ 14 [(0, .ref (q_ad G 16)), (1, .int x1)] [] := by
  unfold fX0_fillRulesByLeaves_14 at h
  refine q_aload_n (pc := 14) C 0 rfl dX0_fillRulesByLeaves_14 rfl ?_
  refine q_getR (pc := 15) (t := 41) C fl_RX0_38 kC_16 rfl rC_16_11 dX0_fillRulesByLeaves_15 ?_
  refine q_iconst (pc := 18) C dX0_fillRulesByLeaves_18 ci_0 ?_
  refine q_iconst (pc := 19) C dX0_fillRulesByLeaves_19 ci_0 ?_
  refine q_iast (pc := 20) C kC_41 lC_41 (show qin (0 : Int32) 4096 by decide) dX0_fillRulesByLeaves_20 ?_
  exact tX0_fillRulesByLeaves_21 C _ _ _ h
theorem zX0_fillRulesByLeaves {G : qG} {l : Launch} {σ : qM} {x1 : Int32} {res : qM}  (h : fX0_fillRulesByLeaves σ x1 = some res) : qCon sC G l yX0_fillRulesByLeaves cX0_fillRulesByLeaves 6 none 1 [.ref (q_ad G 16), .int x1] σ none res := by
  refine qCon.mkF (lv := [(0, .ref (q_ad G 16)), (1, .int x1)]) (plainFor_of_name (by decide)) (Nat.le_of_ble_eq_true rfl) rfl (fun X hX C => ?_)
  unfold fX0_fillRulesByLeaves at h
  refine q_aload_n (pc := 0) C 0 rfl dX0_fillRulesByLeaves_0 rfl ?_
  refine q_getI (pc := 1) C fl_RX0_41 kC_16 rfl dX0_fillRulesByLeaves_1 ?_
  refine q_iload_n (pc := 4) C 1 rfl dX0_fillRulesByLeaves_4 rfl ?_
  refine q_ic_ne (pc := 5) C 9 dX0_fillRulesByLeaves_5 (by decide) (fun c1 => ?_) (fun c1 => ?_)
  · have h := q_f c1 h
    refine q_aload_n (pc := 9) C 0 rfl dX0_fillRulesByLeaves_9 rfl ?_
    refine q_iload_n (pc := 10) C 1 rfl dX0_fillRulesByLeaves_10 rfl ?_
    refine q_putI (pc := 11) C fl_RX0_41 kC_16 rfl rfl rfl dX0_fillRulesByLeaves_11 ?_
    exact tX0_fillRulesByLeaves_14 C _ _ _ h
  · have h := q_t c1 h
    obtain rfl := Option.some.inj h
    exact q_vret (pc := 8) C dX0_fillRulesByLeaves_8

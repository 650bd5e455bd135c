/-! X5_isRead -/
theorem tX5_isRead_58 {X : qX} {G : qG} (C : qC sM X G RX5 cX5_isRead 4 5 (some .boolean)) (k4 : qM → Int32 → Int32 → Int32 → Option (Int32 × qM)) (hk4 : ∀ (σ : qM) (x1 : Int32) (x2 : Int32) (x3 : Int32) (res : (Int32 × qM)), k4 σ x1 x2 x3 = some res → qY sM X G 4 (q_Q sM X G (some (.int res.1)) res.2) σ 4 [(0, .ref (q_ad G 0)), (1, .int x1), (2, .int x2), (3, .int x3)] []) (σ : qM) (x1 : Int32) (x3 : Int32) (t0 : Int32) (res : (Int32 × qM))  (h : fX5_isRead_58 k4 σ x1 x3 t0 = some res) : qY sM X G 4 (q_Q sM X G (some (.int res.1)) res.2) σ 58 [(0, .ref (q_ad G 0)), (1, .int x1), (3, .int x3)] [.int t0] := by
  unfold fX5_isRead_58 at h
  refine q_istore_n (pc := 58) C dX5_isRead_58 rfl (by decide) rfl ?_
  refine q_inc (pc := 59) C 3 rfl ci_1 dX5_isRead_59 (by decide) rfl ?_
  refine q_goto (pc := 62) C 4 dX5_isRead_62 (by decide) ?_
  refine q_sub [2, 3, 1, 0] rfl ?_
  exact hk4 _ _ _ _ _ h
theorem uX5_isRead_4 {X : qX} {G : qG} (C : qC sM X G RX5 cX5_isRead 4 5 (some .boolean)) (k4 : qM → Int32 → Int32 → Int32 → Option (Int32 × qM)) (hk4 : ∀ (σ : qM) (x1 : Int32) (x2 : Int32) (x3 : Int32) (res : (Int32 × qM)), k4 σ x1 x2 x3 = some res → qY sM X G 4 (q_Q sM X G (some (.int res.1)) res.2) σ 4 [(0, .ref (q_ad G 0)), (1, .int x1), (2, .int x2), (3, .int x3)] []) (σ : qM) (x1 : Int32) (x2 : Int32) (x3 : Int32) (res : (Int32 × qM))  (h : bX5_isRead_4 k4 σ x1 x2 x3 = some res) : qY sM X G 4 (q_Q sM X G (some (.int res.1)) res.2) σ 4 [(0, .ref (q_ad G 0)), (1, .int x1), (2, .int x2), (3, .int x3)] [] := by
  unfold bX5_isRead_4 at h
  refine q_iload_n (pc := 4) C 3 rfl dX5_isRead_4 rfl ?_
  refine q_aload_n (pc := 5) C 0 rfl dX5_isRead_5 rfl ?_
  refine q_getI (pc := 6) C fl_RX5_248 kM_0 rfl dX5_isRead_6 ?_
  refine q_ic_ge (pc := 9) C 65 dX5_isRead_9 (by decide) (fun c1 => ?_) (fun c1 => ?_)
  · have h := q_t c1 h
    refine q_iload_n (pc := 65) C 2 rfl dX5_isRead_65 rfl ?_
    obtain ⟨g2, h⟩ := q_guard h
    obtain rfl := Option.some.inj h
    exact q_zret (pc := 66) C g2 dX5_isRead_66
  · have h := q_f c1 h
    refine q_iload_n (pc := 12) C 2 rfl dX5_isRead_12 rfl ?_
    refine q_if_eq (pc := 13) C 65 dX5_isRead_13 (by decide) (fun c3 => ?_) (fun c3 => ?_)
    · have h := q_t c3 h
      refine q_iload_n (pc := 65) C 2 rfl dX5_isRead_65 rfl ?_
      obtain ⟨g4, h⟩ := q_guard h
      obtain rfl := Option.some.inj h
      exact q_zret (pc := 66) C g4 dX5_isRead_66
    · have h := q_f c3 h
      refine q_aload_n (pc := 16) C 0 rfl dX5_isRead_16 rfl ?_
      refine q_aload_n (pc := 17) C 0 rfl dX5_isRead_17 rfl ?_
      refine q_getR (pc := 18) (t := 15) C fl_RX5_52 kM_0 rfl rM_0_25 dX5_isRead_18 ?_
      refine q_iconst (pc := 21) C dX5_isRead_21 ci_2 ?_
      refine q_iload_n (pc := 22) C 3 rfl dX5_isRead_22 rfl ?_
      refine q_imul (pc := 23) C dX5_isRead_23 ?_
      obtain ⟨g5, h⟩ := q_guard h
      refine q_iald (pc := 24) C kM_15 lM_15 g5 dX5_isRead_24 ?_
      obtain ⟨q6, hq6, h⟩ := q_bind h
      refine q_callV0 (pc := 25) (st := []) C (zX5_turnsCup hq6) yi_X5_turnsCup ml_RX5_187 kM_0 rfl (by decide) rfl (Nat.le_of_ble_eq_true rfl) dX5_isRead_25 ?_
      refine q_aload_n (pc := 28) C 0 rfl dX5_isRead_28 rfl ?_
      refine q_aload_n (pc := 29) C 0 rfl dX5_isRead_29 rfl ?_
      refine q_getI (pc := 30) C fl_RX5_161 kM_0 rfl dX5_isRead_30 ?_
      refine q_iload_n (pc := 33) C 1 rfl dX5_isRead_33 rfl ?_
      refine q_iconst (pc := 34) C dX5_isRead_34 ci_m1 ?_
      refine q_ixor (pc := 35) C dX5_isRead_35 ?_
      refine q_iand (pc := 36) C dX5_isRead_36 ?_
      obtain ⟨q7, hq7, h⟩ := q_bind h
      refine q_callV1 (pc := 37) (st := []) C (zX5_readBy hq7) yi_X5_readBy ml_RX5_190 kM_0 rfl (by decide) rfl (Nat.le_of_ble_eq_true rfl) dX5_isRead_37 ?_
      refine q_aload_n (pc := 40) C 0 rfl dX5_isRead_40 rfl ?_
      refine q_getR (pc := 41) (t := 15) C fl_RX5_52 kM_0 rfl rM_0_25 dX5_isRead_41 ?_
      refine q_iconst (pc := 44) C dX5_isRead_44 ci_2 ?_
      refine q_iload_n (pc := 45) C 3 rfl dX5_isRead_45 rfl ?_
      refine q_imul (pc := 46) C dX5_isRead_46 ?_
      refine q_iconst (pc := 47) C dX5_isRead_47 ci_1 ?_
      refine q_iadd (pc := 48) C dX5_isRead_48 ?_
      obtain ⟨g8, h⟩ := q_guard h
      refine q_iald (pc := 49) C kM_15 lM_15 g8 dX5_isRead_49 ?_
      refine q_ic_ne (pc := 50) C 57 dX5_isRead_50 (by decide) (fun c9 => ?_) (fun c9 => ?_)
      · have h := q_f c9 h
        refine q_iconst (pc := 57) C dX5_isRead_57 ci_0 ?_
        refine q_sub [0, 1, 3] rfl ?_
        exact tX5_isRead_58 C k4 hk4 _ _ _ _ _ h
      · have h := q_t c9 h
        refine q_iconst (pc := 53) C dX5_isRead_53 ci_1 ?_
        refine q_goto (pc := 54) C 58 dX5_isRead_54 (by decide) ?_
        refine q_sub [0, 1, 3] rfl ?_
        exact tX5_isRead_58 C k4 hk4 _ _ _ _ _ h
theorem tX5_isRead_4 {X : qX} {G : qG} (C : qC sM X G RX5 cX5_isRead 4 5 (some .boolean))  (σ : qM) (x1 : Int32) (x2 : Int32) (x3 : Int32) (res : (Int32 × qM))  (h : fX5_isRead_4  σ x1 x2 x3 = some res) : qY sM X G 4 (q_Q sM X G (some (.int res.1)) res.2) σ 4 [(0, .ref (q_ad G 0)), (1, .int x1), (2, .int x2), (3, .int x3)] [] := by
  have key : ∀ (n : Nat) (σ : qM) (x1 : Int32) (x2 : Int32) (x3 : Int32) (res : (Int32 × qM)) , qlp (fun _ _ _ _ => none) (bX5_isRead_4 ) n σ x1 x2 x3 = some res → qY sM X G 4 (q_Q sM X G (some (.int res.1)) res.2) σ 4 [(0, .ref (q_ad G 0)), (1, .int x1), (2, .int x2), (3, .int x3)] [] := by
    intro n
    induction n with
    | zero => intro σ x1 x2 x3 res h; cases h
    | succ n ih => intro σ x1 x2 x3 res h; exact uX5_isRead_4 C  (qlp (fun _ _ _ _ => none) (bX5_isRead_4 ) n) (fun σ x1 x2 x3 res h => ih σ x1 x2 x3 res h) σ x1 x2 x3 res h
  exact key qFU σ x1 x2 x3 res h
theorem zX5_isRead {G : qG} {l : Launch} {σ : qM} {x1 : Int32} {res : (Int32 × qM)}  (h : fX5_isRead σ x1 = some res) : qCon sM G l yX5_isRead cX5_isRead 4 (some .boolean) 5 [.ref (q_ad G 0), .int x1] σ (some (.int res.1)) res.2 := by
  refine qCon.mkF (lv := [(0, .ref (q_ad G 0)), (1, .int x1)]) (plainFor_of_name (by decide)) (Nat.le_of_ble_eq_true rfl) rfl (fun X hX C => ?_)
  unfold fX5_isRead at h
  refine q_iconst (pc := 0) C dX5_isRead_0 ci_1 ?_
  refine q_istore_n (pc := 1) C dX5_isRead_1 rfl (by decide) rfl ?_
  refine q_iconst (pc := 2) C dX5_isRead_2 ci_0 ?_
  refine q_istore_n (pc := 3) C dX5_isRead_3 rfl (by decide) rfl ?_
  refine q_sub [2, 3, 1, 0] rfl ?_
  exact tX5_isRead_4 C _ _ _ _ _ h
/-! X5_fitsOf -/
theorem tX5_fitsOf_82 {X : qX} {G : qG} (C : qC sM X G RX5 cX5_fitsOf 4 6 (some .int)) (k4 : qM → Int32 → Int32 → Int32 → Option (Int32 × qM)) (hk4 : ∀ (σ : qM) (x1 : Int32) (x2 : Int32) (x3 : Int32) (res : (Int32 × qM)), k4 σ x1 x2 x3 = some res → qY sM X G 4 (q_Q sM X G (some (.int res.1)) res.2) σ 4 [(0, .ref (q_ad G 0)), (1, .int x1), (2, .int x2), (3, .int x3)] []) (σ : qM) (x1 : Int32) (x2 : Int32) (x3 : Int32) (res : (Int32 × qM))  (h : fX5_fitsOf_82 k4 σ x1 x2 x3 = some res) : qY sM X G 4 (q_Q sM X G (some (.int res.1)) res.2) σ 82 [(0, .ref (q_ad G 0)), (1, .int x1), (2, .int x2), (3, .int x3)] [] := by
  unfold fX5_fitsOf_82 at h
  refine q_inc (pc := 82) C 3 rfl ci_1 dX5_fitsOf_82 (by decide) rfl ?_
  refine q_goto (pc := 85) C 4 dX5_fitsOf_85 (by decide) ?_
  refine q_sub [1, 2, 3, 0] rfl ?_
  exact hk4 _ _ _ _ _ h
theorem tX5_fitsOf_80 {X : qX} {G : qG} (C : qC sM X G RX5 cX5_fitsOf 4 6 (some .int)) (k4 : qM → Int32 → Int32 → Int32 → Option (Int32 × qM)) (hk4 : ∀ (σ : qM) (x1 : Int32) (x2 : Int32) (x3 : Int32) (res : (Int32 × qM)), k4 σ x1 x2 x3 = some res → qY sM X G 4 (q_Q sM X G (some (.int res.1)) res.2) σ 4 [(0, .ref (q_ad G 0)), (1, .int x1), (2, .int x2), (3, .int x3)] []) (σ : qM) (x1 : Int32) (x3 : Int32) (t0 : Int32) (t1 : Int32) (res : (Int32 × qM))  (h : fX5_fitsOf_80 k4 σ x1 x3 t0 t1 = some res) : qY sM X G 4 (q_Q sM X G (some (.int res.1)) res.2) σ 80 [(0, .ref (q_ad G 0)), (1, .int x1), (3, .int x3)] [.int t0, .int t1] := by
  unfold fX5_fitsOf_80 at h
  refine q_ior (pc := 80) C dX5_fitsOf_80 ?_
  refine q_istore_n (pc := 81) C dX5_fitsOf_81 rfl (by decide) rfl ?_
  refine q_sub [1, 2, 0, 3] rfl ?_
  exact tX5_fitsOf_82 C k4 hk4 _ _ _ _ _ h
theorem tX5_fitsOf_67 {X : qX} {G : qG} (C : qC sM X G RX5 cX5_fitsOf 4 6 (some .int)) (k4 : qM → Int32 → Int32 → Int32 → Option (Int32 × qM)) (hk4 : ∀ (σ : qM) (x1 : Int32) (x2 : Int32) (x3 : Int32) (res : (Int32 × qM)), k4 σ x1 x2 x3 = some res → qY sM X G 4 (q_Q sM X G (some (.int res.1)) res.2) σ 4 [(0, .ref (q_ad G 0)), (1, .int x1), (2, .int x2), (3, .int x3)] []) (σ : qM) (x1 : Int32) (x3 : Int32) (t0 : Int32) (t2 : Int32) (res : (Int32 × qM))  (h : fX5_fitsOf_67 k4 σ x1 x3 t0 t2 = some res) : qY sM X G 4 (q_Q sM X G (some (.int res.1)) res.2) σ 67 [(0, .ref (q_ad G 0)), (1, .int x1), (3, .int x3)] [.int t0, .ref (q_ad G 0), .int t2] := by
  unfold fX5_fitsOf_67 at h
  obtain ⟨q1, hq1, h⟩ := q_bind h
  refine q_callV1 (pc := 67) (st := [.int t2]) C (zX5_isRead hq1) yi_X5_isRead ml_RX5_254 kM_0 rfl (by decide) rfl (Nat.le_of_ble_eq_true rfl) dX5_fitsOf_67 ?_
  refine q_if_eq (pc := 70) C 79 dX5_fitsOf_70 (by decide) (fun c2 => ?_) (fun c2 => ?_)
  · have h := q_t c2 h
    refine q_iconst (pc := 79) C dX5_fitsOf_79 ci_0 ?_
    exact tX5_fitsOf_80 C k4 hk4 _ _ _ _ _ _ h
  · have h := q_f c2 h
    refine q_iconst (pc := 73) C dX5_fitsOf_73 ci_1 ?_
    refine q_iload_n (pc := 74) C 2 rfl dX5_fitsOf_74 rfl ?_
    refine q_shl (pc := 75) C dX5_fitsOf_75 ?_
    refine q_goto (pc := 76) C 80 dX5_fitsOf_76 (by decide) ?_
    exact tX5_fitsOf_80 C k4 hk4 _ _ _ _ _ _ h
theorem tX5_fitsOf_50 {X : qX} {G : qG} (C : qC sM X G RX5 cX5_fitsOf 4 6 (some .int)) (k4 : qM → Int32 → Int32 → Int32 → Option (Int32 × qM)) (hk4 : ∀ (σ : qM) (x1 : Int32) (x2 : Int32) (x3 : Int32) (res : (Int32 × qM)), k4 σ x1 x2 x3 = some res → qY sM X G 4 (q_Q sM X G (some (.int res.1)) res.2) σ 4 [(0, .ref (q_ad G 0)), (1, .int x1), (2, .int x2), (3, .int x3)] []) (σ : qM) (x1 : Int32) (x2 : Int32) (x3 : Int32) (t0 : Int32) (res : (Int32 × qM))  (h : fX5_fitsOf_50 k4 σ x1 x2 x3 t0 = some res) : qY sM X G 4 (q_Q sM X G (some (.int res.1)) res.2) σ 50 [(0, .ref (q_ad G 0)), (1, .int x1), (2, .int x2), (3, .int x3)] [.int t0, .ref (q_ad G 0)] := by
  unfold fX5_fitsOf_50 at h
  refine q_putI (pc := 50) C fl_RX5_55 kM_0 rfl rfl rfl dX5_fitsOf_50 ?_
  refine q_iload_n (pc := 53) C 2 rfl dX5_fitsOf_53 rfl ?_
  refine q_aload_n (pc := 54) C 0 rfl dX5_fitsOf_54 rfl ?_
  refine q_iload_n (pc := 55) C 1 rfl dX5_fitsOf_55 rfl ?_
  refine q_iconst (pc := 56) C dX5_fitsOf_56 ci_1 ?_
  refine q_ic_ne (pc := 57) C 66 dX5_fitsOf_57 (by decide) (fun c1 => ?_) (fun c1 => ?_)
  · have h := q_f c1 h
    refine q_iconst (pc := 66) C dX5_fitsOf_66 ci_0 ?_
    refine q_sub [0, 1, 3] rfl ?_
    exact tX5_fitsOf_67 C k4 hk4 _ _ _ _ _ _ h
  · have h := q_t c1 h
    refine q_iconst (pc := 60) C dX5_fitsOf_60 ci_1 ?_
    refine q_iload_n (pc := 61) C 3 rfl dX5_fitsOf_61 rfl ?_
    refine q_shl (pc := 62) C dX5_fitsOf_62 ?_
    refine q_goto (pc := 63) C 67 dX5_fitsOf_63 (by decide) ?_
    refine q_sub [0, 1, 3] rfl ?_
    exact tX5_fitsOf_67 C k4 hk4 _ _ _ _ _ _ h
theorem tX5_fitsOf_36 {X : qX} {G : qG} (C : qC sM X G RX5 cX5_fitsOf 4 6 (some .int)) (k4 : qM → Int32 → Int32 → Int32 → Option (Int32 × qM)) (hk4 : ∀ (σ : qM) (x1 : Int32) (x2 : Int32) (x3 : Int32) (res : (Int32 × qM)), k4 σ x1 x2 x3 = some res → qY sM X G 4 (q_Q sM X G (some (.int res.1)) res.2) σ 4 [(0, .ref (q_ad G 0)), (1, .int x1), (2, .int x2), (3, .int x3)] []) (σ : qM) (x1 : Int32) (x2 : Int32) (x3 : Int32) (t0 : Int32) (res : (Int32 × qM))  (h : fX5_fitsOf_36 k4 σ x1 x2 x3 t0 = some res) : qY sM X G 4 (q_Q sM X G (some (.int res.1)) res.2) σ 36 [(0, .ref (q_ad G 0)), (1, .int x1), (2, .int x2), (3, .int x3)] [.int t0, .ref (q_ad G 0)] := by
  unfold fX5_fitsOf_36 at h
  refine q_putI (pc := 36) C fl_RX5_181 kM_0 rfl rfl rfl dX5_fitsOf_36 ?_
  refine q_aload_n (pc := 39) C 0 rfl dX5_fitsOf_39 rfl ?_
  refine q_iload_n (pc := 40) C 1 rfl dX5_fitsOf_40 rfl ?_
  refine q_iconst (pc := 41) C dX5_fitsOf_41 ci_2 ?_
  refine q_ic_ne (pc := 42) C 49 dX5_fitsOf_42 (by decide) (fun c1 => ?_) (fun c1 => ?_)
  · have h := q_f c1 h
    refine q_iconst (pc := 49) C dX5_fitsOf_49 ci_m1 ?_
    exact tX5_fitsOf_50 C k4 hk4 _ _ _ _ _ _ h
  · have h := q_t c1 h
    refine q_iload_n (pc := 45) C 3 rfl dX5_fitsOf_45 rfl ?_
    refine q_goto (pc := 46) C 50 dX5_fitsOf_46 (by decide) ?_
    exact tX5_fitsOf_50 C k4 hk4 _ _ _ _ _ _ h
theorem tX5_fitsOf_93 {X : qX} {G : qG} (C : qC sM X G RX5 cX5_fitsOf 4 6 (some .int))  (σ : qM) (x2 : Int32) (res : (Int32 × qM))  (h : fX5_fitsOf_93  σ x2 = some res) : qY sM X G 4 (q_Q sM X G (some (.int res.1)) res.2) σ 93 [(0, .ref (q_ad G 0)), (2, .int x2)] [] := by
  unfold fX5_fitsOf_93 at h
  refine q_aload_n (pc := 93) C 0 rfl dX5_fitsOf_93 rfl ?_
  refine q_iconst (pc := 94) C dX5_fitsOf_94 ci_m1 ?_
  refine q_putI (pc := 95) C fl_RX5_55 kM_0 rfl rfl rfl dX5_fitsOf_95 ?_
  refine q_iload_n (pc := 98) C 1 rfl dX5_fitsOf_98 rfl ?_
  obtain rfl := Option.some.inj h
  exact q_iret (pc := 99) C dX5_fitsOf_99
theorem tX5_fitsOf_21 {X : qX} {G : qG} (C : qC sM X G RX5 cX5_fitsOf 4 6 (some .int)) (k4 : qM → Int32 → Int32 → Int32 → Option (Int32 × qM)) (hk4 : ∀ (σ : qM) (x1 : Int32) (x2 : Int32) (x3 : Int32) (res : (Int32 × qM)), k4 σ x1 x2 x3 = some res → qY sM X G 4 (q_Q sM X G (some (.int res.1)) res.2) σ 4 [(0, .ref (q_ad G 0)), (1, .int x1), (2, .int x2), (3, .int x3)] []) (σ : qM) (x1 : Int32) (x2 : Int32) (x3 : Int32) (t0 : Int32) (t1 : Int32) (res : (Int32 × qM))  (h : fX5_fitsOf_21 k4 σ x1 x2 x3 t0 t1 = some res) : qY sM X G 4 (q_Q sM X G (some (.int res.1)) res.2) σ 21 [(0, .ref (q_ad G 0)), (1, .int x1), (2, .int x2), (3, .int x3)] [.int t0, .int t1] := by
  unfold fX5_fitsOf_21 at h
  refine q_ic_ge (pc := 21) C 88 dX5_fitsOf_21 (by decide) (fun c1 => ?_) (fun c1 => ?_)
  · have h := q_t c1 h
    refine q_aload_n (pc := 88) C 0 rfl dX5_fitsOf_88 rfl ?_
    refine q_iconst (pc := 89) C dX5_fitsOf_89 ci_0 ?_
    refine q_putI (pc := 90) C fl_RX5_181 kM_0 rfl rfl rfl dX5_fitsOf_90 ?_
    refine q_sub [0, 2] rfl ?_
    exact tX5_fitsOf_93 C _ _ _ h
  · have h := q_f c1 h
    refine q_aload_n (pc := 24) C 0 rfl dX5_fitsOf_24 rfl ?_
    refine q_iload_n (pc := 25) C 1 rfl dX5_fitsOf_25 rfl ?_
    refine q_if_ne (pc := 26) C 35 dX5_fitsOf_26 (by decide) (fun c2 => ?_) (fun c2 => ?_)
    · have h := q_f c2 h
      refine q_iconst (pc := 35) C dX5_fitsOf_35 ci_0 ?_
      exact tX5_fitsOf_36 C k4 hk4 _ _ _ _ _ _ h
    · have h := q_t c2 h
      refine q_iconst (pc := 29) C dX5_fitsOf_29 ci_1 ?_
      refine q_iload_n (pc := 30) C 3 rfl dX5_fitsOf_30 rfl ?_
      refine q_shl (pc := 31) C dX5_fitsOf_31 ?_
      refine q_goto (pc := 32) C 36 dX5_fitsOf_32 (by decide) ?_
      exact tX5_fitsOf_36 C k4 hk4 _ _ _ _ _ _ h
theorem uX5_fitsOf_4 {X : qX} {G : qG} (C : qC sM X G RX5 cX5_fitsOf 4 6 (some .int)) (k4 : qM → Int32 → Int32 → Int32 → Option (Int32 × qM)) (hk4 : ∀ (σ : qM) (x1 : Int32) (x2 : Int32) (x3 : Int32) (res : (Int32 × qM)), k4 σ x1 x2 x3 = some res → qY sM X G 4 (q_Q sM X G (some (.int res.1)) res.2) σ 4 [(0, .ref (q_ad G 0)), (1, .int x1), (2, .int x2), (3, .int x3)] []) (σ : qM) (x1 : Int32) (x2 : Int32) (x3 : Int32) (res : (Int32 × qM))  (h : bX5_fitsOf_4 k4 σ x1 x2 x3 = some res) : qY sM X G 4 (q_Q sM X G (some (.int res.1)) res.2) σ 4 [(0, .ref (q_ad G 0)), (1, .int x1), (2, .int x2), (3, .int x3)] [] := by
  unfold bX5_fitsOf_4 at h
  refine q_iload_n (pc := 4) C 3 rfl dX5_fitsOf_4 rfl ?_
  refine q_iload_n (pc := 5) C 1 rfl dX5_fitsOf_5 rfl ?_
  refine q_iconst (pc := 6) C dX5_fitsOf_6 ci_1 ?_
  refine q_ic_ne (pc := 7) C 17 dX5_fitsOf_7 (by decide) (fun c1 => ?_) (fun c1 => ?_)
  · have h := q_f c1 h
    refine q_aload_n (pc := 17) C 0 rfl dX5_fitsOf_17 rfl ?_
    refine q_getI (pc := 18) C fl_RX5_106 kM_0 rfl dX5_fitsOf_18 ?_
    exact tX5_fitsOf_21 C k4 hk4 _ _ _ _ _ _ _ h
  · have h := q_t c1 h
    refine q_aload_n (pc := 10) C 0 rfl dX5_fitsOf_10 rfl ?_
    refine q_getI (pc := 11) C fl_RX5_103 kM_0 rfl dX5_fitsOf_11 ?_
    refine q_goto (pc := 14) C 21 dX5_fitsOf_14 (by decide) ?_
    exact tX5_fitsOf_21 C k4 hk4 _ _ _ _ _ _ _ h
theorem tX5_fitsOf_4 {X : qX} {G : qG} (C : qC sM X G RX5 cX5_fitsOf 4 6 (some .int))  (σ : qM) (x1 : Int32) (x2 : Int32) (x3 : Int32) (res : (Int32 × qM))  (h : fX5_fitsOf_4  σ x1 x2 x3 = some res) : qY sM X G 4 (q_Q sM X G (some (.int res.1)) res.2) σ 4 [(0, .ref (q_ad G 0)), (1, .int x1), (2, .int x2), (3, .int x3)] [] := by
  have key : ∀ (n : Nat) (σ : qM) (x1 : Int32) (x2 : Int32) (x3 : Int32) (res : (Int32 × qM)) , qlp (fun _ _ _ _ => none) (bX5_fitsOf_4 ) n σ x1 x2 x3 = some res → qY sM X G 4 (q_Q sM X G (some (.int res.1)) res.2) σ 4 [(0, .ref (q_ad G 0)), (1, .int x1), (2, .int x2), (3, .int x3)] [] := by
    intro n
    induction n with
    | zero => intro σ x1 x2 x3 res h; cases h
    | succ n ih => intro σ x1 x2 x3 res h; exact uX5_fitsOf_4 C  (qlp (fun _ _ _ _ => none) (bX5_fitsOf_4 ) n) (fun σ x1 x2 x3 res h => ih σ x1 x2 x3 res h) σ x1 x2 x3 res h
  exact key qFU σ x1 x2 x3 res h
theorem zX5_fitsOf {G : qG} {l : Launch} {σ : qM} {x1 : Int32} {res : (Int32 × qM)}  (h : fX5_fitsOf σ x1 = some res) : qCon sM G l yX5_fitsOf cX5_fitsOf 4 (some .int) 6 [.ref (q_ad G 0), .int x1] σ (some (.int res.1)) res.2 := by
  refine qCon.mkF (lv := [(0, .ref (q_ad G 0)), (1, .int x1)]) (plainFor_of_name (by decide)) (Nat.le_of_ble_eq_true rfl) rfl (fun X hX C => ?_)
  unfold fX5_fitsOf at h
  refine q_iconst (pc := 0) C dX5_fitsOf_0 ci_0 ?_
  refine q_istore_n (pc := 1) C dX5_fitsOf_1 rfl (by decide) rfl ?_
  refine q_iconst (pc := 2) C dX5_fitsOf_2 ci_0 ?_
  refine q_istore_n (pc := 3) C dX5_fitsOf_3 rfl (by decide) rfl ?_
  refine q_sub [2, 3, 1, 0] rfl ?_
  exact tX5_fitsOf_4 C _ _ _ _ _ h
/-! X5_fits -/
theorem zX5_fits {G : qG} {l : Launch} {σ : qM} {x1 : Int32} {res : (Int32 × qM)}  (h : fX5_fits σ x1 = some res) : qCon sM G l yX5_fits cX5_fits 2 (some .int) 7 [.ref (q_ad G 0), .int x1] σ (some (.int res.1)) res.2 := by
  refine qCon.mkF (lv := [(0, .ref (q_ad G 0)), (1, .int x1)]) (plainFor_of_name (by decide)) (Nat.le_of_ble_eq_true rfl) rfl (fun X hX C => ?_)
  unfold fX5_fits at h
  refine q_aload_n (pc := 0) C 0 rfl dX5_fits_0 rfl ?_
  obtain ⟨q1, hq1, h⟩ := q_bind h
  refine q_callV0 (pc := 1) (st := []) C (zX5_reads hq1) yi_X5_reads ml_RX5_129 kM_0 rfl (by decide) rfl (Nat.le_of_ble_eq_true rfl) dX5_fits_1 ?_
  refine q_iload_n (pc := 4) C 1 rfl dX5_fits_4 rfl ?_
  refine q_i2l (pc := 5) C dX5_fits_5 ?_
  refine q_lconst (pc := 6) (v := (0 : Int64)) C dX5_fits_6 rfl ?_
  refine q_ldc2 (pc := 7) C kn_RX5_74 dX5_fits_7 ?_
  obtain ⟨q2, hq2, h⟩ := q_bind h
  refine q_callS1 (pc := 10) (st := []) C (zX5_in hq2) ys_X5_in ml_RX5_61 rfl (by decide) rfl (Nat.le_of_ble_eq_true rfl) dX5_fits_10 ?_
  refine q_if_eq (pc := 13) C 24 dX5_fits_13 (by decide) (fun c3 => ?_) (fun c3 => ?_)
  · have h := q_t c3 h
    refine q_bipush (pc := 24) C dX5_fits_24 cb_m2 ?_
    obtain rfl := Option.some.inj h
    exact q_iret (pc := 26) C dX5_fits_26
  · have h := q_f c3 h
    refine q_aload_n (pc := 16) C 0 rfl dX5_fits_16 rfl ?_
    refine q_iload_n (pc := 17) C 1 rfl dX5_fits_17 rfl ?_
    obtain ⟨q4, hq4, h⟩ := q_bind h
    refine q_callV1 (pc := 18) (st := []) C (zX5_fitsOf hq4) yi_X5_fitsOf ml_RX5_257 kM_0 rfl (by decide) rfl (Nat.le_of_ble_eq_true rfl) dX5_fits_18 ?_
    refine q_goto (pc := 21) C 26 dX5_fits_21 (by decide) ?_
    obtain rfl := Option.some.inj h
    exact q_iret (pc := 26) C dX5_fits_26
/-! X5_sinksOf -/
theorem tX5_sinksOf_124 {X : qX} {G : qG} (C : qC sM X G RX5 cX5_sinksOf 13 5 (some .long)) (k40 : qM → Int32 → Int32 → Int32 → Int64 → Int64 → Int32 → Option (Int64 × qM)) (hk40 : ∀ (σ : qM) (x1 : Int32) (x3 : Int32) (x4 : Int32) (x5 : Int64) (x7 : Int64) (x9 : Int32) (res : (Int64 × qM)), k40 σ x1 x3 x4 x5 x7 x9 = some res → qY sM X G 13 (q_Q sM X G (some (.long res.1)) res.2) σ 40 [(0, .ref (q_ad G 0)), (1, .int x1), (3, .int x3), (4, .int x4), (5, .long x5), (7, .long x7), (9, .int x9)] []) (σ : qM) (x1 : Int32) (x3 : Int32) (x4 : Int32) (x5 : Int64) (x7 : Int64) (x9 : Int32) (res : (Int64 × qM))  (h : fX5_sinksOf_124 k40 σ x1 x3 x4 x5 x7 x9 = some res) : qY sM X G 13 (q_Q sM X G (some (.long res.1)) res.2) σ 124 [(0, .ref (q_ad G 0)), (1, .int x1), (3, .int x3), (4, .int x4), (5, .long x5), (7, .long x7), (9, .int x9)] [] := by
  unfold fX5_sinksOf_124 at h
  refine q_inc (pc := 124) C 6 rfl ci_1 dX5_sinksOf_124 (by decide) rfl ?_
  refine q_goto (pc := 127) C 40 dX5_sinksOf_127 (by decide) ?_
  refine q_sub [1, 2, 3, 4, 5, 6, 0] rfl ?_
  exact hk40 _ _ _ _ _ _ _ _ h
theorem tX5_sinksOf_111 {X : qX} {G : qG} (C : qC sM X G RX5 cX5_sinksOf 13 5 (some .long)) (k40 : qM → Int32 → Int32 → Int32 → Int64 → Int64 → Int32 → Option (Int64 × qM)) (hk40 : ∀ (σ : qM) (x1 : Int32) (x3 : Int32) (x4 : Int32) (x5 : Int64) (x7 : Int64) (x9 : Int32) (res : (Int64 × qM)), k40 σ x1 x3 x4 x5 x7 x9 = some res → qY sM X G 13 (q_Q sM X G (some (.long res.1)) res.2) σ 40 [(0, .ref (q_ad G 0)), (1, .int x1), (3, .int x3), (4, .int x4), (5, .long x5), (7, .long x7), (9, .int x9)] []) (k77 : qM → Int32 → Int32 → Int32 → Int64 → Int64 → Int32 → Int64 → Int32 → Option (Int64 × qM)) (hk77 : ∀ (σ : qM) (x1 : Int32) (x3 : Int32) (x4 : Int32) (x5 : Int64) (x7 : Int64) (x9 : Int32) (x10 : Int64) (x12 : Int32) (res : (Int64 × qM)), k77 σ x1 x3 x4 x5 x7 x9 x10 x12 = some res → qY sM X G 13 (q_Q sM X G (some (.long res.1)) res.2) σ 77 [(0, .ref (q_ad G 0)), (1, .int x1), (3, .int x3), (4, .int x4), (5, .long x5), (7, .long x7), (9, .int x9), (10, .long x10), (12, .int x12)] []) (σ : qM) (x1 : Int32) (x3 : Int32) (x4 : Int32) (x5 : Int64) (x7 : Int64) (x9 : Int32) (x10 : Int64) (x12 : Int32) (res : (Int64 × qM))  (h : fX5_sinksOf_111 k40 k77 σ x1 x3 x4 x5 x7 x9 x10 x12 = some res) : qY sM X G 13 (q_Q sM X G (some (.long res.1)) res.2) σ 111 [(0, .ref (q_ad G 0)), (1, .int x1), (3, .int x3), (4, .int x4), (5, .long x5), (7, .long x7), (9, .int x9), (10, .long x10), (12, .int x12)] [] := by
  unfold fX5_sinksOf_111 at h
  refine q_inc (pc := 111) C 8 rfl ci_1 dX5_sinksOf_111 (by decide) rfl ?_
  refine q_goto (pc := 114) C 77 dX5_sinksOf_114 (by decide) ?_
  refine q_sub [1, 2, 3, 4, 5, 6, 7, 8, 0] rfl ?_
  exact hk77 _ _ _ _ _ _ _ _ _ _ h
theorem tX5_sinksOf_108 {X : qX} {G : qG} (C : qC sM X G RX5 cX5_sinksOf 13 5 (some .long)) (k40 : qM → Int32 → Int32 → Int32 → Int64 → Int64 → Int32 → Option (Int64 × qM)) (hk40 : ∀ (σ : qM) (x1 : Int32) (x3 : Int32) (x4 : Int32) (x5 : Int64) (x7 : Int64) (x9 : Int32) (res : (Int64 × qM)), k40 σ x1 x3 x4 x5 x7 x9 = some res → qY sM X G 13 (q_Q sM X G (some (.long res.1)) res.2) σ 40 [(0, .ref (q_ad G 0)), (1, .int x1), (3, .int x3), (4, .int x4), (5, .long x5), (7, .long x7), (9, .int x9)] []) (k77 : qM → Int32 → Int32 → Int32 → Int64 → Int64 → Int32 → Int64 → Int32 → Option (Int64 × qM)) (hk77 : ∀ (σ : qM) (x1 : Int32) (x3 : Int32) (x4 : Int32) (x5 : Int64) (x7 : Int64) (x9 : Int32) (x10 : Int64) (x12 : Int32) (res : (Int64 × qM)), k77 σ x1 x3 x4 x5 x7 x9 x10 x12 = some res → qY sM X G 13 (q_Q sM X G (some (.long res.1)) res.2) σ 77 [(0, .ref (q_ad G 0)), (1, .int x1), (3, .int x3), (4, .int x4), (5, .long x5), (7, .long x7), (9, .int x9), (10, .long x10), (12, .int x12)] []) (σ : qM) (x1 : Int32) (x3 : Int32) (x4 : Int32) (x5 : Int64) (x7 : Int64) (x9 : Int32) (x12 : Int32) (t0 : Int64) (t1 : Int64) (res : (Int64 × qM))  (h : fX5_sinksOf_108 k40 k77 σ x1 x3 x4 x5 x7 x9 x12 t0 t1 = some res) : qY sM X G 13 (q_Q sM X G (some (.long res.1)) res.2) σ 108 [(0, .ref (q_ad G 0)), (1, .int x1), (3, .int x3), (4, .int x4), (5, .long x5), (7, .long x7), (9, .int x9), (12, .int x12)] [.long t0, .long t1] := by
  unfold fX5_sinksOf_108 at h
  refine q_lmul (pc := 108) C dX5_sinksOf_108 ?_
  refine q_lstore (pc := 109) C dX5_sinksOf_109 (by decide) rfl ?_
  refine q_sub [1, 2, 3, 4, 5, 6, 7, 0, 8] rfl ?_
  exact tX5_sinksOf_111 C k40 hk40 k77 hk77 _ _ _ _ _ _ _ _ _ _ h
theorem uX5_sinksOf_77 {X : qX} {G : qG} (C : qC sM X G RX5 cX5_sinksOf 13 5 (some .long)) (k40 : qM → Int32 → Int32 → Int32 → Int64 → Int64 → Int32 → Option (Int64 × qM)) (hk40 : ∀ (σ : qM) (x1 : Int32) (x3 : Int32) (x4 : Int32) (x5 : Int64) (x7 : Int64) (x9 : Int32) (res : (Int64 × qM)), k40 σ x1 x3 x4 x5 x7 x9 = some res → qY sM X G 13 (q_Q sM X G (some (.long res.1)) res.2) σ 40 [(0, .ref (q_ad G 0)), (1, .int x1), (3, .int x3), (4, .int x4), (5, .long x5), (7, .long x7), (9, .int x9)] []) (k77 : qM → Int32 → Int32 → Int32 → Int64 → Int64 → Int32 → Int64 → Int32 → Option (Int64 × qM)) (hk77 : ∀ (σ : qM) (x1 : Int32) (x3 : Int32) (x4 : Int32) (x5 : Int64) (x7 : Int64) (x9 : Int32) (x10 : Int64) (x12 : Int32) (res : (Int64 × qM)), k77 σ x1 x3 x4 x5 x7 x9 x10 x12 = some res → qY sM X G 13 (q_Q sM X G (some (.long res.1)) res.2) σ 77 [(0, .ref (q_ad G 0)), (1, .int x1), (3, .int x3), (4, .int x4), (5, .long x5), (7, .long x7), (9, .int x9), (10, .long x10), (12, .int x12)] []) (σ : qM) (x1 : Int32) (x3 : Int32) (x4 : Int32) (x5 : Int64) (x7 : Int64) (x9 : Int32) (x10 : Int64) (x12 : Int32) (res : (Int64 × qM))  (h : bX5_sinksOf_77 k40 k77 σ x1 x3 x4 x5 x7 x9 x10 x12 = some res) : qY sM X G 13 (q_Q sM X G (some (.long res.1)) res.2) σ 77 [(0, .ref (q_ad G 0)), (1, .int x1), (3, .int x3), (4, .int x4), (5, .long x5), (7, .long x7), (9, .int x9), (10, .long x10), (12, .int x12)] [] := by
  unfold bX5_sinksOf_77 at h
  refine q_iload (pc := 77) C 8 rfl dX5_sinksOf_77 ?_
  refine q_aload_n (pc := 79) C 0 rfl dX5_sinksOf_79 rfl ?_
  refine q_getI (pc := 80) C fl_RX5_103 kM_0 rfl dX5_sinksOf_80 ?_
  refine q_ic_ge (pc := 83) C 117 dX5_sinksOf_83 (by decide) (fun c1 => ?_) (fun c1 => ?_)
  · have h := q_t c1 h
    refine q_lload (pc := 117) C 4 rfl dX5_sinksOf_117 ?_
    refine q_lload (pc := 119) C 7 rfl dX5_sinksOf_119 ?_
    refine q_ladd (pc := 121) C dX5_sinksOf_121 ?_
    refine q_lstore (pc := 122) C dX5_sinksOf_122 (by decide) rfl ?_
    refine q_sub [1, 2, 3, 4, 0, 5, 6] rfl ?_
    exact tX5_sinksOf_124 C k40 hk40 _ _ _ _ _ _ _ _ h
  · have h := q_f c1 h
    refine q_lload (pc := 86) C 7 rfl dX5_sinksOf_86 ?_
    refine q_iload (pc := 88) C 6 rfl dX5_sinksOf_88 ?_
    refine q_iload (pc := 90) C 8 rfl dX5_sinksOf_90 ?_
    obtain ⟨q2, hq2, h⟩ := q_bind h
    refine q_callS1 (pc := 92) (st := [.long x10]) C (zX5_isIn hq2) ys_X5_isIn ml_RX5_178 rfl (by decide) rfl (Nat.le_of_ble_eq_true rfl) dX5_sinksOf_92 ?_
    refine q_if_eq (pc := 95) C 103 dX5_sinksOf_95 (by decide) (fun c3 => ?_) (fun c3 => ?_)
    · have h := q_t c3 h
      refine q_bipush (pc := 103) C dX5_sinksOf_103 cb_16 ?_
      refine q_iload_n (pc := 105) C 1 rfl dX5_sinksOf_105 rfl ?_
      refine q_isub (pc := 106) C dX5_sinksOf_106 ?_
      refine q_i2l (pc := 107) C dX5_sinksOf_107 ?_
      refine q_sub [0, 1, 2, 3, 4, 5, 6, 8] rfl ?_
      exact tX5_sinksOf_108 C k40 hk40 k77 hk77 _ _ _ _ _ _ _ _ _ _ _ h
    · have h := q_f c3 h
      refine q_iload_n (pc := 98) C 1 rfl dX5_sinksOf_98 rfl ?_
      refine q_i2l (pc := 99) C dX5_sinksOf_99 ?_
      refine q_goto (pc := 100) C 108 dX5_sinksOf_100 (by decide) ?_
      refine q_sub [0, 1, 2, 3, 4, 5, 6, 8] rfl ?_
      exact tX5_sinksOf_108 C k40 hk40 k77 hk77 _ _ _ _ _ _ _ _ _ _ _ h
theorem tX5_sinksOf_77 {X : qX} {G : qG} (C : qC sM X G RX5 cX5_sinksOf 13 5 (some .long)) (k40 : qM → Int32 → Int32 → Int32 → Int64 → Int64 → Int32 → Option (Int64 × qM)) (hk40 : ∀ (σ : qM) (x1 : Int32) (x3 : Int32) (x4 : Int32) (x5 : Int64) (x7 : Int64) (x9 : Int32) (res : (Int64 × qM)), k40 σ x1 x3 x4 x5 x7 x9 = some res → qY sM X G 13 (q_Q sM X G (some (.long res.1)) res.2) σ 40 [(0, .ref (q_ad G 0)), (1, .int x1), (3, .int x3), (4, .int x4), (5, .long x5), (7, .long x7), (9, .int x9)] []) (σ : qM) (x1 : Int32) (x3 : Int32) (x4 : Int32) (x5 : Int64) (x7 : Int64) (x9 : Int32) (x10 : Int64) (x12 : Int32) (res : (Int64 × qM))  (h : fX5_sinksOf_77 k40 σ x1 x3 x4 x5 x7 x9 x10 x12 = some res) : qY sM X G 13 (q_Q sM X G (some (.long res.1)) res.2) σ 77 [(0, .ref (q_ad G 0)), (1, .int x1), (3, .int x3), (4, .int x4), (5, .long x5), (7, .long x7), (9, .int x9), (10, .long x10), (12, .int x12)] [] := by
  have key : ∀ (n : Nat) (σ : qM) (x1 : Int32) (x3 : Int32) (x4 : Int32) (x5 : Int64) (x7 : Int64) (x9 : Int32) (x10 : Int64) (x12 : Int32) (res : (Int64 × qM)) , qlp (fun _ _ _ _ _ _ _ _ _ => none) (bX5_sinksOf_77 k40) n σ x1 x3 x4 x5 x7 x9 x10 x12 = some res → qY sM X G 13 (q_Q sM X G (some (.long res.1)) res.2) σ 77 [(0, .ref (q_ad G 0)), (1, .int x1), (3, .int x3), (4, .int x4), (5, .long x5), (7, .long x7), (9, .int x9), (10, .long x10), (12, .int x12)] [] := by
    intro n
    induction n with
    | zero => intro σ x1 x3 x4 x5 x7 x9 x10 x12 res h; cases h
    | succ n ih => intro σ x1 x3 x4 x5 x7 x9 x10 x12 res h; exact uX5_sinksOf_77 C k40 hk40 (qlp (fun _ _ _ _ _ _ _ _ _ => none) (bX5_sinksOf_77 k40) n) (fun σ x1 x3 x4 x5 x7 x9 x10 x12 res h => ih σ x1 x3 x4 x5 x7 x9 x10 x12 res h) σ x1 x3 x4 x5 x7 x9 x10 x12 res h
  exact key qFU σ x1 x3 x4 x5 x7 x9 x10 x12 res h
theorem uX5_sinksOf_40 {X : qX} {G : qG} (C : qC sM X G RX5 cX5_sinksOf 13 5 (some .long)) (k40 : qM → Int32 → Int32 → Int32 → Int64 → Int64 → Int32 → Option (Int64 × qM)) (hk40 : ∀ (σ : qM) (x1 : Int32) (x3 : Int32) (x4 : Int32) (x5 : Int64) (x7 : Int64) (x9 : Int32) (res : (Int64 × qM)), k40 σ x1 x3 x4 x5 x7 x9 = some res → qY sM X G 13 (q_Q sM X G (some (.long res.1)) res.2) σ 40 [(0, .ref (q_ad G 0)), (1, .int x1), (3, .int x3), (4, .int x4), (5, .long x5), (7, .long x7), (9, .int x9)] []) (σ : qM) (x1 : Int32) (x3 : Int32) (x4 : Int32) (x5 : Int64) (x7 : Int64) (x9 : Int32) (res : (Int64 × qM))  (h : bX5_sinksOf_40 k40 σ x1 x3 x4 x5 x7 x9 = some res) : qY sM X G 13 (q_Q sM X G (some (.long res.1)) res.2) σ 40 [(0, .ref (q_ad G 0)), (1, .int x1), (3, .int x3), (4, .int x4), (5, .long x5), (7, .long x7), (9, .int x9)] [] := by
  unfold bX5_sinksOf_40 at h
  refine q_iload (pc := 40) C 6 rfl dX5_sinksOf_40 ?_
  refine q_iconst (pc := 42) C dX5_sinksOf_42 ci_1 ?_
  refine q_aload_n (pc := 43) C 0 rfl dX5_sinksOf_43 rfl ?_
  refine q_getI (pc := 44) C fl_RX5_103 kM_0 rfl dX5_sinksOf_44 ?_
  refine q_shl (pc := 47) C dX5_sinksOf_47 ?_
  refine q_ic_ge (pc := 48) C 130 dX5_sinksOf_48 (by decide) (fun c1 => ?_) (fun c1 => ?_)
  · have h := q_t c1 h
    refine q_lload (pc := 130) C 4 rfl dX5_sinksOf_130 ?_
    refine q_lload (pc := 132) C 5 rfl dX5_sinksOf_132 ?_
    refine q_iload (pc := 134) C 3 rfl dX5_sinksOf_134 ?_
    obtain ⟨q2, hq2, h⟩ := q_bind h
    refine q_callS1 (pc := 136) (st := []) C (zX5_part hq2) ys_X5_part ml_RX5_262 rfl (by decide) rfl (Nat.le_of_ble_eq_true rfl) dX5_sinksOf_136 ?_
    obtain rfl := Option.some.inj h
    exact q_lret (pc := 139) C dX5_sinksOf_139
  · have h := q_f c1 h
    refine q_aload_n (pc := 51) C 0 rfl dX5_sinksOf_51 rfl ?_
    refine q_aload_n (pc := 52) C 0 rfl dX5_sinksOf_52 rfl ?_
    refine q_getI (pc := 53) C fl_RX5_161 kM_0 rfl dX5_sinksOf_53 ?_
    refine q_iload (pc := 56) C 6 rfl dX5_sinksOf_56 ?_
    refine q_iconst (pc := 58) C dX5_sinksOf_58 ci_m1 ?_
    refine q_ixor (pc := 59) C dX5_sinksOf_59 ?_
    refine q_iand (pc := 60) C dX5_sinksOf_60 ?_
    obtain ⟨q3, hq3, h⟩ := q_bind h
    refine q_callV1 (pc := 61) (st := []) C (zX5_readBy hq3) yi_X5_readBy ml_RX5_190 kM_0 rfl (by decide) rfl (Nat.le_of_ble_eq_true rfl) dX5_sinksOf_61 ?_
    refine q_iload_n (pc := 64) C 2 rfl dX5_sinksOf_64 rfl ?_
    obtain ⟨q4, hq4, h⟩ := q_bind h
    refine q_callS1 (pc := 65) (st := []) C (zX5_isIn hq4) ys_X5_isIn ml_RX5_178 rfl (by decide) rfl (Nat.le_of_ble_eq_true rfl) dX5_sinksOf_65 ?_
    refine q_if_eq (pc := 68) C 124 dX5_sinksOf_68 (by decide) (fun c5 => ?_) (fun c5 => ?_)
    · have h := q_t c5 h
      exact tX5_sinksOf_124 C k40 hk40 _ _ _ _ _ _ _ _ h
    · have h := q_f c5 h
      refine q_lconst (pc := 71) (v := (1 : Int64)) C dX5_sinksOf_71 rfl ?_
      refine q_lstore (pc := 72) C dX5_sinksOf_72 (by decide) rfl ?_
      refine q_iconst (pc := 74) C dX5_sinksOf_74 ci_0 ?_
      refine q_istore (pc := 75) C dX5_sinksOf_75 (by decide) rfl ?_
      refine q_sub [2, 3, 4, 5, 6, 7, 8, 1, 0] rfl ?_
      exact tX5_sinksOf_77 C k40 hk40 _ _ _ _ _ _ _ _ _ _ h
theorem tX5_sinksOf_40 {X : qX} {G : qG} (C : qC sM X G RX5 cX5_sinksOf 13 5 (some .long))  (σ : qM) (x1 : Int32) (x3 : Int32) (x4 : Int32) (x5 : Int64) (x7 : Int64) (x9 : Int32) (res : (Int64 × qM))  (h : fX5_sinksOf_40  σ x1 x3 x4 x5 x7 x9 = some res) : qY sM X G 13 (q_Q sM X G (some (.long res.1)) res.2) σ 40 [(0, .ref (q_ad G 0)), (1, .int x1), (3, .int x3), (4, .int x4), (5, .long x5), (7, .long x7), (9, .int x9)] [] := by
  have key : ∀ (n : Nat) (σ : qM) (x1 : Int32) (x3 : Int32) (x4 : Int32) (x5 : Int64) (x7 : Int64) (x9 : Int32) (res : (Int64 × qM)) , qlp (fun _ _ _ _ _ _ _ => none) (bX5_sinksOf_40 ) n σ x1 x3 x4 x5 x7 x9 = some res → qY sM X G 13 (q_Q sM X G (some (.long res.1)) res.2) σ 40 [(0, .ref (q_ad G 0)), (1, .int x1), (3, .int x3), (4, .int x4), (5, .long x5), (7, .long x7), (9, .int x9)] [] := by
    intro n
    induction n with
    | zero => intro σ x1 x3 x4 x5 x7 x9 res h; cases h
    | succ n ih => intro σ x1 x3 x4 x5 x7 x9 res h; exact uX5_sinksOf_40 C  (qlp (fun _ _ _ _ _ _ _ => none) (bX5_sinksOf_40 ) n) (fun σ x1 x3 x4 x5 x7 x9 res h => ih σ x1 x3 x4 x5 x7 x9 res h) σ x1 x3 x4 x5 x7 x9 res h
  exact key qFU σ x1 x3 x4 x5 x7 x9 res h
theorem tX5_sinksOf_31 {X : qX} {G : qG} (C : qC sM X G RX5 cX5_sinksOf 13 5 (some .long)) (k14 : qM → Int32 → Int32 → Int32 → Int64 → Int64 → Int32 → Option (Int64 × qM)) (hk14 : ∀ (σ : qM) (x1 : Int32) (x3 : Int32) (x4 : Int32) (x5 : Int64) (x7 : Int64) (x9 : Int32) (res : (Int64 × qM)), k14 σ x1 x3 x4 x5 x7 x9 = some res → qY sM X G 13 (q_Q sM X G (some (.long res.1)) res.2) σ 14 [(0, .ref (q_ad G 0)), (1, .int x1), (3, .int x3), (4, .int x4), (5, .long x5), (7, .long x7), (9, .int x9)] []) (σ : qM) (x1 : Int32) (x3 : Int32) (x4 : Int32) (x5 : Int64) (x7 : Int64) (x9 : Int32) (res : (Int64 × qM))  (h : fX5_sinksOf_31 k14 σ x1 x3 x4 x5 x7 x9 = some res) : qY sM X G 13 (q_Q sM X G (some (.long res.1)) res.2) σ 31 [(0, .ref (q_ad G 0)), (1, .int x1), (3, .int x3), (4, .int x4), (5, .long x5), (7, .long x7), (9, .int x9)] [] := by
  unfold fX5_sinksOf_31 at h
  refine q_inc (pc := 31) C 6 rfl ci_1 dX5_sinksOf_31 (by decide) rfl ?_
  refine q_goto (pc := 34) C 14 dX5_sinksOf_34 (by decide) ?_
  refine q_sub [1, 2, 3, 4, 5, 6, 0] rfl ?_
  exact hk14 _ _ _ _ _ _ _ _ h
theorem uX5_sinksOf_14 {X : qX} {G : qG} (C : qC sM X G RX5 cX5_sinksOf 13 5 (some .long)) (k14 : qM → Int32 → Int32 → Int32 → Int64 → Int64 → Int32 → Option (Int64 × qM)) (hk14 : ∀ (σ : qM) (x1 : Int32) (x3 : Int32) (x4 : Int32) (x5 : Int64) (x7 : Int64) (x9 : Int32) (res : (Int64 × qM)), k14 σ x1 x3 x4 x5 x7 x9 = some res → qY sM X G 13 (q_Q sM X G (some (.long res.1)) res.2) σ 14 [(0, .ref (q_ad G 0)), (1, .int x1), (3, .int x3), (4, .int x4), (5, .long x5), (7, .long x7), (9, .int x9)] []) (σ : qM) (x1 : Int32) (x3 : Int32) (x4 : Int32) (x5 : Int64) (x7 : Int64) (x9 : Int32) (res : (Int64 × qM))  (h : bX5_sinksOf_14 k14 σ x1 x3 x4 x5 x7 x9 = some res) : qY sM X G 13 (q_Q sM X G (some (.long res.1)) res.2) σ 14 [(0, .ref (q_ad G 0)), (1, .int x1), (3, .int x3), (4, .int x4), (5, .long x5), (7, .long x7), (9, .int x9)] [] := by
  unfold bX5_sinksOf_14 at h
  refine q_iload (pc := 14) C 6 rfl dX5_sinksOf_14 ?_
  refine q_aload_n (pc := 16) C 0 rfl dX5_sinksOf_16 rfl ?_
  refine q_getI (pc := 17) C fl_RX5_103 kM_0 rfl dX5_sinksOf_17 ?_
  refine q_ic_ge (pc := 20) C 37 dX5_sinksOf_20 (by decide) (fun c1 => ?_) (fun c1 => ?_)
  · have h := q_t c1 h
    refine q_iconst (pc := 37) C dX5_sinksOf_37 ci_0 ?_
    refine q_istore (pc := 38) C dX5_sinksOf_38 (by decide) rfl ?_
    refine q_sub [1, 2, 3, 4, 5, 6, 0] rfl ?_
    exact tX5_sinksOf_40 C _ _ _ _ _ _ _ _ h
  · have h := q_f c1 h
    refine q_lload (pc := 23) C 5 rfl dX5_sinksOf_23 ?_
    refine q_ldc2 (pc := 25) C kn_RX5_260 dX5_sinksOf_25 ?_
    refine q_lmul (pc := 28) C dX5_sinksOf_28 ?_
    refine q_lstore (pc := 29) C dX5_sinksOf_29 (by decide) rfl ?_
    refine q_sub [1, 2, 3, 4, 5, 0, 6] rfl ?_
    exact tX5_sinksOf_31 C k14 hk14 _ _ _ _ _ _ _ _ h
theorem tX5_sinksOf_14 {X : qX} {G : qG} (C : qC sM X G RX5 cX5_sinksOf 13 5 (some .long))  (σ : qM) (x1 : Int32) (x3 : Int32) (x4 : Int32) (x5 : Int64) (x7 : Int64) (x9 : Int32) (res : (Int64 × qM))  (h : fX5_sinksOf_14  σ x1 x3 x4 x5 x7 x9 = some res) : qY sM X G 13 (q_Q sM X G (some (.long res.1)) res.2) σ 14 [(0, .ref (q_ad G 0)), (1, .int x1), (3, .int x3), (4, .int x4), (5, .long x5), (7, .long x7), (9, .int x9)] [] := by
  have key : ∀ (n : Nat) (σ : qM) (x1 : Int32) (x3 : Int32) (x4 : Int32) (x5 : Int64) (x7 : Int64) (x9 : Int32) (res : (Int64 × qM)) , qlp (fun _ _ _ _ _ _ _ => none) (bX5_sinksOf_14 ) n σ x1 x3 x4 x5 x7 x9 = some res → qY sM X G 13 (q_Q sM X G (some (.long res.1)) res.2) σ 14 [(0, .ref (q_ad G 0)), (1, .int x1), (3, .int x3), (4, .int x4), (5, .long x5), (7, .long x7), (9, .int x9)] [] := by
    intro n
    induction n with
    | zero => intro σ x1 x3 x4 x5 x7 x9 res h; cases h
    | succ n ih => intro σ x1 x3 x4 x5 x7 x9 res h; exact uX5_sinksOf_14 C  (qlp (fun _ _ _ _ _ _ _ => none) (bX5_sinksOf_14 ) n) (fun σ x1 x3 x4 x5 x7 x9 res h => ih σ x1 x3 x4 x5 x7 x9 res h) σ x1 x3 x4 x5 x7 x9 res h
  exact key qFU σ x1 x3 x4 x5 x7 x9 res h
theorem zX5_sinksOf {G : qG} {l : Launch} {σ : qM} {x1 : Int32} {x2 : Int32} {x3 : Int32} {x4 : Int32} {res : (Int64 × qM)}  (h : fX5_sinksOf σ x1 x2 x3 x4 = some res) : qCon sM G l yX5_sinksOf cX5_sinksOf 13 (some .long) 5 [.ref (q_ad G 0), .int x1, .int x2, .int x3, .int x4] σ (some (.long res.1)) res.2 := by
  refine qCon.mkF (lv := [(0, .ref (q_ad G 0)), (1, .int x1), (2, .int x2), (3, .int x3), (4, .int x4)]) (plainFor_of_name (by decide)) (Nat.le_of_ble_eq_true rfl) rfl (fun X hX C => ?_)
  unfold fX5_sinksOf at h
  refine q_aload_n (pc := 0) C 0 rfl dX5_sinksOf_0 rfl ?_
  refine q_iload_n (pc := 1) C 2 rfl dX5_sinksOf_1 rfl ?_
  obtain ⟨q1, hq1, h⟩ := q_bind h
  refine q_callV0 (pc := 2) (st := []) C (zX5_turnsCup hq1) yi_X5_turnsCup ml_RX5_187 kM_0 rfl (by decide) rfl (Nat.le_of_ble_eq_true rfl) dX5_sinksOf_2 ?_
  refine q_lconst (pc := 5) (v := (0 : Int64)) C dX5_sinksOf_5 rfl ?_
  refine q_lstore (pc := 6) C dX5_sinksOf_6 (by decide) rfl ?_
  refine q_lconst (pc := 8) (v := (1 : Int64)) C dX5_sinksOf_8 rfl ?_
  refine q_lstore (pc := 9) C dX5_sinksOf_9 (by decide) rfl ?_
  refine q_iconst (pc := 11) C dX5_sinksOf_11 ci_0 ?_
  refine q_istore (pc := 12) C dX5_sinksOf_12 (by decide) rfl ?_
  refine q_sub [3, 4, 6, 7, 2, 1, 0] rfl ?_
  exact tX5_sinksOf_14 C _ _ _ _ _ _ _ _ h
/-! X5_sinks -/
theorem tX5_sinks_50 {X : qX} {G : qG} (C : qC sM X G RX5 cX5_sinks 5 6 (some .long))  (σ : qM)  (res : (Int64 × qM))  (h : fX5_sinks_50  σ  = some res) : qY sM X G 5 (q_Q sM X G (some (.long res.1)) res.2) σ 50 [] [] := by
  unfold fX5_sinks_50 at h
  refine q_bipush (pc := 50) C dX5_sinks_50 cb_m2 ?_
  obtain ⟨q1, hq1, h⟩ := q_bind h
  refine q_callS1 (pc := 52) (st := []) C (zX5_no hq1) ys_X5_no ml_RX5_270 rfl (by decide) rfl (Nat.le_of_ble_eq_true rfl) dX5_sinks_52 ?_
  obtain rfl := Option.some.inj h
  exact q_lret (pc := 55) C dX5_sinks_55
theorem zX5_sinks {G : qG} {l : Launch} {σ : qM} {x1 : Int32} {x2 : Int32} {x3 : Int32} {x4 : Int32} {res : (Int64 × qM)}  (h : fX5_sinks σ x1 x2 x3 x4 = some res) : qCon sM G l yX5_sinks cX5_sinks 5 (some .long) 6 [.ref (q_ad G 0), .int x1, .int x2, .int x3, .int x4] σ (some (.long res.1)) res.2 := by
  refine qCon.mkF (lv := [(0, .ref (q_ad G 0)), (1, .int x1), (2, .int x2), (3, .int x3), (4, .int x4)]) (plainFor_of_name (by decide)) (Nat.le_of_ble_eq_true rfl) rfl (fun X hX C => ?_)
  unfold fX5_sinks at h
  refine q_aload_n (pc := 0) C 0 rfl dX5_sinks_0 rfl ?_
  obtain ⟨q1, hq1, h⟩ := q_bind h
  refine q_callV0 (pc := 1) (st := []) C (zX5_reads hq1) yi_X5_reads ml_RX5_129 kM_0 rfl (by decide) rfl (Nat.le_of_ble_eq_true rfl) dX5_sinks_1 ?_
  refine q_iload_n (pc := 4) C 1 rfl dX5_sinks_4 rfl ?_
  refine q_i2l (pc := 5) C dX5_sinks_5 ?_
  refine q_lconst (pc := 6) (v := (0 : Int64)) C dX5_sinks_6 rfl ?_
  refine q_ldc2 (pc := 7) C kn_RX5_260 dX5_sinks_7 ?_
  obtain ⟨q2, hq2, h⟩ := q_bind h
  refine q_callS1 (pc := 10) (st := []) C (zX5_in hq2) ys_X5_in ml_RX5_61 rfl (by decide) rfl (Nat.le_of_ble_eq_true rfl) dX5_sinks_10 ?_
  refine q_if_eq (pc := 13) C 50 dX5_sinks_13 (by decide) (fun c3 => ?_) (fun c3 => ?_)
  · have h := q_t c3 h
    refine q_sub [] rfl ?_
    exact tX5_sinks_50 C _ _ h
  · have h := q_f c3 h
    refine q_iload_n (pc := 16) C 2 rfl dX5_sinks_16 rfl ?_
    obtain ⟨q4, hq4, h⟩ := q_bind h
    refine q_callS1 (pc := 17) (st := []) C (zX5_areTurns hq4) ys_X5_areTurns ml_RX5_193 rfl (by decide) rfl (Nat.le_of_ble_eq_true rfl) dX5_sinks_17 ?_
    refine q_if_eq (pc := 20) C 50 dX5_sinks_20 (by decide) (fun c5 => ?_) (fun c5 => ?_)
    · have h := q_t c5 h
      refine q_sub [] rfl ?_
      exact tX5_sinks_50 C _ _ h
    · have h := q_f c5 h
      refine q_iload_n (pc := 23) C 3 rfl dX5_sinks_23 rfl ?_
      obtain ⟨q6, hq6, h⟩ := q_bind h
      refine q_callS1 (pc := 24) (st := []) C (zX5_isLaw hq6) ys_X5_isLaw ml_RX5_145 rfl (by decide) rfl (Nat.le_of_ble_eq_true rfl) dX5_sinks_24 ?_
      refine q_if_eq (pc := 27) C 50 dX5_sinks_27 (by decide) (fun c7 => ?_) (fun c7 => ?_)
      · have h := q_t c7 h
        refine q_sub [] rfl ?_
        exact tX5_sinks_50 C _ _ h
      · have h := q_f c7 h
        refine q_iload (pc := 30) C 4 rfl dX5_sinks_30 ?_
        obtain ⟨q8, hq8, h⟩ := q_bind h
        refine q_callS1 (pc := 32) (st := []) C (zX5_isTwo hq8) ys_X5_isTwo ml_RX5_89 rfl (by decide) rfl (Nat.le_of_ble_eq_true rfl) dX5_sinks_32 ?_
        refine q_if_eq (pc := 35) C 50 dX5_sinks_35 (by decide) (fun c9 => ?_) (fun c9 => ?_)
        · have h := q_t c9 h
          refine q_sub [] rfl ?_
          exact tX5_sinks_50 C _ _ h
        · have h := q_f c9 h
          refine q_aload_n (pc := 38) C 0 rfl dX5_sinks_38 rfl ?_
          refine q_iload_n (pc := 39) C 1 rfl dX5_sinks_39 rfl ?_
          refine q_iload_n (pc := 40) C 2 rfl dX5_sinks_40 rfl ?_
          refine q_iload_n (pc := 41) C 3 rfl dX5_sinks_41 rfl ?_
          refine q_iload (pc := 42) C 4 rfl dX5_sinks_42 ?_
          obtain ⟨q10, hq10, h⟩ := q_bind h
          refine q_callV1 (pc := 44) (st := []) C (zX5_sinksOf hq10) yi_X5_sinksOf ml_RX5_266 kM_0 rfl (by decide) rfl (Nat.le_of_ble_eq_true rfl) dX5_sinks_44 ?_
          refine q_goto (pc := 47) C 55 dX5_sinks_47 (by decide) ?_
          obtain rfl := Option.some.inj h
          exact q_lret (pc := 55) C dX5_sinks_55
/-! X5_morningsOf -/
theorem tX5_morningsOf_55 {X : qX} {G : qG} (C : qC sM X G RX5 cX5_morningsOf 7 6 (some .int)) (k9 : qM → Int32 → Int32 → Int32 → Int32 → Int32 → Option (Int32 × qM)) (hk9 : ∀ (σ : qM) (x2 : Int32) (x3 : Int32) (x4 : Int32) (x5 : Int32) (x6 : Int32) (res : (Int32 × qM)), k9 σ x2 x3 x4 x5 x6 = some res → qY sM X G 7 (q_Q sM X G (some (.int res.1)) res.2) σ 9 [(0, .ref (q_ad G 0)), (2, .int x2), (3, .int x3), (4, .int x4), (5, .int x5), (6, .int x6)] []) (σ : qM) (x2 : Int32) (x3 : Int32) (x4 : Int32) (x5 : Int32) (x6 : Int32) (res : (Int32 × qM))  (h : fX5_morningsOf_55 k9 σ x2 x3 x4 x5 x6 = some res) : qY sM X G 7 (q_Q sM X G (some (.int res.1)) res.2) σ 55 [(0, .ref (q_ad G 0)), (2, .int x2), (3, .int x3), (4, .int x4), (5, .int x5), (6, .int x6)] [] := by
  unfold fX5_morningsOf_55 at h
  refine q_inc (pc := 55) C 5 rfl ci_1 dX5_morningsOf_55 (by decide) rfl ?_
  refine q_goto (pc := 58) C 9 dX5_morningsOf_58 (by decide) ?_
  refine q_sub [1, 2, 3, 4, 5, 0] rfl ?_
  exact hk9 _ _ _ _ _ _ _ h
theorem tX5_morningsOf_52 {X : qX} {G : qG} (C : qC sM X G RX5 cX5_morningsOf 7 6 (some .int)) (k9 : qM → Int32 → Int32 → Int32 → Int32 → Int32 → Option (Int32 × qM)) (hk9 : ∀ (σ : qM) (x2 : Int32) (x3 : Int32) (x4 : Int32) (x5 : Int32) (x6 : Int32) (res : (Int32 × qM)), k9 σ x2 x3 x4 x5 x6 = some res → qY sM X G 7 (q_Q sM X G (some (.int res.1)) res.2) σ 9 [(0, .ref (q_ad G 0)), (2, .int x2), (3, .int x3), (4, .int x4), (5, .int x5), (6, .int x6)] []) (σ : qM) (x2 : Int32) (x3 : Int32) (x4 : Int32) (x6 : Int32) (t0 : Int32) (t1 : Int32) (res : (Int32 × qM))  (h : fX5_morningsOf_52 k9 σ x2 x3 x4 x6 t0 t1 = some res) : qY sM X G 7 (q_Q sM X G (some (.int res.1)) res.2) σ 52 [(0, .ref (q_ad G 0)), (2, .int x2), (3, .int x3), (4, .int x4), (6, .int x6)] [.int t0, .int t1] := by
  unfold fX5_morningsOf_52 at h
  refine q_iadd (pc := 52) C dX5_morningsOf_52 ?_
  refine q_istore (pc := 53) C dX5_morningsOf_53 (by decide) rfl ?_
  refine q_sub [1, 2, 3, 4, 0, 5] rfl ?_
  exact tX5_morningsOf_55 C k9 hk9 _ _ _ _ _ _ _ h
theorem tX5_morningsOf_27 {X : qX} {G : qG} (C : qC sM X G RX5 cX5_morningsOf 7 6 (some .int)) (k9 : qM → Int32 → Int32 → Int32 → Int32 → Int32 → Option (Int32 × qM)) (hk9 : ∀ (σ : qM) (x2 : Int32) (x3 : Int32) (x4 : Int32) (x5 : Int32) (x6 : Int32) (res : (Int32 × qM)), k9 σ x2 x3 x4 x5 x6 = some res → qY sM X G 7 (q_Q sM X G (some (.int res.1)) res.2) σ 9 [(0, .ref (q_ad G 0)), (2, .int x2), (3, .int x3), (4, .int x4), (5, .int x5), (6, .int x6)] []) (σ : qM) (x2 : Int32) (x3 : Int32) (x4 : Int32) (x5 : Int32) (x6 : Int32) (res : (Int32 × qM))  (h : fX5_morningsOf_27 k9 σ x2 x3 x4 x5 x6 = some res) : qY sM X G 7 (q_Q sM X G (some (.int res.1)) res.2) σ 27 [(0, .ref (q_ad G 0)), (2, .int x2), (3, .int x3), (4, .int x4), (5, .int x5), (6, .int x6)] [] := by
  unfold fX5_morningsOf_27 at h
  refine q_iload (pc := 27) C 4 rfl dX5_morningsOf_27 ?_
  refine q_aload_n (pc := 29) C 0 rfl dX5_morningsOf_29 rfl ?_
  refine q_iload (pc := 30) C 3 rfl dX5_morningsOf_30 ?_
  refine q_bipush (pc := 32) C dX5_morningsOf_32 cb_16 ?_
  refine q_iushr (pc := 34) C dX5_morningsOf_34 ?_
  refine q_iconst (pc := 35) C dX5_morningsOf_35 ci_4 ?_
  refine q_rem (pc := 36) C dX5_morningsOf_36 (by decide) ?_
  obtain ⟨q1, hq1, h⟩ := q_bind h
  refine q_callV1 (pc := 37) (st := [.int x5]) C (zX5_readNow hq1) yi_X5_readNow ml_RX5_203 kM_0 rfl (by decide) rfl (Nat.le_of_ble_eq_true rfl) dX5_morningsOf_37 ?_
  refine q_iload_n (pc := 40) C 2 rfl dX5_morningsOf_40 rfl ?_
  obtain ⟨q2, hq2, h⟩ := q_bind h
  refine q_callS1 (pc := 41) (st := [.int x5]) C (zX5_isIn hq2) ys_X5_isIn ml_RX5_178 rfl (by decide) rfl (Nat.le_of_ble_eq_true rfl) dX5_morningsOf_41 ?_
  refine q_if_eq (pc := 44) C 51 dX5_morningsOf_44 (by decide) (fun c3 => ?_) (fun c3 => ?_)
  · have h := q_t c3 h
    refine q_iconst (pc := 51) C dX5_morningsOf_51 ci_0 ?_
    refine q_sub [0, 1, 2, 3, 5] rfl ?_
    exact tX5_morningsOf_52 C k9 hk9 _ _ _ _ _ _ _ _ h
  · have h := q_f c3 h
    refine q_iconst (pc := 47) C dX5_morningsOf_47 ci_1 ?_
    refine q_goto (pc := 48) C 52 dX5_morningsOf_48 (by decide) ?_
    refine q_sub [0, 1, 2, 3, 5] rfl ?_
    exact tX5_morningsOf_52 C k9 hk9 _ _ _ _ _ _ _ _ h
theorem uX5_morningsOf_9 {X : qX} {G : qG} (C : qC sM X G RX5 cX5_morningsOf 7 6 (some .int)) (k9 : qM → Int32 → Int32 → Int32 → Int32 → Int32 → Option (Int32 × qM)) (hk9 : ∀ (σ : qM) (x2 : Int32) (x3 : Int32) (x4 : Int32) (x5 : Int32) (x6 : Int32) (res : (Int32 × qM)), k9 σ x2 x3 x4 x5 x6 = some res → qY sM X G 7 (q_Q sM X G (some (.int res.1)) res.2) σ 9 [(0, .ref (q_ad G 0)), (2, .int x2), (3, .int x3), (4, .int x4), (5, .int x5), (6, .int x6)] []) (σ : qM) (x2 : Int32) (x3 : Int32) (x4 : Int32) (x5 : Int32) (x6 : Int32) (res : (Int32 × qM))  (h : bX5_morningsOf_9 k9 σ x2 x3 x4 x5 x6 = some res) : qY sM X G 7 (q_Q sM X G (some (.int res.1)) res.2) σ 9 [(0, .ref (q_ad G 0)), (2, .int x2), (3, .int x3), (4, .int x4), (5, .int x5), (6, .int x6)] [] := by
  unfold bX5_morningsOf_9 at h
  refine q_iload (pc := 9) C 5 rfl dX5_morningsOf_9 ?_
  refine q_iload_n (pc := 11) C 1 rfl dX5_morningsOf_11 rfl ?_
  refine q_ic_ge (pc := 12) C 61 dX5_morningsOf_12 (by decide) (fun c1 => ?_) (fun c1 => ?_)
  · have h := q_t c1 h
    refine q_iload (pc := 61) C 4 rfl dX5_morningsOf_61 ?_
    obtain rfl := Option.some.inj h
    exact q_iret (pc := 63) C dX5_morningsOf_63
  · have h := q_f c1 h
    refine q_ldcw (pc := 15) C kn_RX5_274 dX5_morningsOf_15 ?_
    refine q_iload (pc := 18) C 3 rfl dX5_morningsOf_18 ?_
    refine q_imul (pc := 20) C dX5_morningsOf_20 ?_
    refine q_sipush (pc := 21) C dX5_morningsOf_21 cs_12345 ?_
    refine q_iadd (pc := 24) C dX5_morningsOf_24 ?_
    refine q_istore (pc := 25) C dX5_morningsOf_25 (by decide) rfl ?_
    refine q_sub [1, 2, 3, 0, 4, 5] rfl ?_
    exact tX5_morningsOf_27 C k9 hk9 _ _ _ _ _ _ _ h
theorem tX5_morningsOf_9 {X : qX} {G : qG} (C : qC sM X G RX5 cX5_morningsOf 7 6 (some .int))  (σ : qM) (x2 : Int32) (x3 : Int32) (x4 : Int32) (x5 : Int32) (x6 : Int32) (res : (Int32 × qM))  (h : fX5_morningsOf_9  σ x2 x3 x4 x5 x6 = some res) : qY sM X G 7 (q_Q sM X G (some (.int res.1)) res.2) σ 9 [(0, .ref (q_ad G 0)), (2, .int x2), (3, .int x3), (4, .int x4), (5, .int x5), (6, .int x6)] [] := by
  have key : ∀ (n : Nat) (σ : qM) (x2 : Int32) (x3 : Int32) (x4 : Int32) (x5 : Int32) (x6 : Int32) (res : (Int32 × qM)) , qlp (fun _ _ _ _ _ _ => none) (bX5_morningsOf_9 ) n σ x2 x3 x4 x5 x6 = some res → qY sM X G 7 (q_Q sM X G (some (.int res.1)) res.2) σ 9 [(0, .ref (q_ad G 0)), (2, .int x2), (3, .int x3), (4, .int x4), (5, .int x5), (6, .int x6)] [] := by
    intro n
    induction n with
    | zero => intro σ x2 x3 x4 x5 x6 res h; cases h
    | succ n ih => intro σ x2 x3 x4 x5 x6 res h; exact uX5_morningsOf_9 C  (qlp (fun _ _ _ _ _ _ => none) (bX5_morningsOf_9 ) n) (fun σ x2 x3 x4 x5 x6 res h => ih σ x2 x3 x4 x5 x6 res h) σ x2 x3 x4 x5 x6 res h
  exact key qFU σ x2 x3 x4 x5 x6 res h
theorem zX5_morningsOf {G : qG} {l : Launch} {σ : qM} {x1 : Int32} {x2 : Int32} {x3 : Int32} {res : (Int32 × qM)}  (h : fX5_morningsOf σ x1 x2 x3 = some res) : qCon sM G l yX5_morningsOf cX5_morningsOf 7 (some .int) 6 [.ref (q_ad G 0), .int x1, .int x2, .int x3] σ (some (.int res.1)) res.2 := by
  refine qCon.mkF (lv := [(0, .ref (q_ad G 0)), (1, .int x1), (2, .int x2), (3, .int x3)]) (plainFor_of_name (by decide)) (Nat.le_of_ble_eq_true rfl) rfl (fun X hX C => ?_)
  unfold fX5_morningsOf at h
  refine q_iload_n (pc := 0) C 1 rfl dX5_morningsOf_0 rfl ?_
  refine q_istore (pc := 1) C dX5_morningsOf_1 (by decide) rfl ?_
  refine q_iconst (pc := 3) C dX5_morningsOf_3 ci_0 ?_
  refine q_istore (pc := 4) C dX5_morningsOf_4 (by decide) rfl ?_
  refine q_iconst (pc := 6) C dX5_morningsOf_6 ci_0 ?_
  refine q_istore (pc := 7) C dX5_morningsOf_7 (by decide) rfl ?_
  refine q_sub [3, 5, 6, 2, 1, 0] rfl ?_
  exact tX5_morningsOf_9 C _ _ _ _ _ _ _ h
/-! X5_mornings -/
theorem zX5_mornings {G : qG} {l : Launch} {σ : qM} {x1 : Int32} {x2 : Int32} {x3 : Int32} {res : (Int32 × qM)}  (h : fX5_mornings σ x1 x2 x3 = some res) : qCon sM G l yX5_mornings cX5_mornings 4 (some .int) 7 [.ref (q_ad G 0), .int x1, .int x2, .int x3] σ (some (.int res.1)) res.2 := by
  refine qCon.mkF (lv := [(0, .ref (q_ad G 0)), (1, .int x1), (2, .int x2), (3, .int x3)]) (plainFor_of_name (by decide)) (Nat.le_of_ble_eq_true rfl) rfl (fun X hX C => ?_)
  unfold fX5_mornings at h
  refine q_aload_n (pc := 0) C 0 rfl dX5_mornings_0 rfl ?_
  obtain ⟨q1, hq1, h⟩ := q_bind h
  refine q_callV0 (pc := 1) (st := []) C (zX5_reads hq1) yi_X5_reads ml_RX5_129 kM_0 rfl (by decide) rfl (Nat.le_of_ble_eq_true rfl) dX5_mornings_1 ?_
  refine q_iload_n (pc := 4) C 2 rfl dX5_mornings_4 rfl ?_
  refine q_i2l (pc := 5) C dX5_mornings_5 ?_
  refine q_lconst (pc := 6) (v := (1 : Int64)) C dX5_mornings_6 rfl ?_
  refine q_ldc2 (pc := 7) C kn_RX5_275 dX5_mornings_7 ?_
  obtain ⟨q2, hq2, h⟩ := q_bind h
  refine q_callS1 (pc := 10) (st := []) C (zX5_in hq2) ys_X5_in ml_RX5_61 rfl (by decide) rfl (Nat.le_of_ble_eq_true rfl) dX5_mornings_10 ?_
  refine q_if_eq (pc := 13) C 33 dX5_mornings_13 (by decide) (fun c3 => ?_) (fun c3 => ?_)
  · have h := q_t c3 h
    refine q_bipush (pc := 33) C dX5_mornings_33 cb_m2 ?_
    obtain rfl := Option.some.inj h
    exact q_iret (pc := 35) C dX5_mornings_35
  · have h := q_f c3 h
    refine q_iload_n (pc := 16) C 3 rfl dX5_mornings_16 rfl ?_
    obtain ⟨q4, hq4, h⟩ := q_bind h
    refine q_callS1 (pc := 17) (st := []) C (zX5_isLaw hq4) ys_X5_isLaw ml_RX5_145 rfl (by decide) rfl (Nat.le_of_ble_eq_true rfl) dX5_mornings_17 ?_
    refine q_if_eq (pc := 20) C 33 dX5_mornings_20 (by decide) (fun c5 => ?_) (fun c5 => ?_)
    · have h := q_t c5 h
      refine q_bipush (pc := 33) C dX5_mornings_33 cb_m2 ?_
      obtain rfl := Option.some.inj h
      exact q_iret (pc := 35) C dX5_mornings_35
    · have h := q_f c5 h
      refine q_aload_n (pc := 23) C 0 rfl dX5_mornings_23 rfl ?_
      refine q_iload_n (pc := 24) C 1 rfl dX5_mornings_24 rfl ?_
      refine q_iload_n (pc := 25) C 2 rfl dX5_mornings_25 rfl ?_
      refine q_iload_n (pc := 26) C 3 rfl dX5_mornings_26 rfl ?_
      obtain ⟨q6, hq6, h⟩ := q_bind h
      refine q_callV1 (pc := 27) (st := []) C (zX5_morningsOf hq6) yi_X5_morningsOf ml_RX5_277 kM_0 rfl (by decide) rfl (Nat.le_of_ble_eq_true rfl) dX5_mornings_27 ?_
      refine q_goto (pc := 30) C 35 dX5_mornings_30 (by decide) ?_
      obtain rfl := Option.some.inj h
      exact q_iret (pc := 35) C dX5_mornings_35
/-! X5_write -/
theorem uX5_write_54 {X : qX} {G : qG} (C : qC sM X G RX5 cX5_write 4 7 (some .int)) (k54 : qM → Int32 → Int32 → Int32 → Option (Int32 × qM)) (hk54 : ∀ (σ : qM) (x1 : Int32) (x2 : Int32) (x3 : Int32) (res : (Int32 × qM)), k54 σ x1 x2 x3 = some res → qY sM X G 4 (q_Q sM X G (some (.int res.1)) res.2) σ 54 [(0, .ref (q_ad G 0)), (1, .int x1), (2, .int x2), (3, .int x3)] []) (σ : qM) (x1 : Int32) (x2 : Int32) (x3 : Int32) (res : (Int32 × qM))  (h : bX5_write_54 k54 σ x1 x2 x3 = some res) : qY sM X G 4 (q_Q sM X G (some (.int res.1)) res.2) σ 54 [(0, .ref (q_ad G 0)), (1, .int x1), (2, .int x2), (3, .int x3)] [] := by
  unfold bX5_write_54 at h
  refine q_iload_n (pc := 54) C 3 rfl dX5_write_54 rfl ?_
  refine q_iload_n (pc := 55) C 2 rfl dX5_write_55 rfl ?_
  refine q_ic_ge (pc := 56) C 90 dX5_write_56 (by decide) (fun c1 => ?_) (fun c1 => ?_)
  · have h := q_t c1 h
    refine q_iload_n (pc := 90) C 2 rfl dX5_write_90 rfl ?_
    obtain rfl := Option.some.inj h
    exact q_iret (pc := 91) C dX5_write_91
  · have h := q_f c1 h
    refine q_aload_n (pc := 59) C 0 rfl dX5_write_59 rfl ?_
    refine q_getR (pc := 60) (t := 3) C fl_RX5_16 kM_0 rfl rM_0_2 dX5_write_60 ?_
    refine q_bipush (pc := 63) C dX5_write_63 cb_60 ?_
    refine q_iload_n (pc := 65) C 1 rfl dX5_write_65 rfl ?_
    refine q_imul (pc := 66) C dX5_write_66 ?_
    refine q_iload_n (pc := 67) C 3 rfl dX5_write_67 rfl ?_
    refine q_iadd (pc := 68) C dX5_write_68 ?_
    refine q_aload_n (pc := 69) C 0 rfl dX5_write_69 rfl ?_
    refine q_getR (pc := 70) (t := 1) C fl_RX5_7 kM_0 rfl rM_0_0 dX5_write_70 ?_
    refine q_iload_n (pc := 73) C 1 rfl dX5_write_73 rfl ?_
    obtain ⟨g2, h⟩ := q_guard h
    refine q_iald (pc := 74) C kM_1 lM_1 g2 dX5_write_74 ?_
    refine q_aload_n (pc := 75) C 0 rfl dX5_write_75 rfl ?_
    refine q_iload_n (pc := 76) C 3 rfl dX5_write_76 rfl ?_
    obtain ⟨q3, hq3, h⟩ := q_bind h
    refine q_callV1 (pc := 77) (st := [.int (σ 1 x1.toNatClampNeg), .int (((60 : Int32) * x1) + x3), .ref (q_ad G 3)]) C (zX5_dayOf hq3) yi_X5_dayOf ml_RX5_206 kM_0 rfl (by decide) rfl (Nat.le_of_ble_eq_true rfl) dX5_write_77 ?_
    obtain ⟨q4, hq4, h⟩ := q_bind h
    refine q_callS1 (pc := 80) (st := [.int (((60 : Int32) * x1) + x3), .ref (q_ad G 3)]) C (zX5_cut hq4) ys_X5_cut ml_RX5_84 rfl (by decide) rfl (Nat.le_of_ble_eq_true rfl) dX5_write_80 ?_
    obtain ⟨g5, h⟩ := q_guard h
    refine q_iast (pc := 83) C kM_3 lM_3 g5 dX5_write_83 ?_
    refine q_inc (pc := 84) C 3 rfl ci_1 dX5_write_84 (by decide) rfl ?_
    refine q_goto (pc := 87) C 54 dX5_write_87 (by decide) ?_
    refine q_sub [1, 2, 3, 0] rfl ?_
    exact hk54 _ _ _ _ _ h
theorem tX5_write_54 {X : qX} {G : qG} (C : qC sM X G RX5 cX5_write 4 7 (some .int))  (σ : qM) (x1 : Int32) (x2 : Int32) (x3 : Int32) (res : (Int32 × qM))  (h : fX5_write_54  σ x1 x2 x3 = some res) : qY sM X G 4 (q_Q sM X G (some (.int res.1)) res.2) σ 54 [(0, .ref (q_ad G 0)), (1, .int x1), (2, .int x2), (3, .int x3)] [] := by
  have key : ∀ (n : Nat) (σ : qM) (x1 : Int32) (x2 : Int32) (x3 : Int32) (res : (Int32 × qM)) , qlp (fun _ _ _ _ => none) (bX5_write_54 ) n σ x1 x2 x3 = some res → qY sM X G 4 (q_Q sM X G (some (.int res.1)) res.2) σ 54 [(0, .ref (q_ad G 0)), (1, .int x1), (2, .int x2), (3, .int x3)] [] := by
    intro n
    induction n with
    | zero => intro σ x1 x2 x3 res h; cases h
    | succ n ih => intro σ x1 x2 x3 res h; exact uX5_write_54 C  (qlp (fun _ _ _ _ => none) (bX5_write_54 ) n) (fun σ x1 x2 x3 res h => ih σ x1 x2 x3 res h) σ x1 x2 x3 res h
  exact key qFU σ x1 x2 x3 res h
theorem tX5_write_51 {X : qX} {G : qG} (C : qC sM X G RX5 cX5_write 4 7 (some .int))  (σ : qM) (x1 : Int32) (t0 : Int32) (res : (Int32 × qM))  (h : fX5_write_51  σ x1 t0 = some res) : qY sM X G 4 (q_Q sM X G (some (.int res.1)) res.2) σ 51 [(0, .ref (q_ad G 0)), (1, .int x1)] [.int t0] := by
  unfold fX5_write_51 at h
  refine q_istore_n (pc := 51) C dX5_write_51 rfl (by decide) rfl ?_
  refine q_iconst (pc := 52) C dX5_write_52 ci_0 ?_
  refine q_istore_n (pc := 53) C dX5_write_53 rfl (by decide) rfl ?_
  refine q_sub [2, 3, 1, 0] rfl ?_
  exact tX5_write_54 C _ _ _ _ _ h
theorem zX5_write {G : qG} {l : Launch} {σ : qM} {x1 : Int32} {res : (Int32 × qM)}  (h : fX5_write σ x1 = some res) : qCon sM G l yX5_write cX5_write 4 (some .int) 7 [.ref (q_ad G 0), .int x1] σ (some (.int res.1)) res.2 := by
  refine qCon.mkF (lv := [(0, .ref (q_ad G 0)), (1, .int x1)]) (plainFor_of_name (by decide)) (Nat.le_of_ble_eq_true rfl) rfl (fun X hX C => ?_)
  unfold fX5_write at h
  refine q_iload_n (pc := 0) C 1 rfl dX5_write_0 rfl ?_
  obtain ⟨q1, hq1, h⟩ := q_bind h
  refine q_callS1 (pc := 1) (st := []) C (zX5_isSheet hq1) ys_X5_isSheet ml_RX5_70 rfl (by decide) rfl (Nat.le_of_ble_eq_true rfl) dX5_write_1 ?_
  refine q_if_ne (pc := 4) C 10 dX5_write_4 (by decide) (fun c2 => ?_) (fun c2 => ?_)
  · have h := q_f c2 h
    refine q_aload_n (pc := 10) C 0 rfl dX5_write_10 rfl ?_
    refine q_getR (pc := 11) (t := 1) C fl_RX5_7 kM_0 rfl rM_0_0 dX5_write_11 ?_
    refine q_iload_n (pc := 14) C 1 rfl dX5_write_14 rfl ?_
    obtain ⟨g3, h⟩ := q_guard h
    refine q_iald (pc := 15) C kM_1 lM_1 g3 dX5_write_15 ?_
    refine q_if_ge (pc := 16) C 25 dX5_write_16 (by decide) (fun c4 => ?_) (fun c4 => ?_)
    · have h := q_t c4 h
      refine q_aload_n (pc := 25) C 0 rfl dX5_write_25 rfl ?_
      obtain ⟨q5, hq5, h⟩ := q_bind h
      refine q_callV0 (pc := 26) (st := []) C (zX5_reads hq5) yi_X5_reads ml_RX5_129 kM_0 rfl (by decide) rfl (Nat.le_of_ble_eq_true rfl) dX5_write_26 ?_
      refine q_aload_n (pc := 29) C 0 rfl dX5_write_29 rfl ?_
      refine q_getR (pc := 30) (t := 2) C fl_RX5_13 kM_0 rfl rM_0_1 dX5_write_30 ?_
      refine q_iload_n (pc := 33) C 1 rfl dX5_write_33 rfl ?_
      obtain ⟨g6, h⟩ := q_guard h
      refine q_iald (pc := 34) C kM_2 lM_2 g6 dX5_write_34 ?_
      refine q_bipush (pc := 35) C dX5_write_35 cb_28 ?_
      refine q_ic_ge (pc := 37) C 49 dX5_write_37 (by decide) (fun c7 => ?_) (fun c7 => ?_)
      · have h := q_t c7 h
        refine q_bipush (pc := 49) C dX5_write_49 cb_28 ?_
        exact tX5_write_51 C _ _ _ _ h
      · have h := q_f c7 h
        refine q_aload_n (pc := 40) C 0 rfl dX5_write_40 rfl ?_
        refine q_getR (pc := 41) (t := 2) C fl_RX5_13 kM_0 rfl rM_0_1 dX5_write_41 ?_
        refine q_iload_n (pc := 44) C 1 rfl dX5_write_44 rfl ?_
        obtain ⟨g8, h⟩ := q_guard h
        refine q_iald (pc := 45) C kM_2 lM_2 g8 dX5_write_45 ?_
        refine q_goto (pc := 46) C 51 dX5_write_46 (by decide) ?_
        exact tX5_write_51 C _ _ _ _ h
    · have h := q_f c4 h
      refine q_aload_n (pc := 19) C 0 rfl dX5_write_19 rfl ?_
      refine q_iconst (pc := 20) C dX5_write_20 ci_1 ?_
      obtain ⟨q9, hq9, h⟩ := q_bind h
      refine q_callV1 (pc := 21) (st := []) C (zX5_finds hq9) yi_X5_finds ml_RX5_76 kM_0 rfl (by decide) rfl (Nat.le_of_ble_eq_true rfl) dX5_write_21 ?_
      obtain rfl := Option.some.inj h
      exact q_iret (pc := 24) C dX5_write_24
  · have h := q_t c2 h
    refine q_bipush (pc := 7) C dX5_write_7 cb_m2 ?_
    obtain rfl := Option.some.inj h
    exact q_iret (pc := 9) C dX5_write_9
/-! X5_count -/
theorem tX5_count_66 {X : qX} {G : qG} (C : qC sM X G RX5 cX5_count 4 6 (some .int))  (σ : qM) (x1 : Int32) (res : (Int32 × qM))  (h : fX5_count_66  σ x1 = some res) : qY sM X G 4 (q_Q sM X G (some (.int res.1)) res.2) σ 66 [(0, .ref (q_ad G 0)), (1, .int x1)] [] := by
  unfold fX5_count_66 at h
  refine q_aload_n (pc := 66) C 0 rfl dX5_count_66 rfl ?_
  refine q_getR (pc := 67) (t := 6) C fl_RX5_25 kM_0 rfl rM_0_6 dX5_count_67 ?_
  refine q_iload_n (pc := 70) C 1 rfl dX5_count_70 rfl ?_
  refine q_iconst (pc := 71) C dX5_count_71 ci_2 ?_
  refine q_isub (pc := 72) C dX5_count_72 ?_
  obtain ⟨g1, h⟩ := q_guard h
  refine q_iald (pc := 73) C kM_6 lM_6 g1 dX5_count_73 ?_
  obtain rfl := Option.some.inj h
  exact q_iret (pc := 74) C dX5_count_74
theorem tX5_count_113 {X : qX} {G : qG} (C : qC sM X G RX5 cX5_count 4 6 (some .int)) (k92 : qM → Int32 → Int32 → Option (Int32 × qM)) (hk92 : ∀ (σ : qM) (x2 : Int32) (x3 : Int32) (res : (Int32 × qM)), k92 σ x2 x3 = some res → qY sM X G 4 (q_Q sM X G (some (.int res.1)) res.2) σ 92 [(0, .ref (q_ad G 0)), (2, .int x2), (3, .int x3)] []) (σ : qM) (x2 : Int32) (x3 : Int32) (res : (Int32 × qM))  (h : fX5_count_113 k92 σ x2 x3 = some res) : qY sM X G 4 (q_Q sM X G (some (.int res.1)) res.2) σ 113 [(0, .ref (q_ad G 0)), (2, .int x2), (3, .int x3)] [] := by
  unfold fX5_count_113 at h
  refine q_inc (pc := 113) C 2 rfl ci_1 dX5_count_113 (by decide) rfl ?_
  refine q_goto (pc := 116) C 92 dX5_count_116 (by decide) ?_
  refine q_sub [1, 2, 0] rfl ?_
  exact hk92 _ _ _ _ h
theorem uX5_count_92 {X : qX} {G : qG} (C : qC sM X G RX5 cX5_count 4 6 (some .int)) (k92 : qM → Int32 → Int32 → Option (Int32 × qM)) (hk92 : ∀ (σ : qM) (x2 : Int32) (x3 : Int32) (res : (Int32 × qM)), k92 σ x2 x3 = some res → qY sM X G 4 (q_Q sM X G (some (.int res.1)) res.2) σ 92 [(0, .ref (q_ad G 0)), (2, .int x2), (3, .int x3)] []) (σ : qM) (x2 : Int32) (x3 : Int32) (res : (Int32 × qM))  (h : bX5_count_92 k92 σ x2 x3 = some res) : qY sM X G 4 (q_Q sM X G (some (.int res.1)) res.2) σ 92 [(0, .ref (q_ad G 0)), (2, .int x2), (3, .int x3)] [] := by
  unfold bX5_count_92 at h
  refine q_iload_n (pc := 92) C 2 rfl dX5_count_92 rfl ?_
  refine q_aload_n (pc := 93) C 0 rfl dX5_count_93 rfl ?_
  refine q_getI (pc := 94) C fl_RX5_106 kM_0 rfl dX5_count_94 ?_
  refine q_ic_ge (pc := 97) C 119 dX5_count_97 (by decide) (fun c1 => ?_) (fun c1 => ?_)
  · have h := q_t c1 h
    refine q_iload_n (pc := 119) C 1 rfl dX5_count_119 rfl ?_
    obtain rfl := Option.some.inj h
    exact q_iret (pc := 120) C dX5_count_120
  · have h := q_f c1 h
    refine q_iload_n (pc := 100) C 1 rfl dX5_count_100 rfl ?_
    refine q_aload_n (pc := 101) C 0 rfl dX5_count_101 rfl ?_
    refine q_getR (pc := 102) (t := 8) C fl_RX5_31 kM_0 rfl rM_0_11 dX5_count_102 ?_
    refine q_iconst (pc := 105) C dX5_count_105 ci_5 ?_
    refine q_iload_n (pc := 106) C 2 rfl dX5_count_106 rfl ?_
    refine q_imul (pc := 107) C dX5_count_107 ?_
    refine q_iconst (pc := 108) C dX5_count_108 ci_3 ?_
    refine q_iadd (pc := 109) C dX5_count_109 ?_
    obtain ⟨g2, h⟩ := q_guard h
    refine q_iald (pc := 110) C kM_8 lM_8 g2 dX5_count_110 ?_
    refine q_iadd (pc := 111) C dX5_count_111 ?_
    refine q_istore_n (pc := 112) C dX5_count_112 rfl (by decide) rfl ?_
    refine q_sub [1, 0, 2] rfl ?_
    exact tX5_count_113 C k92 hk92 _ _ _ _ h
theorem tX5_count_92 {X : qX} {G : qG} (C : qC sM X G RX5 cX5_count 4 6 (some .int))  (σ : qM) (x2 : Int32) (x3 : Int32) (res : (Int32 × qM))  (h : fX5_count_92  σ x2 x3 = some res) : qY sM X G 4 (q_Q sM X G (some (.int res.1)) res.2) σ 92 [(0, .ref (q_ad G 0)), (2, .int x2), (3, .int x3)] [] := by
  have key : ∀ (n : Nat) (σ : qM) (x2 : Int32) (x3 : Int32) (res : (Int32 × qM)) , qlp (fun _ _ _ => none) (bX5_count_92 ) n σ x2 x3 = some res → qY sM X G 4 (q_Q sM X G (some (.int res.1)) res.2) σ 92 [(0, .ref (q_ad G 0)), (2, .int x2), (3, .int x3)] [] := by
    intro n
    induction n with
    | zero => intro σ x2 x3 res h; cases h
    | succ n ih => intro σ x2 x3 res h; exact uX5_count_92 C  (qlp (fun _ _ _ => none) (bX5_count_92 ) n) (fun σ x2 x3 res h => ih σ x2 x3 res h) σ x2 x3 res h
  exact key qFU σ x2 x3 res h
theorem zX5_count {G : qG} {l : Launch} {σ : qM} {x1 : Int32} {res : (Int32 × qM)}  (h : fX5_count σ x1 = some res) : qCon sM G l yX5_count cX5_count 4 (some .int) 6 [.ref (q_ad G 0), .int x1] σ (some (.int res.1)) res.2 := by
  refine qCon.mkF (lv := [(0, .ref (q_ad G 0)), (1, .int x1)]) (plainFor_of_name (by decide)) (Nat.le_of_ble_eq_true rfl) rfl (fun X hX C => ?_)
  unfold fX5_count at h
  refine q_iconst (pc := 0) C dX5_count_0 ci_0 ?_
  refine q_istore_n (pc := 1) C dX5_count_1 rfl (by decide) rfl ?_
  refine q_aload_n (pc := 2) C 1 rfl dX5_count_2 rfl ?_
  obtain ⟨q1, hq1, h⟩ := q_bind h
  refine q_callV0 (pc := 3) (st := []) C (zX5_reads hq1) yi_X5_reads ml_RX5_129 kM_0 rfl (by decide) rfl (Nat.le_of_ble_eq_true rfl) dX5_count_3 ?_
  refine q_iload_n (pc := 6) C 2 rfl dX5_count_6 rfl ?_
  by_cases c2 : x1 = (0 : Int32)
  · have h := q_t c2 h
    refine q_tableIn (pc := 7) (off := 49) C 56 dX5_count_7 (by rw [c2]; decide) (by rw [c2]; decide) (by rw [c2]; decide) (by decide) ?_
    refine q_aload_n (pc := 56) C 1 rfl dX5_count_56 rfl ?_
    refine q_getI (pc := 57) C fl_RX5_103 kM_0 rfl dX5_count_57 ?_
    obtain rfl := Option.some.inj h
    exact q_iret (pc := 60) C dX5_count_60
  · have h := q_f c2 h
    by_cases c3 : x1 = (1 : Int32)
    · have h := q_t c3 h
      refine q_tableIn (pc := 7) (off := 54) C 61 dX5_count_7 (by rw [c3]; decide) (by rw [c3]; decide) (by rw [c3]; decide) (by decide) ?_
      refine q_aload_n (pc := 61) C 1 rfl dX5_count_61 rfl ?_
      refine q_getI (pc := 62) C fl_RX5_106 kM_0 rfl dX5_count_62 ?_
      obtain rfl := Option.some.inj h
      exact q_iret (pc := 65) C dX5_count_65
    · have h := q_f c3 h
      by_cases c4 : x1 = (2 : Int32)
      · have h := q_t c4 h
        refine q_tableIn (pc := 7) (off := 59) C 66 dX5_count_7 (by rw [c4]; decide) (by rw [c4]; decide) (by rw [c4]; decide) (by decide) ?_
        refine q_sub [1, 2] rfl ?_
        exact tX5_count_66 C _ _ _ h
      · have h := q_f c4 h
        by_cases c5 : x1 = (3 : Int32)
        · have h := q_t c5 h
          refine q_tableIn (pc := 7) (off := 59) C 66 dX5_count_7 (by rw [c5]; decide) (by rw [c5]; decide) (by rw [c5]; decide) (by decide) ?_
          refine q_sub [1, 2] rfl ?_
          exact tX5_count_66 C _ _ _ h
        · have h := q_f c5 h
          by_cases c6 : x1 = (4 : Int32)
          · have h := q_t c6 h
            refine q_tableIn (pc := 7) (off := 68) C 75 dX5_count_7 (by rw [c6]; decide) (by rw [c6]; decide) (by rw [c6]; decide) (by decide) ?_
            refine q_aload_n (pc := 75) C 1 rfl dX5_count_75 rfl ?_
            refine q_getI (pc := 76) C fl_RX5_139 kM_0 rfl dX5_count_76 ?_
            obtain rfl := Option.some.inj h
            exact q_iret (pc := 79) C dX5_count_79
          · have h := q_f c6 h
            by_cases c7 : x1 = (5 : Int32)
            · have h := q_t c7 h
              refine q_tableIn (pc := 7) (off := 73) C 80 dX5_count_7 (by rw [c7]; decide) (by rw [c7]; decide) (by rw [c7]; decide) (by decide) ?_
              refine q_aload_n (pc := 80) C 1 rfl dX5_count_80 rfl ?_
              refine q_getI (pc := 81) C fl_RX5_148 kM_0 rfl dX5_count_81 ?_
              obtain rfl := Option.some.inj h
              exact q_iret (pc := 84) C dX5_count_84
            · have h := q_f c7 h
              by_cases c8 : x1 = (6 : Int32)
              · have h := q_t c8 h
                refine q_tableIn (pc := 7) (off := 78) C 85 dX5_count_7 (by rw [c8]; decide) (by rw [c8]; decide) (by rw [c8]; decide) (by decide) ?_
                refine q_aload_n (pc := 85) C 1 rfl dX5_count_85 rfl ?_
                refine q_getI (pc := 86) C fl_RX5_248 kM_0 rfl dX5_count_86 ?_
                obtain rfl := Option.some.inj h
                exact q_iret (pc := 89) C dX5_count_89
              · have h := q_f c8 h
                by_cases c9 : x1 = (7 : Int32)
                · have h := q_t c9 h
                  refine q_tableIn (pc := 7) (off := 83) C 90 dX5_count_7 (by rw [c9]; decide) (by rw [c9]; decide) (by rw [c9]; decide) (by decide) ?_
                  refine q_iconst (pc := 90) C dX5_count_90 ci_0 ?_
                  refine q_istore_n (pc := 91) C dX5_count_91 rfl (by decide) rfl ?_
                  refine q_sub [2, 1, 0] rfl ?_
                  exact tX5_count_92 C _ _ _ _ h
                · have h := q_f c9 h
                  by_cases c10 : x1 = (8 : Int32)
                  · have h := q_t c10 h
                    refine q_tableIn (pc := 7) (off := 114) C 121 dX5_count_7 (by rw [c10]; decide) (by rw [c10]; decide) (by rw [c10]; decide) (by decide) ?_
                    refine q_aload_n (pc := 121) C 1 rfl dX5_count_121 rfl ?_
                    refine q_getI (pc := 122) C fl_RX5_65 kM_0 rfl dX5_count_122 ?_
                    obtain rfl := Option.some.inj h
                    exact q_iret (pc := 125) C dX5_count_125
                  · have h := q_f c10 h
                    have ec2 := lv_neT c2 ct_0
                    have ec3 := lv_neT c3 ct_1
                    have ec4 := lv_neT c4 ct_2
                    have ec5 := lv_neT c5 ct_3
                    have ec6 := lv_neT c6 ct_4
                    have ec7 := lv_neT c7 ct_5
                    have ec8 := lv_neT c8 ct_6
                    have ec9 := lv_neT c9 ct_7
                    have ec10 := lv_neT c10 ct_8
                    refine q_tableOut (pc := 7) C 126 dX5_count_7 (by omega) (by decide) ?_
                    refine q_bipush (pc := 126) C dX5_count_126 cb_m2 ?_
                    obtain rfl := Option.some.inj h
                    exact q_iret (pc := 128) C dX5_count_128
/-! X5_tellsTurns -/
theorem tX5_tellsTurns_131 {X : qX} {G : qG} (C : qC sM X G RX5 cX5_tellsTurns 8 7 (some .long))  (σ : qM) (x3 : Int32) (x4 : Int64) (res : (Int64 × qM))  (h : fX5_tellsTurns_131  σ x3 x4 = some res) : qY sM X G 8 (q_Q sM X G (some (.long res.1)) res.2) σ 131 [(0, .ref (q_ad G 0)), (3, .int x3), (4, .long x4)] [] := by
  unfold fX5_tellsTurns_131 at h
  refine q_ldc2 (pc := 131) C kn_RX5_280 dX5_tellsTurns_131 ?_
  refine q_lload (pc := 134) C 2 rfl dX5_tellsTurns_134 ?_
  refine q_lmul (pc := 136) C dX5_tellsTurns_136 ?_
  refine q_aload_n (pc := 137) C 0 rfl dX5_tellsTurns_137 rfl ?_
  refine q_iload_n (pc := 138) C 1 rfl dX5_tellsTurns_138 rfl ?_
  refine q_iconst (pc := 139) C dX5_tellsTurns_139 ci_0 ?_
  obtain ⟨q1, hq1, h⟩ := q_bind h
  refine q_callV1 (pc := 140) (st := [.long ((31 : Int64) * x4)]) C (zX5_placeOf hq1) yi_X5_placeOf ml_RX5_242 kM_0 rfl (by decide) rfl (Nat.le_of_ble_eq_true rfl) dX5_tellsTurns_140 ?_
  refine q_i2l (pc := 143) C dX5_tellsTurns_143 ?_
  refine q_ladd (pc := 144) C dX5_tellsTurns_144 ?_
  obtain rfl := Option.some.inj h
  exact q_lret (pc := 145) C dX5_tellsTurns_145
theorem tX5_tellsTurns_115 {X : qX} {G : qG} (C : qC sM X G RX5 cX5_tellsTurns 8 7 (some .long))  (σ : qM) (x3 : Int32) (x4 : Int64) (x7 : Int32) (res : (Int64 × qM))  (h : fX5_tellsTurns_115  σ x3 x4 x7 = some res) : qY sM X G 8 (q_Q sM X G (some (.long res.1)) res.2) σ 115 [(0, .ref (q_ad G 0)), (3, .int x3), (4, .long x4), (7, .int x7)] [] := by
  unfold fX5_tellsTurns_115 at h
  refine q_ldc2 (pc := 115) C kn_RX5_280 dX5_tellsTurns_115 ?_
  refine q_lload (pc := 118) C 2 rfl dX5_tellsTurns_118 ?_
  refine q_lmul (pc := 120) C dX5_tellsTurns_120 ?_
  refine q_iload (pc := 121) C 3 rfl dX5_tellsTurns_121 ?_
  refine q_iconst (pc := 123) C dX5_tellsTurns_123 ci_1 ?_
  obtain ⟨q1, hq1, h⟩ := q_bind h
  refine q_callS1 (pc := 124) (st := [.long ((31 : Int64) * x4)]) C (zX5_tells hq1) ys_X5_tells ml_RX5_233 rfl (by decide) rfl (Nat.le_of_ble_eq_true rfl) dX5_tellsTurns_124 ?_
  refine q_i2l (pc := 127) C dX5_tellsTurns_127 ?_
  refine q_ladd (pc := 128) C dX5_tellsTurns_128 ?_
  refine q_lstore (pc := 129) C dX5_tellsTurns_129 (by decide) rfl ?_
  refine q_sub [1, 2, 0] rfl ?_
  exact tX5_tellsTurns_131 C _ _ _ _ h
theorem tX5_tellsTurns_91 {X : qX} {G : qG} (C : qC sM X G RX5 cX5_tellsTurns 8 7 (some .long))  (σ : qM) (x3 : Int32) (x4 : Int64) (res : (Int64 × qM))  (h : fX5_tellsTurns_91  σ x3 x4 = some res) : qY sM X G 8 (q_Q sM X G (some (.long res.1)) res.2) σ 91 [(0, .ref (q_ad G 0)), (3, .int x3), (4, .long x4)] [] := by
  unfold fX5_tellsTurns_91 at h
  refine q_aload_n (pc := 91) C 0 rfl dX5_tellsTurns_91 rfl ?_
  refine q_iload_n (pc := 92) C 1 rfl dX5_tellsTurns_92 rfl ?_
  refine q_iconst (pc := 93) C dX5_tellsTurns_93 ci_3 ?_
  obtain ⟨q1, hq1, h⟩ := q_bind h
  refine q_callV1 (pc := 94) (st := []) C (zX5_strikeOf hq1) yi_X5_strikeOf ml_RX5_236 kM_0 rfl (by decide) rfl (Nat.le_of_ble_eq_true rfl) dX5_tellsTurns_94 ?_
  refine q_istore (pc := 97) C dX5_tellsTurns_97 (by decide) rfl ?_
  refine q_ldc2 (pc := 99) C kn_RX5_280 dX5_tellsTurns_99 ?_
  refine q_lload (pc := 102) C 3 rfl dX5_tellsTurns_102 ?_
  refine q_lmul (pc := 104) C dX5_tellsTurns_104 ?_
  refine q_iload (pc := 105) C 0 rfl dX5_tellsTurns_105 ?_
  refine q_iconst (pc := 107) C dX5_tellsTurns_107 ci_0 ?_
  obtain ⟨q2, hq2, h⟩ := q_bind h
  refine q_callS1 (pc := 108) (st := [.long ((31 : Int64) * x4)]) C (zX5_tells hq2) ys_X5_tells ml_RX5_233 rfl (by decide) rfl (Nat.le_of_ble_eq_true rfl) dX5_tellsTurns_108 ?_
  refine q_i2l (pc := 111) C dX5_tellsTurns_111 ?_
  refine q_ladd (pc := 112) C dX5_tellsTurns_112 ?_
  refine q_lstore (pc := 113) C dX5_tellsTurns_113 (by decide) rfl ?_
  refine q_sub [2, 3, 0, 1] rfl ?_
  exact tX5_tellsTurns_115 C _ _ _ _ _ h
theorem tX5_tellsTurns_75 {X : qX} {G : qG} (C : qC sM X G RX5 cX5_tellsTurns 8 7 (some .long))  (σ : qM) (x3 : Int32) (x4 : Int64) (x6 : Int32) (res : (Int64 × qM))  (h : fX5_tellsTurns_75  σ x3 x4 x6 = some res) : qY sM X G 8 (q_Q sM X G (some (.long res.1)) res.2) σ 75 [(0, .ref (q_ad G 0)), (3, .int x3), (4, .long x4), (6, .int x6)] [] := by
  unfold fX5_tellsTurns_75 at h
  refine q_ldc2 (pc := 75) C kn_RX5_280 dX5_tellsTurns_75 ?_
  refine q_lload (pc := 78) C 2 rfl dX5_tellsTurns_78 ?_
  refine q_lmul (pc := 80) C dX5_tellsTurns_80 ?_
  refine q_iload (pc := 81) C 3 rfl dX5_tellsTurns_81 ?_
  refine q_iconst (pc := 83) C dX5_tellsTurns_83 ci_1 ?_
  obtain ⟨q1, hq1, h⟩ := q_bind h
  refine q_callS1 (pc := 84) (st := [.long ((31 : Int64) * x4)]) C (zX5_tells hq1) ys_X5_tells ml_RX5_233 rfl (by decide) rfl (Nat.le_of_ble_eq_true rfl) dX5_tellsTurns_84 ?_
  refine q_i2l (pc := 87) C dX5_tellsTurns_87 ?_
  refine q_ladd (pc := 88) C dX5_tellsTurns_88 ?_
  refine q_lstore (pc := 89) C dX5_tellsTurns_89 (by decide) rfl ?_
  refine q_sub [1, 2, 0] rfl ?_
  exact tX5_tellsTurns_91 C _ _ _ _ h
theorem tX5_tellsTurns_50 {X : qX} {G : qG} (C : qC sM X G RX5 cX5_tellsTurns 8 7 (some .long))  (σ : qM) (x3 : Int32) (x4 : Int64) (res : (Int64 × qM))  (h : fX5_tellsTurns_50  σ x3 x4 = some res) : qY sM X G 8 (q_Q sM X G (some (.long res.1)) res.2) σ 50 [(0, .ref (q_ad G 0)), (3, .int x3), (4, .long x4)] [] := by
  unfold fX5_tellsTurns_50 at h
  refine q_aload_n (pc := 50) C 0 rfl dX5_tellsTurns_50 rfl ?_
  refine q_iload_n (pc := 51) C 1 rfl dX5_tellsTurns_51 rfl ?_
  refine q_iconst (pc := 52) C dX5_tellsTurns_52 ci_1 ?_
  refine q_iconst (pc := 53) C dX5_tellsTurns_53 ci_2 ?_
  obtain ⟨q1, hq1, h⟩ := q_bind h
  refine q_callV1 (pc := 54) (st := []) C (zX5_strainOf hq1) yi_X5_strainOf ml_RX5_230 kM_0 rfl (by decide) rfl (Nat.le_of_ble_eq_true rfl) dX5_tellsTurns_54 ?_
  refine q_istore (pc := 57) C dX5_tellsTurns_57 (by decide) rfl ?_
  refine q_ldc2 (pc := 59) C kn_RX5_280 dX5_tellsTurns_59 ?_
  refine q_lload (pc := 62) C 3 rfl dX5_tellsTurns_62 ?_
  refine q_lmul (pc := 64) C dX5_tellsTurns_64 ?_
  refine q_iload (pc := 65) C 0 rfl dX5_tellsTurns_65 ?_
  refine q_iconst (pc := 67) C dX5_tellsTurns_67 ci_0 ?_
  obtain ⟨q2, hq2, h⟩ := q_bind h
  refine q_callS1 (pc := 68) (st := [.long ((31 : Int64) * x4)]) C (zX5_tells hq2) ys_X5_tells ml_RX5_233 rfl (by decide) rfl (Nat.le_of_ble_eq_true rfl) dX5_tellsTurns_68 ?_
  refine q_i2l (pc := 71) C dX5_tellsTurns_71 ?_
  refine q_ladd (pc := 72) C dX5_tellsTurns_72 ?_
  refine q_lstore (pc := 73) C dX5_tellsTurns_73 (by decide) rfl ?_
  refine q_sub [2, 3, 0, 1] rfl ?_
  exact tX5_tellsTurns_75 C _ _ _ _ _ h
theorem tX5_tellsTurns_29 {X : qX} {G : qG} (C : qC sM X G RX5 cX5_tellsTurns 8 7 (some .long)) (k6 : qM → Int32 → Int64 → Int32 → Option (Int64 × qM)) (hk6 : ∀ (σ : qM) (x3 : Int32) (x4 : Int64) (x6 : Int32) (res : (Int64 × qM)), k6 σ x3 x4 x6 = some res → qY sM X G 8 (q_Q sM X G (some (.long res.1)) res.2) σ 6 [(0, .ref (q_ad G 0)), (3, .int x3), (4, .long x4), (6, .int x6)] []) (σ : qM) (x3 : Int32) (x4 : Int64) (x6 : Int32) (res : (Int64 × qM))  (h : fX5_tellsTurns_29 k6 σ x3 x4 x6 = some res) : qY sM X G 8 (q_Q sM X G (some (.long res.1)) res.2) σ 29 [(0, .ref (q_ad G 0)), (3, .int x3), (4, .long x4), (6, .int x6)] [] := by
  unfold fX5_tellsTurns_29 at h
  refine q_inc (pc := 29) C 3 rfl ci_1 dX5_tellsTurns_29 (by decide) rfl ?_
  refine q_goto (pc := 32) C 6 dX5_tellsTurns_32 (by decide) ?_
  refine q_sub [1, 2, 3, 0] rfl ?_
  exact hk6 _ _ _ _ _ h
theorem uX5_tellsTurns_6 {X : qX} {G : qG} (C : qC sM X G RX5 cX5_tellsTurns 8 7 (some .long)) (k6 : qM → Int32 → Int64 → Int32 → Option (Int64 × qM)) (hk6 : ∀ (σ : qM) (x3 : Int32) (x4 : Int64) (x6 : Int32) (res : (Int64 × qM)), k6 σ x3 x4 x6 = some res → qY sM X G 8 (q_Q sM X G (some (.long res.1)) res.2) σ 6 [(0, .ref (q_ad G 0)), (3, .int x3), (4, .long x4), (6, .int x6)] []) (σ : qM) (x3 : Int32) (x4 : Int64) (x6 : Int32) (res : (Int64 × qM))  (h : bX5_tellsTurns_6 k6 σ x3 x4 x6 = some res) : qY sM X G 8 (q_Q sM X G (some (.long res.1)) res.2) σ 6 [(0, .ref (q_ad G 0)), (3, .int x3), (4, .long x4), (6, .int x6)] [] := by
  unfold bX5_tellsTurns_6 at h
  refine q_iload (pc := 6) C 3 rfl dX5_tellsTurns_6 ?_
  refine q_iconst (pc := 8) C dX5_tellsTurns_8 ci_3 ?_
  refine q_ic_ge (pc := 9) C 35 dX5_tellsTurns_9 (by decide) (fun c1 => ?_) (fun c1 => ?_)
  · have h := q_t c1 h
    refine q_ldc2 (pc := 35) C kn_RX5_280 dX5_tellsTurns_35 ?_
    refine q_lload (pc := 38) C 2 rfl dX5_tellsTurns_38 ?_
    refine q_lmul (pc := 40) C dX5_tellsTurns_40 ?_
    refine q_aload_n (pc := 41) C 0 rfl dX5_tellsTurns_41 rfl ?_
    refine q_iload_n (pc := 42) C 1 rfl dX5_tellsTurns_42 rfl ?_
    obtain ⟨q2, hq2, h⟩ := q_bind h
    refine q_callV1 (pc := 43) (st := [.long ((31 : Int64) * x4)]) C (zX5_clashOf hq2) yi_X5_clashOf ml_RX5_218 kM_0 rfl (by decide) rfl (Nat.le_of_ble_eq_true rfl) dX5_tellsTurns_43 ?_
    refine q_i2l (pc := 46) C dX5_tellsTurns_46 ?_
    refine q_ladd (pc := 47) C dX5_tellsTurns_47 ?_
    refine q_lstore (pc := 48) C dX5_tellsTurns_48 (by decide) rfl ?_
    refine q_sub [1, 2, 0] rfl ?_
    exact tX5_tellsTurns_50 C _ _ _ _ h
  · have h := q_f c1 h
    refine q_ldc2 (pc := 12) C kn_RX5_280 dX5_tellsTurns_12 ?_
    refine q_lload (pc := 15) C 2 rfl dX5_tellsTurns_15 ?_
    refine q_lmul (pc := 17) C dX5_tellsTurns_17 ?_
    refine q_aload_n (pc := 18) C 0 rfl dX5_tellsTurns_18 rfl ?_
    refine q_iload_n (pc := 19) C 1 rfl dX5_tellsTurns_19 rfl ?_
    refine q_iload (pc := 20) C 3 rfl dX5_tellsTurns_20 ?_
    obtain ⟨q3, hq3, h⟩ := q_bind h
    refine q_callV1 (pc := 22) (st := [.long ((31 : Int64) * x4)]) C (zX5_readingOf hq3) yi_X5_readingOf ml_RX5_200 kM_0 rfl (by decide) rfl (Nat.le_of_ble_eq_true rfl) dX5_tellsTurns_22 ?_
    refine q_i2l (pc := 25) C dX5_tellsTurns_25 ?_
    refine q_ladd (pc := 26) C dX5_tellsTurns_26 ?_
    refine q_lstore (pc := 27) C dX5_tellsTurns_27 (by decide) rfl ?_
    refine q_sub [1, 2, 0, 3] rfl ?_
    exact tX5_tellsTurns_29 C k6 hk6 _ _ _ _ _ h
theorem tX5_tellsTurns_6 {X : qX} {G : qG} (C : qC sM X G RX5 cX5_tellsTurns 8 7 (some .long))  (σ : qM) (x3 : Int32) (x4 : Int64) (x6 : Int32) (res : (Int64 × qM))  (h : fX5_tellsTurns_6  σ x3 x4 x6 = some res) : qY sM X G 8 (q_Q sM X G (some (.long res.1)) res.2) σ 6 [(0, .ref (q_ad G 0)), (3, .int x3), (4, .long x4), (6, .int x6)] [] := by
  have key : ∀ (n : Nat) (σ : qM) (x3 : Int32) (x4 : Int64) (x6 : Int32) (res : (Int64 × qM)) , qlp (fun _ _ _ _ => none) (bX5_tellsTurns_6 ) n σ x3 x4 x6 = some res → qY sM X G 8 (q_Q sM X G (some (.long res.1)) res.2) σ 6 [(0, .ref (q_ad G 0)), (3, .int x3), (4, .long x4), (6, .int x6)] [] := by
    intro n
    induction n with
    | zero => intro σ x3 x4 x6 res h; cases h
    | succ n ih => intro σ x3 x4 x6 res h; exact uX5_tellsTurns_6 C  (qlp (fun _ _ _ _ => none) (bX5_tellsTurns_6 ) n) (fun σ x3 x4 x6 res h => ih σ x3 x4 x6 res h) σ x3 x4 x6 res h
  exact key qFU σ x3 x4 x6 res h
theorem zX5_tellsTurns {G : qG} {l : Launch} {σ : qM} {x1 : Int64} {x3 : Int32} {res : (Int64 × qM)}  (h : fX5_tellsTurns σ x1 x3 = some res) : qCon sM G l yX5_tellsTurns cX5_tellsTurns 8 (some .long) 7 [.ref (q_ad G 0), .long x1, .int x3] σ (some (.long res.1)) res.2 := by
  refine qCon.mkF (lv := [(0, .ref (q_ad G 0)), (1, .long x1), (3, .int x3)]) (plainFor_of_name (by decide)) (Nat.le_of_ble_eq_true rfl) rfl (fun X hX C => ?_)
  unfold fX5_tellsTurns at h
  refine q_lload_n (pc := 0) C 1 rfl dX5_tellsTurns_0 rfl ?_
  refine q_lstore (pc := 1) C dX5_tellsTurns_1 (by decide) rfl ?_
  refine q_iconst (pc := 3) C dX5_tellsTurns_3 ci_0 ?_
  refine q_istore (pc := 4) C dX5_tellsTurns_4 (by decide) rfl ?_
  refine q_sub [2, 4, 1, 0] rfl ?_
  exact tX5_tellsTurns_6 C _ _ _ _ _ h
/-! X5_tellsLaw -/
theorem tX5_tellsLaw_80 {X : qX} {G : qG} (C : qC sM X G RX5 cX5_tellsLaw 6 8 (some .long))  (σ : qM) (x3 : Int32) (x4 : Int64) (res : (Int64 × qM))  (h : fX5_tellsLaw_80  σ x3 x4 = some res) : qY sM X G 6 (q_Q sM X G (some (.long res.1)) res.2) σ 80 [(0, .ref (q_ad G 0)), (3, .int x3), (4, .long x4)] [] := by
  unfold fX5_tellsLaw_80 at h
  refine q_ldc2 (pc := 80) C kn_RX5_280 dX5_tellsLaw_80 ?_
  refine q_lload (pc := 83) C 2 rfl dX5_tellsLaw_83 ?_
  refine q_lmul (pc := 85) C dX5_tellsLaw_85 ?_
  refine q_aload_n (pc := 86) C 0 rfl dX5_tellsLaw_86 rfl ?_
  refine q_bipush (pc := 87) C dX5_tellsLaw_87 cb_7 ?_
  refine q_bipush (pc := 89) C dX5_tellsLaw_89 cb_20 ?_
  refine q_iload_n (pc := 91) C 1 rfl dX5_tellsLaw_91 rfl ?_
  obtain ⟨q1, hq1, h⟩ := q_bind h
  refine q_callV1 (pc := 92) (st := [.long ((31 : Int64) * x4)]) C (zX5_morningsOf hq1) yi_X5_morningsOf ml_RX5_277 kM_0 rfl (by decide) rfl (Nat.le_of_ble_eq_true rfl) dX5_tellsLaw_92 ?_
  refine q_i2l (pc := 95) C dX5_tellsLaw_95 ?_
  refine q_ladd (pc := 96) C dX5_tellsLaw_96 ?_
  obtain rfl := Option.some.inj h
  exact q_lret (pc := 97) C dX5_tellsLaw_97
theorem tX5_tellsLaw_63 {X : qX} {G : qG} (C : qC sM X G RX5 cX5_tellsLaw 6 8 (some .long))  (σ : qM) (x3 : Int32) (x4 : Int64) (res : (Int64 × qM))  (h : fX5_tellsLaw_63  σ x3 x4 = some res) : qY sM X G 6 (q_Q sM X G (some (.long res.1)) res.2) σ 63 [(0, .ref (q_ad G 0)), (3, .int x3), (4, .long x4)] [] := by
  unfold fX5_tellsLaw_63 at h
  refine q_ldc2 (pc := 63) C kn_RX5_280 dX5_tellsLaw_63 ?_
  refine q_lload (pc := 66) C 2 rfl dX5_tellsLaw_66 ?_
  refine q_lmul (pc := 68) C dX5_tellsLaw_68 ?_
  refine q_aload_n (pc := 69) C 0 rfl dX5_tellsLaw_69 rfl ?_
  refine q_iconst (pc := 70) C dX5_tellsLaw_70 ci_5 ?_
  refine q_iconst (pc := 71) C dX5_tellsLaw_71 ci_1 ?_
  refine q_iload_n (pc := 72) C 1 rfl dX5_tellsLaw_72 rfl ?_
  refine q_iconst (pc := 73) C dX5_tellsLaw_73 ci_1 ?_
  obtain ⟨q1, hq1, h⟩ := q_bind h
  refine q_callV1 (pc := 74) (st := [.long ((31 : Int64) * x4)]) C (zX5_sinksOf hq1) yi_X5_sinksOf ml_RX5_266 kM_0 rfl (by decide) rfl (Nat.le_of_ble_eq_true rfl) dX5_tellsLaw_74 ?_
  refine q_ladd (pc := 77) C dX5_tellsLaw_77 ?_
  refine q_lstore (pc := 78) C dX5_tellsLaw_78 (by decide) rfl ?_
  refine q_sub [1, 2, 0] rfl ?_
  exact tX5_tellsLaw_80 C _ _ _ _ h
theorem tX5_tellsLaw_46 {X : qX} {G : qG} (C : qC sM X G RX5 cX5_tellsLaw 6 8 (some .long))  (σ : qM) (x3 : Int32) (x4 : Int64) (res : (Int64 × qM))  (h : fX5_tellsLaw_46  σ x3 x4 = some res) : qY sM X G 6 (q_Q sM X G (some (.long res.1)) res.2) σ 46 [(0, .ref (q_ad G 0)), (3, .int x3), (4, .long x4)] [] := by
  unfold fX5_tellsLaw_46 at h
  refine q_ldc2 (pc := 46) C kn_RX5_280 dX5_tellsLaw_46 ?_
  refine q_lload (pc := 49) C 2 rfl dX5_tellsLaw_49 ?_
  refine q_lmul (pc := 51) C dX5_tellsLaw_51 ?_
  refine q_aload_n (pc := 52) C 0 rfl dX5_tellsLaw_52 rfl ?_
  refine q_iconst (pc := 53) C dX5_tellsLaw_53 ci_5 ?_
  refine q_iconst (pc := 54) C dX5_tellsLaw_54 ci_1 ?_
  refine q_iload_n (pc := 55) C 1 rfl dX5_tellsLaw_55 rfl ?_
  refine q_iconst (pc := 56) C dX5_tellsLaw_56 ci_0 ?_
  obtain ⟨q1, hq1, h⟩ := q_bind h
  refine q_callV1 (pc := 57) (st := [.long ((31 : Int64) * x4)]) C (zX5_sinksOf hq1) yi_X5_sinksOf ml_RX5_266 kM_0 rfl (by decide) rfl (Nat.le_of_ble_eq_true rfl) dX5_tellsLaw_57 ?_
  refine q_ladd (pc := 60) C dX5_tellsLaw_60 ?_
  refine q_lstore (pc := 61) C dX5_tellsLaw_61 (by decide) rfl ?_
  refine q_sub [1, 2, 0] rfl ?_
  exact tX5_tellsLaw_63 C _ _ _ _ h
theorem tX5_tellsLaw_30 {X : qX} {G : qG} (C : qC sM X G RX5 cX5_tellsLaw 6 8 (some .long))  (σ : qM) (x3 : Int32) (x4 : Int64) (res : (Int64 × qM))  (h : fX5_tellsLaw_30  σ x3 x4 = some res) : qY sM X G 6 (q_Q sM X G (some (.long res.1)) res.2) σ 30 [(0, .ref (q_ad G 0)), (3, .int x3), (4, .long x4)] [] := by
  unfold fX5_tellsLaw_30 at h
  refine q_ldc2 (pc := 30) C kn_RX5_280 dX5_tellsLaw_30 ?_
  refine q_lload (pc := 33) C 2 rfl dX5_tellsLaw_33 ?_
  refine q_lmul (pc := 35) C dX5_tellsLaw_35 ?_
  refine q_aload_n (pc := 36) C 0 rfl dX5_tellsLaw_36 rfl ?_
  refine q_iload_n (pc := 37) C 1 rfl dX5_tellsLaw_37 rfl ?_
  refine q_iconst (pc := 38) C dX5_tellsLaw_38 ci_1 ?_
  obtain ⟨q1, hq1, h⟩ := q_bind h
  refine q_callV1 (pc := 39) (st := [.long ((31 : Int64) * x4)]) C (zX5_sidesOf hq1) yi_X5_sidesOf ml_RX5_245 kM_0 rfl (by decide) rfl (Nat.le_of_ble_eq_true rfl) dX5_tellsLaw_39 ?_
  refine q_i2l (pc := 42) C dX5_tellsLaw_42 ?_
  refine q_ladd (pc := 43) C dX5_tellsLaw_43 ?_
  refine q_lstore (pc := 44) C dX5_tellsLaw_44 (by decide) rfl ?_
  refine q_sub [1, 2, 0] rfl ?_
  exact tX5_tellsLaw_46 C _ _ _ _ h
theorem tX5_tellsLaw_14 {X : qX} {G : qG} (C : qC sM X G RX5 cX5_tellsLaw 6 8 (some .long))  (σ : qM) (x3 : Int32) (x4 : Int64) (res : (Int64 × qM))  (h : fX5_tellsLaw_14  σ x3 x4 = some res) : qY sM X G 6 (q_Q sM X G (some (.long res.1)) res.2) σ 14 [(0, .ref (q_ad G 0)), (3, .int x3), (4, .long x4)] [] := by
  unfold fX5_tellsLaw_14 at h
  refine q_ldc2 (pc := 14) C kn_RX5_280 dX5_tellsLaw_14 ?_
  refine q_lload (pc := 17) C 2 rfl dX5_tellsLaw_17 ?_
  refine q_lmul (pc := 19) C dX5_tellsLaw_19 ?_
  refine q_aload_n (pc := 20) C 0 rfl dX5_tellsLaw_20 rfl ?_
  refine q_iload_n (pc := 21) C 1 rfl dX5_tellsLaw_21 rfl ?_
  refine q_iconst (pc := 22) C dX5_tellsLaw_22 ci_0 ?_
  obtain ⟨q1, hq1, h⟩ := q_bind h
  refine q_callV1 (pc := 23) (st := [.long ((31 : Int64) * x4)]) C (zX5_sidesOf hq1) yi_X5_sidesOf ml_RX5_245 kM_0 rfl (by decide) rfl (Nat.le_of_ble_eq_true rfl) dX5_tellsLaw_23 ?_
  refine q_i2l (pc := 26) C dX5_tellsLaw_26 ?_
  refine q_ladd (pc := 27) C dX5_tellsLaw_27 ?_
  refine q_lstore (pc := 28) C dX5_tellsLaw_28 (by decide) rfl ?_
  refine q_sub [1, 2, 0] rfl ?_
  exact tX5_tellsLaw_30 C _ _ _ _ h
theorem zX5_tellsLaw {G : qG} {l : Launch} {σ : qM} {x1 : Int64} {x3 : Int32} {res : (Int64 × qM)}  (h : fX5_tellsLaw σ x1 x3 = some res) : qCon sM G l yX5_tellsLaw cX5_tellsLaw 6 (some .long) 8 [.ref (q_ad G 0), .long x1, .int x3] σ (some (.long res.1)) res.2 := by
  refine qCon.mkF (lv := [(0, .ref (q_ad G 0)), (1, .long x1), (3, .int x3)]) (plainFor_of_name (by decide)) (Nat.le_of_ble_eq_true rfl) rfl (fun X hX C => ?_)
  unfold fX5_tellsLaw at h
  refine q_ldc2 (pc := 0) C kn_RX5_280 dX5_tellsLaw_0 ?_
  refine q_lload_n (pc := 3) C 1 rfl dX5_tellsLaw_3 rfl ?_
  refine q_lmul (pc := 4) C dX5_tellsLaw_4 ?_
  refine q_aload_n (pc := 5) C 0 rfl dX5_tellsLaw_5 rfl ?_
  refine q_iload_n (pc := 6) C 2 rfl dX5_tellsLaw_6 rfl ?_
  obtain ⟨q1, hq1, h⟩ := q_bind h
  refine q_callV1 (pc := 7) (st := [.long ((31 : Int64) * x1)]) C (zX5_freeOf hq1) yi_X5_freeOf ml_RX5_215 kM_0 rfl (by decide) rfl (Nat.le_of_ble_eq_true rfl) dX5_tellsLaw_7 ?_
  refine q_i2l (pc := 10) C dX5_tellsLaw_10 ?_
  refine q_ladd (pc := 11) C dX5_tellsLaw_11 ?_
  refine q_lstore (pc := 12) C dX5_tellsLaw_12 (by decide) rfl ?_
  refine q_sub [1, 3, 0] rfl ?_
  exact tX5_tellsLaw_14 C _ _ _ _ h
/-! X5_digest -/
theorem tX5_digest_25 {X : qX} {G : qG} (C : qC sM X G RX5 cX5_digest 5 9 (some .long)) (k6 : qM → Int64 → Int32 → Option (Int64 × qM)) (hk6 : ∀ (σ : qM) (x1 : Int64) (x3 : Int32) (res : (Int64 × qM)), k6 σ x1 x3 = some res → qY sM X G 5 (q_Q sM X G (some (.long res.1)) res.2) σ 6 [(0, .ref (q_ad G 0)), (1, .long x1), (3, .int x3)] []) (σ : qM) (x1 : Int64) (x3 : Int32) (res : (Int64 × qM))  (h : fX5_digest_25 k6 σ x1 x3 = some res) : qY sM X G 5 (q_Q sM X G (some (.long res.1)) res.2) σ 25 [(0, .ref (q_ad G 0)), (1, .long x1), (3, .int x3)] [] := by
  unfold fX5_digest_25 at h
  refine q_inc (pc := 25) C 2 rfl ci_1 dX5_digest_25 (by decide) rfl ?_
  refine q_goto (pc := 28) C 6 dX5_digest_28 (by decide) ?_
  refine q_sub [1, 2, 0] rfl ?_
  exact hk6 _ _ _ _ h
theorem tX5_digest_145 {X : qX} {G : qG} (C : qC sM X G RX5 cX5_digest 5 9 (some .long)) (k109 : qM → Int64 → Int32 → Option (Int64 × qM)) (hk109 : ∀ (σ : qM) (x1 : Int64) (x3 : Int32) (res : (Int64 × qM)), k109 σ x1 x3 = some res → qY sM X G 5 (q_Q sM X G (some (.long res.1)) res.2) σ 109 [(0, .ref (q_ad G 0)), (1, .long x1), (3, .int x3)] []) (k120 : qM → Int64 → Int32 → Int32 → Option (Int64 × qM)) (hk120 : ∀ (σ : qM) (x1 : Int64) (x3 : Int32) (x4 : Int32) (res : (Int64 × qM)), k120 σ x1 x3 x4 = some res → qY sM X G 5 (q_Q sM X G (some (.long res.1)) res.2) σ 120 [(0, .ref (q_ad G 0)), (1, .long x1), (3, .int x3), (4, .int x4)] []) (σ : qM) (x1 : Int64) (x3 : Int32) (x4 : Int32) (res : (Int64 × qM))  (h : fX5_digest_145 k109 k120 σ x1 x3 x4 = some res) : qY sM X G 5 (q_Q sM X G (some (.long res.1)) res.2) σ 145 [(0, .ref (q_ad G 0)), (1, .long x1), (3, .int x3), (4, .int x4)] [] := by
  unfold fX5_digest_145 at h
  refine q_inc (pc := 145) C 3 rfl ci_1 dX5_digest_145 (by decide) rfl ?_
  refine q_goto (pc := 148) C 120 dX5_digest_148 (by decide) ?_
  refine q_sub [1, 2, 3, 0] rfl ?_
  exact hk120 _ _ _ _ _ h
theorem uX5_digest_120 {X : qX} {G : qG} (C : qC sM X G RX5 cX5_digest 5 9 (some .long)) (k109 : qM → Int64 → Int32 → Option (Int64 × qM)) (hk109 : ∀ (σ : qM) (x1 : Int64) (x3 : Int32) (res : (Int64 × qM)), k109 σ x1 x3 = some res → qY sM X G 5 (q_Q sM X G (some (.long res.1)) res.2) σ 109 [(0, .ref (q_ad G 0)), (1, .long x1), (3, .int x3)] []) (k120 : qM → Int64 → Int32 → Int32 → Option (Int64 × qM)) (hk120 : ∀ (σ : qM) (x1 : Int64) (x3 : Int32) (x4 : Int32) (res : (Int64 × qM)), k120 σ x1 x3 x4 = some res → qY sM X G 5 (q_Q sM X G (some (.long res.1)) res.2) σ 120 [(0, .ref (q_ad G 0)), (1, .long x1), (3, .int x3), (4, .int x4)] []) (σ : qM) (x1 : Int64) (x3 : Int32) (x4 : Int32) (res : (Int64 × qM))  (h : bX5_digest_120 k109 k120 σ x1 x3 x4 = some res) : qY sM X G 5 (q_Q sM X G (some (.long res.1)) res.2) σ 120 [(0, .ref (q_ad G 0)), (1, .long x1), (3, .int x3), (4, .int x4)] [] := by
  unfold bX5_digest_120 at h
  refine q_iload (pc := 120) C 3 rfl dX5_digest_120 ?_
  refine q_iconst (pc := 122) C dX5_digest_122 ci_5 ?_
  refine q_ic_ge (pc := 123) C 151 dX5_digest_123 (by decide) (fun c1 => ?_) (fun c1 => ?_)
  · have h := q_t c1 h
    refine q_inc (pc := 151) C 2 rfl ci_1 dX5_digest_151 (by decide) rfl ?_
    refine q_goto (pc := 154) C 109 dX5_digest_154 (by decide) ?_
    refine q_sub [1, 2, 0] rfl ?_
    exact hk109 _ _ _ _ h
  · have h := q_f c1 h
    refine q_ldc2 (pc := 126) C kn_RX5_280 dX5_digest_126 ?_
    refine q_lload_n (pc := 129) C 1 rfl dX5_digest_129 rfl ?_
    refine q_lmul (pc := 130) C dX5_digest_130 ?_
    refine q_aload_n (pc := 131) C 0 rfl dX5_digest_131 rfl ?_
    refine q_getR (pc := 132) (t := 8) C fl_RX5_31 kM_0 rfl rM_0_11 dX5_digest_132 ?_
    refine q_iconst (pc := 135) C dX5_digest_135 ci_5 ?_
    refine q_iload_n (pc := 136) C 2 rfl dX5_digest_136 rfl ?_
    refine q_imul (pc := 137) C dX5_digest_137 ?_
    refine q_iload (pc := 138) C 3 rfl dX5_digest_138 ?_
    refine q_iadd (pc := 140) C dX5_digest_140 ?_
    obtain ⟨g2, h⟩ := q_guard h
    refine q_iald (pc := 141) C kM_8 lM_8 g2 dX5_digest_141 ?_
    refine q_i2l (pc := 142) C dX5_digest_142 ?_
    refine q_ladd (pc := 143) C dX5_digest_143 ?_
    refine q_lstore_n (pc := 144) C dX5_digest_144 rfl (by decide) rfl ?_
    refine q_sub [1, 0, 2, 3] rfl ?_
    exact tX5_digest_145 C k109 hk109 k120 hk120 _ _ _ _ _ h
theorem tX5_digest_120 {X : qX} {G : qG} (C : qC sM X G RX5 cX5_digest 5 9 (some .long)) (k109 : qM → Int64 → Int32 → Option (Int64 × qM)) (hk109 : ∀ (σ : qM) (x1 : Int64) (x3 : Int32) (res : (Int64 × qM)), k109 σ x1 x3 = some res → qY sM X G 5 (q_Q sM X G (some (.long res.1)) res.2) σ 109 [(0, .ref (q_ad G 0)), (1, .long x1), (3, .int x3)] []) (σ : qM) (x1 : Int64) (x3 : Int32) (x4 : Int32) (res : (Int64 × qM))  (h : fX5_digest_120 k109 σ x1 x3 x4 = some res) : qY sM X G 5 (q_Q sM X G (some (.long res.1)) res.2) σ 120 [(0, .ref (q_ad G 0)), (1, .long x1), (3, .int x3), (4, .int x4)] [] := by
  have key : ∀ (n : Nat) (σ : qM) (x1 : Int64) (x3 : Int32) (x4 : Int32) (res : (Int64 × qM)) , qlp (fun _ _ _ _ => none) (bX5_digest_120 k109) n σ x1 x3 x4 = some res → qY sM X G 5 (q_Q sM X G (some (.long res.1)) res.2) σ 120 [(0, .ref (q_ad G 0)), (1, .long x1), (3, .int x3), (4, .int x4)] [] := by
    intro n
    induction n with
    | zero => intro σ x1 x3 x4 res h; cases h
    | succ n ih => intro σ x1 x3 x4 res h; exact uX5_digest_120 C k109 hk109 (qlp (fun _ _ _ _ => none) (bX5_digest_120 k109) n) (fun σ x1 x3 x4 res h => ih σ x1 x3 x4 res h) σ x1 x3 x4 res h
  exact key qFU σ x1 x3 x4 res h
theorem tX5_digest_255 {X : qX} {G : qG} (C : qC sM X G RX5 cX5_digest 5 9 (some .long)) (k237 : qM → Int64 → Int32 → Option (Int64 × qM)) (hk237 : ∀ (σ : qM) (x1 : Int64) (x3 : Int32) (res : (Int64 × qM)), k237 σ x1 x3 = some res → qY sM X G 5 (q_Q sM X G (some (.long res.1)) res.2) σ 237 [(0, .ref (q_ad G 0)), (1, .long x1), (3, .int x3)] []) (σ : qM) (x1 : Int64) (x3 : Int32) (res : (Int64 × qM))  (h : fX5_digest_255 k237 σ x1 x3 = some res) : qY sM X G 5 (q_Q sM X G (some (.long res.1)) res.2) σ 255 [(0, .ref (q_ad G 0)), (1, .long x1), (3, .int x3)] [] := by
  unfold fX5_digest_255 at h
  refine q_inc (pc := 255) C 2 rfl ci_1 dX5_digest_255 (by decide) rfl ?_
  refine q_goto (pc := 258) C 237 dX5_digest_258 (by decide) ?_
  refine q_sub [1, 2, 0] rfl ?_
  exact hk237 _ _ _ _ h
theorem uX5_digest_237 {X : qX} {G : qG} (C : qC sM X G RX5 cX5_digest 5 9 (some .long)) (k237 : qM → Int64 → Int32 → Option (Int64 × qM)) (hk237 : ∀ (σ : qM) (x1 : Int64) (x3 : Int32) (res : (Int64 × qM)), k237 σ x1 x3 = some res → qY sM X G 5 (q_Q sM X G (some (.long res.1)) res.2) σ 237 [(0, .ref (q_ad G 0)), (1, .long x1), (3, .int x3)] []) (σ : qM) (x1 : Int64) (x3 : Int32) (res : (Int64 × qM))  (h : bX5_digest_237 k237 σ x1 x3 = some res) : qY sM X G 5 (q_Q sM X G (some (.long res.1)) res.2) σ 237 [(0, .ref (q_ad G 0)), (1, .long x1), (3, .int x3)] [] := by
  unfold bX5_digest_237 at h
  refine q_iload_n (pc := 237) C 2 rfl dX5_digest_237 rfl ?_
  refine q_iconst (pc := 238) C dX5_digest_238 ci_3 ?_
  refine q_ic_ge (pc := 239) C 261 dX5_digest_239 (by decide) (fun c1 => ?_) (fun c1 => ?_)
  · have h := q_t c1 h
    refine q_lload_n (pc := 261) C 1 rfl dX5_digest_261 rfl ?_
    obtain rfl := Option.some.inj h
    exact q_lret (pc := 262) C dX5_digest_262
  · have h := q_f c1 h
    refine q_ldc2 (pc := 242) C kn_RX5_280 dX5_digest_242 ?_
    refine q_lload_n (pc := 245) C 1 rfl dX5_digest_245 rfl ?_
    refine q_lmul (pc := 246) C dX5_digest_246 ?_
    refine q_aload_n (pc := 247) C 0 rfl dX5_digest_247 rfl ?_
    refine q_iload_n (pc := 248) C 2 rfl dX5_digest_248 rfl ?_
    obtain ⟨q2, hq2, h⟩ := q_bind h
    refine q_callV1 (pc := 249) (st := [.long ((31 : Int64) * x1)]) C (zX5_fitsOf hq2) yi_X5_fitsOf ml_RX5_257 kM_0 rfl (by decide) rfl (Nat.le_of_ble_eq_true rfl) dX5_digest_249 ?_
    refine q_i2l (pc := 252) C dX5_digest_252 ?_
    refine q_ladd (pc := 253) C dX5_digest_253 ?_
    refine q_lstore_n (pc := 254) C dX5_digest_254 rfl (by decide) rfl ?_
    refine q_sub [1, 0, 2] rfl ?_
    exact tX5_digest_255 C k237 hk237 _ _ _ _ h
theorem tX5_digest_237 {X : qX} {G : qG} (C : qC sM X G RX5 cX5_digest 5 9 (some .long))  (σ : qM) (x1 : Int64) (x3 : Int32) (res : (Int64 × qM))  (h : fX5_digest_237  σ x1 x3 = some res) : qY sM X G 5 (q_Q sM X G (some (.long res.1)) res.2) σ 237 [(0, .ref (q_ad G 0)), (1, .long x1), (3, .int x3)] [] := by
  have key : ∀ (n : Nat) (σ : qM) (x1 : Int64) (x3 : Int32) (res : (Int64 × qM)) , qlp (fun _ _ _ => none) (bX5_digest_237 ) n σ x1 x3 = some res → qY sM X G 5 (q_Q sM X G (some (.long res.1)) res.2) σ 237 [(0, .ref (q_ad G 0)), (1, .long x1), (3, .int x3)] [] := by
    intro n
    induction n with
    | zero => intro σ x1 x3 res h; cases h
    | succ n ih => intro σ x1 x3 res h; exact uX5_digest_237 C  (qlp (fun _ _ _ => none) (bX5_digest_237 ) n) (fun σ x1 x3 res h => ih σ x1 x3 res h) σ x1 x3 res h
  exact key qFU σ x1 x3 res h
theorem tX5_digest_235 {X : qX} {G : qG} (C : qC sM X G RX5 cX5_digest 5 9 (some .long))  (σ : qM) (x1 : Int64) (res : (Int64 × qM))  (h : fX5_digest_235  σ x1 = some res) : qY sM X G 5 (q_Q sM X G (some (.long res.1)) res.2) σ 235 [(0, .ref (q_ad G 0)), (1, .long x1)] [] := by
  unfold fX5_digest_235 at h
  refine q_iconst (pc := 235) C dX5_digest_235 ci_0 ?_
  refine q_istore_n (pc := 236) C dX5_digest_236 rfl (by decide) rfl ?_
  refine q_sub [1, 2, 0] rfl ?_
  exact tX5_digest_237 C _ _ _ _ h
theorem tX5_digest_222 {X : qX} {G : qG} (C : qC sM X G RX5 cX5_digest 5 9 (some .long))  (σ : qM) (x1 : Int64) (res : (Int64 × qM))  (h : fX5_digest_222  σ x1 = some res) : qY sM X G 5 (q_Q sM X G (some (.long res.1)) res.2) σ 222 [(0, .ref (q_ad G 0)), (1, .long x1)] [] := by
  unfold fX5_digest_222 at h
  refine q_ldc2 (pc := 222) C kn_RX5_280 dX5_digest_222 ?_
  refine q_lload_n (pc := 225) C 1 rfl dX5_digest_225 rfl ?_
  refine q_lmul (pc := 226) C dX5_digest_226 ?_
  refine q_aload_n (pc := 227) C 0 rfl dX5_digest_227 rfl ?_
  refine q_iconst (pc := 228) C dX5_digest_228 ci_5 ?_
  obtain ⟨q1, hq1, h⟩ := q_bind h
  refine q_callV1 (pc := 229) (st := [.long ((31 : Int64) * x1)]) C (zX5_pourOf hq1) yi_X5_pourOf ml_RX5_227 kM_0 rfl (by decide) rfl (Nat.le_of_ble_eq_true rfl) dX5_digest_229 ?_
  refine q_i2l (pc := 232) C dX5_digest_232 ?_
  refine q_ladd (pc := 233) C dX5_digest_233 ?_
  refine q_lstore_n (pc := 234) C dX5_digest_234 rfl (by decide) rfl ?_
  refine q_sub [1, 0] rfl ?_
  exact tX5_digest_235 C _ _ _ h
theorem tX5_digest_210 {X : qX} {G : qG} (C : qC sM X G RX5 cX5_digest 5 9 (some .long))  (σ : qM) (x1 : Int64) (res : (Int64 × qM))  (h : fX5_digest_210  σ x1 = some res) : qY sM X G 5 (q_Q sM X G (some (.long res.1)) res.2) σ 210 [(0, .ref (q_ad G 0)), (1, .long x1)] [] := by
  unfold fX5_digest_210 at h
  refine q_ldc2 (pc := 210) C kn_RX5_280 dX5_digest_210 ?_
  refine q_lload_n (pc := 213) C 1 rfl dX5_digest_213 rfl ?_
  refine q_lmul (pc := 214) C dX5_digest_214 ?_
  refine q_aload_n (pc := 215) C 0 rfl dX5_digest_215 rfl ?_
  obtain ⟨q1, hq1, h⟩ := q_bind h
  refine q_callV1 (pc := 216) (st := [.long ((31 : Int64) * x1)]) C (zX5_firstBroken hq1) yi_X5_firstBroken ml_RX5_212 kM_0 rfl (by decide) rfl (Nat.le_of_ble_eq_true rfl) dX5_digest_216 ?_
  refine q_i2l (pc := 219) C dX5_digest_219 ?_
  refine q_ladd (pc := 220) C dX5_digest_220 ?_
  refine q_lstore_n (pc := 221) C dX5_digest_221 rfl (by decide) rfl ?_
  refine q_sub [1, 0] rfl ?_
  exact tX5_digest_222 C _ _ _ h
theorem uX5_digest_179 {X : qX} {G : qG} (C : qC sM X G RX5 cX5_digest 5 9 (some .long)) (k179 : qM → Int64 → Int32 → Option (Int64 × qM)) (hk179 : ∀ (σ : qM) (x1 : Int64) (x3 : Int32) (res : (Int64 × qM)), k179 σ x1 x3 = some res → qY sM X G 5 (q_Q sM X G (some (.long res.1)) res.2) σ 179 [(0, .ref (q_ad G 0)), (1, .long x1), (3, .int x3)] []) (σ : qM) (x1 : Int64) (x3 : Int32) (res : (Int64 × qM))  (h : bX5_digest_179 k179 σ x1 x3 = some res) : qY sM X G 5 (q_Q sM X G (some (.long res.1)) res.2) σ 179 [(0, .ref (q_ad G 0)), (1, .long x1), (3, .int x3)] [] := by
  unfold bX5_digest_179 at h
  refine q_iload_n (pc := 179) C 2 rfl dX5_digest_179 rfl ?_
  refine q_bipush (pc := 180) C dX5_digest_180 cb_8 ?_
  refine q_ic_ge (pc := 182) C 198 dX5_digest_182 (by decide) (fun c1 => ?_) (fun c1 => ?_)
  · have h := q_t c1 h
    refine q_ldc2 (pc := 198) C kn_RX5_280 dX5_digest_198 ?_
    refine q_lload_n (pc := 201) C 1 rfl dX5_digest_201 rfl ?_
    refine q_lmul (pc := 202) C dX5_digest_202 ?_
    refine q_aload_n (pc := 203) C 0 rfl dX5_digest_203 rfl ?_
    obtain ⟨q2, hq2, h⟩ := q_bind h
    refine q_callV1 (pc := 204) (st := [.long ((31 : Int64) * x1)]) C (zX5_brokenNow hq2) yi_X5_brokenNow ml_RX5_209 kM_0 rfl (by decide) rfl (Nat.le_of_ble_eq_true rfl) dX5_digest_204 ?_
    refine q_i2l (pc := 207) C dX5_digest_207 ?_
    refine q_ladd (pc := 208) C dX5_digest_208 ?_
    refine q_lstore_n (pc := 209) C dX5_digest_209 rfl (by decide) rfl ?_
    refine q_sub [1, 0] rfl ?_
    exact tX5_digest_210 C _ _ _ h
  · have h := q_f c1 h
    refine q_aload_n (pc := 185) C 0 rfl dX5_digest_185 rfl ?_
    refine q_lload_n (pc := 186) C 1 rfl dX5_digest_186 rfl ?_
    refine q_iload_n (pc := 187) C 2 rfl dX5_digest_187 rfl ?_
    obtain ⟨q3, hq3, h⟩ := q_bind h
    refine q_callV1 (pc := 188) (st := []) C (zX5_tellsLaw hq3) yi_X5_tellsLaw ml_RX5_291 kM_0 rfl (by decide) rfl (Nat.le_of_ble_eq_true rfl) dX5_digest_188 ?_
    refine q_lstore_n (pc := 191) C dX5_digest_191 rfl (by decide) rfl ?_
    refine q_inc (pc := 192) C 2 rfl ci_1 dX5_digest_192 (by decide) rfl ?_
    refine q_goto (pc := 195) C 179 dX5_digest_195 (by decide) ?_
    refine q_sub [2, 1, 0] rfl ?_
    exact hk179 _ _ _ _ h
theorem tX5_digest_179 {X : qX} {G : qG} (C : qC sM X G RX5 cX5_digest 5 9 (some .long))  (σ : qM) (x1 : Int64) (x3 : Int32) (res : (Int64 × qM))  (h : fX5_digest_179  σ x1 x3 = some res) : qY sM X G 5 (q_Q sM X G (some (.long res.1)) res.2) σ 179 [(0, .ref (q_ad G 0)), (1, .long x1), (3, .int x3)] [] := by
  have key : ∀ (n : Nat) (σ : qM) (x1 : Int64) (x3 : Int32) (res : (Int64 × qM)) , qlp (fun _ _ _ => none) (bX5_digest_179 ) n σ x1 x3 = some res → qY sM X G 5 (q_Q sM X G (some (.long res.1)) res.2) σ 179 [(0, .ref (q_ad G 0)), (1, .long x1), (3, .int x3)] [] := by
    intro n
    induction n with
    | zero => intro σ x1 x3 res h; cases h
    | succ n ih => intro σ x1 x3 res h; exact uX5_digest_179 C  (qlp (fun _ _ _ => none) (bX5_digest_179 ) n) (fun σ x1 x3 res h => ih σ x1 x3 res h) σ x1 x3 res h
  exact key qFU σ x1 x3 res h
theorem uX5_digest_159 {X : qX} {G : qG} (C : qC sM X G RX5 cX5_digest 5 9 (some .long)) (k159 : qM → Int64 → Int32 → Option (Int64 × qM)) (hk159 : ∀ (σ : qM) (x1 : Int64) (x3 : Int32) (res : (Int64 × qM)), k159 σ x1 x3 = some res → qY sM X G 5 (q_Q sM X G (some (.long res.1)) res.2) σ 159 [(0, .ref (q_ad G 0)), (1, .long x1), (3, .int x3)] []) (σ : qM) (x1 : Int64) (x3 : Int32) (res : (Int64 × qM))  (h : bX5_digest_159 k159 σ x1 x3 = some res) : qY sM X G 5 (q_Q sM X G (some (.long res.1)) res.2) σ 159 [(0, .ref (q_ad G 0)), (1, .long x1), (3, .int x3)] [] := by
  unfold bX5_digest_159 at h
  refine q_iload_n (pc := 159) C 2 rfl dX5_digest_159 rfl ?_
  refine q_iconst (pc := 160) C dX5_digest_160 ci_4 ?_
  refine q_ic_ge (pc := 161) C 177 dX5_digest_161 (by decide) (fun c1 => ?_) (fun c1 => ?_)
  · have h := q_t c1 h
    refine q_iconst (pc := 177) C dX5_digest_177 ci_0 ?_
    refine q_istore_n (pc := 178) C dX5_digest_178 rfl (by decide) rfl ?_
    refine q_sub [1, 2, 0] rfl ?_
    exact tX5_digest_179 C _ _ _ _ h
  · have h := q_f c1 h
    refine q_aload_n (pc := 164) C 0 rfl dX5_digest_164 rfl ?_
    refine q_lload_n (pc := 165) C 1 rfl dX5_digest_165 rfl ?_
    refine q_iload_n (pc := 166) C 2 rfl dX5_digest_166 rfl ?_
    obtain ⟨q2, hq2, h⟩ := q_bind h
    refine q_callV1 (pc := 167) (st := []) C (zX5_tellsTurns hq2) yi_X5_tellsTurns ml_RX5_287 kM_0 rfl (by decide) rfl (Nat.le_of_ble_eq_true rfl) dX5_digest_167 ?_
    refine q_lstore_n (pc := 170) C dX5_digest_170 rfl (by decide) rfl ?_
    refine q_inc (pc := 171) C 2 rfl ci_1 dX5_digest_171 (by decide) rfl ?_
    refine q_goto (pc := 174) C 159 dX5_digest_174 (by decide) ?_
    refine q_sub [2, 1, 0] rfl ?_
    exact hk159 _ _ _ _ h
theorem tX5_digest_159 {X : qX} {G : qG} (C : qC sM X G RX5 cX5_digest 5 9 (some .long))  (σ : qM) (x1 : Int64) (x3 : Int32) (res : (Int64 × qM))  (h : fX5_digest_159  σ x1 x3 = some res) : qY sM X G 5 (q_Q sM X G (some (.long res.1)) res.2) σ 159 [(0, .ref (q_ad G 0)), (1, .long x1), (3, .int x3)] [] := by
  have key : ∀ (n : Nat) (σ : qM) (x1 : Int64) (x3 : Int32) (res : (Int64 × qM)) , qlp (fun _ _ _ => none) (bX5_digest_159 ) n σ x1 x3 = some res → qY sM X G 5 (q_Q sM X G (some (.long res.1)) res.2) σ 159 [(0, .ref (q_ad G 0)), (1, .long x1), (3, .int x3)] [] := by
    intro n
    induction n with
    | zero => intro σ x1 x3 res h; cases h
    | succ n ih => intro σ x1 x3 res h; exact uX5_digest_159 C  (qlp (fun _ _ _ => none) (bX5_digest_159 ) n) (fun σ x1 x3 res h => ih σ x1 x3 res h) σ x1 x3 res h
  exact key qFU σ x1 x3 res h
theorem uX5_digest_109 {X : qX} {G : qG} (C : qC sM X G RX5 cX5_digest 5 9 (some .long)) (k109 : qM → Int64 → Int32 → Option (Int64 × qM)) (hk109 : ∀ (σ : qM) (x1 : Int64) (x3 : Int32) (res : (Int64 × qM)), k109 σ x1 x3 = some res → qY sM X G 5 (q_Q sM X G (some (.long res.1)) res.2) σ 109 [(0, .ref (q_ad G 0)), (1, .long x1), (3, .int x3)] []) (σ : qM) (x1 : Int64) (x3 : Int32) (res : (Int64 × qM))  (h : bX5_digest_109 k109 σ x1 x3 = some res) : qY sM X G 5 (q_Q sM X G (some (.long res.1)) res.2) σ 109 [(0, .ref (q_ad G 0)), (1, .long x1), (3, .int x3)] [] := by
  unfold bX5_digest_109 at h
  refine q_iload_n (pc := 109) C 2 rfl dX5_digest_109 rfl ?_
  refine q_aload_n (pc := 110) C 0 rfl dX5_digest_110 rfl ?_
  refine q_getI (pc := 111) C fl_RX5_106 kM_0 rfl dX5_digest_111 ?_
  refine q_ic_ge (pc := 114) C 157 dX5_digest_114 (by decide) (fun c1 => ?_) (fun c1 => ?_)
  · have h := q_t c1 h
    refine q_iconst (pc := 157) C dX5_digest_157 ci_0 ?_
    refine q_istore_n (pc := 158) C dX5_digest_158 rfl (by decide) rfl ?_
    refine q_sub [1, 2, 0] rfl ?_
    exact tX5_digest_159 C _ _ _ _ h
  · have h := q_f c1 h
    refine q_iconst (pc := 117) C dX5_digest_117 ci_0 ?_
    refine q_istore (pc := 118) C dX5_digest_118 (by decide) rfl ?_
    refine q_sub [1, 2, 3, 0] rfl ?_
    exact tX5_digest_120 C k109 hk109 _ _ _ _ _ h
theorem tX5_digest_109 {X : qX} {G : qG} (C : qC sM X G RX5 cX5_digest 5 9 (some .long))  (σ : qM) (x1 : Int64) (x3 : Int32) (res : (Int64 × qM))  (h : fX5_digest_109  σ x1 x3 = some res) : qY sM X G 5 (q_Q sM X G (some (.long res.1)) res.2) σ 109 [(0, .ref (q_ad G 0)), (1, .long x1), (3, .int x3)] [] := by
  have key : ∀ (n : Nat) (σ : qM) (x1 : Int64) (x3 : Int32) (res : (Int64 × qM)) , qlp (fun _ _ _ => none) (bX5_digest_109 ) n σ x1 x3 = some res → qY sM X G 5 (q_Q sM X G (some (.long res.1)) res.2) σ 109 [(0, .ref (q_ad G 0)), (1, .long x1), (3, .int x3)] [] := by
    intro n
    induction n with
    | zero => intro σ x1 x3 res h; cases h
    | succ n ih => intro σ x1 x3 res h; exact uX5_digest_109 C  (qlp (fun _ _ _ => none) (bX5_digest_109 ) n) (fun σ x1 x3 res h => ih σ x1 x3 res h) σ x1 x3 res h
  exact key qFU σ x1 x3 res h
theorem tX5_digest_95 {X : qX} {G : qG} (C : qC sM X G RX5 cX5_digest 5 9 (some .long)) (k59 : qM → Int64 → Int32 → Option (Int64 × qM)) (hk59 : ∀ (σ : qM) (x1 : Int64) (x3 : Int32) (res : (Int64 × qM)), k59 σ x1 x3 = some res → qY sM X G 5 (q_Q sM X G (some (.long res.1)) res.2) σ 59 [(0, .ref (q_ad G 0)), (1, .long x1), (3, .int x3)] []) (k70 : qM → Int64 → Int32 → Int32 → Option (Int64 × qM)) (hk70 : ∀ (σ : qM) (x1 : Int64) (x3 : Int32) (x4 : Int32) (res : (Int64 × qM)), k70 σ x1 x3 x4 = some res → qY sM X G 5 (q_Q sM X G (some (.long res.1)) res.2) σ 70 [(0, .ref (q_ad G 0)), (1, .long x1), (3, .int x3), (4, .int x4)] []) (σ : qM) (x1 : Int64) (x3 : Int32) (x4 : Int32) (res : (Int64 × qM))  (h : fX5_digest_95 k59 k70 σ x1 x3 x4 = some res) : qY sM X G 5 (q_Q sM X G (some (.long res.1)) res.2) σ 95 [(0, .ref (q_ad G 0)), (1, .long x1), (3, .int x3), (4, .int x4)] [] := by
  unfold fX5_digest_95 at h
  refine q_inc (pc := 95) C 3 rfl ci_1 dX5_digest_95 (by decide) rfl ?_
  refine q_goto (pc := 98) C 70 dX5_digest_98 (by decide) ?_
  refine q_sub [1, 2, 3, 0] rfl ?_
  exact hk70 _ _ _ _ _ h
theorem uX5_digest_70 {X : qX} {G : qG} (C : qC sM X G RX5 cX5_digest 5 9 (some .long)) (k59 : qM → Int64 → Int32 → Option (Int64 × qM)) (hk59 : ∀ (σ : qM) (x1 : Int64) (x3 : Int32) (res : (Int64 × qM)), k59 σ x1 x3 = some res → qY sM X G 5 (q_Q sM X G (some (.long res.1)) res.2) σ 59 [(0, .ref (q_ad G 0)), (1, .long x1), (3, .int x3)] []) (k70 : qM → Int64 → Int32 → Int32 → Option (Int64 × qM)) (hk70 : ∀ (σ : qM) (x1 : Int64) (x3 : Int32) (x4 : Int32) (res : (Int64 × qM)), k70 σ x1 x3 x4 = some res → qY sM X G 5 (q_Q sM X G (some (.long res.1)) res.2) σ 70 [(0, .ref (q_ad G 0)), (1, .long x1), (3, .int x3), (4, .int x4)] []) (σ : qM) (x1 : Int64) (x3 : Int32) (x4 : Int32) (res : (Int64 × qM))  (h : bX5_digest_70 k59 k70 σ x1 x3 x4 = some res) : qY sM X G 5 (q_Q sM X G (some (.long res.1)) res.2) σ 70 [(0, .ref (q_ad G 0)), (1, .long x1), (3, .int x3), (4, .int x4)] [] := by
  unfold bX5_digest_70 at h
  refine q_iload (pc := 70) C 3 rfl dX5_digest_70 ?_
  refine q_iconst (pc := 72) C dX5_digest_72 ci_3 ?_
  refine q_ic_ge (pc := 73) C 101 dX5_digest_73 (by decide) (fun c1 => ?_) (fun c1 => ?_)
  · have h := q_t c1 h
    refine q_inc (pc := 101) C 2 rfl ci_1 dX5_digest_101 (by decide) rfl ?_
    refine q_goto (pc := 104) C 59 dX5_digest_104 (by decide) ?_
    refine q_sub [1, 2, 0] rfl ?_
    exact hk59 _ _ _ _ h
  · have h := q_f c1 h
    refine q_ldc2 (pc := 76) C kn_RX5_280 dX5_digest_76 ?_
    refine q_lload_n (pc := 79) C 1 rfl dX5_digest_79 rfl ?_
    refine q_lmul (pc := 80) C dX5_digest_80 ?_
    refine q_aload_n (pc := 81) C 0 rfl dX5_digest_81 rfl ?_
    refine q_getR (pc := 82) (t := 7) C fl_RX5_28 kM_0 rfl rM_0_9 dX5_digest_82 ?_
    refine q_iconst (pc := 85) C dX5_digest_85 ci_3 ?_
    refine q_iload_n (pc := 86) C 2 rfl dX5_digest_86 rfl ?_
    refine q_imul (pc := 87) C dX5_digest_87 ?_
    refine q_iload (pc := 88) C 3 rfl dX5_digest_88 ?_
    refine q_iadd (pc := 90) C dX5_digest_90 ?_
    obtain ⟨g2, h⟩ := q_guard h
    refine q_iald (pc := 91) C kM_7 lM_7 g2 dX5_digest_91 ?_
    refine q_i2l (pc := 92) C dX5_digest_92 ?_
    refine q_ladd (pc := 93) C dX5_digest_93 ?_
    refine q_lstore_n (pc := 94) C dX5_digest_94 rfl (by decide) rfl ?_
    refine q_sub [1, 0, 2, 3] rfl ?_
    exact tX5_digest_95 C k59 hk59 k70 hk70 _ _ _ _ _ h
theorem tX5_digest_70 {X : qX} {G : qG} (C : qC sM X G RX5 cX5_digest 5 9 (some .long)) (k59 : qM → Int64 → Int32 → Option (Int64 × qM)) (hk59 : ∀ (σ : qM) (x1 : Int64) (x3 : Int32) (res : (Int64 × qM)), k59 σ x1 x3 = some res → qY sM X G 5 (q_Q sM X G (some (.long res.1)) res.2) σ 59 [(0, .ref (q_ad G 0)), (1, .long x1), (3, .int x3)] []) (σ : qM) (x1 : Int64) (x3 : Int32) (x4 : Int32) (res : (Int64 × qM))  (h : fX5_digest_70 k59 σ x1 x3 x4 = some res) : qY sM X G 5 (q_Q sM X G (some (.long res.1)) res.2) σ 70 [(0, .ref (q_ad G 0)), (1, .long x1), (3, .int x3), (4, .int x4)] [] := by
  have key : ∀ (n : Nat) (σ : qM) (x1 : Int64) (x3 : Int32) (x4 : Int32) (res : (Int64 × qM)) , qlp (fun _ _ _ _ => none) (bX5_digest_70 k59) n σ x1 x3 x4 = some res → qY sM X G 5 (q_Q sM X G (some (.long res.1)) res.2) σ 70 [(0, .ref (q_ad G 0)), (1, .long x1), (3, .int x3), (4, .int x4)] [] := by
    intro n
    induction n with
    | zero => intro σ x1 x3 x4 res h; cases h
    | succ n ih => intro σ x1 x3 x4 res h; exact uX5_digest_70 C k59 hk59 (qlp (fun _ _ _ _ => none) (bX5_digest_70 k59) n) (fun σ x1 x3 x4 res h => ih σ x1 x3 x4 res h) σ x1 x3 x4 res h
  exact key qFU σ x1 x3 x4 res h
theorem uX5_digest_59 {X : qX} {G : qG} (C : qC sM X G RX5 cX5_digest 5 9 (some .long)) (k59 : qM → Int64 → Int32 → Option (Int64 × qM)) (hk59 : ∀ (σ : qM) (x1 : Int64) (x3 : Int32) (res : (Int64 × qM)), k59 σ x1 x3 = some res → qY sM X G 5 (q_Q sM X G (some (.long res.1)) res.2) σ 59 [(0, .ref (q_ad G 0)), (1, .long x1), (3, .int x3)] []) (σ : qM) (x1 : Int64) (x3 : Int32) (res : (Int64 × qM))  (h : bX5_digest_59 k59 σ x1 x3 = some res) : qY sM X G 5 (q_Q sM X G (some (.long res.1)) res.2) σ 59 [(0, .ref (q_ad G 0)), (1, .long x1), (3, .int x3)] [] := by
  unfold bX5_digest_59 at h
  refine q_iload_n (pc := 59) C 2 rfl dX5_digest_59 rfl ?_
  refine q_aload_n (pc := 60) C 0 rfl dX5_digest_60 rfl ?_
  refine q_getI (pc := 61) C fl_RX5_103 kM_0 rfl dX5_digest_61 ?_
  refine q_ic_ge (pc := 64) C 107 dX5_digest_64 (by decide) (fun c1 => ?_) (fun c1 => ?_)
  · have h := q_t c1 h
    refine q_iconst (pc := 107) C dX5_digest_107 ci_0 ?_
    refine q_istore_n (pc := 108) C dX5_digest_108 rfl (by decide) rfl ?_
    refine q_sub [1, 2, 0] rfl ?_
    exact tX5_digest_109 C _ _ _ _ h
  · have h := q_f c1 h
    refine q_iconst (pc := 67) C dX5_digest_67 ci_0 ?_
    refine q_istore (pc := 68) C dX5_digest_68 (by decide) rfl ?_
    refine q_sub [1, 2, 3, 0] rfl ?_
    exact tX5_digest_70 C k59 hk59 _ _ _ _ _ h
theorem tX5_digest_59 {X : qX} {G : qG} (C : qC sM X G RX5 cX5_digest 5 9 (some .long))  (σ : qM) (x1 : Int64) (x3 : Int32) (res : (Int64 × qM))  (h : fX5_digest_59  σ x1 x3 = some res) : qY sM X G 5 (q_Q sM X G (some (.long res.1)) res.2) σ 59 [(0, .ref (q_ad G 0)), (1, .long x1), (3, .int x3)] [] := by
  have key : ∀ (n : Nat) (σ : qM) (x1 : Int64) (x3 : Int32) (res : (Int64 × qM)) , qlp (fun _ _ _ => none) (bX5_digest_59 ) n σ x1 x3 = some res → qY sM X G 5 (q_Q sM X G (some (.long res.1)) res.2) σ 59 [(0, .ref (q_ad G 0)), (1, .long x1), (3, .int x3)] [] := by
    intro n
    induction n with
    | zero => intro σ x1 x3 res h; cases h
    | succ n ih => intro σ x1 x3 res h; exact uX5_digest_59 C  (qlp (fun _ _ _ => none) (bX5_digest_59 ) n) (fun σ x1 x3 res h => ih σ x1 x3 res h) σ x1 x3 res h
  exact key qFU σ x1 x3 res h
theorem tX5_digest_57 {X : qX} {G : qG} (C : qC sM X G RX5 cX5_digest 5 9 (some .long))  (σ : qM) (x1 : Int64) (res : (Int64 × qM))  (h : fX5_digest_57  σ x1 = some res) : qY sM X G 5 (q_Q sM X G (some (.long res.1)) res.2) σ 57 [(0, .ref (q_ad G 0)), (1, .long x1)] [] := by
  unfold fX5_digest_57 at h
  refine q_iconst (pc := 57) C dX5_digest_57 ci_0 ?_
  refine q_istore_n (pc := 58) C dX5_digest_58 rfl (by decide) rfl ?_
  refine q_sub [1, 2, 0] rfl ?_
  exact tX5_digest_59 C _ _ _ _ h
theorem tX5_digest_44 {X : qX} {G : qG} (C : qC sM X G RX5 cX5_digest 5 9 (some .long))  (σ : qM) (x1 : Int64) (res : (Int64 × qM))  (h : fX5_digest_44  σ x1 = some res) : qY sM X G 5 (q_Q sM X G (some (.long res.1)) res.2) σ 44 [(0, .ref (q_ad G 0)), (1, .long x1)] [] := by
  unfold fX5_digest_44 at h
  refine q_ldc2 (pc := 44) C kn_RX5_280 dX5_digest_44 ?_
  refine q_lload_n (pc := 47) C 1 rfl dX5_digest_47 rfl ?_
  refine q_lmul (pc := 48) C dX5_digest_48 ?_
  refine q_aload_n (pc := 49) C 0 rfl dX5_digest_49 rfl ?_
  refine q_iconst (pc := 50) C dX5_digest_50 ci_1 ?_
  obtain ⟨q1, hq1, h⟩ := q_bind h
  refine q_callV1 (pc := 51) (st := [.long ((31 : Int64) * x1)]) C (zX5_readsText hq1) yi_X5_readsText ml_RX5_122 kM_0 rfl (by decide) rfl (Nat.le_of_ble_eq_true rfl) dX5_digest_51 ?_
  refine q_i2l (pc := 54) C dX5_digest_54 ?_
  refine q_ladd (pc := 55) C dX5_digest_55 ?_
  refine q_lstore_n (pc := 56) C dX5_digest_56 rfl (by decide) rfl ?_
  refine q_sub [1, 0] rfl ?_
  exact tX5_digest_57 C _ _ _ h
theorem uX5_digest_6 {X : qX} {G : qG} (C : qC sM X G RX5 cX5_digest 5 9 (some .long)) (k6 : qM → Int64 → Int32 → Option (Int64 × qM)) (hk6 : ∀ (σ : qM) (x1 : Int64) (x3 : Int32) (res : (Int64 × qM)), k6 σ x1 x3 = some res → qY sM X G 5 (q_Q sM X G (some (.long res.1)) res.2) σ 6 [(0, .ref (q_ad G 0)), (1, .long x1), (3, .int x3)] []) (σ : qM) (x1 : Int64) (x3 : Int32) (res : (Int64 × qM))  (h : bX5_digest_6 k6 σ x1 x3 = some res) : qY sM X G 5 (q_Q sM X G (some (.long res.1)) res.2) σ 6 [(0, .ref (q_ad G 0)), (1, .long x1), (3, .int x3)] [] := by
  unfold bX5_digest_6 at h
  refine q_iload_n (pc := 6) C 2 rfl dX5_digest_6 rfl ?_
  refine q_bipush (pc := 7) C dX5_digest_7 cb_8 ?_
  refine q_ic_ge (pc := 9) C 31 dX5_digest_9 (by decide) (fun c1 => ?_) (fun c1 => ?_)
  · have h := q_t c1 h
    refine q_ldc2 (pc := 31) C kn_RX5_280 dX5_digest_31 ?_
    refine q_lload_n (pc := 34) C 1 rfl dX5_digest_34 rfl ?_
    refine q_lmul (pc := 35) C dX5_digest_35 ?_
    refine q_aload_n (pc := 36) C 0 rfl dX5_digest_36 rfl ?_
    refine q_iconst (pc := 37) C dX5_digest_37 ci_0 ?_
    obtain ⟨q2, hq2, h⟩ := q_bind h
    refine q_callV1 (pc := 38) (st := [.long ((31 : Int64) * x1)]) C (zX5_readsText hq2) yi_X5_readsText ml_RX5_122 kM_0 rfl (by decide) rfl (Nat.le_of_ble_eq_true rfl) dX5_digest_38 ?_
    refine q_i2l (pc := 41) C dX5_digest_41 ?_
    refine q_ladd (pc := 42) C dX5_digest_42 ?_
    refine q_lstore_n (pc := 43) C dX5_digest_43 rfl (by decide) rfl ?_
    refine q_sub [1, 0] rfl ?_
    exact tX5_digest_44 C _ _ _ h
  · have h := q_f c1 h
    refine q_ldc2 (pc := 12) C kn_RX5_280 dX5_digest_12 ?_
    refine q_lload_n (pc := 15) C 1 rfl dX5_digest_15 rfl ?_
    refine q_lmul (pc := 16) C dX5_digest_16 ?_
    refine q_aload_n (pc := 17) C 0 rfl dX5_digest_17 rfl ?_
    refine q_iload_n (pc := 18) C 2 rfl dX5_digest_18 rfl ?_
    obtain ⟨q3, hq3, h⟩ := q_bind h
    refine q_callV1 (pc := 19) (st := [.long ((31 : Int64) * x1)]) C (zX5_count hq3) yi_X5_count ml_RX5_284 kM_0 rfl (by decide) rfl (Nat.le_of_ble_eq_true rfl) dX5_digest_19 ?_
    refine q_i2l (pc := 22) C dX5_digest_22 ?_
    refine q_ladd (pc := 23) C dX5_digest_23 ?_
    refine q_lstore_n (pc := 24) C dX5_digest_24 rfl (by decide) rfl ?_
    refine q_sub [1, 0, 2] rfl ?_
    exact tX5_digest_25 C k6 hk6 _ _ _ _ h
theorem tX5_digest_6 {X : qX} {G : qG} (C : qC sM X G RX5 cX5_digest 5 9 (some .long))  (σ : qM) (x1 : Int64) (x3 : Int32) (res : (Int64 × qM))  (h : fX5_digest_6  σ x1 x3 = some res) : qY sM X G 5 (q_Q sM X G (some (.long res.1)) res.2) σ 6 [(0, .ref (q_ad G 0)), (1, .long x1), (3, .int x3)] [] := by
  have key : ∀ (n : Nat) (σ : qM) (x1 : Int64) (x3 : Int32) (res : (Int64 × qM)) , qlp (fun _ _ _ => none) (bX5_digest_6 ) n σ x1 x3 = some res → qY sM X G 5 (q_Q sM X G (some (.long res.1)) res.2) σ 6 [(0, .ref (q_ad G 0)), (1, .long x1), (3, .int x3)] [] := by
    intro n
    induction n with
    | zero => intro σ x1 x3 res h; cases h
    | succ n ih => intro σ x1 x3 res h; exact uX5_digest_6 C  (qlp (fun _ _ _ => none) (bX5_digest_6 ) n) (fun σ x1 x3 res h => ih σ x1 x3 res h) σ x1 x3 res h
  exact key qFU σ x1 x3 res h
theorem zX5_digest {G : qG} {l : Launch} {σ : qM}  {res : (Int64 × qM)}  (h : fX5_digest σ  = some res) : qCon sM G l yX5_digest cX5_digest 5 (some .long) 9 [.ref (q_ad G 0)] σ (some (.long res.1)) res.2 := by
  refine qCon.mkF (lv := [(0, .ref (q_ad G 0))]) (plainFor_of_name (by decide)) (Nat.le_of_ble_eq_true rfl) rfl (fun X hX C => ?_)
  unfold fX5_digest at h
  refine q_ldc2 (pc := 0) C kn_RX5_282 dX5_digest_0 ?_
  refine q_lstore_n (pc := 3) C dX5_digest_3 rfl (by decide) rfl ?_
  refine q_iconst (pc := 4) C dX5_digest_4 ci_0 ?_
  refine q_istore_n (pc := 5) C dX5_digest_5 rfl (by decide) rfl ?_
  refine q_sub [2, 1, 0] rfl ?_
  exact tX5_digest_6 C _ _ _ _ h

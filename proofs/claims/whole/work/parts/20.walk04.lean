/-! X5_in -/
theorem zX5_in {G : qG} {l : Launch} {σ : qM} {x0 : Int64} {x2 : Int64} {x4 : Int64} {res : (Int32 × qM)}  (h : fX5_in σ x0 x2 x4 = some res) : qCon sM G l yX5_in cX5_in 6 (some .boolean) 0 [.long x0, .long x2, .long x4] σ (some (.int res.1)) res.2 := by
  refine qCon.mkF (lv := [(0, .long x0), (2, .long x2), (4, .long x4)]) (plainFor_of_name (by decide)) (Nat.le_of_ble_eq_true rfl) rfl (fun X hX C => ?_)
  unfold fX5_in at h
  refine q_lload_n (pc := 0) C 0 rfl dX5_in_0 rfl ?_
  refine q_lload_n (pc := 1) C 1 rfl dX5_in_1 rfl ?_
  refine q_lcmp (pc := 2) C dX5_in_2 ?_
  refine q_if_lt (pc := 3) C 17 dX5_in_3 (by decide) (fun c1 => ?_) (fun c1 => ?_)
  · have h := q_t c1 h
    refine q_iconst (pc := 17) C dX5_in_17 ci_0 ?_
    obtain rfl := Option.some.inj h
    exact q_zret (pc := 18) C (Or.inl rfl) dX5_in_18
  · have h := q_f c1 h
    refine q_lload_n (pc := 6) C 0 rfl dX5_in_6 rfl ?_
    refine q_lload (pc := 7) C 2 rfl dX5_in_7 ?_
    refine q_lcmp (pc := 9) C dX5_in_9 ?_
    refine q_if_gt (pc := 10) C 17 dX5_in_10 (by decide) (fun c2 => ?_) (fun c2 => ?_)
    · have h := q_t c2 h
      refine q_iconst (pc := 17) C dX5_in_17 ci_0 ?_
      obtain rfl := Option.some.inj h
      exact q_zret (pc := 18) C (Or.inl rfl) dX5_in_18
    · have h := q_f c2 h
      refine q_iconst (pc := 13) C dX5_in_13 ci_1 ?_
      refine q_goto (pc := 14) C 18 dX5_in_14 (by decide) ?_
      obtain rfl := Option.some.inj h
      exact q_zret (pc := 18) C (Or.inr rfl) dX5_in_18
/-! X5_no -/
theorem zX5_no {G : qG} {l : Launch} {σ : qM} {x0 : Int32} {res : (Int64 × qM)}  (h : fX5_no σ x0 = some res) : qCon sM G l yX5_no cX5_no 1 (some .long) 0 [.int x0] σ (some (.long res.1)) res.2 := by
  refine qCon.mkF (lv := [(0, .int x0)]) (plainFor_of_name (by decide)) (Nat.le_of_ble_eq_true rfl) rfl (fun X hX C => ?_)
  unfold fX5_no at h
  refine q_ldc2 (pc := 0) C kn_RX5_59 dX5_no_0 ?_
  refine q_iload_n (pc := 3) C 0 rfl dX5_no_3 rfl ?_
  refine q_i2l (pc := 4) C dX5_no_4 ?_
  refine q_lsub (pc := 5) C dX5_no_5 ?_
  obtain rfl := Option.some.inj h
  exact q_lret (pc := 6) C dX5_no_6
/-! X5_isTwo -/
theorem zX5_isTwo {G : qG} {l : Launch} {σ : qM} {x0 : Int32} {res : (Int32 × qM)}  (h : fX5_isTwo σ x0 = some res) : qCon sM G l yX5_isTwo cX5_isTwo 1 (some .boolean) 1 [.int x0] σ (some (.int res.1)) res.2 := by
  refine qCon.mkF (lv := [(0, .int x0)]) (plainFor_of_name (by decide)) (Nat.le_of_ble_eq_true rfl) rfl (fun X hX C => ?_)
  unfold fX5_isTwo at h
  refine q_iload_n (pc := 0) C 0 rfl dX5_isTwo_0 rfl ?_
  refine q_i2l (pc := 1) C dX5_isTwo_1 ?_
  refine q_lconst (pc := 2) (v := (0 : Int64)) C dX5_isTwo_2 rfl ?_
  refine q_lconst (pc := 3) (v := (1 : Int64)) C dX5_isTwo_3 rfl ?_
  obtain ⟨q1, hq1, h⟩ := q_bind h
  refine q_callS1 (pc := 4) (st := []) C (zX5_in hq1) ys_X5_in ml_RX5_61 rfl (by decide) rfl (Nat.le_of_ble_eq_true rfl) dX5_isTwo_4 ?_
  obtain ⟨g2, h⟩ := q_guard h
  obtain rfl := Option.some.inj h
  exact q_zret (pc := 7) C g2 dX5_isTwo_7
/-! X5_isIn -/
theorem zX5_isIn {G : qG} {l : Launch} {σ : qM} {x0 : Int32} {x1 : Int32} {res : (Int32 × qM)}  (h : fX5_isIn σ x0 x1 = some res) : qCon sM G l yX5_isIn cX5_isIn 2 (some .boolean) 0 [.int x0, .int x1] σ (some (.int res.1)) res.2 := by
  refine qCon.mkF (lv := [(0, .int x0), (1, .int x1)]) (plainFor_of_name (by decide)) (Nat.le_of_ble_eq_true rfl) rfl (fun X hX C => ?_)
  unfold fX5_isIn at h
  refine q_iload_n (pc := 0) C 0 rfl dX5_isIn_0 rfl ?_
  refine q_iload_n (pc := 1) C 1 rfl dX5_isIn_1 rfl ?_
  refine q_shr (pc := 2) C dX5_isIn_2 ?_
  refine q_iconst (pc := 3) C dX5_isIn_3 ci_1 ?_
  refine q_iand (pc := 4) C dX5_isIn_4 ?_
  refine q_iconst (pc := 5) C dX5_isIn_5 ci_1 ?_
  refine q_ic_ne (pc := 6) C 13 dX5_isIn_6 (by decide) (fun c1 => ?_) (fun c1 => ?_)
  · have h := q_f c1 h
    refine q_iconst (pc := 13) C dX5_isIn_13 ci_0 ?_
    obtain rfl := Option.some.inj h
    exact q_zret (pc := 14) C (Or.inl rfl) dX5_isIn_14
  · have h := q_t c1 h
    refine q_iconst (pc := 9) C dX5_isIn_9 ci_1 ?_
    refine q_goto (pc := 10) C 14 dX5_isIn_10 (by decide) ?_
    obtain rfl := Option.some.inj h
    exact q_zret (pc := 14) C (Or.inr rfl) dX5_isIn_14
/-! X5_ones -/
theorem tX5_ones_17 {X : qX} {G : qG} (C : qC sM X G RX5 cX5_ones 3 0 (some .int)) (k4 : qM → Int32 → Int32 → Option (Int32 × qM)) (hk4 : ∀ (σ : qM) (x1 : Int32) (x2 : Int32) (res : (Int32 × qM)), k4 σ x1 x2 = some res → qY sM X G 3 (q_Q sM X G (some (.int res.1)) res.2) σ 4 [(1, .int x1), (2, .int x2)] []) (σ : qM) (x1 : Int32) (x2 : Int32) (res : (Int32 × qM))  (h : fX5_ones_17 k4 σ x1 x2 = some res) : qY sM X G 3 (q_Q sM X G (some (.int res.1)) res.2) σ 17 [(1, .int x1), (2, .int x2)] [] := by
  unfold fX5_ones_17 at h
  refine q_goto (pc := 17) C 4 dX5_ones_17 (by decide) ?_
  exact hk4 _ _ _ _ h
theorem uX5_ones_4 {X : qX} {G : qG} (C : qC sM X G RX5 cX5_ones 3 0 (some .int)) (k4 : qM → Int32 → Int32 → Option (Int32 × qM)) (hk4 : ∀ (σ : qM) (x1 : Int32) (x2 : Int32) (res : (Int32 × qM)), k4 σ x1 x2 = some res → qY sM X G 3 (q_Q sM X G (some (.int res.1)) res.2) σ 4 [(1, .int x1), (2, .int x2)] []) (σ : qM) (x1 : Int32) (x2 : Int32) (res : (Int32 × qM))  (h : bX5_ones_4 k4 σ x1 x2 = some res) : qY sM X G 3 (q_Q sM X G (some (.int res.1)) res.2) σ 4 [(1, .int x1), (2, .int x2)] [] := by
  unfold bX5_ones_4 at h
  refine q_iload_n (pc := 4) C 1 rfl dX5_ones_4 rfl ?_
  refine q_if_eq (pc := 5) C 20 dX5_ones_5 (by decide) (fun c1 => ?_) (fun c1 => ?_)
  · have h := q_t c1 h
    refine q_iload_n (pc := 20) C 0 rfl dX5_ones_20 rfl ?_
    obtain rfl := Option.some.inj h
    exact q_iret (pc := 21) C dX5_ones_21
  · have h := q_f c1 h
    refine q_inc (pc := 8) C 0 rfl ci_1 dX5_ones_8 (by decide) rfl ?_
    refine q_iload_n (pc := 11) C 1 rfl dX5_ones_11 rfl ?_
    refine q_iload_n (pc := 12) C 1 rfl dX5_ones_12 rfl ?_
    refine q_iconst (pc := 13) C dX5_ones_13 ci_1 ?_
    refine q_isub (pc := 14) C dX5_ones_14 ?_
    refine q_iand (pc := 15) C dX5_ones_15 ?_
    refine q_istore_n (pc := 16) C dX5_ones_16 rfl (by decide) rfl ?_
    refine q_sub [1, 0] rfl ?_
    exact tX5_ones_17 C k4 hk4 _ _ _ _ h
theorem tX5_ones_4 {X : qX} {G : qG} (C : qC sM X G RX5 cX5_ones 3 0 (some .int))  (σ : qM) (x1 : Int32) (x2 : Int32) (res : (Int32 × qM))  (h : fX5_ones_4  σ x1 x2 = some res) : qY sM X G 3 (q_Q sM X G (some (.int res.1)) res.2) σ 4 [(1, .int x1), (2, .int x2)] [] := by
  have key : ∀ (n : Nat) (σ : qM) (x1 : Int32) (x2 : Int32) (res : (Int32 × qM)) , qlp (fun _ _ _ => none) (bX5_ones_4 ) n σ x1 x2 = some res → qY sM X G 3 (q_Q sM X G (some (.int res.1)) res.2) σ 4 [(1, .int x1), (2, .int x2)] [] := by
    intro n
    induction n with
    | zero => intro σ x1 x2 res h; cases h
    | succ n ih => intro σ x1 x2 res h; exact uX5_ones_4 C  (qlp (fun _ _ _ => none) (bX5_ones_4 ) n) (fun σ x1 x2 res h => ih σ x1 x2 res h) σ x1 x2 res h
  exact key qFU σ x1 x2 res h
theorem zX5_ones {G : qG} {l : Launch} {σ : qM} {x0 : Int32} {res : (Int32 × qM)}  (h : fX5_ones σ x0 = some res) : qCon sM G l yX5_ones cX5_ones 3 (some .int) 0 [.int x0] σ (some (.int res.1)) res.2 := by
  refine qCon.mkF (lv := [(0, .int x0)]) (plainFor_of_name (by decide)) (Nat.le_of_ble_eq_true rfl) rfl (fun X hX C => ?_)
  unfold fX5_ones at h
  refine q_iconst (pc := 0) C dX5_ones_0 ci_0 ?_
  refine q_istore_n (pc := 1) C dX5_ones_1 rfl (by decide) rfl ?_
  refine q_iload_n (pc := 2) C 1 rfl dX5_ones_2 rfl ?_
  refine q_istore_n (pc := 3) C dX5_ones_3 rfl (by decide) rfl ?_
  refine q_sub [1, 0] rfl ?_
  exact tX5_ones_4 C _ _ _ _ h
/-! X5_amount -/
theorem zX5_amount {G : qG} {l : Launch} {σ : qM} {x0 : Int32} {res : (Int32 × qM)}  (h : fX5_amount σ x0 = some res) : qCon sM G l yX5_amount cX5_amount 1 (some .int) 0 [.int x0] σ (some (.int res.1)) res.2 := by
  refine qCon.mkF (lv := [(0, .int x0)]) (plainFor_of_name (by decide)) (Nat.le_of_ble_eq_true rfl) rfl (fun X hX C => ?_)
  unfold fX5_amount at h
  refine q_iload_n (pc := 0) C 0 rfl dX5_amount_0 rfl ?_
  refine q_if_ge (pc := 1) C 9 dX5_amount_1 (by decide) (fun c1 => ?_) (fun c1 => ?_)
  · have h := q_t c1 h
    refine q_iload_n (pc := 9) C 0 rfl dX5_amount_9 rfl ?_
    obtain rfl := Option.some.inj h
    exact q_iret (pc := 10) C dX5_amount_10
  · have h := q_f c1 h
    refine q_iload_n (pc := 4) C 0 rfl dX5_amount_4 rfl ?_
    refine q_ineg (pc := 5) C dX5_amount_5 ?_
    refine q_goto (pc := 6) C 10 dX5_amount_6 (by decide) ?_
    obtain rfl := Option.some.inj h
    exact q_iret (pc := 10) C dX5_amount_10
/-! X5_part -/
theorem tX5_part_28 {X : qX} {G : qG} (C : qC sM X G RX5 cX5_part 11 0 (some .long)) (k6 : qM → Int64 → Int64 → Int32 → Int64 → Int64 → Option (Int64 × qM)) (hk6 : ∀ (σ : qM) (x0 : Int64) (x2 : Int64) (x4 : Int32) (x5 : Int64) (x7 : Int64) (res : (Int64 × qM)), k6 σ x0 x2 x4 x5 x7 = some res → qY sM X G 11 (q_Q sM X G (some (.long res.1)) res.2) σ 6 [(0, .long x0), (2, .long x2), (4, .int x4), (5, .long x5), (7, .long x7)] []) (σ : qM) (x0 : Int64) (x2 : Int64) (x4 : Int32) (x5 : Int64) (x7 : Int64) (res : (Int64 × qM))  (h : fX5_part_28 k6 σ x0 x2 x4 x5 x7 = some res) : qY sM X G 11 (q_Q sM X G (some (.long res.1)) res.2) σ 28 [(0, .long x0), (2, .long x2), (4, .int x4), (5, .long x5), (7, .long x7)] [] := by
  unfold fX5_part_28 at h
  refine q_goto (pc := 28) C 6 dX5_part_28 (by decide) ?_
  exact hk6 _ _ _ _ _ _ _ h
theorem uX5_part_6 {X : qX} {G : qG} (C : qC sM X G RX5 cX5_part 11 0 (some .long)) (k6 : qM → Int64 → Int64 → Int32 → Int64 → Int64 → Option (Int64 × qM)) (hk6 : ∀ (σ : qM) (x0 : Int64) (x2 : Int64) (x4 : Int32) (x5 : Int64) (x7 : Int64) (res : (Int64 × qM)), k6 σ x0 x2 x4 x5 x7 = some res → qY sM X G 11 (q_Q sM X G (some (.long res.1)) res.2) σ 6 [(0, .long x0), (2, .long x2), (4, .int x4), (5, .long x5), (7, .long x7)] []) (σ : qM) (x0 : Int64) (x2 : Int64) (x4 : Int32) (x5 : Int64) (x7 : Int64) (res : (Int64 × qM))  (h : bX5_part_6 k6 σ x0 x2 x4 x5 x7 = some res) : qY sM X G 11 (q_Q sM X G (some (.long res.1)) res.2) σ 6 [(0, .long x0), (2, .long x2), (4, .int x4), (5, .long x5), (7, .long x7)] [] := by
  unfold bX5_part_6 at h
  refine q_lload (pc := 6) C 4 rfl dX5_part_6 ?_
  refine q_lconst (pc := 8) (v := (0 : Int64)) C dX5_part_8 rfl ?_
  refine q_lcmp (pc := 9) C dX5_part_9 ?_
  refine q_if_eq (pc := 10) C 31 dX5_part_10 (by decide) (fun c1 => ?_) (fun c1 => ?_)
  · have h := q_t c1 h
    refine q_iload (pc := 31) C 2 rfl dX5_part_31 ?_
    refine q_if_ne (pc := 33) C 40 dX5_part_33 (by decide) (fun c2 => ?_) (fun c2 => ?_)
    · have h := q_f c2 h
      refine q_lload_n (pc := 40) C 1 rfl dX5_part_40 rfl ?_
      refine q_lload (pc := 41) C 3 rfl dX5_part_41 ?_
      obtain ⟨g3, h⟩ := q_guard h
      refine q_ldiv (pc := 43) C dX5_part_43 g3 ?_
      obtain rfl := Option.some.inj h
      exact q_lret (pc := 44) C dX5_part_44
    · have h := q_t c2 h
      refine q_lload_n (pc := 36) C 0 rfl dX5_part_36 rfl ?_
      refine q_goto (pc := 37) C 41 dX5_part_37 (by decide) ?_
      refine q_lload (pc := 41) C 3 rfl dX5_part_41 ?_
      obtain ⟨g4, h⟩ := q_guard h
      refine q_ldiv (pc := 43) C dX5_part_43 g4 ?_
      obtain rfl := Option.some.inj h
      exact q_lret (pc := 44) C dX5_part_44
  · have h := q_f c1 h
    refine q_lload (pc := 13) C 3 rfl dX5_part_13 ?_
    refine q_lload (pc := 15) C 4 rfl dX5_part_15 ?_
    obtain ⟨g5, h⟩ := q_guard h
    refine q_lre (pc := 17) C dX5_part_17 g5 ?_
    refine q_lstore (pc := 18) C dX5_part_18 (by decide) rfl ?_
    refine q_lload (pc := 20) C 5 rfl dX5_part_20 ?_
    refine q_lstore (pc := 22) C dX5_part_22 (by decide) rfl ?_
    refine q_lload (pc := 24) C 1 rfl dX5_part_24 ?_
    refine q_lstore (pc := 26) C dX5_part_26 (by decide) rfl ?_
    refine q_sub [3, 4, 5, 1, 0] rfl ?_
    exact tX5_part_28 C k6 hk6 _ _ _ _ _ _ _ h
theorem tX5_part_6 {X : qX} {G : qG} (C : qC sM X G RX5 cX5_part 11 0 (some .long))  (σ : qM) (x0 : Int64) (x2 : Int64) (x4 : Int32) (x5 : Int64) (x7 : Int64) (res : (Int64 × qM))  (h : fX5_part_6  σ x0 x2 x4 x5 x7 = some res) : qY sM X G 11 (q_Q sM X G (some (.long res.1)) res.2) σ 6 [(0, .long x0), (2, .long x2), (4, .int x4), (5, .long x5), (7, .long x7)] [] := by
  have key : ∀ (n : Nat) (σ : qM) (x0 : Int64) (x2 : Int64) (x4 : Int32) (x5 : Int64) (x7 : Int64) (res : (Int64 × qM)) , qlp (fun _ _ _ _ _ _ => none) (bX5_part_6 ) n σ x0 x2 x4 x5 x7 = some res → qY sM X G 11 (q_Q sM X G (some (.long res.1)) res.2) σ 6 [(0, .long x0), (2, .long x2), (4, .int x4), (5, .long x5), (7, .long x7)] [] := by
    intro n
    induction n with
    | zero => intro σ x0 x2 x4 x5 x7 res h; cases h
    | succ n ih => intro σ x0 x2 x4 x5 x7 res h; exact uX5_part_6 C  (qlp (fun _ _ _ _ _ _ => none) (bX5_part_6 ) n) (fun σ x0 x2 x4 x5 x7 res h => ih σ x0 x2 x4 x5 x7 res h) σ x0 x2 x4 x5 x7 res h
  exact key qFU σ x0 x2 x4 x5 x7 res h
theorem zX5_part {G : qG} {l : Launch} {σ : qM} {x0 : Int64} {x2 : Int64} {x4 : Int32} {res : (Int64 × qM)}  (h : fX5_part σ x0 x2 x4 = some res) : qCon sM G l yX5_part cX5_part 11 (some .long) 0 [.long x0, .long x2, .int x4] σ (some (.long res.1)) res.2 := by
  refine qCon.mkF (lv := [(0, .long x0), (2, .long x2), (4, .int x4)]) (plainFor_of_name (by decide)) (Nat.le_of_ble_eq_true rfl) rfl (fun X hX C => ?_)
  unfold fX5_part at h
  refine q_lload_n (pc := 0) C 0 rfl dX5_part_0 rfl ?_
  refine q_lstore (pc := 1) C dX5_part_1 (by decide) rfl ?_
  refine q_lload_n (pc := 3) C 2 rfl dX5_part_3 rfl ?_
  refine q_lstore (pc := 4) C dX5_part_4 (by decide) rfl ?_
  refine q_sub [2, 3, 4, 1, 0] rfl ?_
  exact tX5_part_6 C _ _ _ _ _ _ _ h
/-! X5_finds -/
theorem zX5_finds {G : qG} {l : Launch} {σ : qM} {x1 : Int32} {res : (Int32 × qM)}  (h : fX5_finds σ x1 = some res) : qCon sM G l yX5_finds cX5_finds 2 (some .int) 0 [.ref (q_ad G 0), .int x1] σ (some (.int res.1)) res.2 := by
  refine qCon.mkF (lv := [(0, .ref (q_ad G 0)), (1, .int x1)]) (plainFor_of_name (by decide)) (Nat.le_of_ble_eq_true rfl) rfl (fun X hX C => ?_)
  unfold fX5_finds at h
  refine q_aload_n (pc := 0) C 0 rfl dX5_finds_0 rfl ?_
  refine q_iload_n (pc := 1) C 1 rfl dX5_finds_1 rfl ?_
  refine q_putI (pc := 2) C fl_RX5_65 kM_0 rfl rfl rfl dX5_finds_2 ?_
  refine q_bipush (pc := 5) C dX5_finds_5 cb_m10 ?_
  refine q_iload_n (pc := 7) C 1 rfl dX5_finds_7 rfl ?_
  refine q_isub (pc := 8) C dX5_finds_8 ?_
  obtain rfl := Option.some.inj h
  exact q_iret (pc := 9) C dX5_finds_9
/-! X5_isSheet -/
theorem zX5_isSheet {G : qG} {l : Launch} {σ : qM} {x0 : Int32} {res : (Int32 × qM)}  (h : fX5_isSheet σ x0 = some res) : qCon sM G l yX5_isSheet cX5_isSheet 1 (some .boolean) 1 [.int x0] σ (some (.int res.1)) res.2 := by
  refine qCon.mkF (lv := [(0, .int x0)]) (plainFor_of_name (by decide)) (Nat.le_of_ble_eq_true rfl) rfl (fun X hX C => ?_)
  unfold fX5_isSheet at h
  refine q_iload_n (pc := 0) C 0 rfl dX5_isSheet_0 rfl ?_
  refine q_i2l (pc := 1) C dX5_isSheet_1 ?_
  refine q_lconst (pc := 2) (v := (0 : Int64)) C dX5_isSheet_2 rfl ?_
  refine q_ldc2 (pc := 3) C kn_RX5_68 dX5_isSheet_3 ?_
  obtain ⟨q1, hq1, h⟩ := q_bind h
  refine q_callS1 (pc := 6) (st := []) C (zX5_in hq1) ys_X5_in ml_RX5_61 rfl (by decide) rfl (Nat.le_of_ble_eq_true rfl) dX5_isSheet_6 ?_
  obtain ⟨g2, h⟩ := q_guard h
  obtain rfl := Option.some.inj h
  exact q_zret (pc := 9) C g2 dX5_isSheet_9
/-! X5_sheet -/
theorem uX5_sheet_55 {X : qX} {G : qG} (C : qC sM X G RX5 cX5_sheet 5 2 (some .int)) (k55 : qM → Int32 → Int32 → Int32 → Option (Int32 × qM)) (hk55 : ∀ (σ : qM) (x1 : Int32) (x3 : Int32) (x4 : Int32) (res : (Int32 × qM)), k55 σ x1 x3 x4 = some res → qY sM X G 5 (q_Q sM X G (some (.int res.1)) res.2) σ 55 [(0, .ref (q_ad G 0)), (1, .int x1), (3, .int x3), (4, .int x4)] []) (σ : qM) (x1 : Int32) (x3 : Int32) (x4 : Int32) (res : (Int32 × qM))  (h : bX5_sheet_55 k55 σ x1 x3 x4 = some res) : qY sM X G 5 (q_Q sM X G (some (.int res.1)) res.2) σ 55 [(0, .ref (q_ad G 0)), (1, .int x1), (3, .int x3), (4, .int x4)] [] := by
  unfold bX5_sheet_55 at h
  refine q_iload (pc := 55) C 3 rfl dX5_sheet_55 ?_
  refine q_iload_n (pc := 57) C 2 rfl dX5_sheet_57 rfl ?_
  refine q_ic_ge (pc := 58) C 80 dX5_sheet_58 (by decide) (fun c1 => ?_) (fun c1 => ?_)
  · have h := q_t c1 h
    refine q_iload_n (pc := 80) C 2 rfl dX5_sheet_80 rfl ?_
    obtain rfl := Option.some.inj h
    exact q_iret (pc := 81) C dX5_sheet_81
  · have h := q_f c1 h
    refine q_aload_n (pc := 61) C 0 rfl dX5_sheet_61 rfl ?_
    refine q_getR (pc := 62) (t := 3) C fl_RX5_16 kM_0 rfl rM_0_2 dX5_sheet_62 ?_
    refine q_bipush (pc := 65) C dX5_sheet_65 cb_60 ?_
    refine q_iload_n (pc := 67) C 1 rfl dX5_sheet_67 rfl ?_
    refine q_imul (pc := 68) C dX5_sheet_68 ?_
    refine q_iload (pc := 69) C 3 rfl dX5_sheet_69 ?_
    refine q_iadd (pc := 71) C dX5_sheet_71 ?_
    refine q_iconst (pc := 72) C dX5_sheet_72 ci_0 ?_
    obtain ⟨g2, h⟩ := q_guard h
    refine q_iast (pc := 73) C kM_3 lM_3 g2 dX5_sheet_73 ?_
    refine q_inc (pc := 74) C 3 rfl ci_1 dX5_sheet_74 (by decide) rfl ?_
    refine q_goto (pc := 77) C 55 dX5_sheet_77 (by decide) ?_
    refine q_sub [1, 2, 3, 0] rfl ?_
    exact hk55 _ _ _ _ _ h
theorem tX5_sheet_55 {X : qX} {G : qG} (C : qC sM X G RX5 cX5_sheet 5 2 (some .int))  (σ : qM) (x1 : Int32) (x3 : Int32) (x4 : Int32) (res : (Int32 × qM))  (h : fX5_sheet_55  σ x1 x3 x4 = some res) : qY sM X G 5 (q_Q sM X G (some (.int res.1)) res.2) σ 55 [(0, .ref (q_ad G 0)), (1, .int x1), (3, .int x3), (4, .int x4)] [] := by
  have key : ∀ (n : Nat) (σ : qM) (x1 : Int32) (x3 : Int32) (x4 : Int32) (res : (Int32 × qM)) , qlp (fun _ _ _ _ => none) (bX5_sheet_55 ) n σ x1 x3 x4 = some res → qY sM X G 5 (q_Q sM X G (some (.int res.1)) res.2) σ 55 [(0, .ref (q_ad G 0)), (1, .int x1), (3, .int x3), (4, .int x4)] [] := by
    intro n
    induction n with
    | zero => intro σ x1 x3 x4 res h; cases h
    | succ n ih => intro σ x1 x3 x4 res h; exact uX5_sheet_55 C  (qlp (fun _ _ _ _ => none) (bX5_sheet_55 ) n) (fun σ x1 x3 x4 res h => ih σ x1 x3 x4 res h) σ x1 x3 x4 res h
  exact key qFU σ x1 x3 x4 res h
theorem tX5_sheet_45 {X : qX} {G : qG} (C : qC sM X G RX5 cX5_sheet 5 2 (some .int))  (σ : qM) (x1 : Int32) (x3 : Int32) (res : (Int32 × qM))  (h : fX5_sheet_45  σ x1 x3 = some res) : qY sM X G 5 (q_Q sM X G (some (.int res.1)) res.2) σ 45 [(0, .ref (q_ad G 0)), (1, .int x1), (3, .int x3)] [] := by
  unfold fX5_sheet_45 at h
  refine q_aload_n (pc := 45) C 0 rfl dX5_sheet_45 rfl ?_
  refine q_getR (pc := 46) (t := 2) C fl_RX5_13 kM_0 rfl rM_0_1 dX5_sheet_46 ?_
  refine q_iload_n (pc := 49) C 1 rfl dX5_sheet_49 rfl ?_
  refine q_iload_n (pc := 50) C 2 rfl dX5_sheet_50 rfl ?_
  obtain ⟨g1, h⟩ := q_guard h
  refine q_iast (pc := 51) C kM_2 lM_2 g1 dX5_sheet_51 ?_
  refine q_iconst (pc := 52) C dX5_sheet_52 ci_0 ?_
  refine q_istore (pc := 53) C dX5_sheet_53 (by decide) rfl ?_
  refine q_sub [1, 2, 3, 0] rfl ?_
  exact tX5_sheet_55 C _ _ _ _ _ h
theorem zX5_sheet {G : qG} {l : Launch} {σ : qM} {x1 : Int32} {x2 : Int32} {x3 : Int32} {res : (Int32 × qM)}  (h : fX5_sheet σ x1 x2 x3 = some res) : qCon sM G l yX5_sheet cX5_sheet 5 (some .int) 2 [.ref (q_ad G 0), .int x1, .int x2, .int x3] σ (some (.int res.1)) res.2 := by
  refine qCon.mkF (lv := [(0, .ref (q_ad G 0)), (1, .int x1), (2, .int x2), (3, .int x3)]) (plainFor_of_name (by decide)) (Nat.le_of_ble_eq_true rfl) rfl (fun X hX C => ?_)
  unfold fX5_sheet at h
  refine q_iload_n (pc := 0) C 1 rfl dX5_sheet_0 rfl ?_
  obtain ⟨q1, hq1, h⟩ := q_bind h
  refine q_callS1 (pc := 1) (st := []) C (zX5_isSheet hq1) ys_X5_isSheet ml_RX5_70 rfl (by decide) rfl (Nat.le_of_ble_eq_true rfl) dX5_sheet_1 ?_
  refine q_if_eq (pc := 4) C 25 dX5_sheet_4 (by decide) (fun c2 => ?_) (fun c2 => ?_)
  · have h := q_t c2 h
    refine q_bipush (pc := 25) C dX5_sheet_25 cb_m2 ?_
    obtain rfl := Option.some.inj h
    exact q_iret (pc := 27) C dX5_sheet_27
  · have h := q_f c2 h
    refine q_iload_n (pc := 7) C 2 rfl dX5_sheet_7 rfl ?_
    refine q_i2l (pc := 8) C dX5_sheet_8 ?_
    refine q_lconst (pc := 9) (v := (0 : Int64)) C dX5_sheet_9 rfl ?_
    refine q_ldc2 (pc := 10) C kn_RX5_74 dX5_sheet_10 ?_
    obtain ⟨q3, hq3, h⟩ := q_bind h
    refine q_callS1 (pc := 13) (st := []) C (zX5_in hq3) ys_X5_in ml_RX5_61 rfl (by decide) rfl (Nat.le_of_ble_eq_true rfl) dX5_sheet_13 ?_
    refine q_if_eq (pc := 16) C 25 dX5_sheet_16 (by decide) (fun c4 => ?_) (fun c4 => ?_)
    · have h := q_t c4 h
      refine q_bipush (pc := 25) C dX5_sheet_25 cb_m2 ?_
      obtain rfl := Option.some.inj h
      exact q_iret (pc := 27) C dX5_sheet_27
    · have h := q_f c4 h
      refine q_iload_n (pc := 19) C 3 rfl dX5_sheet_19 rfl ?_
      refine q_bipush (pc := 20) C dX5_sheet_20 cb_60 ?_
      refine q_ic_le (pc := 22) C 28 dX5_sheet_22 (by decide) (fun c5 => ?_) (fun c5 => ?_)
      · have h := q_t c5 h
        refine q_iload_n (pc := 28) C 3 rfl dX5_sheet_28 rfl ?_
        refine q_if_ge (pc := 29) C 38 dX5_sheet_29 (by decide) (fun c6 => ?_) (fun c6 => ?_)
        · have h := q_t c6 h
          refine q_aload_n (pc := 38) C 0 rfl dX5_sheet_38 rfl ?_
          refine q_getR (pc := 39) (t := 1) C fl_RX5_7 kM_0 rfl rM_0_0 dX5_sheet_39 ?_
          refine q_iload_n (pc := 42) C 1 rfl dX5_sheet_42 rfl ?_
          refine q_iload_n (pc := 43) C 2 rfl dX5_sheet_43 rfl ?_
          obtain ⟨g7, h⟩ := q_guard h
          refine q_iast (pc := 44) C kM_1 lM_1 g7 dX5_sheet_44 ?_
          refine q_sub [0, 1, 3] rfl ?_
          exact tX5_sheet_45 C _ _ _ _ h
        · have h := q_f c6 h
          refine q_aload_n (pc := 32) C 0 rfl dX5_sheet_32 rfl ?_
          refine q_iconst (pc := 33) C dX5_sheet_33 ci_5 ?_
          obtain ⟨q8, hq8, h⟩ := q_bind h
          refine q_callV1 (pc := 34) (st := []) C (zX5_finds hq8) yi_X5_finds ml_RX5_76 kM_0 rfl (by decide) rfl (Nat.le_of_ble_eq_true rfl) dX5_sheet_34 ?_
          obtain rfl := Option.some.inj h
          exact q_iret (pc := 37) C dX5_sheet_37
      · have h := q_f c5 h
        refine q_bipush (pc := 25) C dX5_sheet_25 cb_m2 ?_
        obtain rfl := Option.some.inj h
        exact q_iret (pc := 27) C dX5_sheet_27
/-! X5_lose -/
theorem tX5_lose_32 {X : qX} {G : qG} (C : qC sM X G RX5 cX5_lose 2 2 (some .int))  (σ : qM) (x1 : Int32) (res : (Int32 × qM))  (h : fX5_lose_32  σ x1 = some res) : qY sM X G 2 (q_Q sM X G (some (.int res.1)) res.2) σ 32 [(0, .ref (q_ad G 0)), (1, .int x1)] [] := by
  unfold fX5_lose_32 at h
  refine q_aload_n (pc := 32) C 0 rfl dX5_lose_32 rfl ?_
  refine q_getR (pc := 33) (t := 2) C fl_RX5_13 kM_0 rfl rM_0_1 dX5_lose_33 ?_
  refine q_iload_n (pc := 36) C 1 rfl dX5_lose_36 rfl ?_
  obtain ⟨g1, h⟩ := q_guard h
  refine q_iald (pc := 37) C kM_2 lM_2 g1 dX5_lose_37 ?_
  obtain rfl := Option.some.inj h
  exact q_iret (pc := 38) C dX5_lose_38
theorem zX5_lose {G : qG} {l : Launch} {σ : qM} {x1 : Int32} {res : (Int32 × qM)}  (h : fX5_lose σ x1 = some res) : qCon sM G l yX5_lose cX5_lose 2 (some .int) 2 [.ref (q_ad G 0), .int x1] σ (some (.int res.1)) res.2 := by
  refine qCon.mkF (lv := [(0, .ref (q_ad G 0)), (1, .int x1)]) (plainFor_of_name (by decide)) (Nat.le_of_ble_eq_true rfl) rfl (fun X hX C => ?_)
  unfold fX5_lose at h
  refine q_iload_n (pc := 0) C 1 rfl dX5_lose_0 rfl ?_
  obtain ⟨q1, hq1, h⟩ := q_bind h
  refine q_callS1 (pc := 1) (st := []) C (zX5_isSheet hq1) ys_X5_isSheet ml_RX5_70 rfl (by decide) rfl (Nat.le_of_ble_eq_true rfl) dX5_lose_1 ?_
  refine q_if_ne (pc := 4) C 10 dX5_lose_4 (by decide) (fun c2 => ?_) (fun c2 => ?_)
  · have h := q_f c2 h
    refine q_aload_n (pc := 10) C 0 rfl dX5_lose_10 rfl ?_
    refine q_getR (pc := 11) (t := 1) C fl_RX5_7 kM_0 rfl rM_0_0 dX5_lose_11 ?_
    refine q_iload_n (pc := 14) C 1 rfl dX5_lose_14 rfl ?_
    obtain ⟨g3, h⟩ := q_guard h
    refine q_iald (pc := 15) C kM_1 lM_1 g3 dX5_lose_15 ?_
    refine q_if_ge (pc := 16) C 25 dX5_lose_16 (by decide) (fun c4 => ?_) (fun c4 => ?_)
    · have h := q_t c4 h
      refine q_aload_n (pc := 25) C 0 rfl dX5_lose_25 rfl ?_
      refine q_getR (pc := 26) (t := 1) C fl_RX5_7 kM_0 rfl rM_0_0 dX5_lose_26 ?_
      refine q_iload_n (pc := 29) C 1 rfl dX5_lose_29 rfl ?_
      refine q_iconst (pc := 30) C dX5_lose_30 ci_m1 ?_
      obtain ⟨g5, h⟩ := q_guard h
      refine q_iast (pc := 31) C kM_1 lM_1 g5 dX5_lose_31 ?_
      exact tX5_lose_32 C _ _ _ h
    · have h := q_f c4 h
      refine q_aload_n (pc := 19) C 0 rfl dX5_lose_19 rfl ?_
      refine q_iconst (pc := 20) C dX5_lose_20 ci_1 ?_
      obtain ⟨q6, hq6, h⟩ := q_bind h
      refine q_callV1 (pc := 21) (st := []) C (zX5_finds hq6) yi_X5_finds ml_RX5_76 kM_0 rfl (by decide) rfl (Nat.le_of_ble_eq_true rfl) dX5_lose_21 ?_
      obtain rfl := Option.some.inj h
      exact q_iret (pc := 24) C dX5_lose_24
  · have h := q_t c2 h
    refine q_bipush (pc := 7) C dX5_lose_7 cb_m2 ?_
    obtain rfl := Option.some.inj h
    exact q_iret (pc := 9) C dX5_lose_9
/-! X5_lacks -/
theorem zX5_lacks {G : qG} {l : Launch} {σ : qM} {x1 : Int32} {x2 : Int32} {x3 : Int32} {res : (Int32 × qM)}  (h : fX5_lacks σ x1 x2 x3 = some res) : qCon sM G l yX5_lacks cX5_lacks 4 (some .int) 1 [.ref (q_ad G 0), .int x1, .int x2, .int x3] σ (some (.int res.1)) res.2 := by
  refine qCon.mkF (lv := [(0, .ref (q_ad G 0)), (1, .int x1), (2, .int x2), (3, .int x3)]) (plainFor_of_name (by decide)) (Nat.le_of_ble_eq_true rfl) rfl (fun X hX C => ?_)
  unfold fX5_lacks at h
  refine q_aload_n (pc := 0) C 0 rfl dX5_lacks_0 rfl ?_
  refine q_getR (pc := 1) (t := 1) C fl_RX5_7 kM_0 rfl rM_0_0 dX5_lacks_1 ?_
  refine q_iload_n (pc := 4) C 1 rfl dX5_lacks_4 rfl ?_
  obtain ⟨g1, h⟩ := q_guard h
  refine q_iald (pc := 5) C kM_1 lM_1 g1 dX5_lacks_5 ?_
  refine q_if_ge (pc := 6) C 15 dX5_lacks_6 (by decide) (fun c2 => ?_) (fun c2 => ?_)
  · have h := q_t c2 h
    refine q_aload_n (pc := 15) C 0 rfl dX5_lacks_15 rfl ?_
    refine q_getR (pc := 16) (t := 1) C fl_RX5_7 kM_0 rfl rM_0_0 dX5_lacks_16 ?_
    refine q_iload_n (pc := 19) C 1 rfl dX5_lacks_19 rfl ?_
    obtain ⟨g3, h⟩ := q_guard h
    refine q_iald (pc := 20) C kM_1 lM_1 g3 dX5_lacks_20 ?_
    refine q_iload_n (pc := 21) C 2 rfl dX5_lacks_21 rfl ?_
    refine q_ic_eq (pc := 22) C 31 dX5_lacks_22 (by decide) (fun c4 => ?_) (fun c4 => ?_)
    · have h := q_t c4 h
      refine q_iload_n (pc := 31) C 3 rfl dX5_lacks_31 rfl ?_
      refine q_i2l (pc := 32) C dX5_lacks_32 ?_
      refine q_lconst (pc := 33) (v := (0 : Int64)) C dX5_lacks_33 rfl ?_
      refine q_aload_n (pc := 34) C 0 rfl dX5_lacks_34 rfl ?_
      refine q_getR (pc := 35) (t := 2) C fl_RX5_13 kM_0 rfl rM_0_1 dX5_lacks_35 ?_
      refine q_iload_n (pc := 38) C 1 rfl dX5_lacks_38 rfl ?_
      obtain ⟨g5, h⟩ := q_guard h
      refine q_iald (pc := 39) C kM_2 lM_2 g5 dX5_lacks_39 ?_
      refine q_iconst (pc := 40) C dX5_lacks_40 ci_1 ?_
      refine q_isub (pc := 41) C dX5_lacks_41 ?_
      refine q_i2l (pc := 42) C dX5_lacks_42 ?_
      obtain ⟨q6, hq6, h⟩ := q_bind h
      refine q_callS1 (pc := 43) (st := []) C (zX5_in hq6) ys_X5_in ml_RX5_61 rfl (by decide) rfl (Nat.le_of_ble_eq_true rfl) dX5_lacks_43 ?_
      refine q_if_eq (pc := 46) C 53 dX5_lacks_46 (by decide) (fun c7 => ?_) (fun c7 => ?_)
      · have h := q_t c7 h
        refine q_aload_n (pc := 53) C 0 rfl dX5_lacks_53 rfl ?_
        refine q_iconst (pc := 54) C dX5_lacks_54 ci_2 ?_
        obtain ⟨q8, hq8, h⟩ := q_bind h
        refine q_callV1 (pc := 55) (st := []) C (zX5_finds hq8) yi_X5_finds ml_RX5_76 kM_0 rfl (by decide) rfl (Nat.le_of_ble_eq_true rfl) dX5_lacks_55 ?_
        obtain rfl := Option.some.inj h
        exact q_iret (pc := 58) C dX5_lacks_58
      · have h := q_f c7 h
        refine q_iconst (pc := 49) C dX5_lacks_49 ci_0 ?_
        refine q_goto (pc := 50) C 58 dX5_lacks_50 (by decide) ?_
        obtain rfl := Option.some.inj h
        exact q_iret (pc := 58) C dX5_lacks_58
    · have h := q_f c4 h
      refine q_aload_n (pc := 25) C 0 rfl dX5_lacks_25 rfl ?_
      refine q_iconst (pc := 26) C dX5_lacks_26 ci_3 ?_
      obtain ⟨q9, hq9, h⟩ := q_bind h
      refine q_callV1 (pc := 27) (st := []) C (zX5_finds hq9) yi_X5_finds ml_RX5_76 kM_0 rfl (by decide) rfl (Nat.le_of_ble_eq_true rfl) dX5_lacks_27 ?_
      obtain rfl := Option.some.inj h
      exact q_iret (pc := 30) C dX5_lacks_30
  · have h := q_f c2 h
    refine q_aload_n (pc := 9) C 0 rfl dX5_lacks_9 rfl ?_
    refine q_iconst (pc := 10) C dX5_lacks_10 ci_1 ?_
    obtain ⟨q10, hq10, h⟩ := q_bind h
    refine q_callV1 (pc := 11) (st := []) C (zX5_finds hq10) yi_X5_finds ml_RX5_76 kM_0 rfl (by decide) rfl (Nat.le_of_ble_eq_true rfl) dX5_lacks_11 ?_
    obtain rfl := Option.some.inj h
    exact q_iret (pc := 14) C dX5_lacks_14
/-! X5_cut -/
theorem zX5_cut {G : qG} {l : Launch} {σ : qM} {x0 : Int32} {x1 : Int32} {res : (Int32 × qM)}  (h : fX5_cut σ x0 x1 = some res) : qCon sM G l yX5_cut cX5_cut 2 (some .int) 0 [.int x0, .int x1] σ (some (.int res.1)) res.2 := by
  refine qCon.mkF (lv := [(0, .int x0), (1, .int x1)]) (plainFor_of_name (by decide)) (Nat.le_of_ble_eq_true rfl) rfl (fun X hX C => ?_)
  unfold fX5_cut at h
  refine q_iload_n (pc := 0) C 0 rfl dX5_cut_0 rfl ?_
  refine q_if_ne (pc := 1) C 9 dX5_cut_1 (by decide) (fun c1 => ?_) (fun c1 => ?_)
  · have h := q_f c1 h
    refine q_iload_n (pc := 9) C 0 rfl dX5_cut_9 rfl ?_
    refine q_iconst (pc := 10) C dX5_cut_10 ci_1 ?_
    refine q_ic_ne (pc := 11) C 19 dX5_cut_11 (by decide) (fun c2 => ?_) (fun c2 => ?_)
    · have h := q_f c2 h
      refine q_iload_n (pc := 19) C 1 rfl dX5_cut_19 rfl ?_
      obtain rfl := Option.some.inj h
      exact q_iret (pc := 20) C dX5_cut_20
    · have h := q_t c2 h
      refine q_iload_n (pc := 14) C 1 rfl dX5_cut_14 rfl ?_
      refine q_i2s (pc := 15) C dX5_cut_15 ?_
      refine q_goto (pc := 16) C 20 dX5_cut_16 (by decide) ?_
      obtain rfl := Option.some.inj h
      exact q_iret (pc := 20) C dX5_cut_20
  · have h := q_t c1 h
    refine q_iload_n (pc := 4) C 1 rfl dX5_cut_4 rfl ?_
    refine q_i2b (pc := 5) C dX5_cut_5 ?_
    refine q_goto (pc := 6) C 20 dX5_cut_6 (by decide) ?_
    obtain rfl := Option.some.inj h
    exact q_iret (pc := 20) C dX5_cut_20
/-! X5_lay -/
theorem zX5_lay {G : qG} {l : Launch} {σ : qM} {x1 : Int32} {x2 : Int32} {x3 : Int32} {x4 : Int32} {res : (Int32 × qM)}  (h : fX5_lay σ x1 x2 x3 x4 = some res) : qCon sM G l yX5_lay cX5_lay 6 (some .int) 2 [.ref (q_ad G 0), .int x1, .int x2, .int x3, .int x4] σ (some (.int res.1)) res.2 := by
  refine qCon.mkF (lv := [(0, .ref (q_ad G 0)), (1, .int x1), (2, .int x2), (3, .int x3), (4, .int x4)]) (plainFor_of_name (by decide)) (Nat.le_of_ble_eq_true rfl) rfl (fun X hX C => ?_)
  unfold fX5_lay at h
  refine q_iload_n (pc := 0) C 1 rfl dX5_lay_0 rfl ?_
  obtain ⟨q1, hq1, h⟩ := q_bind h
  refine q_callS1 (pc := 1) (st := []) C (zX5_isSheet hq1) ys_X5_isSheet ml_RX5_70 rfl (by decide) rfl (Nat.le_of_ble_eq_true rfl) dX5_lay_1 ?_
  refine q_if_eq (pc := 4) C 19 dX5_lay_4 (by decide) (fun c2 => ?_) (fun c2 => ?_)
  · have h := q_t c2 h
    refine q_bipush (pc := 19) C dX5_lay_19 cb_m2 ?_
    obtain rfl := Option.some.inj h
    exact q_iret (pc := 21) C dX5_lay_21
  · have h := q_f c2 h
    refine q_iload_n (pc := 7) C 2 rfl dX5_lay_7 rfl ?_
    refine q_i2l (pc := 8) C dX5_lay_8 ?_
    refine q_lconst (pc := 9) (v := (0 : Int64)) C dX5_lay_9 rfl ?_
    refine q_ldc2 (pc := 10) C kn_RX5_74 dX5_lay_10 ?_
    obtain ⟨q3, hq3, h⟩ := q_bind h
    refine q_callS1 (pc := 13) (st := []) C (zX5_in hq3) ys_X5_in ml_RX5_61 rfl (by decide) rfl (Nat.le_of_ble_eq_true rfl) dX5_lay_13 ?_
    refine q_if_ne (pc := 16) C 22 dX5_lay_16 (by decide) (fun c4 => ?_) (fun c4 => ?_)
    · have h := q_f c4 h
      refine q_aload_n (pc := 22) C 0 rfl dX5_lay_22 rfl ?_
      refine q_iload_n (pc := 23) C 1 rfl dX5_lay_23 rfl ?_
      refine q_iload_n (pc := 24) C 2 rfl dX5_lay_24 rfl ?_
      refine q_iload_n (pc := 25) C 3 rfl dX5_lay_25 rfl ?_
      obtain ⟨q5, hq5, h⟩ := q_bind h
      refine q_callV1 (pc := 26) (st := []) C (zX5_lacks hq5) yi_X5_lacks ml_RX5_80 kM_0 rfl (by decide) rfl (Nat.le_of_ble_eq_true rfl) dX5_lay_26 ?_
      refine q_istore (pc := 29) C dX5_lay_29 (by decide) rfl ?_
      refine q_iload (pc := 31) C 0 rfl dX5_lay_31 ?_
      refine q_if_eq (pc := 33) C 39 dX5_lay_33 (by decide) (fun c6 => ?_) (fun c6 => ?_)
      · have h := q_t c6 h
        refine q_aload_n (pc := 39) C 1 rfl dX5_lay_39 rfl ?_
        refine q_getR (pc := 40) (t := 3) C fl_RX5_16 kM_0 rfl rM_0_2 dX5_lay_40 ?_
        refine q_bipush (pc := 43) C dX5_lay_43 cb_60 ?_
        refine q_iload_n (pc := 45) C 2 rfl dX5_lay_45 rfl ?_
        refine q_imul (pc := 46) C dX5_lay_46 ?_
        refine q_iload_n (pc := 47) C 4 rfl dX5_lay_47 rfl ?_
        refine q_iadd (pc := 48) C dX5_lay_48 ?_
        refine q_iload_n (pc := 49) C 3 rfl dX5_lay_49 rfl ?_
        refine q_iload (pc := 50) C 5 rfl dX5_lay_50 ?_
        obtain ⟨q7, hq7, h⟩ := q_bind h
        refine q_callS1 (pc := 52) (st := [.int (((60 : Int32) * x1) + x3), .ref (q_ad G 3)]) C (zX5_cut hq7) ys_X5_cut ml_RX5_84 rfl (by decide) rfl (Nat.le_of_ble_eq_true rfl) dX5_lay_52 ?_
        obtain ⟨g8, h⟩ := q_guard h
        refine q_iast (pc := 55) C kM_3 lM_3 g8 dX5_lay_55 ?_
        refine q_iconst (pc := 56) C dX5_lay_56 ci_1 ?_
        obtain rfl := Option.some.inj h
        exact q_iret (pc := 57) C dX5_lay_57
      · have h := q_f c6 h
        refine q_iload (pc := 36) C 0 rfl dX5_lay_36 ?_
        obtain rfl := Option.some.inj h
        exact q_iret (pc := 38) C dX5_lay_38
    · have h := q_t c4 h
      refine q_bipush (pc := 19) C dX5_lay_19 cb_m2 ?_
      obtain rfl := Option.some.inj h
      exact q_iret (pc := 21) C dX5_lay_21
/-! X5_get -/
theorem zX5_get {G : qG} {l : Launch} {σ : qM} {x1 : Int32} {x2 : Int32} {x3 : Int32} {res : (Int32 × qM)}  (h : fX5_get σ x1 x2 x3 = some res) : qCon sM G l yX5_get cX5_get 4 (some .int) 2 [.ref (q_ad G 0), .int x1, .int x2, .int x3] σ (some (.int res.1)) res.2 := by
  refine qCon.mkF (lv := [(0, .ref (q_ad G 0)), (1, .int x1), (2, .int x2), (3, .int x3)]) (plainFor_of_name (by decide)) (Nat.le_of_ble_eq_true rfl) rfl (fun X hX C => ?_)
  unfold fX5_get at h
  refine q_iload_n (pc := 0) C 1 rfl dX5_get_0 rfl ?_
  obtain ⟨q1, hq1, h⟩ := q_bind h
  refine q_callS1 (pc := 1) (st := []) C (zX5_isSheet hq1) ys_X5_isSheet ml_RX5_70 rfl (by decide) rfl (Nat.le_of_ble_eq_true rfl) dX5_get_1 ?_
  refine q_if_eq (pc := 4) C 29 dX5_get_4 (by decide) (fun c2 => ?_) (fun c2 => ?_)
  · have h := q_t c2 h
    refine q_ldc (pc := 29) C kn_RX5_88 dX5_get_29 ?_
    obtain rfl := Option.some.inj h
    exact q_iret (pc := 31) C dX5_get_31
  · have h := q_f c2 h
    refine q_iload_n (pc := 7) C 2 rfl dX5_get_7 rfl ?_
    refine q_i2l (pc := 8) C dX5_get_8 ?_
    refine q_lconst (pc := 9) (v := (0 : Int64)) C dX5_get_9 rfl ?_
    refine q_ldc2 (pc := 10) C kn_RX5_74 dX5_get_10 ?_
    obtain ⟨q3, hq3, h⟩ := q_bind h
    refine q_callS1 (pc := 13) (st := []) C (zX5_in hq3) ys_X5_in ml_RX5_61 rfl (by decide) rfl (Nat.le_of_ble_eq_true rfl) dX5_get_13 ?_
    refine q_if_eq (pc := 16) C 29 dX5_get_16 (by decide) (fun c4 => ?_) (fun c4 => ?_)
    · have h := q_t c4 h
      refine q_ldc (pc := 29) C kn_RX5_88 dX5_get_29 ?_
      obtain rfl := Option.some.inj h
      exact q_iret (pc := 31) C dX5_get_31
    · have h := q_f c4 h
      refine q_aload_n (pc := 19) C 0 rfl dX5_get_19 rfl ?_
      refine q_iload_n (pc := 20) C 1 rfl dX5_get_20 rfl ?_
      refine q_iload_n (pc := 21) C 2 rfl dX5_get_21 rfl ?_
      refine q_iload_n (pc := 22) C 3 rfl dX5_get_22 rfl ?_
      obtain ⟨q5, hq5, h⟩ := q_bind h
      refine q_callV1 (pc := 23) (st := []) C (zX5_lacks hq5) yi_X5_lacks ml_RX5_80 kM_0 rfl (by decide) rfl (Nat.le_of_ble_eq_true rfl) dX5_get_23 ?_
      refine q_if_eq (pc := 26) C 32 dX5_get_26 (by decide) (fun c6 => ?_) (fun c6 => ?_)
      · have h := q_t c6 h
        refine q_aload_n (pc := 32) C 0 rfl dX5_get_32 rfl ?_
        refine q_getR (pc := 33) (t := 3) C fl_RX5_16 kM_0 rfl rM_0_2 dX5_get_33 ?_
        refine q_bipush (pc := 36) C dX5_get_36 cb_60 ?_
        refine q_iload_n (pc := 38) C 1 rfl dX5_get_38 rfl ?_
        refine q_imul (pc := 39) C dX5_get_39 ?_
        refine q_iload_n (pc := 40) C 3 rfl dX5_get_40 rfl ?_
        refine q_iadd (pc := 41) C dX5_get_41 ?_
        obtain ⟨g7, h⟩ := q_guard h
        refine q_iald (pc := 42) C kM_3 lM_3 g7 dX5_get_42 ?_
        obtain rfl := Option.some.inj h
        exact q_iret (pc := 43) C dX5_get_43
      · have h := q_f c6 h
        refine q_ldc (pc := 29) C kn_RX5_88 dX5_get_29 ?_
        obtain rfl := Option.some.inj h
        exact q_iret (pc := 31) C dX5_get_31
/-! X5_copy -/
theorem tX5_copy_35 {X : qX} {G : qG} (C : qC sM X G RX5 cX5_copy 7 2 (some .int))  (σ : qM)  (res : (Int32 × qM))  (h : fX5_copy_35  σ  = some res) : qY sM X G 7 (q_Q sM X G (some (.int res.1)) res.2) σ 35 [(0, .ref (q_ad G 0))] [] := by
  unfold fX5_copy_35 at h
  refine q_aload_n (pc := 35) C 0 rfl dX5_copy_35 rfl ?_
  refine q_iconst (pc := 36) C dX5_copy_36 ci_1 ?_
  obtain ⟨q1, hq1, h⟩ := q_bind h
  refine q_callV1 (pc := 37) (st := []) C (zX5_finds hq1) yi_X5_finds ml_RX5_76 kM_0 rfl (by decide) rfl (Nat.le_of_ble_eq_true rfl) dX5_copy_37 ?_
  obtain rfl := Option.some.inj h
  exact q_iret (pc := 40) C dX5_copy_40
theorem tX5_copy_111 {X : qX} {G : qG} (C : qC sM X G RX5 cX5_copy 7 2 (some .int))  (σ : qM)  (res : (Int32 × qM))  (h : fX5_copy_111  σ  = some res) : qY sM X G 7 (q_Q sM X G (some (.int res.1)) res.2) σ 111 [(0, .ref (q_ad G 0))] [] := by
  unfold fX5_copy_111 at h
  refine q_aload_n (pc := 111) C 0 rfl dX5_copy_111 rfl ?_
  refine q_iconst (pc := 112) C dX5_copy_112 ci_2 ?_
  obtain ⟨q1, hq1, h⟩ := q_bind h
  refine q_callV1 (pc := 113) (st := []) C (zX5_finds hq1) yi_X5_finds ml_RX5_76 kM_0 rfl (by decide) rfl (Nat.le_of_ble_eq_true rfl) dX5_copy_113 ?_
  obtain rfl := Option.some.inj h
  exact q_iret (pc := 116) C dX5_copy_116
theorem uX5_copy_157 {X : qX} {G : qG} (C : qC sM X G RX5 cX5_copy 7 2 (some .int)) (k157 : qM → Int32 → Int32 → Int32 → Int32 → Option (Int32 × qM)) (hk157 : ∀ (σ : qM) (x3 : Int32) (x4 : Int32) (x5 : Int32) (x6 : Int32) (res : (Int32 × qM)), k157 σ x3 x4 x5 x6 = some res → qY sM X G 7 (q_Q sM X G (some (.int res.1)) res.2) σ 157 [(0, .ref (q_ad G 0)), (3, .int x3), (4, .int x4), (5, .int x5), (6, .int x6)] []) (σ : qM) (x3 : Int32) (x4 : Int32) (x5 : Int32) (x6 : Int32) (res : (Int32 × qM))  (h : bX5_copy_157 k157 σ x3 x4 x5 x6 = some res) : qY sM X G 7 (q_Q sM X G (some (.int res.1)) res.2) σ 157 [(0, .ref (q_ad G 0)), (3, .int x3), (4, .int x4), (5, .int x5), (6, .int x6)] [] := by
  unfold bX5_copy_157 at h
  refine q_iload (pc := 157) C 4 rfl dX5_copy_157 ?_
  refine q_iload (pc := 159) C 3 rfl dX5_copy_159 ?_
  refine q_ic_ge (pc := 161) C 192 dX5_copy_161 (by decide) (fun c1 => ?_) (fun c1 => ?_)
  · have h := q_t c1 h
    refine q_iconst (pc := 192) C dX5_copy_192 ci_1 ?_
    obtain rfl := Option.some.inj h
    exact q_iret (pc := 193) C dX5_copy_193
  · have h := q_f c1 h
    refine q_aload_n (pc := 164) C 0 rfl dX5_copy_164 rfl ?_
    refine q_getR (pc := 165) (t := 3) C fl_RX5_16 kM_0 rfl rM_0_2 dX5_copy_165 ?_
    refine q_bipush (pc := 168) C dX5_copy_168 cb_60 ?_
    refine q_iload_n (pc := 170) C 1 rfl dX5_copy_170 rfl ?_
    refine q_imul (pc := 171) C dX5_copy_171 ?_
    refine q_iload (pc := 172) C 2 rfl dX5_copy_172 ?_
    refine q_iadd (pc := 174) C dX5_copy_174 ?_
    refine q_iload (pc := 175) C 4 rfl dX5_copy_175 ?_
    refine q_iadd (pc := 177) C dX5_copy_177 ?_
    refine q_aload_n (pc := 178) C 0 rfl dX5_copy_178 rfl ?_
    refine q_getR (pc := 179) (t := 4) C fl_RX5_19 kM_0 rfl rM_0_3 dX5_copy_179 ?_
    refine q_iload (pc := 182) C 4 rfl dX5_copy_182 ?_
    obtain ⟨g2, h⟩ := q_guard h
    refine q_iald (pc := 184) C kM_4 lM_4 g2 dX5_copy_184 ?_
    obtain ⟨g3, h⟩ := q_guard h
    refine q_iast (pc := 185) C kM_3 lM_3 g3 dX5_copy_185 ?_
    refine q_inc (pc := 186) C 4 rfl ci_1 dX5_copy_186 (by decide) rfl ?_
    refine q_goto (pc := 189) C 157 dX5_copy_189 (by decide) ?_
    refine q_sub [1, 2, 3, 4, 0] rfl ?_
    exact hk157 _ _ _ _ _ _ h
theorem tX5_copy_157 {X : qX} {G : qG} (C : qC sM X G RX5 cX5_copy 7 2 (some .int))  (σ : qM) (x3 : Int32) (x4 : Int32) (x5 : Int32) (x6 : Int32) (res : (Int32 × qM))  (h : fX5_copy_157  σ x3 x4 x5 x6 = some res) : qY sM X G 7 (q_Q sM X G (some (.int res.1)) res.2) σ 157 [(0, .ref (q_ad G 0)), (3, .int x3), (4, .int x4), (5, .int x5), (6, .int x6)] [] := by
  have key : ∀ (n : Nat) (σ : qM) (x3 : Int32) (x4 : Int32) (x5 : Int32) (x6 : Int32) (res : (Int32 × qM)) , qlp (fun _ _ _ _ _ => none) (bX5_copy_157 ) n σ x3 x4 x5 x6 = some res → qY sM X G 7 (q_Q sM X G (some (.int res.1)) res.2) σ 157 [(0, .ref (q_ad G 0)), (3, .int x3), (4, .int x4), (5, .int x5), (6, .int x6)] [] := by
    intro n
    induction n with
    | zero => intro σ x3 x4 x5 x6 res h; cases h
    | succ n ih => intro σ x3 x4 x5 x6 res h; exact uX5_copy_157 C  (qlp (fun _ _ _ _ _ => none) (bX5_copy_157 ) n) (fun σ x3 x4 x5 x6 res h => ih σ x3 x4 x5 x6 res h) σ x3 x4 x5 x6 res h
  exact key qFU σ x3 x4 x5 x6 res h
theorem uX5_copy_120 {X : qX} {G : qG} (C : qC sM X G RX5 cX5_copy 7 2 (some .int)) (k120 : qM → Int32 → Int32 → Int32 → Int32 → Int32 → Int32 → Option (Int32 × qM)) (hk120 : ∀ (σ : qM) (x1 : Int32) (x2 : Int32) (x3 : Int32) (x4 : Int32) (x5 : Int32) (x6 : Int32) (res : (Int32 × qM)), k120 σ x1 x2 x3 x4 x5 x6 = some res → qY sM X G 7 (q_Q sM X G (some (.int res.1)) res.2) σ 120 [(0, .ref (q_ad G 0)), (1, .int x1), (2, .int x2), (3, .int x3), (4, .int x4), (5, .int x5), (6, .int x6)] []) (σ : qM) (x1 : Int32) (x2 : Int32) (x3 : Int32) (x4 : Int32) (x5 : Int32) (x6 : Int32) (res : (Int32 × qM))  (h : bX5_copy_120 k120 σ x1 x2 x3 x4 x5 x6 = some res) : qY sM X G 7 (q_Q sM X G (some (.int res.1)) res.2) σ 120 [(0, .ref (q_ad G 0)), (1, .int x1), (2, .int x2), (3, .int x3), (4, .int x4), (5, .int x5), (6, .int x6)] [] := by
  unfold bX5_copy_120 at h
  refine q_iload (pc := 120) C 6 rfl dX5_copy_120 ?_
  refine q_iload (pc := 122) C 5 rfl dX5_copy_122 ?_
  refine q_ic_ge (pc := 124) C 154 dX5_copy_124 (by decide) (fun c1 => ?_) (fun c1 => ?_)
  · have h := q_t c1 h
    refine q_iconst (pc := 154) C dX5_copy_154 ci_0 ?_
    refine q_istore (pc := 155) C dX5_copy_155 (by decide) rfl ?_
    refine q_sub [1, 4, 5, 6, 0] rfl ?_
    exact tX5_copy_157 C _ _ _ _ _ _ h
  · have h := q_f c1 h
    refine q_aload_n (pc := 127) C 0 rfl dX5_copy_127 rfl ?_
    refine q_getR (pc := 128) (t := 4) C fl_RX5_19 kM_0 rfl rM_0_3 dX5_copy_128 ?_
    refine q_iload (pc := 131) C 6 rfl dX5_copy_131 ?_
    refine q_aload_n (pc := 133) C 0 rfl dX5_copy_133 rfl ?_
    refine q_getR (pc := 134) (t := 3) C fl_RX5_16 kM_0 rfl rM_0_2 dX5_copy_134 ?_
    refine q_bipush (pc := 137) C dX5_copy_137 cb_60 ?_
    refine q_iload_n (pc := 139) C 1 rfl dX5_copy_139 rfl ?_
    refine q_imul (pc := 140) C dX5_copy_140 ?_
    refine q_iload_n (pc := 141) C 2 rfl dX5_copy_141 rfl ?_
    refine q_iadd (pc := 142) C dX5_copy_142 ?_
    refine q_iload (pc := 143) C 6 rfl dX5_copy_143 ?_
    refine q_iadd (pc := 145) C dX5_copy_145 ?_
    obtain ⟨g2, h⟩ := q_guard h
    refine q_iald (pc := 146) C kM_3 lM_3 g2 dX5_copy_146 ?_
    obtain ⟨g3, h⟩ := q_guard h
    refine q_iast (pc := 147) C kM_4 lM_4 g3 dX5_copy_147 ?_
    refine q_inc (pc := 148) C 6 rfl ci_1 dX5_copy_148 (by decide) rfl ?_
    refine q_goto (pc := 151) C 120 dX5_copy_151 (by decide) ?_
    refine q_sub [1, 2, 3, 4, 5, 6, 0] rfl ?_
    exact hk120 _ _ _ _ _ _ _ _ h
theorem tX5_copy_120 {X : qX} {G : qG} (C : qC sM X G RX5 cX5_copy 7 2 (some .int))  (σ : qM) (x1 : Int32) (x2 : Int32) (x3 : Int32) (x4 : Int32) (x5 : Int32) (x6 : Int32) (res : (Int32 × qM))  (h : fX5_copy_120  σ x1 x2 x3 x4 x5 x6 = some res) : qY sM X G 7 (q_Q sM X G (some (.int res.1)) res.2) σ 120 [(0, .ref (q_ad G 0)), (1, .int x1), (2, .int x2), (3, .int x3), (4, .int x4), (5, .int x5), (6, .int x6)] [] := by
  have key : ∀ (n : Nat) (σ : qM) (x1 : Int32) (x2 : Int32) (x3 : Int32) (x4 : Int32) (x5 : Int32) (x6 : Int32) (res : (Int32 × qM)) , qlp (fun _ _ _ _ _ _ _ => none) (bX5_copy_120 ) n σ x1 x2 x3 x4 x5 x6 = some res → qY sM X G 7 (q_Q sM X G (some (.int res.1)) res.2) σ 120 [(0, .ref (q_ad G 0)), (1, .int x1), (2, .int x2), (3, .int x3), (4, .int x4), (5, .int x5), (6, .int x6)] [] := by
    intro n
    induction n with
    | zero => intro σ x1 x2 x3 x4 x5 x6 res h; cases h
    | succ n ih => intro σ x1 x2 x3 x4 x5 x6 res h; exact uX5_copy_120 C  (qlp (fun _ _ _ _ _ _ _ => none) (bX5_copy_120 ) n) (fun σ x1 x2 x3 x4 x5 x6 res h => ih σ x1 x2 x3 x4 x5 x6 res h) σ x1 x2 x3 x4 x5 x6 res h
  exact key qFU σ x1 x2 x3 x4 x5 x6 res h
theorem zX5_copy {G : qG} {l : Launch} {σ : qM} {x1 : Int32} {x2 : Int32} {x3 : Int32} {x4 : Int32} {x5 : Int32} {res : (Int32 × qM)}  (h : fX5_copy σ x1 x2 x3 x4 x5 = some res) : qCon sM G l yX5_copy cX5_copy 7 (some .int) 2 [.ref (q_ad G 0), .int x1, .int x2, .int x3, .int x4, .int x5] σ (some (.int res.1)) res.2 := by
  refine qCon.mkF (lv := [(0, .ref (q_ad G 0)), (1, .int x1), (2, .int x2), (3, .int x3), (4, .int x4), (5, .int x5)]) (plainFor_of_name (by decide)) (Nat.le_of_ble_eq_true rfl) rfl (fun X hX C => ?_)
  unfold fX5_copy at h
  refine q_iload_n (pc := 0) C 1 rfl dX5_copy_0 rfl ?_
  obtain ⟨q1, hq1, h⟩ := q_bind h
  refine q_callS1 (pc := 1) (st := []) C (zX5_isSheet hq1) ys_X5_isSheet ml_RX5_70 rfl (by decide) rfl (Nat.le_of_ble_eq_true rfl) dX5_copy_1 ?_
  refine q_if_eq (pc := 4) C 14 dX5_copy_4 (by decide) (fun c2 => ?_) (fun c2 => ?_)
  · have h := q_t c2 h
    refine q_bipush (pc := 14) C dX5_copy_14 cb_m2 ?_
    obtain rfl := Option.some.inj h
    exact q_iret (pc := 16) C dX5_copy_16
  · have h := q_f c2 h
    refine q_iload_n (pc := 7) C 3 rfl dX5_copy_7 rfl ?_
    obtain ⟨q3, hq3, h⟩ := q_bind h
    refine q_callS1 (pc := 8) (st := []) C (zX5_isSheet hq3) ys_X5_isSheet ml_RX5_70 rfl (by decide) rfl (Nat.le_of_ble_eq_true rfl) dX5_copy_8 ?_
    refine q_if_ne (pc := 11) C 17 dX5_copy_11 (by decide) (fun c4 => ?_) (fun c4 => ?_)
    · have h := q_f c4 h
      refine q_aload_n (pc := 17) C 0 rfl dX5_copy_17 rfl ?_
      refine q_getR (pc := 18) (t := 1) C fl_RX5_7 kM_0 rfl rM_0_0 dX5_copy_18 ?_
      refine q_iload_n (pc := 21) C 1 rfl dX5_copy_21 rfl ?_
      obtain ⟨g5, h⟩ := q_guard h
      refine q_iald (pc := 22) C kM_1 lM_1 g5 dX5_copy_22 ?_
      refine q_if_lt (pc := 23) C 35 dX5_copy_23 (by decide) (fun c6 => ?_) (fun c6 => ?_)
      · have h := q_t c6 h
        refine q_sub [0] rfl ?_
        exact tX5_copy_35 C _ _ h
      · have h := q_f c6 h
        refine q_aload_n (pc := 26) C 0 rfl dX5_copy_26 rfl ?_
        refine q_getR (pc := 27) (t := 1) C fl_RX5_7 kM_0 rfl rM_0_0 dX5_copy_27 ?_
        refine q_iload_n (pc := 30) C 3 rfl dX5_copy_30 rfl ?_
        obtain ⟨g7, h⟩ := q_guard h
        refine q_iald (pc := 31) C kM_1 lM_1 g7 dX5_copy_31 ?_
        refine q_if_ge (pc := 32) C 41 dX5_copy_32 (by decide) (fun c8 => ?_) (fun c8 => ?_)
        · have h := q_t c8 h
          refine q_aload_n (pc := 41) C 0 rfl dX5_copy_41 rfl ?_
          refine q_getR (pc := 42) (t := 1) C fl_RX5_7 kM_0 rfl rM_0_0 dX5_copy_42 ?_
          refine q_iload_n (pc := 45) C 1 rfl dX5_copy_45 rfl ?_
          obtain ⟨g9, h⟩ := q_guard h
          refine q_iald (pc := 46) C kM_1 lM_1 g9 dX5_copy_46 ?_
          refine q_aload_n (pc := 47) C 0 rfl dX5_copy_47 rfl ?_
          refine q_getR (pc := 48) (t := 1) C fl_RX5_7 kM_0 rfl rM_0_0 dX5_copy_48 ?_
          refine q_iload_n (pc := 51) C 3 rfl dX5_copy_51 rfl ?_
          obtain ⟨g10, h⟩ := q_guard h
          refine q_iald (pc := 52) C kM_1 lM_1 g10 dX5_copy_52 ?_
          refine q_ic_eq (pc := 53) C 62 dX5_copy_53 (by decide) (fun c11 => ?_) (fun c11 => ?_)
          · have h := q_t c11 h
            refine q_iload_n (pc := 62) C 2 rfl dX5_copy_62 rfl ?_
            refine q_if_lt (pc := 63) C 111 dX5_copy_63 (by decide) (fun c12 => ?_) (fun c12 => ?_)
            · have h := q_t c12 h
              refine q_sub [0] rfl ?_
              exact tX5_copy_111 C _ _ h
            · have h := q_f c12 h
              refine q_iload (pc := 66) C 4 rfl dX5_copy_66 ?_
              refine q_if_lt (pc := 68) C 111 dX5_copy_68 (by decide) (fun c13 => ?_) (fun c13 => ?_)
              · have h := q_t c13 h
                refine q_sub [0] rfl ?_
                exact tX5_copy_111 C _ _ h
              · have h := q_f c13 h
                refine q_iload (pc := 71) C 5 rfl dX5_copy_71 ?_
                refine q_if_lt (pc := 73) C 111 dX5_copy_73 (by decide) (fun c14 => ?_) (fun c14 => ?_)
                · have h := q_t c14 h
                  refine q_sub [0] rfl ?_
                  exact tX5_copy_111 C _ _ h
                · have h := q_f c14 h
                  refine q_iload_n (pc := 76) C 2 rfl dX5_copy_76 rfl ?_
                  refine q_i2l (pc := 77) C dX5_copy_77 ?_
                  refine q_iload (pc := 78) C 5 rfl dX5_copy_78 ?_
                  refine q_i2l (pc := 80) C dX5_copy_80 ?_
                  refine q_ladd (pc := 81) C dX5_copy_81 ?_
                  refine q_aload_n (pc := 82) C 0 rfl dX5_copy_82 rfl ?_
                  refine q_getR (pc := 83) (t := 2) C fl_RX5_13 kM_0 rfl rM_0_1 dX5_copy_83 ?_
                  refine q_iload_n (pc := 86) C 1 rfl dX5_copy_86 rfl ?_
                  obtain ⟨g15, h⟩ := q_guard h
                  refine q_iald (pc := 87) C kM_2 lM_2 g15 dX5_copy_87 ?_
                  refine q_i2l (pc := 88) C dX5_copy_88 ?_
                  refine q_lcmp (pc := 89) C dX5_copy_89 ?_
                  refine q_if_gt (pc := 90) C 111 dX5_copy_90 (by decide) (fun c16 => ?_) (fun c16 => ?_)
                  · have h := q_t c16 h
                    refine q_sub [0] rfl ?_
                    exact tX5_copy_111 C _ _ h
                  · have h := q_f c16 h
                    refine q_iload (pc := 93) C 4 rfl dX5_copy_93 ?_
                    refine q_i2l (pc := 95) C dX5_copy_95 ?_
                    refine q_iload (pc := 96) C 5 rfl dX5_copy_96 ?_
                    refine q_i2l (pc := 98) C dX5_copy_98 ?_
                    refine q_ladd (pc := 99) C dX5_copy_99 ?_
                    refine q_aload_n (pc := 100) C 0 rfl dX5_copy_100 rfl ?_
                    refine q_getR (pc := 101) (t := 2) C fl_RX5_13 kM_0 rfl rM_0_1 dX5_copy_101 ?_
                    refine q_iload_n (pc := 104) C 3 rfl dX5_copy_104 rfl ?_
                    obtain ⟨g17, h⟩ := q_guard h
                    refine q_iald (pc := 105) C kM_2 lM_2 g17 dX5_copy_105 ?_
                    refine q_i2l (pc := 106) C dX5_copy_106 ?_
                    refine q_lcmp (pc := 107) C dX5_copy_107 ?_
                    refine q_if_le (pc := 108) C 117 dX5_copy_108 (by decide) (fun c18 => ?_) (fun c18 => ?_)
                    · have h := q_t c18 h
                      refine q_iconst (pc := 117) C dX5_copy_117 ci_0 ?_
                      refine q_istore (pc := 118) C dX5_copy_118 (by decide) rfl ?_
                      refine q_sub [1, 2, 3, 4, 5, 6, 0] rfl ?_
                      exact tX5_copy_120 C _ _ _ _ _ _ _ _ h
                    · have h := q_f c18 h
                      refine q_sub [0] rfl ?_
                      exact tX5_copy_111 C _ _ h
          · have h := q_f c11 h
            refine q_aload_n (pc := 56) C 0 rfl dX5_copy_56 rfl ?_
            refine q_iconst (pc := 57) C dX5_copy_57 ci_4 ?_
            obtain ⟨q19, hq19, h⟩ := q_bind h
            refine q_callV1 (pc := 58) (st := []) C (zX5_finds hq19) yi_X5_finds ml_RX5_76 kM_0 rfl (by decide) rfl (Nat.le_of_ble_eq_true rfl) dX5_copy_58 ?_
            obtain rfl := Option.some.inj h
            exact q_iret (pc := 61) C dX5_copy_61
        · have h := q_f c8 h
          refine q_sub [0] rfl ?_
          exact tX5_copy_35 C _ _ h
    · have h := q_t c4 h
      refine q_bipush (pc := 14) C dX5_copy_14 cb_m2 ?_
      obtain rfl := Option.some.inj h
      exact q_iret (pc := 16) C dX5_copy_16
/-! X5_type -/
theorem tX5_type_72 {X : qX} {G : qG} (C : qC sM X G RX5 cX5_type 3 2 (some .int))  (σ : qM) (x1 : Int32) (res : (Int32 × qM))  (h : fX5_type_72  σ x1 = some res) : qY sM X G 3 (q_Q sM X G (some (.int res.1)) res.2) σ 72 [(0, .ref (q_ad G 0)), (1, .int x1)] [] := by
  unfold fX5_type_72 at h
  refine q_aload_n (pc := 72) C 0 rfl dX5_type_72 rfl ?_
  refine q_getR (pc := 73) (t := 6) C fl_RX5_25 kM_0 rfl rM_0_6 dX5_type_73 ?_
  refine q_iload_n (pc := 76) C 1 rfl dX5_type_76 rfl ?_
  obtain ⟨g1, h⟩ := q_guard h
  refine q_iald (pc := 77) C kM_6 lM_6 g1 dX5_type_77 ?_
  obtain rfl := Option.some.inj h
  exact q_iret (pc := 78) C dX5_type_78
theorem tX5_type_62 {X : qX} {G : qG} (C : qC sM X G RX5 cX5_type 3 2 (some .int))  (σ : qM) (x1 : Int32) (res : (Int32 × qM))  (h : fX5_type_62  σ x1 = some res) : qY sM X G 3 (q_Q sM X G (some (.int res.1)) res.2) σ 62 [(0, .ref (q_ad G 0)), (1, .int x1)] [] := by
  unfold fX5_type_62 at h
  refine q_aload_n (pc := 62) C 0 rfl dX5_type_62 rfl ?_
  refine q_getR (pc := 63) (t := 6) C fl_RX5_25 kM_0 rfl rM_0_6 dX5_type_63 ?_
  refine q_iload_n (pc := 66) C 1 rfl dX5_type_66 rfl ?_
  refine q_dup2 (pc := 67) C dX5_type_67 rfl rfl ?_
  obtain ⟨g1, h⟩ := q_guard h
  refine q_iald (pc := 68) C kM_6 lM_6 g1 dX5_type_68 ?_
  refine q_iconst (pc := 69) C dX5_type_69 ci_1 ?_
  refine q_iadd (pc := 70) C dX5_type_70 ?_
  obtain ⟨g2, h⟩ := q_guard h
  refine q_iast (pc := 71) C kM_6 lM_6 g2 dX5_type_71 ?_
  exact tX5_type_72 C _ _ _ h
theorem tX5_type_39 {X : qX} {G : qG} (C : qC sM X G RX5 cX5_type 3 2 (some .int))  (σ : qM) (x1 : Int32) (x2 : Int32) (t0 : Int32) (t1 : Int32) (res : (Int32 × qM))  (h : fX5_type_39  σ x1 x2 t0 t1 = some res) : qY sM X G 3 (q_Q sM X G (some (.int res.1)) res.2) σ 39 [(0, .ref (q_ad G 0)), (1, .int x1), (2, .int x2)] [.int t0, .int t1] := by
  unfold fX5_type_39 at h
  refine q_ic_ne (pc := 39) C 45 dX5_type_39 (by decide) (fun c1 => ?_) (fun c1 => ?_)
  · have h := q_f c1 h
    refine q_aload_n (pc := 45) C 0 rfl dX5_type_45 rfl ?_
    refine q_getR (pc := 46) (t := 5) C fl_RX5_22 kM_0 rfl rM_0_5 dX5_type_46 ?_
    refine q_bipush (pc := 49) C dX5_type_49 cb_60 ?_
    refine q_iload_n (pc := 51) C 1 rfl dX5_type_51 rfl ?_
    refine q_imul (pc := 52) C dX5_type_52 ?_
    refine q_aload_n (pc := 53) C 0 rfl dX5_type_53 rfl ?_
    refine q_getR (pc := 54) (t := 6) C fl_RX5_25 kM_0 rfl rM_0_6 dX5_type_54 ?_
    refine q_iload_n (pc := 57) C 1 rfl dX5_type_57 rfl ?_
    obtain ⟨g2, h⟩ := q_guard h
    refine q_iald (pc := 58) C kM_6 lM_6 g2 dX5_type_58 ?_
    refine q_iadd (pc := 59) C dX5_type_59 ?_
    refine q_iload_n (pc := 60) C 2 rfl dX5_type_60 rfl ?_
    obtain ⟨g3, h⟩ := q_guard h
    refine q_iast (pc := 61) C kM_5 lM_5 g3 dX5_type_61 ?_
    refine q_sub [0, 1] rfl ?_
    exact tX5_type_62 C _ _ _ h
  · have h := q_t c1 h
    refine q_bipush (pc := 42) C dX5_type_42 cb_m4 ?_
    obtain rfl := Option.some.inj h
    exact q_iret (pc := 44) C dX5_type_44
theorem zX5_type {G : qG} {l : Launch} {σ : qM} {x1 : Int32} {x2 : Int32} {res : (Int32 × qM)}  (h : fX5_type σ x1 x2 = some res) : qCon sM G l yX5_type cX5_type 3 (some .int) 2 [.ref (q_ad G 0), .int x1, .int x2] σ (some (.int res.1)) res.2 := by
  refine qCon.mkF (lv := [(0, .ref (q_ad G 0)), (1, .int x1), (2, .int x2)]) (plainFor_of_name (by decide)) (Nat.le_of_ble_eq_true rfl) rfl (fun X hX C => ?_)
  unfold fX5_type at h
  refine q_iload_n (pc := 0) C 1 rfl dX5_type_0 rfl ?_
  obtain ⟨q1, hq1, h⟩ := q_bind h
  refine q_callS1 (pc := 1) (st := []) C (zX5_isTwo hq1) ys_X5_isTwo ml_RX5_89 rfl (by decide) rfl (Nat.le_of_ble_eq_true rfl) dX5_type_1 ?_
  refine q_if_eq (pc := 4) C 19 dX5_type_4 (by decide) (fun c2 => ?_) (fun c2 => ?_)
  · have h := q_t c2 h
    refine q_bipush (pc := 19) C dX5_type_19 cb_m2 ?_
    obtain rfl := Option.some.inj h
    exact q_iret (pc := 21) C dX5_type_21
  · have h := q_f c2 h
    refine q_iload_n (pc := 7) C 2 rfl dX5_type_7 rfl ?_
    refine q_i2l (pc := 8) C dX5_type_8 ?_
    refine q_lconst (pc := 9) (v := (0 : Int64)) C dX5_type_9 rfl ?_
    refine q_ldc2 (pc := 10) C kn_RX5_92 dX5_type_10 ?_
    obtain ⟨q3, hq3, h⟩ := q_bind h
    refine q_callS1 (pc := 13) (st := []) C (zX5_in hq3) ys_X5_in ml_RX5_61 rfl (by decide) rfl (Nat.le_of_ble_eq_true rfl) dX5_type_13 ?_
    refine q_if_ne (pc := 16) C 22 dX5_type_16 (by decide) (fun c4 => ?_) (fun c4 => ?_)
    · have h := q_f c4 h
      refine q_aload_n (pc := 22) C 0 rfl dX5_type_22 rfl ?_
      refine q_getR (pc := 23) (t := 6) C fl_RX5_25 kM_0 rfl rM_0_6 dX5_type_23 ?_
      refine q_iload_n (pc := 26) C 1 rfl dX5_type_26 rfl ?_
      obtain ⟨g5, h⟩ := q_guard h
      refine q_iald (pc := 27) C kM_6 lM_6 g5 dX5_type_27 ?_
      refine q_iload_n (pc := 28) C 1 rfl dX5_type_28 rfl ?_
      refine q_if_ne (pc := 29) C 37 dX5_type_29 (by decide) (fun c6 => ?_) (fun c6 => ?_)
      · have h := q_f c6 h
        refine q_bipush (pc := 37) C dX5_type_37 cb_59 ?_
        exact tX5_type_39 C _ _ _ _ _ _ h
      · have h := q_t c6 h
        refine q_bipush (pc := 32) C dX5_type_32 cb_47 ?_
        refine q_goto (pc := 34) C 39 dX5_type_34 (by decide) ?_
        exact tX5_type_39 C _ _ _ _ _ _ h
    · have h := q_t c4 h
      refine q_bipush (pc := 19) C dX5_type_19 cb_m2 ?_
      obtain rfl := Option.some.inj h
      exact q_iret (pc := 21) C dX5_type_21
/-! X5_wipe -/
theorem zX5_wipe {G : qG} {l : Launch} {σ : qM} {x1 : Int32} {res : (Int32 × qM)}  (h : fX5_wipe σ x1 = some res) : qCon sM G l yX5_wipe cX5_wipe 3 (some .int) 2 [.ref (q_ad G 0), .int x1] σ (some (.int res.1)) res.2 := by
  refine qCon.mkF (lv := [(0, .ref (q_ad G 0)), (1, .int x1)]) (plainFor_of_name (by decide)) (Nat.le_of_ble_eq_true rfl) rfl (fun X hX C => ?_)
  unfold fX5_wipe at h
  refine q_iload_n (pc := 0) C 1 rfl dX5_wipe_0 rfl ?_
  obtain ⟨q1, hq1, h⟩ := q_bind h
  refine q_callS1 (pc := 1) (st := []) C (zX5_isTwo hq1) ys_X5_isTwo ml_RX5_89 rfl (by decide) rfl (Nat.le_of_ble_eq_true rfl) dX5_wipe_1 ?_
  refine q_if_ne (pc := 4) C 10 dX5_wipe_4 (by decide) (fun c2 => ?_) (fun c2 => ?_)
  · have h := q_f c2 h
    refine q_aload_n (pc := 10) C 0 rfl dX5_wipe_10 rfl ?_
    refine q_getR (pc := 11) (t := 6) C fl_RX5_25 kM_0 rfl rM_0_6 dX5_wipe_11 ?_
    refine q_iload_n (pc := 14) C 1 rfl dX5_wipe_14 rfl ?_
    obtain ⟨g3, h⟩ := q_guard h
    refine q_iald (pc := 15) C kM_6 lM_6 g3 dX5_wipe_15 ?_
    refine q_istore_n (pc := 16) C dX5_wipe_16 rfl (by decide) rfl ?_
    refine q_aload_n (pc := 17) C 1 rfl dX5_wipe_17 rfl ?_
    refine q_getR (pc := 18) (t := 6) C fl_RX5_25 kM_0 rfl rM_0_6 dX5_wipe_18 ?_
    refine q_iload_n (pc := 21) C 2 rfl dX5_wipe_21 rfl ?_
    refine q_iconst (pc := 22) C dX5_wipe_22 ci_0 ?_
    obtain ⟨g4, h⟩ := q_guard h
    refine q_iast (pc := 23) C kM_6 lM_6 g4 dX5_wipe_23 ?_
    refine q_iload_n (pc := 24) C 0 rfl dX5_wipe_24 rfl ?_
    obtain rfl := Option.some.inj h
    exact q_iret (pc := 25) C dX5_wipe_25
  · have h := q_t c2 h
    refine q_bipush (pc := 7) C dX5_wipe_7 cb_m2 ?_
    obtain rfl := Option.some.inj h
    exact q_iret (pc := 9) C dX5_wipe_9
/-! X5_undo -/
theorem tX5_undo_32 {X : qX} {G : qG} (C : qC sM X G RX5 cX5_undo 2 2 (some .int))  (σ : qM) (x1 : Int32) (res : (Int32 × qM))  (h : fX5_undo_32  σ x1 = some res) : qY sM X G 2 (q_Q sM X G (some (.int res.1)) res.2) σ 32 [(0, .ref (q_ad G 0)), (1, .int x1)] [] := by
  unfold fX5_undo_32 at h
  refine q_aload_n (pc := 32) C 0 rfl dX5_undo_32 rfl ?_
  refine q_getR (pc := 33) (t := 6) C fl_RX5_25 kM_0 rfl rM_0_6 dX5_undo_33 ?_
  refine q_iload_n (pc := 36) C 1 rfl dX5_undo_36 rfl ?_
  obtain ⟨g1, h⟩ := q_guard h
  refine q_iald (pc := 37) C kM_6 lM_6 g1 dX5_undo_37 ?_
  obtain rfl := Option.some.inj h
  exact q_iret (pc := 38) C dX5_undo_38
theorem zX5_undo {G : qG} {l : Launch} {σ : qM} {x1 : Int32} {res : (Int32 × qM)}  (h : fX5_undo σ x1 = some res) : qCon sM G l yX5_undo cX5_undo 2 (some .int) 2 [.ref (q_ad G 0), .int x1] σ (some (.int res.1)) res.2 := by
  refine qCon.mkF (lv := [(0, .ref (q_ad G 0)), (1, .int x1)]) (plainFor_of_name (by decide)) (Nat.le_of_ble_eq_true rfl) rfl (fun X hX C => ?_)
  unfold fX5_undo at h
  refine q_iload_n (pc := 0) C 1 rfl dX5_undo_0 rfl ?_
  obtain ⟨q1, hq1, h⟩ := q_bind h
  refine q_callS1 (pc := 1) (st := []) C (zX5_isTwo hq1) ys_X5_isTwo ml_RX5_89 rfl (by decide) rfl (Nat.le_of_ble_eq_true rfl) dX5_undo_1 ?_
  refine q_if_ne (pc := 4) C 10 dX5_undo_4 (by decide) (fun c2 => ?_) (fun c2 => ?_)
  · have h := q_f c2 h
    refine q_aload_n (pc := 10) C 0 rfl dX5_undo_10 rfl ?_
    refine q_getR (pc := 11) (t := 6) C fl_RX5_25 kM_0 rfl rM_0_6 dX5_undo_11 ?_
    refine q_iload_n (pc := 14) C 1 rfl dX5_undo_14 rfl ?_
    obtain ⟨g3, h⟩ := q_guard h
    refine q_iald (pc := 15) C kM_6 lM_6 g3 dX5_undo_15 ?_
    refine q_if_ne (pc := 16) C 22 dX5_undo_16 (by decide) (fun c4 => ?_) (fun c4 => ?_)
    · have h := q_f c4 h
      refine q_aload_n (pc := 22) C 0 rfl dX5_undo_22 rfl ?_
      refine q_getR (pc := 23) (t := 6) C fl_RX5_25 kM_0 rfl rM_0_6 dX5_undo_23 ?_
      refine q_iload_n (pc := 26) C 1 rfl dX5_undo_26 rfl ?_
      refine q_dup2 (pc := 27) C dX5_undo_27 rfl rfl ?_
      obtain ⟨g5, h⟩ := q_guard h
      refine q_iald (pc := 28) C kM_6 lM_6 g5 dX5_undo_28 ?_
      refine q_iconst (pc := 29) C dX5_undo_29 ci_1 ?_
      refine q_isub (pc := 30) C dX5_undo_30 ?_
      obtain ⟨g6, h⟩ := q_guard h
      refine q_iast (pc := 31) C kM_6 lM_6 g6 dX5_undo_31 ?_
      exact tX5_undo_32 C _ _ _ h
    · have h := q_t c4 h
      refine q_bipush (pc := 19) C dX5_undo_19 cb_m3 ?_
      obtain rfl := Option.some.inj h
      exact q_iret (pc := 21) C dX5_undo_21
  · have h := q_t c2 h
    refine q_bipush (pc := 7) C dX5_undo_7 cb_m2 ?_
    obtain rfl := Option.some.inj h
    exact q_iret (pc := 9) C dX5_undo_9
/-! X5_shapeOf -/
theorem zX5_shapeOf {G : qG} {l : Launch} {σ : qM} {x0 : Int32} {res : (Int32 × qM)}  (h : fX5_shapeOf σ x0 = some res) : qCon sM G l yX5_shapeOf cX5_shapeOf 1 (some .int) 0 [.int x0] σ (some (.int res.1)) res.2 := by
  refine qCon.mkF (lv := [(0, .int x0)]) (plainFor_of_name (by decide)) (Nat.le_of_ble_eq_true rfl) rfl (fun X hX C => ?_)
  unfold fX5_shapeOf at h
  refine q_iload_n (pc := 0) C 0 rfl dX5_shapeOf_0 rfl ?_
  refine q_bipush (pc := 1) C dX5_shapeOf_1 cb_115 ?_
  refine q_ic_ne (pc := 3) C 10 dX5_shapeOf_3 (by decide) (fun c1 => ?_) (fun c1 => ?_)
  · have h := q_f c1 h
    refine q_iload_n (pc := 10) C 0 rfl dX5_shapeOf_10 rfl ?_
    refine q_bipush (pc := 11) C dX5_shapeOf_11 cb_100 ?_
    refine q_ic_ne (pc := 13) C 20 dX5_shapeOf_13 (by decide) (fun c2 => ?_) (fun c2 => ?_)
    · have h := q_f c2 h
      refine q_iload_n (pc := 20) C 0 rfl dX5_shapeOf_20 rfl ?_
      refine q_bipush (pc := 21) C dX5_shapeOf_21 cb_114 ?_
      refine q_ic_ne (pc := 23) C 30 dX5_shapeOf_23 (by decide) (fun c3 => ?_) (fun c3 => ?_)
      · have h := q_f c3 h
        refine q_iconst (pc := 30) C dX5_shapeOf_30 ci_m1 ?_
        obtain rfl := Option.some.inj h
        exact q_iret (pc := 31) C dX5_shapeOf_31
      · have h := q_t c3 h
        refine q_iconst (pc := 26) C dX5_shapeOf_26 ci_2 ?_
        refine q_goto (pc := 27) C 31 dX5_shapeOf_27 (by decide) ?_
        obtain rfl := Option.some.inj h
        exact q_iret (pc := 31) C dX5_shapeOf_31
    · have h := q_t c2 h
      refine q_iconst (pc := 16) C dX5_shapeOf_16 ci_1 ?_
      refine q_goto (pc := 17) C 31 dX5_shapeOf_17 (by decide) ?_
      obtain rfl := Option.some.inj h
      exact q_iret (pc := 31) C dX5_shapeOf_31
  · have h := q_t c1 h
    refine q_iconst (pc := 6) C dX5_shapeOf_6 ci_0 ?_
    refine q_goto (pc := 7) C 31 dX5_shapeOf_7 (by decide) ?_
    obtain rfl := Option.some.inj h
    exact q_iret (pc := 31) C dX5_shapeOf_31
/-! X5_lieOf -/
theorem zX5_lieOf {G : qG} {l : Launch} {σ : qM} {x0 : Int32} {res : (Int32 × qM)}  (h : fX5_lieOf σ x0 = some res) : qCon sM G l yX5_lieOf cX5_lieOf 1 (some .int) 0 [.int x0] σ (some (.int res.1)) res.2 := by
  refine qCon.mkF (lv := [(0, .int x0)]) (plainFor_of_name (by decide)) (Nat.le_of_ble_eq_true rfl) rfl (fun X hX C => ?_)
  unfold fX5_lieOf at h
  refine q_iload_n (pc := 0) C 0 rfl dX5_lieOf_0 rfl ?_
  refine q_bipush (pc := 1) C dX5_lieOf_1 cb_110 ?_
  refine q_ic_ne (pc := 3) C 10 dX5_lieOf_3 (by decide) (fun c1 => ?_) (fun c1 => ?_)
  · have h := q_f c1 h
    refine q_iload_n (pc := 10) C 0 rfl dX5_lieOf_10 rfl ?_
    refine q_bipush (pc := 11) C dX5_lieOf_11 cb_111 ?_
    refine q_ic_ne (pc := 13) C 20 dX5_lieOf_13 (by decide) (fun c2 => ?_) (fun c2 => ?_)
    · have h := q_f c2 h
      refine q_iload_n (pc := 20) C 0 rfl dX5_lieOf_20 rfl ?_
      refine q_bipush (pc := 21) C dX5_lieOf_21 cb_102 ?_
      refine q_ic_ne (pc := 23) C 30 dX5_lieOf_23 (by decide) (fun c3 => ?_) (fun c3 => ?_)
      · have h := q_f c3 h
        refine q_iload_n (pc := 30) C 0 rfl dX5_lieOf_30 rfl ?_
        refine q_bipush (pc := 31) C dX5_lieOf_31 cb_98 ?_
        refine q_ic_ne (pc := 33) C 40 dX5_lieOf_33 (by decide) (fun c4 => ?_) (fun c4 => ?_)
        · have h := q_f c4 h
          refine q_iconst (pc := 40) C dX5_lieOf_40 ci_m1 ?_
          obtain rfl := Option.some.inj h
          exact q_iret (pc := 41) C dX5_lieOf_41
        · have h := q_t c4 h
          refine q_iconst (pc := 36) C dX5_lieOf_36 ci_3 ?_
          refine q_goto (pc := 37) C 41 dX5_lieOf_37 (by decide) ?_
          obtain rfl := Option.some.inj h
          exact q_iret (pc := 41) C dX5_lieOf_41
      · have h := q_t c3 h
        refine q_iconst (pc := 26) C dX5_lieOf_26 ci_2 ?_
        refine q_goto (pc := 27) C 41 dX5_lieOf_27 (by decide) ?_
        obtain rfl := Option.some.inj h
        exact q_iret (pc := 41) C dX5_lieOf_41
    · have h := q_t c2 h
      refine q_iconst (pc := 16) C dX5_lieOf_16 ci_1 ?_
      refine q_goto (pc := 17) C 41 dX5_lieOf_17 (by decide) ?_
      obtain rfl := Option.some.inj h
      exact q_iret (pc := 41) C dX5_lieOf_41
  · have h := q_t c1 h
    refine q_iconst (pc := 6) C dX5_lieOf_6 ci_0 ?_
    refine q_goto (pc := 7) C 41 dX5_lieOf_7 (by decide) ?_
    obtain rfl := Option.some.inj h
    exact q_iret (pc := 41) C dX5_lieOf_41
/-! X5_within -/
theorem zX5_within {G : qG} {l : Launch} {σ : qM} {x0 : Int32} {x1 : Int32} {x2 : Int32} {res : (Int32 × qM)}  (h : fX5_within σ x0 x1 x2 = some res) : qCon sM G l yX5_within cX5_within 3 (some .int) 1 [.int x0, .int x1, .int x2] σ (some (.int res.1)) res.2 := by
  refine qCon.mkF (lv := [(0, .int x0), (1, .int x1), (2, .int x2)]) (plainFor_of_name (by decide)) (Nat.le_of_ble_eq_true rfl) rfl (fun X hX C => ?_)
  unfold fX5_within at h
  refine q_iload_n (pc := 0) C 0 rfl dX5_within_0 rfl ?_
  refine q_i2l (pc := 1) C dX5_within_1 ?_
  refine q_iload_n (pc := 2) C 1 rfl dX5_within_2 rfl ?_
  refine q_i2l (pc := 3) C dX5_within_3 ?_
  refine q_iload_n (pc := 4) C 2 rfl dX5_within_4 rfl ?_
  refine q_i2l (pc := 5) C dX5_within_5 ?_
  obtain ⟨q1, hq1, h⟩ := q_bind h
  refine q_callS1 (pc := 6) (st := []) C (zX5_in hq1) ys_X5_in ml_RX5_61 rfl (by decide) rfl (Nat.le_of_ble_eq_true rfl) dX5_within_6 ?_
  refine q_if_eq (pc := 9) C 18 dX5_within_9 (by decide) (fun c2 => ?_) (fun c2 => ?_)
  · have h := q_t c2 h
    refine q_iconst (pc := 18) C dX5_within_18 ci_m1 ?_
    obtain rfl := Option.some.inj h
    exact q_iret (pc := 19) C dX5_within_19
  · have h := q_f c2 h
    refine q_iload_n (pc := 12) C 0 rfl dX5_within_12 rfl ?_
    refine q_iload_n (pc := 13) C 1 rfl dX5_within_13 rfl ?_
    refine q_isub (pc := 14) C dX5_within_14 ?_
    refine q_goto (pc := 15) C 19 dX5_within_15 (by decide) ?_
    obtain rfl := Option.some.inj h
    exact q_iret (pc := 19) C dX5_within_19
/-! X5_tellsOf -/
theorem tX5_tellsOf_72 {X : qX} {G : qG} (C : qC sM X G RX5 cX5_tellsOf 3 2 (some .int))  (σ : qM) (x2 : Int32) (res : (Int32 × qM))  (h : fX5_tellsOf_72  σ x2 = some res) : qY sM X G 3 (q_Q sM X G (some (.int res.1)) res.2) σ 72 [(2, .int x2)] [] := by
  unfold fX5_tellsOf_72 at h
  refine q_iload_n (pc := 72) C 0 rfl dX5_tellsOf_72 rfl ?_
  obtain ⟨q1, hq1, h⟩ := q_bind h
  refine q_callS1 (pc := 73) (st := []) C (zX5_shapeOf hq1) ys_X5_shapeOf ml_RX5_97 rfl (by decide) rfl (Nat.le_of_ble_eq_true rfl) dX5_tellsOf_73 ?_
  obtain rfl := Option.some.inj h
  exact q_iret (pc := 76) C dX5_tellsOf_76
theorem zX5_tellsOf {G : qG} {l : Launch} {σ : qM} {x0 : Int32} {x1 : Int32} {x2 : Int32} {res : (Int32 × qM)}  (h : fX5_tellsOf σ x0 x1 x2 = some res) : qCon sM G l yX5_tellsOf cX5_tellsOf 3 (some .int) 2 [.int x0, .int x1, .int x2] σ (some (.int res.1)) res.2 := by
  refine qCon.mkF (lv := [(0, .int x0), (1, .int x1), (2, .int x2)]) (plainFor_of_name (by decide)) (Nat.le_of_ble_eq_true rfl) rfl (fun X hX C => ?_)
  unfold fX5_tellsOf at h
  refine q_iload_n (pc := 0) C 0 rfl dX5_tellsOf_0 rfl ?_
  refine q_if_ne (pc := 1) C 40 dX5_tellsOf_1 (by decide) (fun c1 => ?_) (fun c1 => ?_)
  · have h := q_f c1 h
    refine q_iload_n (pc := 40) C 1 rfl dX5_tellsOf_40 rfl ?_
    by_cases c2 : x1 = (0 : Int32)
    · have h := q_t c2 h
      refine q_tableIn (pc := 41) (off := 31) C 72 dX5_tellsOf_41 (by rw [c2]; decide) (by rw [c2]; decide) (by rw [c2]; decide) (by decide) ?_
      refine q_sub [2] rfl ?_
      exact tX5_tellsOf_72 C _ _ _ h
    · have h := q_f c2 h
      by_cases c3 : x1 = (1 : Int32)
      · have h := q_t c3 h
        refine q_tableIn (pc := 41) (off := 36) C 77 dX5_tellsOf_41 (by rw [c3]; decide) (by rw [c3]; decide) (by rw [c3]; decide) (by decide) ?_
        refine q_iload_n (pc := 77) C 2 rfl dX5_tellsOf_77 rfl ?_
        obtain ⟨q4, hq4, h⟩ := q_bind h
        refine q_callS1 (pc := 78) (st := []) C (zX5_lieOf hq4) ys_X5_lieOf ml_RX5_100 rfl (by decide) rfl (Nat.le_of_ble_eq_true rfl) dX5_tellsOf_78 ?_
        obtain rfl := Option.some.inj h
        exact q_iret (pc := 81) C dX5_tellsOf_81
      · have h := q_f c3 h
        by_cases c5 : x1 = (2 : Int32)
        · have h := q_t c5 h
          refine q_tableIn (pc := 41) (off := 31) C 72 dX5_tellsOf_41 (by rw [c5]; decide) (by rw [c5]; decide) (by rw [c5]; decide) (by decide) ?_
          refine q_sub [2] rfl ?_
          exact tX5_tellsOf_72 C _ _ _ h
        · have h := q_f c5 h
          by_cases c6 : x1 = (3 : Int32)
          · have h := q_t c6 h
            refine q_tableIn (pc := 41) (off := 41) C 82 dX5_tellsOf_41 (by rw [c6]; decide) (by rw [c6]; decide) (by rw [c6]; decide) (by decide) ?_
            refine q_iload_n (pc := 82) C 2 rfl dX5_tellsOf_82 rfl ?_
            refine q_bipush (pc := 83) C dX5_tellsOf_83 cb_43 ?_
            refine q_ic_ne (pc := 85) C 92 dX5_tellsOf_85 (by decide) (fun c7 => ?_) (fun c7 => ?_)
            · have h := q_f c7 h
              refine q_iload_n (pc := 92) C 2 rfl dX5_tellsOf_92 rfl ?_
              refine q_bipush (pc := 93) C dX5_tellsOf_93 cb_45 ?_
              refine q_ic_ne (pc := 95) C 102 dX5_tellsOf_95 (by decide) (fun c8 => ?_) (fun c8 => ?_)
              · have h := q_f c8 h
                refine q_iconst (pc := 102) C dX5_tellsOf_102 ci_m1 ?_
                obtain rfl := Option.some.inj h
                exact q_iret (pc := 103) C dX5_tellsOf_103
              · have h := q_t c8 h
                refine q_iconst (pc := 98) C dX5_tellsOf_98 ci_0 ?_
                refine q_goto (pc := 99) C 103 dX5_tellsOf_99 (by decide) ?_
                obtain rfl := Option.some.inj h
                exact q_iret (pc := 103) C dX5_tellsOf_103
            · have h := q_t c7 h
              refine q_iconst (pc := 88) C dX5_tellsOf_88 ci_1 ?_
              refine q_goto (pc := 89) C 103 dX5_tellsOf_89 (by decide) ?_
              obtain rfl := Option.some.inj h
              exact q_iret (pc := 103) C dX5_tellsOf_103
          · have h := q_f c6 h
            have ec2 := lv_neT c2 ct_0
            have ec3 := lv_neT c3 ct_1
            have ec5 := lv_neT c5 ct_2
            have ec6 := lv_neT c6 ct_3
            refine q_tableOut (pc := 41) C 104 dX5_tellsOf_41 (by omega) (by decide) ?_
            refine q_iload_n (pc := 104) C 2 rfl dX5_tellsOf_104 rfl ?_
            refine q_bipush (pc := 105) C dX5_tellsOf_105 cb_65 ?_
            refine q_bipush (pc := 107) C dX5_tellsOf_107 cb_72 ?_
            obtain ⟨q9, hq9, h⟩ := q_bind h
            refine q_callS1 (pc := 109) (st := []) C (zX5_within hq9) ys_X5_within ml_RX5_94 rfl (by decide) rfl (Nat.le_of_ble_eq_true rfl) dX5_tellsOf_109 ?_
            obtain rfl := Option.some.inj h
            exact q_iret (pc := 112) C dX5_tellsOf_112
  · have h := q_t c1 h
    refine q_iload_n (pc := 4) C 1 rfl dX5_tellsOf_4 rfl ?_
    refine q_if_ne (pc := 5) C 19 dX5_tellsOf_5 (by decide) (fun c10 => ?_) (fun c10 => ?_)
    · have h := q_f c10 h
      refine q_iload_n (pc := 19) C 1 rfl dX5_tellsOf_19 rfl ?_
      refine q_iconst (pc := 20) C dX5_tellsOf_20 ci_1 ?_
      refine q_ic_ne (pc := 21) C 35 dX5_tellsOf_21 (by decide) (fun c11 => ?_) (fun c11 => ?_)
      · have h := q_f c11 h
        refine q_iload_n (pc := 35) C 2 rfl dX5_tellsOf_35 rfl ?_
        obtain ⟨q12, hq12, h⟩ := q_bind h
        refine q_callS1 (pc := 36) (st := []) C (zX5_shapeOf hq12) ys_X5_shapeOf ml_RX5_97 rfl (by decide) rfl (Nat.le_of_ble_eq_true rfl) dX5_tellsOf_36 ?_
        obtain rfl := Option.some.inj h
        exact q_iret (pc := 39) C dX5_tellsOf_39
      · have h := q_t c11 h
        refine q_iload_n (pc := 24) C 2 rfl dX5_tellsOf_24 rfl ?_
        refine q_bipush (pc := 25) C dX5_tellsOf_25 cb_49 ?_
        refine q_bipush (pc := 27) C dX5_tellsOf_27 cb_54 ?_
        obtain ⟨q13, hq13, h⟩ := q_bind h
        refine q_callS1 (pc := 29) (st := []) C (zX5_within hq13) ys_X5_within ml_RX5_94 rfl (by decide) rfl (Nat.le_of_ble_eq_true rfl) dX5_tellsOf_29 ?_
        refine q_goto (pc := 32) C 39 dX5_tellsOf_32 (by decide) ?_
        obtain rfl := Option.some.inj h
        exact q_iret (pc := 39) C dX5_tellsOf_39
    · have h := q_t c10 h
      refine q_iload_n (pc := 8) C 2 rfl dX5_tellsOf_8 rfl ?_
      refine q_bipush (pc := 9) C dX5_tellsOf_9 cb_97 ?_
      refine q_bipush (pc := 11) C dX5_tellsOf_11 cb_102 ?_
      obtain ⟨q14, hq14, h⟩ := q_bind h
      refine q_callS1 (pc := 13) (st := []) C (zX5_within hq14) ys_X5_within ml_RX5_94 rfl (by decide) rfl (Nat.le_of_ble_eq_true rfl) dX5_tellsOf_13 ?_
      refine q_goto (pc := 16) C 39 dX5_tellsOf_16 (by decide) ?_
      obtain rfl := Option.some.inj h
      exact q_iret (pc := 39) C dX5_tellsOf_39
/-! X5_readsThing -/
theorem tX5_readsThing_127 {X : qX} {G : qG} (C : qC sM X G RX5 cX5_readsThing 5 3 (some .boolean)) (k39 : qM → Int32 → Int32 → Int32 → Option (Int32 × qM)) (hk39 : ∀ (σ : qM) (x1 : Int32) (x2 : Int32) (x3 : Int32) (res : (Int32 × qM)), k39 σ x1 x2 x3 = some res → qY sM X G 5 (q_Q sM X G (some (.int res.1)) res.2) σ 39 [(0, .ref (q_ad G 0)), (1, .int x1), (2, .int x2), (3, .int x3)] []) (σ : qM) (x1 : Int32) (x2 : Int32) (x3 : Int32) (res : (Int32 × qM))  (h : fX5_readsThing_127 k39 σ x1 x2 x3 = some res) : qY sM X G 5 (q_Q sM X G (some (.int res.1)) res.2) σ 127 [(0, .ref (q_ad G 0)), (1, .int x1), (2, .int x2), (3, .int x3)] [] := by
  unfold fX5_readsThing_127 at h
  refine q_aload_n (pc := 127) C 0 rfl dX5_readsThing_127 rfl ?_
  refine q_dup (pc := 128) C dX5_readsThing_128 rfl ?_
  refine q_getI (pc := 129) C fl_RX5_109 kM_0 rfl dX5_readsThing_129 ?_
  refine q_iconst (pc := 132) C dX5_readsThing_132 ci_1 ?_
  refine q_iadd (pc := 133) C dX5_readsThing_133 ?_
  refine q_putI (pc := 134) C fl_RX5_109 kM_0 rfl rfl rfl dX5_readsThing_134 ?_
  refine q_inc (pc := 137) C 3 rfl ci_1 dX5_readsThing_137 (by decide) rfl ?_
  refine q_goto (pc := 140) C 39 dX5_readsThing_140 (by decide) ?_
  refine q_sub [1, 2, 3, 0] rfl ?_
  exact hk39 _ _ _ _ _ h
theorem tX5_readsThing_80 {X : qX} {G : qG} (C : qC sM X G RX5 cX5_readsThing 5 3 (some .boolean)) (k39 : qM → Int32 → Int32 → Int32 → Option (Int32 × qM)) (hk39 : ∀ (σ : qM) (x1 : Int32) (x2 : Int32) (x3 : Int32) (res : (Int32 × qM)), k39 σ x1 x2 x3 = some res → qY sM X G 5 (q_Q sM X G (some (.int res.1)) res.2) σ 39 [(0, .ref (q_ad G 0)), (1, .int x1), (2, .int x2), (3, .int x3)] []) (σ : qM) (x1 : Int32) (x2 : Int32) (x3 : Int32) (t0 : Int32) (res : (Int32 × qM))  (h : fX5_readsThing_80 k39 σ x1 x2 x3 t0 = some res) : qY sM X G 5 (q_Q sM X G (some (.int res.1)) res.2) σ 80 [(0, .ref (q_ad G 0)), (1, .int x1), (2, .int x2), (3, .int x3)] [.int t0] := by
  unfold fX5_readsThing_80 at h
  refine q_istore (pc := 80) C dX5_readsThing_80 (by decide) rfl ?_
  refine q_iload (pc := 82) C 0 rfl dX5_readsThing_82 ?_
  refine q_iconst (pc := 84) C dX5_readsThing_84 ci_m1 ?_
  refine q_ic_ne (pc := 85) C 90 dX5_readsThing_85 (by decide) (fun c1 => ?_) (fun c1 => ?_)
  · have h := q_f c1 h
    refine q_iload_n (pc := 90) C 2 rfl dX5_readsThing_90 rfl ?_
    refine q_if_ne (pc := 91) C 112 dX5_readsThing_91 (by decide) (fun c2 => ?_) (fun c2 => ?_)
    · have h := q_f c2 h
      refine q_aload_n (pc := 112) C 1 rfl dX5_readsThing_112 rfl ?_
      refine q_getR (pc := 113) (t := 8) C fl_RX5_31 kM_0 rfl rM_0_11 dX5_readsThing_113 ?_
      refine q_iconst (pc := 116) C dX5_readsThing_116 ci_5 ?_
      refine q_aload_n (pc := 117) C 1 rfl dX5_readsThing_117 rfl ?_
      refine q_getI (pc := 118) C fl_RX5_106 kM_0 rfl dX5_readsThing_118 ?_
      refine q_imul (pc := 121) C dX5_readsThing_121 ?_
      refine q_iload_n (pc := 122) C 4 rfl dX5_readsThing_122 rfl ?_
      refine q_iadd (pc := 123) C dX5_readsThing_123 ?_
      refine q_iload (pc := 124) C 0 rfl dX5_readsThing_124 ?_
      obtain ⟨g3, h⟩ := q_guard h
      refine q_iast (pc := 126) C kM_8 lM_8 g3 dX5_readsThing_126 ?_
      refine q_sub [1, 2, 3, 4] rfl ?_
      exact tX5_readsThing_127 C k39 hk39 _ _ _ _ _ h
    · have h := q_t c2 h
      refine q_aload_n (pc := 94) C 1 rfl dX5_readsThing_94 rfl ?_
      refine q_getR (pc := 95) (t := 7) C fl_RX5_28 kM_0 rfl rM_0_9 dX5_readsThing_95 ?_
      refine q_iconst (pc := 98) C dX5_readsThing_98 ci_3 ?_
      refine q_aload_n (pc := 99) C 1 rfl dX5_readsThing_99 rfl ?_
      refine q_getI (pc := 100) C fl_RX5_103 kM_0 rfl dX5_readsThing_100 ?_
      refine q_imul (pc := 103) C dX5_readsThing_103 ?_
      refine q_iload_n (pc := 104) C 4 rfl dX5_readsThing_104 rfl ?_
      refine q_iadd (pc := 105) C dX5_readsThing_105 ?_
      refine q_iload (pc := 106) C 0 rfl dX5_readsThing_106 ?_
      obtain ⟨g4, h⟩ := q_guard h
      refine q_iast (pc := 108) C kM_7 lM_7 g4 dX5_readsThing_108 ?_
      refine q_goto (pc := 109) C 127 dX5_readsThing_109 (by decide) ?_
      refine q_sub [1, 2, 3, 4] rfl ?_
      exact tX5_readsThing_127 C k39 hk39 _ _ _ _ _ h
  · have h := q_t c1 h
    refine q_iconst (pc := 88) C dX5_readsThing_88 ci_0 ?_
    obtain rfl := Option.some.inj h
    exact q_zret (pc := 89) C (Or.inl rfl) dX5_readsThing_89
theorem tX5_readsThing_161 {X : qX} {G : qG} (C : qC sM X G RX5 cX5_readsThing 5 3 (some .boolean))  (σ : qM) (x1 : Int32) (res : (Int32 × qM))  (h : fX5_readsThing_161  σ x1 = some res) : qY sM X G 5 (q_Q sM X G (some (.int res.1)) res.2) σ 161 [(0, .ref (q_ad G 0)), (1, .int x1)] [] := by
  unfold fX5_readsThing_161 at h
  refine q_aload_n (pc := 161) C 0 rfl dX5_readsThing_161 rfl ?_
  refine q_dup (pc := 162) C dX5_readsThing_162 rfl ?_
  refine q_getI (pc := 163) C fl_RX5_106 kM_0 rfl dX5_readsThing_163 ?_
  refine q_iload_n (pc := 166) C 1 rfl dX5_readsThing_166 rfl ?_
  refine q_iadd (pc := 167) C dX5_readsThing_167 ?_
  refine q_putI (pc := 168) C fl_RX5_106 kM_0 rfl rfl rfl dX5_readsThing_168 ?_
  refine q_iconst (pc := 171) C dX5_readsThing_171 ci_1 ?_
  obtain rfl := Option.some.inj h
  exact q_zret (pc := 172) C (Or.inr rfl) dX5_readsThing_172
theorem tX5_readsThing_157 {X : qX} {G : qG} (C : qC sM X G RX5 cX5_readsThing 5 3 (some .boolean))  (σ : qM) (x1 : Int32) (t0 : Int32) (t1 : Int32) (res : (Int32 × qM))  (h : fX5_readsThing_157  σ x1 t0 t1 = some res) : qY sM X G 5 (q_Q sM X G (some (.int res.1)) res.2) σ 157 [(0, .ref (q_ad G 0)), (1, .int x1)] [.int t0, .int t1, .ref (q_ad G 0)] := by
  unfold fX5_readsThing_157 at h
  refine q_iadd (pc := 157) C dX5_readsThing_157 ?_
  refine q_putI (pc := 158) C fl_RX5_103 kM_0 rfl rfl rfl dX5_readsThing_158 ?_
  exact tX5_readsThing_161 C _ _ _ h
theorem uX5_readsThing_39 {X : qX} {G : qG} (C : qC sM X G RX5 cX5_readsThing 5 3 (some .boolean)) (k39 : qM → Int32 → Int32 → Int32 → Option (Int32 × qM)) (hk39 : ∀ (σ : qM) (x1 : Int32) (x2 : Int32) (x3 : Int32) (res : (Int32 × qM)), k39 σ x1 x2 x3 = some res → qY sM X G 5 (q_Q sM X G (some (.int res.1)) res.2) σ 39 [(0, .ref (q_ad G 0)), (1, .int x1), (2, .int x2), (3, .int x3)] []) (σ : qM) (x1 : Int32) (x2 : Int32) (x3 : Int32) (res : (Int32 × qM))  (h : bX5_readsThing_39 k39 σ x1 x2 x3 = some res) : qY sM X G 5 (q_Q sM X G (some (.int res.1)) res.2) σ 39 [(0, .ref (q_ad G 0)), (1, .int x1), (2, .int x2), (3, .int x3)] [] := by
  unfold bX5_readsThing_39 at h
  refine q_iload_n (pc := 39) C 3 rfl dX5_readsThing_39 rfl ?_
  refine q_iload_n (pc := 40) C 2 rfl dX5_readsThing_40 rfl ?_
  refine q_ic_ge (pc := 41) C 143 dX5_readsThing_41 (by decide) (fun c1 => ?_) (fun c1 => ?_)
  · have h := q_t c1 h
    refine q_aload_n (pc := 143) C 0 rfl dX5_readsThing_143 rfl ?_
    refine q_dup (pc := 144) C dX5_readsThing_144 rfl ?_
    refine q_getI (pc := 145) C fl_RX5_103 kM_0 rfl dX5_readsThing_145 ?_
    refine q_iload_n (pc := 148) C 1 rfl dX5_readsThing_148 rfl ?_
    refine q_if_ne (pc := 149) C 156 dX5_readsThing_149 (by decide) (fun c2 => ?_) (fun c2 => ?_)
    · have h := q_f c2 h
      refine q_iconst (pc := 156) C dX5_readsThing_156 ci_0 ?_
      refine q_sub [0, 1] rfl ?_
      exact tX5_readsThing_157 C _ _ _ _ _ h
    · have h := q_t c2 h
      refine q_iconst (pc := 152) C dX5_readsThing_152 ci_1 ?_
      refine q_goto (pc := 153) C 157 dX5_readsThing_153 (by decide) ?_
      refine q_sub [0, 1] rfl ?_
      exact tX5_readsThing_157 C _ _ _ _ _ h
  · have h := q_f c1 h
    refine q_aload_n (pc := 44) C 0 rfl dX5_readsThing_44 rfl ?_
    refine q_getI (pc := 45) C fl_RX5_109 kM_0 rfl dX5_readsThing_45 ?_
    refine q_aload_n (pc := 48) C 0 rfl dX5_readsThing_48 rfl ?_
    refine q_getR (pc := 49) (t := 6) C fl_RX5_25 kM_0 rfl rM_0_6 dX5_readsThing_49 ?_
    refine q_iload_n (pc := 52) C 1 rfl dX5_readsThing_52 rfl ?_
    obtain ⟨g3, h⟩ := q_guard h
    refine q_iald (pc := 53) C kM_6 lM_6 g3 dX5_readsThing_53 ?_
    refine q_ic_ge (pc := 54) C 79 dX5_readsThing_54 (by decide) (fun c4 => ?_) (fun c4 => ?_)
    · have h := q_t c4 h
      refine q_iconst (pc := 79) C dX5_readsThing_79 ci_m1 ?_
      exact tX5_readsThing_80 C k39 hk39 _ _ _ _ _ _ h
    · have h := q_f c4 h
      refine q_iload_n (pc := 57) C 1 rfl dX5_readsThing_57 rfl ?_
      refine q_iload_n (pc := 58) C 3 rfl dX5_readsThing_58 rfl ?_
      refine q_aload_n (pc := 59) C 0 rfl dX5_readsThing_59 rfl ?_
      refine q_getR (pc := 60) (t := 5) C fl_RX5_22 kM_0 rfl rM_0_5 dX5_readsThing_60 ?_
      refine q_bipush (pc := 63) C dX5_readsThing_63 cb_60 ?_
      refine q_iload_n (pc := 65) C 1 rfl dX5_readsThing_65 rfl ?_
      refine q_imul (pc := 66) C dX5_readsThing_66 ?_
      refine q_aload_n (pc := 67) C 0 rfl dX5_readsThing_67 rfl ?_
      refine q_getI (pc := 68) C fl_RX5_109 kM_0 rfl dX5_readsThing_68 ?_
      refine q_iadd (pc := 71) C dX5_readsThing_71 ?_
      obtain ⟨g5, h⟩ := q_guard h
      refine q_iald (pc := 72) C kM_5 lM_5 g5 dX5_readsThing_72 ?_
      obtain ⟨q6, hq6, h⟩ := q_bind h
      refine q_callS1 (pc := 73) (st := []) C (zX5_tellsOf hq6) ys_X5_tellsOf ml_RX5_112 rfl (by decide) rfl (Nat.le_of_ble_eq_true rfl) dX5_readsThing_73 ?_
      refine q_goto (pc := 76) C 80 dX5_readsThing_76 (by decide) ?_
      exact tX5_readsThing_80 C k39 hk39 _ _ _ _ _ _ h
theorem tX5_readsThing_39 {X : qX} {G : qG} (C : qC sM X G RX5 cX5_readsThing 5 3 (some .boolean))  (σ : qM) (x1 : Int32) (x2 : Int32) (x3 : Int32) (res : (Int32 × qM))  (h : fX5_readsThing_39  σ x1 x2 x3 = some res) : qY sM X G 5 (q_Q sM X G (some (.int res.1)) res.2) σ 39 [(0, .ref (q_ad G 0)), (1, .int x1), (2, .int x2), (3, .int x3)] [] := by
  have key : ∀ (n : Nat) (σ : qM) (x1 : Int32) (x2 : Int32) (x3 : Int32) (res : (Int32 × qM)) , qlp (fun _ _ _ _ => none) (bX5_readsThing_39 ) n σ x1 x2 x3 = some res → qY sM X G 5 (q_Q sM X G (some (.int res.1)) res.2) σ 39 [(0, .ref (q_ad G 0)), (1, .int x1), (2, .int x2), (3, .int x3)] [] := by
    intro n
    induction n with
    | zero => intro σ x1 x2 x3 res h; cases h
    | succ n ih => intro σ x1 x2 x3 res h; exact uX5_readsThing_39 C  (qlp (fun _ _ _ _ => none) (bX5_readsThing_39 ) n) (fun σ x1 x2 x3 res h => ih σ x1 x2 x3 res h) σ x1 x2 x3 res h
  exact key qFU σ x1 x2 x3 res h
theorem tX5_readsThing_37 {X : qX} {G : qG} (C : qC sM X G RX5 cX5_readsThing 5 3 (some .boolean))  (σ : qM) (x1 : Int32) (x2 : Int32) (res : (Int32 × qM))  (h : fX5_readsThing_37  σ x1 x2 = some res) : qY sM X G 5 (q_Q sM X G (some (.int res.1)) res.2) σ 37 [(0, .ref (q_ad G 0)), (1, .int x1), (2, .int x2)] [] := by
  unfold fX5_readsThing_37 at h
  refine q_iconst (pc := 37) C dX5_readsThing_37 ci_0 ?_
  refine q_istore_n (pc := 38) C dX5_readsThing_38 rfl (by decide) rfl ?_
  refine q_sub [1, 2, 3, 0] rfl ?_
  exact tX5_readsThing_39 C _ _ _ _ _ h
theorem tX5_readsThing_9 {X : qX} {G : qG} (C : qC sM X G RX5 cX5_readsThing 5 3 (some .boolean))  (σ : qM) (x1 : Int32) (t0 : Int32) (res : (Int32 × qM))  (h : fX5_readsThing_9  σ x1 t0 = some res) : qY sM X G 5 (q_Q sM X G (some (.int res.1)) res.2) σ 9 [(0, .ref (q_ad G 0)), (1, .int x1)] [.int t0] := by
  unfold fX5_readsThing_9 at h
  refine q_istore_n (pc := 9) C dX5_readsThing_9 rfl (by decide) rfl ?_
  refine q_iload_n (pc := 10) C 2 rfl dX5_readsThing_10 rfl ?_
  refine q_if_ne (pc := 11) C 26 dX5_readsThing_11 (by decide) (fun c1 => ?_) (fun c1 => ?_)
  · have h := q_f c1 h
    refine q_aload_n (pc := 26) C 1 rfl dX5_readsThing_26 rfl ?_
    refine q_getI (pc := 27) C fl_RX5_106 kM_0 rfl dX5_readsThing_27 ?_
    refine q_bipush (pc := 30) C dX5_readsThing_30 cb_10 ?_
    refine q_ic_ne (pc := 32) C 37 dX5_readsThing_32 (by decide) (fun c2 => ?_) (fun c2 => ?_)
    · have h := q_f c2 h
      refine q_sub [1, 2, 0] rfl ?_
      exact tX5_readsThing_37 C _ _ _ _ h
    · have h := q_t c2 h
      refine q_iconst (pc := 35) C dX5_readsThing_35 ci_0 ?_
      obtain rfl := Option.some.inj h
      exact q_zret (pc := 36) C (Or.inl rfl) dX5_readsThing_36
  · have h := q_t c1 h
    refine q_aload_n (pc := 14) C 1 rfl dX5_readsThing_14 rfl ?_
    refine q_getI (pc := 15) C fl_RX5_103 kM_0 rfl dX5_readsThing_15 ?_
    refine q_bipush (pc := 18) C dX5_readsThing_18 cb_12 ?_
    refine q_ic_ne (pc := 20) C 37 dX5_readsThing_20 (by decide) (fun c3 => ?_) (fun c3 => ?_)
    · have h := q_f c3 h
      refine q_sub [1, 2, 0] rfl ?_
      exact tX5_readsThing_37 C _ _ _ _ h
    · have h := q_t c3 h
      refine q_goto (pc := 23) C 35 dX5_readsThing_23 (by decide) ?_
      refine q_iconst (pc := 35) C dX5_readsThing_35 ci_0 ?_
      obtain rfl := Option.some.inj h
      exact q_zret (pc := 36) C (Or.inl rfl) dX5_readsThing_36
theorem zX5_readsThing {G : qG} {l : Launch} {σ : qM} {x1 : Int32} {res : (Int32 × qM)}  (h : fX5_readsThing σ x1 = some res) : qCon sM G l yX5_readsThing cX5_readsThing 5 (some .boolean) 3 [.ref (q_ad G 0), .int x1] σ (some (.int res.1)) res.2 := by
  refine qCon.mkF (lv := [(0, .ref (q_ad G 0)), (1, .int x1)]) (plainFor_of_name (by decide)) (Nat.le_of_ble_eq_true rfl) rfl (fun X hX C => ?_)
  unfold fX5_readsThing at h
  refine q_iload_n (pc := 0) C 1 rfl dX5_readsThing_0 rfl ?_
  refine q_if_ne (pc := 1) C 8 dX5_readsThing_1 (by decide) (fun c1 => ?_) (fun c1 => ?_)
  · have h := q_f c1 h
    refine q_iconst (pc := 8) C dX5_readsThing_8 ci_5 ?_
    exact tX5_readsThing_9 C _ _ _ _ h
  · have h := q_t c1 h
    refine q_iconst (pc := 4) C dX5_readsThing_4 ci_3 ?_
    refine q_goto (pc := 5) C 9 dX5_readsThing_5 (by decide) ?_
    exact tX5_readsThing_9 C _ _ _ _ h
/-! X5_empty -/
theorem tX5_empty_30 {X : qX} {G : qG} (C : qC sM X G RX5 cX5_empty 2 0 none)  (σ : qM) (t0 : Int32) (res : qM)  (h : fX5_empty_30  σ t0 = some res) : qY sM X G 2 (q_Q sM X G none res) σ 30 [] [.int t0, .ref (q_ad G 0)] := by
  unfold fX5_empty_30 at h
  refine q_putI (pc := 30) C fl_RX5_106 kM_0 rfl rfl rfl dX5_empty_30 ?_
  obtain rfl := Option.some.inj h
  exact q_vret (pc := 33) C dX5_empty_33
theorem tX5_empty_13 {X : qX} {G : qG} (C : qC sM X G RX5 cX5_empty 2 0 none)  (σ : qM) (x1 : Int32) (t0 : Int32) (res : qM)  (h : fX5_empty_13  σ x1 t0 = some res) : qY sM X G 2 (q_Q sM X G none res) σ 13 [(0, .ref (q_ad G 0)), (1, .int x1)] [.int t0, .ref (q_ad G 0)] := by
  unfold fX5_empty_13 at h
  refine q_putI (pc := 13) C fl_RX5_103 kM_0 rfl rfl rfl dX5_empty_13 ?_
  refine q_aload_n (pc := 16) C 0 rfl dX5_empty_16 rfl ?_
  refine q_iload_n (pc := 17) C 1 rfl dX5_empty_17 rfl ?_
  refine q_iconst (pc := 18) C dX5_empty_18 ci_1 ?_
  refine q_ic_ne (pc := 19) C 26 dX5_empty_19 (by decide) (fun c1 => ?_) (fun c1 => ?_)
  · have h := q_f c1 h
    refine q_aload_n (pc := 26) C 0 rfl dX5_empty_26 rfl ?_
    refine q_getI (pc := 27) C fl_RX5_106 kM_0 rfl dX5_empty_27 ?_
    refine q_sub [] rfl ?_
    exact tX5_empty_30 C _ _ _ h
  · have h := q_t c1 h
    refine q_iconst (pc := 22) C dX5_empty_22 ci_0 ?_
    refine q_goto (pc := 23) C 30 dX5_empty_23 (by decide) ?_
    refine q_sub [] rfl ?_
    exact tX5_empty_30 C _ _ _ h
theorem zX5_empty {G : qG} {l : Launch} {σ : qM} {x1 : Int32} {res : qM}  (h : fX5_empty σ x1 = some res) : qCon sM G l yX5_empty cX5_empty 2 none 0 [.ref (q_ad G 0), .int x1] σ none res := by
  refine qCon.mkF (lv := [(0, .ref (q_ad G 0)), (1, .int x1)]) (plainFor_of_name (by decide)) (Nat.le_of_ble_eq_true rfl) rfl (fun X hX C => ?_)
  unfold fX5_empty at h
  refine q_aload_n (pc := 0) C 0 rfl dX5_empty_0 rfl ?_
  refine q_iload_n (pc := 1) C 1 rfl dX5_empty_1 rfl ?_
  refine q_if_ne (pc := 2) C 9 dX5_empty_2 (by decide) (fun c1 => ?_) (fun c1 => ?_)
  · have h := q_f c1 h
    refine q_aload_n (pc := 9) C 0 rfl dX5_empty_9 rfl ?_
    refine q_getI (pc := 10) C fl_RX5_103 kM_0 rfl dX5_empty_10 ?_
    exact tX5_empty_13 C _ _ _ _ h
  · have h := q_t c1 h
    refine q_iconst (pc := 5) C dX5_empty_5 ci_0 ?_
    refine q_goto (pc := 6) C 13 dX5_empty_6 (by decide) ?_
    exact tX5_empty_13 C _ _ _ _ h
/-! X5_readsText -/
theorem tX5_readsText_85 {X : qX} {G : qG} (C : qC sM X G RX5 cX5_readsText 4 4 (some .int))  (σ : qM) (x1 : Int32) (res : (Int32 × qM))  (h : fX5_readsText_85  σ x1 = some res) : qY sM X G 4 (q_Q sM X G (some (.int res.1)) res.2) σ 85 [(0, .ref (q_ad G 0)), (1, .int x1)] [] := by
  unfold fX5_readsText_85 at h
  refine q_aload_n (pc := 85) C 0 rfl dX5_readsText_85 rfl ?_
  refine q_iload_n (pc := 86) C 1 rfl dX5_readsText_86 rfl ?_
  obtain ⟨q1, hq1, h⟩ := q_bind h
  refine q_callV0 (pc := 87) (st := []) C (zX5_empty hq1) yi_X5_empty ml_RX5_115 kM_0 rfl (by decide) rfl (Nat.le_of_ble_eq_true rfl) dX5_readsText_87 ?_
  refine q_aload_n (pc := 90) C 0 rfl dX5_readsText_90 rfl ?_
  refine q_getI (pc := 91) C fl_RX5_109 kM_0 rfl dX5_readsText_91 ?_
  obtain rfl := Option.some.inj h
  exact q_iret (pc := 94) C dX5_readsText_94
theorem tX5_readsText_109 {X : qX} {G : qG} (C : qC sM X G RX5 cX5_readsText 4 4 (some .int)) (k25 : qM → Int32 → Int32 → Option (Int32 × qM)) (hk25 : ∀ (σ : qM) (x1 : Int32) (x2 : Int32) (res : (Int32 × qM)), k25 σ x1 x2 = some res → qY sM X G 4 (q_Q sM X G (some (.int res.1)) res.2) σ 25 [(0, .ref (q_ad G 0)), (1, .int x1), (2, .int x2)] []) (σ : qM) (x1 : Int32) (x2 : Int32) (t0 : Int32) (t1 : Int32) (res : (Int32 × qM))  (h : fX5_readsText_109 k25 σ x1 x2 t0 t1 = some res) : qY sM X G 4 (q_Q sM X G (some (.int res.1)) res.2) σ 109 [(0, .ref (q_ad G 0)), (1, .int x1), (2, .int x2)] [.int t0, .int t1, .ref (q_ad G 0)] := by
  unfold fX5_readsText_109 at h
  refine q_iadd (pc := 109) C dX5_readsText_109 ?_
  refine q_putI (pc := 110) C fl_RX5_109 kM_0 rfl rfl rfl dX5_readsText_110 ?_
  refine q_goto (pc := 113) C 25 dX5_readsText_113 (by decide) ?_
  exact hk25 _ _ _ _ h
theorem tX5_readsText_95 {X : qX} {G : qG} (C : qC sM X G RX5 cX5_readsText 4 4 (some .int)) (k25 : qM → Int32 → Int32 → Option (Int32 × qM)) (hk25 : ∀ (σ : qM) (x1 : Int32) (x2 : Int32) (res : (Int32 × qM)), k25 σ x1 x2 = some res → qY sM X G 4 (q_Q sM X G (some (.int res.1)) res.2) σ 25 [(0, .ref (q_ad G 0)), (1, .int x1), (2, .int x2)] []) (σ : qM) (x1 : Int32) (x2 : Int32) (res : (Int32 × qM))  (h : fX5_readsText_95 k25 σ x1 x2 = some res) : qY sM X G 4 (q_Q sM X G (some (.int res.1)) res.2) σ 95 [(0, .ref (q_ad G 0)), (1, .int x1), (2, .int x2)] [] := by
  unfold fX5_readsText_95 at h
  refine q_aload_n (pc := 95) C 0 rfl dX5_readsText_95 rfl ?_
  refine q_dup (pc := 96) C dX5_readsText_96 rfl ?_
  refine q_getI (pc := 97) C fl_RX5_109 kM_0 rfl dX5_readsText_97 ?_
  refine q_iload_n (pc := 100) C 2 rfl dX5_readsText_100 rfl ?_
  refine q_if_eq (pc := 101) C 108 dX5_readsText_101 (by decide) (fun c1 => ?_) (fun c1 => ?_)
  · have h := q_t c1 h
    refine q_iconst (pc := 108) C dX5_readsText_108 ci_0 ?_
    exact tX5_readsText_109 C k25 hk25 _ _ _ _ _ _ h
  · have h := q_f c1 h
    refine q_iconst (pc := 104) C dX5_readsText_104 ci_1 ?_
    refine q_goto (pc := 105) C 109 dX5_readsText_105 (by decide) ?_
    exact tX5_readsText_109 C k25 hk25 _ _ _ _ _ _ h
theorem tX5_readsText_57 {X : qX} {G : qG} (C : qC sM X G RX5 cX5_readsText 4 4 (some .int)) (k25 : qM → Int32 → Int32 → Option (Int32 × qM)) (hk25 : ∀ (σ : qM) (x1 : Int32) (x2 : Int32) (res : (Int32 × qM)), k25 σ x1 x2 = some res → qY sM X G 4 (q_Q sM X G (some (.int res.1)) res.2) σ 25 [(0, .ref (q_ad G 0)), (1, .int x1), (2, .int x2)] []) (σ : qM) (x1 : Int32) (x3 : Int32) (t0 : Int32) (res : (Int32 × qM))  (h : fX5_readsText_57 k25 σ x1 x3 t0 = some res) : qY sM X G 4 (q_Q sM X G (some (.int res.1)) res.2) σ 57 [(0, .ref (q_ad G 0)), (1, .int x1), (3, .int x3)] [.int t0] := by
  unfold fX5_readsText_57 at h
  refine q_istore_n (pc := 57) C dX5_readsText_57 rfl (by decide) rfl ?_
  refine q_iload_n (pc := 58) C 3 rfl dX5_readsText_58 rfl ?_
  refine q_if_eq (pc := 59) C 85 dX5_readsText_59 (by decide) (fun c1 => ?_) (fun c1 => ?_)
  · have h := q_t c1 h
    refine q_sub [1, 2] rfl ?_
    exact tX5_readsText_85 C _ _ _ h
  · have h := q_f c1 h
    refine q_iload_n (pc := 62) C 0 rfl dX5_readsText_62 rfl ?_
    refine q_if_eq (pc := 63) C 95 dX5_readsText_63 (by decide) (fun c2 => ?_) (fun c2 => ?_)
    · have h := q_t c2 h
      refine q_sub [1, 2, 0] rfl ?_
      exact tX5_readsText_95 C k25 hk25 _ _ _ _ h
    · have h := q_f c2 h
      refine q_aload_n (pc := 66) C 1 rfl dX5_readsText_66 rfl ?_
      refine q_getR (pc := 67) (t := 5) C fl_RX5_22 kM_0 rfl rM_0_5 dX5_readsText_67 ?_
      refine q_bipush (pc := 70) C dX5_readsText_70 cb_60 ?_
      refine q_iload_n (pc := 72) C 2 rfl dX5_readsText_72 rfl ?_
      refine q_imul (pc := 73) C dX5_readsText_73 ?_
      refine q_aload_n (pc := 74) C 1 rfl dX5_readsText_74 rfl ?_
      refine q_getI (pc := 75) C fl_RX5_109 kM_0 rfl dX5_readsText_75 ?_
      refine q_iadd (pc := 78) C dX5_readsText_78 ?_
      obtain ⟨g3, h⟩ := q_guard h
      refine q_iald (pc := 79) C kM_5 lM_5 g3 dX5_readsText_79 ?_
      refine q_bipush (pc := 80) C dX5_readsText_80 cb_59 ?_
      refine q_ic_eq (pc := 82) C 95 dX5_readsText_82 (by decide) (fun c4 => ?_) (fun c4 => ?_)
      · have h := q_t c4 h
        refine q_sub [1, 2, 0] rfl ?_
        exact tX5_readsText_95 C k25 hk25 _ _ _ _ h
      · have h := q_f c4 h
        refine q_sub [1, 2] rfl ?_
        exact tX5_readsText_85 C _ _ _ h
theorem tX5_readsText_56 {X : qX} {G : qG} (C : qC sM X G RX5 cX5_readsText 4 4 (some .int)) (k25 : qM → Int32 → Int32 → Option (Int32 × qM)) (hk25 : ∀ (σ : qM) (x1 : Int32) (x2 : Int32) (res : (Int32 × qM)), k25 σ x1 x2 = some res → qY sM X G 4 (q_Q sM X G (some (.int res.1)) res.2) σ 25 [(0, .ref (q_ad G 0)), (1, .int x1), (2, .int x2)] []) (σ : qM) (x1 : Int32) (x3 : Int32) (res : (Int32 × qM))  (h : fX5_readsText_56 k25 σ x1 x3 = some res) : qY sM X G 4 (q_Q sM X G (some (.int res.1)) res.2) σ 56 [(0, .ref (q_ad G 0)), (1, .int x1), (3, .int x3)] [] := by
  unfold fX5_readsText_56 at h
  refine q_iconst (pc := 56) C dX5_readsText_56 ci_0 ?_
  exact tX5_readsText_57 C k25 hk25 _ _ _ _ _ h
theorem uX5_readsText_25 {X : qX} {G : qG} (C : qC sM X G RX5 cX5_readsText 4 4 (some .int)) (k25 : qM → Int32 → Int32 → Option (Int32 × qM)) (hk25 : ∀ (σ : qM) (x1 : Int32) (x2 : Int32) (res : (Int32 × qM)), k25 σ x1 x2 = some res → qY sM X G 4 (q_Q sM X G (some (.int res.1)) res.2) σ 25 [(0, .ref (q_ad G 0)), (1, .int x1), (2, .int x2)] []) (σ : qM) (x1 : Int32) (x2 : Int32) (res : (Int32 × qM))  (h : bX5_readsText_25 k25 σ x1 x2 = some res) : qY sM X G 4 (q_Q sM X G (some (.int res.1)) res.2) σ 25 [(0, .ref (q_ad G 0)), (1, .int x1), (2, .int x2)] [] := by
  unfold bX5_readsText_25 at h
  refine q_iload_n (pc := 25) C 2 rfl dX5_readsText_25 rfl ?_
  refine q_if_eq (pc := 26) C 116 dX5_readsText_26 (by decide) (fun c1 => ?_) (fun c1 => ?_)
  · have h := q_t c1 h
    refine q_iconst (pc := 116) C dX5_readsText_116 ci_m1 ?_
    obtain rfl := Option.some.inj h
    exact q_iret (pc := 117) C dX5_readsText_117
  · have h := q_f c1 h
    refine q_aload_n (pc := 29) C 0 rfl dX5_readsText_29 rfl ?_
    refine q_iload_n (pc := 30) C 1 rfl dX5_readsText_30 rfl ?_
    obtain ⟨q2, hq2, h⟩ := q_bind h
    refine q_callV1 (pc := 31) (st := []) C (zX5_readsThing hq2) yi_X5_readsThing ml_RX5_119 kM_0 rfl (by decide) rfl (Nat.le_of_ble_eq_true rfl) dX5_readsText_31 ?_
    refine q_istore_n (pc := 34) C dX5_readsText_34 rfl (by decide) rfl ?_
    refine q_iload_n (pc := 35) C 0 rfl dX5_readsText_35 rfl ?_
    refine q_if_eq (pc := 36) C 56 dX5_readsText_36 (by decide) (fun c3 => ?_) (fun c3 => ?_)
    · have h := q_t c3 h
      refine q_sub [1, 2, 0] rfl ?_
      exact tX5_readsText_56 C k25 hk25 _ _ _ _ h
    · have h := q_f c3 h
      refine q_aload_n (pc := 39) C 1 rfl dX5_readsText_39 rfl ?_
      refine q_getI (pc := 40) C fl_RX5_109 kM_0 rfl dX5_readsText_40 ?_
      refine q_aload_n (pc := 43) C 1 rfl dX5_readsText_43 rfl ?_
      refine q_getR (pc := 44) (t := 6) C fl_RX5_25 kM_0 rfl rM_0_6 dX5_readsText_44 ?_
      refine q_iload_n (pc := 47) C 2 rfl dX5_readsText_47 rfl ?_
      obtain ⟨g4, h⟩ := q_guard h
      refine q_iald (pc := 48) C kM_6 lM_6 g4 dX5_readsText_48 ?_
      refine q_ic_ge (pc := 49) C 56 dX5_readsText_49 (by decide) (fun c5 => ?_) (fun c5 => ?_)
      · have h := q_t c5 h
        refine q_sub [1, 2, 0] rfl ?_
        exact tX5_readsText_56 C k25 hk25 _ _ _ _ h
      · have h := q_f c5 h
        refine q_iconst (pc := 52) C dX5_readsText_52 ci_1 ?_
        refine q_goto (pc := 53) C 57 dX5_readsText_53 (by decide) ?_
        refine q_sub [1, 2, 0] rfl ?_
        exact tX5_readsText_57 C k25 hk25 _ _ _ _ _ h
theorem tX5_readsText_25 {X : qX} {G : qG} (C : qC sM X G RX5 cX5_readsText 4 4 (some .int))  (σ : qM) (x1 : Int32) (x2 : Int32) (res : (Int32 × qM))  (h : fX5_readsText_25  σ x1 x2 = some res) : qY sM X G 4 (q_Q sM X G (some (.int res.1)) res.2) σ 25 [(0, .ref (q_ad G 0)), (1, .int x1), (2, .int x2)] [] := by
  have key : ∀ (n : Nat) (σ : qM) (x1 : Int32) (x2 : Int32) (res : (Int32 × qM)) , qlp (fun _ _ _ => none) (bX5_readsText_25 ) n σ x1 x2 = some res → qY sM X G 4 (q_Q sM X G (some (.int res.1)) res.2) σ 25 [(0, .ref (q_ad G 0)), (1, .int x1), (2, .int x2)] [] := by
    intro n
    induction n with
    | zero => intro σ x1 x2 res h; cases h
    | succ n ih => intro σ x1 x2 res h; exact uX5_readsText_25 C  (qlp (fun _ _ _ => none) (bX5_readsText_25 ) n) (fun σ x1 x2 res h => ih σ x1 x2 res h) σ x1 x2 res h
  exact key qFU σ x1 x2 res h
theorem tX5_readsText_24 {X : qX} {G : qG} (C : qC sM X G RX5 cX5_readsText 4 4 (some .int))  (σ : qM) (x1 : Int32) (t0 : Int32) (res : (Int32 × qM))  (h : fX5_readsText_24  σ x1 t0 = some res) : qY sM X G 4 (q_Q sM X G (some (.int res.1)) res.2) σ 24 [(0, .ref (q_ad G 0)), (1, .int x1)] [.int t0] := by
  unfold fX5_readsText_24 at h
  refine q_istore_n (pc := 24) C dX5_readsText_24 rfl (by decide) rfl ?_
  refine q_sub [1, 2, 0] rfl ?_
  exact tX5_readsText_25 C _ _ _ _ h
theorem tX5_readsText_5 {X : qX} {G : qG} (C : qC sM X G RX5 cX5_readsText 4 4 (some .int))  (σ : qM) (x1 : Int32) (res : (Int32 × qM))  (h : fX5_readsText_5  σ x1 = some res) : qY sM X G 4 (q_Q sM X G (some (.int res.1)) res.2) σ 5 [(0, .ref (q_ad G 0)), (1, .int x1)] [] := by
  unfold fX5_readsText_5 at h
  refine q_aload_n (pc := 5) C 0 rfl dX5_readsText_5 rfl ?_
  refine q_iload_n (pc := 6) C 1 rfl dX5_readsText_6 rfl ?_
  obtain ⟨q1, hq1, h⟩ := q_bind h
  refine q_callV0 (pc := 7) (st := []) C (zX5_empty hq1) yi_X5_empty ml_RX5_115 kM_0 rfl (by decide) rfl (Nat.le_of_ble_eq_true rfl) dX5_readsText_7 ?_
  refine q_aload_n (pc := 10) C 0 rfl dX5_readsText_10 rfl ?_
  refine q_getR (pc := 11) (t := 6) C fl_RX5_25 kM_0 rfl rM_0_6 dX5_readsText_11 ?_
  refine q_iload_n (pc := 14) C 1 rfl dX5_readsText_14 rfl ?_
  obtain ⟨g2, h⟩ := q_guard h
  refine q_iald (pc := 15) C kM_6 lM_6 g2 dX5_readsText_15 ?_
  refine q_if_le (pc := 16) C 23 dX5_readsText_16 (by decide) (fun c3 => ?_) (fun c3 => ?_)
  · have h := q_t c3 h
    refine q_iconst (pc := 23) C dX5_readsText_23 ci_0 ?_
    exact tX5_readsText_24 C _ _ _ _ h
  · have h := q_f c3 h
    refine q_iconst (pc := 19) C dX5_readsText_19 ci_1 ?_
    refine q_goto (pc := 20) C 24 dX5_readsText_20 (by decide) ?_
    exact tX5_readsText_24 C _ _ _ _ h
theorem zX5_readsText {G : qG} {l : Launch} {σ : qM} {x1 : Int32} {res : (Int32 × qM)}  (h : fX5_readsText σ x1 = some res) : qCon sM G l yX5_readsText cX5_readsText 4 (some .int) 4 [.ref (q_ad G 0), .int x1] σ (some (.int res.1)) res.2 := by
  refine qCon.mkF (lv := [(0, .ref (q_ad G 0)), (1, .int x1)]) (plainFor_of_name (by decide)) (Nat.le_of_ble_eq_true rfl) rfl (fun X hX C => ?_)
  unfold fX5_readsText at h
  refine q_aload_n (pc := 0) C 0 rfl dX5_readsText_0 rfl ?_
  refine q_iconst (pc := 1) C dX5_readsText_1 ci_0 ?_
  refine q_putI (pc := 2) C fl_RX5_109 kM_0 rfl rfl rfl dX5_readsText_2 ?_
  exact tX5_readsText_5 C _ _ _ h

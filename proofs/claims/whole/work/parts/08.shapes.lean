/-! ===== the two shapes ===== -/
def kdC (o : Nat) : Nat := [4, 3, 6, 6, 3, 6, 6, 1, 6, 6, 1, 6, 6, 1, 6, 6, 0, 7, 6, 6, 6, 6, 7, 6, 6, 6, 6, 6, 6, 6, 7, 6, 6, 6, 6, 7, 6, 6, 6, 6, 6, 6, 6, 8, 2, 6, 2, 6, 2, 6, 2, 6].getD o 9
def lnC (o : Nat) : Nat := [0, 0, 47, 36, 0, 59, 50, 0, 8, 8, 0, 12, 12, 0, 8, 8, 0, 4, 12, 12, 12, 12, 4, 12, 12, 12, 12, 4, 4, 4, 4, 144, 144, 144, 144, 4, 9, 9, 9, 9, 1024, 4096, 13, 4, 0, 60, 0, 60, 0, 60, 0, 60].getD o 0
def rfC (o k : Nat) : Nat := if kdC o = 3 then o + (k - 1) else if kdC o = 1 then o + (k + 1) else if kdC o = 2 then o + 1 else if kdC o = 7 then o + 1 + k else if kdC o = 8 then 44 + 2 * k else if kdC o = 4 then [1, 4, 7, 10, 13, 16, 43].getD k 0 else [1, 4, 7, 17, 22, 27, 28, 29, 30, 35, 40, 41, 0, 42].getD k 0
def sC : qS := (kdC, lnC, rfC, 52)
def kdM (o : Nat) : Nat := [5, 6, 6, 6, 6, 6, 6, 6, 6, 6, 6, 6, 6, 6, 6, 6].getD o 9
def lnM (o : Nat) : Nat := [0, 4, 4, 240, 60, 120, 2, 39, 50, 16, 24, 2, 13, 13, 130, 16].getD o 0
def rfM (_ k : Nat) : Nat := [1, 2, 3, 4, 0, 5, 6, 0, 0, 7, 0, 8, 0, 9, 0, 10, 11, 12, 13, 14, 0, 0, 0, 0, 0, 15].getD k 0
def sM : qS := (kdM, lnM, rfM, 16)
theorem kC_0 : q_kd sC 0 = 4 := rfl
theorem kC_1 : q_kd sC 1 = 3 := rfl
theorem kC_2 : q_kd sC 2 = 6 := rfl
theorem lC_2 : q_ln sC 2 = 47 := rfl
theorem kC_3 : q_kd sC 3 = 6 := rfl
theorem lC_3 : q_ln sC 3 = 36 := rfl
theorem kC_4 : q_kd sC 4 = 3 := rfl
theorem kC_5 : q_kd sC 5 = 6 := rfl
theorem lC_5 : q_ln sC 5 = 59 := rfl
theorem kC_6 : q_kd sC 6 = 6 := rfl
theorem lC_6 : q_ln sC 6 = 50 := rfl
theorem kC_7 : q_kd sC 7 = 1 := rfl
theorem kC_8 : q_kd sC 8 = 6 := rfl
theorem lC_8 : q_ln sC 8 = 8 := rfl
theorem kC_9 : q_kd sC 9 = 6 := rfl
theorem lC_9 : q_ln sC 9 = 8 := rfl
theorem kC_10 : q_kd sC 10 = 1 := rfl
theorem kC_11 : q_kd sC 11 = 6 := rfl
theorem lC_11 : q_ln sC 11 = 12 := rfl
theorem kC_12 : q_kd sC 12 = 6 := rfl
theorem lC_12 : q_ln sC 12 = 12 := rfl
theorem kC_13 : q_kd sC 13 = 1 := rfl
theorem kC_14 : q_kd sC 14 = 6 := rfl
theorem lC_14 : q_ln sC 14 = 8 := rfl
theorem kC_15 : q_kd sC 15 = 6 := rfl
theorem lC_15 : q_ln sC 15 = 8 := rfl
theorem kC_16 : q_kd sC 16 = 0 := rfl
theorem kC_17 : q_kd sC 17 = 7 := rfl
theorem lC_17 : q_ln sC 17 = 4 := rfl
theorem kC_18 : q_kd sC 18 = 6 := rfl
theorem lC_18 : q_ln sC 18 = 12 := rfl
theorem kC_19 : q_kd sC 19 = 6 := rfl
theorem lC_19 : q_ln sC 19 = 12 := rfl
theorem kC_20 : q_kd sC 20 = 6 := rfl
theorem lC_20 : q_ln sC 20 = 12 := rfl
theorem kC_21 : q_kd sC 21 = 6 := rfl
theorem lC_21 : q_ln sC 21 = 12 := rfl
theorem kC_22 : q_kd sC 22 = 7 := rfl
theorem lC_22 : q_ln sC 22 = 4 := rfl
theorem kC_23 : q_kd sC 23 = 6 := rfl
theorem lC_23 : q_ln sC 23 = 12 := rfl
theorem kC_24 : q_kd sC 24 = 6 := rfl
theorem lC_24 : q_ln sC 24 = 12 := rfl
theorem kC_25 : q_kd sC 25 = 6 := rfl
theorem lC_25 : q_ln sC 25 = 12 := rfl
theorem kC_26 : q_kd sC 26 = 6 := rfl
theorem lC_26 : q_ln sC 26 = 12 := rfl
theorem kC_27 : q_kd sC 27 = 6 := rfl
theorem lC_27 : q_ln sC 27 = 4 := rfl
theorem kC_28 : q_kd sC 28 = 6 := rfl
theorem lC_28 : q_ln sC 28 = 4 := rfl
theorem kC_29 : q_kd sC 29 = 6 := rfl
theorem lC_29 : q_ln sC 29 = 4 := rfl
theorem kC_30 : q_kd sC 30 = 7 := rfl
theorem lC_30 : q_ln sC 30 = 4 := rfl
theorem kC_31 : q_kd sC 31 = 6 := rfl
theorem lC_31 : q_ln sC 31 = 144 := rfl
theorem kC_32 : q_kd sC 32 = 6 := rfl
theorem lC_32 : q_ln sC 32 = 144 := rfl
theorem kC_33 : q_kd sC 33 = 6 := rfl
theorem lC_33 : q_ln sC 33 = 144 := rfl
theorem kC_34 : q_kd sC 34 = 6 := rfl
theorem lC_34 : q_ln sC 34 = 144 := rfl
theorem kC_35 : q_kd sC 35 = 7 := rfl
theorem lC_35 : q_ln sC 35 = 4 := rfl
theorem kC_36 : q_kd sC 36 = 6 := rfl
theorem lC_36 : q_ln sC 36 = 9 := rfl
theorem kC_37 : q_kd sC 37 = 6 := rfl
theorem lC_37 : q_ln sC 37 = 9 := rfl
theorem kC_38 : q_kd sC 38 = 6 := rfl
theorem lC_38 : q_ln sC 38 = 9 := rfl
theorem kC_39 : q_kd sC 39 = 6 := rfl
theorem lC_39 : q_ln sC 39 = 9 := rfl
theorem kC_40 : q_kd sC 40 = 6 := rfl
theorem lC_40 : q_ln sC 40 = 1024 := rfl
theorem kC_41 : q_kd sC 41 = 6 := rfl
theorem lC_41 : q_ln sC 41 = 4096 := rfl
theorem kC_42 : q_kd sC 42 = 6 := rfl
theorem lC_42 : q_ln sC 42 = 13 := rfl
theorem kC_43 : q_kd sC 43 = 8 := rfl
theorem lC_43 : q_ln sC 43 = 4 := rfl
theorem kC_44 : q_kd sC 44 = 2 := rfl
theorem kC_45 : q_kd sC 45 = 6 := rfl
theorem lC_45 : q_ln sC 45 = 60 := rfl
theorem kC_46 : q_kd sC 46 = 2 := rfl
theorem kC_47 : q_kd sC 47 = 6 := rfl
theorem lC_47 : q_ln sC 47 = 60 := rfl
theorem kC_48 : q_kd sC 48 = 2 := rfl
theorem kC_49 : q_kd sC 49 = 6 := rfl
theorem lC_49 : q_ln sC 49 = 60 := rfl
theorem kC_50 : q_kd sC 50 = 2 := rfl
theorem kC_51 : q_kd sC 51 = 6 := rfl
theorem lC_51 : q_ln sC 51 = 60 := rfl
theorem kM_0 : q_kd sM 0 = 5 := rfl
theorem kM_1 : q_kd sM 1 = 6 := rfl
theorem lM_1 : q_ln sM 1 = 4 := rfl
theorem kM_2 : q_kd sM 2 = 6 := rfl
theorem lM_2 : q_ln sM 2 = 4 := rfl
theorem kM_3 : q_kd sM 3 = 6 := rfl
theorem lM_3 : q_ln sM 3 = 240 := rfl
theorem kM_4 : q_kd sM 4 = 6 := rfl
theorem lM_4 : q_ln sM 4 = 60 := rfl
theorem kM_5 : q_kd sM 5 = 6 := rfl
theorem lM_5 : q_ln sM 5 = 120 := rfl
theorem kM_6 : q_kd sM 6 = 6 := rfl
theorem lM_6 : q_ln sM 6 = 2 := rfl
theorem kM_7 : q_kd sM 7 = 6 := rfl
theorem lM_7 : q_ln sM 7 = 39 := rfl
theorem kM_8 : q_kd sM 8 = 6 := rfl
theorem lM_8 : q_ln sM 8 = 50 := rfl
theorem kM_9 : q_kd sM 9 = 6 := rfl
theorem lM_9 : q_ln sM 9 = 16 := rfl
theorem kM_10 : q_kd sM 10 = 6 := rfl
theorem lM_10 : q_ln sM 10 = 24 := rfl
theorem kM_11 : q_kd sM 11 = 6 := rfl
theorem lM_11 : q_ln sM 11 = 2 := rfl
theorem kM_12 : q_kd sM 12 = 6 := rfl
theorem lM_12 : q_ln sM 12 = 13 := rfl
theorem kM_13 : q_kd sM 13 = 6 := rfl
theorem lM_13 : q_ln sM 13 = 13 := rfl
theorem kM_14 : q_kd sM 14 = 6 := rfl
theorem lM_14 : q_ln sM 14 = 130 := rfl
theorem kM_15 : q_kd sM 15 = 6 := rfl
theorem lM_15 : q_ln sM 15 = 16 := rfl
theorem rC_0_0 : q_rf sC 0 0 = 1 := rfl
theorem rC_0_1 : q_rf sC 0 1 = 4 := rfl
theorem rC_0_2 : q_rf sC 0 2 = 7 := rfl
theorem rC_0_3 : q_rf sC 0 3 = 10 := rfl
theorem rC_0_4 : q_rf sC 0 4 = 13 := rfl
theorem rC_0_5 : q_rf sC 0 5 = 16 := rfl
theorem rC_0_6 : q_rf sC 0 6 = 43 := rfl
theorem rC_16_0 : q_rf sC 16 0 = 1 := rfl
theorem rC_16_1 : q_rf sC 16 1 = 4 := rfl
theorem rC_16_2 : q_rf sC 16 2 = 7 := rfl
theorem rC_16_3 : q_rf sC 16 3 = 17 := rfl
theorem rC_16_4 : q_rf sC 16 4 = 22 := rfl
theorem rC_16_5 : q_rf sC 16 5 = 27 := rfl
theorem rC_16_6 : q_rf sC 16 6 = 28 := rfl
theorem rC_16_7 : q_rf sC 16 7 = 29 := rfl
theorem rC_16_8 : q_rf sC 16 8 = 30 := rfl
theorem rC_16_9 : q_rf sC 16 9 = 35 := rfl
theorem rC_16_10 : q_rf sC 16 10 = 40 := rfl
theorem rC_16_11 : q_rf sC 16 11 = 41 := rfl
theorem rC_16_12 : q_rf sC 16 12 = 0 := rfl
theorem rC_16_13 : q_rf sC 16 13 = 42 := rfl
theorem rM_0_0 : q_rf sM 0 0 = 1 := rfl
theorem rM_0_1 : q_rf sM 0 1 = 2 := rfl
theorem rM_0_2 : q_rf sM 0 2 = 3 := rfl
theorem rM_0_3 : q_rf sM 0 3 = 4 := rfl
theorem rM_0_4 : q_rf sM 0 4 = 0 := rfl
theorem rM_0_5 : q_rf sM 0 5 = 5 := rfl
theorem rM_0_6 : q_rf sM 0 6 = 6 := rfl
theorem rM_0_7 : q_rf sM 0 7 = 0 := rfl
theorem rM_0_8 : q_rf sM 0 8 = 0 := rfl
theorem rM_0_9 : q_rf sM 0 9 = 7 := rfl
theorem rM_0_10 : q_rf sM 0 10 = 0 := rfl
theorem rM_0_11 : q_rf sM 0 11 = 8 := rfl
theorem rM_0_12 : q_rf sM 0 12 = 0 := rfl
theorem rM_0_13 : q_rf sM 0 13 = 9 := rfl
theorem rM_0_14 : q_rf sM 0 14 = 0 := rfl
theorem rM_0_15 : q_rf sM 0 15 = 10 := rfl
theorem rM_0_16 : q_rf sM 0 16 = 11 := rfl
theorem rM_0_17 : q_rf sM 0 17 = 12 := rfl
theorem rM_0_18 : q_rf sM 0 18 = 13 := rfl
theorem rM_0_19 : q_rf sM 0 19 = 14 := rfl
theorem rM_0_20 : q_rf sM 0 20 = 0 := rfl
theorem rM_0_21 : q_rf sM 0 21 = 0 := rfl
theorem rM_0_22 : q_rf sM 0 22 = 0 := rfl
theorem rM_0_23 : q_rf sM 0 23 = 0 := rfl
theorem rM_0_24 : q_rf sM 0 24 = 0 := rfl
theorem rM_0_25 : q_rf sM 0 25 = 15 := rfl
theorem kdC_big {o : Nat} (h : 52 ≤ o) : kdC o = 9 := by unfold kdC; rw [List.getD_eq_getElem?_getD, List.getElem?_eq_none (by simpa using h)]; rfl
theorem kdC_lt {o : Nat} (h : kdC o < 9) : o < 52 := by rcases Nat.lt_or_ge o 52 with q | q; exact q; rw [kdC_big q] at h; omega
theorem kdM_big {o : Nat} (h : 16 ≤ o) : kdM o = 9 := by unfold kdM; rw [List.getD_eq_getElem?_getD, List.getElem?_eq_none (by simpa using h)]; rfl
theorem kdM_lt {o : Nat} (h : kdM o < 9) : o < 16 := by rcases Nat.lt_or_ge o 16 with q | q; exact q; rw [kdM_big q] at h; omega
theorem is_text {o : Nat} (h : q_kd sC o = 3) : o = 1 ∨ o = 4 := by have h1 : o < 52 := kdC_lt (by show q_kd sC o < 9; omega); have key : ∀ o, o < 52 → kdC o = 3 → o = 1 ∨ o = 4 := (by decide); exact key o h1 h
theorem is_pairs {o : Nat} (h : q_kd sC o = 1) : o = 7 ∨ o = 10 ∨ o = 13 := by have h1 : o < 52 := kdC_lt (by show q_kd sC o < 9; omega); have key : ∀ o, o < 52 → kdC o = 1 → o = 7 ∨ o = 10 ∨ o = 13 := (by decide); exact key o h1 h
theorem is_sheet {o : Nat} (h : q_kd sC o = 2) : o = 44 ∨ o = 46 ∨ o = 48 ∨ o = 50 := by have h1 : o < 52 := kdC_lt (by show q_kd sC o < 9; omega); have key : ∀ o, o < 52 → kdC o = 2 → o = 44 ∨ o = 46 ∨ o = 48 ∨ o = 50 := (by decide); exact key o h1 h
theorem rT_2 {o : Nat} (h : q_kd sC o = 3) : q_rf sC o 2 = o + 1 := by rcases is_text h with rfl | rfl <;> rfl
theorem rT_3 {o : Nat} (h : q_kd sC o = 3) : q_rf sC o 3 = o + 2 := by rcases is_text h with rfl | rfl <;> rfl
theorem kT_1 {o : Nat} (h : q_kd sC o = 3) : q_kd sC (o + 1) = 6 := by rcases is_text h with rfl | rfl <;> rfl
theorem kT_2 {o : Nat} (h : q_kd sC o = 3) : q_kd sC (o + 2) = 6 := by rcases is_text h with rfl | rfl <;> rfl
theorem rP_0 {o : Nat} (h : q_kd sC o = 1) : q_rf sC o 0 = o + 1 := by rcases is_pairs h with rfl | rfl | rfl <;> rfl
theorem rP_1 {o : Nat} (h : q_kd sC o = 1) : q_rf sC o 1 = o + 2 := by rcases is_pairs h with rfl | rfl | rfl <;> rfl
theorem kP_1 {o : Nat} (h : q_kd sC o = 1) : q_kd sC (o + 1) = 6 := by rcases is_pairs h with rfl | rfl | rfl <;> rfl
theorem kP_2 {o : Nat} (h : q_kd sC o = 1) : q_kd sC (o + 2) = 6 := by rcases is_pairs h with rfl | rfl | rfl <;> rfl
theorem rH_0 {o : Nat} (h : q_kd sC o = 2) : q_rf sC o 0 = o + 1 := by rcases is_sheet h with rfl | rfl | rfl | rfl <;> rfl
theorem kH_1 {o : Nat} (h : q_kd sC o = 2) : q_kd sC (o + 1) = 6 := by rcases is_sheet h with rfl | rfl | rfl | rfl <;> rfl
theorem lH_1 {o : Nat} (h : q_kd sC o = 2) : q_ln sC (o + 1) = 60 := by rcases is_sheet h with rfl | rfl | rfl | rfl <;> rfl
theorem vp_lt {i : Int32} {n : Nat} (h : vp_in i n) : i.toNatClampNeg < n := Nat.not_le.mp fun q => h (Or.inr q)
theorem rR_17 (j : Nat) : q_rf sC 17 j = 18 + j := rfl
theorem kR_17 {i : Int32} (h : vp_in i 4) : q_kd sC (18 + i.toNatClampNeg) = 6 := by have h1 := vp_lt h; generalize i.toNatClampNeg = j at h1; have key : ∀ j, j < 4 → q_kd sC (18 + j) = 6 := (by decide); exact key j h1
theorem lR_17 {i : Int32} (h : vp_in i 4) : q_ln sC (18 + i.toNatClampNeg) = 12 := by have h1 := vp_lt h; generalize i.toNatClampNeg = j at h1; have key : ∀ j, j < 4 → q_ln sC (18 + j) = 12 := (by decide); exact key j h1
theorem rR_22 (j : Nat) : q_rf sC 22 j = 23 + j := rfl
theorem kR_22 {i : Int32} (h : vp_in i 4) : q_kd sC (23 + i.toNatClampNeg) = 6 := by have h1 := vp_lt h; generalize i.toNatClampNeg = j at h1; have key : ∀ j, j < 4 → q_kd sC (23 + j) = 6 := (by decide); exact key j h1
theorem lR_22 {i : Int32} (h : vp_in i 4) : q_ln sC (23 + i.toNatClampNeg) = 12 := by have h1 := vp_lt h; generalize i.toNatClampNeg = j at h1; have key : ∀ j, j < 4 → q_ln sC (23 + j) = 12 := (by decide); exact key j h1
theorem rR_30 (j : Nat) : q_rf sC 30 j = 31 + j := rfl
theorem kR_30 {i : Int32} (h : vp_in i 4) : q_kd sC (31 + i.toNatClampNeg) = 6 := by have h1 := vp_lt h; generalize i.toNatClampNeg = j at h1; have key : ∀ j, j < 4 → q_kd sC (31 + j) = 6 := (by decide); exact key j h1
theorem lR_30 {i : Int32} (h : vp_in i 4) : q_ln sC (31 + i.toNatClampNeg) = 144 := by have h1 := vp_lt h; generalize i.toNatClampNeg = j at h1; have key : ∀ j, j < 4 → q_ln sC (31 + j) = 144 := (by decide); exact key j h1
theorem rR_35 (j : Nat) : q_rf sC 35 j = 36 + j := rfl
theorem kR_35 {i : Int32} (h : vp_in i 4) : q_kd sC (36 + i.toNatClampNeg) = 6 := by have h1 := vp_lt h; generalize i.toNatClampNeg = j at h1; have key : ∀ j, j < 4 → q_kd sC (36 + j) = 6 := (by decide); exact key j h1
theorem lR_35 {i : Int32} (h : vp_in i 4) : q_ln sC (36 + i.toNatClampNeg) = 9 := by have h1 := vp_lt h; generalize i.toNatClampNeg = j at h1; have key : ∀ j, j < 4 → q_ln sC (36 + j) = 9 := (by decide); exact key j h1
theorem rR_43 (j : Nat) : q_rf sC 43 j = 44 + 2 * j := rfl
theorem kR_43 {i : Int32} (h : vp_in i 4) : q_kd sC (44 + 2 * i.toNatClampNeg) = 2 := by have h1 := vp_lt h; generalize i.toNatClampNeg = j at h1; have key : ∀ j, j < 4 → q_kd sC (44 + 2 * j) = 2 := (by decide); exact key j h1

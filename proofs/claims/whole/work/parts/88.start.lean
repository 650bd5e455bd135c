/-! ===== the worlds that the constructors leave, as static worlds ===== -/
theorem ls_s {P : Nat → Prop} {n : Nat} (h : ∀ o, o < n → P o) (hn : P n) : ∀ o, o < n + 1 → P o := fun o ho => by
  by_cases e : o = n
  · subst e; exact hn
  · exact h o (by omega)
theorem ls_0 {P : Nat → Prop} : ∀ o, o < 0 → P o := fun o ho => absurd ho (Nat.not_lt_zero o)
theorem row_eq {c : ClassId} {n : Nat} {f g : Nat → Option Nat} (h : ∀ j, j < n → f j = g j) : vp_cell c (n, .inr (.inr (.inr (.inr f)))) = vp_cell c (n, .inr (.inr (.inr (.inr g)))) := by
  rw [vp_cell_q, vp_cell_q]
  unfold arrV
  congr 2
  funext j
  show va_rf (f j.1) = va_rf (g j.1)
  rw [h j.1 j.isLt]
def sg0 : qM := fun o => if o = 0 then (fun k => if k = 8 then 1 else 0) else if o = 1 then (fun k => if k = 0 then 1 else if k = 1 then 3 else if k = 6 then -1 else 0) else if o = 4 then (fun k => if k = 1 then 5 else if k = 6 then -1 else 0) else if o = 16 then (fun k => if k = 12 then -1 else if k = 14 then 1 else 0) else if o = 44 then (fun k => if k = 1 then -1 else 0) else if o = 46 then (fun k => if k = 1 then -1 else 0) else if o = 48 then (fun k => if k = 1 then -1 else 0) else if o = 50 then (fun k => if k = 1 then -1 else 0) else (fun _ => 0)
def sm0 : qM := fun o => if o = 0 then (fun k => if k = 23 then -1 else 0) else if o = 1 then upd (upd (upd (upd (fun _ => 0) 0 (-1)) 1 (-1)) 2 (-1)) 3 (-1) else if o = 11 then upd (fun _ => 0) 1 1 else (fun _ => 0)
def adC (h0 : Nat) (v : (Nat → Nat) × (Nat → Nat → Nat)) : Nat → Nat := fun o => [h0, (v.1 0), (v.1 1), (v.1 2), (v.1 3), (v.1 4), (v.1 5), (v.1 6), (v.1 7), (v.1 8), (v.1 9), (v.1 10), (v.1 11), (v.1 12), (v.1 13), (v.1 14), (v.1 15), (v.1 16), (v.2 0 0), (v.2 0 1), (v.2 0 2), (v.2 0 3), (v.1 17), (v.2 1 0), (v.2 1 1), (v.2 1 2), (v.2 1 3), (v.1 18), (v.1 19), (v.1 20), (v.1 21), (v.2 2 0), (v.2 2 1), (v.2 2 2), (v.2 2 3), (v.1 22), (v.2 3 0), (v.2 3 1), (v.2 3 2), (v.2 3 3), (v.1 23), (v.1 24), (v.1 25), (v.1 26), (v.1 27), (v.1 28), (v.1 29), (v.1 30), (v.1 31), (v.1 32), (v.1 33), (v.1 34)].getD o 0
def adM (h0 : Nat) (u : Nat → Nat) : Nat → Nat := fun o => [h0, u 0, u 1, u 2, u 3, u 4, u 5, u 6, u 7, u 8, u 9, u 10, u 11, u 12, u 13, u 14].getD o 0
abbrev gC (D : va_G) (cI cII cS : ClassId) (aK : Nat → Nat) (h0 : Nat) (v : (Nat → Nat) × (Nat → Nat → Nat)) : qG := (D, adC h0 v, cI, cII, cS, aK)
abbrev gM (D : va_G) (cI cII cS : ClassId) (aK : Nat → Nat) (h0 : Nat) (u : Nat → Nat) : qG := (D, adM h0 u, cI, cII, cS, aK)
section SW
variable {D : va_G} {cI cII cS : ClassId} {aK : Nat → Nat} {h0 : Nat} {v : (Nat → Nat) × (Nat → Nat → Nat)} {H : Heap}
theorem wt_0 (hP : va_P D vwCl (wT cI cII cS h0 v) H) : va_at D vwCl (q_ad (gC D cI cII cS aK h0 v) 0, q_en sC (gC D cI cII cS aK h0 v) (sg0 0) 0) H := hP 0 _ rfl
theorem wt_1 (hP : va_P D vwCl (wT cI cII cS h0 v) H) : va_at D vwCl (q_ad (gC D cI cII cS aK h0 v) 1, q_en sC (gC D cI cII cS aK h0 v) (sg0 1) 1) H := hP 1 _ rfl
theorem wt_2 (hP : va_P D vwCl (wT cI cII cS h0 v) H) : va_at D vwCl (q_ad (gC D cI cII cS aK h0 v) 2, q_en sC (gC D cI cII cS aK h0 v) (sg0 2) 2) H := hP 2 _ rfl
theorem wt_3 (hP : va_P D vwCl (wT cI cII cS h0 v) H) : va_at D vwCl (q_ad (gC D cI cII cS aK h0 v) 3, q_en sC (gC D cI cII cS aK h0 v) (sg0 3) 3) H := hP 3 _ rfl
theorem wt_4 (hP : va_P D vwCl (wT cI cII cS h0 v) H) : va_at D vwCl (q_ad (gC D cI cII cS aK h0 v) 4, q_en sC (gC D cI cII cS aK h0 v) (sg0 4) 4) H := hP 4 _ rfl
theorem wt_5 (hP : va_P D vwCl (wT cI cII cS h0 v) H) : va_at D vwCl (q_ad (gC D cI cII cS aK h0 v) 5, q_en sC (gC D cI cII cS aK h0 v) (sg0 5) 5) H := hP 5 _ rfl
theorem wt_6 (hP : va_P D vwCl (wT cI cII cS h0 v) H) : va_at D vwCl (q_ad (gC D cI cII cS aK h0 v) 6, q_en sC (gC D cI cII cS aK h0 v) (sg0 6) 6) H := hP 6 _ rfl
theorem wt_7 (hP : va_P D vwCl (wT cI cII cS h0 v) H) : va_at D vwCl (q_ad (gC D cI cII cS aK h0 v) 7, q_en sC (gC D cI cII cS aK h0 v) (sg0 7) 7) H := hP 7 _ rfl
theorem wt_8 (hP : va_P D vwCl (wT cI cII cS h0 v) H) : va_at D vwCl (q_ad (gC D cI cII cS aK h0 v) 8, q_en sC (gC D cI cII cS aK h0 v) (sg0 8) 8) H := hP 8 _ rfl
theorem wt_9 (hP : va_P D vwCl (wT cI cII cS h0 v) H) : va_at D vwCl (q_ad (gC D cI cII cS aK h0 v) 9, q_en sC (gC D cI cII cS aK h0 v) (sg0 9) 9) H := hP 9 _ rfl
theorem wt_10 (hP : va_P D vwCl (wT cI cII cS h0 v) H) : va_at D vwCl (q_ad (gC D cI cII cS aK h0 v) 10, q_en sC (gC D cI cII cS aK h0 v) (sg0 10) 10) H := hP 10 _ rfl
theorem wt_11 (hP : va_P D vwCl (wT cI cII cS h0 v) H) : va_at D vwCl (q_ad (gC D cI cII cS aK h0 v) 11, q_en sC (gC D cI cII cS aK h0 v) (sg0 11) 11) H := hP 11 _ rfl
theorem wt_12 (hP : va_P D vwCl (wT cI cII cS h0 v) H) : va_at D vwCl (q_ad (gC D cI cII cS aK h0 v) 12, q_en sC (gC D cI cII cS aK h0 v) (sg0 12) 12) H := hP 12 _ rfl
theorem wt_13 (hP : va_P D vwCl (wT cI cII cS h0 v) H) : va_at D vwCl (q_ad (gC D cI cII cS aK h0 v) 13, q_en sC (gC D cI cII cS aK h0 v) (sg0 13) 13) H := hP 13 _ rfl
theorem wt_14 (hP : va_P D vwCl (wT cI cII cS h0 v) H) : va_at D vwCl (q_ad (gC D cI cII cS aK h0 v) 14, q_en sC (gC D cI cII cS aK h0 v) (sg0 14) 14) H := hP 14 _ rfl
theorem wt_15 (hP : va_P D vwCl (wT cI cII cS h0 v) H) : va_at D vwCl (q_ad (gC D cI cII cS aK h0 v) 15, q_en sC (gC D cI cII cS aK h0 v) (sg0 15) 15) H := hP 15 _ rfl
theorem wt_16 (hP : va_P D vwCl (wT cI cII cS h0 v) H) : va_at D vwCl (q_ad (gC D cI cII cS aK h0 v) 16, q_en sC (gC D cI cII cS aK h0 v) (sg0 16) 16) H := hP 16 _ rfl
theorem wt_17 (hP : va_P D vwCl (wT cI cII cS h0 v) H) : va_at D vwCl (q_ad (gC D cI cII cS aK h0 v) 17, q_en sC (gC D cI cII cS aK h0 v) (sg0 17) 17) H := by
  have h := hP 17 _ rfl
  rw [q_en_7 (by rfl)]
  refine Eq.trans h (congrArg some (row_eq ?_))
  exact ls_s (ls_s (ls_s (ls_s ls_0 rfl) rfl) rfl) rfl
theorem wt_18 (hP : va_P D vwCl (wT cI cII cS h0 v) H) : va_at D vwCl (q_ad (gC D cI cII cS aK h0 v) 18, q_en sC (gC D cI cII cS aK h0 v) (sg0 18) 18) H := hP 18 _ rfl
theorem wt_19 (hP : va_P D vwCl (wT cI cII cS h0 v) H) : va_at D vwCl (q_ad (gC D cI cII cS aK h0 v) 19, q_en sC (gC D cI cII cS aK h0 v) (sg0 19) 19) H := hP 19 _ rfl
theorem wt_20 (hP : va_P D vwCl (wT cI cII cS h0 v) H) : va_at D vwCl (q_ad (gC D cI cII cS aK h0 v) 20, q_en sC (gC D cI cII cS aK h0 v) (sg0 20) 20) H := hP 20 _ rfl
theorem wt_21 (hP : va_P D vwCl (wT cI cII cS h0 v) H) : va_at D vwCl (q_ad (gC D cI cII cS aK h0 v) 21, q_en sC (gC D cI cII cS aK h0 v) (sg0 21) 21) H := hP 21 _ rfl
theorem wt_22 (hP : va_P D vwCl (wT cI cII cS h0 v) H) : va_at D vwCl (q_ad (gC D cI cII cS aK h0 v) 22, q_en sC (gC D cI cII cS aK h0 v) (sg0 22) 22) H := by
  have h := hP 22 _ rfl
  rw [q_en_7 (by rfl)]
  refine Eq.trans h (congrArg some (row_eq ?_))
  exact ls_s (ls_s (ls_s (ls_s ls_0 rfl) rfl) rfl) rfl
theorem wt_23 (hP : va_P D vwCl (wT cI cII cS h0 v) H) : va_at D vwCl (q_ad (gC D cI cII cS aK h0 v) 23, q_en sC (gC D cI cII cS aK h0 v) (sg0 23) 23) H := hP 23 _ rfl
theorem wt_24 (hP : va_P D vwCl (wT cI cII cS h0 v) H) : va_at D vwCl (q_ad (gC D cI cII cS aK h0 v) 24, q_en sC (gC D cI cII cS aK h0 v) (sg0 24) 24) H := hP 24 _ rfl
theorem wt_25 (hP : va_P D vwCl (wT cI cII cS h0 v) H) : va_at D vwCl (q_ad (gC D cI cII cS aK h0 v) 25, q_en sC (gC D cI cII cS aK h0 v) (sg0 25) 25) H := hP 25 _ rfl
theorem wt_26 (hP : va_P D vwCl (wT cI cII cS h0 v) H) : va_at D vwCl (q_ad (gC D cI cII cS aK h0 v) 26, q_en sC (gC D cI cII cS aK h0 v) (sg0 26) 26) H := hP 26 _ rfl
theorem wt_27 (hP : va_P D vwCl (wT cI cII cS h0 v) H) : va_at D vwCl (q_ad (gC D cI cII cS aK h0 v) 27, q_en sC (gC D cI cII cS aK h0 v) (sg0 27) 27) H := hP 27 _ rfl
theorem wt_28 (hP : va_P D vwCl (wT cI cII cS h0 v) H) : va_at D vwCl (q_ad (gC D cI cII cS aK h0 v) 28, q_en sC (gC D cI cII cS aK h0 v) (sg0 28) 28) H := hP 28 _ rfl
theorem wt_29 (hP : va_P D vwCl (wT cI cII cS h0 v) H) : va_at D vwCl (q_ad (gC D cI cII cS aK h0 v) 29, q_en sC (gC D cI cII cS aK h0 v) (sg0 29) 29) H := hP 29 _ rfl
theorem wt_30 (hP : va_P D vwCl (wT cI cII cS h0 v) H) : va_at D vwCl (q_ad (gC D cI cII cS aK h0 v) 30, q_en sC (gC D cI cII cS aK h0 v) (sg0 30) 30) H := by
  have h := hP 30 _ rfl
  rw [q_en_7 (by rfl)]
  refine Eq.trans h (congrArg some (row_eq ?_))
  exact ls_s (ls_s (ls_s (ls_s ls_0 rfl) rfl) rfl) rfl
theorem wt_31 (hP : va_P D vwCl (wT cI cII cS h0 v) H) : va_at D vwCl (q_ad (gC D cI cII cS aK h0 v) 31, q_en sC (gC D cI cII cS aK h0 v) (sg0 31) 31) H := hP 31 _ rfl
theorem wt_32 (hP : va_P D vwCl (wT cI cII cS h0 v) H) : va_at D vwCl (q_ad (gC D cI cII cS aK h0 v) 32, q_en sC (gC D cI cII cS aK h0 v) (sg0 32) 32) H := hP 32 _ rfl
theorem wt_33 (hP : va_P D vwCl (wT cI cII cS h0 v) H) : va_at D vwCl (q_ad (gC D cI cII cS aK h0 v) 33, q_en sC (gC D cI cII cS aK h0 v) (sg0 33) 33) H := hP 33 _ rfl
theorem wt_34 (hP : va_P D vwCl (wT cI cII cS h0 v) H) : va_at D vwCl (q_ad (gC D cI cII cS aK h0 v) 34, q_en sC (gC D cI cII cS aK h0 v) (sg0 34) 34) H := hP 34 _ rfl
theorem wt_35 (hP : va_P D vwCl (wT cI cII cS h0 v) H) : va_at D vwCl (q_ad (gC D cI cII cS aK h0 v) 35, q_en sC (gC D cI cII cS aK h0 v) (sg0 35) 35) H := by
  have h := hP 35 _ rfl
  rw [q_en_7 (by rfl)]
  refine Eq.trans h (congrArg some (row_eq ?_))
  exact ls_s (ls_s (ls_s (ls_s ls_0 rfl) rfl) rfl) rfl
theorem wt_36 (hP : va_P D vwCl (wT cI cII cS h0 v) H) : va_at D vwCl (q_ad (gC D cI cII cS aK h0 v) 36, q_en sC (gC D cI cII cS aK h0 v) (sg0 36) 36) H := hP 36 _ rfl
theorem wt_37 (hP : va_P D vwCl (wT cI cII cS h0 v) H) : va_at D vwCl (q_ad (gC D cI cII cS aK h0 v) 37, q_en sC (gC D cI cII cS aK h0 v) (sg0 37) 37) H := hP 37 _ rfl
theorem wt_38 (hP : va_P D vwCl (wT cI cII cS h0 v) H) : va_at D vwCl (q_ad (gC D cI cII cS aK h0 v) 38, q_en sC (gC D cI cII cS aK h0 v) (sg0 38) 38) H := hP 38 _ rfl
theorem wt_39 (hP : va_P D vwCl (wT cI cII cS h0 v) H) : va_at D vwCl (q_ad (gC D cI cII cS aK h0 v) 39, q_en sC (gC D cI cII cS aK h0 v) (sg0 39) 39) H := hP 39 _ rfl
theorem wt_40 (hP : va_P D vwCl (wT cI cII cS h0 v) H) : va_at D vwCl (q_ad (gC D cI cII cS aK h0 v) 40, q_en sC (gC D cI cII cS aK h0 v) (sg0 40) 40) H := hP 40 _ rfl
theorem wt_41 (hP : va_P D vwCl (wT cI cII cS h0 v) H) : va_at D vwCl (q_ad (gC D cI cII cS aK h0 v) 41, q_en sC (gC D cI cII cS aK h0 v) (sg0 41) 41) H := hP 41 _ rfl
theorem wt_42 (hP : va_P D vwCl (wT cI cII cS h0 v) H) : va_at D vwCl (q_ad (gC D cI cII cS aK h0 v) 42, q_en sC (gC D cI cII cS aK h0 v) (sg0 42) 42) H := hP 42 _ rfl
theorem wt_43 (hP : va_P D vwCl (wT cI cII cS h0 v) H) : va_at D vwCl (q_ad (gC D cI cII cS aK h0 v) 43, q_en sC (gC D cI cII cS aK h0 v) (sg0 43) 43) H := by
  have h := hP 43 _ rfl
  rw [q_en_8 (by rfl)]
  refine Eq.trans h (congrArg some (row_eq ?_))
  exact ls_s (ls_s (ls_s (ls_s ls_0 rfl) rfl) rfl) rfl
theorem wt_44 (hP : va_P D vwCl (wT cI cII cS h0 v) H) : va_at D vwCl (q_ad (gC D cI cII cS aK h0 v) 44, q_en sC (gC D cI cII cS aK h0 v) (sg0 44) 44) H := hP 44 _ rfl
theorem wt_45 (hP : va_P D vwCl (wT cI cII cS h0 v) H) : va_at D vwCl (q_ad (gC D cI cII cS aK h0 v) 45, q_en sC (gC D cI cII cS aK h0 v) (sg0 45) 45) H := hP 45 _ rfl
theorem wt_46 (hP : va_P D vwCl (wT cI cII cS h0 v) H) : va_at D vwCl (q_ad (gC D cI cII cS aK h0 v) 46, q_en sC (gC D cI cII cS aK h0 v) (sg0 46) 46) H := hP 46 _ rfl
theorem wt_47 (hP : va_P D vwCl (wT cI cII cS h0 v) H) : va_at D vwCl (q_ad (gC D cI cII cS aK h0 v) 47, q_en sC (gC D cI cII cS aK h0 v) (sg0 47) 47) H := hP 47 _ rfl
theorem wt_48 (hP : va_P D vwCl (wT cI cII cS h0 v) H) : va_at D vwCl (q_ad (gC D cI cII cS aK h0 v) 48, q_en sC (gC D cI cII cS aK h0 v) (sg0 48) 48) H := hP 48 _ rfl
theorem wt_49 (hP : va_P D vwCl (wT cI cII cS h0 v) H) : va_at D vwCl (q_ad (gC D cI cII cS aK h0 v) 49, q_en sC (gC D cI cII cS aK h0 v) (sg0 49) 49) H := hP 49 _ rfl
theorem wt_50 (hP : va_P D vwCl (wT cI cII cS h0 v) H) : va_at D vwCl (q_ad (gC D cI cII cS aK h0 v) 50, q_en sC (gC D cI cII cS aK h0 v) (sg0 50) 50) H := hP 50 _ rfl
theorem wt_51 (hP : va_P D vwCl (wT cI cII cS h0 v) H) : va_at D vwCl (q_ad (gC D cI cII cS aK h0 v) 51, q_en sC (gC D cI cII cS aK h0 v) (sg0 51) 51) H := hP 51 _ rfl
theorem wt_P (hP : va_P D vwCl (wT cI cII cS h0 v) H) : va_P D vwCl (q_ws sC (gC D cI cII cS aK h0 v) sg0) H := by
  have key : ∀ o, o < 52 → va_at D vwCl (q_ad (gC D cI cII cS aK h0 v) o, q_en sC (gC D cI cII cS aK h0 v) (sg0 o) o) H := (ls_s (ls_s (ls_s (ls_s (ls_s (ls_s (ls_s (ls_s (ls_s (ls_s (ls_s (ls_s (ls_s (ls_s (ls_s (ls_s (ls_s (ls_s (ls_s (ls_s (ls_s (ls_s (ls_s (ls_s (ls_s (ls_s (ls_s (ls_s (ls_s (ls_s (ls_s (ls_s (ls_s (ls_s (ls_s (ls_s (ls_s (ls_s (ls_s (ls_s (ls_s (ls_s (ls_s (ls_s (ls_s (ls_s (ls_s (ls_s (ls_s (ls_s (ls_s (ls_s ls_0 (wt_0 hP)) (wt_1 hP)) (wt_2 hP)) (wt_3 hP)) (wt_4 hP)) (wt_5 hP)) (wt_6 hP)) (wt_7 hP)) (wt_8 hP)) (wt_9 hP)) (wt_10 hP)) (wt_11 hP)) (wt_12 hP)) (wt_13 hP)) (wt_14 hP)) (wt_15 hP)) (wt_16 hP)) (wt_17 hP)) (wt_18 hP)) (wt_19 hP)) (wt_20 hP)) (wt_21 hP)) (wt_22 hP)) (wt_23 hP)) (wt_24 hP)) (wt_25 hP)) (wt_26 hP)) (wt_27 hP)) (wt_28 hP)) (wt_29 hP)) (wt_30 hP)) (wt_31 hP)) (wt_32 hP)) (wt_33 hP)) (wt_34 hP)) (wt_35 hP)) (wt_36 hP)) (wt_37 hP)) (wt_38 hP)) (wt_39 hP)) (wt_40 hP)) (wt_41 hP)) (wt_42 hP)) (wt_43 hP)) (wt_44 hP)) (wt_45 hP)) (wt_46 hP)) (wt_47 hP)) (wt_48 hP)) (wt_49 hP)) (wt_50 hP)) (wt_51 hP))
  intro k q hk
  by_cases hl : k < 52
  · rw [q_at (show k < q_N sC from hl)] at hk
    cases hk
    exact key k hl
  · have h1 : (q_ws sC (gC D cI cII cS aK h0 v) sg0)[k]? = none := by
      rw [q_ws, List.getElem?_map, List.getElem?_eq_none (by rw [List.length_range]; show 52 ≤ k; omega)]
      rfl
    rw [h1] at hk
    cases hk
theorem wm_0 {u : Nat → Nat} (hP : va_P D vwCl (wM cI h0 u) H) : va_at D vwCl (q_ad (gM D cI cII cS aK h0 u) 0, q_en sM (gM D cI cII cS aK h0 u) (sm0 0) 0) H := hP 0 _ rfl
theorem wm_1 {u : Nat → Nat} (hP : va_P D vwCl (wM cI h0 u) H) : va_at D vwCl (q_ad (gM D cI cII cS aK h0 u) 1, q_en sM (gM D cI cII cS aK h0 u) (sm0 1) 1) H := hP 1 _ rfl
theorem wm_2 {u : Nat → Nat} (hP : va_P D vwCl (wM cI h0 u) H) : va_at D vwCl (q_ad (gM D cI cII cS aK h0 u) 2, q_en sM (gM D cI cII cS aK h0 u) (sm0 2) 2) H := hP 2 _ rfl
theorem wm_3 {u : Nat → Nat} (hP : va_P D vwCl (wM cI h0 u) H) : va_at D vwCl (q_ad (gM D cI cII cS aK h0 u) 3, q_en sM (gM D cI cII cS aK h0 u) (sm0 3) 3) H := hP 3 _ rfl
theorem wm_4 {u : Nat → Nat} (hP : va_P D vwCl (wM cI h0 u) H) : va_at D vwCl (q_ad (gM D cI cII cS aK h0 u) 4, q_en sM (gM D cI cII cS aK h0 u) (sm0 4) 4) H := hP 4 _ rfl
theorem wm_5 {u : Nat → Nat} (hP : va_P D vwCl (wM cI h0 u) H) : va_at D vwCl (q_ad (gM D cI cII cS aK h0 u) 5, q_en sM (gM D cI cII cS aK h0 u) (sm0 5) 5) H := hP 5 _ rfl
theorem wm_6 {u : Nat → Nat} (hP : va_P D vwCl (wM cI h0 u) H) : va_at D vwCl (q_ad (gM D cI cII cS aK h0 u) 6, q_en sM (gM D cI cII cS aK h0 u) (sm0 6) 6) H := hP 6 _ rfl
theorem wm_7 {u : Nat → Nat} (hP : va_P D vwCl (wM cI h0 u) H) : va_at D vwCl (q_ad (gM D cI cII cS aK h0 u) 7, q_en sM (gM D cI cII cS aK h0 u) (sm0 7) 7) H := hP 7 _ rfl
theorem wm_8 {u : Nat → Nat} (hP : va_P D vwCl (wM cI h0 u) H) : va_at D vwCl (q_ad (gM D cI cII cS aK h0 u) 8, q_en sM (gM D cI cII cS aK h0 u) (sm0 8) 8) H := hP 8 _ rfl
theorem wm_9 {u : Nat → Nat} (hP : va_P D vwCl (wM cI h0 u) H) : va_at D vwCl (q_ad (gM D cI cII cS aK h0 u) 9, q_en sM (gM D cI cII cS aK h0 u) (sm0 9) 9) H := hP 9 _ rfl
theorem wm_10 {u : Nat → Nat} (hP : va_P D vwCl (wM cI h0 u) H) : va_at D vwCl (q_ad (gM D cI cII cS aK h0 u) 10, q_en sM (gM D cI cII cS aK h0 u) (sm0 10) 10) H := hP 10 _ rfl
theorem wm_11 {u : Nat → Nat} (hP : va_P D vwCl (wM cI h0 u) H) : va_at D vwCl (q_ad (gM D cI cII cS aK h0 u) 11, q_en sM (gM D cI cII cS aK h0 u) (sm0 11) 11) H := hP 11 _ rfl
theorem wm_12 {u : Nat → Nat} (hP : va_P D vwCl (wM cI h0 u) H) : va_at D vwCl (q_ad (gM D cI cII cS aK h0 u) 12, q_en sM (gM D cI cII cS aK h0 u) (sm0 12) 12) H := hP 12 _ rfl
theorem wm_13 {u : Nat → Nat} (hP : va_P D vwCl (wM cI h0 u) H) : va_at D vwCl (q_ad (gM D cI cII cS aK h0 u) 13, q_en sM (gM D cI cII cS aK h0 u) (sm0 13) 13) H := hP 13 _ rfl
theorem wm_14 {u : Nat → Nat} (hP : va_P D vwCl (wM cI h0 u) H) : va_at D vwCl (q_ad (gM D cI cII cS aK h0 u) 14, q_en sM (gM D cI cII cS aK h0 u) (sm0 14) 14) H := hP 14 _ rfl
theorem wm_15 {u : Nat → Nat} (hP : va_P D vwCl (wM cI h0 u) H) : va_at D vwCl (q_ad (gM D cI cII cS aK h0 u) 15, q_en sM (gM D cI cII cS aK h0 u) (sm0 15) 15) H := hP 15 _ rfl
theorem wm_P {u : Nat → Nat} (hP : va_P D vwCl (wM cI h0 u) H) : va_P D vwCl (q_ws sM (gM D cI cII cS aK h0 u) sm0) H := by
  have key : ∀ o, o < 16 → va_at D vwCl (q_ad (gM D cI cII cS aK h0 u) o, q_en sM (gM D cI cII cS aK h0 u) (sm0 o) o) H := (ls_s (ls_s (ls_s (ls_s (ls_s (ls_s (ls_s (ls_s (ls_s (ls_s (ls_s (ls_s (ls_s (ls_s (ls_s (ls_s ls_0 (wm_0 hP)) (wm_1 hP)) (wm_2 hP)) (wm_3 hP)) (wm_4 hP)) (wm_5 hP)) (wm_6 hP)) (wm_7 hP)) (wm_8 hP)) (wm_9 hP)) (wm_10 hP)) (wm_11 hP)) (wm_12 hP)) (wm_13 hP)) (wm_14 hP)) (wm_15 hP))
  intro k q hk
  by_cases hl : k < 16
  · rw [q_at (show k < q_N sM from hl)] at hk
    cases hk
    exact key k hl
  · have h1 : (q_ws sM (gM D cI cII cS aK h0 u) sm0)[k]? = none := by
      rw [q_ws, List.getElem?_map, List.getElem?_eq_none (by rw [List.length_range]; show 16 ≤ k; omega)]
      rfl
    rw [h1] at hk
    cases hk
theorem wt_at  : ∀ o, o < 52 → ∃ e : va_E, (wT cI cII cS h0 v)[o]? = some (q_ad (gC D cI cII cS aK h0 v) o, e) := (ls_s (ls_s (ls_s (ls_s (ls_s (ls_s (ls_s (ls_s (ls_s (ls_s (ls_s (ls_s (ls_s (ls_s (ls_s (ls_s (ls_s (ls_s (ls_s (ls_s (ls_s (ls_s (ls_s (ls_s (ls_s (ls_s (ls_s (ls_s (ls_s (ls_s (ls_s (ls_s (ls_s (ls_s (ls_s (ls_s (ls_s (ls_s (ls_s (ls_s (ls_s (ls_s (ls_s (ls_s (ls_s (ls_s (ls_s (ls_s (ls_s (ls_s (ls_s (ls_s ls_0 ⟨_, rfl⟩) ⟨_, rfl⟩) ⟨_, rfl⟩) ⟨_, rfl⟩) ⟨_, rfl⟩) ⟨_, rfl⟩) ⟨_, rfl⟩) ⟨_, rfl⟩) ⟨_, rfl⟩) ⟨_, rfl⟩) ⟨_, rfl⟩) ⟨_, rfl⟩) ⟨_, rfl⟩) ⟨_, rfl⟩) ⟨_, rfl⟩) ⟨_, rfl⟩) ⟨_, rfl⟩) ⟨_, rfl⟩) ⟨_, rfl⟩) ⟨_, rfl⟩) ⟨_, rfl⟩) ⟨_, rfl⟩) ⟨_, rfl⟩) ⟨_, rfl⟩) ⟨_, rfl⟩) ⟨_, rfl⟩) ⟨_, rfl⟩) ⟨_, rfl⟩) ⟨_, rfl⟩) ⟨_, rfl⟩) ⟨_, rfl⟩) ⟨_, rfl⟩) ⟨_, rfl⟩) ⟨_, rfl⟩) ⟨_, rfl⟩) ⟨_, rfl⟩) ⟨_, rfl⟩) ⟨_, rfl⟩) ⟨_, rfl⟩) ⟨_, rfl⟩) ⟨_, rfl⟩) ⟨_, rfl⟩) ⟨_, rfl⟩) ⟨_, rfl⟩) ⟨_, rfl⟩) ⟨_, rfl⟩) ⟨_, rfl⟩) ⟨_, rfl⟩) ⟨_, rfl⟩) ⟨_, rfl⟩) ⟨_, rfl⟩) ⟨_, rfl⟩)
theorem wt_inj  {A : Nat → Prop} (hD : va_D A (wT cI cII cS h0 v)) : q_inj sC (gC D cI cII cS aK h0 v) := by
  refine ⟨fun i j hi hj h => ?_, fun o ho => ?_⟩
  · obtain ⟨e1, h1⟩ := wt_at (D := D) (cI := cI) (cII := cII) (cS := cS) (aK := aK) (h0 := h0) (v := v) i hi
    obtain ⟨e2, h2⟩ := wt_at (D := D) (cI := cI) (cII := cII) (cS := cS) (aK := aK) (h0 := h0) (v := v) j hj
    exact hD.1 i j _ _ h1 h2 h
  · apply Classical.byContradiction
    intro h
    have e : q_kd sC o = 9 := by
      show List.getD _ o 9 = 9
      rw [List.getD_eq_getElem?_getD, List.getElem?_eq_none (Nat.le_of_not_lt h)]
      rfl
    omega
theorem wt_A  {A : Nat → Prop} (hD : va_D A (wT cI cII cS h0 v)) : ∀ q, q_A sC (gC D cI cII cS aK h0 v) q → A q := by
  intro q ⟨o, ho, e⟩
  obtain ⟨e1, h1⟩ := wt_at (D := D) (cI := cI) (cII := cII) (cS := cS) (aK := aK) (h0 := h0) (v := v) o ho
  rw [e]
  exact hD.2 o _ h1
theorem wm_at {u : Nat → Nat} : ∀ o, o < 16 → ∃ e : va_E, (wM cI h0 u)[o]? = some (q_ad (gM D cI cII cS aK h0 u) o, e) := (ls_s (ls_s (ls_s (ls_s (ls_s (ls_s (ls_s (ls_s (ls_s (ls_s (ls_s (ls_s (ls_s (ls_s (ls_s (ls_s ls_0 ⟨_, rfl⟩) ⟨_, rfl⟩) ⟨_, rfl⟩) ⟨_, rfl⟩) ⟨_, rfl⟩) ⟨_, rfl⟩) ⟨_, rfl⟩) ⟨_, rfl⟩) ⟨_, rfl⟩) ⟨_, rfl⟩) ⟨_, rfl⟩) ⟨_, rfl⟩) ⟨_, rfl⟩) ⟨_, rfl⟩) ⟨_, rfl⟩) ⟨_, rfl⟩)
theorem wm_inj {u : Nat → Nat} {A : Nat → Prop} (hD : va_D A (wM cI h0 u)) : q_inj sM (gM D cI cII cS aK h0 u) := by
  refine ⟨fun i j hi hj h => ?_, fun o ho => ?_⟩
  · obtain ⟨e1, h1⟩ := wm_at (D := D) (cI := cI) (cII := cII) (cS := cS) (aK := aK) (h0 := h0) (u := u) i hi
    obtain ⟨e2, h2⟩ := wm_at (D := D) (cI := cI) (cII := cII) (cS := cS) (aK := aK) (h0 := h0) (u := u) j hj
    exact hD.1 i j _ _ h1 h2 h
  · apply Classical.byContradiction
    intro h
    have e : q_kd sM o = 9 := by
      show List.getD _ o 9 = 9
      rw [List.getD_eq_getElem?_getD, List.getElem?_eq_none (Nat.le_of_not_lt h)]
      rfl
    omega
theorem wm_A {u : Nat → Nat} {A : Nat → Prop} (hD : va_D A (wM cI h0 u)) : ∀ q, q_A sM (gM D cI cII cS aK h0 u) q → A q := by
  intro q ⟨o, ho, e⟩
  obtain ⟨e1, h1⟩ := wm_at (D := D) (cI := cI) (cII := cII) (cS := cS) (aK := aK) (h0 := h0) (u := u) o ho
  rw [e]
  exact hD.2 o _ h1
end SW
theorem rr_start : RR sg0 sm0 := by
  refine ⟨((0, fun _ => 0), (0, fun _ => 0), (0, fun _ _ => 0), (0, fun _ _ => 0), (0, fun _ _ => 0), (0, 1)), ?_, ?_, Or.inl rfl, ?_, ?_⟩
  · refine ⟨⟨by decide, fun i hi => absurd hi (Nat.not_lt_zero i)⟩, ⟨by decide, fun i hi => absurd hi (Nat.not_lt_zero i)⟩, ⟨by decide, fun i hi => absurd hi (Nat.not_lt_zero i)⟩, ⟨by decide, fun i hi => absurd hi (Nat.not_lt_zero i)⟩, ⟨by decide, fun i hi => absurd hi (Nat.not_lt_zero i)⟩, by decide, by decide⟩
  · have n0 : ∀ t B, pN t B 0 = 0 := fun t B => by unfold pN; rw [if_neg (fun h => Nat.lt_irrefl 0 h.2)]
    have f0 : ∀ t B, pF t B 0 = -1 := fun t B => by
      unfold pF
      rw [if_neg (fun h => Nat.not_lt_zero _ h), if_pos (Or.inr rfl)]
    refine ⟨⟨rfl, rfl, rfl, fun i hi => absurd hi (Nat.not_lt_zero i), ?_, ?_, fun _ l j hl => ?_⟩, ⟨rfl, rfl, rfl, fun i hi => absurd hi (Nat.not_lt_zero i), ?_, ?_, fun _ l j hl => ?_⟩, ⟨rfl, fun i hi => absurd hi (Nat.not_lt_zero i)⟩, ⟨rfl, fun i hi => absurd hi (Nat.not_lt_zero i)⟩, ⟨rfl, fun i hi => absurd hi (Nat.not_lt_zero i)⟩, rfl, rfl⟩
    · show sg0 1 5 = nI (pN 0 _ 0)
      rw [n0]
      rfl
    · show sg0 1 6 = pF 0 _ 0
      rw [f0]
      rfl
    · have h : l < pN 0 (tB ((0 : Nat), fun _ => 0)) 0 := hl
      rw [n0] at h
      exact absurd h (Nat.not_lt_zero l)
    · show sg0 4 5 = nI (pN 1 _ 0)
      rw [n0]
      rfl
    · show sg0 4 6 = pF 1 _ 0
      rw [f0]
      rfl
    · have h : l < pN 1 (tB ((0 : Nat), fun _ => 0)) 0 := hl
      rw [n0] at h
      exact absurd h (Nat.not_lt_zero l)
  · exact ⟨⟨rfl, fun i hi => absurd hi (Nat.not_lt_zero i)⟩, ⟨rfl, fun i hi => absurd hi (Nat.not_lt_zero i)⟩, ⟨rfl, fun i hi => absurd hi (Nat.not_lt_zero i)⟩, ⟨rfl, fun i hi => absurd hi (Nat.not_lt_zero i)⟩, ⟨rfl, fun i hi => absurd hi (Nat.not_lt_zero i)⟩, ⟨rfl, rfl⟩, rfl, rfl⟩
  · exact ⟨rfl, ls_s (ls_s (ls_s (ls_s ls_0 ⟨rfl, Or.inl rfl⟩) ⟨rfl, Or.inl rfl⟩) ⟨rfl, Or.inl rfl⟩) ⟨rfl, Or.inl rfl⟩⟩

/-! ===== the law's loop ===== -/
theorem law_cmp {i L : Nat} (hi : i ≤ 400) (hL : L ≤ 384) : (Int32.ofNat L - 6 < nI i) = (L < i + 6) := by
  have e1 : (Int32.ofNat L - 6).toInt = (L : Int) - 6 := by
    rw [Int32.toInt_sub, show (Int32.ofNat L).toInt = (L : Int) from nI_toInt (n := L) (by omega), show (6 : Int32).toInt = 6 from rfl]
    exact Int.bmod_eq_of_le (by omega) (by omega)
  rw [Int32.lt_iff_toInt_lt, e1, nI_toInt (by omega)]
  apply propext
  omega
section LLOOP
variable {X : qX} {Gc Gm : qG} {b L : Nat} {xs : Nat → Int32} {Q : State → Prop}
theorem law_loop (C : lC X Gc Gm b L xs) (hend : ∀ σc σm i, lY X Gc Gm Q σc σm 1311 (lvl Gc Gm b i) []) : ∀ (n i : Nat) (σc σm : qM), L + 6 ≤ i + n → i ≤ L + 6 → RR σc σm → lY X Gc Gm Q σc σm 18 (lvl Gc Gm b i) [] := by
  have hL := C.2.2.2.2.2.2.2.2.2.2.1
  intro n
  induction n with
  | zero =>
    intro i σc σm h1 h2 h
    refine l_iload_n C 0 rfl dL_law_18 rfl ?_
    refine l_aload_n C 3 rfl dL_law_19 rfl ?_
    refine l_slen C dL_law_20 ?_
    refine l_bipush (v := 6) C dL_law_21 (by decide) ?_
    refine l_isub C dL_law_23 rfl ?_
    refine l_gt C 1311 dL_law_24 rfl (fun _ => hend _ _ _) (fun q => ?_)
    rw [law_cmp (by omega) hL] at q
    omega
  | succ n ih =>
    intro i σc σm h1 h2 h
    refine l_iload_n C 0 rfl dL_law_18 rfl ?_
    refine l_aload_n C 3 rfl dL_law_19 rfl ?_
    refine l_slen C dL_law_20 ?_
    refine l_bipush (v := 6) C dL_law_21 (by decide) ?_
    refine l_isub C dL_law_23 rfl ?_
    refine l_gt C 1311 dL_law_24 rfl (fun _ => hend _ _ _) (fun q => ?_)
    rw [law_cmp (by omega) hL] at q
    have hi : i + 6 ≤ L := by omega
    refine l_aload_n C 3 rfl dL_law_27 rfl ?_
    refine l_iload_n C 0 rfl dL_law_28 rfl ?_
    refine l_sld C (vp_in_nI (by omega) (by omega)) dL_law_29 ?_
    refine l_bipush (v := 63) C dL_law_30 (by decide) ?_
    refine l_iand C dL_law_32 rfl ?_
    refine law_sw C h hi (fun σc σm h => ?_) _
    refine l_iinc (v := nI (i + 6)) (lv' := lvl Gc Gm b (i + 6)) C 0 rfl dL_law_1305 (nI_add i 6) (by decide) rfl ?_
    exact l_goto C 18 dL_law_1308 rfl (ih (i + 6) σc σm (by omega) (by omega) h)
end LLOOP

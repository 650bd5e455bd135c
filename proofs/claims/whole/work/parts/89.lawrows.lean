/-! ===== the law's own walk: two static worlds side by side ===== -/
/-- what is new since the law's start -/
abbrev lA (s : State) : Nat → Prop := fun q => s.heap.size ≤ q
/-- the rows of signs at the law's start -/
def l_str (G : qG) (s : State) : Prop := ∀ i, i < 7 → q_row (q_aK G) (lA s) s s.heap i
theorem l_str.go {S : qS} {G : qG} {s U : State} {H : Heap} {locs : List Loc} (h : l_str G s) (hA : ∀ q, q_A S G q → lA s q) (hW : s.WarmedH U.vm) (hU : U.heap = H) (hS : va_S (lA s) s.heap H locs) : q_str S G U := by
  subst hU
  exact fun i hi => ⟨va_Nw.warmF hW (h i hi).1, (((h i hi).2.1.moved hW.alike).kept hS.2.1).narrow hA, (((h i hi).2.2.moved hW.alike).kept hS.2.1).narrow hA⟩
/-- one of the two worlds, as the law holds it -/
def l_w (S : qS) (G : qG) (s : State) : Prop := va_K (q_D G) vwCl (q_tys G) s ∧ q_inj S G ∧ l_str G s ∧ ∀ q, q_A S G q → lA s q
/-- what stays through the law's walk -/
def lC (X : qX) (Gc Gm : qG) (b L : Nat) (xs : Nat → Int32) : Prop :=
  (x_p X).tables.exec = Jvm.exec ∧ (x_c X).code = code ∧ (x_c X).maxLocals = 4 ∧ (x_s X).vm.findClass RL = some (x_m X).cls ∧ (∀ w ∈ gw, w.before (x_a X) (x_s X) = true) ∧ l_w sC Gc (x_s X) ∧ l_w sM Gm (x_s X) ∧ (∀ i j, i < 52 → j < 16 → ¬ q_ad Gc i = q_ad Gm j) ∧ va_X b L xs (x_s X) (x_s X).heap ∧ b < (x_s X).heap.size ∧ L ≤ 384 ∧ x_R X = room_1
def lW (X : qX) (H : Heap) (locs : List Loc) (Q : State → Prop) (g : JFrame) : Prop := W X.1 X.2.1 X.2.2.1 X.2.2.2.1 X.2.2.2.2.1 X.2.2.2.2.2.1 X.2.2.2.2.2.2.1 X.2.2.2.2.2.2.2.1 X.2.2.2.2.2.2.2.2.1 X.2.2.2.2.2.2.2.2.2 H locs 600000 7302250 Q g
def lY (X : qX) (Gc Gm : qG) (Q : State → Prop) (σc σm : qM) (pc : Nat) (lv : List (Nat × Value)) (st : List Value) : Prop :=
  ∀ (H : Heap) (locs : List Loc) (ls : Array Slot), va_P (q_D Gc) vwCl (q_ws sC Gc σc) H → va_P (q_D Gm) vwCl (q_ws sM Gm σm) H → va_S (lA (x_s X)) (x_s X).heap H locs → lv_has ls 4 lv → lW X H locs Q (F0 (x_m X) pc ls st)
/-- the locals within the loop -/
def lvl (Gc Gm : qG) (b i : Nat) : List (Nat × Value) := [(3, .int (nI i)), (2, .ref (q_ad Gm 0)), (1, .ref (q_ad Gc 0)), (0, .ref b)]
section LY
variable {X : qX} {Gc Gm : qG} {b L : Nat} {xs : Nat → Int32} {Q : State → Prop} {σc σm : qM} {pc : Nat} {lv lv' : List (Nat × Value)} {st : List Value}
theorem l_iconst (C : lC X Gc Gm b L xs) {n : Int} {v : Int32} (hd : decode code pc = .ok (.iconst n, 1)) (hv : Int32.ofInt n = v) (k : lY X Gc Gm Q σc σm (pc + 1) lv (.int v :: st)) : lY X Gc Gm Q σc σm pc lv st := fun H locs ls hP hM hS hl => lv_iconst C.1 C.2.1 hd hv (k H locs ls hP hM hS hl)
theorem l_bipush (C : lC X Gc Gm b L xs) {n : Int} {v : Int32} (hd : decode code pc = .ok (.bipush n, 2)) (hv : (Int8.ofInt n).toInt32 = v) (k : lY X Gc Gm Q σc σm (pc + 2) lv (.int v :: st)) : lY X Gc Gm Q σc σm pc lv st := fun H locs ls hP hM hS hl => lv_bipush C.1 C.2.1 hd hv (k H locs ls hP hM hS hl)
theorem l_iload_n (C : lC X Gc Gm b L xs) {f : Fin 4} {i : Nat} {x : Int32} (j : Nat) (hk : lv[j]? = some (i, .int x)) (hd : decode code pc = .ok (.iload_n f, 1)) (hi : (f : Nat) = i) (k : lY X Gc Gm Q σc σm (pc + 1) lv (.int x :: st)) : lY X Gc Gm Q σc σm pc lv st := fun H locs ls hP hM hS hl => lv_iload_n C.1 C.2.1 hd hi (lv_at hl j hk) (k H locs ls hP hM hS hl)
theorem l_aload_n (C : lC X Gc Gm b L xs) {f : Fin 4} {i x : Nat} (j : Nat) (hk : lv[j]? = some (i, .ref x)) (hd : decode code pc = .ok (.aload_n f, 1)) (hi : (f : Nat) = i) (k : lY X Gc Gm Q σc σm (pc + 1) lv (.ref x :: st)) : lY X Gc Gm Q σc σm pc lv st := fun H locs ls hP hM hS hl => lv_aload_n C.1 C.2.1 hd hi (lv_at hl j hk) (k H locs ls hP hM hS hl)
theorem l_iadd (C : lC X Gc Gm b L xs) {x y z : Int32} (hd : decode code pc = .ok (.iadd, 1)) (hz : x + y = z) (k : lY X Gc Gm Q σc σm (pc + 1) lv (.int z :: st)) : lY X Gc Gm Q σc σm pc lv (.int y :: .int x :: st) := fun H locs ls hP hM hS hl => lv_iadd C.1 C.2.1 hd (by rw [hz]; exact k H locs ls hP hM hS hl)
theorem l_isub (C : lC X Gc Gm b L xs) {x y z : Int32} (hd : decode code pc = .ok (.isub, 1)) (hz : x - y = z) (k : lY X Gc Gm Q σc σm (pc + 1) lv (.int z :: st)) : lY X Gc Gm Q σc σm pc lv (.int y :: .int x :: st) := fun H locs ls hP hM hS hl => lv_isub C.1 C.2.1 hd (by rw [hz]; exact k H locs ls hP hM hS hl)
theorem l_iand (C : lC X Gc Gm b L xs) {x y z : Int32} (hd : decode code pc = .ok (.iand, 1)) (hz : x &&& y = z) (k : lY X Gc Gm Q σc σm (pc + 1) lv (.int z :: st)) : lY X Gc Gm Q σc σm pc lv (.int y :: .int x :: st) := fun H locs ls hP hM hS hl => lv_iand C.1 C.2.1 hd (by rw [hz]; exact k H locs ls hP hM hS hl)
theorem l_iinc (C : lC X Gc Gm b L xs) {i : Nat} {n : Int} {x v : Int32} (j : Nat) (hk : lv[j]? = some (i, .int x)) (hd : decode code pc = .ok (.iinc i n, 3)) (hv : x + Int32.ofInt n = v) (hn : i < 4) (hl0 : (i, Value.int v) :: lv.filter (fun q => !(q.1 == i) && !(q.1 + 1 == i && q.2.category == 2)) = lv') (k : lY X Gc Gm Q σc σm (pc + 3) lv' st) : lY X Gc Gm Q σc σm pc lv st := fun H locs ls hP hM hS hl => lv_iinc C.1 C.2.1 hd hl hk hv hn hl0 (fun ls hl => k H locs ls hP hM hS hl)
theorem l_goto (C : lC X Gc Gm b L xs) {off : Int} (tgt : Nat) (hd : decode code pc = .ok (.goto off, 3)) (ht : (pc : Int) + off = (tgt : Int)) (k : lY X Gc Gm Q σc σm tgt lv st) : lY X Gc Gm Q σc σm pc lv st := fun H locs ls hP hM hS hl => lv_goto C.1 C.2.1 hd ht (k H locs ls hP hM hS hl)
theorem l_gt (C : lC X Gc Gm b L xs) {x y : Int32} {off : Int} (tgt : Nat) (hd : decode code pc = .ok (.if_icmp .gt off, 3)) (ht : (pc : Int) + off = (tgt : Int)) (kt : y < x → lY X Gc Gm Q σc σm tgt lv st) (kf : ¬ y < x → lY X Gc Gm Q σc σm (pc + 3) lv st) : lY X Gc Gm Q σc σm pc lv (.int y :: .int x :: st) := fun H locs ls hP hM hS hl => lv_icmp_gt C.1 C.2.1 hd ht (fun q => kt q H locs ls hP hM hS hl) (fun q => kf q H locs ls hP hM hS hl)
/-- the two answers are alike -/
theorem l_same (C : lC X Gc Gm b L xs) {x : Int32} {off : Int} (tgt : Nat) (hd : decode code pc = .ok (.if_icmp .eq off, 3)) (ht : (pc : Int) + off = (tgt : Int)) (k : lY X Gc Gm Q σc σm tgt lv st) : lY X Gc Gm Q σc σm pc lv (.int x :: .int x :: st) := fun H locs ls hP hM hS hl => lv_icmp_eq C.1 C.2.1 hd ht (fun _ => k H locs ls hP hM hS hl) (fun q => absurd rfl q)
theorem l_sameL (C : lC X Gc Gm b L xs) {x : Int64} {off : Int} (tgt : Nat) (hd : decode code pc = .ok (.lcmp, 1)) (hd2 : decode code (pc + 1) = .ok (.ifCond .eq off, 3)) (ht : ((pc + 1 : Nat) : Int) + off = (tgt : Int)) (k : lY X Gc Gm Q σc σm tgt lv st) : lY X Gc Gm Q σc σm pc lv (.long x :: .long x :: st) := fun H locs ls hP hM hS hl => by
  have e : lg_cmp x x = 0 := by
    unfold lg_cmp
    simp
  refine W.lcmp C.1 C.2.1 hd ?_
  rw [e]
  exact lv_if_eq C.1 C.2.1 hd2 ht (fun _ => k H locs ls hP hM hS hl) (fun q => absurd rfl q)
theorem l_tabIn (C : lC X Gc Gm b L xs) {dflt lo hi : Int} {offs : Array Int} {len : Nat} {x : Int32} {off : Int} (tgt : Nat) (hd : decode code pc = .ok (.tableswitch dflt lo hi offs, len)) (h1 : ¬ x.toInt < lo) (h2 : ¬ hi < x.toInt) (ho : offs[(x.toInt - lo).toNat]? = some off) (ht : (pc : Int) + off = (tgt : Int)) (k : lY X Gc Gm Q σc σm tgt lv st) : lY X Gc Gm Q σc σm pc lv (.int x :: st) := fun H locs ls hP hM hS hl => lv_tableIn C.1 C.2.1 hd h1 h2 ho ht (k H locs ls hP hM hS hl)
theorem l_tabOut (C : lC X Gc Gm b L xs) {dflt lo hi : Int} {offs : Array Int} {len : Nat} {x : Int32} (tgt : Nat) (hd : decode code pc = .ok (.tableswitch dflt lo hi offs, len)) (h : x.toInt < lo ∨ hi < x.toInt) (ht : (pc : Int) + dflt = (tgt : Int)) (k : lY X Gc Gm Q σc σm tgt lv st) : lY X Gc Gm Q σc σm pc lv (.int x :: st) := fun H locs ls hP hM hS hl => lv_tableOut C.1 C.2.1 hd h ht (k H locs ls hP hM hS hl)
theorem l_sld (C : lC X Gc Gm b L xs) {i : Int32} (hi : vp_in i L) (hd : decode code pc = .ok (.iaload, 1)) (k : lY X Gc Gm Q σc σm (pc + 1) lv (.int (xs i.toNatClampNeg) :: st)) : lY X Gc Gm Q σc σm pc lv (.int i :: .ref b :: st) := fun H locs ls hP hM hS hl => va_sld C.1 C.2.1 C.2.2.2.2.2.2.2.2.1 C.2.2.2.2.2.2.2.2.2.1 (Nat.not_le.mpr C.2.2.2.2.2.2.2.2.2.1) hS hi hd (k H locs ls hP hM hS hl)
theorem l_slen (C : lC X Gc Gm b L xs) (hd : decode code pc = .ok (.arraylength, 1)) (k : lY X Gc Gm Q σc σm (pc + 1) lv (.int (Int32.ofNat L) :: st)) : lY X Gc Gm Q σc σm pc lv (.ref b :: st) := fun H locs ls hP hM hS hl => va_slen C.1 C.2.1 C.2.2.2.2.2.2.2.2.1 C.2.2.2.2.2.2.2.2.2.1 (Nat.not_le.mpr C.2.2.2.2.2.2.2.2.2.1) hS hd (k H locs ls hP hM hS hl)
/-- script[i + k] -/
theorem l_arg (C : lC X Gc Gm b L xs) {i : Nat} (k : Nat) {n : Int} (hi : i + 6 ≤ L) (hk : k < 6) (hn : Int32.ofInt n = nI k) (d0 : decode code pc = .ok (.aload_n 0, 1)) (d1 : decode code (pc + 1) = .ok (.iload_n 3, 1)) (d2 : decode code (pc + 1 + 1) = .ok (.iconst n, 1)) (d3 : decode code (pc + 1 + 1 + 1) = .ok (.iadd, 1)) (d4 : decode code (pc + 1 + 1 + 1 + 1) = .ok (.iaload, 1)) (kk : lY X Gc Gm Q σc σm (pc + 5) (lvl Gc Gm b i) (.int (xs (i + k)) :: st)) : lY X Gc Gm Q σc σm pc (lvl Gc Gm b i) st := by
  have hL := C.2.2.2.2.2.2.2.2.2.2.1
  refine l_aload_n C 3 rfl d0 rfl ?_
  refine l_iload_n C 0 rfl d1 rfl ?_
  refine l_iconst C d2 hn ?_
  refine l_iadd (z := nI (i + k)) C d3 (nI_add i k) ?_
  refine l_sld C (vp_in_nI (by omega) (by omega)) d4 ?_
  rw [nI_clamp (by omega)]
  exact kk
end LY
section LZ
variable {X : qX} {Gc Gm : qG} {b L : Nat} {xs : Nat → Int32} {Q : State → Prop} {σc σm : qM} {pc : Nat} {lv lv' : List (Nat × Value)} {st : List Value}
theorem l_kept {S : qS} {G : qG} {σ : qM} {H H1 : Heap} {B : Nat → Prop} (hP : va_P (q_D G) vwCl (q_ws S G σ) H) (hk : ∀ q : Nat, q < H.size → ¬ B q → H1[q]? = H[q]?) (hB : ∀ o, o < q_N S → ¬ B (q_ad G o)) : va_P (q_D G) vwCl (q_ws S G σ) H1 := by
  refine hP.kept (fun k x hx => ?_)
  have hl := (hP k x hx).lt
  refine hk x.1 hl ?_
  by_cases h : k < q_N S
  · rw [q_at h] at hx
    cases hx
    exact hB k h
  · have h1 : (q_ws S G σ)[k]? = none := by
      rw [q_ws, List.getElem?_map, List.getElem?_eq_none (by rw [List.length_range]; omega)]
      rfl
    rw [h1] at hx
    cases hx
/-- a call on one of the two: its world is the contract's, the other stays -/
theorem l_run (C : lC X Gc Gm b L xs) {S : qS} {G : qG} {σ σ' : qM} {y : MethodName} {cc' : ByteArray} {nl' idx ci n d' o : Nat} {ret' : Option FieldType} {As st0 : List Value} {r : Option Value} {H : Heap} {locs : List Loc} {ls : Array Slot} (hw : l_w S G (x_s X)) (hP : va_P (q_D G) vwCl (q_ws S G σ) H) (hS : va_S (lA (x_s X)) (x_s X).heap H locs) (hl : lv_has ls 4 lv) (hc : qCon S G (x_l X) y cc' nl' ret' d' (.ref (q_ad G o) :: As) σ r σ') (hY : q_YI y cc' nl' ret' ci n) (hk : Cond.methodLink RL idx y ∈ gw) (ho : q_kd S o = ci) (hn : As.length = n) (hdd : d' < 12) (hst : st0 = As.reverse ++ .ref (q_ad G o) :: st) (hW : (st.map fun v => v.category).sum ≤ 8) (hd : decode code pc = .ok (.invokevirtual idx, 3))
    (k : ∀ (H1 : Heap) (locs1 : List Loc), va_P (q_D G) vwCl (q_ws S G σ') H1 → (∀ q : Nat, q < H.size → ¬ q_A S G q → H1[q]? = H[q]?) → va_S (lA (x_s X)) (x_s X).heap H1 locs1 → lW X H1 locs1 Q (F0 (x_m X) (pc + 3) ls (r.toList ++ st))) : lW X H locs Q (F0 (x_m X) pc ls st0) := by
  obtain ⟨y1, y2, y3, y4, y5, y6, y7, y8⟩ := hY
  have hts := C.2.2.2.2.1
  have hN : o < q_N S := hw.2.1.2 o (by omega)
  have hR : x_R X = room_1 := C.2.2.2.2.2.2.2.2.2.2.2
  have he : (q_ws S G σ)[o]? = some (q_ad G o, .inr (ci, q_fs S G (σ o) o ci)) := by rw [q_at hN, q_en_obj ho y7]
  obtain ⟨q, hq, hq1⟩ : ∃ q, vwCl[ci]? = some q ∧ q.1 = y.cls := by
    cases hv : vwCl[ci]? with
    | none => rw [hv] at y8; cases y8
    | some q => rw [hv] at y8; exact ⟨q, rfl, Option.some.inj y8⟩
  have hrec := va_recv hw.1 hP hq he
  rw [hq1] at hrec
  have hrun := va_runV (p := x_p X) (l := x_l X) (e := X.2.2.1) (R := x_R X) (s := x_s X) (m := x_m X) (args := x_a X) (below := x_b X) (meth := x_t X) (c := x_c X) (H := H) (locs := locs) (cells := 600000) (slots := 7302250) (g := F0 (x_m X) pc ls st0) (As := As) (rest := st) (b := q_ad G o) (Ts := gw) (own := RL) (cc := code) (nL := 4) ⟨C.1, C.2.1, C.2.2.1, C.2.2.2.1, hts⟩ hc (cwV n hts ?_ rfl rfl rfl ⟨rfl, y5⟩ ?_) ⟨q_blind, hrec, fun U hU hW => ⟨rfl, by rw [hU]; exact hP, va_K.moved hW.alike hw.1, hw.2.1, hw.2.2.1.go hw.2.2.2 hW hU hS⟩⟩ rfl hn hl.1 hst (lv_room hW) hd ?_
  · intro T hT XX
    obtain ⟨v, st₀, t, T', L1, h0, X', hL, e1, e2, ⟨hv, hP1, hz, hk1⟩, stp⟩ := hrun T hT XX
    cases hv
    rw [h0] at hz hk1
    obtain ⟨t2, a1, b1⟩ := k T'.heap (locs ++ L1) (by rw [e1]; exact hP1) (fun q h1 h2 => by rw [e1]; exact hk1 q h1 h2)
      ⟨Nat.le_trans hS.1 (by rw [e1]; exact hz), fun q h1 h2 => by rw [e1, hk1 q (Nat.lt_of_lt_of_le h1 hS.1) (fun z => h2 (hw.2.2.2 q z))]; exact hS.2.1 q h1 h2, fun q hq => by
        rcases List.mem_append.mp hq with h | h
        · exact hS.2.2 q h
        · exact hw.2.2.2 _ (hL q h)⟩ T' rfl X'
    exact ⟨t2, stp t2 a1, b1⟩
  · intro w hw
    simp only [wsV, List.mem_append, List.mem_cons, List.not_mem_nil, or_false] at hw
    rcases hw with (rfl | rfl | rfl | rfl) | h
    · exact ⟨hk, gw_good hk⟩
    · exact ⟨y1, gw_good y1⟩
    · exact ⟨y2, gw_good y2⟩
    · exact ⟨y3, gw_good y3⟩
    · exact q_good y4 w (List.mem_cons.mpr h)
  · show d' + 1 ≤ (x_R X).frames ∧ 8 + (nl' + 11) + 38 * d' ≤ (x_R X).locals
    rw [hR]
    show d' + 1 ≤ 12 ∧ 8 + (nl' + 11) + 38 * d' ≤ 456
    omega
  · show 600000 + 0 ≤ (x_R X).cells ∧ 7302250 + 0 ≤ (x_R X).slots
    rw [hR]
    exact ⟨Nat.le_of_ble_eq_true rfl, Nat.le_of_ble_eq_true rfl⟩
theorem l_callC (C : lC X Gc Gm b L xs) {σ' : qM} {y : MethodName} {cc' : ByteArray} {nl' idx n d' : Nat} {ret' : Option FieldType} {As st0 : List Value} {r : Value} (hc : qCon sC Gc (x_l X) y cc' nl' ret' d' (.ref (q_ad Gc 0) :: As) σc (some r) σ') (hY : q_YI y cc' nl' ret' 4 n) (hk : Cond.methodLink RL idx y ∈ gw) (hn : As.length = n) (hdd : d' < 12) (hst : st0 = As.reverse ++ .ref (q_ad Gc 0) :: st) (hW : (st.map fun v => v.category).sum ≤ 8) (hd : decode code pc = .ok (.invokevirtual idx, 3)) (k : lY X Gc Gm Q σ' σm (pc + 3) lv (r :: st)) : lY X Gc Gm Q σc σm pc lv st0 := fun H locs ls hP hM hS hl =>
  l_run C C.2.2.2.2.2.1 hP hS hl hc hY hk rfl hn hdd hst hW hd (fun H1 locs1 hP1 hk1 hS1 => k H1 locs1 ls hP1 (l_kept hM hk1 (fun o ho hB => by
    obtain ⟨i, hi, e⟩ := hB
    exact C.2.2.2.2.2.2.2.1 i o hi ho e.symm)) hS1 hl)
theorem l_callM (C : lC X Gc Gm b L xs) {σ' : qM} {y : MethodName} {cc' : ByteArray} {nl' idx n d' : Nat} {ret' : Option FieldType} {As st0 : List Value} {r : Value} (hc : qCon sM Gm (x_l X) y cc' nl' ret' d' (.ref (q_ad Gm 0) :: As) σm (some r) σ') (hY : q_YI y cc' nl' ret' 5 n) (hk : Cond.methodLink RL idx y ∈ gw) (hn : As.length = n) (hdd : d' < 12) (hst : st0 = As.reverse ++ .ref (q_ad Gm 0) :: st) (hW : (st.map fun v => v.category).sum ≤ 8) (hd : decode code pc = .ok (.invokevirtual idx, 3)) (k : lY X Gc Gm Q σc σ' (pc + 3) lv (r :: st)) : lY X Gc Gm Q σc σm pc lv st0 := fun H locs ls hP hM hS hl =>
  l_run C C.2.2.2.2.2.2.1 hM hS hl hc hY hk rfl hn hdd hst hW hd (fun H1 locs1 hM1 hk1 hS1 => k H1 locs1 ls (l_kept hP hk1 (fun o ho hB => by
    obtain ⟨j, hj, e⟩ := hB
    exact C.2.2.2.2.2.2.2.1 o j ho hj e)) hM1 hS1 hl)
end LZ

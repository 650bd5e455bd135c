/-! ===== rows over a static world: fields, arrays, calls ===== -/
/-- a field's link: own's entry idx is field k of class ci -/
def q_FL (own : String) (idx ci k : Nat) (ty : FieldType) (fin : Bool) : Prop :=
  ∃ (cn : String) (T : u_T) (ty0 : Nat → FieldType), vwCl[ci]? = some (cn, T, q_nf ci) ∧ k < q_nf ci ∧ ci < 6 ∧ Cond.fieldLink own idx (T k).1 (T k).2.1 (T k).2.2.1 ∈ gw ∧ (T k).2.2.2 = fin ∧ (∀ j, j < q_nf ci → parseFieldDescriptor (T j).2.2.1 = some (ty0 j)) ∧ (∀ a, a < q_nf ci → ∀ b, b < q_nf ci → a ≠ b → (T a).2.1 ≠ (T b).2.1) ∧ ty0 k = ty ∧ ∀ w ∈ u_ws cn T (q_nf ci), w ∈ gw
/-- a method that is called on an object -/
def q_YI (y : MethodName) (cc : ByteArray) (nl : Nat) (ret : Option FieldType) (ci n : Nat) : Prop :=
  Cond.instanceMethod y ∈ gw ∧ Cond.selects y.cls y y ∈ gw ∧ Cond.initialized y.cls ∈ gw ∧ Cond.code y cc nl ret ∈ gw ∧ (y.cls ≠ "java/lang/invoke/MethodHandle" ∧ y.cls ≠ "java/lang/invoke/VarHandle" ∧ (parseMethodDescriptor y.desc).map (fun d => d.parameters.length) = some n) ∧ nl ≤ 19 ∧ ci < 6 ∧ (vwCl[ci]?).map (fun q => q.1) = some y.cls
def q_YS (y : MethodName) (cc : ByteArray) (nl : Nat) (ret : Option FieldType) (n : Nat) : Prop :=
  Cond.static y ∈ gw ∧ Cond.initialized y.cls ∈ gw ∧ Cond.code y cc nl ret ∈ gw ∧ (y.cls ≠ "java/lang/invoke/MethodHandle" ∧ y.cls ≠ "java/lang/invoke/VarHandle" ∧ (parseMethodDescriptor y.desc).map (fun d => d.parameters.length) = some n) ∧ nl ≤ 19
theorem q_good {y : MethodName} {cc : ByteArray} {nl : Nat} {ret : Option FieldType} (h : Cond.code y cc nl ret ∈ gw) : GoodIn gw (Cond.code y cc nl ret :: gw) := by
  intro w hw
  rcases List.mem_cons.mp hw with rfl | h1
  · exact ⟨h, gw_good h⟩
  · exact ⟨h1, gw_good h1⟩
theorem q_blind {S : qS} {G : qG} {σ : qM} {av : List Value} : FrameBlind (va_Pc av (q_Pre S G σ)) := by
  intro a U g mk h
  obtain ⟨h0, hP, hK, hI, hT⟩ := h
  exact ⟨h0, hP, va_K.moved (u := U) (U := U.calling g mk a) (Vm.Alike.refl U.vm) hK, hI, hT.call⟩
section QH
variable {S : qS} {X : qX} {G : qG} {own : String} {cc : ByteArray} {nl d : Nat} {ret : Option FieldType} {Q : State → Prop} {σ : qM} {pc : Nat} {lv lv' : List (Nat × Value)} {st : List Value}
theorem q_getI (C : qC S X G own cc nl d ret) {idx ci k o : Nat} {ty : FieldType} {fin : Bool} (F : q_FL own idx ci k ty fin) (ho : q_kd S o = ci) (hr : q_isr ci k = false) (hd : decode cc pc = .ok (.getfield idx, 3)) (kk : qY S X G nl Q σ (pc + 3) lv (.int (σ o k) :: st)) : qY S X G nl Q σ pc lv (.ref (q_ad G o) :: st) := by
  intro H locs ls hP hS hl
  obtain ⟨cn, T, ty0, h1, h2, h3, h4, h5, h6, h7, h8, h9⟩ := F
  have hN : o < q_N S := C.2.2.2.2.2.2.1.2 o (by omega)
  exact va_get (D := q_D G) (cl := vwCl) (ci := ci) (C := cn) (T := T) (N := q_nf ci) C.1 C.2.1 C.2.2.2.2.1 h9 C.2.2.2.1 C.2.2.2.2.2.1 hP o (by rw [q_at hN, q_en_obj ho h3]) h1 k h2 (C.2.2.2.2.1 _ h4) (fun _ h => h) (v := .int (σ o k)) (by rw [q_fs_at h2]; simp [q_fv, hr]) hd (kk H locs ls hP hS hl)
theorem q_getR (C : qC S X G own cc nl d ret) {idx ci k o t : Nat} {ty : FieldType} {fin : Bool} (F : q_FL own idx ci k ty fin) (ho : q_kd S o = ci) (hr : q_isr ci k = true) (ht : q_rf S o k = t) (hd : decode cc pc = .ok (.getfield idx, 3)) (kk : qY S X G nl Q σ (pc + 3) lv (.ref (q_ad G t) :: st)) : qY S X G nl Q σ pc lv (.ref (q_ad G o) :: st) := by
  intro H locs ls hP hS hl
  subst ht
  obtain ⟨cn, T, ty0, h1, h2, h3, h4, h5, h6, h7, h8, h9⟩ := F
  have hN : o < q_N S := C.2.2.2.2.2.2.1.2 o (by omega)
  exact va_get (D := q_D G) (cl := vwCl) (ci := ci) (C := cn) (T := T) (N := q_nf ci) C.1 C.2.1 C.2.2.2.2.1 h9 C.2.2.2.1 C.2.2.2.2.2.1 hP o (by rw [q_at hN, q_en_obj ho h3]) h1 k h2 (C.2.2.2.2.1 _ h4) (fun _ h => h) (v := .ref (q_ad G (q_rf S o k))) (by rw [q_fs_at h2]; simp [q_fv, hr]) hd (kk H locs ls hP hS hl)
theorem q_putI (C : qC S X G own cc nl d ret) {idx ci k o : Nat} {ty : FieldType} {v : Int32} (F : q_FL own idx ci k ty false) (ho : q_kd S o = ci) (hr : q_isr ci k = false) (hn : narrow ty (.int v) = .int v) (hf : fits ty (.int v) = true) (hd : decode cc pc = .ok (.putfield idx, 3)) (kk : qY S X G nl Q (qup σ o k v) (pc + 3) lv st) : qY S X G nl Q σ pc lv (.int v :: .ref (q_ad G o) :: st) := by
  intro H locs ls hP hS hl
  obtain ⟨cn, T, ty0, h1, h2, h3, h4, h5, h6, h7, h8, h9⟩ := F
  have hN : o < q_N S := C.2.2.2.2.2.2.1.2 o (by omega)
  have he : (q_ws S G σ)[o]? = some (q_ad G o, .inr (ci, q_fs S G (σ o) o ci)) := by rw [q_at hN, q_en_obj ho h3]
  refine va_put (D := q_D G) (cl := vwCl) (ci := ci) (C := cn) (T := T) (N := q_nf ci) (v := .int v) (ty := ty) C.1 C.2.1 C.2.2.2.2.1 h9 ty0 h6 h7 C.2.2.2.1 C.2.2.2.2.2.1 hP (q_dis σ C.2.2.2.2.2.2.1) hS o he h1 k h2 (C.2.2.2.2.1 _ h4) (fun _ h => h) h5 (by rw [h6 k h2, h8]) hn hf (by simpa [q_fs] using h2) hd (fun H1 locs1 hP1 hD1 hS1 => ?_)
  refine kk H1 locs1 ls ?_ hS1 hl
  rw [q_fs_set h2 hr, ← q_en_obj (G := G) (f := upd (σ o) k v) ho h3, q_wset] at hP1
  exact hP1
theorem q_iald (C : qC S X G own cc nl d ret) {o n : Nat} {i : Int32} (ho : q_kd S o = 6) (hn : q_ln S o = n) (hi : vp_in i n) (hd : decode cc pc = .ok (.iaload, 1)) (kk : qY S X G nl Q σ (pc + 1) lv (.int (σ o i.toNatClampNeg) :: st)) : qY S X G nl Q σ pc lv (.int i :: .ref (q_ad G o) :: st) := by
  intro H locs ls hP hS hl
  subst hn
  have hN : o < q_N S := C.2.2.2.2.2.2.1.2 o (by omega)
  exact va_iald (D := q_D G) (cl := vwCl) C.1 C.2.1 C.2.2.2.2.2.1 hP o 0 (by rw [q_at hN, q_en_6 ho]) rfl hi hd (kk H locs ls hP hS hl)
theorem q_iast (C : qC S X G own cc nl d ret) {o n : Nat} {i v : Int32} (ho : q_kd S o = 6) (hn : q_ln S o = n) (hi : vp_in i n) (hd : decode cc pc = .ok (.iastore, 1)) (kk : qY S X G nl Q (qup σ o i.toNatClampNeg v) (pc + 1) lv st) : qY S X G nl Q σ pc lv (.int v :: .int i :: .ref (q_ad G o) :: st) := by
  intro H locs ls hP hS hl
  subst hn
  have hN : o < q_N S := C.2.2.2.2.2.2.1.2 o (by omega)
  refine va_iast (D := q_D G) (cl := vwCl) C.1 C.2.1 C.2.2.2.2.2.1 hP (q_dis σ C.2.2.2.2.2.2.1) hS o 0 (by rw [q_at hN, q_en_6 ho]) rfl hi hd (fun H1 locs1 hP1 hD1 hS1 => ?_)
  refine kk H1 locs1 ls ?_ hS1 hl
  rw [← q_en_6 (G := G) (f := upd (σ o) i.toNatClampNeg v) ho, q_wset] at hP1
  exact hP1
theorem q_alen (C : qC S X G own cc nl d ret) {o n : Nat} (ho : q_kd S o = 6) (hn : q_ln S o = n) (hd : decode cc pc = .ok (.arraylength, 1)) (kk : qY S X G nl Q σ (pc + 1) lv (.int (Int32.ofNat n) :: st)) : qY S X G nl Q σ pc lv (.ref (q_ad G o) :: st) := by
  intro H locs ls hP hS hl
  subst hn
  have hN : o < q_N S := C.2.2.2.2.2.2.1.2 o (by omega)
  have ha : (q_ws S G σ)[o]? = some (q_ad G o, .inl (q_cI G, q_ln S o, .inl (σ o))) := by rw [q_at hN, q_en_6 ho]
  exact va_alen (D := q_D G) (cl := vwCl) (x := (q_ln S o, .inl (σ o))) C.1 C.2.1 C.2.2.2.2.2.1 hP o 0 ha rfl rfl hd (kk H locs ls hP hS hl)
theorem q_aald (C : qC S X G own cc nl d ret) {o n t : Nat} {i : Int32} (ho : q_kd S o = 7 ∨ q_kd S o = 8) (hn : q_ln S o = n) (hi : vp_in i n) (ht : q_rf S o i.toNatClampNeg = t) (hd : decode cc pc = .ok (.aaload, 1)) (kk : qY S X G nl Q σ (pc + 1) lv (.ref (q_ad G t) :: st)) : qY S X G nl Q σ pc lv (.int i :: .ref (q_ad G o) :: st) := by
  intro H locs ls hP hS hl
  subst hn
  subst ht
  have hN : o < q_N S := C.2.2.2.2.2.2.1.2 o (by omega)
  have hlt : i.toNatClampNeg < q_ln S o := Nat.not_le.mp fun q => hi (Or.inr q)
  rcases ho with ho | ho
  · have ha : (q_ws S G σ)[o]? = some (q_ad G o, .inl (q_cII G, q_ln S o, .inr (.inr (.inr (.inr (fun j => some (q_ad G (q_rf S o j)))))))) := by rw [q_at hN, q_en_7 ho]
    exact W.aald (v := .ref (q_ad G (q_rf S o i.toNatClampNeg))) (ty := .array .int) C.1 C.2.1 (hP o _ ha) ((C.2.2.2.2.2.1.2 1 (q_cII G, .array .int) rfl).1 (q_ln S o) (fun j => va_rf (some (q_ad G (q_rf S o j))))) rfl (fun q => by cases q) (by show ¬ (i < 0 ∨ (arrV _ _ _).slots.size ≤ _); rw [arrV_size]; exact hi) (by show (arrV _ _ _).slots[_]? = _; rw [arrV_read _ _ hlt]; rfl) rfl rfl hd (kk H locs ls hP hS hl)
  · have ha : (q_ws S G σ)[o]? = some (q_ad G o, .inl (q_cS G, q_ln S o, .inr (.inr (.inr (.inr (fun j => some (q_ad G (q_rf S o j)))))))) := by rw [q_at hN, q_en_8 ho]
    exact va_aldq (D := q_D G) (cl := vwCl) (f := fun j => some (q_ad G (q_rf S o j))) C.1 C.2.1 C.2.2.2.2.2.1 hP o 2 ha rfl hi hd (kk H locs ls hP hS hl)
theorem q_copy (C : qC S X G own cc nl d ret) {idx o0 o1 n0 n1 : Nat} {sp dp n : Int32} (hk : Cond.methodLink own idx arraycopyName ∈ gw) (hnt : Cond.native arraycopyName ∈ gw) (hst : Cond.static arraycopyName ∈ gw) (hin : Cond.initialized "java/lang/System" ∈ gw) (h0 : q_kd S o0 = 6) (h1 : q_kd S o1 = 6) (e0 : q_ln S o0 = n0) (e1 : q_ln S o1 = n1) (hg : ¬ sp < 0 ∧ ¬ dp < 0 ∧ ¬ n < 0 ∧ sp.toNatClampNeg + n.toNatClampNeg ≤ n0 ∧ dp.toNatClampNeg + n.toNatClampNeg ≤ n1) (hdd : 1 ≤ d) (hW : (st.map fun v => v.category).sum + (nativeFrameWords "java/lang/System" "arraycopy" 5 + 11) ≤ 38) (hd : decode cc pc = .ok (.invokestatic idx, 3))
    (kk : qY S X G nl Q (qset σ o1 (va_cpy (σ o0) (σ o1) sp.toNatClampNeg dp.toNatClampNeg n.toNatClampNeg)) (pc + 3) lv st) : qY S X G nl Q σ pc lv (.int n :: .int dp :: .ref (q_ad G o1) :: .int sp :: .ref (q_ad G o0) :: st) := by
  intro H locs ls hP hS hl
  subst e0
  subst e1
  have hN0 : o0 < q_N S := C.2.2.2.2.2.2.1.2 o0 (by omega)
  have hN1 : o1 < q_N S := C.2.2.2.2.2.2.1.2 o1 (by omega)
  have hR : x_R X = q_Rm d := C.2.2.2.2.2.2.2.1
  refine va_copyi (D := q_D G) (cl := vwCl) (ty := .int) C.1 C.2.1 (C.2.2.1.trans hl.1.symm) C.2.2.2.1 (C.2.2.2.2.1 _ hk) (C.2.2.2.2.1 _ hnt) (C.2.2.2.2.1 _ hst) (C.2.2.2.2.1 _ hin) C.2.2.2.2.2.1 hP (q_dis σ C.2.2.2.2.2.2.1) hS o0 o1 0 0 (by rw [q_at hN0, q_en_6 h0]) (by rw [q_at hN1, q_en_6 h1]) rfl rfl rfl hg.1 hg.2.1 hg.2.2.1 hg.2.2.2.1 hg.2.2.2.2 (fun i _ => rfl) ?_ ?_ hd (fun H1 locs1 hP1 hD1 hS1 => ?_)
  · show 1 ≤ (x_R X).frames
    rw [hR]
    exact hdd
  · show _ ≤ (x_R X).locals
    rw [hR]
    show _ ≤ 38 * d
    omega
  · refine kk H1 locs1 ls ?_ hS1 hl
    rw [← q_en_6 (G := G) (f := va_cpy (σ o0) (σ o1) sp.toNatClampNeg dp.toNatClampNeg n.toNatClampNeg) h1, q_wset] at hP1
    exact hP1
theorem q_fin {σ' : qM} {r : Option Value} {a : Array Value} {H : Heap} {locs : List Loc} {ls : Array Slot} {st0 : List Value} (hS : va_S (q_A S G) (x_s X).heap H locs) (hl : lv_has ls nl lv)
    (hrun : va_Run X.1 X.2.1 X.2.2.1 X.2.2.2.1 X.2.2.2.2.1 X.2.2.2.2.2.1 X.2.2.2.2.2.2.1 X.2.2.2.2.2.2.2.1 X.2.2.2.2.2.2.2.2.1 X.2.2.2.2.2.2.2.2.2 H locs 0 0 0 0 (F0 (x_m X) pc ls st0) st (q_Qc S G r σ' a) (q_A S G)) (k : qY S X G nl Q σ' (pc + 3) lv (r.toList ++ st)) : qW X H locs Q (F0 (x_m X) pc ls st0) := by
  intro T hT XX
  obtain ⟨v, st₀, t, T', L, h0, X', hL, e1, e2, ⟨hv, hP1, hz, hk⟩, stp⟩ := hrun T hT XX
  cases hv
  rw [h0] at hz hk
  obtain ⟨t2, a1, b1⟩ := k T'.heap (locs ++ L) ls (by rw [e1]; exact hP1)
    ⟨Nat.le_trans hS.1 (by rw [e1]; exact hz), fun q h1 h2 => by rw [e1, hk q (Nat.lt_of_lt_of_le h1 hS.1) h2]; exact hS.2.1 q h1 h2, fun q hq => by
      rcases List.mem_append.mp hq with h | h
      · exact hS.2.2 q h
      · exact hL q h⟩ hl T' rfl X'
  exact ⟨t2, stp t2 a1, b1⟩
theorem q_callV (C : qC S X G own cc nl d ret) {y : MethodName} {cc' : ByteArray} {nl' idx ci n o d' : Nat} {ret' : Option FieldType} {As st0 : List Value} {r : Option Value} {σ' : qM} (hc : qCon S G (x_l X) y cc' nl' ret' d' (.ref (q_ad G o) :: As) σ r σ') (hY : q_YI y cc' nl' ret' ci n) (hk : Cond.methodLink own idx y ∈ gw) (ho : q_kd S o = ci) (hn : As.length = n) (hdd : d' < d) (hst : st0 = As.reverse ++ .ref (q_ad G o) :: st) (hW : (st.map fun v => v.category).sum ≤ 8) (hd : decode cc pc = .ok (.invokevirtual idx, 3)) (k : qY S X G nl Q σ' (pc + 3) lv (r.toList ++ st)) : qY S X G nl Q σ pc lv st0 := by
  intro H locs ls hP hS hl
  obtain ⟨y1, y2, y3, y4, y5, y6, y7, y8⟩ := hY
  have hts := C.2.2.2.2.1
  have hN : o < q_N S := C.2.2.2.2.2.2.1.2 o (by omega)
  have hR : x_R X = q_Rm d := C.2.2.2.2.2.2.2.1
  have he : (q_ws S G σ)[o]? = some (q_ad G o, .inr (ci, q_fs S G (σ o) o ci)) := by rw [q_at hN, q_en_obj ho y7]
  obtain ⟨q, hq, hq1⟩ : ∃ q, vwCl[ci]? = some q ∧ q.1 = y.cls := by
    cases hv : vwCl[ci]? with
    | none => rw [hv] at y8; cases y8
    | some q => rw [hv] at y8; exact ⟨q, rfl, Option.some.inj y8⟩
  have hrec := va_recv C.2.2.2.2.2.1 hP hq he
  rw [hq1] at hrec
  refine q_fin hS hl (va_runV (As := As) (rest := st) (b := q_ad G o) (Ts := gw) (own := own) (cc := cc) (nL := nl) ⟨C.1, C.2.1, C.2.2.1, C.2.2.2.1, hts⟩ hc (cwV n hts ?_ rfl rfl rfl ⟨rfl, y5⟩ ?_) ⟨q_blind, hrec, fun U hU hW => ⟨rfl, by rw [hU]; exact hP, va_K.moved hW.alike C.2.2.2.2.2.1, C.2.2.2.2.2.2.1, C.2.2.2.2.2.2.2.2.1.go hW (by rw [hU]; exact hS)⟩⟩ rfl hn hl.1 hst (lv_room hW) hd ⟨Nat.zero_le _, Nat.zero_le _⟩) k
  · intro w hw
    simp only [wsV, List.mem_append, List.mem_cons, List.not_mem_nil, or_false] at hw
    rcases hw with (rfl | rfl | rfl | rfl) | h
    · exact ⟨hk, gw_good hk⟩
    · exact ⟨y1, gw_good y1⟩
    · exact ⟨y2, gw_good y2⟩
    · exact ⟨y3, gw_good y3⟩
    · exact q_good y4 w (List.mem_cons.mpr h)
  · show d' + 1 ≤ (x_R X).frames ∧ 8 + (nl' + 11) + 38 * d' ≤ (x_R X).locals
    rw [hR]
    show d' + 1 ≤ d ∧ 8 + (nl' + 11) + 38 * d' ≤ 38 * d
    omega
theorem q_callS (C : qC S X G own cc nl d ret) {y : MethodName} {cc' : ByteArray} {nl' idx n d' : Nat} {ret' : Option FieldType} {As st0 : List Value} {r : Option Value} {σ' : qM} (hc : qCon S G (x_l X) y cc' nl' ret' d' As σ r σ') (hY : q_YS y cc' nl' ret' n) (hk : Cond.methodLink own idx y ∈ gw) (hn : As.length = n) (hdd : d' < d) (hst : st0 = As.reverse ++ st) (hW : (st.map fun v => v.category).sum ≤ 8) (hd : decode cc pc = .ok (.invokestatic idx, 3)) (k : qY S X G nl Q σ' (pc + 3) lv (r.toList ++ st)) : qY S X G nl Q σ pc lv st0 := by
  intro H locs ls hP hS hl
  obtain ⟨y1, y3, y4, y5, y6⟩ := hY
  have hts := C.2.2.2.2.1
  have hR : x_R X = q_Rm d := C.2.2.2.2.2.2.2.1
  refine q_fin hS hl (va_runS (As := As) (rest := st) (Ts := gw) (own := own) (cc := cc) (nL := nl) ⟨C.1, C.2.1, C.2.2.1, C.2.2.2.1, hts⟩ hc ⟨callB_of n hts (q_good y4) rfl rfl rfl (hts _ y3) (hts _ hk) y5 ?_, hts _ y1⟩ ⟨q_blind, fun U hU hW => ⟨rfl, by rw [hU]; exact hP, va_K.moved hW.alike C.2.2.2.2.2.1, C.2.2.2.2.2.2.1, C.2.2.2.2.2.2.2.2.1.go hW (by rw [hU]; exact hS)⟩⟩ rfl hn hl.1 hst (lv_room hW) hd ⟨Nat.zero_le _, Nat.zero_le _⟩) k
  show d' + 1 ≤ (x_R X).frames ∧ 8 + (nl' + 11) + 38 * d' ≤ (x_R X).locals
  rw [hR]
  show d' + 1 ≤ d ∧ 8 + (nl' + 11) + 38 * d' ≤ 38 * d
  omega
end QH
/-! guards, calls and loops of the pure texts -/
theorem q_guard {α : Type} {c : Prop} [Decidable c] {x : Option α} {r : α} (h : (if c then x else none) = some r) : c ∧ x = some r := by
  by_cases hc : c
  · rw [if_pos hc] at h; exact ⟨hc, h⟩
  · rw [if_neg hc] at h; cases h
theorem q_bind {α β : Type} {x : Option α} {g : α → Option β} {r : β} (h : x.bind g = some r) : ∃ q, x = some q ∧ g q = some r := by
  cases x with
  | none => cases h
  | some q => exact ⟨q, rfl, h⟩
def qlp {F : Type} (z : F) (b : F → F) : Nat → F
  | 0 => z
  | n + 1 => b (qlp z b n)
def qFU : Nat := 5000

/-! ===== rows of the texts' constants ===== -/
def q_tl (i : Nat) : Nat := [6, 6, 3, 4, 2, 8].getD i 0
def q_tc (i j : Nat) : Int32 := (q_tbs.getD i []).getD j 0
def q_YT (y : MethodName) (cc : ByteArray) (nl : Nat) (ret : Option FieldType) (n : Nat) : Prop :=
  Cond.instanceMethod y ∈ gw ∧ Cond.selects y.cls y y ∈ gw ∧ Cond.initialized y.cls ∈ gw ∧ Cond.code y cc nl ret ∈ gw ∧ (y.cls ≠ "java/lang/invoke/MethodHandle" ∧ y.cls ≠ "java/lang/invoke/VarHandle" ∧ (parseMethodDescriptor y.desc).map (fun d => d.parameters.length) = some n) ∧ nl ≤ 19 ∧ y.cls = "java/lang/String"
section QT
variable {S : qS} {X : qX} {G : qG} {own : String} {cc : ByteArray} {nl d : Nat} {ret : Option FieldType} {Q : State → Prop} {σ : qM} {pc : Nat} {lv lv' : List (Nat × Value)} {st : List Value}
theorem q_ldcs (C : qC S X G RX3 cc nl d ret) {idx : Nat} (i : Nat) (hi : i < 6) (he : q_ti i = idx) (hd : decode cc pc = .ok (.ldc idx, 2)) (k : qY S X G nl Q σ (pc + 2) lv (.ref (q_aK G i) :: st)) : qY S X G nl Q σ pc lv st := by
  intro H locs ls hP hS hl
  subst he
  exact va_ldcS C.1 C.2.1 C.2.2.2.1 (C.2.2.2.2.2.2.2.2.1.1 i hi) hd (k H locs ls hP hS hl)
theorem q_gets (C : qC S X G own cc nl d ret) {idx : Nat} (hk : Cond.fieldLink own idx "java/lang/String" "COMPACT_STRINGS" "Z" ∈ gw) (hd : decode cc pc = .ok (.getstatic idx, 3)) (k : qY S X G nl Q σ (pc + 3) lv (.int 1 :: st)) : qY S X G nl Q σ pc lv st := by
  intro H locs ls hP hS hl
  exact va_gets C.1 C.2.1 C.2.2.2.2.2.2.2.2.1.2.2 hS C.2.2.2.1 (C.2.2.2.2.1 _ hk) (fun _ h => h) hd (k H locs ls hP hS hl)
theorem q_getTc (C : qC S X G own cc nl d ret) {idx i : Nat} (hi : i < 6) (hk : Cond.fieldLink own idx "java/lang/String" "coder" "B" ∈ gw) (hd : decode cc pc = .ok (.getfield idx, 3)) (k : qY S X G nl Q σ (pc + 3) lv (.int 0 :: st)) : qY S X G nl Q σ pc lv (.ref (q_aK G i) :: st) := by
  intro H locs ls hP hS hl
  exact vk_getf C.1 C.2.1 (C.2.2.2.2.2.2.2.2.1.2.1.1 i hi).2.1 hS C.2.2.2.1 (C.2.2.2.2.1 _ hk) (fun _ h => h) hd (k H locs ls hP hS hl)
theorem q_getTv (C : qC S X G own cc nl d ret) {idx i : Nat} (hi : i < 6) (hk : Cond.fieldLink own idx "java/lang/String" "value" "[B" ∈ gw) (hd : decode cc pc = .ok (.getfield idx, 3)) (k : qY S X G nl Q σ (pc + 3) lv (.ref (q_aV G i) :: st)) : qY S X G nl Q σ pc lv (.ref (q_aK G i) :: st) := by
  intro H locs ls hP hS hl
  exact vk_getf C.1 C.2.1 (C.2.2.2.2.2.2.2.2.1.2.1.1 i hi).2.2.1 hS C.2.2.2.1 (C.2.2.2.2.1 _ hk) (fun _ h => h) hd (k H locs ls hP hS hl)
theorem q_blen (C : qC S X G own cc nl d ret) {i : Nat} (hi : i < 6) (hd : decode cc pc = .ok (.arraylength, 1)) (k : qY S X G nl Q σ (pc + 1) lv (.int (Int32.ofNat (q_tl i)) :: st)) : qY S X G nl Q σ pc lv (.ref (q_aV G i) :: st) := by
  intro H locs ls hP hS hl
  exact va_tlen C.1 C.2.1 (C.2.2.2.2.2.2.2.2.1.2.1.1 i hi).2.2.2 hS rfl hd (k H locs ls hP hS hl)
theorem q_bald (C : qC S X G own cc nl d ret) {i : Nat} {j : Int32} (hi : i < 6) (hj : vp_in j (q_tl i)) (hd : decode cc pc = .ok (.baload, 1)) (k : qY S X G nl Q σ (pc + 1) lv (.int (q_tc i j.toNatClampNeg) :: st)) : qY S X G nl Q σ pc lv (.int j :: .ref (q_aV G i) :: st) := by
  intro H locs ls hP hS hl
  exact va_tb C.1 C.2.1 (C.2.2.2.2.2.2.2.2.1.2.1.1 i hi).2.2.2 hS hj rfl hd (k H locs ls hP hS hl)
theorem q_bret (C : qC S X G own cc nl d (some .byte)) {v : Int32} (hv : v = 0 ∨ v = 1) (hd : decode cc pc = .ok (.ireturn, 1)) : qY S X G nl (q_Q S X G (some (.int v)) σ) σ pc lv [.int v] := fun H locs ls hP hS hl => W.zret C.1 C.2.1 C.2.2.2.2.2.2.2.2.2.1 (by rcases hv with rfl | rfl <;> rfl) (fun t ht hW => ⟨rfl, by rw [ht]; exact hP, hS.F ht⟩) hS.2.2 hd C.2.2.2.2.2.2.2.2.2.2
theorem q_callT1 (C : qC S X G own cc nl d ret) {y : MethodName} {cc' : ByteArray} {nl' idx n i d' : Nat} {ret' : Option FieldType} {As st0 : List Value} {v : Value} {σ' : qM} (hc : qCon S G (x_l X) y cc' nl' ret' d' (.ref (q_aK G i) :: As) σ (some v) σ') (hY : q_YT y cc' nl' ret' n) (hk : Cond.methodLink own idx y ∈ gw) (hi : i < 6) (hn : As.length = n) (hdd : d' < d) (hst : st0 = As.reverse ++ .ref (q_aK G i) :: st) (hW : (st.map fun v => v.category).sum ≤ 8) (hd : decode cc pc = .ok (.invokevirtual idx, 3)) (k : qY S X G nl Q σ' (pc + 3) lv (v :: st)) : qY S X G nl Q σ pc lv st0 := by
  intro H locs ls hP hS hl
  obtain ⟨y1, y2, y3, y4, y5, y6, y7⟩ := hY
  have hts := C.2.2.2.2.1
  have hR : x_R X = q_Rm d := C.2.2.2.2.2.2.2.1
  have hrec := vk_recv C.2.2.2.2.2.2.2.2.1.2.1 hi hS
  rw [← y7] at hrec
  refine q_fin (r := some v) hS hl (va_runV (As := As) (rest := st) (b := q_aK G i) (Ts := gw) (own := own) (cc := cc) (nL := nl) ⟨C.1, C.2.1, C.2.2.1, C.2.2.2.1, hts⟩ hc (cwV n hts ?_ rfl rfl rfl ⟨rfl, y5⟩ ?_) ⟨q_blind, hrec, fun U hU hW => ⟨rfl, by rw [hU]; exact hP, va_K.moved hW.alike C.2.2.2.2.2.1, C.2.2.2.2.2.2.1, C.2.2.2.2.2.2.2.2.1.go hW (by rw [hU]; exact hS)⟩⟩ rfl hn hl.1 hst (lv_room hW) hd ⟨Nat.zero_le _, Nat.zero_le _⟩) k
  · intro w hw
    simp only [wsV, List.mem_append, List.mem_cons, List.not_mem_nil, or_false] at hw
    rcases hw with (rfl | rfl | rfl | rfl) | h
    · exact ⟨hk, gw_good hk⟩
    · exact ⟨y1, gw_good y1⟩
    · exact ⟨y2, gw_good y2⟩
    · exact ⟨y3, gw_good y3⟩
    · exact q_good y4 w (List.mem_cons.mpr h)
  · show d' + 1 ≤ (x_R X).frames ∧ 8 + (nl' + 11) + 38 * d' ≤ (x_R X).locals
    rw [hR]
    show d' + 1 ≤ d ∧ 8 + (nl' + 11) + 38 * d' ≤ 38 * d
    omega
end QT

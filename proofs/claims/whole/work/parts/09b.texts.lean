/-! ===== rows of the signs' arrays ===== -/
section QT
variable {S : qS} {X : qX} {G : qG} {own : String} {cc : ByteArray} {nl d : Nat} {ret : Option FieldType} {Q : State → Prop} {σ : qM} {pc : Nat} {lv lv' : List (Nat × Value)} {st : List Value}
theorem q_gst (C : qC S X G RX3 cc nl d ret) {idx : Nat} (i : Nat) (hi : i < 7) (he : q_ti i = idx) (hd : decode cc pc = .ok (.getstatic idx, 3)) (k : qY S X G nl Q σ (pc + 3) lv (.ref (q_aK G i) :: st)) : qY S X G nl Q σ pc lv st := by
  intro H locs ls hP hS hl
  subst he
  have h := C.2.2.2.2.2.2.2.2.1 i hi
  exact va_getsN C.1 C.2.1 h.2.1 hS C.2.2.2.1 (va_Nw.use rfl h.1) (fun _ h => h) hd (k H locs ls hP hS hl)
theorem q_clen (C : qC S X G own cc nl d ret) {i : Nat} (hi : i < 7) (hd : decode cc pc = .ok (.arraylength, 1)) (k : qY S X G nl Q σ (pc + 1) lv (.int (Int32.ofNat (q_tl i)) :: st)) : qY S X G nl Q σ pc lv (.ref (q_aK G i) :: st) := by
  intro H locs ls hP hS hl
  exact va_tlen C.1 C.2.1 (C.2.2.2.2.2.2.2.2.1 i hi).2.2 hS rfl hd (k H locs ls hP hS hl)
theorem q_cald (C : qC S X G own cc nl d ret) {i : Nat} {j : Int32} (hi : i < 7) (hj : vp_in j (q_tl i)) (hd : decode cc pc = .ok (.caload, 1)) (k : qY S X G nl Q σ (pc + 1) lv (.int (q_tc i j.toNatClampNeg) :: st)) : qY S X G nl Q σ pc lv (.int j :: .ref (q_aK G i) :: st) := by
  intro H locs ls hP hS hl
  exact va_tc C.1 C.2.1 (C.2.2.2.2.2.2.2.2.1 i hi).2.2 hS hj rfl hd (k H locs ls hP hS hl)
end QT

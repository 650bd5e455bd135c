/-! ===== the pure texts' words, and rows that speak them ===== -/
abbrev qin (i : Int32) (n : Nat) : Prop := ¬ (i < 0 ∨ n ≤ i.toNatClampNeg)
def jshl (x y : Int32) : Int32 := x <<< (y &&& 31)
def jshr (x y : Int32) : Int32 := x >>> (y &&& 31)
def jrem (x y : Int32) : Int32 := x - x / y * y
def jlrem (x y : Int64) : Int64 := x - x / y * y
theorem q_t {α : Type} {c : Prop} [Decidable c] {a b : α} {r : α} (hc : c) (h : (if c then a else b) = r) : a = r := by rw [if_pos hc] at h; exact h
theorem q_f {α : Type} {c : Prop} [Decidable c] {a b : α} {r : α} (hc : ¬ c) (h : (if c then a else b) = r) : b = r := by rw [if_neg hc] at h; exact h
section QW
variable {S : qS} {X : qX} {G : qG} {own : String} {cc : ByteArray} {nl d : Nat} {ret : Option FieldType} {Q : State → Prop} {σ : qM} {pc : Nat} {lv lv' : List (Nat × Value)} {st : List Value}
theorem q_shl (C : qC S X G own cc nl d ret) {x y : Int32} (hd : decode cc pc = .ok (.ishl, 1)) (k : qY S X G nl Q σ (pc + 1) lv (.int (jshl x y) :: st)) : qY S X G nl Q σ pc lv (.int y :: .int x :: st) := q_ishl C hd k
theorem q_shr (C : qC S X G own cc nl d ret) {x y : Int32} (hd : decode cc pc = .ok (.ishr, 1)) (k : qY S X G nl Q σ (pc + 1) lv (.int (jshr x y) :: st)) : qY S X G nl Q σ pc lv (.int y :: .int x :: st) := q_ishr C hd k
theorem q_rem (C : qC S X G own cc nl d ret) {x y : Int32} (hd : decode cc pc = .ok (.irem, 1)) (hne : ¬ y = 0) (k : qY S X G nl Q σ (pc + 1) lv (.int (jrem x y) :: st)) : qY S X G nl Q σ pc lv (.int y :: .int x :: st) := q_irem C hd hne k
theorem q_lre (C : qC S X G own cc nl d ret) {x y : Int64} (hd : decode cc pc = .ok (.lrem, 1)) (hne : ¬ y = 0) (k : qY S X G nl Q σ (pc + 1) lv (.long (jlrem x y) :: st)) : qY S X G nl Q σ pc lv (.long y :: .long x :: st) := q_lrem C hd hne k
theorem q_inc (C : qC S X G own cc nl d ret) {i : Nat} {n : Int} {x c : Int32} (j : Nat) (hk : lv[j]? = some (i, .int x)) (hc : Int32.ofInt n = c) (hd : decode cc pc = .ok (.iinc i n, 3)) (hn : i < nl) (hl0 : (i, Value.int (x + c)) :: lv.filter (fun q => !(q.1 == i) && !(q.1 + 1 == i && q.2.category == 2)) = lv') (k : qY S X G nl Q σ (pc + 3) lv' st) : qY S X G nl Q σ pc lv st := q_iinc C j hk hd (by rw [hc]) hn hl0 k
theorem q_callV1 (C : qC S X G own cc nl d ret) {y : MethodName} {cc' : ByteArray} {nl' idx ci n o d' : Nat} {ret' : Option FieldType} {As st0 : List Value} {v : Value} {σ' : qM} (hc : qCon S G (x_l X) y cc' nl' ret' d' (.ref (q_ad G o) :: As) σ (some v) σ') (hY : q_YI y cc' nl' ret' ci n) (hk : Cond.methodLink own idx y ∈ gw) (ho : q_kd S o = ci) (hn : As.length = n) (hdd : d' < d) (hst : st0 = As.reverse ++ .ref (q_ad G o) :: st) (hW : (st.map fun v => v.category).sum ≤ 8) (hd : decode cc pc = .ok (.invokevirtual idx, 3)) (k : qY S X G nl Q σ' (pc + 3) lv (v :: st)) : qY S X G nl Q σ pc lv st0 := q_callV C hc hY hk ho hn hdd hst hW hd k
theorem q_callV0 (C : qC S X G own cc nl d ret) {y : MethodName} {cc' : ByteArray} {nl' idx ci n o d' : Nat} {ret' : Option FieldType} {As st0 : List Value} {σ' : qM} (hc : qCon S G (x_l X) y cc' nl' ret' d' (.ref (q_ad G o) :: As) σ none σ') (hY : q_YI y cc' nl' ret' ci n) (hk : Cond.methodLink own idx y ∈ gw) (ho : q_kd S o = ci) (hn : As.length = n) (hdd : d' < d) (hst : st0 = As.reverse ++ .ref (q_ad G o) :: st) (hW : (st.map fun v => v.category).sum ≤ 8) (hd : decode cc pc = .ok (.invokevirtual idx, 3)) (k : qY S X G nl Q σ' (pc + 3) lv st) : qY S X G nl Q σ pc lv st0 := q_callV C hc hY hk ho hn hdd hst hW hd k
theorem q_callS1 (C : qC S X G own cc nl d ret) {y : MethodName} {cc' : ByteArray} {nl' idx n d' : Nat} {ret' : Option FieldType} {As st0 : List Value} {v : Value} {σ' : qM} (hc : qCon S G (x_l X) y cc' nl' ret' d' As σ (some v) σ') (hY : q_YS y cc' nl' ret' n) (hk : Cond.methodLink own idx y ∈ gw) (hn : As.length = n) (hdd : d' < d) (hst : st0 = As.reverse ++ st) (hW : (st.map fun v => v.category).sum ≤ 8) (hd : decode cc pc = .ok (.invokestatic idx, 3)) (k : qY S X G nl Q σ' (pc + 3) lv (v :: st)) : qY S X G nl Q σ pc lv st0 := q_callS C hc hY hk hn hdd hst hW hd k
end QW
theorem q_tabOut {x : Int32} {lo hi : Int} (h : ∀ k : Int, lo ≤ k → k ≤ hi → ¬ x.toInt = k) : x.toInt < lo ∨ hi < x.toInt := by
  by_cases h1 : x.toInt < lo
  · exact Or.inl h1
  · by_cases h2 : hi < x.toInt
    · exact Or.inr h2
    · exact absurd rfl (h x.toInt (by omega) (by omega))

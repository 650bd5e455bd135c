/-! ===== the static worlds: memory as a function, cells by number ===== -/
/-- memory: cell number, slot, value -/
abbrev qM : Type := Nat → Nat → Int32
def qset (σ : qM) (o : Nat) (f : Nat → Int32) : qM := fun a => if a = o then f else σ a
def qup (σ : qM) (o k : Nat) (v : Int32) : qM := qset σ o (upd (σ o) k v)
theorem qset_s (σ : qM) (o : Nat) (f : Nat → Int32) : qset σ o f o = f := if_pos rfl
theorem qset_n (σ : qM) {o a : Nat} (f : Nat → Int32) (h : ¬ a = o) : qset σ o f a = σ a := if_neg h
/-- a shape: the kind of each cell (0..5 an object of that class, 6 ints, 7 rows of ints, 8 rows of sheets), its length, where its references lead, how many cells -/
abbrev qS : Type := (Nat → Nat) × (Nat → Nat) × (Nat → Nat → Nat) × Nat
/-- the tables' numbers, the address of each cell, the classes of the three kinds of arrays, the addresses of the rows of signs -/
abbrev qG : Type := va_G × (Nat → Nat) × ClassId × ClassId × ClassId × (Nat → Nat)
abbrev q_D (G : qG) : va_G := G.1
abbrev q_ad (G : qG) : Nat → Nat := G.2.1
abbrev q_cI (G : qG) : ClassId := G.2.2.1
abbrev q_cII (G : qG) : ClassId := G.2.2.2.1
abbrev q_cS (G : qG) : ClassId := G.2.2.2.2.1
abbrev q_aK (G : qG) : Nat → Nat := G.2.2.2.2.2
abbrev q_kd (S : qS) : Nat → Nat := S.1
abbrev q_ln (S : qS) : Nat → Nat := S.2.1
abbrev q_rf (S : qS) : Nat → Nat → Nat := S.2.2.1
abbrev q_N (S : qS) : Nat := S.2.2.2
def gw : List Cond := lw_tbl.filter goodWord
theorem gw_mem {w : Cond} (h : w ∈ tables_1) (g : goodWord w = true) : w ∈ gw := List.mem_filter.mpr ⟨List.mem_append_right _ h, g⟩
theorem gw_sel {q : MethodName × Nat} (h : q ∈ lw_privs) (g : goodWord (Cond.selects q.1.cls q.1 q.1) = true) : Cond.selects q.1.cls q.1 q.1 ∈ gw := List.mem_filter.mpr ⟨List.mem_append_left _ (List.mem_map.mpr ⟨q, h, rfl⟩), g⟩
theorem gw_good {w : Cond} (h : w ∈ gw) : (w.onTables && w.keeps) = true ∨ ∃ ty, w = .arrayClass ty := good_of_word (List.mem_filter.mp h).2
def q_nf (ci : Nat) : Nat := [15, 3, 3, 7, 10, 26].getD ci 0
/-- which fields of a class are references -/
def q_isr (ci k : Nat) : Bool := (([[0, 1, 2, 3, 4, 5, 6, 7, 8, 9, 10, 11, 13], [0, 1], [0], [2, 3], [0, 1, 2, 3, 4, 5, 6], [0, 1, 2, 3, 5, 6, 9, 11, 13, 15, 16, 17, 18, 19, 25]] : List (List Nat)).getD ci []).contains k
def q_fv (S : qS) (G : qG) (f : Nat → Int32) (o ci k : Nat) : Value := if q_isr ci k = true then .ref (q_ad G (q_rf S o k)) else .int (f k)
def q_fs (S : qS) (G : qG) (f : Nat → Int32) (o ci : Nat) : List Value := (List.range (q_nf ci)).map (q_fv S G f o ci)
def q_en (S : qS) (G : qG) (f : Nat → Int32) (o : Nat) : va_E :=
  if q_kd S o = 6 then .inl (q_cI G, q_ln S o, .inl f)
  else if q_kd S o = 7 then .inl (q_cII G, q_ln S o, .inr (.inr (.inr (.inr (fun j => some (q_ad G (q_rf S o j)))))))
  else if q_kd S o = 8 then .inl (q_cS G, q_ln S o, .inr (.inr (.inr (.inr (fun j => some (q_ad G (q_rf S o j)))))))
  else .inr (q_kd S o, q_fs S G f o (q_kd S o))
def q_ws (S : qS) (G : qG) (σ : qM) : va_W := (List.range (q_N S)).map (fun o => (q_ad G o, q_en S G (σ o) o))
def q_A (S : qS) (G : qG) : Nat → Prop := fun q => ∃ o, o < q_N S ∧ q = q_ad G o
def q_tys (G : qG) : List (ClassId × FieldType) := [(q_cI G, .int), (q_cII G, .array .int), (q_cS G, .object "TeaLaws$Sheet")]
def q_inj (S : qS) (G : qG) : Prop := (∀ i j, i < q_N S → j < q_N S → q_ad G i = q_ad G j → i = j) ∧ ∀ o, q_kd S o < 9 → o < q_N S
theorem q_at {S : qS} {G : qG} {σ : qM} {o : Nat} (h : o < q_N S) : (q_ws S G σ)[o]? = some (q_ad G o, q_en S G (σ o) o) := by
  simp [q_ws, h]
theorem q_wset {S : qS} {G : qG} {σ : qM} {o : Nat} (f : Nat → Int32) : (q_ws S G σ).set o (q_ad G o, q_en S G f o) = q_ws S G (qset σ o f) := by
  apply List.ext_getElem?
  intro i
  by_cases hi : i < q_N S
  · by_cases e : i = o
    · subst e
      rw [List.getElem?_set_self (by simpa [q_ws] using hi), q_at hi, qset_s]
    · rw [List.getElem?_set_ne (Ne.symm e), q_at hi, q_at hi, qset_n _ _ e]
  · have h1 : (q_ws S G (qset σ o f))[i]? = none := by simp [q_ws]; omega
    have h2 : ((q_ws S G σ).set o (q_ad G o, q_en S G f o))[i]? = none := by simp [q_ws]; omega
    rw [h1, h2]
theorem q_dis {S : qS} {G : qG} (σ : qM) (h : q_inj S G) : va_D (q_A S G) (q_ws S G σ) := by
  have key : ∀ (k : Nat) (q : Nat × va_E), (q_ws S G σ)[k]? = some q → k < q_N S ∧ q.1 = q_ad G k := by
    intro k q hk
    by_cases hl : k < q_N S
    · rw [q_at hl] at hk
      cases hk
      exact ⟨hl, rfl⟩
    · have h1 : (q_ws S G σ)[k]? = none := by simp [q_ws]; omega
      rw [h1] at hk
      cases hk
  refine ⟨fun i j p q hi hj e => ?_, fun k q hk => ?_⟩
  · obtain ⟨h1, h2⟩ := key i p hi
    obtain ⟨h3, h4⟩ := key j q hj
    exact h.1 i j h1 h3 (h2.symm.trans (e.trans h4))
  · obtain ⟨h1, h2⟩ := key k q hk
    exact ⟨k, h1, h2⟩
theorem q_en_obj {S : qS} {G : qG} {f : Nat → Int32} {o ci : Nat} (h : q_kd S o = ci) (hc : ci < 6) : q_en S G f o = .inr (ci, q_fs S G f o ci) := by
  subst h
  unfold q_en
  rw [if_neg (by omega), if_neg (by omega), if_neg (by omega)]
theorem q_en_6 {S : qS} {G : qG} {f : Nat → Int32} {o : Nat} (h : q_kd S o = 6) : q_en S G f o = .inl (q_cI G, q_ln S o, .inl f) := if_pos h
theorem q_en_7 {S : qS} {G : qG} {f : Nat → Int32} {o : Nat} (h : q_kd S o = 7) : q_en S G f o = .inl (q_cII G, q_ln S o, .inr (.inr (.inr (.inr (fun j => some (q_ad G (q_rf S o j))))))) := by
  unfold q_en
  rw [if_neg (by omega), if_pos h]
theorem q_en_8 {S : qS} {G : qG} {f : Nat → Int32} {o : Nat} (h : q_kd S o = 8) : q_en S G f o = .inl (q_cS G, q_ln S o, .inr (.inr (.inr (.inr (fun j => some (q_ad G (q_rf S o j))))))) := by
  unfold q_en
  rw [if_neg (by omega), if_neg (by omega), if_pos h]
theorem q_fs_at {S : qS} {G : qG} {f : Nat → Int32} {o ci k : Nat} (h : k < q_nf ci) : (q_fs S G f o ci)[k]? = some (q_fv S G f o ci k) := by
  simp [q_fs, h]
theorem q_fs_set {S : qS} {G : qG} {f : Nat → Int32} {o ci k : Nat} {v : Int32} (h : k < q_nf ci) (hi : q_isr ci k = false) : (q_fs S G f o ci).set k (.int v) = q_fs S G (upd f k v) o ci := by
  apply List.ext_getElem?
  intro i
  by_cases hl : i < q_nf ci
  · by_cases e : i = k
    · subst e
      rw [List.getElem?_set_self (by simpa [q_fs] using hl), q_fs_at hl]
      simp [q_fv, hi, upd]
    · rw [List.getElem?_set_ne (Ne.symm e), q_fs_at hl, q_fs_at hl]
      simp [q_fv, upd, e]
  · have h1 : (q_fs S G (upd f k v) o ci)[i]? = none := by simp [q_fs]; omega
    have h2 : ((q_fs S G f o ci).set k (.int v))[i]? = none := by simp [q_fs]; omega
    rw [h1, h2]
/-! the rows of signs: static arrays of chars that nobody writes -/
def q_tn (i : Nat) : String := ["COLUMN_SIGNS", "ROW_SIGNS", "SHAPE_SIGNS", "HOW_SIGNS", "PLUS_SIGNS", "LAW_SIGNS", "SEPARATORS"].getD i ""
def q_ti (i : Nat) : Nat := [56, 59, 62, 65, 68, 71, 46].getD i 0
def q_tbs : List (List Int32) := [[97, 98, 99, 100, 101, 102], [49, 50, 51, 52, 53, 54], [115, 100, 114], [110, 111, 102, 98], [45, 43], [65, 66, 67, 68, 69, 70, 71, 72], [59]]
def q_tl (i : Nat) : Nat := [6, 6, 3, 4, 2, 8, 1].getD i 0
def q_tc (i j : Nat) : Int32 := (q_tbs.getD i []).getD j 0
/-- how Text reads row i across the nest -/
abbrev q_tw (i : Nat) : Cond := .fieldLinkNest RX3 (q_ti i) RX4 (q_tn i) "[C" RX4
/-- row i stands outside A -/
def q_row (aK : Nat → Nat) (A : Nat → Prop) (U : State) (H : Heap) (i : Nat) : Prop := va_Nw (q_tw i) U ∧ va_Z RX4 (q_tn i) "[C" (.ref (aK i)) A U H ∧ va_T .char (aK i) (q_tl i) (fun j => .int (q_tc i j)) A U H
def q_str (S : qS) (G : qG) (U : State) : Prop := ∀ i, i < 7 → q_row (q_aK G) (q_A S G) U U.heap i
theorem q_str.go {S : qS} {G : qG} {s U : State} {locs : List Loc} (h : q_str S G s) (hW : s.WarmedH U.vm) (hS : va_S (q_A S G) s.heap U.heap locs) : q_str S G U :=
  fun i hi => ⟨va_Nw.warmF hW (h i hi).1, ((h i hi).2.1.moved hW.alike).kept hS.2.1, ((h i hi).2.2.moved hW.alike).kept hS.2.1⟩
theorem q_str.call {S : qS} {G : qG} {U : State} {g : JFrame} {mk : MethodId} {a : Array Value} (h : q_str S G U) : q_str S G (U.calling g mk a) :=
  fun i hi => ⟨va_Nw.same (u := U) rfl rfl (h i hi).1, (h i hi).2.1.moved (u := U) (U := U.calling g mk a) (Vm.Alike.refl U.vm), (h i hi).2.2.moved (u := U) (U := U.calling g mk a) (Vm.Alike.refl U.vm)⟩
/-! ===== the walk's judgement over a static world ===== -/
abbrev qX : Type := Program × Launch × Env × Room × State × MethodId × Array Value × List Frame × Method × Code
abbrev x_p (X : qX) : Program := X.1
abbrev x_l (X : qX) : Launch := X.2.1
abbrev x_R (X : qX) : Room := X.2.2.2.1
abbrev x_s (X : qX) : State := X.2.2.2.2.1
abbrev x_m (X : qX) : MethodId := X.2.2.2.2.2.1
abbrev x_a (X : qX) : Array Value := X.2.2.2.2.2.2.1
abbrev x_b (X : qX) : List Frame := X.2.2.2.2.2.2.2.1
abbrev x_t (X : qX) : Method := X.2.2.2.2.2.2.2.2.1
abbrev x_c (X : qX) : Code := X.2.2.2.2.2.2.2.2.2
def qW (X : qX) (H : Heap) (locs : List Loc) (Q : State → Prop) (g : JFrame) : Prop := W X.1 X.2.1 X.2.2.1 X.2.2.2.1 X.2.2.2.2.1 X.2.2.2.2.2.1 X.2.2.2.2.2.2.1 X.2.2.2.2.2.2.2.1 X.2.2.2.2.2.2.2.2.1 X.2.2.2.2.2.2.2.2.2 H locs 0 0 Q g
def q_Rm (d : Nat) : Room := { frames := d, cells := 0, slots := 0, locals := 38 * d }
/-- what stays through a method's walk -/
def qC (S : qS) (X : qX) (G : qG) (own : String) (cc : ByteArray) (nl d : Nat) (ret : Option FieldType) : Prop :=
  (x_p X).tables.exec = Jvm.exec ∧ (x_c X).code = cc ∧ (x_c X).maxLocals = nl ∧ (x_s X).vm.findClass own = some (x_m X).cls ∧ (∀ w ∈ gw, w.before (x_a X) (x_s X) = true) ∧ va_K (q_D G) vwCl (q_tys G) (x_s X) ∧ q_inj S G ∧ x_R X = q_Rm d ∧ q_str S G (x_s X) ∧ (x_t X).sig.returnType = ret ∧ (x_t X).locks = false
/-- from here, with this memory, these locals and this stack, the method comes to Q -/
def qY (S : qS) (X : qX) (G : qG) (nl : Nat) (Q : State → Prop) (σ : qM) (pc : Nat) (lv : List (Nat × Value)) (st : List Value) : Prop :=
  ∀ (H : Heap) (locs : List Loc) (ls : Array Slot), va_P (q_D G) vwCl (q_ws S G σ) H → va_S (q_A S G) (x_s X).heap H locs → lv_has ls nl lv → qW X H locs Q (F0 (x_m X) pc ls st)
/-- a method's end: its answer and the memory behind it -/
def q_Qc (S : qS) (G : qG) (r : Option Value) (σ : qM) : Array Value → State → Outcome → State → Prop := fun _ st oc t => oc = .returned r ∧ va_P (q_D G) vwCl (q_ws S G σ) t.heap ∧ va_F (q_A S G) st t
def q_Q (S : qS) (X : qX) (G : qG) (r : Option Value) (σ : qM) : State → Prop := MQ (x_b X) (q_Qc S G r σ) (x_a X) (x_s X) 0 0 (q_A S G)
def q_Pre (S : qS) (G : qG) (σ : qM) (U : State) : Prop := va_P (q_D G) vwCl (q_ws S G σ) U.heap ∧ va_K (q_D G) vwCl (q_tys G) U ∧ q_inj S G ∧ q_str S G U
/-- a method's contract at these arguments and this memory -/
def qCon (S : qS) (G : qG) (l : Launch) (y : MethodName) (cc : ByteArray) (nl : Nat) (ret : Option FieldType) (d : Nat) (av : List Value) (σ : qM) (r : Option Value) (σ' : qM) : Prop :=
  Met l y (Cond.code y cc nl ret :: gw) (q_Rm d) (va_Pc av (q_Pre S G σ)) (q_Qc S G r σ') 0 0 (q_A S G)
theorem qCon.mk {S : qS} {G : qG} {l : Launch} {y : MethodName} {cc : ByteArray} {nl : Nat} {ret : Option FieldType} {d : Nat} {av : List Value} {σ : qM} {r : Option Value} {σ' : qM} {lv : List (Nat × Value)} (hy : plainName y.cls = true) (hn : (lg_sl av).length ≤ nl) (hlv : lv_args 0 av = lv)
    (h : ∀ X : qX, x_l X = l → qC S X G y.cls cc nl d ret → qY S X G nl (q_Q S X G r σ') σ 0 lv []) : qCon S G l y cc nl ret d av σ r σ' := by
  refine Met.ofW (cc := cc) (maxL := nl) (ret := ret) hy rfl ?_
  intro p e s m args below meth c s₁ B hml hv
  obtain ⟨rfl, hP, hK, hI, hT⟩ := hv
  have hts := atoms_spec (ws := Cond.code y cc nl ret :: gw) B.pre
  have hl := lv_entry av (n := nl) hn
  rw [lg_entry_eq]
  subst hlv
  exact h (p, l, e, q_Rm d, s, m, av.toArray, below, meth, c) rfl ⟨B.exec, B.bytes, hml, findClass_of_methodNamed B.named, fun w hw => hts w (List.mem_cons_of_mem _ hw), hK, hI, rfl, hT, B.returns, B.notSynchronized⟩ s.heap [] _ hP va_S.rf hl

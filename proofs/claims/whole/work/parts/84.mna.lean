/-! ===== new int[n][k]: one row of the walk, out of the model's own words ===== -/
/-- an inner row, new -/
def mu_in (cI : ClassId) (K : Nat) : Cell := arrV cI K (fun _ => .int 0)
/-- the outer row, when i inner ones lie in it: they follow it in the heap -/
def mu_out (cA : ClassId) (N h i : Nat) : Cell := arrV cA N (fun j => va_rf (if j < i then some (h + 1 + j) else none))
def mu_go (T : State) (cA cI : ClassId) (N K : Nat) : Nat → State
  | 0 => T.pushCell (mu_out cA N T.heap.size 0)
  | i + 1 => ((mu_go T cA cI N K i).pushCell (mu_in cI K)).setCell T.heap.size (mu_out cA N T.heap.size (i + 1))
theorem mu_next (cA : ClassId) (N h i : Nat) : (mu_out cA N h i).setSlot i (.ref (h + 1 + i)) = mu_out cA N h (i + 1) := by
  unfold mu_out
  rw [arrV_store]
  refine congrArg (arrV cA N) (funext fun j => ?_)
  by_cases e : j = i
  · subst e
    simp [updV, va_rf]
  · have e2 : (j < i + 1) = (j < i) := by
      apply propext
      omega
    simp [updV, e, e2]
theorem mu_facts (T : State) (cA cI : ClassId) (N K : Nat) : ∀ i, (mu_go T cA cI N K i).heap.size = T.heap.size + 1 + i ∧ (mu_go T cA cI N K i).heap[T.heap.size]? = some (mu_out cA N T.heap.size i) ∧ (mu_go T cA cI N K i).vm = T.vm ∧ (mu_go T cA cI N K i).slotsUsed = T.slotsUsed + N + i * K ∧ (∀ a : Nat, a < T.heap.size → (mu_go T cA cI N K i).heap[a]? = T.heap[a]?) ∧ ∀ j : Nat, j < i → (mu_go T cA cI N K i).heap[T.heap.size + 1 + j]? = some (mu_in cI K) := by
  intro i
  induction i with
  | zero =>
    refine ⟨by simp [mu_go], State.heap_pushCell_size _ _, rfl, ?_, fun a ha => State.heap_pushCell_of_lt _ _ ha, fun j hj => absurd hj (Nat.not_lt_zero j)⟩
    show T.slotsUsed + (mu_out cA N T.heap.size 0).slots.size = _
    unfold mu_out
    rw [arrV_size]
    omega
  | succ i ih =>
    obtain ⟨a1, a2, a3, a4, a5, a6⟩ := ih
    have hz : (((mu_go T cA cI N K i).pushCell (mu_in cI K)).heap).size = T.heap.size + 1 + i + 1 := by
      have : (((mu_go T cA cI N K i).pushCell (mu_in cI K)).heap).size = (mu_go T cA cI N K i).heap.size + 1 := by simp
      rw [this, a1]
    have hl : T.heap.size < (mu_go T cA cI N K i).heap.size := by omega
    have hc : ((mu_go T cA cI N K i).pushCell (mu_in cI K)).heap[T.heap.size]? = some (mu_out cA N T.heap.size i) := (State.heap_pushCell_of_lt _ _ hl).trans a2
    have other : ∀ a : Nat, T.heap.size ≠ a → (mu_go T cA cI N K (i + 1)).heap[a]? = ((mu_go T cA cI N K i).pushCell (mu_in cI K)).heap[a]? := fun a ha => State.heap_setCell_other ha
    refine ⟨?_, State.heap_setCell_self hc, a3, ?_, fun a ha => ?_, fun j hj => ?_⟩
    · show ((((mu_go T cA cI N K i).pushCell (mu_in cI K)).setCell T.heap.size _).heap).size = _
      rw [size_setCell, hz]
      omega
    · show (mu_go T cA cI N K i).slotsUsed + (mu_in cI K).slots.size = _
      unfold mu_in
      rw [arrV_size, a4, Nat.succ_mul]
      omega
    · have hx : a < (mu_go T cA cI N K i).heap.size := by rw [a1]; omega
      rw [other a (by omega), State.heap_pushCell_of_lt (mu_go T cA cI N K i) (mu_in cI K) hx]
      exact a5 a ha
    · rw [other _ (by omega)]
      by_cases e : j = i
      · subst e
        rw [← a1]
        exact State.heap_pushCell_size _ _
      · have hx : T.heap.size + 1 + j < (mu_go T cA cI N K i).heap.size := by rw [a1]; omega
        rw [State.heap_pushCell_of_lt (mu_go T cA cI N K i) (mu_in cI K) hx]
        exact a6 j (by omega)
theorem mu_top (T : State) (g : JFrame) (cA cI : ClassId) (N K : Nat) : ∀ i, mu_go (T.setTop g) cA cI N K i = (mu_go T cA cI N K i).setTop g := by
  intro i
  induction i with
  | zero => rfl
  | succ i ih =>
    show ((mu_go (T.setTop g) cA cI N K i).pushCell _).setCell _ _ = _
    rw [ih]
    rfl
section MU
variable {p : Program} {l : Launch} {e : Env} {R : Room} {s : State} {m : MethodId} {args : Array Value} {below : List Frame} {meth : Method} {c : Code} {H : Heap} {locs : List Loc} {cells slots : Nat} {Q : State → Prop}
theorem mu_stand {T : State} (X : Stand p l e R s m args below meth c T locs cells slots) (cA cI : ClassId) (N K : Nat) : ∀ i, ∃ L : List Loc, (∀ q ∈ L, q.base = T.heap.size) ∧ Stand p l e R s m args below meth c (mu_go T cA cI N K i) (locs ++ L) (cells + 1 + i) (slots + N + i * K) := by
  intro i
  induction i with
  | zero =>
    refine ⟨[], fun q hq => (by cases hq), ?_⟩
    have h := X.pushed (mu_out cA N T.heap.size 0)
    have e1 : (mu_out cA N T.heap.size 0).slots.size = N := arrV_size _ _ _
    rw [e1] at h
    rw [List.append_nil, Nat.zero_mul]
    exact h
  | succ i ih =>
    obtain ⟨L, hL, Xi⟩ := ih
    obtain ⟨a1, a2, -, -, -, -⟩ := mu_facts T cA cI N K i
    have hx : T.heap.size < (mu_go T cA cI N K i).heap.size := by rw [a1]; omega
    have hc : ((mu_go T cA cI N K i).pushCell (mu_in cI K)).heap[T.heap.size]? = some (mu_out cA N T.heap.size i) := (State.heap_pushCell_of_lt (mu_go T cA cI N K i) (mu_in cI K) hx).trans a2
    have h := (Xi.pushed (mu_in cI K)).stored hc i (.ref (T.heap.size + 1 + i))
    have e1 : (mu_in cI K).slots.size = K := arrV_size _ _ _
    rw [e1, mu_next, List.append_assoc] at h
    refine ⟨L ++ [⟨T.heap.size, i⟩], fun q hq => ?_, ?_⟩
    · rcases List.mem_append.mp hq with h1 | h1
      · exact hL q h1
      · rw [List.mem_singleton.mp h1]
    · rw [show slots + N + (i + 1) * K = slots + N + i * K + K by rw [Nat.succ_mul]; omega]
      exact h
end MU
section MW
variable {E : CtlPost} {e : Env} {d : Bool} {acts : List Action} {s : State}
/-- a new array, its first value each time the default one -/
theorem mu_wnew {c comp : ClassId} {k : Class} {ty : FieldType} {n : Nat} {v : Value} (hk : s.vm.classes[c]? = some k) (hkd : k.kind = .array comp ty) (h1 : ¬ n > e.platform.arrayLengthLimit) (h2 : ¬ n * componentBytes ty > e.platform.maxHeapBytes) (hf : fits ty v = true) (hv : v.isDefault = true) (h3 : s.heap.size < e.platform.maxCells) (h4 : s.slotsUsed + n ≤ e.platform.maxSlots) {Q : Addr → Pre} (hq : Q s.heap.size d acts (s.pushCell (arrV c n (fun _ => v)))) : wp (Jvm.newArray c n v) Q E e d acts s := by
  have g1 : ∀ i w, (Array.replicate n v)[i]? = some w → s.fitsSlot c .none i w = true := by
    intro i w hw
    have : w = v := by
      rw [Array.getElem?_replicate] at hw
      split at hw
      · exact (Option.some.inj hw).symm
      · cases hw
    subst this
    simp [State.fitsSlot, State.slotType?, hk, hkd, hf]
  have g2 : allocActs (Array.replicate n v) s.heap.size acts = acts := by
    unfold allocActs
    rw [if_pos]
    rw [Array.all_replicate]
    split <;> simp [hv]
  rw [← arrV_new] at hq
  simp only [Jvm.newArray, Jvm.arrayFits, wp_bind', W.ask, W.ite, h1, if_false, wp_pure', W.theClass, hk, hkd, h2, W.alloc, W.stop, Option.some.injEq, exists_eq_left', Array.size_replicate, g2]
  rw [if_neg (by omega)]
  exact ⟨h3, h4, g1, hq⟩
theorem mu_win {cI cc : ClassId} {kc : Class} {k : Int32} (hkc : s.vm.classes[cI]? = some kc) (hkd : kc.kind = .array cc .int) (hk : ¬ k < 0) (h1 : ¬ k.toNatClampNeg > e.platform.arrayLengthLimit) (h2 : ¬ k.toNatClampNeg * componentBytes .int > e.platform.maxHeapBytes) (h3 : s.heap.size < e.platform.maxCells) (h4 : s.slotsUsed + k.toNatClampNeg ≤ e.platform.maxSlots) {Q : Addr → Pre} (hq : Q s.heap.size d acts (s.pushCell (mu_in cI k.toNatClampNeg))) : wp (Op.multianewarray.make cI [k]) Q E e d acts s := by
  rw [Op.multianewarray.make]
  simp only [wp_bind', W.ite, hk, if_false, wp_pure', W.theClass, hkc, hkd, Option.some.injEq, exists_eq_left']
  exact mu_wnew hkc hkd h1 h2 rfl rfl h3 h4 hq
theorem mu_wout {cA cI cc : ClassId} {kA kc : Class} {n k : Int32} (hkA : s.vm.classes[cA]? = some kA) (hkdA : kA.kind = .array cI (.array .int)) (hkc : s.vm.classes[cI]? = some kc) (hkd : kc.kind = .array cc .int) (hn : ¬ n < 0) (hk : ¬ k < 0)
    (h1 : ¬ n.toNatClampNeg > e.platform.arrayLengthLimit) (h2 : ¬ n.toNatClampNeg * componentBytes (.array .int) > e.platform.maxHeapBytes) (h3 : ¬ k.toNatClampNeg > e.platform.arrayLengthLimit) (h4 : ¬ k.toNatClampNeg * componentBytes .int > e.platform.maxHeapBytes)
    (h5 : s.heap.size + 1 + n.toNatClampNeg ≤ e.platform.maxCells) (h6 : s.slotsUsed + n.toNatClampNeg + n.toNatClampNeg * k.toNatClampNeg ≤ e.platform.maxSlots) {Q : Addr → Pre} (hq : ∀ d' acts', Q s.heap.size d' acts' (mu_go s cA cI n.toNatClampNeg k.toNatClampNeg n.toNatClampNeg)) : wp (Op.multianewarray.make cA [n, k]) Q E e d acts s := by
  have hf : ([k].find? (· < 0)) = none := by simp [hk]
  rw [Op.multianewarray.make]
  simp only [wp_bind', W.ite, hn, if_false, wp_pure', W.theClass, hkA, hkdA, Option.some.injEq, exists_eq_left']
  refine mu_wnew hkA hkdA h1 h2 rfl rfl (by omega) (by omega) ?_
  have e0 : s.pushCell (arrV cA n.toNatClampNeg (fun _ => Value.null)) = mu_go s cA cI n.toNatClampNeg k.toNatClampNeg 0 := by
    show _ = s.pushCell (mu_out cA n.toNatClampNeg s.heap.size 0)
    refine congrArg (fun z => s.pushCell (arrV cA n.toNatClampNeg z)) (funext fun j => ?_)
    simp [va_rf]
  rw [e0]
  simp only [hf]
  rw [ite_self, wp_bind', Std.Legacy.Range.forIn_eq_forIn_range']
  rw [show ([:n.toNatClampNeg] : Std.Legacy.Range).size = n.toNatClampNeg by simp [Std.Legacy.Range.size]]
  generalize hNN : n.toNatClampNeg = N at *
  generalize hKK : k.toNatClampNeg = K at *
  show wp (forIn (List.range' 0 N 1) PUnit.unit _) _ E e d acts _
  refine wp_forIn_inv (fun rest u => ∃ i, i ≤ N ∧ rest = List.range' i (N - i) ∧ u = mu_go s cA cI N K i) _ _ ⟨0, Nat.zero_le _, rfl, rfl⟩ ?_ ?_
  · rintro x rest u d' acts' Q' ⟨i, hi, hl, rfl⟩ go
    have hlt : i < N := by
      apply Classical.byContradiction
      intro hh
      rw [show N - i = 0 by omega] at hl
      cases hl
    rw [show N - i = (N - (i + 1)) + 1 by omega, List.range'_succ] at hl
    obtain ⟨rfl, hr⟩ := List.cons.inj hl
    obtain ⟨a1, a2, a3, a4, -, -⟩ := mu_facts s cA cI N K x
    have hm : x * K + K ≤ N * K := by
      have := Nat.mul_le_mul_right K (show x + 1 ≤ N from hlt)
      rw [Nat.succ_mul] at this
      exact this
    simp only [wp_bind']
    refine mu_win (kc := kc) (cc := cc) (by rw [a3]; exact hkc) hkd hk (by rw [hKK]; exact h3) (by rw [hKK]; exact h4) (by rw [a1]; omega) (by rw [a4, hKK]; omega) ?_
    rw [hKK]
    simp only [wp_bind', W.writeLoc, wp_pure']
    have hx : s.heap.size < (mu_go s cA cI N K x).heap.size := by rw [a1]; omega
    refine ⟨mu_out cA N s.heap.size x, (State.heap_pushCell_of_lt (mu_go s cA cI N K x) (mu_in cI K) hx).trans a2, (fun q => by cases q), by unfold mu_out; rw [arrV_size]; exact hlt, ?_, go _ _ _ ⟨x + 1, hlt, hr, ?_⟩⟩
    · simp [State.fitsSlot, State.slotType?, mu_out, arrV, a3, hkA, hkdA, fits]
    · rw [a1, mu_next]
      rfl
  · rintro u d' acts' ⟨i, hi, hl, rfl⟩
    have hiN : i = N := by
      apply Classical.byContradiction
      intro hh
      rw [show N - i = (N - (i + 1)) + 1 by omega, List.range'_succ] at hl
      cases hl
    subst hiN
    simp only [wp_pure']
    exact hq _ _
end MW
section MR
variable {p : Program} {l : Launch} {e : Env} {R : Room} {s : State} {m : MethodId} {args : Array Value} {below : List Frame} {meth : Method} {c : Code} {H : Heap} {locs : List Loc} {cells slots : Nat} {Q : State → Prop}
theorem mu_mna {cc : ByteArray} {pc : Nat} {ls : Array Slot} {rest : List Value} (hexec : p.tables.exec = Jvm.exec) (hb : c.code = cc) {own : String} {index : Nat} (hown : s.vm.findClass own = some m.cls) (hlk : (Cond.classLink own index ("[" ++ (FieldType.array .int).toString)).before args s = true) (hov : (Cond.arrayOver (.array .int)).before args s = true) (har : (Cond.arrayClass .int).before args s = true)
    {n k : Int32} {N K : Nat} (hn : ¬ n < 0) (hk : ¬ k < 0) (hN : n.toNatClampNeg = N) (hK : k.toNatClampNeg = K) (hb1 : N * 4 ≤ 536870912) (hb2 : K * 4 ≤ 536870912) (hcells : cells + (1 + N) ≤ R.cells) (hslots : slots + (N + N * K) ≤ R.slots) (hdg : decode cc pc = .ok (.multianewarray index 2, 4))
    (kk : ∀ (cA cI : ClassId) (H1 : Heap) (L : List Loc), s.vm.findClass ("[" ++ (FieldType.array .int).toString) = some cA → s.vm.findClass (FieldType.array .int).toString = some cI → (∀ q ∈ L, q.base = H.size) → H1.size = H.size + 1 + N → H1[H.size]? = some (mu_out cA N H.size N) → (∀ a : Nat, a < H.size → H1[a]? = H[a]?) → (∀ j : Nat, j < N → H1[H.size + 1 + j]? = some (mu_in cI K)) →
      W p l e R s m args below meth c H1 (locs ++ L) (cells + 1 + N) (slots + N + N * K) Q (F0 m (pc + 4) ls (.ref H.size :: rest))) : W p l e R s m args below meth c H locs cells slots Q (F0 m pc ls (.int k :: .int n :: rest)) := by
  intro T hT X
  subst hT
  subst hb
  subst hN
  subst hK
  have hpl : e.platform.magicAccessors = ({} : Platform).magicAccessors := by rw [X.admits.platform]
  obtain ⟨cI, cA, kA, f1, -, f3, f4, f5⟩ := arrayOverA_spec hov
  obtain ⟨cI', kC, cc', g1, g2, g3⟩ := Cond.arrayClass_spec har
  have ec : cI' = cI := Option.some.inj (g1.symm.trans f1)
  subst ec
  obtain ⟨c0, q1, hcl⟩ := Cond.classLink_spec hown hlk e.platform hpl
  cases f5.symm.trans q1
  obtain ⟨hg1, hw1, hr1⟩ := State.classEntry (e := e) X.warmed hcl
  generalize T.vm.noted m.cls index (.cls cA) = vm1 at hg1 hw1 hr1
  have hal : s.vm.Alike vm1 := hw1.alike
  obtain ⟨kA1, d1, d2⟩ := hal.2.2 _ _ f3
  obtain ⟨kC1, d3, d4⟩ := hal.2.2 _ _ g2
  have X1 := X.noted hw1
  obtain ⟨r1, r2⟩ := X.roomAbove hcells hslots
  obtain ⟨L, hL, X2⟩ := mu_stand X1 cA cI' n.toNatClampNeg k.toNatClampNeg n.toNatClampNeg
  obtain ⟨a1, a2, -, -, a5, a6⟩ := mu_facts (T.setVm vm1) cA cI' n.toNatClampNeg k.toNatClampNeg n.toNatClampNeg
  obtain ⟨t, s1, s2⟩ := kk cA cI' (mu_go (T.setVm vm1) cA cI' n.toNatClampNeg k.toNatClampNeg n.toNatClampNeg).heap L f5 f1 hL a1 a2 a5 a6 _ rfl X2
  refine ⟨t, ?_, s2⟩
  have h1 : ¬ n.toNatClampNeg > e.platform.arrayLengthLimit := by rw [Launch.admits_arrayLengthLimit X.admits]; omega
  have h2 : ¬ n.toNatClampNeg * componentBytes (.array .int) > e.platform.maxHeapBytes := by
    rw [Launch.admits_maxHeapBytes X.admits]
    show ¬ n.toNatClampNeg * 4 > 536870912
    omega
  have h3 : ¬ k.toNatClampNeg > e.platform.arrayLengthLimit := by rw [Launch.admits_arrayLengthLimit X.admits]; omega
  have h4 : ¬ k.toNatClampNeg * componentBytes .int > e.platform.maxHeapBytes := by
    rw [Launch.admits_maxHeapBytes X.admits]
    show ¬ k.toNatClampNeg * 4 > 536870912
    omega
  have hgm : (F0 m pc ls (.int k :: .int n :: rest)).method = m := rfl
  have hst : (F0 m pc ls (.int k :: .int n :: rest)).stack = [.int n, .int k].reverse ++ rest := rfl
  generalize hg : F0 m pc ls (.int k :: .int n :: rest) = g at hgm hst ⊢
  have hpc : g.pc = pc := by rw [← hg]
  have hg2 : F0 m (pc + 4) ls (.ref T.heap.size :: rest) = { g with pc := g.pc + 4, stack := .ref T.heap.size :: rest } := by rw [← hg]
  rw [← hpc] at hdg
  subst hgm
  jvm_step X.here [hexec, hdg]
  simp only [Op.multianewarray.sem, wp_bind', W.resolveClassAt_links (State.method?_setTop g X.here.top) hg1]
  rw [W.popN, if_neg (by decide)]
  refine ⟨g, State.topJava?_setTop' (s := T.setVm vm1) g X.here.top, [.int n, .int k], rest, rfl, hst, ?_⟩
  simp only [List.mapM_cons, List.mapM_nil, wp_bind', wp_pure']
  refine mu_wout (kA := kA1) (kc := kC1) (cc := cc') d1 (by rw [d2]; exact f4) d3 (by rw [d4]; exact g3) hn hk h1 h2 h3 h4 (by show T.heap.size + 1 + _ ≤ _; omega) (by show T.slotsUsed + _ + _ ≤ _; omega) (fun d' acts' => ?_)
  have eS : ((T.setTop g).setVm vm1).setTop { g with stack := rest } = (T.setVm vm1).setTop { g with stack := rest } := by
    show ((T.setVm vm1).setTop g).setTop _ = _
    rw [State.setTop_setTop]
  rw [eS, mu_top]
  rw [hg2] at s1
  simp only [wp_bind', W.mark, W.pushRef, State.topJava?_setTop' _ X2.here.top, Option.some.injEq, exists_eq_left', State.setTop_setTop, State.heap_setTop]
  intro acts
  simp [jvm, X2.here.top]
  exact s1
end MR

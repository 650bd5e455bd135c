/-! ===== rows for the constructors that call, and for rows of rows ===== -/
/-- the words that a callee needs and that its list of words can't hold -/
def iEx (U : State) : Prop := (Cond.arrayOver (.array .int)).before #[] U = true ∧ va_AO "TeaLaws$Sheet" U ∧ va_Nw (.methodLinkNest RX4 61 yX2_init RX4) U
theorem iEx.go {s U : State} (hW : s.WarmedH U.vm) (h : iEx s) : iEx U := ⟨over_moved hW.alike h.1, va_AO.moved hW.alike h.2.1, va_Nw.warmM hW h.2.2⟩
theorem iEx.call {U : State} {g : JFrame} {mk : MethodId} {a : Array Value} (h : iEx U) : iEx (U.calling g mk a) := ⟨over_moved (u := U) (E := U.calling g mk a) (Vm.Alike.refl U.vm) h.1, va_AO.moved (u := U) (U := U.calling g mk a) (Vm.Alike.refl U.vm) h.2.1, va_Nw.same (u := U) rfl rfl h.2.2⟩
theorem Met.pre {l : Launch} {y : MethodName} {ws : List Cond} {rm : Room} {Pc Pd : Array Value → State → Prop} {Qc : Array Value → State → Outcome → State → Prop} {mc ms : Nat} {free : Addr → Prop} (h : Met l y ws rm Pc Qc mc ms free) (hp : ∀ a U, Pd a U → Pc a U) : Met l y ws rm Pd Qc mc ms free :=
  fun p e h1 h2 h3 s m args below h4 h5 hP hK => h p e h1 h2 h3 s m args below h4 h5 (hp _ _ hP) hK
def iConE {S : Type} (D : va_G) (cI cII cS : ClassId) (l : Launch) (y : MethodName) (cc : ByteArray) (nl : Nat) (rm : Room) (av : List Value) (w0 : va_W) (w1 : S → va_W) (mc ms : Nat) : Prop :=
  ∀ sz, Met l y (Cond.code y cc nl none :: gw) rm (va_Pc av (fun U => U.heap.size = sz ∧ va_P D vwCl w0 U.heap ∧ va_K D vwCl (i_ty cI cII cS) U ∧ va_D (fun _ => True) w0 ∧ iEx U)) (i_Q D cI cII cS w0 sz w1) mc ms (va_A w0 sz)
theorem iCon.E {S : Type} {D : va_G} {cI cII cS : ClassId} {l : Launch} {y : MethodName} {cc : ByteArray} {nl : Nat} {rm : Room} {av : List Value} {w0 : va_W} {w1 : S → va_W} {mc ms : Nat} (h : iCon D cI cII cS l y cc nl rm av w0 w1 mc ms) : iConE D cI cII cS l y cc nl rm av w0 w1 mc ms :=
  fun sz => Met.pre (h sz) (fun a U q => ⟨q.1, q.2.1, q.2.2.1, q.2.2.2.1, q.2.2.2.2.1⟩)
theorem iConE.mk {S : Type} {D : va_G} {cI cII cS : ClassId} {l : Launch} {y : MethodName} {cc : ByteArray} {nl : Nat} {rm : Room} {av : List Value} {w0 : va_W} {w1 : S → va_W} {mc ms : Nat} {lv : List (Nat × Value)} (hy : plainName y.cls = true) (hyn : y.name = "<init>") (hn : (lg_sl av).length ≤ nl) (hlv : lv_args 0 av = lv)
    (h : ∀ (X : qX) (A : Nat → Prop), x_l X = l → x_R X = rm → (x_t X).name = "<init>" → A = va_A w0 (x_s X).heap.size → ((x_t X).sig.returnType = none ∧ (x_t X).locks = false) → iC X D cI cII cS A y.cls cc nl → iEx (x_s X) → iY X D A nl (MQ (x_b X) (i_Q D cI cII cS w0 (x_s X).heap.size w1) (x_a X) (x_s X) mc ms A) w0 0 0 0 lv []) : iConE D cI cII cS l y cc nl rm av w0 w1 mc ms := by
  intro sz
  refine Met.ofW (cc := cc) (maxL := nl) (ret := none) hy rfl ?_
  intro p e s m args below meth c s₁ B hml hv
  obtain ⟨rfl, hsz, hP, hK, hD0, hE⟩ := hv
  subst hsz
  have hts := atoms_spec (ws := Cond.code y cc nl none :: gw) B.pre
  have hl := lv_entry av (n := nl) hn
  rw [lg_entry_eq]
  subst hlv
  exact h (p, l, e, rm, s, m, av.toArray, below, meth, c) (va_A w0 s.heap.size) rfl rfl ((name_of_methodNamed B.named B.method).1.trans hyn) rfl ⟨B.returns, B.notSynchronized⟩ ⟨B.exec, B.bytes, hml, findClass_of_methodNamed B.named, fun w hw => hts w (List.mem_cons_of_mem _ hw), hK, fun q hq => Or.inr hq⟩ hE s.heap [] _ hP hD0.self va_S.rf hl
theorem mu_nth {N i : Nat} {f : Nat → Nat × va_E} {x : Nat × va_E} (h : ((List.range N).map f)[i]? = some x) : i < N ∧ x = f i := by
  rw [List.getElem?_map] at h
  cases hh : (List.range N)[i]? with
  | none => rw [hh] at h; cases h
  | some z =>
    obtain ⟨h1, h2⟩ := List.getElem?_eq_some_iff.mp hh
    rw [List.length_range] at h1
    rw [List.getElem_range] at h2
    rw [hh] at h
    subst h2
    exact ⟨h1, (Option.some.inj h).symm⟩
section QI3
variable {X : qX} {D : va_G} {cI cII cS : ClassId} {A : Nat → Prop} {own : String} {cc : ByteArray} {nl : Nat} {Q : State → Prop} {ws ws' : va_W} {cells slots pc : Nat} {lv lv' : List (Nat × Value)} {st : List Value}
/-- what is asked of a constructor that is called: its words are there, its room fits -/
def i_Y (own : String) (idx : Nat) (R : Room) (y : MethodName) (cc' : ByteArray) (nl' n : Nat) (rm : Room) (mc ms cells slots : Nat) : Prop :=
  Cond.code y cc' nl' none ∈ gw ∧ Cond.initialized y.cls ∈ gw ∧ Cond.instanceMethod y ∈ gw ∧ y.name = "<init>" ∧ (y.cls ≠ "java/lang/invoke/MethodHandle" ∧ y.cls ≠ "java/lang/invoke/VarHandle" ∧ (parseMethodDescriptor y.desc).map (fun d => d.parameters.length) = some n) ∧ (rm.frames + 1 ≤ R.frames ∧ 8 + (nl' + 11) + rm.locals ≤ R.locals) ∧ rm.cells = mc ∧ rm.slots = ms ∧ cells + mc ≤ R.cells ∧ slots + ms ≤ R.slots
theorem i_blind {S : Type} {av : List Value} {sz : Nat} {w0 : va_W} : FrameBlind (va_Pc av (fun U => U.heap.size = sz ∧ va_P D vwCl w0 U.heap ∧ va_K D vwCl (i_ty cI cII cS) U ∧ va_D (fun _ => True) w0 ∧ iEx U)) := by
  intro a U g mk h
  obtain ⟨h0, h1, hP, hK, hD, hE⟩ := h
  exact ⟨h0, h1, hP, va_K.moved (u := U) (U := U.calling g mk a) (Vm.Alike.refl U.vm) hK, hD, hE.call⟩
theorem i_call {S : Type} (C : iC X D cI cII cS A own cc nl) (hx : iEx (x_s X)) {y : MethodName} {cc' : ByteArray} {nl' idx n mc ms b : Nat} {rm : Room} {w0 wr : va_W} {w1 : S → va_W} {As st0 : List Value} (isC isR : List Nat) (hc : iConE D cI cII cS (x_l X) y cc' nl' rm (.ref b :: As) w0 w1 mc ms) (hk : Cond.methodLink own idx y ∈ gw) (hY : i_Y own idx (x_R X) y cc' nl' n rm mc ms cells slots)
    (h1 : isC.map (fun i => ws[i]?) = w0.map some) (h2 : isR.map (fun i => ws[i]?) = wr.map some) (h3 : isC.filterMap (fun i => ws[i]?) = w0) (h4 : va_nd isC = true) (h5 : va_nd isR = true) (h6 : ∀ i ∈ isR, i ∉ isC) (hn : As.length = n) (hst : st0 = As.reverse ++ .ref b :: st) (hW : (st.map fun v => v.category).sum ≤ 8) (hd : decode cc pc = .ok (.invokespecial idx, 3)) (k : ∀ u : S, iY X D A nl Q (wr ++ w1 u) (cells + mc) (slots + ms) (pc + 3) lv st) : iY X D A nl Q ws cells slots pc lv st0 := fun H locs ls hP hD hS hl => by
  obtain ⟨y1, y2, y3, y4, y5, y6, y7, y8, y9, y10⟩ := hY
  have hts := C.2.2.2.2.1
  have hPc := hP.sub isC h3
  have hDc := hD.sub isC h4 h1
  have hFc := va_free hD hS C.2.2.2.2.2.2 isC h1
  refine va_callv (va_runI (As := As) (rest := st) (b := b) (Ts := gw) (own := own) (cc := cc) (nL := nl) ⟨C.1, C.2.1, C.2.2.1, C.2.2.2.1, hts⟩ (hc H.size) (cwI n hts (q_good y1) rfl y7 y8 (hts _ y2) (hts _ hk) (hts _ y3) y4 y5 y6) ⟨i_blind (S := S), fun U hU hW => ⟨rfl, by rw [hU], by rw [hU]; exact hPc, va_K.moved hW.alike C.2.2.2.2.2.1, hDc.weaken (fun _ _ _ _ => trivial), hx.go hW⟩⟩ rfl hn hl.1 hst (lv_room hW) hd ⟨y9, y10⟩) hS (fun q _ h => hFc q h) hFc (fun u t H1 locs ht hvm hw hB hz1 hk1 hS => ?_)
  obtain ⟨hP1, hK1, hD1⟩ := hB
  rw [ht] at hP1
  obtain ⟨hP, hD⟩ := va_join (wr := wr) (w1 := w1 u) hP hD isC isR h1 h2 h5 h6 hk1 hFc hP1 hD1
  exact k u H1 locs ls hP hD hS hl
theorem i_callN {S : Type} (C : iC X D cI cII cS A own cc nl) (hx : iEx (x_s X)) {y : MethodName} {cc' : ByteArray} {nl' idx n mc ms b : Nat} {host : String} {rm : Room} {w0 wr : va_W} {w1 : S → va_W} {As st0 : List Value} (isC isR : List Nat) (hc : iConE D cI cII cS (x_l X) y cc' nl' rm (.ref b :: As) w0 w1 mc ms) (hk : va_Nw (.methodLinkNest own idx y host) (x_s X)) (hY : i_Y own idx (x_R X) y cc' nl' n rm mc ms cells slots)
    (h1 : isC.map (fun i => ws[i]?) = w0.map some) (h2 : isR.map (fun i => ws[i]?) = wr.map some) (h3 : isC.filterMap (fun i => ws[i]?) = w0) (h4 : va_nd isC = true) (h5 : va_nd isR = true) (h6 : ∀ i ∈ isR, i ∉ isC) (hn : As.length = n) (hst : st0 = As.reverse ++ .ref b :: st) (hW : (st.map fun v => v.category).sum ≤ 8) (hd : decode cc pc = .ok (.invokespecial idx, 3)) (k : ∀ u : S, iY X D A nl Q (wr ++ w1 u) (cells + mc) (slots + ms) (pc + 3) lv st) : iY X D A nl Q ws cells slots pc lv st0 := fun H locs ls hP hD hS hl => by
  obtain ⟨y1, y2, y3, y4, y5, y6, y7, y8, y9, y10⟩ := hY
  have hts := C.2.2.2.2.1
  have hPc := hP.sub isC h3
  have hDc := hD.sub isC h4 h1
  have hFc := va_free hD hS C.2.2.2.2.2.2 isC h1
  refine va_callv (va_runIN (As := As) (rest := st) (b := b) (Ts := gw) (own := own) (cc := cc) (nL := nl) (host := host) ⟨C.1, C.2.1, C.2.2.1, C.2.2.2.1, hts⟩ (hc H.size) ⟨va_cnB n hts (q_good y1) rfl y7 y8 hk (hts _ y2) y5 y6, y4, hts _ y3⟩ ⟨i_blind (S := S), fun U hU hW => ⟨rfl, by rw [hU], by rw [hU]; exact hPc, va_K.moved hW.alike C.2.2.2.2.2.1, hDc.weaken (fun _ _ _ _ => trivial), hx.go hW⟩⟩ rfl hn hl.1 hst (lv_room hW) hd ⟨y9, y10⟩) hS (fun q _ h => hFc q h) hFc (fun u t H1 locs ht hvm hw hB hz1 hk1 hS => ?_)
  obtain ⟨hP1, hK1, hD1⟩ := hB
  rw [ht] at hP1
  obtain ⟨hP, hD⟩ := va_join (wr := wr) (w1 := w1 u) hP hD isC isR h1 h2 h5 h6 hk1 hFc hP1 hD1
  exact k u H1 locs ls hP hD hS hl
/-- a new row of sheets: none in it yet -/
theorem i_newq (C : iC X D cI cII cS A own cc nl) (hx : iEx (x_s X)) {idx : Nat} (h1 : Cond.classLink own idx "TeaLaws$Sheet" ∈ gw) {n : Int32} {N : Nat} (hn : ¬ n < 0) (hN : n.toNatClampNeg = N) (hb : N * 4 ≤ 536870912) (hc : cells + 1 ≤ (x_R X).cells) (hs : slots + N ≤ (x_R X).slots) (hd : decode cc pc = .ok (.anewarray idx, 3)) (k : ∀ q, iY X D A nl Q (ws ++ [(q, .inl (cS, N, .inr (.inr (.inr (.inr (fun _ => none))))))]) (cells + 1) (slots + N) (pc + 3) lv (.ref q :: st)) : iY X D A nl Q ws cells slots pc lv (.int n :: st) := fun H locs ls hP hD hS hl => by
  refine va_newq (D := D) (cl := vwCl) (C := "TeaLaws$Sheet") C.1 C.2.1 C.2.2.2.1 (C.2.2.2.2.1 _ h1) hx.2.1 C.2.2.2.2.2.1 hP hD hS C.2.2.2.2.2.2 hn hN hb hc hs hd (fun q cA H1 hK1 hP1 hD1 hS1 => ?_)
  obtain ⟨-, -, -, -, -, e1⟩ := (hK1.2 3 (cA, .object "TeaLaws$Sheet") rfl).2
  obtain ⟨-, -, -, -, -, e2⟩ := (C.2.2.2.2.2.1.2 2 (cS, .object "TeaLaws$Sheet") rfl).2
  have e3 : cA = cS := Option.some.inj (e1.symm.trans e2)
  subst e3
  exact k q H1 locs ls hP1 hD1 hS1 hl
/-- a sheet is laid into its row -/
theorem i_astq (C : iC X D cI cII cS A own cc nl) {a n v : Nat} {vs : List Value} {f : Nat → Option Nat} {i : Int32} (q0 qk : Nat) (ha : ws[q0]? = some (a, .inl (cS, n, .inr (.inr (.inr (.inr f)))))) (hv : ws[qk]? = some (v, .inr (2, vs))) (hi : vp_in i n) (hd : decode cc pc = .ok (.aastore, 1)) (hw : ws.set q0 (a, .inl (cS, n, .inr (.inr (.inr (.inr (va_up f i.toNatClampNeg (some v))))))) = ws') (kk : iY X D A nl Q ws' cells slots (pc + 1) lv st) : iY X D A nl Q ws cells slots pc lv (.ref v :: .int i :: .ref a :: st) := fun H locs ls hP hD hS hl => by
  subst hw
  exact va_astq (D := D) (cl := vwCl) (r := (RX2, TX2, 3)) C.1 C.2.1 C.2.2.2.2.2.1 hP hD hS q0 2 qk 2 ha rfl hv rfl hi hd (fun H1 locs1 hP1 hD1 hS1 => kk H1 locs1 ls hP1 hD1 hS1 hl)
/-- a new row of rows of ints: the inner ones become cells of their own -/
theorem i_mna (C : iC X D cI cII cS A own cc nl) (hx : iEx (x_s X)) (hai : Cond.arrayClass .int ∈ gw) {idx : Nat} (h1 : Cond.classLink own idx "[[I" ∈ gw) {n k : Int32} {N K : Nat} (hn : ¬ n < 0) (hk : ¬ k < 0) (hN : n.toNatClampNeg = N) (hK : k.toNatClampNeg = K) (hb1 : N * 4 ≤ 536870912) (hb2 : K * 4 ≤ 536870912) (hc : cells + (1 + N) ≤ (x_R X).cells) (hs : slots + (N + N * K) ≤ (x_R X).slots) (hd : decode cc pc = .ok (.multianewarray idx 2, 4))
    (kk : ∀ (q : Nat) (r : Nat → Nat), iY X D A nl Q ((ws ++ [(q, .inl (cII, N, .inr (.inr (.inr (.inr (fun j => some (r j)))))))]) ++ (List.range N).map (fun j => (r j, .inl (cI, K, .inl (fun _ => 0))))) (cells + 1 + N) (slots + N + N * K) (pc + 4) lv (.ref q :: st)) : iY X D A nl Q ws cells slots pc lv (.int k :: .int n :: st) := fun H locs ls hP hD hS hl => by
  refine mu_mna C.1 C.2.1 C.2.2.2.1 (C.2.2.2.2.1 _ h1) hx.1 (C.2.2.2.2.1 _ hai) hn hk hN hK hb1 hb2 hc hs hd (fun cA c1 H1 L g1 g2 g3 g4 g5 g6 g7 => ?_)
  have e1 : (x_s X).vm.findClass ("[" ++ (FieldType.array .int).toString) = some cII := (C.2.2.2.2.2.1.2 1 (cII, .array .int) rfl).2
  have e2 : (x_s X).vm.findClass ("[" ++ FieldType.int.toString) = some cI := (C.2.2.2.2.2.1.2 0 (cI, .int) rfl).2
  have e3 : cA = cII := Option.some.inj (g1.symm.trans e1)
  have e4 : c1 = cI := Option.some.inj (g2.symm.trans e2)
  subst e3
  subst e4
  have hP0 : va_P D vwCl ws H1 := hP.kept (fun k9 x hx => g6 x.1 ((hP k9 x hx).lt))
  have hPa : va_P D vwCl (ws ++ [(H.size, .inl (cA, N, .inr (.inr (.inr (.inr (fun j => some (H.size + 1 + j)))))))]) H1 := hP0.app (fun k9 x hx => by
    have h0 : k9 < 1 := (List.getElem?_eq_some_iff.mp hx).1
    rw [show k9 = 0 by omega] at hx
    cases hx
    show H1[H.size]? = some (vp_cell _ _)
    rw [vp_cell_q, g5]
    unfold mu_out arrV
    congr 3
    funext j
    show va_rf (if j.1 < N then some (H.size + 1 + j.1) else none) = _
    rw [if_pos j.isLt])
  have hPb := hPa.app (w2 := (List.range N).map (fun j => ((H.size + 1 + j, .inl (c1, K, .inl (fun _ => 0))) : Nat × va_E))) (fun k9 x hx => by
    obtain ⟨j, hj, rfl⟩ := List.mem_map.mp (List.mem_of_getElem? hx)
    exact g7 j (List.mem_range.mp hj))
  refine kk H.size (fun j => H.size + 1 + j) H1 (locs ++ L) ls hPb ?_ ?_ hl
  · have hDa := hD.push (e := .inl (cA, N, .inr (.inr (.inr (.inr (fun j => some (H.size + 1 + j))))))) hP rfl (C.2.2.2.2.2.2 _ hS.1)
    refine hDa.app ⟨fun i j x y hi hj hxy => ?_, fun k9 x hx => ?_⟩ (fun i j x y hi hj hxy => ?_)
    · obtain ⟨-, rfl⟩ := mu_nth hi
      obtain ⟨-, rfl⟩ := mu_nth hj
      have : H.size + 1 + i = H.size + 1 + j := hxy
      omega
    · obtain ⟨j, hj, rfl⟩ := List.mem_map.mp (List.mem_of_getElem? hx)
      exact C.2.2.2.2.2.2 _ (by have := hS.1; show (x_s X).heap.size ≤ H.size + 1 + j; omega)
    · obtain ⟨j9, hj9, rfl⟩ := List.mem_map.mp (List.mem_of_getElem? hj)
      have hxy' : x.1 = H.size + 1 + j9 := hxy
      by_cases hl9 : i < ws.length
      · rw [List.getElem?_append_left hl9] at hi
        have := (hP i x hi).lt
        omega
      · rw [List.getElem?_append_right (by omega)] at hi
        have h0 : i - ws.length < 1 := (List.getElem?_eq_some_iff.mp hi).1
        rw [show i - ws.length = 0 by omega] at hi
        cases hi
        have : H.size = H.size + 1 + j9 := hxy'
        omega
  · refine ⟨by rw [g4]; have := hS.1; omega, fun x h1 h2 => (g6 x (Nat.lt_of_lt_of_le h1 hS.1)).trans (hS.2.1 x h1 h2), fun q hq => ?_⟩
    rcases List.mem_append.mp hq with h | h
    · exact hS.2.2 q h
    · rw [g3 q h]
      exact C.2.2.2.2.2.2 _ hS.1
end QI3

/-- a contract out of its walk, also of a class whose name isn't plain but whose method has no row among the natives -/
theorem qCon.mkF {S : qS} {G : qG} {l : Launch} {y : MethodName} {cc : ByteArray} {nl : Nat} {ret : Option FieldType} {d : Nat} {av : List Value} {σ : qM} {r : Option Value} {σ' : qM} {lv : List (Nat × Value)} (hy : plainFor y = true) (hn : (lg_sl av).length ≤ nl) (hlv : lv_args 0 av = lv)
    (h : ∀ X : qX, x_l X = l → qC S X G y.cls cc nl d ret → qY S X G nl (q_Q S X G r σ') σ 0 lv []) : qCon S G l y cc nl ret d av σ r σ' := by
  unfold qCon Met
  refine MetFree.of_bodySF (code := cc) (maxLocals := nl) (ret := ret) hy ?_ ?_
  · intro args s m h hn
    obtain ⟨meth, c, h1, h2, h3, h4, h5, h6, -, -⟩ := Cond.code_spec hn (atoms_spec (ws := Cond.code y cc nl ret :: gw) h _ List.mem_cons_self)
    exact ⟨meth, c, h1, h2, h3, h4, h5, h6⟩
  · intro p e s m args below meth c s₁ B hml hv _
    have hh0 : s₁.heap = s.heap := by rw [B.state]; rfl
    obtain ⟨rfl, hP, hK, hI, hT⟩ := hv
    have hts := atoms_spec (ws := Cond.code y cc nl ret :: gw) B.pre
    have hl := lv_entry av (n := nl) hn
    subst hlv
    have hw : W p l e (headSpec (Cond.code y cc nl ret :: gw) (q_Rm d)).room s m av.toArray below meth c s.heap [] 0 0 (MQ below (q_Qc S G r σ') av.toArray s 0 0 (q_A S G)) (entryFrame m av.toArray nl) := by
      rw [lg_entry_eq]
      exact h (p, l, e, q_Rm d, s, m, av.toArray, below, meth, c) rfl ⟨B.exec, B.bytes, hml, findClass_of_methodNamed B.named, fun w hw => hts w (List.mem_cons_of_mem _ hw), hK, hI, rfl, hT, B.returns, B.notSynchronized⟩ s.heap [] _ hP va_S.rf hl
    obtain ⟨t, a1, o, b1, b2, b3⟩ := hw s₁ hh0 (Stand.of_body B)
    exact ⟨t, o, a1, b1, b2, ⟨b3.1, b3.2⟩⟩
theorem pf_abs : plainFor yJ9_abs_0f7a4 = true := by decide +kernel
theorem pf_max : plainFor yJ9_max_7cf53 = true := by decide +kernel
theorem pf_min : plainFor yJ9_min_7cf53 = true := by decide +kernel

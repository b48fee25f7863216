/-- as Met.ofW, for a method of a class that has natives of its own, but none for this method -/
theorem met_ofWF {l : Launch} {y : MethodName} {ws ws' : List Cond} {rm : Room} {Pc : Array Value → State → Prop} {Qc : Array Value → State → Outcome → State → Prop} {mc ms : Nat} {free : Addr → Prop} {cc : ByteArray} {maxL : Nat} {ret : Option FieldType}
    (hy : plainFor y = true) (hw : ws = Cond.code y cc maxL ret :: ws')
    (body : ∀ p e s m args below meth c s₁, BodyLoose p l y (headSpec ws rm) cc maxL ret e s m args below meth c s₁ → c.maxLocals = maxL → Pc args s →
      W p l e (headSpec ws rm).room s m args below meth c s.heap [] 0 0 (MQ below Qc args s mc ms free) (entryFrame m args maxL)) : Met l y ws rm Pc Qc mc ms free := by
  refine MetFree.of_bodySF (code := cc) (maxLocals := maxL) (ret := ret) hy ?_ ?_
  · intro args s m h hn
    obtain ⟨meth, c, h1, h2, h3, h4, h5, h6, -, -⟩ := Cond.code_spec hn (atoms_spec (ws := ws) h _ (by rw [hw]; exact List.mem_cons_self))
    exact ⟨meth, c, h1, h2, h3, h4, h5, h6⟩
  · intro p e s m args below meth c s₁ B hml hP _
    have hh0 : s₁.heap = s.heap := by rw [B.state]; rfl
    obtain ⟨t, a1, o, b1, b2, b3⟩ := body p e s m args below meth c s₁ B hml hP s₁ hh0 (Stand.of_body B)
    exact ⟨t, o, a1, b1, b2, ⟨b3.1, b3.2⟩⟩
set_option maxHeartbeats 4000000 in
theorem go_enterF {τ : Type} {w : Wd} {y : MethodName} {mi : Mi} {av : List Value} {φ : τ → Option Value × G} {g : G} {o : Option τ} (hy : plainFor y = true) (hc : y.cls = mi.1) (hn : (lg_sl av).length ≤ mi.2.2.1) {lv : List (Nat × Value)} (hlv : lv_args 0 av = lv)
    (k : Go w mi φ g 0 lv [] o) : Ct w y mi av φ g o := by
  intro t ho l
  refine met_ofWF (cc := mi.2.1) (maxL := mi.2.2.1) (ret := mi.2.2.2.2) hy rfl ?_
  intro p e s m args below meth c s₁ B hml hv
  obtain ⟨rfl, hP, hK, hD, hX⟩ := hv
  have hts := atoms_spec (ws := .code y mi.2.1 mi.2.2.1 mi.2.2.2.2 :: Wt) B.pre
  have hown : s.vm.findClass mi.1 = some m.cls := hc ▸ findClass_of_methodNamed B.named
  have hl := lv_entry av (n := mi.2.2.1) hn
  rw [hlv] at hl
  rw [lg_entry_eq]
  exact k t ho p l e s m _ below meth c s.heap [] ⟨B.exec, B.bytes, B.returns, hml, hown, fun z hz => hts z (List.mem_cons_of_mem _ hz), B.notSynchronized, hK, hX⟩ hP hD va_S.rf _ hl

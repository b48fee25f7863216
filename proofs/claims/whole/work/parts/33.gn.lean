/-! constructors: the cells from β on, in the order in which they are made -/
def wsF : Nat → List va_E → va_W
  | _, [] => []
  | b, c :: t => (b, c) :: wsF (b + 1) t
theorem wsF_at : ∀ (t : List va_E) (b k : Nat), (wsF b t)[k]? = (t[k]?).map (fun c => (b + k, c))
  | [], b, k => by simp [wsF]
  | c :: t, b, 0 => by simp [wsF]
  | c :: t, b, k + 1 => by
    have h := wsF_at t (b + 1) k
    simp only [wsF, List.getElem?_cons_succ]
    rw [h]
    have e : b + 1 + k = b + (k + 1) := by omega
    rw [e]
theorem wsF_set : ∀ (t : List va_E) (b k : Nat) (c : va_E), (wsF b t).set k (b + k, c) = wsF b (t.set k c)
  | [], b, k, c => by simp [wsF]
  | c0 :: t, b, 0, c => by simp [wsF]
  | c0 :: t, b, k + 1, c => by
    have h := wsF_set t (b + 1) k c
    have e : b + 1 + k = b + (k + 1) := by omega
    rw [e] at h
    simp only [wsF, List.set_cons_succ]
    rw [h]
theorem wsF_app : ∀ (t u : List va_E) (b : Nat), wsF b (t ++ u) = wsF b t ++ wsF (b + t.length) u
  | [], u, b => by simp [wsF]
  | c :: t, u, b => by
    have h := wsF_app t u (b + 1)
    have e : b + 1 + t.length = b + (t.length + 1) := by omega
    simp only [wsF, List.cons_append, List.length_cons]
    rw [h, e]
theorem wsF_D (b : Nat) (t : List va_E) : va_D (fun q => b ≤ q) (wsF b t) := by
  have key : ∀ (i : Nat) (p : Nat × va_E), (wsF b t)[i]? = some p → p.1 = b + i := by
    intro i p hp
    rw [wsF_at] at hp
    cases hc : t[i]? with
    | none => rw [hc] at hp; cases hp
    | some c => rw [hc] at hp; cases hp; rfl
  refine ⟨fun i j p q hp hq e => ?_, fun k q hk => ?_⟩
  · have h1 := key i p hp
    have h2 := key j q hq
    omega
  · have h1 := key k q hk
    show b ≤ q.1
    omega
abbrev Zt : Type := (ClassId × ClassId × ClassId) × va_G
abbrev zty (Z : Zt) : List (ClassId × FieldType) := [(Z.1.1, .int), (Z.1.2.1, .float), (Z.1.2.2, .object "OrbitDesk$Fleet")]
def nX (U : State) : Prop := (∀ z ∈ nestA, va_Nw (.methodLinkNest z.1 z.2.1 z.2.2.1 z.2.2.2) U) ∧ va_AO "OrbitDesk$Fleet" U
theorem nX_warm {s U : State} (hW : s.WarmedH U.vm) (h : nX s) : nX U := ⟨fun z hz => va_Nw.warmM hW (h.1 z hz), h.2.moved hW.alike⟩
theorem nX_same {U V : State} (hv : V.vm = U.vm) (h : nX U) : nX V := ⟨fun z hz => va_Nw.same rfl hv.symm (h.1 z hz), h.2.moved (by rw [hv]; exact Vm.Alike.refl U.vm)⟩
def nQ (Z : Zt) (β : Nat) (t' : List va_E) : Array Value → State → Outcome → State → Prop := fun _ st o u =>
  o = .returned none ∧ va_P Z.2 vwCl (wsF β t') u.heap ∧ va_K Z.2 vwCl (zty Z) u ∧ va_F (fun q => β ≤ q) st u
def nC (Z : Zt) (mi : Mi) (p : Program) (s : State) (m : MethodId) (args : Array Value) (meth : Method) (c : Code) : Prop :=
  p.tables.exec = Jvm.exec ∧ c.code = mi.2.1 ∧ meth.sig.returnType = none ∧ c.maxLocals = mi.2.2.1 ∧ s.vm.findClass mi.1 = some m.cls ∧ (∀ z ∈ Wt, z.before args s = true) ∧ meth.locks = false ∧ va_K Z.2 vwCl (zty Z) s ∧ nX s ∧ meth.name = "<init>"
def Gn (Z : Zt) (mi : Mi) (β : Nat) (t : List va_E) (pc : Nat) (lv : List (Nat × Value)) (st : List Value) (kc ks : Nat) (t' : List va_E) : Prop :=
  ∀ (p : Program) (l : Launch) (e : Env) (s : State) (m : MethodId) (args : Array Value) (below : List Frame) (meth : Method) (c : Code) (H : Heap) (locs : List Loc),
    nC Z mi p s m args meth c → va_P Z.2 vwCl (wsF β t) H → s.heap.size + kc = β + t.length → β < s.heap.size → va_S (fun q => β ≤ q) s.heap H locs → ∀ ls : Array Slot, lv_has ls mi.2.2.1 lv →
    W p l e mi.2.2.2.1 s m args below meth c H locs kc ks (MQ below (nQ Z β t') args s mi.2.2.2.1.cells mi.2.2.2.1.slots (fun q => β ≤ q)) (F0 m pc ls st)
def CtN (Z : Zt) (y : MethodName) (mi : Mi) (av : List Value) (β : Nat) (x : va_E) (t' : List va_E) : Prop :=
  ∀ l : Launch, Met l y (.code y mi.2.1 mi.2.2.1 none :: Wt) mi.2.2.2.1 (va_Pc (.ref β :: av) (fun U => va_P Z.2 vwCl (wsF β [x]) U.heap ∧ U.heap.size = β + 1 ∧ va_K Z.2 vwCl (zty Z) U ∧ nX U)) (nQ Z β t') mi.2.2.2.1.cells mi.2.2.2.1.slots (fun q => β ≤ q)
set_option maxHeartbeats 4000000 in
theorem gn_enter {Z : Zt} {y : MethodName} {mi : Mi} {av : List Value} {β : Nat} {x : va_E} {t' : List va_E} (hy : plainName y.cls = true) (hc : y.cls = mi.1) (hyn : y.name = "<init>") (hn : (lg_sl (.ref β :: av)).length ≤ mi.2.2.1) {lv : List (Nat × Value)} (hlv : lv_args 0 (.ref β :: av) = lv)
    (k : Gn Z mi β [x] 0 lv [] 0 0 t') : CtN Z y mi av β x t' := by
  intro l
  refine Met.ofW (cc := mi.2.1) (maxL := mi.2.2.1) (ret := none) hy rfl ?_
  intro p e s m args below meth c s₁ B hml hv
  obtain ⟨rfl, hP, hz, hK, hX⟩ := hv
  have hts := atoms_spec (ws := .code y mi.2.1 mi.2.2.1 none :: Wt) B.pre
  have hown : s.vm.findClass mi.1 = some m.cls := hc ▸ findClass_of_methodNamed B.named
  have hl := lv_entry (.ref β :: av) (n := mi.2.2.1) hn
  rw [hlv] at hl
  rw [lg_entry_eq]
  exact k p l e s m _ below meth c s.heap [] ⟨B.exec, B.bytes, B.returns, hml, hown, fun z hz => hts z (List.mem_cons_of_mem _ hz), B.notSynchronized, hK, hX, (name_of_methodNamed B.named B.method).1.trans hyn⟩ hP (by rw [hz]; rfl) (by omega) va_S.rf _ hl
/-- a class of the world, made by 'new' -/
def NwC (own : String) (index ci : Nat) (C : String) (T : u_T) (N : Nat) (fs : List Value) : Prop := vwCl[ci]? = some (C, T, N) ∧ (∀ z ∈ u_ws C T N, z ∈ Wt) ∧ (Cond.classLink own index C ∈ Wt ∧ Cond.instantiable C N ∈ Wt ∧ Cond.initialized C ∈ Wt) ∧ ∃ ty : Nat → FieldType, (∀ k, k < N → parseFieldDescriptor (T k).2.2.1 = some (ty k)) ∧ ∀ j, j < N → defaultValue (ty j) = vp_V fs j
theorem obj_w : Cond.instanceMethod objectInit ∈ Wt ∧ Cond.code objectInit ⟨#[0xb1]⟩ 1 none ∈ Wt := ⟨Wt_of (by decide +kernel) (by decide +kernel), Wt_of (by decide +kernel) (by decide +kernel)⟩
theorem ari_w : Cond.arrayClass .int ∈ Wt := Wt_of (by decide +kernel) (by decide +kernel)
theorem arf_w : Cond.arrayClass .float ∈ Wt := Wt_of (by decide +kernel) (by decide +kernel)
section GNR
variable {Z : Zt} {mi : Mi} {β : Nat} {t t' : List va_E} {lv : List (Nat × Value)} {st : List Value} {kc ks : Nat} {tb : List (Nat × ClassFile.Instr × Nat)} {pc q : Nat}
theorem gn_aload_n {j : Fin 4} {x : Nat} (T : AllDec mi.2.1 tb) (i : Nat) (h : tb[i]? = some (pc, .aload_n j, 1)) (hq : pc + 1 = q) (d : Nat) (hj : lv[d]? = some (j.val, .ref x)) (k : Gn Z mi β t q lv (.ref x :: st) kc ks t') : Gn Z mi β t pc lv (st) kc ks t' := by
  intro p l e s m args below meth c H locs C hP hz hb hS ls hl
  subst hq
  exact lv_aload_n C.1 C.2.1 (T.at h) rfl (lv_at hl d hj) (k p l e s m args below meth c H locs C hP hz hb hS ls hl)
theorem gn_iload_n {j : Fin 4} {x : Int32} (T : AllDec mi.2.1 tb) (i : Nat) (h : tb[i]? = some (pc, .iload_n j, 1)) (hq : pc + 1 = q) (d : Nat) (hj : lv[d]? = some (j.val, .int x)) (k : Gn Z mi β t q lv (.int x :: st) kc ks t') : Gn Z mi β t pc lv (st) kc ks t' := by
  intro p l e s m args below meth c H locs C hP hz hb hS ls hl
  subst hq
  exact lv_iload_n C.1 C.2.1 (T.at h) rfl (lv_at hl d hj) (k p l e s m args below meth c H locs C hP hz hb hS ls hl)
theorem gn_iconst {n : Int} {v : Int32} (T : AllDec mi.2.1 tb) (i : Nat) (h : tb[i]? = some (pc, .iconst n, 1)) (hq : pc + 1 = q) (hv : Int32.ofInt n = v) (k : Gn Z mi β t q lv (.int v :: st) kc ks t') : Gn Z mi β t pc lv (st) kc ks t' := by
  intro p l e s m args below meth c H locs C hP hz hb hS ls hl
  subst hq
  exact lv_iconst C.1 C.2.1 (T.at h) hv (k p l e s m args below meth c H locs C hP hz hb hS ls hl)
theorem gn_bipush {n : Int} {v : Int32} (T : AllDec mi.2.1 tb) (i : Nat) (h : tb[i]? = some (pc, .bipush n, 2)) (hq : pc + 2 = q) (hv : (Int8.ofInt n).toInt32 = v) (k : Gn Z mi β t q lv (.int v :: st) kc ks t') : Gn Z mi β t pc lv (st) kc ks t' := by
  intro p l e s m args below meth c H locs C hP hz hb hS ls hl
  subst hq
  exact lv_bipush C.1 C.2.1 (T.at h) hv (k p l e s m args below meth c H locs C hP hz hb hS ls hl)
theorem gn_sipush {n : Int} {v : Int32} (T : AllDec mi.2.1 tb) (i : Nat) (h : tb[i]? = some (pc, .sipush n, 3)) (hq : pc + 3 = q) (hv : (Int16.ofInt n).toInt32 = v) (k : Gn Z mi β t q lv (.int v :: st) kc ks t') : Gn Z mi β t pc lv (st) kc ks t' := by
  intro p l e s m args below meth c H locs C hP hz hb hS ls hl
  subst hq
  exact lv_sipush C.1 C.2.1 (T.at h) hv (k p l e s m args below meth c H locs C hP hz hb hS ls hl)
theorem gn_lconst {n : Fin 2} {v : Int64} (T : AllDec mi.2.1 tb) (i : Nat) (h : tb[i]? = some (pc, .lconst n, 1)) (hq : pc + 1 = q) (hv : Int64.ofNat (n : Nat) = v) (k : Gn Z mi β t q lv (.long v :: st) kc ks t') : Gn Z mi β t pc lv (st) kc ks t' := by
  intro p l e s m args below meth c H locs C hP hz hb hS ls hl
  subst hq
  exact lv_lconst C.1 C.2.1 (T.at h) hv (k p l e s m args below meth c H locs C hP hz hb hS ls hl)
theorem gn_fconst0  (T : AllDec mi.2.1 tb) (i : Nat) (h : tb[i]? = some (pc, .fconst 0, 1)) (hq : pc + 1 = q)  (k : Gn Z mi β t q lv (.float FP.fconst0 :: st) kc ks t') : Gn Z mi β t pc lv (st) kc ks t' := by
  intro p l e s m args below meth c H locs C hP hz hb hS ls hl
  subst hq
  exact lv_fconst0 C.1 C.2.1 (T.at h)  (k p l e s m args below meth c H locs C hP hz hb hS ls hl)
theorem gn_dup {va : Value} (T : AllDec mi.2.1 tb) (i : Nat) (h : tb[i]? = some (pc, .dup, 1)) (hq : pc + 1 = q) (hva : va.category = 1) (k : Gn Z mi β t q lv (va :: va :: st) kc ks t') : Gn Z mi β t pc lv (va :: st) kc ks t' := by
  intro p l e s m args below meth c H locs C hP hz hb hS ls hl
  subst hq
  exact lv_dup C.1 C.2.1 (T.at h) hva (k p l e s m args below meth c H locs C hP hz hb hS ls hl)
theorem gn_ldc {index : Nat} {v : Int32} (T : AllDec mi.2.1 tb) (i : Nat) (h : tb[i]? = some (pc, .ldc index, 2)) (hq : pc + 2 = q) (hc : Cond.constant mi.1 index v ∈ Wt) (k : Gn Z mi β t q lv (.int v :: st) kc ks t') : Gn Z mi β t pc lv st kc ks t' := by
  intro p l e s m args below meth c H locs C hP hz hb hS ls hl
  subst hq
  exact lv_ldc C.1 C.2.1 C.2.2.2.2.1 (C.2.2.2.2.2.1 _ hc) (T.at h) (k p l e s m args below meth c H locs C hP hz hb hS ls hl)
theorem gn_istore_n {j : Fin 4} {x : Int32} (lv' : List (Nat × Value)) (T : AllDec mi.2.1 tb) (i : Nat) (h : tb[i]? = some (pc, .istore_n j, 1)) (hq : pc + 1 = q) (hn : j.val < mi.2.2.1) (hlv : (j.val, Value.int x) :: lv.filter (fun q => !(q.1 == j.val) && !(q.1 + 1 == j.val && q.2.category == 2)) = lv') (k : Gn Z mi β t q lv' st kc ks t') : Gn Z mi β t pc lv (.int x :: st) kc ks t' := by
  intro p l e s m args below meth c H locs C hP hz hb hS ls hl
  subst hq
  exact lv_istore_n C.1 C.2.1 (T.at h) rfl hl hn hlv (fun ls' hl' => k p l e s m args below meth c H locs C hP hz hb hS ls' hl')
theorem gn_iinc {j : Nat} {n : Int} {x v : Int32} (lv' : List (Nat × Value)) (T : AllDec mi.2.1 tb) (i : Nat) (h : tb[i]? = some (pc, .iinc j n, 3)) (hq : pc + 3 = q) (d : Nat) (hj : lv[d]? = some (j, .int x)) (hv : x + Int32.ofInt n = v) (hn : j < mi.2.2.1) (hlv : (j, Value.int v) :: lv.filter (fun q => !(q.1 == j) && !(q.1 + 1 == j && q.2.category == 2)) = lv') (k : Gn Z mi β t q lv' st kc ks t') : Gn Z mi β t pc lv st kc ks t' := by
  intro p l e s m args below meth c H locs C hP hz hb hS ls hl
  subst hq
  exact lv_iinc C.1 C.2.1 (T.at h) hl hj hv hn hlv (fun ls' hl' => k p l e s m args below meth c H locs C hP hz hb hS ls' hl')
theorem gn_goto {off : Int} (T : AllDec mi.2.1 tb) (i : Nat) (h : tb[i]? = some (pc, .goto off, 3)) (ht : (pc : Int) + off = (q : Int)) (k : Gn Z mi β t q lv st kc ks t') : Gn Z mi β t pc lv st kc ks t' := by
  intro p l e s m args below meth c H locs C hP hz hb hS ls hl
  exact lv_goto C.1 C.2.1 (T.at h) ht (k p l e s m args below meth c H locs C hP hz hb hS ls hl)
theorem gn_ge_no {x y : Int32} {off : Int} {tgt : Nat} (T : AllDec mi.2.1 tb) (i : Nat) (h : tb[i]? = some (pc, .if_icmp .ge off, 3)) (ht : (pc : Int) + off = (tgt : Int)) (hq : pc + 3 = q) (hc : ¬ y ≤ x) (k : Gn Z mi β t q lv st kc ks t') : Gn Z mi β t pc lv (.int y :: .int x :: st) kc ks t' := by
  intro p l e s m args below meth c H locs C hP hz hb hS ls hl
  subst hq
  exact lv_icmp_ge C.1 C.2.1 (T.at h) ht (fun z => absurd z hc) (fun _ => (k p l e s m args below meth c H locs C hP hz hb hS ls hl))
theorem gn_ge_yes {x y : Int32} {off : Int} (T : AllDec mi.2.1 tb) (i : Nat) (h : tb[i]? = some (pc, .if_icmp .ge off, 3)) (ht : (pc : Int) + off = (q : Int)) (hc : y ≤ x) (k : Gn Z mi β t q lv st kc ks t') : Gn Z mi β t pc lv (.int y :: .int x :: st) kc ks t' := by
  intro p l e s m args below meth c H locs C hP hz hb hS ls hl
  exact lv_icmp_ge C.1 C.2.1 (T.at h) ht (fun _ => (k p l e s m args below meth c H locs C hP hz hb hS ls hl)) (fun z => absurd hc z)
theorem gn_obj {idx a : Nat} (T : AllDec mi.2.1 tb) (i : Nat) (h : tb[i]? = some (pc, .invokespecial idx, 3)) (hq : pc + 3 = q) (hk : Cond.methodLink mi.1 idx objectInit ∈ Wt) (hR : 1 ≤ mi.2.2.2.1.frames ∧ (st.map fun v => v.category).sum + 12 ≤ mi.2.2.2.1.locals) (k : Gn Z mi β t q lv st kc ks t') : Gn Z mi β t pc lv (.ref a :: st) kc ks t' := by
  intro p l e s m args below meth c H locs C hP hz hb hS ls hl
  subst hq
  have hts := C.2.2.2.2.2.1
  exact W.objInit C.1 C.2.1 C.2.2.2.2.1 (hts _ hk) (hts _ obj_w.1) (hts _ obj_w.2) rfl (hl.1.trans C.2.2.2.1.symm) rfl (T.at h) hR.1 (by show 2 * 0 + _ + 12 ≤ _; omega) (k p l e s m args below meth c H locs C hP hz hb hS ls hl)
theorem gn_get {index ci j n : Nat} {fs : List Value} {v : Value} (T : AllDec mi.2.1 tb) (i : Nat) (h : tb[i]? = some (pc, .getfield index, 3)) (hq : pc + 3 = q) (F : FlG mi.1 index ci j) (he : t[n]? = some (.inr (ci, fs))) (hv : fs[j]? = some v) (k : Gn Z mi β t q lv (v :: st) kc ks t') : Gn Z mi β t pc lv (.ref (β + n) :: st) kc ks t' := by
  intro p l e s m args below meth c H locs C hP hz hb hS ls hl
  subst hq
  obtain ⟨C0, T0, N0, f1, f2, f3, f4⟩ := F
  have hts := C.2.2.2.2.2.1
  exact va_get (D := Z.2) (C := C0) (T := T0) (N := N0) (ci := ci) C.1 C.2.1 hts f2 C.2.2.2.2.1 C.2.2.2.2.2.2.2.1 hP n (by rw [wsF_at, he]; rfl) f1 j f3 (hts _ f4) (fun _ h9 => h9) hv (T.at h) (k p l e s m args below meth c H locs C hP hz hb hS ls hl)
/-- a field of this class, put in its constructor: final or not -/
def FlN (own : String) (index ci j : Nat) (ty : FieldType) : Prop := ∃ (C : String) (T : u_T) (N : Nat), vwCl[ci]? = some (C, T, N) ∧ (∀ z ∈ u_ws C T N, z ∈ Wt) ∧ j < N ∧ Cond.fieldLink own index (T j).1 (T j).2.1 (T j).2.2.1 ∈ Wt ∧
  (∃ ty0 : Nat → FieldType, ∀ k, k < N → parseFieldDescriptor (T k).2.2.1 = some (ty0 k)) ∧ (∀ a, a < N → ∀ b, b < N → a ≠ b → (T a).2.1 ≠ (T b).2.1) ∧ ((T j).2.2.2 = false ∨ ((T j).2.2.2 = true ∧ (T j).1 = own)) ∧ parseFieldDescriptor (T j).2.2.1 = some ty
theorem gn_put {index ci j n : Nat} {fs : List Value} {v : Value} {ty : FieldType} (t2 : List va_E) (T : AllDec mi.2.1 tb) (i : Nat) (h : tb[i]? = some (pc, .putfield index, 3)) (hq : pc + 3 = q) (F : FlN mi.1 index ci j ty) (he : t[n]? = some (.inr (ci, fs))) (hn : narrow ty v = v) (hf : fits ty v = true) (hl0 : j < fs.length) (hset : t.set n (.inr (ci, fs.set j v)) = t2) (k : Gn Z mi β t2 q lv st kc ks t') : Gn Z mi β t pc lv (v :: .ref (β + n) :: st) kc ks t' := by
  intro p l e s m args below meth c H locs C hP hz hb hS ls hl
  subst hq
  obtain ⟨C0, T0, N0, f1, f2, f3, f4, ⟨ty0, f5⟩, f6, f7, f8⟩ := F
  have hts := C.2.2.2.2.2.1
  have he' : (wsF β t)[n]? = some (β + n, .inr (ci, fs)) := by rw [wsF_at, he]; rfl
  have go : ∀ (H1 : Heap) (locs1 : List Loc), va_P Z.2 vwCl ((wsF β t).set n (β + n, .inr (ci, fs.set j v))) H1 → va_D (fun q => β ≤ q) ((wsF β t).set n (β + n, .inr (ci, fs.set j v))) → va_S (fun q => β ≤ q) s.heap H1 locs1 → W p l e mi.2.2.2.1 s m args below meth c H1 locs1 kc ks (MQ below (nQ Z β t') args s mi.2.2.2.1.cells mi.2.2.2.1.slots (fun q => β ≤ q)) (F0 m (pc + 3) ls st) := by
    intro H1 locs1 hP1 _ hS1
    rw [wsF_set, hset] at hP1
    exact k p l e s m args below meth c H1 locs1 C hP1 (by rw [hz, ← hset, List.length_set]) hb hS1 ls hl
  rcases f7 with f7 | ⟨f7, f9⟩
  · exact va_put (D := Z.2) (C := C0) (T := T0) (N := N0) (ci := ci) C.1 C.2.1 hts f2 ty0 f5 f6 C.2.2.2.2.1 C.2.2.2.2.2.2.2.1 hP (wsF_D β t) hS n he' f1 j f3 (hts _ f4) (fun _ h9 => h9) f7 f8 hn hf hl0 (T.at h) go
  · exact va_putF (D := Z.2) (C := C0) (T := T0) (N := N0) (ci := ci) C.1 C.2.1 hts f2 ty0 f5 f6 C.2.2.2.2.1 C.2.2.2.2.2.2.2.1 hP (wsF_D β t) hS n he' f1 j f3 (hts _ f4) (fun _ h9 => h9) f7 C.2.2.2.2.2.2.2.2.2 f9 f8 hn hf hl0 (T.at h) go
theorem gn_iast {n len : Nat} {f : Nat → Int32} {x v : Int32} (t2 : List va_E) (T : AllDec mi.2.1 tb) (i : Nat) (h : tb[i]? = some (pc, .iastore, 1)) (hq : pc + 1 = q) (he : t[n]? = some (.inl (Z.1.1, len, .inl f))) (hin : vp_in x len) (hset : t.set n (.inl (Z.1.1, len, .inl (upd f x.toNatClampNeg v))) = t2) (k : Gn Z mi β t2 q lv st kc ks t') : Gn Z mi β t pc lv (.int v :: .int x :: .ref (β + n) :: st) kc ks t' := by
  intro p l e s m args below meth c H locs C hP hz hb hS ls hl
  subst hq
  have he' : (wsF β t)[n]? = some (β + n, .inl (Z.1.1, len, .inl f)) := by rw [wsF_at, he]; rfl
  refine va_iast C.1 C.2.1 C.2.2.2.2.2.2.2.1 hP (wsF_D β t) hS n 0 he' rfl hin (T.at h) (fun H1 locs1 hP1 _ hS1 => ?_)
  rw [wsF_set, hset] at hP1
  exact k p l e s m args below meth c H1 locs1 C hP1 (by rw [hz, ← hset, List.length_set]) hb hS1 ls hl
theorem gn_aast {n n2 len ci : Nat} {f : Nat → Option Nat} {x : Int32} {vs : List Value} {TT : u_T} {N : Nat} (t2 : List va_E) (T : AllDec mi.2.1 tb) (i : Nat) (h : tb[i]? = some (pc, .aastore, 1)) (hq : pc + 1 = q) (he : t[n]? = some (.inl (Z.1.2.2, len, .inr (.inr (.inr (.inr f)))))) (he2 : t[n2]? = some (.inr (ci, vs))) (hc : vwCl[ci]? = some ("OrbitDesk$Fleet", TT, N)) (hin : vp_in x len) (hset : t.set n (.inl (Z.1.2.2, len, .inr (.inr (.inr (.inr (va_up f x.toNatClampNeg (some (β + n2)))))))) = t2) (k : Gn Z mi β t2 q lv st kc ks t') : Gn Z mi β t pc lv (.ref (β + n2) :: .int x :: .ref (β + n) :: st) kc ks t' := by
  intro p l e s m args below meth c H locs C hP hz hb hS ls hl
  subst hq
  have he' : (wsF β t)[n]? = some (β + n, .inl (Z.1.2.2, len, .inr (.inr (.inr (.inr f))))) := by rw [wsF_at, he]; rfl
  have he2' : (wsF β t)[n2]? = some (β + n2, .inr (ci, vs)) := by rw [wsF_at, he2]; rfl
  refine va_astq (r := ("OrbitDesk$Fleet", TT, N)) C.1 C.2.1 C.2.2.2.2.2.2.2.1 hP (wsF_D β t) hS n 2 n2 ci he' rfl he2' hc hin (T.at h) (fun H1 locs1 hP1 _ hS1 => ?_)
  rw [wsF_set, hset] at hP1
  exact k p l e s m args below meth c H1 locs1 C hP1 (by rw [hz, ← hset, List.length_set]) hb hS1 ls hl
/-- a new cell's address is the next one -/
theorem gn_next {s T0 : State} {H1 : Heap} {locs : List Loc} {p : Program} {l : Launch} {e : Env} {R : Room} {m : MethodId} {args : Array Value} {below : List Frame} {meth : Method} {c : Code} {a n kc2 : Nat} {x : va_E} (X : Stand p l e R s m args below meth c T0 locs kc2 n) (hT : T0.heap = H1) (hP : va_P Z.2 vwCl (wsF β t ++ [(a, x)]) H1) (hD : va_D (fun q => β ≤ q) (wsF β t ++ [(a, x)])) (hz : s.heap.size + kc2 = β + t.length + 1) : a = β + t.length := by
  have h1 : T0.heap.size ≤ s.heap.size + kc2 := X.same.2.2.1
  have hl0 : (wsF β t).length = t.length := by
    have : ∀ (t : List va_E) (b : Nat), (wsF b t).length = t.length := by
      intro t
      induction t with
      | nil => intro b; rfl
      | cons c t ih => intro b; simp [wsF, ih]
    exact this t β
  have hx : (wsF β t ++ [(a, x)])[t.length]? = some (a, x) := by rw [List.getElem?_append_right (by omega), hl0]; simp
  have h2 : a < H1.size := (hP _ _ hx).lt
  have h3 : β ≤ a := hD.2 _ _ hx
  rw [← hT] at h2
  by_cases h4 : a < β + t.length
  · exfalso
    have hlt : a - β < t.length := by omega
    obtain ⟨c0, hc0⟩ : ∃ c0, t[a - β]? = some c0 := ⟨_, List.getElem?_eq_getElem hlt⟩
    have hy : (wsF β t ++ [(a, x)])[a - β]? = some (β + (a - β), c0) := by rw [List.getElem?_append_left (by omega), wsF_at, hc0]; rfl
    have h5 := hD.1 _ _ _ _ hy hx (by show β + (a - β) = a; omega)
    omega
  · omega
theorem gn_new {index ci N : Nat} {C1 : String} {TT : u_T} {fs : List Value} (n : Nat) (T : AllDec mi.2.1 tb) (i : Nat) (h : tb[i]? = some (pc, .new index, 3)) (hq : pc + 3 = q) (F : NwC mi.1 index ci C1 TT N fs) (hn : t.length = n) (hR : kc + 1 ≤ mi.2.2.2.1.cells ∧ ks + N ≤ mi.2.2.2.1.slots) (k : Gn Z mi β (t ++ [.inr (ci, fs)]) q lv (.ref (β + n) :: st) (kc + 1) (ks + N) t') : Gn Z mi β t pc lv st kc ks t' := by
  intro p l e s m args below meth c H locs C hP hz hb hS ls hl
  subst hq
  obtain ⟨f1, f2, f3, ⟨ty0, f4, f5⟩⟩ := F
  have hts := C.2.2.2.2.2.1
  refine va_new (D := Z.2) C.1 C.2.1 hts f2 ty0 f4 C.2.2.2.2.1 (hts _ f3.1) (hts _ f3.2.1) (hts _ f3.2.2) C.2.2.2.2.2.2.2.1 hP (wsF_D β t) hS (fun q hq => by show β ≤ q; omega) f1 f5 hR.1 hR.2 (T.at h) (fun a H1 hP1 hD1 hS1 => ?_)
  intro T0 hT X
  have ea : a = β + t.length := gn_next X hT hP1 hD1 (by omega)
  subst ea
  subst hn
  have hP2 : va_P Z.2 vwCl (wsF β (t ++ [.inr (ci, fs)])) H1 := by rw [wsF_app]; exact hP1
  exact k p l e s m args below meth c H1 locs C hP2 (by rw [List.length_append]; simp; omega) hb hS1 ls hl T0 hT X
theorem gn_newa {N : Nat} {x : Int32} (n : Nat) (T : AllDec mi.2.1 tb) (i : Nat) (h : tb[i]? = some (pc, .newarray .int, 2)) (hq : pc + 2 = q) (hx : ¬ x < 0 ∧ x.toNatClampNeg = N ∧ N * componentBytes .int ≤ 536870912) (hn : t.length = n) (hR : kc + 1 ≤ mi.2.2.2.1.cells ∧ ks + N ≤ mi.2.2.2.1.slots) (k : Gn Z mi β (t ++ [.inl (Z.1.1, N, .inl (fun _ => 0))]) q lv (.ref (β + n) :: st) (kc + 1) (ks + N) t') : Gn Z mi β t pc lv (.int x :: st) kc ks t' := by
  intro p l e s m args below meth c H locs C hP hz hb hS ls hl
  subst hq
  have hts := C.2.2.2.2.2.1
  have hK := C.2.2.2.2.2.2.2.1
  refine va_newa (D := Z.2) (atype := .int) (ty := .int) (a0 := (N, .inl (fun _ => 0))) C.1 C.2.1 (hts _ ari_w) rfl hK hP (wsF_D β t) hS (fun q hq => by show β ≤ q; omega) (fun cA => rfl) hx.1 hx.2.1 hx.2.2 hR.1 hR.2 (T.at h) (fun a cA H1 hK1 hP1 hD1 hS1 => ?_)
  intro T0 hT X
  have ea : a = β + t.length := gn_next X hT hP1 hD1 (by omega)
  subst ea
  subst hn
  have ec : cA = Z.1.1 := Option.some.inj ((hK1.2 3 (cA, .int) rfl).2.symm.trans (hK.2 0 (Z.1.1, .int) rfl).2)
  subst ec
  have hP2 : va_P Z.2 vwCl (wsF β (t ++ [.inl (Z.1.1, N, .inl (fun _ => 0))])) H1 := by rw [wsF_app]; exact hP1
  exact k p l e s m args below meth c H1 locs C hP2 (by rw [List.length_append]; simp; omega) hb hS1 ls hl T0 hT X
theorem gn_newf {N : Nat} {x : Int32} (n : Nat) (T : AllDec mi.2.1 tb) (i : Nat) (h : tb[i]? = some (pc, .newarray .float, 2)) (hq : pc + 2 = q) (hx : ¬ x < 0 ∧ x.toNatClampNeg = N ∧ N * componentBytes .float ≤ 536870912) (hn : t.length = n) (hR : kc + 1 ≤ mi.2.2.2.1.cells ∧ ks + N ≤ mi.2.2.2.1.slots) (k : Gn Z mi β (t ++ [.inl (Z.1.2.1, N, .inr (.inr (.inl (fun _ => 0))))]) q lv (.ref (β + n) :: st) (kc + 1) (ks + N) t') : Gn Z mi β t pc lv (.int x :: st) kc ks t' := by
  intro p l e s m args below meth c H locs C hP hz hb hS ls hl
  subst hq
  have hts := C.2.2.2.2.2.1
  have hK := C.2.2.2.2.2.2.2.1
  refine va_newa (D := Z.2) (atype := .float) (ty := .float) (a0 := (N, .inr (.inr (.inl (fun _ => 0))))) C.1 C.2.1 (hts _ arf_w) rfl hK hP (wsF_D β t) hS (fun q hq => by show β ≤ q; omega) (fun cA => rfl) hx.1 hx.2.1 hx.2.2 hR.1 hR.2 (T.at h) (fun a cA H1 hK1 hP1 hD1 hS1 => ?_)
  intro T0 hT X
  have ea : a = β + t.length := gn_next X hT hP1 hD1 (by omega)
  subst ea
  subst hn
  have ec : cA = Z.1.2.1 := Option.some.inj ((hK1.2 3 (cA, .float) rfl).2.symm.trans (hK.2 1 (Z.1.2.1, .float) rfl).2)
  subst ec
  have hP2 : va_P Z.2 vwCl (wsF β (t ++ [.inl (Z.1.2.1, N, .inr (.inr (.inl (fun _ => 0))))])) H1 := by rw [wsF_app]; exact hP1
  exact k p l e s m args below meth c H1 locs C hP2 (by rw [List.length_append]; simp; omega) hb hS1 ls hl T0 hT X
theorem gn_anew {N index : Nat} {x : Int32} (n : Nat) (T : AllDec mi.2.1 tb) (i : Nat) (h : tb[i]? = some (pc, .anewarray index, 3)) (hq : pc + 3 = q) (hk : Cond.classLink mi.1 index "OrbitDesk$Fleet" ∈ Wt) (hx : ¬ x < 0 ∧ x.toNatClampNeg = N ∧ N * 4 ≤ 536870912) (hn : t.length = n) (hR : kc + 1 ≤ mi.2.2.2.1.cells ∧ ks + N ≤ mi.2.2.2.1.slots) (k : Gn Z mi β (t ++ [.inl (Z.1.2.2, N, .inr (.inr (.inr (.inr (fun _ => none)))))]) q lv (.ref (β + n) :: st) (kc + 1) (ks + N) t') : Gn Z mi β t pc lv (.int x :: st) kc ks t' := by
  intro p l e s m args below meth c H locs C hP hz hb hS ls hl
  subst hq
  have hts := C.2.2.2.2.2.1
  have hK := C.2.2.2.2.2.2.2.1
  refine va_newq (D := Z.2) (C := "OrbitDesk$Fleet") C.1 C.2.1 C.2.2.2.2.1 (hts _ hk) C.2.2.2.2.2.2.2.2.1.2 hK hP (wsF_D β t) hS (fun q hq => by show β ≤ q; omega) hx.1 hx.2.1 hx.2.2 hR.1 hR.2 (T.at h) (fun a cA H1 hK1 hP1 hD1 hS1 => ?_)
  intro T0 hT X
  have ea : a = β + t.length := gn_next X hT hP1 hD1 (by omega)
  subst ea
  subst hn
  have ec : cA = Z.1.2.2 := by
    obtain ⟨_, _, _, _, _, g1⟩ := (hK1.2 3 (cA, .object "OrbitDesk$Fleet") rfl).2
    obtain ⟨_, _, _, _, _, g2⟩ := (hK.2 2 (Z.1.2.2, .object "OrbitDesk$Fleet") rfl).2
    exact Option.some.inj (g1.symm.trans g2)
  subst ec
  have hP2 : va_P Z.2 vwCl (wsF β (t ++ [.inl (Z.1.2.2, N, .inr (.inr (.inr (.inr (fun _ => none)))))])) H1 := by rw [wsF_app]; exact hP1
  exact k p l e s m args below meth c H1 locs C hP2 (by rw [List.length_append]; simp; omega) hb hS1 ls hl T0 hT X
theorem gn_ret (T : AllDec mi.2.1 tb) (i : Nat) (h : tb[i]? = some (pc, .return_, 1)) (hk : kc = mi.2.2.2.1.cells ∧ ks = mi.2.2.2.1.slots) : Gn Z mi β t pc lv [] kc ks t := by
  intro p l e s m args below meth c H locs C hP hz hb hS ls hl
  obtain ⟨e1, e2⟩ := hk
  subst e1
  subst e2
  have hlocks : meth.locks = false := C.2.2.2.2.2.2.1
  exact W.vret C.1 C.2.1 C.2.2.1 (fun u hu hW => ⟨rfl, by rw [hu]; exact hP, va_K.moved hW.alike C.2.2.2.2.2.2.2.1, hS.F hu⟩) hS.2.2 (T.at h)
set_option maxHeartbeats 4000000 in
/-- a constructor inside: its object is the last cell; what it makes comes behind -/
theorem gn_call {index n m2 : Nat} {y : MethodName} {mj : Mi} {av : List Value} {st1 : List Value} {x : va_E} {t0 t1 : List va_E} (nest : Bool) (T : AllDec mi.2.1 tb) (i : Nat) (h : tb[i]? = some (pc, .invokespecial index, 3)) (hq : pc + 3 = q) (hL : LkB y mj n ∧ mj.2.2.2.2 = none ∧ y.name = "<init>" ∧ Cond.instanceMethod y ∈ Wt) (hl2 : if nest then (mi.1, index, y, "OrbitDesk") ∈ nestA else Cond.methodLink mi.1 index y ∈ Wt) (hC : CtN Z y mj av (β + m2) x t1) (hR : mj.2.2.2.1.frames + 1 ≤ mi.2.2.2.1.frames ∧ 8 + (mj.2.2.1 + 11) + mj.2.2.2.1.locals ≤ mi.2.2.2.1.locals ∧ kc + mj.2.2.2.1.cells ≤ mi.2.2.2.1.cells ∧ ks + mj.2.2.2.1.slots ≤ mi.2.2.2.1.slots) (hn : av.length = n) (hst : st1 = av.reverse ++ .ref (β + m2) :: st) (hw : (st.map fun v => v.category).sum ≤ 8) (ht : t = t0 ++ [x]) (hm : t0.length = m2) (hlen : t1.length = 1 + mj.2.2.2.1.cells) (k : Gn Z mi β (t0 ++ t1) q lv st (kc + mj.2.2.2.1.cells) (ks + mj.2.2.2.1.slots) t') : Gn Z mi β t pc lv st1 kc ks t' := by
  intro p l e s m args below meth c H locs C hP hz hb hS ls hl
  subst hq
  subst hm
  intro T0 hT X
  have hts := C.2.2.2.2.2.1
  obtain ⟨⟨l1, l2, l3, l4, l5⟩, lr, l6, l7⟩ := hL
  rw [lr] at l1
  have hlen0 : t.length = t0.length + 1 := by rw [ht]; simp
  have hsub : T0.heap.size ≤ s.heap.size + kc := X.same.2.2.1
  have hxat : (wsF β t)[t0.length]? = some (β + t0.length, x) := by rw [wsF_at, ht]; simp
  have hxl : β + t0.length < H.size := (hP _ _ hxat).lt
  have hHs : H.size = β + t0.length + 1 := by rw [hT] at hsub; omega
  have hPx : va_P Z.2 vwCl (wsF (β + t0.length) [x]) H := by
    intro k0 q0 hq0
    rw [wsF_at] at hq0
    cases k0 with
    | zero => cases hq0; exact hP _ _ hxat
    | succ k0 => cases hq0
  have hg : GoodIn Wt (.code y mj.2.1 mj.2.2.1 none :: Wt) := by
    intro z hz
    rcases List.mem_cons.mp hz with rfl | hz
    · exact ⟨l1, Wt_good l1⟩
    · exact ⟨hz, Wt_good hz⟩
  have hpre : PreS s H (va_Pc (.ref (β + t0.length) :: av) (fun U => va_P Z.2 vwCl (wsF (β + t0.length) [x]) U.heap ∧ U.heap.size = β + t0.length + 1 ∧ va_K Z.2 vwCl (zty Z) U ∧ nX U)) (.ref (β + t0.length) :: av) := by
    refine ⟨?_, fun U hU hW => ⟨rfl, by rw [hU]; exact hPx, by rw [hU]; exact hHs, va_K.moved hW.alike C.2.2.2.2.2.2.2.1, nX_warm hW C.2.2.2.2.2.2.2.2.1⟩⟩
    intro a U f mk hh
    obtain ⟨q0, qP, qz, qK, qX⟩ := hh
    exact ⟨q0, qP, qz, va_K.moved (u := U) (U := U.calling f mk a) (Vm.Alike.refl U.vm) qK, nX_same (U := U) rfl qX⟩
  have hr : va_Run p l e mi.2.2.2.1 s m args below meth c H locs kc ks mj.2.2.2.1.cells mj.2.2.2.1.slots (F0 m pc ls st1) st (nQ Z (β + t0.length) t1 (Value.ref (β + t0.length) :: av).toArray) (fun q => β + t0.length ≤ q) := by
    cases nest with
    | false => exact va_runI (b := β + t0.length) (As := av) (rest := st) ⟨C.1, C.2.1, C.2.2.2.1, C.2.2.2.2.1, hts⟩ (hC l) (cwI n hts hg rfl rfl rfl (hts _ l2) (hts _ hl2) (hts _ l7) l6 ⟨l3, l4, l5⟩ ⟨hR.1, hR.2.1⟩) hpre rfl hn hl.1 hst (lv_room hw) (T.at h) ⟨hR.2.2.1, hR.2.2.2⟩
    | true => exact va_runIN (host := "OrbitDesk") (b := β + t0.length) (As := av) (rest := st) ⟨C.1, C.2.1, C.2.2.2.1, C.2.2.2.2.1, hts⟩ (hC l) ⟨va_cnB n hts hg rfl rfl rfl (C.2.2.2.2.2.2.2.2.1.1 _ hl2) (hts _ l2) ⟨l3, l4, l5⟩ ⟨hR.1, hR.2.1⟩, l6, hts _ l7⟩ hpre rfl hn hl.1 hst (lv_room hw) (T.at h) ⟨hR.2.2.1, hR.2.2.2⟩
  obtain ⟨v, st₀, u, T', Lc, h0, X', hLc, e1, e2, ⟨hv, hP1, hK1, hz1, hk⟩, sg⟩ := hr T0 hT X
  cases hv
  rw [h0] at hz1 hk
  have hPn : va_P Z.2 vwCl (wsF β (t0 ++ t1)) T'.heap := by
    rw [wsF_app]
    refine va_P.app ?_ (by rw [e1]; exact hP1)
    intro k0 q0 hq0
    have hk0 : k0 < t0.length := by
      rw [wsF_at] at hq0
      cases hc : t0[k0]? with
      | none => rw [hc] at hq0; cases hq0
      | some c0 => exact (List.getElem?_eq_some_iff.mp hc).1
    have hat : (wsF β t)[k0]? = some q0 := by
      rw [wsF_at] at hq0 ⊢
      rw [ht, List.getElem?_append_left hk0]
      exact hq0
    have hq1 : q0.1 = β + k0 := by
      rw [wsF_at] at hq0
      cases hc : t0[k0]? with
      | none => rw [hc] at hq0; cases hq0
      | some c0 => rw [hc] at hq0; cases hq0; rfl
    have hat2 := hP _ _ hat
    refine hat2.kept ?_
    rw [e1]
    exact hk q0.1 hat2.lt (by show ¬ β + t0.length ≤ q0.1; omega)
  have hS' : va_S (fun q => β ≤ q) s.heap T'.heap (locs ++ Lc) := ⟨Nat.le_trans hS.1 (by rw [e1]; exact hz1), fun q h1 h2 => by
      rw [e1, hk q (Nat.lt_of_lt_of_le h1 hS.1) (by intro h9; exact h2 (by show β ≤ q; have h9 : β + t0.length ≤ q := h9; omega))]
      exact hS.2.1 q h1 h2, fun q hq => by
      rcases List.mem_append.mp hq with h9 | h9
      · exact hS.2.2 q h9
      · have h9 : β + t0.length ≤ q.base := hLc q h9
        show β ≤ q.base
        omega⟩
  obtain ⟨t2, a1, b1⟩ := k p l e s m args below meth c T'.heap (locs ++ Lc) C hPn (by rw [List.length_append]; omega) hb hS' ls hl T' rfl X'
  exact ⟨t2, sg t2 a1, b1⟩
end GNR

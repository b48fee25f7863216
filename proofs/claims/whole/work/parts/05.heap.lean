theorem mmax_w : Cond.static Lib.Math.max.name ∈ Wt ∧ Cond.initialized "java/lang/Math" ∈ Wt ∧ Cond.code Lib.Math.max.name Lib.Math.max.code 2 (some .int) ∈ Wt := ⟨Wt_of (by decide +kernel) (by decide +kernel), Wt_of (by decide +kernel) (by decide +kernel), Wt_of (by decide +kernel) (by decide +kernel)⟩
theorem mmin_w : Cond.static Lib.Math.min.name ∈ Wt ∧ Cond.initialized "java/lang/Math" ∈ Wt ∧ Cond.code Lib.Math.min.name Lib.Math.min.code 2 (some .int) ∈ Wt := ⟨Wt_of (by decide +kernel) (by decide +kernel), Wt_of (by decide +kernel) (by decide +kernel), Wt_of (by decide +kernel) (by decide +kernel)⟩
theorem mabs_w : Cond.static Lib.Math.abs.name ∈ Wt ∧ Cond.initialized "java/lang/Math" ∈ Wt ∧ Cond.code Lib.Math.abs.name Lib.Math.abs.code 1 (some .int) ∈ Wt := ⟨Wt_of (by decide +kernel) (by decide +kernel), Wt_of (by decide +kernel) (by decide +kernel), Wt_of (by decide +kernel) (by decide +kernel)⟩
theorem cpy_w : Cond.native arraycopyName ∈ Wt ∧ Cond.static arraycopyName ∈ Wt ∧ Cond.initialized "java/lang/System" ∈ Wt := ⟨Wt_of (by decide +kernel) (by decide +kernel), Wt_of (by decide +kernel) (by decide +kernel), Wt_of (by decide +kernel) (by decide +kernel)⟩
theorem f2i_w : Cond.native ⟨"java/lang/Float", "floatToRawIntBits", "(F)I"⟩ ∈ Wt ∧ Cond.static ⟨"java/lang/Float", "floatToRawIntBits", "(F)I"⟩ ∈ Wt ∧ Cond.initialized "java/lang/Float" ∈ Wt := ⟨Wt_of (by decide +kernel) (by decide +kernel), Wt_of (by decide +kernel) (by decide +kernel), Wt_of (by decide +kernel) (by decide +kernel)⟩
theorem d2l_w : Cond.native ⟨"java/lang/Double", "doubleToRawLongBits", "(D)J"⟩ ∈ Wt ∧ Cond.static ⟨"java/lang/Double", "doubleToRawLongBits", "(D)J"⟩ ∈ Wt ∧ Cond.initialized "java/lang/Double" ∈ Wt := ⟨Wt_of (by decide +kernel) (by decide +kernel), Wt_of (by decide +kernel) (by decide +kernel), Wt_of (by decide +kernel) (by decide +kernel)⟩
/-- a field of a class of the world, as a class's pool names it -/
def FlG (own : String) (index ci j : Nat) : Prop := ∃ (C : String) (T : u_T) (N : Nat), vwCl[ci]? = some (C, T, N) ∧ (∀ z ∈ u_ws C T N, z ∈ Wt) ∧ j < N ∧ Cond.fieldLink own index (T j).1 (T j).2.1 (T j).2.2.1 ∈ Wt
def FlP (own : String) (index ci j : Nat) (ty : FieldType) : Prop := ∃ (C : String) (T : u_T) (N : Nat), vwCl[ci]? = some (C, T, N) ∧ (∀ z ∈ u_ws C T N, z ∈ Wt) ∧ j < N ∧ Cond.fieldLink own index (T j).1 (T j).2.1 (T j).2.2.1 ∈ Wt ∧
  (∃ ty0 : Nat → FieldType, ∀ k, k < N → parseFieldDescriptor (T k).2.2.1 = some (ty0 k)) ∧ (∀ a, a < N → ∀ b, b < N → a ≠ b → (T a).2.1 ≠ (T b).2.1) ∧ (T j).2.2.2 = false ∧ parseFieldDescriptor (T j).2.2.1 = some ty
theorem FlP.g {own : String} {index ci j : Nat} {ty : FieldType} (h : FlP own index ci j ty) : FlG own index ci j := by
  obtain ⟨C, T, N, h1, h2, h3, h4, -⟩ := h
  exact ⟨C, T, N, h1, h2, h3, h4⟩
theorem go_get {τ : Type} {w : Wd} {mi : Mi} {φ : τ → Option Value × G} {g : G} {lv : List (Nat × Value)} {st : List Value} {tb : List (Nat × ClassFile.Instr × Nat)} {pc q : Nat} {o : Option τ} {index ci j a : Nat} {fs : List Value} {v : Value} (T : AllDec mi.2.1 tb) (i : Nat) (h : tb[i]? = some (pc, .getfield index, 3)) (hq : pc + 3 = q) (F : FlG mi.1 index ci j) {k0 : Nat} (he : (w.1 g)[k0]? = some (a, .inr (ci, fs))) (hv : fs[j]? = some v) (k : Go w mi φ g q lv (v :: st) o) : Go w mi φ g pc lv (.ref a :: st) o := by
  intro t ho p l e s m args below meth c H locs C hP hD hS ls hl
  subst hq
  obtain ⟨C0, T0, N0, f1, f2, f3, f4⟩ := F
  have hts := C.2.2.2.2.2.1
  exact va_get (D := w.2.2.1) (C := C0) (T := T0) (N := N0) (ci := ci) C.1 C.2.1 hts f2 C.2.2.2.2.1 C.2.2.2.2.2.2.2.1 hP k0 he f1 j f3 (hts _ f4) (fun _ h9 => h9) hv (T.at h) (k t ho p l e s m args below meth c H locs C hP hD hS ls hl)
theorem go_put {τ : Type} {w : Wd} {mi : Mi} {φ : τ → Option Value × G} {g : G} {lv : List (Nat × Value)} {st : List Value} {tb : List (Nat × ClassFile.Instr × Nat)} {pc q : Nat} {o : Option τ} {g' : G} {index ci j a : Nat} {fs : List Value} {v : Value} {ty : FieldType} (T : AllDec mi.2.1 tb) (i : Nat) (h : tb[i]? = some (pc, .putfield index, 3)) (hq : pc + 3 = q) (F : FlP mi.1 index ci j ty) {k0 : Nat} (he : (w.1 g)[k0]? = some (a, .inr (ci, fs))) (hn : narrow ty v = v) (hf : fits ty v = true) (hl0 : j < fs.length) (hset : (w.1 g).set k0 (a, .inr (ci, fs.set j v)) = w.1 g') (k : Go w mi φ g' q lv st o) : Go w mi φ g pc lv (v :: .ref a :: st) o := by
  intro t ho p l e s m args below meth c H locs C hP hD hS ls hl
  subst hq
  obtain ⟨C0, T0, N0, f1, f2, f3, f4, ⟨ty0, f5⟩, f6, f7, f8⟩ := F
  have hts := C.2.2.2.2.2.1
  refine va_put (D := w.2.2.1) (C := C0) (T := T0) (N := N0) (ci := ci) C.1 C.2.1 hts f2 ty0 f5 f6 C.2.2.2.2.1 C.2.2.2.2.2.2.2.1 hP hD hS k0 he f1 j f3 (hts _ f4) (fun _ h9 => h9) f7 f8 hn hf hl0 (T.at h) (fun H1 locs1 hP1 hD1 hS1 => ?_)
  rw [hset] at hP1 hD1
  exact k t ho p l e s m args below meth c H1 locs1 C hP1 hD1 hS1 ls hl
theorem go_ald {τ : Type} {w : Wd} {mi : Mi} {φ : τ → Option Value × G} {g : G} {lv : List (Nat × Value)} {st : List Value} {tb : List (Nat × ClassFile.Instr × Nat)} {pc q : Nat} {K : Int32 → Option τ} {a n : Nat} {f : Nat → Int32} {cA : ClassId} {x : Int32} (T : AllDec mi.2.1 tb) (i : Nat) (h : tb[i]? = some (pc, .iaload, 1)) (hq : pc + 1 = q) {k0 : Nat} (he : (w.1 g)[k0]? = some (a, .inl (cA, n, .inl f))) {t0 : Nat} (ht : w.2.2.2.1[t0]? = some (cA, .int)) (k : ∀ y : Int32, Go w mi φ g q lv (.int y :: st) (K y)) : Go w mi φ g pc lv (.int x :: .ref a :: st) (ag n f x K) := by
  intro t ho p l e s m args below meth c H locs C hP hD hS ls hl
  subst hq
  by_cases hz : x < 0 ∨ n ≤ x.toNatClampNeg
  · rw [ag, if_pos hz] at ho
    cases ho
  · rw [ag, if_neg hz] at ho
    exact va_iald C.1 C.2.1 C.2.2.2.2.2.2.2.1 hP k0 t0 he ht hz (T.at h) (k _ t ho p l e s m args below meth c H locs C hP hD hS ls hl)
theorem go_ast {τ : Type} {w : Wd} {mi : Mi} {φ : τ → Option Value × G} {g : G} {lv : List (Nat × Value)} {st : List Value} {tb : List (Nat × ClassFile.Instr × Nat)} {pc q : Nat} {o : Option τ} {g' : G} {a n : Nat} {f : Nat → Int32} {cA : ClassId} {x v : Int32} (T : AllDec mi.2.1 tb) (i : Nat) (h : tb[i]? = some (pc, .iastore, 1)) (hq : pc + 1 = q) {k0 : Nat} (he : (w.1 g)[k0]? = some (a, .inl (cA, n, .inl f))) {t0 : Nat} (ht : w.2.2.2.1[t0]? = some (cA, .int)) (hset : (w.1 g).set k0 (a, .inl (cA, n, .inl (upd f x.toNatClampNeg v))) = w.1 g') (k : Go w mi φ g' q lv st o) : Go w mi φ g pc lv (.int v :: .int x :: .ref a :: st) (ck n x o) := by
  intro t ho p l e s m args below meth c H locs C hP hD hS ls hl
  subst hq
  by_cases hz : x < 0 ∨ n ≤ x.toNatClampNeg
  · rw [ck, if_pos hz] at ho
    cases ho
  · rw [ck, if_neg hz] at ho
    refine va_iast C.1 C.2.1 C.2.2.2.2.2.2.2.1 hP hD hS k0 t0 he ht hz (T.at h) (fun H1 locs1 hP1 hD1 hS1 => ?_)
    rw [hset] at hP1 hD1
    exact k t ho p l e s m args below meth c H1 locs1 C hP1 hD1 hS1 ls hl
def agf {β : Type} (n : Nat) (f : Nat → UInt32) (i : Int32) (k : UInt32 → Option β) : Option β := if i < 0 ∨ n ≤ i.toNatClampNeg then none else k (f i.toNatClampNeg)
theorem go_fald {τ : Type} {w : Wd} {mi : Mi} {φ : τ → Option Value × G} {g : G} {lv : List (Nat × Value)} {st : List Value} {tb : List (Nat × ClassFile.Instr × Nat)} {pc q : Nat} {K : UInt32 → Option τ} {a n : Nat} {f : Nat → UInt32} {cA : ClassId} {x : Int32} (T : AllDec mi.2.1 tb) (i : Nat) (h : tb[i]? = some (pc, .faload, 1)) (hq : pc + 1 = q) {k0 : Nat} (he : (w.1 g)[k0]? = some (a, .inl (cA, n, .inr (.inr (.inl f))))) {t0 : Nat} (ht : w.2.2.2.1[t0]? = some (cA, .float)) (k : ∀ y : UInt32, Go w mi φ g q lv (.float y :: st) (K y)) : Go w mi φ g pc lv (.int x :: .ref a :: st) (agf n f x K) := by
  intro t ho p l e s m args below meth c H locs C hP hD hS ls hl
  subst hq
  by_cases hz : x < 0 ∨ n ≤ x.toNatClampNeg
  · rw [agf, if_pos hz] at ho
    cases ho
  · rw [agf, if_neg hz] at ho
    exact va_fald C.1 C.2.1 C.2.2.2.2.2.2.2.1 hP k0 t0 he ht hz (T.at h) (k _ t ho p l e s m args below meth c H locs C hP hD hS ls hl)
theorem go_fast {τ : Type} {w : Wd} {mi : Mi} {φ : τ → Option Value × G} {g : G} {lv : List (Nat × Value)} {st : List Value} {tb : List (Nat × ClassFile.Instr × Nat)} {pc q : Nat} {o : Option τ} {g' : G} {a n : Nat} {f : Nat → UInt32} {cA : ClassId} {x : Int32} {v : UInt32} (T : AllDec mi.2.1 tb) (i : Nat) (h : tb[i]? = some (pc, .fastore, 1)) (hq : pc + 1 = q) {k0 : Nat} (he : (w.1 g)[k0]? = some (a, .inl (cA, n, .inr (.inr (.inl f))))) {t0 : Nat} (ht : w.2.2.2.1[t0]? = some (cA, .float)) (hset : (w.1 g).set k0 (a, .inl (cA, n, .inr (.inr (.inl (vf_upd f x.toNatClampNeg v))))) = w.1 g') (k : Go w mi φ g' q lv st o) : Go w mi φ g pc lv (.float v :: .int x :: .ref a :: st) (ck n x o) := by
  intro t ho p l e s m args below meth c H locs C hP hD hS ls hl
  subst hq
  by_cases hz : x < 0 ∨ n ≤ x.toNatClampNeg
  · rw [ck, if_pos hz] at ho
    cases ho
  · rw [ck, if_neg hz] at ho
    refine va_fast C.1 C.2.1 C.2.2.2.2.2.2.2.1 hP hD hS k0 t0 he ht hz (T.at h) (fun H1 locs1 hP1 hD1 hS1 => ?_)
    rw [hset] at hP1 hD1
    exact k t ho p l e s m args below meth c H1 locs1 C hP1 hD1 hS1 ls hl
/-- an array of references: the place's number, below the length -/
def kg {β : Type} (n : Nat) (i : Int32) (k : Nat → Option β) : Option β := if i < 0 ∨ n ≤ i.toNatClampNeg then none else k i.toNatClampNeg
theorem go_aald {τ : Type} {w : Wd} {mi : Mi} {φ : τ → Option Value × G} {g : G} {lv : List (Nat × Value)} {st : List Value} {tb : List (Nat × ClassFile.Instr × Nat)} {pc q : Nat} {K : Nat → Option τ} {a n : Nat} {f : Nat → Nat} {cA : ClassId} {CN : String} {x : Int32} (T : AllDec mi.2.1 tb) (i : Nat) (h : tb[i]? = some (pc, .aaload, 1)) (hq : pc + 1 = q) {k0 : Nat} (he : (w.1 g)[k0]? = some (a, .inl (cA, n, .inr (.inr (.inr (.inr (fun j => some (f j)))))))) {t0 : Nat} (ht : w.2.2.2.1[t0]? = some (cA, .object CN)) (k : ∀ y : Nat, y < n → Go w mi φ g q lv (.ref (f y) :: st) (K y)) : Go w mi φ g pc lv (.int x :: .ref a :: st) (kg n x K) := by
  intro t ho p l e s m args below meth c H locs C hP hD hS ls hl
  subst hq
  by_cases hz : x < 0 ∨ n ≤ x.toNatClampNeg
  · rw [kg, if_pos hz] at ho
    cases ho
  · rw [kg, if_neg hz] at ho
    exact va_aldq C.1 C.2.1 C.2.2.2.2.2.2.2.1 hP k0 t0 he ht hz (T.at h) (k _ (by omega) t ho p l e s m args below meth c H locs C hP hD hS ls hl)
theorem go_alen {τ : Type} {w : Wd} {mi : Mi} {φ : τ → Option Value × G} {g : G} {lv : List (Nat × Value)} {st : List Value} {tb : List (Nat × ClassFile.Instr × Nat)} {pc q : Nat} {o : Option τ} {a : Nat} {x : vp_A} {cA : ClassId} {v : Int32} {ty : FieldType} (T : AllDec mi.2.1 tb) (i : Nat) (h : tb[i]? = some (pc, .arraylength, 1)) (hq : pc + 1 = q) {k0 : Nat} (he : (w.1 g)[k0]? = some (a, .inl (cA, x))) {t0 : Nat} (ht : w.2.2.2.1[t0]? = some (cA, ty)) (hv : Int32.ofNat x.1 = v) (k : Go w mi φ g q lv (.int v :: st) o) : Go w mi φ g pc lv (.ref a :: st) o := by
  intro t ho p l e s m args below meth c H locs C hP hD hS ls hl
  subst hq
  exact va_alen C.1 C.2.1 C.2.2.2.2.2.2.2.1 hP k0 t0 he ht hv (T.at h) (k t ho p l e s m args below meth c H locs C hP hD hS ls hl)
theorem go_lcmp {τ : Type} {w : Wd} {mi : Mi} {φ : τ → Option Value × G} {g : G} {lv : List (Nat × Value)} {st : List Value} {tb : List (Nat × ClassFile.Instr × Nat)} {pc q : Nat} {o : Option τ} {x y : Int64} (T : AllDec mi.2.1 tb) (i : Nat) (h : tb[i]? = some (pc, .lcmp, 1)) (hq : pc + 1 = q) (k : Go w mi φ g q lv (.int (lg_cmp x y) :: st) o) : Go w mi φ g pc lv (.long y :: .long x :: st) o := by
  intro t ho p l e s m args below meth c H locs C hP hD hS ls hl
  subst hq
  exact W.lcmp C.1 C.2.1 (T.at h) (k t ho p l e s m args below meth c H locs C hP hD hS ls hl)
theorem go_ldc {τ : Type} {w : Wd} {mi : Mi} {φ : τ → Option Value × G} {g : G} {lv : List (Nat × Value)} {st : List Value} {tb : List (Nat × ClassFile.Instr × Nat)} {pc q : Nat} {o : Option τ} {index : Nat} {v : Int32} (T : AllDec mi.2.1 tb) (i : Nat) (h : tb[i]? = some (pc, .ldc index, 2)) (hq : pc + 2 = q) (hc : Cond.constant mi.1 index v ∈ Wt) (k : Go w mi φ g q lv (.int v :: st) o) : Go w mi φ g pc lv st o := by
  intro t ho p l e s m args below meth c H locs C hP hD hS ls hl
  subst hq
  exact lv_ldc C.1 C.2.1 C.2.2.2.2.1 (C.2.2.2.2.2.1 _ hc) (T.at h) (k t ho p l e s m args below meth c H locs C hP hD hS ls hl)
theorem go_ldcw {τ : Type} {w : Wd} {mi : Mi} {φ : τ → Option Value × G} {g : G} {lv : List (Nat × Value)} {st : List Value} {tb : List (Nat × ClassFile.Instr × Nat)} {pc q : Nat} {o : Option τ} {index : Nat} {v : Int32} (T : AllDec mi.2.1 tb) (i : Nat) (h : tb[i]? = some (pc, .ldc_w index, 3)) (hq : pc + 3 = q) (hc : Cond.constant mi.1 index v ∈ Wt) (k : Go w mi φ g q lv (.int v :: st) o) : Go w mi φ g pc lv st o := by
  intro t ho p l e s m args below meth c H locs C hP hD hS ls hl
  subst hq
  exact lv_ldcw C.1 C.2.1 C.2.2.2.2.1 (C.2.2.2.2.2.1 _ hc) (T.at h) (k t ho p l e s m args below meth c H locs C hP hD hS ls hl)
theorem go_ldcf {τ : Type} {w : Wd} {mi : Mi} {φ : τ → Option Value × G} {g : G} {lv : List (Nat × Value)} {st : List Value} {tb : List (Nat × ClassFile.Instr × Nat)} {pc q : Nat} {o : Option τ} {index : Nat} {v : UInt32} (T : AllDec mi.2.1 tb) (i : Nat) (h : tb[i]? = some (pc, .ldc index, 2)) (hq : pc + 2 = q) (hc : Cond.constantFloat mi.1 index v ∈ Wt) (k : Go w mi φ g q lv (.float v :: st) o) : Go w mi φ g pc lv st o := by
  intro t ho p l e s m args below meth c H locs C hP hD hS ls hl
  subst hq
  exact lv_ldcf C.1 C.2.1 C.2.2.2.2.1 (C.2.2.2.2.2.1 _ hc) (T.at h) (k t ho p l e s m args below meth c H locs C hP hD hS ls hl)
theorem go_ldc2 {τ : Type} {w : Wd} {mi : Mi} {φ : τ → Option Value × G} {g : G} {lv : List (Nat × Value)} {st : List Value} {tb : List (Nat × ClassFile.Instr × Nat)} {pc q : Nat} {o : Option τ} {index : Nat} {v : Int64} (T : AllDec mi.2.1 tb) (i : Nat) (h : tb[i]? = some (pc, .ldc2_w index, 3)) (hq : pc + 3 = q) (hc : Cond.constantLong mi.1 index v ∈ Wt) (k : Go w mi φ g q lv (.long v :: st) o) : Go w mi φ g pc lv st o := by
  intro t ho p l e s m args below meth c H locs C hP hD hS ls hl
  subst hq
  exact lv_ldc2 C.1 C.2.1 C.2.2.2.2.1 (C.2.2.2.2.2.1 _ hc) (T.at h) (k t ho p l e s m args below meth c H locs C hP hD hS ls hl)
theorem go_ldc2d {τ : Type} {w : Wd} {mi : Mi} {φ : τ → Option Value × G} {g : G} {lv : List (Nat × Value)} {st : List Value} {tb : List (Nat × ClassFile.Instr × Nat)} {pc q : Nat} {o : Option τ} {index : Nat} {v : UInt64} (T : AllDec mi.2.1 tb) (i : Nat) (h : tb[i]? = some (pc, .ldc2_w index, 3)) (hq : pc + 3 = q) (hc : Cond.constantDouble mi.1 index v ∈ Wt) (k : Go w mi φ g q lv (.double v :: st) o) : Go w mi φ g pc lv st o := by
  intro t ho p l e s m args below meth c H locs C hP hD hS ls hl
  subst hq
  exact lv_ldc2d C.1 C.2.1 C.2.2.2.2.1 (C.2.2.2.2.2.1 _ hc) (T.at h) (k t ho p l e s m args below meth c H locs C hP hD hS ls hl)
theorem go_mmax {τ : Type} {w : Wd} {mi : Mi} {φ : τ → Option Value × G} {g : G} {lv : List (Nat × Value)} {st : List Value} {tb : List (Nat × ClassFile.Instr × Nat)} {pc q : Nat} {o : Option τ} {index : Nat} {x y : Int32} (T : AllDec mi.2.1 tb) (i : Nat) (h : tb[i]? = some (pc, .invokestatic index, 3)) (hq : pc + 3 = q) (hk : Cond.methodLink mi.1 index Lib.Math.max.name ∈ Wt) (hR : 1 ≤ mi.2.2.2.1.frames ∧ (st.map fun v => v.category).sum + 13 ≤ mi.2.2.2.1.locals) (k : Go w mi φ g q lv (.int (if x < y then y else x) :: st) o) : Go w mi φ g pc lv (.int y :: .int x :: st) o := by
  intro t ho p l e s m args below meth c H locs C hP hD hS ls hl
  subst hq
  have hts := C.2.2.2.2.2.1
  exact va_mmax C.1 C.2.1 (C.2.2.2.1.trans hl.1.symm) C.2.2.2.2.1 (hts _ hk) (hts _ (mmax_w).1) (hts _ (mmax_w).2.1) (hts _ (mmax_w).2.2) hR.1 hR.2 (Nat.zero_le _) (Nat.zero_le _) (T.at h) (k t ho p l e s m args below meth c H locs C hP hD hS ls hl)
theorem go_mmin {τ : Type} {w : Wd} {mi : Mi} {φ : τ → Option Value × G} {g : G} {lv : List (Nat × Value)} {st : List Value} {tb : List (Nat × ClassFile.Instr × Nat)} {pc q : Nat} {o : Option τ} {index : Nat} {x y : Int32} (T : AllDec mi.2.1 tb) (i : Nat) (h : tb[i]? = some (pc, .invokestatic index, 3)) (hq : pc + 3 = q) (hk : Cond.methodLink mi.1 index Lib.Math.min.name ∈ Wt) (hR : 1 ≤ mi.2.2.2.1.frames ∧ (st.map fun v => v.category).sum + 13 ≤ mi.2.2.2.1.locals) (k : Go w mi φ g q lv (.int (if y < x then y else x) :: st) o) : Go w mi φ g pc lv (.int y :: .int x :: st) o := by
  intro t ho p l e s m args below meth c H locs C hP hD hS ls hl
  subst hq
  have hts := C.2.2.2.2.2.1
  exact va_mmin C.1 C.2.1 (C.2.2.2.1.trans hl.1.symm) C.2.2.2.2.1 (hts _ hk) (hts _ (mmin_w).1) (hts _ (mmin_w).2.1) (hts _ (mmin_w).2.2) hR.1 hR.2 (Nat.zero_le _) (Nat.zero_le _) (T.at h) (k t ho p l e s m args below meth c H locs C hP hD hS ls hl)
theorem go_mabs {τ : Type} {w : Wd} {mi : Mi} {φ : τ → Option Value × G} {g : G} {lv : List (Nat × Value)} {st : List Value} {tb : List (Nat × ClassFile.Instr × Nat)} {pc q : Nat} {o : Option τ} {index : Nat} {x : Int32} (T : AllDec mi.2.1 tb) (i : Nat) (h : tb[i]? = some (pc, .invokestatic index, 3)) (hq : pc + 3 = q) (hk : Cond.methodLink mi.1 index Lib.Math.abs.name ∈ Wt) (hR : 1 ≤ mi.2.2.2.1.frames ∧ (st.map fun v => v.category).sum + 13 ≤ mi.2.2.2.1.locals) (k : Go w mi φ g q lv (.int (if 0 ≤ x then x else 0 - x) :: st) o) : Go w mi φ g pc lv (.int x :: st) o := by
  intro t ho p l e s m args below meth c H locs C hP hD hS ls hl
  subst hq
  have hts := C.2.2.2.2.2.1
  exact va_mabs C.1 C.2.1 (C.2.2.2.1.trans hl.1.symm) C.2.2.2.2.1 (hts _ hk) (hts _ (mabs_w).1) (hts _ (mabs_w).2.1) (hts _ (mabs_w).2.2) hR.1 hR.2 (Nat.zero_le _) (Nat.zero_le _) (T.at h) (k t ho p l e s m args below meth c H locs C hP hD hS ls hl)
theorem go_rawf2i {τ : Type} {w : Wd} {mi : Mi} {φ : τ → Option Value × G} {g : G} {lv : List (Nat × Value)} {st : List Value} {tb : List (Nat × ClassFile.Instr × Nat)} {pc q : Nat} {o : Option τ} {index : Nat} {x : UInt32} (T : AllDec mi.2.1 tb) (i : Nat) (h : tb[i]? = some (pc, .invokestatic index, 3)) (hq : pc + 3 = q) (hk : Cond.methodLink mi.1 index ⟨"java/lang/Float", "floatToRawIntBits", "(F)I"⟩ ∈ Wt) (hR : 1 ≤ mi.2.2.2.1.frames ∧ (st.map fun v => v.category).sum + 15 ≤ mi.2.2.2.1.locals) (k : Go w mi φ g q lv (.int x.toInt32 :: st) o) : Go w mi φ g pc lv (.float x :: st) o := by
  intro t ho p l e s m args below meth c H locs C hP hD hS ls hl
  subst hq
  have hts := C.2.2.2.2.2.1
  exact vn_f2i C.1 C.2.1 (C.2.2.2.1.trans hl.1.symm) C.2.2.2.2.1 (hts _ hk) (hts _ f2i_w.1) (hts _ f2i_w.2.1) (hts _ f2i_w.2.2) hR.1 hR.2 (T.at h) (k t ho p l e s m args below meth c H locs C hP hD hS ls hl)
theorem go_rawd2l {τ : Type} {w : Wd} {mi : Mi} {φ : τ → Option Value × G} {g : G} {lv : List (Nat × Value)} {st : List Value} {tb : List (Nat × ClassFile.Instr × Nat)} {pc q : Nat} {o : Option τ} {index : Nat} {x : UInt64} (T : AllDec mi.2.1 tb) (i : Nat) (h : tb[i]? = some (pc, .invokestatic index, 3)) (hq : pc + 3 = q) (hk : Cond.methodLink mi.1 index ⟨"java/lang/Double", "doubleToRawLongBits", "(D)J"⟩ ∈ Wt) (hR : 1 ≤ mi.2.2.2.1.frames ∧ (st.map fun v => v.category).sum + 15 ≤ mi.2.2.2.1.locals) (k : Go w mi φ g q lv (.long x.toInt64 :: st) o) : Go w mi φ g pc lv (.double x :: st) o := by
  intro t ho p l e s m args below meth c H locs C hP hD hS ls hl
  subst hq
  have hts := C.2.2.2.2.2.1
  exact vn_d2l C.1 C.2.1 (C.2.2.2.1.trans hl.1.symm) C.2.2.2.2.1 (hts _ hk) (hts _ d2l_w.1) (hts _ d2l_w.2.1) (hts _ d2l_w.2.2) hR.1 hR.2 (T.at h) (k t ho p l e s m args below meth c H locs C hP hD hS ls hl)
/-- System.arraycopy between two int arrays, all in bounds -/
def cp {β : Type} (n0 n1 : Nat) (sp dp n : Int32) (k : Option β) : Option β := if ¬ sp < 0 ∧ ¬ dp < 0 ∧ ¬ n < 0 ∧ sp.toNatClampNeg + n.toNatClampNeg ≤ n0 ∧ dp.toNatClampNeg + n.toNatClampNeg ≤ n1 then k else none
theorem go_copy {τ : Type} {w : Wd} {mi : Mi} {φ : τ → Option Value × G} {g : G} {lv : List (Nat × Value)} {st : List Value} {tb : List (Nat × ClassFile.Instr × Nat)} {pc q : Nat} {o : Option τ} {g' : G} {index a a0 n0 n1 : Nat} {f f1 : Nat → Int32} {c0 c1 : ClassId} {sp dp n : Int32} (T : AllDec mi.2.1 tb) (i : Nat) (h : tb[i]? = some (pc, .invokestatic index, 3)) (hq : pc + 3 = q) (hk : Cond.methodLink mi.1 index arraycopyName ∈ Wt) (hR : 1 ≤ mi.2.2.2.1.frames ∧ (st.map fun v => v.category).sum + (nativeFrameWords "java/lang/System" "arraycopy" 5 + 11) ≤ mi.2.2.2.1.locals) {q0 q1 : Nat} (he0 : (w.1 g)[q0]? = some (a0, .inl (c0, n0, .inl f))) (he1 : (w.1 g)[q1]? = some (a, .inl (c1, n1, .inl f1))) {t0 t1 : Nat} (ht0 : w.2.2.2.1[t0]? = some (c0, .int)) (ht1 : w.2.2.2.1[t1]? = some (c1, .int)) (hset : (w.1 g).set q1 (a, .inl (c1, n1, .inl (va_cpy f f1 sp.toNatClampNeg dp.toNatClampNeg n.toNatClampNeg))) = w.1 g') (k : Go w mi φ g' q lv st o) : Go w mi φ g pc lv (.int n :: .int dp :: .ref a :: .int sp :: .ref a0 :: st) (cp n0 n1 sp dp n o) := by
  intro t ho p l e s m args below meth c H locs C hP hD hS ls hl
  subst hq
  by_cases hz : ¬ sp < 0 ∧ ¬ dp < 0 ∧ ¬ n < 0 ∧ sp.toNatClampNeg + n.toNatClampNeg ≤ n0 ∧ dp.toNatClampNeg + n.toNatClampNeg ≤ n1
  · rw [cp, if_pos hz] at ho
    obtain ⟨z1, z2, z3, z4, z5⟩ := hz
    have hts := C.2.2.2.2.2.1
    refine va_copyi C.1 C.2.1 (C.2.2.2.1.trans hl.1.symm) C.2.2.2.2.1 (hts _ hk) (hts _ cpy_w.1) (hts _ cpy_w.2.1) (hts _ cpy_w.2.2) C.2.2.2.2.2.2.2.1 hP hD hS q0 q1 t0 t1 he0 he1 ht0 ht1 rfl z1 z2 z3 z4 z5 (fun _ _ => rfl) hR.1 hR.2 (T.at h) (fun H1 locs1 hP1 hD1 hS1 => ?_)
    rw [hset] at hP1 hD1
    exact k t ho p l e s m args below meth c H1 locs1 C hP1 hD1 hS1 ls hl
  · rw [cp, if_neg hz] at ho
    cases ho
def LkB (y : MethodName) (mj : Mi) (n : Nat) : Prop := Cond.code y mj.2.1 mj.2.2.1 mj.2.2.2.2 ∈ Wt ∧ Cond.initialized y.cls ∈ Wt ∧ y.cls ≠ "java/lang/invoke/MethodHandle" ∧ y.cls ≠ "java/lang/invoke/VarHandle" ∧ (parseMethodDescriptor y.desc).map (fun d => d.parameters.length) = some n
def LkS (own : String) (index : Nat) (y : MethodName) (mj : Mi) (n : Nat) : Prop := LkB y mj n ∧ Cond.methodLink own index y ∈ Wt ∧ Cond.static y ∈ Wt
def LkV (own : String) (index : Nat) (y : MethodName) (mj : Mi) (n : Nat) : Prop := LkB y mj n ∧ Cond.methodLink own index y ∈ Wt ∧ Cond.instanceMethod y ∈ Wt ∧ Cond.selects y.cls y y ∈ Wt
def Rok (mi mj : Mi) : Prop := mj.2.2.2.1.cells = 0 ∧ mj.2.2.2.1.slots = 0 ∧ mj.2.2.2.1.frames + 1 ≤ mi.2.2.2.1.frames ∧ 8 + (mj.2.2.1 + 11) + mj.2.2.2.1.locals ≤ mi.2.2.2.1.locals
theorem Wt_goodIn {y : MethodName} {mj : Mi} (h : Cond.code y mj.2.1 mj.2.2.1 mj.2.2.2.2 ∈ Wt) : GoodIn Wt (.code y mj.2.1 mj.2.2.1 mj.2.2.2.2 :: Wt) := by
  intro z hz
  rcases List.mem_cons.mp hz with rfl | hz
  · exact ⟨h, Wt_good h⟩
  · exact ⟨hz, Wt_good hz⟩
/-- a callee's start: blind to frames, and had wherever the caller's world is -/
theorem pc_blind {w : Wd} (X : Xok w) {av : List Value} {g : G} : FrameBlind (va_Pc av (fun U => va_P w.2.2.1 vwCl (w.1 g) U.heap ∧ va_K w.2.2.1 vwCl w.2.2.2.1 U ∧ va_D w.2.1 (w.1 g) ∧ w.2.2.2.2 U)) := by
  intro a U f mk hh
  obtain ⟨q0, qP, qK, qD, qX⟩ := hh
  exact ⟨q0, qP, va_K.moved (u := U) (U := U.calling f mk a) (Vm.Alike.refl U.vm) qK, qD, X.2 U _ rfl rfl qX⟩
section CALLS
variable {p : Program} {l : Launch} {e : Env} {s : State} {m : MethodId} {args : Array Value} {below : List Frame} {meth : Method} {c : Code} {H : Heap} {locs : List Loc}
/-- behind a call: the callee's end is the caller's world -/
theorem call_on {τ : Type} {w : Wd} {mi : Mi} {φ : τ → Option Value × G} {g2 : G} {v2 : Option Value} {lv : List (Nat × Value)} {st st0 : List Value} {pc : Nat} {a : Array Value} {o : Option τ} {t : τ} {ls : Array Slot} (ho : o = some t) (C : gC w mi p s m args meth c) (hS : va_S w.2.1 s.heap H locs) (hl : lv_has ls mi.2.2.1 lv)
    (hr : va_Run p l e mi.2.2.2.1 s m args below meth c H locs 0 0 0 0 (F0 m pc ls st0) st (gQ w (v2, g2) a) w.2.1) (k : Go w mi φ g2 (pc + 3) lv (v2.toList ++ st) o) :
    W p l e mi.2.2.2.1 s m args below meth c H locs 0 0 (MQ below (gQ w (φ t)) args s 0 0 w.2.1) (F0 m pc ls st0) := by
  intro T hT X
  obtain ⟨v, st₀, t1, T', L, h0, X', hL, e1, e2, ⟨hv, hP, hK, hD, hz, hk⟩, sg⟩ := hr T hT X
  cases hv
  rw [h0] at hz hk
  have hS' : va_S w.2.1 s.heap T'.heap (locs ++ L) := ⟨Nat.le_trans hS.1 (by rw [e1]; exact hz), fun q h1 h2 => by rw [e1, hk q (Nat.lt_of_lt_of_le h1 hS.1) h2]; exact hS.2.1 q h1 h2, fun q hq => by
      rcases List.mem_append.mp hq with h | h
      · exact hS.2.2 q h
      · exact hL q h⟩
  obtain ⟨t2, a1, b1⟩ := k t ho p l e s m args below meth c T'.heap (locs ++ L) C (by rw [e1]; exact hP) hD hS' ls hl T' rfl X'
  exact ⟨t2, sg t2 a1, b1⟩
end CALLS
set_option maxHeartbeats 2000000 in
theorem go_callS {τ : Type} {w : Wd} {mi : Mi} {φ : τ → Option Value × G} {g : G} {lv : List (Nat × Value)} {st : List Value} {tb : List (Nat × ClassFile.Instr × Nat)} {pc q : Nat} {τ' : Type} {φ' : τ' → Option Value × G} {o' : Option τ'} {K : τ' → Option τ} {index n : Nat} {y : MethodName} {mj : Mi} {av : List Value} {st1 : List Value} (T : AllDec mi.2.1 tb) (i : Nat) (h : tb[i]? = some (pc, .invokestatic index, 3)) (hq : pc + 3 = q) (X : Xok w) (hL : LkS mi.1 index y mj n) (hC : Ct w y mj av φ' g o') (hR : Rok mi mj) (hn : av.length = n) (hst : st1 = av.reverse ++ st) (hw : (st.map fun v => v.category).sum ≤ 8) (k : ∀ t' : τ', Go w mi φ (φ' t').2 q lv ((φ' t').1.toList ++ st) (K t')) : Go w mi φ g pc lv st1 (Option.bind o' K) := by
  intro t ho p l e s m args below meth c H locs C hP hD hS ls hl
  subst hq
  cases ho' : o' with
  | none => rw [ho'] at ho; cases ho
  | some t' =>
    rw [ho'] at ho
    have ho : K t' = some t := ho
    have hts := C.2.2.2.2.2.1
    obtain ⟨⟨l1, l2, l3, l4, l5⟩, l6, l7⟩ := hL
    have cb := callB_of (R := mi.2.2.2.1) (own := mi.1) (index := index) n hts (Wt_goodIn l1) rfl hR.1 hR.2.1 (hts _ l2) (hts _ l6) ⟨l3, l4, l5⟩ ⟨hR.2.2.1, hR.2.2.2⟩
    refine call_on (a := av.toArray) (v2 := (φ' t').1) (g2 := (φ' t').2) ho C hS hl ?_ (k t')
    exact va_runS (As := av) (rest := st) ⟨C.1, C.2.1, C.2.2.2.1, C.2.2.2.2.1, hts⟩ (hC t' ho' l) ⟨cb, hts _ l7⟩ ⟨pc_blind X, fun U hU hW => ⟨rfl, by rw [hU]; exact hP, va_K.moved hW.alike C.2.2.2.2.2.2.2.1, hD, X.1 s U H locs hW hU hS C.2.2.2.2.2.2.2.2⟩⟩ rfl hn hl.1 hst (lv_room hw) (T.at h) ⟨Nat.zero_le _, Nat.zero_le _⟩
set_option maxHeartbeats 2000000 in
theorem go_callV {τ : Type} {w : Wd} {mi : Mi} {φ : τ → Option Value × G} {g : G} {lv : List (Nat × Value)} {st : List Value} {tb : List (Nat × ClassFile.Instr × Nat)} {pc q : Nat} {τ' : Type} {φ' : τ' → Option Value × G} {o' : Option τ'} {K : τ' → Option τ} {index n b ci : Nat} {y : MethodName} {mj : Mi} {av : List Value} {st1 : List Value} {fs : List Value} (T : AllDec mi.2.1 tb) (i : Nat) (h : tb[i]? = some (pc, .invokevirtual index, 3)) (hq : pc + 3 = q) (X : Xok w) (hL : LkV mi.1 index y mj n) (hC : Ct w y mj (.ref b :: av) φ' g o') (hR : Rok mi mj) (hn : av.length = n) (hst : st1 = av.reverse ++ .ref b :: st) (hw : (st.map fun v => v.category).sum ≤ 8) {k0 : Nat} (he : (w.1 g)[k0]? = some (b, .inr (ci, fs))) {TT : u_T} {N : Nat} (hc : vwCl[ci]? = some (y.cls, TT, N)) (k : ∀ t' : τ', Go w mi φ (φ' t').2 q lv ((φ' t').1.toList ++ st) (K t')) : Go w mi φ g pc lv st1 (Option.bind o' K) := by
  intro t ho p l e s m args below meth c H locs C hP hD hS ls hl
  subst hq
  cases ho' : o' with
  | none => rw [ho'] at ho; cases ho
  | some t' =>
    rw [ho'] at ho
    have ho : K t' = some t := ho
    have hts := C.2.2.2.2.2.1
    obtain ⟨⟨l1, l2, l3, l4, l5⟩, l6, l7, l8⟩ := hL
    have cb := callB_of (R := mi.2.2.2.1) (own := mi.1) (index := index) n hts (Wt_goodIn l1) rfl hR.1 hR.2.1 (hts _ l2) (hts _ l6) ⟨l3, l4, l5⟩ ⟨hR.2.2.1, hR.2.2.2⟩
    refine call_on (a := (Value.ref b :: av).toArray) (v2 := (φ' t').1) (g2 := (φ' t').2) ho C hS hl ?_ (k t')
    exact va_runV (C := y.cls) (b := b) (As := av) (rest := st) ⟨C.1, C.2.1, C.2.2.2.1, C.2.2.2.2.1, hts⟩ (hC t' ho' l) ⟨cb, hts _ l7, hts _ l8⟩ ⟨pc_blind X, va_recv C.2.2.2.2.2.2.2.1 hP hc he, fun U hU hW => ⟨rfl, by rw [hU]; exact hP, va_K.moved hW.alike C.2.2.2.2.2.2.2.1, hD, X.1 s U H locs hW hU hS C.2.2.2.2.2.2.2.2⟩⟩ rfl hn hl.1 hst (lv_room hw) (T.at h) ⟨Nat.zero_le _, Nat.zero_le _⟩
/-- a nest mate's private static method -/
def LkN (w : Wd) (own : String) (index : Nat) (y : MethodName) (mj : Mi) (n : Nat) (host : String) : Prop := LkB y mj n ∧ Cond.static y ∈ Wt ∧ ∀ s : State, w.2.2.2.2 s → va_Nw (.methodLinkNest own index y host) s
set_option maxHeartbeats 2000000 in
theorem go_callN {τ : Type} {w : Wd} {mi : Mi} {φ : τ → Option Value × G} {g : G} {lv : List (Nat × Value)} {st : List Value} {tb : List (Nat × ClassFile.Instr × Nat)} {pc q : Nat} {τ' : Type} {φ' : τ' → Option Value × G} {o' : Option τ'} {K : τ' → Option τ} {index n : Nat} {y : MethodName} {mj : Mi} {av : List Value} {st1 : List Value} {host : String} (T : AllDec mi.2.1 tb) (i : Nat) (h : tb[i]? = some (pc, .invokestatic index, 3)) (hq : pc + 3 = q) (X : Xok w) (hL : LkN w mi.1 index y mj n host) (hC : Ct w y mj av φ' g o') (hR : Rok mi mj) (hn : av.length = n) (hst : st1 = av.reverse ++ st) (hw : (st.map fun v => v.category).sum ≤ 8) (k : ∀ t' : τ', Go w mi φ (φ' t').2 q lv ((φ' t').1.toList ++ st) (K t')) : Go w mi φ g pc lv st1 (Option.bind o' K) := by
  intro t ho p l e s m args below meth c H locs C hP hD hS ls hl
  subst hq
  cases ho' : o' with
  | none => rw [ho'] at ho; cases ho
  | some t' =>
    rw [ho'] at ho
    have ho : K t' = some t := ho
    have hts := C.2.2.2.2.2.1
    obtain ⟨⟨l1, l2, l3, l4, l5⟩, l6, l7⟩ := hL
    have cb := va_cnB (R := mi.2.2.2.1) (own := mi.1) (index := index) (host := host) n hts (Wt_goodIn l1) rfl hR.1 hR.2.1 (l7 s C.2.2.2.2.2.2.2.2) (hts _ l2) ⟨l3, l4, l5⟩ ⟨hR.2.2.1, hR.2.2.2⟩
    refine call_on (a := av.toArray) (v2 := (φ' t').1) (g2 := (φ' t').2) ho C hS hl ?_ (k t')
    exact va_runSN (As := av) (rest := st) ⟨C.1, C.2.1, C.2.2.2.1, C.2.2.2.2.1, hts⟩ (hC t' ho' l) ⟨cb, hts _ l6, trivial⟩ ⟨pc_blind X, fun U hU hW => ⟨rfl, by rw [hU]; exact hP, va_K.moved hW.alike C.2.2.2.2.2.2.2.1, hD, X.1 s U H locs hW hU hS C.2.2.2.2.2.2.2.2⟩⟩ rfl hn hl.1 hst (lv_room hw) (T.at h) ⟨Nat.zero_le _, Nat.zero_le _⟩

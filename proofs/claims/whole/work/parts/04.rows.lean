def nf {β : Type} (x : UInt32) (k : Option β) : Option β := if x &&& 2147483647 ≤ 2139095040 then k else none
def nd {β : Type} (x : UInt64) (k : Option β) : Option β := if x &&& 9223372036854775807 ≤ 9218868437227405312 then k else none
theorem go_aload {τ : Type} {w : Wd} {mi : Mi} {φ : τ → Option Value × G} {g : G} {lv : List (Nat × Value)} {st : List Value} {tb : List (Nat × ClassFile.Instr × Nat)} {pc q : Nat} {o : Option τ} {j : Nat} {x : Nat} (T : AllDec mi.2.1 tb) (i : Nat) (h : tb[i]? = some (pc, .aload j, 2)) (hq : pc + 2 = q) (d : Nat) (hj : lv[d]? = some (j, .ref x)) (k : Go w mi φ g q lv (.ref x :: st) o) : Go w mi φ g pc lv (st) o := by
  intro t ho p l e s m args below meth c H locs C hP hD hS ls hl
  subst hq
  exact lv_aload C.1 C.2.1 (T.at h) (lv_at hl d hj) (k t ho p l e s m args below meth c H locs C hP hD hS ls hl)
theorem go_aload_n {τ : Type} {w : Wd} {mi : Mi} {φ : τ → Option Value × G} {g : G} {lv : List (Nat × Value)} {st : List Value} {tb : List (Nat × ClassFile.Instr × Nat)} {pc q : Nat} {o : Option τ} {j : Fin 4} {x : Nat} (T : AllDec mi.2.1 tb) (i : Nat) (h : tb[i]? = some (pc, .aload_n j, 1)) (hq : pc + 1 = q) (d : Nat) (hj : lv[d]? = some (j.val, .ref x)) (k : Go w mi φ g q lv (.ref x :: st) o) : Go w mi φ g pc lv (st) o := by
  intro t ho p l e s m args below meth c H locs C hP hD hS ls hl
  subst hq
  exact lv_aload_n C.1 C.2.1 (T.at h) rfl (lv_at hl d hj) (k t ho p l e s m args below meth c H locs C hP hD hS ls hl)
theorem go_iload {τ : Type} {w : Wd} {mi : Mi} {φ : τ → Option Value × G} {g : G} {lv : List (Nat × Value)} {st : List Value} {tb : List (Nat × ClassFile.Instr × Nat)} {pc q : Nat} {o : Option τ} {j : Nat} {x : Int32} (T : AllDec mi.2.1 tb) (i : Nat) (h : tb[i]? = some (pc, .iload j, 2)) (hq : pc + 2 = q) (d : Nat) (hj : lv[d]? = some (j, .int x)) (k : Go w mi φ g q lv (.int x :: st) o) : Go w mi φ g pc lv (st) o := by
  intro t ho p l e s m args below meth c H locs C hP hD hS ls hl
  subst hq
  exact lv_iload C.1 C.2.1 (T.at h) (lv_at hl d hj) (k t ho p l e s m args below meth c H locs C hP hD hS ls hl)
theorem go_iload_n {τ : Type} {w : Wd} {mi : Mi} {φ : τ → Option Value × G} {g : G} {lv : List (Nat × Value)} {st : List Value} {tb : List (Nat × ClassFile.Instr × Nat)} {pc q : Nat} {o : Option τ} {j : Fin 4} {x : Int32} (T : AllDec mi.2.1 tb) (i : Nat) (h : tb[i]? = some (pc, .iload_n j, 1)) (hq : pc + 1 = q) (d : Nat) (hj : lv[d]? = some (j.val, .int x)) (k : Go w mi φ g q lv (.int x :: st) o) : Go w mi φ g pc lv (st) o := by
  intro t ho p l e s m args below meth c H locs C hP hD hS ls hl
  subst hq
  exact lv_iload_n C.1 C.2.1 (T.at h) rfl (lv_at hl d hj) (k t ho p l e s m args below meth c H locs C hP hD hS ls hl)
theorem go_fload {τ : Type} {w : Wd} {mi : Mi} {φ : τ → Option Value × G} {g : G} {lv : List (Nat × Value)} {st : List Value} {tb : List (Nat × ClassFile.Instr × Nat)} {pc q : Nat} {o : Option τ} {j : Nat} {x : UInt32} (T : AllDec mi.2.1 tb) (i : Nat) (h : tb[i]? = some (pc, .fload j, 2)) (hq : pc + 2 = q) (d : Nat) (hj : lv[d]? = some (j, .float x)) (k : Go w mi φ g q lv (.float x :: st) o) : Go w mi φ g pc lv (st) o := by
  intro t ho p l e s m args below meth c H locs C hP hD hS ls hl
  subst hq
  exact lv_fload C.1 C.2.1 (T.at h) (lv_at hl d hj) (k t ho p l e s m args below meth c H locs C hP hD hS ls hl)
theorem go_fload_n {τ : Type} {w : Wd} {mi : Mi} {φ : τ → Option Value × G} {g : G} {lv : List (Nat × Value)} {st : List Value} {tb : List (Nat × ClassFile.Instr × Nat)} {pc q : Nat} {o : Option τ} {j : Fin 4} {x : UInt32} (T : AllDec mi.2.1 tb) (i : Nat) (h : tb[i]? = some (pc, .fload_n j, 1)) (hq : pc + 1 = q) (d : Nat) (hj : lv[d]? = some (j.val, .float x)) (k : Go w mi φ g q lv (.float x :: st) o) : Go w mi φ g pc lv (st) o := by
  intro t ho p l e s m args below meth c H locs C hP hD hS ls hl
  subst hq
  exact lv_fload_n C.1 C.2.1 (T.at h) rfl (lv_at hl d hj) (k t ho p l e s m args below meth c H locs C hP hD hS ls hl)
theorem go_dload {τ : Type} {w : Wd} {mi : Mi} {φ : τ → Option Value × G} {g : G} {lv : List (Nat × Value)} {st : List Value} {tb : List (Nat × ClassFile.Instr × Nat)} {pc q : Nat} {o : Option τ} {j : Nat} {x : UInt64} (T : AllDec mi.2.1 tb) (i : Nat) (h : tb[i]? = some (pc, .dload j, 2)) (hq : pc + 2 = q) (d : Nat) (hj : lv[d]? = some (j, .double x)) (k : Go w mi φ g q lv (.double x :: st) o) : Go w mi φ g pc lv (st) o := by
  intro t ho p l e s m args below meth c H locs C hP hD hS ls hl
  subst hq
  exact lv_dload C.1 C.2.1 (T.at h) (lv_at hl d hj) (k t ho p l e s m args below meth c H locs C hP hD hS ls hl)
theorem go_dload_n {τ : Type} {w : Wd} {mi : Mi} {φ : τ → Option Value × G} {g : G} {lv : List (Nat × Value)} {st : List Value} {tb : List (Nat × ClassFile.Instr × Nat)} {pc q : Nat} {o : Option τ} {j : Fin 4} {x : UInt64} (T : AllDec mi.2.1 tb) (i : Nat) (h : tb[i]? = some (pc, .dload_n j, 1)) (hq : pc + 1 = q) (d : Nat) (hj : lv[d]? = some (j.val, .double x)) (k : Go w mi φ g q lv (.double x :: st) o) : Go w mi φ g pc lv (st) o := by
  intro t ho p l e s m args below meth c H locs C hP hD hS ls hl
  subst hq
  exact lv_dload_n C.1 C.2.1 (T.at h) rfl (lv_at hl d hj) (k t ho p l e s m args below meth c H locs C hP hD hS ls hl)
theorem go_lload {τ : Type} {w : Wd} {mi : Mi} {φ : τ → Option Value × G} {g : G} {lv : List (Nat × Value)} {st : List Value} {tb : List (Nat × ClassFile.Instr × Nat)} {pc q : Nat} {o : Option τ} {j : Nat} {x : Int64} (T : AllDec mi.2.1 tb) (i : Nat) (h : tb[i]? = some (pc, .lload j, 2)) (hq : pc + 2 = q) (d : Nat) (hj : lv[d]? = some (j, .long x)) (k : Go w mi φ g q lv (.long x :: st) o) : Go w mi φ g pc lv (st) o := by
  intro t ho p l e s m args below meth c H locs C hP hD hS ls hl
  subst hq
  exact lv_lload C.1 C.2.1 (T.at h) (lv_at hl d hj) (k t ho p l e s m args below meth c H locs C hP hD hS ls hl)
theorem go_lload_n {τ : Type} {w : Wd} {mi : Mi} {φ : τ → Option Value × G} {g : G} {lv : List (Nat × Value)} {st : List Value} {tb : List (Nat × ClassFile.Instr × Nat)} {pc q : Nat} {o : Option τ} {j : Fin 4} {x : Int64} (T : AllDec mi.2.1 tb) (i : Nat) (h : tb[i]? = some (pc, .lload_n j, 1)) (hq : pc + 1 = q) (d : Nat) (hj : lv[d]? = some (j.val, .long x)) (k : Go w mi φ g q lv (.long x :: st) o) : Go w mi φ g pc lv (st) o := by
  intro t ho p l e s m args below meth c H locs C hP hD hS ls hl
  subst hq
  exact lv_lload_n C.1 C.2.1 (T.at h) rfl (lv_at hl d hj) (k t ho p l e s m args below meth c H locs C hP hD hS ls hl)
theorem go_iconst {τ : Type} {w : Wd} {mi : Mi} {φ : τ → Option Value × G} {g : G} {lv : List (Nat × Value)} {st : List Value} {tb : List (Nat × ClassFile.Instr × Nat)} {pc q : Nat} {o : Option τ} {n : Int} {v : Int32} (T : AllDec mi.2.1 tb) (i : Nat) (h : tb[i]? = some (pc, .iconst n, 1)) (hq : pc + 1 = q) (hv : Int32.ofInt n = v) (k : Go w mi φ g q lv (.int v :: st) o) : Go w mi φ g pc lv (st) o := by
  intro t ho p l e s m args below meth c H locs C hP hD hS ls hl
  subst hq
  exact lv_iconst C.1 C.2.1 (T.at h) hv (k t ho p l e s m args below meth c H locs C hP hD hS ls hl)
theorem go_bipush {τ : Type} {w : Wd} {mi : Mi} {φ : τ → Option Value × G} {g : G} {lv : List (Nat × Value)} {st : List Value} {tb : List (Nat × ClassFile.Instr × Nat)} {pc q : Nat} {o : Option τ} {n : Int} {v : Int32} (T : AllDec mi.2.1 tb) (i : Nat) (h : tb[i]? = some (pc, .bipush n, 2)) (hq : pc + 2 = q) (hv : (Int8.ofInt n).toInt32 = v) (k : Go w mi φ g q lv (.int v :: st) o) : Go w mi φ g pc lv (st) o := by
  intro t ho p l e s m args below meth c H locs C hP hD hS ls hl
  subst hq
  exact lv_bipush C.1 C.2.1 (T.at h) hv (k t ho p l e s m args below meth c H locs C hP hD hS ls hl)
theorem go_sipush {τ : Type} {w : Wd} {mi : Mi} {φ : τ → Option Value × G} {g : G} {lv : List (Nat × Value)} {st : List Value} {tb : List (Nat × ClassFile.Instr × Nat)} {pc q : Nat} {o : Option τ} {n : Int} {v : Int32} (T : AllDec mi.2.1 tb) (i : Nat) (h : tb[i]? = some (pc, .sipush n, 3)) (hq : pc + 3 = q) (hv : (Int16.ofInt n).toInt32 = v) (k : Go w mi φ g q lv (.int v :: st) o) : Go w mi φ g pc lv (st) o := by
  intro t ho p l e s m args below meth c H locs C hP hD hS ls hl
  subst hq
  exact lv_sipush C.1 C.2.1 (T.at h) hv (k t ho p l e s m args below meth c H locs C hP hD hS ls hl)
theorem go_lconst {τ : Type} {w : Wd} {mi : Mi} {φ : τ → Option Value × G} {g : G} {lv : List (Nat × Value)} {st : List Value} {tb : List (Nat × ClassFile.Instr × Nat)} {pc q : Nat} {o : Option τ} {n : Fin 2} {v : Int64} (T : AllDec mi.2.1 tb) (i : Nat) (h : tb[i]? = some (pc, .lconst n, 1)) (hq : pc + 1 = q) (hv : Int64.ofNat (n : Nat) = v) (k : Go w mi φ g q lv (.long v :: st) o) : Go w mi φ g pc lv (st) o := by
  intro t ho p l e s m args below meth c H locs C hP hD hS ls hl
  subst hq
  exact lv_lconst C.1 C.2.1 (T.at h) hv (k t ho p l e s m args below meth c H locs C hP hD hS ls hl)
theorem go_fconst0 {τ : Type} {w : Wd} {mi : Mi} {φ : τ → Option Value × G} {g : G} {lv : List (Nat × Value)} {st : List Value} {tb : List (Nat × ClassFile.Instr × Nat)} {pc q : Nat} {o : Option τ}  (T : AllDec mi.2.1 tb) (i : Nat) (h : tb[i]? = some (pc, .fconst 0, 1)) (hq : pc + 1 = q)  (k : Go w mi φ g q lv (.float FP.fconst0 :: st) o) : Go w mi φ g pc lv (st) o := by
  intro t ho p l e s m args below meth c H locs C hP hD hS ls hl
  subst hq
  exact lv_fconst0 C.1 C.2.1 (T.at h)  (k t ho p l e s m args below meth c H locs C hP hD hS ls hl)
theorem go_fconst1 {τ : Type} {w : Wd} {mi : Mi} {φ : τ → Option Value × G} {g : G} {lv : List (Nat × Value)} {st : List Value} {tb : List (Nat × ClassFile.Instr × Nat)} {pc q : Nat} {o : Option τ}  (T : AllDec mi.2.1 tb) (i : Nat) (h : tb[i]? = some (pc, .fconst 1, 1)) (hq : pc + 1 = q)  (k : Go w mi φ g q lv (.float FP.fconst1 :: st) o) : Go w mi φ g pc lv (st) o := by
  intro t ho p l e s m args below meth c H locs C hP hD hS ls hl
  subst hq
  exact lv_fconst1 C.1 C.2.1 (T.at h)  (k t ho p l e s m args below meth c H locs C hP hD hS ls hl)
theorem go_fconst2 {τ : Type} {w : Wd} {mi : Mi} {φ : τ → Option Value × G} {g : G} {lv : List (Nat × Value)} {st : List Value} {tb : List (Nat × ClassFile.Instr × Nat)} {pc q : Nat} {o : Option τ}  (T : AllDec mi.2.1 tb) (i : Nat) (h : tb[i]? = some (pc, .fconst 2, 1)) (hq : pc + 1 = q)  (k : Go w mi φ g q lv (.float FP.fconst2 :: st) o) : Go w mi φ g pc lv (st) o := by
  intro t ho p l e s m args below meth c H locs C hP hD hS ls hl
  subst hq
  exact lv_fconst2 C.1 C.2.1 (T.at h)  (k t ho p l e s m args below meth c H locs C hP hD hS ls hl)
theorem go_dconst0 {τ : Type} {w : Wd} {mi : Mi} {φ : τ → Option Value × G} {g : G} {lv : List (Nat × Value)} {st : List Value} {tb : List (Nat × ClassFile.Instr × Nat)} {pc q : Nat} {o : Option τ}  (T : AllDec mi.2.1 tb) (i : Nat) (h : tb[i]? = some (pc, .dconst 0, 1)) (hq : pc + 1 = q)  (k : Go w mi φ g q lv (.double FP.dconst0 :: st) o) : Go w mi φ g pc lv (st) o := by
  intro t ho p l e s m args below meth c H locs C hP hD hS ls hl
  subst hq
  exact lv_dconst0 C.1 C.2.1 (T.at h)  (k t ho p l e s m args below meth c H locs C hP hD hS ls hl)
theorem go_dconst1 {τ : Type} {w : Wd} {mi : Mi} {φ : τ → Option Value × G} {g : G} {lv : List (Nat × Value)} {st : List Value} {tb : List (Nat × ClassFile.Instr × Nat)} {pc q : Nat} {o : Option τ}  (T : AllDec mi.2.1 tb) (i : Nat) (h : tb[i]? = some (pc, .dconst 1, 1)) (hq : pc + 1 = q)  (k : Go w mi φ g q lv (.double FP.dconst1 :: st) o) : Go w mi φ g pc lv (st) o := by
  intro t ho p l e s m args below meth c H locs C hP hD hS ls hl
  subst hq
  exact lv_dconst1 C.1 C.2.1 (T.at h)  (k t ho p l e s m args below meth c H locs C hP hD hS ls hl)
theorem go_dup {τ : Type} {w : Wd} {mi : Mi} {φ : τ → Option Value × G} {g : G} {lv : List (Nat × Value)} {st : List Value} {tb : List (Nat × ClassFile.Instr × Nat)} {pc q : Nat} {o : Option τ} {va : Value} (T : AllDec mi.2.1 tb) (i : Nat) (h : tb[i]? = some (pc, .dup, 1)) (hq : pc + 1 = q) (hva : va.category = 1) (k : Go w mi φ g q lv (va :: va :: st) o) : Go w mi φ g pc lv (va :: st) o := by
  intro t ho p l e s m args below meth c H locs C hP hD hS ls hl
  subst hq
  exact lv_dup C.1 C.2.1 (T.at h) hva (k t ho p l e s m args below meth c H locs C hP hD hS ls hl)
theorem go_dup_x1 {τ : Type} {w : Wd} {mi : Mi} {φ : τ → Option Value × G} {g : G} {lv : List (Nat × Value)} {st : List Value} {tb : List (Nat × ClassFile.Instr × Nat)} {pc q : Nat} {o : Option τ} {va vb : Value} (T : AllDec mi.2.1 tb) (i : Nat) (h : tb[i]? = some (pc, .dup_x1, 1)) (hq : pc + 1 = q) (hva : va.category = 1) (hvb : vb.category = 1) (k : Go w mi φ g q lv (va :: vb :: va :: st) o) : Go w mi φ g pc lv (va :: vb :: st) o := by
  intro t ho p l e s m args below meth c H locs C hP hD hS ls hl
  subst hq
  exact lv_dup_x1 C.1 C.2.1 (T.at h) hva hvb (k t ho p l e s m args below meth c H locs C hP hD hS ls hl)
theorem go_pop {τ : Type} {w : Wd} {mi : Mi} {φ : τ → Option Value × G} {g : G} {lv : List (Nat × Value)} {st : List Value} {tb : List (Nat × ClassFile.Instr × Nat)} {pc q : Nat} {o : Option τ} {va : Value} (T : AllDec mi.2.1 tb) (i : Nat) (h : tb[i]? = some (pc, .pop, 1)) (hq : pc + 1 = q) (hva : va.category = 1) (k : Go w mi φ g q lv (st) o) : Go w mi φ g pc lv (va :: st) o := by
  intro t ho p l e s m args below meth c H locs C hP hD hS ls hl
  subst hq
  exact lv_pop C.1 C.2.1 (T.at h) hva (k t ho p l e s m args below meth c H locs C hP hD hS ls hl)
theorem go_iadd {τ : Type} {w : Wd} {mi : Mi} {φ : τ → Option Value × G} {g : G} {lv : List (Nat × Value)} {st : List Value} {tb : List (Nat × ClassFile.Instr × Nat)} {pc q : Nat} {o : Option τ} {x y : Int32} (T : AllDec mi.2.1 tb) (i : Nat) (h : tb[i]? = some (pc, .iadd, 1)) (hq : pc + 1 = q)  (k : Go w mi φ g q lv (.int (x + y) :: st) o) : Go w mi φ g pc lv (.int y :: .int x :: st) o := by
  intro t ho p l e s m args below meth c H locs C hP hD hS ls hl
  subst hq
  exact lv_iadd C.1 C.2.1 (T.at h)  (k t ho p l e s m args below meth c H locs C hP hD hS ls hl)
theorem go_isub {τ : Type} {w : Wd} {mi : Mi} {φ : τ → Option Value × G} {g : G} {lv : List (Nat × Value)} {st : List Value} {tb : List (Nat × ClassFile.Instr × Nat)} {pc q : Nat} {o : Option τ} {x y : Int32} (T : AllDec mi.2.1 tb) (i : Nat) (h : tb[i]? = some (pc, .isub, 1)) (hq : pc + 1 = q)  (k : Go w mi φ g q lv (.int (x - y) :: st) o) : Go w mi φ g pc lv (.int y :: .int x :: st) o := by
  intro t ho p l e s m args below meth c H locs C hP hD hS ls hl
  subst hq
  exact lv_isub C.1 C.2.1 (T.at h)  (k t ho p l e s m args below meth c H locs C hP hD hS ls hl)
theorem go_imul {τ : Type} {w : Wd} {mi : Mi} {φ : τ → Option Value × G} {g : G} {lv : List (Nat × Value)} {st : List Value} {tb : List (Nat × ClassFile.Instr × Nat)} {pc q : Nat} {o : Option τ} {x y : Int32} (T : AllDec mi.2.1 tb) (i : Nat) (h : tb[i]? = some (pc, .imul, 1)) (hq : pc + 1 = q)  (k : Go w mi φ g q lv (.int (x * y) :: st) o) : Go w mi φ g pc lv (.int y :: .int x :: st) o := by
  intro t ho p l e s m args below meth c H locs C hP hD hS ls hl
  subst hq
  exact lv_imul C.1 C.2.1 (T.at h)  (k t ho p l e s m args below meth c H locs C hP hD hS ls hl)
theorem go_iand {τ : Type} {w : Wd} {mi : Mi} {φ : τ → Option Value × G} {g : G} {lv : List (Nat × Value)} {st : List Value} {tb : List (Nat × ClassFile.Instr × Nat)} {pc q : Nat} {o : Option τ} {x y : Int32} (T : AllDec mi.2.1 tb) (i : Nat) (h : tb[i]? = some (pc, .iand, 1)) (hq : pc + 1 = q)  (k : Go w mi φ g q lv (.int (x &&& y) :: st) o) : Go w mi φ g pc lv (.int y :: .int x :: st) o := by
  intro t ho p l e s m args below meth c H locs C hP hD hS ls hl
  subst hq
  exact lv_iand C.1 C.2.1 (T.at h)  (k t ho p l e s m args below meth c H locs C hP hD hS ls hl)
theorem go_ior {τ : Type} {w : Wd} {mi : Mi} {φ : τ → Option Value × G} {g : G} {lv : List (Nat × Value)} {st : List Value} {tb : List (Nat × ClassFile.Instr × Nat)} {pc q : Nat} {o : Option τ} {x y : Int32} (T : AllDec mi.2.1 tb) (i : Nat) (h : tb[i]? = some (pc, .ior, 1)) (hq : pc + 1 = q)  (k : Go w mi φ g q lv (.int (x ||| y) :: st) o) : Go w mi φ g pc lv (.int y :: .int x :: st) o := by
  intro t ho p l e s m args below meth c H locs C hP hD hS ls hl
  subst hq
  exact lv_ior C.1 C.2.1 (T.at h)  (k t ho p l e s m args below meth c H locs C hP hD hS ls hl)
theorem go_ixor {τ : Type} {w : Wd} {mi : Mi} {φ : τ → Option Value × G} {g : G} {lv : List (Nat × Value)} {st : List Value} {tb : List (Nat × ClassFile.Instr × Nat)} {pc q : Nat} {o : Option τ} {x y : Int32} (T : AllDec mi.2.1 tb) (i : Nat) (h : tb[i]? = some (pc, .ixor, 1)) (hq : pc + 1 = q)  (k : Go w mi φ g q lv (.int (x ^^^ y) :: st) o) : Go w mi φ g pc lv (.int y :: .int x :: st) o := by
  intro t ho p l e s m args below meth c H locs C hP hD hS ls hl
  subst hq
  exact lv_ixor C.1 C.2.1 (T.at h)  (k t ho p l e s m args below meth c H locs C hP hD hS ls hl)
theorem go_ishl {τ : Type} {w : Wd} {mi : Mi} {φ : τ → Option Value × G} {g : G} {lv : List (Nat × Value)} {st : List Value} {tb : List (Nat × ClassFile.Instr × Nat)} {pc q : Nat} {o : Option τ} {x y : Int32} (T : AllDec mi.2.1 tb) (i : Nat) (h : tb[i]? = some (pc, .ishl, 1)) (hq : pc + 1 = q)  (k : Go w mi φ g q lv (.int (x <<< (y &&& 31)) :: st) o) : Go w mi φ g pc lv (.int y :: .int x :: st) o := by
  intro t ho p l e s m args below meth c H locs C hP hD hS ls hl
  subst hq
  exact lv_ishl C.1 C.2.1 (T.at h)  (k t ho p l e s m args below meth c H locs C hP hD hS ls hl)
theorem go_ishr {τ : Type} {w : Wd} {mi : Mi} {φ : τ → Option Value × G} {g : G} {lv : List (Nat × Value)} {st : List Value} {tb : List (Nat × ClassFile.Instr × Nat)} {pc q : Nat} {o : Option τ} {x y : Int32} (T : AllDec mi.2.1 tb) (i : Nat) (h : tb[i]? = some (pc, .ishr, 1)) (hq : pc + 1 = q)  (k : Go w mi φ g q lv (.int (x >>> (y &&& 31)) :: st) o) : Go w mi φ g pc lv (.int y :: .int x :: st) o := by
  intro t ho p l e s m args below meth c H locs C hP hD hS ls hl
  subst hq
  exact lv_ishr C.1 C.2.1 (T.at h)  (k t ho p l e s m args below meth c H locs C hP hD hS ls hl)
theorem go_iushr {τ : Type} {w : Wd} {mi : Mi} {φ : τ → Option Value × G} {g : G} {lv : List (Nat × Value)} {st : List Value} {tb : List (Nat × ClassFile.Instr × Nat)} {pc q : Nat} {o : Option τ} {x y : Int32} (T : AllDec mi.2.1 tb) (i : Nat) (h : tb[i]? = some (pc, .iushr, 1)) (hq : pc + 1 = q)  (k : Go w mi φ g q lv (.int ((x.toUInt32 >>> (y.toUInt32 &&& Int32.toUInt32 31)).toInt32) :: st) o) : Go w mi φ g pc lv (.int y :: .int x :: st) o := by
  intro t ho p l e s m args below meth c H locs C hP hD hS ls hl
  subst hq
  exact lv_iushr C.1 C.2.1 (T.at h) rfl (k t ho p l e s m args below meth c H locs C hP hD hS ls hl)
theorem go_ineg {τ : Type} {w : Wd} {mi : Mi} {φ : τ → Option Value × G} {g : G} {lv : List (Nat × Value)} {st : List Value} {tb : List (Nat × ClassFile.Instr × Nat)} {pc q : Nat} {o : Option τ} {x : Int32} (T : AllDec mi.2.1 tb) (i : Nat) (h : tb[i]? = some (pc, .ineg, 1)) (hq : pc + 1 = q)  (k : Go w mi φ g q lv (.int (-x) :: st) o) : Go w mi φ g pc lv (.int x :: st) o := by
  intro t ho p l e s m args below meth c H locs C hP hD hS ls hl
  subst hq
  exact lv_ineg C.1 C.2.1 (T.at h)  (k t ho p l e s m args below meth c H locs C hP hD hS ls hl)
theorem go_ladd {τ : Type} {w : Wd} {mi : Mi} {φ : τ → Option Value × G} {g : G} {lv : List (Nat × Value)} {st : List Value} {tb : List (Nat × ClassFile.Instr × Nat)} {pc q : Nat} {o : Option τ} {x y : Int64} (T : AllDec mi.2.1 tb) (i : Nat) (h : tb[i]? = some (pc, .ladd, 1)) (hq : pc + 1 = q)  (k : Go w mi φ g q lv (.long (x + y) :: st) o) : Go w mi φ g pc lv (.long y :: .long x :: st) o := by
  intro t ho p l e s m args below meth c H locs C hP hD hS ls hl
  subst hq
  exact lv_ladd C.1 C.2.1 (T.at h)  (k t ho p l e s m args below meth c H locs C hP hD hS ls hl)
theorem go_lsub {τ : Type} {w : Wd} {mi : Mi} {φ : τ → Option Value × G} {g : G} {lv : List (Nat × Value)} {st : List Value} {tb : List (Nat × ClassFile.Instr × Nat)} {pc q : Nat} {o : Option τ} {x y : Int64} (T : AllDec mi.2.1 tb) (i : Nat) (h : tb[i]? = some (pc, .lsub, 1)) (hq : pc + 1 = q)  (k : Go w mi φ g q lv (.long (x - y) :: st) o) : Go w mi φ g pc lv (.long y :: .long x :: st) o := by
  intro t ho p l e s m args below meth c H locs C hP hD hS ls hl
  subst hq
  exact lv_lsub C.1 C.2.1 (T.at h)  (k t ho p l e s m args below meth c H locs C hP hD hS ls hl)
theorem go_lmul {τ : Type} {w : Wd} {mi : Mi} {φ : τ → Option Value × G} {g : G} {lv : List (Nat × Value)} {st : List Value} {tb : List (Nat × ClassFile.Instr × Nat)} {pc q : Nat} {o : Option τ} {x y : Int64} (T : AllDec mi.2.1 tb) (i : Nat) (h : tb[i]? = some (pc, .lmul, 1)) (hq : pc + 1 = q)  (k : Go w mi φ g q lv (.long (x * y) :: st) o) : Go w mi φ g pc lv (.long y :: .long x :: st) o := by
  intro t ho p l e s m args below meth c H locs C hP hD hS ls hl
  subst hq
  exact lv_lmul C.1 C.2.1 (T.at h)  (k t ho p l e s m args below meth c H locs C hP hD hS ls hl)
theorem go_land {τ : Type} {w : Wd} {mi : Mi} {φ : τ → Option Value × G} {g : G} {lv : List (Nat × Value)} {st : List Value} {tb : List (Nat × ClassFile.Instr × Nat)} {pc q : Nat} {o : Option τ} {x y : Int64} (T : AllDec mi.2.1 tb) (i : Nat) (h : tb[i]? = some (pc, .land, 1)) (hq : pc + 1 = q)  (k : Go w mi φ g q lv (.long (x &&& y) :: st) o) : Go w mi φ g pc lv (.long y :: .long x :: st) o := by
  intro t ho p l e s m args below meth c H locs C hP hD hS ls hl
  subst hq
  exact lv_land C.1 C.2.1 (T.at h)  (k t ho p l e s m args below meth c H locs C hP hD hS ls hl)
theorem go_lor {τ : Type} {w : Wd} {mi : Mi} {φ : τ → Option Value × G} {g : G} {lv : List (Nat × Value)} {st : List Value} {tb : List (Nat × ClassFile.Instr × Nat)} {pc q : Nat} {o : Option τ} {x y : Int64} (T : AllDec mi.2.1 tb) (i : Nat) (h : tb[i]? = some (pc, .lor, 1)) (hq : pc + 1 = q)  (k : Go w mi φ g q lv (.long (x ||| y) :: st) o) : Go w mi φ g pc lv (.long y :: .long x :: st) o := by
  intro t ho p l e s m args below meth c H locs C hP hD hS ls hl
  subst hq
  exact lv_lor C.1 C.2.1 (T.at h)  (k t ho p l e s m args below meth c H locs C hP hD hS ls hl)
theorem go_lshl {τ : Type} {w : Wd} {mi : Mi} {φ : τ → Option Value × G} {g : G} {lv : List (Nat × Value)} {st : List Value} {tb : List (Nat × ClassFile.Instr × Nat)} {pc q : Nat} {o : Option τ} {x : Int64} {y : Int32} (T : AllDec mi.2.1 tb) (i : Nat) (h : tb[i]? = some (pc, .lshl, 1)) (hq : pc + 1 = q)  (k : Go w mi φ g q lv (.long (x <<< (y.toInt64 &&& 63)) :: st) o) : Go w mi φ g pc lv (.int y :: .long x :: st) o := by
  intro t ho p l e s m args below meth c H locs C hP hD hS ls hl
  subst hq
  exact lv_lshl C.1 C.2.1 (T.at h) rfl (k t ho p l e s m args below meth c H locs C hP hD hS ls hl)
theorem go_lshr {τ : Type} {w : Wd} {mi : Mi} {φ : τ → Option Value × G} {g : G} {lv : List (Nat × Value)} {st : List Value} {tb : List (Nat × ClassFile.Instr × Nat)} {pc q : Nat} {o : Option τ} {x : Int64} {y : Int32} (T : AllDec mi.2.1 tb) (i : Nat) (h : tb[i]? = some (pc, .lshr, 1)) (hq : pc + 1 = q)  (k : Go w mi φ g q lv (.long (x >>> (y.toInt64 &&& 63)) :: st) o) : Go w mi φ g pc lv (.int y :: .long x :: st) o := by
  intro t ho p l e s m args below meth c H locs C hP hD hS ls hl
  subst hq
  exact lv_lshr C.1 C.2.1 (T.at h) rfl (k t ho p l e s m args below meth c H locs C hP hD hS ls hl)
theorem go_i2f {τ : Type} {w : Wd} {mi : Mi} {φ : τ → Option Value × G} {g : G} {lv : List (Nat × Value)} {st : List Value} {tb : List (Nat × ClassFile.Instr × Nat)} {pc q : Nat} {o : Option τ} {x : Int32} (T : AllDec mi.2.1 tb) (i : Nat) (h : tb[i]? = some (pc, .i2f, 1)) (hq : pc + 1 = q)  (k : Go w mi φ g q lv (.float (FP.i2f x) :: st) o) : Go w mi φ g pc lv (.int x :: st) o := by
  intro t ho p l e s m args below meth c H locs C hP hD hS ls hl
  subst hq
  exact lv_i2f C.1 C.2.1 (T.at h)  (k t ho p l e s m args below meth c H locs C hP hD hS ls hl)
theorem go_i2d {τ : Type} {w : Wd} {mi : Mi} {φ : τ → Option Value × G} {g : G} {lv : List (Nat × Value)} {st : List Value} {tb : List (Nat × ClassFile.Instr × Nat)} {pc q : Nat} {o : Option τ} {x : Int32} (T : AllDec mi.2.1 tb) (i : Nat) (h : tb[i]? = some (pc, .i2d, 1)) (hq : pc + 1 = q)  (k : Go w mi φ g q lv (.double (FP.i2d x) :: st) o) : Go w mi φ g pc lv (.int x :: st) o := by
  intro t ho p l e s m args below meth c H locs C hP hD hS ls hl
  subst hq
  exact lv_i2d C.1 C.2.1 (T.at h)  (k t ho p l e s m args below meth c H locs C hP hD hS ls hl)
theorem go_i2l {τ : Type} {w : Wd} {mi : Mi} {φ : τ → Option Value × G} {g : G} {lv : List (Nat × Value)} {st : List Value} {tb : List (Nat × ClassFile.Instr × Nat)} {pc q : Nat} {o : Option τ} {x : Int32} (T : AllDec mi.2.1 tb) (i : Nat) (h : tb[i]? = some (pc, .i2l, 1)) (hq : pc + 1 = q)  (k : Go w mi φ g q lv (.long x.toInt64 :: st) o) : Go w mi φ g pc lv (.int x :: st) o := by
  intro t ho p l e s m args below meth c H locs C hP hD hS ls hl
  subst hq
  exact lv_i2l C.1 C.2.1 (T.at h) rfl (k t ho p l e s m args below meth c H locs C hP hD hS ls hl)
theorem go_l2i {τ : Type} {w : Wd} {mi : Mi} {φ : τ → Option Value × G} {g : G} {lv : List (Nat × Value)} {st : List Value} {tb : List (Nat × ClassFile.Instr × Nat)} {pc q : Nat} {o : Option τ} {x : Int64} (T : AllDec mi.2.1 tb) (i : Nat) (h : tb[i]? = some (pc, .l2i, 1)) (hq : pc + 1 = q)  (k : Go w mi φ g q lv (.int x.toInt32 :: st) o) : Go w mi φ g pc lv (.long x :: st) o := by
  intro t ho p l e s m args below meth c H locs C hP hD hS ls hl
  subst hq
  exact lv_l2i C.1 C.2.1 (T.at h) rfl (k t ho p l e s m args below meth c H locs C hP hD hS ls hl)
theorem go_f2i {τ : Type} {w : Wd} {mi : Mi} {φ : τ → Option Value × G} {g : G} {lv : List (Nat × Value)} {st : List Value} {tb : List (Nat × ClassFile.Instr × Nat)} {pc q : Nat} {o : Option τ} {x : UInt32} (T : AllDec mi.2.1 tb) (i : Nat) (h : tb[i]? = some (pc, .f2i, 1)) (hq : pc + 1 = q)  (k : Go w mi φ g q lv (.int (FP.f2i x) :: st) o) : Go w mi φ g pc lv (.float x :: st) o := by
  intro t ho p l e s m args below meth c H locs C hP hD hS ls hl
  subst hq
  exact lv_f2i C.1 C.2.1 (T.at h)  (k t ho p l e s m args below meth c H locs C hP hD hS ls hl)
theorem go_d2l {τ : Type} {w : Wd} {mi : Mi} {φ : τ → Option Value × G} {g : G} {lv : List (Nat × Value)} {st : List Value} {tb : List (Nat × ClassFile.Instr × Nat)} {pc q : Nat} {o : Option τ} {x : UInt64} (T : AllDec mi.2.1 tb) (i : Nat) (h : tb[i]? = some (pc, .d2l, 1)) (hq : pc + 1 = q)  (k : Go w mi φ g q lv (.long (FP.d2l x) :: st) o) : Go w mi φ g pc lv (.double x :: st) o := by
  intro t ho p l e s m args below meth c H locs C hP hD hS ls hl
  subst hq
  exact lv_d2l C.1 C.2.1 (T.at h)  (k t ho p l e s m args below meth c H locs C hP hD hS ls hl)
theorem go_fcmp {τ : Type} {w : Wd} {mi : Mi} {φ : τ → Option Value × G} {g : G} {lv : List (Nat × Value)} {st : List Value} {tb : List (Nat × ClassFile.Instr × Nat)} {pc q : Nat} {o : Option τ} {x y : UInt32} {op : CmpOp} (T : AllDec mi.2.1 tb) (i : Nat) (h : tb[i]? = some (pc, .fcmp op, 1)) (hq : pc + 1 = q)  (k : Go w mi φ g q lv (.int (Op.cmpValue (FP.fcmp x y) op) :: st) o) : Go w mi φ g pc lv (.float y :: .float x :: st) o := by
  intro t ho p l e s m args below meth c H locs C hP hD hS ls hl
  subst hq
  exact lv_fcmp C.1 C.2.1 (T.at h)  (k t ho p l e s m args below meth c H locs C hP hD hS ls hl)
theorem go_dcmp {τ : Type} {w : Wd} {mi : Mi} {φ : τ → Option Value × G} {g : G} {lv : List (Nat × Value)} {st : List Value} {tb : List (Nat × ClassFile.Instr × Nat)} {pc q : Nat} {o : Option τ} {x y : UInt64} {op : CmpOp} (T : AllDec mi.2.1 tb) (i : Nat) (h : tb[i]? = some (pc, .dcmp op, 1)) (hq : pc + 1 = q)  (k : Go w mi φ g q lv (.int (Op.cmpValue (FP.dcmp x y) op) :: st) o) : Go w mi φ g pc lv (.double y :: .double x :: st) o := by
  intro t ho p l e s m args below meth c H locs C hP hD hS ls hl
  subst hq
  exact lv_dcmp C.1 C.2.1 (T.at h)  (k t ho p l e s m args below meth c H locs C hP hD hS ls hl)
theorem go_idiv {τ : Type} {w : Wd} {mi : Mi} {φ : τ → Option Value × G} {g : G} {lv : List (Nat × Value)} {st : List Value} {tb : List (Nat × ClassFile.Instr × Nat)} {pc q : Nat} {o : Option τ} {x y : Int32} (T : AllDec mi.2.1 tb) (i : Nat) (h : tb[i]? = some (pc, .idiv, 1)) (hq : pc + 1 = q) (k : Go w mi φ g q lv (.int (x / y) :: st) o) : Go w mi φ g pc lv (.int y :: .int x :: st) (dz y o) := by
  intro t ho
  have hg : ¬ y = 0 := by
    intro hz
    simp [dz, dzl, nf, nd, hz] at ho
  have ho : o = some t := by
    first | simpa [dz, dzl, nf, nd, hg] using ho | simpa [nf, nd, Classical.not_not.mp hg] using ho
  intro p l e s m args below meth c H locs C hP hD hS ls hl
  subst hq
  exact lv_idiv C.1 C.2.1 (T.at h) hg (k t ho p l e s m args below meth c H locs C hP hD hS ls hl)
theorem go_irem {τ : Type} {w : Wd} {mi : Mi} {φ : τ → Option Value × G} {g : G} {lv : List (Nat × Value)} {st : List Value} {tb : List (Nat × ClassFile.Instr × Nat)} {pc q : Nat} {o : Option τ} {x y : Int32} (T : AllDec mi.2.1 tb) (i : Nat) (h : tb[i]? = some (pc, .irem, 1)) (hq : pc + 1 = q) (k : Go w mi φ g q lv (.int (x - x / y * y) :: st) o) : Go w mi φ g pc lv (.int y :: .int x :: st) (dz y o) := by
  intro t ho
  have hg : ¬ y = 0 := by
    intro hz
    simp [dz, dzl, nf, nd, hz] at ho
  have ho : o = some t := by
    first | simpa [dz, dzl, nf, nd, hg] using ho | simpa [nf, nd, Classical.not_not.mp hg] using ho
  intro p l e s m args below meth c H locs C hP hD hS ls hl
  subst hq
  exact lv_irem C.1 C.2.1 (T.at h) hg (k t ho p l e s m args below meth c H locs C hP hD hS ls hl)
theorem go_lrem {τ : Type} {w : Wd} {mi : Mi} {φ : τ → Option Value × G} {g : G} {lv : List (Nat × Value)} {st : List Value} {tb : List (Nat × ClassFile.Instr × Nat)} {pc q : Nat} {o : Option τ} {x y : Int64} (T : AllDec mi.2.1 tb) (i : Nat) (h : tb[i]? = some (pc, .lrem, 1)) (hq : pc + 1 = q) (k : Go w mi φ g q lv (.long (x - x / y * y) :: st) o) : Go w mi φ g pc lv (.long y :: .long x :: st) (dzl y o) := by
  intro t ho
  have hg : ¬ y = 0 := by
    intro hz
    simp [dz, dzl, nf, nd, hz] at ho
  have ho : o = some t := by
    first | simpa [dz, dzl, nf, nd, hg] using ho | simpa [nf, nd, Classical.not_not.mp hg] using ho
  intro p l e s m args below meth c H locs C hP hD hS ls hl
  subst hq
  exact lv_lrem C.1 C.2.1 (T.at h) hg (k t ho p l e s m args below meth c H locs C hP hD hS ls hl)
theorem go_fadd {τ : Type} {w : Wd} {mi : Mi} {φ : τ → Option Value × G} {g : G} {lv : List (Nat × Value)} {st : List Value} {tb : List (Nat × ClassFile.Instr × Nat)} {pc q : Nat} {o : Option τ} {x y : UInt32} (T : AllDec mi.2.1 tb) (i : Nat) (h : tb[i]? = some (pc, .fadd, 1)) (hq : pc + 1 = q) (k : Go w mi φ g q lv (.float (FP.fadd x y) :: st) o) : Go w mi φ g pc lv (.float y :: .float x :: st) (nf (FP.fadd x y) o) := by
  intro t ho
  have hg : ¬ ¬ (FP.fadd x y) &&& 2147483647 ≤ 2139095040 := by
    intro hz
    simp [dz, dzl, nf, nd, hz] at ho
  have ho : o = some t := by
    first | simpa [dz, dzl, nf, nd, hg] using ho | simpa [nf, nd, Classical.not_not.mp hg] using ho
  intro p l e s m args below meth c H locs C hP hD hS ls hl
  subst hq
  exact lv_fadd C.1 C.2.1 (T.at h) (Classical.not_not.mp hg) (k t ho p l e s m args below meth c H locs C hP hD hS ls hl)
theorem go_fdiv {τ : Type} {w : Wd} {mi : Mi} {φ : τ → Option Value × G} {g : G} {lv : List (Nat × Value)} {st : List Value} {tb : List (Nat × ClassFile.Instr × Nat)} {pc q : Nat} {o : Option τ} {x y : UInt32} (T : AllDec mi.2.1 tb) (i : Nat) (h : tb[i]? = some (pc, .fdiv, 1)) (hq : pc + 1 = q) (k : Go w mi φ g q lv (.float (FP.fdiv x y) :: st) o) : Go w mi φ g pc lv (.float y :: .float x :: st) (nf (FP.fdiv x y) o) := by
  intro t ho
  have hg : ¬ ¬ (FP.fdiv x y) &&& 2147483647 ≤ 2139095040 := by
    intro hz
    simp [dz, dzl, nf, nd, hz] at ho
  have ho : o = some t := by
    first | simpa [dz, dzl, nf, nd, hg] using ho | simpa [nf, nd, Classical.not_not.mp hg] using ho
  intro p l e s m args below meth c H locs C hP hD hS ls hl
  subst hq
  exact lv_fdiv C.1 C.2.1 (T.at h) (Classical.not_not.mp hg) (k t ho p l e s m args below meth c H locs C hP hD hS ls hl)
theorem go_fmul {τ : Type} {w : Wd} {mi : Mi} {φ : τ → Option Value × G} {g : G} {lv : List (Nat × Value)} {st : List Value} {tb : List (Nat × ClassFile.Instr × Nat)} {pc q : Nat} {o : Option τ} {x y : UInt32} (T : AllDec mi.2.1 tb) (i : Nat) (h : tb[i]? = some (pc, .fmul, 1)) (hq : pc + 1 = q) (k : Go w mi φ g q lv (.float (FP.fmul x y) :: st) o) : Go w mi φ g pc lv (.float y :: .float x :: st) (nf (FP.fmul x y) o) := by
  intro t ho
  have hg : ¬ ¬ (FP.fmul x y) &&& 2147483647 ≤ 2139095040 := by
    intro hz
    simp [dz, dzl, nf, nd, hz] at ho
  have ho : o = some t := by
    first | simpa [dz, dzl, nf, nd, hg] using ho | simpa [nf, nd, Classical.not_not.mp hg] using ho
  intro p l e s m args below meth c H locs C hP hD hS ls hl
  subst hq
  exact lv_fmul C.1 C.2.1 (T.at h) (Classical.not_not.mp hg) (k t ho p l e s m args below meth c H locs C hP hD hS ls hl)
theorem go_ddiv {τ : Type} {w : Wd} {mi : Mi} {φ : τ → Option Value × G} {g : G} {lv : List (Nat × Value)} {st : List Value} {tb : List (Nat × ClassFile.Instr × Nat)} {pc q : Nat} {o : Option τ} {x y : UInt64} (T : AllDec mi.2.1 tb) (i : Nat) (h : tb[i]? = some (pc, .ddiv, 1)) (hq : pc + 1 = q) (k : Go w mi φ g q lv (.double (FP.ddiv x y) :: st) o) : Go w mi φ g pc lv (.double y :: .double x :: st) (nd (FP.ddiv x y) o) := by
  intro t ho
  have hg : ¬ ¬ (FP.ddiv x y) &&& 9223372036854775807 ≤ 9218868437227405312 := by
    intro hz
    simp [dz, dzl, nf, nd, hz] at ho
  have ho : o = some t := by
    first | simpa [dz, dzl, nf, nd, hg] using ho | simpa [nf, nd, Classical.not_not.mp hg] using ho
  intro p l e s m args below meth c H locs C hP hD hS ls hl
  subst hq
  exact lv_ddiv C.1 C.2.1 (T.at h) (Classical.not_not.mp hg) (k t ho p l e s m args below meth c H locs C hP hD hS ls hl)
theorem go_dmul {τ : Type} {w : Wd} {mi : Mi} {φ : τ → Option Value × G} {g : G} {lv : List (Nat × Value)} {st : List Value} {tb : List (Nat × ClassFile.Instr × Nat)} {pc q : Nat} {o : Option τ} {x y : UInt64} (T : AllDec mi.2.1 tb) (i : Nat) (h : tb[i]? = some (pc, .dmul, 1)) (hq : pc + 1 = q) (k : Go w mi φ g q lv (.double (FP.dmul x y) :: st) o) : Go w mi φ g pc lv (.double y :: .double x :: st) (nd (FP.dmul x y) o) := by
  intro t ho
  have hg : ¬ ¬ (FP.dmul x y) &&& 9223372036854775807 ≤ 9218868437227405312 := by
    intro hz
    simp [dz, dzl, nf, nd, hz] at ho
  have ho : o = some t := by
    first | simpa [dz, dzl, nf, nd, hg] using ho | simpa [nf, nd, Classical.not_not.mp hg] using ho
  intro p l e s m args below meth c H locs C hP hD hS ls hl
  subst hq
  exact lv_dmul C.1 C.2.1 (T.at h) (Classical.not_not.mp hg) (k t ho p l e s m args below meth c H locs C hP hD hS ls hl)
theorem go_istore {τ : Type} {w : Wd} {mi : Mi} {φ : τ → Option Value × G} {g : G} {lv : List (Nat × Value)} {st : List Value} {tb : List (Nat × ClassFile.Instr × Nat)} {pc q : Nat} {o : Option τ} {j : Nat} {x : Int32} (lv' : List (Nat × Value)) (T : AllDec mi.2.1 tb) (i : Nat) (h : tb[i]? = some (pc, .istore j, 2)) (hq : pc + 2 = q) (hn : j < mi.2.2.1) (hlv : (j, Value.int x) :: lv.filter (fun q => !(q.1 == j) && !(q.1 + 1 == j && q.2.category == 2)) = lv') (k : Go w mi φ g q lv' st o) : Go w mi φ g pc lv (.int x :: st) o := by
  intro t ho p l e s m args below meth c H locs C hP hD hS ls hl
  subst hq
  exact lv_istore C.1 C.2.1 (T.at h) hl hn hlv (fun ls' hl' => k t ho p l e s m args below meth c H locs C hP hD hS ls' hl')
theorem go_istore_n {τ : Type} {w : Wd} {mi : Mi} {φ : τ → Option Value × G} {g : G} {lv : List (Nat × Value)} {st : List Value} {tb : List (Nat × ClassFile.Instr × Nat)} {pc q : Nat} {o : Option τ} {j : Fin 4} {x : Int32} (lv' : List (Nat × Value)) (T : AllDec mi.2.1 tb) (i : Nat) (h : tb[i]? = some (pc, .istore_n j, 1)) (hq : pc + 1 = q) (hn : j.val < mi.2.2.1) (hlv : (j.val, Value.int x) :: lv.filter (fun q => !(q.1 == j.val) && !(q.1 + 1 == j.val && q.2.category == 2)) = lv') (k : Go w mi φ g q lv' st o) : Go w mi φ g pc lv (.int x :: st) o := by
  intro t ho p l e s m args below meth c H locs C hP hD hS ls hl
  subst hq
  exact lv_istore_n C.1 C.2.1 (T.at h) rfl hl hn hlv (fun ls' hl' => k t ho p l e s m args below meth c H locs C hP hD hS ls' hl')
theorem go_fstore {τ : Type} {w : Wd} {mi : Mi} {φ : τ → Option Value × G} {g : G} {lv : List (Nat × Value)} {st : List Value} {tb : List (Nat × ClassFile.Instr × Nat)} {pc q : Nat} {o : Option τ} {j : Nat} {x : UInt32} (lv' : List (Nat × Value)) (T : AllDec mi.2.1 tb) (i : Nat) (h : tb[i]? = some (pc, .fstore j, 2)) (hq : pc + 2 = q) (hn : j < mi.2.2.1) (hlv : (j, Value.float x) :: lv.filter (fun q => !(q.1 == j) && !(q.1 + 1 == j && q.2.category == 2)) = lv') (k : Go w mi φ g q lv' st o) : Go w mi φ g pc lv (.float x :: st) o := by
  intro t ho p l e s m args below meth c H locs C hP hD hS ls hl
  subst hq
  exact lv_fstore C.1 C.2.1 (T.at h) hl hn hlv (fun ls' hl' => k t ho p l e s m args below meth c H locs C hP hD hS ls' hl')
theorem go_fstore_n {τ : Type} {w : Wd} {mi : Mi} {φ : τ → Option Value × G} {g : G} {lv : List (Nat × Value)} {st : List Value} {tb : List (Nat × ClassFile.Instr × Nat)} {pc q : Nat} {o : Option τ} {j : Fin 4} {x : UInt32} (lv' : List (Nat × Value)) (T : AllDec mi.2.1 tb) (i : Nat) (h : tb[i]? = some (pc, .fstore_n j, 1)) (hq : pc + 1 = q) (hn : j.val < mi.2.2.1) (hlv : (j.val, Value.float x) :: lv.filter (fun q => !(q.1 == j.val) && !(q.1 + 1 == j.val && q.2.category == 2)) = lv') (k : Go w mi φ g q lv' st o) : Go w mi φ g pc lv (.float x :: st) o := by
  intro t ho p l e s m args below meth c H locs C hP hD hS ls hl
  subst hq
  exact lv_fstore_n C.1 C.2.1 (T.at h) rfl hl hn hlv (fun ls' hl' => k t ho p l e s m args below meth c H locs C hP hD hS ls' hl')
theorem go_astore_n {τ : Type} {w : Wd} {mi : Mi} {φ : τ → Option Value × G} {g : G} {lv : List (Nat × Value)} {st : List Value} {tb : List (Nat × ClassFile.Instr × Nat)} {pc q : Nat} {o : Option τ} {j : Fin 4} {x : Nat} (lv' : List (Nat × Value)) (T : AllDec mi.2.1 tb) (i : Nat) (h : tb[i]? = some (pc, .astore_n j, 1)) (hq : pc + 1 = q) (hn : j.val < mi.2.2.1) (hlv : (j.val, Value.ref x) :: lv.filter (fun q => !(q.1 == j.val) && !(q.1 + 1 == j.val && q.2.category == 2)) = lv') (k : Go w mi φ g q lv' st o) : Go w mi φ g pc lv (.ref x :: st) o := by
  intro t ho p l e s m args below meth c H locs C hP hD hS ls hl
  subst hq
  exact lv_astore_n C.1 C.2.1 (T.at h) rfl hl hn hlv (fun ls' hl' => k t ho p l e s m args below meth c H locs C hP hD hS ls' hl')
theorem go_lstore {τ : Type} {w : Wd} {mi : Mi} {φ : τ → Option Value × G} {g : G} {lv : List (Nat × Value)} {st : List Value} {tb : List (Nat × ClassFile.Instr × Nat)} {pc q : Nat} {o : Option τ} {j : Nat} {x : Int64} (lv' : List (Nat × Value)) (T : AllDec mi.2.1 tb) (i : Nat) (h : tb[i]? = some (pc, .lstore j, 2)) (hq : pc + 2 = q) (hn : j + 1 < mi.2.2.1) (hlv : (j, Value.long x) :: lv.filter (fun q => !(q.1 == j) && (!(q.1 == j + 1) && !(q.1 + 1 == j && q.2.category == 2))) = lv') (k : Go w mi φ g q lv' st o) : Go w mi φ g pc lv (.long x :: st) o := by
  intro t ho p l e s m args below meth c H locs C hP hD hS ls hl
  subst hq
  exact lv_lstore C.1 C.2.1 (T.at h) hl hn hlv (fun ls' hl' => k t ho p l e s m args below meth c H locs C hP hD hS ls' hl')
theorem go_lstore_n {τ : Type} {w : Wd} {mi : Mi} {φ : τ → Option Value × G} {g : G} {lv : List (Nat × Value)} {st : List Value} {tb : List (Nat × ClassFile.Instr × Nat)} {pc q : Nat} {o : Option τ} {j : Fin 4} {x : Int64} (lv' : List (Nat × Value)) (T : AllDec mi.2.1 tb) (i : Nat) (h : tb[i]? = some (pc, .lstore_n j, 1)) (hq : pc + 1 = q) (hn : j.val + 1 < mi.2.2.1) (hlv : (j.val, Value.long x) :: lv.filter (fun q => !(q.1 == j.val) && (!(q.1 == j.val + 1) && !(q.1 + 1 == j.val && q.2.category == 2))) = lv') (k : Go w mi φ g q lv' st o) : Go w mi φ g pc lv (.long x :: st) o := by
  intro t ho p l e s m args below meth c H locs C hP hD hS ls hl
  subst hq
  exact lv_lstore_n C.1 C.2.1 (T.at h) rfl hl hn hlv (fun ls' hl' => k t ho p l e s m args below meth c H locs C hP hD hS ls' hl')
theorem go_dstore {τ : Type} {w : Wd} {mi : Mi} {φ : τ → Option Value × G} {g : G} {lv : List (Nat × Value)} {st : List Value} {tb : List (Nat × ClassFile.Instr × Nat)} {pc q : Nat} {o : Option τ} {j : Nat} {x : UInt64} (lv' : List (Nat × Value)) (T : AllDec mi.2.1 tb) (i : Nat) (h : tb[i]? = some (pc, .dstore j, 2)) (hq : pc + 2 = q) (hn : j + 1 < mi.2.2.1) (hlv : (j, Value.double x) :: lv.filter (fun q => !(q.1 == j) && (!(q.1 == j + 1) && !(q.1 + 1 == j && q.2.category == 2))) = lv') (k : Go w mi φ g q lv' st o) : Go w mi φ g pc lv (.double x :: st) o := by
  intro t ho p l e s m args below meth c H locs C hP hD hS ls hl
  subst hq
  exact lv_dstore C.1 C.2.1 (T.at h) hl hn hlv (fun ls' hl' => k t ho p l e s m args below meth c H locs C hP hD hS ls' hl')
theorem go_dstore_n {τ : Type} {w : Wd} {mi : Mi} {φ : τ → Option Value × G} {g : G} {lv : List (Nat × Value)} {st : List Value} {tb : List (Nat × ClassFile.Instr × Nat)} {pc q : Nat} {o : Option τ} {j : Fin 4} {x : UInt64} (lv' : List (Nat × Value)) (T : AllDec mi.2.1 tb) (i : Nat) (h : tb[i]? = some (pc, .dstore_n j, 1)) (hq : pc + 1 = q) (hn : j.val + 1 < mi.2.2.1) (hlv : (j.val, Value.double x) :: lv.filter (fun q => !(q.1 == j.val) && (!(q.1 == j.val + 1) && !(q.1 + 1 == j.val && q.2.category == 2))) = lv') (k : Go w mi φ g q lv' st o) : Go w mi φ g pc lv (.double x :: st) o := by
  intro t ho p l e s m args below meth c H locs C hP hD hS ls hl
  subst hq
  exact lv_dstore_n C.1 C.2.1 (T.at h) rfl hl hn hlv (fun ls' hl' => k t ho p l e s m args below meth c H locs C hP hD hS ls' hl')
theorem go_iinc {τ : Type} {w : Wd} {mi : Mi} {φ : τ → Option Value × G} {g : G} {lv : List (Nat × Value)} {st : List Value} {tb : List (Nat × ClassFile.Instr × Nat)} {pc q : Nat} {o : Option τ} {j : Nat} {n : Int} {x v : Int32} (lv' : List (Nat × Value)) (T : AllDec mi.2.1 tb) (i : Nat) (h : tb[i]? = some (pc, .iinc j n, 3)) (hq : pc + 3 = q) (d : Nat) (hj : lv[d]? = some (j, .int x)) (hv : Int32.ofInt n = v) (hn : j < mi.2.2.1) (hlv : (j, Value.int (x + v)) :: lv.filter (fun q => !(q.1 == j) && !(q.1 + 1 == j && q.2.category == 2)) = lv') (k : Go w mi φ g q lv' st o) : Go w mi φ g pc lv st o := by
  intro t ho p l e s m args below meth c H locs C hP hD hS ls hl
  subst hq
  subst hv
  exact lv_iinc C.1 C.2.1 (T.at h) hl hj rfl hn hlv (fun ls' hl' => k t ho p l e s m args below meth c H locs C hP hD hS ls' hl')
theorem go_if_eq {τ : Type} {w : Wd} {mi : Mi} {φ : τ → Option Value × G} {g : G} {lv : List (Nat × Value)} {st : List Value} {tb : List (Nat × ClassFile.Instr × Nat)} {pc q : Nat} {A B : Option τ} {x : Int32} {off : Int} (tgt : Nat) (T : AllDec mi.2.1 tb) (i : Nat) (h : tb[i]? = some (pc, .ifCond .eq off, 3)) (ht : (pc : Int) + off = (tgt : Int)) (hq : pc + 3 = q) (kt : x = 0 → Go w mi φ g tgt lv st A) (kf : ¬ x = 0 → Go w mi φ g q lv st B) : Go w mi φ g pc lv (.int x :: st) (if x = 0 then A else B) := by
  intro t ho p l e s m args below meth c H locs C hP hD hS ls hl
  subst hq
  exact lv_if_eq C.1 C.2.1 (T.at h) ht (fun hc => kt hc t (by rw [if_pos hc] at ho; exact ho) p l e s m args below meth c H locs C hP hD hS ls hl) (fun hc => kf hc t (by rw [if_neg hc] at ho; exact ho) p l e s m args below meth c H locs C hP hD hS ls hl)
theorem go_if_ne {τ : Type} {w : Wd} {mi : Mi} {φ : τ → Option Value × G} {g : G} {lv : List (Nat × Value)} {st : List Value} {tb : List (Nat × ClassFile.Instr × Nat)} {pc q : Nat} {A B : Option τ} {x : Int32} {off : Int} (tgt : Nat) (T : AllDec mi.2.1 tb) (i : Nat) (h : tb[i]? = some (pc, .ifCond .ne off, 3)) (ht : (pc : Int) + off = (tgt : Int)) (hq : pc + 3 = q) (kt : ¬ x = 0 → Go w mi φ g tgt lv st B) (kf : x = 0 → Go w mi φ g q lv st A) : Go w mi φ g pc lv (.int x :: st) (if x = 0 then A else B) := by
  intro t ho p l e s m args below meth c H locs C hP hD hS ls hl
  subst hq
  exact lv_if_ne C.1 C.2.1 (T.at h) ht (fun hc => kt hc t (by rw [if_neg hc] at ho; exact ho) p l e s m args below meth c H locs C hP hD hS ls hl) (fun hc => kf hc t (by rw [if_pos hc] at ho; exact ho) p l e s m args below meth c H locs C hP hD hS ls hl)
theorem go_if_lt {τ : Type} {w : Wd} {mi : Mi} {φ : τ → Option Value × G} {g : G} {lv : List (Nat × Value)} {st : List Value} {tb : List (Nat × ClassFile.Instr × Nat)} {pc q : Nat} {A B : Option τ} {x : Int32} {off : Int} (tgt : Nat) (T : AllDec mi.2.1 tb) (i : Nat) (h : tb[i]? = some (pc, .ifCond .lt off, 3)) (ht : (pc : Int) + off = (tgt : Int)) (hq : pc + 3 = q) (kt : x < 0 → Go w mi φ g tgt lv st A) (kf : ¬ x < 0 → Go w mi φ g q lv st B) : Go w mi φ g pc lv (.int x :: st) (if x < 0 then A else B) := by
  intro t ho p l e s m args below meth c H locs C hP hD hS ls hl
  subst hq
  exact lv_if_lt C.1 C.2.1 (T.at h) ht (fun hc => kt hc t (by rw [if_pos hc] at ho; exact ho) p l e s m args below meth c H locs C hP hD hS ls hl) (fun hc => kf hc t (by rw [if_neg hc] at ho; exact ho) p l e s m args below meth c H locs C hP hD hS ls hl)
theorem go_if_ge {τ : Type} {w : Wd} {mi : Mi} {φ : τ → Option Value × G} {g : G} {lv : List (Nat × Value)} {st : List Value} {tb : List (Nat × ClassFile.Instr × Nat)} {pc q : Nat} {A B : Option τ} {x : Int32} {off : Int} (tgt : Nat) (T : AllDec mi.2.1 tb) (i : Nat) (h : tb[i]? = some (pc, .ifCond .ge off, 3)) (ht : (pc : Int) + off = (tgt : Int)) (hq : pc + 3 = q) (kt : 0 ≤ x → Go w mi φ g tgt lv st A) (kf : ¬ 0 ≤ x → Go w mi φ g q lv st B) : Go w mi φ g pc lv (.int x :: st) (if 0 ≤ x then A else B) := by
  intro t ho p l e s m args below meth c H locs C hP hD hS ls hl
  subst hq
  exact lv_if_ge C.1 C.2.1 (T.at h) ht (fun hc => kt hc t (by rw [if_pos hc] at ho; exact ho) p l e s m args below meth c H locs C hP hD hS ls hl) (fun hc => kf hc t (by rw [if_neg hc] at ho; exact ho) p l e s m args below meth c H locs C hP hD hS ls hl)
theorem go_if_gt {τ : Type} {w : Wd} {mi : Mi} {φ : τ → Option Value × G} {g : G} {lv : List (Nat × Value)} {st : List Value} {tb : List (Nat × ClassFile.Instr × Nat)} {pc q : Nat} {A B : Option τ} {x : Int32} {off : Int} (tgt : Nat) (T : AllDec mi.2.1 tb) (i : Nat) (h : tb[i]? = some (pc, .ifCond .gt off, 3)) (ht : (pc : Int) + off = (tgt : Int)) (hq : pc + 3 = q) (kt : 0 < x → Go w mi φ g tgt lv st A) (kf : ¬ 0 < x → Go w mi φ g q lv st B) : Go w mi φ g pc lv (.int x :: st) (if 0 < x then A else B) := by
  intro t ho p l e s m args below meth c H locs C hP hD hS ls hl
  subst hq
  exact lv_if_gt C.1 C.2.1 (T.at h) ht (fun hc => kt hc t (by rw [if_pos hc] at ho; exact ho) p l e s m args below meth c H locs C hP hD hS ls hl) (fun hc => kf hc t (by rw [if_neg hc] at ho; exact ho) p l e s m args below meth c H locs C hP hD hS ls hl)
theorem go_if_le {τ : Type} {w : Wd} {mi : Mi} {φ : τ → Option Value × G} {g : G} {lv : List (Nat × Value)} {st : List Value} {tb : List (Nat × ClassFile.Instr × Nat)} {pc q : Nat} {A B : Option τ} {x : Int32} {off : Int} (tgt : Nat) (T : AllDec mi.2.1 tb) (i : Nat) (h : tb[i]? = some (pc, .ifCond .le off, 3)) (ht : (pc : Int) + off = (tgt : Int)) (hq : pc + 3 = q) (kt : x ≤ 0 → Go w mi φ g tgt lv st A) (kf : ¬ x ≤ 0 → Go w mi φ g q lv st B) : Go w mi φ g pc lv (.int x :: st) (if x ≤ 0 then A else B) := by
  intro t ho p l e s m args below meth c H locs C hP hD hS ls hl
  subst hq
  exact lv_if_le C.1 C.2.1 (T.at h) ht (fun hc => kt hc t (by rw [if_pos hc] at ho; exact ho) p l e s m args below meth c H locs C hP hD hS ls hl) (fun hc => kf hc t (by rw [if_neg hc] at ho; exact ho) p l e s m args below meth c H locs C hP hD hS ls hl)
theorem go_icmp_eq {τ : Type} {w : Wd} {mi : Mi} {φ : τ → Option Value × G} {g : G} {lv : List (Nat × Value)} {st : List Value} {tb : List (Nat × ClassFile.Instr × Nat)} {pc q : Nat} {A B : Option τ} {x y : Int32} {off : Int} (tgt : Nat) (T : AllDec mi.2.1 tb) (i : Nat) (h : tb[i]? = some (pc, .if_icmp .eq off, 3)) (ht : (pc : Int) + off = (tgt : Int)) (hq : pc + 3 = q) (kt : x = y → Go w mi φ g tgt lv st A) (kf : ¬ x = y → Go w mi φ g q lv st B) : Go w mi φ g pc lv (.int y :: .int x :: st) (if x = y then A else B) := by
  intro t ho p l e s m args below meth c H locs C hP hD hS ls hl
  subst hq
  exact lv_icmp_eq C.1 C.2.1 (T.at h) ht (fun hc => kt hc t (by rw [if_pos hc] at ho; exact ho) p l e s m args below meth c H locs C hP hD hS ls hl) (fun hc => kf hc t (by rw [if_neg hc] at ho; exact ho) p l e s m args below meth c H locs C hP hD hS ls hl)
theorem go_icmp_ne {τ : Type} {w : Wd} {mi : Mi} {φ : τ → Option Value × G} {g : G} {lv : List (Nat × Value)} {st : List Value} {tb : List (Nat × ClassFile.Instr × Nat)} {pc q : Nat} {A B : Option τ} {x y : Int32} {off : Int} (tgt : Nat) (T : AllDec mi.2.1 tb) (i : Nat) (h : tb[i]? = some (pc, .if_icmp .ne off, 3)) (ht : (pc : Int) + off = (tgt : Int)) (hq : pc + 3 = q) (kt : ¬ x = y → Go w mi φ g tgt lv st B) (kf : x = y → Go w mi φ g q lv st A) : Go w mi φ g pc lv (.int y :: .int x :: st) (if x = y then A else B) := by
  intro t ho p l e s m args below meth c H locs C hP hD hS ls hl
  subst hq
  exact lv_icmp_ne C.1 C.2.1 (T.at h) ht (fun hc => kt hc t (by rw [if_neg hc] at ho; exact ho) p l e s m args below meth c H locs C hP hD hS ls hl) (fun hc => kf hc t (by rw [if_pos hc] at ho; exact ho) p l e s m args below meth c H locs C hP hD hS ls hl)
theorem go_icmp_lt {τ : Type} {w : Wd} {mi : Mi} {φ : τ → Option Value × G} {g : G} {lv : List (Nat × Value)} {st : List Value} {tb : List (Nat × ClassFile.Instr × Nat)} {pc q : Nat} {A B : Option τ} {x y : Int32} {off : Int} (tgt : Nat) (T : AllDec mi.2.1 tb) (i : Nat) (h : tb[i]? = some (pc, .if_icmp .lt off, 3)) (ht : (pc : Int) + off = (tgt : Int)) (hq : pc + 3 = q) (kt : x < y → Go w mi φ g tgt lv st A) (kf : ¬ x < y → Go w mi φ g q lv st B) : Go w mi φ g pc lv (.int y :: .int x :: st) (if x < y then A else B) := by
  intro t ho p l e s m args below meth c H locs C hP hD hS ls hl
  subst hq
  exact lv_icmp_lt C.1 C.2.1 (T.at h) ht (fun hc => kt hc t (by rw [if_pos hc] at ho; exact ho) p l e s m args below meth c H locs C hP hD hS ls hl) (fun hc => kf hc t (by rw [if_neg hc] at ho; exact ho) p l e s m args below meth c H locs C hP hD hS ls hl)
theorem go_icmp_ge {τ : Type} {w : Wd} {mi : Mi} {φ : τ → Option Value × G} {g : G} {lv : List (Nat × Value)} {st : List Value} {tb : List (Nat × ClassFile.Instr × Nat)} {pc q : Nat} {A B : Option τ} {x y : Int32} {off : Int} (tgt : Nat) (T : AllDec mi.2.1 tb) (i : Nat) (h : tb[i]? = some (pc, .if_icmp .ge off, 3)) (ht : (pc : Int) + off = (tgt : Int)) (hq : pc + 3 = q) (kt : y ≤ x → Go w mi φ g tgt lv st A) (kf : ¬ y ≤ x → Go w mi φ g q lv st B) : Go w mi φ g pc lv (.int y :: .int x :: st) (if y ≤ x then A else B) := by
  intro t ho p l e s m args below meth c H locs C hP hD hS ls hl
  subst hq
  exact lv_icmp_ge C.1 C.2.1 (T.at h) ht (fun hc => kt hc t (by rw [if_pos hc] at ho; exact ho) p l e s m args below meth c H locs C hP hD hS ls hl) (fun hc => kf hc t (by rw [if_neg hc] at ho; exact ho) p l e s m args below meth c H locs C hP hD hS ls hl)
theorem go_icmp_gt {τ : Type} {w : Wd} {mi : Mi} {φ : τ → Option Value × G} {g : G} {lv : List (Nat × Value)} {st : List Value} {tb : List (Nat × ClassFile.Instr × Nat)} {pc q : Nat} {A B : Option τ} {x y : Int32} {off : Int} (tgt : Nat) (T : AllDec mi.2.1 tb) (i : Nat) (h : tb[i]? = some (pc, .if_icmp .gt off, 3)) (ht : (pc : Int) + off = (tgt : Int)) (hq : pc + 3 = q) (kt : y < x → Go w mi φ g tgt lv st A) (kf : ¬ y < x → Go w mi φ g q lv st B) : Go w mi φ g pc lv (.int y :: .int x :: st) (if y < x then A else B) := by
  intro t ho p l e s m args below meth c H locs C hP hD hS ls hl
  subst hq
  exact lv_icmp_gt C.1 C.2.1 (T.at h) ht (fun hc => kt hc t (by rw [if_pos hc] at ho; exact ho) p l e s m args below meth c H locs C hP hD hS ls hl) (fun hc => kf hc t (by rw [if_neg hc] at ho; exact ho) p l e s m args below meth c H locs C hP hD hS ls hl)
theorem go_icmp_le {τ : Type} {w : Wd} {mi : Mi} {φ : τ → Option Value × G} {g : G} {lv : List (Nat × Value)} {st : List Value} {tb : List (Nat × ClassFile.Instr × Nat)} {pc q : Nat} {A B : Option τ} {x y : Int32} {off : Int} (tgt : Nat) (T : AllDec mi.2.1 tb) (i : Nat) (h : tb[i]? = some (pc, .if_icmp .le off, 3)) (ht : (pc : Int) + off = (tgt : Int)) (hq : pc + 3 = q) (kt : x ≤ y → Go w mi φ g tgt lv st A) (kf : ¬ x ≤ y → Go w mi φ g q lv st B) : Go w mi φ g pc lv (.int y :: .int x :: st) (if x ≤ y then A else B) := by
  intro t ho p l e s m args below meth c H locs C hP hD hS ls hl
  subst hq
  exact lv_icmp_le C.1 C.2.1 (T.at h) ht (fun hc => kt hc t (by rw [if_pos hc] at ho; exact ho) p l e s m args below meth c H locs C hP hD hS ls hl) (fun hc => kf hc t (by rw [if_neg hc] at ho; exact ho) p l e s m args below meth c H locs C hP hD hS ls hl)
theorem go_goto {τ : Type} {w : Wd} {mi : Mi} {φ : τ → Option Value × G} {g : G} {lv : List (Nat × Value)} {st : List Value} {tb : List (Nat × ClassFile.Instr × Nat)} {pc q : Nat} {o : Option τ} {off : Int} (T : AllDec mi.2.1 tb) (i : Nat) (h : tb[i]? = some (pc, .goto off, 3)) (ht : (pc : Int) + off = (q : Int)) (k : Go w mi φ g q lv st o) : Go w mi φ g pc lv st o := by
  intro t ho p l e s m args below meth c H locs C hP hD hS ls hl
  exact lv_goto C.1 C.2.1 (T.at h) ht (k t ho p l e s m args below meth c H locs C hP hD hS ls hl)
theorem go_bv {τ : Type} {w : Wd} {mi : Mi} {φ : τ → Option Value × G} {g : G} {lv : List (Nat × Value)} {st : List Value} {pc : Nat} {α : Type} {a : α} {K : α → Option τ} {lvf : α → List (Nat × Value)} {stf : α → List Value} (k : ∀ y : α, Go w mi φ g pc (lvf y) (stf y) (K y)) : Go w mi φ g pc (lvf a) (stf a) (bv a K) := k a
theorem go_bvi {τ : Type} {w : Wd} {mi : Mi} {φ : τ → Option Value × G} {g : G} {lv : List (Nat × Value)} {st : List Value} {pc : Nat} {x : Int32} {K : Int32 → Option τ} (k : ∀ y : Int32, Go w mi φ g pc lv (.int y :: st) (K y)) : Go w mi φ g pc lv (.int x :: st) (bv x K) := k x
theorem go_bvl {τ : Type} {w : Wd} {mi : Mi} {φ : τ → Option Value × G} {g : G} {lv : List (Nat × Value)} {st : List Value} {pc : Nat} {x : Int64} {K : Int64 → Option τ} (k : ∀ y : Int64, Go w mi φ g pc lv (.long y :: st) (K y)) : Go w mi φ g pc lv (.long x :: st) (bv x K) := k x
theorem go_bvf {τ : Type} {w : Wd} {mi : Mi} {φ : τ → Option Value × G} {g : G} {lv : List (Nat × Value)} {st : List Value} {pc : Nat} {x : UInt32} {K : UInt32 → Option τ} (k : ∀ y : UInt32, Go w mi φ g pc lv (.float y :: st) (K y)) : Go w mi φ g pc lv (.float x :: st) (bv x K) := k x
theorem go_bvd {τ : Type} {w : Wd} {mi : Mi} {φ : τ → Option Value × G} {g : G} {lv : List (Nat × Value)} {st : List Value} {pc : Nat} {x : UInt64} {K : UInt64 → Option τ} (k : ∀ y : UInt64, Go w mi φ g pc lv (.double y :: st) (K y)) : Go w mi φ g pc lv (.double x :: st) (bv x K) := k x
theorem go_bvg {τ : Type} {w : Wd} {mi : Mi} {φ : τ → Option Value × G} {g : G} {lv : List (Nat × Value)} {st : List Value} {pc : Nat} {K : G → Option τ} (k : ∀ y : G, Go w mi φ y pc lv st (K y)) : Go w mi φ g pc lv st (bv g K) := k g
theorem go_lj {τ : Type} {w : Wd} {mi : Mi} {φ : τ → Option Value × G} {g : G} {lv : List (Nat × Value)} {st : List Value} {pc : Nat} {α : Type} {J : α → Option τ} {K : (α → Option τ) → Option τ} (k : Go w mi φ g pc lv st (K J)) : Go w mi φ g pc lv st (lj J K) := k
theorem go_none {τ : Type} {w : Wd} {mi : Mi} {φ : τ → Option Value × G} {g : G} {lv : List (Nat × Value)} {st : List Value} {pc : Nat} : Go w mi φ g pc lv st (none : Option τ) := fun t h => by cases h
theorem go_pick {τ : Type} {w : Wd} {mi : Mi} {φ : τ → Option Value × G} {g : G} {lv : List (Nat × Value)} {st : List Value} {pc : Nat} {o : Option τ} (ks : List Nat) {lv' : List (Nat × Value)} (hl' : lv_pick lv ks = lv') (k : Go w mi φ g pc lv' st o) : Go w mi φ g pc lv st o := by
  intro t ho p l e s m args below meth c H locs C hP hD hS ls hl
  exact k t ho p l e s m args below meth c H locs C hP hD hS ls (lv_sub hl ks hl')
theorem go_Lp {τ α : Type} {w : Wd} {mi : Mi} {φ : τ → Option Value × G} {pc : Nat} {F : (α → Option τ) → α → Option τ} (gf : α → G) (lvf : α → List (Nat × Value)) (k : ∀ rec : α → Option τ, (∀ a, Go w mi φ (gf a) pc (lvf a) [] (rec a)) → ∀ a, Go w mi φ (gf a) pc (lvf a) [] (F rec a)) : ∀ (n : Nat) (a : α), Go w mi φ (gf a) pc (lvf a) [] (Lp F n a) := by
  intro n
  induction n with
  | zero => intro a; exact go_none
  | succ n ih => intro a; exact k _ ih a
theorem go_iret {τ : Type} {w : Wd} {mi : Mi} {φ : τ → Option Value × G} {g : G} {lv : List (Nat × Value)} {tb : List (Nat × ClassFile.Instr × Nat)} {pc : Nat} {x : Int32} {u : τ} (T : AllDec mi.2.1 tb) (i : Nat) (h : tb[i]? = some (pc, .ireturn, 1)) (hr : mi.2.2.2.2 = some .int) (hu : φ u = (some (.int x), g)) : Go w mi φ g pc lv [.int x] (some u) := by
  intro t ho p l e s m args below meth c H locs C hP hD hS ls hl
  cases ho
  have hlocks : meth.locks = false := C.2.2.2.2.2.2.1
  refine W.iret C.1 C.2.1 (C.2.2.1.trans hr) (fun t ht hW => ?_) hS.2.2 (T.at h)
  rw [gQ, hu]
  exact ⟨rfl, by rw [ht]; exact hP, va_K.moved hW.alike C.2.2.2.2.2.2.2.1, hD, hS.F ht⟩
theorem go_lret {τ : Type} {w : Wd} {mi : Mi} {φ : τ → Option Value × G} {g : G} {lv : List (Nat × Value)} {tb : List (Nat × ClassFile.Instr × Nat)} {pc : Nat} {x : Int64} {u : τ} (T : AllDec mi.2.1 tb) (i : Nat) (h : tb[i]? = some (pc, .lreturn, 1)) (hr : mi.2.2.2.2 = some .long) (hu : φ u = (some (.long x), g)) : Go w mi φ g pc lv [.long x] (some u) := by
  intro t ho p l e s m args below meth c H locs C hP hD hS ls hl
  cases ho
  have hlocks : meth.locks = false := C.2.2.2.2.2.2.1
  refine W.lret C.1 C.2.1 (C.2.2.1.trans hr) (fun t ht hW => ?_) hS.2.2 (T.at h)
  rw [gQ, hu]
  exact ⟨rfl, by rw [ht]; exact hP, va_K.moved hW.alike C.2.2.2.2.2.2.2.1, hD, hS.F ht⟩
theorem go_fret {τ : Type} {w : Wd} {mi : Mi} {φ : τ → Option Value × G} {g : G} {lv : List (Nat × Value)} {tb : List (Nat × ClassFile.Instr × Nat)} {pc : Nat} {x : UInt32} {u : τ} (T : AllDec mi.2.1 tb) (i : Nat) (h : tb[i]? = some (pc, .freturn, 1)) (hr : mi.2.2.2.2 = some .float) (hu : φ u = (some (.float x), g)) : Go w mi φ g pc lv [.float x] (some u) := by
  intro t ho p l e s m args below meth c H locs C hP hD hS ls hl
  cases ho
  have hlocks : meth.locks = false := C.2.2.2.2.2.2.1
  refine W.fret C.1 C.2.1 (C.2.2.1.trans hr) (fun t ht hW => ?_) hS.2.2 (T.at h)
  rw [gQ, hu]
  exact ⟨rfl, by rw [ht]; exact hP, va_K.moved hW.alike C.2.2.2.2.2.2.2.1, hD, hS.F ht⟩
theorem go_zret {τ : Type} {w : Wd} {mi : Mi} {φ : τ → Option Value × G} {g : G} {lv : List (Nat × Value)} {tb : List (Nat × ClassFile.Instr × Nat)} {pc : Nat} {x : Int32} {u : τ} (T : AllDec mi.2.1 tb) (i : Nat) (h : tb[i]? = some (pc, .ireturn, 1)) (hr : mi.2.2.2.2 = some .boolean) (hx : narrow .boolean (.int x) = .int x) (hu : φ u = (some (.int x), g)) : Go w mi φ g pc lv [.int x] (some u) := by
  intro t ho p l e s m args below meth c H locs C hP hD hS ls hl
  cases ho
  have hlocks : meth.locks = false := C.2.2.2.2.2.2.1
  refine W.zret C.1 C.2.1 (C.2.2.1.trans hr) hx (fun t ht hW => ?_) hS.2.2 (T.at h)
  rw [gQ, hu]
  exact ⟨rfl, by rw [ht]; exact hP, va_K.moved hW.alike C.2.2.2.2.2.2.2.1, hD, hS.F ht⟩
theorem go_zretb {τ : Type} {w : Wd} {mi : Mi} {φ : τ → Option Value × G} {g : G} {lv : List (Nat × Value)} {tb : List (Nat × ClassFile.Instr × Nat)} {pc : Nat} {x : Int32} {u : τ} (T : AllDec mi.2.1 tb) (i : Nat) (h : tb[i]? = some (pc, .ireturn, 1)) (hr : mi.2.2.2.2 = some .boolean) (hu : φ u = (some (.int x), g)) : Go w mi φ g pc lv [.int x] (bt x (some u)) := by
  intro t ho
  by_cases hb : x = 0 ∨ x = 1
  · rw [bt, if_pos hb] at ho
    exact go_zret T i h hr (by rcases hb with rfl | rfl <;> rfl) hu t ho
  · rw [bt, if_neg hb] at ho
    cases ho
theorem go_vret {τ : Type} {w : Wd} {mi : Mi} {φ : τ → Option Value × G} {g : G} {lv : List (Nat × Value)} {tb : List (Nat × ClassFile.Instr × Nat)} {pc : Nat} {u : τ} (T : AllDec mi.2.1 tb) (i : Nat) (h : tb[i]? = some (pc, .return_, 1)) (hr : mi.2.2.2.2 = none) (hu : φ u = (none, g)) : Go w mi φ g pc lv [] (some u) := by
  intro t ho p l e s m args below meth c H locs C hP hD hS ls hl
  cases ho
  have hlocks : meth.locks = false := C.2.2.2.2.2.2.1
  refine W.vret C.1 C.2.1 (C.2.2.1.trans hr) (fun t ht hW => ?_) hS.2.2 (T.at h)
  rw [gQ, hu]
  exact ⟨rfl, by rw [ht]; exact hP, va_K.moved hW.alike C.2.2.2.2.2.2.2.1, hD, hS.F ht⟩

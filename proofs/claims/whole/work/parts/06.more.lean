/-! rows for dup2, the two switches -/
theorem ne_toInt {x v : Int32} (h : ¬ x = v) : x.toInt ≠ v.toInt := fun e => h (Int32.toInt_inj.mp e)
/-- -1, as a loop's step -/
def m1 : Int32 := -1
section MORE
variable {τ : Type} {w : Wd} {mi : Mi} {φ : τ → Option Value × G} {g : G} {lv : List (Nat × Value)} {st : List Value} {tb : List (Nat × ClassFile.Instr × Nat)} {pc q : Nat}
theorem go_dup2 {o : Option τ} {va vb : Value} (T : AllDec mi.2.1 tb) (i : Nat) (h : tb[i]? = some (pc, .dup2, 1)) (hq : pc + 1 = q) (hva : va.category = 1) (hvb : vb.category = 1) (k : Go w mi φ g q lv (va :: vb :: va :: vb :: st) o) : Go w mi φ g pc lv (va :: vb :: st) o := by
  intro t ho p l e s m args below meth c H locs C hP hD hS ls hl
  subst hq
  exact lv_dup2_11 C.1 C.2.1 (T.at h) hva hvb (k t ho p l e s m args below meth c H locs C hP hD hS ls hl)
theorem go_tcase {A B : Option τ} {x v : Int32} {dflt lo hi off : Int} {offs : Array Int} {len : Nat} (tgt : Nat) (T : AllDec mi.2.1 tb) (i : Nat) (h : tb[i]? = some (pc, .tableswitch dflt lo hi offs, len)) (hv : ¬ v.toInt < lo ∧ ¬ hi < v.toInt ∧ offs[(v.toInt - lo).toNat]? = some off ∧ (pc : Int) + off = (tgt : Int)) (kt : Go w mi φ g tgt lv st A) (kf : ¬ x = v → Go w mi φ g pc lv (.int x :: st) B) : Go w mi φ g pc lv (.int x :: st) (if x = v then A else B) := by
  intro t ho p l e s m args below meth c H locs C hP hD hS ls hl
  by_cases hx : x = v
  · rw [if_pos hx] at ho
    subst hx
    exact lv_tableIn C.1 C.2.1 (T.at h) hv.1 hv.2.1 hv.2.2.1 hv.2.2.2 (kt t ho p l e s m args below meth c H locs C hP hD hS ls hl)
  · rw [if_neg hx] at ho
    exact kf hx t ho p l e s m args below meth c H locs C hP hD hS ls hl
theorem go_tdef {o : Option τ} {x : Int32} {dflt lo hi : Int} {offs : Array Int} {len : Nat} (tgt : Nat) (T : AllDec mi.2.1 tb) (i : Nat) (h : tb[i]? = some (pc, .tableswitch dflt lo hi offs, len)) (hx : x.toInt < lo ∨ hi < x.toInt) (ht : (pc : Int) + dflt = (tgt : Int)) (k : Go w mi φ g tgt lv st o) : Go w mi φ g pc lv (.int x :: st) o := by
  intro t ho p l e s m args below meth c H locs C hP hD hS ls hl
  exact lv_tableOut C.1 C.2.1 (T.at h) hx ht (k t ho p l e s m args below meth c H locs C hP hD hS ls hl)
theorem go_lcase {A B : Option τ} {x v : Int32} {dflt off : Int} {ps : Array (Int × Int)} {len : Nat} (tgt : Nat) (T : AllDec mi.2.1 tb) (i : Nat) (h : tb[i]? = some (pc, .lookupswitch dflt ps, len)) (hv : (ps.toList.zip (ps.toList.drop 1)).all (fun (a, next) => a.1 < next.1) = true ∧ Op.lookupswitch.offset ps.toList dflt v.toInt = off ∧ (pc : Int) + off = (tgt : Int)) (kt : Go w mi φ g tgt lv st A) (kf : ¬ x = v → Go w mi φ g pc lv (.int x :: st) B) : Go w mi φ g pc lv (.int x :: st) (if x = v then A else B) := by
  intro t ho p l e s m args below meth c H locs C hP hD hS ls hl
  by_cases hx : x = v
  · rw [if_pos hx] at ho
    subst hx
    exact lv_lookup C.1 C.2.1 (T.at h) hv.1 hv.2.1 hv.2.2 (kt t ho p l e s m args below meth c H locs C hP hD hS ls hl)
  · rw [if_neg hx] at ho
    exact kf hx t ho p l e s m args below meth c H locs C hP hD hS ls hl
theorem go_ldef {o : Option τ} {x : Int32} {dflt : Int} {ps : Array (Int × Int)} {len : Nat} (tgt : Nat) (T : AllDec mi.2.1 tb) (i : Nat) (h : tb[i]? = some (pc, .lookupswitch dflt ps, len)) (hx : (ps.toList.zip (ps.toList.drop 1)).all (fun (a, next) => a.1 < next.1) = true ∧ Op.lookupswitch.offset ps.toList dflt x.toInt = dflt) (ht : (pc : Int) + dflt = (tgt : Int)) (k : Go w mi φ g tgt lv st o) : Go w mi φ g pc lv (.int x :: st) o := by
  intro t ho p l e s m args below meth c H locs C hP hD hS ls hl
  exact lv_lookup C.1 C.2.1 (T.at h) hx.1 hx.2 ht (k t ho p l e s m args below meth c H locs C hP hD hS ls hl)
theorem go_ldcwf {o : Option τ} {index : Nat} {v : UInt32} (T : AllDec mi.2.1 tb) (i : Nat) (h : tb[i]? = some (pc, .ldc_w index, 3)) (hq : pc + 3 = q) (hc : Cond.constantFloat mi.1 index v ∈ Wt) (k : Go w mi φ g q lv (.float v :: st) o) : Go w mi φ g pc lv st o := by
  intro t ho p l e s m args below meth c H locs C hP hD hS ls hl
  subst hq
  intro T0 hT X
  obtain ⟨t2, a1, b1⟩ := k t ho p l e s m args below meth c H locs C hP hD hS ls hl T0 hT X
  refine ⟨t2, ?_, b1⟩
  obtain ⟨k1, cf, hk, hcf, hcp⟩ := Cond.constantFloat_spec C.2.2.2.2.1 (C.2.2.2.2.2.1 _ hc)
  obtain ⟨k', hk', he⟩ := X.warmed.alike.2.2 _ _ hk
  have hdg := T.at h
  rw [← C.2.1] at hdg
  jvm_step X.here [C.1, hdg, ldc_w.wp_float (s := T0) (f := F0 m pc ls st) X.here.top hk' (by rw [he]; exact hcf) hcp]
  exact a1
end MORE
theorem go_ljX {τ α : Type} {w : Wd} {mi : Mi} {φ : τ → Option Value × G} {g : G} {lv : List (Nat × Value)} {st : List Value} {pc : Nat} {J : α → Option τ} {K : (α → Option τ) → Option τ} (lvf : α → List (Nat × Value)) (stf : α → List Value) (gf : α → G) (pj : Nat) (hJ : ∀ a, Go w mi φ (gf a) pj (lvf a) (stf a) (J a)) (k : ∀ J' : α → Option τ, (∀ a, Go w mi φ (gf a) pj (lvf a) (stf a) (J' a)) → Go w mi φ g pc lv st (K J')) : Go w mi φ g pc lv st (lj J K) := k J hJ

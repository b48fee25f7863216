abbrev mi_J0_coder_7d493 : Mi := (RJ0, cJ0_coder_7d493, 1, rm 0, (some .byte))
def tb_J0_coder_7d493 : List (Nat × ClassFile.Instr × Nat) := [(0, .getstatic 38, 3), (3, .ifCond .eq 10, 3), (6, .aload_n 0, 1), (7, .getfield 15, 3), (10, .goto 4, 3), (13, .iconst 1, 1), (14, .ireturn, 1)]
theorem td_J0_coder_7d493 : AllDec cJ0_coder_7d493 tb_J0_coder_7d493 := by unfold AllDec; decide +kernel
theorem lb_J0_coder_7d493 : LkB yJ0_coder_7d493 mi_J0_coder_7d493 0 := ⟨Wt_of (tk_3 _ (List.mem_of_getElem? (i := 111) rfl)) rfl, Wt_of (tk_1 _ (List.mem_of_getElem? (i := 14) rfl)) rfl, by decide, by decide, by decide +kernel⟩
abbrev mi_J0_isLatin1_aae02 : Mi := (RJ0, cJ0_isLatin1_aae02, 1, rm 0, (some .boolean))
def tb_J0_isLatin1_aae02 : List (Nat × ClassFile.Instr × Nat) := [(0, .getstatic 38, 3), (3, .ifCond .eq 14, 3), (6, .aload_n 0, 1), (7, .getfield 15, 3), (10, .ifCond .ne 7, 3), (13, .iconst 1, 1), (14, .goto 4, 3), (17, .iconst 0, 1), (18, .ireturn, 1)]
theorem td_J0_isLatin1_aae02 : AllDec cJ0_isLatin1_aae02 tb_J0_isLatin1_aae02 := by unfold AllDec; decide +kernel
theorem lb_J0_isLatin1_aae02 : LkB yJ0_isLatin1_aae02 mi_J0_isLatin1_aae02 0 := ⟨Wt_of (tk_3 _ (List.mem_of_getElem? (i := 121) rfl)) rfl, Wt_of (tk_1 _ (List.mem_of_getElem? (i := 14) rfl)) rfl, by decide, by decide, by decide +kernel⟩
abbrev mi_J0_length_8abf5 : Mi := (RJ0, cJ0_length_8abf5, 1, rm 1, (some .int))
def tb_J0_length_8abf5 : List (Nat × ClassFile.Instr × Nat) := [(0, .aload_n 0, 1), (1, .getfield 9, 3), (4, .arraylength, 1), (5, .aload_n 0, 1), (6, .invokevirtual 335, 3), (9, .ishr, 1), (10, .ireturn, 1)]
theorem td_J0_length_8abf5 : AllDec cJ0_length_8abf5 tb_J0_length_8abf5 := by unfold AllDec; decide +kernel
theorem lb_J0_length_8abf5 : LkB yJ0_length_8abf5 mi_J0_length_8abf5 0 := ⟨Wt_of (tk_3 _ (List.mem_of_getElem? (i := 107) rfl)) rfl, Wt_of (tk_1 _ (List.mem_of_getElem? (i := 14) rfl)) rfl, by decide, by decide, by decide +kernel⟩
abbrev mi_J0_charAt_5068e : Mi := (RJ0, cJ0_charAt_5068e, 2, rm 3, (some .char))
def tb_J0_charAt_5068e : List (Nat × ClassFile.Instr × Nat) := [(0, .aload_n 0, 1), (1, .invokevirtual 492, 3), (4, .ifCond .eq 12, 3), (7, .aload_n 0, 1), (8, .getfield 9, 3), (11, .iload_n 1, 1), (12, .invokestatic 495, 3), (15, .ireturn, 1), (16, .aload_n 0, 1), (17, .getfield 9, 3), (20, .iload_n 1, 1), (21, .invokestatic 498, 3), (24, .ireturn, 1)]
theorem td_J0_charAt_5068e : AllDec cJ0_charAt_5068e tb_J0_charAt_5068e := by unfold AllDec; decide +kernel
theorem lb_J0_charAt_5068e : LkB yJ0_charAt_5068e mi_J0_charAt_5068e 1 := ⟨Wt_of (tk_3 _ (List.mem_of_getElem? (i := 117) rfl)) rfl, Wt_of (tk_1 _ (List.mem_of_getElem? (i := 14) rfl)) rfl, by decide, by decide, by decide +kernel⟩
abbrev mi_J0_checkIndex_df160 : Mi := (RJ0, cJ0_checkIndex_df160, 2, rm 1, none)
def tb_J0_checkIndex_df160 : List (Nat × ClassFile.Instr × Nat) := [(0, .iload_n 0, 1), (1, .iload_n 1, 1), (2, .getstatic 1053, 3), (5, .invokestatic 1059, 3), (8, .pop, 1), (9, .return_, 1)]
theorem td_J0_checkIndex_df160 : AllDec cJ0_checkIndex_df160 tb_J0_checkIndex_df160 := by unfold AllDec; decide +kernel
theorem lb_J0_checkIndex_df160 : LkB yJ0_checkIndex_df160 mi_J0_checkIndex_df160 2 := ⟨Wt_of (tk_3 _ (List.mem_of_getElem? (i := 127) rfl)) rfl, Wt_of (tk_1 _ (List.mem_of_getElem? (i := 14) rfl)) rfl, by decide, by decide, by decide +kernel⟩
abbrev mi_J1_charAt_3b067 : Mi := (RJ1, cJ1_charAt_3b067, 2, rm 2, (some .char))
def tb_J1_charAt_3b067 : List (Nat × ClassFile.Instr × Nat) := [(0, .iload_n 1, 1), (1, .aload_n 0, 1), (2, .arraylength, 1), (3, .invokestatic 9, 3), (6, .aload_n 0, 1), (7, .iload_n 1, 1), (8, .baload, 1), (9, .sipush 255, 3), (12, .iand, 1), (13, .i2c, 1), (14, .ireturn, 1)]
theorem td_J1_charAt_3b067 : AllDec cJ1_charAt_3b067 tb_J1_charAt_3b067 := by unfold AllDec; decide +kernel
theorem lb_J1_charAt_3b067 : LkB yJ1_charAt_3b067 mi_J1_charAt_3b067 2 := ⟨Wt_of (tk_3 _ (List.mem_of_getElem? (i := 124) rfl)) rfl, Wt_of (tk_1 _ (List.mem_of_getElem? (i := 15) rfl)) rfl, by decide, by decide, by decide +kernel⟩
abbrev mi_J3_checkIndex_8e157 : Mi := (RJ3, cJ3_checkIndex_8e157, 3, rm 0, (some .int))
def tb_J3_checkIndex_8e157 : List (Nat × ClassFile.Instr × Nat) := [(0, .iload_n 0, 1), (1, .ifCond .lt 8, 3), (4, .iload_n 0, 1), (5, .iload_n 1, 1), (6, .if_icmp .lt 10, 3), (9, .aload_n 2, 1), (10, .iload_n 0, 1), (11, .iload_n 1, 1), (12, .invokestatic 95, 3), (15, .athrow, 1), (16, .iload_n 0, 1), (17, .ireturn, 1)]
theorem td_J3_checkIndex_8e157 : AllDec cJ3_checkIndex_8e157 tb_J3_checkIndex_8e157 := by unfold AllDec; decide +kernel
theorem lb_J3_checkIndex_8e157 : LkB yJ3_checkIndex_8e157 mi_J3_checkIndex_8e157 3 := ⟨Wt_of (tk_3 _ (List.mem_of_getElem? (i := 132) rfl)) rfl, Wt_of (tk_1 _ (List.mem_of_getElem? (i := 16) rfl)) rfl, by decide, by decide, by decide +kernel⟩
theorem lk_J0_335 : LkV RJ0 335 yJ0_coder_7d493 mi_J0_coder_7d493 0 := ⟨lb_J0_coder_7d493, Wt_of (tk_3 _ (List.mem_of_getElem? (i := 108) rfl)) rfl, Wt_of (tk_3 _ (List.mem_of_getElem? (i := 109) rfl)) rfl, Wt_of (tk_3 _ (List.mem_of_getElem? (i := 110) rfl)) rfl⟩
theorem lk_J0_492 : LkV RJ0 492 yJ0_isLatin1_aae02 mi_J0_isLatin1_aae02 0 := ⟨lb_J0_isLatin1_aae02, Wt_of (tk_3 _ (List.mem_of_getElem? (i := 118) rfl)) rfl, Wt_of (tk_3 _ (List.mem_of_getElem? (i := 119) rfl)) rfl, Wt_of (tk_3 _ (List.mem_of_getElem? (i := 120) rfl)) rfl⟩
theorem lk_J0_495 : LkS RJ0 495 yJ1_charAt_3b067 mi_J1_charAt_3b067 2 := ⟨lb_J1_charAt_3b067, Wt_of (tk_3 _ (List.mem_of_getElem? (i := 122) rfl)) rfl, Wt_of (tk_3 _ (List.mem_of_getElem? (i := 123) rfl)) rfl⟩
theorem lk_J1_9 : LkS RJ1 9 yJ0_checkIndex_df160 mi_J0_checkIndex_df160 2 := ⟨lb_J0_checkIndex_df160, Wt_of (tk_3 _ (List.mem_of_getElem? (i := 125) rfl)) rfl, Wt_of (tk_3 _ (List.mem_of_getElem? (i := 126) rfl)) rfl⟩
theorem lk_J0_1059 : LkS RJ0 1059 yJ3_checkIndex_8e157 mi_J3_checkIndex_8e157 3 := ⟨lb_J3_checkIndex_8e157, Wt_of (tk_3 _ (List.mem_of_getElem? (i := 130) rfl)) rfl, Wt_of (tk_3 _ (List.mem_of_getElem? (i := 131) rfl)) rfl⟩
theorem sfv_w : Cond.fieldLink RJ0 9 "java/lang/String" "value" "[B" ∈ Wt := Wt_of (tk_9 _ (List.mem_of_getElem? (i := 172) rfl)) rfl
theorem sfc_w : Cond.fieldLink RJ0 15 "java/lang/String" "coder" "B" ∈ Wt := Wt_of (tk_9 _ (List.mem_of_getElem? (i := 173) rfl)) rfl
theorem sfs_w : Cond.fieldLink RJ0 38 "java/lang/String" "COMPACT_STRINGS" "Z" ∈ Wt := Wt_of (tk_3 _ (List.mem_of_getElem? (i := 112) rfl)) rfl
theorem sfx_w : Cond.fieldLink RJ0 1053 "jdk/internal/util/Preconditions" "SIOOBE_FORMATTER" "Ljava/util/function/BiFunction;" ∈ Wt := Wt_of (tk_3 _ (List.mem_of_getElem? (i := 128) rfl)) rfl
def slen (i : Nat) : Int32 := Int32.ofNat (lenST.getD i 0)
def sby (i j : Nat) : Int32 := (bytST.getD i []).getD j 0
def sch {β : Type} (i : Nat) (k : Int32) (K : Int32 → Option β) : Option β := if k < 0 ∨ lenST.getD i 0 ≤ k.toNatClampNeg then none else K (sby i k.toNatClampNeg)
theorem sby_ok : ∀ i, i < 16 → ∀ j, j < lenST.getD i 0 → ((sby i j &&& 255).toUInt32 % 65536).toInt32 = sby i j ∧ (sby i j).toUInt32.toUInt16.toUInt32.toInt32 = sby i j := by decide +kernel
theorem slen_sm : ∀ i, i < 16 → lenST.getD i 0 < 2 ^ 31 := by decide +kernel
section STRS
variable {τ : Type} {E : Ev} {mi : Mi} {φ : τ → Option Value × G} {g : G} {lv : List (Nat × Value)} {st : List Value} {tb : List (Nat × ClassFile.Instr × Nat)} {pc q : Nat}
theorem go_ldcS {o : Option τ} {index a : Nat} {tx : String} (T : AllDec mi.2.1 tb) (i : Nat) (h : tb[i]? = some (pc, .ldc index, 2)) (hq : pc + 2 = q) (hr : ∀ s : State, xA E s → vk_R mi.1 index tx (E.2.1 a) s) (k : Go (wCA E) mi φ g q lv (.ref (E.2.1 a) :: st) o) : Go (wCA E) mi φ g pc lv st o := by
  intro t ho p l e s m args below meth c H locs C hP hD hS ls hl
  subst hq
  exact va_ldcS C.1 C.2.1 C.2.2.2.2.1 (hr s C.2.2.2.2.2.2.2.2) (T.at h) (k t ho p l e s m args below meth c H locs C hP hD hS ls hl)
theorem go_sfv {o : Option τ} {index a : Nat} (T : AllDec mi.2.1 tb) (i : Nat) (h : tb[i]? = some (pc, .getfield index, 3)) (hq : pc + 3 = q) (hk : Cond.fieldLink mi.1 index "java/lang/String" "value" "[B" ∈ Wt) (ha : a < nST) (k : Go (wCA E) mi φ g q lv (.ref (E.2.1 (16 + a)) :: st) o) : Go (wCA E) mi φ g pc lv (.ref (E.2.1 a) :: st) o := by
  intro t ho p l e s m args below meth c H locs C hP hD hS ls hl
  subst hq
  exact vk_getf C.1 C.2.1 (C.2.2.2.2.2.2.2.2.2.1.1 a ha).2.2.1 hS C.2.2.2.2.1 (C.2.2.2.2.2.1 _ hk) (fun _ h9 => h9) (T.at h) (k t ho p l e s m args below meth c H locs C hP hD hS ls hl)
theorem go_sfc {o : Option τ} {index a : Nat} (T : AllDec mi.2.1 tb) (i : Nat) (h : tb[i]? = some (pc, .getfield index, 3)) (hq : pc + 3 = q) (hk : Cond.fieldLink mi.1 index "java/lang/String" "coder" "B" ∈ Wt) (ha : a < nST) (k : Go (wCA E) mi φ g q lv (.int 0 :: st) o) : Go (wCA E) mi φ g pc lv (.ref (E.2.1 a) :: st) o := by
  intro t ho p l e s m args below meth c H locs C hP hD hS ls hl
  subst hq
  exact vk_getf C.1 C.2.1 (C.2.2.2.2.2.2.2.2.2.1.1 a ha).2.1 hS C.2.2.2.2.1 (C.2.2.2.2.2.1 _ hk) (fun _ h9 => h9) (T.at h) (k t ho p l e s m args below meth c H locs C hP hD hS ls hl)
theorem go_scs {o : Option τ} {index : Nat} (T : AllDec mi.2.1 tb) (i : Nat) (h : tb[i]? = some (pc, .getstatic index, 3)) (hq : pc + 3 = q) (hk : Cond.fieldLink mi.1 index "java/lang/String" "COMPACT_STRINGS" "Z" ∈ Wt) (k : Go (wCA E) mi φ g q lv (.int 1 :: st) o) : Go (wCA E) mi φ g pc lv st o := by
  intro t ho p l e s m args below meth c H locs C hP hD hS ls hl
  subst hq
  exact va_gets C.1 C.2.1 C.2.2.2.2.2.2.2.2.2.2.2.1 hS C.2.2.2.2.1 (C.2.2.2.2.2.1 _ hk) (fun _ h9 => h9) (T.at h) (k t ho p l e s m args below meth c H locs C hP hD hS ls hl)
theorem go_ssx {o : Option τ} {index : Nat} (T : AllDec mi.2.1 tb) (i : Nat) (h : tb[i]? = some (pc, .getstatic index, 3)) (hq : pc + 3 = q) (hk : Cond.fieldLink mi.1 index "jdk/internal/util/Preconditions" "SIOOBE_FORMATTER" "Ljava/util/function/BiFunction;" ∈ Wt) (k : ∀ v : Value, (v = .null ∨ ∃ a, v = .ref a) → Go (wCA E) mi φ g q lv (v :: st) o) : Go (wCA E) mi φ g pc lv st o := by
  intro t ho p l e s m args below meth c H locs C hP hD hS ls hl
  subst hq
  rcases C.2.2.2.2.2.2.2.2.2.2.2.2 with hz | ⟨a, hz⟩
  · exact va_gets C.1 C.2.1 hz hS C.2.2.2.2.1 (C.2.2.2.2.2.1 _ hk) (fun _ h9 => h9) (T.at h) (k .null (Or.inl rfl) t ho p l e s m args below meth c H locs C hP hD hS ls hl)
  · exact va_gets C.1 C.2.1 hz hS C.2.2.2.2.1 (C.2.2.2.2.2.1 _ hk) (fun _ h9 => h9) (T.at h) (k (.ref a) (Or.inr ⟨a, rfl⟩) t ho p l e s m args below meth c H locs C hP hD hS ls hl)
theorem go_stl {o : Option τ} {a : Nat} (T : AllDec mi.2.1 tb) (i : Nat) (h : tb[i]? = some (pc, .arraylength, 1)) (hq : pc + 1 = q) (ha : a < nST) (k : Go (wCA E) mi φ g q lv (.int (slen a) :: st) o) : Go (wCA E) mi φ g pc lv (.ref (E.2.1 (16 + a)) :: st) o := by
  intro t ho p l e s m args below meth c H locs C hP hD hS ls hl
  subst hq
  exact va_tlen C.1 C.2.1 (C.2.2.2.2.2.2.2.2.2.1.1 a ha).2.2.2 hS rfl (T.at h) (k t ho p l e s m args below meth c H locs C hP hD hS ls hl)
theorem go_sbl {K : Int32 → Option τ} {a : Nat} {x : Int32} (T : AllDec mi.2.1 tb) (i : Nat) (h : tb[i]? = some (pc, .baload, 1)) (hq : pc + 1 = q) (ha : a < nST) (k : ¬ (x < 0 ∨ lenST.getD a 0 ≤ x.toNatClampNeg) → Go (wCA E) mi φ g q lv (.int (sby a x.toNatClampNeg) :: st) (K (sby a x.toNatClampNeg))) : Go (wCA E) mi φ g pc lv (.int x :: .ref (E.2.1 (16 + a)) :: st) (sch a x K) := by
  intro t ho p l e s m args below meth c H locs C hP hD hS ls hl
  subst hq
  by_cases hz : x < 0 ∨ lenST.getD a 0 ≤ x.toNatClampNeg
  · rw [sch, if_pos hz] at ho
    cases ho
  · rw [sch, if_neg hz] at ho
    exact va_tb C.1 C.2.1 (C.2.2.2.2.2.2.2.2.2.1.1 a ha).2.2.2 hS hz rfl (T.at h) (k hz t ho p l e s m args below meth c H locs C hP hD hS ls hl)
theorem go_i2c {o : Option τ} {x v : Int32} (T : AllDec mi.2.1 tb) (i : Nat) (h : tb[i]? = some (pc, .i2c, 1)) (hq : pc + 1 = q) (hv : (x.toUInt32 % 65536).toInt32 = v) (k : Go (wCA E) mi φ g q lv (.int v :: st) o) : Go (wCA E) mi φ g pc lv (.int x :: st) o := by
  intro t ho p l e s m args below meth c H locs C hP hD hS ls hl
  subst hq
  exact lv_i2c C.1 C.2.1 (T.at h) hv (k t ho p l e s m args below meth c H locs C hP hD hS ls hl)
theorem go_xret {x : Int32} {u : τ} {ty : FieldType} (T : AllDec mi.2.1 tb) (i : Nat) (h : tb[i]? = some (pc, .ireturn, 1)) (hr : mi.2.2.2.2 = some ty) (hx : narrow ty (.int x) = .int x) (hu : φ u = (some (.int x), g)) : Go (wCA E) mi φ g pc lv [.int x] (some u) := by
  intro t ho p l e s m args below meth c H locs C hP hD hS ls hl
  cases ho
  have hlocks : meth.locks = false := C.2.2.2.2.2.2.1
  refine W.zret C.1 C.2.1 (C.2.2.1.trans hr) hx (fun t ht hW => ?_) hS.2.2 (T.at h)
  rw [gQ, hu]
  exact ⟨rfl, by rw [ht]; exact hP, va_K.moved hW.alike C.2.2.2.2.2.2.2.1, hD, hS.F ht⟩
set_option maxHeartbeats 2000000 in
theorem go_callT {τ' : Type} {φ' : τ' → Option Value × G} {o' : Option τ'} {K : τ' → Option τ} {index n a : Nat} {y : MethodName} {mj : Mi} {av : List Value} {st1 : List Value} (T : AllDec mi.2.1 tb) (i : Nat) (h : tb[i]? = some (pc, .invokevirtual index, 3)) (hq : pc + 3 = q) (hL : LkV mi.1 index y mj n) (hy : y.cls = "java/lang/String") (hC : Ct (wCA E) y mj (.ref (E.2.1 a) :: av) φ' g o') (hR : Rok mi mj) (hn : av.length = n) (hst : st1 = av.reverse ++ .ref (E.2.1 a) :: st) (hw : (st.map fun v => v.category).sum ≤ 8) (ha : a < nST) (k : ∀ t' : τ', Go (wCA E) mi φ (φ' t').2 q lv ((φ' t').1.toList ++ st) (K t')) : Go (wCA E) mi φ g pc lv st1 (Option.bind o' K) := by
  intro t ho p l e s m args below meth c H locs C hP hD hS ls hl
  subst hq
  cases ho' : o' with
  | none => rw [ho'] at ho; cases ho
  | some t' =>
    rw [ho'] at ho
    have ho : K t' = some t := ho
    have hts := C.2.2.2.2.2.1
    obtain ⟨⟨l1, l2, l3, l4, l5⟩, l6, l7, l8⟩ := hL
    have cb := callB_of (R := mi.2.2.2.1) (own := mi.1) (index := index) n hts (Wt_goodIn l1) rfl hR.1 hR.2.1 (hts _ l2) (hts _ l6) ⟨l3, l4, l5⟩ ⟨hR.2.2.1, hR.2.2.2⟩
    refine call_on (a := (Value.ref (E.2.1 a) :: av).toArray) (v2 := (φ' t').1) (g2 := (φ' t').2) ho C hS hl ?_ (k t')
    exact va_runV (C := y.cls) (b := E.2.1 a) (As := av) (rest := st) ⟨C.1, C.2.1, C.2.2.2.1, C.2.2.2.2.1, hts⟩ (hC t' ho' l) ⟨cb, hts _ l7, hts _ l8⟩ ⟨pc_blind (XkA E), by rw [hy]; exact vk_recv C.2.2.2.2.2.2.2.2.2.1 ha hS, fun U hU hW => ⟨rfl, by rw [hU]; exact hP, va_K.moved hW.alike C.2.2.2.2.2.2.2.1, hD, (XkA E).1 s U H locs hW hU hS C.2.2.2.2.2.2.2.2⟩⟩ rfl hn hl.1 hst (lv_room hw) (T.at h) ⟨Nat.zero_le _, Nat.zero_le _⟩
end STRS
theorem ok_coder (E : Ev) (a : Nat) (g : G) (ha : a < nST) : Ct (wCA E) yJ0_coder_7d493 mi_J0_coder_7d493 [.ref (E.2.1 a)] (fun r => (some (.int r), g)) g (some (0 : Int32)) := by
  refine go_enter rfl rfl (Nat.le_of_ble_eq_true rfl) (lv := [(0, .ref (E.2.1 a))]) rfl ?_
  refine go_scs td_J0_coder_7d493 0 rfl (q := 3) rfl sfs_w ?_
  rw [show some (0 : Int32) = (if (1 : Int32) = 0 then none else some 0) from rfl]
  refine go_if_eq 13 td_J0_coder_7d493 1 rfl rfl (q := 6) rfl (fun _ => go_none) (fun _ => ?_)
  refine go_aload_n td_J0_coder_7d493 2 rfl (q := 7) rfl 0 rfl ?_
  refine go_sfc td_J0_coder_7d493 3 rfl (q := 10) rfl sfc_w ha ?_
  refine go_goto td_J0_coder_7d493 4 rfl (q := 14) rfl ?_
  exact go_xret td_J0_coder_7d493 6 rfl rfl rfl rfl
theorem ok_isLatin1 (E : Ev) (a : Nat) (g : G) (ha : a < nST) : Ct (wCA E) yJ0_isLatin1_aae02 mi_J0_isLatin1_aae02 [.ref (E.2.1 a)] (fun r => (some (.int r), g)) g (some (1 : Int32)) := by
  refine go_enter rfl rfl (Nat.le_of_ble_eq_true rfl) (lv := [(0, .ref (E.2.1 a))]) rfl ?_
  refine go_scs td_J0_isLatin1_aae02 0 rfl (q := 3) rfl sfs_w ?_
  rw [show some (1 : Int32) = (if (1 : Int32) = 0 then none else (if (0 : Int32) = 0 then some 1 else none)) from rfl]
  refine go_if_eq 17 td_J0_isLatin1_aae02 1 rfl rfl (q := 6) rfl (fun _ => go_none) (fun _ => ?_)
  refine go_aload_n td_J0_isLatin1_aae02 2 rfl (q := 7) rfl 0 rfl ?_
  refine go_sfc td_J0_isLatin1_aae02 3 rfl (q := 10) rfl sfc_w ha ?_
  refine go_if_ne 17 td_J0_isLatin1_aae02 4 rfl rfl (q := 13) rfl (fun _ => go_none) (fun _ => ?_)
  refine go_iconst td_J0_isLatin1_aae02 5 rfl (q := 14) rfl kc_1 ?_
  refine go_goto td_J0_isLatin1_aae02 6 rfl (q := 18) rfl ?_
  exact go_zret td_J0_isLatin1_aae02 8 rfl rfl rfl rfl
theorem sh0 (x : Int32) : x >>> ((0 : Int32) &&& 31) = x := by
  have h : (0 : Int32) &&& 31 = 0 := by decide
  rw [h]
  simp
theorem ok_length (E : Ev) (a : Nat) (g : G) (ha : a < nST) : Ct (wCA E) yJ0_length_8abf5 mi_J0_length_8abf5 [.ref (E.2.1 a)] (fun r => (some (.int r), g)) g (some (slen a)) := by
  refine go_enter rfl rfl (Nat.le_of_ble_eq_true rfl) (lv := [(0, .ref (E.2.1 a))]) rfl ?_
  refine go_aload_n td_J0_length_8abf5 0 rfl (q := 1) rfl 0 rfl ?_
  refine go_sfv td_J0_length_8abf5 1 rfl (q := 4) rfl sfv_w ha ?_
  refine go_stl td_J0_length_8abf5 2 rfl (q := 5) rfl ha ?_
  refine go_aload_n td_J0_length_8abf5 3 rfl (q := 6) rfl 0 rfl ?_
  rw [show some (slen a) = Option.bind (some (0 : Int32)) (fun r => some (slen a >>> (r &&& 31))) from (congrArg some (sh0 _)).symm]
  refine go_callT td_J0_length_8abf5 4 rfl (q := 9) rfl lk_J0_335 rfl (ok_coder E a g ha) ⟨rfl, rfl, Nat.le_of_ble_eq_true rfl, Nat.le_of_ble_eq_true rfl⟩ rfl rfl (Nat.le_of_ble_eq_true rfl) ha (fun r => ?_)
  show Go (wCA E) _ _ g 9 _ [.int r, .int (slen a)] _
  refine go_ishr td_J0_length_8abf5 5 rfl (q := 10) rfl ?_
  exact go_iret td_J0_length_8abf5 6 rfl rfl rfl
def fpck (i n : Int32) : Option Int32 := if i < 0 then none else if i < n then some i else none
theorem ok_pck (E : Ev) (i n : Int32) (v : Value) (hv : v = .null ∨ ∃ a, v = .ref a) (g : G) : Ct (wCA E) yJ3_checkIndex_8e157 mi_J3_checkIndex_8e157 [.int i, .int n, v] (fun r => (some (.int r), g)) g (fpck i n) := by
  refine go_enter rfl rfl (by rcases hv with rfl | ⟨a, rfl⟩ <;> exact Nat.le_of_ble_eq_true rfl) (lv := [(0, .int i), (1, .int n), (2, v)]) (by rcases hv with rfl | ⟨a, rfl⟩ <;> rfl) ?_
  unfold fpck
  refine go_iload_n td_J3_checkIndex_8e157 0 rfl (q := 1) rfl 0 rfl ?_
  refine go_if_lt 9 td_J3_checkIndex_8e157 1 rfl rfl (q := 4) rfl (fun _ => go_none) (fun _ => ?_)
  refine go_iload_n td_J3_checkIndex_8e157 2 rfl (q := 5) rfl 0 rfl ?_
  refine go_iload_n td_J3_checkIndex_8e157 3 rfl (q := 6) rfl 1 rfl ?_
  refine go_icmp_lt 16 td_J3_checkIndex_8e157 4 rfl rfl (q := 9) rfl (fun _ => ?_) (fun _ => go_none)
  refine go_iload_n td_J3_checkIndex_8e157 10 rfl (q := 17) rfl 0 rfl ?_
  exact go_iret td_J3_checkIndex_8e157 11 rfl rfl rfl
theorem ok_sck (E : Ev) (i n : Int32) (g : G) : Ct (wCA E) yJ0_checkIndex_df160 mi_J0_checkIndex_df160 [.int i, .int n] (fun (_ : Unit) => (none, g)) g (Option.bind (fpck i n) fun _ => some ()) := by
  refine go_enter rfl rfl (Nat.le_of_ble_eq_true rfl) (lv := [(0, .int i), (1, .int n)]) rfl ?_
  refine go_iload_n td_J0_checkIndex_df160 0 rfl (q := 1) rfl 0 rfl ?_
  refine go_iload_n td_J0_checkIndex_df160 1 rfl (q := 2) rfl 1 rfl ?_
  refine go_ssx td_J0_checkIndex_df160 2 rfl (q := 5) rfl sfx_w (fun v hv => ?_)
  refine go_callS td_J0_checkIndex_df160 3 rfl (q := 8) rfl (XkA E) lk_J0_1059 (ok_pck E i n v hv g) ⟨rfl, rfl, Nat.le_of_ble_eq_true rfl, Nat.le_of_ble_eq_true rfl⟩ rfl rfl (Nat.le_of_ble_eq_true rfl) (fun r => ?_)
  show Go (wCA E) _ _ g 8 _ [.int r] _
  refine go_pop td_J0_checkIndex_df160 4 rfl (q := 9) rfl rfl ?_
  exact go_vret td_J0_checkIndex_df160 5 rfl rfl rfl
theorem sck_in {i : Int32} {a : Nat} (ha : a < nST) (h : ¬ (i < 0 ∨ lenST.getD a 0 ≤ i.toNatClampNeg)) : fpck i (slen a) = some i := by
  have h1 : ¬ i < 0 := fun z => h (Or.inl z)
  have h2 : i.toNatClampNeg < lenST.getD a 0 := Nat.not_le.mp fun z => h (Or.inr z)
  obtain ⟨j, hj, rfl⟩ := nI_of h1
  rw [nI_clamp hj] at h2
  rw [fpck, if_neg h1, if_pos]
  exact nI_lt h2 (slen_sm a ha)
theorem ok_lch (E : Ev) (a : Nat) (i : Int32) (g : G) (ha : a < nST) : Ct (wCA E) yJ1_charAt_3b067 mi_J1_charAt_3b067 [.ref (E.2.1 (16 + a)), .int i] (fun r => (some (.int r), g)) g (sch a i some) := by
  have hlen := slen_sm a ha
  have e : sch a i some = Option.bind (Option.bind (fpck i (slen a)) fun _ => some ()) (fun _ => sch a i (fun y => some y)) := by
    by_cases h : i < 0 ∨ lenST.getD a 0 ≤ i.toNatClampNeg
    · have e1 : ∀ K : Int32 → Option Int32, sch a i K = none := fun K => if_pos h
      rw [e1]
      cases fpck i (slen a) <;> rfl
    · rw [sck_in ha h]; rfl
  rw [e]
  refine go_enter rfl rfl (Nat.le_of_ble_eq_true rfl) (lv := [(0, .ref (E.2.1 (16 + a))), (1, .int i)]) rfl ?_
  refine go_iload_n td_J1_charAt_3b067 0 rfl (q := 1) rfl 1 rfl ?_
  refine go_aload_n td_J1_charAt_3b067 1 rfl (q := 2) rfl 0 rfl ?_
  refine go_stl td_J1_charAt_3b067 2 rfl (q := 3) rfl ha ?_
  refine go_callS td_J1_charAt_3b067 3 rfl (q := 6) rfl (XkA E) lk_J1_9 (ok_sck E i (slen a) g) ⟨rfl, rfl, Nat.le_of_ble_eq_true rfl, Nat.le_of_ble_eq_true rfl⟩ rfl rfl (Nat.le_of_ble_eq_true rfl) (fun r => ?_)
  show Go (wCA E) _ _ g 6 _ [] _
  refine go_aload_n td_J1_charAt_3b067 4 rfl (q := 7) rfl 0 rfl ?_
  refine go_iload_n td_J1_charAt_3b067 5 rfl (q := 8) rfl 1 rfl ?_
  refine go_sbl td_J1_charAt_3b067 6 rfl (q := 9) rfl ha (fun hin => ?_)
  have hb := sby_ok a ha i.toNatClampNeg (Nat.not_le.mp fun z => hin (Or.inr z))
  refine go_sipush (v := 255) td_J1_charAt_3b067 7 rfl (q := 12) rfl (by decide) ?_
  refine go_iand td_J1_charAt_3b067 8 rfl (q := 13) rfl ?_
  refine go_i2c td_J1_charAt_3b067 9 rfl (q := 14) rfl hb.1 ?_
  exact go_xret td_J1_charAt_3b067 10 rfl rfl (congrArg Value.int hb.2) rfl
def nch (y : Int32) : Option Int32 := if y.toUInt32.toUInt16.toUInt32.toInt32 = y then some y else none
theorem ok_charAt (E : Ev) (a : Nat) (i : Int32) (g : G) (ha : a < nST) : Ct (wCA E) yJ0_charAt_5068e mi_J0_charAt_5068e [.ref (E.2.1 a), .int i] (fun r => (some (.int r), g)) g (sch a i some) := by
  have e : sch a i some = Option.bind (some (1 : Int32)) (fun r => if r = 0 then none else Option.bind (sch a i some) (fun y => nch y)) := by
    show sch a i some = Option.bind (sch a i some) (fun y => nch y)
    by_cases h : i < 0 ∨ lenST.getD a 0 ≤ i.toNatClampNeg
    · have e1 : ∀ K : Int32 → Option Int32, sch a i K = none := fun K => if_pos h
      rw [e1]; rfl
    · have hb := sby_ok a ha i.toNatClampNeg (Nat.not_le.mp fun z => h (Or.inr z))
      rw [sch, if_neg h]
      show _ = nch _
      rw [nch, if_pos hb.2]
  rw [e]
  refine go_enter rfl rfl (Nat.le_of_ble_eq_true rfl) (lv := [(0, .ref (E.2.1 a)), (1, .int i)]) rfl ?_
  refine go_aload_n td_J0_charAt_5068e 0 rfl (q := 1) rfl 0 rfl ?_
  refine go_callT td_J0_charAt_5068e 1 rfl (q := 4) rfl lk_J0_492 rfl (ok_isLatin1 E a g ha) ⟨rfl, rfl, Nat.le_of_ble_eq_true rfl, Nat.le_of_ble_eq_true rfl⟩ rfl rfl (Nat.le_of_ble_eq_true rfl) ha (fun r => ?_)
  show Go (wCA E) _ _ g 4 _ [.int r] _
  refine go_if_eq 16 td_J0_charAt_5068e 2 rfl rfl (q := 7) rfl (fun _ => go_none) (fun _ => ?_)
  refine go_aload_n td_J0_charAt_5068e 3 rfl (q := 8) rfl 0 rfl ?_
  refine go_sfv td_J0_charAt_5068e 4 rfl (q := 11) rfl sfv_w ha ?_
  refine go_iload_n td_J0_charAt_5068e 5 rfl (q := 12) rfl 1 rfl ?_
  refine go_callS td_J0_charAt_5068e 6 rfl (q := 15) rfl (XkA E) lk_J0_495 (ok_lch E a i g ha) ⟨rfl, rfl, Nat.le_of_ble_eq_true rfl, Nat.le_of_ble_eq_true rfl⟩ rfl rfl (Nat.le_of_ble_eq_true rfl) (fun y => ?_)
  show Go (wCA E) _ _ g 15 _ [.int y] _
  intro t ho
  by_cases hy : y.toUInt32.toUInt16.toUInt32.toInt32 = y
  · rw [nch, if_pos hy] at ho
    exact go_xret (E := E) (mi := mi_J0_charAt_5068e) (φ := fun r => (some (.int r), g)) (g := g) (ty := .char) (x := y) (u := y) td_J0_charAt_5068e 7 rfl rfl (congrArg Value.int hy) rfl t ho
  · rw [nch, if_neg hy] at ho
    cases ho
section STRT
variable {τ : Type} {E : Ev} {mi : Mi} {φ : τ → Option Value × G} {g : G} {lv : List (Nat × Value)} {st : List Value} {tb : List (Nat × ClassFile.Instr × Nat)} {pc q : Nat}
theorem go_slen {o : Option τ} {index a : Nat} (T : AllDec mi.2.1 tb) (i : Nat) (h : tb[i]? = some (pc, .invokevirtual index, 3)) (hq : pc + 3 = q) (hk : Cond.methodLink mi.1 index yJ0_length_8abf5 ∈ Wt) (ha : a < nST) (hR : mi_J0_length_8abf5.2.2.2.1.frames + 1 ≤ mi.2.2.2.1.frames ∧ 8 + (mi_J0_length_8abf5.2.2.1 + 11) + mi_J0_length_8abf5.2.2.2.1.locals ≤ mi.2.2.2.1.locals ∧ (st.map fun v => v.category).sum ≤ 8) (k : Go (wCA E) mi φ g q lv (.int (slen a) :: st) o) : Go (wCA E) mi φ g pc lv (.ref (E.2.1 a) :: st) o := by
  have hg : Go (wCA E) mi φ g pc lv (.ref (E.2.1 a) :: st) (Option.bind (some (slen a)) (fun r => if r = slen a then o else none)) := by
    refine go_callT T i h hq ⟨lb_J0_length_8abf5, hk, Wt_of (tk_3 _ (List.mem_of_getElem? (i := 105) rfl)) rfl, Wt_of (tk_3 _ (List.mem_of_getElem? (i := 106) rfl)) rfl⟩ rfl (ok_length E a g ha) ⟨rfl, rfl, hR.1, hR.2.1⟩ rfl rfl hR.2.2 ha (fun r => ?_)
    intro t ho
    by_cases hr : r = slen a
    · rw [if_pos hr] at ho
      subst hr
      exact k t ho
    · rw [if_neg hr] at ho
      cases ho
  rw [show Option.bind (some (slen a)) (fun r => if r = slen a then o else none) = o from if_pos rfl] at hg
  exact hg
theorem go_schar {K : Int32 → Option τ} {index a : Nat} {x : Int32} (T : AllDec mi.2.1 tb) (i : Nat) (h : tb[i]? = some (pc, .invokevirtual index, 3)) (hq : pc + 3 = q) (hk : Cond.methodLink mi.1 index yJ0_charAt_5068e ∈ Wt) (ha : a < nST) (hR : mi_J0_charAt_5068e.2.2.2.1.frames + 1 ≤ mi.2.2.2.1.frames ∧ 8 + (mi_J0_charAt_5068e.2.2.1 + 11) + mi_J0_charAt_5068e.2.2.2.1.locals ≤ mi.2.2.2.1.locals ∧ (st.map fun v => v.category).sum ≤ 8) (k : ∀ y : Int32, Go (wCA E) mi φ g q lv (.int y :: st) (K y)) : Go (wCA E) mi φ g pc lv (.int x :: .ref (E.2.1 a) :: st) (sch a x K) := by
  rw [show sch a x K = Option.bind (sch a x some) K from by
    by_cases hz : x < 0 ∨ lenST.getD a 0 ≤ x.toNatClampNeg
    · rw [sch, sch, if_pos hz, if_pos hz]; rfl
    · rw [sch, sch, if_neg hz, if_neg hz]; rfl]
  exact go_callT T i h hq ⟨lb_J0_charAt_5068e, hk, Wt_of (tk_3 _ (List.mem_of_getElem? (i := 115) rfl)) rfl, Wt_of (tk_3 _ (List.mem_of_getElem? (i := 116) rfl)) rfl⟩ rfl (ok_charAt E a x g ha) ⟨rfl, rfl, hR.1, hR.2.1⟩ rfl rfl hR.2.2 ha (fun y => k y)
end STRT

theorem sr_X5_107 (E : Ev) : ∀ s : State, xA E s → vk_R RX5 107 "grid" (E.2.1 0) s := fun s h => h.2.2.1 ("OrbitDesk$Reader", 107, "grid", 0) (by decide +kernel)
theorem sr_X5_119 (E : Ev) : ∀ s : State, xA E s → vk_R RX5 119 "by" (E.2.1 1) s := fun s h => h.2.2.1 ("OrbitDesk$Reader", 119, "by", 1) (by decide +kernel)
theorem sr_X5_124 (E : Ev) : ∀ s : State, xA E s → vk_R RX5 124 "day" (E.2.1 2) s := fun s h => h.2.2.1 ("OrbitDesk$Reader", 124, "day", 2) (by decide +kernel)
theorem sr_X5_144 (E : Ev) : ∀ s : State, xA E s → vk_R RX5 144 "node" (E.2.1 4) s := fun s h => h.2.2.1 ("OrbitDesk$Reader", 144, "node", 4) (by decide +kernel)
theorem sr_X5_149 (E : Ev) : ∀ s : State, xA E s → vk_R RX5 149 "tilt" (E.2.1 5) s := fun s h => h.2.2.1 ("OrbitDesk$Reader", 149, "tilt", 5) (by decide +kernel)
theorem sr_X5_154 (E : Ev) : ∀ s : State, xA E s → vk_R RX5 154 "turn" (E.2.1 6) s := fun s h => h.2.2.1 ("OrbitDesk$Reader", 154, "turn", 6) (by decide +kernel)
theorem sr_X5_165 (E : Ev) : ∀ s : State, xA E s → vk_R RX5 165 "in" (E.2.1 8) s := fun s h => h.2.2.1 ("OrbitDesk$Reader", 165, "in", 8) (by decide +kernel)
theorem sr_X5_173 (E : Ev) : ∀ s : State, xA E s → vk_R RX5 173 "phase" (E.2.1 9) s := fun s h => h.2.2.1 ("OrbitDesk$Reader", 173, "phase", 9) (by decide +kernel)
theorem sr_X5_182 (E : Ev) : ∀ s : State, xA E s → vk_R RX5 182 "reach" (E.2.1 10) s := fun s h => h.2.2.1 ("OrbitDesk$Reader", 182, "reach", 10) (by decide +kernel)
theorem sr_X5_197 (E : Ev) : ∀ s : State, xA E s → vk_R RX5 197 "at" (E.2.1 12) s := fun s h => h.2.2.1 ("OrbitDesk$Reader", 197, "at", 12) (by decide +kernel)
theorem sr_X5_204 (E : Ev) : ∀ s : State, xA E s → vk_R RX5 204 "from" (E.2.1 13) s := fun s h => h.2.2.1 ("OrbitDesk$Reader", 204, "from", 13) (by decide +kernel)
theorem sr_X5_209 (E : Ev) : ∀ s : State, xA E s → vk_R RX5 209 "to" (E.2.1 14) s := fun s h => h.2.2.1 ("OrbitDesk$Reader", 209, "to", 14) (by decide +kernel)
theorem sr_X5_76 (E : Ev) : ∀ s : State, xA E s → vk_R RX5 76 "plane" (E.2.1 3) s := fun s h => h.2.2.1 ("OrbitDesk$Reader", 76, "plane", 3) (by decide +kernel)
theorem sr_X5_87 (E : Ev) : ∀ s : State, xA E s → vk_R RX5 87 "craft" (E.2.1 7) s := fun s h => h.2.2.1 ("OrbitDesk$Reader", 87, "craft", 7) (by decide +kernel)
theorem sr_X5_92 (E : Ev) : ∀ s : State, xA E s → vk_R RX5 92 "site" (E.2.1 11) s := fun s h => h.2.2.1 ("OrbitDesk$Reader", 92, "site", 11) (by decide +kernel)
theorem sr_X10_23 (E : Ev) : ∀ s : State, xA E s → vk_R RX10 23 "grid by day plane node tilt turn craft in phase reach site at from to " (E.2.1 15) s := fun s h => h.2.2.1 ("OrbitDesk$Words", 23, "grid by day plane node tilt turn craft in phase reach site at from to ", 15) (by decide +kernel)

/-! the law: both worlds side by side -/
set_option maxRecDepth 20000 in
theorem fstA (E : Ev) (g : G) : (cWA E g).map Prod.fst = (List.range 146).map E.1 := rfl
set_option maxRecDepth 20000 in
theorem fstB (E : Ev) (g : G) : (cWB E g).map Prod.fst = (List.range 30).map E.1 := rfl
theorem atFst {ws : va_W} {n : Nat} {ad : Nat → Nat} (h : ws.map Prod.fst = (List.range n).map ad) {k : Nat} {q : Nat × va_E} (hk : ws[k]? = some q) : k < n ∧ q.1 = ad k := by
  have h1 : (ws.map Prod.fst)[k]? = some q.1 := by rw [List.getElem?_map, hk]; rfl
  rw [h, List.getElem?_map] at h1
  by_cases hn : k < n
  · rw [List.getElem?_range hn] at h1
    exact ⟨hn, (Option.some.inj h1).symm⟩
  · rw [List.getElem?_eq_none (by simpa using hn)] at h1
    cases h1
theorem vaD_of {ws : va_W} {n : Nat} {ad : Nat → Nat} (h : ws.map Prod.fst = (List.range n).map ad) (hi : ∀ i j, i < n → j < n → ad i = ad j → i = j) : va_D (fun q => ∃ k : Nat, k < n ∧ q = ad k) ws := by
  refine ⟨fun i j p q hp hq e => ?_, fun k q hk => ?_⟩
  · obtain ⟨i1, e1⟩ := atFst h hp
    obtain ⟨j1, e2⟩ := atFst h hq
    exact hi i j i1 j1 (by rw [← e1, ← e2]; exact e)
  · obtain ⟨k1, e1⟩ := atFst h hk
    exact ⟨k, k1, e1⟩
/-- what holds of the two worlds' addresses and classes, through the whole run -/
def LW (s : State) (E1 E2 : Ev) : Prop :=
  E1.2.2 = E2.2.2 ∧ va_K E1.2.2.2 vwCl [(E1.2.2.1.1, .int), (E1.2.2.1.2.1, .float), (E1.2.2.1.2.2, .object "OrbitDesk$Fleet")] s ∧
  (∀ k, k < 146 → s.heap.size ≤ E1.1 k) ∧ (∀ k, k < 30 → s.heap.size ≤ E2.1 k) ∧
  (∀ i j, i < 146 → j < 146 → E1.1 i = E1.1 j → i = j) ∧ (∀ i j, i < 30 → j < 30 → E2.1 i = E2.1 j → i = j) ∧ (∀ i j, i < 146 → j < 30 → E1.1 i ≠ E2.1 j) ∧ xA E1 s
/-- the law's room behind the constructors -/
def kC : Nat := 176
def kS : Nat := 200000
def GL (b L : Nat) (xs : Nat → Int32) (E1 E2 : Ev) (gA gB : G) (pc : Nat) (lv : List (Nat × Value)) (st : List Value) (o : Option Unit) : Prop :=
  o = some () → ∀ (p : Program) (l : Launch) (e : Env) (s : State) (m : MethodId) (below : List Frame) (meth : Method) (c : Code) (H : Heap) (locs : List Loc), lw_At p s m meth c b L xs → LW s E1 E2 →
    va_P E1.2.2.2 vwCl (cWA E1 gA) H → va_P E2.2.2.2 vwCl (cWB E2 gB) H → va_S (fun q => s.heap.size ≤ q) s.heap H locs → ∀ ls : Array Slot, lv_has ls 4 lv →
    W p l e room_1 s m #[Value.ref b] below meth c H locs kC kS (lw_Z below #[Value.ref b] s) (F0 m pc ls st)
section GLR
variable {b L : Nat} {xs : Nat → Int32} {E1 E2 : Ev} {gA gB : G} {lv : List (Nat × Value)} {st : List Value} {tb : List (Nat × ClassFile.Instr × Nat)} {pc q : Nat}
theorem gl_aload_n {o : Option Unit} {j : Fin 4} {x : Nat} (T : AllDec code tb) (i : Nat) (h : tb[i]? = some (pc, .aload_n j, 1)) (hq : pc + 1 = q) (d : Nat) (hj : lv[d]? = some (j.val, .ref x)) (k : GL b L xs E1 E2 gA gB q lv (.ref x :: st) o) : GL b L xs E1 E2 gA gB pc lv (st) o := by
  intro ho p l e s m below meth c H locs C hW hA hB hS ls hl
  subst hq
  exact lv_aload_n C.1 C.2.1 (T.at h) rfl (lv_at hl d hj) (k ho p l e s m below meth c H locs C hW hA hB hS ls hl)
theorem gl_iload_n {o : Option Unit} {j : Fin 4} {x : Int32} (T : AllDec code tb) (i : Nat) (h : tb[i]? = some (pc, .iload_n j, 1)) (hq : pc + 1 = q) (d : Nat) (hj : lv[d]? = some (j.val, .int x)) (k : GL b L xs E1 E2 gA gB q lv (.int x :: st) o) : GL b L xs E1 E2 gA gB pc lv (st) o := by
  intro ho p l e s m below meth c H locs C hW hA hB hS ls hl
  subst hq
  exact lv_iload_n C.1 C.2.1 (T.at h) rfl (lv_at hl d hj) (k ho p l e s m below meth c H locs C hW hA hB hS ls hl)
theorem gl_iconst {o : Option Unit} {n : Int} {v : Int32} (T : AllDec code tb) (i : Nat) (h : tb[i]? = some (pc, .iconst n, 1)) (hq : pc + 1 = q) (hv : Int32.ofInt n = v) (k : GL b L xs E1 E2 gA gB q lv (.int v :: st) o) : GL b L xs E1 E2 gA gB pc lv (st) o := by
  intro ho p l e s m below meth c H locs C hW hA hB hS ls hl
  subst hq
  exact lv_iconst C.1 C.2.1 (T.at h) hv (k ho p l e s m below meth c H locs C hW hA hB hS ls hl)
theorem gl_bipush {o : Option Unit} {n : Int} {v : Int32} (T : AllDec code tb) (i : Nat) (h : tb[i]? = some (pc, .bipush n, 2)) (hq : pc + 2 = q) (hv : (Int8.ofInt n).toInt32 = v) (k : GL b L xs E1 E2 gA gB q lv (.int v :: st) o) : GL b L xs E1 E2 gA gB pc lv (st) o := by
  intro ho p l e s m below meth c H locs C hW hA hB hS ls hl
  subst hq
  exact lv_bipush C.1 C.2.1 (T.at h) hv (k ho p l e s m below meth c H locs C hW hA hB hS ls hl)
theorem gl_iadd {o : Option Unit} {x y : Int32} (T : AllDec code tb) (i : Nat) (h : tb[i]? = some (pc, .iadd, 1)) (hq : pc + 1 = q)  (k : GL b L xs E1 E2 gA gB q lv (.int (x + y) :: st) o) : GL b L xs E1 E2 gA gB pc lv (.int y :: .int x :: st) o := by
  intro ho p l e s m below meth c H locs C hW hA hB hS ls hl
  subst hq
  exact lv_iadd C.1 C.2.1 (T.at h)  (k ho p l e s m below meth c H locs C hW hA hB hS ls hl)
theorem gl_isub {o : Option Unit} {x y : Int32} (T : AllDec code tb) (i : Nat) (h : tb[i]? = some (pc, .isub, 1)) (hq : pc + 1 = q)  (k : GL b L xs E1 E2 gA gB q lv (.int (x - y) :: st) o) : GL b L xs E1 E2 gA gB pc lv (.int y :: .int x :: st) o := by
  intro ho p l e s m below meth c H locs C hW hA hB hS ls hl
  subst hq
  exact lv_isub C.1 C.2.1 (T.at h)  (k ho p l e s m below meth c H locs C hW hA hB hS ls hl)
theorem gl_iand {o : Option Unit} {x y : Int32} (T : AllDec code tb) (i : Nat) (h : tb[i]? = some (pc, .iand, 1)) (hq : pc + 1 = q)  (k : GL b L xs E1 E2 gA gB q lv (.int (x &&& y) :: st) o) : GL b L xs E1 E2 gA gB pc lv (.int y :: .int x :: st) o := by
  intro ho p l e s m below meth c H locs C hW hA hB hS ls hl
  subst hq
  exact lv_iand C.1 C.2.1 (T.at h)  (k ho p l e s m below meth c H locs C hW hA hB hS ls hl)
theorem gl_lcmp {o : Option Unit} {x y : Int64} (T : AllDec code tb) (i : Nat) (h : tb[i]? = some (pc, .lcmp, 1)) (hq : pc + 1 = q) (k : GL b L xs E1 E2 gA gB q lv (.int (lg_cmp x y) :: st) o) : GL b L xs E1 E2 gA gB pc lv (.long y :: .long x :: st) o := by
  intro ho p l e s m below meth c H locs C hW hA hB hS ls hl
  subst hq
  exact W.lcmp C.1 C.2.1 (T.at h) (k ho p l e s m below meth c H locs C hW hA hB hS ls hl)
theorem gl_icmp_eq {A B : Option Unit} {x y : Int32} {off : Int} (tgt : Nat) (T : AllDec code tb) (i : Nat) (h : tb[i]? = some (pc, .if_icmp .eq off, 3)) (ht : (pc : Int) + off = (tgt : Int)) (hq : pc + 3 = q) (kt : x = y → GL b L xs E1 E2 gA gB tgt lv st A) (kf : ¬ x = y → GL b L xs E1 E2 gA gB q lv st B) : GL b L xs E1 E2 gA gB pc lv (.int y :: .int x :: st) (if x = y then A else B) := by
  intro ho p l e s m below meth c H locs C hW hA hB hS ls hl
  subst hq
  exact lv_icmp_eq C.1 C.2.1 (T.at h) ht (fun hc => kt hc (by rw [if_pos hc] at ho; exact ho) p l e s m below meth c H locs C hW hA hB hS ls hl) (fun hc => kf hc (by rw [if_neg hc] at ho; exact ho) p l e s m below meth c H locs C hW hA hB hS ls hl)
theorem gl_icmp_gt {A B : Option Unit} {x y : Int32} {off : Int} (tgt : Nat) (T : AllDec code tb) (i : Nat) (h : tb[i]? = some (pc, .if_icmp .gt off, 3)) (ht : (pc : Int) + off = (tgt : Int)) (hq : pc + 3 = q) (kt : y < x → GL b L xs E1 E2 gA gB tgt lv st A) (kf : ¬ y < x → GL b L xs E1 E2 gA gB q lv st B) : GL b L xs E1 E2 gA gB pc lv (.int y :: .int x :: st) (if y < x then A else B) := by
  intro ho p l e s m below meth c H locs C hW hA hB hS ls hl
  subst hq
  exact lv_icmp_gt C.1 C.2.1 (T.at h) ht (fun hc => kt hc (by rw [if_pos hc] at ho; exact ho) p l e s m below meth c H locs C hW hA hB hS ls hl) (fun hc => kf hc (by rw [if_neg hc] at ho; exact ho) p l e s m below meth c H locs C hW hA hB hS ls hl)
theorem gl_if_eq {A B : Option Unit} {x : Int32} {off : Int} (tgt : Nat) (T : AllDec code tb) (i : Nat) (h : tb[i]? = some (pc, .ifCond .eq off, 3)) (ht : (pc : Int) + off = (tgt : Int)) (hq : pc + 3 = q) (kt : x = 0 → GL b L xs E1 E2 gA gB tgt lv st A) (kf : ¬ x = 0 → GL b L xs E1 E2 gA gB q lv st B) : GL b L xs E1 E2 gA gB pc lv (.int x :: st) (if x = 0 then A else B) := by
  intro ho p l e s m below meth c H locs C hW hA hB hS ls hl
  subst hq
  exact lv_if_eq C.1 C.2.1 (T.at h) ht (fun hc => kt hc (by rw [if_pos hc] at ho; exact ho) p l e s m below meth c H locs C hW hA hB hS ls hl) (fun hc => kf hc (by rw [if_neg hc] at ho; exact ho) p l e s m below meth c H locs C hW hA hB hS ls hl)
theorem gl_goto {o : Option Unit} {off : Int} (T : AllDec code tb) (i : Nat) (h : tb[i]? = some (pc, .goto off, 3)) (ht : (pc : Int) + off = (q : Int)) (k : GL b L xs E1 E2 gA gB q lv st o) : GL b L xs E1 E2 gA gB pc lv st o := by
  intro ho p l e s m below meth c H locs C hW hA hB hS ls hl
  exact lv_goto C.1 C.2.1 (T.at h) ht (k ho p l e s m below meth c H locs C hW hA hB hS ls hl)
theorem gl_none : GL b L xs E1 E2 gA gB pc lv st none := fun h => by cases h
theorem gl_iinc {o : Option Unit} {j : Nat} {n : Int} {x v : Int32} (lv' : List (Nat × Value)) (T : AllDec code tb) (i : Nat) (h : tb[i]? = some (pc, .iinc j n, 3)) (hq : pc + 3 = q) (d : Nat) (hj : lv[d]? = some (j, .int x)) (hv : Int32.ofInt n = v) (hn : j < 4) (hlv : (j, Value.int (x + v)) :: lv.filter (fun q => !(q.1 == j) && !(q.1 + 1 == j && q.2.category == 2)) = lv') (k : GL b L xs E1 E2 gA gB q lv' st o) : GL b L xs E1 E2 gA gB pc lv st o := by
  intro ho p l e s m below meth c H locs C hW hA hB hS ls hl
  subst hq
  subst hv
  exact lv_iinc C.1 C.2.1 (T.at h) hl hj rfl hn hlv (fun ls' hl' => k ho p l e s m below meth c H locs C hW hA hB hS ls' hl')
theorem gl_pick {o : Option Unit} (ks : List Nat) {lv' : List (Nat × Value)} (hl' : lv_pick lv ks = lv') (k : GL b L xs E1 E2 gA gB pc lv' st o) : GL b L xs E1 E2 gA gB pc lv st o := by
  intro ho p l e s m below meth c H locs C hW hA hB hS ls hl
  exact k ho p l e s m below meth c H locs C hW hA hB hS ls (lv_sub hl ks hl')
theorem gl_slen {o : Option Unit} (T : AllDec code tb) (i : Nat) (h : tb[i]? = some (pc, .arraylength, 1)) (hq : pc + 1 = q) (k : GL b L xs E1 E2 gA gB q lv (.int (Int32.ofNat L) :: st) o) : GL b L xs E1 E2 gA gB pc lv (.ref b :: st) o := by
  intro ho p l e s m below meth c H locs C hW hA hB hS ls hl
  subst hq
  obtain ⟨hx, hb, -, -, -, -, hX, hbl, -⟩ := id C
  exact va_slen hx hb hX hbl (Nat.not_le.mpr hbl) hS (T.at h) (k ho p l e s m below meth c H locs C hW hA hB hS ls hl)
theorem gl_sld {K : Int32 → Option Unit} {x : Int32} (T : AllDec code tb) (i : Nat) (h : tb[i]? = some (pc, .iaload, 1)) (hq : pc + 1 = q) (k : ∀ y : Int32, GL b L xs E1 E2 gA gB q lv (.int y :: st) (K y)) : GL b L xs E1 E2 gA gB pc lv (.int x :: .ref b :: st) (ag L xs x K) := by
  intro ho p l e s m below meth c H locs C hW hA hB hS ls hl
  subst hq
  by_cases hz : x < 0 ∨ L ≤ x.toNatClampNeg
  · rw [ag, if_pos hz] at ho
    cases ho
  · rw [ag, if_neg hz] at ho
    obtain ⟨hx, hb, -, -, -, -, hX, hbl, -⟩ := id C
    exact va_sld hx hb hX hbl (Nat.not_le.mpr hbl) hS hz (T.at h) (k _ ho p l e s m below meth c H locs C hW hA hB hS ls hl)
theorem gl_tcase {A B : Option Unit} {x v : Int32} {dflt lo hi off : Int} {offs : Array Int} {len : Nat} (tgt : Nat) (T : AllDec code tb) (i : Nat) (h : tb[i]? = some (pc, .tableswitch dflt lo hi offs, len)) (hv : ¬ v.toInt < lo ∧ ¬ hi < v.toInt ∧ offs[(v.toInt - lo).toNat]? = some off ∧ (pc : Int) + off = (tgt : Int)) (kt : GL b L xs E1 E2 gA gB tgt lv st A) (kf : ¬ x = v → GL b L xs E1 E2 gA gB pc lv (.int x :: st) B) : GL b L xs E1 E2 gA gB pc lv (.int x :: st) (if x = v then A else B) := by
  intro ho p l e s m below meth c H locs C hW hA hB hS ls hl
  by_cases hx : x = v
  · rw [if_pos hx] at ho
    subst hx
    exact lv_tableIn C.1 C.2.1 (T.at h) hv.1 hv.2.1 hv.2.2.1 hv.2.2.2 (kt ho p l e s m below meth c H locs C hW hA hB hS ls hl)
  · rw [if_neg hx] at ho
    exact kf hx ho p l e s m below meth c H locs C hW hA hB hS ls hl
theorem gl_tdef {o : Option Unit} {x : Int32} {dflt lo hi : Int} {offs : Array Int} {len : Nat} (tgt : Nat) (T : AllDec code tb) (i : Nat) (h : tb[i]? = some (pc, .tableswitch dflt lo hi offs, len)) (hx : x.toInt < lo ∨ hi < x.toInt) (ht : (pc : Int) + dflt = (tgt : Int)) (k : GL b L xs E1 E2 gA gB tgt lv st o) : GL b L xs E1 E2 gA gB pc lv (.int x :: st) o := by
  intro ho p l e s m below meth c H locs C hW hA hB hS ls hl
  exact lv_tableOut C.1 C.2.1 (T.at h) hx ht (k ho p l e s m below meth c H locs C hW hA hB hS ls hl)
theorem gl_end (T : AllDec code tb) (i : Nat) (h : tb[i]? = some (pc, .ireturn, 1)) : GL b L xs E1 E2 gA gB pc lv [.int 1] (some ()) := by
  intro ho p l e s m below meth c H locs C hW hA hB hS ls hl
  obtain ⟨hx, hb, hr, -, -, -, -, -, hlocks, -⟩ := C
  refine va_forget (fun q hq => hS.2.2 q hq) ?_
  refine W.widen (k := 600000) (n := 7302250) (Nat.le_of_ble_eq_true rfl) (Nat.le_of_ble_eq_true rfl) ?_
  exact lw_ret (d0 := s.drawn) (Drawn.sameBut.refl s.drawn lw_cs) hx hb hr hlocks (T.at h)
end GLR
theorem gl_Lp {α : Type} {b L : Nat} {xs : Nat → Int32} {E1 E2 : Ev} {pc : Nat} {F : (α → Option Unit) → α → Option Unit} (ga gb : α → G) (lvf : α → List (Nat × Value)) (k : ∀ rec : α → Option Unit, (∀ a, GL b L xs E1 E2 (ga a) (gb a) pc (lvf a) [] (rec a)) → ∀ a, GL b L xs E1 E2 (ga a) (gb a) pc (lvf a) [] (F rec a)) : ∀ (n : Nat) (a : α), GL b L xs E1 E2 (ga a) (gb a) pc (lvf a) [] (Lp F n a) := by
  intro n
  induction n with
  | zero => intro a; exact gl_none
  | succ n ih => intro a; exact k _ ih a
set_option maxHeartbeats 4000000 in
theorem gl_callA {b L : Nat} {xs : Nat → Int32} {E1 E2 : Ev} {gA gB : G} {lv : List (Nat × Value)} {st st1 : List Value} {tb : List (Nat × ClassFile.Instr × Nat)} {pc q : Nat} {τ : Type} {φ : τ → Option Value × G} {o' : Option τ} {K : τ → Option Unit} {index n : Nat} {y : MethodName} {mj : Mi} {av : List Value} (T : AllDec code tb) (i : Nat) (h : tb[i]? = some (pc, .invokevirtual index, 3)) (hq : pc + 3 = q) (hL : LkV R_law index y mj n) (hC : Ct (wCA E1) y mj (.ref (E1.1 0) :: av) φ gA o') (hR : mj.2.2.2.1.cells = 0 ∧ mj.2.2.2.1.slots = 0 ∧ mj.2.2.2.1.frames + 1 ≤ room_1.frames ∧ 8 + (mj.2.2.1 + 11) + mj.2.2.2.1.locals ≤ room_1.locals) (hn : av.length = n) (hst : st1 = av.reverse ++ .ref (E1.1 0) :: st) (hw : (st.map fun v => v.category).sum ≤ 8) {TT : u_T} {N : Nat} (hc : vwCl[10]? = some (y.cls, TT, N)) (k : ∀ t' : τ, GL b L xs E1 E2 (φ t').2 gB q lv ((φ t').1.toList ++ st) (K t')) : GL b L xs E1 E2 gA gB pc lv st1 (Option.bind o' K) := by
  intro ho p l e s m below meth c H locs C hW hA hB hS ls hl
  subst hq
  cases ho' : o' with
  | none => rw [ho'] at ho; cases ho
  | some t' =>
    rw [ho'] at ho
    have ho : K t' = some () := ho
    obtain ⟨hx, hb, hr, hml, hown, hts0, hX, hbl, hlocks, hgv⟩ := id C
    have hts : ∀ z ∈ Wt, z.before #[Value.ref b] s = true := fun z hz => hts0 z (List.mem_filter.mp hz).1
    obtain ⟨⟨l1, l2, l3, l4, l5⟩, l6, l7, l8⟩ := hL
    have cb := callB_of (R := room_1) (own := R_law) (index := index) n hts (Wt_goodIn l1) rfl hR.1 hR.2.1 (hts _ l2) (hts _ l6) ⟨l3, l4, l5⟩ ⟨hR.2.2.1, hR.2.2.2⟩
    have hD : va_D (aWA E1) (cWA E1 gA) := vaD_of (fstA E1 gA) hW.2.2.2.2.1
    have hE12 := hW.1
    have hKB : va_K E2.2.2.2 vwCl [(E2.2.2.1.1, .int), (E2.2.2.1.2.1, .float), (E2.2.2.1.2.2, .object "OrbitDesk$Fleet")] s := by rw [← hE12]; exact hW.2.1
    have hS0 : va_S (aWA E1) s.heap H [] := ⟨hS.1, fun q h1 _ => hS.2.1 q h1 (Nat.not_le.mpr h1), fun q hq => by cases hq⟩
    have hr := va_runV (l := l) (e := e) (below := below) (meth := meth) (locs := locs) (cells := kC) (slots := kS) (g := F0 m pc ls st1) (C := y.cls) (b := E1.1 0) (As := av) (rest := st) ⟨hx, hb, hml, hown, hts⟩ (hC t' ho' l) ⟨cb, hts _ l7, hts _ l8⟩ ⟨pc_blind (XkA E1), va_recv hW.2.1 hA hc (Ac_0 E1 gA), fun U hU hWm => ⟨rfl, by rw [hU]; exact hA, va_K.moved hWm.alike hW.2.1, hD, (XkA E1).1 s U H [] hWm hU hS0 hW.2.2.2.2.2.2.2⟩⟩ rfl hn hl.1 hst (lv_room hw) (T.at h) ⟨Nat.le_of_ble_eq_true rfl, Nat.le_of_ble_eq_true rfl⟩
    intro T0 hT XX
    obtain ⟨v, st₀, t1, T', Lc, h0, X', hLc, e1, e2, ⟨hv, hP1, hK1, hD1, hz, hk⟩, sg⟩ := hr T0 hT XX
    cases hv
    rw [h0] at hz hk
    have hoth : va_P E2.2.2.2 vwCl (cWB E2 gB) T'.heap := by
      intro k0 q0 hq0
      have hat := hB k0 q0 hq0
      refine hat.kept ?_
      rw [e1]
      obtain ⟨k1, e9⟩ := atFst (fstB E2 gB) hq0
      refine hk q0.1 hat.lt ?_
      rintro ⟨j, hj, ej⟩
      rw [e9] at ej
      exact hW.2.2.2.2.2.2.1 j k0 hj k1 ej.symm
    have hS' : va_S (fun q => s.heap.size ≤ q) s.heap T'.heap (locs ++ Lc) := ⟨Nat.le_trans hS.1 (by rw [e1]; exact hz), fun q h1 h2 => by
        rw [e1, hk q (Nat.lt_of_lt_of_le h1 hS.1) (by rintro ⟨j, hj, ej⟩; exact h2 (by rw [ej]; exact hW.2.2.1 j hj))]
        exact hS.2.1 q h1 h2, fun q hq => by
        rcases List.mem_append.mp hq with h9 | h9
        · exact hS.2.2 q h9
        · obtain ⟨j, hj, ej⟩ := hLc q h9
          show s.heap.size ≤ q.base
          rw [ej]
          exact hW.2.2.1 j hj⟩
    have hown' : va_P E1.2.2.2 vwCl (cWA E1 (φ t').2) T'.heap := by rw [e1]; exact hP1
    obtain ⟨t2, a1, b1⟩ := k t' ho p l e s m below meth c T'.heap (locs ++ Lc) C hW hown' hoth hS' ls hl T' rfl X'
    exact ⟨t2, sg t2 a1, b1⟩
set_option maxHeartbeats 4000000 in
theorem gl_callB {b L : Nat} {xs : Nat → Int32} {E1 E2 : Ev} {gA gB : G} {lv : List (Nat × Value)} {st st1 : List Value} {tb : List (Nat × ClassFile.Instr × Nat)} {pc q : Nat} {τ : Type} {φ : τ → Option Value × G} {o' : Option τ} {K : τ → Option Unit} {index n : Nat} {y : MethodName} {mj : Mi} {av : List Value} (T : AllDec code tb) (i : Nat) (h : tb[i]? = some (pc, .invokevirtual index, 3)) (hq : pc + 3 = q) (hL : LkV R_law index y mj n) (hC : Ct (wCB E2) y mj (.ref (E2.1 0) :: av) φ gB o') (hR : mj.2.2.2.1.cells = 0 ∧ mj.2.2.2.1.slots = 0 ∧ mj.2.2.2.1.frames + 1 ≤ room_1.frames ∧ 8 + (mj.2.2.1 + 11) + mj.2.2.2.1.locals ≤ room_1.locals) (hn : av.length = n) (hst : st1 = av.reverse ++ .ref (E2.1 0) :: st) (hw : (st.map fun v => v.category).sum ≤ 8) {TT : u_T} {N : Nat} (hc : vwCl[11]? = some (y.cls, TT, N)) (k : ∀ t' : τ, GL b L xs E1 E2 gA (φ t').2 q lv ((φ t').1.toList ++ st) (K t')) : GL b L xs E1 E2 gA gB pc lv st1 (Option.bind o' K) := by
  intro ho p l e s m below meth c H locs C hW hA hB hS ls hl
  subst hq
  cases ho' : o' with
  | none => rw [ho'] at ho; cases ho
  | some t' =>
    rw [ho'] at ho
    have ho : K t' = some () := ho
    obtain ⟨hx, hb, hr, hml, hown, hts0, hX, hbl, hlocks, hgv⟩ := id C
    have hts : ∀ z ∈ Wt, z.before #[Value.ref b] s = true := fun z hz => hts0 z (List.mem_filter.mp hz).1
    obtain ⟨⟨l1, l2, l3, l4, l5⟩, l6, l7, l8⟩ := hL
    have cb := callB_of (R := room_1) (own := R_law) (index := index) n hts (Wt_goodIn l1) rfl hR.1 hR.2.1 (hts _ l2) (hts _ l6) ⟨l3, l4, l5⟩ ⟨hR.2.2.1, hR.2.2.2⟩
    have hD : va_D (aWB E2) (cWB E2 gB) := vaD_of (fstB E2 gB) hW.2.2.2.2.2.1
    have hE12 := hW.1
    have hKB : va_K E2.2.2.2 vwCl [(E2.2.2.1.1, .int), (E2.2.2.1.2.1, .float), (E2.2.2.1.2.2, .object "OrbitDesk$Fleet")] s := by rw [← hE12]; exact hW.2.1
    have hS0 : va_S (aWB E2) s.heap H [] := ⟨hS.1, fun q h1 _ => hS.2.1 q h1 (Nat.not_le.mpr h1), fun q hq => by cases hq⟩
    have hr := va_runV (l := l) (e := e) (below := below) (meth := meth) (locs := locs) (cells := kC) (slots := kS) (g := F0 m pc ls st1) (C := y.cls) (b := E2.1 0) (As := av) (rest := st) ⟨hx, hb, hml, hown, hts⟩ (hC t' ho' l) ⟨cb, hts _ l7, hts _ l8⟩ ⟨pc_blind (XkB E2), va_recv hKB hB hc (Bc_0 E2 gB), fun U hU hWm => ⟨rfl, by rw [hU]; exact hB, va_K.moved hWm.alike hKB, hD, trivial⟩⟩ rfl hn hl.1 hst (lv_room hw) (T.at h) ⟨Nat.le_of_ble_eq_true rfl, Nat.le_of_ble_eq_true rfl⟩
    intro T0 hT XX
    obtain ⟨v, st₀, t1, T', Lc, h0, X', hLc, e1, e2, ⟨hv, hP1, hK1, hD1, hz, hk⟩, sg⟩ := hr T0 hT XX
    cases hv
    rw [h0] at hz hk
    have hoth : va_P E1.2.2.2 vwCl (cWA E1 gA) T'.heap := by
      intro k0 q0 hq0
      have hat := hA k0 q0 hq0
      refine hat.kept ?_
      rw [e1]
      obtain ⟨k1, e9⟩ := atFst (fstA E1 gA) hq0
      refine hk q0.1 hat.lt ?_
      rintro ⟨j, hj, ej⟩
      rw [e9] at ej
      exact hW.2.2.2.2.2.2.1 k0 j k1 hj ej
    have hS' : va_S (fun q => s.heap.size ≤ q) s.heap T'.heap (locs ++ Lc) := ⟨Nat.le_trans hS.1 (by rw [e1]; exact hz), fun q h1 h2 => by
        rw [e1, hk q (Nat.lt_of_lt_of_le h1 hS.1) (by rintro ⟨j, hj, ej⟩; exact h2 (by rw [ej]; exact hW.2.2.2.1 j hj))]
        exact hS.2.1 q h1 h2, fun q hq => by
        rcases List.mem_append.mp hq with h9 | h9
        · exact hS.2.2 q h9
        · obtain ⟨j, hj, ej⟩ := hLc q h9
          show s.heap.size ≤ q.base
          rw [ej]
          exact hW.2.2.2.1 j hj⟩
    have hown' : va_P E2.2.2.2 vwCl (cWB E2 (φ t').2) T'.heap := by rw [e1]; exact hP1
    obtain ⟨t2, a1, b1⟩ := k t' ho p l e s m below meth c T'.heap (locs ++ Lc) C hW hoth hown' hS' ls hl T' rfl X'
    exact ⟨t2, sg t2 a1, b1⟩

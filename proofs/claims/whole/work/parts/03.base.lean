/-! THE ABSTRACT MACHINE: a method as a function over a plain state. 'Go w mi φ g pc lv st o': from pc, with locals lv, stack st and state g, the machine does what the program o (a value of Option) says. -/
/-- the state of one world: int fields by number, int arrays by number, a long, float fields, a float array -/
abbrev G : Type := (Nat → Int32) × (Nat → Nat → Int32) × Int64 × (Nat → UInt32) × (Nat → UInt32)
def uA (F : Nat → Nat → Int32) (k : Nat) (f : Nat → Int32) : Nat → Nat → Int32 := fun j => if j = k then f else F j
def uF (f : Nat → UInt32) (k : Nat) (x : UInt32) : Nat → UInt32 := fun j => if j = k then x else f j
def sS (g : G) (k : Nat) (v : Int32) : G := (upd g.1 k v, g.2)
def sC (g : G) (k : Nat) (f : Nat → Int32) : G := (g.1, uA g.2.1 k f, g.2.2)
def sA (g : G) (k i : Nat) (v : Int32) : G := sC g k (upd (g.2.1 k) i v)
def sD (g : G) (v : Int64) : G := (g.1, g.2.1, v, g.2.2.2)
def sF (g : G) (k : Nat) (v : UInt32) : G := (g.1, g.2.1, g.2.2.1, uF g.2.2.2.1 k v, g.2.2.2.2)
def sH (g : G) (i : Nat) (v : UInt32) : G := (g.1, g.2.1, g.2.2.1, g.2.2.2.1, uF g.2.2.2.2 i v)
/-- programs: a name for a value; a place in an array; a divisor; a float that is a number; a bit -/
def bv {α β : Type} (a : α) (k : α → Option β) : Option β := k a
def ag {β : Type} (n : Nat) (f : Nat → Int32) (i : Int32) (k : Int32 → Option β) : Option β := if i < 0 ∨ n ≤ i.toNatClampNeg then none else k (f i.toNatClampNeg)
def ck {β : Type} (n : Nat) (i : Int32) (k : Option β) : Option β := if i < 0 ∨ n ≤ i.toNatClampNeg then none else k
def dz {β : Type} (y : Int32) (k : Option β) : Option β := if y = 0 then none else k
def dzl {β : Type} (y : Int64) (k : Option β) : Option β := if y = 0 then none else k
def bt {β : Type} (v : Int32) (k : Option β) : Option β := if v = 0 ∨ v = 1 then k else none
/-- a join: what comes behind, once -/
def lj {α β : Type} (J : α → Option β) (k : (α → Option β) → Option β) : Option β := k J
/-- a loop, with fuel -/
def Lp {α β : Type} (F : (α → Option β) → α → Option β) : Nat → α → Option β
  | 0, _ => none
  | n + 1, s => F (Lp F n) s
def FU : Nat := 1000000
/-- the world: its cells out of the state; which addresses are its own; classes; array classes; what else holds of a state -/
abbrev Wd : Type := (G → va_W) × (Nat → Prop) × va_G × List (ClassId × FieldType) × (State → Prop)
/-- a method: its class, its code, its locals, its room, its return type -/
abbrev Mi : Type := String × ByteArray × Nat × Room × Option FieldType
def Wt : List Cond := lw_tbl.filter goodWord
theorem Wt_good {w : Cond} (h : w ∈ Wt) : (w.onTables && w.keeps) = true ∨ ∃ ty, w = .arrayClass ty := good_of_word (List.mem_filter.mp h).2
theorem Wt_of {w : Cond} (h : w ∈ lw_tbl) (hg : goodWord w = true) : w ∈ Wt := List.mem_filter.mpr ⟨h, hg⟩
/-- the room of a method that calls d deep -/
def rm (d : Nat) : Room := { frames := d, cells := 0, slots := 0, locals := 33 * d }
def gQ (w : Wd) (q : Option Value × G) : Array Value → State → Outcome → State → Prop := fun _ st o t =>
  o = .returned q.1 ∧ va_P w.2.2.1 vwCl (w.1 q.2) t.heap ∧ va_K w.2.2.1 vwCl w.2.2.2.1 t ∧ va_D w.2.1 (w.1 q.2) ∧ va_F w.2.1 st t
def gC (w : Wd) (mi : Mi) (p : Program) (s : State) (m : MethodId) (args : Array Value) (meth : Method) (c : Code) : Prop :=
  p.tables.exec = Jvm.exec ∧ c.code = mi.2.1 ∧ meth.sig.returnType = mi.2.2.2.2 ∧ c.maxLocals = mi.2.2.1 ∧ s.vm.findClass mi.1 = some m.cls ∧ (∀ z ∈ Wt, z.before args s = true) ∧ meth.locks = false ∧ va_K w.2.2.1 vwCl w.2.2.2.1 s ∧ w.2.2.2.2 s
def Go {τ : Type} (w : Wd) (mi : Mi) (φ : τ → Option Value × G) (g : G) (pc : Nat) (lv : List (Nat × Value)) (st : List Value) (o : Option τ) : Prop :=
  ∀ t : τ, o = some t → ∀ (p : Program) (l : Launch) (e : Env) (s : State) (m : MethodId) (args : Array Value) (below : List Frame) (meth : Method) (c : Code) (H : Heap) (locs : List Loc),
    gC w mi p s m args meth c → va_P w.2.2.1 vwCl (w.1 g) H → va_D w.2.1 (w.1 g) → va_S w.2.1 s.heap H locs → ∀ ls : Array Slot, lv_has ls mi.2.2.1 lv →
    W p l e mi.2.2.2.1 s m args below meth c H locs 0 0 (MQ below (gQ w (φ t)) args s 0 0 w.2.1) (F0 m pc ls st)
def Ct {τ : Type} (w : Wd) (y : MethodName) (mi : Mi) (av : List Value) (φ : τ → Option Value × G) (g : G) (o : Option τ) : Prop :=
  ∀ t : τ, o = some t → ∀ l : Launch, Met l y (.code y mi.2.1 mi.2.2.1 mi.2.2.2.2 :: Wt) mi.2.2.2.1 (va_Pc av (fun U => va_P w.2.2.1 vwCl (w.1 g) U.heap ∧ va_K w.2.2.1 vwCl w.2.2.2.1 U ∧ va_D w.2.1 (w.1 g) ∧ w.2.2.2.2 U)) (gQ w (φ t)) 0 0 w.2.1
/-- what else holds of a state goes on holding -/
def Xok (w : Wd) : Prop := (∀ (s U : State) (H : Heap) (locs : List Loc), s.WarmedH U.vm → U.heap = H → va_S w.2.1 s.heap H locs → w.2.2.2.2 s → w.2.2.2.2 U) ∧ ∀ (U V : State), V.vm = U.vm → V.heap = U.heap → w.2.2.2.2 U → w.2.2.2.2 V
/-- a method's instructions, decoded -/
def AllDec (cc : ByteArray) (tb : List (Nat × ClassFile.Instr × Nat)) : Prop := ∀ q ∈ tb, decode cc q.1 = .ok (q.2.1, q.2.2)
theorem AllDec.at {cc : ByteArray} {tb : List (Nat × ClassFile.Instr × Nat)} (h : AllDec cc tb) {i pc n : Nat} {I : ClassFile.Instr} (hi : tb[i]? = some (pc, I, n)) : decode cc pc = .ok (I, n) := h (pc, I, n) (List.mem_of_getElem? hi)
set_option maxHeartbeats 4000000 in
theorem go_enter {τ : Type} {w : Wd} {y : MethodName} {mi : Mi} {av : List Value} {φ : τ → Option Value × G} {g : G} {o : Option τ} (hy : plainName y.cls = true) (hc : y.cls = mi.1) (hn : (lg_sl av).length ≤ mi.2.2.1) {lv : List (Nat × Value)} (hlv : lv_args 0 av = lv)
    (k : Go w mi φ g 0 lv [] o) : Ct w y mi av φ g o := by
  intro t ho l
  refine Met.ofW (cc := mi.2.1) (maxL := mi.2.2.1) (ret := mi.2.2.2.2) hy rfl ?_
  intro p e s m args below meth c s₁ B hml hv
  obtain ⟨rfl, hP, hK, hD, hX⟩ := hv
  have hts := atoms_spec (ws := .code y mi.2.1 mi.2.2.1 mi.2.2.2.2 :: Wt) B.pre
  have hown : s.vm.findClass mi.1 = some m.cls := hc ▸ findClass_of_methodNamed B.named
  have hl := lv_entry av (n := mi.2.2.1) hn
  rw [hlv] at hl
  rw [lg_entry_eq]
  exact k t ho p l e s m _ below meth c s.heap [] ⟨B.exec, B.bytes, B.returns, hml, hown, fun z hz => hts z (List.mem_cons_of_mem _ hz), B.notSynchronized, hK, hX⟩ hP hD va_S.rf _ hl

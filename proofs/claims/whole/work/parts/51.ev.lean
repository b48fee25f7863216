/-! VALUES AND ANSWERS: numbers as nI n, bits, answers of programs. -/
/-- the program answers, and so -/
def Sat {α : Type} (o : Option α) (P : α → Prop) : Prop := ∃ t, o = some t ∧ P t
theorem Sat.of {α : Type} {t : α} {P : α → Prop} (h : P t) : Sat (some t) P := ⟨t, rfl, h⟩
theorem Sat.bind {α β : Type} {o : Option α} {k : α → Option β} {P : α → Prop} {Q : β → Prop} (h : Sat o P) (hk : ∀ t, P t → Sat (k t) Q) : Sat (o.bind k) Q := by
  obtain ⟨t, rfl, hp⟩ := h
  exact hk t hp
theorem Sat.mono {α : Type} {o : Option α} {P Q : α → Prop} (h : Sat o P) (hk : ∀ t, P t → Q t) : Sat o Q := by
  obtain ⟨t, e, hp⟩ := h
  exact ⟨t, e, hk t hp⟩
theorem Sat.eq {α : Type} {o : Option α} {t : α} (h : Sat o (fun x => x = t)) : o = some t := by
  obtain ⟨t', e, rfl⟩ := h
  exact e
theorem Sat.ite {α : Type} {c : Prop} [Decidable c] {a b : Option α} {P : α → Prop} (h1 : c → Sat a P) (h2 : ¬ c → Sat b P) : Sat (if c then a else b) P := by
  by_cases h : c
  · rw [if_pos h]; exact h1 h
  · rw [if_neg h]; exact h2 h
/-- a loop, counted -/
theorem Sat.lp {α β : Type} {F : (α → Option β) → α → Option β} (I : Nat → α → Prop) (N : Nat) {Q : β → Prop} {a0 : α} (hN : N < 1000000) (h0 : I 0 a0)
    (hs : ∀ (rec : α → Option β) (i : Nat) (a : α), i < N → I i a → (∀ a', I (i + 1) a' → Sat (rec a') Q) → Sat (F rec a) Q)
    (he : ∀ (rec : α → Option β) (a : α), I N a → Sat (F rec a) Q) : Sat (Lp F FU a0) Q :=
  Lp_run I N (fun o => Sat o Q) hs he FU 0 a0 (by rw [FU]; omega) (Nat.zero_le N) h0
/-- a loop with a measure -/
theorem Sat.lpm {α β : Type} {F : (α → Option β) → α → Option β} (I : α → Prop) (μ : α → Nat) {Q : β → Prop} {a0 : α} (hN : μ a0 < 1000000) (h0 : I a0)
    (hs : ∀ (rec : α → Option β) (a : α), I a → (∀ a', I a' → μ a' < μ a → Sat (rec a') Q) → Sat (F rec a) Q) : Sat (Lp F FU a0) Q :=
  Lp_meas I μ (fun o => Sat o Q) hs FU a0 hN h0
/-- numbers -/
theorem nl (n : Nat) : (OfNat.ofNat n : Int32) = nI (OfNat.ofNat n) := Int32.toInt_inj.mp rfl
theorem nm1 : -(nI 1) = m1 := rfl
theorem n_m1 {a : Nat} (h : 0 < a) : nI a + m1 = nI (a - 1) := by
  obtain ⟨b, rfl⟩ : ∃ b, a = b + 1 := ⟨a - 1, by omega⟩
  rw [← nI_add]
  show nI b + nI 1 + m1 = nI b
  rw [Int32.add_assoc]
  have : nI 1 + m1 = 0 := by decide
  rw [this, Int32.add_zero]
theorem n_ne_m1 {a : Nat} (h : a < 2 ^ 31) : (nI a = m1) ↔ False := by
  refine ⟨fun e => ?_, False.elim⟩
  have h1 := nI_toInt h
  rw [e] at h1
  have : (m1 : Int32).toInt = -1 := by decide
  omega
theorem m1_ne_n {a : Nat} (h : a < 2 ^ 31) : (m1 = nI a) ↔ False := by
  rw [← n_ne_m1 h]
  exact ⟨Eq.symm, Eq.symm⟩
theorem m1_lt {a : Nat} (h : a < 2 ^ 31) : (m1 < nI a) ↔ True := by
  rw [Int32.lt_iff_toInt_lt, nI_toInt h]
  have : (m1 : Int32).toInt = -1 := by decide
  rw [this]
  exact ⟨fun _ => trivial, fun _ => by omega⟩
theorem m1_le {a : Nat} (h : a < 2 ^ 31) : (m1 ≤ nI a) ↔ True := by
  rw [Int32.le_iff_toInt_le, nI_toInt h]
  have : (m1 : Int32).toInt = -1 := by decide
  rw [this]
  exact ⟨fun _ => trivial, fun _ => by omega⟩
theorem n_le_m1 {a : Nat} (h : a < 2 ^ 31) : (nI a ≤ m1) ↔ False := by
  rw [Int32.le_iff_toInt_le, nI_toInt h]
  have : (m1 : Int32).toInt = -1 := by decide
  rw [this]
  exact ⟨fun _ => by omega, False.elim⟩
theorem n_lt_m1 {a : Nat} (h : a < 2 ^ 31) : (nI a < m1) ↔ False := by
  rw [Int32.lt_iff_toInt_lt, nI_toInt h]
  have : (m1 : Int32).toInt = -1 := by decide
  rw [this]
  exact ⟨fun _ => by omega, False.elim⟩
theorem n_div {a b : Nat} (ha : a < 2 ^ 31) (hb : b < 2 ^ 31) : nI a / nI b = nI (a / b) := by
  apply Int32.toInt_inj.1
  have h1 : a / b ≤ a := Nat.div_le_self a b
  rw [Int32.toInt_div, nI_toInt ha, nI_toInt hb, nI_toInt (by omega), Int.tdiv_eq_ediv_of_nonneg (by omega)]
  have : ((a : Int) / (b : Int)) = ((a / b : Nat) : Int) := by simp
  rw [this]
  obtain ⟨q, hq⟩ : ∃ q, q = a / b := ⟨_, rfl⟩
  rw [← hq] at h1 ⊢
  apply Int.bmod_eq_of_le <;> omega
theorem n_rem (a b : Nat) : nI a - nI (a / b * b) = nI (a % b) := by
  have h : a / b * b ≤ a := Nat.div_mul_le_self a b
  rw [nI_sub h]
  congr 1
  have := Nat.div_add_mod a b
  rw [Nat.mul_comm] at this
  omega
theorem n_dz {β : Type} {b : Nat} {k : Option β} (h0 : 0 < b) (h : b < 2 ^ 31) : dz (nI b) k = k := if_neg (nI_ne0 h0 h)
theorem n_and (a b : Nat) : nI a &&& nI b = nI (a &&& b) := by
  apply Int32.toBitVec_inj.1
  show BitVec.ofNat 32 a &&& BitVec.ofNat 32 b = BitVec.ofNat 32 (a &&& b)
  apply BitVec.eq_of_getLsbD_eq
  intro i hi
  simp [hi]
theorem n_or (a b : Nat) : nI a ||| nI b = nI (a ||| b) := by
  apply Int32.toBitVec_inj.1
  show BitVec.ofNat 32 a ||| BitVec.ofNat 32 b = BitVec.ofNat 32 (a ||| b)
  apply BitVec.eq_of_getLsbD_eq
  intro i hi
  simp [hi]
theorem n_xor (a b : Nat) : nI a ^^^ nI b = nI (a ^^^ b) := by
  apply Int32.toBitVec_inj.1
  show BitVec.ofNat 32 a ^^^ BitVec.ofNat 32 b = BitVec.ofNat 32 (a ^^^ b)
  apply BitVec.eq_of_getLsbD_eq
  intro i hi
  simp [hi]
theorem n31 : ∀ k, k < 32 → k &&& 31 = k := by decide
theorem n_31 {k : Nat} (h : k < 32) : nI k &&& nI 31 = nI k := by rw [n_and, n31 k h]
theorem n_smod : ∀ k, k < 32 → ((nI k).toBitVec.smod 32).toNat = k := by decide +kernel
theorem n_umod : ∀ k, k < 32 → (((nI k).toUInt32 &&& (nI 31).toUInt32).toBitVec % 32).toNat = k := by decide +kernel
theorem n_shl (a : Nat) {k : Nat} (h : k < 32) : nI a <<< nI k = nI (a <<< k) := by
  apply Int32.toBitVec_inj.1
  rw [Int32.toBitVec_shiftLeft]
  show (BitVec.ofNat 32 a <<< ((nI k).toBitVec.smod 32).toNat) = BitVec.ofNat 32 (a <<< k)
  rw [n_smod k h]
  apply BitVec.eq_of_getLsbD_eq
  intro i hi
  rw [BitVec.getLsbD_shiftLeft, BitVec.getLsbD_ofNat, BitVec.getLsbD_ofNat, Nat.testBit_shiftLeft]
  by_cases e : i < k
  · have e2 : ¬ k ≤ i := by omega
    simp [e, e2]
  · have e2 : k ≤ i := by omega
    have e3 : i - k < 32 := by omega
    simp [e, e2, e3, hi]
theorem n_shr {a k : Nat} (ha : a < 2 ^ 31) (h : k < 32) : nI a >>> nI k = nI (a >>> k) := by
  apply Int32.toBitVec_inj.1
  rw [Int32.toBitVec_shiftRight]
  show (BitVec.ofNat 32 a).sshiftRight ((nI k).toBitVec.smod 32).toNat = BitVec.ofNat 32 (a >>> k)
  rw [n_smod k h]
  have hm : (BitVec.ofNat 32 a).msb = false := by
    rw [BitVec.msb_eq_decide, decide_eq_false_iff_not, BitVec.toNat_ofNat, Nat.mod_eq_of_lt (by omega)]
    omega
  rw [BitVec.sshiftRight_eq_of_msb_false hm]
  apply BitVec.eq_of_toNat_eq
  rw [BitVec.toNat_ushiftRight, BitVec.toNat_ofNat, BitVec.toNat_ofNat, Nat.mod_eq_of_lt (by omega)]
  have : a >>> k ≤ a := by rw [Nat.shiftRight_eq_div_pow]; exact Nat.div_le_self _ _
  rw [Nat.mod_eq_of_lt (by omega)]
theorem n_ushr {a k : Nat} (ha : a < 2 ^ 32) (h : k < 32) : ((nI a).toUInt32 >>> ((nI k).toUInt32 &&& (nI 31).toUInt32)).toInt32 = nI (a >>> k) := by
  apply Int32.toBitVec_inj.1
  show ((nI a).toUInt32 >>> ((nI k).toUInt32 &&& (nI 31).toUInt32)).toBitVec = BitVec.ofNat 32 (a >>> k)
  rw [UInt32.toBitVec_shiftRight]
  show (BitVec.ofNat 32 a) >>> (((nI k).toUInt32 &&& (nI 31).toUInt32).toBitVec % 32).toNat = BitVec.ofNat 32 (a >>> k)
  rw [n_umod k h]
  apply BitVec.eq_of_toNat_eq
  rw [BitVec.toNat_ushiftRight, BitVec.toNat_ofNat, BitVec.toNat_ofNat, Nat.mod_eq_of_lt (by omega)]
  have : a >>> k ≤ a := by rw [Nat.shiftRight_eq_div_pow]; exact Nat.div_le_self _ _
  rw [Nat.mod_eq_of_lt (by omega)]
/-- every int is a number below 2^32 -/
theorem n_all (x : Int32) : x = nI x.toBitVec.toNat := by
  apply Int32.toBitVec_inj.1
  show x.toBitVec = BitVec.ofNat 32 x.toBitVec.toNat
  simp
theorem n_bit {m k : Nat} : (m >>> k) &&& 1 = if m.testBit k then 1 else 0 := by
  rw [Nat.and_one_is_mod, Nat.testBit_eq_decide_div_mod_eq, Nat.shiftRight_eq_div_pow]
  by_cases h : m / 2 ^ k % 2 = 1
  · simp [h]
  · simp [h]; omega
theorem n_bit0 {m k : Nat} : ((m >>> k) &&& 1 = 0) ↔ m.testBit k = false := by
  rw [n_bit]
  cases m.testBit k <;> simp
theorem n_bool {b : Bool} : (nI (if b then 1 else 0) = nI 0) ↔ b = false := by
  cases b
  · simp
  · rw [nI_eq (by decide) (by decide)]; simp
theorem n_abs {a b : Nat} (ha : a < 2 ^ 31) (hb : b < 2 ^ 31) : (if nI 0 ≤ nI a - nI b then nI a - nI b else nI 0 - (nI a - nI b)) = nI (if b ≤ a then a - b else b - a) := by
  by_cases h : b ≤ a
  · rw [nI_sub h, if_pos (nI_le (Nat.zero_le _) (by omega)), if_pos h]
  · have e : nI a - nI b = -(nI (b - a)) := by rw [← nI_sub (show a ≤ b by omega)]; simp
    have hn : ¬ nI 0 ≤ nI a - nI b := by
      rw [e, Int32.le_iff_toInt_le]
      have h1 : (nI (b - a)).toInt = ((b - a : Nat) : Int) := nI_toInt (by omega)
      have h2 : (-(nI (b - a))).toInt = -((b - a : Nat) : Int) := by
        rw [Int32.toInt_neg, h1]
        apply Int.bmod_eq_of_le <;> omega
      rw [h2]
      have h3 : (nI 0).toInt = 0 := by decide
      rw [h3]
      omega
    rw [if_neg hn, if_neg h, e]
    have : nI 0 = 0 := rfl
    rw [this]
    simp
theorem bv_eq {α β : Type} (a : α) (k : α → Option β) : bv a k = k a := rfl
theorem lj_eq {α β : Type} (J : α → Option β) (k : (α → Option β) → Option β) : lj J k = k J := rfl
/-- what may have changed -/
def Fr (S T : List Nat) (w : Bool × Bool × Bool) (g g' : G) : Prop :=
  (∀ k, k ∉ S → g'.1 k = g.1 k) ∧ (∀ k, k ∉ T → g'.2.1 k = g.2.1 k) ∧ (w.1 = false → g'.2.2.1 = g.2.2.1) ∧ (w.2.1 = false → g'.2.2.2.1 = g.2.2.2.1) ∧ (w.2.2 = false → g'.2.2.2.2 = g.2.2.2.2)
abbrev w0 : Bool × Bool × Bool := (false, false, false)
theorem Fr.rf {S T : List Nat} {w : Bool × Bool × Bool} {g : G} : Fr S T w g g := ⟨fun _ _ => rfl, fun _ _ => rfl, fun _ => rfl, fun _ => rfl, fun _ => rfl⟩
theorem Fr.sS {S T : List Nat} {w : Bool × Bool × Bool} {g g' : G} (h : Fr S T w g g') {k : Nat} {v : Int32} (hk : k ∈ S) : Fr S T w g (sS g' k v) :=
  ⟨fun j hj => by rw [sS_1, if_neg (show ¬ j = k from fun e => hj (by rw [e]; exact hk))]; exact h.1 j hj, h.2.1, h.2.2.1, h.2.2.2.1, h.2.2.2.2⟩
theorem Fr.sC {S T : List Nat} {w : Bool × Bool × Bool} {g g' : G} (h : Fr S T w g g') {k : Nat} {f : Nat → Int32} (hk : k ∈ T) : Fr S T w g (sC g' k f) :=
  ⟨h.1, fun j hj => by rw [sC_21, if_neg (show ¬ j = k from fun e => hj (by rw [e]; exact hk))]; exact h.2.1 j hj, h.2.2.1, h.2.2.2.1, h.2.2.2.2⟩
theorem Fr.sA {S T : List Nat} {w : Bool × Bool × Bool} {g g' : G} (h : Fr S T w g g') {k i : Nat} {v : Int32} (hk : k ∈ T) : Fr S T w g (sA g' k i v) := h.sC hk
theorem Fr.sD {S T : List Nat} {w : Bool × Bool × Bool} {g g' : G} (h : Fr S T w g g') {v : Int64} (hw : w.1 = true) : Fr S T w g (sD g' v) :=
  ⟨h.1, h.2.1, fun e => absurd (hw.symm.trans e) (by decide), h.2.2.2.1, h.2.2.2.2⟩
theorem Fr.sF {S T : List Nat} {w : Bool × Bool × Bool} {g g' : G} (h : Fr S T w g g') {k : Nat} {v : UInt32} (hw : w.2.1 = true) : Fr S T w g (sF g' k v) :=
  ⟨h.1, h.2.1, h.2.2.1, fun e => absurd (hw.symm.trans e) (by decide), h.2.2.2.2⟩
theorem Fr.sH {S T : List Nat} {w : Bool × Bool × Bool} {g g' : G} (h : Fr S T w g g') {i : Nat} {v : UInt32} (hw : w.2.2 = true) : Fr S T w g (sH g' i v) :=
  ⟨h.1, h.2.1, h.2.2.1, h.2.2.2.1, fun e => absurd (hw.symm.trans e) (by decide)⟩
theorem Fr.tr {S T S' T' : List Nat} {w w' : Bool × Bool × Bool} {g g' g'' : G} (h : Fr S T w g g') (h2 : Fr S' T' w' g' g'') (hS : ∀ k ∈ S', k ∈ S) (hT : ∀ k ∈ T', k ∈ T)
    (hw : (w.1 = false → w'.1 = false) ∧ (w.2.1 = false → w'.2.1 = false) ∧ (w.2.2 = false → w'.2.2 = false)) : Fr S T w g g'' :=
  ⟨fun j hj => (h2.1 j (fun m => hj (hS j m))).trans (h.1 j hj), fun j hj => (h2.2.1 j (fun m => hj (hT j m))).trans (h.2.1 j hj),
   fun e => (h2.2.2.1 (hw.1 e)).trans (h.2.2.1 e), fun e => (h2.2.2.2.1 (hw.2.1 e)).trans (h.2.2.2.1 e), fun e => (h2.2.2.2.2 (hw.2.2 e)).trans (h.2.2.2.2 e)⟩
theorem Fr.wd {S T S' T' : List Nat} {w w' : Bool × Bool × Bool} {g g' : G} (h2 : Fr S' T' w' g g') (hS : ∀ k ∈ S', k ∈ S) (hT : ∀ k ∈ T', k ∈ T)
    (hw : (w.1 = false → w'.1 = false) ∧ (w.2.1 = false → w'.2.1 = false) ∧ (w.2.2 = false → w'.2.2 = false)) : Fr S T w g g' := Fr.rf.tr h2 hS hT hw
theorem Sat_lp_same {α β : Type} {F : (α → Option β) → α → Option β} {n : Nat} {s : α} : Lp F (n + 1) s = F (Lp F n) s := rfl

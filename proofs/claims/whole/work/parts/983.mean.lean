/-! THE CALLS: mean -/
/-- the lengths of the stretches that begin before n -/
def sl (b : Nat → Bool) (Y n : Nat) : Nat := sm (fun t => if bg b Y t then ln b Y t else 0) n
theorem sl_succ (b : Nat → Bool) (Y n : Nat) : sl b Y (n + 1) = sl b Y n + if bg b Y n then ln b Y n else 0 := rfl
theorem ln_false {b : Nat → Bool} {Y t : Nat} (h : b t = false) : ln b Y t = 0 := fi_eq (Nat.zero_le _) (fun j hj => absurd hj (Nat.not_lt_zero j)) (fun _ => by simp [h])
theorem ln_true {b : Nat → Bool} {Y t z : Nat} (hp : Per Y b) (hz : z < Y) (hb : b z = false) (h : b t = true) : ln b Y t = ln b Y (t + 1) + 1 := by
  have l1 := ln_lt hp (t := t) hz hb
  have l2 := ln_lt hp (t := t + 1) hz hb
  have e0 : ln b Y t ≠ 0 := fun e => by
    have := l1.2
    rw [e, Nat.add_zero, h] at this
    exact absurd this (by decide)
  have : ln b Y (t + 1) = ln b Y t - 1 := by
    apply fi_eq
    · omega
    · intro j hj
      have := ln_pre (b := b) (Y := Y) (t := t) (m := j + 1) (by omega)
      rw [show t + 1 + j = t + (j + 1) by omega, this]
      rfl
    · intro _
      rw [show t + 1 + (ln b Y t - 1) = t + ln b Y t by omega, l1.2]
      rfl
  omega
theorem sl_all {b : Nat → Bool} {Y : Nat} (hp : Per Y b) (hY : 0 < Y) (h : ∀ t, t < Y → b t = true) : sl b Y Y = Y := by
  have ha : ∀ t, b t = true := fun t => by rw [← hp t]; exact h _ (Nat.mod_lt _ hY)
  have l0 : ln b Y 0 = Y := fi_eq (Nat.le_refl _) (fun j _ => by simp [ha]) (fun z => absurd z (Nat.lt_irrefl _))
  have : ∀ n, sl b Y (n + 1) = Y := by
    intro n
    induction n with
    | zero =>
      rw [sl_succ]
      unfold bg
      rw [ha, l0]
      simp [sl, sm]
    | succ n ih =>
      rw [sl_succ, ih]
      unfold bg
      rw [ha (n + 1 + Y - 1)]
      simp
  have e : Y = (Y - 1) + 1 := by omega
  rw [e, ← e]
  exact e ▸ this (Y - 1)
theorem sl_some {b : Nat → Bool} {Y z : Nat} (hp : Per Y b) (hz : z < Y) (hb : b z = false) : ∀ n, n ≤ Y →
    sl b Y n + (if b (Y - 1) = true then min n (ln b Y 0) else 0) = cn b n + (if n = 0 then 0 else if b (n - 1) = true then (if b (Y - 1) = true ∧ n ≤ ln b Y 0 then 0 else ln b Y n) else 0)
  | 0, _ => by
    have : sl b Y 0 = 0 := rfl
    rw [this]
    simp [cn]
  | n + 1, hn => by
    have ih := sl_some hp hz hb n (by omega)
    have l0 := ln_lt hp (t := 0) hz hb
    rw [Nat.zero_add] at l0
    have hc : cn b (n + 1) = cn b n + (b n).toNat := rfl
    have pv : b (n + Y - 1) = b (if n = 0 then Y - 1 else n - 1) := hp.prev (by omega)
    have l0ne : ln b Y 0 ≠ Y := by omega
    have hbg : bg b Y n = (b n && !b (if n = 0 then Y - 1 else n - 1)) := by
      unfold bg
      rw [pv, decide_eq_false l0ne]
      simp
    have pre : n < ln b Y 0 → b n = true := fun l => by have := ln_pre (b := b) (Y := Y) (t := 0) (m := n) l; rw [Nat.zero_add] at this; exact this
    have pre1 : n ≠ 0 → n ≤ ln b Y 0 → b (n - 1) = true := fun l k => by have := ln_pre (b := b) (Y := Y) (t := 0) (m := n - 1) (by omega); rw [Nat.zero_add] at this; exact this
    have nat0 : n = ln b Y 0 → b n = false := fun e => by rw [e]; exact l0.2
    rw [sl_succ, hc, hbg, if_neg (by omega : ¬ n + 1 = 0), Nat.add_sub_cancel]
    cases e : b n
    · have lf := ln_false (b := b) (Y := Y) (t := n) e
      rw [lf] at ih
      have k : ln b Y 0 ≤ n := Nat.le_of_not_lt (fun l => by rw [pre l] at e; exact absurd e (by decide))
      simp only [Bool.false_and, Bool.false_eq_true, if_false, Bool.toNat_false, Nat.add_zero] at ih ⊢
      rw [show min (n + 1) (ln b Y 0) = min n (ln b Y 0) by omega, ih]
      split
      · rfl
      · split
        · split <;> rfl
        · rfl
    · have lt := ln_true hp hz hb e
      have kne : n ≠ ln b Y 0 := fun z => by rw [nat0 z] at e; exact absurd e (by decide)
      simp only [Bool.true_and, if_true, Bool.toNat_true]
      by_cases wr' : b (Y - 1) = true
      · rw [if_pos wr'] at ih ⊢
        by_cases k : n < ln b Y 0
        · rw [if_pos (show b (Y - 1) = true ∧ n + 1 ≤ ln b Y 0 from ⟨wr', k⟩)]
          have e1 : b (if n = 0 then Y - 1 else n - 1) = true := by
            by_cases n0 : n = 0
            · rw [if_pos n0]; exact wr'
            · rw [if_neg n0]; exact pre1 n0 (by omega)
          have e2 : (if n = 0 then 0 else if b (n - 1) = true then (if b (Y - 1) = true ∧ n ≤ ln b Y 0 then 0 else ln b Y n) else 0) = 0 := by
            by_cases n0 : n = 0
            · rw [if_pos n0]
            · rw [if_neg n0, if_pos (pre1 n0 (by omega)), if_pos ⟨wr', by omega⟩]
          rw [e2] at ih
          rw [e1, if_neg (by decide)]
          omega
        · rw [if_neg (show ¬ (b (Y - 1) = true ∧ n + 1 ≤ ln b Y 0) from fun z => by omega)]
          have n0 : n ≠ 0 := by
            intro n0
            subst n0
            have : ln b Y 0 = 0 := by omega
            omega
          rw [if_neg n0] at ih ⊢
          cases e1 : b (n - 1)
          · rw [e1, if_neg (by decide)] at ih
            rw [if_pos (by decide)]
            omega
          · rw [e1, if_pos rfl, if_neg (show ¬ (b (Y - 1) = true ∧ n ≤ ln b Y 0) from fun z => by omega)] at ih
            rw [if_neg (by decide)]
            omega
      · rw [if_neg wr'] at ih ⊢
        rw [if_neg (show ¬ (b (Y - 1) = true ∧ n + 1 ≤ ln b Y 0) from fun z => wr' z.1)]
        by_cases n0 : n = 0
        · rw [if_pos n0] at ih ⊢
          have : b (Y - 1) = false := by simpa using wr'
          rw [this, if_pos (by decide)]
          omega
        · rw [if_neg n0] at ih ⊢
          cases e1 : b (n - 1)
          · rw [e1, if_neg (by decide)] at ih
            rw [if_pos (by decide)]
            omega
          · rw [e1, if_pos rfl, if_neg (show ¬ (b (Y - 1) = true ∧ n ≤ ln b Y 0) from fun z => wr' z.1)] at ih
            rw [if_neg (by decide)]
            omega
theorem sl_eq {b : Nat → Bool} {Y : Nat} (hp : Per Y b) (hY : 0 < Y) : sl b Y Y = cn b Y := by
  by_cases h : ∀ t, t < Y → b t = true
  · rw [sl_all hp hY h, cn_all.mpr h]
  · have : ∃ z, z < Y ∧ b z = false := by
      apply Classical.byContradiction
      intro hn
      exact h (fun t ht => by
        cases e : b t
        · exact absurd ⟨t, ht, e⟩ hn
        · rfl)
    obtain ⟨z, hz, hb⟩ := this
    have s := sl_some hp hz hb Y (Nat.le_refl _)
    have l0 := ln_lt hp (t := 0) hz hb
    have lY : ln b Y Y = ln b Y 0 := by
      unfold ln
      congr 1
      funext n
      rw [← hp (Y + n), ← hp (0 + n), Nat.add_mod_left, Nat.zero_add]
    rw [if_neg (show ¬ Y = 0 by omega), lY] at s
    by_cases w : b (Y - 1) = true
    · rw [if_pos w, if_pos w, if_neg (fun z => by omega)] at s
      omega
    · rw [if_neg w, if_neg w] at s
      omega
theorem cn_sub {b b' : Nat → Bool} (h : ∀ i, b i = true → b' i = true) : ∀ n, cn b n ≤ cn b' n
  | 0 => Nat.le_refl _
  | n + 1 => by
    have ih := cn_sub h n
    have e1 : cn b (n + 1) = cn b n + (b n).toNat := rfl
    have e2 : cn b' (n + 1) = cn b' n + (b' n).toNat := rfl
    rw [e1, e2]
    cases e : b n
    · rw [show (false : Bool).toNat = 0 from rfl]; omega
    · rw [h n e]; omega
/-- the model's sum -/
theorem sm_ST {Y : Nat} {b : Nat → Bool} {V : Nat → Nat} (h : ∀ t, t < Y → bg b Y t = true → V (cn (bg b Y) t) = ln b Y t) : ∀ T, T ≤ Y → sm V (cn (bg b Y) T) = sl b Y T
  | 0, _ => rfl
  | T + 1, hT => by
    have ih := sm_ST h T (by omega)
    rw [sl_succ]
    cases e : bg b Y T
    · rw [cn_f e, ih, if_neg (by decide)]
      rfl
    · rw [cn_t e, if_pos rfl]
      show sm V (cn (bg b Y) T) + V (cn (bg b Y) T) = _
      rw [ih, h T (by omega) e]
/-! doubles -/
theorem ib64 : FP.Core.infBits FP.Core.b64 = 9218868437227405312 := FP.Core.infBits_b64
theorem u64_of {n : Nat} (h : n ≤ 9218868437227405312) : (UInt64.ofNat n).toNat = n := by
  rw [UInt64.toNat_ofNat']
  exact Nat.mod_eq_of_lt (by omega)
theorem i2d_units {n : Nat} (h : n < 2 ^ 31) : (FP.i2d (nI n)).toNat < 9218868437227405312 ∧ FP.Core.unitsOf FP.Core.b64 (FP.i2d (nI n)).toNat = n * FP.Core.one64 := by
  have r := (RR.int FP.Core.good_b64 n).1
  rw [ib64] at r
  have er : (FP.i2d (nI n)).toNat = FP.Core.fromInt FP.Core.b64 (n : Int) := by
    rw [show FP.i2d (nI n) = FP.Core.i2d (nI n) from rfl, FP.Core.toNat_i2d, nI_int h]
  rw [← er] at r
  have hi : FP.Core.DInt (nI n).toInt (FP.Core.i2d (nI n)) := FP.Core.i2d_int _
  have hz := FP.Core.DInt_zval hi
  have hn := FP.Core.DInt_ne_nan hi
  rw [nI_int h] at hz
  have hm := FP.Core.zmag_bits hn
  have e63 : (FP.Core.i2d (nI n)).toNat % 2 ^ 63 = (FP.Core.i2d (nI n)).toNat := Nat.mod_eq_of_lt (by have : (FP.Core.i2d (nI n)).toNat ≤ 9218868437227405312 := r; omega)
  rw [e63] at hm
  have hab : (FP.Core.zval FP.Core.b64 (FP.Core.val64 (FP.Core.i2d (nI n)))).natAbs = FP.Core.zmag FP.Core.b64 (FP.Core.val64 (FP.Core.i2d (nI n))) := FP.Core.natAbs_signed _ _
  rw [hz, Int.natAbs_mul, Int.natAbs_natCast, Int.natAbs_natCast] at hab
  have hf := (FP.Core.fin_bits _).mp (FP.Core.i2d_fin (nI n))
  rw [e63] at hf
  exact ⟨hf, by rw [show FP.i2d (nI n) = FP.Core.i2d (nI n) from rfl, ← hm, ← hab]⟩
theorem start64 {L : Nat} (h : 1 ≤ L) : FP.Core.unitsOf FP.Core.b64 (L * 4503599627370496) = 2 ^ 52 * 2 ^ (L - 1) := by
  have := FP.Core.unitsOf_start (f := FP.Core.b64) h
  rw [FP.Core.tails_b64] at this
  exact this
theorem pow64 (k : Nat) : FP.Core.unitsOf FP.Core.b64 ((1023 + k) * 4503599627370496) = 2 ^ k * FP.Core.one64 := by
  rw [start64 (by omega)]
  unfold FP.Core.one64
  rw [← Nat.pow_add, ← Nat.pow_add]
  congr 1
  omega
theorem mean_b {u c : Nat} (hc : 0 < c) (hu : c ≤ u) (hl : u ≤ 256) : 1023 * 4503599627370496 ≤ (FP.ddiv (FP.i2d (nI u)) (FP.i2d (nI c))).toNat ∧ (FP.ddiv (FP.i2d (nI u)) (FP.i2d (nI c))).toNat ≤ 1031 * 4503599627370496 := by
  obtain ⟨u1, u2⟩ := i2d_units (n := u) (by omega)
  obtain ⟨c1, c2⟩ := i2d_units (n := c) (by omega)
  have hp := FP.Core.one64_pos
  have r := RR.div FP.Core.good_b64 (x := (FP.i2d (nI u)).toNat) (y := (FP.i2d (nI c)).toNat) (by rw [ib64]; exact u1) (by rw [ib64]; exact c1) (by
    apply Nat.pos_of_ne_zero
    intro z
    rw [z, FP.Core.unitsOf_zero] at c2
    have := Nat.mul_pos hc hp
    omega)
  rw [FP.Core.pow_qmin64, u2, c2] at r
  have a := r.2.2 ((1023 + 0) * 4503599627370496) (by rw [ib64]; decide) (by
    rw [pow64, Nat.pow_zero, Nat.one_mul, Nat.mul_comm FP.Core.one64]
    exact Nat.mul_le_mul_right _ (Nat.mul_le_mul_right _ hu))
  have b := r.2.1 ((1023 + 8) * 4503599627370496) (by
    rw [pow64, ← Nat.mul_assoc]
    refine Nat.mul_le_mul_right _ ?_
    rw [Nat.mul_assoc, Nat.mul_comm FP.Core.one64, ← Nat.mul_assoc]
    refine Nat.mul_le_mul_right _ ?_
    have : 2 ^ 8 * 1 ≤ 2 ^ 8 * c := Nat.mul_le_mul_left _ hc
    omega)
  have e : (FP.ddiv (FP.i2d (nI u)) (FP.i2d (nI c))).toNat = FP.Core.div FP.Core.b64 (FP.i2d (nI u)).toNat (FP.i2d (nI c)).toNat := u64_of (by omega)
  rw [e]
  exact ⟨a, b⟩
theorem t64 : FP.Core.b64.tails = 4503599627370496 := FP.Core.tails_b64
theorem up64 {x k : Nat} (h : 4503599627370496 ≤ x) : FP.Core.unitsOf FP.Core.b64 (x + k * 4503599627370496) = FP.Core.unitsOf FP.Core.b64 x * 2 ^ k := by
  have := units_up (f := FP.Core.b64) (x := x) (k := k) (by rw [t64]; exact h)
  rw [t64] at this
  exact this
theorem halve64 {x : UInt64} (h1 : 2 * 4503599627370496 ≤ x.toNat) (h2 : x.toNat < 9218868437227405312) : (FP.ddiv x kf_X11_503).toNat = x.toNat - 4503599627370496 := by
  have r := RR.div FP.Core.good_b64 (x := x.toNat) (y := (1023 + 1) * 4503599627370496) (by rw [ib64]; exact h2) (by rw [ib64]; decide) (by decide)
  rw [FP.Core.pow_qmin64, pow64] at r
  have e := r.eq (m := x.toNat - 4503599627370496) (by rw [ib64]; omega) (by
    have u := up64 (x := x.toNat - 4503599627370496) (k := 1) (by omega)
    rw [show x.toNat - 4503599627370496 + 1 * 4503599627370496 = x.toNat by omega] at u
    rw [u, Nat.mul_assoc])
  show (UInt64.ofNat (FP.Core.div FP.Core.b64 x.toNat (kf_X11_503).toNat)).toNat = _
  rw [show (kf_X11_503).toNat = (1023 + 1) * 4503599627370496 from rfl, e]
  exact u64_of (by omega)
theorem mulp64 {x : UInt64} {k : Nat} {c : UInt64} (hc : c.toNat = (1023 + k) * 4503599627370496) (hk : k ≤ 60) (h1 : 4503599627370496 ≤ x.toNat) (h2 : x.toNat + k * 4503599627370496 < 9218868437227405312) : (FP.dmul x c).toNat = x.toNat + k * 4503599627370496 := by
  have r := RR.mul FP.Core.good_b64 (x := x.toNat) (y := c.toNat) (by rw [ib64]; omega) (by rw [ib64]; omega)
  rw [FP.Core.pow_qmin64, hc, pow64] at r
  have e := r.eq (m := x.toNat + k * 4503599627370496) (by rw [ib64]; omega) (by rw [up64 h1, Nat.mul_assoc])
  show (UInt64.ofNat (FP.Core.mul FP.Core.b64 x.toNat c.toNat)).toNat = _
  rw [hc, e]
  exact u64_of (by omega)
theorem lN_int {n : Nat} (h : n < 2 ^ 63) : (lN n).toInt = (n : Int) := by
  show (Int64.ofNat n).toInt = _
  rw [Int64.toInt_ofNat_of_lt (by omega)]
theorem d2l64 {x : UInt64} {t : Nat} (ht : t < 4503599627370496) (h : x.toNat = 1075 * 4503599627370496 + t) : FP.d2l x = lN (4503599627370496 + t) := by
  have hn : FP.Core.val64 x ≠ .nan := (FP.Core.ne_nan x).mpr (by rw [Nat.mod_eq_of_lt (by omega)]; omega)
  have v := FP.Core.d2l_val hn
  have s0 : FP.Core.sgn (FP.Core.val64 x) = false := by
    rw [FP.Core.sgn_bits hn]
    exact decide_eq_false (by omega)
  have um : FP.Core.unitsOf FP.Core.b64 x.toNat = (4503599627370496 + t) * FP.Core.one64 := by
    unfold FP.Core.unitsOf
    rw [t64, if_neg (by omega), h, show (1075 * 4503599627370496 + t) % 4503599627370496 = t by omega, show (1075 * 4503599627370496 + t) / 4503599627370496 - 1 = 1074 by omega]
    rfl
  rw [s0, FP.Core.zmag_bits hn, Nat.mod_eq_of_lt (by omega), um, Nat.mul_div_cancel _ FP.Core.one64_pos] at v
  have v2 : (FP.Core.d2l x).toInt = ((4503599627370496 + t : Nat) : Int) := by
    rw [v]
    unfold FP.Core.signed
    rw [if_neg (by decide)]
    omega
  apply Int64.toInt_inj.mp
  rw [lN_int (by omega)]
  exact v2
theorem bits64 {x : UInt64} : x.toInt64 = lN x.toNat := by
  show x.toInt64 = Int64.ofNat x.toNat
  apply Int64.toBitVec_inj.1
  apply BitVec.eq_of_toNat_eq
  show x.toBitVec.toNat = (BitVec.ofNat 64 x.toNat).toNat
  rw [BitVec.toNat_ofNat, Nat.mod_eq_of_lt x.toNat_lt]
  rfl
theorem or_shl64 {E t : Nat} (hE : E < 2048) (ht : t < 4503599627370496) : (lN E <<< ((52 : Int32).toInt64 &&& 63)) ||| (lN (4503599627370496 + t) &&& 4503599627370495) = lN (E * 4503599627370496 + t) := by
  apply Int64.toBitVec_inj.1
  rw [Int64.toBitVec_or, Int64.toBitVec_and, Int64.toBitVec_shiftLeft]
  have e : (((52 : Int32).toInt64 &&& 63).toBitVec.smod 64).toNat = 52 := by decide +kernel
  show BitVec.ofNat 64 E <<< (((52 : Int32).toInt64 &&& 63).toBitVec.smod 64).toNat ||| (BitVec.ofNat 64 (4503599627370496 + t) &&& BitVec.ofNat 64 4503599627370495) = BitVec.ofNat 64 (E * 4503599627370496 + t)
  rw [e]
  apply BitVec.eq_of_toNat_eq
  rw [BitVec.toNat_or, BitVec.toNat_and, BitVec.toNat_shiftLeft, BitVec.toNat_ofNat, BitVec.toNat_ofNat, BitVec.toNat_ofNat, BitVec.toNat_ofNat, Nat.mod_eq_of_lt (a := E) (by omega), Nat.mod_eq_of_lt (a := 4503599627370496 + t) (by omega), show 4503599627370495 % 2 ^ 64 = 2 ^ 52 - 1 from rfl, Nat.and_two_pow_sub_one_eq_mod, show (4503599627370496 + t) % 2 ^ 52 = t by omega, Nat.shiftLeft_eq, Nat.mod_eq_of_lt (a := E * 2 ^ 52) (by omega), ← Nat.shiftLeft_eq, ← Nat.shiftLeft_add_eq_or_of_lt (by omega), Nat.shiftLeft_eq]
  exact (Nat.mod_eq_of_lt (by omega)).symm
theorem nd_eq {β : Type} {x : UInt64} {k : Option β} (h : x.toNat ≤ 9218868437227405312) : nd x k = k := by
  unfold nd
  rw [if_pos]
  rw [UInt64.le_iff_toNat_le, show (x &&& 9223372036854775807).toNat = x.toNat % 2 ^ 63 from FP.Core.mask_toNat x, Nat.mod_eq_of_lt (by omega)]
  exact h
theorem cmp64 {x y : UInt64} (hx : x.toNat ≤ 9218868437227405312) (hy : y.toNat ≤ 9218868437227405312) (op : CmpOp) : Op.cmpValue (FP.dcmp x y) op = if x.toNat < y.toNat then -1 else if x.toNat = y.toNat then 0 else 1 := by
  have e63 : ∀ z : UInt64, z.toNat ≤ 9218868437227405312 → FP.Core.val64 z ≠ .nan := fun z hz => (FP.Core.ne_nan z).mpr (by rw [Nat.mod_eq_of_lt (by omega)]; exact hz)
  obtain ⟨m1, m2, m3⟩ := FP.Core.mono_bits (e63 x hx) (e63 y hy) (by omega) (by omega)
  rw [show FP.dcmp x y = FP.Core.dcmp x y from rfl]
  by_cases l : x.toNat < y.toNat
  · rw [m1.mpr l, if_pos l]
    rfl
  · rw [if_neg l]
    by_cases e : x.toNat = y.toNat
    · rw [m2.mpr e, if_pos e]
      rfl
    · rw [m3.mpr (by omega), if_neg e]
      rfl
theorem dcmp_lt' {x y : UInt64} (hx : x.toNat ≤ 9218868437227405312) (hy : y.toNat ≤ 9218868437227405312) (op : CmpOp) : (Op.cmpValue (FP.dcmp x y) op < 0) ↔ x.toNat < y.toNat := by
  rw [cmp64 hx hy]
  by_cases l : x.toNat < y.toNat
  · rw [if_pos l]
    exact ⟨fun _ => l, fun _ => by decide⟩
  · rw [if_neg l]
    by_cases e : x.toNat = y.toNat
    · rw [if_pos e]
      exact ⟨fun z => absurd z (by decide), fun z => absurd z (by omega)⟩
    · rw [if_neg e]
      exact ⟨fun z => absurd z (by decide), fun z => absurd z (by omega)⟩
theorem dcmp_ge' {x y : UInt64} (hx : x.toNat ≤ 9218868437227405312) (hy : y.toNat ≤ 9218868437227405312) (op : CmpOp) : (0 ≤ Op.cmpValue (FP.dcmp x y) op) ↔ y.toNat ≤ x.toNat := by
  rw [cmp64 hx hy]
  by_cases l : x.toNat < y.toNat
  · rw [if_pos l]
    exact ⟨fun z => absurd z (by decide), fun z => absurd z (by omega)⟩
  · rw [if_neg l]
    by_cases e : x.toNat = y.toNat
    · rw [if_pos e]
      exact ⟨fun _ => by omega, fun _ => by decide⟩
    · rw [if_neg e]
      exact ⟨fun _ => by omega, fun _ => by decide⟩
theorem doubleBitsA {x : UInt64} (h1 : 1023 * 4503599627370496 ≤ x.toNat) (h2 : x.toNat ≤ 1031 * 4503599627370496) (g : G) : fA_D_doubleBits x g = some x.toInt64 := by
  apply Sat.eq
  rw [bits64]
  unfold fA_D_doubleBits
  have c0 : (FP.dconst0).toNat = 0 := rfl
  have c1 : (FP.dconst1).toNat = 1023 * 4503599627370496 := rfl
  have c2 : (kf_X11_503).toNat = 1024 * 4503599627370496 := rfl
  have ce : Op.cmpValue (FP.dcmp x FP.dconst0) .l = 1 := by
    rw [cmp64 (by omega) (by omega), if_neg (by omega), if_neg (by omega)]
  rw [ce, if_pos (by decide)]
  obtain ⟨E, T, hT, hX⟩ : ∃ E T, T < 4503599627370496 ∧ x.toNat = E * 4503599627370496 + T := ⟨x.toNat / 4503599627370496, x.toNat % 4503599627370496, Nat.mod_lt _ (by decide), by omega⟩
  have hE1 : 1023 ≤ E := by omega
  have hE2 : E ≤ 1031 := by omega
  refine Sat.lp (fun k s => ∃ z, s = (z, lN (1023 + k)) ∧ z.toNat = (E - k) * 4503599627370496 + T) (E - 1023) (by omega) ⟨x, rfl, hX⟩ ?_ ?_
  · rintro rec k _ hk ⟨z, rfl, hz⟩ hrec
    simp only [lj_eq]
    have hh := halve64 (x := z) (by omega) (by omega)
    have lc : ¬ (0 : Int32) ≤ lg_cmp (lN (1023 + k)) 2046 := by
      have : k < 8 := by omega
      clear hh hrec
      revert this
      exact (by decide : ∀ k, k < 8 → ¬ (0 : Int32) ≤ lg_cmp (lN (1023 + k)) 2046) k
    rw [if_neg (fun w => by have := (dcmp_lt' (by omega) (by omega) _).mp w; omega), if_neg lc, nd_eq (by omega), bv_eq, bv_eq]
    exact hrec _ ⟨_, by rw [show (lN (1023 + k) + 1 : Int64) = lN (1023 + (k + 1)) from lN_add (1023 + k) 1], by omega⟩
  · rintro rec _ ⟨z, rfl, hz⟩
    simp only [lj_eq]
    rw [show E - (E - 1023) = 1023 by omega] at hz
    rw [show 1023 + (E - 1023) = E by omega]
    rw [if_pos ((dcmp_lt' (by omega) (by omega) _).mpr (by omega))]
    have hh := mulp64 (x := z) (k := 52) (c := kf_X11_507) (by decide) (by decide) (by omega) (by omega)
    rw [show FU = (FU - 1) + 1 from rfl, Sat_lp_same]
    simp only [lj_eq]
    rw [if_pos ((dcmp_ge' (by omega) (by omega) _).mpr (by omega)), nd_eq (by omega), d2l64 (t := T) hT (by omega), or_shl64 (by omega) hT]
    exact Sat.of (by rw [hX])
theorem dbitsB {x : UInt64} (h : x.toNat ≤ 9218868437227405312) (g : G) : fB_Double_doubleToLongBits x g = some x.toInt64 := by
  unfold fB_Double_doubleToLongBits fB_Double_isNaN
  rw [cmp64 h h, if_neg (Nat.lt_irrefl _), if_pos rfl, if_pos rfl, Option.bind_some, if_pos rfl]

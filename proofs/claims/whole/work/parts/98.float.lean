/-! FLOATS: sums that are no NaN, not too great, not too small -/
theorem u32_of {n : Nat} (h : n ≤ 2139095040) : (UInt32.ofNat n).toNat = n := by
  rw [UInt32.toNat_ofNat']
  exact Nat.mod_eq_of_lt (by omega)
theorem nI_int {n : Nat} (h : n < 2 ^ 31) : (nI n).toInt = (n : Int) := by
  show (Int32.ofNat n).toInt = _
  rw [Int32.toInt_ofNat_of_lt (by omega)]
theorem ib32 : FP.Core.infBits FP.Core.b32 = 2139095040 := FP.Core.infBits_b32
theorem i2f_rr {n : Nat} (h : n < 2 ^ 31) : RR FP.Core.b32 (FP.i2f (nI n)).toNat (n * FP.Core.one32) 1 := by
  have r := RR.int FP.Core.good_b32 n
  rw [FP.Core.pow_qmin32] at r
  have e : (FP.i2f (nI n)).toNat = FP.Core.fromInt FP.Core.b32 (n : Int) := by
    rw [show FP.i2f (nI n) = FP.Core.i2f (nI n) from rfl, FP.Core.toNat_i2f, nI_int h]
  rw [e]
  exact r
theorem i2f_units {n : Nat} (h : n ≤ 2 ^ 24) : (FP.i2f (nI n)).toNat < 2139095040 ∧ FP.Core.unitsOf FP.Core.b32 (FP.i2f (nI n)).toNat = n * FP.Core.one32 := by
  have r := (i2f_rr (n := n) (by omega)).1
  rw [ib32] at r
  have hi : FP.Core.FInt (nI n).toInt (FP.Core.i2f (nI n)) := FP.Core.i2f_int (by rw [nI_int (by omega)]; exact h)
  have hz := FP.Core.FInt_zval hi
  have hn := FP.Core.FInt_ne_nan hi
  rw [nI_int (by omega)] at hz
  have hm := FP.Core.zmag_toNat32 hn
  have e31 : (FP.Core.i2f (nI n)).toNat % 2 ^ 31 = (FP.Core.i2f (nI n)).toNat := Nat.mod_eq_of_lt (by have : (FP.Core.i2f (nI n)).toNat ≤ 2139095040 := r; omega)
  rw [e31] at hm
  have hab : (FP.Core.zval FP.Core.b32 (FP.Core.val32 (FP.Core.i2f (nI n)))).natAbs = FP.Core.zmag FP.Core.b32 (FP.Core.val32 (FP.Core.i2f (nI n))) := FP.Core.natAbs_signed _ _
  rw [hz, Int.natAbs_mul, Int.natAbs_natCast, Int.natAbs_natCast] at hab
  have hf := (FP.Core.fin_bits32 _).mp (FP.Core.i2f_fin (nI n))
  rw [e31] at hf
  exact ⟨hf, by rw [show FP.i2f (nI n) = FP.Core.i2f (nI n) from rfl, ← hm, ← hab]⟩
/-- at most N -/
def lz (x : UInt32) (N : Nat) : Prop := x.toNat < 2139095040 ∧ FP.Core.unitsOf FP.Core.b32 x.toNat ≤ N * FP.Core.one32
theorem lz.of {x : UInt32} {n P Q N : Nat} (e : x = UInt32.ofNat n) (r : RR FP.Core.b32 n P Q) (hN : N ≤ 2 ^ 24) (h : P ≤ N * FP.Core.one32 * Q) : lz x N := by
  obtain ⟨m1, m2⟩ := i2f_units hN
  have l := r.2.1 (FP.i2f (nI N)).toNat (by rw [m2]; exact h)
  have ex : x.toNat = n := by rw [e]; exact u32_of (by omega)
  refine ⟨by omega, ?_⟩
  rw [ex, ← m2]
  exact FP.Core.unitsOf_le_iff.mpr l
theorem fadd_rr {a b : UInt32} (ha : a.toNat < 2139095040) (hb : b.toNat < 2139095040) : RR FP.Core.b32 (FP.Core.add FP.Core.b32 a.toNat b.toNat) (FP.Core.unitsOf FP.Core.b32 a.toNat + FP.Core.unitsOf FP.Core.b32 b.toNat) 1 :=
  RR.add FP.Core.good_b32 (by rw [ib32]; exact ha) (by rw [ib32]; exact hb)
theorem lz.add {a b : UInt32} {N M : Nat} (ha : lz a N) (hb : lz b M) (h : N + M ≤ 2 ^ 24) : lz (FP.fadd a b) (N + M) := by
  refine lz.of (show FP.fadd a b = _ from rfl) (fadd_rr ha.1 hb.1) h ?_
  rw [Nat.mul_one, Nat.add_mul]
  exact Nat.add_le_add ha.2 hb.2
theorem fdiv_rr {a : UInt32} {Y : Nat} (ha : a.toNat < 2139095040) (h0 : 0 < Y) (hY : Y ≤ 2 ^ 24) : RR FP.Core.b32 (FP.Core.div FP.Core.b32 a.toNat (FP.i2f (nI Y)).toNat) (FP.Core.unitsOf FP.Core.b32 a.toNat * FP.Core.one32) (Y * FP.Core.one32) := by
  obtain ⟨m1, m2⟩ := i2f_units hY
  have hp := FP.Core.one32_pos
  have := RR.div FP.Core.good_b32 (x := a.toNat) (y := (FP.i2f (nI Y)).toNat) (by rw [ib32]; exact ha) (by rw [ib32]; exact m1) (by
    apply Nat.pos_of_ne_zero
    intro z
    rw [z, FP.Core.unitsOf_zero] at m2
    have := Nat.mul_pos h0 hp
    omega)
  rw [FP.Core.pow_qmin32, m2] at this
  exact this
theorem lz.div {a : UInt32} {N Y : Nat} (ha : lz a N) (hN : N ≤ 2 ^ 24) (h0 : 0 < Y) (hY : Y ≤ 2 ^ 24) : lz (FP.fdiv a (FP.i2f (nI Y))) N := by
  refine lz.of (show FP.fdiv a (FP.i2f (nI Y)) = _ from rfl) (fdiv_rr ha.1 h0 hY) hN ?_
  refine Nat.le_trans (Nat.mul_le_mul_right _ ha.2) (Nat.mul_le_mul_left _ ?_)
  exact Nat.le_mul_of_pos_left _ h0
theorem lz.share {w a : Nat} (h0 : 0 < a) (ha : a ≤ 2 ^ 24) (h : w ≤ a) : lz (FP.fdiv (FP.i2f (nI w)) (FP.i2f (nI a))) 1 := by
  obtain ⟨m1, m2⟩ := i2f_units (n := w) (by omega)
  refine lz.of (show FP.fdiv (FP.i2f (nI w)) (FP.i2f (nI a)) = _ from rfl) (fdiv_rr m1 h0 ha) (by decide) ?_
  rw [m2, Nat.one_mul, Nat.mul_comm FP.Core.one32]
  exact Nat.mul_le_mul_right _ (Nat.mul_le_mul_right _ h)
/-- nothing, or not below an exponent -/
def gz (L : Nat) (x : UInt32) : Prop := x.toNat = 0 ∨ L * 2 ^ 23 ≤ x.toNat
theorem start32 {L : Nat} (h : 1 ≤ L) : FP.Core.unitsOf FP.Core.b32 (L * 2 ^ 23) = 2 ^ 23 * 2 ^ (L - 1) := by
  have := FP.Core.unitsOf_start (f := FP.Core.b32) h
  rw [FP.Core.tails_b32] at this
  exact this
theorem gz.of {x : UInt32} {n P Q L : Nat} (e : x = UInt32.ofNat n) (r : RR FP.Core.b32 n P Q) (h1 : 1 ≤ L) (h2 : L ≤ 254) (h : P = 0 ∨ 2 ^ 23 * 2 ^ (L - 1) * Q ≤ P) : gz L x := by
  have rl := r.1
  rw [ib32] at rl
  have ex : x.toNat = n := by rw [e]; exact u32_of rl
  rcases h with h | h
  · left
    have := r.2.1 0 (by rw [h]; exact Nat.zero_le _)
    omega
  · right
    rw [ex]
    exact r.2.2 _ (by rw [ib32]; omega) (by rw [start32 h1]; exact h)
theorem gz.ge {x : UInt32} {L : Nat} (h1 : 1 ≤ L) (h : L * 2 ^ 23 ≤ x.toNat) : 2 ^ 23 * 2 ^ (L - 1) ≤ FP.Core.unitsOf FP.Core.b32 x.toNat := by
  rw [← start32 h1]
  exact FP.Core.unitsOf_le_iff.mpr h
theorem gz.add {a b : UInt32} {L : Nat} (ha : gz L a) (hb : gz L b) (la : a.toNat < 2139095040) (lb : b.toNat < 2139095040) (h1 : 1 ≤ L) (h2 : L ≤ 254) : gz L (FP.fadd a b) := by
  refine gz.of (show FP.fadd a b = _ from rfl) (fadd_rr la lb) h1 h2 ?_
  rcases ha with ha | ha
  · rcases hb with hb | hb
    · left
      rw [ha, hb, FP.Core.unitsOf_zero]
    · right
      have := gz.ge h1 hb
      omega
  · right
    have := gz.ge h1 ha
    omega
theorem gz.div {a : UInt32} {L M k Y : Nat} (ha : gz L a) (la : a.toNat < 2139095040) (h0 : 0 < Y) (hY : Y ≤ 2 ^ k) (hk : k ≤ 24) (h1 : 1 ≤ M) (h2 : M + k ≤ L) (h3 : L ≤ 254) : gz M (FP.fdiv a (FP.i2f (nI Y))) := by
  have hY2 : Y ≤ 2 ^ 24 := Nat.le_trans hY (Nat.pow_le_pow_right (by decide) hk)
  refine gz.of (show FP.fdiv a (FP.i2f (nI Y)) = _ from rfl) (fdiv_rr la h0 hY2) h1 (by omega) ?_
  rcases ha with ha | ha
  · left
    rw [ha, FP.Core.unitsOf_zero, Nat.zero_mul]
  · right
    have g := gz.ge (by omega) ha
    rw [← Nat.mul_assoc]
    refine Nat.mul_le_mul_right _ (Nat.le_trans ?_ g)
    rw [Nat.mul_assoc]
    refine Nat.mul_le_mul_left _ (Nat.le_trans (Nat.mul_le_mul_left _ hY) ?_)
    rw [← Nat.pow_add]
    exact Nat.pow_le_pow_right (by decide) (by omega)
theorem gz.share {w a : Nat} (h0 : 0 < a) (ha : a ≤ 2 ^ 12) (h : 0 < w) (hw : w ≤ 2 ^ 12) : gz 115 (FP.fdiv (FP.i2f (nI w)) (FP.i2f (nI a))) := by
  obtain ⟨m1, m2⟩ := i2f_units (n := w) (by omega)
  refine gz.of (show FP.fdiv (FP.i2f (nI w)) (FP.i2f (nI a)) = _ from rfl) (fdiv_rr m1 h0 (by omega)) (by decide) (by decide) (Or.inr ?_)
  rw [m2, ← Nat.mul_assoc]
  refine Nat.mul_le_mul_right _ ?_
  refine Nat.le_trans (Nat.mul_le_mul_left _ ha) ?_
  rw [show 2 ^ 23 * 2 ^ (115 - 1) * 2 ^ 12 = 1 * FP.Core.one32 by unfold FP.Core.one32; decide]
  exact Nat.mul_le_mul_right _ h
theorem nf_eq {β : Type} {x : UInt32} {k : Option β} (h : x.toNat ≤ 2139095040) : nf x k = k := by
  unfold nf
  rw [if_pos]
  rw [UInt32.le_iff_toNat_le, show (x &&& 2147483647).toNat = x.toNat % 2 ^ 31 from FP.Core.mask_toNat32 x, Nat.mod_eq_of_lt (by omega)]
  exact h
theorem cmp32 {x y : UInt32} (hx : x.toNat ≤ 2139095040) (hy : y.toNat ≤ 2139095040) (op : CmpOp) : Op.cmpValue (FP.fcmp x y) op = if x.toNat < y.toNat then -1 else if x.toNat = y.toNat then 0 else 1 := by
  have e31 : ∀ z : UInt32, z.toNat ≤ 2139095040 → FP.Core.val32 z ≠ .nan := fun z hz => (FP.Core.ne_nan32 z).mpr (by rw [Nat.mod_eq_of_lt (by omega)]; exact hz)
  obtain ⟨m1, m2, m3⟩ := FP.Core.mono_bits32 (e31 x hx) (e31 y hy) (by omega) (by omega)
  rw [show FP.fcmp x y = FP.Core.fcmp x y from rfl]
  by_cases l : x.toNat < y.toNat
  · rw [m1.mpr l, if_pos l]
    rfl
  · rw [if_neg l]
    by_cases e : x.toNat = y.toNat
    · rw [m2.mpr e, if_pos e]
      rfl
    · rw [m3.mpr (by omega), if_neg e]
      rfl
theorem cmp_gt {x y : UInt32} (hx : x.toNat ≤ 2139095040) (hy : y.toNat ≤ 2139095040) (op : CmpOp) : (0 < Op.cmpValue (FP.fcmp x y) op) ↔ y.toNat < x.toNat := by
  rw [cmp32 hx hy]
  by_cases l : x.toNat < y.toNat
  · rw [if_pos l]
    exact ⟨fun z => absurd z (by decide), fun z => absurd z (by omega)⟩
  · rw [if_neg l]
    by_cases e : x.toNat = y.toNat
    · rw [if_pos e]
      exact ⟨fun z => absurd z (by decide), fun z => absurd z (by omega)⟩
    · rw [if_neg e]
      exact ⟨fun _ => by omega, fun _ => by decide⟩
theorem cmp_lt {x y : UInt32} (hx : x.toNat ≤ 2139095040) (hy : y.toNat ≤ 2139095040) (op : CmpOp) : (Op.cmpValue (FP.fcmp x y) op < 0) ↔ x.toNat < y.toNat := by
  rw [cmp32 hx hy]
  by_cases l : x.toNat < y.toNat
  · rw [if_pos l]
    exact ⟨fun _ => l, fun _ => by decide⟩
  · rw [if_neg l]
    by_cases e : x.toNat = y.toNat
    · rw [if_pos e]
      exact ⟨fun z => absurd z (by decide), fun z => absurd z (by omega)⟩
    · rw [if_neg e]
      exact ⟨fun z => absurd z (by decide), fun z => absurd z (by omega)⟩
theorem cmp_ge {x y : UInt32} (hx : x.toNat ≤ 2139095040) (hy : y.toNat ≤ 2139095040) (op : CmpOp) : (0 ≤ Op.cmpValue (FP.fcmp x y) op) ↔ y.toNat ≤ x.toNat := by
  rw [cmp32 hx hy]
  by_cases l : x.toNat < y.toNat
  · rw [if_pos l]
    exact ⟨fun z => absurd z (by decide), fun z => absurd z (by omega)⟩
  · rw [if_neg l]
    by_cases e : x.toNat = y.toNat
    · rw [if_pos e]
      exact ⟨fun _ => by omega, fun _ => by decide⟩
    · rw [if_neg e]
      exact ⟨fun _ => by omega, fun _ => by decide⟩
theorem cmp_le {x y : UInt32} (hx : x.toNat ≤ 2139095040) (hy : y.toNat ≤ 2139095040) (op : CmpOp) : (Op.cmpValue (FP.fcmp x y) op ≤ 0) ↔ x.toNat ≤ y.toNat := by
  rw [cmp32 hx hy]
  by_cases l : x.toNat < y.toNat
  · rw [if_pos l]
    exact ⟨fun _ => by omega, fun _ => by decide⟩
  · rw [if_neg l]
    by_cases e : x.toNat = y.toNat
    · rw [if_pos e]
      exact ⟨fun _ => by omega, fun _ => by decide⟩
    · rw [if_neg e]
      exact ⟨fun z => absurd z (by decide), fun z => absurd z (by omega)⟩

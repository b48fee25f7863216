/-! FLOATS: rounding, held between -/
def RR (f : FP.Core.Fmt) (n P Q : Nat) : Prop := n ≤ FP.Core.infBits f ∧ (∀ m, P ≤ FP.Core.unitsOf f m * Q → n ≤ m) ∧ ∀ m, m ≤ FP.Core.infBits f → FP.Core.unitsOf f m * Q ≤ P → m ≤ n
theorem RR.eq {f : FP.Core.Fmt} {n m P Q : Nat} (h : RR f n P Q) (hm : m ≤ FP.Core.infBits f) (e : FP.Core.unitsOf f m * Q = P) : n = m :=
  Nat.le_antisymm (h.2.1 m (Nat.le_of_eq e.symm)) (h.2.2 m hm (Nat.le_of_eq e))
theorem RR.mk {f : FP.Core.Fmt} (hf : FP.Core.Good f) {n P Q A B : Nat} {e e0 : Int} (hl : n < 2 * FP.Core.half f) (hn : FP.Core.decode f n = FP.Core.roundRatio f false A B e) (hB : 0 < B) (h0 : e0 ≤ f.qmin) (h0e : e0 ≤ e)
    {k : Nat} (hk : 0 < k) (e1 : FP.Core.inUnits A e e0 = P * k) (e2 : 2 ^ (f.qmin - e0).toNat * B = Q * k) : RR f n P Q := by
  have nn : FP.Core.decode f n ≠ .nan := by rw [hn]; exact FP.Core.roundRatio_ne_nan f false A B e
  have ml : FP.Core.mag f n ≤ FP.Core.infBits f := Nat.le_of_not_lt (fun z => nn ((FP.Core.decode_nan n).mpr z))
  have sg := FP.Core.sgn_decode ml hl
  rw [hn, FP.Core.sgn_roundRatio] at sg
  have lt : n < FP.Core.half f := Nat.lt_of_not_le (fun z => by rw [decide_eq_true z] at sg; exact absurd sg (by decide))
  have em : FP.Core.mag f n = n := FP.Core.mag_of_lt lt
  refine ⟨by rw [em] at ml; exact ml, fun m hm => ?_, fun m hi hm => ?_⟩
  · have := FP.Core.mag_le hf (m := m) hn hB h0 h0e (by rw [e1, Nat.mul_assoc, e2, ← Nat.mul_assoc]; exact Nat.mul_le_mul_right k hm)
    rw [em] at this
    exact this
  · have := FP.Core.mag_ge hf (m := m) hn hB h0 h0e hi (by rw [e1, Nat.mul_assoc, e2, ← Nat.mul_assoc]; exact Nat.mul_le_mul_right k hm)
    rw [em] at this
    exact this
theorem dec_pos {f : FP.Core.Fmt} (hf : FP.Core.Good f) {x : Nat} (hx : x < FP.Core.infBits f) : ∃ c q, FP.Core.decode f x = .fin false c q ∧ FP.Core.inUnits c q f.qmin = FP.Core.unitsOf f x ∧ FP.Core.fits f (.fin false c q) := by
  have lt : x < FP.Core.half f := Nat.lt_trans hx (FP.Core.infBits_lt f)
  have em : FP.Core.mag f x = x := FP.Core.mag_of_lt lt
  obtain ⟨c, q, e1, e2⟩ := FP.Core.decode_fin (f := f) (n := x) (by rw [em]; exact hx)
  rw [em] at e2
  have es : FP.Core.fieldS f x = false := by
    rw [FP.Core.fieldS_mag f (by omega)]
    exact decide_eq_false (by omega)
  rw [es] at e1
  exact ⟨c, q, e1, e2, by rw [← e1]; exact FP.Core.decode_fits hf x⟩
theorem enc_lt {f : FP.Core.Fmt} (hf : FP.Core.Good f) {d : FP.Core.Datum} (hd : FP.Core.fits f d) : FP.Core.encode f d < 2 * FP.Core.half f := by
  have := FP.Core.encode_lt hf d hd
  unfold FP.Core.half
  rw [← Nat.mul_assoc]
  exact this
theorem RR.add {f : FP.Core.Fmt} (hf : FP.Core.Good f) {x y : Nat} (hx : x < FP.Core.infBits f) (hy : y < FP.Core.infBits f) : RR f (FP.Core.add f x y) (FP.Core.unitsOf f x + FP.Core.unitsOf f y) 1 := by
  obtain ⟨c, q, ex, ux, fx⟩ := dec_pos hf hx
  obtain ⟨d, r, ey, uy, fy⟩ := dec_pos hf hy
  unfold FP.Core.add
  rw [ex, ey]
  have hq := fx.2.1
  have hr := fy.2.1
  have e0 : FP.Core.exactSum (.fin false c q) (.fin false d r) = .fin false (FP.Core.inUnits c q (min q r) + FP.Core.inUnits d r (min q r)) (min q r) := by
    have ev : FP.Core.sumUnits false c q false d r (min q r) = ((FP.Core.inUnits c q (min q r) + FP.Core.inUnits d r (min q r) : Nat) : Int) := by
      unfold FP.Core.sumUnits FP.Core.signed
      simp
    show FP.Core.Datum.fin (FP.Core.sumSign false false (FP.Core.sumUnits false c q false d r (min q r))) (FP.Core.sumUnits false c q false d r (min q r)).natAbs (min q r) = _
    rw [ev, Int.natAbs_natCast]
    congr 1
    unfold FP.Core.sumSign
    split
    · rfl
    · exact decide_eq_false (by omega)
  rw [e0]
  refine RR.mk hf (A := FP.Core.inUnits c q (min q r) + FP.Core.inUnits d r (min q r)) (B := 1) (e := min q r) (e0 := f.qmin) (k := 1) (enc_lt hf (FP.Core.round_fits hf _)) (FP.Core.decode_enc hf (FP.Core.round_fits hf _)) (by decide) (Int.le_refl _) (by omega) (by decide) ?_ ?_
  · rw [← ux, ← uy, FP.Core.inUnits_move c (e := f.qmin) (r := min q r) (by omega) (by omega), FP.Core.inUnits_move d (e := f.qmin) (r := min q r) (by omega) (by omega)]
    show (_ + _) * _ = _
    rw [Nat.add_mul, Nat.mul_one]
  · rw [Int.sub_self]
    rfl
theorem RR.mul {f : FP.Core.Fmt} (hf : FP.Core.Good f) {x y : Nat} (hx : x < FP.Core.infBits f) (hy : y < FP.Core.infBits f) : RR f (FP.Core.mul f x y) (FP.Core.unitsOf f x * FP.Core.unitsOf f y) (2 ^ (-f.qmin).toNat) := by
  obtain ⟨c, q, ex, ux, fx⟩ := dec_pos hf hx
  obtain ⟨d, r, ey, uy, fy⟩ := dec_pos hf hy
  unfold FP.Core.mul
  rw [ex, ey]
  obtain ⟨e1, e2, e3⟩ := FP.Core.product_units fx fy
  rw [e1]
  have hn := FP.Core.qmin_neg hf
  refine RR.mk hf (A := c * d) (B := 1) (e := q + r) (e0 := 2 * f.qmin) (k := 1) (enc_lt hf (FP.Core.round_fits hf _)) (FP.Core.decode_enc hf (FP.Core.round_fits hf _)) (by decide) (by omega) (by omega) (by decide) ?_ ?_
  · rw [e3, ← ux, ← uy, Nat.mul_one]
    rfl
  · rw [show f.qmin - 2 * f.qmin = -f.qmin by omega]
theorem RR.div {f : FP.Core.Fmt} (hf : FP.Core.Good f) {x y : Nat} (hx : x < FP.Core.infBits f) (hy : y < FP.Core.infBits f) (h0 : 0 < y) : RR f (FP.Core.div f x y) (FP.Core.unitsOf f x * 2 ^ (-f.qmin).toNat) (FP.Core.unitsOf f y) := by
  obtain ⟨c, q, ex, ux, fx⟩ := dec_pos hf hx
  obtain ⟨d, r, ey, uy, fy⟩ := dec_pos hf hy
  have hd : d ≠ 0 := by
    intro z
    rw [z] at uy
    have : FP.Core.unitsOf f y = 0 := by rw [← uy]; unfold FP.Core.inUnits; exact Nat.zero_mul _
    have := FP.Core.unitsOf_eq_zero.mp this
    omega
  have hn := FP.Core.qmin_neg hf
  have hq := fx.2.1
  have hr := fy.2.1
  unfold FP.Core.div
  rw [ex, ey]
  have e0 : FP.Core.quotient f (.fin false c q) (.fin false d r) = FP.Core.roundRatio f false c d (q - r) := by
    unfold FP.Core.quotient
    simp [hd]
  have fq := FP.Core.quotient_fits hf (.fin false c q) (.fin false d r)
  have dq := FP.Core.decode_enc hf fq
  have eq := enc_lt hf fq
  refine RR.mk hf (A := c) (B := d) (e := q - r) (e0 := 2 * f.qmin - r) (k := 1) eq (dq.trans e0) (by omega) (by omega) (by omega) (by decide) ?_ ?_
  · rw [← ux, Nat.mul_one]
    unfold FP.Core.inUnits
    rw [show q - r - (2 * f.qmin - r) = (q - f.qmin) + -f.qmin by omega, Int.toNat_add (by omega) (by omega), Nat.pow_add, Nat.mul_assoc]
  · rw [← uy, Nat.mul_one]
    unfold FP.Core.inUnits
    rw [show f.qmin - (2 * f.qmin - r) = r - f.qmin by omega, Nat.mul_comm]
theorem RR.int {f : FP.Core.Fmt} (hf : FP.Core.Good f) (n : Nat) : RR f (FP.Core.fromInt f (n : Int)) (n * 2 ^ (-f.qmin).toNat) 1 := by
  have hn := FP.Core.qmin_neg hf
  unfold FP.Core.fromInt
  have e0 : FP.Core.ofInt (n : Int) = .fin false n 0 := by
    unfold FP.Core.ofInt
    rw [Int.natAbs_natCast, decide_eq_false (by omega)]
  rw [e0]
  refine RR.mk hf (A := n) (B := 1) (e := 0) (e0 := f.qmin) (k := 1) (enc_lt hf (FP.Core.round_fits hf _)) (FP.Core.decode_enc hf (FP.Core.round_fits hf _)) (by decide) (Int.le_refl _) (by omega) (by decide) ?_ ?_
  · unfold FP.Core.inUnits
    rw [show (0 : Int) - f.qmin = -f.qmin by omega, Nat.mul_one]
  · rw [Int.sub_self]
    rfl
/-- the exponent moved -/
theorem units_up {f : FP.Core.Fmt} {x k : Nat} (h : f.tails ≤ x) : FP.Core.unitsOf f (x + k * f.tails) = FP.Core.unitsOf f x * 2 ^ k := by
  have tp := FP.Core.tails_pos f
  have e1 : (x + k * f.tails) % f.tails = x % f.tails := Nat.add_mul_mod_self_right _ _ _
  have e2 : (x + k * f.tails) / f.tails = x / f.tails + k := Nat.add_mul_div_right _ _ tp
  have e3 : 1 ≤ x / f.tails := (Nat.le_div_iff_mul_le tp).mpr (by omega)
  unfold FP.Core.unitsOf
  rw [if_neg (by omega), if_neg (by have := Nat.le_add_right x (k * f.tails); omega), e1, e2, Nat.mul_assoc, ← Nat.pow_add]
  congr 2
  omega

/-! FLOATS: the bits told by halving and doubling -/
theorem t32 : FP.Core.b32.tails = 8388608 := FP.Core.tails_b32
theorem up32 {x k : Nat} (h : 8388608 ≤ x) : FP.Core.unitsOf FP.Core.b32 (x + k * 8388608) = FP.Core.unitsOf FP.Core.b32 x * 2 ^ k := by
  have := units_up (f := FP.Core.b32) (x := x) (k := k) (by rw [t32]; exact h)
  rw [t32] at this
  exact this
theorem two_units : FP.Core.unitsOf FP.Core.b32 1073741824 = 2 * FP.Core.one32 := by
  rw [show (1073741824 : Nat) = 128 * 2 ^ 23 by decide, start32 (by decide)]
  unfold FP.Core.one32
  decide
theorem halve32 {x : UInt32} (h1 : 2 * 8388608 ≤ x.toNat) (h2 : x.toNat < 2139095040) : (FP.fdiv x FP.fconst2).toNat = x.toNat - 8388608 := by
  have r := RR.div FP.Core.good_b32 (x := x.toNat) (y := 1073741824) (by rw [ib32]; exact h2) (by rw [ib32]; decide) (by decide)
  rw [FP.Core.pow_qmin32, two_units] at r
  have e := r.eq (m := x.toNat - 8388608) (by rw [ib32]; omega) (by
    have u := up32 (x := x.toNat - 8388608) (k := 1) (by omega)
    rw [show x.toNat - 8388608 + 1 * 8388608 = x.toNat by omega] at u
    rw [u, Nat.pow_one, Nat.mul_assoc])
  show (UInt32.ofNat (FP.Core.div FP.Core.b32 x.toNat FP.Core.fconst2.toNat)).toNat = _
  rw [show FP.Core.fconst2.toNat = 1073741824 from rfl, e]
  exact u32_of (by omega)
theorem mulp32 {x : UInt32} {k : Nat} {c : UInt32} (hc : c.toNat = (127 + k) * 8388608) (hk : k ≤ 30) (h1 : 8388608 ≤ x.toNat) (h2 : x.toNat + k * 8388608 < 2139095040) : (FP.fmul x c).toNat = x.toNat + k * 8388608 := by
  have r := RR.mul FP.Core.good_b32 (x := x.toNat) (y := c.toNat) (by rw [ib32]; omega) (by rw [ib32]; omega)
  have uc : FP.Core.unitsOf FP.Core.b32 c.toNat = 2 ^ k * FP.Core.one32 := by
    rw [hc, show (127 + k) * 8388608 = (127 + k) * 2 ^ 23 by omega, start32 (by omega)]
    unfold FP.Core.one32
    rw [← Nat.pow_add, ← Nat.pow_add]
    congr 1
    omega
  rw [FP.Core.pow_qmin32, uc] at r
  have e := r.eq (m := x.toNat + k * 8388608) (by rw [ib32]; omega) (by rw [up32 h1, Nat.mul_assoc])
  show (UInt32.ofNat (FP.Core.mul FP.Core.b32 x.toNat c.toNat)).toNat = _
  rw [e]
  exact u32_of (by omega)
theorem f2i32 {x : UInt32} {t : Nat} (ht : t < 8388608) (h : x.toNat = 150 * 8388608 + t) : FP.f2i x = nI (8388608 + t) := by
  have hn : FP.Core.val32 x ≠ .nan := (FP.Core.ne_nan32 x).mpr (by rw [Nat.mod_eq_of_lt (by omega)]; omega)
  have v := FP.Core.f2i_val hn
  have s0 : FP.Core.sgn (FP.Core.val32 x) = false := by
    rw [FP.Core.sgn_bits32 hn]
    exact decide_eq_false (by omega)
  have um : FP.Core.unitsOf FP.Core.b32 x.toNat = (8388608 + t) * FP.Core.one32 := by
    unfold FP.Core.unitsOf
    rw [t32, if_neg (by omega), h, show (150 * 8388608 + t) % 8388608 = t by omega, show (150 * 8388608 + t) / 8388608 - 1 = 149 by omega]
    rfl
  rw [s0, FP.Core.zmag_toNat32 hn, Nat.mod_eq_of_lt (by omega), um, Nat.mul_div_cancel _ FP.Core.one32_pos] at v
  have v2 : (FP.Core.f2i x).toInt = ((8388608 + t : Nat) : Int) := by
    rw [v]
    unfold FP.Core.signed
    rw [if_neg (by decide)]
    omega
  apply Int32.toInt_inj.mp
  rw [nI_int (by omega)]
  exact v2
theorem bits32 {x : UInt32} (hx : x.toNat < 2 ^ 31) : x.toInt32 = nI x.toNat := by
  show x.toInt32 = Int32.ofNat x.toNat
  apply Int32.toBitVec_inj.1
  apply BitVec.eq_of_toNat_eq
  show x.toBitVec.toNat = (BitVec.ofNat 32 x.toNat).toNat
  rw [BitVec.toNat_ofNat, Nat.mod_eq_of_lt (by omega)]
  rfl
theorem or_shl {E t : Nat} (hE : E < 256) (ht : t < 8388608) : (nI E <<< ((23 : Int32) &&& 31)) ||| (nI (8388608 + t) &&& 8388607) = nI (E * 8388608 + t) := by
  rw [show ((23 : Int32) &&& 31) = nI 23 from rfl, n_shl _ (by decide), show (8388607 : Int32) = nI 8388607 from rfl, n_and, n_or, Nat.shiftLeft_eq, show (8388607 : Nat) = 2 ^ 23 - 1 from rfl, Nat.and_two_pow_sub_one_eq_mod]
  congr 1
  rw [show (8388608 + t) % 2 ^ 23 = t by omega, ← Nat.shiftLeft_eq, ← Nat.shiftLeft_add_eq_or_of_lt (by omega), Nat.shiftLeft_eq]
theorem floatBitsA {x : UInt32} (h : x.toNat = 0 ∨ 8388608 ≤ x.toNat) (h2 : x.toNat < 2139095040) (g : G) : fA_D_floatBits x g = some x.toInt32 := by
  apply Sat.eq
  rw [bits32 (by omega)]
  unfold fA_D_floatBits
  rcases h with h | h
  · rw [if_neg (fun z => by have := (cmp_gt (y := FP.fconst0) (by omega) (by decide) _).mp z; omega), h]
    exact Sat.of rfl
  · rw [if_pos ((cmp_gt (y := FP.fconst0) (by omega) (by decide) _).mpr (by rw [show (FP.fconst0).toNat = 0 from rfl]; omega))]
    obtain ⟨E, T, hT, hX⟩ : ∃ E T, T < 8388608 ∧ x.toNat = E * 8388608 + T := ⟨x.toNat / 8388608, x.toNat % 8388608, Nat.mod_lt _ (by decide), by omega⟩
    have hE1 : 1 ≤ E := by omega
    have hE2 : E ≤ 254 := by omega
    obtain ⟨N, hN⟩ : ∃ N, N = E - 127 := ⟨_, rfl⟩
    have c2 : (FP.fconst2).toNat = 128 * 8388608 := rfl
    have c1 : (FP.fconst1).toNat = 127 * 8388608 := rfl
    have c2l : (FP.fconst2).toNat ≤ 2139095040 := by decide
    have c1l : (FP.fconst1).toNat ≤ 2139095040 := by decide
    refine Sat.lp (fun k s => ∃ z, s = (z, nI (127 + k)) ∧ z.toNat = (E - k) * 8388608 + T) N (by omega) ⟨x, rfl, hX⟩ ?_ ?_
    · rintro rec k _ hk ⟨z, rfl, hz⟩ hrec
      simp only [lj_eq]
      rw [if_neg (fun w => by have := (cmp_lt (by omega) c2l _).mp w; omega), if_neg (show ¬ (254 : Int32) ≤ nI (127 + k) from nI_ge (a := 127 + k) (b := 254) (by omega) (by decide))]
      have hh := halve32 (x := z) (by omega) (by omega)
      rw [nf_eq (by omega), bv_eq]
      exact hrec _ ⟨_, by rw [show (nI (127 + k) + 1 : Int32) = nI (127 + (k + 1)) from nI_add (127 + k) 1], by omega⟩
    · rintro rec _ ⟨z, rfl, hz⟩
      simp only [lj_eq]
      rw [if_pos ((cmp_lt (by omega) c2l _).mpr (by omega))]
      obtain ⟨M, hM⟩ : ∃ M, M = 127 - E := ⟨_, rfl⟩
      refine Sat.lp (fun k s => ∃ z, s = (z, nI (127 + N - k)) ∧ z.toNat = (E - N + k) * 8388608 + T) M (by omega) ⟨z, rfl, hz⟩ ?_ ?_
      · rintro rec k _ hk ⟨z, rfl, hz⟩ hrec
        simp only [lj_eq]
        rw [if_neg (fun w => by have := (cmp_ge (by omega) c1l _).mp w; omega), if_neg (show ¬ nI (127 + N - k) ≤ 1 from nI_ge (a := 1) (b := 127 + N - k) (by omega) (by omega))]
        have hh := mulp32 (x := z) (k := 1) (c := FP.fconst2) c2 (by decide) (by omega) (by omega)
        rw [nf_eq (by omega), bv_eq, n_m1 (by omega)]
        exact hrec _ ⟨_, by rw [show 127 + N - k - 1 = 127 + N - (k + 1) by omega], by omega⟩
      · rintro rec _ ⟨z, rfl, hz⟩
        simp only [lj_eq]
        have e1 : E - N + M = 127 := by omega
        rw [e1] at hz
        rw [if_pos ((cmp_ge (by omega) c1l _).mpr (by omega))]
        have hh := mulp32 (x := z) (k := 23) (c := kf_X11_499) (by decide) (by decide) (by omega) (by omega)
        rw [nf_eq (by omega), f2i32 (t := T) hT (by omega), or_shl (by omega) hT]
        refine Sat.of ?_
        rw [hX, show 127 + N - M = E by omega]

/-! THE WORST GAP: by bits -/
theorem Per.add {Y : Nat} {b : Nat → Bool} (h : Per Y b) (t : Nat) : b (t + Y) = b t := by rw [← h (t + Y), Nat.add_mod_right, h]
theorem Per.mod {Y : Nat} {b : Nat → Bool} (h : Per Y b) {u v : Nat} (e : u % Y = v % Y) : b u = b v := by rw [← h u, e, h]
/-- how long it has been so -/
def bk (b : Nat → Bool) (Y t : Nat) : Nat := fi (fun n => !b (t + Y - 1 - n)) Y
theorem bk_pre {b : Nat → Bool} {Y t n : Nat} (h : n < bk b Y t) : b (t + Y - 1 - n) = true := by
  have := (fi_all (fun n => !b (t + Y - 1 - n)) Y).2.1 n h
  simpa using this
theorem bk_le (b : Nat → Bool) (Y t : Nat) : bk b Y t ≤ Y := (fi_all _ Y).1
theorem bk_lt {b : Nat → Bool} {Y : Nat} (hp : Per Y b) {z t : Nat} (hz : z < Y) (hb : b z = false) : bk b Y t < Y ∧ b (t + Y - 1 - bk b Y t) = false := by
  have ha := fi_all (fun n => !b (t + Y - 1 - n)) Y
  have hl : bk b Y t < Y := by
    apply Classical.byContradiction
    intro hn
    have e : bk b Y t = Y := Nat.le_antisymm (bk_le b Y t) (by omega)
    have hall : ∀ k, k < Y → b (t + Y - 1 - k) = true := fun k hk => bk_pre (by omega)
    have l := (ln_lt hp (t := t) hz hb)
    have := hall (Y - 1 - ln b Y t) (by omega)
    rw [show t + Y - 1 - (Y - 1 - ln b Y t) = t + ln b Y t by omega, l.2] at this
    exact absurd this (by decide)
  refine ⟨hl, ?_⟩
  have := ha.2.2 hl
  unfold bk
  simpa using this
theorem bk_step {b : Nat → Bool} {Y : Nat} (hp : Per Y b) {z t : Nat} (hz : z < Y) (hb : b z = false) (ht : b t = true) : bk b Y (t + 1) = bk b Y t + 1 := by
  have l1 := bk_lt hp (t := t) hz hb
  have l2 := bk_lt hp (t := t + 1) hz hb
  have l3 : bk b Y t + 1 ≤ Y := by omega
  unfold bk
  refine fi_eq l3 (fun j hj => ?_) (fun hl => ?_)
  · by_cases e : j = 0
    · subst e
      rw [show t + 1 + Y - 1 - 0 = t + Y by omega, hp.add, ht]
      rfl
    · have := bk_pre (b := b) (Y := Y) (t := t) (n := j - 1) (by unfold bk at *; omega)
      rw [show t + 1 + Y - 1 - j = t + Y - 1 - (j - 1) by omega, this]
      rfl
  · have := l1.2
    unfold bk at this
    rw [show t + 1 + Y - 1 - (fi (fun n => !b (t + Y - 1 - n)) Y + 1) = t + Y - 1 - fi (fun n => !b (t + Y - 1 - n)) Y by omega, this]
    rfl
theorem bk_zero {b : Nat → Bool} {Y t : Nat} (hY : 0 < Y) (h : b (t + Y - 1) = false) : bk b Y t = 0 := fi_eq (Nat.zero_le _) (fun j hj => by omega) (fun _ => by rw [Nat.sub_zero, h]; rfl)
/-- a gap's end is told by where it began -/
theorem bk_mg {b : Nat → Bool} {Y : Nat} (hp : Per Y b) {z t : Nat} (hz : z < Y) (hb : b z = false) (h1 : b (t + Y - 1) = true) (h2 : b t = false) : bk b Y t ≤ mg b Y Y := by
  have l1 := bk_lt hp (t := t) hz hb
  obtain ⟨n, hn⟩ : ∃ n, n = bk b Y t := ⟨_, rfl⟩
  have hpos : 0 < n := by
    apply Nat.pos_of_ne_zero
    intro e
    rw [← hn, e, Nat.sub_zero, h1] at l1
    exact absurd l1.2 (by decide)
  rw [← hn] at l1 ⊢
  obtain ⟨T, hT⟩ : ∃ T, T = t + Y - n := ⟨_, rfl⟩
  have bT : ∀ i, i < n → b (T + i) = true := by
    intro i hi
    have := bk_pre (b := b) (Y := Y) (t := t) (n := n - 1 - i) (by omega)
    rwa [show t + Y - 1 - (n - 1 - i) = T + i by omega] at this
  have bE : b (T + n) = false := by rw [show T + n = t + Y by omega, hp.add, h2]
  have lT : ln b Y T = n := fi_eq (by omega) (fun j hj => by rw [bT j hj]; rfl) (fun _ => by rw [bE]; rfl)
  have lm : ln b Y (T % Y) = ln b Y T := by
    unfold ln
    congr 1
    funext k
    rw [hp.mod (u := T % Y + k) (v := T + k) (by rw [Nat.mod_add_mod])]
  have hg : bg b Y (T % Y) = true := by
    unfold bg
    rw [hp, show T = T + 0 from rfl, bT 0 hpos]
    have : b ((T + 0) % Y + Y - 1) = false := by
      rw [hp.mod (u := (T + 0) % Y + Y - 1) (v := T - 1), show T - 1 = t + Y - 1 - n by omega]
      · exact l1.2
      · rw [Nat.add_zero, show T % Y + Y - 1 = T % Y + (Y - 1) by omega, Nat.mod_add_mod, show T + (Y - 1) = T - 1 + Y by omega, Nat.add_mod_right]
    rw [this]
    rfl
  have := mg_ge b Y Y (T % Y) (Nat.mod_lt _ (by omega)) hg
  omega
theorem mg_bk {b : Nat → Bool} {Y : Nat} (hp : Per Y b) {z : Nat} (hz : z < Y) (hb : b z = false) : mg b Y Y = 0 ∨ ∃ t, t < Y ∧ b (t + Y - 1) = true ∧ b t = false ∧ bk b Y t = mg b Y Y := by
  rcases mg_is b Y Y with e | ⟨u, hu, hg, e⟩
  · exact Or.inl e
  · refine Or.inr ?_
    have l := ln_lt hp (t := u) hz hb
    have l0 := ln_lt hp (t := 0) hz hb
    rw [e]
    obtain ⟨n, hn⟩ : ∃ n, n = ln b Y u := ⟨_, rfl⟩
    rw [← hn] at l ⊢
    unfold bg at hg
    have hbu : b u = true := by
      cases h : b u
      · rw [h] at hg
        exact absurd hg (by simp)
      · rfl
    have hbp : b (u + Y - 1) = false := by
      rw [hbu, decide_eq_false (show ¬ ln b Y 0 = Y by omega)] at hg
      simpa using hg
    have hpos : 0 < n := by
      apply Nat.pos_of_ne_zero
      intro e0
      rw [e0, Nat.add_zero, hbu] at l
      exact absurd l.2 (by decide)
    have key : ∀ j, j ≤ n → b ((u + n) % Y + Y - 1 - j) = b (u + n + Y - 1 - j) := fun j hj => hp.mod (by
      rw [show (u + n) % Y + Y - 1 - j = (u + n) % Y + (Y - 1 - j) by omega, Nat.mod_add_mod, show u + n + (Y - 1 - j) = u + n + Y - 1 - j by omega])
    have hin : ∀ j, j < n → b ((u + n) % Y + Y - 1 - j) = true := fun j hj => by
      rw [key j (by omega), show u + n + Y - 1 - j = (u + (n - 1 - j)) + Y by omega, hp.add]
      exact ln_pre (Y := Y) (by omega)
    refine ⟨(u + n) % Y, Nat.mod_lt _ (by omega), ?_, by rw [hp]; exact l.2, ?_⟩
    · have := hin 0 hpos
      rwa [Nat.sub_zero] at this
    · refine fi_eq (by omega) (fun j hj => by rw [hin j hj]; rfl) (fun _ => ?_)
      rw [key n (Nat.le_refl _), show u + n + Y - 1 - n = u + Y - 1 by omega, hbp]
      rfl
/-- the lowest bit -/
theorem low_sub {m c : Nat} (hc : m.testBit c = true) (hl : ∀ i, i < c → m.testBit i = false) (i : Nat) : (m - 1).testBit i = if i < c then true else if i = c then false else m.testBit i := by
  have e1 : m % 2 ^ (c + 1) = 2 ^ c := by
    apply Nat.eq_of_testBit_eq
    intro j
    rw [Nat.testBit_mod_two_pow, Nat.testBit_two_pow]
    by_cases e : j = c
    · subst e
      simp [hc]
    · by_cases l : j < c
      · rw [hl j l]
        have : ¬ c = j := by omega
        simp [this]
      · have : ¬ j < c + 1 := by omega
        have h2 : ¬ c = j := by omega
        simp [this, h2]
  have e2 := Nat.div_add_mod m (2 ^ (c + 1))
  rw [e1] at e2
  have hp : 0 < 2 ^ c := Nat.pow_pos (by decide)
  have hlt : 2 ^ c - 1 < 2 ^ (c + 1) := by rw [Nat.pow_succ]; omega
  have hlt2 : 2 ^ c < 2 ^ (c + 1) := by rw [Nat.pow_succ]; omega
  have e3 : m - 1 = 2 ^ (c + 1) * (m / 2 ^ (c + 1)) + (2 ^ c - 1) := by omega
  have em : m.testBit i = if i < c + 1 then (2 ^ c).testBit i else (m / 2 ^ (c + 1)).testBit (i - (c + 1)) := by
    conv => lhs; rw [← e2]
    exact Nat.testBit_two_pow_mul_add _ hlt2 i
  rw [e3, Nat.testBit_two_pow_mul_add _ hlt, Nat.testBit_two_pow_sub_one]
  by_cases l : i < c
  · rw [if_pos (by omega), if_pos l]
    exact decide_eq_true l
  · by_cases e : i = c
    · rw [if_pos (by omega), if_neg l, if_pos e]
      exact decide_eq_false l
    · rw [if_neg (by omega), if_neg l, if_neg e, em, if_neg (by omega)]
theorem ntz_tail : ∀ c, c < 24 → (if (0 : Int32) < nI (2 ^ c - 1) then lj (α := Int32 × Int32) (fun b2 => lj (α := Int32 × Int32) (fun b3 => lj (α := Int32 × Int32) (fun b4 => lj (α := Int32 × Int32) (fun b5 => some (b5.2 + (((b5.1 : Int32).toUInt32 >>> ((1 : Int32).toUInt32 &&& Int32.toUInt32 31)).toInt32))) fun J5 => (if b4.1 ≤ 4 then J5 (b4.1, b4.2) else bv (((b4.1 : Int32).toUInt32 >>> ((2 : Int32).toUInt32 &&& Int32.toUInt32 31)).toInt32) fun x6 => J5 (x6, b4.2 + 2))) fun J4 => (if b3.1 ≤ 16 then J4 (b3.1, b3.2) else bv (((b3.1 : Int32).toUInt32 >>> ((4 : Int32).toUInt32 &&& Int32.toUInt32 31)).toInt32) fun x7 => J4 (x7, b3.2 + 4))) fun J3 => (if b2.1 ≤ 256 then J3 (b2.1, b2.2) else bv (((b2.1 : Int32).toUInt32 >>> ((8 : Int32).toUInt32 &&& Int32.toUInt32 31)).toInt32) fun x8 => J3 (x8, b2.2 + 8))) fun J2 => (if nI (2 ^ c - 1) ≤ 65536 then J2 (nI (2 ^ c - 1), 1) else bv (((nI (2 ^ c - 1) : Int32).toUInt32 >>> ((16 : Int32).toUInt32 &&& Int32.toUInt32 31)).toInt32) fun x9 => J2 (x9, 1 + 16)) else some (nI (2 ^ c - 1) &&& 32)) = some (nI c) := by decide +kernel
theorem ntz_eq {m c : Nat} (hc : m.testBit c = true) (hl : ∀ i, i < c → m.testBit i = false) (h24 : c < 24) (g : G) : fA_Integer_numberOfTrailingZeros (nI m) g = some (nI c) := by
  have hm : 1 ≤ m := by
    apply Nat.pos_of_ne_zero
    intro e
    rw [e, Nat.zero_testBit] at hc
    exact absurd hc (by decide)
  have e : ((nI m) ^^^ (-1)) &&& (nI m - 1) = nI (2 ^ c - 1) := by
    rw [show (nI m - 1) = nI (m - 1) from nI_sub (b := 1) hm]
    apply bit_ext
    intro i hi
    have hm1 : (-1 : Int32).toBitVec.getLsbD i = true := (by decide +kernel : ∀ i, i < 32 → (-1 : Int32).toBitVec.getLsbD i = true) i hi
    rw [Int32.toBitVec_and, Int32.toBitVec_xor, BitVec.getLsbD_and, BitVec.getLsbD_xor, nI_bit, nI_bit, nI_bit, hm1, low_sub hc hl, Nat.testBit_two_pow_sub_one]
    by_cases l : i < c
    · rw [if_pos l, hl i l]
      simp [hi, l]
    · rw [if_neg l]
      by_cases e : i = c
      · subst e
        simp [hc]
      · rw [if_neg e]
        simp [l, hi]
  unfold fA_Integer_numberOfTrailingZeros
  rw [bv_eq, e]
  exact ntz_tail c h24
theorem cn_del {b : Nat → Bool} {c : Nat} (hc : b c = true) : ∀ {n : Nat}, c < n → cn b n = cn (fun i => decide (i ≠ c) && b i) n + 1
  | 0, h => absurd h (Nat.not_lt_zero c)
  | n + 1, h => by
    by_cases e : c = n
    · subst e
      rw [cn_t hc, cn_f (b := fun i => decide (i ≠ c) && b i) (by simp)]
      congr 1
      apply cn_cong
      intro i hi
      have : i ≠ c := by omega
      simp [this]
    · have ih := cn_del hc (n := n) (by omega)
      have hn : n ≠ c := fun z => e z.symm
      have e2 : cn (fun i => decide (i ≠ c) && b i) (n + 1) = cn (fun i => decide (i ≠ c) && b i) n + (b n).toNat := by rw [cn]; simp [hn]
      rw [cn, e2, ih]
      omega
/-- the lowest bit goes -/
theorem rest_low {m c : Nat} (hc : m.testBit c = true) (hl : ∀ i, i < c → m.testBit i = false) (hm : m < 2 ^ 24) : nI m &&& (nI m - 1) = nI (m &&& (m - 1)) ∧ m &&& (m - 1) < 2 ^ 24 ∧ (∀ i, (m &&& (m - 1)).testBit i = (decide (i ≠ c) && m.testBit i)) ∧ pc m = pc (m &&& (m - 1)) + 1 := by
  have h1 : 1 ≤ m := by
    apply Nat.pos_of_ne_zero
    intro e
    rw [e, Nat.zero_testBit] at hc
    exact absurd hc (by decide)
  have hb : ∀ i, (m &&& (m - 1)).testBit i = (decide (i ≠ c) && m.testBit i) := by
    intro i
    rw [Nat.testBit_and, low_sub hc hl]
    by_cases l : i < c
    · rw [if_pos l, hl i l]
      simp
    · rw [if_neg l]
      by_cases e : i = c
      · subst e
        simp
      · rw [if_neg e]
        simp [e]
  have hc24 : c < 24 := by
    apply Classical.byContradiction
    intro h
    rw [bit_hi hm (by omega)] at hc
    exact absurd hc (by decide)
  refine ⟨?_, Nat.lt_of_le_of_lt Nat.and_le_left hm, hb, ?_⟩
  · rw [show (nI m - 1) = nI (m - 1) from nI_sub (b := 1) h1, n_and]
  · unfold pc
    rw [cn_del hc (n := 32) (by omega)]
    congr 1
    apply cn_cong
    intro i _
    exact (hb i).symm
theorem pc_pos {m : Nat} (h : 0 < pc m) : ∃ c, m.testBit c = true ∧ c < 32 ∧ ∀ i, i < c → m.testBit i = false := by
  have ha := fi_all m.testBit 32
  have hl : fi m.testBit 32 < 32 := by
    apply Classical.byContradiction
    intro hn
    have : pc m = 0 := cn_0 (fun i hi => ha.2.1 i (by omega))
    omega
  exact ⟨_, ha.2.2 hl, hl, ha.2.1⟩
theorem pc_zero {m : Nat} (hm : m < 2 ^ 24) (h : pc m = 0) : m = 0 := by
  apply Nat.eq_of_testBit_eq
  intro i
  rw [Nat.zero_testBit]
  by_cases hi : i < 32
  · exact cn_zero.mp h i hi
  · exact bit_hi hm (by omega)

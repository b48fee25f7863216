/-! SETS OF BITS AND COUNTS -/
/-- the number whose bits below n are b -/
def mk (b : Nat → Bool) : Nat → Nat
  | 0 => 0
  | n + 1 => 2 ^ n * (b n).toNat + mk b n
/-- how many below n -/
def cn (b : Nat → Bool) : Nat → Nat
  | 0 => 0
  | n + 1 => cn b n + (b n).toNat
theorem mk_lt (b : Nat → Bool) : ∀ n, mk b n < 2 ^ n
  | 0 => by show 0 < 1; decide
  | n + 1 => by
    have ih := mk_lt b n
    have e : mk b (n + 1) = 2 ^ n * (b n).toNat + mk b n := rfl
    rw [e, Nat.pow_succ]
    cases b n
    · simp; omega
    · simp; omega
theorem mk_bit (b : Nat → Bool) : ∀ n i, (mk b n).testBit i = (decide (i < n) && b i)
  | 0, i => by simp [mk]
  | n + 1, i => by
    have e : mk b (n + 1) = 2 ^ n * (b n).toNat + mk b n := rfl
    rw [e, Nat.testBit_two_pow_mul_add _ (mk_lt b n), mk_bit b n i]
    by_cases h : i < n
    · rw [if_pos h]
      have : i < n + 1 := by omega
      simp [h, this]
    · rw [if_neg h]
      by_cases e : i = n
      · subst e
        simp
        cases b i <;> rfl
      · have h2 : ¬ i < n + 1 := by omega
        have h3 : i - n ≠ 0 := by omega
        simp [h2]
        cases b n
        · simp
        · obtain ⟨k, hk⟩ : ∃ k, i - n = k + 1 := ⟨i - n - 1, by omega⟩
          rw [hk]
          simp [Nat.testBit_succ]
theorem mk_cong {b b' : Nat → Bool} : ∀ {n : Nat}, (∀ i, i < n → b i = b' i) → mk b n = mk b' n
  | 0, _ => rfl
  | n + 1, h => by rw [mk, mk, h n (Nat.lt_succ_self n), mk_cong (fun i hi => h i (Nat.lt_succ_of_lt hi))]
theorem bit_hi {m n i : Nat} (h : m < 2 ^ n) (hi : n ≤ i) : m.testBit i = false := Nat.testBit_lt_two_pow (Nat.lt_of_lt_of_le h (Nat.pow_le_pow_right (by decide) hi))
theorem mk_ext {m n : Nat} (h : m < 2 ^ n) {b : Nat → Bool} (hb : ∀ i, i < n → m.testBit i = b i) : m = mk b n := by
  apply Nat.eq_of_testBit_eq
  intro i
  rw [mk_bit]
  by_cases hi : i < n
  · rw [hb i hi]; simp [hi]
  · rw [bit_hi h (by omega)]; simp [hi]
theorem mk_self {m n : Nat} (h : m < 2 ^ n) : mk m.testBit n = m := (mk_ext h (fun _ _ => rfl)).symm
theorem mk_lt31 {b : Nat → Bool} {n : Nat} (h : n ≤ 31) : mk b n < 2 ^ 31 := Nat.lt_of_lt_of_le (mk_lt b n) (Nat.pow_le_pow_right (by decide) h)
theorem mk_zero {b : Nat → Bool} {n : Nat} : mk b n = 0 ↔ ∀ i, i < n → b i = false := by
  constructor
  · intro h i hi
    have := mk_bit b n i
    rw [h, Nat.zero_testBit] at this
    simpa [hi] using this.symm
  · intro h
    have : mk b n = mk (fun _ => false) n := mk_cong h
    rw [this]
    apply Nat.eq_of_testBit_eq
    intro i
    rw [mk_bit]
    simp
theorem cn_le (b : Nat → Bool) : ∀ n, cn b n ≤ n
  | 0 => Nat.le_refl 0
  | n + 1 => by
    have ih := cn_le b n
    have e : cn b (n + 1) = cn b n + (b n).toNat := rfl
    have : (b n).toNat ≤ 1 := by cases b n <;> decide
    omega
theorem cn_cong {b b' : Nat → Bool} : ∀ {n : Nat}, (∀ i, i < n → b i = b' i) → cn b n = cn b' n
  | 0, _ => rfl
  | n + 1, h => by rw [cn, cn, h n (Nat.lt_succ_self n), cn_cong (fun i hi => h i (Nat.lt_succ_of_lt hi))]
theorem cn_add (b : Nat → Bool) (m : Nat) : ∀ n, cn b (m + n) = cn b m + cn (fun i => b (m + i)) n
  | 0 => rfl
  | n + 1 => by
    show cn b (m + n) + (b (m + n)).toNat = cn b m + (cn (fun i => b (m + i)) n + (b (m + n)).toNat)
    rw [cn_add b m n]
    omega
theorem cn_0 {b : Nat → Bool} {n : Nat} (h : ∀ i, i < n → b i = false) : cn b n = 0 := by
  induction n with
  | zero => rfl
  | succ n ih =>
    rw [cn, ih (fun i hi => h i (by omega)), h n (by omega)]
    rfl
theorem cn_mono (b : Nat → Bool) {m n : Nat} (h : m ≤ n) : cn b m ≤ cn b n := by
  obtain ⟨d, rfl⟩ := Nat.exists_eq_add_of_le h
  rw [cn_add]
  omega
theorem cn_t {b : Nat → Bool} {n : Nat} (h : b n = true) : cn b (n + 1) = cn b n + 1 := by rw [cn, h]; rfl
theorem cn_f {b : Nat → Bool} {n : Nat} (h : b n = false) : cn b (n + 1) = cn b n := by rw [cn, h]; rfl
theorem cn_pos {b : Nat → Bool} {i n : Nat} (hi : i < n) (h : b i = true) : 0 < cn b n := by
  have h1 := cn_mono b (show i + 1 ≤ n by omega)
  rw [cn_t h] at h1
  omega
theorem cn_zero {b : Nat → Bool} {n : Nat} : cn b n = 0 ↔ ∀ i, i < n → b i = false := by
  refine ⟨fun h i hi => ?_, cn_0⟩
  cases e : b i
  · rfl
  · have := cn_pos hi e
    omega
/-- the count of a set's bits -/
def pc (m : Nat) : Nat := cn m.testBit 32
theorem pc_mk {b : Nat → Bool} {n : Nat} (h : n ≤ 32) : pc (mk b n) = cn b n := by
  obtain ⟨d, hd⟩ := Nat.exists_eq_add_of_le h
  rw [pc, hd, cn_add]
  have h1 : cn (mk b n).testBit n = cn b n := cn_cong (fun i hi => by rw [mk_bit]; simp [hi])
  have h2 : cn (fun i => (mk b n).testBit (n + i)) d = 0 := cn_0 (fun i _ => by
    rw [mk_bit]
    have : ¬ n + i < n := by omega
    simp [this])
  rw [h1, h2]
  rfl
theorem pc_le {m n : Nat} (h : m < 2 ^ n) (hn : n ≤ 32) : pc m ≤ n := by
  rw [← mk_self h, pc_mk hn]
  exact cn_le _ _
theorem pc_0 : pc 0 = 0 := by decide
/-- bytes -/
theorem by_and {a b c d a' b' c' d' : Nat} (ha : a < 256) (hb : b < 256) (hc : c < 256) (ha' : a' < 256) (hb' : b' < 256) (hc' : c' < 256) :
    (a + 256 * b + 65536 * c + 16777216 * d) &&& (a' + 256 * b' + 65536 * c' + 16777216 * d') = (a &&& a') + 256 * (b &&& b') + 65536 * (c &&& c') + 16777216 * (d &&& d') := by
  have two : ∀ x y x' y' : Nat, x < 256 → x' < 256 → (x + 256 * y) &&& (x' + 256 * y') = (x &&& x') + 256 * (y &&& y') := by
    intro x y x' y' hx hx'
    apply Nat.eq_of_testBit_eq
    intro i
    have h1 : x &&& x' < 2 ^ 8 := Nat.and_lt_two_pow x (by omega)
    rw [Nat.testBit_and, show x + 256 * y = 2 ^ 8 * y + x by omega, show x' + 256 * y' = 2 ^ 8 * y' + x' by omega, show (x &&& x') + 256 * (y &&& y') = 2 ^ 8 * (y &&& y') + (x &&& x') by omega,
      Nat.testBit_two_pow_mul_add _ (by omega), Nat.testBit_two_pow_mul_add _ (by omega), Nat.testBit_two_pow_mul_add _ h1]
    by_cases h : i < 8
    · simp only [if_pos h, Nat.testBit_and]
    · simp only [if_neg h, Nat.testBit_and]
  rw [show a + 256 * b + 65536 * c + 16777216 * d = a + 256 * (b + 256 * (c + 256 * d)) by omega, show a' + 256 * b' + 65536 * c' + 16777216 * d' = a' + 256 * (b' + 256 * (c' + 256 * d')) by omega,
    two _ _ _ _ ha ha', two _ _ _ _ hb hb', two _ _ _ _ hc hc']
  omega
theorem by_split (x : Nat) : x = x % 256 + 256 * (x / 256 % 256) + 65536 * (x / 65536 % 256) + 16777216 * (x / 16777216) := by omega
def by_q (a : Nat) : Nat := a / 2 &&& 85
def by_u (a : Nat) : Nat := a - by_q a
def by_v (a : Nat) : Nat := (by_u a &&& 51) + (by_u a / 4 &&& 51)
theorem by_1 : ∀ a, a < 256 → ∀ e, e < 2 → (a / 2 + 128 * e) &&& 85 = by_q a ∧ by_q a ≤ a := by decide +kernel
theorem by_2 : ∀ a, a < 256 → ∀ e, e < 4 → (by_u a / 4 + 64 * e) &&& 51 = (by_u a / 4 &&& 51) ∧ by_u a < 256 ∧ by_v a < 69 := by decide +kernel
theorem by_3 : ∀ a, a < 256 → ∀ e, e < 5 → (by_v a + by_v a / 16 + 16 * e) &&& 15 = cn a.testBit 8 := by decide +kernel
theorem by_4 : ∀ a, a < 256 → by_v a % 16 < 5 ∧ by_v a / 16 < 5 := by decide +kernel
theorem by_mod {x k i : Nat} (h : i < 8) : (x / 2 ^ k % 256).testBit i = x.testBit (k + i) := by
  rw [show (256 : Nat) = 2 ^ 8 from rfl, Nat.testBit_mod_two_pow, Nat.testBit_div_two_pow]
  simp [h, Nat.add_comm]
theorem by_5 {a b c d s p : Nat} (w1 : a ≤ 8) (w2 : b ≤ 8) (w3 : c ≤ 8) (w4 : d ≤ 8) (e4 : s = a + 256 * b + 65536 * c + 16777216 * d) (hp : p = s + s / 256) : (p + p / 65536) % 2 ^ 6 = a + b + c + d := by
  have t1 : s / 256 = b + 256 * c + 65536 * d := by omega
  have t2 : p = (a + b) + 256 * (b + c) + 65536 * (c + d) + 16777216 * d := by omega
  have t3 : p / 65536 = (c + d) + 256 * d := by omega
  rw [t3, t2]
  omega
theorem bitCount_eq {x : Nat} (hx : x < 2 ^ 32) (g : G) : fA_Integer_bitCount (nI x) g = some (nI (pc x)) := by
  obtain ⟨a, ha⟩ : ∃ a, a = x % 256 := ⟨_, rfl⟩
  obtain ⟨b, hb⟩ : ∃ b, b = x / 256 % 256 := ⟨_, rfl⟩
  obtain ⟨c, hc⟩ : ∃ c, c = x / 65536 % 256 := ⟨_, rfl⟩
  obtain ⟨d, hd⟩ : ∃ d, d = x / 16777216 := ⟨_, rfl⟩
  have la : a < 256 := by omega
  have lb : b < 256 := by omega
  have lc : c < 256 := by omega
  have ld : d < 256 := by omega
  have ex : x = a + 256 * b + 65536 * c + 16777216 * d := by rw [ha, hb, hc, hd]; exact by_split x
  have e1 : x / 2 &&& 1431655765 = by_q a + 256 * by_q b + 65536 * by_q c + 16777216 * by_q d := by
    rw [show x / 2 = (a / 2 + 128 * (b % 2)) + 256 * (b / 2 + 128 * (c % 2)) + 65536 * (c / 2 + 128 * (d % 2)) + 16777216 * (d / 2 + 128 * 0) by omega,
      show 1431655765 = 85 + 256 * 85 + 65536 * 85 + 16777216 * 85 from rfl, by_and (by omega) (by omega) (by omega) (by omega) (by omega) (by omega),
      (by_1 a la _ (Nat.mod_lt b (by omega))).1, (by_1 b lb _ (Nat.mod_lt c (by omega))).1, (by_1 c lc _ (Nat.mod_lt d (by omega))).1, (by_1 d ld 0 (by omega)).1]
  have q1 := (by_1 a la 0 (by omega)).2
  have q2 := (by_1 b lb 0 (by omega)).2
  have q3 := (by_1 c lc 0 (by omega)).2
  have q4 := (by_1 d ld 0 (by omega)).2
  have e2 : x - (x / 2 &&& 1431655765) = by_u a + 256 * by_u b + 65536 * by_u c + 16777216 * by_u d := by
    rw [e1]
    unfold by_u
    omega
  have le1 : x / 2 &&& 1431655765 ≤ x := by rw [e1]; omega
  obtain ⟨y, hy⟩ : ∃ y, y = x - (x / 2 &&& 1431655765) := ⟨_, rfl⟩
  rw [← hy] at e2
  have u1 := (by_2 a la 0 (by omega)).2
  have u2 := (by_2 b lb 0 (by omega)).2
  have u3 := (by_2 c lc 0 (by omega)).2
  have u4 := (by_2 d ld 0 (by omega)).2
  have e3 : (y &&& 858993459) + (y / 4 &&& 858993459) = by_v a + 256 * by_v b + 65536 * by_v c + 16777216 * by_v d := by
    have s1 : y &&& 858993459 = (by_u a &&& 51) + 256 * (by_u b &&& 51) + 65536 * (by_u c &&& 51) + 16777216 * (by_u d &&& 51) := by
      rw [e2, show 858993459 = 51 + 256 * 51 + 65536 * 51 + 16777216 * 51 from rfl, by_and u1.1 u2.1 u3.1 (by omega) (by omega) (by omega)]
    have s2 : y / 4 &&& 858993459 = (by_u a / 4 &&& 51) + 256 * (by_u b / 4 &&& 51) + 65536 * (by_u c / 4 &&& 51) + 16777216 * (by_u d / 4 &&& 51) := by
      rw [show y / 4 = (by_u a / 4 + 64 * (by_u b % 4)) + 256 * (by_u b / 4 + 64 * (by_u c % 4)) + 65536 * (by_u c / 4 + 64 * (by_u d % 4)) + 16777216 * (by_u d / 4 + 64 * 0) by omega,
        show 858993459 = 51 + 256 * 51 + 65536 * 51 + 16777216 * 51 from rfl, by_and (by omega) (by omega) (by omega) (by omega) (by omega) (by omega),
        (by_2 a la _ (Nat.mod_lt _ (by omega))).1, (by_2 b lb _ (Nat.mod_lt _ (by omega))).1, (by_2 c lc _ (Nat.mod_lt _ (by omega))).1, (by_2 d ld 0 (by omega)).1]
    rw [s1, s2]
    unfold by_v
    omega
  obtain ⟨z, hz⟩ : ∃ z, z = (y &&& 858993459) + (y / 4 &&& 858993459) := ⟨_, rfl⟩
  rw [← hz] at e3
  have v1 := by_4 a la
  have v2 := by_4 b lb
  have v3 := by_4 c lc
  have v4 := by_4 d ld
  have w1 : cn a.testBit 8 ≤ 8 := cn_le _ _
  have w2 : cn b.testBit 8 ≤ 8 := cn_le _ _
  have w3 : cn c.testBit 8 ≤ 8 := cn_le _ _
  have w4 : cn d.testBit 8 ≤ 8 := cn_le _ _
  have e4 : (z + z / 16) &&& 252645135 = cn a.testBit 8 + 256 * cn b.testBit 8 + 65536 * cn c.testBit 8 + 16777216 * cn d.testBit 8 := by
    rw [show z + z / 16 = (by_v a + by_v a / 16 + 16 * (by_v b % 16)) + 256 * (by_v b + by_v b / 16 + 16 * (by_v c % 16)) + 65536 * (by_v c + by_v c / 16 + 16 * (by_v d % 16)) + 16777216 * (by_v d + by_v d / 16 + 16 * 0) by omega,
      show 252645135 = 15 + 256 * 15 + 65536 * 15 + 16777216 * 15 from rfl, by_and (by omega) (by omega) (by omega) (by omega) (by omega) (by omega),
      by_3 a la _ v2.1, by_3 b lb _ v3.1, by_3 c lc _ v4.1, by_3 d ld 0 (by omega)]
  obtain ⟨s, hs⟩ : ∃ s, s = (z + z / 16) &&& 252645135 := ⟨_, rfl⟩
  rw [← hs] at e4
  have ep : pc x = cn a.testBit 8 + cn b.testBit 8 + cn c.testBit 8 + cn d.testBit 8 := by
    rw [pc, show (32 : Nat) = 8 + (8 + (8 + 8)) from rfl, cn_add, cn_add, cn_add]
    have h1 : cn x.testBit 8 = cn a.testBit 8 := cn_cong (fun i hi => by rw [ha, show x % 256 = x / 2 ^ 0 % 256 by simp, by_mod hi, Nat.zero_add])
    have h2 : cn (fun i => x.testBit (8 + i)) 8 = cn b.testBit 8 := cn_cong (fun i hi => by rw [hb, show x / 256 = x / 2 ^ 8 from rfl, by_mod hi])
    have h3 : cn (fun i => x.testBit (8 + (8 + i))) 8 = cn c.testBit 8 := cn_cong (fun i hi => by rw [hc, show x / 65536 = x / 2 ^ 16 from rfl, by_mod hi, show 16 + i = 8 + (8 + i) by omega])
    have h4 : cn (fun i => x.testBit (8 + (8 + (8 + i)))) 8 = cn d.testBit 8 := cn_cong (fun i hi => by
      have : d = x / 2 ^ 24 % 256 := by rw [hd, show (2 : Nat) ^ 24 = 16777216 from rfl]; omega
      rw [this, by_mod hi, show 24 + i = 8 + (8 + (8 + i)) by omega])
    rw [h1, h2, h3, h4]
    omega
  obtain ⟨p, hp⟩ : ∃ p, p = s + s / 256 := ⟨_, rfl⟩
  have e5 : (p + p / 65536) &&& 63 = pc x := by
    rw [show (63 : Nat) = 2 ^ 6 - 1 from rfl, Nat.and_two_pow_sub_one_eq_mod, ep]
    exact by_5 w1 w2 w3 w4 e4 hp
  have hy2 : y < 2 ^ 32 := by omega
  have hz2 : z < 2 ^ 32 := by omega
  have hs2 : s < 2 ^ 32 := by omega
  have hp2 : p < 2 ^ 32 := by omega
  have r1 : x >>> 1 = x / 2 := by rw [Nat.shiftRight_eq_div_pow]
  have r2 : y >>> 2 = y / 4 := by rw [Nat.shiftRight_eq_div_pow]
  have r3 : z >>> 4 = z / 16 := by rw [Nat.shiftRight_eq_div_pow]
  have r4 : s >>> 8 = s / 256 := by rw [Nat.shiftRight_eq_div_pow]
  have r5 : p >>> 16 = p / 65536 := by rw [Nat.shiftRight_eq_div_pow]
  unfold fA_Integer_bitCount
  simp only [bv_eq, nl]
  rw [n_ushr hx (by omega), r1, n_and, nI_sub le1, ← hy, n_ushr hy2 (by omega), r2, n_and, n_and, nI_add, ← hz, n_ushr hz2 (by omega), r3, nI_add, n_and, ← hs, n_ushr hs2 (by omega), r4, nI_add, ← hp, n_ushr hp2 (by omega), r5, nI_add, n_and, e5]

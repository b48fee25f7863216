/-! THE CALLS: couple -/
theorem HH.cg {p : Pl} {a : Nat} {H H' : Nat → Nat → Nat → Bool} {g : G} (h : HH p a H g) (e : ∀ t y x, H t y x = H' t y x) : HH p a H' g := by
  intro t y ht hy
  rw [h t y ht hy]
  congr 1
  exact mk_cong (fun x _ => e t y x)
theorem take2 {p : Pl} {f : Fl} {g : G} (hl : pP p ≤ 4 ∧ pK p ≤ 8) (hF : FA p f 2700 27 g) : Sat (fA_Fleet_take_2 g) (fun g' => Fr [13300] [134, 135, 136] w0 g g' ∧ FA p f 13300 133 g') := by
  unfold fA_Fleet_take_2
  simp only [nl]
  rw [bv_eq, cp_nI (by omega) (by omega) (by decide) (by decide), bv_eq, cp_nI (by omega) (by omega) (by decide) (by decide), bv_eq, cp_nI (by omega) (by omega) (by decide) (by decide), bv_eq, nI_clamp (by decide), nI_clamp (by decide), nI_clamp (by decide)]
  refine Sat.of ⟨(((Fr.rf.sS (by simp)).sC (by simp)).sC (by simp)).sC (by simp), hF.1, fun q hq => ?_, fun c hc => ⟨?_, ?_⟩⟩
  · show va_cpy (g.2.1 28) (g.2.1 134) 0 0 4 q = _
    rw [cpy0 (by omega)]
    exact hF.2.1 q hq
  · show va_cpy (g.2.1 29) (g.2.1 135) 0 0 8 c = _
    rw [cpy0 (by omega)]
    exact (hF.2.2 c hc).1
  · show va_cpy (g.2.1 30) (g.2.1 136) 0 0 8 c = _
    rw [cpy0 (by omega)]
    exact (hF.2.2 c hc).2
/-- a trial begins -/
theorem trialA {p : Pl} {f : Fl} {g : G} (hl : pP p ≤ 4 ∧ pK p ≤ 8) (hF : FA p f 2700 27 g) : Sat (fA_Trial_start g) (fun g' => Fr [13200, 13201, 13202, 13300] [134, 135, 136] w1 g g' ∧ FA p f 13300 133 g' ∧ g'.1 13200 = m1 ∧ g'.1 13201 = m1 ∧ g'.1 13202 = m1 ∧ g'.2.2.2.1 0 = FP.fconst0) := by
  unfold fA_Trial_start
  rw [bv_eq, bv_eq, bv_eq, bv_eq]
  have F1 : Fr [13200, 13201, 13202, 13300] [134, 135, 136] w1 g (sF (sS (sS (sS g 13200 (-1)) 13201 (-1)) 13202 (-1)) 0 FP.fconst0) := (((Fr.rf.sS (by simp)).sS (by simp)).sS (by simp)).sF rfl
  refine (take2 hl (hF.fr F1 (by simp) (by simp))).bind ?_
  rintro g2 ⟨F2, k2⟩
  refine Sat.of ⟨F1.tr F2 (by simp) (by simp) (by simp), k2, ?_, ?_, ?_, ?_⟩
  · rw [F2.1 13200 (by simp)]; rfl
  · rw [F2.1 13201 (by simp)]; rfl
  · rw [F2.1 13202 (by simp)]; rfl
  · rw [F2.2.2.2.1 rfl]; rfl
/-- without two -/
def w2 (p : Pl) (f : Fl) (a b : Nat) : Nat := mk (fun i => if i = b then false else if i = a then false else (us p f).testBit i) 8
theorem w2_lt (p : Pl) (f : Fl) (a b : Nat) : w2 p f a b < 256 := mk_lt _ 8
theorem w2A {p : Pl} {f : Fl} {a b : Nat} (ha : a < 8) (hb : b < 8) : nI (us p f) &&& ((((1 : Int32) <<< (nI a &&& 31)) ||| ((1 : Int32) <<< (nI b &&& 31))) ^^^ (-1)) = nI (w2 p f a b) := by
  have ul := us_lt p f
  have e1 : ((1 : Int32) <<< (nI a &&& 31)) ||| ((1 : Int32) <<< (nI b &&& 31)) = nI (1 <<< a ||| 1 <<< b) := by
    simp only [nl]
    rw [n_31 (by omega), n_31 (by omega), n_shl _ (by omega), n_shl _ (by omega), n_or]
  rw [e1]
  apply bit_ext
  intro i hi
  have hm1 : (-1 : Int32).toBitVec.getLsbD i = true := (by decide +kernel : ∀ i, i < 32 → (-1 : Int32).toBitVec.getLsbD i = true) i hi
  rw [Int32.toBitVec_and, Int32.toBitVec_xor, BitVec.getLsbD_and, BitVec.getLsbD_xor, nI_bit, nI_bit, nI_bit, hm1, Nat.testBit_or, one_bit (by omega), one_bit (by omega)]
  unfold w2
  rw [mk_bit]
  by_cases e8 : i < 8
  · by_cases eb : i = b
    · subst eb; simp [hi]
    · by_cases ea : i = a
      · subst ea; simp [hi]
      · simp [hi, ea, eb, e8]
  · rw [bit_hi (n := 8) ul (by omega)]
    simp [e8]
theorem w2B {p : Pl} {f : Fl} {a b : Nat} (ha : a < 8) (hb : b < 8) : (nI (us p f) &&& (((1 : Int32) <<< (nI a &&& 31)) ^^^ (-1))) &&& (((1 : Int32) <<< (nI b &&& 31)) ^^^ (-1)) = nI (w2 p f a b) := by
  have ul := us_lt p f
  have e : nI (us p f) = nI (mk (us p f).testBit 8) := by rw [mk_self (n := 8) ul]
  rw [e, mk_clr ha (by decide), mk_clr hb (by decide)]
  rfl
/-- the worst two so far -/
def vp (p : Pl) (f : Fl) (k : Nat) : Prop := k / 8 < k % 8 ∧ k % 8 < pK p ∧ fup f (k / 8) = 1 ∧ fup f (k % 8) = 1
def gp (p : Pl) (f : Fl) (k : Nat) : Nat := ww p (sx2 p f (w2 p f (k / 8) (k % 8)))
def WS (p : Pl) (f : Fl) : Nat → Int32 × Int32 × Int32
  | 0 => (m1, m1, m1)
  | k + 1 => if k / 8 < k % 8 ∧ k % 8 < pK p ∧ fup f (k / 8) = 1 ∧ fup f (k % 8) = 1 ∧ (WS p f k).2.2 < nI (gp p f k) then (nI (k / 8), nI (k % 8), nI (gp p f k)) else WS p f k
theorem WS_inv {p : Pl} (hw : WP p) (f : Fl) : ∀ k, k ≤ 64 → (WS p f k = (m1, m1, m1)) ∨ ∃ a b v, a < 8 ∧ v ≤ 240 ∧ WS p f k = (nI a, nI b, nI v)
  | 0, _ => Or.inl rfl
  | k + 1, hk => by
    have h1 := hw.c
    have ih := WS_inv hw f k (by omega)
    have e : WS p f (k + 1) = if k / 8 < k % 8 ∧ k % 8 < pK p ∧ fup f (k / 8) = 1 ∧ fup f (k % 8) = 1 ∧ (WS p f k).2.2 < nI (gp p f k) then (nI (k / 8), nI (k % 8), nI (gp p f k)) else WS p f k := rfl
    rw [e]
    by_cases c : k / 8 < k % 8 ∧ k % 8 < pK p ∧ fup f (k / 8) = 1 ∧ fup f (k % 8) = 1 ∧ (WS p f k).2.2 < nI (gp p f k)
    · rw [if_pos c]
      exact Or.inr ⟨k / 8, k % 8, gp p f k, by omega, Nat.le_trans (ww_le p _) (by omega), rfl⟩
    · rw [if_neg c]
      exact ih
theorem WS_same {p : Pl} {f : Fl} {k : Nat} (h : ¬ (k / 8 < k % 8 ∧ k % 8 < pK p)) : WS p f (k + 1) = WS p f k := by
  have e : WS p f (k + 1) = if k / 8 < k % 8 ∧ k % 8 < pK p ∧ fup f (k / 8) = 1 ∧ fup f (k % 8) = 1 ∧ (WS p f k).2.2 < nI (gp p f k) then (nI (k / 8), nI (k % 8), nI (gp p f k)) else WS p f k := rfl
  rw [e, if_neg (fun z => h ⟨z.1, z.2.1⟩)]
theorem WS_run {p : Pl} {f : Fl} {k : Nat} : ∀ n, (∀ j, j < n → ¬ ((k + j) / 8 < (k + j) % 8 ∧ (k + j) % 8 < pK p)) → WS p f (k + n) = WS p f k
  | 0, _ => rfl
  | n + 1, h => by
    rw [show k + (n + 1) = (k + n) + 1 by omega, WS_same (h n (by omega)), WS_run n (fun j hj => h j (by omega))]
theorem WS_first {p : Pl} {f : Fl} {a : Nat} (ha : a < 8) : WS p f (a * 8 + (a + 1)) = WS p f (a * 8) := WS_run (a + 1) (fun j hj => by omega)
theorem WS_last {p : Pl} {f : Fl} {a b : Nat} (ha : a < 8) (hb : pK p ≤ b) (hb8 : b ≤ 8) : WS p f ((a + 1) * 8) = WS p f (a * 8 + b) := by
  rw [show (a + 1) * 8 = a * 8 + b + (8 - b) by omega]
  exact WS_run (8 - b) (fun j hj => by omega)
theorem WS_step {p : Pl} {f : Fl} {a b : Nat} (hab : a < b) (hb : b < pK p) (hK : pK p ≤ 8) : WS p f (a * 8 + (b + 1)) = if fup f a = 1 ∧ fup f b = 1 ∧ (WS p f (a * 8 + b)).2.2 < nI (gp p f (a * 8 + b)) then (nI a, nI b, nI (gp p f (a * 8 + b))) else WS p f (a * 8 + b) := by
  have e : WS p f (a * 8 + b + 1) = if (a * 8 + b) / 8 < (a * 8 + b) % 8 ∧ (a * 8 + b) % 8 < pK p ∧ fup f ((a * 8 + b) / 8) = 1 ∧ fup f ((a * 8 + b) % 8) = 1 ∧ (WS p f (a * 8 + b)).2.2 < nI (gp p f (a * 8 + b)) then (nI ((a * 8 + b) / 8), nI ((a * 8 + b) % 8), nI (gp p f (a * 8 + b))) else WS p f (a * 8 + b) := rfl
  rw [show a * 8 + (b + 1) = a * 8 + b + 1 by omega, e, show (a * 8 + b) / 8 = a by omega, show (a * 8 + b) % 8 = b by omega]
  by_cases c : fup f a = 1 ∧ fup f b = 1 ∧ (WS p f (a * 8 + b)).2.2 < nI (gp p f (a * 8 + b))
  · rw [if_pos c, if_pos ⟨hab, hb, c⟩]
  · rw [if_neg c, if_neg (fun z => c z.2.2)]
theorem gp_at {p : Pl} {f : Fl} {a b : Nat} (hb : b < 8) : gp p f (a * 8 + b) = ww p (sx2 p f (w2 p f a b)) := by
  unfold gp
  rw [show (a * 8 + b) / 8 = a by omega, show (a * 8 + b) % 8 = b by omega]

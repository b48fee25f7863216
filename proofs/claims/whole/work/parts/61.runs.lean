/-! RUNS: along the cycle, in the class -/
theorem z0 : bI false = nI 0 := rfl
theorem z1 : ¬ bI true = nI 0 := by decide
theorem ite_eqn {α : Type} {a b : Nat} (ha : a < 2 ^ 31) (hb : b < 2 ^ 31) {x y : α} : (if nI a = nI b then x else y) = if a = b then x else y := by
  by_cases h : a = b
  · rw [if_pos (by rw [h]), if_pos h]
  · rw [if_neg (fun e => h ((nI_eq ha hb).mp e)), if_neg h]
theorem ite_ltn {α : Type} {a b : Nat} (ha : a < 2 ^ 31) (hb : b < 2 ^ 31) {x y : α} : (if nI a < nI b then x else y) = if a < b then x else y := by
  by_cases h : a < b
  · rw [if_pos (nI_lt h hb), if_pos h]
  · rw [if_neg (nI_nlt (by omega) ha), if_neg h]
theorem ite_len {α : Type} {a b : Nat} (ha : a < 2 ^ 31) (hb : b < 2 ^ 31) {x y : α} : (if nI a ≤ nI b then x else y) = if a ≤ b then x else y := by
  by_cases h : a ≤ b
  · rw [if_pos (nI_le h hb), if_pos h]
  · rw [if_neg (nI_ge (by omega) ha), if_neg h]
/-- the first, n where there is none -/
def fi (q : Nat → Bool) : Nat → Nat
  | 0 => 0
  | n + 1 => if fi q n < n then fi q n else if q n then n else n + 1
theorem fi_all (q : Nat → Bool) : ∀ n, fi q n ≤ n ∧ (∀ k, k < fi q n → q k = false) ∧ (fi q n < n → q (fi q n) = true)
  | 0 => ⟨Nat.le_refl _, fun k h => absurd h (Nat.not_lt_zero k), fun h => absurd h (Nat.not_lt_zero _)⟩
  | n + 1 => by
    obtain ⟨h1, h2, h3⟩ := fi_all q n
    have e : fi q (n + 1) = if fi q n < n then fi q n else if q n then n else n + 1 := rfl
    rw [e]
    by_cases l : fi q n < n
    · rw [if_pos l]
      exact ⟨by omega, h2, fun _ => h3 l⟩
    · rw [if_neg l]
      have l2 : fi q n = n := by omega
      rw [l2] at h2
      cases hq : q n
      · rw [if_neg (by decide)]
        refine ⟨Nat.le_refl _, fun k hk => ?_, fun h => absurd h (Nat.lt_irrefl _)⟩
        by_cases ek : k = n
        · rw [ek, hq]
        · exact h2 k (by omega)
      · rw [if_pos rfl]
        exact ⟨by omega, h2, fun _ => hq⟩
theorem fi_eq {q : Nat → Bool} {n k : Nat} (h1 : k ≤ n) (h2 : ∀ j, j < k → q j = false) (h3 : k < n → q k = true) : fi q n = k := by
  obtain ⟨a1, a2, a3⟩ := fi_all q n
  rcases Nat.lt_trichotomy (fi q n) k with l | l | l
  · have := h2 _ l
    rw [a3 (by omega)] at this
    exact absurd this (by decide)
  · exact l
  · have := a2 _ l
    rw [h3 (by omega)] at this
    exact absurd this (by decide)
/-- how long a run lasts, and whether one begins -/
def ln (b : Nat → Bool) (Y t : Nat) : Nat := fi (fun n => !b (t + n)) Y
def bg (b : Nat → Bool) (Y t : Nat) : Bool := b t && (!b (t + Y - 1) || (decide (t = 0) && decide (ln b Y 0 = Y)))
theorem ln_le (b : Nat → Bool) (Y t : Nat) : ln b Y t ≤ Y := (fi_all _ Y).1
/-- the strip's marks -/
def SM (p : Pl) (b : Nat → Nat → Bool) (g : G) : Prop := g.1 13003 = nI (pY p) ∧ ∀ t, t < pY p → g.2.1 131 t = nI (mk (fun i => b i t) 9)
def Per (Y : Nat) (b : Nat → Bool) : Prop := ∀ t, b (t % Y) = b t
theorem Per.prev {Y : Nat} {b : Nat → Bool} (h : Per Y b) {t : Nat} (ht : t < Y) : b (t + Y - 1) = b (if t = 0 then Y - 1 else t - 1) := by
  rw [← h (t + Y - 1)]
  by_cases e : t = 0
  · subst e
    rw [if_pos rfl, Nat.zero_add, Nat.mod_eq_of_lt (by omega)]
  · rw [if_neg e, show t + Y - 1 = (t - 1) + Y by omega, Nat.add_mod_right, Nat.mod_eq_of_lt (by omega)]
theorem isOfA {p : Pl} (h : WP p) {b : Nat → Nat → Bool} {g : G} (hS : SM p b g) {i t : Nat} (hi : i < 9) (ht : t < pY p) : fA_Strip_isOf (nI i) (nI t) g = some (bI (b i t)) := by
  have h1 := h.c
  unfold fA_Strip_isOf
  rw [ag_nI (by omega) (by decide), hS.2 t ht]
  simp only [nl]
  rw [n_31 (k := i) (by omega), n_shr (mk_lt31 (by decide)) (by omega), n_and, n_bit, mk_bit]
  simp only [hi, decide_true, Bool.true_and]
  cases b i t <;> rfl
theorem lengthA {p : Pl} (h : WP p) {b : Nat → Nat → Bool} {g : G} (hS : SM p b g) {i t : Nat} (hp : Per (pY p) (b i)) (hi : i < 9) (ht : t < 2 ^ 20) : fA_Strip_lengthFrom (nI i) (nI t) g = some (nI (ln (b i) (pY p) t)) := by
  have h1 := h.c
  apply Sat.eq
  unfold fA_Strip_lengthFrom
  refine Sat.lp (fun n s => s = nI n ∧ ∀ m, m < n → b i (t + m) = true) (pY p) (by omega) ⟨rfl, fun m hm => by omega⟩ ?_ ?_
  · rintro rec n _ hn ⟨rfl, hm⟩ hrec
    rw [hS.1, if_neg (nI_ge hn (by omega)), nI_add, restA (by omega) (by omega) (by omega), Option.bind_some, isOfA h hS hi (Nat.mod_lt _ (by omega)), Option.bind_some, hp, nl, nl, nI_add]
    cases hb : b i (t + n)
    · rw [if_pos z0]
      refine Sat.of ?_
      rw [show ln (b i) (pY p) t = n from fi_eq (by omega) (fun j hj => by rw [hm j hj]; rfl) (fun _ => by rw [hb]; rfl)]
    · rw [if_neg (by decide)]
      refine hrec _ ⟨rfl, fun m hl => ?_⟩
      by_cases e : m = n
      · rw [e, hb]
      · exact hm m (by omega)
  · rintro rec _ ⟨rfl, hm⟩
    rw [hS.1, if_pos (nI_le (Nat.le_refl _) (by omega))]
    refine Sat.of ?_
    rw [show ln (b i) (pY p) t = pY p from fi_eq (by omega) (fun j hj => by rw [hm j hj]; rfl) (fun h => absurd h (Nat.lt_irrefl _))]
theorem beginsA {p : Pl} (h : WP p) {b : Nat → Nat → Bool} {g : G} (hS : SM p b g) {i t : Nat} (hp : Per (pY p) (b i)) (hi : i < 9) (ht : t < pY p) : fA_Strip_begins (nI i) (nI t) g = some (bI (bg (b i) (pY p) t)) := by
  have h1 := h.c
  have l1 := ln_le (b i) (pY p) 0
  unfold fA_Strip_begins bg
  rw [isOfA h hS hi ht, Option.bind_some, hp.prev ht]
  simp only [nl]
  cases b i t
  · rfl
  · rw [if_neg (by decide), lj_eq]
    have key : ∀ u, u < pY p → (Option.bind (fA_Strip_isOf (nI i) (nI u) g) fun x3 => (if x3 = nI 0 then some (nI 1) else (if nI t = nI 0 then Option.bind (fA_Strip_lengthFrom (nI i) (nI 0) g) fun x4 => (if x4 = (g.1 13003) then some (nI 1) else some (nI 0)) else some (nI 0)))) = some (bI (true && (!b i u || (decide (t = 0) && decide (ln (b i) (pY p) 0 = pY p))))) := by
      intro u hu
      rw [isOfA h hS hi hu, Option.bind_some]
      cases b i u
      · rfl
      · rw [if_neg z1, ite_eqn (by omega) (by decide)]
        by_cases e : t = 0
        · rw [if_pos e, lengthA h hS hp hi (by decide), Option.bind_some, hS.1, ite_eqn (by omega) (by omega)]
          by_cases e2 : ln (b i) (pY p) 0 = pY p
          · rw [if_pos e2]
            simp [e, e2]
            rfl
          · rw [if_neg e2]
            simp [e2]
            rfl
        · rw [if_neg e]
          simp [e]
          rfl
    rw [hS.1, ite_eqn (a := t) (b := 0) (x := (_ : Option Int32)) (by omega) (by decide)]
    by_cases e : t = 0
    · rw [if_pos e, if_pos e, nI_sub (by omega)]
      have := key (pY p - 1) (by omega)
      rw [hS.1] at this
      exact this
    · rw [if_neg e, if_neg e, nI_sub (by omega)]
      have := key (t - 1) (by omega)
      rw [hS.1] at this
      exact this
/-- the runs of some kinds, in order -/
def rn (k : Nat) (b : Nat → Nat → Bool) (Y q : Nat) : Bool := k.testBit (q % 9) && bg (b (q % 9)) Y (q / 9)
theorem rn_at {k : Nat} {b : Nat → Nat → Bool} {Y t i : Nat} (hi : i < 9) : rn k b Y (t * 9 + i) = (k.testBit i && bg (b i) Y t) := by
  unfold rn
  rw [show (t * 9 + i) % 9 = i by omega, show (t * 9 + i) / 9 = t by omega]
theorem countRunsA {p : Pl} (h : WP p) {b : Nat → Nat → Bool} {g : G} (hS : SM p b g) (hp : ∀ i, Per (pY p) (b i)) {k : Nat} (hk : k < 512) : fA_Strip_countRuns (nI k) g = some (nI (cn (rn k b (pY p)) (pY p * 9))) := by
  have h1 := h.c
  apply Sat.eq
  unfold fA_Strip_countRuns
  refine Sat.lp (fun t s => s = (nI (cn (rn k b (pY p)) (t * 9)), nI t)) (pY p) (by omega) rfl ?_ ?_
  · rintro rec t _ ht rfl hrec
    simp only []
    rw [hS.1, if_neg (nI_ge ht (by omega))]
    refine Sat.lp (fun i s => s = (nI (cn (rn k b (pY p)) (t * 9 + i)), nI i)) 9 (by omega) rfl ?_ ?_
    · rintro rec2 i _ hi rfl hrec2
      have e := rn_at (k := k) (b := b) (Y := pY p) (t := t) hi
      simp only []
      simp only [nl]
      rw [if_neg (nI_nlt (show i ≤ 8 by omega) (by decide)), lj_eq, n_31 (k := i) (by omega), n_shr (by omega) (by omega), n_and, nI_add]
      cases hb : k.testBit i
      · rw [if_pos (by rw [n_bit, hb]; rfl)]
        rw [hb, Bool.false_and] at e
        refine hrec2 _ ?_
        rw [show t * 9 + (i + 1) = t * 9 + i + 1 by omega, cn_f e]
      · rw [if_neg (by rw [n_bit, hb]; decide), beginsA h hS (hp i) hi ht, Option.bind_some, nI_add]
        rw [hb, Bool.true_and] at e
        cases hg : bg (b i) (pY p) t
        · rw [if_pos z0]
          refine hrec2 _ ?_
          rw [show t * 9 + (i + 1) = t * 9 + i + 1 by omega, cn_f (by rw [e, hg])]
        · rw [if_neg (by decide)]
          refine hrec2 _ ?_
          rw [show t * 9 + (i + 1) = t * 9 + i + 1 by omega, cn_t (by rw [e, hg])]
    · rintro rec2 _ rfl
      simp only []
      rw [nl, if_pos (nI_lt (by decide) (by decide)), nl, nI_add]
      refine hrec _ ?_
      rw [show (t + 1) * 9 = t * 9 + 9 by omega]
  · rintro rec _ rfl
    simp only []
    rw [hS.1, if_pos (nI_le (Nat.le_refl _) (by omega))]
    exact Sat.of rfl
theorem n_neg {x : Int32} (h : x < 0) : x < nI 0 := h
theorem findRun0 {p : Pl} (h : WP p) {b : Nat → Nat → Bool} {g : G} (hS : SM p b g) (k : Nat) {x : Int32} (hx : x < 0) : fA_Strip_findRun (nI k) x g = some (0, g) := by
  have h1 := h.c
  unfold fA_Strip_findRun
  show (Lp _ (999999 + 1) _) = _
  rw [Sat_lp_same]
  simp only []
  rw [hS.1, nl, if_neg (nI_ge (by omega) (by omega)), if_pos (n_neg hx)]
theorem findRunA {p : Pl} (h : WP p) {b : Nat → Nat → Bool} {g : G} (hS : SM p b g) (hp : ∀ i, Per (pY p) (b i)) {k n : Nat} (hk : k < 512) (hn : n < 2 ^ 31) :
    (∀ q, q < pY p * 9 → rn k b (pY p) q = true → cn (rn k b (pY p)) q = n → fA_Strip_findRun (nI k) (nI n) g = some (1, sS (sS (sS g 13000 (nI (q / 9))) 13001 (nI (ln (b (q % 9)) (pY p) (q / 9)))) 13002 (nI (q % 9)))) ∧
    (cn (rn k b (pY p)) (pY p * 9) ≤ n → fA_Strip_findRun (nI k) (nI n) g = some (0, g)) := by
  have h1 := h.c
  obtain ⟨R, hR⟩ : ∃ R : Int32 × G → Prop, R = fun r => (∃ q, q < pY p * 9 ∧ rn k b (pY p) q = true ∧ cn (rn k b (pY p)) q = n ∧ r = (1, sS (sS (sS g 13000 (nI (q / 9))) 13001 (nI (ln (b (q % 9)) (pY p) (q / 9)))) 13002 (nI (q % 9)))) ∨ (cn (rn k b (pY p)) (pY p * 9) ≤ n ∧ r = (0, g)) := ⟨_, rfl⟩
  have main : Sat (fA_Strip_findRun (nI k) (nI n) g) R := by
    unfold fA_Strip_findRun
    refine Sat.lp (fun t s => cn (rn k b (pY p)) (t * 9) ≤ n ∧ s = (nI (n - cn (rn k b (pY p)) (t * 9)), nI t)) (pY p) (by omega) ⟨Nat.zero_le _, rfl⟩ ?_ ?_
    · rintro rec t _ ht ⟨hl, rfl⟩ hrec
      simp only []
      rw [hS.1, if_neg (nI_ge ht (by omega)), if_neg (nI_pos (by omega))]
      refine Sat.lp (fun i s => cn (rn k b (pY p)) (t * 9 + i) ≤ n ∧ s = (nI (n - cn (rn k b (pY p)) (t * 9 + i)), nI i)) 9 (by omega) ⟨hl, rfl⟩ ?_ ?_
      · rintro rec2 i _ hi ⟨hl2, rfl⟩ hrec2
        have e := rn_at (k := k) (b := b) (Y := pY p) (t := t) hi
        simp only []
        simp only [nl]
        rw [if_neg (nI_nlt (show i ≤ 8 by omega) (by decide)), lj_eq, n_31 (k := i) (by omega), n_shr (by omega) (by omega), n_and, nI_add]
        cases hb : k.testBit i
        · rw [if_pos (by rw [n_bit, hb]; rfl)]
          rw [hb, Bool.false_and] at e
          refine hrec2 _ ?_
          rw [show t * 9 + (i + 1) = t * 9 + i + 1 by omega, cn_f e]
          exact ⟨hl2, rfl⟩
        · rw [if_neg (by rw [n_bit, hb]; decide), beginsA h hS (hp i) hi ht, Option.bind_some]
          rw [hb, Bool.true_and] at e
          cases hg : bg (b i) (pY p) t
          · rw [if_pos z0]
            refine hrec2 _ ?_
            rw [show t * 9 + (i + 1) = t * 9 + i + 1 by omega, cn_f (by rw [e, hg])]
            exact ⟨hl2, rfl⟩
          · rw [if_neg z1, ite_eqn (by omega) (by decide)]
            by_cases z : n - cn (rn k b (pY p)) (t * 9 + i) = 0
            · have hS2 : SM p b (sS g 13000 (nI t)) := hS
              rw [if_pos z, bv_eq, lengthA h hS2 (hp i) hi (by omega), Option.bind_some, bv_eq, bv_eq]
              refine Sat.of ?_
              rw [hR]
              refine Or.inl ⟨t * 9 + i, by omega, by rw [e, hg], by omega, ?_⟩
              rw [show (t * 9 + i) % 9 = i by omega, show (t * 9 + i) / 9 = t by omega]
              rfl
            · rw [if_neg z, n_m1 (by omega)]
              refine hrec2 _ ?_
              rw [show t * 9 + (i + 1) = t * 9 + i + 1 by omega, cn_t (by rw [e, hg])]
              exact ⟨by omega, by rw [Nat.sub_sub]⟩
      · rintro rec2 _ ⟨hl2, rfl⟩
        simp only []
        rw [nl, if_pos (nI_lt (by decide) (by decide)), nl, nI_add]
        refine hrec _ ?_
        rw [show (t + 1) * 9 = t * 9 + 9 by omega]
        exact ⟨hl2, rfl⟩
    · rintro rec _ ⟨hl, rfl⟩
      simp only []
      rw [hS.1, if_pos (nI_le (Nat.le_refl _) (by omega))]
      refine Sat.of ?_
      rw [hR]
      exact Or.inr ⟨hl, rfl⟩
  obtain ⟨r, er, hr⟩ := main
  rw [hR] at hr
  constructor
  · intro q hq h2 h3
    rcases hr with ⟨q2, a1, a2, a3, rfl⟩ | ⟨a1, rfl⟩
    · have e : q2 = q := by
        rcases Nat.lt_trichotomy q q2 with l | l | l
        · have m := cn_mono (rn k b (pY p)) (show q + 1 ≤ q2 by omega)
          rw [cn_t h2] at m
          omega
        · exact l.symm
        · have m := cn_mono (rn k b (pY p)) (show q2 + 1 ≤ q by omega)
          rw [cn_t a2] at m
          omega
      rw [er, e]
    · have m := cn_mono (rn k b (pY p)) (show q + 1 ≤ pY p * 9 by omega)
      rw [cn_t h2] at m
      omega
  · intro hl
    rcases hr with ⟨q2, a1, a2, a3, rfl⟩ | ⟨a1, rfl⟩
    · have m := cn_mono (rn k b (pY p)) (show q2 + 1 ≤ pY p * 9 by omega)
      rw [cn_t a2] at m
      omega
    · exact er
/-- the longest run -/
def mg (b : Nat → Bool) (Y : Nat) : Nat → Nat
  | 0 => 0
  | n + 1 => if bg b Y n then (if mg b Y n < ln b Y n then ln b Y n else mg b Y n) else mg b Y n
theorem mg_le (b : Nat → Bool) (Y : Nat) : ∀ n, mg b Y n ≤ Y
  | 0 => Nat.zero_le _
  | n + 1 => by
    have ih := mg_le b Y n
    have := ln_le b Y n
    unfold mg
    split
    · split <;> omega
    · omega
theorem longestGapA {p : Pl} (h : WP p) {b : Nat → Nat → Bool} {g : G} (hS : SM p b g) (hp : ∀ i, Per (pY p) (b i)) : fA_Strip_longestGap g = some (nI (mg (b 8) (pY p) (pY p))) := by
  have h1 := h.c
  apply Sat.eq
  unfold fA_Strip_longestGap
  refine Sat.lp (fun t s => s = (nI (mg (b 8) (pY p) t), nI t)) (pY p) (by omega) rfl ?_ ?_
  · rintro rec t _ ht rfl hrec
    have l1 := ln_le (b 8) (pY p) t
    have l2 := mg_le (b 8) (pY p) t
    have e : mg (b 8) (pY p) (t + 1) = if bg (b 8) (pY p) t then (if mg (b 8) (pY p) t < ln (b 8) (pY p) t then ln (b 8) (pY p) t else mg (b 8) (pY p) t) else mg (b 8) (pY p) t := rfl
    simp only []
    simp only [nl]
    rw [hS.1, if_neg (nI_ge ht (by omega)), beginsA h hS (hp 8) (by decide) ht, Option.bind_some, lj_eq, nI_add]
    cases hg : bg (b 8) (pY p) t
    · rw [if_pos z0]
      rw [hg, if_neg (by decide)] at e
      exact hrec _ (by rw [e])
    · rw [if_neg (by decide), lengthA h hS (hp 8) (by decide) (by omega), Option.bind_some, bv_eq]
      rw [hg, if_pos rfl] at e
      refine hrec _ ?_
      rw [e]
      by_cases l : mg (b 8) (pY p) t < ln (b 8) (pY p) t
      · rw [if_pos (nI_lt l (by omega)), if_pos l]
      · rw [if_neg (nI_nlt (by omega) (by omega)), if_neg l]
  · rintro rec _ rfl
    simp only []
    rw [hS.1, if_pos (nI_le (Nat.le_refl _) (by omega))]
    exact Sat.of rfl
theorem unseenA {p : Pl} (h : WP p) {b : Nat → Nat → Bool} {g : G} (hS : SM p b g) : fA_Strip_unseenTicks g = some (nI (cn (b 8) (pY p))) := by
  have h1 := h.c
  apply Sat.eq
  unfold fA_Strip_unseenTicks
  refine Sat.lp (fun t s => s = (nI (cn (b 8) t), nI t)) (pY p) (by omega) rfl ?_ ?_
  · rintro rec t _ ht rfl hrec
    simp only []
    simp only [nl]
    rw [hS.1, if_neg (nI_ge ht (by omega)), isOfA h hS (by decide) ht, Option.bind_some, lj_eq]
    cases hg : b 8 t
    · rw [if_pos z0]
      dsimp only
      rw [bv_eq, nI_add, nI_add]
      exact hrec _ (by rw [cn_f hg, Nat.add_zero])
    · rw [if_neg z1]
      dsimp only
      rw [bv_eq, nI_add, nI_add]
      exact hrec _ (by rw [cn_t hg])
  · rintro rec _ rfl
    simp only []
    rw [hS.1, if_pos (nI_le (Nat.le_refl _) (by omega))]
    exact Sat.of rfl
theorem untilA {p : Pl} (h : WP p) {b : Nat → Nat → Bool} {g : G} (hS : SM p b g) (hp : ∀ i, Per (pY p) (b i)) {t : Nat} (ht : t < 2 ^ 20) : fA_Strip_ticksUntilSeen (nI t) g = some (if fi (fun n => !b 8 (t + n)) (pY p) < pY p then nI (fi (fun n => !b 8 (t + n)) (pY p)) else m1) := by
  have h1 := h.c
  apply Sat.eq
  unfold fA_Strip_ticksUntilSeen
  refine Sat.lp (fun n s => s = nI n ∧ ∀ m, m < n → b 8 (t + m) = true) (pY p) (by omega) ⟨rfl, fun m hm => by omega⟩ ?_ ?_
  · rintro rec n _ hn ⟨rfl, hm⟩ hrec
    simp only [nl]
    rw [hS.1, if_neg (nI_ge hn (by omega)), nI_add, restA (by omega) (by omega) (by omega), Option.bind_some, isOfA h hS (by decide) (Nat.mod_lt _ (by omega)), Option.bind_some, hp, nI_add]
    cases hb : b 8 (t + n)
    · rw [if_pos z0]
      refine Sat.of ?_
      rw [show fi (fun n => !b 8 (t + n)) (pY p) = n from fi_eq (by omega) (fun j hj => by rw [hm j hj]; rfl) (fun _ => by rw [hb]; rfl), if_pos hn]
    · rw [if_neg (by decide)]
      refine hrec _ ⟨rfl, fun m hl => ?_⟩
      by_cases e : m = n
      · rw [e, hb]
      · exact hm m (by omega)
  · rintro rec _ ⟨rfl, hm⟩
    rw [hS.1, if_pos (nI_le (Nat.le_refl _) (by omega))]
    refine Sat.of ?_
    rw [show fi (fun n => !b 8 (t + n)) (pY p) = pY p from fi_eq (by omega) (fun j hj => by rw [hm j hj]; rfl) (fun h => absurd h (Nat.lt_irrefl _)), if_neg (Nat.lt_irrefl _)]
    rfl
/-- the kinds of a cell's ticks -/
def kd (p : Pl) (f : Fl) (s x y i t : Nat) : Bool := if i = 8 then !sb p f s t x y else (who p f t x y &&& s).testBit i
theorem kd_per {p : Pl} (h : WP p) (f : Fl) (s x y i : Nat) : Per (pY p) (kd p f s x y i) := by
  intro t
  unfold kd
  rw [sb_per h, who_per h]
theorem ws_lt (p : Pl) (f : Fl) (s t x y : Nat) : who p f t x y &&& s < 256 := Nat.lt_of_le_of_lt Nat.and_le_left (who_lt p f t x y)
theorem layA {p : Pl} (h : WP p) {f : Fl} {g : G} (hP : PA p g) (hV : VF p f g) {s x y : Nat} (hx : x < pC p) (hy : y < pR p) : Sat (fA_Strip_lay (nI s) (nI x) (nI y) g) (fun g' => Fr [13003] [131] w0 g g' ∧ SM p (kd p f s x y) g') := by
  have h1 := h.c
  unfold fA_Strip_lay
  rw [hP.1.2.2.2.1, bv_eq]
  refine Sat.lp (fun t s1 => ∃ g', s1 = (nI t, g') ∧ Fr [13003] [131] w0 g g' ∧ g'.1 13003 = nI (pY p) ∧ ∀ t2, t2 < t → g'.2.1 131 t2 = nI (mk (fun i => kd p f s x y i t2) 9)) (pY p) (by omega) ⟨_, rfl, Fr.rf.sS (by simp), rfl, fun t2 hl => by omega⟩ ?_ ?_
  · rintro rec t _ ht ⟨g1, rfl, F1, e1, i1⟩ hrec
    have P1 := hP.fr F1 (by simp) (by simp)
    have V1 := hV.fr F1 (by simp)
    have hw := ws_lt p f s t x y
    simp only []
    simp only [nl]
    rw [e1, if_neg (nI_ge ht (by omega)), whoA h P1 V1 ht hx hy, Option.bind_some, lj_eq, ite_eqn (by omega) (by decide)]
    dsimp only
    rw [ck_nI (by omega) (by decide), ck_nI (by omega) (by decide), nI_clamp (by omega), nI_add]
    have go : ∀ m, m = mk (fun i => kd p f s x y i t) 9 → Sat (bv (sA g1 131 t (nI m)) fun g5 => rec (nI (t + 1), g5)) (fun g' => Fr [13003] [131] w0 g g' ∧ SM p (kd p f s x y) g') := by
      intro m em
      rw [bv_eq]
      refine hrec _ ⟨_, rfl, F1.sA (by simp), e1, fun t2 hl => ?_⟩
      rw [sA_21, if_pos rfl]
      by_cases e : t2 = t
      · subst e
        rw [upd_self, em]
      · rw [upd_ne _ _ e]
        exact i1 t2 (by omega)
    by_cases z : who p f t x y &&& s = 0
    · rw [if_pos z]
      apply go
      apply mk_ext (by decide)
      intro i hi
      unfold kd sb
      rw [z]
      by_cases e : i = 8
      · rw [e]; decide
      · rw [if_neg e, Nat.zero_testBit]
        exact (by decide : ∀ i, i < 9 → i ≠ 8 → (256 : Nat).testBit i = false) i hi e
    · rw [if_neg z]
      apply go
      apply mk_ext (by omega)
      intro i hi
      unfold kd sb
      by_cases e : i = 8
      · rw [if_pos e, e, bit_hi (n := 8) hw (by decide)]
        simp [z]
      · rw [if_neg e]
  · rintro rec _ ⟨g1, rfl, F1, e1, i1⟩
    simp only []
    rw [e1, if_pos (nI_le (Nat.le_refl _) (by omega))]
    exact Sat.of ⟨F1, e1, i1⟩

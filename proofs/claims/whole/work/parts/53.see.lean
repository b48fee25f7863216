/-! THE PLAN, THE FLEET, WHAT IS SEEN -/
abbrev Pl : Type := (Nat → Nat) × (Nat → Nat → Nat)
abbrev Fl : Type := Nat → Nat → Nat
def pC (p : Pl) : Nat := p.1 0
def pR (p : Pl) : Nat := p.1 1
def pD (p : Pl) : Nat := p.1 2
def pY (p : Pl) : Nat := p.1 3
def pP (p : Pl) : Nat := p.1 4
def pK (p : Pl) : Nat := p.1 5
def pS (p : Pl) : Nat := p.1 6
def tl (p : Pl) : Nat → Nat := p.2 0
def tu (p : Pl) : Nat → Nat := p.2 1
def hm (p : Pl) : Nat → Nat := p.2 2
def sx (p : Pl) : Nat → Nat := p.2 3
def sy (p : Pl) : Nat → Nat := p.2 4
def sf (p : Pl) : Nat → Nat := p.2 5
def st (p : Pl) : Nat → Nat := p.2 6
def nm (p : Pl) (w : Nat) : Nat → Nat := p.2 (7 + w)
def fnd (f : Fl) : Nat → Nat := f 0
def fph (f : Fl) : Nat → Nat := f 1
def frc (f : Fl) : Nat → Nat := f 2
def fup (f : Fl) : Nat → Nat := f 3
/-- how far apart -/
def ds (a b : Nat) : Nat := if b ≤ a then a - b else b - a
/-- a row's width -/
def wd (p : Pl) (y : Nat) : Nat := pR p - ds (2 * y) (pR p - 1) / 2
def sm (f : Nat → Nat) : Nat → Nat
  | 0 => 0
  | n + 1 => sm f n + f n
/-- all cells by their width -/
def al (p : Pl) : Nat := sm (fun y => pC p * wd p y) (pR p)
/-- a plan that stands -/
def WP (p : Pl) : Prop :=
  (4 ≤ pC p ∧ pC p ≤ 24) ∧ (3 ≤ pR p ∧ pR p ≤ 12) ∧ (2 ≤ pD p ∧ pD p ≤ 96) ∧ (0 < pY p ∧ pY p ≤ 240 ∧ pD p ∣ pY p) ∧ (pP p ≤ 4 ∧ pK p ≤ 8 ∧ pS p ≤ 6) ∧
  (∀ q, q < pP p → tl p q ≤ pR p / 2 ∧ 2 ≤ tu p q ∧ tu p q ≤ 96 ∧ tu p q ∣ pY p) ∧ (∀ c, c < pK p → hm p c < pP p) ∧
  (∀ s, s < pS p → sx p s < pC p ∧ sy p s < pR p ∧ sf p s < st p s ∧ st p s ≤ pD p)
/-- a fleet within a plan -/
def WF (p : Pl) (f : Fl) : Prop := (∀ q, q < pP p → fnd f q < pC p) ∧ ∀ c, c < pK p → fph f c < tu p (hm p c) ∧ frc f c ≤ 12 ∧ fup f c ≤ 1
theorem WP.c {p : Pl} (h : WP p) : 4 ≤ pC p ∧ pC p ≤ 24 ∧ 3 ≤ pR p ∧ pR p ≤ 12 ∧ 2 ≤ pD p ∧ pD p ≤ 96 ∧ 0 < pY p ∧ pY p ≤ 240 ∧ pP p ≤ 4 ∧ pK p ≤ 8 ∧ pS p ≤ 6 :=
  ⟨h.1.1, h.1.2, h.2.1.1, h.2.1.2, h.2.2.1.1, h.2.2.1.2, h.2.2.2.1.1, h.2.2.2.1.2.1, h.2.2.2.2.1.1, h.2.2.2.2.1.2.1, h.2.2.2.2.1.2.2⟩
theorem WP.q {p : Pl} (h : WP p) {q : Nat} (hq : q < pP p) : tl p q ≤ pR p / 2 ∧ 2 ≤ tu p q ∧ tu p q ≤ 96 ∧ tu p q ∣ pY p := h.2.2.2.2.2.1 q hq
theorem WP.h {p : Pl} (h : WP p) {c : Nat} (hc : c < pK p) : hm p c < pP p := h.2.2.2.2.2.2.1 c hc
theorem WP.s {p : Pl} (h : WP p) {s : Nat} (hs : s < pS p) : sx p s < pC p ∧ sy p s < pR p ∧ sf p s < st p s ∧ st p s ≤ pD p := h.2.2.2.2.2.2.2 s hs
theorem WP.d {p : Pl} (h : WP p) : pD p ∣ pY p := h.2.2.2.1.2.2
theorem wd_le (p : Pl) (y : Nat) : wd p y ≤ pR p := Nat.sub_le _ _
/-- where a craft is -/
def gn (p : Pl) (c φ t : Nat) : Nat := (φ + t) % tu p (hm p c)
def vN (p : Pl) (c φ t : Nat) : Nat := 4 * gn p c φ t * tl p (hm p c) / tu p (hm p c)
def ab (p : Pl) (c φ t : Nat) : Nat :=
  if vN p c φ t ≤ tl p (hm p c) then pR p / 2 + vN p c φ t else if vN p c φ t ≤ 3 * tl p (hm p c) then pR p / 2 + 2 * tl p (hm p c) - vN p c φ t else pR p / 2 + vN p c φ t - 4 * tl p (hm p c)
def ro (p : Pl) (c φ t : Nat) : Nat := if pR p - 1 < ab p c φ t then pR p - 1 else ab p c φ t
def bh (p : Pl) (t : Nat) : Nat := pC p * (t % pD p) / pD p
def ah (p : Pl) (c φ t : Nat) : Nat := pC p * gn p c φ t / tu p (hm p c)
def co (p : Pl) (c n φ t : Nat) : Nat := (n + ah p c φ t + pC p - bh p t) % pC p
def rd (C d : Nat) : Nat := if C - d < d then C - d else d
def rch (p : Pl) (col row r x y : Nat) : Bool :=
  decide (rd (pC p) (ds col x) * wd p y * (rd (pC p) (ds col x) * wd p y) + ds row y * pR p * (ds row y * pR p) ≤ r * pR p * (r * pR p))
def see (p : Pl) (f : Fl) (c t x y : Nat) : Bool := rch p (co p c (fnd f (hm p c)) (fph f c) t) (ro p c (fph f c) t) (frc f c) x y
def who (p : Pl) (f : Fl) (t x y : Nat) : Nat := mk (fun c => decide (c < pK p) && see p f c t x y) 8
/-- who is up -/
def us (p : Pl) (f : Fl) : Nat := mk (fun c => decide (c < pK p) && decide (fup f c = 1)) 8
theorem gn_lt {p : Pl} (h : WP p) {c : Nat} (hc : c < pK p) (φ t : Nat) : gn p c φ t < tu p (hm p c) := Nat.mod_lt _ (by have := h.q (h.h hc); omega)
theorem vN_le {p : Pl} (h : WP p) {c : Nat} (hc : c < pK p) (φ t : Nat) : vN p c φ t ≤ 4 * tl p (hm p c) ∧ 4 * gn p c φ t * tl p (hm p c) ≤ 2304 := by
  have h1 := gn_lt h hc φ t
  have h2 := h.q (h.h hc)
  have h3 := h.c
  constructor
  · unfold vN
    apply Nat.div_le_of_le_mul
    calc 4 * gn p c φ t * tl p (hm p c) ≤ 4 * tu p (hm p c) * tl p (hm p c) := Nat.mul_le_mul_right _ (by omega)
      _ = tu p (hm p c) * (4 * tl p (hm p c)) := by rw [Nat.mul_comm 4, Nat.mul_assoc]
  · calc 4 * gn p c φ t * tl p (hm p c) ≤ 384 * 6 := Nat.mul_le_mul (by omega) (by omega)
      _ = 2304 := rfl
theorem ab_lt {p : Pl} (h : WP p) {c : Nat} (hc : c < pK p) (φ t : Nat) : ab p c φ t ≤ 12 ∧ (tl p (hm p c) < vN p c φ t → vN p c φ t ≤ 3 * tl p (hm p c) → vN p c φ t ≤ pR p / 2 + 2 * tl p (hm p c)) ∧ (4 * tl p (hm p c) ≤ pR p / 2 + vN p c φ t ∨ vN p c φ t ≤ 3 * tl p (hm p c)) := by
  have h1 := vN_le h hc φ t
  have h2 := h.q (h.h hc)
  have h3 := h.c
  unfold ab
  split
  · omega
  · split <;> omega
theorem ro_lt {p : Pl} (h : WP p) (c φ t : Nat) : ro p c φ t < pR p := by
  have h3 := h.c
  unfold ro
  split <;> omega
theorem bh_lt {p : Pl} (h : WP p) (t : Nat) : bh p t < pC p ∧ pC p * (t % pD p) ≤ 2304 := by
  have h3 := h.c
  have h1 : t % pD p < pD p := Nat.mod_lt _ (by omega)
  constructor
  · unfold bh
    apply Nat.div_lt_of_lt_mul
    rw [Nat.mul_comm (pD p)]
    exact Nat.mul_lt_mul_of_pos_left h1 (by omega)
  · calc pC p * (t % pD p) ≤ 24 * 96 := Nat.mul_le_mul (by omega) (by omega)
      _ = 2304 := rfl
theorem ah_lt {p : Pl} (h : WP p) {c : Nat} (hc : c < pK p) (φ t : Nat) : ah p c φ t < pC p ∧ pC p * gn p c φ t ≤ 2304 := by
  have h3 := h.c
  have h1 := gn_lt h hc φ t
  have h2 := h.q (h.h hc)
  constructor
  · unfold ah
    apply Nat.div_lt_of_lt_mul
    rw [Nat.mul_comm (tu p (hm p c))]
    exact Nat.mul_lt_mul_of_pos_left h1 (by omega)
  · calc pC p * gn p c φ t ≤ 24 * 96 := Nat.mul_le_mul (by omega) (by omega)
      _ = 2304 := rfl
theorem co_lt {p : Pl} (h : WP p) (c n φ t : Nat) : co p c n φ t < pC p := Nat.mod_lt _ (by have := h.c; omega)
theorem rd_le {C d : Nat} (h : d ≤ C) : rd C d ≤ C := by unfold rd; split <;> omega
theorem sq_le {a b n : Nat} (ha : a ≤ n) (hb : b ≤ n) : a * b ≤ n * n := Nat.mul_le_mul ha hb
/-- all comes again with the cycle -/
theorem mod_per {a n Y : Nat} (h : n ∣ Y) (φ : Nat) : (φ + a % Y) % n = (φ + a) % n := by
  rw [Nat.add_mod, Nat.mod_mod_of_dvd a h, ← Nat.add_mod]
theorem gn_per {p : Pl} (h : WP p) {c : Nat} (hc : c < pK p) (φ t : Nat) : gn p c φ (t % pY p) = gn p c φ t := mod_per (h.q (h.h hc)).2.2.2 φ
theorem ro_per {p : Pl} (h : WP p) {c : Nat} (hc : c < pK p) (φ t : Nat) : ro p c φ (t % pY p) = ro p c φ t := by
  unfold ro ab vN
  rw [gn_per h hc]
theorem co_per {p : Pl} (h : WP p) {c : Nat} (hc : c < pK p) (n φ t : Nat) : co p c n φ (t % pY p) = co p c n φ t := by
  unfold co ah bh
  rw [gn_per h hc, Nat.mod_mod_of_dvd t h.d]
theorem see_per {p : Pl} (h : WP p) {c : Nat} (hc : c < pK p) (f : Fl) (t x y : Nat) : see p f c (t % pY p) x y = see p f c t x y := by
  unfold see
  rw [co_per h hc, ro_per h hc]
theorem who_per {p : Pl} (h : WP p) (f : Fl) (t x y : Nat) : who p f (t % pY p) x y = who p f t x y := by
  unfold who
  apply mk_cong
  intro c _
  by_cases hc : c < pK p
  · rw [see_per h hc]
  · simp [hc]
theorem who_lt (p : Pl) (f : Fl) (t x y : Nat) : who p f t x y < 256 := mk_lt _ 8
theorem us_lt (p : Pl) (f : Fl) : us p f < 256 := mk_lt _ 8
/-- the desk's plan in the model -/
def PB (p : Pl) (g : G) : Prop :=
  (g.1 1 = nI (pC p) ∧ g.1 2 = nI (pR p) ∧ g.1 3 = nI (pD p) ∧ g.1 4 = nI (pP p) ∧ g.1 5 = nI (pK p) ∧ g.1 6 = nI (pS p) ∧ g.1 7 = nI (pY p) ∧ g.1 8 = nI (pC p * pR p) ∧ g.1 9 = nI (al p)) ∧
  (∀ q, q < pP p → g.2.1 2 q = nI (tl p q) ∧ g.2.1 3 q = nI (tu p q)) ∧ (∀ c, c < pK p → g.2.1 4 c = nI (hm p c)) ∧
  (∀ s, s < pS p → g.2.1 7 (4 * s) = nI (sx p s) ∧ g.2.1 7 (4 * s + 1) = nI (sy p s) ∧ g.2.1 7 (4 * s + 2) = nI (sf p s) ∧ g.2.1 7 (4 * s + 3) = nI (st p s)) ∧
  (∀ w i, (w < pP p ∨ 4 ≤ w ∧ w < 4 + pK p ∨ 12 ≤ w ∧ w < 12 + pS p) → i < 6 → g.2.1 8 (6 * w + i) = nI (nm p w i))
def FB (p : Pl) (f : Fl) (g : G) : Prop :=
  (∀ q, q < pP p → g.2.1 20 q = nI (fnd f q)) ∧ ∀ c, c < pK p → g.2.1 20 (4 + c) = nI (fup f c) ∧ g.2.1 20 (12 + c) = nI (fph f c) ∧ g.2.1 20 (20 + c) = nI (frc f c)
theorem PB.fr {S T : List Nat} {w : Bool × Bool × Bool} {p : Pl} {g g' : G} (h : PB p g) (hf : Fr S T w g g') (hS : ∀ k ∈ S, k < 1 ∨ 9 < k) (hT : ∀ k ∈ T, k < 2 ∨ (4 < k ∧ k < 7) ∨ 8 < k) : PB p g' := by
  have s : ∀ k, 1 ≤ k → k ≤ 9 → g'.1 k = g.1 k := fun k h1 h2 => hf.1 k (fun m => by have := hS k m; omega)
  have a : ∀ k, (2 ≤ k ∧ k ≤ 4) ∨ (7 ≤ k ∧ k ≤ 8) → g'.2.1 k = g.2.1 k := fun k h1 => hf.2.1 k (fun m => by have := hT k m; omega)
  unfold PB
  rw [s 1 (by omega) (by omega), s 2 (by omega) (by omega), s 3 (by omega) (by omega), s 4 (by omega) (by omega), s 5 (by omega) (by omega), s 6 (by omega) (by omega), s 7 (by omega) (by omega), s 8 (by omega) (by omega), s 9 (by omega) (by omega),
    a 2 (by omega), a 3 (by omega), a 4 (by omega), a 7 (by omega), a 8 (by omega)]
  exact h
theorem FB.fr {S T : List Nat} {w : Bool × Bool × Bool} {p : Pl} {f : Fl} {g g' : G} (h : FB p f g) (hf : Fr S T w g g') (hT : 20 ∉ T) : FB p f g' := by
  unfold FB
  rw [hf.2.1 20 hT]
  exact h

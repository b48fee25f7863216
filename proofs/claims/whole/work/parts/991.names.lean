/-! THE TEXT: names that are there already -/
def pOf (N : Nat → Nat) (m c : Nat) : Nat := fi (fun q => decide (N q = c)) m
def pOI (N : Nat → Nat) (m c : Nat) : Int32 := if pOf N m c < m then nI (pOf N m c) else m1
theorem pOf_at {N : Nat → Nat} {m c i : Nat} (hi : i < m) (h : ∀ j, j < i → N j ≠ c) (e : N i = c) : pOf N m c = i := fi_eq (by omega) (fun j hj => decide_eq_false (h j hj)) (fun _ => decide_eq_true e)
theorem pOf_no {N : Nat → Nat} {m c : Nat} (h : ∀ j, j < m → N j ≠ c) : pOf N m c = m := fi_eq (Nat.le_refl _) (fun j hj => decide_eq_false (h j hj)) (fun z => absurd z (Nat.lt_irrefl _))
theorem pOI_m1 {N : Nat → Nat} {m c : Nat} (hm : m < 2 ^ 31) : (pOI N m c = -1) ↔ ¬ pOf N m c < m := by
  unfold pOI
  by_cases l : pOf N m c < m
  · rw [if_pos l]
    exact ⟨fun z => absurd z (fun z => (n_ne_m1 (by omega)).mp z), fun z => absurd l z⟩
  · rw [if_neg l]
    exact ⟨fun _ => l, fun _ => rfl⟩
theorem place1 {g : G} {N : Nat → Nat} {c m : Nat} (hc : c < 2 ^ 30) (hm : m ≤ 4) (hN : ∀ q, q < m → g.2.1 17 q = nI (N q) ∧ N q < 2 ^ 30) : fA_Plan_placeOf (nI c) (nI m) g = some (pOI N m c) := by
  apply Sat.eq
  unfold fA_Plan_placeOf
  refine Sat.lp (fun i s => s = nI i ∧ ∀ j, j < i → N j ≠ c) m (by omega) ⟨rfl, fun j hj => absurd hj (Nat.not_lt_zero j)⟩ ?_ ?_
  · rintro rec i _ hi ⟨rfl, hn⟩ hrec
    have q := hN i hi
    rw [if_neg (nI_ge hi (by omega)), if_neg (show ¬ 4 ≤ nI i from nI_ge (b := 4) (by omega) (by decide)), ag_nI (by omega) (by decide), q.1, ite_eqn (by omega) (by omega)]
    by_cases z : N i = c
    · rw [if_pos z]
      refine Sat.of ?_
      unfold pOI
      rw [pOf_at hi hn z, if_pos hi]
    · rw [if_neg z, show (nI i + 1 : Int32) = nI (i + 1) from nI_add i 1]
      refine hrec _ ⟨rfl, fun j hj => ?_⟩
      by_cases ej : j = i
      · rw [ej]; exact z
      · exact hn j (by omega)
  · rintro rec _ ⟨rfl, hn⟩
    rw [if_pos (nI_le (Nat.le_refl _) (by omega))]
    refine Sat.of ?_
    unfold pOI
    rw [pOf_no hn, if_neg (Nat.lt_irrefl _)]
    rfl
theorem place2 {g : G} {N : Nat → Nat} {c m : Nat} (hc : c < 2 ^ 30) (hm : m ≤ 8) (hN : ∀ q, q < m → g.2.1 20 q = nI (N q) ∧ N q < 2 ^ 30) : fA_Plan_placeOf_2 (nI c) (nI m) g = some (pOI N m c) := by
  apply Sat.eq
  unfold fA_Plan_placeOf_2
  refine Sat.lp (fun i s => s = nI i ∧ ∀ j, j < i → N j ≠ c) m (by omega) ⟨rfl, fun j hj => absurd hj (Nat.not_lt_zero j)⟩ ?_ ?_
  · rintro rec i _ hi ⟨rfl, hn⟩ hrec
    have q := hN i hi
    rw [if_neg (nI_ge hi (by omega)), if_neg (show ¬ 8 ≤ nI i from nI_ge (b := 8) (by omega) (by decide)), ag_nI (by omega) (by decide), q.1, ite_eqn (by omega) (by omega)]
    by_cases z : N i = c
    · rw [if_pos z]
      refine Sat.of ?_
      unfold pOI
      rw [pOf_at hi hn z, if_pos hi]
    · rw [if_neg z, show (nI i + 1 : Int32) = nI (i + 1) from nI_add i 1]
      refine hrec _ ⟨rfl, fun j hj => ?_⟩
      by_cases ej : j = i
      · rw [ej]; exact z
      · exact hn j (by omega)
  · rintro rec _ ⟨rfl, hn⟩
    rw [if_pos (nI_le (Nat.le_refl _) (by omega))]
    refine Sat.of ?_
    unfold pOI
    rw [pOf_no hn, if_neg (Nat.lt_irrefl _)]
    rfl
theorem place3 {g : G} {N : Nat → Nat} {c m : Nat} (hc : c < 2 ^ 30) (hm : m ≤ 6) (hN : ∀ q, q < m → g.2.1 22 q = nI (N q) ∧ N q < 2 ^ 30) : fA_Plan_placeOf_3 (nI c) (nI m) g = some (pOI N m c) := by
  apply Sat.eq
  unfold fA_Plan_placeOf_3
  refine Sat.lp (fun i s => s = nI i ∧ ∀ j, j < i → N j ≠ c) m (by omega) ⟨rfl, fun j hj => absurd hj (Nat.not_lt_zero j)⟩ ?_ ?_
  · rintro rec i _ hi ⟨rfl, hn⟩ hrec
    have q := hN i hi
    rw [if_neg (nI_ge hi (by omega)), if_neg (show ¬ 6 ≤ nI i from nI_ge (b := 6) (by omega) (by decide)), ag_nI (by omega) (by decide), q.1, ite_eqn (by omega) (by omega)]
    by_cases z : N i = c
    · rw [if_pos z]
      refine Sat.of ?_
      unfold pOI
      rw [pOf_at hi hn z, if_pos hi]
    · rw [if_neg z, show (nI i + 1 : Int32) = nI (i + 1) from nI_add i 1]
      refine hrec _ ⟨rfl, fun j hj => ?_⟩
      by_cases ej : j = i
      · rw [ej]; exact z
      · exact hn j (by omega)
  · rintro rec _ ⟨rfl, hn⟩
    rw [if_pos (nI_le (Nat.le_refl _) (by omega))]
    refine Sat.of ?_
    unfold pOI
    rw [pOf_no hn, if_neg (Nat.lt_irrefl _)]
    rfl
theorem isNameB {n : Nat} {T : Nat → Nat} {g : G} {s e w : Nat} {l : Nat → Nat} (hx : TX n T) (h : TQ n T g) (hW : Wo n T s e) (es : g.1 39 = nI s) (ee : g.1 38 = nI e) (hw : w < 18) (hl : ∀ i, i < 6 → g.2.1 16 (6 * w + i) = nI (l i) ∧ l i < 32) :
    fB_M_isName (nI w) g = some (bI (decide (pkN l = pkN (wl T s e)))) := by
  have hn := hx.1
  have h1 := hW.1
  have h2 := hW.2.1
  apply Sat.eq
  unfold fB_M_isName
  rw [es, ee]
  refine Sat.lp (fun i z => z = nI i ∧ ∀ j, j < i → l j = wl T s e j) 6 (by decide) ⟨rfl, fun j hj => absurd hj (Nat.not_lt_zero j)⟩ ?_ ?_
  · rintro rec i _ hi ⟨rfl, hm⟩ hrec
    have q := hl i hi
    have wb := hW.b i
    have go : Sat (ag 108 (g.2.1 16) (6 * nI w + nI i) fun x3 => (if x3 = nI (wl T s e i) then rec (nI i + 1) else some 0)) (fun x => x = bI (decide (pkN l = pkN (wl T s e)))) := by
      rw [show (6 * nI w + nI i : Int32) = nI (6 * w + i) by rw [show (6 : Int32) = nI 6 from rfl, nI_mul, nI_add], ag_nI (by omega) (by decide), q.1, ite_eqn (by omega) (by omega)]
      by_cases z : l i = wl T s e i
      · rw [if_pos z, show (nI i + 1 : Int32) = nI (i + 1) from nI_add i 1]
        refine hrec _ ⟨rfl, fun j hj => ?_⟩
        by_cases ej : j = i
        · rw [ej]; exact z
        · exact hm j (by omega)
      · rw [if_neg z]
        refine Sat.of ?_
        rw [decide_eq_false (fun y => z (pkN_inj (fun i hi => (hl i hi).2) (fun i _ => hW.b i) y i hi))]
        rfl
    rw [if_neg (show ¬ 6 ≤ nI i from nI_ge (b := 6) hi (by decide)), lj_eq, nI_add, ite_len (by omega) (by omega)]
    by_cases z : e ≤ s + i
    · rw [if_pos z]
      rw [Wo.z z] at go
      exact go
    · rw [if_neg z, ag_nI (by omega) (by decide), h.2 _ (by omega), (hW.l (i := i) (by omega)).2.2, show (nI (wl T s e i + 96) - 96 : Int32) = nI (wl T s e i) from by rw [show (96 : Int32) = nI 96 from rfl, nI_sub (by omega), Nat.add_sub_cancel]]
      exact go
  · rintro rec _ ⟨rfl, hm⟩
    rw [if_pos (show (6 : Int32) ≤ nI 6 by decide)]
    refine Sat.of ?_
    rw [decide_eq_true (pkN_cong hm)]
    rfl
theorem nameInB {n : Nat} {T : Nat → Nat} {g : G} {s e a m : Nat} {l : Nat → Nat → Nat} (hx : TX n T) (h : TQ n T g) (hW : Wo n T s e) (es : g.1 39 = nI s) (ee : g.1 38 = nI e) (hm : a + m ≤ 18) (hl : ∀ k, k < m → ∀ i, i < 6 → g.2.1 16 (6 * (a + k) + i) = nI (l (a + k) i) ∧ l (a + k) i < 32) :
    fB_M_nameIn (nI a) (nI m) g = some (pOI (fun k => pkN (l (a + k))) m (pkN (wl T s e))) := by
  apply Sat.eq
  unfold fB_M_nameIn
  refine Sat.lp (fun i z => z = nI (a + i) ∧ ∀ j, j < i → pkN (l (a + j)) ≠ pkN (wl T s e)) m (by omega) ⟨rfl, fun j hj => absurd hj (Nat.not_lt_zero j)⟩ ?_ ?_
  · rintro rec i _ hi ⟨rfl, hno⟩ hrec
    rw [nI_add, if_neg (nI_ge (by omega) (by omega)), isNameB hx h hW es ee (by omega) (hl i hi), Option.bind_some]
    by_cases z : pkN (l (a + i)) = pkN (wl T s e)
    · rw [decide_eq_true z, if_neg b1, nI_sub (by omega), show a + i - a = i by omega]
      refine Sat.of ?_
      unfold pOI
      rw [pOf_at (N := fun k => pkN (l (a + k))) hi hno z, if_pos hi]
    · rw [decide_eq_false z, if_pos b0, show (nI (a + i) + 1 : Int32) = nI (a + (i + 1)) from nI_add (a + i) 1]
      refine hrec _ ⟨rfl, fun j hj => ?_⟩
      by_cases ej : j = i
      · rw [ej]; exact z
      · exact hno j (by omega)
  · rintro rec _ ⟨rfl, hno⟩
    rw [nI_add, if_pos (nI_le (Nat.le_refl _) (by omega))]
    refine Sat.of ?_
    unfold pOI
    rw [pOf_no (N := fun k => pkN (l (a + k))) hno, if_neg (Nat.lt_irrefl _)]
    rfl
/-! THE DRAFT -/
def DA (p : Pl) (f : Fl) (g : G) : Prop :=
  (g.1 1500 = nI (pC p) ∧ g.1 1501 = nI (pR p) ∧ g.1 1502 = nI (pD p) ∧ g.1 1505 = nI (pP p) ∧ g.1 1506 = nI (pK p) ∧ g.1 1507 = nI (pS p)) ∧
  (∀ q, q < pP p → g.2.1 18 q = nI (tl p q) ∧ g.2.1 19 q = nI (tu p q) ∧ g.2.1 17 q = nI (pkN (nm p q))) ∧
  (∀ c, c < pK p → g.2.1 21 c = nI (hm p c) ∧ g.2.1 20 c = nI (pkN (nm p (4 + c)))) ∧
  (∀ s, s < pS p → g.2.1 23 s = nI (sx p s) ∧ g.2.1 24 s = nI (sy p s) ∧ g.2.1 25 s = nI (sf p s) ∧ g.2.1 26 s = nI (st p s) ∧ g.2.1 22 s = nI (pkN (nm p (12 + s)))) ∧
  FA p f 3100 31 g
def DB (p : Pl) (f : Fl) (g : G) : Prop :=
  (g.1 18 = nI (pC p) ∧ g.1 19 = nI (pR p) ∧ g.1 20 = nI (pD p) ∧ g.1 21 = nI (pP p) ∧ g.1 22 = nI (pK p) ∧ g.1 23 = nI (pS p)) ∧
  (∀ q, q < pP p → g.2.1 9 q = nI (fnd f q) ∧ g.2.1 10 q = nI (tl p q) ∧ g.2.1 11 q = nI (tu p q)) ∧
  (∀ c, c < pK p → g.2.1 12 c = nI (hm p c) ∧ g.2.1 13 c = nI (fph f c) ∧ g.2.1 14 c = nI (frc f c)) ∧
  (∀ s, s < pS p → g.2.1 15 (4 * s) = nI (sx p s) ∧ g.2.1 15 (4 * s + 1) = nI (sy p s) ∧ g.2.1 15 (4 * s + 2) = nI (sf p s) ∧ g.2.1 15 (4 * s + 3) = nI (st p s)) ∧
  (∀ w i, (w < pP p ∨ 4 ≤ w ∧ w < 4 + pK p ∨ 12 ≤ w ∧ w < 12 + pS p) → i < 6 → g.2.1 16 (6 * w + i) = nI (nm p w i))
def DW (p : Pl) (f : Fl) : Prop :=
  (4 ≤ pC p ∧ pC p ≤ 24 ∧ 3 ≤ pR p ∧ pR p ≤ 12 ∧ 2 ≤ pD p ∧ pD p ≤ 96 ∧ pP p ≤ 4 ∧ pK p ≤ 8 ∧ pS p ≤ 6) ∧
  (∀ q, q < pP p → tl p q ≤ pR p / 2 ∧ 2 ≤ tu p q ∧ tu p q ≤ 96) ∧ (∀ c, c < pK p → hm p c < pP p) ∧
  (∀ s, s < pS p → sx p s < pC p ∧ sy p s < pR p ∧ sf p s < st p s ∧ st p s ≤ pD p) ∧ NM p ∧ WF p f ∧ ∀ c, c < pK p → fup f c = 1
theorem DA.fr {S U : List Nat} {w : Bool × Bool × Bool} {p : Pl} {f : Fl} {g g' : G} (h : DA p f g) (hf : Fr S U w g g') (hS : ∀ k ∈ S, (k < 1500 ∨ 1507 < k) ∧ k ≠ 3100) (hU : ∀ k ∈ U, k < 17 ∨ (26 < k ∧ k < 32) ∨ 34 < k) : DA p f g' := by
  have s : ∀ k, 1500 ≤ k → k ≤ 1507 → g'.1 k = g.1 k := fun k h1 h2 => hf.1 k (fun m => by have := hS k m; omega)
  have a : ∀ k, 17 ≤ k → k ≤ 26 → g'.2.1 k = g.2.1 k := fun k h1 h2 => hf.2.1 k (fun m => by have := hU k m; omega)
  obtain ⟨h1, h2, h3, h4, h5⟩ := h
  unfold DA
  rw [s 1500 (by omega) (by omega), s 1501 (by omega) (by omega), s 1502 (by omega) (by omega), s 1505 (by omega) (by omega), s 1506 (by omega) (by omega), s 1507 (by omega) (by omega),
    a 17 (by omega) (by omega), a 18 (by omega) (by omega), a 19 (by omega) (by omega), a 20 (by omega) (by omega), a 21 (by omega) (by omega), a 22 (by omega) (by omega), a 23 (by omega) (by omega), a 24 (by omega) (by omega), a 25 (by omega) (by omega), a 26 (by omega) (by omega)]
  exact ⟨h1, h2, h3, h4, h5.fr hf (fun m => (hS _ m).2 rfl) (fun k m => by have := hU k m; omega)⟩
theorem DB.fr {S U : List Nat} {w : Bool × Bool × Bool} {p : Pl} {f : Fl} {g g' : G} (h : DB p f g) (hf : Fr S U w g g') (hS : ∀ k ∈ S, k < 18 ∨ 23 < k) (hU : ∀ k ∈ U, k < 9 ∨ 16 < k) : DB p f g' := by
  have s : ∀ k, 18 ≤ k → k ≤ 23 → g'.1 k = g.1 k := fun k h1 h2 => hf.1 k (fun m => by have := hS k m; omega)
  have a : ∀ k, 9 ≤ k → k ≤ 16 → g'.2.1 k = g.2.1 k := fun k h1 h2 => hf.2.1 k (fun m => by have := hU k m; omega)
  unfold DB
  rw [s 18 (by omega) (by omega), s 19 (by omega) (by omega), s 20 (by omega) (by omega), s 21 (by omega) (by omega), s 22 (by omega) (by omega), s 23 (by omega) (by omega),
    a 9 (by omega) (by omega), a 10 (by omega) (by omega), a 11 (by omega) (by omega), a 12 (by omega) (by omega), a 13 (by omega) (by omega), a 14 (by omega) (by omega), a 15 (by omega) (by omega), a 16 (by omega) (by omega)]
  exact h
/-- whether a name is there -/
def usd (p : Pl) (c : Nat) : Bool := decide (pOf (fun k => pkN (nm p k)) (pP p) c < pP p) || (decide (pOf (fun k => pkN (nm p (4 + k))) (pK p) c < pK p) || decide (pOf (fun k => pkN (nm p (12 + k))) (pS p) c < pS p))
def xFk (T : Nat → Nat) (p : Pl) (Y : Xs) : Xs := if Y.1 ≠ 0 then Y else if usd p (cdw T Y) = true then fl 3 Y.2.2.2 else Y
def xF (n : Nat) (T : Nat → Nat) (p : Pl) (X : Xs) : Xs := xFk T p (xNm n T X)
theorem xF_dead {n : Nat} {T : Nat → Nat} {p : Pl} {X : Xs} (h : X.1 ≠ 0) : xF n T p X = X := by
  unfold xF xFk
  rw [xNm_dead h, if_pos h]
theorem xF_ok {n : Nat} {T : Nat → Nat} {p : Pl} {X : Xs} (h0 : X.1 = 0) (ha : X.2.2.1 ≤ n) (hz : (xF n T p X).1 = 0) : (xNm n T X).1 = 0 ∧ xF n T p X = xNm n T X ∧ Wo n T (xF n T p X).2.2.2 (xF n T p X).2.2.1 ∧ X.2.2.1 ≤ (xF n T p X).2.2.2 := by
  have e : xF n T p X = xFk T p (xNm n T X) := rfl
  unfold xFk at e
  by_cases y0 : (xNm n T X).1 = 0
  · rw [if_neg (show ¬ (xNm n T X).1 ≠ 0 from fun z => z y0)] at e
    by_cases u : usd p (cdw T (xNm n T X)) = true
    · rw [if_pos u] at e
      rw [e] at hz
      exact absurd hz flk
    · rw [if_neg u] at e
      have k := xNm_ok h0 ha y0
      have k2 := xW_wo (n := n) (T := T) h0 ha (by rw [← k.1]; exact y0)
      rw [e]
      exact ⟨y0, rfl, k.2.1, by rw [k.1]; exact k2.2⟩
  · rw [if_pos y0] at e
    rw [e] at hz
    exact absurd hz y0
theorem nmb {p : Pl} (h : NM p) {w : Nat} (hw : w < pP p ∨ 4 ≤ w ∧ w < 4 + pK p ∨ 12 ≤ w ∧ w < 12 + pS p) : pkN (nm p w) < 2 ^ 30 := pkN_lt (fun i hi => h w i hw hi)
theorem planeNamedA {p : Pl} {f : Fl} {g : G} {c : Nat} (hc : c < 2 ^ 30) (hD : DA p f g) (hW : DW p f) : fA_Plan_planeNamed (nI c) g = some (pOI (fun k => pkN (nm p k)) (pP p) c) := by
  have b := hW.1
  unfold fA_Plan_planeNamed
  rw [hD.1.2.2.2.1, place1 (N := fun k => pkN (nm p k)) hc (by omega) (fun q hq => ⟨(hD.2.1 q hq).2.2, nmb hW.2.2.2.2.1 (by omega)⟩), Option.bind_some]
theorem hasNameA {p : Pl} {f : Fl} {g : G} {c : Nat} (hc : c < 2 ^ 30) (hD : DA p f g) (hW : DW p f) : fA_Plan_hasName (nI c) g = some (bI (usd p c)) := by
  have b := hW.1
  unfold fA_Plan_hasName usd
  rw [planeNamedA hc hD hW, Option.bind_some, lj_eq, hD.1.2.2.2.2.1, hD.1.2.2.2.2.2, place2 (N := fun k => pkN (nm p (4 + k))) hc (by omega) (fun q hq => ⟨(hD.2.2.1 q hq).2, nmb hW.2.2.2.2.1 (by omega)⟩), Option.bind_some, place3 (N := fun k => pkN (nm p (12 + k))) hc (by omega) (fun q hq => ⟨(hD.2.2.2.1 q hq).2.2.2.2, nmb hW.2.2.2.2.1 (by omega)⟩), Option.bind_some]
  by_cases l1 : pOf (fun k => pkN (nm p k)) (pP p) c < pP p
  · rw [if_neg (fun z => (pOI_m1 (by omega)).mp z l1), decide_eq_true l1]
    rfl
  · rw [if_pos ((pOI_m1 (by omega)).mpr l1), decide_eq_false l1]
    by_cases l2 : pOf (fun k => pkN (nm p (4 + k))) (pK p) c < pK p
    · rw [if_neg (fun z => (pOI_m1 (by omega)).mp z l2), decide_eq_true l2]
      rfl
    · rw [if_pos ((pOI_m1 (by omega)).mpr l2), decide_eq_false l2]
      by_cases l3 : pOf (fun k => pkN (nm p (12 + k))) (pS p) c < pS p
      · rw [if_neg (fun z => (pOI_m1 (by omega)).mp z l3), decide_eq_true l3]
        rfl
      · rw [if_pos ((pOI_m1 (by omega)).mpr l3), decide_eq_false l3]
        rfl
theorem newA {n : Nat} {T : Nat → Nat} {p : Pl} {f : Fl} {Y : Xs} {g : G} (h : LA n T Y g) (h0 : Y.1 = 0) (hw : Wo n T Y.2.2.2 Y.2.2.1) (ew : g.1 3508 = nI (cdw T Y)) (hD : DA p f g) (hW : DW p f) :
    Sat (fA_Reader_isNew g) (fun r => Fr [3500, 3501] [] w0 g r.2 ∧ LA n T (xFk T p Y) r.2 ∧ r.1 = bI (decide ((xFk T p Y).1 = 0))) := by
  have cl : cdw T Y < 2 ^ 30 := pkN_lt (fun i _ => hw.b i)
  have es := (h.2.2.1 h0).2.2.2.2 (Nat.le_of_lt hw.1)
  unfold fA_Reader_isNew xFk
  rw [ew, hasNameA cl hD hW, Option.bind_some, lj_eq, if_neg (show ¬ Y.1 ≠ 0 from fun z => z h0)]
  cases u : usd p (cdw T Y)
  · rw [if_pos b0, if_neg (by decide)]
    exact Sat.of ⟨Fr.rf, h, by rw [decide_eq_true h0]; rfl⟩
  · rw [if_neg b1, if_pos rfl]
    obtain ⟨g2, e2, F2, L2⟩ := failA (k := 3) (w := Y.2.2.2) h.1 (by decide) (by decide)
    rw [es, show (3 : Int32) = nI 3 from rfl, e2, Option.bind_some]
    dsimp only
    rw [if_pos rfl]
    exact Sat.of ⟨F2, L2, rfl⟩
set_option maxHeartbeats 1000000 in
theorem freshB {n : Nat} {T : Nat → Nat} {p : Pl} {f : Fl} {X : Xs} {g : G} {w : Nat} (hx : TX n T) (h : LQ n T X g) (hO : g.2.1 19 = gB0.2.1 19) (hD : DB p f g) (hW : DW p f) (hw : w < 18) :
    Sat (fB_M_freshName (nI w) g) (fun g' => Fr bS [16] w0 g g' ∧ LQ n T (xF n T p X) g' ∧ (∀ j, ¬ (6 * w ≤ j ∧ j < 6 * w + 6) → g'.2.1 16 j = g.2.1 16 j) ∧ ((xF n T p X).1 = 0 → ∀ i, i < 6 → g'.2.1 16 (6 * w + i) = nI (wl T (xF n T p X).2.2.2 (xF n T p X).2.2.1 i))) := by
  have b := hW.1
  have hNM := hW.2.2.2.2.1
  unfold fB_M_freshName
  refine (nameB hx h hO).bind ?_
  rintro g1 ⟨F1, L1⟩
  have D1 := hD.fr F1 (by decide) (by simp)
  have F1' : Fr bS [16] w0 g g1 := F1.wd (by simp) (by simp) (by simp)
  rw [goesB L1, Option.bind_some]
  have e : xF n T p X = xFk T p (xNm n T X) := rfl
  obtain ⟨Y, eY⟩ : ∃ Y, Y = xNm n T X := ⟨_, rfl⟩
  rw [← eY] at L1 e ⊢
  rw [e]
  unfold xFk
  by_cases y0 : Y.1 = 0
  · have h0 : X.1 = 0 := by
      apply Classical.byContradiction
      intro z
      rw [eY, xNm_dead z] at y0
      exact z y0
    have ha := (h.2.2.1 h0).2.1
    have hWo := (xNm_ok (n := n) (T := T) h0 ha (by rw [← eY]; exact y0)).2.1
    rw [← eY] at hWo
    have pp := L1.2.2.1 y0
    have es := pp.2.2.2 (Nat.le_of_lt hWo.1)
    have hn := hx.1
    have hen := hWo.2.1
    have hw1 := hWo.1
    have nx := D1.2.2.2.2
    have i1 : fB_M_nameIn 0 (g1.1 21) g1 = some (pOI (fun k => pkN (nm p k)) (pP p) (cdw T Y)) := by
      rw [D1.1.2.2.2.1]
      have := nameInB (a := 0) (m := pP p) (l := nm p) hx L1.1 hWo es pp.2.2.1 (by omega) (fun k hk i hi => by rw [Nat.zero_add]; exact ⟨nx k i (by omega) hi, hNM k i (by omega) hi⟩)
      rw [show (fun k => pkN (nm p (0 + k))) = fun k => pkN (nm p k) from funext (fun k => by rw [Nat.zero_add])] at this
      exact this
    have i2 : fB_M_nameIn 4 (g1.1 22) g1 = some (pOI (fun k => pkN (nm p (4 + k))) (pK p) (cdw T Y)) := by
      rw [D1.1.2.2.2.2.1]
      exact nameInB (a := 4) (m := pK p) (l := nm p) hx L1.1 hWo es pp.2.2.1 (by omega) (fun k hk i hi => ⟨nx (4 + k) i (by omega) hi, hNM (4 + k) i (by omega) hi⟩)
    have i3 : fB_M_nameIn 12 (g1.1 23) g1 = some (pOI (fun k => pkN (nm p (12 + k))) (pS p) (cdw T Y)) := by
      rw [D1.1.2.2.2.2.2]
      exact nameInB (a := 12) (m := pS p) (l := nm p) hx L1.1 hWo es pp.2.2.1 (by omega) (fun k hk i hi => ⟨nx (12 + k) i (by omega) hi, hNM (12 + k) i (by omega) hi⟩)
    rw [decide_eq_true y0, if_neg b1, i1, Option.bind_some, lj_eq, lj_eq, i2, Option.bind_some, i3, Option.bind_some, if_neg (show ¬ Y.1 ≠ 0 from fun z => z y0)]
    obtain ⟨Q, hQ⟩ : ∃ Q : G → Prop, Q = fun g' => Fr bS [16] w0 g g' ∧ LQ n T (if usd p (cdw T Y) = true then fl 3 Y.2.2.2 else Y) g' ∧ (∀ j, ¬ (6 * w ≤ j ∧ j < 6 * w + 6) → g'.2.1 16 j = g.2.1 16 j) ∧ ((if usd p (cdw T Y) = true then fl 3 Y.2.2.2 else Y).1 = 0 → ∀ i, i < 6 → g'.2.1 16 (6 * w + i) = nI (wl T (if usd p (cdw T Y) = true then fl 3 Y.2.2.2 else Y).2.2.2 (if usd p (cdw T Y) = true then fl 3 Y.2.2.2 else Y).2.2.1 i)) := ⟨_, rfl⟩
    rw [← hQ]
    have no : usd p (cdw T Y) = true → Sat (Option.bind (fB_M_fails 3 (g1.1 39) g1) fun x9 => some x9) Q := by
      intro u
      obtain ⟨g2, e2, F2, L2⟩ := failB (k := 3) (w := Y.2.2.2) L1.1 (by rw [L1.2.1.2, y0]) (by decide) (by decide)
      rw [es, show (3 : Int32) = nI 3 from rfl, e2, Option.bind_some, hQ, if_pos u]
      exact Sat.of ⟨F1'.tr F2 (by decide) (by simp) (by simp), L2, fun j _ => by rw [F2.2.1 16 (by simp), F1.2.1 16 (by simp)], fun z => absurd z flk⟩
    have yes : usd p (cdw T Y) = false → Sat (Lp (α := Int32 × G) (fun rec5 s5 => (if 6 ≤ s5.1 then some s5.2 else lj (α := Int32) (fun b6 => ck 108 ((6 * nI w) + s5.1) (bv (sA s5.2 16 ((6 * nI w) + s5.1 : Int32).toNatClampNeg b6) fun g7 => rec5 (s5.1 + 1, g7))) fun J6 => (if (s5.2.1 38) ≤ ((s5.2.1 39) + s5.1) then J6 0 else ag 1600 (s5.2.2.1 17) ((s5.2.1 39) + s5.1) fun x8 => J6 (x8 - 96)))) FU (0, g1)) Q := by
      intro u
      rw [hQ, u, if_neg (by decide)]
      refine Sat.lp (fun i z => ∃ g', z = (nI i, g') ∧ Fr [] [16] w0 g1 g' ∧ (∀ j, ¬ (6 * w ≤ j ∧ j < 6 * w + 6) → g'.2.1 16 j = g1.2.1 16 j) ∧ ∀ j, j < i → g'.2.1 16 (6 * w + j) = nI (wl T Y.2.2.2 Y.2.2.1 j)) 6 (by decide) ⟨g1, rfl, Fr.rf, fun _ _ => rfl, fun j hj => absurd hj (Nat.not_lt_zero j)⟩ ?_ ?_
      · rintro rec i _ hi ⟨g', rfl, F, k1, k2⟩ hrec
        have T' := L1.1.fr F (by simp) (by simp)
        have e38 : g'.1 38 = nI Y.2.2.1 := by rw [F.1 38 (by simp), pp.2.2.1]
        have e39 : g'.1 39 = nI Y.2.2.2 := by rw [F.1 39 (by simp), es]
        have go : Sat (ck 108 ((6 * nI w) + nI i) (bv (sA g' 16 ((6 * nI w) + nI i : Int32).toNatClampNeg (nI (wl T Y.2.2.2 Y.2.2.1 i))) fun g7 => rec (nI i + 1, g7))) (fun g' => Fr bS [16] w0 g g' ∧ LQ n T Y g' ∧ (∀ j, ¬ (6 * w ≤ j ∧ j < 6 * w + 6) → g'.2.1 16 j = g.2.1 16 j) ∧ (Y.1 = 0 → ∀ i, i < 6 → g'.2.1 16 (6 * w + i) = nI (wl T Y.2.2.2 Y.2.2.1 i))) := by
          rw [show (6 * nI w + nI i : Int32) = nI (6 * w + i) by rw [show (6 : Int32) = nI 6 from rfl, nI_mul, nI_add], ck_nI (by omega) (by decide), bv_eq, nI_clamp (by omega), show (nI i + 1 : Int32) = nI (i + 1) from nI_add i 1]
          refine hrec _ ⟨_, rfl, F.sA (by simp), fun j hj => ?_, fun j hj => ?_⟩
          · rw [sA_21, if_pos rfl, upd_ne _ _ (by omega)]
            exact k1 j hj
          · rw [sA_21, if_pos rfl]
            by_cases ej : j = i
            · rw [ej, upd_self]
            · rw [upd_ne _ _ (by omega)]
              exact k2 j (by omega)
        dsimp only
        rw [if_neg (show ¬ 6 ≤ nI i from nI_ge (b := 6) hi (by decide)), lj_eq, e38, e39, nI_add, ite_len (by omega) (by omega)]
        by_cases z : Y.2.2.1 ≤ Y.2.2.2 + i
        · rw [if_pos z]
          rw [Wo.z z] at go
          exact go
        · rw [if_neg z, ag_nI (by omega) (by decide), T'.2 _ (by omega), (hWo.l (i := i) (by omega)).2.2, show (nI (wl T Y.2.2.2 Y.2.2.1 i + 96) - 96 : Int32) = nI (wl T Y.2.2.2 Y.2.2.1 i) from by rw [show (96 : Int32) = nI 96 from rfl, nI_sub (by omega), Nat.add_sub_cancel]]
          exact go
      · rintro rec _ ⟨g', rfl, F, k1, k2⟩
        dsimp only
        rw [if_pos (show (6 : Int32) ≤ nI 6 by decide)]
        exact Sat.of ⟨F1'.tr F (by simp) (by simp) (by simp), L1.fr F (by simp) (by simp), fun j hj => by rw [k1 j hj, F1.2.1 16 (by simp)], fun _ => k2⟩
    by_cases l1 : pOf (fun k => pkN (nm p k)) (pP p) (cdw T Y) < pP p
    · rw [if_neg (fun z => (pOI_m1 (by omega)).mp z l1)]
      dsimp only
      rw [if_neg (by decide)]
      exact no (by unfold usd; rw [decide_eq_true l1, Bool.true_or])
    · rw [if_pos ((pOI_m1 (by omega)).mpr l1)]
      by_cases l2 : pOf (fun k => pkN (nm p (4 + k))) (pK p) (cdw T Y) < pK p
      · rw [if_neg (fun z => (pOI_m1 (by omega)).mp z l2)]
        dsimp only
        rw [if_neg (by decide)]
        exact no (by unfold usd; rw [decide_eq_true l2, Bool.true_or, Bool.or_true])
      · rw [if_pos ((pOI_m1 (by omega)).mpr l2)]
        by_cases l3 : pOf (fun k => pkN (nm p (12 + k))) (pS p) (cdw T Y) < pS p
        · rw [if_neg (fun z => (pOI_m1 (by omega)).mp z l3)]
          dsimp only
          rw [if_neg (by decide)]
          exact no (by unfold usd; rw [decide_eq_true l3, Bool.or_true, Bool.or_true])
        · rw [if_pos ((pOI_m1 (by omega)).mpr l3)]
          dsimp only
          rw [if_pos rfl]
          exact yes (by unfold usd; rw [decide_eq_false l1, decide_eq_false l2, decide_eq_false l3]; rfl)
  · rw [decide_eq_false y0, if_pos b0, if_pos y0]
    exact Sat.of ⟨F1', L1, fun j _ => by rw [F1.2.1 16 (by simp)], fun z => absurd z y0⟩

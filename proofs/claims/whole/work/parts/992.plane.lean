/-! THE TEXT: a plane -/
theorem stW {n : Nat} {T : Nat → Nat} {X : Xs} {g : G} {k : Nat} {K : Int32 × G → Option (Int32 × G)} {Q : Int32 × G → Prop} (hx : TX n T) (h : LA n T X g) (h0 : X.1 = 0) (hk : k < 15)
    (bad : ∀ g', Fr aW [] w0 g g' → LA n T (xM n T k X) g' → (xM n T k X).1 ≠ 0 → Q (0, g')) (good : ∀ g', Fr aW [] w0 g g' → LA n T (xM n T k X) g' → (xM n T k X).1 = 0 → Sat (K (1, g')) Q) :
    Sat (Option.bind (fA_Reader_takeWord k g) fun x => if x.1 = 0 then some (0, x.2) else K x) Q := by
  refine (wordA hx h h0 hk).bind ?_
  rintro ⟨r, g'⟩ ⟨F, L, e⟩
  have e : r = bI (decide ((xM n T k X).1 = 0)) := e
  dsimp only
  by_cases z : (xM n T k X).1 = 0
  · rw [decide_eq_true z] at e
    rw [e, if_neg b1]
    exact good g' F L z
  · rw [decide_eq_false z] at e
    rw [e, if_pos b0]
    exact Sat.of (bad g' F L z)
theorem stN {n : Nat} {T : Nat → Nat} {X : Xs} {g : G} {lo hi : Nat} {K : Int32 × G → Option (Int32 × G)} {Q : Int32 × G → Prop} (hx : TX n T) (h : LA n T X g) (h0 : X.1 = 0) (hlo : lo < 2 ^ 31) (hhi : hi < 2 ^ 31)
    (bad : ∀ g', Fr aS [] w0 g g' → LA n T (xNu n T lo hi X).2 g' → (xNu n T lo hi X).2.1 ≠ 0 → Q (0, g')) (good : ∀ g', Fr aS [] w0 g g' → LA n T (xNu n T lo hi X).2 g' → (xNu n T lo hi X).2.1 = 0 → g'.1 3510 = nI (xNu n T lo hi X).1 → Sat (K (1, g')) Q) :
    Sat (Option.bind (fA_Reader_takeNumber (nI lo) (nI hi) g) fun x => if x.1 = 0 then some (0, x.2) else K x) Q := by
  refine (numA hx h h0 hlo hhi).bind ?_
  rintro ⟨r, g'⟩ ⟨F, L, e, v⟩
  have e : r = bI (decide ((xNu n T lo hi X).2.1 = 0)) := e
  dsimp only
  by_cases z : (xNu n T lo hi X).2.1 = 0
  · rw [decide_eq_true z] at e
    rw [e, if_neg b1]
    exact good g' F L z (v z)
  · rw [decide_eq_false z] at e
    rw [e, if_pos b0]
    exact Sat.of (bad g' F L z)
/-- a name that is not there yet -/
theorem stF {n : Nat} {T : Nat → Nat} {p : Pl} {f : Fl} {X : Xs} {g : G} {K : Int32 × G → Option (Int32 × G)} {Q : Int32 × G → Prop} (hx : TX n T) (h : LA n T X g) (h0 : X.1 = 0) (hD : DA p f g) (hW : DW p f)
    (bad : ∀ g', Fr aW [] w0 g g' → LA n T (xF n T p X) g' → (xF n T p X).1 ≠ 0 → Q (0, g')) (good : ∀ g', Fr aW [] w0 g g' → LA n T (xF n T p X) g' → (xF n T p X).1 = 0 → g'.1 3508 = nI (cdw T (xF n T p X)) → Sat (K (1, g')) Q) :
    Sat (Option.bind (fA_Reader_takeName g) fun x2 => (if x2.1 = 0 then some (0, x2.2) else Option.bind (fA_Reader_isNew x2.2) fun x3 => (if x3.1 = 0 then some (0, x3.2) else K x3))) Q := by
  have ha := (h.2.2.1 h0).2.1
  refine (nameA hx h h0).bind ?_
  rintro ⟨r, g1⟩ ⟨F1, L1, e1, w1⟩
  have F1 : Fr aW [] w0 g g1 := F1
  have e1 : r = bI (decide ((xNm n T X).1 = 0)) := e1
  have eF : xF n T p X = xFk T p (xNm n T X) := rfl
  dsimp only at L1 w1 ⊢
  by_cases z : (xNm n T X).1 = 0
  · rw [decide_eq_true z] at e1
    rw [e1, if_neg b1]
    refine (newA L1 z (xNm_ok h0 ha z).2.1 (w1 z) (hD.fr F1 (by decide) (by simp)) hW).bind ?_
    rintro ⟨r2, g2⟩ ⟨F2, L2, e2⟩
    have F2 : Fr [3500, 3501] [] w0 g1 g2 := F2
    have e2 : r2 = bI (decide ((xF n T p X).1 = 0)) := e2
    have F12 : Fr aW [] w0 g g2 := F1.tr F2 (by decide) (by simp) (by simp)
    dsimp only
    by_cases y : (xF n T p X).1 = 0
    · rw [decide_eq_true y] at e2
      rw [e2, if_neg b1]
      exact good g2 F12 L2 y (by rw [F2.1 3508 (by simp), (xF_ok h0 ha y).2.1]; exact w1 z)
    · rw [decide_eq_false y] at e2
      rw [e2, if_pos b0]
      exact Sat.of (bad g2 F12 L2 y)
  · rw [decide_eq_false z] at e1
    rw [e1, if_pos b0]
    have : xF n T p X = xNm n T X := by
      rw [eF]
      unfold xFk
      rw [if_pos z]
    exact Sat.of (bad g1 F1 (by rw [this]; exact L1) (by rw [this]; exact z))
theorem xNu2_dead {n : Nat} {T : Nat → Nat} {lo hi : Nat} {X : Xs} (h : X.1 ≠ 0) : (xNu n T lo hi X).2 = X := by rw [xNu_dead h]
def upn (f : Nat → Nat) (k v : Nat) : Nat → Nat := fun j => if j = k then v else f j
theorem upn_self (f : Nat → Nat) (k v : Nat) : upn f k v k = v := if_pos rfl
theorem upn_ne (f : Nat → Nat) {k j : Nat} (v : Nat) (h : j ≠ k) : upn f k v j = f j := if_neg h
def adP (p : Pl) (l : Nat → Nat) (a b : Nat) : Pl := (fun i => if i = 4 then pP p + 1 else p.1 i, fun j => if j = 0 then upn (p.2 0) (pP p) a else if j = 1 then upn (p.2 1) (pP p) b else if j = 7 + pP p then l else p.2 j)
def adF (f : Fl) (q v : Nat) : Fl := fun j => if j = 0 then upn (f 0) q v else f j
theorem nm_adP {p : Pl} {l : Nat → Nat} {a b w : Nat} : nm (adP p l a b) w = if w = pP p then l else nm p w := by
  unfold nm
  show (if 7 + w = 0 then _ else if 7 + w = 1 then _ else if 7 + w = 7 + pP p then l else p.2 (7 + w)) = _
  rw [if_neg (by omega), if_neg (by omega)]
  by_cases e : w = pP p
  · rw [if_pos e, if_pos (by omega)]
  · rw [if_neg e, if_neg (by omega)]
theorem adP_sx {p : Pl} {l : Nat → Nat} {a b : Nat} (j : Nat) (h : 2 ≤ j) (h7 : j < 7) : (adP p l a b).2 j = p.2 j := by
  show (if j = 0 then _ else if j = 1 then _ else if j = 7 + pP p then l else p.2 j) = _
  rw [if_neg (by omega), if_neg (by omega), if_neg (by omega)]
theorem DWadP {p : Pl} {f : Fl} (h : DW p f) (hP : pP p < 4) {l : Nat → Nat} {node ti tn : Nat} (hl : ∀ i, i < 6 → l i < 32) (hn : node < pC p) (ht : ti ≤ pR p / 2) (hu : 2 ≤ tn ∧ tn ≤ 96) : DW (adP p l ti tn) (adF f (pP p) node) := by
  obtain ⟨h1, h2, h3, h4, h5, h6, h7⟩ := h
  have e2 : hm (adP p l ti tn) = hm p := adP_sx 2 (by omega) (by omega)
  have e3 : sx (adP p l ti tn) = sx p := adP_sx 3 (by omega) (by omega)
  have e4 : sy (adP p l ti tn) = sy p := adP_sx 4 (by omega) (by omega)
  have e5 : sf (adP p l ti tn) = sf p := adP_sx 5 (by omega) (by omega)
  have e6 : st (adP p l ti tn) = st p := adP_sx 6 (by omega) (by omega)
  refine ⟨⟨h1.1, h1.2.1, h1.2.2.1, h1.2.2.2.1, h1.2.2.2.2.1, h1.2.2.2.2.2.1, ?_, h1.2.2.2.2.2.2.2.1, h1.2.2.2.2.2.2.2.2⟩, fun q hq => ?_, fun c hc => ?_, ?_, fun w i hw hi => ?_, ⟨fun q hq => ?_, fun c hc => ?_⟩, h7⟩
  · show pP p + 1 ≤ 4
    omega
  · have hq : q < pP p + 1 := hq
    show upn (tl p) (pP p) ti q ≤ pR p / 2 ∧ 2 ≤ upn (tu p) (pP p) tn q ∧ upn (tu p) (pP p) tn q ≤ 96
    by_cases e : q = pP p
    · rw [e, upn_self, upn_self]
      exact ⟨ht, hu⟩
    · rw [upn_ne _ _ e, upn_ne _ _ e]
      exact h2 q (by omega)
  · rw [e2]
    have := h3 c hc
    show hm p c < pP p + 1
    omega
  · rw [e3, e4, e5, e6]
    exact h4
  · rw [nm_adP]
    by_cases e : w = pP p
    · rw [if_pos e]
      exact hl i hi
    · rw [if_neg e]
      refine h5 w i ?_ hi
      rcases hw with z | z | z
      · have z : w < pP p + 1 := z
        omega
      · exact Or.inr (Or.inl z)
      · exact Or.inr (Or.inr z)
  · have hq : q < pP p + 1 := hq
    show upn (fnd f) (pP p) node q < pC p
    by_cases e : q = pP p
    · rw [e, upn_self]
      exact hn
    · rw [upn_ne _ _ e]
      exact h6.1 q (by omega)
  · have := h3 c hc
    rw [e2]
    show fph f c < upn (tu p) (pP p) tn (hm p c) ∧ frc f c ≤ 12 ∧ fup f c ≤ 1
    rw [upn_ne _ _ (by omega)]
    exact h6.2 c hc
theorem DAadP {p : Pl} {f : Fl} {g g' : G} {S U : List Nat} {w : Bool × Bool × Bool} (h : DA p f g) (hW : DW p f) (F : Fr S U w g g') (hS : ∀ k ∈ S, ((k < 1500 ∨ 1507 < k) ∨ k = 1505) ∧ k ≠ 3100) (hU : ∀ k ∈ U, k < 17 ∨ k = 17 ∨ k = 18 ∨ k = 19 ∨ k = 32 ∨ 34 < k) {l : Nat → Nat} {node ti tn : Nat} (hP : pP p < 4)
    (e0 : g'.1 1505 = nI (pP p + 1)) (e1 : g'.2.1 17 = upd (g.2.1 17) (pP p) (nI (pkN l))) (e2 : g'.2.1 18 = upd (g.2.1 18) (pP p) (nI ti)) (e3 : g'.2.1 19 = upd (g.2.1 19) (pP p) (nI tn)) (e4 : g'.2.1 32 = upd (g.2.1 32) (pP p) (nI node)) : DA (adP p l ti tn) (adF f (pP p) node) g' := by
  have s : ∀ k, (1500 ≤ k ∧ k ≤ 1507 ∧ k ≠ 1505) ∨ k = 3100 → g'.1 k = g.1 k := fun k h1 => F.1 k (fun m => by have := hS k m; omega)
  have a : ∀ k, (20 ≤ k ∧ k ≤ 26) ∨ k = 33 ∨ k = 34 → g'.2.1 k = g.2.1 k := fun k h1 => F.2.1 k (fun m => by have := hU k m; omega)
  obtain ⟨h1, h2, h3, h4, h5⟩ := h
  have e2' : hm (adP p l ti tn) = hm p := adP_sx 2 (by omega) (by omega)
  have e3' : sx (adP p l ti tn) = sx p := adP_sx 3 (by omega) (by omega)
  have e4' : sy (adP p l ti tn) = sy p := adP_sx 4 (by omega) (by omega)
  have e5' : sf (adP p l ti tn) = sf p := adP_sx 5 (by omega) (by omega)
  have e6' : st (adP p l ti tn) = st p := adP_sx 6 (by omega) (by omega)
  refine ⟨⟨(s 1500 (by omega)).trans h1.1, (s 1501 (by omega)).trans h1.2.1, (s 1502 (by omega)).trans h1.2.2.1, e0, (s 1506 (by omega)).trans h1.2.2.2.2.1, (s 1507 (by omega)).trans h1.2.2.2.2.2⟩, fun q hq => ?_, fun c hc => ?_, fun z hz => ?_, ⟨?_, fun q hq => ?_, fun c hc => ?_⟩⟩
  · have hq : q < pP p + 1 := hq
    rw [e1, e2, e3, nm_adP]
    show _ = nI (upn (tl p) (pP p) ti q) ∧ _ = nI (upn (tu p) (pP p) tn q) ∧ _
    by_cases e : q = pP p
    · rw [e, upd_self, upd_self, upd_self, upn_self, upn_self, if_pos rfl]
      exact ⟨rfl, rfl, rfl⟩
    · rw [upd_ne _ _ e, upd_ne _ _ e, upd_ne _ _ e, upn_ne _ _ e, upn_ne _ _ e, if_neg e]
      exact h2 q (by omega)
  · have hc : c < pK p := hc
    have := hW.1
    rw [e2', nm_adP, if_neg (by omega), a 20 (by omega), a 21 (by omega)]
    exact h3 c hc
  · have := hW.1
    rw [e3', e4', e5', e6', nm_adP, if_neg (by omega), a 22 (by omega), a 23 (by omega), a 24 (by omega), a 25 (by omega), a 26 (by omega)]
    exact h4 z hz
  · exact (s 3100 (by omega)).trans h5.1
  · have hq : q < pP p + 1 := hq
    show g'.2.1 32 q = nI (upn (fnd f) (pP p) node q)
    rw [e4]
    by_cases e : q = pP p
    · rw [e, upd_self, upn_self]
    · rw [upd_ne _ _ e, upn_ne _ _ e]
      exact h5.2.1 q (by omega)
  · show g'.2.1 33 c = _ ∧ g'.2.1 34 c = _
    rw [a 33 (by omega), a 34 (by omega)]
    exact h5.2.2 c hc
theorem DBadP {p : Pl} {f : Fl} {g g' : G} {S U : List Nat} {w : Bool × Bool × Bool} (h : DB p f g) (hW : DW p f) (F : Fr S U w g g') (hS : ∀ k ∈ S, k < 18 ∨ 23 < k ∨ k = 21) (hU : ∀ k ∈ U, k < 9 ∨ k = 9 ∨ k = 10 ∨ k = 11 ∨ k = 16 ∨ 16 < k) {l : Nat → Nat} {node ti tn : Nat} (hP : pP p < 4)
    (e0 : g'.1 21 = nI (pP p + 1)) (e1 : g'.2.1 9 = upd (g.2.1 9) (pP p) (nI node)) (e2 : g'.2.1 10 = upd (g.2.1 10) (pP p) (nI ti)) (e3 : g'.2.1 11 = upd (g.2.1 11) (pP p) (nI tn)) (e4 : ∀ j, ¬ (6 * pP p ≤ j ∧ j < 6 * pP p + 6) → g'.2.1 16 j = g.2.1 16 j) (e5 : ∀ i, i < 6 → g'.2.1 16 (6 * pP p + i) = nI (l i)) : DB (adP p l ti tn) (adF f (pP p) node) g' := by
  have s : ∀ k, (18 ≤ k ∧ k ≤ 23 ∧ k ≠ 21) → g'.1 k = g.1 k := fun k h1 => F.1 k (fun m => by have := hS k m; omega)
  have a : ∀ k, (12 ≤ k ∧ k ≤ 15) → g'.2.1 k = g.2.1 k := fun k h1 => F.2.1 k (fun m => by have := hU k m; omega)
  obtain ⟨h1, h2, h3, h4, h5⟩ := h
  have e2' : hm (adP p l ti tn) = hm p := adP_sx 2 (by omega) (by omega)
  have e3' : sx (adP p l ti tn) = sx p := adP_sx 3 (by omega) (by omega)
  have e4' : sy (adP p l ti tn) = sy p := adP_sx 4 (by omega) (by omega)
  have e5' : sf (adP p l ti tn) = sf p := adP_sx 5 (by omega) (by omega)
  have e6' : st (adP p l ti tn) = st p := adP_sx 6 (by omega) (by omega)
  refine ⟨⟨(s 18 (by omega)).trans h1.1, (s 19 (by omega)).trans h1.2.1, (s 20 (by omega)).trans h1.2.2.1, e0, (s 22 (by omega)).trans h1.2.2.2.2.1, (s 23 (by omega)).trans h1.2.2.2.2.2⟩, fun q hq => ?_, fun c hc => ?_, fun z hz => ?_, fun w i hw hi => ?_⟩
  · have hq : q < pP p + 1 := hq
    rw [e1, e2, e3]
    show _ = nI (upn (fnd f) (pP p) node q) ∧ _ = nI (upn (tl p) (pP p) ti q) ∧ _ = nI (upn (tu p) (pP p) tn q)
    by_cases e : q = pP p
    · rw [e, upd_self, upd_self, upd_self, upn_self, upn_self, upn_self]
      exact ⟨rfl, rfl, rfl⟩
    · rw [upd_ne _ _ e, upd_ne _ _ e, upd_ne _ _ e, upn_ne _ _ e, upn_ne _ _ e, upn_ne _ _ e]
      exact h2 q (by omega)
  · rw [e2', a 12 (by omega), a 13 (by omega), a 14 (by omega)]
    exact h3 c hc
  · rw [e3', e4', e5', e6', a 15 (by omega)]
    exact h4 z hz
  · rw [nm_adP]
    by_cases e : w = pP p
    · rw [if_pos e, e]
      exact e5 i hi
    · rw [if_neg e, e4 _ (by omega)]
      refine h5 w i ?_ hi
      rcases hw with z | z | z
      · have z : w < pP p + 1 := z
        omega
      · exact Or.inr (Or.inl z)
      · exact Or.inr (Or.inr z)
def xP0 (n : Nat) (T : Nat → Nat) (p : Pl) (X : Xs) : Xs := if pP p < 4 then xF n T p X else fl 5 X.2.2.2
def xP1 (n : Nat) (T : Nat → Nat) (p : Pl) (X : Xs) : Nat × Xs := xNu n T 0 (pC p - 1) (xM n T 4 (xP0 n T p X))
def xP2 (n : Nat) (T : Nat → Nat) (p : Pl) (X : Xs) : Nat × Xs := xNu n T 0 (pR p / 2) (xM n T 5 (xP1 n T p X).2)
def xP3 (n : Nat) (T : Nat → Nat) (p : Pl) (X : Xs) : Nat × Xs := xNu n T 2 96 (xM n T 6 (xP2 n T p X).2)
def plP (n : Nat) (T : Nat → Nat) (p : Pl) (X : Xs) : Pl := adP p (wl T (xP0 n T p X).2.2.2 (xP0 n T p X).2.2.1) (xP2 n T p X).1 (xP3 n T p X).1
def plF (n : Nat) (T : Nat → Nat) (p : Pl) (f : Fl) (X : Xs) : Fl := adF f (pP p) (xP1 n T p X).1
set_option maxHeartbeats 2000000 in
theorem planeA {n : Nat} {T : Nat → Nat} {p : Pl} {f : Fl} {X : Xs} {g : G} (hx : TX n T) (h : LA n T X g) (h0 : X.1 = 0) (hs : X.2.2.2 ≤ X.2.2.1) (hD : DA p f g) (hW : DW p f) :
    Sat (fA_Reader_readPlane g) (fun r => Fr (1505 :: 3502 :: aS) [17, 18, 19, 32] w0 g r.2 ∧ LA n T (xE n T (xP3 n T p X).2) r.2 ∧ r.1 = bI (decide ((xE n T (xP3 n T p X).2).1 = 0)) ∧ ((xE n T (xP3 n T p X).2).1 = 0 → DA (plP n T p X) (plF n T p f X) r.2 ∧ DW (plP n T p X) (plF n T p f X) ∧ X.2.2.1 < (xE n T (xP3 n T p X).2).2.2.1 ∧ (xE n T (xP3 n T p X).2).2.2.2 ≤ (xE n T (xP3 n T p X).2).2.2.1 ∧ r.2.1 3502 = g.1 3502 + 1)) := by
  have b := hW.1
  have hn := hx.1
  obtain ⟨Z, eZ⟩ : ∃ Z, Z = xE n T (xP3 n T p X).2 := ⟨_, rfl⟩
  obtain ⟨Q, hQ⟩ : ∃ Q : Int32 × G → Prop, Q = fun r => Fr (1505 :: 3502 :: aS) [17, 18, 19, 32] w0 g r.2 ∧ LA n T Z r.2 ∧ r.1 = bI (decide (Z.1 = 0)) ∧ (Z.1 = 0 → DA (plP n T p X) (plF n T p f X) r.2 ∧ DW (plP n T p X) (plF n T p f X) ∧ X.2.2.1 < Z.2.2.1 ∧ Z.2.2.2 ≤ Z.2.2.1 ∧ r.2.1 3502 = g.1 3502 + 1) := ⟨_, rfl⟩
  rw [← eZ, ← hQ]
  have out : ∀ (Y : Xs) (g' : G), Y.1 ≠ 0 → xE n T (xP3 n T p X).2 = Y → Fr (1505 :: 3502 :: aS) [17, 18, 19, 32] w0 g g' → LA n T Y g' → Q (0, g') := by
    intro Y g' d e F L
    rw [hQ, eZ, e]
    exact ⟨F, L, by rw [decide_eq_false d]; rfl, fun z => absurd z d⟩
  unfold fA_Reader_readPlane
  rw [bv_eq, hD.1.2.2.2.1, show (4 : Int32) = nI 4 from rfl, ite_ltn (by omega) (by decide)]
  by_cases hP : pP p < 4
  · rw [if_pos hP]
    have e0 : xP0 n T p X = xF n T p X := if_pos hP
    have ha := (h.2.2.1 h0).2.1
    refine stF hx h h0 hD hW (fun g' F L d => ?_) (fun g3 F3 L3 z3 w3 => ?_)
    · refine out _ g' d ?_ (F.wd (by decide) (by simp) (by simp)) L
      unfold xP3 xP2 xP1
      rw [e0, xM_dead d, xNu2_dead d, xM_dead d, xNu2_dead d, xM_dead d, xNu2_dead d, xE_dead d]
    dsimp only
    have ok0 := xF_ok h0 ha z3
    rw [← e0] at L3 z3 w3 ok0
    have A3 := L3.2.2.1 z3
    rw [ck_nI hP (by decide), bv_eq, nI_clamp (by omega), w3]
    obtain ⟨g4, eg4⟩ : ∃ g4, g4 = sA g3 17 (pP p) (nI (cdw T (xP0 n T p X))) := ⟨_, rfl⟩
    rw [← eg4]
    have F34 : Fr [] [17] w0 g3 g4 := by rw [eg4]; exact Fr.rf.sA (by simp)
    have F4 : Fr aS [17] w0 g g4 := (F3.wd (by decide) (by simp) (by simp)).tr F34 (by simp) (by simp) (by simp)
    have v17 : g4.2.1 17 = upd (g.2.1 17) (pP p) (nI (cdw T (xP0 n T p X))) := by rw [eg4, sA_21, if_pos rfl, F3.2.1 17 (by simp)]
    refine stW hx (L3.fr F34 (by simp) (by simp)) z3 (by decide) (fun g' F L d => ?_) (fun g5 F5 L5 z5 => ?_)
    · refine out _ g' d ?_ ((F4.wd (by decide) (by decide) (by simp)).tr F (by decide) (by simp) (by simp)) L
      unfold xP3 xP2 xP1
      rw [xNu2_dead d, xM_dead d, xNu2_dead d, xM_dead d, xNu2_dead d, xE_dead d]
    dsimp only
    have A5 := (L5.2.2.1 z5).2.1
    have F45 : Fr aS [17] w0 g g5 := F4.tr F5 (by decide) (by simp) (by simp)
    have cC : (g5.1 1500 - 1 : Int32) = nI (pC p - 1) := by rw [F45.1 1500 (by decide), hD.1.1]; exact nI_sub (b := 1) (by omega)
    rw [cC]
    refine stN (lo := 0) hx L5 z5 (by decide) (by omega) (fun g' F L d => ?_) (fun g6 F6 L6 z6 v6 => ?_)
    · refine out _ g' d ?_ ((F45.wd (by decide) (by decide) (by simp)).tr F (by decide) (by simp) (by simp)) L
      unfold xP3 xP2 xP1
      unfold xP1 at d
      rw [xM_dead d, xNu2_dead d, xM_dead d, xNu2_dead d, xE_dead d]
    dsimp only
    have ok1 := xNu_ok z5 A5 z6
    have e1 : xNu n T 0 (pC p - 1) (xM n T 4 (xP0 n T p X)) = xP1 n T p X := rfl
    rw [e1] at L6 z6 v6 ok1
    have F46 : Fr aS [17] w0 g g6 := F45.tr F6 (by decide) (by simp) (by simp)
    rw [ck_nI hP (by decide), bv_eq, v6]
    obtain ⟨g7, eg7⟩ : ∃ g7, g7 = sA g6 32 (pP p) (nI (xP1 n T p X).1) := ⟨_, rfl⟩
    rw [← eg7]
    have F67 : Fr [] [32] w0 g6 g7 := by rw [eg7]; exact Fr.rf.sA (by simp)
    have F7 : Fr aS [17, 32] w0 g g7 := (F46.wd (by simp) (by simp) (by simp)).tr F67 (by simp) (by simp) (by simp)
    have v32 : g7.2.1 32 = upd (g.2.1 32) (pP p) (nI (xP1 n T p X).1) := by rw [eg7, sA_21, if_pos rfl, F46.2.1 32 (by simp)]
    have v17 : g7.2.1 17 = upd (g.2.1 17) (pP p) (nI (cdw T (xP0 n T p X))) := by rw [F67.2.1 17 (by simp), F6.2.1 17 (by simp), F5.2.1 17 (by simp), v17]
    refine stW hx (L6.fr F67 (by simp) (by simp)) z6 (by decide) (fun g' F L d => ?_) (fun g8 F8 L8 z8 => ?_)
    · refine out _ g' d ?_ ((F7.wd (by decide) (by decide) (by simp)).tr F (by decide) (by simp) (by simp)) L
      unfold xP3 xP2
      rw [xNu2_dead d, xM_dead d, xNu2_dead d, xE_dead d]
    dsimp only
    have A8 := (L8.2.2.1 z8).2.1
    have F78 : Fr aS [17, 32] w0 g g8 := F7.tr F8 (by decide) (by simp) (by simp)
    have cR : (g8.1 1501 / 2 : Int32) = nI (pR p / 2) := by rw [F78.1 1501 (by decide), hD.1.2.1]; exact n_div (b := 2) (by omega) (by decide)
    rw [show (2 : Int32) = nI 2 from rfl, n_dz (by decide) (by decide), show (g8.1 1501 / nI 2 : Int32) = nI (pR p / 2) from cR]
    refine stN (lo := 0) hx L8 z8 (by decide) (by omega) (fun g' F L d => ?_) (fun g9 F9 L9 z9 v9 => ?_)
    · refine out _ g' d ?_ ((F78.wd (by decide) (by decide) (by simp)).tr F (by decide) (by simp) (by simp)) L
      unfold xP3 xP2
      rw [xM_dead d, xNu2_dead d, xE_dead d]
    dsimp only
    have ok2 := xNu_ok z8 A8 z9
    have e2 : xNu n T 0 (pR p / 2) (xM n T 5 (xP1 n T p X).2) = xP2 n T p X := rfl
    rw [e2] at L9 z9 v9 ok2
    have F79 : Fr aS [17, 32] w0 g g9 := F78.tr F9 (by decide) (by simp) (by simp)
    rw [ck_nI hP (by decide), bv_eq, v9]
    obtain ⟨g10, eg10⟩ : ∃ g10, g10 = sA g9 18 (pP p) (nI (xP2 n T p X).1) := ⟨_, rfl⟩
    rw [← eg10]
    have F910 : Fr [] [18] w0 g9 g10 := by rw [eg10]; exact Fr.rf.sA (by simp)
    have F10 : Fr aS [17, 18, 32] w0 g g10 := (F79.wd (by simp) (by simp) (by simp)).tr F910 (by simp) (by simp) (by simp)
    have v18 : g10.2.1 18 = upd (g.2.1 18) (pP p) (nI (xP2 n T p X).1) := by rw [eg10, sA_21, if_pos rfl, F79.2.1 18 (by simp)]
    have v17 : g10.2.1 17 = upd (g.2.1 17) (pP p) (nI (cdw T (xP0 n T p X))) := by rw [F910.2.1 17 (by simp), F9.2.1 17 (by simp), F8.2.1 17 (by simp), v17]
    have v32 : g10.2.1 32 = upd (g.2.1 32) (pP p) (nI (xP1 n T p X).1) := by rw [F910.2.1 32 (by simp), F9.2.1 32 (by simp), F8.2.1 32 (by simp), v32]
    refine stW hx (L9.fr F910 (by simp) (by simp)) z9 (by decide) (fun g' F L d => ?_) (fun g11 F11 L11 z11 => ?_)
    · refine out _ g' d ?_ ((F10.wd (by decide) (by decide) (by simp)).tr F (by decide) (by simp) (by simp)) L
      unfold xP3
      rw [xNu2_dead d, xE_dead d]
    dsimp only
    have A11 := (L11.2.2.1 z11).2.1
    have F1011 : Fr aS [17, 18, 32] w0 g g11 := F10.tr F11 (by decide) (by simp) (by simp)
    refine stN (lo := 2) (hi := 96) hx L11 z11 (by decide) (by decide) (fun g' F L d => ?_) (fun g12 F12 L12 z12 v12 => ?_)
    · refine out _ g' d ?_ ((F1011.wd (by decide) (by decide) (by simp)).tr F (by decide) (by simp) (by simp)) L
      unfold xP3
      rw [xE_dead d]
    dsimp only
    have ok3 := xNu_ok z11 A11 z12
    have e3 : xNu n T 2 96 (xM n T 6 (xP2 n T p X).2) = xP3 n T p X := rfl
    rw [e3] at L12 z12 v12 ok3
    have F1012 : Fr aS [17, 18, 32] w0 g g12 := F1011.tr F12 (by decide) (by simp) (by simp)
    rw [ck_nI hP (by decide), bv_eq, v12, bv_eq]
    obtain ⟨g14, eg14⟩ : ∃ g14, g14 = sS (sA g12 19 (pP p) (nI (xP3 n T p X).1)) 1505 ((sA g12 19 (pP p) (nI (xP3 n T p X).1)).1 1505 + 1) := ⟨_, rfl⟩
    rw [← eg14]
    have F1214 : Fr [1505] [19] w0 g12 g14 := by rw [eg14]; exact (Fr.rf.sA (by simp)).sS (by simp)
    have F14 : Fr (1505 :: 3502 :: aS) [17, 18, 19, 32] w0 g g14 := (F1012.wd (by decide) (by decide) (by simp)).tr F1214 (by decide) (by decide) (by simp)
    have v19 : g14.2.1 19 = upd (g.2.1 19) (pP p) (nI (xP3 n T p X).1) := by
      rw [eg14]
      show (sA g12 19 (pP p) (nI (xP3 n T p X).1)).2.1 19 = _
      rw [sA_21, if_pos rfl, F1012.2.1 19 (by simp)]
    have v1505 : g14.1 1505 = nI (pP p + 1) := by
      rw [eg14]
      show g12.1 1505 + 1 = _
      rw [F1012.1 1505 (by decide), hD.1.2.2.2.1]
      exact nI_add _ 1
    have v17 : g14.2.1 17 = upd (g.2.1 17) (pP p) (nI (cdw T (xP0 n T p X))) := by rw [F1214.2.1 17 (by simp), F12.2.1 17 (by simp), F11.2.1 17 (by simp), v17]
    have v32 : g14.2.1 32 = upd (g.2.1 32) (pP p) (nI (xP1 n T p X).1) := by rw [F1214.2.1 32 (by simp), F12.2.1 32 (by simp), F11.2.1 32 (by simp), v32]
    have v18 : g14.2.1 18 = upd (g.2.1 18) (pP p) (nI (xP2 n T p X).1) := by rw [F1214.2.1 18 (by simp), F12.2.1 18 (by simp), F11.2.1 18 (by simp), v18]
    have hord : X.2.2.1 < (xP3 n T p X).2.2.2.1 := by
      have m4 : (xP0 n T p X).2.2.1 ≤ (xM n T 4 (xP0 n T p X)).2.2.1 := xM_mono z3 A3.2.1 z5
      have m5 : (xP1 n T p X).2.2.2.1 ≤ (xM n T 5 (xP1 n T p X).2).2.2.1 := xM_mono z6 (L6.2.2.1 z6).2.1 z8
      have m6 : (xP2 n T p X).2.2.2.1 ≤ (xM n T 6 (xP2 n T p X).2).2.2.1 := xM_mono z9 (L9.2.2.1 z9).2.1 z11
      have := ok0.2.2.1.1
      have := ok0.2.2.2
      omega
    refine (endA hx (L12.fr F1214 (by simp) (by simp)) z12 (Nat.le_of_lt ok3.2.1)).bind ?_
    rintro ⟨r, g15⟩ ⟨F15, L15, e15, n15⟩
    have F15 : Fr (3502 :: aS) [] w0 g14 g15 := F15
    have e15 : r = bI (decide ((xE n T (xP3 n T p X).2).1 = 0)) := e15
    dsimp only at L15 n15 ⊢
    rw [← eZ] at L15 n15 e15
    rw [e15, btb, hQ]
    refine Sat.of ⟨F14.tr F15 (by decide) (by simp) (by simp), L15, rfl, fun zz => ?_⟩
    have hDW : DW (plP n T p X) (plF n T p f X) := DWadP hW hP (fun i _ => ok0.2.2.1.b i) (by omega) ok2.1.2.1 ⟨ok3.1.1, ok3.1.2.1⟩
    have hDA : DA (plP n T p X) (plF n T p f X) g14 := DAadP hD hW F14 (by decide) (by decide) hP v1505 v17 v18 v19 v32
    have ez : Z = (0, 0, skp n T (xP3 n T p X).2.2.2.1 + 1, (xP3 n T p X).2.2.2.2) := by
      rw [eZ] at zz ⊢
      exact xE_ok z12 zz
    have sk' := skp_all T (L12.2.2.1 z12).2.1
    refine ⟨hDA.fr F15 (by decide) (by simp), hDW, ?_, ?_, ?_⟩
    · rw [ez]
      dsimp only
      omega
    · rw [ez]
      dsimp only
      have := ok3.2.1
      omega
    · show g15.1 3502 = _
      rw [n15 zz, F1214.1 3502 (by decide), F1012.1 3502 (by decide)]
  · rw [if_neg hP]
    have e0 : xP0 n T p X = fl 5 X.2.2.2 := if_neg hP
    obtain ⟨g2, e2, F2, L2⟩ := failA (k := 5) (w := X.2.2.2) h.1 (by decide) (by decide)
    rw [(h.2.2.1 h0).2.2.2.2 hs, show (5 : Int32) = nI 5 from rfl, e2, Option.bind_some]
    dsimp only
    rw [btz]
    have d : (fl 5 X.2.2.2).1 ≠ 0 := by show ¬ (5 : Nat) = 0; decide
    refine Sat.of (out _ g2 d ?_ (F2.wd (by decide) (by simp) (by simp)) L2)
    unfold xP3 xP2 xP1
    rw [e0, xM_dead d, xNu2_dead d, xM_dead d, xNu2_dead d, xM_dead d, xNu2_dead d, xE_dead d]

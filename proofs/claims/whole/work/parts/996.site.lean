/-! THE TEXT: a site -/
def adS (p : Pl) (l : Nat → Nat) (x y a b : Nat) : Pl := (fun i => if i = 6 then pS p + 1 else p.1 i, fun j => if j = 3 then upn (p.2 3) (pS p) x else if j = 4 then upn (p.2 4) (pS p) y else if j = 5 then upn (p.2 5) (pS p) a else if j = 6 then upn (p.2 6) (pS p) b else if j = 7 + (12 + pS p) then l else p.2 j)
theorem nm_adS {p : Pl} {l : Nat → Nat} {x y a b w : Nat} : nm (adS p l x y a b) w = if w = 12 + pS p then l else nm p w := by
  unfold nm
  show (if 7 + w = 3 then _ else if 7 + w = 4 then _ else if 7 + w = 5 then _ else if 7 + w = 6 then _ else if 7 + w = 7 + (12 + pS p) then l else p.2 (7 + w)) = _
  rw [if_neg (by omega), if_neg (by omega), if_neg (by omega), if_neg (by omega)]
  by_cases e : w = 12 + pS p
  · rw [if_pos e, if_pos (by omega)]
  · rw [if_neg e, if_neg (by omega)]
theorem adS_sx {p : Pl} {l : Nat → Nat} {x y a b : Nat} (j : Nat) (h : j < 3) : (adS p l x y a b).2 j = p.2 j := by
  show (if j = 3 then _ else if j = 4 then _ else if j = 5 then _ else if j = 6 then _ else if j = 7 + (12 + pS p) then l else p.2 j) = _
  rw [if_neg (by omega), if_neg (by omega), if_neg (by omega), if_neg (by omega), if_neg (by omega)]
theorem DWadS {p : Pl} {f : Fl} (h : DW p f) (hS : pS p < 6) {l : Nat → Nat} {x y a b : Nat} (hl : ∀ i, i < 6 → l i < 32) (hx : x < pC p) (hy : y < pR p) (ha : a < b) (hb : b ≤ pD p) : DW (adS p l x y a b) f := by
  obtain ⟨h1, h2, h3, h4, h5, h6, h7⟩ := h
  have e0 : tl (adS p l x y a b) = tl p := adS_sx 0 (by omega)
  have e1 : tu (adS p l x y a b) = tu p := adS_sx 1 (by omega)
  have e2 : hm (adS p l x y a b) = hm p := adS_sx 2 (by omega)
  refine ⟨⟨h1.1, h1.2.1, h1.2.2.1, h1.2.2.2.1, h1.2.2.2.2.1, h1.2.2.2.2.2.1, h1.2.2.2.2.2.2.1, h1.2.2.2.2.2.2.2.1, ?_⟩, ?_, ?_, fun s hs => ?_, fun w i hw hi => ?_, ⟨h6.1, ?_⟩, h7⟩
  · show pS p + 1 ≤ 6
    omega
  · rw [e0, e1]
    exact h2
  · rw [e2]
    exact h3
  · have hs : s < pS p + 1 := hs
    show upn (sx p) (pS p) x s < pC p ∧ upn (sy p) (pS p) y s < pR p ∧ upn (sf p) (pS p) a s < upn (st p) (pS p) b s ∧ upn (st p) (pS p) b s ≤ pD p
    by_cases e : s = pS p
    · rw [e, upn_self, upn_self, upn_self, upn_self]
      exact ⟨hx, hy, ha, hb⟩
    · rw [upn_ne _ _ e, upn_ne _ _ e, upn_ne _ _ e, upn_ne _ _ e]
      exact h4 s (by omega)
  · rw [nm_adS]
    by_cases e : w = 12 + pS p
    · rw [if_pos e]
      exact hl i hi
    · rw [if_neg e]
      refine h5 w i ?_ hi
      rcases hw with z | z | z
      · exact Or.inl z
      · exact Or.inr (Or.inl z)
      · have z : 12 ≤ w ∧ w < 12 + (pS p + 1) := z
        omega
  · rw [e1, e2]
    exact h6.2
theorem DAadS {p : Pl} {f : Fl} {g g' : G} {S U : List Nat} {w : Bool × Bool × Bool} (h : DA p f g) (hW : DW p f) (F : Fr S U w g g') (hS : ∀ k ∈ S, ((k < 1500 ∨ 1507 < k) ∨ k = 1507) ∧ k ≠ 3100) (hU : ∀ k ∈ U, k < 17 ∨ (22 ≤ k ∧ k ≤ 26) ∨ 34 < k) {l : Nat → Nat} {x y a b : Nat} (hS6 : pS p < 6)
    (e0 : g'.1 1507 = nI (pS p + 1)) (e1 : g'.2.1 22 = upd (g.2.1 22) (pS p) (nI (pkN l))) (e2 : g'.2.1 23 = upd (g.2.1 23) (pS p) (nI x)) (e3 : g'.2.1 24 = upd (g.2.1 24) (pS p) (nI y)) (e4 : g'.2.1 25 = upd (g.2.1 25) (pS p) (nI a)) (e5 : g'.2.1 26 = upd (g.2.1 26) (pS p) (nI b)) : DA (adS p l x y a b) f g' := by
  have s : ∀ k, (1500 ≤ k ∧ k ≤ 1506) ∨ k = 3100 → g'.1 k = g.1 k := fun k h1 => F.1 k (fun m => by have := hS k m; omega)
  have ar : ∀ k, (17 ≤ k ∧ k ≤ 21) ∨ (32 ≤ k ∧ k ≤ 34) → g'.2.1 k = g.2.1 k := fun k h1 => F.2.1 k (fun m => by have := hU k m; omega)
  obtain ⟨h1, h2, h3, h4, h5⟩ := h
  have e0' : tl (adS p l x y a b) = tl p := adS_sx 0 (by omega)
  have e1' : tu (adS p l x y a b) = tu p := adS_sx 1 (by omega)
  have e2' : hm (adS p l x y a b) = hm p := adS_sx 2 (by omega)
  have bb := hW.1
  refine ⟨⟨(s 1500 (by omega)).trans h1.1, (s 1501 (by omega)).trans h1.2.1, (s 1502 (by omega)).trans h1.2.2.1, (s 1505 (by omega)).trans h1.2.2.2.1, (s 1506 (by omega)).trans h1.2.2.2.2.1, e0⟩, fun q hq => ?_, fun c hc => ?_, fun z hz => ?_, ⟨(s 3100 (by omega)).trans h5.1, fun q hq => ?_, fun c hc => ?_⟩⟩
  · have hq : q < pP p := hq
    rw [e0', e1', nm_adS, if_neg (by omega), ar 17 (by omega), ar 18 (by omega), ar 19 (by omega)]
    exact h2 q hq
  · have hc : c < pK p := hc
    rw [e2', nm_adS, if_neg (by omega), ar 20 (by omega), ar 21 (by omega)]
    exact h3 c hc
  · have hz : z < pS p + 1 := hz
    rw [e1, e2, e3, e4, e5, nm_adS]
    show _ = nI (upn (sx p) (pS p) x z) ∧ _ = nI (upn (sy p) (pS p) y z) ∧ _ = nI (upn (sf p) (pS p) a z) ∧ _ = nI (upn (st p) (pS p) b z) ∧ _
    by_cases e : z = pS p
    · rw [e, upd_self, upd_self, upd_self, upd_self, upd_self, upn_self, upn_self, upn_self, upn_self, if_pos rfl]
      exact ⟨rfl, rfl, rfl, rfl, rfl⟩
    · rw [upd_ne _ _ e, upd_ne _ _ e, upd_ne _ _ e, upd_ne _ _ e, upd_ne _ _ e, upn_ne _ _ e, upn_ne _ _ e, upn_ne _ _ e, upn_ne _ _ e, if_neg (by omega)]
      exact h4 z (by omega)
  · show g'.2.1 32 q = _
    rw [ar 32 (by omega)]
    exact h5.2.1 q hq
  · show g'.2.1 33 c = _ ∧ g'.2.1 34 c = _
    rw [ar 33 (by omega), ar 34 (by omega)]
    exact h5.2.2 c hc
theorem DBadS {p : Pl} {f : Fl} {g g' : G} {S U : List Nat} {w : Bool × Bool × Bool} (h : DB p f g) (hW : DW p f) (F : Fr S U w g g') (hS : ∀ k ∈ S, k < 18 ∨ 23 < k ∨ k = 23) (hU : ∀ k ∈ U, k < 9 ∨ k = 15 ∨ k = 16 ∨ 16 < k) {l : Nat → Nat} {x y a b : Nat} (hS6 : pS p < 6)
    (e0 : g'.1 23 = nI (pS p + 1)) (e1 : g'.2.1 15 = upd (upd (upd (upd (g.2.1 15) (4 * pS p) (nI x)) (4 * pS p + 1) (nI y)) (4 * pS p + 2) (nI a)) (4 * pS p + 3) (nI b)) (e4 : ∀ j, ¬ (6 * (12 + pS p) ≤ j ∧ j < 6 * (12 + pS p) + 6) → g'.2.1 16 j = g.2.1 16 j) (e5 : ∀ i, i < 6 → g'.2.1 16 (6 * (12 + pS p) + i) = nI (l i)) : DB (adS p l x y a b) f g' := by
  have s : ∀ k, (18 ≤ k ∧ k ≤ 22) → g'.1 k = g.1 k := fun k h1 => F.1 k (fun m => by have := hS k m; omega)
  have ar : ∀ k, (9 ≤ k ∧ k ≤ 14) → g'.2.1 k = g.2.1 k := fun k h1 => F.2.1 k (fun m => by have := hU k m; omega)
  obtain ⟨h1, h2, h3, h4, h5⟩ := h
  have e0' : tl (adS p l x y a b) = tl p := adS_sx 0 (by omega)
  have e1' : tu (adS p l x y a b) = tu p := adS_sx 1 (by omega)
  have e2' : hm (adS p l x y a b) = hm p := adS_sx 2 (by omega)
  have bb := hW.1
  refine ⟨⟨(s 18 (by omega)).trans h1.1, (s 19 (by omega)).trans h1.2.1, (s 20 (by omega)).trans h1.2.2.1, (s 21 (by omega)).trans h1.2.2.2.1, (s 22 (by omega)).trans h1.2.2.2.2.1, e0⟩, fun q hq => ?_, fun c hc => ?_, fun z hz => ?_, fun w i hw hi => ?_⟩
  · rw [e0', e1', ar 9 (by omega), ar 10 (by omega), ar 11 (by omega)]
    exact h2 q hq
  · rw [e2', ar 12 (by omega), ar 13 (by omega), ar 14 (by omega)]
    exact h3 c hc
  · have hz : z < pS p + 1 := hz
    rw [e1]
    show _ = nI (upn (sx p) (pS p) x z) ∧ _ = nI (upn (sy p) (pS p) y z) ∧ _ = nI (upn (sf p) (pS p) a z) ∧ _ = nI (upn (st p) (pS p) b z)
    by_cases e : z = pS p
    · rw [e, upn_self, upn_self, upn_self, upn_self]
      refine ⟨?_, ?_, ?_, ?_⟩
      · rw [upd_ne _ _ (by omega), upd_ne _ _ (by omega), upd_ne _ _ (by omega), upd_self]
      · rw [upd_ne _ _ (by omega), upd_ne _ _ (by omega), upd_self]
      · rw [upd_ne _ _ (by omega), upd_self]
      · rw [upd_self]
    · rw [upn_ne _ _ e, upn_ne _ _ e, upn_ne _ _ e, upn_ne _ _ e]
      have far : ∀ k, k < 4 → upd (upd (upd (upd (g.2.1 15) (4 * pS p) (nI x)) (4 * pS p + 1) (nI y)) (4 * pS p + 2) (nI a)) (4 * pS p + 3) (nI b) (4 * z + k) = g.2.1 15 (4 * z + k) := by
        intro k hk
        rw [upd_ne _ _ (by omega), upd_ne _ _ (by omega), upd_ne _ _ (by omega), upd_ne _ _ (by omega)]
      have q := h4 z (by omega)
      exact ⟨(far 0 (by decide)).trans q.1, (far 1 (by decide)).trans q.2.1, (far 2 (by decide)).trans q.2.2.1, (far 3 (by decide)).trans q.2.2.2⟩
  · rw [nm_adS]
    by_cases e : w = 12 + pS p
    · rw [if_pos e, e]
      exact e5 i hi
    · rw [if_neg e, e4 _ (by omega)]
      refine h5 w i ?_ hi
      rcases hw with z | z | z
      · exact Or.inl z
      · exact Or.inr (Or.inl z)
      · have z : 12 ≤ w ∧ w < 12 + (pS p + 1) := z
        omega
def xS0 (n : Nat) (T : Nat → Nat) (p : Pl) (X : Xs) : Xs := if pS p < 6 then xF n T p X else fl 5 X.2.2.2
def xS1 (n : Nat) (T : Nat → Nat) (p : Pl) (X : Xs) : Nat × Xs := xNu n T 0 (pC p - 1) (xM n T 12 (xS0 n T p X))
def xS2 (n : Nat) (T : Nat → Nat) (p : Pl) (X : Xs) : Nat × Xs := xNu n T 0 (pR p - 1) (xS1 n T p X).2
def xS3 (n : Nat) (T : Nat → Nat) (p : Pl) (X : Xs) : Nat × Xs := xNu n T 0 (pD p - 1) (xM n T 13 (xS2 n T p X).2)
def xS4 (n : Nat) (T : Nat → Nat) (p : Pl) (X : Xs) : Nat × Xs := xNu n T ((xS3 n T p X).1 + 1) (pD p) (xM n T 14 (xS3 n T p X).2)
def siP (n : Nat) (T : Nat → Nat) (p : Pl) (X : Xs) : Pl := adS p (wl T (xS0 n T p X).2.2.2 (xS0 n T p X).2.2.1) (xS1 n T p X).1 (xS2 n T p X).1 (xS3 n T p X).1 (xS4 n T p X).1
set_option maxHeartbeats 2000000 in
theorem siteRA {n : Nat} {T : Nat → Nat} {p : Pl} {f : Fl} {X : Xs} {g : G} (hx : TX n T) (h : LA n T X g) (h0 : X.1 = 0) (hs : X.2.2.2 ≤ X.2.2.1) (hD : DA p f g) (hW : DW p f) :
    Sat (fA_Reader_readSite g) (fun r => Fr (1507 :: 3502 :: aS) [22, 23, 24, 25, 26] w0 g r.2 ∧ LA n T (xE n T (xS4 n T p X).2) r.2 ∧ r.1 = bI (decide ((xE n T (xS4 n T p X).2).1 = 0)) ∧ ((xE n T (xS4 n T p X).2).1 = 0 → DA (siP n T p X) f r.2 ∧ DW (siP n T p X) f ∧ X.2.2.1 < (xE n T (xS4 n T p X).2).2.2.1 ∧ (xE n T (xS4 n T p X).2).2.2.2 ≤ (xE n T (xS4 n T p X).2).2.2.1 ∧ r.2.1 3502 = g.1 3502 + 1)) := by
  have b := hW.1
  have hn := hx.1
  obtain ⟨Z, eZ⟩ : ∃ Z, Z = xE n T (xS4 n T p X).2 := ⟨_, rfl⟩
  obtain ⟨Q, hQ⟩ : ∃ Q : Int32 × G → Prop, Q = fun r => Fr (1507 :: 3502 :: aS) [22, 23, 24, 25, 26] w0 g r.2 ∧ LA n T Z r.2 ∧ r.1 = bI (decide (Z.1 = 0)) ∧ (Z.1 = 0 → DA (siP n T p X) f r.2 ∧ DW (siP n T p X) f ∧ X.2.2.1 < Z.2.2.1 ∧ Z.2.2.2 ≤ Z.2.2.1 ∧ r.2.1 3502 = g.1 3502 + 1) := ⟨_, rfl⟩
  rw [← eZ, ← hQ]
  have out : ∀ (Y : Xs) (g' : G), Y.1 ≠ 0 → xE n T (xS4 n T p X).2 = Y → Fr (1507 :: 3502 :: aS) [22, 23, 24, 25, 26] w0 g g' → LA n T Y g' → Q (0, g') := by
    intro Y g' d e F L
    rw [hQ, eZ, e]
    exact ⟨F, L, by rw [decide_eq_false d]; rfl, fun z => absurd z d⟩
  unfold fA_Reader_readSite
  rw [bv_eq, hD.1.2.2.2.2.2, show (6 : Int32) = nI 6 from rfl, ite_ltn (by omega) (by decide)]
  by_cases hS : pS p < 6
  · rw [if_pos hS]
    have e0 : xS0 n T p X = xF n T p X := if_pos hS
    have ha := (h.2.2.1 h0).2.1
    refine stF hx h h0 hD hW (fun g' F L d => ?_) (fun g3 F3 L3 z3 w3 => ?_)
    · refine out _ g' d ?_ (F.wd (by decide) (by simp) (by simp)) L
      unfold xS4 xS3 xS2 xS1
      rw [e0, xM_dead d, xNu2_dead d, xNu2_dead d, xM_dead d, xNu2_dead d, xM_dead d, xNu2_dead d, xE_dead d]
    dsimp only
    have ok0 := xF_ok h0 ha z3
    rw [← e0] at L3 z3 w3 ok0
    have A3 := L3.2.2.1 z3
    rw [ck_nI hS (by decide), bv_eq, nI_clamp (by omega), w3]
    obtain ⟨g4, eg4⟩ : ∃ g4, g4 = sA g3 22 (pS p) (nI (cdw T (xS0 n T p X))) := ⟨_, rfl⟩
    rw [← eg4]
    have F34 : Fr [] [22] w0 g3 g4 := by rw [eg4]; exact Fr.rf.sA (by simp)
    have F4 : Fr aS [22] w0 g g4 := (F3.wd (by decide) (by simp) (by simp)).tr F34 (by simp) (by simp) (by simp)
    have v22 : g4.2.1 22 = upd (g.2.1 22) (pS p) (nI (cdw T (xS0 n T p X))) := by rw [eg4, sA_21, if_pos rfl, F3.2.1 22 (by simp)]
    refine stW hx (L3.fr F34 (by simp) (by simp)) z3 (by decide) (fun g' F L d => ?_) (fun g5 F5 L5 z5 => ?_)
    · refine out _ g' d ?_ ((F4.wd (by decide) (by decide) (by simp)).tr F (by decide) (by simp) (by simp)) L
      unfold xS4 xS3 xS2 xS1
      rw [xNu2_dead d, xNu2_dead d, xM_dead d, xNu2_dead d, xM_dead d, xNu2_dead d, xE_dead d]
    dsimp only
    have A5 := (L5.2.2.1 z5).2.1
    have F45 : Fr aS [22] w0 g g5 := F4.tr F5 (by decide) (by simp) (by simp)
    have cC : (g5.1 1500 - 1 : Int32) = nI (pC p - 1) := by rw [F45.1 1500 (by decide), hD.1.1]; exact nI_sub (b := 1) (by omega)
    rw [cC]
    refine stN (lo := 0) hx L5 z5 (by decide) (by omega) (fun g' F L d => ?_) (fun g6 F6 L6 z6 v6 => ?_)
    · refine out _ g' d ?_ ((F45.wd (by decide) (by decide) (by simp)).tr F (by decide) (by simp) (by simp)) L
      unfold xS4 xS3 xS2 xS1
      rw [xNu2_dead d, xM_dead d, xNu2_dead d, xM_dead d, xNu2_dead d, xE_dead d]
    dsimp only
    have ok1 := xNu_ok z5 A5 z6
    have e1 : xNu n T 0 (pC p - 1) (xM n T 12 (xS0 n T p X)) = xS1 n T p X := rfl
    rw [e1] at L6 z6 v6 ok1
    have F46 : Fr aS [22] w0 g g6 := F45.tr F6 (by decide) (by simp) (by simp)
    rw [ck_nI hS (by decide), bv_eq, v6]
    obtain ⟨g7, eg7⟩ : ∃ g7, g7 = sA g6 23 (pS p) (nI (xS1 n T p X).1) := ⟨_, rfl⟩
    rw [← eg7]
    have F67 : Fr [] [23] w0 g6 g7 := by rw [eg7]; exact Fr.rf.sA (by simp)
    have F7 : Fr aS [22, 23] w0 g g7 := (F46.wd (by simp) (by simp) (by simp)).tr F67 (by simp) (by simp) (by simp)
    have v23 : g7.2.1 23 = upd (g.2.1 23) (pS p) (nI (xS1 n T p X).1) := by rw [eg7, sA_21, if_pos rfl, F46.2.1 23 (by simp)]
    have F4_7 : Fr aS [23] w0 g4 g7 := ((F5.wd (by decide) (by simp) (by simp)).tr F6 (by decide) (by simp) (by simp)).tr F67 (by simp) (by simp) (by simp)
    have L7 := L6.fr F67 (by simp) (by simp)
    have A7 := (L7.2.2.1 z6).2.1
    have cR : (g7.1 1501 - 1 : Int32) = nI (pR p - 1) := by rw [F7.1 1501 (by decide), hD.1.2.1]; exact nI_sub (b := 1) (by omega)
    rw [cR]
    refine stN (lo := 0) hx L7 z6 (by decide) (by omega) (fun g' F L d => ?_) (fun g8 F8 L8 z8 v8 => ?_)
    · refine out _ g' d ?_ ((F7.wd (by decide) (by decide) (by simp)).tr F (by decide) (by simp) (by simp)) L
      unfold xS4 xS3 xS2
      rw [xM_dead d, xNu2_dead d, xM_dead d, xNu2_dead d, xE_dead d]
    dsimp only
    have ok2 := xNu_ok z6 A7 z8
    have e2 : xNu n T 0 (pR p - 1) (xS1 n T p X).2 = xS2 n T p X := rfl
    rw [e2] at L8 z8 v8 ok2
    have F78 : Fr aS [22, 23] w0 g g8 := F7.tr F8 (by decide) (by simp) (by simp)
    rw [ck_nI hS (by decide), bv_eq, v8]
    obtain ⟨g9, eg9⟩ : ∃ g9, g9 = sA g8 24 (pS p) (nI (xS2 n T p X).1) := ⟨_, rfl⟩
    rw [← eg9]
    have F89 : Fr [] [24] w0 g8 g9 := by rw [eg9]; exact Fr.rf.sA (by simp)
    have F9 : Fr aS [22, 23, 24] w0 g g9 := (F78.wd (by simp) (by simp) (by simp)).tr F89 (by simp) (by simp) (by simp)
    have v24 : g9.2.1 24 = upd (g.2.1 24) (pS p) (nI (xS2 n T p X).1) := by rw [eg9, sA_21, if_pos rfl, F78.2.1 24 (by simp)]
    have F7_9 : Fr aS [24] w0 g7 g9 := (F8.wd (by decide) (by simp) (by simp)).tr F89 (by simp) (by simp) (by simp)
    refine stW hx (L8.fr F89 (by simp) (by simp)) z8 (by decide) (fun g' F L d => ?_) (fun g10 F10 L10 z10 => ?_)
    · refine out _ g' d ?_ ((F9.wd (by decide) (by decide) (by simp)).tr F (by decide) (by simp) (by simp)) L
      unfold xS4 xS3
      rw [xNu2_dead d, xM_dead d, xNu2_dead d, xE_dead d]
    dsimp only
    have A10 := (L10.2.2.1 z10).2.1
    have F910 : Fr aS [22, 23, 24] w0 g g10 := F9.tr F10 (by decide) (by simp) (by simp)
    have cD : (g10.1 1502 - 1 : Int32) = nI (pD p - 1) := by rw [F910.1 1502 (by decide), hD.1.2.2.1]; exact nI_sub (b := 1) (by omega)
    rw [cD]
    refine stN (lo := 0) hx L10 z10 (by decide) (by omega) (fun g' F L d => ?_) (fun g11 F11 L11 z11 v11 => ?_)
    · refine out _ g' d ?_ ((F910.wd (by decide) (by decide) (by simp)).tr F (by decide) (by simp) (by simp)) L
      unfold xS4 xS3
      rw [xM_dead d, xNu2_dead d, xE_dead d]
    dsimp only
    have ok3 := xNu_ok z10 A10 z11
    have e3 : xNu n T 0 (pD p - 1) (xM n T 13 (xS2 n T p X).2) = xS3 n T p X := rfl
    rw [e3] at L11 z11 v11 ok3
    have F911 : Fr aS [22, 23, 24] w0 g g11 := F910.tr F11 (by decide) (by simp) (by simp)
    rw [ck_nI hS (by decide), bv_eq, v11]
    obtain ⟨g12, eg12⟩ : ∃ g12, g12 = sA g11 25 (pS p) (nI (xS3 n T p X).1) := ⟨_, rfl⟩
    rw [← eg12]
    have F1112 : Fr [] [25] w0 g11 g12 := by rw [eg12]; exact Fr.rf.sA (by simp)
    have F12 : Fr aS [22, 23, 24, 25] w0 g g12 := (F911.wd (by simp) (by simp) (by simp)).tr F1112 (by simp) (by simp) (by simp)
    have v25 : g12.2.1 25 = upd (g.2.1 25) (pS p) (nI (xS3 n T p X).1) := by rw [eg12, sA_21, if_pos rfl, F911.2.1 25 (by simp)]
    have F9_12 : Fr aS [25] w0 g9 g12 := ((F10.wd (by decide) (by simp) (by simp)).tr F11 (by decide) (by simp) (by simp)).tr F1112 (by simp) (by simp) (by simp)
    have n12 : g12.1 3510 = nI (xS3 n T p X).1 := by rw [F1112.1 3510 (by simp), v11]
    refine stW hx (L11.fr F1112 (by simp) (by simp)) z11 (by decide) (fun g' F L d => ?_) (fun g13 F13 L13 z13 => ?_)
    · refine out _ g' d ?_ ((F12.wd (by decide) (by decide) (by simp)).tr F (by decide) (by simp) (by simp)) L
      unfold xS4
      rw [xNu2_dead d, xE_dead d]
    dsimp only
    have A13 := (L13.2.2.1 z13).2.1
    have F1213 : Fr aS [22, 23, 24, 25] w0 g g13 := F12.tr F13 (by decide) (by simp) (by simp)
    rw [F13.1 3510 (by decide), n12, show (nI (xS3 n T p X).1 + 1 : Int32) = nI ((xS3 n T p X).1 + 1) from nI_add _ 1, F1213.1 1502 (by decide), hD.1.2.2.1]
    refine stN hx L13 z13 (by omega) (by omega) (fun g' F L d => ?_) (fun g14 F14 L14 z14 v14 => ?_)
    · refine out _ g' d ?_ ((F1213.wd (by decide) (by decide) (by simp)).tr F (by decide) (by simp) (by simp)) L
      unfold xS4
      rw [xE_dead d]
    dsimp only
    have ok4 := xNu_ok z13 A13 z14
    have e4 : xNu n T ((xS3 n T p X).1 + 1) (pD p) (xM n T 14 (xS3 n T p X).2) = xS4 n T p X := rfl
    rw [e4] at L14 z14 v14 ok4
    have F1214 : Fr aS [22, 23, 24, 25] w0 g g14 := F1213.tr F14 (by decide) (by simp) (by simp)
    rw [ck_nI hS (by decide), bv_eq, v14, bv_eq]
    obtain ⟨g15, eg15⟩ : ∃ g15, g15 = sA g14 26 (pS p) (nI (xS4 n T p X).1) := ⟨_, rfl⟩
    rw [← eg15]
    obtain ⟨g16, eg16⟩ : ∃ g16, g16 = sS g15 1507 (g15.1 1507 + 1) := ⟨_, rfl⟩
    rw [← eg16]
    have F1415 : Fr [] [26] w0 g14 g15 := by rw [eg15]; exact Fr.rf.sA (by simp)
    have F1516 : Fr [1507] [] w0 g15 g16 := by rw [eg16]; exact Fr.rf.sS (by simp)
    have F1416 : Fr [1507] [26] w0 g14 g16 := (F1415.wd (by simp) (by simp) (by simp)).tr F1516 (by simp) (by simp) (by simp)
    have F15 : Fr aS [22, 23, 24, 25, 26] w0 g g15 := (F1214.wd (by simp) (by simp) (by simp)).tr F1415 (by simp) (by simp) (by simp)
    have F16 : Fr (1507 :: 3502 :: aS) [22, 23, 24, 25, 26] w0 g g16 := (F1214.wd (by decide) (by simp) (by simp)).tr F1416 (by decide) (by simp) (by simp)
    have F12_16 : Fr (1507 :: aS) [26] w0 g12 g16 := ((F13.wd (by decide) (by simp) (by simp)).tr F14 (by decide) (by simp) (by simp)).tr F1416 (by simp) (by simp) (by simp)
    have c1507 : g16.1 1507 = nI (pS p + 1) := by
      rw [eg16]
      show g15.1 1507 + 1 = _
      rw [F15.1 1507 (by decide), hD.1.2.2.2.2.2]
      exact nI_add _ 1
    have v26 : g16.2.1 26 = upd (g.2.1 26) (pS p) (nI (xS4 n T p X).1) := by
      rw [F1516.2.1 26 (by simp), eg15, sA_21, if_pos rfl, F1214.2.1 26 (by simp)]
    have v25 : g16.2.1 25 = upd (g.2.1 25) (pS p) (nI (xS3 n T p X).1) := by rw [F12_16.2.1 25 (by simp), v25]
    have v24 : g16.2.1 24 = upd (g.2.1 24) (pS p) (nI (xS2 n T p X).1) := by rw [F12_16.2.1 24 (by simp), F9_12.2.1 24 (by simp), v24]
    have v23 : g16.2.1 23 = upd (g.2.1 23) (pS p) (nI (xS1 n T p X).1) := by rw [F12_16.2.1 23 (by simp), F9_12.2.1 23 (by simp), F7_9.2.1 23 (by simp), v23]
    have v22 : g16.2.1 22 = upd (g.2.1 22) (pS p) (nI (cdw T (xS0 n T p X))) := by rw [F12_16.2.1 22 (by simp), F9_12.2.1 22 (by simp), F7_9.2.1 22 (by simp), F4_7.2.1 22 (by simp), v22]
    have hord : X.2.2.1 < (xS4 n T p X).2.2.2.1 := by
      have m12 : (xS0 n T p X).2.2.1 ≤ (xM n T 12 (xS0 n T p X)).2.2.1 := xM_mono z3 A3.2.1 z5
      have m13 : (xS2 n T p X).2.2.2.1 ≤ (xM n T 13 (xS2 n T p X).2).2.2.1 := xM_mono z8 (L8.2.2.1 z8).2.1 z10
      have m14 : (xS3 n T p X).2.2.2.1 ≤ (xM n T 14 (xS3 n T p X).2).2.2.1 := xM_mono z11 (L11.2.2.1 z11).2.1 z13
      have q1 := ok0.2.2.1.1
      have q2 := ok0.2.2.2
      have q3 := ok1.2
      have q4 := ok2.2
      have q5 := ok3.2
      have q6 := ok4.2
      omega
    refine (endA hx (L14.fr F1416 (by simp) (by simp)) z14 (Nat.le_of_lt ok4.2.1)).bind ?_
    rintro ⟨r, g18⟩ ⟨F18, L18, e18, n18⟩
    have F18 : Fr (3502 :: aS) [] w0 g16 g18 := F18
    have e18 : r = bI (decide ((xE n T (xS4 n T p X).2).1 = 0)) := e18
    dsimp only at L18 n18 ⊢
    rw [← eZ] at L18 n18 e18
    rw [e18, btb, hQ]
    refine Sat.of ⟨F16.tr F18 (by decide) (by simp) (by simp), L18, rfl, fun zz => ?_⟩
    have hDW : DW (siP n T p X) f := DWadS hW hS (fun i _ => ok0.2.2.1.b i) (by omega) (by omega) (by omega) ok4.1.2.1
    have hDA : DA (siP n T p X) f g16 := DAadS hD hW F16 (by decide) (by decide) hS c1507 v22 v23 v24 v25 v26
    have ez : Z = (0, 0, skp n T (xS4 n T p X).2.2.2.1 + 1, (xS4 n T p X).2.2.2.2) := by
      rw [eZ] at zz ⊢
      exact xE_ok z14 zz
    have sk' := skp_all T (L14.2.2.1 z14).2.1
    refine ⟨hDA.fr F18 (by decide) (by simp), hDW, ?_, ?_, ?_⟩
    · rw [ez]
      dsimp only
      omega
    · rw [ez]
      dsimp only
      have := ok4.2.1
      omega
    · show g18.1 3502 = _
      rw [n18 zz, F1416.1 3502 (by decide), F1214.1 3502 (by decide)]
  · rw [if_neg hS]
    have e0 : xS0 n T p X = fl 5 X.2.2.2 := if_neg hS
    obtain ⟨g2, e2, F2, L2⟩ := failA (k := 5) (w := X.2.2.2) h.1 (by decide) (by decide)
    rw [(h.2.2.1 h0).2.2.2.2 hs, show (5 : Int32) = nI 5 from rfl, e2, Option.bind_some]
    dsimp only
    rw [btz]
    have d : (fl 5 X.2.2.2).1 ≠ 0 := by show ¬ (5 : Nat) = 0; decide
    refine Sat.of (out _ g2 d ?_ (F2.wd (by decide) (by simp) (by simp)) L2)
    unfold xS4 xS3 xS2 xS1
    rw [e0, xM_dead d, xNu2_dead d, xNu2_dead d, xM_dead d, xNu2_dead d, xM_dead d, xNu2_dead d, xE_dead d]
set_option maxHeartbeats 2000000 in
theorem siteRB {n : Nat} {T : Nat → Nat} {p : Pl} {f : Fl} {X : Xs} {g : G} (hx : TX n T) (h : LQ n T X g) (h0 : X.1 = 0) (hs : X.2.2.2 ≤ X.2.2.1) (hO : g.2.1 19 = gB0.2.1 19) (hD : DB p f g) (hW : DW p f) :
    Sat (fB_M_readsSite g) (fun g' => Fr (23 :: bS) [15, 16] w0 g g' ∧ LQ n T (xS4 n T p X).2 g' ∧ ((xS4 n T p X).2.1 = 0 → DB (siP n T p X) f g')) := by
  have b := hW.1
  have hn := hx.1
  unfold fB_M_readsSite
  rw [lj_eq, hD.1.2.2.2.2.2, show (6 : Int32) = nI 6 from rfl, ite_eqn (by omega) (by decide)]
  by_cases hS : pS p = 6
  · rw [if_pos hS]
    have e0 : xS0 n T p X = fl 5 X.2.2.2 := if_neg (by omega)
    obtain ⟨g2, e2, F2, L2⟩ := failB (k := 5) (w := X.2.2.2) h.1 (by rw [h.2.1.2, h0]) (by decide) (by decide)
    have d : (fl 5 X.2.2.2).1 ≠ 0 := by show ¬ (5 : Nat) = 0; decide
    have e3 : (xS4 n T p X).2 = fl 5 X.2.2.2 := by
      unfold xS4 xS3 xS2 xS1
      rw [e0, xM_dead d, xNu2_dead d, xNu2_dead d, xM_dead d, xNu2_dead d, xM_dead d, xNu2_dead d]
    rw [(h.2.2.1 h0).2.2.2 hs, show (5 : Int32) = nI 5 from rfl, e2, Option.bind_some]
    dsimp only
    rw [goesB L2, Option.bind_some, decide_eq_false d, if_pos b0, e3]
    exact Sat.of ⟨F2.wd (by decide) (by simp) (by simp), L2, fun z => absurd z d⟩
  · rw [if_neg hS]
    have hS : pS p < 6 := by omega
    have e0 : xS0 n T p X = xF n T p X := if_pos hS
    dsimp only
    rw [goesB h, Option.bind_some, decide_eq_true h0, if_neg b1, hD.1.2.2.2.2.2, show (12 + nI (pS p) : Int32) = nI (12 + pS p) from nI_add 12 _]
    refine (freshB hx h hO hD hW (by omega)).bind ?_
    rintro g3 ⟨F3, L3, k3, n3⟩
    rw [← e0] at L3 n3
    have O3 : g3.2.1 19 = gB0.2.1 19 := (F3.2.1 19 (by simp)).trans hO
    rw [bv_eq, F3.1 23 (by decide), hD.1.2.2.2.2.2, show (4 * nI (pS p) : Int32) = nI (4 * pS p) by rw [show (4 : Int32) = nI 4 from rfl, nI_mul], show (nI (4 * pS p) + 1 : Int32) = nI (4 * pS p + 1) from nI_add _ 1, show (nI (4 * pS p) + 2 : Int32) = nI (4 * pS p + 2) from nI_add _ 2, show (nI (4 * pS p) + 3 : Int32) = nI (4 * pS p + 3) from nI_add _ 3, F3.1 18 (by decide), hD.1.1, show (nI (pC p) - 1 : Int32) = nI (pC p - 1) from nI_sub (b := 1) (by omega)]
    refine (toldB (k := 12) (lo := 0) hx L3 O3 (by decide) (by decide) (by omega)).bind ?_
    rintro ⟨v4, g4⟩ ⟨F4, L4, w4⟩
    have F4 : Fr bS [] w0 g3 g4 := F4
    have L4 : LQ n T (xS1 n T p X).2 g4 := L4
    have w4 : v4 = nI (xS1 n T p X).1 := w4
    dsimp only
    rw [ck_nI (by omega) (by decide), bv_eq, nI_clamp (by omega), w4]
    obtain ⟨g5, eg5⟩ : ∃ g5, g5 = sA g4 15 (4 * pS p) (nI (xS1 n T p X).1) := ⟨_, rfl⟩
    rw [← eg5]
    have F45 : Fr [] [15] w0 g4 g5 := by rw [eg5]; exact Fr.rf.sA (by simp)
    have F5 : Fr bS [15, 16] w0 g g5 := ((F3.wd (by simp) (by simp) (by simp)).tr F4 (by simp) (by simp) (by simp)).tr F45 (by simp) (by simp) (by simp)
    have v5 : g5.2.1 15 = upd (g.2.1 15) (4 * pS p) (nI (xS1 n T p X).1) := by rw [eg5, sA_21, if_pos rfl, F4.2.1 15 (by simp), F3.2.1 15 (by simp)]
    rw [F5.1 19 (by decide), hD.1.2.1, show (nI (pR p) - 1 : Int32) = nI (pR p - 1) from nI_sub (b := 1) (by omega)]
    refine (numB (lo := 0) hx (L4.fr F45 (by simp) (by simp)) (by decide) (by omega)).bind ?_
    rintro ⟨v6, g6⟩ ⟨F6, L6, w6⟩
    have F6 : Fr bS [] w0 g5 g6 := F6
    have L6 : LQ n T (xS2 n T p X).2 g6 := L6
    have w6 : v6 = nI (xS2 n T p X).1 := w6
    dsimp only
    rw [ck_nI (by omega) (by decide), bv_eq, nI_clamp (by omega), w6]
    obtain ⟨g7, eg7⟩ : ∃ g7, g7 = sA g6 15 (4 * pS p + 1) (nI (xS2 n T p X).1) := ⟨_, rfl⟩
    rw [← eg7]
    have F67 : Fr [] [15] w0 g6 g7 := by rw [eg7]; exact Fr.rf.sA (by simp)
    have F7 : Fr bS [15, 16] w0 g g7 := (F5.tr F6 (by simp) (by simp) (by simp)).tr F67 (by simp) (by simp) (by simp)
    have v7 : g7.2.1 15 = upd (upd (g.2.1 15) (4 * pS p) (nI (xS1 n T p X).1)) (4 * pS p + 1) (nI (xS2 n T p X).1) := by rw [eg7, sA_21, if_pos rfl, F6.2.1 15 (by simp), v5]
    rw [F7.1 20 (by decide), hD.1.2.2.1, show (nI (pD p) - 1 : Int32) = nI (pD p - 1) from nI_sub (b := 1) (by omega)]
    refine (toldB (k := 13) (lo := 0) hx (L6.fr F67 (by simp) (by simp)) ((F7.2.1 19 (by simp)).trans hO) (by decide) (by decide) (by omega)).bind ?_
    rintro ⟨v8, g8⟩ ⟨F8, L8, w8⟩
    have F8 : Fr bS [] w0 g7 g8 := F8
    have L8 : LQ n T (xS3 n T p X).2 g8 := L8
    have w8 : v8 = nI (xS3 n T p X).1 := w8
    dsimp only
    rw [ck_nI (by omega) (by decide), bv_eq, nI_clamp (by omega), w8]
    obtain ⟨g9, eg9⟩ : ∃ g9, g9 = sA g8 15 (4 * pS p + 2) (nI (xS3 n T p X).1) := ⟨_, rfl⟩
    rw [← eg9]
    have F89 : Fr [] [15] w0 g8 g9 := by rw [eg9]; exact Fr.rf.sA (by simp)
    have F9 : Fr bS [15, 16] w0 g g9 := (F7.tr F8 (by simp) (by simp) (by simp)).tr F89 (by simp) (by simp) (by simp)
    have v9 : g9.2.1 15 = upd (upd (upd (g.2.1 15) (4 * pS p) (nI (xS1 n T p X).1)) (4 * pS p + 1) (nI (xS2 n T p X).1)) (4 * pS p + 2) (nI (xS3 n T p X).1) := by rw [eg9, sA_21, if_pos rfl, F8.2.1 15 (by simp), v7]
    have x3l : (xS3 n T p X).1 + 1 < 2 ^ 31 := by
      have e : xS3 n T p X = xNu n T 0 (pD p - 1) (xM n T 13 (xS2 n T p X).2) := rfl
      have : (xS3 n T p X).1 ≤ 99 := by
        rw [e]
        exact xNu_99
      omega
    rw [ag_nI (by omega) (by decide), v9, upd_self, show (nI (xS3 n T p X).1 + 1 : Int32) = nI ((xS3 n T p X).1 + 1) from nI_add _ 1, F9.1 20 (by decide), hD.1.2.2.1]
    refine (toldB (k := 14) hx (L8.fr F89 (by simp) (by simp)) ((F9.2.1 19 (by simp)).trans hO) (by decide) x3l (by omega)).bind ?_
    rintro ⟨v10, g10⟩ ⟨F10, L10, w10⟩
    have F10 : Fr bS [] w0 g9 g10 := F10
    have L10 : LQ n T (xS4 n T p X).2 g10 := L10
    have w10 : v10 = nI (xS4 n T p X).1 := w10
    dsimp only
    rw [ck_nI (by omega) (by decide), bv_eq, nI_clamp (by omega), w10, bv_eq]
    obtain ⟨g11, eg11⟩ : ∃ g11, g11 = sS (sA g10 15 (4 * pS p + 3) (nI (xS4 n T p X).1)) 23 ((sA g10 15 (4 * pS p + 3) (nI (xS4 n T p X).1)).1 23 + 1) := ⟨_, rfl⟩
    rw [← eg11]
    have F1011 : Fr [23] [15] w0 g10 g11 := by rw [eg11]; exact (Fr.rf.sA (by simp)).sS (by simp)
    have F911 : Fr (23 :: bS) [15] w0 g9 g11 := (F10.wd (by decide) (by simp) (by simp)).tr F1011 (by simp) (by simp) (by simp)
    have F11 : Fr (23 :: bS) [15, 16] w0 g g11 := (F9.wd (by decide) (by simp) (by simp)).tr F911 (by simp) (by simp) (by simp)
    refine Sat.of ⟨F11, L10.fr F1011 (by simp) (by simp), fun z => ?_⟩
    have e4' : xS4 n T p X = xNu n T ((xS3 n T p X).1 + 1) (pD p) (xM n T 14 (xS3 n T p X).2) := rfl
    have e3' : xS3 n T p X = xNu n T 0 (pD p - 1) (xM n T 13 (xS2 n T p X).2) := rfl
    have e2' : xS2 n T p X = xNu n T 0 (pR p - 1) (xS1 n T p X).2 := rfl
    have e1' : xS1 n T p X = xNu n T 0 (pC p - 1) (xM n T 12 (xS0 n T p X)) := rfl
    rw [e4'] at z
    have a3 := xM_al (xNu_al z)
    rw [e3'] at a3
    have a2 := xM_al (xNu_al a3)
    rw [e2'] at a2
    have a1 := xNu_al a2
    rw [e1'] at a1
    have a0 := xM_al (xNu_al a1)
    have F39 : Fr bS [15] w0 g3 g9 := ((((F4.wd (by simp) (by simp) (by simp)).tr F45 (by simp) (by simp) (by simp)).tr F6 (by simp) (by simp) (by simp)).tr F67 (by simp) (by simp) (by simp)).tr ((F8.wd (S := bS) (T := [15]) (w := w0) (by simp) (by simp) (by simp)).tr F89 (by simp) (by simp) (by simp)) (by simp) (by simp) (by simp)
    have F311 : Fr (23 :: bS) [15] w0 g3 g11 := (F39.wd (by decide) (by simp) (by simp)).tr F911 (by simp) (by simp) (by simp)
    refine DBadS hD hW F11 (by decide) (by decide) hS ?_ ?_ (fun j hj => ?_) (fun i hi => ?_)
    · rw [eg11]
      show g10.1 23 + 1 = _
      rw [F10.1 23 (by decide), F9.1 23 (by decide), hD.1.2.2.2.2.2]
      exact nI_add _ 1
    · rw [eg11]
      show (sA g10 15 (4 * pS p + 3) (nI (xS4 n T p X).1)).2.1 15 = _
      rw [sA_21, if_pos rfl, F10.2.1 15 (by simp), v9]
    · rw [F311.2.1 16 (by simp)]
      exact k3 j hj
    · rw [F311.2.1 16 (by simp)]
      exact n3 a0 i hi

/-! THE TEXT: a craft -/
def adC (p : Pl) (l : Nat → Nat) (q : Nat) : Pl := (fun i => if i = 5 then pK p + 1 else p.1 i, fun j => if j = 2 then upn (p.2 2) (pK p) q else if j = 7 + (4 + pK p) then l else p.2 j)
def adG (f : Fl) (c a b : Nat) : Fl := fun j => if j = 1 then upn (f 1) c a else if j = 2 then upn (f 2) c b else if j = 3 then upn (f 3) c 1 else f j
theorem nm_adC {p : Pl} {l : Nat → Nat} {q w : Nat} : nm (adC p l q) w = if w = 4 + pK p then l else nm p w := by
  unfold nm
  show (if 7 + w = 2 then _ else if 7 + w = 7 + (4 + pK p) then l else p.2 (7 + w)) = _
  rw [if_neg (by omega)]
  by_cases e : w = 4 + pK p
  · rw [if_pos e, if_pos (by omega)]
  · rw [if_neg e, if_neg (by omega)]
theorem adC_sx {p : Pl} {l : Nat → Nat} {q : Nat} (j : Nat) (h : j ≠ 2) (h7 : j < 7) : (adC p l q).2 j = p.2 j := by
  show (if j = 2 then _ else if j = 7 + (4 + pK p) then l else p.2 j) = _
  rw [if_neg h, if_neg (by omega)]
theorem us_adC {p : Pl} {f : Fl} {l : Nat → Nat} {q a b : Nat} (hK : pK p < 8) : nI (us (adC p l q) (adG f (pK p) a b)) = nI (us p f) ^^^ ((1 : Int32) <<< (nI (pK p) &&& 31)) := by
  have e1 : ((1 : Int32) <<< (nI (pK p) &&& 31)) = nI (1 <<< pK p) := by
    rw [show (1 : Int32) = nI 1 from rfl, show (31 : Int32) = nI 31 from rfl, n_31 (by omega), n_shl _ (by omega)]
  rw [e1, n_xor]
  congr 1
  apply Nat.eq_of_testBit_eq
  intro i
  rw [Nat.testBit_xor, one_bit (by omega)]
  unfold us
  rw [mk_bit, mk_bit]
  show (decide (i < 8) && (decide (i < pK p + 1) && decide (upn (fup f) (pK p) 1 i = 1))) = _
  by_cases e : i = pK p
  · subst e
    rw [upn_self]
    simp [hK]
  · rw [upn_ne _ _ e]
    by_cases l : i < pK p
    · have : i < pK p + 1 := by omega
      simp [l, this, e]
    · have : ¬ i < pK p + 1 := by omega
      simp [l, this, e]
theorem DWadC {p : Pl} {f : Fl} (h : DW p f) (hK : pK p < 8) {l : Nat → Nat} {q a b : Nat} (hl : ∀ i, i < 6 → l i < 32) (hq : q < pP p) (ha : a < tu p q) (hb : b ≤ 12) : DW (adC p l q) (adG f (pK p) a b) := by
  obtain ⟨h1, h2, h3, h4, h5, h6, h7⟩ := h
  have e0 : tl (adC p l q) = tl p := adC_sx 0 (by omega) (by omega)
  have e1 : tu (adC p l q) = tu p := adC_sx 1 (by omega) (by omega)
  have e3 : sx (adC p l q) = sx p := adC_sx 3 (by omega) (by omega)
  have e4 : sy (adC p l q) = sy p := adC_sx 4 (by omega) (by omega)
  have e5 : sf (adC p l q) = sf p := adC_sx 5 (by omega) (by omega)
  have e6 : st (adC p l q) = st p := adC_sx 6 (by omega) (by omega)
  refine ⟨⟨h1.1, h1.2.1, h1.2.2.1, h1.2.2.2.1, h1.2.2.2.2.1, h1.2.2.2.2.2.1, h1.2.2.2.2.2.2.1, ?_, h1.2.2.2.2.2.2.2.2⟩, ?_, fun c hc => ?_, ?_, fun w i hw hi => ?_, ⟨h6.1, fun c hc => ?_⟩, fun c hc => ?_⟩
  · show pK p + 1 ≤ 8
    omega
  · rw [e0, e1]
    exact h2
  · have hc : c < pK p + 1 := hc
    show upn (hm p) (pK p) q c < pP p
    by_cases e : c = pK p
    · rw [e, upn_self]
      exact hq
    · rw [upn_ne _ _ e]
      exact h3 c (by omega)
  · rw [e3, e4, e5, e6]
    exact h4
  · rw [nm_adC]
    by_cases e : w = 4 + pK p
    · rw [if_pos e]
      exact hl i hi
    · rw [if_neg e]
      refine h5 w i ?_ hi
      rcases hw with z | z | z
      · exact Or.inl z
      · have z : 4 ≤ w ∧ w < 4 + (pK p + 1) := z
        omega
      · exact Or.inr (Or.inr z)
  · have hc : c < pK p + 1 := hc
    rw [e1]
    show upn (fph f) (pK p) a c < tu p (upn (hm p) (pK p) q c) ∧ upn (frc f) (pK p) b c ≤ 12 ∧ upn (fup f) (pK p) 1 c ≤ 1
    by_cases e : c = pK p
    · rw [e, upn_self, upn_self, upn_self, upn_self]
      exact ⟨ha, hb, Nat.le_refl _⟩
    · rw [upn_ne _ _ e, upn_ne _ _ e, upn_ne _ _ e, upn_ne _ _ e]
      exact h6.2 c (by omega)
  · have hc : c < pK p + 1 := hc
    show upn (fup f) (pK p) 1 c = 1
    by_cases e : c = pK p
    · rw [e, upn_self]
    · rw [upn_ne _ _ e]
      exact h7 c (by omega)
theorem DAadC {p : Pl} {f : Fl} {g g' : G} {S U : List Nat} {w : Bool × Bool × Bool} (h : DA p f g) (hW : DW p f) (F : Fr S U w g g') (hS : ∀ k ∈ S, (k < 1500 ∨ 1507 < k) ∨ k = 1506) (hU : ∀ k ∈ U, k < 17 ∨ k = 20 ∨ k = 21 ∨ k = 33 ∨ k = 34 ∨ 34 < k) {l : Nat → Nat} {q a b : Nat} (hK : pK p < 8)
    (e0 : g'.1 1506 = nI (pK p + 1)) (eu : g'.1 3100 = g.1 3100 ^^^ ((1 : Int32) <<< (nI (pK p) &&& 31))) (e1 : g'.2.1 20 = upd (g.2.1 20) (pK p) (nI (pkN l))) (e2 : g'.2.1 21 = upd (g.2.1 21) (pK p) (nI q)) (e3 : g'.2.1 33 = upd (g.2.1 33) (pK p) (nI a)) (e4 : g'.2.1 34 = upd (g.2.1 34) (pK p) (nI b)) : DA (adC p l q) (adG f (pK p) a b) g' := by
  have s : ∀ k, (1500 ≤ k ∧ k ≤ 1507 ∧ k ≠ 1506) → g'.1 k = g.1 k := fun k h1 => F.1 k (fun m => by have := hS k m; omega)
  have ar : ∀ k, (17 ≤ k ∧ k ≤ 19) ∨ (22 ≤ k ∧ k ≤ 26) ∨ k = 32 → g'.2.1 k = g.2.1 k := fun k h1 => F.2.1 k (fun m => by have := hU k m; omega)
  obtain ⟨h1, h2, h3, h4, h5⟩ := h
  have e0' : tl (adC p l q) = tl p := adC_sx 0 (by omega) (by omega)
  have e1' : tu (adC p l q) = tu p := adC_sx 1 (by omega) (by omega)
  have e3' : sx (adC p l q) = sx p := adC_sx 3 (by omega) (by omega)
  have e4' : sy (adC p l q) = sy p := adC_sx 4 (by omega) (by omega)
  have e5' : sf (adC p l q) = sf p := adC_sx 5 (by omega) (by omega)
  have e6' : st (adC p l q) = st p := adC_sx 6 (by omega) (by omega)
  have bb := hW.1
  refine ⟨⟨(s 1500 (by omega)).trans h1.1, (s 1501 (by omega)).trans h1.2.1, (s 1502 (by omega)).trans h1.2.2.1, (s 1505 (by omega)).trans h1.2.2.2.1, e0, (s 1507 (by omega)).trans h1.2.2.2.2.2⟩, fun q' hq => ?_, fun c hc => ?_, fun z hz => ?_, ⟨?_, fun q' hq => ?_, fun c hc => ?_⟩⟩
  · have hq : q' < pP p := hq
    rw [e0', e1', nm_adC, if_neg (by omega), ar 17 (by omega), ar 18 (by omega), ar 19 (by omega)]
    exact h2 q' hq
  · have hc : c < pK p + 1 := hc
    rw [e1, e2, nm_adC]
    show _ = nI (upn (hm p) (pK p) q c) ∧ _
    by_cases e : c = pK p
    · rw [e, upd_self, upd_self, upn_self, if_pos rfl]
      exact ⟨rfl, rfl⟩
    · rw [upd_ne _ _ e, upd_ne _ _ e, upn_ne _ _ e, if_neg (by omega)]
      exact h3 c (by omega)
  · have hz : z < pS p := hz
    rw [e3', e4', e5', e6', nm_adC, if_neg (by omega), ar 22 (by omega), ar 23 (by omega), ar 24 (by omega), ar 25 (by omega), ar 26 (by omega)]
    exact h4 z hz
  · rw [eu, h5.1, us_adC hK]
  · show g'.2.1 32 q' = nI (fnd f q')
    rw [ar 32 (by omega)]
    exact h5.2.1 q' hq
  · have hc : c < pK p + 1 := hc
    show g'.2.1 33 c = nI (upn (fph f) (pK p) a c) ∧ g'.2.1 34 c = nI (upn (frc f) (pK p) b c)
    rw [e3, e4]
    by_cases e : c = pK p
    · rw [e, upd_self, upd_self, upn_self, upn_self]
      exact ⟨rfl, rfl⟩
    · rw [upd_ne _ _ e, upd_ne _ _ e, upn_ne _ _ e, upn_ne _ _ e]
      exact h5.2.2 c (by omega)
theorem DBadC {p : Pl} {f : Fl} {g g' : G} {S U : List Nat} {w : Bool × Bool × Bool} (h : DB p f g) (hW : DW p f) (F : Fr S U w g g') (hS : ∀ k ∈ S, k < 18 ∨ 23 < k ∨ k = 22) (hU : ∀ k ∈ U, k < 9 ∨ k = 12 ∨ k = 13 ∨ k = 14 ∨ k = 16 ∨ 16 < k) {l : Nat → Nat} {q a b : Nat} (hK : pK p < 8)
    (e0 : g'.1 22 = nI (pK p + 1)) (e1 : g'.2.1 12 = upd (g.2.1 12) (pK p) (nI q)) (e2 : g'.2.1 13 = upd (g.2.1 13) (pK p) (nI a)) (e3 : g'.2.1 14 = upd (g.2.1 14) (pK p) (nI b)) (e4 : ∀ j, ¬ (6 * (4 + pK p) ≤ j ∧ j < 6 * (4 + pK p) + 6) → g'.2.1 16 j = g.2.1 16 j) (e5 : ∀ i, i < 6 → g'.2.1 16 (6 * (4 + pK p) + i) = nI (l i)) : DB (adC p l q) (adG f (pK p) a b) g' := by
  have s : ∀ k, (18 ≤ k ∧ k ≤ 23 ∧ k ≠ 22) → g'.1 k = g.1 k := fun k h1 => F.1 k (fun m => by have := hS k m; omega)
  have ar : ∀ k, (9 ≤ k ∧ k ≤ 11) ∨ k = 15 → g'.2.1 k = g.2.1 k := fun k h1 => F.2.1 k (fun m => by have := hU k m; omega)
  obtain ⟨h1, h2, h3, h4, h5⟩ := h
  have e0' : tl (adC p l q) = tl p := adC_sx 0 (by omega) (by omega)
  have e1' : tu (adC p l q) = tu p := adC_sx 1 (by omega) (by omega)
  have e3' : sx (adC p l q) = sx p := adC_sx 3 (by omega) (by omega)
  have e4' : sy (adC p l q) = sy p := adC_sx 4 (by omega) (by omega)
  have e5' : sf (adC p l q) = sf p := adC_sx 5 (by omega) (by omega)
  have e6' : st (adC p l q) = st p := adC_sx 6 (by omega) (by omega)
  have bb := hW.1
  refine ⟨⟨(s 18 (by omega)).trans h1.1, (s 19 (by omega)).trans h1.2.1, (s 20 (by omega)).trans h1.2.2.1, (s 21 (by omega)).trans h1.2.2.2.1, e0, (s 23 (by omega)).trans h1.2.2.2.2.2⟩, fun q' hq => ?_, fun c hc => ?_, fun z hz => ?_, fun w i hw hi => ?_⟩
  · rw [e0', e1', ar 9 (by omega), ar 10 (by omega), ar 11 (by omega)]
    exact h2 q' hq
  · have hc : c < pK p + 1 := hc
    rw [e1, e2, e3]
    show _ = nI (upn (hm p) (pK p) q c) ∧ _ = nI (upn (fph f) (pK p) a c) ∧ _ = nI (upn (frc f) (pK p) b c)
    by_cases e : c = pK p
    · rw [e, upd_self, upd_self, upd_self, upn_self, upn_self, upn_self]
      exact ⟨rfl, rfl, rfl⟩
    · rw [upd_ne _ _ e, upd_ne _ _ e, upd_ne _ _ e, upn_ne _ _ e, upn_ne _ _ e, upn_ne _ _ e]
      exact h3 c (by omega)
  · rw [e3', e4', e5', e6', ar 15 (by omega)]
    exact h4 z hz
  · rw [nm_adC]
    by_cases e : w = 4 + pK p
    · rw [if_pos e, e]
      exact e5 i hi
    · rw [if_neg e, e4 _ (by omega)]
      refine h5 w i ?_ hi
      rcases hw with z | z | z
      · exact Or.inl z
      · have z : 4 ≤ w ∧ w < 4 + (pK p + 1) := z
        omega
      · exact Or.inr (Or.inr z)
/-- which plane it is in -/
def hmc (T : Nat → Nat) (p : Pl) (Y : Xs) : Nat := pOf (fun k => pkN (nm p k)) (pP p) (cdw T Y)
def xQk (T : Nat → Nat) (p : Pl) (Y : Xs) : Xs := if Y.1 ≠ 0 then Y else if hmc T p Y < pP p then Y else fl 3 Y.2.2.2
theorem xQ_dead {T : Nat → Nat} {p : Pl} {Y : Xs} (h : Y.1 ≠ 0) : xQk T p Y = Y := if_pos h
theorem xQ_ok {T : Nat → Nat} {p : Pl} {Y : Xs} (h : (xQk T p Y).1 = 0) : Y.1 = 0 ∧ xQk T p Y = Y ∧ hmc T p Y < pP p := by
  unfold xQk at h ⊢
  by_cases y0 : Y.1 = 0
  · rw [if_neg (fun z => z y0)] at h ⊢
    by_cases l : hmc T p Y < pP p
    · rw [if_pos l]
      exact ⟨y0, rfl, l⟩
    · rw [if_neg l] at h
      exact absurd h flk
  · rw [if_pos y0] at h
    exact absurd h y0
def xC0 (n : Nat) (T : Nat → Nat) (p : Pl) (X : Xs) : Xs := if pK p < 8 then xF n T p X else fl 5 X.2.2.2
def xC1 (n : Nat) (T : Nat → Nat) (p : Pl) (X : Xs) : Xs := xNm n T (xM n T 8 (xC0 n T p X))
def xC2 (n : Nat) (T : Nat → Nat) (p : Pl) (X : Xs) : Xs := xQk T p (xC1 n T p X)
def xC3 (n : Nat) (T : Nat → Nat) (p : Pl) (X : Xs) : Nat × Xs := xNu n T 0 (tu p (hmc T p (xC1 n T p X)) - 1) (xM n T 9 (xC2 n T p X))
def xC4 (n : Nat) (T : Nat → Nat) (p : Pl) (X : Xs) : Nat × Xs := xNu n T 0 12 (xM n T 10 (xC3 n T p X).2)
def crP (n : Nat) (T : Nat → Nat) (p : Pl) (X : Xs) : Pl := adC p (wl T (xC0 n T p X).2.2.2 (xC0 n T p X).2.2.1) (hmc T p (xC1 n T p X))
def crF (n : Nat) (T : Nat → Nat) (p : Pl) (f : Fl) (X : Xs) : Fl := adG f (pK p) (xC3 n T p X).1 (xC4 n T p X).1
theorem xNm_mono {n : Nat} {T : Nat → Nat} {X : Xs} (h0 : X.1 = 0) (ha : X.2.2.1 ≤ n) (hz : (xNm n T X).1 = 0) : X.2.2.1 ≤ (xNm n T X).2.2.1 := by
  have k := xNm_ok (n := n) (T := T) h0 ha hz
  have w := xW_wo (n := n) (T := T) h0 ha (by rw [← k.1]; exact hz)
  rw [k.1]
  have := w.1.1
  omega
set_option maxHeartbeats 2000000 in
theorem craftRA {n : Nat} {T : Nat → Nat} {p : Pl} {f : Fl} {X : Xs} {g : G} (hx : TX n T) (h : LA n T X g) (h0 : X.1 = 0) (hs : X.2.2.2 ≤ X.2.2.1) (hD : DA p f g) (hW : DW p f) :
    Sat (fA_Reader_readCraft g) (fun r => Fr (3100 :: 1506 :: 3502 :: aS) [20, 21, 33, 34] w0 g r.2 ∧ LA n T (xE n T (xC4 n T p X).2) r.2 ∧ r.1 = bI (decide ((xE n T (xC4 n T p X).2).1 = 0)) ∧ ((xE n T (xC4 n T p X).2).1 = 0 → DA (crP n T p X) (crF n T p f X) r.2 ∧ DW (crP n T p X) (crF n T p f X) ∧ X.2.2.1 < (xE n T (xC4 n T p X).2).2.2.1 ∧ (xE n T (xC4 n T p X).2).2.2.2 ≤ (xE n T (xC4 n T p X).2).2.2.1 ∧ r.2.1 3502 = g.1 3502 + 1)) := by
  have b := hW.1
  have hn := hx.1
  obtain ⟨Z, eZ⟩ : ∃ Z, Z = xE n T (xC4 n T p X).2 := ⟨_, rfl⟩
  obtain ⟨Q, hQ⟩ : ∃ Q : Int32 × G → Prop, Q = fun r => Fr (3100 :: 1506 :: 3502 :: aS) [20, 21, 33, 34] w0 g r.2 ∧ LA n T Z r.2 ∧ r.1 = bI (decide (Z.1 = 0)) ∧ (Z.1 = 0 → DA (crP n T p X) (crF n T p f X) r.2 ∧ DW (crP n T p X) (crF n T p f X) ∧ X.2.2.1 < Z.2.2.1 ∧ Z.2.2.2 ≤ Z.2.2.1 ∧ r.2.1 3502 = g.1 3502 + 1) := ⟨_, rfl⟩
  rw [← eZ, ← hQ]
  have out : ∀ (Y : Xs) (g' : G), Y.1 ≠ 0 → xE n T (xC4 n T p X).2 = Y → Fr (3100 :: 1506 :: 3502 :: aS) [20, 21, 33, 34] w0 g g' → LA n T Y g' → Q (0, g') := by
    intro Y g' d e F L
    rw [hQ, eZ, e]
    exact ⟨F, L, by rw [decide_eq_false d]; rfl, fun z => absurd z d⟩
  unfold fA_Reader_readCraft
  rw [bv_eq, hD.1.2.2.2.2.1, show (8 : Int32) = nI 8 from rfl, ite_ltn (by omega) (by decide)]
  by_cases hK : pK p < 8
  · rw [if_pos hK]
    have e0 : xC0 n T p X = xF n T p X := if_pos hK
    have ha := (h.2.2.1 h0).2.1
    refine stF hx h h0 hD hW (fun g' F L d => ?_) (fun g3 F3 L3 z3 w3 => ?_)
    · refine out _ g' d ?_ (F.wd (by decide) (by simp) (by simp)) L
      unfold xC4 xC3 xC2 xC1
      rw [e0, xM_dead d, xNm_dead d, xQ_dead d, xM_dead d, xNu2_dead d, xM_dead d, xNu2_dead d, xE_dead d]
    dsimp only
    have ok0 := xF_ok h0 ha z3
    rw [← e0] at L3 z3 w3 ok0
    have A3 := L3.2.2.1 z3
    rw [ck_nI hK (by decide), bv_eq, nI_clamp (by omega), w3]
    obtain ⟨g4, eg4⟩ : ∃ g4, g4 = sA g3 20 (pK p) (nI (cdw T (xC0 n T p X))) := ⟨_, rfl⟩
    rw [← eg4]
    have F34 : Fr [] [20] w0 g3 g4 := by rw [eg4]; exact Fr.rf.sA (by simp)
    have F4 : Fr aS [20] w0 g g4 := (F3.wd (by decide) (by simp) (by simp)).tr F34 (by simp) (by simp) (by simp)
    have v20 : g4.2.1 20 = upd (g.2.1 20) (pK p) (nI (cdw T (xC0 n T p X))) := by rw [eg4, sA_21, if_pos rfl, F3.2.1 20 (by simp)]
    refine stW hx (L3.fr F34 (by simp) (by simp)) z3 (by decide) (fun g' F L d => ?_) (fun g5 F5 L5 z5 => ?_)
    · refine out _ g' d ?_ ((F4.wd (by decide) (by decide) (by simp)).tr F (by decide) (by simp) (by simp)) L
      unfold xC4 xC3 xC2 xC1
      rw [xNm_dead d, xQ_dead d, xM_dead d, xNu2_dead d, xM_dead d, xNu2_dead d, xE_dead d]
    dsimp only
    have A5 := (L5.2.2.1 z5).2.1
    have F45 : Fr aS [20] w0 g g5 := F4.tr F5 (by decide) (by simp) (by simp)
    refine (nameA hx L5 z5).bind ?_
    rintro ⟨r6, g6⟩ ⟨F6, L6, e6, w6⟩
    have F6 : Fr aW [] w0 g5 g6 := F6
    have L6 : LA n T (xC1 n T p X) g6 := L6
    have e6 : r6 = bI (decide ((xC1 n T p X).1 = 0)) := e6
    have w6 : (xC1 n T p X).1 = 0 → g6.1 3508 = nI (cdw T (xC1 n T p X)) := w6
    have F46 : Fr aS [20] w0 g g6 := F45.tr F6 (by decide) (by simp) (by simp)
    dsimp only
    by_cases z6 : (xC1 n T p X).1 = 0
    · rw [decide_eq_true z6] at e6
      rw [e6, if_neg b1]
      have eC1 : xC1 n T p X = xNm n T (xM n T 8 (xC0 n T p X)) := rfl
      have z6' := z6
      rw [eC1] at z6'
      have wo6 := (xNm_ok (n := n) (T := T) z5 A5 z6').2.1
      have m6 := xNm_mono (n := n) (T := T) z5 A5 z6'
      rw [← eC1] at wo6 m6
      have cl : cdw T (xC1 n T p X) < 2 ^ 30 := pkN_lt (fun i _ => wo6.b i)
      have s6 := (L6.2.2.1 z6).2.2.2.2 (Nat.le_of_lt wo6.1)
      have pn : fA_Plan_planeNamed (nI (cdw T (xC1 n T p X))) g6 = some (pOI (fun k => pkN (nm p k)) (pP p) (cdw T (xC1 n T p X))) := by
        unfold fA_Plan_planeNamed
        rw [F46.1 1505 (by decide), hD.1.2.2.2.1, place1 (N := fun k => pkN (nm p k)) cl (by omega) (fun q hq => ⟨by rw [F46.2.1 17 (by simp)]; exact (hD.2.1 q hq).2.2, nmb hW.2.2.2.2.1 (by omega)⟩), Option.bind_some]
      unfold fA_Reader_findPlane
      rw [w6 z6, pn, Option.bind_some, bv_eq, lj_eq]
      obtain ⟨g7, eg7⟩ : ∃ g7, g7 = sS g6 3510 (pOI (fun k => pkN (nm p k)) (pP p) (cdw T (xC1 n T p X))) := ⟨_, rfl⟩
      rw [← eg7]
      have F67 : Fr [3510] [] w0 g6 g7 := by rw [eg7]; exact Fr.rf.sS (by simp)
      have F7 : Fr aS [20] w0 g g7 := F46.tr F67 (by decide) (by simp) (by simp)
      have n7 : g7.1 3510 = pOI (fun k => pkN (nm p k)) (pP p) (cdw T (xC1 n T p X)) := by rw [eg7]; rfl
      have L7 : LA n T (xC1 n T p X) g7 := L6.fr F67 (by simp) (by simp)
      rw [n7]
      by_cases lp : hmc T p (xC1 n T p X) < pP p
      · have e2 : xC2 n T p X = xC1 n T p X := by
          unfold xC2 xQk
          rw [if_neg (fun z => z z6), if_pos lp]
        rw [if_neg (fun z => (pOI_m1 (by omega)).mp z lp), Option.bind_some]
        dsimp only
        rw [if_neg (by decide), ck_nI hK (by decide), bv_eq, n7]
        have ep : pOI (fun k => pkN (nm p k)) (pP p) (cdw T (xC1 n T p X)) = nI (hmc T p (xC1 n T p X)) := if_pos lp
        rw [ep]
        obtain ⟨g8, eg8⟩ : ∃ g8, g8 = sA g7 21 (pK p) (nI (hmc T p (xC1 n T p X))) := ⟨_, rfl⟩
        rw [← eg8]
        have F78 : Fr [] [21] w0 g7 g8 := by rw [eg8]; exact Fr.rf.sA (by simp)
        have F8 : Fr aS [20, 21] w0 g g8 := (F7.wd (by simp) (by simp) (by simp)).tr F78 (by simp) (by simp) (by simp)
        have v21 : g8.2.1 21 = upd (g.2.1 21) (pK p) (nI (hmc T p (xC1 n T p X))) := by rw [eg8, sA_21, if_pos rfl, F7.2.1 21 (by simp)]
        have v20 : g8.2.1 20 = upd (g.2.1 20) (pK p) (nI (cdw T (xC0 n T p X))) := by rw [F78.2.1 20 (by simp), F67.2.1 20 (by simp), F6.2.1 20 (by simp), F5.2.1 20 (by simp), v20]
        have L8 : LA n T (xC2 n T p X) g8 := by rw [e2]; exact L7.fr F78 (by simp) (by simp)
        have z8 : (xC2 n T p X).1 = 0 := by rw [e2]; exact z6
        refine stW hx L8 z8 (by decide) (fun g' F L d => ?_) (fun g9 F9 L9 z9 => ?_)
        · refine out _ g' d ?_ ((F8.wd (by decide) (by decide) (by simp)).tr F (by decide) (by simp) (by simp)) L
          unfold xC4 xC3
          rw [xNu2_dead d, xM_dead d, xNu2_dead d, xE_dead d]
        dsimp only
        have A9 := (L9.2.2.1 z9).2.1
        have F89 : Fr aS [20, 21] w0 g g9 := F8.tr F9 (by decide) (by simp) (by simp)
        have tq := hW.2.1 _ lp
        have et : fA_Plan_turnOf (nI (pK p)) g9 = some (nI (tu p (hmc T p (xC1 n T p X)))) := by
          unfold fA_Plan_turnOf
          rw [ag_nI (by omega) (by decide), F9.2.1 21 (by simp), v21, upd_self, ag_nI (by omega) (by decide), F89.2.1 19 (by simp), (hD.2.1 _ lp).2.1]
        rw [et, Option.bind_some, show (nI (tu p (hmc T p (xC1 n T p X))) - 1 : Int32) = nI (tu p (hmc T p (xC1 n T p X)) - 1) from nI_sub (b := 1) (by omega)]
        refine stN (lo := 0) hx L9 z9 (by decide) (by omega) (fun g' F L d => ?_) (fun g10 F10 L10 z10 v10 => ?_)
        · refine out _ g' d ?_ ((F89.wd (by decide) (by decide) (by simp)).tr F (by decide) (by simp) (by simp)) L
          unfold xC4 xC3
          rw [xM_dead d, xNu2_dead d, xE_dead d]
        dsimp only
        have ok3 := xNu_ok z9 A9 z10
        have e3 : xNu n T 0 (tu p (hmc T p (xC1 n T p X)) - 1) (xM n T 9 (xC2 n T p X)) = xC3 n T p X := rfl
        rw [e3] at L10 z10 v10 ok3
        have F810 : Fr aS [20, 21] w0 g g10 := F89.tr F10 (by decide) (by simp) (by simp)
        rw [ck_nI hK (by decide), bv_eq, v10]
        obtain ⟨g12, eg12⟩ : ∃ g12, g12 = sA g10 33 (pK p) (nI (xC3 n T p X).1) := ⟨_, rfl⟩
        rw [← eg12]
        have F1012 : Fr [] [33] w0 g10 g12 := by rw [eg12]; exact Fr.rf.sA (by simp)
        have F12 : Fr aS [20, 21, 33] w0 g g12 := (F810.wd (by simp) (by simp) (by simp)).tr F1012 (by simp) (by simp) (by simp)
        have v33 : g12.2.1 33 = upd (g.2.1 33) (pK p) (nI (xC3 n T p X).1) := by rw [eg12, sA_21, if_pos rfl, F810.2.1 33 (by simp)]
        have F8_12 : Fr aS [33] w0 g8 g12 := ((F9.wd (by decide) (by simp) (by simp)).tr F10 (by decide) (by simp) (by simp)).tr F1012 (by simp) (by simp) (by simp)
        refine stW hx (L10.fr F1012 (by simp) (by simp)) z10 (by decide) (fun g' F L d => ?_) (fun g13 F13 L13 z13 => ?_)
        · refine out _ g' d ?_ ((F12.wd (by decide) (by decide) (by simp)).tr F (by decide) (by simp) (by simp)) L
          unfold xC4
          rw [xNu2_dead d, xE_dead d]
        dsimp only
        have A13 := (L13.2.2.1 z13).2.1
        have F1213 : Fr aS [20, 21, 33] w0 g g13 := F12.tr F13 (by decide) (by simp) (by simp)
        refine stN (lo := 0) (hi := 12) hx L13 z13 (by decide) (by decide) (fun g' F L d => ?_) (fun g14 F14 L14 z14 v14 => ?_)
        · refine out _ g' d ?_ ((F1213.wd (by decide) (by decide) (by simp)).tr F (by decide) (by simp) (by simp)) L
          unfold xC4
          rw [xE_dead d]
        dsimp only
        have ok4 := xNu_ok z13 A13 z14
        have e4 : xNu n T 0 12 (xM n T 10 (xC3 n T p X).2) = xC4 n T p X := rfl
        rw [e4] at L14 z14 v14 ok4
        have F1214 : Fr aS [20, 21, 33] w0 g g14 := F1213.tr F14 (by decide) (by simp) (by simp)
        rw [ck_nI hK (by decide), bv_eq, v14]
        unfold fA_Fleet_turnOver
        rw [bv_eq, Option.bind_some, bv_eq]
        obtain ⟨g15, eg15⟩ : ∃ g15, g15 = sA g14 34 (pK p) (nI (xC4 n T p X).1) := ⟨_, rfl⟩
        rw [← eg15]
        obtain ⟨g16, eg16⟩ : ∃ g16, g16 = sS g15 3100 (g15.1 3100 ^^^ ((1 : Int32) <<< (nI (pK p) &&& 31))) := ⟨_, rfl⟩
        rw [← eg16]
        obtain ⟨g17, eg17⟩ : ∃ g17, g17 = sS g16 1506 (g16.1 1506 + 1) := ⟨_, rfl⟩
        rw [← eg17]
        have F1415 : Fr [] [34] w0 g14 g15 := by rw [eg15]; exact Fr.rf.sA (by simp)
        have F1516 : Fr [3100] [] w0 g15 g16 := by rw [eg16]; exact Fr.rf.sS (by simp)
        have F1617 : Fr [1506] [] w0 g16 g17 := by rw [eg17]; exact Fr.rf.sS (by simp)
        have F15 : Fr aS [20, 21, 33, 34] w0 g g15 := (F1214.wd (by simp) (by simp) (by simp)).tr F1415 (by simp) (by simp) (by simp)
        have F1417 : Fr [3100, 1506] [34] w0 g14 g17 := ((F1415.wd (by simp) (by simp) (by simp)).tr F1516 (by simp) (by simp) (by simp)).tr F1617 (by simp) (by simp) (by simp)
        have F17 : Fr (3100 :: 1506 :: 3502 :: aS) [20, 21, 33, 34] w0 g g17 := (F1214.wd (by decide) (by simp) (by simp)).tr F1417 (by decide) (by simp) (by simp)
        have F12_17 : Fr (3100 :: 1506 :: aS) [34] w0 g12 g17 := ((F13.wd (by decide) (by simp) (by simp)).tr F14 (by decide) (by simp) (by simp)).tr F1417 (by simp) (by simp) (by simp)
        have c1506 : g17.1 1506 = nI (pK p + 1) := by
          rw [eg17]
          show g16.1 1506 + 1 = _
          rw [F1516.1 1506 (by simp), F15.1 1506 (by decide), hD.1.2.2.2.2.1]
          exact nI_add _ 1
        have c3100 : g17.1 3100 = g.1 3100 ^^^ ((1 : Int32) <<< (nI (pK p) &&& 31)) := by
          rw [F1617.1 3100 (by simp), eg16]
          show g15.1 3100 ^^^ _ = _
          rw [F15.1 3100 (by decide)]
        have v34 : g17.2.1 34 = upd (g.2.1 34) (pK p) (nI (xC4 n T p X).1) := by
          rw [F1617.2.1 34 (by simp), F1516.2.1 34 (by simp), eg15, sA_21, if_pos rfl, F1214.2.1 34 (by simp)]
        have v33 : g17.2.1 33 = upd (g.2.1 33) (pK p) (nI (xC3 n T p X).1) := by rw [F12_17.2.1 33 (by simp), v33]
        have v21 : g17.2.1 21 = upd (g.2.1 21) (pK p) (nI (hmc T p (xC1 n T p X))) := by rw [F12_17.2.1 21 (by simp), F8_12.2.1 21 (by simp), v21]
        have v20 : g17.2.1 20 = upd (g.2.1 20) (pK p) (nI (cdw T (xC0 n T p X))) := by rw [F12_17.2.1 20 (by simp), F8_12.2.1 20 (by simp), v20]
        have hord : X.2.2.1 < (xC4 n T p X).2.2.2.1 := by
          have m8 : (xC0 n T p X).2.2.1 ≤ (xM n T 8 (xC0 n T p X)).2.2.1 := xM_mono z3 A3.2.1 z5
          have m9 : (xC2 n T p X).2.2.1 ≤ (xM n T 9 (xC2 n T p X)).2.2.1 := xM_mono z8 (L8.2.2.1 z8).2.1 z9
          rw [e2] at m9
          have m10 : (xC3 n T p X).2.2.2.1 ≤ (xM n T 10 (xC3 n T p X).2).2.2.1 := xM_mono z10 (L10.2.2.1 z10).2.1 z13
          have q1 := ok0.2.2.1.1
          have q2 := ok0.2.2.2
          have q3 := ok3.2
          have q4 := ok4.2
          rw [e2] at q3
          omega
        refine (endA hx (L14.fr F1417 (by simp) (by simp)) z14 (Nat.le_of_lt ok4.2.1)).bind ?_
        rintro ⟨r, g18⟩ ⟨F18, L18, e18, n18⟩
        have F18 : Fr (3502 :: aS) [] w0 g17 g18 := F18
        have e18 : r = bI (decide ((xE n T (xC4 n T p X).2).1 = 0)) := e18
        dsimp only at L18 n18 ⊢
        rw [← eZ] at L18 n18 e18
        rw [e18, btb, hQ]
        refine Sat.of ⟨F17.tr F18 (by decide) (by simp) (by simp), L18, rfl, fun zz => ?_⟩
        have hDW : DW (crP n T p X) (crF n T p f X) := DWadC hW hK (fun i _ => ok0.2.2.1.b i) lp (by omega) ok4.1.2.1
        have hDA : DA (crP n T p X) (crF n T p f X) g17 := DAadC hD hW F17 (by decide) (by decide) hK c1506 c3100 v20 v21 v33 v34
        have ez : Z = (0, 0, skp n T (xC4 n T p X).2.2.2.1 + 1, (xC4 n T p X).2.2.2.2) := by
          rw [eZ] at zz ⊢
          exact xE_ok z14 zz
        have sk' := skp_all T (L14.2.2.1 z14).2.1
        refine ⟨hDA.fr F18 (by decide) (by simp), hDW, ?_, ?_, ?_⟩
        · rw [ez]
          dsimp only
          omega
        · rw [ez]
          dsimp only
          have := ok4.2.1
          omega
        · show g18.1 3502 = _
          rw [n18 zz, F1417.1 3502 (by decide), F1214.1 3502 (by decide)]
      · have e2 : xC2 n T p X = fl 3 (xC1 n T p X).2.2.2 := by
          unfold xC2 xQk
          rw [if_neg (fun z => z z6), if_neg lp]
        rw [if_pos ((pOI_m1 (by omega)).mpr lp)]
        obtain ⟨g8, e8, F8, L8⟩ := failA (k := 3) (w := (xC1 n T p X).2.2.2) L7.1 (by decide) (by decide)
        have s7 : g7.1 3507 = nI (xC1 n T p X).2.2.2 := by rw [F67.1 3507 (by simp), s6]
        rw [s7, show (3 : Int32) = nI 3 from rfl, e8, Option.bind_some]
        dsimp only
        rw [if_pos rfl, Option.bind_some]
        dsimp only
        rw [if_pos rfl]
        have d : (fl 3 (xC1 n T p X).2.2.2).1 ≠ 0 := by show ¬ (3 : Nat) = 0; decide
        refine Sat.of (out _ g8 d ?_ ((F7.wd (by decide) (by decide) (by simp)).tr F8 (by decide) (by simp) (by simp)) L8)
        unfold xC4 xC3
        rw [e2, xM_dead d, xNu2_dead d, xM_dead d, xNu2_dead d, xE_dead d]
    · rw [decide_eq_false z6] at e6
      rw [e6, if_pos b0]
      refine Sat.of (out _ g6 z6 ?_ (F46.wd (by decide) (by decide) (by simp)) L6)
      unfold xC4 xC3 xC2
      rw [xQ_dead z6, xM_dead z6, xNu2_dead z6, xM_dead z6, xNu2_dead z6, xE_dead z6]
  · rw [if_neg hK]
    have e0 : xC0 n T p X = fl 5 X.2.2.2 := if_neg hK
    obtain ⟨g2, e2, F2, L2⟩ := failA (k := 5) (w := X.2.2.2) h.1 (by decide) (by decide)
    rw [(h.2.2.1 h0).2.2.2.2 hs, show (5 : Int32) = nI 5 from rfl, e2, Option.bind_some]
    dsimp only
    rw [btz]
    have d : (fl 5 X.2.2.2).1 ≠ 0 := by show ¬ (5 : Nat) = 0; decide
    refine Sat.of (out _ g2 d ?_ (F2.wd (by decide) (by simp) (by simp)) L2)
    unfold xC4 xC3 xC2 xC1
    rw [e0, xM_dead d, xNm_dead d, xQ_dead d, xM_dead d, xNu2_dead d, xM_dead d, xNu2_dead d, xE_dead d]

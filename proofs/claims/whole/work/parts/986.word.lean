/-! THE TEXT: words, packed; the own words -/
theorem or_add {q b K : Nat} (k : Nat) (hK : K = 2 ^ k) (h : b < K) : q * K ||| b = q * K + b := by
  subst hK
  rw [← Nat.shiftLeft_eq, Nat.shiftLeft_add_eq_or_of_lt h]
theorem shl_mul {v k K : Nat} (hK : 2 ^ k = K) : v <<< k = v * K := by rw [Nat.shiftLeft_eq, hK]
theorem pkN_or0 {l m : Nat → Nat} {v : Nat} (hv : v < 32) (hl : ∀ j, 0 ≤ j → l j = 0) (hm : m 0 = v) (hm' : ∀ j, j < 6 → j ≠ 0 → m j = l j) : pkN l ||| v <<< 25 = pkN m := by
  have z0 := hl 0 (by omega)
  have z1 := hl 1 (by omega)
  have z2 := hl 2 (by omega)
  have z3 := hl 3 (by omega)
  have z4 := hl 4 (by omega)
  have z5 := hl 5 (by omega)
  have y1 := hm' 1 (by omega) (by omega)
  have y2 := hm' 2 (by omega) (by omega)
  have y3 := hm' 3 (by omega) (by omega)
  have y4 := hm' 4 (by omega) (by omega)
  have y5 := hm' 5 (by omega) (by omega)
  have e1 : pkN l = (0) * 1073741824 := by
    unfold pkN
    omega
  have e2 : pkN m = (0) * 1073741824 + v * 33554432 := by
    unfold pkN
    omega
  rw [e1, e2, shl_mul (K := 33554432) (by decide)]
  exact or_add 30 (by decide) (by omega)
theorem pkN_or1 {l m : Nat → Nat} {v : Nat} (hv : v < 32) (hl : ∀ j, 1 ≤ j → l j = 0) (hm : m 1 = v) (hm' : ∀ j, j < 6 → j ≠ 1 → m j = l j) : pkN l ||| v <<< 20 = pkN m := by
  have z1 := hl 1 (by omega)
  have z2 := hl 2 (by omega)
  have z3 := hl 3 (by omega)
  have z4 := hl 4 (by omega)
  have z5 := hl 5 (by omega)
  have y0 := hm' 0 (by omega) (by omega)
  have y2 := hm' 2 (by omega) (by omega)
  have y3 := hm' 3 (by omega) (by omega)
  have y4 := hm' 4 (by omega) (by omega)
  have y5 := hm' 5 (by omega) (by omega)
  have e1 : pkN l = (l 0) * 33554432 := by
    unfold pkN
    omega
  have e2 : pkN m = (l 0) * 33554432 + v * 1048576 := by
    unfold pkN
    omega
  rw [e1, e2, shl_mul (K := 1048576) (by decide)]
  exact or_add 25 (by decide) (by omega)
theorem pkN_or2 {l m : Nat → Nat} {v : Nat} (hv : v < 32) (hl : ∀ j, 2 ≤ j → l j = 0) (hm : m 2 = v) (hm' : ∀ j, j < 6 → j ≠ 2 → m j = l j) : pkN l ||| v <<< 15 = pkN m := by
  have z2 := hl 2 (by omega)
  have z3 := hl 3 (by omega)
  have z4 := hl 4 (by omega)
  have z5 := hl 5 (by omega)
  have y0 := hm' 0 (by omega) (by omega)
  have y1 := hm' 1 (by omega) (by omega)
  have y3 := hm' 3 (by omega) (by omega)
  have y4 := hm' 4 (by omega) (by omega)
  have y5 := hm' 5 (by omega) (by omega)
  have e1 : pkN l = (l 0 * 32 + l 1) * 1048576 := by
    unfold pkN
    omega
  have e2 : pkN m = (l 0 * 32 + l 1) * 1048576 + v * 32768 := by
    unfold pkN
    omega
  rw [e1, e2, shl_mul (K := 32768) (by decide)]
  exact or_add 20 (by decide) (by omega)
theorem pkN_or3 {l m : Nat → Nat} {v : Nat} (hv : v < 32) (hl : ∀ j, 3 ≤ j → l j = 0) (hm : m 3 = v) (hm' : ∀ j, j < 6 → j ≠ 3 → m j = l j) : pkN l ||| v <<< 10 = pkN m := by
  have z3 := hl 3 (by omega)
  have z4 := hl 4 (by omega)
  have z5 := hl 5 (by omega)
  have y0 := hm' 0 (by omega) (by omega)
  have y1 := hm' 1 (by omega) (by omega)
  have y2 := hm' 2 (by omega) (by omega)
  have y4 := hm' 4 (by omega) (by omega)
  have y5 := hm' 5 (by omega) (by omega)
  have e1 : pkN l = (l 0 * 1024 + l 1 * 32 + l 2) * 32768 := by
    unfold pkN
    omega
  have e2 : pkN m = (l 0 * 1024 + l 1 * 32 + l 2) * 32768 + v * 1024 := by
    unfold pkN
    omega
  rw [e1, e2, shl_mul (K := 1024) (by decide)]
  exact or_add 15 (by decide) (by omega)
theorem pkN_or4 {l m : Nat → Nat} {v : Nat} (hv : v < 32) (hl : ∀ j, 4 ≤ j → l j = 0) (hm : m 4 = v) (hm' : ∀ j, j < 6 → j ≠ 4 → m j = l j) : pkN l ||| v <<< 5 = pkN m := by
  have z4 := hl 4 (by omega)
  have z5 := hl 5 (by omega)
  have y0 := hm' 0 (by omega) (by omega)
  have y1 := hm' 1 (by omega) (by omega)
  have y2 := hm' 2 (by omega) (by omega)
  have y3 := hm' 3 (by omega) (by omega)
  have y5 := hm' 5 (by omega) (by omega)
  have e1 : pkN l = (l 0 * 32768 + l 1 * 1024 + l 2 * 32 + l 3) * 1024 := by
    unfold pkN
    omega
  have e2 : pkN m = (l 0 * 32768 + l 1 * 1024 + l 2 * 32 + l 3) * 1024 + v * 32 := by
    unfold pkN
    omega
  rw [e1, e2, shl_mul (K := 32) (by decide)]
  exact or_add 10 (by decide) (by omega)
theorem pkN_or5 {l m : Nat → Nat} {v : Nat} (hv : v < 32) (hl : ∀ j, 5 ≤ j → l j = 0) (hm : m 5 = v) (hm' : ∀ j, j < 6 → j ≠ 5 → m j = l j) : pkN l ||| v <<< 0 = pkN m := by
  have z5 := hl 5 (by omega)
  have y0 := hm' 0 (by omega) (by omega)
  have y1 := hm' 1 (by omega) (by omega)
  have y2 := hm' 2 (by omega) (by omega)
  have y3 := hm' 3 (by omega) (by omega)
  have y4 := hm' 4 (by omega) (by omega)
  have e1 : pkN l = (l 0 * 1048576 + l 1 * 32768 + l 2 * 1024 + l 3 * 32 + l 4) * 32 := by
    unfold pkN
    omega
  have e2 : pkN m = (l 0 * 1048576 + l 1 * 32768 + l 2 * 1024 + l 3 * 32 + l 4) * 32 + v * 1 := by
    unfold pkN
    omega
  rw [e1, e2, shl_mul (K := 1) (by decide)]
  exact or_add 5 (by decide) (by omega)
theorem pkN_or {i : Nat} (hi : i < 6) {l m : Nat → Nat} {v : Nat} (hv : v < 32) (hl : ∀ j, i ≤ j → l j = 0) (hm : m i = v) (hm' : ∀ j, j < 6 → j ≠ i → m j = l j) : pkN l ||| v <<< (25 - 5 * i) = pkN m := by
  rcases (by omega : i = 0 ∨ i = 1 ∨ i = 2 ∨ i = 3 ∨ i = 4 ∨ i = 5) with e | e | e | e | e | e
  · subst e
    exact pkN_or0 hv hl hm hm'
  · subst e
    exact pkN_or1 hv hl hm hm'
  · subst e
    exact pkN_or2 hv hl hm hm'
  · subst e
    exact pkN_or3 hv hl hm hm'
  · subst e
    exact pkN_or4 hv hl hm hm'
  · subst e
    exact pkN_or5 hv hl hm hm'
theorem pkN_cong {l l' : Nat → Nat} (h : ∀ i, i < 6 → l i = l' i) : pkN l = pkN l' := by
  unfold pkN
  rw [h 0 (by omega), h 1 (by omega), h 2 (by omega), h 3 (by omega), h 4 (by omega), h 5 (by omega)]
theorem pkN_inj {l l' : Nat → Nat} (h : ∀ i, i < 6 → l i < 32) (h' : ∀ i, i < 6 → l' i < 32) (e : pkN l = pkN l') : ∀ i, i < 6 → l i = l' i := by
  unfold pkN at e
  have a0 := h 0 (by omega)
  have a1 := h 1 (by omega)
  have a2 := h 2 (by omega)
  have a3 := h 3 (by omega)
  have a4 := h 4 (by omega)
  have a5 := h 5 (by omega)
  have b0 := h' 0 (by omega)
  have b1 := h' 1 (by omega)
  have b2 := h' 2 (by omega)
  have b3 := h' 3 (by omega)
  have b4 := h' 4 (by omega)
  have b5 := h' 5 (by omega)
  have e0 : l 0 = l' 0 := by omega
  have e1 : l 1 = l' 1 := by omega
  have e2 : l 2 = l' 2 := by omega
  have e3 : l 3 = l' 3 := by omega
  have e4 : l 4 = l' 4 := by omega
  have e5 : l 5 = l' 5 := by omega
  intro i hi
  match i, hi with
  | 0, _ => exact e0
  | 1, _ => exact e1
  | 2, _ => exact e2
  | 3, _ => exact e3
  | 4, _ => exact e4
  | 5, _ => exact e5
theorem pkN_lt {l : Nat → Nat} (h : ∀ i, i < 6 → l i < 32) : pkN l < 2 ^ 30 := by
  unfold pkN
  have a0 := h 0 (by omega)
  have a1 := h 1 (by omega)
  have a2 := h 2 (by omega)
  have a3 := h 3 (by omega)
  have a4 := h 4 (by omega)
  have a5 := h 5 (by omega)
  omega
/-- the letters of a word that goes from s to e -/
def wl (T : Nat → Nat) (s e i : Nat) : Nat := if s + i < e then T (s + i) - 96 else 0
/-- a word -/
def Wo (n : Nat) (T : Nat → Nat) (s e : Nat) : Prop := s < e ∧ e ≤ n ∧ ∀ i, s ≤ i → i < e → bkL n T i = true
theorem Wo.l {n : Nat} {T : Nat → Nat} {s e : Nat} (h : Wo n T s e) {i : Nat} (hi : s + i < e) : 1 ≤ wl T s e i ∧ wl T s e i ≤ 26 ∧ T (s + i) = wl T s e i + 96 := by
  have := bkL_iff.mp (h.2.2 (s + i) (by omega) hi)
  unfold wl
  rw [if_pos hi]
  omega
theorem Wo.z {T : Nat → Nat} {s e i : Nat} (hi : e ≤ s + i) : wl T s e i = 0 := if_neg (by omega)
theorem Wo.b {n : Nat} {T : Nat → Nat} {s e : Nat} (h : Wo n T s e) (i : Nat) : wl T s e i < 32 := by
  by_cases l : s + i < e
  · have := h.l l
    omega
  · rw [Wo.z (by omega)]
    decide
theorem withLetterA {i c t : Nat} (hi : i < 6) (h1 : 97 ≤ t) (g : G) : fA_Words_withLetter (nI c) (nI i) (nI t) g = some (nI (c ||| (t - 96) <<< (25 - 5 * i))) := by
  unfold fA_Words_withLetter
  rw [if_neg (show ¬ 6 ≤ nI i from nI_ge (b := 6) hi (by decide))]
  congr 1
  have e1 : (nI t - 97 + 1 : Int32) = nI (t - 96) := by
    rw [show (97 : Int32) = nI 97 from rfl, nI_sub h1, show (nI (t - 97) + 1 : Int32) = nI (t - 97 + 1) from nI_add (t - 97) 1, show t - 97 + 1 = t - 96 by omega]
  have e2 : ((25 - 5 * nI i) &&& 31 : Int32) = nI (25 - 5 * i) := by
    rw [show (5 : Int32) = nI 5 from rfl, show (25 : Int32) = nI 25 from rfl, show (31 : Int32) = nI 31 from rfl, nI_mul, nI_sub (by omega), n_31 (by omega)]
  rw [e1, e2, n_shl _ (by omega), n_or]
theorem withLetter6 {i : Nat} (hi : 6 ≤ i) (hl : i < 2 ^ 31) (c t : Int32) (g : G) : fA_Words_withLetter c (nI i) t g = some c := by
  unfold fA_Words_withLetter
  rw [if_pos (show 6 ≤ nI i from nI_le (a := 6) hi hl)]
theorem wl_step {n : Nat} {T : Nat → Nat} {s i : Nat} (hi : i < 6) (h : bkL n T (s + i) = true) : pkN (wl T s (s + i)) ||| (T (s + i) - 96) <<< (25 - 5 * i) = pkN (wl T s (s + (i + 1))) := by
  have := bkL_iff.mp h
  refine pkN_or hi (by omega) (fun j hj => Wo.z (by omega)) ?_ (fun j hj e => ?_)
  · unfold wl
    rw [if_pos (by omega)]
  · unfold wl
    by_cases l : s + j < s + i
    · rw [if_pos l, if_pos (by omega)]
    · rw [if_neg l, if_neg (by omega)]
theorem wl_step6 {T : Nat → Nat} {s i : Nat} (hi : 6 ≤ i) : pkN (wl T s (s + i)) = pkN (wl T s (s + (i + 1))) := by
  apply pkN_cong
  intro j hj
  unfold wl
  rw [if_pos (by omega), if_pos (by omega)]
/-- the own words -/
def owT : List (List Nat) := [[7, 18, 9, 4], [2, 25], [4, 1, 25], [16, 12, 1, 14, 5], [14, 15, 4, 5], [20, 9, 12, 20], [20, 21, 18, 14], [3, 18, 1, 6, 20], [9, 14], [16, 8, 1, 19, 5], [18, 5, 1, 3, 8], [19, 9, 20, 5], [1, 20], [6, 18, 15, 13], [20, 15]]
def ow (k i : Nat) : Nat := (owT.getD k []).getD i 0
def ol (k : Nat) : Nat := (owT.getD k []).length
def os : Nat → Nat
  | 0 => 0
  | k + 1 => os k + ol k + 1
def ocd (k : Nat) : Nat := pkN (ow k)
theorem ol_le : ∀ k, k < 15 → 1 ≤ ol k ∧ ol k ≤ 5 := by decide
theorem ow_hi {k i : Nat} (h : ol k ≤ i) : ow k i = 0 := by
  unfold ow ol at *
  rw [List.getD_eq_getElem?_getD, List.getElem?_eq_none h]
  rfl
theorem ow_lo : ∀ k, k < 15 → ∀ i, i < ol k → 1 ≤ ow k i ∧ ow k i ≤ 26 := by decide
theorem ow_lt {k : Nat} (hk : k < 15) (i : Nat) : ow k i < 32 := by
  by_cases l : i < ol k
  · have := ow_lo k hk i l
    omega
  · rw [ow_hi (by omega)]
    decide
theorem ocd_inj : ∀ k, k < 15 → ∀ j, j < 15 → ocd k = ocd j → k = j := by decide +kernel
theorem ocd_lt {k : Nat} (hk : k < 15) : ocd k < 2 ^ 30 := pkN_lt (fun i _ => ow_lt hk i)
/-- which own word it is, 15 where none -/
def oF (c : Nat) : Nat := fi (fun k => decide (c = ocd k)) 15
theorem oF_eq {c k : Nat} (hk : k < 15) : oF c = k ↔ c = ocd k := by
  have h := fi_all (fun k => decide (c = ocd k)) 15
  constructor
  · intro e
    have := h.2.2 (show oF c < 15 by omega)
    have := of_decide_eq_true this
    rw [this]
    show ocd (oF c) = _
    rw [e]
  · intro e
    apply fi_eq (by omega)
    · intro j hj
      exact decide_eq_false (fun z => absurd (ocd_inj k hk j (by omega) (e.symm.trans z)) (by omega))
    · intro _
      exact decide_eq_true e
theorem oF_none {c : Nat} (h : ∀ k, k < 15 → c ≠ ocd k) : oF c = 15 := fi_eq (Nat.le_refl _) (fun j hj => decide_eq_false (h j hj)) (fun z => absurd z (Nat.lt_irrefl _))
theorem wordsOf0 : ∀ k, k < 15 → fA_Words_of k gA0 = some (nI (ocd k)) := by decide +kernel
theorem wordsOf {k : Nat} (hk : k < 15) (g : G) : fA_Words_of k g = some (nI (ocd k)) := by
  rw [← wordsOf0 k hk]
  unfold fA_Words_of fA_Words_withLetter
  rfl
/-- along the row of own words -/
def oSt : Nat → Int32 × Int32
  | 0 => (0, 0)
  | i + 1 => if sby 15 i = 32 then (0, 0) else ((oSt i).1 ||| (((sby 15 i - 97) + 1) <<< ((25 - (5 * (oSt i).2)) &&& 31)), (oSt i).2 + 1)
def oSp (i : Nat) : Bool := decide (sby 15 i = 32)
theorem oSt_sp : ∀ i, i < 70 → sby 15 i = 32 → (oSt i).1 = nI (ocd (cn oSp i)) ∧ cn oSp i < 15 := by decide +kernel
theorem oSt_ch : ∀ i, i < 70 → ¬ sby 15 i = 32 → ¬ 6 ≤ (oSt i).2 := by decide +kernel
theorem oSp_all : cn oSp 70 = 15 := by decide +kernel
theorem sch_nI {β : Type} {a i : Nat} {K : Int32 → Option β} (h : i < lenST.getD a 0) (hl : lenST.getD a 0 < 2 ^ 31) : sch a (nI i) K = K (sby a i) := by
  unfold sch
  rw [if_neg (nI_in h hl), nI_clamp (by omega)]
theorem isOwnA {c : Nat} (hc : c < 2 ^ 30) (g : G) : fA_Words_isOwn (nI c) g = some (bI (decide (oF c < 15))) := by
  apply Sat.eq
  unfold fA_Words_isOwn
  have l70 : lenST.getD 15 0 = 70 := rfl
  refine Sat.lp (fun i s => s = ((oSt i).1, (oSt i).2, nI i) ∧ ∀ k, k < cn oSp i → c ≠ ocd k) 70 (by decide) ⟨rfl, fun k hk => absurd hk (Nat.not_lt_zero k)⟩ ?_ ?_
  · rintro rec i _ hi ⟨rfl, hn⟩ hrec
    dsimp only
    rw [if_neg (show ¬ slen 15 ≤ nI i from nI_ge (b := 70) hi (by decide)), sch_nI (by omega) (by omega), lj_eq, show (nI i + 1 : Int32) = nI (i + 1) from nI_add i 1]
    by_cases e : sby 15 i = 32
    · have o := oSt_sp i hi e
      have st : oSt (i + 1) = (0, 0) := if_pos e
      have hs : oSp i = true := decide_eq_true e
      rw [if_pos e, o.1]
      by_cases z : c = ocd (cn oSp i)
      · rw [if_pos (show nI (ocd (cn oSp i)) = nI c by rw [z])]
        refine Sat.of ?_
        rw [decide_eq_true (show oF c < 15 by rw [(oF_eq o.2).mpr z]; exact o.2)]
        rfl
      · have ol := ocd_lt o.2
        rw [if_neg (fun y => z ((nI_eq (by omega) (by omega)).mp y).symm)]
        refine hrec _ ⟨by rw [st], fun k hk => ?_⟩
        rw [cn_t hs] at hk
        by_cases ek : k = cn oSp i
        · rw [ek]; exact z
        · exact hn k (by omega)
    · have st : oSt (i + 1) = ((oSt i).1 ||| (((sby 15 i - 97) + 1) <<< ((25 - (5 * (oSt i).2)) &&& 31)), (oSt i).2 + 1) := if_neg e
      have hs : oSp i = false := decide_eq_false e
      rw [if_neg e, sch_nI (by omega) (by omega)]
      unfold fA_Words_withLetter
      rw [if_neg (oSt_ch i hi e), Option.bind_some]
      refine hrec _ ⟨by rw [st], fun k hk => ?_⟩
      rw [cn_f hs] at hk
      exact hn k hk
  · rintro rec _ ⟨rfl, hn⟩
    dsimp only
    rw [if_pos (show slen 15 ≤ nI 70 by decide)]
    rw [oSp_all] at hn
    refine Sat.of ?_
    rw [oF_none hn]
    rfl
/-- the model's row -/
theorem own_tab : ∀ k, k < 15 → ∀ i, i ≤ ol k → gB0.2.1 19 (os k + i) = nI (ow k i) := by decide +kernel
theorem os_le : ∀ k, k < 15 → os k + ol k < 70 := by decide
theorem os_15 : os 15 = 70 := by decide
def oI (c : Nat) : Int32 := if oF c < 15 then nI (oF c) else m1
set_option maxHeartbeats 1000000 in
theorem ownB {n : Nat} {T : Nat → Nat} {g : G} {s e : Nat} (hx : TX n T) (h : TQ n T g) (hO : g.2.1 19 = gB0.2.1 19) (hW : Wo n T s e) (es : g.1 39 = nI s) (ee : g.1 38 = nI e) : fB_M_own g = some (oI (pkN (wl T s e))) := by
  have hn := hx.1
  have hse := hW.1
  have hen := hW.2.1
  obtain ⟨c, hc⟩ : ∃ c, c = pkN (wl T s e) := ⟨_, rfl⟩
  have differ : ∀ k, k < 15 → ∀ i, i < 6 → wl T s e i ≠ ow k i → c ≠ ocd k := by
    intro k hk i hi z y
    rw [hc] at y
    exact z (pkN_inj (fun i _ => hW.b i) (fun i _ => ow_lt hk i) y i hi)
  rw [← hc]
  apply Sat.eq
  unfold fB_M_own
  rw [hO, es, ee]
  refine Sat.lp (fun k z => z = (nI (os k), nI k) ∧ ∀ j, j < k → c ≠ ocd j) 15 (by decide) ⟨rfl, fun j hj => absurd hj (Nat.not_lt_zero j)⟩ ?_ ?_
  · rintro rec k _ hk ⟨rfl, hno⟩ hrec
    have tab := own_tab k hk
    have lo := ow_lo k hk
    have ll := ol_le k hk
    have lt := os_le k hk
    dsimp only
    rw [if_neg (show ¬ 70 ≤ nI (os k) from nI_ge (b := 70) (by omega) (by decide))]
    have skip : c ≠ ocd k → Sat (Lp (α := Int32) (fun rec7 s7 => ag 70 (gB0.2.1 19) s7 fun x8 => (if x8 = 0 then rec (s7 + 1, nI k + 1) else rec7 (s7 + 1))) FU (nI (os k))) (fun x => x = oI c) := by
      intro z
      refine Sat.lp (fun i x => x = nI (os k + i)) (ol k) (by omega) rfl ?_ ?_
      · rintro rec2 i _ hi rfl hrec2
        have := lo i hi
        rw [ag_nI (by omega) (by decide), tab i (by omega), if_neg (nI_ne0 (by omega) (by omega)), show (nI (os k + i) + 1 : Int32) = nI (os k + (i + 1)) from nI_add (os k + i) 1]
        exact hrec2 _ rfl
      · rintro rec2 _ rfl
        rw [ag_nI (by omega) (by decide), tab _ (Nat.le_refl _), ow_hi (Nat.le_refl _), if_pos i00, show (nI (os k + ol k) + 1 : Int32) = nI (os (k + 1)) from nI_add (os k + ol k) 1, show (nI k + 1 : Int32) = nI (k + 1) from nI_add k 1]
        refine hrec _ ⟨rfl, fun j hj => ?_⟩
        by_cases ej : j = k
        · rw [ej]; exact z
        · exact hno j (by omega)
    refine Sat.lp (fun i x => x = nI i ∧ ∀ j, j < i → s + j < e ∧ wl T s e j = ow k j) (ol k) (by omega) ⟨rfl, fun j hj => absurd hj (Nat.not_lt_zero j)⟩ ?_ ?_
    · rintro rec2 i _ hi ⟨rfl, hm⟩ hrec2
      have li := lo i hi
      have ei : (nI (os k) + nI i : Int32) = nI (os k + i) := nI_add _ _
      have en : ¬ nI (ow k i) = 0 := nI_ne0 (by omega) (by omega)
      rw [ei, ag_nI (by omega) (by decide), tab i (by omega), lj_eq, if_neg en, nI_add, ite_len (by omega) (by omega)]
      by_cases l : e ≤ s + i
      · rw [if_pos l, ag_nI (by omega) (by decide), tab i (by omega), lj_eq, if_neg en]
        exact skip (differ k hk i (by omega) (by rw [Wo.z l]; omega))
      · rw [if_neg l, ag_nI (by omega) (by decide), h.2 _ (by omega), ag_nI (by omega) (by decide), tab i (by omega)]
        have lw := hW.l (i := i) (by omega)
        rw [lw.2.2, show (nI (wl T s e i + 96) - 96 : Int32) = nI (wl T s e i) from by rw [show (96 : Int32) = nI 96 from rfl, nI_sub (by omega), Nat.add_sub_cancel], ite_eqn (by omega) (by omega)]
        by_cases z : wl T s e i = ow k i
        · rw [if_pos z, show (nI i + 1 : Int32) = nI (i + 1) from nI_add i 1]
          refine hrec2 _ ⟨rfl, fun j hj => ?_⟩
          by_cases ej : j = i
          · rw [ej]; exact ⟨by omega, z⟩
          · exact hm j (by omega)
        · rw [if_neg z, ag_nI (by omega) (by decide), tab i (by omega), lj_eq, if_neg en]
          exact skip (differ k hk i (by omega) z)
    · rintro rec2 _ ⟨rfl, hm⟩
      have ei : (nI (os k) + nI (ol k) : Int32) = nI (os k + ol k) := nI_add _ _
      rw [ei, ag_nI (by omega) (by decide), tab _ (Nat.le_refl _), ow_hi (Nat.le_refl _), lj_eq, if_pos i00, ag_nI (by omega) (by decide), tab _ (Nat.le_refl _), ow_hi (Nat.le_refl _), lj_eq, if_pos i00, nI_add, ite_eqn (by omega) (by omega)]
      have hl := hm (ol k - 1) (by omega)
      by_cases z : s + ol k = e
      · rw [if_pos z]
        have ec : c = ocd k := by
          rw [hc]
          apply pkN_cong
          intro i hi
          by_cases l : i < ol k
          · exact (hm i l).2
          · rw [Wo.z (by omega), ow_hi (by omega)]
        refine Sat.of ?_
        unfold oI
        rw [(oF_eq hk).mpr ec, if_pos hk]
      · rw [if_neg z]
        have lw := hW.l (i := ol k) (by omega)
        exact skip (differ k hk (ol k) (by omega) (by rw [ow_hi (Nat.le_refl _)]; omega))
  · rintro rec _ ⟨rfl, hno⟩
    dsimp only
    rw [os_15, if_pos (show (70 : Int32) ≤ nI 70 by decide)]
    refine Sat.of ?_
    unfold oI
    rw [oF_none hno, if_neg (Nat.lt_irrefl _)]
    rfl

/-! RUNS, IN THE MODEL -/
theorem ite_bI {α : Type} {a b : Bool} {x y : α} : (if bI a = bI b then x else y) = if a = b then x else y := by
  cases a <;> cases b <;> rfl
theorem cn_all {b : Nat → Bool} : ∀ {n : Nat}, cn b n = n ↔ ∀ i, i < n → b i = true
  | 0 => ⟨fun _ i hi => by omega, fun _ => rfl⟩
  | n + 1 => by
    have l := cn_le b n
    have ih := cn_all (b := b) (n := n)
    constructor
    · intro h i hi
      cases hb : b n
      · rw [cn_f hb] at h
        omega
      · rw [cn_t hb] at h
        by_cases e : i = n
        · rw [e, hb]
        · exact ih.mp (by omega) i (by omega)
    · intro h
      rw [cn_t (h n (by omega)), ih.mpr (fun i hi => h i (by omega))]
theorem cn_kth {b : Nat → Bool} {k : Nat} : ∀ {n : Nat}, k < cn b n → ∃ t, t < n ∧ b t = true ∧ cn b t = k
  | 0, h => absurd h (Nat.not_lt_zero k)
  | n + 1, h => by
    by_cases l : k < cn b n
    · obtain ⟨t, h1, h2⟩ := cn_kth l
      exact ⟨t, by omega, h2⟩
    · cases hb : b n
      · rw [cn_f hb] at h
        omega
      · rw [cn_t hb] at h
        exact ⟨n, by omega, hb, by omega⟩
/-- some tick is not so: runs end -/
theorem ln_lt {b : Nat → Bool} {Y : Nat} (hp : Per Y b) {z t : Nat} (hz : z < Y) (hb : b z = false) : ln b Y t < Y ∧ b (t + ln b Y t) = false := by
  have ha := fi_all (fun n => !b (t + n)) Y
  have hl : ln b Y t < Y := by
    apply Classical.byContradiction
    intro hn
    have e : fi (fun n => !b (t + n)) Y = Y := Nat.le_antisymm ha.1 (by unfold ln at hn; omega)
    have hall : ∀ k, k < Y → b (t + k) = true := by
      intro k hk
      have := ha.2.1 k (by omega)
      simpa using this
    have hm : t % Y < Y := Nat.mod_lt _ (by omega)
    have key : ∃ k, k < Y ∧ (t + k) % Y = z := by
      have hd : t = Y * (t / Y) + t % Y := (Nat.div_add_mod t Y).symm
      by_cases l : t % Y ≤ z
      · refine ⟨z - t % Y, by omega, ?_⟩
        rw [Nat.add_mod, Nat.mod_eq_of_lt (a := z - t % Y) (by omega), show t % Y + (z - t % Y) = z by omega, Nat.mod_eq_of_lt hz]
      · refine ⟨z + Y - t % Y, by omega, ?_⟩
        rw [Nat.add_mod, Nat.mod_eq_of_lt (a := z + Y - t % Y) (by omega), show t % Y + (z + Y - t % Y) = z + Y by omega, Nat.add_mod_right, Nat.mod_eq_of_lt hz]
    obtain ⟨k, hk, ek⟩ := key
    have h1 := hall k hk
    rw [← hp, ek, hb] at h1
    exact absurd h1 (by decide)
  refine ⟨hl, ?_⟩
  have := ha.2.2 hl
  unfold ln
  simpa using this
theorem ln_pre {b : Nat → Bool} {Y t m : Nat} (h : m < ln b Y t) : b (t + m) = true := by
  have := (fi_all (fun n => !b (t + n)) Y).2.1 m h
  simpa using this
/-- whether a cell is so -/
def bs (p : Pl) (f : Fl) (s cell : Nat) (seen : Bool) (t : Nat) : Bool := decide (sb p f s t (cell % pC p) (cell / pC p) = seen)
theorem bs_per {p : Pl} (h : WP p) (f : Fl) (s cell : Nat) (seen : Bool) : Per (pY p) (bs p f s cell seen) := by
  intro t
  unfold bs
  rw [sb_per h]
/-- the stretches that were laid -/
def ST (Y : Nat) (b : Nat → Bool) (g : G) : Prop := g.1 50 = nI (cn (bg b Y) Y) ∧ ∀ t, t < Y → bg b Y t = true → g.2.1 23 (cn (bg b Y) t) = nI t ∧ g.2.1 24 (cn (bg b Y) t) = nI (ln b Y t)
set_option maxHeartbeats 1000000 in
theorem stretchB {p : Pl} (h : WP p) {f : Fl} {g : G} (hP : PB p g) (hL : LB p f g) {cell s : Nat} (hc : cell < pC p * pR p) (seen : Bool) :
    Sat (fB_M_laysStretches (nI cell) (nI s) (bI seen) g) (fun g' => Fr [50] [23, 24] w0 g g' ∧ ST (pY p) (bs p f s cell seen) g') := by
  have h1 := h.c
  have hp := bs_per h f s cell seen
  obtain ⟨b, hb⟩ : ∃ b, b = bs p f s cell seen := ⟨_, rfl⟩
  have hby : ∀ g', Fr [50] [23, 24] w0 g g' → ∀ t, t < 2 ^ 20 → ∀ (α : Type) (x y : Option α), (Option.bind (fB_M_isBy (nI cell) (nI t) (nI s) g') fun x5 => if x5 = bI seen then x else y) = if b t = true then x else y := by
    intro g' F t ht α x y
    have L' : LB p f g' := by unfold LB; rw [F.2.1 22 (by simp)]; exact hL
    rw [isByB h (hP.fr F (by simp) (by simp)) L' hc ht, Option.bind_some, ite_bI, hb]
    unfold bs
    by_cases e : sb p f s t (cell % pC p) (cell / pC p) = seen
    · rw [if_pos e, if_pos (decide_eq_true e)]
    · rw [if_neg e, if_neg (by rw [decide_eq_false e]; decide)]
  rw [← hb] at hp ⊢
  unfold fB_M_laysStretches
  rw [bv_eq]
  have F0 : Fr [50] [23, 24] w0 g (sS g 50 0) := Fr.rf.sS (by simp)
  have P0 := hP.fr F0 (by simp) (by simp)
  refine Sat.lp (fun t s1 => s1 = (nI (cn b t), nI t)) (pY p) (by omega) rfl ?_ ?_
  · rintro rec t _ ht rfl hrec
    simp only []
    rw [P0.1.2.2.2.2.2.2.1, if_neg (nI_ge ht (by omega))]
    simp only [lj_eq]
    rw [hby _ F0 t (by omega)]
    simp only [nl]
    rw [bv_eq, bv_eq, nI_add, nI_add, nI_add]
    cases hbt : b t
    · rw [if_neg (by decide)]
      exact hrec _ (by rw [cn_f hbt]; rfl)
    · rw [if_pos rfl]
      exact hrec _ (by rw [cn_t hbt])
  · rintro rec _ rfl
    have l1 := cn_le b (pY p)
    simp only []
    rw [P0.1.2.2.2.2.2.2.1, if_pos (nI_le (Nat.le_refl _) (by omega)), lj_eq, ite_eqn (by omega) (by omega)]
    simp only [nl]
    by_cases a : cn b (pY p) = pY p
    · have hall := cn_all.mp a
      have hlall : ∀ t, b t = true := fun t => by rw [← hp t]; exact hall _ (Nat.mod_lt _ (by omega))
      have l0 : ln b (pY p) 0 = pY p := fi_eq (Nat.le_refl _) (fun j hj => by rw [hlall]; rfl) (fun h => absurd h (Nat.lt_irrefl _))
      have hbg : ∀ t, bg b (pY p) t = decide (t = 0) := by
        intro t
        unfold bg
        rw [hlall t, hlall, l0]
        simp
      have hc1 : cn (bg b (pY p)) (pY p) = 1 := by
        obtain ⟨d, hd⟩ : ∃ d, pY p = 1 + d := ⟨pY p - 1, by omega⟩
        rw [hd, cn_add, cn_0 (n := d) (fun i _ => by rw [← hd, hbg]; exact decide_eq_false (by omega)), cn_t (by rw [← hd, hbg]; rfl)]
        rfl
      rw [if_pos a, ck_nI (by decide) (by decide), nI_clamp (by decide), bv_eq, ck_nI (by decide) (by decide), bv_eq, bv_eq]
      have Fx : Fr [50] [23, 24] w0 g (sS (sA (sA (sS g 50 (nI 0)) 23 0 (nI 0)) 24 0 ((sA (sS g 50 (nI 0)) 23 0 (nI 0)).1 7)) 50 (nI 1)) := (((Fr.rf.sS (by simp)).sA (by simp)).sA (by simp)).sS (by simp)
      have e7 : (sS (sA (sA (sS g 50 (nI 0)) 23 0 (nI 0)) 24 0 ((sA (sS g 50 (nI 0)) 23 0 (nI 0)).1 7)) 50 (nI 1)).1 7 = nI (pY p) := (hP.fr Fx (by simp) (by simp)).1.2.2.2.2.2.2.1
      rw [e7, ite_eqn (by omega) (by omega), if_pos a]
      refine Sat.of ⟨Fx, ?_, fun t ht hbt => ?_⟩
      · rw [hc1]
        rfl
      · rw [hbg] at hbt
        have := of_decide_eq_true hbt
        subst this
        refine ⟨rfl, ?_⟩
        rw [l0]
        exact hP.1.2.2.2.2.2.2.1
    · rw [if_neg a]
      have e0 : (sS g 50 (nI 0)).1 7 = nI (pY p) := P0.1.2.2.2.2.2.2.1
      rw [e0, ite_eqn (by omega) (by omega), ite_eqn (by omega) (by omega), if_neg a]
      have hno : ∃ z, z < pY p ∧ b z = false := by
        apply Classical.byContradiction
        intro hn
        apply a
        apply cn_all.mpr
        intro i hi
        cases e : b i
        · exact absurd ⟨i, hi, e⟩ hn
        · rfl
      obtain ⟨z, hz, hbz⟩ := hno
      have hbg : ∀ t, bg b (pY p) t = (b t && !b (t + pY p - 1)) := by
        intro t
        unfold bg
        have := (ln_lt hp (t := 0) hz hbz).1
        simp [show ¬ ln b (pY p) 0 = pY p by omega]
      by_cases n0 : cn b (pY p) = 0
      · have hall := cn_zero.mp n0
        rw [if_pos n0]
        have hn : ∀ t, t < pY p → bg b (pY p) t = false := fun t ht => by rw [hbg, hall t ht]; rfl
        exact Sat.of ⟨F0, by rw [cn_0 hn]; rfl, fun t ht hbt => by rw [hn t ht] at hbt; exact absurd hbt (by decide)⟩
      · rw [if_neg n0]
        refine Sat.lp (fun t s1 => ∃ g', s1 = (nI t, g') ∧ Fr [50] [23, 24] w0 g g' ∧ g'.1 50 = nI (cn (bg b (pY p)) t) ∧ ∀ t2, t2 < t → bg b (pY p) t2 = true → g'.2.1 23 (cn (bg b (pY p)) t2) = nI t2 ∧ g'.2.1 24 (cn (bg b (pY p)) t2) = nI (ln b (pY p) t2)) (pY p) (by omega) ⟨_, rfl, F0, rfl, fun t2 hl => by omega⟩ ?_ ?_
        · rintro rec2 t _ ht ⟨g1, rfl, F1, e1, i1⟩ hrec2
          have P1 := hP.fr F1 (by simp) (by simp)
          have lc := cn_le (bg b (pY p)) t
          simp only []
          rw [P1.1.2.2.2.2.2.2.1, if_neg (nI_ge ht (by omega))]
          simp only [lj_eq]
          rw [hby g1 F1 t (by omega), nI_add, nI_add, nI_sub (by omega), hby g1 F1 (t + pY p - 1) (by omega)]
          have skip : bg b (pY p) t = false → Sat (rec2 (nI (t + 1), g1)) (fun g' => Fr [50] [23, 24] w0 g g' ∧ ST (pY p) b g') := by
            intro hf
            refine hrec2 _ ⟨g1, rfl, F1, by rw [cn_f hf]; exact e1, fun t2 hl hb2 => ?_⟩
            by_cases e : t2 = t
            · rw [e, hf] at hb2
              exact absurd hb2 (by decide)
            · exact i1 t2 (by omega) hb2
          cases hbt : b t
          · rw [if_neg (by decide)]
            exact skip (by rw [hbg, hbt]; rfl)
          · rw [if_pos rfl]
            cases hbp : b (t + pY p - 1)
            · rw [if_neg (by decide)]
              have hbt1 : bg b (pY p) t = true := by rw [hbg, hbt, hbp]; rfl
              have hln := ln_lt hp (t := t) hz hbz
              have hlp : 0 < ln b (pY p) t := by
                apply Nat.pos_of_ne_zero
                intro e
                rw [e, Nat.add_zero, hbt] at hln
                exact absurd hln.2 (by decide)
              refine Sat.lp (fun m s1 => s1 = nI (1 + m)) (ln b (pY p) t - 1) (by omega) rfl ?_ ?_
              · rintro rec3 m _ hm rfl hrec3
                rw [nI_add, hby g1 F1 (t + (1 + m)) (by omega), ln_pre (show 1 + m < ln b (pY p) t by omega), if_pos rfl, nI_add]
                exact hrec3 _ (by rw [Nat.add_assoc])
              · rintro rec3 _ rfl
                rw [show 1 + (ln b (pY p) t - 1) = ln b (pY p) t by omega, nI_add, hby g1 F1 _ (by omega), hln.2, if_neg (by decide), e1, ck_nI (by omega) (by decide), nI_clamp (by omega), bv_eq, sA_1, e1, ck_nI (by omega) (by decide), nI_clamp (by omega), bv_eq, bv_eq, sA_1, sA_1, e1, nI_add]
                refine hrec2 _ ⟨_, rfl, ((F1.sA (by simp)).sA (by simp)).sS (by simp), by rw [cn_t hbt1]; rfl, fun t2 hl hb2 => ?_⟩
                show upd (g1.2.1 23) (cn (bg b (pY p)) t) (nI t) _ = _ ∧ upd (g1.2.1 24) (cn (bg b (pY p)) t) (nI (ln b (pY p) t)) _ = _
                by_cases e : t2 = t
                · subst e
                  rw [upd_self, upd_self]
                  exact ⟨rfl, rfl⟩
                · have hlt : cn (bg b (pY p)) t2 < cn (bg b (pY p)) t := by
                    have m := cn_mono (bg b (pY p)) (show t2 + 1 ≤ t by omega)
                    rw [cn_t hb2] at m
                    omega
                  rw [upd_ne _ _ (by omega), upd_ne _ _ (by omega)]
                  exact i1 t2 (by omega) hb2
            · rw [if_pos rfl]
              exact skip (by rw [hbg, hbt, hbp]; rfl)
        · rintro rec2 _ ⟨g1, rfl, F1, e1, i1⟩
          have P1 := hP.fr F1 (by simp) (by simp)
          simp only []
          rw [P1.1.2.2.2.2.2.2.1, if_pos (nI_le (Nat.le_refl _) (by omega))]
          exact Sat.of ⟨F1, e1, i1⟩
theorem greaterB {a b : Nat} (ha : a < 2 ^ 31) (hb : b < 2 ^ 31) (g : G) : fB_M_greater (nI a) (nI b) g = some (nI (if a < b then b else a)) := by
  unfold fB_M_greater
  rw [ite_len ha hb]
  by_cases h : a < b
  · rw [if_pos h, if_pos (by omega)]
  · by_cases e : a = b
    · subst e
      rw [if_pos (Nat.le_refl _), if_neg h]
    · rw [if_neg (by omega), if_neg h]
/-- the longest: mg is the greatest of all -/
theorem mg_ge (b : Nat → Bool) (Y : Nat) : ∀ n t, t < n → bg b Y t = true → ln b Y t ≤ mg b Y n
  | 0, t, h, _ => absurd h (Nat.not_lt_zero t)
  | n + 1, t, h, hb => by
    unfold mg
    by_cases e : t = n
    · subst e
      rw [if_pos hb]
      split <;> omega
    · have ih := mg_ge b Y n t (by omega) hb
      split
      · split <;> omega
      · exact ih
theorem mg_is (b : Nat → Bool) (Y : Nat) : ∀ n, mg b Y n = 0 ∨ ∃ t, t < n ∧ bg b Y t = true ∧ mg b Y n = ln b Y t
  | 0 => Or.inl rfl
  | n + 1 => by
    have ih := mg_is b Y n
    unfold mg
    cases hb : bg b Y n
    · rw [if_neg (by decide)]
      rcases ih with e | ⟨t, h1, h2, h3⟩
      · exact Or.inl e
      · exact Or.inr ⟨t, by omega, h2, h3⟩
    · rw [if_pos rfl]
      by_cases l : mg b Y n < ln b Y n
      · rw [if_pos l]
        exact Or.inr ⟨n, by omega, hb, rfl⟩
      · rw [if_neg l]
        rcases ih with e | ⟨t, h1, h2, h3⟩
        · exact Or.inl e
        · exact Or.inr ⟨t, by omega, h2, h3⟩
theorem ST.at {Y : Nat} {b : Nat → Bool} {g : G} (h : ST Y b g) {k : Nat} (hk : k < cn (bg b Y) Y) : ∃ t, t < Y ∧ bg b Y t = true ∧ cn (bg b Y) t = k ∧ g.2.1 23 k = nI t ∧ g.2.1 24 k = nI (ln b Y t) := by
  obtain ⟨t, h1, h2, rfl⟩ := cn_kth hk
  exact ⟨t, h1, h2, rfl, (h.2 t h1 h2).1, (h.2 t h1 h2).2⟩
theorem greatestB {p : Pl} (h : WP p) {f : Fl} {g : G} (hP : PB p g) (hL : LB p f g) {cell s : Nat} (hc : cell < pC p * pR p) :
    Sat (fB_M_greatestOf (nI cell) (nI s) g) (fun r => Fr [50] [23, 24] w0 g r.2 ∧ r.1 = nI (mg (bs p f s cell false) (pY p) (pY p))) := by
  have h1 := h.c
  unfold fB_M_greatestOf
  refine (stretchB h hP hL hc false).bind ?_
  rintro g1 ⟨F1, S1⟩
  obtain ⟨b, hb⟩ : ∃ b, b = bs p f s cell false := ⟨_, rfl⟩
  rw [← hb] at S1 ⊢
  have lc := cn_le (bg b (pY p)) (pY p)
  refine Sat.lp (fun k s1 => ∃ m, s1 = (nI m, nI k) ∧ m ≤ pY p ∧ (∀ t, t < pY p → bg b (pY p) t = true → cn (bg b (pY p)) t < k → ln b (pY p) t ≤ m) ∧ (m = 0 ∨ ∃ t, t < pY p ∧ bg b (pY p) t = true ∧ m = ln b (pY p) t)) (cn (bg b (pY p)) (pY p)) (by omega) ⟨0, rfl, Nat.zero_le _, fun _ _ _ hl => by omega, Or.inl rfl⟩ ?_ ?_
  · rintro rec k _ hk ⟨m, rfl, hm, i1, j1⟩ hrec
    obtain ⟨t, ht, hbt, ek, e1, e2⟩ := S1.at hk
    have l1 := ln_le b (pY p) t
    simp only []
    rw [S1.1, if_neg (nI_ge hk (by omega)), ag_nI (by omega) (by decide), e2, greaterB (by omega) (by omega), Option.bind_some, nl, nI_add]
    refine hrec _ ⟨_, rfl, by split <;> omega, fun t2 ht2 hb2 hl => ?_, ?_⟩
    · by_cases e : cn (bg b (pY p)) t2 = k
      · have e3 : t2 = t := by
          rcases Nat.lt_trichotomy t2 t with l | l | l
          · have m := cn_mono (bg b (pY p)) (show t2 + 1 ≤ t by omega)
            rw [cn_t hb2] at m
            omega
          · exact l
          · have m := cn_mono (bg b (pY p)) (show t + 1 ≤ t2 by omega)
            rw [cn_t hbt] at m
            omega
        rw [e3]
        split <;> omega
      · have := i1 t2 ht2 hb2 (by omega)
        split <;> omega
    · by_cases l : m < ln b (pY p) t
      · rw [if_pos l]
        exact Or.inr ⟨t, ht, hbt, rfl⟩
      · rw [if_neg l]
        exact j1
  · rintro rec _ ⟨m, rfl, hm, i1, j1⟩
    simp only []
    rw [S1.1, if_pos (nI_le (Nat.le_refl _) (by omega))]
    refine Sat.of ⟨F1, ?_⟩
    show nI m = nI (mg b (pY p) (pY p))
    congr 1
    have a1 : mg b (pY p) (pY p) ≤ m := by
      rcases mg_is b (pY p) (pY p) with e | ⟨t, ht, hbt, e⟩
      · omega
      · rw [e]
        refine i1 t ht hbt ?_
        have m := cn_mono (bg b (pY p)) (show t + 1 ≤ pY p by omega)
        rw [cn_t hbt] at m
        omega
    have a2 : m ≤ mg b (pY p) (pY p) := by
      rcases j1 with e | ⟨t, ht, hbt, e⟩
      · omega
      · rw [e]
        exact mg_ge b (pY p) (pY p) t ht hbt
    omega
theorem nextB {p : Pl} (h : WP p) {f : Fl} {g : G} (hP : PB p g) (hL : LB p f g) {cell s t : Nat} (hc : cell < pC p * pR p) (ht : t < 2 ^ 19) :
    fB_M_nextOf (nI cell) (nI t) (nI s) g = some (if fi (fun n => sb p f s (t + n) (cell % pC p) (cell / pC p)) (pY p) < pY p then nI (fi (fun n => sb p f s (t + n) (cell % pC p) (cell / pC p)) (pY p)) else m1) := by
  have h1 := h.c
  apply Sat.eq
  unfold fB_M_nextOf
  refine Sat.lp (fun n s1 => s1 = nI n ∧ ∀ m, m < n → sb p f s (t + m) (cell % pC p) (cell / pC p) = false) (pY p) (by omega) ⟨rfl, fun m hm => by omega⟩ ?_ ?_
  · rintro rec n _ hn ⟨rfl, hm⟩ hrec
    simp only [nl]
    rw [hP.1.2.2.2.2.2.2.1, if_neg (nI_ge hn (by omega)), nI_add, isByB h hP hL hc (by omega), Option.bind_some, nI_add]
    cases hb : sb p f s (t + n) (cell % pC p) (cell / pC p)
    · rw [if_pos z0]
      refine hrec _ ⟨rfl, fun m hl => ?_⟩
      by_cases e : m = n
      · rw [e, hb]
      · exact hm m (by omega)
    · rw [if_neg z1]
      refine Sat.of ?_
      rw [show fi (fun n => sb p f s (t + n) (cell % pC p) (cell / pC p)) (pY p) = n from fi_eq (by omega) hm (fun _ => hb), if_pos hn]
  · rintro rec _ ⟨rfl, hm⟩
    rw [hP.1.2.2.2.2.2.2.1, if_pos (nI_le (Nat.le_refl _) (by omega))]
    refine Sat.of ?_
    rw [show fi (fun n => sb p f s (t + n) (cell % pC p) (cell / pC p)) (pY p) = pY p from fi_eq (by omega) hm (fun h => absurd h (Nat.lt_irrefl _)), if_neg (Nat.lt_irrefl _)]
    rfl
theorem manyB {m : Nat} (hm : m < 256) (g : G) : fB_M_manyIn (nI m) g = some (nI (pc m)) := by
  apply Sat.eq
  unfold fB_M_manyIn
  refine Sat.lp (fun c s => s = (nI (cn m.testBit c), nI c)) 8 (by decide) rfl ?_ ?_
  · rintro rec c _ hc rfl hrec
    simp only []
    simp only [nl]
    rw [if_neg (nI_ge hc (by decide)), n_31 (k := c) (by omega), n_shr (by omega) (by omega), n_and, n_bit, nI_add, bv_eq, nI_add]
    refine hrec _ ?_
    cases hb : m.testBit c
    · rw [cn_f hb]; rfl
    · rw [cn_t hb]; rfl
  · rintro rec _ rfl
    simp only []
    rw [nl, if_pos (nI_le (Nat.le_refl _) (by decide))]
    refine Sat.of ?_
    rw [← mk_self (n := 8) (m := m) hm, pc_mk (by decide), mk_self (n := 8) hm]

def tmS : List Term := [.string "OrbitDesk$Reader" 107, .string "OrbitDesk$Reader" 119, .string "OrbitDesk$Reader" 124, .string "OrbitDesk$Reader" 76, .string "OrbitDesk$Reader" 144, .string "OrbitDesk$Reader" 149, .string "OrbitDesk$Reader" 154, .string "OrbitDesk$Reader" 87, .string "OrbitDesk$Reader" 165, .string "OrbitDesk$Reader" 173, .string "OrbitDesk$Reader" 182, .string "OrbitDesk$Reader" 92, .string "OrbitDesk$Reader" 197, .string "OrbitDesk$Reader" 204, .string "OrbitDesk$Reader" 209, .string "OrbitDesk$Words" 23]
def tmF (i : Nat) : Term := tmS.getD i (.arg 0)
def nar : Cond := Jvm.Cond.and given_1 narrow_1
theorem st_ex : ∀ i, i < 16 → Cond.exactly (tmF i) "java/lang/String" ∈ flatC nar := by decide +kernel
theorem st_co : ∀ i, i < 16 → Cond.eq (.field (tmF i) "java/lang/String" "coder" "B") (.int 0) ∈ flatC nar := by decide +kernel
theorem st_ar : ∀ i, i < 16 → Cond.arrayOf (.field (tmF i) "java/lang/String" "value" "[B") .byte ∈ flatC nar := by decide +kernel
theorem st_le : ∀ i, i < 16 → Cond.eq (.length (.field (tmF i) "java/lang/String" "value" "[B")) (.int (Int32.ofNat (lenST.getD i 0))) ∈ flatC nar := by decide +kernel
theorem st_el : ∀ i, i < 16 → ∀ j, j < lenST.getD i 0 → Cond.eq (.elem (.field (tmF i) "java/lang/String" "value" "[B") (.int (Int32.ofNat j))) (.int ((bytST.getD i []).getD j 0)) ∈ flatC nar := by decide +kernel
def pairS : List (Nat × Nat) := [(0, 1), (0, 2), (1, 2), (0, 3), (1, 3), (2, 3), (0, 15), (1, 15), (2, 15), (3, 15), (0, 4), (1, 4), (2, 4), (3, 4), (15, 4), (0, 5), (1, 5), (2, 5), (3, 5), (15, 5), (4, 5), (0, 6), (1, 6), (2, 6), (3, 6), (15, 6), (4, 6), (5, 6), (0, 7), (1, 7), (2, 7), (3, 7), (15, 7), (4, 7), (5, 7), (6, 7), (0, 8), (1, 8), (2, 8), (3, 8), (15, 8), (4, 8), (5, 8), (6, 8), (7, 8), (0, 9), (1, 9), (2, 9), (3, 9), (15, 9), (4, 9), (5, 9), (6, 9), (7, 9), (8, 9), (0, 10), (1, 10), (2, 10), (3, 10), (15, 10), (4, 10), (5, 10), (6, 10), (7, 10), (8, 10), (9, 10), (0, 11), (1, 11), (2, 11), (3, 11), (15, 11), (4, 11), (5, 11), (6, 11), (7, 11), (8, 11), (9, 11), (10, 11), (0, 12), (1, 12), (2, 12), (3, 12), (15, 12), (4, 12), (5, 12), (6, 12), (7, 12), (8, 12), (9, 12), (10, 12), (11, 12), (0, 13), (1, 13), (2, 13), (3, 13), (15, 13), (4, 13), (5, 13), (6, 13), (7, 13), (8, 13), (9, 13), (10, 13), (11, 13), (12, 13), (0, 14), (1, 14), (2, 14), (3, 14), (15, 14), (4, 14), (5, 14), (6, 14), (7, 14), (8, 14), (9, 14), (10, 14), (11, 14), (12, 14), (13, 14)]
theorem st_nsub : (pairS.map (fun q => Cond.not (Cond.eq (tmF q.1) (tmF q.2)))).isSublist (flatC nar) = true := by decide +kernel
theorem st_pair0 : ((List.range 16).all fun i => (List.range 16).all fun j => i == j || pairS.contains (i, j) || pairS.contains (j, i)) = true := by decide +kernel
theorem st_pair : ∀ i, i < 16 → ∀ j, j < 16 → i ≠ j → (i, j) ∈ pairS ∨ (j, i) ∈ pairS := by
  intro i hi j hj hij
  have h := List.all_eq_true.mp (List.all_eq_true.mp st_pair0 i (List.mem_range.mpr hi)) j (List.mem_range.mpr hj)
  simp only [Bool.or_eq_true, beq_iff_eq, List.contains_iff_mem] at h
  rcases h with (h | h) | h
  · exact absurd h hij
  · exact Or.inl h
  · exact Or.inr h
theorem st_ne : ∀ i, i < 16 → ∀ j, j < 16 → i ≠ j → Cond.not (Cond.eq (tmF i) (tmF j)) ∈ flatC nar ∨ Cond.not (Cond.eq (tmF j) (tmF i)) ∈ flatC nar := by
  intro i hi j hj hij
  have hsub := List.isSublist_iff_sublist.mp st_nsub
  rcases st_pair i hi j hj hij with h | h
  · exact Or.inl (hsub.subset (List.mem_map.mpr ⟨(i, j), h, rfl⟩))
  · exact Or.inr (hsub.subset (List.mem_map.mpr ⟨(j, i), h, rfl⟩))
theorem st_cs : Cond.eq (.static "java/lang/String" "COMPACT_STRINGS" "Z") (.int 1) ∈ flatC nar := by decide +kernel
theorem st_sx : Cond.isRef (.static "jdk/internal/util/Preconditions" "SIOOBE_FORMATTER" "Ljava/util/function/BiFunction;") ∈ flatC nar := by decide +kernel
theorem s9_ls : (∀ z ∈ ldcA, Cond.stringRef z.1 z.2.1 z.2.2.1 ∈ lw_tbl) ∧ (∀ z ∈ ldcA, z.2.2.2 < 16 ∧ tmF z.2.2.2 = .string z.1 z.2.1) := by decide +kernel
theorem st_nw : ∀ z ∈ nestA, Cond.methodLinkNest z.1 z.2.1 z.2.2.1 z.2.2.2 ∈ lw_tbl := by decide +kernel
theorem st_lw : Cond.laysStatic "java/lang/String" "COMPACT_STRINGS" "Z" ∈ lw_tbl ∧ Cond.initialized "java/lang/String" ∈ lw_tbl ∧ Cond.laysStatic "jdk/internal/util/Preconditions" "SIOOBE_FORMATTER" "Ljava/util/function/BiFunction;" ∈ lw_tbl ∧ Cond.initialized "jdk/internal/util/Preconditions" ∈ lw_tbl ∧ Cond.arrayOver (.object "OrbitDesk$Fleet") ∈ lw_tbl ∧ Cond.arrayClass .int ∈ lw_tbl ∧ Cond.arrayClass .float ∈ lw_tbl := by decide +kernel
set_option maxHeartbeats 4000000 in
theorem start_x {b : Nat} {s : State} (hts : ∀ w ∈ lw_tbl, w.before #[Value.ref b] s = true) (hgv : nar.before #[Value.ref b] s = true) (Z : Zt) : ∃ ads : Nat → Nat, xA (eV Z s.heap.size ads) s := by
  have hf := flat_of_before nar hgv
  have hA : ∀ a : Nat, a < s.heap.size → ¬ (fun q => ∃ k : Nat, k < 146 ∧ q = s.heap.size + k) a := by
    rintro a ha ⟨k, -, e⟩
    omega
  obtain ⟨adK, adV, hS, hE⟩ := vk_Sof (args := #[Value.ref b]) (s := s) (N := 16) (tm := tmF) (len := lenST) (byt := bytST) (A := fun q => ∃ k : Nat, k < 146 ∧ q = s.heap.size + k) slen_sm (fun i hi => hf _ (st_ex i hi)) (fun i hi => hf _ (st_co i hi)) (fun i hi => hf _ (st_ar i hi)) (fun i hi => hf _ (st_le i hi)) (fun i hi j hj => hf _ (st_el i hi j hj)) (fun i j hi hj hij => (st_ne i hi j hj hij).imp (hf _) (hf _)) hA
  obtain ⟨ads, h1, h2⟩ : ∃ ads : Nat → Nat, (∀ i, i < 16 → ads i = adK i) ∧ (∀ i, i < 16 → ads (16 + i) = adV i) := ⟨fun k => if k < 16 then adK k else adV (k - 16), fun i hi => if_pos hi, fun i hi => by
    show (if 16 + i < 16 then adK (16 + i) else adV (16 + i - 16)) = adV i
    rw [if_neg (by omega), Nat.add_sub_cancel_left]⟩
  refine ⟨ads, fun z hz => va_Nw.of rfl (hts _ (st_nw z hz)), ?_, ?_, ?_, ?_⟩
  · refine ⟨fun i hi => ?_, fun i j hi hj e => ?_⟩
    · have h := hS.1 i hi
      rw [← h1 i hi, ← h2 i hi] at h
      exact h
    · refine hS.2 i j hi hj ?_
      rw [← h1 i hi, ← h1 j hj]
      exact e
  · intro z hz
    obtain ⟨q1, q2⟩ := s9_ls.2 z hz
    have h3 := hE z.2.2.2 q1
    rw [q2, ← h1 _ q1] at h3
    exact vk_R.of (hts _ (s9_ls.1 z hz)) h3
  · exact va_Zof (hts _ st_lw.1) (hts _ st_lw.2.1) (va_eqt (hf _ st_cs)) hA
  · exact va_Zqof (hts _ st_lw.2.2.1) (hts _ st_lw.2.2.2.1) (hf _ st_sx) hA
set_option maxHeartbeats 4000000 in
theorem start_k {b : Nat} {s : State} (hts : ∀ w ∈ lw_tbl, w.before #[Value.ref b] s = true) : ∃ Z : Zt, va_K Z.2 vwCl (zty Z) s := by
  obtain ⟨c0, i0, k0⟩ := u_known (C := RX0) (T := TX0) (N := 4) (n := 4) hts inX0 (hts _ ((List.mem_filter.mp (Wt_of (tk_2 _ (List.mem_of_getElem? (i := 145) rfl)) rfl)).1))
  obtain ⟨c1, i1, k1⟩ := u_known (C := RX1) (T := TX1) (N := 4) (n := 4) hts inX1 (hts _ ((List.mem_filter.mp (Wt_of (tk_1 _ (List.mem_of_getElem? (i := 169) rfl)) rfl)).1))
  obtain ⟨c2, i2, k2⟩ := u_known (C := RX2) (T := TX2) (N := 3) (n := 3) hts inX2 (hts _ ((List.mem_filter.mp (Wt_of (tk_2 _ (List.mem_of_getElem? (i := 7) rfl)) rfl)).1))
  obtain ⟨c3, i3, k3⟩ := u_known (C := RX3) (T := TX3) (N := 10) (n := 10) hts inX3 (hts _ ((List.mem_filter.mp (Wt_of (tk_2 _ (List.mem_of_getElem? (i := 165) rfl)) rfl)).1))
  obtain ⟨c4, i4, k4⟩ := u_known (C := RX4) (T := TX4) (N := 19) (n := 19) hts inX4 (hts _ ((List.mem_filter.mp (Wt_of (tk_1 _ (List.mem_of_getElem? (i := 46) rfl)) rfl)).1))
  obtain ⟨c5, i5, k5⟩ := u_known (C := RX5) (T := TX5) (N := 12) (n := 12) hts inX5 (hts _ ((List.mem_filter.mp (Wt_of (tk_1 _ (List.mem_of_getElem? (i := 201) rfl)) rfl)).1))
  obtain ⟨c6, i6, k6⟩ := u_known (C := RX6) (T := TX6) (N := 14) (n := 14) hts inX6 (hts _ ((List.mem_filter.mp (Wt_of (tk_2 _ (List.mem_of_getElem? (i := 27) rfl)) rfl)).1))
  obtain ⟨c7, i7, k7⟩ := u_known (C := RX7) (T := TX7) (N := 7) (n := 7) hts inX7 (hts _ ((List.mem_filter.mp (Wt_of (tk_2 _ (List.mem_of_getElem? (i := 77) rfl)) rfl)).1))
  obtain ⟨c8, i8, k8⟩ := u_known (C := RX8) (T := TX8) (N := 2) (n := 2) hts inX8 (hts _ ((List.mem_filter.mp (Wt_of (tk_1 _ (List.mem_of_getElem? (i := 32) rfl)) rfl)).1))
  obtain ⟨c9, i9, k9⟩ := u_known (C := RX9) (T := TX9) (N := 8) (n := 8) hts inX9 (hts _ ((List.mem_filter.mp (Wt_of (tk_2 _ (List.mem_of_getElem? (i := 108) rfl)) rfl)).1))
  obtain ⟨c10, i10, k10⟩ := u_known (C := RX11) (T := TX11) (N := 19) (n := 19) hts inX11 (hts _ ((List.mem_filter.mp (Wt_of (tk_1 _ (List.mem_of_getElem? (i := 24) rfl)) rfl)).1))
  obtain ⟨c11, i11, k11⟩ := u_known (C := RX12) (T := TX12) (N := 65) (n := 65) hts inX12 (hts _ ((List.mem_filter.mp (Wt_of (tk_6 _ (List.mem_of_getElem? (i := 173) rfl)) rfl)).1))
  obtain ⟨cI, kI, pI, f1, f2, f3⟩ := Cond.arrayClass_spec (hts _ st_lw.2.2.2.2.2.1)
  obtain ⟨cF, kF, pF, g1, g2, g3⟩ := Cond.arrayClass_spec (hts _ st_lw.2.2.2.2.2.2)
  obtain ⟨comp, cR, kR, r1, r2, r3, r4, r5⟩ := Cond.arrayOver_spec (hts _ st_lw.2.2.2.2.1)
  refine ⟨((cI, cF, cR), (fun k => [c0, c1, c2, c3, c4, c5, c6, c7, c8, c9, c10, c11].getD k c0, fun k => [i0, i1, i2, i3, i4, i5, i6, i7, i8, i9, i10, i11].getD k i0)), ?_, ?_⟩
  · intro k q hq
    match k, hq with
    | 0, hq => cases hq; exact k0
    | 1, hq => cases hq; exact k1
    | 2, hq => cases hq; exact k2
    | 3, hq => cases hq; exact k3
    | 4, hq => cases hq; exact k4
    | 5, hq => cases hq; exact k5
    | 6, hq => cases hq; exact k6
    | 7, hq => cases hq; exact k7
    | 8, hq => cases hq; exact k8
    | 9, hq => cases hq; exact k9
    | 10, hq => cases hq; exact k10
    | 11, hq => cases hq; exact k11
    | k + 12, hq => simp [vwCl] at hq
  · intro k q hq
    match k, hq with
    | 0, hq => cases hq; exact ⟨fun N z => ⟨(fun k h => by cases h), kI, f2, pI, f3⟩, f1⟩
    | 1, hq => cases hq; exact ⟨fun N z => ⟨(fun k h => by cases h), kF, g2, pF, g3⟩, g1⟩
    | 2, hq => cases hq; exact ⟨fun N z => ⟨(fun k h => by cases h), kR, r3, comp, r4⟩, kR, comp, r3, r4, r1, r5⟩
    | k + 3, hq => simp at hq

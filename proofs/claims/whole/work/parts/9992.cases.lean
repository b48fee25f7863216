/-! THE CASES OF THE LAW -/
theorem lgc (x : Int64) : lg_cmp x x = 0 := by
  unfold lg_cmp
  simp
theorem kL_0 {L n : Nat} {xs : Nat → Int32} (hn : n + 6 ≤ L) (hL : L ≤ 3072) {gA gB : G} (h : Rel gA gB) {K : G → G → Option Unit} (hK : ∀ u v, Rel u v → K u v = some ()) : cL_0 L xs (nI n) gA gB K = some () := by
  obtain ⟨p, f, r, a, b⟩ := id h
  have i1 : ∀ (k : Int32 → Option Unit), ag L xs (nI n + 1) k = k (xs (n + 1)) := fun k => by rw [show (nI n + 1 : Int32) = nI (n + 1) from nI_add n 1]; exact ag_nI (by omega) (by omega)
  have i2 : ∀ (k : Int32 → Option Unit), ag L xs (nI n + 2) k = k (xs (n + 2)) := fun k => by rw [show (nI n + 2 : Int32) = nI (n + 2) from nI_add n 2]; exact ag_nI (by omega) (by omega)
  have i3 : ∀ (k : Int32 → Option Unit), ag L xs (nI n + 3) k = k (xs (n + 3)) := fun k => by rw [show (nI n + 3 : Int32) = nI (n + 3) from nI_add n 3]; exact ag_nI (by omega) (by omega)
  have i4 : ∀ (k : Int32 → Option Unit), ag L xs (nI n + 4) k = k (xs (n + 4)) := fun k => by rw [show (nI n + 4 : Int32) = nI (n + 4) from nI_add n 4]; exact ag_nI (by omega) (by omega)
  have i5 : ∀ (k : Int32 → Option Unit), ag L xs (nI n + 5) k = k (xs (n + 5)) := fun k => by rw [show (nI n + 5 : Int32) = nI (n + 5) from nI_add n 5]; exact ag_nI (by omega) (by omega)
  unfold cL_0
  simp only [i1, i2, i3, i4, i5]
  obtain ⟨x, u, v, ea, eb, rel⟩ := c_feed r a b (xs (n + 1)) (xs (n + 2)) (xs (n + 3)) (xs (n + 4)) (xs (n + 5))
  rw [ea, Option.bind_some, eb, Option.bind_some]
  dsimp only
  rw [if_pos rfl]
  exact hK _ _ rel
theorem kL_1 {L n : Nat} {xs : Nat → Int32} (hn : n + 6 ≤ L) (hL : L ≤ 3072) {gA gB : G} (h : Rel gA gB) {K : G → G → Option Unit} (hK : ∀ u v, Rel u v → K u v = some ()) : cL_1 L xs (nI n) gA gB K = some () := by
  obtain ⟨p, f, r, a, b⟩ := id h
  have i1 : ∀ (k : Int32 → Option Unit), ag L xs (nI n + 1) k = k (xs (n + 1)) := fun k => by rw [show (nI n + 1 : Int32) = nI (n + 1) from nI_add n 1]; exact ag_nI (by omega) (by omega)
  unfold cL_1
  simp only [i1]
  obtain ⟨x, u, v, ea, eb, rel⟩ := c_end r a b (xs (n + 1))
  rw [ea, Option.bind_some, eb, Option.bind_some]
  dsimp only
  rw [if_pos rfl]
  exact hK _ _ rel
theorem kL_2 {L n : Nat} {xs : Nat → Int32} (hn : n + 6 ≤ L) (hL : L ≤ 3072) {gA gB : G} (h : Rel gA gB) {K : G → G → Option Unit} (hK : ∀ u v, Rel u v → K u v = some ()) : cL_2 L xs (nI n) gA gB K = some () := by
  obtain ⟨p, f, r, a, b⟩ := id h
  unfold cL_2
  obtain ⟨x, u, v, ea, eb, rel⟩ := c_desk r a b 
  rw [ea, Option.bind_some, eb, Option.bind_some]
  dsimp only
  rw [if_pos rfl]
  exact hK _ _ rel
theorem kL_3 {L n : Nat} {xs : Nat → Int32} (hn : n + 6 ≤ L) (hL : L ≤ 3072) {gA gB : G} (h : Rel gA gB) {K : G → G → Option Unit} (hK : ∀ u v, Rel u v → K u v = some ()) : cL_3 L xs (nI n) gA gB K = some () := by
  obtain ⟨p, f, r, a, b⟩ := id h
  have i1 : ∀ (k : Int32 → Option Unit), ag L xs (nI n + 1) k = k (xs (n + 1)) := fun k => by rw [show (nI n + 1 : Int32) = nI (n + 1) from nI_add n 1]; exact ag_nI (by omega) (by omega)
  unfold cL_3
  simp only [i1]
  obtain ⟨x, ea, eb⟩ := c_fault r (xs (n + 1))
  rw [ea, Option.bind_some, eb, Option.bind_some, if_pos rfl]
  exact hK _ _ h
theorem kL_4 {L n : Nat} {xs : Nat → Int32} (hn : n + 6 ≤ L) (hL : L ≤ 3072) {gA gB : G} (h : Rel gA gB) {K : G → G → Option Unit} (hK : ∀ u v, Rel u v → K u v = some ()) : cL_4 L xs (nI n) gA gB K = some () := by
  obtain ⟨p, f, r, a, b⟩ := id h
  have i1 : ∀ (k : Int32 → Option Unit), ag L xs (nI n + 1) k = k (xs (n + 1)) := fun k => by rw [show (nI n + 1 : Int32) = nI (n + 1) from nI_add n 1]; exact ag_nI (by omega) (by omega)
  unfold cL_4
  simp only [i1]
  obtain ⟨x, ea, eb⟩ := c_has r (xs (n + 1))
  rw [ea, Option.bind_some, eb, Option.bind_some, if_pos rfl]
  exact hK _ _ h
theorem kL_5 {L n : Nat} {xs : Nat → Int32} (hn : n + 6 ≤ L) (hL : L ≤ 3072) {gA gB : G} (h : Rel gA gB) {K : G → G → Option Unit} (hK : ∀ u v, Rel u v → K u v = some ()) : cL_5 L xs (nI n) gA gB K = some () := by
  obtain ⟨p, f, r, a, b⟩ := id h
  have i1 : ∀ (k : Int32 → Option Unit), ag L xs (nI n + 1) k = k (xs (n + 1)) := fun k => by rw [show (nI n + 1 : Int32) = nI (n + 1) from nI_add n 1]; exact ag_nI (by omega) (by omega)
  have i2 : ∀ (k : Int32 → Option Unit), ag L xs (nI n + 2) k = k (xs (n + 2)) := fun k => by rw [show (nI n + 2 : Int32) = nI (n + 2) from nI_add n 2]; exact ag_nI (by omega) (by omega)
  have i3 : ∀ (k : Int32 → Option Unit), ag L xs (nI n + 3) k = k (xs (n + 3)) := fun k => by rw [show (nI n + 3 : Int32) = nI (n + 3) from nI_add n 3]; exact ag_nI (by omega) (by omega)
  unfold cL_5
  simp only [i1, i2, i3]
  obtain ⟨x, ea, eb⟩ := c_letter r (xs (n + 1)) (xs (n + 2)) (xs (n + 3))
  rw [ea, Option.bind_some, eb, Option.bind_some, if_pos rfl]
  exact hK _ _ h
theorem kL_6 {L n : Nat} {xs : Nat → Int32} (hn : n + 6 ≤ L) (hL : L ≤ 3072) {gA gB : G} (h : Rel gA gB) {K : G → G → Option Unit} (hK : ∀ u v, Rel u v → K u v = some ()) : cL_6 L xs (nI n) gA gB K = some () := by
  obtain ⟨p, f, r, a, b⟩ := id h
  have i1 : ∀ (k : Int32 → Option Unit), ag L xs (nI n + 1) k = k (xs (n + 1)) := fun k => by rw [show (nI n + 1 : Int32) = nI (n + 1) from nI_add n 1]; exact ag_nI (by omega) (by omega)
  have i2 : ∀ (k : Int32 → Option Unit), ag L xs (nI n + 2) k = k (xs (n + 2)) := fun k => by rw [show (nI n + 2 : Int32) = nI (n + 2) from nI_add n 2]; exact ag_nI (by omega) (by omega)
  unfold cL_6
  simp only [i1, i2]
  obtain ⟨x, ea, eb⟩ := c_plane r (xs (n + 1)) (xs (n + 2))
  rw [ea, Option.bind_some, eb, Option.bind_some, if_pos rfl]
  exact hK _ _ h
theorem kL_7 {L n : Nat} {xs : Nat → Int32} (hn : n + 6 ≤ L) (hL : L ≤ 3072) {gA gB : G} (h : Rel gA gB) {K : G → G → Option Unit} (hK : ∀ u v, Rel u v → K u v = some ()) : cL_7 L xs (nI n) gA gB K = some () := by
  obtain ⟨p, f, r, a, b⟩ := id h
  have i1 : ∀ (k : Int32 → Option Unit), ag L xs (nI n + 1) k = k (xs (n + 1)) := fun k => by rw [show (nI n + 1 : Int32) = nI (n + 1) from nI_add n 1]; exact ag_nI (by omega) (by omega)
  have i2 : ∀ (k : Int32 → Option Unit), ag L xs (nI n + 2) k = k (xs (n + 2)) := fun k => by rw [show (nI n + 2 : Int32) = nI (n + 2) from nI_add n 2]; exact ag_nI (by omega) (by omega)
  unfold cL_7
  simp only [i1, i2]
  obtain ⟨x, ea, eb⟩ := c_craft r (xs (n + 1)) (xs (n + 2))
  rw [ea, Option.bind_some, eb, Option.bind_some, if_pos rfl]
  exact hK _ _ h
theorem kL_8 {L n : Nat} {xs : Nat → Int32} (hn : n + 6 ≤ L) (hL : L ≤ 3072) {gA gB : G} (h : Rel gA gB) {K : G → G → Option Unit} (hK : ∀ u v, Rel u v → K u v = some ()) : cL_8 L xs (nI n) gA gB K = some () := by
  obtain ⟨p, f, r, a, b⟩ := id h
  have i1 : ∀ (k : Int32 → Option Unit), ag L xs (nI n + 1) k = k (xs (n + 1)) := fun k => by rw [show (nI n + 1 : Int32) = nI (n + 1) from nI_add n 1]; exact ag_nI (by omega) (by omega)
  have i2 : ∀ (k : Int32 → Option Unit), ag L xs (nI n + 2) k = k (xs (n + 2)) := fun k => by rw [show (nI n + 2 : Int32) = nI (n + 2) from nI_add n 2]; exact ag_nI (by omega) (by omega)
  unfold cL_8
  simp only [i1, i2]
  obtain ⟨x, u, v, ea, eb, rel⟩ := c_site r a b (xs (n + 1)) (xs (n + 2))
  rw [ea, Option.bind_some, eb, Option.bind_some]
  dsimp only
  rw [if_pos rfl]
  exact hK _ _ rel
theorem kL_9 {L n : Nat} {xs : Nat → Int32} (hn : n + 6 ≤ L) (hL : L ≤ 3072) {gA gB : G} (h : Rel gA gB) {K : G → G → Option Unit} (hK : ∀ u v, Rel u v → K u v = some ()) : cL_9 L xs (nI n) gA gB K = some () := by
  obtain ⟨p, f, r, a, b⟩ := id h
  have i1 : ∀ (k : Int32 → Option Unit), ag L xs (nI n + 1) k = k (xs (n + 1)) := fun k => by rw [show (nI n + 1 : Int32) = nI (n + 1) from nI_add n 1]; exact ag_nI (by omega) (by omega)
  have i2 : ∀ (k : Int32 → Option Unit), ag L xs (nI n + 2) k = k (xs (n + 2)) := fun k => by rw [show (nI n + 2 : Int32) = nI (n + 2) from nI_add n 2]; exact ag_nI (by omega) (by omega)
  have i3 : ∀ (k : Int32 → Option Unit), ag L xs (nI n + 3) k = k (xs (n + 3)) := fun k => by rw [show (nI n + 3 : Int32) = nI (n + 3) from nI_add n 3]; exact ag_nI (by omega) (by omega)
  unfold cL_9
  simp only [i1, i2, i3]
  obtain ⟨x, u, ea, eb, rel⟩ := c_spot r a b (xs (n + 1)) (xs (n + 2)) (xs (n + 3))
  rw [ea, Option.bind_some, eb, Option.bind_some]
  dsimp only
  rw [if_pos rfl]
  exact hK _ _ rel
theorem kL_10 {L n : Nat} {xs : Nat → Int32} (hn : n + 6 ≤ L) (hL : L ≤ 3072) {gA gB : G} (h : Rel gA gB) {K : G → G → Option Unit} (hK : ∀ u v, Rel u v → K u v = some ()) : cL_10 L xs (nI n) gA gB K = some () := by
  obtain ⟨p, f, r, a, b⟩ := id h
  have i1 : ∀ (k : Int32 → Option Unit), ag L xs (nI n + 1) k = k (xs (n + 1)) := fun k => by rw [show (nI n + 1 : Int32) = nI (n + 1) from nI_add n 1]; exact ag_nI (by omega) (by omega)
  have i2 : ∀ (k : Int32 → Option Unit), ag L xs (nI n + 2) k = k (xs (n + 2)) := fun k => by rw [show (nI n + 2 : Int32) = nI (n + 2) from nI_add n 2]; exact ag_nI (by omega) (by omega)
  have i3 : ∀ (k : Int32 → Option Unit), ag L xs (nI n + 3) k = k (xs (n + 3)) := fun k => by rw [show (nI n + 3 : Int32) = nI (n + 3) from nI_add n 3]; exact ag_nI (by omega) (by omega)
  have i4 : ∀ (k : Int32 → Option Unit), ag L xs (nI n + 4) k = k (xs (n + 4)) := fun k => by rw [show (nI n + 4 : Int32) = nI (n + 4) from nI_add n 4]; exact ag_nI (by omega) (by omega)
  unfold cL_10
  simp only [i1, i2, i3, i4]
  obtain ⟨x, u, ea, eb, rel⟩ := c_sees r a b (xs (n + 1)) (xs (n + 2)) (xs (n + 3)) (xs (n + 4))
  rw [ea, Option.bind_some, eb, Option.bind_some]
  dsimp only
  rw [if_pos rfl]
  exact hK _ _ rel
theorem kL_11 {L n : Nat} {xs : Nat → Int32} (hn : n + 6 ≤ L) (hL : L ≤ 3072) {gA gB : G} (h : Rel gA gB) {K : G → G → Option Unit} (hK : ∀ u v, Rel u v → K u v = some ()) : cL_11 L xs (nI n) gA gB K = some () := by
  obtain ⟨p, f, r, a, b⟩ := id h
  have i1 : ∀ (k : Int32 → Option Unit), ag L xs (nI n + 1) k = k (xs (n + 1)) := fun k => by rw [show (nI n + 1 : Int32) = nI (n + 1) from nI_add n 1]; exact ag_nI (by omega) (by omega)
  have i2 : ∀ (k : Int32 → Option Unit), ag L xs (nI n + 2) k = k (xs (n + 2)) := fun k => by rw [show (nI n + 2 : Int32) = nI (n + 2) from nI_add n 2]; exact ag_nI (by omega) (by omega)
  have i3 : ∀ (k : Int32 → Option Unit), ag L xs (nI n + 3) k = k (xs (n + 3)) := fun k => by rw [show (nI n + 3 : Int32) = nI (n + 3) from nI_add n 3]; exact ag_nI (by omega) (by omega)
  unfold cL_11
  simp only [i1, i2, i3]
  obtain ⟨x, u, ea, eb, rel⟩ := c_seen r a b (xs (n + 1)) (xs (n + 2)) (xs (n + 3))
  rw [ea, Option.bind_some, eb, Option.bind_some]
  dsimp only
  rw [if_pos rfl]
  exact hK _ _ rel
theorem kL_12 {L n : Nat} {xs : Nat → Int32} (hn : n + 6 ≤ L) (hL : L ≤ 3072) {gA gB : G} (h : Rel gA gB) {K : G → G → Option Unit} (hK : ∀ u v, Rel u v → K u v = some ()) : cL_12 L xs (nI n) gA gB K = some () := by
  obtain ⟨p, f, r, a, b⟩ := id h
  have i1 : ∀ (k : Int32 → Option Unit), ag L xs (nI n + 1) k = k (xs (n + 1)) := fun k => by rw [show (nI n + 1 : Int32) = nI (n + 1) from nI_add n 1]; exact ag_nI (by omega) (by omega)
  unfold cL_12
  simp only [i1]
  obtain ⟨x, ea, eb⟩ := c_width r (xs (n + 1))
  rw [ea, Option.bind_some, eb, Option.bind_some, if_pos rfl]
  exact hK _ _ h
theorem kL_13 {L n : Nat} {xs : Nat → Int32} (hn : n + 6 ≤ L) (hL : L ≤ 3072) {gA gB : G} (h : Rel gA gB) {K : G → G → Option Unit} (hK : ∀ u v, Rel u v → K u v = some ()) : cL_13 L xs (nI n) gA gB K = some () := by
  obtain ⟨p, f, r, a, b⟩ := id h
  have i1 : ∀ (k : Int32 → Option Unit), ag L xs (nI n + 1) k = k (xs (n + 1)) := fun k => by rw [show (nI n + 1 : Int32) = nI (n + 1) from nI_add n 1]; exact ag_nI (by omega) (by omega)
  have i2 : ∀ (k : Int32 → Option Unit), ag L xs (nI n + 2) k = k (xs (n + 2)) := fun k => by rw [show (nI n + 2 : Int32) = nI (n + 2) from nI_add n 2]; exact ag_nI (by omega) (by omega)
  have i3 : ∀ (k : Int32 → Option Unit), ag L xs (nI n + 3) k = k (xs (n + 3)) := fun k => by rw [show (nI n + 3 : Int32) = nI (n + 3) from nI_add n 3]; exact ag_nI (by omega) (by omega)
  unfold cL_13
  simp only [i1, i2, i3]
  obtain ⟨x, u, v, ea, eb, rel⟩ := c_passes r a b (xs (n + 1)) (xs (n + 2)) (xs (n + 3))
  rw [ea, Option.bind_some, eb, Option.bind_some]
  dsimp only
  rw [if_pos rfl]
  exact hK _ _ rel
theorem kL_14 {L n : Nat} {xs : Nat → Int32} (hn : n + 6 ≤ L) (hL : L ≤ 3072) {gA gB : G} (h : Rel gA gB) {K : G → G → Option Unit} (hK : ∀ u v, Rel u v → K u v = some ()) : cL_14 L xs (nI n) gA gB K = some () := by
  obtain ⟨p, f, r, a, b⟩ := id h
  have i1 : ∀ (k : Int32 → Option Unit), ag L xs (nI n + 1) k = k (xs (n + 1)) := fun k => by rw [show (nI n + 1 : Int32) = nI (n + 1) from nI_add n 1]; exact ag_nI (by omega) (by omega)
  have i2 : ∀ (k : Int32 → Option Unit), ag L xs (nI n + 2) k = k (xs (n + 2)) := fun k => by rw [show (nI n + 2 : Int32) = nI (n + 2) from nI_add n 2]; exact ag_nI (by omega) (by omega)
  have i3 : ∀ (k : Int32 → Option Unit), ag L xs (nI n + 3) k = k (xs (n + 3)) := fun k => by rw [show (nI n + 3 : Int32) = nI (n + 3) from nI_add n 3]; exact ag_nI (by omega) (by omega)
  have i4 : ∀ (k : Int32 → Option Unit), ag L xs (nI n + 4) k = k (xs (n + 4)) := fun k => by rw [show (nI n + 4 : Int32) = nI (n + 4) from nI_add n 4]; exact ag_nI (by omega) (by omega)
  have i5 : ∀ (k : Int32 → Option Unit), ag L xs (nI n + 5) k = k (xs (n + 5)) := fun k => by rw [show (nI n + 5 : Int32) = nI (n + 5) from nI_add n 5]; exact ag_nI (by omega) (by omega)
  unfold cL_14
  simp only [i1, i2, i3, i4, i5]
  obtain ⟨x, u, v, ea, eb, rel⟩ := c_pass r a b (xs (n + 1)) (xs (n + 2)) (xs (n + 3)) (xs (n + 4)) (xs (n + 5))
  rw [ea, Option.bind_some, eb, Option.bind_some]
  dsimp only
  rw [if_pos rfl]
  exact hK _ _ rel
theorem kL_15 {L n : Nat} {xs : Nat → Int32} (hn : n + 6 ≤ L) (hL : L ≤ 3072) {gA gB : G} (h : Rel gA gB) {K : G → G → Option Unit} (hK : ∀ u v, Rel u v → K u v = some ()) : cL_15 L xs (nI n) gA gB K = some () := by
  obtain ⟨p, f, r, a, b⟩ := id h
  have i1 : ∀ (k : Int32 → Option Unit), ag L xs (nI n + 1) k = k (xs (n + 1)) := fun k => by rw [show (nI n + 1 : Int32) = nI (n + 1) from nI_add n 1]; exact ag_nI (by omega) (by omega)
  have i2 : ∀ (k : Int32 → Option Unit), ag L xs (nI n + 2) k = k (xs (n + 2)) := fun k => by rw [show (nI n + 2 : Int32) = nI (n + 2) from nI_add n 2]; exact ag_nI (by omega) (by omega)
  unfold cL_15
  simp only [i1, i2]
  obtain ⟨x, u, v, ea, eb, rel⟩ := c_gaps r a b (xs (n + 1)) (xs (n + 2))
  rw [ea, Option.bind_some, eb, Option.bind_some]
  dsimp only
  rw [if_pos rfl]
  exact hK _ _ rel
theorem kL_16 {L n : Nat} {xs : Nat → Int32} (hn : n + 6 ≤ L) (hL : L ≤ 3072) {gA gB : G} (h : Rel gA gB) {K : G → G → Option Unit} (hK : ∀ u v, Rel u v → K u v = some ()) : cL_16 L xs (nI n) gA gB K = some () := by
  obtain ⟨p, f, r, a, b⟩ := id h
  have i1 : ∀ (k : Int32 → Option Unit), ag L xs (nI n + 1) k = k (xs (n + 1)) := fun k => by rw [show (nI n + 1 : Int32) = nI (n + 1) from nI_add n 1]; exact ag_nI (by omega) (by omega)
  have i2 : ∀ (k : Int32 → Option Unit), ag L xs (nI n + 2) k = k (xs (n + 2)) := fun k => by rw [show (nI n + 2 : Int32) = nI (n + 2) from nI_add n 2]; exact ag_nI (by omega) (by omega)
  have i3 : ∀ (k : Int32 → Option Unit), ag L xs (nI n + 3) k = k (xs (n + 3)) := fun k => by rw [show (nI n + 3 : Int32) = nI (n + 3) from nI_add n 3]; exact ag_nI (by omega) (by omega)
  have i4 : ∀ (k : Int32 → Option Unit), ag L xs (nI n + 4) k = k (xs (n + 4)) := fun k => by rw [show (nI n + 4 : Int32) = nI (n + 4) from nI_add n 4]; exact ag_nI (by omega) (by omega)
  unfold cL_16
  simp only [i1, i2, i3, i4]
  obtain ⟨x, u, v, ea, eb, rel⟩ := c_gap r a b (xs (n + 1)) (xs (n + 2)) (xs (n + 3)) (xs (n + 4))
  rw [ea, Option.bind_some, eb, Option.bind_some]
  dsimp only
  rw [if_pos rfl]
  exact hK _ _ rel
theorem kL_17 {L n : Nat} {xs : Nat → Int32} (hn : n + 6 ≤ L) (hL : L ≤ 3072) {gA gB : G} (h : Rel gA gB) {K : G → G → Option Unit} (hK : ∀ u v, Rel u v → K u v = some ()) : cL_17 L xs (nI n) gA gB K = some () := by
  obtain ⟨p, f, r, a, b⟩ := id h
  have i1 : ∀ (k : Int32 → Option Unit), ag L xs (nI n + 1) k = k (xs (n + 1)) := fun k => by rw [show (nI n + 1 : Int32) = nI (n + 1) from nI_add n 1]; exact ag_nI (by omega) (by omega)
  have i2 : ∀ (k : Int32 → Option Unit), ag L xs (nI n + 2) k = k (xs (n + 2)) := fun k => by rw [show (nI n + 2 : Int32) = nI (n + 2) from nI_add n 2]; exact ag_nI (by omega) (by omega)
  unfold cL_17
  simp only [i1, i2]
  obtain ⟨x, u, v, ea, eb, rel⟩ := c_greatest r a b (xs (n + 1)) (xs (n + 2))
  rw [ea, Option.bind_some, eb, Option.bind_some]
  dsimp only
  rw [if_pos rfl]
  exact hK _ _ rel
theorem kL_18 {L n : Nat} {xs : Nat → Int32} (hn : n + 6 ≤ L) (hL : L ≤ 3072) {gA gB : G} (h : Rel gA gB) {K : G → G → Option Unit} (hK : ∀ u v, Rel u v → K u v = some ()) : cL_18 L xs (nI n) gA gB K = some () := by
  obtain ⟨p, f, r, a, b⟩ := id h
  have i1 : ∀ (k : Int32 → Option Unit), ag L xs (nI n + 1) k = k (xs (n + 1)) := fun k => by rw [show (nI n + 1 : Int32) = nI (n + 1) from nI_add n 1]; exact ag_nI (by omega) (by omega)
  have i2 : ∀ (k : Int32 → Option Unit), ag L xs (nI n + 2) k = k (xs (n + 2)) := fun k => by rw [show (nI n + 2 : Int32) = nI (n + 2) from nI_add n 2]; exact ag_nI (by omega) (by omega)
  unfold cL_18
  simp only [i1, i2]
  obtain ⟨x, u, v, ea, eb, rel⟩ := c_mean r a b (xs (n + 1)) (xs (n + 2))
  rw [ea, Option.bind_some, eb, Option.bind_some]
  dsimp only
  rw [if_pos (lgc x)]
  exact hK _ _ rel
theorem kL_19 {L n : Nat} {xs : Nat → Int32} (hn : n + 6 ≤ L) (hL : L ≤ 3072) {gA gB : G} (h : Rel gA gB) {K : G → G → Option Unit} (hK : ∀ u v, Rel u v → K u v = some ()) : cL_19 L xs (nI n) gA gB K = some () := by
  obtain ⟨p, f, r, a, b⟩ := id h
  have i1 : ∀ (k : Int32 → Option Unit), ag L xs (nI n + 1) k = k (xs (n + 1)) := fun k => by rw [show (nI n + 1 : Int32) = nI (n + 1) from nI_add n 1]; exact ag_nI (by omega) (by omega)
  unfold cL_19
  simp only [i1]
  obtain ⟨x, u, v, ea, eb, rel⟩ := c_covered r a b (xs (n + 1))
  rw [ea, Option.bind_some, eb, Option.bind_some]
  dsimp only
  rw [if_pos rfl]
  exact hK _ _ rel
theorem kL_20 {L n : Nat} {xs : Nat → Int32} (hn : n + 6 ≤ L) (hL : L ≤ 3072) {gA gB : G} (h : Rel gA gB) {K : G → G → Option Unit} (hK : ∀ u v, Rel u v → K u v = some ()) : cL_20 L xs (nI n) gA gB K = some () := by
  obtain ⟨p, f, r, a, b⟩ := id h
  have i1 : ∀ (k : Int32 → Option Unit), ag L xs (nI n + 1) k = k (xs (n + 1)) := fun k => by rw [show (nI n + 1 : Int32) = nI (n + 1) from nI_add n 1]; exact ag_nI (by omega) (by omega)
  unfold cL_20
  simp only [i1]
  obtain ⟨x, u, v, ea, eb, rel⟩ := c_cover r a b (xs (n + 1))
  rw [ea, Option.bind_some, eb, Option.bind_some]
  dsimp only
  rw [if_pos rfl]
  exact hK _ _ rel
theorem kL_21 {L n : Nat} {xs : Nat → Int32} (hn : n + 6 ≤ L) (hL : L ≤ 3072) {gA gB : G} (h : Rel gA gB) {K : G → G → Option Unit} (hK : ∀ u v, Rel u v → K u v = some ()) : cL_21 L xs (nI n) gA gB K = some () := by
  obtain ⟨p, f, r, a, b⟩ := id h
  unfold cL_21
  obtain ⟨x, u, v, ea, eb, rel⟩ := c_score r a b 
  rw [ea, Option.bind_some, eb, Option.bind_some]
  dsimp only
  rw [if_pos rfl]
  exact hK _ _ rel
theorem kL_22 {L n : Nat} {xs : Nat → Int32} (hn : n + 6 ≤ L) (hL : L ≤ 3072) {gA gB : G} (h : Rel gA gB) {K : G → G → Option Unit} (hK : ∀ u v, Rel u v → K u v = some ()) : cL_22 L xs (nI n) gA gB K = some () := by
  obtain ⟨p, f, r, a, b⟩ := id h
  have i1 : ∀ (k : Int32 → Option Unit), ag L xs (nI n + 1) k = k (xs (n + 1)) := fun k => by rw [show (nI n + 1 : Int32) = nI (n + 1) from nI_add n 1]; exact ag_nI (by omega) (by omega)
  unfold cL_22
  simp only [i1]
  obtain ⟨x, u, v, ea, eb, rel⟩ := c_worst r a b (xs (n + 1))
  rw [ea, Option.bind_some, eb, Option.bind_some]
  dsimp only
  rw [if_pos rfl]
  exact hK _ _ rel
theorem kL_23 {L n : Nat} {xs : Nat → Int32} (hn : n + 6 ≤ L) (hL : L ≤ 3072) {gA gB : G} (h : Rel gA gB) {K : G → G → Option Unit} (hK : ∀ u v, Rel u v → K u v = some ()) : cL_23 L xs (nI n) gA gB K = some () := by
  obtain ⟨p, f, r, a, b⟩ := id h
  unfold cL_23
  obtain ⟨x, u, v, ea, eb, rel⟩ := c_never r a b 
  rw [ea, Option.bind_some, eb, Option.bind_some]
  dsimp only
  rw [if_pos rfl]
  exact hK _ _ rel
theorem kL_24 {L n : Nat} {xs : Nat → Int32} (hn : n + 6 ≤ L) (hL : L ≤ 3072) {gA gB : G} (h : Rel gA gB) {K : G → G → Option Unit} (hK : ∀ u v, Rel u v → K u v = some ()) : cL_24 L xs (nI n) gA gB K = some () := by
  obtain ⟨p, f, r, a, b⟩ := id h
  have i1 : ∀ (k : Int32 → Option Unit), ag L xs (nI n + 1) k = k (xs (n + 1)) := fun k => by rw [show (nI n + 1 : Int32) = nI (n + 1) from nI_add n 1]; exact ag_nI (by omega) (by omega)
  unfold cL_24
  simp only [i1]
  obtain ⟨x, u, v, ea, eb, rel⟩ := c_soon r a b (xs (n + 1))
  rw [ea, Option.bind_some, eb, Option.bind_some]
  dsimp only
  rw [if_pos rfl]
  exact hK _ _ rel
theorem kL_25 {L n : Nat} {xs : Nat → Int32} (hn : n + 6 ≤ L) (hL : L ≤ 3072) {gA gB : G} (h : Rel gA gB) {K : G → G → Option Unit} (hK : ∀ u v, Rel u v → K u v = some ()) : cL_25 L xs (nI n) gA gB K = some () := by
  obtain ⟨p, f, r, a, b⟩ := id h
  have i1 : ∀ (k : Int32 → Option Unit), ag L xs (nI n + 1) k = k (xs (n + 1)) := fun k => by rw [show (nI n + 1 : Int32) = nI (n + 1) from nI_add n 1]; exact ag_nI (by omega) (by omega)
  have i2 : ∀ (k : Int32 → Option Unit), ag L xs (nI n + 2) k = k (xs (n + 2)) := fun k => by rw [show (nI n + 2 : Int32) = nI (n + 2) from nI_add n 2]; exact ag_nI (by omega) (by omega)
  have i3 : ∀ (k : Int32 → Option Unit), ag L xs (nI n + 3) k = k (xs (n + 3)) := fun k => by rw [show (nI n + 3 : Int32) = nI (n + 3) from nI_add n 3]; exact ag_nI (by omega) (by omega)
  unfold cL_25
  simp only [i1, i2, i3]
  obtain ⟨x, u, v, ea, eb, rel⟩ := c_next r a b (xs (n + 1)) (xs (n + 2)) (xs (n + 3))
  rw [ea, Option.bind_some, eb, Option.bind_some]
  dsimp only
  rw [if_pos rfl]
  exact hK _ _ rel
theorem kL_26 {L n : Nat} {xs : Nat → Int32} (hn : n + 6 ≤ L) (hL : L ≤ 3072) {gA gB : G} (h : Rel gA gB) {K : G → G → Option Unit} (hK : ∀ u v, Rel u v → K u v = some ()) : cL_26 L xs (nI n) gA gB K = some () := by
  obtain ⟨p, f, r, a, b⟩ := id h
  have i1 : ∀ (k : Int32 → Option Unit), ag L xs (nI n + 1) k = k (xs (n + 1)) := fun k => by rw [show (nI n + 1 : Int32) = nI (n + 1) from nI_add n 1]; exact ag_nI (by omega) (by omega)
  have i2 : ∀ (k : Int32 → Option Unit), ag L xs (nI n + 2) k = k (xs (n + 2)) := fun k => by rw [show (nI n + 2 : Int32) = nI (n + 2) from nI_add n 2]; exact ag_nI (by omega) (by omega)
  unfold cL_26
  simp only [i1, i2]
  obtain ⟨x, u, v, ea, eb, rel⟩ := c_best r a b (xs (n + 1)) (xs (n + 2))
  rw [ea, Option.bind_some, eb, Option.bind_some]
  dsimp only
  rw [if_pos rfl]
  exact hK _ _ rel
theorem kL_27 {L n : Nat} {xs : Nat → Int32} (hn : n + 6 ≤ L) (hL : L ≤ 3072) {gA gB : G} (h : Rel gA gB) {K : G → G → Option Unit} (hK : ∀ u v, Rel u v → K u v = some ()) : cL_27 L xs (nI n) gA gB K = some () := by
  obtain ⟨p, f, r, a, b⟩ := id h
  have i1 : ∀ (k : Int32 → Option Unit), ag L xs (nI n + 1) k = k (xs (n + 1)) := fun k => by rw [show (nI n + 1 : Int32) = nI (n + 1) from nI_add n 1]; exact ag_nI (by omega) (by omega)
  have i2 : ∀ (k : Int32 → Option Unit), ag L xs (nI n + 2) k = k (xs (n + 2)) := fun k => by rw [show (nI n + 2 : Int32) = nI (n + 2) from nI_add n 2]; exact ag_nI (by omega) (by omega)
  unfold cL_27
  simp only [i1, i2]
  obtain ⟨x, u, v, ea, eb, rel⟩ := c_even r a b (xs (n + 1)) (xs (n + 2))
  rw [ea, Option.bind_some, eb, Option.bind_some]
  dsimp only
  rw [if_pos rfl]
  exact hK _ _ rel
theorem kL_28 {L n : Nat} {xs : Nat → Int32} (hn : n + 6 ≤ L) (hL : L ≤ 3072) {gA gB : G} (h : Rel gA gB) {K : G → G → Option Unit} (hK : ∀ u v, Rel u v → K u v = some ()) : cL_28 L xs (nI n) gA gB K = some () := by
  obtain ⟨p, f, r, a, b⟩ := id h
  have i1 : ∀ (k : Int32 → Option Unit), ag L xs (nI n + 1) k = k (xs (n + 1)) := fun k => by rw [show (nI n + 1 : Int32) = nI (n + 1) from nI_add n 1]; exact ag_nI (by omega) (by omega)
  unfold cL_28
  simp only [i1]
  obtain ⟨x, u, v, ea, eb, rel⟩ := c_critical r a b (xs (n + 1))
  rw [ea, Option.bind_some, eb, Option.bind_some]
  dsimp only
  rw [if_pos rfl]
  exact hK _ _ rel
theorem kL_29 {L n : Nat} {xs : Nat → Int32} (hn : n + 6 ≤ L) (hL : L ≤ 3072) {gA gB : G} (h : Rel gA gB) {K : G → G → Option Unit} (hK : ∀ u v, Rel u v → K u v = some ()) : cL_29 L xs (nI n) gA gB K = some () := by
  obtain ⟨p, f, r, a, b⟩ := id h
  have i1 : ∀ (k : Int32 → Option Unit), ag L xs (nI n + 1) k = k (xs (n + 1)) := fun k => by rw [show (nI n + 1 : Int32) = nI (n + 1) from nI_add n 1]; exact ag_nI (by omega) (by omega)
  have i2 : ∀ (k : Int32 → Option Unit), ag L xs (nI n + 2) k = k (xs (n + 2)) := fun k => by rw [show (nI n + 2 : Int32) = nI (n + 2) from nI_add n 2]; exact ag_nI (by omega) (by omega)
  unfold cL_29
  simp only [i1, i2]
  obtain ⟨x, u, v, ea, eb, rel⟩ := c_relief r a b (xs (n + 1)) (xs (n + 2))
  rw [ea, Option.bind_some, eb, Option.bind_some]
  dsimp only
  rw [if_pos rfl]
  exact hK _ _ rel
theorem kL_30 {L n : Nat} {xs : Nat → Int32} (hn : n + 6 ≤ L) (hL : L ≤ 3072) {gA gB : G} (h : Rel gA gB) {K : G → G → Option Unit} (hK : ∀ u v, Rel u v → K u v = some ()) : cL_30 L xs (nI n) gA gB K = some () := by
  obtain ⟨p, f, r, a, b⟩ := id h
  have i1 : ∀ (k : Int32 → Option Unit), ag L xs (nI n + 1) k = k (xs (n + 1)) := fun k => by rw [show (nI n + 1 : Int32) = nI (n + 1) from nI_add n 1]; exact ag_nI (by omega) (by omega)
  have i2 : ∀ (k : Int32 → Option Unit), ag L xs (nI n + 2) k = k (xs (n + 2)) := fun k => by rw [show (nI n + 2 : Int32) = nI (n + 2) from nI_add n 2]; exact ag_nI (by omega) (by omega)
  unfold cL_30
  simp only [i1, i2]
  obtain ⟨x, u, v, ea, eb, rel⟩ := c_bestNode r a b (xs (n + 1)) (xs (n + 2))
  rw [ea, Option.bind_some, eb, Option.bind_some]
  dsimp only
  rw [if_pos rfl]
  exact hK _ _ rel
theorem kL_31 {L n : Nat} {xs : Nat → Int32} (hn : n + 6 ≤ L) (hL : L ≤ 3072) {gA gB : G} (h : Rel gA gB) {K : G → G → Option Unit} (hK : ∀ u v, Rel u v → K u v = some ()) : cL_31 L xs (nI n) gA gB K = some () := by
  obtain ⟨p, f, r, a, b⟩ := id h
  have i1 : ∀ (k : Int32 → Option Unit), ag L xs (nI n + 1) k = k (xs (n + 1)) := fun k => by rw [show (nI n + 1 : Int32) = nI (n + 1) from nI_add n 1]; exact ag_nI (by omega) (by omega)
  have i2 : ∀ (k : Int32 → Option Unit), ag L xs (nI n + 2) k = k (xs (n + 2)) := fun k => by rw [show (nI n + 2 : Int32) = nI (n + 2) from nI_add n 2]; exact ag_nI (by omega) (by omega)
  unfold cL_31
  simp only [i1, i2]
  obtain ⟨x, u, v, ea, eb, rel⟩ := c_fewest r a b (xs (n + 1)) (xs (n + 2))
  rw [ea, Option.bind_some, eb, Option.bind_some]
  dsimp only
  rw [if_pos rfl]
  exact hK _ _ rel
theorem kL_32 {L n : Nat} {xs : Nat → Int32} (hn : n + 6 ≤ L) (hL : L ≤ 3072) {gA gB : G} (h : Rel gA gB) {K : G → G → Option Unit} (hK : ∀ u v, Rel u v → K u v = some ()) : cL_32 L xs (nI n) gA gB K = some () := by
  obtain ⟨p, f, r, a, b⟩ := id h
  have i1 : ∀ (k : Int32 → Option Unit), ag L xs (nI n + 1) k = k (xs (n + 1)) := fun k => by rw [show (nI n + 1 : Int32) = nI (n + 1) from nI_add n 1]; exact ag_nI (by omega) (by omega)
  have i2 : ∀ (k : Int32 → Option Unit), ag L xs (nI n + 2) k = k (xs (n + 2)) := fun k => by rw [show (nI n + 2 : Int32) = nI (n + 2) from nI_add n 2]; exact ag_nI (by omega) (by omega)
  unfold cL_32
  simp only [i1, i2]
  obtain ⟨x, u, ea, eb, rel⟩ := c_meets r a b (xs (n + 1)) (xs (n + 2))
  rw [ea, Option.bind_some, eb, Option.bind_some]
  dsimp only
  rw [if_pos rfl]
  exact hK _ _ rel
theorem kL_33 {L n : Nat} {xs : Nat → Int32} (hn : n + 6 ≤ L) (hL : L ≤ 3072) {gA gB : G} (h : Rel gA gB) {K : G → G → Option Unit} (hK : ∀ u v, Rel u v → K u v = some ()) : cL_33 L xs (nI n) gA gB K = some () := by
  obtain ⟨p, f, r, a, b⟩ := id h
  have i1 : ∀ (k : Int32 → Option Unit), ag L xs (nI n + 1) k = k (xs (n + 1)) := fun k => by rw [show (nI n + 1 : Int32) = nI (n + 1) from nI_add n 1]; exact ag_nI (by omega) (by omega)
  have i2 : ∀ (k : Int32 → Option Unit), ag L xs (nI n + 2) k = k (xs (n + 2)) := fun k => by rw [show (nI n + 2 : Int32) = nI (n + 2) from nI_add n 2]; exact ag_nI (by omega) (by omega)
  unfold cL_33
  simp only [i1, i2]
  obtain ⟨x, u, v, ea, eb, rel⟩ := c_extreme r a b (if xs (n + 1) = 0 then 0 else 1) (xs (n + 2))
  rw [ea, Option.bind_some, eb, Option.bind_some]
  dsimp only
  rw [if_pos rfl]
  exact hK _ _ rel
theorem kL_34 {L n : Nat} {xs : Nat → Int32} (hn : n + 6 ≤ L) (hL : L ≤ 3072) {gA gB : G} (h : Rel gA gB) {K : G → G → Option Unit} (hK : ∀ u v, Rel u v → K u v = some ()) : cL_34 L xs (nI n) gA gB K = some () := by
  obtain ⟨p, f, r, a, b⟩ := id h
  have i1 : ∀ (k : Int32 → Option Unit), ag L xs (nI n + 1) k = k (xs (n + 1)) := fun k => by rw [show (nI n + 1 : Int32) = nI (n + 1) from nI_add n 1]; exact ag_nI (by omega) (by omega)
  have i2 : ∀ (k : Int32 → Option Unit), ag L xs (nI n + 2) k = k (xs (n + 2)) := fun k => by rw [show (nI n + 2 : Int32) = nI (n + 2) from nI_add n 2]; exact ag_nI (by omega) (by omega)
  have i3 : ∀ (k : Int32 → Option Unit), ag L xs (nI n + 3) k = k (xs (n + 3)) := fun k => by rw [show (nI n + 3 : Int32) = nI (n + 3) from nI_add n 3]; exact ag_nI (by omega) (by omega)
  unfold cL_34
  simp only [i1, i2, i3]
  obtain ⟨x, u, v, ea, eb, rel⟩ := c_depth r a b (xs (n + 1)) (xs (n + 2)) (xs (n + 3))
  rw [ea, Option.bind_some, eb, Option.bind_some]
  dsimp only
  rw [if_pos rfl]
  exact hK _ _ rel
theorem kL_35 {L n : Nat} {xs : Nat → Int32} (hn : n + 6 ≤ L) (hL : L ≤ 3072) {gA gB : G} (h : Rel gA gB) {K : G → G → Option Unit} (hK : ∀ u v, Rel u v → K u v = some ()) : cL_35 L xs (nI n) gA gB K = some () := by
  obtain ⟨p, f, r, a, b⟩ := id h
  have i1 : ∀ (k : Int32 → Option Unit), ag L xs (nI n + 1) k = k (xs (n + 1)) := fun k => by rw [show (nI n + 1 : Int32) = nI (n + 1) from nI_add n 1]; exact ag_nI (by omega) (by omega)
  unfold cL_35
  simp only [i1]
  obtain ⟨x, u, v, ea, eb, rel⟩ := c_couple r a b (xs (n + 1))
  rw [ea, Option.bind_some, eb, Option.bind_some]
  dsimp only
  rw [if_pos rfl]
  exact hK _ _ rel
theorem kL_36 {L n : Nat} {xs : Nat → Int32} (hn : n + 6 ≤ L) (hL : L ≤ 3072) {gA gB : G} (h : Rel gA gB) {K : G → G → Option Unit} (hK : ∀ u v, Rel u v → K u v = some ()) : cL_36 L xs (nI n) gA gB K = some () := by
  obtain ⟨p, f, r, a, b⟩ := id h
  have i1 : ∀ (k : Int32 → Option Unit), ag L xs (nI n + 1) k = k (xs (n + 1)) := fun k => by rw [show (nI n + 1 : Int32) = nI (n + 1) from nI_add n 1]; exact ag_nI (by omega) (by omega)
  have i2 : ∀ (k : Int32 → Option Unit), ag L xs (nI n + 2) k = k (xs (n + 2)) := fun k => by rw [show (nI n + 2 : Int32) = nI (n + 2) from nI_add n 2]; exact ag_nI (by omega) (by omega)
  have i3 : ∀ (k : Int32 → Option Unit), ag L xs (nI n + 3) k = k (xs (n + 3)) := fun k => by rw [show (nI n + 3 : Int32) = nI (n + 3) from nI_add n 3]; exact ag_nI (by omega) (by omega)
  unfold cL_36
  simp only [i1, i2, i3]
  obtain ⟨x, u, v, ea, eb, rel⟩ := c_carry r a b (xs (n + 1)) (xs (n + 2)) (xs (n + 3))
  rw [ea, Option.bind_some, eb, Option.bind_some]
  dsimp only
  rw [if_pos rfl]
  exact hK _ _ rel
theorem kL_37 {L n : Nat} {xs : Nat → Int32} (hn : n + 6 ≤ L) (hL : L ≤ 3072) {gA gB : G} (h : Rel gA gB) {K : G → G → Option Unit} (hK : ∀ u v, Rel u v → K u v = some ()) : cL_37 L xs (nI n) gA gB K = some () := by
  obtain ⟨p, f, r, a, b⟩ := id h
  have i1 : ∀ (k : Int32 → Option Unit), ag L xs (nI n + 1) k = k (xs (n + 1)) := fun k => by rw [show (nI n + 1 : Int32) = nI (n + 1) from nI_add n 1]; exact ag_nI (by omega) (by omega)
  have i2 : ∀ (k : Int32 → Option Unit), ag L xs (nI n + 2) k = k (xs (n + 2)) := fun k => by rw [show (nI n + 2 : Int32) = nI (n + 2) from nI_add n 2]; exact ag_nI (by omega) (by omega)
  have i3 : ∀ (k : Int32 → Option Unit), ag L xs (nI n + 3) k = k (xs (n + 3)) := fun k => by rw [show (nI n + 3 : Int32) = nI (n + 3) from nI_add n 3]; exact ag_nI (by omega) (by omega)
  unfold cL_37
  simp only [i1, i2, i3]
  obtain ⟨x, u, v, ea, eb, rel⟩ := c_holders r a b (xs (n + 1)) (xs (n + 2)) (xs (n + 3))
  rw [ea, Option.bind_some, eb, Option.bind_some]
  dsimp only
  rw [if_pos rfl]
  exact hK _ _ rel
theorem kL_38 {L n : Nat} {xs : Nat → Int32} (hn : n + 6 ≤ L) (hL : L ≤ 3072) {gA gB : G} (h : Rel gA gB) {K : G → G → Option Unit} (hK : ∀ u v, Rel u v → K u v = some ()) : cL_38 L xs (nI n) gA gB K = some () := by
  obtain ⟨p, f, r, a, b⟩ := id h
  have i1 : ∀ (k : Int32 → Option Unit), ag L xs (nI n + 1) k = k (xs (n + 1)) := fun k => by rw [show (nI n + 1 : Int32) = nI (n + 1) from nI_add n 1]; exact ag_nI (by omega) (by omega)
  have i2 : ∀ (k : Int32 → Option Unit), ag L xs (nI n + 2) k = k (xs (n + 2)) := fun k => by rw [show (nI n + 2 : Int32) = nI (n + 2) from nI_add n 2]; exact ag_nI (by omega) (by omega)
  have i3 : ∀ (k : Int32 → Option Unit), ag L xs (nI n + 3) k = k (xs (n + 3)) := fun k => by rw [show (nI n + 3 : Int32) = nI (n + 3) from nI_add n 3]; exact ag_nI (by omega) (by omega)
  unfold cL_38
  simp only [i1, i2, i3]
  obtain ⟨x, u, v, ea, eb, rel⟩ := c_source r a b (xs (n + 1)) (xs (n + 2)) (xs (n + 3))
  rw [ea, Option.bind_some, eb, Option.bind_some]
  dsimp only
  rw [if_pos rfl]
  exact hK _ _ rel
theorem kL_39 {L n : Nat} {xs : Nat → Int32} (hn : n + 6 ≤ L) (hL : L ≤ 3072) {gA gB : G} (h : Rel gA gB) {K : G → G → Option Unit} (hK : ∀ u v, Rel u v → K u v = some ()) : cL_39 L xs (nI n) gA gB K = some () := by
  obtain ⟨p, f, r, a, b⟩ := id h
  unfold cL_39
  obtain ⟨x, u, v, ea, eb, rel⟩ := c_note r a b 
  rw [ea, Option.bind_some, eb, Option.bind_some]
  dsimp only
  rw [if_pos rfl]
  exact hK _ _ rel
theorem kL_40 {L n : Nat} {xs : Nat → Int32} (hn : n + 6 ≤ L) (hL : L ≤ 3072) {gA gB : G} (h : Rel gA gB) {K : G → G → Option Unit} (hK : ∀ u v, Rel u v → K u v = some ()) : cL_40 L xs (nI n) gA gB K = some () := by
  obtain ⟨p, f, r, a, b⟩ := id h
  have i1 : ∀ (k : Int32 → Option Unit), ag L xs (nI n + 1) k = k (xs (n + 1)) := fun k => by rw [show (nI n + 1 : Int32) = nI (n + 1) from nI_add n 1]; exact ag_nI (by omega) (by omega)
  unfold cL_40
  simp only [i1]
  obtain ⟨x, u, v, ea, eb, rel⟩ := c_suspect r a b (xs (n + 1))
  rw [ea, Option.bind_some, eb, Option.bind_some]
  dsimp only
  rw [if_pos rfl]
  exact hK _ _ rel
theorem kL_41 {L n : Nat} {xs : Nat → Int32} (hn : n + 6 ≤ L) (hL : L ≤ 3072) {gA gB : G} (h : Rel gA gB) {K : G → G → Option Unit} (hK : ∀ u v, Rel u v → K u v = some ()) : cL_41 L xs (nI n) gA gB K = some () := by
  obtain ⟨p, f, r, a, b⟩ := id h
  have i1 : ∀ (k : Int32 → Option Unit), ag L xs (nI n + 1) k = k (xs (n + 1)) := fun k => by rw [show (nI n + 1 : Int32) = nI (n + 1) from nI_add n 1]; exact ag_nI (by omega) (by omega)
  unfold cL_41
  simp only [i1]
  obtain ⟨x, u, v, ea, eb, rel⟩ := c_tells r a b (xs (n + 1))
  rw [ea, Option.bind_some, eb, Option.bind_some]
  dsimp only
  rw [if_pos rfl]
  exact hK _ _ rel
theorem kL_42 {L n : Nat} {xs : Nat → Int32} (hn : n + 6 ≤ L) (hL : L ≤ 3072) {gA gB : G} (h : Rel gA gB) {K : G → G → Option Unit} (hK : ∀ u v, Rel u v → K u v = some ()) : cL_42 L xs (nI n) gA gB K = some () := by
  obtain ⟨p, f, r, a, b⟩ := id h
  have i1 : ∀ (k : Int32 → Option Unit), ag L xs (nI n + 1) k = k (xs (n + 1)) := fun k => by rw [show (nI n + 1 : Int32) = nI (n + 1) from nI_add n 1]; exact ag_nI (by omega) (by omega)
  unfold cL_42
  simp only [i1]
  obtain ⟨x, u, v, ea, eb, rel⟩ := c_lose r a b (xs (n + 1))
  rw [ea, Option.bind_some, eb, Option.bind_some]
  dsimp only
  rw [if_pos rfl]
  exact hK _ _ rel
theorem kL_43 {L n : Nat} {xs : Nat → Int32} (hn : n + 6 ≤ L) (hL : L ≤ 3072) {gA gB : G} (h : Rel gA gB) {K : G → G → Option Unit} (hK : ∀ u v, Rel u v → K u v = some ()) : cL_43 L xs (nI n) gA gB K = some () := by
  obtain ⟨p, f, r, a, b⟩ := id h
  have i1 : ∀ (k : Int32 → Option Unit), ag L xs (nI n + 1) k = k (xs (n + 1)) := fun k => by rw [show (nI n + 1 : Int32) = nI (n + 1) from nI_add n 1]; exact ag_nI (by omega) (by omega)
  unfold cL_43
  simp only [i1]
  obtain ⟨x, u, v, ea, eb, rel⟩ := c_find r a b (xs (n + 1))
  rw [ea, Option.bind_some, eb, Option.bind_some]
  dsimp only
  rw [if_pos rfl]
  exact hK _ _ rel
theorem kL_44 {L n : Nat} {xs : Nat → Int32} (hn : n + 6 ≤ L) (hL : L ≤ 3072) {gA gB : G} (h : Rel gA gB) {K : G → G → Option Unit} (hK : ∀ u v, Rel u v → K u v = some ()) : cL_44 L xs (nI n) gA gB K = some () := by
  obtain ⟨p, f, r, a, b⟩ := id h
  have i1 : ∀ (k : Int32 → Option Unit), ag L xs (nI n + 1) k = k (xs (n + 1)) := fun k => by rw [show (nI n + 1 : Int32) = nI (n + 1) from nI_add n 1]; exact ag_nI (by omega) (by omega)
  have i2 : ∀ (k : Int32 → Option Unit), ag L xs (nI n + 2) k = k (xs (n + 2)) := fun k => by rw [show (nI n + 2 : Int32) = nI (n + 2) from nI_add n 2]; exact ag_nI (by omega) (by omega)
  unfold cL_44
  simp only [i1, i2]
  obtain ⟨x, u, v, ea, eb, rel⟩ := c_phase r a b (xs (n + 1)) (xs (n + 2))
  rw [ea, Option.bind_some, eb, Option.bind_some]
  dsimp only
  rw [if_pos rfl]
  exact hK _ _ rel
theorem kL_45 {L n : Nat} {xs : Nat → Int32} (hn : n + 6 ≤ L) (hL : L ≤ 3072) {gA gB : G} (h : Rel gA gB) {K : G → G → Option Unit} (hK : ∀ u v, Rel u v → K u v = some ()) : cL_45 L xs (nI n) gA gB K = some () := by
  obtain ⟨p, f, r, a, b⟩ := id h
  have i1 : ∀ (k : Int32 → Option Unit), ag L xs (nI n + 1) k = k (xs (n + 1)) := fun k => by rw [show (nI n + 1 : Int32) = nI (n + 1) from nI_add n 1]; exact ag_nI (by omega) (by omega)
  have i2 : ∀ (k : Int32 → Option Unit), ag L xs (nI n + 2) k = k (xs (n + 2)) := fun k => by rw [show (nI n + 2 : Int32) = nI (n + 2) from nI_add n 2]; exact ag_nI (by omega) (by omega)
  unfold cL_45
  simp only [i1, i2]
  obtain ⟨x, u, v, ea, eb, rel⟩ := c_reach r a b (xs (n + 1)) (xs (n + 2))
  rw [ea, Option.bind_some, eb, Option.bind_some]
  dsimp only
  rw [if_pos rfl]
  exact hK _ _ rel
theorem kL_46 {L n : Nat} {xs : Nat → Int32} (hn : n + 6 ≤ L) (hL : L ≤ 3072) {gA gB : G} (h : Rel gA gB) {K : G → G → Option Unit} (hK : ∀ u v, Rel u v → K u v = some ()) : cL_46 L xs (nI n) gA gB K = some () := by
  obtain ⟨p, f, r, a, b⟩ := id h
  have i1 : ∀ (k : Int32 → Option Unit), ag L xs (nI n + 1) k = k (xs (n + 1)) := fun k => by rw [show (nI n + 1 : Int32) = nI (n + 1) from nI_add n 1]; exact ag_nI (by omega) (by omega)
  have i2 : ∀ (k : Int32 → Option Unit), ag L xs (nI n + 2) k = k (xs (n + 2)) := fun k => by rw [show (nI n + 2 : Int32) = nI (n + 2) from nI_add n 2]; exact ag_nI (by omega) (by omega)
  unfold cL_46
  simp only [i1, i2]
  obtain ⟨x, u, v, ea, eb, rel⟩ := c_node r a b (xs (n + 1)) (xs (n + 2))
  rw [ea, Option.bind_some, eb, Option.bind_some]
  dsimp only
  rw [if_pos rfl]
  exact hK _ _ rel
theorem kL_47 {L n : Nat} {xs : Nat → Int32} (hn : n + 6 ≤ L) (hL : L ≤ 3072) {gA gB : G} (h : Rel gA gB) {K : G → G → Option Unit} (hK : ∀ u v, Rel u v → K u v = some ()) : cL_47 L xs (nI n) gA gB K = some () := by
  obtain ⟨p, f, r, a, b⟩ := id h
  have i1 : ∀ (k : Int32 → Option Unit), ag L xs (nI n + 1) k = k (xs (n + 1)) := fun k => by rw [show (nI n + 1 : Int32) = nI (n + 1) from nI_add n 1]; exact ag_nI (by omega) (by omega)
  have i2 : ∀ (k : Int32 → Option Unit), ag L xs (nI n + 2) k = k (xs (n + 2)) := fun k => by rw [show (nI n + 2 : Int32) = nI (n + 2) from nI_add n 2]; exact ag_nI (by omega) (by omega)
  unfold cL_47
  simp only [i1, i2]
  obtain ⟨x, u, v, ea, eb, rel⟩ := c_spread r a b (xs (n + 1)) (xs (n + 2))
  rw [ea, Option.bind_some, eb, Option.bind_some]
  dsimp only
  rw [if_pos rfl]
  exact hK _ _ rel
theorem kL_48 {L n : Nat} {xs : Nat → Int32} (hn : n + 6 ≤ L) (hL : L ≤ 3072) {gA gB : G} (h : Rel gA gB) {K : G → G → Option Unit} (hK : ∀ u v, Rel u v → K u v = some ()) : cL_48 L xs (nI n) gA gB K = some () := by
  obtain ⟨p, f, r, a, b⟩ := id h
  have i1 : ∀ (k : Int32 → Option Unit), ag L xs (nI n + 1) k = k (xs (n + 1)) := fun k => by rw [show (nI n + 1 : Int32) = nI (n + 1) from nI_add n 1]; exact ag_nI (by omega) (by omega)
  unfold cL_48
  simp only [i1]
  obtain ⟨x, u, v, ea, eb, rel⟩ := c_chance r a b (xs (n + 1))
  rw [ea, Option.bind_some, eb, Option.bind_some]
  dsimp only
  rw [if_pos rfl]
  exact hK _ _ rel
theorem kL_49 {L n : Nat} {xs : Nat → Int32} (hn : n + 6 ≤ L) (hL : L ≤ 3072) {gA gB : G} (h : Rel gA gB) {K : G → G → Option Unit} (hK : ∀ u v, Rel u v → K u v = some ()) : cL_49 L xs (nI n) gA gB K = some () := by
  obtain ⟨p, f, r, a, b⟩ := id h
  unfold cL_49
  obtain ⟨x, u, v, ea, eb, rel⟩ := c_undo r a b 
  rw [ea, Option.bind_some, eb, Option.bind_some]
  dsimp only
  rw [if_pos rfl]
  exact hK _ _ rel
theorem kL_50 {L n : Nat} {xs : Nat → Int32} (hn : n + 6 ≤ L) (hL : L ≤ 3072) {gA gB : G} (h : Rel gA gB) {K : G → G → Option Unit} (hK : ∀ u v, Rel u v → K u v = some ()) : cL_50 L xs (nI n) gA gB K = some () := by
  obtain ⟨p, f, r, a, b⟩ := id h
  have i1 : ∀ (k : Int32 → Option Unit), ag L xs (nI n + 1) k = k (xs (n + 1)) := fun k => by rw [show (nI n + 1 : Int32) = nI (n + 1) from nI_add n 1]; exact ag_nI (by omega) (by omega)
  unfold cL_50
  simp only [i1]
  obtain ⟨x, u, v, ea, eb, rel⟩ := c_seed r a b (xs (n + 1))
  rw [ea, Option.bind_some, eb, Option.bind_some]
  dsimp only
  rw [if_pos rfl]
  exact hK _ _ rel
theorem kL_51 {L n : Nat} {xs : Nat → Int32} (hn : n + 6 ≤ L) (hL : L ≤ 3072) {gA gB : G} (h : Rel gA gB) {K : G → G → Option Unit} (hK : ∀ u v, Rel u v → K u v = some ()) : cL_51 L xs (nI n) gA gB K = some () := by
  obtain ⟨p, f, r, a, b⟩ := id h
  unfold cL_51
  obtain ⟨x, u, v, ea, eb, rel⟩ := c_image r a b 
  rw [ea, Option.bind_some, eb, Option.bind_some]
  dsimp only
  rw [if_pos rfl]
  exact hK _ _ rel
theorem kL_52 {L n : Nat} {xs : Nat → Int32} (hn : n + 6 ≤ L) (hL : L ≤ 3072) {gA gB : G} (h : Rel gA gB) {K : G → G → Option Unit} (hK : ∀ u v, Rel u v → K u v = some ()) : cL_52 L xs (nI n) gA gB K = some () := by
  obtain ⟨p, f, r, a, b⟩ := id h
  have i1 : ∀ (k : Int32 → Option Unit), ag L xs (nI n + 1) k = k (xs (n + 1)) := fun k => by rw [show (nI n + 1 : Int32) = nI (n + 1) from nI_add n 1]; exact ag_nI (by omega) (by omega)
  unfold cL_52
  simp only [i1]
  obtain ⟨x, ea, eb⟩ := c_octet r (xs (n + 1))
  rw [ea, Option.bind_some, eb, Option.bind_some, if_pos rfl]
  exact hK _ _ h
theorem kL_53 {L n : Nat} {xs : Nat → Int32} (hn : n + 6 ≤ L) (hL : L ≤ 3072) {gA gB : G} (h : Rel gA gB) {K : G → G → Option Unit} (hK : ∀ u v, Rel u v → K u v = some ()) : cL_53 L xs (nI n) gA gB K = some () := by
  obtain ⟨p, f, r, a, b⟩ := id h
  unfold cL_53
  obtain ⟨x, u, v, ea, eb, rel⟩ := c_on r a b 
  rw [ea, Option.bind_some, eb, Option.bind_some]
  dsimp only
  rw [if_pos rfl]
  exact hK _ _ rel
theorem kL_54 {L n : Nat} {xs : Nat → Int32} (hn : n + 6 ≤ L) (hL : L ≤ 3072) {gA gB : G} (h : Rel gA gB) {K : G → G → Option Unit} (hK : ∀ u v, Rel u v → K u v = some ()) : cL_54 L xs (nI n) gA gB K = some () := by
  obtain ⟨p, f, r, a, b⟩ := id h
  have i1 : ∀ (k : Int32 → Option Unit), ag L xs (nI n + 1) k = k (xs (n + 1)) := fun k => by rw [show (nI n + 1 : Int32) = nI (n + 1) from nI_add n 1]; exact ag_nI (by omega) (by omega)
  unfold cL_54
  simp only [i1]
  obtain ⟨x, ea, eb⟩ := c_status r (xs (n + 1))
  rw [ea, Option.bind_some, eb, Option.bind_some, if_pos rfl]
  exact hK _ _ h
theorem lt6 : ∀ L, L < 6 → nI L - 6 < nI 0 := by decide
theorem fL_ok (L : Nat) (xs : Nat → Int32) (hL : L ≤ 3072) : fL L xs gA0 gB0 = some () := by
  have s : Sat (fL L xs gA0 gB0) (fun _ => True) := by
    unfold fL
    refine Sat.lp (fun i z => ∃ gA gB, z = (nI (6 * i), gA, gB) ∧ Rel gA gB) (L / 6) (by omega) ⟨gA0, gB0, rfl, rel0⟩ ?_ ?_
    · rintro rec i _ hi ⟨gA, gB, rfl, h⟩ hrec
      have hn : 6 * i + 6 ≤ L := by omega
      have go : ∀ u v, Rel u v → Sat (rec (nI (6 * i) + 6, u, v)) (fun _ => True) := fun u v r => hrec _ ⟨u, v, by rw [show (nI (6 * i) + 6 : Int32) = nI (6 * (i + 1)) from nI_add (6 * i) 6], r⟩
      have go2 : ∀ u v, Rel u v → rec (nI (6 * i) + 6, u, v) = some () := fun u v r => by
        obtain ⟨t, e, _⟩ := go u v r
        rw [e]
      dsimp only
      rw [show (Int32.ofNat L - 6 : Int32) = nI (L - 6) from nI_sub (b := 6) (by omega), if_neg (nI_nlt (by omega) (by omega)), ag_nI (by omega) (by omega)]
      refine Sat.ite (fun _ => ⟨(), kL_0 hn hL h go2, trivial⟩) (fun _ => ?_)
      refine Sat.ite (fun _ => ⟨(), kL_1 hn hL h go2, trivial⟩) (fun _ => ?_)
      refine Sat.ite (fun _ => ⟨(), kL_2 hn hL h go2, trivial⟩) (fun _ => ?_)
      refine Sat.ite (fun _ => ⟨(), kL_3 hn hL h go2, trivial⟩) (fun _ => ?_)
      refine Sat.ite (fun _ => ⟨(), kL_4 hn hL h go2, trivial⟩) (fun _ => ?_)
      refine Sat.ite (fun _ => ⟨(), kL_5 hn hL h go2, trivial⟩) (fun _ => ?_)
      refine Sat.ite (fun _ => ⟨(), kL_6 hn hL h go2, trivial⟩) (fun _ => ?_)
      refine Sat.ite (fun _ => ⟨(), kL_7 hn hL h go2, trivial⟩) (fun _ => ?_)
      refine Sat.ite (fun _ => ⟨(), kL_8 hn hL h go2, trivial⟩) (fun _ => ?_)
      refine Sat.ite (fun _ => ⟨(), kL_9 hn hL h go2, trivial⟩) (fun _ => ?_)
      refine Sat.ite (fun _ => ⟨(), kL_10 hn hL h go2, trivial⟩) (fun _ => ?_)
      refine Sat.ite (fun _ => ⟨(), kL_11 hn hL h go2, trivial⟩) (fun _ => ?_)
      refine Sat.ite (fun _ => ⟨(), kL_12 hn hL h go2, trivial⟩) (fun _ => ?_)
      refine Sat.ite (fun _ => ⟨(), kL_13 hn hL h go2, trivial⟩) (fun _ => ?_)
      refine Sat.ite (fun _ => ⟨(), kL_14 hn hL h go2, trivial⟩) (fun _ => ?_)
      refine Sat.ite (fun _ => ⟨(), kL_15 hn hL h go2, trivial⟩) (fun _ => ?_)
      refine Sat.ite (fun _ => ⟨(), kL_16 hn hL h go2, trivial⟩) (fun _ => ?_)
      refine Sat.ite (fun _ => ⟨(), kL_17 hn hL h go2, trivial⟩) (fun _ => ?_)
      refine Sat.ite (fun _ => ⟨(), kL_18 hn hL h go2, trivial⟩) (fun _ => ?_)
      refine Sat.ite (fun _ => ⟨(), kL_19 hn hL h go2, trivial⟩) (fun _ => ?_)
      refine Sat.ite (fun _ => ⟨(), kL_20 hn hL h go2, trivial⟩) (fun _ => ?_)
      refine Sat.ite (fun _ => ⟨(), kL_21 hn hL h go2, trivial⟩) (fun _ => ?_)
      refine Sat.ite (fun _ => ⟨(), kL_22 hn hL h go2, trivial⟩) (fun _ => ?_)
      refine Sat.ite (fun _ => ⟨(), kL_23 hn hL h go2, trivial⟩) (fun _ => ?_)
      refine Sat.ite (fun _ => ⟨(), kL_24 hn hL h go2, trivial⟩) (fun _ => ?_)
      refine Sat.ite (fun _ => ⟨(), kL_25 hn hL h go2, trivial⟩) (fun _ => ?_)
      refine Sat.ite (fun _ => ⟨(), kL_26 hn hL h go2, trivial⟩) (fun _ => ?_)
      refine Sat.ite (fun _ => ⟨(), kL_27 hn hL h go2, trivial⟩) (fun _ => ?_)
      refine Sat.ite (fun _ => ⟨(), kL_28 hn hL h go2, trivial⟩) (fun _ => ?_)
      refine Sat.ite (fun _ => ⟨(), kL_29 hn hL h go2, trivial⟩) (fun _ => ?_)
      refine Sat.ite (fun _ => ⟨(), kL_30 hn hL h go2, trivial⟩) (fun _ => ?_)
      refine Sat.ite (fun _ => ⟨(), kL_31 hn hL h go2, trivial⟩) (fun _ => ?_)
      refine Sat.ite (fun _ => ⟨(), kL_32 hn hL h go2, trivial⟩) (fun _ => ?_)
      refine Sat.ite (fun _ => ⟨(), kL_33 hn hL h go2, trivial⟩) (fun _ => ?_)
      refine Sat.ite (fun _ => ⟨(), kL_34 hn hL h go2, trivial⟩) (fun _ => ?_)
      refine Sat.ite (fun _ => ⟨(), kL_35 hn hL h go2, trivial⟩) (fun _ => ?_)
      refine Sat.ite (fun _ => ⟨(), kL_36 hn hL h go2, trivial⟩) (fun _ => ?_)
      refine Sat.ite (fun _ => ⟨(), kL_37 hn hL h go2, trivial⟩) (fun _ => ?_)
      refine Sat.ite (fun _ => ⟨(), kL_38 hn hL h go2, trivial⟩) (fun _ => ?_)
      refine Sat.ite (fun _ => ⟨(), kL_39 hn hL h go2, trivial⟩) (fun _ => ?_)
      refine Sat.ite (fun _ => ⟨(), kL_40 hn hL h go2, trivial⟩) (fun _ => ?_)
      refine Sat.ite (fun _ => ⟨(), kL_41 hn hL h go2, trivial⟩) (fun _ => ?_)
      refine Sat.ite (fun _ => ⟨(), kL_42 hn hL h go2, trivial⟩) (fun _ => ?_)
      refine Sat.ite (fun _ => ⟨(), kL_43 hn hL h go2, trivial⟩) (fun _ => ?_)
      refine Sat.ite (fun _ => ⟨(), kL_44 hn hL h go2, trivial⟩) (fun _ => ?_)
      refine Sat.ite (fun _ => ⟨(), kL_45 hn hL h go2, trivial⟩) (fun _ => ?_)
      refine Sat.ite (fun _ => ⟨(), kL_46 hn hL h go2, trivial⟩) (fun _ => ?_)
      refine Sat.ite (fun _ => ⟨(), kL_47 hn hL h go2, trivial⟩) (fun _ => ?_)
      refine Sat.ite (fun _ => ⟨(), kL_48 hn hL h go2, trivial⟩) (fun _ => ?_)
      refine Sat.ite (fun _ => ⟨(), kL_49 hn hL h go2, trivial⟩) (fun _ => ?_)
      refine Sat.ite (fun _ => ⟨(), kL_50 hn hL h go2, trivial⟩) (fun _ => ?_)
      refine Sat.ite (fun _ => ⟨(), kL_51 hn hL h go2, trivial⟩) (fun _ => ?_)
      refine Sat.ite (fun _ => ⟨(), kL_52 hn hL h go2, trivial⟩) (fun _ => ?_)
      refine Sat.ite (fun _ => ⟨(), kL_53 hn hL h go2, trivial⟩) (fun _ => ?_)
      refine Sat.ite (fun _ => ⟨(), kL_54 hn hL h go2, trivial⟩) (fun _ => ?_)
      exact go gA gB h
    · rintro rec _ ⟨gA, gB, rfl, h⟩
      dsimp only
      by_cases l : L < 6
      · have e : L / 6 = 0 := by omega
        rw [e, Nat.mul_zero, if_pos (show Int32.ofNat L - 6 < nI 0 from lt6 L l)]
        exact Sat.of trivial
      · rw [show (Int32.ofNat L - 6 : Int32) = nI (L - 6) from nI_sub (b := 6) (by omega), if_pos (nI_lt (by omega) (by omega))]
        exact Sat.of trivial
  obtain ⟨t, e, _⟩ := s
  rw [e]

/-! THE START -/
theorem rel0 : Rel gA0 gB0 := by
  obtain ⟨p, hp⟩ : ∃ p : Pl, p = (fun _ => 0, fun _ _ => 0) := ⟨_, rfl⟩
  have c : pC p = 0 := by rw [hp]; rfl
  have r : pR p = 0 := by rw [hp]; rfl
  have d : pD p = 0 := by rw [hp]; rfl
  have y : pY p = 0 := by rw [hp]; rfl
  have q : pP p = 0 := by rw [hp]; rfl
  have k : pK p = 0 := by rw [hp]; rfl
  have s : pS p = 0 := by rw [hp]; rfl
  have a : al p = 0 := by unfold al; rw [r]; rfl
  have u : us p (fun _ _ => 0) = 0 := by
    unfold us
    exact mk_zero.mpr (fun i _ => by rw [k]; simp)
  have nw : ¬ WP p := fun w => by have := w.c; omega
  refine ⟨p, fun _ _ => 0, ⟨Or.inr ⟨⟨c, r, d, y, q, k, s⟩, rfl⟩, fun w i hw _ => by omega, ⟨⟨by rw [c]; rfl, by rw [r]; rfl, by rw [d]; rfl, by rw [y]; rfl, by rw [a]; rfl, by rw [q]; rfl, by rw [k]; rfl, by rw [s]; rfl⟩, fun i hi => by omega, fun i hi => by omega, fun i hi => by omega, fun i hi => by omega⟩,
    ⟨⟨by rw [c]; rfl, by rw [r]; rfl, by rw [d]; rfl, by rw [q]; rfl, by rw [k]; rfl, by rw [s]; rfl, by rw [y]; rfl, by rw [c]; simp; rfl, by rw [a]; rfl⟩, fun i hi => by omega, fun i hi => by omega, fun i hi => by omega, fun w i hw _ => by omega⟩,
    ⟨by rw [u]; rfl, fun i hi => by omega, fun i hi => by omega⟩, ⟨fun i hi => by omega, fun i hi => by omega⟩, ⟨fun i hi => by omega, fun i hi => by omega⟩, ⟨0, by omega, rfl, rfl, fun i hi => by omega⟩, fun i _ => rfl, ⟨rfl, rfl⟩, ⟨0, by omega, rfl, rfl, fun i hi => by omega⟩, ⟨1, by decide, rfl, rfl⟩,
    ⟨0, 0, ⟨by omega, fun _ => rfl⟩, by decide, rfl, rfl, rfl, fun i hi => by omega⟩, ⟨0, by omega, rfl, rfl, fun i hi => by omega⟩, fun i hi => by omega, rfl⟩, fun w => absurd w nw, fun w => absurd w nw⟩

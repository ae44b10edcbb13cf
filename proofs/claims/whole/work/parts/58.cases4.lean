/-! PURE: undo's case -/
theorem on_undo {σ σ1 : Sg} {E : String} (h : p_X6_undo σ = some (.inr E, σ1)) : E = eIS := by
  unfold p_X6_undo at h
  obtain ⟨r, _, h⟩ := bnd h
  by_cases h0 : r = 0
  · rw [if_pos h0] at h; exact inr_of h
  · rw [if_neg h0] at h
    obtain ⟨_, _, h⟩ := bnd h
    obtain ⟨_, _, h⟩ := bnd h
    exact inl_no h
theorem st_36 (xs : Nat → Int32) (L : Nat) (i : Int32) : Step (p_lc_36 xs L i) := by
  intro σ a h
  obtain ⟨r1, r2, q1, q2, q3, q4, a', q5⟩ := step_wrap (pL := p_L_undo) cmd_undo (fun σ v σ1 h => by unfold p_L_undo; rw [h, bS, smL]) (fun σ c σ1 hc h => by
    rcases hc with rfl | rfl
    · unfold p_L_undo; rw [h, bS, smR]; rfl
    · exact absurd (on_undo h) (by decide)) σ a h
  refine ⟨r2.2, a', ?_, q5⟩
  unfold p_lc_36
  rw [q1, bS, q2, bS]
  exact tail_ok q3 q4

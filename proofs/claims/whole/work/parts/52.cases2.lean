/-! PURE: more cases whose wrapper knows one name -/
theorem on_drover (v : Int32) {σ σ1 : Sg} {E : String} (h : p_X6_drover v σ = some (.inr E, σ1)) : E = eIO := by
  unfold p_X6_drover at h
  obtain ⟨r, _, h⟩ := bnd h
  by_cases h0 : r = 0
  · rw [if_pos h0] at h; exact inr_of h
  · rw [if_neg h0] at h
    obtain ⟨_, _, h⟩ := bnd h
    exact inl_no h
theorem on_append (v : Int32) {σ σ1 : Sg} {E : String} (h : p_X6_append v σ = some (.inr E, σ1)) : E = eIS := by
  unfold p_X6_append at h
  obtain ⟨r, _, h⟩ := bnd h
  by_cases h0 : r = 0
  · rw [if_pos h0] at h
    obtain ⟨_, _, h⟩ := bnd h
    obtain ⟨_, _, h⟩ := bnd h
    exact inl_no h
  · rw [if_neg h0] at h; exact inr_of h
theorem on_character (v : Int32) {σ σ1 : Sg} {E : String} (h : p_X6_character v σ = some (.inr E, σ1)) : E = eIO := by
  unfold p_X6_character at h
  by_cases h0 : v < 0
  · rw [if_pos h0] at h; exact inr_of h
  · rw [if_neg h0] at h
    obtain ⟨r, _, h⟩ := bnd h
    by_cases h1 : v < r
    · rw [if_pos h1] at h
      obtain ⟨_, _, h⟩ := bnd h
      exact inl_no h
    · rw [if_neg h1] at h; exact inr_of h
theorem on_rkL : ∀ (fuel : Nat) (v k : Int32) (σ σ1 : Sg) (E : String), p_X6_ranked_L27 fuel v k σ = some (.inr E, σ1) → False := by
  intro fuel
  induction fuel with
  | zero => intro v k σ σ1 E h; cases h
  | succ fuel ih =>
    intro v k σ σ1 E h
    rw [p_X6_ranked_L27] at h
    by_cases h0 : 12 ≤ k
    · rw [if_pos h0] at h; exact inl_no h
    · rw [if_neg h0] at h
      obtain ⟨r, _, h⟩ := bnd h
      by_cases h1 : r = v
      · rw [if_pos h1] at h; exact inl_no h
      · rw [if_neg h1] at h; exact ih _ _ _ _ _ h
theorem on_ranked (v : Int32) {σ σ1 : Sg} {E : String} (h : p_X6_ranked v σ = some (.inr E, σ1)) : E = eNS := by
  unfold p_X6_ranked at h
  obtain ⟨r, _, h⟩ := bnd h
  by_cases h0 : r = 0
  · rw [if_pos h0] at h; exact inr_of h
  · rw [if_neg h0] at h
    obtain ⟨_, _, h⟩ := bnd h
    exact (on_rkL _ _ _ _ _ _ h).elim
theorem on_account (v : Int32) {σ σ1 : Sg} {E : String} (h : p_X6_account v σ = some (.inr E, σ1)) : E = eIA := by
  unfold p_X6_account at h
  by_cases h0 : v = 0
  · rw [if_pos h0] at h
    obtain ⟨_, _, h⟩ := bnd h
    exact inl_no h
  rw [if_neg h0] at h
  by_cases h1 : v = 1
  · rw [if_pos h1] at h
    obtain ⟨_, _, h⟩ := bnd h
    obtain ⟨_, _, h⟩ := bnd h
    exact inl_no h
  rw [if_neg h1] at h
  by_cases h2 : v = 2
  · rw [if_pos h2] at h
    obtain ⟨_, _, h⟩ := bnd h
    exact inl_no h
  rw [if_neg h2] at h
  by_cases h3 : v = 3
  · rw [if_pos h3] at h
    obtain ⟨_, _, h⟩ := bnd h
    exact inl_no h
  rw [if_neg h3] at h
  by_cases h4 : v = 4
  · rw [if_pos h4] at h
    obtain ⟨_, _, h⟩ := bnd h
    exact inl_no h
  rw [if_neg h4] at h
  by_cases h5 : v = 5
  · rw [if_pos h5] at h
    obtain ⟨_, _, h⟩ := bnd h
    exact inl_no h
  rw [if_neg h5] at h
  by_cases h6 : v = 6
  · rw [if_pos h6] at h
    obtain ⟨_, _, h⟩ := bnd h
    exact inl_no h
  rw [if_neg h6] at h
  by_cases h7 : v = 7
  · rw [if_pos h7] at h
    obtain ⟨_, _, h⟩ := bnd h
    exact inl_no h
  rw [if_neg h7] at h
  by_cases h8 : v = 8
  · rw [if_pos h8] at h
    obtain ⟨_, _, h⟩ := bnd h
    exact inl_no h
  rw [if_neg h8] at h
  by_cases h9 : v = 9
  · rw [if_pos h9] at h
    obtain ⟨_, _, h⟩ := bnd h
    exact inl_no h
  rw [if_neg h9] at h
  exact inr_of h
theorem st_24 (xs : Nat → Int32) (L : Nat) (i : Int32) (h1 : ib (i + 1) L = true) : Step (p_lc_24 xs L i) := by
  intro σ a h
  obtain ⟨r1, r2, q1, q2, q3, q4, a', q5⟩ := step_wrap (pL := p_L_drover (xs (i + 1).toNatClampNeg)) (cmd_drover _) (fun σ v σ1 h => by unfold p_L_drover; rw [h, bS, smL]) (fun σ c σ1 hc h => by
    rcases hc with rfl | rfl
    · unfold p_L_drover; rw [h, bS, smR]; rfl
    · exact absurd (on_drover _ h) (by decide)) σ a h
  refine ⟨r2.2, a', ?_, q5⟩
  unfold p_lc_24
  rw [if_pos h1, q1, bS, if_pos h1, q2, bS]
  exact tail_ok q3 q4
theorem st_25 (xs : Nat → Int32) (L : Nat) (i : Int32) (h1 : ib (i + 1) L = true) : Step (p_lc_25 xs L i) := by
  intro σ a h
  obtain ⟨r1, r2, q1, q2, q3, q4, a', q5⟩ := step_wrap (pL := p_L_ranked (xs (i + 1).toNatClampNeg)) (cmd_ranked _) (fun σ v σ1 h => by unfold p_L_ranked; rw [h, bS, smL]) (fun σ c σ1 hc h => by
    rcases hc with rfl | rfl
    · unfold p_L_ranked; rw [h, bS, smR]; rfl
    · exact absurd (on_ranked _ h) (by decide)) σ a h
  refine ⟨r2.2, a', ?_, q5⟩
  unfold p_lc_25
  rw [if_pos h1, q1, bS, if_pos h1, q2, bS]
  exact tail_ok q3 q4
theorem st_32 (xs : Nat → Int32) (L : Nat) (i : Int32) (h1 : ib (i + 1) L = true) : Step (p_lc_32 xs L i) := by
  intro σ a h
  obtain ⟨r1, r2, q1, q2, q3, q4, a', q5⟩ := step_wrap (pL := p_L_character (xs (i + 1).toNatClampNeg)) (cmd_character _) (fun σ v σ1 h => by unfold p_L_character; rw [h, bS, smL]) (fun σ c σ1 hc h => by
    rcases hc with rfl | rfl
    · unfold p_L_character; rw [h, bS, smR]; rfl
    · exact absurd (on_character _ h) (by decide)) σ a h
  refine ⟨r2.2, a', ?_, q5⟩
  unfold p_lc_32
  rw [if_pos h1, q1, bS, if_pos h1, q2, bS]
  exact tail_ok q3 q4
theorem st_35 (xs : Nat → Int32) (L : Nat) (i : Int32) (h1 : ib (i + 1) L = true) : Step (p_lc_35 xs L i) := by
  intro σ a h
  obtain ⟨r1, r2, q1, q2, q3, q4, a', q5⟩ := step_wrap (pL := p_L_account (xs (i + 1).toNatClampNeg)) (cmd_account _) (fun σ v σ1 h => by unfold p_L_account; rw [h, bS, smL]) (fun σ c σ1 hc h => by
    rcases hc with rfl | rfl
    · unfold p_L_account; rw [h, bS, smR]; rfl
    · exact absurd (on_account _ h) (by decide)) σ a h
  refine ⟨r2.2, a', ?_, q5⟩
  unfold p_lc_35
  rw [if_pos h1, q1, bS, if_pos h1, q2, bS]
  exact tail_ok q3 q4

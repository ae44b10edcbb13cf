/-! PURE: the law's cases whose wrapper knows one name -/
theorem rq_or (v : Int32) (σ : Sg) : p_X6_requireFarm v σ = some (.inl 0, σ) ∨ p_X6_requireFarm v σ = some (.inr eIO, σ) := by
  unfold p_X6_requireFarm p_X1_has
  by_cases h1 : v < 0
  · right; rw [if_pos h1, bS, if_pos rfl]; rfl
  · by_cases h2 : gI σ 1 0 0 ≤ v
    · right; rw [if_neg h1, if_pos h2, bS, if_pos rfl]; rfl
    · left; rw [if_neg h1, if_neg h2, bS, if_neg (show ¬ (1 : Int32) = 0 by decide)]
theorem inr_of {E E' : String} {σ1 σ2 : Sg} (h : (some (Sum.inr E, σ1) : Option ((Int32 ⊕ String) × Sg)) = some (.inr E', σ2)) : E' = E := by
  simp only [Option.some.injEq, Prod.mk.injEq, Sum.inr.injEq] at h
  exact h.1.symm
theorem inl_no {P : Prop} {v : Int32} {E' : String} {σ1 σ2 : Sg} (h : (some (Sum.inl v, σ1) : Option ((Int32 ⊕ String) × Sg)) = some (.inr E', σ2)) : P := by
  simp at h
theorem on_size (v : Int32) {σ σ1 : Sg} {E : String} (h : p_X6_size v σ = some (.inr E, σ1)) : E = eIO := by
  unfold p_X6_size at h
  rcases rq_or v σ with h1 | h1
  · rw [h1, bS, smL] at h
    obtain ⟨_, _, h⟩ := bnd h
    exact inl_no h
  · rw [h1, bS, smR] at h
    exact inr_of h
theorem on_wouldChange (v : Int32) {σ σ1 : Sg} {E : String} (h : p_X6_wouldChange v σ = some (.inr E, σ1)) : E = eIO := by
  unfold p_X6_wouldChange at h
  rcases rq_or v σ with h1 | h1
  · rw [h1, bS, smL] at h
    obtain ⟨_, _, h⟩ := bnd h
    obtain ⟨_, _, h⟩ := bnd h
    obtain ⟨_, _, h⟩ := bnd h
    exact inl_no h
  · rw [h1, bS, smR] at h
    exact inr_of h
theorem on_farthest (v : Int32) {σ σ1 : Sg} {E : String} (h : p_X6_farthest v σ = some (.inr E, σ1)) : E = eIO := by
  unfold p_X6_farthest at h
  rcases rq_or v σ with h1 | h1
  · rw [h1, bS, smL] at h
    obtain ⟨_, _, h⟩ := bnd h
    exact inl_no h
  · rw [h1, bS, smR] at h
    exact inr_of h
theorem on_longest (v : Int32) {σ σ1 : Sg} {E : String} (h : p_X6_longest v σ = some (.inr E, σ1)) : E = eIO := by
  unfold p_X6_longest at h
  rcases rq_or v σ with h1 | h1
  · rw [h1, bS, smL] at h
    obtain ⟨_, _, h⟩ := bnd h
    obtain ⟨_, _, h⟩ := bnd h
    obtain ⟨_, _, h⟩ := bnd h
    obtain ⟨_, _, h⟩ := bnd h
    exact inl_no h
  · rw [h1, bS, smR] at h
    exact inr_of h
theorem on_isJoined (v w : Int32) {σ σ1 : Sg} {E : String} (h : p_X6_isJoined v w σ = some (.inr E, σ1)) : E = eIO := by
  unfold p_X6_isJoined at h
  rcases rq_or v σ with h1 | h1
  · rw [h1, bS, smL] at h
    rcases rq_or w σ with h2 | h2
    · rw [h2, bS, smL] at h
      obtain ⟨_, _, h⟩ := bnd h
      exact inl_no h
    · rw [h2, bS, smR] at h
      exact inr_of h
  · rw [h1, bS, smR] at h
    exact inr_of h
theorem on_isTrack (v w : Int32) {σ σ1 : Sg} {E : String} (h : p_X6_isTrack v w σ = some (.inr E, σ1)) : E = eIO := by
  unfold p_X6_isTrack at h
  rcases rq_or v σ with h1 | h1
  · rw [h1, bS, smL] at h
    rcases rq_or w σ with h2 | h2
    · rw [h2, bS, smL] at h
      obtain ⟨_, _, h⟩ := bnd h
      exact inl_no h
    · rw [h2, bS, smR] at h
      exact inr_of h
  · rw [h1, bS, smR] at h
    exact inr_of h
theorem st_18 (xs : Nat → Int32) (L : Nat) (i : Int32) (h1 : ib (i + 1) L = true) : Step (p_lc_18 xs L i) := by
  intro σ a h
  obtain ⟨r1, r2, q1, q2, q3, q4, a', q5⟩ := step_wrap (pL := p_L_wouldChange (xs (i + 1).toNatClampNeg)) (cmd_wouldChange _) (fun σ v σ1 h => by unfold p_L_wouldChange; rw [h, bS, smL]) (fun σ c σ1 hc h => by
    rcases hc with rfl | rfl
    · unfold p_L_wouldChange; rw [h, bS, smR]; rfl
    · exact absurd (on_wouldChange _ h) (by decide)) σ a h
  refine ⟨r2.2, a', ?_, q5⟩
  unfold p_lc_18
  rw [if_pos h1, q1, bS, if_pos h1, q2, bS]
  exact tail_ok q3 q4
theorem st_20 (xs : Nat → Int32) (L : Nat) (i : Int32) (h1 : ib (i + 1) L = true) : Step (p_lc_20 xs L i) := by
  intro σ a h
  obtain ⟨r1, r2, q1, q2, q3, q4, a', q5⟩ := step_wrap (pL := p_L_size (xs (i + 1).toNatClampNeg)) (cmd_size _) (fun σ v σ1 h => by unfold p_L_size; rw [h, bS, smL]) (fun σ c σ1 hc h => by
    rcases hc with rfl | rfl
    · unfold p_L_size; rw [h, bS, smR]; rfl
    · exact absurd (on_size _ h) (by decide)) σ a h
  refine ⟨r2.2, a', ?_, q5⟩
  unfold p_lc_20
  rw [if_pos h1, q1, bS, if_pos h1, q2, bS]
  exact tail_ok q3 q4
theorem st_21 (xs : Nat → Int32) (L : Nat) (i : Int32) (h1 : ib (i + 1) L = true) : Step (p_lc_21 xs L i) := by
  intro σ a h
  obtain ⟨r1, r2, q1, q2, q3, q4, a', q5⟩ := step_wrap (pL := p_L_farthest (xs (i + 1).toNatClampNeg)) (cmd_farthest _) (fun σ v σ1 h => by unfold p_L_farthest; rw [h, bS, smL]) (fun σ c σ1 hc h => by
    rcases hc with rfl | rfl
    · unfold p_L_farthest; rw [h, bS, smR]; rfl
    · exact absurd (on_farthest _ h) (by decide)) σ a h
  refine ⟨r2.2, a', ?_, q5⟩
  unfold p_lc_21
  rw [if_pos h1, q1, bS, if_pos h1, q2, bS]
  exact tail_ok q3 q4
theorem st_22 (xs : Nat → Int32) (L : Nat) (i : Int32) (h1 : ib (i + 1) L = true) : Step (p_lc_22 xs L i) := by
  intro σ a h
  obtain ⟨r1, r2, q1, q2, q3, q4, a', q5⟩ := step_wrap (pL := p_L_longest (xs (i + 1).toNatClampNeg)) (cmd_longest _) (fun σ v σ1 h => by unfold p_L_longest; rw [h, bS, smL]) (fun σ c σ1 hc h => by
    rcases hc with rfl | rfl
    · unfold p_L_longest; rw [h, bS, smR]; rfl
    · exact absurd (on_longest _ h) (by decide)) σ a h
  refine ⟨r2.2, a', ?_, q5⟩
  unfold p_lc_22
  rw [if_pos h1, q1, bS, if_pos h1, q2, bS]
  exact tail_ok q3 q4

/-! PURE: the law's cases whose wrapper knows two names -/
theorem st_7 (xs : Nat → Int32) (L : Nat) (i : Int32) (h1 : ib (i + 1) L = true) (h2 : ib (i + 2) L = true) : Step (p_lc_7 xs L i) := by
  intro σ a h
  obtain ⟨r1, r2, q1, q2, q3, q4, a', q5⟩ := step_wrap (pL := p_L_farmOf (xs (i + 1).toNatClampNeg) (xs (i + 2).toNatClampNeg)) (cmd_farmOf _ _) (fun σ v σ1 h => by unfold p_L_farmOf; rw [h, bS, smL]) (fun σ c σ1 hc h => by unfold p_L_farmOf; rw [h, bS, smR]; rcases hc with rfl | rfl <;> rfl) σ a h
  refine ⟨r2.2, a', ?_, q5⟩
  unfold p_lc_7
  rw [if_pos h1, if_pos h2, q1, bS, if_pos h1, if_pos h2, q2, bS]
  exact tail_ok q3 q4
theorem st_9 (xs : Nat → Int32) (L : Nat) (i : Int32) (h1 : ib (i + 1) L = true) (h2 : ib (i + 2) L = true) : Step (p_lc_9 xs L i) := by
  intro σ a h
  obtain ⟨r1, r2, q1, q2, q3, q4, a', q5⟩ := step_wrap (pL := p_L_next (xs (i + 1).toNatClampNeg) (xs (i + 2).toNatClampNeg)) (cmd_next _ _) (fun σ v σ1 h => by unfold p_L_next; rw [h, bS, smL]) (fun σ c σ1 hc h => by unfold p_L_next; rw [h, bS, smR]; rcases hc with rfl | rfl <;> rfl) σ a h
  refine ⟨r2.2, a', ?_, q5⟩
  unfold p_lc_9
  rw [if_pos h1, if_pos h2, q1, bS, if_pos h1, if_pos h2, q2, bS]
  exact tail_ok q3 q4
theorem st_10 (xs : Nat → Int32) (L : Nat) (i : Int32) (h1 : ib (i + 1) L = true) (h2 : ib (i + 2) L = true) (h3 : ib (i + 3) L = true) : Step (p_lc_10 xs L i) := by
  intro σ a h
  obtain ⟨r1, r2, q1, q2, q3, q4, a', q5⟩ := step_wrap (pL := p_L_onWay (xs (i + 1).toNatClampNeg) (xs (i + 2).toNatClampNeg) (xs (i + 3).toNatClampNeg)) (cmd_onWay _ _ _) (fun σ v σ1 h => by unfold p_L_onWay; rw [h, bS, smL]) (fun σ c σ1 hc h => by unfold p_L_onWay; rw [h, bS, smR]; rcases hc with rfl | rfl <;> rfl) σ a h
  refine ⟨r2.2, a', ?_, q5⟩
  unfold p_lc_10
  rw [if_pos h1, if_pos h2, if_pos h3, q1, bS, if_pos h1, if_pos h2, if_pos h3, q2, bS]
  exact tail_ok q3 q4
theorem st_11 (xs : Nat → Int32) (L : Nat) (i : Int32) (h1 : ib (i + 1) L = true) (h2 : ib (i + 2) L = true) : Step (p_lc_11 xs L i) := by
  intro σ a h
  obtain ⟨r1, r2, q1, q2, q3, q4, a', q5⟩ := step_wrap (pL := p_L_meet (xs (i + 1).toNatClampNeg) (xs (i + 2).toNatClampNeg)) (cmd_meet _ _) (fun σ v σ1 h => by unfold p_L_meet; rw [h, bS, smL]) (fun σ c σ1 hc h => by unfold p_L_meet; rw [h, bS, smR]; rcases hc with rfl | rfl <;> rfl) σ a h
  refine ⟨r2.2, a', ?_, q5⟩
  unfold p_lc_11
  rw [if_pos h1, if_pos h2, q1, bS, if_pos h1, if_pos h2, q2, bS]
  exact tail_ok q3 q4
theorem st_12 (xs : Nat → Int32) (L : Nat) (i : Int32) (h1 : ib (i + 1) L = true) (h2 : ib (i + 2) L = true) : Step (p_lc_12 xs L i) := by
  intro σ a h
  obtain ⟨r1, r2, q1, q2, q3, q4, a', q5⟩ := step_wrap (pL := p_L_sum (xs (i + 1).toNatClampNeg) (xs (i + 2).toNatClampNeg)) (cmd_sum _ _) (fun σ v σ1 h => by unfold p_L_sum; rw [h, bS, smL]) (fun σ c σ1 hc h => by unfold p_L_sum; rw [h, bS, smR]; rcases hc with rfl | rfl <;> rfl) σ a h
  refine ⟨r2.2, a', ?_, q5⟩
  unfold p_lc_12
  rw [if_pos h1, if_pos h2, q1, bS, if_pos h1, if_pos h2, q2, bS]
  exact tail_ok q3 q4
theorem st_13 (xs : Nat → Int32) (L : Nat) (i : Int32) (h1 : ib (i + 1) L = true) (h2 : ib (i + 2) L = true) : Step (p_lc_13 xs L i) := by
  intro σ a h
  obtain ⟨r1, r2, q1, q2, q3, q4, a', q5⟩ := step_wrap (pL := p_L_sumAgain (xs (i + 1).toNatClampNeg) (xs (i + 2).toNatClampNeg)) (cmd_sumAgain _ _) (fun σ v σ1 h => by unfold p_L_sumAgain; rw [h, bS, smL]) (fun σ c σ1 hc h => by unfold p_L_sumAgain; rw [h, bS, smR]; rcases hc with rfl | rfl <;> rfl) σ a h
  refine ⟨r2.2, a', ?_, q5⟩
  unfold p_lc_13
  rw [if_pos h1, if_pos h2, q1, bS, if_pos h1, if_pos h2, q2, bS]
  exact tail_ok q3 q4
theorem st_14 (xs : Nat → Int32) (L : Nat) (i : Int32) (h1 : ib (i + 1) L = true) (h2 : ib (i + 2) L = true) : Step (p_lc_14 xs L i) := by
  intro σ a h
  obtain ⟨r1, r2, q1, q2, q3, q4, a', q5⟩ := step_wrap (pL := p_L_dearest (xs (i + 1).toNatClampNeg) (xs (i + 2).toNatClampNeg)) (cmd_dearest _ _) (fun σ v σ1 h => by unfold p_L_dearest; rw [h, bS, smL]) (fun σ c σ1 hc h => by unfold p_L_dearest; rw [h, bS, smR]; rcases hc with rfl | rfl <;> rfl) σ a h
  refine ⟨r2.2, a', ?_, q5⟩
  unfold p_lc_14
  rw [if_pos h1, if_pos h2, q1, bS, if_pos h1, if_pos h2, q2, bS]
  exact tail_ok q3 q4
theorem st_17 (xs : Nat → Int32) (L : Nat) (i : Int32) (h1 : ib (i + 1) L = true) (h2 : ib (i + 2) L = true) : Step (p_lc_17 xs L i) := by
  intro σ a h
  obtain ⟨r1, r2, q1, q2, q3, q4, a', q5⟩ := step_wrap (pL := p_L_exposed (xs (i + 1).toNatClampNeg) (xs (i + 2).toNatClampNeg)) (cmd_exposed _ _) (fun σ v σ1 h => by unfold p_L_exposed; rw [h, bS, smL]) (fun σ c σ1 hc h => by unfold p_L_exposed; rw [h, bS, smR]; rcases hc with rfl | rfl <;> rfl) σ a h
  refine ⟨r2.2, a', ?_, q5⟩
  unfold p_lc_17
  rw [if_pos h1, if_pos h2, q1, bS, if_pos h1, if_pos h2, q2, bS]
  exact tail_ok q3 q4
theorem st_23 (xs : Nat → Int32) (L : Nat) (i : Int32) (h1 : ib (i + 1) L = true) (h2 : ib (i + 2) L = true) : Step (p_lc_23 xs L i) := by
  intro σ a h
  obtain ⟨r1, r2, q1, q2, q3, q4, a', q5⟩ := step_wrap (pL := p_L_wouldSplit (xs (i + 1).toNatClampNeg) (xs (i + 2).toNatClampNeg)) (cmd_wouldSplit _ _) (fun σ v σ1 h => by unfold p_L_wouldSplit; rw [h, bS, smL]) (fun σ c σ1 hc h => by unfold p_L_wouldSplit; rw [h, bS, smR]; rcases hc with rfl | rfl <;> rfl) σ a h
  refine ⟨r2.2, a', ?_, q5⟩
  unfold p_lc_23
  rw [if_pos h1, if_pos h2, q1, bS, if_pos h1, if_pos h2, q2, bS]
  exact tail_ok q3 q4
theorem st_29 (xs : Nat → Int32) (L : Nat) (i : Int32) (h1 : ib (i + 1) L = true) : Step (p_lc_29 xs L i) := by
  intro σ a h
  obtain ⟨r1, r2, q1, q2, q3, q4, a', q5⟩ := step_wrap (pL := p_L_reason (xs (i + 1).toNatClampNeg)) (cmd_reason _) (fun σ v σ1 h => by unfold p_L_reason; rw [h, bS, smL]) (fun σ c σ1 hc h => by unfold p_L_reason; rw [h, bS, smR]; rcases hc with rfl | rfl <;> rfl) σ a h
  refine ⟨r2.2, a', ?_, q5⟩
  unfold p_lc_29
  rw [if_pos h1, q1, bS, if_pos h1, q2, bS]
  exact tail_ok q3 q4

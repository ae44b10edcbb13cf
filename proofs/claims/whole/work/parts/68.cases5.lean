/-! PURE: the cases of the seven changes -/
theorem st_0 (xs : Nat → Int32) (L : Nat) (i : Int32) (h1 : ib (i + 1) L = true) : Step (p_lc_0 xs L i) := by
  intro σ a h
  obtain ⟨r1, r2, q1, q2, q3, q4, a', q5⟩ := step_wrap (pL := p_L_farm (xs (i + 1).toNatClampNeg)) (cmd_chg (chg_farm _ 0 0) (pc := p_X6_farm (xs (i + 1).toNatClampNeg)) (fun σ => rfl)) (fun σ v σ1 h => by unfold p_L_farm; rw [h, bS, smL]) (fun σ c σ1 hc h => by
    rcases hc with rfl | rfl
    · unfold p_L_farm; rw [h, bS, smR]; rfl
    · exact absurd (on_chg (pc := p_X6_farm (xs (i + 1).toNatClampNeg)) (fun σ => rfl) h) (by decide)) σ a h
  refine ⟨r2.2, a', ?_, q5⟩
  unfold p_lc_0
  rw [if_pos h1, q1, bS, if_pos h1, q2, bS]
  exact tail_ok q3 q4
theorem st_1 (xs : Nat → Int32) (L : Nat) (i : Int32) (h1 : ib (i + 1) L = true) (h2 : ib (i + 2) L = true) : Step (p_lc_1 xs L i) := by
  intro σ a h
  obtain ⟨r1, r2, q1, q2, q3, q4, a', q5⟩ := step_wrap (pL := p_L_lay (xs (i + 1).toNatClampNeg) (xs (i + 2).toNatClampNeg)) (cmd_chg (chg_lay _ _ 0) (pc := p_X6_lay (xs (i + 1).toNatClampNeg) (xs (i + 2).toNatClampNeg)) (fun σ => rfl)) (fun σ v σ1 h => by unfold p_L_lay; rw [h, bS, smL]) (fun σ c σ1 hc h => by
    rcases hc with rfl | rfl
    · unfold p_L_lay; rw [h, bS, smR]; rfl
    · exact absurd (on_chg (pc := p_X6_lay (xs (i + 1).toNatClampNeg) (xs (i + 2).toNatClampNeg)) (fun σ => rfl) h) (by decide)) σ a h
  refine ⟨r2.2, a', ?_, q5⟩
  unfold p_lc_1
  rw [if_pos h1, if_pos h2, q1, bS, if_pos h1, if_pos h2, q2, bS]
  exact tail_ok q3 q4
theorem st_2 (xs : Nat → Int32) (L : Nat) (i : Int32) (h1 : ib (i + 1) L = true) (h2 : ib (i + 2) L = true) : Step (p_lc_2 xs L i) := by
  intro σ a h
  obtain ⟨r1, r2, q1, q2, q3, q4, a', q5⟩ := step_wrap (pL := p_L_giveUp (xs (i + 1).toNatClampNeg) (xs (i + 2).toNatClampNeg)) (cmd_chg (chg_giveUp _ _ 0) (pc := p_X6_giveUp (xs (i + 1).toNatClampNeg) (xs (i + 2).toNatClampNeg)) (fun σ => rfl)) (fun σ v σ1 h => by unfold p_L_giveUp; rw [h, bS, smL]) (fun σ c σ1 hc h => by
    rcases hc with rfl | rfl
    · unfold p_L_giveUp; rw [h, bS, smR]; rfl
    · exact absurd (on_chg (pc := p_X6_giveUp (xs (i + 1).toNatClampNeg) (xs (i + 2).toNatClampNeg)) (fun σ => rfl) h) (by decide)) σ a h
  refine ⟨r2.2, a', ?_, q5⟩
  unfold p_lc_2
  rw [if_pos h1, if_pos h2, q1, bS, if_pos h1, if_pos h2, q2, bS]
  exact tail_ok q3 q4
theorem st_3 (xs : Nat → Int32) (L : Nat) (i : Int32) (h1 : ib (i + 1) L = true) : Step (p_lc_3 xs L i) := by
  intro σ a h
  obtain ⟨r1, r2, q1, q2, q3, q4, a', q5⟩ := step_wrap (pL := p_L_root (xs (i + 1).toNatClampNeg)) (cmd_chg (chg_root _ 0 0) (pc := p_X6_root (xs (i + 1).toNatClampNeg)) (fun σ => rfl)) (fun σ v σ1 h => by unfold p_L_root; rw [h, bS, smL]) (fun σ c σ1 hc h => by
    rcases hc with rfl | rfl
    · unfold p_L_root; rw [h, bS, smR]; rfl
    · exact absurd (on_chg (pc := p_X6_root (xs (i + 1).toNatClampNeg)) (fun σ => rfl) h) (by decide)) σ a h
  refine ⟨r2.2, a', ?_, q5⟩
  unfold p_lc_3
  rw [if_pos h1, q1, bS, if_pos h1, q2, bS]
  exact tail_ok q3 q4
theorem st_4 (xs : Nat → Int32) (L : Nat) (i : Int32) (h1 : ib (i + 1) L = true) : Step (p_lc_4 xs L i) := by
  intro σ a h
  obtain ⟨r1, r2, q1, q2, q3, q4, a', q5⟩ := step_wrap (pL := p_L_expose (xs (i + 1).toNatClampNeg)) (cmd_chg (chg_expose _ 0 0) (pc := p_X6_expose (xs (i + 1).toNatClampNeg)) (fun σ => rfl)) (fun σ v σ1 h => by unfold p_L_expose; rw [h, bS, smL]) (fun σ c σ1 hc h => by
    rcases hc with rfl | rfl
    · unfold p_L_expose; rw [h, bS, smR]; rfl
    · exact absurd (on_chg (pc := p_X6_expose (xs (i + 1).toNatClampNeg)) (fun σ => rfl) h) (by decide)) σ a h
  refine ⟨r2.2, a', ?_, q5⟩
  unfold p_lc_4
  rw [if_pos h1, q1, bS, if_pos h1, q2, bS]
  exact tail_ok q3 q4
theorem st_5 (xs : Nat → Int32) (L : Nat) (i : Int32) (h1 : ib (i + 1) L = true) (h2 : ib (i + 2) L = true) (h3 : ib (i + 3) L = true) : Step (p_lc_5 xs L i) := by
  intro σ a h
  obtain ⟨r1, r2, q1, q2, q3, q4, a', q5⟩ := step_wrap (pL := p_L_charge (xs (i + 1).toNatClampNeg) (xs (i + 2).toNatClampNeg) (xs (i + 3).toNatClampNeg)) (cmd_chg (chg_charge _ _ _) (pc := p_X6_charge (xs (i + 1).toNatClampNeg) (xs (i + 2).toNatClampNeg) (xs (i + 3).toNatClampNeg)) (fun σ => rfl)) (fun σ v σ1 h => by unfold p_L_charge; rw [h, bS, smL]) (fun σ c σ1 hc h => by
    rcases hc with rfl | rfl
    · unfold p_L_charge; rw [h, bS, smR]; rfl
    · exact absurd (on_chg (pc := p_X6_charge (xs (i + 1).toNatClampNeg) (xs (i + 2).toNatClampNeg) (xs (i + 3).toNatClampNeg)) (fun σ => rfl) h) (by decide)) σ a h
  refine ⟨r2.2, a', ?_, q5⟩
  unfold p_lc_5
  rw [if_pos h1, if_pos h2, if_pos h3, q1, bS, if_pos h1, if_pos h2, if_pos h3, q2, bS]
  exact tail_ok q3 q4
theorem st_6 (xs : Nat → Int32) (L : Nat) (i : Int32) (h1 : ib (i + 1) L = true) (h2 : ib (i + 2) L = true) : Step (p_lc_6 xs L i) := by
  intro σ a h
  obtain ⟨r1, r2, q1, q2, q3, q4, a', q5⟩ := step_wrap (pL := p_L_drive (xs (i + 1).toNatClampNeg) (xs (i + 2).toNatClampNeg)) (cmd_chg (chg_drive _ _ 0) (pc := p_X6_drive (xs (i + 1).toNatClampNeg) (xs (i + 2).toNatClampNeg)) (fun σ => rfl)) (fun σ v σ1 h => by unfold p_L_drive; rw [h, bS, smL]) (fun σ c σ1 hc h => by
    rcases hc with rfl | rfl
    · unfold p_L_drive; rw [h, bS, smR]; rfl
    · exact absurd (on_chg (pc := p_X6_drive (xs (i + 1).toNatClampNeg) (xs (i + 2).toNatClampNeg)) (fun σ => rfl) h) (by decide)) σ a h
  refine ⟨r2.2, a', ?_, q5⟩
  unfold p_lc_6
  rw [if_pos h1, if_pos h2, q1, bS, if_pos h1, if_pos h2, q2, bS]
  exact tail_ok q3 q4

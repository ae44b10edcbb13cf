/-! PURE: the law's cases without a wrapper that change nothing -/
def Step (f : Sg → Option Sg) : Prop := ∀ σ a, BothRel σ a → ∃ σ9 a9, f σ = some σ9 ∧ BothRel σ9 a9
theorem both_s8 {σ : Sg} {a : AS} (h : BothRel σ a) : BothRel (sI σ 20 0 8 0) a :=
  ⟨h.1, h.2.1.mo (Fm.sI (by decide)), h.2.2.fm (Fm.sI (A := []) (I := [(20, 8)]) (by simp)) sc2⟩
theorem m_trees {σ : Sg} {G : Row} {n : Nat} (hM : MR σ G) (hI : Inv G n) : p_X7_trees σ = some (nI (treN G n), sI σ 20 0 8 0) := by
  have hn := hI.1
  have hM8 : MR (sI σ 20 0 8 0) G := hM.s8
  have h0 : gA (sI σ 20 0 8 0) 21 0 0 = nI n := (hM8 0 (by omega)).trans hI.2.1
  have key : ∀ m i a fuel, i + m = n → m < fuel → p_X7_trees_L9 fuel (nI a) (nI i) (sI σ 20 0 8 0) = some (nI (a + sumf (fun i => if G (20 + i) = -1 then 1 else 0) i m), sI σ 20 0 8 0) := by
    intro m
    induction m with
    | zero =>
      intro i a fuel h1 h2
      obtain ⟨fuel, rfl⟩ : ∃ z, fuel = z + 1 := ⟨fuel - 1, by omega⟩
      rw [p_X7_trees_L9, h0, if_pos (nI_le (by omega) (by omega))]
      rfl
    | succ m ih =>
      intro i a fuel h1 h2
      obtain ⟨fuel, rfl⟩ : ∃ z, fuel = z + 1 := ⟨fuel - 1, by omega⟩
      rw [p_X7_trees_L9, h0, if_neg (nI_ge (by omega) (by omega)), m_parent hM8 (by omega), bS, nI_1, sumf]
      rcases hI.par (show i < n by omega) with h | ⟨c, hc, h⟩
      · rw [h, if_neg (by decide), if_pos rfl, nI_1, ih (i + 1) (a + 1) fuel (by omega) (by omega), Nat.add_assoc]
      · rw [h, if_pos (nI_pos' (by omega)), if_neg (ne_m1 (by omega)), show nI a + 0 = nI (a + 0) from nI_add a 0, ih (i + 1) (a + 0) fuel (by omega) (by omega), Nat.add_assoc]
  have h9 := key n 0 0 400 (by omega) (by omega)
  rw [Nat.zero_add] at h9
  exact h9
theorem st_19 (xs : Nat → Int32) (L : Nat) (i : Int32) : Step (p_lc_19 xs L i) := by
  intro σ a h
  refine ⟨sI σ 20 0 8 0, a, ?_, both_s8 h⟩
  unfold p_lc_19
  rw [c_trees h.2.1.1 h.1.1, bS, m_trees h.2.2.1 h.1.1, bS, if_pos rfl]
theorem st_28 (xs : Nat → Int32) (L : Nat) (i : Int32) : Step (p_lc_28 xs L i) := by
  intro σ a h
  refine ⟨sI σ 20 0 8 0, a, ?_, both_s8 h⟩
  unfold p_lc_28 p_X6_faultPosition p_X7_faultPosition
  have e1 : gI σ 0 0 7 = aF a := h.2.1.2.2.2.2.2.1
  have e2 : gI (sI σ 20 0 8 0) 20 0 14 = aF a := h.2.2.2.2.2.2.2.1
  rw [bS, bS, e1, e2, if_pos rfl]

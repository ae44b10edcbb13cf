/-! PURE: save -/
def wS (a : AS) (S : Option (Row × Nat)) : AS := (aR a, aH a, S, aW a, aX a, aF a, aL a)
theorem c_save {σ : Sg} {a : AS} (hC : CRel σ a) : ∃ σ', p_X6_save σ = some ((aR a).1 0, σ') ∧ CRel σ' (wS a (some (aR a))) ∧ Fr clTags σ σ' := by
  obtain ⟨σ1, e1, g1, f1⟩ := c_copyFrom (i := 2) (j := 0) (by decide) σ
  obtain ⟨h1, ⟨np, h2, h3, h4, h5⟩, ⟨h6, h7⟩, ⟨h8, h9, h10⟩, ⟨h11, h12⟩, h13, ⟨h14, h15⟩⟩ := hC
  have cr : ∀ {i : Nat} {G : Row}, i ≠ 2 → CR σ i G → CR (sI σ1 0 0 3 1) i G := fun hi hC => (CR.fc f1 hi hC).fr (S := [0]) (Fr.sI (by simp)) (by decide) (by decide) (by decide) (by decide) (by decide)
  have hI : ∀ T i k, (T = 0 → k ≠ 3) → (T = 0 ∨ 6 ≤ T) → gI (sI σ1 0 0 3 1) T i k = gI σ T i k := fun T i k hk hT => by
    rw [gI_sI, if_neg (fun q => hk q.1 q.2.2)]
    exact (f1.1 T i k (by omega)).1
  have hA : ∀ T i k, 6 ≤ T → gA (sI σ1 0 0 3 1) T i k = gA σ T i k := fun T i k hT => (f1.1 T i k (by omega)).2
  refine ⟨sI σ1 0 0 3 1, ?_, ⟨cr (by decide) h1, ⟨np, h2, (hI 6 0 1 (by omega) (by omega)).trans h3, (hI 6 0 2 (by omega) (by omega)).trans h4, fun j hj => cr (by omega) (h5 j hj)⟩, ⟨by rw [gI_sI, if_pos ⟨rfl, rfl, rfl⟩]; rfl, fun K hK => ?_⟩, ⟨(hI 8 0 0 (by omega) (by omega)).trans h8, (hI 8 0 1 (by omega) (by omega)).trans h9, (hI 8 0 2 (by omega) (by omega)).trans h10⟩, ⟨(hI 9 0 1 (by omega) (by omega)).trans h11, fun k hk => (hA 10 0 k (by omega)).trans (h12 k hk)⟩, (hI 0 0 7 (by omega) (by omega)).trans h13, ⟨(hI 12 0 1 (by omega) (by omega)).trans h14, fun k hk => (hA 13 0 k (by omega)).trans (h15 k hk)⟩⟩, ?_⟩
  · unfold p_X6_save
    rw [e1, bS]
    unfold p_X1_farms
    rw [bS, (cr (by decide) h1).1]
  · cases hK
    exact (g1 _ h1).fr (S := [0]) (Fr.sI (by simp)) (by decide) (by decide) (by decide) (by decide) (by decide)
  · refine ⟨fun T hT i k => ?_, f1.2⟩
    have h16 : 17 ≤ T := by
      rcases Nat.lt_or_ge T 17 with h | h
      · exact absurd (show T ∈ clTags by
          simp only [clTags, List.mem_cons, List.not_mem_nil, or_false]; omega) hT
      · exact h
    exact ⟨hI T i k (by omega) (by omega), hA T i k (by omega)⟩
theorem m_save {σ : Sg} {a : AS} (hM : MRel σ a 0) : ∃ σ', p_X7_save σ = some ((aR a).1 0, σ') ∧ MRel σ' (wS a (some (aR a))) 0 ∧ Fm moRows moInts σ σ' := by
  obtain ⟨σ1, e1, f1, g1, -⟩ := m_copies (t := 21) (u := 23) (A := 0) (B := 0) (by decide) (by decide) (by decide) (by decide) (by decide) 44 0 400 (sI (sI σ 20 0 8 0) 20 0 4 1) (by omega) (by omega)
  obtain ⟨h1, ⟨h2, h3⟩, ⟨h4, h5⟩, ⟨h6, h7, h8⟩, ⟨h9, h10⟩, h11, ⟨h12, h13⟩, h14⟩ := hM
  have hI : ∀ k, k ≠ 8 → k ≠ 4 → gI σ1 20 0 k = gI σ 20 0 k := fun k a1 a2 => by
    rw [f1.1 20 0 k (by simp), gI_sI, if_neg (fun q => a2 q.2.2), gI_sI, if_neg (fun q => a1 q.2.2)]
  have hA : ∀ T i k, T ≠ 23 → gA σ1 T i k = gA σ T i k := fun T i k hT => f1.2.1 T (by simpa using hT) i k
  refine ⟨σ1, ?_, ⟨fun k hk => (hA 21 0 k (by decide)).trans (h1 k hk), ⟨(hI 5 (by decide) (by decide)).trans h2, fun j hj k hk => (hA 22 0 _ (by decide)).trans (h3 j hj k hk)⟩, ⟨?_, fun K hK k hk => ?_⟩, ⟨(hI 9 (by decide) (by decide)).trans h6, (hI 10 (by decide) (by decide)).trans h7, (hI 11 (by decide) (by decide)).trans h8⟩, ⟨(hI 13 (by decide) (by decide)).trans h9, fun k hk => (hA 25 0 k (by decide)).trans (h10 k hk)⟩, (hI 14 (by decide) (by decide)).trans h11, ⟨(hI 16 (by decide) (by decide)).trans h12, fun k hk => (hA 26 0 k (by decide)).trans (h13 k hk)⟩, (hI 6 (by decide) (by decide)).trans h14⟩, ?_⟩
  · unfold p_X7_save
    have e2 : p_X7_copies 21 0 23 0 (sI (sI σ 20 0 8 0) 20 0 4 1) = some σ1 := e1
    rw [e2, bS, hA 21 0 0 (by decide), h1 0 (by omega)]
  · rw [f1.1 20 0 4 (by simp), gI_sI, if_pos ⟨rfl, rfl, rfl⟩]; rfl
  · cases hK
    have := g1 k (by omega) hk
    rw [Nat.zero_add] at this
    rw [this]
    exact h1 k hk
  · exact ((Fm.sI (by decide)).trans (Fm.sI (by decide))).trans (f1.mono (by decide) (by simp))
theorem st_37 (xs : Nat → Int32) (L : Nat) (i : Int32) : Step (p_lc_37 xs L i) := by
  rintro σ a ⟨hA, hC, hM⟩
  obtain ⟨σ1, e1, c1, f1⟩ := c_save hC
  obtain ⟨σ2, e2, m2, f2⟩ := m_save (hM.cl f1)
  obtain ⟨i1, i2, i3, i4, i5, i6⟩ := hA
  refine ⟨σ2, wS a (some (aR a)), ?_, ⟨i1, i2, fun K hK => by cases hK; exact i1, i4, i5, i6⟩, c1.mo f2, m2⟩
  unfold p_lc_37
  rw [e1, bS, e2, bS, if_pos rfl]

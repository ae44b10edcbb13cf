/-! PURE: copies of rows -/
/-- only country i changes -/
def Fc (i : Nat) (σ σ' : Sg) : Prop := (∀ T i' k, ¬ (1 ≤ T ∧ T ≤ 5 ∧ i' = i) → gI σ' T i' k = gI σ T i' k ∧ gA σ' T i' k = gA σ T i' k) ∧ gL σ' = gL σ ∧ gD σ' = gD σ
theorem copyRow_eq {t a u b : Nat} {σ : Sg} (h : alen t = alen u) : p_X1_copyRow t a u b σ = some (cpA σ t a u b (alen u)) := if_pos h
theorem c_copyFrom {i j : Nat} (hij : i ≠ j) (σ : Sg) : ∃ σ', p_X1_copyFrom i j σ = some σ' ∧ (∀ G, CR σ j G → CR σ' i G) ∧ Fc i σ σ' := by
  refine ⟨_, by unfold p_X1_copyFrom; rw [copyRow_eq rfl, bS, copyRow_eq rfl, bS, copyRow_eq rfl, bS, copyRow_eq rfl, bS], ?_, ?_⟩
  · rintro G ⟨c0, c1, c2, c3, c4, c5, c6, c7, c8⟩
    have hji : ¬ j = i := fun e => hij e.symm
    refine ⟨?_, ?_, ?_, ?_, ?_, fun k hk => ?_, fun k hk => ?_, fun k hk => ?_, fun k hk => ?_⟩
    · simp [gI_sI, gI_cpA, c0]
    · simp [gI_sI, gI_cpA, c1]
    · simp [gI_sI, gI_cpA, c2]
    · simp [gI_sI, gI_cpA, c3]
    · simp [gI_sI, gI_cpA, c4]
    · have h3 : k < alen 5 := hk
      simp [gA_sI, gA_cpA, h3, c5 k hk]
    · have h3 : k < alen 2 := hk
      simp [gA_sI, gA_cpA, h3, c6 k hk]
    · have h3 : k < alen 3 := hk
      simp [gA_sI, gA_cpA, h3, c7 k hk]
    · have h3 : k < alen 4 := hk
      simp [gA_sI, gA_cpA, h3, c8 k hk]
  · refine ⟨fun T i' k hn => ⟨?_, ?_⟩, rfl, rfl⟩
    · simp only [gI_sI, gI_cpA]
      by_cases h1 : T = 1
      · have h2 : ¬ i' = i := fun e => hn ⟨by omega, by omega, e⟩
        simp [h2]
      · simp [h1]
    · simp only [gA_sI, gA_cpA]
      by_cases h2 : i' = i
      · have h1 : ¬ (1 ≤ T ∧ T ≤ 5) := fun e => hn ⟨e.1, e.2, h2⟩
        have a2 : ¬ T = 2 := by omega
        have a3 : ¬ T = 3 := by omega
        have a4 : ¬ T = 4 := by omega
        have a5 : ¬ T = 5 := by omega
        simp [a2, a3, a4, a5]
      · simp [h2]
theorem CR.fc {i i' : Nat} {σ σ' : Sg} {G : Row} (h : Fc i σ σ') (hi : i' ≠ i) (hC : CR σ i' G) : CR σ' i' G := by
  obtain ⟨c0, c1, c2, c3, c4, c5, c6, c7, c8⟩ := hC
  have f : ∀ T k, gI σ' T i' k = gI σ T i' k ∧ gA σ' T i' k = gA σ T i' k := fun T k => h.1 T i' k (fun q => hi q.2.2)
  exact ⟨(f 1 0).1.trans c0, (f 1 5).1.trans c1, (f 1 6).1.trans c2, (f 1 7).1.trans c3, (f 1 8).1.trans c4, fun k hk => (f 5 k).2.trans (c5 k hk), fun k hk => (f 2 k).2.trans (c6 k hk), fun k hk => (f 3 k).2.trans (c7 k hk), fun k hk => (f 4 k).2.trans (c8 k hk)⟩
theorem m_copies {t u A B : Nat} (htu : t ≠ u) (hA : A + 44 ≤ alen t) (hB : B + 44 ≤ alen u) (lt : alen t ≤ 1000) (lu : alen u ≤ 1000) : ∀ (m j fuel : Nat) (σ : Sg), j + m = 44 → m < fuel → ∃ σ', p_X7_copies_L3 t u fuel (nI A) (nI B) (nI j) σ = some σ' ∧ Fm [u] [] σ σ' ∧ (∀ k, j ≤ k → k < 44 → gA σ' u 0 (B + k) = gA σ t 0 (A + k)) ∧ ∀ i q, (i ≠ 0 ∨ q < B + j ∨ B + 44 ≤ q) → gA σ' u i q = gA σ u i q := by
  intro m
  induction m with
  | zero =>
    intro j fuel σ h1 h2
    obtain ⟨fuel, rfl⟩ : ∃ z, fuel = z + 1 := ⟨fuel - 1, by omega⟩
    refine ⟨σ, ?_, Fm.refl, fun k h3 h4 => by omega, fun _ _ _ => rfl⟩
    rw [p_X7_copies_L3, if_pos (show (44 : Int32) ≤ nI j from nI_le (a := 44) (by omega) (by omega))]
  | succ m ih =>
    intro j fuel σ h1 h2
    obtain ⟨fuel, rfl⟩ : ∃ z, fuel = z + 1 := ⟨fuel - 1, by omega⟩
    obtain ⟨σ', e1, f1, g1, g2⟩ := ih (j + 1) fuel (sA σ u 0 (B + j) (gA σ t 0 (A + j))) (by omega) (by omega)
    refine ⟨σ', ?_, (Fm.sA (by simp)).trans f1, fun k h3 h4 => ?_, fun i q h3 => ?_⟩
    · rw [p_X7_copies_L3, if_neg (show ¬ (44 : Int32) ≤ nI j from nI_ge (b := 44) (by omega) (by decide)), nI_add, nI_add, if_pos (ib_t (by omega) (by omega)), if_pos (ib_t (by omega) (by omega)), nI_clamp (by omega), nI_clamp (by omega), nI_1]
      exact e1
    · by_cases hk : k = j
      · subst hk
        rw [g2 0 (B + k) (by omega), gA_sA, if_pos ⟨rfl, rfl, rfl⟩]
      · rw [g1 k (by omega) h4, gA_sA, if_neg (fun q => htu q.1)]
    · rw [g2 i q (by omega), gA_sA, if_neg (by omega)]

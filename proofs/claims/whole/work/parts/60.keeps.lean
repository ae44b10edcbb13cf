/-! PURE: what the reference keeps -/
theorem m_shift (t : Nat) : ∀ (m j fuel : Nat) (σ : Sg), j + m = 308 → m < fuel → ∃ σ', p_X7_keeps_L24 t fuel (nI j) σ = p_X7_keeps_L24 t 1 (nI 308) σ' ∧ Fm [22] [] σ σ' ∧ (∀ k, j ≤ k → k < 308 → gA σ' 22 0 k = gA σ 22 0 (k + 44)) ∧ ∀ k, (k < j ∨ 308 ≤ k) → gA σ' 22 0 k = gA σ 22 0 k := by
  intro m
  induction m with
  | zero =>
    intro j fuel σ h1 h2
    obtain ⟨fuel, rfl⟩ : ∃ z, fuel = z + 1 := ⟨fuel - 1, by omega⟩
    obtain rfl : j = 308 := by omega
    refine ⟨σ, ?_, Fm.refl, fun k h3 h4 => by omega, fun _ _ => rfl⟩
    rw [p_X7_keeps_L24, p_X7_keeps_L24, if_pos (show (308 : Int32) ≤ nI 308 from nI_le (Nat.le_refl _) (by decide)), if_pos (show (308 : Int32) ≤ nI 308 from nI_le (Nat.le_refl _) (by decide))]
  | succ m ih =>
    intro j fuel σ h1 h2
    obtain ⟨fuel, rfl⟩ : ∃ z, fuel = z + 1 := ⟨fuel - 1, by omega⟩
    obtain ⟨σ', e1, f1, g1, g2⟩ := ih (j + 1) fuel (sA σ 22 0 j (gA σ 22 0 (j + 44))) (by omega) (by omega)
    refine ⟨σ', ?_, (Fm.sA (by simp)).trans f1, fun k h3 h4 => ?_, fun k h3 => ?_⟩
    · rw [p_X7_keeps_L24, if_neg (show ¬ (308 : Int32) ≤ nI j from nI_ge (b := 308) (by omega) (by decide)), show nI j + 44 = nI (j + 44) from nI_add j 44, if_pos (ib_t (by omega) (by omega)), if_pos (ib_t (by omega) (by omega)), nI_clamp (by omega), nI_clamp (by omega), nI_1]
      exact e1
    · by_cases hk : k = j
      · subst hk
        rw [g2 k (by omega), gA_sA, if_pos ⟨rfl, rfl, rfl⟩]
      · rw [g1 k (by omega) h4, gA_sA, if_neg (by omega)]
    · rw [g2 k (by omega), gA_sA, if_neg (by omega)]
/-- kept of the reference, without room for more than eight -/
theorem m_keeps {σ : Sg} {a : AS} (hM : MRel σ a 0) (hl : (aH a).length ≤ 8) {t : Nat} (ht : t = 21 ∨ t = 24) {R : Row × Nat} (hR : ∀ k, k < 44 → gA σ t 0 k = R.1 k) : ∃ σ', p_X7_keeps t σ = some σ' ∧ MRel σ' (wRH a (aR a) (pushK (aH a) R)) 0 ∧ Fm [22] [(20, 5), (20, 8)] σ σ' ∧ gI σ' 20 0 8 = 0 := by
  obtain ⟨h1, ⟨h2, h3⟩, ⟨h4, h5⟩, ⟨h6, h7, h8⟩, ⟨h9, h10⟩, h11, ⟨h12, h13⟩, h14⟩ := hM
  have ht22 : t ≠ 22 := by omega
  have ht44 : alen t = 44 := by rcases ht with rfl | rfl <;> rfl
  -- from a store with the row's place free: copy and count
  have fin : ∀ (σ1 : Sg) (c : Nat), c < 8 → Fm [22] [(20, 5), (20, 8)] σ σ1 → gI σ1 20 0 8 = 0 → gI σ1 20 0 5 = nI c → ∃ σ', ((p_X7_copies t 0 22 (44 * (gI σ1 20 0 5)) σ1).bind fun r => some (sI r 20 0 5 ((gI r 20 0 5) + 1))) = some σ' ∧ Fm [22] [(20, 5), (20, 8)] σ σ' ∧ gI σ' 20 0 8 = 0 ∧ gI σ' 20 0 5 = nI (c + 1) ∧ (∀ k, k < 44 → gA σ' 22 0 (44 * c + k) = R.1 k) ∧ ∀ k, k < 44 * c → gA σ' 22 0 k = gA σ1 22 0 k := by
    intro σ1 c hc hf h8 h5
    obtain ⟨σ2, e1, f1, g1, g2⟩ := m_copies (t := t) (u := 22) (A := 0) (B := 44 * c) ht22 (by omega) (by show 44 * c + 44 ≤ 352; omega) (by omega) (by decide) 44 0 400 σ1 (by omega) (by omega)
    refine ⟨sI σ2 20 0 5 (nI (c + 1)), ?_, (hf.trans (f1.mono (by simp) (by simp))).trans (Fm.sI (by simp)), ?_, by rw [gI_sI, if_pos ⟨rfl, rfl, rfl⟩], fun k hk => ?_, fun k hk => ?_⟩
    · have e2 : p_X7_copies t 0 22 (nI (44 * c)) σ1 = some σ2 := e1
      rw [h5, show (44 : Int32) * nI c = nI (44 * c) from pk_mul 44 c, e2, bS, f1.1 20 0 5 (by simp), h5, nI_1]
    · rw [gI_sI, if_neg (by decide), f1.1 20 0 8 (by simp), h8]
    · have := g1 k (by omega) hk
      rw [Nat.zero_add] at this
      rw [gA_sI, this, hf.2.1 t (by simpa using ht22) 0 k]
      exact hR k hk
    · rw [gA_sI]; exact g2 0 k (by omega)
  have wrap : ∀ σ', Fm [22] [(20, 5), (20, 8)] σ σ' → gI σ' 20 0 5 = nI (pushK (aH a) R).length → keptIs σ' (pushK (aH a) R) → MRel σ' (wRH a (aR a) (pushK (aH a) R)) 0 := by
    intro σ' f q1 q2
    exact ⟨h1.fm f (by decide), ⟨q1, q2⟩, ⟨(f.1 20 0 4 (by decide)).trans h4, fun K hK k hk => (f.2.1 23 (by decide) 0 k).trans (h5 K hK k hk)⟩, ⟨(f.1 20 0 9 (by decide)).trans h6, (f.1 20 0 10 (by decide)).trans h7, (f.1 20 0 11 (by decide)).trans h8⟩, ⟨(f.1 20 0 13 (by decide)).trans h9, h10.fm f (by decide)⟩, (f.1 20 0 14 (by decide)).trans h11, ⟨(f.1 20 0 16 (by decide)).trans h12, h13.fm f (by decide)⟩, (f.1 20 0 6 (by decide)).trans h14⟩
  have w6 : gI (sI σ 20 0 8 0) 20 0 6 = 0 := h14
  have w5 : gI (sI σ 20 0 8 0) 20 0 5 = nI (aH a).length := h2
  by_cases hf8 : (aH a).length = 8
  · obtain ⟨σ1, e1, f1, g1, g2⟩ := m_shift t 308 0 400 (sI σ 20 0 8 0) (by omega) (by omega)
    have c5 : gI σ1 20 0 5 = nI 8 := by rw [f1.1 20 0 5 (by simp), w5, hf8]
    have c5' : gI (sI σ1 20 0 5 (nI 7)) 20 0 5 = nI 7 := by rw [gI_sI, if_pos ⟨rfl, rfl, rfl⟩]
    obtain ⟨σ', q1, q2, q3, q4, q5, q6⟩ := fin (sI σ1 20 0 5 (nI 7)) 7 (by omega) (((Fm.sI (by simp)).trans (f1.mono (by simp) (by simp))).trans (Fm.sI (by simp))) (by rw [gI_sI, if_neg (by decide), f1.1 20 0 8 (by simp), s8g]) c5'
    refine ⟨σ', ?_, wrap σ' q2 ?_ ?_, q2, q3⟩
    · unfold p_X7_keeps
      have e2 : p_X7_keeps_L24 t 400 0 (sI σ 20 0 8 0) = p_X7_keeps_L24 t 1 (nI 308) σ1 := e1
      rw [w6, if_pos rfl, w5, hf8, if_pos (show nI 8 = 8 from rfl), e2, p_X7_keeps_L24, if_pos (show (308 : Int32) ≤ nI 308 from nI_le (Nat.le_refl _) (by decide)), c5, show nI 8 - 1 = nI 7 from nI_pred 7]
      exact q1
    · rw [q4, pushK_len hl, if_pos (by omega)]
    · intro j hj k hk
      have hlen : (pushK (aH a) R).length = 8 := by rw [pushK_len hl, if_pos (by omega)]
      by_cases hj7 : j = 7
      · subst hj7
        have e2 : (pushK (aH a) R)[7]'hj = R := by
          simp only [pushK, if_pos hf8]
          rw [List.getElem_append_right (by simp; omega)]
          simp [hf8]
        rw [e2]
        exact q5 k hk
      · have e2 : (pushK (aH a) R)[j]'hj = (aH a)[j + 1]'(by omega) := by
          simp only [pushK, if_pos hf8]
          rw [List.getElem_append_left (by simp; omega), List.getElem_tail]
        rw [e2, q6 (44 * j + k) (by omega), gA_sI, g1 (44 * j + k) (by omega) (by omega), ← h3 (j + 1) (by omega) k hk]
        have e9 : 44 * j + k + 44 = 44 * (j + 1) + k := by omega
        rw [e9]
        rfl
  · obtain ⟨σ', q1, q2, q3, q4, q5, q6⟩ := fin (sI σ 20 0 8 0) (aH a).length (by omega) (Fm.sI (by simp)) (s8g σ 0) w5
    refine ⟨σ', ?_, wrap σ' q2 ?_ ?_, q2, q3⟩
    · unfold p_X7_keeps
      rw [w6, if_pos rfl, w5, if_neg (show ¬ nI (aH a).length = 8 from fun e => hf8 (nI_inj (b := 8) (by omega) (by omega) e))]
      rw [w5] at q1
      exact q1
    · rw [q4, pushK_len hl, if_neg (by omega)]
    · intro j hj k hk
      have hlen : (pushK (aH a) R).length = (aH a).length + 1 := by rw [pushK_len hl, if_neg (by omega)]
      by_cases hj7 : j = (aH a).length
      · subst hj7
        have e2 : (pushK (aH a) R)[(aH a).length]'hj = R := by
          simp only [pushK, if_neg hf8]
          rw [List.getElem_append_right (by omega)]
          simp
        rw [e2]
        exact q5 k hk
      · have e2 : (pushK (aH a) R)[j]'hj = (aH a)[j]'(by omega) := by
          simp only [pushK, if_neg hf8]
          rw [List.getElem_append_left (by omega)]
        rw [e2, q6 (44 * j + k) (by omega)]
        exact h3 j (by omega) k hk
theorem m_keeps1 {σ : Sg} {a : AS} (hM : MRel σ a 1) (t : Nat) : p_X7_keeps t σ = some (sI σ 20 0 8 0) := by
  have w6 : gI (sI σ 20 0 8 0) 20 0 6 = 1 := hM.2.2.2.2.2.2.2
  unfold p_X7_keeps
  rw [w6, if_neg (by decide)]

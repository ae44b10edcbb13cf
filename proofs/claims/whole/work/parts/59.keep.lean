/-! PURE: what is kept for undo -/
def pushK (H : List (Row × Nat)) (R : Row × Nat) : List (Row × Nat) := if H.length = 8 then H.tail ++ [R] else H ++ [R]
theorem pushK_len {H : List (Row × Nat)} {R : Row × Nat} (h : H.length ≤ 8) : (pushK H R).length = (if 8 < H.length + 1 then 8 else H.length + 1) := by
  unfold pushK
  by_cases h1 : H.length = 8
  · rw [if_pos h1, if_pos (by omega)]; simp; omega
  · rw [if_neg h1, if_neg (by omega)]; simp
theorem pushK_le {H : List (Row × Nat)} {R : Row × Nat} (h : H.length ≤ 8) : (pushK H R).length ≤ 8 := by
  rw [pushK_len h]; split <;> omega
theorem pushK_mem {H : List (Row × Nat)} {R K : Row × Nat} (h : K ∈ pushK H R) : K ∈ H ∨ K = R := by
  unfold pushK at h
  split at h
  · rcases List.mem_append.mp h with h | h
    · exact Or.inl (List.mem_of_mem_tail h)
    · exact Or.inr (by simpa using h)
  · rcases List.mem_append.mp h with h | h
    · exact Or.inl h
    · exact Or.inr (by simpa using h)
theorem c_keep {σ : Sg} {a : AS} (hC : CRel σ a) (hl : (aH a).length ≤ 8) {j : Nat} (hj : j < 3) {R : Row × Nat} (hR : CR σ j R.1) : ∃ σ', p_X0_keep j σ = some σ' ∧ CRel σ' (wRH a (aR a) (pushK (aH a) R)) ∧ Fr clTags σ σ' ∧ ∀ i G, i < 3 → CR σ i G → CR σ' i G := by
  obtain ⟨h1, ⟨np, h2, h3, h4, h5⟩, ⟨h6, h7⟩, ⟨h8', h9, h10⟩, ⟨h11, h12⟩, h13, ⟨h14, h15⟩⟩ := hC
  obtain ⟨σ1, e1, g1, f1⟩ := c_copyFrom (i := 3 + np) (j := j) (by omega) σ
  obtain ⟨p, hp⟩ : ∃ p, p = (np + 1) % 8 := ⟨_, rfl⟩
  obtain ⟨q, hq⟩ : ∃ q, q = (pushK (aH a) R).length := ⟨_, rfl⟩
  have hq2 : q = (if 8 < (aH a).length + 1 then 8 else (aH a).length + 1) := by rw [hq]; exact pushK_len hl
  obtain ⟨σ2, hσ2⟩ : ∃ σ2, σ2 = sI (sI σ1 6 0 1 (nI p)) 6 0 2 (nI q) := ⟨_, rfl⟩
  have cr : ∀ {i : Nat} {G : Row}, CR σ1 i G → CR σ2 i G := fun hC => by rw [hσ2]; exact (hC.fr (S := [6]) (Fr.sI (by simp)) (by decide) (by decide) (by decide) (by decide) (by decide)).fr (S := [6]) (Fr.sI (by simp)) (by decide) (by decide) (by decide) (by decide) (by decide)
  have hI : ∀ T i k, (T = 0 ∨ 7 ≤ T) → gI σ2 T i k = gI σ T i k := fun T i k hT => by
    rw [hσ2, gI_sI, if_neg (by omega), gI_sI, if_neg (by omega)]
    exact (f1.1 T i k (by omega)).1
  have hA' : ∀ T i k, 6 ≤ T → gA σ2 T i k = gA σ T i k := fun T i k hT => by rw [hσ2]; exact (f1.1 T i k (by omega)).2
  refine ⟨σ2, ?_, ⟨cr (CR.fc f1 (by omega) h1), ⟨p, by omega, by rw [hσ2, gI_sI, if_neg (by decide), gI_sI, if_pos ⟨rfl, rfl, rfl⟩], by rw [hσ2, gI_sI, if_pos ⟨rfl, rfl, rfl⟩, hq]; rfl, fun k hk => ?_⟩, ⟨(hI 0 0 3 (by omega)).trans h6, fun K' hK => cr (CR.fc f1 (by omega) (h7 K' hK))⟩, ⟨(hI 8 0 0 (by omega)).trans h8', (hI 8 0 1 (by omega)).trans h9, (hI 8 0 2 (by omega)).trans h10⟩, ⟨(hI 9 0 1 (by omega)).trans h11, fun k hk => (hA' 10 0 k (by omega)).trans (h12 k hk)⟩, (hI 0 0 7 (by omega)).trans h13, ⟨(hI 12 0 1 (by omega)).trans h14, fun k hk => (hA' 13 0 k (by omega)).trans (h15 k hk)⟩⟩, ?_, fun i G hi hC => cr (CR.fc f1 (by omega) hC)⟩
  · have c1 : gI σ1 6 0 1 = nI np := ((f1.1 6 0 1 (by omega)).1).trans h3
    have c2 : gI (sI σ1 6 0 1 (nI p)) 6 0 2 = nI (aH a).length := by rw [gI_sI, if_neg (by decide)]; exact ((f1.1 6 0 2 (by omega)).1).trans h4
    have c3 : nI np + 1 - (nI np + 1) / 8 * 8 = nI p := by
      rw [nI_1, hp]
      exact pk_rem (a := np + 1) (d := 8) (by omega) (by omega) (by omega)
    have c4 : (if 8 < nI (aH a).length + 1 then (8 : Int32) else nI (aH a).length + 1) = nI q := by
      rw [nI_1, hq2]
      by_cases h : 8 < (aH a).length + 1
      · rw [if_pos h, if_pos (show (8 : Int32) < nI _ from nI_lt (a := 8) h (by omega))]; rfl
      · rw [if_neg h, if_neg (show ¬ (8 : Int32) < nI _ from nI_nlt (a := 8) (by omega) (by omega))]
    unfold p_X0_keep
    rw [h3, if_pos (ib_t h2 (by omega)), nI_clamp (by omega), e1, bS, c1, c3, c2, c4, ← hσ2]
  · have hk : k < (pushK (aH a) R).length := hk
    rw [← hq] at hk
    have hkq : k < (pushK (aH a) R).length := by omega
    suffices hs : ∀ x, (pushK (aH a) R)[k]'hkq = x → CR σ2 (3 + (p + 8 - q + k) % 8) x.1 by
      have h9 := hs _ rfl
      rw [hq] at h9
      exact h9
    intro x hx
    by_cases h8 : (aH a).length = 8
    · have hq8 : q = 8 := by rw [hq2, if_pos (by omega)]
      by_cases hk7 : k = 7
      · have e2 : (pushK (aH a) R)[k]'(by omega) = R := by
          simp only [pushK, if_pos h8]
          rw [List.getElem_append_right (by simp; omega)]
          simp
        rw [e2] at hx
        subst hx
        rw [show (p + 8 - q + k) % 8 = np by omega]
        exact cr (g1 _ hR)
      · have e2 : (pushK (aH a) R)[k]'(by omega) = (aH a)[k + 1]'(by omega) := by
          simp only [pushK, if_pos h8]
          rw [List.getElem_append_left (by simp; omega), List.getElem_tail]
        have := h5 (k + 1) (by omega)
        rw [e2] at hx
        subst hx
        rw [show (p + 8 - q + k) % 8 = (np + 8 - (aH a).length + (k + 1)) % 8 by omega]
        exact cr (CR.fc f1 (by omega) this)
    · have hq8 : q = (aH a).length + 1 := by rw [hq2, if_neg (by omega)]
      by_cases hk7 : k = (aH a).length
      · have e2 : (pushK (aH a) R)[k]'(by omega) = R := by
          simp only [pushK, if_neg h8]
          rw [List.getElem_append_right (by omega)]
          simp
        rw [e2] at hx
        subst hx
        rw [show (p + 8 - q + k) % 8 = np by omega]
        exact cr (g1 _ hR)
      · have e2 : (pushK (aH a) R)[k]'(by omega) = (aH a)[k]'(by omega) := by
          simp only [pushK, if_neg h8]
          rw [List.getElem_append_left (by omega)]
        have := h5 k (by omega)
        rw [e2] at hx
        subst hx
        rw [show (p + 8 - q + k) % 8 = (np + 8 - (aH a).length + k) % 8 by omega]
        exact cr (CR.fc f1 (by omega) this)
  · refine ⟨fun T hT i k => ?_, by rw [hσ2]; exact f1.2⟩
    have h16 : 17 ≤ T := by
      rcases Nat.lt_or_ge T 17 with h | h
      · exact absurd (show T ∈ clTags by
          simp only [clTags, List.mem_cons, List.not_mem_nil, or_false]; omega) hT
      · exact h
    exact ⟨hI T i k (by omega), hA' T i k (by omega)⟩

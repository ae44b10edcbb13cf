/-! PURE: undo -/
theorem cmd_undo : Cmd p_X6_undo p_X7_undo (e12 eIS eNS) := by
  intro a hA
  rcases List.eq_nil_or_concat (aH a) with hH | ⟨H', K, hH⟩
  · refine ⟨.inr 1, a, hA, fun σ hC => ?_, fun σ hM => ?_⟩
    · refine simC_same (S := []) hC (?_ : p_X6_undo σ = _) Fr.refl (by simp)
      obtain ⟨np, -, -, h4, -⟩ := hC.2.1
      unfold p_X6_undo p_X0_count
      rw [bS, h4, hH, if_pos (show nI ([] : List (Row × Nat)).length = 0 from rfl)]
      rfl
    · refine simM_same (v := 0) hM (?_ : p_X7_undo σ = _) (Fm.sI (A := []) (I := [(20, 8)]) (by simp)) sc2 ⟨s8g σ 1, Or.inl rfl⟩
      unfold p_X7_undo
      rw [hM.2.1.1, hH, if_pos (show nI ([] : List (Row × Nat)).length = 0 from rfl), mf1, bS, if_neg (show ¬ (1 : Int32) = 0 by decide)]
  · rw [List.concat_eq_append] at hH
    have hl : (aH a).length = H'.length + 1 := by rw [hH]; simp
    have h8 : H'.length + 1 ≤ 8 := by rw [← hl]; exact hA.2.2.2.1
    have hKm : K ∈ aH a := by rw [hH]; simp
    refine ⟨.inl (nI H'.length), wRH a K H', ?_, fun σ hC => ?_, fun σ hM => ?_⟩
    · obtain ⟨i1, i2, i3, i4, i5, i6⟩ := hA
      exact ⟨i2 K hKm, (fun K' hK => i2 K' (by rw [hH]; exact List.mem_append_left _ hK)), i3, (show H'.length ≤ 8 by omega), i5, i6⟩
    · obtain ⟨h1, ⟨np, h2, h3, h4, h5⟩, ⟨h6, h7⟩, ⟨h8', h9, h10⟩, ⟨h11, h12⟩, h13, ⟨h14, h15⟩⟩ := hC
      rw [hl] at h4
      obtain ⟨p, hp⟩ : ∃ p, p = (np + 7) % 8 := ⟨_, rfl⟩
      have hp8 : p < 8 := by omega
      obtain ⟨σ1, e1, g1, f1⟩ := c_copyFrom (i := 0) (j := 3 + p) (by omega) σ
      have e0 : ((nI np + 8) - 1) - ((nI np + 8) - 1) / 8 * 8 = nI p := by
        rw [show nI np + 8 = nI (np + 8) from nI_add np 8, show nI (np + 8) - 1 = nI (np + 7) from nI_pred (np + 7), hp]
        exact pk_rem (a := np + 7) (d := 8) (by omega) (by omega) (by omega)
      have hcr : CR σ (3 + p) K.1 := by
        have := h5 H'.length (by omega)
        have e2 : (aH a)[H'.length]'(by omega) = K := by simp [hH]
        rw [e2, hl, show (np + 8 - (H'.length + 1) + H'.length) % 8 = p by omega] at this
        exact this
      obtain ⟨σ2, hσ2⟩ : ∃ σ2, σ2 = sI (sI σ1 6 0 1 (nI p)) 6 0 2 (nI H'.length) := ⟨_, rfl⟩
      have cr : ∀ {i : Nat} {G : Row}, CR σ1 i G → CR σ2 i G := fun hC => by rw [hσ2]; exact (hC.fr (S := [6]) (Fr.sI (by simp)) (by decide) (by decide) (by decide) (by decide) (by decide)).fr (S := [6]) (Fr.sI (by simp)) (by decide) (by decide) (by decide) (by decide) (by decide)
      have hI : ∀ T i k, (T = 0 ∨ 7 ≤ T) → gI σ2 T i k = gI σ T i k := fun T i k hT => by
        rw [hσ2, gI_sI, if_neg (by omega), gI_sI, if_neg (by omega)]
        exact (f1.1 T i k (by omega)).1
      have hA' : ∀ T i k, 6 ≤ T → gA σ2 T i k = gA σ T i k := fun T i k hT => by rw [hσ2]; exact (f1.1 T i k (by omega)).2
      refine ⟨_, σ2, ?_, ⟨cr (g1 _ hcr), ⟨p, hp8, by rw [hσ2, gI_sI, if_neg (by decide), gI_sI, if_pos ⟨rfl, rfl, rfl⟩], by rw [hσ2, gI_sI, if_pos ⟨rfl, rfl, rfl⟩]; rfl, fun j hj => ?_⟩, ⟨(hI 0 0 3 (by omega)).trans h6, fun K' hK => cr (CR.fc f1 (by decide) (h7 K' hK))⟩, ⟨(hI 8 0 0 (by omega)).trans h8', (hI 8 0 1 (by omega)).trans h9, (hI 8 0 2 (by omega)).trans h10⟩, ⟨(hI 9 0 1 (by omega)).trans h11, fun k hk => (hA' 10 0 k (by omega)).trans (h12 k hk)⟩, (hI 0 0 7 (by omega)).trans h13, ⟨(hI 12 0 1 (by omega)).trans h14, fun k hk => (hA' 13 0 k (by omega)).trans (h15 k hk)⟩⟩, ?_, rfl⟩
      · have c6 : gI σ1 6 0 2 = nI (H'.length + 1) := ((f1.1 6 0 2 (by omega)).1).trans h4
        have c7 : gI (sI σ1 6 0 1 (nI p)) 6 0 2 - 1 = nI H'.length := by rw [gI_sI, if_neg (by decide), c6, nI_pred]
        have et : p_X0_takeBack 0 σ = some σ2 := by
          unfold p_X0_takeBack
          rw [h3, e0, if_pos (ib_t hp8 (by omega)), h4, if_neg (nI_nle (by omega) (by omega)), nI_clamp (by omega), e1, bS, c7, ← hσ2]
        unfold p_X6_undo p_X0_count
        rw [bS, h4, if_neg (nI_ne0 (by omega) (by omega)), et, bS, bS, hσ2, gI_sI, if_pos ⟨rfl, rfl, rfl⟩]
      · have hj : j < H'.length := hj
        have := h5 j (by omega)
        have e2 : (aH a)[j]'(by omega) = H'[j] := by simp only [hH]; rw [List.getElem_append_left hj]
        rw [e2, hl] at this
        show CR σ2 (3 + (p + 8 - H'.length + j) % 8) H'[j].1
        rw [show (p + 8 - H'.length + j) % 8 = (np + 8 - (H'.length + 1) + j) % 8 by omega]
        exact cr (CR.fc f1 (by omega) this)
      · refine ⟨fun T hT i k => ?_, by rw [hσ2]; exact f1.2⟩
        have h16 : 17 ≤ T := by
          rcases Nat.lt_or_ge T 17 with h | h
          · exact absurd (show T ∈ clTags by
              simp only [clTags, List.mem_cons, List.not_mem_nil, or_false]; omega) hT
          · exact h
        exact ⟨hI T i k (by omega), hA' T i k (by omega)⟩
    · obtain ⟨h1, ⟨h2, h3⟩, ⟨h4, h5⟩, ⟨h6, h7, h8'⟩, ⟨h9, h10⟩, h11, ⟨h12, h13⟩, h14⟩ := hM
      rw [hl] at h2
      obtain ⟨σ0', hσ0⟩ : ∃ σ0', σ0' = sI (sI σ 20 0 8 0) 20 0 5 (nI H'.length) := ⟨_, rfl⟩
      obtain ⟨σ1, e1, f1, g1, -⟩ := m_copies (t := 22) (u := 21) (A := 44 * H'.length) (B := 0) (by decide) (by show 44 * H'.length + 44 ≤ 352; omega) (by decide) (by decide) (by decide) 44 0 400 σ0' (by omega) (by omega)
      have hI : ∀ k, k ≠ 8 → k ≠ 5 → gI σ1 20 0 k = gI σ 20 0 k := fun k a1 a2 => by
        rw [f1.1 20 0 k (by simp), hσ0, gI_sI, if_neg (fun q => a2 q.2.2), gI_sI, if_neg (fun q => a1 q.2.2)]
      have hA' : ∀ T i k, T ≠ 21 → gA σ1 T i k = gA σ T i k := fun T i k hT => by rw [f1.2.1 T (by simpa using hT) i k, hσ0]; rfl
      have h5' : gI σ1 20 0 5 = nI H'.length := by rw [f1.1 20 0 5 (by simp), hσ0, gI_sI, if_pos ⟨rfl, rfl, rfl⟩]
      have hm : MR σ1 K.1 := fun k hk => by
        have := g1 k (by omega) hk
        rw [Nat.zero_add] at this
        have e2 : (aH a)[H'.length]'(by omega) = K := by simp [hH]
        have e3 := h3 H'.length (by omega) k hk
        rw [e2] at e3
        rw [this, hσ0]
        exact e3
      refine ⟨nI H'.length, σ1, ?_, ⟨hm, ⟨h5', fun j hj k hk => ?_⟩, ⟨(hI 4 (by decide) (by decide)).trans h4, fun K' hK k hk => (hA' 23 0 k (by decide)).trans (h5 K' hK k hk)⟩, ⟨(hI 9 (by decide) (by decide)).trans h6, (hI 10 (by decide) (by decide)).trans h7, (hI 11 (by decide) (by decide)).trans h8'⟩, ⟨(hI 13 (by decide) (by decide)).trans h9, fun k hk => (hA' 25 0 k (by decide)).trans (h10 k hk)⟩, (hI 14 (by decide) (by decide)).trans h11, ⟨(hI 16 (by decide) (by decide)).trans h12, fun k hk => (hA' 26 0 k (by decide)).trans (h13 k hk)⟩, (hI 6 (by decide) (by decide)).trans h14⟩, ?_, rfl, ?_⟩
      · have c5 : gI (sI σ 20 0 8 0) 20 0 5 - 1 = nI H'.length := by rw [gI_sI, if_neg (by decide), h2, nI_pred]
        have c6 : (44 : Int32) * gI σ0' 20 0 5 = nI (44 * H'.length) := by
          rw [hσ0, gI_sI, if_pos ⟨rfl, rfl, rfl⟩]
          exact pk_mul 44 H'.length
        have e2 : p_X7_copies 22 (nI (44 * H'.length)) 21 0 σ0' = some σ1 := e1
        unfold p_X7_undo
        rw [h2, if_neg (nI_ne0 (by omega) (by omega)), mf0, bS, if_pos rfl, c5, ← hσ0, c6, e2, bS, h5']
      · have hj : j < H'.length := hj
        have e3 := h3 j (by omega) k hk
        have e2 : (aH a)[j]'(by omega) = H'[j] := by simp only [hH]; rw [List.getElem_append_left hj]
        rw [e2] at e3
        exact (hA' 22 0 _ (by decide)).trans e3
      · refine Fm.trans ?_ (f1.mono (by decide) (by simp))
        rw [hσ0]
        exact (Fm.sI (by decide)).trans (Fm.sI (by decide))
      · rw [f1.1 20 0 8 (by simp), hσ0, gI_sI, if_neg (by decide), s8g]

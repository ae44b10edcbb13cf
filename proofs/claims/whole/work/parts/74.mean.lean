/-! PURE: meanToll, and its case -/
theorem mck_of {n s : Nat} (h : ∀ j, j < n → mckA n 201 (200 * j) = true) (h0 : 0 < n) (h2 : s ≤ 200 * n) : mck n s = true := by
  by_cases hs : s / 200 < n
  · exact mckA_of _ _ (h (s / 200) hs) s (by omega) (by omega)
  · exact mckA_of _ _ (h (n - 1) (by omega)) s (by omega) (by omega)
theorem mck_2 : ∀ j, j < 2 → mckA 2 201 (200 * j) = true := by
  intro j hj
  rcases (show j = 0 ∨ j = 1 by omega) with rfl | rfl
  · exact mck_2_0
  · exact mck_2_1
theorem mck_3 : ∀ j, j < 3 → mckA 3 201 (200 * j) = true := by
  intro j hj
  rcases (show j = 0 ∨ j = 1 ∨ j = 2 by omega) with rfl | rfl | rfl
  · exact mck_3_0
  · exact mck_3_1
  · exact mck_3_2
theorem mck_4 : ∀ j, j < 4 → mckA 4 201 (200 * j) = true := by
  intro j hj
  rcases (show j = 0 ∨ j = 1 ∨ j = 2 ∨ j = 3 by omega) with rfl | rfl | rfl | rfl
  · exact mck_4_0
  · exact mck_4_1
  · exact mck_4_2
  · exact mck_4_3
theorem mck_5 : ∀ j, j < 5 → mckA 5 201 (200 * j) = true := by
  intro j hj
  rcases (show j = 0 ∨ j = 1 ∨ j = 2 ∨ j = 3 ∨ j = 4 by omega) with rfl | rfl | rfl | rfl | rfl
  · exact mck_5_0
  · exact mck_5_1
  · exact mck_5_2
  · exact mck_5_3
  · exact mck_5_4
theorem mck_6 : ∀ j, j < 6 → mckA 6 201 (200 * j) = true := by
  intro j hj
  rcases (show j = 0 ∨ j = 1 ∨ j = 2 ∨ j = 3 ∨ j = 4 ∨ j = 5 by omega) with rfl | rfl | rfl | rfl | rfl | rfl
  · exact mck_6_0
  · exact mck_6_1
  · exact mck_6_2
  · exact mck_6_3
  · exact mck_6_4
  · exact mck_6_5
theorem mck_7 : ∀ j, j < 7 → mckA 7 201 (200 * j) = true := by
  intro j hj
  rcases (show j = 0 ∨ j = 1 ∨ j = 2 ∨ j = 3 ∨ j = 4 ∨ j = 5 ∨ j = 6 by omega) with rfl | rfl | rfl | rfl | rfl | rfl | rfl
  · exact mck_7_0
  · exact mck_7_1
  · exact mck_7_2
  · exact mck_7_3
  · exact mck_7_4
  · exact mck_7_5
  · exact mck_7_6
theorem mck_8 : ∀ j, j < 8 → mckA 8 201 (200 * j) = true := by
  intro j hj
  rcases (show j = 0 ∨ j = 1 ∨ j = 2 ∨ j = 3 ∨ j = 4 ∨ j = 5 ∨ j = 6 ∨ j = 7 by omega) with rfl | rfl | rfl | rfl | rfl | rfl | rfl | rfl
  · exact mck_8_0
  · exact mck_8_1
  · exact mck_8_2
  · exact mck_8_3
  · exact mck_8_4
  · exact mck_8_5
  · exact mck_8_6
  · exact mck_8_7
theorem mck_9 : ∀ j, j < 9 → mckA 9 201 (200 * j) = true := by
  intro j hj
  rcases (show j = 0 ∨ j = 1 ∨ j = 2 ∨ j = 3 ∨ j = 4 ∨ j = 5 ∨ j = 6 ∨ j = 7 ∨ j = 8 by omega) with rfl | rfl | rfl | rfl | rfl | rfl | rfl | rfl | rfl
  · exact mck_9_0
  · exact mck_9_1
  · exact mck_9_2
  · exact mck_9_3
  · exact mck_9_4
  · exact mck_9_5
  · exact mck_9_6
  · exact mck_9_7
  · exact mck_9_8
theorem mck_10 : ∀ j, j < 10 → mckA 10 201 (200 * j) = true := by
  intro j hj
  rcases (show j = 0 ∨ j = 1 ∨ j = 2 ∨ j = 3 ∨ j = 4 ∨ j = 5 ∨ j = 6 ∨ j = 7 ∨ j = 8 ∨ j = 9 by omega) with rfl | rfl | rfl | rfl | rfl | rfl | rfl | rfl | rfl | rfl
  · exact mck_10_0
  · exact mck_10_1
  · exact mck_10_2
  · exact mck_10_3
  · exact mck_10_4
  · exact mck_10_5
  · exact mck_10_6
  · exact mck_10_7
  · exact mck_10_8
  · exact mck_10_9
theorem mck_11 : ∀ j, j < 11 → mckA 11 201 (200 * j) = true := by
  intro j hj
  rcases (show j = 0 ∨ j = 1 ∨ j = 2 ∨ j = 3 ∨ j = 4 ∨ j = 5 ∨ j = 6 ∨ j = 7 ∨ j = 8 ∨ j = 9 ∨ j = 10 by omega) with rfl | rfl | rfl | rfl | rfl | rfl | rfl | rfl | rfl | rfl | rfl
  · exact mck_11_0
  · exact mck_11_1
  · exact mck_11_2
  · exact mck_11_3
  · exact mck_11_4
  · exact mck_11_5
  · exact mck_11_6
  · exact mck_11_7
  · exact mck_11_8
  · exact mck_11_9
  · exact mck_11_10
theorem mck_12 : ∀ j, j < 12 → mckA 12 201 (200 * j) = true := by
  intro j hj
  rcases (show j = 0 ∨ j = 1 ∨ j = 2 ∨ j = 3 ∨ j = 4 ∨ j = 5 ∨ j = 6 ∨ j = 7 ∨ j = 8 ∨ j = 9 ∨ j = 10 ∨ j = 11 by omega) with rfl | rfl | rfl | rfl | rfl | rfl | rfl | rfl | rfl | rfl | rfl | rfl
  · exact mck_12_0
  · exact mck_12_1
  · exact mck_12_2
  · exact mck_12_3
  · exact mck_12_4
  · exact mck_12_5
  · exact mck_12_6
  · exact mck_12_7
  · exact mck_12_8
  · exact mck_12_9
  · exact mck_12_10
  · exact mck_12_11
theorem mck_all {n s : Nat} (h0 : 0 < n) (h1 : n ≤ 12) (h2 : s ≤ 200 * n) : mck n s = true := by
  rcases (show n = 1 ∨ n = 2 ∨ n = 3 ∨ n = 4 ∨ n = 5 ∨ n = 6 ∨ n = 7 ∨ n = 8 ∨ n = 9 ∨ n = 10 ∨ n = 11 ∨ n = 12 by omega) with rfl | rfl | rfl | rfl | rfl | rfl | rfl | rfl | rfl | rfl | rfl | rfl
  · exact mckA_of _ _ mck_1 s (by omega) (by omega)
  · exact mck_of mck_2 (by omega) h2
  · exact mck_of mck_3 (by omega) h2
  · exact mck_of mck_4 (by omega) h2
  · exact mck_of mck_5 (by omega) h2
  · exact mck_of mck_6 (by omega) h2
  · exact mck_of mck_7 (by omega) h2
  · exact mck_of mck_8 (by omega) h2
  · exact mck_of mck_9 (by omega) h2
  · exact mck_of mck_10 (by omega) h2
  · exact mck_of mck_11 (by omega) h2
  · exact mck_of mck_12 (by omega) h2
theorem allN_le {G : Row} {n : Nat} (hI : Inv G n) : allN G n ≤ 200 * n := by
  have : ∀ m i, i + m = n → sumf (tolN G) i m ≤ 200 * m := by
    intro m
    induction m with
    | zero => intro i _; simp [sumf]
    | succ m ih =>
      intro i hi
      have h1 := ih (i + 1) (by omega)
      have h2 := (tol_eq hI (show i < n by omega)).2
      simp only [sumf]
      omega
  exact this n 0 (by omega)
def eAE : String := "java/lang/ArithmeticException"
theorem cmd_meanToll : Cmd p_X6_meanToll p_X7_meanToll (e12 eAE eNS) := by
  intro s hA
  obtain ⟨i1, i2, i3, i4, i5, i6⟩ := id hA
  obtain ⟨G, hG⟩ : ∃ G, G = (aR s).1 := ⟨_, rfl⟩
  obtain ⟨n, hn⟩ : ∃ n, n = (aR s).2 := ⟨_, rfl⟩
  have hI : Inv G n := by rw [hG, hn]; exact i1
  have n12 := hI.1
  have hCG : ∀ σ, CRel σ s → CR σ 0 G := fun σ hC => by rw [hG]; exact hC.1
  have hMG : ∀ σ, MRel σ s 0 → MR σ G := fun σ hM => by rw [hG]; exact hM.1
  by_cases h0 : n = 0
  · refine ⟨.inr 1, s, hA, fun σ hC => ?_, fun σ hM => ?_⟩
    · refine simC_same (S := []) hC (?_ : p_X6_meanToll σ = _) Fr.refl (by simp)
      unfold p_X6_meanToll p_X1_farms
      rw [bS, (hCG σ hC).1, hI.2.1, h0, if_pos (show nI 0 = 0 from rfl)]
      rfl
    · refine simM_same (v := 0) hM (?_ : p_X7_meanToll σ = _) (Fm.sI (A := []) (I := [(20, 8)]) (by simp)) sc2 ⟨s8g σ 1, Or.inl rfl⟩
      unfold p_X7_meanToll
      rw [hMG σ hM 0 (by omega), hI.2.1, h0, if_pos (show nI 0 = 0 from rfl), mf1, bS, if_neg n10]
  · have hck := mck_all (n := n) (s := allN G n) (by omega) n12 (allN_le hI)
    unfold mck at hck
    simp only [Bool.and_eq_true, beq_iff_eq] at hck
    obtain ⟨k1, k2⟩ := hck
    obtain ⟨q, hq⟩ : ∃ q, q = FP.fdiv (FP.i2f (nI (allN G n))) (FP.i2f (nI n)) := ⟨_, rfl⟩
    rw [← hq] at k1 k2
    refine ⟨.inl (fbits q), s, hA, fun σ hC => ?_, fun σ hM => ?_⟩
    · refine simC_same (S := []) hC (?_ : p_X6_meanToll σ = _) Fr.refl (by simp)
      unfold p_X6_meanToll p_X1_farms
      rw [bS, (hCG σ hC).1, hI.2.1, if_neg (nI_ne0 (by omega) (by omega)), c_allTolls (hCG σ hC) hI, bS, ← hq, if_pos k1, bits_any σ sg0, k2, bS]
      rfl
    · have hM8 : MR (sI σ 20 0 8 0) G := (hMG σ hM).s8
      have g0 : gA (sI σ 20 0 8 0) 21 0 0 = nI n := (hM8 0 (by omega)).trans hI.2.1
      refine simM_same (v := fbits q) hM (?_ : p_X7_meanToll σ = some (_, sI σ 20 0 8 0)) (Fm.sI (A := []) (I := [(20, 8)]) (by simp)) sc2 ⟨rfl, s8g σ 0⟩
      unfold p_X7_meanToll
      rw [hMG σ hM 0 (by omega), hI.2.1, if_neg (nI_ne0 (by omega) (by omega)), mf0, bS, if_pos rfl, m_tolls hM8 hI, bS, g0, ← hq, if_pos k1]
theorem on_meanToll {σ σ1 : Sg} {E : String} (h : p_X6_meanToll σ = some (.inr E, σ1)) : E = eAE := by
  unfold p_X6_meanToll at h
  obtain ⟨r, _, h⟩ := bnd h
  by_cases h0 : r = 0
  · rw [if_pos h0] at h; exact inr_of h
  · rw [if_neg h0] at h
    obtain ⟨r3, _, h⟩ := bnd h
    by_cases h1 : nn32 (FP.fdiv (FP.i2f r3) (FP.i2f r)) = true
    · rw [if_pos h1] at h
      obtain ⟨_, _, h⟩ := bnd h
      exact inl_no h
    · rw [if_neg h1] at h; cases h
theorem st_33 (xs : Nat → Int32) (L : Nat) (i : Int32) : Step (p_lc_33 xs L i) := by
  intro σ a h
  obtain ⟨r1, r2, q1, q2, q3, q4, a', q5⟩ := step_wrap (pL := p_L_meanToll) cmd_meanToll (fun σ v σ1 h => by unfold p_L_meanToll; rw [h, bS, smL]) (fun σ c σ1 hc h => by
    rcases hc with rfl | rfl
    · unfold p_L_meanToll; rw [h, bS, smR]; rfl
    · exact absurd (on_meanToll h) (by decide)) σ a h
  refine ⟨r2.2, a', ?_, q5⟩
  unfold p_lc_33
  rw [q1, bS, q2, bS]
  exact tail_ok q3 q4

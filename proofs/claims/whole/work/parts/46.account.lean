/-! PURE: account and append -/
def ac (a : AS) (k : Nat) : Int32 := match k with
  | 0 => (aR a).1 0
  | 1 => (aR a).1 0 - nI (treN (aR a).1 (aR a).2)
  | 2 => nI (allN (aR a).1 (aR a).2)
  | 3 => nI (prfN (aR a).1 (aR a).2)
  | 4 => (aR a).1 1
  | 5 => (aR a).1 2
  | 6 => (aR a).1 3
  | 7 => (aR a).1 4
  | 8 => nI (aH a).length
  | _ => nI (aX a).length
theorem ten {k : Nat} (h : k < 10) : k = 0 ∨ k = 1 ∨ k = 2 ∨ k = 3 ∨ k = 4 ∨ k = 5 ∨ k = 6 ∨ k = 7 ∨ k = 8 ∨ k = 9 := by omega
theorem cmd_account (v : Int32) : Cmd (p_X6_account v) (p_X7_account v) (e12 eIA eNS) := by
  intro a hA
  have hI := hA.1
  have hn := hI.1
  cases hff : isF 10 v with
  | false =>
    have hne : ∀ k, k < 10 → ¬ v = nI k := fun k hk e => by rw [e, isF_nI hk (by omega)] at hff; cases hff
    refine ⟨.inr 1, _, hA, fun σ hC => ?_, fun σ hM => ?_⟩
    · refine simC_same (S := []) hC (?_ : p_X6_account v σ = _) Fr.refl (by simp)
      unfold p_X6_account
      rw [if_neg (show ¬ v = 0 from hne 0 (by omega)), if_neg (show ¬ v = 1 from hne 1 (by omega)), if_neg (show ¬ v = 2 from hne 2 (by omega)), if_neg (show ¬ v = 3 from hne 3 (by omega)), if_neg (show ¬ v = 4 from hne 4 (by omega)), if_neg (show ¬ v = 5 from hne 5 (by omega)), if_neg (show ¬ v = 6 from hne 6 (by omega)), if_neg (show ¬ v = 7 from hne 7 (by omega)), if_neg (show ¬ v = 8 from hne 8 (by omega)), if_neg (show ¬ v = 9 from hne 9 (by omega))]
      rfl
    · refine simM_same (v := 0) hM (?_ : p_X7_account v σ = _) (Fm.sI (A := []) (I := [(20, 8)]) (by simp)) sc2 ⟨s8g σ 1, Or.inl rfl⟩
      unfold p_X7_account
      rw [m_inN 10 (by omega) (by decide), hff, bS, if_pos (show b01 false = 0 from rfl), mf1, bS, if_neg (show ¬ (1 : Int32) = 0 by decide)]
  | true =>
    obtain ⟨k, hk, rfl⟩ := isF_of (by omega) hff
    refine ⟨.inl (ac a k), _, hA, fun σ hC => ?_, fun σ hM => ?_⟩
    · refine simC_same (S := []) hC (?_ : p_X6_account (nI k) σ = _) Fr.refl (by simp)
      obtain ⟨q0, q1, q2, q3, q4, -⟩ := hC.1
      obtain ⟨np, -, -, hcnt, -⟩ := hC.2.1
      have hlen := hC.2.2.2.2.1.1
      unfold p_X6_account p_X1_farms p_X1_changedByExposing p_X1_exposings p_X1_drives p_X1_paid p_X0_count p_X4_length
      rcases ten hk with rfl | rfl | rfl | rfl | rfl | rfl | rfl | rfl | rfl | rfl
      · rw [if_pos (show nI 0 = 0 from rfl), bS, q0]; rfl
      · rw [if_neg (by decide), if_pos (show nI 1 = 1 from rfl), bS, q0, c_trees hC.1 hI, bS]; rfl
      · rw [if_neg (by decide), if_neg (by decide), if_pos (show nI 2 = 2 from rfl), c_allTolls hC.1 hI, bS]; rfl
      · rw [if_neg (by decide), if_neg (by decide), if_neg (by decide), if_pos (show nI 3 = 3 from rfl), c_preferring hC.1 hI, bS]; rfl
      · rw [if_neg (by decide), if_neg (by decide), if_neg (by decide), if_neg (by decide), if_pos (show nI 4 = 4 from rfl), bS, q1]; rfl
      · rw [if_neg (by decide), if_neg (by decide), if_neg (by decide), if_neg (by decide), if_neg (by decide), if_pos (show nI 5 = 5 from rfl), bS, q2]; rfl
      · rw [if_neg (by decide), if_neg (by decide), if_neg (by decide), if_neg (by decide), if_neg (by decide), if_neg (by decide), if_pos (show nI 6 = 6 from rfl), bS, q3]; rfl
      · rw [if_neg (by decide), if_neg (by decide), if_neg (by decide), if_neg (by decide), if_neg (by decide), if_neg (by decide), if_neg (by decide), if_pos (show nI 7 = 7 from rfl), bS, q4]; rfl
      · rw [if_neg (by decide), if_neg (by decide), if_neg (by decide), if_neg (by decide), if_neg (by decide), if_neg (by decide), if_neg (by decide), if_neg (by decide), if_pos (show nI 8 = 8 from rfl), bS, hcnt]; rfl
      · rw [if_neg (by decide), if_neg (by decide), if_neg (by decide), if_neg (by decide), if_neg (by decide), if_neg (by decide), if_neg (by decide), if_neg (by decide), if_neg (by decide), if_pos (show nI 9 = 9 from rfl), bS, hlen]; rfl
    · refine simM_same hM (?_ : p_X7_account (nI k) σ = some (ac a k, sI σ 20 0 8 0)) (Fm.sI (A := []) (I := [(20, 8)]) (by simp)) sc2 ⟨rfl, s8g σ 0⟩
      have hM8 : MR (sI σ 20 0 8 0) (aR a).1 := hM.1.s8
      have h5 : gI (sI σ 20 0 8 0) 20 0 5 = nI (aH a).length := hM.2.1.1
      have h13 : gI (sI σ 20 0 8 0) 20 0 13 = nI (aX a).length := hM.2.2.2.2.1.1
      unfold p_X7_account
      rw [m_inN 10 (by omega) (by decide), hff, bS, if_neg (show ¬ b01 true = 0 by decide), mf0, bS, if_pos rfl]
      rcases ten hk with rfl | rfl | rfl | rfl | rfl | rfl | rfl | rfl | rfl | rfl
      · rw [if_pos (show nI 0 = 0 from rfl)]
        exact congrArg (fun z => some (z, sI σ 20 0 8 0)) (hM8 0 (by omega))
      · rw [if_neg (by decide), if_pos (show nI 1 = 1 from rfl), m_treesNow hM8 hI, bS]
        exact congrArg (fun z => some (z - nI (treN (aR a).1 (aR a).2), sI σ 20 0 8 0)) (hM8 0 (by omega))
      · rw [if_neg (by decide), if_neg (by decide), if_pos (show nI 2 = 2 from rfl), m_tolls hM8 hI, bS]; rfl
      · rw [if_neg (by decide), if_neg (by decide), if_neg (by decide), if_pos (show nI 3 = 3 from rfl), m_preferring hM8 hI, bS]; rfl
      · rw [if_neg (by decide), if_neg (by decide), if_neg (by decide), if_neg (by decide), if_neg (by decide), if_neg (by decide), if_pos (by decide)]
        exact congrArg (fun z => some (z, sI σ 20 0 8 0)) (hM8 1 (by omega))
      · rw [if_neg (by decide), if_neg (by decide), if_neg (by decide), if_neg (by decide), if_neg (by decide), if_neg (by decide), if_pos (by decide)]
        exact congrArg (fun z => some (z, sI σ 20 0 8 0)) (hM8 2 (by omega))
      · rw [if_neg (by decide), if_neg (by decide), if_neg (by decide), if_neg (by decide), if_neg (by decide), if_neg (by decide), if_pos (by decide)]
        exact congrArg (fun z => some (z, sI σ 20 0 8 0)) (hM8 3 (by omega))
      · rw [if_neg (by decide), if_neg (by decide), if_neg (by decide), if_neg (by decide), if_neg (by decide), if_neg (by decide), if_pos (by decide)]
        exact congrArg (fun z => some (z, sI σ 20 0 8 0)) (hM8 4 (by omega))
      · rw [if_neg (by decide), if_neg (by decide), if_neg (by decide), if_neg (by decide), if_pos (show nI 8 = 8 from rfl)]
        exact congrArg (fun z => some (z, sI σ 20 0 8 0)) h5
      · rw [if_neg (by decide), if_neg (by decide), if_neg (by decide), if_neg (by decide), if_neg (by decide), if_pos (show nI 9 = 9 from rfl)]
        exact congrArg (fun z => some (z, sI σ 20 0 8 0)) h13

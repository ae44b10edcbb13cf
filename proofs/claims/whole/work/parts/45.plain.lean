/-! PURE: reason, character, account, append, and the two that nothing refuses -/
theorem nch_nI {q : Nat} (hq : q < 65536) : nch (nI q) = nI q := by
  have h := (pk_charN hq).1
  unfold nch vp_nar
  rw [h]
theorem nch_w (x : Int32) : ∃ q, q < 65536 ∧ nch x = nI q := ⟨x.toBitVec.toNat % 65536, Nat.mod_lt _ (by omega), (pk_char x)⟩
theorem nch_nch (x : Int32) : nch (nch x) = nch x := by
  obtain ⟨q, hq, h⟩ := nch_w x
  rw [h, nch_nI hq]
theorem isF_not {N : Nat} {v : Int32} (hN : N < 2 ^ 31) (h : isF N v = false) : v < 0 ∨ (¬ v < 0 ∧ nI N ≤ v) := by
  by_cases h1 : v < 0
  · exact Or.inl h1
  · right
    refine ⟨h1, ?_⟩
    simp only [isF, decide_eq_false h1, Bool.false_or, Bool.not_eq_false', decide_eq_true_eq] at h
    exact h
theorem cmd_reason (v : Int32) : Cmd (p_X6_reason v) (p_X7_reason v) (e12 eIA eNS) := by
  intro a hA
  cases hff : isF 3 v with
  | false =>
    refine ⟨.inr 1, _, hA, fun σ hC => ?_, fun σ hM => ?_⟩
    · refine simC_same (S := []) hC (?_ : p_X6_reason v σ = _) Fr.refl (by simp)
      unfold p_X6_reason
      rcases isF_not (by omega) hff with h | ⟨h, h2⟩
      · rw [if_pos h]; rfl
      · rw [if_neg h, if_neg (fun q => by
          have a1 := Int32.le_iff_toInt_le.mp q
          have a2 := Int32.le_iff_toInt_le.mp h2
          have : (2 : Int32).toInt = 2 := rfl
          rw [nI_toInt (by omega)] at a2
          omega)]
        rfl
    · refine simM_same (v := 0) hM (?_ : p_X7_reason v σ = _) (Fm.sI (A := []) (I := [(20, 8)]) (by simp)) sc2 ⟨s8g σ 1, Or.inl rfl⟩
      unfold p_X7_reason
      rw [m_inN 3 (by omega) (by decide), hff, bS, if_pos (show b01 false = 0 from rfl), mf1, bS, if_neg (show ¬ (1 : Int32) = 0 by decide)]
  | true =>
    obtain ⟨k, hk, rfl⟩ := isF_of (by omega) hff
    have hk2 : nI k ≤ 2 := nI_le (b := 2) (by omega) (by omega)
    by_cases hw : (aW a).1 = 0
    · refine ⟨.inr 2, _, hA, fun σ hC => ?_, fun σ hM => ?_⟩
      · refine simC_same (S := []) hC (?_ : p_X6_reason (nI k) σ = _) Fr.refl (by simp)
        unfold p_X6_reason p_X3_isKept
        rw [if_neg (nI_pos (by omega)), if_pos hk2, hC.2.2.2.1.1, if_pos hw, bS, if_pos rfl]
        rfl
      · refine simM_same (v := 0) hM (?_ : p_X7_reason (nI k) σ = _) (Fm.sI (A := []) (I := [(20, 8)]) (by simp)) sc2 ⟨s8g σ 2, Or.inr rfl⟩
        unfold p_X7_reason
        rw [m_inN 3 (by omega) (by decide), hff, bS, if_neg (show ¬ b01 true = 0 by decide), hM.2.2.2.1.1, if_pos hw, mf2, bS, if_neg (show ¬ (1 : Int32) = 0 by decide)]
    · refine ⟨.inl (if k = 0 then (aW a).1 else if k = 1 then (aW a).2.1 else (aW a).2.2), _, hA, fun σ hC => ?_, fun σ hM => ?_⟩
      · refine simC_same (S := []) hC (?_ : p_X6_reason (nI k) σ = _) Fr.refl (by simp)
        obtain ⟨c1, c2, c3⟩ := hC.2.2.2.1
        unfold p_X6_reason p_X3_isKept p_X3_number p_X3_detail p_X3_command
        rw [if_neg (nI_pos (by omega)), if_pos hk2, c1, if_neg hw, bS, if_neg (show ¬ (1 : Int32) = 0 by decide), bS, bS, bS, c2, c3]
        rcases (show k = 0 ∨ k = 1 ∨ k = 2 by omega) with rfl | rfl | rfl <;> rfl
      · obtain ⟨c1, c2, c3⟩ := hM.2.2.2.1
        refine simM_same hM (?_ : p_X7_reason (nI k) σ = some (_, sI σ 20 0 8 0)) (Fm.sI (A := []) (I := [(20, 8)]) (by simp)) sc2 ⟨rfl, s8g σ 0⟩
        unfold p_X7_reason
        rw [m_inN 3 (by omega) (by decide), hff, bS, if_neg (show ¬ b01 true = 0 by decide), c1, if_neg hw, mf0, bS, if_pos rfl]
        have g9 : gI (sI σ 20 0 8 0) 20 0 9 = (aW a).1 := c1
        have g10 : gI (sI σ 20 0 8 0) 20 0 10 = (aW a).2.1 := c2
        have g11 : gI (sI σ 20 0 8 0) 20 0 11 = (aW a).2.2 := c3
        simp only [g9, g10, g11]
        rcases (show k = 0 ∨ k = 1 ∨ k = 2 by omega) with rfl | rfl | rfl <;> rfl
theorem cmd_character (v : Int32) : Cmd (p_X6_character v) (p_X7_character v) (e12 eIO eNS) := by
  intro a hA
  have hl := hA.2.2.2.2.2.1
  cases hff : isF (aL a).length v with
  | false =>
    refine ⟨.inr 1, _, hA, fun σ hC => ?_, fun σ hM => ?_⟩
    · refine simC_same (S := []) hC (?_ : p_X6_character v σ = _) Fr.refl (by simp)
      unfold p_X6_character p_X2_length
      rcases isF_not (by omega) hff with h | ⟨h, h2⟩
      · rw [if_pos h]; rfl
      · rw [if_neg h, bS, hC.2.2.2.2.2.2.1, if_neg (Int32.not_lt.mpr h2)]; rfl
    · refine simM_same (v := nch 32) hM (?_ : p_X7_character v σ = _) (Fm.sI (A := []) (I := [(20, 8)]) (by simp)) sc2 ⟨s8g σ 1, Or.inl rfl⟩
      unfold p_X7_character
      rw [hM.2.2.2.2.2.2.1.1, m_in (by omega), hff, bS, if_pos (show b01 false = 0 from rfl), mf1, bS, if_neg (show ¬ (1 : Int32) = 0 by decide)]
  | true =>
    have hx : ∃ k, k < (aL a).length ∧ v = nI k := by
      rcases pk_ix v (n := (aL a).length) (by omega) with h1 | h1 | ⟨j, h1, h2⟩
      · simp [isF, h1] at hff
      · simp [isF, h1] at hff
      · exact ⟨j, h1, h2⟩
    obtain ⟨k, hk, rfl⟩ := hx
    refine ⟨.inl (nch (aL a)[k]), _, hA, fun σ hC => ?_, fun σ hM => ?_⟩
    · refine simC_same (S := []) hC (?_ : p_X6_character (nI k) σ = _) Fr.refl (by simp)
      obtain ⟨c1, c2⟩ := hC.2.2.2.2.2.2
      unfold p_X6_character p_X2_length p_X2_at
      rw [if_neg (nI_pos (by omega)), bS, c1, if_pos (nI_lt hk (by omega)), if_neg (nI_pos (by omega)), if_neg (nI_ge hk (by omega)), if_neg (show ¬ (80 : Int32) ≤ nI k from nI_ge (b := 80) (by omega) (by decide)), if_pos (ib_t (by omega) (by omega)), nI_clamp (by omega), c2 k hk, bS, nch_nch]
      rfl
    · obtain ⟨c1, c2⟩ := hM.2.2.2.2.2.2.1
      refine simM_same hM (?_ : p_X7_character (nI k) σ = some (_, sI σ 20 0 8 0)) (Fm.sI (A := []) (I := [(20, 8)]) (by simp)) sc2 ⟨rfl, s8g σ 0⟩
      unfold p_X7_character
      rw [c1, m_in (by omega), hff, bS, if_neg (show ¬ b01 true = 0 by decide), mf0, bS, if_pos rfl, if_pos (ib_t (by omega) (by omega)), nI_clamp (by omega)]
      have : gA (sI σ 20 0 8 0) 26 0 k = (aL a)[k] := c2 k hk
      rw [this]

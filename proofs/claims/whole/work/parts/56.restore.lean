/-! PURE: restore -/
def wRH (a : AS) (R : Row × Nat) (H : List (Row × Nat)) : AS := (R, H, aS a, aW a, aX a, aF a, aL a)
theorem cmd_restore : Cmd p_X6_restore p_X7_restore (e12 eIS eNS) := by
  intro a hA
  cases hS : aS a with
  | none =>
    refine ⟨.inr 1, a, hA, fun σ hC => ?_, fun σ hM => ?_⟩
    · refine simC_same (S := []) hC (?_ : p_X6_restore σ = _) Fr.refl (by simp)
      unfold p_X6_restore
      rw [hC.2.2.1.1, hS, if_pos (show b01 (Option.isSome (none : Option (Row × Nat))) = 0 from rfl)]
      rfl
    · refine simM_same (v := 0) hM (?_ : p_X7_restore σ = _) (Fm.sI (A := []) (I := [(20, 8)]) (by simp)) sc2 ⟨s8g σ 1, Or.inl rfl⟩
      unfold p_X7_restore
      rw [hM.2.2.1.1, hS, if_pos (show b01 (Option.isSome (none : Option (Row × Nat))) = 0 from rfl), mf1, bS, if_neg (show ¬ (1 : Int32) = 0 by decide)]
  | some K =>
    refine ⟨.inl (K.1 0), wRH a K [], ?_, fun σ hC => ?_, fun σ hM => ?_⟩
    · obtain ⟨i1, i2, i3, i4, i5, i6⟩ := hA
      exact ⟨i3 K hS, (fun K' hK => absurd hK List.not_mem_nil), i3, (show 0 ≤ 8 by omega), i5, i6⟩
    · obtain ⟨σ1, e1, g1, f1⟩ := c_copyFrom (i := 0) (j := 2) (by decide) σ
      obtain ⟨h1, ⟨np, h2, h3, h4, h5⟩, ⟨h6, h7⟩, ⟨h8, h9, h10⟩, ⟨h11, h12⟩, h13, ⟨h14, h15⟩⟩ := hC
      have cr : ∀ {i : Nat} {G : Row}, CR σ1 i G → CR (sI σ1 6 0 2 0) i G := fun hC => hC.fr (S := [6]) (Fr.sI (by simp)) (by decide) (by decide) (by decide) (by decide) (by decide)
      have hI : ∀ T i k, (T = 6 → k ≠ 2) → (T = 0 ∨ 6 ≤ T) → gI (sI σ1 6 0 2 0) T i k = gI σ T i k := fun T i k hk hT => by
        rw [gI_sI, if_neg (fun q => hk q.1 q.2.2)]
        exact (f1.1 T i k (by omega)).1
      have hA : ∀ T i k, 6 ≤ T → gA (sI σ1 6 0 2 0) T i k = gA σ T i k := fun T i k hT => (f1.1 T i k (by omega)).2
      have hc0 : CR (sI σ1 6 0 2 0) 0 K.1 := cr (g1 _ (h7 K hS))
      refine ⟨_, sI σ1 6 0 2 0, ?_, ⟨hc0, ⟨np, h2, (hI 6 0 1 (by omega) (by omega)).trans h3, by rw [gI_sI, if_pos ⟨rfl, rfl, rfl⟩]; rfl, fun j hj => absurd hj (Nat.not_lt_zero _)⟩, ⟨(hI 0 0 3 (by omega) (by omega)).trans h6, fun K' hK => cr (CR.fc f1 (by decide) (h7 K' hK))⟩, ⟨(hI 8 0 0 (by omega) (by omega)).trans h8, (hI 8 0 1 (by omega) (by omega)).trans h9, (hI 8 0 2 (by omega) (by omega)).trans h10⟩, ⟨(hI 9 0 1 (by omega) (by omega)).trans h11, fun k hk => (hA 10 0 k (by omega)).trans (h12 k hk)⟩, (hI 0 0 7 (by omega) (by omega)).trans h13, ⟨(hI 12 0 1 (by omega) (by omega)).trans h14, fun k hk => (hA 13 0 k (by omega)).trans (h15 k hk)⟩⟩, ?_, rfl⟩
      · unfold p_X6_restore p_X0_forget p_X1_farms
        rw [h6, hS, if_neg (show ¬ b01 (Option.isSome (some K)) = 0 from (by decide : ¬ b01 true = 0)), e1, bS, bS, bS, hc0.1]
      · refine ⟨fun T hT i k => ?_, f1.2⟩
        have h16 : 17 ≤ T := by
          rcases Nat.lt_or_ge T 17 with h | h
          · exact absurd (show T ∈ clTags by
              simp only [clTags, List.mem_cons, List.not_mem_nil, or_false]; omega) hT
          · exact h
        exact ⟨hI T i k (by omega) (by omega), hA T i k (by omega)⟩
    · obtain ⟨σ1, e1, f1, g1, -⟩ := m_copies (t := 23) (u := 21) (A := 0) (B := 0) (by decide) (by decide) (by decide) (by decide) (by decide) 44 0 400 (sI σ 20 0 8 0) (by omega) (by omega)
      obtain ⟨h1, ⟨h2, h3⟩, ⟨h4, h5⟩, ⟨h6, h7, h8⟩, ⟨h9, h10⟩, h11, ⟨h12, h13⟩, h14⟩ := hM
      obtain ⟨σ2, hσ2⟩ : ∃ σ2, σ2 = sI σ1 20 0 5 0 := ⟨_, rfl⟩
      have hI : ∀ k, k ≠ 8 → k ≠ 5 → gI σ2 20 0 k = gI σ 20 0 k := fun k a1 a2 => by
        rw [hσ2, gI_sI, if_neg (fun q => a2 q.2.2), f1.1 20 0 k (by simp), gI_sI, if_neg (fun q => a1 q.2.2)]
      have hA : ∀ T i k, T ≠ 21 → gA σ2 T i k = gA σ T i k := fun T i k hT => by rw [hσ2]; exact f1.2.1 T (by simpa using hT) i k
      have hm : MR σ2 K.1 := fun k hk => by
        have := g1 k (by omega) hk
        rw [Nat.zero_add] at this
        rw [hσ2]
        exact this.trans (h5 K hS k hk)
      refine ⟨K.1 0, σ2, ?_, ⟨hm, ⟨by rw [hσ2, gI_sI, if_pos ⟨rfl, rfl, rfl⟩]; rfl, fun j hj => absurd hj (Nat.not_lt_zero _)⟩, ⟨(hI 4 (by decide) (by decide)).trans h4, fun K' hK k hk => (hA 23 0 k (by decide)).trans (h5 K' hK k hk)⟩, ⟨(hI 9 (by decide) (by decide)).trans h6, (hI 10 (by decide) (by decide)).trans h7, (hI 11 (by decide) (by decide)).trans h8⟩, ⟨(hI 13 (by decide) (by decide)).trans h9, fun k hk => (hA 25 0 k (by decide)).trans (h10 k hk)⟩, (hI 14 (by decide) (by decide)).trans h11, ⟨(hI 16 (by decide) (by decide)).trans h12, fun k hk => (hA 26 0 k (by decide)).trans (h13 k hk)⟩, (hI 6 (by decide) (by decide)).trans h14⟩, ?_, rfl, ?_⟩
      · unfold p_X7_restore
        have e2 : p_X7_copies 23 0 21 0 (sI σ 20 0 8 0) = some σ1 := e1
        rw [h4, hS, if_neg (show ¬ b01 (Option.isSome (some K)) = 0 from (by decide : ¬ b01 true = 0)), mf0, bS, if_pos rfl, e2, bS, ← hσ2, hm 0 (by omega)]
      · rw [hσ2]
        exact ((Fm.sI (by decide)).trans (f1.mono (by decide) (by simp))).trans (Fm.sI (by decide))
      · rw [hσ2, gI_sI, if_neg (by decide), f1.1 20 0 8 (by simp), s8g]
theorem on_restore {σ σ1 : Sg} {E : String} (h : p_X6_restore σ = some (.inr E, σ1)) : E = eIS := by
  unfold p_X6_restore at h
  by_cases h0 : gI σ 0 0 3 = 0
  · rw [if_pos h0] at h; exact inr_of h
  · rw [if_neg h0] at h
    obtain ⟨_, _, h⟩ := bnd h
    obtain ⟨_, _, h⟩ := bnd h
    obtain ⟨_, _, h⟩ := bnd h
    exact inl_no h
theorem st_38 (xs : Nat → Int32) (L : Nat) (i : Int32) : Step (p_lc_38 xs L i) := by
  intro σ a h
  obtain ⟨r1, r2, q1, q2, q3, q4, a', q5⟩ := step_wrap (pL := p_L_restore) cmd_restore (fun σ v σ1 h => by unfold p_L_restore; rw [h, bS, smL]) (fun σ c σ1 hc h => by
    rcases hc with rfl | rfl
    · unfold p_L_restore; rw [h, bS, smR]; rfl
    · exact absurd (on_restore h) (by decide)) σ a h
  refine ⟨r2.2, a', ?_, q5⟩
  unfold p_lc_38
  rw [q1, bS, q2, bS]
  exact tail_ok q3 q4

/-! PURE: farthest and longest -/
def far (G : Row) (k : Nat) : Nat → Nat → Nat → Nat → Nat
  | 0, _, b, _ => b
  | m + 1, i, b, mo => if (path G k i).length ≤ mo + 1 then far G k m (i + 1) b mo else far G k m (i + 1) i ((path G k i).length - 1)
section FA
variable {G : Row} {n : Nat}
theorem sub1_le {l mo : Nat} (h1 : l < 2 ^ 31) (h2 : mo < 2 ^ 31) : (nI l - 1 ≤ nI mo) ↔ l ≤ mo + 1 := by
  cases l with
  | zero =>
    have : nI 0 - 1 ≤ nI mo := Int32.le_of_lt (lt_m1 (nI_pos h2))
    exact ⟨fun _ => by omega, fun _ => this⟩
  | succ l =>
    rw [nI_pred]
    rw [nI_leI (by omega) h2]
    omega
theorem far_lt (k : Nat) (hk : k < n) : ∀ m i b mo, i + m ≤ n → b < n → far G k m i b mo < n := by
  intro m
  induction m with
  | zero => intro i b mo _ hb; exact hb
  | succ m ih =>
    intro i b mo hi hb
    simp only [far]
    split
    · exact ih _ _ _ (by omega) hb
    · exact ih _ _ _ (by omega) (by omega)
theorem c_far (hI : Inv G n) {k : Nat} (hk : k < n) : ∀ m i b mo fuel (σ : Sg), CR σ 0 G → i + m = n → m < fuel → mo < 12 → ∃ σ', p_X6_farthestFrom_L7 fuel (nI k) (nI b) (nI mo) (nI i) σ = some (nI (far G k m i b mo), σ') ∧ Fr [14, 15] σ σ' := by
  have hn := hI.1
  intro m
  induction m with
  | zero =>
    intro i b mo fuel σ hC h1 h2 h3
    obtain ⟨fuel, rfl⟩ : ∃ z, fuel = z + 1 := ⟨fuel - 1, by omega⟩
    refine ⟨σ, ?_, Fr.refl⟩
    rw [p_X6_farthestFrom_L7, p_X1_farms, bS, hC.1, hI.2.1, if_pos (nI_le (by omega) (by omega))]
    rfl
  | succ m ih =>
    intro i b mo fuel σ hC h1 h2 h3
    obtain ⟨fuel, rfl⟩ : ∃ z, fuel = z + 1 := ⟨fuel - 1, by omega⟩
    obtain ⟨σ1, e1, f1, w1, -, hl⟩ := c_follow hC hI hk (show i < n by omega)
    have hC1 : CR σ1 0 G := hC.fr f1 (by decide) (by decide) (by decide) (by decide) (by decide)
    by_cases hc : (path G k i).length ≤ mo + 1
    · obtain ⟨σ', e2, f2⟩ := ih (i + 1) b mo fuel σ1 hC1 (by omega) (by omega) h3
      refine ⟨σ', ?_, f1.trans f2⟩
      rw [p_X6_farthestFrom_L7, p_X1_farms, bS, hC.1, hI.2.1, if_neg (nI_ge (by omega) (by omega)), e1, bS, p_X5_tracks, bS, w1.1, if_pos ((sub1_le (by omega) (by omega)).mpr hc), nI_1, e2, far, if_pos hc]
    · obtain ⟨σ', e2, f2⟩ := ih (i + 1) i ((path G k i).length - 1) fuel σ1 hC1 (by omega) (by omega) (by omega)
      refine ⟨σ', ?_, f1.trans f2⟩
      rw [p_X6_farthestFrom_L7, p_X1_farms, bS, hC.1, hI.2.1, if_neg (nI_ge (by omega) (by omega)), e1, bS, p_X5_tracks, bS, w1.1, if_neg (fun q => hc ((sub1_le (by omega) (by omega)).mp q)), bS, nI_1, show nI (path G k i).length - 1 = nI ((path G k i).length - 1) from pk_sub (b := 1) (by omega), e2, far, if_neg hc]
theorem m_far (hI : Inv G n) {k : Nat} (hk : k < n) : ∀ m i b mo fuel (σ : Sg), MR σ G → i + m = n → m < fuel → mo < 12 → ∃ σ', p_X7_farthestOf_L7 fuel (nI k) (nI b) (nI mo) (nI i) σ = some (nI (far G k m i b mo), σ') ∧ Fm [27] [(20, 18)] σ σ' := by
  have hn := hI.1
  intro m
  induction m with
  | zero =>
    intro i b mo fuel σ hM h1 h2 h3
    obtain ⟨fuel, rfl⟩ : ∃ z, fuel = z + 1 := ⟨fuel - 1, by omega⟩
    have h0 : gA σ 21 0 0 = nI n := (hM 0 (by omega)).trans hI.2.1
    refine ⟨σ, ?_, Fm.refl⟩
    rw [p_X7_farthestOf_L7, h0, if_pos (nI_le (by omega) (by omega))]
    rfl
  | succ m ih =>
    intro i b mo fuel σ hM h1 h2 h3
    obtain ⟨fuel, rfl⟩ : ∃ z, fuel = z + 1 := ⟨fuel - 1, by omega⟩
    have h0 : gA σ 21 0 0 = nI n := (hM 0 (by omega)).trans hI.2.1
    have hi : i < n := by omega
    have hl := path_le hI hk hi
    have hjs : joined G i k = joined G k i := by
      simp only [joined]
      exact decide_eq_decide.mpr ⟨Eq.symm, Eq.symm⟩
    cases hj : joined G k i with
    | false =>
      have hz := (path_nil hI hk hi).mpr hj
      obtain ⟨σ', e2, f2⟩ := ih (i + 1) b mo fuel σ hM (by omega) (by omega) h3
      refine ⟨σ', ?_, f2⟩
      rw [p_X7_farthestOf_L7, h0, if_neg (nI_ge hi (by omega)), m_areJoined hM hI hi hk, bS, hjs, hj, if_pos (show b01 false = 0 from rfl), if_neg (nI_pos (by omega)), nI_1, e2, far, if_pos (by omega)]
    | true =>
      obtain ⟨σ1, e1, f1, p1⟩ := m_goes hM hI hk hi hj
      have hM1 : MR σ1 G := hM.fm f1 (by decide)
      have hp := path_pos hI hk hi hj
      have e3 : p_X7_tracks (nI k) (nI i) σ = some (nI ((path G k i).length - 1), σ1) := by
        unfold p_X7_tracks
        rw [e1, bS, p1.1, show nI (path G k i).length - 1 = nI ((path G k i).length - 1) from pk_sub (b := 1) (by omega)]
      by_cases hc : (path G k i).length ≤ mo + 1
      · obtain ⟨σ', e2, f2⟩ := ih (i + 1) b mo fuel σ1 hM1 (by omega) (by omega) h3
        refine ⟨σ', ?_, f1.trans f2⟩
        rw [p_X7_farthestOf_L7, h0, if_neg (nI_ge hi (by omega)), m_areJoined hM hI hi hk, bS, hjs, hj, if_neg (show ¬ b01 true = 0 by decide), e3, bS, if_neg (nI_nlt (by omega) (by omega)), nI_1, e2, far, if_pos hc]
      · obtain ⟨σ', e2, f2⟩ := ih (i + 1) i ((path G k i).length - 1) fuel σ1 hM1 (by omega) (by omega) (by omega)
        refine ⟨σ', ?_, f1.trans f2⟩
        rw [p_X7_farthestOf_L7, h0, if_neg (nI_ge hi (by omega)), m_areJoined hM hI hi hk, bS, hjs, hj, if_neg (show ¬ b01 true = 0 by decide), e3, bS, if_pos (nI_lt (by omega) (by omega)), nI_1, e2, far, if_neg hc]
def farF (G : Row) (n k : Nat) : Nat := far G k n 0 k 0
theorem farF_lt {k : Nat} (hk : k < n) : farF G n k < n := far_lt k hk n 0 k 0 (by omega) hk
theorem c_farF {σ : Sg} (hC : CR σ 0 G) (hI : Inv G n) {k : Nat} (hk : k < n) : ∃ σ', p_X6_farthestFrom (nI k) σ = some (nI (farF G n k), σ') ∧ Fr [14, 15] σ σ' := by
  have hn := hI.1
  exact c_far hI hk n 0 k 0 400 σ hC (by omega) (by omega) (by omega)
theorem m_farF {σ : Sg} (hM : MR σ G) (hI : Inv G n) {k : Nat} (hk : k < n) : ∃ σ', p_X7_farthestOf (nI k) σ = some (nI (farF G n k), σ') ∧ Fm [27] [(20, 18)] σ σ' := by
  have hn := hI.1
  exact m_far hI hk n 0 k 0 400 σ hM (by omega) (by omega) (by omega)
end FA
theorem cmd_farthest (v : Int32) : Cmd (p_X6_farthest v) (p_X7_farthest v) (e12 eIO eNS) := by
  refine farm_cmd (v := v) rfl (fun σ h => by unfold p_X6_farthest; rw [h, bS, smR]) (fun σ h => by unfold p_X7_farthest; rw [h, bS, if_pos rfl, mf1, bS, if_neg (show ¬ (1 : Int32) = 0 by decide)]; exact ⟨_, rfl⟩) ?_
  rintro G n k hI hk rfl
  refine ⟨.inl (nI (farF G n k)), fun σ hC h => ?_, fun σ hM h => ?_⟩
  · obtain ⟨σ1, e1, f1⟩ := c_farF hC hI hk
    refine ⟨σ1, ?_, f1.mono (by simp)⟩
    unfold p_X6_farthest
    rw [h, bS, smL, e1, bS]
    rfl
  · obtain ⟨σ1, e1, f1⟩ := m_farF (hM.s8 (c := 0)) hI hk
    refine ⟨_, σ1, ?_, f8.trans (f1.mono (by simp) (by simp)), ⟨rfl, (f1.1 20 0 8 (by simp)).trans (s8g σ 0)⟩⟩
    unfold p_X7_farthest
    rw [h, bS, if_neg (show ¬ (1 : Int32) = 0 by decide), mf0, bS, if_pos rfl, e1, bS]
theorem joined_far {G : Row} {n : Nat} (hI : Inv G n) {k : Nat} (hk : k < n) : joined G k (farF G n k) = true := by
  have key : ∀ m i b mo, i + m ≤ n → joined G k b = true → joined G k (far G k m i b mo) = true := by
    intro m
    induction m with
    | zero => intro i b mo _ h; exact h
    | succ m ih =>
      intro i b mo hi h
      simp only [far]
      split
      · exact ih _ _ _ (by omega) h
      · rename_i hc
        refine ih _ _ _ (by omega) ?_
        cases hj : joined G k i with
        | true => rfl
        | false => have := (path_nil hI hk (show i < n by omega)).mpr hj; omega
  exact key n 0 k 0 (by omega) (by simp [joined])
theorem cmd_longest (v : Int32) : Cmd (p_X6_longest v) (p_X7_longest v) (e12 eIO eNS) := by
  refine farm_cmd (v := v) rfl (fun σ h => by unfold p_X6_longest; rw [h, bS, smR]) (fun σ h => by unfold p_X7_longest; rw [h, bS, if_pos rfl, mf1, bS, if_neg (show ¬ (1 : Int32) = 0 by decide)]; exact ⟨_, rfl⟩) ?_
  rintro G n k hI hk rfl
  have h1 := farF_lt (G := G) hk
  have h2 := farF_lt (G := G) h1
  have hj := joined_far hI h1
  refine ⟨.inl (nI (path G (farF G n k) (farF G n (farF G n k))).length - 1), fun σ hC h => ?_, fun σ hM h => ?_⟩
  · obtain ⟨σ1, e1, f1⟩ := c_farF hC hI hk
    have hC1 : CR σ1 0 G := hC.fr f1 (by decide) (by decide) (by decide) (by decide) (by decide)
    obtain ⟨σ2, e2, f2⟩ := c_farF hC1 hI h1
    have hC2 : CR σ2 0 G := hC1.fr f2 (by decide) (by decide) (by decide) (by decide) (by decide)
    obtain ⟨σ3, e3, f3, w3, -, -⟩ := c_follow hC2 hI h1 h2
    refine ⟨σ3, ?_, ((f1.trans f2).trans f3).mono (by simp)⟩
    unfold p_X6_longest
    rw [h, bS, smL, e1, bS, e2, bS, e3, bS, p_X5_tracks, bS, w3.1]
    rfl
  · obtain ⟨σ1, e1, f1⟩ := m_farF (hM.s8 (c := 0)) hI hk
    have hM1 : MR σ1 G := (hM.s8 (c := 0)).fm f1 (by decide)
    obtain ⟨σ2, e2, f2⟩ := m_farF hM1 hI h1
    have hM2 : MR σ2 G := hM1.fm f2 (by decide)
    obtain ⟨σ3, e3, f3, p3⟩ := m_goes hM2 hI h1 h2 hj
    have f := (f1.trans f2).trans f3
    refine ⟨_, σ3, ?_, f8.trans (f.mono (by simp) (by simp)), ⟨rfl, (f.1 20 0 8 (by simp)).trans (s8g σ 0)⟩⟩
    unfold p_X7_longest
    rw [h, bS, if_neg (show ¬ (1 : Int32) = 0 by decide), mf0, bS, if_pos rfl, e1, bS, e2, bS, p_X7_tracks, e3, bS, bS, p3.1]

/-! PURE: the calls that ask of one or two farms -/
theorem s8g (σ : Sg) (c : Int32) : gI (sI σ 20 0 8 c) 20 0 8 = c := by rw [gI_sI, if_pos ⟨rfl, rfl, rfl⟩]
theorem MR.s8 {σ : Sg} {G : Row} {c : Int32} (hM : MR σ G) : MR (sI σ 20 0 8 c) G := hM.fm (Fm.sI (A := []) (I := [(20, 8)]) (by simp)) (by decide)
theorem farm_cmd {v : Int32} {pc : Sg → Option ((Int32 ⊕ String) × Sg)} {pm : Sg → Option (Int32 × Sg)} {e : Nat → String} (he : e 1 = eIO)
    (hc1 : ∀ σ, p_X6_requireFarm v σ = some (.inr eIO, σ) → pc σ = some (.inr eIO, σ)) (hm1 : ∀ σ, p_X7_isFarm v σ = some 0 → ∃ x, pm σ = some (x, sI σ 20 0 8 1))
    (body : ∀ (G : Row) (n k : Nat), Inv G n → k < n → v = nI k → ∃ o : Out, (∀ σ, CR σ 0 G → p_X6_requireFarm v σ = some (.inl 0, σ) → ∃ σ2, pc σ = some (oC o e, σ2) ∧ Fr [14, 15, 16] σ σ2) ∧
      (∀ σ, MR σ G → p_X7_isFarm v σ = some 1 → ∃ x σ2, pm σ = some (x, σ2) ∧ Fm [27] [(20, 8), (20, 18)] σ σ2 ∧ oM o x σ2)) : Cmd pc pm e := by
  intro a hA
  obtain ⟨⟨⟨G, n⟩, rest⟩, hA⟩ : ∃ b : AS, AInv b ∧ b = a := ⟨a, hA, rfl⟩
  have hI : Inv G n := hA.1.1
  obtain ⟨hA, rfl⟩ := hA
  cases hff : isF n v with
  | false =>
    refine ⟨.inr 1, _, hA, fun σ hC => ?_, fun σ hM => ?_⟩
    · have h := c_req (show CR σ 0 G from hC.1) hI v
      rw [hff] at h
      refine simC_same (S := []) hC ((hc1 σ h).trans ?_) Fr.refl (by simp)
      simp only [oC, he]
    · have h := m_isFarm (show MR σ G from hM.1) hI v
      rw [hff] at h
      obtain ⟨x, hx⟩ := hm1 σ h
      exact simM_same hM hx (Fm.sI (A := []) (I := [(20, 8)]) (by simp)) sc2 ⟨s8g _ _, Or.inl rfl⟩
  | true =>
    obtain ⟨k, hk, rfl⟩ := isF_of hI.1 hff
    obtain ⟨o, b1, b2⟩ := body G n k hI hk rfl
    refine ⟨o, _, hA, fun σ hC => ?_, fun σ hM => ?_⟩
    · have h := c_req (show CR σ 0 G from hC.1) hI (nI k)
      rw [hff] at h
      obtain ⟨σ2, g1, g2⟩ := b1 σ hC.1 h
      exact simC_same hC g1 g2 (by simp)
    · have h := m_isFarm (show MR σ G from hM.1) hI (nI k)
      rw [hff] at h
      obtain ⟨x, σ2, g1, g2, g3⟩ := b2 σ hM.1 h
      exact simM_same hM g1 g2 sc1 g3
theorem farm2_cmd {v w : Int32} {pc : Sg → Option ((Int32 ⊕ String) × Sg)} {pm : Sg → Option (Int32 × Sg)} {e : Nat → String} (he : e 1 = eIO)
    (hc1 : ∀ σ, p_X6_requireFarm v σ = some (.inr eIO, σ) → pc σ = some (.inr eIO, σ)) (hc2 : ∀ σ, p_X6_requireFarm v σ = some (.inl 0, σ) → p_X6_requireFarm w σ = some (.inr eIO, σ) → pc σ = some (.inr eIO, σ)) (hm1 : ∀ σ, p_X7_areFarms v w σ = some 0 → ∃ x, pm σ = some (x, sI σ 20 0 8 1))
    (body : ∀ (G : Row) (n k j : Nat), Inv G n → k < n → j < n → v = nI k → w = nI j → ∃ o : Out, (∀ σ, CR σ 0 G → p_X6_requireFarm v σ = some (.inl 0, σ) → p_X6_requireFarm w σ = some (.inl 0, σ) → ∃ σ2, pc σ = some (oC o e, σ2) ∧ Fr [14, 15, 16] σ σ2) ∧
      (∀ σ, MR σ G → p_X7_areFarms v w σ = some 1 → ∃ x σ2, pm σ = some (x, σ2) ∧ Fm [27] [(20, 8), (20, 18)] σ σ2 ∧ oM o x σ2)) : Cmd pc pm e := by
  intro a hA
  obtain ⟨⟨⟨G, n⟩, rest⟩, hA⟩ : ∃ b : AS, AInv b ∧ b = a := ⟨a, hA, rfl⟩
  have hI : Inv G n := hA.1.1
  obtain ⟨hA, rfl⟩ := hA
  cases hff : isF n v && isF n w with
  | false =>
    refine ⟨.inr 1, _, hA, fun σ hC => ?_, fun σ hM => ?_⟩
    · have h := c_req (show CR σ 0 G from hC.1) hI v
      have h2 := c_req (show CR σ 0 G from hC.1) hI w
      refine simC_same (S := []) hC (?_ : pc σ = _) Fr.refl (by simp)
      simp only [oC, he]
      cases hv : isF n v with
      | false => rw [hv] at h; exact hc1 σ h
      | true =>
        rw [hv] at h hff
        rw [Bool.true_and] at hff
        rw [hff] at h2
        exact hc2 σ h h2
    · have h := m_areFarms (show MR σ G from hM.1) hI v w
      rw [hff] at h
      obtain ⟨x, hx⟩ := hm1 σ h
      exact simM_same hM hx (Fm.sI (A := []) (I := [(20, 8)]) (by simp)) sc2 ⟨s8g _ _, Or.inl rfl⟩
  | true =>
    have h2 : isF n v = true ∧ isF n w = true := by simpa using hff
    obtain ⟨k, hk, rfl⟩ := isF_of hI.1 h2.1
    obtain ⟨j, hj, rfl⟩ := isF_of hI.1 h2.2
    obtain ⟨o, b1, b2⟩ := body G n k j hI hk hj rfl rfl
    refine ⟨o, _, hA, fun σ hC => ?_, fun σ hM => ?_⟩
    · have h := c_req (show CR σ 0 G from hC.1) hI (nI k)
      have h3 := c_req (show CR σ 0 G from hC.1) hI (nI j)
      rw [h2.1] at h
      rw [h2.2] at h3
      obtain ⟨σ2, g1, g2⟩ := b1 σ hC.1 h h3
      exact simC_same hC g1 g2 (by simp)
    · have h := m_areFarms (show MR σ G from hM.1) hI (nI k) (nI j)
      rw [hff] at h
      obtain ⟨x, σ2, g1, g2, g3⟩ := b2 σ hM.1 h
      exact simM_same hM g1 g2 sc1 g3
theorem mf1 (σ : Sg) : p_X7_fails 1 σ = some (1, sI σ 20 0 8 1) := m_fails 1
theorem mf2 (σ : Sg) : p_X7_fails 2 σ = some (1, sI σ 20 0 8 2) := m_fails 2
theorem mf0 (σ : Sg) : p_X7_fails 0 σ = some (0, sI σ 20 0 8 0) := m_fails 0
theorem f8 {A : List Nat} {σ : Sg} {c : Int32} : Fm A [(20, 8), (20, 18)] σ (sI σ 20 0 8 c) := Fm.sI (by simp)
theorem cmd_size (v : Int32) : Cmd (p_X6_size v) (p_X7_size v) (e12 eIO eNS) := by
  refine farm_cmd (v := v) rfl (fun σ h => by unfold p_X6_size; rw [h]; rfl) (fun σ h => by unfold p_X7_size; rw [h]; simp only [Option.bind_some, if_true, mf1]; exact ⟨_, rfl⟩) ?_
  rintro G n k hI hk rfl
  refine ⟨.inl (nI (sizN G n k)), fun σ hC h => ⟨σ, ?_, Fr.refl⟩, fun σ hM h => ⟨_, _, ?_, f8, ⟨rfl, s8g _ 0⟩⟩⟩
  · unfold p_X6_size
    rw [h]
    simp only [Option.bind_some, sm]
    rw [c_treeSizeOf hC hI hk]; rfl
  · unfold p_X7_size
    rw [h]
    simp only [Option.bind_some, mf0, if_true]
    rw [if_neg (by decide), m_sizeOf hM.s8 hI hk]
    rfl
theorem nb_b01 (b : Bool) : nb (b01 b) = b01 b := nb01 b
theorem cmd_isJoined (v w : Int32) : Cmd (p_X6_isJoined v w) (p_X7_isJoined v w) (e12 eIO eNS) := by
  refine farm2_cmd (v := v) (w := w) rfl (fun σ h => by unfold p_X6_isJoined; rw [h]; rfl) (fun σ h h2 => by unfold p_X6_isJoined; rw [h]; simp only [Option.bind_some, sm]; rw [h2]; rfl) (fun σ h => by unfold p_X7_isJoined; rw [h]; simp only [Option.bind_some, if_true, mf1]; exact ⟨_, rfl⟩) ?_
  rintro G n k j hI hk hj rfl rfl
  refine ⟨.inl (b01 (joined G k j)), fun σ hC h h2 => ⟨σ, ?_, Fr.refl⟩, fun σ hM h => ⟨_, _, ?_, f8, ⟨rfl, s8g _ 0⟩⟩⟩
  · unfold p_X6_isJoined
    rw [h]
    simp only [Option.bind_some, sm]
    rw [h2]
    simp only [Option.bind_some, sm]
    rw [c_areJoined hC hI hk hj]
    simp only [Option.bind_some, nb_b01]
    rfl
  · unfold p_X7_isJoined
    rw [h]
    simp only [Option.bind_some, mf0, if_true]
    rw [if_neg (by decide), m_areJoined hM.s8 hI hk hj]
    simp only [Option.bind_some]
    cases joined G k j <;> simp [b01]
theorem cmd_isTrack (v w : Int32) : Cmd (p_X6_isTrack v w) (p_X7_isTrack v w) (e12 eIO eNS) := by
  refine farm2_cmd (v := v) (w := w) rfl (fun σ h => by unfold p_X6_isTrack; rw [h]; rfl) (fun σ h h2 => by unfold p_X6_isTrack; rw [h]; simp only [Option.bind_some, sm]; rw [h2]; rfl) (fun σ h => by unfold p_X7_isTrack; rw [h]; simp only [Option.bind_some, if_true, mf1]; exact ⟨_, rfl⟩) ?_
  rintro G n k j hI hk hj rfl rfl
  refine ⟨.inl (b01 (decide (G (20 + k) = nI j ∨ G (20 + j) = nI k))), fun σ hC h h2 => ⟨σ, ?_, Fr.refl⟩, fun σ hM h => ⟨_, _, ?_, f8, ⟨rfl, s8g _ 0⟩⟩⟩
  · unfold p_X6_isTrack
    rw [h]
    simp only [Option.bind_some, sm]
    rw [h2]
    simp only [Option.bind_some, sm]
    rw [c_hasTrack hC hI hk hj]
    simp only [Option.bind_some, nb_b01]
    rfl
  · unfold p_X7_isTrack
    rw [h]
    simp only [Option.bind_some, mf0, if_true]
    rw [if_neg (by decide), m_isLaid hM.s8 hI hk hj]
    simp only [Option.bind_some]
    cases decide (G (20 + k) = nI j ∨ G (20 + j) = nI k) <;> simp [b01]
theorem chOf_lt {G : Row} {n a b : Nat} (ha : a < n) (hb : b < n) : chOf G a b < n := by unfold chOf; split <;> assumption
theorem cmd_wouldSplit (v w : Int32) : Cmd (p_X6_wouldSplit v w) (p_X7_wouldSplit v w) (e12 eIO eNS) := by
  refine farm2_cmd (v := v) (w := w) rfl (fun σ h => by unfold p_X6_wouldSplit; rw [h]; rfl) (fun σ h h2 => by unfold p_X6_wouldSplit; rw [h]; simp only [Option.bind_some, sm]; rw [h2]; rfl) (fun σ h => by unfold p_X7_wouldSplit; rw [h]; simp only [Option.bind_some, if_true, mf1]; exact ⟨_, rfl⟩) ?_
  rintro G n k j hI hk hj rfl rfl
  have hn := hI.1
  cases ht : decide (G (20 + k) = nI j ∨ G (20 + j) = nI k) with
  | false =>
    refine ⟨.inr 2, fun σ hC h h2 => ⟨σ, ?_, Fr.refl⟩, fun σ hM h => ⟨0, _, ?_, f8, ⟨s8g _ 2, Or.inr rfl⟩⟩⟩
    · unfold p_X6_wouldSplit
      rw [h]
      simp only [Option.bind_some, sm]
      rw [h2]
      simp only [Option.bind_some, sm]
      rw [c_hasTrack hC hI hk hj, ht]
      rfl
    · unfold p_X7_wouldSplit
      rw [h]
      simp only [Option.bind_some]
      rw [if_neg (by decide), m_isLaid hM hI hk hj, ht]
      simp [b01, mf2]
  | true =>
    refine ⟨.inl (nI (behN G n (chOf G k j)) * (nI (sizN G n k) - nI (behN G n (chOf G k j)))), fun σ hC h h2 => ⟨σ, ?_, Fr.refl⟩, fun σ hM h => ⟨_, _, ?_, f8, ⟨rfl, s8g _ 0⟩⟩⟩
    · unfold p_X6_wouldSplit
      rw [h]
      simp only [Option.bind_some, sm]
      rw [h2]
      simp only [Option.bind_some, sm]
      rw [c_hasTrack hC hI hk hj, ht]
      simp only [Option.bind_some]
      rw [if_neg (by decide), c_childOf hC (by omega)]
      simp only [Option.bind_some]
      rw [c_behindOf hC hI (chOf_lt hk hj), c_treeSizeOf hC hI hk]
      rfl
    · unfold p_X7_wouldSplit
      rw [h]
      simp only [Option.bind_some]
      rw [if_neg (by decide), m_isLaid hM hI hk hj, ht]
      simp only [Option.bind_some, mf0]
      rw [if_neg (by decide), if_pos trivial, m_childOf hM.s8 (by omega)]
      simp only [Option.bind_some]
      rw [m_behind hM.s8 hI (chOf_lt hk hj), m_sizeOf hM.s8 hI hk]
      rfl
def eIA : String := "java/lang/IllegalArgumentException"
/-- what farmOf answers -/
def fo (G : Row) (n k j : Nat) : Int32 := if j = 0 then G (8 + k) else if j = 1 then G (20 + k) else if j = 2 then G (32 + k) else if j = 3 then nI (depN G k) else if j = 4 then nI (chN G n k) else if j = 5 then nI (behN G n k) else nI (rootN G k)
theorem c7 (x : Int32) : (∃ j, j < 7 ∧ x = nI j) ∨ ((¬ x = 0 ∧ ¬ x = 1 ∧ ¬ x = 2 ∧ ¬ x = 3 ∧ ¬ x = 4 ∧ ¬ x = 5 ∧ ¬ x = 6) ∧ isF 7 x = false) := by
  have hl : ∀ j, j < 7 → x = nI j → (∃ j, j < 7 ∧ x = nI j) := fun j hj h => ⟨j, hj, h⟩
  by_cases h : ∃ j, j < 7 ∧ x = nI j
  · exact Or.inl h
  · refine Or.inr ⟨⟨fun e => h ⟨0, by omega, e⟩, fun e => h ⟨1, by omega, e⟩, fun e => h ⟨2, by omega, e⟩, fun e => h ⟨3, by omega, e⟩, fun e => h ⟨4, by omega, e⟩, fun e => h ⟨5, by omega, e⟩, fun e => h ⟨6, by omega, e⟩⟩, ?_⟩
    cases hq : isF 7 x with
    | false => rfl
    | true => exact absurd (isF_of (by omega) hq) h
theorem m_inN {σ : Sg} {v M : Int32} (N : Nat) (hN : N ≤ 12) (hM : M = nI N - 1) : p_X7_in v 0 M σ = some (b01 (isF N v)) := by rw [hM]; exact m_in (by omega)
theorem cmd_farmOf (v w : Int32) : Cmd (p_X6_farmOf v w) (p_X7_farmOf v w) (e12 eIO eIA) := by
  refine farm_cmd (v := v) rfl (fun σ h => by unfold p_X6_farmOf; rw [h]; rfl) (fun σ h => by unfold p_X7_farmOf; rw [h]; simp only [Option.bind_some, if_true, mf1]; exact ⟨_, rfl⟩) ?_
  rintro G n k hI hk rfl
  have hn := hI.1
  rcases c7 w with ⟨j, hj, rfl⟩ | ⟨⟨w0, w1, w2, w3, w4, w5, w6⟩, hw⟩
  · refine ⟨.inl (fo G n k j), fun σ hC h => ⟨σ, ?_, Fr.refl⟩, fun σ hM h => ⟨fo G n k j, sI σ 20 0 8 0, ?_, f8, ⟨rfl, s8g _ 0⟩⟩⟩
    · unfold p_X6_farmOf
      rw [h]
      simp only [Option.bind_some, sm]
      rcases (show j = 0 ∨ j = 1 ∨ j = 2 ∨ j = 3 ∨ j = 4 ∨ j = 5 ∨ j = 6 by omega) with rfl | rfl | rfl | rfl | rfl | rfl | rfl
      · rw [if_pos (by decide), c_tollOf hC (by omega)]; rfl
      · rw [if_neg (by decide), if_pos (by decide), c_parentOf hC (by omega)]; rfl
      · rw [if_neg (by decide), if_neg (by decide), if_pos (by decide), c_preferredOf hC (by omega)]; rfl
      · rw [if_neg (by decide), if_neg (by decide), if_neg (by decide), if_pos (by decide), c_depthOf hC hI hk]; rfl
      · rw [if_neg (by decide), if_neg (by decide), if_neg (by decide), if_neg (by decide), if_pos (by decide), c_childrenOf hC hI hk]; rfl
      · rw [if_neg (by decide), if_neg (by decide), if_neg (by decide), if_neg (by decide), if_neg (by decide), if_pos (by decide), c_behindOf hC hI hk]; rfl
      · rw [if_neg (by decide), if_neg (by decide), if_neg (by decide), if_neg (by decide), if_neg (by decide), if_neg (by decide), if_pos (by decide), c_rootOf hC hI hk]; rfl
    · unfold p_X7_farmOf
      rw [h]
      simp only [Option.bind_some]
      rw [if_neg (by decide), m_inN 7 (by omega) (by decide), isF_nI hj (by omega)]
      simp only [Option.bind_some, mf0]
      rw [if_neg (by decide), if_pos trivial]
      have hM8 : MR (sI σ 20 0 8 0) G := hM.s8
      rcases (show j = 0 ∨ j = 1 ∨ j = 2 ∨ j = 3 ∨ j = 4 ∨ j = 5 ∨ j = 6 by omega) with rfl | rfl | rfl | rfl | rfl | rfl | rfl
      · rw [if_pos (by decide), m_toll hM8 (by omega)]; rfl
      · rw [if_neg (by decide), if_pos (by decide), m_parent hM8 (by omega)]; rfl
      · rw [if_neg (by decide), if_neg (by decide), if_pos (by decide), m_prefers hM8 (by omega)]; rfl
      · rw [if_neg (by decide), if_neg (by decide), if_neg (by decide), if_pos (by decide), m_depth hM8 hI hk]; rfl
      · rw [if_neg (by decide), if_neg (by decide), if_neg (by decide), if_neg (by decide), if_pos (by decide), m_children hM8 hI hk]; rfl
      · rw [if_neg (by decide), if_neg (by decide), if_neg (by decide), if_neg (by decide), if_neg (by decide), if_pos (by decide), m_behind hM8 hI hk]; rfl
      · rw [if_neg (by decide), if_neg (by decide), if_neg (by decide), if_neg (by decide), if_neg (by decide), if_neg (by decide), m_rootOf hM8 hI hk]; rfl
  · refine ⟨.inr 2, fun σ hC h => ⟨σ, ?_, Fr.refl⟩, fun σ hM h => ⟨0, sI σ 20 0 8 2, ?_, f8, ⟨s8g _ 2, Or.inr rfl⟩⟩⟩
    · unfold p_X6_farmOf
      rw [h]
      simp only [Option.bind_some, sm]
      rw [if_neg w0, if_neg w1, if_neg w2, if_neg w3, if_neg w4, if_neg w5, if_neg w6]
      rfl
    · unfold p_X7_farmOf
      rw [h]
      simp only [Option.bind_some]
      rw [if_neg (by decide), m_inN 7 (by omega) (by decide), hw]
      simp only [Option.bind_some, mf2]
      rw [if_pos (by decide), if_neg (by decide)]

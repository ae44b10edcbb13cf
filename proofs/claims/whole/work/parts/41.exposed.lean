/-! PURE: drover, exposed, wouldChange -/
theorem c_isDrover (σ : Sg) (v : Int32) : p_X6_isDrover v σ = some (b01 (isF 3 v)) := by
  unfold p_X6_isDrover
  by_cases h1 : v < 0
  · simp [isF, h1, b01]
  · by_cases h2 : (3 : Int32) ≤ v
    · have h3 : nI 3 ≤ v := h2
      simp [isF, h1, h2, h3, b01]
    · have h3 : ¬ nI 3 ≤ v := h2
      simp [isF, h1, h2, h3, b01]
theorem cmd_drover (v : Int32) : Cmd (p_X6_drover v) (p_X7_drover v) (e12 eIO eNS) := by
  intro a hA
  obtain ⟨⟨⟨G, n⟩, rest⟩, hA⟩ : ∃ b : AS, AInv b ∧ b = a := ⟨a, hA, rfl⟩
  have hI : Inv G n := hA.1.1
  obtain ⟨hA, rfl⟩ := hA
  cases hff : isF 3 v with
  | false =>
    refine ⟨.inr 1, _, hA, fun σ hC => ?_, fun σ hM => ?_⟩
    · refine simC_same (S := []) hC (?_ : p_X6_drover v σ = _) Fr.refl (by simp)
      unfold p_X6_drover
      rw [c_isDrover, hff]
      rfl
    · refine simM_same (v := 0) hM (?_ : p_X7_drover v σ = _) (Fm.sI (A := []) (I := [(20, 8)]) (by simp)) sc2 ⟨s8g σ 1, Or.inl rfl⟩
      unfold p_X7_drover
      rw [m_inN 3 (by omega) (by decide), hff]
      simp only [Option.bind_some, mf1]
      rw [if_pos (by decide), if_neg (by decide)]
  | true =>
    obtain ⟨k, hk, rfl⟩ := isF_of (by omega) hff
    refine ⟨.inl (G (5 + k)), _, hA, fun σ hC => ?_, fun σ hM => ?_⟩
    · refine simC_same (S := []) hC (?_ : p_X6_drover (nI k) σ = _) Fr.refl (by simp)
      unfold p_X6_drover
      rw [c_isDrover, hff]
      simp only [Option.bind_some]
      rw [if_neg (by decide), c_farmOfDrover (show CR σ 0 G from hC.1) hk]
      rfl
    · refine simM_same (v := G (5 + k)) hM (?_ : p_X7_drover (nI k) σ = _) (Fm.sI (A := []) (I := [(20, 8)]) (by simp)) sc2 ⟨rfl, s8g σ 0⟩
      unfold p_X7_drover
      rw [m_inN 3 (by omega) (by decide), hff]
      simp only [Option.bind_some, mf0]
      rw [if_neg (by decide), if_pos trivial, show (5 : Int32) + nI k = nI (5 + k) from nI_add 5 k, if_pos (ib_t (by omega) (by omega)), nI_clamp (by omega)]
      have : gA (sI σ 20 0 8 0) 21 0 (5 + k) = G (5 + k) := (show MR σ G from hM.1) _ (by omega)
      rw [this]
/-- what is preferred, on and on -/
def pit (G : Row) : Nat → Int32 → Int32
  | 0, v => v
  | m + 1, v => if v < 0 then v else pit G m (G (32 + v.toNatClampNeg))
section EX
variable {σ : Sg} {G : Row} {n : Nat}
theorem pit_m1 (m : Nat) : pit G m (-1) = -1 := by
  cases m with
  | zero => rfl
  | succ m => simp [pit, neg1_lt]
theorem pit_s {k m : Nat} (hk : k < 2 ^ 31) : pit G (m + 1) (nI k) = pit G m (G (32 + k)) := by
  simp only [pit, if_neg (nI_pos hk), nI_clamp hk]
theorem pit_ok (hI : Inv G n) : ∀ (m : Nat) (v : Int32), FOk n v → FOk n (pit G m v) := by
  have hn := hI.1
  intro m
  induction m with
  | zero => intro v hv; exact hv
  | succ m ih =>
    intro v hv
    rcases hv with rfl | ⟨k, hk, rfl⟩
    · rw [pit_m1]; exact Or.inl rfl
    · rw [pit_s (by omega)]
      exact ih _ (hI.pref hk)
theorem dep_child (hI : Inv G n) {k c : Nat} (hk : k < n) (h : G (20 + c) = nI k) : depN G c = depN G k + 1 := by
  have := congrArg List.length (up_c hI hk)
  unfold depN
  rw [h, this]
  rfl
theorem pit_dep (hI : Inv G n) : ∀ (m k x : Nat), k < n → x < n → pit G m (nI k) = nI x → depN G x = depN G k + m := by
  have hn := hI.1
  intro m
  induction m with
  | zero =>
    intro k x hk hx h
    obtain rfl : k = x := nI_inj (by omega) (by omega) h
    rfl
  | succ m ih =>
    intro k x hk hx h
    rw [pit_s (by omega)] at h
    rcases hI.2.2.2.2.1 k hk with h1 | ⟨c, hc, h1, h2⟩
    · rw [h1, pit_m1] at h; exact absurd h (m1_ne (by omega))
    · rw [h1] at h
      rw [ih c x hc hx h, dep_child hI hk h2]
      omega
theorem dep_lt (hI : Inv G n) {x : Nat} (hx : x < n) : depN G x < n := by
  have h1 := up_len hI.1 hI.2.2.1 (Or.inr ⟨x, hx, rfl⟩ : FOk n (nI x))
  have h2 := congrArg List.length (up_c hI hx)
  simp only [List.length_cons] at h2
  unfold depN
  omega
theorem pit_end (hI : Inv G n) {k m : Nat} (hk : k < n) (hm : n ≤ m) : pit G m (nI k) = -1 := by
  rcases pit_ok hI m (nI k) (Or.inr ⟨k, hk, rfl⟩) with h | ⟨x, hx, h⟩
  · exact h
  · have h1 := pit_dep hI m k x hk hx h
    have h2 := dep_lt hI hx
    omega
theorem c_exL (hC : CR σ 0 G) (hI : Inv G n) {q : Nat} (hq : q < 12) : ∀ (d : Nat) (v : Int32) (s fuel : Nat), FOk n v → s + d = q → d < fuel → p_X6_exposed_L32 fuel (nI q) v (nI s) σ = some (if pit G d v = -1 then .inr eNS else .inl (pit G d v), σ) := by
  have hn := hI.1
  intro d
  induction d with
  | zero =>
    intro v s fuel hv h1 h2
    obtain ⟨fuel, rfl⟩ : ∃ z, fuel = z + 1 := ⟨fuel - 1, by omega⟩
    rw [p_X6_exposed_L32, if_pos (nI_le (by omega) (by omega))]
    by_cases h : v = -1
    · have h' : pit G 0 v = -1 := h
      rw [if_pos h, if_pos h']; rfl
    · have h' : ¬ pit G 0 v = -1 := h
      rw [if_neg h, if_neg h']; rfl
  | succ d ih =>
    intro v s fuel hv h1 h2
    obtain ⟨fuel, rfl⟩ : ∃ z, fuel = z + 1 := ⟨fuel - 1, by omega⟩
    simp only [p_X6_exposed_L32]
    rw [if_neg (nI_ge (by omega) (by omega))]
    rcases hv with rfl | ⟨k, hk, rfl⟩
    · simp [pit_m1, eNS]
    · rw [if_neg (ne_m1 (by omega)), c_preferredOf hC (by omega), bS, nI_1, pit_s (by omega)]
      exact ih _ (s + 1) fuel (hI.pref hk) (by omega) (by omega)
theorem m_exL (hM : MR σ G) (hI : Inv G n) {q : Nat} (hq : q < 2 ^ 31) : ∀ (t : Nat) (v : Int32) (s fuel : Nat), FOk n v → pit G t v = -1 → t < fuel → s ≤ q → p_X7_exposed_L31 fuel (nI q) v (nI s) σ = some (if pit G (q - s) v = -1 then (0, sI σ 20 0 8 2) else (pit G (q - s) v, sI σ 20 0 8 0)) := by
  have hn := hI.1
  have hm1 : ∀ (s fuel : Nat), s ≤ q → p_X7_exposed_L31 (fuel + 1) (nI q) (-1) (nI s) σ = some (0, sI σ 20 0 8 2) := by
    intro s fuel hs
    by_cases hqs : nI q ≤ nI s
    · rw [p_X7_exposed_L31, if_pos hqs, if_neg (nI_pos hq), if_neg (show ¬ (0 : Int32) ≤ -1 by decide), mf2, bS, if_neg (show ¬ (1 : Int32) = 0 by decide)]
    · rw [p_X7_exposed_L31, if_neg hqs, if_pos neg1_lt, if_neg (nI_pos hq), if_neg (show ¬ (0 : Int32) ≤ -1 by decide), mf2, bS, if_neg (show ¬ (1 : Int32) = 0 by decide)]
  intro t
  induction t with
  | zero =>
    intro v s fuel hv h1 h2 h3
    obtain ⟨fuel, rfl⟩ : ∃ z, fuel = z + 1 := ⟨fuel - 1, by omega⟩
    have h1 : v = -1 := h1
    subst h1
    rw [hm1 s fuel h3, pit_m1, if_pos rfl]
  | succ t ih =>
    intro v s fuel hv h1 h2 h3
    obtain ⟨fuel, rfl⟩ : ∃ z, fuel = z + 1 := ⟨fuel - 1, by omega⟩
    rcases hv with rfl | ⟨k, hk, rfl⟩
    · rw [hm1 s fuel h3, pit_m1, if_pos rfl]
    · rw [pit_s (by omega)] at h1
      by_cases hqs : q = s
      · subst hqs
        simp only [p_X7_exposed_L31, mf0, Nat.sub_self, pit]
        rw [if_pos (nI_le (Nat.le_refl _) hq), if_neg (nI_pos hq), if_pos (nI_pos' (by omega)), bS, if_neg (ne_m1 (by omega))]
        rfl
      · obtain ⟨d, hd⟩ : ∃ d, q - s = d + 1 := ⟨q - s - 1, by omega⟩
        have hd2 : q - (s + 1) = d := by omega
        rw [p_X7_exposed_L31, if_neg (nI_ge (by omega) (by omega)), if_neg (nI_pos (by omega)), m_prefers hM (by omega), bS, nI_1, ih _ (s + 1) fuel (hI.pref hk) h1 (by omega) (by omega), hd, hd2, pit_s (by omega)]
end EX
theorem cmd_exposed (v w : Int32) : Cmd (p_X6_exposed v w) (p_X7_exposed v w) (e12 eIO eNS) := by
  refine farm_cmd (v := v) rfl (fun σ h => by unfold p_X6_exposed; rw [h, bS, smR]) (fun σ h => by unfold p_X7_exposed; rw [h, bS, if_pos rfl, mf1, bS, if_neg (show ¬ (1 : Int32) = 0 by decide)]; exact ⟨_, rfl⟩) ?_
  rintro G n k hI hk rfl
  have hn := hI.1
  have hr := root_lt hI hk
  have fr : FOk n (nI (rootN G k)) := Or.inr ⟨_, hr, rfl⟩
  have hend := pit_end hI hr (Nat.le_refl n)
  by_cases hw : w < 0
  · have hF : isF n w = false := by simp [isF, hw]
    refine ⟨.inr 2, fun σ hC h => ⟨σ, ?_, Fr.refl⟩, fun σ hM h => ⟨0, sI (sI σ 20 0 8 0) 20 0 8 2, ?_, f8.trans f8, ⟨s8g _ 2, Or.inr rfl⟩⟩⟩
    · unfold p_X6_exposed
      rw [h, bS, smL, c_has hC hI, hF, bS, if_pos (show b01 false = 0 from rfl), p_X6_exposed_L32]
      simp only [if_true]
      split <;> rfl
    · unfold p_X7_exposed
      rw [h, bS, if_neg (show ¬ (1 : Int32) = 0 by decide), mf0, bS, if_pos rfl, m_rootOf hM.s8 hI hk, bS, p_X7_exposed_L31, if_pos (Int32.le_of_lt hw), if_pos hw, mf2, bS, if_neg (show ¬ (1 : Int32) = 0 by decide)]
  · obtain ⟨q, hq, rfl⟩ := nI_of hw
    have hm := fun σ hM => m_exL (σ := sI σ 20 0 8 0) (G := G) (n := n) hM hI hq n (nI (rootN G k)) 0 400 fr hend (by omega) (Nat.zero_le _)
    have e8 : ∀ (σ : Sg) (c : Int32), Fm [27] [(20, 8), (20, 18)] σ (sI (sI σ 20 0 8 0) 20 0 8 c) := fun σ c => f8.trans f8
    by_cases hqn : q < n
    · by_cases hp : pit G q (nI (rootN G k)) = -1
      · refine ⟨.inr 2, fun σ hC h => ⟨σ, ?_, Fr.refl⟩, fun σ hM h => ⟨0, sI (sI σ 20 0 8 0) 20 0 8 2, ?_, e8 σ 2, ⟨s8g _ 2, Or.inr rfl⟩⟩⟩
        · have h9 := c_exL hC hI (show q < 12 by omega) q (nI (rootN G k)) 0 400 fr (by omega) (by omega)
          rw [if_pos hp, show nI 0 = (0 : Int32) from rfl] at h9
          unfold p_X6_exposed
          rw [h, bS, smL, c_has hC hI, isF_nI hqn hn, bS, if_neg (show ¬ b01 true = 0 by decide), c_rootOf hC hI hk, bS, h9]
          rfl
        · have h9 := hm σ hM.s8
          rw [Nat.sub_zero, if_pos hp, show nI 0 = (0 : Int32) from rfl] at h9
          unfold p_X7_exposed
          rw [h, bS, if_neg (show ¬ (1 : Int32) = 0 by decide), mf0, bS, if_pos rfl, m_rootOf hM.s8 hI hk, bS, h9]
      · refine ⟨.inl (pit G q (nI (rootN G k))), fun σ hC h => ⟨σ, ?_, Fr.refl⟩, fun σ hM h => ⟨_, sI (sI σ 20 0 8 0) 20 0 8 0, ?_, e8 σ 0, ⟨rfl, s8g _ 0⟩⟩⟩
        · have h9 := c_exL hC hI (show q < 12 by omega) q (nI (rootN G k)) 0 400 fr (by omega) (by omega)
          rw [if_neg hp, show nI 0 = (0 : Int32) from rfl] at h9
          unfold p_X6_exposed
          rw [h, bS, smL, c_has hC hI, isF_nI hqn hn, bS, if_neg (show ¬ b01 true = 0 by decide), c_rootOf hC hI hk, bS, h9]
          rfl
        · have h9 := hm σ hM.s8
          rw [Nat.sub_zero, if_neg hp, show nI 0 = (0 : Int32) from rfl] at h9
          unfold p_X7_exposed
          rw [h, bS, if_neg (show ¬ (1 : Int32) = 0 by decide), mf0, bS, if_pos rfl, m_rootOf hM.s8 hI hk, bS, h9]
    · have hF : isF n (nI q) = false := by simp [isF, nI_le (show n ≤ q by omega) hq]
      have hp := pit_end hI hr (show n ≤ q by omega)
      refine ⟨.inr 2, fun σ hC h => ⟨σ, ?_, Fr.refl⟩, fun σ hM h => ⟨0, sI (sI σ 20 0 8 0) 20 0 8 2, ?_, e8 σ 2, ⟨s8g _ 2, Or.inr rfl⟩⟩⟩
      · unfold p_X6_exposed
        rw [h, bS, smL, c_has hC hI, hF, bS, if_pos (show b01 false = 0 from rfl), p_X6_exposed_L32]
        simp only [if_true]
        split <;> rfl
      · have h9 := hm σ hM.s8
        rw [Nat.sub_zero, if_pos hp, show nI 0 = (0 : Int32) from rfl] at h9
        unfold p_X7_exposed
        rw [h, bS, if_neg (show ¬ (1 : Int32) = 0 by decide), mf0, bS, if_pos rfl, m_rootOf hM.s8 hI hk, bS, h9]

/-! PURE: ranked -/
def ky (G : Row) (n k : Nat) : Nat := ((12 - behN G n k) * 12 + depN G k) * 12 + k
def acn (G : Row) (n k : Nat) : Nat := sumf (fun o => if ky G n o < ky G n k then 1 else 0) 0 n
section RK
variable {G : Row} {n : Nat}
theorem sumf_le1 {f : Nat → Nat} (h : ∀ i, f i ≤ 1) : ∀ m i, sumf f i m ≤ m := by
  intro m
  induction m with
  | zero => intro i; simp [sumf]
  | succ m ih => intro i; have := ih (i + 1); have := h i; simp only [sumf]; omega
theorem beh_le (k : Nat) : behN G n k ≤ n := sumf_le1 (fun i => by split <;> omega) n 0
theorem ky_lt (hI : Inv G n) {k : Nat} (hk : k < n) : ky G n k < 2000 := by
  have h1 := beh_le (G := G) (n := n) k
  have h2 := dep_lt hI hk
  have hn := hI.1
  unfold ky
  omega
theorem ky_inj (hI : Inv G n) {a b : Nat} (ha : a < n) (hb : b < n) (h : ky G n a = ky G n b) : a = b := by
  have hn := hI.1
  unfold ky at h
  omega
theorem sumf_mono {f g : Nat → Nat} : ∀ m i, (∀ k, i ≤ k → k < i + m → f k ≤ g k) → sumf f i m ≤ sumf g i m := by
  intro m
  induction m with
  | zero => intro i _; simp [sumf]
  | succ m ih =>
    intro i h
    have h1 := h i (by omega) (by omega)
    have h2 := ih (i + 1) (fun k a b => h k (by omega) (by omega))
    simp only [sumf]
    omega
theorem sumf_lt {f g : Nat → Nat} : ∀ m i, (∀ k, i ≤ k → k < i + m → f k ≤ g k) → (∃ k, i ≤ k ∧ k < i + m ∧ f k < g k) → sumf f i m < sumf g i m := by
  intro m
  induction m with
  | zero => rintro i _ ⟨k, h1, h2, -⟩; omega
  | succ m ih =>
    rintro i h ⟨k, h1, h2, h3⟩
    have h4 := h i (by omega) (by omega)
    have h5 := sumf_mono m (i + 1) (fun k a b => h k (by omega) (by omega))
    simp only [sumf]
    by_cases hk : k = i
    · subst hk; omega
    · have := ih (i + 1) (fun k a b => h k (by omega) (by omega)) ⟨k, by omega, by omega, h3⟩
      omega
theorem acn_mono {a b : Nat} (ha : a < n) (h : ky G n a < ky G n b) : acn G n a < acn G n b := by
  refine sumf_lt n 0 (fun k _ _ => ?_) ⟨a, by omega, by omega, ?_⟩
  · by_cases h1 : ky G n k < ky G n a
    · rw [if_pos h1, if_pos (by omega)]; exact Nat.le_refl _
    · rw [if_neg h1]; exact Nat.zero_le _
  · rw [if_neg (by omega), if_pos h]; omega
theorem acn_inj (hI : Inv G n) {a b : Nat} (ha : a < n) (hb : b < n) (h : acn G n a = acn G n b) : a = b := by
  rcases Nat.lt_trichotomy (ky G n a) (ky G n b) with h1 | h1 | h1
  · have := acn_mono ha h1; omega
  · exact ky_inj hI ha hb h1
  · have := acn_mono hb h1; omega
theorem acn_lt {a : Nat} (ha : a < n) : acn G n a < n := by
  have h1 : sumf (fun o => if ky G n o < ky G n a then 1 else 0) 0 n < sumf (fun _ => 1) 0 n := by
    refine sumf_lt n 0 (fun k _ _ => by split <;> omega) ⟨a, by omega, by omega, ?_⟩
    rw [if_neg (by omega)]; omega
  have h2 := sumf_le1 (f := fun _ => 1) (fun _ => Nat.le_refl _) n 0
  unfold acn
  omega
theorem acn_ex (hI : Inv G n) {q : Nat} (hq : q < n) : ∃ k, k < n ∧ acn G n k = q := by
  by_cases h : ∃ k, k < n ∧ acn G n k = q
  · exact h
  · exfalso
    have hnd : ((List.range n).map (acn G n)).Nodup := by
      exact List.pairwise_map.mpr (List.Pairwise.imp_of_mem (fun {x y} hx hy hne e => hne (acn_inj hI (List.mem_range.mp hx) (List.mem_range.mp hy) e)) List.nodup_range)
    have h1 := nd_len n (q :: (List.range n).map (acn G n)) (List.nodup_cons.mpr ⟨fun hm => by
      obtain ⟨k, hk, e⟩ := List.mem_map.mp hm
      exact h ⟨k, List.mem_range.mp hk, e⟩, hnd⟩) (fun x hx => by
      rcases List.mem_cons.mp hx with rfl | hx
      · exact hq
      · obtain ⟨k, hk, rfl⟩ := List.mem_map.mp hx
        exact acn_lt (List.mem_range.mp hk))
    simp at h1
    omega
theorem c_fill (hI : Inv G n) : ∀ m i fuel (σ : Sg), CR σ 0 G → i + m = n → m < fuel → ∃ σ', p_X6_fillRankKeys_L2 fuel (nI i) σ = some σ' ∧ Fr [16] σ σ' ∧ (∀ k, k < i → gA σ' 16 0 k = gA σ 16 0 k) ∧ ∀ k, i ≤ k → k < n → gA σ' 16 0 k = nI (ky G n k) := by
  have hn := hI.1
  intro m
  induction m with
  | zero =>
    intro i fuel σ hC h1 h2
    obtain ⟨fuel, rfl⟩ : ∃ z, fuel = z + 1 := ⟨fuel - 1, by omega⟩
    refine ⟨σ, ?_, Fr.refl, fun _ _ => rfl, fun k h3 h4 => by omega⟩
    rw [p_X6_fillRankKeys_L2, p_X1_farms, bS, hC.1, hI.2.1, if_pos (nI_le (by omega) (by omega))]
  | succ m ih =>
    intro i fuel σ hC h1 h2
    obtain ⟨fuel, rfl⟩ : ∃ z, fuel = z + 1 := ⟨fuel - 1, by omega⟩
    have hi : i < n := by omega
    have hb := beh_le (G := G) (n := n) i
    have hC2 : CR (sA σ 16 0 i (nI (ky G n i))) 0 G := hC.fr (S := [16]) (Fr.sA (by simp)) (by decide) (by decide) (by decide) (by decide) (by decide)
    obtain ⟨σ', e1, f1, g1, g2⟩ := ih (i + 1) fuel _ hC2 (by omega) (by omega)
    refine ⟨σ', ?_, (Fr.sA (by simp)).trans f1, fun k hk => ?_, fun k h3 h4 => ?_⟩
    · rw [p_X6_fillRankKeys_L2, p_X1_farms, bS, hC.1, hI.2.1, if_neg (nI_ge hi (by omega)), if_neg (show ¬ (12 : Int32) ≤ nI i from nI_ge (b := 12) (by omega) (by decide)), c_behindOf hC hI hi, bS, c_depthOf hC hI hi, bS, if_pos (ib_t (by omega) (by omega)), nI_clamp (by omega), nI_1]
      rw [show (((12 : Int32) - nI (behN G n i)) * 12 + nI (depN G i)) * 12 + nI i = nI (ky G n i) by
        rw [show (12 : Int32) - nI (behN G n i) = nI (12 - behN G n i) from pk_sub (a := 12) (by omega), show nI (12 - behN G n i) * 12 = nI ((12 - behN G n i) * 12) from pk_mul _ 12, nI_add, show nI ((12 - behN G n i) * 12 + depN G i) * 12 = nI (((12 - behN G n i) * 12 + depN G i) * 12) from pk_mul _ 12, nI_add]
        rfl]
      exact e1
    · rw [g1 k (by omega), gA_sA, if_neg (by omega)]
    · by_cases hk : k = i
      · subst hk
        rw [g1 k (by omega), gA_sA, if_pos ⟨rfl, rfl, rfl⟩]
      · exact g2 k (by omega) h4
theorem c_ahead {σ : Sg} (hC : CR σ 0 G) (hI : Inv G n) (hK : ∀ k, k < n → gA σ 16 0 k = nI (ky G n k)) {k : Nat} (hk : k < n) : p_X6_farmsRankedAhead (nI k) σ = some (nI (acn G n k)) := by
  have hn := hI.1
  refine loop0 (L := fun fuel a i => p_X6_farmsRankedAhead_L4 σ fuel (nI k) a i) hn (fun fuel a => ?_) (fun fuel a i hi => ?_)
  · show p_X6_farmsRankedAhead_L4 σ (fuel + 1) _ _ _ = _
    rw [p_X6_farmsRankedAhead_L4, p_X1_farms, bS, hC.1, hI.2.1, if_pos (nI_le (Nat.le_refl _) (by omega))]
  · show p_X6_farmsRankedAhead_L4 σ (fuel + 1) _ _ _ = p_X6_farmsRankedAhead_L4 σ fuel _ _ _
    have k1 := ky_lt hI hi
    have k2 := ky_lt hI hk
    rw [p_X6_farmsRankedAhead_L4, p_X1_farms, bS, hC.1, hI.2.1, if_neg (nI_ge hi (by omega)), if_neg (show ¬ (12 : Int32) ≤ nI i from nI_ge (b := 12) (by omega) (by decide)), if_neg (nI_pos (by omega)), if_neg (show ¬ (12 : Int32) ≤ nI k from nI_ge (b := 12) (by omega) (by decide)), if_pos (ib_t (by omega) (by omega)), if_pos (ib_t (by omega) (by omega)), nI_clamp (by omega), nI_clamp (by omega), hK k hk, hK i hi, nI_1]
    by_cases h : ky G n i < ky G n k
    · rw [if_neg (nI_ge h (by omega)), if_pos h, nI_1]
    · rw [if_pos (nI_le (by omega) (by omega)), if_neg h]
      rfl
theorem m_isAhead {σ : Sg} (hM : MR σ G) (hI : Inv G n) {a b : Nat} (ha : a < n) (hb : b < n) : p_X7_isAhead (nI a) (nI b) σ = some (b01 (decide (ky G n a < ky G n b))) := by
  have hn := hI.1
  have b1 := beh_le (G := G) (n := n) a
  have b2 := beh_le (G := G) (n := n) b
  have d1 := dep_lt hI ha
  have d2 := dep_lt hI hb
  have hs : (nI (behN G n a) - nI (behN G n b)).toInt = (behN G n a : Int) - behN G n b := pk_sub_toInt (by omega) (by omega)
  unfold p_X7_isAhead
  rw [m_behind hM hI ha, bS, m_behind hM hI hb, bS]
  have z0 : (0 : Int32).toInt = 0 := rfl
  by_cases h0 : nI (behN G n a) - nI (behN G n b) = 0
  · have h1 : behN G n a = behN G n b := by rw [h0, z0] at hs; omega
    rw [if_pos h0, m_depth hM hI ha, bS, m_depth hM hI hb, bS]
    by_cases h2 : depN G a < depN G b
    · rw [if_pos (nI_lt h2 (by omega)), decide_eq_true (by unfold ky; omega)]; rfl
    · rw [if_neg (nI_nlt (by omega) (by omega)), bS, bS]
      by_cases h3 : depN G a = depN G b
      · rw [if_pos (by rw [h3])]
        by_cases h4 : b ≤ a
        · rw [if_pos (nI_le h4 (by omega)), decide_eq_false (by unfold ky; omega)]; rfl
        · rw [if_neg (nI_ge (by omega) (by omega)), decide_eq_true (by unfold ky; omega)]; rfl
      · rw [if_neg (fun e => h3 (nI_inj (by omega) (by omega) e)), decide_eq_false (by unfold ky; omega)]; rfl
  · have h1 : ¬ behN G n a = behN G n b := fun e => h0 (Int32.toInt_inj.mp (by rw [hs, z0]; omega))
    rw [if_neg h0]
    by_cases h2 : behN G n a < behN G n b
    · rw [if_pos (Int32.le_iff_toInt_le.mpr (by rw [hs, z0]; omega)), decide_eq_false (by unfold ky; omega)]; rfl
    · rw [if_neg (fun q => by have := Int32.le_iff_toInt_le.mp q; rw [hs, z0] at this; omega), decide_eq_true (by unfold ky; omega)]; rfl
theorem m_rk17 {σ : Sg} (hM : MR σ G) (hI : Inv G n) (kf : Int32 → Int32 → Sg → Option (Int32 × Sg)) (v : Int32) {k : Nat} (hk : k < n) : ∀ m i a fuel, i + m = n → m < fuel → p_X7_ranked_L17 kf fuel v (nI k) (nI a) (nI i) σ = if nI (a + sumf (fun o => if ky G n o < ky G n k then 1 else 0) i m) = v then some (nI k, sI σ 20 0 8 0) else kf v (nI (k + 1)) σ := by
  have hn := hI.1
  have h0 : gA σ 21 0 0 = nI n := (hM 0 (by omega)).trans hI.2.1
  intro m
  induction m with
  | zero =>
    intro i a fuel h1 h2
    obtain ⟨fuel, rfl⟩ : ∃ z, fuel = z + 1 := ⟨fuel - 1, by omega⟩
    rw [p_X7_ranked_L17, h0, if_pos (nI_le (by omega) (by omega)), nI_1]
    rfl
  | succ m ih =>
    intro i a fuel h1 h2
    obtain ⟨fuel, rfl⟩ : ∃ z, fuel = z + 1 := ⟨fuel - 1, by omega⟩
    rw [p_X7_ranked_L17, h0, if_neg (nI_ge (by omega) (by omega)), m_isAhead hM hI (by omega) hk, bS, nI_1, sumf]
    by_cases h : ky G n i < ky G n k
    · rw [if_neg (by rw [decide_eq_true h]; decide), nI_1, ih (i + 1) (a + 1) fuel (by omega) (by omega), if_pos h, Nat.add_assoc]
    · rw [if_pos (by rw [decide_eq_false h]; rfl), show nI a + 0 = nI (a + 0) from nI_add a 0, ih (i + 1) (a + 0) fuel (by omega) (by omega), if_neg h, Nat.add_assoc]
theorem m_rk2 {σ : Sg} (hM : MR σ G) (hI : Inv G n) (v : Int32) : ∀ m i fuel, i + m = n → m < fuel → ((∀ k, i ≤ k → k < n → ¬ nI (acn G n k) = v) → p_X7_ranked_L2 fuel v (nI i) σ = some (0, sI σ 20 0 8 1)) ∧ ∀ k, i ≤ k → k < n → nI (acn G n k) = v → p_X7_ranked_L2 fuel v (nI i) σ = some (nI k, sI σ 20 0 8 0) := by
  have hn := hI.1
  have h0 : gA σ 21 0 0 = nI n := (hM 0 (by omega)).trans hI.2.1
  intro m
  induction m with
  | zero =>
    intro i fuel h1 h2
    obtain ⟨fuel, rfl⟩ : ∃ z, fuel = z + 1 := ⟨fuel - 1, by omega⟩
    refine ⟨fun _ => ?_, fun k h3 h4 => by omega⟩
    rw [p_X7_ranked_L2, h0, if_pos (nI_le (by omega) (by omega))]
  | succ m ih =>
    intro i fuel h1 h2
    obtain ⟨fuel, rfl⟩ : ∃ z, fuel = z + 1 := ⟨fuel - 1, by omega⟩
    have hi : i < n := by omega
    have e1 : p_X7_ranked_L2 (fuel + 1) v (nI i) σ = if nI (acn G n i) = v then some (nI i, sI σ 20 0 8 0) else p_X7_ranked_L2 fuel v (nI (i + 1)) σ := by
      have h9 := m_rk17 hM hI (p_X7_ranked_L2 fuel) v hi n 0 0 400 (by omega) (by omega)
      rw [Nat.zero_add] at h9
      rw [p_X7_ranked_L2, h0, if_neg (nI_ge hi (by omega))]
      exact h9
    obtain ⟨g1, g2⟩ := ih (i + 1) fuel (by omega) (by omega)
    rw [e1]
    refine ⟨fun h => ?_, fun k h3 h4 h5 => ?_⟩
    · rw [if_neg (h i (Nat.le_refl _) hi)]
      exact g1 (fun k a b => h k (by omega) b)
    · by_cases hk : k = i
      · subst hk; rw [if_pos h5]
      · rw [if_neg (fun e => hk ?_)]
        · exact g2 k (by omega) h4 h5
        · have l1 := acn_lt (G := G) h4
          have l2 := acn_lt (G := G) hi
          exact acn_inj hI h4 hi (nI_inj (by omega) (by omega) (h5.trans e.symm))
theorem c_rkL {σ : Sg} (hC : CR σ 0 G) (hI : Inv G n) (hK : ∀ k, k < n → gA σ 16 0 k = nI (ky G n k)) {k : Nat} (hk : k < n) : ∀ d i fuel, i + d = k → d < fuel → p_X6_ranked_L27 fuel (nI (acn G n k)) (nI i) σ = some (.inl (nI k), σ) := by
  have hn := hI.1
  intro d
  induction d with
  | zero =>
    intro i fuel h1 h2
    obtain ⟨fuel, rfl⟩ : ∃ z, fuel = z + 1 := ⟨fuel - 1, by omega⟩
    obtain rfl : i = k := by omega
    rw [p_X6_ranked_L27, if_neg (show ¬ (12 : Int32) ≤ nI i from nI_ge (b := 12) (by omega) (by decide)), c_ahead hC hI hK hk, bS, if_pos rfl]
  | succ d ih =>
    intro i fuel h1 h2
    obtain ⟨fuel, rfl⟩ : ∃ z, fuel = z + 1 := ⟨fuel - 1, by omega⟩
    have hi : i < n := by omega
    have l1 := acn_lt (G := G) hk
    have l2 := acn_lt (G := G) hi
    rw [p_X6_ranked_L27, if_neg (show ¬ (12 : Int32) ≤ nI i from nI_ge (b := 12) (by omega) (by decide)), c_ahead hC hI hK hi, bS, if_neg (fun e => by
      have := acn_inj hI hi hk (nI_inj (by omega) (by omega) e)
      omega), nI_1]
    exact ih (i + 1) fuel (by omega) (by omega)
end RK
theorem cmd_ranked (v : Int32) : Cmd (p_X6_ranked v) (p_X7_ranked v) (e12 eNS eIO) := by
  intro a hA
  obtain ⟨⟨⟨G, n⟩, rest⟩, hA⟩ : ∃ b : AS, AInv b ∧ b = a := ⟨a, hA, rfl⟩
  have hI : Inv G n := hA.1.1
  have hn := hI.1
  obtain ⟨hA, rfl⟩ := hA
  cases hff : isF n v with
  | false =>
    refine ⟨.inr 1, _, hA, fun σ hC => ?_, fun σ hM => ?_⟩
    · refine simC_same (S := []) hC (?_ : p_X6_ranked v σ = _) Fr.refl (by simp)
      unfold p_X6_ranked
      rw [c_has (show CR σ 0 G from hC.1) hI, hff, bS, if_pos (show b01 false = 0 from rfl)]
      rfl
    · refine simM_same (v := 0) hM (?_ : p_X7_ranked v σ = _) (Fm.sI (A := []) (I := [(20, 8)]) (by simp)) sc2 ⟨s8g σ 1, Or.inl rfl⟩
      refine (m_rk2 (show MR σ G from hM.1) hI v n 0 400 (by omega) (by omega)).1 (fun k _ hk e => ?_)
      rw [← e, isF_nI (acn_lt hk) hn] at hff
      cases hff
  | true =>
    obtain ⟨q, hq, rfl⟩ := isF_of hn hff
    obtain ⟨k, hk, hkq⟩ := acn_ex hI hq
    refine ⟨.inl (nI k), _, hA, fun σ hC => ?_, fun σ hM => ?_⟩
    · obtain ⟨σ1, e1, f1, -, g2⟩ := c_fill hI n 0 400 σ hC.1 (by omega) (by omega)
      have hC1 : CR σ1 0 G := (show CR σ 0 G from hC.1).fr f1 (by decide) (by decide) (by decide) (by decide) (by decide)
      have e2 := c_rkL hC1 hI (fun j hj => g2 j (by omega) hj) hk k 0 400 (by omega) (by omega)
      rw [hkq, show nI 0 = (0 : Int32) from rfl] at e2
      have e3 : p_X6_fillRankKeys σ = some σ1 := e1
      refine simC_same hC (?_ : p_X6_ranked (nI q) σ = some (oC (.inl (nI k)) _, σ1)) f1 (by simp)
      unfold p_X6_ranked
      rw [c_has (show CR σ 0 G from hC.1) hI, hff, bS, if_neg (show ¬ b01 true = 0 by decide), e3, bS, e2]
      rfl
    · refine simM_same (v := nI k) hM (?_ : p_X7_ranked (nI q) σ = _) (Fm.sI (A := []) (I := [(20, 8)]) (by simp)) sc2 ⟨rfl, s8g σ 0⟩
      exact (m_rk2 (show MR σ G from hM.1) hI (nI q) n 0 400 (by omega) (by omega)).2 k (by omega) hk (by rw [hkq])

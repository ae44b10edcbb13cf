/-! PURE: what both sides read of a row -/
def CR (σ : Sg) (i : Nat) (G : Row) : Prop := gI σ 1 i 0 = G 0 ∧ gI σ 1 i 5 = G 1 ∧ gI σ 1 i 6 = G 2 ∧ gI σ 1 i 7 = G 3 ∧ gI σ 1 i 8 = G 4 ∧ (∀ k, k < 3 → gA σ 5 i k = G (5 + k)) ∧ (∀ k, k < 12 → gA σ 2 i k = G (8 + k)) ∧ (∀ k, k < 12 → gA σ 3 i k = G (20 + k)) ∧ (∀ k, k < 12 → gA σ 4 i k = G (32 + k))
def MR (σ : Sg) (G : Row) : Prop := ∀ k, k < 44 → gA σ 21 0 k = G k
def Inv (G : Row) (n : Nat) : Prop := n ≤ 12 ∧ G 0 = nI n ∧ Forest G n ∧ (∀ k, k < n → ∃ t, t ≤ 200 ∧ G (8 + k) = nI t) ∧ (∀ k, k < n → G (32 + k) = -1 ∨ ∃ c, c < n ∧ G (32 + k) = nI c ∧ G (20 + c) = nI k) ∧ (∀ d, d < 3 → FOk n (G (5 + d)))
theorem ib_nI {k N : Nat} (h : k < 2 ^ 31) : ib (nI k) N = decide (k < N) := by
  simp only [ib, nI_clamp h]
  have h1 : decide (nI k < 0) = false := decide_eq_false (nI_pos h)
  rw [h1]
  by_cases h2 : k < N
  · simp [h2] <;> omega
  · simp [h2] <;> omega
theorem ib_t {k N : Nat} (h : k < N) (hN : N < 2 ^ 31) : ib (nI k) N = true := by rw [ib_nI (by omega)]; exact decide_eq_true h
theorem ne_m1 {k : Nat} (h : k < 2 ^ 31) : ¬ nI k = -1 := fun e => nI_pos h (e ▸ neg1_lt)
theorem m1_ne {k : Nat} (h : k < 2 ^ 31) : ¬ (-1 : Int32) = nI k := fun e => ne_m1 h e.symm
theorem nI_inj {a b : Nat} (ha : a < 2 ^ 31) (hb : b < 2 ^ 31) (h : nI a = nI b) : a = b := (nI_eq ha hb).mp h
section RD
variable {σ : Sg} {G : Row} {n : Nat}
theorem c_parentOf (hC : CR σ 0 G) {k : Nat} (hk : k < 12) : p_X1_parentOf (nI k) σ = some (G (20 + k)) := by
  unfold p_X1_parentOf
  rw [if_neg (nI_pos (by omega)), if_neg (show ¬ (12 : Int32) ≤ nI k from nI_ge hk (by decide)), if_pos (ib_t hk (by omega)), nI_clamp (by omega), hC.2.2.2.2.2.2.2.1 k hk]
theorem c_parentOf1 : p_X1_parentOf (-1) σ = some (-1) := by
  unfold p_X1_parentOf; rw [if_pos neg1_lt]
theorem c_tollOf (hC : CR σ 0 G) {k : Nat} (hk : k < 12) : p_X1_tollOf (nI k) σ = some (G (8 + k)) := by
  unfold p_X1_tollOf
  rw [if_neg (nI_pos (by omega)), if_neg (show ¬ (12 : Int32) ≤ nI k from nI_ge hk (by decide)), if_pos (ib_t hk (by omega)), nI_clamp (by omega), hC.2.2.2.2.2.2.1 k hk]
theorem c_preferredOf (hC : CR σ 0 G) {k : Nat} (hk : k < 12) : p_X1_preferredOf (nI k) σ = some (G (32 + k)) := by
  unfold p_X1_preferredOf
  rw [if_neg (nI_pos (by omega)), if_neg (show ¬ (12 : Int32) ≤ nI k from nI_ge hk (by decide)), if_pos (ib_t hk (by omega)), nI_clamp (by omega), hC.2.2.2.2.2.2.2.2 k hk]
theorem c_preferredOf1 : p_X1_preferredOf (-1) σ = some (-1) := by
  unfold p_X1_preferredOf; rw [if_pos neg1_lt]
theorem c_farmOfDrover (hC : CR σ 0 G) {k : Nat} (hk : k < 3) : p_X1_farmOfDrover (nI k) σ = some (G (5 + k)) := by
  unfold p_X1_farmOfDrover
  rw [if_neg (nI_pos (by omega)), if_neg (show ¬ (3 : Int32) ≤ nI k from nI_ge hk (by decide)), if_pos (ib_t hk (by omega)), nI_clamp (by omega), hC.2.2.2.2.2.1 k hk]
theorem m_parent (hM : MR σ G) {k : Nat} (hk : k < 12) : p_X7_parent (nI k) σ = some (G (20 + k)) := by
  unfold p_X7_parent
  rw [show (20 : Int32) + nI k = nI (20 + k) from nI_add 20 k, if_pos (ib_t (by omega) (by omega)), nI_clamp (by omega), hM _ (by omega)]
theorem m_toll (hM : MR σ G) {k : Nat} (hk : k < 12) : p_X7_toll (nI k) σ = some (G (8 + k)) := by
  unfold p_X7_toll
  rw [show (8 : Int32) + nI k = nI (8 + k) from nI_add 8 k, if_pos (ib_t (by omega) (by omega)), nI_clamp (by omega), hM _ (by omega)]
theorem m_prefers (hM : MR σ G) {k : Nat} (hk : k < 12) : p_X7_prefers (nI k) σ = some (G (32 + k)) := by
  unfold p_X7_prefers
  rw [show (32 : Int32) + nI k = nI (32 + k) from nI_add 32 k, if_pos (ib_t (by omega) (by omega)), nI_clamp (by omega), hM _ (by omega)]
/-- whether it is a farm's number -/
def isF (n : Nat) (v : Int32) : Bool := !(decide (v < 0) || decide (nI n ≤ v))
theorem isF_nI {k : Nat} (hk : k < n) (hn : n ≤ 12) : isF n (nI k) = true := by
  simp only [isF, decide_eq_false (nI_pos (show k < 2 ^ 31 by omega)), decide_eq_false (nI_ge hk (by omega))]; rfl
theorem isF_of {v : Int32} (hn : n ≤ 12) (h : isF n v = true) : ∃ k, k < n ∧ v = nI k := by
  rcases pk_ix v (n := n) (by omega) with h1 | h1 | ⟨j, h1, h2⟩
  · simp [isF, h1] at h
  · simp [isF, h1] at h
  · exact ⟨j, h1, h2⟩
def b01 (b : Bool) : Int32 := if b then 1 else 0
theorem c_has (hC : CR σ 0 G) (hI : Inv G n) (v : Int32) : p_X1_has v σ = some (b01 (isF n v)) := by
  unfold p_X1_has
  rw [hC.1, hI.2.1]
  by_cases h1 : v < 0
  · simp [isF, h1, b01]
  · by_cases h2 : nI n ≤ v
    · simp [isF, h1, h2, b01]
    · simp [isF, h1, h2, b01]
theorem lt_m1 {v : Int32} (h : ¬ v < 0) : -1 < v := by
  obtain ⟨j, hj, rfl⟩ := nI_of h
  rw [Int32.lt_iff_toInt_lt, nI_toInt hj]
  have : (-1 : Int32).toInt = -1 := by decide
  omega
theorem m_in {v : Int32} (hn : n ≤ 2000000) : p_X7_in v 0 (nI n - 1) σ = some (b01 (isF n v)) := by
  unfold p_X7_in
  by_cases h1 : v < 0
  · simp [isF, h1, b01]
  · rw [if_neg h1]
    cases n with
    | zero =>
      rw [if_pos (show nI 0 - 1 < v from lt_m1 h1)]
      have : nI 0 ≤ v := Int32.not_lt.mp h1
      simp [isF, h1, b01, this]
    | succ n =>
      rw [nI_pred]
      obtain ⟨j, hj, rfl⟩ := nI_of h1
      by_cases h2 : n < j
      · rw [if_pos (nI_lt h2 hj)]
        simp [isF, b01, h1, nI_le (show n + 1 ≤ j by omega) hj]
      · rw [if_neg (nI_nlt (by omega) (by omega))]
        simp [isF, b01, h1, nI_ge (show j < n + 1 by omega) (by omega)]
theorem nb01 (b : Bool) : nb (b01 b) = b01 b := by cases b <;> decide
theorem m_isFarm (hM : MR σ G) (hI : Inv G n) (v : Int32) : p_X7_isFarm v σ = some (b01 (isF n v)) := by
  unfold p_X7_isFarm
  rw [hM 0 (by omega), hI.2.1, m_in (by have := hI.1; omega)]
  exact congrArg some (nb01 _)
def sumf (f : Nat → Nat) : Nat → Nat → Nat
  | _, 0 => 0
  | i, m + 1 => f i + sumf f (i + 1) m
theorem sumf_congr {f g : Nat → Nat} : ∀ (m i : Nat), (∀ k, i ≤ k → k < i + m → f k = g k) → sumf f i m = sumf g i m := by
  intro m
  induction m with
  | zero => intro i _; rfl
  | succ m ih =>
    intro i h
    simp only [sumf]
    rw [h i (by omega) (by omega), ih (i + 1) (fun k h1 h2 => h k (by omega) (by omega))]
/-- a loop over all farms that adds up -/
theorem loop_sum {L : Nat → Int32 → Int32 → Option Int32} {f : Nat → Nat} (hend : ∀ fuel a, L (fuel + 1) (nI a) (nI n) = some (nI a)) (hstep : ∀ fuel a i, i < n → L (fuel + 1) (nI a) (nI i) = L fuel (nI (a + f i)) (nI (i + 1))) :
    ∀ m i a fuel, i + m = n → m < fuel → L fuel (nI a) (nI i) = some (nI (a + sumf f i m)) := by
  intro m
  induction m with
  | zero =>
    intro i a fuel h hf
    obtain ⟨fuel, rfl⟩ : ∃ z, fuel = z + 1 := ⟨fuel - 1, by omega⟩
    obtain rfl : i = n := by omega
    exact hend fuel a
  | succ m ih =>
    intro i a fuel h hf
    obtain ⟨fuel, rfl⟩ : ∃ z, fuel = z + 1 := ⟨fuel - 1, by omega⟩
    rw [hstep fuel a i (by omega), ih (i + 1) _ fuel (by omega) (by omega)]
    simp only [sumf, Nat.add_assoc]
theorem loop0 {L : Nat → Int32 → Int32 → Option Int32} {f : Nat → Nat} (hn : n ≤ 12) (hend : ∀ fuel a, L (fuel + 1) (nI a) (nI n) = some (nI a)) (hstep : ∀ fuel a i, i < n → L (fuel + 1) (nI a) (nI i) = L fuel (nI (a + f i)) (nI (i + 1))) : L 400 0 0 = some (nI (sumf f 0 n)) := by
  have := loop_sum hend hstep n 0 0 400 (by omega) (by omega)
  rw [Nat.zero_add] at this
  exact this
def chN (G : Row) (n k : Nat) : Nat := sumf (fun i => if G (20 + i) = nI k then 1 else 0) 0 n
theorem c_childrenOf (hC : CR σ 0 G) (hI : Inv G n) {k : Nat} (_ : k < n) : p_X1_childrenOf (nI k) σ = some (nI (chN G n k)) := by
  have hn := hI.1
  refine loop0 (L := fun fuel a i => p_X1_childrenOf_L4 σ fuel (nI k) a i) hn (fun fuel a => ?_) (fun fuel a i hi => ?_)
  · simp only [p_X1_childrenOf_L4]
    rw [hC.1, hI.2.1, if_pos (nI_le (Nat.le_refl _) (by omega))]
  · simp only [p_X1_childrenOf_L4]
    rw [hC.1, hI.2.1, if_neg (nI_ge hi (by omega)), c_parentOf hC (by omega)]
    simp only [Option.bind_some, nI_1]
    by_cases h : G (20 + i) = nI k
    · simp [h]
    · simp [h]
theorem m_children (hM : MR σ G) (hI : Inv G n) {k : Nat} (_ : k < n) : p_X7_children (nI k) σ = some (nI (chN G n k)) := by
  have hn := hI.1
  have h0 : gA σ 21 0 0 = nI n := (hM 0 (by omega)).trans hI.2.1
  refine loop0 (L := fun fuel a i => p_X7_children_L4 σ fuel (nI k) a i) hn (fun fuel a => ?_) (fun fuel a i hi => ?_)
  · simp only [p_X7_children_L4]
    rw [h0, if_pos (nI_le (Nat.le_refl _) (by omega))]
  · simp only [p_X7_children_L4]
    rw [h0, if_neg (nI_ge hi (by omega)), m_parent hM (by omega)]
    simp only [Option.bind_some, nI_1]
    by_cases h : G (20 + i) = nI k
    · simp [h]
    · simp [h]
end RD

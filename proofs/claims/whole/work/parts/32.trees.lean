/-! PURE: roots, depths, farms behind, sizes, sums -/
def rootN (G : Row) (k : Nat) : Nat := (up G (nI k)).getLastD k
def depN (G : Row) (k : Nat) : Nat := (up G (G (20 + k))).length
def tolN (G : Row) (k : Nat) : Nat := (G (8 + k)).toNatClampNeg
section TR
variable {σ : Sg} {G : Row} {n : Nat}
theorem Inv.par (hI : Inv G n) {k : Nat} (hk : k < n) : G (20 + k) = -1 ∨ ∃ q, q < n ∧ G (20 + k) = nI q := by
  rcases hI.2.2.1.ok hk with h | ⟨q, h1, h2⟩
  · exact Or.inl h
  · exact Or.inr ⟨q, h1, h2⟩
theorem up_c (hI : Inv G n) {k : Nat} (hk : k < n) : up G (nI k) = k :: up G (G (20 + k)) := up_cons hI.1 hI.2.2.1 hk
theorem tol_eq (hI : Inv G n) {k : Nat} (hk : k < n) : G (8 + k) = nI (tolN G k) ∧ tolN G k ≤ 200 := by
  obtain ⟨t, h1, h2⟩ := hI.2.2.2.1 k hk
  unfold tolN
  rw [h2, nI_clamp (by omega)]
  exact ⟨rfl, h1⟩
theorem rootN_top (hI : Inv G n) {k : Nat} (hk : k < n) (h : G (20 + k) = -1) : rootN G k = k := by
  unfold rootN; rw [up_c hI hk, h, up_neg]; rfl
theorem rootN_up (hI : Inv G n) {k q : Nat} (hk : k < n) (hq : q < n) (h : G (20 + k) = nI q) : rootN G k = rootN G q := by
  unfold rootN; rw [up_c hI hk, h, up_c hI hq]; rfl
theorem rootN_lt (hI : Inv G n) {v : Int32} (hv : FOk n v) : ∀ k, k < n → v = nI k → rootN G k < n ∧ G (20 + rootN G k) = -1 := by
  refine up_ind hI.1 hI.2.2.1 (C := fun v => ∀ k, k < n → v = nI k → rootN G k < n ∧ G (20 + rootN G k) = -1) ?_ ?_ hv
  · intro k hk h; exact absurd h (m1_ne (by have := hI.1; omega))
  · intro j hj ih k hk h
    have hn := hI.1
    obtain rfl : j = k := nI_inj (by omega) (by omega) h
    rcases hI.par hj with h1 | ⟨q, hq, h1⟩
    · rw [rootN_top hI hj h1]; exact ⟨hj, h1⟩
    · rw [rootN_up hI hj hq h1]; exact ih q hq h1
theorem root_lt (hI : Inv G n) {k : Nat} (hk : k < n) : rootN G k < n := (rootN_lt hI (Or.inr ⟨k, hk, rfl⟩) k hk rfl).1
theorem root_par (hI : Inv G n) {k : Nat} (hk : k < n) : G (20 + rootN G k) = -1 := (rootN_lt hI (Or.inr ⟨k, hk, rfl⟩) k hk rfl).2
theorem c_rootOf (hC : CR σ 0 G) (hI : Inv G n) {k : Nat} (hk : k < n) : p_X1_rootOf (nI k) σ = some (nI (rootN G k)) := by
  have hn := hI.1
  have key : ∀ k, k < n → ∀ fuel s, (up G (nI k)).length ≤ fuel → s + (up G (nI k)).length ≤ 12 → p_X1_rootOf_L4 σ fuel (nI k) (nI s) = some (nI (rootN G k)) := by
    intro k hk
    refine up_ind hI.1 hI.2.2.1 (C := fun v => ∀ k, k < n → v = nI k → ∀ fuel s, (up G (nI k)).length ≤ fuel → s + (up G (nI k)).length ≤ 12 → p_X1_rootOf_L4 σ fuel (nI k) (nI s) = some (nI (rootN G k))) ?_ ?_ (Or.inr ⟨k, hk, rfl⟩ : FOk n (nI k)) k hk rfl
    · intro k hk h; exact absurd h (m1_ne (by omega))
    · intro j hj ih k hk h fuel s h1 h2
      obtain rfl : j = k := nI_inj (by omega) (by omega) h
      have hl := congrArg List.length (up_c hI hj)
      simp only [List.length_cons] at hl
      obtain ⟨fuel, rfl⟩ : ∃ z, fuel = z + 1 := ⟨fuel - 1, by omega⟩
      simp only [p_X1_rootOf_L4]
      rw [if_neg (show ¬ (12 : Int32) ≤ nI s from nI_ge (b := 12) (by omega) (by decide)), c_parentOf hC (by omega)]
      simp only [Option.bind_some]
      rcases hI.par hj with h3 | ⟨q, hq, h3⟩
      · rw [if_pos h3, rootN_top hI hj h3]
      · rw [if_neg (by rw [h3]; exact ne_m1 (by omega)), h3, nI_1, rootN_up hI hj hq h3]
        rw [h3] at hl
        exact ih q hq h3 fuel (s + 1) (by omega) (by omega)
  have hl := up_len hI.1 hI.2.2.1 (Or.inr ⟨k, hk, rfl⟩ : FOk n (nI k))
  exact key k hk 400 0 (by omega) (by omega)
theorem m_rootOf (hM : MR σ G) (hI : Inv G n) {k : Nat} (hk : k < n) : p_X7_rootOf (nI k) σ = some (nI (rootN G k)) := by
  have hn := hI.1
  have key : ∀ k, k < n → ∀ fuel, (up G (nI k)).length ≤ fuel → p_X7_rootOf_L2 σ fuel (nI k) = some (nI (rootN G k)) := by
    intro k hk
    refine up_ind hI.1 hI.2.2.1 (C := fun v => ∀ k, k < n → v = nI k → ∀ fuel, (up G (nI k)).length ≤ fuel → p_X7_rootOf_L2 σ fuel (nI k) = some (nI (rootN G k))) ?_ ?_ (Or.inr ⟨k, hk, rfl⟩ : FOk n (nI k)) k hk rfl
    · intro k hk h; exact absurd h (m1_ne (by omega))
    · intro j hj ih k hk h fuel h1
      obtain rfl : j = k := nI_inj (by omega) (by omega) h
      have hl := congrArg List.length (up_c hI hj)
      simp only [List.length_cons] at hl
      obtain ⟨fuel, rfl⟩ : ∃ z, fuel = z + 1 := ⟨fuel - 1, by omega⟩
      simp only [p_X7_rootOf_L2]
      rw [m_parent hM (by omega)]
      simp only [Option.bind_some]
      rcases hI.par hj with h3 | ⟨q, hq, h3⟩
      · rw [h3, if_pos neg1_lt, rootN_top hI hj h3]
      · rw [h3, if_neg (nI_pos (by omega)), rootN_up hI hj hq h3]
        rw [h3] at hl
        exact ih q hq h3 fuel (by omega)
  have hl := up_len hI.1 hI.2.2.1 (Or.inr ⟨k, hk, rfl⟩ : FOk n (nI k))
  exact key k hk 400 (by omega)
theorem c_depthOf (hC : CR σ 0 G) (hI : Inv G n) {k : Nat} (hk : k < n) : p_X1_depthOf (nI k) σ = some (nI (depN G k)) := by
  have hn := hI.1
  have key : ∀ v, FOk n v → ∀ fuel a, (up G v).length < fuel → a + (up G v).length ≤ 12 → p_X1_depthOf_L8 σ fuel (nI a) v = some (nI (a + (up G v).length)) := by
    intro v hv
    refine up_ind hI.1 hI.2.2.1 (C := fun v => ∀ fuel a, (up G v).length < fuel → a + (up G v).length ≤ 12 → p_X1_depthOf_L8 σ fuel (nI a) v = some (nI (a + (up G v).length))) ?_ ?_ hv
    · intro fuel a h1 h2
      obtain ⟨fuel, rfl⟩ : ∃ z, fuel = z + 1 := ⟨fuel - 1, by omega⟩
      simp only [p_X1_depthOf_L8, up_neg]
      split
      · rfl
      · rfl
    · intro j hj ih fuel a h1 h2
      have hl := congrArg List.length (up_c hI hj)
      simp only [List.length_cons] at hl
      obtain ⟨fuel, rfl⟩ : ∃ z, fuel = z + 1 := ⟨fuel - 1, by omega⟩
      simp only [p_X1_depthOf_L8]
      rw [if_neg (show ¬ (12 : Int32) ≤ nI a from nI_ge (b := 12) (by omega) (by decide)), if_neg (ne_m1 (by omega)), c_parentOf hC (by omega)]
      simp only [Option.bind_some, nI_1]
      rw [ih fuel (a + 1) (by omega) (by omega), hl]
      congr 2; omega
  have hv := hI.2.2.1.ok hk
  have hl := congrArg List.length (up_c hI hk)
  have hl2 := up_len hI.1 hI.2.2.1 (Or.inr ⟨k, hk, rfl⟩ : FOk n (nI k))
  simp only [List.length_cons] at hl
  unfold p_X1_depthOf
  rw [c_parentOf hC (by omega)]
  simp only [Option.bind_some]
  have := key _ hv 400 0 (by omega) (by omega)
  rw [Nat.zero_add] at this
  exact this
theorem m_depth (hM : MR σ G) (hI : Inv G n) {k : Nat} (hk : k < n) : p_X7_depth (nI k) σ = some (nI (depN G k)) := by
  have hn := hI.1
  have key : ∀ v, FOk n v → ∀ fuel a, (up G v).length < fuel → p_X7_depth_L8 σ fuel (nI a) v = some (nI (a + (up G v).length)) := by
    intro v hv
    refine up_ind hI.1 hI.2.2.1 (C := fun v => ∀ fuel a, (up G v).length < fuel → p_X7_depth_L8 σ fuel (nI a) v = some (nI (a + (up G v).length))) ?_ ?_ hv
    · intro fuel a h1
      obtain ⟨fuel, rfl⟩ : ∃ z, fuel = z + 1 := ⟨fuel - 1, by omega⟩
      simp only [p_X7_depth_L8, up_neg]
      rw [if_pos neg1_lt]
      rfl
    · intro j hj ih fuel a h1
      have hl := congrArg List.length (up_c hI hj)
      simp only [List.length_cons] at hl
      obtain ⟨fuel, rfl⟩ : ∃ z, fuel = z + 1 := ⟨fuel - 1, by omega⟩
      simp only [p_X7_depth_L8]
      rw [if_neg (nI_pos (by omega)), m_parent hM (by omega)]
      simp only [Option.bind_some, nI_1]
      rw [ih fuel (a + 1) (by omega), hl]
      congr 2; omega
  have hv := hI.2.2.1.ok hk
  have hl := up_len hI.1 hI.2.2.1 hv
  unfold p_X7_depth
  rw [m_parent hM (by omega)]
  simp only [Option.bind_some]
  have := key _ hv 400 0 (by omega)
  rw [Nat.zero_add] at this
  exact this
/-- whether k lies on the way from v to the root -/
def onUp (G : Row) (k : Nat) (v : Int32) : Bool := decide (k ∈ up G v)
theorem c_isBehind (hC : CR σ 0 G) (hI : Inv G n) {k : Nat} (hk : k < n) {v : Int32} (hv : FOk n v) : p_X1_isBehind (nI k) v σ = some (b01 (onUp G k v)) := by
  have hn := hI.1
  have key : ∀ fuel s, (up G v).length < fuel → s + (up G v).length ≤ 12 → p_X1_isBehind_L5 σ fuel (nI k) v (nI s) = some (b01 (onUp G k v)) := by
    refine up_ind hI.1 hI.2.2.1 (C := fun v => ∀ fuel s, (up G v).length < fuel → s + (up G v).length ≤ 12 → p_X1_isBehind_L5 σ fuel (nI k) v (nI s) = some (b01 (onUp G k v))) ?_ ?_ hv
    · intro fuel s h1 h2
      obtain ⟨fuel, rfl⟩ : ∃ z, fuel = z + 1 := ⟨fuel - 1, by omega⟩
      simp only [p_X1_isBehind_L5, onUp, up_neg]
      rw [if_neg (m1_ne (by omega))]
      split <;> simp [b01]
    · intro j hj ih fuel s h1 h2
      have hu := up_c hI hj
      have hl := congrArg List.length hu
      simp only [List.length_cons] at hl
      obtain ⟨fuel, rfl⟩ : ∃ z, fuel = z + 1 := ⟨fuel - 1, by omega⟩
      simp only [p_X1_isBehind_L5]
      rw [if_neg (show ¬ (12 : Int32) ≤ nI s from nI_ge (b := 12) (by omega) (by decide)), if_neg (ne_m1 (by omega))]
      by_cases hjk : j = k
      · subst hjk
        simp only [if_true, onUp]
        rw [hu]
        simp [b01]
      · have : ¬ nI j = nI k := fun e => hjk (nI_inj (by omega) (by omega) e)
        rw [if_neg this, c_parentOf hC (by omega)]
        simp only [Option.bind_some, nI_1]
        rw [ih fuel (s + 1) (by omega) (by omega)]
        simp only [onUp]
        rw [hu]
        have hkj : ¬ k = j := fun e => hjk e.symm
        simp [hkj]
  have hl := up_len hI.1 hI.2.2.1 hv
  exact key 400 0 (by omega) (by omega)
theorem m_liesBehind (hM : MR σ G) (hI : Inv G n) {k : Nat} (hk : k < n) {v : Int32} (hv : FOk n v) : p_X7_liesBehind v (nI k) σ = some (b01 (onUp G k v)) := by
  have hn := hI.1
  have key : ∀ fuel, (up G v).length < fuel → p_X7_liesBehind_L2 σ fuel (nI k) v = some (b01 (onUp G k v)) := by
    refine up_ind hI.1 hI.2.2.1 (C := fun v => ∀ fuel, (up G v).length < fuel → p_X7_liesBehind_L2 σ fuel (nI k) v = some (b01 (onUp G k v))) ?_ ?_ hv
    · intro fuel h1
      obtain ⟨fuel, rfl⟩ : ∃ z, fuel = z + 1 := ⟨fuel - 1, by omega⟩
      simp only [p_X7_liesBehind_L2, onUp, up_neg]
      rw [if_pos neg1_lt, if_neg (m1_ne (by omega))]
      simp [b01]
    · intro j hj ih fuel h1
      have hu := up_c hI hj
      have hl := congrArg List.length hu
      simp only [List.length_cons] at hl
      obtain ⟨fuel, rfl⟩ : ∃ z, fuel = z + 1 := ⟨fuel - 1, by omega⟩
      simp only [p_X7_liesBehind_L2]
      rw [if_neg (nI_pos (by omega))]
      by_cases hjk : j = k
      · subst hjk
        simp only [if_true, onUp]
        rw [hu]
        simp [b01]
      · have : ¬ nI j = nI k := fun e => hjk (nI_inj (by omega) (by omega) e)
        rw [if_neg this, m_parent hM (by omega)]
        simp only [Option.bind_some]
        rw [ih fuel (by omega)]
        simp only [onUp]
        rw [hu]
        have hkj : ¬ k = j := fun e => hjk e.symm
        simp [hkj]
  have hl := up_len hI.1 hI.2.2.1 hv
  exact key 400 (by omega)
def behN (G : Row) (n k : Nat) : Nat := sumf (fun i => if onUp G k (nI i) then 1 else 0) 0 n
theorem b01_0 (b : Bool) : (b01 b = 0) ↔ b = false := by cases b <;> simp [b01]
theorem c_behindOf (hC : CR σ 0 G) (hI : Inv G n) {k : Nat} (hk : k < n) : p_X1_behindOf (nI k) σ = some (nI (behN G n k)) := by
  have hn := hI.1
  refine loop0 (L := fun fuel a i => p_X1_behindOf_L4 σ fuel (nI k) a i) hn (fun fuel a => ?_) (fun fuel a i hi => ?_)
  · simp only [p_X1_behindOf_L4]
    rw [hC.1, hI.2.1, if_pos (nI_le (Nat.le_refl _) (by omega))]
  · simp only [p_X1_behindOf_L4]
    rw [hC.1, hI.2.1, if_neg (nI_ge hi (by omega)), c_isBehind hC hI hk (Or.inr ⟨i, hi, rfl⟩)]
    simp only [Option.bind_some, nI_1]
    cases h : onUp G k (nI i) <;> simp [b01]
theorem m_behind (hM : MR σ G) (hI : Inv G n) {k : Nat} (hk : k < n) : p_X7_behind (nI k) σ = some (nI (behN G n k)) := by
  have hn := hI.1
  have h0 : gA σ 21 0 0 = nI n := (hM 0 (by omega)).trans hI.2.1
  refine loop0 (L := fun fuel a i => p_X7_behind_L4 σ fuel (nI k) a i) hn (fun fuel a => ?_) (fun fuel a i hi => ?_)
  · simp only [p_X7_behind_L4]
    rw [h0, if_pos (nI_le (Nat.le_refl _) (by omega))]
  · simp only [p_X7_behind_L4]
    rw [h0, if_neg (nI_ge hi (by omega)), m_liesBehind hM hI hk (Or.inr ⟨i, hi, rfl⟩)]
    simp only [Option.bind_some, nI_1]
    cases h : onUp G k (nI i) <;> simp [b01]
def joined (G : Row) (a b : Nat) : Bool := decide (rootN G a = rootN G b)
theorem c_areJoined (hC : CR σ 0 G) (hI : Inv G n) {a b : Nat} (ha : a < n) (hb : b < n) : p_X1_areJoined (nI a) (nI b) σ = some (b01 (joined G a b)) := by
  have hn := hI.1
  have h1 := root_lt hI ha
  have h2 := root_lt hI hb
  unfold p_X1_areJoined
  rw [c_rootOf hC hI ha, c_rootOf hC hI hb]
  simp only [Option.bind_some]
  by_cases h : rootN G a = rootN G b
  · rw [if_pos (by rw [h])]; simp [joined, h, b01]
  · rw [if_neg (fun e => h (nI_inj (by omega) (by omega) e))]; simp [joined, h, b01]
theorem m_areJoined (hM : MR σ G) (hI : Inv G n) {a b : Nat} (ha : a < n) (hb : b < n) : p_X7_areJoined (nI a) (nI b) σ = some (b01 (joined G a b)) := by
  have hn := hI.1
  have h1 := root_lt hI ha
  have h2 := root_lt hI hb
  unfold p_X7_areJoined
  rw [m_rootOf hM hI ha, m_rootOf hM hI hb]
  simp only [Option.bind_some]
  by_cases h : rootN G a = rootN G b
  · rw [if_pos (by rw [h])]; simp [joined, h, b01]
  · rw [if_neg (fun e => h (nI_inj (by omega) (by omega) e))]; simp [joined, h, b01]
def sizN (G : Row) (n k : Nat) : Nat := sumf (fun i => if joined G i k then 1 else 0) 0 n
theorem c_treeSizeOf (hC : CR σ 0 G) (hI : Inv G n) {k : Nat} (hk : k < n) : p_X1_treeSizeOf (nI k) σ = some (nI (sizN G n k)) := by
  have hn := hI.1
  unfold p_X1_treeSizeOf
  rw [c_rootOf hC hI hk]
  simp only [Option.bind_some]
  refine loop0 (L := fun fuel a i => p_X1_treeSizeOf_L11 σ fuel (nI (rootN G k)) a i) hn (fun fuel a => ?_) (fun fuel a i hi => ?_)
  · simp only [p_X1_treeSizeOf_L11]
    rw [hC.1, hI.2.1, if_pos (nI_le (Nat.le_refl _) (by omega))]
  · simp only [p_X1_treeSizeOf_L11]
    rw [hC.1, hI.2.1, if_neg (nI_ge hi (by omega)), c_rootOf hC hI hi]
    simp only [Option.bind_some, nI_1]
    have h1 := root_lt hI hi
    have h2 := root_lt hI hk
    by_cases h : rootN G i = rootN G k
    · rw [if_pos (by rw [h])]; simp [joined, h]
    · rw [if_neg (fun e => h (nI_inj (by omega) (by omega) e))]; simp [joined, h]
theorem m_sizeOf (hM : MR σ G) (hI : Inv G n) {k : Nat} (hk : k < n) : p_X7_sizeOf (nI k) σ = some (nI (sizN G n k)) := by
  have hn := hI.1
  have h0 : gA σ 21 0 0 = nI n := (hM 0 (by omega)).trans hI.2.1
  refine loop0 (L := fun fuel a i => p_X7_sizeOf_L4 σ fuel (nI k) a i) hn (fun fuel a => ?_) (fun fuel a i hi => ?_)
  · simp only [p_X7_sizeOf_L4]
    rw [h0, if_pos (nI_le (Nat.le_refl _) (by omega))]
  · simp only [p_X7_sizeOf_L4]
    rw [h0, if_neg (nI_ge hi (by omega)), m_areJoined hM hI hi hk]
    simp only [Option.bind_some, nI_1]
    cases h : joined G i k <;> simp [b01]
theorem c_hasTrack (hC : CR σ 0 G) (hI : Inv G n) {a b : Nat} (ha : a < n) (hb : b < n) : p_X1_hasTrack (nI a) (nI b) σ = some (b01 (decide (G (20 + a) = nI b ∨ G (20 + b) = nI a))) := by
  have hn := hI.1
  unfold p_X1_hasTrack
  rw [c_parentOf hC (by omega), c_parentOf hC (by omega)]
  simp only [Option.bind_some]
  by_cases h1 : G (20 + a) = nI b
  · simp [h1, b01]
  · by_cases h2 : G (20 + b) = nI a
    · simp [h1, h2, b01]
    · simp [h1, h2, b01]
theorem par_irr (hI : Inv G n) {a : Nat} (ha : a < n) : ¬ G (20 + a) = nI a := by
  have hn := hI.1
  obtain ⟨rk, hF⟩ := hI.2.2.1
  rcases hF a ha with h | ⟨q, hq, h, hr⟩
  · rw [h]; exact m1_ne (by omega)
  · rw [h]
    intro e
    have := nI_inj (by omega) (by omega) e
    subst this
    omega
theorem m_isLaid (hM : MR σ G) (hI : Inv G n) {a b : Nat} (ha : a < n) (hb : b < n) : p_X7_isLaid (nI a) (nI b) σ = some (b01 (decide (G (20 + a) = nI b ∨ G (20 + b) = nI a))) := by
  have hn := hI.1
  unfold p_X7_isLaid
  by_cases hab : a = b
  · subst hab
    have := par_irr hI ha
    simp [this, b01]
  · rw [if_neg (fun e => hab (nI_inj (by omega) (by omega) e)), m_parent hM (by omega), m_parent hM (by omega)]
    simp only [Option.bind_some]
    by_cases h1 : G (20 + a) = nI b
    · simp [h1, b01]
    · by_cases h2 : G (20 + b) = nI a
      · simp [h1, h2, b01]
      · simp [h1, h2, b01]
def chOf (G : Row) (a b : Nat) : Nat := if G (20 + a) = nI b then a else b
theorem c_childOf (hC : CR σ 0 G) {a b : Nat} (ha : a < 12) : p_X1_childOfTrack (nI a) (nI b) σ = some (nI (chOf G a b)) := by
  unfold p_X1_childOfTrack
  rw [c_parentOf hC ha]
  simp only [Option.bind_some, chOf]
  split <;> rfl
theorem m_childOf (hM : MR σ G) {a b : Nat} (ha : a < 12) : p_X7_childOf (nI a) (nI b) σ = some (nI (chOf G a b)) := by
  unfold p_X7_childOf
  rw [m_parent hM ha]
  simp only [Option.bind_some, chOf]
  split <;> rfl
def allN (G : Row) (n : Nat) : Nat := sumf (tolN G) 0 n
theorem c_allTolls (hC : CR σ 0 G) (hI : Inv G n) : p_X1_allTolls σ = some (nI (allN G n)) := by
  have hn := hI.1
  refine loop0 (L := fun fuel a i => p_X1_allTolls_L4 σ fuel a i) hn (fun fuel a => ?_) (fun fuel a i hi => ?_)
  · simp only [p_X1_allTolls_L4]
    rw [hC.1, hI.2.1, if_pos (nI_le (Nat.le_refl _) (by omega))]
  · simp only [p_X1_allTolls_L4]
    rw [hC.1, hI.2.1, if_neg (nI_ge hi (by omega)), c_tollOf hC (by omega)]
    simp only [Option.bind_some, nI_1]
    rw [(tol_eq hI hi).1, nI_add]
theorem m_tolls (hM : MR σ G) (hI : Inv G n) : p_X7_tolls σ = some (nI (allN G n)) := by
  have hn := hI.1
  have h0 : gA σ 21 0 0 = nI n := (hM 0 (by omega)).trans hI.2.1
  refine loop0 (L := fun fuel a i => p_X7_tolls_L4 σ fuel a i) hn (fun fuel a => ?_) (fun fuel a i hi => ?_)
  · simp only [p_X7_tolls_L4]
    rw [h0, if_pos (nI_le (Nat.le_refl _) (by omega))]
  · simp only [p_X7_tolls_L4]
    rw [h0, if_neg (nI_ge hi (by omega)), m_toll hM (by omega)]
    simp only [Option.bind_some, nI_1]
    rw [(tol_eq hI hi).1, nI_add]
def prfN (G : Row) (n : Nat) : Nat := sumf (fun i => if G (32 + i) = -1 then 0 else 1) 0 n
theorem Inv.pref (hI : Inv G n) {k : Nat} (hk : k < n) : G (32 + k) = -1 ∨ ∃ c, c < n ∧ G (32 + k) = nI c := by
  rcases hI.2.2.2.2.1 k hk with h | ⟨c, h1, h2, -⟩
  · exact Or.inl h
  · exact Or.inr ⟨c, h1, h2⟩
theorem c_preferring (hC : CR σ 0 G) (hI : Inv G n) : p_X1_preferring σ = some (nI (prfN G n)) := by
  have hn := hI.1
  refine loop0 (L := fun fuel a i => p_X1_preferring_L4 σ fuel a i) hn (fun fuel a => ?_) (fun fuel a i hi => ?_)
  · simp only [p_X1_preferring_L4]
    rw [hC.1, hI.2.1, if_pos (nI_le (Nat.le_refl _) (by omega))]
  · simp only [p_X1_preferring_L4]
    rw [hC.1, hI.2.1, if_neg (nI_ge hi (by omega)), c_preferredOf hC (by omega)]
    simp only [Option.bind_some, nI_1]
    by_cases h : G (32 + i) = -1
    · simp [h]
    · simp [h]
theorem m_preferring (hM : MR σ G) (hI : Inv G n) : p_X7_preferring σ = some (nI (prfN G n)) := by
  have hn := hI.1
  have h0 : gA σ 21 0 0 = nI n := (hM 0 (by omega)).trans hI.2.1
  refine loop0 (L := fun fuel a i => p_X7_preferring_L4 σ fuel a i) hn (fun fuel a => ?_) (fun fuel a i hi => ?_)
  · simp only [p_X7_preferring_L4]
    rw [h0, if_pos (nI_le (Nat.le_refl _) (by omega))]
  · simp only [p_X7_preferring_L4]
    rw [h0, if_neg (nI_ge hi (by omega)), m_prefers hM (by omega)]
    simp only [Option.bind_some, nI_1]
    rcases hI.pref hi with h | ⟨c, hc, h⟩
    · simp [h, neg1_lt]
    · rw [h, if_neg (nI_pos (by omega))]
      simp [ne_m1 (show c < 2 ^ 31 by omega)]
def treN (G : Row) (n : Nat) : Nat := sumf (fun i => if G (20 + i) = -1 then 1 else 0) 0 n
theorem c_trees (hC : CR σ 0 G) (hI : Inv G n) : p_X6_trees σ = some (nI (treN G n)) := by
  have hn := hI.1
  refine loop0 (L := fun fuel a i => p_X6_trees_L4 σ fuel a i) hn (fun fuel a => ?_) (fun fuel a i hi => ?_)
  · simp only [p_X6_trees_L4, p_X1_farms, Option.bind_some]
    rw [hC.1, hI.2.1, if_pos (nI_le (Nat.le_refl _) (by omega))]
  · simp only [p_X6_trees_L4, p_X1_farms, Option.bind_some]
    rw [hC.1, hI.2.1, if_neg (nI_ge hi (by omega)), c_parentOf hC (by omega)]
    simp only [Option.bind_some, nI_1]
    by_cases h : G (20 + i) = -1
    · simp [h]
    · simp [h]
theorem m_treesNow (hM : MR σ G) (hI : Inv G n) : p_X7_treesNow σ = some (nI (treN G n)) := by
  have hn := hI.1
  have h0 : gA σ 21 0 0 = nI n := (hM 0 (by omega)).trans hI.2.1
  refine loop0 (L := fun fuel a i => p_X7_treesNow_L4 σ fuel a i) hn (fun fuel a => ?_) (fun fuel a i hi => ?_)
  · simp only [p_X7_treesNow_L4]
    rw [h0, if_pos (nI_le (Nat.le_refl _) (by omega))]
  · simp only [p_X7_treesNow_L4]
    rw [h0, if_neg (nI_ge hi (by omega)), m_parent hM (by omega)]
    simp only [Option.bind_some, nI_1]
    rcases hI.par hi with h | ⟨c, hc, h⟩
    · rw [h, if_neg (by decide)]; simp
    · rw [h, if_pos (nI_pos' (by omega))]
      simp [ne_m1 (show c < 2 ^ 31 by omega)]
end TR

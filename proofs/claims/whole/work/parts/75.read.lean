/-! PURE: reading a text, the class -/
def hdC : List Int32 → Int32
  | [] => 0
  | x :: _ => x
def hdM : List Int32 → Int32
  | [] => -1
  | x :: _ => x
def isD (v : Int32) : Bool := !(decide (v < 48) || decide (57 < v))
theorem c_isDigit (v : Int32) (σ : Sg) : p_X4_isDigit v σ = some (b01 (isD v)) := by
  unfold p_X4_isDigit isD
  by_cases h1 : v < 48
  · simp [h1, b01]
  · by_cases h2 : (57 : Int32) < v
    · simp [h1, h2, b01]
    · simp [h1, h2, b01]
theorem m_isDigit (v : Int32) (σ : Sg) : p_X7_in v 48 57 σ = some (b01 (isD v)) := by
  unfold p_X7_in isD
  by_cases h1 : v < 48
  · simp [h1, b01]
  · by_cases h2 : (57 : Int32) < v
    · simp [h1, h2, b01]
    · simp [h1, h2, b01]
theorem isD_hd (Y : List Int32) : isD (hdM Y) = isD (hdC Y) := by
  cases Y with
  | nil => decide
  | cons x Y => rfl
/-- the class's text X, of which Y is still to be read -/
def TC (σ : Sg) (X Y : List Int32) : Prop := gI σ 9 0 1 = nI X.length ∧ rowI σ 10 X ∧ ∃ Z, X = Z ++ Y ∧ gI σ 9 0 2 = nI Z.length
def TM (σ : Sg) (X Y : List Int32) : Prop := gI σ 20 0 13 = nI X.length ∧ rowI σ 25 X ∧ ∃ Z, X = Z ++ Y ∧ gI σ 20 0 19 = nI Z.length
theorem TC.fm {A : List Nat} {I : List (Nat × Nat)} {σ σ' : Sg} {X Y : List Int32} (h : Fm A I σ σ') (h1 : 10 ∉ A) (h2 : (9, 1) ∉ I) (h3 : (9, 2) ∉ I) (hT : TC σ X Y) : TC σ' X Y := by
  obtain ⟨t1, t2, Z, t3, t4⟩ := hT
  exact ⟨(h.1 9 0 1 h2).trans t1, t2.fm h h1, Z, t3, (h.1 9 0 2 h3).trans t4⟩
theorem TM.fm {A : List Nat} {I : List (Nat × Nat)} {σ σ' : Sg} {X Y : List Int32} (h : Fm A I σ σ') (h1 : 25 ∉ A) (h2 : (20, 13) ∉ I) (h3 : (20, 19) ∉ I) (hT : TM σ X Y) : TM σ' X Y := by
  obtain ⟨t1, t2, Z, t3, t4⟩ := hT
  exact ⟨(h.1 20 0 13 h2).trans t1, t2.fm h h1, Z, t3, (h.1 20 0 19 h3).trans t4⟩
theorem TC.adv {σ : Sg} {X Y : List Int32} {x : Int32} (hT : TC σ X (x :: Y)) : TC (sI σ 9 0 2 (gI σ 9 0 2 + 1)) X Y := by
  obtain ⟨t1, t2, Z, t3, t4⟩ := hT
  exact ⟨by rw [gI_sI, if_neg (by decide)]; exact t1, t2, Z ++ [x], by rw [t3]; simp, by rw [gI_sI, if_pos ⟨rfl, rfl, rfl⟩, t4, nI_1]; simp⟩
theorem TM.adv {σ : Sg} {X Y : List Int32} {x : Int32} (hT : TM σ X (x :: Y)) : TM (sI σ 20 0 19 (gI σ 20 0 19 + 1)) X Y := by
  obtain ⟨t1, t2, Z, t3, t4⟩ := hT
  exact ⟨by rw [gI_sI, if_neg (by decide)]; exact t1, t2, Z ++ [x], by rw [t3]; simp, by rw [gI_sI, if_pos ⟨rfl, rfl, rfl⟩, t4, nI_1]; simp⟩
def rdD : Nat → Int32 → List Int32 → Int32 × List Int32
  | 0, acc, Y => (acc, Y)
  | _ + 1, acc, [] => (acc, [])
  | m + 1, acc, x :: Y => if isD x = true then rdD m (acc * 10 + (x - 48)) Y else (acc, x :: Y)
theorem rdD_t {m : Nat} {acc x : Int32} {Y : List Int32} (h : isD x = true) : rdD (m + 1) acc (x :: Y) = rdD m (acc * 10 + (x - 48)) Y := if_pos h
theorem rdD_f {m : Nat} {acc x : Int32} {Y : List Int32} (h : isD x = false) : rdD (m + 1) acc (x :: Y) = (acc, x :: Y) := if_neg (by rw [h]; decide)
/-- the parts of a command after its letter: whether it is read, the numbers, what is left -/
def rdS : List Nat → Int32 → List Int32 → Bool × List Int32 × List Int32
  | [], _, Y => (true, [], Y)
  | c :: S, sg, Y =>
    if 49 ≤ c ∧ c ≤ 51 then
      (if isD (hdC Y) = true then ((rdS S sg (rdD (c - 48) 0 Y).2).1, (sg * (rdD (c - 48) 0 Y).1) :: (rdS S sg (rdD (c - 48) 0 Y).2).2.1, (rdS S sg (rdD (c - 48) 0 Y).2).2.2) else (false, [], Y))
    else if c = 43 ∧ hdC Y = 42 then rdS S (-1) Y.tail
    else if hdC Y = nI c then rdS S sg Y.tail
    else (false, [], Y)
theorem rdS_43 {S : List Nat} {sg : Int32} {Y : List Int32} (h : hdC Y = 42) : rdS (43 :: S) sg Y = rdS S (-1) Y.tail := (if_neg (show ¬ (49 ≤ 43 ∧ 43 ≤ 51) by omega)).trans (if_pos ⟨rfl, h⟩)
section RDC
variable {X : List Int32}
theorem c_cur (hX : X.length ≤ 60) (hN : ∀ x ∈ X, nch x = x) {σ : Sg} {Y : List Int32} (hT : TC σ X Y) : p_X4_current σ = some (hdC Y) := by
  obtain ⟨t1, t2, Z, t3, t4⟩ := hT
  have hl := congrArg List.length t3
  rw [List.length_append] at hl
  unfold p_X4_current
  rw [t4, t1, if_neg (nI_pos (by omega))]
  cases Y with
  | nil =>
    simp only [List.length_nil] at hl
    rw [if_pos (nI_le (by omega) (by omega)), show nch 0 = 0 from nch_nI (q := 0) (by omega)]
    rfl
  | cons x Y =>
    simp only [List.length_cons] at hl
    have hz : Z.length < X.length := by omega
    have e : X[Z.length]'hz = x := by simp [t3]
    rw [if_neg (nI_ge hz (by omega)), if_neg (show ¬ (60 : Int32) ≤ nI Z.length from nI_ge (b := 60) (by omega) (by decide)), if_pos (ib_t (by omega) (by omega)), nI_clamp (by omega), t2 _ hz, e, hN x (by rw [t3]; simp)]
    rfl
theorem c_rdL (hX : X.length ≤ 60) (hN : ∀ x ∈ X, nch x = x) {nr : Nat} (hnr : nr < 3) {sg : Int32} : ∀ (m k : Nat) (Y : List Int32) (acc : Int32) (fuel : Nat) (σ : Sg), 1 ≤ k → m < fuel → k + m ≤ 3 → TC σ X Y → gI σ 9 0 5 = nI nr → gI σ 9 0 6 = sg → ∃ σ', p_X4_readNumber_L4 fuel (nI (k + m)) acc (nI k) σ = some (1, σ') ∧ TC σ' X (rdD m acc Y).2 ∧ gA σ' 11 0 nr = sg * (rdD m acc Y).1 ∧ gI σ' 9 0 5 = nI (nr + 1) ∧ Fm [11] [(9, 2), (9, 5)] σ σ' ∧ ∀ j, j ≠ nr → gA σ' 11 0 j = gA σ 11 0 j := by
  have fin : ∀ (σ : Sg) (Y : List Int32) (acc : Int32), TC σ X Y → gI σ 9 0 5 = nI nr → gI σ 9 0 6 = sg → gI (sA σ 11 0 nr (sg * acc)) 9 0 5 + 1 = nI (nr + 1) ∧ TC (sI (sA σ 11 0 nr (sg * acc)) 9 0 5 (nI (nr + 1))) X Y ∧ gA (sI (sA σ 11 0 nr (sg * acc)) 9 0 5 (nI (nr + 1))) 11 0 nr = sg * acc ∧ gI (sI (sA σ 11 0 nr (sg * acc)) 9 0 5 (nI (nr + 1))) 9 0 5 = nI (nr + 1) ∧ Fm [11] [(9, 2), (9, 5)] σ (sI (sA σ 11 0 nr (sg * acc)) 9 0 5 (nI (nr + 1))) ∧ ∀ j, j ≠ nr → gA (sI (sA σ 11 0 nr (sg * acc)) 9 0 5 (nI (nr + 1))) 11 0 j = gA σ 11 0 j := by
    intro σ Y acc hT h5 h6
    have f : Fm [11] [(9, 5)] σ (sI (sA σ 11 0 nr (sg * acc)) 9 0 5 (nI (nr + 1))) := (Fm.sA (by simp)).trans (Fm.sI (by simp))
    exact ⟨by rw [gI_sA, h5, nI_1], hT.fm f (by decide) (by decide) (by decide), by rw [gA_sI, gA_sA, if_pos ⟨rfl, rfl, rfl⟩], by rw [gI_sI, if_pos ⟨rfl, rfl, rfl⟩], f.mono (by simp) (by simp), fun j hj => by rw [gA_sI, gA_sA, if_neg (fun q => hj q.2.2)]⟩
  have h3 : ¬ (3 : Int32) ≤ nI nr := nI_ge (b := 3) hnr (by decide)
  intro m
  induction m with
  | zero =>
    intro k Y acc fuel σ hk hf hkm hT h5 h6
    obtain ⟨fuel, rfl⟩ : ∃ z, fuel = z + 1 := ⟨fuel - 1, by omega⟩
    have hk0 : ¬ nI k ≤ 0 := nI_ge hk (by omega)
    obtain ⟨e, g1, g2, g3, g4, g5⟩ := fin σ Y acc hT h5 h6
    refine ⟨_, ?_, g1, g2, g3, g4, g5⟩
    rw [p_X4_readNumber_L4, if_pos (nI_le (by omega) (by omega)), if_neg hk0, h5, if_neg (nI_pos (by omega)), if_neg h3, if_pos (ib_t hnr (by omega)), if_neg hk0, nI_clamp (by omega), h6, e]
  | succ m ih =>
    intro k Y acc fuel σ hk hf hkm hT h5 h6
    obtain ⟨fuel, rfl⟩ : ∃ z, fuel = z + 1 := ⟨fuel - 1, by omega⟩
    have hk0 : ¬ nI k ≤ 0 := nI_ge hk (by omega)
    have hcur := c_cur hX hN hT
    have stop : isD (hdC Y) = false → rdD (m + 1) acc Y = (acc, Y) → ∃ σ', p_X4_readNumber_L4 (fuel + 1) (nI (k + (m + 1))) acc (nI k) σ = some (1, σ') ∧ TC σ' X (rdD (m + 1) acc Y).2 ∧ gA σ' 11 0 nr = sg * (rdD (m + 1) acc Y).1 ∧ gI σ' 9 0 5 = nI (nr + 1) ∧ Fm [11] [(9, 2), (9, 5)] σ σ' ∧ ∀ j, j ≠ nr → gA σ' 11 0 j = gA σ 11 0 j := by
      intro hd hr
      obtain ⟨e, g1, g2, g3, g4, g5⟩ := fin σ Y acc hT h5 h6
      rw [hr]
      refine ⟨_, ?_, g1, g2, g3, g4, g5⟩
      rw [p_X4_readNumber_L4, if_neg (nI_ge (by omega) (by omega)), hcur, bS, c_isDigit, hd, bS, if_pos bf0, if_neg hk0, h5, if_neg (nI_pos (by omega)), if_neg h3, if_pos (ib_t hnr (by omega)), if_neg hk0, nI_clamp (by omega), h6, e]
    cases Y with
    | nil => exact stop (by decide) rfl
    | cons x Y =>
      cases hd : isD x with
      | false => exact stop hd (rdD_f hd)
      | true =>
        have fa : Fm [11] [(9, 2), (9, 5)] σ (sI σ 9 0 2 (gI σ 9 0 2 + 1)) := Fm.sI (by simp)
        obtain ⟨σ', g0, g1, g2, g3, g4, g5⟩ := ih (k + 1) Y (acc * 10 + (x - 48)) fuel _ (by omega) (by omega) (by omega) hT.adv (by rw [gI_sI, if_neg (by decide)]; exact h5) (by rw [gI_sI, if_neg (by decide)]; exact h6)
        rw [rdD_t hd]
        refine ⟨σ', ?_, g1, g2, g3, fa.trans g4, fun j hj => (g5 j hj).trans (by rw [gA_sI])⟩
        have hcur2 : p_X4_current σ = some x := hcur
        rw [p_X4_readNumber_L4, if_neg (nI_ge (by omega) (by omega)), hcur2, bS, c_isDigit, hd, bS, if_neg bt0, bS, nI_1, show k + (m + 1) = k + 1 + m by omega]
        exact g0
theorem c_rdN (hX : X.length ≤ 60) (hN : ∀ x ∈ X, nch x = x) {nr : Nat} (hnr : nr < 3) {sg : Int32} {m : Nat} (hm : m + 1 ≤ 3) {Y : List Int32} {σ : Sg} (hT : TC σ X Y) (h5 : gI σ 9 0 5 = nI nr) (h6 : gI σ 9 0 6 = sg) : (isD (hdC Y) = false → p_X4_readNumber (nI (m + 1)) σ = some (0, σ)) ∧ (isD (hdC Y) = true → ∃ σ', p_X4_readNumber (nI (m + 1)) σ = some (1, σ') ∧ TC σ' X (rdD (m + 1) 0 Y).2 ∧ gA σ' 11 0 nr = sg * (rdD (m + 1) 0 Y).1 ∧ gI σ' 9 0 5 = nI (nr + 1) ∧ Fm [11] [(9, 2), (9, 5)] σ σ' ∧ ∀ j, j ≠ nr → gA σ' 11 0 j = gA σ 11 0 j) := by
  have hcur := c_cur hX hN hT
  have h0 : ¬ nI (m + 1) ≤ 0 := nI_ge (a := 0) (by omega) (by omega)
  constructor
  · intro hd
    unfold p_X4_readNumber
    rw [p_X4_readNumber_L4, if_neg h0, hcur, bS, c_isDigit, hd, bS, if_pos bf0, if_pos (show (0 : Int32) ≤ 0 by decide), if_pos (show (0 : Int32) ≤ 0 by decide)]
  · intro hd
    cases Y with
    | nil => exact absurd hd (by decide)
    | cons x Y =>
      have hd2 : isD x = true := hd
      have hcur2 : p_X4_current σ = some x := hcur
      have fa : Fm [11] [(9, 2), (9, 5)] σ (sI σ 9 0 2 (gI σ 9 0 2 + 1)) := Fm.sI (by simp)
      obtain ⟨σ', g0, g1, g2, g3, g4, g5⟩ := c_rdL hX hN hnr (sg := sg) m 1 Y (0 * 10 + (x - 48)) 399 _ (by omega) (by omega) (by omega) hT.adv (by rw [gI_sI, if_neg (by decide)]; exact h5) (by rw [gI_sI, if_neg (by decide)]; exact h6)
      rw [rdD_t hd2]
      refine ⟨σ', ?_, g1, g2, g3, fa.trans g4, fun j hj => (g5 j hj).trans (by rw [gA_sI])⟩
      unfold p_X4_readNumber
      rw [p_X4_readNumber_L4, if_neg h0, hcur2, bS, c_isDigit, hd2, bS, if_neg bt0, bS, Nat.add_comm m 1]
      exact g0
/-- how many numbers a shape has -/
def dn : List Nat → Nat
  | [] => 0
  | c :: S => (if 49 ≤ c ∧ c ≤ 51 then 1 else 0) + dn S
def okPart (c : Nat) : Prop := c = 49 ∨ c = 50 ∨ c = 51 ∨ c = 43 ∨ c = 45 ∨ c = 62
theorem rdS_num : ∀ (S : List Nat) (sg : Int32) (Y : List Int32), (rdS S sg Y).2.1.length ≤ dn S ∧ ((rdS S sg Y).1 = true → (rdS S sg Y).2.1.length = dn S) := by
  intro S
  induction S with
  | nil => intro sg Y; simp [rdS, dn]
  | cons c S ih =>
    intro sg Y
    simp only [rdS, dn]
    by_cases h1 : 49 ≤ c ∧ c ≤ 51
    · rw [if_pos h1, if_pos h1]
      by_cases h2 : isD (hdC Y) = true
      · rw [if_pos h2]
        have := ih sg (rdD (c - 48) 0 Y).2
        simp only [List.length_cons]
        exact ⟨by omega, fun h => by have := this.2 h; omega⟩
      · rw [if_neg h2]
        exact ⟨by simp, fun h => by simp at h⟩
    · rw [if_neg h1, if_neg h1]
      by_cases h2 : c = 43 ∧ hdC Y = 42
      · rw [if_pos h2]
        have := ih (-1) Y.tail
        exact ⟨by omega, fun h => by have := this.2 h; omega⟩
      · rw [if_neg h2]
        by_cases h3 : hdC Y = nI c
        · rw [if_pos h3]
          have := ih sg Y.tail
          exact ⟨by omega, fun h => by have := this.2 h; omega⟩
        · rw [if_neg h3]
          exact ⟨by simp, fun h => by simp at h⟩
/-- one part -/
theorem c_part (hX : X.length ≤ 60) (hN : ∀ x ∈ X, nch x = x) {c nr : Nat} (hc : okPart c) (S : List Nat) {sg : Int32} {Y : List Int32} {σ : Sg} (hnr : nr + dn (c :: S) ≤ 3) (hT : TC σ X Y) (h5 : gI σ 9 0 5 = nI nr) (h6 : gI σ 9 0 6 = sg) : (rdS (c :: S) sg Y = (false, [], Y) ∧ p_X4_readPart (nI c) σ = some (0, σ)) ∨ ∃ (sg' : Int32) (Y' ns : List Int32) (σ' : Sg), p_X4_readPart (nI c) σ = some (1, σ') ∧ TC σ' X Y' ∧ gI σ' 9 0 5 = nI (nr + ns.length) ∧ gI σ' 9 0 6 = sg' ∧ (∀ u (hu : u < ns.length), gA σ' 11 0 (nr + u) = ns[u]) ∧ (∀ j, j < nr → gA σ' 11 0 j = gA σ 11 0 j) ∧ Fm [11] [(9, 2), (9, 5), (9, 6)] σ σ' ∧ rdS (c :: S) sg Y = ((rdS S sg' Y').1, ns ++ (rdS S sg' Y').2.1, (rdS S sg' Y').2.2) ∧ ns.length + dn S = dn (c :: S) := by
  have hcur := c_cur hX hN hT
  unfold p_X4_readPart
  by_cases h1 : 49 ≤ c ∧ c ≤ 51
  · have hd : isD (nI c) = true := by
      rcases (show c = 49 ∨ c = 50 ∨ c = 51 by omega) with rfl | rfl | rfl <;> decide
    obtain ⟨m, hm⟩ : ∃ m, c = 48 + (m + 1) := ⟨c - 49, by omega⟩
    have ec : nI c - 48 = nI (m + 1) := by
      rw [show nI c - 48 = nI (c - 48) from pk_sub (b := 48) (by omega)]
      congr 1; omega
    have hdn : dn (c :: S) = 1 + dn S := by simp only [dn]; rw [if_pos h1]
    obtain ⟨g1, g2⟩ := c_rdN hX hN (nr := nr) (by omega) (m := m) (by omega) hT h5 h6
    rw [c_isDigit, hd, bS, if_neg bt0, ec]
    have hcm : c - 48 = m + 1 := by omega
    cases hy : isD (hdC Y) with
    | false =>
      left
      refine ⟨?_, by rw [g1 hy, bS, nb0]⟩
      simp only [rdS]
      rw [if_pos h1, if_neg (by rw [hy]; decide)]
    | true =>
      right
      obtain ⟨σ', k0, k1, k2, k3, k4, k5⟩ := g2 hy
      refine ⟨sg, (rdD (m + 1) 0 Y).2, [sg * (rdD (m + 1) 0 Y).1], σ', by rw [k0, bS, nb1], k1, k3, ?_, fun u hu => ?_, fun j hj => k5 j (by omega), k4.mono (by simp) (by simp), ?_, ?_⟩
      · rw [k4.1 9 0 6 (by decide)]; exact h6
      · have hu0 : u = 0 := by simp at hu; omega
        subst hu0
        exact k2
      · simp only [rdS]
        rw [if_pos h1, if_pos hy, hcm]
        rfl
      · rw [hdn]; rfl
  · have hd : isD (nI c) = false := by
      rcases hc with rfl | rfl | rfl | rfl | rfl | rfl
      · exact absurd ⟨by omega, by omega⟩ h1
      · exact absurd ⟨by omega, by omega⟩ h1
      · exact absurd ⟨by omega, by omega⟩ h1
      · decide
      · decide
      · decide
    have hcn : c = 43 ∨ c = 45 ∨ c = 62 := by
      rcases hc with rfl | rfl | rfl | h | h | h
      · exact absurd ⟨by omega, by omega⟩ h1
      · exact absurd ⟨by omega, by omega⟩ h1
      · exact absurd ⟨by omega, by omega⟩ h1
      · exact Or.inl h
      · exact Or.inr (Or.inl h)
      · exact Or.inr (Or.inr h)
    have hdn : dn (c :: S) = dn S := by simp only [dn]; rw [if_neg h1]; omega
    rw [c_isDigit, hd, bS, if_pos bf0]
    -- a sign that stands there
    have yes : hdC Y = nI c → ¬ (c = 43 ∧ hdC Y = 42) → ∃ (sg' : Int32) (Y' ns : List Int32) (σ' : Sg), some ((1 : Int32), sI σ 9 0 2 (gI σ 9 0 2 + 1)) = some (1, σ') ∧ TC σ' X Y' ∧ gI σ' 9 0 5 = nI (nr + ns.length) ∧ gI σ' 9 0 6 = sg' ∧ (∀ u (hu : u < ns.length), gA σ' 11 0 (nr + u) = ns[u]) ∧ (∀ j, j < nr → gA σ' 11 0 j = gA σ 11 0 j) ∧ Fm [11] [(9, 2), (9, 5), (9, 6)] σ σ' ∧ rdS (c :: S) sg Y = ((rdS S sg' Y').1, ns ++ (rdS S sg' Y').2.1, (rdS S sg' Y').2.2) ∧ ns.length + dn S = dn (c :: S) := by
      intro h2 h3
      cases Y with
      | nil =>
        exfalso
        have h2 : (0 : Int32) = nI c := h2
        rcases hcn with rfl | rfl | rfl
        · exact absurd h2 (by decide)
        · exact absurd h2 (by decide)
        · exact absurd h2 (by decide)
      | cons x Y =>
        refine ⟨sg, Y, [], _, rfl, hT.adv, ?_, ?_, fun u hu => absurd hu (Nat.not_lt_zero _), fun j _ => by rw [gA_sI], Fm.sI (by simp), ?_, by rw [hdn]; simp⟩
        · rw [gI_sI, if_neg (by decide)]; exact h5
        · rw [gI_sI, if_neg (by decide)]; exact h6
        · simp only [rdS]
          rw [if_neg h1, if_neg h3, if_pos h2]
          rfl
    by_cases h43 : c = 43
    · subst h43
      rw [if_pos (show nI 43 = 43 from rfl), hcur, bS]
      by_cases h2 : hdC Y = 42
      · right
        rw [if_pos h2]
        cases Y with
        | nil => exact absurd h2 (by decide)
        | cons x Y =>
          have f : Fm [] [(9, 6)] σ (sI σ 9 0 6 (-1)) := Fm.sI (by simp)
          have hT2 := (hT.fm f (by decide) (by decide) (by decide)).adv
          refine ⟨-1, Y, [], _, rfl, hT2, ?_, ?_, fun u hu => absurd hu (Nat.not_lt_zero _), fun j _ => by rw [gA_sI, gA_sI], (f.mono (by simp) (by simp)).trans (Fm.sI (by simp)), ?_, by rw [hdn]; simp⟩
          · rw [gI_sI, if_neg (by decide), gI_sI, if_neg (by decide)]; exact h5
          · rw [gI_sI, if_neg (by decide), gI_sI, if_pos ⟨rfl, rfl, rfl⟩]
          · rw [rdS_43 h2]
            rfl
      · rw [if_neg h2, bS]
        by_cases h3 : hdC Y = nI 43
        · right
          rw [if_pos h3]
          exact yes h3 (fun q => h2 q.2)
        · left
          rw [if_neg h3]
          refine ⟨?_, rfl⟩
          simp only [rdS]
          rw [if_neg h1, if_neg (fun q => h2 q.2), if_neg h3]
    · have h43' : ¬ nI c = 43 := fun e => h43 (nI_inj (b := 43) (by omega) (by omega) e)
      rw [if_neg h43', hcur, bS]
      by_cases h3 : hdC Y = nI c
      · right
        rw [if_pos h3]
        exact yes h3 (fun q => h43 q.1)
      · left
        rw [if_neg h3]
        refine ⟨?_, rfl⟩
        simp only [rdS]
        rw [if_neg h1, if_neg (fun q => h43 q.1), if_neg h3]
theorem c_shape (hX : X.length ≤ 60) (hN : ∀ x ∈ X, nch x = x) (v : Nat) : ∀ (S : List Nat) (i fuel nr : Nat) (sg : Int32) (Y : List Int32) (σ : Sg), (∀ c ∈ S, okPart c) → shLen.getD v 0 = i + S.length → i + S.length ≤ 5 → (shByt.getD v []).drop i = S.map nI → nr + dn S ≤ 3 → S.length + 1 < fuel → TC σ X Y → gI σ 9 0 5 = nI nr → gI σ 9 0 6 = sg → ∃ σ', p_X4_readCommand_L49 fuel v 1 (nI i) σ = some (b01 (rdS S sg Y).1, σ') ∧ TC σ' X (rdS S sg Y).2.2 ∧ (∀ u (hu : u < (rdS S sg Y).2.1.length), gA σ' 11 0 (nr + u) = (rdS S sg Y).2.1[u]) ∧ (∀ j, j < nr → gA σ' 11 0 j = gA σ 11 0 j) ∧ Fm [11] [(9, 2), (9, 5), (9, 6)] σ σ' := by
  intro S
  induction S with
  | nil =>
    intro i fuel nr sg Y σ _ h2 h5' h3 h4 hf hT h5 h6
    obtain ⟨fuel, rfl⟩ : ∃ z, fuel = z + 1 := ⟨fuel - 1, by omega⟩
    simp only [List.length_nil] at h2
    refine ⟨σ, ?_, hT, fun u hu => absurd hu (Nat.not_lt_zero _), fun _ _ => rfl, Fm.refl⟩
    rw [p_X4_readCommand_L49, shL, h2, if_pos (nI_le (by omega) (by omega)), nb1]
    rfl
  | cons c S ih =>
    intro i fuel nr sg Y σ h1 h2 h5' h3 h4 hf hT h5 h6
    simp only [List.length_cons] at h2 h5' hf
    obtain ⟨fuel, rfl⟩ : ∃ z, fuel = z + 1 := ⟨fuel - 1, by omega⟩
    have hc := h1 c List.mem_cons_self
    have hget : shC v i = nI c := by
      unfold shC
      have e := congrArg (fun l => l.getD 0 0) h3
      simp only [List.map_cons, List.getD_cons_zero] at e
      rw [← e]
      simp [List.getD_eq_getElem?_getD]
    have hdrop : (shByt.getD v []).drop (i + 1) = S.map nI := by
      rw [← List.drop_drop, h3]; rfl
    rw [p_X4_readCommand_L49, shL, h2, if_neg (nI_ge (by omega) (by omega)), if_neg n10, if_pos (ib_t (by omega) (by omega)), nI_clamp (by omega), hget, nI_1]
    rcases c_part hX hN hc S h4 hT h5 h6 with ⟨e1, e2⟩ | ⟨sg', Y', ns, σ1, e1, t1, k5, k6, k7, k8, f1, e2, e3⟩
    · rw [e2, bS, e1]
      obtain ⟨fuel, rfl⟩ : ∃ z, fuel = z + 1 := ⟨fuel - 1, by omega⟩
      refine ⟨σ, ?_, hT, fun u hu => absurd hu (Nat.not_lt_zero _), fun _ _ => rfl, Fm.refl⟩
      rw [p_X4_readCommand_L49]
      split
      · rw [nb0]; rfl
      · rw [if_pos rfl, nb0]; rfl
    · rw [e1, bS, e2]
      obtain ⟨σ2, g0, g1, g2, g3, g4⟩ := ih (i + 1) fuel (nr + ns.length) sg' Y' σ1 (fun d hd => h1 d (List.mem_cons_of_mem _ hd)) (by omega) (by omega) hdrop (by omega) (by omega) t1 k5 k6
      refine ⟨σ2, g0, g1, fun u hu => ?_, fun j hj => (g3 j (by omega)).trans (k8 j hj), f1.trans g4⟩
      by_cases hu2 : u < ns.length
      · rw [g3 (nr + u) (by omega), k7 u hu2]
        simp only [List.getElem_append_left hu2]
      · have hu3 : u - ns.length < (rdS S sg' Y').2.1.length := by simp only [List.length_append] at hu; omega
        have := g2 (u - ns.length) hu3
        rw [show nr + ns.length + (u - ns.length) = nr + u by omega] at this
        rw [this]
        simp only
        rw [List.getElem_append_right (by omega)]
def shNat : Nat → List Nat
  | 0 => [51]
  | 1 => [50, 45, 50]
  | 2 => [50]
  | 3 => [50, 45, 50, 43, 50]
  | 4 => [49, 62, 50]
  | _ => []
theorem sh_byt {i : Nat} (h : i < 6) : shByt.getD i [] = (shNat i).map nI ∧ shLen.getD i 0 = (shNat i).length ∧ (shNat i).length ≤ 5 ∧ dn (shNat i) ≤ 3 ∧ (∀ c ∈ shNat i, okPart c) ∧ (shE i = 0 ↔ shNat i ≠ []) := by
  rcases (show i = 0 ∨ i = 1 ∨ i = 2 ∨ i = 3 ∨ i = 4 ∨ i = 5 by omega) with rfl | rfl | rfl | rfl | rfl | rfl
  · exact ⟨rfl, rfl, by decide, by decide, by simp [shNat, okPart], by decide⟩
  · exact ⟨rfl, rfl, by decide, by decide, by simp [shNat, okPart], by decide⟩
  · exact ⟨rfl, rfl, by decide, by decide, by simp [shNat, okPart], by decide⟩
  · exact ⟨rfl, rfl, by decide, by decide, by simp [shNat, okPart], by decide⟩
  · exact ⟨rfl, rfl, by decide, by decide, by simp [shNat, okPart], by decide⟩
  · exact ⟨rfl, rfl, by decide, by decide, by simp [shNat], by decide⟩
def shOf (x : Int32) : List Nat := shNat (p_X4_shapeOf x)
/-- a command: whether it is read, its numbers, what is left -/
def rdC (Y : List Int32) : Bool × List Int32 × List Int32 := if shOf (hdC Y) = [] then (false, [], Y) else rdS (shOf (hdC Y)) 1 Y.tail
theorem c_command (hX : X.length ≤ 60) (hN : ∀ x ∈ X, nch x = x) {Y : List Int32} {σ : Sg} (hT : TC σ X Y) : ∃ σ', p_X4_readCommand σ = some (b01 (rdC Y).1, σ') ∧ TC σ' X (rdC Y).2.2 ∧ gI σ' 9 0 3 = hdC Y ∧ (∀ u (hu : u < (rdC Y).2.1.length), gA σ' 11 0 u = (rdC Y).2.1[u]) ∧ Fm [11] [(9, 2), (9, 3), (9, 5), (9, 6)] σ σ' := by
  have hcur := c_cur hX hN hT
  have hg : gI (sI σ 9 0 3 (hdC Y)) 9 0 3 = hdC Y := by rw [gI_sI, if_pos ⟨rfl, rfl, rfl⟩]
  have f3 : Fm [] [(9, 3)] σ (sI σ 9 0 3 (hdC Y)) := Fm.sI (by simp)
  have hT3 : TC (sI σ 9 0 3 (hdC Y)) X Y := hT.fm f3 (by decide) (by decide) (by decide)
  obtain ⟨b1, b2, b3, b4, b5, b6⟩ := sh_byt (shape_lt (hdC Y))
  unfold p_X4_readCommand
  rw [hcur, bS, hg]
  by_cases hS : shOf (hdC Y) = []
  · have hr : rdC Y = (false, [], Y) := if_pos hS
    rw [hr, if_neg (fun q => (b6.mp q) hS)]
    exact ⟨_, rfl, hT3, hg, fun u hu => absurd hu (Nat.not_lt_zero _), f3.mono (by simp) (by simp)⟩
  · have hr : rdC Y = rdS (shOf (hdC Y)) 1 Y.tail := if_neg hS
    rw [hr, if_pos (b6.mpr hS)]
    cases Y with
    | nil => exact absurd (show shOf (hdC []) = [] by decide) hS
    | cons x Y =>
      have hT4 := hT3.adv
      have f4 : Fm [11] [(9, 2), (9, 3), (9, 5), (9, 6)] σ (sI (sI (sI (sI σ 9 0 3 x) 9 0 2 (gI (sI σ 9 0 3 x) 9 0 2 + 1)) 9 0 5 0) 9 0 6 1) := (((Fm.sI (by simp)).trans (Fm.sI (by simp))).trans (Fm.sI (by simp))).trans (Fm.sI (by simp))
      have f5 : Fm [] [(9, 5), (9, 6)] (sI (sI σ 9 0 3 x) 9 0 2 (gI (sI σ 9 0 3 x) 9 0 2 + 1)) (sI (sI (sI (sI σ 9 0 3 x) 9 0 2 (gI (sI σ 9 0 3 x) 9 0 2 + 1)) 9 0 5 0) 9 0 6 1) := (Fm.sI (by simp)).trans (Fm.sI (by simp))
      obtain ⟨σ', g0, g1, g2, g3, g4⟩ := c_shape hX hN (p_X4_shapeOf x) (shNat (p_X4_shapeOf x)) 0 400 0 1 Y (sI (sI (sI (sI σ 9 0 3 x) 9 0 2 (gI (sI σ 9 0 3 x) 9 0 2 + 1)) 9 0 5 0) 9 0 6 1) b5 (by rw [Nat.zero_add]; exact b2) (by rw [Nat.zero_add]; exact b3) b1 (by rw [Nat.zero_add]; exact b4) (by have : (shNat (p_X4_shapeOf x)).length ≤ 5 := b3; omega) (hT4.fm f5 (by decide) (by decide) (by decide)) (by rw [gI_sI, if_neg (by decide), gI_sI, if_pos ⟨rfl, rfl, rfl⟩]; rfl) (by rw [gI_sI, if_pos ⟨rfl, rfl, rfl⟩])
      refine ⟨σ', g0, g1, ?_, fun u hu => ?_, f4.trans (g4.mono (by simp) (by simp))⟩
      · rw [g4.1 9 0 3 (by decide), gI_sI, if_neg (by decide), gI_sI, if_neg (by decide), gI_sI, if_neg (by decide), gI_sI, if_pos ⟨rfl, rfl, rfl⟩]
        rfl
      · have := g2 u hu
        rw [Nat.zero_add] at this
        exact this
end RDC

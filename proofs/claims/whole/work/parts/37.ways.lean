/-! PURE: questions along a way -/
def eIO : String := "java/lang/IndexOutOfBoundsException"
def eNS : String := "java/util/NoSuchElementException"
/-- a call on both sides: the same end, whatever stands -/
def Cmd (pc : Sg → Option ((Int32 ⊕ String) × Sg)) (pm : Sg → Option (Int32 × Sg)) (e : Nat → String) : Prop :=
  ∀ a, AInv a → ∃ o a', AInv a' ∧ (∀ σ, CRel σ a → SimC (pc σ) σ o a' e) ∧ (∀ σ, MRel σ a 0 → SimM (pm σ) σ o a')
section WA1
variable {σ : Sg} {G : Row} {n : Nat}
theorem sumf_cons (f : Nat → Nat) (x : Nat) (L : List Nat) : ∀ (m i : Nat), sumf (fun j => f ((x :: L).getD j 0)) (i + 1) m = sumf (fun j => f (L.getD j 0)) i m := by
  intro m
  induction m with
  | zero => intro i; rfl
  | succ m ih =>
    intro i
    simp only [sumf]
    rw [ih (i + 1)]
    rfl
theorem sumf_list (f : Nat → Nat) : ∀ L : List Nat, sumf (fun i => f (L.getD i 0)) 0 L.length = (L.map f).sum := by
  intro L
  induction L with
  | nil => rfl
  | cons x L ih =>
    simp only [List.length_cons, sumf, List.map_cons, List.sum_cons]
    rw [sumf_cons, ih]
    rfl
theorem c_req (hC : CR σ 0 G) (hI : Inv G n) (v : Int32) : p_X6_requireFarm v σ = some (if isF n v then .inl 0 else .inr eIO, σ) := by
  unfold p_X6_requireFarm
  rw [c_has hC hI v]
  simp only [Option.bind_some]
  cases isF n v <;> simp [b01, eIO]
theorem m_fails (c : Int32) : p_X7_fails c σ = some (if c ≤ 0 then 0 else 1, sI σ 20 0 8 c) := by
  unfold p_X7_fails; split <;> rfl
theorem m_areFarms (hM : MR σ G) (hI : Inv G n) (v w : Int32) : p_X7_areFarms v w σ = some (b01 (isF n v && isF n w)) := by
  unfold p_X7_areFarms
  rw [m_isFarm hM hI v, m_isFarm hM hI w]
  simp only [Option.bind_some]
  cases isF n v <;> cases isF n w <;> simp [b01]
theorem path_nil (hI : Inv G n) {a b : Nat} (ha : a < n) (hb : b < n) : (path G a b).length = 0 ↔ joined G a b = false := by
  cases h : joined G a b with
  | true =>
    obtain ⟨m, hm⟩ := (joined_meet hI ha hb).mp h
    have : (path G a b).length = _ := path_len hm
    simp; intro e; rw [e] at this; simp at this; omega
  | false =>
    have : ¬ ∃ m, meetL (up G (nI a)) (up G (nI b)) = some m := fun q => by
      have := (joined_meet hI ha hb).mpr q
      rw [h] at this; cases this
    cases h2 : meetL (up G (nI a)) (up G (nI b)) with
    | none => simp [path, pathL, h2]
    | some m => exact absurd ⟨m, h2⟩ this
theorem path_mem (hI : Inv G n) {a b : Nat} (ha : a < n) (hb : b < n) : ∀ x ∈ path G a b, x < n := by
  intro x hx
  cases h2 : meetL (up G (nI a)) (up G (nI b)) with
  | none => simp [path, pathL, h2] at hx
  | some m =>
    simp only [path, pathL, h2] at hx
    rcases List.mem_append.mp hx with h | h
    · exact up_mem hI.1 hI.2.2.1 (Or.inr ⟨a, ha, rfl⟩) x (List.mem_of_mem_take h)
    · exact up_mem hI.1 hI.2.2.1 (Or.inr ⟨b, hb, rfl⟩) x (List.mem_of_mem_take (List.mem_reverse.mp h))
/-- the class's way of two numbers -/
theorem c_followWay (hC : CR σ 0 G) (hI : Inv G n) (v w : Int32) :
    ((isF n v && isF n w) = false ∧ p_X6_followWay v w σ = some (.inr eIO, σ)) ∨ ∃ a b σ1, a < n ∧ b < n ∧ v = nI a ∧ w = nI b ∧ Fr [14, 15] σ σ1 ∧ WR σ1 (path G a b) ∧ gI σ1 14 0 2 = hiP (up G (nI a)) (up G (nI b)) ∧ p_X6_followWay v w σ = some (if joined G a b then .inl 0 else .inr eNS, σ1) := by
  have hn := hI.1
  cases h1 : isF n v with
  | false =>
    refine Or.inl ⟨rfl, ?_⟩
    unfold p_X6_followWay
    rw [c_req hC hI v, h1]
    rfl
  | true =>
    cases h2 : isF n w with
    | false =>
      refine Or.inl ⟨rfl, ?_⟩
      unfold p_X6_followWay
      rw [c_req hC hI v, h1]
      simp only [Option.bind_some, if_true, sm]
      rw [c_req hC hI w, h2]
      rfl
    | true =>
      obtain ⟨a, ha, rfl⟩ := isF_of hn h1
      obtain ⟨b, hb, rfl⟩ := isF_of hn h2
      obtain ⟨σ1, e1, f1, w1, w2, w3⟩ := c_follow hC hI ha hb
      refine Or.inr ⟨a, b, σ1, ha, hb, rfl, rfl, f1, w1, w2, ?_⟩
      unfold p_X6_followWay
      rw [c_req hC hI, h1]
      simp only [Option.bind_some, if_true, sm]
      rw [c_req hC hI, h2]
      simp only [Option.bind_some, if_true, sm]
      rw [e1]
      simp only [Option.bind_some, p_X5_farms]
      rw [w1.1]
      have hz := path_nil hI ha hb
      cases hj : joined G a b with
      | false =>
        rw [hz.mpr hj, if_pos (by rfl)]; rfl
      | true =>
        rw [if_neg ?_]
        · rfl
        · have : ¬ (path G a b).length = 0 := fun e => by rw [hz.mp e] at hj; cases hj
          exact nI_ne0 (by omega) (by omega)
/-- the reference's way of two numbers -/
theorem m_noWay (hM : MR σ G) (hI : Inv G n) (v w : Int32) :
    ((isF n v && isF n w) = false ∧ p_X7_isNoWay v w σ = some (1, sI σ 20 0 8 1)) ∨ ∃ a b, a < n ∧ b < n ∧ v = nI a ∧ w = nI b ∧ ((joined G a b = false ∧ p_X7_isNoWay v w σ = some (1, sI σ 20 0 8 2)) ∨ (joined G a b = true ∧ ∃ σ1, p_X7_isNoWay v w σ = some (0, σ1) ∧ Fm [27] [(20, 8), (20, 18)] σ σ1 ∧ PR σ1 (path G a b) ∧ gI σ1 20 0 8 = 0)) := by
  have hn := hI.1
  unfold p_X7_isNoWay
  rw [m_areFarms hM hI]
  simp only [Option.bind_some]
  cases h : isF n v && isF n w with
  | false =>
    left
    refine ⟨rfl, ?_⟩
    simp only [b01, m_fails]
    simp
  | true =>
    right
    simp only [Bool.and_eq_true] at h
    obtain ⟨a, ha, rfl⟩ := isF_of hn h.1
    obtain ⟨b, hb, rfl⟩ := isF_of hn h.2
    refine ⟨a, b, ha, hb, rfl, rfl, ?_⟩
    rw [if_neg (by decide), m_areJoined hM hI ha hb]
    simp only [Option.bind_some]
    cases hj : joined G a b with
    | false =>
      left
      refine ⟨rfl, ?_⟩
      simp only [b01, m_fails]
      simp
    | true =>
      right
      refine ⟨rfl, ?_⟩
      obtain ⟨σ1, e1, f1, p1⟩ := m_goes (σ := sI σ 20 0 8 0) (hM.fm (Fm.sI (A := []) (I := [(20, 8)]) (by simp)) (by decide)) hI ha hb hj
      refine ⟨σ1, ?_, (Fm.sI (by simp)).trans (f1.mono (by simp) (by simp)), p1, ?_⟩
      · rw [if_neg (by decide), m_fails, if_pos (by decide)]
        simp only [Option.bind_some, if_true]
        rw [e1]
        rfl
      · rw [f1.1 20 0 8 (by simp), gI_sI, if_pos ⟨rfl, rfl, rfl⟩]
theorem c_farmAt {P : List Nat} (h : WR σ P) {i : Nat} (hi : i < P.length) : p_X5_farmAt (nI i) σ = some (nI P[i]) := by
  have := h.2.1
  unfold p_X5_farmAt
  rw [if_neg (nI_pos (by omega)), h.1, if_neg (nI_ge hi (by omega)), if_neg (show ¬ (12 : Int32) ≤ nI i from nI_ge (b := 12) (by omega) (by decide)), if_pos (ib_t (by omega) (by omega)), nI_clamp (by omega), h.2.2 i hi]
theorem c_farmAt1 {P : List Nat} (h : WR σ P) {i : Nat} (hi : P.length ≤ i) (hi2 : i < 2 ^ 31) : p_X5_farmAt (nI i) σ = some (-1) := by
  unfold p_X5_farmAt
  rw [if_neg (nI_pos (by omega)), h.1, if_pos (nI_le hi (by omega))]
theorem c_farmAtN : p_X5_farmAt (-1) σ = some (-1) := by
  unfold p_X5_farmAt; rw [if_pos neg1_lt]
theorem c_farmOnWay {P : List Nat} (h : WR σ P) (v : Int32) : (∃ i, ∃ hi : i < P.length, v = nI i ∧ p_X6_farmOnWay v σ = some (.inl (nI P[i]), σ)) ∨ ((∀ i, i < P.length → ¬ v = nI i) ∧ p_X6_farmOnWay v σ = some (.inr eNS, σ)) := by
  have hl := h.2.1
  unfold p_X6_farmOnWay
  rcases pk_ix v (n := P.length) (by omega) with h1 | h1 | ⟨j, h1, rfl⟩
  · exact Or.inr ⟨fun i hi e => nI_pos (by omega) (e ▸ h1), by rw [if_pos h1]; rfl⟩
  · have h2 : ¬ v < 0 := fun q => by
      have a := Int32.lt_iff_toInt_lt.mp q
      have b := Int32.le_iff_toInt_le.mp h1
      rw [nI_toInt (by omega)] at b
      have : (0 : Int32).toInt = 0 := rfl
      omega
    refine Or.inr ⟨fun i hi e => nI_ge hi (by omega) (e ▸ h1), ?_⟩
    rw [if_neg h2]
    simp only [p_X5_farms, Option.bind_some]
    rw [h.1, if_neg (Int32.not_lt.mpr h1)]
    rfl
  · refine Or.inl ⟨j, h1, rfl, ?_⟩
    rw [if_neg (nI_pos (by omega))]
    simp only [p_X5_farms, Option.bind_some]
    rw [h.1, if_pos (nI_lt h1 (by omega)), c_farmAt h h1]
    rfl
/-- the tolls of a list of farms -/
def tolL (G : Row) (P : List Nat) : Nat := (P.map (tolN G)).sum
theorem c_tollsIn {P : List Nat} (hC : CR σ 0 G) (hI : Inv G n) (h : WR σ P) (hP : ∀ x ∈ P, x < n) : p_X5_tollsIn σ = some (nI (tolL G P)) := by
  have hl := h.2.1
  have hn := hI.1
  rw [tolL, ← sumf_list]
  refine loop0 (n := P.length) (L := fun fuel a i => p_X5_tollsIn_L4 σ fuel a i) hl (fun fuel a => ?_) (fun fuel a i hi => ?_)
  · simp only [p_X5_tollsIn_L4]
    rw [h.1, if_pos (nI_le (Nat.le_refl _) (by omega))]
  · have hx := hP _ (List.getElem_mem hi)
    simp only [p_X5_tollsIn_L4]
    rw [h.1, if_neg (nI_ge hi (by omega)), c_farmAt h hi]
    simp only [Option.bind_some]
    rw [c_tollOf hC (by omega)]
    simp only [Option.bind_some, nI_1]
    rw [(tol_eq hI hx).1, nI_add]
    simp [List.getD_eq_getElem?_getD, List.getElem?_eq_getElem hi]
theorem m_pathToll {P : List Nat} (hM : MR σ G) (hI : Inv G n) (h : PR σ P) (hP : ∀ x ∈ P, x < n) : p_X7_pathToll 0 σ = some (nI (tolL G P)) := by
  have hl := h.2.1
  have hn := hI.1
  rw [tolL, ← sumf_list]
  refine loop0 (n := P.length) (L := fun fuel a i => p_X7_pathToll_L4 σ fuel a i) hl (fun fuel a => ?_) (fun fuel a i hi => ?_)
  · simp only [p_X7_pathToll_L4]
    rw [h.1, if_pos (nI_le (Nat.le_refl _) (by omega))]
  · have hx := hP _ (List.getElem_mem hi)
    simp only [p_X7_pathToll_L4]
    rw [h.1, if_neg (nI_ge hi (by omega)), if_pos (ib_t (by omega) (by omega)), nI_clamp (by omega), h.2.2 i hi, m_toll hM (by omega)]
    simp only [Option.bind_some, nI_1]
    rw [(tol_eq hI hx).1, nI_add]
    simp [List.getD_eq_getElem?_getD, List.getElem?_eq_getElem hi]
end WA1

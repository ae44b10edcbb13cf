/-! PURE: a whole text on both sides -/
theorem rdD_len : ∀ (m : Nat) (acc : Int32) (Y : List Int32), (rdD m acc Y).2.length ≤ Y.length := by
  intro m
  induction m with
  | zero => intro acc Y; exact Nat.le_refl _
  | succ m ih =>
    intro acc Y
    cases Y with
    | nil => exact Nat.le_refl _
    | cons x Y =>
      cases h : isD x with
      | false => rw [rdD_f h]; exact Nat.le_refl _
      | true =>
        rw [rdD_t h]
        have := ih (acc * 10 + (x - 48)) Y
        rw [List.length_cons]
        omega
theorem rdS_len : ∀ (S : List Nat) (sg : Int32) (Y : List Int32), (rdS S sg Y).2.2.length ≤ Y.length := by
  intro S
  induction S with
  | nil => intro sg Y; exact Nat.le_refl _
  | cons c S ih =>
    intro sg Y
    have ht : Y.tail.length ≤ Y.length := by rw [List.length_tail]; omega
    simp only [rdS]
    by_cases h1 : 49 ≤ c ∧ c ≤ 51
    · rw [if_pos h1]
      by_cases h2 : isD (hdC Y) = true
      · rw [if_pos h2]
        exact Nat.le_trans (ih _ _) (rdD_len _ _ _)
      · rw [if_neg h2]
        exact Nat.le_refl _
    · rw [if_neg h1]
      by_cases h2 : c = 43 ∧ hdC Y = 42
      · rw [if_pos h2]
        exact Nat.le_trans (ih _ _) ht
      · rw [if_neg h2]
        by_cases h3 : hdC Y = nI c
        · rw [if_pos h3]
          exact Nat.le_trans (ih _ _) ht
        · rw [if_neg h3]
          exact Nat.le_refl _
theorem rdC_nil : rdC [] = (false, [], []) := if_pos (show shOf (hdC []) = [] by decide)
theorem rdC_len {Y : List Int32} (h : (rdC Y).1 = true) : (rdC Y).2.2.length < Y.length := by
  cases Y with
  | nil => rw [rdC_nil] at h; cases h
  | cons x Y =>
    unfold rdC at h ⊢
    by_cases hS : shOf (hdC (x :: Y)) = []
    · rw [if_pos hS] at h; cases h
    · rw [if_neg hS]
      have := rdS_len (shOf (hdC (x :: Y))) 1 Y
      rw [List.length_cons]
      show (rdS (shOf (hdC (x :: Y))) 1 Y).2.2.length < Y.length + 1
      omega
/-- the commands l stand at the head of Y -/
def Cmds : List (Int32 × List Int32) → List Int32 → Prop
  | [], _ => True
  | cm :: l, Y => (rdC Y).1 = true ∧ cm = (hdC Y, (rdC Y).2.1) ∧ (l = [] ∨ ∃ Z, (rdC Y).2.2 = 59 :: Z ∧ Cmds l Z)
def toldIs (σ : Sg) (m : Nat) (l : List (Int32 × List Int32)) : Prop := ∀ t (ht : t < l.length), gA σ 28 0 (4 * (m + t)) = l[t].1 ∧ ∀ u (hu : u < l[t].2.length), gA σ 28 0 (4 * (m + t) + 1 + u) = l[t].2[u]
def icR : List (Nat × Nat) := [(9, 2), (9, 3), (9, 5), (9, 6)]
def imR : List (Nat × Nat) := [(20, 19), (20, 21)]
section SCA
variable {X : List Int32}
theorem TC.lt {σ : Sg} {x : Int32} {Y : List Int32} (hX : X.length ≤ 60) (hT : TC σ X (x :: Y)) : gI σ 9 0 2 < gI σ 9 0 1 := by
  obtain ⟨t1, t2, Z, t3, t4⟩ := hT
  have hl := congrArg List.length t3
  rw [List.length_append, List.length_cons] at hl
  rw [t1, t4]
  exact nI_lt (by omega) (by omega)
theorem TC.nlt {σ : Sg} (hX : X.length ≤ 60) (hT : TC σ X []) : ¬ gI σ 9 0 2 < gI σ 9 0 1 := by
  obtain ⟨t1, t2, Z, t3, t4⟩ := hT
  rw [List.append_nil] at t3
  subst t3
  rw [t1, t4]
  exact nI_nlt (Nat.le_refl _) (by omega)
theorem TM.ne {σ : Sg} {x : Int32} {Y : List Int32} (hX : X.length ≤ 60) (hT : TM σ X (x :: Y)) : ¬ gI σ 20 0 19 = gI σ 20 0 13 := by
  obtain ⟨t1, t2, Z, t3, t4⟩ := hT
  have hl := congrArg List.length t3
  rw [List.length_append, List.length_cons] at hl
  rw [t1, t4]
  exact fun e => by have := nI_inj (by omega) (by omega) e; omega
theorem TM.eqE {σ : Sg} (hT : TM σ X []) : gI σ 20 0 19 = gI σ 20 0 13 := by
  obtain ⟨t1, t2, Z, t3, t4⟩ := hT
  rw [List.append_nil] at t3
  subst t3
  rw [t1, t4]
theorem scan_bad (hX : X.length ≤ 60) (hN : ∀ x ∈ X, nch x = x) {Y : List Int32} {m : Nat} (hm : m ≤ 30) (hok : (rdC Y).1 = false) :
    (∀ σ fuel, 0 < fuel → TC σ X Y → ∃ σ', p_X4_countCommands_L6 fuel (nI (m + 1)) σ = some (-1, σ') ∧ TC σ' X (rdC Y).2.2 ∧ Fm [11] icR σ σ') ∧ (∀ σ fuel, 0 < fuel → TM σ X Y → gI σ 20 0 21 = nI m → ∃ σ', p_X7_isText_L10 fuel σ = some (0, σ') ∧ TM σ' X (rdC Y).2.2 ∧ Fm [28] imR σ σ') := by
  constructor
  · intro σ fuel hf hT
    obtain ⟨fuel, rfl⟩ : ∃ z, fuel = z + 1 := ⟨fuel - 1, by omega⟩
    obtain ⟨σ1, e1, t1, -, -, f1⟩ := c_command hX hN hT
    refine ⟨σ1, ?_, t1, f1⟩
    rw [p_X4_countCommands_L6, if_neg (show ¬ (60 : Int32) < nI (m + 1) from nI_nlt (a := 60) (by omega) (by omega)), e1, bS, hok, if_pos bf0]
  · intro σ fuel hf hT h21
    obtain ⟨fuel, rfl⟩ : ∃ z, fuel = z + 1 := ⟨fuel - 1, by omega⟩
    obtain ⟨σ1, e1, t1, -, -, f1⟩ := m_command hX hm hT h21
    refine ⟨σ1, ?_, t1, f1.mono (by decide) (by decide)⟩
    rw [p_X7_isText_L10, e1, bS, hok, if_pos bf0]
theorem scan (hX : X.length ≤ 60) (hN : ∀ x ∈ X, nch x = x) : ∀ (L : Nat) (Y : List Int32) (m : Nat), Y.length ≤ L → 2 * m + Y.length ≤ 60 →
    (∃ Y', (∀ σ fuel, L < fuel → TC σ X Y → ∃ σ', p_X4_countCommands_L6 fuel (nI (m + 1)) σ = some (-1, σ') ∧ TC σ' X Y' ∧ Fm [11] icR σ σ') ∧ (∀ σ fuel, L < fuel → TM σ X Y → gI σ 20 0 21 = nI m → ∃ σ', p_X7_isText_L10 fuel σ = some (0, σ') ∧ TM σ' X Y' ∧ Fm [28] imR σ σ')) ∨
    (∃ l, l ≠ [] ∧ m + l.length ≤ 30 ∧ Cmds l Y ∧ (∀ σ fuel, L < fuel → TC σ X Y → ∃ σ', p_X4_countCommands_L6 fuel (nI (m + 1)) σ = some (nI (m + l.length), σ') ∧ Fm [11] icR σ σ') ∧ (∀ σ fuel, L < fuel → TM σ X Y → gI σ 20 0 21 = nI m → ∃ σ', p_X7_isText_L10 fuel σ = some (1, σ') ∧ gI σ' 20 0 21 = nI (m + l.length) ∧ toldIs σ' m l ∧ (∀ j, j < 4 * m → gA σ' 28 0 j = gA σ 28 0 j) ∧ Fm [28] imR σ σ')) := by
  intro L
  induction L with
  | zero =>
    intro Y m h1 h2
    obtain rfl : Y = [] := List.length_eq_zero_iff.mp (by omega)
    obtain ⟨g1, g2⟩ := scan_bad (m := m) (Y := []) hX hN (by omega) (by rw [rdC_nil])
    exact Or.inl ⟨_, g1, g2⟩
  | succ L ih =>
    intro Y m h1 h2
    cases hok : (rdC Y).1 with
    | false =>
      obtain ⟨g1, g2⟩ := scan_bad (m := m) (Y := Y) hX hN (by omega) hok
      exact Or.inl ⟨_, fun σ fuel hf => g1 σ fuel (by omega), fun σ fuel hf => g2 σ fuel (by omega)⟩
    | true =>
      have hlt := rdC_len hok
      have c60 : ¬ (60 : Int32) < nI (m + 1) := nI_nlt (a := 60) (by omega) (by omega)
      have told1 : ∀ σ', gA σ' 28 0 (4 * m) = hdC Y → (∀ u (hu : u < (rdC Y).2.1.length), gA σ' 28 0 (4 * m + 1 + u) = (rdC Y).2.1[u]) → ∀ l, toldIs σ' (m + 1) l → toldIs σ' m ((hdC Y, (rdC Y).2.1) :: l) := by
        intro σ' q1 q2 l ql t ht
        cases t with
        | zero => exact ⟨q1, q2⟩
        | succ t =>
          have ht' : t < l.length := by simp at ht; omega
          have := ql t ht'
          rw [show m + 1 + t = m + (t + 1) by omega] at this
          exact this
      cases hR : (rdC Y).2.2 with
      | nil =>
        refine Or.inr ⟨[(hdC Y, (rdC Y).2.1)], by simp, by simp; omega, ⟨hok, rfl, Or.inl rfl⟩, fun σ fuel hf hT => ?_, fun σ fuel hf hT h21 => ?_⟩
        · obtain ⟨fuel, rfl⟩ : ∃ z, fuel = z + 1 := ⟨fuel - 1, by omega⟩
          obtain ⟨σ1, e1, t1, -, -, f1⟩ := c_command hX hN hT
          rw [hR] at t1
          refine ⟨σ1, ?_, f1⟩
          rw [p_X4_countCommands_L6, if_neg c60, e1, bS, hok, if_neg bt0, if_neg (t1.nlt hX)]
          rfl
        · obtain ⟨fuel, rfl⟩ : ∃ z, fuel = z + 1 := ⟨fuel - 1, by omega⟩
          obtain ⟨σ1, e1, t1, q1, k1, f1⟩ := m_command hX (by omega) hT h21
          obtain ⟨q1, q2⟩ := q1 hok
          rw [hR] at t1
          have h21' : gI σ1 20 0 21 = nI m := (f1.1 20 0 21 (by decide)).trans h21
          have f2 : Fm [] [(20, 21)] σ1 (sI σ1 20 0 21 (nI (m + 1))) := Fm.sI (by simp)
          have t2 := t1.fm f2 (by decide) (by decide) (by decide)
          refine ⟨sI σ1 20 0 21 (nI (m + 1)), ?_, by rw [gI_sI, if_pos ⟨rfl, rfl, rfl⟩]; rfl, told1 _ q1 q2 [] (fun t ht => absurd ht (Nat.not_lt_zero _)), fun j hj => k1 j hj, (f1.mono (by decide) (by decide)).trans (f2.mono (by decide) (by decide))⟩
          rw [p_X7_isText_L10, e1, bS, hok, if_neg bt0, h21', nI_1, m_skipN hX (c := 59) (by decide) t2 (by decide), bS, if_pos rfl, if_pos t2.eqE]
      | cons x Z =>
        rw [hR, List.length_cons] at hlt
        by_cases hx : x = 59
        · subst hx
          have step : ∀ l, Cmds l Z → Cmds ((hdC Y, (rdC Y).2.1) :: l) Y := fun l hl => ⟨hok, rfl, Or.inr ⟨Z, hR, hl⟩⟩
          have cstep : ∀ σ fuel, TC σ X Y → ∃ σ2, p_X4_countCommands_L6 (fuel + 1) (nI (m + 1)) σ = p_X4_countCommands_L6 fuel (nI (m + 1 + 1)) σ2 ∧ TC σ2 X Z ∧ Fm [11] icR σ σ2 := by
            intro σ fuel hT
            obtain ⟨σ1, e1, t1, -, -, f1⟩ := c_command hX hN hT
            rw [hR] at t1
            refine ⟨_, ?_, t1.adv, f1.trans (Fm.sI (by decide))⟩
            have hcur : p_X4_current σ1 = some 59 := c_cur hX hN t1
            rw [p_X4_countCommands_L6, if_neg c60, e1, bS, hok, if_neg bt0, if_pos (t1.lt hX), hcur, bS, if_pos rfl, p_X4_passSeparator, bS, nI_1]
          have mstep : ∀ σ fuel, TM σ X Y → gI σ 20 0 21 = nI m → ∃ σ2, p_X7_isText_L10 (fuel + 1) σ = p_X7_isText_L10 fuel σ2 ∧ TM σ2 X Z ∧ gI σ2 20 0 21 = nI (m + 1) ∧ gA σ2 28 0 (4 * m) = hdC Y ∧ (∀ u (hu : u < (rdC Y).2.1.length), gA σ2 28 0 (4 * m + 1 + u) = (rdC Y).2.1[u]) ∧ (∀ j, j < 4 * m → gA σ2 28 0 j = gA σ 28 0 j) ∧ Fm [28] imR σ σ2 := by
            intro σ fuel hT h21
            obtain ⟨σ1, e1, t1, q1, k1, f1⟩ := m_command hX (by omega) hT h21
            obtain ⟨q1, q2⟩ := q1 hok
            rw [hR] at t1
            have h21' : gI σ1 20 0 21 = nI m := (f1.1 20 0 21 (by decide)).trans h21
            have f2 : Fm [] [(20, 21)] σ1 (sI σ1 20 0 21 (nI (m + 1))) := Fm.sI (by simp)
            have t2 := t1.fm f2 (by decide) (by decide) (by decide)
            obtain ⟨σ2, e2, t3, k3, f3⟩ := m_skipY hX (c := 59) (by decide) t2 rfl
            refine ⟨σ2, ?_, t3, ?_, (k3 _).trans q1, fun u hu => (k3 _).trans (q2 u hu), fun j hj => (k3 j).trans (k1 j hj), ((f1.mono (by decide) (by decide)).trans (f2.mono (by decide) (by decide))).trans (f3.mono (by decide) (by decide))⟩
            · rw [p_X7_isText_L10, e1, bS, hok, if_neg bt0, h21', nI_1, e2, bS, if_neg n10]
            · rw [f3.1 20 0 21 (by decide), gI_sI, if_pos ⟨rfl, rfl, rfl⟩]
          rcases ih Z (m + 1) (by omega) (by omega) with ⟨Y', g1, g2⟩ | ⟨l, l0, l1, l2, g1, g2⟩
          · refine Or.inl ⟨Y', fun σ fuel hf hT => ?_, fun σ fuel hf hT h21 => ?_⟩
            · obtain ⟨fuel, rfl⟩ : ∃ z, fuel = z + 1 := ⟨fuel - 1, by omega⟩
              obtain ⟨σ2, e2, t2, f2⟩ := cstep σ fuel hT
              obtain ⟨σ3, e3, t3, f3⟩ := g1 σ2 fuel (by omega) t2
              exact ⟨σ3, e2.trans e3, t3, f2.trans f3⟩
            · obtain ⟨fuel, rfl⟩ : ∃ z, fuel = z + 1 := ⟨fuel - 1, by omega⟩
              obtain ⟨σ2, e2, t2, q21, -, -, -, f2⟩ := mstep σ fuel hT h21
              obtain ⟨σ3, e3, t3, f3⟩ := g2 σ2 fuel (by omega) t2 q21
              exact ⟨σ3, e2.trans e3, t3, f2.trans f3⟩
          · refine Or.inr ⟨(hdC Y, (rdC Y).2.1) :: l, by simp, by simp; omega, step l l2, fun σ fuel hf hT => ?_, fun σ fuel hf hT h21 => ?_⟩
            · obtain ⟨fuel, rfl⟩ : ∃ z, fuel = z + 1 := ⟨fuel - 1, by omega⟩
              obtain ⟨σ2, e2, t2, f2⟩ := cstep σ fuel hT
              obtain ⟨σ3, e3, f3⟩ := g1 σ2 fuel (by omega) t2
              refine ⟨σ3, e2.trans (e3.trans ?_), f2.trans f3⟩
              rw [List.length_cons, show m + 1 + l.length = m + (l.length + 1) by omega]
            · obtain ⟨fuel, rfl⟩ : ∃ z, fuel = z + 1 := ⟨fuel - 1, by omega⟩
              obtain ⟨σ2, e2, t2, q21, q1, q2, k2, f2⟩ := mstep σ fuel hT h21
              obtain ⟨σ3, e3, q3, tl, k3, f3⟩ := g2 σ2 fuel (by omega) t2 q21
              refine ⟨σ3, e2.trans e3, ?_, told1 σ3 ((k3 _ (by omega)).trans q1) (fun u hu => ?_) l tl, fun j hj => (k3 j (by omega)).trans (k2 j hj), f2.trans f3⟩
              · rw [q3, List.length_cons, show m + 1 + l.length = m + (l.length + 1) by omega]
              · have hn3 : (rdC Y).2.1.length ≤ 3 := by
                  unfold rdC
                  by_cases hS : shOf (hdC Y) = []
                  · rw [if_pos hS]; simp
                  · rw [if_neg hS]
                    have h9 := (rdS_num (shOf (hdC Y)) 1 Y.tail).1
                    have h8 : dn (shOf (hdC Y)) ≤ 3 := (sh_byt (shape_lt (hdC Y))).2.2.2.1
                    omega
                exact (k3 _ (by omega)).trans (q2 u hu)
        · refine Or.inl ⟨x :: Z, fun σ fuel hf hT => ?_, fun σ fuel hf hT h21 => ?_⟩
          · obtain ⟨fuel, rfl⟩ : ∃ z, fuel = z + 1 := ⟨fuel - 1, by omega⟩
            obtain ⟨σ1, e1, t1, -, -, f1⟩ := c_command hX hN hT
            rw [hR] at t1
            have hcur : p_X4_current σ1 = some x := c_cur hX hN t1
            refine ⟨σ1, ?_, t1, f1⟩
            rw [p_X4_countCommands_L6, if_neg c60, e1, bS, hok, if_neg bt0, if_pos (t1.lt hX), hcur, bS, if_neg hx]
          · obtain ⟨fuel, rfl⟩ : ∃ z, fuel = z + 1 := ⟨fuel - 1, by omega⟩
            obtain ⟨σ1, e1, t1, -, -, f1⟩ := m_command hX (by omega) hT h21
            rw [hR] at t1
            have h21' : gI σ1 20 0 21 = nI m := (f1.1 20 0 21 (by decide)).trans h21
            have f2 : Fm [] [(20, 21)] σ1 (sI σ1 20 0 21 (nI (m + 1))) := Fm.sI (by simp)
            have t2 := t1.fm f2 (by decide) (by decide) (by decide)
            refine ⟨sI σ1 20 0 21 (nI (m + 1)), ?_, t2, (f1.mono (by decide) (by decide)).trans (f2.mono (by decide) (by decide))⟩
            rw [p_X7_isText_L10, e1, bS, hok, if_neg bt0, h21', nI_1, m_skipN hX (c := 59) (by decide) t2 hx, bS, if_pos rfl, if_neg (t2.ne hX)]
end SCA

/-! PURE: sum, dearest, drover, exposed, wouldChange -/
theorem smL {α β γ : Type} (a : α) (f : α → γ) (g : β → γ) : sm (Sum.inl a) f g = f a := by
  have h : f a = f a := Eq.refl _
  exact h
theorem smR {α β γ : Type} (b : β) (f : α → γ) (g : β → γ) : sm (Sum.inr b) f g = g b := by
  have h : g b = g b := Eq.refl _
  exact h
theorem bS {α β : Type} (a : α) (f : α → Option β) : (some a).bind f = f a := by
  have h : f a = f a := Eq.refl _
  exact h
section SM
variable {σ : Sg} {G : Row} {n : Nat}
theorem tolL_app (P Q : List Nat) : tolL G (P ++ Q) = tolL G P + tolL G Q := by simp [tolL]
theorem tolL_rev (P : List Nat) : tolL G P.reverse = tolL G P := by
  induction P with
  | nil => rfl
  | cons x P ih => rw [List.reverse_cons, tolL_app, ih]; simp [tolL]; omega
theorem tolL_cons (x : Nat) (P : List Nat) : tolL G (x :: P) = tolN G x + tolL G P := by simp [tolL]
theorem tolL_le (hI : Inv G n) : ∀ P : List Nat, (∀ x ∈ P, x < n) → tolL G P ≤ 200 * P.length := by
  intro P
  induction P with
  | nil => intro _; simp [tolL]
  | cons x P ih =>
    intro h
    have h1 := ih (fun y hy => h y (List.mem_cons_of_mem _ hy))
    have h2 := (tol_eq hI (h x List.mem_cons_self)).2
    rw [tolL_cons, List.length_cons]
    omega
theorem c_tollsToRoot (hC : CR σ 0 G) (hI : Inv G n) {v : Int32} (hv : FOk n v) : p_X1_tollsToRoot v σ = some (nI (tolL G (up G v))) := by
  have hn := hI.1
  have key : ∀ fuel a s, (up G v).length < fuel → s + (up G v).length ≤ 12 → p_X1_tollsToRoot_L7 σ fuel (nI a) v (nI s) = some (nI (a + tolL G (up G v))) := by
    refine up_ind hI.1 hI.2.2.1 (C := fun v => ∀ fuel a s, (up G v).length < fuel → s + (up G v).length ≤ 12 → p_X1_tollsToRoot_L7 σ fuel (nI a) v (nI s) = some (nI (a + tolL G (up G v)))) ?_ ?_ hv
    · intro fuel a s h1 h2
      obtain ⟨fuel, rfl⟩ : ∃ z, fuel = z + 1 := ⟨fuel - 1, by omega⟩
      simp only [p_X1_tollsToRoot_L7, up_neg]
      split <;> simp [tolL]
    · intro k hk ih fuel a s h1 h2
      have hu := up_c hI hk
      have hl := congrArg List.length hu
      simp only [List.length_cons] at hl
      obtain ⟨fuel, rfl⟩ : ∃ z, fuel = z + 1 := ⟨fuel - 1, by omega⟩
      simp only [p_X1_tollsToRoot_L7]
      rw [if_neg (show ¬ (12 : Int32) ≤ nI s from nI_ge (b := 12) (by omega) (by decide)), if_neg (ne_m1 (by omega)), c_tollOf hC (by omega), c_parentOf hC (by omega)]
      simp only [Option.bind_some, nI_1]
      rw [(tol_eq hI hk).1, nI_add, ih fuel _ (s + 1) (by omega) (by omega), hu, tolL_cons, Nat.add_assoc]
  have hl := up_len hI.1 hI.2.2.1 hv
  have := key 400 0 0 (by omega) (by omega)
  rw [Nat.zero_add] at this
  exact this
theorem cmd_sum (v w : Int32) : Cmd (p_X6_sum v w) (p_X7_sum v w) (e12 eIO eNS) := by
  refine way_cmd (v := v) (w := w) (fun σ σ' E h => by unfold p_X6_sum; rw [h]; rfl) (fun σ σ1 h => by unfold p_X7_sum; rw [h]; exact ⟨0, rfl⟩) ?_
  intro G n a b hI ha hb hv hw hj
  have hn := hI.1
  obtain ⟨m, hm⟩ := (joined_meet hI ha hb).mp hj
  obtain ⟨m1, m2⟩ := meetL_mem hm
  have fa : FOk n (nI a) := Or.inr ⟨a, ha, rfl⟩
  have fb : FOk n (nI b) := Or.inr ⟨b, hb, rfl⟩
  have l1 := List.idxOf_lt_length_of_mem m1
  have hmn := up_mem hI.1 hI.2.2.1 fa m m1
  have hpl : (path G a b).length = _ := path_len hm
  refine ⟨.inl (nI (tolL G (path G a b))), fun σ σ1 hC hW hh h => ⟨σ1, ?_, Fr.refl⟩, fun σ σ1 hM hP h8 h => ⟨_, σ1, ?_, Fm.refl, ⟨rfl, h8⟩⟩⟩
  · unfold p_X6_sum
    rw [h]
    simp only [Option.bind_some, sm, p_X5_highestFarm]
    rw [hh]
    simp only [hiP, hm]
    rw [c_farmAt hW (by omega)]
    have hx : (path G a b)[(up G (nI a)).idxOf m]'(by omega) = m := by
      simp only [path, pathL, hm]
      rw [List.getElem_append_left (by rw [List.length_take]; omega), List.getElem_take, List.getElem_idxOf]
    rw [hx]
    simp only [Option.bind_some]
    rw [c_tollsToRoot hC hI (Or.inr ⟨m, hmn, rfl⟩), c_parentOf hC (by omega)]
    simp only [Option.bind_some]
    rw [c_tollsToRoot hC hI (hI.2.2.1.ok hmn), hv, hw, c_tollsToRoot hC hI fa, c_tollsToRoot hC hI fb]
    simp only [Option.bind_some, oC]
    have e1 := congrArg (tolL G) (up_split hI fa m m1)
    have e2 := congrArg (tolL G) (up_split hI fb m m2)
    have e3 := congrArg (tolL G) (up_c hI hmn)
    rw [tolL_app] at e1 e2
    rw [tolL_cons] at e3
    have e4 : tolL G (path G a b) = tolL G ((up G (nI a)).take ((up G (nI a)).idxOf m)) + tolN G m + tolL G ((up G (nI b)).take ((up G (nI b)).idxOf m)) := by
      simp only [path, pathL, hm]
      rw [tolL_app, tolL_rev, List.take_succ, tolL_app]
      have : (up G (nI a))[(up G (nI a)).idxOf m]? = some m := by rw [List.getElem?_eq_getElem l1, List.getElem_idxOf]
      rw [this]
      simp [tolL]
    rw [nI_add, nI_add, pk_sub (by omega)]
    congr 4
    omega
  · unfold p_X7_sum
    rw [h]
    simp only [Option.bind_some, if_true]
    rw [m_pathToll hM hI hP (path_mem hI ha hb)]
    rfl
/-- the place of the dearest farm, the first of such -/
def dea (G : Row) (P : List Nat) : Nat → Nat → Nat → Nat
  | 0, _, best => best
  | m + 1, i, best => dea G P m (i + 1) (if tolN G (P.getD i 0) ≤ tolN G (P.getD best 0) then best else i)
theorem getD_of {P : List Nat} {i : Nat} (h : i < P.length) : P.getD i 0 = P[i] := by simp [List.getD_eq_getElem?_getD, List.getElem?_eq_getElem h]
theorem c_dea {P : List Nat} (hC : CR σ 0 G) (hI : Inv G n) (h : WR σ P) (hP : ∀ x ∈ P, x < n) : ∀ m i best fuel, i + m = P.length → best < P.length → m < fuel → p_X6_dearest_L18 fuel (nI (P.getD best 0)) (nI i) σ = some (.inl (nI (P.getD (dea G P m i best) 0)), σ) := by
  have hn := hI.1
  have hl := h.2.1
  intro m
  induction m with
  | zero =>
    intro i best fuel h1 h2 h3
    obtain ⟨fuel, rfl⟩ : ∃ z, fuel = z + 1 := ⟨fuel - 1, by omega⟩
    simp only [p_X6_dearest_L18, p_X5_farms, Option.bind_some, dea]
    rw [h.1, if_pos (nI_le (by omega) (by omega))]
  | succ m ih =>
    intro i best fuel h1 h2 h3
    obtain ⟨fuel, rfl⟩ : ∃ z, fuel = z + 1 := ⟨fuel - 1, by omega⟩
    have hi : i < P.length := by omega
    have x1 := hP _ (List.getElem_mem hi)
    have x2 := hP _ (List.getElem_mem h2)
    simp only [p_X6_dearest_L18, p_X5_farms, Option.bind_some, dea]
    rw [h.1, if_neg (nI_ge hi (by omega)), c_farmAt h hi]
    simp only [Option.bind_some]
    rw [c_tollOf hC (by omega), getD_of h2]
    simp only [Option.bind_some]
    rw [c_tollOf hC (by omega)]
    simp only [Option.bind_some, nI_1]
    have t1 := tol_eq hI x1
    have t2 := tol_eq hI x2
    rw [t1.1, t2.1, getD_of hi]
    by_cases hc : tolN G P[i] ≤ tolN G P[best]
    · rw [if_pos (nI_le hc (by omega)), if_pos hc, ← getD_of h2]
      exact ih (i + 1) best fuel (by omega) h2 (by omega)
    · rw [if_neg (nI_ge (by omega) (by omega)), if_neg hc, ← getD_of hi]
      exact ih (i + 1) i fuel (by omega) hi (by omega)
theorem m_dea {P : List Nat} (hM : MR σ G) (hI : Inv G n) (h : PR σ P) (hP : ∀ x ∈ P, x < n) : ∀ m i best fuel, i + m = P.length → best < P.length → m < fuel → p_X7_dearest_L16 fuel (nI best) (nI i) σ = some (nI (P.getD (dea G P m i best) 0), σ) := by
  have hn := hI.1
  have hl := h.2.1
  intro m
  induction m with
  | zero =>
    intro i best fuel h1 h2 h3
    obtain ⟨fuel, rfl⟩ : ∃ z, fuel = z + 1 := ⟨fuel - 1, by omega⟩
    simp only [p_X7_dearest_L16, dea]
    rw [h.1, if_pos (nI_le (by omega) (by omega)), if_pos (ib_t (by omega) (by omega)), nI_clamp (by omega), h.2.2 best h2, getD_of h2]
  | succ m ih =>
    intro i best fuel h1 h2 h3
    obtain ⟨fuel, rfl⟩ : ∃ z, fuel = z + 1 := ⟨fuel - 1, by omega⟩
    have hi : i < P.length := by omega
    have x1 := hP _ (List.getElem_mem hi)
    have x2 := hP _ (List.getElem_mem h2)
    simp only [p_X7_dearest_L16, dea]
    rw [h.1, if_neg (nI_ge hi (by omega)), if_pos (ib_t (by omega) (by omega)), nI_clamp (by omega), h.2.2 i hi, m_toll hM (by omega)]
    simp only [Option.bind_some]
    rw [if_pos (ib_t (by omega) (by omega)), nI_clamp (by omega), h.2.2 best h2, m_toll hM (by omega)]
    simp only [Option.bind_some, nI_1]
    have t1 := tol_eq hI x1
    have t2 := tol_eq hI x2
    rw [t1.1, t2.1, getD_of hi, getD_of h2]
    by_cases hc : tolN G P[i] ≤ tolN G P[best]
    · rw [if_pos (nI_le hc (by omega)), if_pos hc]
      exact ih (i + 1) best fuel (by omega) h2 (by omega)
    · rw [if_neg (nI_ge (by omega) (by omega)), if_neg hc]
      exact ih (i + 1) i fuel (by omega) hi (by omega)
theorem cmd_dearest (v w : Int32) : Cmd (p_X6_dearest v w) (p_X7_dearest v w) (e12 eIO eNS) := by
  refine way_cmd (v := v) (w := w) (fun σ σ' E h => by unfold p_X6_dearest; rw [h, bS, smR]) (fun σ σ1 h => by unfold p_X7_dearest; rw [h, bS, if_neg (show ¬ (1 : Int32) = 0 by decide)]; exact ⟨0, rfl⟩) ?_
  intro G n a b hI ha hb hv hw hj
  have hpos := path_pos hI ha hb hj
  have hle := path_le hI ha hb
  obtain ⟨m, hm⟩ : ∃ m, 1 + m = (path G a b).length := ⟨(path G a b).length - 1, by omega⟩
  refine ⟨.inl (nI ((path G a b).getD (dea G (path G a b) m 1 0) 0)), fun σ σ1 hC hW hh h => ⟨σ1, ?_, Fr.refl⟩, fun σ σ1 hM hP h8 h => ⟨_, σ1, ?_, Fm.refl, ⟨rfl, h8⟩⟩⟩
  · have e0 : p_X5_farmAt 0 σ1 = some (nI ((path G a b).getD 0 0)) := by
      have := c_farmAt hW hpos
      rw [getD_of hpos]
      exact this
    have h9 := c_dea hC hI hW (path_mem hI ha hb) m 1 0 400 hm hpos (by omega)
    have e1 : p_X6_dearest v w σ = p_X6_dearest_L18 400 (nI ((path G a b).getD 0 0)) 1 σ1 := by
      unfold p_X6_dearest
      rw [h, bS, smL, e0, bS]
    rw [e1, show (1 : Int32) = nI 1 from rfl, h9]
    rfl
  · unfold p_X7_dearest
    rw [h, bS, if_pos rfl]
    have h9 := m_dea hM hI hP (path_mem hI ha hb) m 1 0 400 hm hpos (by omega)
    rw [show nI 1 = (1 : Int32) from rfl, show nI 0 = (0 : Int32) from rfl] at h9
    exact h9
end SM

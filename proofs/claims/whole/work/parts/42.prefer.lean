/-! PURE: what an exposing changes -/
def ne01 (x y : Int32) : Nat := if x = y then 0 else 1
theorem ne01_t {x y : Int32} (h : x = y) : ne01 x y = 0 := if_pos h
theorem ne01_f {x y : Int32} (h : ¬ x = y) : ne01 x y = 1 := if_neg h
def xch (G : Row) : Int32 → List Nat → Nat
  | _, [] => 0
  | nx, k :: l => ne01 (G (32 + k)) nx + xch G (nI k) l
def hdE : List Nat → Int32 → Int32
  | [], e => e
  | y :: _, _ => nI y
def cch (G : Row) : List Nat → Int32 → Nat
  | [], _ => 0
  | x :: P, e => ne01 (G (32 + x)) (hdE P e) + cch G P e
section PF
variable {σ : Sg} {G : Row} {n : Nat}
theorem cch_snoc (x : Nat) (e : Int32) : ∀ P : List Nat, cch G (P ++ [x]) e = cch G P (nI x) + ne01 (G (32 + x)) e := by
  intro P
  induction P with
  | nil => simp [cch, hdE]
  | cons y P ih =>
    rw [List.cons_append, cch, ih, cch]
    cases P with
    | nil => simp [cch, hdE]
    | cons z P => simp only [List.cons_append, hdE]; omega
theorem cch_rev : ∀ (l : List Nat) (e : Int32), cch G l.reverse e = xch G e l := by
  intro l
  induction l with
  | nil => intro e; rfl
  | cons k l ih =>
    intro e
    rw [List.reverse_cons, cch_snoc, ih, xch]
    omega
theorem up_root (hI : Inv G n) {k : Nat} (hk : k < n) : up G (nI (rootN G k)) = [rootN G k] := by
  rw [up_c hI (root_lt hI hk), root_par hI hk, up_neg]
theorem root_root (hI : Inv G n) {k : Nat} (hk : k < n) : rootN G (rootN G k) = rootN G k := rootN_top hI (root_lt hI hk) (root_par hI hk)
theorem path_root (hI : Inv G n) {k : Nat} (hk : k < n) : path G (rootN G k) k = (up G (nI k)).reverse := by
  have hm := root_mem hI hk
  have hsp := up_split hI (Or.inr ⟨k, hk, rfl⟩ : FOk n (nI k)) _ hm
  have hmeet : meetL (up G (nI (rootN G k))) (up G (nI k)) = some (rootN G k) := by
    have hj : joined G (rootN G k) k = true := by simp [joined, root_root hI hk]
    obtain ⟨m, h⟩ := (joined_meet hI (root_lt hI hk) hk).mp hj
    have := (meetL_mem h).1
    rw [up_root hI hk] at this
    simp at this
    rw [h, this]
  simp only [path, pathL, hmeet]
  conv => rhs; rw [hsp]
  rw [up_root hI hk, List.reverse_append]
  simp
theorem c_prefCh {P : List Nat} (hC : CR σ 0 G) (h : WR σ P) (hP : ∀ x ∈ P, x < 12) : p_X5_preferencesToChange σ = some (nI (cch G P (-1))) := by
  have hl := h.2.1
  have key : ∀ (Q : List Nat) (i a fuel : Nat), P.drop i = Q → i + Q.length = P.length → Q.length < fuel → p_X5_preferencesToChange_L4 σ fuel (nI a) (nI i) = some (nI (a + cch G Q (-1))) := by
    intro Q
    induction Q with
    | nil =>
      intro i a fuel h1 h2 h3
      obtain ⟨fuel, rfl⟩ : ∃ z, fuel = z + 1 := ⟨fuel - 1, by omega⟩
      simp only [List.length_nil] at h2
      rw [p_X5_preferencesToChange_L4, h.1, if_pos (nI_le (by omega) (by omega))]
      rfl
    | cons x Q ih =>
      intro i a fuel h1 h2 h3
      obtain ⟨fuel, rfl⟩ : ∃ z, fuel = z + 1 := ⟨fuel - 1, by omega⟩
      simp only [List.length_cons] at h2 h3
      have hi : i < P.length := by omega
      have hx : P[i] = x := by
        have := List.getElem_drop (xs := P) (i := i) (j := 0) (h := by rw [h1]; simp)
        simp only [h1, List.getElem_cons_zero, Nat.add_zero] at this
        exact this.symm
      have hd : P.drop (i + 1) = Q := by rw [← List.drop_drop, h1]; rfl
      have hx12 : x < 12 := hP x (hx ▸ List.getElem_mem hi)
      have hnext : p_X5_farmAt (nI i + 1) σ = some (hdE Q (-1)) := by
        rw [nI_1]
        cases Q with
        | nil => simp only [List.length_nil] at h2; rw [c_farmAt1 h (by omega) (by omega)]; rfl
        | cons y Q =>
          simp only [List.length_cons] at h2
          rw [c_farmAt h (show i + 1 < P.length by omega)]
          have := List.getElem_drop (xs := P) (i := i + 1) (j := 0) (h := by rw [hd]; simp)
          simp only [hd, List.getElem_cons_zero, Nat.add_zero] at this
          rw [← this]; rfl
      rw [p_X5_preferencesToChange_L4, h.1, if_neg (nI_ge hi (by omega)), c_farmAt h hi, bS, hx, c_preferredOf hC hx12, bS, hnext, bS]
      rw [cch]
      by_cases hc : G (32 + x) = (hdE Q (-1))
      · rw [if_pos hc, ne01_t hc, nI_1, ih (i + 1) a fuel hd (by omega) (by omega), Nat.zero_add]
      · rw [if_neg hc, ne01_f hc, nI_1, nI_1, ih (i + 1) (a + 1) fuel hd (by omega) (by omega), Nat.add_assoc]
  have := key P 0 0 400 rfl (by omega) (by omega)
  rw [Nat.zero_add] at this
  exact this
theorem m_exp0 (hM : MR σ G) (hI : Inv G n) {v : Int32} (hv : FOk n v) : p_X7_exposes v 0 σ = some (nI (xch G (-1) (up G v)), σ) := by
  have hn := hI.1
  have key : ∀ (fuel a : Nat) (nx : Int32), (up G v).length < fuel → p_X7_exposes_L8 fuel 0 (nI a) nx v σ = some (nI (a + xch G nx (up G v)), σ) := by
    refine up_ind hI.1 hI.2.2.1 (C := fun v => ∀ (fuel a : Nat) (nx : Int32), (up G v).length < fuel → p_X7_exposes_L8 fuel 0 (nI a) nx v σ = some (nI (a + xch G nx (up G v)), σ)) ?_ ?_ hv
    · intro fuel a nx h
      obtain ⟨fuel, rfl⟩ : ∃ z, fuel = z + 1 := ⟨fuel - 1, by omega⟩
      rw [p_X7_exposes_L8, if_pos neg1_lt, up_neg]; rfl
    · intro k hk ih fuel a nx h
      have hu := up_c hI hk
      have hl := congrArg List.length hu
      simp only [List.length_cons] at hl
      obtain ⟨fuel, rfl⟩ : ∃ z, fuel = z + 1 := ⟨fuel - 1, by omega⟩
      rw [p_X7_exposes_L8, if_neg (nI_pos (by omega)), m_prefers hM (by omega), bS, hu, xch]
      by_cases hc : G (32 + k) = nx
      · rw [if_pos hc, if_pos rfl, ne01_t hc, m_parent hM (by omega), bS, show nI a + 0 = nI (a + 0) from nI_add a 0, ih fuel _ _ (by omega), Nat.add_assoc]
      · rw [if_neg hc, if_pos rfl, ne01_f hc, m_parent hM (by omega), bS, nI_1, ih fuel _ _ (by omega), Nat.add_assoc]
  have hl := up_len hI.1 hI.2.2.1 hv
  have := key 400 0 (-1) (by omega)
  rw [Nat.zero_add] at this
  exact this
end PF
theorem cmd_wouldChange (v : Int32) : Cmd (p_X6_wouldChange v) (p_X7_wouldChange v) (e12 eIO eNS) := by
  refine farm_cmd (v := v) rfl (fun σ h => by unfold p_X6_wouldChange; rw [h, bS, smR]) (fun σ h => by unfold p_X7_wouldChange; rw [h, bS, if_pos rfl, mf1, bS, if_neg (show ¬ (1 : Int32) = 0 by decide)]; exact ⟨_, rfl⟩) ?_
  rintro G n k hI hk rfl
  have hn := hI.1
  refine ⟨.inl (nI (xch G (-1) (up G (nI k)))), fun σ hC h => ?_, fun σ hM h => ⟨_, sI σ 20 0 8 0, ?_, f8, ⟨rfl, s8g _ 0⟩⟩⟩
  · obtain ⟨σ1, e1, f1, w1, -, -⟩ := c_follow hC hI (root_lt hI hk) hk
    rw [path_root hI hk] at w1
    have hC1 : CR σ1 0 G := hC.fr f1 (by decide) (by decide) (by decide) (by decide) (by decide)
    refine ⟨σ1, ?_, f1.mono (by simp)⟩
    unfold p_X6_wouldChange
    rw [h, bS, smL, c_rootOf hC hI hk, bS, e1, bS, c_prefCh hC1 w1 (fun x hx => by
      have := up_mem hI.1 hI.2.2.1 (Or.inr ⟨k, hk, rfl⟩ : FOk n (nI k)) x (List.mem_reverse.mp hx)
      omega), bS, cch_rev]
    rfl
  · unfold p_X7_wouldChange
    rw [h, bS, if_neg (show ¬ (1 : Int32) = 0 by decide), mf0, bS, if_pos rfl, m_exp0 hM.s8 hI (Or.inr ⟨k, hk, rfl⟩), bS]

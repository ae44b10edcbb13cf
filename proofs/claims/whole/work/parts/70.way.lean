/-! PURE: a way as a line -/
def wayT (G : Row) : List Nat → List Int32
  | [] => []
  | x :: P => 62 :: (dgs x ++ (36 :: (dgs (tolN G x) ++ wayT G P)))
def wayL (G : Row) : List Nat → List Int32
  | [] => []
  | x :: P => dgs x ++ (36 :: (dgs (tolN G x) ++ wayT G P))
theorem n62 : nch 62 = 62 := by decide
theorem n36 : nch 36 = 36 := by decide
def fw (x : Nat) : Nat := (dgs x).length
theorem fw_le {x : Nat} (h : x < 12) : fw x ≤ 2 := by
  unfold fw dgs
  split
  · simp
  · rw [if_pos (by omega)]; simp
theorem fw_1 {x : Nat} (h : x < 10) : fw x = 1 := by unfold fw dgs; rw [if_pos h]; rfl
theorem fw_sum : ∀ P : List Nat, P.Nodup → (∀ x ∈ P, x < 12) → (P.map fw).sum ≤ P.length + (if 10 ∈ P then 1 else 0) + (if 11 ∈ P then 1 else 0) := by
  intro P
  induction P with
  | nil => intro _ _; simp
  | cons x P ih =>
    intro h1 h2
    obtain ⟨h3, h4⟩ := List.nodup_cons.mp h1
    have h5 := ih h4 (fun y hy => h2 y (List.mem_cons_of_mem _ hy))
    have hx := h2 x List.mem_cons_self
    rw [List.map_cons, List.sum_cons, List.length_cons]
    by_cases e1 : x = 10
    · subst e1
      have h6 := fw_le hx
      rw [if_neg h3] at h5
      have e : (if 11 ∈ 10 :: P then 1 else 0) = (if 11 ∈ P then 1 else 0) := by simp
      rw [if_pos List.mem_cons_self, e]
      omega
    · by_cases e2 : x = 11
      · subst e2
        have h6 := fw_le hx
        rw [if_neg h3] at h5
        have e : (if 10 ∈ 11 :: P then 1 else 0) = (if 10 ∈ P then 1 else 0) := by simp
        rw [if_pos (show 11 ∈ 11 :: P from List.mem_cons_self), e]
        omega
      · have h6 := fw_1 (show x < 10 by omega)
        have e3 : (if 10 ∈ x :: P then 1 else 0) = (if 10 ∈ P then 1 else 0) := by
          have : ¬ 10 = x := fun e => e1 e.symm
          simp [this]
        have e4 : (if 11 ∈ x :: P then 1 else 0) = (if 11 ∈ P then 1 else 0) := by
          have : ¬ 11 = x := fun e => e2 e.symm
          simp [this]
        rw [e3, e4]
        omega
theorem wayT_len (G : Row) : ∀ P : List Nat, (wayT G P).length ≤ 5 * P.length + (P.map fw).sum := by
  intro P
  induction P with
  | nil => simp [wayT]
  | cons x P ih =>
    have h := dgs3 (tolN G x)
    simp only [wayT, List.length_cons, List.length_append, List.map_cons, List.sum_cons]
    have e : fw x = (dgs x).length := rfl
    omega
theorem wayL_len (G : Row) : ∀ P : List Nat, (wayL G P).length ≤ (wayT G P).length := by
  intro P
  cases P with
  | nil => simp [wayL]
  | cons x P => simp [wayL, wayT]
theorem way80 {G : Row} {P : List Nat} (hnd : P.Nodup) (hP : ∀ x ∈ P, x < 12) : (wayL G P).length ≤ 80 := by
  have h1 := nd_len 12 P hnd hP
  have h2 := fw_sum P hnd hP
  have h3 := wayT_len G P
  have h4 := wayL_len G P
  have h5 : (if 10 ∈ P then 1 else 0) ≤ 1 := by split <;> omega
  have h6 : (if 11 ∈ P then 1 else 0) ≤ 1 := by split <;> omega
  omega
section WAL
variable {G : Row} {n : Nat}
theorem c_wayT (hI : Inv G n) {P : List Nat} (hP : ∀ x ∈ P, x < n) : ∀ (Q : List Nat) (i fuel : Nat) (σ : Sg) (L : List Int32), 0 < i → WR σ P → CR σ 0 G → LC σ L → P.drop i = Q → i + Q.length = P.length → Q.length < fuel → L.length + (wayT G Q).length ≤ 80 → ∃ σ', p_X6_way_L15 fuel (nI i) σ = some (.inl (nI (L ++ wayT G Q).length), σ') ∧ LC σ' (L ++ wayT G Q) ∧ Fr [12, 13] σ σ' := by
  have hn := hI.1
  intro Q
  induction Q with
  | nil =>
    intro i fuel σ L h0 hW hC hL h1 h2 h3 h4
    have h12 := hW.2.1
    obtain ⟨fuel, rfl⟩ : ∃ z, fuel = z + 1 := ⟨fuel - 1, by omega⟩
    simp only [List.length_nil] at h2
    refine ⟨σ, ?_, by simpa [wayT] using hL, Fr.refl⟩
    rw [p_X6_way_L15, p_X5_farms, bS, hW.1, if_pos (nI_le (by omega) (by omega)), p_X2_length, bS, hL.1]
    simp [wayT]
  | cons x Q ih =>
    intro i fuel σ L h0 hW hC hL h1 h2 h3 h4
    have h12 := hW.2.1
    obtain ⟨fuel, rfl⟩ : ∃ z, fuel = z + 1 := ⟨fuel - 1, by omega⟩
    simp only [List.length_cons] at h2 h3
    simp only [wayT, List.length_cons, List.length_append] at h4
    have hi : i < P.length := by omega
    obtain ⟨hx, hd⟩ := drop_hd h1 hi
    have hxn : x < n := hP x (hx ▸ List.getElem_mem hi)
    have ht := tol_eq hI hxn
    obtain ⟨σ1, e1, l1, f1⟩ := c_wr n62 hL (by omega)
    obtain ⟨σ2, e2, l2, f2⟩ := c_num (show x < 1000 by omega) l1 (by simp; omega)
    obtain ⟨σ3, e3, l3, f3⟩ := c_wr n36 l2 (by simp; omega)
    obtain ⟨σ4, e4, l4, f4⟩ := c_num (show tolN G x < 1000 by omega) l3 (by simp; omega)
    have g1 : WR σ1 P := hW.fr f1 (by decide) (by decide)
    have g3 : WR σ3 P := hW.fr ((f1.trans f2).trans f3) (by decide) (by decide)
    have g4 : WR σ4 P := g3.fr f4 (by decide) (by decide)
    have k3 : CR σ3 0 G := hC.fr ((f1.trans f2).trans f3) (by decide) (by decide) (by decide) (by decide) (by decide)
    have k4 : CR σ4 0 G := k3.fr f4 (by decide) (by decide) (by decide) (by decide) (by decide)
    obtain ⟨σ', e5, l5, f5⟩ := ih (i + 1) fuel σ4 _ (by omega) g4 k4 l4 hd (by omega) (by omega) (by simp; omega)
    have eL : L ++ [62] ++ dgs x ++ [36] ++ dgs (tolN G x) ++ wayT G Q = L ++ wayT G (x :: Q) := by simp [wayT]
    rw [eL] at e5 l5
    refine ⟨σ', ?_, l5, (((f1.trans f2).trans f3).trans f4).trans f5⟩
    rw [p_X6_way_L15, p_X5_farms, bS, hW.1, if_neg (nI_ge hi (by omega)), if_neg (show ¬ nI i ≤ 0 from nI_ge h0 (by omega)), e1, bS, c_farmAt g1 hi, bS, hx, e2, bS, e3, bS, c_farmAt g3 hi, bS, hx, c_tollOf k3 (by omega), bS, ht.1, e4, bS, nI_1]
    exact e5
theorem c_wayL (hI : Inv G n) {P : List Nat} (hP : ∀ x ∈ P, x < n) (h0 : 0 < P.length) (h80 : (wayL G P).length ≤ 80) {σ : Sg} (hW : WR σ P) (hC : CR σ 0 G) (hL : LC σ []) : ∃ σ', p_X6_way_L15 400 0 σ = some (.inl (nI (wayL G P).length), σ') ∧ LC σ' (wayL G P) ∧ Fr [12, 13] σ σ' := by
  have hn := hI.1
  have h12 := hW.2.1
  cases P with
  | nil => simp at h0
  | cons x Q =>
    simp only [wayL, List.length_cons, List.length_append] at h80
    have hxn : x < n := hP x List.mem_cons_self
    have ht := tol_eq hI hxn
    obtain ⟨σ2, e2, l2, f2⟩ := c_num (show x < 1000 by omega) hL (by simp; omega)
    obtain ⟨σ3, e3, l3, f3⟩ := c_wr n36 l2 (by simp; omega)
    obtain ⟨σ4, e4, l4, f4⟩ := c_num (show tolN G x < 1000 by omega) l3 (by simp; omega)
    have g3 : WR σ3 (x :: Q) := hW.fr (f2.trans f3) (by decide) (by decide)
    have g4 : WR σ4 (x :: Q) := g3.fr f4 (by decide) (by decide)
    have k3 : CR σ3 0 G := hC.fr (f2.trans f3) (by decide) (by decide) (by decide) (by decide) (by decide)
    have k4 : CR σ4 0 G := k3.fr f4 (by decide) (by decide) (by decide) (by decide) (by decide)
    simp only [List.length_cons] at h12
    obtain ⟨σ', e5, l5, f5⟩ := c_wayT hI hP Q 1 399 σ4 _ (by omega) g4 k4 l4 rfl (by simp; omega) (by omega) (by simp; omega)
    have eL : [] ++ dgs x ++ [36] ++ dgs (tolN G x) ++ wayT G Q = wayL G (x :: Q) := by simp [wayL]
    rw [eL] at e5 l5
    refine ⟨σ', ?_, l5, ((f2.trans f3).trans f4).trans f5⟩
    have a0 : p_X5_farmAt 0 σ = some (nI x) := c_farmAt hW (i := 0) (by simp)
    have a3 : p_X5_farmAt 0 σ3 = some (nI x) := c_farmAt g3 (i := 0) (by simp)
    rw [p_X6_way_L15, p_X5_farms, bS, hW.1, if_neg (show ¬ nI (x :: Q).length ≤ 0 from nI_ge (by simp) (by simp; omega)), if_pos (show (0 : Int32) ≤ 0 by decide), a0, bS, e2, bS, e3, bS, a3, bS, c_tollOf k3 (by omega), bS, ht.1, e4, bS]
    exact e5
theorem m_wayT (hI : Inv G n) {P : List Nat} (hP : ∀ x ∈ P, x < n) : ∀ (Q : List Nat) (i fuel : Nat) (σ : Sg) (L : List Int32), 0 < i → PR σ P → MR σ G → LM σ L → P.drop i = Q → i + Q.length = P.length → Q.length < fuel → L.length + (wayT G Q).length ≤ 80 → ∃ σ', p_X7_way_L18 fuel (nI i) σ = some (nI (L ++ wayT G Q).length, σ') ∧ LM σ' (L ++ wayT G Q) ∧ Fm [26] [(20, 16)] σ σ' := by
  have hn := hI.1
  intro Q
  induction Q with
  | nil =>
    intro i fuel σ L h0 hW hC hL h1 h2 h3 h4
    have h12 := hW.2.1
    obtain ⟨fuel, rfl⟩ : ∃ z, fuel = z + 1 := ⟨fuel - 1, by omega⟩
    simp only [List.length_nil] at h2
    refine ⟨σ, ?_, by simpa [wayT] using hL, Fm.refl⟩
    rw [p_X7_way_L18, hW.1, if_pos (nI_le (by omega) (by omega)), hL.1]
    simp [wayT]
  | cons x Q ih =>
    intro i fuel σ L h0 hW hC hL h1 h2 h3 h4
    have h12 := hW.2.1
    obtain ⟨fuel, rfl⟩ : ∃ z, fuel = z + 1 := ⟨fuel - 1, by omega⟩
    simp only [List.length_cons] at h2 h3
    simp only [wayT, List.length_cons, List.length_append] at h4
    have hi : i < P.length := by omega
    obtain ⟨hx, hd⟩ := drop_hd h1 hi
    have hxn : x < n := hP x (hx ▸ List.getElem_mem hi)
    have ht := tol_eq hI hxn
    obtain ⟨σ1, e1, l1, f1⟩ := m_wr n62 hL (by omega)
    obtain ⟨σ2, e2, l2, f2⟩ := m_num (show x < 1000 by omega) l1 (by simp; omega)
    obtain ⟨σ3, e3, l3, f3⟩ := m_wr n36 l2 (by simp; omega)
    obtain ⟨σ4, e4, l4, f4⟩ := m_num (show tolN G x < 1000 by omega) l3 (by simp; omega)
    have g1 : PR σ1 P := hW.fm f1 (by decide) (by decide)
    have g3 : PR σ3 P := hW.fm ((f1.trans f2).trans f3) (by decide) (by decide)
    have g4 : PR σ4 P := g3.fm f4 (by decide) (by decide)
    have k3 : MR σ3 G := hC.fm ((f1.trans f2).trans f3) (by decide)
    have k4 : MR σ4 G := k3.fm f4 (by decide)
    obtain ⟨σ', e5, l5, f5⟩ := ih (i + 1) fuel σ4 _ (by omega) g4 k4 l4 hd (by omega) (by omega) (by simp; omega)
    have eL : L ++ [62] ++ dgs x ++ [36] ++ dgs (tolN G x) ++ wayT G Q = L ++ wayT G (x :: Q) := by simp [wayT]
    rw [eL] at e5 l5
    refine ⟨σ', ?_, l5, (((f1.trans f2).trans f3).trans f4).trans f5⟩
    rw [p_X7_way_L18, hW.1, if_neg (nI_ge hi (by omega)), if_neg (show ¬ nI i ≤ 0 from nI_ge h0 (by omega)), e1, bS, if_pos (ib_t (by omega) (by omega)), nI_clamp (by omega), g1.2.2 i hi, hx, e2, bS, e3, bS, if_pos (ib_t (by omega) (by omega)), g3.2.2 i hi, hx, m_toll k3 (by omega), bS, ht.1, e4, bS, nI_1]
    exact e5
theorem m_wayL (hI : Inv G n) {P : List Nat} (hP : ∀ x ∈ P, x < n) (h0 : 0 < P.length) (h80 : (wayL G P).length ≤ 80) {σ : Sg} (hW : PR σ P) (hC : MR σ G) (hL : LM σ []) : ∃ σ', p_X7_way_L18 400 0 σ = some (nI (wayL G P).length, σ') ∧ LM σ' (wayL G P) ∧ Fm [26] [(20, 16)] σ σ' := by
  have hn := hI.1
  have h12 := hW.2.1
  cases P with
  | nil => simp at h0
  | cons x Q =>
    simp only [wayL, List.length_cons, List.length_append] at h80
    have hxn : x < n := hP x List.mem_cons_self
    have ht := tol_eq hI hxn
    obtain ⟨σ2, e2, l2, f2⟩ := m_num (show x < 1000 by omega) hL (by simp; omega)
    obtain ⟨σ3, e3, l3, f3⟩ := m_wr n36 l2 (by simp; omega)
    obtain ⟨σ4, e4, l4, f4⟩ := m_num (show tolN G x < 1000 by omega) l3 (by simp; omega)
    have g3 : PR σ3 (x :: Q) := hW.fm (f2.trans f3) (by decide) (by decide)
    have g4 : PR σ4 (x :: Q) := g3.fm f4 (by decide) (by decide)
    have k3 : MR σ3 G := hC.fm (f2.trans f3) (by decide)
    have k4 : MR σ4 G := k3.fm f4 (by decide)
    simp only [List.length_cons] at h12
    obtain ⟨σ', e5, l5, f5⟩ := m_wayT hI hP Q 1 399 σ4 _ (by omega) g4 k4 l4 rfl (by simp; omega) (by omega) (by simp; omega)
    have eL : [] ++ dgs x ++ [36] ++ dgs (tolN G x) ++ wayT G Q = wayL G (x :: Q) := by simp [wayL]
    rw [eL] at e5 l5
    refine ⟨σ', ?_, l5, ((f2.trans f3).trans f4).trans f5⟩
    have a0 : gA σ 27 0 0 = nI x := hW.2.2 0 (by simp)
    have a3 : gA σ3 27 0 0 = nI x := g3.2.2 0 (by simp)
    have i0 : ib 0 12 = true := by decide
    rw [p_X7_way_L18, hW.1, if_neg (show ¬ nI (x :: Q).length ≤ 0 from nI_ge (by simp) (by simp; omega)), if_pos (show (0 : Int32) ≤ 0 by decide), if_pos i0, show (0 : Int32).toNatClampNeg = 0 from rfl, a0, e2, bS, e3, bS, if_pos i0, a3, m_toll k3 (by omega), bS, ht.1, e4, bS]
    exact e5
end WAL
theorem cmd_way (v w : Int32) : Cmd (p_X6_way v w) (p_X7_way v w) (e12 eIO eNS) := by
  intro s hA
  obtain ⟨i1, i2, i3, i4, i5, i6⟩ := id hA
  obtain ⟨G, hG⟩ : ∃ G, G = (aR s).1 := ⟨_, rfl⟩
  obtain ⟨n, hn⟩ : ∃ n, n = (aR s).2 := ⟨_, rfl⟩
  have hI : Inv G n := by rw [hG, hn]; exact i1
  have n12 := hI.1
  have hCG : ∀ σ, CRel σ s → CR σ 0 G := fun σ hC => by rw [hG]; exact hC.1
  have hMG : ∀ σ, MRel σ s 0 → MR σ G := fun σ hM => by rw [hG]; exact hM.1
  have hcN : ∀ σ σ1 E, p_X6_followWay v w σ = some (.inr E, σ1) → p_X6_way v w σ = some (.inr E, σ1) := fun σ σ1 E h => by unfold p_X6_way; rw [h, bS, smR]
  have hmN : ∀ σ σ1, p_X7_isNoWay v w σ = some (1, σ1) → p_X7_way v w σ = some (0, σ1) := fun σ σ1 h => by unfold p_X7_way; rw [h, bS, if_neg n10]
  cases hff : isF n v && isF n w with
  | false =>
    refine ⟨.inr 1, s, hA, fun σ hC => ?_, fun σ hM => ?_⟩
    · rcases c_followWay (hCG σ hC) hI v w with ⟨-, h⟩ | ⟨a, b, σ1, ha, hb, rfl, rfl, -⟩
      · exact simC_same (S := []) hC (hcN _ _ _ h) Fr.refl (by simp)
      · rw [isF_nI ha n12, isF_nI hb n12] at hff; cases hff
    · rcases m_noWay (hMG σ hM) hI v w with ⟨-, h⟩ | ⟨a, b, ha, hb, rfl, rfl, -⟩
      · exact simM_same hM (hmN _ _ h) (Fm.sI (A := []) (I := [(20, 8)]) (by simp)) sc2 ⟨s8g _ _, Or.inl rfl⟩
      · rw [isF_nI ha n12, isF_nI hb n12] at hff; cases hff
  | true =>
    have h2 : isF n v = true ∧ isF n w = true := by simpa using hff
    obtain ⟨a, ha, hva⟩ := isF_of n12 h2.1
    obtain ⟨b, hb, hwb⟩ := isF_of n12 h2.2
    have hsame : ∀ a' b', a' < n → b' < n → v = nI a' → w = nI b' → a' = a ∧ b' = b := fun a' b' ha' hb' hv hw => ⟨nI_inj (by omega) (by omega) (hv.symm.trans hva), nI_inj (by omega) (by omega) (hw.symm.trans hwb)⟩
    cases hj : joined G a b with
    | false =>
      refine ⟨.inr 2, s, hA, fun σ hC => ?_, fun σ hM => ?_⟩
      · rcases c_followWay (hCG σ hC) hI v w with ⟨h, -⟩ | ⟨a', b', σ1, ha', hb', hv', hw', f, -, -, h⟩
        · rw [hff] at h; cases h
        · obtain ⟨rfl, rfl⟩ := hsame a' b' ha' hb' hv' hw'
          rw [hj] at h
          exact simC_same hC (hcN _ _ _ h) f (by simp)
      · rcases m_noWay (hMG σ hM) hI v w with ⟨h, -⟩ | ⟨a', b', ha', hb', hv', hw', h⟩
        · rw [hff] at h; cases h
        · obtain ⟨rfl, rfl⟩ := hsame a' b' ha' hb' hv' hw'
          rcases h with ⟨-, h⟩ | ⟨h, -⟩
          · exact simM_same hM (hmN _ _ h) (Fm.sI (A := []) (I := [(20, 8)]) (by simp)) sc2 ⟨s8g _ _, Or.inr rfl⟩
          · rw [hj] at h; cases h
    | true =>
      have hP := path_mem hI ha hb
      have h0 := path_pos hI ha hb hj
      have h80 := way80 (G := G) (path_nd hI ha hb) (fun x hx => by have := hP x hx; omega)
      refine ⟨.inl (nI (wayL G (path G a b)).length), wL s (wayL G (path G a b)), ⟨i1, i2, i3, i4, i5, h80, i6.2⟩, fun σ hC => ?_, fun σ hM => ?_⟩
      · rcases c_followWay (hCG σ hC) hI v w with ⟨h, -⟩ | ⟨a', b', σ1, ha', hb', hv', hw', f, w1, -, h⟩
        · rw [hff] at h; cases h
        · obtain ⟨rfl, rfl⟩ := hsame a' b' ha' hb' hv' hw'
          rw [hj] at h
          have fc : Fr [12, 13] σ1 (sI σ1 12 0 1 0) := Fr.sI (by simp)
          have hC1 : CR σ1 0 G := (hCG σ hC).fr f (by decide) (by decide) (by decide) (by decide) (by decide)
          obtain ⟨σ2, e2, l2, f2⟩ := c_wayL hI hP h0 h80 (w1.fr fc (by decide) (by decide)) (hC1.fr fc (by decide) (by decide) (by decide) (by decide) (by decide)) ⟨by rw [gI_sI, if_pos ⟨rfl, rfl, rfl⟩]; rfl, fun k hk => absurd hk (Nat.not_lt_zero _)⟩
          have f9 : Fr [12, 13, 14, 15] σ σ2 := (f.mono (by decide)).trans ((fc.trans f2).mono (by decide))
          refine ⟨_, σ2, ?_, hC.wL f9 l2, f9.mono (by decide), rfl⟩
          unfold p_X6_way p_X2_clear
          rw [h, if_pos rfl, bS, smL, bS]
          exact e2
      · rcases m_noWay (hMG σ hM) hI v w with ⟨h, -⟩ | ⟨a', b', ha', hb', hv', hw', h⟩
        · rw [hff] at h; cases h
        · obtain ⟨rfl, rfl⟩ := hsame a' b' ha' hb' hv' hw'
          rcases h with ⟨h, -⟩ | ⟨-, σ1, h, f, p1, h8⟩
          · rw [hj] at h; cases h
          · have fc : Fm [26] [(20, 16)] σ1 (sI σ1 20 0 16 0) := Fm.sI (by simp)
            have hM1 : MR σ1 G := (hMG σ hM).fm f (by decide)
            obtain ⟨σ2, e2, l2, f2⟩ := m_wayL hI hP h0 h80 (p1.fm fc (by decide) (by decide)) (hM1.fm fc (by decide)) ⟨by rw [gI_sI, if_pos ⟨rfl, rfl, rfl⟩]; rfl, fun k hk => absurd hk (Nat.not_lt_zero _)⟩
            have f9 : Fm [26, 27] [(20, 8), (20, 16), (20, 18)] σ σ2 := (f.mono (by decide) (by decide)).trans ((fc.trans f2).mono (by decide) (by decide))
            refine ⟨_, σ2, ?_, hM.wL f9 l2, f9.mono (by decide) (by decide), rfl, ?_⟩
            · unfold p_X7_way
              rw [h, bS, if_pos rfl]
              exact e2
            · rw [f2.1 20 0 8 (by decide), fc.1 20 0 8 (by decide)]; exact h8
theorem st_30 (xs : Nat → Int32) (L : Nat) (i : Int32) (h1 : ib (i + 1) L = true) (h2 : ib (i + 2) L = true) : Step (p_lc_30 xs L i) := by
  intro σ a h
  obtain ⟨r1, r2, q1, q2, q3, q4, a', q5⟩ := step_wrap (pL := p_L_way (xs (i + 1).toNatClampNeg) (xs (i + 2).toNatClampNeg)) (cmd_way _ _) (fun σ v σ1 h => by unfold p_L_way; rw [h, bS, smL]) (fun σ c σ1 hc h => by unfold p_L_way; rw [h, bS, smR]; rcases hc with rfl | rfl <;> rfl) σ a h
  refine ⟨r2.2, a', ?_, q5⟩
  unfold p_lc_30
  rw [if_pos h1, if_pos h2, q1, bS, if_pos h1, if_pos h2, q2, bS]
  exact tail_ok q3 q4

/-! PURE: follow, to its end -/
section FO
variable {G : Row} {n : Nat}
theorem fol64 (hI : Inv G n) {σ : Sg} (hC : CR σ 0 G) (b : Int32) {U : List Nat} (hU : U.length ≤ 12) (h1 : gI σ 14 0 1 = nI U.length) (h2 : rowIs σ 15 U) (hlt : ∀ x ∈ U, x < 12) {v : Int32} (hv : FOk n v) : ∀ (fuel s : Nat), s + (up G v).length ≤ 12 → (up G v).length < fuel →
    (meetL U (up G v) = none ∧ ∃ c, p_X5_follow_L64 fuel b v (nI s) σ = p_X5_follow_L64 1 b (-1) (nI c) σ) ∨ ∃ m, meetL U (up G v) = some m ∧ p_X5_follow_L64 fuel b v (nI s) σ = p_X5_follow_L64 1 b (nI m) (nI (s + (up G v).idxOf m)) σ := by
  have hn := hI.1
  refine up_ind hI.1 hI.2.2.1 (C := fun v => ∀ (fuel s : Nat), s + (up G v).length ≤ 12 → (up G v).length < fuel →
    (meetL U (up G v) = none ∧ ∃ c, p_X5_follow_L64 fuel b v (nI s) σ = p_X5_follow_L64 1 b (-1) (nI c) σ) ∨ ∃ m, meetL U (up G v) = some m ∧ p_X5_follow_L64 fuel b v (nI s) σ = p_X5_follow_L64 1 b (nI m) (nI (s + (up G v).idxOf m)) σ) ?_ ?_ hv
  · intro fuel s hs hf
    obtain ⟨fuel, rfl⟩ : ∃ z, fuel = z + 1 := ⟨fuel - 1, by omega⟩
    refine Or.inl ⟨by rw [up_neg]; rfl, s, ?_⟩
    simp only [p_X5_follow_L64, if_true]
  · intro k hk ih fuel s hs hf
    have hu := up_c hI hk
    have hl := congrArg List.length hu
    simp only [List.length_cons] at hl
    obtain ⟨fuel, rfl⟩ : ∃ z, fuel = z + 1 := ⟨fuel - 1, by omega⟩
    have hp := placeOf_in (v := nI k) hU h1 h2 hlt
    have h12 : ¬ (12 : Int32) ≤ nI s := nI_ge (b := 12) (by omega) (by decide)
    by_cases hkU : k ∈ U
    · right
      have hx := List.idxOf_lt_length_of_mem hkU
      have hpk := hp.1 k (by omega) rfl hkU
      refine ⟨k, by rw [hu]; simp [meetL, List.find?_cons, hkU], ?_⟩
      rw [hu]
      simp only [List.idxOf_cons_self, Nat.add_zero]
      simp only [p_X5_follow_L64]
      rw [if_neg h12, if_neg (ne_m1 (by omega)), if_neg h12, if_neg (ne_m1 (by omega)), hpk]
      simp only [Option.bind_some]
      rw [if_neg (ne_m1 (by omega)), if_neg (ne_m1 (by omega))]
    · have hpk := hp.2 (Or.inr ⟨k, by omega, rfl, hkU⟩)
      have e1 : p_X5_follow_L64 (fuel + 1) b (nI k) (nI s) σ = p_X5_follow_L64 fuel b (G (20 + k)) (nI (s + 1)) σ := by
        rw [p_X5_follow_L64]
        rw [if_neg h12, if_neg (ne_m1 (by omega)), hpk]
        simp only [Option.bind_some, if_true]
        rw [c_parentOf hC (by omega)]
        simp only [Option.bind_some, nI_1]
      have e2 : meetL U (up G (nI k)) = meetL U (up G (G (20 + k))) := by rw [hu]; simp [meetL, List.find?_cons, hkU]
      rw [e1, e2]
      rcases ih fuel (s + 1) (by omega) (by omega) with ⟨g1, c, g2⟩ | ⟨m, g1, g2⟩
      · exact Or.inl ⟨g1, c, g2⟩
      · refine Or.inr ⟨m, g1, ?_⟩
        have hmk : ¬ k = m := fun e => hkU (e ▸ (meetL_mem g1).1)
        rw [g2, hu, List.idxOf_cons]
        have : (k == m) = false := by simpa using hmk
        rw [this]
        simp only [cond_false]
        congr 2; omega
theorem fol147 (hI : Inv G n) (R : List Nat) (h : Nat) : ∀ (T : List Nat) (v : Int32) (σ : Sg) (fuel : Nat), FOk n v → up G v = T ++ R → CR σ 0 G → gI σ 14 0 2 = nI h → h + T.length < 12 → T.length < fuel →
    ∃ σ', p_X5_follow_L147 fuel v (nI (h + T.length)) σ = some σ' ∧ Fr [15] σ σ' ∧ (∀ k, k ≤ h ∨ h + T.length < k → gA σ' 15 0 k = gA σ 15 0 k) ∧ ∀ j (hj : j < T.length), gA σ' 15 0 (h + T.length - j) = nI T[j] := by
  have hn := hI.1
  intro T
  induction T with
  | nil =>
    intro v σ fuel hv hT hC h1 h2 h3
    obtain ⟨fuel, rfl⟩ : ∃ z, fuel = z + 1 := ⟨fuel - 1, by omega⟩
    refine ⟨σ, ?_, Fr.refl, fun _ _ => rfl, fun j hj => by simp at hj⟩
    rw [p_X5_follow_L147, h1, if_pos (nI_le (by simp) (by simp at h2; omega))]
  | cons t T ih =>
    intro v σ fuel hv hT hC h1 h2 h3
    obtain ⟨fuel, rfl⟩ : ∃ z, fuel = z + 1 := ⟨fuel - 1, by omega⟩
    simp only [List.length_cons] at h2 h3
    rcases hv with rfl | ⟨k, hk, rfl⟩
    · rw [up_neg] at hT; cases hT
    · rw [up_c hI hk] at hT
      simp only [List.cons_append, List.cons.injEq] at hT
      obtain ⟨rfl, hT⟩ := hT
      have hC2 : CR (sA σ 15 0 (h + T.length + 1) (nI k)) 0 G := hC.fr (S := [15]) (Fr.sA (by simp)) (by decide) (by decide) (by decide) (by decide) (by decide)
      obtain ⟨σ', g1, g2, g3, g4⟩ := ih (G (20 + k)) (sA σ 15 0 (h + T.length + 1) (nI k)) fuel (hI.2.2.1.ok hk) hT hC2 (by rw [gI_sA]; exact h1) (by omega) (by omega)
      refine ⟨σ', ?_, (Fr.sA (by simp)).trans g2, ?_, ?_⟩
      · rw [p_X5_follow_L147]
        simp only [List.length_cons, ← Nat.add_assoc]
        rw [h1, if_neg (nI_ge (by omega) (by omega)), if_neg (show ¬ (12 : Int32) ≤ nI _ from nI_ge (b := 12) (by omega) (by decide)), if_pos (ib_t (by omega) (by omega)), nI_clamp (by omega), c_parentOf hC2 (by omega)]
        simp only [Option.bind_some, pk_m1]
        exact g1
      · intro j hj
        simp only [List.length_cons] at hj
        rw [g3 j (by omega), gA_sA, if_neg (by omega)]
      · intro j hj
        simp only [List.length_cons] at hj ⊢
        cases j with
        | zero =>
          rw [g3 _ (by omega), gA_sA, if_pos ⟨rfl, rfl, by omega⟩]
          rfl
        | succ j =>
          have := g4 j (by omega)
          rw [show h + (T.length + 1) - (j + 1) = h + T.length - j by omega, this]
          rfl
def WR (σ : Sg) (P : List Nat) : Prop := gI σ 14 0 1 = nI P.length ∧ P.length ≤ 12 ∧ rowIs σ 15 P
def hiP (U W : List Nat) : Int32 := match meetL U W with
  | none => -1
  | some m => nI (U.idxOf m)
theorem c_follow {σ : Sg} (hC : CR σ 0 G) (hI : Inv G n) {a b : Nat} (ha : a < n) (hb : b < n) : ∃ σ', p_X5_follow (nI a) (nI b) σ = some σ' ∧ Fr [14, 15] σ σ' ∧ WR σ' (path G a b) ∧ gI σ' 14 0 2 = hiP (up G (nI a)) (up G (nI b)) ∧ (path G a b).length ≤ 12 := by
  have hn := hI.1
  have fa : FOk n (nI a) := Or.inr ⟨a, ha, rfl⟩
  have fb : FOk n (nI b) := Or.inr ⟨b, hb, rfl⟩
  have la := up_len hI.1 hI.2.2.1 fa
  have lb := up_len hI.1 hI.2.2.1 fb
  have ma : ∀ x ∈ up G (nI a), x < 12 := fun x hx => Nat.lt_of_lt_of_le (up_mem hI.1 hI.2.2.1 fa x hx) hn
  have mb : ∀ x ∈ up G (nI b), x < 12 := fun x hx => Nat.lt_of_lt_of_le (up_mem hI.1 hI.2.2.1 fb x hx) hn
  obtain ⟨σ1, e1, g1, g2, g3⟩ := fol8 hI (nI b) fa 400 (sI σ 14 0 1 0) [] (hC.fr (S := [14]) (Fr.sI (by simp)) (by decide) (by decide) (by decide) (by decide) (by decide)) (by rw [gI_sI, if_pos ⟨rfl, rfl, rfl⟩]; rfl) (fun k hk => by simp at hk) (by simp; omega) (by omega)
  simp only [List.nil_append] at g1 g2
  have f1 : Fr [14, 15] σ σ1 := (Fr.sI (by simp)).trans g3
  have hC1 : CR σ1 0 G := hC.fr f1 (by decide) (by decide) (by decide) (by decide) (by decide)
  have e0 : p_X5_follow (nI a) (nI b) σ = p_X5_follow_L64 400 (nI b) (nI b) (nI 0) σ1 := e1
  rcases fol64 hI hC1 (nI b) (by omega) g1 g2 ma fb 400 0 (by omega) (by omega) with ⟨q1, c, q2⟩ | ⟨m, q1, q2⟩
  · have hp := (placeOf_in (v := -1) (σ := σ1) (by omega) g1 g2 ma).2 (Or.inl rfl)
    refine ⟨sI (sI σ1 14 0 2 (-1)) 14 0 1 0, ?_, f1.trans ((Fr.sI (by simp)).trans (Fr.sI (by simp))), ⟨?_, ?_, ?_⟩, ?_, ?_⟩
    · rw [e0, q2, p_X5_follow_L64, hp]
      simp only [Option.bind_some, if_true]
      have e3 : gI (sI σ1 14 0 2 (-1)) 14 0 2 = -1 := by rw [gI_sI, if_pos ⟨rfl, rfl, rfl⟩]
      have e4 : gI (sI (sI σ1 14 0 2 (-1)) 14 0 1 0) 14 0 2 = -1 := by rw [gI_sI, if_neg (by decide), e3]
      have e5 : gI (sI (sI σ1 14 0 2 (-1)) 14 0 1 0) 14 0 1 = 0 := by rw [gI_sI, if_pos ⟨rfl, rfl, rfl⟩]
      rw [if_pos e3, e5]
      have e6 : p_X5_follow_L147 400 (nI b) (0 - 1) (sI (sI σ1 14 0 2 (-1)) 14 0 1 0) = some (sI (sI σ1 14 0 2 (-1)) 14 0 1 0) := by
        rw [p_X5_follow_L147, e4, if_pos (by decide)]
      rw [e6]
      split <;> rfl
    · rw [gI_sI, if_pos ⟨rfl, rfl, rfl⟩]; simp only [path, pathL, q1]; rfl
    · simp [path, pathL, q1]
    · intro k hk; simp [path, pathL, q1] at hk
    · rw [gI_sI, if_neg (by decide), gI_sI, if_pos ⟨rfl, rfl, rfl⟩]
      simp only [hiP, q1]
    · simp [path, pathL, q1]
  · obtain ⟨m1, m2⟩ := meetL_mem q1
    have l1 := List.idxOf_lt_length_of_mem m1
    have l2 := List.idxOf_lt_length_of_mem m2
    have hpl := path_len q1
    -- distinct farms: the way has no more than there are
    have hsplit := up_split hI fb m m2
    obtain ⟨T, hT⟩ : ∃ T, T = (up G (nI b)).take ((up G (nI b)).idxOf m) := ⟨_, rfl⟩
    have hTl : T.length = (up G (nI b)).idxOf m := by rw [hT, List.length_take]; omega
    have hTU : ∀ x ∈ T, x ∉ up G (nI a) := by
      intro x hx hxU
      rw [hT] at hx
      obtain ⟨j, hj, hjx⟩ := List.getElem_of_mem hx
      simp only [List.length_take] at hj
      rw [List.getElem_take] at hjx
      have hfm := q1
      unfold meetL at hfm
      obtain ⟨as, bs, hab, hno⟩ := (List.find?_eq_some_iff_append.mp hfm).2
      have hidx : (up G (nI b)).idxOf m = as.length := by
        rw [hab, List.idxOf_append]
        have : m ∉ as := fun hm => by have := hno m hm; simp [m1] at this
        simp [this]
      have hj2 : j < as.length := by omega
      have hxa : x ∈ as := by
        have : (up G (nI b))[j] = as[j] := by
          simp only [hab]
          rw [List.getElem_append_left hj2]
        rw [← hjx, this]
        exact List.getElem_mem hj2
      have := hno x hxa
      simp [hxU] at this
    have hnd : ((up G (nI a)).take ((up G (nI a)).idxOf m + 1) ++ T.reverse).Nodup := by
      rw [List.nodup_append]
      refine ⟨(up_nd hI.1 hI.2.2.1 fa).sublist (List.take_sublist _ _), ?_, ?_⟩
      · have := (up_nd hI.1 hI.2.2.1 fb).sublist (List.take_sublist ((up G (nI b)).idxOf m) _)
        rw [hT]
        exact List.pairwise_reverse.mpr (List.Pairwise.imp (fun h => Ne.symm h) this)
      · intro x hx y hy hxy
        subst hxy
        exact hTU x (List.mem_reverse.mp hy) (List.mem_of_mem_take hx)
    have hP : path G a b = (up G (nI a)).take ((up G (nI a)).idxOf m + 1) ++ T.reverse := by simp only [path, pathL, q1, hT]
    have hlen : (path G a b).length ≤ 12 := by
      rw [hP]
      refine nd_len 12 _ hnd (fun x hx => ?_)
      rcases List.mem_append.mp hx with h | h
      · exact ma x (List.mem_of_mem_take h)
      · rw [hT] at h; exact mb x (List.mem_of_mem_take (List.mem_reverse.mp h))
    have hlen2 : (path G a b).length = (up G (nI a)).idxOf m + 1 + T.length := by rw [hTl]; exact hpl
    have hp := (placeOf_in (v := nI m) (σ := σ1) (by omega) g1 g2 ma).1 m (ma m m1) rfl m1
    obtain ⟨h, hh⟩ : ∃ h, h = (up G (nI a)).idxOf m := ⟨_, rfl⟩
    rw [← hh] at hp hlen2
    obtain ⟨σ2, hσ2⟩ : ∃ σ2, σ2 = sI (sI σ1 14 0 2 (nI h)) 14 0 1 (nI (h + 1 + T.length)) := ⟨_, rfl⟩
    have f2 : Fr [14, 15] σ1 σ2 := by rw [hσ2]; exact (Fr.sI (by simp)).trans (Fr.sI (by simp))
    have e4 : gI σ2 14 0 2 = nI h := by rw [hσ2, gI_sI, if_neg (by decide), gI_sI, if_pos ⟨rfl, rfl, rfl⟩]
    have e5 : gI σ2 14 0 1 = nI (h + 1 + T.length) := by rw [hσ2, gI_sI, if_pos ⟨rfl, rfl, rfl⟩]
    obtain ⟨σ', r1, r2, r3, r4⟩ := fol147 hI (up G (nI m)) h T (nI b) σ2 400 fb (by rw [hT]; exact hsplit) (hC1.fr f2 (by decide) (by decide) (by decide) (by decide) (by decide)) e4 (by omega) (by omega)
    refine ⟨σ', ?_, (f1.trans f2).trans (r2.mono (by simp)), ⟨?_, hlen, ?_⟩, ?_, hlen⟩
    · have h12 : ¬ (12 : Int32) ≤ nI (0 + (up G (nI b)).idxOf m) := nI_ge (b := 12) (by omega) (by decide)
      rw [e0, q2, p_X5_follow_L64, if_neg h12, if_neg (ne_m1 (by have := ma m m1; omega)), hp]
      simp only [Option.bind_some]
      rw [if_neg (ne_m1 (by omega))]
      have e6 : gI (sI σ1 14 0 2 (nI h)) 14 0 2 = nI h := by rw [gI_sI, if_pos ⟨rfl, rfl, rfl⟩]
      rw [if_neg (by rw [e6]; exact ne_m1 (by omega)), e6, Nat.zero_add, ← hTl, nI_1, nI_add, ← hσ2, e5]
      rw [show nI (h + 1 + T.length) - 1 = nI (h + T.length) by rw [show h + 1 + T.length = h + T.length + 1 by omega]; exact nI_pred _]
      exact r1
    · rw [(r2.1 14 (by decide) 0 1).1, e5, hlen2]
    · intro k hk
      have hkl : k < h + 1 + T.length := by omega
      have hrow : gA σ2 15 0 k = gA σ1 15 0 k := by rw [hσ2]; rfl
      by_cases hk1 : k ≤ h
      · rw [r3 k (Or.inl hk1), hrow, g2 k (by omega)]
        congr 1
        simp only [hP]
        rw [List.getElem_append_left (by rw [List.length_take]; omega), List.getElem_take]
      · have hj : h + T.length - k < T.length := by omega
        have := r4 (h + T.length - k) hj
        rw [show h + T.length - (h + T.length - k) = k by omega] at this
        rw [this]
        congr 1
        simp only [hP]
        rw [List.getElem_append_right (by rw [List.length_take]; omega), List.getElem_reverse]
        congr 1
        rw [List.length_take]
        omega
    · rw [(r2.1 14 (by decide) 0 2).1, e4]
      simp only [hiP, q1, hh]
end FO

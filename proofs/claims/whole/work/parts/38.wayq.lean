/-! PURE: the calls that follow a way -/
def e12 (a b : String) : Nat → String := fun c => if c = 1 then a else b
def oC (o : Out) (e : Nat → String) : Int32 ⊕ String := match o with | .inl v => .inl v | .inr c => .inr (e c)
def oM (o : Out) (v : Int32) (σ : Sg) : Prop := match o with | .inl x => v = x ∧ gI σ 20 0 8 = 0 | .inr c => gI σ 20 0 8 = nI c ∧ (c = 1 ∨ c = 2)
theorem sc1 : Sc [27] [(20, 8), (20, 18)] := ⟨by decide, by decide⟩
theorem sc2 : Sc [] [(20, 8)] := ⟨by decide, by decide⟩
theorem simC_same {r : Option ((Int32 ⊕ String) × Sg)} {σ σ1 : Sg} {o : Out} {a : AS} {e : Nat → String} {S : List Nat} (hC : CRel σ a) (h : r = some (oC o e, σ1)) (hF : Fr S σ σ1) (hS : ∀ T ∈ S, T = 14 ∨ T = 15 ∨ T = 16) : SimC r σ o a e :=
  ⟨_, σ1, h, hC.fr hF (fun T hT => by have := hS T hT; omega), hF.mono (fun T hT => by rcases hS T hT with rfl | rfl | rfl <;> simp [clTags]), by cases o <;> rfl⟩
theorem simM_same {r : Option (Int32 × Sg)} {σ σ1 : Sg} {o : Out} {a : AS} {v : Int32} {A : List Nat} {I : List (Nat × Nat)} (hM : MRel σ a 0) (h : r = some (v, σ1)) (hF : Fm A I σ σ1) (hs : Sc A I) (ho : oM o v σ1) : SimM r σ o a :=
  ⟨v, σ1, h, hM.fm hF hs, hF.mono (fun T hT => by rcases hs.1 T hT with rfl | rfl | rfl <;> simp [moRows]) (fun q hq => by
    obtain ⟨h1, h2⟩ := hs.2 q hq
    obtain ⟨q1, q2⟩ := q
    simp only at h1 h2
    subst h1
    rcases h2 with rfl | rfl | rfl | rfl | rfl <;> decide), by cases o <;> exact ho⟩
theorem way_cmd {v w : Int32} {pc : Sg → Option ((Int32 ⊕ String) × Sg)} {pm : Sg → Option (Int32 × Sg)}
    (hc1 : ∀ σ σ' E, p_X6_followWay v w σ = some (.inr E, σ') → pc σ = some (.inr E, σ')) (hm1 : ∀ σ σ1, p_X7_isNoWay v w σ = some (1, σ1) → ∃ x, pm σ = some (x, σ1))
    (body : ∀ (G : Row) (n a b : Nat), Inv G n → a < n → b < n → v = nI a → w = nI b → joined G a b = true → ∃ o : Out,
      (∀ σ σ1, CR σ1 0 G → WR σ1 (path G a b) → gI σ1 14 0 2 = hiP (up G (nI a)) (up G (nI b)) → p_X6_followWay v w σ = some (.inl 0, σ1) → ∃ σ2, pc σ = some (oC o (e12 eIO eNS), σ2) ∧ Fr [14, 15] σ1 σ2) ∧
      (∀ σ σ1, MR σ1 G → PR σ1 (path G a b) → gI σ1 20 0 8 = 0 → p_X7_isNoWay v w σ = some (0, σ1) → ∃ x σ2, pm σ = some (x, σ2) ∧ Fm [27] [(20, 8), (20, 18)] σ1 σ2 ∧ oM o x σ2)) : Cmd pc pm (e12 eIO eNS) := by
  intro a hA
  obtain ⟨⟨⟨G, n⟩, rest⟩, hA⟩ : ∃ b : AS, AInv b ∧ b = a := ⟨a, hA, rfl⟩
  have hI : Inv G n := hA.1.1
  obtain ⟨hA, rfl⟩ := hA
  have s8 : ∀ (σ : Sg) (c : Int32), gI (sI σ 20 0 8 c) 20 0 8 = c := fun σ c => by rw [gI_sI, if_pos ⟨rfl, rfl, rfl⟩]
  cases hff : isF n v && isF n w with
  | false =>
    refine ⟨.inr 1, _, hA, fun σ hC => ?_, fun σ hM => ?_⟩
    · rcases c_followWay (show CR σ 0 G from hC.1) hI v w with ⟨-, h⟩ | ⟨a, b, σ1, ha, hb, rfl, rfl, -⟩
      · exact simC_same (S := []) hC (hc1 _ _ _ h) Fr.refl (by simp)
      · rw [isF_nI ha hI.1, isF_nI hb hI.1] at hff; cases hff
    · rcases m_noWay (show MR σ G from hM.1) hI v w with ⟨-, h⟩ | ⟨a, b, ha, hb, rfl, rfl, -⟩
      · obtain ⟨x, hx⟩ := hm1 _ _ h
        exact simM_same hM hx (Fm.sI (A := []) (I := [(20, 8)]) (by simp)) sc2 ⟨s8 _ _, Or.inl rfl⟩
      · rw [isF_nI ha hI.1, isF_nI hb hI.1] at hff; cases hff
  | true =>
    have h2 : isF n v = true ∧ isF n w = true := by simpa using hff
    obtain ⟨a, ha, hva⟩ := isF_of hI.1 h2.1
    obtain ⟨b, hb, hwb⟩ := isF_of hI.1 h2.2
    cases hj : joined G a b with
    | false =>
      refine ⟨.inr 2, _, hA, fun σ hC => ?_, fun σ hM => ?_⟩
      · rcases c_followWay (show CR σ 0 G from hC.1) hI v w with ⟨h, -⟩ | ⟨a', b', σ1, ha', hb', hv', hw', f, -, -, h⟩
        · rw [hff] at h; cases h
        · have hn := hI.1
          obtain rfl : a = a' := nI_inj (by omega) (by omega) (hva.symm.trans hv')
          obtain rfl : b = b' := nI_inj (by omega) (by omega) (hwb.symm.trans hw')
          rw [hj] at h
          exact simC_same hC (hc1 _ _ _ h) f (by simp)
      · rcases m_noWay (show MR σ G from hM.1) hI v w with ⟨h, -⟩ | ⟨a', b', ha', hb', hv', hw', h⟩
        · rw [hff] at h; cases h
        · have hn := hI.1
          obtain rfl : a = a' := nI_inj (by omega) (by omega) (hva.symm.trans hv')
          obtain rfl : b = b' := nI_inj (by omega) (by omega) (hwb.symm.trans hw')
          rcases h with ⟨-, h⟩ | ⟨h, -⟩
          · obtain ⟨x, hx⟩ := hm1 _ _ h
            exact simM_same hM hx (Fm.sI (A := []) (I := [(20, 8)]) (by simp)) sc2 ⟨s8 _ _, Or.inr rfl⟩
          · rw [hj] at h; cases h
    | true =>
      obtain ⟨o, b1, b2⟩ := body G n a b hI ha hb hva hwb hj
      refine ⟨o, _, hA, fun σ hC => ?_, fun σ hM => ?_⟩
      · rcases c_followWay (show CR σ 0 G from hC.1) hI v w with ⟨h, -⟩ | ⟨a', b', σ1, ha', hb', hv', hw', f, w1, w2, h⟩
        · rw [hff] at h; cases h
        · have hn := hI.1
          obtain rfl : a = a' := nI_inj (by omega) (by omega) (hva.symm.trans hv')
          obtain rfl : b = b' := nI_inj (by omega) (by omega) (hwb.symm.trans hw')
          rw [hj] at h
          have hC1 : CR σ1 0 G := (show CR σ 0 G from hC.1).fr f (by decide) (by decide) (by decide) (by decide) (by decide)
          obtain ⟨σ2, g1, g2⟩ := b1 σ σ1 hC1 w1 w2 h
          exact simC_same hC g1 (f.trans g2) (by simp)
      · rcases m_noWay (show MR σ G from hM.1) hI v w with ⟨h, -⟩ | ⟨a', b', ha', hb', hv', hw', h⟩
        · rw [hff] at h; cases h
        · have hn := hI.1
          obtain rfl : a = a' := nI_inj (by omega) (by omega) (hva.symm.trans hv')
          obtain rfl : b = b' := nI_inj (by omega) (by omega) (hwb.symm.trans hw')
          rcases h with ⟨h, -⟩ | ⟨-, σ1, h, f, p1, h8⟩
          · rw [hj] at h; cases h
          · have hM1 : MR σ1 G := (show MR σ G from hM.1).fm f (by decide)
            obtain ⟨x, σ2, g1, g2, g3⟩ := b2 σ σ1 hM1 p1 h8 h
            exact simM_same hM g1 (f.trans g2) sc1 g3
theorem path_pos {G : Row} {n a b : Nat} (hI : Inv G n) (ha : a < n) (hb : b < n) (hj : joined G a b = true) : 0 < (path G a b).length := by
  have := path_nil hI ha hb
  rcases Nat.eq_zero_or_pos (path G a b).length with h | h
  · rw [this.mp h] at hj; cases hj
  · exact h
theorem cmd_steps (v w : Int32) : Cmd (p_X6_steps v w) (p_X7_steps v w) (e12 eIO eNS) := by
  refine way_cmd (v := v) (w := w) (fun σ σ' E h => by unfold p_X6_steps; rw [h]; rfl) (fun σ σ1 h => by unfold p_X7_steps; rw [h]; exact ⟨0, rfl⟩) ?_
  intro G n a b hI ha hb _ _ hj
  refine ⟨.inl (nI (path G a b).length - 1), fun σ σ1 hC hW hh h => ⟨σ1, ?_, Fr.refl⟩, fun σ σ1 hM hP h8 h => ⟨_, σ1, ?_, Fm.refl, ⟨rfl, h8⟩⟩⟩
  · unfold p_X6_steps
    rw [h]
    simp only [Option.bind_some, sm, p_X5_tracks]
    rw [hW.1]
    rfl
  · unfold p_X7_steps
    rw [h]
    simp only [Option.bind_some, if_true]
    rw [hP.1]
theorem cmd_meet (v w : Int32) : Cmd (p_X6_meet v w) (p_X7_meet v w) (e12 eIO eNS) := by
  refine way_cmd (v := v) (w := w) (fun σ σ' E h => by unfold p_X6_meet; rw [h]; rfl) (fun σ σ1 h => by unfold p_X7_meet; rw [h]; exact ⟨0, rfl⟩) ?_
  intro G n a b hI ha hb hv hw hj
  obtain ⟨m, hm⟩ := (joined_meet hI ha hb).mp hj
  obtain ⟨m1, m2⟩ := meetL_mem hm
  have l1 := List.idxOf_lt_length_of_mem m1
  have hpl : (path G a b).length = _ := path_len hm
  refine ⟨.inl (nI m), fun σ σ1 hC hW hh h => ⟨σ1, ?_, Fr.refl⟩, fun σ σ1 hM hP h8 h => ⟨_, σ1, ?_, Fm.refl, ⟨rfl, h8⟩⟩⟩
  · unfold p_X6_meet
    rw [h]
    simp only [Option.bind_some, sm, p_X5_highestFarm]
    rw [hh]
    simp only [hiP, hm]
    rw [c_farmAt hW (by omega)]
    simp only [Option.bind_some, oC]
    congr 3
    simp only [path, pathL, hm]
    rw [List.getElem_append_left (by rw [List.length_take]; omega), List.getElem_take, List.getElem_idxOf]
  · unfold p_X7_meet
    rw [h]
    simp only [Option.bind_some, if_true]
    subst hv; subst hw
    rw [m_meetOf hM hI ha hb hm]
    rfl
theorem cmd_sumAgain (v w : Int32) : Cmd (p_X6_sumAgain v w) (p_X7_sumAgain v w) (e12 eIO eNS) := by
  refine way_cmd (v := v) (w := w) (fun σ σ' E h => by unfold p_X6_sumAgain; rw [h]; rfl) (fun σ σ1 h => by unfold p_X7_sumAgain p_X7_sum; rw [h]; exact ⟨0, rfl⟩) ?_
  intro G n a b hI ha hb hv hw hj
  refine ⟨.inl (nI (tolL G (path G a b))), fun σ σ1 hC hW hh h => ⟨σ1, ?_, Fr.refl⟩, fun σ σ1 hM hP h8 h => ⟨_, σ1, ?_, Fm.refl, ⟨rfl, h8⟩⟩⟩
  · unfold p_X6_sumAgain
    rw [h]
    simp only [Option.bind_some, sm]
    rw [c_tollsIn hC hI hW (path_mem hI ha hb)]
    rfl
  · unfold p_X7_sumAgain p_X7_sum
    rw [h]
    simp only [Option.bind_some, if_true]
    rw [m_pathToll hM hI hP (path_mem hI ha hb)]
    rfl
theorem cmd_onWay (v w z : Int32) : Cmd (p_X6_onWay v w z) (p_X7_onWay v w z) (e12 eIO eNS) := by
  refine way_cmd (v := v) (w := w) (fun σ σ' E h => by unfold p_X6_onWay; rw [h]; rfl) (fun σ σ1 h => by unfold p_X7_onWay; rw [h]; exact ⟨0, rfl⟩) ?_
  intro G n a b hI ha hb hv hw hj
  have hle := path_le hI ha hb
  have s8 : ∀ (σ : Sg) (c : Int32), gI (sI σ 20 0 8 c) 20 0 8 = c := fun σ c => by rw [gI_sI, if_pos ⟨rfl, rfl, rfl⟩]
  by_cases hz : ∃ i, i < (path G a b).length ∧ z = nI i
  · obtain ⟨i, hi, rfl⟩ := hz
    refine ⟨.inl (nI (path G a b)[i]), fun σ σ1 hC hW hh h => ⟨σ1, ?_, Fr.refl⟩, fun σ σ1 hM hP h8 h => ⟨_, sI σ1 20 0 8 0, ?_, Fm.sI (by simp), ⟨rfl, s8 _ _⟩⟩⟩
    · unfold p_X6_onWay
      rw [h]
      simp only [Option.bind_some, sm]
      rcases c_farmOnWay hW (nI i) with ⟨j, hj2, e1, e2⟩ | ⟨e1, -⟩
      · obtain rfl : i = j := nI_inj (by omega) (by omega) e1
        rw [e2]; rfl
      · exact absurd rfl (e1 i hi)
    · unfold p_X7_onWay
      rw [h]
      simp only [Option.bind_some, if_true]
      rw [hP.1, m_in (by omega), isF_nI hi hle]
      simp only [Option.bind_some, b01, m_fails]
      rw [if_neg (by decide)]
      simp only [if_pos (show (0 : Int32) ≤ 0 by decide), if_true]
      rw [if_pos (ib_t (by omega) (by omega)), nI_clamp (by omega)]
      have : gA (sI σ1 20 0 8 0) 27 0 i = nI (path G a b)[i] := hP.2.2 i hi
      rw [this]
  · have hF : isF (path G a b).length z = false := by
      cases hq : isF (path G a b).length z with
      | false => rfl
      | true => exact absurd (by obtain ⟨k, h1, h2⟩ := isF_of hle hq; exact ⟨k, h1, h2⟩) hz
    refine ⟨.inr 2, fun σ σ1 hC hW hh h => ⟨σ1, ?_, Fr.refl⟩, fun σ σ1 hM hP h8 h => ⟨0, sI σ1 20 0 8 2, ?_, Fm.sI (by simp), ⟨s8 _ _, Or.inr rfl⟩⟩⟩
    · unfold p_X6_onWay
      rw [h]
      simp only [Option.bind_some, sm]
      rcases c_farmOnWay hW z with ⟨j, hj2, e1, e2⟩ | ⟨-, e2⟩
      · exact absurd ⟨j, hj2, e1⟩ hz
      · rw [e2]; rfl
    · unfold p_X7_onWay
      rw [h]
      simp only [Option.bind_some, if_true]
      rw [hP.1, m_in (by omega), hF]
      simp only [Option.bind_some, b01, m_fails]
      simp
theorem cmd_next (v w : Int32) : Cmd (p_X6_next v w) (p_X7_next v w) (e12 eIO eNS) := by
  refine way_cmd (v := v) (w := w) (fun σ σ' E h => by unfold p_X6_next; rw [h]; rfl) (fun σ σ1 h => by unfold p_X7_next; rw [h]; exact ⟨0, rfl⟩) ?_
  intro G n a b hI ha hb hv hw hj
  have hn := hI.1
  have hle := path_le hI ha hb
  have s8 : ∀ (σ : Sg) (c : Int32), gI (sI σ 20 0 8 c) 20 0 8 = c := fun σ c => by rw [gI_sI, if_pos ⟨rfl, rfl, rfl⟩]
  have h1 : 1 < (path G a b).length ↔ ¬ a = b := by
    obtain ⟨m, hm⟩ := (joined_meet hI ha hb).mp hj
    obtain ⟨m1, m2⟩ := meetL_mem hm
    have hpl : (path G a b).length = _ := path_len hm
    have ua := up_c hI ha
    have ub := up_c hI hb
    constructor
    · rintro h rfl
      have : m = a := by rw [ua] at hm; simpa [meetL, List.find?_cons] using hm.symm
      subst this
      rw [ua] at hpl
      simp at hpl
      omega
    · intro hab
      rw [hpl]
      rcases Nat.eq_zero_or_pos ((up G (nI a)).idxOf m) with h2 | h2
      · rcases Nat.eq_zero_or_pos ((up G (nI b)).idxOf m) with h3 | h3
        · exfalso
          rw [ua, List.idxOf_cons] at h2
          rw [ub, List.idxOf_cons] at h3
          have e1 : a = m := by
            by_cases hq : a = m
            · exact hq
            · have : (a == m) = false := by simpa using hq
              rw [this] at h2; simp at h2
          have e2 : b = m := by
            by_cases hq : b = m
            · exact hq
            · have : (b == m) = false := by simpa using hq
              rw [this] at h3; simp at h3
          exact hab (e1.trans e2.symm)
        · omega
      · omega
  by_cases hab : a = b
  · refine ⟨.inr 2, fun σ σ1 hC hW hh h => ⟨σ1, ?_, Fr.refl⟩, fun σ σ1 hM hP h8 h => ⟨0, sI σ1 20 0 8 2, ?_, Fm.sI (by simp), ⟨s8 _ _, Or.inr rfl⟩⟩⟩
    · unfold p_X6_next
      rw [h]
      simp only [Option.bind_some, sm]
      rcases c_farmOnWay hW 1 with ⟨j, hj2, e1, e2⟩ | ⟨-, e2⟩
      · obtain rfl : 1 = j := nI_inj (by omega) (by omega) e1
        exact absurd hab (h1.mp hj2)
      · rw [e2]; rfl
    · unfold p_X7_next
      rw [h]
      simp only [Option.bind_some, if_true]
      rw [hv, hw, hab]
      simp only [if_true, m_fails, Option.bind_some]
      simp
  · have hlt := h1.mpr hab
    refine ⟨.inl (nI (path G a b)[1]), fun σ σ1 hC hW hh h => ⟨σ1, ?_, Fr.refl⟩, fun σ σ1 hM hP h8 h => ⟨_, sI σ1 20 0 8 0, ?_, Fm.sI (by simp), ⟨rfl, s8 _ _⟩⟩⟩
    · unfold p_X6_next
      rw [h]
      simp only [Option.bind_some, sm]
      rcases c_farmOnWay hW 1 with ⟨j, hj2, e1, e2⟩ | ⟨e1, -⟩
      · obtain rfl : 1 = j := nI_inj (by omega) (by omega) e1
        rw [e2]; rfl
      · exact absurd rfl (e1 1 hlt)
    · unfold p_X7_next
      rw [h]
      simp only [Option.bind_some, if_true]
      rw [hv, hw, if_neg (fun e => hab (nI_inj (by omega) (by omega) e))]
      simp only [m_fails, Option.bind_some, if_pos (show (0 : Int32) ≤ 0 by decide), if_true]
      have : gA (sI σ1 20 0 8 0) 27 0 1 = nI (path G a b)[1] := hP.2.2 1 hlt
      rw [this]

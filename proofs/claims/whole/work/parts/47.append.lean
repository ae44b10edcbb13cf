/-! PURE: append -/
def wX (a : AS) (X : List Int32) : AS := (aR a, aH a, aS a, aW a, X, aF a, aL a)
theorem CRel.wX {σ σ' : Sg} {a : AS} {X : List Int32} (h : Fr [9, 10] σ σ') (hC : CRel σ a) (h1 : gI σ' 9 0 1 = nI X.length) (h2 : rowI σ' 10 X) : CRel σ' (wX a X) := by
  have cr : ∀ {i : Nat} {G : Row}, CR σ i G → CR σ' i G := fun hC => hC.fr h (by decide) (by decide) (by decide) (by decide) (by decide)
  obtain ⟨g1, ⟨np, g2, g3, g4, g5⟩, ⟨g6, g7⟩, ⟨g8, g9, g10⟩, -, g13, ⟨g14, g15⟩⟩ := hC
  exact ⟨cr g1, ⟨np, g2, (h.1 6 (by decide) 0 1).1.trans g3, (h.1 6 (by decide) 0 2).1.trans g4, fun j hj => cr (g5 j hj)⟩, ⟨(h.1 0 (by decide) 0 3).1.trans g6, fun K hK => cr (g7 K hK)⟩,
    ⟨(h.1 8 (by decide) 0 0).1.trans g8, (h.1 8 (by decide) 0 1).1.trans g9, (h.1 8 (by decide) 0 2).1.trans g10⟩, ⟨h1, h2⟩, (h.1 0 (by decide) 0 7).1.trans g13, ⟨(h.1 12 (by decide) 0 1).1.trans g14, g15.fr h (by decide)⟩⟩
theorem MRel.wX {σ σ' : Sg} {a : AS} {X : List Int32} {w : Int32} (h : Fm [25] [(20, 8), (20, 13)] σ σ') (hM : MRel σ a w) (h1 : gI σ' 20 0 13 = nI X.length) (h2 : rowI σ' 25 X) : MRel σ' (wX a X) w := by
  obtain ⟨g1, ⟨g2, g3⟩, ⟨g4, g5⟩, ⟨g6, g7, g8⟩, -, g11, ⟨g12, g13⟩, g14⟩ := hM
  exact ⟨g1.fm h (by decide), ⟨(h.1 20 0 5 (by decide)).trans g2, fun j hj k hk => (h.2.1 22 (by decide) 0 _).trans (g3 j hj k hk)⟩, ⟨(h.1 20 0 4 (by decide)).trans g4, fun K hK k hk => (h.2.1 23 (by decide) 0 k).trans (g5 K hK k hk)⟩, ⟨(h.1 20 0 9 (by decide)).trans g6, (h.1 20 0 10 (by decide)).trans g7, (h.1 20 0 11 (by decide)).trans g8⟩, ⟨h1, h2⟩, (h.1 20 0 14 (by decide)).trans g11, ⟨(h.1 20 0 16 (by decide)).trans g12, g13.fm h (by decide)⟩, (h.1 20 0 6 (by decide)).trans g14⟩
def eIS : String := "java/lang/IllegalStateException"
theorem rowI_snoc {σ : Sg} {T : Nat} {X : List Int32} {x : Int32} (h : rowI σ T X) : rowI (sA σ T 0 X.length x) T (X ++ [x]) := by
  intro k hk
  rw [gA_sA]
  by_cases h2 : k = X.length
  · subst h2; rw [if_pos ⟨rfl, rfl, rfl⟩]; simp
  · rw [if_neg (fun q => h2 q.2.2)]
    have h3 : k < X.length := by simp at hk; omega
    rw [h k h3, List.getElem_append_left h3]
theorem cmd_append {w : Nat} (hw : w < 65536) : Cmd (p_X6_append (nI w)) (p_X7_append (nI w)) (e12 eIS eNS) := by
  intro a hA
  have hl := hA.2.2.2.2.1
  by_cases hfull : (aX a).length = 60
  · refine ⟨.inr 1, a, hA, fun σ hC => ?_, fun σ hM => ?_⟩
    · refine simC_same (S := []) hC (?_ : p_X6_append (nI w) σ = _) Fr.refl (by simp)
      unfold p_X6_append p_X4_isFull
      rw [hC.2.2.2.2.1.1, hfull, if_neg (by decide), bS, if_neg (by decide)]
      rfl
    · refine simM_same (v := 0) hM (?_ : p_X7_append (nI w) σ = _) (Fm.sI (A := []) (I := [(20, 8)]) (by simp)) sc2 ⟨s8g σ 1, Or.inl rfl⟩
      unfold p_X7_append
      rw [hM.2.2.2.2.1.1, hfull, if_pos (by decide), mf1, bS, if_neg (show ¬ (1 : Int32) = 0 by decide)]
  · have hlt : (aX a).length < 60 := by omega
    refine ⟨.inl (nI ((aX a).length + 1)), wX a (aX a ++ [nI w]), ?_, fun σ hC => ?_, fun σ hM => ?_⟩
    · obtain ⟨i1, i2, i3, i4, i5, i6⟩ := hA
      exact ⟨i1, i2, i3, i4, by show (aX a ++ [nI w]).length ≤ 60; simp; omega, i6.1, fun x hx => (List.mem_append.mp hx).elim (i6.2 x) (fun h => by rw [List.mem_singleton.mp h, nch_nI hw])⟩
    · obtain ⟨c1, c2⟩ := hC.2.2.2.2.1
      obtain ⟨σ1, hσ1⟩ : ∃ σ1, σ1 = sI (sA σ 10 0 (aX a).length (nI w)) 9 0 1 (nI ((aX a).length + 1)) := ⟨_, rfl⟩
      have f : Fr [9, 10] σ σ1 := by rw [hσ1]; exact (Fr.sA (by simp)).trans (Fr.sI (by simp))
      have g1 : gI σ1 9 0 1 = nI ((aX a).length + 1) := by rw [hσ1, gI_sI, if_pos ⟨rfl, rfl, rfl⟩]
      refine ⟨_, σ1, ?_, hC.wX f (by rw [g1]; simp) (by rw [hσ1]; exact rowI_snoc c2), f.mono (by simp [clTags]), rfl⟩
      unfold p_X6_append p_X4_isFull p_X4_add p_X4_length
      have e9 : gI (sA σ 10 0 (aX a).length (nI w)) 9 0 1 + 1 = nI ((aX a).length + 1) := by rw [gI_sA, c1, nI_1]
      rw [c1, if_pos (show nI (aX a).length < 60 from nI_lt (b := 60) hlt (by decide)), bS, if_pos rfl, if_neg (nI_pos (by omega)), if_neg (show ¬ (60 : Int32) ≤ nI _ from nI_ge (b := 60) hlt (by decide)), if_pos (ib_t hlt (by omega)), nI_clamp (by omega), nch_nI hw, e9, bS, ← hσ1, bS, g1]
    · obtain ⟨c1, c2⟩ := hM.2.2.2.2.1
      obtain ⟨σ1, hσ1⟩ : ∃ σ1, σ1 = sI (sA (sI σ 20 0 8 0) 25 0 (aX a).length (nI w)) 20 0 13 (nI ((aX a).length + 1)) := ⟨_, rfl⟩
      have f : Fm [25] [(20, 8), (20, 13)] σ σ1 := by rw [hσ1]; exact ((Fm.sI (by simp)).trans (Fm.sA (by simp))).trans (Fm.sI (by simp))
      have g1 : gI σ1 20 0 13 = nI ((aX a).length + 1) := by rw [hσ1, gI_sI, if_pos ⟨rfl, rfl, rfl⟩]
      have g8 : gI σ1 20 0 8 = 0 := by rw [hσ1, gI_sI, if_neg (by decide), gI_sA, s8g]
      have e0 : gI (sI σ 20 0 8 0) 20 0 13 = nI (aX a).length := c1
      have e9 : gI (sA (sI σ 20 0 8 0) 25 0 (aX a).length (nI w)) 20 0 13 + 1 = nI ((aX a).length + 1) := by rw [gI_sA, e0, nI_1]
      refine ⟨nI ((aX a).length + 1), σ1, ?_, hM.wX f (by rw [g1]; simp) (by rw [hσ1]; exact rowI_snoc (σ := sI σ 20 0 8 0) c2), f.mono (by decide) (by decide), rfl, g8⟩
      unfold p_X7_append
      rw [c1, if_neg (show ¬ nI (aX a).length = 60 from fun e => hfull (nI_inj (b := 60) (by omega) (by decide) e)), mf0, bS, if_pos rfl, e0, if_pos (ib_t hlt (by omega)), nI_clamp (by omega), e9, ← hσ1, g1]

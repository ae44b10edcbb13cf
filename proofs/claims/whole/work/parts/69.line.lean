/-! PURE: writing a line -/
def LC (σ : Sg) (L : List Int32) : Prop := gI σ 12 0 1 = nI L.length ∧ rowI σ 13 L
def LM (σ : Sg) (L : List Int32) : Prop := gI σ 20 0 16 = nI L.length ∧ rowI σ 26 L
theorem nch_un (x : Int32) : nch ((x.toUInt32 % 65536).toInt32) = nch x := nch_nch x
theorem c_wr {σ : Sg} {L : List Int32} {c : Int32} (hc : nch c = c) (h : LC σ L) (hl : L.length < 80) : ∃ σ', p_X2_write c σ = some σ' ∧ LC σ' (L ++ [c]) ∧ Fr [12, 13] σ σ' := by
  obtain ⟨h1, h2⟩ := h
  have e : gI (sA σ 13 0 L.length c) 12 0 1 + 1 = nI (L.length + 1) := by rw [gI_sA, h1, nI_1]
  refine ⟨sI (sA σ 13 0 L.length c) 12 0 1 (nI (L.length + 1)), ?_, ⟨by rw [gI_sI, if_pos ⟨rfl, rfl, rfl⟩]; simp, rowI_snoc h2⟩, (Fr.sA (by simp)).trans (Fr.sI (by simp))⟩
  unfold p_X2_write
  rw [h1, if_neg (nI_pos (by omega)), if_neg (show ¬ (80 : Int32) ≤ nI L.length from nI_ge (b := 80) hl (by decide)), if_pos (ib_t hl (by omega)), nI_clamp (by omega), hc, e]
theorem m_wr {σ : Sg} {L : List Int32} {c : Int32} (hc : nch c = c) (h : LM σ L) (hl : L.length < 80) : ∃ σ', p_X7_writes c σ = some σ' ∧ LM σ' (L ++ [c]) ∧ Fm [26] [(20, 16)] σ σ' := by
  obtain ⟨h1, h2⟩ := h
  have e : gI (sA σ 26 0 L.length c) 20 0 16 + 1 = nI (L.length + 1) := by rw [gI_sA, h1, nI_1]
  refine ⟨sI (sA σ 26 0 L.length c) 20 0 16 (nI (L.length + 1)), ?_, ⟨by rw [gI_sI, if_pos ⟨rfl, rfl, rfl⟩]; simp, rowI_snoc h2⟩, (Fm.sA (by simp)).trans (Fm.sI (by simp))⟩
  unfold p_X7_writes
  rw [h1, if_pos (ib_t (show L.length < 120 by omega) (by omega)), nI_clamp (by omega), nch_un, hc, e]
/-- the figures of a number below 1000 -/
def dgs (k : Nat) : List Int32 := if k < 10 then [nI (48 + k)] else if k < 100 then [nI (48 + k / 10), nI (48 + k % 10)] else [nI (48 + k / 100), nI (48 + k / 10 % 10), nI (48 + k % 10)]
theorem dig_u {q : Nat} (hq : q < 10) : ((48 + nI q).toUInt32 % 65536).toInt32 = nI (48 + q) := by
  rw [show (48 : Int32) + nI q = nI (48 + q) from nI_add 48 q]
  exact nch_nI (by omega)
theorem rem10 {k : Nat} (hk : k < 2 ^ 31) : nI k - nI k / 10 * 10 = nI (k % 10) := pk_rem (d := 10) hk (by omega) (by omega)
theorem div10 {k : Nat} (hk : k < 2 ^ 31) : nI k / 10 = nI (k / 10) := pk_div (d := 10) hk (by omega) (by omega)
theorem div100 {k : Nat} (hk : k < 2 ^ 31) : nI k / 100 = nI (k / 100) := pk_div (d := 100) hk (by omega) (by omega)
theorem dig_n {q : Nat} (hq : q < 10) : nch (nI (48 + q)) = nI (48 + q) := nch_nI (by omega)
theorem c_num {σ : Sg} {L : List Int32} {k : Nat} (hk : k < 1000) (h : LC σ L) (hl : L.length + (dgs k).length ≤ 80) : ∃ σ', p_X2_writeNumber (nI k) σ = some σ' ∧ LC σ' (L ++ dgs k) ∧ Fr [12, 13] σ σ' := by
  unfold p_X2_writeNumber
  rw [rem10 (by omega), div10 (by omega), div100 (by omega), rem10 (by omega), rem10 (by omega), dig_u (Nat.mod_lt _ (by omega)), dig_u (Nat.mod_lt _ (by omega)), dig_u (Nat.mod_lt _ (by omega))]
  by_cases h1 : k < 10
  · have e : dgs k = [nI (48 + k)] := by unfold dgs; rw [if_pos h1]
    rw [e] at hl ⊢
    simp only [List.length_singleton] at hl
    obtain ⟨σ1, e1, l1, f1⟩ := c_wr (c := nI (48 + k % 10)) (dig_n (Nat.mod_lt _ (by omega))) h (by omega)
    rw [Nat.mod_eq_of_lt h1] at e1 l1
    exact ⟨σ1, by rw [if_pos (show nI k < 100 from nI_lt (b := 100) (by omega) (by omega)), if_pos (show nI k < 10 from nI_lt (b := 10) h1 (by omega)), Nat.mod_eq_of_lt h1, e1, bS], l1, f1⟩
  · by_cases h2 : k < 100
    · have e : dgs k = [nI (48 + k / 10), nI (48 + k % 10)] := by unfold dgs; rw [if_neg h1, if_pos h2]
      rw [e] at hl ⊢
      simp only [List.length_cons, List.length_nil] at hl
      have hd : k / 10 % 10 = k / 10 := Nat.mod_eq_of_lt (by omega)
      obtain ⟨σ1, e1, l1, f1⟩ := c_wr (c := nI (48 + k / 10)) (dig_n (by omega)) h (by omega)
      obtain ⟨σ2, e2, l2, f2⟩ := c_wr (c := nI (48 + k % 10)) (dig_n (Nat.mod_lt _ (by omega))) l1 (by simp; omega)
      refine ⟨σ2, ?_, by simpa using l2, f1.trans f2⟩
      rw [if_pos (show nI k < 100 from nI_lt (b := 100) h2 (by omega)), if_neg (show ¬ nI k < 10 from nI_nlt (b := 10) (by omega) (by omega)), hd, e1, bS, e2, bS]
    · have e : dgs k = [nI (48 + k / 100), nI (48 + k / 10 % 10), nI (48 + k % 10)] := by unfold dgs; rw [if_neg h1, if_neg h2]
      rw [e] at hl ⊢
      simp only [List.length_cons, List.length_nil] at hl
      have hd : k / 100 % 10 = k / 100 := Nat.mod_eq_of_lt (by omega)
      obtain ⟨σ1, e1, l1, f1⟩ := c_wr (c := nI (48 + k / 100)) (dig_n (by omega)) h (by omega)
      obtain ⟨σ2, e2, l2, f2⟩ := c_wr (c := nI (48 + k / 10 % 10)) (dig_n (Nat.mod_lt _ (by omega))) l1 (by simp; omega)
      obtain ⟨σ3, e3, l3, f3⟩ := c_wr (c := nI (48 + k % 10)) (dig_n (Nat.mod_lt _ (by omega))) l2 (by simp; omega)
      refine ⟨σ3, ?_, by simpa using l3, (f1.trans f2).trans f3⟩
      rw [if_neg (show ¬ nI k < 100 from nI_nlt (b := 100) (by omega) (by omega)), hd, e1, bS, if_neg (show ¬ nI k < 10 from nI_nlt (b := 10) (by omega) (by omega)), e2, bS, e3, bS]
theorem m_num {σ : Sg} {L : List Int32} {k : Nat} (hk : k < 1000) (h : LM σ L) (hl : L.length + (dgs k).length ≤ 80) : ∃ σ', p_X7_writesNumber (nI k) σ = some σ' ∧ LM σ' (L ++ dgs k) ∧ Fm [26] [(20, 16)] σ σ' := by
  unfold p_X7_writesNumber
  rw [rem10 (by omega), div10 (by omega), div100 (by omega), rem10 (by omega), show (48 : Int32) + nI (k % 10) = nI (48 + k % 10) from nI_add 48 _, show (48 : Int32) + nI (k / 10 % 10) = nI (48 + k / 10 % 10) from nI_add 48 _, show (48 : Int32) + nI (k / 100) = nI (48 + k / 100) from nI_add 48 _]
  by_cases h1 : k < 10
  · have e : dgs k = [nI (48 + k)] := by unfold dgs; rw [if_pos h1]
    rw [e] at hl ⊢
    simp only [List.length_singleton] at hl
    obtain ⟨σ1, e1, l1, f1⟩ := m_wr (c := nI (48 + k % 10)) (dig_n (Nat.mod_lt _ (by omega))) h (by omega)
    rw [Nat.mod_eq_of_lt h1] at e1 l1
    exact ⟨σ1, by rw [if_pos (show nI k ≤ 99 from nI_le (b := 99) (by omega) (by omega)), if_pos (show nI k ≤ 9 from nI_le (b := 9) (by omega) (by omega)), Nat.mod_eq_of_lt h1, e1, bS], l1, f1⟩
  · have h9 : ¬ nI k ≤ 9 := nI_ge (a := 9) (by omega) (by omega)
    by_cases h2 : k < 100
    · have e : dgs k = [nI (48 + k / 10), nI (48 + k % 10)] := by unfold dgs; rw [if_neg h1, if_pos h2]
      rw [e] at hl ⊢
      simp only [List.length_cons, List.length_nil] at hl
      have hd : k / 10 % 10 = k / 10 := Nat.mod_eq_of_lt (by omega)
      obtain ⟨σ1, e1, l1, f1⟩ := m_wr (c := nI (48 + k / 10)) (dig_n (by omega)) h (by omega)
      obtain ⟨σ2, e2, l2, f2⟩ := m_wr (c := nI (48 + k % 10)) (dig_n (Nat.mod_lt _ (by omega))) l1 (by simp; omega)
      refine ⟨σ2, ?_, by simpa using l2, f1.trans f2⟩
      rw [if_pos (show nI k ≤ 99 from nI_le (b := 99) (by omega) (by omega)), if_neg h9, hd, e1, bS, e2, bS]
    · have e : dgs k = [nI (48 + k / 100), nI (48 + k / 10 % 10), nI (48 + k % 10)] := by unfold dgs; rw [if_neg h1, if_neg h2]
      rw [e] at hl ⊢
      simp only [List.length_cons, List.length_nil] at hl
      obtain ⟨σ1, e1, l1, f1⟩ := m_wr (c := nI (48 + k / 100)) (dig_n (by omega)) h (by omega)
      obtain ⟨σ2, e2, l2, f2⟩ := m_wr (c := nI (48 + k / 10 % 10)) (dig_n (Nat.mod_lt _ (by omega))) l1 (by simp; omega)
      obtain ⟨σ3, e3, l3, f3⟩ := m_wr (c := nI (48 + k % 10)) (dig_n (Nat.mod_lt _ (by omega))) l2 (by simp; omega)
      refine ⟨σ3, ?_, by simpa using l3, (f1.trans f2).trans f3⟩
      rw [if_neg (show ¬ nI k ≤ 99 from nI_ge (a := 99) (by omega) (by omega)), e1, bS, if_neg h9, e2, bS, e3, bS]
theorem dgs3 (k : Nat) : (dgs k).length ≤ 3 := by
  unfold dgs
  split
  · simp
  · split <;> simp
def wL (a : AS) (L : List Int32) : AS := (aR a, aH a, aS a, aW a, aX a, aF a, L)
theorem CRel.wL {σ σ' : Sg} {a : AS} {L : List Int32} (h : Fr [12, 13, 14, 15] σ σ') (hC : CRel σ a) (hL : LC σ' L) : CRel σ' (wL a L) := by
  have cr : ∀ {i : Nat} {G : Row}, CR σ i G → CR σ' i G := fun hC => hC.fr h (by decide) (by decide) (by decide) (by decide) (by decide)
  obtain ⟨g1, ⟨np, g2, g3, g4, g5⟩, ⟨g6, g7⟩, ⟨g8, g9, g10⟩, ⟨g11, g12⟩, g13, -⟩ := hC
  exact ⟨cr g1, ⟨np, g2, (h.1 6 (by decide) 0 1).1.trans g3, (h.1 6 (by decide) 0 2).1.trans g4, fun j hj => cr (g5 j hj)⟩, ⟨(h.1 0 (by decide) 0 3).1.trans g6, fun K hK => cr (g7 K hK)⟩,
    ⟨(h.1 8 (by decide) 0 0).1.trans g8, (h.1 8 (by decide) 0 1).1.trans g9, (h.1 8 (by decide) 0 2).1.trans g10⟩, ⟨(h.1 9 (by decide) 0 1).1.trans g11, g12.fr h (by decide)⟩, (h.1 0 (by decide) 0 7).1.trans g13, hL⟩
theorem MRel.wL {σ σ' : Sg} {a : AS} {L : List Int32} {w : Int32} (h : Fm [26, 27] [(20, 8), (20, 16), (20, 18)] σ σ') (hM : MRel σ a w) (hL : LM σ' L) : MRel σ' (wL a L) w := by
  obtain ⟨g1, ⟨g2, g3⟩, ⟨g4, g5⟩, ⟨g6, g7, g8⟩, ⟨g9, g10⟩, g11, -, g14⟩ := hM
  exact ⟨g1.fm h (by decide), ⟨(h.1 20 0 5 (by decide)).trans g2, fun j hj k hk => (h.2.1 22 (by decide) 0 _).trans (g3 j hj k hk)⟩, ⟨(h.1 20 0 4 (by decide)).trans g4, fun K hK k hk => (h.2.1 23 (by decide) 0 k).trans (g5 K hK k hk)⟩, ⟨(h.1 20 0 9 (by decide)).trans g6, (h.1 20 0 10 (by decide)).trans g7, (h.1 20 0 11 (by decide)).trans g8⟩, ⟨(h.1 20 0 13 (by decide)).trans g9, g10.fm h (by decide)⟩, (h.1 20 0 14 (by decide)).trans g11, hL, (h.1 20 0 6 (by decide)).trans g14⟩

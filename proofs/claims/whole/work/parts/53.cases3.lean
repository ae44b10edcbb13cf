/-! PURE: the cases that answer yes or no, and append's -/
theorem step_wrapG (g : Int32 → Int64) {pL : Sg → Option (Int32 × Sg)} {pc : Sg → Option ((Int32 ⊕ String) × Sg)} {pm : Sg → Option (Int32 × Sg)} {e : Nat → String} (hCmd : Cmd pc pm e)
    (hL1 : ∀ σ v σ1, pc σ = some (.inl v, σ1) → pL σ = some (0, sL σ1 (g v))) (hL2 : ∀ σ c σ1, (c = 1 ∨ c = 2) → pc σ = some (.inr (e c), σ1) → pL σ = some (nI c, σ1)) :
    ∀ σ a, BothRel σ a → ∃ r1 r2, pL σ = some r1 ∧ pm r1.2 = some r2 ∧ gI r2.2 20 0 8 = r1.1 ∧ (r1.1 = 0 → gL r2.2 = g r2.1) ∧ ∃ a', BothRel r2.2 a' := by
  rintro σ a ⟨hA, hC, hM⟩
  obtain ⟨o, a', hA', sc, sm⟩ := hCmd a hA
  obtain ⟨q, σ1, e1, c1, f1, hq⟩ := sc σ hC
  cases o with
  | inl v =>
    subst hq
    have hM1 : MRel σ1 a 0 := hM.cl f1
    have hM2 : MRel (sL σ1 (g v)) a 0 := hM1
    obtain ⟨x, σ2, e2, m2, g2, hx, h8⟩ := sm _ hM2
    have hC2 : CRel (sL σ1 (g v)) a' := c1
    refine ⟨(0, sL σ1 (g v)), (x, σ2), hL1 σ v σ1 e1, e2, h8, fun _ => ?_, a', hA', hC2.mo g2, m2⟩
    show gL σ2 = g x
    rw [g2.2.2.1, hx]
    rfl
  | inr c =>
    subst hq
    have hM1 : MRel σ1 a 0 := hM.cl f1
    obtain ⟨x, σ2, e2, m2, g2, h8, hc⟩ := sm _ hM1
    refine ⟨(nI c, σ1), (x, σ2), hL2 σ c σ1 hc e1, e2, h8, fun h0 => ?_, a', hA', c1.mo g2, m2⟩
    have h0 : nI c = 0 := h0
    rcases hc with rfl | rfl
    · exact absurd h0 (by decide)
    · exact absurd h0 (by decide)
def yn (v : Int32) : Int64 := if v = 0 then 0 else 1
theorem tail_yn {r1 r2 : Int32 × Sg} (h8 : gI r2.2 20 0 8 = r1.1) (hl : r1.1 = 0 → gL r2.2 = yn r2.1) : ((p_X7_thrown r2.2).bind fun r7 => if r7 = r1.1 then (if r1.1 = 0 then (if r2.1 = 0 then (if (lg_cmp (gL r2.2) 0) = 0 then (some r2.2) else (none)) else (if (lg_cmp (gL r2.2) 1) = 0 then (some r2.2) else (none))) else (some r2.2)) else (none)) = some r2.2 := by
  unfold p_X7_thrown
  rw [bS, if_pos h8]
  by_cases h0 : r1.1 = 0
  · rw [if_pos h0, hl h0]
    by_cases h1 : r2.1 = 0
    · rw [if_pos h1, yn, if_pos h1, lg_self, if_pos rfl]
    · rw [if_neg h1, yn, if_neg h1, lg_self, if_pos rfl]
  · rw [if_neg h0]
theorem st_15 (xs : Nat → Int32) (L : Nat) (i : Int32) (h1 : ib (i + 1) L = true) (h2 : ib (i + 2) L = true) : Step (p_lc_15 xs L i) := by
  intro σ a h
  obtain ⟨r1, r2, q1, q2, q3, q4, a', q5⟩ := step_wrapG yn (pL := p_L_isJoined (xs (i + 1).toNatClampNeg) (xs (i + 2).toNatClampNeg)) (cmd_isJoined _ _) (fun σ v σ1 h => by unfold p_L_isJoined; rw [h, bS, smL]; rfl) (fun σ c σ1 hc h => by
    rcases hc with rfl | rfl
    · unfold p_L_isJoined; rw [h, bS, smR]; rfl
    · exact absurd (on_isJoined _ _ h) (by decide)) σ a h
  refine ⟨r2.2, a', ?_, q5⟩
  unfold p_lc_15
  rw [if_pos h1, if_pos h2, q1, bS, if_pos h1, if_pos h2, q2, bS]
  exact tail_yn q3 q4
theorem st_16 (xs : Nat → Int32) (L : Nat) (i : Int32) (h1 : ib (i + 1) L = true) (h2 : ib (i + 2) L = true) : Step (p_lc_16 xs L i) := by
  intro σ a h
  obtain ⟨r1, r2, q1, q2, q3, q4, a', q5⟩ := step_wrapG yn (pL := p_L_isTrack (xs (i + 1).toNatClampNeg) (xs (i + 2).toNatClampNeg)) (cmd_isTrack _ _) (fun σ v σ1 h => by unfold p_L_isTrack; rw [h, bS, smL]; rfl) (fun σ c σ1 hc h => by
    rcases hc with rfl | rfl
    · unfold p_L_isTrack; rw [h, bS, smR]; rfl
    · exact absurd (on_isTrack _ _ h) (by decide)) σ a h
  refine ⟨r2.2, a', ?_, q5⟩
  unfold p_lc_16
  rw [if_pos h1, if_pos h2, q1, bS, if_pos h1, if_pos h2, q2, bS]
  exact tail_yn q3 q4
theorem st_26 (xs : Nat → Int32) (L : Nat) (i : Int32) (h1 : ib (i + 1) L = true) : Step (p_lc_26 xs L i) := by
  intro σ a h
  obtain ⟨w, hw, hx⟩ : ∃ w, w < 65536 ∧ (((xs (i + 1).toNatClampNeg).toUInt32 % 65536).toInt32) = nI w := ⟨_, Nat.mod_lt _ (by omega), pk_char _⟩
  obtain ⟨r1, r2, q1, q2, q3, q4, a', q5⟩ := step_wrap (pL := p_L_append (nI w)) (cmd_append hw) (fun σ v σ1 h => by unfold p_L_append; rw [h, bS, smL]) (fun σ c σ1 hc h => by
    rcases hc with rfl | rfl
    · unfold p_L_append; rw [h, bS, smR]; rfl
    · exact absurd (on_append _ h) (by decide)) σ a h
  refine ⟨r2.2, a', ?_, q5⟩
  unfold p_lc_26
  rw [if_pos h1, hx, q1, bS, if_pos h1, q2, bS]
  exact tail_ok q3 q4

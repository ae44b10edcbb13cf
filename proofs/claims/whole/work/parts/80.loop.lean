/-! PURE: the law's loop, and its start -/
theorem lc_step (xs : Nat → Int32) (L j : Nat) (hL : L ≤ 2048) (hj : 4 * j + 4 ≤ L) : Step (p_lc xs L (nI (4 * j))) := by
  have h1 : ib (nI (4 * j) + 1) L = true := by rw [nI_1]; exact ib_t (by omega) (by omega)
  have h2 : ib (nI (4 * j) + 2) L = true := by rw [show nI (4 * j) + 2 = nI (4 * j + 2) from nI_add _ 2]; exact ib_t (by omega) (by omega)
  have h3 : ib (nI (4 * j) + 3) L = true := by rw [show nI (4 * j) + 3 = nI (4 * j + 3) from nI_add _ 3]; exact ib_t (by omega) (by omega)
  intro σ a h
  unfold p_lc
  generalize (xs (nI (4 * j)).toNatClampNeg &&& 63).toNatClampNeg = k
  match k with
  | 0 => exact st_0 xs L _ h1 σ a h
  | 1 => exact st_1 xs L _ h1 h2 σ a h
  | 2 => exact st_2 xs L _ h1 h2 σ a h
  | 3 => exact st_3 xs L _ h1 σ a h
  | 4 => exact st_4 xs L _ h1 σ a h
  | 5 => exact st_5 xs L _ h1 h2 h3 σ a h
  | 6 => exact st_6 xs L _ h1 h2 σ a h
  | 7 => exact st_7 xs L _ h1 h2 σ a h
  | 8 => exact st_8 xs L _ h1 h2 σ a h
  | 9 => exact st_9 xs L _ h1 h2 σ a h
  | 10 => exact st_10 xs L _ h1 h2 h3 σ a h
  | 11 => exact st_11 xs L _ h1 h2 σ a h
  | 12 => exact st_12 xs L _ h1 h2 σ a h
  | 13 => exact st_13 xs L _ h1 h2 σ a h
  | 14 => exact st_14 xs L _ h1 h2 σ a h
  | 15 => exact st_15 xs L _ h1 h2 σ a h
  | 16 => exact st_16 xs L _ h1 h2 σ a h
  | 17 => exact st_17 xs L _ h1 h2 σ a h
  | 18 => exact st_18 xs L _ h1 σ a h
  | 19 => exact st_19 xs L _ σ a h
  | 20 => exact st_20 xs L _ h1 σ a h
  | 21 => exact st_21 xs L _ h1 σ a h
  | 22 => exact st_22 xs L _ h1 σ a h
  | 23 => exact st_23 xs L _ h1 h2 σ a h
  | 24 => exact st_24 xs L _ h1 σ a h
  | 25 => exact st_25 xs L _ h1 σ a h
  | 26 => exact st_26 xs L _ h1 σ a h
  | 27 => exact st_27 xs L _ σ a h
  | 28 => exact st_28 xs L _ σ a h
  | 29 => exact st_29 xs L _ h1 σ a h
  | 30 => exact st_30 xs L _ h1 h2 σ a h
  | 31 => exact st_31 xs L _ h1 σ a h
  | 32 => exact st_32 xs L _ h1 σ a h
  | 33 => exact st_33 xs L _ σ a h
  | 34 => exact st_34 xs L _ σ a h
  | 35 => exact st_35 xs L _ h1 σ a h
  | 36 => exact st_36 xs L _ σ a h
  | 37 => exact st_37 xs L _ σ a h
  | 38 => exact st_38 xs L _ σ a h
  | n + 39 => exact ⟨σ, a, rfl, h⟩
theorem law_runs (xs : Nat → Int32) (L : Nat) (hL : L ≤ 2048) : ∀ (n j : Nat) (σ : Sg) (a : AS), 4 * j ≤ L → L + 4 ≤ 4 * j + 4 * n → BothRel σ a → ∃ σ9, p_law_L xs L n (nI (4 * j)) σ = some σ9 := by
  intro n
  induction n with
  | zero => intro j σ a h1 h2 _; omega
  | succ n ih =>
    intro j σ a h1 h2 h
    rw [p_law_L]
    by_cases hs : 4 * j + 4 ≤ L
    · have e : Int32.ofNat L - 4 = nI (L - 4) := pk_sub (a := L) (b := 4) (by omega)
      obtain ⟨σ1, a1, e1, b1⟩ := lc_step xs L j hL hs σ a h
      rw [e, if_neg (nI_nlt (by omega) (by omega)), if_pos (ib_t (by omega) (by omega)), e1, bS, show nI (4 * j) + 4 = nI (4 * (j + 1)) from nI_add _ 4]
      exact ih (j + 1) σ1 a1 (by omega) (by omega) b1
    · have hc : Int32.ofNat L - 4 < nI (4 * j) := by
        by_cases h4 : 4 ≤ L
        · rw [show Int32.ofNat L - 4 = nI (L - 4) from pk_sub (a := L) (b := 4) h4]
          exact nI_lt (by omega) (by omega)
        · have hneg : Int32.ofNat L - 4 < 0 := by
            rcases (show L = 0 ∨ L = 1 ∨ L = 2 ∨ L = 3 by omega) with rfl | rfl | rfl | rfl <;> decide
          exact Int32.lt_of_lt_of_le hneg (nI_pos' (by omega))
      rw [if_pos hc]
      exact ⟨σ, rfl⟩
def G0 : Row := fun k => if k = 5 ∨ k = 6 ∨ k = 7 then -1 else 0
def as0 : AS := ((G0, 0), [], none, (0, 0, 0), [], -1, [])
theorem both0 : BothRel σ0 as0 := by
  have z : ∀ k, (k < 5 ∨ 8 ≤ k) → G0 k = 0 := fun k hk => if_neg (by omega)
  refine ⟨⟨⟨by show 0 ≤ 12; omega, rfl, ⟨fun _ => 0, fun k hk => absurd hk (Nat.not_lt_zero _)⟩, fun k hk => absurd hk (Nat.not_lt_zero _), fun k hk => absurd hk (Nat.not_lt_zero _), fun d hd => Or.inl (if_pos (by omega))⟩, fun K hK => absurd hK List.not_mem_nil, fun K hK => (by cases hK), by show 0 ≤ 8; omega, by show 0 ≤ 60; omega, by show 0 ≤ 80; omega, fun x hx => absurd hx List.not_mem_nil⟩, ?_, ?_⟩
  · refine ⟨⟨rfl, rfl, rfl, rfl, rfl, fun k hk => ?_, fun k hk => (z (8 + k) (by omega)).symm, fun k hk => (z (20 + k) (by omega)).symm, fun k hk => (z (32 + k) (by omega)).symm⟩, ⟨0, by omega, rfl, rfl, fun j hj => absurd hj (Nat.not_lt_zero _)⟩, ⟨rfl, fun K hK => by cases hK⟩, ⟨rfl, rfl, rfl⟩, ⟨rfl, fun k hk => absurd hk (Nat.not_lt_zero _)⟩, rfl, ⟨rfl, fun k hk => absurd hk (Nat.not_lt_zero _)⟩⟩
    rcases (show k = 0 ∨ k = 1 ∨ k = 2 by omega) with rfl | rfl | rfl <;> rfl
  · refine ⟨fun k hk => ?_, ⟨rfl, fun j hj => absurd hj (Nat.not_lt_zero _)⟩, ⟨rfl, fun K hK => by cases hK⟩, ⟨rfl, rfl, rfl⟩, ⟨rfl, fun k hk => absurd hk (Nat.not_lt_zero _)⟩, rfl, ⟨rfl, fun k hk => absurd hk (Nat.not_lt_zero _)⟩, rfl⟩
    show upd (upd (upd z0 5 (-1)) 6 (-1)) 7 (-1) k = G0 k
    by_cases h7 : k = 7
    · subst h7; rfl
    · by_cases h6 : k = 6
      · subst h6; rfl
      · by_cases h5 : k = 5
        · subst h5; rfl
        · rw [z k (by omega)]
          simp [upd, z0, h5, h6, h7]
theorem law_all (xs : Nat → Int32) (L : Nat) (hL : L ≤ 2048) : ∃ σ9, p_law_L xs L 513 0 σ0 = some σ9 := law_runs xs L hL 513 0 σ0 as0 (by omega) (by omega) both0

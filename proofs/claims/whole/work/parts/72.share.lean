/-! PURE: the mean of what was paid is no NaN -/
theorem b64_qmax : FP.Core.b64.qmax = 971 := by decide
theorem b64_qmin : FP.Core.b64.qmin = -1074 := by decide
theorem b64_tails : FP.Core.b64.tails = 4503599627370496 := by decide
theorem b64_exps : FP.Core.b64.exps = 2048 := by decide
theorem b64_two : 2 ^ FP.Core.b64.p = 9007199254740992 := by decide
theorem b64_p1 : ((FP.Core.b64.p : Nat) : Int) - 1 = 52 := by decide
/-- a number, or too great for one -/
def fpOk : FP.Core.Datum → Prop
  | .nan => False
  | .inf _ => True
  | .fin _ c q => c < 9007199254740992 ∧ q ≤ 971
theorem enc_fin {s : Bool} {c : Nat} {q : Int} (h1 : c < 9007199254740992) (h2 : q ≤ 971) : FP.Core.encode FP.Core.b64 (.fin s c q) < 18446744073709551616 ∧ FP.Core.encode FP.Core.b64 (.fin s c q) % 9223372036854775808 < 9218868437227405312 ∧ (c ≠ 0 → FP.Core.encode FP.Core.b64 (.fin s c q) % 9223372036854775808 ≠ 0) := by
  simp only [FP.Core.encode, FP.Core.assemble, b64_tails, b64_exps, b64_qmin]
  by_cases hc : c < 4503599627370496
  · rw [if_pos hc]
    cases s
    · simp only [Bool.toNat_false]; omega
    · simp only [Bool.toNat_true]; omega
  · rw [if_neg hc]
    obtain ⟨e, he⟩ : ∃ e, e = (q - -1074).toNat := ⟨_, rfl⟩
    rw [← he]
    have he2 : e ≤ 2045 := by omega
    cases s
    · simp only [Bool.toNat_false]; omega
    · simp only [Bool.toNat_true]; omega
theorem enc_le {d : FP.Core.Datum} (h : fpOk d) : FP.Core.encode FP.Core.b64 d < 18446744073709551616 ∧ FP.Core.encode FP.Core.b64 d % 9223372036854775808 ≤ 9218868437227405312 := by
  cases d with
  | nan => exact h.elim
  | inf s => cases s <;> decide
  | fin s c q =>
    have := enc_fin (s := s) h.1 h.2
    omega
theorem set_ok (s : Bool) (c : Nat) (q : Int) : fpOk (FP.Core.settle FP.Core.b64 s c q) := by
  unfold FP.Core.settle FP.Core.bound
  rw [b64_two, b64_qmax, b64_tails]
  by_cases h1 : c < 9007199254740992
  · rw [if_pos h1]
    by_cases h2 : q ≤ 971
    · rw [if_pos h2]; exact ⟨h1, h2⟩
    · rw [if_neg h2]; trivial
  · rw [if_neg h1]
    by_cases h2 : q + 1 ≤ 971
    · rw [if_pos h2]; exact ⟨by omega, h2⟩
    · rw [if_neg h2]; trivial
theorem rr_ok (s : Bool) (num den : Nat) (e : Int) : fpOk (FP.Core.roundRatio FP.Core.b64 s num den e) := by
  unfold FP.Core.roundRatio
  by_cases h : num = 0
  · rw [if_pos h, b64_qmin]; exact ⟨by omega, by omega⟩
  · rw [if_neg h]; exact set_ok _ _ _
theorem dec_fin {n : Nat} (h : n % 9223372036854775808 < 9218868437227405312) : ∃ s c q, FP.Core.decode FP.Core.b64 n = .fin s c q ∧ (n % 9223372036854775808 ≠ 0 → c ≠ 0) := by
  unfold FP.Core.decode FP.Core.fieldE FP.Core.fieldT
  rw [b64_tails, b64_exps, b64_qmin]
  rw [if_neg (show ¬ n / 4503599627370496 % 2048 = 2048 - 1 by omega)]
  by_cases h2 : n / 4503599627370496 % 2048 = 0
  · rw [if_pos h2]
    exact ⟨_, _, _, rfl, fun h3 => by omega⟩
  · rw [if_neg h2]
    exact ⟨_, _, _, rfl, fun h3 => by omega⟩
theorem rr_int {s : Bool} {c : Nat} (h0 : 0 < c) (h1 : c ≤ 2147483648) : ∃ c' q', FP.Core.roundRatio FP.Core.b64 s c 1 0 = .fin s c' q' ∧ c' < 9007199254740992 ∧ q' ≤ 971 ∧ c' ≠ 0 := by
  have hl : c.log2 < 32 := (Nat.log2_lt (by omega)).mpr (by omega)
  have h10 : Nat.log2 1 = 0 := by decide
  have hlead : FP.Core.leading c 1 ≤ 31 := by
    unfold FP.Core.leading
    rw [h10]
    simp only
    split <;> omega
  obtain ⟨q, hq⟩ : ∃ q, q = FP.Core.quantum FP.Core.b64 c 1 0 := ⟨_, rfl⟩
  have hq0 : q < 0 := by
    rw [hq]
    unfold FP.Core.quantum
    rw [b64_qmin, b64_p1]
    omega
  have hden : FP.Core.unitsDen 1 0 q = 1 := by
    unfold FP.Core.unitsDen
    rw [show (q - 0).toNat = 0 by omega]
  have hnum : FP.Core.unitsNum c 0 q ≠ 0 := by
    unfold FP.Core.unitsNum
    have := Nat.two_pow_pos (0 - q).toNat
    exact Nat.mul_ne_zero (by omega) (by omega)
  have hn : FP.Core.nearest (FP.Core.unitsNum c 0 q) 1 = FP.Core.unitsNum c 0 q := by
    unfold FP.Core.nearest
    rw [Nat.mod_one, if_pos (by omega), Nat.div_one]
  unfold FP.Core.roundRatio FP.Core.roundAt
  rw [if_neg (by omega), ← hq, hden, hn]
  unfold FP.Core.settle FP.Core.bound
  rw [b64_two, b64_qmax, b64_tails]
  by_cases h2 : FP.Core.unitsNum c 0 q < 9007199254740992
  · rw [if_pos h2, if_pos (by omega)]
    exact ⟨_, _, rfl, h2, by omega, hnum⟩
  · rw [if_neg h2, if_pos (by omega)]
    exact ⟨_, _, rfl, by omega, by omega, by omega⟩
theorem i2d_bits (x : Int32) : (FP.i2d x).toNat % 9223372036854775808 < 9218868437227405312 ∧ (x ≠ 0 → (FP.i2d x).toNat % 9223372036854775808 ≠ 0) := by
  have h1 := Int32.toInt_lt x
  have h2 := Int32.le_toInt x
  have e : (FP.i2d x).toNat = FP.Core.encode FP.Core.b64 (FP.Core.roundRatio FP.Core.b64 (decide (x.toInt < 0)) x.toInt.natAbs 1 0) % 18446744073709551616 := by
    show (UInt64.ofNat (FP.Core.fromInt FP.Core.b64 x.toInt)).toNat = _
    rw [UInt64.toNat_ofNat']
    rfl
  by_cases h0 : x.toInt.natAbs = 0
  · have hz : x = 0 := Int32.toInt_inj.mp (by rw [Int.natAbs_eq_zero.mp h0]; rfl)
    have e2 : FP.Core.roundRatio FP.Core.b64 (decide (x.toInt < 0)) x.toInt.natAbs 1 0 = .fin (decide (x.toInt < 0)) 0 (-1074) := by
      unfold FP.Core.roundRatio
      rw [if_pos h0, b64_qmin]
    have := enc_fin (s := decide (x.toInt < 0)) (c := 0) (q := -1074) (by omega) (by omega)
    rw [e, e2]
    exact ⟨by omega, fun h => absurd hz h⟩
  · obtain ⟨c', q', g1, g2, g3, g4⟩ := rr_int (s := decide (x.toInt < 0)) (c := x.toInt.natAbs) (by omega) (by omega)
    obtain ⟨k1, k2, k3⟩ := enc_fin (s := decide (x.toInt < 0)) g2 g3
    have k4 := k3 g4
    rw [e, g1]
    exact ⟨by omega, fun _ => by omega⟩
theorem nn_share (x y : Int32) (hy : y ≠ 0) : nn64 (FP.ddiv (FP.i2d x) (FP.i2d y)) = true := by
  obtain ⟨s, c, q, d1, -⟩ := dec_fin (i2d_bits x).1
  obtain ⟨t, d, r, d2, d3⟩ := dec_fin (i2d_bits y).1
  have hd := d3 ((i2d_bits y).2 hy)
  have e : FP.Core.div FP.Core.b64 (FP.i2d x).toNat (FP.i2d y).toNat = FP.Core.encode FP.Core.b64 (FP.Core.roundRatio FP.Core.b64 (s != t) c d (q - r)) := by
    have e3 : FP.Core.quotient FP.Core.b64 (.fin s c q) (.fin t d r) = FP.Core.roundRatio FP.Core.b64 (s != t) c d (q - r) := if_neg hd
    unfold FP.Core.div
    rw [d1, d2, e3]
  obtain ⟨g1, g2⟩ := enc_le (rr_ok (s != t) c d (q - r))
  rw [← e] at g1 g2
  obtain ⟨n, hn⟩ : ∃ n, n = FP.Core.div FP.Core.b64 (FP.i2d x).toNat (FP.i2d y).toNat := ⟨_, rfl⟩
  rw [← hn] at g1 g2
  have e2 : FP.ddiv (FP.i2d x) (FP.i2d y) = UInt64.ofNat n := by rw [hn]; rfl
  unfold nn64
  rw [e2]
  refine decide_eq_true (UInt64.le_iff_toNat_le.mpr ?_)
  rw [UInt64.toNat_and, UInt64.toNat_ofNat']
  show n % 2 ^ 64 &&& 9223372036854775807 ≤ 9218868437227405312
  rw [show (9223372036854775807 : Nat) = 2 ^ 63 - 1 by decide, Nat.and_two_pow_sub_one_eq_mod]
  omega
theorem st_34 (xs : Nat → Int32) (L : Nat) (i : Int32) : Step (p_lc_34 xs L i) := by
  rintro σ a ⟨hA, hC, hM⟩
  have d3 : gI σ 1 0 7 = (aR a).1 3 := hC.1.2.2.2.1
  have d4 : gI σ 1 0 8 = (aR a).1 4 := hC.1.2.2.2.2.1
  by_cases h0 : (aR a).1 3 = 0
  · refine ⟨sI σ 20 0 8 1, a, ?_, hA, hC.mo (Fm.sI (by decide)), hM.fm (Fm.sI (A := []) (I := [(20, 8)]) (by simp)) sc2⟩
    have e1 : p_L_paidShare σ = some (1, σ) := by
      unfold p_L_paidShare p_X6_paidShare p_X1_drives
      rw [bS, d3, if_pos h0, bS, smR]
      rfl
    have m3 : gA σ 21 0 3 = 0 := (hM.1 3 (by omega)).trans h0
    have e2 : p_X7_paidShare σ = some (FP.dconst0, sI σ 20 0 8 1) := by
      unfold p_X7_paidShare
      rw [m3, if_pos rfl, mf1, bS, if_neg n10]
    unfold p_lc_34 p_X7_thrown
    rw [e1, bS, e2, bS, bS, s8g, if_pos rfl, if_neg n10]
  · obtain ⟨v, hv⟩ : ∃ v, v = FP.ddiv (FP.i2d ((aR a).1 4)) (FP.i2d ((aR a).1 3)) := ⟨_, rfl⟩
    have hnn := nn_share ((aR a).1 4) ((aR a).1 3) h0
    have e1 : p_L_paidShare σ = some (0, sD σ v) := by
      unfold p_L_paidShare p_X6_paidShare p_X1_drives p_X1_paid
      rw [bS, d3, if_neg h0, bS, d4, if_pos hnn, bS, smL, hv]
    have m3 : gA (sD σ v) 21 0 3 = (aR a).1 3 := hM.1 3 (by omega)
    have m3' : gA (sI (sD σ v) 20 0 8 0) 21 0 3 = (aR a).1 3 := hM.1 3 (by omega)
    have m4' : gA (sI (sD σ v) 20 0 8 0) 21 0 4 = (aR a).1 4 := hM.1 4 (by omega)
    have e2 : p_X7_paidShare (sD σ v) = some (v, sI (sD σ v) 20 0 8 0) := by
      unfold p_X7_paidShare
      rw [m3, if_neg h0, mf0, bS, if_pos rfl, m3', m4', if_pos hnn, hv]
    have hM1 : MRel (sD σ v) a 0 := hM
    have hC1 : CRel (sD σ v) a := hC
    refine ⟨sI (sD σ v) 20 0 8 0, a, ?_, hA, hC1.mo (Fm.sI (by decide)), hM1.fm (Fm.sI (A := []) (I := [(20, 8)]) (by simp)) sc2⟩
    unfold p_lc_34 p_X7_thrown
    rw [e1, bS, e2, bS, bS, s8g, if_pos rfl, if_pos rfl]
    have e3 : gD (sI (sD σ v) 20 0 8 0) = v := rfl
    rw [e3, if_pos rfl]

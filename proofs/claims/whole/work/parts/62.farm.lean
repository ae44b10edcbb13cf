/-! PURE: what refuses a change; a farm is built -/
def kp (σ : Sg) (y z : Int32) : Sg := sI (sI σ 8 0 0 y) 8 0 1 z
def rf (σ : Sg) (y z : Int32) : Sg := sI (sI (sI (sI σ 20 0 8 1) 20 0 9 y) 20 0 10 z) 20 0 11 (if gI σ 20 0 6 = 0 then 0 else gI σ 20 0 7)
theorem keep_kp (y z : Int32) (σ : Sg) : p_X3_keep y z σ = some (1, kp σ y z) := rfl
theorem refuses_rf (y z : Int32) (σ : Sg) : p_X7_refuses y z σ = some (0, rf σ y z) := by
  unfold p_X7_refuses rf
  have e6 : gI (sI (sI (sI σ 20 0 8 1) 20 0 9 y) 20 0 10 z) 20 0 6 = gI σ 20 0 6 := by rw [gI_sI, if_neg (by decide), gI_sI, if_neg (by decide), gI_sI, if_neg (by decide)]
  have e7 : gI (sI (sI (sI σ 20 0 8 1) 20 0 9 y) 20 0 10 z) 20 0 7 = gI σ 20 0 7 := by rw [gI_sI, if_neg (by decide), gI_sI, if_neg (by decide), gI_sI, if_neg (by decide)]
  rw [e6, e7]
  by_cases h : gI σ 20 0 6 = 0
  · rw [if_pos h, if_pos h]
  · rw [if_neg h, if_neg h]
theorem reC {k a b c : Int32} {G : Row} {y z : Int32} (h : ∀ σ, CR σ 0 G → ∃ σ', Fr [14, 15] σ σ' ∧ p_X6_isRefused k a b c σ = some (1, kp σ' y z)) : ReC k a b c G y z := by
  intro σ hC
  obtain ⟨σ', f, e⟩ := h σ hC
  refine ⟨kp σ' y z, e, (f.mono (by decide)).trans ((Fr.sI (by decide)).trans (Fr.sI (by decide))), ?_, ?_, ?_⟩
  · unfold kp; rw [gI_sI, if_neg (by decide), gI_sI, if_pos ⟨rfl, rfl, rfl⟩]
  · unfold kp; rw [gI_sI, if_pos ⟨rfl, rfl, rfl⟩]
  · unfold kp; rw [gI_sI, if_neg (by decide), gI_sI, if_neg (by decide)]; exact (f.1 8 (by decide) 0 2).1
theorem reM {pm : Sg → Option (Int32 × Sg)} {G : Row} {y z : Int32} (h : ∀ σ, MR σ G → ∃ σ', Fm [27] [(20, 18)] σ σ' ∧ ∃ x, pm σ = some (x, rf σ' y z)) : ReM pm G y z := by
  intro σ hM
  obtain ⟨σ', f, x, e⟩ := h σ hM
  refine ⟨x, rf σ' y z, e, (f.mono (by decide) (by decide)).trans ((((Fm.sI (by decide)).trans (Fm.sI (by decide))).trans (Fm.sI (by decide))).trans (Fm.sI (by decide))), ?_, ?_, ?_, ?_⟩
  · unfold rf; rw [gI_sI, if_neg (by decide), gI_sI, if_neg (by decide), gI_sI, if_neg (by decide), gI_sI, if_pos ⟨rfl, rfl, rfl⟩]
  · unfold rf; rw [gI_sI, if_neg (by decide), gI_sI, if_neg (by decide), gI_sI, if_pos ⟨rfl, rfl, rfl⟩]
  · unfold rf; rw [gI_sI, if_neg (by decide), gI_sI, if_pos ⟨rfl, rfl, rfl⟩]
  · unfold rf; rw [gI_sI, if_pos ⟨rfl, rfl, rfl⟩, f.1 20 0 6 (by decide), f.1 20 0 7 (by decide)]
theorem nb1 : nb 1 = 1 := by decide
theorem nb0 : nb 0 = 0 := by decide
theorem n10 : ¬ (1 : Int32) = 0 := by decide
theorem bt0 : ¬ b01 true = 0 := by decide
theorem bf0 : b01 false = 0 := by decide
theorem isR_c (a b c : Int32) (σ : Sg) : p_X6_isRefused 99 a b c σ = (p_X6_refusesToGiveUp a b σ).bind fun r => some (nb r.1, r.2) := by
  unfold p_X6_isRefused; rw [if_pos rfl]
theorem isR_e (a b c : Int32) (σ : Sg) : p_X6_isRefused 101 a b c σ = (p_X6_refusesFarm a σ).bind fun r => some (nb r.1, r.2) := by
  unfold p_X6_isRefused; rw [if_neg (by decide), if_pos rfl]
theorem isR_f (a b c : Int32) (σ : Sg) : p_X6_isRefused 102 a b c σ = (p_X6_refusesToBuild a σ).bind fun r => some (nb r.1, r.2) := by
  unfold p_X6_isRefused; rw [if_neg (by decide), if_neg (by decide), if_pos rfl]
theorem isR_l (a b c : Int32) (σ : Sg) : p_X6_isRefused 108 a b c σ = (p_X6_refusesToLay a b σ).bind fun r => some (nb r.1, r.2) := by
  unfold p_X6_isRefused; rw [if_neg (by decide), if_neg (by decide), if_neg (by decide), if_pos rfl]
theorem isR_r (a b c : Int32) (σ : Sg) : p_X6_isRefused 114 a b c σ = (p_X6_refusesToRoot a σ).bind fun r => some (nb r.1, r.2) := by
  unfold p_X6_isRefused; rw [if_neg (by decide), if_neg (by decide), if_neg (by decide), if_neg (by decide), if_pos rfl]
theorem isR_t (a b c : Int32) (σ : Sg) : p_X6_isRefused 116 a b c σ = (p_X6_refusesToCharge a b c σ).bind fun r => some (nb r.1, r.2) := by
  unfold p_X6_isRefused; rw [if_neg (by decide), if_neg (by decide), if_neg (by decide), if_neg (by decide), if_neg (by decide), if_pos rfl]
theorem isR_d (a b c : Int32) (σ : Sg) : p_X6_isRefused 100 a b c σ = (p_X6_refusesToDrive a b σ).bind fun r => some (nb r.1, r.2) := by
  unfold p_X6_isRefused; rw [if_neg (by decide), if_neg (by decide), if_neg (by decide), if_neg (by decide), if_neg (by decide), if_neg (by decide)]
theorem cO_c (a b c : Int32) (σ : Sg) : p_X6_carryOut 99 a b c σ = (p_X6_giveTrackUp a b σ).bind fun r => some (r.1, r.2) := by
  unfold p_X6_carryOut; rw [if_pos rfl]
theorem cO_e (a b c : Int32) (σ : Sg) : p_X6_carryOut 101 a b c σ = (p_X6_exposeFarm a σ).bind fun r => some (r.1, r.2) := by
  unfold p_X6_carryOut; rw [if_neg (by decide), if_pos rfl]
theorem cO_f (a b c : Int32) (σ : Sg) : p_X6_carryOut 102 a b c σ = (p_X1_build a σ).bind fun r => some (r.1, r.2) := by
  unfold p_X6_carryOut; rw [if_neg (by decide), if_neg (by decide), if_pos rfl]
theorem cO_l (a b c : Int32) (σ : Sg) : p_X6_carryOut 108 a b c σ = (p_X6_layTrack a b σ).bind fun r => some (r.1, r.2) := by
  unfold p_X6_carryOut; rw [if_neg (by decide), if_neg (by decide), if_neg (by decide), if_pos rfl]
theorem cO_r (a b c : Int32) (σ : Sg) : p_X6_carryOut 114 a b c σ = (p_X6_rootAnew a σ).bind fun r => some (r.1, r.2) := by
  unfold p_X6_carryOut; rw [if_neg (by decide), if_neg (by decide), if_neg (by decide), if_neg (by decide), if_pos rfl]
theorem cO_t (a b c : Int32) (σ : Sg) : p_X6_carryOut 116 a b c σ = (p_X6_chargeWay a b c σ).bind fun r => some (r.1, r.2) := by
  unfold p_X6_carryOut; rw [if_neg (by decide), if_neg (by decide), if_neg (by decide), if_neg (by decide), if_neg (by decide), if_pos rfl]
theorem cO_d (a b c : Int32) (σ : Sg) : p_X6_carryOut 100 a b c σ = (p_X6_driveTo a b σ).bind fun r => some (r.1, r.2) := by
  unfold p_X6_carryOut; rw [if_neg (by decide), if_neg (by decide), if_neg (by decide), if_neg (by decide), if_neg (by decide), if_neg (by decide)]
/-- a toll that is allowed -/
def isT (v : Int32) : Bool := !(decide (v < 0) || decide (200 < v))
theorem c_isToll (v : Int32) (σ : Sg) : p_X6_isToll v σ = some (b01 (isT v)) := by
  unfold p_X6_isToll isT
  by_cases h1 : v < 0
  · simp [h1, b01]
  · by_cases h2 : (200 : Int32) < v
    · simp [h1, h2, b01]
    · simp [h1, h2, b01]
theorem m_isToll (v : Int32) (σ : Sg) : p_X7_in v 0 200 σ = some (b01 (isT v)) := by
  unfold p_X7_in isT
  by_cases h1 : v < 0
  · simp [h1, b01]
  · by_cases h2 : (200 : Int32) < v
    · simp [h1, h2, b01]
    · simp [h1, h2, b01]
theorem isT_of {v : Int32} (h : isT v = true) : ∃ t, t ≤ 200 ∧ v = nI t := by
  simp only [isT, Bool.not_eq_true', Bool.or_eq_false_iff, decide_eq_false_iff_not] at h
  obtain ⟨j, hj, rfl⟩ := nI_of h.1
  refine ⟨j, ?_, rfl⟩
  rcases Nat.lt_or_ge 200 j with h2 | h2
  · exact absurd (show (200 : Int32) < nI j from nI_lt (a := 200) h2 hj) h.2
  · exact h2
section CF
variable {σ : Sg} {G : Row} {n : Nat}
theorem setPar_n {k : Nat} (hk : k < 12) (v : Int32) (σ : Sg) : p_X1_setParent (nI k) v σ = some (sA σ 3 0 k v) := by
  unfold p_X1_setParent
  rw [if_neg (nI_pos (by omega)), if_neg (show ¬ (12 : Int32) ≤ nI k from nI_ge (b := 12) hk (by decide)), if_pos (ib_t hk (by omega)), nI_clamp (by omega)]
theorem pref_n {k : Nat} (hk : k < 12) (v : Int32) (σ : Sg) : p_X1_prefer (nI k) v σ = some (sA σ 4 0 k v) := by
  unfold p_X1_prefer
  rw [if_neg (nI_pos (by omega)), if_neg (show ¬ (12 : Int32) ≤ nI k from nI_ge (b := 12) hk (by decide)), if_pos (ib_t hk (by omega)), nI_clamp (by omega)]
theorem c_refF (hC : CR σ 0 G) (hI : Inv G n) (v : Int32) : p_X6_refusesFarm v σ = some (if isF n v then (0, σ) else (1, kp σ 3 v)) := by
  unfold p_X6_refusesFarm
  rw [c_has hC hI v, bS]
  cases isF n v with
  | true => rw [if_neg bt0]; rfl
  | false => rw [if_pos bf0, keep_kp, bS, if_neg n10]; rfl
theorem c_refF1 (hC : CR σ 0 G) (hI : Inv G n) {v : Int32} (h : isF n v = false) : p_X6_refusesFarm v σ = some (1, kp σ 3 v) := by
  rw [c_refF hC hI, h]; rfl
theorem c_refF0 (hC : CR σ 0 G) (hI : Inv G n) {v : Int32} (h : isF n v = true) : p_X6_refusesFarm v σ = some (0, σ) := by
  rw [c_refF hC hI, h]; rfl
theorem Inv.farm (hI : Inv G n) (hn : n < 12) {t : Nat} (ht : t ≤ 200) : Inv (up1 (up1 (up1 (up1 G 0 (nI (n + 1))) (8 + n) (nI t)) (20 + n) (-1)) (32 + n) (-1)) (n + 1) := by
  obtain ⟨H, hH⟩ : ∃ H, H = up1 (up1 (up1 (up1 G 0 (nI (n + 1))) (8 + n) (nI t)) (20 + n) (-1)) (32 + n) (-1) := ⟨_, rfl⟩
  have e : ∀ i, i ≠ 0 → i ≠ 8 + n → i ≠ 20 + n → i ≠ 32 + n → H i = G i := fun i h1 h2 h3 h4 => by rw [hH, up1_ne h4, up1_ne h3, up1_ne h2, up1_ne h1]
  have e0 : H 0 = nI (n + 1) := by rw [hH, up1_ne (by omega), up1_ne (by omega), up1_ne (by omega), up1_eq]
  have e1 : H (8 + n) = nI t := by rw [hH, up1_ne (by omega), up1_ne (by omega), up1_eq]
  have e2 : H (20 + n) = -1 := by rw [hH, up1_ne (by omega), up1_eq]
  have e3 : H (32 + n) = -1 := by rw [hH, up1_eq]
  rw [← hH]
  obtain ⟨i1, i2, ⟨rk, i3⟩, i4, i5, i6⟩ := hI
  refine ⟨by omega, e0, ⟨rk, fun k hk => ?_⟩, fun k hk => ?_, fun k hk => ?_, fun d hd => ?_⟩
  · by_cases hkn : k = n
    · subst hkn; exact Or.inl e2
    · rw [e (20 + k) (by omega) (by omega) (by omega) (by omega)]
      rcases i3 k (by omega) with h | ⟨q, h1, h2, h3⟩
      · exact Or.inl h
      · exact Or.inr ⟨q, by omega, h2, h3⟩
  · by_cases hkn : k = n
    · subst hkn; exact ⟨t, ht, e1⟩
    · rw [e (8 + k) (by omega) (by omega) (by omega) (by omega)]
      exact i4 k (by omega)
  · by_cases hkn : k = n
    · subst hkn; exact Or.inl e3
    · rw [e (32 + k) (by omega) (by omega) (by omega) (by omega)]
      rcases i5 k (by omega) with h | ⟨c, h1, h2, h3⟩
      · exact Or.inl h
      · exact Or.inr ⟨c, by omega, h2, by rw [e (20 + c) (by omega) (by omega) (by omega) (by omega)]; exact h3⟩
  · rw [e (5 + d) (by omega) (by omega) (by omega) (by omega)]
    rcases i6 d hd with h | ⟨c, h1, h2⟩
    · exact Or.inl h
    · exact Or.inr ⟨c, by omega, h2⟩
end CF
theorem chg_farm (a b c : Int32) : Chg 102 a b c (p_X7_farm a) := by
  intro G n hI
  have hn := hI.1
  cases ht : isT a with
  | false =>
    refine Or.inl ⟨1, 0, reC fun σ hC => ⟨σ, Fr.refl, ?_⟩, reM fun σ hM => ⟨σ, Fm.refl, 0, ?_⟩⟩
    · rw [isR_f]
      unfold p_X6_refusesToBuild
      rw [c_isToll, ht, bS, if_pos bf0, keep_kp, bS, bS, nb1, nb1]
    · unfold p_X7_farm
      rw [m_isToll, ht, bS, if_pos bf0, refuses_rf, bS]
  | true =>
    obtain ⟨t, ht2, rfl⟩ := isT_of ht
    by_cases hf : n = 12
    · subst hf
      refine Or.inl ⟨2, 0, reC fun σ hC => ⟨σ, Fr.refl, ?_⟩, reM fun σ hM => ⟨σ, Fm.refl, 0, ?_⟩⟩
      · rw [isR_f]
        unfold p_X6_refusesToBuild p_X1_farms
        rw [c_isToll, ht, bS, if_neg bt0, bS, hC.1, hI.2.1, if_neg (show ¬ nI 12 < 12 by decide), keep_kp, bS, if_neg n10, bS, nb1]
      · unfold p_X7_farm
        rw [m_isToll, ht, bS, if_neg bt0, hM 0 (by omega), hI.2.1, if_pos (show nI 12 = 12 by decide), refuses_rf, bS]
    · refine Or.inr ⟨nI n, _, n + 1, hI.farm (by omega) ht2, ⟨fun σ hC => ⟨σ, ?_, Fr.refl⟩, fun σ hC => ?_⟩, fun σ hM => ⟨σ, Fm.refl, fun σk ek fk => ?_⟩⟩
      · rw [isR_f]
        unfold p_X6_refusesToBuild p_X1_farms
        rw [c_isToll, ht, bS, if_neg bt0, bS, hC.1, hI.2.1, if_pos (show nI n < 12 from nI_lt (b := 12) (by omega) (by decide)), bS, nb0]
      · have e : gI (sA (sA (sA σ 2 0 n (nI t)) 3 0 n (-1)) 4 0 n (-1)) 1 0 0 + 1 = nI (n + 1) := by rw [gI_sA, gI_sA, gI_sA, hC.1, hI.2.1, nI_1]
        refine ⟨sI (sA (sA (sA σ 2 0 n (nI t)) 3 0 n (-1)) 4 0 n (-1)) 1 0 0 (nI (n + 1)), ?_, ?_, (((Fx.sA (by omega) (by omega)).trans (Fx.sA (by omega) (by omega))).trans (Fx.sA (by omega) (by omega))).trans Fx.sI⟩
        · rw [cO_f]
          unfold p_X1_build
          rw [hC.1, hI.2.1, if_neg (nI_pos (by omega)), if_neg (show ¬ (12 : Int32) ≤ nI n from nI_ge (b := 12) (by omega) (by decide)), if_pos (ib_t (by omega) (by omega)), nI_clamp (by omega), setPar_n (by omega), bS, pref_n (by omega), bS, e, bS]
        · rw [up1_comm (i := 0) (j := 8 + n) (by omega), up1_comm (i := 0) (j := 20 + n) (by omega), up1_comm (i := 0) (j := 32 + n) (by omega)]
          exact (((hC.uToll (by omega) _).uPar (by omega) _).uPref (by omega) _).uInt (f := 0) (j := 0) (by omega) _
      · have hMk : MR σk G := hM.fm fk (by decide)
        have h0 : gA σk 21 0 0 = nI n := (hMk 0 (by omega)).trans hI.2.1
        refine ⟨sA (sA (sA (sA σk 21 0 0 (nI (n + 1))) 21 0 (8 + n) (nI t)) 21 0 (20 + n) (-1)) 21 0 (32 + n) (-1), ?_, (((hMk.up1 0 _).up1 (8 + n) _).up1 (20 + n) _).up1 (32 + n) _, (((Fm.sA (by decide)).trans (Fm.sA (by decide))).trans (Fm.sA (by decide))).trans (Fm.sA (by decide))⟩
        unfold p_X7_farm
        rw [m_isToll, ht, bS, if_neg bt0, hM 0 (by omega), hI.2.1, if_neg (show ¬ nI n = 12 from fun e => hf (nI_inj (b := 12) (by omega) (by omega) e)), ek, bS, h0, show (8 : Int32) + nI n = nI (8 + n) from nI_add 8 n, show (20 : Int32) + nI n = nI (20 + n) from nI_add 20 n, show (32 : Int32) + nI n = nI (32 + n) from nI_add 32 n, if_pos (ib_t (by omega) (by omega)), if_pos (ib_t (by omega) (by omega)), if_pos (ib_t (by omega) (by omega)), nI_clamp (by omega), nI_clamp (by omega), nI_clamp (by omega), nI_1]

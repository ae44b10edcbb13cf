/-! PURE: a drover drives -/
section DRI
variable {σ : Sg} {G : Row} {n : Nat}
theorem Inv.low (hI : Inv G n) {i : Nat} {v : Int32} (h0 : i ≠ 0) (h8 : i < 8) (hv : 5 ≤ i → FOk n v) : Inv (up1 G i v) n := by
  have e : ∀ j, j ≠ i → up1 G i v j = G j := fun j h => up1_ne h
  obtain ⟨i1, i2, ⟨rk, i3⟩, i4, i5, i6⟩ := hI
  refine ⟨i1, by rw [e 0 (by omega)]; exact i2, ⟨rk, fun q hq => ?_⟩, fun q hq => ?_, fun q hq => ?_, fun d hd => ?_⟩
  · rw [e (20 + q) (by omega)]; exact i3 q hq
  · rw [e (8 + q) (by omega)]; exact i4 q hq
  · rw [e (32 + q) (by omega)]
    rcases i5 q hq with h | ⟨c, h1, h2, h3⟩
    · exact Or.inl h
    · exact Or.inr ⟨c, h1, h2, by rw [e (20 + c) (by omega)]; exact h3⟩
  · by_cases h : 5 + d = i
    · subst h; rw [up1_eq]; exact hv (by omega)
    · rw [e (5 + d) h]; exact i6 d hd
theorem up_same {H : Row} (hI : Inv G n) (hI' : Inv H n) (h : ∀ k, k < n → H (20 + k) = G (20 + k)) {v : Int32} (hv : FOk n v) : up H v = up G v := by
  refine up_ind hI.1 hI.2.2.1 (C := fun v => up H v = up G v) ?_ ?_ hv
  · rw [up_neg, up_neg]
  · intro k hk ih
    rw [up_c hI hk, up_c hI' hk, h k hk, ih]
theorem joined_same {H : Row} (hI : Inv G n) (hI' : Inv H n) (h : ∀ k, k < n → H (20 + k) = G (20 + k)) {a b : Nat} (ha : a < n) (hb : b < n) : joined H a b = joined G a b := by
  unfold joined rootN
  rw [up_same hI hI' h (Or.inr ⟨a, ha, rfl⟩), up_same hI hI' h (Or.inr ⟨b, hb, rfl⟩)]
theorem xch_same {H : Row} : ∀ (U : List Nat) (nx : Int32), (∀ x ∈ U, H (32 + x) = G (32 + x)) → xch H nx U = xch G nx U := by
  intro U
  induction U with
  | nil => intro nx _; rfl
  | cons x U ih =>
    intro nx h
    simp only [xch]
    rw [h x List.mem_cons_self, ih _ (fun y hy => h y (List.mem_cons_of_mem _ hy))]
theorem exp_drive (hI : Inv G n) {x y : Int32} {j : Nat} (hj : j < n) : expRow (up1 (up1 G 3 x) 4 y) j = up1 (up1 (expRow G j) 3 x) 4 y := by
  have hI2 : Inv (up1 (up1 G 3 x) 4 y) n := (hI.low (by omega) (by omega) (by omega)).low (by omega) (by omega) (by omega)
  have hu : up (up1 (up1 G 3 x) 4 y) (nI j) = up G (nI j) := up_same hI hI2 (fun k hk => by rw [up1_ne (by omega), up1_ne (by omega)]) (Or.inr ⟨j, hj, rfl⟩)
  have e1 : exE (up1 (up1 G 3 x) 4 y) j = up1 (up1 (exE G j) 3 x) 4 y := by
    unfold exE
    rw [hu, xupd_comm _ _ _ (fun _ _ => by omega), xupd_comm _ _ _ (fun _ _ => by omega)]
  have e2 : expN (up1 (up1 G 3 x) 4 y) j = expN G j := by
    unfold expN
    rw [hu]
    exact xch_same _ _ (fun _ _ => by rw [up1_ne (by omega), up1_ne (by omega)])
  unfold expRow
  rw [e1, e2, up1_ne (i := 2) (j := 4) (by omega), up1_ne (i := 2) (j := 3) (by omega), up1_ne (i := 1) (j := 4) (by omega), up1_ne (i := 1) (j := 3) (by omega)]
  rw [up1_comm (i := 4) (j := 2) (by omega), up1_comm (i := 3) (j := 2) (by omega), up1_comm (i := 4) (j := 1) (by omega), up1_comm (i := 3) (j := 1) (by omega)]
theorem exp_low {i j : Nat} (h1 : i ≠ 1) (h2 : i ≠ 2) (h : i < 32) : expRow G j i = G i := by
  unfold expRow
  rw [up1_ne h1, up1_ne h2]
  exact xupd_ne _ _ _ (fun _ _ => by omega)
/-- the tolls of a way but its first farm -/
def paidN (G : Row) (P : List Nat) : Nat := sumf (fun i => tolN G (P.getD i 0)) 1 (P.length - 1)
theorem paid_eq {P : List Nat} (h : 0 < P.length) : tolL G P = tolN G (P.getD 0 0) + paidN G P := by
  have e := sumf_list (tolN G) P
  obtain ⟨l, hl⟩ : ∃ l, P.length = l + 1 := ⟨P.length - 1, by omega⟩
  unfold tolL paidN
  rw [← e, hl]
  rfl
theorem m_pathToll1 {P : List Nat} (hM : MR σ G) (hI : Inv G n) (h : PR σ P) (hP : ∀ x ∈ P, x < n) (h0 : 0 < P.length) : p_X7_pathToll 1 σ = some (nI (paidN G P)) := by
  have hl := h.2.1
  have hn := hI.1
  have := loop_sum (n := P.length) (L := fun fuel a i => p_X7_pathToll_L4 σ fuel a i) (f := fun i => tolN G (P.getD i 0)) (fun fuel a => by
    simp only [p_X7_pathToll_L4]
    rw [h.1, if_pos (nI_le (Nat.le_refl _) (by omega))]) (fun fuel a i hi => by
    have hx := hP _ (List.getElem_mem hi)
    simp only [p_X7_pathToll_L4]
    rw [h.1, if_neg (nI_ge hi (by omega)), if_pos (ib_t (by omega) (by omega)), nI_clamp (by omega), h.2.2 i hi, m_toll hM (by omega)]
    simp only [Option.bind_some, nI_1]
    rw [(tol_eq hI hx).1, nI_add]
    simp [List.getD_eq_getElem?_getD, List.getElem?_eq_getElem hi]) (P.length - 1) 1 0 400 (by omega) (by omega)
  rw [Nat.zero_add] at this
  exact this
theorem path_hd (hI : Inv G n) {a b : Nat} (ha : a < n) (hb : b < n) (hj : joined G a b = true) : (path G a b).getD 0 0 = a := by
  obtain ⟨m, hm⟩ := (joined_meet hI ha hb).mp hj
  simp only [path, pathL, hm]
  rw [up_c hI ha]
  simp
theorem setDro_n {d : Nat} (hd : d < 3) (v : Int32) : p_X1_setFarmOfDrover (nI d) v σ = some (sA σ 5 0 d v) := by
  unfold p_X1_setFarmOfDrover
  rw [if_neg (nI_pos (by omega)), if_neg (show ¬ (3 : Int32) ≤ nI d from nI_ge (b := 3) hd (by decide)), if_pos (ib_t hd (by omega)), nI_clamp (by omega)]
end DRI
/-- the row after a drive along a way -/
def drvRow (G : Row) (d s j : Nat) : Row := expRow (up1 (up1 (up1 G (5 + d) (nI j)) 3 (up1 G (5 + d) (nI j) 3 + 1)) 4 (up1 G (5 + d) (nI j) 4 + nI (paidN (up1 G (5 + d) (nI j)) (path (up1 G (5 + d) (nI j)) s j)))) j
section DRJ
variable {σ : Sg} {G : Row} {n : Nat}
theorem c_drive (hC : CR σ 0 G) (hI : Inv G n) {d s j : Nat} (hd : d < 3) (hs : s < n) (hj : j < n) (hst : G (5 + d) = nI s) (hjo : joined G s j = true) : ∃ σ', p_X6_driveTo (nI d) (nI j) σ = some (nI (paidN (up1 G (5 + d) (nI j)) (path (up1 G (5 + d) (nI j)) s j)), σ') ∧ CR σ' 0 (drvRow G d s j) ∧ Fx σ σ' := by
  have hn := hI.1
  have hI1 : Inv (up1 G (5 + d) (nI j)) n := hI.low (by omega) (by omega) (fun _ => Or.inr ⟨j, hj, rfl⟩)
  have hsame : ∀ k, k < n → up1 G (5 + d) (nI j) (20 + k) = G (20 + k) := fun k hk => up1_ne (by omega)
  have hjo1 : joined (up1 G (5 + d) (nI j)) s j = true := by rw [joined_same hI hI1 hsame hs hj]; exact hjo
  have hC1 : CR (sA σ 5 0 d (nI j)) 0 (up1 G (5 + d) (nI j)) := hC.uDro hd _
  obtain ⟨H, hH⟩ : ∃ H, H = up1 G (5 + d) (nI j) := ⟨_, rfl⟩
  unfold drvRow
  rw [← hH] at hI1 hjo1 hC1 ⊢
  obtain ⟨σ1, e1, f1, w1, -, -⟩ := c_follow hC1 hI1 hs hj
  have hC2 : CR σ1 0 H := hC1.fr f1 (by decide) (by decide) (by decide) (by decide) (by decide)
  have hpos := path_pos hI1 hs hj hjo1
  have hpe := paid_eq (G := H) hpos
  rw [path_hd hI1 hs hj hjo1] at hpe
  obtain ⟨pd, hpd⟩ : ∃ pd, pd = paidN H (path H s j) := ⟨_, rfl⟩
  rw [← hpd] at hpe ⊢
  have hC3 : CR (sI (sI σ1 1 0 7 (H 3 + 1)) 1 0 8 (H 4 + nI pd)) 0 (up1 (up1 H 3 (H 3 + 1)) 4 (H 4 + nI pd)) := (hC2.uInt (f := 7) (j := 3) (by omega) _).uInt (f := 8) (j := 4) (by omega) _
  have hI3 : Inv (up1 (up1 H 3 (H 3 + 1)) 4 (H 4 + nI pd)) n := (hI1.low (by omega) (by omega) (by omega)).low (by omega) (by omega) (by omega)
  obtain ⟨σ2, e2, c2, f2⟩ := c_exposeFarm hC3 hI3 hj
  refine ⟨σ2, ?_, c2, ((Fx.sA (by omega) (by omega)).trans (Fx.fr f1)).trans ((Fx.sI.trans Fx.sI).trans f2)⟩
  have q1 : gI σ1 1 0 7 = H 3 := hC2.2.2.2.1
  have q2 : gI (sI σ1 1 0 7 (H 3 + 1)) 1 0 8 = H 4 := by rw [gI_sI, if_neg (by decide)]; exact hC2.2.2.2.2.1
  have q3 : nI (tolL H (path H s j)) - nI (tolN H s) = nI pd := by
    rw [hpe, pk_sub (by omega)]
    congr 1; omega
  unfold p_X6_driveTo p_X1_countDrive
  rw [c_farmOfDrover hC hd, bS, hst, setDro_n hd, bS, if_neg (ne_m1 (by omega)), e1, bS, c_tollsIn hC2 hI1 w1 (path_mem hI1 hs hj), bS, c_tollOf hC2 (by omega), bS, (tol_eq hI1 hs).1, q3, q1, q2, bS, e2, bS]
theorem m_drive (hM : MR σ G) (hI : Inv G n) {d s j : Nat} (hd : d < 3) (hs : s < n) (hj : j < n) (hjo : joined G s j = true) : ∃ σ', ((p_X7_goes (nI s) (nI j) (sA σ 21 0 (5 + d) (nI j))).bind fun r20 => (p_X7_pathToll 1 r20).bind fun r21 => (p_X7_counted (nI j) r20).bind fun r22 => if 0 ≤ r22.1 then (some (r21, sA (sA r22.2 21 0 3 ((gA r22.2 21 0 3) + 1)) 21 0 4 ((gA (sA r22.2 21 0 3 ((gA r22.2 21 0 3) + 1)) 21 0 4) + r21))) else (some (r21, sA (sA r22.2 21 0 3 ((gA r22.2 21 0 3) + 0)) 21 0 4 ((gA (sA r22.2 21 0 3 ((gA r22.2 21 0 3) + 0)) 21 0 4) + r21)))) = some (nI (paidN (up1 G (5 + d) (nI j)) (path (up1 G (5 + d) (nI j)) s j)), σ') ∧ MR σ' (drvRow G d s j) ∧ Fm [21, 27] [(20, 18)] σ σ' := by
  have hn := hI.1
  have hI1 : Inv (up1 G (5 + d) (nI j)) n := hI.low (by omega) (by omega) (fun _ => Or.inr ⟨j, hj, rfl⟩)
  have hsame : ∀ k, k < n → up1 G (5 + d) (nI j) (20 + k) = G (20 + k) := fun k hk => up1_ne (by omega)
  have hjo1 : joined (up1 G (5 + d) (nI j)) s j = true := by rw [joined_same hI hI1 hsame hs hj]; exact hjo
  have hM1 : MR (sA σ 21 0 (5 + d) (nI j)) (up1 G (5 + d) (nI j)) := hM.up1 _ _
  obtain ⟨H, hH⟩ : ∃ H, H = up1 G (5 + d) (nI j) := ⟨_, rfl⟩
  unfold drvRow
  rw [← hH] at hI1 hjo1 hM1 ⊢
  obtain ⟨σ1, e1, f1, p1⟩ := m_goes hM1 hI1 hs hj hjo1
  have hM2 : MR σ1 H := hM1.fm f1 (by decide)
  have hpos := path_pos hI1 hs hj hjo1
  have hl := up_len hI1.1 hI1.2.2.1 (Or.inr ⟨j, hj, rfl⟩ : FOk n (nI j))
  obtain ⟨σ2, e2, m2, f2⟩ := m_counted hM2 hI1 hj
  obtain ⟨pd, hpd⟩ : ∃ pd, pd = paidN H (path H s j) := ⟨_, rfl⟩
  have e3 := m_pathToll1 hM2 hI1 p1 (path_mem hI1 hs hj) hpos
  rw [← hpd] at e3 ⊢
  have q1 : gA σ2 21 0 3 = H 3 := (m2 3 (by omega)).trans (exp_low (by omega) (by omega) (by omega))
  have q2 : gA (sA σ2 21 0 3 (H 3 + 1)) 21 0 4 = H 4 := by rw [gA_sA, if_neg (by decide)]; exact (m2 4 (by omega)).trans (exp_low (by omega) (by omega) (by omega))
  have hle : xch H (-1) (up H (nI j)) ≤ (up H (nI j)).length := by
    have : ∀ (U : List Nat) (nx : Int32), xch H nx U ≤ U.length := by
      intro U
      induction U with
      | nil => intro nx; simp [xch]
      | cons x U ih =>
        intro nx
        have h1 := ih (nI x)
        have h2 : ne01 (H (32 + x)) nx ≤ 1 := by unfold ne01; split <;> omega
        simp only [xch, List.length_cons]
        omega
    exact this _ _
  have q3 : (0 : Int32) ≤ nI (expN H j) := nI_pos' (by unfold expN; omega)
  refine ⟨sA (sA σ2 21 0 3 (H 3 + 1)) 21 0 4 (H 4 + nI pd), ?_, ?_, ((Fm.sA (by decide)).trans (f1.mono (by decide) (by decide))).trans ((f2.mono (by decide) (by decide)).trans ((Fm.sA (by decide)).trans (Fm.sA (by decide))))⟩
  · rw [e1, bS, e3, bS, e2, bS, if_pos q3, q1, q2]
  · rw [exp_drive hI1 hj]
    exact (m2.up1 3 _).up1 4 _
end DRJ
theorem chg_drive (a b c : Int32) : Chg 100 a b c (p_X7_drive a b) := by
  intro G n hI
  have hn := hI.1
  cases hf : isF 3 a with
  | false =>
    refine Or.inl ⟨1, 0, reC fun σ hC => ⟨σ, Fr.refl, ?_⟩, reM fun σ hM => ⟨σ, Fm.refl, 0, ?_⟩⟩
    · rw [isR_d]
      unfold p_X6_refusesToDrive
      rw [c_isDrover, hf, bS, if_pos bf0, keep_kp, bS, bS, nb1, nb1]
    · unfold p_X7_drive
      rw [m_inN 3 (by omega) (by decide), hf, bS, if_pos bf0, refuses_rf, bS]
  | true =>
    obtain ⟨d, hd, rfl⟩ := isF_of (by omega) hf
    cases hg : isF n b with
    | false =>
      refine Or.inl ⟨3, b, reC fun σ hC => ⟨σ, Fr.refl, ?_⟩, reM fun σ hM => ⟨σ, Fm.refl, 0, ?_⟩⟩
      · rw [isR_d]
        unfold p_X6_refusesToDrive
        rw [c_isDrover, hf, bS, if_neg bt0, c_refF1 hC hI hg, bS, if_neg n10, bS, nb1]
      · unfold p_X7_drive
        rw [m_inN 3 (by omega) (by decide), hf, bS, if_neg bt0, m_isFarm hM hI, hg, bS, if_pos bf0, refuses_rf, bS]
    | true =>
      obtain ⟨j, hj, rfl⟩ := isF_of hn hg
      have e5 : (5 : Int32) + nI d = nI (5 + d) := nI_add 5 d
      have ib5 : ib (nI (5 + d)) 44 = true := ib_t (by omega) (by omega)
      have cl5 : (nI (5 + d)).toNatClampNeg = 5 + d := nI_clamp (by omega)
      by_cases hsj : G (5 + d) = nI j
      · refine Or.inl ⟨10, nI j, reC fun σ hC => ⟨σ, Fr.refl, ?_⟩, reM fun σ hM => ⟨σ, Fm.refl, 0, ?_⟩⟩
        · rw [isR_d]
          unfold p_X6_refusesToDrive
          rw [c_isDrover, hf, bS, if_neg bt0, c_refF0 hC hI hg, bS, if_pos rfl, c_farmOfDrover hC hd, bS, if_pos hsj, keep_kp, bS, bS, nb1, nb1]
        · unfold p_X7_drive
          rw [m_inN 3 (by omega) (by decide), hf, bS, if_neg bt0, m_isFarm hM hI, hg, bS, if_neg bt0, e5, if_pos ib5, cl5, hM (5 + d) (by omega), if_pos hsj, refuses_rf, bS]
      · rcases hI.2.2.2.2.2 d hd with hs | ⟨s, hs, hst⟩
        · have hI1 : Inv (up1 G (5 + d) (nI j)) n := hI.low (by omega) (by omega) (fun _ => Or.inr ⟨j, hj, rfl⟩)
          refine Or.inr ⟨0, _, n, hI1, ⟨fun σ hC => ⟨σ, ?_, Fr.refl⟩, fun σ hC => ⟨sA σ 5 0 d (nI j), ?_, hC.uDro hd _, Fx.sA (by omega) (by omega)⟩⟩, fun σ hM => ⟨σ, Fm.refl, fun σk ek fk => ⟨sA σk 21 0 (5 + d) (nI j), ?_, (hM.fm fk (by decide)).up1 _ _, Fm.sA (by decide)⟩⟩⟩
          · rw [isR_d]
            unfold p_X6_refusesToDrive
            rw [c_isDrover, hf, bS, if_neg bt0, c_refF0 hC hI hg, bS, if_pos rfl, c_farmOfDrover hC hd, bS, if_neg hsj, if_pos hs, bS, nb0]
          · rw [cO_d]
            unfold p_X6_driveTo
            rw [c_farmOfDrover hC hd, bS, setDro_n hd, bS, if_pos hs, bS]
          · unfold p_X7_drive
            rw [m_inN 3 (by omega) (by decide), hf, bS, if_neg bt0, m_isFarm hM hI, hg, bS, if_neg bt0, e5, if_pos ib5, cl5, hM (5 + d) (by omega), if_neg hsj, hs, if_pos neg1_lt, ek, bS, if_pos ib5, if_neg (show ¬ (0 : Int32) ≤ -1 by decide)]
        · cases hjo : joined G s j with
          | false =>
            refine Or.inl ⟨7, nI (sizN G n s), reC fun σ hC => ⟨σ, Fr.refl, ?_⟩, reM fun σ hM => ⟨σ, Fm.refl, 0, ?_⟩⟩
            · rw [isR_d]
              unfold p_X6_refusesToDrive
              rw [c_isDrover, hf, bS, if_neg bt0, c_refF0 hC hI hg, bS, if_pos rfl, c_farmOfDrover hC hd, bS, if_neg hsj, hst, if_neg (ne_m1 (by omega)), c_areJoined hC hI hs hj, hjo, bS, if_pos bf0, c_treeSizeOf hC hI hs, bS, keep_kp, bS, if_neg n10, bS, nb1]
            · unfold p_X7_drive
              rw [m_inN 3 (by omega) (by decide), hf, bS, if_neg bt0, m_isFarm hM hI, hg, bS, if_neg bt0, e5, if_pos ib5, cl5, hM (5 + d) (by omega), if_neg hsj, hst, if_neg (nI_pos (by omega)), m_areJoined hM hI hs hj, hjo, bS, if_pos bf0, m_sizeOf hM hI hs, bS, refuses_rf, bS]
          | true =>
            have hI1 : Inv (up1 G (5 + d) (nI j)) n := hI.low (by omega) (by omega) (fun _ => Or.inr ⟨j, hj, rfl⟩)
            have hI' : Inv (drvRow G d s j) n := ((hI1.low (i := 3) (by omega) (by omega) (by omega)).low (i := 4) (by omega) (by omega) (by omega)).expose hj
            refine Or.inr ⟨nI (paidN (up1 G (5 + d) (nI j)) (path (up1 G (5 + d) (nI j)) s j)), _, n, hI', ⟨fun σ hC => ⟨σ, ?_, Fr.refl⟩, fun σ hC => ?_⟩, fun σ hM => ⟨σ, Fm.refl, fun σk ek fk => ?_⟩⟩
            · rw [isR_d]
              unfold p_X6_refusesToDrive
              rw [c_isDrover, hf, bS, if_neg bt0, c_refF0 hC hI hg, bS, if_pos rfl, c_farmOfDrover hC hd, bS, if_neg hsj, hst, if_neg (ne_m1 (by omega)), c_areJoined hC hI hs hj, hjo, bS, if_neg bt0, bS, nb0]
            · obtain ⟨σ1, e1, c1, f1⟩ := c_drive hC hI hd hs hj hst hjo
              exact ⟨σ1, by rw [cO_d, e1, bS], c1, f1⟩
            · obtain ⟨σ1, e1, m1, f1⟩ := m_drive (hM.fm fk (by decide)) hI hd hs hj hjo
              refine ⟨σ1, ?_, m1, f1⟩
              unfold p_X7_drive
              rw [m_inN 3 (by omega) (by decide), hf, bS, if_neg bt0, m_isFarm hM hI, hg, bS, if_neg bt0, e5, if_pos ib5, cl5, hM (5 + d) (by omega), if_neg hsj, hst, if_neg (nI_pos (by omega)), m_areJoined hM hI hs hj, hjo, bS, if_neg bt0, ek, bS, if_pos ib5, if_pos (nI_pos' (by omega))]
              exact e1

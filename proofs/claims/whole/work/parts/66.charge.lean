/-! PURE: tolls of a way become more, or less -/
section CHA
variable {σ : Sg} {G : Row} {n : Nat}
theorem path_nd (hI : Inv G n) {a b : Nat} (ha : a < n) (hb : b < n) : (path G a b).Nodup := by
  have fa : FOk n (nI a) := Or.inr ⟨a, ha, rfl⟩
  have fb : FOk n (nI b) := Or.inr ⟨b, hb, rfl⟩
  cases h : meetL (up G (nI a)) (up G (nI b)) with
  | none => simp [path, pathL, h]
  | some m =>
    obtain ⟨m1, m2⟩ := meetL_mem h
    have l2 := List.idxOf_lt_length_of_mem m2
    have hTU : ∀ x ∈ (up G (nI b)).take ((up G (nI b)).idxOf m), x ∉ up G (nI a) := by
      intro x hx hxU
      obtain ⟨j, hj, hjx⟩ := List.getElem_of_mem hx
      simp only [List.length_take] at hj
      rw [List.getElem_take] at hjx
      have hfm := h
      unfold meetL at hfm
      obtain ⟨as, bs, hab, hno⟩ := (List.find?_eq_some_iff_append.mp hfm).2
      have hidx : (up G (nI b)).idxOf m = as.length := by
        rw [hab, List.idxOf_append]
        have : m ∉ as := fun hm => by have := hno m hm; simp [m1] at this
        simp [this]
      have hj2 : j < as.length := by omega
      have hxa : x ∈ as := by
        have : (up G (nI b))[j] = as[j] := by
          simp only [hab]
          rw [List.getElem_append_left hj2]
        rw [← hjx, this]
        exact List.getElem_mem hj2
      have := hno x hxa
      simp [hxU] at this
    simp only [path, pathL, h]
    rw [List.nodup_append]
    refine ⟨(up_nd hI.1 hI.2.2.1 fa).sublist (List.take_sublist _ _), ?_, ?_⟩
    · have := (up_nd hI.1 hI.2.2.1 fb).sublist (List.take_sublist ((up G (nI b)).idxOf m) _)
      exact List.pairwise_reverse.mpr (List.Pairwise.imp (fun h => Ne.symm h) this)
    · intro x hx y hy hxy
      subst hxy
      exact hTU x (List.mem_reverse.mp hy) (List.mem_of_mem_take hx)
/-- the first farm of a list whose toll would be out of range -/
def badF (G : Row) (d : Int32) (P : List Nat) : Option Nat := P.find? (fun x => !isT (G (8 + x) + d))
theorem badF_t {G : Row} {d : Int32} {x : Nat} {Q : List Nat} (h : isT (G (8 + x) + d) = true) : badF G d (x :: Q) = badF G d Q := by simp [badF, List.find?_cons, h]
theorem badF_f {G : Row} {d : Int32} {x : Nat} {Q : List Nat} (h : isT (G (8 + x) + d) = false) : badF G d (x :: Q) = some x := by simp [badF, List.find?_cons, h]
theorem c_tooL {P : List Nat} (hP : ∀ x ∈ P, x < 12) (d : Int32) (hW : WR σ P) (hC : CR σ 0 G) : ∀ (Q : List Nat) (i fuel : Nat), P.drop i = Q → i + Q.length = P.length → Q.length < fuel → (badF G d Q = none → p_X6_refusesToCharge_L84 fuel d (nI i) σ = some (0, σ)) ∧ ∀ x, badF G d Q = some x → p_X6_refusesToCharge_L84 fuel d (nI i) σ = some (1, kp σ 9 (nI x)) := by
  have h12 := hW.2.1
  intro Q
  induction Q with
  | nil =>
    intro i fuel h1 h2 h3
    obtain ⟨fuel, rfl⟩ : ∃ z, fuel = z + 1 := ⟨fuel - 1, by omega⟩
    simp only [List.length_nil] at h2
    refine ⟨fun _ => ?_, fun x hx => by cases hx⟩
    rw [p_X6_refusesToCharge_L84, p_X5_farms, bS, hW.1, if_pos (nI_le (by omega) (by omega))]
  | cons x Q ih =>
    intro i fuel h1 h2 h3
    obtain ⟨fuel, rfl⟩ : ∃ z, fuel = z + 1 := ⟨fuel - 1, by omega⟩
    simp only [List.length_cons] at h2 h3
    have hi : i < P.length := by omega
    obtain ⟨hx, hd⟩ := drop_hd h1 hi
    have hx12 : x < 12 := hP x (hx ▸ List.getElem_mem hi)
    have e : p_X6_refusesToCharge_L84 (fuel + 1) d (nI i) σ = if b01 (isT (G (8 + x) + d)) = 0 then ((p_X3_keep 9 (nI x) σ).bind fun r17 => some (nb r17.1, r17.2)) else (p_X6_refusesToCharge_L84 fuel d (nI (i + 1)) σ) := by
      rw [p_X6_refusesToCharge_L84, p_X5_farms, bS, hW.1, if_neg (nI_ge hi (by omega)), c_farmAt hW hi, bS, hx, c_tollOf hC hx12, bS, c_isToll, bS, nI_1]
    rw [e]
    cases ht : isT (G (8 + x) + d) with
    | true =>
      rw [badF_t ht, if_neg bt0]
      exact ih (i + 1) fuel hd (by omega) (by omega)
    | false =>
      rw [badF_f ht, if_pos bf0, keep_kp, bS, nb1]
      exact ⟨fun h => (by cases h), fun y hy => (by cases hy; rfl)⟩
theorem m_tooL {P : List Nat} (hP : ∀ x ∈ P, x < 12) (d : Int32) (hW : PR σ P) (hM : MR σ G) : ∀ (Q : List Nat) (i fuel : Nat), P.drop i = Q → i + Q.length = P.length → Q.length < fuel → (badF G d Q = none → p_X7_tooMuch_L2 σ fuel d (nI i) = some (-1)) ∧ ∀ x, badF G d Q = some x → ∃ j, ∃ hj : j < P.length, P[j] = x ∧ p_X7_tooMuch_L2 σ fuel d (nI i) = some (nI j) := by
  have h12 := hW.2.1
  intro Q
  induction Q with
  | nil =>
    intro i fuel h1 h2 h3
    obtain ⟨fuel, rfl⟩ : ∃ z, fuel = z + 1 := ⟨fuel - 1, by omega⟩
    simp only [List.length_nil] at h2
    refine ⟨fun _ => ?_, fun x hx => by cases hx⟩
    rw [p_X7_tooMuch_L2, hW.1, if_pos (nI_le (by omega) (by omega))]
  | cons x Q ih =>
    intro i fuel h1 h2 h3
    obtain ⟨fuel, rfl⟩ : ∃ z, fuel = z + 1 := ⟨fuel - 1, by omega⟩
    simp only [List.length_cons] at h2 h3
    have hi : i < P.length := by omega
    obtain ⟨hx, hd⟩ := drop_hd h1 hi
    have hx12 : x < 12 := hP x (hx ▸ List.getElem_mem hi)
    have e : p_X7_tooMuch_L2 σ (fuel + 1) d (nI i) = if b01 (isT (G (8 + x) + d)) = 0 then some (nI i) else (p_X7_tooMuch_L2 σ fuel d (nI (i + 1))) := by
      rw [p_X7_tooMuch_L2, hW.1, if_neg (nI_ge hi (by omega)), if_pos (ib_t (by omega) (by omega)), nI_clamp (by omega), hW.2.2 i hi, hx, m_toll hM hx12, bS, m_isToll, bS, nI_1]
    rw [e]
    cases ht : isT (G (8 + x) + d) with
    | true =>
      rw [badF_t ht, if_neg bt0]
      exact ih (i + 1) fuel hd (by omega) (by omega)
    | false =>
      rw [badF_f ht, if_pos bf0]
      exact ⟨fun h => (by cases h), fun y hy => (by cases hy; exact ⟨i, hi, hx, rfl⟩)⟩
def chR : Row → Int32 → List Nat → Row
  | G, _, [] => G
  | G, d, x :: P => chR (up1 G (8 + x) (G (8 + x) + d)) d P
theorem chR_ne {d : Int32} {j : Nat} : ∀ (U : List Nat) (G : Row), (∀ x ∈ U, j ≠ 8 + x) → chR G d U j = G j := by
  intro U
  induction U with
  | nil => intro G _; rfl
  | cons x U ih =>
    intro G h
    simp only [chR]
    rw [ih _ (fun y hy => h y (List.mem_cons_of_mem _ hy)), up1_ne (h x List.mem_cons_self)]
theorem chR_in {d : Int32} {y : Nat} : ∀ (U : List Nat) (G : Row), U.Nodup → y ∈ U → chR G d U (8 + y) = G (8 + y) + d := by
  intro U
  induction U with
  | nil => intro G _ h; cases h
  | cons x U ih =>
    intro G h1 h2
    obtain ⟨h3, h4⟩ := List.nodup_cons.mp h1
    simp only [chR]
    rcases List.mem_cons.mp h2 with rfl | h2
    · rw [chR_ne _ _ (fun z hz e => h3 (by rw [show y = z by omega]; exact hz)), up1_eq]
    · have hne : y ≠ x := fun e => h3 (e ▸ h2)
      rw [ih _ h4 h2, up1_ne (by omega)]
theorem badF_none {d : Int32} {P : List Nat} (h : badF G d P = none) : ∀ x ∈ P, isT (G (8 + x) + d) = true := by
  intro x hx
  have := (List.find?_eq_none.mp h) x hx
  simpa using this
theorem Inv.charge (hI : Inv G n) {d : Int32} {P : List Nat} (hnd : P.Nodup) (hP : ∀ x ∈ P, x < n) (hb : badF G d P = none) : Inv (chR G d P) n := by
  have hn := hI.1
  obtain ⟨i1, i2, ⟨rk, i3⟩, i4, i5, i6⟩ := hI
  have e : ∀ i, (∀ x ∈ P, i ≠ 8 + x) → chR G d P i = G i := fun i h => chR_ne _ _ h
  have hP12 : ∀ x ∈ P, x < 12 := fun x hx => by have := hP x hx; omega
  refine ⟨i1, by rw [e 0 (fun _ _ => by omega)]; exact i2, ⟨rk, fun q hq => ?_⟩, fun q hq => ?_, fun q hq => ?_, fun z hz => ?_⟩
  · rw [e (20 + q) (fun x hx => by have := hP12 x hx; omega)]; exact i3 q hq
  · by_cases hqP : q ∈ P
    · rw [chR_in _ _ hnd hqP]
      exact isT_of (badF_none hb q hqP)
    · rw [e (8 + q) (fun x hx e => hqP (by rw [show q = x by omega]; exact hx))]
      exact i4 q hq
  · rw [e (32 + q) (fun x hx => by have := hP12 x hx; omega)]
    rcases i5 q hq with h | ⟨c, h1, h2, h3⟩
    · exact Or.inl h
    · exact Or.inr ⟨c, h1, h2, by rw [e (20 + c) (fun x hx => by have := hP12 x hx; omega)]; exact h3⟩
  · rw [e (5 + z) (fun x hx => by omega)]; exact i6 z hz
theorem chMore_n (hC : CR σ 0 G) {k : Nat} (hk : k < 12) (d : Int32) : p_X1_chargeMore (nI k) d σ = some (sA σ 2 0 k (G (8 + k) + d)) := by
  unfold p_X1_chargeMore
  rw [if_neg (nI_pos (by omega)), if_neg (show ¬ (12 : Int32) ≤ nI k from nI_ge (b := 12) hk (by decide)), if_pos (ib_t hk (by omega)), if_pos (ib_t hk (by omega)), nI_clamp (by omega), hC.2.2.2.2.2.2.1 k hk]
end CHA
theorem c_chL {P : List Nat} (hP : ∀ x ∈ P, x < 12) (d : Int32) : ∀ (Q : List Nat) (i fuel : Nat) (G : Row) (σ : Sg), WR σ P → CR σ 0 G → P.drop i = Q → i + Q.length = P.length → Q.length < fuel → ∃ σ', p_X6_chargeWay_L16 fuel d (nI i) σ = ((p_X5_tollsIn σ').bind fun r4 => some (r4, σ')) ∧ CR σ' 0 (chR G d Q) ∧ WR σ' P ∧ Fx σ σ' := by
  intro Q
  induction Q with
  | nil =>
    intro i fuel G σ hW hC h1 h2 h3
    have h12 := hW.2.1
    obtain ⟨fuel, rfl⟩ : ∃ z, fuel = z + 1 := ⟨fuel - 1, by omega⟩
    simp only [List.length_nil] at h2
    refine ⟨σ, ?_, hC, hW, Fx.refl⟩
    rw [p_X6_chargeWay_L16, p_X5_farms, bS, hW.1, if_pos (nI_le (by omega) (by omega))]
  | cons x Q ih =>
    intro i fuel G σ hW hC h1 h2 h3
    have h12 := hW.2.1
    obtain ⟨fuel, rfl⟩ : ∃ z, fuel = z + 1 := ⟨fuel - 1, by omega⟩
    simp only [List.length_cons] at h2 h3
    have hi : i < P.length := by omega
    obtain ⟨hx, hd⟩ := drop_hd h1 hi
    have hx12 : x < 12 := hP x (hx ▸ List.getElem_mem hi)
    have hW1 : WR (sA σ 2 0 x (G (8 + x) + d)) P := hW.fr (S := [2]) (Fr.sA (by simp)) (by decide) (by decide)
    obtain ⟨σ', e1, c1, w1, f1⟩ := ih (i + 1) fuel _ _ hW1 (hC.uToll hx12 _) hd (by omega) (by omega)
    refine ⟨σ', ?_, c1, w1, (Fx.sA (by omega) (by omega)).trans f1⟩
    rw [p_X6_chargeWay_L16, p_X5_farms, bS, hW.1, if_neg (nI_ge hi (by omega)), c_farmAt hW hi, bS, hx, chMore_n hC hx12, bS, nI_1]
    exact e1
theorem m_chL {P : List Nat} (hP : ∀ x ∈ P, x < 12) (d : Int32) : ∀ (Q : List Nat) (i fuel : Nat) (G : Row) (σ : Sg), PR σ P → MR σ G → P.drop i = Q → i + Q.length = P.length → Q.length < fuel → ∃ σ', p_X7_charge_L103 fuel d (nI i) σ = ((p_X7_pathToll 0 σ').bind fun r12 => some (r12, σ')) ∧ MR σ' (chR G d Q) ∧ PR σ' P ∧ Fm [21] [] σ σ' := by
  intro Q
  induction Q with
  | nil =>
    intro i fuel G σ hW hC h1 h2 h3
    have h12 := hW.2.1
    obtain ⟨fuel, rfl⟩ : ∃ z, fuel = z + 1 := ⟨fuel - 1, by omega⟩
    simp only [List.length_nil] at h2
    refine ⟨σ, ?_, hC, hW, Fm.refl⟩
    rw [p_X7_charge_L103, hW.1, if_pos (nI_le (by omega) (by omega))]
  | cons x Q ih =>
    intro i fuel G σ hW hC h1 h2 h3
    have h12 := hW.2.1
    obtain ⟨fuel, rfl⟩ : ∃ z, fuel = z + 1 := ⟨fuel - 1, by omega⟩
    simp only [List.length_cons] at h2 h3
    have hi : i < P.length := by omega
    obtain ⟨hx, hd⟩ := drop_hd h1 hi
    have hx12 : x < 12 := hP x (hx ▸ List.getElem_mem hi)
    have hW1 : PR (sA σ 21 0 (8 + x) (G (8 + x) + d)) P := hW.fm (A := [21]) (I := []) (Fm.sA (by simp)) (by decide) (by decide)
    obtain ⟨σ', e1, c1, w1, f1⟩ := ih (i + 1) fuel _ _ hW1 (hC.up1 (8 + x) _) hd (by omega) (by omega)
    refine ⟨σ', ?_, c1, w1, (Fm.sA (by decide)).trans f1⟩
    rw [p_X7_charge_L103, hW.1, if_neg (nI_ge hi (by omega)), if_pos (ib_t (by omega) (by omega)), nI_clamp (show i < 2 ^ 31 by omega), hW.2.2 i hi, hx, show (8 : Int32) + nI x = nI (8 + x) from nI_add 8 x, if_pos (ib_t (by omega) (by omega)), if_pos (ib_t (by omega) (by omega)), nI_clamp (by omega), hC (8 + x) (by omega), nI_1]
    exact e1
theorem chg_charge (a b c : Int32) : Chg 116 a b c (p_X7_charge a b c) := by
  intro G n hI
  have hn := hI.1
  cases hf : isF n a with
  | false =>
    refine Or.inl ⟨3, a, reC fun σ hC => ⟨σ, Fr.refl, ?_⟩, reM fun σ hM => ⟨σ, Fm.refl, 0, ?_⟩⟩
    · rw [isR_t]
      unfold p_X6_refusesToCharge
      rw [c_refF1 hC hI hf, bS, if_neg n10, bS, nb1]
    · unfold p_X7_charge
      rw [m_areFarms hM hI, hf, Bool.false_and, bS, if_pos bf0, m_noFarm hM hI, hf, bS, refuses_rf, bS]
      rfl
  | true =>
    cases hg : isF n b with
    | false =>
      refine Or.inl ⟨3, b, reC fun σ hC => ⟨σ, Fr.refl, ?_⟩, reM fun σ hM => ⟨σ, Fm.refl, 0, ?_⟩⟩
      · rw [isR_t]
        unfold p_X6_refusesToCharge
        rw [c_refF0 hC hI hf, bS, if_pos rfl, c_refF1 hC hI hg, bS, if_neg n10, bS, nb1]
      · unfold p_X7_charge
        rw [m_areFarms hM hI, hf, hg, Bool.and_false, bS, if_pos bf0, m_noFarm hM hI, hf, bS, refuses_rf, bS]
        rfl
    | true =>
      obtain ⟨k, hk, rfl⟩ := isF_of hn hf
      obtain ⟨j, hj, rfl⟩ := isF_of hn hg
      by_cases hc1 : c < -50
      · refine Or.inl ⟨1, 0, reC fun σ hC => ⟨σ, Fr.refl, ?_⟩, reM fun σ hM => ⟨σ, Fm.refl, 0, ?_⟩⟩
        · rw [isR_t]
          unfold p_X6_refusesToCharge
          rw [c_refF0 hC hI hf, bS, if_pos rfl, c_refF0 hC hI hg, bS, if_pos rfl, if_pos hc1, keep_kp, bS, bS, nb1, nb1]
        · unfold p_X7_charge p_X7_in
          rw [m_areFarms hM hI, hf, hg, Bool.and_self, bS, if_neg bt0, if_pos hc1, bS, if_pos rfl, refuses_rf, bS]
      · by_cases hc2 : 50 < c
        · refine Or.inl ⟨1, 0, reC fun σ hC => ⟨σ, Fr.refl, ?_⟩, reM fun σ hM => ⟨σ, Fm.refl, 0, ?_⟩⟩
          · rw [isR_t]
            unfold p_X6_refusesToCharge
            rw [c_refF0 hC hI hf, bS, if_pos rfl, c_refF0 hC hI hg, bS, if_pos rfl, if_neg hc1, if_neg (Int32.not_le.mpr hc2), keep_kp, bS, bS, nb1, nb1]
          · unfold p_X7_charge p_X7_in
            rw [m_areFarms hM hI, hf, hg, Bool.and_self, bS, if_neg bt0, if_neg hc1, if_pos hc2, bS, if_pos rfl, refuses_rf, bS]
        · have hc3 : c ≤ 50 := Int32.not_lt.mp hc2
          have hpn := path_nil hI hk hj
          have hpl := path_le hI hk hj
          have hPm := path_mem hI hk hj
          have hP12 : ∀ x ∈ path G k j, x < 12 := fun x hx => by have := hPm x hx; omega
          cases hjo : joined G k j with
          | false =>
            refine Or.inl ⟨7, nI (sizN G n k), reC fun σ hC => ?_, reM fun σ hM => ⟨σ, Fm.refl, 0, ?_⟩⟩
            · obtain ⟨σ1, e1, f1, w1, -, -⟩ := c_follow hC hI hk hj
              have hC1 : CR σ1 0 G := hC.fr f1 (by decide) (by decide) (by decide) (by decide) (by decide)
              refine ⟨σ1, f1, ?_⟩
              rw [isR_t]
              unfold p_X6_refusesToCharge p_X5_farms
              rw [c_refF0 hC hI hf, bS, if_pos rfl, c_refF0 hC hI hg, bS, if_pos rfl, if_neg hc1, if_pos hc3, e1, bS, bS, w1.1, hpn.mpr hjo, if_pos (show nI 0 = 0 from rfl), c_treeSizeOf hC1 hI hk, bS, keep_kp, bS, bS, nb1, nb1]
            · unfold p_X7_charge p_X7_in
              rw [m_areFarms hM hI, hf, hg, Bool.and_self, bS, if_neg bt0, if_neg hc1, if_neg hc2, bS, if_neg n10, m_areJoined hM hI hk hj, hjo, bS, if_pos bf0, m_sizeOf hM hI hk, bS, refuses_rf, bS]
          | true =>
            have hpos := path_pos hI hk hj hjo
            have hcF : ∀ σ σ1, CR σ 0 G → p_X5_follow (nI k) (nI j) σ = some σ1 → WR σ1 (path G k j) → p_X6_isRefused 116 (nI k) (nI j) c σ = ((p_X6_refusesToCharge_L84 400 c 0 σ1).bind fun r => some (nb r.1, r.2)) := by
              intro σ σ1 hC e1 w1
              rw [isR_t]
              unfold p_X6_refusesToCharge p_X5_farms
              rw [c_refF0 hC hI hf, bS, if_pos rfl, c_refF0 hC hI hg, bS, if_pos rfl, if_neg hc1, if_pos hc3, e1, bS, bS, w1.1, if_neg (nI_ne0 hpos (by omega))]
            have hmF : ∀ σ σ1, MR σ G → p_X7_goes (nI k) (nI j) σ = some σ1 → p_X7_charge (nI k) (nI j) c σ = ((p_X7_tooMuch_L2 σ1 400 c 0).bind fun r8 => if r8 < 0 then ((p_X7_keeps 21 σ1).bind fun r10 => p_X7_charge_L103 400 c 0 r10) else (if ib r8 12 then ((p_X7_refuses 9 (gA σ1 27 0 r8.toNatClampNeg) σ1).bind fun r17 => some (r17.1, r17.2)) else none)) := by
              intro σ σ1 hM e1
              unfold p_X7_charge p_X7_in p_X7_tooMuch
              rw [m_areFarms hM hI, hf, hg, Bool.and_self, bS, if_neg bt0, if_neg hc1, if_neg hc2, bS, if_neg n10, m_areJoined hM hI hk hj, hjo, bS, if_neg bt0, e1, bS]
            cases hb : badF G c (path G k j) with
            | some x =>
              refine Or.inl ⟨9, nI x, reC fun σ hC => ?_, reM fun σ hM => ?_⟩
              · obtain ⟨σ1, e1, f1, w1, -, -⟩ := c_follow hC hI hk hj
                have hC1 : CR σ1 0 G := hC.fr f1 (by decide) (by decide) (by decide) (by decide) (by decide)
                refine ⟨σ1, f1, ?_⟩
                have e2 : p_X6_refusesToCharge_L84 400 c 0 σ1 = _ := (c_tooL hP12 c w1 hC1 (path G k j) 0 400 rfl (by omega) (by omega)).2 x hb
                rw [hcF σ σ1 hC e1 w1, e2, bS, nb1]
              · obtain ⟨σ1, e1, f1, p1⟩ := m_goes hM hI hk hj hjo
                have hM1 : MR σ1 G := hM.fm f1 (by decide)
                obtain ⟨i, hi, hix, e2⟩ := (m_tooL hP12 c p1 hM1 (path G k j) 0 400 rfl (by omega) (by omega)).2 x hb
                have e3 : p_X7_tooMuch_L2 σ1 400 c 0 = some (nI i) := e2
                refine ⟨σ1, f1, 0, ?_⟩
                rw [hmF σ σ1 hM e1, e3, bS, if_neg (nI_pos (by omega)), if_pos (ib_t (by omega) (by omega)), nI_clamp (by omega), p1.2.2 i hi, hix, refuses_rf, bS]
            | none =>
              have hI' := hI.charge (path_nd hI hk hj) hPm hb
              refine Or.inr ⟨nI (tolL (chR G c (path G k j)) (path G k j)), _, n, hI', ⟨fun σ hC => ?_, fun σ hC => ?_⟩, fun σ hM => ?_⟩
              · obtain ⟨σ1, e1, f1, w1, -, -⟩ := c_follow hC hI hk hj
                have hC1 : CR σ1 0 G := hC.fr f1 (by decide) (by decide) (by decide) (by decide) (by decide)
                refine ⟨σ1, ?_, f1⟩
                have e2 : p_X6_refusesToCharge_L84 400 c 0 σ1 = _ := (c_tooL hP12 c w1 hC1 (path G k j) 0 400 rfl (by omega) (by omega)).1 hb
                rw [hcF σ σ1 hC e1 w1, e2, bS, nb0]
              · obtain ⟨σ1, e1, f1, w1, -, -⟩ := c_follow hC hI hk hj
                have hC1 : CR σ1 0 G := hC.fr f1 (by decide) (by decide) (by decide) (by decide) (by decide)
                obtain ⟨σ2, e2, c2, w2, f2⟩ := c_chL hP12 c (path G k j) 0 400 G σ1 w1 hC1 rfl (by omega) (by omega)
                have e3 : p_X6_chargeWay_L16 400 c 0 σ1 = _ := e2
                refine ⟨σ2, ?_, c2, (Fx.fr f1).trans f2⟩
                rw [cO_t]
                unfold p_X6_chargeWay
                rw [e1, bS, e3, c_tollsIn c2 hI' w2 hPm, bS, bS]
              · obtain ⟨σ1, e1, f1, p1⟩ := m_goes hM hI hk hj hjo
                have hM1 : MR σ1 G := hM.fm f1 (by decide)
                refine ⟨σ1, f1, fun σk ek fk => ?_⟩
                have e3 : p_X7_tooMuch_L2 σ1 400 c 0 = some (-1) := (m_tooL hP12 c p1 hM1 (path G k j) 0 400 rfl (by omega) (by omega)).1 hb
                obtain ⟨σ2, e4, c2, w2, f2⟩ := m_chL hP12 c (path G k j) 0 400 G σk (p1.fm fk (by decide) (by decide)) (hM1.fm fk (by decide)) rfl (by omega) (by omega)
                have e5 : p_X7_charge_L103 400 c 0 σk = _ := e4
                refine ⟨σ2, ?_, c2, f2.mono (by decide) (by decide)⟩
                rw [hmF σ σ1 hM e1, e3, bS, if_pos neg1_lt, ek, bS, e5, m_pathToll c2 hI' w2 hPm, bS]

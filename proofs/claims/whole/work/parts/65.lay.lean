/-! PURE: a track is laid, a track is given up -/
section LAY
variable {σ : Sg} {G : Row} {n : Nat}
theorem Inv.lay (hI : Inv G n) {a b : Nat} (ha : a < n) (hb : b < n) (ha0 : G (20 + a) = -1) (hab : a ∉ up G (nI b)) : Inv (up1 G (20 + a) (nI b)) n := by
  have hn := hI.1
  have hpar := fun q (hq : q < n) => hI.par hq
  have hdc := fun q c (hq : q < n) (h : G (20 + c) = nI q) => dep_child hI (k := q) (c := c) hq h
  have huc := fun q (hq : q < n) => up_c hI hq
  have e : ∀ i, i ≠ 20 + a → up1 G (20 + a) (nI b) i = G i := fun i h => up1_ne h
  obtain ⟨i1, i2, -, i4, i5, i6⟩ := id hI
  refine ⟨i1, by rw [e 0 (by omega)]; exact i2, ⟨fun x => if a ∈ up G (nI x) then depN G x + depN G b + 1 else depN G x, fun q hq => ?_⟩, fun q hq => ?_, fun q hq => ?_, fun d hd => ?_⟩
  · by_cases hqa : q = a
    · subst hqa
      refine Or.inr ⟨b, hb, up1_eq, ?_⟩
      simp only [if_neg hab, if_pos (show q ∈ up G (nI q) by rw [huc q hq]; exact List.mem_cons_self)]
      omega
    · rw [e (20 + q) (by omega)]
      rcases hpar q hq with h | ⟨p, h1, h2⟩
      · exact Or.inl h
      · refine Or.inr ⟨p, h1, h2, ?_⟩
        have a1 := hdc p q h1 h2
        have hu := huc q hq
        rw [h2] at hu
        have haq : ¬ a = q := fun e => hqa e.symm
        by_cases hm : a ∈ up G (nI p)
        · simp only [if_pos hm, if_pos (show a ∈ up G (nI q) by rw [hu]; exact List.mem_cons_of_mem _ hm)]; omega
        · simp only [if_neg hm, if_neg (show ¬ a ∈ up G (nI q) by rw [hu]; simp [haq, hm])]; omega
  · rw [e (8 + q) (by omega)]; exact i4 q hq
  · rw [e (32 + q) (by omega)]
    rcases i5 q hq with h | ⟨c, h1, h2, h3⟩
    · exact Or.inl h
    · have hca : c ≠ a := fun e => by rw [e, ha0] at h3; exact m1_ne (by omega) h3
      exact Or.inr ⟨c, h1, h2, by rw [e (20 + c) (by omega)]; exact h3⟩
  · rw [e (5 + d) (by omega)]; exact i6 d hd
theorem up_rot (hI : Inv G n) {k : Nat} (hk : k < n) {v : Int32} (hv : FOk n v) : (∀ x ∈ up G v, x ∉ up G (nI k)) → up (rotRow G k) v = up G v := by
  have hn := hI.1
  have hI' := hI.root hk
  have fk : FOk n (nI k) := Or.inr ⟨k, hk, rfl⟩
  have hmem := up_mem hI.1 hI.2.2.1 fk
  refine up_ind hI.1 hI.2.2.1 (C := fun v => (∀ x ∈ up G v, x ∉ up G (nI k)) → up (rotRow G k) v = up G v) ?_ ?_ hv
  · intro _; rw [up_neg, up_neg]
  · intro q hq ih h
    have hu := up_c hI hq
    rw [hu] at h
    have hqU := h q List.mem_cons_self
    have e1 : rotRow G k (20 + q) = G (20 + q) := turnR_ne _ _ _ (fun x hx => ⟨fun e => hqU (by rw [show q = x by omega]; exact hx), by omega⟩)
    rw [up_c hI' hq, e1, ih (fun x hx => h x (List.mem_cons_of_mem _ hx)), hu]
theorem rot_top (hI : Inv G n) {k : Nat} (hk : k < n) : rotRow G k (20 + k) = -1 := by
  have hn := hI.1
  have fk : FOk n (nI k) := Or.inr ⟨k, hk, rfl⟩
  have hnd := up_nd hI.1 hI.2.2.1 fk
  have hmem := up_mem hI.1 hI.2.2.1 fk
  unfold rotRow
  rw [up_c hI hk] at hnd hmem ⊢
  have hk2 := (List.nodup_cons.mp hnd).1
  simp only [turnR]
  rw [turnR_ne _ _ _ (fun y hy => by
    have h1 : y ≠ k := fun e => hk2 (mem_eq e hy)
    have h2 := hmem y (List.mem_cons_of_mem _ hy)
    omega), up1_ne (by omega), up1_eq]
/-- the row before the track is laid from a -/
def preLay (G : Row) (a : Nat) : Row := if G (20 + a) = -1 then G else rotRow G a
theorem preLay_ok (hI : Inv G n) {a b : Nat} (ha : a < n) (hb : b < n) (hj : joined G a b = false) : Inv (preLay G a) n ∧ preLay G a (20 + a) = -1 ∧ a ∉ up (preLay G a) (nI b) := by
  have hdis : ∀ x ∈ up G (nI b), x ∉ up G (nI a) := fun x hx hx2 => by
    have := (joined_iff hI ha hb).mpr ⟨x, hx2, hx⟩
    rw [hj] at this; cases this
  have haa : a ∈ up G (nI a) := by rw [up_c hI ha]; exact List.mem_cons_self
  unfold preLay
  by_cases h : G (20 + a) = -1
  · rw [if_pos h]
    exact ⟨hI, h, fun q => hdis a q haa⟩
  · rw [if_neg h]
    refine ⟨hI.root ha, rot_top hI ha, ?_⟩
    rw [up_rot hI ha (Or.inr ⟨b, hb, rfl⟩) hdis]
    exact fun q => hdis a q haa
/-- the row without the track over a farm -/
def cutRow (G : Row) (q ch : Nat) : Row := up1 (if G (32 + q) = nI ch then up1 G (32 + q) (-1) else G) (20 + ch) (-1)
theorem Inv.cut (hI : Inv G n) {q ch : Nat} (hq : q < n) (hch : ch < n) (hp : G (20 + ch) = nI q) : Inv (cutRow G q ch) n := by
  have hn := hI.1
  have e : ∀ i, i ≠ 20 + ch → i ≠ 32 + q → cutRow G q ch i = G i := fun i h1 h2 => by
    unfold cutRow
    rw [up1_ne h1]
    split
    · exact up1_ne h2
    · rfl
  have e1 : cutRow G q ch (20 + ch) = -1 := up1_eq
  obtain ⟨i1, i2, ⟨rk, i3⟩, i4, i5, i6⟩ := id hI
  refine ⟨i1, by rw [e 0 (by omega) (by omega)]; exact i2, ⟨rk, fun k hk => ?_⟩, fun k hk => ?_, fun k hk => ?_, fun d hd => ?_⟩
  · by_cases h : k = ch
    · subst h; exact Or.inl e1
    · rw [e (20 + k) (by omega) (by omega)]; exact i3 k hk
  · rw [e (8 + k) (by omega) (by omega)]; exact i4 k hk
  · by_cases hkq : k = q
    · subst hkq
      by_cases hc : G (32 + k) = nI ch
      · left
        unfold cutRow
        rw [up1_ne (by omega), if_pos hc, up1_eq]
      · have e2 : cutRow G k ch (32 + k) = G (32 + k) := by
          unfold cutRow
          rw [up1_ne (by omega), if_neg hc]
        rw [e2]
        rcases i5 k hk with h | ⟨c, h1, h2, h3⟩
        · exact Or.inl h
        · have hcc : c ≠ ch := fun q => hc (q ▸ h2)
          exact Or.inr ⟨c, h1, h2, by rw [e (20 + c) (by omega) (by omega)]; exact h3⟩
    · rw [e (32 + k) (by omega) (by omega)]
      rcases i5 k hk with h | ⟨c, h1, h2, h3⟩
      · exact Or.inl h
      · have hcc : c ≠ ch := fun q2 => hkq (by rw [q2, hp] at h3; exact (nI_inj (by omega) (by omega) h3).symm)
        exact Or.inr ⟨c, h1, h2, by rw [e (20 + c) (by omega) (by omega)]; exact h3⟩
  · rw [e (5 + d) (by omega) (by omega)]; exact i6 d hd
theorem m_noFarm (hM : MR σ G) (hI : Inv G n) (v w : Int32) : p_X7_noFarm v w σ = some (if isF n v then w else v) := by
  unfold p_X7_noFarm
  rw [m_isFarm hM hI v, bS]
  cases isF n v with
  | true => rw [if_neg bt0]; rfl
  | false => rw [if_pos bf0]; rfl
theorem c_lay (hC : CR σ 0 G) (hI : Inv G n) {a b : Nat} (ha : a < n) (hb : b < n) (hj : joined G a b = false) : ∃ σ', p_X6_layTrack (nI a) (nI b) σ = some (nI (sizN (up1 (preLay G a) (20 + a) (nI b)) n a), σ') ∧ CR σ' 0 (up1 (preLay G a) (20 + a) (nI b)) ∧ Fx σ σ' := by
  have hn := hI.1
  obtain ⟨j1, j2, j3⟩ := preLay_ok hI ha hb hj
  have hI' := j1.lay ha hb j2 j3
  unfold p_X6_layTrack
  rw [c_parentOf hC (by omega), bS]
  by_cases h : G (20 + a) = -1
  · have e : preLay G a = G := if_pos h
    rw [e] at hI' ⊢
    have hC' := hC.uPar (show a < 12 by omega) (nI b)
    refine ⟨sA σ 3 0 a (nI b), ?_, hC', Fx.sA (by omega) (by omega)⟩
    rw [if_pos h, setPar_n (by omega), bS, c_treeSizeOf hC' hI' ha, bS]
  · have e : preLay G a = rotRow G a := if_neg h
    rw [e] at hI' ⊢
    obtain ⟨σ1, e1, c1, f1⟩ := c_rootAnew hC hI ha
    have hC' := c1.uPar (show a < 12 by omega) (nI b)
    refine ⟨sA σ1 3 0 a (nI b), ?_, hC', f1.trans (Fx.sA (by omega) (by omega))⟩
    rw [if_neg h, e1, bS, setPar_n (by omega), bS, c_treeSizeOf hC' hI' ha, bS]
end LAY
theorem chg_lay (a b c : Int32) : Chg 108 a b c (p_X7_lay a b) := by
  intro G n hI
  have hn := hI.1
  cases hf : isF n a with
  | false =>
    refine Or.inl ⟨3, a, reC fun σ hC => ⟨σ, Fr.refl, ?_⟩, reM fun σ hM => ⟨σ, Fm.refl, 0, ?_⟩⟩
    · rw [isR_l]
      unfold p_X6_refusesToLay
      rw [c_refF1 hC hI hf, bS, if_neg n10, bS, nb1]
    · unfold p_X7_lay
      rw [m_areFarms hM hI, hf, Bool.false_and, bS, if_pos bf0, m_noFarm hM hI, hf, bS, refuses_rf, bS]
      rfl
  | true =>
    cases hg : isF n b with
    | false =>
      refine Or.inl ⟨3, b, reC fun σ hC => ⟨σ, Fr.refl, ?_⟩, reM fun σ hM => ⟨σ, Fm.refl, 0, ?_⟩⟩
      · rw [isR_l]
        unfold p_X6_refusesToLay
        rw [c_refF0 hC hI hf, bS, if_pos rfl, c_refF1 hC hI hg, bS, if_neg n10, bS, nb1]
      · unfold p_X7_lay
        rw [m_areFarms hM hI, hf, hg, Bool.and_false, bS, if_pos bf0, m_noFarm hM hI, hf, bS, refuses_rf, bS]
        rfl
    | true =>
      obtain ⟨k, hk, rfl⟩ := isF_of hn hf
      obtain ⟨j, hj, rfl⟩ := isF_of hn hg
      by_cases hkj : k = j
      · subst hkj
        refine Or.inl ⟨4, nI k, reC fun σ hC => ⟨σ, Fr.refl, ?_⟩, reM fun σ hM => ⟨σ, Fm.refl, 0, ?_⟩⟩
        · rw [isR_l]
          unfold p_X6_refusesToLay
          rw [c_refF0 hC hI hf, bS, if_pos rfl, c_refF0 hC hI hf, bS, if_pos rfl, if_pos rfl, keep_kp, bS, bS, nb1, nb1]
        · unfold p_X7_lay
          rw [m_areFarms hM hI, hf, Bool.and_self, bS, if_neg bt0, if_pos rfl, refuses_rf, bS]
      · have hne : ¬ nI k = nI j := fun e => hkj (nI_inj (by omega) (by omega) e)
        have hpl := path_le hI hk hj
        have hpn := path_nil hI hk hj
        cases hjo : joined G k j with
        | true =>
          refine Or.inl ⟨5, nI (path G k j).length - 1, reC fun σ hC => ?_, reM fun σ hM => ?_⟩
          · obtain ⟨σ1, e1, f1, w1, -, -⟩ := c_follow hC hI hk hj
            refine ⟨σ1, f1, ?_⟩
            rw [isR_l]
            unfold p_X6_refusesToLay p_X5_farms p_X5_tracks
            rw [c_refF0 hC hI hf, bS, if_pos rfl, c_refF0 hC hI hg, bS, if_pos rfl, if_neg hne, e1, bS, bS, w1.1, if_neg (show ¬ nI (path G k j).length ≤ 0 from nI_ge (path_pos hI hk hj hjo) (by omega)), bS, keep_kp, bS, if_neg n10, bS, nb1]
          · obtain ⟨σ1, e1, f1, p1⟩ := m_goes hM hI hk hj hjo
            refine ⟨σ1, f1, 0, ?_⟩
            unfold p_X7_lay
            rw [m_areFarms hM hI, hf, hg, Bool.and_self, bS, if_neg bt0, if_neg hne, m_areJoined hM hI hk hj, hjo, bS, if_neg bt0, e1, bS, refuses_rf, bS, p1.1]
        | false =>
          obtain ⟨j1, j2, j3⟩ := preLay_ok hI hk hj hjo
          have hI' := j1.lay hk hj j2 j3
          refine Or.inr ⟨nI (sizN (up1 (preLay G k) (20 + k) (nI j)) n k), _, n, hI', ⟨fun σ hC => ?_, fun σ hC => ?_⟩, fun σ hM => ⟨σ, Fm.refl, fun σk ek fk => ?_⟩⟩
          · obtain ⟨σ1, e1, f1, w1, -, -⟩ := c_follow hC hI hk hj
            refine ⟨σ1, ?_, f1⟩
            rw [isR_l]
            unfold p_X6_refusesToLay p_X5_farms
            rw [c_refF0 hC hI hf, bS, if_pos rfl, c_refF0 hC hI hg, bS, if_pos rfl, if_neg hne, e1, bS, bS, w1.1, hpn.mpr hjo, if_pos (show nI 0 ≤ 0 by decide), bS, nb0]
          · obtain ⟨σ1, e1, c1, f1⟩ := c_lay hC hI hk hj hjo
            exact ⟨σ1, by rw [cO_l, e1, bS], c1, f1⟩
          · have hMk : MR σk G := hM.fm fk (by decide)
            have e20 : (20 : Int32) + nI k = nI (20 + k) := nI_add 20 k
            by_cases h : G (20 + k) = -1
            · have e : preLay G k = G := if_pos h
              rw [e] at hI' ⊢
              have hM' := hMk.up1 (20 + k) (nI j)
              refine ⟨sA σk 21 0 (20 + k) (nI j), ?_, hM', Fm.sA (by decide)⟩
              unfold p_X7_lay
              rw [m_areFarms hM hI, hf, hg, Bool.and_self, bS, if_neg bt0, if_neg hne, m_areJoined hM hI hk hj, hjo, bS, if_pos bf0, ek, bS, m_parent hMk (by omega), bS, h, if_pos neg1_lt, e20, if_pos (ib_t (by omega) (by omega)), nI_clamp (by omega), m_sizeOf hM' hI' hk, bS]
            · have e : preLay G k = rotRow G k := if_neg h
              rw [e] at hI' ⊢
              obtain ⟨σ1, e1, m1, f1⟩ := m_roots hMk hI hk
              have hM' := m1.up1 (20 + k) (nI j)
              refine ⟨sA σ1 21 0 (20 + k) (nI j), ?_, hM', (f1.mono (by decide) (by decide)).trans (Fm.sA (by decide))⟩
              have hneg : ¬ G (20 + k) < 0 := by
                rcases hI.par hk with h1 | ⟨q, hq, h1⟩
                · exact absurd h1 h
                · rw [h1]; exact nI_pos (by omega)
              unfold p_X7_lay
              rw [m_areFarms hM hI, hf, hg, Bool.and_self, bS, if_neg bt0, if_neg hne, m_areJoined hM hI hk hj, hjo, bS, if_pos bf0, ek, bS, m_parent hMk (by omega), bS, if_neg hneg, e1, bS, e20, if_pos (ib_t (by omega) (by omega)), nI_clamp (by omega), m_sizeOf hM' hI' hk, bS]
theorem chg_giveUp (a b c : Int32) : Chg 99 a b c (p_X7_giveUp a b) := by
  intro G n hI
  have hn := hI.1
  cases hf : isF n a with
  | false =>
    refine Or.inl ⟨3, a, reC fun σ hC => ⟨σ, Fr.refl, ?_⟩, reM fun σ hM => ⟨σ, Fm.refl, 0, ?_⟩⟩
    · rw [isR_c]
      unfold p_X6_refusesToGiveUp
      rw [c_refF1 hC hI hf, bS, if_neg n10, bS, nb1]
    · unfold p_X7_giveUp
      rw [m_areFarms hM hI, hf, Bool.false_and, bS, if_pos bf0, m_noFarm hM hI, hf, bS, refuses_rf, bS]
      rfl
  | true =>
    cases hg : isF n b with
    | false =>
      refine Or.inl ⟨3, b, reC fun σ hC => ⟨σ, Fr.refl, ?_⟩, reM fun σ hM => ⟨σ, Fm.refl, 0, ?_⟩⟩
      · rw [isR_c]
        unfold p_X6_refusesToGiveUp
        rw [c_refF0 hC hI hf, bS, if_pos rfl, c_refF1 hC hI hg, bS, if_neg n10, bS, nb1]
      · unfold p_X7_giveUp
        rw [m_areFarms hM hI, hf, hg, Bool.and_false, bS, if_pos bf0, m_noFarm hM hI, hf, bS, refuses_rf, bS]
        rfl
    | true =>
      obtain ⟨k, hk, rfl⟩ := isF_of hn hf
      obtain ⟨j, hj, rfl⟩ := isF_of hn hg
      by_cases ht : G (20 + k) = nI j ∨ G (20 + j) = nI k
      · have hd : decide (G (20 + k) = nI j ∨ G (20 + j) = nI k) = true := decide_eq_true ht
        obtain ⟨ch, q, hch, hq, hche, hp⟩ : ∃ ch q, ch < n ∧ q < n ∧ chOf G k j = ch ∧ G (20 + ch) = nI q := by
          unfold chOf
          by_cases h1 : G (20 + k) = nI j
          · exact ⟨k, j, hk, hj, if_pos h1, h1⟩
          · rcases ht with h | h
            · exact absurd h h1
            · exact ⟨j, k, hj, hk, if_neg h1, h⟩
        have hI' := hI.cut hq hch hp
        refine Or.inr ⟨nI (sizN (cutRow G q ch) n ch), _, n, hI', ⟨fun σ hC => ⟨σ, ?_, Fr.refl⟩, fun σ hC => ?_⟩, fun σ hM => ⟨σ, Fm.refl, fun σk ek fk => ?_⟩⟩
        · rw [isR_c]
          unfold p_X6_refusesToGiveUp
          rw [c_refF0 hC hI hf, bS, if_pos rfl, c_refF0 hC hI hg, bS, if_pos rfl, c_hasTrack hC hI hk hj, hd, bS, if_neg bt0, bS, nb0]
        · rw [cO_c]
          unfold p_X6_giveTrackUp
          rw [c_childOf hC (by omega), hche, bS, c_parentOf hC (by omega), bS, hp, c_preferredOf hC (by omega), bS]
          by_cases hc : G (32 + q) = nI ch
          · have e : cutRow G q ch = up1 (up1 G (32 + q) (-1)) (20 + ch) (-1) := by unfold cutRow; rw [if_pos hc]
            have hC' : CR (sA (sA σ 4 0 q (-1)) 3 0 ch (-1)) 0 (cutRow G q ch) := by rw [e]; exact (hC.uPref (by omega) _).uPar (by omega) _
            refine ⟨_, ?_, hC', (Fx.sA (by omega) (by omega)).trans (Fx.sA (by omega) (by omega))⟩
            rw [if_pos hc, pref_n (by omega), bS, setPar_n (by omega), bS, c_treeSizeOf hC' hI' hch, bS, bS]
          · have e : cutRow G q ch = up1 G (20 + ch) (-1) := by unfold cutRow; rw [if_neg hc]
            have hC' : CR (sA σ 3 0 ch (-1)) 0 (cutRow G q ch) := by rw [e]; exact hC.uPar (by omega) _
            refine ⟨_, ?_, hC', Fx.sA (by omega) (by omega)⟩
            rw [if_neg hc, setPar_n (by omega), bS, c_treeSizeOf hC' hI' hch, bS, bS]
        · have hMk : MR σk G := hM.fm fk (by decide)
          have e20 : (20 : Int32) + nI ch = nI (20 + ch) := nI_add 20 ch
          have e32 : (32 : Int32) + nI q = nI (32 + q) := nI_add 32 q
          by_cases hc : G (32 + q) = nI ch
          · have e : cutRow G q ch = up1 (up1 G (32 + q) (-1)) (20 + ch) (-1) := by unfold cutRow; rw [if_pos hc]
            have hM' : MR (sA (sA σk 21 0 (32 + q) (-1)) 21 0 (20 + ch) (-1)) (cutRow G q ch) := by rw [e]; exact (hMk.up1 _ _).up1 _ _
            refine ⟨_, ?_, hM', (Fm.sA (by decide)).trans (Fm.sA (by decide))⟩
            unfold p_X7_giveUp
            rw [m_areFarms hM hI, hf, hg, Bool.and_self, bS, if_neg bt0, m_isLaid hM hI hk hj, hd, bS, if_neg bt0, ek, bS, m_childOf hMk (by omega), hche, bS, m_parent hMk (by omega), hp, bS, m_prefers hMk (by omega), bS, if_pos hc, e32, e20, if_pos (ib_t (by omega) (by omega)), if_pos (ib_t (by omega) (by omega)), nI_clamp (by omega), nI_clamp (by omega), m_sizeOf hM' hI' hch, bS]
          · have e : cutRow G q ch = up1 G (20 + ch) (-1) := by unfold cutRow; rw [if_neg hc]
            have hM' : MR (sA σk 21 0 (20 + ch) (-1)) (cutRow G q ch) := by rw [e]; exact hMk.up1 _ _
            refine ⟨_, ?_, hM', Fm.sA (by decide)⟩
            unfold p_X7_giveUp
            rw [m_areFarms hM hI, hf, hg, Bool.and_self, bS, if_neg bt0, m_isLaid hM hI hk hj, hd, bS, if_neg bt0, ek, bS, m_childOf hMk (by omega), hche, bS, m_parent hMk (by omega), hp, bS, m_prefers hMk (by omega), bS, if_neg hc, e20, if_pos (ib_t (by omega) (by omega)), nI_clamp (by omega), m_sizeOf hM' hI' hch, bS]
      · have hd : decide (G (20 + k) = nI j ∨ G (20 + j) = nI k) = false := decide_eq_false ht
        refine Or.inl ⟨6, 0, reC fun σ hC => ⟨σ, Fr.refl, ?_⟩, reM fun σ hM => ⟨σ, Fm.refl, 0, ?_⟩⟩
        · rw [isR_c]
          unfold p_X6_refusesToGiveUp
          rw [c_refF0 hC hI hf, bS, if_pos rfl, c_refF0 hC hI hg, bS, if_pos rfl, c_hasTrack hC hI hk hj, hd, bS, if_pos bf0, keep_kp, bS, if_neg n10, bS, nb1]
        · unfold p_X7_giveUp
          rw [m_areFarms hM hI, hf, hg, Bool.and_self, bS, if_neg bt0, m_isLaid hM hI hk hj, hd, bS, if_pos bf0, refuses_rf, bS]

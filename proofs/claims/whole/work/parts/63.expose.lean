/-! PURE: a farm is exposed -/
theorem mem_eq {x k : Nat} {L : List Nat} (e : x = k) (h : x ∈ L) : k ∈ L := e ▸ h
def xupd : Row → Int32 → List Nat → Row
  | G, _, [] => G
  | G, nx, x :: U => xupd (up1 G (32 + x) nx) (nI x) U
def cupd : Row → List Nat → Int32 → Row
  | G, [], _ => G
  | G, x :: P, e => cupd (up1 G (32 + x) (hdE P e)) P e
theorem cupd_snoc (x : Nat) (e : Int32) : ∀ (P : List Nat) (G : Row), cupd G (P ++ [x]) e = up1 (cupd G P (nI x)) (32 + x) e := by
  intro P
  induction P with
  | nil => intro G; rfl
  | cons y P ih =>
    intro G
    simp only [List.cons_append, cupd, ih]
    cases P with
    | nil => rfl
    | cons z P => rfl
theorem xupd_comm {j : Nat} {v : Int32} : ∀ (U : List Nat) (G : Row) (nx : Int32), (∀ x ∈ U, j ≠ 32 + x) → xupd (up1 G j v) nx U = up1 (xupd G nx U) j v := by
  intro U
  induction U with
  | nil => intro G nx _; rfl
  | cons x U ih =>
    intro G nx h
    simp only [xupd]
    rw [up1_comm (i := j) (j := 32 + x) (h x List.mem_cons_self)]
    exact ih _ _ (fun y hy => h y (List.mem_cons_of_mem _ hy))
theorem cupd_rev : ∀ (U : List Nat) (G : Row) (e : Int32), U.Nodup → cupd G U.reverse e = xupd G e U := by
  intro U
  induction U with
  | nil => intro G e _; rfl
  | cons k l ih =>
    intro G e h
    obtain ⟨h1, h2⟩ := List.nodup_cons.mp h
    rw [List.reverse_cons, cupd_snoc, ih _ _ h2]
    simp only [xupd]
    rw [xupd_comm l G (nI k) (fun x hx e => h1 (by rw [show k = x by omega]; exact hx))]
theorem xupd_ne {j : Nat} : ∀ (U : List Nat) (G : Row) (nx : Int32), (∀ x ∈ U, j ≠ 32 + x) → xupd G nx U j = G j := by
  intro U
  induction U with
  | nil => intro G nx _; rfl
  | cons x U ih =>
    intro G nx h
    simp only [xupd]
    rw [ih _ _ (fun y hy => h y (List.mem_cons_of_mem _ hy)), up1_ne (h x List.mem_cons_self)]
theorem drop_hd {P Q : List Nat} {x i : Nat} (h : P.drop i = x :: Q) (hi : i < P.length) : P[i] = x ∧ P.drop (i + 1) = Q := by
  constructor
  · have := List.getElem_drop (xs := P) (i := i) (j := 0) (h := by rw [h]; simp)
    simp only [h, List.getElem_cons_zero, Nat.add_zero] at this
    exact this.symm
  · rw [← List.drop_drop, h]; rfl
theorem next_at {σ : Sg} {P Q : List Nat} {i : Nat} (hW : WR σ P) (hd : P.drop (i + 1) = Q) (hl : i + 1 + Q.length = P.length) : p_X5_farmAt (nI (i + 1)) σ = some (hdE Q (-1)) := by
  have h12 := hW.2.1
  cases Q with
  | nil => simp only [List.length_nil] at hl; rw [c_farmAt1 hW (by omega) (by omega)]; rfl
  | cons y Q =>
    simp only [List.length_cons] at hl
    rw [c_farmAt hW (show i + 1 < P.length by omega), (drop_hd hd (by omega)).1]
    rfl
theorem c_expL {P : List Nat} (hP : ∀ x ∈ P, x < 12) (v : Int32) : ∀ (Q : List Nat) (i fuel : Nat) (G : Row) (σ : Sg), WR σ P → CR σ 0 G → P.drop i = Q → i + Q.length = P.length → Q.length < fuel → ∃ σ', p_X6_exposeFarm_L34 fuel v (nI i) σ = ((p_X1_countExposing v σ').bind fun r6 => some (v, r6)) ∧ CR σ' 0 (cupd G Q (-1)) ∧ Fx σ σ' := by
  intro Q
  induction Q with
  | nil =>
    intro i fuel G σ hW hC h1 h2 h3
    have h12 := hW.2.1
    obtain ⟨fuel, rfl⟩ : ∃ z, fuel = z + 1 := ⟨fuel - 1, by omega⟩
    simp only [List.length_nil] at h2
    refine ⟨σ, ?_, hC, Fx.refl⟩
    rw [p_X6_exposeFarm_L34, p_X5_farms, bS, hW.1, if_pos (nI_le (by omega) (by omega))]
  | cons x Q ih =>
    intro i fuel G σ hW hC h1 h2 h3
    have h12 := hW.2.1
    obtain ⟨fuel, rfl⟩ : ∃ z, fuel = z + 1 := ⟨fuel - 1, by omega⟩
    simp only [List.length_cons] at h2 h3
    have hi : i < P.length := by omega
    obtain ⟨hx, hd⟩ := drop_hd h1 hi
    have hx12 : x < 12 := hP x (hx ▸ List.getElem_mem hi)
    have hnext := next_at hW hd (by omega)
    obtain ⟨σ', e1, c1, f1⟩ := ih (i + 1) fuel _ (sA σ 4 0 x (hdE Q (-1))) (hW.fr (S := [4]) (Fr.sA (by simp)) (by decide) (by decide)) (hC.uPref hx12 _) hd (by omega) (by omega)
    refine ⟨σ', ?_, c1, (Fx.sA (by omega) (by omega)).trans f1⟩
    rw [p_X6_exposeFarm_L34, p_X5_farms, bS, hW.1, if_neg (nI_ge hi (by omega)), c_farmAt hW hi, bS, hx, nI_1, hnext, bS, pref_n hx12, bS]
    exact e1
def exE (G : Row) (k : Nat) : Row := xupd G (-1) (up G (nI k))
def expN (G : Row) (k : Nat) : Nat := xch G (-1) (up G (nI k))
def expRow (G : Row) (k : Nat) : Row := up1 (up1 (exE G k) 2 (exE G k 2 + 1)) 1 (exE G k 1 + nI (expN G k))
section EXP
variable {σ : Sg} {G : Row} {n : Nat}
theorem c_exposeFarm (hC : CR σ 0 G) (hI : Inv G n) {k : Nat} (hk : k < n) : ∃ σ', p_X6_exposeFarm (nI k) σ = some (nI (expN G k), σ') ∧ CR σ' 0 (expRow G k) ∧ Fx σ σ' := by
  have hn := hI.1
  have fk : FOk n (nI k) := Or.inr ⟨k, hk, rfl⟩
  have hl := up_len hI.1 hI.2.2.1 fk
  obtain ⟨σ1, e1, f1, w1, -, -⟩ := c_follow hC hI (root_lt hI hk) hk
  rw [path_root hI hk] at w1
  have hC1 : CR σ1 0 G := hC.fr f1 (by decide) (by decide) (by decide) (by decide) (by decide)
  have hP : ∀ x ∈ (up G (nI k)).reverse, x < 12 := fun x hx => by
    have := up_mem hI.1 hI.2.2.1 fk x (List.mem_reverse.mp hx)
    omega
  obtain ⟨σ2, e2, c2, f2⟩ := c_expL hP (nI (expN G k)) (up G (nI k)).reverse 0 400 G σ1 w1 hC1 rfl (by simp) (by simp; omega)
  rw [cupd_rev _ _ _ (up_nd hI.1 hI.2.2.1 fk)] at c2
  have e3 : p_X6_exposeFarm_L34 400 (nI (expN G k)) 0 σ1 = _ := e2
  have c3 : CR (sI (sI σ2 1 0 6 (exE G k 2 + 1)) 1 0 5 (exE G k 1 + nI (expN G k))) 0 (expRow G k) := (c2.uInt (f := 6) (j := 2) (by omega) _).uInt (f := 5) (j := 1) (by omega) _
  refine ⟨_, ?_, c3, ((Fx.fr f1).trans f2).trans (Fx.sI.trans Fx.sI)⟩
  have q1 : gI σ2 1 0 6 = exE G k 2 := c2.2.2.1
  have q2 : gI (sI σ2 1 0 6 (exE G k 2 + 1)) 1 0 5 = exE G k 1 := by rw [gI_sI, if_neg (by decide)]; exact c2.2.1
  unfold p_X6_exposeFarm
  rw [c_rootOf hC hI hk, bS, e1, bS, c_prefCh hC1 w1 hP, bS, cch_rev]
  have e4 : p_X6_exposeFarm_L34 400 (nI (xch G (-1) (up G (nI k)))) 0 σ1 = _ := e3
  rw [e4]
  unfold p_X1_countExposing
  rw [q1, q2, bS]
theorem m_expL (hI : Inv G n) {v : Int32} (hv : FOk n v) : ∀ (fuel a : Nat) (nx : Int32) (H : Row) (σ : Sg), MR σ H → (∀ x, x < 12 → H (20 + x) = G (20 + x)) → (∀ x ∈ up G v, H (32 + x) = G (32 + x)) → (up G v).length < fuel → ∃ σ', p_X7_exposes_L8 fuel 1 (nI a) nx v σ = some (nI (a + xch G nx (up G v)), σ') ∧ MR σ' (xupd H nx (up G v)) ∧ Fm [21] [] σ σ' := by
  have hn := hI.1
  refine up_ind hI.1 hI.2.2.1 (C := fun v => ∀ (fuel a : Nat) (nx : Int32) (H : Row) (σ : Sg), MR σ H → (∀ x, x < 12 → H (20 + x) = G (20 + x)) → (∀ x ∈ up G v, H (32 + x) = G (32 + x)) → (up G v).length < fuel → ∃ σ', p_X7_exposes_L8 fuel 1 (nI a) nx v σ = some (nI (a + xch G nx (up G v)), σ') ∧ MR σ' (xupd H nx (up G v)) ∧ Fm [21] [] σ σ') ?_ ?_ hv
  · intro fuel a nx H σ hM h1 h2 h3
    obtain ⟨fuel, rfl⟩ : ∃ z, fuel = z + 1 := ⟨fuel - 1, by omega⟩
    rw [up_neg]
    exact ⟨σ, by rw [p_X7_exposes_L8, if_pos neg1_lt]; rfl, hM, Fm.refl⟩
  · intro k hk ih fuel a nx H σ hM h1 h2 h3
    have hu := up_c hI hk
    have hl := congrArg List.length hu
    simp only [List.length_cons] at hl
    have hnd := up_nd hI.1 hI.2.2.1 (Or.inr ⟨k, hk, rfl⟩ : FOk n (nI k))
    rw [hu] at hnd h2
    have hk2 := (List.nodup_cons.mp hnd).1
    obtain ⟨fuel, rfl⟩ : ∃ z, fuel = z + 1 := ⟨fuel - 1, by omega⟩
    have hM2 : MR (sA σ 21 0 (32 + k) nx) (up1 H (32 + k) nx) := hM.up1 _ _
    have hpar : p_X7_parent (nI k) (sA σ 21 0 (32 + k) nx) = some (G (20 + k)) := by
      rw [m_parent hM2 (by omega), up1_ne (by omega), h1 k (by omega)]
    obtain ⟨σ', e1, m1, f1⟩ := ih fuel (a + ne01 (G (32 + k)) nx) (nI k) (up1 H (32 + k) nx) (sA σ 21 0 (32 + k) nx) hM2 (fun x hx => by rw [up1_ne (by omega)]; exact h1 x hx) (fun x hx => by
      rw [up1_ne (fun e => hk2 (mem_eq (show x = k by omega) hx))]
      exact h2 x (List.mem_cons_of_mem _ hx)) (by omega)
    refine ⟨σ', ?_, by rw [hu]; exact m1, (Fm.sA (by decide)).trans f1⟩
    rw [p_X7_exposes_L8, if_neg (nI_pos (by omega)), m_prefers hM (by omega), bS, h2 k List.mem_cons_self, show (32 : Int32) + nI k = nI (32 + k) from nI_add 32 k, nI_clamp (by omega), hpar, hu, xch]
    by_cases hc : G (32 + k) = nx
    · rw [if_pos hc, if_neg n10, if_pos (ib_t (by omega) (by omega)), bS, show nI a + 0 = nI (a + 0) from nI_add a 0]
      rw [ne01_t hc] at e1 ⊢
      rw [e1, Nat.add_assoc]
    · rw [if_neg hc, if_neg n10, if_pos (ib_t (by omega) (by omega)), bS, nI_1]
      rw [ne01_f hc] at e1 ⊢
      rw [e1, Nat.add_assoc]
theorem m_counted (hM : MR σ G) (hI : Inv G n) {k : Nat} (hk : k < n) : ∃ σ', p_X7_counted (nI k) σ = some (nI (expN G k), σ') ∧ MR σ' (expRow G k) ∧ Fm [21] [] σ σ' := by
  have hn := hI.1
  have fk : FOk n (nI k) := Or.inr ⟨k, hk, rfl⟩
  have hl := up_len hI.1 hI.2.2.1 fk
  obtain ⟨σ1, e1, m1, f1⟩ := m_expL hI fk 400 0 (-1) G σ hM (fun _ _ => rfl) (fun _ _ => rfl) (by omega)
  rw [Nat.zero_add] at e1
  have e2 : p_X7_exposes (nI k) 1 σ = some (nI (expN G k), σ1) := e1
  have q1 : gA σ1 21 0 2 = exE G k 2 := m1 2 (by omega)
  have q2 : gA (sA σ1 21 0 2 (exE G k 2 + 1)) 21 0 1 = exE G k 1 := by rw [gA_sA, if_neg (by decide)]; exact m1 1 (by omega)
  refine ⟨sA (sA σ1 21 0 2 (exE G k 2 + 1)) 21 0 1 (exE G k 1 + nI (expN G k)), ?_, (m1.up1 2 _).up1 1 _, f1.trans ((Fm.sA (by decide)).trans (Fm.sA (by decide)))⟩
  unfold p_X7_counted
  rw [e2, bS, q1, q2]
theorem xupd_in (hI : Inv G n) {v : Int32} (hv : FOk n v) : ∀ (nx : Int32) (H : Row) (x : Nat), x ∈ up G v → (v = nI x ∧ xupd H nx (up G v) (32 + x) = nx) ∨ ∃ c, c < n ∧ xupd H nx (up G v) (32 + x) = nI c ∧ G (20 + c) = nI x := by
  refine up_ind hI.1 hI.2.2.1 (C := fun v => ∀ (nx : Int32) (H : Row) (x : Nat), x ∈ up G v → (v = nI x ∧ xupd H nx (up G v) (32 + x) = nx) ∨ ∃ c, c < n ∧ xupd H nx (up G v) (32 + x) = nI c ∧ G (20 + c) = nI x) ?_ ?_ hv
  · intro nx H x hx; rw [up_neg] at hx; cases hx
  · intro k hk ih nx H x hx
    have hu := up_c hI hk
    have hnd := up_nd hI.1 hI.2.2.1 (Or.inr ⟨k, hk, rfl⟩ : FOk n (nI k))
    rw [hu] at hnd hx ⊢
    have hk2 := (List.nodup_cons.mp hnd).1
    simp only [xupd]
    rcases List.mem_cons.mp hx with rfl | hx
    · left
      refine ⟨rfl, ?_⟩
      rw [xupd_ne _ _ _ (fun y hy e => hk2 (mem_eq (show y = x by omega) hy)), up1_eq]
    · rcases ih (nI k) (up1 H (32 + k) nx) x hx with ⟨h1, h2⟩ | h
      · exact Or.inr ⟨k, hk, h2, h1⟩
      · exact Or.inr h
theorem Inv.expose (hI : Inv G n) {k : Nat} (hk : k < n) : Inv (expRow G k) n := by
  have fk : FOk n (nI k) := Or.inr ⟨k, hk, rfl⟩
  have hin := xupd_in hI fk (-1) G
  have e : ∀ i, i ≠ 1 → i ≠ 2 → (∀ x ∈ up G (nI k), i ≠ 32 + x) → expRow G k i = G i := fun i h1 h2 h3 => by
    unfold expRow
    rw [up1_ne h1, up1_ne h2]
    exact xupd_ne _ _ _ h3
  obtain ⟨i1, i2, ⟨rk, i3⟩, i4, i5, i6⟩ := hI
  refine ⟨i1, by rw [e 0 (by omega) (by omega) (fun _ _ => by omega)]; exact i2, ⟨rk, fun q hq => ?_⟩, fun q hq => ?_, fun q hq => ?_, fun d hd => ?_⟩
  · rw [e (20 + q) (by omega) (by omega) (fun _ _ => by omega)]
    exact i3 q hq
  · rw [e (8 + q) (by omega) (by omega) (fun _ _ => by omega)]
    exact i4 q hq
  · by_cases hqU : q ∈ up G (nI k)
    · have e2 : expRow G k (32 + q) = xupd G (-1) (up G (nI k)) (32 + q) := by
        unfold expRow
        rw [up1_ne (by omega), up1_ne (by omega)]
        rfl
      rw [e2]
      rcases hin q hqU with ⟨-, h⟩ | ⟨c, h1, h2, h3⟩
      · exact Or.inl h
      · exact Or.inr ⟨c, h1, h2, by rw [e (20 + c) (by omega) (by omega) (fun _ _ => by omega)]; exact h3⟩
    · rw [e (32 + q) (by omega) (by omega) (fun x hx e => hqU (by rw [show q = x by omega]; exact hx))]
      rcases i5 q hq with h | ⟨c, h1, h2, h3⟩
      · exact Or.inl h
      · exact Or.inr ⟨c, h1, h2, by rw [e (20 + c) (by omega) (by omega) (fun _ _ => by omega)]; exact h3⟩
  · rw [e (5 + d) (by omega) (by omega) (fun _ _ => by omega)]
    exact i6 d hd
end EXP
theorem chg_expose (a b c : Int32) : Chg 101 a b c (p_X7_expose a) := by
  intro G n hI
  have hn := hI.1
  cases hf : isF n a with
  | false =>
    refine Or.inl ⟨3, a, reC fun σ hC => ⟨σ, Fr.refl, ?_⟩, reM fun σ hM => ⟨σ, Fm.refl, 0, ?_⟩⟩
    · rw [isR_e, c_refF1 hC hI hf, bS, nb1]
    · unfold p_X7_expose
      rw [m_isFarm hM hI, hf, bS, if_pos bf0, refuses_rf, bS]
  | true =>
    obtain ⟨k, hk, rfl⟩ := isF_of hn hf
    refine Or.inr ⟨nI (expN G k), _, n, hI.expose hk, ⟨fun σ hC => ⟨σ, ?_, Fr.refl⟩, fun σ hC => ?_⟩, fun σ hM => ⟨σ, Fm.refl, fun σk ek fk => ?_⟩⟩
    · rw [isR_e, c_refF0 hC hI hf, bS, nb0]
    · obtain ⟨σ1, e1, c1, f1⟩ := c_exposeFarm hC hI hk
      exact ⟨σ1, by rw [cO_e, e1, bS], c1, f1⟩
    · obtain ⟨σ1, e1, m1, f1⟩ := m_counted (hM.fm fk (by decide)) hI hk
      refine ⟨σ1, ?_, m1, f1.mono (by decide) (by decide)⟩
      unfold p_X7_expose
      rw [m_isFarm hM hI, hf, bS, if_neg bt0, ek, bS, e1, bS]

/-! THE LAW'S WRAPPERS -/
theorem nc_IllegalArgument_IndexOutOfBounds : Cond.not (.castable "java/lang/IllegalArgumentException" "java/lang/IndexOutOfBoundsException") ∈ flatC narrow_1 := by decide +kernel
theorem nc_UnsupportedOperation_IllegalArgument : Cond.not (.castable "java/lang/UnsupportedOperationException" "java/lang/IllegalArgumentException") ∈ flatC narrow_1 := by decide +kernel
theorem nc_NoSuchElement_IllegalArgument : Cond.not (.castable "java/util/NoSuchElementException" "java/lang/IllegalArgumentException") ∈ flatC narrow_1 := by decide +kernel
theorem nc_NoSuchElement_IndexOutOfBounds : Cond.not (.castable "java/util/NoSuchElementException" "java/lang/IndexOutOfBoundsException") ∈ flatC narrow_1 := by decide +kernel
theorem ml_L_7 : Cond.methodLink RL 7 yX6_farm ∈ GW := gwp 238 (by decide +kernel) rfl
theorem ml_L_15 : Cond.methodLink RL 15 yX6_lay ∈ GW := gwp 505 (by decide +kernel) rfl
theorem ml_L_19 : Cond.methodLink RL 19 yX6_giveUp ∈ GW := gwp 512 (by decide +kernel) rfl
theorem ml_L_22 : Cond.methodLink RL 22 yX6_root ∈ GW := gwp 519 (by decide +kernel) rfl
theorem ml_L_25 : Cond.methodLink RL 25 yX6_expose ∈ GW := gwp 526 (by decide +kernel) rfl
theorem ml_L_28 : Cond.methodLink RL 28 yX6_charge ∈ GW := gwp 533 (by decide +kernel) rfl
theorem ml_L_32 : Cond.methodLink RL 32 yX6_drive ∈ GW := gwp 540 (by decide +kernel) rfl
theorem ml_L_35 : Cond.methodLink RL 35 yX6_farmOf ∈ GW := gwp 572 (by decide +kernel) rfl
theorem ml_L_42 : Cond.methodLink RL 42 yX6_steps ∈ GW := gwp 629 (by decide +kernel) rfl
theorem ml_L_47 : Cond.methodLink RL 47 yX6_next ∈ GW := gwp 656 (by decide +kernel) rfl
theorem ml_L_50 : Cond.methodLink RL 50 yX6_onWay ∈ GW := gwp 668 (by decide +kernel) rfl
theorem ml_L_53 : Cond.methodLink RL 53 yX6_meet ∈ GW := gwp 675 (by decide +kernel) rfl
theorem ml_L_56 : Cond.methodLink RL 56 yX6_sum ∈ GW := gwp 686 (by decide +kernel) rfl
theorem ml_L_59 : Cond.methodLink RL 59 yX6_sumAgain ∈ GW := gwp 698 (by decide +kernel) rfl
theorem ml_L_62 : Cond.methodLink RL 62 yX6_dearest ∈ GW := gwp 705 (by decide +kernel) rfl
theorem ml_L_65 : Cond.methodLink RL 65 yX6_isJoined ∈ GW := gwp 712 (by decide +kernel) rfl
theorem ml_L_69 : Cond.methodLink RL 69 yX6_isTrack ∈ GW := gwp 719 (by decide +kernel) rfl
theorem ml_L_72 : Cond.methodLink RL 72 yX6_exposed ∈ GW := gwp 726 (by decide +kernel) rfl
theorem ml_L_75 : Cond.methodLink RL 75 yX6_wouldChange ∈ GW := gwp 734 (by decide +kernel) rfl
theorem ml_L_78 : Cond.methodLink RL 78 yX6_size ∈ GW := gwp 741 (by decide +kernel) rfl
theorem ml_L_81 : Cond.methodLink RL 81 yX6_farthest ∈ GW := gwp 748 (by decide +kernel) rfl
theorem ml_L_84 : Cond.methodLink RL 84 yX6_longest ∈ GW := gwp 759 (by decide +kernel) rfl
theorem ml_L_87 : Cond.methodLink RL 87 yX6_wouldSplit ∈ GW := gwp 766 (by decide +kernel) rfl
theorem ml_L_90 : Cond.methodLink RL 90 yX6_drover ∈ GW := gwp 774 (by decide +kernel) rfl
theorem ml_L_93 : Cond.methodLink RL 93 yX6_ranked ∈ GW := gwp 782 (by decide +kernel) rfl
theorem ml_L_96 : Cond.methodLink RL 96 yX6_append ∈ GW := gwp 799 (by decide +kernel) rfl
theorem ml_L_102 : Cond.methodLink RL 102 yX6_commands ∈ GW := gwp 834 (by decide +kernel) rfl
theorem ml_L_106 : Cond.methodLink RL 106 yX6_reason ∈ GW := gwp 958 (by decide +kernel) rfl
theorem ml_L_109 : Cond.methodLink RL 109 yX6_way ∈ GW := gwp 983 (by decide +kernel) rfl
theorem ml_L_112 : Cond.methodLink RL 112 yX6_tree ∈ GW := gwp 1007 (by decide +kernel) rfl
theorem ml_L_115 : Cond.methodLink RL 115 yX6_character ∈ GW := gwp 1017 (by decide +kernel) rfl
theorem ml_L_119 : Cond.methodLink RL 119 yX6_meanToll ∈ GW := gwp 1043 (by decide +kernel) rfl
theorem ml_L_124 : Cond.methodLink RL 124 yX6_paidShare ∈ GW := gwp 1061 (by decide +kernel) rfl
theorem ml_L_128 : Cond.methodLink RL 128 yX6_account ∈ GW := gwp 1077 (by decide +kernel) rfl
theorem ml_L_131 : Cond.methodLink RL 131 yX6_undo ∈ GW := gwp 1103 (by decide +kernel) rfl
theorem ml_L_134 : Cond.methodLink RL 134 yX6_restore ∈ GW := gwp 1115 (by decide +kernel) rfl
theorem cw_X6_farm : CwV RX6 yX6_farm cX6_farm 2 (some .int) 1 := ⟨gwp 241 (by decide +kernel) rfl, gwp 239 (by decide +kernel) rfl, gwp 240 (by decide +kernel) rfl, gwp 1 (by decide +kernel) rfl, by decide +kernel⟩
theorem cw_X6_lay : CwV RX6 yX6_lay cX6_lay 3 (some .int) 2 := ⟨gwp 508 (by decide +kernel) rfl, gwp 506 (by decide +kernel) rfl, gwp 507 (by decide +kernel) rfl, gwp 1 (by decide +kernel) rfl, by decide +kernel⟩
theorem cw_X6_giveUp : CwV RX6 yX6_giveUp cX6_giveUp 3 (some .int) 2 := ⟨gwp 515 (by decide +kernel) rfl, gwp 513 (by decide +kernel) rfl, gwp 514 (by decide +kernel) rfl, gwp 1 (by decide +kernel) rfl, by decide +kernel⟩
theorem cw_X6_root : CwV RX6 yX6_root cX6_root 2 (some .int) 1 := ⟨gwp 522 (by decide +kernel) rfl, gwp 520 (by decide +kernel) rfl, gwp 521 (by decide +kernel) rfl, gwp 1 (by decide +kernel) rfl, by decide +kernel⟩
theorem cw_X6_expose : CwV RX6 yX6_expose cX6_expose 2 (some .int) 1 := ⟨gwp 529 (by decide +kernel) rfl, gwp 527 (by decide +kernel) rfl, gwp 528 (by decide +kernel) rfl, gwp 1 (by decide +kernel) rfl, by decide +kernel⟩
theorem cw_X6_charge : CwV RX6 yX6_charge cX6_charge 4 (some .int) 3 := ⟨gwp 536 (by decide +kernel) rfl, gwp 534 (by decide +kernel) rfl, gwp 535 (by decide +kernel) rfl, gwp 1 (by decide +kernel) rfl, by decide +kernel⟩
theorem cw_X6_drive : CwV RX6 yX6_drive cX6_drive 3 (some .int) 2 := ⟨gwp 543 (by decide +kernel) rfl, gwp 541 (by decide +kernel) rfl, gwp 542 (by decide +kernel) rfl, gwp 1 (by decide +kernel) rfl, by decide +kernel⟩
theorem cw_X6_farmOf : CwV RX6 yX6_farmOf cX6_farmOf 3 (some .int) 2 := ⟨gwp 575 (by decide +kernel) rfl, gwp 573 (by decide +kernel) rfl, gwp 574 (by decide +kernel) rfl, gwp 1 (by decide +kernel) rfl, by decide +kernel⟩
theorem cw_X6_steps : CwV RX6 yX6_steps cX6_steps 3 (some .int) 2 := ⟨gwp 632 (by decide +kernel) rfl, gwp 630 (by decide +kernel) rfl, gwp 631 (by decide +kernel) rfl, gwp 1 (by decide +kernel) rfl, by decide +kernel⟩
theorem cw_X6_next : CwV RX6 yX6_next cX6_next 3 (some .int) 2 := ⟨gwp 659 (by decide +kernel) rfl, gwp 657 (by decide +kernel) rfl, gwp 658 (by decide +kernel) rfl, gwp 1 (by decide +kernel) rfl, by decide +kernel⟩
theorem cw_X6_onWay : CwV RX6 yX6_onWay cX6_onWay 4 (some .int) 3 := ⟨gwp 671 (by decide +kernel) rfl, gwp 669 (by decide +kernel) rfl, gwp 670 (by decide +kernel) rfl, gwp 1 (by decide +kernel) rfl, by decide +kernel⟩
theorem cw_X6_meet : CwV RX6 yX6_meet cX6_meet 3 (some .int) 2 := ⟨gwp 678 (by decide +kernel) rfl, gwp 676 (by decide +kernel) rfl, gwp 677 (by decide +kernel) rfl, gwp 1 (by decide +kernel) rfl, by decide +kernel⟩
theorem cw_X6_sum : CwV RX6 yX6_sum cX6_sum 5 (some .int) 2 := ⟨gwp 689 (by decide +kernel) rfl, gwp 687 (by decide +kernel) rfl, gwp 688 (by decide +kernel) rfl, gwp 1 (by decide +kernel) rfl, by decide +kernel⟩
theorem cw_X6_sumAgain : CwV RX6 yX6_sumAgain cX6_sumAgain 3 (some .int) 2 := ⟨gwp 701 (by decide +kernel) rfl, gwp 699 (by decide +kernel) rfl, gwp 700 (by decide +kernel) rfl, gwp 1 (by decide +kernel) rfl, by decide +kernel⟩
theorem cw_X6_dearest : CwV RX6 yX6_dearest cX6_dearest 5 (some .int) 2 := ⟨gwp 708 (by decide +kernel) rfl, gwp 706 (by decide +kernel) rfl, gwp 707 (by decide +kernel) rfl, gwp 1 (by decide +kernel) rfl, by decide +kernel⟩
theorem cw_X6_isJoined : CwV RX6 yX6_isJoined cX6_isJoined 3 (some .boolean) 2 := ⟨gwp 715 (by decide +kernel) rfl, gwp 713 (by decide +kernel) rfl, gwp 714 (by decide +kernel) rfl, gwp 1 (by decide +kernel) rfl, by decide +kernel⟩
theorem cw_X6_isTrack : CwV RX6 yX6_isTrack cX6_isTrack 3 (some .boolean) 2 := ⟨gwp 722 (by decide +kernel) rfl, gwp 720 (by decide +kernel) rfl, gwp 721 (by decide +kernel) rfl, gwp 1 (by decide +kernel) rfl, by decide +kernel⟩
theorem cw_X6_exposed : CwV RX6 yX6_exposed cX6_exposed 5 (some .int) 2 := ⟨gwp 729 (by decide +kernel) rfl, gwp 727 (by decide +kernel) rfl, gwp 728 (by decide +kernel) rfl, gwp 1 (by decide +kernel) rfl, by decide +kernel⟩
theorem cw_X6_wouldChange : CwV RX6 yX6_wouldChange cX6_wouldChange 2 (some .int) 1 := ⟨gwp 737 (by decide +kernel) rfl, gwp 735 (by decide +kernel) rfl, gwp 736 (by decide +kernel) rfl, gwp 1 (by decide +kernel) rfl, by decide +kernel⟩
theorem cw_X6_size : CwV RX6 yX6_size cX6_size 2 (some .int) 1 := ⟨gwp 744 (by decide +kernel) rfl, gwp 742 (by decide +kernel) rfl, gwp 743 (by decide +kernel) rfl, gwp 1 (by decide +kernel) rfl, by decide +kernel⟩
theorem cw_X6_farthest : CwV RX6 yX6_farthest cX6_farthest 2 (some .int) 1 := ⟨gwp 751 (by decide +kernel) rfl, gwp 749 (by decide +kernel) rfl, gwp 750 (by decide +kernel) rfl, gwp 1 (by decide +kernel) rfl, by decide +kernel⟩
theorem cw_X6_longest : CwV RX6 yX6_longest cX6_longest 3 (some .int) 1 := ⟨gwp 762 (by decide +kernel) rfl, gwp 760 (by decide +kernel) rfl, gwp 761 (by decide +kernel) rfl, gwp 1 (by decide +kernel) rfl, by decide +kernel⟩
theorem cw_X6_wouldSplit : CwV RX6 yX6_wouldSplit cX6_wouldSplit 4 (some .int) 2 := ⟨gwp 769 (by decide +kernel) rfl, gwp 767 (by decide +kernel) rfl, gwp 768 (by decide +kernel) rfl, gwp 1 (by decide +kernel) rfl, by decide +kernel⟩
theorem cw_X6_drover : CwV RX6 yX6_drover cX6_drover 2 (some .int) 1 := ⟨gwp 777 (by decide +kernel) rfl, gwp 775 (by decide +kernel) rfl, gwp 776 (by decide +kernel) rfl, gwp 1 (by decide +kernel) rfl, by decide +kernel⟩
theorem cw_X6_ranked : CwV RX6 yX6_ranked cX6_ranked 3 (some .int) 1 := ⟨gwp 785 (by decide +kernel) rfl, gwp 783 (by decide +kernel) rfl, gwp 784 (by decide +kernel) rfl, gwp 1 (by decide +kernel) rfl, by decide +kernel⟩
theorem cw_X6_append : CwV RX6 yX6_append cX6_append 2 (some .int) 1 := ⟨gwp 802 (by decide +kernel) rfl, gwp 800 (by decide +kernel) rfl, gwp 801 (by decide +kernel) rfl, gwp 1 (by decide +kernel) rfl, by decide +kernel⟩
theorem cw_X6_commands : CwV RX6 yX6_commands cX6_commands 3 (some .int) 0 := ⟨gwp 837 (by decide +kernel) rfl, gwp 835 (by decide +kernel) rfl, gwp 836 (by decide +kernel) rfl, gwp 1 (by decide +kernel) rfl, by decide +kernel⟩
theorem cw_X6_reason : CwV RX6 yX6_reason cX6_reason 2 (some .int) 1 := ⟨gwp 961 (by decide +kernel) rfl, gwp 959 (by decide +kernel) rfl, gwp 960 (by decide +kernel) rfl, gwp 1 (by decide +kernel) rfl, by decide +kernel⟩
theorem cw_X6_way : CwV RX6 yX6_way cX6_way 4 (some .int) 2 := ⟨gwp 986 (by decide +kernel) rfl, gwp 984 (by decide +kernel) rfl, gwp 985 (by decide +kernel) rfl, gwp 1 (by decide +kernel) rfl, by decide +kernel⟩
theorem cw_X6_tree : CwV RX6 yX6_tree cX6_tree 2 (some .int) 1 := ⟨gwp 1010 (by decide +kernel) rfl, gwp 1008 (by decide +kernel) rfl, gwp 1009 (by decide +kernel) rfl, gwp 1 (by decide +kernel) rfl, by decide +kernel⟩
theorem cw_X6_character : CwV RX6 yX6_character cX6_character 2 (some .char) 1 := ⟨gwp 1020 (by decide +kernel) rfl, gwp 1018 (by decide +kernel) rfl, gwp 1019 (by decide +kernel) rfl, gwp 1 (by decide +kernel) rfl, by decide +kernel⟩
theorem cw_X6_meanToll : CwV RX6 yX6_meanToll cX6_meanToll 2 (some .int) 0 := ⟨gwp 1046 (by decide +kernel) rfl, gwp 1044 (by decide +kernel) rfl, gwp 1045 (by decide +kernel) rfl, gwp 1 (by decide +kernel) rfl, by decide +kernel⟩
theorem cw_X6_paidShare : CwV RX6 yX6_paidShare cX6_paidShare 2 (some .double) 0 := ⟨gwp 1064 (by decide +kernel) rfl, gwp 1062 (by decide +kernel) rfl, gwp 1063 (by decide +kernel) rfl, gwp 1 (by decide +kernel) rfl, by decide +kernel⟩
theorem cw_X6_account : CwV RX6 yX6_account cX6_account 2 (some .int) 1 := ⟨gwp 1080 (by decide +kernel) rfl, gwp 1078 (by decide +kernel) rfl, gwp 1079 (by decide +kernel) rfl, gwp 1 (by decide +kernel) rfl, by decide +kernel⟩
theorem cw_X6_undo : CwV RX6 yX6_undo cX6_undo 1 (some .int) 0 := ⟨gwp 1106 (by decide +kernel) rfl, gwp 1104 (by decide +kernel) rfl, gwp 1105 (by decide +kernel) rfl, gwp 1 (by decide +kernel) rfl, by decide +kernel⟩
theorem cw_X6_restore : CwV RX6 yX6_restore cX6_restore 1 (some .int) 0 := ⟨gwp 1118 (by decide +kernel) rfl, gwp 1116 (by decide +kernel) rfl, gwp 1117 (by decide +kernel) rfl, gwp 1 (by decide +kernel) rfl, by decide +kernel⟩
def t_L_farm : List (Nat × Instr × Nat) := [(0, .aload_n 2, 1), (1, .iconst 0, 1), (2, .aload_n 0, 1), (3, .iload_n 1, 1), (4, .invokevirtual 7, 3), (7, .i2l, 1), (8, .lastore, 1), (9, .goto 6, 3), (12, .astore_n 3, 1), (13, .iconst 1, 1), (14, .ireturn, 1), (15, .iconst 0, 1), (16, .ireturn, 1)]
theorem dt_L_farm : tblOK cL_farm t_L_farm = true := by decide +kernel
def p_L_farm (a1 : Int32) (σ : Sg) : Option (Int32 × Sg) := (p_X6_farm a1 σ).bind fun r1 => sm r1.1 (fun v => some (0, sL r1.2 v.toInt64)) (fun E => if E = "java/lang/UnsupportedOperationException" then some (1, r1.2) else (none))
set_option maxRecDepth 20000 in
set_option maxHeartbeats 1000000 in
theorem s_L_farm {l : Launch} {D : va_G} {ty : Nat → ClassId} {ρ : Nat → Nat → Nat} {N0 : Nat} (S : St l ty ρ N0) (a1 : Int32) (σ : Sg) (r : (Int32 × Sg)) (h : p_L_farm a1 σ = some r) : AMet l D ty ρ N0 yL_farm (Cond.codeWith yL_farm cL_farm 4 (some .int) [(0, 9, 12, 13)] :: GW) (rmk 8 1 6) [.ref (ρ 0 0), .int a1, .ref (ρ 30 0)] σ (oI r.1) r.2 := by
  refine am_enterH S (by decide) rfl rfl (Nat.le_of_ble_eq_true rfl) ?_
  intro p e s m args below meth c K hT
  have dq := @tat _ _ dt_L_farm
  unfold p_L_farm at h
  obtain ⟨r1, h1, h⟩ := bnd h
  show WA p l e _ s m args below meth c D ty ρ N0 4 _ 0 [some (.ref (ρ 0 0)), some (.int a1), some (.ref (ρ 30 0)), none] [] σ 0 0
  refine a_aload_n K (dq 0 rfl) rfl rfl ?_
  refine a_iconst K (dq 1 rfl) (v := 0) rfl ?_
  refine a_aload_n K (dq 2 rfl) rfl rfl ?_
  refine a_iload_n K (dq 3 rfl) rfl rfl ?_
  refine a_callV K (s_X6_farm (ρ := ρ) S a1 σ r1 h1) v_0 rfl rfl cw_X6_farm.1 ml_L_7 cw_X6_farm.2.1 cw_X6_farm.2.2.1 cw_X6_farm.2.2.2.1 cw_X6_farm.2.2.2.2 (by decide) rfl (rest := [.int 0, .ref (ρ 30 0)]) rfl (Nat.le_of_ble_eq_true rfl) (dq 4 rfl) (by decide) (fun ov ho => ?_) (fun E ho => ?_)
  · rcases hr : r1.1 with v | E9
    · have h := sm_l hr h
      rw [hr] at ho
      cases ho
      show WA p l e _ s m args below meth c D ty ρ N0 4 _ 7 [some (.ref (ρ 0 0)), some (.int a1), some (.ref (ρ 30 0)), none] [.int v, .int 0, .ref (ρ 30 0)] r1.2 _ _
      refine a_i2l K (dq 5 rfl) ?_
      refine a_last K (dq 6 rfl) ?_
      refine a_goto K (tgt := 15) (dq 7 rfl) rfl ?_
      refine a_iconst K (dq 11 rfl) (v := 0) rfl ?_
      obtain rfl := Option.some.inj h
      exact a_iret K rfl rfl (dq 12 rfl) (Nat.le_of_ble_eq_true rfl) (Nat.le_of_ble_eq_true rfl) rfl rfl
    · rw [hr] at ho
      cases ho
  · rcases hr : r1.1 with v | E9
    · rw [hr] at ho
      cases ho
    · have h := sm_r hr h
      rw [hr] at ho
      cases ho
      by_cases c0 : E = "java/lang/UnsupportedOperationException"
      · have h := ite_t c0 h
        subst c0
        refine a_catch K hT [] ⟨0, 9, 12, 13⟩ [] rfl (fun z hz => nomatch hz) rfl (by decide) (name := "java/lang/UnsupportedOperationException") (gwp 237 (by decide +kernel) rfl) (List.mem_of_getElem? (i := 344) (by decide +kernel)) (fun q => ?_)
        refine a_astore_n K (dq 8 rfl) rfl (Nat.le_of_ble_eq_true rfl) (ls' := [some (.ref (ρ 0 0)), some (.int a1), some (.ref (ρ 30 0)), some (.ref q)]) rfl ?_
        refine a_iconst K (dq 9 rfl) (v := 1) rfl ?_
        obtain rfl := Option.some.inj h
        exact a_iret K rfl rfl (dq 10 rfl) (Nat.le_of_ble_eq_true rfl) (Nat.le_of_ble_eq_true rfl) rfl rfl
      · have h := ite_f c0 h
        cases h
theorem cw_L_farm : CwH RL yL_farm cL_farm 4 (some .int) [(0, 9, 12, 13)] 3 := ⟨gwp 236 (by decide +kernel) rfl, gwp 235 (by decide +kernel) rfl, gwp 0 (by decide +kernel) rfl, by decide +kernel⟩
def t_L_lay : List (Nat × Instr × Nat) := [(0, .aload_n 3, 1), (1, .iconst 0, 1), (2, .aload_n 0, 1), (3, .iload_n 1, 1), (4, .iload_n 2, 1), (5, .invokevirtual 15, 3), (8, .i2l, 1), (9, .lastore, 1), (10, .goto 7, 3), (13, .astore 4, 2), (15, .iconst 1, 1), (16, .ireturn, 1), (17, .iconst 0, 1), (18, .ireturn, 1)]
theorem dt_L_lay : tblOK cL_lay t_L_lay = true := by decide +kernel
def p_L_lay (a1 : Int32) (a2 : Int32) (σ : Sg) : Option (Int32 × Sg) := (p_X6_lay a1 a2 σ).bind fun r1 => sm r1.1 (fun v => some (0, sL r1.2 v.toInt64)) (fun E => if E = "java/lang/UnsupportedOperationException" then some (1, r1.2) else (none))
set_option maxRecDepth 20000 in
set_option maxHeartbeats 1000000 in
theorem s_L_lay {l : Launch} {D : va_G} {ty : Nat → ClassId} {ρ : Nat → Nat → Nat} {N0 : Nat} (S : St l ty ρ N0) (a1 : Int32) (a2 : Int32) (σ : Sg) (r : (Int32 × Sg)) (h : p_L_lay a1 a2 σ = some r) : AMet l D ty ρ N0 yL_lay (Cond.codeWith yL_lay cL_lay 5 (some .int) [(0, 10, 13, 13)] :: GW) (rmk 8 1 6) [.ref (ρ 0 0), .int a1, .int a2, .ref (ρ 30 0)] σ (oI r.1) r.2 := by
  refine am_enterH S (by decide) rfl rfl (Nat.le_of_ble_eq_true rfl) ?_
  intro p e s m args below meth c K hT
  have dq := @tat _ _ dt_L_lay
  unfold p_L_lay at h
  obtain ⟨r1, h1, h⟩ := bnd h
  show WA p l e _ s m args below meth c D ty ρ N0 5 _ 0 [some (.ref (ρ 0 0)), some (.int a1), some (.int a2), some (.ref (ρ 30 0)), none] [] σ 0 0
  refine a_aload_n K (dq 0 rfl) rfl rfl ?_
  refine a_iconst K (dq 1 rfl) (v := 0) rfl ?_
  refine a_aload_n K (dq 2 rfl) rfl rfl ?_
  refine a_iload_n K (dq 3 rfl) rfl rfl ?_
  refine a_iload_n K (dq 4 rfl) rfl rfl ?_
  refine a_callV K (s_X6_lay (ρ := ρ) S a1 a2 σ r1 h1) v_0 rfl rfl cw_X6_lay.1 ml_L_15 cw_X6_lay.2.1 cw_X6_lay.2.2.1 cw_X6_lay.2.2.2.1 cw_X6_lay.2.2.2.2 (by decide) rfl (rest := [.int 0, .ref (ρ 30 0)]) rfl (Nat.le_of_ble_eq_true rfl) (dq 5 rfl) (by decide) (fun ov ho => ?_) (fun E ho => ?_)
  · rcases hr : r1.1 with v | E9
    · have h := sm_l hr h
      rw [hr] at ho
      cases ho
      show WA p l e _ s m args below meth c D ty ρ N0 5 _ 8 [some (.ref (ρ 0 0)), some (.int a1), some (.int a2), some (.ref (ρ 30 0)), none] [.int v, .int 0, .ref (ρ 30 0)] r1.2 _ _
      refine a_i2l K (dq 6 rfl) ?_
      refine a_last K (dq 7 rfl) ?_
      refine a_goto K (tgt := 17) (dq 8 rfl) rfl ?_
      refine a_iconst K (dq 12 rfl) (v := 0) rfl ?_
      obtain rfl := Option.some.inj h
      exact a_iret K rfl rfl (dq 13 rfl) (Nat.le_of_ble_eq_true rfl) (Nat.le_of_ble_eq_true rfl) rfl rfl
    · rw [hr] at ho
      cases ho
  · rcases hr : r1.1 with v | E9
    · rw [hr] at ho
      cases ho
    · have h := sm_r hr h
      rw [hr] at ho
      cases ho
      by_cases c0 : E = "java/lang/UnsupportedOperationException"
      · have h := ite_t c0 h
        subst c0
        refine a_catch K hT [] ⟨0, 10, 13, 13⟩ [] rfl (fun z hz => nomatch hz) rfl (by decide) (name := "java/lang/UnsupportedOperationException") (gwp 237 (by decide +kernel) rfl) (List.mem_of_getElem? (i := 344) (by decide +kernel)) (fun q => ?_)
        refine a_astore K (dq 9 rfl) (Nat.le_of_ble_eq_true rfl) (ls' := [some (.ref (ρ 0 0)), some (.int a1), some (.int a2), some (.ref (ρ 30 0)), some (.ref q)]) rfl ?_
        refine a_iconst K (dq 10 rfl) (v := 1) rfl ?_
        obtain rfl := Option.some.inj h
        exact a_iret K rfl rfl (dq 11 rfl) (Nat.le_of_ble_eq_true rfl) (Nat.le_of_ble_eq_true rfl) rfl rfl
      · have h := ite_f c0 h
        cases h
theorem cw_L_lay : CwH RL yL_lay cL_lay 5 (some .int) [(0, 10, 13, 13)] 4 := ⟨gwp 504 (by decide +kernel) rfl, gwp 503 (by decide +kernel) rfl, gwp 0 (by decide +kernel) rfl, by decide +kernel⟩
def t_L_giveUp : List (Nat × Instr × Nat) := [(0, .aload_n 3, 1), (1, .iconst 0, 1), (2, .aload_n 0, 1), (3, .iload_n 1, 1), (4, .iload_n 2, 1), (5, .invokevirtual 19, 3), (8, .i2l, 1), (9, .lastore, 1), (10, .goto 7, 3), (13, .astore 4, 2), (15, .iconst 1, 1), (16, .ireturn, 1), (17, .iconst 0, 1), (18, .ireturn, 1)]
theorem dt_L_giveUp : tblOK cL_giveUp t_L_giveUp = true := by decide +kernel
def p_L_giveUp (a1 : Int32) (a2 : Int32) (σ : Sg) : Option (Int32 × Sg) := (p_X6_giveUp a1 a2 σ).bind fun r1 => sm r1.1 (fun v => some (0, sL r1.2 v.toInt64)) (fun E => if E = "java/lang/UnsupportedOperationException" then some (1, r1.2) else (none))
set_option maxRecDepth 20000 in
set_option maxHeartbeats 1000000 in
theorem s_L_giveUp {l : Launch} {D : va_G} {ty : Nat → ClassId} {ρ : Nat → Nat → Nat} {N0 : Nat} (S : St l ty ρ N0) (a1 : Int32) (a2 : Int32) (σ : Sg) (r : (Int32 × Sg)) (h : p_L_giveUp a1 a2 σ = some r) : AMet l D ty ρ N0 yL_giveUp (Cond.codeWith yL_giveUp cL_giveUp 5 (some .int) [(0, 10, 13, 13)] :: GW) (rmk 8 1 6) [.ref (ρ 0 0), .int a1, .int a2, .ref (ρ 30 0)] σ (oI r.1) r.2 := by
  refine am_enterH S (by decide) rfl rfl (Nat.le_of_ble_eq_true rfl) ?_
  intro p e s m args below meth c K hT
  have dq := @tat _ _ dt_L_giveUp
  unfold p_L_giveUp at h
  obtain ⟨r1, h1, h⟩ := bnd h
  show WA p l e _ s m args below meth c D ty ρ N0 5 _ 0 [some (.ref (ρ 0 0)), some (.int a1), some (.int a2), some (.ref (ρ 30 0)), none] [] σ 0 0
  refine a_aload_n K (dq 0 rfl) rfl rfl ?_
  refine a_iconst K (dq 1 rfl) (v := 0) rfl ?_
  refine a_aload_n K (dq 2 rfl) rfl rfl ?_
  refine a_iload_n K (dq 3 rfl) rfl rfl ?_
  refine a_iload_n K (dq 4 rfl) rfl rfl ?_
  refine a_callV K (s_X6_giveUp (ρ := ρ) S a1 a2 σ r1 h1) v_0 rfl rfl cw_X6_giveUp.1 ml_L_19 cw_X6_giveUp.2.1 cw_X6_giveUp.2.2.1 cw_X6_giveUp.2.2.2.1 cw_X6_giveUp.2.2.2.2 (by decide) rfl (rest := [.int 0, .ref (ρ 30 0)]) rfl (Nat.le_of_ble_eq_true rfl) (dq 5 rfl) (by decide) (fun ov ho => ?_) (fun E ho => ?_)
  · rcases hr : r1.1 with v | E9
    · have h := sm_l hr h
      rw [hr] at ho
      cases ho
      show WA p l e _ s m args below meth c D ty ρ N0 5 _ 8 [some (.ref (ρ 0 0)), some (.int a1), some (.int a2), some (.ref (ρ 30 0)), none] [.int v, .int 0, .ref (ρ 30 0)] r1.2 _ _
      refine a_i2l K (dq 6 rfl) ?_
      refine a_last K (dq 7 rfl) ?_
      refine a_goto K (tgt := 17) (dq 8 rfl) rfl ?_
      refine a_iconst K (dq 12 rfl) (v := 0) rfl ?_
      obtain rfl := Option.some.inj h
      exact a_iret K rfl rfl (dq 13 rfl) (Nat.le_of_ble_eq_true rfl) (Nat.le_of_ble_eq_true rfl) rfl rfl
    · rw [hr] at ho
      cases ho
  · rcases hr : r1.1 with v | E9
    · rw [hr] at ho
      cases ho
    · have h := sm_r hr h
      rw [hr] at ho
      cases ho
      by_cases c0 : E = "java/lang/UnsupportedOperationException"
      · have h := ite_t c0 h
        subst c0
        refine a_catch K hT [] ⟨0, 10, 13, 13⟩ [] rfl (fun z hz => nomatch hz) rfl (by decide) (name := "java/lang/UnsupportedOperationException") (gwp 237 (by decide +kernel) rfl) (List.mem_of_getElem? (i := 344) (by decide +kernel)) (fun q => ?_)
        refine a_astore K (dq 9 rfl) (Nat.le_of_ble_eq_true rfl) (ls' := [some (.ref (ρ 0 0)), some (.int a1), some (.int a2), some (.ref (ρ 30 0)), some (.ref q)]) rfl ?_
        refine a_iconst K (dq 10 rfl) (v := 1) rfl ?_
        obtain rfl := Option.some.inj h
        exact a_iret K rfl rfl (dq 11 rfl) (Nat.le_of_ble_eq_true rfl) (Nat.le_of_ble_eq_true rfl) rfl rfl
      · have h := ite_f c0 h
        cases h
theorem cw_L_giveUp : CwH RL yL_giveUp cL_giveUp 5 (some .int) [(0, 10, 13, 13)] 4 := ⟨gwp 511 (by decide +kernel) rfl, gwp 510 (by decide +kernel) rfl, gwp 0 (by decide +kernel) rfl, by decide +kernel⟩
def t_L_root : List (Nat × Instr × Nat) := [(0, .aload_n 2, 1), (1, .iconst 0, 1), (2, .aload_n 0, 1), (3, .iload_n 1, 1), (4, .invokevirtual 22, 3), (7, .i2l, 1), (8, .lastore, 1), (9, .goto 6, 3), (12, .astore_n 3, 1), (13, .iconst 1, 1), (14, .ireturn, 1), (15, .iconst 0, 1), (16, .ireturn, 1)]
theorem dt_L_root : tblOK cL_root t_L_root = true := by decide +kernel
def p_L_root (a1 : Int32) (σ : Sg) : Option (Int32 × Sg) := (p_X6_root a1 σ).bind fun r1 => sm r1.1 (fun v => some (0, sL r1.2 v.toInt64)) (fun E => if E = "java/lang/UnsupportedOperationException" then some (1, r1.2) else (none))
set_option maxRecDepth 20000 in
set_option maxHeartbeats 1000000 in
theorem s_L_root {l : Launch} {D : va_G} {ty : Nat → ClassId} {ρ : Nat → Nat → Nat} {N0 : Nat} (S : St l ty ρ N0) (a1 : Int32) (σ : Sg) (r : (Int32 × Sg)) (h : p_L_root a1 σ = some r) : AMet l D ty ρ N0 yL_root (Cond.codeWith yL_root cL_root 4 (some .int) [(0, 9, 12, 13)] :: GW) (rmk 8 1 6) [.ref (ρ 0 0), .int a1, .ref (ρ 30 0)] σ (oI r.1) r.2 := by
  refine am_enterH S (by decide) rfl rfl (Nat.le_of_ble_eq_true rfl) ?_
  intro p e s m args below meth c K hT
  have dq := @tat _ _ dt_L_root
  unfold p_L_root at h
  obtain ⟨r1, h1, h⟩ := bnd h
  show WA p l e _ s m args below meth c D ty ρ N0 4 _ 0 [some (.ref (ρ 0 0)), some (.int a1), some (.ref (ρ 30 0)), none] [] σ 0 0
  refine a_aload_n K (dq 0 rfl) rfl rfl ?_
  refine a_iconst K (dq 1 rfl) (v := 0) rfl ?_
  refine a_aload_n K (dq 2 rfl) rfl rfl ?_
  refine a_iload_n K (dq 3 rfl) rfl rfl ?_
  refine a_callV K (s_X6_root (ρ := ρ) S a1 σ r1 h1) v_0 rfl rfl cw_X6_root.1 ml_L_22 cw_X6_root.2.1 cw_X6_root.2.2.1 cw_X6_root.2.2.2.1 cw_X6_root.2.2.2.2 (by decide) rfl (rest := [.int 0, .ref (ρ 30 0)]) rfl (Nat.le_of_ble_eq_true rfl) (dq 4 rfl) (by decide) (fun ov ho => ?_) (fun E ho => ?_)
  · rcases hr : r1.1 with v | E9
    · have h := sm_l hr h
      rw [hr] at ho
      cases ho
      show WA p l e _ s m args below meth c D ty ρ N0 4 _ 7 [some (.ref (ρ 0 0)), some (.int a1), some (.ref (ρ 30 0)), none] [.int v, .int 0, .ref (ρ 30 0)] r1.2 _ _
      refine a_i2l K (dq 5 rfl) ?_
      refine a_last K (dq 6 rfl) ?_
      refine a_goto K (tgt := 15) (dq 7 rfl) rfl ?_
      refine a_iconst K (dq 11 rfl) (v := 0) rfl ?_
      obtain rfl := Option.some.inj h
      exact a_iret K rfl rfl (dq 12 rfl) (Nat.le_of_ble_eq_true rfl) (Nat.le_of_ble_eq_true rfl) rfl rfl
    · rw [hr] at ho
      cases ho
  · rcases hr : r1.1 with v | E9
    · rw [hr] at ho
      cases ho
    · have h := sm_r hr h
      rw [hr] at ho
      cases ho
      by_cases c0 : E = "java/lang/UnsupportedOperationException"
      · have h := ite_t c0 h
        subst c0
        refine a_catch K hT [] ⟨0, 9, 12, 13⟩ [] rfl (fun z hz => nomatch hz) rfl (by decide) (name := "java/lang/UnsupportedOperationException") (gwp 237 (by decide +kernel) rfl) (List.mem_of_getElem? (i := 344) (by decide +kernel)) (fun q => ?_)
        refine a_astore_n K (dq 8 rfl) rfl (Nat.le_of_ble_eq_true rfl) (ls' := [some (.ref (ρ 0 0)), some (.int a1), some (.ref (ρ 30 0)), some (.ref q)]) rfl ?_
        refine a_iconst K (dq 9 rfl) (v := 1) rfl ?_
        obtain rfl := Option.some.inj h
        exact a_iret K rfl rfl (dq 10 rfl) (Nat.le_of_ble_eq_true rfl) (Nat.le_of_ble_eq_true rfl) rfl rfl
      · have h := ite_f c0 h
        cases h
theorem cw_L_root : CwH RL yL_root cL_root 4 (some .int) [(0, 9, 12, 13)] 3 := ⟨gwp 518 (by decide +kernel) rfl, gwp 517 (by decide +kernel) rfl, gwp 0 (by decide +kernel) rfl, by decide +kernel⟩
def t_L_expose : List (Nat × Instr × Nat) := [(0, .aload_n 2, 1), (1, .iconst 0, 1), (2, .aload_n 0, 1), (3, .iload_n 1, 1), (4, .invokevirtual 25, 3), (7, .i2l, 1), (8, .lastore, 1), (9, .goto 6, 3), (12, .astore_n 3, 1), (13, .iconst 1, 1), (14, .ireturn, 1), (15, .iconst 0, 1), (16, .ireturn, 1)]
theorem dt_L_expose : tblOK cL_expose t_L_expose = true := by decide +kernel
def p_L_expose (a1 : Int32) (σ : Sg) : Option (Int32 × Sg) := (p_X6_expose a1 σ).bind fun r1 => sm r1.1 (fun v => some (0, sL r1.2 v.toInt64)) (fun E => if E = "java/lang/UnsupportedOperationException" then some (1, r1.2) else (none))
set_option maxRecDepth 20000 in
set_option maxHeartbeats 1000000 in
theorem s_L_expose {l : Launch} {D : va_G} {ty : Nat → ClassId} {ρ : Nat → Nat → Nat} {N0 : Nat} (S : St l ty ρ N0) (a1 : Int32) (σ : Sg) (r : (Int32 × Sg)) (h : p_L_expose a1 σ = some r) : AMet l D ty ρ N0 yL_expose (Cond.codeWith yL_expose cL_expose 4 (some .int) [(0, 9, 12, 13)] :: GW) (rmk 8 1 6) [.ref (ρ 0 0), .int a1, .ref (ρ 30 0)] σ (oI r.1) r.2 := by
  refine am_enterH S (by decide) rfl rfl (Nat.le_of_ble_eq_true rfl) ?_
  intro p e s m args below meth c K hT
  have dq := @tat _ _ dt_L_expose
  unfold p_L_expose at h
  obtain ⟨r1, h1, h⟩ := bnd h
  show WA p l e _ s m args below meth c D ty ρ N0 4 _ 0 [some (.ref (ρ 0 0)), some (.int a1), some (.ref (ρ 30 0)), none] [] σ 0 0
  refine a_aload_n K (dq 0 rfl) rfl rfl ?_
  refine a_iconst K (dq 1 rfl) (v := 0) rfl ?_
  refine a_aload_n K (dq 2 rfl) rfl rfl ?_
  refine a_iload_n K (dq 3 rfl) rfl rfl ?_
  refine a_callV K (s_X6_expose (ρ := ρ) S a1 σ r1 h1) v_0 rfl rfl cw_X6_expose.1 ml_L_25 cw_X6_expose.2.1 cw_X6_expose.2.2.1 cw_X6_expose.2.2.2.1 cw_X6_expose.2.2.2.2 (by decide) rfl (rest := [.int 0, .ref (ρ 30 0)]) rfl (Nat.le_of_ble_eq_true rfl) (dq 4 rfl) (by decide) (fun ov ho => ?_) (fun E ho => ?_)
  · rcases hr : r1.1 with v | E9
    · have h := sm_l hr h
      rw [hr] at ho
      cases ho
      show WA p l e _ s m args below meth c D ty ρ N0 4 _ 7 [some (.ref (ρ 0 0)), some (.int a1), some (.ref (ρ 30 0)), none] [.int v, .int 0, .ref (ρ 30 0)] r1.2 _ _
      refine a_i2l K (dq 5 rfl) ?_
      refine a_last K (dq 6 rfl) ?_
      refine a_goto K (tgt := 15) (dq 7 rfl) rfl ?_
      refine a_iconst K (dq 11 rfl) (v := 0) rfl ?_
      obtain rfl := Option.some.inj h
      exact a_iret K rfl rfl (dq 12 rfl) (Nat.le_of_ble_eq_true rfl) (Nat.le_of_ble_eq_true rfl) rfl rfl
    · rw [hr] at ho
      cases ho
  · rcases hr : r1.1 with v | E9
    · rw [hr] at ho
      cases ho
    · have h := sm_r hr h
      rw [hr] at ho
      cases ho
      by_cases c0 : E = "java/lang/UnsupportedOperationException"
      · have h := ite_t c0 h
        subst c0
        refine a_catch K hT [] ⟨0, 9, 12, 13⟩ [] rfl (fun z hz => nomatch hz) rfl (by decide) (name := "java/lang/UnsupportedOperationException") (gwp 237 (by decide +kernel) rfl) (List.mem_of_getElem? (i := 344) (by decide +kernel)) (fun q => ?_)
        refine a_astore_n K (dq 8 rfl) rfl (Nat.le_of_ble_eq_true rfl) (ls' := [some (.ref (ρ 0 0)), some (.int a1), some (.ref (ρ 30 0)), some (.ref q)]) rfl ?_
        refine a_iconst K (dq 9 rfl) (v := 1) rfl ?_
        obtain rfl := Option.some.inj h
        exact a_iret K rfl rfl (dq 10 rfl) (Nat.le_of_ble_eq_true rfl) (Nat.le_of_ble_eq_true rfl) rfl rfl
      · have h := ite_f c0 h
        cases h
theorem cw_L_expose : CwH RL yL_expose cL_expose 4 (some .int) [(0, 9, 12, 13)] 3 := ⟨gwp 525 (by decide +kernel) rfl, gwp 524 (by decide +kernel) rfl, gwp 0 (by decide +kernel) rfl, by decide +kernel⟩
def t_L_charge : List (Nat × Instr × Nat) := [(0, .aload 4, 2), (2, .iconst 0, 1), (3, .aload_n 0, 1), (4, .iload_n 1, 1), (5, .iload_n 2, 1), (6, .iload_n 3, 1), (7, .invokevirtual 28, 3), (10, .i2l, 1), (11, .lastore, 1), (12, .goto 7, 3), (15, .astore 5, 2), (17, .iconst 1, 1), (18, .ireturn, 1), (19, .iconst 0, 1), (20, .ireturn, 1)]
theorem dt_L_charge : tblOK cL_charge t_L_charge = true := by decide +kernel
def p_L_charge (a1 : Int32) (a2 : Int32) (a3 : Int32) (σ : Sg) : Option (Int32 × Sg) := (p_X6_charge a1 a2 a3 σ).bind fun r1 => sm r1.1 (fun v => some (0, sL r1.2 v.toInt64)) (fun E => if E = "java/lang/UnsupportedOperationException" then some (1, r1.2) else (none))
set_option maxRecDepth 20000 in
set_option maxHeartbeats 1000000 in
theorem s_L_charge {l : Launch} {D : va_G} {ty : Nat → ClassId} {ρ : Nat → Nat → Nat} {N0 : Nat} (S : St l ty ρ N0) (a1 : Int32) (a2 : Int32) (a3 : Int32) (σ : Sg) (r : (Int32 × Sg)) (h : p_L_charge a1 a2 a3 σ = some r) : AMet l D ty ρ N0 yL_charge (Cond.codeWith yL_charge cL_charge 6 (some .int) [(0, 12, 15, 13)] :: GW) (rmk 8 1 6) [.ref (ρ 0 0), .int a1, .int a2, .int a3, .ref (ρ 30 0)] σ (oI r.1) r.2 := by
  refine am_enterH S (by decide) rfl rfl (Nat.le_of_ble_eq_true rfl) ?_
  intro p e s m args below meth c K hT
  have dq := @tat _ _ dt_L_charge
  unfold p_L_charge at h
  obtain ⟨r1, h1, h⟩ := bnd h
  show WA p l e _ s m args below meth c D ty ρ N0 6 _ 0 [some (.ref (ρ 0 0)), some (.int a1), some (.int a2), some (.int a3), some (.ref (ρ 30 0)), none] [] σ 0 0
  refine a_aload K (dq 0 rfl) rfl ?_
  refine a_iconst K (dq 1 rfl) (v := 0) rfl ?_
  refine a_aload_n K (dq 2 rfl) rfl rfl ?_
  refine a_iload_n K (dq 3 rfl) rfl rfl ?_
  refine a_iload_n K (dq 4 rfl) rfl rfl ?_
  refine a_iload_n K (dq 5 rfl) rfl rfl ?_
  refine a_callV K (s_X6_charge (ρ := ρ) S a1 a2 a3 σ r1 h1) v_0 rfl rfl cw_X6_charge.1 ml_L_28 cw_X6_charge.2.1 cw_X6_charge.2.2.1 cw_X6_charge.2.2.2.1 cw_X6_charge.2.2.2.2 (by decide) rfl (rest := [.int 0, .ref (ρ 30 0)]) rfl (Nat.le_of_ble_eq_true rfl) (dq 6 rfl) (by decide) (fun ov ho => ?_) (fun E ho => ?_)
  · rcases hr : r1.1 with v | E9
    · have h := sm_l hr h
      rw [hr] at ho
      cases ho
      show WA p l e _ s m args below meth c D ty ρ N0 6 _ 10 [some (.ref (ρ 0 0)), some (.int a1), some (.int a2), some (.int a3), some (.ref (ρ 30 0)), none] [.int v, .int 0, .ref (ρ 30 0)] r1.2 _ _
      refine a_i2l K (dq 7 rfl) ?_
      refine a_last K (dq 8 rfl) ?_
      refine a_goto K (tgt := 19) (dq 9 rfl) rfl ?_
      refine a_iconst K (dq 13 rfl) (v := 0) rfl ?_
      obtain rfl := Option.some.inj h
      exact a_iret K rfl rfl (dq 14 rfl) (Nat.le_of_ble_eq_true rfl) (Nat.le_of_ble_eq_true rfl) rfl rfl
    · rw [hr] at ho
      cases ho
  · rcases hr : r1.1 with v | E9
    · rw [hr] at ho
      cases ho
    · have h := sm_r hr h
      rw [hr] at ho
      cases ho
      by_cases c0 : E = "java/lang/UnsupportedOperationException"
      · have h := ite_t c0 h
        subst c0
        refine a_catch K hT [] ⟨0, 12, 15, 13⟩ [] rfl (fun z hz => nomatch hz) rfl (by decide) (name := "java/lang/UnsupportedOperationException") (gwp 237 (by decide +kernel) rfl) (List.mem_of_getElem? (i := 344) (by decide +kernel)) (fun q => ?_)
        refine a_astore K (dq 10 rfl) (Nat.le_of_ble_eq_true rfl) (ls' := [some (.ref (ρ 0 0)), some (.int a1), some (.int a2), some (.int a3), some (.ref (ρ 30 0)), some (.ref q)]) rfl ?_
        refine a_iconst K (dq 11 rfl) (v := 1) rfl ?_
        obtain rfl := Option.some.inj h
        exact a_iret K rfl rfl (dq 12 rfl) (Nat.le_of_ble_eq_true rfl) (Nat.le_of_ble_eq_true rfl) rfl rfl
      · have h := ite_f c0 h
        cases h
theorem cw_L_charge : CwH RL yL_charge cL_charge 6 (some .int) [(0, 12, 15, 13)] 5 := ⟨gwp 532 (by decide +kernel) rfl, gwp 531 (by decide +kernel) rfl, gwp 0 (by decide +kernel) rfl, by decide +kernel⟩
def t_L_drive : List (Nat × Instr × Nat) := [(0, .aload_n 3, 1), (1, .iconst 0, 1), (2, .aload_n 0, 1), (3, .iload_n 1, 1), (4, .iload_n 2, 1), (5, .invokevirtual 32, 3), (8, .i2l, 1), (9, .lastore, 1), (10, .goto 7, 3), (13, .astore 4, 2), (15, .iconst 1, 1), (16, .ireturn, 1), (17, .iconst 0, 1), (18, .ireturn, 1)]
theorem dt_L_drive : tblOK cL_drive t_L_drive = true := by decide +kernel
def p_L_drive (a1 : Int32) (a2 : Int32) (σ : Sg) : Option (Int32 × Sg) := (p_X6_drive a1 a2 σ).bind fun r1 => sm r1.1 (fun v => some (0, sL r1.2 v.toInt64)) (fun E => if E = "java/lang/UnsupportedOperationException" then some (1, r1.2) else (none))
set_option maxRecDepth 20000 in
set_option maxHeartbeats 1000000 in
theorem s_L_drive {l : Launch} {D : va_G} {ty : Nat → ClassId} {ρ : Nat → Nat → Nat} {N0 : Nat} (S : St l ty ρ N0) (a1 : Int32) (a2 : Int32) (σ : Sg) (r : (Int32 × Sg)) (h : p_L_drive a1 a2 σ = some r) : AMet l D ty ρ N0 yL_drive (Cond.codeWith yL_drive cL_drive 5 (some .int) [(0, 10, 13, 13)] :: GW) (rmk 8 1 6) [.ref (ρ 0 0), .int a1, .int a2, .ref (ρ 30 0)] σ (oI r.1) r.2 := by
  refine am_enterH S (by decide) rfl rfl (Nat.le_of_ble_eq_true rfl) ?_
  intro p e s m args below meth c K hT
  have dq := @tat _ _ dt_L_drive
  unfold p_L_drive at h
  obtain ⟨r1, h1, h⟩ := bnd h
  show WA p l e _ s m args below meth c D ty ρ N0 5 _ 0 [some (.ref (ρ 0 0)), some (.int a1), some (.int a2), some (.ref (ρ 30 0)), none] [] σ 0 0
  refine a_aload_n K (dq 0 rfl) rfl rfl ?_
  refine a_iconst K (dq 1 rfl) (v := 0) rfl ?_
  refine a_aload_n K (dq 2 rfl) rfl rfl ?_
  refine a_iload_n K (dq 3 rfl) rfl rfl ?_
  refine a_iload_n K (dq 4 rfl) rfl rfl ?_
  refine a_callV K (s_X6_drive (ρ := ρ) S a1 a2 σ r1 h1) v_0 rfl rfl cw_X6_drive.1 ml_L_32 cw_X6_drive.2.1 cw_X6_drive.2.2.1 cw_X6_drive.2.2.2.1 cw_X6_drive.2.2.2.2 (by decide) rfl (rest := [.int 0, .ref (ρ 30 0)]) rfl (Nat.le_of_ble_eq_true rfl) (dq 5 rfl) (by decide) (fun ov ho => ?_) (fun E ho => ?_)
  · rcases hr : r1.1 with v | E9
    · have h := sm_l hr h
      rw [hr] at ho
      cases ho
      show WA p l e _ s m args below meth c D ty ρ N0 5 _ 8 [some (.ref (ρ 0 0)), some (.int a1), some (.int a2), some (.ref (ρ 30 0)), none] [.int v, .int 0, .ref (ρ 30 0)] r1.2 _ _
      refine a_i2l K (dq 6 rfl) ?_
      refine a_last K (dq 7 rfl) ?_
      refine a_goto K (tgt := 17) (dq 8 rfl) rfl ?_
      refine a_iconst K (dq 12 rfl) (v := 0) rfl ?_
      obtain rfl := Option.some.inj h
      exact a_iret K rfl rfl (dq 13 rfl) (Nat.le_of_ble_eq_true rfl) (Nat.le_of_ble_eq_true rfl) rfl rfl
    · rw [hr] at ho
      cases ho
  · rcases hr : r1.1 with v | E9
    · rw [hr] at ho
      cases ho
    · have h := sm_r hr h
      rw [hr] at ho
      cases ho
      by_cases c0 : E = "java/lang/UnsupportedOperationException"
      · have h := ite_t c0 h
        subst c0
        refine a_catch K hT [] ⟨0, 10, 13, 13⟩ [] rfl (fun z hz => nomatch hz) rfl (by decide) (name := "java/lang/UnsupportedOperationException") (gwp 237 (by decide +kernel) rfl) (List.mem_of_getElem? (i := 344) (by decide +kernel)) (fun q => ?_)
        refine a_astore K (dq 9 rfl) (Nat.le_of_ble_eq_true rfl) (ls' := [some (.ref (ρ 0 0)), some (.int a1), some (.int a2), some (.ref (ρ 30 0)), some (.ref q)]) rfl ?_
        refine a_iconst K (dq 10 rfl) (v := 1) rfl ?_
        obtain rfl := Option.some.inj h
        exact a_iret K rfl rfl (dq 11 rfl) (Nat.le_of_ble_eq_true rfl) (Nat.le_of_ble_eq_true rfl) rfl rfl
      · have h := ite_f c0 h
        cases h
theorem cw_L_drive : CwH RL yL_drive cL_drive 5 (some .int) [(0, 10, 13, 13)] 4 := ⟨gwp 539 (by decide +kernel) rfl, gwp 538 (by decide +kernel) rfl, gwp 0 (by decide +kernel) rfl, by decide +kernel⟩
def t_L_farmOf : List (Nat × Instr × Nat) := [(0, .aload_n 3, 1), (1, .iconst 0, 1), (2, .aload_n 0, 1), (3, .iload_n 1, 1), (4, .iload_n 2, 1), (5, .invokevirtual 35, 3), (8, .i2l, 1), (9, .lastore, 1), (10, .goto 11, 3), (13, .astore 4, 2), (15, .iconst 1, 1), (16, .ireturn, 1), (17, .astore 4, 2), (19, .iconst 2, 1), (20, .ireturn, 1), (21, .iconst 0, 1), (22, .ireturn, 1)]
theorem dt_L_farmOf : tblOK cL_farmOf t_L_farmOf = true := by decide +kernel
def p_L_farmOf (a1 : Int32) (a2 : Int32) (σ : Sg) : Option (Int32 × Sg) := (p_X6_farmOf a1 a2 σ).bind fun r1 => sm r1.1 (fun v => some (0, sL r1.2 v.toInt64)) (fun E => if E = "java/lang/IndexOutOfBoundsException" then some (1, r1.2) else (if E = "java/lang/IllegalArgumentException" then some (2, r1.2) else (none)))
set_option maxRecDepth 20000 in
set_option maxHeartbeats 1000000 in
theorem s_L_farmOf {l : Launch} {D : va_G} {ty : Nat → ClassId} {ρ : Nat → Nat → Nat} {N0 : Nat} (S : St l ty ρ N0) (a1 : Int32) (a2 : Int32) (σ : Sg) (r : (Int32 × Sg)) (h : p_L_farmOf a1 a2 σ = some r) : AMet l D ty ρ N0 yL_farmOf (Cond.codeWith yL_farmOf cL_farmOf 5 (some .int) [(0, 10, 13, 38), (0, 10, 17, 40)] :: GW) (rmk 5 2 12) [.ref (ρ 0 0), .int a1, .int a2, .ref (ρ 30 0)] σ (oI r.1) r.2 := by
  refine am_enterH S (by decide) rfl rfl (Nat.le_of_ble_eq_true rfl) ?_
  intro p e s m args below meth c K hT
  have dq := @tat _ _ dt_L_farmOf
  unfold p_L_farmOf at h
  obtain ⟨r1, h1, h⟩ := bnd h
  show WA p l e _ s m args below meth c D ty ρ N0 5 _ 0 [some (.ref (ρ 0 0)), some (.int a1), some (.int a2), some (.ref (ρ 30 0)), none] [] σ 0 0
  refine a_aload_n K (dq 0 rfl) rfl rfl ?_
  refine a_iconst K (dq 1 rfl) (v := 0) rfl ?_
  refine a_aload_n K (dq 2 rfl) rfl rfl ?_
  refine a_iload_n K (dq 3 rfl) rfl rfl ?_
  refine a_iload_n K (dq 4 rfl) rfl rfl ?_
  refine a_callV K (s_X6_farmOf (ρ := ρ) S a1 a2 σ r1 h1) v_0 rfl rfl cw_X6_farmOf.1 ml_L_35 cw_X6_farmOf.2.1 cw_X6_farmOf.2.2.1 cw_X6_farmOf.2.2.2.1 cw_X6_farmOf.2.2.2.2 (by decide) rfl (rest := [.int 0, .ref (ρ 30 0)]) rfl (Nat.le_of_ble_eq_true rfl) (dq 5 rfl) (by decide) (fun ov ho => ?_) (fun E ho => ?_)
  · rcases hr : r1.1 with v | E9
    · have h := sm_l hr h
      rw [hr] at ho
      cases ho
      show WA p l e _ s m args below meth c D ty ρ N0 5 _ 8 [some (.ref (ρ 0 0)), some (.int a1), some (.int a2), some (.ref (ρ 30 0)), none] [.int v, .int 0, .ref (ρ 30 0)] r1.2 _ _
      refine a_i2l K (dq 6 rfl) ?_
      refine a_last K (dq 7 rfl) ?_
      refine a_goto K (tgt := 21) (dq 8 rfl) rfl ?_
      refine a_iconst K (dq 15 rfl) (v := 0) rfl ?_
      obtain rfl := Option.some.inj h
      exact a_iret K rfl rfl (dq 16 rfl) (Nat.le_of_ble_eq_true rfl) (Nat.le_of_ble_eq_true rfl) rfl rfl
    · rw [hr] at ho
      cases ho
  · rcases hr : r1.1 with v | E9
    · rw [hr] at ho
      cases ho
    · have h := sm_r hr h
      rw [hr] at ho
      cases ho
      by_cases c0 : E = "java/lang/IndexOutOfBoundsException"
      · have h := ite_t c0 h
        subst c0
        refine a_catch K hT [] ⟨0, 10, 13, 38⟩ [⟨0, 10, 17, 40⟩] rfl (fun z hz => nomatch hz) rfl (by decide) (name := "java/lang/IndexOutOfBoundsException") (gwp 547 (by decide +kernel) rfl) (List.mem_of_getElem? (i := 582) (by decide +kernel)) (fun q => ?_)
        refine a_astore K (dq 9 rfl) (Nat.le_of_ble_eq_true rfl) (ls' := [some (.ref (ρ 0 0)), some (.int a1), some (.int a2), some (.ref (ρ 30 0)), some (.ref q)]) rfl ?_
        refine a_iconst K (dq 10 rfl) (v := 1) rfl ?_
        obtain rfl := Option.some.inj h
        exact a_iret K rfl rfl (dq 11 rfl) (Nat.le_of_ble_eq_true rfl) (Nat.le_of_ble_eq_true rfl) rfl rfl
      · have h := ite_f c0 h
        by_cases c1 : E = "java/lang/IllegalArgumentException"
        · have h := ite_t c1 h
          subst c1
          refine a_catch K hT [⟨0, 10, 13, 38⟩] ⟨0, 10, 17, 40⟩ [] rfl (fun z hz => by rcases List.mem_singleton.mp hz with rfl; exact ⟨by decide, "java/lang/IndexOutOfBoundsException", gwp 547 (by decide +kernel) rfl, nc_IllegalArgument_IndexOutOfBounds⟩) rfl (by decide) (name := "java/lang/IllegalArgumentException") (gwp 571 (by decide +kernel) rfl) (List.mem_of_getElem? (i := 611) (by decide +kernel)) (fun q => ?_)
          refine a_astore K (dq 12 rfl) (Nat.le_of_ble_eq_true rfl) (ls' := [some (.ref (ρ 0 0)), some (.int a1), some (.int a2), some (.ref (ρ 30 0)), some (.ref q)]) rfl ?_
          refine a_iconst K (dq 13 rfl) (v := 2) rfl ?_
          obtain rfl := Option.some.inj h
          exact a_iret K rfl rfl (dq 14 rfl) (Nat.le_of_ble_eq_true rfl) (Nat.le_of_ble_eq_true rfl) rfl rfl
        · have h := ite_f c1 h
          cases h
theorem cw_L_farmOf : CwH RL yL_farmOf cL_farmOf 5 (some .int) [(0, 10, 13, 38), (0, 10, 17, 40)] 4 := ⟨gwp 546 (by decide +kernel) rfl, gwp 545 (by decide +kernel) rfl, gwp 0 (by decide +kernel) rfl, by decide +kernel⟩
def t_L_steps : List (Nat × Instr × Nat) := [(0, .aload_n 3, 1), (1, .iconst 0, 1), (2, .aload_n 0, 1), (3, .iload_n 1, 1), (4, .iload_n 2, 1), (5, .invokevirtual 42, 3), (8, .i2l, 1), (9, .lastore, 1), (10, .goto 11, 3), (13, .astore 4, 2), (15, .iconst 1, 1), (16, .ireturn, 1), (17, .astore 4, 2), (19, .iconst 2, 1), (20, .ireturn, 1), (21, .iconst 0, 1), (22, .ireturn, 1)]
theorem dt_L_steps : tblOK cL_steps t_L_steps = true := by decide +kernel
def p_L_steps (a1 : Int32) (a2 : Int32) (σ : Sg) : Option (Int32 × Sg) := (p_X6_steps a1 a2 σ).bind fun r1 => sm r1.1 (fun v => some (0, sL r1.2 v.toInt64)) (fun E => if E = "java/lang/IndexOutOfBoundsException" then some (1, r1.2) else (if E = "java/util/NoSuchElementException" then some (2, r1.2) else (none)))
set_option maxRecDepth 20000 in
set_option maxHeartbeats 1000000 in
theorem s_L_steps {l : Launch} {D : va_G} {ty : Nat → ClassId} {ρ : Nat → Nat → Nat} {N0 : Nat} (S : St l ty ρ N0) (a1 : Int32) (a2 : Int32) (σ : Sg) (r : (Int32 × Sg)) (h : p_L_steps a1 a2 σ = some r) : AMet l D ty ρ N0 yL_steps (Cond.codeWith yL_steps cL_steps 5 (some .int) [(0, 10, 13, 38), (0, 10, 17, 45)] :: GW) (rmk 5 3 18) [.ref (ρ 0 0), .int a1, .int a2, .ref (ρ 30 0)] σ (oI r.1) r.2 := by
  refine am_enterH S (by decide) rfl rfl (Nat.le_of_ble_eq_true rfl) ?_
  intro p e s m args below meth c K hT
  have dq := @tat _ _ dt_L_steps
  unfold p_L_steps at h
  obtain ⟨r1, h1, h⟩ := bnd h
  show WA p l e _ s m args below meth c D ty ρ N0 5 _ 0 [some (.ref (ρ 0 0)), some (.int a1), some (.int a2), some (.ref (ρ 30 0)), none] [] σ 0 0
  refine a_aload_n K (dq 0 rfl) rfl rfl ?_
  refine a_iconst K (dq 1 rfl) (v := 0) rfl ?_
  refine a_aload_n K (dq 2 rfl) rfl rfl ?_
  refine a_iload_n K (dq 3 rfl) rfl rfl ?_
  refine a_iload_n K (dq 4 rfl) rfl rfl ?_
  refine a_callV K (s_X6_steps (ρ := ρ) S a1 a2 σ r1 h1) v_0 rfl rfl cw_X6_steps.1 ml_L_42 cw_X6_steps.2.1 cw_X6_steps.2.2.1 cw_X6_steps.2.2.2.1 cw_X6_steps.2.2.2.2 (by decide) rfl (rest := [.int 0, .ref (ρ 30 0)]) rfl (Nat.le_of_ble_eq_true rfl) (dq 5 rfl) (by decide) (fun ov ho => ?_) (fun E ho => ?_)
  · rcases hr : r1.1 with v | E9
    · have h := sm_l hr h
      rw [hr] at ho
      cases ho
      show WA p l e _ s m args below meth c D ty ρ N0 5 _ 8 [some (.ref (ρ 0 0)), some (.int a1), some (.int a2), some (.ref (ρ 30 0)), none] [.int v, .int 0, .ref (ρ 30 0)] r1.2 _ _
      refine a_i2l K (dq 6 rfl) ?_
      refine a_last K (dq 7 rfl) ?_
      refine a_goto K (tgt := 21) (dq 8 rfl) rfl ?_
      refine a_iconst K (dq 15 rfl) (v := 0) rfl ?_
      obtain rfl := Option.some.inj h
      exact a_iret K rfl rfl (dq 16 rfl) (Nat.le_of_ble_eq_true rfl) (Nat.le_of_ble_eq_true rfl) rfl rfl
    · rw [hr] at ho
      cases ho
  · rcases hr : r1.1 with v | E9
    · rw [hr] at ho
      cases ho
    · have h := sm_r hr h
      rw [hr] at ho
      cases ho
      by_cases c0 : E = "java/lang/IndexOutOfBoundsException"
      · have h := ite_t c0 h
        subst c0
        refine a_catch K hT [] ⟨0, 10, 13, 38⟩ [⟨0, 10, 17, 45⟩] rfl (fun z hz => nomatch hz) rfl (by decide) (name := "java/lang/IndexOutOfBoundsException") (gwp 547 (by decide +kernel) rfl) (List.mem_of_getElem? (i := 582) (by decide +kernel)) (fun q => ?_)
        refine a_astore K (dq 9 rfl) (Nat.le_of_ble_eq_true rfl) (ls' := [some (.ref (ρ 0 0)), some (.int a1), some (.int a2), some (.ref (ρ 30 0)), some (.ref q)]) rfl ?_
        refine a_iconst K (dq 10 rfl) (v := 1) rfl ?_
        obtain rfl := Option.some.inj h
        exact a_iret K rfl rfl (dq 11 rfl) (Nat.le_of_ble_eq_true rfl) (Nat.le_of_ble_eq_true rfl) rfl rfl
      · have h := ite_f c0 h
        by_cases c1 : E = "java/util/NoSuchElementException"
        · have h := ite_t c1 h
          subst c1
          refine a_catch K hT [⟨0, 10, 13, 38⟩] ⟨0, 10, 17, 45⟩ [] rfl (fun z hz => by rcases List.mem_singleton.mp hz with rfl; exact ⟨by decide, "java/lang/IndexOutOfBoundsException", gwp 547 (by decide +kernel) rfl, nc_NoSuchElement_IndexOutOfBounds⟩) rfl (by decide) (name := "java/util/NoSuchElementException") (gwp 628 (by decide +kernel) rfl) (List.mem_of_getElem? (i := 639) (by decide +kernel)) (fun q => ?_)
          refine a_astore K (dq 12 rfl) (Nat.le_of_ble_eq_true rfl) (ls' := [some (.ref (ρ 0 0)), some (.int a1), some (.int a2), some (.ref (ρ 30 0)), some (.ref q)]) rfl ?_
          refine a_iconst K (dq 13 rfl) (v := 2) rfl ?_
          obtain rfl := Option.some.inj h
          exact a_iret K rfl rfl (dq 14 rfl) (Nat.le_of_ble_eq_true rfl) (Nat.le_of_ble_eq_true rfl) rfl rfl
        · have h := ite_f c1 h
          cases h
theorem cw_L_steps : CwH RL yL_steps cL_steps 5 (some .int) [(0, 10, 13, 38), (0, 10, 17, 45)] 4 := ⟨gwp 627 (by decide +kernel) rfl, gwp 626 (by decide +kernel) rfl, gwp 0 (by decide +kernel) rfl, by decide +kernel⟩
def t_L_next : List (Nat × Instr × Nat) := [(0, .aload_n 3, 1), (1, .iconst 0, 1), (2, .aload_n 0, 1), (3, .iload_n 1, 1), (4, .iload_n 2, 1), (5, .invokevirtual 47, 3), (8, .i2l, 1), (9, .lastore, 1), (10, .goto 11, 3), (13, .astore 4, 2), (15, .iconst 1, 1), (16, .ireturn, 1), (17, .astore 4, 2), (19, .iconst 2, 1), (20, .ireturn, 1), (21, .iconst 0, 1), (22, .ireturn, 1)]
theorem dt_L_next : tblOK cL_next t_L_next = true := by decide +kernel
def p_L_next (a1 : Int32) (a2 : Int32) (σ : Sg) : Option (Int32 × Sg) := (p_X6_next a1 a2 σ).bind fun r1 => sm r1.1 (fun v => some (0, sL r1.2 v.toInt64)) (fun E => if E = "java/lang/IndexOutOfBoundsException" then some (1, r1.2) else (if E = "java/util/NoSuchElementException" then some (2, r1.2) else (none)))
set_option maxRecDepth 20000 in
set_option maxHeartbeats 1000000 in
theorem s_L_next {l : Launch} {D : va_G} {ty : Nat → ClassId} {ρ : Nat → Nat → Nat} {N0 : Nat} (S : St l ty ρ N0) (a1 : Int32) (a2 : Int32) (σ : Sg) (r : (Int32 × Sg)) (h : p_L_next a1 a2 σ = some r) : AMet l D ty ρ N0 yL_next (Cond.codeWith yL_next cL_next 5 (some .int) [(0, 10, 13, 38), (0, 10, 17, 45)] :: GW) (rmk 5 4 24) [.ref (ρ 0 0), .int a1, .int a2, .ref (ρ 30 0)] σ (oI r.1) r.2 := by
  refine am_enterH S (by decide) rfl rfl (Nat.le_of_ble_eq_true rfl) ?_
  intro p e s m args below meth c K hT
  have dq := @tat _ _ dt_L_next
  unfold p_L_next at h
  obtain ⟨r1, h1, h⟩ := bnd h
  show WA p l e _ s m args below meth c D ty ρ N0 5 _ 0 [some (.ref (ρ 0 0)), some (.int a1), some (.int a2), some (.ref (ρ 30 0)), none] [] σ 0 0
  refine a_aload_n K (dq 0 rfl) rfl rfl ?_
  refine a_iconst K (dq 1 rfl) (v := 0) rfl ?_
  refine a_aload_n K (dq 2 rfl) rfl rfl ?_
  refine a_iload_n K (dq 3 rfl) rfl rfl ?_
  refine a_iload_n K (dq 4 rfl) rfl rfl ?_
  refine a_callV K (s_X6_next (ρ := ρ) S a1 a2 σ r1 h1) v_0 rfl rfl cw_X6_next.1 ml_L_47 cw_X6_next.2.1 cw_X6_next.2.2.1 cw_X6_next.2.2.2.1 cw_X6_next.2.2.2.2 (by decide) rfl (rest := [.int 0, .ref (ρ 30 0)]) rfl (Nat.le_of_ble_eq_true rfl) (dq 5 rfl) (by decide) (fun ov ho => ?_) (fun E ho => ?_)
  · rcases hr : r1.1 with v | E9
    · have h := sm_l hr h
      rw [hr] at ho
      cases ho
      show WA p l e _ s m args below meth c D ty ρ N0 5 _ 8 [some (.ref (ρ 0 0)), some (.int a1), some (.int a2), some (.ref (ρ 30 0)), none] [.int v, .int 0, .ref (ρ 30 0)] r1.2 _ _
      refine a_i2l K (dq 6 rfl) ?_
      refine a_last K (dq 7 rfl) ?_
      refine a_goto K (tgt := 21) (dq 8 rfl) rfl ?_
      refine a_iconst K (dq 15 rfl) (v := 0) rfl ?_
      obtain rfl := Option.some.inj h
      exact a_iret K rfl rfl (dq 16 rfl) (Nat.le_of_ble_eq_true rfl) (Nat.le_of_ble_eq_true rfl) rfl rfl
    · rw [hr] at ho
      cases ho
  · rcases hr : r1.1 with v | E9
    · rw [hr] at ho
      cases ho
    · have h := sm_r hr h
      rw [hr] at ho
      cases ho
      by_cases c0 : E = "java/lang/IndexOutOfBoundsException"
      · have h := ite_t c0 h
        subst c0
        refine a_catch K hT [] ⟨0, 10, 13, 38⟩ [⟨0, 10, 17, 45⟩] rfl (fun z hz => nomatch hz) rfl (by decide) (name := "java/lang/IndexOutOfBoundsException") (gwp 547 (by decide +kernel) rfl) (List.mem_of_getElem? (i := 582) (by decide +kernel)) (fun q => ?_)
        refine a_astore K (dq 9 rfl) (Nat.le_of_ble_eq_true rfl) (ls' := [some (.ref (ρ 0 0)), some (.int a1), some (.int a2), some (.ref (ρ 30 0)), some (.ref q)]) rfl ?_
        refine a_iconst K (dq 10 rfl) (v := 1) rfl ?_
        obtain rfl := Option.some.inj h
        exact a_iret K rfl rfl (dq 11 rfl) (Nat.le_of_ble_eq_true rfl) (Nat.le_of_ble_eq_true rfl) rfl rfl
      · have h := ite_f c0 h
        by_cases c1 : E = "java/util/NoSuchElementException"
        · have h := ite_t c1 h
          subst c1
          refine a_catch K hT [⟨0, 10, 13, 38⟩] ⟨0, 10, 17, 45⟩ [] rfl (fun z hz => by rcases List.mem_singleton.mp hz with rfl; exact ⟨by decide, "java/lang/IndexOutOfBoundsException", gwp 547 (by decide +kernel) rfl, nc_NoSuchElement_IndexOutOfBounds⟩) rfl (by decide) (name := "java/util/NoSuchElementException") (gwp 628 (by decide +kernel) rfl) (List.mem_of_getElem? (i := 639) (by decide +kernel)) (fun q => ?_)
          refine a_astore K (dq 12 rfl) (Nat.le_of_ble_eq_true rfl) (ls' := [some (.ref (ρ 0 0)), some (.int a1), some (.int a2), some (.ref (ρ 30 0)), some (.ref q)]) rfl ?_
          refine a_iconst K (dq 13 rfl) (v := 2) rfl ?_
          obtain rfl := Option.some.inj h
          exact a_iret K rfl rfl (dq 14 rfl) (Nat.le_of_ble_eq_true rfl) (Nat.le_of_ble_eq_true rfl) rfl rfl
        · have h := ite_f c1 h
          cases h
theorem cw_L_next : CwH RL yL_next cL_next 5 (some .int) [(0, 10, 13, 38), (0, 10, 17, 45)] 4 := ⟨gwp 655 (by decide +kernel) rfl, gwp 654 (by decide +kernel) rfl, gwp 0 (by decide +kernel) rfl, by decide +kernel⟩
def t_L_onWay : List (Nat × Instr × Nat) := [(0, .aload 4, 2), (2, .iconst 0, 1), (3, .aload_n 0, 1), (4, .iload_n 1, 1), (5, .iload_n 2, 1), (6, .iload_n 3, 1), (7, .invokevirtual 50, 3), (10, .i2l, 1), (11, .lastore, 1), (12, .goto 11, 3), (15, .astore 5, 2), (17, .iconst 1, 1), (18, .ireturn, 1), (19, .astore 5, 2), (21, .iconst 2, 1), (22, .ireturn, 1), (23, .iconst 0, 1), (24, .ireturn, 1)]
theorem dt_L_onWay : tblOK cL_onWay t_L_onWay = true := by decide +kernel
def p_L_onWay (a1 : Int32) (a2 : Int32) (a3 : Int32) (σ : Sg) : Option (Int32 × Sg) := (p_X6_onWay a1 a2 a3 σ).bind fun r1 => sm r1.1 (fun v => some (0, sL r1.2 v.toInt64)) (fun E => if E = "java/lang/IndexOutOfBoundsException" then some (1, r1.2) else (if E = "java/util/NoSuchElementException" then some (2, r1.2) else (none)))
set_option maxRecDepth 20000 in
set_option maxHeartbeats 1000000 in
theorem s_L_onWay {l : Launch} {D : va_G} {ty : Nat → ClassId} {ρ : Nat → Nat → Nat} {N0 : Nat} (S : St l ty ρ N0) (a1 : Int32) (a2 : Int32) (a3 : Int32) (σ : Sg) (r : (Int32 × Sg)) (h : p_L_onWay a1 a2 a3 σ = some r) : AMet l D ty ρ N0 yL_onWay (Cond.codeWith yL_onWay cL_onWay 6 (some .int) [(0, 12, 15, 38), (0, 12, 19, 45)] :: GW) (rmk 5 4 24) [.ref (ρ 0 0), .int a1, .int a2, .int a3, .ref (ρ 30 0)] σ (oI r.1) r.2 := by
  refine am_enterH S (by decide) rfl rfl (Nat.le_of_ble_eq_true rfl) ?_
  intro p e s m args below meth c K hT
  have dq := @tat _ _ dt_L_onWay
  unfold p_L_onWay at h
  obtain ⟨r1, h1, h⟩ := bnd h
  show WA p l e _ s m args below meth c D ty ρ N0 6 _ 0 [some (.ref (ρ 0 0)), some (.int a1), some (.int a2), some (.int a3), some (.ref (ρ 30 0)), none] [] σ 0 0
  refine a_aload K (dq 0 rfl) rfl ?_
  refine a_iconst K (dq 1 rfl) (v := 0) rfl ?_
  refine a_aload_n K (dq 2 rfl) rfl rfl ?_
  refine a_iload_n K (dq 3 rfl) rfl rfl ?_
  refine a_iload_n K (dq 4 rfl) rfl rfl ?_
  refine a_iload_n K (dq 5 rfl) rfl rfl ?_
  refine a_callV K (s_X6_onWay (ρ := ρ) S a1 a2 a3 σ r1 h1) v_0 rfl rfl cw_X6_onWay.1 ml_L_50 cw_X6_onWay.2.1 cw_X6_onWay.2.2.1 cw_X6_onWay.2.2.2.1 cw_X6_onWay.2.2.2.2 (by decide) rfl (rest := [.int 0, .ref (ρ 30 0)]) rfl (Nat.le_of_ble_eq_true rfl) (dq 6 rfl) (by decide) (fun ov ho => ?_) (fun E ho => ?_)
  · rcases hr : r1.1 with v | E9
    · have h := sm_l hr h
      rw [hr] at ho
      cases ho
      show WA p l e _ s m args below meth c D ty ρ N0 6 _ 10 [some (.ref (ρ 0 0)), some (.int a1), some (.int a2), some (.int a3), some (.ref (ρ 30 0)), none] [.int v, .int 0, .ref (ρ 30 0)] r1.2 _ _
      refine a_i2l K (dq 7 rfl) ?_
      refine a_last K (dq 8 rfl) ?_
      refine a_goto K (tgt := 23) (dq 9 rfl) rfl ?_
      refine a_iconst K (dq 16 rfl) (v := 0) rfl ?_
      obtain rfl := Option.some.inj h
      exact a_iret K rfl rfl (dq 17 rfl) (Nat.le_of_ble_eq_true rfl) (Nat.le_of_ble_eq_true rfl) rfl rfl
    · rw [hr] at ho
      cases ho
  · rcases hr : r1.1 with v | E9
    · rw [hr] at ho
      cases ho
    · have h := sm_r hr h
      rw [hr] at ho
      cases ho
      by_cases c0 : E = "java/lang/IndexOutOfBoundsException"
      · have h := ite_t c0 h
        subst c0
        refine a_catch K hT [] ⟨0, 12, 15, 38⟩ [⟨0, 12, 19, 45⟩] rfl (fun z hz => nomatch hz) rfl (by decide) (name := "java/lang/IndexOutOfBoundsException") (gwp 547 (by decide +kernel) rfl) (List.mem_of_getElem? (i := 582) (by decide +kernel)) (fun q => ?_)
        refine a_astore K (dq 10 rfl) (Nat.le_of_ble_eq_true rfl) (ls' := [some (.ref (ρ 0 0)), some (.int a1), some (.int a2), some (.int a3), some (.ref (ρ 30 0)), some (.ref q)]) rfl ?_
        refine a_iconst K (dq 11 rfl) (v := 1) rfl ?_
        obtain rfl := Option.some.inj h
        exact a_iret K rfl rfl (dq 12 rfl) (Nat.le_of_ble_eq_true rfl) (Nat.le_of_ble_eq_true rfl) rfl rfl
      · have h := ite_f c0 h
        by_cases c1 : E = "java/util/NoSuchElementException"
        · have h := ite_t c1 h
          subst c1
          refine a_catch K hT [⟨0, 12, 15, 38⟩] ⟨0, 12, 19, 45⟩ [] rfl (fun z hz => by rcases List.mem_singleton.mp hz with rfl; exact ⟨by decide, "java/lang/IndexOutOfBoundsException", gwp 547 (by decide +kernel) rfl, nc_NoSuchElement_IndexOutOfBounds⟩) rfl (by decide) (name := "java/util/NoSuchElementException") (gwp 628 (by decide +kernel) rfl) (List.mem_of_getElem? (i := 639) (by decide +kernel)) (fun q => ?_)
          refine a_astore K (dq 13 rfl) (Nat.le_of_ble_eq_true rfl) (ls' := [some (.ref (ρ 0 0)), some (.int a1), some (.int a2), some (.int a3), some (.ref (ρ 30 0)), some (.ref q)]) rfl ?_
          refine a_iconst K (dq 14 rfl) (v := 2) rfl ?_
          obtain rfl := Option.some.inj h
          exact a_iret K rfl rfl (dq 15 rfl) (Nat.le_of_ble_eq_true rfl) (Nat.le_of_ble_eq_true rfl) rfl rfl
        · have h := ite_f c1 h
          cases h
theorem cw_L_onWay : CwH RL yL_onWay cL_onWay 6 (some .int) [(0, 12, 15, 38), (0, 12, 19, 45)] 5 := ⟨gwp 667 (by decide +kernel) rfl, gwp 666 (by decide +kernel) rfl, gwp 0 (by decide +kernel) rfl, by decide +kernel⟩
def t_L_meet : List (Nat × Instr × Nat) := [(0, .aload_n 3, 1), (1, .iconst 0, 1), (2, .aload_n 0, 1), (3, .iload_n 1, 1), (4, .iload_n 2, 1), (5, .invokevirtual 53, 3), (8, .i2l, 1), (9, .lastore, 1), (10, .goto 11, 3), (13, .astore 4, 2), (15, .iconst 1, 1), (16, .ireturn, 1), (17, .astore 4, 2), (19, .iconst 2, 1), (20, .ireturn, 1), (21, .iconst 0, 1), (22, .ireturn, 1)]
theorem dt_L_meet : tblOK cL_meet t_L_meet = true := by decide +kernel
def p_L_meet (a1 : Int32) (a2 : Int32) (σ : Sg) : Option (Int32 × Sg) := (p_X6_meet a1 a2 σ).bind fun r1 => sm r1.1 (fun v => some (0, sL r1.2 v.toInt64)) (fun E => if E = "java/lang/IndexOutOfBoundsException" then some (1, r1.2) else (if E = "java/util/NoSuchElementException" then some (2, r1.2) else (none)))
set_option maxRecDepth 20000 in
set_option maxHeartbeats 1000000 in
theorem s_L_meet {l : Launch} {D : va_G} {ty : Nat → ClassId} {ρ : Nat → Nat → Nat} {N0 : Nat} (S : St l ty ρ N0) (a1 : Int32) (a2 : Int32) (σ : Sg) (r : (Int32 × Sg)) (h : p_L_meet a1 a2 σ = some r) : AMet l D ty ρ N0 yL_meet (Cond.codeWith yL_meet cL_meet 5 (some .int) [(0, 10, 13, 38), (0, 10, 17, 45)] :: GW) (rmk 5 3 18) [.ref (ρ 0 0), .int a1, .int a2, .ref (ρ 30 0)] σ (oI r.1) r.2 := by
  refine am_enterH S (by decide) rfl rfl (Nat.le_of_ble_eq_true rfl) ?_
  intro p e s m args below meth c K hT
  have dq := @tat _ _ dt_L_meet
  unfold p_L_meet at h
  obtain ⟨r1, h1, h⟩ := bnd h
  show WA p l e _ s m args below meth c D ty ρ N0 5 _ 0 [some (.ref (ρ 0 0)), some (.int a1), some (.int a2), some (.ref (ρ 30 0)), none] [] σ 0 0
  refine a_aload_n K (dq 0 rfl) rfl rfl ?_
  refine a_iconst K (dq 1 rfl) (v := 0) rfl ?_
  refine a_aload_n K (dq 2 rfl) rfl rfl ?_
  refine a_iload_n K (dq 3 rfl) rfl rfl ?_
  refine a_iload_n K (dq 4 rfl) rfl rfl ?_
  refine a_callV K (s_X6_meet (ρ := ρ) S a1 a2 σ r1 h1) v_0 rfl rfl cw_X6_meet.1 ml_L_53 cw_X6_meet.2.1 cw_X6_meet.2.2.1 cw_X6_meet.2.2.2.1 cw_X6_meet.2.2.2.2 (by decide) rfl (rest := [.int 0, .ref (ρ 30 0)]) rfl (Nat.le_of_ble_eq_true rfl) (dq 5 rfl) (by decide) (fun ov ho => ?_) (fun E ho => ?_)
  · rcases hr : r1.1 with v | E9
    · have h := sm_l hr h
      rw [hr] at ho
      cases ho
      show WA p l e _ s m args below meth c D ty ρ N0 5 _ 8 [some (.ref (ρ 0 0)), some (.int a1), some (.int a2), some (.ref (ρ 30 0)), none] [.int v, .int 0, .ref (ρ 30 0)] r1.2 _ _
      refine a_i2l K (dq 6 rfl) ?_
      refine a_last K (dq 7 rfl) ?_
      refine a_goto K (tgt := 21) (dq 8 rfl) rfl ?_
      refine a_iconst K (dq 15 rfl) (v := 0) rfl ?_
      obtain rfl := Option.some.inj h
      exact a_iret K rfl rfl (dq 16 rfl) (Nat.le_of_ble_eq_true rfl) (Nat.le_of_ble_eq_true rfl) rfl rfl
    · rw [hr] at ho
      cases ho
  · rcases hr : r1.1 with v | E9
    · rw [hr] at ho
      cases ho
    · have h := sm_r hr h
      rw [hr] at ho
      cases ho
      by_cases c0 : E = "java/lang/IndexOutOfBoundsException"
      · have h := ite_t c0 h
        subst c0
        refine a_catch K hT [] ⟨0, 10, 13, 38⟩ [⟨0, 10, 17, 45⟩] rfl (fun z hz => nomatch hz) rfl (by decide) (name := "java/lang/IndexOutOfBoundsException") (gwp 547 (by decide +kernel) rfl) (List.mem_of_getElem? (i := 582) (by decide +kernel)) (fun q => ?_)
        refine a_astore K (dq 9 rfl) (Nat.le_of_ble_eq_true rfl) (ls' := [some (.ref (ρ 0 0)), some (.int a1), some (.int a2), some (.ref (ρ 30 0)), some (.ref q)]) rfl ?_
        refine a_iconst K (dq 10 rfl) (v := 1) rfl ?_
        obtain rfl := Option.some.inj h
        exact a_iret K rfl rfl (dq 11 rfl) (Nat.le_of_ble_eq_true rfl) (Nat.le_of_ble_eq_true rfl) rfl rfl
      · have h := ite_f c0 h
        by_cases c1 : E = "java/util/NoSuchElementException"
        · have h := ite_t c1 h
          subst c1
          refine a_catch K hT [⟨0, 10, 13, 38⟩] ⟨0, 10, 17, 45⟩ [] rfl (fun z hz => by rcases List.mem_singleton.mp hz with rfl; exact ⟨by decide, "java/lang/IndexOutOfBoundsException", gwp 547 (by decide +kernel) rfl, nc_NoSuchElement_IndexOutOfBounds⟩) rfl (by decide) (name := "java/util/NoSuchElementException") (gwp 628 (by decide +kernel) rfl) (List.mem_of_getElem? (i := 639) (by decide +kernel)) (fun q => ?_)
          refine a_astore K (dq 12 rfl) (Nat.le_of_ble_eq_true rfl) (ls' := [some (.ref (ρ 0 0)), some (.int a1), some (.int a2), some (.ref (ρ 30 0)), some (.ref q)]) rfl ?_
          refine a_iconst K (dq 13 rfl) (v := 2) rfl ?_
          obtain rfl := Option.some.inj h
          exact a_iret K rfl rfl (dq 14 rfl) (Nat.le_of_ble_eq_true rfl) (Nat.le_of_ble_eq_true rfl) rfl rfl
        · have h := ite_f c1 h
          cases h
theorem cw_L_meet : CwH RL yL_meet cL_meet 5 (some .int) [(0, 10, 13, 38), (0, 10, 17, 45)] 4 := ⟨gwp 674 (by decide +kernel) rfl, gwp 673 (by decide +kernel) rfl, gwp 0 (by decide +kernel) rfl, by decide +kernel⟩
def t_L_sum : List (Nat × Instr × Nat) := [(0, .aload_n 3, 1), (1, .iconst 0, 1), (2, .aload_n 0, 1), (3, .iload_n 1, 1), (4, .iload_n 2, 1), (5, .invokevirtual 56, 3), (8, .i2l, 1), (9, .lastore, 1), (10, .goto 11, 3), (13, .astore 4, 2), (15, .iconst 1, 1), (16, .ireturn, 1), (17, .astore 4, 2), (19, .iconst 2, 1), (20, .ireturn, 1), (21, .iconst 0, 1), (22, .ireturn, 1)]
theorem dt_L_sum : tblOK cL_sum t_L_sum = true := by decide +kernel
def p_L_sum (a1 : Int32) (a2 : Int32) (σ : Sg) : Option (Int32 × Sg) := (p_X6_sum a1 a2 σ).bind fun r1 => sm r1.1 (fun v => some (0, sL r1.2 v.toInt64)) (fun E => if E = "java/lang/IndexOutOfBoundsException" then some (1, r1.2) else (if E = "java/util/NoSuchElementException" then some (2, r1.2) else (none)))
set_option maxRecDepth 20000 in
set_option maxHeartbeats 1000000 in
theorem s_L_sum {l : Launch} {D : va_G} {ty : Nat → ClassId} {ρ : Nat → Nat → Nat} {N0 : Nat} (S : St l ty ρ N0) (a1 : Int32) (a2 : Int32) (σ : Sg) (r : (Int32 × Sg)) (h : p_L_sum a1 a2 σ = some r) : AMet l D ty ρ N0 yL_sum (Cond.codeWith yL_sum cL_sum 5 (some .int) [(0, 10, 13, 38), (0, 10, 17, 45)] :: GW) (rmk 5 3 18) [.ref (ρ 0 0), .int a1, .int a2, .ref (ρ 30 0)] σ (oI r.1) r.2 := by
  refine am_enterH S (by decide) rfl rfl (Nat.le_of_ble_eq_true rfl) ?_
  intro p e s m args below meth c K hT
  have dq := @tat _ _ dt_L_sum
  unfold p_L_sum at h
  obtain ⟨r1, h1, h⟩ := bnd h
  show WA p l e _ s m args below meth c D ty ρ N0 5 _ 0 [some (.ref (ρ 0 0)), some (.int a1), some (.int a2), some (.ref (ρ 30 0)), none] [] σ 0 0
  refine a_aload_n K (dq 0 rfl) rfl rfl ?_
  refine a_iconst K (dq 1 rfl) (v := 0) rfl ?_
  refine a_aload_n K (dq 2 rfl) rfl rfl ?_
  refine a_iload_n K (dq 3 rfl) rfl rfl ?_
  refine a_iload_n K (dq 4 rfl) rfl rfl ?_
  refine a_callV K (s_X6_sum (ρ := ρ) S a1 a2 σ r1 h1) v_0 rfl rfl cw_X6_sum.1 ml_L_56 cw_X6_sum.2.1 cw_X6_sum.2.2.1 cw_X6_sum.2.2.2.1 cw_X6_sum.2.2.2.2 (by decide) rfl (rest := [.int 0, .ref (ρ 30 0)]) rfl (Nat.le_of_ble_eq_true rfl) (dq 5 rfl) (by decide) (fun ov ho => ?_) (fun E ho => ?_)
  · rcases hr : r1.1 with v | E9
    · have h := sm_l hr h
      rw [hr] at ho
      cases ho
      show WA p l e _ s m args below meth c D ty ρ N0 5 _ 8 [some (.ref (ρ 0 0)), some (.int a1), some (.int a2), some (.ref (ρ 30 0)), none] [.int v, .int 0, .ref (ρ 30 0)] r1.2 _ _
      refine a_i2l K (dq 6 rfl) ?_
      refine a_last K (dq 7 rfl) ?_
      refine a_goto K (tgt := 21) (dq 8 rfl) rfl ?_
      refine a_iconst K (dq 15 rfl) (v := 0) rfl ?_
      obtain rfl := Option.some.inj h
      exact a_iret K rfl rfl (dq 16 rfl) (Nat.le_of_ble_eq_true rfl) (Nat.le_of_ble_eq_true rfl) rfl rfl
    · rw [hr] at ho
      cases ho
  · rcases hr : r1.1 with v | E9
    · rw [hr] at ho
      cases ho
    · have h := sm_r hr h
      rw [hr] at ho
      cases ho
      by_cases c0 : E = "java/lang/IndexOutOfBoundsException"
      · have h := ite_t c0 h
        subst c0
        refine a_catch K hT [] ⟨0, 10, 13, 38⟩ [⟨0, 10, 17, 45⟩] rfl (fun z hz => nomatch hz) rfl (by decide) (name := "java/lang/IndexOutOfBoundsException") (gwp 547 (by decide +kernel) rfl) (List.mem_of_getElem? (i := 582) (by decide +kernel)) (fun q => ?_)
        refine a_astore K (dq 9 rfl) (Nat.le_of_ble_eq_true rfl) (ls' := [some (.ref (ρ 0 0)), some (.int a1), some (.int a2), some (.ref (ρ 30 0)), some (.ref q)]) rfl ?_
        refine a_iconst K (dq 10 rfl) (v := 1) rfl ?_
        obtain rfl := Option.some.inj h
        exact a_iret K rfl rfl (dq 11 rfl) (Nat.le_of_ble_eq_true rfl) (Nat.le_of_ble_eq_true rfl) rfl rfl
      · have h := ite_f c0 h
        by_cases c1 : E = "java/util/NoSuchElementException"
        · have h := ite_t c1 h
          subst c1
          refine a_catch K hT [⟨0, 10, 13, 38⟩] ⟨0, 10, 17, 45⟩ [] rfl (fun z hz => by rcases List.mem_singleton.mp hz with rfl; exact ⟨by decide, "java/lang/IndexOutOfBoundsException", gwp 547 (by decide +kernel) rfl, nc_NoSuchElement_IndexOutOfBounds⟩) rfl (by decide) (name := "java/util/NoSuchElementException") (gwp 628 (by decide +kernel) rfl) (List.mem_of_getElem? (i := 639) (by decide +kernel)) (fun q => ?_)
          refine a_astore K (dq 12 rfl) (Nat.le_of_ble_eq_true rfl) (ls' := [some (.ref (ρ 0 0)), some (.int a1), some (.int a2), some (.ref (ρ 30 0)), some (.ref q)]) rfl ?_
          refine a_iconst K (dq 13 rfl) (v := 2) rfl ?_
          obtain rfl := Option.some.inj h
          exact a_iret K rfl rfl (dq 14 rfl) (Nat.le_of_ble_eq_true rfl) (Nat.le_of_ble_eq_true rfl) rfl rfl
        · have h := ite_f c1 h
          cases h
theorem cw_L_sum : CwH RL yL_sum cL_sum 5 (some .int) [(0, 10, 13, 38), (0, 10, 17, 45)] 4 := ⟨gwp 685 (by decide +kernel) rfl, gwp 684 (by decide +kernel) rfl, gwp 0 (by decide +kernel) rfl, by decide +kernel⟩
def t_L_sumAgain : List (Nat × Instr × Nat) := [(0, .aload_n 3, 1), (1, .iconst 0, 1), (2, .aload_n 0, 1), (3, .iload_n 1, 1), (4, .iload_n 2, 1), (5, .invokevirtual 59, 3), (8, .i2l, 1), (9, .lastore, 1), (10, .goto 11, 3), (13, .astore 4, 2), (15, .iconst 1, 1), (16, .ireturn, 1), (17, .astore 4, 2), (19, .iconst 2, 1), (20, .ireturn, 1), (21, .iconst 0, 1), (22, .ireturn, 1)]
theorem dt_L_sumAgain : tblOK cL_sumAgain t_L_sumAgain = true := by decide +kernel
def p_L_sumAgain (a1 : Int32) (a2 : Int32) (σ : Sg) : Option (Int32 × Sg) := (p_X6_sumAgain a1 a2 σ).bind fun r1 => sm r1.1 (fun v => some (0, sL r1.2 v.toInt64)) (fun E => if E = "java/lang/IndexOutOfBoundsException" then some (1, r1.2) else (if E = "java/util/NoSuchElementException" then some (2, r1.2) else (none)))
set_option maxRecDepth 20000 in
set_option maxHeartbeats 1000000 in
theorem s_L_sumAgain {l : Launch} {D : va_G} {ty : Nat → ClassId} {ρ : Nat → Nat → Nat} {N0 : Nat} (S : St l ty ρ N0) (a1 : Int32) (a2 : Int32) (σ : Sg) (r : (Int32 × Sg)) (h : p_L_sumAgain a1 a2 σ = some r) : AMet l D ty ρ N0 yL_sumAgain (Cond.codeWith yL_sumAgain cL_sumAgain 5 (some .int) [(0, 10, 13, 38), (0, 10, 17, 45)] :: GW) (rmk 5 3 18) [.ref (ρ 0 0), .int a1, .int a2, .ref (ρ 30 0)] σ (oI r.1) r.2 := by
  refine am_enterH S (by decide) rfl rfl (Nat.le_of_ble_eq_true rfl) ?_
  intro p e s m args below meth c K hT
  have dq := @tat _ _ dt_L_sumAgain
  unfold p_L_sumAgain at h
  obtain ⟨r1, h1, h⟩ := bnd h
  show WA p l e _ s m args below meth c D ty ρ N0 5 _ 0 [some (.ref (ρ 0 0)), some (.int a1), some (.int a2), some (.ref (ρ 30 0)), none] [] σ 0 0
  refine a_aload_n K (dq 0 rfl) rfl rfl ?_
  refine a_iconst K (dq 1 rfl) (v := 0) rfl ?_
  refine a_aload_n K (dq 2 rfl) rfl rfl ?_
  refine a_iload_n K (dq 3 rfl) rfl rfl ?_
  refine a_iload_n K (dq 4 rfl) rfl rfl ?_
  refine a_callV K (s_X6_sumAgain (ρ := ρ) S a1 a2 σ r1 h1) v_0 rfl rfl cw_X6_sumAgain.1 ml_L_59 cw_X6_sumAgain.2.1 cw_X6_sumAgain.2.2.1 cw_X6_sumAgain.2.2.2.1 cw_X6_sumAgain.2.2.2.2 (by decide) rfl (rest := [.int 0, .ref (ρ 30 0)]) rfl (Nat.le_of_ble_eq_true rfl) (dq 5 rfl) (by decide) (fun ov ho => ?_) (fun E ho => ?_)
  · rcases hr : r1.1 with v | E9
    · have h := sm_l hr h
      rw [hr] at ho
      cases ho
      show WA p l e _ s m args below meth c D ty ρ N0 5 _ 8 [some (.ref (ρ 0 0)), some (.int a1), some (.int a2), some (.ref (ρ 30 0)), none] [.int v, .int 0, .ref (ρ 30 0)] r1.2 _ _
      refine a_i2l K (dq 6 rfl) ?_
      refine a_last K (dq 7 rfl) ?_
      refine a_goto K (tgt := 21) (dq 8 rfl) rfl ?_
      refine a_iconst K (dq 15 rfl) (v := 0) rfl ?_
      obtain rfl := Option.some.inj h
      exact a_iret K rfl rfl (dq 16 rfl) (Nat.le_of_ble_eq_true rfl) (Nat.le_of_ble_eq_true rfl) rfl rfl
    · rw [hr] at ho
      cases ho
  · rcases hr : r1.1 with v | E9
    · rw [hr] at ho
      cases ho
    · have h := sm_r hr h
      rw [hr] at ho
      cases ho
      by_cases c0 : E = "java/lang/IndexOutOfBoundsException"
      · have h := ite_t c0 h
        subst c0
        refine a_catch K hT [] ⟨0, 10, 13, 38⟩ [⟨0, 10, 17, 45⟩] rfl (fun z hz => nomatch hz) rfl (by decide) (name := "java/lang/IndexOutOfBoundsException") (gwp 547 (by decide +kernel) rfl) (List.mem_of_getElem? (i := 582) (by decide +kernel)) (fun q => ?_)
        refine a_astore K (dq 9 rfl) (Nat.le_of_ble_eq_true rfl) (ls' := [some (.ref (ρ 0 0)), some (.int a1), some (.int a2), some (.ref (ρ 30 0)), some (.ref q)]) rfl ?_
        refine a_iconst K (dq 10 rfl) (v := 1) rfl ?_
        obtain rfl := Option.some.inj h
        exact a_iret K rfl rfl (dq 11 rfl) (Nat.le_of_ble_eq_true rfl) (Nat.le_of_ble_eq_true rfl) rfl rfl
      · have h := ite_f c0 h
        by_cases c1 : E = "java/util/NoSuchElementException"
        · have h := ite_t c1 h
          subst c1
          refine a_catch K hT [⟨0, 10, 13, 38⟩] ⟨0, 10, 17, 45⟩ [] rfl (fun z hz => by rcases List.mem_singleton.mp hz with rfl; exact ⟨by decide, "java/lang/IndexOutOfBoundsException", gwp 547 (by decide +kernel) rfl, nc_NoSuchElement_IndexOutOfBounds⟩) rfl (by decide) (name := "java/util/NoSuchElementException") (gwp 628 (by decide +kernel) rfl) (List.mem_of_getElem? (i := 639) (by decide +kernel)) (fun q => ?_)
          refine a_astore K (dq 12 rfl) (Nat.le_of_ble_eq_true rfl) (ls' := [some (.ref (ρ 0 0)), some (.int a1), some (.int a2), some (.ref (ρ 30 0)), some (.ref q)]) rfl ?_
          refine a_iconst K (dq 13 rfl) (v := 2) rfl ?_
          obtain rfl := Option.some.inj h
          exact a_iret K rfl rfl (dq 14 rfl) (Nat.le_of_ble_eq_true rfl) (Nat.le_of_ble_eq_true rfl) rfl rfl
        · have h := ite_f c1 h
          cases h
theorem cw_L_sumAgain : CwH RL yL_sumAgain cL_sumAgain 5 (some .int) [(0, 10, 13, 38), (0, 10, 17, 45)] 4 := ⟨gwp 697 (by decide +kernel) rfl, gwp 696 (by decide +kernel) rfl, gwp 0 (by decide +kernel) rfl, by decide +kernel⟩
def t_L_dearest : List (Nat × Instr × Nat) := [(0, .aload_n 3, 1), (1, .iconst 0, 1), (2, .aload_n 0, 1), (3, .iload_n 1, 1), (4, .iload_n 2, 1), (5, .invokevirtual 62, 3), (8, .i2l, 1), (9, .lastore, 1), (10, .goto 11, 3), (13, .astore 4, 2), (15, .iconst 1, 1), (16, .ireturn, 1), (17, .astore 4, 2), (19, .iconst 2, 1), (20, .ireturn, 1), (21, .iconst 0, 1), (22, .ireturn, 1)]
theorem dt_L_dearest : tblOK cL_dearest t_L_dearest = true := by decide +kernel
def p_L_dearest (a1 : Int32) (a2 : Int32) (σ : Sg) : Option (Int32 × Sg) := (p_X6_dearest a1 a2 σ).bind fun r1 => sm r1.1 (fun v => some (0, sL r1.2 v.toInt64)) (fun E => if E = "java/lang/IndexOutOfBoundsException" then some (1, r1.2) else (if E = "java/util/NoSuchElementException" then some (2, r1.2) else (none)))
set_option maxRecDepth 20000 in
set_option maxHeartbeats 1000000 in
theorem s_L_dearest {l : Launch} {D : va_G} {ty : Nat → ClassId} {ρ : Nat → Nat → Nat} {N0 : Nat} (S : St l ty ρ N0) (a1 : Int32) (a2 : Int32) (σ : Sg) (r : (Int32 × Sg)) (h : p_L_dearest a1 a2 σ = some r) : AMet l D ty ρ N0 yL_dearest (Cond.codeWith yL_dearest cL_dearest 5 (some .int) [(0, 10, 13, 38), (0, 10, 17, 45)] :: GW) (rmk 5 3 18) [.ref (ρ 0 0), .int a1, .int a2, .ref (ρ 30 0)] σ (oI r.1) r.2 := by
  refine am_enterH S (by decide) rfl rfl (Nat.le_of_ble_eq_true rfl) ?_
  intro p e s m args below meth c K hT
  have dq := @tat _ _ dt_L_dearest
  unfold p_L_dearest at h
  obtain ⟨r1, h1, h⟩ := bnd h
  show WA p l e _ s m args below meth c D ty ρ N0 5 _ 0 [some (.ref (ρ 0 0)), some (.int a1), some (.int a2), some (.ref (ρ 30 0)), none] [] σ 0 0
  refine a_aload_n K (dq 0 rfl) rfl rfl ?_
  refine a_iconst K (dq 1 rfl) (v := 0) rfl ?_
  refine a_aload_n K (dq 2 rfl) rfl rfl ?_
  refine a_iload_n K (dq 3 rfl) rfl rfl ?_
  refine a_iload_n K (dq 4 rfl) rfl rfl ?_
  refine a_callV K (s_X6_dearest (ρ := ρ) S a1 a2 σ r1 h1) v_0 rfl rfl cw_X6_dearest.1 ml_L_62 cw_X6_dearest.2.1 cw_X6_dearest.2.2.1 cw_X6_dearest.2.2.2.1 cw_X6_dearest.2.2.2.2 (by decide) rfl (rest := [.int 0, .ref (ρ 30 0)]) rfl (Nat.le_of_ble_eq_true rfl) (dq 5 rfl) (by decide) (fun ov ho => ?_) (fun E ho => ?_)
  · rcases hr : r1.1 with v | E9
    · have h := sm_l hr h
      rw [hr] at ho
      cases ho
      show WA p l e _ s m args below meth c D ty ρ N0 5 _ 8 [some (.ref (ρ 0 0)), some (.int a1), some (.int a2), some (.ref (ρ 30 0)), none] [.int v, .int 0, .ref (ρ 30 0)] r1.2 _ _
      refine a_i2l K (dq 6 rfl) ?_
      refine a_last K (dq 7 rfl) ?_
      refine a_goto K (tgt := 21) (dq 8 rfl) rfl ?_
      refine a_iconst K (dq 15 rfl) (v := 0) rfl ?_
      obtain rfl := Option.some.inj h
      exact a_iret K rfl rfl (dq 16 rfl) (Nat.le_of_ble_eq_true rfl) (Nat.le_of_ble_eq_true rfl) rfl rfl
    · rw [hr] at ho
      cases ho
  · rcases hr : r1.1 with v | E9
    · rw [hr] at ho
      cases ho
    · have h := sm_r hr h
      rw [hr] at ho
      cases ho
      by_cases c0 : E = "java/lang/IndexOutOfBoundsException"
      · have h := ite_t c0 h
        subst c0
        refine a_catch K hT [] ⟨0, 10, 13, 38⟩ [⟨0, 10, 17, 45⟩] rfl (fun z hz => nomatch hz) rfl (by decide) (name := "java/lang/IndexOutOfBoundsException") (gwp 547 (by decide +kernel) rfl) (List.mem_of_getElem? (i := 582) (by decide +kernel)) (fun q => ?_)
        refine a_astore K (dq 9 rfl) (Nat.le_of_ble_eq_true rfl) (ls' := [some (.ref (ρ 0 0)), some (.int a1), some (.int a2), some (.ref (ρ 30 0)), some (.ref q)]) rfl ?_
        refine a_iconst K (dq 10 rfl) (v := 1) rfl ?_
        obtain rfl := Option.some.inj h
        exact a_iret K rfl rfl (dq 11 rfl) (Nat.le_of_ble_eq_true rfl) (Nat.le_of_ble_eq_true rfl) rfl rfl
      · have h := ite_f c0 h
        by_cases c1 : E = "java/util/NoSuchElementException"
        · have h := ite_t c1 h
          subst c1
          refine a_catch K hT [⟨0, 10, 13, 38⟩] ⟨0, 10, 17, 45⟩ [] rfl (fun z hz => by rcases List.mem_singleton.mp hz with rfl; exact ⟨by decide, "java/lang/IndexOutOfBoundsException", gwp 547 (by decide +kernel) rfl, nc_NoSuchElement_IndexOutOfBounds⟩) rfl (by decide) (name := "java/util/NoSuchElementException") (gwp 628 (by decide +kernel) rfl) (List.mem_of_getElem? (i := 639) (by decide +kernel)) (fun q => ?_)
          refine a_astore K (dq 12 rfl) (Nat.le_of_ble_eq_true rfl) (ls' := [some (.ref (ρ 0 0)), some (.int a1), some (.int a2), some (.ref (ρ 30 0)), some (.ref q)]) rfl ?_
          refine a_iconst K (dq 13 rfl) (v := 2) rfl ?_
          obtain rfl := Option.some.inj h
          exact a_iret K rfl rfl (dq 14 rfl) (Nat.le_of_ble_eq_true rfl) (Nat.le_of_ble_eq_true rfl) rfl rfl
        · have h := ite_f c1 h
          cases h
theorem cw_L_dearest : CwH RL yL_dearest cL_dearest 5 (some .int) [(0, 10, 13, 38), (0, 10, 17, 45)] 4 := ⟨gwp 704 (by decide +kernel) rfl, gwp 703 (by decide +kernel) rfl, gwp 0 (by decide +kernel) rfl, by decide +kernel⟩
def t_L_isJoined : List (Nat × Instr × Nat) := [(0, .aload_n 3, 1), (1, .iconst 0, 1), (2, .aload_n 0, 1), (3, .iload_n 1, 1), (4, .iload_n 2, 1), (5, .invokevirtual 65, 3), (8, .ifCond .eq 7, 3), (11, .lconst 1, 1), (12, .goto 4, 3), (15, .lconst 0, 1), (16, .lastore, 1), (17, .goto 7, 3), (20, .astore 4, 2), (22, .iconst 1, 1), (23, .ireturn, 1), (24, .iconst 0, 1), (25, .ireturn, 1)]
theorem dt_L_isJoined : tblOK cL_isJoined t_L_isJoined = true := by decide +kernel
def p_L_isJoined (a1 : Int32) (a2 : Int32) (σ : Sg) : Option (Int32 × Sg) := (p_X6_isJoined a1 a2 σ).bind fun r1 => sm r1.1 (fun v => some (0, sL r1.2 (if v = 0 then 0 else 1))) (fun E => if E = "java/lang/IndexOutOfBoundsException" then some (1, r1.2) else (none))
set_option maxRecDepth 20000 in
set_option maxHeartbeats 1000000 in
theorem s_L_isJoined {l : Launch} {D : va_G} {ty : Nat → ClassId} {ρ : Nat → Nat → Nat} {N0 : Nat} (S : St l ty ρ N0) (a1 : Int32) (a2 : Int32) (σ : Sg) (r : (Int32 × Sg)) (h : p_L_isJoined a1 a2 σ = some r) : AMet l D ty ρ N0 yL_isJoined (Cond.codeWith yL_isJoined cL_isJoined 5 (some .int) [(0, 17, 20, 38)] :: GW) (rmk 5 2 12) [.ref (ρ 0 0), .int a1, .int a2, .ref (ρ 30 0)] σ (oI r.1) r.2 := by
  refine am_enterH S (by decide) rfl rfl (Nat.le_of_ble_eq_true rfl) ?_
  intro p e s m args below meth c K hT
  have dq := @tat _ _ dt_L_isJoined
  unfold p_L_isJoined at h
  obtain ⟨r1, h1, h⟩ := bnd h
  show WA p l e _ s m args below meth c D ty ρ N0 5 _ 0 [some (.ref (ρ 0 0)), some (.int a1), some (.int a2), some (.ref (ρ 30 0)), none] [] σ 0 0
  refine a_aload_n K (dq 0 rfl) rfl rfl ?_
  refine a_iconst K (dq 1 rfl) (v := 0) rfl ?_
  refine a_aload_n K (dq 2 rfl) rfl rfl ?_
  refine a_iload_n K (dq 3 rfl) rfl rfl ?_
  refine a_iload_n K (dq 4 rfl) rfl rfl ?_
  refine a_callV K (s_X6_isJoined (ρ := ρ) S a1 a2 σ r1 h1) v_0 rfl rfl cw_X6_isJoined.1 ml_L_65 cw_X6_isJoined.2.1 cw_X6_isJoined.2.2.1 cw_X6_isJoined.2.2.2.1 cw_X6_isJoined.2.2.2.2 (by decide) rfl (rest := [.int 0, .ref (ρ 30 0)]) rfl (Nat.le_of_ble_eq_true rfl) (dq 5 rfl) (by decide) (fun ov ho => ?_) (fun E ho => ?_)
  · rcases hr : r1.1 with v | E9
    · have h := sm_l hr h
      rw [hr] at ho
      cases ho
      show WA p l e _ s m args below meth c D ty ρ N0 5 _ 8 [some (.ref (ρ 0 0)), some (.int a1), some (.int a2), some (.ref (ρ 30 0)), none] [.int v, .int 0, .ref (ρ 30 0)] r1.2 _ _
      refine a_if_eq K (tgt := 15) (dq 6 rfl) rfl (fun c1 => ?_) (fun c1 => ?_)
      · rw [if_pos c1] at h
        refine a_lconst K (dq 9 rfl) (v := 0) rfl ?_
        refine a_last K (dq 10 rfl) ?_
        refine a_goto K (tgt := 24) (dq 11 rfl) rfl ?_
        refine a_iconst K (dq 15 rfl) (v := 0) rfl ?_
        obtain rfl := Option.some.inj h
        exact a_iret K rfl rfl (dq 16 rfl) (Nat.le_of_ble_eq_true rfl) (Nat.le_of_ble_eq_true rfl) rfl rfl
      · rw [if_neg c1] at h
        refine a_lconst K (dq 7 rfl) (v := 1) rfl ?_
        refine a_goto K (tgt := 16) (dq 8 rfl) rfl ?_
        refine a_last K (dq 10 rfl) ?_
        refine a_goto K (tgt := 24) (dq 11 rfl) rfl ?_
        refine a_iconst K (dq 15 rfl) (v := 0) rfl ?_
        obtain rfl := Option.some.inj h
        exact a_iret K rfl rfl (dq 16 rfl) (Nat.le_of_ble_eq_true rfl) (Nat.le_of_ble_eq_true rfl) rfl rfl
    · rw [hr] at ho
      cases ho
  · rcases hr : r1.1 with v | E9
    · rw [hr] at ho
      cases ho
    · have h := sm_r hr h
      rw [hr] at ho
      cases ho
      by_cases c0 : E = "java/lang/IndexOutOfBoundsException"
      · have h := ite_t c0 h
        subst c0
        refine a_catch K hT [] ⟨0, 17, 20, 38⟩ [] rfl (fun z hz => nomatch hz) rfl (by decide) (name := "java/lang/IndexOutOfBoundsException") (gwp 547 (by decide +kernel) rfl) (List.mem_of_getElem? (i := 582) (by decide +kernel)) (fun q => ?_)
        refine a_astore K (dq 12 rfl) (Nat.le_of_ble_eq_true rfl) (ls' := [some (.ref (ρ 0 0)), some (.int a1), some (.int a2), some (.ref (ρ 30 0)), some (.ref q)]) rfl ?_
        refine a_iconst K (dq 13 rfl) (v := 1) rfl ?_
        obtain rfl := Option.some.inj h
        exact a_iret K rfl rfl (dq 14 rfl) (Nat.le_of_ble_eq_true rfl) (Nat.le_of_ble_eq_true rfl) rfl rfl
      · have h := ite_f c0 h
        cases h
theorem cw_L_isJoined : CwH RL yL_isJoined cL_isJoined 5 (some .int) [(0, 17, 20, 38)] 4 := ⟨gwp 711 (by decide +kernel) rfl, gwp 710 (by decide +kernel) rfl, gwp 0 (by decide +kernel) rfl, by decide +kernel⟩
def t_L_isTrack : List (Nat × Instr × Nat) := [(0, .aload_n 3, 1), (1, .iconst 0, 1), (2, .aload_n 0, 1), (3, .iload_n 1, 1), (4, .iload_n 2, 1), (5, .invokevirtual 69, 3), (8, .ifCond .eq 7, 3), (11, .lconst 1, 1), (12, .goto 4, 3), (15, .lconst 0, 1), (16, .lastore, 1), (17, .goto 7, 3), (20, .astore 4, 2), (22, .iconst 1, 1), (23, .ireturn, 1), (24, .iconst 0, 1), (25, .ireturn, 1)]
theorem dt_L_isTrack : tblOK cL_isTrack t_L_isTrack = true := by decide +kernel
def p_L_isTrack (a1 : Int32) (a2 : Int32) (σ : Sg) : Option (Int32 × Sg) := (p_X6_isTrack a1 a2 σ).bind fun r1 => sm r1.1 (fun v => some (0, sL r1.2 (if v = 0 then 0 else 1))) (fun E => if E = "java/lang/IndexOutOfBoundsException" then some (1, r1.2) else (none))
set_option maxRecDepth 20000 in
set_option maxHeartbeats 1000000 in
theorem s_L_isTrack {l : Launch} {D : va_G} {ty : Nat → ClassId} {ρ : Nat → Nat → Nat} {N0 : Nat} (S : St l ty ρ N0) (a1 : Int32) (a2 : Int32) (σ : Sg) (r : (Int32 × Sg)) (h : p_L_isTrack a1 a2 σ = some r) : AMet l D ty ρ N0 yL_isTrack (Cond.codeWith yL_isTrack cL_isTrack 5 (some .int) [(0, 17, 20, 38)] :: GW) (rmk 4 2 12) [.ref (ρ 0 0), .int a1, .int a2, .ref (ρ 30 0)] σ (oI r.1) r.2 := by
  refine am_enterH S (by decide) rfl rfl (Nat.le_of_ble_eq_true rfl) ?_
  intro p e s m args below meth c K hT
  have dq := @tat _ _ dt_L_isTrack
  unfold p_L_isTrack at h
  obtain ⟨r1, h1, h⟩ := bnd h
  show WA p l e _ s m args below meth c D ty ρ N0 5 _ 0 [some (.ref (ρ 0 0)), some (.int a1), some (.int a2), some (.ref (ρ 30 0)), none] [] σ 0 0
  refine a_aload_n K (dq 0 rfl) rfl rfl ?_
  refine a_iconst K (dq 1 rfl) (v := 0) rfl ?_
  refine a_aload_n K (dq 2 rfl) rfl rfl ?_
  refine a_iload_n K (dq 3 rfl) rfl rfl ?_
  refine a_iload_n K (dq 4 rfl) rfl rfl ?_
  refine a_callV K (s_X6_isTrack (ρ := ρ) S a1 a2 σ r1 h1) v_0 rfl rfl cw_X6_isTrack.1 ml_L_69 cw_X6_isTrack.2.1 cw_X6_isTrack.2.2.1 cw_X6_isTrack.2.2.2.1 cw_X6_isTrack.2.2.2.2 (by decide) rfl (rest := [.int 0, .ref (ρ 30 0)]) rfl (Nat.le_of_ble_eq_true rfl) (dq 5 rfl) (by decide) (fun ov ho => ?_) (fun E ho => ?_)
  · rcases hr : r1.1 with v | E9
    · have h := sm_l hr h
      rw [hr] at ho
      cases ho
      show WA p l e _ s m args below meth c D ty ρ N0 5 _ 8 [some (.ref (ρ 0 0)), some (.int a1), some (.int a2), some (.ref (ρ 30 0)), none] [.int v, .int 0, .ref (ρ 30 0)] r1.2 _ _
      refine a_if_eq K (tgt := 15) (dq 6 rfl) rfl (fun c1 => ?_) (fun c1 => ?_)
      · rw [if_pos c1] at h
        refine a_lconst K (dq 9 rfl) (v := 0) rfl ?_
        refine a_last K (dq 10 rfl) ?_
        refine a_goto K (tgt := 24) (dq 11 rfl) rfl ?_
        refine a_iconst K (dq 15 rfl) (v := 0) rfl ?_
        obtain rfl := Option.some.inj h
        exact a_iret K rfl rfl (dq 16 rfl) (Nat.le_of_ble_eq_true rfl) (Nat.le_of_ble_eq_true rfl) rfl rfl
      · rw [if_neg c1] at h
        refine a_lconst K (dq 7 rfl) (v := 1) rfl ?_
        refine a_goto K (tgt := 16) (dq 8 rfl) rfl ?_
        refine a_last K (dq 10 rfl) ?_
        refine a_goto K (tgt := 24) (dq 11 rfl) rfl ?_
        refine a_iconst K (dq 15 rfl) (v := 0) rfl ?_
        obtain rfl := Option.some.inj h
        exact a_iret K rfl rfl (dq 16 rfl) (Nat.le_of_ble_eq_true rfl) (Nat.le_of_ble_eq_true rfl) rfl rfl
    · rw [hr] at ho
      cases ho
  · rcases hr : r1.1 with v | E9
    · rw [hr] at ho
      cases ho
    · have h := sm_r hr h
      rw [hr] at ho
      cases ho
      by_cases c0 : E = "java/lang/IndexOutOfBoundsException"
      · have h := ite_t c0 h
        subst c0
        refine a_catch K hT [] ⟨0, 17, 20, 38⟩ [] rfl (fun z hz => nomatch hz) rfl (by decide) (name := "java/lang/IndexOutOfBoundsException") (gwp 547 (by decide +kernel) rfl) (List.mem_of_getElem? (i := 582) (by decide +kernel)) (fun q => ?_)
        refine a_astore K (dq 12 rfl) (Nat.le_of_ble_eq_true rfl) (ls' := [some (.ref (ρ 0 0)), some (.int a1), some (.int a2), some (.ref (ρ 30 0)), some (.ref q)]) rfl ?_
        refine a_iconst K (dq 13 rfl) (v := 1) rfl ?_
        obtain rfl := Option.some.inj h
        exact a_iret K rfl rfl (dq 14 rfl) (Nat.le_of_ble_eq_true rfl) (Nat.le_of_ble_eq_true rfl) rfl rfl
      · have h := ite_f c0 h
        cases h
theorem cw_L_isTrack : CwH RL yL_isTrack cL_isTrack 5 (some .int) [(0, 17, 20, 38)] 4 := ⟨gwp 718 (by decide +kernel) rfl, gwp 717 (by decide +kernel) rfl, gwp 0 (by decide +kernel) rfl, by decide +kernel⟩
def t_L_exposed : List (Nat × Instr × Nat) := [(0, .aload_n 3, 1), (1, .iconst 0, 1), (2, .aload_n 0, 1), (3, .iload_n 1, 1), (4, .iload_n 2, 1), (5, .invokevirtual 72, 3), (8, .i2l, 1), (9, .lastore, 1), (10, .goto 11, 3), (13, .astore 4, 2), (15, .iconst 1, 1), (16, .ireturn, 1), (17, .astore 4, 2), (19, .iconst 2, 1), (20, .ireturn, 1), (21, .iconst 0, 1), (22, .ireturn, 1)]
theorem dt_L_exposed : tblOK cL_exposed t_L_exposed = true := by decide +kernel
def p_L_exposed (a1 : Int32) (a2 : Int32) (σ : Sg) : Option (Int32 × Sg) := (p_X6_exposed a1 a2 σ).bind fun r1 => sm r1.1 (fun v => some (0, sL r1.2 v.toInt64)) (fun E => if E = "java/lang/IndexOutOfBoundsException" then some (1, r1.2) else (if E = "java/util/NoSuchElementException" then some (2, r1.2) else (none)))
set_option maxRecDepth 20000 in
set_option maxHeartbeats 1000000 in
theorem s_L_exposed {l : Launch} {D : va_G} {ty : Nat → ClassId} {ρ : Nat → Nat → Nat} {N0 : Nat} (S : St l ty ρ N0) (a1 : Int32) (a2 : Int32) (σ : Sg) (r : (Int32 × Sg)) (h : p_L_exposed a1 a2 σ = some r) : AMet l D ty ρ N0 yL_exposed (Cond.codeWith yL_exposed cL_exposed 5 (some .int) [(0, 10, 13, 38), (0, 10, 17, 45)] :: GW) (rmk 4 2 12) [.ref (ρ 0 0), .int a1, .int a2, .ref (ρ 30 0)] σ (oI r.1) r.2 := by
  refine am_enterH S (by decide) rfl rfl (Nat.le_of_ble_eq_true rfl) ?_
  intro p e s m args below meth c K hT
  have dq := @tat _ _ dt_L_exposed
  unfold p_L_exposed at h
  obtain ⟨r1, h1, h⟩ := bnd h
  show WA p l e _ s m args below meth c D ty ρ N0 5 _ 0 [some (.ref (ρ 0 0)), some (.int a1), some (.int a2), some (.ref (ρ 30 0)), none] [] σ 0 0
  refine a_aload_n K (dq 0 rfl) rfl rfl ?_
  refine a_iconst K (dq 1 rfl) (v := 0) rfl ?_
  refine a_aload_n K (dq 2 rfl) rfl rfl ?_
  refine a_iload_n K (dq 3 rfl) rfl rfl ?_
  refine a_iload_n K (dq 4 rfl) rfl rfl ?_
  refine a_callV K (s_X6_exposed (ρ := ρ) S a1 a2 σ r1 h1) v_0 rfl rfl cw_X6_exposed.1 ml_L_72 cw_X6_exposed.2.1 cw_X6_exposed.2.2.1 cw_X6_exposed.2.2.2.1 cw_X6_exposed.2.2.2.2 (by decide) rfl (rest := [.int 0, .ref (ρ 30 0)]) rfl (Nat.le_of_ble_eq_true rfl) (dq 5 rfl) (by decide) (fun ov ho => ?_) (fun E ho => ?_)
  · rcases hr : r1.1 with v | E9
    · have h := sm_l hr h
      rw [hr] at ho
      cases ho
      show WA p l e _ s m args below meth c D ty ρ N0 5 _ 8 [some (.ref (ρ 0 0)), some (.int a1), some (.int a2), some (.ref (ρ 30 0)), none] [.int v, .int 0, .ref (ρ 30 0)] r1.2 _ _
      refine a_i2l K (dq 6 rfl) ?_
      refine a_last K (dq 7 rfl) ?_
      refine a_goto K (tgt := 21) (dq 8 rfl) rfl ?_
      refine a_iconst K (dq 15 rfl) (v := 0) rfl ?_
      obtain rfl := Option.some.inj h
      exact a_iret K rfl rfl (dq 16 rfl) (Nat.le_of_ble_eq_true rfl) (Nat.le_of_ble_eq_true rfl) rfl rfl
    · rw [hr] at ho
      cases ho
  · rcases hr : r1.1 with v | E9
    · rw [hr] at ho
      cases ho
    · have h := sm_r hr h
      rw [hr] at ho
      cases ho
      by_cases c0 : E = "java/lang/IndexOutOfBoundsException"
      · have h := ite_t c0 h
        subst c0
        refine a_catch K hT [] ⟨0, 10, 13, 38⟩ [⟨0, 10, 17, 45⟩] rfl (fun z hz => nomatch hz) rfl (by decide) (name := "java/lang/IndexOutOfBoundsException") (gwp 547 (by decide +kernel) rfl) (List.mem_of_getElem? (i := 582) (by decide +kernel)) (fun q => ?_)
        refine a_astore K (dq 9 rfl) (Nat.le_of_ble_eq_true rfl) (ls' := [some (.ref (ρ 0 0)), some (.int a1), some (.int a2), some (.ref (ρ 30 0)), some (.ref q)]) rfl ?_
        refine a_iconst K (dq 10 rfl) (v := 1) rfl ?_
        obtain rfl := Option.some.inj h
        exact a_iret K rfl rfl (dq 11 rfl) (Nat.le_of_ble_eq_true rfl) (Nat.le_of_ble_eq_true rfl) rfl rfl
      · have h := ite_f c0 h
        by_cases c1 : E = "java/util/NoSuchElementException"
        · have h := ite_t c1 h
          subst c1
          refine a_catch K hT [⟨0, 10, 13, 38⟩] ⟨0, 10, 17, 45⟩ [] rfl (fun z hz => by rcases List.mem_singleton.mp hz with rfl; exact ⟨by decide, "java/lang/IndexOutOfBoundsException", gwp 547 (by decide +kernel) rfl, nc_NoSuchElement_IndexOutOfBounds⟩) rfl (by decide) (name := "java/util/NoSuchElementException") (gwp 628 (by decide +kernel) rfl) (List.mem_of_getElem? (i := 639) (by decide +kernel)) (fun q => ?_)
          refine a_astore K (dq 12 rfl) (Nat.le_of_ble_eq_true rfl) (ls' := [some (.ref (ρ 0 0)), some (.int a1), some (.int a2), some (.ref (ρ 30 0)), some (.ref q)]) rfl ?_
          refine a_iconst K (dq 13 rfl) (v := 2) rfl ?_
          obtain rfl := Option.some.inj h
          exact a_iret K rfl rfl (dq 14 rfl) (Nat.le_of_ble_eq_true rfl) (Nat.le_of_ble_eq_true rfl) rfl rfl
        · have h := ite_f c1 h
          cases h
theorem cw_L_exposed : CwH RL yL_exposed cL_exposed 5 (some .int) [(0, 10, 13, 38), (0, 10, 17, 45)] 4 := ⟨gwp 725 (by decide +kernel) rfl, gwp 724 (by decide +kernel) rfl, gwp 0 (by decide +kernel) rfl, by decide +kernel⟩
def t_L_wouldChange : List (Nat × Instr × Nat) := [(0, .aload_n 2, 1), (1, .iconst 0, 1), (2, .aload_n 0, 1), (3, .iload_n 1, 1), (4, .invokevirtual 75, 3), (7, .i2l, 1), (8, .lastore, 1), (9, .goto 6, 3), (12, .astore_n 3, 1), (13, .iconst 1, 1), (14, .ireturn, 1), (15, .iconst 0, 1), (16, .ireturn, 1)]
theorem dt_L_wouldChange : tblOK cL_wouldChange t_L_wouldChange = true := by decide +kernel
def p_L_wouldChange (a1 : Int32) (σ : Sg) : Option (Int32 × Sg) := (p_X6_wouldChange a1 σ).bind fun r1 => sm r1.1 (fun v => some (0, sL r1.2 v.toInt64)) (fun E => if E = "java/lang/IndexOutOfBoundsException" then some (1, r1.2) else (none))
set_option maxRecDepth 20000 in
set_option maxHeartbeats 1000000 in
theorem s_L_wouldChange {l : Launch} {D : va_G} {ty : Nat → ClassId} {ρ : Nat → Nat → Nat} {N0 : Nat} (S : St l ty ρ N0) (a1 : Int32) (σ : Sg) (r : (Int32 × Sg)) (h : p_L_wouldChange a1 σ = some r) : AMet l D ty ρ N0 yL_wouldChange (Cond.codeWith yL_wouldChange cL_wouldChange 4 (some .int) [(0, 9, 12, 38)] :: GW) (rmk 4 1 6) [.ref (ρ 0 0), .int a1, .ref (ρ 30 0)] σ (oI r.1) r.2 := by
  refine am_enterH S (by decide) rfl rfl (Nat.le_of_ble_eq_true rfl) ?_
  intro p e s m args below meth c K hT
  have dq := @tat _ _ dt_L_wouldChange
  unfold p_L_wouldChange at h
  obtain ⟨r1, h1, h⟩ := bnd h
  show WA p l e _ s m args below meth c D ty ρ N0 4 _ 0 [some (.ref (ρ 0 0)), some (.int a1), some (.ref (ρ 30 0)), none] [] σ 0 0
  refine a_aload_n K (dq 0 rfl) rfl rfl ?_
  refine a_iconst K (dq 1 rfl) (v := 0) rfl ?_
  refine a_aload_n K (dq 2 rfl) rfl rfl ?_
  refine a_iload_n K (dq 3 rfl) rfl rfl ?_
  refine a_callV K (s_X6_wouldChange (ρ := ρ) S a1 σ r1 h1) v_0 rfl rfl cw_X6_wouldChange.1 ml_L_75 cw_X6_wouldChange.2.1 cw_X6_wouldChange.2.2.1 cw_X6_wouldChange.2.2.2.1 cw_X6_wouldChange.2.2.2.2 (by decide) rfl (rest := [.int 0, .ref (ρ 30 0)]) rfl (Nat.le_of_ble_eq_true rfl) (dq 4 rfl) (by decide) (fun ov ho => ?_) (fun E ho => ?_)
  · rcases hr : r1.1 with v | E9
    · have h := sm_l hr h
      rw [hr] at ho
      cases ho
      show WA p l e _ s m args below meth c D ty ρ N0 4 _ 7 [some (.ref (ρ 0 0)), some (.int a1), some (.ref (ρ 30 0)), none] [.int v, .int 0, .ref (ρ 30 0)] r1.2 _ _
      refine a_i2l K (dq 5 rfl) ?_
      refine a_last K (dq 6 rfl) ?_
      refine a_goto K (tgt := 15) (dq 7 rfl) rfl ?_
      refine a_iconst K (dq 11 rfl) (v := 0) rfl ?_
      obtain rfl := Option.some.inj h
      exact a_iret K rfl rfl (dq 12 rfl) (Nat.le_of_ble_eq_true rfl) (Nat.le_of_ble_eq_true rfl) rfl rfl
    · rw [hr] at ho
      cases ho
  · rcases hr : r1.1 with v | E9
    · rw [hr] at ho
      cases ho
    · have h := sm_r hr h
      rw [hr] at ho
      cases ho
      by_cases c0 : E = "java/lang/IndexOutOfBoundsException"
      · have h := ite_t c0 h
        subst c0
        refine a_catch K hT [] ⟨0, 9, 12, 38⟩ [] rfl (fun z hz => nomatch hz) rfl (by decide) (name := "java/lang/IndexOutOfBoundsException") (gwp 547 (by decide +kernel) rfl) (List.mem_of_getElem? (i := 582) (by decide +kernel)) (fun q => ?_)
        refine a_astore_n K (dq 8 rfl) rfl (Nat.le_of_ble_eq_true rfl) (ls' := [some (.ref (ρ 0 0)), some (.int a1), some (.ref (ρ 30 0)), some (.ref q)]) rfl ?_
        refine a_iconst K (dq 9 rfl) (v := 1) rfl ?_
        obtain rfl := Option.some.inj h
        exact a_iret K rfl rfl (dq 10 rfl) (Nat.le_of_ble_eq_true rfl) (Nat.le_of_ble_eq_true rfl) rfl rfl
      · have h := ite_f c0 h
        cases h
theorem cw_L_wouldChange : CwH RL yL_wouldChange cL_wouldChange 4 (some .int) [(0, 9, 12, 38)] 3 := ⟨gwp 733 (by decide +kernel) rfl, gwp 732 (by decide +kernel) rfl, gwp 0 (by decide +kernel) rfl, by decide +kernel⟩
def t_L_size : List (Nat × Instr × Nat) := [(0, .aload_n 2, 1), (1, .iconst 0, 1), (2, .aload_n 0, 1), (3, .iload_n 1, 1), (4, .invokevirtual 78, 3), (7, .i2l, 1), (8, .lastore, 1), (9, .goto 6, 3), (12, .astore_n 3, 1), (13, .iconst 1, 1), (14, .ireturn, 1), (15, .iconst 0, 1), (16, .ireturn, 1)]
theorem dt_L_size : tblOK cL_size t_L_size = true := by decide +kernel
def p_L_size (a1 : Int32) (σ : Sg) : Option (Int32 × Sg) := (p_X6_size a1 σ).bind fun r1 => sm r1.1 (fun v => some (0, sL r1.2 v.toInt64)) (fun E => if E = "java/lang/IndexOutOfBoundsException" then some (1, r1.2) else (none))
set_option maxRecDepth 20000 in
set_option maxHeartbeats 1000000 in
theorem s_L_size {l : Launch} {D : va_G} {ty : Nat → ClassId} {ρ : Nat → Nat → Nat} {N0 : Nat} (S : St l ty ρ N0) (a1 : Int32) (σ : Sg) (r : (Int32 × Sg)) (h : p_L_size a1 σ = some r) : AMet l D ty ρ N0 yL_size (Cond.codeWith yL_size cL_size 4 (some .int) [(0, 9, 12, 38)] :: GW) (rmk 5 1 6) [.ref (ρ 0 0), .int a1, .ref (ρ 30 0)] σ (oI r.1) r.2 := by
  refine am_enterH S (by decide) rfl rfl (Nat.le_of_ble_eq_true rfl) ?_
  intro p e s m args below meth c K hT
  have dq := @tat _ _ dt_L_size
  unfold p_L_size at h
  obtain ⟨r1, h1, h⟩ := bnd h
  show WA p l e _ s m args below meth c D ty ρ N0 4 _ 0 [some (.ref (ρ 0 0)), some (.int a1), some (.ref (ρ 30 0)), none] [] σ 0 0
  refine a_aload_n K (dq 0 rfl) rfl rfl ?_
  refine a_iconst K (dq 1 rfl) (v := 0) rfl ?_
  refine a_aload_n K (dq 2 rfl) rfl rfl ?_
  refine a_iload_n K (dq 3 rfl) rfl rfl ?_
  refine a_callV K (s_X6_size (ρ := ρ) S a1 σ r1 h1) v_0 rfl rfl cw_X6_size.1 ml_L_78 cw_X6_size.2.1 cw_X6_size.2.2.1 cw_X6_size.2.2.2.1 cw_X6_size.2.2.2.2 (by decide) rfl (rest := [.int 0, .ref (ρ 30 0)]) rfl (Nat.le_of_ble_eq_true rfl) (dq 4 rfl) (by decide) (fun ov ho => ?_) (fun E ho => ?_)
  · rcases hr : r1.1 with v | E9
    · have h := sm_l hr h
      rw [hr] at ho
      cases ho
      show WA p l e _ s m args below meth c D ty ρ N0 4 _ 7 [some (.ref (ρ 0 0)), some (.int a1), some (.ref (ρ 30 0)), none] [.int v, .int 0, .ref (ρ 30 0)] r1.2 _ _
      refine a_i2l K (dq 5 rfl) ?_
      refine a_last K (dq 6 rfl) ?_
      refine a_goto K (tgt := 15) (dq 7 rfl) rfl ?_
      refine a_iconst K (dq 11 rfl) (v := 0) rfl ?_
      obtain rfl := Option.some.inj h
      exact a_iret K rfl rfl (dq 12 rfl) (Nat.le_of_ble_eq_true rfl) (Nat.le_of_ble_eq_true rfl) rfl rfl
    · rw [hr] at ho
      cases ho
  · rcases hr : r1.1 with v | E9
    · rw [hr] at ho
      cases ho
    · have h := sm_r hr h
      rw [hr] at ho
      cases ho
      by_cases c0 : E = "java/lang/IndexOutOfBoundsException"
      · have h := ite_t c0 h
        subst c0
        refine a_catch K hT [] ⟨0, 9, 12, 38⟩ [] rfl (fun z hz => nomatch hz) rfl (by decide) (name := "java/lang/IndexOutOfBoundsException") (gwp 547 (by decide +kernel) rfl) (List.mem_of_getElem? (i := 582) (by decide +kernel)) (fun q => ?_)
        refine a_astore_n K (dq 8 rfl) rfl (Nat.le_of_ble_eq_true rfl) (ls' := [some (.ref (ρ 0 0)), some (.int a1), some (.ref (ρ 30 0)), some (.ref q)]) rfl ?_
        refine a_iconst K (dq 9 rfl) (v := 1) rfl ?_
        obtain rfl := Option.some.inj h
        exact a_iret K rfl rfl (dq 10 rfl) (Nat.le_of_ble_eq_true rfl) (Nat.le_of_ble_eq_true rfl) rfl rfl
      · have h := ite_f c0 h
        cases h
theorem cw_L_size : CwH RL yL_size cL_size 4 (some .int) [(0, 9, 12, 38)] 3 := ⟨gwp 740 (by decide +kernel) rfl, gwp 739 (by decide +kernel) rfl, gwp 0 (by decide +kernel) rfl, by decide +kernel⟩
def t_L_farthest : List (Nat × Instr × Nat) := [(0, .aload_n 2, 1), (1, .iconst 0, 1), (2, .aload_n 0, 1), (3, .iload_n 1, 1), (4, .invokevirtual 81, 3), (7, .i2l, 1), (8, .lastore, 1), (9, .goto 6, 3), (12, .astore_n 3, 1), (13, .iconst 1, 1), (14, .ireturn, 1), (15, .iconst 0, 1), (16, .ireturn, 1)]
theorem dt_L_farthest : tblOK cL_farthest t_L_farthest = true := by decide +kernel
def p_L_farthest (a1 : Int32) (σ : Sg) : Option (Int32 × Sg) := (p_X6_farthest a1 σ).bind fun r1 => sm r1.1 (fun v => some (0, sL r1.2 v.toInt64)) (fun E => if E = "java/lang/IndexOutOfBoundsException" then some (1, r1.2) else (none))
set_option maxRecDepth 20000 in
set_option maxHeartbeats 1000000 in
theorem s_L_farthest {l : Launch} {D : va_G} {ty : Nat → ClassId} {ρ : Nat → Nat → Nat} {N0 : Nat} (S : St l ty ρ N0) (a1 : Int32) (σ : Sg) (r : (Int32 × Sg)) (h : p_L_farthest a1 σ = some r) : AMet l D ty ρ N0 yL_farthest (Cond.codeWith yL_farthest cL_farthest 4 (some .int) [(0, 9, 12, 38)] :: GW) (rmk 5 1 6) [.ref (ρ 0 0), .int a1, .ref (ρ 30 0)] σ (oI r.1) r.2 := by
  refine am_enterH S (by decide) rfl rfl (Nat.le_of_ble_eq_true rfl) ?_
  intro p e s m args below meth c K hT
  have dq := @tat _ _ dt_L_farthest
  unfold p_L_farthest at h
  obtain ⟨r1, h1, h⟩ := bnd h
  show WA p l e _ s m args below meth c D ty ρ N0 4 _ 0 [some (.ref (ρ 0 0)), some (.int a1), some (.ref (ρ 30 0)), none] [] σ 0 0
  refine a_aload_n K (dq 0 rfl) rfl rfl ?_
  refine a_iconst K (dq 1 rfl) (v := 0) rfl ?_
  refine a_aload_n K (dq 2 rfl) rfl rfl ?_
  refine a_iload_n K (dq 3 rfl) rfl rfl ?_
  refine a_callV K (s_X6_farthest (ρ := ρ) S a1 σ r1 h1) v_0 rfl rfl cw_X6_farthest.1 ml_L_81 cw_X6_farthest.2.1 cw_X6_farthest.2.2.1 cw_X6_farthest.2.2.2.1 cw_X6_farthest.2.2.2.2 (by decide) rfl (rest := [.int 0, .ref (ρ 30 0)]) rfl (Nat.le_of_ble_eq_true rfl) (dq 4 rfl) (by decide) (fun ov ho => ?_) (fun E ho => ?_)
  · rcases hr : r1.1 with v | E9
    · have h := sm_l hr h
      rw [hr] at ho
      cases ho
      show WA p l e _ s m args below meth c D ty ρ N0 4 _ 7 [some (.ref (ρ 0 0)), some (.int a1), some (.ref (ρ 30 0)), none] [.int v, .int 0, .ref (ρ 30 0)] r1.2 _ _
      refine a_i2l K (dq 5 rfl) ?_
      refine a_last K (dq 6 rfl) ?_
      refine a_goto K (tgt := 15) (dq 7 rfl) rfl ?_
      refine a_iconst K (dq 11 rfl) (v := 0) rfl ?_
      obtain rfl := Option.some.inj h
      exact a_iret K rfl rfl (dq 12 rfl) (Nat.le_of_ble_eq_true rfl) (Nat.le_of_ble_eq_true rfl) rfl rfl
    · rw [hr] at ho
      cases ho
  · rcases hr : r1.1 with v | E9
    · rw [hr] at ho
      cases ho
    · have h := sm_r hr h
      rw [hr] at ho
      cases ho
      by_cases c0 : E = "java/lang/IndexOutOfBoundsException"
      · have h := ite_t c0 h
        subst c0
        refine a_catch K hT [] ⟨0, 9, 12, 38⟩ [] rfl (fun z hz => nomatch hz) rfl (by decide) (name := "java/lang/IndexOutOfBoundsException") (gwp 547 (by decide +kernel) rfl) (List.mem_of_getElem? (i := 582) (by decide +kernel)) (fun q => ?_)
        refine a_astore_n K (dq 8 rfl) rfl (Nat.le_of_ble_eq_true rfl) (ls' := [some (.ref (ρ 0 0)), some (.int a1), some (.ref (ρ 30 0)), some (.ref q)]) rfl ?_
        refine a_iconst K (dq 9 rfl) (v := 1) rfl ?_
        obtain rfl := Option.some.inj h
        exact a_iret K rfl rfl (dq 10 rfl) (Nat.le_of_ble_eq_true rfl) (Nat.le_of_ble_eq_true rfl) rfl rfl
      · have h := ite_f c0 h
        cases h
theorem cw_L_farthest : CwH RL yL_farthest cL_farthest 4 (some .int) [(0, 9, 12, 38)] 3 := ⟨gwp 747 (by decide +kernel) rfl, gwp 746 (by decide +kernel) rfl, gwp 0 (by decide +kernel) rfl, by decide +kernel⟩
def t_L_longest : List (Nat × Instr × Nat) := [(0, .aload_n 2, 1), (1, .iconst 0, 1), (2, .aload_n 0, 1), (3, .iload_n 1, 1), (4, .invokevirtual 84, 3), (7, .i2l, 1), (8, .lastore, 1), (9, .goto 6, 3), (12, .astore_n 3, 1), (13, .iconst 1, 1), (14, .ireturn, 1), (15, .iconst 0, 1), (16, .ireturn, 1)]
theorem dt_L_longest : tblOK cL_longest t_L_longest = true := by decide +kernel
def p_L_longest (a1 : Int32) (σ : Sg) : Option (Int32 × Sg) := (p_X6_longest a1 σ).bind fun r1 => sm r1.1 (fun v => some (0, sL r1.2 v.toInt64)) (fun E => if E = "java/lang/IndexOutOfBoundsException" then some (1, r1.2) else (none))
set_option maxRecDepth 20000 in
set_option maxHeartbeats 1000000 in
theorem s_L_longest {l : Launch} {D : va_G} {ty : Nat → ClassId} {ρ : Nat → Nat → Nat} {N0 : Nat} (S : St l ty ρ N0) (a1 : Int32) (σ : Sg) (r : (Int32 × Sg)) (h : p_L_longest a1 σ = some r) : AMet l D ty ρ N0 yL_longest (Cond.codeWith yL_longest cL_longest 4 (some .int) [(0, 9, 12, 38)] :: GW) (rmk 5 1 6) [.ref (ρ 0 0), .int a1, .ref (ρ 30 0)] σ (oI r.1) r.2 := by
  refine am_enterH S (by decide) rfl rfl (Nat.le_of_ble_eq_true rfl) ?_
  intro p e s m args below meth c K hT
  have dq := @tat _ _ dt_L_longest
  unfold p_L_longest at h
  obtain ⟨r1, h1, h⟩ := bnd h
  show WA p l e _ s m args below meth c D ty ρ N0 4 _ 0 [some (.ref (ρ 0 0)), some (.int a1), some (.ref (ρ 30 0)), none] [] σ 0 0
  refine a_aload_n K (dq 0 rfl) rfl rfl ?_
  refine a_iconst K (dq 1 rfl) (v := 0) rfl ?_
  refine a_aload_n K (dq 2 rfl) rfl rfl ?_
  refine a_iload_n K (dq 3 rfl) rfl rfl ?_
  refine a_callV K (s_X6_longest (ρ := ρ) S a1 σ r1 h1) v_0 rfl rfl cw_X6_longest.1 ml_L_84 cw_X6_longest.2.1 cw_X6_longest.2.2.1 cw_X6_longest.2.2.2.1 cw_X6_longest.2.2.2.2 (by decide) rfl (rest := [.int 0, .ref (ρ 30 0)]) rfl (Nat.le_of_ble_eq_true rfl) (dq 4 rfl) (by decide) (fun ov ho => ?_) (fun E ho => ?_)
  · rcases hr : r1.1 with v | E9
    · have h := sm_l hr h
      rw [hr] at ho
      cases ho
      show WA p l e _ s m args below meth c D ty ρ N0 4 _ 7 [some (.ref (ρ 0 0)), some (.int a1), some (.ref (ρ 30 0)), none] [.int v, .int 0, .ref (ρ 30 0)] r1.2 _ _
      refine a_i2l K (dq 5 rfl) ?_
      refine a_last K (dq 6 rfl) ?_
      refine a_goto K (tgt := 15) (dq 7 rfl) rfl ?_
      refine a_iconst K (dq 11 rfl) (v := 0) rfl ?_
      obtain rfl := Option.some.inj h
      exact a_iret K rfl rfl (dq 12 rfl) (Nat.le_of_ble_eq_true rfl) (Nat.le_of_ble_eq_true rfl) rfl rfl
    · rw [hr] at ho
      cases ho
  · rcases hr : r1.1 with v | E9
    · rw [hr] at ho
      cases ho
    · have h := sm_r hr h
      rw [hr] at ho
      cases ho
      by_cases c0 : E = "java/lang/IndexOutOfBoundsException"
      · have h := ite_t c0 h
        subst c0
        refine a_catch K hT [] ⟨0, 9, 12, 38⟩ [] rfl (fun z hz => nomatch hz) rfl (by decide) (name := "java/lang/IndexOutOfBoundsException") (gwp 547 (by decide +kernel) rfl) (List.mem_of_getElem? (i := 582) (by decide +kernel)) (fun q => ?_)
        refine a_astore_n K (dq 8 rfl) rfl (Nat.le_of_ble_eq_true rfl) (ls' := [some (.ref (ρ 0 0)), some (.int a1), some (.ref (ρ 30 0)), some (.ref q)]) rfl ?_
        refine a_iconst K (dq 9 rfl) (v := 1) rfl ?_
        obtain rfl := Option.some.inj h
        exact a_iret K rfl rfl (dq 10 rfl) (Nat.le_of_ble_eq_true rfl) (Nat.le_of_ble_eq_true rfl) rfl rfl
      · have h := ite_f c0 h
        cases h
theorem cw_L_longest : CwH RL yL_longest cL_longest 4 (some .int) [(0, 9, 12, 38)] 3 := ⟨gwp 758 (by decide +kernel) rfl, gwp 757 (by decide +kernel) rfl, gwp 0 (by decide +kernel) rfl, by decide +kernel⟩
def t_L_wouldSplit : List (Nat × Instr × Nat) := [(0, .aload_n 3, 1), (1, .iconst 0, 1), (2, .aload_n 0, 1), (3, .iload_n 1, 1), (4, .iload_n 2, 1), (5, .invokevirtual 87, 3), (8, .i2l, 1), (9, .lastore, 1), (10, .goto 11, 3), (13, .astore 4, 2), (15, .iconst 1, 1), (16, .ireturn, 1), (17, .astore 4, 2), (19, .iconst 2, 1), (20, .ireturn, 1), (21, .iconst 0, 1), (22, .ireturn, 1)]
theorem dt_L_wouldSplit : tblOK cL_wouldSplit t_L_wouldSplit = true := by decide +kernel
def p_L_wouldSplit (a1 : Int32) (a2 : Int32) (σ : Sg) : Option (Int32 × Sg) := (p_X6_wouldSplit a1 a2 σ).bind fun r1 => sm r1.1 (fun v => some (0, sL r1.2 v.toInt64)) (fun E => if E = "java/lang/IndexOutOfBoundsException" then some (1, r1.2) else (if E = "java/util/NoSuchElementException" then some (2, r1.2) else (none)))
set_option maxRecDepth 20000 in
set_option maxHeartbeats 1000000 in
theorem s_L_wouldSplit {l : Launch} {D : va_G} {ty : Nat → ClassId} {ρ : Nat → Nat → Nat} {N0 : Nat} (S : St l ty ρ N0) (a1 : Int32) (a2 : Int32) (σ : Sg) (r : (Int32 × Sg)) (h : p_L_wouldSplit a1 a2 σ = some r) : AMet l D ty ρ N0 yL_wouldSplit (Cond.codeWith yL_wouldSplit cL_wouldSplit 5 (some .int) [(0, 10, 13, 38), (0, 10, 17, 45)] :: GW) (rmk 5 3 18) [.ref (ρ 0 0), .int a1, .int a2, .ref (ρ 30 0)] σ (oI r.1) r.2 := by
  refine am_enterH S (by decide) rfl rfl (Nat.le_of_ble_eq_true rfl) ?_
  intro p e s m args below meth c K hT
  have dq := @tat _ _ dt_L_wouldSplit
  unfold p_L_wouldSplit at h
  obtain ⟨r1, h1, h⟩ := bnd h
  show WA p l e _ s m args below meth c D ty ρ N0 5 _ 0 [some (.ref (ρ 0 0)), some (.int a1), some (.int a2), some (.ref (ρ 30 0)), none] [] σ 0 0
  refine a_aload_n K (dq 0 rfl) rfl rfl ?_
  refine a_iconst K (dq 1 rfl) (v := 0) rfl ?_
  refine a_aload_n K (dq 2 rfl) rfl rfl ?_
  refine a_iload_n K (dq 3 rfl) rfl rfl ?_
  refine a_iload_n K (dq 4 rfl) rfl rfl ?_
  refine a_callV K (s_X6_wouldSplit (ρ := ρ) S a1 a2 σ r1 h1) v_0 rfl rfl cw_X6_wouldSplit.1 ml_L_87 cw_X6_wouldSplit.2.1 cw_X6_wouldSplit.2.2.1 cw_X6_wouldSplit.2.2.2.1 cw_X6_wouldSplit.2.2.2.2 (by decide) rfl (rest := [.int 0, .ref (ρ 30 0)]) rfl (Nat.le_of_ble_eq_true rfl) (dq 5 rfl) (by decide) (fun ov ho => ?_) (fun E ho => ?_)
  · rcases hr : r1.1 with v | E9
    · have h := sm_l hr h
      rw [hr] at ho
      cases ho
      show WA p l e _ s m args below meth c D ty ρ N0 5 _ 8 [some (.ref (ρ 0 0)), some (.int a1), some (.int a2), some (.ref (ρ 30 0)), none] [.int v, .int 0, .ref (ρ 30 0)] r1.2 _ _
      refine a_i2l K (dq 6 rfl) ?_
      refine a_last K (dq 7 rfl) ?_
      refine a_goto K (tgt := 21) (dq 8 rfl) rfl ?_
      refine a_iconst K (dq 15 rfl) (v := 0) rfl ?_
      obtain rfl := Option.some.inj h
      exact a_iret K rfl rfl (dq 16 rfl) (Nat.le_of_ble_eq_true rfl) (Nat.le_of_ble_eq_true rfl) rfl rfl
    · rw [hr] at ho
      cases ho
  · rcases hr : r1.1 with v | E9
    · rw [hr] at ho
      cases ho
    · have h := sm_r hr h
      rw [hr] at ho
      cases ho
      by_cases c0 : E = "java/lang/IndexOutOfBoundsException"
      · have h := ite_t c0 h
        subst c0
        refine a_catch K hT [] ⟨0, 10, 13, 38⟩ [⟨0, 10, 17, 45⟩] rfl (fun z hz => nomatch hz) rfl (by decide) (name := "java/lang/IndexOutOfBoundsException") (gwp 547 (by decide +kernel) rfl) (List.mem_of_getElem? (i := 582) (by decide +kernel)) (fun q => ?_)
        refine a_astore K (dq 9 rfl) (Nat.le_of_ble_eq_true rfl) (ls' := [some (.ref (ρ 0 0)), some (.int a1), some (.int a2), some (.ref (ρ 30 0)), some (.ref q)]) rfl ?_
        refine a_iconst K (dq 10 rfl) (v := 1) rfl ?_
        obtain rfl := Option.some.inj h
        exact a_iret K rfl rfl (dq 11 rfl) (Nat.le_of_ble_eq_true rfl) (Nat.le_of_ble_eq_true rfl) rfl rfl
      · have h := ite_f c0 h
        by_cases c1 : E = "java/util/NoSuchElementException"
        · have h := ite_t c1 h
          subst c1
          refine a_catch K hT [⟨0, 10, 13, 38⟩] ⟨0, 10, 17, 45⟩ [] rfl (fun z hz => by rcases List.mem_singleton.mp hz with rfl; exact ⟨by decide, "java/lang/IndexOutOfBoundsException", gwp 547 (by decide +kernel) rfl, nc_NoSuchElement_IndexOutOfBounds⟩) rfl (by decide) (name := "java/util/NoSuchElementException") (gwp 628 (by decide +kernel) rfl) (List.mem_of_getElem? (i := 639) (by decide +kernel)) (fun q => ?_)
          refine a_astore K (dq 12 rfl) (Nat.le_of_ble_eq_true rfl) (ls' := [some (.ref (ρ 0 0)), some (.int a1), some (.int a2), some (.ref (ρ 30 0)), some (.ref q)]) rfl ?_
          refine a_iconst K (dq 13 rfl) (v := 2) rfl ?_
          obtain rfl := Option.some.inj h
          exact a_iret K rfl rfl (dq 14 rfl) (Nat.le_of_ble_eq_true rfl) (Nat.le_of_ble_eq_true rfl) rfl rfl
        · have h := ite_f c1 h
          cases h
theorem cw_L_wouldSplit : CwH RL yL_wouldSplit cL_wouldSplit 5 (some .int) [(0, 10, 13, 38), (0, 10, 17, 45)] 4 := ⟨gwp 765 (by decide +kernel) rfl, gwp 764 (by decide +kernel) rfl, gwp 0 (by decide +kernel) rfl, by decide +kernel⟩
def t_L_drover : List (Nat × Instr × Nat) := [(0, .aload_n 2, 1), (1, .iconst 0, 1), (2, .aload_n 0, 1), (3, .iload_n 1, 1), (4, .invokevirtual 90, 3), (7, .i2l, 1), (8, .lastore, 1), (9, .goto 6, 3), (12, .astore_n 3, 1), (13, .iconst 1, 1), (14, .ireturn, 1), (15, .iconst 0, 1), (16, .ireturn, 1)]
theorem dt_L_drover : tblOK cL_drover t_L_drover = true := by decide +kernel
def p_L_drover (a1 : Int32) (σ : Sg) : Option (Int32 × Sg) := (p_X6_drover a1 σ).bind fun r1 => sm r1.1 (fun v => some (0, sL r1.2 v.toInt64)) (fun E => if E = "java/lang/IndexOutOfBoundsException" then some (1, r1.2) else (none))
set_option maxRecDepth 20000 in
set_option maxHeartbeats 1000000 in
theorem s_L_drover {l : Launch} {D : va_G} {ty : Nat → ClassId} {ρ : Nat → Nat → Nat} {N0 : Nat} (S : St l ty ρ N0) (a1 : Int32) (σ : Sg) (r : (Int32 × Sg)) (h : p_L_drover a1 σ = some r) : AMet l D ty ρ N0 yL_drover (Cond.codeWith yL_drover cL_drover 4 (some .int) [(0, 9, 12, 38)] :: GW) (rmk 3 1 6) [.ref (ρ 0 0), .int a1, .ref (ρ 30 0)] σ (oI r.1) r.2 := by
  refine am_enterH S (by decide) rfl rfl (Nat.le_of_ble_eq_true rfl) ?_
  intro p e s m args below meth c K hT
  have dq := @tat _ _ dt_L_drover
  unfold p_L_drover at h
  obtain ⟨r1, h1, h⟩ := bnd h
  show WA p l e _ s m args below meth c D ty ρ N0 4 _ 0 [some (.ref (ρ 0 0)), some (.int a1), some (.ref (ρ 30 0)), none] [] σ 0 0
  refine a_aload_n K (dq 0 rfl) rfl rfl ?_
  refine a_iconst K (dq 1 rfl) (v := 0) rfl ?_
  refine a_aload_n K (dq 2 rfl) rfl rfl ?_
  refine a_iload_n K (dq 3 rfl) rfl rfl ?_
  refine a_callV K (s_X6_drover (ρ := ρ) S a1 σ r1 h1) v_0 rfl rfl cw_X6_drover.1 ml_L_90 cw_X6_drover.2.1 cw_X6_drover.2.2.1 cw_X6_drover.2.2.2.1 cw_X6_drover.2.2.2.2 (by decide) rfl (rest := [.int 0, .ref (ρ 30 0)]) rfl (Nat.le_of_ble_eq_true rfl) (dq 4 rfl) (by decide) (fun ov ho => ?_) (fun E ho => ?_)
  · rcases hr : r1.1 with v | E9
    · have h := sm_l hr h
      rw [hr] at ho
      cases ho
      show WA p l e _ s m args below meth c D ty ρ N0 4 _ 7 [some (.ref (ρ 0 0)), some (.int a1), some (.ref (ρ 30 0)), none] [.int v, .int 0, .ref (ρ 30 0)] r1.2 _ _
      refine a_i2l K (dq 5 rfl) ?_
      refine a_last K (dq 6 rfl) ?_
      refine a_goto K (tgt := 15) (dq 7 rfl) rfl ?_
      refine a_iconst K (dq 11 rfl) (v := 0) rfl ?_
      obtain rfl := Option.some.inj h
      exact a_iret K rfl rfl (dq 12 rfl) (Nat.le_of_ble_eq_true rfl) (Nat.le_of_ble_eq_true rfl) rfl rfl
    · rw [hr] at ho
      cases ho
  · rcases hr : r1.1 with v | E9
    · rw [hr] at ho
      cases ho
    · have h := sm_r hr h
      rw [hr] at ho
      cases ho
      by_cases c0 : E = "java/lang/IndexOutOfBoundsException"
      · have h := ite_t c0 h
        subst c0
        refine a_catch K hT [] ⟨0, 9, 12, 38⟩ [] rfl (fun z hz => nomatch hz) rfl (by decide) (name := "java/lang/IndexOutOfBoundsException") (gwp 547 (by decide +kernel) rfl) (List.mem_of_getElem? (i := 582) (by decide +kernel)) (fun q => ?_)
        refine a_astore_n K (dq 8 rfl) rfl (Nat.le_of_ble_eq_true rfl) (ls' := [some (.ref (ρ 0 0)), some (.int a1), some (.ref (ρ 30 0)), some (.ref q)]) rfl ?_
        refine a_iconst K (dq 9 rfl) (v := 1) rfl ?_
        obtain rfl := Option.some.inj h
        exact a_iret K rfl rfl (dq 10 rfl) (Nat.le_of_ble_eq_true rfl) (Nat.le_of_ble_eq_true rfl) rfl rfl
      · have h := ite_f c0 h
        cases h
theorem cw_L_drover : CwH RL yL_drover cL_drover 4 (some .int) [(0, 9, 12, 38)] 3 := ⟨gwp 773 (by decide +kernel) rfl, gwp 772 (by decide +kernel) rfl, gwp 0 (by decide +kernel) rfl, by decide +kernel⟩
def t_L_ranked : List (Nat × Instr × Nat) := [(0, .aload_n 2, 1), (1, .iconst 0, 1), (2, .aload_n 0, 1), (3, .iload_n 1, 1), (4, .invokevirtual 93, 3), (7, .i2l, 1), (8, .lastore, 1), (9, .goto 6, 3), (12, .astore_n 3, 1), (13, .iconst 1, 1), (14, .ireturn, 1), (15, .iconst 0, 1), (16, .ireturn, 1)]
theorem dt_L_ranked : tblOK cL_ranked t_L_ranked = true := by decide +kernel
def p_L_ranked (a1 : Int32) (σ : Sg) : Option (Int32 × Sg) := (p_X6_ranked a1 σ).bind fun r1 => sm r1.1 (fun v => some (0, sL r1.2 v.toInt64)) (fun E => if E = "java/util/NoSuchElementException" then some (1, r1.2) else (none))
set_option maxRecDepth 20000 in
set_option maxHeartbeats 1000000 in
theorem s_L_ranked {l : Launch} {D : va_G} {ty : Nat → ClassId} {ρ : Nat → Nat → Nat} {N0 : Nat} (S : St l ty ρ N0) (a1 : Int32) (σ : Sg) (r : (Int32 × Sg)) (h : p_L_ranked a1 σ = some r) : AMet l D ty ρ N0 yL_ranked (Cond.codeWith yL_ranked cL_ranked 4 (some .int) [(0, 9, 12, 45)] :: GW) (rmk 6 1 6) [.ref (ρ 0 0), .int a1, .ref (ρ 30 0)] σ (oI r.1) r.2 := by
  refine am_enterH S (by decide) rfl rfl (Nat.le_of_ble_eq_true rfl) ?_
  intro p e s m args below meth c K hT
  have dq := @tat _ _ dt_L_ranked
  unfold p_L_ranked at h
  obtain ⟨r1, h1, h⟩ := bnd h
  show WA p l e _ s m args below meth c D ty ρ N0 4 _ 0 [some (.ref (ρ 0 0)), some (.int a1), some (.ref (ρ 30 0)), none] [] σ 0 0
  refine a_aload_n K (dq 0 rfl) rfl rfl ?_
  refine a_iconst K (dq 1 rfl) (v := 0) rfl ?_
  refine a_aload_n K (dq 2 rfl) rfl rfl ?_
  refine a_iload_n K (dq 3 rfl) rfl rfl ?_
  refine a_callV K (s_X6_ranked (ρ := ρ) S a1 σ r1 h1) v_0 rfl rfl cw_X6_ranked.1 ml_L_93 cw_X6_ranked.2.1 cw_X6_ranked.2.2.1 cw_X6_ranked.2.2.2.1 cw_X6_ranked.2.2.2.2 (by decide) rfl (rest := [.int 0, .ref (ρ 30 0)]) rfl (Nat.le_of_ble_eq_true rfl) (dq 4 rfl) (by decide) (fun ov ho => ?_) (fun E ho => ?_)
  · rcases hr : r1.1 with v | E9
    · have h := sm_l hr h
      rw [hr] at ho
      cases ho
      show WA p l e _ s m args below meth c D ty ρ N0 4 _ 7 [some (.ref (ρ 0 0)), some (.int a1), some (.ref (ρ 30 0)), none] [.int v, .int 0, .ref (ρ 30 0)] r1.2 _ _
      refine a_i2l K (dq 5 rfl) ?_
      refine a_last K (dq 6 rfl) ?_
      refine a_goto K (tgt := 15) (dq 7 rfl) rfl ?_
      refine a_iconst K (dq 11 rfl) (v := 0) rfl ?_
      obtain rfl := Option.some.inj h
      exact a_iret K rfl rfl (dq 12 rfl) (Nat.le_of_ble_eq_true rfl) (Nat.le_of_ble_eq_true rfl) rfl rfl
    · rw [hr] at ho
      cases ho
  · rcases hr : r1.1 with v | E9
    · rw [hr] at ho
      cases ho
    · have h := sm_r hr h
      rw [hr] at ho
      cases ho
      by_cases c0 : E = "java/util/NoSuchElementException"
      · have h := ite_t c0 h
        subst c0
        refine a_catch K hT [] ⟨0, 9, 12, 45⟩ [] rfl (fun z hz => nomatch hz) rfl (by decide) (name := "java/util/NoSuchElementException") (gwp 628 (by decide +kernel) rfl) (List.mem_of_getElem? (i := 639) (by decide +kernel)) (fun q => ?_)
        refine a_astore_n K (dq 8 rfl) rfl (Nat.le_of_ble_eq_true rfl) (ls' := [some (.ref (ρ 0 0)), some (.int a1), some (.ref (ρ 30 0)), some (.ref q)]) rfl ?_
        refine a_iconst K (dq 9 rfl) (v := 1) rfl ?_
        obtain rfl := Option.some.inj h
        exact a_iret K rfl rfl (dq 10 rfl) (Nat.le_of_ble_eq_true rfl) (Nat.le_of_ble_eq_true rfl) rfl rfl
      · have h := ite_f c0 h
        cases h
theorem cw_L_ranked : CwH RL yL_ranked cL_ranked 4 (some .int) [(0, 9, 12, 45)] 3 := ⟨gwp 781 (by decide +kernel) rfl, gwp 780 (by decide +kernel) rfl, gwp 0 (by decide +kernel) rfl, by decide +kernel⟩
def t_L_append : List (Nat × Instr × Nat) := [(0, .aload_n 2, 1), (1, .iconst 0, 1), (2, .aload_n 0, 1), (3, .iload_n 1, 1), (4, .invokevirtual 96, 3), (7, .i2l, 1), (8, .lastore, 1), (9, .goto 6, 3), (12, .astore_n 3, 1), (13, .iconst 1, 1), (14, .ireturn, 1), (15, .iconst 0, 1), (16, .ireturn, 1)]
theorem dt_L_append : tblOK cL_append t_L_append = true := by decide +kernel
def p_L_append (a1 : Int32) (σ : Sg) : Option (Int32 × Sg) := (p_X6_append a1 σ).bind fun r1 => sm r1.1 (fun v => some (0, sL r1.2 v.toInt64)) (fun E => if E = "java/lang/IllegalStateException" then some (1, r1.2) else (none))
set_option maxRecDepth 20000 in
set_option maxHeartbeats 1000000 in
theorem s_L_append {l : Launch} {D : va_G} {ty : Nat → ClassId} {ρ : Nat → Nat → Nat} {N0 : Nat} (S : St l ty ρ N0) (a1 : Int32) (σ : Sg) (r : (Int32 × Sg)) (h : p_L_append a1 σ = some r) : AMet l D ty ρ N0 yL_append (Cond.codeWith yL_append cL_append 4 (some .int) [(0, 9, 12, 100)] :: GW) (rmk 3 1 6) [.ref (ρ 0 0), .int a1, .ref (ρ 30 0)] σ (oI r.1) r.2 := by
  refine am_enterH S (by decide) rfl rfl (Nat.le_of_ble_eq_true rfl) ?_
  intro p e s m args below meth c K hT
  have dq := @tat _ _ dt_L_append
  unfold p_L_append at h
  obtain ⟨r1, h1, h⟩ := bnd h
  show WA p l e _ s m args below meth c D ty ρ N0 4 _ 0 [some (.ref (ρ 0 0)), some (.int a1), some (.ref (ρ 30 0)), none] [] σ 0 0
  refine a_aload_n K (dq 0 rfl) rfl rfl ?_
  refine a_iconst K (dq 1 rfl) (v := 0) rfl ?_
  refine a_aload_n K (dq 2 rfl) rfl rfl ?_
  refine a_iload_n K (dq 3 rfl) rfl rfl ?_
  refine a_callV K (s_X6_append (ρ := ρ) S a1 σ r1 h1) v_0 rfl rfl cw_X6_append.1 ml_L_96 cw_X6_append.2.1 cw_X6_append.2.2.1 cw_X6_append.2.2.2.1 cw_X6_append.2.2.2.2 (by decide) rfl (rest := [.int 0, .ref (ρ 30 0)]) rfl (Nat.le_of_ble_eq_true rfl) (dq 4 rfl) (by decide) (fun ov ho => ?_) (fun E ho => ?_)
  · rcases hr : r1.1 with v | E9
    · have h := sm_l hr h
      rw [hr] at ho
      cases ho
      show WA p l e _ s m args below meth c D ty ρ N0 4 _ 7 [some (.ref (ρ 0 0)), some (.int a1), some (.ref (ρ 30 0)), none] [.int v, .int 0, .ref (ρ 30 0)] r1.2 _ _
      refine a_i2l K (dq 5 rfl) ?_
      refine a_last K (dq 6 rfl) ?_
      refine a_goto K (tgt := 15) (dq 7 rfl) rfl ?_
      refine a_iconst K (dq 11 rfl) (v := 0) rfl ?_
      obtain rfl := Option.some.inj h
      exact a_iret K rfl rfl (dq 12 rfl) (Nat.le_of_ble_eq_true rfl) (Nat.le_of_ble_eq_true rfl) rfl rfl
    · rw [hr] at ho
      cases ho
  · rcases hr : r1.1 with v | E9
    · rw [hr] at ho
      cases ho
    · have h := sm_r hr h
      rw [hr] at ho
      cases ho
      by_cases c0 : E = "java/lang/IllegalStateException"
      · have h := ite_t c0 h
        subst c0
        refine a_catch K hT [] ⟨0, 9, 12, 100⟩ [] rfl (fun z hz => nomatch hz) rfl (by decide) (name := "java/lang/IllegalStateException") (gwp 798 (by decide +kernel) rfl) (List.mem_of_getElem? (i := 809) (by decide +kernel)) (fun q => ?_)
        refine a_astore_n K (dq 8 rfl) rfl (Nat.le_of_ble_eq_true rfl) (ls' := [some (.ref (ρ 0 0)), some (.int a1), some (.ref (ρ 30 0)), some (.ref q)]) rfl ?_
        refine a_iconst K (dq 9 rfl) (v := 1) rfl ?_
        obtain rfl := Option.some.inj h
        exact a_iret K rfl rfl (dq 10 rfl) (Nat.le_of_ble_eq_true rfl) (Nat.le_of_ble_eq_true rfl) rfl rfl
      · have h := ite_f c0 h
        cases h
theorem cw_L_append : CwH RL yL_append cL_append 4 (some .int) [(0, 9, 12, 100)] 3 := ⟨gwp 797 (by decide +kernel) rfl, gwp 796 (by decide +kernel) rfl, gwp 0 (by decide +kernel) rfl, by decide +kernel⟩
def t_L_commands : List (Nat × Instr × Nat) := [(0, .aload_n 1, 1), (1, .iconst 0, 1), (2, .aload_n 0, 1), (3, .invokevirtual 102, 3), (6, .i2l, 1), (7, .lastore, 1), (8, .goto 9, 3), (11, .astore_n 2, 1), (12, .iconst 1, 1), (13, .ireturn, 1), (14, .astore_n 2, 1), (15, .iconst 2, 1), (16, .ireturn, 1), (17, .iconst 0, 1), (18, .ireturn, 1)]
theorem dt_L_commands : tblOK cL_commands t_L_commands = true := by decide +kernel
def p_L_commands  (σ : Sg) : Option (Int32 × Sg) := (p_X6_commands  σ).bind fun r1 => sm r1.1 (fun v => some (0, sL r1.2 v.toInt64)) (fun E => if E = "java/lang/IllegalArgumentException" then some (1, r1.2) else (if E = "java/lang/UnsupportedOperationException" then some (2, r1.2) else (none)))
set_option maxRecDepth 20000 in
set_option maxHeartbeats 1000000 in
theorem s_L_commands {l : Launch} {D : va_G} {ty : Nat → ClassId} {ρ : Nat → Nat → Nat} {N0 : Nat} (S : St l ty ρ N0)  (σ : Sg) (r : (Int32 × Sg)) (h : p_L_commands  σ = some r) : AMet l D ty ρ N0 yL_commands (Cond.codeWith yL_commands cL_commands 3 (some .int) [(0, 8, 11, 40), (0, 8, 14, 13)] :: GW) (rmk 8 1 6) [.ref (ρ 0 0), .ref (ρ 30 0)] σ (oI r.1) r.2 := by
  refine am_enterH S (by decide) rfl rfl (Nat.le_of_ble_eq_true rfl) ?_
  intro p e s m args below meth c K hT
  have dq := @tat _ _ dt_L_commands
  unfold p_L_commands at h
  obtain ⟨r1, h1, h⟩ := bnd h
  show WA p l e _ s m args below meth c D ty ρ N0 3 _ 0 [some (.ref (ρ 0 0)), some (.ref (ρ 30 0)), none] [] σ 0 0
  refine a_aload_n K (dq 0 rfl) rfl rfl ?_
  refine a_iconst K (dq 1 rfl) (v := 0) rfl ?_
  refine a_aload_n K (dq 2 rfl) rfl rfl ?_
  refine a_callV K (s_X6_commands (ρ := ρ) S  σ r1 h1) v_0 rfl rfl cw_X6_commands.1 ml_L_102 cw_X6_commands.2.1 cw_X6_commands.2.2.1 cw_X6_commands.2.2.2.1 cw_X6_commands.2.2.2.2 (by decide) rfl (rest := [.int 0, .ref (ρ 30 0)]) rfl (Nat.le_of_ble_eq_true rfl) (dq 3 rfl) (by decide) (fun ov ho => ?_) (fun E ho => ?_)
  · rcases hr : r1.1 with v | E9
    · have h := sm_l hr h
      rw [hr] at ho
      cases ho
      show WA p l e _ s m args below meth c D ty ρ N0 3 _ 6 [some (.ref (ρ 0 0)), some (.ref (ρ 30 0)), none] [.int v, .int 0, .ref (ρ 30 0)] r1.2 _ _
      refine a_i2l K (dq 4 rfl) ?_
      refine a_last K (dq 5 rfl) ?_
      refine a_goto K (tgt := 17) (dq 6 rfl) rfl ?_
      refine a_iconst K (dq 13 rfl) (v := 0) rfl ?_
      obtain rfl := Option.some.inj h
      exact a_iret K rfl rfl (dq 14 rfl) (Nat.le_of_ble_eq_true rfl) (Nat.le_of_ble_eq_true rfl) rfl rfl
    · rw [hr] at ho
      cases ho
  · rcases hr : r1.1 with v | E9
    · rw [hr] at ho
      cases ho
    · have h := sm_r hr h
      rw [hr] at ho
      cases ho
      by_cases c0 : E = "java/lang/IllegalArgumentException"
      · have h := ite_t c0 h
        subst c0
        refine a_catch K hT [] ⟨0, 8, 11, 40⟩ [⟨0, 8, 14, 13⟩] rfl (fun z hz => nomatch hz) rfl (by decide) (name := "java/lang/IllegalArgumentException") (gwp 571 (by decide +kernel) rfl) (List.mem_of_getElem? (i := 611) (by decide +kernel)) (fun q => ?_)
        refine a_astore_n K (dq 7 rfl) rfl (Nat.le_of_ble_eq_true rfl) (ls' := [some (.ref (ρ 0 0)), some (.ref (ρ 30 0)), some (.ref q)]) rfl ?_
        refine a_iconst K (dq 8 rfl) (v := 1) rfl ?_
        obtain rfl := Option.some.inj h
        exact a_iret K rfl rfl (dq 9 rfl) (Nat.le_of_ble_eq_true rfl) (Nat.le_of_ble_eq_true rfl) rfl rfl
      · have h := ite_f c0 h
        by_cases c1 : E = "java/lang/UnsupportedOperationException"
        · have h := ite_t c1 h
          subst c1
          refine a_catch K hT [⟨0, 8, 11, 40⟩] ⟨0, 8, 14, 13⟩ [] rfl (fun z hz => by rcases List.mem_singleton.mp hz with rfl; exact ⟨by decide, "java/lang/IllegalArgumentException", gwp 571 (by decide +kernel) rfl, nc_UnsupportedOperation_IllegalArgument⟩) rfl (by decide) (name := "java/lang/UnsupportedOperationException") (gwp 237 (by decide +kernel) rfl) (List.mem_of_getElem? (i := 344) (by decide +kernel)) (fun q => ?_)
          refine a_astore_n K (dq 10 rfl) rfl (Nat.le_of_ble_eq_true rfl) (ls' := [some (.ref (ρ 0 0)), some (.ref (ρ 30 0)), some (.ref q)]) rfl ?_
          refine a_iconst K (dq 11 rfl) (v := 2) rfl ?_
          obtain rfl := Option.some.inj h
          exact a_iret K rfl rfl (dq 12 rfl) (Nat.le_of_ble_eq_true rfl) (Nat.le_of_ble_eq_true rfl) rfl rfl
        · have h := ite_f c1 h
          cases h
theorem cw_L_commands : CwH RL yL_commands cL_commands 3 (some .int) [(0, 8, 11, 40), (0, 8, 14, 13)] 2 := ⟨gwp 833 (by decide +kernel) rfl, gwp 832 (by decide +kernel) rfl, gwp 0 (by decide +kernel) rfl, by decide +kernel⟩
def t_L_reason : List (Nat × Instr × Nat) := [(0, .aload_n 2, 1), (1, .iconst 0, 1), (2, .aload_n 0, 1), (3, .iload_n 1, 1), (4, .invokevirtual 106, 3), (7, .i2l, 1), (8, .lastore, 1), (9, .goto 9, 3), (12, .astore_n 3, 1), (13, .iconst 1, 1), (14, .ireturn, 1), (15, .astore_n 3, 1), (16, .iconst 2, 1), (17, .ireturn, 1), (18, .iconst 0, 1), (19, .ireturn, 1)]
theorem dt_L_reason : tblOK cL_reason t_L_reason = true := by decide +kernel
def p_L_reason (a1 : Int32) (σ : Sg) : Option (Int32 × Sg) := (p_X6_reason a1 σ).bind fun r1 => sm r1.1 (fun v => some (0, sL r1.2 v.toInt64)) (fun E => if E = "java/lang/IllegalArgumentException" then some (1, r1.2) else (if E = "java/util/NoSuchElementException" then some (2, r1.2) else (none)))
set_option maxRecDepth 20000 in
set_option maxHeartbeats 1000000 in
theorem s_L_reason {l : Launch} {D : va_G} {ty : Nat → ClassId} {ρ : Nat → Nat → Nat} {N0 : Nat} (S : St l ty ρ N0) (a1 : Int32) (σ : Sg) (r : (Int32 × Sg)) (h : p_L_reason a1 σ = some r) : AMet l D ty ρ N0 yL_reason (Cond.codeWith yL_reason cL_reason 4 (some .int) [(0, 9, 12, 40), (0, 9, 15, 45)] :: GW) (rmk 3 1 6) [.ref (ρ 0 0), .int a1, .ref (ρ 30 0)] σ (oI r.1) r.2 := by
  refine am_enterH S (by decide) rfl rfl (Nat.le_of_ble_eq_true rfl) ?_
  intro p e s m args below meth c K hT
  have dq := @tat _ _ dt_L_reason
  unfold p_L_reason at h
  obtain ⟨r1, h1, h⟩ := bnd h
  show WA p l e _ s m args below meth c D ty ρ N0 4 _ 0 [some (.ref (ρ 0 0)), some (.int a1), some (.ref (ρ 30 0)), none] [] σ 0 0
  refine a_aload_n K (dq 0 rfl) rfl rfl ?_
  refine a_iconst K (dq 1 rfl) (v := 0) rfl ?_
  refine a_aload_n K (dq 2 rfl) rfl rfl ?_
  refine a_iload_n K (dq 3 rfl) rfl rfl ?_
  refine a_callV K (s_X6_reason (ρ := ρ) S a1 σ r1 h1) v_0 rfl rfl cw_X6_reason.1 ml_L_106 cw_X6_reason.2.1 cw_X6_reason.2.2.1 cw_X6_reason.2.2.2.1 cw_X6_reason.2.2.2.2 (by decide) rfl (rest := [.int 0, .ref (ρ 30 0)]) rfl (Nat.le_of_ble_eq_true rfl) (dq 4 rfl) (by decide) (fun ov ho => ?_) (fun E ho => ?_)
  · rcases hr : r1.1 with v | E9
    · have h := sm_l hr h
      rw [hr] at ho
      cases ho
      show WA p l e _ s m args below meth c D ty ρ N0 4 _ 7 [some (.ref (ρ 0 0)), some (.int a1), some (.ref (ρ 30 0)), none] [.int v, .int 0, .ref (ρ 30 0)] r1.2 _ _
      refine a_i2l K (dq 5 rfl) ?_
      refine a_last K (dq 6 rfl) ?_
      refine a_goto K (tgt := 18) (dq 7 rfl) rfl ?_
      refine a_iconst K (dq 14 rfl) (v := 0) rfl ?_
      obtain rfl := Option.some.inj h
      exact a_iret K rfl rfl (dq 15 rfl) (Nat.le_of_ble_eq_true rfl) (Nat.le_of_ble_eq_true rfl) rfl rfl
    · rw [hr] at ho
      cases ho
  · rcases hr : r1.1 with v | E9
    · rw [hr] at ho
      cases ho
    · have h := sm_r hr h
      rw [hr] at ho
      cases ho
      by_cases c0 : E = "java/lang/IllegalArgumentException"
      · have h := ite_t c0 h
        subst c0
        refine a_catch K hT [] ⟨0, 9, 12, 40⟩ [⟨0, 9, 15, 45⟩] rfl (fun z hz => nomatch hz) rfl (by decide) (name := "java/lang/IllegalArgumentException") (gwp 571 (by decide +kernel) rfl) (List.mem_of_getElem? (i := 611) (by decide +kernel)) (fun q => ?_)
        refine a_astore_n K (dq 8 rfl) rfl (Nat.le_of_ble_eq_true rfl) (ls' := [some (.ref (ρ 0 0)), some (.int a1), some (.ref (ρ 30 0)), some (.ref q)]) rfl ?_
        refine a_iconst K (dq 9 rfl) (v := 1) rfl ?_
        obtain rfl := Option.some.inj h
        exact a_iret K rfl rfl (dq 10 rfl) (Nat.le_of_ble_eq_true rfl) (Nat.le_of_ble_eq_true rfl) rfl rfl
      · have h := ite_f c0 h
        by_cases c1 : E = "java/util/NoSuchElementException"
        · have h := ite_t c1 h
          subst c1
          refine a_catch K hT [⟨0, 9, 12, 40⟩] ⟨0, 9, 15, 45⟩ [] rfl (fun z hz => by rcases List.mem_singleton.mp hz with rfl; exact ⟨by decide, "java/lang/IllegalArgumentException", gwp 571 (by decide +kernel) rfl, nc_NoSuchElement_IllegalArgument⟩) rfl (by decide) (name := "java/util/NoSuchElementException") (gwp 628 (by decide +kernel) rfl) (List.mem_of_getElem? (i := 639) (by decide +kernel)) (fun q => ?_)
          refine a_astore_n K (dq 11 rfl) rfl (Nat.le_of_ble_eq_true rfl) (ls' := [some (.ref (ρ 0 0)), some (.int a1), some (.ref (ρ 30 0)), some (.ref q)]) rfl ?_
          refine a_iconst K (dq 12 rfl) (v := 2) rfl ?_
          obtain rfl := Option.some.inj h
          exact a_iret K rfl rfl (dq 13 rfl) (Nat.le_of_ble_eq_true rfl) (Nat.le_of_ble_eq_true rfl) rfl rfl
        · have h := ite_f c1 h
          cases h
theorem cw_L_reason : CwH RL yL_reason cL_reason 4 (some .int) [(0, 9, 12, 40), (0, 9, 15, 45)] 3 := ⟨gwp 957 (by decide +kernel) rfl, gwp 956 (by decide +kernel) rfl, gwp 0 (by decide +kernel) rfl, by decide +kernel⟩
def t_L_way : List (Nat × Instr × Nat) := [(0, .aload_n 3, 1), (1, .iconst 0, 1), (2, .aload_n 0, 1), (3, .iload_n 1, 1), (4, .iload_n 2, 1), (5, .invokevirtual 109, 3), (8, .i2l, 1), (9, .lastore, 1), (10, .goto 11, 3), (13, .astore 4, 2), (15, .iconst 1, 1), (16, .ireturn, 1), (17, .astore 4, 2), (19, .iconst 2, 1), (20, .ireturn, 1), (21, .iconst 0, 1), (22, .ireturn, 1)]
theorem dt_L_way : tblOK cL_way t_L_way = true := by decide +kernel
def p_L_way (a1 : Int32) (a2 : Int32) (σ : Sg) : Option (Int32 × Sg) := (p_X6_way a1 a2 σ).bind fun r1 => sm r1.1 (fun v => some (0, sL r1.2 v.toInt64)) (fun E => if E = "java/lang/IndexOutOfBoundsException" then some (1, r1.2) else (if E = "java/util/NoSuchElementException" then some (2, r1.2) else (none)))
set_option maxRecDepth 20000 in
set_option maxHeartbeats 1000000 in
theorem s_L_way {l : Launch} {D : va_G} {ty : Nat → ClassId} {ρ : Nat → Nat → Nat} {N0 : Nat} (S : St l ty ρ N0) (a1 : Int32) (a2 : Int32) (σ : Sg) (r : (Int32 × Sg)) (h : p_L_way a1 a2 σ = some r) : AMet l D ty ρ N0 yL_way (Cond.codeWith yL_way cL_way 5 (some .int) [(0, 10, 13, 38), (0, 10, 17, 45)] :: GW) (rmk 5 3 18) [.ref (ρ 0 0), .int a1, .int a2, .ref (ρ 30 0)] σ (oI r.1) r.2 := by
  refine am_enterH S (by decide) rfl rfl (Nat.le_of_ble_eq_true rfl) ?_
  intro p e s m args below meth c K hT
  have dq := @tat _ _ dt_L_way
  unfold p_L_way at h
  obtain ⟨r1, h1, h⟩ := bnd h
  show WA p l e _ s m args below meth c D ty ρ N0 5 _ 0 [some (.ref (ρ 0 0)), some (.int a1), some (.int a2), some (.ref (ρ 30 0)), none] [] σ 0 0
  refine a_aload_n K (dq 0 rfl) rfl rfl ?_
  refine a_iconst K (dq 1 rfl) (v := 0) rfl ?_
  refine a_aload_n K (dq 2 rfl) rfl rfl ?_
  refine a_iload_n K (dq 3 rfl) rfl rfl ?_
  refine a_iload_n K (dq 4 rfl) rfl rfl ?_
  refine a_callV K (s_X6_way (ρ := ρ) S a1 a2 σ r1 h1) v_0 rfl rfl cw_X6_way.1 ml_L_109 cw_X6_way.2.1 cw_X6_way.2.2.1 cw_X6_way.2.2.2.1 cw_X6_way.2.2.2.2 (by decide) rfl (rest := [.int 0, .ref (ρ 30 0)]) rfl (Nat.le_of_ble_eq_true rfl) (dq 5 rfl) (by decide) (fun ov ho => ?_) (fun E ho => ?_)
  · rcases hr : r1.1 with v | E9
    · have h := sm_l hr h
      rw [hr] at ho
      cases ho
      show WA p l e _ s m args below meth c D ty ρ N0 5 _ 8 [some (.ref (ρ 0 0)), some (.int a1), some (.int a2), some (.ref (ρ 30 0)), none] [.int v, .int 0, .ref (ρ 30 0)] r1.2 _ _
      refine a_i2l K (dq 6 rfl) ?_
      refine a_last K (dq 7 rfl) ?_
      refine a_goto K (tgt := 21) (dq 8 rfl) rfl ?_
      refine a_iconst K (dq 15 rfl) (v := 0) rfl ?_
      obtain rfl := Option.some.inj h
      exact a_iret K rfl rfl (dq 16 rfl) (Nat.le_of_ble_eq_true rfl) (Nat.le_of_ble_eq_true rfl) rfl rfl
    · rw [hr] at ho
      cases ho
  · rcases hr : r1.1 with v | E9
    · rw [hr] at ho
      cases ho
    · have h := sm_r hr h
      rw [hr] at ho
      cases ho
      by_cases c0 : E = "java/lang/IndexOutOfBoundsException"
      · have h := ite_t c0 h
        subst c0
        refine a_catch K hT [] ⟨0, 10, 13, 38⟩ [⟨0, 10, 17, 45⟩] rfl (fun z hz => nomatch hz) rfl (by decide) (name := "java/lang/IndexOutOfBoundsException") (gwp 547 (by decide +kernel) rfl) (List.mem_of_getElem? (i := 582) (by decide +kernel)) (fun q => ?_)
        refine a_astore K (dq 9 rfl) (Nat.le_of_ble_eq_true rfl) (ls' := [some (.ref (ρ 0 0)), some (.int a1), some (.int a2), some (.ref (ρ 30 0)), some (.ref q)]) rfl ?_
        refine a_iconst K (dq 10 rfl) (v := 1) rfl ?_
        obtain rfl := Option.some.inj h
        exact a_iret K rfl rfl (dq 11 rfl) (Nat.le_of_ble_eq_true rfl) (Nat.le_of_ble_eq_true rfl) rfl rfl
      · have h := ite_f c0 h
        by_cases c1 : E = "java/util/NoSuchElementException"
        · have h := ite_t c1 h
          subst c1
          refine a_catch K hT [⟨0, 10, 13, 38⟩] ⟨0, 10, 17, 45⟩ [] rfl (fun z hz => by rcases List.mem_singleton.mp hz with rfl; exact ⟨by decide, "java/lang/IndexOutOfBoundsException", gwp 547 (by decide +kernel) rfl, nc_NoSuchElement_IndexOutOfBounds⟩) rfl (by decide) (name := "java/util/NoSuchElementException") (gwp 628 (by decide +kernel) rfl) (List.mem_of_getElem? (i := 639) (by decide +kernel)) (fun q => ?_)
          refine a_astore K (dq 12 rfl) (Nat.le_of_ble_eq_true rfl) (ls' := [some (.ref (ρ 0 0)), some (.int a1), some (.int a2), some (.ref (ρ 30 0)), some (.ref q)]) rfl ?_
          refine a_iconst K (dq 13 rfl) (v := 2) rfl ?_
          obtain rfl := Option.some.inj h
          exact a_iret K rfl rfl (dq 14 rfl) (Nat.le_of_ble_eq_true rfl) (Nat.le_of_ble_eq_true rfl) rfl rfl
        · have h := ite_f c1 h
          cases h
theorem cw_L_way : CwH RL yL_way cL_way 5 (some .int) [(0, 10, 13, 38), (0, 10, 17, 45)] 4 := ⟨gwp 982 (by decide +kernel) rfl, gwp 981 (by decide +kernel) rfl, gwp 0 (by decide +kernel) rfl, by decide +kernel⟩
def t_L_tree : List (Nat × Instr × Nat) := [(0, .aload_n 2, 1), (1, .iconst 0, 1), (2, .aload_n 0, 1), (3, .iload_n 1, 1), (4, .invokevirtual 112, 3), (7, .i2l, 1), (8, .lastore, 1), (9, .goto 6, 3), (12, .astore_n 3, 1), (13, .iconst 1, 1), (14, .ireturn, 1), (15, .iconst 0, 1), (16, .ireturn, 1)]
theorem dt_L_tree : tblOK cL_tree t_L_tree = true := by decide +kernel
def p_L_tree (a1 : Int32) (σ : Sg) : Option (Int32 × Sg) := (p_X6_tree a1 σ).bind fun r1 => sm r1.1 (fun v => some (0, sL r1.2 v.toInt64)) (fun E => if E = "java/lang/IndexOutOfBoundsException" then some (1, r1.2) else (none))
set_option maxRecDepth 20000 in
set_option maxHeartbeats 1000000 in
theorem s_L_tree {l : Launch} {D : va_G} {ty : Nat → ClassId} {ρ : Nat → Nat → Nat} {N0 : Nat} (S : St l ty ρ N0) (a1 : Int32) (σ : Sg) (r : (Int32 × Sg)) (h : p_L_tree a1 σ = some r) : AMet l D ty ρ N0 yL_tree (Cond.codeWith yL_tree cL_tree 4 (some .int) [(0, 9, 12, 38)] :: GW) (rmk 24 1 6) [.ref (ρ 0 0), .int a1, .ref (ρ 30 0)] σ (oI r.1) r.2 := by
  refine am_enterH S (by decide) rfl rfl (Nat.le_of_ble_eq_true rfl) ?_
  intro p e s m args below meth c K hT
  have dq := @tat _ _ dt_L_tree
  unfold p_L_tree at h
  obtain ⟨r1, h1, h⟩ := bnd h
  show WA p l e _ s m args below meth c D ty ρ N0 4 _ 0 [some (.ref (ρ 0 0)), some (.int a1), some (.ref (ρ 30 0)), none] [] σ 0 0
  refine a_aload_n K (dq 0 rfl) rfl rfl ?_
  refine a_iconst K (dq 1 rfl) (v := 0) rfl ?_
  refine a_aload_n K (dq 2 rfl) rfl rfl ?_
  refine a_iload_n K (dq 3 rfl) rfl rfl ?_
  refine a_callV K (s_X6_tree (ρ := ρ) S a1 σ r1 h1) v_0 rfl rfl cw_X6_tree.1 ml_L_112 cw_X6_tree.2.1 cw_X6_tree.2.2.1 cw_X6_tree.2.2.2.1 cw_X6_tree.2.2.2.2 (by decide) rfl (rest := [.int 0, .ref (ρ 30 0)]) rfl (Nat.le_of_ble_eq_true rfl) (dq 4 rfl) (by decide) (fun ov ho => ?_) (fun E ho => ?_)
  · rcases hr : r1.1 with v | E9
    · have h := sm_l hr h
      rw [hr] at ho
      cases ho
      show WA p l e _ s m args below meth c D ty ρ N0 4 _ 7 [some (.ref (ρ 0 0)), some (.int a1), some (.ref (ρ 30 0)), none] [.int v, .int 0, .ref (ρ 30 0)] r1.2 _ _
      refine a_i2l K (dq 5 rfl) ?_
      refine a_last K (dq 6 rfl) ?_
      refine a_goto K (tgt := 15) (dq 7 rfl) rfl ?_
      refine a_iconst K (dq 11 rfl) (v := 0) rfl ?_
      obtain rfl := Option.some.inj h
      exact a_iret K rfl rfl (dq 12 rfl) (Nat.le_of_ble_eq_true rfl) (Nat.le_of_ble_eq_true rfl) rfl rfl
    · rw [hr] at ho
      cases ho
  · rcases hr : r1.1 with v | E9
    · rw [hr] at ho
      cases ho
    · have h := sm_r hr h
      rw [hr] at ho
      cases ho
      by_cases c0 : E = "java/lang/IndexOutOfBoundsException"
      · have h := ite_t c0 h
        subst c0
        refine a_catch K hT [] ⟨0, 9, 12, 38⟩ [] rfl (fun z hz => nomatch hz) rfl (by decide) (name := "java/lang/IndexOutOfBoundsException") (gwp 547 (by decide +kernel) rfl) (List.mem_of_getElem? (i := 582) (by decide +kernel)) (fun q => ?_)
        refine a_astore_n K (dq 8 rfl) rfl (Nat.le_of_ble_eq_true rfl) (ls' := [some (.ref (ρ 0 0)), some (.int a1), some (.ref (ρ 30 0)), some (.ref q)]) rfl ?_
        refine a_iconst K (dq 9 rfl) (v := 1) rfl ?_
        obtain rfl := Option.some.inj h
        exact a_iret K rfl rfl (dq 10 rfl) (Nat.le_of_ble_eq_true rfl) (Nat.le_of_ble_eq_true rfl) rfl rfl
      · have h := ite_f c0 h
        cases h
theorem cw_L_tree : CwH RL yL_tree cL_tree 4 (some .int) [(0, 9, 12, 38)] 3 := ⟨gwp 1006 (by decide +kernel) rfl, gwp 1005 (by decide +kernel) rfl, gwp 0 (by decide +kernel) rfl, by decide +kernel⟩
def t_L_character : List (Nat × Instr × Nat) := [(0, .aload_n 2, 1), (1, .iconst 0, 1), (2, .aload_n 0, 1), (3, .iload_n 1, 1), (4, .invokevirtual 115, 3), (7, .i2l, 1), (8, .lastore, 1), (9, .goto 6, 3), (12, .astore_n 3, 1), (13, .iconst 1, 1), (14, .ireturn, 1), (15, .iconst 0, 1), (16, .ireturn, 1)]
theorem dt_L_character : tblOK cL_character t_L_character = true := by decide +kernel
def p_L_character (a1 : Int32) (σ : Sg) : Option (Int32 × Sg) := (p_X6_character a1 σ).bind fun r1 => sm r1.1 (fun v => some (0, sL r1.2 v.toInt64)) (fun E => if E = "java/lang/IndexOutOfBoundsException" then some (1, r1.2) else (none))
set_option maxRecDepth 20000 in
set_option maxHeartbeats 1000000 in
theorem s_L_character {l : Launch} {D : va_G} {ty : Nat → ClassId} {ρ : Nat → Nat → Nat} {N0 : Nat} (S : St l ty ρ N0) (a1 : Int32) (σ : Sg) (r : (Int32 × Sg)) (h : p_L_character a1 σ = some r) : AMet l D ty ρ N0 yL_character (Cond.codeWith yL_character cL_character 4 (some .int) [(0, 9, 12, 38)] :: GW) (rmk 3 1 6) [.ref (ρ 0 0), .int a1, .ref (ρ 30 0)] σ (oI r.1) r.2 := by
  refine am_enterH S (by decide) rfl rfl (Nat.le_of_ble_eq_true rfl) ?_
  intro p e s m args below meth c K hT
  have dq := @tat _ _ dt_L_character
  unfold p_L_character at h
  obtain ⟨r1, h1, h⟩ := bnd h
  show WA p l e _ s m args below meth c D ty ρ N0 4 _ 0 [some (.ref (ρ 0 0)), some (.int a1), some (.ref (ρ 30 0)), none] [] σ 0 0
  refine a_aload_n K (dq 0 rfl) rfl rfl ?_
  refine a_iconst K (dq 1 rfl) (v := 0) rfl ?_
  refine a_aload_n K (dq 2 rfl) rfl rfl ?_
  refine a_iload_n K (dq 3 rfl) rfl rfl ?_
  refine a_callV K (s_X6_character (ρ := ρ) S a1 σ r1 h1) v_0 rfl rfl cw_X6_character.1 ml_L_115 cw_X6_character.2.1 cw_X6_character.2.2.1 cw_X6_character.2.2.2.1 cw_X6_character.2.2.2.2 (by decide) rfl (rest := [.int 0, .ref (ρ 30 0)]) rfl (Nat.le_of_ble_eq_true rfl) (dq 4 rfl) (by decide) (fun ov ho => ?_) (fun E ho => ?_)
  · rcases hr : r1.1 with v | E9
    · have h := sm_l hr h
      rw [hr] at ho
      cases ho
      show WA p l e _ s m args below meth c D ty ρ N0 4 _ 7 [some (.ref (ρ 0 0)), some (.int a1), some (.ref (ρ 30 0)), none] [.int v, .int 0, .ref (ρ 30 0)] r1.2 _ _
      refine a_i2l K (dq 5 rfl) ?_
      refine a_last K (dq 6 rfl) ?_
      refine a_goto K (tgt := 15) (dq 7 rfl) rfl ?_
      refine a_iconst K (dq 11 rfl) (v := 0) rfl ?_
      obtain rfl := Option.some.inj h
      exact a_iret K rfl rfl (dq 12 rfl) (Nat.le_of_ble_eq_true rfl) (Nat.le_of_ble_eq_true rfl) rfl rfl
    · rw [hr] at ho
      cases ho
  · rcases hr : r1.1 with v | E9
    · rw [hr] at ho
      cases ho
    · have h := sm_r hr h
      rw [hr] at ho
      cases ho
      by_cases c0 : E = "java/lang/IndexOutOfBoundsException"
      · have h := ite_t c0 h
        subst c0
        refine a_catch K hT [] ⟨0, 9, 12, 38⟩ [] rfl (fun z hz => nomatch hz) rfl (by decide) (name := "java/lang/IndexOutOfBoundsException") (gwp 547 (by decide +kernel) rfl) (List.mem_of_getElem? (i := 582) (by decide +kernel)) (fun q => ?_)
        refine a_astore_n K (dq 8 rfl) rfl (Nat.le_of_ble_eq_true rfl) (ls' := [some (.ref (ρ 0 0)), some (.int a1), some (.ref (ρ 30 0)), some (.ref q)]) rfl ?_
        refine a_iconst K (dq 9 rfl) (v := 1) rfl ?_
        obtain rfl := Option.some.inj h
        exact a_iret K rfl rfl (dq 10 rfl) (Nat.le_of_ble_eq_true rfl) (Nat.le_of_ble_eq_true rfl) rfl rfl
      · have h := ite_f c0 h
        cases h
theorem cw_L_character : CwH RL yL_character cL_character 4 (some .int) [(0, 9, 12, 38)] 3 := ⟨gwp 1016 (by decide +kernel) rfl, gwp 1015 (by decide +kernel) rfl, gwp 0 (by decide +kernel) rfl, by decide +kernel⟩
def t_L_meanToll : List (Nat × Instr × Nat) := [(0, .aload_n 1, 1), (1, .iconst 0, 1), (2, .aload_n 0, 1), (3, .invokevirtual 119, 3), (6, .i2l, 1), (7, .lastore, 1), (8, .goto 6, 3), (11, .astore_n 2, 1), (12, .iconst 1, 1), (13, .ireturn, 1), (14, .iconst 0, 1), (15, .ireturn, 1)]
theorem dt_L_meanToll : tblOK cL_meanToll t_L_meanToll = true := by decide +kernel
def p_L_meanToll  (σ : Sg) : Option (Int32 × Sg) := (p_X6_meanToll  σ).bind fun r1 => sm r1.1 (fun v => some (0, sL r1.2 v.toInt64)) (fun E => if E = "java/lang/ArithmeticException" then some (1, r1.2) else (none))
set_option maxRecDepth 20000 in
set_option maxHeartbeats 1000000 in
theorem s_L_meanToll {l : Launch} {D : va_G} {ty : Nat → ClassId} {ρ : Nat → Nat → Nat} {N0 : Nat} (S : St l ty ρ N0)  (σ : Sg) (r : (Int32 × Sg)) (h : p_L_meanToll  σ = some r) : AMet l D ty ρ N0 yL_meanToll (Cond.codeWith yL_meanToll cL_meanToll 3 (some .int) [(0, 8, 11, 122)] :: GW) (rmk 4 1 6) [.ref (ρ 0 0), .ref (ρ 30 0)] σ (oI r.1) r.2 := by
  refine am_enterH S (by decide) rfl rfl (Nat.le_of_ble_eq_true rfl) ?_
  intro p e s m args below meth c K hT
  have dq := @tat _ _ dt_L_meanToll
  unfold p_L_meanToll at h
  obtain ⟨r1, h1, h⟩ := bnd h
  show WA p l e _ s m args below meth c D ty ρ N0 3 _ 0 [some (.ref (ρ 0 0)), some (.ref (ρ 30 0)), none] [] σ 0 0
  refine a_aload_n K (dq 0 rfl) rfl rfl ?_
  refine a_iconst K (dq 1 rfl) (v := 0) rfl ?_
  refine a_aload_n K (dq 2 rfl) rfl rfl ?_
  refine a_callV K (s_X6_meanToll (ρ := ρ) S  σ r1 h1) v_0 rfl rfl cw_X6_meanToll.1 ml_L_119 cw_X6_meanToll.2.1 cw_X6_meanToll.2.2.1 cw_X6_meanToll.2.2.2.1 cw_X6_meanToll.2.2.2.2 (by decide) rfl (rest := [.int 0, .ref (ρ 30 0)]) rfl (Nat.le_of_ble_eq_true rfl) (dq 3 rfl) (by decide) (fun ov ho => ?_) (fun E ho => ?_)
  · rcases hr : r1.1 with v | E9
    · have h := sm_l hr h
      rw [hr] at ho
      cases ho
      show WA p l e _ s m args below meth c D ty ρ N0 3 _ 6 [some (.ref (ρ 0 0)), some (.ref (ρ 30 0)), none] [.int v, .int 0, .ref (ρ 30 0)] r1.2 _ _
      refine a_i2l K (dq 4 rfl) ?_
      refine a_last K (dq 5 rfl) ?_
      refine a_goto K (tgt := 14) (dq 6 rfl) rfl ?_
      refine a_iconst K (dq 10 rfl) (v := 0) rfl ?_
      obtain rfl := Option.some.inj h
      exact a_iret K rfl rfl (dq 11 rfl) (Nat.le_of_ble_eq_true rfl) (Nat.le_of_ble_eq_true rfl) rfl rfl
    · rw [hr] at ho
      cases ho
  · rcases hr : r1.1 with v | E9
    · rw [hr] at ho
      cases ho
    · have h := sm_r hr h
      rw [hr] at ho
      cases ho
      by_cases c0 : E = "java/lang/ArithmeticException"
      · have h := ite_t c0 h
        subst c0
        refine a_catch K hT [] ⟨0, 8, 11, 122⟩ [] rfl (fun z hz => nomatch hz) rfl (by decide) (name := "java/lang/ArithmeticException") (gwp 1029 (by decide +kernel) rfl) (List.mem_of_getElem? (i := 1041) (by decide +kernel)) (fun q => ?_)
        refine a_astore_n K (dq 7 rfl) rfl (Nat.le_of_ble_eq_true rfl) (ls' := [some (.ref (ρ 0 0)), some (.ref (ρ 30 0)), some (.ref q)]) rfl ?_
        refine a_iconst K (dq 8 rfl) (v := 1) rfl ?_
        obtain rfl := Option.some.inj h
        exact a_iret K rfl rfl (dq 9 rfl) (Nat.le_of_ble_eq_true rfl) (Nat.le_of_ble_eq_true rfl) rfl rfl
      · have h := ite_f c0 h
        cases h
theorem cw_L_meanToll : CwH RL yL_meanToll cL_meanToll 3 (some .int) [(0, 8, 11, 122)] 2 := ⟨gwp 1028 (by decide +kernel) rfl, gwp 1027 (by decide +kernel) rfl, gwp 0 (by decide +kernel) rfl, by decide +kernel⟩
def t_L_paidShare : List (Nat × Instr × Nat) := [(0, .aload_n 1, 1), (1, .iconst 0, 1), (2, .aload_n 0, 1), (3, .invokevirtual 124, 3), (6, .dastore, 1), (7, .goto 6, 3), (10, .astore_n 2, 1), (11, .iconst 1, 1), (12, .ireturn, 1), (13, .iconst 0, 1), (14, .ireturn, 1)]
theorem dt_L_paidShare : tblOK cL_paidShare t_L_paidShare = true := by decide +kernel
def p_L_paidShare  (σ : Sg) : Option (Int32 × Sg) := (p_X6_paidShare  σ).bind fun r1 => sm r1.1 (fun v => some (0, sD r1.2 v)) (fun E => if E = "java/lang/ArithmeticException" then some (1, r1.2) else (none))
set_option maxRecDepth 20000 in
set_option maxHeartbeats 1000000 in
theorem s_L_paidShare {l : Launch} {D : va_G} {ty : Nat → ClassId} {ρ : Nat → Nat → Nat} {N0 : Nat} (S : St l ty ρ N0)  (σ : Sg) (r : (Int32 × Sg)) (h : p_L_paidShare  σ = some r) : AMet l D ty ρ N0 yL_paidShare (Cond.codeWith yL_paidShare cL_paidShare 3 (some .int) [(0, 7, 10, 122)] :: GW) (rmk 3 1 6) [.ref (ρ 0 0), .ref (ρ 31 0)] σ (oI r.1) r.2 := by
  refine am_enterH S (by decide) rfl rfl (Nat.le_of_ble_eq_true rfl) ?_
  intro p e s m args below meth c K hT
  have dq := @tat _ _ dt_L_paidShare
  unfold p_L_paidShare at h
  obtain ⟨r1, h1, h⟩ := bnd h
  show WA p l e _ s m args below meth c D ty ρ N0 3 _ 0 [some (.ref (ρ 0 0)), some (.ref (ρ 31 0)), none] [] σ 0 0
  refine a_aload_n K (dq 0 rfl) rfl rfl ?_
  refine a_iconst K (dq 1 rfl) (v := 0) rfl ?_
  refine a_aload_n K (dq 2 rfl) rfl rfl ?_
  refine a_callV K (s_X6_paidShare (ρ := ρ) S  σ r1 h1) v_0 rfl rfl cw_X6_paidShare.1 ml_L_124 cw_X6_paidShare.2.1 cw_X6_paidShare.2.2.1 cw_X6_paidShare.2.2.2.1 cw_X6_paidShare.2.2.2.2 (by decide) rfl (rest := [.int 0, .ref (ρ 31 0)]) rfl (Nat.le_of_ble_eq_true rfl) (dq 3 rfl) (by decide) (fun ov ho => ?_) (fun E ho => ?_)
  · rcases hr : r1.1 with v | E9
    · have h := sm_l hr h
      rw [hr] at ho
      cases ho
      show WA p l e _ s m args below meth c D ty ρ N0 3 _ 6 [some (.ref (ρ 0 0)), some (.ref (ρ 31 0)), none] [.double v, .int 0, .ref (ρ 31 0)] r1.2 _ _
      refine a_dast K (dq 4 rfl) ?_
      refine a_goto K (tgt := 13) (dq 5 rfl) rfl ?_
      refine a_iconst K (dq 9 rfl) (v := 0) rfl ?_
      obtain rfl := Option.some.inj h
      exact a_iret K rfl rfl (dq 10 rfl) (Nat.le_of_ble_eq_true rfl) (Nat.le_of_ble_eq_true rfl) rfl rfl
    · rw [hr] at ho
      cases ho
  · rcases hr : r1.1 with v | E9
    · rw [hr] at ho
      cases ho
    · have h := sm_r hr h
      rw [hr] at ho
      cases ho
      by_cases c0 : E = "java/lang/ArithmeticException"
      · have h := ite_t c0 h
        subst c0
        refine a_catch K hT [] ⟨0, 7, 10, 122⟩ [] rfl (fun z hz => nomatch hz) rfl (by decide) (name := "java/lang/ArithmeticException") (gwp 1029 (by decide +kernel) rfl) (List.mem_of_getElem? (i := 1041) (by decide +kernel)) (fun q => ?_)
        refine a_astore_n K (dq 6 rfl) rfl (Nat.le_of_ble_eq_true rfl) (ls' := [some (.ref (ρ 0 0)), some (.ref (ρ 31 0)), some (.ref q)]) rfl ?_
        refine a_iconst K (dq 7 rfl) (v := 1) rfl ?_
        obtain rfl := Option.some.inj h
        exact a_iret K rfl rfl (dq 8 rfl) (Nat.le_of_ble_eq_true rfl) (Nat.le_of_ble_eq_true rfl) rfl rfl
      · have h := ite_f c0 h
        cases h
theorem cw_L_paidShare : CwH RL yL_paidShare cL_paidShare 3 (some .int) [(0, 7, 10, 122)] 2 := ⟨gwp 1060 (by decide +kernel) rfl, gwp 1059 (by decide +kernel) rfl, gwp 0 (by decide +kernel) rfl, by decide +kernel⟩
def t_L_account : List (Nat × Instr × Nat) := [(0, .aload_n 2, 1), (1, .iconst 0, 1), (2, .aload_n 0, 1), (3, .iload_n 1, 1), (4, .invokevirtual 128, 3), (7, .i2l, 1), (8, .lastore, 1), (9, .goto 6, 3), (12, .astore_n 3, 1), (13, .iconst 1, 1), (14, .ireturn, 1), (15, .iconst 0, 1), (16, .ireturn, 1)]
theorem dt_L_account : tblOK cL_account t_L_account = true := by decide +kernel
def p_L_account (a1 : Int32) (σ : Sg) : Option (Int32 × Sg) := (p_X6_account a1 σ).bind fun r1 => sm r1.1 (fun v => some (0, sL r1.2 v.toInt64)) (fun E => if E = "java/lang/IllegalArgumentException" then some (1, r1.2) else (none))
set_option maxRecDepth 20000 in
set_option maxHeartbeats 1000000 in
theorem s_L_account {l : Launch} {D : va_G} {ty : Nat → ClassId} {ρ : Nat → Nat → Nat} {N0 : Nat} (S : St l ty ρ N0) (a1 : Int32) (σ : Sg) (r : (Int32 × Sg)) (h : p_L_account a1 σ = some r) : AMet l D ty ρ N0 yL_account (Cond.codeWith yL_account cL_account 4 (some .int) [(0, 9, 12, 40)] :: GW) (rmk 4 1 6) [.ref (ρ 0 0), .int a1, .ref (ρ 30 0)] σ (oI r.1) r.2 := by
  refine am_enterH S (by decide) rfl rfl (Nat.le_of_ble_eq_true rfl) ?_
  intro p e s m args below meth c K hT
  have dq := @tat _ _ dt_L_account
  unfold p_L_account at h
  obtain ⟨r1, h1, h⟩ := bnd h
  show WA p l e _ s m args below meth c D ty ρ N0 4 _ 0 [some (.ref (ρ 0 0)), some (.int a1), some (.ref (ρ 30 0)), none] [] σ 0 0
  refine a_aload_n K (dq 0 rfl) rfl rfl ?_
  refine a_iconst K (dq 1 rfl) (v := 0) rfl ?_
  refine a_aload_n K (dq 2 rfl) rfl rfl ?_
  refine a_iload_n K (dq 3 rfl) rfl rfl ?_
  refine a_callV K (s_X6_account (ρ := ρ) S a1 σ r1 h1) v_0 rfl rfl cw_X6_account.1 ml_L_128 cw_X6_account.2.1 cw_X6_account.2.2.1 cw_X6_account.2.2.2.1 cw_X6_account.2.2.2.2 (by decide) rfl (rest := [.int 0, .ref (ρ 30 0)]) rfl (Nat.le_of_ble_eq_true rfl) (dq 4 rfl) (by decide) (fun ov ho => ?_) (fun E ho => ?_)
  · rcases hr : r1.1 with v | E9
    · have h := sm_l hr h
      rw [hr] at ho
      cases ho
      show WA p l e _ s m args below meth c D ty ρ N0 4 _ 7 [some (.ref (ρ 0 0)), some (.int a1), some (.ref (ρ 30 0)), none] [.int v, .int 0, .ref (ρ 30 0)] r1.2 _ _
      refine a_i2l K (dq 5 rfl) ?_
      refine a_last K (dq 6 rfl) ?_
      refine a_goto K (tgt := 15) (dq 7 rfl) rfl ?_
      refine a_iconst K (dq 11 rfl) (v := 0) rfl ?_
      obtain rfl := Option.some.inj h
      exact a_iret K rfl rfl (dq 12 rfl) (Nat.le_of_ble_eq_true rfl) (Nat.le_of_ble_eq_true rfl) rfl rfl
    · rw [hr] at ho
      cases ho
  · rcases hr : r1.1 with v | E9
    · rw [hr] at ho
      cases ho
    · have h := sm_r hr h
      rw [hr] at ho
      cases ho
      by_cases c0 : E = "java/lang/IllegalArgumentException"
      · have h := ite_t c0 h
        subst c0
        refine a_catch K hT [] ⟨0, 9, 12, 40⟩ [] rfl (fun z hz => nomatch hz) rfl (by decide) (name := "java/lang/IllegalArgumentException") (gwp 571 (by decide +kernel) rfl) (List.mem_of_getElem? (i := 611) (by decide +kernel)) (fun q => ?_)
        refine a_astore_n K (dq 8 rfl) rfl (Nat.le_of_ble_eq_true rfl) (ls' := [some (.ref (ρ 0 0)), some (.int a1), some (.ref (ρ 30 0)), some (.ref q)]) rfl ?_
        refine a_iconst K (dq 9 rfl) (v := 1) rfl ?_
        obtain rfl := Option.some.inj h
        exact a_iret K rfl rfl (dq 10 rfl) (Nat.le_of_ble_eq_true rfl) (Nat.le_of_ble_eq_true rfl) rfl rfl
      · have h := ite_f c0 h
        cases h
theorem cw_L_account : CwH RL yL_account cL_account 4 (some .int) [(0, 9, 12, 40)] 3 := ⟨gwp 1076 (by decide +kernel) rfl, gwp 1075 (by decide +kernel) rfl, gwp 0 (by decide +kernel) rfl, by decide +kernel⟩
def t_L_undo : List (Nat × Instr × Nat) := [(0, .aload_n 1, 1), (1, .iconst 0, 1), (2, .aload_n 0, 1), (3, .invokevirtual 131, 3), (6, .i2l, 1), (7, .lastore, 1), (8, .goto 6, 3), (11, .astore_n 2, 1), (12, .iconst 1, 1), (13, .ireturn, 1), (14, .iconst 0, 1), (15, .ireturn, 1)]
theorem dt_L_undo : tblOK cL_undo t_L_undo = true := by decide +kernel
def p_L_undo  (σ : Sg) : Option (Int32 × Sg) := (p_X6_undo  σ).bind fun r1 => sm r1.1 (fun v => some (0, sL r1.2 v.toInt64)) (fun E => if E = "java/lang/IllegalStateException" then some (1, r1.2) else (none))
set_option maxRecDepth 20000 in
set_option maxHeartbeats 1000000 in
theorem s_L_undo {l : Launch} {D : va_G} {ty : Nat → ClassId} {ρ : Nat → Nat → Nat} {N0 : Nat} (S : St l ty ρ N0)  (σ : Sg) (r : (Int32 × Sg)) (h : p_L_undo  σ = some r) : AMet l D ty ρ N0 yL_undo (Cond.codeWith yL_undo cL_undo 3 (some .int) [(0, 8, 11, 100)] :: GW) (rmk 5 1 6) [.ref (ρ 0 0), .ref (ρ 30 0)] σ (oI r.1) r.2 := by
  refine am_enterH S (by decide) rfl rfl (Nat.le_of_ble_eq_true rfl) ?_
  intro p e s m args below meth c K hT
  have dq := @tat _ _ dt_L_undo
  unfold p_L_undo at h
  obtain ⟨r1, h1, h⟩ := bnd h
  show WA p l e _ s m args below meth c D ty ρ N0 3 _ 0 [some (.ref (ρ 0 0)), some (.ref (ρ 30 0)), none] [] σ 0 0
  refine a_aload_n K (dq 0 rfl) rfl rfl ?_
  refine a_iconst K (dq 1 rfl) (v := 0) rfl ?_
  refine a_aload_n K (dq 2 rfl) rfl rfl ?_
  refine a_callV K (s_X6_undo (ρ := ρ) S  σ r1 h1) v_0 rfl rfl cw_X6_undo.1 ml_L_131 cw_X6_undo.2.1 cw_X6_undo.2.2.1 cw_X6_undo.2.2.2.1 cw_X6_undo.2.2.2.2 (by decide) rfl (rest := [.int 0, .ref (ρ 30 0)]) rfl (Nat.le_of_ble_eq_true rfl) (dq 3 rfl) (by decide) (fun ov ho => ?_) (fun E ho => ?_)
  · rcases hr : r1.1 with v | E9
    · have h := sm_l hr h
      rw [hr] at ho
      cases ho
      show WA p l e _ s m args below meth c D ty ρ N0 3 _ 6 [some (.ref (ρ 0 0)), some (.ref (ρ 30 0)), none] [.int v, .int 0, .ref (ρ 30 0)] r1.2 _ _
      refine a_i2l K (dq 4 rfl) ?_
      refine a_last K (dq 5 rfl) ?_
      refine a_goto K (tgt := 14) (dq 6 rfl) rfl ?_
      refine a_iconst K (dq 10 rfl) (v := 0) rfl ?_
      obtain rfl := Option.some.inj h
      exact a_iret K rfl rfl (dq 11 rfl) (Nat.le_of_ble_eq_true rfl) (Nat.le_of_ble_eq_true rfl) rfl rfl
    · rw [hr] at ho
      cases ho
  · rcases hr : r1.1 with v | E9
    · rw [hr] at ho
      cases ho
    · have h := sm_r hr h
      rw [hr] at ho
      cases ho
      by_cases c0 : E = "java/lang/IllegalStateException"
      · have h := ite_t c0 h
        subst c0
        refine a_catch K hT [] ⟨0, 8, 11, 100⟩ [] rfl (fun z hz => nomatch hz) rfl (by decide) (name := "java/lang/IllegalStateException") (gwp 798 (by decide +kernel) rfl) (List.mem_of_getElem? (i := 809) (by decide +kernel)) (fun q => ?_)
        refine a_astore_n K (dq 7 rfl) rfl (Nat.le_of_ble_eq_true rfl) (ls' := [some (.ref (ρ 0 0)), some (.ref (ρ 30 0)), some (.ref q)]) rfl ?_
        refine a_iconst K (dq 8 rfl) (v := 1) rfl ?_
        obtain rfl := Option.some.inj h
        exact a_iret K rfl rfl (dq 9 rfl) (Nat.le_of_ble_eq_true rfl) (Nat.le_of_ble_eq_true rfl) rfl rfl
      · have h := ite_f c0 h
        cases h
theorem cw_L_undo : CwH RL yL_undo cL_undo 3 (some .int) [(0, 8, 11, 100)] 2 := ⟨gwp 1102 (by decide +kernel) rfl, gwp 1101 (by decide +kernel) rfl, gwp 0 (by decide +kernel) rfl, by decide +kernel⟩
def t_L_restore : List (Nat × Instr × Nat) := [(0, .aload_n 1, 1), (1, .iconst 0, 1), (2, .aload_n 0, 1), (3, .invokevirtual 134, 3), (6, .i2l, 1), (7, .lastore, 1), (8, .goto 6, 3), (11, .astore_n 2, 1), (12, .iconst 1, 1), (13, .ireturn, 1), (14, .iconst 0, 1), (15, .ireturn, 1)]
theorem dt_L_restore : tblOK cL_restore t_L_restore = true := by decide +kernel
def p_L_restore  (σ : Sg) : Option (Int32 × Sg) := (p_X6_restore  σ).bind fun r1 => sm r1.1 (fun v => some (0, sL r1.2 v.toInt64)) (fun E => if E = "java/lang/IllegalStateException" then some (1, r1.2) else (none))
set_option maxRecDepth 20000 in
set_option maxHeartbeats 1000000 in
theorem s_L_restore {l : Launch} {D : va_G} {ty : Nat → ClassId} {ρ : Nat → Nat → Nat} {N0 : Nat} (S : St l ty ρ N0)  (σ : Sg) (r : (Int32 × Sg)) (h : p_L_restore  σ = some r) : AMet l D ty ρ N0 yL_restore (Cond.codeWith yL_restore cL_restore 3 (some .int) [(0, 8, 11, 100)] :: GW) (rmk 4 1 6) [.ref (ρ 0 0), .ref (ρ 30 0)] σ (oI r.1) r.2 := by
  refine am_enterH S (by decide) rfl rfl (Nat.le_of_ble_eq_true rfl) ?_
  intro p e s m args below meth c K hT
  have dq := @tat _ _ dt_L_restore
  unfold p_L_restore at h
  obtain ⟨r1, h1, h⟩ := bnd h
  show WA p l e _ s m args below meth c D ty ρ N0 3 _ 0 [some (.ref (ρ 0 0)), some (.ref (ρ 30 0)), none] [] σ 0 0
  refine a_aload_n K (dq 0 rfl) rfl rfl ?_
  refine a_iconst K (dq 1 rfl) (v := 0) rfl ?_
  refine a_aload_n K (dq 2 rfl) rfl rfl ?_
  refine a_callV K (s_X6_restore (ρ := ρ) S  σ r1 h1) v_0 rfl rfl cw_X6_restore.1 ml_L_134 cw_X6_restore.2.1 cw_X6_restore.2.2.1 cw_X6_restore.2.2.2.1 cw_X6_restore.2.2.2.2 (by decide) rfl (rest := [.int 0, .ref (ρ 30 0)]) rfl (Nat.le_of_ble_eq_true rfl) (dq 3 rfl) (by decide) (fun ov ho => ?_) (fun E ho => ?_)
  · rcases hr : r1.1 with v | E9
    · have h := sm_l hr h
      rw [hr] at ho
      cases ho
      show WA p l e _ s m args below meth c D ty ρ N0 3 _ 6 [some (.ref (ρ 0 0)), some (.ref (ρ 30 0)), none] [.int v, .int 0, .ref (ρ 30 0)] r1.2 _ _
      refine a_i2l K (dq 4 rfl) ?_
      refine a_last K (dq 5 rfl) ?_
      refine a_goto K (tgt := 14) (dq 6 rfl) rfl ?_
      refine a_iconst K (dq 10 rfl) (v := 0) rfl ?_
      obtain rfl := Option.some.inj h
      exact a_iret K rfl rfl (dq 11 rfl) (Nat.le_of_ble_eq_true rfl) (Nat.le_of_ble_eq_true rfl) rfl rfl
    · rw [hr] at ho
      cases ho
  · rcases hr : r1.1 with v | E9
    · rw [hr] at ho
      cases ho
    · have h := sm_r hr h
      rw [hr] at ho
      cases ho
      by_cases c0 : E = "java/lang/IllegalStateException"
      · have h := ite_t c0 h
        subst c0
        refine a_catch K hT [] ⟨0, 8, 11, 100⟩ [] rfl (fun z hz => nomatch hz) rfl (by decide) (name := "java/lang/IllegalStateException") (gwp 798 (by decide +kernel) rfl) (List.mem_of_getElem? (i := 809) (by decide +kernel)) (fun q => ?_)
        refine a_astore_n K (dq 7 rfl) rfl (Nat.le_of_ble_eq_true rfl) (ls' := [some (.ref (ρ 0 0)), some (.ref (ρ 30 0)), some (.ref q)]) rfl ?_
        refine a_iconst K (dq 8 rfl) (v := 1) rfl ?_
        obtain rfl := Option.some.inj h
        exact a_iret K rfl rfl (dq 9 rfl) (Nat.le_of_ble_eq_true rfl) (Nat.le_of_ble_eq_true rfl) rfl rfl
      · have h := ite_f c0 h
        cases h
theorem cw_L_restore : CwH RL yL_restore cL_restore 3 (some .int) [(0, 8, 11, 100)] 2 := ⟨gwp 1114 (by decide +kernel) rfl, gwp 1113 (by decide +kernel) rfl, gwp 0 (by decide +kernel) rfl, by decide +kernel⟩

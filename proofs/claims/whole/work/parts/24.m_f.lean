-- ===== the walks of the methods; written by wip/whole/gen.py =====
set_option maxHeartbeats 4000000 in
set_option maxRecDepth 100000 in
theorem m_X10_holds {nn : Nat}  {G : GH} {Q : Int → GH → Prop}  (hnn : 285 ≤ nn) (h : f_X10_holds G Q) : Mt yX10_holds cX10_holds 2 (some .int) 6 134 0 0 [vr 272] (SF nn) G (fun v S' G' => S' = SF nn ∧ qI Q v S' G') (fun E S' G' => S' = SF nn ∧ False) := by
  refine Mt.of (l0 := [some (vr 272), none]) (by decide) (Nat.le_of_ble_eq_true rfl) rfl ?_
  intro κ δ ρ0 X9 E hG
  replace X9 : CX κ δ RX10 cX10_holds 2 (some .int) := X9
  refine a_iconst (pc := 0) X9 dX10_holds_0 ?_
  refine a_istore_n (pc := 1) X9 dX10_holds_1 rfl (Nat.le_of_ble_eq_true rfl) rfl rfl ?_
  refine loopM2 (A := fun x1_1 G_1 => inR x1_1 → GR G_1 → AW κ δ ρ0 nn 2 0 0 2 [some (vr 272), some (vi x1_1)] [] (SF nn) G_1) (fun k_1 hk_1 x1_1 G_1 h h_x1_1 hG_1 => ?_) _ _ h (by decide) hG
  refine a_iload_n (pc := 2) X9 dX10_holds_2 rfl rfl ?_
  refine a_aload_n (pc := 3) X9 dX10_holds_3 rfl rfl ?_
  refine a_getR (pc := 4) X9 (q := 273) okX10 1 rfl wF_X10_9 (is10 hnn) rf10_1 dX10_holds_4 ?_
  refine a_bipush (pc := 7) X9 dX10_holds_7 rfl ?_
  refine a_iald (pc := 9) X9 (ar10_1 hnn) (Nat.le_of_ble_eq_true rfl) (j := 6) rfl (Nat.le_of_ble_eq_true rfl) dX10_holds_9 ?_
  refine a_icmp_ge (pc := 10) (tgt := 33) X9 dX10_holds_10 rfl h_x1_1 (hG_1 _ _) (fun c => ?_) (fun c => ?_)
  · have c_1 := c
    have h := h.1 c_1
    refine a_aload_n (pc := 33) X9 dX10_holds_33 rfl rfl ?_
    refine a_getR (pc := 34) X9 (q := 273) okX10 1 rfl wF_X10_9 (is10 hnn) rf10_1 dX10_holds_34 ?_
    refine a_bipush (pc := 37) X9 dX10_holds_37 rfl ?_
    refine a_iald (pc := 39) X9 (ar10_1 hnn) (Nat.le_of_ble_eq_true rfl) (j := 6) rfl (Nat.le_of_ble_eq_true rfl) dX10_holds_39 ?_
    refine a_iconst (pc := 40) X9 dX10_holds_40 ?_
    refine a_isub (pc := 41) X9 dX10_holds_41 ?_
    refine a_istore_n (pc := 42) X9 dX10_holds_42 rfl (Nat.le_of_ble_eq_true rfl) rfl rfl ?_
    obtain ⟨g_1, h⟩ := h
    refine loopM2 (A := fun x1_2 G_2 => inR x1_2 → GR G_2 → AW κ δ ρ0 nn 2 0 0 43 [some (vr 272), some (vi x1_2)] [] (SF nn) G_2) (fun k_2 hk_2 x1_2 G_2 h h_x1_2 hG_2 => ?_) _ _ h g_1 hG_1
    refine a_iload_n (pc := 43) X9 dX10_holds_43 rfl rfl ?_
    refine a_if_lt (pc := 44) (tgt := 67) X9 dX10_holds_44 rfl h_x1_2 (fun c => ?_) (fun c => ?_)
    · have c_2 := c
      have h := h.1 c_2
      refine a_aload_n (pc := 67) X9 dX10_holds_67 rfl rfl ?_
      refine a_getR (pc := 68) X9 (q := 273) okX10 1 rfl wF_X10_9 (is10 hnn) rf10_1 dX10_holds_68 ?_
      refine a_bipush (pc := 71) X9 dX10_holds_71 rfl ?_
      refine a_dup2 (pc := 73) X9 dX10_holds_73 rfl rfl ?_
      refine a_iald (pc := 74) X9 (ar10_1 hnn) (Nat.le_of_ble_eq_true rfl) (j := 8) rfl (Nat.le_of_ble_eq_true rfl) dX10_holds_74 ?_
      refine a_iconst (pc := 75) X9 dX10_holds_75 ?_
      refine a_iadd (pc := 76) X9 dX10_holds_76 ?_
      obtain ⟨g_2, h⟩ := h
      refine a_iast (pc := 77) X9 (v := ((G_2 273 8) + 1)) (ar10_1 hnn) (Nat.le_of_ble_eq_true rfl) (j := 8) rfl (Nat.le_of_ble_eq_true rfl) g_2 dX10_holds_77 (fun _ => ?_)
      obtain ⟨G_3, eG_3⟩ : ∃ G9, G9 = upG G_2 273 8 ((G_2 273 8) + 1) := ⟨_, rfl⟩
      have hG_3 : GR G_3 := by rw [eG_3]; exact (GR.up hG_2 g_2)
      have h := h G_3 eG_3
      rw [← eG_3]
      refine a_aload_n (pc := 78) X9 dX10_holds_78 rfl rfl ?_
      refine a_callV (pc := 79) X9 E (m_X10_allFall  hnn h) okX10 (is10 hnn) wM_X10_416 w_instanceMethod_X10_allFall w_selects_X10_allFall w_initialized_RX10 w_code_X10_allFall cp_X10_allFall pn_X10_allFall rfl (Nat.le_of_ble_eq_true rfl) ⟨Nat.le_of_ble_eq_true rfl, Nat.le_of_ble_eq_true rfl⟩ ⟨Nat.le_of_ble_eq_true rfl, Nat.le_of_ble_eq_true rfl⟩ dX10_holds_79 (fun _ _ q => False.elim q) (kI (fun r_1 G_4 hr_1 h hG_4 => ?_))
      exact a_ireturn (pc := 82) X9 E rfl rfl (Nat.le_of_ble_eq_true rfl) (Nat.le_of_ble_eq_true rfl) dX10_holds_82 ⟨rfl, _, rfl, hr_1, h⟩
    · have c_2 := c
      have h := h.2 c_2
      refine a_aload_n (pc := 47) X9 dX10_holds_47 rfl rfl ?_
      refine a_iload_n (pc := 48) X9 dX10_holds_48 rfl rfl ?_
      refine a_iconst (pc := 49) X9 dX10_holds_49 ?_
      refine a_callV (pc := 50) X9 E (m_X10_ofLoan h_x1_2 (show inR 3 by decide) hnn h) okX10 (is10 hnn) wM_X10_217 w_instanceMethod_X10_ofLoan w_selects_X10_ofLoan w_initialized_RX10 w_code_X10_ofLoan cp_X10_ofLoan pn_X10_ofLoan rfl (Nat.le_of_ble_eq_true rfl) ⟨Nat.le_of_ble_eq_true rfl, Nat.le_of_ble_eq_true rfl⟩ ⟨Nat.le_of_ble_eq_true rfl, Nat.le_of_ble_eq_true rfl⟩ dX10_holds_50 (fun _ _ q => False.elim q) (kIp (fun r_2 hr_2 h => ?_))
      refine a_if_ne (pc := 53) (tgt := 61) X9 dX10_holds_53 rfl hr_2 (fun c => ?_) (fun c => ?_)
      · have c_3 := c
        have h := h.1 c_3
        refine a_iinc (pc := 61) X9 dX10_holds_61 rfl (Nat.le_of_ble_eq_true rfl) rfl rfl ?_
        refine a_goto (pc := 64) (tgt := 43) X9 dX10_holds_64 rfl ?_
        have q_1 : inR (x1_2) := h_x1_2
        have g_3 : inR ((x1_2 + (-1))) := ⟨by omega, by omega⟩
        exact hk_2 _ _ h g_3 hG_2
      · have c_3 := c
        have h := h.2 c_3
        refine a_aload_n (pc := 56) X9 dX10_holds_56 rfl rfl ?_
        refine a_iload_n (pc := 57) X9 dX10_holds_57 rfl rfl ?_
        refine a_callV (pc := 58) X9 E (m_X10_ends h_x1_2 hnn h) okX10 (is10 hnn) wM_X10_413 w_instanceMethod_X10_ends w_selects_X10_ends w_initialized_RX10 w_code_X10_ends cp_X10_ends pn_X10_ends rfl (Nat.le_of_ble_eq_true rfl) ⟨Nat.le_of_ble_eq_true rfl, Nat.le_of_ble_eq_true rfl⟩ ⟨Nat.le_of_ble_eq_true rfl, Nat.le_of_ble_eq_true rfl⟩ dX10_holds_58 (fun _ _ q => False.elim q) (kV (fun G_5 h hG_5 => ?_))
        refine a_iinc (pc := 61) X9 dX10_holds_61 rfl (Nat.le_of_ble_eq_true rfl) rfl rfl ?_
        refine a_goto (pc := 64) (tgt := 43) X9 dX10_holds_64 rfl ?_
        have q_2 : inR (x1_2) := h_x1_2
        have g_4 : inR ((x1_2 + (-1))) := ⟨by omega, by omega⟩
        exact hk_2 _ _ h g_4 hG_5
  · have c_1 := c
    have h := h.2 c_1
    refine a_aload_n (pc := 13) X9 dX10_holds_13 rfl rfl ?_
    refine a_getR (pc := 14) X9 (q := 273) okX10 1 rfl wF_X10_9 (is10 hnn) rf10_1 dX10_holds_14 ?_
    refine a_iload_n (pc := 17) X9 dX10_holds_17 rfl rfl ?_
    refine a_iconst (pc := 18) X9 dX10_holds_18 ?_
    refine a_callS (pc := 19) X9 E (m_X10_loanAt h_x1_1 (show inR 3 by decide) hnn h) wM_X10_208 w_static_X10_loanAt w_initialized_RX10 w_code_X10_loanAt cp_X10_loanAt pn_X10_loanAt rfl (Nat.le_of_ble_eq_true rfl) ⟨Nat.le_of_ble_eq_true rfl, Nat.le_of_ble_eq_true rfl⟩ ⟨Nat.le_of_ble_eq_true rfl, Nat.le_of_ble_eq_true rfl⟩ dX10_holds_19 (fun _ _ q => False.elim q) (kIp (fun r_4 hr_4 h => ?_))
    refine a_dup2 (pc := 22) X9 dX10_holds_22 rfl rfl ?_
    obtain ⟨g_5, h⟩ := h
    refine b_iald (pc := 23) X9 (ar10_1 hnn) (Nat.le_of_ble_eq_true rfl) g_5 dX10_holds_23 ?_
    refine a_iconst (pc := 24) X9 dX10_holds_24 ?_
    refine a_isub (pc := 25) X9 dX10_holds_25 ?_
    obtain ⟨g_6, h⟩ := h
    refine b_iast (pc := 26) X9 (i := r_4) (v := ((G_1 273 (r_4).toNat) - 1)) (ar10_1 hnn) (Nat.le_of_ble_eq_true rfl) g_5 g_6 dX10_holds_26 ?_
    obtain ⟨G_6, eG_6⟩ : ∃ G9, G9 = upG G_1 273 (r_4).toNat ((G_1 273 (r_4).toNat) - 1) := ⟨_, rfl⟩
    have hG_6 : GR G_6 := by rw [eG_6]; exact (GR.up hG_1 g_6)
    have h := h G_6 eG_6
    rw [← eG_6]
    refine a_iinc (pc := 27) X9 dX10_holds_27 rfl (Nat.le_of_ble_eq_true rfl) rfl rfl ?_
    refine a_goto (pc := 30) (tgt := 2) X9 dX10_holds_30 rfl ?_
    have q_3 : inR ((G_1 273 6)) := (hG_1 _ _)
    have q_4 : inR (x1_1) := h_x1_1
    have g_7 : inR ((x1_1 + 1)) := ⟨by omega, by omega⟩
    exact hk_1 _ _ h g_7 hG_6
set_option maxHeartbeats 4000000 in
set_option maxRecDepth 100000 in
theorem m_X10_wouldFall {nn : Nat}  {G : GH} {Q : Int → GH → Prop}  (hnn : 285 ≤ nn) (h : f_X10_wouldFall G Q) : Mt yX10_wouldFall cX10_wouldFall 1 (some .int) 7 155 0 0 [vr 272] (SF nn) G (fun v S' G' => S' = SF nn ∧ qI Q v S' G') (fun E S' G' => S' = SF nn ∧ False) := by
  refine Mt.of (l0 := [some (vr 272)]) (by decide) (Nat.le_of_ble_eq_true rfl) rfl ?_
  intro κ δ ρ0 X9 E hG
  replace X9 : CX κ δ RX10 cX10_wouldFall 1 (some .int) := X9
  refine a_aload_n (pc := 0) X9 dX10_wouldFall_0 rfl rfl ?_
  refine a_iconst (pc := 1) X9 dX10_wouldFall_1 ?_
  refine a_putI (pc := 2) X9 okX10 0 rfl rfl (v := 0) wF_X10_58 (is10 hnn) dX10_wouldFall_2 (by decide) (fit_int _) (fun _ => ?_)
  obtain ⟨G_1, eG_1⟩ : ∃ G9, G9 = upG G 272 0 0 := ⟨_, rfl⟩
  have hG_1 : GR G_1 := by rw [eG_1]; exact (GR.up hG (by decide))
  have h := h G_1 eG_1
  rw [← eG_1]
  refine a_aload_n (pc := 5) X9 dX10_wouldFall_5 rfl rfl ?_
  refine a_getR (pc := 6) X9 (q := 273) okX10 1 rfl wF_X10_9 (is10 hnn) rf10_1 dX10_wouldFall_6 ?_
  refine a_bipush (pc := 9) X9 dX10_wouldFall_9 rfl ?_
  refine a_iald (pc := 11) X9 (ar10_1 hnn) (Nat.le_of_ble_eq_true rfl) (j := 7) rfl (Nat.le_of_ble_eq_true rfl) dX10_wouldFall_11 ?_
  refine a_iconst (pc := 12) X9 dX10_wouldFall_12 ?_
  refine a_icmp_ne (pc := 13) (tgt := 18) X9 dX10_wouldFall_13 rfl (hG_1 _ _) (by decide) (fun c => ?_) (fun c => ?_)
  · have c_1 := c
    have h := h.1 c_1
    refine a_aload_n (pc := 18) X9 dX10_wouldFall_18 rfl rfl ?_
    refine a_callV (pc := 19) X9 E (m_X10_goesAside  hnn h) okX10 (is10 hnn) wM_X10_196 w_instanceMethod_X10_goesAside w_selects_X10_goesAside w_initialized_RX10 w_code_X10_goesAside cp_X10_goesAside pn_X10_goesAside rfl (Nat.le_of_ble_eq_true rfl) ⟨Nat.le_of_ble_eq_true rfl, Nat.le_of_ble_eq_true rfl⟩ ⟨Nat.le_of_ble_eq_true rfl, Nat.le_of_ble_eq_true rfl⟩ dX10_wouldFall_19 (fun _ _ q => False.elim q) (kV (fun G_2 h hG_2 => ?_))
    refine a_aload_n (pc := 22) X9 dX10_wouldFall_22 rfl rfl ?_
    refine a_aload_n (pc := 23) X9 dX10_wouldFall_23 rfl rfl ?_
    refine a_callV (pc := 24) X9 E (m_X10_holds  hnn h) okX10 (is10 hnn) wM_X10_419 w_instanceMethod_X10_holds w_selects_X10_holds w_initialized_RX10 w_code_X10_holds cp_X10_holds pn_X10_holds rfl (Nat.le_of_ble_eq_true rfl) ⟨Nat.le_of_ble_eq_true rfl, Nat.le_of_ble_eq_true rfl⟩ ⟨Nat.le_of_ble_eq_true rfl, Nat.le_of_ble_eq_true rfl⟩ dX10_wouldFall_24 (fun _ _ q => False.elim q) (kI (fun r_2 G_3 hr_2 h hG_3 => ?_))
    refine a_callV (pc := 27) X9 E (m_X10_comesBack hr_2 hnn h) okX10 (is10 hnn) wM_X10_202 w_instanceMethod_X10_comesBack w_selects_X10_comesBack w_initialized_RX10 w_code_X10_comesBack cp_X10_comesBack pn_X10_comesBack rfl (Nat.le_of_ble_eq_true rfl) ⟨Nat.le_of_ble_eq_true rfl, Nat.le_of_ble_eq_true rfl⟩ ⟨Nat.le_of_ble_eq_true rfl, Nat.le_of_ble_eq_true rfl⟩ dX10_wouldFall_27 (fun _ _ q => False.elim q) (kI (fun r_3 G_4 hr_3 h hG_4 => ?_))
    exact a_ireturn (pc := 30) X9 E rfl rfl (Nat.le_of_ble_eq_true rfl) (Nat.le_of_ble_eq_true rfl) dX10_wouldFall_30 ⟨rfl, _, rfl, hr_3, h⟩
  · have c_1 := c
    have h := h.2 c_1
    refine a_iconst (pc := 16) X9 dX10_wouldFall_16 ?_
    exact a_ireturn (pc := 17) X9 E rfl rfl (Nat.le_of_ble_eq_true rfl) (Nat.le_of_ble_eq_true rfl) dX10_wouldFall_17 ⟨rfl, _, rfl, (show inR 0 by decide), h⟩
set_option maxHeartbeats 4000000 in
set_option maxRecDepth 100000 in
theorem m_X10_lenders {nn : Nat} {i1 : Int} {G : GH} {Q : Int → GH → Prop} (hi1 : inR i1) (hnn : 285 ≤ nn) (h : f_X10_lenders i1 G Q) : Mt yX10_lenders cX10_lenders 4 (some .int) 3 66 0 0 [vr 272, vi i1] (SF nn) G (fun v S' G' => S' = SF nn ∧ qI Q v S' G') (fun E S' G' => S' = SF nn ∧ False) := by
  refine Mt.of (l0 := [some (vr 272), some (vi i1), none, none]) (by decide) (Nat.le_of_ble_eq_true rfl) rfl ?_
  intro κ δ ρ0 X9 E hG
  replace X9 : CX κ δ RX10 cX10_lenders 4 (some .int) := X9
  refine a_aload_n (pc := 0) X9 dX10_lenders_0 rfl rfl ?_
  refine a_iload_n (pc := 1) X9 dX10_lenders_1 rfl rfl ?_
  refine a_callV (pc := 2) X9 E (m_X10_noDigit hi1 hnn h) okX10 (is10 hnn) wM_X10_382 w_instanceMethod_X10_noDigit w_selects_X10_noDigit w_initialized_RX10 w_code_X10_noDigit cp_X10_noDigit pn_X10_noDigit rfl (Nat.le_of_ble_eq_true rfl) ⟨Nat.le_of_ble_eq_true rfl, Nat.le_of_ble_eq_true rfl⟩ ⟨Nat.le_of_ble_eq_true rfl, Nat.le_of_ble_eq_true rfl⟩ dX10_lenders_2 (fun _ _ q => False.elim q) (kZ (fun r_1 G_1 hr_1 h hG_1 => ?_))
  refine a_if_eq (pc := 5) (tgt := 10) X9 dX10_lenders_5 rfl (bool_inR hr_1) (fun c => ?_) (fun c => ?_)
  · have c_1 := c
    have h := h.1 c_1
    refine a_iconst (pc := 10) X9 dX10_lenders_10 ?_
    refine a_istore_n (pc := 11) X9 dX10_lenders_11 rfl (Nat.le_of_ble_eq_true rfl) rfl rfl ?_
    refine a_iconst (pc := 12) X9 dX10_lenders_12 ?_
    refine a_istore_n (pc := 13) X9 dX10_lenders_13 rfl (Nat.le_of_ble_eq_true rfl) rfl rfl ?_
    refine loopM2 (A := fun x2_1 x3_1 => inR x2_1 → inR x3_1 → AW κ δ ρ0 nn 4 0 0 14 [some (vr 272), some (vi i1), some (vi x2_1), some (vi x3_1)] [] (SF nn) G_1) (fun k_1 hk_1 x2_1 x3_1 h h_x2_1 h_x3_1 => ?_) _ _ h (by decide) (by decide)
    refine a_iload_n (pc := 14) X9 dX10_lenders_14 rfl rfl ?_
    refine a_aload_n (pc := 15) X9 dX10_lenders_15 rfl rfl ?_
    refine a_getR (pc := 16) X9 (q := 273) okX10 1 rfl wF_X10_9 (is10 hnn) rf10_1 dX10_lenders_16 ?_
    refine a_iconst (pc := 19) X9 dX10_lenders_19 ?_
    refine a_iald (pc := 20) X9 (ar10_1 hnn) (Nat.le_of_ble_eq_true rfl) (j := 4) rfl (Nat.le_of_ble_eq_true rfl) dX10_lenders_20 ?_
    refine a_icmp_ge (pc := 21) (tgt := 51) X9 dX10_lenders_21 rfl h_x3_1 (hG_1 _ _) (fun c => ?_) (fun c => ?_)
    · have c_2 := c
      have h := h.1 c_2
      refine a_iload_n (pc := 51) X9 dX10_lenders_51 rfl rfl ?_
      exact a_ireturn (pc := 52) X9 E rfl rfl (Nat.le_of_ble_eq_true rfl) (Nat.le_of_ble_eq_true rfl) dX10_lenders_52 ⟨rfl, _, rfl, h_x2_1, h⟩
    · have c_2 := c
      have h := h.2 c_2
      refine a_iload_n (pc := 24) X9 dX10_lenders_24 rfl rfl ?_
      refine a_aload_n (pc := 25) X9 dX10_lenders_25 rfl rfl ?_
      refine a_iload_n (pc := 26) X9 dX10_lenders_26 rfl rfl ?_
      refine a_iconst (pc := 27) X9 dX10_lenders_27 ?_
      refine a_iload_n (pc := 28) X9 dX10_lenders_28 rfl rfl ?_
      refine a_iadd (pc := 29) X9 dX10_lenders_29 ?_
      obtain ⟨g_1, h⟩ := h
      refine a_callV (pc := 30) X9 E (m_X10_ofFriend h_x3_1 g_1 hnn h) okX10 (is10 hnn) wM_X10_356 w_instanceMethod_X10_ofFriend w_selects_X10_ofFriend w_initialized_RX10 w_code_X10_ofFriend cp_X10_ofFriend pn_X10_ofFriend rfl (Nat.le_of_ble_eq_true rfl) ⟨Nat.le_of_ble_eq_true rfl, Nat.le_of_ble_eq_true rfl⟩ ⟨Nat.le_of_ble_eq_true rfl, Nat.le_of_ble_eq_true rfl⟩ dX10_lenders_30 (fun _ _ q => False.elim q) (kIp (fun r_2 hr_2 h => ?_))
      refine a_if_le (pc := 33) (tgt := 42) X9 dX10_lenders_33 rfl hr_2 (fun c => ?_) (fun c => ?_)
      · have c_3 := c
        have h := h.1 c_3
        refine a_iconst (pc := 42) X9 dX10_lenders_42 ?_
        refine b_ior (pc := 43) X9 dX10_lenders_43 ?_
        refine a_istore_n (pc := 44) X9 dX10_lenders_44 rfl (Nat.le_of_ble_eq_true rfl) rfl rfl ?_
        refine a_iinc (pc := 45) X9 dX10_lenders_45 rfl (Nat.le_of_ble_eq_true rfl) rfl rfl ?_
        refine a_goto (pc := 48) (tgt := 14) X9 dX10_lenders_48 rfl ?_
        have q_1 : inR ((G_1 273 4)) := (hG_1 _ _)
        have q_2 : inR (x3_1) := h_x3_1
        have g_2 : inR ((x3_1 + 1)) := ⟨by omega, by omega⟩
        exact hk_1 _ _ h inR_zOr g_2
      · have c_3 := c
        have h := h.2 c_3
        refine a_iconst (pc := 36) X9 dX10_lenders_36 ?_
        refine a_iload_n (pc := 37) X9 dX10_lenders_37 rfl rfl ?_
        refine b_ishl (pc := 38) X9 dX10_lenders_38 ?_
        refine a_goto (pc := 39) (tgt := 43) X9 dX10_lenders_39 rfl ?_
        refine b_ior (pc := 43) X9 dX10_lenders_43 ?_
        refine a_istore_n (pc := 44) X9 dX10_lenders_44 rfl (Nat.le_of_ble_eq_true rfl) rfl rfl ?_
        refine a_iinc (pc := 45) X9 dX10_lenders_45 rfl (Nat.le_of_ble_eq_true rfl) rfl rfl ?_
        refine a_goto (pc := 48) (tgt := 14) X9 dX10_lenders_48 rfl ?_
        have q_3 : inR ((G_1 273 4)) := (hG_1 _ _)
        have q_4 : inR (x3_1) := h_x3_1
        have g_3 : inR ((x3_1 + 1)) := ⟨by omega, by omega⟩
        exact hk_1 _ _ h inR_zOr g_3
  · have c_1 := c
    have h := h.2 c_1
    refine a_iconst (pc := 8) X9 dX10_lenders_8 ?_
    exact a_ireturn (pc := 9) X9 E rfl rfl (Nat.le_of_ble_eq_true rfl) (Nat.le_of_ble_eq_true rfl) dX10_lenders_9 ⟨rfl, _, rfl, (show inR 0 by decide), h⟩
set_option maxHeartbeats 4000000 in
set_option maxRecDepth 100000 in
theorem m_X10_hang {nn : Nat} {i1 : Int} {G : GH} {Q : Int → GH → Prop} (hi1 : inR i1) (hnn : 285 ≤ nn) (h : f_X10_hang i1 G Q) : Mt yX10_hang cX10_hang 2 (some .int) 7 158 0 0 [vr 272, vi i1] (SF nn) G (fun v S' G' => S' = SF nn ∧ qI Q v S' G') (fun E S' G' => S' = SF nn ∧ False) := by
  refine Mt.of (l0 := [some (vr 272), some (vi i1)]) (by decide) (Nat.le_of_ble_eq_true rfl) rfl ?_
  intro κ δ ρ0 X9 E hG
  replace X9 : CX κ δ RX10 cX10_hang 2 (some .int) := X9
  refine a_aload_n (pc := 0) X9 dX10_hang_0 rfl rfl ?_
  refine a_iload_n (pc := 1) X9 dX10_hang_1 rfl rfl ?_
  refine a_callV (pc := 2) X9 E (m_X10_noService hi1 hnn h) okX10 (is10 hnn) wM_X10_368 w_instanceMethod_X10_noService w_selects_X10_noService w_initialized_RX10 w_code_X10_noService cp_X10_noService pn_X10_noService rfl (Nat.le_of_ble_eq_true rfl) ⟨Nat.le_of_ble_eq_true rfl, Nat.le_of_ble_eq_true rfl⟩ ⟨Nat.le_of_ble_eq_true rfl, Nat.le_of_ble_eq_true rfl⟩ dX10_hang_2 (fun _ _ q => False.elim q) (kZ (fun r_1 G_1 hr_1 h hG_1 => ?_))
  refine a_if_eq (pc := 5) (tgt := 10) X9 dX10_hang_5 rfl (bool_inR hr_1) (fun c => ?_) (fun c => ?_)
  · have c_1 := c
    have h := h.1 c_1
    refine a_aload_n (pc := 10) X9 dX10_hang_10 rfl rfl ?_
    refine a_callV (pc := 11) X9 E (m_X10_keeps  hnn h) okX10 (is10 hnn) wM_X10_422 w_instanceMethod_X10_keeps w_selects_X10_keeps w_initialized_RX10 w_code_X10_keeps cp_X10_keeps pn_X10_keeps rfl (Nat.le_of_ble_eq_true rfl) ⟨Nat.le_of_ble_eq_true rfl, Nat.le_of_ble_eq_true rfl⟩ ⟨Nat.le_of_ble_eq_true rfl, Nat.le_of_ble_eq_true rfl⟩ dX10_hang_11 (fun _ _ q => False.elim q) (kV (fun G_2 h hG_2 => ?_))
    refine a_aload_n (pc := 14) X9 dX10_hang_14 rfl rfl ?_
    refine a_iload_n (pc := 15) X9 dX10_hang_15 rfl rfl ?_
    refine a_callV (pc := 16) X9 E (m_X10_hangsService hi1 hnn h) okX10 (is10 hnn) wM_X10_399 w_instanceMethod_X10_hangsService w_selects_X10_hangsService w_initialized_RX10 w_code_X10_hangsService cp_X10_hangsService pn_X10_hangsService rfl (Nat.le_of_ble_eq_true rfl) ⟨Nat.le_of_ble_eq_true rfl, Nat.le_of_ble_eq_true rfl⟩ ⟨Nat.le_of_ble_eq_true rfl, Nat.le_of_ble_eq_true rfl⟩ dX10_hang_16 (fun _ _ q => False.elim q) (kI (fun r_3 G_3 hr_3 h hG_3 => ?_))
    exact a_ireturn (pc := 19) X9 E rfl rfl (Nat.le_of_ble_eq_true rfl) (Nat.le_of_ble_eq_true rfl) dX10_hang_19 ⟨rfl, _, rfl, hr_3, h⟩
  · have c_1 := c
    have h := h.2 c_1
    refine a_iconst (pc := 8) X9 dX10_hang_8 ?_
    exact a_ireturn (pc := 9) X9 E rfl rfl (Nat.le_of_ble_eq_true rfl) (Nat.le_of_ble_eq_true rfl) dX10_hang_9 ⟨rfl, _, rfl, (show inR 0 by decide), h⟩
set_option maxHeartbeats 4000000 in
set_option maxRecDepth 100000 in
theorem m_X10_hold {nn : Nat}  {G : GH} {Q : Int → GH → Prop}  (hnn : 285 ≤ nn) (h : f_X10_hold G Q) : Mt yX10_hold cX10_hold 1 (some .int) 7 155 0 0 [vr 272] (SF nn) G (fun v S' G' => S' = SF nn ∧ qI Q v S' G') (fun E S' G' => S' = SF nn ∧ False) := by
  refine Mt.of (l0 := [some (vr 272)]) (by decide) (Nat.le_of_ble_eq_true rfl) rfl ?_
  intro κ δ ρ0 X9 E hG
  replace X9 : CX κ δ RX10 cX10_hold 1 (some .int) := X9
  refine a_aload_n (pc := 0) X9 dX10_hold_0 rfl rfl ?_
  refine a_iconst (pc := 1) X9 dX10_hold_1 ?_
  refine a_putI (pc := 2) X9 okX10 0 rfl rfl (v := 0) wF_X10_58 (is10 hnn) dX10_hold_2 (by decide) (fit_int _) (fun _ => ?_)
  obtain ⟨G_1, eG_1⟩ : ∃ G9, G9 = upG G 272 0 0 := ⟨_, rfl⟩
  have hG_1 : GR G_1 := by rw [eG_1]; exact (GR.up hG (by decide))
  have h := h G_1 eG_1
  rw [← eG_1]
  refine a_aload_n (pc := 5) X9 dX10_hold_5 rfl rfl ?_
  refine a_getR (pc := 6) X9 (q := 273) okX10 1 rfl wF_X10_9 (is10 hnn) rf10_1 dX10_hold_6 ?_
  refine a_bipush (pc := 9) X9 dX10_hold_9 rfl ?_
  refine a_iald (pc := 11) X9 (ar10_1 hnn) (Nat.le_of_ble_eq_true rfl) (j := 7) rfl (Nat.le_of_ble_eq_true rfl) dX10_hold_11 ?_
  refine a_iconst (pc := 12) X9 dX10_hold_12 ?_
  refine a_icmp_ne (pc := 13) (tgt := 19) X9 dX10_hold_13 rfl (hG_1 _ _) (by decide) (fun c => ?_) (fun c => ?_)
  · have c_1 := c
    have h := h.1 c_1
    refine a_aload_n (pc := 19) X9 dX10_hold_19 rfl rfl ?_
    refine a_callV (pc := 20) X9 E (m_X10_keeps  hnn h) okX10 (is10 hnn) wM_X10_422 w_instanceMethod_X10_keeps w_selects_X10_keeps w_initialized_RX10 w_code_X10_keeps cp_X10_keeps pn_X10_keeps rfl (Nat.le_of_ble_eq_true rfl) ⟨Nat.le_of_ble_eq_true rfl, Nat.le_of_ble_eq_true rfl⟩ ⟨Nat.le_of_ble_eq_true rfl, Nat.le_of_ble_eq_true rfl⟩ dX10_hold_20 (fun _ _ q => False.elim q) (kV (fun G_2 h hG_2 => ?_))
    refine a_aload_n (pc := 23) X9 dX10_hold_23 rfl rfl ?_
    refine a_callV (pc := 24) X9 E (m_X10_holds  hnn h) okX10 (is10 hnn) wM_X10_419 w_instanceMethod_X10_holds w_selects_X10_holds w_initialized_RX10 w_code_X10_holds cp_X10_holds pn_X10_holds rfl (Nat.le_of_ble_eq_true rfl) ⟨Nat.le_of_ble_eq_true rfl, Nat.le_of_ble_eq_true rfl⟩ ⟨Nat.le_of_ble_eq_true rfl, Nat.le_of_ble_eq_true rfl⟩ dX10_hold_24 (fun _ _ q => False.elim q) (kI (fun r_2 G_3 hr_2 h hG_3 => ?_))
    exact a_ireturn (pc := 27) X9 E rfl rfl (Nat.le_of_ble_eq_true rfl) (Nat.le_of_ble_eq_true rfl) dX10_hold_27 ⟨rfl, _, rfl, hr_2, h⟩
  · have c_1 := c
    have h := h.2 c_1
    refine a_bipush (pc := 16) X9 dX10_hold_16 rfl ?_
    exact a_ireturn (pc := 18) X9 E rfl rfl (Nat.le_of_ble_eq_true rfl) (Nat.le_of_ble_eq_true rfl) dX10_hold_18 ⟨rfl, _, rfl, (show inR (-3) by decide), h⟩
set_option maxHeartbeats 4000000 in
set_option maxRecDepth 100000 in
theorem m_X10_clear {nn : Nat}  {G : GH} {Q : Int → GH → Prop}  (hnn : 285 ≤ nn) (h : f_X10_clear G Q) : Mt yX10_clear cX10_clear 2 (some .int) 3 64 0 0 [vr 272] (SF nn) G (fun v S' G' => S' = SF nn ∧ qI Q v S' G') (fun E S' G' => S' = SF nn ∧ False) := by
  refine Mt.of (l0 := [some (vr 272), none]) (by decide) (Nat.le_of_ble_eq_true rfl) rfl ?_
  intro κ δ ρ0 X9 E hG
  replace X9 : CX κ δ RX10 cX10_clear 2 (some .int) := X9
  refine a_aload_n (pc := 0) X9 dX10_clear_0 rfl rfl ?_
  refine a_iconst (pc := 1) X9 dX10_clear_1 ?_
  refine a_putI (pc := 2) X9 okX10 0 rfl rfl (v := 0) wF_X10_58 (is10 hnn) dX10_clear_2 (by decide) (fit_int _) (fun _ => ?_)
  obtain ⟨G_1, eG_1⟩ : ∃ G9, G9 = upG G 272 0 0 := ⟨_, rfl⟩
  have hG_1 : GR G_1 := by rw [eG_1]; exact (GR.up hG (by decide))
  have h := h G_1 eG_1
  rw [← eG_1]
  refine a_aload_n (pc := 5) X9 dX10_clear_5 rfl rfl ?_
  refine a_callV (pc := 6) X9 E (m_X10_keeps  hnn h) okX10 (is10 hnn) wM_X10_422 w_instanceMethod_X10_keeps w_selects_X10_keeps w_initialized_RX10 w_code_X10_keeps cp_X10_keeps pn_X10_keeps rfl (Nat.le_of_ble_eq_true rfl) ⟨Nat.le_of_ble_eq_true rfl, Nat.le_of_ble_eq_true rfl⟩ ⟨Nat.le_of_ble_eq_true rfl, Nat.le_of_ble_eq_true rfl⟩ dX10_clear_6 (fun _ _ q => False.elim q) (kV (fun G_2 h hG_2 => ?_))
  refine a_aload_n (pc := 9) X9 dX10_clear_9 rfl rfl ?_
  refine a_callV (pc := 10) X9 E (m_X10_allHanging  hnn h) okX10 (is10 hnn) wM_X10_325 w_instanceMethod_X10_allHanging w_selects_X10_allHanging w_initialized_RX10 w_code_X10_allHanging cp_X10_allHanging pn_X10_allHanging rfl (Nat.le_of_ble_eq_true rfl) ⟨Nat.le_of_ble_eq_true rfl, Nat.le_of_ble_eq_true rfl⟩ ⟨Nat.le_of_ble_eq_true rfl, Nat.le_of_ble_eq_true rfl⟩ dX10_clear_10 (fun _ _ q => False.elim q) (kIp (fun r_2 hr_2 h => ?_))
  refine a_istore_n (pc := 13) X9 dX10_clear_13 rfl (Nat.le_of_ble_eq_true rfl) rfl rfl ?_
  refine a_aload_n (pc := 14) X9 dX10_clear_14 rfl rfl ?_
  refine a_callV (pc := 15) X9 E (m_X10_takesDown  hnn h) okX10 (is10 hnn) wM_X10_61 w_instanceMethod_X10_takesDown w_selects_X10_takesDown w_initialized_RX10 w_code_X10_takesDown cp_X10_takesDown pn_X10_takesDown rfl (Nat.le_of_ble_eq_true rfl) ⟨Nat.le_of_ble_eq_true rfl, Nat.le_of_ble_eq_true rfl⟩ ⟨Nat.le_of_ble_eq_true rfl, Nat.le_of_ble_eq_true rfl⟩ dX10_clear_15 (fun _ _ q => False.elim q) (kV (fun G_3 h hG_3 => ?_))
  refine a_iload_n (pc := 18) X9 dX10_clear_18 rfl rfl ?_
  exact a_ireturn (pc := 19) X9 E rfl rfl (Nat.le_of_ble_eq_true rfl) (Nat.le_of_ble_eq_true rfl) dX10_clear_19 ⟨rfl, _, rfl, hr_2, h⟩
set_option maxHeartbeats 4000000 in
set_option maxRecDepth 100000 in
theorem m_X10_borrow {nn : Nat} {i1 : Int} {i2 : Int} {i3 : Int} {G : GH} {Q : Int → GH → Prop} (hi1 : inR i1) (hi2 : inR i2) (hi3 : inR i3) (hnn : 285 ≤ nn) (h : f_X10_borrow i1 i2 i3 G Q) : Mt yX10_borrow cX10_borrow 6 (some .int) 3 67 0 0 [vr 272, vi i1, vi i2, vi i3] (SF nn) G (fun v S' G' => S' = SF nn ∧ qI Q v S' G') (fun E S' G' => S' = SF nn ∧ False) := by
  refine Mt.of (l0 := [some (vr 272), some (vi i1), some (vi i2), some (vi i3), none, none]) (by decide) (Nat.le_of_ble_eq_true rfl) rfl ?_
  intro κ δ ρ0 X9 E hG
  replace X9 : CX κ δ RX10 cX10_borrow 6 (some .int) := X9
  refine a_aload_n (pc := 0) X9 dX10_borrow_0 rfl rfl ?_
  refine a_iload_n (pc := 1) X9 dX10_borrow_1 rfl rfl ?_
  refine a_callV (pc := 2) X9 E (m_X10_noFriend hi1 hnn h) okX10 (is10 hnn) wM_X10_353 w_instanceMethod_X10_noFriend w_selects_X10_noFriend w_initialized_RX10 w_code_X10_noFriend cp_X10_noFriend pn_X10_noFriend rfl (Nat.le_of_ble_eq_true rfl) ⟨Nat.le_of_ble_eq_true rfl, Nat.le_of_ble_eq_true rfl⟩ ⟨Nat.le_of_ble_eq_true rfl, Nat.le_of_ble_eq_true rfl⟩ dX10_borrow_2 (fun _ _ q => False.elim q) (kZ (fun r_1 G_1 hr_1 h hG_1 => ?_))
  refine a_if_ne (pc := 5) (tgt := 40) X9 dX10_borrow_5 rfl (bool_inR hr_1) (fun c => ?_) (fun c => ?_)
  · have c_1 := c
    have h := h.1 c_1
    refine a_iconst (pc := 40) X9 dX10_borrow_40 ?_
    exact a_ireturn (pc := 41) X9 E rfl rfl (Nat.le_of_ble_eq_true rfl) (Nat.le_of_ble_eq_true rfl) dX10_borrow_41 ⟨rfl, _, rfl, (show inR 0 by decide), h⟩
  · have c_1 := c
    have h := h.2 c_1
    refine a_aload_n (pc := 8) X9 dX10_borrow_8 rfl rfl ?_
    refine a_iload_n (pc := 9) X9 dX10_borrow_9 rfl rfl ?_
    refine a_callS (pc := 10) X9 E (m_X10_isDigit hi2 hnn h) wM_X10_347 w_static_X10_isDigit w_initialized_RX10 w_code_X10_isDigit cp_X10_isDigit pn_X10_isDigit rfl (Nat.le_of_ble_eq_true rfl) ⟨Nat.le_of_ble_eq_true rfl, Nat.le_of_ble_eq_true rfl⟩ ⟨Nat.le_of_ble_eq_true rfl, Nat.le_of_ble_eq_true rfl⟩ dX10_borrow_10 (fun _ _ q => False.elim q) (kZp (fun r_2 hr_2 h => ?_))
    refine joinM1 (A := fun v_1 => (v_1 = 0 ∨ v_1 = 1) → AW κ δ ρ0 nn 6 0 0 33 [some (vr 272), some (vi i1), some (vi i2), some (vi i3), none, none] [vi v_1, vr 272] (SF nn) G_1) (fun v_1 h h_v_1 => ?_) (fun j_1 hj_1 h => ?_) h
    · refine a_iconst (pc := 33) X9 dX10_borrow_33 ?_
      refine a_callV (pc := 34) X9 E (m_X10_throwsIf (bool_inR h_v_1) (show inR 2 by decide) hnn h) okX10 (is10 hnn) wM_X10_340 w_instanceMethod_X10_throwsIf w_selects_X10_throwsIf w_initialized_RX10 w_code_X10_throwsIf cp_X10_throwsIf pn_X10_throwsIf rfl (Nat.le_of_ble_eq_true rfl) ⟨Nat.le_of_ble_eq_true rfl, Nat.le_of_ble_eq_true rfl⟩ ⟨Nat.le_of_ble_eq_true rfl, Nat.le_of_ble_eq_true rfl⟩ dX10_borrow_34 (fun _ _ q => False.elim q) (kZ (fun r_4 G_2 hr_4 h hG_2 => ?_))
      refine a_if_eq (pc := 37) (tgt := 42) X9 dX10_borrow_37 rfl (bool_inR hr_4) (fun c => ?_) (fun c => ?_)
      · have c_4 := c
        have h := h.1 c_4
        refine a_aload_n (pc := 42) X9 dX10_borrow_42 rfl rfl ?_
        refine a_iload_n (pc := 43) X9 dX10_borrow_43 rfl rfl ?_
        refine a_iconst (pc := 44) X9 dX10_borrow_44 ?_
        refine a_iload_n (pc := 45) X9 dX10_borrow_45 rfl rfl ?_
        refine a_iadd (pc := 46) X9 dX10_borrow_46 ?_
        obtain ⟨g_1, h⟩ := h
        refine a_callV (pc := 47) X9 E (m_X10_ofFriend hi1 g_1 hnn h) okX10 (is10 hnn) wM_X10_356 w_instanceMethod_X10_ofFriend w_selects_X10_ofFriend w_initialized_RX10 w_code_X10_ofFriend cp_X10_ofFriend pn_X10_ofFriend rfl (Nat.le_of_ble_eq_true rfl) ⟨Nat.le_of_ble_eq_true rfl, Nat.le_of_ble_eq_true rfl⟩ ⟨Nat.le_of_ble_eq_true rfl, Nat.le_of_ble_eq_true rfl⟩ dX10_borrow_47 (fun _ _ q => False.elim q) (kIp (fun r_5 hr_5 h => ?_))
        refine a_istore (pc := 50) X9 dX10_borrow_50 (Nat.le_of_ble_eq_true rfl) rfl rfl ?_
        refine a_iload (pc := 52) X9 dX10_borrow_52 rfl ?_
        refine a_iload_n (pc := 54) X9 dX10_borrow_54 rfl rfl ?_
        refine a_icmp_ge (pc := 55) (tgt := 61) X9 dX10_borrow_55 rfl hr_5 hi3 (fun c => ?_) (fun c => ?_)
        · have c_5 := c
          have h := h.1 c_5
          refine a_aload_n (pc := 61) X9 dX10_borrow_61 rfl rfl ?_
          refine a_getR (pc := 62) X9 (q := 273) okX10 1 rfl wF_X10_9 (is10 hnn) rf10_1 dX10_borrow_62 ?_
          refine a_bipush (pc := 65) X9 dX10_borrow_65 rfl ?_
          refine a_iald (pc := 67) X9 (ar10_1 hnn) (Nat.le_of_ble_eq_true rfl) (j := 6) rfl (Nat.le_of_ble_eq_true rfl) dX10_borrow_67 ?_
          refine a_istore (pc := 68) X9 dX10_borrow_68 (Nat.le_of_ble_eq_true rfl) rfl rfl ?_
          refine a_iload (pc := 70) X9 dX10_borrow_70 rfl ?_
          refine a_bipush (pc := 72) X9 dX10_borrow_72 rfl ?_
          refine a_icmp_ne (pc := 74) (tgt := 80) X9 dX10_borrow_74 rfl (hG_2 _ _) (by decide) (fun c => ?_) (fun c => ?_)
          · have c_6 := c
            have h := h.1 c_6
            refine a_aload_n (pc := 80) X9 dX10_borrow_80 rfl rfl ?_
            refine a_callV (pc := 81) X9 E (m_X10_keeps  hnn h) okX10 (is10 hnn) wM_X10_422 w_instanceMethod_X10_keeps w_selects_X10_keeps w_initialized_RX10 w_code_X10_keeps cp_X10_keeps pn_X10_keeps rfl (Nat.le_of_ble_eq_true rfl) ⟨Nat.le_of_ble_eq_true rfl, Nat.le_of_ble_eq_true rfl⟩ ⟨Nat.le_of_ble_eq_true rfl, Nat.le_of_ble_eq_true rfl⟩ dX10_borrow_81 (fun _ _ q => False.elim q) (kV (fun G_3 h hG_3 => ?_))
            refine a_aload_n (pc := 84) X9 dX10_borrow_84 rfl rfl ?_
            refine a_iload_n (pc := 85) X9 dX10_borrow_85 rfl rfl ?_
            refine a_iconst (pc := 86) X9 dX10_borrow_86 ?_
            refine a_iload_n (pc := 87) X9 dX10_borrow_87 rfl rfl ?_
            refine a_iadd (pc := 88) X9 dX10_borrow_88 ?_
            refine a_iload (pc := 89) X9 dX10_borrow_89 rfl ?_
            refine a_iload_n (pc := 91) X9 dX10_borrow_91 rfl rfl ?_
            refine a_isub (pc := 92) X9 dX10_borrow_92 ?_
            obtain ⟨g_2, h⟩ := h
            refine a_callV (pc := 93) X9 E (m_X10_setsFriend hi1 g_1 g_2 hnn h) okX10 (is10 hnn) wM_X10_144 w_instanceMethod_X10_setsFriend w_selects_X10_setsFriend w_initialized_RX10 w_code_X10_setsFriend cp_X10_setsFriend pn_X10_setsFriend rfl (Nat.le_of_ble_eq_true rfl) ⟨Nat.le_of_ble_eq_true rfl, Nat.le_of_ble_eq_true rfl⟩ ⟨Nat.le_of_ble_eq_true rfl, Nat.le_of_ble_eq_true rfl⟩ dX10_borrow_93 (fun _ _ q => False.elim q) (kV (fun G_4 h hG_4 => ?_))
            refine a_aload_n (pc := 96) X9 dX10_borrow_96 rfl rfl ?_
            refine a_getR (pc := 97) X9 (q := 273) okX10 1 rfl wF_X10_9 (is10 hnn) rf10_1 dX10_borrow_97 ?_
            refine a_iload (pc := 100) X9 dX10_borrow_100 rfl ?_
            refine a_iconst (pc := 102) X9 dX10_borrow_102 ?_
            refine a_callS (pc := 103) X9 E (m_X10_loanAt (hG_2 _ _) (show inR 0 by decide) hnn h) wM_X10_208 w_static_X10_loanAt w_initialized_RX10 w_code_X10_loanAt cp_X10_loanAt pn_X10_loanAt rfl (Nat.le_of_ble_eq_true rfl) ⟨Nat.le_of_ble_eq_true rfl, Nat.le_of_ble_eq_true rfl⟩ ⟨Nat.le_of_ble_eq_true rfl, Nat.le_of_ble_eq_true rfl⟩ dX10_borrow_103 (fun _ _ q => False.elim q) (kIp (fun r_8 hr_8 h => ?_))
            refine a_iload_n (pc := 106) X9 dX10_borrow_106 rfl rfl ?_
            obtain ⟨g_3, h⟩ := h
            refine b_iast (pc := 107) X9 (i := r_8) (v := i1) (ar10_1 hnn) (Nat.le_of_ble_eq_true rfl) g_3 hi1 dX10_borrow_107 ?_
            obtain ⟨G_5, eG_5⟩ : ∃ G9, G9 = upG G_4 273 (r_8).toNat i1 := ⟨_, rfl⟩
            have hG_5 : GR G_5 := by rw [eG_5]; exact (GR.up hG_4 hi1)
            have h := h G_5 eG_5
            rw [← eG_5]
            refine a_aload_n (pc := 108) X9 dX10_borrow_108 rfl rfl ?_
            refine a_getR (pc := 109) X9 (q := 273) okX10 1 rfl wF_X10_9 (is10 hnn) rf10_1 dX10_borrow_109 ?_
            refine a_iload (pc := 112) X9 dX10_borrow_112 rfl ?_
            refine a_iconst (pc := 114) X9 dX10_borrow_114 ?_
            refine a_callS (pc := 115) X9 E (m_X10_loanAt (hG_2 _ _) (show inR 1 by decide) hnn h) wM_X10_208 w_static_X10_loanAt w_initialized_RX10 w_code_X10_loanAt cp_X10_loanAt pn_X10_loanAt rfl (Nat.le_of_ble_eq_true rfl) ⟨Nat.le_of_ble_eq_true rfl, Nat.le_of_ble_eq_true rfl⟩ ⟨Nat.le_of_ble_eq_true rfl, Nat.le_of_ble_eq_true rfl⟩ dX10_borrow_115 (fun _ _ q => False.elim q) (kIp (fun r_9 hr_9 h => ?_))
            refine a_iload_n (pc := 118) X9 dX10_borrow_118 rfl rfl ?_
            obtain ⟨g_4, h⟩ := h
            refine b_iast (pc := 119) X9 (i := r_9) (v := i2) (ar10_1 hnn) (Nat.le_of_ble_eq_true rfl) g_4 hi2 dX10_borrow_119 ?_
            obtain ⟨G_6, eG_6⟩ : ∃ G9, G9 = upG G_5 273 (r_9).toNat i2 := ⟨_, rfl⟩
            have hG_6 : GR G_6 := by rw [eG_6]; exact (GR.up hG_5 hi2)
            have h := h G_6 eG_6
            rw [← eG_6]
            refine a_aload_n (pc := 120) X9 dX10_borrow_120 rfl rfl ?_
            refine a_getR (pc := 121) X9 (q := 273) okX10 1 rfl wF_X10_9 (is10 hnn) rf10_1 dX10_borrow_121 ?_
            refine a_iload (pc := 124) X9 dX10_borrow_124 rfl ?_
            refine a_iconst (pc := 126) X9 dX10_borrow_126 ?_
            refine a_callS (pc := 127) X9 E (m_X10_loanAt (hG_2 _ _) (show inR 2 by decide) hnn h) wM_X10_208 w_static_X10_loanAt w_initialized_RX10 w_code_X10_loanAt cp_X10_loanAt pn_X10_loanAt rfl (Nat.le_of_ble_eq_true rfl) ⟨Nat.le_of_ble_eq_true rfl, Nat.le_of_ble_eq_true rfl⟩ ⟨Nat.le_of_ble_eq_true rfl, Nat.le_of_ble_eq_true rfl⟩ dX10_borrow_127 (fun _ _ q => False.elim q) (kIp (fun r_10 hr_10 h => ?_))
            refine a_iload_n (pc := 130) X9 dX10_borrow_130 rfl rfl ?_
            obtain ⟨g_5, h⟩ := h
            refine b_iast (pc := 131) X9 (i := r_10) (v := i3) (ar10_1 hnn) (Nat.le_of_ble_eq_true rfl) g_5 hi3 dX10_borrow_131 ?_
            obtain ⟨G_7, eG_7⟩ : ∃ G9, G9 = upG G_6 273 (r_10).toNat i3 := ⟨_, rfl⟩
            have hG_7 : GR G_7 := by rw [eG_7]; exact (GR.up hG_6 hi3)
            have h := h G_7 eG_7
            rw [← eG_7]
            refine a_aload_n (pc := 132) X9 dX10_borrow_132 rfl rfl ?_
            refine a_getR (pc := 133) X9 (q := 273) okX10 1 rfl wF_X10_9 (is10 hnn) rf10_1 dX10_borrow_133 ?_
            refine a_iload (pc := 136) X9 dX10_borrow_136 rfl ?_
            refine a_iconst (pc := 138) X9 dX10_borrow_138 ?_
            refine a_callS (pc := 139) X9 E (m_X10_loanAt (hG_2 _ _) (show inR 3 by decide) hnn h) wM_X10_208 w_static_X10_loanAt w_initialized_RX10 w_code_X10_loanAt cp_X10_loanAt pn_X10_loanAt rfl (Nat.le_of_ble_eq_true rfl) ⟨Nat.le_of_ble_eq_true rfl, Nat.le_of_ble_eq_true rfl⟩ ⟨Nat.le_of_ble_eq_true rfl, Nat.le_of_ble_eq_true rfl⟩ dX10_borrow_139 (fun _ _ q => False.elim q) (kIp (fun r_11 hr_11 h => ?_))
            refine a_aload_n (pc := 142) X9 dX10_borrow_142 rfl rfl ?_
            refine a_iload_n (pc := 143) X9 dX10_borrow_143 rfl rfl ?_
            refine a_iconst (pc := 144) X9 dX10_borrow_144 ?_
            refine a_callV (pc := 145) X9 E (m_X10_ofFriend hi1 (show inR 0 by decide) hnn h) okX10 (is10 hnn) wM_X10_356 w_instanceMethod_X10_ofFriend w_selects_X10_ofFriend w_initialized_RX10 w_code_X10_ofFriend cp_X10_ofFriend pn_X10_ofFriend rfl (Nat.le_of_ble_eq_true rfl) ⟨Nat.le_of_ble_eq_true rfl, Nat.le_of_ble_eq_true rfl⟩ ⟨Nat.le_of_ble_eq_true rfl, Nat.le_of_ble_eq_true rfl⟩ dX10_borrow_145 (fun _ _ q => False.elim q) (kIp (fun r_12 hr_12 h => ?_))
            obtain ⟨g_6, h⟩ := h
            refine b_iast (pc := 148) X9 (i := r_11) (v := r_12) (ar10_1 hnn) (Nat.le_of_ble_eq_true rfl) g_6 hr_12 dX10_borrow_148 ?_
            obtain ⟨G_8, eG_8⟩ : ∃ G9, G9 = upG G_7 273 (r_11).toNat r_12 := ⟨_, rfl⟩
            have hG_8 : GR G_8 := by rw [eG_8]; exact (GR.up hG_7 hr_12)
            have h := h G_8 eG_8
            rw [← eG_8]
            refine a_aload_n (pc := 149) X9 dX10_borrow_149 rfl rfl ?_
            refine a_getR (pc := 150) X9 (q := 273) okX10 1 rfl wF_X10_9 (is10 hnn) rf10_1 dX10_borrow_150 ?_
            refine a_bipush (pc := 153) X9 dX10_borrow_153 rfl ?_
            refine a_dup2 (pc := 155) X9 dX10_borrow_155 rfl rfl ?_
            refine a_iald (pc := 156) X9 (ar10_1 hnn) (Nat.le_of_ble_eq_true rfl) (j := 6) rfl (Nat.le_of_ble_eq_true rfl) dX10_borrow_156 ?_
            refine a_iconst (pc := 157) X9 dX10_borrow_157 ?_
            refine a_iadd (pc := 158) X9 dX10_borrow_158 ?_
            obtain ⟨g_7, h⟩ := h
            refine a_iast (pc := 159) X9 (v := ((G_8 273 6) + 1)) (ar10_1 hnn) (Nat.le_of_ble_eq_true rfl) (j := 6) rfl (Nat.le_of_ble_eq_true rfl) g_7 dX10_borrow_159 (fun _ => ?_)
            obtain ⟨G_9, eG_9⟩ : ∃ G9, G9 = upG G_8 273 6 ((G_8 273 6) + 1) := ⟨_, rfl⟩
            have hG_9 : GR G_9 := by rw [eG_9]; exact (GR.up hG_8 g_7)
            have h := h G_9 eG_9
            rw [← eG_9]
            refine a_iload (pc := 160) X9 dX10_borrow_160 rfl ?_
            exact a_ireturn (pc := 162) X9 E rfl rfl (Nat.le_of_ble_eq_true rfl) (Nat.le_of_ble_eq_true rfl) dX10_borrow_162 ⟨rfl, _, rfl, (hG_2 _ _), h⟩
          · have c_6 := c
            have h := h.2 c_6
            refine a_bipush (pc := 77) X9 dX10_borrow_77 rfl ?_
            exact a_ireturn (pc := 79) X9 E rfl rfl (Nat.le_of_ble_eq_true rfl) (Nat.le_of_ble_eq_true rfl) dX10_borrow_79 ⟨rfl, _, rfl, (show inR (-2) by decide), h⟩
        · have c_5 := c
          have h := h.2 c_5
          refine a_bipush (pc := 58) X9 dX10_borrow_58 rfl ?_
          exact a_ireturn (pc := 60) X9 E rfl rfl (Nat.le_of_ble_eq_true rfl) (Nat.le_of_ble_eq_true rfl) dX10_borrow_60 ⟨rfl, _, rfl, (show inR (-3) by decide), h⟩
      · have c_4 := c
        have h := h.2 c_4
        refine a_iconst (pc := 40) X9 dX10_borrow_40 ?_
        exact a_ireturn (pc := 41) X9 E rfl rfl (Nat.le_of_ble_eq_true rfl) (Nat.le_of_ble_eq_true rfl) dX10_borrow_41 ⟨rfl, _, rfl, (show inR 0 by decide), h⟩
    · refine a_if_eq (pc := 13) (tgt := 28) X9 dX10_borrow_13 rfl (bool_inR hr_2) (fun c => ?_) (fun c => ?_)
      · have c_7 := c
        have h := h.1 c_7
        refine a_iconst (pc := 28) X9 dX10_borrow_28 ?_
        refine a_goto (pc := 29) (tgt := 33) X9 dX10_borrow_29 rfl ?_
        exact hj_1 _ h (Or.inr rfl)
      · have c_7 := c
        have h := h.2 c_7
        refine a_iload_n (pc := 16) X9 dX10_borrow_16 rfl rfl ?_
        refine a_i2l (pc := 17) X9 dX10_borrow_17 hi3 ?_
        refine a_lconst (pc := 18) X9 1 dX10_borrow_18 rfl ?_
        refine a_ldc2 (pc := 19) X9 (n := 60) wCL_X10_425 dX10_borrow_19 (by decide +kernel) ?_
        refine a_callS (pc := 22) X9 E (m_X10_in (inR_inL hi3) (show inL 1 by decide) (show inL 60 by decide) hnn h) wM_X10_92 w_static_X10_in w_initialized_RX10 w_code_X10_in cp_X10_in pn_X10_in rfl (Nat.le_of_ble_eq_true rfl) ⟨Nat.le_of_ble_eq_true rfl, Nat.le_of_ble_eq_true rfl⟩ ⟨Nat.le_of_ble_eq_true rfl, Nat.le_of_ble_eq_true rfl⟩ dX10_borrow_22 (fun _ _ q => False.elim q) (kZp (fun r_13 hr_13 h => ?_))
        refine a_if_ne (pc := 25) (tgt := 32) X9 dX10_borrow_25 rfl (bool_inR hr_13) (fun c => ?_) (fun c => ?_)
        · have c_8 := c
          have h := h.1 c_8
          refine a_iconst (pc := 32) X9 dX10_borrow_32 ?_
          exact hj_1 _ h (Or.inl rfl)
        · have c_8 := c
          have h := h.2 c_8
          refine a_iconst (pc := 28) X9 dX10_borrow_28 ?_
          refine a_goto (pc := 29) (tgt := 33) X9 dX10_borrow_29 rfl ?_
          exact hj_1 _ h (Or.inr rfl)
set_option maxHeartbeats 4000000 in
set_option maxRecDepth 100000 in
theorem m_X10_giveBack {nn : Nat} {i1 : Int} {G : GH} {Q : Int → GH → Prop} (hi1 : inR i1) (hnn : 285 ≤ nn) (h : f_X10_giveBack i1 G Q) : Mt yX10_giveBack cX10_giveBack 2 (some .int) 6 134 0 0 [vr 272, vi i1] (SF nn) G (fun v S' G' => S' = SF nn ∧ qI Q v S' G') (fun E S' G' => S' = SF nn ∧ False) := by
  refine Mt.of (l0 := [some (vr 272), some (vi i1)]) (by decide) (Nat.le_of_ble_eq_true rfl) rfl ?_
  intro κ δ ρ0 X9 E hG
  replace X9 : CX κ δ RX10 cX10_giveBack 2 (some .int) := X9
  refine a_aload_n (pc := 0) X9 dX10_giveBack_0 rfl rfl ?_
  refine a_iload_n (pc := 1) X9 dX10_giveBack_1 rfl rfl ?_
  refine a_callV (pc := 2) X9 E (m_X10_noLoan hi1 hnn h) okX10 (is10 hnn) wM_X10_359 w_instanceMethod_X10_noLoan w_selects_X10_noLoan w_initialized_RX10 w_code_X10_noLoan cp_X10_noLoan pn_X10_noLoan rfl (Nat.le_of_ble_eq_true rfl) ⟨Nat.le_of_ble_eq_true rfl, Nat.le_of_ble_eq_true rfl⟩ ⟨Nat.le_of_ble_eq_true rfl, Nat.le_of_ble_eq_true rfl⟩ dX10_giveBack_2 (fun _ _ q => False.elim q) (kZ (fun r_1 G_1 hr_1 h hG_1 => ?_))
  refine a_if_eq (pc := 5) (tgt := 10) X9 dX10_giveBack_5 rfl (bool_inR hr_1) (fun c => ?_) (fun c => ?_)
  · have c_1 := c
    have h := h.1 c_1
    refine a_aload_n (pc := 10) X9 dX10_giveBack_10 rfl rfl ?_
    refine a_callV (pc := 11) X9 E (m_X10_keeps  hnn h) okX10 (is10 hnn) wM_X10_422 w_instanceMethod_X10_keeps w_selects_X10_keeps w_initialized_RX10 w_code_X10_keeps cp_X10_keeps pn_X10_keeps rfl (Nat.le_of_ble_eq_true rfl) ⟨Nat.le_of_ble_eq_true rfl, Nat.le_of_ble_eq_true rfl⟩ ⟨Nat.le_of_ble_eq_true rfl, Nat.le_of_ble_eq_true rfl⟩ dX10_giveBack_11 (fun _ _ q => False.elim q) (kV (fun G_2 h hG_2 => ?_))
    refine a_aload_n (pc := 14) X9 dX10_giveBack_14 rfl rfl ?_
    refine a_iload_n (pc := 15) X9 dX10_giveBack_15 rfl rfl ?_
    refine a_callV (pc := 16) X9 E (m_X10_ends hi1 hnn h) okX10 (is10 hnn) wM_X10_413 w_instanceMethod_X10_ends w_selects_X10_ends w_initialized_RX10 w_code_X10_ends cp_X10_ends pn_X10_ends rfl (Nat.le_of_ble_eq_true rfl) ⟨Nat.le_of_ble_eq_true rfl, Nat.le_of_ble_eq_true rfl⟩ ⟨Nat.le_of_ble_eq_true rfl, Nat.le_of_ble_eq_true rfl⟩ dX10_giveBack_16 (fun _ _ q => False.elim q) (kV (fun G_3 h hG_3 => ?_))
    refine a_aload_n (pc := 19) X9 dX10_giveBack_19 rfl rfl ?_
    refine a_callV (pc := 20) X9 E (m_X10_allFall  hnn h) okX10 (is10 hnn) wM_X10_416 w_instanceMethod_X10_allFall w_selects_X10_allFall w_initialized_RX10 w_code_X10_allFall cp_X10_allFall pn_X10_allFall rfl (Nat.le_of_ble_eq_true rfl) ⟨Nat.le_of_ble_eq_true rfl, Nat.le_of_ble_eq_true rfl⟩ ⟨Nat.le_of_ble_eq_true rfl, Nat.le_of_ble_eq_true rfl⟩ dX10_giveBack_20 (fun _ _ q => False.elim q) (kI (fun r_4 G_4 hr_4 h hG_4 => ?_))
    exact a_ireturn (pc := 23) X9 E rfl rfl (Nat.le_of_ble_eq_true rfl) (Nat.le_of_ble_eq_true rfl) dX10_giveBack_23 ⟨rfl, _, rfl, hr_4, h⟩
  · have c_1 := c
    have h := h.2 c_1
    refine a_iconst (pc := 8) X9 dX10_giveBack_8 ?_
    exact a_ireturn (pc := 9) X9 E rfl rfl (Nat.le_of_ble_eq_true rfl) (Nat.le_of_ble_eq_true rfl) dX10_giveBack_9 ⟨rfl, _, rfl, (show inR 0 by decide), h⟩
set_option maxHeartbeats 4000000 in
set_option maxRecDepth 100000 in
theorem m_X10_noOwn {nn : Nat} {i1 : Int} {G : GH} {Q : Int → GH → Prop} (hi1 : inR i1) (hnn : 285 ≤ nn) (h : f_X10_noOwn i1 G Q) : Mt yX10_noOwn cX10_noOwn 2 (some .boolean) 2 46 0 0 [vr 272, vi i1] (SF nn) G (fun v S' G' => S' = SF nn ∧ qZ Q v S' G') (fun E S' G' => S' = SF nn ∧ False) := by
  refine Mt.of (l0 := [some (vr 272), some (vi i1)]) (by decide) (Nat.le_of_ble_eq_true rfl) rfl ?_
  intro κ δ ρ0 X9 E hG
  replace X9 : CX κ δ RX10 cX10_noOwn 2 (some .boolean) := X9
  refine a_aload_n (pc := 0) X9 dX10_noOwn_0 rfl rfl ?_
  refine a_aload_n (pc := 1) X9 dX10_noOwn_1 rfl rfl ?_
  refine a_iload_n (pc := 2) X9 dX10_noOwn_2 rfl rfl ?_
  refine a_callV (pc := 3) X9 E (m_X10_isOwnCard hi1 hnn h) okX10 (is10 hnn) wM_X10_328 w_instanceMethod_X10_isOwnCard w_selects_X10_isOwnCard w_initialized_RX10 w_code_X10_isOwnCard cp_X10_isOwnCard pn_X10_isOwnCard rfl (Nat.le_of_ble_eq_true rfl) ⟨Nat.le_of_ble_eq_true rfl, Nat.le_of_ble_eq_true rfl⟩ ⟨Nat.le_of_ble_eq_true rfl, Nat.le_of_ble_eq_true rfl⟩ dX10_noOwn_3 (fun _ _ q => False.elim q) (kZp (fun r_1 hr_1 h => ?_))
  refine joinM1 (A := fun v_1 => (v_1 = 0 ∨ v_1 = 1) → AW κ δ ρ0 nn 2 0 0 14 [some (vr 272), some (vi i1)] [vi v_1, vr 272] (SF nn) G) (fun v_1 h h_v_1 => ?_) (fun j_1 hj_1 h => ?_) h
  · refine a_callV (pc := 14) X9 E (m_X10_wrong (bool_inR h_v_1) hnn h) okX10 (is10 hnn) wM_X10_321 w_instanceMethod_X10_wrong w_selects_X10_wrong w_initialized_RX10 w_code_X10_wrong cp_X10_wrong pn_X10_wrong rfl (Nat.le_of_ble_eq_true rfl) ⟨Nat.le_of_ble_eq_true rfl, Nat.le_of_ble_eq_true rfl⟩ ⟨Nat.le_of_ble_eq_true rfl, Nat.le_of_ble_eq_true rfl⟩ dX10_noOwn_14 (fun _ _ q => False.elim q) (kZ (fun r_2 G_1 hr_2 h hG_1 => ?_))
    exact a_ireturn (pc := 17) X9 E rfl (fit_bool hr_2).1 (Nat.le_of_ble_eq_true rfl) (Nat.le_of_ble_eq_true rfl) dX10_noOwn_17 ⟨rfl, _, rfl, hr_2, h⟩
  · refine a_if_ne (pc := 6) (tgt := 13) X9 dX10_noOwn_6 rfl (bool_inR hr_1) (fun c => ?_) (fun c => ?_)
    · have c_2 := c
      have h := h.1 c_2
      refine a_iconst (pc := 13) X9 dX10_noOwn_13 ?_
      exact hj_1 _ h (Or.inl rfl)
    · have c_2 := c
      have h := h.2 c_2
      refine a_iconst (pc := 9) X9 dX10_noOwn_9 ?_
      refine a_goto (pc := 10) (tgt := 14) X9 dX10_noOwn_10 rfl ?_
      exact hj_1 _ h (Or.inr rfl)
set_option maxHeartbeats 4000000 in
set_option maxRecDepth 100000 in
theorem m_X10_buy {nn : Nat} {i1 : Int} {i2 : Int} {G : GH} {Q : Int → GH → Prop} (hi1 : inR i1) (hi2 : inR i2) (hnn : 285 ≤ nn) (h : f_X10_buy i1 i2 G Q) : Mt yX10_buy cX10_buy 4 (some .int) 3 67 0 0 [vr 272, vi i1, vi i2] (SF nn) G (fun v S' G' => S' = SF nn ∧ qI Q v S' G') (fun E S' G' => S' = SF nn ∧ False) := by
  refine Mt.of (l0 := [some (vr 272), some (vi i1), some (vi i2), none]) (by decide) (Nat.le_of_ble_eq_true rfl) rfl ?_
  intro κ δ ρ0 X9 E hG
  replace X9 : CX κ δ RX10 cX10_buy 4 (some .int) := X9
  refine a_aload_n (pc := 0) X9 dX10_buy_0 rfl rfl ?_
  refine a_iload_n (pc := 1) X9 dX10_buy_1 rfl rfl ?_
  refine a_callV (pc := 2) X9 E (m_X10_noOwn hi1 hnn h) okX10 (is10 hnn) wM_X10_427 w_instanceMethod_X10_noOwn w_selects_X10_noOwn w_initialized_RX10 w_code_X10_noOwn cp_X10_noOwn pn_X10_noOwn rfl (Nat.le_of_ble_eq_true rfl) ⟨Nat.le_of_ble_eq_true rfl, Nat.le_of_ble_eq_true rfl⟩ ⟨Nat.le_of_ble_eq_true rfl, Nat.le_of_ble_eq_true rfl⟩ dX10_buy_2 (fun _ _ q => False.elim q) (kZ (fun r_1 G_1 hr_1 h hG_1 => ?_))
  refine a_if_ne (pc := 5) (tgt := 33) X9 dX10_buy_5 rfl (bool_inR hr_1) (fun c => ?_) (fun c => ?_)
  · have c_1 := c
    have h := h.1 c_1
    refine a_iconst (pc := 33) X9 dX10_buy_33 ?_
    exact a_ireturn (pc := 34) X9 E rfl rfl (Nat.le_of_ble_eq_true rfl) (Nat.le_of_ble_eq_true rfl) dX10_buy_34 ⟨rfl, _, rfl, (show inR 0 by decide), h⟩
  · have c_1 := c
    have h := h.2 c_1
    refine a_aload_n (pc := 8) X9 dX10_buy_8 rfl rfl ?_
    refine a_iload_n (pc := 9) X9 dX10_buy_9 rfl rfl ?_
    refine a_i2l (pc := 10) X9 dX10_buy_10 hi2 ?_
    refine a_lconst (pc := 11) X9 1 dX10_buy_11 rfl ?_
    refine a_ldc2 (pc := 12) X9 (n := 60) wCL_X10_425 dX10_buy_12 (by decide +kernel) ?_
    refine a_callS (pc := 15) X9 E (m_X10_in (inR_inL hi2) (show inL 1 by decide) (show inL 60 by decide) hnn h) wM_X10_92 w_static_X10_in w_initialized_RX10 w_code_X10_in cp_X10_in pn_X10_in rfl (Nat.le_of_ble_eq_true rfl) ⟨Nat.le_of_ble_eq_true rfl, Nat.le_of_ble_eq_true rfl⟩ ⟨Nat.le_of_ble_eq_true rfl, Nat.le_of_ble_eq_true rfl⟩ dX10_buy_15 (fun _ _ q => False.elim q) (kZp (fun r_2 hr_2 h => ?_))
    refine joinM1 (A := fun v_1 => (v_1 = 0 ∨ v_1 = 1) → AW κ δ ρ0 nn 4 0 0 26 [some (vr 272), some (vi i1), some (vi i2), none] [vi v_1, vr 272] (SF nn) G_1) (fun v_1 h h_v_1 => ?_) (fun j_1 hj_1 h => ?_) h
    · refine a_iconst (pc := 26) X9 dX10_buy_26 ?_
      refine a_callV (pc := 27) X9 E (m_X10_throwsIf (bool_inR h_v_1) (show inR 2 by decide) hnn h) okX10 (is10 hnn) wM_X10_340 w_instanceMethod_X10_throwsIf w_selects_X10_throwsIf w_initialized_RX10 w_code_X10_throwsIf cp_X10_throwsIf pn_X10_throwsIf rfl (Nat.le_of_ble_eq_true rfl) ⟨Nat.le_of_ble_eq_true rfl, Nat.le_of_ble_eq_true rfl⟩ ⟨Nat.le_of_ble_eq_true rfl, Nat.le_of_ble_eq_true rfl⟩ dX10_buy_27 (fun _ _ q => False.elim q) (kZ (fun r_3 G_2 hr_3 h hG_2 => ?_))
      refine a_if_eq (pc := 30) (tgt := 35) X9 dX10_buy_30 rfl (bool_inR hr_3) (fun c => ?_) (fun c => ?_)
      · have c_3 := c
        have h := h.1 c_3
        refine a_aload_n (pc := 35) X9 dX10_buy_35 rfl rfl ?_
        refine a_getR (pc := 36) X9 (q := 273) okX10 1 rfl wF_X10_9 (is10 hnn) rf10_1 dX10_buy_36 ?_
        refine a_iload_n (pc := 39) X9 dX10_buy_39 rfl rfl ?_
        refine a_iconst (pc := 40) X9 dX10_buy_40 ?_
        refine a_callS (pc := 41) X9 E (m_X10_cardAt hi1 (show inR 2 by decide) hnn h) wM_X10_205 w_static_X10_cardAt w_initialized_RX10 w_code_X10_cardAt cp_X10_cardAt pn_X10_cardAt rfl (Nat.le_of_ble_eq_true rfl) ⟨Nat.le_of_ble_eq_true rfl, Nat.le_of_ble_eq_true rfl⟩ ⟨Nat.le_of_ble_eq_true rfl, Nat.le_of_ble_eq_true rfl⟩ dX10_buy_41 (fun _ _ q => False.elim q) (kIp (fun r_4 hr_4 h => ?_))
        obtain ⟨g_1, h⟩ := h
        refine b_iald (pc := 44) X9 (ar10_1 hnn) (Nat.le_of_ble_eq_true rfl) g_1 dX10_buy_44 ?_
        refine a_iload_n (pc := 45) X9 dX10_buy_45 rfl rfl ?_
        refine a_iadd (pc := 46) X9 dX10_buy_46 ?_
        refine a_istore_n (pc := 47) X9 dX10_buy_47 rfl (Nat.le_of_ble_eq_true rfl) rfl rfl ?_
        refine a_iload_n (pc := 48) X9 dX10_buy_48 rfl rfl ?_
        refine a_bipush (pc := 49) X9 dX10_buy_49 rfl ?_
        obtain ⟨g_2, h⟩ := h
        refine a_icmp_le (pc := 51) (tgt := 57) X9 dX10_buy_51 rfl g_2 (by decide) (fun c => ?_) (fun c => ?_)
        · have c_4 := c
          have h := h.1 c_4
          refine a_aload_n (pc := 57) X9 dX10_buy_57 rfl rfl ?_
          refine a_callV (pc := 58) X9 E (m_X10_keeps  hnn h) okX10 (is10 hnn) wM_X10_422 w_instanceMethod_X10_keeps w_selects_X10_keeps w_initialized_RX10 w_code_X10_keeps cp_X10_keeps pn_X10_keeps rfl (Nat.le_of_ble_eq_true rfl) ⟨Nat.le_of_ble_eq_true rfl, Nat.le_of_ble_eq_true rfl⟩ ⟨Nat.le_of_ble_eq_true rfl, Nat.le_of_ble_eq_true rfl⟩ dX10_buy_58 (fun _ _ q => False.elim q) (kV (fun G_3 h hG_3 => ?_))
          refine a_aload_n (pc := 61) X9 dX10_buy_61 rfl rfl ?_
          refine a_getR (pc := 62) X9 (q := 273) okX10 1 rfl wF_X10_9 (is10 hnn) rf10_1 dX10_buy_62 ?_
          refine a_iload_n (pc := 65) X9 dX10_buy_65 rfl rfl ?_
          refine a_iconst (pc := 66) X9 dX10_buy_66 ?_
          refine a_callS (pc := 67) X9 E (m_X10_cardAt hi1 (show inR 2 by decide) hnn h) wM_X10_205 w_static_X10_cardAt w_initialized_RX10 w_code_X10_cardAt cp_X10_cardAt pn_X10_cardAt rfl (Nat.le_of_ble_eq_true rfl) ⟨Nat.le_of_ble_eq_true rfl, Nat.le_of_ble_eq_true rfl⟩ ⟨Nat.le_of_ble_eq_true rfl, Nat.le_of_ble_eq_true rfl⟩ dX10_buy_67 (fun _ _ q => False.elim q) (kIp (fun r_6 hr_6 h => ?_))
          refine a_iload_n (pc := 70) X9 dX10_buy_70 rfl rfl ?_
          obtain ⟨g_3, h⟩ := h
          refine b_iast (pc := 71) X9 (i := r_6) (v := ((G_2 273 (r_4).toNat) + i2)) (ar10_1 hnn) (Nat.le_of_ble_eq_true rfl) g_3 g_2 dX10_buy_71 ?_
          obtain ⟨G_4, eG_4⟩ : ∃ G9, G9 = upG G_3 273 (r_6).toNat ((G_2 273 (r_4).toNat) + i2) := ⟨_, rfl⟩
          have hG_4 : GR G_4 := by rw [eG_4]; exact (GR.up hG_3 g_2)
          have h := h G_4 eG_4
          rw [← eG_4]
          refine a_iload_n (pc := 72) X9 dX10_buy_72 rfl rfl ?_
          exact a_ireturn (pc := 73) X9 E rfl rfl (Nat.le_of_ble_eq_true rfl) (Nat.le_of_ble_eq_true rfl) dX10_buy_73 ⟨rfl, _, rfl, g_2, h⟩
        · have c_4 := c
          have h := h.2 c_4
          refine a_bipush (pc := 54) X9 dX10_buy_54 rfl ?_
          exact a_ireturn (pc := 56) X9 E rfl rfl (Nat.le_of_ble_eq_true rfl) (Nat.le_of_ble_eq_true rfl) dX10_buy_56 ⟨rfl, _, rfl, (show inR (-2) by decide), h⟩
      · have c_3 := c
        have h := h.2 c_3
        refine a_iconst (pc := 33) X9 dX10_buy_33 ?_
        exact a_ireturn (pc := 34) X9 E rfl rfl (Nat.le_of_ble_eq_true rfl) (Nat.le_of_ble_eq_true rfl) dX10_buy_34 ⟨rfl, _, rfl, (show inR 0 by decide), h⟩
    · refine a_if_ne (pc := 18) (tgt := 25) X9 dX10_buy_18 rfl (bool_inR hr_2) (fun c => ?_) (fun c => ?_)
      · have c_5 := c
        have h := h.1 c_5
        refine a_iconst (pc := 25) X9 dX10_buy_25 ?_
        exact hj_1 _ h (Or.inl rfl)
      · have c_5 := c
        have h := h.2 c_5
        refine a_iconst (pc := 21) X9 dX10_buy_21 ?_
        refine a_goto (pc := 22) (tgt := 26) X9 dX10_buy_22 rfl ?_
        exact hj_1 _ h (Or.inr rfl)
set_option maxHeartbeats 4000000 in
set_option maxRecDepth 100000 in
theorem m_X10_lose {nn : Nat} {i1 : Int} {i2 : Int} {G : GH} {Q : Int → GH → Prop} (hi1 : inR i1) (hi2 : inR i2) (hnn : 285 ≤ nn) (h : f_X10_lose i1 i2 G Q) : Mt yX10_lose cX10_lose 4 (some .int) 5 112 0 0 [vr 272, vi i1, vi i2] (SF nn) G (fun v S' G' => S' = SF nn ∧ qI Q v S' G') (fun E S' G' => S' = SF nn ∧ False) := by
  refine Mt.of (l0 := [some (vr 272), some (vi i1), some (vi i2), none]) (by decide) (Nat.le_of_ble_eq_true rfl) rfl ?_
  intro κ δ ρ0 X9 E hG
  replace X9 : CX κ δ RX10 cX10_lose 4 (some .int) := X9
  refine a_aload_n (pc := 0) X9 dX10_lose_0 rfl rfl ?_
  refine a_iload_n (pc := 1) X9 dX10_lose_1 rfl rfl ?_
  refine a_callV (pc := 2) X9 E (m_X10_noOwn hi1 hnn h) okX10 (is10 hnn) wM_X10_427 w_instanceMethod_X10_noOwn w_selects_X10_noOwn w_initialized_RX10 w_code_X10_noOwn cp_X10_noOwn pn_X10_noOwn rfl (Nat.le_of_ble_eq_true rfl) ⟨Nat.le_of_ble_eq_true rfl, Nat.le_of_ble_eq_true rfl⟩ ⟨Nat.le_of_ble_eq_true rfl, Nat.le_of_ble_eq_true rfl⟩ dX10_lose_2 (fun _ _ q => False.elim q) (kZ (fun r_1 G_1 hr_1 h hG_1 => ?_))
  refine a_if_ne (pc := 5) (tgt := 33) X9 dX10_lose_5 rfl (bool_inR hr_1) (fun c => ?_) (fun c => ?_)
  · have c_1 := c
    have h := h.1 c_1
    refine a_iconst (pc := 33) X9 dX10_lose_33 ?_
    exact a_ireturn (pc := 34) X9 E rfl rfl (Nat.le_of_ble_eq_true rfl) (Nat.le_of_ble_eq_true rfl) dX10_lose_34 ⟨rfl, _, rfl, (show inR 0 by decide), h⟩
  · have c_1 := c
    have h := h.2 c_1
    refine a_aload_n (pc := 8) X9 dX10_lose_8 rfl rfl ?_
    refine a_iload_n (pc := 9) X9 dX10_lose_9 rfl rfl ?_
    refine a_i2l (pc := 10) X9 dX10_lose_10 hi2 ?_
    refine a_lconst (pc := 11) X9 1 dX10_lose_11 rfl ?_
    refine a_ldc2 (pc := 12) X9 (n := 60) wCL_X10_425 dX10_lose_12 (by decide +kernel) ?_
    refine a_callS (pc := 15) X9 E (m_X10_in (inR_inL hi2) (show inL 1 by decide) (show inL 60 by decide) hnn h) wM_X10_92 w_static_X10_in w_initialized_RX10 w_code_X10_in cp_X10_in pn_X10_in rfl (Nat.le_of_ble_eq_true rfl) ⟨Nat.le_of_ble_eq_true rfl, Nat.le_of_ble_eq_true rfl⟩ ⟨Nat.le_of_ble_eq_true rfl, Nat.le_of_ble_eq_true rfl⟩ dX10_lose_15 (fun _ _ q => False.elim q) (kZp (fun r_2 hr_2 h => ?_))
    refine joinM1 (A := fun v_1 => (v_1 = 0 ∨ v_1 = 1) → AW κ δ ρ0 nn 4 0 0 26 [some (vr 272), some (vi i1), some (vi i2), none] [vi v_1, vr 272] (SF nn) G_1) (fun v_1 h h_v_1 => ?_) (fun j_1 hj_1 h => ?_) h
    · refine a_iconst (pc := 26) X9 dX10_lose_26 ?_
      refine a_callV (pc := 27) X9 E (m_X10_throwsIf (bool_inR h_v_1) (show inR 2 by decide) hnn h) okX10 (is10 hnn) wM_X10_340 w_instanceMethod_X10_throwsIf w_selects_X10_throwsIf w_initialized_RX10 w_code_X10_throwsIf cp_X10_throwsIf pn_X10_throwsIf rfl (Nat.le_of_ble_eq_true rfl) ⟨Nat.le_of_ble_eq_true rfl, Nat.le_of_ble_eq_true rfl⟩ ⟨Nat.le_of_ble_eq_true rfl, Nat.le_of_ble_eq_true rfl⟩ dX10_lose_27 (fun _ _ q => False.elim q) (kZ (fun r_3 G_2 hr_3 h hG_2 => ?_))
      refine a_if_eq (pc := 30) (tgt := 35) X9 dX10_lose_30 rfl (bool_inR hr_3) (fun c => ?_) (fun c => ?_)
      · have c_3 := c
        have h := h.1 c_3
        refine a_aload_n (pc := 35) X9 dX10_lose_35 rfl rfl ?_
        refine a_getR (pc := 36) X9 (q := 273) okX10 1 rfl wF_X10_9 (is10 hnn) rf10_1 dX10_lose_36 ?_
        refine a_iload_n (pc := 39) X9 dX10_lose_39 rfl rfl ?_
        refine a_iconst (pc := 40) X9 dX10_lose_40 ?_
        refine a_callS (pc := 41) X9 E (m_X10_cardAt hi1 (show inR 2 by decide) hnn h) wM_X10_205 w_static_X10_cardAt w_initialized_RX10 w_code_X10_cardAt cp_X10_cardAt pn_X10_cardAt rfl (Nat.le_of_ble_eq_true rfl) ⟨Nat.le_of_ble_eq_true rfl, Nat.le_of_ble_eq_true rfl⟩ ⟨Nat.le_of_ble_eq_true rfl, Nat.le_of_ble_eq_true rfl⟩ dX10_lose_41 (fun _ _ q => False.elim q) (kIp (fun r_4 hr_4 h => ?_))
        obtain ⟨g_1, h⟩ := h
        refine b_iald (pc := 44) X9 (ar10_1 hnn) (Nat.le_of_ble_eq_true rfl) g_1 dX10_lose_44 ?_
        refine a_iload_n (pc := 45) X9 dX10_lose_45 rfl rfl ?_
        refine a_isub (pc := 46) X9 dX10_lose_46 ?_
        refine a_istore_n (pc := 47) X9 dX10_lose_47 rfl (Nat.le_of_ble_eq_true rfl) rfl rfl ?_
        refine a_iload_n (pc := 48) X9 dX10_lose_48 rfl rfl ?_
        obtain ⟨g_2, h⟩ := h
        refine a_if_ge (pc := 49) (tgt := 55) X9 dX10_lose_49 rfl g_2 (fun c => ?_) (fun c => ?_)
        · have c_4 := c
          have h := h.1 c_4
          refine a_aload_n (pc := 55) X9 dX10_lose_55 rfl rfl ?_
          refine a_callV (pc := 56) X9 E (m_X10_keeps  hnn h) okX10 (is10 hnn) wM_X10_422 w_instanceMethod_X10_keeps w_selects_X10_keeps w_initialized_RX10 w_code_X10_keeps cp_X10_keeps pn_X10_keeps rfl (Nat.le_of_ble_eq_true rfl) ⟨Nat.le_of_ble_eq_true rfl, Nat.le_of_ble_eq_true rfl⟩ ⟨Nat.le_of_ble_eq_true rfl, Nat.le_of_ble_eq_true rfl⟩ dX10_lose_56 (fun _ _ q => False.elim q) (kV (fun G_3 h hG_3 => ?_))
          refine a_aload_n (pc := 59) X9 dX10_lose_59 rfl rfl ?_
          refine a_getR (pc := 60) X9 (q := 273) okX10 1 rfl wF_X10_9 (is10 hnn) rf10_1 dX10_lose_60 ?_
          refine a_iload_n (pc := 63) X9 dX10_lose_63 rfl rfl ?_
          refine a_iconst (pc := 64) X9 dX10_lose_64 ?_
          refine a_callS (pc := 65) X9 E (m_X10_cardAt hi1 (show inR 2 by decide) hnn h) wM_X10_205 w_static_X10_cardAt w_initialized_RX10 w_code_X10_cardAt cp_X10_cardAt pn_X10_cardAt rfl (Nat.le_of_ble_eq_true rfl) ⟨Nat.le_of_ble_eq_true rfl, Nat.le_of_ble_eq_true rfl⟩ ⟨Nat.le_of_ble_eq_true rfl, Nat.le_of_ble_eq_true rfl⟩ dX10_lose_65 (fun _ _ q => False.elim q) (kIp (fun r_6 hr_6 h => ?_))
          refine a_iload_n (pc := 68) X9 dX10_lose_68 rfl rfl ?_
          obtain ⟨g_3, h⟩ := h
          refine b_iast (pc := 69) X9 (i := r_6) (v := ((G_2 273 (r_4).toNat) - i2)) (ar10_1 hnn) (Nat.le_of_ble_eq_true rfl) g_3 g_2 dX10_lose_69 ?_
          obtain ⟨G_4, eG_4⟩ : ∃ G9, G9 = upG G_3 273 (r_6).toNat ((G_2 273 (r_4).toNat) - i2) := ⟨_, rfl⟩
          have hG_4 : GR G_4 := by rw [eG_4]; exact (GR.up hG_3 g_2)
          have h := h G_4 eG_4
          rw [← eG_4]
          refine a_aload_n (pc := 70) X9 dX10_lose_70 rfl rfl ?_
          refine a_iload_n (pc := 71) X9 dX10_lose_71 rfl rfl ?_
          refine a_callV (pc := 72) X9 E (m_X10_falls hi1 hnn h) okX10 (is10 hnn) wM_X10_255 w_instanceMethod_X10_falls w_selects_X10_falls w_initialized_RX10 w_code_X10_falls cp_X10_falls pn_X10_falls rfl (Nat.le_of_ble_eq_true rfl) ⟨Nat.le_of_ble_eq_true rfl, Nat.le_of_ble_eq_true rfl⟩ ⟨Nat.le_of_ble_eq_true rfl, Nat.le_of_ble_eq_true rfl⟩ dX10_lose_72 (fun _ _ q => False.elim q) (kI (fun r_7 G_5 hr_7 h hG_5 => ?_))
          exact a_ireturn (pc := 75) X9 E rfl rfl (Nat.le_of_ble_eq_true rfl) (Nat.le_of_ble_eq_true rfl) dX10_lose_75 ⟨rfl, _, rfl, hr_7, h⟩
        · have c_4 := c
          have h := h.2 c_4
          refine a_bipush (pc := 52) X9 dX10_lose_52 rfl ?_
          exact a_ireturn (pc := 54) X9 E rfl rfl (Nat.le_of_ble_eq_true rfl) (Nat.le_of_ble_eq_true rfl) dX10_lose_54 ⟨rfl, _, rfl, (show inR (-3) by decide), h⟩
      · have c_3 := c
        have h := h.2 c_3
        refine a_iconst (pc := 33) X9 dX10_lose_33 ?_
        exact a_ireturn (pc := 34) X9 E rfl rfl (Nat.le_of_ble_eq_true rfl) (Nat.le_of_ble_eq_true rfl) dX10_lose_34 ⟨rfl, _, rfl, (show inR 0 by decide), h⟩
    · refine a_if_ne (pc := 18) (tgt := 25) X9 dX10_lose_18 rfl (bool_inR hr_2) (fun c => ?_) (fun c => ?_)
      · have c_5 := c
        have h := h.1 c_5
        refine a_iconst (pc := 25) X9 dX10_lose_25 ?_
        exact hj_1 _ h (Or.inl rfl)
      · have c_5 := c
        have h := h.2 c_5
        refine a_iconst (pc := 21) X9 dX10_lose_21 ?_
        refine a_goto (pc := 22) (tgt := 26) X9 dX10_lose_22 rfl ?_
        exact hj_1 _ h (Or.inr rfl)
set_option maxHeartbeats 4000000 in
set_option maxRecDepth 100000 in
theorem m_X10_addCard {nn : Nat} {i1 : Int} {i2 : Int} {i3 : Int} {G : GH} {Q : Int → GH → Prop} (hi1 : inR i1) (hi2 : inR i2) (hi3 : inR i3) (hnn : 285 ≤ nn) (h : f_X10_addCard i1 i2 i3 G Q) : Mt yX10_addCard cX10_addCard 4 (some .int) 2 45 0 0 [vr 272, vi i1, vi i2, vi i3] (SF nn) G (fun v S' G' => S' = SF nn ∧ qI Q v S' G') (fun E S' G' => S' = SF nn ∧ False) := by
  refine Mt.of (l0 := [some (vr 272), some (vi i1), some (vi i2), some (vi i3)]) (by decide) (Nat.le_of_ble_eq_true rfl) rfl ?_
  intro κ δ ρ0 X9 E hG
  replace X9 : CX κ δ RX10 cX10_addCard 4 (some .int) := X9
  refine a_aload_n (pc := 0) X9 dX10_addCard_0 rfl rfl ?_
  refine a_iload_n (pc := 1) X9 dX10_addCard_1 rfl rfl ?_
  refine a_callS (pc := 2) X9 E (m_X10_isDigit hi1 hnn h) wM_X10_347 w_static_X10_isDigit w_initialized_RX10 w_code_X10_isDigit cp_X10_isDigit pn_X10_isDigit rfl (Nat.le_of_ble_eq_true rfl) ⟨Nat.le_of_ble_eq_true rfl, Nat.le_of_ble_eq_true rfl⟩ ⟨Nat.le_of_ble_eq_true rfl, Nat.le_of_ble_eq_true rfl⟩ dX10_addCard_2 (fun _ _ q => False.elim q) (kZp (fun r_1 hr_1 h => ?_))
  refine joinM1 (A := fun v_1 => (v_1 = 0 ∨ v_1 = 1) → AW κ δ ρ0 nn 4 0 0 39 [some (vr 272), some (vi i1), some (vi i2), some (vi i3)] [vi v_1, vr 272] (SF nn) G) (fun v_1 h h_v_1 => ?_) (fun j_1 hj_1 h => ?_) h
  · refine a_callV (pc := 39) X9 E (m_X10_wrong (bool_inR h_v_1) hnn h) okX10 (is10 hnn) wM_X10_321 w_instanceMethod_X10_wrong w_selects_X10_wrong w_initialized_RX10 w_code_X10_wrong cp_X10_wrong pn_X10_wrong rfl (Nat.le_of_ble_eq_true rfl) ⟨Nat.le_of_ble_eq_true rfl, Nat.le_of_ble_eq_true rfl⟩ ⟨Nat.le_of_ble_eq_true rfl, Nat.le_of_ble_eq_true rfl⟩ dX10_addCard_39 (fun _ _ q => False.elim q) (kZ (fun r_4 G_1 hr_4 h hG_1 => ?_))
    refine a_if_eq (pc := 42) (tgt := 47) X9 dX10_addCard_42 rfl (bool_inR hr_4) (fun c => ?_) (fun c => ?_)
    · have c_4 := c
      have h := h.1 c_4
      refine a_aload_n (pc := 47) X9 dX10_addCard_47 rfl rfl ?_
      refine a_getR (pc := 48) X9 (q := 273) okX10 1 rfl wF_X10_9 (is10 hnn) rf10_1 dX10_addCard_48 ?_
      refine a_iconst (pc := 51) X9 dX10_addCard_51 ?_
      refine a_iald (pc := 52) X9 (ar10_1 hnn) (Nat.le_of_ble_eq_true rfl) (j := 3) rfl (Nat.le_of_ble_eq_true rfl) dX10_addCard_52 ?_
      refine a_bipush (pc := 53) X9 dX10_addCard_53 rfl ?_
      refine a_icmp_ne (pc := 55) (tgt := 61) X9 dX10_addCard_55 rfl (hG_1 _ _) (by decide) (fun c => ?_) (fun c => ?_)
      · have c_5 := c
        have h := h.1 c_5
        refine a_aload_n (pc := 61) X9 dX10_addCard_61 rfl rfl ?_
        refine a_callV (pc := 62) X9 E (m_X10_keeps  hnn h) okX10 (is10 hnn) wM_X10_422 w_instanceMethod_X10_keeps w_selects_X10_keeps w_initialized_RX10 w_code_X10_keeps cp_X10_keeps pn_X10_keeps rfl (Nat.le_of_ble_eq_true rfl) ⟨Nat.le_of_ble_eq_true rfl, Nat.le_of_ble_eq_true rfl⟩ ⟨Nat.le_of_ble_eq_true rfl, Nat.le_of_ble_eq_true rfl⟩ dX10_addCard_62 (fun _ _ q => False.elim q) (kV (fun G_2 h hG_2 => ?_))
        refine a_aload_n (pc := 65) X9 dX10_addCard_65 rfl rfl ?_
        refine a_iload_n (pc := 66) X9 dX10_addCard_66 rfl rfl ?_
        refine a_iload_n (pc := 67) X9 dX10_addCard_67 rfl rfl ?_
        refine a_iload_n (pc := 68) X9 dX10_addCard_68 rfl rfl ?_
        refine a_callV (pc := 69) X9 E (m_X10_comesCard hi1 hi2 hi3 hnn h) okX10 (is10 hnn) wM_X10_140 w_instanceMethod_X10_comesCard w_selects_X10_comesCard w_initialized_RX10 w_code_X10_comesCard cp_X10_comesCard pn_X10_comesCard rfl (Nat.le_of_ble_eq_true rfl) ⟨Nat.le_of_ble_eq_true rfl, Nat.le_of_ble_eq_true rfl⟩ ⟨Nat.le_of_ble_eq_true rfl, Nat.le_of_ble_eq_true rfl⟩ dX10_addCard_69 (fun _ _ q => False.elim q) (kI (fun r_6 G_3 hr_6 h hG_3 => ?_))
        exact a_ireturn (pc := 72) X9 E rfl rfl (Nat.le_of_ble_eq_true rfl) (Nat.le_of_ble_eq_true rfl) dX10_addCard_72 ⟨rfl, _, rfl, hr_6, h⟩
      · have c_5 := c
        have h := h.2 c_5
        refine a_bipush (pc := 58) X9 dX10_addCard_58 rfl ?_
        exact a_ireturn (pc := 60) X9 E rfl rfl (Nat.le_of_ble_eq_true rfl) (Nat.le_of_ble_eq_true rfl) dX10_addCard_60 ⟨rfl, _, rfl, (show inR (-2) by decide), h⟩
    · have c_4 := c
      have h := h.2 c_4
      refine a_iconst (pc := 45) X9 dX10_addCard_45 ?_
      exact a_ireturn (pc := 46) X9 E rfl rfl (Nat.le_of_ble_eq_true rfl) (Nat.le_of_ble_eq_true rfl) dX10_addCard_46 ⟨rfl, _, rfl, (show inR 0 by decide), h⟩
  · refine a_if_eq (pc := 5) (tgt := 34) X9 dX10_addCard_5 rfl (bool_inR hr_1) (fun c => ?_) (fun c => ?_)
    · have c_6 := c
      have h := h.1 c_6
      refine a_iconst (pc := 34) X9 dX10_addCard_34 ?_
      refine a_goto (pc := 35) (tgt := 39) X9 dX10_addCard_35 rfl ?_
      exact hj_1 _ h (Or.inr rfl)
    · have c_6 := c
      have h := h.2 c_6
      refine a_iload_n (pc := 8) X9 dX10_addCard_8 rfl rfl ?_
      refine a_i2l (pc := 9) X9 dX10_addCard_9 hi2 ?_
      refine a_ldc2 (pc := 10) X9 (n := (-1)) wCL_X10_430 dX10_addCard_10 (by decide +kernel) ?_
      refine a_ldc2 (pc := 13) X9 (n := 9) wCL_X10_333 dX10_addCard_13 (by decide +kernel) ?_
      refine a_callS (pc := 16) X9 E (m_X10_in (inR_inL hi2) (show inL (-1) by decide) (show inL 9 by decide) hnn h) wM_X10_92 w_static_X10_in w_initialized_RX10 w_code_X10_in cp_X10_in pn_X10_in rfl (Nat.le_of_ble_eq_true rfl) ⟨Nat.le_of_ble_eq_true rfl, Nat.le_of_ble_eq_true rfl⟩ ⟨Nat.le_of_ble_eq_true rfl, Nat.le_of_ble_eq_true rfl⟩ dX10_addCard_16 (fun _ _ q => False.elim q) (kZp (fun r_7 hr_7 h => ?_))
      refine a_if_eq (pc := 19) (tgt := 34) X9 dX10_addCard_19 rfl (bool_inR hr_7) (fun c => ?_) (fun c => ?_)
      · have c_7 := c
        have h := h.1 c_7
        refine a_iconst (pc := 34) X9 dX10_addCard_34 ?_
        refine a_goto (pc := 35) (tgt := 39) X9 dX10_addCard_35 rfl ?_
        exact hj_1 _ h (Or.inr rfl)
      · have c_7 := c
        have h := h.2 c_7
        refine a_iload_n (pc := 22) X9 dX10_addCard_22 rfl rfl ?_
        refine a_i2l (pc := 23) X9 dX10_addCard_23 hi3 ?_
        refine a_lconst (pc := 24) X9 0 dX10_addCard_24 rfl ?_
        refine a_ldc2 (pc := 25) X9 (n := 60) wCL_X10_425 dX10_addCard_25 (by decide +kernel) ?_
        refine a_callS (pc := 28) X9 E (m_X10_in (inR_inL hi3) (show inL 0 by decide) (show inL 60 by decide) hnn h) wM_X10_92 w_static_X10_in w_initialized_RX10 w_code_X10_in cp_X10_in pn_X10_in rfl (Nat.le_of_ble_eq_true rfl) ⟨Nat.le_of_ble_eq_true rfl, Nat.le_of_ble_eq_true rfl⟩ ⟨Nat.le_of_ble_eq_true rfl, Nat.le_of_ble_eq_true rfl⟩ dX10_addCard_28 (fun _ _ q => False.elim q) (kZp (fun r_8 hr_8 h => ?_))
        refine a_if_ne (pc := 31) (tgt := 38) X9 dX10_addCard_31 rfl (bool_inR hr_8) (fun c => ?_) (fun c => ?_)
        · have c_8 := c
          have h := h.1 c_8
          refine a_iconst (pc := 38) X9 dX10_addCard_38 ?_
          exact hj_1 _ h (Or.inl rfl)
        · have c_8 := c
          have h := h.2 c_8
          refine a_iconst (pc := 34) X9 dX10_addCard_34 ?_
          refine a_goto (pc := 35) (tgt := 39) X9 dX10_addCard_35 rfl ?_
          exact hj_1 _ h (Or.inr rfl)
set_option maxHeartbeats 4000000 in
set_option maxRecDepth 100000 in
theorem m_X10_swaps {nn : Nat} {i1 : Int} {i2 : Int} {G : GH} {Q : Int → GH → Prop} (hi1 : inR i1) (hi2 : inR i2) (hnn : 285 ≤ nn) (h : f_X10_swaps i1 i2 G Q) : Mt yX10_swaps cX10_swaps 4 (some .int) 1 21 0 0 [vr 272, vi i1, vi i2] (SF nn) G (fun v S' G' => S' = SF nn ∧ qI Q v S' G') (fun E S' G' => S' = SF nn ∧ False) := by
  refine Mt.of (l0 := [some (vr 272), some (vi i1), some (vi i2), none]) (by decide) (Nat.le_of_ble_eq_true rfl) rfl ?_
  intro κ δ ρ0 X9 E hG
  replace X9 : CX κ δ RX10 cX10_swaps 4 (some .int) := X9
  refine a_aload_n (pc := 0) X9 dX10_swaps_0 rfl rfl ?_
  refine a_callV (pc := 1) X9 E (m_X10_keeps  hnn h) okX10 (is10 hnn) wM_X10_422 w_instanceMethod_X10_keeps w_selects_X10_keeps w_initialized_RX10 w_code_X10_keeps cp_X10_keeps pn_X10_keeps rfl (Nat.le_of_ble_eq_true rfl) ⟨Nat.le_of_ble_eq_true rfl, Nat.le_of_ble_eq_true rfl⟩ ⟨Nat.le_of_ble_eq_true rfl, Nat.le_of_ble_eq_true rfl⟩ dX10_swaps_1 (fun _ _ q => False.elim q) (kV (fun G_1 h hG_1 => ?_))
  refine a_aload_n (pc := 4) X9 dX10_swaps_4 rfl rfl ?_
  refine a_getR (pc := 5) X9 (q := 273) okX10 1 rfl wF_X10_9 (is10 hnn) rf10_1 dX10_swaps_5 ?_
  refine a_iload_n (pc := 8) X9 dX10_swaps_8 rfl rfl ?_
  obtain ⟨g_1, h⟩ := h
  refine b_iald (pc := 9) X9 (ar10_1 hnn) (Nat.le_of_ble_eq_true rfl) g_1 dX10_swaps_9 ?_
  refine a_istore_n (pc := 10) X9 dX10_swaps_10 rfl (Nat.le_of_ble_eq_true rfl) rfl rfl ?_
  refine a_aload_n (pc := 11) X9 dX10_swaps_11 rfl rfl ?_
  refine a_getR (pc := 12) X9 (q := 273) okX10 1 rfl wF_X10_9 (is10 hnn) rf10_1 dX10_swaps_12 ?_
  refine a_iload_n (pc := 15) X9 dX10_swaps_15 rfl rfl ?_
  refine a_iload_n (pc := 16) X9 dX10_swaps_16 rfl rfl ?_
  refine b_iast (pc := 17) X9 (i := i1) (v := i2) (ar10_1 hnn) (Nat.le_of_ble_eq_true rfl) g_1 hi2 dX10_swaps_17 ?_
  obtain ⟨G_2, eG_2⟩ : ∃ G9, G9 = upG G_1 273 (i1).toNat i2 := ⟨_, rfl⟩
  have hG_2 : GR G_2 := by rw [eG_2]; exact (GR.up hG_1 hi2)
  have h := h G_2 eG_2
  rw [← eG_2]
  refine a_iload_n (pc := 18) X9 dX10_swaps_18 rfl rfl ?_
  exact a_ireturn (pc := 19) X9 E rfl rfl (Nat.le_of_ble_eq_true rfl) (Nat.le_of_ble_eq_true rfl) dX10_swaps_19 ⟨rfl, _, rfl, (hG_1 _ _), h⟩
set_option maxHeartbeats 4000000 in
set_option maxRecDepth 100000 in
theorem m_X10_setTurn {nn : Nat} {i1 : Int} {G : GH} {Q : Int → GH → Prop} (hi1 : inR i1) (hnn : 285 ≤ nn) (h : f_X10_setTurn i1 G Q) : Mt yX10_setTurn cX10_setTurn 2 (some .boolean) 2 44 0 0 [vr 272, vi i1] (SF nn) G (fun v S' G' => S' = SF nn ∧ qZ Q v S' G') (fun E S' G' => S' = SF nn ∧ False) := by
  refine Mt.of (l0 := [some (vr 272), some (vi i1)]) (by decide) (Nat.le_of_ble_eq_true rfl) rfl ?_
  intro κ δ ρ0 X9 E hG
  replace X9 : CX κ δ RX10 cX10_setTurn 2 (some .boolean) := X9
  refine a_aload_n (pc := 0) X9 dX10_setTurn_0 rfl rfl ?_
  refine a_iconst (pc := 1) X9 dX10_setTurn_1 ?_
  refine a_putI (pc := 2) X9 okX10 0 rfl rfl (v := 0) wF_X10_58 (is10 hnn) dX10_setTurn_2 (by decide) (fit_int _) (fun _ => ?_)
  obtain ⟨G_1, eG_1⟩ : ∃ G9, G9 = upG G 272 0 0 := ⟨_, rfl⟩
  have hG_1 : GR G_1 := by rw [eG_1]; exact (GR.up hG (by decide))
  have h := h G_1 eG_1
  rw [← eG_1]
  refine a_aload_n (pc := 5) X9 dX10_setTurn_5 rfl rfl ?_
  refine a_iconst (pc := 6) X9 dX10_setTurn_6 ?_
  refine a_iload_n (pc := 7) X9 dX10_setTurn_7 rfl rfl ?_
  refine joinM1 (A := fun v_1 => (v_1 = 0 ∨ v_1 = 1) → AW κ δ ρ0 nn 2 0 0 16 [some (vr 272), some (vi i1)] [vi v_1, vi 1, vr 272] (SF nn) G_1) (fun v_1 h h_v_1 => ?_) (fun j_1 hj_1 h => ?_) h
  · refine a_callV (pc := 16) X9 E (m_X10_swaps (show inR 1 by decide) (bool_inR h_v_1) hnn h) okX10 (is10 hnn) wM_X10_432 w_instanceMethod_X10_swaps w_selects_X10_swaps w_initialized_RX10 w_code_X10_swaps cp_X10_swaps pn_X10_swaps rfl (Nat.le_of_ble_eq_true rfl) ⟨Nat.le_of_ble_eq_true rfl, Nat.le_of_ble_eq_true rfl⟩ ⟨Nat.le_of_ble_eq_true rfl, Nat.le_of_ble_eq_true rfl⟩ dX10_setTurn_16 (fun _ _ q => False.elim q) (kI (fun r_1 G_2 hr_1 h hG_2 => ?_))
    refine a_iconst (pc := 19) X9 dX10_setTurn_19 ?_
    refine a_icmp_ne (pc := 20) (tgt := 27) X9 dX10_setTurn_20 rfl hr_1 (by decide) (fun c => ?_) (fun c => ?_)
    · have c_2 := c
      have h := h.1 c_2
      refine a_iconst (pc := 27) X9 dX10_setTurn_27 ?_
      exact a_ireturn (pc := 28) X9 E rfl (fit_bool (Or.inl rfl)).1 (Nat.le_of_ble_eq_true rfl) (Nat.le_of_ble_eq_true rfl) dX10_setTurn_28 ⟨rfl, _, rfl, (Or.inl rfl), h⟩
    · have c_2 := c
      have h := h.2 c_2
      refine a_iconst (pc := 23) X9 dX10_setTurn_23 ?_
      refine a_goto (pc := 24) (tgt := 28) X9 dX10_setTurn_24 rfl ?_
      exact a_ireturn (pc := 28) X9 E rfl (fit_bool (Or.inr rfl)).1 (Nat.le_of_ble_eq_true rfl) (Nat.le_of_ble_eq_true rfl) dX10_setTurn_28 ⟨rfl, _, rfl, (Or.inr rfl), h⟩
  · refine a_if_eq (pc := 8) (tgt := 15) X9 dX10_setTurn_8 rfl hi1 (fun c => ?_) (fun c => ?_)
    · have c_3 := c
      have h := h.1 c_3
      refine a_iconst (pc := 15) X9 dX10_setTurn_15 ?_
      exact hj_1 _ h (Or.inl rfl)
    · have c_3 := c
      have h := h.2 c_3
      refine a_iconst (pc := 11) X9 dX10_setTurn_11 ?_
      refine a_goto (pc := 12) (tgt := 16) X9 dX10_setTurn_12 rfl ?_
      exact hj_1 _ h (Or.inr rfl)
set_option maxHeartbeats 4000000 in
set_option maxRecDepth 100000 in
theorem m_X10_setSplit {nn : Nat} {i1 : Int} {G : GH} {Q : Int → GH → Prop} (hi1 : inR i1) (hnn : 285 ≤ nn) (h : f_X10_setSplit i1 G Q) : Mt yX10_setSplit cX10_setSplit 2 (some .boolean) 2 44 0 0 [vr 272, vi i1] (SF nn) G (fun v S' G' => S' = SF nn ∧ qZ Q v S' G') (fun E S' G' => S' = SF nn ∧ False) := by
  refine Mt.of (l0 := [some (vr 272), some (vi i1)]) (by decide) (Nat.le_of_ble_eq_true rfl) rfl ?_
  intro κ δ ρ0 X9 E hG
  replace X9 : CX κ δ RX10 cX10_setSplit 2 (some .boolean) := X9
  refine a_aload_n (pc := 0) X9 dX10_setSplit_0 rfl rfl ?_
  refine a_iconst (pc := 1) X9 dX10_setSplit_1 ?_
  refine a_putI (pc := 2) X9 okX10 0 rfl rfl (v := 0) wF_X10_58 (is10 hnn) dX10_setSplit_2 (by decide) (fit_int _) (fun _ => ?_)
  obtain ⟨G_1, eG_1⟩ : ∃ G9, G9 = upG G 272 0 0 := ⟨_, rfl⟩
  have hG_1 : GR G_1 := by rw [eG_1]; exact (GR.up hG (by decide))
  have h := h G_1 eG_1
  rw [← eG_1]
  refine a_aload_n (pc := 5) X9 dX10_setSplit_5 rfl rfl ?_
  refine a_iconst (pc := 6) X9 dX10_setSplit_6 ?_
  refine a_iload_n (pc := 7) X9 dX10_setSplit_7 rfl rfl ?_
  refine joinM1 (A := fun v_1 => (v_1 = 0 ∨ v_1 = 1) → AW κ δ ρ0 nn 2 0 0 16 [some (vr 272), some (vi i1)] [vi v_1, vi 2, vr 272] (SF nn) G_1) (fun v_1 h h_v_1 => ?_) (fun j_1 hj_1 h => ?_) h
  · refine a_callV (pc := 16) X9 E (m_X10_swaps (show inR 2 by decide) (bool_inR h_v_1) hnn h) okX10 (is10 hnn) wM_X10_432 w_instanceMethod_X10_swaps w_selects_X10_swaps w_initialized_RX10 w_code_X10_swaps cp_X10_swaps pn_X10_swaps rfl (Nat.le_of_ble_eq_true rfl) ⟨Nat.le_of_ble_eq_true rfl, Nat.le_of_ble_eq_true rfl⟩ ⟨Nat.le_of_ble_eq_true rfl, Nat.le_of_ble_eq_true rfl⟩ dX10_setSplit_16 (fun _ _ q => False.elim q) (kI (fun r_1 G_2 hr_1 h hG_2 => ?_))
    refine a_iconst (pc := 19) X9 dX10_setSplit_19 ?_
    refine a_icmp_ne (pc := 20) (tgt := 27) X9 dX10_setSplit_20 rfl hr_1 (by decide) (fun c => ?_) (fun c => ?_)
    · have c_2 := c
      have h := h.1 c_2
      refine a_iconst (pc := 27) X9 dX10_setSplit_27 ?_
      exact a_ireturn (pc := 28) X9 E rfl (fit_bool (Or.inl rfl)).1 (Nat.le_of_ble_eq_true rfl) (Nat.le_of_ble_eq_true rfl) dX10_setSplit_28 ⟨rfl, _, rfl, (Or.inl rfl), h⟩
    · have c_2 := c
      have h := h.2 c_2
      refine a_iconst (pc := 23) X9 dX10_setSplit_23 ?_
      refine a_goto (pc := 24) (tgt := 28) X9 dX10_setSplit_24 rfl ?_
      exact a_ireturn (pc := 28) X9 E rfl (fit_bool (Or.inr rfl)).1 (Nat.le_of_ble_eq_true rfl) (Nat.le_of_ble_eq_true rfl) dX10_setSplit_28 ⟨rfl, _, rfl, (Or.inr rfl), h⟩
  · refine a_if_eq (pc := 8) (tgt := 15) X9 dX10_setSplit_8 rfl hi1 (fun c => ?_) (fun c => ?_)
    · have c_3 := c
      have h := h.1 c_3
      refine a_iconst (pc := 15) X9 dX10_setSplit_15 ?_
      exact hj_1 _ h (Or.inl rfl)
    · have c_3 := c
      have h := h.2 c_3
      refine a_iconst (pc := 11) X9 dX10_setSplit_11 ?_
      refine a_goto (pc := 12) (tgt := 16) X9 dX10_setSplit_12 rfl ?_
      exact hj_1 _ h (Or.inr rfl)
set_option maxHeartbeats 4000000 in
set_option maxRecDepth 100000 in
theorem m_X10_setHymn {nn : Nat} {i1 : Int} {i2 : Int} {i3 : Int} {G : GH} {Q : Int → GH → Prop} (hi1 : inR i1) (hi2 : inR i2) (hi3 : inR i3) (hnn : 285 ≤ nn) (h : f_X10_setHymn i1 i2 i3 G Q) : Mt yX10_setHymn cX10_setHymn 4 (some .int) 3 67 0 0 [vr 272, vi i1, vi i2, vi i3] (SF nn) G (fun v S' G' => S' = SF nn ∧ qI Q v S' G') (fun E S' G' => S' = SF nn ∧ False) := by
  refine Mt.of (l0 := [some (vr 272), some (vi i1), some (vi i2), some (vi i3)]) (by decide) (Nat.le_of_ble_eq_true rfl) rfl ?_
  intro κ δ ρ0 X9 E hG
  replace X9 : CX κ δ RX10 cX10_setHymn 4 (some .int) := X9
  refine a_aload_n (pc := 0) X9 dX10_setHymn_0 rfl rfl ?_
  refine a_iload_n (pc := 1) X9 dX10_setHymn_1 rfl rfl ?_
  refine a_callV (pc := 2) X9 E (m_X10_noService hi1 hnn h) okX10 (is10 hnn) wM_X10_368 w_instanceMethod_X10_noService w_selects_X10_noService w_initialized_RX10 w_code_X10_noService cp_X10_noService pn_X10_noService rfl (Nat.le_of_ble_eq_true rfl) ⟨Nat.le_of_ble_eq_true rfl, Nat.le_of_ble_eq_true rfl⟩ ⟨Nat.le_of_ble_eq_true rfl, Nat.le_of_ble_eq_true rfl⟩ dX10_setHymn_2 (fun _ _ q => False.elim q) (kZ (fun r_1 G_1 hr_1 h hG_1 => ?_))
  refine a_if_ne (pc := 5) (tgt := 28) X9 dX10_setHymn_5 rfl (bool_inR hr_1) (fun c => ?_) (fun c => ?_)
  · have c_1 := c
    have h := h.1 c_1
    refine a_iconst (pc := 28) X9 dX10_setHymn_28 ?_
    exact a_ireturn (pc := 29) X9 E rfl rfl (Nat.le_of_ble_eq_true rfl) (Nat.le_of_ble_eq_true rfl) dX10_setHymn_29 ⟨rfl, _, rfl, (show inR 0 by decide), h⟩
  · have c_1 := c
    have h := h.2 c_1
    refine a_aload_n (pc := 8) X9 dX10_setHymn_8 rfl rfl ?_
    refine a_iload_n (pc := 9) X9 dX10_setHymn_9 rfl rfl ?_
    refine a_callS (pc := 10) X9 E (m_X10_isHymn hi3 hnn h) wM_X10_387 w_static_X10_isHymn w_initialized_RX10 w_code_X10_isHymn cp_X10_isHymn pn_X10_isHymn rfl (Nat.le_of_ble_eq_true rfl) ⟨Nat.le_of_ble_eq_true rfl, Nat.le_of_ble_eq_true rfl⟩ ⟨Nat.le_of_ble_eq_true rfl, Nat.le_of_ble_eq_true rfl⟩ dX10_setHymn_10 (fun _ _ q => False.elim q) (kZp (fun r_2 hr_2 h => ?_))
    refine joinM1 (A := fun v_1 => (v_1 = 0 ∨ v_1 = 1) → AW κ δ ρ0 nn 4 0 0 21 [some (vr 272), some (vi i1), some (vi i2), some (vi i3)] [vi v_1, vr 272] (SF nn) G_1) (fun v_1 h h_v_1 => ?_) (fun j_1 hj_1 h => ?_) h
    · refine a_iconst (pc := 21) X9 dX10_setHymn_21 ?_
      refine a_callV (pc := 22) X9 E (m_X10_throwsIf (bool_inR h_v_1) (show inR 2 by decide) hnn h) okX10 (is10 hnn) wM_X10_340 w_instanceMethod_X10_throwsIf w_selects_X10_throwsIf w_initialized_RX10 w_code_X10_throwsIf cp_X10_throwsIf pn_X10_throwsIf rfl (Nat.le_of_ble_eq_true rfl) ⟨Nat.le_of_ble_eq_true rfl, Nat.le_of_ble_eq_true rfl⟩ ⟨Nat.le_of_ble_eq_true rfl, Nat.le_of_ble_eq_true rfl⟩ dX10_setHymn_22 (fun _ _ q => False.elim q) (kZ (fun r_3 G_2 hr_3 h hG_2 => ?_))
      refine a_if_eq (pc := 25) (tgt := 30) X9 dX10_setHymn_25 rfl (bool_inR hr_3) (fun c => ?_) (fun c => ?_)
      · have c_3 := c
        have h := h.1 c_3
        refine a_iload_n (pc := 30) X9 dX10_setHymn_30 rfl rfl ?_
        refine a_i2l (pc := 31) X9 dX10_setHymn_31 hi2 ?_
        refine a_lconst (pc := 32) X9 0 dX10_setHymn_32 rfl ?_
        refine a_aload_n (pc := 33) X9 dX10_setHymn_33 rfl rfl ?_
        refine a_iload_n (pc := 34) X9 dX10_setHymn_34 rfl rfl ?_
        refine a_callV (pc := 35) X9 E (m_X10_hymnsOf hi1 hnn h) okX10 (is10 hnn) wM_X10_148 w_instanceMethod_X10_hymnsOf w_selects_X10_hymnsOf w_initialized_RX10 w_code_X10_hymnsOf cp_X10_hymnsOf pn_X10_hymnsOf rfl (Nat.le_of_ble_eq_true rfl) ⟨Nat.le_of_ble_eq_true rfl, Nat.le_of_ble_eq_true rfl⟩ ⟨Nat.le_of_ble_eq_true rfl, Nat.le_of_ble_eq_true rfl⟩ dX10_setHymn_35 (fun _ _ q => False.elim q) (kIp (fun r_4 hr_4 h => ?_))
        refine a_iconst (pc := 38) X9 dX10_setHymn_38 ?_
        refine a_isub (pc := 39) X9 dX10_setHymn_39 ?_
        obtain ⟨g_1, h⟩ := h
        refine a_i2l (pc := 40) X9 dX10_setHymn_40 g_1 ?_
        refine a_callS (pc := 41) X9 E (m_X10_in (inR_inL hi2) (show inL 0 by decide) (inR_inL g_1) hnn h) wM_X10_92 w_static_X10_in w_initialized_RX10 w_code_X10_in cp_X10_in pn_X10_in rfl (Nat.le_of_ble_eq_true rfl) ⟨Nat.le_of_ble_eq_true rfl, Nat.le_of_ble_eq_true rfl⟩ ⟨Nat.le_of_ble_eq_true rfl, Nat.le_of_ble_eq_true rfl⟩ dX10_setHymn_41 (fun _ _ q => False.elim q) (kZp (fun r_5 hr_5 h => ?_))
        refine a_if_ne (pc := 44) (tgt := 50) X9 dX10_setHymn_44 rfl (bool_inR hr_5) (fun c => ?_) (fun c => ?_)
        · have c_4 := c
          have h := h.1 c_4
          refine a_aload_n (pc := 50) X9 dX10_setHymn_50 rfl rfl ?_
          refine a_iload_n (pc := 51) X9 dX10_setHymn_51 rfl rfl ?_
          refine a_iconst (pc := 52) X9 dX10_setHymn_52 ?_
          refine a_iload_n (pc := 53) X9 dX10_setHymn_53 rfl rfl ?_
          refine a_iadd (pc := 54) X9 dX10_setHymn_54 ?_
          obtain ⟨g_2, h⟩ := h
          refine a_callS (pc := 55) X9 E (m_X10_serviceAt hi1 g_2 hnn h) wM_X10_159 w_static_X10_serviceAt w_initialized_RX10 w_code_X10_serviceAt cp_X10_serviceAt pn_X10_serviceAt rfl (Nat.le_of_ble_eq_true rfl) ⟨Nat.le_of_ble_eq_true rfl, Nat.le_of_ble_eq_true rfl⟩ ⟨Nat.le_of_ble_eq_true rfl, Nat.le_of_ble_eq_true rfl⟩ dX10_setHymn_55 (fun _ _ q => False.elim q) (kIp (fun r_6 hr_6 h => ?_))
          refine a_iload_n (pc := 58) X9 dX10_setHymn_58 rfl rfl ?_
          refine a_callV (pc := 59) X9 E (m_X10_swaps hr_6 hi3 hnn h) okX10 (is10 hnn) wM_X10_432 w_instanceMethod_X10_swaps w_selects_X10_swaps w_initialized_RX10 w_code_X10_swaps cp_X10_swaps pn_X10_swaps rfl (Nat.le_of_ble_eq_true rfl) ⟨Nat.le_of_ble_eq_true rfl, Nat.le_of_ble_eq_true rfl⟩ ⟨Nat.le_of_ble_eq_true rfl, Nat.le_of_ble_eq_true rfl⟩ dX10_setHymn_59 (fun _ _ q => False.elim q) (kI (fun r_7 G_3 hr_7 h hG_3 => ?_))
          exact a_ireturn (pc := 62) X9 E rfl rfl (Nat.le_of_ble_eq_true rfl) (Nat.le_of_ble_eq_true rfl) dX10_setHymn_62 ⟨rfl, _, rfl, hr_7, h⟩
        · have c_4 := c
          have h := h.2 c_4
          refine a_bipush (pc := 47) X9 dX10_setHymn_47 rfl ?_
          exact a_ireturn (pc := 49) X9 E rfl rfl (Nat.le_of_ble_eq_true rfl) (Nat.le_of_ble_eq_true rfl) dX10_setHymn_49 ⟨rfl, _, rfl, (show inR (-3) by decide), h⟩
      · have c_3 := c
        have h := h.2 c_3
        refine a_iconst (pc := 28) X9 dX10_setHymn_28 ?_
        exact a_ireturn (pc := 29) X9 E rfl rfl (Nat.le_of_ble_eq_true rfl) (Nat.le_of_ble_eq_true rfl) dX10_setHymn_29 ⟨rfl, _, rfl, (show inR 0 by decide), h⟩
    · refine a_if_ne (pc := 13) (tgt := 20) X9 dX10_setHymn_13 rfl (bool_inR hr_2) (fun c => ?_) (fun c => ?_)
      · have c_5 := c
        have h := h.1 c_5
        refine a_iconst (pc := 20) X9 dX10_setHymn_20 ?_
        exact hj_1 _ h (Or.inl rfl)
      · have c_5 := c
        have h := h.2 c_5
        refine a_iconst (pc := 16) X9 dX10_setHymn_16 ?_
        refine a_goto (pc := 17) (tgt := 21) X9 dX10_setHymn_17 rfl ?_
        exact hj_1 _ h (Or.inr rfl)
set_option maxHeartbeats 4000000 in
set_option maxRecDepth 100000 in
theorem m_X10_addHymn {nn : Nat} {i1 : Int} {i2 : Int} {G : GH} {Q : Int → GH → Prop} (hi1 : inR i1) (hi2 : inR i2) (hnn : 285 ≤ nn) (h : f_X10_addHymn i1 i2 G Q) : Mt yX10_addHymn cX10_addHymn 3 (some .int) 3 67 0 0 [vr 272, vi i1, vi i2] (SF nn) G (fun v S' G' => S' = SF nn ∧ qI Q v S' G') (fun E S' G' => S' = SF nn ∧ False) := by
  refine Mt.of (l0 := [some (vr 272), some (vi i1), some (vi i2)]) (by decide) (Nat.le_of_ble_eq_true rfl) rfl ?_
  intro κ δ ρ0 X9 E hG
  replace X9 : CX κ δ RX10 cX10_addHymn 3 (some .int) := X9
  refine a_aload_n (pc := 0) X9 dX10_addHymn_0 rfl rfl ?_
  refine a_iload_n (pc := 1) X9 dX10_addHymn_1 rfl rfl ?_
  refine a_callV (pc := 2) X9 E (m_X10_noService hi1 hnn h) okX10 (is10 hnn) wM_X10_368 w_instanceMethod_X10_noService w_selects_X10_noService w_initialized_RX10 w_code_X10_noService cp_X10_noService pn_X10_noService rfl (Nat.le_of_ble_eq_true rfl) ⟨Nat.le_of_ble_eq_true rfl, Nat.le_of_ble_eq_true rfl⟩ ⟨Nat.le_of_ble_eq_true rfl, Nat.le_of_ble_eq_true rfl⟩ dX10_addHymn_2 (fun _ _ q => False.elim q) (kZ (fun r_1 G_1 hr_1 h hG_1 => ?_))
  refine a_if_ne (pc := 5) (tgt := 28) X9 dX10_addHymn_5 rfl (bool_inR hr_1) (fun c => ?_) (fun c => ?_)
  · have c_1 := c
    have h := h.1 c_1
    refine a_iconst (pc := 28) X9 dX10_addHymn_28 ?_
    exact a_ireturn (pc := 29) X9 E rfl rfl (Nat.le_of_ble_eq_true rfl) (Nat.le_of_ble_eq_true rfl) dX10_addHymn_29 ⟨rfl, _, rfl, (show inR 0 by decide), h⟩
  · have c_1 := c
    have h := h.2 c_1
    refine a_aload_n (pc := 8) X9 dX10_addHymn_8 rfl rfl ?_
    refine a_iload_n (pc := 9) X9 dX10_addHymn_9 rfl rfl ?_
    refine a_callS (pc := 10) X9 E (m_X10_isHymn hi2 hnn h) wM_X10_387 w_static_X10_isHymn w_initialized_RX10 w_code_X10_isHymn cp_X10_isHymn pn_X10_isHymn rfl (Nat.le_of_ble_eq_true rfl) ⟨Nat.le_of_ble_eq_true rfl, Nat.le_of_ble_eq_true rfl⟩ ⟨Nat.le_of_ble_eq_true rfl, Nat.le_of_ble_eq_true rfl⟩ dX10_addHymn_10 (fun _ _ q => False.elim q) (kZp (fun r_2 hr_2 h => ?_))
    refine joinM1 (A := fun v_1 => (v_1 = 0 ∨ v_1 = 1) → AW κ δ ρ0 nn 3 0 0 21 [some (vr 272), some (vi i1), some (vi i2)] [vi v_1, vr 272] (SF nn) G_1) (fun v_1 h h_v_1 => ?_) (fun j_1 hj_1 h => ?_) h
    · refine a_iconst (pc := 21) X9 dX10_addHymn_21 ?_
      refine a_callV (pc := 22) X9 E (m_X10_throwsIf (bool_inR h_v_1) (show inR 2 by decide) hnn h) okX10 (is10 hnn) wM_X10_340 w_instanceMethod_X10_throwsIf w_selects_X10_throwsIf w_initialized_RX10 w_code_X10_throwsIf cp_X10_throwsIf pn_X10_throwsIf rfl (Nat.le_of_ble_eq_true rfl) ⟨Nat.le_of_ble_eq_true rfl, Nat.le_of_ble_eq_true rfl⟩ ⟨Nat.le_of_ble_eq_true rfl, Nat.le_of_ble_eq_true rfl⟩ dX10_addHymn_22 (fun _ _ q => False.elim q) (kZ (fun r_3 G_2 hr_3 h hG_2 => ?_))
      refine a_if_eq (pc := 25) (tgt := 30) X9 dX10_addHymn_25 rfl (bool_inR hr_3) (fun c => ?_) (fun c => ?_)
      · have c_3 := c
        have h := h.1 c_3
        refine a_aload_n (pc := 30) X9 dX10_addHymn_30 rfl rfl ?_
        refine a_iload_n (pc := 31) X9 dX10_addHymn_31 rfl rfl ?_
        refine a_callV (pc := 32) X9 E (m_X10_hymnsOf hi1 hnn h) okX10 (is10 hnn) wM_X10_148 w_instanceMethod_X10_hymnsOf w_selects_X10_hymnsOf w_initialized_RX10 w_code_X10_hymnsOf cp_X10_hymnsOf pn_X10_hymnsOf rfl (Nat.le_of_ble_eq_true rfl) ⟨Nat.le_of_ble_eq_true rfl, Nat.le_of_ble_eq_true rfl⟩ ⟨Nat.le_of_ble_eq_true rfl, Nat.le_of_ble_eq_true rfl⟩ dX10_addHymn_32 (fun _ _ q => False.elim q) (kIp (fun r_4 hr_4 h => ?_))
        refine a_bipush (pc := 35) X9 dX10_addHymn_35 rfl ?_
        refine a_icmp_ne (pc := 37) (tgt := 43) X9 dX10_addHymn_37 rfl hr_4 (by decide) (fun c => ?_) (fun c => ?_)
        · have c_4 := c
          have h := h.1 c_4
          refine a_aload_n (pc := 43) X9 dX10_addHymn_43 rfl rfl ?_
          refine a_callV (pc := 44) X9 E (m_X10_keeps  hnn h) okX10 (is10 hnn) wM_X10_422 w_instanceMethod_X10_keeps w_selects_X10_keeps w_initialized_RX10 w_code_X10_keeps cp_X10_keeps pn_X10_keeps rfl (Nat.le_of_ble_eq_true rfl) ⟨Nat.le_of_ble_eq_true rfl, Nat.le_of_ble_eq_true rfl⟩ ⟨Nat.le_of_ble_eq_true rfl, Nat.le_of_ble_eq_true rfl⟩ dX10_addHymn_44 (fun _ _ q => False.elim q) (kV (fun G_3 h hG_3 => ?_))
          refine a_aload_n (pc := 47) X9 dX10_addHymn_47 rfl rfl ?_
          refine a_iload_n (pc := 48) X9 dX10_addHymn_48 rfl rfl ?_
          refine a_iload_n (pc := 49) X9 dX10_addHymn_49 rfl rfl ?_
          refine a_callV (pc := 50) X9 E (m_X10_comesHymn hi1 hi2 hnn h) okX10 (is10 hnn) wM_X10_162 w_instanceMethod_X10_comesHymn w_selects_X10_comesHymn w_initialized_RX10 w_code_X10_comesHymn cp_X10_comesHymn pn_X10_comesHymn rfl (Nat.le_of_ble_eq_true rfl) ⟨Nat.le_of_ble_eq_true rfl, Nat.le_of_ble_eq_true rfl⟩ ⟨Nat.le_of_ble_eq_true rfl, Nat.le_of_ble_eq_true rfl⟩ dX10_addHymn_50 (fun _ _ q => False.elim q) (kV (fun G_4 h hG_4 => ?_))
          refine a_aload_n (pc := 53) X9 dX10_addHymn_53 rfl rfl ?_
          refine a_iload_n (pc := 54) X9 dX10_addHymn_54 rfl rfl ?_
          refine a_callV (pc := 55) X9 E (m_X10_hymnsOf hi1 hnn h) okX10 (is10 hnn) wM_X10_148 w_instanceMethod_X10_hymnsOf w_selects_X10_hymnsOf w_initialized_RX10 w_code_X10_hymnsOf cp_X10_hymnsOf pn_X10_hymnsOf rfl (Nat.le_of_ble_eq_true rfl) ⟨Nat.le_of_ble_eq_true rfl, Nat.le_of_ble_eq_true rfl⟩ ⟨Nat.le_of_ble_eq_true rfl, Nat.le_of_ble_eq_true rfl⟩ dX10_addHymn_55 (fun _ _ q => False.elim q) (kIp (fun r_7 hr_7 h => ?_))
          exact a_ireturn (pc := 58) X9 E rfl rfl (Nat.le_of_ble_eq_true rfl) (Nat.le_of_ble_eq_true rfl) dX10_addHymn_58 ⟨rfl, _, rfl, hr_7, h⟩
        · have c_4 := c
          have h := h.2 c_4
          refine a_bipush (pc := 40) X9 dX10_addHymn_40 rfl ?_
          exact a_ireturn (pc := 42) X9 E rfl rfl (Nat.le_of_ble_eq_true rfl) (Nat.le_of_ble_eq_true rfl) dX10_addHymn_42 ⟨rfl, _, rfl, (show inR (-2) by decide), h⟩
      · have c_3 := c
        have h := h.2 c_3
        refine a_iconst (pc := 28) X9 dX10_addHymn_28 ?_
        exact a_ireturn (pc := 29) X9 E rfl rfl (Nat.le_of_ble_eq_true rfl) (Nat.le_of_ble_eq_true rfl) dX10_addHymn_29 ⟨rfl, _, rfl, (show inR 0 by decide), h⟩
    · refine a_if_ne (pc := 13) (tgt := 20) X9 dX10_addHymn_13 rfl (bool_inR hr_2) (fun c => ?_) (fun c => ?_)
      · have c_5 := c
        have h := h.1 c_5
        refine a_iconst (pc := 20) X9 dX10_addHymn_20 ?_
        exact hj_1 _ h (Or.inl rfl)
      · have c_5 := c
        have h := h.2 c_5
        refine a_iconst (pc := 16) X9 dX10_addHymn_16 ?_
        refine a_goto (pc := 17) (tgt := 21) X9 dX10_addHymn_17 rfl ?_
        exact hj_1 _ h (Or.inr rfl)
set_option maxHeartbeats 4000000 in
set_option maxRecDepth 100000 in
theorem m_X10_addService {nn : Nat} {i1 : Int} {G : GH} {Q : Int → GH → Prop} (hi1 : inR i1) (hnn : 285 ≤ nn) (h : f_X10_addService i1 G Q) : Mt yX10_addService cX10_addService 3 (some .int) 3 66 0 0 [vr 272, vi i1] (SF nn) G (fun v S' G' => S' = SF nn ∧ qI Q v S' G') (fun E S' G' => S' = SF nn ∧ False) := by
  refine Mt.of (l0 := [some (vr 272), some (vi i1), none]) (by decide) (Nat.le_of_ble_eq_true rfl) rfl ?_
  intro κ δ ρ0 X9 E hG
  replace X9 : CX κ δ RX10 cX10_addService 3 (some .int) := X9
  refine a_aload_n (pc := 0) X9 dX10_addService_0 rfl rfl ?_
  refine a_iload_n (pc := 1) X9 dX10_addService_1 rfl rfl ?_
  refine a_callS (pc := 2) X9 E (m_X10_isHymn hi1 hnn h) wM_X10_387 w_static_X10_isHymn w_initialized_RX10 w_code_X10_isHymn cp_X10_isHymn pn_X10_isHymn rfl (Nat.le_of_ble_eq_true rfl) ⟨Nat.le_of_ble_eq_true rfl, Nat.le_of_ble_eq_true rfl⟩ ⟨Nat.le_of_ble_eq_true rfl, Nat.le_of_ble_eq_true rfl⟩ dX10_addService_2 (fun _ _ q => False.elim q) (kZp (fun r_1 hr_1 h => ?_))
  refine joinM1 (A := fun v_1 => (v_1 = 0 ∨ v_1 = 1) → AW κ δ ρ0 nn 3 0 0 13 [some (vr 272), some (vi i1), none] [vi v_1, vr 272] (SF nn) G) (fun v_1 h h_v_1 => ?_) (fun j_1 hj_1 h => ?_) h
  · refine a_callV (pc := 13) X9 E (m_X10_wrong (bool_inR h_v_1) hnn h) okX10 (is10 hnn) wM_X10_321 w_instanceMethod_X10_wrong w_selects_X10_wrong w_initialized_RX10 w_code_X10_wrong cp_X10_wrong pn_X10_wrong rfl (Nat.le_of_ble_eq_true rfl) ⟨Nat.le_of_ble_eq_true rfl, Nat.le_of_ble_eq_true rfl⟩ ⟨Nat.le_of_ble_eq_true rfl, Nat.le_of_ble_eq_true rfl⟩ dX10_addService_13 (fun _ _ q => False.elim q) (kZ (fun r_2 G_1 hr_2 h hG_1 => ?_))
    refine a_if_eq (pc := 16) (tgt := 21) X9 dX10_addService_16 rfl (bool_inR hr_2) (fun c => ?_) (fun c => ?_)
    · have c_2 := c
      have h := h.1 c_2
      refine a_aload_n (pc := 21) X9 dX10_addService_21 rfl rfl ?_
      refine a_getR (pc := 22) X9 (q := 273) okX10 1 rfl wF_X10_9 (is10 hnn) rf10_1 dX10_addService_22 ?_
      refine a_iconst (pc := 25) X9 dX10_addService_25 ?_
      refine a_iald (pc := 26) X9 (ar10_1 hnn) (Nat.le_of_ble_eq_true rfl) (j := 5) rfl (Nat.le_of_ble_eq_true rfl) dX10_addService_26 ?_
      refine a_istore_n (pc := 27) X9 dX10_addService_27 rfl (Nat.le_of_ble_eq_true rfl) rfl rfl ?_
      refine a_iload_n (pc := 28) X9 dX10_addService_28 rfl rfl ?_
      refine a_bipush (pc := 29) X9 dX10_addService_29 rfl ?_
      refine a_icmp_ne (pc := 31) (tgt := 37) X9 dX10_addService_31 rfl (hG_1 _ _) (by decide) (fun c => ?_) (fun c => ?_)
      · have c_3 := c
        have h := h.1 c_3
        refine a_aload_n (pc := 37) X9 dX10_addService_37 rfl rfl ?_
        refine a_callV (pc := 38) X9 E (m_X10_keeps  hnn h) okX10 (is10 hnn) wM_X10_422 w_instanceMethod_X10_keeps w_selects_X10_keeps w_initialized_RX10 w_code_X10_keeps cp_X10_keeps pn_X10_keeps rfl (Nat.le_of_ble_eq_true rfl) ⟨Nat.le_of_ble_eq_true rfl, Nat.le_of_ble_eq_true rfl⟩ ⟨Nat.le_of_ble_eq_true rfl, Nat.le_of_ble_eq_true rfl⟩ dX10_addService_38 (fun _ _ q => False.elim q) (kV (fun G_2 h hG_2 => ?_))
        refine a_aload_n (pc := 41) X9 dX10_addService_41 rfl rfl ?_
        refine a_getR (pc := 42) X9 (q := 273) okX10 1 rfl wF_X10_9 (is10 hnn) rf10_1 dX10_addService_42 ?_
        refine a_iload_n (pc := 45) X9 dX10_addService_45 rfl rfl ?_
        refine a_iconst (pc := 46) X9 dX10_addService_46 ?_
        refine a_callS (pc := 47) X9 E (m_X10_serviceAt (hG_1 _ _) (show inR 0 by decide) hnn h) wM_X10_159 w_static_X10_serviceAt w_initialized_RX10 w_code_X10_serviceAt cp_X10_serviceAt pn_X10_serviceAt rfl (Nat.le_of_ble_eq_true rfl) ⟨Nat.le_of_ble_eq_true rfl, Nat.le_of_ble_eq_true rfl⟩ ⟨Nat.le_of_ble_eq_true rfl, Nat.le_of_ble_eq_true rfl⟩ dX10_addService_47 (fun _ _ q => False.elim q) (kIp (fun r_4 hr_4 h => ?_))
        refine a_iconst (pc := 50) X9 dX10_addService_50 ?_
        obtain ⟨g_1, h⟩ := h
        refine b_iast (pc := 51) X9 (i := r_4) (v := 0) (ar10_1 hnn) (Nat.le_of_ble_eq_true rfl) g_1 (by decide) dX10_addService_51 ?_
        obtain ⟨G_3, eG_3⟩ : ∃ G9, G9 = upG G_2 273 (r_4).toNat 0 := ⟨_, rfl⟩
        have hG_3 : GR G_3 := by rw [eG_3]; exact (GR.up hG_2 (by decide))
        have h := h G_3 eG_3
        rw [← eG_3]
        refine a_aload_n (pc := 52) X9 dX10_addService_52 rfl rfl ?_
        refine a_iload_n (pc := 53) X9 dX10_addService_53 rfl rfl ?_
        refine a_iload_n (pc := 54) X9 dX10_addService_54 rfl rfl ?_
        refine a_callV (pc := 55) X9 E (m_X10_comesHymn (hG_1 _ _) hi1 hnn h) okX10 (is10 hnn) wM_X10_162 w_instanceMethod_X10_comesHymn w_selects_X10_comesHymn w_initialized_RX10 w_code_X10_comesHymn cp_X10_comesHymn pn_X10_comesHymn rfl (Nat.le_of_ble_eq_true rfl) ⟨Nat.le_of_ble_eq_true rfl, Nat.le_of_ble_eq_true rfl⟩ ⟨Nat.le_of_ble_eq_true rfl, Nat.le_of_ble_eq_true rfl⟩ dX10_addService_55 (fun _ _ q => False.elim q) (kV (fun G_4 h hG_4 => ?_))
        refine a_aload_n (pc := 58) X9 dX10_addService_58 rfl rfl ?_
        refine a_getR (pc := 59) X9 (q := 273) okX10 1 rfl wF_X10_9 (is10 hnn) rf10_1 dX10_addService_59 ?_
        refine a_iconst (pc := 62) X9 dX10_addService_62 ?_
        refine a_dup2 (pc := 63) X9 dX10_addService_63 rfl rfl ?_
        refine a_iald (pc := 64) X9 (ar10_1 hnn) (Nat.le_of_ble_eq_true rfl) (j := 5) rfl (Nat.le_of_ble_eq_true rfl) dX10_addService_64 ?_
        refine a_iconst (pc := 65) X9 dX10_addService_65 ?_
        refine a_iadd (pc := 66) X9 dX10_addService_66 ?_
        obtain ⟨g_2, h⟩ := h
        refine a_iast (pc := 67) X9 (v := ((G_4 273 5) + 1)) (ar10_1 hnn) (Nat.le_of_ble_eq_true rfl) (j := 5) rfl (Nat.le_of_ble_eq_true rfl) g_2 dX10_addService_67 (fun _ => ?_)
        obtain ⟨G_5, eG_5⟩ : ∃ G9, G9 = upG G_4 273 5 ((G_4 273 5) + 1) := ⟨_, rfl⟩
        have hG_5 : GR G_5 := by rw [eG_5]; exact (GR.up hG_4 g_2)
        have h := h G_5 eG_5
        rw [← eG_5]
        refine a_iload_n (pc := 68) X9 dX10_addService_68 rfl rfl ?_
        exact a_ireturn (pc := 69) X9 E rfl rfl (Nat.le_of_ble_eq_true rfl) (Nat.le_of_ble_eq_true rfl) dX10_addService_69 ⟨rfl, _, rfl, (hG_1 _ _), h⟩
      · have c_3 := c
        have h := h.2 c_3
        refine a_bipush (pc := 34) X9 dX10_addService_34 rfl ?_
        exact a_ireturn (pc := 36) X9 E rfl rfl (Nat.le_of_ble_eq_true rfl) (Nat.le_of_ble_eq_true rfl) dX10_addService_36 ⟨rfl, _, rfl, (show inR (-2) by decide), h⟩
    · have c_2 := c
      have h := h.2 c_2
      refine a_iconst (pc := 19) X9 dX10_addService_19 ?_
      exact a_ireturn (pc := 20) X9 E rfl rfl (Nat.le_of_ble_eq_true rfl) (Nat.le_of_ble_eq_true rfl) dX10_addService_20 ⟨rfl, _, rfl, (show inR 0 by decide), h⟩
  · refine a_if_ne (pc := 5) (tgt := 12) X9 dX10_addService_5 rfl (bool_inR hr_1) (fun c => ?_) (fun c => ?_)
    · have c_4 := c
      have h := h.1 c_4
      refine a_iconst (pc := 12) X9 dX10_addService_12 ?_
      exact hj_1 _ h (Or.inl rfl)
    · have c_4 := c
      have h := h.2 c_4
      refine a_iconst (pc := 8) X9 dX10_addService_8 ?_
      refine a_goto (pc := 9) (tgt := 13) X9 dX10_addService_9 rfl ?_
      exact hj_1 _ h (Or.inr rfl)
set_option maxHeartbeats 4000000 in
set_option maxRecDepth 100000 in
theorem m_X10_luck {nn : Nat}  {G : GH} {Q : UInt64 → GH → Prop}  (hnn : 285 ≤ nn) (h : f_X10_luck G Q) : Mt yX10_luck cX10_luck 2 (some .double) 0 0 0 0 [vr 272] (SF nn) G (fun v S' G' => S' = SF nn ∧ qD Q v S' G') (fun E S' G' => S' = SF nn ∧ False) := by
  refine Mt.of (l0 := [some (vr 272), none]) (by decide) (Nat.le_of_ble_eq_true rfl) rfl ?_
  intro κ δ ρ0 X9 E hG
  replace X9 : CX κ δ RX10 cX10_luck 2 (some .double) := X9
  refine a_aload_n (pc := 0) X9 dX10_luck_0 rfl rfl ?_
  refine a_iconst (pc := 1) X9 dX10_luck_1 ?_
  refine a_putI (pc := 2) X9 okX10 0 rfl rfl (v := 0) wF_X10_58 (is10 hnn) dX10_luck_2 (by decide) (fit_int _) (fun _ => ?_)
  obtain ⟨G_1, eG_1⟩ : ∃ G9, G9 = upG G 272 0 0 := ⟨_, rfl⟩
  have hG_1 : GR G_1 := by rw [eG_1]; exact (GR.up hG (by decide))
  have h := h G_1 eG_1
  rw [← eG_1]
  refine a_aload_n (pc := 5) X9 dX10_luck_5 rfl rfl ?_
  refine a_getR (pc := 6) X9 (q := 273) okX10 1 rfl wF_X10_9 (is10 hnn) rf10_1 dX10_luck_6 ?_
  refine a_bipush (pc := 9) X9 dX10_luck_9 rfl ?_
  refine a_iald (pc := 11) X9 (ar10_1 hnn) (Nat.le_of_ble_eq_true rfl) (j := 10) rfl (Nat.le_of_ble_eq_true rfl) dX10_luck_11 ?_
  refine a_aload_n (pc := 12) X9 dX10_luck_12 rfl rfl ?_
  refine a_getR (pc := 13) X9 (q := 273) okX10 1 rfl wF_X10_9 (is10 hnn) rf10_1 dX10_luck_13 ?_
  refine a_bipush (pc := 16) X9 dX10_luck_16 rfl ?_
  refine a_iald (pc := 18) X9 (ar10_1 hnn) (Nat.le_of_ble_eq_true rfl) (j := 11) rfl (Nat.le_of_ble_eq_true rfl) dX10_luck_18 ?_
  refine a_iadd (pc := 19) X9 dX10_luck_19 ?_
  refine a_istore_n (pc := 20) X9 dX10_luck_20 rfl (Nat.le_of_ble_eq_true rfl) rfl rfl ?_
  refine a_iload_n (pc := 21) X9 dX10_luck_21 rfl rfl ?_
  obtain ⟨g_1, h⟩ := h
  refine a_if_ne (pc := 22) (tgt := 29) X9 dX10_luck_22 rfl g_1 (fun c => ?_) (fun c => ?_)
  · have c_1 := c
    have h := h.1 c_1
    refine a_aload_n (pc := 29) X9 dX10_luck_29 rfl rfl ?_
    refine a_getR (pc := 30) X9 (q := 273) okX10 1 rfl wF_X10_9 (is10 hnn) rf10_1 dX10_luck_30 ?_
    refine a_bipush (pc := 33) X9 dX10_luck_33 rfl ?_
    refine a_iald (pc := 35) X9 (ar10_1 hnn) (Nat.le_of_ble_eq_true rfl) (j := 10) rfl (Nat.le_of_ble_eq_true rfl) dX10_luck_35 ?_
    refine a_i2d (pc := 36) X9 dX10_luck_36 ?_
    refine a_iload_n (pc := 37) X9 dX10_luck_37 rfl rfl ?_
    refine a_i2d (pc := 38) X9 dX10_luck_38 ?_
    obtain ⟨g_2, h⟩ := h
    refine a_ddiv (pc := 39) X9 dX10_luck_39 g_2 ?_
    exact a_dreturn (pc := 40) X9 E (Nat.le_of_ble_eq_true rfl) (Nat.le_of_ble_eq_true rfl) dX10_luck_40 ⟨rfl, _, rfl, h⟩
  · have c_1 := c
    have h := h.2 c_1
    refine a_dconst0 (pc := 25) X9 dX10_luck_25 ?_
    refine a_goto (pc := 26) (tgt := 40) X9 dX10_luck_26 rfl ?_
    exact a_dreturn (pc := 40) X9 E (Nat.le_of_ble_eq_true rfl) (Nat.le_of_ble_eq_true rfl) dX10_luck_40 ⟨rfl, _, rfl, h⟩
set_option maxHeartbeats 4000000 in
set_option maxRecDepth 100000 in
theorem m_X10_turned {nn : Nat}  {G : GH} {Q : UInt32 → GH → Prop}  (hnn : 285 ≤ nn) (h : f_X10_turned G Q) : Mt yX10_turned cX10_turned 2 (some .float) 3 64 0 0 [vr 272] (SF nn) G (fun v S' G' => S' = SF nn ∧ qF Q v S' G') (fun E S' G' => S' = SF nn ∧ False) := by
  refine Mt.of (l0 := [some (vr 272), none]) (by decide) (Nat.le_of_ble_eq_true rfl) rfl ?_
  intro κ δ ρ0 X9 E hG
  replace X9 : CX κ δ RX10 cX10_turned 2 (some .float) := X9
  refine a_aload_n (pc := 0) X9 dX10_turned_0 rfl rfl ?_
  refine a_iconst (pc := 1) X9 dX10_turned_1 ?_
  refine a_putI (pc := 2) X9 okX10 0 rfl rfl (v := 0) wF_X10_58 (is10 hnn) dX10_turned_2 (by decide) (fit_int _) (fun _ => ?_)
  obtain ⟨G_1, eG_1⟩ : ∃ G9, G9 = upG G 272 0 0 := ⟨_, rfl⟩
  have hG_1 : GR G_1 := by rw [eG_1]; exact (GR.up hG (by decide))
  have h := h G_1 eG_1
  rw [← eG_1]
  refine a_aload_n (pc := 5) X9 dX10_turned_5 rfl rfl ?_
  refine a_callV (pc := 6) X9 E (m_X10_allHanging  hnn h) okX10 (is10 hnn) wM_X10_325 w_instanceMethod_X10_allHanging w_selects_X10_allHanging w_initialized_RX10 w_code_X10_allHanging cp_X10_allHanging pn_X10_allHanging rfl (Nat.le_of_ble_eq_true rfl) ⟨Nat.le_of_ble_eq_true rfl, Nat.le_of_ble_eq_true rfl⟩ ⟨Nat.le_of_ble_eq_true rfl, Nat.le_of_ble_eq_true rfl⟩ dX10_turned_6 (fun _ _ q => False.elim q) (kIp (fun r_1 hr_1 h => ?_))
  refine a_istore_n (pc := 9) X9 dX10_turned_9 rfl (Nat.le_of_ble_eq_true rfl) rfl rfl ?_
  refine a_iload_n (pc := 10) X9 dX10_turned_10 rfl rfl ?_
  refine a_if_ne (pc := 11) (tgt := 18) X9 dX10_turned_11 rfl hr_1 (fun c => ?_) (fun c => ?_)
  · have c_1 := c
    have h := h.1 c_1
    refine a_aload_n (pc := 18) X9 dX10_turned_18 rfl rfl ?_
    refine a_callV (pc := 19) X9 E (m_X10_turnedOnes  hnn h) okX10 (is10 hnn) wM_X10_390 w_instanceMethod_X10_turnedOnes w_selects_X10_turnedOnes w_initialized_RX10 w_code_X10_turnedOnes cp_X10_turnedOnes pn_X10_turnedOnes rfl (Nat.le_of_ble_eq_true rfl) ⟨Nat.le_of_ble_eq_true rfl, Nat.le_of_ble_eq_true rfl⟩ ⟨Nat.le_of_ble_eq_true rfl, Nat.le_of_ble_eq_true rfl⟩ dX10_turned_19 (fun _ _ q => False.elim q) (kIp (fun r_2 hr_2 h => ?_))
    refine a_i2f (pc := 22) X9 dX10_turned_22 ?_
    refine a_iload_n (pc := 23) X9 dX10_turned_23 rfl rfl ?_
    refine a_i2f (pc := 24) X9 dX10_turned_24 ?_
    obtain ⟨g_1, h⟩ := h
    refine a_fdiv (pc := 25) X9 dX10_turned_25 g_1 ?_
    exact a_freturn (pc := 26) X9 E (Nat.le_of_ble_eq_true rfl) (Nat.le_of_ble_eq_true rfl) dX10_turned_26 ⟨rfl, _, rfl, h⟩
  · have c_1 := c
    have h := h.2 c_1
    refine a_fconst0 (pc := 14) X9 dX10_turned_14 ?_
    refine a_goto (pc := 15) (tgt := 26) X9 dX10_turned_15 rfl ?_
    exact a_freturn (pc := 26) X9 E (Nat.le_of_ble_eq_true rfl) (Nat.le_of_ble_eq_true rfl) dX10_turned_26 ⟨rfl, _, rfl, h⟩
set_option maxHeartbeats 4000000 in
set_option maxRecDepth 100000 in
theorem m_X10_says {nn : Nat} {i1 : Int} {G : GH} {Q : GH → Prop} (hi1 : inR i1) (hnn : 285 ≤ nn) (h : f_X10_says i1 G Q) : Mt yX10_says cX10_says 2 none 0 0 0 0 [vr 272, vi i1] (SF nn) G (fun v S' G' => S' = SF nn ∧ qV Q v S' G') (fun E S' G' => S' = SF nn ∧ False) := by
  refine Mt.of (l0 := [some (vr 272), some (vi i1)]) (by decide) (Nat.le_of_ble_eq_true rfl) rfl ?_
  intro κ δ ρ0 X9 E hG
  replace X9 : CX κ δ RX10 cX10_says 2 none := X9
  refine a_aload_n (pc := 0) X9 dX10_says_0 rfl rfl ?_
  refine a_getR (pc := 1) X9 (q := 284) okX10 26 rfl wF_X10_52 (is10 hnn) rf10_26 dX10_says_1 ?_
  refine a_aload_n (pc := 4) X9 dX10_says_4 rfl rfl ?_
  refine a_getI (pc := 5) X9 okX10 27 rfl wF_X10_435 (is10 hnn) dX10_says_5 ?_
  refine a_iload_n (pc := 8) X9 dX10_says_8 rfl rfl ?_
  obtain ⟨g_1, h⟩ := h
  refine b_iast (pc := 9) X9 (i := (G 272 27)) (v := i1) (ar10_26 hnn) (Nat.le_of_ble_eq_true rfl) g_1 hi1 dX10_says_9 ?_
  obtain ⟨G_1, eG_1⟩ : ∃ G9, G9 = upG G 284 ((G 272 27)).toNat i1 := ⟨_, rfl⟩
  have hG_1 : GR G_1 := by rw [eG_1]; exact (GR.up hG hi1)
  have h := h G_1 eG_1
  rw [← eG_1]
  refine a_aload_n (pc := 10) X9 dX10_says_10 rfl rfl ?_
  refine a_dup (pc := 11) X9 dX10_says_11 rfl ?_
  refine a_getI (pc := 12) X9 okX10 27 rfl wF_X10_435 (is10 hnn) dX10_says_12 ?_
  refine a_iconst (pc := 15) X9 dX10_says_15 ?_
  refine a_iadd (pc := 16) X9 dX10_says_16 ?_
  obtain ⟨g_2, h⟩ := h
  refine a_putI (pc := 17) X9 okX10 27 rfl rfl (v := ((G_1 272 27) + 1)) wF_X10_435 (is10 hnn) dX10_says_17 g_2 (fit_int _) (fun _ => ?_)
  obtain ⟨G_2, eG_2⟩ : ∃ G9, G9 = upG G_1 272 27 ((G_1 272 27) + 1) := ⟨_, rfl⟩
  have hG_2 : GR G_2 := by rw [eG_2]; exact (GR.up hG_1 g_2)
  have h := h G_2 eG_2
  rw [← eG_2]
  exact a_return (pc := 20) X9 E (Nat.le_of_ble_eq_true rfl) (Nat.le_of_ble_eq_true rfl) dX10_says_20 ⟨rfl, rfl, h⟩
set_option maxHeartbeats 4000000 in
set_option maxRecDepth 100000 in
theorem m_X10_saysNumber {nn : Nat} {i1 : Int} {G : GH} {Q : GH → Prop} (hi1 : inR i1) (hnn : 285 ≤ nn) (h : f_X10_saysNumber i1 G Q) : Mt yX10_saysNumber cX10_saysNumber 2 none 1 21 0 0 [vr 272, vi i1] (SF nn) G (fun v S' G' => S' = SF nn ∧ qV Q v S' G') (fun E S' G' => S' = SF nn ∧ False) := by
  refine Mt.of (l0 := [some (vr 272), some (vi i1)]) (by decide) (Nat.le_of_ble_eq_true rfl) rfl ?_
  intro κ δ ρ0 X9 E hG
  replace X9 : CX κ δ RX10 cX10_saysNumber 2 none := X9
  refine a_iload_n (pc := 0) X9 dX10_saysNumber_0 rfl rfl ?_
  refine a_bipush (pc := 1) X9 dX10_saysNumber_1 rfl ?_
  refine joinM1 (A := fun G_2 => GR G_2 → AW κ δ ρ0 nn 2 0 0 17 [some (vr 272), some (vi i1)] [] (SF nn) G_2) (fun G_2 h hG_2 => ?_) (fun j_1 hj_1 h => ?_) h
  · refine a_iload_n (pc := 17) X9 dX10_saysNumber_17 rfl rfl ?_
    refine a_bipush (pc := 18) X9 dX10_saysNumber_18 rfl ?_
    refine joinM1 (A := fun G_4 => GR G_4 → AW κ δ ρ0 nn 2 0 0 37 [some (vr 272), some (vi i1)] [] (SF nn) G_4) (fun G_4 h hG_4 => ?_) (fun j_2 hj_2 h => ?_) h
    · refine a_aload_n (pc := 37) X9 dX10_saysNumber_37 rfl rfl ?_
      refine a_bipush (pc := 38) X9 dX10_saysNumber_38 rfl ?_
      refine a_iload_n (pc := 40) X9 dX10_saysNumber_40 rfl rfl ?_
      refine a_bipush (pc := 41) X9 dX10_saysNumber_41 rfl ?_
      obtain ⟨g_6, h⟩ := h
      refine a_irem (pc := 43) X9 dX10_saysNumber_43 ⟨g_6, hi1.2⟩ ⟨(by decide), (by decide)⟩ ?_
      refine a_iadd (pc := 44) X9 dX10_saysNumber_44 ?_
      obtain ⟨g_7, h⟩ := h
      refine a_callV (pc := 45) X9 E (m_X10_says g_7 hnn h) okX10 (is10 hnn) wM_X10_438 w_instanceMethod_X10_says w_selects_X10_says w_initialized_RX10 w_code_X10_says cp_X10_says pn_X10_says rfl (Nat.le_of_ble_eq_true rfl) ⟨Nat.le_of_ble_eq_true rfl, Nat.le_of_ble_eq_true rfl⟩ ⟨Nat.le_of_ble_eq_true rfl, Nat.le_of_ble_eq_true rfl⟩ dX10_saysNumber_45 (fun _ _ q => False.elim q) (kV (fun G_5 h hG_5 => ?_))
      exact a_return (pc := 48) X9 E (Nat.le_of_ble_eq_true rfl) (Nat.le_of_ble_eq_true rfl) dX10_saysNumber_48 ⟨rfl, rfl, h⟩
    · refine a_icmp_lt (pc := 20) (tgt := 37) X9 dX10_saysNumber_20 rfl hi1 (by decide) (fun c => ?_) (fun c => ?_)
      · have c_3 := c
        have h := h.1 c_3
        exact hj_2 _ h hG_2
      · have c_3 := c
        have h := h.2 c_3
        refine a_aload_n (pc := 23) X9 dX10_saysNumber_23 rfl rfl ?_
        refine a_bipush (pc := 24) X9 dX10_saysNumber_24 rfl ?_
        refine a_iload_n (pc := 26) X9 dX10_saysNumber_26 rfl rfl ?_
        refine a_bipush (pc := 27) X9 dX10_saysNumber_27 rfl ?_
        obtain ⟨g_8, h⟩ := h
        refine a_idiv (pc := 29) X9 dX10_saysNumber_29 ⟨g_8, hi1.2⟩ ⟨(by decide), (by decide)⟩ ?_
        refine a_bipush (pc := 30) X9 dX10_saysNumber_30 rfl ?_
        obtain ⟨g_9, h⟩ := h
        refine a_irem (pc := 32) X9 dX10_saysNumber_32 ⟨g_9, (inR_div hi1 g_8 (by decide)).2⟩ ⟨(by decide), (by decide)⟩ ?_
        refine a_iadd (pc := 33) X9 dX10_saysNumber_33 ?_
        obtain ⟨g_10, h⟩ := h
        refine a_callV (pc := 34) X9 E (m_X10_says g_10 hnn h) okX10 (is10 hnn) wM_X10_438 w_instanceMethod_X10_says w_selects_X10_says w_initialized_RX10 w_code_X10_says cp_X10_says pn_X10_says rfl (Nat.le_of_ble_eq_true rfl) ⟨Nat.le_of_ble_eq_true rfl, Nat.le_of_ble_eq_true rfl⟩ ⟨Nat.le_of_ble_eq_true rfl, Nat.le_of_ble_eq_true rfl⟩ dX10_saysNumber_34 (fun _ _ q => False.elim q) (kV (fun G_6 h hG_6 => ?_))
        exact hj_2 _ h hG_6
  · refine a_icmp_lt (pc := 3) (tgt := 17) X9 dX10_saysNumber_3 rfl hi1 (by decide) (fun c => ?_) (fun c => ?_)
    · have c_4 := c
      have h := h.1 c_4
      exact hj_1 _ h hG
    · have c_4 := c
      have h := h.2 c_4
      refine a_aload_n (pc := 6) X9 dX10_saysNumber_6 rfl rfl ?_
      refine a_bipush (pc := 7) X9 dX10_saysNumber_7 rfl ?_
      refine a_iload_n (pc := 9) X9 dX10_saysNumber_9 rfl rfl ?_
      refine a_bipush (pc := 10) X9 dX10_saysNumber_10 rfl ?_
      obtain ⟨g_11, h⟩ := h
      refine a_idiv (pc := 12) X9 dX10_saysNumber_12 ⟨g_11, hi1.2⟩ ⟨(by decide), (by decide)⟩ ?_
      refine a_iadd (pc := 13) X9 dX10_saysNumber_13 ?_
      obtain ⟨g_12, h⟩ := h
      refine a_callV (pc := 14) X9 E (m_X10_says g_12 hnn h) okX10 (is10 hnn) wM_X10_438 w_instanceMethod_X10_says w_selects_X10_says w_initialized_RX10 w_code_X10_says cp_X10_says pn_X10_says rfl (Nat.le_of_ble_eq_true rfl) ⟨Nat.le_of_ble_eq_true rfl, Nat.le_of_ble_eq_true rfl⟩ ⟨Nat.le_of_ble_eq_true rfl, Nat.le_of_ble_eq_true rfl⟩ dX10_saysNumber_14 (fun _ _ q => False.elim q) (kV (fun G_7 h hG_7 => ?_))
      exact hj_1 _ h hG_7
set_option maxHeartbeats 4000000 in
set_option maxRecDepth 100000 in
theorem m_X10_saysRow {nn : Nat} {i1 : Int} {G : GH} {Q : GH → Prop} (hi1 : inR i1) (hnn : 285 ≤ nn) (h : f_X10_saysRow i1 G Q) : Mt yX10_saysRow cX10_saysRow 4 none 2 42 0 0 [vr 272, vi i1] (SF nn) G (fun v S' G' => S' = SF nn ∧ qV Q v S' G') (fun E S' G' => S' = SF nn ∧ False) := by
  refine Mt.of (l0 := [some (vr 272), some (vi i1), none, none]) (by decide) (Nat.le_of_ble_eq_true rfl) rfl ?_
  intro κ δ ρ0 X9 E hG
  replace X9 : CX κ δ RX10 cX10_saysRow 4 none := X9
  refine a_iconst (pc := 0) X9 dX10_saysRow_0 ?_
  refine a_istore_n (pc := 1) X9 dX10_saysRow_1 rfl (Nat.le_of_ble_eq_true rfl) rfl rfl ?_
  refine loopM2 (A := fun x2_1 G_1 => inR x2_1 → GR G_1 → AW κ δ ρ0 nn 4 0 0 2 [some (vr 272), some (vi i1), some (vi x2_1), none] [] (SF nn) G_1) (fun k_1 hk_1 x2_1 G_1 h h_x2_1 hG_1 => ?_) _ _ h (by decide) hG
  refine a_iload_n (pc := 2) X9 dX10_saysRow_2 rfl rfl ?_
  refine a_iconst (pc := 3) X9 dX10_saysRow_3 ?_
  refine a_icmp_ge (pc := 4) (tgt := 49) X9 dX10_saysRow_4 rfl h_x2_1 (by decide) (fun c => ?_) (fun c => ?_)
  · have c_1 := c
    have h := h.1 c_1
    exact a_return (pc := 49) X9 E (Nat.le_of_ble_eq_true rfl) (Nat.le_of_ble_eq_true rfl) dX10_saysRow_49 ⟨rfl, rfl, h⟩
  · have c_1 := c
    have h := h.2 c_1
    refine a_iconst (pc := 7) X9 dX10_saysRow_7 ?_
    refine a_iload_n (pc := 8) X9 dX10_saysRow_8 rfl rfl ?_
    refine a_imul (pc := 9) X9 dX10_saysRow_9 ?_
    refine a_iload_n (pc := 10) X9 dX10_saysRow_10 rfl rfl ?_
    refine a_iadd (pc := 11) X9 dX10_saysRow_11 ?_
    refine a_istore_n (pc := 12) X9 dX10_saysRow_12 rfl (Nat.le_of_ble_eq_true rfl) rfl rfl ?_
    refine a_aload_n (pc := 13) X9 dX10_saysRow_13 rfl rfl ?_
    refine a_aload_n (pc := 14) X9 dX10_saysRow_14 rfl rfl ?_
    refine a_iload_n (pc := 15) X9 dX10_saysRow_15 rfl rfl ?_
    obtain ⟨g_1, h⟩ := h
    refine a_callV (pc := 16) X9 E (m_X10_hangs g_1 hnn h) okX10 (is10 hnn) wM_X10_237 w_instanceMethod_X10_hangs w_selects_X10_hangs w_initialized_RX10 w_code_X10_hangs cp_X10_hangs pn_X10_hangs rfl (Nat.le_of_ble_eq_true rfl) ⟨Nat.le_of_ble_eq_true rfl, Nat.le_of_ble_eq_true rfl⟩ ⟨Nat.le_of_ble_eq_true rfl, Nat.le_of_ble_eq_true rfl⟩ dX10_saysRow_16 (fun _ _ q => False.elim q) (kZp (fun r_1 hr_1 h => ?_))
    refine joinM1 (A := fun v_1 => inR v_1 → AW κ δ ρ0 nn 4 0 0 40 [some (vr 272), some (vi i1), some (vi x2_1), some (vi ((3 * i1) + x2_1))] [vi v_1, vr 272] (SF nn) G_1) (fun v_1 h h_v_1 => ?_) (fun j_1 hj_1 h => ?_) h
    · refine a_callV (pc := 40) X9 E (m_X10_says h_v_1 hnn h) okX10 (is10 hnn) wM_X10_438 w_instanceMethod_X10_says w_selects_X10_says w_initialized_RX10 w_code_X10_says cp_X10_says pn_X10_says rfl (Nat.le_of_ble_eq_true rfl) ⟨Nat.le_of_ble_eq_true rfl, Nat.le_of_ble_eq_true rfl⟩ ⟨Nat.le_of_ble_eq_true rfl, Nat.le_of_ble_eq_true rfl⟩ dX10_saysRow_40 (fun _ _ q => False.elim q) (kV (fun G_2 h hG_2 => ?_))
      refine a_iinc (pc := 43) X9 dX10_saysRow_43 rfl (Nat.le_of_ble_eq_true rfl) rfl rfl ?_
      refine a_goto (pc := 46) (tgt := 2) X9 dX10_saysRow_46 rfl ?_
      have q_1 : inR (x2_1) := h_x2_1
      have g_3 : inR ((x2_1 + 1)) := ⟨by omega, by omega⟩
      refine AW.drop 3 rfl ?_
      exact hk_1 _ _ h g_3 hG_2
    · refine a_if_eq (pc := 19) (tgt := 38) X9 dX10_saysRow_19 rfl (bool_inR hr_1) (fun c => ?_) (fun c => ?_)
      · have c_3 := c
        have h := h.1 c_3
        refine a_bipush (pc := 38) X9 dX10_saysRow_38 rfl ?_
        exact hj_1 _ h (by decide)
      · have c_3 := c
        have h := h.2 c_3
        refine a_bipush (pc := 22) X9 dX10_saysRow_22 rfl ?_
        refine a_aload_n (pc := 24) X9 dX10_saysRow_24 rfl rfl ?_
        refine a_getR (pc := 25) X9 (q := 273) okX10 1 rfl wF_X10_9 (is10 hnn) rf10_1 dX10_saysRow_25 ?_
        refine a_iload_n (pc := 28) X9 dX10_saysRow_28 rfl rfl ?_
        refine a_iconst (pc := 29) X9 dX10_saysRow_29 ?_
        refine a_callS (pc := 30) X9 E (m_X10_placeAt g_1 (show inR 0 by decide) hnn h) wM_X10_234 w_static_X10_placeAt w_initialized_RX10 w_code_X10_placeAt cp_X10_placeAt pn_X10_placeAt rfl (Nat.le_of_ble_eq_true rfl) ⟨Nat.le_of_ble_eq_true rfl, Nat.le_of_ble_eq_true rfl⟩ ⟨Nat.le_of_ble_eq_true rfl, Nat.le_of_ble_eq_true rfl⟩ dX10_saysRow_30 (fun _ _ q => False.elim q) (kIp (fun r_4 hr_4 h => ?_))
        obtain ⟨g_4, h⟩ := h
        refine b_iald (pc := 33) X9 (ar10_1 hnn) (Nat.le_of_ble_eq_true rfl) g_4 dX10_saysRow_33 ?_
        refine a_iadd (pc := 34) X9 dX10_saysRow_34 ?_
        refine a_goto (pc := 35) (tgt := 40) X9 dX10_saysRow_35 rfl ?_
        obtain ⟨g_5, h⟩ := h
        exact hj_1 _ h g_5
set_option maxHeartbeats 4000000 in
set_option maxRecDepth 100000 in
theorem m_X10_write {nn : Nat}  {G : GH} {Q : Int → GH → Prop}  (hnn : 285 ≤ nn) (h : f_X10_write G Q) : Mt yX10_write cX10_write 3 (some .int) 3 65 0 0 [vr 272] (SF nn) G (fun v S' G' => S' = SF nn ∧ qI Q v S' G') (fun E S' G' => S' = SF nn ∧ False) := by
  refine Mt.of (l0 := [some (vr 272), none, none]) (by decide) (Nat.le_of_ble_eq_true rfl) rfl ?_
  intro κ δ ρ0 X9 E hG
  replace X9 : CX κ δ RX10 cX10_write 3 (some .int) := X9
  refine a_aload_n (pc := 0) X9 dX10_write_0 rfl rfl ?_
  refine a_iconst (pc := 1) X9 dX10_write_1 ?_
  refine a_putI (pc := 2) X9 okX10 0 rfl rfl (v := 0) wF_X10_58 (is10 hnn) dX10_write_2 (by decide) (fit_int _) (fun _ => ?_)
  obtain ⟨G_1, eG_1⟩ : ∃ G9, G9 = upG G 272 0 0 := ⟨_, rfl⟩
  have hG_1 : GR G_1 := by rw [eG_1]; exact (GR.up hG (by decide))
  have h := h G_1 eG_1
  rw [← eG_1]
  refine a_aload_n (pc := 5) X9 dX10_write_5 rfl rfl ?_
  refine a_iconst (pc := 6) X9 dX10_write_6 ?_
  refine a_putI (pc := 7) X9 okX10 27 rfl rfl (v := 0) wF_X10_435 (is10 hnn) dX10_write_7 (by decide) (fit_int _) (fun _ => ?_)
  obtain ⟨G_2, eG_2⟩ : ∃ G9, G9 = upG G_1 272 27 0 := ⟨_, rfl⟩
  have hG_2 : GR G_2 := by rw [eG_2]; exact (GR.up hG_1 (by decide))
  have h := h G_2 eG_2
  rw [← eG_2]
  refine a_iconst (pc := 10) X9 dX10_write_10 ?_
  refine a_istore_n (pc := 11) X9 dX10_write_11 rfl (Nat.le_of_ble_eq_true rfl) rfl rfl ?_
  refine loopM2 (A := fun x1_1 G_3 => inR x1_1 → GR G_3 → AW κ δ ρ0 nn 3 0 0 12 [some (vr 272), some (vi x1_1), none] [] (SF nn) G_3) (fun k_1 hk_1 x1_1 G_3 h h_x1_1 hG_3 => ?_) _ _ h (by decide) hG_2
  refine a_iload_n (pc := 12) X9 dX10_write_12 rfl rfl ?_
  refine a_aload_n (pc := 13) X9 dX10_write_13 rfl rfl ?_
  refine a_getR (pc := 14) X9 (q := 273) okX10 1 rfl wF_X10_9 (is10 hnn) rf10_1 dX10_write_14 ?_
  refine a_iconst (pc := 17) X9 dX10_write_17 ?_
  refine a_iald (pc := 18) X9 (ar10_1 hnn) (Nat.le_of_ble_eq_true rfl) (j := 0) rfl (Nat.le_of_ble_eq_true rfl) dX10_write_18 ?_
  refine a_icmp_ge (pc := 19) (tgt := 80) X9 dX10_write_19 rfl h_x1_1 (hG_3 _ _) (fun c => ?_) (fun c => ?_)
  · have c_1 := c
    have h := h.1 c_1
    refine a_aload_n (pc := 80) X9 dX10_write_80 rfl rfl ?_
    refine a_getI (pc := 81) X9 okX10 27 rfl wF_X10_435 (is10 hnn) dX10_write_81 ?_
    exact a_ireturn (pc := 84) X9 E rfl rfl (Nat.le_of_ble_eq_true rfl) (Nat.le_of_ble_eq_true rfl) dX10_write_84 ⟨rfl, _, rfl, (hG_3 _ _), h⟩
  · have c_1 := c
    have h := h.2 c_1
    refine a_iload_n (pc := 22) X9 dX10_write_22 rfl rfl ?_
    refine joinM1 (A := fun G_5 => GR G_5 → AW κ δ ρ0 nn 3 0 0 32 [some (vr 272), some (vi x1_1), none] [] (SF nn) G_5) (fun G_5 h hG_5 => ?_) (fun j_1 hj_1 h => ?_) h
    · refine a_iconst (pc := 32) X9 dX10_write_32 ?_
      refine a_istore_n (pc := 33) X9 dX10_write_33 rfl (Nat.le_of_ble_eq_true rfl) rfl rfl ?_
      refine loopM2 (A := fun x2_1 G_6 => inR x2_1 → GR G_6 → AW κ δ ρ0 nn 3 0 0 34 [some (vr 272), some (vi x1_1), some (vi x2_1)] [] (SF nn) G_6) (fun k_2 hk_2 x2_1 G_6 h h_x2_1 hG_6 => ?_) _ _ h (by decide) hG_5
      refine a_iload_n (pc := 34) X9 dX10_write_34 rfl rfl ?_
      refine a_aload_n (pc := 35) X9 dX10_write_35 rfl rfl ?_
      refine a_getR (pc := 36) X9 (q := 273) okX10 1 rfl wF_X10_9 (is10 hnn) rf10_1 dX10_write_36 ?_
      refine a_bipush (pc := 39) X9 dX10_write_39 rfl ?_
      refine a_iload_n (pc := 41) X9 dX10_write_41 rfl rfl ?_
      refine a_iadd (pc := 42) X9 dX10_write_42 ?_
      obtain ⟨g_1, h⟩ := h
      refine b_iald (pc := 43) X9 (ar10_1 hnn) (Nat.le_of_ble_eq_true rfl) g_1 dX10_write_43 ?_
      refine a_icmp_ge (pc := 44) (tgt := 74) X9 dX10_write_44 rfl h_x2_1 (hG_6 _ _) (fun c => ?_) (fun c => ?_)
      · have c_3 := c
        have h := h.1 c_3
        refine a_iinc (pc := 74) X9 dX10_write_74 rfl (Nat.le_of_ble_eq_true rfl) rfl rfl ?_
        refine a_goto (pc := 77) (tgt := 12) X9 dX10_write_77 rfl ?_
        have q_1 : inR ((G_3 273 0)) := (hG_3 _ _)
        have q_2 : inR (x1_1) := h_x1_1
        have g_2 : inR ((x1_1 + 1)) := ⟨by omega, by omega⟩
        refine AW.drop 2 rfl ?_
        exact hk_1 _ _ h g_2 hG_6
      · have c_3 := c
        have h := h.2 c_3
        refine a_iload_n (pc := 47) X9 dX10_write_47 rfl rfl ?_
        refine joinM1 (A := fun G_8 => GR G_8 → AW κ δ ρ0 nn 3 0 0 57 [some (vr 272), some (vi x1_1), some (vi x2_1)] [] (SF nn) G_8) (fun G_8 h hG_8 => ?_) (fun j_2 hj_2 h => ?_) h
        · refine a_aload_n (pc := 57) X9 dX10_write_57 rfl rfl ?_
          refine a_aload_n (pc := 58) X9 dX10_write_58 rfl rfl ?_
          refine a_iload_n (pc := 59) X9 dX10_write_59 rfl rfl ?_
          refine a_callV (pc := 60) X9 E (m_X10_firstRow h_x1_1 hnn h) okX10 (is10 hnn) wM_X10_270 w_instanceMethod_X10_firstRow w_selects_X10_firstRow w_initialized_RX10 w_code_X10_firstRow cp_X10_firstRow pn_X10_firstRow rfl (Nat.le_of_ble_eq_true rfl) ⟨Nat.le_of_ble_eq_true rfl, Nat.le_of_ble_eq_true rfl⟩ ⟨Nat.le_of_ble_eq_true rfl, Nat.le_of_ble_eq_true rfl⟩ dX10_write_60 (fun _ _ q => False.elim q) (kIp (fun r_3 hr_3 h => ?_))
          refine a_iload_n (pc := 63) X9 dX10_write_63 rfl rfl ?_
          refine a_iadd (pc := 64) X9 dX10_write_64 ?_
          obtain ⟨g_3, h⟩ := h
          refine a_callV (pc := 65) X9 E (m_X10_saysRow g_3 hnn h) okX10 (is10 hnn) wM_X10_441 w_instanceMethod_X10_saysRow w_selects_X10_saysRow w_initialized_RX10 w_code_X10_saysRow cp_X10_saysRow pn_X10_saysRow rfl (Nat.le_of_ble_eq_true rfl) ⟨Nat.le_of_ble_eq_true rfl, Nat.le_of_ble_eq_true rfl⟩ ⟨Nat.le_of_ble_eq_true rfl, Nat.le_of_ble_eq_true rfl⟩ dX10_write_65 (fun _ _ q => False.elim q) (kV (fun G_9 h hG_9 => ?_))
          refine a_iinc (pc := 68) X9 dX10_write_68 rfl (Nat.le_of_ble_eq_true rfl) rfl rfl ?_
          refine a_goto (pc := 71) (tgt := 34) X9 dX10_write_71 rfl ?_
          have q_3 : inR ((G_6 273 ((12 + x1_1)).toNat)) := (hG_6 _ _)
          have q_4 : inR (x2_1) := h_x2_1
          have g_4 : inR ((x2_1 + 1)) := ⟨by omega, by omega⟩
          exact hk_2 _ _ h g_4 hG_9
        · refine a_if_le (pc := 48) (tgt := 57) X9 dX10_write_48 rfl h_x2_1 (fun c => ?_) (fun c => ?_)
          · have c_5 := c
            have h := h.1 c_5
            exact hj_2 _ h hG_6
          · have c_5 := c
            have h := h.2 c_5
            refine a_aload_n (pc := 51) X9 dX10_write_51 rfl rfl ?_
            refine a_bipush (pc := 52) X9 dX10_write_52 rfl ?_
            refine a_callV (pc := 54) X9 E (m_X10_says (show inR 47 by decide) hnn h) okX10 (is10 hnn) wM_X10_438 w_instanceMethod_X10_says w_selects_X10_says w_initialized_RX10 w_code_X10_says cp_X10_says pn_X10_says rfl (Nat.le_of_ble_eq_true rfl) ⟨Nat.le_of_ble_eq_true rfl, Nat.le_of_ble_eq_true rfl⟩ ⟨Nat.le_of_ble_eq_true rfl, Nat.le_of_ble_eq_true rfl⟩ dX10_write_54 (fun _ _ q => False.elim q) (kV (fun G_10 h hG_10 => ?_))
            exact hj_2 _ h hG_10
    · refine a_if_le (pc := 23) (tgt := 32) X9 dX10_write_23 rfl h_x1_1 (fun c => ?_) (fun c => ?_)
      · have c_6 := c
        have h := h.1 c_6
        exact hj_1 _ h hG_3
      · have c_6 := c
        have h := h.2 c_6
        refine a_aload_n (pc := 26) X9 dX10_write_26 rfl rfl ?_
        refine a_bipush (pc := 27) X9 dX10_write_27 rfl ?_
        refine a_callV (pc := 29) X9 E (m_X10_says (show inR 32 by decide) hnn h) okX10 (is10 hnn) wM_X10_438 w_instanceMethod_X10_says w_selects_X10_says w_initialized_RX10 w_code_X10_says cp_X10_says pn_X10_says rfl (Nat.le_of_ble_eq_true rfl) ⟨Nat.le_of_ble_eq_true rfl, Nat.le_of_ble_eq_true rfl⟩ ⟨Nat.le_of_ble_eq_true rfl, Nat.le_of_ble_eq_true rfl⟩ dX10_write_29 (fun _ _ q => False.elim q) (kV (fun G_11 h hG_11 => ?_))
        exact hj_1 _ h hG_11
set_option maxHeartbeats 4000000 in
set_option maxRecDepth 100000 in
theorem m_X10_writeService {nn : Nat} {i1 : Int} {G : GH} {Q : Int → GH → Prop} (hi1 : inR i1) (hnn : 285 ≤ nn) (h : f_X10_writeService i1 G Q) : Mt yX10_writeService cX10_writeService 3 (some .int) 3 67 0 0 [vr 272, vi i1] (SF nn) G (fun v S' G' => S' = SF nn ∧ qI Q v S' G') (fun E S' G' => S' = SF nn ∧ False) := by
  refine Mt.of (l0 := [some (vr 272), some (vi i1), none]) (by decide) (Nat.le_of_ble_eq_true rfl) rfl ?_
  intro κ δ ρ0 X9 E hG
  replace X9 : CX κ δ RX10 cX10_writeService 3 (some .int) := X9
  refine a_aload_n (pc := 0) X9 dX10_writeService_0 rfl rfl ?_
  refine a_iload_n (pc := 1) X9 dX10_writeService_1 rfl rfl ?_
  refine a_callV (pc := 2) X9 E (m_X10_noService hi1 hnn h) okX10 (is10 hnn) wM_X10_368 w_instanceMethod_X10_noService w_selects_X10_noService w_initialized_RX10 w_code_X10_noService cp_X10_noService pn_X10_noService rfl (Nat.le_of_ble_eq_true rfl) ⟨Nat.le_of_ble_eq_true rfl, Nat.le_of_ble_eq_true rfl⟩ ⟨Nat.le_of_ble_eq_true rfl, Nat.le_of_ble_eq_true rfl⟩ dX10_writeService_2 (fun _ _ q => False.elim q) (kZ (fun r_1 G_1 hr_1 h hG_1 => ?_))
  refine a_if_eq (pc := 5) (tgt := 10) X9 dX10_writeService_5 rfl (bool_inR hr_1) (fun c => ?_) (fun c => ?_)
  · have c_1 := c
    have h := h.1 c_1
    refine a_aload_n (pc := 10) X9 dX10_writeService_10 rfl rfl ?_
    refine a_iconst (pc := 11) X9 dX10_writeService_11 ?_
    refine a_putI (pc := 12) X9 okX10 27 rfl rfl (v := 0) wF_X10_435 (is10 hnn) dX10_writeService_12 (by decide) (fit_int _) (fun _ => ?_)
    obtain ⟨G_2, eG_2⟩ : ∃ G9, G9 = upG G_1 272 27 0 := ⟨_, rfl⟩
    have hG_2 : GR G_2 := by rw [eG_2]; exact (GR.up hG_1 (by decide))
    have h := h G_2 eG_2
    rw [← eG_2]
    refine a_iconst (pc := 15) X9 dX10_writeService_15 ?_
    refine a_istore_n (pc := 16) X9 dX10_writeService_16 rfl (Nat.le_of_ble_eq_true rfl) rfl rfl ?_
    refine loopM2 (A := fun x2_1 G_3 => inR x2_1 → GR G_3 → AW κ δ ρ0 nn 3 0 0 17 [some (vr 272), some (vi i1), some (vi x2_1)] [] (SF nn) G_3) (fun k_1 hk_1 x2_1 G_3 h h_x2_1 hG_3 => ?_) _ _ h (by decide) hG_2
    refine a_iload_n (pc := 17) X9 dX10_writeService_17 rfl rfl ?_
    refine a_aload_n (pc := 18) X9 dX10_writeService_18 rfl rfl ?_
    refine a_iload_n (pc := 19) X9 dX10_writeService_19 rfl rfl ?_
    refine a_callV (pc := 20) X9 E (m_X10_hymnsOf hi1 hnn h) okX10 (is10 hnn) wM_X10_148 w_instanceMethod_X10_hymnsOf w_selects_X10_hymnsOf w_initialized_RX10 w_code_X10_hymnsOf cp_X10_hymnsOf pn_X10_hymnsOf rfl (Nat.le_of_ble_eq_true rfl) ⟨Nat.le_of_ble_eq_true rfl, Nat.le_of_ble_eq_true rfl⟩ ⟨Nat.le_of_ble_eq_true rfl, Nat.le_of_ble_eq_true rfl⟩ dX10_writeService_20 (fun _ _ q => False.elim q) (kIp (fun r_2 hr_2 h => ?_))
    refine a_icmp_ge (pc := 23) (tgt := 52) X9 dX10_writeService_23 rfl h_x2_1 hr_2 (fun c => ?_) (fun c => ?_)
    · have c_2 := c
      have h := h.1 c_2
      refine a_aload_n (pc := 52) X9 dX10_writeService_52 rfl rfl ?_
      refine a_getI (pc := 53) X9 okX10 27 rfl wF_X10_435 (is10 hnn) dX10_writeService_53 ?_
      exact a_ireturn (pc := 56) X9 E rfl rfl (Nat.le_of_ble_eq_true rfl) (Nat.le_of_ble_eq_true rfl) dX10_writeService_56 ⟨rfl, _, rfl, (hG_3 _ _), h⟩
    · have c_2 := c
      have h := h.2 c_2
      refine a_iload_n (pc := 26) X9 dX10_writeService_26 rfl rfl ?_
      refine joinM1 (A := fun G_5 => GR G_5 → AW κ δ ρ0 nn 3 0 0 36 [some (vr 272), some (vi i1), some (vi x2_1)] [] (SF nn) G_5) (fun G_5 h hG_5 => ?_) (fun j_1 hj_1 h => ?_) h
      · refine a_aload_n (pc := 36) X9 dX10_writeService_36 rfl rfl ?_
        refine a_aload_n (pc := 37) X9 dX10_writeService_37 rfl rfl ?_
        refine a_iload_n (pc := 38) X9 dX10_writeService_38 rfl rfl ?_
        refine a_iload_n (pc := 39) X9 dX10_writeService_39 rfl rfl ?_
        refine a_callV (pc := 40) X9 E (m_X10_hymnOf hi1 h_x2_1 hnn h) okX10 (is10 hnn) wM_X10_152 w_instanceMethod_X10_hymnOf w_selects_X10_hymnOf w_initialized_RX10 w_code_X10_hymnOf cp_X10_hymnOf pn_X10_hymnOf rfl (Nat.le_of_ble_eq_true rfl) ⟨Nat.le_of_ble_eq_true rfl, Nat.le_of_ble_eq_true rfl⟩ ⟨Nat.le_of_ble_eq_true rfl, Nat.le_of_ble_eq_true rfl⟩ dX10_writeService_40 (fun _ _ q => False.elim q) (kIp (fun r_4 hr_4 h => ?_))
        refine a_callV (pc := 43) X9 E (m_X10_saysNumber hr_4 hnn h) okX10 (is10 hnn) wM_X10_444 w_instanceMethod_X10_saysNumber w_selects_X10_saysNumber w_initialized_RX10 w_code_X10_saysNumber cp_X10_saysNumber pn_X10_saysNumber rfl (Nat.le_of_ble_eq_true rfl) ⟨Nat.le_of_ble_eq_true rfl, Nat.le_of_ble_eq_true rfl⟩ ⟨Nat.le_of_ble_eq_true rfl, Nat.le_of_ble_eq_true rfl⟩ dX10_writeService_43 (fun _ _ q => False.elim q) (kV (fun G_6 h hG_6 => ?_))
        refine a_iinc (pc := 46) X9 dX10_writeService_46 rfl (Nat.le_of_ble_eq_true rfl) rfl rfl ?_
        refine a_goto (pc := 49) (tgt := 17) X9 dX10_writeService_49 rfl ?_
        have q_1 : inR (r_2) := hr_2
        have q_2 : inR (x2_1) := h_x2_1
        have g_1 : inR ((x2_1 + 1)) := ⟨by omega, by omega⟩
        exact hk_1 _ _ h g_1 hG_6
      · refine a_if_le (pc := 27) (tgt := 36) X9 dX10_writeService_27 rfl h_x2_1 (fun c => ?_) (fun c => ?_)
        · have c_4 := c
          have h := h.1 c_4
          exact hj_1 _ h hG_3
        · have c_4 := c
          have h := h.2 c_4
          refine a_aload_n (pc := 30) X9 dX10_writeService_30 rfl rfl ?_
          refine a_bipush (pc := 31) X9 dX10_writeService_31 rfl ?_
          refine a_callV (pc := 33) X9 E (m_X10_says (show inR 32 by decide) hnn h) okX10 (is10 hnn) wM_X10_438 w_instanceMethod_X10_says w_selects_X10_says w_initialized_RX10 w_code_X10_says cp_X10_says pn_X10_says rfl (Nat.le_of_ble_eq_true rfl) ⟨Nat.le_of_ble_eq_true rfl, Nat.le_of_ble_eq_true rfl⟩ ⟨Nat.le_of_ble_eq_true rfl, Nat.le_of_ble_eq_true rfl⟩ dX10_writeService_33 (fun _ _ q => False.elim q) (kV (fun G_7 h hG_7 => ?_))
          exact hj_1 _ h hG_7
  · have c_1 := c
    have h := h.2 c_1
    refine a_iconst (pc := 8) X9 dX10_writeService_8 ?_
    exact a_ireturn (pc := 9) X9 E rfl rfl (Nat.le_of_ble_eq_true rfl) (Nat.le_of_ble_eq_true rfl) dX10_writeService_9 ⟨rfl, _, rfl, (show inR 0 by decide), h⟩
set_option maxHeartbeats 4000000 in
set_option maxRecDepth 100000 in
theorem m_X10_outputByte {nn : Nat} {i1 : Int} {G : GH} {Q : Int → GH → Prop} (hi1 : inR i1) (hnn : 285 ≤ nn) (h : f_X10_outputByte i1 G Q) : Mt yX10_outputByte cX10_outputByte 2 (some .int) 1 25 0 0 [vr 272, vi i1] (SF nn) G (fun v S' G' => S' = SF nn ∧ qI Q v S' G') (fun E S' G' => S' = SF nn ∧ False) := by
  refine Mt.of (l0 := [some (vr 272), some (vi i1)]) (by decide) (Nat.le_of_ble_eq_true rfl) rfl ?_
  intro κ δ ρ0 X9 E hG
  replace X9 : CX κ δ RX10 cX10_outputByte 2 (some .int) := X9
  refine a_aload_n (pc := 0) X9 dX10_outputByte_0 rfl rfl ?_
  refine a_iconst (pc := 1) X9 dX10_outputByte_1 ?_
  refine a_putI (pc := 2) X9 okX10 0 rfl rfl (v := 0) wF_X10_58 (is10 hnn) dX10_outputByte_2 (by decide) (fit_int _) (fun _ => ?_)
  obtain ⟨G_1, eG_1⟩ : ∃ G9, G9 = upG G 272 0 0 := ⟨_, rfl⟩
  have hG_1 : GR G_1 := by rw [eG_1]; exact (GR.up hG (by decide))
  have h := h G_1 eG_1
  rw [← eG_1]
  refine a_iload_n (pc := 5) X9 dX10_outputByte_5 rfl rfl ?_
  refine a_i2l (pc := 6) X9 dX10_outputByte_6 hi1 ?_
  refine a_lconst (pc := 7) X9 0 dX10_outputByte_7 rfl ?_
  refine a_aload_n (pc := 8) X9 dX10_outputByte_8 rfl rfl ?_
  refine a_getI (pc := 9) X9 okX10 27 rfl wF_X10_435 (is10 hnn) dX10_outputByte_9 ?_
  refine a_iconst (pc := 12) X9 dX10_outputByte_12 ?_
  refine a_isub (pc := 13) X9 dX10_outputByte_13 ?_
  obtain ⟨g_1, h⟩ := h
  refine a_i2l (pc := 14) X9 dX10_outputByte_14 g_1 ?_
  refine a_callS (pc := 15) X9 E (m_X10_in (inR_inL hi1) (show inL 0 by decide) (inR_inL g_1) hnn h) wM_X10_92 w_static_X10_in w_initialized_RX10 w_code_X10_in cp_X10_in pn_X10_in rfl (Nat.le_of_ble_eq_true rfl) ⟨Nat.le_of_ble_eq_true rfl, Nat.le_of_ble_eq_true rfl⟩ ⟨Nat.le_of_ble_eq_true rfl, Nat.le_of_ble_eq_true rfl⟩ dX10_outputByte_15 (fun _ _ q => False.elim q) (kZp (fun r_1 hr_1 h => ?_))
  refine a_if_eq (pc := 18) (tgt := 30) X9 dX10_outputByte_18 rfl (bool_inR hr_1) (fun c => ?_) (fun c => ?_)
  · have c_1 := c
    have h := h.1 c_1
    refine a_iconst (pc := 30) X9 dX10_outputByte_30 ?_
    exact a_ireturn (pc := 31) X9 E rfl rfl (Nat.le_of_ble_eq_true rfl) (Nat.le_of_ble_eq_true rfl) dX10_outputByte_31 ⟨rfl, _, rfl, (show inR (-1) by decide), h⟩
  · have c_1 := c
    have h := h.2 c_1
    refine a_aload_n (pc := 21) X9 dX10_outputByte_21 rfl rfl ?_
    refine a_getR (pc := 22) X9 (q := 284) okX10 26 rfl wF_X10_52 (is10 hnn) rf10_26 dX10_outputByte_22 ?_
    refine a_iload_n (pc := 25) X9 dX10_outputByte_25 rfl rfl ?_
    obtain ⟨g_2, h⟩ := h
    refine b_iald (pc := 26) X9 (ar10_26 hnn) (Nat.le_of_ble_eq_true rfl) g_2 dX10_outputByte_26 ?_
    refine a_goto (pc := 27) (tgt := 31) X9 dX10_outputByte_27 rfl ?_
    exact a_ireturn (pc := 31) X9 E rfl rfl (Nat.le_of_ble_eq_true rfl) (Nat.le_of_ble_eq_true rfl) dX10_outputByte_31 ⟨rfl, _, rfl, (hG_1 _ _), h⟩
set_option maxHeartbeats 4000000 in
set_option maxRecDepth 100000 in
theorem m_X10_undo {nn : Nat}  {G : GH} {Q : Int → GH → Prop}  (hnn : 285 ≤ nn) (h : f_X10_undo G Q) : Mt yX10_undo cX10_undo 2 (some .int) 0 0 0 0 [vr 272] (SF nn) G (fun v S' G' => S' = SF nn ∧ qI Q v S' G') (fun E S' G' => S' = SF nn ∧ False) := by
  refine Mt.of (l0 := [some (vr 272), none]) (by decide) (Nat.le_of_ble_eq_true rfl) rfl ?_
  intro κ δ ρ0 X9 E hG
  replace X9 : CX κ δ RX10 cX10_undo 2 (some .int) := X9
  refine a_aload_n (pc := 0) X9 dX10_undo_0 rfl rfl ?_
  refine a_iconst (pc := 1) X9 dX10_undo_1 ?_
  refine a_putI (pc := 2) X9 okX10 0 rfl rfl (v := 0) wF_X10_58 (is10 hnn) dX10_undo_2 (by decide) (fit_int _) (fun _ => ?_)
  obtain ⟨G_1, eG_1⟩ : ∃ G9, G9 = upG G 272 0 0 := ⟨_, rfl⟩
  have hG_1 : GR G_1 := by rw [eG_1]; exact (GR.up hG (by decide))
  have h := h G_1 eG_1
  rw [← eG_1]
  refine a_aload_n (pc := 5) X9 dX10_undo_5 rfl rfl ?_
  refine a_getI (pc := 6) X9 okX10 6 rfl wF_X10_64 (is10 hnn) dX10_undo_6 ?_
  refine a_if_ne (pc := 9) (tgt := 14) X9 dX10_undo_9 rfl (hG_1 _ _) (fun c => ?_) (fun c => ?_)
  · have c_1 := c
    have h := h.1 c_1
    refine a_aload_n (pc := 14) X9 dX10_undo_14 rfl rfl ?_
    refine a_dup (pc := 15) X9 dX10_undo_15 rfl ?_
    refine a_getI (pc := 16) X9 okX10 6 rfl wF_X10_64 (is10 hnn) dX10_undo_16 ?_
    refine a_iconst (pc := 19) X9 dX10_undo_19 ?_
    refine a_isub (pc := 20) X9 dX10_undo_20 ?_
    obtain ⟨g_1, h⟩ := h
    refine a_putI (pc := 21) X9 okX10 6 rfl rfl (v := ((G_1 272 6) - 1)) wF_X10_64 (is10 hnn) dX10_undo_21 g_1 (fit_int _) (fun _ => ?_)
    obtain ⟨G_2, eG_2⟩ : ∃ G9, G9 = upG G_1 272 6 ((G_1 272 6) - 1) := ⟨_, rfl⟩
    have hG_2 : GR G_2 := by rw [eG_2]; exact (GR.up hG_1 g_1)
    have h := h G_2 eG_2
    rw [← eG_2]
    refine a_iconst (pc := 24) X9 dX10_undo_24 ?_
    refine a_istore_n (pc := 25) X9 dX10_undo_25 rfl (Nat.le_of_ble_eq_true rfl) rfl rfl ?_
    refine loopM2 (A := fun x1_1 G_3 => inR x1_1 → GR G_3 → AW κ δ ρ0 nn 2 0 0 26 [some (vr 272), some (vi x1_1)] [] (SF nn) G_3) (fun k_1 hk_1 x1_1 G_3 h h_x1_1 hG_3 => ?_) _ _ h (by decide) hG_2
    refine a_iload_n (pc := 26) X9 dX10_undo_26 rfl rfl ?_
    refine a_sipush (pc := 27) X9 dX10_undo_27 rfl ?_
    refine a_icmp_ge (pc := 30) (tgt := 60) X9 dX10_undo_30 rfl h_x1_1 (by decide) (fun c => ?_) (fun c => ?_)
    · have c_2 := c
      have h := h.1 c_2
      refine a_aload_n (pc := 60) X9 dX10_undo_60 rfl rfl ?_
      refine a_getI (pc := 61) X9 okX10 6 rfl wF_X10_64 (is10 hnn) dX10_undo_61 ?_
      exact a_ireturn (pc := 64) X9 E rfl rfl (Nat.le_of_ble_eq_true rfl) (Nat.le_of_ble_eq_true rfl) dX10_undo_64 ⟨rfl, _, rfl, (hG_3 _ _), h⟩
    · have c_2 := c
      have h := h.2 c_2
      refine a_aload_n (pc := 33) X9 dX10_undo_33 rfl rfl ?_
      refine a_getR (pc := 34) X9 (q := 273) okX10 1 rfl wF_X10_9 (is10 hnn) rf10_1 dX10_undo_34 ?_
      refine a_iload_n (pc := 37) X9 dX10_undo_37 rfl rfl ?_
      refine a_aload_n (pc := 38) X9 dX10_undo_38 rfl rfl ?_
      refine a_getR (pc := 39) X9 (q := 277) okX10 5 rfl wF_X10_23 (is10 hnn) rf10_5 dX10_undo_39 ?_
      refine a_sipush (pc := 42) X9 dX10_undo_42 rfl ?_
      refine a_aload_n (pc := 45) X9 dX10_undo_45 rfl rfl ?_
      refine a_getI (pc := 46) X9 okX10 6 rfl wF_X10_64 (is10 hnn) dX10_undo_46 ?_
      refine a_imul (pc := 49) X9 dX10_undo_49 ?_
      refine a_iload_n (pc := 50) X9 dX10_undo_50 rfl rfl ?_
      refine a_iadd (pc := 51) X9 dX10_undo_51 ?_
      obtain ⟨g_2, h⟩ := h
      refine b_iald (pc := 52) X9 (ar10_5 hnn) (Nat.le_of_ble_eq_true rfl) g_2 dX10_undo_52 ?_
      obtain ⟨g_3, h⟩ := h
      refine b_iast (pc := 53) X9 (i := x1_1) (v := (G_3 277 (((456 * (G_3 272 6)) + x1_1)).toNat)) (ar10_1 hnn) (Nat.le_of_ble_eq_true rfl) g_3 (hG_3 _ _) dX10_undo_53 ?_
      obtain ⟨G_4, eG_4⟩ : ∃ G9, G9 = upG G_3 273 (x1_1).toNat (G_3 277 (((456 * (G_3 272 6)) + x1_1)).toNat) := ⟨_, rfl⟩
      have hG_4 : GR G_4 := by rw [eG_4]; exact (GR.up hG_3 (hG_3 _ _))
      have h := h G_4 eG_4
      rw [← eG_4]
      refine a_iinc (pc := 54) X9 dX10_undo_54 rfl (Nat.le_of_ble_eq_true rfl) rfl rfl ?_
      refine a_goto (pc := 57) (tgt := 26) X9 dX10_undo_57 rfl ?_
      have q_1 : inR (x1_1) := h_x1_1
      have g_4 : inR ((x1_1 + 1)) := ⟨by omega, by omega⟩
      exact hk_1 _ _ h g_4 hG_4
  · have c_1 := c
    have h := h.2 c_1
    refine a_iconst (pc := 12) X9 dX10_undo_12 ?_
    exact a_ireturn (pc := 13) X9 E rfl rfl (Nat.le_of_ble_eq_true rfl) (Nat.le_of_ble_eq_true rfl) dX10_undo_13 ⟨rfl, _, rfl, (show inR (-1) by decide), h⟩
set_option maxHeartbeats 4000000 in
set_option maxRecDepth 100000 in
theorem m_X10_saveSnapshot {nn : Nat} {i1 : Int} {G : GH} {Q : Int → GH → Prop} (hi1 : inR i1) (hnn : 285 ≤ nn) (h : f_X10_saveSnapshot i1 G Q) : Mt yX10_saveSnapshot cX10_saveSnapshot 3 (some .int) 1 25 0 0 [vr 272, vi i1] (SF nn) G (fun v S' G' => S' = SF nn ∧ qI Q v S' G') (fun E S' G' => S' = SF nn ∧ False) := by
  refine Mt.of (l0 := [some (vr 272), some (vi i1), none]) (by decide) (Nat.le_of_ble_eq_true rfl) rfl ?_
  intro κ δ ρ0 X9 E hG
  replace X9 : CX κ δ RX10 cX10_saveSnapshot 3 (some .int) := X9
  refine a_aload_n (pc := 0) X9 dX10_saveSnapshot_0 rfl rfl ?_
  refine a_iload_n (pc := 1) X9 dX10_saveSnapshot_1 rfl rfl ?_
  refine a_i2l (pc := 2) X9 dX10_saveSnapshot_2 hi1 ?_
  refine a_lconst (pc := 3) X9 0 dX10_saveSnapshot_3 rfl ?_
  refine a_lconst (pc := 4) X9 1 dX10_saveSnapshot_4 rfl ?_
  refine a_callS (pc := 5) X9 E (m_X10_in (inR_inL hi1) (show inL 0 by decide) (show inL 1 by decide) hnn h) wM_X10_92 w_static_X10_in w_initialized_RX10 w_code_X10_in cp_X10_in pn_X10_in rfl (Nat.le_of_ble_eq_true rfl) ⟨Nat.le_of_ble_eq_true rfl, Nat.le_of_ble_eq_true rfl⟩ ⟨Nat.le_of_ble_eq_true rfl, Nat.le_of_ble_eq_true rfl⟩ dX10_saveSnapshot_5 (fun _ _ q => False.elim q) (kZp (fun r_1 hr_1 h => ?_))
  refine joinM1 (A := fun v_1 => (v_1 = 0 ∨ v_1 = 1) → AW κ δ ρ0 nn 3 0 0 16 [some (vr 272), some (vi i1), none] [vi v_1, vr 272] (SF nn) G) (fun v_1 h h_v_1 => ?_) (fun j_1 hj_1 h => ?_) h
  · refine a_callV (pc := 16) X9 E (m_X10_wrong (bool_inR h_v_1) hnn h) okX10 (is10 hnn) wM_X10_321 w_instanceMethod_X10_wrong w_selects_X10_wrong w_initialized_RX10 w_code_X10_wrong cp_X10_wrong pn_X10_wrong rfl (Nat.le_of_ble_eq_true rfl) ⟨Nat.le_of_ble_eq_true rfl, Nat.le_of_ble_eq_true rfl⟩ ⟨Nat.le_of_ble_eq_true rfl, Nat.le_of_ble_eq_true rfl⟩ dX10_saveSnapshot_16 (fun _ _ q => False.elim q) (kZ (fun r_2 G_1 hr_2 h hG_1 => ?_))
    refine a_if_eq (pc := 19) (tgt := 24) X9 dX10_saveSnapshot_19 rfl (bool_inR hr_2) (fun c => ?_) (fun c => ?_)
    · have c_2 := c
      have h := h.1 c_2
      refine a_iconst (pc := 24) X9 dX10_saveSnapshot_24 ?_
      refine a_istore_n (pc := 25) X9 dX10_saveSnapshot_25 rfl (Nat.le_of_ble_eq_true rfl) rfl rfl ?_
      refine loopM2 (A := fun x2_1 G_2 => inR x2_1 → GR G_2 → AW κ δ ρ0 nn 3 0 0 26 [some (vr 272), some (vi i1), some (vi x2_1)] [] (SF nn) G_2) (fun k_1 hk_1 x2_1 G_2 h h_x2_1 hG_2 => ?_) _ _ h (by decide) hG_1
      refine a_iload_n (pc := 26) X9 dX10_saveSnapshot_26 rfl rfl ?_
      refine a_sipush (pc := 27) X9 dX10_saveSnapshot_27 rfl ?_
      refine a_icmp_ge (pc := 30) (tgt := 57) X9 dX10_saveSnapshot_30 rfl h_x2_1 (by decide) (fun c => ?_) (fun c => ?_)
      · have c_3 := c
        have h := h.1 c_3
        refine a_aload_n (pc := 57) X9 dX10_saveSnapshot_57 rfl rfl ?_
        refine a_getR (pc := 58) X9 (q := 276) okX10 4 rfl wF_X10_19 (is10 hnn) rf10_4 dX10_saveSnapshot_58 ?_
        refine a_iload_n (pc := 61) X9 dX10_saveSnapshot_61 rfl rfl ?_
        refine a_iconst (pc := 62) X9 dX10_saveSnapshot_62 ?_
        obtain ⟨g_1, h⟩ := h
        refine b_zast (pc := 63) X9 (i := i1) (v := 1) (ar10_4 hnn) (Nat.le_of_ble_eq_true rfl) g_1 (Or.inr rfl) dX10_saveSnapshot_63 ?_
        obtain ⟨G_3, eG_3⟩ : ∃ G9, G9 = upG G_2 276 (i1).toNat 1 := ⟨_, rfl⟩
        have hG_3 : GR G_3 := by rw [eG_3]; exact (GR.up hG_2 (bool_inR (Or.inr rfl)))
        have h := h G_3 eG_3
        rw [← eG_3]
        refine a_aload_n (pc := 64) X9 dX10_saveSnapshot_64 rfl rfl ?_
        refine a_getR (pc := 65) X9 (q := 273) okX10 1 rfl wF_X10_9 (is10 hnn) rf10_1 dX10_saveSnapshot_65 ?_
        refine a_bipush (pc := 68) X9 dX10_saveSnapshot_68 rfl ?_
        refine a_iald (pc := 70) X9 (ar10_1 hnn) (Nat.le_of_ble_eq_true rfl) (j := 8) rfl (Nat.le_of_ble_eq_true rfl) dX10_saveSnapshot_70 ?_
        exact a_ireturn (pc := 71) X9 E rfl rfl (Nat.le_of_ble_eq_true rfl) (Nat.le_of_ble_eq_true rfl) dX10_saveSnapshot_71 ⟨rfl, _, rfl, (hG_3 _ _), h⟩
      · have c_3 := c
        have h := h.2 c_3
        refine a_aload_n (pc := 33) X9 dX10_saveSnapshot_33 rfl rfl ?_
        refine a_getR (pc := 34) X9 (q := 275) okX10 3 rfl wF_X10_16 (is10 hnn) rf10_3 dX10_saveSnapshot_34 ?_
        refine a_sipush (pc := 37) X9 dX10_saveSnapshot_37 rfl ?_
        refine a_iload_n (pc := 40) X9 dX10_saveSnapshot_40 rfl rfl ?_
        refine a_imul (pc := 41) X9 dX10_saveSnapshot_41 ?_
        refine a_iload_n (pc := 42) X9 dX10_saveSnapshot_42 rfl rfl ?_
        refine a_iadd (pc := 43) X9 dX10_saveSnapshot_43 ?_
        refine a_aload_n (pc := 44) X9 dX10_saveSnapshot_44 rfl rfl ?_
        refine a_getR (pc := 45) X9 (q := 273) okX10 1 rfl wF_X10_9 (is10 hnn) rf10_1 dX10_saveSnapshot_45 ?_
        refine a_iload_n (pc := 48) X9 dX10_saveSnapshot_48 rfl rfl ?_
        obtain ⟨g_2, h⟩ := h
        refine b_iald (pc := 49) X9 (ar10_1 hnn) (Nat.le_of_ble_eq_true rfl) g_2 dX10_saveSnapshot_49 ?_
        obtain ⟨g_3, h⟩ := h
        refine b_iast (pc := 50) X9 (i := ((456 * i1) + x2_1)) (v := (G_2 273 (x2_1).toNat)) (ar10_3 hnn) (Nat.le_of_ble_eq_true rfl) g_3 (hG_2 _ _) dX10_saveSnapshot_50 ?_
        obtain ⟨G_4, eG_4⟩ : ∃ G9, G9 = upG G_2 275 (((456 * i1) + x2_1)).toNat (G_2 273 (x2_1).toNat) := ⟨_, rfl⟩
        have hG_4 : GR G_4 := by rw [eG_4]; exact (GR.up hG_2 (hG_2 _ _))
        have h := h G_4 eG_4
        rw [← eG_4]
        refine a_iinc (pc := 51) X9 dX10_saveSnapshot_51 rfl (Nat.le_of_ble_eq_true rfl) rfl rfl ?_
        refine a_goto (pc := 54) (tgt := 26) X9 dX10_saveSnapshot_54 rfl ?_
        have q_1 : inR (x2_1) := h_x2_1
        have g_4 : inR ((x2_1 + 1)) := ⟨by omega, by omega⟩
        exact hk_1 _ _ h g_4 hG_4
    · have c_2 := c
      have h := h.2 c_2
      refine a_iconst (pc := 22) X9 dX10_saveSnapshot_22 ?_
      exact a_ireturn (pc := 23) X9 E rfl rfl (Nat.le_of_ble_eq_true rfl) (Nat.le_of_ble_eq_true rfl) dX10_saveSnapshot_23 ⟨rfl, _, rfl, (show inR 0 by decide), h⟩
  · refine a_if_ne (pc := 8) (tgt := 15) X9 dX10_saveSnapshot_8 rfl (bool_inR hr_1) (fun c => ?_) (fun c => ?_)
    · have c_4 := c
      have h := h.1 c_4
      refine a_iconst (pc := 15) X9 dX10_saveSnapshot_15 ?_
      exact hj_1 _ h (Or.inl rfl)
    · have c_4 := c
      have h := h.2 c_4
      refine a_iconst (pc := 11) X9 dX10_saveSnapshot_11 ?_
      refine a_goto (pc := 12) (tgt := 16) X9 dX10_saveSnapshot_12 rfl ?_
      exact hj_1 _ h (Or.inr rfl)
set_option maxHeartbeats 4000000 in
set_option maxRecDepth 100000 in
theorem m_X10_restoreSnapshot {nn : Nat} {i1 : Int} {G : GH} {Q : Int → GH → Prop} (hi1 : inR i1) (hnn : 285 ≤ nn) (h : f_X10_restoreSnapshot i1 G Q) : Mt yX10_restoreSnapshot cX10_restoreSnapshot 3 (some .int) 1 25 0 0 [vr 272, vi i1] (SF nn) G (fun v S' G' => S' = SF nn ∧ qI Q v S' G') (fun E S' G' => S' = SF nn ∧ False) := by
  refine Mt.of (l0 := [some (vr 272), some (vi i1), none]) (by decide) (Nat.le_of_ble_eq_true rfl) rfl ?_
  intro κ δ ρ0 X9 E hG
  replace X9 : CX κ δ RX10 cX10_restoreSnapshot 3 (some .int) := X9
  refine a_aload_n (pc := 0) X9 dX10_restoreSnapshot_0 rfl rfl ?_
  refine a_iload_n (pc := 1) X9 dX10_restoreSnapshot_1 rfl rfl ?_
  refine a_i2l (pc := 2) X9 dX10_restoreSnapshot_2 hi1 ?_
  refine a_lconst (pc := 3) X9 0 dX10_restoreSnapshot_3 rfl ?_
  refine a_lconst (pc := 4) X9 1 dX10_restoreSnapshot_4 rfl ?_
  refine a_callS (pc := 5) X9 E (m_X10_in (inR_inL hi1) (show inL 0 by decide) (show inL 1 by decide) hnn h) wM_X10_92 w_static_X10_in w_initialized_RX10 w_code_X10_in cp_X10_in pn_X10_in rfl (Nat.le_of_ble_eq_true rfl) ⟨Nat.le_of_ble_eq_true rfl, Nat.le_of_ble_eq_true rfl⟩ ⟨Nat.le_of_ble_eq_true rfl, Nat.le_of_ble_eq_true rfl⟩ dX10_restoreSnapshot_5 (fun _ _ q => False.elim q) (kZp (fun r_1 hr_1 h => ?_))
  refine joinM1 (A := fun v_1 => (v_1 = 0 ∨ v_1 = 1) → AW κ δ ρ0 nn 3 0 0 16 [some (vr 272), some (vi i1), none] [vi v_1, vr 272] (SF nn) G) (fun v_1 h h_v_1 => ?_) (fun j_1 hj_1 h => ?_) h
  · refine a_callV (pc := 16) X9 E (m_X10_wrong (bool_inR h_v_1) hnn h) okX10 (is10 hnn) wM_X10_321 w_instanceMethod_X10_wrong w_selects_X10_wrong w_initialized_RX10 w_code_X10_wrong cp_X10_wrong pn_X10_wrong rfl (Nat.le_of_ble_eq_true rfl) ⟨Nat.le_of_ble_eq_true rfl, Nat.le_of_ble_eq_true rfl⟩ ⟨Nat.le_of_ble_eq_true rfl, Nat.le_of_ble_eq_true rfl⟩ dX10_restoreSnapshot_16 (fun _ _ q => False.elim q) (kZ (fun r_2 G_1 hr_2 h hG_1 => ?_))
    refine a_if_eq (pc := 19) (tgt := 24) X9 dX10_restoreSnapshot_19 rfl (bool_inR hr_2) (fun c => ?_) (fun c => ?_)
    · have c_2 := c
      have h := h.1 c_2
      refine a_aload_n (pc := 24) X9 dX10_restoreSnapshot_24 rfl rfl ?_
      refine a_getR (pc := 25) X9 (q := 276) okX10 4 rfl wF_X10_19 (is10 hnn) rf10_4 dX10_restoreSnapshot_25 ?_
      refine a_iload_n (pc := 28) X9 dX10_restoreSnapshot_28 rfl rfl ?_
      obtain ⟨g_1, h⟩ := h
      refine b_zald (pc := 29) X9 (ar10_4 hnn) (Nat.le_of_ble_eq_true rfl) g_1 dX10_restoreSnapshot_29 ?_
      refine a_if_ne (pc := 30) (tgt := 35) X9 dX10_restoreSnapshot_30 rfl (hG_1 _ _) (fun c => ?_) (fun c => ?_)
      · have c_3 := c
        have h := h.1 c_3
        refine a_iconst (pc := 35) X9 dX10_restoreSnapshot_35 ?_
        refine a_istore_n (pc := 36) X9 dX10_restoreSnapshot_36 rfl (Nat.le_of_ble_eq_true rfl) rfl rfl ?_
        refine loopM2 (A := fun x2_1 G_2 => inR x2_1 → GR G_2 → AW κ δ ρ0 nn 3 0 0 37 [some (vr 272), some (vi i1), some (vi x2_1)] [] (SF nn) G_2) (fun k_1 hk_1 x2_1 G_2 h h_x2_1 hG_2 => ?_) _ _ h (by decide) hG_1
        refine a_iload_n (pc := 37) X9 dX10_restoreSnapshot_37 rfl rfl ?_
        refine a_sipush (pc := 38) X9 dX10_restoreSnapshot_38 rfl ?_
        refine a_icmp_ge (pc := 41) (tgt := 68) X9 dX10_restoreSnapshot_41 rfl h_x2_1 (by decide) (fun c => ?_) (fun c => ?_)
        · have c_4 := c
          have h := h.1 c_4
          refine a_aload_n (pc := 68) X9 dX10_restoreSnapshot_68 rfl rfl ?_
          refine a_iconst (pc := 69) X9 dX10_restoreSnapshot_69 ?_
          refine a_putI (pc := 70) X9 okX10 6 rfl rfl (v := 0) wF_X10_64 (is10 hnn) dX10_restoreSnapshot_70 (by decide) (fit_int _) (fun _ => ?_)
          obtain ⟨G_3, eG_3⟩ : ∃ G9, G9 = upG G_2 272 6 0 := ⟨_, rfl⟩
          have hG_3 : GR G_3 := by rw [eG_3]; exact (GR.up hG_2 (by decide))
          have h := h G_3 eG_3
          rw [← eG_3]
          refine a_aload_n (pc := 73) X9 dX10_restoreSnapshot_73 rfl rfl ?_
          refine a_getR (pc := 74) X9 (q := 273) okX10 1 rfl wF_X10_9 (is10 hnn) rf10_1 dX10_restoreSnapshot_74 ?_
          refine a_bipush (pc := 77) X9 dX10_restoreSnapshot_77 rfl ?_
          refine a_iald (pc := 79) X9 (ar10_1 hnn) (Nat.le_of_ble_eq_true rfl) (j := 8) rfl (Nat.le_of_ble_eq_true rfl) dX10_restoreSnapshot_79 ?_
          exact a_ireturn (pc := 80) X9 E rfl rfl (Nat.le_of_ble_eq_true rfl) (Nat.le_of_ble_eq_true rfl) dX10_restoreSnapshot_80 ⟨rfl, _, rfl, (hG_3 _ _), h⟩
        · have c_4 := c
          have h := h.2 c_4
          refine a_aload_n (pc := 44) X9 dX10_restoreSnapshot_44 rfl rfl ?_
          refine a_getR (pc := 45) X9 (q := 273) okX10 1 rfl wF_X10_9 (is10 hnn) rf10_1 dX10_restoreSnapshot_45 ?_
          refine a_iload_n (pc := 48) X9 dX10_restoreSnapshot_48 rfl rfl ?_
          refine a_aload_n (pc := 49) X9 dX10_restoreSnapshot_49 rfl rfl ?_
          refine a_getR (pc := 50) X9 (q := 275) okX10 3 rfl wF_X10_16 (is10 hnn) rf10_3 dX10_restoreSnapshot_50 ?_
          refine a_sipush (pc := 53) X9 dX10_restoreSnapshot_53 rfl ?_
          refine a_iload_n (pc := 56) X9 dX10_restoreSnapshot_56 rfl rfl ?_
          refine a_imul (pc := 57) X9 dX10_restoreSnapshot_57 ?_
          refine a_iload_n (pc := 58) X9 dX10_restoreSnapshot_58 rfl rfl ?_
          refine a_iadd (pc := 59) X9 dX10_restoreSnapshot_59 ?_
          obtain ⟨g_2, h⟩ := h
          refine b_iald (pc := 60) X9 (ar10_3 hnn) (Nat.le_of_ble_eq_true rfl) g_2 dX10_restoreSnapshot_60 ?_
          obtain ⟨g_3, h⟩ := h
          refine b_iast (pc := 61) X9 (i := x2_1) (v := (G_2 275 (((456 * i1) + x2_1)).toNat)) (ar10_1 hnn) (Nat.le_of_ble_eq_true rfl) g_3 (hG_2 _ _) dX10_restoreSnapshot_61 ?_
          obtain ⟨G_4, eG_4⟩ : ∃ G9, G9 = upG G_2 273 (x2_1).toNat (G_2 275 (((456 * i1) + x2_1)).toNat) := ⟨_, rfl⟩
          have hG_4 : GR G_4 := by rw [eG_4]; exact (GR.up hG_2 (hG_2 _ _))
          have h := h G_4 eG_4
          rw [← eG_4]
          refine a_iinc (pc := 62) X9 dX10_restoreSnapshot_62 rfl (Nat.le_of_ble_eq_true rfl) rfl rfl ?_
          refine a_goto (pc := 65) (tgt := 37) X9 dX10_restoreSnapshot_65 rfl ?_
          have q_1 : inR (x2_1) := h_x2_1
          have g_4 : inR ((x2_1 + 1)) := ⟨by omega, by omega⟩
          exact hk_1 _ _ h g_4 hG_4
      · have c_3 := c
        have h := h.2 c_3
        refine a_iconst (pc := 33) X9 dX10_restoreSnapshot_33 ?_
        exact a_ireturn (pc := 34) X9 E rfl rfl (Nat.le_of_ble_eq_true rfl) (Nat.le_of_ble_eq_true rfl) dX10_restoreSnapshot_34 ⟨rfl, _, rfl, (show inR (-1) by decide), h⟩
    · have c_2 := c
      have h := h.2 c_2
      refine a_iconst (pc := 22) X9 dX10_restoreSnapshot_22 ?_
      exact a_ireturn (pc := 23) X9 E rfl rfl (Nat.le_of_ble_eq_true rfl) (Nat.le_of_ble_eq_true rfl) dX10_restoreSnapshot_23 ⟨rfl, _, rfl, (show inR 0 by decide), h⟩
  · refine a_if_ne (pc := 8) (tgt := 15) X9 dX10_restoreSnapshot_8 rfl (bool_inR hr_1) (fun c => ?_) (fun c => ?_)
    · have c_5 := c
      have h := h.1 c_5
      refine a_iconst (pc := 15) X9 dX10_restoreSnapshot_15 ?_
      exact hj_1 _ h (Or.inl rfl)
    · have c_5 := c
      have h := h.2 c_5
      refine a_iconst (pc := 11) X9 dX10_restoreSnapshot_11 ?_
      refine a_goto (pc := 12) (tgt := 16) X9 dX10_restoreSnapshot_12 rfl ?_
      exact hj_1 _ h (Or.inr rfl)

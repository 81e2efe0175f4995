-- ===== the walks of the law's methods; written by wip/p51/genlaw.py =====
set_option maxHeartbeats 4000000 in
set_option maxRecDepth 100000 in
theorem m_L_hymn {nn L : Nat} {xs : Nat → Int32} {i0 : Int} {G : GH} {Q : Int → Prop} (hi0 : inR i0) (hnn : 272 ≤ nn) (h : f_L_hymn i0 Q) : MtS L xs yL_hymn cL_hymn 1 (some .int) 0 0 0 0 [vi i0] (SF nn) G (fun v S' G' => S' = SF nn ∧ qI (fun r9 G9 => G9 = G ∧ Q r9) v S' G') (fun E S' G' => S' = SF nn ∧ False) := by
  refine MtS.of (l0 := [some (vi i0)]) (by decide) (Nat.le_of_ble_eq_true rfl) rfl ?_
  intro κ δ ρ0 X9 E hsc hG
  replace X9 : CX κ δ RL cL_hymn 1 (some .int) := X9
  refine a_iload_n (pc := 0) X9 dL_hymn_0 rfl rfl ?_
  refine a_iconst (pc := 1) X9 dL_hymn_1 ?_
  obtain ⟨g_1, h⟩ := h
  refine a_irem (pc := 2) X9 dL_hymn_2 ⟨g_1, hi0.2⟩ ⟨(by decide), (by decide)⟩ ?_
  refine a_if_ne (pc := 3) (tgt := 17) X9 dL_hymn_3 rfl (inR_mod g_1 (by decide) (by decide)) (fun c => ?_) (fun c => ?_)
  · have c_1 := c
    have h := h.1 c_1
    refine a_iload_n (pc := 17) X9 dL_hymn_17 rfl rfl ?_
    refine a_iconst (pc := 18) X9 dL_hymn_18 ?_
    refine a_irem (pc := 19) X9 dL_hymn_19 ⟨g_1, hi0.2⟩ ⟨(by decide), (by decide)⟩ ?_
    refine a_iconst (pc := 20) X9 dL_hymn_20 ?_
    refine a_icmp_ne (pc := 21) (tgt := 36) X9 dL_hymn_21 rfl (inR_mod g_1 (by decide) (by decide)) (by decide) (fun c => ?_) (fun c => ?_)
    · have c_2 := c
      have h := h.1 c_2
      refine a_iconst (pc := 36) X9 dL_hymn_36 ?_
      refine a_iload_n (pc := 37) X9 dL_hymn_37 rfl rfl ?_
      refine a_iconst (pc := 38) X9 dL_hymn_38 ?_
      refine a_idiv (pc := 39) X9 dL_hymn_39 ⟨g_1, hi0.2⟩ ⟨(by decide), (by decide)⟩ ?_
      refine a_sipush (pc := 40) X9 dL_hymn_40 rfl ?_
      obtain ⟨g_2, h⟩ := h
      refine a_irem (pc := 43) X9 dL_hymn_43 ⟨g_2, (inR_div hi0 g_1 (by decide)).2⟩ ⟨(by decide), (by decide)⟩ ?_
      refine a_iadd (pc := 44) X9 dL_hymn_44 ?_
      obtain ⟨g_3, h⟩ := h
      exact a_ireturn (pc := 45) X9 E rfl rfl (Nat.le_of_ble_eq_true rfl) (Nat.le_of_ble_eq_true rfl) dL_hymn_45 ⟨rfl, _, rfl, g_3, rfl, h⟩
    · have c_2 := c
      have h := h.2 c_2
      refine a_bipush (pc := 24) X9 dL_hymn_24 rfl ?_
      refine a_iload_n (pc := 26) X9 dL_hymn_26 rfl rfl ?_
      refine a_iconst (pc := 27) X9 dL_hymn_27 ?_
      refine a_idiv (pc := 28) X9 dL_hymn_28 ⟨g_1, hi0.2⟩ ⟨(by decide), (by decide)⟩ ?_
      refine a_bipush (pc := 29) X9 dL_hymn_29 rfl ?_
      obtain ⟨g_4, h⟩ := h
      refine a_irem (pc := 31) X9 dL_hymn_31 ⟨g_4, (inR_div hi0 g_1 (by decide)).2⟩ ⟨(by decide), (by decide)⟩ ?_
      refine a_iadd (pc := 32) X9 dL_hymn_32 ?_
      refine a_goto (pc := 33) (tgt := 45) X9 dL_hymn_33 rfl ?_
      obtain ⟨g_5, h⟩ := h
      exact a_ireturn (pc := 45) X9 E rfl rfl (Nat.le_of_ble_eq_true rfl) (Nat.le_of_ble_eq_true rfl) dL_hymn_45 ⟨rfl, _, rfl, g_5, rfl, h⟩
  · have c_1 := c
    have h := h.2 c_1
    refine a_iconst (pc := 6) X9 dL_hymn_6 ?_
    refine a_iload_n (pc := 7) X9 dL_hymn_7 rfl rfl ?_
    refine a_iconst (pc := 8) X9 dL_hymn_8 ?_
    refine a_idiv (pc := 9) X9 dL_hymn_9 ⟨g_1, hi0.2⟩ ⟨(by decide), (by decide)⟩ ?_
    refine a_bipush (pc := 10) X9 dL_hymn_10 rfl ?_
    obtain ⟨g_6, h⟩ := h
    refine a_irem (pc := 12) X9 dL_hymn_12 ⟨g_6, (inR_div hi0 g_1 (by decide)).2⟩ ⟨(by decide), (by decide)⟩ ?_
    refine a_iadd (pc := 13) X9 dL_hymn_13 ?_
    refine a_goto (pc := 14) (tgt := 45) X9 dL_hymn_14 rfl ?_
    obtain ⟨g_7, h⟩ := h
    exact a_ireturn (pc := 45) X9 E rfl rfl (Nat.le_of_ble_eq_true rfl) (Nat.le_of_ble_eq_true rfl) dL_hymn_45 ⟨rfl, _, rfl, g_7, rfl, h⟩
set_option maxHeartbeats 4000000 in
set_option maxRecDepth 100000 in
theorem m_L_step {nn L : Nat} {xs : Nat → Int32} {i2 : Int} {G : GH} {Q : GH → Prop} (hi2 : inR i2) (hnn : 272 ≤ nn) (h : f_L_step L xs i2 G Q) : MtS L xs yL_step cL_step 6 none 7 171 0 0 [vr 0, vr (strB + 60), vi i2] (SF nn) G (fun v S' G' => S' = SF nn ∧ qV Q v S' G') (fun E S' G' => S' = SF nn ∧ False) := by
  refine MtS.of (l0 := [some (vr 0), some (vr (strB + 60)), some (vi i2), none, none, none]) (by decide) (Nat.le_of_ble_eq_true rfl) rfl ?_
  intro κ δ ρ0 X9 E hsc hG
  replace X9 : CX κ δ RL cL_step 6 none := X9
  refine a_aload_n (pc := 0) X9 dL_step_0 rfl rfl ?_
  refine a_iload_n (pc := 1) X9 dL_step_1 rfl rfl ?_
  refine a_iconst (pc := 2) X9 dL_step_2 ?_
  refine a_iadd (pc := 3) X9 dL_step_3 ?_
  obtain ⟨g_1, h⟩ := h
  refine a_callSL (pc := 4) X9 E hsc (m_L_cell g_1 hnn h) wM_L_40 w_static_L_cell w_initialized_RL w_code_L_cell cpL_cell pnL_cell rfl (Nat.le_of_ble_eq_true rfl) ⟨Nat.le_of_ble_eq_true rfl, Nat.le_of_ble_eq_true rfl⟩ ⟨Nat.le_of_ble_eq_true rfl, Nat.le_of_ble_eq_true rfl⟩ dL_step_4 (fun _ _ q => False.elim q) (kIp (fun r_1 hr_1 h => ?_))
  refine a_istore_n (pc := 7) X9 dL_step_7 rfl (Nat.le_of_ble_eq_true rfl) rfl rfl ?_
  refine a_aload_n (pc := 8) X9 dL_step_8 rfl rfl ?_
  refine a_iload_n (pc := 9) X9 dL_step_9 rfl rfl ?_
  refine a_iconst (pc := 10) X9 dL_step_10 ?_
  refine a_iadd (pc := 11) X9 dL_step_11 ?_
  obtain ⟨g_2, h⟩ := h
  refine a_callSL (pc := 12) X9 E hsc (m_L_cell g_2 hnn h) wM_L_40 w_static_L_cell w_initialized_RL w_code_L_cell cpL_cell pnL_cell rfl (Nat.le_of_ble_eq_true rfl) ⟨Nat.le_of_ble_eq_true rfl, Nat.le_of_ble_eq_true rfl⟩ ⟨Nat.le_of_ble_eq_true rfl, Nat.le_of_ble_eq_true rfl⟩ dL_step_12 (fun _ _ q => False.elim q) (kIp (fun r_2 hr_2 h => ?_))
  refine a_istore (pc := 15) X9 dL_step_15 (Nat.le_of_ble_eq_true rfl) rfl rfl ?_
  refine a_iload_n (pc := 17) X9 dL_step_17 rfl rfl ?_
  refine a_aload_n (pc := 18) X9 dL_step_18 rfl rfl ?_
  refine a_bipush (pc := 19) X9 dL_step_19 rfl ?_
  refine a_callV (pc := 21) X9 E (m_X9_size (show inR 6 by decide) hnn h) okX9 (is9 hnn) wM_L_76 w_instanceMethod_X9_size w_selects_X9_size w_initialized_RX9 w_code_X9_size cp_X9_size pn_X9_size rfl (Nat.le_of_ble_eq_true rfl) ⟨Nat.le_of_ble_eq_true rfl, Nat.le_of_ble_eq_true rfl⟩ ⟨Nat.le_of_ble_eq_true rfl, Nat.le_of_ble_eq_true rfl⟩ dL_step_21 (fun _ _ q => False.elim q) (kIp (fun r_3 hr_3 h => ?_))
  obtain ⟨g_3, h⟩ := h
  obtain ⟨g_4, h⟩ := h
  refine a_irem (pc := 24) X9 dL_step_24 ⟨g_3, hr_1.2⟩ ⟨g_4, hr_3.2⟩ ?_
  refine a_istore (pc := 25) X9 dL_step_25 (Nat.le_of_ble_eq_true rfl) rfl rfl ?_
  refine a_aload_n (pc := 27) X9 dL_step_27 rfl rfl ?_
  refine a_iload_n (pc := 28) X9 dL_step_28 rfl rfl ?_
  refine a_callSL (pc := 29) X9 E hsc (m_L_cell hi2 hnn h) wM_L_40 w_static_L_cell w_initialized_RL w_code_L_cell cpL_cell pnL_cell rfl (Nat.le_of_ble_eq_true rfl) ⟨Nat.le_of_ble_eq_true rfl, Nat.le_of_ble_eq_true rfl⟩ ⟨Nat.le_of_ble_eq_true rfl, Nat.le_of_ble_eq_true rfl⟩ dL_step_29 (fun _ _ q => False.elim q) (kIp (fun r_4 hr_4 h => ?_))
  refine a_bipush (pc := 32) X9 dL_step_32 rfl ?_
  obtain ⟨g_5, h⟩ := h
  refine a_irem (pc := 34) X9 dL_step_34 ⟨g_5, hr_4.2⟩ ⟨(by decide), (by decide)⟩ ?_
  have c_1 : ((r_4 % 14) < 0 ∨ 12 < (r_4 % 14)) ∨ (r_4 % 14) = 0 ∨ (r_4 % 14) = 1 ∨ (r_4 % 14) = 2 ∨ (r_4 % 14) = 3 ∨ (r_4 % 14) = 4 ∨ (r_4 % 14) = 5 ∨ (r_4 % 14) = 6 ∨ (r_4 % 14) = 7 ∨ (r_4 % 14) = 8 ∨ (r_4 % 14) = 9 ∨ (r_4 % 14) = 10 ∨ (r_4 % 14) = 11 ∨ (r_4 % 14) = 12 := by omega
  rcases c_1 with c_1 | c_1 | c_1 | c_1 | c_1 | c_1 | c_1 | c_1 | c_1 | c_1 | c_1 | c_1 | c_1 | c_1
  · refine a_tableOut (pc := 35) (tgt := 340) X9 dL_step_35 (inR_mod g_5 (by decide) (by decide)) c_1 rfl ?_
    have h := h.1 c_1
    refine a_aload_n (pc := 340) X9 dL_step_340 rfl rfl ?_
    refine a_callV (pc := 341) X9 E (m_X9_undo  hnn h) okX9 (is9 hnn) wM_L_118 w_instanceMethod_X9_undo w_selects_X9_undo w_initialized_RX9 w_code_X9_undo cp_X9_undo pn_X9_undo rfl (Nat.le_of_ble_eq_true rfl) ⟨Nat.le_of_ble_eq_true rfl, Nat.le_of_ble_eq_true rfl⟩ ⟨Nat.le_of_ble_eq_true rfl, Nat.le_of_ble_eq_true rfl⟩ dL_step_341 (fun _ _ q => False.elim q) (kI (fun r_5 G_1 hr_5 h hG_1 => ?_))
    refine a_pop (pc := 344) X9 dL_step_344 rfl ?_
    exact a_return (pc := 345) X9 E (Nat.le_of_ble_eq_true rfl) (Nat.le_of_ble_eq_true rfl) dL_step_345 ⟨rfl, rfl, h⟩
  · refine a_tableIn (pc := 35) (tgt := 100) X9 dL_step_35 (inR_mod g_5 (by decide) (by decide)) (by omega) (by omega) (by rw [c_1]; rfl) rfl ?_
    have h := h.2.1 c_1
    refine a_aload_n (pc := 100) X9 dL_step_100 rfl rfl ?_
    refine a_iload (pc := 101) X9 dL_step_101 rfl ?_
    refine a_callV (pc := 103) X9 E (m_X9_hang (inR_mod g_3 g_4 hr_3) hnn h) okX9 (is9 hnn) wM_L_79 w_instanceMethod_X9_hang w_selects_X9_hang w_initialized_RX9 w_code_X9_hang cp_X9_hang pn_X9_hang rfl (Nat.le_of_ble_eq_true rfl) ⟨Nat.le_of_ble_eq_true rfl, Nat.le_of_ble_eq_true rfl⟩ ⟨Nat.le_of_ble_eq_true rfl, Nat.le_of_ble_eq_true rfl⟩ dL_step_103 (fun _ _ q => False.elim q) (kI (fun r_6 G_2 hr_6 h hG_2 => ?_))
    refine a_pop (pc := 106) X9 dL_step_106 rfl ?_
    refine a_goto (pc := 107) (tgt := 345) X9 dL_step_107 rfl ?_
    exact a_return (pc := 345) X9 E (Nat.le_of_ble_eq_true rfl) (Nat.le_of_ble_eq_true rfl) dL_step_345 ⟨rfl, rfl, h⟩
  · refine a_tableIn (pc := 35) (tgt := 100) X9 dL_step_35 (inR_mod g_5 (by decide) (by decide)) (by omega) (by omega) (by rw [c_1]; rfl) rfl ?_
    have h := h.2.2.1 c_1
    refine a_aload_n (pc := 100) X9 dL_step_100 rfl rfl ?_
    refine a_iload (pc := 101) X9 dL_step_101 rfl ?_
    refine a_callV (pc := 103) X9 E (m_X9_hang (inR_mod g_3 g_4 hr_3) hnn h) okX9 (is9 hnn) wM_L_79 w_instanceMethod_X9_hang w_selects_X9_hang w_initialized_RX9 w_code_X9_hang cp_X9_hang pn_X9_hang rfl (Nat.le_of_ble_eq_true rfl) ⟨Nat.le_of_ble_eq_true rfl, Nat.le_of_ble_eq_true rfl⟩ ⟨Nat.le_of_ble_eq_true rfl, Nat.le_of_ble_eq_true rfl⟩ dL_step_103 (fun _ _ q => False.elim q) (kI (fun r_7 G_3 hr_7 h hG_3 => ?_))
    refine a_pop (pc := 106) X9 dL_step_106 rfl ?_
    refine a_goto (pc := 107) (tgt := 345) X9 dL_step_107 rfl ?_
    exact a_return (pc := 345) X9 E (Nat.le_of_ble_eq_true rfl) (Nat.le_of_ble_eq_true rfl) dL_step_345 ⟨rfl, rfl, h⟩
  · refine a_tableIn (pc := 35) (tgt := 100) X9 dL_step_35 (inR_mod g_5 (by decide) (by decide)) (by omega) (by omega) (by rw [c_1]; rfl) rfl ?_
    have h := h.2.2.2.1 c_1
    refine a_aload_n (pc := 100) X9 dL_step_100 rfl rfl ?_
    refine a_iload (pc := 101) X9 dL_step_101 rfl ?_
    refine a_callV (pc := 103) X9 E (m_X9_hang (inR_mod g_3 g_4 hr_3) hnn h) okX9 (is9 hnn) wM_L_79 w_instanceMethod_X9_hang w_selects_X9_hang w_initialized_RX9 w_code_X9_hang cp_X9_hang pn_X9_hang rfl (Nat.le_of_ble_eq_true rfl) ⟨Nat.le_of_ble_eq_true rfl, Nat.le_of_ble_eq_true rfl⟩ ⟨Nat.le_of_ble_eq_true rfl, Nat.le_of_ble_eq_true rfl⟩ dL_step_103 (fun _ _ q => False.elim q) (kI (fun r_8 G_4 hr_8 h hG_4 => ?_))
    refine a_pop (pc := 106) X9 dL_step_106 rfl ?_
    refine a_goto (pc := 107) (tgt := 345) X9 dL_step_107 rfl ?_
    exact a_return (pc := 345) X9 E (Nat.le_of_ble_eq_true rfl) (Nat.le_of_ble_eq_true rfl) dL_step_345 ⟨rfl, rfl, h⟩
  · refine a_tableIn (pc := 35) (tgt := 110) X9 dL_step_35 (inR_mod g_5 (by decide) (by decide)) (by omega) (by omega) (by rw [c_1]; rfl) rfl ?_
    have h := h.2.2.2.2.1 c_1
    refine a_aload_n (pc := 110) X9 dL_step_110 rfl rfl ?_
    refine a_callV (pc := 111) X9 E (m_X9_hold  hnn h) okX9 (is9 hnn) wM_L_82 w_instanceMethod_X9_hold w_selects_X9_hold w_initialized_RX9 w_code_X9_hold cp_X9_hold pn_X9_hold rfl (Nat.le_of_ble_eq_true rfl) ⟨Nat.le_of_ble_eq_true rfl, Nat.le_of_ble_eq_true rfl⟩ ⟨Nat.le_of_ble_eq_true rfl, Nat.le_of_ble_eq_true rfl⟩ dL_step_111 (fun _ _ q => False.elim q) (kI (fun r_9 G_5 hr_9 h hG_5 => ?_))
    refine a_pop (pc := 114) X9 dL_step_114 rfl ?_
    refine a_goto (pc := 115) (tgt := 345) X9 dL_step_115 rfl ?_
    exact a_return (pc := 345) X9 E (Nat.le_of_ble_eq_true rfl) (Nat.le_of_ble_eq_true rfl) dL_step_345 ⟨rfl, rfl, h⟩
  · refine a_tableIn (pc := 35) (tgt := 118) X9 dL_step_35 (inR_mod g_5 (by decide) (by decide)) (by omega) (by omega) (by rw [c_1]; rfl) rfl ?_
    have h := h.2.2.2.2.2.1 c_1
    refine a_aload_n (pc := 118) X9 dL_step_118 rfl rfl ?_
    refine a_iconst (pc := 119) X9 dL_step_119 ?_
    refine a_iload_n (pc := 120) X9 dL_step_120 rfl rfl ?_
    refine a_bipush (pc := 121) X9 dL_step_121 rfl ?_
    refine a_irem (pc := 123) X9 dL_step_123 ⟨g_3, hr_1.2⟩ ⟨(by decide), (by decide)⟩ ?_
    refine a_iconst (pc := 124) X9 dL_step_124 ?_
    refine a_iload (pc := 125) X9 dL_step_125 rfl ?_
    refine a_iconst (pc := 127) X9 dL_step_127 ?_
    obtain ⟨g_6, h⟩ := h
    refine a_irem (pc := 128) X9 dL_step_128 ⟨g_6, hr_2.2⟩ ⟨(by decide), (by decide)⟩ ?_
    refine a_iadd (pc := 129) X9 dL_step_129 ?_
    obtain ⟨g_7, h⟩ := h
    refine a_callV (pc := 130) X9 E (m_X9_borrow (show inR 0 by decide) (inR_mod g_3 (by decide) (by decide)) g_7 hnn h) okX9 (is9 hnn) wM_L_85 w_instanceMethod_X9_borrow w_selects_X9_borrow w_initialized_RX9 w_code_X9_borrow cp_X9_borrow pn_X9_borrow rfl (Nat.le_of_ble_eq_true rfl) ⟨Nat.le_of_ble_eq_true rfl, Nat.le_of_ble_eq_true rfl⟩ ⟨Nat.le_of_ble_eq_true rfl, Nat.le_of_ble_eq_true rfl⟩ dL_step_130 (fun _ _ q => False.elim q) (kI (fun r_10 G_6 hr_10 h hG_6 => ?_))
    refine a_pop (pc := 133) X9 dL_step_133 rfl ?_
    refine a_goto (pc := 134) (tgt := 345) X9 dL_step_134 rfl ?_
    exact a_return (pc := 345) X9 E (Nat.le_of_ble_eq_true rfl) (Nat.le_of_ble_eq_true rfl) dL_step_345 ⟨rfl, rfl, h⟩
  · refine a_tableIn (pc := 35) (tgt := 118) X9 dL_step_35 (inR_mod g_5 (by decide) (by decide)) (by omega) (by omega) (by rw [c_1]; rfl) rfl ?_
    have h := h.2.2.2.2.2.2.1 c_1
    refine a_aload_n (pc := 118) X9 dL_step_118 rfl rfl ?_
    refine a_iconst (pc := 119) X9 dL_step_119 ?_
    refine a_iload_n (pc := 120) X9 dL_step_120 rfl rfl ?_
    refine a_bipush (pc := 121) X9 dL_step_121 rfl ?_
    refine a_irem (pc := 123) X9 dL_step_123 ⟨g_3, hr_1.2⟩ ⟨(by decide), (by decide)⟩ ?_
    refine a_iconst (pc := 124) X9 dL_step_124 ?_
    refine a_iload (pc := 125) X9 dL_step_125 rfl ?_
    refine a_iconst (pc := 127) X9 dL_step_127 ?_
    obtain ⟨g_8, h⟩ := h
    refine a_irem (pc := 128) X9 dL_step_128 ⟨g_8, hr_2.2⟩ ⟨(by decide), (by decide)⟩ ?_
    refine a_iadd (pc := 129) X9 dL_step_129 ?_
    obtain ⟨g_9, h⟩ := h
    refine a_callV (pc := 130) X9 E (m_X9_borrow (show inR 0 by decide) (inR_mod g_3 (by decide) (by decide)) g_9 hnn h) okX9 (is9 hnn) wM_L_85 w_instanceMethod_X9_borrow w_selects_X9_borrow w_initialized_RX9 w_code_X9_borrow cp_X9_borrow pn_X9_borrow rfl (Nat.le_of_ble_eq_true rfl) ⟨Nat.le_of_ble_eq_true rfl, Nat.le_of_ble_eq_true rfl⟩ ⟨Nat.le_of_ble_eq_true rfl, Nat.le_of_ble_eq_true rfl⟩ dL_step_130 (fun _ _ q => False.elim q) (kI (fun r_11 G_7 hr_11 h hG_7 => ?_))
    refine a_pop (pc := 133) X9 dL_step_133 rfl ?_
    refine a_goto (pc := 134) (tgt := 345) X9 dL_step_134 rfl ?_
    exact a_return (pc := 345) X9 E (Nat.le_of_ble_eq_true rfl) (Nat.le_of_ble_eq_true rfl) dL_step_345 ⟨rfl, rfl, h⟩
  · refine a_tableIn (pc := 35) (tgt := 137) X9 dL_step_35 (inR_mod g_5 (by decide) (by decide)) (by omega) (by omega) (by rw [c_1]; rfl) rfl ?_
    have h := h.2.2.2.2.2.2.2.1 c_1
    refine a_aload_n (pc := 137) X9 dL_step_137 rfl rfl ?_
    refine a_bipush (pc := 138) X9 dL_step_138 rfl ?_
    refine a_callV (pc := 140) X9 E (m_X9_size (show inR 7 by decide) hnn h) okX9 (is9 hnn) wM_L_76 w_instanceMethod_X9_size w_selects_X9_size w_initialized_RX9 w_code_X9_size cp_X9_size pn_X9_size rfl (Nat.le_of_ble_eq_true rfl) ⟨Nat.le_of_ble_eq_true rfl, Nat.le_of_ble_eq_true rfl⟩ ⟨Nat.le_of_ble_eq_true rfl, Nat.le_of_ble_eq_true rfl⟩ dL_step_140 (fun _ _ q => False.elim q) (kIp (fun r_12 hr_12 h => ?_))
    refine a_if_le (pc := 143) (tgt := 345) X9 dL_step_143 rfl hr_12 (fun c => ?_) (fun c => ?_)
    · have c_2 := c
      have h := h.1 c_2
      exact a_return (pc := 345) X9 E (Nat.le_of_ble_eq_true rfl) (Nat.le_of_ble_eq_true rfl) dL_step_345 ⟨rfl, rfl, h⟩
    · have c_2 := c
      have h := h.2 c_2
      refine a_aload_n (pc := 146) X9 dL_step_146 rfl rfl ?_
      refine a_iload_n (pc := 147) X9 dL_step_147 rfl rfl ?_
      refine a_aload_n (pc := 148) X9 dL_step_148 rfl rfl ?_
      refine a_bipush (pc := 149) X9 dL_step_149 rfl ?_
      refine a_callV (pc := 151) X9 E (m_X9_size (show inR 7 by decide) hnn h) okX9 (is9 hnn) wM_L_76 w_instanceMethod_X9_size w_selects_X9_size w_initialized_RX9 w_code_X9_size cp_X9_size pn_X9_size rfl (Nat.le_of_ble_eq_true rfl) ⟨Nat.le_of_ble_eq_true rfl, Nat.le_of_ble_eq_true rfl⟩ ⟨Nat.le_of_ble_eq_true rfl, Nat.le_of_ble_eq_true rfl⟩ dL_step_151 (fun _ _ q => False.elim q) (kIp (fun r_13 hr_13 h => ?_))
      obtain ⟨g_10, h⟩ := h
      refine a_irem (pc := 154) X9 dL_step_154 ⟨g_3, hr_1.2⟩ ⟨g_10, hr_13.2⟩ ?_
      refine a_callV (pc := 155) X9 E (m_X9_giveBack (inR_mod g_3 g_10 hr_13) hnn h) okX9 (is9 hnn) wM_L_89 w_instanceMethod_X9_giveBack w_selects_X9_giveBack w_initialized_RX9 w_code_X9_giveBack cp_X9_giveBack pn_X9_giveBack rfl (Nat.le_of_ble_eq_true rfl) ⟨Nat.le_of_ble_eq_true rfl, Nat.le_of_ble_eq_true rfl⟩ ⟨Nat.le_of_ble_eq_true rfl, Nat.le_of_ble_eq_true rfl⟩ dL_step_155 (fun _ _ q => False.elim q) (kI (fun r_14 G_8 hr_14 h hG_8 => ?_))
      refine a_pop (pc := 158) X9 dL_step_158 rfl ?_
      refine a_goto (pc := 159) (tgt := 345) X9 dL_step_159 rfl ?_
      exact a_return (pc := 345) X9 E (Nat.le_of_ble_eq_true rfl) (Nat.le_of_ble_eq_true rfl) dL_step_345 ⟨rfl, rfl, h⟩
  · refine a_tableIn (pc := 35) (tgt := 162) X9 dL_step_35 (inR_mod g_5 (by decide) (by decide)) (by omega) (by omega) (by rw [c_1]; rfl) rfl ?_
    have h := h.2.2.2.2.2.2.2.2.1 c_1
    refine a_aload_n (pc := 162) X9 dL_step_162 rfl rfl ?_
    refine a_iload_n (pc := 163) X9 dL_step_163 rfl rfl ?_
    refine a_aload_n (pc := 164) X9 dL_step_164 rfl rfl ?_
    refine a_iconst (pc := 165) X9 dL_step_165 ?_
    refine a_callV (pc := 166) X9 E (m_X9_size (show inR 4 by decide) hnn h) okX9 (is9 hnn) wM_L_76 w_instanceMethod_X9_size w_selects_X9_size w_initialized_RX9 w_code_X9_size cp_X9_size pn_X9_size rfl (Nat.le_of_ble_eq_true rfl) ⟨Nat.le_of_ble_eq_true rfl, Nat.le_of_ble_eq_true rfl⟩ ⟨Nat.le_of_ble_eq_true rfl, Nat.le_of_ble_eq_true rfl⟩ dL_step_166 (fun _ _ q => False.elim q) (kIp (fun r_15 hr_15 h => ?_))
    obtain ⟨g_11, h⟩ := h
    refine a_irem (pc := 169) X9 dL_step_169 ⟨g_3, hr_1.2⟩ ⟨g_11, hr_15.2⟩ ?_
    refine a_iconst (pc := 170) X9 dL_step_170 ?_
    refine a_iload (pc := 171) X9 dL_step_171 rfl ?_
    refine a_iconst (pc := 173) X9 dL_step_173 ?_
    obtain ⟨g_12, h⟩ := h
    refine a_irem (pc := 174) X9 dL_step_174 ⟨g_12, hr_2.2⟩ ⟨(by decide), (by decide)⟩ ?_
    refine a_iadd (pc := 175) X9 dL_step_175 ?_
    obtain ⟨g_13, h⟩ := h
    refine a_callV (pc := 176) X9 E (m_X9_buy (inR_mod g_3 g_11 hr_15) g_13 hnn h) okX9 (is9 hnn) wM_L_92 w_instanceMethod_X9_buy w_selects_X9_buy w_initialized_RX9 w_code_X9_buy cp_X9_buy pn_X9_buy rfl (Nat.le_of_ble_eq_true rfl) ⟨Nat.le_of_ble_eq_true rfl, Nat.le_of_ble_eq_true rfl⟩ ⟨Nat.le_of_ble_eq_true rfl, Nat.le_of_ble_eq_true rfl⟩ dL_step_176 (fun _ _ q => False.elim q) (kI (fun r_16 G_9 hr_16 h hG_9 => ?_))
    refine a_pop (pc := 179) X9 dL_step_179 rfl ?_
    refine a_goto (pc := 180) (tgt := 345) X9 dL_step_180 rfl ?_
    exact a_return (pc := 345) X9 E (Nat.le_of_ble_eq_true rfl) (Nat.le_of_ble_eq_true rfl) dL_step_345 ⟨rfl, rfl, h⟩
  · refine a_tableIn (pc := 35) (tgt := 183) X9 dL_step_35 (inR_mod g_5 (by decide) (by decide)) (by omega) (by omega) (by rw [c_1]; rfl) rfl ?_
    have h := h.2.2.2.2.2.2.2.2.2.1 c_1
    refine a_aload_n (pc := 183) X9 dL_step_183 rfl rfl ?_
    refine a_iload_n (pc := 184) X9 dL_step_184 rfl rfl ?_
    refine a_aload_n (pc := 185) X9 dL_step_185 rfl rfl ?_
    refine a_iconst (pc := 186) X9 dL_step_186 ?_
    refine a_callV (pc := 187) X9 E (m_X9_size (show inR 4 by decide) hnn h) okX9 (is9 hnn) wM_L_76 w_instanceMethod_X9_size w_selects_X9_size w_initialized_RX9 w_code_X9_size cp_X9_size pn_X9_size rfl (Nat.le_of_ble_eq_true rfl) ⟨Nat.le_of_ble_eq_true rfl, Nat.le_of_ble_eq_true rfl⟩ ⟨Nat.le_of_ble_eq_true rfl, Nat.le_of_ble_eq_true rfl⟩ dL_step_187 (fun _ _ q => False.elim q) (kIp (fun r_17 hr_17 h => ?_))
    obtain ⟨g_14, h⟩ := h
    refine a_irem (pc := 190) X9 dL_step_190 ⟨g_3, hr_1.2⟩ ⟨g_14, hr_17.2⟩ ?_
    refine a_iconst (pc := 191) X9 dL_step_191 ?_
    refine a_iload (pc := 192) X9 dL_step_192 rfl ?_
    refine a_iconst (pc := 194) X9 dL_step_194 ?_
    obtain ⟨g_15, h⟩ := h
    refine a_irem (pc := 195) X9 dL_step_195 ⟨g_15, hr_2.2⟩ ⟨(by decide), (by decide)⟩ ?_
    refine a_iadd (pc := 196) X9 dL_step_196 ?_
    obtain ⟨g_16, h⟩ := h
    refine a_callV (pc := 197) X9 E (m_X9_lose (inR_mod g_3 g_14 hr_17) g_16 hnn h) okX9 (is9 hnn) wM_L_96 w_instanceMethod_X9_lose w_selects_X9_lose w_initialized_RX9 w_code_X9_lose cp_X9_lose pn_X9_lose rfl (Nat.le_of_ble_eq_true rfl) ⟨Nat.le_of_ble_eq_true rfl, Nat.le_of_ble_eq_true rfl⟩ ⟨Nat.le_of_ble_eq_true rfl, Nat.le_of_ble_eq_true rfl⟩ dL_step_197 (fun _ _ q => False.elim q) (kI (fun r_18 G_10 hr_18 h hG_10 => ?_))
    refine a_pop (pc := 200) X9 dL_step_200 rfl ?_
    refine a_goto (pc := 201) (tgt := 345) X9 dL_step_201 rfl ?_
    exact a_return (pc := 345) X9 E (Nat.le_of_ble_eq_true rfl) (Nat.le_of_ble_eq_true rfl) dL_step_345 ⟨rfl, rfl, h⟩
  · refine a_tableIn (pc := 35) (tgt := 204) X9 dL_step_35 (inR_mod g_5 (by decide) (by decide)) (by omega) (by omega) (by rw [c_1]; rfl) rfl ?_
    have h := h.2.2.2.2.2.2.2.2.2.2.1 c_1
    refine a_iload (pc := 204) X9 dL_step_204 rfl ?_
    refine a_iconst (pc := 206) X9 dL_step_206 ?_
    obtain ⟨g_17, h⟩ := h
    refine a_irem (pc := 207) X9 dL_step_207 ⟨g_17, hr_2.2⟩ ⟨(by decide), (by decide)⟩ ?_
    refine a_if_ne (pc := 208) (tgt := 230) X9 dL_step_208 rfl (inR_mod g_17 (by decide) (by decide)) (fun c => ?_) (fun c => ?_)
    · have c_3 := c
      have h := h.1 c_3
      refine a_aload_n (pc := 230) X9 dL_step_230 rfl rfl ?_
      refine a_iload_n (pc := 231) X9 dL_step_231 rfl rfl ?_
      refine a_iconst (pc := 232) X9 dL_step_232 ?_
      refine a_irem (pc := 233) X9 dL_step_233 ⟨g_3, hr_1.2⟩ ⟨(by decide), (by decide)⟩ ?_
      refine joinM1 (A := fun v_1 => (v_1 = 0 ∨ v_1 = 1) → AW κ δ ρ0 (szF nn) 6 0 0 242 [some (vr 0), some (vr (strB + 60)), some (vi i2), some (vi r_1), some (vi r_2), some (vi (r_1 % r_3))] [vi v_1, vr 0] (SF nn) G) (fun v_1 h h_v_1 => ?_) (fun j_1 hj_1 h => ?_) h
      · refine a_callV (pc := 242) X9 E (m_X9_setSplit (bool_inR h_v_1) hnn h) okX9 (is9 hnn) wM_L_103 w_instanceMethod_X9_setSplit w_selects_X9_setSplit w_initialized_RX9 w_code_X9_setSplit cp_X9_setSplit pn_X9_setSplit rfl (Nat.le_of_ble_eq_true rfl) ⟨Nat.le_of_ble_eq_true rfl, Nat.le_of_ble_eq_true rfl⟩ ⟨Nat.le_of_ble_eq_true rfl, Nat.le_of_ble_eq_true rfl⟩ dL_step_242 (fun _ _ q => False.elim q) (kZ (fun r_19 G_11 hr_19 h hG_11 => ?_))
        refine a_pop (pc := 245) X9 dL_step_245 rfl ?_
        refine a_goto (pc := 246) (tgt := 345) X9 dL_step_246 rfl ?_
        exact a_return (pc := 345) X9 E (Nat.le_of_ble_eq_true rfl) (Nat.le_of_ble_eq_true rfl) dL_step_345 ⟨rfl, rfl, h⟩
      · refine a_if_ne (pc := 234) (tgt := 241) X9 dL_step_234 rfl (inR_mod g_3 (by decide) (by decide)) (fun c => ?_) (fun c => ?_)
        · have c_5 := c
          have h := h.1 c_5
          refine a_iconst (pc := 241) X9 dL_step_241 ?_
          exact hj_1 _ h (Or.inl rfl)
        · have c_5 := c
          have h := h.2 c_5
          refine a_iconst (pc := 237) X9 dL_step_237 ?_
          refine a_goto (pc := 238) (tgt := 242) X9 dL_step_238 rfl ?_
          exact hj_1 _ h (Or.inr rfl)
    · have c_3 := c
      have h := h.2 c_3
      refine a_aload_n (pc := 211) X9 dL_step_211 rfl rfl ?_
      refine a_iload_n (pc := 212) X9 dL_step_212 rfl rfl ?_
      refine a_iconst (pc := 213) X9 dL_step_213 ?_
      refine a_irem (pc := 214) X9 dL_step_214 ⟨g_3, hr_1.2⟩ ⟨(by decide), (by decide)⟩ ?_
      refine joinM1 (A := fun v_2 => (v_2 = 0 ∨ v_2 = 1) → AW κ δ ρ0 (szF nn) 6 0 0 223 [some (vr 0), some (vr (strB + 60)), some (vi i2), some (vi r_1), some (vi r_2), some (vi (r_1 % r_3))] [vi v_2, vr 0] (SF nn) G) (fun v_2 h h_v_2 => ?_) (fun j_2 hj_2 h => ?_) h
      · refine a_callV (pc := 223) X9 E (m_X9_setTurn (bool_inR h_v_2) hnn h) okX9 (is9 hnn) wM_L_99 w_instanceMethod_X9_setTurn w_selects_X9_setTurn w_initialized_RX9 w_code_X9_setTurn cp_X9_setTurn pn_X9_setTurn rfl (Nat.le_of_ble_eq_true rfl) ⟨Nat.le_of_ble_eq_true rfl, Nat.le_of_ble_eq_true rfl⟩ ⟨Nat.le_of_ble_eq_true rfl, Nat.le_of_ble_eq_true rfl⟩ dL_step_223 (fun _ _ q => False.elim q) (kZ (fun r_20 G_12 hr_20 h hG_12 => ?_))
        refine a_pop (pc := 226) X9 dL_step_226 rfl ?_
        refine a_goto (pc := 227) (tgt := 345) X9 dL_step_227 rfl ?_
        exact a_return (pc := 345) X9 E (Nat.le_of_ble_eq_true rfl) (Nat.le_of_ble_eq_true rfl) dL_step_345 ⟨rfl, rfl, h⟩
      · refine a_if_ne (pc := 215) (tgt := 222) X9 dL_step_215 rfl (inR_mod g_3 (by decide) (by decide)) (fun c => ?_) (fun c => ?_)
        · have c_7 := c
          have h := h.1 c_7
          refine a_iconst (pc := 222) X9 dL_step_222 ?_
          exact hj_2 _ h (Or.inl rfl)
        · have c_7 := c
          have h := h.2 c_7
          refine a_iconst (pc := 218) X9 dL_step_218 ?_
          refine a_goto (pc := 219) (tgt := 223) X9 dL_step_219 rfl ?_
          exact hj_2 _ h (Or.inr rfl)
  · refine a_tableIn (pc := 35) (tgt := 249) X9 dL_step_35 (inR_mod g_5 (by decide) (by decide)) (by omega) (by omega) (by rw [c_1]; rfl) rfl ?_
    have h := h.2.2.2.2.2.2.2.2.2.2.2.1 c_1
    refine a_aload_n (pc := 249) X9 dL_step_249 rfl rfl ?_
    refine a_iload (pc := 250) X9 dL_step_250 rfl ?_
    refine a_iload (pc := 252) X9 dL_step_252 rfl ?_
    refine a_iconst (pc := 254) X9 dL_step_254 ?_
    obtain ⟨g_18, h⟩ := h
    refine a_irem (pc := 255) X9 dL_step_255 ⟨g_18, hr_2.2⟩ ⟨(by decide), (by decide)⟩ ?_
    refine a_iload_n (pc := 256) X9 dL_step_256 rfl rfl ?_
    refine a_callSL (pc := 257) X9 E hsc (m_L_hymn hr_1 hnn h) wM_L_69 w_static_L_hymn w_initialized_RL w_code_L_hymn cpL_hymn pnL_hymn rfl (Nat.le_of_ble_eq_true rfl) ⟨Nat.le_of_ble_eq_true rfl, Nat.le_of_ble_eq_true rfl⟩ ⟨Nat.le_of_ble_eq_true rfl, Nat.le_of_ble_eq_true rfl⟩ dL_step_257 (fun _ _ q => False.elim q) (kIp (fun r_21 hr_21 h => ?_))
    refine a_callV (pc := 260) X9 E (m_X9_setHymn (inR_mod g_3 g_4 hr_3) (inR_mod g_18 (by decide) (by decide)) hr_21 hnn h) okX9 (is9 hnn) wM_L_106 w_instanceMethod_X9_setHymn w_selects_X9_setHymn w_initialized_RX9 w_code_X9_setHymn cp_X9_setHymn pn_X9_setHymn rfl (Nat.le_of_ble_eq_true rfl) ⟨Nat.le_of_ble_eq_true rfl, Nat.le_of_ble_eq_true rfl⟩ ⟨Nat.le_of_ble_eq_true rfl, Nat.le_of_ble_eq_true rfl⟩ dL_step_260 (fun _ _ q => False.elim q) (kI (fun r_22 G_13 hr_22 h hG_13 => ?_))
    refine a_pop (pc := 263) X9 dL_step_263 rfl ?_
    refine a_goto (pc := 264) (tgt := 345) X9 dL_step_264 rfl ?_
    exact a_return (pc := 345) X9 E (Nat.le_of_ble_eq_true rfl) (Nat.le_of_ble_eq_true rfl) dL_step_345 ⟨rfl, rfl, h⟩
  · refine a_tableIn (pc := 35) (tgt := 267) X9 dL_step_35 (inR_mod g_5 (by decide) (by decide)) (by omega) (by omega) (by rw [c_1]; rfl) rfl ?_
    have h := h.2.2.2.2.2.2.2.2.2.2.2.2.1 c_1
    refine a_iload (pc := 267) X9 dL_step_267 rfl ?_
    refine a_iconst (pc := 269) X9 dL_step_269 ?_
    obtain ⟨g_19, h⟩ := h
    refine a_irem (pc := 270) X9 dL_step_270 ⟨g_19, hr_2.2⟩ ⟨(by decide), (by decide)⟩ ?_
    refine a_if_ne (pc := 271) (tgt := 288) X9 dL_step_271 rfl (inR_mod g_19 (by decide) (by decide)) (fun c => ?_) (fun c => ?_)
    · have c_8 := c
      have h := h.1 c_8
      refine a_aload_n (pc := 288) X9 dL_step_288 rfl rfl ?_
      refine a_iload_n (pc := 289) X9 dL_step_289 rfl rfl ?_
      refine a_bipush (pc := 290) X9 dL_step_290 rfl ?_
      refine a_irem (pc := 292) X9 dL_step_292 ⟨g_3, hr_1.2⟩ ⟨(by decide), (by decide)⟩ ?_
      refine a_iload (pc := 293) X9 dL_step_293 rfl ?_
      refine a_iconst (pc := 295) X9 dL_step_295 ?_
      refine a_idiv (pc := 296) X9 dL_step_296 ⟨g_19, hr_2.2⟩ ⟨(by decide), (by decide)⟩ ?_
      refine a_bipush (pc := 297) X9 dL_step_297 rfl ?_
      obtain ⟨g_20, h⟩ := h
      refine a_irem (pc := 299) X9 dL_step_299 ⟨g_20, (inR_div hr_2 g_19 (by decide)).2⟩ ⟨(by decide), (by decide)⟩ ?_
      refine a_iconst (pc := 300) X9 dL_step_300 ?_
      refine a_isub (pc := 301) X9 dL_step_301 ?_
      refine a_iload_n (pc := 302) X9 dL_step_302 rfl rfl ?_
      refine a_bipush (pc := 303) X9 dL_step_303 rfl ?_
      refine a_idiv (pc := 305) X9 dL_step_305 ⟨g_3, hr_1.2⟩ ⟨(by decide), (by decide)⟩ ?_
      refine a_iconst (pc := 306) X9 dL_step_306 ?_
      obtain ⟨g_21, h⟩ := h
      refine a_irem (pc := 307) X9 dL_step_307 ⟨g_21, (inR_div hr_1 g_3 (by decide)).2⟩ ⟨(by decide), (by decide)⟩ ?_
      obtain ⟨g_22, h⟩ := h
      refine a_callV (pc := 308) X9 E (m_X9_addCard (inR_mod g_3 (by decide) (by decide)) g_22 (inR_mod g_21 (by decide) (by decide)) hnn h) okX9 (is9 hnn) wM_L_112 w_instanceMethod_X9_addCard w_selects_X9_addCard w_initialized_RX9 w_code_X9_addCard cp_X9_addCard pn_X9_addCard rfl (Nat.le_of_ble_eq_true rfl) ⟨Nat.le_of_ble_eq_true rfl, Nat.le_of_ble_eq_true rfl⟩ ⟨Nat.le_of_ble_eq_true rfl, Nat.le_of_ble_eq_true rfl⟩ dL_step_308 (fun _ _ q => False.elim q) (kI (fun r_23 G_14 hr_23 h hG_14 => ?_))
      refine a_pop (pc := 311) X9 dL_step_311 rfl ?_
      refine a_goto (pc := 312) (tgt := 345) X9 dL_step_312 rfl ?_
      exact a_return (pc := 345) X9 E (Nat.le_of_ble_eq_true rfl) (Nat.le_of_ble_eq_true rfl) dL_step_345 ⟨rfl, rfl, h⟩
    · have c_8 := c
      have h := h.2 c_8
      refine a_aload_n (pc := 274) X9 dL_step_274 rfl rfl ?_
      refine a_iload (pc := 275) X9 dL_step_275 rfl ?_
      refine a_iload_n (pc := 277) X9 dL_step_277 rfl rfl ?_
      refine a_callSL (pc := 278) X9 E hsc (m_L_hymn hr_1 hnn h) wM_L_69 w_static_L_hymn w_initialized_RL w_code_L_hymn cpL_hymn pnL_hymn rfl (Nat.le_of_ble_eq_true rfl) ⟨Nat.le_of_ble_eq_true rfl, Nat.le_of_ble_eq_true rfl⟩ ⟨Nat.le_of_ble_eq_true rfl, Nat.le_of_ble_eq_true rfl⟩ dL_step_278 (fun _ _ q => False.elim q) (kIp (fun r_24 hr_24 h => ?_))
      refine a_callV (pc := 281) X9 E (m_X9_addHymn (inR_mod g_3 g_4 hr_3) hr_24 hnn h) okX9 (is9 hnn) wM_L_109 w_instanceMethod_X9_addHymn w_selects_X9_addHymn w_initialized_RX9 w_code_X9_addHymn cp_X9_addHymn pn_X9_addHymn rfl (Nat.le_of_ble_eq_true rfl) ⟨Nat.le_of_ble_eq_true rfl, Nat.le_of_ble_eq_true rfl⟩ ⟨Nat.le_of_ble_eq_true rfl, Nat.le_of_ble_eq_true rfl⟩ dL_step_281 (fun _ _ q => False.elim q) (kI (fun r_25 G_15 hr_25 h hG_15 => ?_))
      refine a_pop (pc := 284) X9 dL_step_284 rfl ?_
      refine a_goto (pc := 285) (tgt := 345) X9 dL_step_285 rfl ?_
      exact a_return (pc := 345) X9 E (Nat.le_of_ble_eq_true rfl) (Nat.le_of_ble_eq_true rfl) dL_step_345 ⟨rfl, rfl, h⟩
  · refine a_tableIn (pc := 35) (tgt := 315) X9 dL_step_35 (inR_mod g_5 (by decide) (by decide)) (by omega) (by omega) (by rw [c_1]; rfl) rfl ?_
    have h := h.2.2.2.2.2.2.2.2.2.2.2.2.2 c_1
    refine a_iload (pc := 315) X9 dL_step_315 rfl ?_
    refine a_iconst (pc := 317) X9 dL_step_317 ?_
    obtain ⟨g_23, h⟩ := h
    refine a_irem (pc := 318) X9 dL_step_318 ⟨g_23, hr_2.2⟩ ⟨(by decide), (by decide)⟩ ?_
    refine a_if_ne (pc := 319) (tgt := 330) X9 dL_step_319 rfl (inR_mod g_23 (by decide) (by decide)) (fun c => ?_) (fun c => ?_)
    · have c_9 := c
      have h := h.1 c_9
      refine a_aload_n (pc := 330) X9 dL_step_330 rfl rfl ?_
      refine a_iload (pc := 331) X9 dL_step_331 rfl ?_
      refine a_callV (pc := 333) X9 E (m_X9_hang (inR_mod g_3 g_4 hr_3) hnn h) okX9 (is9 hnn) wM_L_79 w_instanceMethod_X9_hang w_selects_X9_hang w_initialized_RX9 w_code_X9_hang cp_X9_hang pn_X9_hang rfl (Nat.le_of_ble_eq_true rfl) ⟨Nat.le_of_ble_eq_true rfl, Nat.le_of_ble_eq_true rfl⟩ ⟨Nat.le_of_ble_eq_true rfl, Nat.le_of_ble_eq_true rfl⟩ dL_step_333 (fun _ _ q => False.elim q) (kI (fun r_26 G_16 hr_26 h hG_16 => ?_))
      refine a_pop (pc := 336) X9 dL_step_336 rfl ?_
      refine a_goto (pc := 337) (tgt := 345) X9 dL_step_337 rfl ?_
      exact a_return (pc := 345) X9 E (Nat.le_of_ble_eq_true rfl) (Nat.le_of_ble_eq_true rfl) dL_step_345 ⟨rfl, rfl, h⟩
    · have c_9 := c
      have h := h.2 c_9
      refine a_aload_n (pc := 322) X9 dL_step_322 rfl rfl ?_
      refine a_callV (pc := 323) X9 E (m_X9_clear  hnn h) okX9 (is9 hnn) wM_L_115 w_instanceMethod_X9_clear w_selects_X9_clear w_initialized_RX9 w_code_X9_clear cp_X9_clear pn_X9_clear rfl (Nat.le_of_ble_eq_true rfl) ⟨Nat.le_of_ble_eq_true rfl, Nat.le_of_ble_eq_true rfl⟩ ⟨Nat.le_of_ble_eq_true rfl, Nat.le_of_ble_eq_true rfl⟩ dL_step_323 (fun _ _ q => False.elim q) (kI (fun r_27 G_17 hr_27 h hG_17 => ?_))
      refine a_pop (pc := 326) X9 dL_step_326 rfl ?_
      refine a_goto (pc := 327) (tgt := 345) X9 dL_step_327 rfl ?_
      exact a_return (pc := 345) X9 E (Nat.le_of_ble_eq_true rfl) (Nat.le_of_ble_eq_true rfl) dL_step_345 ⟨rfl, rfl, h⟩
set_option maxHeartbeats 4000000 in
set_option maxRecDepth 100000 in
theorem m_L_load {nn L : Nat} {xs : Nat → Int32}  {G : GH} {Q : Int → GH → Prop}  (hnn : 272 ≤ nn) (h : f_L_load nn G Q) : MtS L xs yL_load cL_load 5 (some .int) 9 194 0 0 [vr 0, vr 272] (SF nn) G (fun v S' G' => S' = SF nn ∧ qI Q v S' G') (fun E S' G' => S' = SF nn ∧ False) := by
  refine MtS.of (l0 := [some (vr 0), some (vr 272), none, none, none]) (by decide) (Nat.le_of_ble_eq_true rfl) rfl ?_
  intro κ δ ρ0 X9 E hsc hG
  replace X9 : CX κ δ RL cL_load 5 (some .int) := X9
  refine a_lconst (pc := 0) X9 0 dL_load_0 rfl ?_
  refine a_lstore_n (pc := 1) X9 dL_load_1 rfl (Nat.le_of_ble_eq_true rfl) rfl rfl ?_
  refine a_iconst (pc := 2) X9 dL_load_2 ?_
  refine a_istore (pc := 3) X9 dL_load_3 (Nat.le_of_ble_eq_true rfl) rfl rfl ?_
  refine loopM3 (A := fun x2_1 x4_1 G_1 => inR x4_1 → GR G_1 → AW κ δ ρ0 (szF nn) 5 0 0 5 [some (vr 0), some (vr 272), some (vl x2_1), none, some (vi x4_1)] [] (SF nn) G_1) (fun k_1 hk_1 x2_1 x4_1 G_1 h h_x4_1 hG_1 => ?_) _ _ _ h (by decide) hG
  refine a_iload (pc := 5) X9 dL_load_5 rfl ?_
  refine a_aload_n (pc := 7) X9 dL_load_7 rfl rfl ?_
  obtain ⟨g_1, h⟩ := h
  refine b_tlen (pc := 8) X9 E g_1 wM_L_14 (Nat.le_of_ble_eq_true rfl) ⟨Nat.le_of_ble_eq_true rfl, Nat.le_of_ble_eq_true rfl⟩ ⟨Nat.le_of_ble_eq_true rfl, Nat.le_of_ble_eq_true rfl⟩ dL_load_8 ?_
  refine a_icmp_ge (pc := 11) (tgt := 65) X9 dL_load_11 rfl h_x4_1 (tLen_inR g_1.1.2) (fun c => ?_) (fun c => ?_)
  · have c_1 := c
    have h := h.1 c_1
    refine a_aload_n (pc := 65) X9 dL_load_65 rfl rfl ?_
    refine a_callV (pc := 66) X9 E (m_X9_load  hnn h) okX9 (is9 hnn) wM_L_30 w_instanceMethod_X9_load w_selects_X9_load w_initialized_RX9 w_code_X9_load cp_X9_load pn_X9_load rfl (Nat.le_of_ble_eq_true rfl) ⟨Nat.le_of_ble_eq_true rfl, Nat.le_of_ble_eq_true rfl⟩ ⟨Nat.le_of_ble_eq_true rfl, Nat.le_of_ble_eq_true rfl⟩ dL_load_66 (fun _ _ q => False.elim q) (kI (fun r_1 G_2 hr_1 h hG_2 => ?_))
    exact a_ireturn (pc := 69) X9 E rfl rfl (Nat.le_of_ble_eq_true rfl) (Nat.le_of_ble_eq_true rfl) dL_load_69 ⟨rfl, _, rfl, hr_1, h⟩
  · have c_1 := c
    have h := h.2 c_1
    refine a_lload_n (pc := 14) X9 dL_load_14 rfl rfl ?_
    refine a_bipush (pc := 15) X9 dL_load_15 rfl ?_
    refine b_lshl (pc := 17) X9 dL_load_17 ?_
    refine a_aload_n (pc := 18) X9 dL_load_18 rfl rfl ?_
    refine a_iload (pc := 19) X9 dL_load_19 rfl ?_
    obtain ⟨g_2, h⟩ := h
    refine b_tchr (pc := 21) X9 E g_1 g_2 wM_L_20 (Nat.le_of_ble_eq_true rfl) ⟨Nat.le_of_ble_eq_true rfl, Nat.le_of_ble_eq_true rfl⟩ ⟨Nat.le_of_ble_eq_true rfl, Nat.le_of_ble_eq_true rfl⟩ dL_load_21 ?_
    refine a_i2l (pc := 24) X9 dL_load_24 (hG_1 _ _) ?_
    refine b_lor (pc := 25) X9 dL_load_25 ?_
    refine a_lstore_n (pc := 26) X9 dL_load_26 rfl (Nat.le_of_ble_eq_true rfl) rfl rfl ?_
    refine a_iload (pc := 27) X9 dL_load_27 rfl ?_
    refine a_bipush (pc := 29) X9 dL_load_29 rfl ?_
    obtain ⟨g_3, h⟩ := h
    refine a_irem (pc := 31) X9 dL_load_31 ⟨g_3, h_x4_1.2⟩ ⟨(by decide), (by decide)⟩ ?_
    refine a_bipush (pc := 32) X9 dL_load_32 rfl ?_
    refine a_icmp_eq (pc := 34) (tgt := 51) X9 dL_load_34 rfl (inR_mod g_3 (by decide) (by decide)) (by decide) (fun c => ?_) (fun c => ?_)
    · have c_2 := c
      have h := h.1 c_2
      refine a_aload_n (pc := 51) X9 dL_load_51 rfl rfl ?_
      refine a_lload_n (pc := 52) X9 dL_load_52 rfl rfl ?_
      refine a_callV (pc := 53) X9 E (m_X9_append inL_lOr hnn h) okX9 (is9 hnn) wM_L_24 w_instanceMethod_X9_append w_selects_X9_append w_initialized_RX9 w_code_X9_append cp_X9_append pn_X9_append rfl (Nat.le_of_ble_eq_true rfl) ⟨Nat.le_of_ble_eq_true rfl, Nat.le_of_ble_eq_true rfl⟩ ⟨Nat.le_of_ble_eq_true rfl, Nat.le_of_ble_eq_true rfl⟩ dL_load_53 (fun _ _ q => False.elim q) (kI (fun r_2 G_3 hr_2 h hG_3 => ?_))
      refine a_pop (pc := 56) X9 dL_load_56 rfl ?_
      refine a_lconst (pc := 57) X9 0 dL_load_57 rfl ?_
      refine a_lstore_n (pc := 58) X9 dL_load_58 rfl (Nat.le_of_ble_eq_true rfl) rfl rfl ?_
      refine a_iinc (pc := 59) X9 dL_load_59 rfl (Nat.le_of_ble_eq_true rfl) rfl rfl ?_
      refine a_goto (pc := 62) (tgt := 5) X9 dL_load_62 rfl ?_
      have q_1 : inR ((tLen nn)) := (tLen_inR g_1.1.2)
      have q_2 : inR (x4_1) := h_x4_1
      have g_4 : inR ((x4_1 + 1)) := ⟨by omega, by omega⟩
      exact hk_1 _ _ _ h g_4 hG_3
    · have c_2 := c
      have h := h.2 c_2
      refine a_iload (pc := 37) X9 dL_load_37 rfl ?_
      refine a_aload_n (pc := 39) X9 dL_load_39 rfl rfl ?_
      refine b_tlen (pc := 40) X9 E g_1 wM_L_14 (Nat.le_of_ble_eq_true rfl) ⟨Nat.le_of_ble_eq_true rfl, Nat.le_of_ble_eq_true rfl⟩ ⟨Nat.le_of_ble_eq_true rfl, Nat.le_of_ble_eq_true rfl⟩ dL_load_40 ?_
      refine a_iconst (pc := 43) X9 dL_load_43 ?_
      refine a_isub (pc := 44) X9 dL_load_44 ?_
      have q_3 : inR (x4_1) := h_x4_1
      have q_4 : inR ((tLen nn)) := (tLen_inR g_1.1.2)
      have g_5 : inR (((tLen nn) - 1)) := ⟨by omega, by omega⟩
      refine a_icmp_eq (pc := 45) (tgt := 51) X9 dL_load_45 rfl h_x4_1 g_5 (fun c => ?_) (fun c => ?_)
      · have c_3 := c
        have h := h.1 c_3
        refine a_aload_n (pc := 51) X9 dL_load_51 rfl rfl ?_
        refine a_lload_n (pc := 52) X9 dL_load_52 rfl rfl ?_
        refine a_callV (pc := 53) X9 E (m_X9_append inL_lOr hnn h) okX9 (is9 hnn) wM_L_24 w_instanceMethod_X9_append w_selects_X9_append w_initialized_RX9 w_code_X9_append cp_X9_append pn_X9_append rfl (Nat.le_of_ble_eq_true rfl) ⟨Nat.le_of_ble_eq_true rfl, Nat.le_of_ble_eq_true rfl⟩ ⟨Nat.le_of_ble_eq_true rfl, Nat.le_of_ble_eq_true rfl⟩ dL_load_53 (fun _ _ q => False.elim q) (kI (fun r_3 G_4 hr_3 h hG_4 => ?_))
        refine a_pop (pc := 56) X9 dL_load_56 rfl ?_
        refine a_lconst (pc := 57) X9 0 dL_load_57 rfl ?_
        refine a_lstore_n (pc := 58) X9 dL_load_58 rfl (Nat.le_of_ble_eq_true rfl) rfl rfl ?_
        refine a_iinc (pc := 59) X9 dL_load_59 rfl (Nat.le_of_ble_eq_true rfl) rfl rfl ?_
        refine a_goto (pc := 62) (tgt := 5) X9 dL_load_62 rfl ?_
        have q_5 : inR ((tLen nn)) := (tLen_inR g_1.1.2)
        have q_6 : inR (x4_1) := h_x4_1
        have g_6 : inR ((x4_1 + 1)) := ⟨by omega, by omega⟩
        exact hk_1 _ _ _ h g_6 hG_4
      · have c_3 := c
        have h := h.2 c_3
        refine a_goto (pc := 48) (tgt := 59) X9 dL_load_48 rfl ?_
        refine a_iinc (pc := 59) X9 dL_load_59 rfl (Nat.le_of_ble_eq_true rfl) rfl rfl ?_
        refine a_goto (pc := 62) (tgt := 5) X9 dL_load_62 rfl ?_
        have q_7 : inR ((tLen nn)) := (tLen_inR g_1.1.2)
        have q_8 : inR (x4_1) := h_x4_1
        have g_7 : inR ((x4_1 + 1)) := ⟨by omega, by omega⟩
        exact hk_1 _ _ _ h g_7 hG_1

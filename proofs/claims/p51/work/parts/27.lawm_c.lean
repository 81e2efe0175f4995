-- ===== the walks of the law's methods; written by wip/p51/genlaw.py =====
set_option maxHeartbeats 4000000 in
set_option maxRecDepth 100000 in
theorem m_L_hangs {nn L : Nat} {xs : Nat → Int32} {i1 : Int} {G : GH} {Q : Int → GH → Prop} (hi1 : inR i1) (hnn : 272 ≤ nn) (h : f_L_hangs i1 G Q) : MtS L xs yL_hangs cL_hangs 22 (some .boolean) 7 173 0 0 [vr 0, vi i1] (SF nn) G (fun v S' G' => S' = SF nn ∧ qZ Q v S' G') (fun E S' G' => S' = SF nn ∧ False) := by
  refine MtS.of (l0 := [some (vr 0), some (vi i1), none, none, none, none, none, none, none, none, none, none, none, none, none, none, none, none, none, none, none, none]) (by decide) (Nat.le_of_ble_eq_true rfl) rfl ?_
  intro κ δ ρ0 X9 E hsc hG
  replace X9 : CX κ δ RL cL_hangs 22 (some .boolean) := X9
  refine a_aload_n (pc := 0) X9 dL_hangs_0 rfl rfl ?_
  refine a_callSL (pc := 1) X9 E hsc (m_L_whole  hnn h) wM_L_164 w_static_L_whole w_initialized_RL w_code_L_whole cpL_whole pnL_whole rfl (Nat.le_of_ble_eq_true rfl) ⟨Nat.le_of_ble_eq_true rfl, Nat.le_of_ble_eq_true rfl⟩ ⟨Nat.le_of_ble_eq_true rfl, Nat.le_of_ble_eq_true rfl⟩ dL_hangs_1 (fun _ _ q => False.elim q) (kJp (fun r_1 h => ?_))
  refine a_lstore_n (pc := 4) X9 dL_hangs_4 rfl (Nat.le_of_ble_eq_true rfl) rfl rfl ?_
  refine a_aload_n (pc := 5) X9 dL_hangs_5 rfl rfl ?_
  refine a_iload_n (pc := 6) X9 dL_hangs_6 rfl rfl ?_
  refine a_iconst (pc := 7) X9 dL_hangs_7 ?_
  refine a_callV (pc := 8) X9 E (m_X9_would hi1 (show inR 0 by decide) hnn h) okX9 (is9 hnn) wM_L_168 w_instanceMethod_X9_would w_selects_X9_would w_initialized_RX9 w_code_X9_would cp_X9_would pn_X9_would rfl (Nat.le_of_ble_eq_true rfl) ⟨Nat.le_of_ble_eq_true rfl, Nat.le_of_ble_eq_true rfl⟩ ⟨Nat.le_of_ble_eq_true rfl, Nat.le_of_ble_eq_true rfl⟩ dL_hangs_8 (fun _ _ q => False.elim q) (kI (fun r_2 G_1 hr_2 h hG_1 => ?_))
  refine a_istore (pc := 11) X9 dL_hangs_11 (Nat.le_of_ble_eq_true rfl) rfl rfl ?_
  refine a_aload_n (pc := 13) X9 dL_hangs_13 rfl rfl ?_
  refine a_iload_n (pc := 14) X9 dL_hangs_14 rfl rfl ?_
  refine a_iconst (pc := 15) X9 dL_hangs_15 ?_
  refine a_callV (pc := 16) X9 E (m_X9_would hi1 (show inR 1 by decide) hnn h) okX9 (is9 hnn) wM_L_168 w_instanceMethod_X9_would w_selects_X9_would w_initialized_RX9 w_code_X9_would cp_X9_would pn_X9_would rfl (Nat.le_of_ble_eq_true rfl) ⟨Nat.le_of_ble_eq_true rfl, Nat.le_of_ble_eq_true rfl⟩ ⟨Nat.le_of_ble_eq_true rfl, Nat.le_of_ble_eq_true rfl⟩ dL_hangs_16 (fun _ _ q => False.elim q) (kI (fun r_3 G_2 hr_3 h hG_2 => ?_))
  refine a_istore (pc := 19) X9 dL_hangs_19 (Nat.le_of_ble_eq_true rfl) rfl rfl ?_
  refine a_aload_n (pc := 21) X9 dL_hangs_21 rfl rfl ?_
  refine a_iload_n (pc := 22) X9 dL_hangs_22 rfl rfl ?_
  refine a_iconst (pc := 23) X9 dL_hangs_23 ?_
  refine a_callV (pc := 24) X9 E (m_X9_would hi1 (show inR 2 by decide) hnn h) okX9 (is9 hnn) wM_L_168 w_instanceMethod_X9_would w_selects_X9_would w_initialized_RX9 w_code_X9_would cp_X9_would pn_X9_would rfl (Nat.le_of_ble_eq_true rfl) ⟨Nat.le_of_ble_eq_true rfl, Nat.le_of_ble_eq_true rfl⟩ ⟨Nat.le_of_ble_eq_true rfl, Nat.le_of_ble_eq_true rfl⟩ dL_hangs_24 (fun _ _ q => False.elim q) (kI (fun r_4 G_3 hr_4 h hG_3 => ?_))
  refine a_istore (pc := 27) X9 dL_hangs_27 (Nat.le_of_ble_eq_true rfl) rfl rfl ?_
  refine a_aload_n (pc := 29) X9 dL_hangs_29 rfl rfl ?_
  refine a_iload_n (pc := 30) X9 dL_hangs_30 rfl rfl ?_
  refine a_iconst (pc := 31) X9 dL_hangs_31 ?_
  refine a_callV (pc := 32) X9 E (m_X9_would hi1 (show inR 3 by decide) hnn h) okX9 (is9 hnn) wM_L_168 w_instanceMethod_X9_would w_selects_X9_would w_initialized_RX9 w_code_X9_would cp_X9_would pn_X9_would rfl (Nat.le_of_ble_eq_true rfl) ⟨Nat.le_of_ble_eq_true rfl, Nat.le_of_ble_eq_true rfl⟩ ⟨Nat.le_of_ble_eq_true rfl, Nat.le_of_ble_eq_true rfl⟩ dL_hangs_32 (fun _ _ q => False.elim q) (kI (fun r_5 G_4 hr_5 h hG_4 => ?_))
  refine a_istore (pc := 35) X9 dL_hangs_35 (Nat.le_of_ble_eq_true rfl) rfl rfl ?_
  refine a_aload_n (pc := 37) X9 dL_hangs_37 rfl rfl ?_
  refine a_iload_n (pc := 38) X9 dL_hangs_38 rfl rfl ?_
  refine a_iconst (pc := 39) X9 dL_hangs_39 ?_
  refine a_callV (pc := 40) X9 E (m_X9_would hi1 (show inR 4 by decide) hnn h) okX9 (is9 hnn) wM_L_168 w_instanceMethod_X9_would w_selects_X9_would w_initialized_RX9 w_code_X9_would cp_X9_would pn_X9_would rfl (Nat.le_of_ble_eq_true rfl) ⟨Nat.le_of_ble_eq_true rfl, Nat.le_of_ble_eq_true rfl⟩ ⟨Nat.le_of_ble_eq_true rfl, Nat.le_of_ble_eq_true rfl⟩ dL_hangs_40 (fun _ _ q => False.elim q) (kI (fun r_6 G_5 hr_6 h hG_5 => ?_))
  refine a_istore (pc := 43) X9 dL_hangs_43 (Nat.le_of_ble_eq_true rfl) rfl rfl ?_
  refine a_aload_n (pc := 45) X9 dL_hangs_45 rfl rfl ?_
  refine a_iload_n (pc := 46) X9 dL_hangs_46 rfl rfl ?_
  refine a_bipush (pc := 47) X9 dL_hangs_47 rfl ?_
  refine a_callV (pc := 49) X9 E (m_X9_would hi1 (show inR 6 by decide) hnn h) okX9 (is9 hnn) wM_L_168 w_instanceMethod_X9_would w_selects_X9_would w_initialized_RX9 w_code_X9_would cp_X9_would pn_X9_would rfl (Nat.le_of_ble_eq_true rfl) ⟨Nat.le_of_ble_eq_true rfl, Nat.le_of_ble_eq_true rfl⟩ ⟨Nat.le_of_ble_eq_true rfl, Nat.le_of_ble_eq_true rfl⟩ dL_hangs_49 (fun _ _ q => False.elim q) (kI (fun r_7 G_6 hr_7 h hG_6 => ?_))
  refine a_istore (pc := 52) X9 dL_hangs_52 (Nat.le_of_ble_eq_true rfl) rfl rfl ?_
  refine a_aload_n (pc := 54) X9 dL_hangs_54 rfl rfl ?_
  refine a_iload_n (pc := 55) X9 dL_hangs_55 rfl rfl ?_
  refine a_callV (pc := 56) X9 E (m_X9_outAt hi1 hnn h) okX9 (is9 hnn) wM_L_171 w_instanceMethod_X9_outAt w_selects_X9_outAt w_initialized_RX9 w_code_X9_outAt cp_X9_outAt pn_X9_outAt rfl (Nat.le_of_ble_eq_true rfl) ⟨Nat.le_of_ble_eq_true rfl, Nat.le_of_ble_eq_true rfl⟩ ⟨Nat.le_of_ble_eq_true rfl, Nat.le_of_ble_eq_true rfl⟩ dL_hangs_56 (fun _ _ q => False.elim q) (kI (fun r_8 G_7 hr_8 h hG_7 => ?_))
  refine a_istore (pc := 59) X9 dL_hangs_59 (Nat.le_of_ble_eq_true rfl) rfl rfl ?_
  refine a_aload_n (pc := 61) X9 dL_hangs_61 rfl rfl ?_
  refine a_iload_n (pc := 62) X9 dL_hangs_62 rfl rfl ?_
  refine a_callV (pc := 63) X9 E (m_X9_missing hi1 hnn h) okX9 (is9 hnn) wM_L_174 w_instanceMethod_X9_missing w_selects_X9_missing w_initialized_RX9 w_code_X9_missing cp_X9_missing pn_X9_missing rfl (Nat.le_of_ble_eq_true rfl) ⟨Nat.le_of_ble_eq_true rfl, Nat.le_of_ble_eq_true rfl⟩ ⟨Nat.le_of_ble_eq_true rfl, Nat.le_of_ble_eq_true rfl⟩ dL_hangs_63 (fun _ _ q => False.elim q) (kI (fun r_9 G_8 hr_9 h hG_8 => ?_))
  refine a_istore (pc := 66) X9 dL_hangs_66 (Nat.le_of_ble_eq_true rfl) rfl rfl ?_
  refine a_aload_n (pc := 68) X9 dL_hangs_68 rfl rfl ?_
  refine a_iload_n (pc := 69) X9 dL_hangs_69 rfl rfl ?_
  refine a_callV (pc := 70) X9 E (m_X9_bestBuy hi1 hnn h) okX9 (is9 hnn) wM_L_177 w_instanceMethod_X9_bestBuy w_selects_X9_bestBuy w_initialized_RX9 w_code_X9_bestBuy cp_X9_bestBuy pn_X9_bestBuy rfl (Nat.le_of_ble_eq_true rfl) ⟨Nat.le_of_ble_eq_true rfl, Nat.le_of_ble_eq_true rfl⟩ ⟨Nat.le_of_ble_eq_true rfl, Nat.le_of_ble_eq_true rfl⟩ dL_hangs_70 (fun _ _ q => False.elim q) (kI (fun r_10 G_9 hr_10 h hG_9 => ?_))
  refine a_istore (pc := 73) X9 dL_hangs_73 (Nat.le_of_ble_eq_true rfl) rfl rfl ?_
  refine a_aload_n (pc := 75) X9 dL_hangs_75 rfl rfl ?_
  refine a_callV (pc := 76) X9 E (m_X9_easiest  hnn h) okX9 (is9 hnn) wM_L_180 w_instanceMethod_X9_easiest w_selects_X9_easiest w_initialized_RX9 w_code_X9_easiest cp_X9_easiest pn_X9_easiest rfl (Nat.le_of_ble_eq_true rfl) ⟨Nat.le_of_ble_eq_true rfl, Nat.le_of_ble_eq_true rfl⟩ ⟨Nat.le_of_ble_eq_true rfl, Nat.le_of_ble_eq_true rfl⟩ dL_hangs_76 (fun _ _ q => False.elim q) (kI (fun r_11 G_10 hr_11 h hG_10 => ?_))
  refine a_istore (pc := 79) X9 dL_hangs_79 (Nat.le_of_ble_eq_true rfl) rfl rfl ?_
  refine a_aload_n (pc := 81) X9 dL_hangs_81 rfl rfl ?_
  refine a_iload_n (pc := 82) X9 dL_hangs_82 rfl rfl ?_
  refine a_iconst (pc := 83) X9 dL_hangs_83 ?_
  refine a_callV (pc := 84) X9 E (m_X9_workFrom hi1 (show inR 0 by decide) hnn h) okX9 (is9 hnn) wM_L_183 w_instanceMethod_X9_workFrom w_selects_X9_workFrom w_initialized_RX9 w_code_X9_workFrom cp_X9_workFrom pn_X9_workFrom rfl (Nat.le_of_ble_eq_true rfl) ⟨Nat.le_of_ble_eq_true rfl, Nat.le_of_ble_eq_true rfl⟩ ⟨Nat.le_of_ble_eq_true rfl, Nat.le_of_ble_eq_true rfl⟩ dL_hangs_84 (fun _ _ q => False.elim q) (kI (fun r_12 G_11 hr_12 h hG_11 => ?_))
  refine a_istore (pc := 87) X9 dL_hangs_87 (Nat.le_of_ble_eq_true rfl) rfl rfl ?_
  refine a_aload_n (pc := 89) X9 dL_hangs_89 rfl rfl ?_
  refine a_callSL (pc := 90) X9 E hsc (m_L_whole  hnn h) wM_L_164 w_static_L_whole w_initialized_RL w_code_L_whole cpL_whole pnL_whole rfl (Nat.le_of_ble_eq_true rfl) ⟨Nat.le_of_ble_eq_true rfl, Nat.le_of_ble_eq_true rfl⟩ ⟨Nat.le_of_ble_eq_true rfl, Nat.le_of_ble_eq_true rfl⟩ dL_hangs_90 (fun _ _ q => False.elim q) (kJp (fun r_13 h => ?_))
  refine a_lload_n (pc := 93) X9 dL_hangs_93 rfl rfl ?_
  refine b_lcmpZ (pc := 94) X9 dL_hangs_94 ?_
  refine a_if_ne (pc := 95) (tgt := 181) X9 dL_hangs_95 rfl lcv_inR (fun c => ?_) (fun c => ?_)
  · have c_2 : (wL r_13) ≠ (wL r_1) := fun e => c (lcv_eq.mpr e)
    have h := h.1 c_2
    refine a_iconst (pc := 181) X9 dL_hangs_181 ?_
    exact a_ireturn (pc := 182) X9 E rfl (fit_bool (Or.inl rfl)).1 (Nat.le_of_ble_eq_true rfl) (Nat.le_of_ble_eq_true rfl) dL_hangs_182 ⟨rfl, _, rfl, (Or.inl rfl), h⟩
  · have c_2 : (wL r_13) = (wL r_1) := lcv_eq.mp c
    have h := h.2 c_2
    refine a_iload (pc := 98) X9 dL_hangs_98 rfl ?_
    refine joinM1 (A := fun v_1 => (v_1 = 0 ∨ v_1 = 1) → AW κ δ ρ0 (szF nn) 22 0 0 108 [some (vr 0), some (vi i1), some (vl r_1), none, some (vi r_2), some (vi r_3), some (vi r_4), some (vi r_5), some (vi r_6), some (vi r_7), some (vi r_8), some (vi r_9), some (vi r_10), some (vi r_11), some (vi r_12), none, none, none, none, none, none, none] [vi v_1] (SF nn) G_11) (fun v_1 h h_v_1 => ?_) (fun j_1 hj_1 h => ?_) h
    · refine a_iload (pc := 108) X9 dL_hangs_108 rfl ?_
      refine joinM1 (A := fun v_2 => (v_2 = 0 ∨ v_2 = 1) → AW κ δ ρ0 (szF nn) 22 0 0 118 [some (vr 0), some (vi i1), some (vl r_1), none, some (vi r_2), some (vi r_3), some (vi r_4), some (vi r_5), some (vi r_6), some (vi r_7), some (vi r_8), some (vi r_9), some (vi r_10), some (vi r_11), some (vi r_12), none, none, none, none, none, none, none] [vi v_2, vi v_1] (SF nn) G_11) (fun v_2 h h_v_2 => ?_) (fun j_2 hj_2 h => ?_) h
      · refine a_icmp_ne (pc := 118) (tgt := 181) X9 dL_hangs_118 rfl (bool_inR h_v_1) (bool_inR h_v_2) (fun c => ?_) (fun c => ?_)
        · have c_6 := c
          have h := h.1 c_6
          refine a_iconst (pc := 181) X9 dL_hangs_181 ?_
          exact a_ireturn (pc := 182) X9 E rfl (fit_bool (Or.inl rfl)).1 (Nat.le_of_ble_eq_true rfl) (Nat.le_of_ble_eq_true rfl) dL_hangs_182 ⟨rfl, _, rfl, (Or.inl rfl), h⟩
        · have c_6 := c
          have h := h.2 c_6
          refine a_iload (pc := 121) X9 dL_hangs_121 rfl ?_
          refine joinM1 (A := fun v_3 => (v_3 = 0 ∨ v_3 = 1) → AW κ δ ρ0 (szF nn) 22 0 0 131 [some (vr 0), some (vi i1), some (vl r_1), none, some (vi r_2), some (vi r_3), some (vi r_4), some (vi r_5), some (vi r_6), some (vi r_7), some (vi r_8), some (vi r_9), some (vi r_10), some (vi r_11), some (vi r_12), none, none, none, none, none, none, none] [vi v_3] (SF nn) G_11) (fun v_3 h h_v_3 => ?_) (fun j_3 hj_3 h => ?_) h
          · refine a_iload (pc := 131) X9 dL_hangs_131 rfl ?_
            refine joinM1 (A := fun v_4 => (v_4 = 0 ∨ v_4 = 1) → AW κ δ ρ0 (szF nn) 22 0 0 141 [some (vr 0), some (vi i1), some (vl r_1), none, some (vi r_2), some (vi r_3), some (vi r_4), some (vi r_5), some (vi r_6), some (vi r_7), some (vi r_8), some (vi r_9), some (vi r_10), some (vi r_11), some (vi r_12), none, none, none, none, none, none, none] [vi v_4, vi v_3] (SF nn) G_11) (fun v_4 h h_v_4 => ?_) (fun j_4 hj_4 h => ?_) h
            · refine a_icmp_ne (pc := 141) (tgt := 181) X9 dL_hangs_141 rfl (bool_inR h_v_3) (bool_inR h_v_4) (fun c => ?_) (fun c => ?_)
              · have c_10 := c
                have h := h.1 c_10
                refine a_iconst (pc := 181) X9 dL_hangs_181 ?_
                exact a_ireturn (pc := 182) X9 E rfl (fit_bool (Or.inl rfl)).1 (Nat.le_of_ble_eq_true rfl) (Nat.le_of_ble_eq_true rfl) dL_hangs_182 ⟨rfl, _, rfl, (Or.inl rfl), h⟩
              · have c_10 := c
                have h := h.2 c_10
                refine a_iload (pc := 144) X9 dL_hangs_144 rfl ?_
                refine joinM0 (A := (AW κ δ ρ0 (szF nn) 22 0 0 155 [some (vr 0), some (vi i1), some (vl r_1), none, some (vi r_2), some (vi r_3), some (vi r_4), some (vi r_5), some (vi r_6), some (vi r_7), some (vi r_8), some (vi r_9), some (vi r_10), some (vi r_11), some (vi r_12), none, none, none, none, none, none, none] [] (SF nn) G_11)) (fun h => ?_) (fun j_5 hj_5 h => ?_) h
                · refine a_aload_n (pc := 155) X9 dL_hangs_155 rfl rfl ?_
                  refine a_iload (pc := 156) X9 dL_hangs_156 rfl ?_
                  refine a_iconst (pc := 158) X9 dL_hangs_158 ?_
                  refine a_callV (pc := 159) X9 E (m_X9_would hr_11 (show inR 2 by decide) hnn h) okX9 (is9 hnn) wM_L_168 w_instanceMethod_X9_would w_selects_X9_would w_initialized_RX9 w_code_X9_would cp_X9_would pn_X9_would rfl (Nat.le_of_ble_eq_true rfl) ⟨Nat.le_of_ble_eq_true rfl, Nat.le_of_ble_eq_true rfl⟩ ⟨Nat.le_of_ble_eq_true rfl, Nat.le_of_ble_eq_true rfl⟩ dL_hangs_159 (fun _ _ q => False.elim q) (kI (fun r_14 G_12 hr_14 h hG_12 => ?_))
                  refine a_iload (pc := 162) X9 dL_hangs_162 rfl ?_
                  refine a_icmp_gt (pc := 164) (tgt := 181) X9 dL_hangs_164 rfl hr_14 hr_4 (fun c => ?_) (fun c => ?_)
                  · have c_14 := c
                    have h := h.1 c_14
                    refine a_iconst (pc := 181) X9 dL_hangs_181 ?_
                    exact a_ireturn (pc := 182) X9 E rfl (fit_bool (Or.inl rfl)).1 (Nat.le_of_ble_eq_true rfl) (Nat.le_of_ble_eq_true rfl) dL_hangs_182 ⟨rfl, _, rfl, (Or.inl rfl), h⟩
                  · have c_14 := c
                    have h := h.2 c_14
                    refine a_iload (pc := 167) X9 dL_hangs_167 rfl ?_
                    refine a_iload (pc := 169) X9 dL_hangs_169 rfl ?_
                    refine a_icmp_gt (pc := 171) (tgt := 181) X9 dL_hangs_171 rfl hr_6 hr_5 (fun c => ?_) (fun c => ?_)
                    · have c_16 := c
                      have h := h.1 c_16
                      refine a_iconst (pc := 181) X9 dL_hangs_181 ?_
                      exact a_ireturn (pc := 182) X9 E rfl (fit_bool (Or.inl rfl)).1 (Nat.le_of_ble_eq_true rfl) (Nat.le_of_ble_eq_true rfl) dL_hangs_182 ⟨rfl, _, rfl, (Or.inl rfl), h⟩
                    · have c_16 := c
                      have h := h.2 c_16
                      refine a_iload (pc := 174) X9 dL_hangs_174 rfl ?_
                      refine a_iload (pc := 176) X9 dL_hangs_176 rfl ?_
                      refine a_icmp_le (pc := 178) (tgt := 183) X9 dL_hangs_178 rfl hr_7 hr_5 (fun c => ?_) (fun c => ?_)
                      · have c_18 := c
                        have h := h.1 c_18
                        refine a_aload_n (pc := 183) X9 dL_hangs_183 rfl rfl ?_
                        refine a_iconst (pc := 184) X9 dL_hangs_184 ?_
                        refine a_callV (pc := 185) X9 E (m_X9_saveSnapshot (show inR 0 by decide) hnn h) okX9 (is9 hnn) wM_L_186 w_instanceMethod_X9_saveSnapshot w_selects_X9_saveSnapshot w_initialized_RX9 w_code_X9_saveSnapshot cp_X9_saveSnapshot pn_X9_saveSnapshot rfl (Nat.le_of_ble_eq_true rfl) ⟨Nat.le_of_ble_eq_true rfl, Nat.le_of_ble_eq_true rfl⟩ ⟨Nat.le_of_ble_eq_true rfl, Nat.le_of_ble_eq_true rfl⟩ dL_hangs_185 (fun _ _ q => False.elim q) (kI (fun r_15 G_13 hr_15 h hG_13 => ?_))
                        refine a_pop (pc := 188) X9 dL_hangs_188 rfl ?_
                        refine a_aload_n (pc := 189) X9 dL_hangs_189 rfl rfl ?_
                        refine a_bipush (pc := 190) X9 dL_hangs_190 rfl ?_
                        refine a_callV (pc := 192) X9 E (m_X9_size (show inR 12 by decide) hnn h) okX9 (is9 hnn) wM_L_76 w_instanceMethod_X9_size w_selects_X9_size w_initialized_RX9 w_code_X9_size cp_X9_size pn_X9_size rfl (Nat.le_of_ble_eq_true rfl) ⟨Nat.le_of_ble_eq_true rfl, Nat.le_of_ble_eq_true rfl⟩ ⟨Nat.le_of_ble_eq_true rfl, Nat.le_of_ble_eq_true rfl⟩ dL_hangs_192 (fun _ _ q => False.elim q) (kIp (fun r_16 hr_16 h => ?_))
                        refine a_istore (pc := 195) X9 dL_hangs_195 (Nat.le_of_ble_eq_true rfl) rfl rfl ?_
                        refine a_aload_n (pc := 197) X9 dL_hangs_197 rfl rfl ?_
                        refine a_bipush (pc := 198) X9 dL_hangs_198 rfl ?_
                        refine a_callV (pc := 200) X9 E (m_X9_size (show inR 13 by decide) hnn h) okX9 (is9 hnn) wM_L_76 w_instanceMethod_X9_size w_selects_X9_size w_initialized_RX9 w_code_X9_size cp_X9_size pn_X9_size rfl (Nat.le_of_ble_eq_true rfl) ⟨Nat.le_of_ble_eq_true rfl, Nat.le_of_ble_eq_true rfl⟩ ⟨Nat.le_of_ble_eq_true rfl, Nat.le_of_ble_eq_true rfl⟩ dL_hangs_200 (fun _ _ q => False.elim q) (kIp (fun r_17 hr_17 h => ?_))
                        refine a_istore (pc := 203) X9 dL_hangs_203 (Nat.le_of_ble_eq_true rfl) rfl rfl ?_
                        refine a_aload_n (pc := 205) X9 dL_hangs_205 rfl rfl ?_
                        refine a_bipush (pc := 206) X9 dL_hangs_206 rfl ?_
                        refine a_callV (pc := 208) X9 E (m_X9_size (show inR 11 by decide) hnn h) okX9 (is9 hnn) wM_L_76 w_instanceMethod_X9_size w_selects_X9_size w_initialized_RX9 w_code_X9_size cp_X9_size pn_X9_size rfl (Nat.le_of_ble_eq_true rfl) ⟨Nat.le_of_ble_eq_true rfl, Nat.le_of_ble_eq_true rfl⟩ ⟨Nat.le_of_ble_eq_true rfl, Nat.le_of_ble_eq_true rfl⟩ dL_hangs_208 (fun _ _ q => False.elim q) (kIp (fun r_18 hr_18 h => ?_))
                        refine a_istore (pc := 211) X9 dL_hangs_211 (Nat.le_of_ble_eq_true rfl) rfl rfl ?_
                        refine a_aload_n (pc := 213) X9 dL_hangs_213 rfl rfl ?_
                        refine a_iload_n (pc := 214) X9 dL_hangs_214 rfl rfl ?_
                        refine a_callV (pc := 215) X9 E (m_X9_hang hi1 hnn h) okX9 (is9 hnn) wM_L_79 w_instanceMethod_X9_hang w_selects_X9_hang w_initialized_RX9 w_code_X9_hang cp_X9_hang pn_X9_hang rfl (Nat.le_of_ble_eq_true rfl) ⟨Nat.le_of_ble_eq_true rfl, Nat.le_of_ble_eq_true rfl⟩ ⟨Nat.le_of_ble_eq_true rfl, Nat.le_of_ble_eq_true rfl⟩ dL_hangs_215 (fun _ _ q => False.elim q) (kI (fun r_19 G_14 hr_19 h hG_14 => ?_))
                        refine a_iload (pc := 218) X9 dL_hangs_218 rfl ?_
                        refine a_icmp_ne (pc := 220) (tgt := 317) X9 dL_hangs_220 rfl hr_19 hr_4 (fun c => ?_) (fun c => ?_)
                        · have c_20 := c
                          have h := h.1 c_20
                          refine a_iconst (pc := 317) X9 dL_hangs_317 ?_
                          exact a_ireturn (pc := 318) X9 E rfl (fit_bool (Or.inl rfl)).1 (Nat.le_of_ble_eq_true rfl) (Nat.le_of_ble_eq_true rfl) dL_hangs_318 ⟨rfl, _, rfl, (Or.inl rfl), h⟩
                        · have c_20 := c
                          have h := h.2 c_20
                          refine a_aload_n (pc := 223) X9 dL_hangs_223 rfl rfl ?_
                          refine a_bipush (pc := 224) X9 dL_hangs_224 rfl ?_
                          refine a_callV (pc := 226) X9 E (m_X9_size (show inR 8 by decide) hnn h) okX9 (is9 hnn) wM_L_76 w_instanceMethod_X9_size w_selects_X9_size w_initialized_RX9 w_code_X9_size cp_X9_size pn_X9_size rfl (Nat.le_of_ble_eq_true rfl) ⟨Nat.le_of_ble_eq_true rfl, Nat.le_of_ble_eq_true rfl⟩ ⟨Nat.le_of_ble_eq_true rfl, Nat.le_of_ble_eq_true rfl⟩ dL_hangs_226 (fun _ _ q => False.elim q) (kIp (fun r_20 hr_20 h => ?_))
                          refine a_iload_n (pc := 229) X9 dL_hangs_229 rfl rfl ?_
                          refine a_icmp_ne (pc := 230) (tgt := 317) X9 dL_hangs_230 rfl hr_20 hi1 (fun c => ?_) (fun c => ?_)
                          · have c_22 := c
                            have h := h.1 c_22
                            refine a_iconst (pc := 317) X9 dL_hangs_317 ?_
                            exact a_ireturn (pc := 318) X9 E rfl (fit_bool (Or.inl rfl)).1 (Nat.le_of_ble_eq_true rfl) (Nat.le_of_ble_eq_true rfl) dL_hangs_318 ⟨rfl, _, rfl, (Or.inl rfl), h⟩
                          · have c_22 := c
                            have h := h.2 c_22
                            refine a_aload_n (pc := 233) X9 dL_hangs_233 rfl rfl ?_
                            refine a_bipush (pc := 234) X9 dL_hangs_234 rfl ?_
                            refine a_callV (pc := 236) X9 E (m_X9_size (show inR 9 by decide) hnn h) okX9 (is9 hnn) wM_L_76 w_instanceMethod_X9_size w_selects_X9_size w_initialized_RX9 w_code_X9_size cp_X9_size pn_X9_size rfl (Nat.le_of_ble_eq_true rfl) ⟨Nat.le_of_ble_eq_true rfl, Nat.le_of_ble_eq_true rfl⟩ ⟨Nat.le_of_ble_eq_true rfl, Nat.le_of_ble_eq_true rfl⟩ dL_hangs_236 (fun _ _ q => False.elim q) (kIp (fun r_21 hr_21 h => ?_))
                            refine a_iload (pc := 239) X9 dL_hangs_239 rfl ?_
                            refine a_icmp_ne (pc := 241) (tgt := 317) X9 dL_hangs_241 rfl hr_21 hr_5 (fun c => ?_) (fun c => ?_)
                            · have c_24 := c
                              have h := h.1 c_24
                              refine a_iconst (pc := 317) X9 dL_hangs_317 ?_
                              exact a_ireturn (pc := 318) X9 E rfl (fit_bool (Or.inl rfl)).1 (Nat.le_of_ble_eq_true rfl) (Nat.le_of_ble_eq_true rfl) dL_hangs_318 ⟨rfl, _, rfl, (Or.inl rfl), h⟩
                            · have c_24 := c
                              have h := h.2 c_24
                              refine a_aload_n (pc := 244) X9 dL_hangs_244 rfl rfl ?_
                              refine a_bipush (pc := 245) X9 dL_hangs_245 rfl ?_
                              refine a_callV (pc := 247) X9 E (m_X9_size (show inR 12 by decide) hnn h) okX9 (is9 hnn) wM_L_76 w_instanceMethod_X9_size w_selects_X9_size w_initialized_RX9 w_code_X9_size cp_X9_size pn_X9_size rfl (Nat.le_of_ble_eq_true rfl) ⟨Nat.le_of_ble_eq_true rfl, Nat.le_of_ble_eq_true rfl⟩ ⟨Nat.le_of_ble_eq_true rfl, Nat.le_of_ble_eq_true rfl⟩ dL_hangs_247 (fun _ _ q => False.elim q) (kIp (fun r_22 hr_22 h => ?_))
                              refine a_iload (pc := 250) X9 dL_hangs_250 rfl ?_
                              refine a_iload (pc := 252) X9 dL_hangs_252 rfl ?_
                              refine a_iadd (pc := 254) X9 dL_hangs_254 ?_
                              obtain ⟨g_2, h⟩ := h
                              refine a_icmp_ne (pc := 255) (tgt := 317) X9 dL_hangs_255 rfl hr_22 g_2 (fun c => ?_) (fun c => ?_)
                              · have c_26 := c
                                have h := h.1 c_26
                                refine a_iconst (pc := 317) X9 dL_hangs_317 ?_
                                exact a_ireturn (pc := 318) X9 E rfl (fit_bool (Or.inl rfl)).1 (Nat.le_of_ble_eq_true rfl) (Nat.le_of_ble_eq_true rfl) dL_hangs_318 ⟨rfl, _, rfl, (Or.inl rfl), h⟩
                              · have c_26 := c
                                have h := h.2 c_26
                                refine a_aload_n (pc := 258) X9 dL_hangs_258 rfl rfl ?_
                                refine a_bipush (pc := 259) X9 dL_hangs_259 rfl ?_
                                refine a_callV (pc := 261) X9 E (m_X9_size (show inR 13 by decide) hnn h) okX9 (is9 hnn) wM_L_76 w_instanceMethod_X9_size w_selects_X9_size w_initialized_RX9 w_code_X9_size cp_X9_size pn_X9_size rfl (Nat.le_of_ble_eq_true rfl) ⟨Nat.le_of_ble_eq_true rfl, Nat.le_of_ble_eq_true rfl⟩ ⟨Nat.le_of_ble_eq_true rfl, Nat.le_of_ble_eq_true rfl⟩ dL_hangs_261 (fun _ _ q => False.elim q) (kIp (fun r_23 hr_23 h => ?_))
                                refine a_iload (pc := 264) X9 dL_hangs_264 rfl ?_
                                refine a_iload (pc := 266) X9 dL_hangs_266 rfl ?_
                                refine a_iadd (pc := 268) X9 dL_hangs_268 ?_
                                obtain ⟨g_4, h⟩ := h
                                refine a_icmp_ne (pc := 269) (tgt := 317) X9 dL_hangs_269 rfl hr_23 g_4 (fun c => ?_) (fun c => ?_)
                                · have c_28 := c
                                  have h := h.1 c_28
                                  refine a_iconst (pc := 317) X9 dL_hangs_317 ?_
                                  exact a_ireturn (pc := 318) X9 E rfl (fit_bool (Or.inl rfl)).1 (Nat.le_of_ble_eq_true rfl) (Nat.le_of_ble_eq_true rfl) dL_hangs_318 ⟨rfl, _, rfl, (Or.inl rfl), h⟩
                                · have c_28 := c
                                  have h := h.2 c_28
                                  refine a_aload_n (pc := 272) X9 dL_hangs_272 rfl rfl ?_
                                  refine a_bipush (pc := 273) X9 dL_hangs_273 rfl ?_
                                  refine a_callV (pc := 275) X9 E (m_X9_size (show inR 11 by decide) hnn h) okX9 (is9 hnn) wM_L_76 w_instanceMethod_X9_size w_selects_X9_size w_initialized_RX9 w_code_X9_size cp_X9_size pn_X9_size rfl (Nat.le_of_ble_eq_true rfl) ⟨Nat.le_of_ble_eq_true rfl, Nat.le_of_ble_eq_true rfl⟩ ⟨Nat.le_of_ble_eq_true rfl, Nat.le_of_ble_eq_true rfl⟩ dL_hangs_275 (fun _ _ q => False.elim q) (kIp (fun r_24 hr_24 h => ?_))
                                  refine a_iload (pc := 278) X9 dL_hangs_278 rfl ?_
                                  refine a_iload (pc := 280) X9 dL_hangs_280 rfl ?_
                                  refine a_iadd (pc := 282) X9 dL_hangs_282 ?_
                                  obtain ⟨g_6, h⟩ := h
                                  refine a_icmp_ne (pc := 283) (tgt := 317) X9 dL_hangs_283 rfl hr_24 g_6 (fun c => ?_) (fun c => ?_)
                                  · have c_30 := c
                                    have h := h.1 c_30
                                    refine a_iconst (pc := 317) X9 dL_hangs_317 ?_
                                    exact a_ireturn (pc := 318) X9 E rfl (fit_bool (Or.inl rfl)).1 (Nat.le_of_ble_eq_true rfl) (Nat.le_of_ble_eq_true rfl) dL_hangs_318 ⟨rfl, _, rfl, (Or.inl rfl), h⟩
                                  · have c_30 := c
                                    have h := h.2 c_30
                                    refine a_aload_n (pc := 286) X9 dL_hangs_286 rfl rfl ?_
                                    refine a_callV (pc := 287) X9 E (m_X9_holes  hnn h) okX9 (is9 hnn) wM_L_161 w_instanceMethod_X9_holes w_selects_X9_holes w_initialized_RX9 w_code_X9_holes cp_X9_holes pn_X9_holes rfl (Nat.le_of_ble_eq_true rfl) ⟨Nat.le_of_ble_eq_true rfl, Nat.le_of_ble_eq_true rfl⟩ ⟨Nat.le_of_ble_eq_true rfl, Nat.le_of_ble_eq_true rfl⟩ dL_hangs_287 (fun _ _ q => False.elim q) (kIp (fun r_25 hr_25 h => ?_))
                                    refine a_if_ne (pc := 290) (tgt := 317) X9 dL_hangs_290 rfl hr_25 (fun c => ?_) (fun c => ?_)
                                    · have c_32 := c
                                      have h := h.1 c_32
                                      refine a_iconst (pc := 317) X9 dL_hangs_317 ?_
                                      exact a_ireturn (pc := 318) X9 E rfl (fit_bool (Or.inl rfl)).1 (Nat.le_of_ble_eq_true rfl) (Nat.le_of_ble_eq_true rfl) dL_hangs_318 ⟨rfl, _, rfl, (Or.inl rfl), h⟩
                                    · have c_32 := c
                                      have h := h.2 c_32
                                      refine a_aload_n (pc := 293) X9 dL_hangs_293 rfl rfl ?_
                                      refine a_callV (pc := 294) X9 E (m_X9_turned  hnn h) okX9 (is9 hnn) wM_L_189 w_instanceMethod_X9_turned w_selects_X9_turned w_initialized_RX9 w_code_X9_turned cp_X9_turned pn_X9_turned rfl (Nat.le_of_ble_eq_true rfl) ⟨Nat.le_of_ble_eq_true rfl, Nat.le_of_ble_eq_true rfl⟩ ⟨Nat.le_of_ble_eq_true rfl, Nat.le_of_ble_eq_true rfl⟩ dL_hangs_294 (fun _ _ q => False.elim q) (kFp (fun r_26 h => ?_))
                                      refine a_iload (pc := 297) X9 dL_hangs_297 rfl ?_
                                      refine joinM1 (A := fun v_5 => AW κ δ ρ0 (szF nn) 22 0 0 313 [some (vr 0), some (vi i1), some (vl r_1), none, some (vi r_2), some (vi r_3), some (vi r_4), some (vi r_5), some (vi r_6), some (vi r_7), some (vi r_8), some (vi r_9), some (vi r_10), some (vi r_11), some (vi r_12), some (vi r_16), some (vi r_17), some (vi r_18), none, none, none, none] [vf v_5, vf r_26] (SF nn) G_14) (fun v_5 h => ?_) (fun j_6 hj_6 h => ?_) h
                                      · refine b_fcmpl (pc := 313) X9 dL_hangs_313 ?_
                                        refine a_if_eq (pc := 314) (tgt := 319) X9 dL_hangs_314 rfl fcv_inR (fun c => ?_) (fun c => ?_)
                                        · have c_35 := c
                                          have h := h.1 c_35
                                          refine a_iload (pc := 319) X9 dL_hangs_319 rfl ?_
                                          refine joinM0 (A := (AW κ δ ρ0 (szF nn) 22 0 0 342 [some (vr 0), some (vi i1), some (vl r_1), none, some (vi r_2), some (vi r_3), some (vi r_4), some (vi r_5), some (vi r_6), some (vi r_7), some (vi r_8), some (vi r_9), some (vi r_10), some (vi r_11), some (vi r_12), some (vi r_16), some (vi r_17), some (vi r_18), none, none, none, none] [] (SF nn) G_14)) (fun h => ?_) (fun j_7 hj_7 h => ?_) h
                                          · refine a_aload_n (pc := 342) X9 dL_hangs_342 rfl rfl ?_
                                            refine a_iload_n (pc := 343) X9 dL_hangs_343 rfl rfl ?_
                                            refine a_iconst (pc := 344) X9 dL_hangs_344 ?_
                                            refine a_callV (pc := 345) X9 E (m_X9_would hi1 (show inR 2 by decide) hnn h) okX9 (is9 hnn) wM_L_168 w_instanceMethod_X9_would w_selects_X9_would w_initialized_RX9 w_code_X9_would cp_X9_would pn_X9_would rfl (Nat.le_of_ble_eq_true rfl) ⟨Nat.le_of_ble_eq_true rfl, Nat.le_of_ble_eq_true rfl⟩ ⟨Nat.le_of_ble_eq_true rfl, Nat.le_of_ble_eq_true rfl⟩ dL_hangs_345 (fun _ _ q => False.elim q) (kI (fun r_28 G_15 hr_28 h hG_15 => ?_))
                                            refine a_if_eq (pc := 348) (tgt := 353) X9 dL_hangs_348 rfl hr_28 (fun c => ?_) (fun c => ?_)
                                            · have c_39 := c
                                              have h := h.1 c_39
                                              refine a_iconst (pc := 353) X9 dL_hangs_353 ?_
                                              refine a_istore (pc := 354) X9 dL_hangs_354 (Nat.le_of_ble_eq_true rfl) rfl rfl ?_
                                              refine loopM1 (A := fun x18_1 => inR x18_1 → AW κ δ ρ0 (szF nn) 22 0 0 356 [some (vr 0), some (vi i1), some (vl r_1), none, some (vi r_2), some (vi r_3), some (vi r_4), some (vi r_5), some (vi r_6), some (vi r_7), some (vi r_8), some (vi r_9), some (vi r_10), some (vi r_11), some (vi r_12), some (vi r_16), some (vi r_17), some (vi r_18), some (vi x18_1), none, none, none] [] (SF nn) G_15) (fun k_1 hk_1 x18_1 h h_x18_1 => ?_) _ h (by decide)
                                              refine a_iload (pc := 356) X9 dL_hangs_356 rfl ?_
                                              refine a_aload_n (pc := 358) X9 dL_hangs_358 rfl rfl ?_
                                              refine a_iconst (pc := 359) X9 dL_hangs_359 ?_
                                              refine a_callV (pc := 360) X9 E (m_X9_size (show inR 0 by decide) hnn h) okX9 (is9 hnn) wM_L_76 w_instanceMethod_X9_size w_selects_X9_size w_initialized_RX9 w_code_X9_size cp_X9_size pn_X9_size rfl (Nat.le_of_ble_eq_true rfl) ⟨Nat.le_of_ble_eq_true rfl, Nat.le_of_ble_eq_true rfl⟩ ⟨Nat.le_of_ble_eq_true rfl, Nat.le_of_ble_eq_true rfl⟩ dL_hangs_360 (fun _ _ q => False.elim q) (kIp (fun r_29 hr_29 h => ?_))
                                              refine a_icmp_ge (pc := 363) (tgt := 463) X9 dL_hangs_363 rfl h_x18_1 hr_29 (fun c => ?_) (fun c => ?_)
                                              · have c_40 := c
                                                have h := h.1 c_40
                                                refine a_aload_n (pc := 463) X9 dL_hangs_463 rfl rfl ?_
                                                refine a_iconst (pc := 464) X9 dL_hangs_464 ?_
                                                refine a_callV (pc := 465) X9 E (m_X9_hang (show inR 0 by decide) hnn h) okX9 (is9 hnn) wM_L_79 w_instanceMethod_X9_hang w_selects_X9_hang w_initialized_RX9 w_code_X9_hang cp_X9_hang pn_X9_hang rfl (Nat.le_of_ble_eq_true rfl) ⟨Nat.le_of_ble_eq_true rfl, Nat.le_of_ble_eq_true rfl⟩ ⟨Nat.le_of_ble_eq_true rfl, Nat.le_of_ble_eq_true rfl⟩ dL_hangs_465 (fun _ _ q => False.elim q) (kI (fun r_30 G_16 hr_30 h hG_16 => ?_))
                                                refine a_iload (pc := 468) X9 dL_hangs_468 rfl ?_
                                                refine a_icmp_eq (pc := 470) (tgt := 475) X9 dL_hangs_470 rfl hr_30 hr_12 (fun c => ?_) (fun c => ?_)
                                                · have c_42 := c
                                                  have h := h.1 c_42
                                                  refine a_aload_n (pc := 475) X9 dL_hangs_475 rfl rfl ?_
                                                  refine a_iconst (pc := 476) X9 dL_hangs_476 ?_
                                                  refine a_callV (pc := 477) X9 E (m_X9_restoreSnapshot (show inR 0 by decide) hnn h) okX9 (is9 hnn) wM_L_196 w_instanceMethod_X9_restoreSnapshot w_selects_X9_restoreSnapshot w_initialized_RX9 w_code_X9_restoreSnapshot cp_X9_restoreSnapshot pn_X9_restoreSnapshot rfl (Nat.le_of_ble_eq_true rfl) ⟨Nat.le_of_ble_eq_true rfl, Nat.le_of_ble_eq_true rfl⟩ ⟨Nat.le_of_ble_eq_true rfl, Nat.le_of_ble_eq_true rfl⟩ dL_hangs_477 (fun _ _ q => False.elim q) (kI (fun r_31 G_17 hr_31 h hG_17 => ?_))
                                                  refine a_pop (pc := 480) X9 dL_hangs_480 rfl ?_
                                                  refine a_aload_n (pc := 481) X9 dL_hangs_481 rfl rfl ?_
                                                  refine a_callV (pc := 482) X9 E (m_X9_wouldFall  hnn h) okX9 (is9 hnn) wM_L_199 w_instanceMethod_X9_wouldFall w_selects_X9_wouldFall w_initialized_RX9 w_code_X9_wouldFall cp_X9_wouldFall pn_X9_wouldFall rfl (Nat.le_of_ble_eq_true rfl) ⟨Nat.le_of_ble_eq_true rfl, Nat.le_of_ble_eq_true rfl⟩ ⟨Nat.le_of_ble_eq_true rfl, Nat.le_of_ble_eq_true rfl⟩ dL_hangs_482 (fun _ _ q => False.elim q) (kIp (fun r_32 hr_32 h => ?_))
                                                  refine a_istore (pc := 485) X9 dL_hangs_485 (Nat.le_of_ble_eq_true rfl) rfl rfl ?_
                                                  refine a_aload_n (pc := 487) X9 dL_hangs_487 rfl rfl ?_
                                                  refine a_bipush (pc := 488) X9 dL_hangs_488 rfl ?_
                                                  refine a_callV (pc := 490) X9 E (m_X9_size (show inR 10 by decide) hnn h) okX9 (is9 hnn) wM_L_76 w_instanceMethod_X9_size w_selects_X9_size w_initialized_RX9 w_code_X9_size cp_X9_size pn_X9_size rfl (Nat.le_of_ble_eq_true rfl) ⟨Nat.le_of_ble_eq_true rfl, Nat.le_of_ble_eq_true rfl⟩ ⟨Nat.le_of_ble_eq_true rfl, Nat.le_of_ble_eq_true rfl⟩ dL_hangs_490 (fun _ _ q => False.elim q) (kIp (fun r_33 hr_33 h => ?_))
                                                  refine a_istore (pc := 493) X9 dL_hangs_493 (Nat.le_of_ble_eq_true rfl) rfl rfl ?_
                                                  refine a_aload_n (pc := 495) X9 dL_hangs_495 rfl rfl ?_
                                                  refine a_bipush (pc := 496) X9 dL_hangs_496 rfl ?_
                                                  refine a_callV (pc := 498) X9 E (m_X9_size (show inR 9 by decide) hnn h) okX9 (is9 hnn) wM_L_76 w_instanceMethod_X9_size w_selects_X9_size w_initialized_RX9 w_code_X9_size cp_X9_size pn_X9_size rfl (Nat.le_of_ble_eq_true rfl) ⟨Nat.le_of_ble_eq_true rfl, Nat.le_of_ble_eq_true rfl⟩ ⟨Nat.le_of_ble_eq_true rfl, Nat.le_of_ble_eq_true rfl⟩ dL_hangs_498 (fun _ _ q => False.elim q) (kIp (fun r_34 hr_34 h => ?_))
                                                  refine a_istore (pc := 501) X9 dL_hangs_501 (Nat.le_of_ble_eq_true rfl) rfl rfl ?_
                                                  refine a_aload_n (pc := 503) X9 dL_hangs_503 rfl rfl ?_
                                                  refine a_bipush (pc := 504) X9 dL_hangs_504 rfl ?_
                                                  refine a_callV (pc := 506) X9 E (m_X9_size (show inR 8 by decide) hnn h) okX9 (is9 hnn) wM_L_76 w_instanceMethod_X9_size w_selects_X9_size w_initialized_RX9 w_code_X9_size cp_X9_size pn_X9_size rfl (Nat.le_of_ble_eq_true rfl) ⟨Nat.le_of_ble_eq_true rfl, Nat.le_of_ble_eq_true rfl⟩ ⟨Nat.le_of_ble_eq_true rfl, Nat.le_of_ble_eq_true rfl⟩ dL_hangs_506 (fun _ _ q => False.elim q) (kIp (fun r_35 hr_35 h => ?_))
                                                  refine joinM1 (A := fun v_6 => (v_6 = 0 ∨ v_6 = 1) → AW κ δ ρ0 (szF nn) 22 0 0 517 [some (vr 0), some (vi i1), some (vl r_1), none, some (vi r_2), some (vi r_3), some (vi r_4), some (vi r_5), some (vi r_6), some (vi r_7), some (vi r_8), some (vi r_9), some (vi r_10), some (vi r_11), some (vi r_12), some (vi r_16), some (vi r_17), some (vi r_18), some (vi r_32), some (vi r_33), some (vi r_34), none] [vi v_6] (SF nn) G_17) (fun v_6 h h_v_6 => ?_) (fun j_8 hj_8 h => ?_) h
                                                  · refine a_istore (pc := 517) X9 dL_hangs_517 (Nat.le_of_ble_eq_true rfl) rfl rfl ?_
                                                    refine a_aload_n (pc := 519) X9 dL_hangs_519 rfl rfl ?_
                                                    refine a_callV (pc := 520) X9 E (m_X9_hold  hnn h) okX9 (is9 hnn) wM_L_82 w_instanceMethod_X9_hold w_selects_X9_hold w_initialized_RX9 w_code_X9_hold cp_X9_hold pn_X9_hold rfl (Nat.le_of_ble_eq_true rfl) ⟨Nat.le_of_ble_eq_true rfl, Nat.le_of_ble_eq_true rfl⟩ ⟨Nat.le_of_ble_eq_true rfl, Nat.le_of_ble_eq_true rfl⟩ dL_hangs_520 (fun _ _ q => False.elim q) (kI (fun r_36 G_18 hr_36 h hG_18 => ?_))
                                                    refine a_iload (pc := 523) X9 dL_hangs_523 rfl ?_
                                                    refine joinM1 (A := fun v_7 => inR v_7 → AW κ δ ρ0 (szF nn) 22 0 0 535 [some (vr 0), some (vi i1), some (vl r_1), none, some (vi r_2), some (vi r_3), some (vi r_4), some (vi r_5), some (vi r_6), some (vi r_7), some (vi r_8), some (vi r_9), some (vi r_10), some (vi r_11), some (vi r_12), some (vi r_16), some (vi r_17), some (vi r_18), some (vi r_32), some (vi r_33), some (vi r_34), some (vi v_6)] [vi v_7, vi r_36] (SF nn) G_18) (fun v_7 h h_v_7 => ?_) (fun j_9 hj_9 h => ?_) h
                                                    · refine a_icmp_ne (pc := 535) (tgt := 570) X9 dL_hangs_535 rfl hr_36 h_v_7 (fun c => ?_) (fun c => ?_)
                                                      · have c_46 := c
                                                        have h := h.1 c_46
                                                        refine a_iconst (pc := 570) X9 dL_hangs_570 ?_
                                                        exact a_ireturn (pc := 571) X9 E rfl (fit_bool (Or.inl rfl)).1 (Nat.le_of_ble_eq_true rfl) (Nat.le_of_ble_eq_true rfl) dL_hangs_571 ⟨rfl, _, rfl, (Or.inl rfl), h⟩
                                                      · have c_46 := c
                                                        have h := h.2 c_46
                                                        refine a_iload (pc := 538) X9 dL_hangs_538 rfl ?_
                                                        refine joinM0 (A := (AW κ δ ρ0 (szF nn) 22 0 0 572 [some (vr 0), some (vi i1), some (vl r_1), none, some (vi r_2), some (vi r_3), some (vi r_4), some (vi r_5), some (vi r_6), some (vi r_7), some (vi r_8), some (vi r_9), some (vi r_10), some (vi r_11), some (vi r_12), some (vi r_16), some (vi r_17), some (vi r_18), some (vi r_32), some (vi r_33), some (vi r_34), some (vi v_6)] [] (SF nn) G_18)) (fun h => ?_) (fun j_10 hj_10 h => ?_) h
                                                        · refine a_aload_n (pc := 572) X9 dL_hangs_572 rfl rfl ?_
                                                          refine a_iconst (pc := 573) X9 dL_hangs_573 ?_
                                                          refine a_callV (pc := 574) X9 E (m_X9_restoreSnapshot (show inR 0 by decide) hnn h) okX9 (is9 hnn) wM_L_196 w_instanceMethod_X9_restoreSnapshot w_selects_X9_restoreSnapshot w_initialized_RX9 w_code_X9_restoreSnapshot cp_X9_restoreSnapshot pn_X9_restoreSnapshot rfl (Nat.le_of_ble_eq_true rfl) ⟨Nat.le_of_ble_eq_true rfl, Nat.le_of_ble_eq_true rfl⟩ ⟨Nat.le_of_ble_eq_true rfl, Nat.le_of_ble_eq_true rfl⟩ dL_hangs_574 (fun _ _ q => False.elim q) (kI (fun r_39 G_19 hr_39 h hG_19 => ?_))
                                                          refine a_pop (pc := 577) X9 dL_hangs_577 rfl ?_
                                                          refine a_aload_n (pc := 578) X9 dL_hangs_578 rfl rfl ?_
                                                          refine a_callSL (pc := 579) X9 E hsc (m_L_whole  hnn h) wM_L_164 w_static_L_whole w_initialized_RL w_code_L_whole cpL_whole pnL_whole rfl (Nat.le_of_ble_eq_true rfl) ⟨Nat.le_of_ble_eq_true rfl, Nat.le_of_ble_eq_true rfl⟩ ⟨Nat.le_of_ble_eq_true rfl, Nat.le_of_ble_eq_true rfl⟩ dL_hangs_579 (fun _ _ q => False.elim q) (kJp (fun r_40 h => ?_))
                                                          refine a_lload_n (pc := 582) X9 dL_hangs_582 rfl rfl ?_
                                                          refine b_lcmpZ (pc := 583) X9 dL_hangs_583 ?_
                                                          refine a_if_ne (pc := 584) (tgt := 591) X9 dL_hangs_584 rfl lcv_inR (fun c => ?_) (fun c => ?_)
                                                          · have c_51 : (wL r_40) ≠ (wL r_1) := fun e => c (lcv_eq.mpr e)
                                                            have h := h.1 c_51
                                                            refine a_iconst (pc := 591) X9 dL_hangs_591 ?_
                                                            exact a_ireturn (pc := 592) X9 E rfl (fit_bool (Or.inl rfl)).1 (Nat.le_of_ble_eq_true rfl) (Nat.le_of_ble_eq_true rfl) dL_hangs_592 ⟨rfl, _, rfl, (Or.inl rfl), h⟩
                                                          · have c_51 : (wL r_40) = (wL r_1) := lcv_eq.mp c
                                                            have h := h.2 c_51
                                                            refine a_iconst (pc := 587) X9 dL_hangs_587 ?_
                                                            refine a_goto (pc := 588) (tgt := 592) X9 dL_hangs_588 rfl ?_
                                                            exact a_ireturn (pc := 592) X9 E rfl (fit_bool (Or.inr rfl)).1 (Nat.le_of_ble_eq_true rfl) (Nat.le_of_ble_eq_true rfl) dL_hangs_592 ⟨rfl, _, rfl, (Or.inr rfl), h⟩
                                                        · refine a_if_eq (pc := 540) (tgt := 572) X9 dL_hangs_540 rfl (bool_inR h_v_6) (fun c => ?_) (fun c => ?_)
                                                          · have c_52 := c
                                                            have h := h.1 c_52
                                                            exact hj_10 h
                                                          · have c_52 := c
                                                            have h := h.2 c_52
                                                            refine a_aload_n (pc := 543) X9 dL_hangs_543 rfl rfl ?_
                                                            refine a_bipush (pc := 544) X9 dL_hangs_544 rfl ?_
                                                            refine a_callV (pc := 546) X9 E (m_X9_size (show inR 10 by decide) hnn h) okX9 (is9 hnn) wM_L_76 w_instanceMethod_X9_size w_selects_X9_size w_initialized_RX9 w_code_X9_size cp_X9_size pn_X9_size rfl (Nat.le_of_ble_eq_true rfl) ⟨Nat.le_of_ble_eq_true rfl, Nat.le_of_ble_eq_true rfl⟩ ⟨Nat.le_of_ble_eq_true rfl, Nat.le_of_ble_eq_true rfl⟩ dL_hangs_546 (fun _ _ q => False.elim q) (kIp (fun r_41 hr_41 h => ?_))
                                                            refine a_iload (pc := 549) X9 dL_hangs_549 rfl ?_
                                                            refine a_iconst (pc := 551) X9 dL_hangs_551 ?_
                                                            refine a_iadd (pc := 552) X9 dL_hangs_552 ?_
                                                            obtain ⟨g_13, h⟩ := h
                                                            refine a_icmp_ne (pc := 553) (tgt := 570) X9 dL_hangs_553 rfl hr_41 g_13 (fun c => ?_) (fun c => ?_)
                                                            · have c_54 := c
                                                              have h := h.1 c_54
                                                              refine a_iconst (pc := 570) X9 dL_hangs_570 ?_
                                                              exact a_ireturn (pc := 571) X9 E rfl (fit_bool (Or.inl rfl)).1 (Nat.le_of_ble_eq_true rfl) (Nat.le_of_ble_eq_true rfl) dL_hangs_571 ⟨rfl, _, rfl, (Or.inl rfl), h⟩
                                                            · have c_54 := c
                                                              have h := h.2 c_54
                                                              refine a_aload_n (pc := 556) X9 dL_hangs_556 rfl rfl ?_
                                                              refine a_bipush (pc := 557) X9 dL_hangs_557 rfl ?_
                                                              refine a_callV (pc := 559) X9 E (m_X9_size (show inR 9 by decide) hnn h) okX9 (is9 hnn) wM_L_76 w_instanceMethod_X9_size w_selects_X9_size w_initialized_RX9 w_code_X9_size cp_X9_size pn_X9_size rfl (Nat.le_of_ble_eq_true rfl) ⟨Nat.le_of_ble_eq_true rfl, Nat.le_of_ble_eq_true rfl⟩ ⟨Nat.le_of_ble_eq_true rfl, Nat.le_of_ble_eq_true rfl⟩ dL_hangs_559 (fun _ _ q => False.elim q) (kIp (fun r_42 hr_42 h => ?_))
                                                              refine a_iload (pc := 562) X9 dL_hangs_562 rfl ?_
                                                              refine a_iload (pc := 564) X9 dL_hangs_564 rfl ?_
                                                              refine a_isub (pc := 566) X9 dL_hangs_566 ?_
                                                              obtain ⟨g_14, h⟩ := h
                                                              refine a_icmp_eq (pc := 567) (tgt := 572) X9 dL_hangs_567 rfl hr_42 g_14 (fun c => ?_) (fun c => ?_)
                                                              · have c_55 := c
                                                                have h := h.1 c_55
                                                                exact hj_10 h
                                                              · have c_55 := c
                                                                have h := h.2 c_55
                                                                refine a_iconst (pc := 570) X9 dL_hangs_570 ?_
                                                                exact a_ireturn (pc := 571) X9 E rfl (fit_bool (Or.inl rfl)).1 (Nat.le_of_ble_eq_true rfl) (Nat.le_of_ble_eq_true rfl) dL_hangs_571 ⟨rfl, _, rfl, (Or.inl rfl), h⟩
                                                    · refine a_if_eq (pc := 525) (tgt := 533) X9 dL_hangs_525 rfl (bool_inR h_v_6) (fun c => ?_) (fun c => ?_)
                                                      · have c_56 := c
                                                        have h := h.1 c_56
                                                        refine a_bipush (pc := 533) X9 dL_hangs_533 rfl ?_
                                                        exact hj_9 _ h (by decide)
                                                      · have c_56 := c
                                                        have h := h.2 c_56
                                                        refine a_iload (pc := 528) X9 dL_hangs_528 rfl ?_
                                                        refine a_goto (pc := 530) (tgt := 535) X9 dL_hangs_530 rfl ?_
                                                        exact hj_9 _ h hr_32
                                                  · refine a_if_lt (pc := 509) (tgt := 516) X9 dL_hangs_509 rfl hr_35 (fun c => ?_) (fun c => ?_)
                                                    · have c_57 := c
                                                      have h := h.1 c_57
                                                      refine a_iconst (pc := 516) X9 dL_hangs_516 ?_
                                                      exact hj_8 _ h (Or.inl rfl)
                                                    · have c_57 := c
                                                      have h := h.2 c_57
                                                      refine a_iconst (pc := 512) X9 dL_hangs_512 ?_
                                                      refine a_goto (pc := 513) (tgt := 517) X9 dL_hangs_513 rfl ?_
                                                      exact hj_8 _ h (Or.inr rfl)
                                                · have c_42 := c
                                                  have h := h.2 c_42
                                                  refine a_iconst (pc := 473) X9 dL_hangs_473 ?_
                                                  exact a_ireturn (pc := 474) X9 E rfl (fit_bool (Or.inl rfl)).1 (Nat.le_of_ble_eq_true rfl) (Nat.le_of_ble_eq_true rfl) dL_hangs_474 ⟨rfl, _, rfl, (Or.inl rfl), h⟩
                                              · have c_40 := c
                                                have h := h.2 c_40
                                                refine a_iconst (pc := 366) X9 dL_hangs_366 ?_
                                                refine a_istore (pc := 367) X9 dL_hangs_367 (Nat.le_of_ble_eq_true rfl) rfl rfl ?_
                                                refine loopM1 (A := fun x19_1 => inR x19_1 → AW κ δ ρ0 (szF nn) 22 0 0 369 [some (vr 0), some (vi i1), some (vl r_1), none, some (vi r_2), some (vi r_3), some (vi r_4), some (vi r_5), some (vi r_6), some (vi r_7), some (vi r_8), some (vi r_9), some (vi r_10), some (vi r_11), some (vi r_12), some (vi r_16), some (vi r_17), some (vi r_18), some (vi x18_1), some (vi x19_1), none, none] [] (SF nn) G_15) (fun k_2 hk_2 x19_1 h h_x19_1 => ?_) _ h (by decide)
                                                refine a_iload (pc := 369) X9 dL_hangs_369 rfl ?_
                                                refine a_aload_n (pc := 371) X9 dL_hangs_371 rfl rfl ?_
                                                refine a_iload (pc := 372) X9 dL_hangs_372 rfl ?_
                                                refine a_callV (pc := 374) X9 E (m_X9_rows h_x18_1 hnn h) okX9 (is9 hnn) wM_L_136 w_instanceMethod_X9_rows w_selects_X9_rows w_initialized_RX9 w_code_X9_rows cp_X9_rows pn_X9_rows rfl (Nat.le_of_ble_eq_true rfl) ⟨Nat.le_of_ble_eq_true rfl, Nat.le_of_ble_eq_true rfl⟩ ⟨Nat.le_of_ble_eq_true rfl, Nat.le_of_ble_eq_true rfl⟩ dL_hangs_374 (fun _ _ q => False.elim q) (kIp (fun r_43 hr_43 h => ?_))
                                                refine a_icmp_ge (pc := 377) (tgt := 457) X9 dL_hangs_377 rfl h_x19_1 hr_43 (fun c => ?_) (fun c => ?_)
                                                · have c_58 := c
                                                  have h := h.1 c_58
                                                  refine a_iinc (pc := 457) X9 dL_hangs_457 rfl (Nat.le_of_ble_eq_true rfl) rfl rfl ?_
                                                  refine a_goto (pc := 460) (tgt := 356) X9 dL_hangs_460 rfl ?_
                                                  have q_1 : inR (r_29) := hr_29
                                                  have q_2 : inR (x18_1) := h_x18_1
                                                  have g_15 : inR ((x18_1 + 1)) := ⟨by omega, by omega⟩
                                                  refine AW.drop 19 rfl ?_
                                                  exact hk_1 _ h g_15
                                                · have c_58 := c
                                                  have h := h.2 c_58
                                                  refine a_iconst (pc := 380) X9 dL_hangs_380 ?_
                                                  refine a_istore (pc := 381) X9 dL_hangs_381 (Nat.le_of_ble_eq_true rfl) rfl rfl ?_
                                                  refine loopM1 (A := fun x20_1 => inR x20_1 → AW κ δ ρ0 (szF nn) 22 0 0 383 [some (vr 0), some (vi i1), some (vl r_1), none, some (vi r_2), some (vi r_3), some (vi r_4), some (vi r_5), some (vi r_6), some (vi r_7), some (vi r_8), some (vi r_9), some (vi r_10), some (vi r_11), some (vi r_12), some (vi r_16), some (vi r_17), some (vi r_18), some (vi x18_1), some (vi x19_1), some (vi x20_1), none] [] (SF nn) G_15) (fun k_3 hk_3 x20_1 h h_x20_1 => ?_) _ h (by decide)
                                                  refine a_iload (pc := 383) X9 dL_hangs_383 rfl ?_
                                                  refine a_iconst (pc := 385) X9 dL_hangs_385 ?_
                                                  refine a_icmp_ge (pc := 386) (tgt := 451) X9 dL_hangs_386 rfl h_x20_1 (by decide) (fun c => ?_) (fun c => ?_)
                                                  · have c_59 := c
                                                    have h := h.1 c_59
                                                    refine a_iinc (pc := 451) X9 dL_hangs_451 rfl (Nat.le_of_ble_eq_true rfl) rfl rfl ?_
                                                    refine a_goto (pc := 454) (tgt := 369) X9 dL_hangs_454 rfl ?_
                                                    have q_3 : inR (r_43) := hr_43
                                                    have q_4 : inR (x19_1) := h_x19_1
                                                    have g_16 : inR ((x19_1 + 1)) := ⟨by omega, by omega⟩
                                                    refine AW.drop 20 rfl ?_
                                                    exact hk_2 _ h g_16
                                                  · have c_59 := c
                                                    have h := h.2 c_59
                                                    refine a_aload_n (pc := 389) X9 dL_hangs_389 rfl rfl ?_
                                                    refine a_iload (pc := 390) X9 dL_hangs_390 rfl ?_
                                                    refine a_iload (pc := 392) X9 dL_hangs_392 rfl ?_
                                                    refine a_iload (pc := 394) X9 dL_hangs_394 rfl ?_
                                                    refine a_iconst (pc := 396) X9 dL_hangs_396 ?_
                                                    refine a_callV (pc := 397) X9 E (m_X9_place h_x18_1 h_x19_1 h_x20_1 (show inR 0 by decide) hnn h) okX9 (is9 hnn) wM_L_142 w_instanceMethod_X9_place w_selects_X9_place w_initialized_RX9 w_code_X9_place cp_X9_place pn_X9_place rfl (Nat.le_of_ble_eq_true rfl) ⟨Nat.le_of_ble_eq_true rfl, Nat.le_of_ble_eq_true rfl⟩ ⟨Nat.le_of_ble_eq_true rfl, Nat.le_of_ble_eq_true rfl⟩ dL_hangs_397 (fun _ _ q => False.elim q) (kIp (fun r_44 hr_44 h => ?_))
                                                    refine a_if_lt (pc := 400) (tgt := 445) X9 dL_hangs_400 rfl hr_44 (fun c => ?_) (fun c => ?_)
                                                    · have c_60 := c
                                                      have h := h.1 c_60
                                                      refine a_iinc (pc := 445) X9 dL_hangs_445 rfl (Nat.le_of_ble_eq_true rfl) rfl rfl ?_
                                                      refine a_goto (pc := 448) (tgt := 383) X9 dL_hangs_448 rfl ?_
                                                      have q_5 : inR (x20_1) := h_x20_1
                                                      have g_17 : inR ((x20_1 + 1)) := ⟨by omega, by omega⟩
                                                      exact hk_3 _ h g_17
                                                    · have c_60 := c
                                                      have h := h.2 c_60
                                                      refine a_aload_n (pc := 403) X9 dL_hangs_403 rfl rfl ?_
                                                      refine a_aload_n (pc := 404) X9 dL_hangs_404 rfl rfl ?_
                                                      refine a_iload (pc := 405) X9 dL_hangs_405 rfl ?_
                                                      refine a_iload (pc := 407) X9 dL_hangs_407 rfl ?_
                                                      refine a_iload (pc := 409) X9 dL_hangs_409 rfl ?_
                                                      refine a_iconst (pc := 411) X9 dL_hangs_411 ?_
                                                      refine a_callV (pc := 412) X9 E (m_X9_place h_x18_1 h_x19_1 h_x20_1 (show inR 1 by decide) hnn h) okX9 (is9 hnn) wM_L_142 w_instanceMethod_X9_place w_selects_X9_place w_initialized_RX9 w_code_X9_place cp_X9_place pn_X9_place rfl (Nat.le_of_ble_eq_true rfl) ⟨Nat.le_of_ble_eq_true rfl, Nat.le_of_ble_eq_true rfl⟩ ⟨Nat.le_of_ble_eq_true rfl, Nat.le_of_ble_eq_true rfl⟩ dL_hangs_412 (fun _ _ q => False.elim q) (kIp (fun r_45 hr_45 h => ?_))
                                                      refine a_aload_n (pc := 415) X9 dL_hangs_415 rfl rfl ?_
                                                      refine a_iload (pc := 416) X9 dL_hangs_416 rfl ?_
                                                      refine a_iload (pc := 418) X9 dL_hangs_418 rfl ?_
                                                      refine a_iload (pc := 420) X9 dL_hangs_420 rfl ?_
                                                      refine a_iconst (pc := 422) X9 dL_hangs_422 ?_
                                                      refine a_callV (pc := 423) X9 E (m_X9_place h_x18_1 h_x19_1 h_x20_1 (show inR 0 by decide) hnn h) okX9 (is9 hnn) wM_L_142 w_instanceMethod_X9_place w_selects_X9_place w_initialized_RX9 w_code_X9_place cp_X9_place pn_X9_place rfl (Nat.le_of_ble_eq_true rfl) ⟨Nat.le_of_ble_eq_true rfl, Nat.le_of_ble_eq_true rfl⟩ ⟨Nat.le_of_ble_eq_true rfl, Nat.le_of_ble_eq_true rfl⟩ dL_hangs_423 (fun _ _ q => False.elim q) (kIp (fun r_46 hr_46 h => ?_))
                                                      refine a_callV (pc := 426) X9 E (m_X9_way hr_45 hr_46 hnn h) okX9 (is9 hnn) wM_L_193 w_instanceMethod_X9_way w_selects_X9_way w_initialized_RX9 w_code_X9_way cp_X9_way pn_X9_way rfl (Nat.le_of_ble_eq_true rfl) ⟨Nat.le_of_ble_eq_true rfl, Nat.le_of_ble_eq_true rfl⟩ ⟨Nat.le_of_ble_eq_true rfl, Nat.le_of_ble_eq_true rfl⟩ dL_hangs_426 (fun _ _ q => False.elim q) (kIp (fun r_47 hr_47 h => ?_))
                                                      refine a_aload_n (pc := 429) X9 dL_hangs_429 rfl rfl ?_
                                                      refine a_iload (pc := 430) X9 dL_hangs_430 rfl ?_
                                                      refine a_iload (pc := 432) X9 dL_hangs_432 rfl ?_
                                                      refine a_iload (pc := 434) X9 dL_hangs_434 rfl ?_
                                                      refine a_iconst (pc := 436) X9 dL_hangs_436 ?_
                                                      refine a_callV (pc := 437) X9 E (m_X9_place h_x18_1 h_x19_1 h_x20_1 (show inR 2 by decide) hnn h) okX9 (is9 hnn) wM_L_142 w_instanceMethod_X9_place w_selects_X9_place w_initialized_RX9 w_code_X9_place cp_X9_place pn_X9_place rfl (Nat.le_of_ble_eq_true rfl) ⟨Nat.le_of_ble_eq_true rfl, Nat.le_of_ble_eq_true rfl⟩ ⟨Nat.le_of_ble_eq_true rfl, Nat.le_of_ble_eq_true rfl⟩ dL_hangs_437 (fun _ _ q => False.elim q) (kIp (fun r_48 hr_48 h => ?_))
                                                      refine a_icmp_eq (pc := 440) (tgt := 445) X9 dL_hangs_440 rfl hr_47 hr_48 (fun c => ?_) (fun c => ?_)
                                                      · have c_61 := c
                                                        have h := h.1 c_61
                                                        refine a_iinc (pc := 445) X9 dL_hangs_445 rfl (Nat.le_of_ble_eq_true rfl) rfl rfl ?_
                                                        refine a_goto (pc := 448) (tgt := 383) X9 dL_hangs_448 rfl ?_
                                                        have q_6 : inR (x20_1) := h_x20_1
                                                        have g_18 : inR ((x20_1 + 1)) := ⟨by omega, by omega⟩
                                                        exact hk_3 _ h g_18
                                                      · have c_61 := c
                                                        have h := h.2 c_61
                                                        refine a_iconst (pc := 443) X9 dL_hangs_443 ?_
                                                        exact a_ireturn (pc := 444) X9 E rfl (fit_bool (Or.inl rfl)).1 (Nat.le_of_ble_eq_true rfl) (Nat.le_of_ble_eq_true rfl) dL_hangs_444 ⟨rfl, _, rfl, (Or.inl rfl), h⟩
                                            · have c_39 := c
                                              have h := h.2 c_39
                                              refine a_iconst (pc := 351) X9 dL_hangs_351 ?_
                                              exact a_ireturn (pc := 352) X9 E rfl (fit_bool (Or.inl rfl)).1 (Nat.le_of_ble_eq_true rfl) (Nat.le_of_ble_eq_true rfl) dL_hangs_352 ⟨rfl, _, rfl, (Or.inl rfl), h⟩
                                          · refine a_if_lt (pc := 321) (tgt := 342) X9 dL_hangs_321 rfl hr_8 (fun c => ?_) (fun c => ?_)
                                            · have c_62 := c
                                              have h := h.1 c_62
                                              exact hj_7 h
                                            · have c_62 := c
                                              have h := h.2 c_62
                                              refine a_aload_n (pc := 324) X9 dL_hangs_324 rfl rfl ?_
                                              refine a_iload (pc := 325) X9 dL_hangs_325 rfl ?_
                                              refine a_bipush (pc := 327) X9 dL_hangs_327 rfl ?_
                                              obtain ⟨g_19, h⟩ := h
                                              refine a_idiv (pc := 329) X9 dL_hangs_329 ⟨g_19, hr_8.2⟩ ⟨(by decide), (by decide)⟩ ?_
                                              refine a_iload (pc := 330) X9 dL_hangs_330 rfl ?_
                                              refine a_bipush (pc := 332) X9 dL_hangs_332 rfl ?_
                                              refine a_irem (pc := 334) X9 dL_hangs_334 ⟨g_19, hr_8.2⟩ ⟨(by decide), (by decide)⟩ ?_
                                              refine a_callV (pc := 335) X9 E (m_X9_hung (inR_div hr_8 g_19 (by decide)) (inR_mod g_19 (by decide) (by decide)) hnn h) okX9 (is9 hnn) wM_L_139 w_instanceMethod_X9_hung w_selects_X9_hung w_initialized_RX9 w_code_X9_hung cp_X9_hung pn_X9_hung rfl (Nat.le_of_ble_eq_true rfl) ⟨Nat.le_of_ble_eq_true rfl, Nat.le_of_ble_eq_true rfl⟩ ⟨Nat.le_of_ble_eq_true rfl, Nat.le_of_ble_eq_true rfl⟩ dL_hangs_335 (fun _ _ q => False.elim q) (kIp (fun r_49 hr_49 h => ?_))
                                              refine a_iconst (pc := 338) X9 dL_hangs_338 ?_
                                              refine a_icmp_ne (pc := 339) (tgt := 351) X9 dL_hangs_339 rfl hr_49 (by decide) (fun c => ?_) (fun c => ?_)
                                              · have c_63 := c
                                                have h := h.1 c_63
                                                refine a_iconst (pc := 351) X9 dL_hangs_351 ?_
                                                exact a_ireturn (pc := 352) X9 E rfl (fit_bool (Or.inl rfl)).1 (Nat.le_of_ble_eq_true rfl) (Nat.le_of_ble_eq_true rfl) dL_hangs_352 ⟨rfl, _, rfl, (Or.inl rfl), h⟩
                                              · have c_63 := c
                                                have h := h.2 c_63
                                                exact hj_7 h
                                        · have c_35 := c
                                          have h := h.2 c_35
                                          refine a_iconst (pc := 317) X9 dL_hangs_317 ?_
                                          exact a_ireturn (pc := 318) X9 E rfl (fit_bool (Or.inl rfl)).1 (Nat.le_of_ble_eq_true rfl) (Nat.le_of_ble_eq_true rfl) dL_hangs_318 ⟨rfl, _, rfl, (Or.inl rfl), h⟩
                                      · refine a_if_ne (pc := 299) (tgt := 306) X9 dL_hangs_299 rfl hr_5 (fun c => ?_) (fun c => ?_)
                                        · have c_64 := c
                                          have h := h.1 c_64
                                          refine a_iload (pc := 306) X9 dL_hangs_306 rfl ?_
                                          refine a_i2f (pc := 308) X9 dL_hangs_308 ?_
                                          refine a_iload (pc := 309) X9 dL_hangs_309 rfl ?_
                                          refine a_i2f (pc := 311) X9 dL_hangs_311 ?_
                                          obtain ⟨g_20, h⟩ := h
                                          refine a_fdiv (pc := 312) X9 dL_hangs_312 g_20 ?_
                                          exact hj_6 _ h
                                        · have c_64 := c
                                          have h := h.2 c_64
                                          refine a_fconst0 (pc := 302) X9 dL_hangs_302 ?_
                                          refine a_goto (pc := 303) (tgt := 313) X9 dL_hangs_303 rfl ?_
                                          exact hj_6 _ h
                      · have c_18 := c
                        have h := h.2 c_18
                        refine a_iconst (pc := 181) X9 dL_hangs_181 ?_
                        exact a_ireturn (pc := 182) X9 E rfl (fit_bool (Or.inl rfl)).1 (Nat.le_of_ble_eq_true rfl) (Nat.le_of_ble_eq_true rfl) dL_hangs_182 ⟨rfl, _, rfl, (Or.inl rfl), h⟩
                · refine a_if_ne (pc := 146) (tgt := 155) X9 dL_hangs_146 rfl hr_3 (fun c => ?_) (fun c => ?_)
                  · have c_65 := c
                    have h := h.1 c_65
                    exact hj_5 h
                  · have c_65 := c
                    have h := h.2 c_65
                    refine a_iload (pc := 149) X9 dL_hangs_149 rfl ?_
                    refine a_iconst (pc := 151) X9 dL_hangs_151 ?_
                    refine a_icmp_ne (pc := 152) (tgt := 181) X9 dL_hangs_152 rfl hr_10 (by decide) (fun c => ?_) (fun c => ?_)
                    · have c_66 := c
                      have h := h.1 c_66
                      refine a_iconst (pc := 181) X9 dL_hangs_181 ?_
                      exact a_ireturn (pc := 182) X9 E rfl (fit_bool (Or.inl rfl)).1 (Nat.le_of_ble_eq_true rfl) (Nat.le_of_ble_eq_true rfl) dL_hangs_182 ⟨rfl, _, rfl, (Or.inl rfl), h⟩
                    · have c_66 := c
                      have h := h.2 c_66
                      exact hj_5 h
            · refine a_if_ne (pc := 133) (tgt := 140) X9 dL_hangs_133 rfl hr_3 (fun c => ?_) (fun c => ?_)
              · have c_67 := c
                have h := h.1 c_67
                refine a_iconst (pc := 140) X9 dL_hangs_140 ?_
                exact hj_4 _ h (Or.inl rfl)
              · have c_67 := c
                have h := h.2 c_67
                refine a_iconst (pc := 136) X9 dL_hangs_136 ?_
                refine a_goto (pc := 137) (tgt := 141) X9 dL_hangs_137 rfl ?_
                exact hj_4 _ h (Or.inr rfl)
          · refine a_if_ne (pc := 123) (tgt := 130) X9 dL_hangs_123 rfl hr_9 (fun c => ?_) (fun c => ?_)
            · have c_68 := c
              have h := h.1 c_68
              refine a_iconst (pc := 130) X9 dL_hangs_130 ?_
              exact hj_3 _ h (Or.inl rfl)
            · have c_68 := c
              have h := h.2 c_68
              refine a_iconst (pc := 126) X9 dL_hangs_126 ?_
              refine a_goto (pc := 127) (tgt := 131) X9 dL_hangs_127 rfl ?_
              exact hj_3 _ h (Or.inr rfl)
      · refine a_if_ne (pc := 110) (tgt := 117) X9 dL_hangs_110 rfl hr_3 (fun c => ?_) (fun c => ?_)
        · have c_69 := c
          have h := h.1 c_69
          refine a_iconst (pc := 117) X9 dL_hangs_117 ?_
          exact hj_2 _ h (Or.inl rfl)
        · have c_69 := c
          have h := h.2 c_69
          refine a_iconst (pc := 113) X9 dL_hangs_113 ?_
          refine a_goto (pc := 114) (tgt := 118) X9 dL_hangs_114 rfl ?_
          exact hj_2 _ h (Or.inr rfl)
    · refine a_if_ge (pc := 100) (tgt := 107) X9 dL_hangs_100 rfl hr_8 (fun c => ?_) (fun c => ?_)
      · have c_70 := c
        have h := h.1 c_70
        refine a_iconst (pc := 107) X9 dL_hangs_107 ?_
        exact hj_1 _ h (Or.inl rfl)
      · have c_70 := c
        have h := h.2 c_70
        refine a_iconst (pc := 103) X9 dL_hangs_103 ?_
        refine a_goto (pc := 104) (tgt := 108) X9 dL_hangs_104 rfl ?_
        exact hj_1 _ h (Or.inr rfl)

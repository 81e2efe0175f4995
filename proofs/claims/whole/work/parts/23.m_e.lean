-- ===== the walks of the methods; written by wip/whole/gen.py =====
set_option maxHeartbeats 4000000 in
set_option maxRecDepth 100000 in
theorem m_X10_boardOf {nn : Nat} {i1 : Int} {G : GH} {Q : Int → Prop} (hi1 : inR i1) (hnn : 285 ≤ nn) (h : f_X10_boardOf i1 G Q) : Mt yX10_boardOf cX10_boardOf 3 (some .int) 1 23 0 0 [vr 272, vi i1] (SF nn) G (fun v S' G' => S' = SF nn ∧ qI (fun r9 G9 => G9 = G ∧ Q r9) v S' G') (fun E S' G' => S' = SF nn ∧ False) := by
  refine Mt.of (l0 := [some (vr 272), some (vi i1), none]) (by decide) (Nat.le_of_ble_eq_true rfl) rfl ?_
  intro κ δ ρ0 X9 E hG
  replace X9 : CX κ δ RX10 cX10_boardOf 3 (some .int) := X9
  refine a_iconst (pc := 0) X9 dX10_boardOf_0 ?_
  refine a_istore_n (pc := 1) X9 dX10_boardOf_1 rfl (Nat.le_of_ble_eq_true rfl) rfl rfl ?_
  refine loopM1 (A := fun x2_1 => inR x2_1 → AW κ δ ρ0 nn 3 0 0 2 [some (vr 272), some (vi i1), some (vi x2_1)] [] (SF nn) G) (fun k_1 hk_1 x2_1 h h_x2_1 => ?_) _ h (by decide)
  refine a_aload_n (pc := 2) X9 dX10_boardOf_2 rfl rfl ?_
  refine a_iload_n (pc := 3) X9 dX10_boardOf_3 rfl rfl ?_
  refine a_iconst (pc := 4) X9 dX10_boardOf_4 ?_
  refine a_iadd (pc := 5) X9 dX10_boardOf_5 ?_
  obtain ⟨g_1, h⟩ := h
  refine a_callV (pc := 6) X9 E (m_X10_firstRow g_1 hnn h) okX10 (is10 hnn) wM_X10_270 w_instanceMethod_X10_firstRow w_selects_X10_firstRow w_initialized_RX10 w_code_X10_firstRow cp_X10_firstRow pn_X10_firstRow rfl (Nat.le_of_ble_eq_true rfl) ⟨Nat.le_of_ble_eq_true rfl, Nat.le_of_ble_eq_true rfl⟩ ⟨Nat.le_of_ble_eq_true rfl, Nat.le_of_ble_eq_true rfl⟩ dX10_boardOf_6 (fun _ _ q => False.elim q) (kIp (fun r_1 hr_1 h => ?_))
  refine a_iload_n (pc := 9) X9 dX10_boardOf_9 rfl rfl ?_
  refine a_icmp_gt (pc := 10) (tgt := 19) X9 dX10_boardOf_10 rfl hr_1 hi1 (fun c => ?_) (fun c => ?_)
  · have c_1 := c
    have h := h.1 c_1
    refine a_iload_n (pc := 19) X9 dX10_boardOf_19 rfl rfl ?_
    exact a_ireturn (pc := 20) X9 E rfl rfl (Nat.le_of_ble_eq_true rfl) (Nat.le_of_ble_eq_true rfl) dX10_boardOf_20 ⟨rfl, _, rfl, h_x2_1, rfl, h⟩
  · have c_1 := c
    have h := h.2 c_1
    refine a_iinc (pc := 13) X9 dX10_boardOf_13 rfl (Nat.le_of_ble_eq_true rfl) rfl rfl ?_
    refine a_goto (pc := 16) (tgt := 2) X9 dX10_boardOf_16 rfl ?_
    exact hk_1 _ h g_1
set_option maxHeartbeats 4000000 in
set_option maxRecDepth 100000 in
theorem m_X10_dueOf {nn : Nat} {i1 : Int} {i2 : Int} {G : GH} {Q : Int → Prop} (hi1 : inR i1) (hi2 : inR i2) (hnn : 285 ≤ nn) (h : f_X10_dueOf i1 i2 G Q) : Mt yX10_dueOf cX10_dueOf 4 (some .int) 2 45 0 0 [vr 272, vi i1, vi i2] (SF nn) G (fun v S' G' => S' = SF nn ∧ qI (fun r9 G9 => G9 = G ∧ Q r9) v S' G') (fun E S' G' => S' = SF nn ∧ False) := by
  refine Mt.of (l0 := [some (vr 272), some (vi i1), some (vi i2), none]) (by decide) (Nat.le_of_ble_eq_true rfl) rfl ?_
  intro κ δ ρ0 X9 E hG
  replace X9 : CX κ δ RX10 cX10_dueOf 4 (some .int) := X9
  refine a_aload_n (pc := 0) X9 dX10_dueOf_0 rfl rfl ?_
  refine a_getR (pc := 1) X9 (q := 273) okX10 1 rfl wF_X10_9 (is10 hnn) rf10_1 dX10_dueOf_1 ?_
  refine a_iconst (pc := 4) X9 dX10_dueOf_4 ?_
  refine a_iald (pc := 5) X9 (ar10_1 hnn) (Nat.le_of_ble_eq_true rfl) (j := 2) rfl (Nat.le_of_ble_eq_true rfl) dX10_dueOf_5 ?_
  refine a_iconst (pc := 6) X9 dX10_dueOf_6 ?_
  refine joinM1 (A := fun v_1 => inR v_1 → AW κ δ ρ0 nn 4 0 0 25 [some (vr 272), some (vi i1), some (vi i2), none] [vi v_1] (SF nn) G) (fun v_1 h h_v_1 => ?_) (fun j_1 hj_1 h => ?_) h
  · refine a_istore_n (pc := 25) X9 dX10_dueOf_25 rfl (Nat.le_of_ble_eq_true rfl) rfl rfl ?_
    refine a_iload_n (pc := 26) X9 dX10_dueOf_26 rfl rfl ?_
    refine a_aload_n (pc := 27) X9 dX10_dueOf_27 rfl rfl ?_
    refine a_iload_n (pc := 28) X9 dX10_dueOf_28 rfl rfl ?_
    refine a_callV (pc := 29) X9 E (m_X10_hymnsOf hi1 hnn h) okX10 (is10 hnn) wM_X10_148 w_instanceMethod_X10_hymnsOf w_selects_X10_hymnsOf w_initialized_RX10 w_code_X10_hymnsOf cp_X10_hymnsOf pn_X10_hymnsOf rfl (Nat.le_of_ble_eq_true rfl) ⟨Nat.le_of_ble_eq_true rfl, Nat.le_of_ble_eq_true rfl⟩ ⟨Nat.le_of_ble_eq_true rfl, Nat.le_of_ble_eq_true rfl⟩ dX10_dueOf_29 (fun _ _ q => False.elim q) (kIp (fun r_3 hr_3 h => ?_))
    refine a_icmp_ge (pc := 32) (tgt := 44) X9 dX10_dueOf_32 rfl h_v_1 hr_3 (fun c => ?_) (fun c => ?_)
    · have c_2 := c
      have h := h.1 c_2
      refine a_iconst (pc := 44) X9 dX10_dueOf_44 ?_
      exact a_ireturn (pc := 45) X9 E rfl rfl (Nat.le_of_ble_eq_true rfl) (Nat.le_of_ble_eq_true rfl) dX10_dueOf_45 ⟨rfl, _, rfl, (show inR (-1) by decide), rfl, h⟩
    · have c_2 := c
      have h := h.2 c_2
      refine a_aload_n (pc := 35) X9 dX10_dueOf_35 rfl rfl ?_
      refine a_iload_n (pc := 36) X9 dX10_dueOf_36 rfl rfl ?_
      refine a_iload_n (pc := 37) X9 dX10_dueOf_37 rfl rfl ?_
      refine a_callV (pc := 38) X9 E (m_X10_hymnOf hi1 h_v_1 hnn h) okX10 (is10 hnn) wM_X10_152 w_instanceMethod_X10_hymnOf w_selects_X10_hymnOf w_initialized_RX10 w_code_X10_hymnOf cp_X10_hymnOf pn_X10_hymnOf rfl (Nat.le_of_ble_eq_true rfl) ⟨Nat.le_of_ble_eq_true rfl, Nat.le_of_ble_eq_true rfl⟩ ⟨Nat.le_of_ble_eq_true rfl, Nat.le_of_ble_eq_true rfl⟩ dX10_dueOf_38 (fun _ _ q => False.elim q) (kIp (fun r_4 hr_4 h => ?_))
      refine a_goto (pc := 41) (tgt := 45) X9 dX10_dueOf_41 rfl ?_
      exact a_ireturn (pc := 45) X9 E rfl rfl (Nat.le_of_ble_eq_true rfl) (Nat.le_of_ble_eq_true rfl) dX10_dueOf_45 ⟨rfl, _, rfl, hr_4, rfl, h⟩
  · refine a_icmp_ne (pc := 7) (tgt := 14) X9 dX10_dueOf_7 rfl (hG _ _) (by decide) (fun c => ?_) (fun c => ?_)
    · have c_3 := c
      have h := h.1 c_3
      refine a_iload_n (pc := 14) X9 dX10_dueOf_14 rfl rfl ?_
      refine a_aload_n (pc := 15) X9 dX10_dueOf_15 rfl rfl ?_
      refine a_aload_n (pc := 16) X9 dX10_dueOf_16 rfl rfl ?_
      refine a_iload_n (pc := 17) X9 dX10_dueOf_17 rfl rfl ?_
      refine a_callV (pc := 18) X9 E (m_X10_boardOf hi2 hnn h) okX10 (is10 hnn) wM_X10_273 w_instanceMethod_X10_boardOf w_selects_X10_boardOf w_initialized_RX10 w_code_X10_boardOf cp_X10_boardOf pn_X10_boardOf rfl (Nat.le_of_ble_eq_true rfl) ⟨Nat.le_of_ble_eq_true rfl, Nat.le_of_ble_eq_true rfl⟩ ⟨Nat.le_of_ble_eq_true rfl, Nat.le_of_ble_eq_true rfl⟩ dX10_dueOf_18 (fun _ _ q => False.elim q) (kIp (fun r_5 hr_5 h => ?_))
      refine a_callV (pc := 21) X9 E (m_X10_firstRow hr_5 hnn h) okX10 (is10 hnn) wM_X10_270 w_instanceMethod_X10_firstRow w_selects_X10_firstRow w_initialized_RX10 w_code_X10_firstRow cp_X10_firstRow pn_X10_firstRow rfl (Nat.le_of_ble_eq_true rfl) ⟨Nat.le_of_ble_eq_true rfl, Nat.le_of_ble_eq_true rfl⟩ ⟨Nat.le_of_ble_eq_true rfl, Nat.le_of_ble_eq_true rfl⟩ dX10_dueOf_21 (fun _ _ q => False.elim q) (kIp (fun r_6 hr_6 h => ?_))
      refine a_isub (pc := 24) X9 dX10_dueOf_24 ?_
      obtain ⟨g_1, h⟩ := h
      exact hj_1 _ h g_1
    · have c_3 := c
      have h := h.2 c_3
      refine a_iload_n (pc := 10) X9 dX10_dueOf_10 rfl rfl ?_
      refine a_goto (pc := 11) (tgt := 25) X9 dX10_dueOf_11 rfl ?_
      exact hj_1 _ h hi2
set_option maxHeartbeats 4000000 in
set_option maxRecDepth 100000 in
theorem m_X10_hangsRows {nn : Nat} {i1 : Int} {G : GH} {Q : GH → Prop} (hi1 : inR i1) (hnn : 285 ≤ nn) (h : f_X10_hangsRows i1 G Q) : Mt yX10_hangsRows cX10_hangsRows 4 none 3 68 0 0 [vr 272, vi i1] (SF nn) G (fun v S' G' => S' = SF nn ∧ qV Q v S' G') (fun E S' G' => S' = SF nn ∧ False) := by
  refine Mt.of (l0 := [some (vr 272), some (vi i1), none, none]) (by decide) (Nat.le_of_ble_eq_true rfl) rfl ?_
  intro κ δ ρ0 X9 E hG
  replace X9 : CX κ δ RX10 cX10_hangsRows 4 none := X9
  refine a_aload_n (pc := 0) X9 dX10_hangsRows_0 rfl rfl ?_
  refine a_iconst (pc := 1) X9 dX10_hangsRows_1 ?_
  refine a_putI (pc := 2) X9 okX10 22 rfl rfl (v := 0) wF_X10_276 (is10 hnn) dX10_hangsRows_2 (by decide) (fit_int _) (fun _ => ?_)
  obtain ⟨G_1, eG_1⟩ : ∃ G9, G9 = upG G 272 22 0 := ⟨_, rfl⟩
  have hG_1 : GR G_1 := by rw [eG_1]; exact (GR.up hG (by decide))
  have h := h G_1 eG_1
  rw [← eG_1]
  refine a_aload_n (pc := 5) X9 dX10_hangsRows_5 rfl rfl ?_
  refine a_iconst (pc := 6) X9 dX10_hangsRows_6 ?_
  refine a_putI (pc := 7) X9 okX10 23 rfl rfl (v := 0) wF_X10_279 (is10 hnn) dX10_hangsRows_7 (by decide) (fit_int _) (fun _ => ?_)
  obtain ⟨G_2, eG_2⟩ : ∃ G9, G9 = upG G_1 272 23 0 := ⟨_, rfl⟩
  have hG_2 : GR G_2 := by rw [eG_2]; exact (GR.up hG_1 (by decide))
  have h := h G_2 eG_2
  rw [← eG_2]
  refine a_aload_n (pc := 10) X9 dX10_hangsRows_10 rfl rfl ?_
  refine a_iconst (pc := 11) X9 dX10_hangsRows_11 ?_
  refine a_putI (pc := 12) X9 okX10 24 rfl rfl (v := (-1)) wF_X10_282 (is10 hnn) dX10_hangsRows_12 (by decide) (fit_int _) (fun _ => ?_)
  obtain ⟨G_3, eG_3⟩ : ∃ G9, G9 = upG G_2 272 24 (-1) := ⟨_, rfl⟩
  have hG_3 : GR G_3 := by rw [eG_3]; exact (GR.up hG_2 (by decide))
  have h := h G_3 eG_3
  rw [← eG_3]
  refine a_iconst (pc := 15) X9 dX10_hangsRows_15 ?_
  refine a_istore_n (pc := 16) X9 dX10_hangsRows_16 rfl (Nat.le_of_ble_eq_true rfl) rfl rfl ?_
  refine loopM2 (A := fun x2_1 G_4 => inR x2_1 → GR G_4 → AW κ δ ρ0 nn 4 0 0 17 [some (vr 272), some (vi i1), some (vi x2_1), none] [] (SF nn) G_4) (fun k_1 hk_1 x2_1 G_4 h h_x2_1 hG_4 => ?_) _ _ h (by decide) hG_3
  refine a_iload_n (pc := 17) X9 dX10_hangsRows_17 rfl rfl ?_
  refine a_aload_n (pc := 18) X9 dX10_hangsRows_18 rfl rfl ?_
  refine a_callV (pc := 19) X9 E (m_X10_allRows  hnn h) okX10 (is10 hnn) wM_X10_285 w_instanceMethod_X10_allRows w_selects_X10_allRows w_initialized_RX10 w_code_X10_allRows cp_X10_allRows pn_X10_allRows rfl (Nat.le_of_ble_eq_true rfl) ⟨Nat.le_of_ble_eq_true rfl, Nat.le_of_ble_eq_true rfl⟩ ⟨Nat.le_of_ble_eq_true rfl, Nat.le_of_ble_eq_true rfl⟩ dX10_hangsRows_19 (fun _ _ q => False.elim q) (kIp (fun r_1 hr_1 h => ?_))
  refine a_icmp_ge (pc := 22) (tgt := 119) X9 dX10_hangsRows_22 rfl h_x2_1 hr_1 (fun c => ?_) (fun c => ?_)
  · have c_1 := c
    have h := h.1 c_1
    exact a_return (pc := 119) X9 E (Nat.le_of_ble_eq_true rfl) (Nat.le_of_ble_eq_true rfl) dX10_hangsRows_119 ⟨rfl, rfl, h⟩
  · have c_1 := c
    have h := h.2 c_1
    refine a_aload_n (pc := 25) X9 dX10_hangsRows_25 rfl rfl ?_
    refine a_iload_n (pc := 26) X9 dX10_hangsRows_26 rfl rfl ?_
    refine a_iload_n (pc := 27) X9 dX10_hangsRows_27 rfl rfl ?_
    refine a_callV (pc := 28) X9 E (m_X10_dueOf hi1 h_x2_1 hnn h) okX10 (is10 hnn) wM_X10_288 w_instanceMethod_X10_dueOf w_selects_X10_dueOf w_initialized_RX10 w_code_X10_dueOf cp_X10_dueOf pn_X10_dueOf rfl (Nat.le_of_ble_eq_true rfl) ⟨Nat.le_of_ble_eq_true rfl, Nat.le_of_ble_eq_true rfl⟩ ⟨Nat.le_of_ble_eq_true rfl, Nat.le_of_ble_eq_true rfl⟩ dX10_hangsRows_28 (fun _ _ q => False.elim q) (kIp (fun r_2 hr_2 h => ?_))
    refine a_istore_n (pc := 31) X9 dX10_hangsRows_31 rfl (Nat.le_of_ble_eq_true rfl) rfl rfl ?_
    refine a_iload_n (pc := 32) X9 dX10_hangsRows_32 rfl rfl ?_
    refine a_iconst (pc := 33) X9 dX10_hangsRows_33 ?_
    refine a_icmp_ne (pc := 34) (tgt := 40) X9 dX10_hangsRows_34 rfl hr_2 (by decide) (fun c => ?_) (fun c => ?_)
    · have c_2 := c
      have h := h.1 c_2
      refine a_aload_n (pc := 40) X9 dX10_hangsRows_40 rfl rfl ?_
      refine a_iload_n (pc := 41) X9 dX10_hangsRows_41 rfl rfl ?_
      refine a_iconst (pc := 42) X9 dX10_hangsRows_42 ?_
      refine a_callV (pc := 43) X9 E (m_X10_wantsHymn hr_2 (show inR 1 by decide) hnn h) okX10 (is10 hnn) wM_X10_291 w_instanceMethod_X10_wantsHymn w_selects_X10_wantsHymn w_initialized_RX10 w_code_X10_wantsHymn cp_X10_wantsHymn pn_X10_wantsHymn rfl (Nat.le_of_ble_eq_true rfl) ⟨Nat.le_of_ble_eq_true rfl, Nat.le_of_ble_eq_true rfl⟩ ⟨Nat.le_of_ble_eq_true rfl, Nat.le_of_ble_eq_true rfl⟩ dX10_hangsRows_43 (fun _ _ q => False.elim q) (kV (fun G_5 h hG_5 => ?_))
      refine a_aload_n (pc := 46) X9 dX10_hangsRows_46 rfl rfl ?_
      refine a_callV (pc := 47) X9 E (m_X10_lack  hnn h) okX10 (is10 hnn) wM_X10_294 w_instanceMethod_X10_lack w_selects_X10_lack w_initialized_RX10 w_code_X10_lack cp_X10_lack pn_X10_lack rfl (Nat.le_of_ble_eq_true rfl) ⟨Nat.le_of_ble_eq_true rfl, Nat.le_of_ble_eq_true rfl⟩ ⟨Nat.le_of_ble_eq_true rfl, Nat.le_of_ble_eq_true rfl⟩ dX10_hangsRows_47 (fun _ _ q => False.elim q) (kIp (fun r_4 hr_4 h => ?_))
      refine a_if_ne (pc := 50) (tgt := 77) X9 dX10_hangsRows_50 rfl hr_4 (fun c => ?_) (fun c => ?_)
      · have c_3 := c
        have h := h.1 c_3
        refine a_aload_n (pc := 77) X9 dX10_hangsRows_77 rfl rfl ?_
        refine a_iload_n (pc := 78) X9 dX10_hangsRows_78 rfl rfl ?_
        refine a_iconst (pc := 79) X9 dX10_hangsRows_79 ?_
        refine a_callV (pc := 80) X9 E (m_X10_wantsHymn hr_2 (show inR (-1) by decide) hnn h) okX10 (is10 hnn) wM_X10_291 w_instanceMethod_X10_wantsHymn w_selects_X10_wantsHymn w_initialized_RX10 w_code_X10_wantsHymn cp_X10_wantsHymn pn_X10_wantsHymn rfl (Nat.le_of_ble_eq_true rfl) ⟨Nat.le_of_ble_eq_true rfl, Nat.le_of_ble_eq_true rfl⟩ ⟨Nat.le_of_ble_eq_true rfl, Nat.le_of_ble_eq_true rfl⟩ dX10_hangsRows_80 (fun _ _ q => False.elim q) (kV (fun G_6 h hG_6 => ?_))
        refine a_aload_n (pc := 83) X9 dX10_hangsRows_83 rfl rfl ?_
        refine a_dup (pc := 84) X9 dX10_hangsRows_84 rfl ?_
        refine a_getI (pc := 85) X9 okX10 23 rfl wF_X10_279 (is10 hnn) dX10_hangsRows_85 ?_
        refine a_iconst (pc := 88) X9 dX10_hangsRows_88 ?_
        refine a_iadd (pc := 89) X9 dX10_hangsRows_89 ?_
        obtain ⟨g_1, h⟩ := h
        refine a_putI (pc := 90) X9 okX10 23 rfl rfl (v := ((G_6 272 23) + 1)) wF_X10_279 (is10 hnn) dX10_hangsRows_90 g_1 (fit_int _) (fun _ => ?_)
        obtain ⟨G_7, eG_7⟩ : ∃ G9, G9 = upG G_6 272 23 ((G_6 272 23) + 1) := ⟨_, rfl⟩
        have hG_7 : GR G_7 := by rw [eG_7]; exact (GR.up hG_6 g_1)
        have h := h G_7 eG_7
        rw [← eG_7]
        refine a_aload_n (pc := 93) X9 dX10_hangsRows_93 rfl rfl ?_
        refine a_aload_n (pc := 94) X9 dX10_hangsRows_94 rfl rfl ?_
        refine a_getI (pc := 95) X9 okX10 24 rfl wF_X10_282 (is10 hnn) dX10_hangsRows_95 ?_
        refine a_iconst (pc := 98) X9 dX10_hangsRows_98 ?_
        refine a_icmp_ne (pc := 99) (tgt := 106) X9 dX10_hangsRows_99 rfl (hG_7 _ _) (by decide) (fun c => ?_) (fun c => ?_)
        · have c_4 := c
          have h := h.1 c_4
          refine a_aload_n (pc := 106) X9 dX10_hangsRows_106 rfl rfl ?_
          refine a_getI (pc := 107) X9 okX10 24 rfl wF_X10_282 (is10 hnn) dX10_hangsRows_107 ?_
          refine a_putI (pc := 110) X9 okX10 24 rfl rfl (v := (G_7 272 24)) wF_X10_282 (is10 hnn) dX10_hangsRows_110 (hG_7 _ _) (fit_int _) (fun _ => ?_)
          obtain ⟨G_8, eG_8⟩ : ∃ G9, G9 = upG G_7 272 24 (G_7 272 24) := ⟨_, rfl⟩
          have hG_8 : GR G_8 := by rw [eG_8]; exact (GR.up hG_7 (hG_7 _ _))
          have h := h G_8 eG_8
          rw [← eG_8]
          refine a_iinc (pc := 113) X9 dX10_hangsRows_113 rfl (Nat.le_of_ble_eq_true rfl) rfl rfl ?_
          refine a_goto (pc := 116) (tgt := 17) X9 dX10_hangsRows_116 rfl ?_
          have q_1 : inR (r_1) := hr_1
          have q_2 : inR (x2_1) := h_x2_1
          have g_2 : inR ((x2_1 + 1)) := ⟨by omega, by omega⟩
          refine AW.drop 3 rfl ?_
          exact hk_1 _ _ h g_2 hG_8
        · have c_4 := c
          have h := h.2 c_4
          refine a_iload_n (pc := 102) X9 dX10_hangsRows_102 rfl rfl ?_
          refine a_goto (pc := 103) (tgt := 110) X9 dX10_hangsRows_103 rfl ?_
          refine a_putI (pc := 110) X9 okX10 24 rfl rfl (v := x2_1) wF_X10_282 (is10 hnn) dX10_hangsRows_110 h_x2_1 (fit_int _) (fun _ => ?_)
          obtain ⟨G_9, eG_9⟩ : ∃ G9, G9 = upG G_7 272 24 x2_1 := ⟨_, rfl⟩
          have hG_9 : GR G_9 := by rw [eG_9]; exact (GR.up hG_7 h_x2_1)
          have h := h G_9 eG_9
          rw [← eG_9]
          refine a_iinc (pc := 113) X9 dX10_hangsRows_113 rfl (Nat.le_of_ble_eq_true rfl) rfl rfl ?_
          refine a_goto (pc := 116) (tgt := 17) X9 dX10_hangsRows_116 rfl ?_
          have q_3 : inR (r_1) := hr_1
          have q_4 : inR (x2_1) := h_x2_1
          have g_3 : inR ((x2_1 + 1)) := ⟨by omega, by omega⟩
          refine AW.drop 3 rfl ?_
          exact hk_1 _ _ h g_3 hG_9
      · have c_3 := c
        have h := h.2 c_3
        refine a_aload_n (pc := 53) X9 dX10_hangsRows_53 rfl rfl ?_
        refine a_getR (pc := 54) X9 (q := 273) okX10 1 rfl wF_X10_9 (is10 hnn) rf10_1 dX10_hangsRows_54 ?_
        refine a_sipush (pc := 57) X9 dX10_hangsRows_57 rfl ?_
        refine a_iload_n (pc := 60) X9 dX10_hangsRows_60 rfl rfl ?_
        refine a_iadd (pc := 61) X9 dX10_hangsRows_61 ?_
        refine a_iload_n (pc := 62) X9 dX10_hangsRows_62 rfl rfl ?_
        obtain ⟨g_4, h⟩ := h
        refine b_iast (pc := 63) X9 (i := (438 + x2_1)) (v := r_2) (ar10_1 hnn) (Nat.le_of_ble_eq_true rfl) g_4 hr_2 dX10_hangsRows_63 ?_
        obtain ⟨G_10, eG_10⟩ : ∃ G9, G9 = upG G_5 273 ((438 + x2_1)).toNat r_2 := ⟨_, rfl⟩
        have hG_10 : GR G_10 := by rw [eG_10]; exact (GR.up hG_5 hr_2)
        have h := h G_10 eG_10
        rw [← eG_10]
        refine a_aload_n (pc := 64) X9 dX10_hangsRows_64 rfl rfl ?_
        refine a_dup (pc := 65) X9 dX10_hangsRows_65 rfl ?_
        refine a_getI (pc := 66) X9 okX10 22 rfl wF_X10_276 (is10 hnn) dX10_hangsRows_66 ?_
        refine a_iconst (pc := 69) X9 dX10_hangsRows_69 ?_
        refine a_iadd (pc := 70) X9 dX10_hangsRows_70 ?_
        obtain ⟨g_5, h⟩ := h
        refine a_putI (pc := 71) X9 okX10 22 rfl rfl (v := ((G_10 272 22) + 1)) wF_X10_276 (is10 hnn) dX10_hangsRows_71 g_5 (fit_int _) (fun _ => ?_)
        obtain ⟨G_11, eG_11⟩ : ∃ G9, G9 = upG G_10 272 22 ((G_10 272 22) + 1) := ⟨_, rfl⟩
        have hG_11 : GR G_11 := by rw [eG_11]; exact (GR.up hG_10 g_5)
        have h := h G_11 eG_11
        rw [← eG_11]
        refine a_goto (pc := 74) (tgt := 113) X9 dX10_hangsRows_74 rfl ?_
        refine a_iinc (pc := 113) X9 dX10_hangsRows_113 rfl (Nat.le_of_ble_eq_true rfl) rfl rfl ?_
        refine a_goto (pc := 116) (tgt := 17) X9 dX10_hangsRows_116 rfl ?_
        have q_5 : inR (r_1) := hr_1
        have q_6 : inR (x2_1) := h_x2_1
        have g_6 : inR ((x2_1 + 1)) := ⟨by omega, by omega⟩
        refine AW.drop 3 rfl ?_
        exact hk_1 _ _ h g_6 hG_11
    · have c_2 := c
      have h := h.2 c_2
      refine a_goto (pc := 37) (tgt := 113) X9 dX10_hangsRows_37 rfl ?_
      refine a_iinc (pc := 113) X9 dX10_hangsRows_113 rfl (Nat.le_of_ble_eq_true rfl) rfl rfl ?_
      refine a_goto (pc := 116) (tgt := 17) X9 dX10_hangsRows_116 rfl ?_
      have q_7 : inR (r_1) := hr_1
      have q_8 : inR (x2_1) := h_x2_1
      have g_7 : inR ((x2_1 + 1)) := ⟨by omega, by omega⟩
      refine AW.drop 3 rfl ?_
      exact hk_1 _ _ h g_7 hG_4
set_option maxHeartbeats 4000000 in
set_option maxRecDepth 100000 in
theorem m_X10_dueDigit {nn : Nat} {i1 : Int} {G : GH} {Q : Int → Prop} (hi1 : inR i1) (hnn : 285 ≤ nn) (h : f_X10_dueDigit i1 G Q) : Mt yX10_dueDigit cX10_dueDigit 5 (some .int) 0 0 0 0 [vr 272, vi i1] (SF nn) G (fun v S' G' => S' = SF nn ∧ qI (fun r9 G9 => G9 = G ∧ Q r9) v S' G') (fun E S' G' => S' = SF nn ∧ False) := by
  refine Mt.of (l0 := [some (vr 272), some (vi i1), none, none, none]) (by decide) (Nat.le_of_ble_eq_true rfl) rfl ?_
  intro κ δ ρ0 X9 E hG
  replace X9 : CX κ δ RX10 cX10_dueDigit 5 (some .int) := X9
  refine a_aload_n (pc := 0) X9 dX10_dueDigit_0 rfl rfl ?_
  refine a_getR (pc := 1) X9 (q := 273) okX10 1 rfl wF_X10_9 (is10 hnn) rf10_1 dX10_dueDigit_1 ?_
  refine a_sipush (pc := 4) X9 dX10_dueDigit_4 rfl ?_
  refine a_iload_n (pc := 7) X9 dX10_dueDigit_7 rfl rfl ?_
  refine a_iconst (pc := 8) X9 dX10_dueDigit_8 ?_
  obtain ⟨g_1, h⟩ := h
  refine a_idiv (pc := 9) X9 dX10_dueDigit_9 ⟨g_1, hi1.2⟩ ⟨(by decide), (by decide)⟩ ?_
  refine a_iadd (pc := 10) X9 dX10_dueDigit_10 ?_
  obtain ⟨g_2, h⟩ := h
  refine b_iald (pc := 11) X9 (ar10_1 hnn) (Nat.le_of_ble_eq_true rfl) g_2 dX10_dueDigit_11 ?_
  refine a_istore_n (pc := 12) X9 dX10_dueDigit_12 rfl (Nat.le_of_ble_eq_true rfl) rfl rfl ?_
  refine a_iload_n (pc := 13) X9 dX10_dueDigit_13 rfl rfl ?_
  refine a_iconst (pc := 14) X9 dX10_dueDigit_14 ?_
  refine a_icmp_ne (pc := 15) (tgt := 20) X9 dX10_dueDigit_15 rfl (hG _ _) (by decide) (fun c => ?_) (fun c => ?_)
  · have c_1 := c
    have h := h.1 c_1
    refine a_iload_n (pc := 20) X9 dX10_dueDigit_20 rfl rfl ?_
    refine a_iconst (pc := 21) X9 dX10_dueDigit_21 ?_
    refine a_irem (pc := 22) X9 dX10_dueDigit_22 ⟨g_1, hi1.2⟩ ⟨(by decide), (by decide)⟩ ?_
    refine a_istore_n (pc := 23) X9 dX10_dueDigit_23 rfl (Nat.le_of_ble_eq_true rfl) rfl rfl ?_
    refine a_iload_n (pc := 24) X9 dX10_dueDigit_24 rfl rfl ?_
    refine joinM1 (A := fun v_1 => inR v_1 → AW κ δ ρ0 nn 5 0 0 44 [some (vr 272), some (vi i1), some (vi (G 273 ((438 + (i1 / 3))).toNat)), some (vi (i1 % 3)), none] [vi v_1] (SF nn) G) (fun v_1 h h_v_1 => ?_) (fun j_1 hj_1 h => ?_) h
    · refine a_istore (pc := 44) X9 dX10_dueDigit_44 (Nat.le_of_ble_eq_true rfl) rfl rfl ?_
      refine a_iload_n (pc := 46) X9 dX10_dueDigit_46 rfl rfl ?_
      refine a_iload (pc := 47) X9 dX10_dueDigit_47 rfl ?_
      refine a_icmp_ge (pc := 49) (tgt := 56) X9 dX10_dueDigit_49 rfl (hG _ _) h_v_1 (fun c => ?_) (fun c => ?_)
      · have c_4 := c
        have h := h.1 c_4
        refine a_iload_n (pc := 56) X9 dX10_dueDigit_56 rfl rfl ?_
        refine a_iload (pc := 57) X9 dX10_dueDigit_57 rfl ?_
        obtain ⟨g_3, h⟩ := h
        obtain ⟨g_4, h⟩ := h
        refine a_idiv (pc := 59) X9 dX10_dueDigit_59 ⟨g_3, (hG _ _).2⟩ ⟨g_4, h_v_1.2⟩ ?_
        refine a_bipush (pc := 60) X9 dX10_dueDigit_60 rfl ?_
        obtain ⟨g_5, h⟩ := h
        refine a_irem (pc := 62) X9 dX10_dueDigit_62 ⟨g_5, (inR_div (hG _ _) g_3 g_4).2⟩ ⟨(by decide), (by decide)⟩ ?_
        exact a_ireturn (pc := 63) X9 E rfl rfl (Nat.le_of_ble_eq_true rfl) (Nat.le_of_ble_eq_true rfl) dX10_dueDigit_63 ⟨rfl, _, rfl, (inR_mod g_5 (by decide) (by decide)), rfl, h⟩
      · have c_4 := c
        have h := h.2 c_4
        refine a_iconst (pc := 52) X9 dX10_dueDigit_52 ?_
        refine a_goto (pc := 53) (tgt := 63) X9 dX10_dueDigit_53 rfl ?_
        exact a_ireturn (pc := 63) X9 E rfl rfl (Nat.le_of_ble_eq_true rfl) (Nat.le_of_ble_eq_true rfl) dX10_dueDigit_63 ⟨rfl, _, rfl, (show inR (-1) by decide), rfl, h⟩
    · refine a_if_ne (pc := 25) (tgt := 33) X9 dX10_dueDigit_25 rfl (inR_mod g_1 (by decide) (by decide)) (fun c => ?_) (fun c => ?_)
      · have c_5 := c
        have h := h.1 c_5
        refine a_iload_n (pc := 33) X9 dX10_dueDigit_33 rfl rfl ?_
        refine a_iconst (pc := 34) X9 dX10_dueDigit_34 ?_
        refine a_icmp_ne (pc := 35) (tgt := 43) X9 dX10_dueDigit_35 rfl (inR_mod g_1 (by decide) (by decide)) (by decide) (fun c => ?_) (fun c => ?_)
        · have c_6 := c
          have h := h.1 c_6
          refine a_iconst (pc := 43) X9 dX10_dueDigit_43 ?_
          exact hj_1 _ h (by decide)
        · have c_6 := c
          have h := h.2 c_6
          refine a_bipush (pc := 38) X9 dX10_dueDigit_38 rfl ?_
          refine a_goto (pc := 40) (tgt := 44) X9 dX10_dueDigit_40 rfl ?_
          exact hj_1 _ h (by decide)
      · have c_5 := c
        have h := h.2 c_5
        refine a_bipush (pc := 28) X9 dX10_dueDigit_28 rfl ?_
        refine a_goto (pc := 30) (tgt := 44) X9 dX10_dueDigit_30 rfl ?_
        exact hj_1 _ h (by decide)
  · have c_1 := c
    have h := h.2 c_1
    refine a_iconst (pc := 18) X9 dX10_dueDigit_18 ?_
    exact a_ireturn (pc := 19) X9 E rfl rfl (Nat.le_of_ble_eq_true rfl) (Nat.le_of_ble_eq_true rfl) dX10_dueDigit_19 ⟨rfl, _, rfl, (show inR (-1) by decide), rfl, h⟩
set_option maxHeartbeats 4000000 in
set_option maxRecDepth 100000 in
theorem m_X10_gives {nn : Nat} {i1 : Int} {i2 : Int} {i3 : Int} {G : GH} {Q : Int → GH → Prop} (hi1 : inR i1) (hi2 : inR i2) (hi3 : inR i3) (hnn : 285 ≤ nn) (h : f_X10_gives i1 i2 i3 G Q) : Mt yX10_gives cX10_gives 6 (some .boolean) 4 88 0 0 [vr 272, vi i1, vi i2, vi i3] (SF nn) G (fun v S' G' => S' = SF nn ∧ qZ Q v S' G') (fun E S' G' => S' = SF nn ∧ False) := by
  refine Mt.of (l0 := [some (vr 272), some (vi i1), some (vi i2), some (vi i3), none, none]) (by decide) (Nat.le_of_ble_eq_true rfl) rfl ?_
  intro κ δ ρ0 X9 E hG
  replace X9 : CX κ δ RX10 cX10_gives 6 (some .boolean) := X9
  refine a_aload_n (pc := 0) X9 dX10_gives_0 rfl rfl ?_
  refine a_iload_n (pc := 1) X9 dX10_gives_1 rfl rfl ?_
  refine a_iload_n (pc := 2) X9 dX10_gives_2 rfl rfl ?_
  refine a_callV (pc := 3) X9 E (m_X10_wayOf hi3 hi2 hnn h) okX10 (is10 hnn) wM_X10_258 w_instanceMethod_X10_wayOf w_selects_X10_wayOf w_initialized_RX10 w_code_X10_wayOf cp_X10_wayOf pn_X10_wayOf rfl (Nat.le_of_ble_eq_true rfl) ⟨Nat.le_of_ble_eq_true rfl, Nat.le_of_ble_eq_true rfl⟩ ⟨Nat.le_of_ble_eq_true rfl, Nat.le_of_ble_eq_true rfl⟩ dX10_gives_3 (fun _ _ q => False.elim q) (kIp (fun r_1 hr_1 h => ?_))
  refine a_istore (pc := 6) X9 dX10_gives_6 (Nat.le_of_ble_eq_true rfl) rfl rfl ?_
  refine a_aload_n (pc := 8) X9 dX10_gives_8 rfl rfl ?_
  refine a_getR (pc := 9) X9 (q := 282) okX10 20 rfl wF_X10_46 (is10 hnn) rf10_20 dX10_gives_9 ?_
  refine a_iload_n (pc := 12) X9 dX10_gives_12 rfl rfl ?_
  obtain ⟨g_1, h⟩ := h
  refine b_iald (pc := 13) X9 (ar10_20 hnn) (Nat.le_of_ble_eq_true rfl) g_1 dX10_gives_13 ?_
  refine a_if_eq (pc := 14) (tgt := 23) X9 dX10_gives_14 rfl (hG _ _) (fun c => ?_) (fun c => ?_)
  · have c_1 := c
    have h := h.1 c_1
    refine a_iconst (pc := 23) X9 dX10_gives_23 ?_
    exact a_ireturn (pc := 24) X9 E rfl (fit_bool (Or.inl rfl)).1 (Nat.le_of_ble_eq_true rfl) (Nat.le_of_ble_eq_true rfl) dX10_gives_24 ⟨rfl, _, rfl, (Or.inl rfl), h⟩
  · have c_1 := c
    have h := h.2 c_1
    refine a_iload (pc := 17) X9 dX10_gives_17 rfl ?_
    refine a_iconst (pc := 19) X9 dX10_gives_19 ?_
    refine a_icmp_ne (pc := 20) (tgt := 25) X9 dX10_gives_20 rfl hr_1 (by decide) (fun c => ?_) (fun c => ?_)
    · have c_2 := c
      have h := h.1 c_2
      refine a_aload_n (pc := 25) X9 dX10_gives_25 rfl rfl ?_
      refine a_iload_n (pc := 26) X9 dX10_gives_26 rfl rfl ?_
      refine a_callV (pc := 27) X9 E (m_X10_shows hi3 hnn h) okX10 (is10 hnn) wM_X10_264 w_instanceMethod_X10_shows w_selects_X10_shows w_initialized_RX10 w_code_X10_shows cp_X10_shows pn_X10_shows rfl (Nat.le_of_ble_eq_true rfl) ⟨Nat.le_of_ble_eq_true rfl, Nat.le_of_ble_eq_true rfl⟩ ⟨Nat.le_of_ble_eq_true rfl, Nat.le_of_ble_eq_true rfl⟩ dX10_gives_27 (fun _ _ q => False.elim q) (kIp (fun r_2 hr_2 h => ?_))
      refine a_istore (pc := 30) X9 dX10_gives_30 (Nat.le_of_ble_eq_true rfl) rfl rfl ?_
      refine a_aload_n (pc := 32) X9 dX10_gives_32 rfl rfl ?_
      refine a_iload (pc := 33) X9 dX10_gives_33 rfl ?_
      refine a_iconst (pc := 35) X9 dX10_gives_35 ?_
      refine a_callV (pc := 36) X9 E (m_X10_brings hr_2 (show inR (-1) by decide) hnn h) okX10 (is10 hnn) wM_X10_267 w_instanceMethod_X10_brings w_selects_X10_brings w_initialized_RX10 w_code_X10_brings cp_X10_brings pn_X10_brings rfl (Nat.le_of_ble_eq_true rfl) ⟨Nat.le_of_ble_eq_true rfl, Nat.le_of_ble_eq_true rfl⟩ ⟨Nat.le_of_ble_eq_true rfl, Nat.le_of_ble_eq_true rfl⟩ dX10_gives_36 (fun _ _ q => False.elim q) (kV (fun G_1 h hG_1 => ?_))
      refine a_aload_n (pc := 39) X9 dX10_gives_39 rfl rfl ?_
      refine a_callV (pc := 40) X9 E (m_X10_lack  hnn h) okX10 (is10 hnn) wM_X10_294 w_instanceMethod_X10_lack w_selects_X10_lack w_initialized_RX10 w_code_X10_lack cp_X10_lack pn_X10_lack rfl (Nat.le_of_ble_eq_true rfl) ⟨Nat.le_of_ble_eq_true rfl, Nat.le_of_ble_eq_true rfl⟩ ⟨Nat.le_of_ble_eq_true rfl, Nat.le_of_ble_eq_true rfl⟩ dX10_gives_40 (fun _ _ q => False.elim q) (kIp (fun r_4 hr_4 h => ?_))
      refine a_if_le (pc := 43) (tgt := 55) X9 dX10_gives_43 rfl hr_4 (fun c => ?_) (fun c => ?_)
      · have c_3 := c
        have h := h.1 c_3
        refine a_aload_n (pc := 55) X9 dX10_gives_55 rfl rfl ?_
        refine a_getR (pc := 56) X9 (q := 282) okX10 20 rfl wF_X10_46 (is10 hnn) rf10_20 dX10_gives_56 ?_
        refine a_iload_n (pc := 59) X9 dX10_gives_59 rfl rfl ?_
        refine a_dup2 (pc := 60) X9 dX10_gives_60 rfl rfl ?_
        refine b_iald (pc := 61) X9 (ar10_20 hnn) (Nat.le_of_ble_eq_true rfl) g_1 dX10_gives_61 ?_
        refine a_iconst (pc := 62) X9 dX10_gives_62 ?_
        refine a_isub (pc := 63) X9 dX10_gives_63 ?_
        obtain ⟨g_2, h⟩ := h
        refine b_iast (pc := 64) X9 (i := i3) (v := ((G_1 282 (i3).toNat) - 1)) (ar10_20 hnn) (Nat.le_of_ble_eq_true rfl) g_1 g_2 dX10_gives_64 ?_
        obtain ⟨G_2, eG_2⟩ : ∃ G9, G9 = upG G_1 282 (i3).toNat ((G_1 282 (i3).toNat) - 1) := ⟨_, rfl⟩
        have hG_2 : GR G_2 := by rw [eG_2]; exact (GR.up hG_1 g_2)
        have h := h G_2 eG_2
        rw [← eG_2]
        refine a_aload_n (pc := 65) X9 dX10_gives_65 rfl rfl ?_
        refine a_getR (pc := 66) X9 (q := 273) okX10 1 rfl wF_X10_9 (is10 hnn) rf10_1 dX10_gives_66 ?_
        refine a_iload_n (pc := 69) X9 dX10_gives_69 rfl rfl ?_
        refine a_iconst (pc := 70) X9 dX10_gives_70 ?_
        refine a_callS (pc := 71) X9 E (m_X10_placeAt hi1 (show inR 0 by decide) hnn h) wM_X10_234 w_static_X10_placeAt w_initialized_RX10 w_code_X10_placeAt cp_X10_placeAt pn_X10_placeAt rfl (Nat.le_of_ble_eq_true rfl) ⟨Nat.le_of_ble_eq_true rfl, Nat.le_of_ble_eq_true rfl⟩ ⟨Nat.le_of_ble_eq_true rfl, Nat.le_of_ble_eq_true rfl⟩ dX10_gives_71 (fun _ _ q => False.elim q) (kIp (fun r_5 hr_5 h => ?_))
        refine a_iload_n (pc := 74) X9 dX10_gives_74 rfl rfl ?_
        obtain ⟨g_3, h⟩ := h
        refine b_iast (pc := 75) X9 (i := r_5) (v := i2) (ar10_1 hnn) (Nat.le_of_ble_eq_true rfl) g_3 hi2 dX10_gives_75 ?_
        obtain ⟨G_3, eG_3⟩ : ∃ G9, G9 = upG G_2 273 (r_5).toNat i2 := ⟨_, rfl⟩
        have hG_3 : GR G_3 := by rw [eG_3]; exact (GR.up hG_2 hi2)
        have h := h G_3 eG_3
        rw [← eG_3]
        refine a_aload_n (pc := 76) X9 dX10_gives_76 rfl rfl ?_
        refine a_getR (pc := 77) X9 (q := 273) okX10 1 rfl wF_X10_9 (is10 hnn) rf10_1 dX10_gives_77 ?_
        refine a_iload_n (pc := 80) X9 dX10_gives_80 rfl rfl ?_
        refine a_iconst (pc := 81) X9 dX10_gives_81 ?_
        refine a_callS (pc := 82) X9 E (m_X10_placeAt hi1 (show inR 1 by decide) hnn h) wM_X10_234 w_static_X10_placeAt w_initialized_RX10 w_code_X10_placeAt cp_X10_placeAt pn_X10_placeAt rfl (Nat.le_of_ble_eq_true rfl) ⟨Nat.le_of_ble_eq_true rfl, Nat.le_of_ble_eq_true rfl⟩ ⟨Nat.le_of_ble_eq_true rfl, Nat.le_of_ble_eq_true rfl⟩ dX10_gives_82 (fun _ _ q => False.elim q) (kIp (fun r_6 hr_6 h => ?_))
        refine a_iload_n (pc := 85) X9 dX10_gives_85 rfl rfl ?_
        obtain ⟨g_4, h⟩ := h
        refine b_iast (pc := 86) X9 (i := r_6) (v := i3) (ar10_1 hnn) (Nat.le_of_ble_eq_true rfl) g_4 hi3 dX10_gives_86 ?_
        obtain ⟨G_4, eG_4⟩ : ∃ G9, G9 = upG G_3 273 (r_6).toNat i3 := ⟨_, rfl⟩
        have hG_4 : GR G_4 := by rw [eG_4]; exact (GR.up hG_3 hi3)
        have h := h G_4 eG_4
        rw [← eG_4]
        refine a_aload_n (pc := 87) X9 dX10_gives_87 rfl rfl ?_
        refine a_getR (pc := 88) X9 (q := 273) okX10 1 rfl wF_X10_9 (is10 hnn) rf10_1 dX10_gives_88 ?_
        refine a_iload_n (pc := 91) X9 dX10_gives_91 rfl rfl ?_
        refine a_iconst (pc := 92) X9 dX10_gives_92 ?_
        refine a_callS (pc := 93) X9 E (m_X10_placeAt hi1 (show inR 2 by decide) hnn h) wM_X10_234 w_static_X10_placeAt w_initialized_RX10 w_code_X10_placeAt cp_X10_placeAt pn_X10_placeAt rfl (Nat.le_of_ble_eq_true rfl) ⟨Nat.le_of_ble_eq_true rfl, Nat.le_of_ble_eq_true rfl⟩ ⟨Nat.le_of_ble_eq_true rfl, Nat.le_of_ble_eq_true rfl⟩ dX10_gives_93 (fun _ _ q => False.elim q) (kIp (fun r_7 hr_7 h => ?_))
        refine a_iload (pc := 96) X9 dX10_gives_96 rfl ?_
        obtain ⟨g_5, h⟩ := h
        refine b_iast (pc := 98) X9 (i := r_7) (v := r_1) (ar10_1 hnn) (Nat.le_of_ble_eq_true rfl) g_5 hr_1 dX10_gives_98 ?_
        obtain ⟨G_5, eG_5⟩ : ∃ G9, G9 = upG G_4 273 (r_7).toNat r_1 := ⟨_, rfl⟩
        have hG_5 : GR G_5 := by rw [eG_5]; exact (GR.up hG_4 hr_1)
        have h := h G_5 eG_5
        rw [← eG_5]
        refine a_iconst (pc := 99) X9 dX10_gives_99 ?_
        exact a_ireturn (pc := 100) X9 E rfl (fit_bool (Or.inr rfl)).1 (Nat.le_of_ble_eq_true rfl) (Nat.le_of_ble_eq_true rfl) dX10_gives_100 ⟨rfl, _, rfl, (Or.inr rfl), h⟩
      · have c_3 := c
        have h := h.2 c_3
        refine a_aload_n (pc := 46) X9 dX10_gives_46 rfl rfl ?_
        refine a_iload (pc := 47) X9 dX10_gives_47 rfl ?_
        refine a_iconst (pc := 49) X9 dX10_gives_49 ?_
        refine a_callV (pc := 50) X9 E (m_X10_brings hr_2 (show inR 1 by decide) hnn h) okX10 (is10 hnn) wM_X10_267 w_instanceMethod_X10_brings w_selects_X10_brings w_initialized_RX10 w_code_X10_brings cp_X10_brings pn_X10_brings rfl (Nat.le_of_ble_eq_true rfl) ⟨Nat.le_of_ble_eq_true rfl, Nat.le_of_ble_eq_true rfl⟩ ⟨Nat.le_of_ble_eq_true rfl, Nat.le_of_ble_eq_true rfl⟩ dX10_gives_50 (fun _ _ q => False.elim q) (kV (fun G_6 h hG_6 => ?_))
        refine a_iconst (pc := 53) X9 dX10_gives_53 ?_
        exact a_ireturn (pc := 54) X9 E rfl (fit_bool (Or.inl rfl)).1 (Nat.le_of_ble_eq_true rfl) (Nat.le_of_ble_eq_true rfl) dX10_gives_54 ⟨rfl, _, rfl, (Or.inl rfl), h⟩
    · have c_2 := c
      have h := h.2 c_2
      refine a_iconst (pc := 23) X9 dX10_gives_23 ?_
      exact a_ireturn (pc := 24) X9 E rfl (fit_bool (Or.inl rfl)).1 (Nat.le_of_ble_eq_true rfl) (Nat.le_of_ble_eq_true rfl) dX10_gives_24 ⟨rfl, _, rfl, (Or.inl rfl), h⟩
set_option maxHeartbeats 4000000 in
set_option maxRecDepth 100000 in
theorem m_X10_hangsPlaces {nn : Nat}  {G : GH} {Q : GH → Prop}  (hnn : 285 ≤ nn) (h : f_X10_hangsPlaces G Q) : Mt yX10_hangsPlaces cX10_hangsPlaces 4 none 5 113 0 0 [vr 272] (SF nn) G (fun v S' G' => S' = SF nn ∧ qV Q v S' G') (fun E S' G' => S' = SF nn ∧ False) := by
  refine Mt.of (l0 := [some (vr 272), none, none, none]) (by decide) (Nat.le_of_ble_eq_true rfl) rfl ?_
  intro κ δ ρ0 X9 E hG
  replace X9 : CX κ δ RX10 cX10_hangsPlaces 4 none := X9
  refine a_iconst (pc := 0) X9 dX10_hangsPlaces_0 ?_
  refine a_istore_n (pc := 1) X9 dX10_hangsPlaces_1 rfl (Nat.le_of_ble_eq_true rfl) rfl rfl ?_
  refine loopM2 (A := fun x1_1 G_1 => inR x1_1 → GR G_1 → AW κ δ ρ0 nn 4 0 0 2 [some (vr 272), some (vi x1_1), none, none] [] (SF nn) G_1) (fun k_1 hk_1 x1_1 G_1 h h_x1_1 hG_1 => ?_) _ _ h (by decide) hG
  refine a_iload_n (pc := 2) X9 dX10_hangsPlaces_2 rfl rfl ?_
  refine a_iconst (pc := 3) X9 dX10_hangsPlaces_3 ?_
  refine a_aload_n (pc := 4) X9 dX10_hangsPlaces_4 rfl rfl ?_
  refine a_callV (pc := 5) X9 E (m_X10_allRows  hnn h) okX10 (is10 hnn) wM_X10_285 w_instanceMethod_X10_allRows w_selects_X10_allRows w_initialized_RX10 w_code_X10_allRows cp_X10_allRows pn_X10_allRows rfl (Nat.le_of_ble_eq_true rfl) ⟨Nat.le_of_ble_eq_true rfl, Nat.le_of_ble_eq_true rfl⟩ ⟨Nat.le_of_ble_eq_true rfl, Nat.le_of_ble_eq_true rfl⟩ dX10_hangsPlaces_5 (fun _ _ q => False.elim q) (kIp (fun r_1 hr_1 h => ?_))
  refine a_imul (pc := 8) X9 dX10_hangsPlaces_8 ?_
  obtain ⟨g_1, h⟩ := h
  refine a_icmp_ge (pc := 9) (tgt := 56) X9 dX10_hangsPlaces_9 rfl h_x1_1 g_1 (fun c => ?_) (fun c => ?_)
  · have c_1 := c
    have h := h.1 c_1
    exact a_return (pc := 56) X9 E (Nat.le_of_ble_eq_true rfl) (Nat.le_of_ble_eq_true rfl) dX10_hangsPlaces_56 ⟨rfl, rfl, h⟩
  · have c_1 := c
    have h := h.2 c_1
    refine a_aload_n (pc := 12) X9 dX10_hangsPlaces_12 rfl rfl ?_
    refine a_iload_n (pc := 13) X9 dX10_hangsPlaces_13 rfl rfl ?_
    refine a_callV (pc := 14) X9 E (m_X10_dueDigit h_x1_1 hnn h) okX10 (is10 hnn) wM_X10_297 w_instanceMethod_X10_dueDigit w_selects_X10_dueDigit w_initialized_RX10 w_code_X10_dueDigit cp_X10_dueDigit pn_X10_dueDigit rfl (Nat.le_of_ble_eq_true rfl) ⟨Nat.le_of_ble_eq_true rfl, Nat.le_of_ble_eq_true rfl⟩ ⟨Nat.le_of_ble_eq_true rfl, Nat.le_of_ble_eq_true rfl⟩ dX10_hangsPlaces_14 (fun _ _ q => False.elim q) (kIp (fun r_2 hr_2 h => ?_))
    refine a_istore_n (pc := 17) X9 dX10_hangsPlaces_17 rfl (Nat.le_of_ble_eq_true rfl) rfl rfl ?_
    refine a_iload_n (pc := 18) X9 dX10_hangsPlaces_18 rfl rfl ?_
    refine a_iconst (pc := 19) X9 dX10_hangsPlaces_19 ?_
    refine a_icmp_ne (pc := 20) (tgt := 26) X9 dX10_hangsPlaces_20 rfl hr_2 (by decide) (fun c => ?_) (fun c => ?_)
    · have c_2 := c
      have h := h.1 c_2
      refine a_aload_n (pc := 26) X9 dX10_hangsPlaces_26 rfl rfl ?_
      refine a_iload_n (pc := 27) X9 dX10_hangsPlaces_27 rfl rfl ?_
      refine a_iconst (pc := 28) X9 dX10_hangsPlaces_28 ?_
      refine a_callV (pc := 29) X9 E (m_X10_wants hr_2 (show inR (-1) by decide) hnn h) okX10 (is10 hnn) wM_X10_261 w_instanceMethod_X10_wants w_selects_X10_wants w_initialized_RX10 w_code_X10_wants cp_X10_wants pn_X10_wants rfl (Nat.le_of_ble_eq_true rfl) ⟨Nat.le_of_ble_eq_true rfl, Nat.le_of_ble_eq_true rfl⟩ ⟨Nat.le_of_ble_eq_true rfl, Nat.le_of_ble_eq_true rfl⟩ dX10_hangsPlaces_29 (fun _ _ q => False.elim q) (kV (fun G_2 h hG_2 => ?_))
      refine a_iconst (pc := 32) X9 dX10_hangsPlaces_32 ?_
      refine a_istore_n (pc := 33) X9 dX10_hangsPlaces_33 rfl (Nat.le_of_ble_eq_true rfl) rfl rfl ?_
      refine loopM2 (A := fun x3_1 G_3 => inR x3_1 → GR G_3 → AW κ δ ρ0 nn 4 0 0 34 [some (vr 272), some (vi x1_1), some (vi r_2), some (vi x3_1)] [] (SF nn) G_3) (fun k_2 hk_2 x3_1 G_3 h h_x3_1 hG_3 => ?_) _ _ h (by decide) hG_2
      refine a_aload_n (pc := 34) X9 dX10_hangsPlaces_34 rfl rfl ?_
      refine a_iload_n (pc := 35) X9 dX10_hangsPlaces_35 rfl rfl ?_
      refine a_iload_n (pc := 36) X9 dX10_hangsPlaces_36 rfl rfl ?_
      refine a_iload_n (pc := 37) X9 dX10_hangsPlaces_37 rfl rfl ?_
      refine a_callV (pc := 38) X9 E (m_X10_gives h_x1_1 hr_2 h_x3_1 hnn h) okX10 (is10 hnn) wM_X10_300 w_instanceMethod_X10_gives w_selects_X10_gives w_initialized_RX10 w_code_X10_gives cp_X10_gives pn_X10_gives rfl (Nat.le_of_ble_eq_true rfl) ⟨Nat.le_of_ble_eq_true rfl, Nat.le_of_ble_eq_true rfl⟩ ⟨Nat.le_of_ble_eq_true rfl, Nat.le_of_ble_eq_true rfl⟩ dX10_hangsPlaces_38 (fun _ _ q => False.elim q) (kZ (fun r_4 G_4 hr_4 h hG_4 => ?_))
      refine a_if_ne (pc := 41) (tgt := 50) X9 dX10_hangsPlaces_41 rfl (bool_inR hr_4) (fun c => ?_) (fun c => ?_)
      · have c_3 := c
        have h := h.1 c_3
        refine a_iinc (pc := 50) X9 dX10_hangsPlaces_50 rfl (Nat.le_of_ble_eq_true rfl) rfl rfl ?_
        refine a_goto (pc := 53) (tgt := 2) X9 dX10_hangsPlaces_53 rfl ?_
        have q_1 : inR ((3 * r_1)) := g_1
        have q_2 : inR (x1_1) := h_x1_1
        have g_2 : inR ((x1_1 + 1)) := ⟨by omega, by omega⟩
        refine AW.drop 2 rfl ?_
        refine AW.drop 3 rfl ?_
        exact hk_1 _ _ h g_2 hG_4
      · have c_3 := c
        have h := h.2 c_3
        refine a_iinc (pc := 44) X9 dX10_hangsPlaces_44 rfl (Nat.le_of_ble_eq_true rfl) rfl rfl ?_
        refine a_goto (pc := 47) (tgt := 34) X9 dX10_hangsPlaces_47 rfl ?_
        obtain ⟨g_3, h⟩ := h
        exact hk_2 _ _ h g_3 hG_4
    · have c_2 := c
      have h := h.2 c_2
      refine a_goto (pc := 23) (tgt := 50) X9 dX10_hangsPlaces_23 rfl ?_
      refine a_iinc (pc := 50) X9 dX10_hangsPlaces_50 rfl (Nat.le_of_ble_eq_true rfl) rfl rfl ?_
      refine a_goto (pc := 53) (tgt := 2) X9 dX10_hangsPlaces_53 rfl ?_
      have q_3 : inR ((3 * r_1)) := g_1
      have q_4 : inR (x1_1) := h_x1_1
      have g_4 : inR ((x1_1 + 1)) := ⟨by omega, by omega⟩
      refine AW.drop 2 rfl ?_
      exact hk_1 _ _ h g_4 hG_1
set_option maxHeartbeats 4000000 in
set_option maxRecDepth 100000 in
theorem m_X10_workOf {nn : Nat} {i0 : Int} {i1 : Int} {G : GH} {Q : Int → Prop} (hi0 : inR i0) (hi1 : inR i1) (hnn : 285 ≤ nn) (h : f_X10_workOf i0 i1 Q) : Mt yX10_workOf cX10_workOf 2 (some .int) 0 0 0 0 [vi i0, vi i1] (SF nn) G (fun v S' G' => S' = SF nn ∧ qI (fun r9 G9 => G9 = G ∧ Q r9) v S' G') (fun E S' G' => S' = SF nn ∧ False) := by
  refine Mt.of (l0 := [some (vi i0), some (vi i1)]) (by decide) (Nat.le_of_ble_eq_true rfl) rfl ?_
  intro κ δ ρ0 X9 E hG
  replace X9 : CX κ δ RX10 cX10_workOf 2 (some .int) := X9
  refine a_iload_n (pc := 0) X9 dX10_workOf_0 rfl rfl ?_
  refine a_iload_n (pc := 1) X9 dX10_workOf_1 rfl rfl ?_
  refine a_icmp_ne (pc := 2) (tgt := 9) X9 dX10_workOf_2 rfl hi0 hi1 (fun c => ?_) (fun c => ?_)
  · have c_1 := c
    have h := h.1 c_1
    refine a_iload_n (pc := 9) X9 dX10_workOf_9 rfl rfl ?_
    refine a_iconst (pc := 10) X9 dX10_workOf_10 ?_
    refine joinM1 (A := fun v_1 => (v_1 = 0 ∨ v_1 = 1) → AW κ δ ρ0 nn 2 0 0 19 [some (vi i0), some (vi i1)] [vi v_1] (SF nn) G) (fun v_1 h h_v_1 => ?_) (fun j_1 hj_1 h => ?_) h
    · refine a_iload_n (pc := 19) X9 dX10_workOf_19 rfl rfl ?_
      refine a_iconst (pc := 20) X9 dX10_workOf_20 ?_
      refine a_icmp_ne (pc := 21) (tgt := 28) X9 dX10_workOf_21 rfl hi1 (by decide) (fun c => ?_) (fun c => ?_)
      · have c_3 := c
        have h := h.1 c_3
        refine a_iconst (pc := 28) X9 dX10_workOf_28 ?_
        refine a_iadd (pc := 29) X9 dX10_workOf_29 ?_
        obtain ⟨g_1, h⟩ := h
        exact a_ireturn (pc := 30) X9 E rfl rfl (Nat.le_of_ble_eq_true rfl) (Nat.le_of_ble_eq_true rfl) dX10_workOf_30 ⟨rfl, _, rfl, g_1, rfl, h⟩
      · have c_3 := c
        have h := h.2 c_3
        refine a_iconst (pc := 24) X9 dX10_workOf_24 ?_
        refine a_goto (pc := 25) (tgt := 29) X9 dX10_workOf_25 rfl ?_
        refine a_iadd (pc := 29) X9 dX10_workOf_29 ?_
        obtain ⟨g_2, h⟩ := h
        exact a_ireturn (pc := 30) X9 E rfl rfl (Nat.le_of_ble_eq_true rfl) (Nat.le_of_ble_eq_true rfl) dX10_workOf_30 ⟨rfl, _, rfl, g_2, rfl, h⟩
    · refine a_icmp_ne (pc := 11) (tgt := 18) X9 dX10_workOf_11 rfl hi0 (by decide) (fun c => ?_) (fun c => ?_)
      · have c_4 := c
        have h := h.1 c_4
        refine a_iconst (pc := 18) X9 dX10_workOf_18 ?_
        exact hj_1 _ h (Or.inr rfl)
      · have c_4 := c
        have h := h.2 c_4
        refine a_iconst (pc := 14) X9 dX10_workOf_14 ?_
        refine a_goto (pc := 15) (tgt := 19) X9 dX10_workOf_15 rfl ?_
        exact hj_1 _ h (Or.inl rfl)
  · have c_1 := c
    have h := h.2 c_1
    refine a_iconst (pc := 5) X9 dX10_workOf_5 ?_
    refine a_goto (pc := 6) (tgt := 30) X9 dX10_workOf_6 rfl ?_
    exact a_ireturn (pc := 30) X9 E rfl rfl (Nat.le_of_ble_eq_true rfl) (Nat.le_of_ble_eq_true rfl) dX10_workOf_30 ⟨rfl, _, rfl, (show inR 0 by decide), rfl, h⟩
set_option maxHeartbeats 4000000 in
set_option maxRecDepth 100000 in
theorem m_X10_hangsService {nn : Nat} {i1 : Int} {G : GH} {Q : Int → GH → Prop} (hi1 : inR i1) (hnn : 285 ≤ nn) (h : f_X10_hangsService i1 G Q) : Mt yX10_hangsService cX10_hangsService 3 (some .int) 6 136 0 0 [vr 272, vi i1] (SF nn) G (fun v S' G' => S' = SF nn ∧ qI Q v S' G') (fun E S' G' => S' = SF nn ∧ False) := by
  refine Mt.of (l0 := [some (vr 272), some (vi i1), none]) (by decide) (Nat.le_of_ble_eq_true rfl) rfl ?_
  intro κ δ ρ0 X9 E hG
  replace X9 : CX κ δ RX10 cX10_hangsService 3 (some .int) := X9
  refine a_iconst (pc := 0) X9 dX10_hangsService_0 ?_
  refine a_istore_n (pc := 1) X9 dX10_hangsService_1 rfl (Nat.le_of_ble_eq_true rfl) rfl rfl ?_
  refine loopM2 (A := fun x2_1 G_1 => inR x2_1 → GR G_1 → AW κ δ ρ0 nn 3 0 0 2 [some (vr 272), some (vi i1), some (vi x2_1)] [] (SF nn) G_1) (fun k_1 hk_1 x2_1 G_1 h h_x2_1 hG_1 => ?_) _ _ h (by decide) hG
  refine a_iload_n (pc := 2) X9 dX10_hangsService_2 rfl rfl ?_
  refine a_bipush (pc := 3) X9 dX10_hangsService_3 rfl ?_
  refine a_icmp_ge (pc := 5) (tgt := 30) X9 dX10_hangsService_5 rfl h_x2_1 (by decide) (fun c => ?_) (fun c => ?_)
  · have c_1 := c
    have h := h.1 c_1
    refine a_aload_n (pc := 30) X9 dX10_hangsService_30 rfl rfl ?_
    refine a_callV (pc := 31) X9 E (m_X10_takesDown  hnn h) okX10 (is10 hnn) wM_X10_61 w_instanceMethod_X10_takesDown w_selects_X10_takesDown w_initialized_RX10 w_code_X10_takesDown cp_X10_takesDown pn_X10_takesDown rfl (Nat.le_of_ble_eq_true rfl) ⟨Nat.le_of_ble_eq_true rfl, Nat.le_of_ble_eq_true rfl⟩ ⟨Nat.le_of_ble_eq_true rfl, Nat.le_of_ble_eq_true rfl⟩ dX10_hangsService_31 (fun _ _ q => False.elim q) (kV (fun G_2 h hG_2 => ?_))
    refine a_aload_n (pc := 34) X9 dX10_hangsService_34 rfl rfl ?_
    refine a_iconst (pc := 35) X9 dX10_hangsService_35 ?_
    refine a_callV (pc := 36) X9 E (m_X10_laysCards (show inR 0 by decide) hnn h) okX10 (is10 hnn) wM_X10_303 w_instanceMethod_X10_laysCards w_selects_X10_laysCards w_initialized_RX10 w_code_X10_laysCards cp_X10_laysCards pn_X10_laysCards rfl (Nat.le_of_ble_eq_true rfl) ⟨Nat.le_of_ble_eq_true rfl, Nat.le_of_ble_eq_true rfl⟩ ⟨Nat.le_of_ble_eq_true rfl, Nat.le_of_ble_eq_true rfl⟩ dX10_hangsService_36 (fun _ _ q => False.elim q) (kV (fun G_3 h hG_3 => ?_))
    refine a_aload_n (pc := 39) X9 dX10_hangsService_39 rfl rfl ?_
    refine a_iload_n (pc := 40) X9 dX10_hangsService_40 rfl rfl ?_
    refine a_callV (pc := 41) X9 E (m_X10_hangsRows hi1 hnn h) okX10 (is10 hnn) wM_X10_307 w_instanceMethod_X10_hangsRows w_selects_X10_hangsRows w_initialized_RX10 w_code_X10_hangsRows cp_X10_hangsRows pn_X10_hangsRows rfl (Nat.le_of_ble_eq_true rfl) ⟨Nat.le_of_ble_eq_true rfl, Nat.le_of_ble_eq_true rfl⟩ ⟨Nat.le_of_ble_eq_true rfl, Nat.le_of_ble_eq_true rfl⟩ dX10_hangsService_41 (fun _ _ q => False.elim q) (kV (fun G_4 h hG_4 => ?_))
    refine a_aload_n (pc := 44) X9 dX10_hangsService_44 rfl rfl ?_
    refine a_callV (pc := 45) X9 E (m_X10_hangsPlaces  hnn h) okX10 (is10 hnn) wM_X10_310 w_instanceMethod_X10_hangsPlaces w_selects_X10_hangsPlaces w_initialized_RX10 w_code_X10_hangsPlaces cp_X10_hangsPlaces pn_X10_hangsPlaces rfl (Nat.le_of_ble_eq_true rfl) ⟨Nat.le_of_ble_eq_true rfl, Nat.le_of_ble_eq_true rfl⟩ ⟨Nat.le_of_ble_eq_true rfl, Nat.le_of_ble_eq_true rfl⟩ dX10_hangsService_45 (fun _ _ q => False.elim q) (kV (fun G_5 h hG_5 => ?_))
    refine a_aload_n (pc := 48) X9 dX10_hangsService_48 rfl rfl ?_
    refine a_getR (pc := 49) X9 (q := 273) okX10 1 rfl wF_X10_9 (is10 hnn) rf10_1 dX10_hangsService_49 ?_
    refine a_bipush (pc := 52) X9 dX10_hangsService_52 rfl ?_
    refine a_iload_n (pc := 54) X9 dX10_hangsService_54 rfl rfl ?_
    refine a_iast (pc := 55) X9 (v := i1) (ar10_1 hnn) (Nat.le_of_ble_eq_true rfl) (j := 7) rfl (Nat.le_of_ble_eq_true rfl) hi1 dX10_hangsService_55 (fun _ => ?_)
    obtain ⟨G_6, eG_6⟩ : ∃ G9, G9 = upG G_5 273 7 i1 := ⟨_, rfl⟩
    have hG_6 : GR G_6 := by rw [eG_6]; exact (GR.up hG_5 hi1)
    have h := h G_6 eG_6
    rw [← eG_6]
    refine a_aload_n (pc := 56) X9 dX10_hangsService_56 rfl rfl ?_
    refine a_getR (pc := 57) X9 (q := 273) okX10 1 rfl wF_X10_9 (is10 hnn) rf10_1 dX10_hangsService_57 ?_
    refine a_bipush (pc := 60) X9 dX10_hangsService_60 rfl ?_
    refine a_dup2 (pc := 62) X9 dX10_hangsService_62 rfl rfl ?_
    refine a_iald (pc := 63) X9 (ar10_1 hnn) (Nat.le_of_ble_eq_true rfl) (j := 10) rfl (Nat.le_of_ble_eq_true rfl) dX10_hangsService_63 ?_
    refine a_aload_n (pc := 64) X9 dX10_hangsService_64 rfl rfl ?_
    refine a_getI (pc := 65) X9 okX10 22 rfl wF_X10_276 (is10 hnn) dX10_hangsService_65 ?_
    refine a_iadd (pc := 68) X9 dX10_hangsService_68 ?_
    obtain ⟨g_1, h⟩ := h
    refine a_iast (pc := 69) X9 (v := ((G_6 273 10) + (G_6 272 22))) (ar10_1 hnn) (Nat.le_of_ble_eq_true rfl) (j := 10) rfl (Nat.le_of_ble_eq_true rfl) g_1 dX10_hangsService_69 (fun _ => ?_)
    obtain ⟨G_7, eG_7⟩ : ∃ G9, G9 = upG G_6 273 10 ((G_6 273 10) + (G_6 272 22)) := ⟨_, rfl⟩
    have hG_7 : GR G_7 := by rw [eG_7]; exact (GR.up hG_6 g_1)
    have h := h G_7 eG_7
    rw [← eG_7]
    refine a_aload_n (pc := 70) X9 dX10_hangsService_70 rfl rfl ?_
    refine a_getR (pc := 71) X9 (q := 273) okX10 1 rfl wF_X10_9 (is10 hnn) rf10_1 dX10_hangsService_71 ?_
    refine a_bipush (pc := 74) X9 dX10_hangsService_74 rfl ?_
    refine a_dup2 (pc := 76) X9 dX10_hangsService_76 rfl rfl ?_
    refine a_iald (pc := 77) X9 (ar10_1 hnn) (Nat.le_of_ble_eq_true rfl) (j := 11) rfl (Nat.le_of_ble_eq_true rfl) dX10_hangsService_77 ?_
    refine a_aload_n (pc := 78) X9 dX10_hangsService_78 rfl rfl ?_
    refine a_getI (pc := 79) X9 okX10 23 rfl wF_X10_279 (is10 hnn) dX10_hangsService_79 ?_
    refine a_iadd (pc := 82) X9 dX10_hangsService_82 ?_
    obtain ⟨g_2, h⟩ := h
    refine a_iast (pc := 83) X9 (v := ((G_7 273 11) + (G_7 272 23))) (ar10_1 hnn) (Nat.le_of_ble_eq_true rfl) (j := 11) rfl (Nat.le_of_ble_eq_true rfl) g_2 dX10_hangsService_83 (fun _ => ?_)
    obtain ⟨G_8, eG_8⟩ : ∃ G9, G9 = upG G_7 273 11 ((G_7 273 11) + (G_7 272 23)) := ⟨_, rfl⟩
    have hG_8 : GR G_8 := by rw [eG_8]; exact (GR.up hG_7 g_2)
    have h := h G_8 eG_8
    rw [← eG_8]
    refine a_aload_n (pc := 84) X9 dX10_hangsService_84 rfl rfl ?_
    refine a_iconst (pc := 85) X9 dX10_hangsService_85 ?_
    refine a_putI (pc := 86) X9 okX10 25 rfl rfl (v := 0) wF_X10_313 (is10 hnn) dX10_hangsService_86 (by decide) (fit_int _) (fun _ => ?_)
    obtain ⟨G_9, eG_9⟩ : ∃ G9, G9 = upG G_8 272 25 0 := ⟨_, rfl⟩
    have hG_9 : GR G_9 := by rw [eG_9]; exact (GR.up hG_8 (by decide))
    have h := h G_9 eG_9
    rw [← eG_9]
    refine a_iconst (pc := 89) X9 dX10_hangsService_89 ?_
    refine a_istore_n (pc := 90) X9 dX10_hangsService_90 rfl (Nat.le_of_ble_eq_true rfl) rfl rfl ?_
    refine loopM2 (A := fun x2_2 G_10 => inR x2_2 → GR G_10 → AW κ δ ρ0 nn 3 0 0 91 [some (vr 272), some (vi i1), some (vi x2_2)] [] (SF nn) G_10) (fun k_2 hk_2 x2_2 G_10 h h_x2_2 hG_10 => ?_) _ _ h (by decide) hG_9
    refine a_iload_n (pc := 91) X9 dX10_hangsService_91 rfl rfl ?_
    refine a_bipush (pc := 92) X9 dX10_hangsService_92 rfl ?_
    refine a_icmp_ge (pc := 94) (tgt := 131) X9 dX10_hangsService_94 rfl h_x2_2 (by decide) (fun c => ?_) (fun c => ?_)
    · have c_2 := c
      have h := h.1 c_2
      refine a_aload_n (pc := 131) X9 dX10_hangsService_131 rfl rfl ?_
      refine a_getR (pc := 132) X9 (q := 273) okX10 1 rfl wF_X10_9 (is10 hnn) rf10_1 dX10_hangsService_132 ?_
      refine a_bipush (pc := 135) X9 dX10_hangsService_135 rfl ?_
      refine a_dup2 (pc := 137) X9 dX10_hangsService_137 rfl rfl ?_
      refine a_iald (pc := 138) X9 (ar10_1 hnn) (Nat.le_of_ble_eq_true rfl) (j := 9) rfl (Nat.le_of_ble_eq_true rfl) dX10_hangsService_138 ?_
      refine a_aload_n (pc := 139) X9 dX10_hangsService_139 rfl rfl ?_
      refine a_getI (pc := 140) X9 okX10 25 rfl wF_X10_313 (is10 hnn) dX10_hangsService_140 ?_
      refine a_iadd (pc := 143) X9 dX10_hangsService_143 ?_
      obtain ⟨g_3, h⟩ := h
      refine a_iast (pc := 144) X9 (v := ((G_10 273 9) + (G_10 272 25))) (ar10_1 hnn) (Nat.le_of_ble_eq_true rfl) (j := 9) rfl (Nat.le_of_ble_eq_true rfl) g_3 dX10_hangsService_144 (fun _ => ?_)
      obtain ⟨G_11, eG_11⟩ : ∃ G9, G9 = upG G_10 273 9 ((G_10 273 9) + (G_10 272 25)) := ⟨_, rfl⟩
      have hG_11 : GR G_11 := by rw [eG_11]; exact (GR.up hG_10 g_3)
      have h := h G_11 eG_11
      rw [← eG_11]
      refine a_aload_n (pc := 145) X9 dX10_hangsService_145 rfl rfl ?_
      refine a_getI (pc := 146) X9 okX10 25 rfl wF_X10_313 (is10 hnn) dX10_hangsService_146 ?_
      exact a_ireturn (pc := 149) X9 E rfl rfl (Nat.le_of_ble_eq_true rfl) (Nat.le_of_ble_eq_true rfl) dX10_hangsService_149 ⟨rfl, _, rfl, (hG_11 _ _), h⟩
    · have c_2 := c
      have h := h.2 c_2
      refine a_aload_n (pc := 97) X9 dX10_hangsService_97 rfl rfl ?_
      refine a_dup (pc := 98) X9 dX10_hangsService_98 rfl ?_
      refine a_getI (pc := 99) X9 okX10 25 rfl wF_X10_313 (is10 hnn) dX10_hangsService_99 ?_
      refine a_aload_n (pc := 102) X9 dX10_hangsService_102 rfl rfl ?_
      refine a_getR (pc := 103) X9 (q := 283) okX10 21 rfl wF_X10_49 (is10 hnn) rf10_21 dX10_hangsService_103 ?_
      refine a_iload_n (pc := 106) X9 dX10_hangsService_106 rfl rfl ?_
      obtain ⟨g_4, h⟩ := h
      refine b_iald (pc := 107) X9 (ar10_21 hnn) (Nat.le_of_ble_eq_true rfl) g_4 dX10_hangsService_107 ?_
      refine a_aload_n (pc := 108) X9 dX10_hangsService_108 rfl rfl ?_
      refine a_getR (pc := 109) X9 (q := 273) okX10 1 rfl wF_X10_9 (is10 hnn) rf10_1 dX10_hangsService_109 ?_
      refine a_iload_n (pc := 112) X9 dX10_hangsService_112 rfl rfl ?_
      refine a_iconst (pc := 113) X9 dX10_hangsService_113 ?_
      refine a_callS (pc := 114) X9 E (m_X10_placeAt h_x2_2 (show inR 0 by decide) hnn h) wM_X10_234 w_static_X10_placeAt w_initialized_RX10 w_code_X10_placeAt cp_X10_placeAt pn_X10_placeAt rfl (Nat.le_of_ble_eq_true rfl) ⟨Nat.le_of_ble_eq_true rfl, Nat.le_of_ble_eq_true rfl⟩ ⟨Nat.le_of_ble_eq_true rfl, Nat.le_of_ble_eq_true rfl⟩ dX10_hangsService_114 (fun _ _ q => False.elim q) (kIp (fun r_5 hr_5 h => ?_))
      obtain ⟨g_5, h⟩ := h
      refine b_iald (pc := 117) X9 (ar10_1 hnn) (Nat.le_of_ble_eq_true rfl) g_5 dX10_hangsService_117 ?_
      refine a_callS (pc := 118) X9 E (m_X10_workOf (hG_10 _ _) (hG_10 _ _) hnn h) wM_X10_316 w_static_X10_workOf w_initialized_RX10 w_code_X10_workOf cp_X10_workOf pn_X10_workOf rfl (Nat.le_of_ble_eq_true rfl) ⟨Nat.le_of_ble_eq_true rfl, Nat.le_of_ble_eq_true rfl⟩ ⟨Nat.le_of_ble_eq_true rfl, Nat.le_of_ble_eq_true rfl⟩ dX10_hangsService_118 (fun _ _ q => False.elim q) (kIp (fun r_6 hr_6 h => ?_))
      refine a_iadd (pc := 121) X9 dX10_hangsService_121 ?_
      obtain ⟨g_6, h⟩ := h
      refine a_putI (pc := 122) X9 okX10 25 rfl rfl (v := ((G_10 272 25) + r_6)) wF_X10_313 (is10 hnn) dX10_hangsService_122 g_6 (fit_int _) (fun _ => ?_)
      obtain ⟨G_12, eG_12⟩ : ∃ G9, G9 = upG G_10 272 25 ((G_10 272 25) + r_6) := ⟨_, rfl⟩
      have hG_12 : GR G_12 := by rw [eG_12]; exact (GR.up hG_10 g_6)
      have h := h G_12 eG_12
      rw [← eG_12]
      refine a_iinc (pc := 125) X9 dX10_hangsService_125 rfl (Nat.le_of_ble_eq_true rfl) rfl rfl ?_
      refine a_goto (pc := 128) (tgt := 91) X9 dX10_hangsService_128 rfl ?_
      have q_1 : inR (x2_2) := h_x2_2
      have g_7 : inR ((x2_2 + 1)) := ⟨by omega, by omega⟩
      exact hk_2 _ _ h g_7 hG_12
  · have c_1 := c
    have h := h.2 c_1
    refine a_aload_n (pc := 8) X9 dX10_hangsService_8 rfl rfl ?_
    refine a_getR (pc := 9) X9 (q := 283) okX10 21 rfl wF_X10_49 (is10 hnn) rf10_21 dX10_hangsService_9 ?_
    refine a_iload_n (pc := 12) X9 dX10_hangsService_12 rfl rfl ?_
    refine a_aload_n (pc := 13) X9 dX10_hangsService_13 rfl rfl ?_
    refine a_getR (pc := 14) X9 (q := 273) okX10 1 rfl wF_X10_9 (is10 hnn) rf10_1 dX10_hangsService_14 ?_
    refine a_iload_n (pc := 17) X9 dX10_hangsService_17 rfl rfl ?_
    refine a_iconst (pc := 18) X9 dX10_hangsService_18 ?_
    refine a_callS (pc := 19) X9 E (m_X10_placeAt h_x2_1 (show inR 0 by decide) hnn h) wM_X10_234 w_static_X10_placeAt w_initialized_RX10 w_code_X10_placeAt cp_X10_placeAt pn_X10_placeAt rfl (Nat.le_of_ble_eq_true rfl) ⟨Nat.le_of_ble_eq_true rfl, Nat.le_of_ble_eq_true rfl⟩ ⟨Nat.le_of_ble_eq_true rfl, Nat.le_of_ble_eq_true rfl⟩ dX10_hangsService_19 (fun _ _ q => False.elim q) (kIp (fun r_7 hr_7 h => ?_))
    obtain ⟨g_8, h⟩ := h
    refine b_iald (pc := 22) X9 (ar10_1 hnn) (Nat.le_of_ble_eq_true rfl) g_8 dX10_hangsService_22 ?_
    obtain ⟨g_9, h⟩ := h
    refine b_iast (pc := 23) X9 (i := x2_1) (v := (G_1 273 (r_7).toNat)) (ar10_21 hnn) (Nat.le_of_ble_eq_true rfl) g_9 (hG_1 _ _) dX10_hangsService_23 ?_
    obtain ⟨G_13, eG_13⟩ : ∃ G9, G9 = upG G_1 283 (x2_1).toNat (G_1 273 (r_7).toNat) := ⟨_, rfl⟩
    have hG_13 : GR G_13 := by rw [eG_13]; exact (GR.up hG_1 (hG_1 _ _))
    have h := h G_13 eG_13
    rw [← eG_13]
    refine a_iinc (pc := 24) X9 dX10_hangsService_24 rfl (Nat.le_of_ble_eq_true rfl) rfl rfl ?_
    refine a_goto (pc := 27) (tgt := 2) X9 dX10_hangsService_27 rfl ?_
    have q_2 : inR (x2_1) := h_x2_1
    have g_10 : inR ((x2_1 + 1)) := ⟨by omega, by omega⟩
    exact hk_1 _ _ h g_10 hG_13
set_option maxHeartbeats 4000000 in
set_option maxRecDepth 100000 in
theorem m_X10_size {nn : Nat} {i1 : Int} {G : GH} {Q : Int → GH → Prop} (hi1 : inR i1) (hnn : 285 ≤ nn) (h : f_X10_size i1 G Q) : Mt yX10_size cX10_size 2 (some .int) 3 64 0 0 [vr 272, vi i1] (SF nn) G (fun v S' G' => S' = SF nn ∧ qI Q v S' G') (fun E S' G' => S' = SF nn ∧ False) := by
  refine Mt.of (l0 := [some (vr 272), some (vi i1)]) (by decide) (Nat.le_of_ble_eq_true rfl) rfl ?_
  intro κ δ ρ0 X9 E hG
  replace X9 : CX κ δ RX10 cX10_size 2 (some .int) := X9
  refine a_aload_n (pc := 0) X9 dX10_size_0 rfl rfl ?_
  refine a_iload_n (pc := 1) X9 dX10_size_1 rfl rfl ?_
  refine a_i2l (pc := 2) X9 dX10_size_2 hi1 ?_
  refine a_lconst (pc := 3) X9 0 dX10_size_3 rfl ?_
  refine a_ldc2 (pc := 4) X9 (n := 14) wCL_X10_319 dX10_size_4 (by decide +kernel) ?_
  refine a_callS (pc := 7) X9 E (m_X10_in (inR_inL hi1) (show inL 0 by decide) (show inL 14 by decide) hnn h) wM_X10_92 w_static_X10_in w_initialized_RX10 w_code_X10_in cp_X10_in pn_X10_in rfl (Nat.le_of_ble_eq_true rfl) ⟨Nat.le_of_ble_eq_true rfl, Nat.le_of_ble_eq_true rfl⟩ ⟨Nat.le_of_ble_eq_true rfl, Nat.le_of_ble_eq_true rfl⟩ dX10_size_7 (fun _ _ q => False.elim q) (kZp (fun r_1 hr_1 h => ?_))
  refine joinM1 (A := fun v_1 => (v_1 = 0 ∨ v_1 = 1) → AW κ δ ρ0 nn 2 0 0 18 [some (vr 272), some (vi i1)] [vi v_1, vr 272] (SF nn) G) (fun v_1 h h_v_1 => ?_) (fun j_1 hj_1 h => ?_) h
  · refine a_callV (pc := 18) X9 E (m_X10_wrong (bool_inR h_v_1) hnn h) okX10 (is10 hnn) wM_X10_321 w_instanceMethod_X10_wrong w_selects_X10_wrong w_initialized_RX10 w_code_X10_wrong cp_X10_wrong pn_X10_wrong rfl (Nat.le_of_ble_eq_true rfl) ⟨Nat.le_of_ble_eq_true rfl, Nat.le_of_ble_eq_true rfl⟩ ⟨Nat.le_of_ble_eq_true rfl, Nat.le_of_ble_eq_true rfl⟩ dX10_size_18 (fun _ _ q => False.elim q) (kZ (fun r_2 G_1 hr_2 h hG_1 => ?_))
    refine a_if_eq (pc := 21) (tgt := 26) X9 dX10_size_21 rfl (bool_inR hr_2) (fun c => ?_) (fun c => ?_)
    · have c_2 := c
      have h := h.1 c_2
      refine a_iload_n (pc := 26) X9 dX10_size_26 rfl rfl ?_
      have c_3 : (i1 < 0 ∨ 13 < i1) ∨ i1 = 0 ∨ i1 = 1 ∨ i1 = 2 ∨ i1 = 3 ∨ i1 = 4 ∨ i1 = 5 ∨ i1 = 6 ∨ i1 = 7 ∨ i1 = 8 ∨ i1 = 9 ∨ i1 = 10 ∨ i1 = 11 ∨ i1 = 12 ∨ i1 = 13 := by omega
      rcases c_3 with c_3 | c_3 | c_3 | c_3 | c_3 | c_3 | c_3 | c_3 | c_3 | c_3 | c_3 | c_3 | c_3 | c_3 | c_3
      · refine a_tableOut (pc := 27) (tgt := 196) X9 dX10_size_27 hi1 c_3 rfl ?_
        have h := h.1 c_3
        refine a_aload_n (pc := 196) X9 dX10_size_196 rfl rfl ?_
        refine a_getI (pc := 197) X9 okX10 6 rfl wF_X10_64 (is10 hnn) dX10_size_197 ?_
        exact a_ireturn (pc := 200) X9 E rfl rfl (Nat.le_of_ble_eq_true rfl) (Nat.le_of_ble_eq_true rfl) dX10_size_200 ⟨rfl, _, rfl, (hG_1 _ _), h⟩
      · refine a_tableIn (pc := 27) (tgt := 96) X9 dX10_size_27 hi1 (by omega) (by omega) (by rw [c_3]; rfl) rfl ?_
        have h := h.2.1 c_3
        refine a_aload_n (pc := 96) X9 dX10_size_96 rfl rfl ?_
        refine a_getR (pc := 97) X9 (q := 273) okX10 1 rfl wF_X10_9 (is10 hnn) rf10_1 dX10_size_97 ?_
        refine a_iconst (pc := 100) X9 dX10_size_100 ?_
        refine a_iald (pc := 101) X9 (ar10_1 hnn) (Nat.le_of_ble_eq_true rfl) (j := 0) rfl (Nat.le_of_ble_eq_true rfl) dX10_size_101 ?_
        exact a_ireturn (pc := 102) X9 E rfl rfl (Nat.le_of_ble_eq_true rfl) (Nat.le_of_ble_eq_true rfl) dX10_size_102 ⟨rfl, _, rfl, (hG_1 _ _), h⟩
      · refine a_tableIn (pc := 27) (tgt := 103) X9 dX10_size_27 hi1 (by omega) (by omega) (by rw [c_3]; rfl) rfl ?_
        have h := h.2.2.1 c_3
        refine a_aload_n (pc := 103) X9 dX10_size_103 rfl rfl ?_
        refine a_callV (pc := 104) X9 E (m_X10_allRows  hnn h) okX10 (is10 hnn) wM_X10_285 w_instanceMethod_X10_allRows w_selects_X10_allRows w_initialized_RX10 w_code_X10_allRows cp_X10_allRows pn_X10_allRows rfl (Nat.le_of_ble_eq_true rfl) ⟨Nat.le_of_ble_eq_true rfl, Nat.le_of_ble_eq_true rfl⟩ ⟨Nat.le_of_ble_eq_true rfl, Nat.le_of_ble_eq_true rfl⟩ dX10_size_104 (fun _ _ q => False.elim q) (kIp (fun r_3 hr_3 h => ?_))
        exact a_ireturn (pc := 107) X9 E rfl rfl (Nat.le_of_ble_eq_true rfl) (Nat.le_of_ble_eq_true rfl) dX10_size_107 ⟨rfl, _, rfl, hr_3, h⟩
      · refine a_tableIn (pc := 27) (tgt := 108) X9 dX10_size_27 hi1 (by omega) (by omega) (by rw [c_3]; rfl) rfl ?_
        have h := h.2.2.2.1 c_3
        refine a_aload_n (pc := 108) X9 dX10_size_108 rfl rfl ?_
        refine a_getR (pc := 109) X9 (q := 273) okX10 1 rfl wF_X10_9 (is10 hnn) rf10_1 dX10_size_109 ?_
        refine a_iconst (pc := 112) X9 dX10_size_112 ?_
        refine a_iald (pc := 113) X9 (ar10_1 hnn) (Nat.le_of_ble_eq_true rfl) (j := 1) rfl (Nat.le_of_ble_eq_true rfl) dX10_size_113 ?_
        exact a_ireturn (pc := 114) X9 E rfl rfl (Nat.le_of_ble_eq_true rfl) (Nat.le_of_ble_eq_true rfl) dX10_size_114 ⟨rfl, _, rfl, (hG_1 _ _), h⟩
      · refine a_tableIn (pc := 27) (tgt := 115) X9 dX10_size_27 hi1 (by omega) (by omega) (by rw [c_3]; rfl) rfl ?_
        have h := h.2.2.2.2.1 c_3
        refine a_aload_n (pc := 115) X9 dX10_size_115 rfl rfl ?_
        refine a_getR (pc := 116) X9 (q := 273) okX10 1 rfl wF_X10_9 (is10 hnn) rf10_1 dX10_size_116 ?_
        refine a_iconst (pc := 119) X9 dX10_size_119 ?_
        refine a_iald (pc := 120) X9 (ar10_1 hnn) (Nat.le_of_ble_eq_true rfl) (j := 2) rfl (Nat.le_of_ble_eq_true rfl) dX10_size_120 ?_
        exact a_ireturn (pc := 121) X9 E rfl rfl (Nat.le_of_ble_eq_true rfl) (Nat.le_of_ble_eq_true rfl) dX10_size_121 ⟨rfl, _, rfl, (hG_1 _ _), h⟩
      · refine a_tableIn (pc := 27) (tgt := 122) X9 dX10_size_27 hi1 (by omega) (by omega) (by rw [c_3]; rfl) rfl ?_
        have h := h.2.2.2.2.2.1 c_3
        refine a_aload_n (pc := 122) X9 dX10_size_122 rfl rfl ?_
        refine a_getR (pc := 123) X9 (q := 273) okX10 1 rfl wF_X10_9 (is10 hnn) rf10_1 dX10_size_123 ?_
        refine a_iconst (pc := 126) X9 dX10_size_126 ?_
        refine a_iald (pc := 127) X9 (ar10_1 hnn) (Nat.le_of_ble_eq_true rfl) (j := 3) rfl (Nat.le_of_ble_eq_true rfl) dX10_size_127 ?_
        exact a_ireturn (pc := 128) X9 E rfl rfl (Nat.le_of_ble_eq_true rfl) (Nat.le_of_ble_eq_true rfl) dX10_size_128 ⟨rfl, _, rfl, (hG_1 _ _), h⟩
      · refine a_tableIn (pc := 27) (tgt := 129) X9 dX10_size_27 hi1 (by omega) (by omega) (by rw [c_3]; rfl) rfl ?_
        have h := h.2.2.2.2.2.2.1 c_3
        refine a_aload_n (pc := 129) X9 dX10_size_129 rfl rfl ?_
        refine a_getR (pc := 130) X9 (q := 273) okX10 1 rfl wF_X10_9 (is10 hnn) rf10_1 dX10_size_130 ?_
        refine a_iconst (pc := 133) X9 dX10_size_133 ?_
        refine a_iald (pc := 134) X9 (ar10_1 hnn) (Nat.le_of_ble_eq_true rfl) (j := 4) rfl (Nat.le_of_ble_eq_true rfl) dX10_size_134 ?_
        exact a_ireturn (pc := 135) X9 E rfl rfl (Nat.le_of_ble_eq_true rfl) (Nat.le_of_ble_eq_true rfl) dX10_size_135 ⟨rfl, _, rfl, (hG_1 _ _), h⟩
      · refine a_tableIn (pc := 27) (tgt := 136) X9 dX10_size_27 hi1 (by omega) (by omega) (by rw [c_3]; rfl) rfl ?_
        have h := h.2.2.2.2.2.2.2.1 c_3
        refine a_aload_n (pc := 136) X9 dX10_size_136 rfl rfl ?_
        refine a_getR (pc := 137) X9 (q := 273) okX10 1 rfl wF_X10_9 (is10 hnn) rf10_1 dX10_size_137 ?_
        refine a_iconst (pc := 140) X9 dX10_size_140 ?_
        refine a_iald (pc := 141) X9 (ar10_1 hnn) (Nat.le_of_ble_eq_true rfl) (j := 5) rfl (Nat.le_of_ble_eq_true rfl) dX10_size_141 ?_
        exact a_ireturn (pc := 142) X9 E rfl rfl (Nat.le_of_ble_eq_true rfl) (Nat.le_of_ble_eq_true rfl) dX10_size_142 ⟨rfl, _, rfl, (hG_1 _ _), h⟩
      · refine a_tableIn (pc := 27) (tgt := 143) X9 dX10_size_27 hi1 (by omega) (by omega) (by rw [c_3]; rfl) rfl ?_
        have h := h.2.2.2.2.2.2.2.2.1 c_3
        refine a_aload_n (pc := 143) X9 dX10_size_143 rfl rfl ?_
        refine a_getR (pc := 144) X9 (q := 273) okX10 1 rfl wF_X10_9 (is10 hnn) rf10_1 dX10_size_144 ?_
        refine a_bipush (pc := 147) X9 dX10_size_147 rfl ?_
        refine a_iald (pc := 149) X9 (ar10_1 hnn) (Nat.le_of_ble_eq_true rfl) (j := 6) rfl (Nat.le_of_ble_eq_true rfl) dX10_size_149 ?_
        exact a_ireturn (pc := 150) X9 E rfl rfl (Nat.le_of_ble_eq_true rfl) (Nat.le_of_ble_eq_true rfl) dX10_size_150 ⟨rfl, _, rfl, (hG_1 _ _), h⟩
      · refine a_tableIn (pc := 27) (tgt := 151) X9 dX10_size_27 hi1 (by omega) (by omega) (by rw [c_3]; rfl) rfl ?_
        have h := h.2.2.2.2.2.2.2.2.2.1 c_3
        refine a_aload_n (pc := 151) X9 dX10_size_151 rfl rfl ?_
        refine a_getR (pc := 152) X9 (q := 273) okX10 1 rfl wF_X10_9 (is10 hnn) rf10_1 dX10_size_152 ?_
        refine a_bipush (pc := 155) X9 dX10_size_155 rfl ?_
        refine a_iald (pc := 157) X9 (ar10_1 hnn) (Nat.le_of_ble_eq_true rfl) (j := 7) rfl (Nat.le_of_ble_eq_true rfl) dX10_size_157 ?_
        exact a_ireturn (pc := 158) X9 E rfl rfl (Nat.le_of_ble_eq_true rfl) (Nat.le_of_ble_eq_true rfl) dX10_size_158 ⟨rfl, _, rfl, (hG_1 _ _), h⟩
      · refine a_tableIn (pc := 27) (tgt := 159) X9 dX10_size_27 hi1 (by omega) (by omega) (by rw [c_3]; rfl) rfl ?_
        have h := h.2.2.2.2.2.2.2.2.2.2.1 c_3
        refine a_aload_n (pc := 159) X9 dX10_size_159 rfl rfl ?_
        refine a_callV (pc := 160) X9 E (m_X10_allHanging  hnn h) okX10 (is10 hnn) wM_X10_325 w_instanceMethod_X10_allHanging w_selects_X10_allHanging w_initialized_RX10 w_code_X10_allHanging cp_X10_allHanging pn_X10_allHanging rfl (Nat.le_of_ble_eq_true rfl) ⟨Nat.le_of_ble_eq_true rfl, Nat.le_of_ble_eq_true rfl⟩ ⟨Nat.le_of_ble_eq_true rfl, Nat.le_of_ble_eq_true rfl⟩ dX10_size_160 (fun _ _ q => False.elim q) (kIp (fun r_4 hr_4 h => ?_))
        exact a_ireturn (pc := 163) X9 E rfl rfl (Nat.le_of_ble_eq_true rfl) (Nat.le_of_ble_eq_true rfl) dX10_size_163 ⟨rfl, _, rfl, hr_4, h⟩
      · refine a_tableIn (pc := 27) (tgt := 164) X9 dX10_size_27 hi1 (by omega) (by omega) (by rw [c_3]; rfl) rfl ?_
        have h := h.2.2.2.2.2.2.2.2.2.2.2.1 c_3
        refine a_aload_n (pc := 164) X9 dX10_size_164 rfl rfl ?_
        refine a_getR (pc := 165) X9 (q := 273) okX10 1 rfl wF_X10_9 (is10 hnn) rf10_1 dX10_size_165 ?_
        refine a_bipush (pc := 168) X9 dX10_size_168 rfl ?_
        refine a_iald (pc := 170) X9 (ar10_1 hnn) (Nat.le_of_ble_eq_true rfl) (j := 8) rfl (Nat.le_of_ble_eq_true rfl) dX10_size_170 ?_
        exact a_ireturn (pc := 171) X9 E rfl rfl (Nat.le_of_ble_eq_true rfl) (Nat.le_of_ble_eq_true rfl) dX10_size_171 ⟨rfl, _, rfl, (hG_1 _ _), h⟩
      · refine a_tableIn (pc := 27) (tgt := 172) X9 dX10_size_27 hi1 (by omega) (by omega) (by rw [c_3]; rfl) rfl ?_
        have h := h.2.2.2.2.2.2.2.2.2.2.2.2.1 c_3
        refine a_aload_n (pc := 172) X9 dX10_size_172 rfl rfl ?_
        refine a_getR (pc := 173) X9 (q := 273) okX10 1 rfl wF_X10_9 (is10 hnn) rf10_1 dX10_size_173 ?_
        refine a_bipush (pc := 176) X9 dX10_size_176 rfl ?_
        refine a_iald (pc := 178) X9 (ar10_1 hnn) (Nat.le_of_ble_eq_true rfl) (j := 9) rfl (Nat.le_of_ble_eq_true rfl) dX10_size_178 ?_
        exact a_ireturn (pc := 179) X9 E rfl rfl (Nat.le_of_ble_eq_true rfl) (Nat.le_of_ble_eq_true rfl) dX10_size_179 ⟨rfl, _, rfl, (hG_1 _ _), h⟩
      · refine a_tableIn (pc := 27) (tgt := 180) X9 dX10_size_27 hi1 (by omega) (by omega) (by rw [c_3]; rfl) rfl ?_
        have h := h.2.2.2.2.2.2.2.2.2.2.2.2.2.1 c_3
        refine a_aload_n (pc := 180) X9 dX10_size_180 rfl rfl ?_
        refine a_getR (pc := 181) X9 (q := 273) okX10 1 rfl wF_X10_9 (is10 hnn) rf10_1 dX10_size_181 ?_
        refine a_bipush (pc := 184) X9 dX10_size_184 rfl ?_
        refine a_iald (pc := 186) X9 (ar10_1 hnn) (Nat.le_of_ble_eq_true rfl) (j := 10) rfl (Nat.le_of_ble_eq_true rfl) dX10_size_186 ?_
        exact a_ireturn (pc := 187) X9 E rfl rfl (Nat.le_of_ble_eq_true rfl) (Nat.le_of_ble_eq_true rfl) dX10_size_187 ⟨rfl, _, rfl, (hG_1 _ _), h⟩
      · refine a_tableIn (pc := 27) (tgt := 188) X9 dX10_size_27 hi1 (by omega) (by omega) (by rw [c_3]; rfl) rfl ?_
        have h := h.2.2.2.2.2.2.2.2.2.2.2.2.2.2 c_3
        refine a_aload_n (pc := 188) X9 dX10_size_188 rfl rfl ?_
        refine a_getR (pc := 189) X9 (q := 273) okX10 1 rfl wF_X10_9 (is10 hnn) rf10_1 dX10_size_189 ?_
        refine a_bipush (pc := 192) X9 dX10_size_192 rfl ?_
        refine a_iald (pc := 194) X9 (ar10_1 hnn) (Nat.le_of_ble_eq_true rfl) (j := 11) rfl (Nat.le_of_ble_eq_true rfl) dX10_size_194 ?_
        exact a_ireturn (pc := 195) X9 E rfl rfl (Nat.le_of_ble_eq_true rfl) (Nat.le_of_ble_eq_true rfl) dX10_size_195 ⟨rfl, _, rfl, (hG_1 _ _), h⟩
    · have c_2 := c
      have h := h.2 c_2
      refine a_iconst (pc := 24) X9 dX10_size_24 ?_
      exact a_ireturn (pc := 25) X9 E rfl rfl (Nat.le_of_ble_eq_true rfl) (Nat.le_of_ble_eq_true rfl) dX10_size_25 ⟨rfl, _, rfl, (show inR 0 by decide), h⟩
  · refine a_if_ne (pc := 10) (tgt := 17) X9 dX10_size_10 rfl (bool_inR hr_1) (fun c => ?_) (fun c => ?_)
    · have c_4 := c
      have h := h.1 c_4
      refine a_iconst (pc := 17) X9 dX10_size_17 ?_
      exact hj_1 _ h (Or.inl rfl)
    · have c_4 := c
      have h := h.2 c_4
      refine a_iconst (pc := 13) X9 dX10_size_13 ?_
      refine a_goto (pc := 14) (tgt := 18) X9 dX10_size_14 rfl ?_
      exact hj_1 _ h (Or.inr rfl)
set_option maxHeartbeats 4000000 in
set_option maxRecDepth 100000 in
theorem m_X10_isOwnCard {nn : Nat} {i1 : Int} {G : GH} {Q : Int → Prop} (hi1 : inR i1) (hnn : 285 ≤ nn) (h : f_X10_isOwnCard i1 G Q) : Mt yX10_isOwnCard cX10_isOwnCard 2 (some .boolean) 1 25 0 0 [vr 272, vi i1] (SF nn) G (fun v S' G' => S' = SF nn ∧ qZ (fun r9 G9 => G9 = G ∧ Q r9) v S' G') (fun E S' G' => S' = SF nn ∧ False) := by
  refine Mt.of (l0 := [some (vr 272), some (vi i1)]) (by decide) (Nat.le_of_ble_eq_true rfl) rfl ?_
  intro κ δ ρ0 X9 E hG
  replace X9 : CX κ δ RX10 cX10_isOwnCard 2 (some .boolean) := X9
  refine a_iload_n (pc := 0) X9 dX10_isOwnCard_0 rfl rfl ?_
  refine a_i2l (pc := 1) X9 dX10_isOwnCard_1 hi1 ?_
  refine a_lconst (pc := 2) X9 0 dX10_isOwnCard_2 rfl ?_
  refine a_aload_n (pc := 3) X9 dX10_isOwnCard_3 rfl rfl ?_
  refine a_getR (pc := 4) X9 (q := 273) okX10 1 rfl wF_X10_9 (is10 hnn) rf10_1 dX10_isOwnCard_4 ?_
  refine a_iconst (pc := 7) X9 dX10_isOwnCard_7 ?_
  refine a_iald (pc := 8) X9 (ar10_1 hnn) (Nat.le_of_ble_eq_true rfl) (j := 3) rfl (Nat.le_of_ble_eq_true rfl) dX10_isOwnCard_8 ?_
  refine a_iconst (pc := 9) X9 dX10_isOwnCard_9 ?_
  refine a_isub (pc := 10) X9 dX10_isOwnCard_10 ?_
  obtain ⟨g_1, h⟩ := h
  refine a_i2l (pc := 11) X9 dX10_isOwnCard_11 g_1 ?_
  refine a_callS (pc := 12) X9 E (m_X10_in (inR_inL hi1) (show inL 0 by decide) (inR_inL g_1) hnn h) wM_X10_92 w_static_X10_in w_initialized_RX10 w_code_X10_in cp_X10_in pn_X10_in rfl (Nat.le_of_ble_eq_true rfl) ⟨Nat.le_of_ble_eq_true rfl, Nat.le_of_ble_eq_true rfl⟩ ⟨Nat.le_of_ble_eq_true rfl, Nat.le_of_ble_eq_true rfl⟩ dX10_isOwnCard_12 (fun _ _ q => False.elim q) (kZp (fun r_1 hr_1 h => ?_))
  exact a_ireturn (pc := 15) X9 E rfl (fit_bool hr_1).1 (Nat.le_of_ble_eq_true rfl) (Nat.le_of_ble_eq_true rfl) dX10_isOwnCard_15 ⟨rfl, _, rfl, hr_1, rfl, h⟩
set_option maxHeartbeats 4000000 in
set_option maxRecDepth 100000 in
theorem m_X10_isCard {nn : Nat} {i1 : Int} {G : GH} {Q : Int → Prop} (hi1 : inR i1) (hnn : 285 ≤ nn) (h : f_X10_isCard i1 G Q) : Mt yX10_isCard cX10_isCard 2 (some .boolean) 2 46 0 0 [vr 272, vi i1] (SF nn) G (fun v S' G' => S' = SF nn ∧ qZ (fun r9 G9 => G9 = G ∧ Q r9) v S' G') (fun E S' G' => S' = SF nn ∧ False) := by
  refine Mt.of (l0 := [some (vr 272), some (vi i1)]) (by decide) (Nat.le_of_ble_eq_true rfl) rfl ?_
  intro κ δ ρ0 X9 E hG
  replace X9 : CX κ δ RX10 cX10_isCard 2 (some .boolean) := X9
  refine a_aload_n (pc := 0) X9 dX10_isCard_0 rfl rfl ?_
  refine a_iload_n (pc := 1) X9 dX10_isCard_1 rfl rfl ?_
  refine a_callV (pc := 2) X9 E (m_X10_isOwnCard hi1 hnn h) okX10 (is10 hnn) wM_X10_328 w_instanceMethod_X10_isOwnCard w_selects_X10_isOwnCard w_initialized_RX10 w_code_X10_isOwnCard cp_X10_isOwnCard pn_X10_isOwnCard rfl (Nat.le_of_ble_eq_true rfl) ⟨Nat.le_of_ble_eq_true rfl, Nat.le_of_ble_eq_true rfl⟩ ⟨Nat.le_of_ble_eq_true rfl, Nat.le_of_ble_eq_true rfl⟩ dX10_isCard_2 (fun _ _ q => False.elim q) (kZp (fun r_1 hr_1 h => ?_))
  refine a_if_ne (pc := 5) (tgt := 34) X9 dX10_isCard_5 rfl (bool_inR hr_1) (fun c => ?_) (fun c => ?_)
  · have c_1 := c
    have h := h.1 c_1
    refine a_iconst (pc := 34) X9 dX10_isCard_34 ?_
    refine a_goto (pc := 35) (tgt := 39) X9 dX10_isCard_35 rfl ?_
    exact a_ireturn (pc := 39) X9 E rfl (fit_bool (Or.inr rfl)).1 (Nat.le_of_ble_eq_true rfl) (Nat.le_of_ble_eq_true rfl) dX10_isCard_39 ⟨rfl, _, rfl, (Or.inr rfl), rfl, h⟩
  · have c_1 := c
    have h := h.2 c_1
    refine a_iload_n (pc := 8) X9 dX10_isCard_8 rfl rfl ?_
    refine a_i2l (pc := 9) X9 dX10_isCard_9 hi1 ?_
    refine a_ldc2 (pc := 10) X9 (n := 100) wCL_X10_331 dX10_isCard_10 (by decide +kernel) ?_
    refine a_bipush (pc := 13) X9 dX10_isCard_13 rfl ?_
    refine a_bipush (pc := 15) X9 dX10_isCard_15 rfl ?_
    refine a_aload_n (pc := 17) X9 dX10_isCard_17 rfl rfl ?_
    refine a_getR (pc := 18) X9 (q := 273) okX10 1 rfl wF_X10_9 (is10 hnn) rf10_1 dX10_isCard_18 ?_
    refine a_iconst (pc := 21) X9 dX10_isCard_21 ?_
    refine a_iald (pc := 22) X9 (ar10_1 hnn) (Nat.le_of_ble_eq_true rfl) (j := 4) rfl (Nat.le_of_ble_eq_true rfl) dX10_isCard_22 ?_
    refine a_imul (pc := 23) X9 dX10_isCard_23 ?_
    refine a_iadd (pc := 24) X9 dX10_isCard_24 ?_
    refine a_iconst (pc := 25) X9 dX10_isCard_25 ?_
    refine a_isub (pc := 26) X9 dX10_isCard_26 ?_
    obtain ⟨g_1, h⟩ := h
    refine a_i2l (pc := 27) X9 dX10_isCard_27 g_1 ?_
    refine a_callS (pc := 28) X9 E (m_X10_in (inR_inL hi1) (show inL 100 by decide) (inR_inL g_1) hnn h) wM_X10_92 w_static_X10_in w_initialized_RX10 w_code_X10_in cp_X10_in pn_X10_in rfl (Nat.le_of_ble_eq_true rfl) ⟨Nat.le_of_ble_eq_true rfl, Nat.le_of_ble_eq_true rfl⟩ ⟨Nat.le_of_ble_eq_true rfl, Nat.le_of_ble_eq_true rfl⟩ dX10_isCard_28 (fun _ _ q => False.elim q) (kZp (fun r_2 hr_2 h => ?_))
    refine a_if_eq (pc := 31) (tgt := 38) X9 dX10_isCard_31 rfl (bool_inR hr_2) (fun c => ?_) (fun c => ?_)
    · have c_2 := c
      have h := h.1 c_2
      refine a_iconst (pc := 38) X9 dX10_isCard_38 ?_
      exact a_ireturn (pc := 39) X9 E rfl (fit_bool (Or.inl rfl)).1 (Nat.le_of_ble_eq_true rfl) (Nat.le_of_ble_eq_true rfl) dX10_isCard_39 ⟨rfl, _, rfl, (Or.inl rfl), rfl, h⟩
    · have c_2 := c
      have h := h.2 c_2
      refine a_iconst (pc := 34) X9 dX10_isCard_34 ?_
      refine a_goto (pc := 35) (tgt := 39) X9 dX10_isCard_35 rfl ?_
      exact a_ireturn (pc := 39) X9 E rfl (fit_bool (Or.inr rfl)).1 (Nat.le_of_ble_eq_true rfl) (Nat.le_of_ble_eq_true rfl) dX10_isCard_39 ⟨rfl, _, rfl, (Or.inr rfl), rfl, h⟩
set_option maxHeartbeats 4000000 in
set_option maxRecDepth 100000 in
theorem m_X10_isDigit {nn : Nat} {i0 : Int} {G : GH} {Q : Int → Prop} (hi0 : inR i0) (hnn : 285 ≤ nn) (h : f_X10_isDigit i0 Q) : Mt yX10_isDigit cX10_isDigit 1 (some .boolean) 1 25 0 0 [vi i0] (SF nn) G (fun v S' G' => S' = SF nn ∧ qZ (fun r9 G9 => G9 = G ∧ Q r9) v S' G') (fun E S' G' => S' = SF nn ∧ False) := by
  refine Mt.of (l0 := [some (vi i0)]) (by decide) (Nat.le_of_ble_eq_true rfl) rfl ?_
  intro κ δ ρ0 X9 E hG
  replace X9 : CX κ δ RX10 cX10_isDigit 1 (some .boolean) := X9
  refine a_iload_n (pc := 0) X9 dX10_isDigit_0 rfl rfl ?_
  refine a_i2l (pc := 1) X9 dX10_isDigit_1 hi0 ?_
  refine a_lconst (pc := 2) X9 0 dX10_isDigit_2 rfl ?_
  refine a_ldc2 (pc := 3) X9 (n := 9) wCL_X10_333 dX10_isDigit_3 (by decide +kernel) ?_
  refine a_callS (pc := 6) X9 E (m_X10_in (inR_inL hi0) (show inL 0 by decide) (show inL 9 by decide) hnn h) wM_X10_92 w_static_X10_in w_initialized_RX10 w_code_X10_in cp_X10_in pn_X10_in rfl (Nat.le_of_ble_eq_true rfl) ⟨Nat.le_of_ble_eq_true rfl, Nat.le_of_ble_eq_true rfl⟩ ⟨Nat.le_of_ble_eq_true rfl, Nat.le_of_ble_eq_true rfl⟩ dX10_isDigit_6 (fun _ _ q => False.elim q) (kZp (fun r_1 hr_1 h => ?_))
  exact a_ireturn (pc := 9) X9 E rfl (fit_bool hr_1).1 (Nat.le_of_ble_eq_true rfl) (Nat.le_of_ble_eq_true rfl) dX10_isDigit_9 ⟨rfl, _, rfl, hr_1, rfl, h⟩
set_option maxHeartbeats 4000000 in
set_option maxRecDepth 100000 in
theorem m_X10_card {nn : Nat} {i1 : Int} {i2 : Int} {G : GH} {Q : Int → GH → Prop} (hi1 : inR i1) (hi2 : inR i2) (hnn : 285 ≤ nn) (h : f_X10_card i1 i2 G Q) : Mt yX10_card cX10_card 4 (some .int) 4 88 0 0 [vr 272, vi i1, vi i2] (SF nn) G (fun v S' G' => S' = SF nn ∧ qI Q v S' G') (fun E S' G' => S' = SF nn ∧ False) := by
  refine Mt.of (l0 := [some (vr 272), some (vi i1), some (vi i2), none]) (by decide) (Nat.le_of_ble_eq_true rfl) rfl ?_
  intro κ δ ρ0 X9 E hG
  replace X9 : CX κ δ RX10 cX10_card 4 (some .int) := X9
  refine a_aload_n (pc := 0) X9 dX10_card_0 rfl rfl ?_
  refine a_aload_n (pc := 1) X9 dX10_card_1 rfl rfl ?_
  refine a_iload_n (pc := 2) X9 dX10_card_2 rfl rfl ?_
  refine a_callV (pc := 3) X9 E (m_X10_isCard hi1 hnn h) okX10 (is10 hnn) wM_X10_335 w_instanceMethod_X10_isCard w_selects_X10_isCard w_initialized_RX10 w_code_X10_isCard cp_X10_isCard pn_X10_isCard rfl (Nat.le_of_ble_eq_true rfl) ⟨Nat.le_of_ble_eq_true rfl, Nat.le_of_ble_eq_true rfl⟩ ⟨Nat.le_of_ble_eq_true rfl, Nat.le_of_ble_eq_true rfl⟩ dX10_card_3 (fun _ _ q => False.elim q) (kZp (fun r_1 hr_1 h => ?_))
  refine joinM1 (A := fun v_1 => (v_1 = 0 ∨ v_1 = 1) → AW κ δ ρ0 nn 4 0 0 14 [some (vr 272), some (vi i1), some (vi i2), none] [vi v_1, vr 272] (SF nn) G) (fun v_1 h h_v_1 => ?_) (fun j_1 hj_1 h => ?_) h
  · refine a_callV (pc := 14) X9 E (m_X10_wrong (bool_inR h_v_1) hnn h) okX10 (is10 hnn) wM_X10_321 w_instanceMethod_X10_wrong w_selects_X10_wrong w_initialized_RX10 w_code_X10_wrong cp_X10_wrong pn_X10_wrong rfl (Nat.le_of_ble_eq_true rfl) ⟨Nat.le_of_ble_eq_true rfl, Nat.le_of_ble_eq_true rfl⟩ ⟨Nat.le_of_ble_eq_true rfl, Nat.le_of_ble_eq_true rfl⟩ dX10_card_14 (fun _ _ q => False.elim q) (kZ (fun r_2 G_1 hr_2 h hG_1 => ?_))
    refine a_if_ne (pc := 17) (tgt := 45) X9 dX10_card_17 rfl (bool_inR hr_2) (fun c => ?_) (fun c => ?_)
    · have c_2 := c
      have h := h.1 c_2
      refine a_iconst (pc := 45) X9 dX10_card_45 ?_
      exact a_ireturn (pc := 46) X9 E rfl rfl (Nat.le_of_ble_eq_true rfl) (Nat.le_of_ble_eq_true rfl) dX10_card_46 ⟨rfl, _, rfl, (show inR 0 by decide), h⟩
    · have c_2 := c
      have h := h.2 c_2
      refine a_aload_n (pc := 20) X9 dX10_card_20 rfl rfl ?_
      refine a_iload_n (pc := 21) X9 dX10_card_21 rfl rfl ?_
      refine a_i2l (pc := 22) X9 dX10_card_22 hi2 ?_
      refine a_lconst (pc := 23) X9 0 dX10_card_23 rfl ?_
      refine a_ldc2 (pc := 24) X9 (n := 3) wCL_X10_338 dX10_card_24 (by decide +kernel) ?_
      refine a_callS (pc := 27) X9 E (m_X10_in (inR_inL hi2) (show inL 0 by decide) (show inL 3 by decide) hnn h) wM_X10_92 w_static_X10_in w_initialized_RX10 w_code_X10_in cp_X10_in pn_X10_in rfl (Nat.le_of_ble_eq_true rfl) ⟨Nat.le_of_ble_eq_true rfl, Nat.le_of_ble_eq_true rfl⟩ ⟨Nat.le_of_ble_eq_true rfl, Nat.le_of_ble_eq_true rfl⟩ dX10_card_27 (fun _ _ q => False.elim q) (kZp (fun r_3 hr_3 h => ?_))
      refine joinM1 (A := fun v_2 => (v_2 = 0 ∨ v_2 = 1) → AW κ δ ρ0 nn 4 0 0 38 [some (vr 272), some (vi i1), some (vi i2), none] [vi v_2, vr 272] (SF nn) G_1) (fun v_2 h h_v_2 => ?_) (fun j_2 hj_2 h => ?_) h
      · refine a_iconst (pc := 38) X9 dX10_card_38 ?_
        refine a_callV (pc := 39) X9 E (m_X10_throwsIf (bool_inR h_v_2) (show inR 2 by decide) hnn h) okX10 (is10 hnn) wM_X10_340 w_instanceMethod_X10_throwsIf w_selects_X10_throwsIf w_initialized_RX10 w_code_X10_throwsIf cp_X10_throwsIf pn_X10_throwsIf rfl (Nat.le_of_ble_eq_true rfl) ⟨Nat.le_of_ble_eq_true rfl, Nat.le_of_ble_eq_true rfl⟩ ⟨Nat.le_of_ble_eq_true rfl, Nat.le_of_ble_eq_true rfl⟩ dX10_card_39 (fun _ _ q => False.elim q) (kZ (fun r_4 G_2 hr_4 h hG_2 => ?_))
        refine a_if_eq (pc := 42) (tgt := 47) X9 dX10_card_42 rfl (bool_inR hr_4) (fun c => ?_) (fun c => ?_)
        · have c_4 := c
          have h := h.1 c_4
          refine a_iload_n (pc := 47) X9 dX10_card_47 rfl rfl ?_
          refine a_callS (pc := 48) X9 E (m_X10_sortOf hi1 hnn h) wM_X10_344 w_static_X10_sortOf w_initialized_RX10 w_code_X10_sortOf cp_X10_sortOf pn_X10_sortOf rfl (Nat.le_of_ble_eq_true rfl) ⟨Nat.le_of_ble_eq_true rfl, Nat.le_of_ble_eq_true rfl⟩ ⟨Nat.le_of_ble_eq_true rfl, Nat.le_of_ble_eq_true rfl⟩ dX10_card_48 (fun _ _ q => False.elim q) (kIp (fun r_5 hr_5 h => ?_))
          refine a_istore_n (pc := 51) X9 dX10_card_51 rfl (Nat.le_of_ble_eq_true rfl) rfl rfl ?_
          refine a_iload_n (pc := 52) X9 dX10_card_52 rfl rfl ?_
          have c_5 : (i2 < 0 ∨ 2 < i2) ∨ i2 = 0 ∨ i2 = 1 ∨ i2 = 2 := by omega
          rcases c_5 with c_5 | c_5 | c_5 | c_5
          · refine a_tableOut (pc := 53) (tgt := 98) X9 dX10_card_53 hi2 c_5 rfl ?_
            have h := h.1 c_5
            refine a_aload_n (pc := 98) X9 dX10_card_98 rfl rfl ?_
            refine a_iload_n (pc := 99) X9 dX10_card_99 rfl rfl ?_
            refine a_callV (pc := 100) X9 E (m_X10_hanging hr_5 hnn h) okX10 (is10 hnn) wM_X10_240 w_instanceMethod_X10_hanging w_selects_X10_hanging w_initialized_RX10 w_code_X10_hanging cp_X10_hanging pn_X10_hanging rfl (Nat.le_of_ble_eq_true rfl) ⟨Nat.le_of_ble_eq_true rfl, Nat.le_of_ble_eq_true rfl⟩ ⟨Nat.le_of_ble_eq_true rfl, Nat.le_of_ble_eq_true rfl⟩ dX10_card_100 (fun _ _ q => False.elim q) (kIp (fun r_6 hr_6 h => ?_))
            exact a_ireturn (pc := 103) X9 E rfl rfl (Nat.le_of_ble_eq_true rfl) (Nat.le_of_ble_eq_true rfl) dX10_card_103 ⟨rfl, _, rfl, hr_6, h⟩
          · refine a_tableIn (pc := 53) (tgt := 80) X9 dX10_card_53 hi2 (by omega) (by omega) (by rw [c_5]; rfl) rfl ?_
            have h := h.2.1 c_5
            refine a_aload_n (pc := 80) X9 dX10_card_80 rfl rfl ?_
            refine a_iload_n (pc := 81) X9 dX10_card_81 rfl rfl ?_
            refine a_callV (pc := 82) X9 E (m_X10_front hr_5 hnn h) okX10 (is10 hnn) wM_X10_226 w_instanceMethod_X10_front w_selects_X10_front w_initialized_RX10 w_code_X10_front cp_X10_front pn_X10_front rfl (Nat.le_of_ble_eq_true rfl) ⟨Nat.le_of_ble_eq_true rfl, Nat.le_of_ble_eq_true rfl⟩ ⟨Nat.le_of_ble_eq_true rfl, Nat.le_of_ble_eq_true rfl⟩ dX10_card_82 (fun _ _ q => False.elim q) (kIp (fun r_7 hr_7 h => ?_))
            exact a_ireturn (pc := 85) X9 E rfl rfl (Nat.le_of_ble_eq_true rfl) (Nat.le_of_ble_eq_true rfl) dX10_card_85 ⟨rfl, _, rfl, hr_7, h⟩
          · refine a_tableIn (pc := 53) (tgt := 86) X9 dX10_card_53 hi2 (by omega) (by omega) (by rw [c_5]; rfl) rfl ?_
            have h := h.2.2.1 c_5
            refine a_aload_n (pc := 86) X9 dX10_card_86 rfl rfl ?_
            refine a_iload_n (pc := 87) X9 dX10_card_87 rfl rfl ?_
            refine a_callV (pc := 88) X9 E (m_X10_back hr_5 hnn h) okX10 (is10 hnn) wM_X10_229 w_instanceMethod_X10_back w_selects_X10_back w_initialized_RX10 w_code_X10_back cp_X10_back pn_X10_back rfl (Nat.le_of_ble_eq_true rfl) ⟨Nat.le_of_ble_eq_true rfl, Nat.le_of_ble_eq_true rfl⟩ ⟨Nat.le_of_ble_eq_true rfl, Nat.le_of_ble_eq_true rfl⟩ dX10_card_88 (fun _ _ q => False.elim q) (kIp (fun r_8 hr_8 h => ?_))
            exact a_ireturn (pc := 91) X9 E rfl rfl (Nat.le_of_ble_eq_true rfl) (Nat.le_of_ble_eq_true rfl) dX10_card_91 ⟨rfl, _, rfl, hr_8, h⟩
          · refine a_tableIn (pc := 53) (tgt := 92) X9 dX10_card_53 hi2 (by omega) (by omega) (by rw [c_5]; rfl) rfl ?_
            have h := h.2.2.2 c_5
            refine a_aload_n (pc := 92) X9 dX10_card_92 rfl rfl ?_
            refine a_iload_n (pc := 93) X9 dX10_card_93 rfl rfl ?_
            refine a_callV (pc := 94) X9 E (m_X10_count hr_5 hnn h) okX10 (is10 hnn) wM_X10_243 w_instanceMethod_X10_count w_selects_X10_count w_initialized_RX10 w_code_X10_count cp_X10_count pn_X10_count rfl (Nat.le_of_ble_eq_true rfl) ⟨Nat.le_of_ble_eq_true rfl, Nat.le_of_ble_eq_true rfl⟩ ⟨Nat.le_of_ble_eq_true rfl, Nat.le_of_ble_eq_true rfl⟩ dX10_card_94 (fun _ _ q => False.elim q) (kIp (fun r_9 hr_9 h => ?_))
            exact a_ireturn (pc := 97) X9 E rfl rfl (Nat.le_of_ble_eq_true rfl) (Nat.le_of_ble_eq_true rfl) dX10_card_97 ⟨rfl, _, rfl, hr_9, h⟩
        · have c_4 := c
          have h := h.2 c_4
          refine a_iconst (pc := 45) X9 dX10_card_45 ?_
          exact a_ireturn (pc := 46) X9 E rfl rfl (Nat.le_of_ble_eq_true rfl) (Nat.le_of_ble_eq_true rfl) dX10_card_46 ⟨rfl, _, rfl, (show inR 0 by decide), h⟩
      · refine a_if_ne (pc := 30) (tgt := 37) X9 dX10_card_30 rfl (bool_inR hr_3) (fun c => ?_) (fun c => ?_)
        · have c_6 := c
          have h := h.1 c_6
          refine a_iconst (pc := 37) X9 dX10_card_37 ?_
          exact hj_2 _ h (Or.inl rfl)
        · have c_6 := c
          have h := h.2 c_6
          refine a_iconst (pc := 33) X9 dX10_card_33 ?_
          refine a_goto (pc := 34) (tgt := 38) X9 dX10_card_34 rfl ?_
          exact hj_2 _ h (Or.inr rfl)
  · refine a_if_ne (pc := 6) (tgt := 13) X9 dX10_card_6 rfl (bool_inR hr_1) (fun c => ?_) (fun c => ?_)
    · have c_7 := c
      have h := h.1 c_7
      refine a_iconst (pc := 13) X9 dX10_card_13 ?_
      exact hj_1 _ h (Or.inl rfl)
    · have c_7 := c
      have h := h.2 c_7
      refine a_iconst (pc := 9) X9 dX10_card_9 ?_
      refine a_goto (pc := 10) (tgt := 14) X9 dX10_card_10 rfl ?_
      exact hj_1 _ h (Or.inr rfl)
set_option maxHeartbeats 4000000 in
set_option maxRecDepth 100000 in
theorem m_X10_way {nn : Nat} {i1 : Int} {i2 : Int} {G : GH} {Q : Int → GH → Prop} (hi1 : inR i1) (hi2 : inR i2) (hnn : 285 ≤ nn) (h : f_X10_way i1 i2 G Q) : Mt yX10_way cX10_way 3 (some .int) 3 67 0 0 [vr 272, vi i1, vi i2] (SF nn) G (fun v S' G' => S' = SF nn ∧ qI Q v S' G') (fun E S' G' => S' = SF nn ∧ False) := by
  refine Mt.of (l0 := [some (vr 272), some (vi i1), some (vi i2)]) (by decide) (Nat.le_of_ble_eq_true rfl) rfl ?_
  intro κ δ ρ0 X9 E hG
  replace X9 : CX κ δ RX10 cX10_way 3 (some .int) := X9
  refine a_aload_n (pc := 0) X9 dX10_way_0 rfl rfl ?_
  refine a_aload_n (pc := 1) X9 dX10_way_1 rfl rfl ?_
  refine a_iload_n (pc := 2) X9 dX10_way_2 rfl rfl ?_
  refine a_callV (pc := 3) X9 E (m_X10_isCard hi1 hnn h) okX10 (is10 hnn) wM_X10_335 w_instanceMethod_X10_isCard w_selects_X10_isCard w_initialized_RX10 w_code_X10_isCard cp_X10_isCard pn_X10_isCard rfl (Nat.le_of_ble_eq_true rfl) ⟨Nat.le_of_ble_eq_true rfl, Nat.le_of_ble_eq_true rfl⟩ ⟨Nat.le_of_ble_eq_true rfl, Nat.le_of_ble_eq_true rfl⟩ dX10_way_3 (fun _ _ q => False.elim q) (kZp (fun r_1 hr_1 h => ?_))
  refine joinM1 (A := fun v_1 => (v_1 = 0 ∨ v_1 = 1) → AW κ δ ρ0 nn 3 0 0 14 [some (vr 272), some (vi i1), some (vi i2)] [vi v_1, vr 272] (SF nn) G) (fun v_1 h h_v_1 => ?_) (fun j_1 hj_1 h => ?_) h
  · refine a_callV (pc := 14) X9 E (m_X10_wrong (bool_inR h_v_1) hnn h) okX10 (is10 hnn) wM_X10_321 w_instanceMethod_X10_wrong w_selects_X10_wrong w_initialized_RX10 w_code_X10_wrong cp_X10_wrong pn_X10_wrong rfl (Nat.le_of_ble_eq_true rfl) ⟨Nat.le_of_ble_eq_true rfl, Nat.le_of_ble_eq_true rfl⟩ ⟨Nat.le_of_ble_eq_true rfl, Nat.le_of_ble_eq_true rfl⟩ dX10_way_14 (fun _ _ q => False.elim q) (kZ (fun r_2 G_1 hr_2 h hG_1 => ?_))
    refine a_if_ne (pc := 17) (tgt := 40) X9 dX10_way_17 rfl (bool_inR hr_2) (fun c => ?_) (fun c => ?_)
    · have c_2 := c
      have h := h.1 c_2
      refine a_iconst (pc := 40) X9 dX10_way_40 ?_
      refine a_goto (pc := 41) (tgt := 53) X9 dX10_way_41 rfl ?_
      exact a_ireturn (pc := 53) X9 E rfl rfl (Nat.le_of_ble_eq_true rfl) (Nat.le_of_ble_eq_true rfl) dX10_way_53 ⟨rfl, _, rfl, (show inR 0 by decide), h⟩
    · have c_2 := c
      have h := h.2 c_2
      refine a_aload_n (pc := 20) X9 dX10_way_20 rfl rfl ?_
      refine a_iload_n (pc := 21) X9 dX10_way_21 rfl rfl ?_
      refine a_callS (pc := 22) X9 E (m_X10_isDigit hi2 hnn h) wM_X10_347 w_static_X10_isDigit w_initialized_RX10 w_code_X10_isDigit cp_X10_isDigit pn_X10_isDigit rfl (Nat.le_of_ble_eq_true rfl) ⟨Nat.le_of_ble_eq_true rfl, Nat.le_of_ble_eq_true rfl⟩ ⟨Nat.le_of_ble_eq_true rfl, Nat.le_of_ble_eq_true rfl⟩ dX10_way_22 (fun _ _ q => False.elim q) (kZp (fun r_3 hr_3 h => ?_))
      refine joinM1 (A := fun v_2 => (v_2 = 0 ∨ v_2 = 1) → AW κ δ ρ0 nn 3 0 0 33 [some (vr 272), some (vi i1), some (vi i2)] [vi v_2, vr 272] (SF nn) G_1) (fun v_2 h h_v_2 => ?_) (fun j_2 hj_2 h => ?_) h
      · refine a_iconst (pc := 33) X9 dX10_way_33 ?_
        refine a_callV (pc := 34) X9 E (m_X10_throwsIf (bool_inR h_v_2) (show inR 2 by decide) hnn h) okX10 (is10 hnn) wM_X10_340 w_instanceMethod_X10_throwsIf w_selects_X10_throwsIf w_initialized_RX10 w_code_X10_throwsIf cp_X10_throwsIf pn_X10_throwsIf rfl (Nat.le_of_ble_eq_true rfl) ⟨Nat.le_of_ble_eq_true rfl, Nat.le_of_ble_eq_true rfl⟩ ⟨Nat.le_of_ble_eq_true rfl, Nat.le_of_ble_eq_true rfl⟩ dX10_way_34 (fun _ _ q => False.elim q) (kZ (fun r_4 G_2 hr_4 h hG_2 => ?_))
        refine a_if_eq (pc := 37) (tgt := 44) X9 dX10_way_37 rfl (bool_inR hr_4) (fun c => ?_) (fun c => ?_)
        · have c_4 := c
          have h := h.1 c_4
          refine a_aload_n (pc := 44) X9 dX10_way_44 rfl rfl ?_
          refine a_iload_n (pc := 45) X9 dX10_way_45 rfl rfl ?_
          refine a_callS (pc := 46) X9 E (m_X10_sortOf hi1 hnn h) wM_X10_344 w_static_X10_sortOf w_initialized_RX10 w_code_X10_sortOf cp_X10_sortOf pn_X10_sortOf rfl (Nat.le_of_ble_eq_true rfl) ⟨Nat.le_of_ble_eq_true rfl, Nat.le_of_ble_eq_true rfl⟩ ⟨Nat.le_of_ble_eq_true rfl, Nat.le_of_ble_eq_true rfl⟩ dX10_way_46 (fun _ _ q => False.elim q) (kIp (fun r_5 hr_5 h => ?_))
          refine a_iload_n (pc := 49) X9 dX10_way_49 rfl rfl ?_
          refine a_callV (pc := 50) X9 E (m_X10_wayOf hr_5 hi2 hnn h) okX10 (is10 hnn) wM_X10_258 w_instanceMethod_X10_wayOf w_selects_X10_wayOf w_initialized_RX10 w_code_X10_wayOf cp_X10_wayOf pn_X10_wayOf rfl (Nat.le_of_ble_eq_true rfl) ⟨Nat.le_of_ble_eq_true rfl, Nat.le_of_ble_eq_true rfl⟩ ⟨Nat.le_of_ble_eq_true rfl, Nat.le_of_ble_eq_true rfl⟩ dX10_way_50 (fun _ _ q => False.elim q) (kIp (fun r_6 hr_6 h => ?_))
          exact a_ireturn (pc := 53) X9 E rfl rfl (Nat.le_of_ble_eq_true rfl) (Nat.le_of_ble_eq_true rfl) dX10_way_53 ⟨rfl, _, rfl, hr_6, h⟩
        · have c_4 := c
          have h := h.2 c_4
          refine a_iconst (pc := 40) X9 dX10_way_40 ?_
          refine a_goto (pc := 41) (tgt := 53) X9 dX10_way_41 rfl ?_
          exact a_ireturn (pc := 53) X9 E rfl rfl (Nat.le_of_ble_eq_true rfl) (Nat.le_of_ble_eq_true rfl) dX10_way_53 ⟨rfl, _, rfl, (show inR 0 by decide), h⟩
      · refine a_if_ne (pc := 25) (tgt := 32) X9 dX10_way_25 rfl (bool_inR hr_3) (fun c => ?_) (fun c => ?_)
        · have c_5 := c
          have h := h.1 c_5
          refine a_iconst (pc := 32) X9 dX10_way_32 ?_
          exact hj_2 _ h (Or.inl rfl)
        · have c_5 := c
          have h := h.2 c_5
          refine a_iconst (pc := 28) X9 dX10_way_28 ?_
          refine a_goto (pc := 29) (tgt := 33) X9 dX10_way_29 rfl ?_
          exact hj_2 _ h (Or.inr rfl)
  · refine a_if_ne (pc := 6) (tgt := 13) X9 dX10_way_6 rfl (bool_inR hr_1) (fun c => ?_) (fun c => ?_)
    · have c_6 := c
      have h := h.1 c_6
      refine a_iconst (pc := 13) X9 dX10_way_13 ?_
      exact hj_1 _ h (Or.inl rfl)
    · have c_6 := c
      have h := h.2 c_6
      refine a_iconst (pc := 9) X9 dX10_way_9 ?_
      refine a_goto (pc := 10) (tgt := 14) X9 dX10_way_10 rfl ?_
      exact hj_1 _ h (Or.inr rfl)
set_option maxHeartbeats 4000000 in
set_option maxRecDepth 100000 in
theorem m_X10_isFriend {nn : Nat} {i1 : Int} {G : GH} {Q : Int → Prop} (hi1 : inR i1) (hnn : 285 ≤ nn) (h : f_X10_isFriend i1 G Q) : Mt yX10_isFriend cX10_isFriend 2 (some .boolean) 1 25 0 0 [vr 272, vi i1] (SF nn) G (fun v S' G' => S' = SF nn ∧ qZ (fun r9 G9 => G9 = G ∧ Q r9) v S' G') (fun E S' G' => S' = SF nn ∧ False) := by
  refine Mt.of (l0 := [some (vr 272), some (vi i1)]) (by decide) (Nat.le_of_ble_eq_true rfl) rfl ?_
  intro κ δ ρ0 X9 E hG
  replace X9 : CX κ δ RX10 cX10_isFriend 2 (some .boolean) := X9
  refine a_iload_n (pc := 0) X9 dX10_isFriend_0 rfl rfl ?_
  refine a_i2l (pc := 1) X9 dX10_isFriend_1 hi1 ?_
  refine a_lconst (pc := 2) X9 0 dX10_isFriend_2 rfl ?_
  refine a_aload_n (pc := 3) X9 dX10_isFriend_3 rfl rfl ?_
  refine a_getR (pc := 4) X9 (q := 273) okX10 1 rfl wF_X10_9 (is10 hnn) rf10_1 dX10_isFriend_4 ?_
  refine a_iconst (pc := 7) X9 dX10_isFriend_7 ?_
  refine a_iald (pc := 8) X9 (ar10_1 hnn) (Nat.le_of_ble_eq_true rfl) (j := 4) rfl (Nat.le_of_ble_eq_true rfl) dX10_isFriend_8 ?_
  refine a_iconst (pc := 9) X9 dX10_isFriend_9 ?_
  refine a_isub (pc := 10) X9 dX10_isFriend_10 ?_
  obtain ⟨g_1, h⟩ := h
  refine a_i2l (pc := 11) X9 dX10_isFriend_11 g_1 ?_
  refine a_callS (pc := 12) X9 E (m_X10_in (inR_inL hi1) (show inL 0 by decide) (inR_inL g_1) hnn h) wM_X10_92 w_static_X10_in w_initialized_RX10 w_code_X10_in cp_X10_in pn_X10_in rfl (Nat.le_of_ble_eq_true rfl) ⟨Nat.le_of_ble_eq_true rfl, Nat.le_of_ble_eq_true rfl⟩ ⟨Nat.le_of_ble_eq_true rfl, Nat.le_of_ble_eq_true rfl⟩ dX10_isFriend_12 (fun _ _ q => False.elim q) (kZp (fun r_1 hr_1 h => ?_))
  exact a_ireturn (pc := 15) X9 E rfl (fit_bool hr_1).1 (Nat.le_of_ble_eq_true rfl) (Nat.le_of_ble_eq_true rfl) dX10_isFriend_15 ⟨rfl, _, rfl, hr_1, rfl, h⟩
set_option maxHeartbeats 4000000 in
set_option maxRecDepth 100000 in
theorem m_X10_noFriend {nn : Nat} {i1 : Int} {G : GH} {Q : Int → GH → Prop} (hi1 : inR i1) (hnn : 285 ≤ nn) (h : f_X10_noFriend i1 G Q) : Mt yX10_noFriend cX10_noFriend 2 (some .boolean) 2 46 0 0 [vr 272, vi i1] (SF nn) G (fun v S' G' => S' = SF nn ∧ qZ Q v S' G') (fun E S' G' => S' = SF nn ∧ False) := by
  refine Mt.of (l0 := [some (vr 272), some (vi i1)]) (by decide) (Nat.le_of_ble_eq_true rfl) rfl ?_
  intro κ δ ρ0 X9 E hG
  replace X9 : CX κ δ RX10 cX10_noFriend 2 (some .boolean) := X9
  refine a_aload_n (pc := 0) X9 dX10_noFriend_0 rfl rfl ?_
  refine a_aload_n (pc := 1) X9 dX10_noFriend_1 rfl rfl ?_
  refine a_iload_n (pc := 2) X9 dX10_noFriend_2 rfl rfl ?_
  refine a_callV (pc := 3) X9 E (m_X10_isFriend hi1 hnn h) okX10 (is10 hnn) wM_X10_350 w_instanceMethod_X10_isFriend w_selects_X10_isFriend w_initialized_RX10 w_code_X10_isFriend cp_X10_isFriend pn_X10_isFriend rfl (Nat.le_of_ble_eq_true rfl) ⟨Nat.le_of_ble_eq_true rfl, Nat.le_of_ble_eq_true rfl⟩ ⟨Nat.le_of_ble_eq_true rfl, Nat.le_of_ble_eq_true rfl⟩ dX10_noFriend_3 (fun _ _ q => False.elim q) (kZp (fun r_1 hr_1 h => ?_))
  refine joinM1 (A := fun v_1 => (v_1 = 0 ∨ v_1 = 1) → AW κ δ ρ0 nn 2 0 0 14 [some (vr 272), some (vi i1)] [vi v_1, vr 272] (SF nn) G) (fun v_1 h h_v_1 => ?_) (fun j_1 hj_1 h => ?_) h
  · refine a_callV (pc := 14) X9 E (m_X10_wrong (bool_inR h_v_1) hnn h) okX10 (is10 hnn) wM_X10_321 w_instanceMethod_X10_wrong w_selects_X10_wrong w_initialized_RX10 w_code_X10_wrong cp_X10_wrong pn_X10_wrong rfl (Nat.le_of_ble_eq_true rfl) ⟨Nat.le_of_ble_eq_true rfl, Nat.le_of_ble_eq_true rfl⟩ ⟨Nat.le_of_ble_eq_true rfl, Nat.le_of_ble_eq_true rfl⟩ dX10_noFriend_14 (fun _ _ q => False.elim q) (kZ (fun r_2 G_1 hr_2 h hG_1 => ?_))
    exact a_ireturn (pc := 17) X9 E rfl (fit_bool hr_2).1 (Nat.le_of_ble_eq_true rfl) (Nat.le_of_ble_eq_true rfl) dX10_noFriend_17 ⟨rfl, _, rfl, hr_2, h⟩
  · refine a_if_ne (pc := 6) (tgt := 13) X9 dX10_noFriend_6 rfl (bool_inR hr_1) (fun c => ?_) (fun c => ?_)
    · have c_2 := c
      have h := h.1 c_2
      refine a_iconst (pc := 13) X9 dX10_noFriend_13 ?_
      exact hj_1 _ h (Or.inl rfl)
    · have c_2 := c
      have h := h.2 c_2
      refine a_iconst (pc := 9) X9 dX10_noFriend_9 ?_
      refine a_goto (pc := 10) (tgt := 14) X9 dX10_noFriend_10 rfl ?_
      exact hj_1 _ h (Or.inr rfl)
set_option maxHeartbeats 4000000 in
set_option maxRecDepth 100000 in
theorem m_X10_lends {nn : Nat} {i1 : Int} {i2 : Int} {G : GH} {Q : Int → GH → Prop} (hi1 : inR i1) (hi2 : inR i2) (hnn : 285 ≤ nn) (h : f_X10_lends i1 i2 G Q) : Mt yX10_lends cX10_lends 3 (some .int) 3 67 0 0 [vr 272, vi i1, vi i2] (SF nn) G (fun v S' G' => S' = SF nn ∧ qI Q v S' G') (fun E S' G' => S' = SF nn ∧ False) := by
  refine Mt.of (l0 := [some (vr 272), some (vi i1), some (vi i2)]) (by decide) (Nat.le_of_ble_eq_true rfl) rfl ?_
  intro κ δ ρ0 X9 E hG
  replace X9 : CX κ δ RX10 cX10_lends 3 (some .int) := X9
  refine a_aload_n (pc := 0) X9 dX10_lends_0 rfl rfl ?_
  refine a_iload_n (pc := 1) X9 dX10_lends_1 rfl rfl ?_
  refine a_callV (pc := 2) X9 E (m_X10_noFriend hi1 hnn h) okX10 (is10 hnn) wM_X10_353 w_instanceMethod_X10_noFriend w_selects_X10_noFriend w_initialized_RX10 w_code_X10_noFriend cp_X10_noFriend pn_X10_noFriend rfl (Nat.le_of_ble_eq_true rfl) ⟨Nat.le_of_ble_eq_true rfl, Nat.le_of_ble_eq_true rfl⟩ ⟨Nat.le_of_ble_eq_true rfl, Nat.le_of_ble_eq_true rfl⟩ dX10_lends_2 (fun _ _ q => False.elim q) (kZ (fun r_1 G_1 hr_1 h hG_1 => ?_))
  refine a_if_ne (pc := 5) (tgt := 28) X9 dX10_lends_5 rfl (bool_inR hr_1) (fun c => ?_) (fun c => ?_)
  · have c_1 := c
    have h := h.1 c_1
    refine a_iconst (pc := 28) X9 dX10_lends_28 ?_
    refine a_goto (pc := 29) (tgt := 40) X9 dX10_lends_29 rfl ?_
    exact a_ireturn (pc := 40) X9 E rfl rfl (Nat.le_of_ble_eq_true rfl) (Nat.le_of_ble_eq_true rfl) dX10_lends_40 ⟨rfl, _, rfl, (show inR 0 by decide), h⟩
  · have c_1 := c
    have h := h.2 c_1
    refine a_aload_n (pc := 8) X9 dX10_lends_8 rfl rfl ?_
    refine a_iload_n (pc := 9) X9 dX10_lends_9 rfl rfl ?_
    refine a_callS (pc := 10) X9 E (m_X10_isDigit hi2 hnn h) wM_X10_347 w_static_X10_isDigit w_initialized_RX10 w_code_X10_isDigit cp_X10_isDigit pn_X10_isDigit rfl (Nat.le_of_ble_eq_true rfl) ⟨Nat.le_of_ble_eq_true rfl, Nat.le_of_ble_eq_true rfl⟩ ⟨Nat.le_of_ble_eq_true rfl, Nat.le_of_ble_eq_true rfl⟩ dX10_lends_10 (fun _ _ q => False.elim q) (kZp (fun r_2 hr_2 h => ?_))
    refine joinM1 (A := fun v_1 => (v_1 = 0 ∨ v_1 = 1) → AW κ δ ρ0 nn 3 0 0 21 [some (vr 272), some (vi i1), some (vi i2)] [vi v_1, vr 272] (SF nn) G_1) (fun v_1 h h_v_1 => ?_) (fun j_1 hj_1 h => ?_) h
    · refine a_iconst (pc := 21) X9 dX10_lends_21 ?_
      refine a_callV (pc := 22) X9 E (m_X10_throwsIf (bool_inR h_v_1) (show inR 2 by decide) hnn h) okX10 (is10 hnn) wM_X10_340 w_instanceMethod_X10_throwsIf w_selects_X10_throwsIf w_initialized_RX10 w_code_X10_throwsIf cp_X10_throwsIf pn_X10_throwsIf rfl (Nat.le_of_ble_eq_true rfl) ⟨Nat.le_of_ble_eq_true rfl, Nat.le_of_ble_eq_true rfl⟩ ⟨Nat.le_of_ble_eq_true rfl, Nat.le_of_ble_eq_true rfl⟩ dX10_lends_22 (fun _ _ q => False.elim q) (kZ (fun r_3 G_2 hr_3 h hG_2 => ?_))
      refine a_if_eq (pc := 25) (tgt := 32) X9 dX10_lends_25 rfl (bool_inR hr_3) (fun c => ?_) (fun c => ?_)
      · have c_3 := c
        have h := h.1 c_3
        refine a_aload_n (pc := 32) X9 dX10_lends_32 rfl rfl ?_
        refine a_iload_n (pc := 33) X9 dX10_lends_33 rfl rfl ?_
        refine a_iconst (pc := 34) X9 dX10_lends_34 ?_
        refine a_iload_n (pc := 35) X9 dX10_lends_35 rfl rfl ?_
        refine a_iadd (pc := 36) X9 dX10_lends_36 ?_
        obtain ⟨g_1, h⟩ := h
        refine a_callV (pc := 37) X9 E (m_X10_ofFriend hi1 g_1 hnn h) okX10 (is10 hnn) wM_X10_356 w_instanceMethod_X10_ofFriend w_selects_X10_ofFriend w_initialized_RX10 w_code_X10_ofFriend cp_X10_ofFriend pn_X10_ofFriend rfl (Nat.le_of_ble_eq_true rfl) ⟨Nat.le_of_ble_eq_true rfl, Nat.le_of_ble_eq_true rfl⟩ ⟨Nat.le_of_ble_eq_true rfl, Nat.le_of_ble_eq_true rfl⟩ dX10_lends_37 (fun _ _ q => False.elim q) (kIp (fun r_4 hr_4 h => ?_))
        exact a_ireturn (pc := 40) X9 E rfl rfl (Nat.le_of_ble_eq_true rfl) (Nat.le_of_ble_eq_true rfl) dX10_lends_40 ⟨rfl, _, rfl, hr_4, h⟩
      · have c_3 := c
        have h := h.2 c_3
        refine a_iconst (pc := 28) X9 dX10_lends_28 ?_
        refine a_goto (pc := 29) (tgt := 40) X9 dX10_lends_29 rfl ?_
        exact a_ireturn (pc := 40) X9 E rfl rfl (Nat.le_of_ble_eq_true rfl) (Nat.le_of_ble_eq_true rfl) dX10_lends_40 ⟨rfl, _, rfl, (show inR 0 by decide), h⟩
    · refine a_if_ne (pc := 13) (tgt := 20) X9 dX10_lends_13 rfl (bool_inR hr_2) (fun c => ?_) (fun c => ?_)
      · have c_4 := c
        have h := h.1 c_4
        refine a_iconst (pc := 20) X9 dX10_lends_20 ?_
        exact hj_1 _ h (Or.inl rfl)
      · have c_4 := c
        have h := h.2 c_4
        refine a_iconst (pc := 16) X9 dX10_lends_16 ?_
        refine a_goto (pc := 17) (tgt := 21) X9 dX10_lends_17 rfl ?_
        exact hj_1 _ h (Or.inr rfl)
set_option maxHeartbeats 4000000 in
set_option maxRecDepth 100000 in
theorem m_X10_noLoan {nn : Nat} {i1 : Int} {G : GH} {Q : Int → GH → Prop} (hi1 : inR i1) (hnn : 285 ≤ nn) (h : f_X10_noLoan i1 G Q) : Mt yX10_noLoan cX10_noLoan 2 (some .boolean) 1 25 0 0 [vr 272, vi i1] (SF nn) G (fun v S' G' => S' = SF nn ∧ qZ Q v S' G') (fun E S' G' => S' = SF nn ∧ False) := by
  refine Mt.of (l0 := [some (vr 272), some (vi i1)]) (by decide) (Nat.le_of_ble_eq_true rfl) rfl ?_
  intro κ δ ρ0 X9 E hG
  replace X9 : CX κ δ RX10 cX10_noLoan 2 (some .boolean) := X9
  refine a_aload_n (pc := 0) X9 dX10_noLoan_0 rfl rfl ?_
  refine a_iload_n (pc := 1) X9 dX10_noLoan_1 rfl rfl ?_
  refine a_i2l (pc := 2) X9 dX10_noLoan_2 hi1 ?_
  refine a_lconst (pc := 3) X9 0 dX10_noLoan_3 rfl ?_
  refine a_aload_n (pc := 4) X9 dX10_noLoan_4 rfl rfl ?_
  refine a_getR (pc := 5) X9 (q := 273) okX10 1 rfl wF_X10_9 (is10 hnn) rf10_1 dX10_noLoan_5 ?_
  refine a_bipush (pc := 8) X9 dX10_noLoan_8 rfl ?_
  refine a_iald (pc := 10) X9 (ar10_1 hnn) (Nat.le_of_ble_eq_true rfl) (j := 6) rfl (Nat.le_of_ble_eq_true rfl) dX10_noLoan_10 ?_
  refine a_iconst (pc := 11) X9 dX10_noLoan_11 ?_
  refine a_isub (pc := 12) X9 dX10_noLoan_12 ?_
  obtain ⟨g_1, h⟩ := h
  refine a_i2l (pc := 13) X9 dX10_noLoan_13 g_1 ?_
  refine a_callS (pc := 14) X9 E (m_X10_in (inR_inL hi1) (show inL 0 by decide) (inR_inL g_1) hnn h) wM_X10_92 w_static_X10_in w_initialized_RX10 w_code_X10_in cp_X10_in pn_X10_in rfl (Nat.le_of_ble_eq_true rfl) ⟨Nat.le_of_ble_eq_true rfl, Nat.le_of_ble_eq_true rfl⟩ ⟨Nat.le_of_ble_eq_true rfl, Nat.le_of_ble_eq_true rfl⟩ dX10_noLoan_14 (fun _ _ q => False.elim q) (kZp (fun r_1 hr_1 h => ?_))
  refine joinM1 (A := fun v_1 => (v_1 = 0 ∨ v_1 = 1) → AW κ δ ρ0 nn 2 0 0 25 [some (vr 272), some (vi i1)] [vi v_1, vr 272] (SF nn) G) (fun v_1 h h_v_1 => ?_) (fun j_1 hj_1 h => ?_) h
  · refine a_callV (pc := 25) X9 E (m_X10_wrong (bool_inR h_v_1) hnn h) okX10 (is10 hnn) wM_X10_321 w_instanceMethod_X10_wrong w_selects_X10_wrong w_initialized_RX10 w_code_X10_wrong cp_X10_wrong pn_X10_wrong rfl (Nat.le_of_ble_eq_true rfl) ⟨Nat.le_of_ble_eq_true rfl, Nat.le_of_ble_eq_true rfl⟩ ⟨Nat.le_of_ble_eq_true rfl, Nat.le_of_ble_eq_true rfl⟩ dX10_noLoan_25 (fun _ _ q => False.elim q) (kZ (fun r_2 G_1 hr_2 h hG_1 => ?_))
    exact a_ireturn (pc := 28) X9 E rfl (fit_bool hr_2).1 (Nat.le_of_ble_eq_true rfl) (Nat.le_of_ble_eq_true rfl) dX10_noLoan_28 ⟨rfl, _, rfl, hr_2, h⟩
  · refine a_if_ne (pc := 17) (tgt := 24) X9 dX10_noLoan_17 rfl (bool_inR hr_1) (fun c => ?_) (fun c => ?_)
    · have c_2 := c
      have h := h.1 c_2
      refine a_iconst (pc := 24) X9 dX10_noLoan_24 ?_
      exact hj_1 _ h (Or.inl rfl)
    · have c_2 := c
      have h := h.2 c_2
      refine a_iconst (pc := 20) X9 dX10_noLoan_20 ?_
      refine a_goto (pc := 21) (tgt := 25) X9 dX10_noLoan_21 rfl ?_
      exact hj_1 _ h (Or.inr rfl)
set_option maxHeartbeats 4000000 in
set_option maxRecDepth 100000 in
theorem m_X10_loan {nn : Nat} {i1 : Int} {i2 : Int} {G : GH} {Q : Int → GH → Prop} (hi1 : inR i1) (hi2 : inR i2) (hnn : 285 ≤ nn) (h : f_X10_loan i1 i2 G Q) : Mt yX10_loan cX10_loan 3 (some .int) 2 46 0 0 [vr 272, vi i1, vi i2] (SF nn) G (fun v S' G' => S' = SF nn ∧ qI Q v S' G') (fun E S' G' => S' = SF nn ∧ False) := by
  refine Mt.of (l0 := [some (vr 272), some (vi i1), some (vi i2)]) (by decide) (Nat.le_of_ble_eq_true rfl) rfl ?_
  intro κ δ ρ0 X9 E hG
  replace X9 : CX κ δ RX10 cX10_loan 3 (some .int) := X9
  refine a_aload_n (pc := 0) X9 dX10_loan_0 rfl rfl ?_
  refine a_iload_n (pc := 1) X9 dX10_loan_1 rfl rfl ?_
  refine a_callV (pc := 2) X9 E (m_X10_noLoan hi1 hnn h) okX10 (is10 hnn) wM_X10_359 w_instanceMethod_X10_noLoan w_selects_X10_noLoan w_initialized_RX10 w_code_X10_noLoan cp_X10_noLoan pn_X10_noLoan rfl (Nat.le_of_ble_eq_true rfl) ⟨Nat.le_of_ble_eq_true rfl, Nat.le_of_ble_eq_true rfl⟩ ⟨Nat.le_of_ble_eq_true rfl, Nat.le_of_ble_eq_true rfl⟩ dX10_loan_2 (fun _ _ q => False.elim q) (kZ (fun r_1 G_1 hr_1 h hG_1 => ?_))
  refine a_if_ne (pc := 5) (tgt := 33) X9 dX10_loan_5 rfl (bool_inR hr_1) (fun c => ?_) (fun c => ?_)
  · have c_1 := c
    have h := h.1 c_1
    refine a_iconst (pc := 33) X9 dX10_loan_33 ?_
    refine a_goto (pc := 34) (tgt := 43) X9 dX10_loan_34 rfl ?_
    exact a_ireturn (pc := 43) X9 E rfl rfl (Nat.le_of_ble_eq_true rfl) (Nat.le_of_ble_eq_true rfl) dX10_loan_43 ⟨rfl, _, rfl, (show inR 0 by decide), h⟩
  · have c_1 := c
    have h := h.2 c_1
    refine a_aload_n (pc := 8) X9 dX10_loan_8 rfl rfl ?_
    refine a_iload_n (pc := 9) X9 dX10_loan_9 rfl rfl ?_
    refine a_i2l (pc := 10) X9 dX10_loan_10 hi2 ?_
    refine a_lconst (pc := 11) X9 0 dX10_loan_11 rfl ?_
    refine a_ldc2 (pc := 12) X9 (n := 3) wCL_X10_338 dX10_loan_12 (by decide +kernel) ?_
    refine a_callS (pc := 15) X9 E (m_X10_in (inR_inL hi2) (show inL 0 by decide) (show inL 3 by decide) hnn h) wM_X10_92 w_static_X10_in w_initialized_RX10 w_code_X10_in cp_X10_in pn_X10_in rfl (Nat.le_of_ble_eq_true rfl) ⟨Nat.le_of_ble_eq_true rfl, Nat.le_of_ble_eq_true rfl⟩ ⟨Nat.le_of_ble_eq_true rfl, Nat.le_of_ble_eq_true rfl⟩ dX10_loan_15 (fun _ _ q => False.elim q) (kZp (fun r_2 hr_2 h => ?_))
    refine joinM1 (A := fun v_1 => (v_1 = 0 ∨ v_1 = 1) → AW κ δ ρ0 nn 3 0 0 26 [some (vr 272), some (vi i1), some (vi i2)] [vi v_1, vr 272] (SF nn) G_1) (fun v_1 h h_v_1 => ?_) (fun j_1 hj_1 h => ?_) h
    · refine a_iconst (pc := 26) X9 dX10_loan_26 ?_
      refine a_callV (pc := 27) X9 E (m_X10_throwsIf (bool_inR h_v_1) (show inR 2 by decide) hnn h) okX10 (is10 hnn) wM_X10_340 w_instanceMethod_X10_throwsIf w_selects_X10_throwsIf w_initialized_RX10 w_code_X10_throwsIf cp_X10_throwsIf pn_X10_throwsIf rfl (Nat.le_of_ble_eq_true rfl) ⟨Nat.le_of_ble_eq_true rfl, Nat.le_of_ble_eq_true rfl⟩ ⟨Nat.le_of_ble_eq_true rfl, Nat.le_of_ble_eq_true rfl⟩ dX10_loan_27 (fun _ _ q => False.elim q) (kZ (fun r_3 G_2 hr_3 h hG_2 => ?_))
      refine a_if_eq (pc := 30) (tgt := 37) X9 dX10_loan_30 rfl (bool_inR hr_3) (fun c => ?_) (fun c => ?_)
      · have c_3 := c
        have h := h.1 c_3
        refine a_aload_n (pc := 37) X9 dX10_loan_37 rfl rfl ?_
        refine a_iload_n (pc := 38) X9 dX10_loan_38 rfl rfl ?_
        refine a_iload_n (pc := 39) X9 dX10_loan_39 rfl rfl ?_
        refine a_callV (pc := 40) X9 E (m_X10_ofLoan hi1 hi2 hnn h) okX10 (is10 hnn) wM_X10_217 w_instanceMethod_X10_ofLoan w_selects_X10_ofLoan w_initialized_RX10 w_code_X10_ofLoan cp_X10_ofLoan pn_X10_ofLoan rfl (Nat.le_of_ble_eq_true rfl) ⟨Nat.le_of_ble_eq_true rfl, Nat.le_of_ble_eq_true rfl⟩ ⟨Nat.le_of_ble_eq_true rfl, Nat.le_of_ble_eq_true rfl⟩ dX10_loan_40 (fun _ _ q => False.elim q) (kIp (fun r_4 hr_4 h => ?_))
        exact a_ireturn (pc := 43) X9 E rfl rfl (Nat.le_of_ble_eq_true rfl) (Nat.le_of_ble_eq_true rfl) dX10_loan_43 ⟨rfl, _, rfl, hr_4, h⟩
      · have c_3 := c
        have h := h.2 c_3
        refine a_iconst (pc := 33) X9 dX10_loan_33 ?_
        refine a_goto (pc := 34) (tgt := 43) X9 dX10_loan_34 rfl ?_
        exact a_ireturn (pc := 43) X9 E rfl rfl (Nat.le_of_ble_eq_true rfl) (Nat.le_of_ble_eq_true rfl) dX10_loan_43 ⟨rfl, _, rfl, (show inR 0 by decide), h⟩
    · refine a_if_ne (pc := 18) (tgt := 25) X9 dX10_loan_18 rfl (bool_inR hr_2) (fun c => ?_) (fun c => ?_)
      · have c_4 := c
        have h := h.1 c_4
        refine a_iconst (pc := 25) X9 dX10_loan_25 ?_
        exact hj_1 _ h (Or.inl rfl)
      · have c_4 := c
        have h := h.2 c_4
        refine a_iconst (pc := 21) X9 dX10_loan_21 ?_
        refine a_goto (pc := 22) (tgt := 26) X9 dX10_loan_22 rfl ?_
        exact hj_1 _ h (Or.inr rfl)
set_option maxHeartbeats 4000000 in
set_option maxRecDepth 100000 in
theorem m_X10_isBoard {nn : Nat} {i1 : Int} {G : GH} {Q : Int → Prop} (hi1 : inR i1) (hnn : 285 ≤ nn) (h : f_X10_isBoard i1 G Q) : Mt yX10_isBoard cX10_isBoard 2 (some .boolean) 1 25 0 0 [vr 272, vi i1] (SF nn) G (fun v S' G' => S' = SF nn ∧ qZ (fun r9 G9 => G9 = G ∧ Q r9) v S' G') (fun E S' G' => S' = SF nn ∧ False) := by
  refine Mt.of (l0 := [some (vr 272), some (vi i1)]) (by decide) (Nat.le_of_ble_eq_true rfl) rfl ?_
  intro κ δ ρ0 X9 E hG
  replace X9 : CX κ δ RX10 cX10_isBoard 2 (some .boolean) := X9
  refine a_iload_n (pc := 0) X9 dX10_isBoard_0 rfl rfl ?_
  refine a_i2l (pc := 1) X9 dX10_isBoard_1 hi1 ?_
  refine a_lconst (pc := 2) X9 0 dX10_isBoard_2 rfl ?_
  refine a_aload_n (pc := 3) X9 dX10_isBoard_3 rfl rfl ?_
  refine a_getR (pc := 4) X9 (q := 273) okX10 1 rfl wF_X10_9 (is10 hnn) rf10_1 dX10_isBoard_4 ?_
  refine a_iconst (pc := 7) X9 dX10_isBoard_7 ?_
  refine a_iald (pc := 8) X9 (ar10_1 hnn) (Nat.le_of_ble_eq_true rfl) (j := 0) rfl (Nat.le_of_ble_eq_true rfl) dX10_isBoard_8 ?_
  refine a_iconst (pc := 9) X9 dX10_isBoard_9 ?_
  refine a_isub (pc := 10) X9 dX10_isBoard_10 ?_
  obtain ⟨g_1, h⟩ := h
  refine a_i2l (pc := 11) X9 dX10_isBoard_11 g_1 ?_
  refine a_callS (pc := 12) X9 E (m_X10_in (inR_inL hi1) (show inL 0 by decide) (inR_inL g_1) hnn h) wM_X10_92 w_static_X10_in w_initialized_RX10 w_code_X10_in cp_X10_in pn_X10_in rfl (Nat.le_of_ble_eq_true rfl) ⟨Nat.le_of_ble_eq_true rfl, Nat.le_of_ble_eq_true rfl⟩ ⟨Nat.le_of_ble_eq_true rfl, Nat.le_of_ble_eq_true rfl⟩ dX10_isBoard_12 (fun _ _ q => False.elim q) (kZp (fun r_1 hr_1 h => ?_))
  exact a_ireturn (pc := 15) X9 E rfl (fit_bool hr_1).1 (Nat.le_of_ble_eq_true rfl) (Nat.le_of_ble_eq_true rfl) dX10_isBoard_15 ⟨rfl, _, rfl, hr_1, rfl, h⟩
set_option maxHeartbeats 4000000 in
set_option maxRecDepth 100000 in
theorem m_X10_rows {nn : Nat} {i1 : Int} {G : GH} {Q : Int → GH → Prop} (hi1 : inR i1) (hnn : 285 ≤ nn) (h : f_X10_rows i1 G Q) : Mt yX10_rows cX10_rows 2 (some .int) 2 46 0 0 [vr 272, vi i1] (SF nn) G (fun v S' G' => S' = SF nn ∧ qI Q v S' G') (fun E S' G' => S' = SF nn ∧ False) := by
  refine Mt.of (l0 := [some (vr 272), some (vi i1)]) (by decide) (Nat.le_of_ble_eq_true rfl) rfl ?_
  intro κ δ ρ0 X9 E hG
  replace X9 : CX κ δ RX10 cX10_rows 2 (some .int) := X9
  refine a_aload_n (pc := 0) X9 dX10_rows_0 rfl rfl ?_
  refine a_aload_n (pc := 1) X9 dX10_rows_1 rfl rfl ?_
  refine a_iload_n (pc := 2) X9 dX10_rows_2 rfl rfl ?_
  refine a_callV (pc := 3) X9 E (m_X10_isBoard hi1 hnn h) okX10 (is10 hnn) wM_X10_362 w_instanceMethod_X10_isBoard w_selects_X10_isBoard w_initialized_RX10 w_code_X10_isBoard cp_X10_isBoard pn_X10_isBoard rfl (Nat.le_of_ble_eq_true rfl) ⟨Nat.le_of_ble_eq_true rfl, Nat.le_of_ble_eq_true rfl⟩ ⟨Nat.le_of_ble_eq_true rfl, Nat.le_of_ble_eq_true rfl⟩ dX10_rows_3 (fun _ _ q => False.elim q) (kZp (fun r_1 hr_1 h => ?_))
  refine joinM1 (A := fun v_1 => (v_1 = 0 ∨ v_1 = 1) → AW κ δ ρ0 nn 2 0 0 14 [some (vr 272), some (vi i1)] [vi v_1, vr 272] (SF nn) G) (fun v_1 h h_v_1 => ?_) (fun j_1 hj_1 h => ?_) h
  · refine a_callV (pc := 14) X9 E (m_X10_wrong (bool_inR h_v_1) hnn h) okX10 (is10 hnn) wM_X10_321 w_instanceMethod_X10_wrong w_selects_X10_wrong w_initialized_RX10 w_code_X10_wrong cp_X10_wrong pn_X10_wrong rfl (Nat.le_of_ble_eq_true rfl) ⟨Nat.le_of_ble_eq_true rfl, Nat.le_of_ble_eq_true rfl⟩ ⟨Nat.le_of_ble_eq_true rfl, Nat.le_of_ble_eq_true rfl⟩ dX10_rows_14 (fun _ _ q => False.elim q) (kZ (fun r_2 G_1 hr_2 h hG_1 => ?_))
    refine a_if_eq (pc := 17) (tgt := 24) X9 dX10_rows_17 rfl (bool_inR hr_2) (fun c => ?_) (fun c => ?_)
    · have c_2 := c
      have h := h.1 c_2
      refine a_aload_n (pc := 24) X9 dX10_rows_24 rfl rfl ?_
      refine a_getR (pc := 25) X9 (q := 273) okX10 1 rfl wF_X10_9 (is10 hnn) rf10_1 dX10_rows_25 ?_
      refine a_bipush (pc := 28) X9 dX10_rows_28 rfl ?_
      refine a_iload_n (pc := 30) X9 dX10_rows_30 rfl rfl ?_
      refine a_iadd (pc := 31) X9 dX10_rows_31 ?_
      obtain ⟨g_1, h⟩ := h
      refine b_iald (pc := 32) X9 (ar10_1 hnn) (Nat.le_of_ble_eq_true rfl) g_1 dX10_rows_32 ?_
      exact a_ireturn (pc := 33) X9 E rfl rfl (Nat.le_of_ble_eq_true rfl) (Nat.le_of_ble_eq_true rfl) dX10_rows_33 ⟨rfl, _, rfl, (hG_1 _ _), h⟩
    · have c_2 := c
      have h := h.2 c_2
      refine a_iconst (pc := 20) X9 dX10_rows_20 ?_
      refine a_goto (pc := 21) (tgt := 33) X9 dX10_rows_21 rfl ?_
      exact a_ireturn (pc := 33) X9 E rfl rfl (Nat.le_of_ble_eq_true rfl) (Nat.le_of_ble_eq_true rfl) dX10_rows_33 ⟨rfl, _, rfl, (show inR 0 by decide), h⟩
  · refine a_if_ne (pc := 6) (tgt := 13) X9 dX10_rows_6 rfl (bool_inR hr_1) (fun c => ?_) (fun c => ?_)
    · have c_3 := c
      have h := h.1 c_3
      refine a_iconst (pc := 13) X9 dX10_rows_13 ?_
      exact hj_1 _ h (Or.inl rfl)
    · have c_3 := c
      have h := h.2 c_3
      refine a_iconst (pc := 9) X9 dX10_rows_9 ?_
      refine a_goto (pc := 10) (tgt := 14) X9 dX10_rows_10 rfl ?_
      exact hj_1 _ h (Or.inr rfl)
set_option maxHeartbeats 4000000 in
set_option maxRecDepth 100000 in
theorem m_X10_isService {nn : Nat} {i1 : Int} {G : GH} {Q : Int → Prop} (hi1 : inR i1) (hnn : 285 ≤ nn) (h : f_X10_isService i1 G Q) : Mt yX10_isService cX10_isService 2 (some .boolean) 1 25 0 0 [vr 272, vi i1] (SF nn) G (fun v S' G' => S' = SF nn ∧ qZ (fun r9 G9 => G9 = G ∧ Q r9) v S' G') (fun E S' G' => S' = SF nn ∧ False) := by
  refine Mt.of (l0 := [some (vr 272), some (vi i1)]) (by decide) (Nat.le_of_ble_eq_true rfl) rfl ?_
  intro κ δ ρ0 X9 E hG
  replace X9 : CX κ δ RX10 cX10_isService 2 (some .boolean) := X9
  refine a_iload_n (pc := 0) X9 dX10_isService_0 rfl rfl ?_
  refine a_i2l (pc := 1) X9 dX10_isService_1 hi1 ?_
  refine a_lconst (pc := 2) X9 0 dX10_isService_2 rfl ?_
  refine a_aload_n (pc := 3) X9 dX10_isService_3 rfl rfl ?_
  refine a_getR (pc := 4) X9 (q := 273) okX10 1 rfl wF_X10_9 (is10 hnn) rf10_1 dX10_isService_4 ?_
  refine a_iconst (pc := 7) X9 dX10_isService_7 ?_
  refine a_iald (pc := 8) X9 (ar10_1 hnn) (Nat.le_of_ble_eq_true rfl) (j := 5) rfl (Nat.le_of_ble_eq_true rfl) dX10_isService_8 ?_
  refine a_iconst (pc := 9) X9 dX10_isService_9 ?_
  refine a_isub (pc := 10) X9 dX10_isService_10 ?_
  obtain ⟨g_1, h⟩ := h
  refine a_i2l (pc := 11) X9 dX10_isService_11 g_1 ?_
  refine a_callS (pc := 12) X9 E (m_X10_in (inR_inL hi1) (show inL 0 by decide) (inR_inL g_1) hnn h) wM_X10_92 w_static_X10_in w_initialized_RX10 w_code_X10_in cp_X10_in pn_X10_in rfl (Nat.le_of_ble_eq_true rfl) ⟨Nat.le_of_ble_eq_true rfl, Nat.le_of_ble_eq_true rfl⟩ ⟨Nat.le_of_ble_eq_true rfl, Nat.le_of_ble_eq_true rfl⟩ dX10_isService_12 (fun _ _ q => False.elim q) (kZp (fun r_1 hr_1 h => ?_))
  exact a_ireturn (pc := 15) X9 E rfl (fit_bool hr_1).1 (Nat.le_of_ble_eq_true rfl) (Nat.le_of_ble_eq_true rfl) dX10_isService_15 ⟨rfl, _, rfl, hr_1, rfl, h⟩
set_option maxHeartbeats 4000000 in
set_option maxRecDepth 100000 in
theorem m_X10_noService {nn : Nat} {i1 : Int} {G : GH} {Q : Int → GH → Prop} (hi1 : inR i1) (hnn : 285 ≤ nn) (h : f_X10_noService i1 G Q) : Mt yX10_noService cX10_noService 2 (some .boolean) 2 46 0 0 [vr 272, vi i1] (SF nn) G (fun v S' G' => S' = SF nn ∧ qZ Q v S' G') (fun E S' G' => S' = SF nn ∧ False) := by
  refine Mt.of (l0 := [some (vr 272), some (vi i1)]) (by decide) (Nat.le_of_ble_eq_true rfl) rfl ?_
  intro κ δ ρ0 X9 E hG
  replace X9 : CX κ δ RX10 cX10_noService 2 (some .boolean) := X9
  refine a_aload_n (pc := 0) X9 dX10_noService_0 rfl rfl ?_
  refine a_aload_n (pc := 1) X9 dX10_noService_1 rfl rfl ?_
  refine a_iload_n (pc := 2) X9 dX10_noService_2 rfl rfl ?_
  refine a_callV (pc := 3) X9 E (m_X10_isService hi1 hnn h) okX10 (is10 hnn) wM_X10_365 w_instanceMethod_X10_isService w_selects_X10_isService w_initialized_RX10 w_code_X10_isService cp_X10_isService pn_X10_isService rfl (Nat.le_of_ble_eq_true rfl) ⟨Nat.le_of_ble_eq_true rfl, Nat.le_of_ble_eq_true rfl⟩ ⟨Nat.le_of_ble_eq_true rfl, Nat.le_of_ble_eq_true rfl⟩ dX10_noService_3 (fun _ _ q => False.elim q) (kZp (fun r_1 hr_1 h => ?_))
  refine joinM1 (A := fun v_1 => (v_1 = 0 ∨ v_1 = 1) → AW κ δ ρ0 nn 2 0 0 14 [some (vr 272), some (vi i1)] [vi v_1, vr 272] (SF nn) G) (fun v_1 h h_v_1 => ?_) (fun j_1 hj_1 h => ?_) h
  · refine a_callV (pc := 14) X9 E (m_X10_wrong (bool_inR h_v_1) hnn h) okX10 (is10 hnn) wM_X10_321 w_instanceMethod_X10_wrong w_selects_X10_wrong w_initialized_RX10 w_code_X10_wrong cp_X10_wrong pn_X10_wrong rfl (Nat.le_of_ble_eq_true rfl) ⟨Nat.le_of_ble_eq_true rfl, Nat.le_of_ble_eq_true rfl⟩ ⟨Nat.le_of_ble_eq_true rfl, Nat.le_of_ble_eq_true rfl⟩ dX10_noService_14 (fun _ _ q => False.elim q) (kZ (fun r_2 G_1 hr_2 h hG_1 => ?_))
    exact a_ireturn (pc := 17) X9 E rfl (fit_bool hr_2).1 (Nat.le_of_ble_eq_true rfl) (Nat.le_of_ble_eq_true rfl) dX10_noService_17 ⟨rfl, _, rfl, hr_2, h⟩
  · refine a_if_ne (pc := 6) (tgt := 13) X9 dX10_noService_6 rfl (bool_inR hr_1) (fun c => ?_) (fun c => ?_)
    · have c_2 := c
      have h := h.1 c_2
      refine a_iconst (pc := 13) X9 dX10_noService_13 ?_
      exact hj_1 _ h (Or.inl rfl)
    · have c_2 := c
      have h := h.2 c_2
      refine a_iconst (pc := 9) X9 dX10_noService_9 ?_
      refine a_goto (pc := 10) (tgt := 14) X9 dX10_noService_10 rfl ?_
      exact hj_1 _ h (Or.inr rfl)
set_option maxHeartbeats 4000000 in
set_option maxRecDepth 100000 in
theorem m_X10_hymns {nn : Nat} {i1 : Int} {G : GH} {Q : Int → GH → Prop} (hi1 : inR i1) (hnn : 285 ≤ nn) (h : f_X10_hymns i1 G Q) : Mt yX10_hymns cX10_hymns 2 (some .int) 3 67 0 0 [vr 272, vi i1] (SF nn) G (fun v S' G' => S' = SF nn ∧ qI Q v S' G') (fun E S' G' => S' = SF nn ∧ False) := by
  refine Mt.of (l0 := [some (vr 272), some (vi i1)]) (by decide) (Nat.le_of_ble_eq_true rfl) rfl ?_
  intro κ δ ρ0 X9 E hG
  replace X9 : CX κ δ RX10 cX10_hymns 2 (some .int) := X9
  refine a_aload_n (pc := 0) X9 dX10_hymns_0 rfl rfl ?_
  refine a_iload_n (pc := 1) X9 dX10_hymns_1 rfl rfl ?_
  refine a_callV (pc := 2) X9 E (m_X10_noService hi1 hnn h) okX10 (is10 hnn) wM_X10_368 w_instanceMethod_X10_noService w_selects_X10_noService w_initialized_RX10 w_code_X10_noService cp_X10_noService pn_X10_noService rfl (Nat.le_of_ble_eq_true rfl) ⟨Nat.le_of_ble_eq_true rfl, Nat.le_of_ble_eq_true rfl⟩ ⟨Nat.le_of_ble_eq_true rfl, Nat.le_of_ble_eq_true rfl⟩ dX10_hymns_2 (fun _ _ q => False.elim q) (kZ (fun r_1 G_1 hr_1 h hG_1 => ?_))
  refine a_if_eq (pc := 5) (tgt := 12) X9 dX10_hymns_5 rfl (bool_inR hr_1) (fun c => ?_) (fun c => ?_)
  · have c_1 := c
    have h := h.1 c_1
    refine a_aload_n (pc := 12) X9 dX10_hymns_12 rfl rfl ?_
    refine a_iload_n (pc := 13) X9 dX10_hymns_13 rfl rfl ?_
    refine a_callV (pc := 14) X9 E (m_X10_hymnsOf hi1 hnn h) okX10 (is10 hnn) wM_X10_148 w_instanceMethod_X10_hymnsOf w_selects_X10_hymnsOf w_initialized_RX10 w_code_X10_hymnsOf cp_X10_hymnsOf pn_X10_hymnsOf rfl (Nat.le_of_ble_eq_true rfl) ⟨Nat.le_of_ble_eq_true rfl, Nat.le_of_ble_eq_true rfl⟩ ⟨Nat.le_of_ble_eq_true rfl, Nat.le_of_ble_eq_true rfl⟩ dX10_hymns_14 (fun _ _ q => False.elim q) (kIp (fun r_2 hr_2 h => ?_))
    exact a_ireturn (pc := 17) X9 E rfl rfl (Nat.le_of_ble_eq_true rfl) (Nat.le_of_ble_eq_true rfl) dX10_hymns_17 ⟨rfl, _, rfl, hr_2, h⟩
  · have c_1 := c
    have h := h.2 c_1
    refine a_iconst (pc := 8) X9 dX10_hymns_8 ?_
    refine a_goto (pc := 9) (tgt := 17) X9 dX10_hymns_9 rfl ?_
    exact a_ireturn (pc := 17) X9 E rfl rfl (Nat.le_of_ble_eq_true rfl) (Nat.le_of_ble_eq_true rfl) dX10_hymns_17 ⟨rfl, _, rfl, (show inR 0 by decide), h⟩
set_option maxHeartbeats 4000000 in
set_option maxRecDepth 100000 in
theorem m_X10_hymn {nn : Nat} {i1 : Int} {i2 : Int} {G : GH} {Q : Int → GH → Prop} (hi1 : inR i1) (hi2 : inR i2) (hnn : 285 ≤ nn) (h : f_X10_hymn i1 i2 G Q) : Mt yX10_hymn cX10_hymn 3 (some .int) 3 67 0 0 [vr 272, vi i1, vi i2] (SF nn) G (fun v S' G' => S' = SF nn ∧ qI Q v S' G') (fun E S' G' => S' = SF nn ∧ False) := by
  refine Mt.of (l0 := [some (vr 272), some (vi i1), some (vi i2)]) (by decide) (Nat.le_of_ble_eq_true rfl) rfl ?_
  intro κ δ ρ0 X9 E hG
  replace X9 : CX κ δ RX10 cX10_hymn 3 (some .int) := X9
  refine a_aload_n (pc := 0) X9 dX10_hymn_0 rfl rfl ?_
  refine a_iload_n (pc := 1) X9 dX10_hymn_1 rfl rfl ?_
  refine a_callV (pc := 2) X9 E (m_X10_noService hi1 hnn h) okX10 (is10 hnn) wM_X10_368 w_instanceMethod_X10_noService w_selects_X10_noService w_initialized_RX10 w_code_X10_noService cp_X10_noService pn_X10_noService rfl (Nat.le_of_ble_eq_true rfl) ⟨Nat.le_of_ble_eq_true rfl, Nat.le_of_ble_eq_true rfl⟩ ⟨Nat.le_of_ble_eq_true rfl, Nat.le_of_ble_eq_true rfl⟩ dX10_hymn_2 (fun _ _ q => False.elim q) (kZ (fun r_1 G_1 hr_1 h hG_1 => ?_))
  refine a_if_eq (pc := 5) (tgt := 10) X9 dX10_hymn_5 rfl (bool_inR hr_1) (fun c => ?_) (fun c => ?_)
  · have c_1 := c
    have h := h.1 c_1
    refine a_iload_n (pc := 10) X9 dX10_hymn_10 rfl rfl ?_
    refine a_i2l (pc := 11) X9 dX10_hymn_11 hi2 ?_
    refine a_lconst (pc := 12) X9 0 dX10_hymn_12 rfl ?_
    refine a_aload_n (pc := 13) X9 dX10_hymn_13 rfl rfl ?_
    refine a_iload_n (pc := 14) X9 dX10_hymn_14 rfl rfl ?_
    refine a_callV (pc := 15) X9 E (m_X10_hymnsOf hi1 hnn h) okX10 (is10 hnn) wM_X10_148 w_instanceMethod_X10_hymnsOf w_selects_X10_hymnsOf w_initialized_RX10 w_code_X10_hymnsOf cp_X10_hymnsOf pn_X10_hymnsOf rfl (Nat.le_of_ble_eq_true rfl) ⟨Nat.le_of_ble_eq_true rfl, Nat.le_of_ble_eq_true rfl⟩ ⟨Nat.le_of_ble_eq_true rfl, Nat.le_of_ble_eq_true rfl⟩ dX10_hymn_15 (fun _ _ q => False.elim q) (kIp (fun r_2 hr_2 h => ?_))
    refine a_iconst (pc := 18) X9 dX10_hymn_18 ?_
    refine a_isub (pc := 19) X9 dX10_hymn_19 ?_
    obtain ⟨g_1, h⟩ := h
    refine a_i2l (pc := 20) X9 dX10_hymn_20 g_1 ?_
    refine a_callS (pc := 21) X9 E (m_X10_in (inR_inL hi2) (show inL 0 by decide) (inR_inL g_1) hnn h) wM_X10_92 w_static_X10_in w_initialized_RX10 w_code_X10_in cp_X10_in pn_X10_in rfl (Nat.le_of_ble_eq_true rfl) ⟨Nat.le_of_ble_eq_true rfl, Nat.le_of_ble_eq_true rfl⟩ ⟨Nat.le_of_ble_eq_true rfl, Nat.le_of_ble_eq_true rfl⟩ dX10_hymn_21 (fun _ _ q => False.elim q) (kZp (fun r_3 hr_3 h => ?_))
    refine a_if_eq (pc := 24) (tgt := 36) X9 dX10_hymn_24 rfl (bool_inR hr_3) (fun c => ?_) (fun c => ?_)
    · have c_2 := c
      have h := h.1 c_2
      refine a_iconst (pc := 36) X9 dX10_hymn_36 ?_
      exact a_ireturn (pc := 37) X9 E rfl rfl (Nat.le_of_ble_eq_true rfl) (Nat.le_of_ble_eq_true rfl) dX10_hymn_37 ⟨rfl, _, rfl, (show inR (-1) by decide), h⟩
    · have c_2 := c
      have h := h.2 c_2
      refine a_aload_n (pc := 27) X9 dX10_hymn_27 rfl rfl ?_
      refine a_iload_n (pc := 28) X9 dX10_hymn_28 rfl rfl ?_
      refine a_iload_n (pc := 29) X9 dX10_hymn_29 rfl rfl ?_
      refine a_callV (pc := 30) X9 E (m_X10_hymnOf hi1 hi2 hnn h) okX10 (is10 hnn) wM_X10_152 w_instanceMethod_X10_hymnOf w_selects_X10_hymnOf w_initialized_RX10 w_code_X10_hymnOf cp_X10_hymnOf pn_X10_hymnOf rfl (Nat.le_of_ble_eq_true rfl) ⟨Nat.le_of_ble_eq_true rfl, Nat.le_of_ble_eq_true rfl⟩ ⟨Nat.le_of_ble_eq_true rfl, Nat.le_of_ble_eq_true rfl⟩ dX10_hymn_30 (fun _ _ q => False.elim q) (kIp (fun r_4 hr_4 h => ?_))
      refine a_goto (pc := 33) (tgt := 37) X9 dX10_hymn_33 rfl ?_
      exact a_ireturn (pc := 37) X9 E rfl rfl (Nat.le_of_ble_eq_true rfl) (Nat.le_of_ble_eq_true rfl) dX10_hymn_37 ⟨rfl, _, rfl, hr_4, h⟩
  · have c_1 := c
    have h := h.2 c_1
    refine a_iconst (pc := 8) X9 dX10_hymn_8 ?_
    exact a_ireturn (pc := 9) X9 E rfl rfl (Nat.le_of_ble_eq_true rfl) (Nat.le_of_ble_eq_true rfl) dX10_hymn_9 ⟨rfl, _, rfl, (show inR 0 by decide), h⟩
set_option maxHeartbeats 4000000 in
set_option maxRecDepth 100000 in
theorem m_X10_noRow {nn : Nat} {i1 : Int} {i2 : Int} {G : GH} {Q : Int → GH → Prop} (hi1 : inR i1) (hi2 : inR i2) (hnn : 285 ≤ nn) (h : f_X10_noRow i1 i2 G Q) : Mt yX10_noRow cX10_noRow 3 (some .boolean) 2 46 0 0 [vr 272, vi i1, vi i2] (SF nn) G (fun v S' G' => S' = SF nn ∧ qZ Q v S' G') (fun E S' G' => S' = SF nn ∧ False) := by
  refine Mt.of (l0 := [some (vr 272), some (vi i1), some (vi i2)]) (by decide) (Nat.le_of_ble_eq_true rfl) rfl ?_
  intro κ δ ρ0 X9 E hG
  replace X9 : CX κ δ RX10 cX10_noRow 3 (some .boolean) := X9
  refine a_aload_n (pc := 0) X9 dX10_noRow_0 rfl rfl ?_
  refine a_aload_n (pc := 1) X9 dX10_noRow_1 rfl rfl ?_
  refine a_iload_n (pc := 2) X9 dX10_noRow_2 rfl rfl ?_
  refine a_callV (pc := 3) X9 E (m_X10_isBoard hi1 hnn h) okX10 (is10 hnn) wM_X10_362 w_instanceMethod_X10_isBoard w_selects_X10_isBoard w_initialized_RX10 w_code_X10_isBoard cp_X10_isBoard pn_X10_isBoard rfl (Nat.le_of_ble_eq_true rfl) ⟨Nat.le_of_ble_eq_true rfl, Nat.le_of_ble_eq_true rfl⟩ ⟨Nat.le_of_ble_eq_true rfl, Nat.le_of_ble_eq_true rfl⟩ dX10_noRow_3 (fun _ _ q => False.elim q) (kZp (fun r_1 hr_1 h => ?_))
  refine joinM1 (A := fun v_1 => (v_1 = 0 ∨ v_1 = 1) → AW κ δ ρ0 nn 3 0 0 35 [some (vr 272), some (vi i1), some (vi i2)] [vi v_1, vr 272] (SF nn) G) (fun v_1 h h_v_1 => ?_) (fun j_1 hj_1 h => ?_) h
  · refine a_callV (pc := 35) X9 E (m_X10_wrong (bool_inR h_v_1) hnn h) okX10 (is10 hnn) wM_X10_321 w_instanceMethod_X10_wrong w_selects_X10_wrong w_initialized_RX10 w_code_X10_wrong cp_X10_wrong pn_X10_wrong rfl (Nat.le_of_ble_eq_true rfl) ⟨Nat.le_of_ble_eq_true rfl, Nat.le_of_ble_eq_true rfl⟩ ⟨Nat.le_of_ble_eq_true rfl, Nat.le_of_ble_eq_true rfl⟩ dX10_noRow_35 (fun _ _ q => False.elim q) (kZ (fun r_3 G_1 hr_3 h hG_1 => ?_))
    exact a_ireturn (pc := 38) X9 E rfl (fit_bool hr_3).1 (Nat.le_of_ble_eq_true rfl) (Nat.le_of_ble_eq_true rfl) dX10_noRow_38 ⟨rfl, _, rfl, hr_3, h⟩
  · refine a_if_eq (pc := 6) (tgt := 30) X9 dX10_noRow_6 rfl (bool_inR hr_1) (fun c => ?_) (fun c => ?_)
    · have c_3 := c
      have h := h.1 c_3
      refine a_iconst (pc := 30) X9 dX10_noRow_30 ?_
      refine a_goto (pc := 31) (tgt := 35) X9 dX10_noRow_31 rfl ?_
      exact hj_1 _ h (Or.inr rfl)
    · have c_3 := c
      have h := h.2 c_3
      refine a_iload_n (pc := 9) X9 dX10_noRow_9 rfl rfl ?_
      refine a_i2l (pc := 10) X9 dX10_noRow_10 hi2 ?_
      refine a_lconst (pc := 11) X9 0 dX10_noRow_11 rfl ?_
      refine a_aload_n (pc := 12) X9 dX10_noRow_12 rfl rfl ?_
      refine a_getR (pc := 13) X9 (q := 273) okX10 1 rfl wF_X10_9 (is10 hnn) rf10_1 dX10_noRow_13 ?_
      refine a_bipush (pc := 16) X9 dX10_noRow_16 rfl ?_
      refine a_iload_n (pc := 18) X9 dX10_noRow_18 rfl rfl ?_
      refine a_iadd (pc := 19) X9 dX10_noRow_19 ?_
      obtain ⟨g_3, h⟩ := h
      refine b_iald (pc := 20) X9 (ar10_1 hnn) (Nat.le_of_ble_eq_true rfl) g_3 dX10_noRow_20 ?_
      refine a_iconst (pc := 21) X9 dX10_noRow_21 ?_
      refine a_isub (pc := 22) X9 dX10_noRow_22 ?_
      obtain ⟨g_4, h⟩ := h
      refine a_i2l (pc := 23) X9 dX10_noRow_23 g_4 ?_
      refine a_callS (pc := 24) X9 E (m_X10_in (inR_inL hi2) (show inL 0 by decide) (inR_inL g_4) hnn h) wM_X10_92 w_static_X10_in w_initialized_RX10 w_code_X10_in cp_X10_in pn_X10_in rfl (Nat.le_of_ble_eq_true rfl) ⟨Nat.le_of_ble_eq_true rfl, Nat.le_of_ble_eq_true rfl⟩ ⟨Nat.le_of_ble_eq_true rfl, Nat.le_of_ble_eq_true rfl⟩ dX10_noRow_24 (fun _ _ q => False.elim q) (kZp (fun r_4 hr_4 h => ?_))
      refine a_if_ne (pc := 27) (tgt := 34) X9 dX10_noRow_27 rfl (bool_inR hr_4) (fun c => ?_) (fun c => ?_)
      · have c_4 := c
        have h := h.1 c_4
        refine a_iconst (pc := 34) X9 dX10_noRow_34 ?_
        exact hj_1 _ h (Or.inl rfl)
      · have c_4 := c
        have h := h.2 c_4
        refine a_iconst (pc := 30) X9 dX10_noRow_30 ?_
        refine a_goto (pc := 31) (tgt := 35) X9 dX10_noRow_31 rfl ?_
        exact hj_1 _ h (Or.inr rfl)
set_option maxHeartbeats 4000000 in
set_option maxRecDepth 100000 in
theorem m_X10_place {nn : Nat} {i1 : Int} {i2 : Int} {i3 : Int} {i4 : Int} {G : GH} {Q : Int → GH → Prop} (hi1 : inR i1) (hi2 : inR i2) (hi3 : inR i3) (hi4 : inR i4) (hnn : 285 ≤ nn) (h : f_X10_place i1 i2 i3 i4 G Q) : Mt yX10_place cX10_place 6 (some .int) 3 68 0 0 [vr 272, vi i1, vi i2, vi i3, vi i4] (SF nn) G (fun v S' G' => S' = SF nn ∧ qI Q v S' G') (fun E S' G' => S' = SF nn ∧ False) := by
  refine Mt.of (l0 := [some (vr 272), some (vi i1), some (vi i2), some (vi i3), some (vi i4), none]) (by decide) (Nat.le_of_ble_eq_true rfl) rfl ?_
  intro κ δ ρ0 X9 E hG
  replace X9 : CX κ δ RX10 cX10_place 6 (some .int) := X9
  refine a_aload_n (pc := 0) X9 dX10_place_0 rfl rfl ?_
  refine a_iload_n (pc := 1) X9 dX10_place_1 rfl rfl ?_
  refine a_iload_n (pc := 2) X9 dX10_place_2 rfl rfl ?_
  refine a_callV (pc := 3) X9 E (m_X10_noRow hi1 hi2 hnn h) okX10 (is10 hnn) wM_X10_371 w_instanceMethod_X10_noRow w_selects_X10_noRow w_initialized_RX10 w_code_X10_noRow cp_X10_noRow pn_X10_noRow rfl (Nat.le_of_ble_eq_true rfl) ⟨Nat.le_of_ble_eq_true rfl, Nat.le_of_ble_eq_true rfl⟩ ⟨Nat.le_of_ble_eq_true rfl, Nat.le_of_ble_eq_true rfl⟩ dX10_place_3 (fun _ _ q => False.elim q) (kZ (fun r_1 G_1 hr_1 h hG_1 => ?_))
  refine a_if_ne (pc := 6) (tgt := 47) X9 dX10_place_6 rfl (bool_inR hr_1) (fun c => ?_) (fun c => ?_)
  · have c_1 := c
    have h := h.1 c_1
    refine a_iconst (pc := 47) X9 dX10_place_47 ?_
    exact a_ireturn (pc := 48) X9 E rfl rfl (Nat.le_of_ble_eq_true rfl) (Nat.le_of_ble_eq_true rfl) dX10_place_48 ⟨rfl, _, rfl, (show inR 0 by decide), h⟩
  · have c_1 := c
    have h := h.2 c_1
    refine a_aload_n (pc := 9) X9 dX10_place_9 rfl rfl ?_
    refine a_iload_n (pc := 10) X9 dX10_place_10 rfl rfl ?_
    refine a_i2l (pc := 11) X9 dX10_place_11 hi3 ?_
    refine a_lconst (pc := 12) X9 0 dX10_place_12 rfl ?_
    refine a_ldc2 (pc := 13) X9 (n := 2) wCL_X10_374 dX10_place_13 (by decide +kernel) ?_
    refine a_callS (pc := 16) X9 E (m_X10_in (inR_inL hi3) (show inL 0 by decide) (show inL 2 by decide) hnn h) wM_X10_92 w_static_X10_in w_initialized_RX10 w_code_X10_in cp_X10_in pn_X10_in rfl (Nat.le_of_ble_eq_true rfl) ⟨Nat.le_of_ble_eq_true rfl, Nat.le_of_ble_eq_true rfl⟩ ⟨Nat.le_of_ble_eq_true rfl, Nat.le_of_ble_eq_true rfl⟩ dX10_place_16 (fun _ _ q => False.elim q) (kZp (fun r_2 hr_2 h => ?_))
    refine joinM1 (A := fun v_1 => (v_1 = 0 ∨ v_1 = 1) → AW κ δ ρ0 nn 6 0 0 40 [some (vr 272), some (vi i1), some (vi i2), some (vi i3), some (vi i4), none] [vi v_1, vr 272] (SF nn) G_1) (fun v_1 h h_v_1 => ?_) (fun j_1 hj_1 h => ?_) h
    · refine a_iconst (pc := 40) X9 dX10_place_40 ?_
      refine a_callV (pc := 41) X9 E (m_X10_throwsIf (bool_inR h_v_1) (show inR 2 by decide) hnn h) okX10 (is10 hnn) wM_X10_340 w_instanceMethod_X10_throwsIf w_selects_X10_throwsIf w_initialized_RX10 w_code_X10_throwsIf cp_X10_throwsIf pn_X10_throwsIf rfl (Nat.le_of_ble_eq_true rfl) ⟨Nat.le_of_ble_eq_true rfl, Nat.le_of_ble_eq_true rfl⟩ ⟨Nat.le_of_ble_eq_true rfl, Nat.le_of_ble_eq_true rfl⟩ dX10_place_41 (fun _ _ q => False.elim q) (kZ (fun r_4 G_2 hr_4 h hG_2 => ?_))
      refine a_if_eq (pc := 44) (tgt := 49) X9 dX10_place_44 rfl (bool_inR hr_4) (fun c => ?_) (fun c => ?_)
      · have c_4 := c
        have h := h.1 c_4
        refine a_iconst (pc := 49) X9 dX10_place_49 ?_
        refine a_aload_n (pc := 50) X9 dX10_place_50 rfl rfl ?_
        refine a_iload_n (pc := 51) X9 dX10_place_51 rfl rfl ?_
        refine a_callV (pc := 52) X9 E (m_X10_firstRow hi1 hnn h) okX10 (is10 hnn) wM_X10_270 w_instanceMethod_X10_firstRow w_selects_X10_firstRow w_initialized_RX10 w_code_X10_firstRow cp_X10_firstRow pn_X10_firstRow rfl (Nat.le_of_ble_eq_true rfl) ⟨Nat.le_of_ble_eq_true rfl, Nat.le_of_ble_eq_true rfl⟩ ⟨Nat.le_of_ble_eq_true rfl, Nat.le_of_ble_eq_true rfl⟩ dX10_place_52 (fun _ _ q => False.elim q) (kIp (fun r_5 hr_5 h => ?_))
        refine a_iload_n (pc := 55) X9 dX10_place_55 rfl rfl ?_
        refine a_iadd (pc := 56) X9 dX10_place_56 ?_
        refine a_imul (pc := 57) X9 dX10_place_57 ?_
        refine a_iload_n (pc := 58) X9 dX10_place_58 rfl rfl ?_
        refine a_iadd (pc := 59) X9 dX10_place_59 ?_
        refine a_istore (pc := 60) X9 dX10_place_60 (Nat.le_of_ble_eq_true rfl) rfl rfl ?_
        refine a_aload_n (pc := 62) X9 dX10_place_62 rfl rfl ?_
        refine a_iload (pc := 63) X9 dX10_place_63 rfl ?_
        obtain ⟨g_1, h⟩ := h
        refine a_callV (pc := 65) X9 E (m_X10_hangs g_1 hnn h) okX10 (is10 hnn) wM_X10_237 w_instanceMethod_X10_hangs w_selects_X10_hangs w_initialized_RX10 w_code_X10_hangs cp_X10_hangs pn_X10_hangs rfl (Nat.le_of_ble_eq_true rfl) ⟨Nat.le_of_ble_eq_true rfl, Nat.le_of_ble_eq_true rfl⟩ ⟨Nat.le_of_ble_eq_true rfl, Nat.le_of_ble_eq_true rfl⟩ dX10_place_65 (fun _ _ q => False.elim q) (kZp (fun r_6 hr_6 h => ?_))
        refine a_if_ne (pc := 68) (tgt := 73) X9 dX10_place_68 rfl (bool_inR hr_6) (fun c => ?_) (fun c => ?_)
        · have c_5 := c
          have h := h.1 c_5
          refine a_iload (pc := 73) X9 dX10_place_73 rfl ?_
          have c_6 : (i4 < 0 ∨ 1 < i4) ∨ i4 = 0 ∨ i4 = 1 := by omega
          rcases c_6 with c_6 | c_6 | c_6
          · refine a_lookup (pc := 75) (tgt := 127) X9 dX10_place_75 hi4 rfl (lk2 c_6) rfl ?_
            have h := h.1 c_6
            refine a_aload_n (pc := 127) X9 dX10_place_127 rfl rfl ?_
            refine a_getR (pc := 128) X9 (q := 273) okX10 1 rfl wF_X10_9 (is10 hnn) rf10_1 dX10_place_128 ?_
            refine a_iload (pc := 131) X9 dX10_place_131 rfl ?_
            refine a_iconst (pc := 133) X9 dX10_place_133 ?_
            refine a_callS (pc := 134) X9 E (m_X10_placeAt g_1 (show inR 2 by decide) hnn h) wM_X10_234 w_static_X10_placeAt w_initialized_RX10 w_code_X10_placeAt cp_X10_placeAt pn_X10_placeAt rfl (Nat.le_of_ble_eq_true rfl) ⟨Nat.le_of_ble_eq_true rfl, Nat.le_of_ble_eq_true rfl⟩ ⟨Nat.le_of_ble_eq_true rfl, Nat.le_of_ble_eq_true rfl⟩ dX10_place_134 (fun _ _ q => False.elim q) (kIp (fun r_7 hr_7 h => ?_))
            obtain ⟨g_2, h⟩ := h
            refine b_iald (pc := 137) X9 (ar10_1 hnn) (Nat.le_of_ble_eq_true rfl) g_2 dX10_place_137 ?_
            exact a_ireturn (pc := 138) X9 E rfl rfl (Nat.le_of_ble_eq_true rfl) (Nat.le_of_ble_eq_true rfl) dX10_place_138 ⟨rfl, _, rfl, (hG_2 _ _), h⟩
          · refine a_lookup (pc := 75) (tgt := 100) X9 dX10_place_75 hi4 rfl (by rw [c_6] <;> rfl) rfl ?_
            have h := h.2.1 c_6
            refine a_aload_n (pc := 100) X9 dX10_place_100 rfl rfl ?_
            refine a_getR (pc := 101) X9 (q := 273) okX10 1 rfl wF_X10_9 (is10 hnn) rf10_1 dX10_place_101 ?_
            refine a_iload (pc := 104) X9 dX10_place_104 rfl ?_
            refine a_iconst (pc := 106) X9 dX10_place_106 ?_
            refine a_callS (pc := 107) X9 E (m_X10_placeAt g_1 (show inR 0 by decide) hnn h) wM_X10_234 w_static_X10_placeAt w_initialized_RX10 w_code_X10_placeAt cp_X10_placeAt pn_X10_placeAt rfl (Nat.le_of_ble_eq_true rfl) ⟨Nat.le_of_ble_eq_true rfl, Nat.le_of_ble_eq_true rfl⟩ ⟨Nat.le_of_ble_eq_true rfl, Nat.le_of_ble_eq_true rfl⟩ dX10_place_107 (fun _ _ q => False.elim q) (kIp (fun r_8 hr_8 h => ?_))
            obtain ⟨g_3, h⟩ := h
            refine b_iald (pc := 110) X9 (ar10_1 hnn) (Nat.le_of_ble_eq_true rfl) g_3 dX10_place_110 ?_
            exact a_ireturn (pc := 111) X9 E rfl rfl (Nat.le_of_ble_eq_true rfl) (Nat.le_of_ble_eq_true rfl) dX10_place_111 ⟨rfl, _, rfl, (hG_2 _ _), h⟩
          · refine a_lookup (pc := 75) (tgt := 112) X9 dX10_place_75 hi4 rfl (by rw [c_6] <;> rfl) rfl ?_
            have h := h.2.2 c_6
            refine a_aload_n (pc := 112) X9 dX10_place_112 rfl rfl ?_
            refine a_getR (pc := 113) X9 (q := 273) okX10 1 rfl wF_X10_9 (is10 hnn) rf10_1 dX10_place_113 ?_
            refine a_iload (pc := 116) X9 dX10_place_116 rfl ?_
            refine a_iconst (pc := 118) X9 dX10_place_118 ?_
            refine a_callS (pc := 119) X9 E (m_X10_placeAt g_1 (show inR 1 by decide) hnn h) wM_X10_234 w_static_X10_placeAt w_initialized_RX10 w_code_X10_placeAt cp_X10_placeAt pn_X10_placeAt rfl (Nat.le_of_ble_eq_true rfl) ⟨Nat.le_of_ble_eq_true rfl, Nat.le_of_ble_eq_true rfl⟩ ⟨Nat.le_of_ble_eq_true rfl, Nat.le_of_ble_eq_true rfl⟩ dX10_place_119 (fun _ _ q => False.elim q) (kIp (fun r_9 hr_9 h => ?_))
            obtain ⟨g_4, h⟩ := h
            refine b_iald (pc := 122) X9 (ar10_1 hnn) (Nat.le_of_ble_eq_true rfl) g_4 dX10_place_122 ?_
            refine a_callS (pc := 123) X9 E (m_X10_numberOf (hG_2 _ _) hnn h) wM_X10_376 w_static_X10_numberOf w_initialized_RX10 w_code_X10_numberOf cp_X10_numberOf pn_X10_numberOf rfl (Nat.le_of_ble_eq_true rfl) ⟨Nat.le_of_ble_eq_true rfl, Nat.le_of_ble_eq_true rfl⟩ ⟨Nat.le_of_ble_eq_true rfl, Nat.le_of_ble_eq_true rfl⟩ dX10_place_123 (fun _ _ q => False.elim q) (kIp (fun r_10 hr_10 h => ?_))
            exact a_ireturn (pc := 126) X9 E rfl rfl (Nat.le_of_ble_eq_true rfl) (Nat.le_of_ble_eq_true rfl) dX10_place_126 ⟨rfl, _, rfl, hr_10, h⟩
        · have c_5 := c
          have h := h.2 c_5
          refine a_iconst (pc := 71) X9 dX10_place_71 ?_
          exact a_ireturn (pc := 72) X9 E rfl rfl (Nat.le_of_ble_eq_true rfl) (Nat.le_of_ble_eq_true rfl) dX10_place_72 ⟨rfl, _, rfl, (show inR (-1) by decide), h⟩
      · have c_4 := c
        have h := h.2 c_4
        refine a_iconst (pc := 47) X9 dX10_place_47 ?_
        exact a_ireturn (pc := 48) X9 E rfl rfl (Nat.le_of_ble_eq_true rfl) (Nat.le_of_ble_eq_true rfl) dX10_place_48 ⟨rfl, _, rfl, (show inR 0 by decide), h⟩
    · refine a_if_eq (pc := 19) (tgt := 35) X9 dX10_place_19 rfl (bool_inR hr_2) (fun c => ?_) (fun c => ?_)
      · have c_7 := c
        have h := h.1 c_7
        refine a_iconst (pc := 35) X9 dX10_place_35 ?_
        refine a_goto (pc := 36) (tgt := 40) X9 dX10_place_36 rfl ?_
        exact hj_1 _ h (Or.inr rfl)
      · have c_7 := c
        have h := h.2 c_7
        refine a_iload (pc := 22) X9 dX10_place_22 rfl ?_
        refine a_i2l (pc := 24) X9 dX10_place_24 hi4 ?_
        refine a_lconst (pc := 25) X9 0 dX10_place_25 rfl ?_
        refine a_ldc2 (pc := 26) X9 (n := 2) wCL_X10_374 dX10_place_26 (by decide +kernel) ?_
        refine a_callS (pc := 29) X9 E (m_X10_in (inR_inL hi4) (show inL 0 by decide) (show inL 2 by decide) hnn h) wM_X10_92 w_static_X10_in w_initialized_RX10 w_code_X10_in cp_X10_in pn_X10_in rfl (Nat.le_of_ble_eq_true rfl) ⟨Nat.le_of_ble_eq_true rfl, Nat.le_of_ble_eq_true rfl⟩ ⟨Nat.le_of_ble_eq_true rfl, Nat.le_of_ble_eq_true rfl⟩ dX10_place_29 (fun _ _ q => False.elim q) (kZp (fun r_11 hr_11 h => ?_))
        refine a_if_ne (pc := 32) (tgt := 39) X9 dX10_place_32 rfl (bool_inR hr_11) (fun c => ?_) (fun c => ?_)
        · have c_8 := c
          have h := h.1 c_8
          refine a_iconst (pc := 39) X9 dX10_place_39 ?_
          exact hj_1 _ h (Or.inl rfl)
        · have c_8 := c
          have h := h.2 c_8
          refine a_iconst (pc := 35) X9 dX10_place_35 ?_
          refine a_goto (pc := 36) (tgt := 40) X9 dX10_place_36 rfl ?_
          exact hj_1 _ h (Or.inr rfl)
set_option maxHeartbeats 4000000 in
set_option maxRecDepth 100000 in
theorem m_X10_hung {nn : Nat} {i1 : Int} {i2 : Int} {G : GH} {Q : Int → GH → Prop} (hi1 : inR i1) (hi2 : inR i2) (hnn : 285 ≤ nn) (h : f_X10_hung i1 i2 G Q) : Mt yX10_hung cX10_hung 3 (some .int) 3 68 0 0 [vr 272, vi i1, vi i2] (SF nn) G (fun v S' G' => S' = SF nn ∧ qI Q v S' G') (fun E S' G' => S' = SF nn ∧ False) := by
  refine Mt.of (l0 := [some (vr 272), some (vi i1), some (vi i2)]) (by decide) (Nat.le_of_ble_eq_true rfl) rfl ?_
  intro κ δ ρ0 X9 E hG
  replace X9 : CX κ δ RX10 cX10_hung 3 (some .int) := X9
  refine a_aload_n (pc := 0) X9 dX10_hung_0 rfl rfl ?_
  refine a_iload_n (pc := 1) X9 dX10_hung_1 rfl rfl ?_
  refine a_iload_n (pc := 2) X9 dX10_hung_2 rfl rfl ?_
  refine a_callV (pc := 3) X9 E (m_X10_noRow hi1 hi2 hnn h) okX10 (is10 hnn) wM_X10_371 w_instanceMethod_X10_noRow w_selects_X10_noRow w_initialized_RX10 w_code_X10_noRow cp_X10_noRow pn_X10_noRow rfl (Nat.le_of_ble_eq_true rfl) ⟨Nat.le_of_ble_eq_true rfl, Nat.le_of_ble_eq_true rfl⟩ ⟨Nat.le_of_ble_eq_true rfl, Nat.le_of_ble_eq_true rfl⟩ dX10_hung_3 (fun _ _ q => False.elim q) (kZ (fun r_1 G_1 hr_1 h hG_1 => ?_))
  refine a_if_eq (pc := 6) (tgt := 13) X9 dX10_hung_6 rfl (bool_inR hr_1) (fun c => ?_) (fun c => ?_)
  · have c_1 := c
    have h := h.1 c_1
    refine a_aload_n (pc := 13) X9 dX10_hung_13 rfl rfl ?_
    refine a_getR (pc := 14) X9 (q := 273) okX10 1 rfl wF_X10_9 (is10 hnn) rf10_1 dX10_hung_14 ?_
    refine a_sipush (pc := 17) X9 dX10_hung_17 rfl ?_
    refine a_aload_n (pc := 20) X9 dX10_hung_20 rfl rfl ?_
    refine a_iload_n (pc := 21) X9 dX10_hung_21 rfl rfl ?_
    refine a_callV (pc := 22) X9 E (m_X10_firstRow hi1 hnn h) okX10 (is10 hnn) wM_X10_270 w_instanceMethod_X10_firstRow w_selects_X10_firstRow w_initialized_RX10 w_code_X10_firstRow cp_X10_firstRow pn_X10_firstRow rfl (Nat.le_of_ble_eq_true rfl) ⟨Nat.le_of_ble_eq_true rfl, Nat.le_of_ble_eq_true rfl⟩ ⟨Nat.le_of_ble_eq_true rfl, Nat.le_of_ble_eq_true rfl⟩ dX10_hung_22 (fun _ _ q => False.elim q) (kIp (fun r_2 hr_2 h => ?_))
    refine a_iadd (pc := 25) X9 dX10_hung_25 ?_
    refine a_iload_n (pc := 26) X9 dX10_hung_26 rfl rfl ?_
    refine a_iadd (pc := 27) X9 dX10_hung_27 ?_
    obtain ⟨g_1, h⟩ := h
    refine b_iald (pc := 28) X9 (ar10_1 hnn) (Nat.le_of_ble_eq_true rfl) g_1 dX10_hung_28 ?_
    exact a_ireturn (pc := 29) X9 E rfl rfl (Nat.le_of_ble_eq_true rfl) (Nat.le_of_ble_eq_true rfl) dX10_hung_29 ⟨rfl, _, rfl, (hG_1 _ _), h⟩
  · have c_1 := c
    have h := h.2 c_1
    refine a_iconst (pc := 9) X9 dX10_hung_9 ?_
    refine a_goto (pc := 10) (tgt := 29) X9 dX10_hung_10 rfl ?_
    exact a_ireturn (pc := 29) X9 E rfl rfl (Nat.le_of_ble_eq_true rfl) (Nat.le_of_ble_eq_true rfl) dX10_hung_29 ⟨rfl, _, rfl, (show inR 0 by decide), h⟩
set_option maxHeartbeats 4000000 in
set_option maxRecDepth 100000 in
theorem m_X10_isHole {nn : Nat} {i1 : Int} {G : GH} {Q : Int → Prop} (hi1 : inR i1) (hnn : 285 ≤ nn) (h : f_X10_isHole i1 G Q) : Mt yX10_isHole cX10_isHole 4 (some .boolean) 2 42 0 0 [vr 272, vi i1] (SF nn) G (fun v S' G' => S' = SF nn ∧ qZ (fun r9 G9 => G9 = G ∧ Q r9) v S' G') (fun E S' G' => S' = SF nn ∧ False) := by
  refine Mt.of (l0 := [some (vr 272), some (vi i1), none, none]) (by decide) (Nat.le_of_ble_eq_true rfl) rfl ?_
  intro κ δ ρ0 X9 E hG
  replace X9 : CX κ δ RX10 cX10_isHole 4 (some .boolean) := X9
  refine a_iconst (pc := 0) X9 dX10_isHole_0 ?_
  refine a_istore_n (pc := 1) X9 dX10_isHole_1 rfl (Nat.le_of_ble_eq_true rfl) rfl rfl ?_
  refine a_iconst (pc := 2) X9 dX10_isHole_2 ?_
  refine a_istore_n (pc := 3) X9 dX10_isHole_3 rfl (Nat.le_of_ble_eq_true rfl) rfl rfl ?_
  refine loopM2 (A := fun x2_1 x3_1 => inR x2_1 → inR x3_1 → AW κ δ ρ0 nn 4 0 0 4 [some (vr 272), some (vi i1), some (vi x2_1), some (vi x3_1)] [] (SF nn) G) (fun k_1 hk_1 x2_1 x3_1 h h_x2_1 h_x3_1 => ?_) _ _ h (by decide) (by decide)
  refine a_iload_n (pc := 4) X9 dX10_isHole_4 rfl rfl ?_
  refine a_iconst (pc := 5) X9 dX10_isHole_5 ?_
  refine a_icmp_ge (pc := 6) (tgt := 50) X9 dX10_isHole_6 rfl h_x3_1 (by decide) (fun c => ?_) (fun c => ?_)
  · have c_1 := c
    have h := h.1 c_1
    refine a_iload_n (pc := 50) X9 dX10_isHole_50 rfl rfl ?_
    obtain ⟨g_1, h⟩ := h
    exact a_ireturn (pc := 51) X9 E rfl (fit_bool g_1).1 (Nat.le_of_ble_eq_true rfl) (Nat.le_of_ble_eq_true rfl) dX10_isHole_51 ⟨rfl, _, rfl, g_1, rfl, h⟩
  · have c_1 := c
    have h := h.2 c_1
    refine a_iload_n (pc := 9) X9 dX10_isHole_9 rfl rfl ?_
    refine a_if_ne (pc := 10) (tgt := 38) X9 dX10_isHole_10 rfl h_x2_1 (fun c => ?_) (fun c => ?_)
    · have c_2 := c
      have h := h.1 c_2
      refine a_iconst (pc := 38) X9 dX10_isHole_38 ?_
      refine a_goto (pc := 39) (tgt := 43) X9 dX10_isHole_39 rfl ?_
      refine a_istore_n (pc := 43) X9 dX10_isHole_43 rfl (Nat.le_of_ble_eq_true rfl) rfl rfl ?_
      refine a_iinc (pc := 44) X9 dX10_isHole_44 rfl (Nat.le_of_ble_eq_true rfl) rfl rfl ?_
      refine a_goto (pc := 47) (tgt := 4) X9 dX10_isHole_47 rfl ?_
      have q_1 : inR (x3_1) := h_x3_1
      have g_2 : inR ((x3_1 + 1)) := ⟨by omega, by omega⟩
      exact hk_1 _ _ h (by decide) g_2
    · have c_2 := c
      have h := h.2 c_2
      refine a_aload_n (pc := 13) X9 dX10_isHole_13 rfl rfl ?_
      refine a_iconst (pc := 14) X9 dX10_isHole_14 ?_
      refine a_iload_n (pc := 15) X9 dX10_isHole_15 rfl rfl ?_
      refine a_imul (pc := 16) X9 dX10_isHole_16 ?_
      refine a_iload_n (pc := 17) X9 dX10_isHole_17 rfl rfl ?_
      refine a_iadd (pc := 18) X9 dX10_isHole_18 ?_
      obtain ⟨g_3, h⟩ := h
      refine a_callV (pc := 19) X9 E (m_X10_dueDigit g_3 hnn h) okX10 (is10 hnn) wM_X10_297 w_instanceMethod_X10_dueDigit w_selects_X10_dueDigit w_initialized_RX10 w_code_X10_dueDigit cp_X10_dueDigit pn_X10_dueDigit rfl (Nat.le_of_ble_eq_true rfl) ⟨Nat.le_of_ble_eq_true rfl, Nat.le_of_ble_eq_true rfl⟩ ⟨Nat.le_of_ble_eq_true rfl, Nat.le_of_ble_eq_true rfl⟩ dX10_isHole_19 (fun _ _ q => False.elim q) (kIp (fun r_1 hr_1 h => ?_))
      refine a_iconst (pc := 22) X9 dX10_isHole_22 ?_
      refine a_icmp_eq (pc := 23) (tgt := 42) X9 dX10_isHole_23 rfl hr_1 (by decide) (fun c => ?_) (fun c => ?_)
      · have c_3 := c
        have h := h.1 c_3
        refine a_iconst (pc := 42) X9 dX10_isHole_42 ?_
        refine a_istore_n (pc := 43) X9 dX10_isHole_43 rfl (Nat.le_of_ble_eq_true rfl) rfl rfl ?_
        refine a_iinc (pc := 44) X9 dX10_isHole_44 rfl (Nat.le_of_ble_eq_true rfl) rfl rfl ?_
        refine a_goto (pc := 47) (tgt := 4) X9 dX10_isHole_47 rfl ?_
        have q_2 : inR (x3_1) := h_x3_1
        have g_4 : inR ((x3_1 + 1)) := ⟨by omega, by omega⟩
        exact hk_1 _ _ h (by decide) g_4
      · have c_3 := c
        have h := h.2 c_3
        refine a_aload_n (pc := 26) X9 dX10_isHole_26 rfl rfl ?_
        refine a_iconst (pc := 27) X9 dX10_isHole_27 ?_
        refine a_iload_n (pc := 28) X9 dX10_isHole_28 rfl rfl ?_
        refine a_imul (pc := 29) X9 dX10_isHole_29 ?_
        refine a_iload_n (pc := 30) X9 dX10_isHole_30 rfl rfl ?_
        refine a_iadd (pc := 31) X9 dX10_isHole_31 ?_
        refine a_callV (pc := 32) X9 E (m_X10_hangs g_3 hnn h) okX10 (is10 hnn) wM_X10_237 w_instanceMethod_X10_hangs w_selects_X10_hangs w_initialized_RX10 w_code_X10_hangs cp_X10_hangs pn_X10_hangs rfl (Nat.le_of_ble_eq_true rfl) ⟨Nat.le_of_ble_eq_true rfl, Nat.le_of_ble_eq_true rfl⟩ ⟨Nat.le_of_ble_eq_true rfl, Nat.le_of_ble_eq_true rfl⟩ dX10_isHole_32 (fun _ _ q => False.elim q) (kZp (fun r_2 hr_2 h => ?_))
        refine a_if_ne (pc := 35) (tgt := 42) X9 dX10_isHole_35 rfl (bool_inR hr_2) (fun c => ?_) (fun c => ?_)
        · have c_4 := c
          have h := h.1 c_4
          refine a_iconst (pc := 42) X9 dX10_isHole_42 ?_
          refine a_istore_n (pc := 43) X9 dX10_isHole_43 rfl (Nat.le_of_ble_eq_true rfl) rfl rfl ?_
          refine a_iinc (pc := 44) X9 dX10_isHole_44 rfl (Nat.le_of_ble_eq_true rfl) rfl rfl ?_
          refine a_goto (pc := 47) (tgt := 4) X9 dX10_isHole_47 rfl ?_
          have q_3 : inR (x3_1) := h_x3_1
          have g_5 : inR ((x3_1 + 1)) := ⟨by omega, by omega⟩
          exact hk_1 _ _ h (by decide) g_5
        · have c_4 := c
          have h := h.2 c_4
          refine a_iconst (pc := 38) X9 dX10_isHole_38 ?_
          refine a_goto (pc := 39) (tgt := 43) X9 dX10_isHole_39 rfl ?_
          refine a_istore_n (pc := 43) X9 dX10_isHole_43 rfl (Nat.le_of_ble_eq_true rfl) rfl rfl ?_
          refine a_iinc (pc := 44) X9 dX10_isHole_44 rfl (Nat.le_of_ble_eq_true rfl) rfl rfl ?_
          refine a_goto (pc := 47) (tgt := 4) X9 dX10_isHole_47 rfl ?_
          have q_4 : inR (x3_1) := h_x3_1
          have g_6 : inR ((x3_1 + 1)) := ⟨by omega, by omega⟩
          exact hk_1 _ _ h (by decide) g_6
set_option maxHeartbeats 4000000 in
set_option maxRecDepth 100000 in
theorem m_X10_holes {nn : Nat}  {G : GH} {Q : Int → GH → Prop}  (hnn : 285 ≤ nn) (h : f_X10_holes G Q) : Mt yX10_holes cX10_holes 3 (some .int) 3 65 0 0 [vr 272] (SF nn) G (fun v S' G' => S' = SF nn ∧ qI Q v S' G') (fun E S' G' => S' = SF nn ∧ False) := by
  refine Mt.of (l0 := [some (vr 272), none, none]) (by decide) (Nat.le_of_ble_eq_true rfl) rfl ?_
  intro κ δ ρ0 X9 E hG
  replace X9 : CX κ δ RX10 cX10_holes 3 (some .int) := X9
  refine a_aload_n (pc := 0) X9 dX10_holes_0 rfl rfl ?_
  refine a_iconst (pc := 1) X9 dX10_holes_1 ?_
  refine a_putI (pc := 2) X9 okX10 0 rfl rfl (v := 0) wF_X10_58 (is10 hnn) dX10_holes_2 (by decide) (fit_int _) (fun _ => ?_)
  obtain ⟨G_1, eG_1⟩ : ∃ G9, G9 = upG G 272 0 0 := ⟨_, rfl⟩
  have hG_1 : GR G_1 := by rw [eG_1]; exact (GR.up hG (by decide))
  have h := h G_1 eG_1
  rw [← eG_1]
  refine a_iconst (pc := 5) X9 dX10_holes_5 ?_
  refine a_istore_n (pc := 6) X9 dX10_holes_6 rfl (Nat.le_of_ble_eq_true rfl) rfl rfl ?_
  refine a_iconst (pc := 7) X9 dX10_holes_7 ?_
  refine a_istore_n (pc := 8) X9 dX10_holes_8 rfl (Nat.le_of_ble_eq_true rfl) rfl rfl ?_
  refine loopM2 (A := fun x1_1 x2_1 => inR x1_1 → inR x2_1 → AW κ δ ρ0 nn 3 0 0 9 [some (vr 272), some (vi x1_1), some (vi x2_1)] [] (SF nn) G_1) (fun k_1 hk_1 x1_1 x2_1 h h_x1_1 h_x2_1 => ?_) _ _ h (by decide) (by decide)
  refine a_iload_n (pc := 9) X9 dX10_holes_9 rfl rfl ?_
  refine a_aload_n (pc := 10) X9 dX10_holes_10 rfl rfl ?_
  refine a_callV (pc := 11) X9 E (m_X10_allRows  hnn h) okX10 (is10 hnn) wM_X10_285 w_instanceMethod_X10_allRows w_selects_X10_allRows w_initialized_RX10 w_code_X10_allRows cp_X10_allRows pn_X10_allRows rfl (Nat.le_of_ble_eq_true rfl) ⟨Nat.le_of_ble_eq_true rfl, Nat.le_of_ble_eq_true rfl⟩ ⟨Nat.le_of_ble_eq_true rfl, Nat.le_of_ble_eq_true rfl⟩ dX10_holes_11 (fun _ _ q => False.elim q) (kIp (fun r_1 hr_1 h => ?_))
  refine a_icmp_ge (pc := 14) (tgt := 39) X9 dX10_holes_14 rfl h_x2_1 hr_1 (fun c => ?_) (fun c => ?_)
  · have c_1 := c
    have h := h.1 c_1
    refine a_iload_n (pc := 39) X9 dX10_holes_39 rfl rfl ?_
    exact a_ireturn (pc := 40) X9 E rfl rfl (Nat.le_of_ble_eq_true rfl) (Nat.le_of_ble_eq_true rfl) dX10_holes_40 ⟨rfl, _, rfl, h_x1_1, h⟩
  · have c_1 := c
    have h := h.2 c_1
    refine a_iload_n (pc := 17) X9 dX10_holes_17 rfl rfl ?_
    refine a_aload_n (pc := 18) X9 dX10_holes_18 rfl rfl ?_
    refine a_iload_n (pc := 19) X9 dX10_holes_19 rfl rfl ?_
    refine a_callV (pc := 20) X9 E (m_X10_isHole h_x2_1 hnn h) okX10 (is10 hnn) wM_X10_379 w_instanceMethod_X10_isHole w_selects_X10_isHole w_initialized_RX10 w_code_X10_isHole cp_X10_isHole pn_X10_isHole rfl (Nat.le_of_ble_eq_true rfl) ⟨Nat.le_of_ble_eq_true rfl, Nat.le_of_ble_eq_true rfl⟩ ⟨Nat.le_of_ble_eq_true rfl, Nat.le_of_ble_eq_true rfl⟩ dX10_holes_20 (fun _ _ q => False.elim q) (kZp (fun r_2 hr_2 h => ?_))
    refine a_if_eq (pc := 23) (tgt := 30) X9 dX10_holes_23 rfl (bool_inR hr_2) (fun c => ?_) (fun c => ?_)
    · have c_2 := c
      have h := h.1 c_2
      refine a_iconst (pc := 30) X9 dX10_holes_30 ?_
      refine a_iadd (pc := 31) X9 dX10_holes_31 ?_
      refine a_istore_n (pc := 32) X9 dX10_holes_32 rfl (Nat.le_of_ble_eq_true rfl) rfl rfl ?_
      refine a_iinc (pc := 33) X9 dX10_holes_33 rfl (Nat.le_of_ble_eq_true rfl) rfl rfl ?_
      refine a_goto (pc := 36) (tgt := 9) X9 dX10_holes_36 rfl ?_
      obtain ⟨g_1, h⟩ := h
      have q_1 : inR (r_1) := hr_1
      have q_2 : inR (x2_1) := h_x2_1
      have g_2 : inR ((x2_1 + 1)) := ⟨by omega, by omega⟩
      exact hk_1 _ _ h g_1 g_2
    · have c_2 := c
      have h := h.2 c_2
      refine a_iconst (pc := 26) X9 dX10_holes_26 ?_
      refine a_goto (pc := 27) (tgt := 31) X9 dX10_holes_27 rfl ?_
      refine a_iadd (pc := 31) X9 dX10_holes_31 ?_
      refine a_istore_n (pc := 32) X9 dX10_holes_32 rfl (Nat.le_of_ble_eq_true rfl) rfl rfl ?_
      refine a_iinc (pc := 33) X9 dX10_holes_33 rfl (Nat.le_of_ble_eq_true rfl) rfl rfl ?_
      refine a_goto (pc := 36) (tgt := 9) X9 dX10_holes_36 rfl ?_
      obtain ⟨g_3, h⟩ := h
      have q_3 : inR (r_1) := hr_1
      have q_4 : inR (x2_1) := h_x2_1
      have g_4 : inR ((x2_1 + 1)) := ⟨by omega, by omega⟩
      exact hk_1 _ _ h g_3 g_4
set_option maxHeartbeats 4000000 in
set_option maxRecDepth 100000 in
theorem m_X10_noDigit {nn : Nat} {i1 : Int} {G : GH} {Q : Int → GH → Prop} (hi1 : inR i1) (hnn : 285 ≤ nn) (h : f_X10_noDigit i1 G Q) : Mt yX10_noDigit cX10_noDigit 2 (some .boolean) 2 45 0 0 [vr 272, vi i1] (SF nn) G (fun v S' G' => S' = SF nn ∧ qZ Q v S' G') (fun E S' G' => S' = SF nn ∧ False) := by
  refine Mt.of (l0 := [some (vr 272), some (vi i1)]) (by decide) (Nat.le_of_ble_eq_true rfl) rfl ?_
  intro κ δ ρ0 X9 E hG
  replace X9 : CX κ δ RX10 cX10_noDigit 2 (some .boolean) := X9
  refine a_aload_n (pc := 0) X9 dX10_noDigit_0 rfl rfl ?_
  refine a_iload_n (pc := 1) X9 dX10_noDigit_1 rfl rfl ?_
  refine a_callS (pc := 2) X9 E (m_X10_isDigit hi1 hnn h) wM_X10_347 w_static_X10_isDigit w_initialized_RX10 w_code_X10_isDigit cp_X10_isDigit pn_X10_isDigit rfl (Nat.le_of_ble_eq_true rfl) ⟨Nat.le_of_ble_eq_true rfl, Nat.le_of_ble_eq_true rfl⟩ ⟨Nat.le_of_ble_eq_true rfl, Nat.le_of_ble_eq_true rfl⟩ dX10_noDigit_2 (fun _ _ q => False.elim q) (kZp (fun r_1 hr_1 h => ?_))
  refine joinM1 (A := fun v_1 => (v_1 = 0 ∨ v_1 = 1) → AW κ δ ρ0 nn 2 0 0 13 [some (vr 272), some (vi i1)] [vi v_1, vr 272] (SF nn) G) (fun v_1 h h_v_1 => ?_) (fun j_1 hj_1 h => ?_) h
  · refine a_callV (pc := 13) X9 E (m_X10_wrong (bool_inR h_v_1) hnn h) okX10 (is10 hnn) wM_X10_321 w_instanceMethod_X10_wrong w_selects_X10_wrong w_initialized_RX10 w_code_X10_wrong cp_X10_wrong pn_X10_wrong rfl (Nat.le_of_ble_eq_true rfl) ⟨Nat.le_of_ble_eq_true rfl, Nat.le_of_ble_eq_true rfl⟩ ⟨Nat.le_of_ble_eq_true rfl, Nat.le_of_ble_eq_true rfl⟩ dX10_noDigit_13 (fun _ _ q => False.elim q) (kZ (fun r_2 G_1 hr_2 h hG_1 => ?_))
    exact a_ireturn (pc := 16) X9 E rfl (fit_bool hr_2).1 (Nat.le_of_ble_eq_true rfl) (Nat.le_of_ble_eq_true rfl) dX10_noDigit_16 ⟨rfl, _, rfl, hr_2, h⟩
  · refine a_if_ne (pc := 5) (tgt := 12) X9 dX10_noDigit_5 rfl (bool_inR hr_1) (fun c => ?_) (fun c => ?_)
    · have c_2 := c
      have h := h.1 c_2
      refine a_iconst (pc := 12) X9 dX10_noDigit_12 ?_
      exact hj_1 _ h (Or.inl rfl)
    · have c_2 := c
      have h := h.2 c_2
      refine a_iconst (pc := 8) X9 dX10_noDigit_8 ?_
      refine a_goto (pc := 9) (tgt := 13) X9 dX10_noDigit_9 rfl ?_
      exact hj_1 _ h (Or.inr rfl)
set_option maxHeartbeats 4000000 in
set_option maxRecDepth 100000 in
theorem m_X10_free {nn : Nat} {i1 : Int} {G : GH} {Q : Int → GH → Prop} (hi1 : inR i1) (hnn : 285 ≤ nn) (h : f_X10_free i1 G Q) : Mt yX10_free cX10_free 4 (some .int) 4 88 0 0 [vr 272, vi i1] (SF nn) G (fun v S' G' => S' = SF nn ∧ qI Q v S' G') (fun E S' G' => S' = SF nn ∧ False) := by
  refine Mt.of (l0 := [some (vr 272), some (vi i1), none, none]) (by decide) (Nat.le_of_ble_eq_true rfl) rfl ?_
  intro κ δ ρ0 X9 E hG
  replace X9 : CX κ δ RX10 cX10_free 4 (some .int) := X9
  refine a_aload_n (pc := 0) X9 dX10_free_0 rfl rfl ?_
  refine a_iload_n (pc := 1) X9 dX10_free_1 rfl rfl ?_
  refine a_callV (pc := 2) X9 E (m_X10_noDigit hi1 hnn h) okX10 (is10 hnn) wM_X10_382 w_instanceMethod_X10_noDigit w_selects_X10_noDigit w_initialized_RX10 w_code_X10_noDigit cp_X10_noDigit pn_X10_noDigit rfl (Nat.le_of_ble_eq_true rfl) ⟨Nat.le_of_ble_eq_true rfl, Nat.le_of_ble_eq_true rfl⟩ ⟨Nat.le_of_ble_eq_true rfl, Nat.le_of_ble_eq_true rfl⟩ dX10_free_2 (fun _ _ q => False.elim q) (kZ (fun r_1 G_1 hr_1 h hG_1 => ?_))
  refine a_if_eq (pc := 5) (tgt := 10) X9 dX10_free_5 rfl (bool_inR hr_1) (fun c => ?_) (fun c => ?_)
  · have c_1 := c
    have h := h.1 c_1
    refine a_iconst (pc := 10) X9 dX10_free_10 ?_
    refine a_istore_n (pc := 11) X9 dX10_free_11 rfl (Nat.le_of_ble_eq_true rfl) rfl rfl ?_
    refine a_iconst (pc := 12) X9 dX10_free_12 ?_
    refine a_istore_n (pc := 13) X9 dX10_free_13 rfl (Nat.le_of_ble_eq_true rfl) rfl rfl ?_
    refine loopM2 (A := fun x2_1 x3_1 => inR x2_1 → inR x3_1 → AW κ δ ρ0 nn 4 0 0 14 [some (vr 272), some (vi i1), some (vi x2_1), some (vi x3_1)] [] (SF nn) G_1) (fun k_1 hk_1 x2_1 x3_1 h h_x2_1 h_x3_1 => ?_) _ _ h (by decide) (by decide)
    refine a_iload_n (pc := 14) X9 dX10_free_14 rfl rfl ?_
    refine a_bipush (pc := 15) X9 dX10_free_15 rfl ?_
    refine a_icmp_ge (pc := 17) (tgt := 54) X9 dX10_free_17 rfl h_x3_1 (by decide) (fun c => ?_) (fun c => ?_)
    · have c_2 := c
      have h := h.1 c_2
      refine a_iload_n (pc := 54) X9 dX10_free_54 rfl rfl ?_
      exact a_ireturn (pc := 55) X9 E rfl rfl (Nat.le_of_ble_eq_true rfl) (Nat.le_of_ble_eq_true rfl) dX10_free_55 ⟨rfl, _, rfl, h_x2_1, h⟩
    · have c_2 := c
      have h := h.2 c_2
      refine a_iload_n (pc := 20) X9 dX10_free_20 rfl rfl ?_
      refine a_aload_n (pc := 21) X9 dX10_free_21 rfl rfl ?_
      refine a_iload_n (pc := 22) X9 dX10_free_22 rfl rfl ?_
      refine a_iload_n (pc := 23) X9 dX10_free_23 rfl rfl ?_
      refine a_callV (pc := 24) X9 E (m_X10_wayOf h_x3_1 hi1 hnn h) okX10 (is10 hnn) wM_X10_258 w_instanceMethod_X10_wayOf w_selects_X10_wayOf w_initialized_RX10 w_code_X10_wayOf cp_X10_wayOf pn_X10_wayOf rfl (Nat.le_of_ble_eq_true rfl) ⟨Nat.le_of_ble_eq_true rfl, Nat.le_of_ble_eq_true rfl⟩ ⟨Nat.le_of_ble_eq_true rfl, Nat.le_of_ble_eq_true rfl⟩ dX10_free_24 (fun _ _ q => False.elim q) (kIp (fun r_2 hr_2 h => ?_))
      refine a_iconst (pc := 27) X9 dX10_free_27 ?_
      refine a_icmp_ne (pc := 28) (tgt := 35) X9 dX10_free_28 rfl hr_2 (by decide) (fun c => ?_) (fun c => ?_)
      · have c_3 := c
        have h := h.1 c_3
        refine a_aload_n (pc := 35) X9 dX10_free_35 rfl rfl ?_
        refine a_iload_n (pc := 36) X9 dX10_free_36 rfl rfl ?_
        refine a_callV (pc := 37) X9 E (m_X10_count h_x3_1 hnn h) okX10 (is10 hnn) wM_X10_243 w_instanceMethod_X10_count w_selects_X10_count w_initialized_RX10 w_code_X10_count cp_X10_count pn_X10_count rfl (Nat.le_of_ble_eq_true rfl) ⟨Nat.le_of_ble_eq_true rfl, Nat.le_of_ble_eq_true rfl⟩ ⟨Nat.le_of_ble_eq_true rfl, Nat.le_of_ble_eq_true rfl⟩ dX10_free_37 (fun _ _ q => False.elim q) (kIp (fun r_3 hr_3 h => ?_))
        refine a_aload_n (pc := 40) X9 dX10_free_40 rfl rfl ?_
        refine a_iload_n (pc := 41) X9 dX10_free_41 rfl rfl ?_
        refine a_callV (pc := 42) X9 E (m_X10_hanging h_x3_1 hnn h) okX10 (is10 hnn) wM_X10_240 w_instanceMethod_X10_hanging w_selects_X10_hanging w_initialized_RX10 w_code_X10_hanging cp_X10_hanging pn_X10_hanging rfl (Nat.le_of_ble_eq_true rfl) ⟨Nat.le_of_ble_eq_true rfl, Nat.le_of_ble_eq_true rfl⟩ ⟨Nat.le_of_ble_eq_true rfl, Nat.le_of_ble_eq_true rfl⟩ dX10_free_42 (fun _ _ q => False.elim q) (kIp (fun r_4 hr_4 h => ?_))
        refine a_isub (pc := 45) X9 dX10_free_45 ?_
        refine a_iadd (pc := 46) X9 dX10_free_46 ?_
        refine a_istore_n (pc := 47) X9 dX10_free_47 rfl (Nat.le_of_ble_eq_true rfl) rfl rfl ?_
        refine a_iinc (pc := 48) X9 dX10_free_48 rfl (Nat.le_of_ble_eq_true rfl) rfl rfl ?_
        refine a_goto (pc := 51) (tgt := 14) X9 dX10_free_51 rfl ?_
        obtain ⟨g_1, h⟩ := h
        have q_1 : inR (x3_1) := h_x3_1
        have g_2 : inR ((x3_1 + 1)) := ⟨by omega, by omega⟩
        exact hk_1 _ _ h g_1 g_2
      · have c_3 := c
        have h := h.2 c_3
        refine a_iconst (pc := 31) X9 dX10_free_31 ?_
        refine a_goto (pc := 32) (tgt := 46) X9 dX10_free_32 rfl ?_
        refine a_iadd (pc := 46) X9 dX10_free_46 ?_
        refine a_istore_n (pc := 47) X9 dX10_free_47 rfl (Nat.le_of_ble_eq_true rfl) rfl rfl ?_
        refine a_iinc (pc := 48) X9 dX10_free_48 rfl (Nat.le_of_ble_eq_true rfl) rfl rfl ?_
        refine a_goto (pc := 51) (tgt := 14) X9 dX10_free_51 rfl ?_
        obtain ⟨g_3, h⟩ := h
        have q_2 : inR (x3_1) := h_x3_1
        have g_4 : inR ((x3_1 + 1)) := ⟨by omega, by omega⟩
        exact hk_1 _ _ h g_3 g_4
  · have c_1 := c
    have h := h.2 c_1
    refine a_iconst (pc := 8) X9 dX10_free_8 ?_
    exact a_ireturn (pc := 9) X9 E rfl rfl (Nat.le_of_ble_eq_true rfl) (Nat.le_of_ble_eq_true rfl) dX10_free_9 ⟨rfl, _, rfl, (show inR 0 by decide), h⟩
set_option maxHeartbeats 4000000 in
set_option maxRecDepth 100000 in
theorem m_X10_isHymn {nn : Nat} {i0 : Int} {G : GH} {Q : Int → Prop} (hi0 : inR i0) (hnn : 285 ≤ nn) (h : f_X10_isHymn i0 Q) : Mt yX10_isHymn cX10_isHymn 1 (some .boolean) 1 25 0 0 [vi i0] (SF nn) G (fun v S' G' => S' = SF nn ∧ qZ (fun r9 G9 => G9 = G ∧ Q r9) v S' G') (fun E S' G' => S' = SF nn ∧ False) := by
  refine Mt.of (l0 := [some (vi i0)]) (by decide) (Nat.le_of_ble_eq_true rfl) rfl ?_
  intro κ δ ρ0 X9 E hG
  replace X9 : CX κ δ RX10 cX10_isHymn 1 (some .boolean) := X9
  refine a_iload_n (pc := 0) X9 dX10_isHymn_0 rfl rfl ?_
  refine a_i2l (pc := 1) X9 dX10_isHymn_1 hi0 ?_
  refine a_lconst (pc := 2) X9 1 dX10_isHymn_2 rfl ?_
  refine a_ldc2 (pc := 3) X9 (n := 999) wCL_X10_385 dX10_isHymn_3 (by decide +kernel) ?_
  refine a_callS (pc := 6) X9 E (m_X10_in (inR_inL hi0) (show inL 1 by decide) (show inL 999 by decide) hnn h) wM_X10_92 w_static_X10_in w_initialized_RX10 w_code_X10_in cp_X10_in pn_X10_in rfl (Nat.le_of_ble_eq_true rfl) ⟨Nat.le_of_ble_eq_true rfl, Nat.le_of_ble_eq_true rfl⟩ ⟨Nat.le_of_ble_eq_true rfl, Nat.le_of_ble_eq_true rfl⟩ dX10_isHymn_6 (fun _ _ q => False.elim q) (kZp (fun r_1 hr_1 h => ?_))
  exact a_ireturn (pc := 9) X9 E rfl (fit_bool hr_1).1 (Nat.le_of_ble_eq_true rfl) (Nat.le_of_ble_eq_true rfl) dX10_isHymn_9 ⟨rfl, _, rfl, hr_1, rfl, h⟩
set_option maxHeartbeats 4000000 in
set_option maxRecDepth 100000 in
theorem m_X10_canShow {nn : Nat} {i1 : Int} {G : GH} {Q : Int → GH → Prop} (hi1 : inR i1) (hnn : 285 ≤ nn) (h : f_X10_canShow i1 G Q) : Mt yX10_canShow cX10_canShow 2 (some .boolean) 5 110 0 0 [vr 272, vi i1] (SF nn) G (fun v S' G' => S' = SF nn ∧ qZ Q v S' G') (fun E S' G' => S' = SF nn ∧ False) := by
  refine Mt.of (l0 := [some (vr 272), some (vi i1)]) (by decide) (Nat.le_of_ble_eq_true rfl) rfl ?_
  intro κ δ ρ0 X9 E hG
  replace X9 : CX κ δ RX10 cX10_canShow 2 (some .boolean) := X9
  refine a_aload_n (pc := 0) X9 dX10_canShow_0 rfl rfl ?_
  refine a_iload_n (pc := 1) X9 dX10_canShow_1 rfl rfl ?_
  refine a_callS (pc := 2) X9 E (m_X10_isHymn hi1 hnn h) wM_X10_387 w_static_X10_isHymn w_initialized_RX10 w_code_X10_isHymn cp_X10_isHymn pn_X10_isHymn rfl (Nat.le_of_ble_eq_true rfl) ⟨Nat.le_of_ble_eq_true rfl, Nat.le_of_ble_eq_true rfl⟩ ⟨Nat.le_of_ble_eq_true rfl, Nat.le_of_ble_eq_true rfl⟩ dX10_canShow_2 (fun _ _ q => False.elim q) (kZp (fun r_1 hr_1 h => ?_))
  refine joinM1 (A := fun v_1 => (v_1 = 0 ∨ v_1 = 1) → AW κ δ ρ0 nn 2 0 0 13 [some (vr 272), some (vi i1)] [vi v_1, vr 272] (SF nn) G) (fun v_1 h h_v_1 => ?_) (fun j_1 hj_1 h => ?_) h
  · refine a_callV (pc := 13) X9 E (m_X10_wrong (bool_inR h_v_1) hnn h) okX10 (is10 hnn) wM_X10_321 w_instanceMethod_X10_wrong w_selects_X10_wrong w_initialized_RX10 w_code_X10_wrong cp_X10_wrong pn_X10_wrong rfl (Nat.le_of_ble_eq_true rfl) ⟨Nat.le_of_ble_eq_true rfl, Nat.le_of_ble_eq_true rfl⟩ ⟨Nat.le_of_ble_eq_true rfl, Nat.le_of_ble_eq_true rfl⟩ dX10_canShow_13 (fun _ _ q => False.elim q) (kZ (fun r_2 G_1 hr_2 h hG_1 => ?_))
    refine a_if_eq (pc := 16) (tgt := 21) X9 dX10_canShow_16 rfl (bool_inR hr_2) (fun c => ?_) (fun c => ?_)
    · have c_2 := c
      have h := h.1 c_2
      refine a_aload_n (pc := 21) X9 dX10_canShow_21 rfl rfl ?_
      refine a_iconst (pc := 22) X9 dX10_canShow_22 ?_
      refine a_callV (pc := 23) X9 E (m_X10_laysCards (show inR 1 by decide) hnn h) okX10 (is10 hnn) wM_X10_303 w_instanceMethod_X10_laysCards w_selects_X10_laysCards w_initialized_RX10 w_code_X10_laysCards cp_X10_laysCards pn_X10_laysCards rfl (Nat.le_of_ble_eq_true rfl) ⟨Nat.le_of_ble_eq_true rfl, Nat.le_of_ble_eq_true rfl⟩ ⟨Nat.le_of_ble_eq_true rfl, Nat.le_of_ble_eq_true rfl⟩ dX10_canShow_23 (fun _ _ q => False.elim q) (kV (fun G_2 h hG_2 => ?_))
      refine a_aload_n (pc := 26) X9 dX10_canShow_26 rfl rfl ?_
      refine a_iload_n (pc := 27) X9 dX10_canShow_27 rfl rfl ?_
      refine a_iconst (pc := 28) X9 dX10_canShow_28 ?_
      refine a_callV (pc := 29) X9 E (m_X10_wantsHymn hi1 (show inR 1 by decide) hnn h) okX10 (is10 hnn) wM_X10_291 w_instanceMethod_X10_wantsHymn w_selects_X10_wantsHymn w_initialized_RX10 w_code_X10_wantsHymn cp_X10_wantsHymn pn_X10_wantsHymn rfl (Nat.le_of_ble_eq_true rfl) ⟨Nat.le_of_ble_eq_true rfl, Nat.le_of_ble_eq_true rfl⟩ ⟨Nat.le_of_ble_eq_true rfl, Nat.le_of_ble_eq_true rfl⟩ dX10_canShow_29 (fun _ _ q => False.elim q) (kV (fun G_3 h hG_3 => ?_))
      refine a_aload_n (pc := 32) X9 dX10_canShow_32 rfl rfl ?_
      refine a_callV (pc := 33) X9 E (m_X10_lack  hnn h) okX10 (is10 hnn) wM_X10_294 w_instanceMethod_X10_lack w_selects_X10_lack w_initialized_RX10 w_code_X10_lack cp_X10_lack pn_X10_lack rfl (Nat.le_of_ble_eq_true rfl) ⟨Nat.le_of_ble_eq_true rfl, Nat.le_of_ble_eq_true rfl⟩ ⟨Nat.le_of_ble_eq_true rfl, Nat.le_of_ble_eq_true rfl⟩ dX10_canShow_33 (fun _ _ q => False.elim q) (kIp (fun r_5 hr_5 h => ?_))
      refine a_if_ne (pc := 36) (tgt := 43) X9 dX10_canShow_36 rfl hr_5 (fun c => ?_) (fun c => ?_)
      · have c_3 := c
        have h := h.1 c_3
        refine a_iconst (pc := 43) X9 dX10_canShow_43 ?_
        exact a_ireturn (pc := 44) X9 E rfl (fit_bool (Or.inl rfl)).1 (Nat.le_of_ble_eq_true rfl) (Nat.le_of_ble_eq_true rfl) dX10_canShow_44 ⟨rfl, _, rfl, (Or.inl rfl), h⟩
      · have c_3 := c
        have h := h.2 c_3
        refine a_iconst (pc := 39) X9 dX10_canShow_39 ?_
        refine a_goto (pc := 40) (tgt := 44) X9 dX10_canShow_40 rfl ?_
        exact a_ireturn (pc := 44) X9 E rfl (fit_bool (Or.inr rfl)).1 (Nat.le_of_ble_eq_true rfl) (Nat.le_of_ble_eq_true rfl) dX10_canShow_44 ⟨rfl, _, rfl, (Or.inr rfl), h⟩
    · have c_2 := c
      have h := h.2 c_2
      refine a_iconst (pc := 19) X9 dX10_canShow_19 ?_
      exact a_ireturn (pc := 20) X9 E rfl (fit_bool (Or.inl rfl)).1 (Nat.le_of_ble_eq_true rfl) (Nat.le_of_ble_eq_true rfl) dX10_canShow_20 ⟨rfl, _, rfl, (Or.inl rfl), h⟩
  · refine a_if_ne (pc := 5) (tgt := 12) X9 dX10_canShow_5 rfl (bool_inR hr_1) (fun c => ?_) (fun c => ?_)
    · have c_4 := c
      have h := h.1 c_4
      refine a_iconst (pc := 12) X9 dX10_canShow_12 ?_
      exact hj_1 _ h (Or.inl rfl)
    · have c_4 := c
      have h := h.2 c_4
      refine a_iconst (pc := 8) X9 dX10_canShow_8 ?_
      refine a_goto (pc := 9) (tgt := 13) X9 dX10_canShow_9 rfl ?_
      exact hj_1 _ h (Or.inr rfl)
set_option maxHeartbeats 4000000 in
set_option maxRecDepth 100000 in
theorem m_X10_most {nn : Nat} {i1 : Int} {G : GH} {Q : Int → GH → Prop} (hi1 : inR i1) (hnn : 285 ≤ nn) (h : f_X10_most i1 G Q) : Mt yX10_most cX10_most 4 (some .int) 4 88 0 0 [vr 272, vi i1] (SF nn) G (fun v S' G' => S' = SF nn ∧ qI Q v S' G') (fun E S' G' => S' = SF nn ∧ False) := by
  refine Mt.of (l0 := [some (vr 272), some (vi i1), none, none]) (by decide) (Nat.le_of_ble_eq_true rfl) rfl ?_
  intro κ δ ρ0 X9 E hG
  replace X9 : CX κ δ RX10 cX10_most 4 (some .int) := X9
  refine a_aload_n (pc := 0) X9 dX10_most_0 rfl rfl ?_
  refine a_iload_n (pc := 1) X9 dX10_most_1 rfl rfl ?_
  refine a_callV (pc := 2) X9 E (m_X10_noDigit hi1 hnn h) okX10 (is10 hnn) wM_X10_382 w_instanceMethod_X10_noDigit w_selects_X10_noDigit w_initialized_RX10 w_code_X10_noDigit cp_X10_noDigit pn_X10_noDigit rfl (Nat.le_of_ble_eq_true rfl) ⟨Nat.le_of_ble_eq_true rfl, Nat.le_of_ble_eq_true rfl⟩ ⟨Nat.le_of_ble_eq_true rfl, Nat.le_of_ble_eq_true rfl⟩ dX10_most_2 (fun _ _ q => False.elim q) (kZ (fun r_1 G_1 hr_1 h hG_1 => ?_))
  refine a_if_eq (pc := 5) (tgt := 10) X9 dX10_most_5 rfl (bool_inR hr_1) (fun c => ?_) (fun c => ?_)
  · have c_1 := c
    have h := h.1 c_1
    refine a_iconst (pc := 10) X9 dX10_most_10 ?_
    refine a_istore_n (pc := 11) X9 dX10_most_11 rfl (Nat.le_of_ble_eq_true rfl) rfl rfl ?_
    refine a_iconst (pc := 12) X9 dX10_most_12 ?_
    refine a_istore_n (pc := 13) X9 dX10_most_13 rfl (Nat.le_of_ble_eq_true rfl) rfl rfl ?_
    refine loopM2 (A := fun x2_1 x3_1 => inR x2_1 → inR x3_1 → AW κ δ ρ0 nn 4 0 0 14 [some (vr 272), some (vi i1), some (vi x2_1), some (vi x3_1)] [] (SF nn) G_1) (fun k_1 hk_1 x2_1 x3_1 h h_x2_1 h_x3_1 => ?_) _ _ h (by decide) (by decide)
    refine a_iload_n (pc := 14) X9 dX10_most_14 rfl rfl ?_
    refine a_bipush (pc := 15) X9 dX10_most_15 rfl ?_
    refine a_icmp_ge (pc := 17) (tgt := 48) X9 dX10_most_17 rfl h_x3_1 (by decide) (fun c => ?_) (fun c => ?_)
    · have c_2 := c
      have h := h.1 c_2
      refine a_iload_n (pc := 48) X9 dX10_most_48 rfl rfl ?_
      exact a_ireturn (pc := 49) X9 E rfl rfl (Nat.le_of_ble_eq_true rfl) (Nat.le_of_ble_eq_true rfl) dX10_most_49 ⟨rfl, _, rfl, h_x2_1, h⟩
    · have c_2 := c
      have h := h.2 c_2
      refine a_iload_n (pc := 20) X9 dX10_most_20 rfl rfl ?_
      refine a_aload_n (pc := 21) X9 dX10_most_21 rfl rfl ?_
      refine a_iload_n (pc := 22) X9 dX10_most_22 rfl rfl ?_
      refine a_iload_n (pc := 23) X9 dX10_most_23 rfl rfl ?_
      refine a_callV (pc := 24) X9 E (m_X10_wayOf h_x3_1 hi1 hnn h) okX10 (is10 hnn) wM_X10_258 w_instanceMethod_X10_wayOf w_selects_X10_wayOf w_initialized_RX10 w_code_X10_wayOf cp_X10_wayOf pn_X10_wayOf rfl (Nat.le_of_ble_eq_true rfl) ⟨Nat.le_of_ble_eq_true rfl, Nat.le_of_ble_eq_true rfl⟩ ⟨Nat.le_of_ble_eq_true rfl, Nat.le_of_ble_eq_true rfl⟩ dX10_most_24 (fun _ _ q => False.elim q) (kIp (fun r_2 hr_2 h => ?_))
      refine a_iconst (pc := 27) X9 dX10_most_27 ?_
      refine a_icmp_ne (pc := 28) (tgt := 35) X9 dX10_most_28 rfl hr_2 (by decide) (fun c => ?_) (fun c => ?_)
      · have c_3 := c
        have h := h.1 c_3
        refine a_aload_n (pc := 35) X9 dX10_most_35 rfl rfl ?_
        refine a_iload_n (pc := 36) X9 dX10_most_36 rfl rfl ?_
        refine a_callV (pc := 37) X9 E (m_X10_count h_x3_1 hnn h) okX10 (is10 hnn) wM_X10_243 w_instanceMethod_X10_count w_selects_X10_count w_initialized_RX10 w_code_X10_count cp_X10_count pn_X10_count rfl (Nat.le_of_ble_eq_true rfl) ⟨Nat.le_of_ble_eq_true rfl, Nat.le_of_ble_eq_true rfl⟩ ⟨Nat.le_of_ble_eq_true rfl, Nat.le_of_ble_eq_true rfl⟩ dX10_most_37 (fun _ _ q => False.elim q) (kIp (fun r_3 hr_3 h => ?_))
        refine a_iadd (pc := 40) X9 dX10_most_40 ?_
        refine a_istore_n (pc := 41) X9 dX10_most_41 rfl (Nat.le_of_ble_eq_true rfl) rfl rfl ?_
        refine a_iinc (pc := 42) X9 dX10_most_42 rfl (Nat.le_of_ble_eq_true rfl) rfl rfl ?_
        refine a_goto (pc := 45) (tgt := 14) X9 dX10_most_45 rfl ?_
        obtain ⟨g_1, h⟩ := h
        have q_1 : inR (x3_1) := h_x3_1
        have g_2 : inR ((x3_1 + 1)) := ⟨by omega, by omega⟩
        exact hk_1 _ _ h g_1 g_2
      · have c_3 := c
        have h := h.2 c_3
        refine a_iconst (pc := 31) X9 dX10_most_31 ?_
        refine a_goto (pc := 32) (tgt := 40) X9 dX10_most_32 rfl ?_
        refine a_iadd (pc := 40) X9 dX10_most_40 ?_
        refine a_istore_n (pc := 41) X9 dX10_most_41 rfl (Nat.le_of_ble_eq_true rfl) rfl rfl ?_
        refine a_iinc (pc := 42) X9 dX10_most_42 rfl (Nat.le_of_ble_eq_true rfl) rfl rfl ?_
        refine a_goto (pc := 45) (tgt := 14) X9 dX10_most_45 rfl ?_
        obtain ⟨g_3, h⟩ := h
        have q_2 : inR (x3_1) := h_x3_1
        have g_4 : inR ((x3_1 + 1)) := ⟨by omega, by omega⟩
        exact hk_1 _ _ h g_3 g_4
  · have c_1 := c
    have h := h.2 c_1
    refine a_iconst (pc := 8) X9 dX10_most_8 ?_
    exact a_ireturn (pc := 9) X9 E rfl rfl (Nat.le_of_ble_eq_true rfl) (Nat.le_of_ble_eq_true rfl) dX10_most_9 ⟨rfl, _, rfl, (show inR 0 by decide), h⟩
set_option maxHeartbeats 4000000 in
set_option maxRecDepth 100000 in
theorem m_X10_turnedOnes {nn : Nat}  {G : GH} {Q : Int → Prop}  (hnn : 285 ≤ nn) (h : f_X10_turnedOnes G Q) : Mt yX10_turnedOnes cX10_turnedOnes 3 (some .int) 1 21 0 0 [vr 272] (SF nn) G (fun v S' G' => S' = SF nn ∧ qI (fun r9 G9 => G9 = G ∧ Q r9) v S' G') (fun E S' G' => S' = SF nn ∧ False) := by
  refine Mt.of (l0 := [some (vr 272), none, none]) (by decide) (Nat.le_of_ble_eq_true rfl) rfl ?_
  intro κ δ ρ0 X9 E hG
  replace X9 : CX κ δ RX10 cX10_turnedOnes 3 (some .int) := X9
  refine a_iconst (pc := 0) X9 dX10_turnedOnes_0 ?_
  refine a_istore_n (pc := 1) X9 dX10_turnedOnes_1 rfl (Nat.le_of_ble_eq_true rfl) rfl rfl ?_
  refine a_iconst (pc := 2) X9 dX10_turnedOnes_2 ?_
  refine a_istore_n (pc := 3) X9 dX10_turnedOnes_3 rfl (Nat.le_of_ble_eq_true rfl) rfl rfl ?_
  refine loopM2 (A := fun x1_1 x2_1 => inR x1_1 → inR x2_1 → AW κ δ ρ0 nn 3 0 0 4 [some (vr 272), some (vi x1_1), some (vi x2_1)] [] (SF nn) G) (fun k_1 hk_1 x1_1 x2_1 h h_x1_1 h_x2_1 => ?_) _ _ h (by decide) (by decide)
  refine a_iload_n (pc := 4) X9 dX10_turnedOnes_4 rfl rfl ?_
  refine a_bipush (pc := 5) X9 dX10_turnedOnes_5 rfl ?_
  refine a_icmp_ge (pc := 7) (tgt := 38) X9 dX10_turnedOnes_7 rfl h_x2_1 (by decide) (fun c => ?_) (fun c => ?_)
  · have c_1 := c
    have h := h.1 c_1
    refine a_iload_n (pc := 38) X9 dX10_turnedOnes_38 rfl rfl ?_
    exact a_ireturn (pc := 39) X9 E rfl rfl (Nat.le_of_ble_eq_true rfl) (Nat.le_of_ble_eq_true rfl) dX10_turnedOnes_39 ⟨rfl, _, rfl, h_x1_1, rfl, h⟩
  · have c_1 := c
    have h := h.2 c_1
    refine a_iload_n (pc := 10) X9 dX10_turnedOnes_10 rfl rfl ?_
    refine a_aload_n (pc := 11) X9 dX10_turnedOnes_11 rfl rfl ?_
    refine a_getR (pc := 12) X9 (q := 273) okX10 1 rfl wF_X10_9 (is10 hnn) rf10_1 dX10_turnedOnes_12 ?_
    refine a_iload_n (pc := 15) X9 dX10_turnedOnes_15 rfl rfl ?_
    refine a_iconst (pc := 16) X9 dX10_turnedOnes_16 ?_
    refine a_callS (pc := 17) X9 E (m_X10_placeAt h_x2_1 (show inR 2 by decide) hnn h) wM_X10_234 w_static_X10_placeAt w_initialized_RX10 w_code_X10_placeAt cp_X10_placeAt pn_X10_placeAt rfl (Nat.le_of_ble_eq_true rfl) ⟨Nat.le_of_ble_eq_true rfl, Nat.le_of_ble_eq_true rfl⟩ ⟨Nat.le_of_ble_eq_true rfl, Nat.le_of_ble_eq_true rfl⟩ dX10_turnedOnes_17 (fun _ _ q => False.elim q) (kIp (fun r_1 hr_1 h => ?_))
    obtain ⟨g_1, h⟩ := h
    refine b_iald (pc := 20) X9 (ar10_1 hnn) (Nat.le_of_ble_eq_true rfl) g_1 dX10_turnedOnes_20 ?_
    refine a_iconst (pc := 21) X9 dX10_turnedOnes_21 ?_
    refine a_icmp_lt (pc := 22) (tgt := 29) X9 dX10_turnedOnes_22 rfl (hG _ _) (by decide) (fun c => ?_) (fun c => ?_)
    · have c_2 := c
      have h := h.1 c_2
      refine a_iconst (pc := 29) X9 dX10_turnedOnes_29 ?_
      refine a_iadd (pc := 30) X9 dX10_turnedOnes_30 ?_
      refine a_istore_n (pc := 31) X9 dX10_turnedOnes_31 rfl (Nat.le_of_ble_eq_true rfl) rfl rfl ?_
      refine a_iinc (pc := 32) X9 dX10_turnedOnes_32 rfl (Nat.le_of_ble_eq_true rfl) rfl rfl ?_
      refine a_goto (pc := 35) (tgt := 4) X9 dX10_turnedOnes_35 rfl ?_
      obtain ⟨g_2, h⟩ := h
      have q_1 : inR (x2_1) := h_x2_1
      have g_3 : inR ((x2_1 + 1)) := ⟨by omega, by omega⟩
      exact hk_1 _ _ h g_2 g_3
    · have c_2 := c
      have h := h.2 c_2
      refine a_iconst (pc := 25) X9 dX10_turnedOnes_25 ?_
      refine a_goto (pc := 26) (tgt := 30) X9 dX10_turnedOnes_26 rfl ?_
      refine a_iadd (pc := 30) X9 dX10_turnedOnes_30 ?_
      refine a_istore_n (pc := 31) X9 dX10_turnedOnes_31 rfl (Nat.le_of_ble_eq_true rfl) rfl rfl ?_
      refine a_iinc (pc := 32) X9 dX10_turnedOnes_32 rfl (Nat.le_of_ble_eq_true rfl) rfl rfl ?_
      refine a_goto (pc := 35) (tgt := 4) X9 dX10_turnedOnes_35 rfl ?_
      obtain ⟨g_4, h⟩ := h
      have q_2 : inR (x2_1) := h_x2_1
      have g_5 : inR ((x2_1 + 1)) := ⟨by omega, by omega⟩
      exact hk_1 _ _ h g_4 g_5
set_option maxHeartbeats 4000000 in
set_option maxRecDepth 100000 in
theorem m_X10_backs {nn : Nat}  {G : GH} {Q : Int → Prop}  (hnn : 285 ≤ nn) (h : f_X10_backs G Q) : Mt yX10_backs cX10_backs 3 (some .int) 1 21 0 0 [vr 272] (SF nn) G (fun v S' G' => S' = SF nn ∧ qI (fun r9 G9 => G9 = G ∧ Q r9) v S' G') (fun E S' G' => S' = SF nn ∧ False) := by
  refine Mt.of (l0 := [some (vr 272), none, none]) (by decide) (Nat.le_of_ble_eq_true rfl) rfl ?_
  intro κ δ ρ0 X9 E hG
  replace X9 : CX κ δ RX10 cX10_backs 3 (some .int) := X9
  refine a_iconst (pc := 0) X9 dX10_backs_0 ?_
  refine a_istore_n (pc := 1) X9 dX10_backs_1 rfl (Nat.le_of_ble_eq_true rfl) rfl rfl ?_
  refine a_iconst (pc := 2) X9 dX10_backs_2 ?_
  refine a_istore_n (pc := 3) X9 dX10_backs_3 rfl (Nat.le_of_ble_eq_true rfl) rfl rfl ?_
  refine loopM2 (A := fun x1_1 x2_1 => inR x1_1 → inR x2_1 → AW κ δ ρ0 nn 3 0 0 4 [some (vr 272), some (vi x1_1), some (vi x2_1)] [] (SF nn) G) (fun k_1 hk_1 x1_1 x2_1 h h_x1_1 h_x2_1 => ?_) _ _ h (by decide) (by decide)
  refine a_iload_n (pc := 4) X9 dX10_backs_4 rfl rfl ?_
  refine a_bipush (pc := 5) X9 dX10_backs_5 rfl ?_
  refine a_icmp_ge (pc := 7) (tgt := 52) X9 dX10_backs_7 rfl h_x2_1 (by decide) (fun c => ?_) (fun c => ?_)
  · have c_1 := c
    have h := h.1 c_1
    refine a_iload_n (pc := 52) X9 dX10_backs_52 rfl rfl ?_
    exact a_ireturn (pc := 53) X9 E rfl rfl (Nat.le_of_ble_eq_true rfl) (Nat.le_of_ble_eq_true rfl) dX10_backs_53 ⟨rfl, _, rfl, h_x1_1, rfl, h⟩
  · have c_1 := c
    have h := h.2 c_1
    refine a_iload_n (pc := 10) X9 dX10_backs_10 rfl rfl ?_
    refine a_aload_n (pc := 11) X9 dX10_backs_11 rfl rfl ?_
    refine a_getR (pc := 12) X9 (q := 273) okX10 1 rfl wF_X10_9 (is10 hnn) rf10_1 dX10_backs_12 ?_
    refine a_iload_n (pc := 15) X9 dX10_backs_15 rfl rfl ?_
    refine a_iconst (pc := 16) X9 dX10_backs_16 ?_
    refine a_callS (pc := 17) X9 E (m_X10_placeAt h_x2_1 (show inR 2 by decide) hnn h) wM_X10_234 w_static_X10_placeAt w_initialized_RX10 w_code_X10_placeAt cp_X10_placeAt pn_X10_placeAt rfl (Nat.le_of_ble_eq_true rfl) ⟨Nat.le_of_ble_eq_true rfl, Nat.le_of_ble_eq_true rfl⟩ ⟨Nat.le_of_ble_eq_true rfl, Nat.le_of_ble_eq_true rfl⟩ dX10_backs_17 (fun _ _ q => False.elim q) (kIp (fun r_1 hr_1 h => ?_))
    obtain ⟨g_1, h⟩ := h
    refine b_iald (pc := 20) X9 (ar10_1 hnn) (Nat.le_of_ble_eq_true rfl) g_1 dX10_backs_20 ?_
    refine a_iconst (pc := 21) X9 dX10_backs_21 ?_
    refine a_icmp_eq (pc := 22) (tgt := 39) X9 dX10_backs_22 rfl (hG _ _) (by decide) (fun c => ?_) (fun c => ?_)
    · have c_2 := c
      have h := h.1 c_2
      refine a_iconst (pc := 39) X9 dX10_backs_39 ?_
      refine a_goto (pc := 40) (tgt := 44) X9 dX10_backs_40 rfl ?_
      refine a_iadd (pc := 44) X9 dX10_backs_44 ?_
      refine a_istore_n (pc := 45) X9 dX10_backs_45 rfl (Nat.le_of_ble_eq_true rfl) rfl rfl ?_
      refine a_iinc (pc := 46) X9 dX10_backs_46 rfl (Nat.le_of_ble_eq_true rfl) rfl rfl ?_
      refine a_goto (pc := 49) (tgt := 4) X9 dX10_backs_49 rfl ?_
      obtain ⟨g_2, h⟩ := h
      have q_1 : inR (x2_1) := h_x2_1
      have g_3 : inR ((x2_1 + 1)) := ⟨by omega, by omega⟩
      exact hk_1 _ _ h g_2 g_3
    · have c_2 := c
      have h := h.2 c_2
      refine a_aload_n (pc := 25) X9 dX10_backs_25 rfl rfl ?_
      refine a_getR (pc := 26) X9 (q := 273) okX10 1 rfl wF_X10_9 (is10 hnn) rf10_1 dX10_backs_26 ?_
      refine a_iload_n (pc := 29) X9 dX10_backs_29 rfl rfl ?_
      refine a_iconst (pc := 30) X9 dX10_backs_30 ?_
      refine a_callS (pc := 31) X9 E (m_X10_placeAt h_x2_1 (show inR 2 by decide) hnn h) wM_X10_234 w_static_X10_placeAt w_initialized_RX10 w_code_X10_placeAt cp_X10_placeAt pn_X10_placeAt rfl (Nat.le_of_ble_eq_true rfl) ⟨Nat.le_of_ble_eq_true rfl, Nat.le_of_ble_eq_true rfl⟩ ⟨Nat.le_of_ble_eq_true rfl, Nat.le_of_ble_eq_true rfl⟩ dX10_backs_31 (fun _ _ q => False.elim q) (kIp (fun r_2 hr_2 h => ?_))
      obtain ⟨g_4, h⟩ := h
      refine b_iald (pc := 34) X9 (ar10_1 hnn) (Nat.le_of_ble_eq_true rfl) g_4 dX10_backs_34 ?_
      refine a_iconst (pc := 35) X9 dX10_backs_35 ?_
      refine a_icmp_ne (pc := 36) (tgt := 43) X9 dX10_backs_36 rfl (hG _ _) (by decide) (fun c => ?_) (fun c => ?_)
      · have c_3 := c
        have h := h.1 c_3
        refine a_iconst (pc := 43) X9 dX10_backs_43 ?_
        refine a_iadd (pc := 44) X9 dX10_backs_44 ?_
        refine a_istore_n (pc := 45) X9 dX10_backs_45 rfl (Nat.le_of_ble_eq_true rfl) rfl rfl ?_
        refine a_iinc (pc := 46) X9 dX10_backs_46 rfl (Nat.le_of_ble_eq_true rfl) rfl rfl ?_
        refine a_goto (pc := 49) (tgt := 4) X9 dX10_backs_49 rfl ?_
        obtain ⟨g_5, h⟩ := h
        have q_2 : inR (x2_1) := h_x2_1
        have g_6 : inR ((x2_1 + 1)) := ⟨by omega, by omega⟩
        exact hk_1 _ _ h g_5 g_6
      · have c_3 := c
        have h := h.2 c_3
        refine a_iconst (pc := 39) X9 dX10_backs_39 ?_
        refine a_goto (pc := 40) (tgt := 44) X9 dX10_backs_40 rfl ?_
        refine a_iadd (pc := 44) X9 dX10_backs_44 ?_
        refine a_istore_n (pc := 45) X9 dX10_backs_45 rfl (Nat.le_of_ble_eq_true rfl) rfl rfl ?_
        refine a_iinc (pc := 46) X9 dX10_backs_46 rfl (Nat.le_of_ble_eq_true rfl) rfl rfl ?_
        refine a_goto (pc := 49) (tgt := 4) X9 dX10_backs_49 rfl ?_
        obtain ⟨g_7, h⟩ := h
        have q_3 : inR (x2_1) := h_x2_1
        have g_8 : inR ((x2_1 + 1)) := ⟨by omega, by omega⟩
        exact hk_1 _ _ h g_7 g_8
set_option maxHeartbeats 4000000 in
set_option maxRecDepth 100000 in
theorem m_X10_borrowedOnes {nn : Nat}  {G : GH} {Q : Int → Prop}  (hnn : 285 ≤ nn) (h : f_X10_borrowedOnes G Q) : Mt yX10_borrowedOnes cX10_borrowedOnes 3 (some .int) 2 42 0 0 [vr 272] (SF nn) G (fun v S' G' => S' = SF nn ∧ qI (fun r9 G9 => G9 = G ∧ Q r9) v S' G') (fun E S' G' => S' = SF nn ∧ False) := by
  refine Mt.of (l0 := [some (vr 272), none, none]) (by decide) (Nat.le_of_ble_eq_true rfl) rfl ?_
  intro κ δ ρ0 X9 E hG
  replace X9 : CX κ δ RX10 cX10_borrowedOnes 3 (some .int) := X9
  refine a_iconst (pc := 0) X9 dX10_borrowedOnes_0 ?_
  refine a_istore_n (pc := 1) X9 dX10_borrowedOnes_1 rfl (Nat.le_of_ble_eq_true rfl) rfl rfl ?_
  refine a_iconst (pc := 2) X9 dX10_borrowedOnes_2 ?_
  refine a_istore_n (pc := 3) X9 dX10_borrowedOnes_3 rfl (Nat.le_of_ble_eq_true rfl) rfl rfl ?_
  refine loopM2 (A := fun x1_1 x2_1 => inR x1_1 → inR x2_1 → AW κ δ ρ0 nn 3 0 0 4 [some (vr 272), some (vi x1_1), some (vi x2_1)] [] (SF nn) G) (fun k_1 hk_1 x1_1 x2_1 h h_x1_1 h_x2_1 => ?_) _ _ h (by decide) (by decide)
  refine a_iload_n (pc := 4) X9 dX10_borrowedOnes_4 rfl rfl ?_
  refine a_bipush (pc := 5) X9 dX10_borrowedOnes_5 rfl ?_
  refine a_icmp_ge (pc := 7) (tgt := 48) X9 dX10_borrowedOnes_7 rfl h_x2_1 (by decide) (fun c => ?_) (fun c => ?_)
  · have c_1 := c
    have h := h.1 c_1
    refine a_iload_n (pc := 48) X9 dX10_borrowedOnes_48 rfl rfl ?_
    exact a_ireturn (pc := 49) X9 E rfl rfl (Nat.le_of_ble_eq_true rfl) (Nat.le_of_ble_eq_true rfl) dX10_borrowedOnes_49 ⟨rfl, _, rfl, h_x1_1, rfl, h⟩
  · have c_1 := c
    have h := h.2 c_1
    refine a_iload_n (pc := 10) X9 dX10_borrowedOnes_10 rfl rfl ?_
    refine a_aload_n (pc := 11) X9 dX10_borrowedOnes_11 rfl rfl ?_
    refine a_iload_n (pc := 12) X9 dX10_borrowedOnes_12 rfl rfl ?_
    refine a_callV (pc := 13) X9 E (m_X10_hangs h_x2_1 hnn h) okX10 (is10 hnn) wM_X10_237 w_instanceMethod_X10_hangs w_selects_X10_hangs w_initialized_RX10 w_code_X10_hangs cp_X10_hangs pn_X10_hangs rfl (Nat.le_of_ble_eq_true rfl) ⟨Nat.le_of_ble_eq_true rfl, Nat.le_of_ble_eq_true rfl⟩ ⟨Nat.le_of_ble_eq_true rfl, Nat.le_of_ble_eq_true rfl⟩ dX10_borrowedOnes_13 (fun _ _ q => False.elim q) (kZp (fun r_1 hr_1 h => ?_))
    refine a_if_eq (pc := 16) (tgt := 39) X9 dX10_borrowedOnes_16 rfl (bool_inR hr_1) (fun c => ?_) (fun c => ?_)
    · have c_2 := c
      have h := h.1 c_2
      refine a_iconst (pc := 39) X9 dX10_borrowedOnes_39 ?_
      refine a_iadd (pc := 40) X9 dX10_borrowedOnes_40 ?_
      refine a_istore_n (pc := 41) X9 dX10_borrowedOnes_41 rfl (Nat.le_of_ble_eq_true rfl) rfl rfl ?_
      refine a_iinc (pc := 42) X9 dX10_borrowedOnes_42 rfl (Nat.le_of_ble_eq_true rfl) rfl rfl ?_
      refine a_goto (pc := 45) (tgt := 4) X9 dX10_borrowedOnes_45 rfl ?_
      obtain ⟨g_1, h⟩ := h
      have q_1 : inR (x2_1) := h_x2_1
      have g_2 : inR ((x2_1 + 1)) := ⟨by omega, by omega⟩
      exact hk_1 _ _ h g_1 g_2
    · have c_2 := c
      have h := h.2 c_2
      refine a_aload_n (pc := 19) X9 dX10_borrowedOnes_19 rfl rfl ?_
      refine a_getR (pc := 20) X9 (q := 273) okX10 1 rfl wF_X10_9 (is10 hnn) rf10_1 dX10_borrowedOnes_20 ?_
      refine a_iload_n (pc := 23) X9 dX10_borrowedOnes_23 rfl rfl ?_
      refine a_iconst (pc := 24) X9 dX10_borrowedOnes_24 ?_
      refine a_callS (pc := 25) X9 E (m_X10_placeAt h_x2_1 (show inR 1 by decide) hnn h) wM_X10_234 w_static_X10_placeAt w_initialized_RX10 w_code_X10_placeAt cp_X10_placeAt pn_X10_placeAt rfl (Nat.le_of_ble_eq_true rfl) ⟨Nat.le_of_ble_eq_true rfl, Nat.le_of_ble_eq_true rfl⟩ ⟨Nat.le_of_ble_eq_true rfl, Nat.le_of_ble_eq_true rfl⟩ dX10_borrowedOnes_25 (fun _ _ q => False.elim q) (kIp (fun r_2 hr_2 h => ?_))
      obtain ⟨g_3, h⟩ := h
      refine b_iald (pc := 28) X9 (ar10_1 hnn) (Nat.le_of_ble_eq_true rfl) g_3 dX10_borrowedOnes_28 ?_
      refine a_callS (pc := 29) X9 E (m_X10_isOwn (hG _ _) hnn h) wM_X10_211 w_static_X10_isOwn w_initialized_RX10 w_code_X10_isOwn cp_X10_isOwn pn_X10_isOwn rfl (Nat.le_of_ble_eq_true rfl) ⟨Nat.le_of_ble_eq_true rfl, Nat.le_of_ble_eq_true rfl⟩ ⟨Nat.le_of_ble_eq_true rfl, Nat.le_of_ble_eq_true rfl⟩ dX10_borrowedOnes_29 (fun _ _ q => False.elim q) (kZp (fun r_3 hr_3 h => ?_))
      refine a_if_ne (pc := 32) (tgt := 39) X9 dX10_borrowedOnes_32 rfl (bool_inR hr_3) (fun c => ?_) (fun c => ?_)
      · have c_3 := c
        have h := h.1 c_3
        refine a_iconst (pc := 39) X9 dX10_borrowedOnes_39 ?_
        refine a_iadd (pc := 40) X9 dX10_borrowedOnes_40 ?_
        refine a_istore_n (pc := 41) X9 dX10_borrowedOnes_41 rfl (Nat.le_of_ble_eq_true rfl) rfl rfl ?_
        refine a_iinc (pc := 42) X9 dX10_borrowedOnes_42 rfl (Nat.le_of_ble_eq_true rfl) rfl rfl ?_
        refine a_goto (pc := 45) (tgt := 4) X9 dX10_borrowedOnes_45 rfl ?_
        obtain ⟨g_4, h⟩ := h
        have q_2 : inR (x2_1) := h_x2_1
        have g_5 : inR ((x2_1 + 1)) := ⟨by omega, by omega⟩
        exact hk_1 _ _ h g_4 g_5
      · have c_3 := c
        have h := h.2 c_3
        refine a_iconst (pc := 35) X9 dX10_borrowedOnes_35 ?_
        refine a_goto (pc := 36) (tgt := 40) X9 dX10_borrowedOnes_36 rfl ?_
        refine a_iadd (pc := 40) X9 dX10_borrowedOnes_40 ?_
        refine a_istore_n (pc := 41) X9 dX10_borrowedOnes_41 rfl (Nat.le_of_ble_eq_true rfl) rfl rfl ?_
        refine a_iinc (pc := 42) X9 dX10_borrowedOnes_42 rfl (Nat.le_of_ble_eq_true rfl) rfl rfl ?_
        refine a_goto (pc := 45) (tgt := 4) X9 dX10_borrowedOnes_45 rfl ?_
        obtain ⟨g_6, h⟩ := h
        have q_3 : inR (x2_1) := h_x2_1
        have g_7 : inR ((x2_1 + 1)) := ⟨by omega, by omega⟩
        exact hk_1 _ _ h g_6 g_7
set_option maxHeartbeats 4000000 in
set_option maxRecDepth 100000 in
theorem m_X10_toldOf {nn : Nat} {i1 : Int} {G : GH} {Q : Int → Prop} (hi1 : inR i1) (hnn : 285 ≤ nn) (h : f_X10_toldOf i1 G Q) : Mt yX10_toldOf cX10_toldOf 2 (some .int) 3 64 0 0 [vr 272, vi i1] (SF nn) G (fun v S' G' => S' = SF nn ∧ qI (fun r9 G9 => G9 = G ∧ Q r9) v S' G') (fun E S' G' => S' = SF nn ∧ False) := by
  refine Mt.of (l0 := [some (vr 272), some (vi i1)]) (by decide) (Nat.le_of_ble_eq_true rfl) rfl ?_
  intro κ δ ρ0 X9 E hG
  replace X9 : CX κ δ RX10 cX10_toldOf 2 (some .int) := X9
  refine a_iload_n (pc := 0) X9 dX10_toldOf_0 rfl rfl ?_
  have c_1 : (i1 < 0 ∨ 5 < i1) ∨ i1 = 0 ∨ i1 = 1 ∨ i1 = 2 ∨ i1 = 3 ∨ i1 = 4 ∨ i1 = 5 := by omega
  rcases c_1 with c_1 | c_1 | c_1 | c_1 | c_1 | c_1 | c_1
  · refine a_tableOut (pc := 1) (tgt := 70) X9 dX10_toldOf_1 hi1 c_1 rfl ?_
    have h := h.1 c_1
    refine a_aload_n (pc := 70) X9 dX10_toldOf_70 rfl rfl ?_
    refine a_callV (pc := 71) X9 E (m_X10_borrowedOnes  hnn h) okX10 (is10 hnn) wM_X10_396 w_instanceMethod_X10_borrowedOnes w_selects_X10_borrowedOnes w_initialized_RX10 w_code_X10_borrowedOnes cp_X10_borrowedOnes pn_X10_borrowedOnes rfl (Nat.le_of_ble_eq_true rfl) ⟨Nat.le_of_ble_eq_true rfl, Nat.le_of_ble_eq_true rfl⟩ ⟨Nat.le_of_ble_eq_true rfl, Nat.le_of_ble_eq_true rfl⟩ dX10_toldOf_71 (fun _ _ q => False.elim q) (kIp (fun r_1 hr_1 h => ?_))
    exact a_ireturn (pc := 74) X9 E rfl rfl (Nat.le_of_ble_eq_true rfl) (Nat.le_of_ble_eq_true rfl) dX10_toldOf_74 ⟨rfl, _, rfl, hr_1, rfl, h⟩
  · refine a_tableIn (pc := 1) (tgt := 40) X9 dX10_toldOf_1 hi1 (by omega) (by omega) (by rw [c_1]; rfl) rfl ?_
    have h := h.2.1 c_1
    refine a_aload_n (pc := 40) X9 dX10_toldOf_40 rfl rfl ?_
    refine a_getI (pc := 41) X9 okX10 22 rfl wF_X10_276 (is10 hnn) dX10_toldOf_41 ?_
    exact a_ireturn (pc := 44) X9 E rfl rfl (Nat.le_of_ble_eq_true rfl) (Nat.le_of_ble_eq_true rfl) dX10_toldOf_44 ⟨rfl, _, rfl, (hG _ _), rfl, h⟩
  · refine a_tableIn (pc := 1) (tgt := 45) X9 dX10_toldOf_1 hi1 (by omega) (by omega) (by rw [c_1]; rfl) rfl ?_
    have h := h.2.2.1 c_1
    refine a_aload_n (pc := 45) X9 dX10_toldOf_45 rfl rfl ?_
    refine a_getI (pc := 46) X9 okX10 23 rfl wF_X10_279 (is10 hnn) dX10_toldOf_46 ?_
    exact a_ireturn (pc := 49) X9 E rfl rfl (Nat.le_of_ble_eq_true rfl) (Nat.le_of_ble_eq_true rfl) dX10_toldOf_49 ⟨rfl, _, rfl, (hG _ _), rfl, h⟩
  · refine a_tableIn (pc := 1) (tgt := 50) X9 dX10_toldOf_1 hi1 (by omega) (by omega) (by rw [c_1]; rfl) rfl ?_
    have h := h.2.2.2.1 c_1
    refine a_aload_n (pc := 50) X9 dX10_toldOf_50 rfl rfl ?_
    refine a_getI (pc := 51) X9 okX10 25 rfl wF_X10_313 (is10 hnn) dX10_toldOf_51 ?_
    exact a_ireturn (pc := 54) X9 E rfl rfl (Nat.le_of_ble_eq_true rfl) (Nat.le_of_ble_eq_true rfl) dX10_toldOf_54 ⟨rfl, _, rfl, (hG _ _), rfl, h⟩
  · refine a_tableIn (pc := 1) (tgt := 55) X9 dX10_toldOf_1 hi1 (by omega) (by omega) (by rw [c_1]; rfl) rfl ?_
    have h := h.2.2.2.2.1 c_1
    refine a_aload_n (pc := 55) X9 dX10_toldOf_55 rfl rfl ?_
    refine a_callV (pc := 56) X9 E (m_X10_allHanging  hnn h) okX10 (is10 hnn) wM_X10_325 w_instanceMethod_X10_allHanging w_selects_X10_allHanging w_initialized_RX10 w_code_X10_allHanging cp_X10_allHanging pn_X10_allHanging rfl (Nat.le_of_ble_eq_true rfl) ⟨Nat.le_of_ble_eq_true rfl, Nat.le_of_ble_eq_true rfl⟩ ⟨Nat.le_of_ble_eq_true rfl, Nat.le_of_ble_eq_true rfl⟩ dX10_toldOf_56 (fun _ _ q => False.elim q) (kIp (fun r_2 hr_2 h => ?_))
    exact a_ireturn (pc := 59) X9 E rfl rfl (Nat.le_of_ble_eq_true rfl) (Nat.le_of_ble_eq_true rfl) dX10_toldOf_59 ⟨rfl, _, rfl, hr_2, rfl, h⟩
  · refine a_tableIn (pc := 1) (tgt := 60) X9 dX10_toldOf_1 hi1 (by omega) (by omega) (by rw [c_1]; rfl) rfl ?_
    have h := h.2.2.2.2.2.1 c_1
    refine a_aload_n (pc := 60) X9 dX10_toldOf_60 rfl rfl ?_
    refine a_callV (pc := 61) X9 E (m_X10_turnedOnes  hnn h) okX10 (is10 hnn) wM_X10_390 w_instanceMethod_X10_turnedOnes w_selects_X10_turnedOnes w_initialized_RX10 w_code_X10_turnedOnes cp_X10_turnedOnes pn_X10_turnedOnes rfl (Nat.le_of_ble_eq_true rfl) ⟨Nat.le_of_ble_eq_true rfl, Nat.le_of_ble_eq_true rfl⟩ ⟨Nat.le_of_ble_eq_true rfl, Nat.le_of_ble_eq_true rfl⟩ dX10_toldOf_61 (fun _ _ q => False.elim q) (kIp (fun r_3 hr_3 h => ?_))
    exact a_ireturn (pc := 64) X9 E rfl rfl (Nat.le_of_ble_eq_true rfl) (Nat.le_of_ble_eq_true rfl) dX10_toldOf_64 ⟨rfl, _, rfl, hr_3, rfl, h⟩
  · refine a_tableIn (pc := 1) (tgt := 65) X9 dX10_toldOf_1 hi1 (by omega) (by omega) (by rw [c_1]; rfl) rfl ?_
    have h := h.2.2.2.2.2.2 c_1
    refine a_aload_n (pc := 65) X9 dX10_toldOf_65 rfl rfl ?_
    refine a_callV (pc := 66) X9 E (m_X10_backs  hnn h) okX10 (is10 hnn) wM_X10_393 w_instanceMethod_X10_backs w_selects_X10_backs w_initialized_RX10 w_code_X10_backs cp_X10_backs pn_X10_backs rfl (Nat.le_of_ble_eq_true rfl) ⟨Nat.le_of_ble_eq_true rfl, Nat.le_of_ble_eq_true rfl⟩ ⟨Nat.le_of_ble_eq_true rfl, Nat.le_of_ble_eq_true rfl⟩ dX10_toldOf_66 (fun _ _ q => False.elim q) (kIp (fun r_4 hr_4 h => ?_))
    exact a_ireturn (pc := 69) X9 E rfl rfl (Nat.le_of_ble_eq_true rfl) (Nat.le_of_ble_eq_true rfl) dX10_toldOf_69 ⟨rfl, _, rfl, hr_4, rfl, h⟩
set_option maxHeartbeats 4000000 in
set_option maxRecDepth 100000 in
theorem m_X10_tries {nn : Nat} {i1 : Int} {G : GH} {Q : GH → Prop} (hi1 : inR i1) (hnn : 285 ≤ nn) (h : f_X10_tries i1 G Q) : Mt yX10_tries cX10_tries 3 none 7 158 0 0 [vr 272, vi i1] (SF nn) G (fun v S' G' => S' = SF nn ∧ qV Q v S' G') (fun E S' G' => S' = SF nn ∧ False) := by
  refine Mt.of (l0 := [some (vr 272), some (vi i1), none]) (by decide) (Nat.le_of_ble_eq_true rfl) rfl ?_
  intro κ δ ρ0 X9 E hG
  replace X9 : CX κ δ RX10 cX10_tries 3 none := X9
  refine a_aload_n (pc := 0) X9 dX10_tries_0 rfl rfl ?_
  refine a_callV (pc := 1) X9 E (m_X10_goesAside  hnn h) okX10 (is10 hnn) wM_X10_196 w_instanceMethod_X10_goesAside w_selects_X10_goesAside w_initialized_RX10 w_code_X10_goesAside cp_X10_goesAside pn_X10_goesAside rfl (Nat.le_of_ble_eq_true rfl) ⟨Nat.le_of_ble_eq_true rfl, Nat.le_of_ble_eq_true rfl⟩ ⟨Nat.le_of_ble_eq_true rfl, Nat.le_of_ble_eq_true rfl⟩ dX10_tries_1 (fun _ _ q => False.elim q) (kV (fun G_1 h hG_1 => ?_))
  refine a_aload_n (pc := 4) X9 dX10_tries_4 rfl rfl ?_
  refine a_iload_n (pc := 5) X9 dX10_tries_5 rfl rfl ?_
  refine a_callV (pc := 6) X9 E (m_X10_hangsService hi1 hnn h) okX10 (is10 hnn) wM_X10_399 w_instanceMethod_X10_hangsService w_selects_X10_hangsService w_initialized_RX10 w_code_X10_hangsService cp_X10_hangsService pn_X10_hangsService rfl (Nat.le_of_ble_eq_true rfl) ⟨Nat.le_of_ble_eq_true rfl, Nat.le_of_ble_eq_true rfl⟩ ⟨Nat.le_of_ble_eq_true rfl, Nat.le_of_ble_eq_true rfl⟩ dX10_tries_6 (fun _ _ q => False.elim q) (kI (fun r_2 G_2 hr_2 h hG_2 => ?_))
  refine a_istore_n (pc := 9) X9 dX10_tries_9 rfl (Nat.le_of_ble_eq_true rfl) rfl rfl ?_
  exact a_return (pc := 10) X9 E (Nat.le_of_ble_eq_true rfl) (Nat.le_of_ble_eq_true rfl) dX10_tries_10 ⟨rfl, rfl, h⟩
set_option maxHeartbeats 4000000 in
set_option maxRecDepth 100000 in
theorem m_X10_would {nn : Nat} {i1 : Int} {i2 : Int} {G : GH} {Q : Int → GH → Prop} (hi1 : inR i1) (hi2 : inR i2) (hnn : 285 ≤ nn) (h : f_X10_would i1 i2 G Q) : Mt yX10_would cX10_would 3 (some .int) 8 180 0 0 [vr 272, vi i1, vi i2] (SF nn) G (fun v S' G' => S' = SF nn ∧ qI Q v S' G') (fun E S' G' => S' = SF nn ∧ False) := by
  refine Mt.of (l0 := [some (vr 272), some (vi i1), some (vi i2)]) (by decide) (Nat.le_of_ble_eq_true rfl) rfl ?_
  intro κ δ ρ0 X9 E hG
  replace X9 : CX κ δ RX10 cX10_would 3 (some .int) := X9
  refine a_aload_n (pc := 0) X9 dX10_would_0 rfl rfl ?_
  refine a_iload_n (pc := 1) X9 dX10_would_1 rfl rfl ?_
  refine a_callV (pc := 2) X9 E (m_X10_noService hi1 hnn h) okX10 (is10 hnn) wM_X10_368 w_instanceMethod_X10_noService w_selects_X10_noService w_initialized_RX10 w_code_X10_noService cp_X10_noService pn_X10_noService rfl (Nat.le_of_ble_eq_true rfl) ⟨Nat.le_of_ble_eq_true rfl, Nat.le_of_ble_eq_true rfl⟩ ⟨Nat.le_of_ble_eq_true rfl, Nat.le_of_ble_eq_true rfl⟩ dX10_would_2 (fun _ _ q => False.elim q) (kZ (fun r_1 G_1 hr_1 h hG_1 => ?_))
  refine a_if_ne (pc := 5) (tgt := 33) X9 dX10_would_5 rfl (bool_inR hr_1) (fun c => ?_) (fun c => ?_)
  · have c_1 := c
    have h := h.1 c_1
    refine a_iconst (pc := 33) X9 dX10_would_33 ?_
    exact a_ireturn (pc := 34) X9 E rfl rfl (Nat.le_of_ble_eq_true rfl) (Nat.le_of_ble_eq_true rfl) dX10_would_34 ⟨rfl, _, rfl, (show inR 0 by decide), h⟩
  · have c_1 := c
    have h := h.2 c_1
    refine a_aload_n (pc := 8) X9 dX10_would_8 rfl rfl ?_
    refine a_iload_n (pc := 9) X9 dX10_would_9 rfl rfl ?_
    refine a_i2l (pc := 10) X9 dX10_would_10 hi2 ?_
    refine a_lconst (pc := 11) X9 0 dX10_would_11 rfl ?_
    refine a_ldc2 (pc := 12) X9 (n := 6) wCL_X10_402 dX10_would_12 (by decide +kernel) ?_
    refine a_callS (pc := 15) X9 E (m_X10_in (inR_inL hi2) (show inL 0 by decide) (show inL 6 by decide) hnn h) wM_X10_92 w_static_X10_in w_initialized_RX10 w_code_X10_in cp_X10_in pn_X10_in rfl (Nat.le_of_ble_eq_true rfl) ⟨Nat.le_of_ble_eq_true rfl, Nat.le_of_ble_eq_true rfl⟩ ⟨Nat.le_of_ble_eq_true rfl, Nat.le_of_ble_eq_true rfl⟩ dX10_would_15 (fun _ _ q => False.elim q) (kZp (fun r_2 hr_2 h => ?_))
    refine joinM1 (A := fun v_1 => (v_1 = 0 ∨ v_1 = 1) → AW κ δ ρ0 nn 3 0 0 26 [some (vr 272), some (vi i1), some (vi i2)] [vi v_1, vr 272] (SF nn) G_1) (fun v_1 h h_v_1 => ?_) (fun j_1 hj_1 h => ?_) h
    · refine a_iconst (pc := 26) X9 dX10_would_26 ?_
      refine a_callV (pc := 27) X9 E (m_X10_throwsIf (bool_inR h_v_1) (show inR 2 by decide) hnn h) okX10 (is10 hnn) wM_X10_340 w_instanceMethod_X10_throwsIf w_selects_X10_throwsIf w_initialized_RX10 w_code_X10_throwsIf cp_X10_throwsIf pn_X10_throwsIf rfl (Nat.le_of_ble_eq_true rfl) ⟨Nat.le_of_ble_eq_true rfl, Nat.le_of_ble_eq_true rfl⟩ ⟨Nat.le_of_ble_eq_true rfl, Nat.le_of_ble_eq_true rfl⟩ dX10_would_27 (fun _ _ q => False.elim q) (kZ (fun r_3 G_2 hr_3 h hG_2 => ?_))
      refine a_if_eq (pc := 30) (tgt := 35) X9 dX10_would_30 rfl (bool_inR hr_3) (fun c => ?_) (fun c => ?_)
      · have c_3 := c
        have h := h.1 c_3
        refine a_aload_n (pc := 35) X9 dX10_would_35 rfl rfl ?_
        refine a_iload_n (pc := 36) X9 dX10_would_36 rfl rfl ?_
        refine a_callV (pc := 37) X9 E (m_X10_tries hi1 hnn h) okX10 (is10 hnn) wM_X10_404 w_instanceMethod_X10_tries w_selects_X10_tries w_initialized_RX10 w_code_X10_tries cp_X10_tries pn_X10_tries rfl (Nat.le_of_ble_eq_true rfl) ⟨Nat.le_of_ble_eq_true rfl, Nat.le_of_ble_eq_true rfl⟩ ⟨Nat.le_of_ble_eq_true rfl, Nat.le_of_ble_eq_true rfl⟩ dX10_would_37 (fun _ _ q => False.elim q) (kV (fun G_3 h hG_3 => ?_))
        refine a_aload_n (pc := 40) X9 dX10_would_40 rfl rfl ?_
        refine a_aload_n (pc := 41) X9 dX10_would_41 rfl rfl ?_
        refine a_iload_n (pc := 42) X9 dX10_would_42 rfl rfl ?_
        refine a_callV (pc := 43) X9 E (m_X10_toldOf hi2 hnn h) okX10 (is10 hnn) wM_X10_407 w_instanceMethod_X10_toldOf w_selects_X10_toldOf w_initialized_RX10 w_code_X10_toldOf cp_X10_toldOf pn_X10_toldOf rfl (Nat.le_of_ble_eq_true rfl) ⟨Nat.le_of_ble_eq_true rfl, Nat.le_of_ble_eq_true rfl⟩ ⟨Nat.le_of_ble_eq_true rfl, Nat.le_of_ble_eq_true rfl⟩ dX10_would_43 (fun _ _ q => False.elim q) (kIp (fun r_5 hr_5 h => ?_))
        refine a_callV (pc := 46) X9 E (m_X10_comesBack hr_5 hnn h) okX10 (is10 hnn) wM_X10_202 w_instanceMethod_X10_comesBack w_selects_X10_comesBack w_initialized_RX10 w_code_X10_comesBack cp_X10_comesBack pn_X10_comesBack rfl (Nat.le_of_ble_eq_true rfl) ⟨Nat.le_of_ble_eq_true rfl, Nat.le_of_ble_eq_true rfl⟩ ⟨Nat.le_of_ble_eq_true rfl, Nat.le_of_ble_eq_true rfl⟩ dX10_would_46 (fun _ _ q => False.elim q) (kI (fun r_6 G_4 hr_6 h hG_4 => ?_))
        exact a_ireturn (pc := 49) X9 E rfl rfl (Nat.le_of_ble_eq_true rfl) (Nat.le_of_ble_eq_true rfl) dX10_would_49 ⟨rfl, _, rfl, hr_6, h⟩
      · have c_3 := c
        have h := h.2 c_3
        refine a_iconst (pc := 33) X9 dX10_would_33 ?_
        exact a_ireturn (pc := 34) X9 E rfl rfl (Nat.le_of_ble_eq_true rfl) (Nat.le_of_ble_eq_true rfl) dX10_would_34 ⟨rfl, _, rfl, (show inR 0 by decide), h⟩
    · refine a_if_ne (pc := 18) (tgt := 25) X9 dX10_would_18 rfl (bool_inR hr_2) (fun c => ?_) (fun c => ?_)
      · have c_4 := c
        have h := h.1 c_4
        refine a_iconst (pc := 25) X9 dX10_would_25 ?_
        exact hj_1 _ h (Or.inl rfl)
      · have c_4 := c
        have h := h.2 c_4
        refine a_iconst (pc := 21) X9 dX10_would_21 ?_
        refine a_goto (pc := 22) (tgt := 26) X9 dX10_would_22 rfl ?_
        exact hj_1 _ h (Or.inr rfl)
set_option maxHeartbeats 4000000 in
set_option maxRecDepth 100000 in
theorem m_X10_outAt {nn : Nat} {i1 : Int} {G : GH} {Q : Int → GH → Prop} (hi1 : inR i1) (hnn : 285 ≤ nn) (h : f_X10_outAt i1 G Q) : Mt yX10_outAt cX10_outAt 4 (some .int) 8 180 0 0 [vr 272, vi i1] (SF nn) G (fun v S' G' => S' = SF nn ∧ qI Q v S' G') (fun E S' G' => S' = SF nn ∧ False) := by
  refine Mt.of (l0 := [some (vr 272), some (vi i1), none, none]) (by decide) (Nat.le_of_ble_eq_true rfl) rfl ?_
  intro κ δ ρ0 X9 E hG
  replace X9 : CX κ δ RX10 cX10_outAt 4 (some .int) := X9
  refine a_aload_n (pc := 0) X9 dX10_outAt_0 rfl rfl ?_
  refine a_iload_n (pc := 1) X9 dX10_outAt_1 rfl rfl ?_
  refine a_callV (pc := 2) X9 E (m_X10_noService hi1 hnn h) okX10 (is10 hnn) wM_X10_368 w_instanceMethod_X10_noService w_selects_X10_noService w_initialized_RX10 w_code_X10_noService cp_X10_noService pn_X10_noService rfl (Nat.le_of_ble_eq_true rfl) ⟨Nat.le_of_ble_eq_true rfl, Nat.le_of_ble_eq_true rfl⟩ ⟨Nat.le_of_ble_eq_true rfl, Nat.le_of_ble_eq_true rfl⟩ dX10_outAt_2 (fun _ _ q => False.elim q) (kZ (fun r_1 G_1 hr_1 h hG_1 => ?_))
  refine a_if_eq (pc := 5) (tgt := 10) X9 dX10_outAt_5 rfl (bool_inR hr_1) (fun c => ?_) (fun c => ?_)
  · have c_1 := c
    have h := h.1 c_1
    refine a_aload_n (pc := 10) X9 dX10_outAt_10 rfl rfl ?_
    refine a_iload_n (pc := 11) X9 dX10_outAt_11 rfl rfl ?_
    refine a_callV (pc := 12) X9 E (m_X10_tries hi1 hnn h) okX10 (is10 hnn) wM_X10_404 w_instanceMethod_X10_tries w_selects_X10_tries w_initialized_RX10 w_code_X10_tries cp_X10_tries pn_X10_tries rfl (Nat.le_of_ble_eq_true rfl) ⟨Nat.le_of_ble_eq_true rfl, Nat.le_of_ble_eq_true rfl⟩ ⟨Nat.le_of_ble_eq_true rfl, Nat.le_of_ble_eq_true rfl⟩ dX10_outAt_12 (fun _ _ q => False.elim q) (kV (fun G_2 h hG_2 => ?_))
    refine a_aload_n (pc := 15) X9 dX10_outAt_15 rfl rfl ?_
    refine a_iconst (pc := 16) X9 dX10_outAt_16 ?_
    refine a_callV (pc := 17) X9 E (m_X10_comesBack (show inR 0 by decide) hnn h) okX10 (is10 hnn) wM_X10_202 w_instanceMethod_X10_comesBack w_selects_X10_comesBack w_initialized_RX10 w_code_X10_comesBack cp_X10_comesBack pn_X10_comesBack rfl (Nat.le_of_ble_eq_true rfl) ⟨Nat.le_of_ble_eq_true rfl, Nat.le_of_ble_eq_true rfl⟩ ⟨Nat.le_of_ble_eq_true rfl, Nat.le_of_ble_eq_true rfl⟩ dX10_outAt_17 (fun _ _ q => False.elim q) (kI (fun r_3 G_3 hr_3 h hG_3 => ?_))
    refine a_istore_n (pc := 20) X9 dX10_outAt_20 rfl (Nat.le_of_ble_eq_true rfl) rfl rfl ?_
    refine a_aload_n (pc := 21) X9 dX10_outAt_21 rfl rfl ?_
    refine a_getI (pc := 22) X9 okX10 24 rfl wF_X10_282 (is10 hnn) dX10_outAt_22 ?_
    refine a_iconst (pc := 25) X9 dX10_outAt_25 ?_
    refine a_icmp_ne (pc := 26) (tgt := 31) X9 dX10_outAt_26 rfl (hG_3 _ _) (by decide) (fun c => ?_) (fun c => ?_)
    · have c_2 := c
      have h := h.1 c_2
      refine a_aload_n (pc := 31) X9 dX10_outAt_31 rfl rfl ?_
      refine a_aload_n (pc := 32) X9 dX10_outAt_32 rfl rfl ?_
      refine a_getI (pc := 33) X9 okX10 24 rfl wF_X10_282 (is10 hnn) dX10_outAt_33 ?_
      refine a_callV (pc := 36) X9 E (m_X10_boardOf (hG_3 _ _) hnn h) okX10 (is10 hnn) wM_X10_273 w_instanceMethod_X10_boardOf w_selects_X10_boardOf w_initialized_RX10 w_code_X10_boardOf cp_X10_boardOf pn_X10_boardOf rfl (Nat.le_of_ble_eq_true rfl) ⟨Nat.le_of_ble_eq_true rfl, Nat.le_of_ble_eq_true rfl⟩ ⟨Nat.le_of_ble_eq_true rfl, Nat.le_of_ble_eq_true rfl⟩ dX10_outAt_36 (fun _ _ q => False.elim q) (kIp (fun r_4 hr_4 h => ?_))
      refine a_istore_n (pc := 39) X9 dX10_outAt_39 rfl (Nat.le_of_ble_eq_true rfl) rfl rfl ?_
      refine a_bipush (pc := 40) X9 dX10_outAt_40 rfl ?_
      refine a_iload_n (pc := 42) X9 dX10_outAt_42 rfl rfl ?_
      refine a_imul (pc := 43) X9 dX10_outAt_43 ?_
      refine a_aload_n (pc := 44) X9 dX10_outAt_44 rfl rfl ?_
      refine a_getI (pc := 45) X9 okX10 24 rfl wF_X10_282 (is10 hnn) dX10_outAt_45 ?_
      refine a_iadd (pc := 48) X9 dX10_outAt_48 ?_
      refine a_aload_n (pc := 49) X9 dX10_outAt_49 rfl rfl ?_
      refine a_iload_n (pc := 50) X9 dX10_outAt_50 rfl rfl ?_
      refine a_callV (pc := 51) X9 E (m_X10_firstRow hr_4 hnn h) okX10 (is10 hnn) wM_X10_270 w_instanceMethod_X10_firstRow w_selects_X10_firstRow w_initialized_RX10 w_code_X10_firstRow cp_X10_firstRow pn_X10_firstRow rfl (Nat.le_of_ble_eq_true rfl) ⟨Nat.le_of_ble_eq_true rfl, Nat.le_of_ble_eq_true rfl⟩ ⟨Nat.le_of_ble_eq_true rfl, Nat.le_of_ble_eq_true rfl⟩ dX10_outAt_51 (fun _ _ q => False.elim q) (kIp (fun r_5 hr_5 h => ?_))
      refine a_isub (pc := 54) X9 dX10_outAt_54 ?_
      obtain ⟨g_1, h⟩ := h
      exact a_ireturn (pc := 55) X9 E rfl rfl (Nat.le_of_ble_eq_true rfl) (Nat.le_of_ble_eq_true rfl) dX10_outAt_55 ⟨rfl, _, rfl, g_1, h⟩
    · have c_2 := c
      have h := h.2 c_2
      refine a_iconst (pc := 29) X9 dX10_outAt_29 ?_
      exact a_ireturn (pc := 30) X9 E rfl rfl (Nat.le_of_ble_eq_true rfl) (Nat.le_of_ble_eq_true rfl) dX10_outAt_30 ⟨rfl, _, rfl, (show inR (-1) by decide), h⟩
  · have c_1 := c
    have h := h.2 c_1
    refine a_iconst (pc := 8) X9 dX10_outAt_8 ?_
    exact a_ireturn (pc := 9) X9 E rfl rfl (Nat.le_of_ble_eq_true rfl) (Nat.le_of_ble_eq_true rfl) dX10_outAt_9 ⟨rfl, _, rfl, (show inR 0 by decide), h⟩
set_option maxHeartbeats 4000000 in
set_option maxRecDepth 100000 in
theorem m_X10_missing {nn : Nat} {i1 : Int} {G : GH} {Q : Int → GH → Prop} (hi1 : inR i1) (hnn : 285 ≤ nn) (h : f_X10_missing i1 G Q) : Mt yX10_missing cX10_missing 4 (some .int) 5 110 0 0 [vr 272, vi i1] (SF nn) G (fun v S' G' => S' = SF nn ∧ qI Q v S' G') (fun E S' G' => S' = SF nn ∧ False) := by
  refine Mt.of (l0 := [some (vr 272), some (vi i1), none, none]) (by decide) (Nat.le_of_ble_eq_true rfl) rfl ?_
  intro κ δ ρ0 X9 E hG
  replace X9 : CX κ δ RX10 cX10_missing 4 (some .int) := X9
  refine a_aload_n (pc := 0) X9 dX10_missing_0 rfl rfl ?_
  refine a_iload_n (pc := 1) X9 dX10_missing_1 rfl rfl ?_
  refine a_callV (pc := 2) X9 E (m_X10_noService hi1 hnn h) okX10 (is10 hnn) wM_X10_368 w_instanceMethod_X10_noService w_selects_X10_noService w_initialized_RX10 w_code_X10_noService cp_X10_noService pn_X10_noService rfl (Nat.le_of_ble_eq_true rfl) ⟨Nat.le_of_ble_eq_true rfl, Nat.le_of_ble_eq_true rfl⟩ ⟨Nat.le_of_ble_eq_true rfl, Nat.le_of_ble_eq_true rfl⟩ dX10_missing_2 (fun _ _ q => False.elim q) (kZ (fun r_1 G_1 hr_1 h hG_1 => ?_))
  refine a_if_eq (pc := 5) (tgt := 10) X9 dX10_missing_5 rfl (bool_inR hr_1) (fun c => ?_) (fun c => ?_)
  · have c_1 := c
    have h := h.1 c_1
    refine a_aload_n (pc := 10) X9 dX10_missing_10 rfl rfl ?_
    refine a_iconst (pc := 11) X9 dX10_missing_11 ?_
    refine a_callV (pc := 12) X9 E (m_X10_laysCards (show inR 0 by decide) hnn h) okX10 (is10 hnn) wM_X10_303 w_instanceMethod_X10_laysCards w_selects_X10_laysCards w_initialized_RX10 w_code_X10_laysCards cp_X10_laysCards pn_X10_laysCards rfl (Nat.le_of_ble_eq_true rfl) ⟨Nat.le_of_ble_eq_true rfl, Nat.le_of_ble_eq_true rfl⟩ ⟨Nat.le_of_ble_eq_true rfl, Nat.le_of_ble_eq_true rfl⟩ dX10_missing_12 (fun _ _ q => False.elim q) (kV (fun G_2 h hG_2 => ?_))
    refine a_iconst (pc := 15) X9 dX10_missing_15 ?_
    refine a_istore_n (pc := 16) X9 dX10_missing_16 rfl (Nat.le_of_ble_eq_true rfl) rfl rfl ?_
    refine loopM2 (A := fun x2_1 G_3 => inR x2_1 → GR G_3 → AW κ δ ρ0 nn 4 0 0 17 [some (vr 272), some (vi i1), some (vi x2_1), none] [] (SF nn) G_3) (fun k_1 hk_1 x2_1 G_3 h h_x2_1 hG_3 => ?_) _ _ h (by decide) hG_2
    refine a_iload_n (pc := 17) X9 dX10_missing_17 rfl rfl ?_
    refine a_aload_n (pc := 18) X9 dX10_missing_18 rfl rfl ?_
    refine a_callV (pc := 19) X9 E (m_X10_allRows  hnn h) okX10 (is10 hnn) wM_X10_285 w_instanceMethod_X10_allRows w_selects_X10_allRows w_initialized_RX10 w_code_X10_allRows cp_X10_allRows pn_X10_allRows rfl (Nat.le_of_ble_eq_true rfl) ⟨Nat.le_of_ble_eq_true rfl, Nat.le_of_ble_eq_true rfl⟩ ⟨Nat.le_of_ble_eq_true rfl, Nat.le_of_ble_eq_true rfl⟩ dX10_missing_19 (fun _ _ q => False.elim q) (kIp (fun r_3 hr_3 h => ?_))
    refine a_icmp_ge (pc := 22) (tgt := 49) X9 dX10_missing_22 rfl h_x2_1 hr_3 (fun c => ?_) (fun c => ?_)
    · have c_2 := c
      have h := h.1 c_2
      refine a_aload_n (pc := 49) X9 dX10_missing_49 rfl rfl ?_
      refine a_callV (pc := 50) X9 E (m_X10_lack  hnn h) okX10 (is10 hnn) wM_X10_294 w_instanceMethod_X10_lack w_selects_X10_lack w_initialized_RX10 w_code_X10_lack cp_X10_lack pn_X10_lack rfl (Nat.le_of_ble_eq_true rfl) ⟨Nat.le_of_ble_eq_true rfl, Nat.le_of_ble_eq_true rfl⟩ ⟨Nat.le_of_ble_eq_true rfl, Nat.le_of_ble_eq_true rfl⟩ dX10_missing_50 (fun _ _ q => False.elim q) (kIp (fun r_4 hr_4 h => ?_))
      exact a_ireturn (pc := 53) X9 E rfl rfl (Nat.le_of_ble_eq_true rfl) (Nat.le_of_ble_eq_true rfl) dX10_missing_53 ⟨rfl, _, rfl, hr_4, h⟩
    · have c_2 := c
      have h := h.2 c_2
      refine a_aload_n (pc := 25) X9 dX10_missing_25 rfl rfl ?_
      refine a_iload_n (pc := 26) X9 dX10_missing_26 rfl rfl ?_
      refine a_iload_n (pc := 27) X9 dX10_missing_27 rfl rfl ?_
      refine a_callV (pc := 28) X9 E (m_X10_dueOf hi1 h_x2_1 hnn h) okX10 (is10 hnn) wM_X10_288 w_instanceMethod_X10_dueOf w_selects_X10_dueOf w_initialized_RX10 w_code_X10_dueOf cp_X10_dueOf pn_X10_dueOf rfl (Nat.le_of_ble_eq_true rfl) ⟨Nat.le_of_ble_eq_true rfl, Nat.le_of_ble_eq_true rfl⟩ ⟨Nat.le_of_ble_eq_true rfl, Nat.le_of_ble_eq_true rfl⟩ dX10_missing_28 (fun _ _ q => False.elim q) (kIp (fun r_5 hr_5 h => ?_))
      refine a_istore_n (pc := 31) X9 dX10_missing_31 rfl (Nat.le_of_ble_eq_true rfl) rfl rfl ?_
      refine a_iload_n (pc := 32) X9 dX10_missing_32 rfl rfl ?_
      refine a_iconst (pc := 33) X9 dX10_missing_33 ?_
      refine a_icmp_eq (pc := 34) (tgt := 43) X9 dX10_missing_34 rfl hr_5 (by decide) (fun c => ?_) (fun c => ?_)
      · have c_3 := c
        have h := h.1 c_3
        refine a_iinc (pc := 43) X9 dX10_missing_43 rfl (Nat.le_of_ble_eq_true rfl) rfl rfl ?_
        refine a_goto (pc := 46) (tgt := 17) X9 dX10_missing_46 rfl ?_
        have q_1 : inR (r_3) := hr_3
        have q_2 : inR (x2_1) := h_x2_1
        have g_1 : inR ((x2_1 + 1)) := ⟨by omega, by omega⟩
        refine AW.drop 3 rfl ?_
        exact hk_1 _ _ h g_1 hG_3
      · have c_3 := c
        have h := h.2 c_3
        refine a_aload_n (pc := 37) X9 dX10_missing_37 rfl rfl ?_
        refine a_iload_n (pc := 38) X9 dX10_missing_38 rfl rfl ?_
        refine a_iconst (pc := 39) X9 dX10_missing_39 ?_
        refine a_callV (pc := 40) X9 E (m_X10_wantsHymn hr_5 (show inR 1 by decide) hnn h) okX10 (is10 hnn) wM_X10_291 w_instanceMethod_X10_wantsHymn w_selects_X10_wantsHymn w_initialized_RX10 w_code_X10_wantsHymn cp_X10_wantsHymn pn_X10_wantsHymn rfl (Nat.le_of_ble_eq_true rfl) ⟨Nat.le_of_ble_eq_true rfl, Nat.le_of_ble_eq_true rfl⟩ ⟨Nat.le_of_ble_eq_true rfl, Nat.le_of_ble_eq_true rfl⟩ dX10_missing_40 (fun _ _ q => False.elim q) (kV (fun G_4 h hG_4 => ?_))
        refine a_iinc (pc := 43) X9 dX10_missing_43 rfl (Nat.le_of_ble_eq_true rfl) rfl rfl ?_
        refine a_goto (pc := 46) (tgt := 17) X9 dX10_missing_46 rfl ?_
        have q_3 : inR (r_3) := hr_3
        have q_4 : inR (x2_1) := h_x2_1
        have g_2 : inR ((x2_1 + 1)) := ⟨by omega, by omega⟩
        refine AW.drop 3 rfl ?_
        exact hk_1 _ _ h g_2 hG_4
  · have c_1 := c
    have h := h.2 c_1
    refine a_iconst (pc := 8) X9 dX10_missing_8 ?_
    exact a_ireturn (pc := 9) X9 E rfl rfl (Nat.le_of_ble_eq_true rfl) (Nat.le_of_ble_eq_true rfl) dX10_missing_9 ⟨rfl, _, rfl, (show inR 0 by decide), h⟩
set_option maxHeartbeats 4000000 in
set_option maxRecDepth 100000 in
theorem m_X10_rowsWith {nn : Nat} {i1 : Int} {i2 : Int} {G : GH} {Q : Int → GH → Prop} (hi1 : inR i1) (hi2 : inR i2) (hnn : 285 ≤ nn) (h : f_X10_rowsWith i1 i2 G Q) : Mt yX10_rowsWith cX10_rowsWith 4 (some .int) 8 180 0 0 [vr 272, vi i1, vi i2] (SF nn) G (fun v S' G' => S' = SF nn ∧ qI Q v S' G') (fun E S' G' => S' = SF nn ∧ False) := by
  refine Mt.of (l0 := [some (vr 272), some (vi i1), some (vi i2), none]) (by decide) (Nat.le_of_ble_eq_true rfl) rfl ?_
  intro κ δ ρ0 X9 E hG
  replace X9 : CX κ δ RX10 cX10_rowsWith 4 (some .int) := X9
  refine a_aload_n (pc := 0) X9 dX10_rowsWith_0 rfl rfl ?_
  refine a_iload_n (pc := 1) X9 dX10_rowsWith_1 rfl rfl ?_
  refine a_putI (pc := 2) X9 okX10 17 rfl rfl (v := i2) wF_X10_37 (is10 hnn) dX10_rowsWith_2 hi2 (fit_int _) (fun _ => ?_)
  obtain ⟨G_1, eG_1⟩ : ∃ G9, G9 = upG G 272 17 i2 := ⟨_, rfl⟩
  have hG_1 : GR G_1 := by rw [eG_1]; exact (GR.up hG hi2)
  have h := h G_1 eG_1
  rw [← eG_1]
  refine a_aload_n (pc := 5) X9 dX10_rowsWith_5 rfl rfl ?_
  refine a_iload_n (pc := 6) X9 dX10_rowsWith_6 rfl rfl ?_
  refine a_callV (pc := 7) X9 E (m_X10_tries hi1 hnn h) okX10 (is10 hnn) wM_X10_404 w_instanceMethod_X10_tries w_selects_X10_tries w_initialized_RX10 w_code_X10_tries cp_X10_tries pn_X10_tries rfl (Nat.le_of_ble_eq_true rfl) ⟨Nat.le_of_ble_eq_true rfl, Nat.le_of_ble_eq_true rfl⟩ ⟨Nat.le_of_ble_eq_true rfl, Nat.le_of_ble_eq_true rfl⟩ dX10_rowsWith_7 (fun _ _ q => False.elim q) (kV (fun G_2 h hG_2 => ?_))
  refine a_aload_n (pc := 10) X9 dX10_rowsWith_10 rfl rfl ?_
  refine a_aload_n (pc := 11) X9 dX10_rowsWith_11 rfl rfl ?_
  refine a_getI (pc := 12) X9 okX10 22 rfl wF_X10_276 (is10 hnn) dX10_rowsWith_12 ?_
  refine a_callV (pc := 15) X9 E (m_X10_comesBack (hG_2 _ _) hnn h) okX10 (is10 hnn) wM_X10_202 w_instanceMethod_X10_comesBack w_selects_X10_comesBack w_initialized_RX10 w_code_X10_comesBack cp_X10_comesBack pn_X10_comesBack rfl (Nat.le_of_ble_eq_true rfl) ⟨Nat.le_of_ble_eq_true rfl, Nat.le_of_ble_eq_true rfl⟩ ⟨Nat.le_of_ble_eq_true rfl, Nat.le_of_ble_eq_true rfl⟩ dX10_rowsWith_15 (fun _ _ q => False.elim q) (kI (fun r_2 G_3 hr_2 h hG_3 => ?_))
  refine a_istore_n (pc := 18) X9 dX10_rowsWith_18 rfl (Nat.le_of_ble_eq_true rfl) rfl rfl ?_
  refine a_aload_n (pc := 19) X9 dX10_rowsWith_19 rfl rfl ?_
  refine a_iconst (pc := 20) X9 dX10_rowsWith_20 ?_
  refine a_putI (pc := 21) X9 okX10 17 rfl rfl (v := (-1)) wF_X10_37 (is10 hnn) dX10_rowsWith_21 (by decide) (fit_int _) (fun _ => ?_)
  obtain ⟨G_4, eG_4⟩ : ∃ G9, G9 = upG G_3 272 17 (-1) := ⟨_, rfl⟩
  have hG_4 : GR G_4 := by rw [eG_4]; exact (GR.up hG_3 (by decide))
  have h := h G_4 eG_4
  rw [← eG_4]
  refine a_iload_n (pc := 24) X9 dX10_rowsWith_24 rfl rfl ?_
  exact a_ireturn (pc := 25) X9 E rfl rfl (Nat.le_of_ble_eq_true rfl) (Nat.le_of_ble_eq_true rfl) dX10_rowsWith_25 ⟨rfl, _, rfl, hr_2, h⟩
set_option maxHeartbeats 4000000 in
set_option maxRecDepth 100000 in
theorem m_X10_bestBuy {nn : Nat} {i1 : Int} {G : GH} {Q : Int → GH → Prop} (hi1 : inR i1) (hnn : 285 ≤ nn) (h : f_X10_bestBuy i1 G Q) : Mt yX10_bestBuy cX10_bestBuy 6 (some .int) 9 203 0 0 [vr 272, vi i1] (SF nn) G (fun v S' G' => S' = SF nn ∧ qI Q v S' G') (fun E S' G' => S' = SF nn ∧ False) := by
  refine Mt.of (l0 := [some (vr 272), some (vi i1), none, none, none, none]) (by decide) (Nat.le_of_ble_eq_true rfl) rfl ?_
  intro κ δ ρ0 X9 E hG
  replace X9 : CX κ δ RX10 cX10_bestBuy 6 (some .int) := X9
  refine a_aload_n (pc := 0) X9 dX10_bestBuy_0 rfl rfl ?_
  refine a_iload_n (pc := 1) X9 dX10_bestBuy_1 rfl rfl ?_
  refine a_callV (pc := 2) X9 E (m_X10_noService hi1 hnn h) okX10 (is10 hnn) wM_X10_368 w_instanceMethod_X10_noService w_selects_X10_noService w_initialized_RX10 w_code_X10_noService cp_X10_noService pn_X10_noService rfl (Nat.le_of_ble_eq_true rfl) ⟨Nat.le_of_ble_eq_true rfl, Nat.le_of_ble_eq_true rfl⟩ ⟨Nat.le_of_ble_eq_true rfl, Nat.le_of_ble_eq_true rfl⟩ dX10_bestBuy_2 (fun _ _ q => False.elim q) (kZ (fun r_1 G_1 hr_1 h hG_1 => ?_))
  refine a_if_eq (pc := 5) (tgt := 10) X9 dX10_bestBuy_5 rfl (bool_inR hr_1) (fun c => ?_) (fun c => ?_)
  · have c_1 := c
    have h := h.1 c_1
    refine a_iconst (pc := 10) X9 dX10_bestBuy_10 ?_
    refine a_istore_n (pc := 11) X9 dX10_bestBuy_11 rfl (Nat.le_of_ble_eq_true rfl) rfl rfl ?_
    refine a_aload_n (pc := 12) X9 dX10_bestBuy_12 rfl rfl ?_
    refine a_iload_n (pc := 13) X9 dX10_bestBuy_13 rfl rfl ?_
    refine a_iconst (pc := 14) X9 dX10_bestBuy_14 ?_
    refine a_callV (pc := 15) X9 E (m_X10_rowsWith hi1 (show inR (-1) by decide) hnn h) okX10 (is10 hnn) wM_X10_410 w_instanceMethod_X10_rowsWith w_selects_X10_rowsWith w_initialized_RX10 w_code_X10_rowsWith cp_X10_rowsWith pn_X10_rowsWith rfl (Nat.le_of_ble_eq_true rfl) ⟨Nat.le_of_ble_eq_true rfl, Nat.le_of_ble_eq_true rfl⟩ ⟨Nat.le_of_ble_eq_true rfl, Nat.le_of_ble_eq_true rfl⟩ dX10_bestBuy_15 (fun _ _ q => False.elim q) (kI (fun r_2 G_2 hr_2 h hG_2 => ?_))
    refine a_istore_n (pc := 18) X9 dX10_bestBuy_18 rfl (Nat.le_of_ble_eq_true rfl) rfl rfl ?_
    refine a_iconst (pc := 19) X9 dX10_bestBuy_19 ?_
    refine a_istore (pc := 20) X9 dX10_bestBuy_20 (Nat.le_of_ble_eq_true rfl) rfl rfl ?_
    refine loopM4 (A := fun x2_1 x3_1 x4_1 G_3 => inR x2_1 → inR x3_1 → inR x4_1 → GR G_3 → AW κ δ ρ0 nn 6 0 0 22 [some (vr 272), some (vi i1), some (vi x2_1), some (vi x3_1), some (vi x4_1), none] [] (SF nn) G_3) (fun k_1 hk_1 x2_1 x3_1 x4_1 G_3 h h_x2_1 h_x3_1 h_x4_1 hG_3 => ?_) _ _ _ _ h (by decide) hr_2 (by decide) hG_2
    refine a_iload (pc := 22) X9 dX10_bestBuy_22 rfl ?_
    refine a_bipush (pc := 24) X9 dX10_bestBuy_24 rfl ?_
    refine a_icmp_ge (pc := 26) (tgt := 59) X9 dX10_bestBuy_26 rfl h_x4_1 (by decide) (fun c => ?_) (fun c => ?_)
    · have c_2 := c
      have h := h.1 c_2
      refine a_iload_n (pc := 59) X9 dX10_bestBuy_59 rfl rfl ?_
      exact a_ireturn (pc := 60) X9 E rfl rfl (Nat.le_of_ble_eq_true rfl) (Nat.le_of_ble_eq_true rfl) dX10_bestBuy_60 ⟨rfl, _, rfl, h_x2_1, h⟩
    · have c_2 := c
      have h := h.2 c_2
      refine a_aload_n (pc := 29) X9 dX10_bestBuy_29 rfl rfl ?_
      refine a_iload_n (pc := 30) X9 dX10_bestBuy_30 rfl rfl ?_
      refine a_iload (pc := 31) X9 dX10_bestBuy_31 rfl ?_
      refine a_callV (pc := 33) X9 E (m_X10_rowsWith hi1 h_x4_1 hnn h) okX10 (is10 hnn) wM_X10_410 w_instanceMethod_X10_rowsWith w_selects_X10_rowsWith w_initialized_RX10 w_code_X10_rowsWith cp_X10_rowsWith pn_X10_rowsWith rfl (Nat.le_of_ble_eq_true rfl) ⟨Nat.le_of_ble_eq_true rfl, Nat.le_of_ble_eq_true rfl⟩ ⟨Nat.le_of_ble_eq_true rfl, Nat.le_of_ble_eq_true rfl⟩ dX10_bestBuy_33 (fun _ _ q => False.elim q) (kI (fun r_3 G_4 hr_3 h hG_4 => ?_))
      refine a_istore (pc := 36) X9 dX10_bestBuy_36 (Nat.le_of_ble_eq_true rfl) rfl rfl ?_
      refine a_iload (pc := 38) X9 dX10_bestBuy_38 rfl ?_
      refine a_iload_n (pc := 40) X9 dX10_bestBuy_40 rfl rfl ?_
      refine a_icmp_gt (pc := 41) (tgt := 47) X9 dX10_bestBuy_41 rfl hr_3 h_x3_1 (fun c => ?_) (fun c => ?_)
      · have c_3 := c
        have h := h.1 c_3
        refine a_iload (pc := 47) X9 dX10_bestBuy_47 rfl ?_
        refine a_istore_n (pc := 49) X9 dX10_bestBuy_49 rfl (Nat.le_of_ble_eq_true rfl) rfl rfl ?_
        refine a_iload (pc := 50) X9 dX10_bestBuy_50 rfl ?_
        refine a_istore_n (pc := 52) X9 dX10_bestBuy_52 rfl (Nat.le_of_ble_eq_true rfl) rfl rfl ?_
        refine a_iinc (pc := 53) X9 dX10_bestBuy_53 rfl (Nat.le_of_ble_eq_true rfl) rfl rfl ?_
        refine a_goto (pc := 56) (tgt := 22) X9 dX10_bestBuy_56 rfl ?_
        have q_1 : inR (x4_1) := h_x4_1
        have g_1 : inR ((x4_1 + 1)) := ⟨by omega, by omega⟩
        refine AW.drop 5 rfl ?_
        exact hk_1 _ _ _ _ h h_x4_1 hr_3 g_1 hG_4
      · have c_3 := c
        have h := h.2 c_3
        refine a_goto (pc := 44) (tgt := 53) X9 dX10_bestBuy_44 rfl ?_
        refine a_iinc (pc := 53) X9 dX10_bestBuy_53 rfl (Nat.le_of_ble_eq_true rfl) rfl rfl ?_
        refine a_goto (pc := 56) (tgt := 22) X9 dX10_bestBuy_56 rfl ?_
        have q_2 : inR (x4_1) := h_x4_1
        have g_2 : inR ((x4_1 + 1)) := ⟨by omega, by omega⟩
        refine AW.drop 5 rfl ?_
        exact hk_1 _ _ _ _ h h_x2_1 h_x3_1 g_2 hG_4
  · have c_1 := c
    have h := h.2 c_1
    refine a_iconst (pc := 8) X9 dX10_bestBuy_8 ?_
    exact a_ireturn (pc := 9) X9 E rfl rfl (Nat.le_of_ble_eq_true rfl) (Nat.le_of_ble_eq_true rfl) dX10_bestBuy_9 ⟨rfl, _, rfl, (show inR 0 by decide), h⟩
set_option maxHeartbeats 4000000 in
set_option maxRecDepth 100000 in
theorem m_X10_firstOut {nn : Nat}  {G : GH} {Q : Int → GH → Prop}  (hnn : 285 ≤ nn) (h : f_X10_firstOut G Q) : Mt yX10_firstOut cX10_firstOut 2 (some .int) 8 180 0 0 [vr 272] (SF nn) G (fun v S' G' => S' = SF nn ∧ qI Q v S' G') (fun E S' G' => S' = SF nn ∧ False) := by
  refine Mt.of (l0 := [some (vr 272), none]) (by decide) (Nat.le_of_ble_eq_true rfl) rfl ?_
  intro κ δ ρ0 X9 E hG
  replace X9 : CX κ δ RX10 cX10_firstOut 2 (some .int) := X9
  refine a_aload_n (pc := 0) X9 dX10_firstOut_0 rfl rfl ?_
  refine a_iconst (pc := 1) X9 dX10_firstOut_1 ?_
  refine a_putI (pc := 2) X9 okX10 0 rfl rfl (v := 0) wF_X10_58 (is10 hnn) dX10_firstOut_2 (by decide) (fit_int _) (fun _ => ?_)
  obtain ⟨G_1, eG_1⟩ : ∃ G9, G9 = upG G 272 0 0 := ⟨_, rfl⟩
  have hG_1 : GR G_1 := by rw [eG_1]; exact (GR.up hG (by decide))
  have h := h G_1 eG_1
  rw [← eG_1]
  refine a_iconst (pc := 5) X9 dX10_firstOut_5 ?_
  refine a_istore_n (pc := 6) X9 dX10_firstOut_6 rfl (Nat.le_of_ble_eq_true rfl) rfl rfl ?_
  refine loopM2 (A := fun x1_1 G_2 => inR x1_1 → GR G_2 → AW κ δ ρ0 nn 2 0 0 7 [some (vr 272), some (vi x1_1)] [] (SF nn) G_2) (fun k_1 hk_1 x1_1 G_2 h h_x1_1 hG_2 => ?_) _ _ h (by decide) hG_1
  refine a_iload_n (pc := 7) X9 dX10_firstOut_7 rfl rfl ?_
  refine a_aload_n (pc := 8) X9 dX10_firstOut_8 rfl rfl ?_
  refine a_getR (pc := 9) X9 (q := 273) okX10 1 rfl wF_X10_9 (is10 hnn) rf10_1 dX10_firstOut_9 ?_
  refine a_iconst (pc := 12) X9 dX10_firstOut_12 ?_
  refine a_iald (pc := 13) X9 (ar10_1 hnn) (Nat.le_of_ble_eq_true rfl) (j := 5) rfl (Nat.le_of_ble_eq_true rfl) dX10_firstOut_13 ?_
  refine a_icmp_ge (pc := 14) (tgt := 41) X9 dX10_firstOut_14 rfl h_x1_1 (hG_2 _ _) (fun c => ?_) (fun c => ?_)
  · have c_1 := c
    have h := h.1 c_1
    refine a_iconst (pc := 41) X9 dX10_firstOut_41 ?_
    exact a_ireturn (pc := 42) X9 E rfl rfl (Nat.le_of_ble_eq_true rfl) (Nat.le_of_ble_eq_true rfl) dX10_firstOut_42 ⟨rfl, _, rfl, (show inR (-1) by decide), h⟩
  · have c_1 := c
    have h := h.2 c_1
    refine a_aload_n (pc := 17) X9 dX10_firstOut_17 rfl rfl ?_
    refine a_iload_n (pc := 18) X9 dX10_firstOut_18 rfl rfl ?_
    refine a_callV (pc := 19) X9 E (m_X10_tries h_x1_1 hnn h) okX10 (is10 hnn) wM_X10_404 w_instanceMethod_X10_tries w_selects_X10_tries w_initialized_RX10 w_code_X10_tries cp_X10_tries pn_X10_tries rfl (Nat.le_of_ble_eq_true rfl) ⟨Nat.le_of_ble_eq_true rfl, Nat.le_of_ble_eq_true rfl⟩ ⟨Nat.le_of_ble_eq_true rfl, Nat.le_of_ble_eq_true rfl⟩ dX10_firstOut_19 (fun _ _ q => False.elim q) (kV (fun G_3 h hG_3 => ?_))
    refine a_aload_n (pc := 22) X9 dX10_firstOut_22 rfl rfl ?_
    refine a_aload_n (pc := 23) X9 dX10_firstOut_23 rfl rfl ?_
    refine a_getI (pc := 24) X9 okX10 23 rfl wF_X10_279 (is10 hnn) dX10_firstOut_24 ?_
    refine a_callV (pc := 27) X9 E (m_X10_comesBack (hG_3 _ _) hnn h) okX10 (is10 hnn) wM_X10_202 w_instanceMethod_X10_comesBack w_selects_X10_comesBack w_initialized_RX10 w_code_X10_comesBack cp_X10_comesBack pn_X10_comesBack rfl (Nat.le_of_ble_eq_true rfl) ⟨Nat.le_of_ble_eq_true rfl, Nat.le_of_ble_eq_true rfl⟩ ⟨Nat.le_of_ble_eq_true rfl, Nat.le_of_ble_eq_true rfl⟩ dX10_firstOut_27 (fun _ _ q => False.elim q) (kI (fun r_2 G_4 hr_2 h hG_4 => ?_))
    refine a_if_le (pc := 30) (tgt := 35) X9 dX10_firstOut_30 rfl hr_2 (fun c => ?_) (fun c => ?_)
    · have c_2 := c
      have h := h.1 c_2
      refine a_iinc (pc := 35) X9 dX10_firstOut_35 rfl (Nat.le_of_ble_eq_true rfl) rfl rfl ?_
      refine a_goto (pc := 38) (tgt := 7) X9 dX10_firstOut_38 rfl ?_
      have q_1 : inR ((G_2 273 5)) := (hG_2 _ _)
      have q_2 : inR (x1_1) := h_x1_1
      have g_1 : inR ((x1_1 + 1)) := ⟨by omega, by omega⟩
      exact hk_1 _ _ h g_1 hG_4
    · have c_2 := c
      have h := h.2 c_2
      refine a_iload_n (pc := 33) X9 dX10_firstOut_33 rfl rfl ?_
      exact a_ireturn (pc := 34) X9 E rfl rfl (Nat.le_of_ble_eq_true rfl) (Nat.le_of_ble_eq_true rfl) dX10_firstOut_34 ⟨rfl, _, rfl, h_x1_1, h⟩
set_option maxHeartbeats 4000000 in
set_option maxRecDepth 100000 in
theorem m_X10_workFrom {nn : Nat} {i1 : Int} {i2 : Int} {G : GH} {Q : Int → GH → Prop} (hi1 : inR i1) (hi2 : inR i2) (hnn : 285 ≤ nn) (h : f_X10_workFrom i1 i2 G Q) : Mt yX10_workFrom cX10_workFrom 3 (some .int) 8 180 0 0 [vr 272, vi i1, vi i2] (SF nn) G (fun v S' G' => S' = SF nn ∧ qI Q v S' G') (fun E S' G' => S' = SF nn ∧ False) := by
  refine Mt.of (l0 := [some (vr 272), some (vi i1), some (vi i2)]) (by decide) (Nat.le_of_ble_eq_true rfl) rfl ?_
  intro κ δ ρ0 X9 E hG
  replace X9 : CX κ δ RX10 cX10_workFrom 3 (some .int) := X9
  refine a_aload_n (pc := 0) X9 dX10_workFrom_0 rfl rfl ?_
  refine a_aload_n (pc := 1) X9 dX10_workFrom_1 rfl rfl ?_
  refine a_iload_n (pc := 2) X9 dX10_workFrom_2 rfl rfl ?_
  refine a_callV (pc := 3) X9 E (m_X10_isService hi1 hnn h) okX10 (is10 hnn) wM_X10_365 w_instanceMethod_X10_isService w_selects_X10_isService w_initialized_RX10 w_code_X10_isService cp_X10_isService pn_X10_isService rfl (Nat.le_of_ble_eq_true rfl) ⟨Nat.le_of_ble_eq_true rfl, Nat.le_of_ble_eq_true rfl⟩ ⟨Nat.le_of_ble_eq_true rfl, Nat.le_of_ble_eq_true rfl⟩ dX10_workFrom_3 (fun _ _ q => False.elim q) (kZp (fun r_1 hr_1 h => ?_))
  refine joinM1 (A := fun v_1 => (v_1 = 0 ∨ v_1 = 1) → AW κ δ ρ0 nn 3 0 0 22 [some (vr 272), some (vi i1), some (vi i2)] [vi v_1, vr 272] (SF nn) G) (fun v_1 h h_v_1 => ?_) (fun j_1 hj_1 h => ?_) h
  · refine a_callV (pc := 22) X9 E (m_X10_wrong (bool_inR h_v_1) hnn h) okX10 (is10 hnn) wM_X10_321 w_instanceMethod_X10_wrong w_selects_X10_wrong w_initialized_RX10 w_code_X10_wrong cp_X10_wrong pn_X10_wrong rfl (Nat.le_of_ble_eq_true rfl) ⟨Nat.le_of_ble_eq_true rfl, Nat.le_of_ble_eq_true rfl⟩ ⟨Nat.le_of_ble_eq_true rfl, Nat.le_of_ble_eq_true rfl⟩ dX10_workFrom_22 (fun _ _ q => False.elim q) (kZ (fun r_3 G_1 hr_3 h hG_1 => ?_))
    refine a_if_eq (pc := 25) (tgt := 30) X9 dX10_workFrom_25 rfl (bool_inR hr_3) (fun c => ?_) (fun c => ?_)
    · have c_3 := c
      have h := h.1 c_3
      refine a_aload_n (pc := 30) X9 dX10_workFrom_30 rfl rfl ?_
      refine a_iload_n (pc := 31) X9 dX10_workFrom_31 rfl rfl ?_
      refine a_callV (pc := 32) X9 E (m_X10_tries hi1 hnn h) okX10 (is10 hnn) wM_X10_404 w_instanceMethod_X10_tries w_selects_X10_tries w_initialized_RX10 w_code_X10_tries cp_X10_tries pn_X10_tries rfl (Nat.le_of_ble_eq_true rfl) ⟨Nat.le_of_ble_eq_true rfl, Nat.le_of_ble_eq_true rfl⟩ ⟨Nat.le_of_ble_eq_true rfl, Nat.le_of_ble_eq_true rfl⟩ dX10_workFrom_32 (fun _ _ q => False.elim q) (kV (fun G_2 h hG_2 => ?_))
      refine a_aload_n (pc := 35) X9 dX10_workFrom_35 rfl rfl ?_
      refine a_aload_n (pc := 36) X9 dX10_workFrom_36 rfl rfl ?_
      refine a_iload_n (pc := 37) X9 dX10_workFrom_37 rfl rfl ?_
      refine a_callV (pc := 38) X9 E (m_X10_hangsService hi2 hnn h) okX10 (is10 hnn) wM_X10_399 w_instanceMethod_X10_hangsService w_selects_X10_hangsService w_initialized_RX10 w_code_X10_hangsService cp_X10_hangsService pn_X10_hangsService rfl (Nat.le_of_ble_eq_true rfl) ⟨Nat.le_of_ble_eq_true rfl, Nat.le_of_ble_eq_true rfl⟩ ⟨Nat.le_of_ble_eq_true rfl, Nat.le_of_ble_eq_true rfl⟩ dX10_workFrom_38 (fun _ _ q => False.elim q) (kI (fun r_5 G_3 hr_5 h hG_3 => ?_))
      refine a_callV (pc := 41) X9 E (m_X10_comesBack hr_5 hnn h) okX10 (is10 hnn) wM_X10_202 w_instanceMethod_X10_comesBack w_selects_X10_comesBack w_initialized_RX10 w_code_X10_comesBack cp_X10_comesBack pn_X10_comesBack rfl (Nat.le_of_ble_eq_true rfl) ⟨Nat.le_of_ble_eq_true rfl, Nat.le_of_ble_eq_true rfl⟩ ⟨Nat.le_of_ble_eq_true rfl, Nat.le_of_ble_eq_true rfl⟩ dX10_workFrom_41 (fun _ _ q => False.elim q) (kI (fun r_6 G_4 hr_6 h hG_4 => ?_))
      exact a_ireturn (pc := 44) X9 E rfl rfl (Nat.le_of_ble_eq_true rfl) (Nat.le_of_ble_eq_true rfl) dX10_workFrom_44 ⟨rfl, _, rfl, hr_6, h⟩
    · have c_3 := c
      have h := h.2 c_3
      refine a_iconst (pc := 28) X9 dX10_workFrom_28 ?_
      exact a_ireturn (pc := 29) X9 E rfl rfl (Nat.le_of_ble_eq_true rfl) (Nat.le_of_ble_eq_true rfl) dX10_workFrom_29 ⟨rfl, _, rfl, (show inR 0 by decide), h⟩
  · refine a_if_eq (pc := 6) (tgt := 17) X9 dX10_workFrom_6 rfl (bool_inR hr_1) (fun c => ?_) (fun c => ?_)
    · have c_4 := c
      have h := h.1 c_4
      refine a_iconst (pc := 17) X9 dX10_workFrom_17 ?_
      refine a_goto (pc := 18) (tgt := 22) X9 dX10_workFrom_18 rfl ?_
      exact hj_1 _ h (Or.inr rfl)
    · have c_4 := c
      have h := h.2 c_4
      refine a_aload_n (pc := 9) X9 dX10_workFrom_9 rfl rfl ?_
      refine a_iload_n (pc := 10) X9 dX10_workFrom_10 rfl rfl ?_
      refine a_callV (pc := 11) X9 E (m_X10_isService hi2 hnn h) okX10 (is10 hnn) wM_X10_365 w_instanceMethod_X10_isService w_selects_X10_isService w_initialized_RX10 w_code_X10_isService cp_X10_isService pn_X10_isService rfl (Nat.le_of_ble_eq_true rfl) ⟨Nat.le_of_ble_eq_true rfl, Nat.le_of_ble_eq_true rfl⟩ ⟨Nat.le_of_ble_eq_true rfl, Nat.le_of_ble_eq_true rfl⟩ dX10_workFrom_11 (fun _ _ q => False.elim q) (kZp (fun r_7 hr_7 h => ?_))
      refine a_if_ne (pc := 14) (tgt := 21) X9 dX10_workFrom_14 rfl (bool_inR hr_7) (fun c => ?_) (fun c => ?_)
      · have c_5 := c
        have h := h.1 c_5
        refine a_iconst (pc := 21) X9 dX10_workFrom_21 ?_
        exact hj_1 _ h (Or.inl rfl)
      · have c_5 := c
        have h := h.2 c_5
        refine a_iconst (pc := 17) X9 dX10_workFrom_17 ?_
        refine a_goto (pc := 18) (tgt := 22) X9 dX10_workFrom_18 rfl ?_
        exact hj_1 _ h (Or.inr rfl)
set_option maxHeartbeats 4000000 in
set_option maxRecDepth 100000 in
theorem m_X10_easiest {nn : Nat}  {G : GH} {Q : Int → GH → Prop}  (hnn : 285 ≤ nn) (h : f_X10_easiest G Q) : Mt yX10_easiest cX10_easiest 5 (some .int) 8 180 0 0 [vr 272] (SF nn) G (fun v S' G' => S' = SF nn ∧ qI Q v S' G') (fun E S' G' => S' = SF nn ∧ False) := by
  refine Mt.of (l0 := [some (vr 272), none, none, none, none]) (by decide) (Nat.le_of_ble_eq_true rfl) rfl ?_
  intro κ δ ρ0 X9 E hG
  replace X9 : CX κ δ RX10 cX10_easiest 5 (some .int) := X9
  refine a_aload_n (pc := 0) X9 dX10_easiest_0 rfl rfl ?_
  refine a_iconst (pc := 1) X9 dX10_easiest_1 ?_
  refine a_putI (pc := 2) X9 okX10 0 rfl rfl (v := 0) wF_X10_58 (is10 hnn) dX10_easiest_2 (by decide) (fit_int _) (fun _ => ?_)
  obtain ⟨G_1, eG_1⟩ : ∃ G9, G9 = upG G 272 0 0 := ⟨_, rfl⟩
  have hG_1 : GR G_1 := by rw [eG_1]; exact (GR.up hG (by decide))
  have h := h G_1 eG_1
  rw [← eG_1]
  refine a_iconst (pc := 5) X9 dX10_easiest_5 ?_
  refine a_istore_n (pc := 6) X9 dX10_easiest_6 rfl (Nat.le_of_ble_eq_true rfl) rfl rfl ?_
  refine a_iconst (pc := 7) X9 dX10_easiest_7 ?_
  refine a_istore_n (pc := 8) X9 dX10_easiest_8 rfl (Nat.le_of_ble_eq_true rfl) rfl rfl ?_
  refine a_iconst (pc := 9) X9 dX10_easiest_9 ?_
  refine a_istore_n (pc := 10) X9 dX10_easiest_10 rfl (Nat.le_of_ble_eq_true rfl) rfl rfl ?_
  refine loopM4 (A := fun x1_1 x2_1 x3_1 G_2 => inR x1_1 → inR x2_1 → inR x3_1 → GR G_2 → AW κ δ ρ0 nn 5 0 0 11 [some (vr 272), some (vi x1_1), some (vi x2_1), some (vi x3_1), none] [] (SF nn) G_2) (fun k_1 hk_1 x1_1 x2_1 x3_1 G_2 h h_x1_1 h_x2_1 h_x3_1 hG_2 => ?_) _ _ _ _ h (by decide) (by decide) (by decide) hG_1
  refine a_iload_n (pc := 11) X9 dX10_easiest_11 rfl rfl ?_
  refine a_aload_n (pc := 12) X9 dX10_easiest_12 rfl rfl ?_
  refine a_getR (pc := 13) X9 (q := 273) okX10 1 rfl wF_X10_9 (is10 hnn) rf10_1 dX10_easiest_13 ?_
  refine a_iconst (pc := 16) X9 dX10_easiest_16 ?_
  refine a_iald (pc := 17) X9 (ar10_1 hnn) (Nat.le_of_ble_eq_true rfl) (j := 5) rfl (Nat.le_of_ble_eq_true rfl) dX10_easiest_17 ?_
  refine a_icmp_ge (pc := 18) (tgt := 61) X9 dX10_easiest_18 rfl h_x3_1 (hG_2 _ _) (fun c => ?_) (fun c => ?_)
  · have c_1 := c
    have h := h.1 c_1
    refine a_iload_n (pc := 61) X9 dX10_easiest_61 rfl rfl ?_
    exact a_ireturn (pc := 62) X9 E rfl rfl (Nat.le_of_ble_eq_true rfl) (Nat.le_of_ble_eq_true rfl) dX10_easiest_62 ⟨rfl, _, rfl, h_x1_1, h⟩
  · have c_1 := c
    have h := h.2 c_1
    refine a_aload_n (pc := 21) X9 dX10_easiest_21 rfl rfl ?_
    refine a_iload_n (pc := 22) X9 dX10_easiest_22 rfl rfl ?_
    refine a_callV (pc := 23) X9 E (m_X10_tries h_x3_1 hnn h) okX10 (is10 hnn) wM_X10_404 w_instanceMethod_X10_tries w_selects_X10_tries w_initialized_RX10 w_code_X10_tries cp_X10_tries pn_X10_tries rfl (Nat.le_of_ble_eq_true rfl) ⟨Nat.le_of_ble_eq_true rfl, Nat.le_of_ble_eq_true rfl⟩ ⟨Nat.le_of_ble_eq_true rfl, Nat.le_of_ble_eq_true rfl⟩ dX10_easiest_23 (fun _ _ q => False.elim q) (kV (fun G_3 h hG_3 => ?_))
    refine a_aload_n (pc := 26) X9 dX10_easiest_26 rfl rfl ?_
    refine a_aload_n (pc := 27) X9 dX10_easiest_27 rfl rfl ?_
    refine a_getI (pc := 28) X9 okX10 25 rfl wF_X10_313 (is10 hnn) dX10_easiest_28 ?_
    refine a_callV (pc := 31) X9 E (m_X10_comesBack (hG_3 _ _) hnn h) okX10 (is10 hnn) wM_X10_202 w_instanceMethod_X10_comesBack w_selects_X10_comesBack w_initialized_RX10 w_code_X10_comesBack cp_X10_comesBack pn_X10_comesBack rfl (Nat.le_of_ble_eq_true rfl) ⟨Nat.le_of_ble_eq_true rfl, Nat.le_of_ble_eq_true rfl⟩ ⟨Nat.le_of_ble_eq_true rfl, Nat.le_of_ble_eq_true rfl⟩ dX10_easiest_31 (fun _ _ q => False.elim q) (kI (fun r_2 G_4 hr_2 h hG_4 => ?_))
    refine a_istore (pc := 34) X9 dX10_easiest_34 (Nat.le_of_ble_eq_true rfl) rfl rfl ?_
    refine a_iload_n (pc := 36) X9 dX10_easiest_36 rfl rfl ?_
    refine a_iconst (pc := 37) X9 dX10_easiest_37 ?_
    refine a_icmp_eq (pc := 38) (tgt := 50) X9 dX10_easiest_38 rfl h_x1_1 (by decide) (fun c => ?_) (fun c => ?_)
    · have c_2 := c
      have h := h.1 c_2
      refine a_iload_n (pc := 50) X9 dX10_easiest_50 rfl rfl ?_
      refine a_istore_n (pc := 51) X9 dX10_easiest_51 rfl (Nat.le_of_ble_eq_true rfl) rfl rfl ?_
      refine a_iload (pc := 52) X9 dX10_easiest_52 rfl ?_
      refine a_istore_n (pc := 54) X9 dX10_easiest_54 rfl (Nat.le_of_ble_eq_true rfl) rfl rfl ?_
      refine a_iinc (pc := 55) X9 dX10_easiest_55 rfl (Nat.le_of_ble_eq_true rfl) rfl rfl ?_
      refine a_goto (pc := 58) (tgt := 11) X9 dX10_easiest_58 rfl ?_
      have q_1 : inR ((G_2 273 5)) := (hG_2 _ _)
      have q_2 : inR (x3_1) := h_x3_1
      have g_1 : inR ((x3_1 + 1)) := ⟨by omega, by omega⟩
      refine AW.drop 4 rfl ?_
      exact hk_1 _ _ _ _ h h_x3_1 hr_2 g_1 hG_4
    · have c_2 := c
      have h := h.2 c_2
      refine a_iload (pc := 41) X9 dX10_easiest_41 rfl ?_
      refine a_iload_n (pc := 43) X9 dX10_easiest_43 rfl rfl ?_
      refine a_icmp_lt (pc := 44) (tgt := 50) X9 dX10_easiest_44 rfl hr_2 h_x2_1 (fun c => ?_) (fun c => ?_)
      · have c_3 := c
        have h := h.1 c_3
        refine a_iload_n (pc := 50) X9 dX10_easiest_50 rfl rfl ?_
        refine a_istore_n (pc := 51) X9 dX10_easiest_51 rfl (Nat.le_of_ble_eq_true rfl) rfl rfl ?_
        refine a_iload (pc := 52) X9 dX10_easiest_52 rfl ?_
        refine a_istore_n (pc := 54) X9 dX10_easiest_54 rfl (Nat.le_of_ble_eq_true rfl) rfl rfl ?_
        refine a_iinc (pc := 55) X9 dX10_easiest_55 rfl (Nat.le_of_ble_eq_true rfl) rfl rfl ?_
        refine a_goto (pc := 58) (tgt := 11) X9 dX10_easiest_58 rfl ?_
        have q_3 : inR ((G_2 273 5)) := (hG_2 _ _)
        have q_4 : inR (x3_1) := h_x3_1
        have g_2 : inR ((x3_1 + 1)) := ⟨by omega, by omega⟩
        refine AW.drop 4 rfl ?_
        exact hk_1 _ _ _ _ h h_x3_1 hr_2 g_2 hG_4
      · have c_3 := c
        have h := h.2 c_3
        refine a_goto (pc := 47) (tgt := 55) X9 dX10_easiest_47 rfl ?_
        refine a_iinc (pc := 55) X9 dX10_easiest_55 rfl (Nat.le_of_ble_eq_true rfl) rfl rfl ?_
        refine a_goto (pc := 58) (tgt := 11) X9 dX10_easiest_58 rfl ?_
        have q_5 : inR ((G_2 273 5)) := (hG_2 _ _)
        have q_6 : inR (x3_1) := h_x3_1
        have g_3 : inR ((x3_1 + 1)) := ⟨by omega, by omega⟩
        refine AW.drop 4 rfl ?_
        exact hk_1 _ _ _ _ h h_x1_1 h_x2_1 g_3 hG_4
set_option maxHeartbeats 4000000 in
set_option maxRecDepth 100000 in
theorem m_X10_ends {nn : Nat} {i1 : Int} {G : GH} {Q : GH → Prop} (hi1 : inR i1) (hnn : 285 ≤ nn) (h : f_X10_ends i1 G Q) : Mt yX10_ends cX10_ends 5 none 2 43 0 0 [vr 272, vi i1] (SF nn) G (fun v S' G' => S' = SF nn ∧ qV Q v S' G') (fun E S' G' => S' = SF nn ∧ False) := by
  refine Mt.of (l0 := [some (vr 272), some (vi i1), none, none, none]) (by decide) (Nat.le_of_ble_eq_true rfl) rfl ?_
  intro κ δ ρ0 X9 E hG
  replace X9 : CX κ δ RX10 cX10_ends 5 none := X9
  refine a_aload_n (pc := 0) X9 dX10_ends_0 rfl rfl ?_
  refine a_iload_n (pc := 1) X9 dX10_ends_1 rfl rfl ?_
  refine a_iconst (pc := 2) X9 dX10_ends_2 ?_
  refine a_callV (pc := 3) X9 E (m_X10_ofLoan hi1 (show inR 0 by decide) hnn h) okX10 (is10 hnn) wM_X10_217 w_instanceMethod_X10_ofLoan w_selects_X10_ofLoan w_initialized_RX10 w_code_X10_ofLoan cp_X10_ofLoan pn_X10_ofLoan rfl (Nat.le_of_ble_eq_true rfl) ⟨Nat.le_of_ble_eq_true rfl, Nat.le_of_ble_eq_true rfl⟩ ⟨Nat.le_of_ble_eq_true rfl, Nat.le_of_ble_eq_true rfl⟩ dX10_ends_3 (fun _ _ q => False.elim q) (kIp (fun r_1 hr_1 h => ?_))
  refine a_istore_n (pc := 6) X9 dX10_ends_6 rfl (Nat.le_of_ble_eq_true rfl) rfl rfl ?_
  refine a_aload_n (pc := 7) X9 dX10_ends_7 rfl rfl ?_
  refine a_iload_n (pc := 8) X9 dX10_ends_8 rfl rfl ?_
  refine a_iconst (pc := 9) X9 dX10_ends_9 ?_
  refine a_callV (pc := 10) X9 E (m_X10_ofLoan hi1 (show inR 1 by decide) hnn h) okX10 (is10 hnn) wM_X10_217 w_instanceMethod_X10_ofLoan w_selects_X10_ofLoan w_initialized_RX10 w_code_X10_ofLoan cp_X10_ofLoan pn_X10_ofLoan rfl (Nat.le_of_ble_eq_true rfl) ⟨Nat.le_of_ble_eq_true rfl, Nat.le_of_ble_eq_true rfl⟩ ⟨Nat.le_of_ble_eq_true rfl, Nat.le_of_ble_eq_true rfl⟩ dX10_ends_10 (fun _ _ q => False.elim q) (kIp (fun r_2 hr_2 h => ?_))
  refine a_istore_n (pc := 13) X9 dX10_ends_13 rfl (Nat.le_of_ble_eq_true rfl) rfl rfl ?_
  refine a_aload_n (pc := 14) X9 dX10_ends_14 rfl rfl ?_
  refine a_iload_n (pc := 15) X9 dX10_ends_15 rfl rfl ?_
  refine a_iconst (pc := 16) X9 dX10_ends_16 ?_
  refine a_iload_n (pc := 17) X9 dX10_ends_17 rfl rfl ?_
  refine a_iadd (pc := 18) X9 dX10_ends_18 ?_
  refine a_aload_n (pc := 19) X9 dX10_ends_19 rfl rfl ?_
  refine a_iload_n (pc := 20) X9 dX10_ends_20 rfl rfl ?_
  refine a_iconst (pc := 21) X9 dX10_ends_21 ?_
  refine a_iload_n (pc := 22) X9 dX10_ends_22 rfl rfl ?_
  refine a_iadd (pc := 23) X9 dX10_ends_23 ?_
  obtain ⟨g_1, h⟩ := h
  refine a_callV (pc := 24) X9 E (m_X10_ofFriend hr_1 g_1 hnn h) okX10 (is10 hnn) wM_X10_356 w_instanceMethod_X10_ofFriend w_selects_X10_ofFriend w_initialized_RX10 w_code_X10_ofFriend cp_X10_ofFriend pn_X10_ofFriend rfl (Nat.le_of_ble_eq_true rfl) ⟨Nat.le_of_ble_eq_true rfl, Nat.le_of_ble_eq_true rfl⟩ ⟨Nat.le_of_ble_eq_true rfl, Nat.le_of_ble_eq_true rfl⟩ dX10_ends_24 (fun _ _ q => False.elim q) (kIp (fun r_3 hr_3 h => ?_))
  refine a_aload_n (pc := 27) X9 dX10_ends_27 rfl rfl ?_
  refine a_iload_n (pc := 28) X9 dX10_ends_28 rfl rfl ?_
  refine a_iconst (pc := 29) X9 dX10_ends_29 ?_
  refine a_callV (pc := 30) X9 E (m_X10_ofLoan hi1 (show inR 2 by decide) hnn h) okX10 (is10 hnn) wM_X10_217 w_instanceMethod_X10_ofLoan w_selects_X10_ofLoan w_initialized_RX10 w_code_X10_ofLoan cp_X10_ofLoan pn_X10_ofLoan rfl (Nat.le_of_ble_eq_true rfl) ⟨Nat.le_of_ble_eq_true rfl, Nat.le_of_ble_eq_true rfl⟩ ⟨Nat.le_of_ble_eq_true rfl, Nat.le_of_ble_eq_true rfl⟩ dX10_ends_30 (fun _ _ q => False.elim q) (kIp (fun r_4 hr_4 h => ?_))
  refine a_iadd (pc := 33) X9 dX10_ends_33 ?_
  obtain ⟨g_2, h⟩ := h
  refine a_callV (pc := 34) X9 E (m_X10_setsFriend hr_1 g_1 g_2 hnn h) okX10 (is10 hnn) wM_X10_144 w_instanceMethod_X10_setsFriend w_selects_X10_setsFriend w_initialized_RX10 w_code_X10_setsFriend cp_X10_setsFriend pn_X10_setsFriend rfl (Nat.le_of_ble_eq_true rfl) ⟨Nat.le_of_ble_eq_true rfl, Nat.le_of_ble_eq_true rfl⟩ ⟨Nat.le_of_ble_eq_true rfl, Nat.le_of_ble_eq_true rfl⟩ dX10_ends_34 (fun _ _ q => False.elim q) (kV (fun G_1 h hG_1 => ?_))
  refine a_aload_n (pc := 37) X9 dX10_ends_37 rfl rfl ?_
  refine a_getR (pc := 38) X9 (q := 273) okX10 1 rfl wF_X10_9 (is10 hnn) rf10_1 dX10_ends_38 ?_
  refine a_bipush (pc := 41) X9 dX10_ends_41 rfl ?_
  refine a_dup2 (pc := 43) X9 dX10_ends_43 rfl rfl ?_
  refine a_iald (pc := 44) X9 (ar10_1 hnn) (Nat.le_of_ble_eq_true rfl) (j := 6) rfl (Nat.le_of_ble_eq_true rfl) dX10_ends_44 ?_
  refine a_iconst (pc := 45) X9 dX10_ends_45 ?_
  refine a_isub (pc := 46) X9 dX10_ends_46 ?_
  obtain ⟨g_3, h⟩ := h
  refine a_iast (pc := 47) X9 (v := ((G_1 273 6) - 1)) (ar10_1 hnn) (Nat.le_of_ble_eq_true rfl) (j := 6) rfl (Nat.le_of_ble_eq_true rfl) g_3 dX10_ends_47 (fun _ => ?_)
  obtain ⟨G_2, eG_2⟩ : ∃ G9, G9 = upG G_1 273 6 ((G_1 273 6) - 1) := ⟨_, rfl⟩
  have hG_2 : GR G_2 := by rw [eG_2]; exact (GR.up hG_1 g_3)
  have h := h G_2 eG_2
  rw [← eG_2]
  refine a_iload_n (pc := 48) X9 dX10_ends_48 rfl rfl ?_
  refine a_iconst (pc := 49) X9 dX10_ends_49 ?_
  refine a_callS (pc := 50) X9 E (m_X10_loanAt hi1 (show inR 0 by decide) hnn h) wM_X10_208 w_static_X10_loanAt w_initialized_RX10 w_code_X10_loanAt cp_X10_loanAt pn_X10_loanAt rfl (Nat.le_of_ble_eq_true rfl) ⟨Nat.le_of_ble_eq_true rfl, Nat.le_of_ble_eq_true rfl⟩ ⟨Nat.le_of_ble_eq_true rfl, Nat.le_of_ble_eq_true rfl⟩ dX10_ends_50 (fun _ _ q => False.elim q) (kIp (fun r_6 hr_6 h => ?_))
  refine a_istore (pc := 53) X9 dX10_ends_53 (Nat.le_of_ble_eq_true rfl) rfl rfl ?_
  refine loopM2 (A := fun x4_1 G_3 => inR x4_1 → GR G_3 → AW κ δ ρ0 nn 5 0 0 55 [some (vr 272), some (vi i1), some (vi r_1), some (vi r_2), some (vi x4_1)] [] (SF nn) G_3) (fun k_1 hk_1 x4_1 G_3 h h_x4_1 hG_3 => ?_) _ _ h hr_6 hG_2
  refine a_iload (pc := 55) X9 dX10_ends_55 rfl ?_
  refine a_aload_n (pc := 57) X9 dX10_ends_57 rfl rfl ?_
  refine a_getR (pc := 58) X9 (q := 273) okX10 1 rfl wF_X10_9 (is10 hnn) rf10_1 dX10_ends_58 ?_
  refine a_bipush (pc := 61) X9 dX10_ends_61 rfl ?_
  refine a_iald (pc := 63) X9 (ar10_1 hnn) (Nat.le_of_ble_eq_true rfl) (j := 6) rfl (Nat.le_of_ble_eq_true rfl) dX10_ends_63 ?_
  refine a_iconst (pc := 64) X9 dX10_ends_64 ?_
  refine a_callS (pc := 65) X9 E (m_X10_loanAt (hG_3 _ _) (show inR 0 by decide) hnn h) wM_X10_208 w_static_X10_loanAt w_initialized_RX10 w_code_X10_loanAt cp_X10_loanAt pn_X10_loanAt rfl (Nat.le_of_ble_eq_true rfl) ⟨Nat.le_of_ble_eq_true rfl, Nat.le_of_ble_eq_true rfl⟩ ⟨Nat.le_of_ble_eq_true rfl, Nat.le_of_ble_eq_true rfl⟩ dX10_ends_65 (fun _ _ q => False.elim q) (kIp (fun r_7 hr_7 h => ?_))
  refine a_icmp_ge (pc := 68) (tgt := 93) X9 dX10_ends_68 rfl h_x4_1 hr_7 (fun c => ?_) (fun c => ?_)
  · have c_1 := c
    have h := h.1 c_1
    exact a_return (pc := 93) X9 E (Nat.le_of_ble_eq_true rfl) (Nat.le_of_ble_eq_true rfl) dX10_ends_93 ⟨rfl, rfl, h⟩
  · have c_1 := c
    have h := h.2 c_1
    refine a_aload_n (pc := 71) X9 dX10_ends_71 rfl rfl ?_
    refine a_getR (pc := 72) X9 (q := 273) okX10 1 rfl wF_X10_9 (is10 hnn) rf10_1 dX10_ends_72 ?_
    refine a_iload (pc := 75) X9 dX10_ends_75 rfl ?_
    refine a_aload_n (pc := 77) X9 dX10_ends_77 rfl rfl ?_
    refine a_getR (pc := 78) X9 (q := 273) okX10 1 rfl wF_X10_9 (is10 hnn) rf10_1 dX10_ends_78 ?_
    refine a_iload (pc := 81) X9 dX10_ends_81 rfl ?_
    refine a_iconst (pc := 83) X9 dX10_ends_83 ?_
    refine a_iadd (pc := 84) X9 dX10_ends_84 ?_
    obtain ⟨g_4, h⟩ := h
    refine b_iald (pc := 85) X9 (ar10_1 hnn) (Nat.le_of_ble_eq_true rfl) g_4 dX10_ends_85 ?_
    obtain ⟨g_5, h⟩ := h
    refine b_iast (pc := 86) X9 (i := x4_1) (v := (G_3 273 ((x4_1 + 4)).toNat)) (ar10_1 hnn) (Nat.le_of_ble_eq_true rfl) g_5 (hG_3 _ _) dX10_ends_86 ?_
    obtain ⟨G_4, eG_4⟩ : ∃ G9, G9 = upG G_3 273 (x4_1).toNat (G_3 273 ((x4_1 + 4)).toNat) := ⟨_, rfl⟩
    have hG_4 : GR G_4 := by rw [eG_4]; exact (GR.up hG_3 (hG_3 _ _))
    have h := h G_4 eG_4
    rw [← eG_4]
    refine a_iinc (pc := 87) X9 dX10_ends_87 rfl (Nat.le_of_ble_eq_true rfl) rfl rfl ?_
    refine a_goto (pc := 90) (tgt := 55) X9 dX10_ends_90 rfl ?_
    have q_1 : inR (r_7) := hr_7
    have q_2 : inR (x4_1) := h_x4_1
    have g_6 : inR ((x4_1 + 1)) := ⟨by omega, by omega⟩
    exact hk_1 _ _ h g_6 hG_4

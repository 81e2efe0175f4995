-- ===== the walks of the methods; written by wip/whole/gen.py =====
set_option maxHeartbeats 4000000 in
set_option maxRecDepth 100000 in
theorem m_X5_takeBytes {nn : Nat} {i1 : Int} {G : GH} {Q : Int → GH → Prop} (hi1 : inL i1) (hnn : 272 ≤ nn) (h : f_X5_takeBytes i1 G Q) : Mt yX5_takeBytes cX5_takeBytes 6 (some .int) 0 0 0 0 [vr 41, vl i1] (SF nn) G (fun v S' G' => S' = SF nn ∧ qI Q v S' G') (fun E S' G' => S' = SF nn ∧ False) := by
  refine Mt.of (l0 := [some (vr 41), some (vl i1), none, none, none, none]) (by decide) (Nat.le_of_ble_eq_true rfl) rfl ?_
  intro κ δ ρ0 X9 E hG
  replace X9 : CX κ δ RX5 cX5_takeBytes 6 (some .int) := X9
  refine a_iconst (pc := 0) X9 dX5_takeBytes_0 ?_
  refine a_istore_n (pc := 1) X9 dX5_takeBytes_1 rfl (Nat.le_of_ble_eq_true rfl) rfl rfl ?_
  refine a_bipush (pc := 2) X9 dX5_takeBytes_2 rfl ?_
  refine a_istore (pc := 4) X9 dX5_takeBytes_4 (Nat.le_of_ble_eq_true rfl) rfl rfl ?_
  refine loopM2 (A := fun x3_1 x4_1 => inR x3_1 → inR x4_1 → AW κ δ ρ0 (szF nn) 6 0 0 6 [some (vr 41), some (vl i1), none, some (vi x3_1), some (vi x4_1), none] [] (SF nn) G) (fun k_1 hk_1 x3_1 x4_1 h h_x3_1 h_x4_1 => ?_) _ _ h (by decide) (by decide)
  refine a_iload (pc := 6) X9 dX5_takeBytes_6 rfl ?_
  refine a_if_lt (pc := 8) (tgt := 33) X9 dX5_takeBytes_8 rfl h_x4_1 (fun c => ?_) (fun c => ?_)
  · have c_1 := c
    have h := h.1 c_1
    refine a_aload_n (pc := 33) X9 dX5_takeBytes_33 rfl rfl ?_
    refine a_getI (pc := 34) X9 okX5 1 rfl wF_X5_20 (is5 hnn) dX5_takeBytes_34 ?_
    refine a_iload_n (pc := 37) X9 dX5_takeBytes_37 rfl rfl ?_
    refine a_iadd (pc := 38) X9 dX5_takeBytes_38 ?_
    refine a_sipush (pc := 39) X9 dX5_takeBytes_39 rfl ?_
    obtain ⟨g_1, h⟩ := h
    refine a_icmp_le (pc := 42) (tgt := 48) X9 dX5_takeBytes_42 rfl g_1 (by decide) (fun c => ?_) (fun c => ?_)
    · have c_2 := c
      have h := h.1 c_2
      refine a_bipush (pc := 48) X9 dX5_takeBytes_48 rfl ?_
      refine a_istore (pc := 50) X9 dX5_takeBytes_50 (Nat.le_of_ble_eq_true rfl) rfl rfl ?_
      refine loopM2 (A := fun x4_2 G_1 => inR x4_2 → GR G_1 → AW κ δ ρ0 (szF nn) 6 0 0 52 [some (vr 41), some (vl i1), none, some (vi x3_1), some (vi x4_2), none] [] (SF nn) G_1) (fun k_2 hk_2 x4_2 G_1 h h_x4_2 hG_1 => ?_) _ _ h (by decide) hG
      refine a_iload (pc := 52) X9 dX5_takeBytes_52 rfl ?_
      refine a_if_lt (pc := 54) (tgt := 100) X9 dX5_takeBytes_54 rfl h_x4_2 (fun c => ?_) (fun c => ?_)
      · have c_3 := c
        have h := h.1 c_3
        refine a_aload_n (pc := 100) X9 dX5_takeBytes_100 rfl rfl ?_
        refine a_getI (pc := 101) X9 okX5 1 rfl wF_X5_20 (is5 hnn) dX5_takeBytes_101 ?_
        exact a_ireturn (pc := 104) X9 E rfl rfl (Nat.le_of_ble_eq_true rfl) (Nat.le_of_ble_eq_true rfl) dX5_takeBytes_104 ⟨rfl, _, rfl, (hG_1 _ _), h⟩
      · have c_3 := c
        have h := h.2 c_3
        refine a_lload_n (pc := 57) X9 dX5_takeBytes_57 rfl rfl ?_
        refine a_iload (pc := 58) X9 dX5_takeBytes_58 rfl ?_
        refine b_lushr (pc := 60) X9 dX5_takeBytes_60 ?_
        refine a_ldc2 (pc := 61) X9 (n := 255) wCL_X5_18 dX5_takeBytes_61 (by decide +kernel) ?_
        refine b_land (pc := 64) X9 dX5_takeBytes_64 ?_
        obtain ⟨g_2, h⟩ := h
        refine a_l2i (pc := 65) X9 dX5_takeBytes_65 g_2 ?_
        refine a_istore (pc := 66) X9 dX5_takeBytes_66 (Nat.le_of_ble_eq_true rfl) rfl rfl ?_
        refine a_iload (pc := 68) X9 dX5_takeBytes_68 rfl ?_
        refine a_if_eq (pc := 70) (tgt := 94) X9 dX5_takeBytes_70 rfl g_2 (fun c => ?_) (fun c => ?_)
        · have c_4 := c
          have h := h.1 c_4
          refine a_iinc (pc := 94) X9 dX5_takeBytes_94 rfl (Nat.le_of_ble_eq_true rfl) rfl rfl ?_
          refine a_goto (pc := 97) (tgt := 52) X9 dX5_takeBytes_97 rfl ?_
          have q_1 : inR (x4_2) := h_x4_2
          have g_3 : inR ((x4_2 + (-8))) := ⟨by omega, by omega⟩
          refine AW.drop 5 rfl ?_
          exact hk_2 _ _ h g_3 hG_1
        · have c_4 := c
          have h := h.2 c_4
          refine a_aload_n (pc := 73) X9 dX5_takeBytes_73 rfl rfl ?_
          refine a_getR (pc := 74) X9 (q := 42) okX5 0 rfl wF_X5_9 (is5 hnn) rf5_0 dX5_takeBytes_74 ?_
          refine a_aload_n (pc := 77) X9 dX5_takeBytes_77 rfl rfl ?_
          refine a_getI (pc := 78) X9 okX5 1 rfl wF_X5_20 (is5 hnn) dX5_takeBytes_78 ?_
          refine a_iload (pc := 81) X9 dX5_takeBytes_81 rfl ?_
          obtain ⟨g_4, h⟩ := h
          refine b_iast (pc := 83) X9 (i := (G_1 41 1)) (v := (lAnd (lUshr i1 x4_2) 255)) (ar5_0 hnn) (Nat.le_of_ble_eq_true rfl) g_4 g_2 dX5_takeBytes_83 ?_
          obtain ⟨G_2, eG_2⟩ : ∃ G9, G9 = upG G_1 42 ((G_1 41 1)).toNat (lAnd (lUshr i1 x4_2) 255) := ⟨_, rfl⟩
          have hG_2 : GR G_2 := by rw [eG_2]; exact (GR.up hG_1 g_2)
          have h := h G_2 eG_2
          rw [← eG_2]
          refine a_aload_n (pc := 84) X9 dX5_takeBytes_84 rfl rfl ?_
          refine a_dup (pc := 85) X9 dX5_takeBytes_85 rfl ?_
          refine a_getI (pc := 86) X9 okX5 1 rfl wF_X5_20 (is5 hnn) dX5_takeBytes_86 ?_
          refine a_iconst (pc := 89) X9 dX5_takeBytes_89 ?_
          refine a_iadd (pc := 90) X9 dX5_takeBytes_90 ?_
          obtain ⟨g_5, h⟩ := h
          refine a_putI (pc := 91) X9 okX5 1 rfl rfl (v := ((G_2 41 1) + 1)) wF_X5_20 (is5 hnn) dX5_takeBytes_91 g_5 (fit_int _) (fun _ => ?_)
          obtain ⟨G_3, eG_3⟩ : ∃ G9, G9 = upG G_2 41 1 ((G_2 41 1) + 1) := ⟨_, rfl⟩
          have hG_3 : GR G_3 := by rw [eG_3]; exact (GR.up hG_2 g_5)
          have h := h G_3 eG_3
          rw [← eG_3]
          refine a_iinc (pc := 94) X9 dX5_takeBytes_94 rfl (Nat.le_of_ble_eq_true rfl) rfl rfl ?_
          refine a_goto (pc := 97) (tgt := 52) X9 dX5_takeBytes_97 rfl ?_
          have q_2 : inR (x4_2) := h_x4_2
          have g_6 : inR ((x4_2 + (-8))) := ⟨by omega, by omega⟩
          refine AW.drop 5 rfl ?_
          exact hk_2 _ _ h g_6 hG_3
    · have c_2 := c
      have h := h.2 c_2
      refine a_bipush (pc := 45) X9 dX5_takeBytes_45 rfl ?_
      exact a_ireturn (pc := 47) X9 E rfl rfl (Nat.le_of_ble_eq_true rfl) (Nat.le_of_ble_eq_true rfl) dX5_takeBytes_47 ⟨rfl, _, rfl, (show inR (-2) by decide), h⟩
  · have c_1 := c
    have h := h.2 c_1
    refine a_lload_n (pc := 11) X9 dX5_takeBytes_11 rfl rfl ?_
    refine a_iload (pc := 12) X9 dX5_takeBytes_12 rfl ?_
    refine b_lushr (pc := 14) X9 dX5_takeBytes_14 ?_
    refine a_ldc2 (pc := 15) X9 (n := 255) wCL_X5_18 dX5_takeBytes_15 (by decide +kernel) ?_
    refine b_land (pc := 18) X9 dX5_takeBytes_18 ?_
    refine a_lconst (pc := 19) X9 0 dX5_takeBytes_19 rfl ?_
    refine b_lcmp (pc := 20) X9 dX5_takeBytes_20 inL_lAnd (by decide) ?_
    refine a_if_eq (pc := 21) (tgt := 27) X9 dX5_takeBytes_21 rfl lcv_inR (fun c => ?_) (fun c => ?_)
    · have c_5 : (lAnd (lUshr i1 x4_1) 255) = 0 := lcv_eq.mp c
      have h := h.1 c_5
      refine a_iinc (pc := 27) X9 dX5_takeBytes_27 rfl (Nat.le_of_ble_eq_true rfl) rfl rfl ?_
      refine a_goto (pc := 30) (tgt := 6) X9 dX5_takeBytes_30 rfl ?_
      have q_3 : inR (x4_1) := h_x4_1
      have g_7 : inR ((x4_1 + (-8))) := ⟨by omega, by omega⟩
      exact hk_1 _ _ h h_x3_1 g_7
    · have c_5 : (lAnd (lUshr i1 x4_1) 255) ≠ 0 := fun e => c (lcv_eq.mpr e)
      have h := h.2 c_5
      refine a_iinc (pc := 24) X9 dX5_takeBytes_24 rfl (Nat.le_of_ble_eq_true rfl) rfl rfl ?_
      refine a_iinc (pc := 27) X9 dX5_takeBytes_27 rfl (Nat.le_of_ble_eq_true rfl) rfl rfl ?_
      refine a_goto (pc := 30) (tgt := 6) X9 dX5_takeBytes_30 rfl ?_
      obtain ⟨g_8, h⟩ := h
      have q_4 : inR (x4_1) := h_x4_1
      have g_9 : inR ((x4_1 + (-8))) := ⟨by omega, by omega⟩
      exact hk_1 _ _ h g_8 g_9
set_option maxHeartbeats 4000000 in
set_option maxRecDepth 100000 in
theorem m_X9_append {nn : Nat} {i1 : Int} {G : GH} {Q : Int → GH → Prop} (hi1 : inL i1) (hnn : 272 ≤ nn) (h : f_X9_append i1 G Q) : Mt yX9_append cX9_append 3 (some .int) 1 25 0 0 [vr 0, vl i1] (SF nn) G (fun v S' G' => S' = SF nn ∧ qI Q v S' G') (fun E S' G' => S' = SF nn ∧ False) := by
  refine Mt.of (l0 := [some (vr 0), some (vl i1), none]) (by decide) (Nat.le_of_ble_eq_true rfl) rfl ?_
  intro κ δ ρ0 X9 E hG
  replace X9 : CX κ δ RX9 cX9_append 3 (some .int) := X9
  refine a_aload_n (pc := 0) X9 dX9_append_0 rfl rfl ?_
  refine a_getR (pc := 1) X9 (q := 41) okX9 2 rfl wF_X9_22 (is9 hnn) rf9_2 dX9_append_1 ?_
  refine a_lload_n (pc := 4) X9 dX9_append_4 rfl rfl ?_
  refine a_callV (pc := 5) X9 E (m_X5_takeBytes hi1 hnn h) okX5 (is5 hnn) wM_X9_76 w_instanceMethod_X5_takeBytes w_selects_X5_takeBytes w_initialized_RX5 w_code_X5_takeBytes cp_X5_takeBytes pn_X5_takeBytes rfl (Nat.le_of_ble_eq_true rfl) ⟨Nat.le_of_ble_eq_true rfl, Nat.le_of_ble_eq_true rfl⟩ ⟨Nat.le_of_ble_eq_true rfl, Nat.le_of_ble_eq_true rfl⟩ dX9_append_5 (fun _ _ q => False.elim q) (kI (fun r_1 G_1 hr_1 h hG_1 => ?_))
  exact a_ireturn (pc := 8) X9 E rfl rfl (Nat.le_of_ble_eq_true rfl) (Nat.le_of_ble_eq_true rfl) dX9_append_8 ⟨rfl, _, rfl, hr_1, h⟩
set_option maxHeartbeats 4000000 in
set_option maxRecDepth 100000 in
theorem m_X8_startAnew {nn : Nat} {a0 : Nat} {G : GH} {Q : GH → Prop} (ha0 : a0 ∈ L8) (hnn : 272 ≤ nn) (h : f_X8_startAnew a0 G Q) : Mt yX8_startAnew cX8_startAnew 1 none 1 23 0 0 [vr a0] (SF nn) G (fun v S' G' => S' = SF nn ∧ qV Q v S' G') (fun E S' G' => S' = SF nn ∧ False) := by
  refine Mt.of (l0 := [some (vr a0)]) (by decide) (Nat.le_of_ble_eq_true rfl) rfl ?_
  intro κ δ ρ0 X9 E hG
  replace X9 : CX κ δ RX8 cX8_startAnew 1 none := X9
  refine a_aload_n (pc := 0) X9 dX8_startAnew_0 rfl rfl ?_
  refine a_iconst (pc := 1) X9 dX8_startAnew_1 ?_
  refine a_putI (pc := 2) X9 okX8 0 rfl rfl (v := 0) wF_X8_36 (is8 ha0 hnn) dX8_startAnew_2 (bool_inR (Or.inl rfl)) (fit_bool (Or.inl rfl)) (fun _ => ?_)
  obtain ⟨G_1, eG_1⟩ : ∃ G9, G9 = upG G a0 0 0 := ⟨_, rfl⟩
  have hG_1 : GR G_1 := by rw [eG_1]; exact (GR.up hG (bool_inR (Or.inl rfl)))
  have h := h G_1 eG_1
  rw [← eG_1]
  refine a_aload_n (pc := 5) X9 dX8_startAnew_5 rfl rfl ?_
  refine a_iconst (pc := 6) X9 dX8_startAnew_6 ?_
  refine a_putI (pc := 7) X9 okX8 1 rfl rfl (v := 0) wF_X8_40 (is8 ha0 hnn) dX8_startAnew_7 (by decide) (fit_int _) (fun _ => ?_)
  obtain ⟨G_2, eG_2⟩ : ∃ G9, G9 = upG G_1 a0 1 0 := ⟨_, rfl⟩
  have hG_2 : GR G_2 := by rw [eG_2]; exact (GR.up hG_1 (by decide))
  have h := h G_2 eG_2
  rw [← eG_2]
  refine a_aload_n (pc := 10) X9 dX8_startAnew_10 rfl rfl ?_
  refine a_iconst (pc := 11) X9 dX8_startAnew_11 ?_
  refine a_putI (pc := 12) X9 okX8 5 rfl rfl (v := 0) wF_X8_44 (is8 ha0 hnn) dX8_startAnew_12 (by decide) (fit_int _) (fun _ => ?_)
  obtain ⟨G_3, eG_3⟩ : ∃ G9, G9 = upG G_2 a0 5 0 := ⟨_, rfl⟩
  have hG_3 : GR G_3 := by rw [eG_3]; exact (GR.up hG_2 (by decide))
  have h := h G_3 eG_3
  rw [← eG_3]
  refine a_aload_n (pc := 15) X9 dX8_startAnew_15 rfl rfl ?_
  refine a_iconst (pc := 16) X9 dX8_startAnew_16 ?_
  refine a_putI (pc := 17) X9 okX8 8 rfl rfl (v := 0) wF_X8_47 (is8 ha0 hnn) dX8_startAnew_17 (by decide) (fit_int _) (fun _ => ?_)
  obtain ⟨G_4, eG_4⟩ : ∃ G9, G9 = upG G_3 a0 8 0 := ⟨_, rfl⟩
  have hG_4 : GR G_4 := by rw [eG_4]; exact (GR.up hG_3 (by decide))
  have h := h G_4 eG_4
  rw [← eG_4]
  refine a_aload_n (pc := 20) X9 dX8_startAnew_20 rfl rfl ?_
  refine a_getR (pc := 21) X9 (q := (a0 + 3)) okX8 4 rfl wF_X8_18 (is8 ha0 hnn) (rf8_4 _ ha0) dX8_startAnew_21 ?_
  refine a_iconst (pc := 24) X9 dX8_startAnew_24 ?_
  refine a_callS (pc := 25) X9 E (m_fill (v := 0) (ar8_4 ha0 hnn) (Nat.le_of_ble_eq_true rfl) (show inR 0 by decide)) wM_X8_50 w_static_J7_fill_53178 w_initialized_RJ7 w_code_J7_fill_53178 cp_J7_fill_53178 pn_J7_fill_53178 rfl (Nat.le_of_ble_eq_true rfl) ⟨Nat.le_of_ble_eq_true rfl, Nat.le_of_ble_eq_true rfl⟩ ⟨Nat.le_of_ble_eq_true rfl, Nat.le_of_ble_eq_true rfl⟩ dX8_startAnew_25 (fun _ _ q => q.elim) (kV (fun G_5 eG_5 hG_5 => ?_))
  have h := h G_5 eG_5
  refine a_aload_n (pc := 28) X9 dX8_startAnew_28 rfl rfl ?_
  refine a_getR (pc := 29) X9 (q := (a0 + 5)) okX8 7 rfl wF_X8_24 (is8 ha0 hnn) (rf8_7 _ ha0) dX8_startAnew_29 ?_
  refine a_iconst (pc := 32) X9 dX8_startAnew_32 ?_
  refine a_callS (pc := 33) X9 E (m_fill (v := 0) (ar8_7 ha0 hnn) (Nat.le_of_ble_eq_true rfl) (show inR 0 by decide)) wM_X8_50 w_static_J7_fill_53178 w_initialized_RJ7 w_code_J7_fill_53178 cp_J7_fill_53178 pn_J7_fill_53178 rfl (Nat.le_of_ble_eq_true rfl) ⟨Nat.le_of_ble_eq_true rfl, Nat.le_of_ble_eq_true rfl⟩ ⟨Nat.le_of_ble_eq_true rfl, Nat.le_of_ble_eq_true rfl⟩ dX8_startAnew_33 (fun _ _ q => q.elim) (kV (fun G_6 eG_6 hG_6 => ?_))
  have h := h G_6 eG_6
  exact a_return (pc := 36) X9 E (Nat.le_of_ble_eq_true rfl) (Nat.le_of_ble_eq_true rfl) dX8_startAnew_36 ⟨rfl, rfl, h⟩
set_option maxHeartbeats 4000000 in
set_option maxRecDepth 100000 in
theorem m_X0_takeAllDown {nn : Nat} {a0 : Nat} {G : GH} {Q : GH → Prop} (ha0 : a0 ∈ L0) (hnn : 272 ≤ nn) (h : f_X0_takeAllDown a0 G Q) : Mt yX0_takeAllDown cX0_takeAllDown 1 none 1 23 0 0 [vr a0] (SF nn) G (fun v S' G' => S' = SF nn ∧ qV Q v S' G') (fun E S' G' => S' = SF nn ∧ False) := by
  refine Mt.of (l0 := [some (vr a0)]) (by decide) (Nat.le_of_ble_eq_true rfl) rfl ?_
  intro κ δ ρ0 X9 E hG
  replace X9 : CX κ δ RX0 cX0_takeAllDown 1 none := X9
  refine a_aload_n (pc := 0) X9 dX0_takeAllDown_0 rfl rfl ?_
  refine a_iconst (pc := 1) X9 dX0_takeAllDown_1 ?_
  refine a_putI (pc := 2) X9 okX0 0 rfl rfl (v := (-1)) wF_X0_9 (is0 ha0 hnn) dX0_takeAllDown_2 (by decide) (fit_int _) (fun _ => ?_)
  obtain ⟨G_1, eG_1⟩ : ∃ G9, G9 = upG G a0 0 (-1) := ⟨_, rfl⟩
  have hG_1 : GR G_1 := by rw [eG_1]; exact (GR.up hG (by decide))
  have h := h G_1 eG_1
  rw [← eG_1]
  refine a_aload_n (pc := 5) X9 dX0_takeAllDown_5 rfl rfl ?_
  refine a_getR (pc := 6) X9 (q := (a0 + 1)) okX0 1 rfl wF_X0_15 (is0 ha0 hnn) (rf0_1 _ ha0) dX0_takeAllDown_6 ?_
  refine a_iconst (pc := 9) X9 dX0_takeAllDown_9 ?_
  refine a_callS (pc := 10) X9 E (m_fill (v := (-1)) (ar0_1 ha0 hnn) (Nat.le_of_ble_eq_true rfl) (show inR (-1) by decide)) wM_X0_31 w_static_J7_fill_53178 w_initialized_RJ7 w_code_J7_fill_53178 cp_J7_fill_53178 pn_J7_fill_53178 rfl (Nat.le_of_ble_eq_true rfl) ⟨Nat.le_of_ble_eq_true rfl, Nat.le_of_ble_eq_true rfl⟩ ⟨Nat.le_of_ble_eq_true rfl, Nat.le_of_ble_eq_true rfl⟩ dX0_takeAllDown_10 (fun _ _ q => q.elim) (kV (fun G_2 eG_2 hG_2 => ?_))
  have h := h G_2 eG_2
  refine a_aload_n (pc := 13) X9 dX0_takeAllDown_13 rfl rfl ?_
  refine a_getR (pc := 14) X9 (q := (a0 + 2)) okX0 2 rfl wF_X0_19 (is0 ha0 hnn) (rf0_2 _ ha0) dX0_takeAllDown_14 ?_
  refine a_iconst (pc := 17) X9 dX0_takeAllDown_17 ?_
  refine a_callS (pc := 18) X9 E (m_fill (v := (-1)) (ar0_2 ha0 hnn) (Nat.le_of_ble_eq_true rfl) (show inR (-1) by decide)) wM_X0_31 w_static_J7_fill_53178 w_initialized_RJ7 w_code_J7_fill_53178 cp_J7_fill_53178 pn_J7_fill_53178 rfl (Nat.le_of_ble_eq_true rfl) ⟨Nat.le_of_ble_eq_true rfl, Nat.le_of_ble_eq_true rfl⟩ ⟨Nat.le_of_ble_eq_true rfl, Nat.le_of_ble_eq_true rfl⟩ dX0_takeAllDown_18 (fun _ _ q => q.elim) (kV (fun G_3 eG_3 hG_3 => ?_))
  have h := h G_3 eG_3
  refine a_aload_n (pc := 21) X9 dX0_takeAllDown_21 rfl rfl ?_
  refine a_getR (pc := 22) X9 (q := (a0 + 3)) okX0 3 rfl wF_X0_22 (is0 ha0 hnn) (rf0_3 _ ha0) dX0_takeAllDown_22 ?_
  refine a_iconst (pc := 25) X9 dX0_takeAllDown_25 ?_
  refine a_callS (pc := 26) X9 E (m_fill (v := (-1)) (ar0_3 ha0 hnn) (Nat.le_of_ble_eq_true rfl) (show inR (-1) by decide)) wM_X0_31 w_static_J7_fill_53178 w_initialized_RJ7 w_code_J7_fill_53178 cp_J7_fill_53178 pn_J7_fill_53178 rfl (Nat.le_of_ble_eq_true rfl) ⟨Nat.le_of_ble_eq_true rfl, Nat.le_of_ble_eq_true rfl⟩ ⟨Nat.le_of_ble_eq_true rfl, Nat.le_of_ble_eq_true rfl⟩ dX0_takeAllDown_26 (fun _ _ q => q.elim) (kV (fun G_4 eG_4 hG_4 => ?_))
  have h := h G_4 eG_4
  refine a_aload_n (pc := 29) X9 dX0_takeAllDown_29 rfl rfl ?_
  refine a_getR (pc := 30) X9 (q := (a0 + 4)) okX0 4 rfl wF_X0_25 (is0 ha0 hnn) (rf0_4 _ ha0) dX0_takeAllDown_30 ?_
  refine a_iconst (pc := 33) X9 dX0_takeAllDown_33 ?_
  refine a_callS (pc := 34) X9 E (m_fill (v := (-1)) (ar0_4 ha0 hnn) (Nat.le_of_ble_eq_true rfl) (show inR (-1) by decide)) wM_X0_31 w_static_J7_fill_53178 w_initialized_RJ7 w_code_J7_fill_53178 cp_J7_fill_53178 pn_J7_fill_53178 rfl (Nat.le_of_ble_eq_true rfl) ⟨Nat.le_of_ble_eq_true rfl, Nat.le_of_ble_eq_true rfl⟩ ⟨Nat.le_of_ble_eq_true rfl, Nat.le_of_ble_eq_true rfl⟩ dX0_takeAllDown_34 (fun _ _ q => q.elim) (kV (fun G_5 eG_5 hG_5 => ?_))
  have h := h G_5 eG_5
  refine a_aload_n (pc := 37) X9 dX0_takeAllDown_37 rfl rfl ?_
  refine a_getR (pc := 38) X9 (q := (a0 + 5)) okX0 5 rfl wF_X0_28 (is0 ha0 hnn) (rf0_5 _ ha0) dX0_takeAllDown_38 ?_
  refine a_iconst (pc := 41) X9 dX0_takeAllDown_41 ?_
  refine a_callS (pc := 42) X9 E (m_fill (v := 0) (ar0_5 ha0 hnn) (Nat.le_of_ble_eq_true rfl) (show inR 0 by decide)) wM_X0_31 w_static_J7_fill_53178 w_initialized_RJ7 w_code_J7_fill_53178 cp_J7_fill_53178 pn_J7_fill_53178 rfl (Nat.le_of_ble_eq_true rfl) ⟨Nat.le_of_ble_eq_true rfl, Nat.le_of_ble_eq_true rfl⟩ ⟨Nat.le_of_ble_eq_true rfl, Nat.le_of_ble_eq_true rfl⟩ dX0_takeAllDown_42 (fun _ _ q => q.elim) (kV (fun G_6 eG_6 hG_6 => ?_))
  have h := h G_6 eG_6
  exact a_return (pc := 45) X9 E (Nat.le_of_ble_eq_true rfl) (Nat.le_of_ble_eq_true rfl) dX0_takeAllDown_45 ⟨rfl, rfl, h⟩
set_option maxHeartbeats 4000000 in
set_option maxRecDepth 100000 in
theorem m_X7_startAnew {nn : Nat} {a0 : Nat} {G : GH} {Q : GH → Prop} (ha0 : a0 ∈ L7) (hnn : 272 ≤ nn) (h : f_X7_startAnew a0 G Q) : Mt yX7_startAnew cX7_startAnew 1 none 2 43 0 0 [vr a0] (SF nn) G (fun v S' G' => S' = SF nn ∧ qV Q v S' G') (fun E S' G' => S' = SF nn ∧ False) := by
  refine Mt.of (l0 := [some (vr a0)]) (by decide) (Nat.le_of_ble_eq_true rfl) rfl ?_
  intro κ δ ρ0 X9 E hG
  replace X9 : CX κ δ RX7 cX7_startAnew 1 none := X9
  refine a_aload_n (pc := 0) X9 dX7_startAnew_0 rfl rfl ?_
  refine a_iconst (pc := 1) X9 dX7_startAnew_1 ?_
  refine a_putI (pc := 2) X9 okX7 0 rfl rfl (v := 0) wF_X7_36 (is7 ha0 hnn) dX7_startAnew_2 (by decide) (fit_int _) (fun _ => ?_)
  obtain ⟨G_1, eG_1⟩ : ∃ G9, G9 = upG G a0 0 0 := ⟨_, rfl⟩
  have hG_1 : GR G_1 := by rw [eG_1]; exact (GR.up hG (by decide))
  have h := h G_1 eG_1
  rw [← eG_1]
  refine a_aload_n (pc := 5) X9 dX7_startAnew_5 rfl rfl ?_
  refine a_iconst (pc := 6) X9 dX7_startAnew_6 ?_
  refine a_putI (pc := 7) X9 okX7 2 rfl rfl (v := 0) wF_X7_40 (is7 ha0 hnn) dX7_startAnew_7 (bool_inR (Or.inl rfl)) (fit_bool (Or.inl rfl)) (fun _ => ?_)
  obtain ⟨G_2, eG_2⟩ : ∃ G9, G9 = upG G_1 a0 2 0 := ⟨_, rfl⟩
  have hG_2 : GR G_2 := by rw [eG_2]; exact (GR.up hG_1 (bool_inR (Or.inl rfl)))
  have h := h G_2 eG_2
  rw [← eG_2]
  refine a_aload_n (pc := 10) X9 dX7_startAnew_10 rfl rfl ?_
  refine a_getR (pc := 11) X9 (q := (a0 + 2)) okX7 3 rfl wF_X7_18 (is7 ha0 hnn) (rf7_3 _ ha0) dX7_startAnew_11 ?_
  refine a_callV (pc := 14) X9 E (m_X8_startAnew (su7_3 _ ha0) hnn h) okX8 (is8 (su7_3 _ ha0) hnn) wM_X7_44 w_instanceMethod_X8_startAnew w_selects_X8_startAnew w_initialized_RX8 w_code_X8_startAnew cp_X8_startAnew pn_X8_startAnew rfl (Nat.le_of_ble_eq_true rfl) ⟨Nat.le_of_ble_eq_true rfl, Nat.le_of_ble_eq_true rfl⟩ ⟨Nat.le_of_ble_eq_true rfl, Nat.le_of_ble_eq_true rfl⟩ dX7_startAnew_14 (fun _ _ q => False.elim q) (kV (fun G_3 h hG_3 => ?_))
  refine a_aload_n (pc := 17) X9 dX7_startAnew_17 rfl rfl ?_
  refine a_getR (pc := 18) X9 (q := (a0 + 11)) okX7 4 rfl wF_X7_25 (is7 ha0 hnn) (rf7_4 _ ha0) dX7_startAnew_18 ?_
  refine a_iconst (pc := 21) X9 dX7_startAnew_21 ?_
  refine a_putI (pc := 22) X9 okX6 0 rfl rfl (v := 0) wF_X7_47 (is6 (su7_4 _ ha0) hnn) dX7_startAnew_22 (by decide) (fit_int _) (fun _ => ?_)
  obtain ⟨G_4, eG_4⟩ : ∃ G9, G9 = upG G_3 (a0 + 11) 0 0 := ⟨_, rfl⟩
  have hG_4 : GR G_4 := by rw [eG_4]; exact (GR.up hG_3 (by decide))
  have h := h G_4 eG_4
  rw [← eG_4]
  refine a_aload_n (pc := 25) X9 dX7_startAnew_25 rfl rfl ?_
  refine a_getR (pc := 26) X9 (q := (a0 + 14)) okX7 5 rfl wF_X7_32 (is7 ha0 hnn) (rf7_5 _ ha0) dX7_startAnew_26 ?_
  refine a_callV (pc := 29) X9 E (m_X0_takeAllDown (su7_5 _ ha0) hnn h) okX0 (is0 (su7_5 _ ha0) hnn) wM_X7_50 w_instanceMethod_X0_takeAllDown w_selects_X0_takeAllDown w_initialized_RX0 w_code_X0_takeAllDown cp_X0_takeAllDown pn_X0_takeAllDown rfl (Nat.le_of_ble_eq_true rfl) ⟨Nat.le_of_ble_eq_true rfl, Nat.le_of_ble_eq_true rfl⟩ ⟨Nat.le_of_ble_eq_true rfl, Nat.le_of_ble_eq_true rfl⟩ dX7_startAnew_29 (fun _ _ q => False.elim q) (kV (fun G_5 h hG_5 => ?_))
  refine a_aload_n (pc := 32) X9 dX7_startAnew_32 rfl rfl ?_
  refine a_iconst (pc := 33) X9 dX7_startAnew_33 ?_
  refine a_putI (pc := 34) X9 okX7 6 rfl rfl (v := 0) wF_X7_53 (is7 ha0 hnn) dX7_startAnew_34 (by decide) (fit_int _) (fun _ => ?_)
  obtain ⟨G_6, eG_6⟩ : ∃ G9, G9 = upG G_5 a0 6 0 := ⟨_, rfl⟩
  have hG_6 : GR G_6 := by rw [eG_6]; exact (GR.up hG_5 (by decide))
  have h := h G_6 eG_6
  rw [← eG_6]
  refine a_aload_n (pc := 37) X9 dX7_startAnew_37 rfl rfl ?_
  refine a_iconst (pc := 38) X9 dX7_startAnew_38 ?_
  refine a_putI (pc := 39) X9 okX7 7 rfl rfl (v := 0) wF_X7_56 (is7 ha0 hnn) dX7_startAnew_39 (by decide) (fit_int _) (fun _ => ?_)
  obtain ⟨G_7, eG_7⟩ : ∃ G9, G9 = upG G_6 a0 7 0 := ⟨_, rfl⟩
  have hG_7 : GR G_7 := by rw [eG_7]; exact (GR.up hG_6 (by decide))
  have h := h G_7 eG_7
  rw [← eG_7]
  refine a_aload_n (pc := 42) X9 dX7_startAnew_42 rfl rfl ?_
  refine a_iconst (pc := 43) X9 dX7_startAnew_43 ?_
  refine a_putI (pc := 44) X9 okX7 8 rfl rfl (v := 0) wF_X7_59 (is7 ha0 hnn) dX7_startAnew_44 (by decide) (fit_int _) (fun _ => ?_)
  obtain ⟨G_8, eG_8⟩ : ∃ G9, G9 = upG G_7 a0 8 0 := ⟨_, rfl⟩
  have hG_8 : GR G_8 := by rw [eG_8]; exact (GR.up hG_7 (by decide))
  have h := h G_8 eG_8
  rw [← eG_8]
  refine a_aload_n (pc := 47) X9 dX7_startAnew_47 rfl rfl ?_
  refine a_iconst (pc := 48) X9 dX7_startAnew_48 ?_
  refine a_putI (pc := 49) X9 okX7 9 rfl rfl (v := 0) wF_X7_62 (is7 ha0 hnn) dX7_startAnew_49 (by decide) (fit_int _) (fun _ => ?_)
  obtain ⟨G_9, eG_9⟩ : ∃ G9, G9 = upG G_8 a0 9 0 := ⟨_, rfl⟩
  have hG_9 : GR G_9 := by rw [eG_9]; exact (GR.up hG_8 (by decide))
  have h := h G_9 eG_9
  rw [← eG_9]
  exact a_return (pc := 52) X9 E (Nat.le_of_ble_eq_true rfl) (Nat.le_of_ble_eq_true rfl) dX7_startAnew_52 ⟨rfl, rfl, h⟩
set_option maxHeartbeats 4000000 in
set_option maxRecDepth 100000 in
theorem m_X5_isLetter {nn : Nat} {i0 : Int} {G : GH} {Q : Int → Prop} (hi0 : inR i0) (hnn : 272 ≤ nn) (h : f_X5_isLetter i0 Q) : Mt yX5_isLetter cX5_isLetter 1 (some .boolean) 0 0 0 0 [vi i0] (SF nn) G (fun v S' G' => S' = SF nn ∧ qZ (fun r9 G9 => G9 = G ∧ Q r9) v S' G') (fun E S' G' => S' = SF nn ∧ False) := by
  refine Mt.of (l0 := [some (vi i0)]) (by decide) (Nat.le_of_ble_eq_true rfl) rfl ?_
  intro κ δ ρ0 X9 E hG
  replace X9 : CX κ δ RX5 cX5_isLetter 1 (some .boolean) := X9
  refine a_iload_n (pc := 0) X9 dX5_isLetter_0 rfl rfl ?_
  refine a_bipush (pc := 1) X9 dX5_isLetter_1 rfl ?_
  refine a_icmp_lt (pc := 3) (tgt := 16) X9 dX5_isLetter_3 rfl hi0 (by decide) (fun c => ?_) (fun c => ?_)
  · have c_1 := c
    have h := h.1 c_1
    refine a_iconst (pc := 16) X9 dX5_isLetter_16 ?_
    exact a_ireturn (pc := 17) X9 E rfl (fit_bool (Or.inl rfl)).1 (Nat.le_of_ble_eq_true rfl) (Nat.le_of_ble_eq_true rfl) dX5_isLetter_17 ⟨rfl, _, rfl, (Or.inl rfl), rfl, h⟩
  · have c_1 := c
    have h := h.2 c_1
    refine a_iload_n (pc := 6) X9 dX5_isLetter_6 rfl rfl ?_
    refine a_bipush (pc := 7) X9 dX5_isLetter_7 rfl ?_
    refine a_icmp_gt (pc := 9) (tgt := 16) X9 dX5_isLetter_9 rfl hi0 (by decide) (fun c => ?_) (fun c => ?_)
    · have c_2 := c
      have h := h.1 c_2
      refine a_iconst (pc := 16) X9 dX5_isLetter_16 ?_
      exact a_ireturn (pc := 17) X9 E rfl (fit_bool (Or.inl rfl)).1 (Nat.le_of_ble_eq_true rfl) (Nat.le_of_ble_eq_true rfl) dX5_isLetter_17 ⟨rfl, _, rfl, (Or.inl rfl), rfl, h⟩
    · have c_2 := c
      have h := h.2 c_2
      refine a_iconst (pc := 12) X9 dX5_isLetter_12 ?_
      refine a_goto (pc := 13) (tgt := 17) X9 dX5_isLetter_13 rfl ?_
      exact a_ireturn (pc := 17) X9 E rfl (fit_bool (Or.inr rfl)).1 (Nat.le_of_ble_eq_true rfl) (Nat.le_of_ble_eq_true rfl) dX5_isLetter_17 ⟨rfl, _, rfl, (Or.inr rfl), rfl, h⟩
set_option maxHeartbeats 4000000 in
set_option maxRecDepth 100000 in
theorem m_X5_isDigit {nn : Nat} {i0 : Int} {G : GH} {Q : Int → Prop} (hi0 : inR i0) (hnn : 272 ≤ nn) (h : f_X5_isDigit i0 Q) : Mt yX5_isDigit cX5_isDigit 1 (some .boolean) 0 0 0 0 [vi i0] (SF nn) G (fun v S' G' => S' = SF nn ∧ qZ (fun r9 G9 => G9 = G ∧ Q r9) v S' G') (fun E S' G' => S' = SF nn ∧ False) := by
  refine Mt.of (l0 := [some (vi i0)]) (by decide) (Nat.le_of_ble_eq_true rfl) rfl ?_
  intro κ δ ρ0 X9 E hG
  replace X9 : CX κ δ RX5 cX5_isDigit 1 (some .boolean) := X9
  refine a_iload_n (pc := 0) X9 dX5_isDigit_0 rfl rfl ?_
  refine a_bipush (pc := 1) X9 dX5_isDigit_1 rfl ?_
  refine a_icmp_lt (pc := 3) (tgt := 16) X9 dX5_isDigit_3 rfl hi0 (by decide) (fun c => ?_) (fun c => ?_)
  · have c_1 := c
    have h := h.1 c_1
    refine a_iconst (pc := 16) X9 dX5_isDigit_16 ?_
    exact a_ireturn (pc := 17) X9 E rfl (fit_bool (Or.inl rfl)).1 (Nat.le_of_ble_eq_true rfl) (Nat.le_of_ble_eq_true rfl) dX5_isDigit_17 ⟨rfl, _, rfl, (Or.inl rfl), rfl, h⟩
  · have c_1 := c
    have h := h.2 c_1
    refine a_iload_n (pc := 6) X9 dX5_isDigit_6 rfl rfl ?_
    refine a_bipush (pc := 7) X9 dX5_isDigit_7 rfl ?_
    refine a_icmp_gt (pc := 9) (tgt := 16) X9 dX5_isDigit_9 rfl hi0 (by decide) (fun c => ?_) (fun c => ?_)
    · have c_2 := c
      have h := h.1 c_2
      refine a_iconst (pc := 16) X9 dX5_isDigit_16 ?_
      exact a_ireturn (pc := 17) X9 E rfl (fit_bool (Or.inl rfl)).1 (Nat.le_of_ble_eq_true rfl) (Nat.le_of_ble_eq_true rfl) dX5_isDigit_17 ⟨rfl, _, rfl, (Or.inl rfl), rfl, h⟩
    · have c_2 := c
      have h := h.2 c_2
      refine a_iconst (pc := 12) X9 dX5_isDigit_12 ?_
      refine a_goto (pc := 13) (tgt := 17) X9 dX5_isDigit_13 rfl ?_
      exact a_ireturn (pc := 17) X9 E rfl (fit_bool (Or.inr rfl)).1 (Nat.le_of_ble_eq_true rfl) (Nat.le_of_ble_eq_true rfl) dX5_isDigit_17 ⟨rfl, _, rfl, (Or.inr rfl), rfl, h⟩
set_option maxHeartbeats 4000000 in
set_option maxRecDepth 100000 in
theorem m_X5_advance {nn : Nat}  {G : GH} {Q : GH → Prop}  (hnn : 272 ≤ nn) (h : f_X5_advance G Q) : Mt yX5_advance cX5_advance 1 none 1 20 0 0 [vr 41] (SF nn) G (fun v S' G' => S' = SF nn ∧ qV Q v S' G') (fun E S' G' => S' = SF nn ∧ False) := by
  refine Mt.of (l0 := [some (vr 41)]) (by decide) (Nat.le_of_ble_eq_true rfl) rfl ?_
  intro κ δ ρ0 X9 E hG
  replace X9 : CX κ δ RX5 cX5_advance 1 none := X9
  refine a_aload_n (pc := 0) X9 dX5_advance_0 rfl rfl ?_
  refine a_aload_n (pc := 1) X9 dX5_advance_1 rfl rfl ?_
  refine a_getI (pc := 2) X9 okX5 7 rfl wF_X5_38 (is5 hnn) dX5_advance_2 ?_
  refine a_putI (pc := 5) X9 okX5 6 rfl rfl (v := (G 41 7)) wF_X5_61 (is5 hnn) dX5_advance_5 (hG _ _) (fit_int _) (fun _ => ?_)
  obtain ⟨G_1, eG_1⟩ : ∃ G9, G9 = upG G 41 6 (G 41 7) := ⟨_, rfl⟩
  have hG_1 : GR G_1 := by rw [eG_1]; exact (GR.up hG (hG _ _))
  have h := h G_1 eG_1
  rw [← eG_1]
  refine joinM1 (A := fun G_4 => GR G_4 → AW κ δ ρ0 (szF nn) 1 0 0 46 [some (vr 41)] [] (SF nn) G_4) (fun G_4 h hG_4 => ?_) (fun j_1 hj_1 h => ?_) h
  · refine a_aload_n (pc := 46) X9 dX5_advance_46 rfl rfl ?_
    refine a_aload_n (pc := 47) X9 dX5_advance_47 rfl rfl ?_
    refine a_getI (pc := 48) X9 okX5 6 rfl wF_X5_61 (is5 hnn) dX5_advance_48 ?_
    refine a_putI (pc := 51) X9 okX5 7 rfl rfl (v := (G_4 41 6)) wF_X5_38 (is5 hnn) dX5_advance_51 (hG_4 _ _) (fit_int _) (fun _ => ?_)
    obtain ⟨G_5, eG_5⟩ : ∃ G9, G9 = upG G_4 41 7 (G_4 41 6) := ⟨_, rfl⟩
    have hG_5 : GR G_5 := by rw [eG_5]; exact (GR.up hG_4 (hG_4 _ _))
    have h := h G_5 eG_5
    rw [← eG_5]
    refine a_aload_n (pc := 54) X9 dX5_advance_54 rfl rfl ?_
    refine a_getI (pc := 55) X9 okX5 6 rfl wF_X5_61 (is5 hnn) dX5_advance_55 ?_
    refine a_aload_n (pc := 58) X9 dX5_advance_58 rfl rfl ?_
    refine a_getI (pc := 59) X9 okX5 1 rfl wF_X5_20 (is5 hnn) dX5_advance_59 ?_
    refine a_icmp_ne (pc := 62) (tgt := 73) X9 dX5_advance_62 rfl (hG_5 _ _) (hG_5 _ _) (fun c => ?_) (fun c => ?_)
    · have c_3 := c
      have h := h.1 c_3
      refine a_aload_n (pc := 73) X9 dX5_advance_73 rfl rfl ?_
      refine a_getR (pc := 74) X9 (q := 42) okX5 0 rfl wF_X5_9 (is5 hnn) rf5_0 dX5_advance_74 ?_
      refine a_aload_n (pc := 77) X9 dX5_advance_77 rfl rfl ?_
      refine a_getI (pc := 78) X9 okX5 6 rfl wF_X5_61 (is5 hnn) dX5_advance_78 ?_
      obtain ⟨g_3, h⟩ := h
      refine b_iald (pc := 81) X9 (ar5_0 hnn) (Nat.le_of_ble_eq_true rfl) g_3 dX5_advance_81 ?_
      refine a_callS (pc := 82) X9 E (m_X5_isLetter (hG_5 _ _) hnn h) wM_X5_180 w_static_X5_isLetter w_initialized_RX5 w_code_X5_isLetter cp_X5_isLetter pn_X5_isLetter rfl (Nat.le_of_ble_eq_true rfl) ⟨Nat.le_of_ble_eq_true rfl, Nat.le_of_ble_eq_true rfl⟩ ⟨Nat.le_of_ble_eq_true rfl, Nat.le_of_ble_eq_true rfl⟩ dX5_advance_82 (fun _ _ q => False.elim q) (kZp (fun r_1 hr_1 h => ?_))
      refine a_if_eq (pc := 85) (tgt := 132) X9 dX5_advance_85 rfl (bool_inR hr_1) (fun c => ?_) (fun c => ?_)
      · have c_4 := c
        have h := h.1 c_4
        refine a_aload_n (pc := 132) X9 dX5_advance_132 rfl rfl ?_
        refine a_getR (pc := 133) X9 (q := 42) okX5 0 rfl wF_X5_9 (is5 hnn) rf5_0 dX5_advance_133 ?_
        refine a_aload_n (pc := 136) X9 dX5_advance_136 rfl rfl ?_
        refine a_getI (pc := 137) X9 okX5 6 rfl wF_X5_61 (is5 hnn) dX5_advance_137 ?_
        refine b_iald (pc := 140) X9 (ar5_0 hnn) (Nat.le_of_ble_eq_true rfl) g_3 dX5_advance_140 ?_
        refine a_callS (pc := 141) X9 E (m_X5_isDigit (hG_5 _ _) hnn h) wM_X5_183 w_static_X5_isDigit w_initialized_RX5 w_code_X5_isDigit cp_X5_isDigit pn_X5_isDigit rfl (Nat.le_of_ble_eq_true rfl) ⟨Nat.le_of_ble_eq_true rfl, Nat.le_of_ble_eq_true rfl⟩ ⟨Nat.le_of_ble_eq_true rfl, Nat.le_of_ble_eq_true rfl⟩ dX5_advance_141 (fun _ _ q => False.elim q) (kZp (fun r_2 hr_2 h => ?_))
        refine a_if_eq (pc := 144) (tgt := 225) X9 dX5_advance_144 rfl (bool_inR hr_2) (fun c => ?_) (fun c => ?_)
        · have c_5 := c
          have h := h.1 c_5
          refine a_aload_n (pc := 225) X9 dX5_advance_225 rfl rfl ?_
          refine a_iconst (pc := 226) X9 dX5_advance_226 ?_
          refine a_putI (pc := 227) X9 okX5 5 rfl rfl (v := 3) wF_X5_55 (is5 hnn) dX5_advance_227 (by decide) (fit_int _) (fun _ => ?_)
          obtain ⟨G_6, eG_6⟩ : ∃ G9, G9 = upG G_5 41 5 3 := ⟨_, rfl⟩
          have hG_6 : GR G_6 := by rw [eG_6]; exact (GR.up hG_5 (by decide))
          have h := h G_6 eG_6
          rw [← eG_6]
          refine a_aload_n (pc := 230) X9 dX5_advance_230 rfl rfl ?_
          refine a_aload_n (pc := 231) X9 dX5_advance_231 rfl rfl ?_
          refine a_getR (pc := 232) X9 (q := 42) okX5 0 rfl wF_X5_9 (is5 hnn) rf5_0 dX5_advance_232 ?_
          refine a_aload_n (pc := 235) X9 dX5_advance_235 rfl rfl ?_
          refine a_getI (pc := 236) X9 okX5 6 rfl wF_X5_61 (is5 hnn) dX5_advance_236 ?_
          obtain ⟨g_4, h⟩ := h
          refine b_iald (pc := 239) X9 (ar5_0 hnn) (Nat.le_of_ble_eq_true rfl) g_4 dX5_advance_239 ?_
          refine a_putI (pc := 240) X9 okX5 8 rfl rfl (v := (G_6 42 ((G_6 41 6)).toNat)) wF_X5_102 (is5 hnn) dX5_advance_240 (hG_6 _ _) (fit_int _) (fun _ => ?_)
          obtain ⟨G_7, eG_7⟩ : ∃ G9, G9 = upG G_6 41 8 (G_6 42 ((G_6 41 6)).toNat) := ⟨_, rfl⟩
          have hG_7 : GR G_7 := by rw [eG_7]; exact (GR.up hG_6 (hG_6 _ _))
          have h := h G_7 eG_7
          rw [← eG_7]
          refine a_aload_n (pc := 243) X9 dX5_advance_243 rfl rfl ?_
          refine a_dup (pc := 244) X9 dX5_advance_244 rfl ?_
          refine a_getI (pc := 245) X9 okX5 7 rfl wF_X5_38 (is5 hnn) dX5_advance_245 ?_
          refine a_iconst (pc := 248) X9 dX5_advance_248 ?_
          refine a_iadd (pc := 249) X9 dX5_advance_249 ?_
          obtain ⟨g_5, h⟩ := h
          refine a_putI (pc := 250) X9 okX5 7 rfl rfl (v := ((G_7 41 7) + 1)) wF_X5_38 (is5 hnn) dX5_advance_250 g_5 (fit_int _) (fun _ => ?_)
          obtain ⟨G_8, eG_8⟩ : ∃ G9, G9 = upG G_7 41 7 ((G_7 41 7) + 1) := ⟨_, rfl⟩
          have hG_8 : GR G_8 := by rw [eG_8]; exact (GR.up hG_7 g_5)
          have h := h G_8 eG_8
          rw [← eG_8]
          exact a_return (pc := 253) X9 E (Nat.le_of_ble_eq_true rfl) (Nat.le_of_ble_eq_true rfl) dX5_advance_253 ⟨rfl, rfl, h⟩
        · have c_5 := c
          have h := h.2 c_5
          refine a_aload_n (pc := 147) X9 dX5_advance_147 rfl rfl ?_
          refine a_iconst (pc := 148) X9 dX5_advance_148 ?_
          refine a_putI (pc := 149) X9 okX5 5 rfl rfl (v := 2) wF_X5_55 (is5 hnn) dX5_advance_149 (by decide) (fit_int _) (fun _ => ?_)
          obtain ⟨G_9, eG_9⟩ : ∃ G9, G9 = upG G_5 41 5 2 := ⟨_, rfl⟩
          have hG_9 : GR G_9 := by rw [eG_9]; exact (GR.up hG_5 (by decide))
          have h := h G_9 eG_9
          rw [← eG_9]
          refine a_aload_n (pc := 152) X9 dX5_advance_152 rfl rfl ?_
          refine a_iconst (pc := 153) X9 dX5_advance_153 ?_
          refine a_putI (pc := 154) X9 okX5 8 rfl rfl (v := 0) wF_X5_102 (is5 hnn) dX5_advance_154 (by decide) (fit_int _) (fun _ => ?_)
          obtain ⟨G_10, eG_10⟩ : ∃ G9, G9 = upG G_9 41 8 0 := ⟨_, rfl⟩
          have hG_10 : GR G_10 := by rw [eG_10]; exact (GR.up hG_9 (by decide))
          have h := h G_10 eG_10
          rw [← eG_10]
          refine loopM1 (A := fun G_11 => GR G_11 → AW κ δ ρ0 (szF nn) 1 0 0 157 [some (vr 41)] [] (SF nn) G_11) (fun k_2 hk_2 G_11 h hG_11 => ?_) _ h hG_10
          refine a_aload_n (pc := 157) X9 dX5_advance_157 rfl rfl ?_
          refine a_getI (pc := 158) X9 okX5 7 rfl wF_X5_38 (is5 hnn) dX5_advance_158 ?_
          refine a_aload_n (pc := 161) X9 dX5_advance_161 rfl rfl ?_
          refine a_getI (pc := 162) X9 okX5 1 rfl wF_X5_20 (is5 hnn) dX5_advance_162 ?_
          refine a_icmp_ge (pc := 165) (tgt := 253) X9 dX5_advance_165 rfl (hG_11 _ _) (hG_11 _ _) (fun c => ?_) (fun c => ?_)
          · have c_6 := c
            have h := h.1 c_6
            exact a_return (pc := 253) X9 E (Nat.le_of_ble_eq_true rfl) (Nat.le_of_ble_eq_true rfl) dX5_advance_253 ⟨rfl, rfl, h⟩
          · have c_6 := c
            have h := h.2 c_6
            refine a_aload_n (pc := 168) X9 dX5_advance_168 rfl rfl ?_
            refine a_getR (pc := 169) X9 (q := 42) okX5 0 rfl wF_X5_9 (is5 hnn) rf5_0 dX5_advance_169 ?_
            refine a_aload_n (pc := 172) X9 dX5_advance_172 rfl rfl ?_
            refine a_getI (pc := 173) X9 okX5 7 rfl wF_X5_38 (is5 hnn) dX5_advance_173 ?_
            obtain ⟨g_6, h⟩ := h
            refine b_iald (pc := 176) X9 (ar5_0 hnn) (Nat.le_of_ble_eq_true rfl) g_6 dX5_advance_176 ?_
            refine a_callS (pc := 177) X9 E (m_X5_isDigit (hG_11 _ _) hnn h) wM_X5_183 w_static_X5_isDigit w_initialized_RX5 w_code_X5_isDigit cp_X5_isDigit pn_X5_isDigit rfl (Nat.le_of_ble_eq_true rfl) ⟨Nat.le_of_ble_eq_true rfl, Nat.le_of_ble_eq_true rfl⟩ ⟨Nat.le_of_ble_eq_true rfl, Nat.le_of_ble_eq_true rfl⟩ dX5_advance_177 (fun _ _ q => False.elim q) (kZp (fun r_3 hr_3 h => ?_))
            refine a_if_eq (pc := 180) (tgt := 253) X9 dX5_advance_180 rfl (bool_inR hr_3) (fun c => ?_) (fun c => ?_)
            · have c_7 := c
              have h := h.1 c_7
              exact a_return (pc := 253) X9 E (Nat.le_of_ble_eq_true rfl) (Nat.le_of_ble_eq_true rfl) dX5_advance_253 ⟨rfl, rfl, h⟩
            · have c_7 := c
              have h := h.2 c_7
              refine a_aload_n (pc := 183) X9 dX5_advance_183 rfl rfl ?_
              refine a_aload_n (pc := 184) X9 dX5_advance_184 rfl rfl ?_
              refine a_getI (pc := 185) X9 okX5 8 rfl wF_X5_102 (is5 hnn) dX5_advance_185 ?_
              refine a_bipush (pc := 188) X9 dX5_advance_188 rfl ?_
              refine a_imul (pc := 190) X9 dX5_advance_190 ?_
              refine a_aload_n (pc := 191) X9 dX5_advance_191 rfl rfl ?_
              refine a_getR (pc := 192) X9 (q := 42) okX5 0 rfl wF_X5_9 (is5 hnn) rf5_0 dX5_advance_192 ?_
              refine a_aload_n (pc := 195) X9 dX5_advance_195 rfl rfl ?_
              refine a_getI (pc := 196) X9 okX5 7 rfl wF_X5_38 (is5 hnn) dX5_advance_196 ?_
              refine b_iald (pc := 199) X9 (ar5_0 hnn) (Nat.le_of_ble_eq_true rfl) g_6 dX5_advance_199 ?_
              refine a_iadd (pc := 200) X9 dX5_advance_200 ?_
              refine a_bipush (pc := 201) X9 dX5_advance_201 rfl ?_
              refine a_isub (pc := 203) X9 dX5_advance_203 ?_
              refine a_ldc (pc := 204) X9 (n := 1000000) wCI_X5_186 dX5_advance_204 (by decide +kernel) ?_
              obtain ⟨g_7, h⟩ := h
              refine b_min (pc := 206) X9 E wM_X5_187 g_7 (show inR 1000000 by decide) (Nat.le_of_ble_eq_true rfl) (Nat.le_of_ble_eq_true rfl) ⟨Nat.le_of_ble_eq_true rfl, Nat.le_of_ble_eq_true rfl⟩ dX5_advance_206 ?_
              refine a_putI (pc := 209) X9 okX5 8 rfl rfl (v := (min ((((G_11 41 8) * 10) + (G_11 42 ((G_11 41 7)).toNat)) - 48) 1000000)) wF_X5_102 (is5 hnn) dX5_advance_209 (inR_min g_7 (show inR 1000000 by decide)) (fit_int _) (fun _ => ?_)
              obtain ⟨G_12, eG_12⟩ : ∃ G9, G9 = upG G_11 41 8 (min ((((G_11 41 8) * 10) + (G_11 42 ((G_11 41 7)).toNat)) - 48) 1000000) := ⟨_, rfl⟩
              have hG_12 : GR G_12 := by rw [eG_12]; exact (GR.up hG_11 (inR_min g_7 (show inR 1000000 by decide)))
              have h := h G_12 eG_12
              rw [← eG_12]
              refine a_aload_n (pc := 212) X9 dX5_advance_212 rfl rfl ?_
              refine a_dup (pc := 213) X9 dX5_advance_213 rfl ?_
              refine a_getI (pc := 214) X9 okX5 7 rfl wF_X5_38 (is5 hnn) dX5_advance_214 ?_
              refine a_iconst (pc := 217) X9 dX5_advance_217 ?_
              refine a_iadd (pc := 218) X9 dX5_advance_218 ?_
              obtain ⟨g_8, h⟩ := h
              refine a_putI (pc := 219) X9 okX5 7 rfl rfl (v := ((G_12 41 7) + 1)) wF_X5_38 (is5 hnn) dX5_advance_219 g_8 (fit_int _) (fun _ => ?_)
              obtain ⟨G_13, eG_13⟩ : ∃ G9, G9 = upG G_12 41 7 ((G_12 41 7) + 1) := ⟨_, rfl⟩
              have hG_13 : GR G_13 := by rw [eG_13]; exact (GR.up hG_12 g_8)
              have h := h G_13 eG_13
              rw [← eG_13]
              refine a_goto (pc := 222) (tgt := 157) X9 dX5_advance_222 rfl ?_
              exact hk_2 _ h hG_13
      · have c_4 := c
        have h := h.2 c_4
        refine a_aload_n (pc := 88) X9 dX5_advance_88 rfl rfl ?_
        refine a_iconst (pc := 89) X9 dX5_advance_89 ?_
        refine a_putI (pc := 90) X9 okX5 5 rfl rfl (v := 1) wF_X5_55 (is5 hnn) dX5_advance_90 (by decide) (fit_int _) (fun _ => ?_)
        obtain ⟨G_14, eG_14⟩ : ∃ G9, G9 = upG G_5 41 5 1 := ⟨_, rfl⟩
        have hG_14 : GR G_14 := by rw [eG_14]; exact (GR.up hG_5 (by decide))
        have h := h G_14 eG_14
        rw [← eG_14]
        refine loopM1 (A := fun G_15 => GR G_15 → AW κ δ ρ0 (szF nn) 1 0 0 93 [some (vr 41)] [] (SF nn) G_15) (fun k_3 hk_3 G_15 h hG_15 => ?_) _ h hG_14
        refine a_aload_n (pc := 93) X9 dX5_advance_93 rfl rfl ?_
        refine a_getI (pc := 94) X9 okX5 7 rfl wF_X5_38 (is5 hnn) dX5_advance_94 ?_
        refine a_aload_n (pc := 97) X9 dX5_advance_97 rfl rfl ?_
        refine a_getI (pc := 98) X9 okX5 1 rfl wF_X5_20 (is5 hnn) dX5_advance_98 ?_
        refine a_icmp_ge (pc := 101) (tgt := 253) X9 dX5_advance_101 rfl (hG_15 _ _) (hG_15 _ _) (fun c => ?_) (fun c => ?_)
        · have c_8 := c
          have h := h.1 c_8
          exact a_return (pc := 253) X9 E (Nat.le_of_ble_eq_true rfl) (Nat.le_of_ble_eq_true rfl) dX5_advance_253 ⟨rfl, rfl, h⟩
        · have c_8 := c
          have h := h.2 c_8
          refine a_aload_n (pc := 104) X9 dX5_advance_104 rfl rfl ?_
          refine a_getR (pc := 105) X9 (q := 42) okX5 0 rfl wF_X5_9 (is5 hnn) rf5_0 dX5_advance_105 ?_
          refine a_aload_n (pc := 108) X9 dX5_advance_108 rfl rfl ?_
          refine a_getI (pc := 109) X9 okX5 7 rfl wF_X5_38 (is5 hnn) dX5_advance_109 ?_
          obtain ⟨g_9, h⟩ := h
          refine b_iald (pc := 112) X9 (ar5_0 hnn) (Nat.le_of_ble_eq_true rfl) g_9 dX5_advance_112 ?_
          refine a_callS (pc := 113) X9 E (m_X5_isLetter (hG_15 _ _) hnn h) wM_X5_180 w_static_X5_isLetter w_initialized_RX5 w_code_X5_isLetter cp_X5_isLetter pn_X5_isLetter rfl (Nat.le_of_ble_eq_true rfl) ⟨Nat.le_of_ble_eq_true rfl, Nat.le_of_ble_eq_true rfl⟩ ⟨Nat.le_of_ble_eq_true rfl, Nat.le_of_ble_eq_true rfl⟩ dX5_advance_113 (fun _ _ q => False.elim q) (kZp (fun r_4 hr_4 h => ?_))
          refine a_if_eq (pc := 116) (tgt := 253) X9 dX5_advance_116 rfl (bool_inR hr_4) (fun c => ?_) (fun c => ?_)
          · have c_9 := c
            have h := h.1 c_9
            exact a_return (pc := 253) X9 E (Nat.le_of_ble_eq_true rfl) (Nat.le_of_ble_eq_true rfl) dX5_advance_253 ⟨rfl, rfl, h⟩
          · have c_9 := c
            have h := h.2 c_9
            refine a_aload_n (pc := 119) X9 dX5_advance_119 rfl rfl ?_
            refine a_dup (pc := 120) X9 dX5_advance_120 rfl ?_
            refine a_getI (pc := 121) X9 okX5 7 rfl wF_X5_38 (is5 hnn) dX5_advance_121 ?_
            refine a_iconst (pc := 124) X9 dX5_advance_124 ?_
            refine a_iadd (pc := 125) X9 dX5_advance_125 ?_
            have q_3 : inR ((G_15 41 1)) := (hG_15 _ _)
            have q_4 : inR ((G_15 41 7)) := (hG_15 _ _)
            have g_10 : inR (((G_15 41 7) + 1)) := ⟨by omega, by omega⟩
            refine a_putI (pc := 126) X9 okX5 7 rfl rfl (v := ((G_15 41 7) + 1)) wF_X5_38 (is5 hnn) dX5_advance_126 g_10 (fit_int _) (fun _ => ?_)
            obtain ⟨G_16, eG_16⟩ : ∃ G9, G9 = upG G_15 41 7 ((G_15 41 7) + 1) := ⟨_, rfl⟩
            have hG_16 : GR G_16 := by rw [eG_16]; exact (GR.up hG_15 g_10)
            have h := h G_16 eG_16
            rw [← eG_16]
            refine a_goto (pc := 129) (tgt := 93) X9 dX5_advance_129 rfl ?_
            exact hk_3 _ h hG_16
    · have c_3 := c
      have h := h.2 c_3
      refine a_aload_n (pc := 65) X9 dX5_advance_65 rfl rfl ?_
      refine a_iconst (pc := 66) X9 dX5_advance_66 ?_
      refine a_putI (pc := 67) X9 okX5 5 rfl rfl (v := 0) wF_X5_55 (is5 hnn) dX5_advance_67 (by decide) (fit_int _) (fun _ => ?_)
      obtain ⟨G_17, eG_17⟩ : ∃ G9, G9 = upG G_5 41 5 0 := ⟨_, rfl⟩
      have hG_17 : GR G_17 := by rw [eG_17]; exact (GR.up hG_5 (by decide))
      have h := h G_17 eG_17
      rw [← eG_17]
      refine a_goto (pc := 70) (tgt := 253) X9 dX5_advance_70 rfl ?_
      exact a_return (pc := 253) X9 E (Nat.le_of_ble_eq_true rfl) (Nat.le_of_ble_eq_true rfl) dX5_advance_253 ⟨rfl, rfl, h⟩
  · refine loopM1 (A := fun G_18 => GR G_18 → AW κ δ ρ0 (szF nn) 1 0 0 8 [some (vr 41)] [] (SF nn) G_18) (fun k_4 hk_4 G_18 h hG_18 => ?_) _ h hG_1
    refine a_aload_n (pc := 8) X9 dX5_advance_8 rfl rfl ?_
    refine a_getI (pc := 9) X9 okX5 6 rfl wF_X5_61 (is5 hnn) dX5_advance_9 ?_
    refine a_aload_n (pc := 12) X9 dX5_advance_12 rfl rfl ?_
    refine a_getI (pc := 13) X9 okX5 1 rfl wF_X5_20 (is5 hnn) dX5_advance_13 ?_
    refine a_icmp_ge (pc := 16) (tgt := 46) X9 dX5_advance_16 rfl (hG_18 _ _) (hG_18 _ _) (fun c => ?_) (fun c => ?_)
    · have c_10 := c
      have h := h.1 c_10
      exact hj_1 _ h hG_18
    · have c_10 := c
      have h := h.2 c_10
      refine a_aload_n (pc := 19) X9 dX5_advance_19 rfl rfl ?_
      refine a_getR (pc := 20) X9 (q := 42) okX5 0 rfl wF_X5_9 (is5 hnn) rf5_0 dX5_advance_20 ?_
      refine a_aload_n (pc := 23) X9 dX5_advance_23 rfl rfl ?_
      refine a_getI (pc := 24) X9 okX5 6 rfl wF_X5_61 (is5 hnn) dX5_advance_24 ?_
      obtain ⟨g_11, h⟩ := h
      refine b_iald (pc := 27) X9 (ar5_0 hnn) (Nat.le_of_ble_eq_true rfl) g_11 dX5_advance_27 ?_
      refine a_bipush (pc := 28) X9 dX5_advance_28 rfl ?_
      refine a_icmp_ne (pc := 30) (tgt := 46) X9 dX5_advance_30 rfl (hG_18 _ _) (by decide) (fun c => ?_) (fun c => ?_)
      · have c_11 := c
        have h := h.1 c_11
        exact hj_1 _ h hG_18
      · have c_11 := c
        have h := h.2 c_11
        refine a_aload_n (pc := 33) X9 dX5_advance_33 rfl rfl ?_
        refine a_dup (pc := 34) X9 dX5_advance_34 rfl ?_
        refine a_getI (pc := 35) X9 okX5 6 rfl wF_X5_61 (is5 hnn) dX5_advance_35 ?_
        refine a_iconst (pc := 38) X9 dX5_advance_38 ?_
        refine a_iadd (pc := 39) X9 dX5_advance_39 ?_
        have q_5 : inR ((G_18 41 1)) := (hG_18 _ _)
        have q_6 : inR ((G_18 41 6)) := (hG_18 _ _)
        have g_12 : inR (((G_18 41 6) + 1)) := ⟨by omega, by omega⟩
        refine a_putI (pc := 40) X9 okX5 6 rfl rfl (v := ((G_18 41 6) + 1)) wF_X5_61 (is5 hnn) dX5_advance_40 g_12 (fit_int _) (fun _ => ?_)
        obtain ⟨G_19, eG_19⟩ : ∃ G9, G9 = upG G_18 41 6 ((G_18 41 6) + 1) := ⟨_, rfl⟩
        have hG_19 : GR G_19 := by rw [eG_19]; exact (GR.up hG_18 g_12)
        have h := h G_19 eG_19
        rw [← eG_19]
        refine a_goto (pc := 43) (tgt := 8) X9 dX5_advance_43 rfl ?_
        exact hk_4 _ h hG_19
set_option maxHeartbeats 4000000 in
set_option maxRecDepth 100000 in
theorem m_X5_isWord {nn : Nat} {w1 : Nat} {G : GH} {Q : Int → Prop} (hw1 : w1 < 15) (hnn : 272 ≤ nn) (h : f_X5_isWord w1 G Q) : Mt yX5_isWord cX5_isWord 3 (some .boolean) 4 85 0 0 [vr 41, vr (strB + w1)] (SF nn) G (fun v S' G' => S' = SF nn ∧ qZ (fun r9 G9 => G9 = G ∧ Q r9) v S' G') (fun E S' G' => S' = SF nn ∧ False) := by
  refine Mt.of (l0 := [some (vr 41), some (vr (strB + w1)), none]) (by decide) (Nat.le_of_ble_eq_true rfl) rfl ?_
  intro κ δ ρ0 X9 E hG
  replace X9 : CX κ δ RX5 cX5_isWord 3 (some .boolean) := X9
  refine a_aload_n (pc := 0) X9 dX5_isWord_0 rfl rfl ?_
  refine a_getI (pc := 1) X9 okX5 5 rfl wF_X5_55 (is5 hnn) dX5_isWord_1 ?_
  refine a_iconst (pc := 4) X9 dX5_isWord_4 ?_
  refine a_icmp_ne (pc := 5) (tgt := 24) X9 dX5_isWord_5 rfl (hG _ _) (by decide) (fun c => ?_) (fun c => ?_)
  · have c_1 := c
    have h := h.1 c_1
    refine a_iconst (pc := 24) X9 dX5_isWord_24 ?_
    exact a_ireturn (pc := 25) X9 E rfl (fit_bool (Or.inl rfl)).1 (Nat.le_of_ble_eq_true rfl) (Nat.le_of_ble_eq_true rfl) dX5_isWord_25 ⟨rfl, _, rfl, (Or.inl rfl), rfl, h⟩
  · have c_1 := c
    have h := h.2 c_1
    refine a_aload_n (pc := 8) X9 dX5_isWord_8 rfl rfl ?_
    refine a_getI (pc := 9) X9 okX5 7 rfl wF_X5_38 (is5 hnn) dX5_isWord_9 ?_
    refine a_aload_n (pc := 12) X9 dX5_isWord_12 rfl rfl ?_
    refine a_getI (pc := 13) X9 okX5 6 rfl wF_X5_61 (is5 hnn) dX5_isWord_13 ?_
    refine a_isub (pc := 16) X9 dX5_isWord_16 ?_
    refine a_aload_n (pc := 17) X9 dX5_isWord_17 rfl rfl ?_
    refine b_slen (pc := 18) X9 E hw1 wM_X5_168 (Nat.le_of_ble_eq_true rfl) ⟨Nat.le_of_ble_eq_true rfl, Nat.le_of_ble_eq_true rfl⟩ ⟨Nat.le_of_ble_eq_true rfl, Nat.le_of_ble_eq_true rfl⟩ dX5_isWord_18 ?_
    obtain ⟨g_1, h⟩ := h
    refine a_icmp_eq (pc := 21) (tgt := 26) X9 dX5_isWord_21 rfl g_1 slen_inR (fun c => ?_) (fun c => ?_)
    · have c_2 := c
      have h := h.1 c_2
      refine a_iconst (pc := 26) X9 dX5_isWord_26 ?_
      refine a_istore_n (pc := 27) X9 dX5_isWord_27 rfl (Nat.le_of_ble_eq_true rfl) rfl rfl ?_
      refine loopM1 (A := fun x2_1 => inR x2_1 → AW κ δ ρ0 (szF nn) 3 0 0 28 [some (vr 41), some (vr (strB + w1)), some (vi x2_1)] [] (SF nn) G) (fun k_1 hk_1 x2_1 h h_x2_1 => ?_) _ h (by decide)
      refine a_iload_n (pc := 28) X9 dX5_isWord_28 rfl rfl ?_
      refine a_aload_n (pc := 29) X9 dX5_isWord_29 rfl rfl ?_
      refine b_slen (pc := 30) X9 E hw1 wM_X5_168 (Nat.le_of_ble_eq_true rfl) ⟨Nat.le_of_ble_eq_true rfl, Nat.le_of_ble_eq_true rfl⟩ ⟨Nat.le_of_ble_eq_true rfl, Nat.le_of_ble_eq_true rfl⟩ dX5_isWord_30 ?_
      refine a_icmp_ge (pc := 33) (tgt := 63) X9 dX5_isWord_33 rfl h_x2_1 slen_inR (fun c => ?_) (fun c => ?_)
      · have c_3 := c
        have h := h.1 c_3
        refine a_iconst (pc := 63) X9 dX5_isWord_63 ?_
        exact a_ireturn (pc := 64) X9 E rfl (fit_bool (Or.inr rfl)).1 (Nat.le_of_ble_eq_true rfl) (Nat.le_of_ble_eq_true rfl) dX5_isWord_64 ⟨rfl, _, rfl, (Or.inr rfl), rfl, h⟩
      · have c_3 := c
        have h := h.2 c_3
        refine a_aload_n (pc := 36) X9 dX5_isWord_36 rfl rfl ?_
        refine a_getR (pc := 37) X9 (q := 42) okX5 0 rfl wF_X5_9 (is5 hnn) rf5_0 dX5_isWord_37 ?_
        refine a_aload_n (pc := 40) X9 dX5_isWord_40 rfl rfl ?_
        refine a_getI (pc := 41) X9 okX5 6 rfl wF_X5_61 (is5 hnn) dX5_isWord_41 ?_
        refine a_iload_n (pc := 44) X9 dX5_isWord_44 rfl rfl ?_
        refine a_iadd (pc := 45) X9 dX5_isWord_45 ?_
        obtain ⟨g_2, h⟩ := h
        refine b_iald (pc := 46) X9 (ar5_0 hnn) (Nat.le_of_ble_eq_true rfl) g_2 dX5_isWord_46 ?_
        refine a_aload_n (pc := 47) X9 dX5_isWord_47 rfl rfl ?_
        refine a_iload_n (pc := 48) X9 dX5_isWord_48 rfl rfl ?_
        obtain ⟨g_3, h⟩ := h
        refine b_schr (pc := 49) X9 E hw1 g_3 wM_X5_172 (Nat.le_of_ble_eq_true rfl) ⟨Nat.le_of_ble_eq_true rfl, Nat.le_of_ble_eq_true rfl⟩ ⟨Nat.le_of_ble_eq_true rfl, Nat.le_of_ble_eq_true rfl⟩ dX5_isWord_49 ?_
        refine a_icmp_eq (pc := 52) (tgt := 57) X9 dX5_isWord_52 rfl (hG _ _) schr_inR (fun c => ?_) (fun c => ?_)
        · have c_4 := c
          have h := h.1 c_4
          refine a_iinc (pc := 57) X9 dX5_isWord_57 rfl (Nat.le_of_ble_eq_true rfl) rfl rfl ?_
          refine a_goto (pc := 60) (tgt := 28) X9 dX5_isWord_60 rfl ?_
          have q_1 : inR ((slen w1)) := slen_inR
          have q_2 : inR (x2_1) := h_x2_1
          have g_4 : inR ((x2_1 + 1)) := ⟨by omega, by omega⟩
          exact hk_1 _ h g_4
        · have c_4 := c
          have h := h.2 c_4
          refine a_iconst (pc := 55) X9 dX5_isWord_55 ?_
          exact a_ireturn (pc := 56) X9 E rfl (fit_bool (Or.inl rfl)).1 (Nat.le_of_ble_eq_true rfl) (Nat.le_of_ble_eq_true rfl) dX5_isWord_56 ⟨rfl, _, rfl, (Or.inl rfl), rfl, h⟩
    · have c_2 := c
      have h := h.2 c_2
      refine a_iconst (pc := 24) X9 dX5_isWord_24 ?_
      exact a_ireturn (pc := 25) X9 E rfl (fit_bool (Or.inl rfl)).1 (Nat.le_of_ble_eq_true rfl) (Nat.le_of_ble_eq_true rfl) dX5_isWord_25 ⟨rfl, _, rfl, (Or.inl rfl), rfl, h⟩
set_option maxHeartbeats 4000000 in
set_option maxRecDepth 100000 in
theorem m_X5_fail {nn : Nat} {i1 : Int} {G : GH} {Q : Int → GH → Prop} (hi1 : inR i1) (hnn : 272 ≤ nn) (h : f_X5_fail i1 G Q) : Mt yX5_fail cX5_fail 2 (some .boolean) 0 0 0 0 [vr 41, vi i1] (SF nn) G (fun v S' G' => S' = SF nn ∧ qZ Q v S' G') (fun E S' G' => S' = SF nn ∧ False) := by
  refine Mt.of (l0 := [some (vr 41), some (vi i1)]) (by decide) (Nat.le_of_ble_eq_true rfl) rfl ?_
  intro κ δ ρ0 X9 E hG
  replace X9 : CX κ δ RX5 cX5_fail 2 (some .boolean) := X9
  refine a_aload_n (pc := 0) X9 dX5_fail_0 rfl rfl ?_
  refine a_iload_n (pc := 1) X9 dX5_fail_1 rfl rfl ?_
  refine a_putI (pc := 2) X9 okX5 2 rfl rfl (v := i1) wF_X5_29 (is5 hnn) dX5_fail_2 hi1 (fit_int _) (fun _ => ?_)
  obtain ⟨G_1, eG_1⟩ : ∃ G9, G9 = upG G 41 2 i1 := ⟨_, rfl⟩
  have hG_1 : GR G_1 := by rw [eG_1]; exact (GR.up hG hi1)
  have h := h G_1 eG_1
  rw [← eG_1]
  refine a_aload_n (pc := 5) X9 dX5_fail_5 rfl rfl ?_
  refine a_aload_n (pc := 6) X9 dX5_fail_6 rfl rfl ?_
  refine a_getI (pc := 7) X9 okX5 6 rfl wF_X5_61 (is5 hnn) dX5_fail_7 ?_
  refine a_putI (pc := 10) X9 okX5 3 rfl rfl (v := (G_1 41 6)) wF_X5_32 (is5 hnn) dX5_fail_10 (hG_1 _ _) (fit_int _) (fun _ => ?_)
  obtain ⟨G_2, eG_2⟩ : ∃ G9, G9 = upG G_1 41 3 (G_1 41 6) := ⟨_, rfl⟩
  have hG_2 : GR G_2 := by rw [eG_2]; exact (GR.up hG_1 (hG_1 _ _))
  have h := h G_2 eG_2
  rw [← eG_2]
  refine a_iconst (pc := 13) X9 dX5_fail_13 ?_
  exact a_ireturn (pc := 14) X9 E rfl (fit_bool (Or.inl rfl)).1 (Nat.le_of_ble_eq_true rfl) (Nat.le_of_ble_eq_true rfl) dX5_fail_14 ⟨rfl, _, rfl, (Or.inl rfl), h⟩
set_option maxHeartbeats 4000000 in
set_option maxRecDepth 100000 in
theorem m_X9_within {nn : Nat} {i0 : Int} {i1 : Int} {i2 : Int} {G : GH} {Q : Int → Prop} (hi0 : inR i0) (hi1 : inR i1) (hi2 : inR i2) (hnn : 272 ≤ nn) (h : f_X9_within i0 i1 i2 Q) : Mt yX9_within cX9_within 3 (some .boolean) 0 0 0 0 [vi i0, vi i1, vi i2] (SF nn) G (fun v S' G' => S' = SF nn ∧ qZ (fun r9 G9 => G9 = G ∧ Q r9) v S' G') (fun E S' G' => S' = SF nn ∧ False) := by
  refine Mt.of (l0 := [some (vi i0), some (vi i1), some (vi i2)]) (by decide) (Nat.le_of_ble_eq_true rfl) rfl ?_
  intro κ δ ρ0 X9 E hG
  replace X9 : CX κ δ RX9 cX9_within 3 (some .boolean) := X9
  refine a_iload_n (pc := 0) X9 dX9_within_0 rfl rfl ?_
  refine a_iload_n (pc := 1) X9 dX9_within_1 rfl rfl ?_
  refine a_icmp_lt (pc := 2) (tgt := 14) X9 dX9_within_2 rfl hi0 hi1 (fun c => ?_) (fun c => ?_)
  · have c_1 := c
    have h := h.1 c_1
    refine a_iconst (pc := 14) X9 dX9_within_14 ?_
    exact a_ireturn (pc := 15) X9 E rfl (fit_bool (Or.inl rfl)).1 (Nat.le_of_ble_eq_true rfl) (Nat.le_of_ble_eq_true rfl) dX9_within_15 ⟨rfl, _, rfl, (Or.inl rfl), rfl, h⟩
  · have c_1 := c
    have h := h.2 c_1
    refine a_iload_n (pc := 5) X9 dX9_within_5 rfl rfl ?_
    refine a_iload_n (pc := 6) X9 dX9_within_6 rfl rfl ?_
    refine a_icmp_gt (pc := 7) (tgt := 14) X9 dX9_within_7 rfl hi0 hi2 (fun c => ?_) (fun c => ?_)
    · have c_2 := c
      have h := h.1 c_2
      refine a_iconst (pc := 14) X9 dX9_within_14 ?_
      exact a_ireturn (pc := 15) X9 E rfl (fit_bool (Or.inl rfl)).1 (Nat.le_of_ble_eq_true rfl) (Nat.le_of_ble_eq_true rfl) dX9_within_15 ⟨rfl, _, rfl, (Or.inl rfl), rfl, h⟩
    · have c_2 := c
      have h := h.2 c_2
      refine a_iconst (pc := 10) X9 dX9_within_10 ?_
      refine a_goto (pc := 11) (tgt := 15) X9 dX9_within_11 rfl ?_
      exact a_ireturn (pc := 15) X9 E rfl (fit_bool (Or.inr rfl)).1 (Nat.le_of_ble_eq_true rfl) (Nat.le_of_ble_eq_true rfl) dX9_within_15 ⟨rfl, _, rfl, (Or.inr rfl), rfl, h⟩
set_option maxHeartbeats 4000000 in
set_option maxRecDepth 100000 in
theorem m_X5_isNumber {nn : Nat} {i1 : Int} {i2 : Int} {G : GH} {Q : Int → GH → Prop} (hi1 : inR i1) (hi2 : inR i2) (hnn : 272 ≤ nn) (h : f_X5_isNumber i1 i2 G Q) : Mt yX5_isNumber cX5_isNumber 3 (some .boolean) 1 22 0 0 [vr 41, vi i1, vi i2] (SF nn) G (fun v S' G' => S' = SF nn ∧ qZ Q v S' G') (fun E S' G' => S' = SF nn ∧ False) := by
  refine Mt.of (l0 := [some (vr 41), some (vi i1), some (vi i2)]) (by decide) (Nat.le_of_ble_eq_true rfl) rfl ?_
  intro κ δ ρ0 X9 E hG
  replace X9 : CX κ δ RX5 cX5_isNumber 3 (some .boolean) := X9
  refine a_aload_n (pc := 0) X9 dX5_isNumber_0 rfl rfl ?_
  refine a_getI (pc := 1) X9 okX5 5 rfl wF_X5_55 (is5 hnn) dX5_isNumber_1 ?_
  refine a_iconst (pc := 4) X9 dX5_isNumber_4 ?_
  refine a_icmp_eq (pc := 5) (tgt := 14) X9 dX5_isNumber_5 rfl (hG _ _) (by decide) (fun c => ?_) (fun c => ?_)
  · have c_1 := c
    have h := h.1 c_1
    refine a_aload_n (pc := 14) X9 dX5_isNumber_14 rfl rfl ?_
    refine a_getI (pc := 15) X9 okX5 8 rfl wF_X5_102 (is5 hnn) dX5_isNumber_15 ?_
    refine a_iload_n (pc := 18) X9 dX5_isNumber_18 rfl rfl ?_
    refine a_iload_n (pc := 19) X9 dX5_isNumber_19 rfl rfl ?_
    refine a_callSN (pc := 20) X9 E (m_X9_within (hG _ _) hi1 hi2 hnn h) nx_X5_176 w_static_X9_within w_initialized_RX9 w_code_X9_within cp_X9_within pn_X9_within rfl (Nat.le_of_ble_eq_true rfl) ⟨Nat.le_of_ble_eq_true rfl, Nat.le_of_ble_eq_true rfl⟩ ⟨Nat.le_of_ble_eq_true rfl, Nat.le_of_ble_eq_true rfl⟩ dX5_isNumber_20 (fun _ _ q => False.elim q) (kZp (fun r_1 hr_1 h => ?_))
    refine a_if_ne (pc := 23) (tgt := 34) X9 dX5_isNumber_23 rfl (bool_inR hr_1) (fun c => ?_) (fun c => ?_)
    · have c_2 := c
      have h := h.1 c_2
      refine a_iconst (pc := 34) X9 dX5_isNumber_34 ?_
      refine a_goto (pc := 35) (tgt := 39) X9 dX5_isNumber_35 rfl ?_
      exact a_ireturn (pc := 39) X9 E rfl (fit_bool (Or.inr rfl)).1 (Nat.le_of_ble_eq_true rfl) (Nat.le_of_ble_eq_true rfl) dX5_isNumber_39 ⟨rfl, _, rfl, (Or.inr rfl), h⟩
    · have c_2 := c
      have h := h.2 c_2
      refine a_aload_n (pc := 26) X9 dX5_isNumber_26 rfl rfl ?_
      refine a_iconst (pc := 27) X9 dX5_isNumber_27 ?_
      refine a_callV (pc := 28) X9 E (m_X5_fail (show inR 2 by decide) hnn h) okX5 (is5 hnn) wM_X5_58 w_instanceMethod_X5_fail w_selects_X5_fail w_initialized_RX5 w_code_X5_fail cp_X5_fail pn_X5_fail rfl (Nat.le_of_ble_eq_true rfl) ⟨Nat.le_of_ble_eq_true rfl, Nat.le_of_ble_eq_true rfl⟩ ⟨Nat.le_of_ble_eq_true rfl, Nat.le_of_ble_eq_true rfl⟩ dX5_isNumber_28 (fun _ _ q => False.elim q) (kZ (fun r_2 G_1 hr_2 h hG_1 => ?_))
      refine a_if_eq (pc := 31) (tgt := 38) X9 dX5_isNumber_31 rfl (bool_inR hr_2) (fun c => ?_) (fun c => ?_)
      · have c_3 := c
        have h := h.1 c_3
        refine a_iconst (pc := 38) X9 dX5_isNumber_38 ?_
        exact a_ireturn (pc := 39) X9 E rfl (fit_bool (Or.inl rfl)).1 (Nat.le_of_ble_eq_true rfl) (Nat.le_of_ble_eq_true rfl) dX5_isNumber_39 ⟨rfl, _, rfl, (Or.inl rfl), h⟩
      · have c_3 := c
        have h := h.2 c_3
        refine a_iconst (pc := 34) X9 dX5_isNumber_34 ?_
        refine a_goto (pc := 35) (tgt := 39) X9 dX5_isNumber_35 rfl ?_
        exact a_ireturn (pc := 39) X9 E rfl (fit_bool (Or.inr rfl)).1 (Nat.le_of_ble_eq_true rfl) (Nat.le_of_ble_eq_true rfl) dX5_isNumber_39 ⟨rfl, _, rfl, (Or.inr rfl), h⟩
  · have c_1 := c
    have h := h.2 c_1
    refine a_aload_n (pc := 8) X9 dX5_isNumber_8 rfl rfl ?_
    refine a_iconst (pc := 9) X9 dX5_isNumber_9 ?_
    refine a_callV (pc := 10) X9 E (m_X5_fail (show inR 1 by decide) hnn h) okX5 (is5 hnn) wM_X5_58 w_instanceMethod_X5_fail w_selects_X5_fail w_initialized_RX5 w_code_X5_fail cp_X5_fail pn_X5_fail rfl (Nat.le_of_ble_eq_true rfl) ⟨Nat.le_of_ble_eq_true rfl, Nat.le_of_ble_eq_true rfl⟩ ⟨Nat.le_of_ble_eq_true rfl, Nat.le_of_ble_eq_true rfl⟩ dX5_isNumber_10 (fun _ _ q => False.elim q) (kZ (fun r_3 G_2 hr_3 h hG_2 => ?_))
    exact a_ireturn (pc := 13) X9 E rfl (fit_bool hr_3).1 (Nat.le_of_ble_eq_true rfl) (Nat.le_of_ble_eq_true rfl) dX5_isNumber_13 ⟨rfl, _, rfl, hr_3, h⟩
set_option maxHeartbeats 4000000 in
set_option maxRecDepth 100000 in
theorem m_X5_readBoards {nn : Nat} {a1 : Nat} {G : GH} {Q : Int → GH → Prop} (ha1 : a1 ∈ L7) (hnn : 272 ≤ nn) (h : f_X5_readBoards a1 G Q) : Mt yX5_readBoards cX5_readBoards 3 (some .boolean) 5 107 0 0 [vr 41, vr a1] (SF nn) G (fun v S' G' => S' = SF nn ∧ qZ Q v S' G') (fun E S' G' => S' = SF nn ∧ False) := by
  refine Mt.of (l0 := [some (vr 41), some (vr a1), none]) (by decide) (Nat.le_of_ble_eq_true rfl) rfl ?_
  intro κ δ ρ0 X9 E hG
  replace X9 : CX κ δ RX5 cX5_readBoards 3 (some .boolean) := X9
  refine a_aload_n (pc := 0) X9 dX5_readBoards_0 rfl rfl ?_
  refine b_ldcs (pc := 1) X9 (i := 0) (List.mem_of_getElem? (i := 0) rfl) dX5_readBoards_1 ?_
  refine a_callV (pc := 3) X9 E (m_X5_isWord (Nat.le_of_ble_eq_true rfl) hnn h) okX5 (is5 hnn) wM_X5_66 w_instanceMethod_X5_isWord w_selects_X5_isWord w_initialized_RX5 w_code_X5_isWord cp_X5_isWord pn_X5_isWord rfl (Nat.le_of_ble_eq_true rfl) ⟨Nat.le_of_ble_eq_true rfl, Nat.le_of_ble_eq_true rfl⟩ ⟨Nat.le_of_ble_eq_true rfl, Nat.le_of_ble_eq_true rfl⟩ dX5_readBoards_3 (fun _ _ q => False.elim q) (kZp (fun r_1 hr_1 h => ?_))
  refine a_if_ne (pc := 6) (tgt := 15) X9 dX5_readBoards_6 rfl (bool_inR hr_1) (fun c => ?_) (fun c => ?_)
  · have c_1 := c
    have h := h.1 c_1
    refine a_aload_n (pc := 15) X9 dX5_readBoards_15 rfl rfl ?_
    refine a_callV (pc := 16) X9 E (m_X5_advance  hnn h) okX5 (is5 hnn) wM_X5_41 w_instanceMethod_X5_advance w_selects_X5_advance w_initialized_RX5 w_code_X5_advance cp_X5_advance pn_X5_advance rfl (Nat.le_of_ble_eq_true rfl) ⟨Nat.le_of_ble_eq_true rfl, Nat.le_of_ble_eq_true rfl⟩ ⟨Nat.le_of_ble_eq_true rfl, Nat.le_of_ble_eq_true rfl⟩ dX5_readBoards_16 (fun _ _ q => False.elim q) (kV (fun G_1 h hG_1 => ?_))
    refine a_iconst (pc := 19) X9 dX5_readBoards_19 ?_
    refine a_istore_n (pc := 20) X9 dX5_readBoards_20 rfl (Nat.le_of_ble_eq_true rfl) rfl rfl ?_
    refine joinM1 (A := fun G_13 => GR G_13 → AW κ δ ρ0 (szF nn) 3 0 0 91 [some (vr 41), some (vr a1), none] [] (SF nn) G_13) (fun G_13 h hG_13 => ?_) (fun j_1 hj_1 h => ?_) h
    · refine a_aload_n (pc := 91) X9 dX5_readBoards_91 rfl rfl ?_
      refine b_ldcs (pc := 92) X9 (i := 1) (List.mem_of_getElem? (i := 1) rfl) dX5_readBoards_92 ?_
      refine a_callV (pc := 94) X9 E (m_X5_isWord (Nat.le_of_ble_eq_true rfl) hnn h) okX5 (is5 hnn) wM_X5_66 w_instanceMethod_X5_isWord w_selects_X5_isWord w_initialized_RX5 w_code_X5_isWord cp_X5_isWord pn_X5_isWord rfl (Nat.le_of_ble_eq_true rfl) ⟨Nat.le_of_ble_eq_true rfl, Nat.le_of_ble_eq_true rfl⟩ ⟨Nat.le_of_ble_eq_true rfl, Nat.le_of_ble_eq_true rfl⟩ dX5_readBoards_94 (fun _ _ q => False.elim q) (kZp (fun r_9 hr_9 h => ?_))
      refine joinM1 (A := fun G_16 => GR G_16 → AW κ δ ρ0 (szF nn) 3 0 0 112 [some (vr 41), some (vr a1), none] [] (SF nn) G_16) (fun G_16 h hG_16 => ?_) (fun j_2 hj_2 h => ?_) h
      · refine a_aload_n (pc := 112) X9 dX5_readBoards_112 rfl rfl ?_
        refine b_ldcs (pc := 113) X9 (i := 2) (List.mem_of_getElem? (i := 2) rfl) dX5_readBoards_113 ?_
        refine a_callV (pc := 115) X9 E (m_X5_isWord (Nat.le_of_ble_eq_true rfl) hnn h) okX5 (is5 hnn) wM_X5_66 w_instanceMethod_X5_isWord w_selects_X5_isWord w_initialized_RX5 w_code_X5_isWord cp_X5_isWord pn_X5_isWord rfl (Nat.le_of_ble_eq_true rfl) ⟨Nat.le_of_ble_eq_true rfl, Nat.le_of_ble_eq_true rfl⟩ ⟨Nat.le_of_ble_eq_true rfl, Nat.le_of_ble_eq_true rfl⟩ dX5_readBoards_115 (fun _ _ q => False.elim q) (kZp (fun r_11 hr_11 h => ?_))
        refine a_if_eq (pc := 118) (tgt := 130) X9 dX5_readBoards_118 rfl (bool_inR hr_11) (fun c => ?_) (fun c => ?_)
        · have c_10 := c
          have h := h.1 c_10
          refine a_iconst (pc := 130) X9 dX5_readBoards_130 ?_
          exact a_ireturn (pc := 131) X9 E rfl (fit_bool (Or.inr rfl)).1 (Nat.le_of_ble_eq_true rfl) (Nat.le_of_ble_eq_true rfl) dX5_readBoards_131 ⟨rfl, _, rfl, (Or.inr rfl), h⟩
        · have c_10 := c
          have h := h.2 c_10
          refine a_aload_n (pc := 121) X9 dX5_readBoards_121 rfl rfl ?_
          refine a_iconst (pc := 122) X9 dX5_readBoards_122 ?_
          refine a_putI (pc := 123) X9 okX7 2 rfl rfl (v := 1) wF_X5_117 (is7 ha1 hnn) dX5_readBoards_123 (bool_inR (Or.inr rfl)) (fit_bool (Or.inr rfl)) (fun _ => ?_)
          obtain ⟨G_17, eG_17⟩ : ∃ G9, G9 = upG G_16 a1 2 1 := ⟨_, rfl⟩
          have hG_17 : GR G_17 := by rw [eG_17]; exact (GR.up hG_16 (bool_inR (Or.inr rfl)))
          have h := h G_17 eG_17
          rw [← eG_17]
          refine a_aload_n (pc := 126) X9 dX5_readBoards_126 rfl rfl ?_
          refine a_callV (pc := 127) X9 E (m_X5_advance  hnn h) okX5 (is5 hnn) wM_X5_41 w_instanceMethod_X5_advance w_selects_X5_advance w_initialized_RX5 w_code_X5_advance cp_X5_advance pn_X5_advance rfl (Nat.le_of_ble_eq_true rfl) ⟨Nat.le_of_ble_eq_true rfl, Nat.le_of_ble_eq_true rfl⟩ ⟨Nat.le_of_ble_eq_true rfl, Nat.le_of_ble_eq_true rfl⟩ dX5_readBoards_127 (fun _ _ q => False.elim q) (kV (fun G_18 h hG_18 => ?_))
          refine a_iconst (pc := 130) X9 dX5_readBoards_130 ?_
          exact a_ireturn (pc := 131) X9 E rfl (fit_bool (Or.inr rfl)).1 (Nat.le_of_ble_eq_true rfl) (Nat.le_of_ble_eq_true rfl) dX5_readBoards_131 ⟨rfl, _, rfl, (Or.inr rfl), h⟩
      · refine a_if_eq (pc := 97) (tgt := 112) X9 dX5_readBoards_97 rfl (bool_inR hr_9) (fun c => ?_) (fun c => ?_)
        · have c_11 := c
          have h := h.1 c_11
          exact hj_2 _ h hG_13
        · have c_11 := c
          have h := h.2 c_11
          refine a_aload_n (pc := 100) X9 dX5_readBoards_100 rfl rfl ?_
          refine a_getR (pc := 101) X9 (q := (a1 + 2)) okX7 3 rfl wF_X5_70 (is7 ha1 hnn) (rf7_3 _ ha1) dX5_readBoards_101 ?_
          refine a_iconst (pc := 104) X9 dX5_readBoards_104 ?_
          refine a_putI (pc := 105) X9 okX8 0 rfl rfl (v := 1) wF_X5_110 (is8 (su7_3 _ ha1) hnn) dX5_readBoards_105 (bool_inR (Or.inr rfl)) (fit_bool (Or.inr rfl)) (fun _ => ?_)
          obtain ⟨G_19, eG_19⟩ : ∃ G9, G9 = upG G_13 (a1 + 2) 0 1 := ⟨_, rfl⟩
          have hG_19 : GR G_19 := by rw [eG_19]; exact (GR.up hG_13 (bool_inR (Or.inr rfl)))
          have h := h G_19 eG_19
          rw [← eG_19]
          refine a_aload_n (pc := 108) X9 dX5_readBoards_108 rfl rfl ?_
          refine a_callV (pc := 109) X9 E (m_X5_advance  hnn h) okX5 (is5 hnn) wM_X5_41 w_instanceMethod_X5_advance w_selects_X5_advance w_initialized_RX5 w_code_X5_advance cp_X5_advance pn_X5_advance rfl (Nat.le_of_ble_eq_true rfl) ⟨Nat.le_of_ble_eq_true rfl, Nat.le_of_ble_eq_true rfl⟩ ⟨Nat.le_of_ble_eq_true rfl, Nat.le_of_ble_eq_true rfl⟩ dX5_readBoards_109 (fun _ _ q => False.elim q) (kV (fun G_20 h hG_20 => ?_))
          exact hj_2 _ h hG_20
    · refine loopM2 (A := fun x2_2 G_21 => inR x2_2 → GR G_21 → AW κ δ ρ0 (szF nn) 3 0 0 21 [some (vr 41), some (vr a1), some (vi x2_2)] [] (SF nn) G_21) (fun k_2 hk_2 x2_2 G_21 h h_x2_2 hG_21 => ?_) _ _ h (by decide) hG_1
      refine a_iload_n (pc := 21) X9 dX5_readBoards_21 rfl rfl ?_
      refine a_if_eq (pc := 22) (tgt := 38) X9 dX5_readBoards_22 rfl h_x2_2 (fun c => ?_) (fun c => ?_)
      · have c_12 := c
        have h := h.1 c_12
        refine a_aload_n (pc := 38) X9 dX5_readBoards_38 rfl rfl ?_
        refine a_iconst (pc := 39) X9 dX5_readBoards_39 ?_
        refine a_bipush (pc := 40) X9 dX5_readBoards_40 rfl ?_
        refine a_callV (pc := 42) X9 E (m_X5_isNumber (show inR 1 by decide) (show inR 6 by decide) hnn h) okX5 (is5 hnn) wM_X5_95 w_instanceMethod_X5_isNumber w_selects_X5_isNumber w_initialized_RX5 w_code_X5_isNumber cp_X5_isNumber pn_X5_isNumber rfl (Nat.le_of_ble_eq_true rfl) ⟨Nat.le_of_ble_eq_true rfl, Nat.le_of_ble_eq_true rfl⟩ ⟨Nat.le_of_ble_eq_true rfl, Nat.le_of_ble_eq_true rfl⟩ dX5_readBoards_42 (fun _ _ q => False.elim q) (kZ (fun r_14 G_22 hr_14 h hG_22 => ?_))
        refine a_if_ne (pc := 45) (tgt := 50) X9 dX5_readBoards_45 rfl (bool_inR hr_14) (fun c => ?_) (fun c => ?_)
        · have c_13 := c
          have h := h.1 c_13
          refine a_iload_n (pc := 50) X9 dX5_readBoards_50 rfl rfl ?_
          refine a_iconst (pc := 51) X9 dX5_readBoards_51 ?_
          refine a_icmp_ne (pc := 52) (tgt := 61) X9 dX5_readBoards_52 rfl h_x2_2 (by decide) (fun c => ?_) (fun c => ?_)
          · have c_14 := c
            have h := h.1 c_14
            refine a_aload_n (pc := 61) X9 dX5_readBoards_61 rfl rfl ?_
            refine a_getR (pc := 62) X9 (q := (a1 + 1)) okX7 1 rfl wF_X5_99 (is7 ha1 hnn) (rf7_1 _ ha1) dX5_readBoards_62 ?_
            refine a_iload_n (pc := 65) X9 dX5_readBoards_65 rfl rfl ?_
            refine a_aload_n (pc := 66) X9 dX5_readBoards_66 rfl rfl ?_
            refine a_getI (pc := 67) X9 okX5 8 rfl wF_X5_102 (is5 hnn) dX5_readBoards_67 ?_
            obtain ⟨g_7, h⟩ := h
            refine b_iast (pc := 70) X9 (i := x2_2) (v := (G_22 41 8)) (ar7_1 ha1 hnn) (Nat.le_of_ble_eq_true rfl) g_7 (hG_22 _ _) dX5_readBoards_70 ?_
            obtain ⟨G_23, eG_23⟩ : ∃ G9, G9 = upG G_22 (a1 + 1) (x2_2).toNat (G_22 41 8) := ⟨_, rfl⟩
            have hG_23 : GR G_23 := by rw [eG_23]; exact (GR.up hG_22 (hG_22 _ _))
            have h := h G_23 eG_23
            rw [← eG_23]
            refine a_aload_n (pc := 71) X9 dX5_readBoards_71 rfl rfl ?_
            refine a_dup (pc := 72) X9 dX5_readBoards_72 rfl ?_
            refine a_getI (pc := 73) X9 okX7 0 rfl wF_X5_105 (is7 ha1 hnn) dX5_readBoards_73 ?_
            refine a_iconst (pc := 76) X9 dX5_readBoards_76 ?_
            refine a_iadd (pc := 77) X9 dX5_readBoards_77 ?_
            obtain ⟨g_8, h⟩ := h
            refine a_putI (pc := 78) X9 okX7 0 rfl rfl (v := ((G_23 a1 0) + 1)) wF_X5_105 (is7 ha1 hnn) dX5_readBoards_78 g_8 (fit_int _) (fun _ => ?_)
            obtain ⟨G_24, eG_24⟩ : ∃ G9, G9 = upG G_23 a1 0 ((G_23 a1 0) + 1) := ⟨_, rfl⟩
            have hG_24 : GR G_24 := by rw [eG_24]; exact (GR.up hG_23 g_8)
            have h := h G_24 eG_24
            rw [← eG_24]
            refine a_aload_n (pc := 81) X9 dX5_readBoards_81 rfl rfl ?_
            refine a_callV (pc := 82) X9 E (m_X5_advance  hnn h) okX5 (is5 hnn) wM_X5_41 w_instanceMethod_X5_advance w_selects_X5_advance w_initialized_RX5 w_code_X5_advance cp_X5_advance pn_X5_advance rfl (Nat.le_of_ble_eq_true rfl) ⟨Nat.le_of_ble_eq_true rfl, Nat.le_of_ble_eq_true rfl⟩ ⟨Nat.le_of_ble_eq_true rfl, Nat.le_of_ble_eq_true rfl⟩ dX5_readBoards_82 (fun _ _ q => False.elim q) (kV (fun G_25 h hG_25 => ?_))
            refine a_iinc (pc := 85) X9 dX5_readBoards_85 rfl (Nat.le_of_ble_eq_true rfl) rfl rfl ?_
            refine a_goto (pc := 88) (tgt := 21) X9 dX5_readBoards_88 rfl ?_
            obtain ⟨g_9, h⟩ := h
            exact hk_2 _ _ h g_9 hG_25
          · have c_14 := c
            have h := h.2 c_14
            refine a_aload_n (pc := 55) X9 dX5_readBoards_55 rfl rfl ?_
            refine a_iconst (pc := 56) X9 dX5_readBoards_56 ?_
            refine a_callV (pc := 57) X9 E (m_X5_fail (show inR 3 by decide) hnn h) okX5 (is5 hnn) wM_X5_58 w_instanceMethod_X5_fail w_selects_X5_fail w_initialized_RX5 w_code_X5_fail cp_X5_fail pn_X5_fail rfl (Nat.le_of_ble_eq_true rfl) ⟨Nat.le_of_ble_eq_true rfl, Nat.le_of_ble_eq_true rfl⟩ ⟨Nat.le_of_ble_eq_true rfl, Nat.le_of_ble_eq_true rfl⟩ dX5_readBoards_57 (fun _ _ q => False.elim q) (kZ (fun r_16 G_26 hr_16 h hG_26 => ?_))
            exact a_ireturn (pc := 60) X9 E rfl (fit_bool hr_16).1 (Nat.le_of_ble_eq_true rfl) (Nat.le_of_ble_eq_true rfl) dX5_readBoards_60 ⟨rfl, _, rfl, hr_16, h⟩
        · have c_13 := c
          have h := h.2 c_13
          refine a_iconst (pc := 48) X9 dX5_readBoards_48 ?_
          exact a_ireturn (pc := 49) X9 E rfl (fit_bool (Or.inl rfl)).1 (Nat.le_of_ble_eq_true rfl) (Nat.le_of_ble_eq_true rfl) dX5_readBoards_49 ⟨rfl, _, rfl, (Or.inl rfl), h⟩
      · have c_12 := c
        have h := h.2 c_12
        refine a_iload_n (pc := 25) X9 dX5_readBoards_25 rfl rfl ?_
        refine a_iconst (pc := 26) X9 dX5_readBoards_26 ?_
        refine a_icmp_gt (pc := 27) (tgt := 91) X9 dX5_readBoards_27 rfl h_x2_2 (by decide) (fun c => ?_) (fun c => ?_)
        · have c_15 := c
          have h := h.1 c_15
          refine AW.drop 2 rfl ?_
          exact hj_1 _ h hG_21
        · have c_15 := c
          have h := h.2 c_15
          refine a_aload_n (pc := 30) X9 dX5_readBoards_30 rfl rfl ?_
          refine a_getI (pc := 31) X9 okX5 5 rfl wF_X5_55 (is5 hnn) dX5_readBoards_31 ?_
          refine a_iconst (pc := 34) X9 dX5_readBoards_34 ?_
          refine a_icmp_ne (pc := 35) (tgt := 91) X9 dX5_readBoards_35 rfl (hG_21 _ _) (by decide) (fun c => ?_) (fun c => ?_)
          · have c_16 := c
            have h := h.1 c_16
            refine AW.drop 2 rfl ?_
            exact hj_1 _ h hG_21
          · have c_16 := c
            have h := h.2 c_16
            refine a_aload_n (pc := 38) X9 dX5_readBoards_38 rfl rfl ?_
            refine a_iconst (pc := 39) X9 dX5_readBoards_39 ?_
            refine a_bipush (pc := 40) X9 dX5_readBoards_40 rfl ?_
            refine a_callV (pc := 42) X9 E (m_X5_isNumber (show inR 1 by decide) (show inR 6 by decide) hnn h) okX5 (is5 hnn) wM_X5_95 w_instanceMethod_X5_isNumber w_selects_X5_isNumber w_initialized_RX5 w_code_X5_isNumber cp_X5_isNumber pn_X5_isNumber rfl (Nat.le_of_ble_eq_true rfl) ⟨Nat.le_of_ble_eq_true rfl, Nat.le_of_ble_eq_true rfl⟩ ⟨Nat.le_of_ble_eq_true rfl, Nat.le_of_ble_eq_true rfl⟩ dX5_readBoards_42 (fun _ _ q => False.elim q) (kZ (fun r_17 G_27 hr_17 h hG_27 => ?_))
            refine a_if_ne (pc := 45) (tgt := 50) X9 dX5_readBoards_45 rfl (bool_inR hr_17) (fun c => ?_) (fun c => ?_)
            · have c_17 := c
              have h := h.1 c_17
              refine a_iload_n (pc := 50) X9 dX5_readBoards_50 rfl rfl ?_
              refine a_iconst (pc := 51) X9 dX5_readBoards_51 ?_
              refine a_icmp_ne (pc := 52) (tgt := 61) X9 dX5_readBoards_52 rfl h_x2_2 (by decide) (fun c => ?_) (fun c => ?_)
              · have c_18 := c
                have h := h.1 c_18
                refine a_aload_n (pc := 61) X9 dX5_readBoards_61 rfl rfl ?_
                refine a_getR (pc := 62) X9 (q := (a1 + 1)) okX7 1 rfl wF_X5_99 (is7 ha1 hnn) (rf7_1 _ ha1) dX5_readBoards_62 ?_
                refine a_iload_n (pc := 65) X9 dX5_readBoards_65 rfl rfl ?_
                refine a_aload_n (pc := 66) X9 dX5_readBoards_66 rfl rfl ?_
                refine a_getI (pc := 67) X9 okX5 8 rfl wF_X5_102 (is5 hnn) dX5_readBoards_67 ?_
                obtain ⟨g_10, h⟩ := h
                refine b_iast (pc := 70) X9 (i := x2_2) (v := (G_27 41 8)) (ar7_1 ha1 hnn) (Nat.le_of_ble_eq_true rfl) g_10 (hG_27 _ _) dX5_readBoards_70 ?_
                obtain ⟨G_28, eG_28⟩ : ∃ G9, G9 = upG G_27 (a1 + 1) (x2_2).toNat (G_27 41 8) := ⟨_, rfl⟩
                have hG_28 : GR G_28 := by rw [eG_28]; exact (GR.up hG_27 (hG_27 _ _))
                have h := h G_28 eG_28
                rw [← eG_28]
                refine a_aload_n (pc := 71) X9 dX5_readBoards_71 rfl rfl ?_
                refine a_dup (pc := 72) X9 dX5_readBoards_72 rfl ?_
                refine a_getI (pc := 73) X9 okX7 0 rfl wF_X5_105 (is7 ha1 hnn) dX5_readBoards_73 ?_
                refine a_iconst (pc := 76) X9 dX5_readBoards_76 ?_
                refine a_iadd (pc := 77) X9 dX5_readBoards_77 ?_
                obtain ⟨g_11, h⟩ := h
                refine a_putI (pc := 78) X9 okX7 0 rfl rfl (v := ((G_28 a1 0) + 1)) wF_X5_105 (is7 ha1 hnn) dX5_readBoards_78 g_11 (fit_int _) (fun _ => ?_)
                obtain ⟨G_29, eG_29⟩ : ∃ G9, G9 = upG G_28 a1 0 ((G_28 a1 0) + 1) := ⟨_, rfl⟩
                have hG_29 : GR G_29 := by rw [eG_29]; exact (GR.up hG_28 g_11)
                have h := h G_29 eG_29
                rw [← eG_29]
                refine a_aload_n (pc := 81) X9 dX5_readBoards_81 rfl rfl ?_
                refine a_callV (pc := 82) X9 E (m_X5_advance  hnn h) okX5 (is5 hnn) wM_X5_41 w_instanceMethod_X5_advance w_selects_X5_advance w_initialized_RX5 w_code_X5_advance cp_X5_advance pn_X5_advance rfl (Nat.le_of_ble_eq_true rfl) ⟨Nat.le_of_ble_eq_true rfl, Nat.le_of_ble_eq_true rfl⟩ ⟨Nat.le_of_ble_eq_true rfl, Nat.le_of_ble_eq_true rfl⟩ dX5_readBoards_82 (fun _ _ q => False.elim q) (kV (fun G_30 h hG_30 => ?_))
                refine a_iinc (pc := 85) X9 dX5_readBoards_85 rfl (Nat.le_of_ble_eq_true rfl) rfl rfl ?_
                refine a_goto (pc := 88) (tgt := 21) X9 dX5_readBoards_88 rfl ?_
                have q_2 : inR (x2_2) := h_x2_2
                have g_12 : inR ((x2_2 + 1)) := ⟨by omega, by omega⟩
                exact hk_2 _ _ h g_12 hG_30
              · have c_18 := c
                have h := h.2 c_18
                refine a_aload_n (pc := 55) X9 dX5_readBoards_55 rfl rfl ?_
                refine a_iconst (pc := 56) X9 dX5_readBoards_56 ?_
                refine a_callV (pc := 57) X9 E (m_X5_fail (show inR 3 by decide) hnn h) okX5 (is5 hnn) wM_X5_58 w_instanceMethod_X5_fail w_selects_X5_fail w_initialized_RX5 w_code_X5_fail cp_X5_fail pn_X5_fail rfl (Nat.le_of_ble_eq_true rfl) ⟨Nat.le_of_ble_eq_true rfl, Nat.le_of_ble_eq_true rfl⟩ ⟨Nat.le_of_ble_eq_true rfl, Nat.le_of_ble_eq_true rfl⟩ dX5_readBoards_57 (fun _ _ q => False.elim q) (kZ (fun r_19 G_31 hr_19 h hG_31 => ?_))
                exact a_ireturn (pc := 60) X9 E rfl (fit_bool hr_19).1 (Nat.le_of_ble_eq_true rfl) (Nat.le_of_ble_eq_true rfl) dX5_readBoards_60 ⟨rfl, _, rfl, hr_19, h⟩
            · have c_17 := c
              have h := h.2 c_17
              refine a_iconst (pc := 48) X9 dX5_readBoards_48 ?_
              exact a_ireturn (pc := 49) X9 E rfl (fit_bool (Or.inl rfl)).1 (Nat.le_of_ble_eq_true rfl) (Nat.le_of_ble_eq_true rfl) dX5_readBoards_49 ⟨rfl, _, rfl, (Or.inl rfl), h⟩
  · have c_1 := c
    have h := h.2 c_1
    refine a_aload_n (pc := 9) X9 dX5_readBoards_9 rfl rfl ?_
    refine a_iconst (pc := 10) X9 dX5_readBoards_10 ?_
    refine a_callV (pc := 11) X9 E (m_X5_fail (show inR 1 by decide) hnn h) okX5 (is5 hnn) wM_X5_58 w_instanceMethod_X5_fail w_selects_X5_fail w_initialized_RX5 w_code_X5_fail cp_X5_fail pn_X5_fail rfl (Nat.le_of_ble_eq_true rfl) ⟨Nat.le_of_ble_eq_true rfl, Nat.le_of_ble_eq_true rfl⟩ ⟨Nat.le_of_ble_eq_true rfl, Nat.le_of_ble_eq_true rfl⟩ dX5_readBoards_11 (fun _ _ q => False.elim q) (kZ (fun r_20 G_32 hr_20 h hG_32 => ?_))
    exact a_ireturn (pc := 14) X9 E rfl (fit_bool hr_20).1 (Nat.le_of_ble_eq_true rfl) (Nat.le_of_ble_eq_true rfl) dX5_readBoards_14 ⟨rfl, _, rfl, hr_20, h⟩
set_option maxHeartbeats 4000000 in
set_option maxRecDepth 100000 in
theorem m_X5_isSign {nn : Nat} {i1 : Int} {G : GH} {Q : Int → Prop} (hi1 : inR i1) (hnn : 272 ≤ nn) (h : f_X5_isSign i1 G Q) : Mt yX5_isSign cX5_isSign 2 (some .boolean) 0 0 0 0 [vr 41, vi i1] (SF nn) G (fun v S' G' => S' = SF nn ∧ qZ (fun r9 G9 => G9 = G ∧ Q r9) v S' G') (fun E S' G' => S' = SF nn ∧ False) := by
  refine Mt.of (l0 := [some (vr 41), some (vi i1)]) (by decide) (Nat.le_of_ble_eq_true rfl) rfl ?_
  intro κ δ ρ0 X9 E hG
  replace X9 : CX κ δ RX5 cX5_isSign 2 (some .boolean) := X9
  refine a_aload_n (pc := 0) X9 dX5_isSign_0 rfl rfl ?_
  refine a_getI (pc := 1) X9 okX5 5 rfl wF_X5_55 (is5 hnn) dX5_isSign_1 ?_
  refine a_iconst (pc := 4) X9 dX5_isSign_4 ?_
  refine a_icmp_ne (pc := 5) (tgt := 20) X9 dX5_isSign_5 rfl (hG _ _) (by decide) (fun c => ?_) (fun c => ?_)
  · have c_1 := c
    have h := h.1 c_1
    refine a_iconst (pc := 20) X9 dX5_isSign_20 ?_
    exact a_ireturn (pc := 21) X9 E rfl (fit_bool (Or.inl rfl)).1 (Nat.le_of_ble_eq_true rfl) (Nat.le_of_ble_eq_true rfl) dX5_isSign_21 ⟨rfl, _, rfl, (Or.inl rfl), rfl, h⟩
  · have c_1 := c
    have h := h.2 c_1
    refine a_aload_n (pc := 8) X9 dX5_isSign_8 rfl rfl ?_
    refine a_getI (pc := 9) X9 okX5 8 rfl wF_X5_102 (is5 hnn) dX5_isSign_9 ?_
    refine a_iload_n (pc := 12) X9 dX5_isSign_12 rfl rfl ?_
    refine a_icmp_ne (pc := 13) (tgt := 20) X9 dX5_isSign_13 rfl (hG _ _) hi1 (fun c => ?_) (fun c => ?_)
    · have c_2 := c
      have h := h.1 c_2
      refine a_iconst (pc := 20) X9 dX5_isSign_20 ?_
      exact a_ireturn (pc := 21) X9 E rfl (fit_bool (Or.inl rfl)).1 (Nat.le_of_ble_eq_true rfl) (Nat.le_of_ble_eq_true rfl) dX5_isSign_21 ⟨rfl, _, rfl, (Or.inl rfl), rfl, h⟩
    · have c_2 := c
      have h := h.2 c_2
      refine a_iconst (pc := 16) X9 dX5_isSign_16 ?_
      refine a_goto (pc := 17) (tgt := 21) X9 dX5_isSign_17 rfl ?_
      exact a_ireturn (pc := 21) X9 E rfl (fit_bool (Or.inr rfl)).1 (Nat.le_of_ble_eq_true rfl) (Nat.le_of_ble_eq_true rfl) dX5_isSign_21 ⟨rfl, _, rfl, (Or.inr rfl), rfl, h⟩
set_option maxHeartbeats 4000000 in
set_option maxRecDepth 100000 in
theorem m_X8_addSort {nn : Nat} {a0 : Nat} {i1 : Int} {i2 : Int} {i3 : Int} {G : GH} {Q : Int → GH → Prop} (ha0 : a0 ∈ L8) (hi1 : inR i1) (hi2 : inR i2) (hi3 : inR i3) (hnn : 272 ≤ nn) (h : f_X8_addSort a0 i1 i2 i3 G Q) : Mt yX8_addSort cX8_addSort 4 (some .int) 0 0 0 0 [vr a0, vi i1, vi i2, vi i3] (SF nn) G (fun v S' G' => S' = SF nn ∧ qI Q v S' G') (fun E S' G' => S' = SF nn ∧ False) := by
  refine Mt.of (l0 := [some (vr a0), some (vi i1), some (vi i2), some (vi i3)]) (by decide) (Nat.le_of_ble_eq_true rfl) rfl ?_
  intro κ δ ρ0 X9 E hG
  replace X9 : CX κ δ RX8 cX8_addSort 4 (some .int) := X9
  refine a_aload_n (pc := 0) X9 dX8_addSort_0 rfl rfl ?_
  refine a_getR (pc := 1) X9 (q := (a0 + 1)) okX8 2 rfl wF_X8_9 (is8 ha0 hnn) (rf8_2 _ ha0) dX8_addSort_1 ?_
  refine a_aload_n (pc := 4) X9 dX8_addSort_4 rfl rfl ?_
  refine a_getI (pc := 5) X9 okX8 1 rfl wF_X8_40 (is8 ha0 hnn) dX8_addSort_5 ?_
  refine a_iload_n (pc := 8) X9 dX8_addSort_8 rfl rfl ?_
  obtain ⟨g_1, h⟩ := h
  refine b_iast (pc := 9) X9 (i := (G a0 1)) (v := i1) (ar8_2 ha0 hnn) (Nat.le_of_ble_eq_true rfl) g_1 hi1 dX8_addSort_9 ?_
  obtain ⟨G_1, eG_1⟩ : ∃ G9, G9 = upG G (a0 + 1) ((G a0 1)).toNat i1 := ⟨_, rfl⟩
  have hG_1 : GR G_1 := by rw [eG_1]; exact (GR.up hG hi1)
  have h := h G_1 eG_1
  rw [← eG_1]
  refine a_aload_n (pc := 10) X9 dX8_addSort_10 rfl rfl ?_
  refine a_getR (pc := 11) X9 (q := (a0 + 2)) okX8 3 rfl wF_X8_15 (is8 ha0 hnn) (rf8_3 _ ha0) dX8_addSort_11 ?_
  refine a_aload_n (pc := 14) X9 dX8_addSort_14 rfl rfl ?_
  refine a_getI (pc := 15) X9 okX8 1 rfl wF_X8_40 (is8 ha0 hnn) dX8_addSort_15 ?_
  refine a_iload_n (pc := 18) X9 dX8_addSort_18 rfl rfl ?_
  obtain ⟨g_2, h⟩ := h
  refine b_iast (pc := 19) X9 (i := (G_1 a0 1)) (v := i2) (ar8_3 ha0 hnn) (Nat.le_of_ble_eq_true rfl) g_2 hi2 dX8_addSort_19 ?_
  obtain ⟨G_2, eG_2⟩ : ∃ G9, G9 = upG G_1 (a0 + 2) ((G_1 a0 1)).toNat i2 := ⟨_, rfl⟩
  have hG_2 : GR G_2 := by rw [eG_2]; exact (GR.up hG_1 hi2)
  have h := h G_2 eG_2
  rw [← eG_2]
  refine a_aload_n (pc := 20) X9 dX8_addSort_20 rfl rfl ?_
  refine a_getR (pc := 21) X9 (q := (a0 + 3)) okX8 4 rfl wF_X8_18 (is8 ha0 hnn) (rf8_4 _ ha0) dX8_addSort_21 ?_
  refine a_aload_n (pc := 24) X9 dX8_addSort_24 rfl rfl ?_
  refine a_getI (pc := 25) X9 okX8 1 rfl wF_X8_40 (is8 ha0 hnn) dX8_addSort_25 ?_
  refine a_iload_n (pc := 28) X9 dX8_addSort_28 rfl rfl ?_
  obtain ⟨g_3, h⟩ := h
  refine b_iast (pc := 29) X9 (i := (G_2 a0 1)) (v := i3) (ar8_4 ha0 hnn) (Nat.le_of_ble_eq_true rfl) g_3 hi3 dX8_addSort_29 ?_
  obtain ⟨G_3, eG_3⟩ : ∃ G9, G9 = upG G_2 (a0 + 3) ((G_2 a0 1)).toNat i3 := ⟨_, rfl⟩
  have hG_3 : GR G_3 := by rw [eG_3]; exact (GR.up hG_2 hi3)
  have h := h G_3 eG_3
  rw [← eG_3]
  refine a_aload_n (pc := 30) X9 dX8_addSort_30 rfl rfl ?_
  refine a_dup (pc := 31) X9 dX8_addSort_31 rfl ?_
  refine a_getI (pc := 32) X9 okX8 1 rfl wF_X8_40 (is8 ha0 hnn) dX8_addSort_32 ?_
  refine a_iconst (pc := 35) X9 dX8_addSort_35 ?_
  refine a_iadd (pc := 36) X9 dX8_addSort_36 ?_
  obtain ⟨g_4, h⟩ := h
  refine a_putI (pc := 37) X9 okX8 1 rfl rfl (v := ((G_3 a0 1) + 1)) wF_X8_40 (is8 ha0 hnn) dX8_addSort_37 g_4 (fit_int _) (fun _ => ?_)
  obtain ⟨G_4, eG_4⟩ : ∃ G9, G9 = upG G_3 a0 1 ((G_3 a0 1) + 1) := ⟨_, rfl⟩
  have hG_4 : GR G_4 := by rw [eG_4]; exact (GR.up hG_3 g_4)
  have h := h G_4 eG_4
  rw [← eG_4]
  refine a_aload_n (pc := 40) X9 dX8_addSort_40 rfl rfl ?_
  refine a_getI (pc := 41) X9 okX8 1 rfl wF_X8_40 (is8 ha0 hnn) dX8_addSort_41 ?_
  refine a_iconst (pc := 44) X9 dX8_addSort_44 ?_
  refine a_isub (pc := 45) X9 dX8_addSort_45 ?_
  obtain ⟨g_5, h⟩ := h
  exact a_ireturn (pc := 46) X9 E rfl rfl (Nat.le_of_ble_eq_true rfl) (Nat.le_of_ble_eq_true rfl) dX8_addSort_46 ⟨rfl, _, rfl, g_5, h⟩
set_option maxHeartbeats 4000000 in
set_option maxRecDepth 100000 in
theorem m_X5_readCard {nn : Nat} {a1 : Nat} {G : GH} {Q : Int → GH → Prop} (ha1 : a1 ∈ L8) (hnn : 272 ≤ nn) (h : f_X5_readCard a1 G Q) : Mt yX5_readCard cX5_readCard 4 (some .boolean) 5 107 0 0 [vr 41, vr a1] (SF nn) G (fun v S' G' => S' = SF nn ∧ qZ Q v S' G') (fun E S' G' => S' = SF nn ∧ False) := by
  refine Mt.of (l0 := [some (vr 41), some (vr a1), none, none]) (by decide) (Nat.le_of_ble_eq_true rfl) rfl ?_
  intro κ δ ρ0 X9 E hG
  replace X9 : CX κ δ RX5 cX5_readCard 4 (some .boolean) := X9
  refine a_aload_n (pc := 0) X9 dX5_readCard_0 rfl rfl ?_
  refine a_getI (pc := 1) X9 okX8 1 rfl wF_X5_119 (is8 ha1 hnn) dX5_readCard_1 ?_
  refine a_bipush (pc := 4) X9 dX5_readCard_4 rfl ?_
  refine a_icmp_ne (pc := 6) (tgt := 15) X9 dX5_readCard_6 rfl (hG _ _) (by decide) (fun c => ?_) (fun c => ?_)
  · have c_1 := c
    have h := h.1 c_1
    refine a_aload_n (pc := 15) X9 dX5_readCard_15 rfl rfl ?_
    refine a_callV (pc := 16) X9 E (m_X5_advance  hnn h) okX5 (is5 hnn) wM_X5_41 w_instanceMethod_X5_advance w_selects_X5_advance w_initialized_RX5 w_code_X5_advance cp_X5_advance pn_X5_advance rfl (Nat.le_of_ble_eq_true rfl) ⟨Nat.le_of_ble_eq_true rfl, Nat.le_of_ble_eq_true rfl⟩ ⟨Nat.le_of_ble_eq_true rfl, Nat.le_of_ble_eq_true rfl⟩ dX5_readCard_16 (fun _ _ q => False.elim q) (kV (fun G_1 h hG_1 => ?_))
    refine a_aload_n (pc := 19) X9 dX5_readCard_19 rfl rfl ?_
    refine a_iconst (pc := 20) X9 dX5_readCard_20 ?_
    refine a_bipush (pc := 21) X9 dX5_readCard_21 rfl ?_
    refine a_callV (pc := 23) X9 E (m_X5_isNumber (show inR 0 by decide) (show inR 9 by decide) hnn h) okX5 (is5 hnn) wM_X5_95 w_instanceMethod_X5_isNumber w_selects_X5_isNumber w_initialized_RX5 w_code_X5_isNumber cp_X5_isNumber pn_X5_isNumber rfl (Nat.le_of_ble_eq_true rfl) ⟨Nat.le_of_ble_eq_true rfl, Nat.le_of_ble_eq_true rfl⟩ ⟨Nat.le_of_ble_eq_true rfl, Nat.le_of_ble_eq_true rfl⟩ dX5_readCard_23 (fun _ _ q => False.elim q) (kZ (fun r_2 G_2 hr_2 h hG_2 => ?_))
    refine a_if_ne (pc := 26) (tgt := 31) X9 dX5_readCard_26 rfl (bool_inR hr_2) (fun c => ?_) (fun c => ?_)
    · have c_2 := c
      have h := h.1 c_2
      refine a_aload_n (pc := 31) X9 dX5_readCard_31 rfl rfl ?_
      refine a_getI (pc := 32) X9 okX5 8 rfl wF_X5_102 (is5 hnn) dX5_readCard_32 ?_
      refine a_istore_n (pc := 35) X9 dX5_readCard_35 rfl (Nat.le_of_ble_eq_true rfl) rfl rfl ?_
      refine a_iconst (pc := 36) X9 dX5_readCard_36 ?_
      refine a_istore_n (pc := 37) X9 dX5_readCard_37 rfl (Nat.le_of_ble_eq_true rfl) rfl rfl ?_
      refine a_aload_n (pc := 38) X9 dX5_readCard_38 rfl rfl ?_
      refine a_callV (pc := 39) X9 E (m_X5_advance  hnn h) okX5 (is5 hnn) wM_X5_41 w_instanceMethod_X5_advance w_selects_X5_advance w_initialized_RX5 w_code_X5_advance cp_X5_advance pn_X5_advance rfl (Nat.le_of_ble_eq_true rfl) ⟨Nat.le_of_ble_eq_true rfl, Nat.le_of_ble_eq_true rfl⟩ ⟨Nat.le_of_ble_eq_true rfl, Nat.le_of_ble_eq_true rfl⟩ dX5_readCard_39 (fun _ _ q => False.elim q) (kV (fun G_3 h hG_3 => ?_))
      refine a_aload_n (pc := 42) X9 dX5_readCard_42 rfl rfl ?_
      refine b_ldcs (pc := 43) X9 (i := 4) (List.mem_of_getElem? (i := 4) rfl) dX5_readCard_43 ?_
      refine a_callV (pc := 45) X9 E (m_X5_isWord (Nat.le_of_ble_eq_true rfl) hnn h) okX5 (is5 hnn) wM_X5_66 w_instanceMethod_X5_isWord w_selects_X5_isWord w_initialized_RX5 w_code_X5_isWord cp_X5_isWord pn_X5_isWord rfl (Nat.le_of_ble_eq_true rfl) ⟨Nat.le_of_ble_eq_true rfl, Nat.le_of_ble_eq_true rfl⟩ ⟨Nat.le_of_ble_eq_true rfl, Nat.le_of_ble_eq_true rfl⟩ dX5_readCard_45 (fun _ _ q => False.elim q) (kZp (fun r_4 hr_4 h => ?_))
      refine a_if_eq (pc := 48) (tgt := 76) X9 dX5_readCard_48 rfl (bool_inR hr_4) (fun c => ?_) (fun c => ?_)
      · have c_3 := c
        have h := h.1 c_3
        refine a_aload_n (pc := 76) X9 dX5_readCard_76 rfl rfl ?_
        refine a_iconst (pc := 77) X9 dX5_readCard_77 ?_
        refine a_bipush (pc := 78) X9 dX5_readCard_78 rfl ?_
        refine a_callV (pc := 80) X9 E (m_X5_isNumber (show inR 0 by decide) (show inR 60 by decide) hnn h) okX5 (is5 hnn) wM_X5_95 w_instanceMethod_X5_isNumber w_selects_X5_isNumber w_initialized_RX5 w_code_X5_isNumber cp_X5_isNumber pn_X5_isNumber rfl (Nat.le_of_ble_eq_true rfl) ⟨Nat.le_of_ble_eq_true rfl, Nat.le_of_ble_eq_true rfl⟩ ⟨Nat.le_of_ble_eq_true rfl, Nat.le_of_ble_eq_true rfl⟩ dX5_readCard_80 (fun _ _ q => False.elim q) (kZ (fun r_5 G_4 hr_5 h hG_4 => ?_))
        refine a_if_ne (pc := 83) (tgt := 88) X9 dX5_readCard_83 rfl (bool_inR hr_5) (fun c => ?_) (fun c => ?_)
        · have c_4 := c
          have h := h.1 c_4
          refine a_aload_n (pc := 88) X9 dX5_readCard_88 rfl rfl ?_
          refine a_iload_n (pc := 89) X9 dX5_readCard_89 rfl rfl ?_
          refine a_iload_n (pc := 90) X9 dX5_readCard_90 rfl rfl ?_
          refine a_aload_n (pc := 91) X9 dX5_readCard_91 rfl rfl ?_
          refine a_getI (pc := 92) X9 okX5 8 rfl wF_X5_102 (is5 hnn) dX5_readCard_92 ?_
          refine a_callV (pc := 95) X9 E (m_X8_addSort ha1 (hG_2 _ _) (show inR (-1) by decide) (hG_4 _ _) hnn h) okX8 (is8 ha1 hnn) wM_X5_124 w_instanceMethod_X8_addSort w_selects_X8_addSort w_initialized_RX8 w_code_X8_addSort cp_X8_addSort pn_X8_addSort rfl (Nat.le_of_ble_eq_true rfl) ⟨Nat.le_of_ble_eq_true rfl, Nat.le_of_ble_eq_true rfl⟩ ⟨Nat.le_of_ble_eq_true rfl, Nat.le_of_ble_eq_true rfl⟩ dX5_readCard_95 (fun _ _ q => False.elim q) (kI (fun r_6 G_5 hr_6 h hG_5 => ?_))
          refine a_pop (pc := 98) X9 dX5_readCard_98 rfl ?_
          refine a_aload_n (pc := 99) X9 dX5_readCard_99 rfl rfl ?_
          refine a_callV (pc := 100) X9 E (m_X5_advance  hnn h) okX5 (is5 hnn) wM_X5_41 w_instanceMethod_X5_advance w_selects_X5_advance w_initialized_RX5 w_code_X5_advance cp_X5_advance pn_X5_advance rfl (Nat.le_of_ble_eq_true rfl) ⟨Nat.le_of_ble_eq_true rfl, Nat.le_of_ble_eq_true rfl⟩ ⟨Nat.le_of_ble_eq_true rfl, Nat.le_of_ble_eq_true rfl⟩ dX5_readCard_100 (fun _ _ q => False.elim q) (kV (fun G_6 h hG_6 => ?_))
          refine a_iconst (pc := 103) X9 dX5_readCard_103 ?_
          exact a_ireturn (pc := 104) X9 E rfl (fit_bool (Or.inr rfl)).1 (Nat.le_of_ble_eq_true rfl) (Nat.le_of_ble_eq_true rfl) dX5_readCard_104 ⟨rfl, _, rfl, (Or.inr rfl), h⟩
        · have c_4 := c
          have h := h.2 c_4
          refine a_iconst (pc := 86) X9 dX5_readCard_86 ?_
          exact a_ireturn (pc := 87) X9 E rfl (fit_bool (Or.inl rfl)).1 (Nat.le_of_ble_eq_true rfl) (Nat.le_of_ble_eq_true rfl) dX5_readCard_87 ⟨rfl, _, rfl, (Or.inl rfl), h⟩
      · have c_3 := c
        have h := h.2 c_3
        refine a_aload_n (pc := 51) X9 dX5_readCard_51 rfl rfl ?_
        refine a_callV (pc := 52) X9 E (m_X5_advance  hnn h) okX5 (is5 hnn) wM_X5_41 w_instanceMethod_X5_advance w_selects_X5_advance w_initialized_RX5 w_code_X5_advance cp_X5_advance pn_X5_advance rfl (Nat.le_of_ble_eq_true rfl) ⟨Nat.le_of_ble_eq_true rfl, Nat.le_of_ble_eq_true rfl⟩ ⟨Nat.le_of_ble_eq_true rfl, Nat.le_of_ble_eq_true rfl⟩ dX5_readCard_52 (fun _ _ q => False.elim q) (kV (fun G_7 h hG_7 => ?_))
        refine a_aload_n (pc := 55) X9 dX5_readCard_55 rfl rfl ?_
        refine a_iconst (pc := 56) X9 dX5_readCard_56 ?_
        refine a_bipush (pc := 57) X9 dX5_readCard_57 rfl ?_
        refine a_callV (pc := 59) X9 E (m_X5_isNumber (show inR 0 by decide) (show inR 9 by decide) hnn h) okX5 (is5 hnn) wM_X5_95 w_instanceMethod_X5_isNumber w_selects_X5_isNumber w_initialized_RX5 w_code_X5_isNumber cp_X5_isNumber pn_X5_isNumber rfl (Nat.le_of_ble_eq_true rfl) ⟨Nat.le_of_ble_eq_true rfl, Nat.le_of_ble_eq_true rfl⟩ ⟨Nat.le_of_ble_eq_true rfl, Nat.le_of_ble_eq_true rfl⟩ dX5_readCard_59 (fun _ _ q => False.elim q) (kZ (fun r_9 G_8 hr_9 h hG_8 => ?_))
        refine a_if_ne (pc := 62) (tgt := 67) X9 dX5_readCard_62 rfl (bool_inR hr_9) (fun c => ?_) (fun c => ?_)
        · have c_5 := c
          have h := h.1 c_5
          refine a_aload_n (pc := 67) X9 dX5_readCard_67 rfl rfl ?_
          refine a_getI (pc := 68) X9 okX5 8 rfl wF_X5_102 (is5 hnn) dX5_readCard_68 ?_
          refine a_istore_n (pc := 71) X9 dX5_readCard_71 rfl (Nat.le_of_ble_eq_true rfl) rfl rfl ?_
          refine a_aload_n (pc := 72) X9 dX5_readCard_72 rfl rfl ?_
          refine a_callV (pc := 73) X9 E (m_X5_advance  hnn h) okX5 (is5 hnn) wM_X5_41 w_instanceMethod_X5_advance w_selects_X5_advance w_initialized_RX5 w_code_X5_advance cp_X5_advance pn_X5_advance rfl (Nat.le_of_ble_eq_true rfl) ⟨Nat.le_of_ble_eq_true rfl, Nat.le_of_ble_eq_true rfl⟩ ⟨Nat.le_of_ble_eq_true rfl, Nat.le_of_ble_eq_true rfl⟩ dX5_readCard_73 (fun _ _ q => False.elim q) (kV (fun G_9 h hG_9 => ?_))
          refine a_aload_n (pc := 76) X9 dX5_readCard_76 rfl rfl ?_
          refine a_iconst (pc := 77) X9 dX5_readCard_77 ?_
          refine a_bipush (pc := 78) X9 dX5_readCard_78 rfl ?_
          refine a_callV (pc := 80) X9 E (m_X5_isNumber (show inR 0 by decide) (show inR 60 by decide) hnn h) okX5 (is5 hnn) wM_X5_95 w_instanceMethod_X5_isNumber w_selects_X5_isNumber w_initialized_RX5 w_code_X5_isNumber cp_X5_isNumber pn_X5_isNumber rfl (Nat.le_of_ble_eq_true rfl) ⟨Nat.le_of_ble_eq_true rfl, Nat.le_of_ble_eq_true rfl⟩ ⟨Nat.le_of_ble_eq_true rfl, Nat.le_of_ble_eq_true rfl⟩ dX5_readCard_80 (fun _ _ q => False.elim q) (kZ (fun r_11 G_10 hr_11 h hG_10 => ?_))
          refine a_if_ne (pc := 83) (tgt := 88) X9 dX5_readCard_83 rfl (bool_inR hr_11) (fun c => ?_) (fun c => ?_)
          · have c_6 := c
            have h := h.1 c_6
            refine a_aload_n (pc := 88) X9 dX5_readCard_88 rfl rfl ?_
            refine a_iload_n (pc := 89) X9 dX5_readCard_89 rfl rfl ?_
            refine a_iload_n (pc := 90) X9 dX5_readCard_90 rfl rfl ?_
            refine a_aload_n (pc := 91) X9 dX5_readCard_91 rfl rfl ?_
            refine a_getI (pc := 92) X9 okX5 8 rfl wF_X5_102 (is5 hnn) dX5_readCard_92 ?_
            refine a_callV (pc := 95) X9 E (m_X8_addSort ha1 (hG_2 _ _) (hG_8 _ _) (hG_10 _ _) hnn h) okX8 (is8 ha1 hnn) wM_X5_124 w_instanceMethod_X8_addSort w_selects_X8_addSort w_initialized_RX8 w_code_X8_addSort cp_X8_addSort pn_X8_addSort rfl (Nat.le_of_ble_eq_true rfl) ⟨Nat.le_of_ble_eq_true rfl, Nat.le_of_ble_eq_true rfl⟩ ⟨Nat.le_of_ble_eq_true rfl, Nat.le_of_ble_eq_true rfl⟩ dX5_readCard_95 (fun _ _ q => False.elim q) (kI (fun r_12 G_11 hr_12 h hG_11 => ?_))
            refine a_pop (pc := 98) X9 dX5_readCard_98 rfl ?_
            refine a_aload_n (pc := 99) X9 dX5_readCard_99 rfl rfl ?_
            refine a_callV (pc := 100) X9 E (m_X5_advance  hnn h) okX5 (is5 hnn) wM_X5_41 w_instanceMethod_X5_advance w_selects_X5_advance w_initialized_RX5 w_code_X5_advance cp_X5_advance pn_X5_advance rfl (Nat.le_of_ble_eq_true rfl) ⟨Nat.le_of_ble_eq_true rfl, Nat.le_of_ble_eq_true rfl⟩ ⟨Nat.le_of_ble_eq_true rfl, Nat.le_of_ble_eq_true rfl⟩ dX5_readCard_100 (fun _ _ q => False.elim q) (kV (fun G_12 h hG_12 => ?_))
            refine a_iconst (pc := 103) X9 dX5_readCard_103 ?_
            exact a_ireturn (pc := 104) X9 E rfl (fit_bool (Or.inr rfl)).1 (Nat.le_of_ble_eq_true rfl) (Nat.le_of_ble_eq_true rfl) dX5_readCard_104 ⟨rfl, _, rfl, (Or.inr rfl), h⟩
          · have c_6 := c
            have h := h.2 c_6
            refine a_iconst (pc := 86) X9 dX5_readCard_86 ?_
            exact a_ireturn (pc := 87) X9 E rfl (fit_bool (Or.inl rfl)).1 (Nat.le_of_ble_eq_true rfl) (Nat.le_of_ble_eq_true rfl) dX5_readCard_87 ⟨rfl, _, rfl, (Or.inl rfl), h⟩
        · have c_5 := c
          have h := h.2 c_5
          refine a_iconst (pc := 65) X9 dX5_readCard_65 ?_
          exact a_ireturn (pc := 66) X9 E rfl (fit_bool (Or.inl rfl)).1 (Nat.le_of_ble_eq_true rfl) (Nat.le_of_ble_eq_true rfl) dX5_readCard_66 ⟨rfl, _, rfl, (Or.inl rfl), h⟩
    · have c_2 := c
      have h := h.2 c_2
      refine a_iconst (pc := 29) X9 dX5_readCard_29 ?_
      exact a_ireturn (pc := 30) X9 E rfl (fit_bool (Or.inl rfl)).1 (Nat.le_of_ble_eq_true rfl) (Nat.le_of_ble_eq_true rfl) dX5_readCard_30 ⟨rfl, _, rfl, (Or.inl rfl), h⟩
  · have c_1 := c
    have h := h.2 c_1
    refine a_aload_n (pc := 9) X9 dX5_readCard_9 rfl rfl ?_
    refine a_iconst (pc := 10) X9 dX5_readCard_10 ?_
    refine a_callV (pc := 11) X9 E (m_X5_fail (show inR 3 by decide) hnn h) okX5 (is5 hnn) wM_X5_58 w_instanceMethod_X5_fail w_selects_X5_fail w_initialized_RX5 w_code_X5_fail cp_X5_fail pn_X5_fail rfl (Nat.le_of_ble_eq_true rfl) ⟨Nat.le_of_ble_eq_true rfl, Nat.le_of_ble_eq_true rfl⟩ ⟨Nat.le_of_ble_eq_true rfl, Nat.le_of_ble_eq_true rfl⟩ dX5_readCard_11 (fun _ _ q => False.elim q) (kZ (fun r_14 G_13 hr_14 h hG_13 => ?_))
    exact a_ireturn (pc := 14) X9 E rfl (fit_bool hr_14).1 (Nat.le_of_ble_eq_true rfl) (Nat.le_of_ble_eq_true rfl) dX5_readCard_14 ⟨rfl, _, rfl, hr_14, h⟩
set_option maxHeartbeats 4000000 in
set_option maxRecDepth 100000 in
theorem m_X5_readFriend {nn : Nat} {a1 : Nat} {G : GH} {Q : Int → GH → Prop} (ha1 : a1 ∈ L8) (hnn : 272 ≤ nn) (h : f_X5_readFriend a1 G Q) : Mt yX5_readFriend cX5_readFriend 3 (some .boolean) 2 44 0 0 [vr 41, vr a1] (SF nn) G (fun v S' G' => S' = SF nn ∧ qZ Q v S' G') (fun E S' G' => S' = SF nn ∧ False) := by
  refine Mt.of (l0 := [some (vr 41), some (vr a1), none]) (by decide) (Nat.le_of_ble_eq_true rfl) rfl ?_
  intro κ δ ρ0 X9 E hG
  replace X9 : CX κ δ RX5 cX5_readFriend 3 (some .boolean) := X9
  refine a_aload_n (pc := 0) X9 dX5_readFriend_0 rfl rfl ?_
  refine a_getI (pc := 1) X9 okX8 5 rfl wF_X5_128 (is8 ha1 hnn) dX5_readFriend_1 ?_
  refine a_iconst (pc := 4) X9 dX5_readFriend_4 ?_
  refine a_icmp_ne (pc := 5) (tgt := 14) X9 dX5_readFriend_5 rfl (hG _ _) (by decide) (fun c => ?_) (fun c => ?_)
  · have c_1 := c
    have h := h.1 c_1
    refine a_aload_n (pc := 14) X9 dX5_readFriend_14 rfl rfl ?_
    refine a_callV (pc := 15) X9 E (m_X5_advance  hnn h) okX5 (is5 hnn) wM_X5_41 w_instanceMethod_X5_advance w_selects_X5_advance w_initialized_RX5 w_code_X5_advance cp_X5_advance pn_X5_advance rfl (Nat.le_of_ble_eq_true rfl) ⟨Nat.le_of_ble_eq_true rfl, Nat.le_of_ble_eq_true rfl⟩ ⟨Nat.le_of_ble_eq_true rfl, Nat.le_of_ble_eq_true rfl⟩ dX5_readFriend_15 (fun _ _ q => False.elim q) (kV (fun G_1 h hG_1 => ?_))
    refine a_aload_n (pc := 18) X9 dX5_readFriend_18 rfl rfl ?_
    refine a_iconst (pc := 19) X9 dX5_readFriend_19 ?_
    refine a_bipush (pc := 20) X9 dX5_readFriend_20 rfl ?_
    refine a_callV (pc := 22) X9 E (m_X5_isNumber (show inR 1 by decide) (show inR 9 by decide) hnn h) okX5 (is5 hnn) wM_X5_95 w_instanceMethod_X5_isNumber w_selects_X5_isNumber w_initialized_RX5 w_code_X5_isNumber cp_X5_isNumber pn_X5_isNumber rfl (Nat.le_of_ble_eq_true rfl) ⟨Nat.le_of_ble_eq_true rfl, Nat.le_of_ble_eq_true rfl⟩ ⟨Nat.le_of_ble_eq_true rfl, Nat.le_of_ble_eq_true rfl⟩ dX5_readFriend_22 (fun _ _ q => False.elim q) (kZ (fun r_2 G_2 hr_2 h hG_2 => ?_))
    refine a_if_ne (pc := 25) (tgt := 30) X9 dX5_readFriend_25 rfl (bool_inR hr_2) (fun c => ?_) (fun c => ?_)
    · have c_2 := c
      have h := h.1 c_2
      refine a_aload_n (pc := 30) X9 dX5_readFriend_30 rfl rfl ?_
      refine a_getR (pc := 31) X9 (q := (a1 + 4)) okX8 6 rfl wF_X5_131 (is8 ha1 hnn) (rf8_6 _ ha1) dX5_readFriend_31 ?_
      refine a_aload_n (pc := 34) X9 dX5_readFriend_34 rfl rfl ?_
      refine a_getI (pc := 35) X9 okX8 5 rfl wF_X5_128 (is8 ha1 hnn) dX5_readFriend_35 ?_
      refine a_aload_n (pc := 38) X9 dX5_readFriend_38 rfl rfl ?_
      refine a_getI (pc := 39) X9 okX5 8 rfl wF_X5_102 (is5 hnn) dX5_readFriend_39 ?_
      obtain ⟨g_1, h⟩ := h
      refine b_iast (pc := 42) X9 (i := (G_2 a1 5)) (v := (G_2 41 8)) (ar8_6 ha1 hnn) (Nat.le_of_ble_eq_true rfl) g_1 (hG_2 _ _) dX5_readFriend_42 ?_
      obtain ⟨G_3, eG_3⟩ : ∃ G9, G9 = upG G_2 (a1 + 4) ((G_2 a1 5)).toNat (G_2 41 8) := ⟨_, rfl⟩
      have hG_3 : GR G_3 := by rw [eG_3]; exact (GR.up hG_2 (hG_2 _ _))
      have h := h G_3 eG_3
      rw [← eG_3]
      refine a_aload_n (pc := 43) X9 dX5_readFriend_43 rfl rfl ?_
      refine a_callV (pc := 44) X9 E (m_X5_advance  hnn h) okX5 (is5 hnn) wM_X5_41 w_instanceMethod_X5_advance w_selects_X5_advance w_initialized_RX5 w_code_X5_advance cp_X5_advance pn_X5_advance rfl (Nat.le_of_ble_eq_true rfl) ⟨Nat.le_of_ble_eq_true rfl, Nat.le_of_ble_eq_true rfl⟩ ⟨Nat.le_of_ble_eq_true rfl, Nat.le_of_ble_eq_true rfl⟩ dX5_readFriend_44 (fun _ _ q => False.elim q) (kV (fun G_4 h hG_4 => ?_))
      refine a_iconst (pc := 47) X9 dX5_readFriend_47 ?_
      refine a_istore_n (pc := 48) X9 dX5_readFriend_48 rfl (Nat.le_of_ble_eq_true rfl) rfl rfl ?_
      refine loopM2 (A := fun x2_1 G_5 => inR x2_1 → GR G_5 → AW κ δ ρ0 (szF nn) 3 0 0 49 [some (vr 41), some (vr a1), some (vi x2_1)] [] (SF nn) G_5) (fun k_1 hk_1 x2_1 G_5 h h_x2_1 hG_5 => ?_) _ _ h (by decide) hG_4
      refine a_iload_n (pc := 49) X9 dX5_readFriend_49 rfl rfl ?_
      refine a_bipush (pc := 50) X9 dX5_readFriend_50 rfl ?_
      refine a_icmp_ge (pc := 52) (tgt := 95) X9 dX5_readFriend_52 rfl h_x2_1 (by decide) (fun c => ?_) (fun c => ?_)
      · have c_3 := c
        have h := h.1 c_3
        refine a_aload_n (pc := 95) X9 dX5_readFriend_95 rfl rfl ?_
        refine a_dup (pc := 96) X9 dX5_readFriend_96 rfl ?_
        refine a_getI (pc := 97) X9 okX8 5 rfl wF_X5_128 (is8 ha1 hnn) dX5_readFriend_97 ?_
        refine a_iconst (pc := 100) X9 dX5_readFriend_100 ?_
        refine a_iadd (pc := 101) X9 dX5_readFriend_101 ?_
        obtain ⟨g_2, h⟩ := h
        refine a_putI (pc := 102) X9 okX8 5 rfl rfl (v := ((G_5 a1 5) + 1)) wF_X5_128 (is8 ha1 hnn) dX5_readFriend_102 g_2 (fit_int _) (fun _ => ?_)
        obtain ⟨G_6, eG_6⟩ : ∃ G9, G9 = upG G_5 a1 5 ((G_5 a1 5) + 1) := ⟨_, rfl⟩
        have hG_6 : GR G_6 := by rw [eG_6]; exact (GR.up hG_5 g_2)
        have h := h G_6 eG_6
        rw [← eG_6]
        refine a_iconst (pc := 105) X9 dX5_readFriend_105 ?_
        exact a_ireturn (pc := 106) X9 E rfl (fit_bool (Or.inr rfl)).1 (Nat.le_of_ble_eq_true rfl) (Nat.le_of_ble_eq_true rfl) dX5_readFriend_106 ⟨rfl, _, rfl, (Or.inr rfl), h⟩
      · have c_3 := c
        have h := h.2 c_3
        refine a_aload_n (pc := 55) X9 dX5_readFriend_55 rfl rfl ?_
        refine a_iconst (pc := 56) X9 dX5_readFriend_56 ?_
        refine a_bipush (pc := 57) X9 dX5_readFriend_57 rfl ?_
        refine a_callV (pc := 59) X9 E (m_X5_isNumber (show inR 0 by decide) (show inR 20 by decide) hnn h) okX5 (is5 hnn) wM_X5_95 w_instanceMethod_X5_isNumber w_selects_X5_isNumber w_initialized_RX5 w_code_X5_isNumber cp_X5_isNumber pn_X5_isNumber rfl (Nat.le_of_ble_eq_true rfl) ⟨Nat.le_of_ble_eq_true rfl, Nat.le_of_ble_eq_true rfl⟩ ⟨Nat.le_of_ble_eq_true rfl, Nat.le_of_ble_eq_true rfl⟩ dX5_readFriend_59 (fun _ _ q => False.elim q) (kZ (fun r_4 G_7 hr_4 h hG_7 => ?_))
        refine a_if_ne (pc := 62) (tgt := 67) X9 dX5_readFriend_62 rfl (bool_inR hr_4) (fun c => ?_) (fun c => ?_)
        · have c_4 := c
          have h := h.1 c_4
          refine a_aload_n (pc := 67) X9 dX5_readFriend_67 rfl rfl ?_
          refine a_getR (pc := 68) X9 (q := (a1 + 5)) okX8 7 rfl wF_X5_134 (is8 ha1 hnn) (rf8_7 _ ha1) dX5_readFriend_68 ?_
          refine a_aload_n (pc := 71) X9 dX5_readFriend_71 rfl rfl ?_
          refine a_getI (pc := 72) X9 okX8 5 rfl wF_X5_128 (is8 ha1 hnn) dX5_readFriend_72 ?_
          refine a_bipush (pc := 75) X9 dX5_readFriend_75 rfl ?_
          refine a_imul (pc := 77) X9 dX5_readFriend_77 ?_
          refine a_iload_n (pc := 78) X9 dX5_readFriend_78 rfl rfl ?_
          refine a_iadd (pc := 79) X9 dX5_readFriend_79 ?_
          refine a_aload_n (pc := 80) X9 dX5_readFriend_80 rfl rfl ?_
          refine a_getI (pc := 81) X9 okX5 8 rfl wF_X5_102 (is5 hnn) dX5_readFriend_81 ?_
          obtain ⟨g_3, h⟩ := h
          refine b_iast (pc := 84) X9 (i := (((G_7 a1 5) * 10) + x2_1)) (v := (G_7 41 8)) (ar8_7 ha1 hnn) (Nat.le_of_ble_eq_true rfl) g_3 (hG_7 _ _) dX5_readFriend_84 ?_
          obtain ⟨G_8, eG_8⟩ : ∃ G9, G9 = upG G_7 (a1 + 5) ((((G_7 a1 5) * 10) + x2_1)).toNat (G_7 41 8) := ⟨_, rfl⟩
          have hG_8 : GR G_8 := by rw [eG_8]; exact (GR.up hG_7 (hG_7 _ _))
          have h := h G_8 eG_8
          rw [← eG_8]
          refine a_aload_n (pc := 85) X9 dX5_readFriend_85 rfl rfl ?_
          refine a_callV (pc := 86) X9 E (m_X5_advance  hnn h) okX5 (is5 hnn) wM_X5_41 w_instanceMethod_X5_advance w_selects_X5_advance w_initialized_RX5 w_code_X5_advance cp_X5_advance pn_X5_advance rfl (Nat.le_of_ble_eq_true rfl) ⟨Nat.le_of_ble_eq_true rfl, Nat.le_of_ble_eq_true rfl⟩ ⟨Nat.le_of_ble_eq_true rfl, Nat.le_of_ble_eq_true rfl⟩ dX5_readFriend_86 (fun _ _ q => False.elim q) (kV (fun G_9 h hG_9 => ?_))
          refine a_iinc (pc := 89) X9 dX5_readFriend_89 rfl (Nat.le_of_ble_eq_true rfl) rfl rfl ?_
          refine a_goto (pc := 92) (tgt := 49) X9 dX5_readFriend_92 rfl ?_
          have q_1 : inR (x2_1) := h_x2_1
          have g_4 : inR ((x2_1 + 1)) := ⟨by omega, by omega⟩
          exact hk_1 _ _ h g_4 hG_9
        · have c_4 := c
          have h := h.2 c_4
          refine a_iconst (pc := 65) X9 dX5_readFriend_65 ?_
          exact a_ireturn (pc := 66) X9 E rfl (fit_bool (Or.inl rfl)).1 (Nat.le_of_ble_eq_true rfl) (Nat.le_of_ble_eq_true rfl) dX5_readFriend_66 ⟨rfl, _, rfl, (Or.inl rfl), h⟩
    · have c_2 := c
      have h := h.2 c_2
      refine a_iconst (pc := 28) X9 dX5_readFriend_28 ?_
      exact a_ireturn (pc := 29) X9 E rfl (fit_bool (Or.inl rfl)).1 (Nat.le_of_ble_eq_true rfl) (Nat.le_of_ble_eq_true rfl) dX5_readFriend_29 ⟨rfl, _, rfl, (Or.inl rfl), h⟩
  · have c_1 := c
    have h := h.2 c_1
    refine a_aload_n (pc := 8) X9 dX5_readFriend_8 rfl rfl ?_
    refine a_iconst (pc := 9) X9 dX5_readFriend_9 ?_
    refine a_callV (pc := 10) X9 E (m_X5_fail (show inR 3 by decide) hnn h) okX5 (is5 hnn) wM_X5_58 w_instanceMethod_X5_fail w_selects_X5_fail w_initialized_RX5 w_code_X5_fail cp_X5_fail pn_X5_fail rfl (Nat.le_of_ble_eq_true rfl) ⟨Nat.le_of_ble_eq_true rfl, Nat.le_of_ble_eq_true rfl⟩ ⟨Nat.le_of_ble_eq_true rfl, Nat.le_of_ble_eq_true rfl⟩ dX5_readFriend_10 (fun _ _ q => False.elim q) (kZ (fun r_6 G_10 hr_6 h hG_10 => ?_))
    exact a_ireturn (pc := 13) X9 E rfl (fit_bool hr_6).1 (Nat.le_of_ble_eq_true rfl) (Nat.le_of_ble_eq_true rfl) dX5_readFriend_13 ⟨rfl, _, rfl, hr_6, h⟩
set_option maxHeartbeats 4000000 in
set_option maxRecDepth 100000 in
theorem m_X6_addEmpty {nn : Nat} {a0 : Nat} {G : GH} {Q : Int → GH → Prop} (ha0 : a0 ∈ L6) (hnn : 272 ≤ nn) (h : f_X6_addEmpty a0 G Q) : Mt yX6_addEmpty cX6_addEmpty 1 (some .int) 0 0 0 0 [vr a0] (SF nn) G (fun v S' G' => S' = SF nn ∧ qI Q v S' G') (fun E S' G' => S' = SF nn ∧ False) := by
  refine Mt.of (l0 := [some (vr a0)]) (by decide) (Nat.le_of_ble_eq_true rfl) rfl ?_
  intro κ δ ρ0 X9 E hG
  replace X9 : CX κ δ RX6 cX6_addEmpty 1 (some .int) := X9
  refine a_aload_n (pc := 0) X9 dX6_addEmpty_0 rfl rfl ?_
  refine a_getR (pc := 1) X9 (q := (a0 + 1)) okX6 1 rfl wF_X6_9 (is6 ha0 hnn) (rf6_1 _ ha0) dX6_addEmpty_1 ?_
  refine a_aload_n (pc := 4) X9 dX6_addEmpty_4 rfl rfl ?_
  refine a_getI (pc := 5) X9 okX6 0 rfl wF_X6_18 (is6 ha0 hnn) dX6_addEmpty_5 ?_
  refine a_iconst (pc := 8) X9 dX6_addEmpty_8 ?_
  obtain ⟨g_1, h⟩ := h
  refine b_iast (pc := 9) X9 (i := (G a0 0)) (v := 0) (ar6_1 ha0 hnn) (Nat.le_of_ble_eq_true rfl) g_1 (by decide) dX6_addEmpty_9 ?_
  obtain ⟨G_1, eG_1⟩ : ∃ G9, G9 = upG G (a0 + 1) ((G a0 0)).toNat 0 := ⟨_, rfl⟩
  have hG_1 : GR G_1 := by rw [eG_1]; exact (GR.up hG (by decide))
  have h := h G_1 eG_1
  rw [← eG_1]
  refine a_aload_n (pc := 10) X9 dX6_addEmpty_10 rfl rfl ?_
  refine a_dup (pc := 11) X9 dX6_addEmpty_11 rfl ?_
  refine a_getI (pc := 12) X9 okX6 0 rfl wF_X6_18 (is6 ha0 hnn) dX6_addEmpty_12 ?_
  refine a_iconst (pc := 15) X9 dX6_addEmpty_15 ?_
  refine a_iadd (pc := 16) X9 dX6_addEmpty_16 ?_
  obtain ⟨g_2, h⟩ := h
  refine a_putI (pc := 17) X9 okX6 0 rfl rfl (v := ((G_1 a0 0) + 1)) wF_X6_18 (is6 ha0 hnn) dX6_addEmpty_17 g_2 (fit_int _) (fun _ => ?_)
  obtain ⟨G_2, eG_2⟩ : ∃ G9, G9 = upG G_1 a0 0 ((G_1 a0 0) + 1) := ⟨_, rfl⟩
  have hG_2 : GR G_2 := by rw [eG_2]; exact (GR.up hG_1 g_2)
  have h := h G_2 eG_2
  rw [← eG_2]
  refine a_aload_n (pc := 20) X9 dX6_addEmpty_20 rfl rfl ?_
  refine a_getI (pc := 21) X9 okX6 0 rfl wF_X6_18 (is6 ha0 hnn) dX6_addEmpty_21 ?_
  refine a_iconst (pc := 24) X9 dX6_addEmpty_24 ?_
  refine a_isub (pc := 25) X9 dX6_addEmpty_25 ?_
  obtain ⟨g_3, h⟩ := h
  exact a_ireturn (pc := 26) X9 E rfl rfl (Nat.le_of_ble_eq_true rfl) (Nat.le_of_ble_eq_true rfl) dX6_addEmpty_26 ⟨rfl, _, rfl, g_3, h⟩
set_option maxHeartbeats 4000000 in
set_option maxRecDepth 100000 in
theorem m_X5_openBracket {nn : Nat} {i1 : Int} {G : GH} {Q : Int → GH → Prop} (hi1 : inR i1) (hnn : 272 ≤ nn) (h : f_X5_openBracket i1 G Q) : Mt yX5_openBracket cX5_openBracket 2 (some .boolean) 2 40 0 0 [vr 41, vi i1] (SF nn) G (fun v S' G' => S' = SF nn ∧ qZ Q v S' G') (fun E S' G' => S' = SF nn ∧ False) := by
  refine Mt.of (l0 := [some (vr 41), some (vi i1)]) (by decide) (Nat.le_of_ble_eq_true rfl) rfl ?_
  intro κ δ ρ0 X9 E hG
  replace X9 : CX κ δ RX5 cX5_openBracket 2 (some .boolean) := X9
  refine a_aload_n (pc := 0) X9 dX5_openBracket_0 rfl rfl ?_
  refine a_getI (pc := 1) X9 okX5 9 rfl wF_X5_146 (is5 hnn) dX5_openBracket_1 ?_
  refine a_iconst (pc := 4) X9 dX5_openBracket_4 ?_
  refine a_icmp_ne (pc := 5) (tgt := 14) X9 dX5_openBracket_5 rfl (hG _ _) (by decide) (fun c => ?_) (fun c => ?_)
  · have c_1 := c
    have h := h.1 c_1
    refine a_aload_n (pc := 14) X9 dX5_openBracket_14 rfl rfl ?_
    refine a_getR (pc := 15) X9 (q := 43) okX5 10 rfl wF_X5_15 (is5 hnn) rf5_10 dX5_openBracket_15 ?_
    refine a_aload_n (pc := 18) X9 dX5_openBracket_18 rfl rfl ?_
    refine a_getI (pc := 19) X9 okX5 9 rfl wF_X5_146 (is5 hnn) dX5_openBracket_19 ?_
    refine a_iload_n (pc := 22) X9 dX5_openBracket_22 rfl rfl ?_
    obtain ⟨g_1, h⟩ := h
    refine b_iast (pc := 23) X9 (i := (G 41 9)) (v := i1) (ar5_10 hnn) (Nat.le_of_ble_eq_true rfl) g_1 hi1 dX5_openBracket_23 ?_
    obtain ⟨G_1, eG_1⟩ : ∃ G9, G9 = upG G 43 ((G 41 9)).toNat i1 := ⟨_, rfl⟩
    have hG_1 : GR G_1 := by rw [eG_1]; exact (GR.up hG hi1)
    have h := h G_1 eG_1
    rw [← eG_1]
    refine a_aload_n (pc := 24) X9 dX5_openBracket_24 rfl rfl ?_
    refine a_dup (pc := 25) X9 dX5_openBracket_25 rfl ?_
    refine a_getI (pc := 26) X9 okX5 9 rfl wF_X5_146 (is5 hnn) dX5_openBracket_26 ?_
    refine a_iconst (pc := 29) X9 dX5_openBracket_29 ?_
    refine a_iadd (pc := 30) X9 dX5_openBracket_30 ?_
    obtain ⟨g_2, h⟩ := h
    refine a_putI (pc := 31) X9 okX5 9 rfl rfl (v := ((G_1 41 9) + 1)) wF_X5_146 (is5 hnn) dX5_openBracket_31 g_2 (fit_int _) (fun _ => ?_)
    obtain ⟨G_2, eG_2⟩ : ∃ G9, G9 = upG G_1 41 9 ((G_1 41 9) + 1) := ⟨_, rfl⟩
    have hG_2 : GR G_2 := by rw [eG_2]; exact (GR.up hG_1 g_2)
    have h := h G_2 eG_2
    rw [← eG_2]
    refine a_aload_n (pc := 34) X9 dX5_openBracket_34 rfl rfl ?_
    refine a_callV (pc := 35) X9 E (m_X5_advance  hnn h) okX5 (is5 hnn) wM_X5_41 w_instanceMethod_X5_advance w_selects_X5_advance w_initialized_RX5 w_code_X5_advance cp_X5_advance pn_X5_advance rfl (Nat.le_of_ble_eq_true rfl) ⟨Nat.le_of_ble_eq_true rfl, Nat.le_of_ble_eq_true rfl⟩ ⟨Nat.le_of_ble_eq_true rfl, Nat.le_of_ble_eq_true rfl⟩ dX5_openBracket_35 (fun _ _ q => False.elim q) (kV (fun G_3 h hG_3 => ?_))
    refine a_iconst (pc := 38) X9 dX5_openBracket_38 ?_
    exact a_ireturn (pc := 39) X9 E rfl (fit_bool (Or.inr rfl)).1 (Nat.le_of_ble_eq_true rfl) (Nat.le_of_ble_eq_true rfl) dX5_openBracket_39 ⟨rfl, _, rfl, (Or.inr rfl), h⟩
  · have c_1 := c
    have h := h.2 c_1
    refine a_aload_n (pc := 8) X9 dX5_openBracket_8 rfl rfl ?_
    refine a_iconst (pc := 9) X9 dX5_openBracket_9 ?_
    refine a_callV (pc := 10) X9 E (m_X5_fail (show inR 3 by decide) hnn h) okX5 (is5 hnn) wM_X5_58 w_instanceMethod_X5_fail w_selects_X5_fail w_initialized_RX5 w_code_X5_fail cp_X5_fail pn_X5_fail rfl (Nat.le_of_ble_eq_true rfl) ⟨Nat.le_of_ble_eq_true rfl, Nat.le_of_ble_eq_true rfl⟩ ⟨Nat.le_of_ble_eq_true rfl, Nat.le_of_ble_eq_true rfl⟩ dX5_openBracket_10 (fun _ _ q => False.elim q) (kZ (fun r_2 G_4 hr_2 h hG_4 => ?_))
    exact a_ireturn (pc := 13) X9 E rfl (fit_bool hr_2).1 (Nat.le_of_ble_eq_true rfl) (Nat.le_of_ble_eq_true rfl) dX5_openBracket_13 ⟨rfl, _, rfl, hr_2, h⟩
set_option maxHeartbeats 4000000 in
set_option maxRecDepth 100000 in
theorem m_X6_hymnAt {nn : Nat} {a0 : Nat} {i1 : Int} {i2 : Int} {G : GH} {Q : Int → Prop} (ha0 : a0 ∈ L6) (hi1 : inR i1) (hi2 : inR i2) (hnn : 272 ≤ nn) (h : f_X6_hymnAt a0 i1 i2 G Q) : Mt yX6_hymnAt cX6_hymnAt 3 (some .int) 1 22 0 0 [vr a0, vi i1, vi i2] (SF nn) G (fun v S' G' => S' = SF nn ∧ qI (fun r9 G9 => G9 = G ∧ Q r9) v S' G') (fun E S' G' => S' = SF nn ∧ False) := by
  refine Mt.of (l0 := [some (vr a0), some (vi i1), some (vi i2)]) (by decide) (Nat.le_of_ble_eq_true rfl) rfl ?_
  intro κ δ ρ0 X9 E hG
  replace X9 : CX κ δ RX6 cX6_hymnAt 3 (some .int) := X9
  refine a_iload_n (pc := 0) X9 dX6_hymnAt_0 rfl rfl ?_
  refine a_iconst (pc := 1) X9 dX6_hymnAt_1 ?_
  refine a_aload_n (pc := 2) X9 dX6_hymnAt_2 rfl rfl ?_
  refine a_getR (pc := 3) X9 (q := (a0 + 1)) okX6 1 rfl wF_X6_9 (is6 ha0 hnn) (rf6_1 _ ha0) dX6_hymnAt_3 ?_
  refine a_iload_n (pc := 6) X9 dX6_hymnAt_6 rfl rfl ?_
  obtain ⟨g_1, h⟩ := h
  refine b_iald (pc := 7) X9 (ar6_1 ha0 hnn) (Nat.le_of_ble_eq_true rfl) g_1 dX6_hymnAt_7 ?_
  refine a_iconst (pc := 8) X9 dX6_hymnAt_8 ?_
  refine a_isub (pc := 9) X9 dX6_hymnAt_9 ?_
  obtain ⟨g_2, h⟩ := h
  refine a_callSN (pc := 10) X9 E (m_X9_within hi2 (show inR 0 by decide) g_2 hnn h) nx_X6_28 w_static_X9_within w_initialized_RX9 w_code_X9_within cp_X9_within pn_X9_within rfl (Nat.le_of_ble_eq_true rfl) ⟨Nat.le_of_ble_eq_true rfl, Nat.le_of_ble_eq_true rfl⟩ ⟨Nat.le_of_ble_eq_true rfl, Nat.le_of_ble_eq_true rfl⟩ dX6_hymnAt_10 (fun _ _ q => False.elim q) (kZp (fun r_1 hr_1 h => ?_))
  refine a_if_eq (pc := 13) (tgt := 30) X9 dX6_hymnAt_13 rfl (bool_inR hr_1) (fun c => ?_) (fun c => ?_)
  · have c_1 := c
    have h := h.1 c_1
    refine a_iconst (pc := 30) X9 dX6_hymnAt_30 ?_
    exact a_ireturn (pc := 31) X9 E rfl rfl (Nat.le_of_ble_eq_true rfl) (Nat.le_of_ble_eq_true rfl) dX6_hymnAt_31 ⟨rfl, _, rfl, (show inR (-1) by decide), rfl, h⟩
  · have c_1 := c
    have h := h.2 c_1
    refine a_aload_n (pc := 16) X9 dX6_hymnAt_16 rfl rfl ?_
    refine a_getR (pc := 17) X9 (q := (a0 + 2)) okX6 2 rfl wF_X6_15 (is6 ha0 hnn) (rf6_2 _ ha0) dX6_hymnAt_17 ?_
    refine a_iload_n (pc := 20) X9 dX6_hymnAt_20 rfl rfl ?_
    refine a_bipush (pc := 21) X9 dX6_hymnAt_21 rfl ?_
    refine a_imul (pc := 23) X9 dX6_hymnAt_23 ?_
    refine a_iload_n (pc := 24) X9 dX6_hymnAt_24 rfl rfl ?_
    refine a_iadd (pc := 25) X9 dX6_hymnAt_25 ?_
    obtain ⟨g_3, h⟩ := h
    refine b_iald (pc := 26) X9 (ar6_2 ha0 hnn) (Nat.le_of_ble_eq_true rfl) g_3 dX6_hymnAt_26 ?_
    refine a_goto (pc := 27) (tgt := 31) X9 dX6_hymnAt_27 rfl ?_
    exact a_ireturn (pc := 31) X9 E rfl rfl (Nat.le_of_ble_eq_true rfl) (Nat.le_of_ble_eq_true rfl) dX6_hymnAt_31 ⟨rfl, _, rfl, (hG _ _), rfl, h⟩
set_option maxHeartbeats 4000000 in
set_option maxRecDepth 100000 in
theorem m_X6_lengthen {nn : Nat} {a0 : Nat} {i1 : Int} {i2 : Int} {G : GH} {Q : Int → GH → Prop} (ha0 : a0 ∈ L6) (hi1 : inR i1) (hi2 : inR i2) (hnn : 272 ≤ nn) (h : f_X6_lengthen a0 i1 i2 G Q) : Mt yX6_lengthen cX6_lengthen 3 (some .int) 0 0 0 0 [vr a0, vi i1, vi i2] (SF nn) G (fun v S' G' => S' = SF nn ∧ qI Q v S' G') (fun E S' G' => S' = SF nn ∧ False) := by
  refine Mt.of (l0 := [some (vr a0), some (vi i1), some (vi i2)]) (by decide) (Nat.le_of_ble_eq_true rfl) rfl ?_
  intro κ δ ρ0 X9 E hG
  replace X9 : CX κ δ RX6 cX6_lengthen 3 (some .int) := X9
  refine a_aload_n (pc := 0) X9 dX6_lengthen_0 rfl rfl ?_
  refine a_getR (pc := 1) X9 (q := (a0 + 2)) okX6 2 rfl wF_X6_15 (is6 ha0 hnn) (rf6_2 _ ha0) dX6_lengthen_1 ?_
  refine a_iload_n (pc := 4) X9 dX6_lengthen_4 rfl rfl ?_
  refine a_bipush (pc := 5) X9 dX6_lengthen_5 rfl ?_
  refine a_imul (pc := 7) X9 dX6_lengthen_7 ?_
  refine a_aload_n (pc := 8) X9 dX6_lengthen_8 rfl rfl ?_
  refine a_getR (pc := 9) X9 (q := (a0 + 1)) okX6 1 rfl wF_X6_9 (is6 ha0 hnn) (rf6_1 _ ha0) dX6_lengthen_9 ?_
  refine a_iload_n (pc := 12) X9 dX6_lengthen_12 rfl rfl ?_
  obtain ⟨g_1, h⟩ := h
  refine b_iald (pc := 13) X9 (ar6_1 ha0 hnn) (Nat.le_of_ble_eq_true rfl) g_1 dX6_lengthen_13 ?_
  refine a_iadd (pc := 14) X9 dX6_lengthen_14 ?_
  refine a_iload_n (pc := 15) X9 dX6_lengthen_15 rfl rfl ?_
  obtain ⟨g_2, h⟩ := h
  refine b_iast (pc := 16) X9 (i := ((i1 * 8) + (G (a0 + 1) (i1).toNat))) (v := i2) (ar6_2 ha0 hnn) (Nat.le_of_ble_eq_true rfl) g_2 hi2 dX6_lengthen_16 ?_
  obtain ⟨G_1, eG_1⟩ : ∃ G9, G9 = upG G (a0 + 2) (((i1 * 8) + (G (a0 + 1) (i1).toNat))).toNat i2 := ⟨_, rfl⟩
  have hG_1 : GR G_1 := by rw [eG_1]; exact (GR.up hG hi2)
  have h := h G_1 eG_1
  rw [← eG_1]
  refine a_aload_n (pc := 17) X9 dX6_lengthen_17 rfl rfl ?_
  refine a_getR (pc := 18) X9 (q := (a0 + 1)) okX6 1 rfl wF_X6_9 (is6 ha0 hnn) (rf6_1 _ ha0) dX6_lengthen_18 ?_
  refine a_iload_n (pc := 21) X9 dX6_lengthen_21 rfl rfl ?_
  refine a_dup2 (pc := 22) X9 dX6_lengthen_22 rfl rfl ?_
  refine b_iald (pc := 23) X9 (ar6_1 ha0 hnn) (Nat.le_of_ble_eq_true rfl) g_1 dX6_lengthen_23 ?_
  refine a_iconst (pc := 24) X9 dX6_lengthen_24 ?_
  refine a_iadd (pc := 25) X9 dX6_lengthen_25 ?_
  obtain ⟨g_3, h⟩ := h
  refine b_iast (pc := 26) X9 (i := i1) (v := ((G_1 (a0 + 1) (i1).toNat) + 1)) (ar6_1 ha0 hnn) (Nat.le_of_ble_eq_true rfl) g_1 g_3 dX6_lengthen_26 ?_
  obtain ⟨G_2, eG_2⟩ : ∃ G9, G9 = upG G_1 (a0 + 1) (i1).toNat ((G_1 (a0 + 1) (i1).toNat) + 1) := ⟨_, rfl⟩
  have hG_2 : GR G_2 := by rw [eG_2]; exact (GR.up hG_1 g_3)
  have h := h G_2 eG_2
  rw [← eG_2]
  refine a_aload_n (pc := 27) X9 dX6_lengthen_27 rfl rfl ?_
  refine a_getR (pc := 28) X9 (q := (a0 + 1)) okX6 1 rfl wF_X6_9 (is6 ha0 hnn) (rf6_1 _ ha0) dX6_lengthen_28 ?_
  refine a_iload_n (pc := 31) X9 dX6_lengthen_31 rfl rfl ?_
  refine b_iald (pc := 32) X9 (ar6_1 ha0 hnn) (Nat.le_of_ble_eq_true rfl) g_1 dX6_lengthen_32 ?_
  exact a_ireturn (pc := 33) X9 E rfl rfl (Nat.le_of_ble_eq_true rfl) (Nat.le_of_ble_eq_true rfl) dX6_lengthen_33 ⟨rfl, _, rfl, (hG_2 _ _), h⟩
set_option maxHeartbeats 4000000 in
set_option maxRecDepth 100000 in
theorem m_X5_closeBracket {nn : Nat} {a1 : Nat} {i2 : Int} {G : GH} {Q : Int → GH → Prop} (ha1 : a1 ∈ L6) (hi2 : inR i2) (hnn : 272 ≤ nn) (h : f_X5_closeBracket a1 i2 G Q) : Mt yX5_closeBracket cX5_closeBracket 6 (some .boolean) 2 44 0 0 [vr 41, vr a1, vi i2] (SF nn) G (fun v S' G' => S' = SF nn ∧ qZ Q v S' G') (fun E S' G' => S' = SF nn ∧ False) := by
  refine Mt.of (l0 := [some (vr 41), some (vr a1), some (vi i2), none, none, none]) (by decide) (Nat.le_of_ble_eq_true rfl) rfl ?_
  intro κ δ ρ0 X9 E hG
  replace X9 : CX κ δ RX5 cX5_closeBracket 6 (some .boolean) := X9
  refine a_aload_n (pc := 0) X9 dX5_closeBracket_0 rfl rfl ?_
  refine a_callV (pc := 1) X9 E (m_X5_advance  hnn h) okX5 (is5 hnn) wM_X5_41 w_instanceMethod_X5_advance w_selects_X5_advance w_initialized_RX5 w_code_X5_advance cp_X5_advance pn_X5_advance rfl (Nat.le_of_ble_eq_true rfl) ⟨Nat.le_of_ble_eq_true rfl, Nat.le_of_ble_eq_true rfl⟩ ⟨Nat.le_of_ble_eq_true rfl, Nat.le_of_ble_eq_true rfl⟩ dX5_closeBracket_1 (fun _ _ q => False.elim q) (kV (fun G_1 h hG_1 => ?_))
  refine a_aload_n (pc := 4) X9 dX5_closeBracket_4 rfl rfl ?_
  refine a_iconst (pc := 5) X9 dX5_closeBracket_5 ?_
  refine a_bipush (pc := 6) X9 dX5_closeBracket_6 rfl ?_
  refine a_callV (pc := 8) X9 E (m_X5_isNumber (show inR 1 by decide) (show inR 8 by decide) hnn h) okX5 (is5 hnn) wM_X5_95 w_instanceMethod_X5_isNumber w_selects_X5_isNumber w_initialized_RX5 w_code_X5_isNumber cp_X5_isNumber pn_X5_isNumber rfl (Nat.le_of_ble_eq_true rfl) ⟨Nat.le_of_ble_eq_true rfl, Nat.le_of_ble_eq_true rfl⟩ ⟨Nat.le_of_ble_eq_true rfl, Nat.le_of_ble_eq_true rfl⟩ dX5_closeBracket_8 (fun _ _ q => False.elim q) (kZ (fun r_2 G_2 hr_2 h hG_2 => ?_))
  refine a_if_ne (pc := 11) (tgt := 16) X9 dX5_closeBracket_11 rfl (bool_inR hr_2) (fun c => ?_) (fun c => ?_)
  · have c_1 := c
    have h := h.1 c_1
    refine a_aload_n (pc := 16) X9 dX5_closeBracket_16 rfl rfl ?_
    refine a_dup (pc := 17) X9 dX5_closeBracket_17 rfl ?_
    refine a_getI (pc := 18) X9 okX5 9 rfl wF_X5_146 (is5 hnn) dX5_closeBracket_18 ?_
    refine a_iconst (pc := 21) X9 dX5_closeBracket_21 ?_
    refine a_isub (pc := 22) X9 dX5_closeBracket_22 ?_
    obtain ⟨g_1, h⟩ := h
    refine a_putI (pc := 23) X9 okX5 9 rfl rfl (v := ((G_2 41 9) - 1)) wF_X5_146 (is5 hnn) dX5_closeBracket_23 g_1 (fit_int _) (fun _ => ?_)
    obtain ⟨G_3, eG_3⟩ : ∃ G9, G9 = upG G_2 41 9 ((G_2 41 9) - 1) := ⟨_, rfl⟩
    have hG_3 : GR G_3 := by rw [eG_3]; exact (GR.up hG_2 g_1)
    have h := h G_3 eG_3
    rw [← eG_3]
    refine a_aload_n (pc := 26) X9 dX5_closeBracket_26 rfl rfl ?_
    refine a_getR (pc := 27) X9 (q := 43) okX5 10 rfl wF_X5_15 (is5 hnn) rf5_10 dX5_closeBracket_27 ?_
    refine a_aload_n (pc := 30) X9 dX5_closeBracket_30 rfl rfl ?_
    refine a_getI (pc := 31) X9 okX5 9 rfl wF_X5_146 (is5 hnn) dX5_closeBracket_31 ?_
    obtain ⟨g_2, h⟩ := h
    refine b_iald (pc := 34) X9 (ar5_10 hnn) (Nat.le_of_ble_eq_true rfl) g_2 dX5_closeBracket_34 ?_
    refine a_istore_n (pc := 35) X9 dX5_closeBracket_35 rfl (Nat.le_of_ble_eq_true rfl) rfl rfl ?_
    refine a_aload_n (pc := 36) X9 dX5_closeBracket_36 rfl rfl ?_
    refine a_getR (pc := 37) X9 (q := (a1 + 1)) okX6 1 rfl wF_X5_149 (is6 ha1 hnn) (rf6_1 _ ha1) dX5_closeBracket_37 ?_
    refine a_iload_n (pc := 40) X9 dX5_closeBracket_40 rfl rfl ?_
    obtain ⟨g_3, h⟩ := h
    refine b_iald (pc := 41) X9 (ar6_1 ha1 hnn) (Nat.le_of_ble_eq_true rfl) g_3 dX5_closeBracket_41 ?_
    refine a_iload_n (pc := 42) X9 dX5_closeBracket_42 rfl rfl ?_
    refine a_isub (pc := 43) X9 dX5_closeBracket_43 ?_
    refine a_istore (pc := 44) X9 dX5_closeBracket_44 (Nat.le_of_ble_eq_true rfl) rfl rfl ?_
    refine a_iload_n (pc := 46) X9 dX5_closeBracket_46 rfl rfl ?_
    refine a_iload (pc := 47) X9 dX5_closeBracket_47 rfl ?_
    refine a_aload_n (pc := 49) X9 dX5_closeBracket_49 rfl rfl ?_
    refine a_getI (pc := 50) X9 okX5 8 rfl wF_X5_102 (is5 hnn) dX5_closeBracket_50 ?_
    refine a_imul (pc := 53) X9 dX5_closeBracket_53 ?_
    refine a_iadd (pc := 54) X9 dX5_closeBracket_54 ?_
    refine a_bipush (pc := 55) X9 dX5_closeBracket_55 rfl ?_
    obtain ⟨g_4, h⟩ := h
    refine a_icmp_le (pc := 57) (tgt := 66) X9 dX5_closeBracket_57 rfl g_4 (by decide) (fun c => ?_) (fun c => ?_)
    · have c_2 := c
      have h := h.1 c_2
      refine a_iload (pc := 66) X9 dX5_closeBracket_66 rfl ?_
      refine a_aload_n (pc := 68) X9 dX5_closeBracket_68 rfl rfl ?_
      refine a_getI (pc := 69) X9 okX5 8 rfl wF_X5_102 (is5 hnn) dX5_closeBracket_69 ?_
      refine a_iconst (pc := 72) X9 dX5_closeBracket_72 ?_
      refine a_isub (pc := 73) X9 dX5_closeBracket_73 ?_
      refine a_imul (pc := 74) X9 dX5_closeBracket_74 ?_
      refine a_istore (pc := 75) X9 dX5_closeBracket_75 (Nat.le_of_ble_eq_true rfl) rfl rfl ?_
      obtain ⟨g_5, h⟩ := h
      refine loopM2 (A := fun x5_1 G_4 => inR x5_1 → GR G_4 → AW κ δ ρ0 (szF nn) 6 0 0 77 [some (vr 41), some (vr a1), some (vi i2), some (vi (G_3 43 ((G_3 41 9)).toNat)), some (vi ((G_3 (a1 + 1) (i2).toNat) - (G_3 43 ((G_3 41 9)).toNat))), some (vi x5_1)] [] (SF nn) G_4) (fun k_1 hk_1 x5_1 G_4 h h_x5_1 hG_4 => ?_) _ _ h g_5 hG_3
      refine a_iload (pc := 77) X9 dX5_closeBracket_77 rfl ?_
      refine a_if_le (pc := 79) (tgt := 108) X9 dX5_closeBracket_79 rfl h_x5_1 (fun c => ?_) (fun c => ?_)
      · have c_3 := c
        have h := h.1 c_3
        refine a_aload_n (pc := 108) X9 dX5_closeBracket_108 rfl rfl ?_
        refine a_callV (pc := 109) X9 E (m_X5_advance  hnn h) okX5 (is5 hnn) wM_X5_41 w_instanceMethod_X5_advance w_selects_X5_advance w_initialized_RX5 w_code_X5_advance cp_X5_advance pn_X5_advance rfl (Nat.le_of_ble_eq_true rfl) ⟨Nat.le_of_ble_eq_true rfl, Nat.le_of_ble_eq_true rfl⟩ ⟨Nat.le_of_ble_eq_true rfl, Nat.le_of_ble_eq_true rfl⟩ dX5_closeBracket_109 (fun _ _ q => False.elim q) (kV (fun G_5 h hG_5 => ?_))
        refine a_iconst (pc := 112) X9 dX5_closeBracket_112 ?_
        exact a_ireturn (pc := 113) X9 E rfl (fit_bool (Or.inr rfl)).1 (Nat.le_of_ble_eq_true rfl) (Nat.le_of_ble_eq_true rfl) dX5_closeBracket_113 ⟨rfl, _, rfl, (Or.inr rfl), h⟩
      · have c_3 := c
        have h := h.2 c_3
        refine a_aload_n (pc := 82) X9 dX5_closeBracket_82 rfl rfl ?_
        refine a_iload_n (pc := 83) X9 dX5_closeBracket_83 rfl rfl ?_
        refine a_aload_n (pc := 84) X9 dX5_closeBracket_84 rfl rfl ?_
        refine a_iload_n (pc := 85) X9 dX5_closeBracket_85 rfl rfl ?_
        refine a_aload_n (pc := 86) X9 dX5_closeBracket_86 rfl rfl ?_
        refine a_getR (pc := 87) X9 (q := (a1 + 1)) okX6 1 rfl wF_X5_149 (is6 ha1 hnn) (rf6_1 _ ha1) dX5_closeBracket_87 ?_
        refine a_iload_n (pc := 90) X9 dX5_closeBracket_90 rfl rfl ?_
        refine b_iald (pc := 91) X9 (ar6_1 ha1 hnn) (Nat.le_of_ble_eq_true rfl) g_3 dX5_closeBracket_91 ?_
        refine a_iload (pc := 92) X9 dX5_closeBracket_92 rfl ?_
        refine a_isub (pc := 94) X9 dX5_closeBracket_94 ?_
        obtain ⟨g_6, h⟩ := h
        refine a_callV (pc := 95) X9 E (m_X6_hymnAt ha1 hi2 g_6 hnn h) okX6 (is6 ha1 hnn) wM_X5_165 w_instanceMethod_X6_hymnAt w_selects_X6_hymnAt w_initialized_RX6 w_code_X6_hymnAt cp_X6_hymnAt pn_X6_hymnAt rfl (Nat.le_of_ble_eq_true rfl) ⟨Nat.le_of_ble_eq_true rfl, Nat.le_of_ble_eq_true rfl⟩ ⟨Nat.le_of_ble_eq_true rfl, Nat.le_of_ble_eq_true rfl⟩ dX5_closeBracket_95 (fun _ _ q => False.elim q) (kIp (fun r_4 hr_4 h => ?_))
        refine a_callV (pc := 98) X9 E (m_X6_lengthen ha1 hi2 hr_4 hnn h) okX6 (is6 ha1 hnn) wM_X5_161 w_instanceMethod_X6_lengthen w_selects_X6_lengthen w_initialized_RX6 w_code_X6_lengthen cp_X6_lengthen pn_X6_lengthen rfl (Nat.le_of_ble_eq_true rfl) ⟨Nat.le_of_ble_eq_true rfl, Nat.le_of_ble_eq_true rfl⟩ ⟨Nat.le_of_ble_eq_true rfl, Nat.le_of_ble_eq_true rfl⟩ dX5_closeBracket_98 (fun _ _ q => False.elim q) (kI (fun r_5 G_6 hr_5 h hG_6 => ?_))
        refine a_pop (pc := 101) X9 dX5_closeBracket_101 rfl ?_
        refine a_iinc (pc := 102) X9 dX5_closeBracket_102 rfl (Nat.le_of_ble_eq_true rfl) rfl rfl ?_
        refine a_goto (pc := 105) (tgt := 77) X9 dX5_closeBracket_105 rfl ?_
        have q_1 : inR (x5_1) := h_x5_1
        have g_7 : inR ((x5_1 + (-1))) := ⟨by omega, by omega⟩
        exact hk_1 _ _ h g_7 hG_6
    · have c_2 := c
      have h := h.2 c_2
      refine a_aload_n (pc := 60) X9 dX5_closeBracket_60 rfl rfl ?_
      refine a_iconst (pc := 61) X9 dX5_closeBracket_61 ?_
      refine a_callV (pc := 62) X9 E (m_X5_fail (show inR 4 by decide) hnn h) okX5 (is5 hnn) wM_X5_58 w_instanceMethod_X5_fail w_selects_X5_fail w_initialized_RX5 w_code_X5_fail cp_X5_fail pn_X5_fail rfl (Nat.le_of_ble_eq_true rfl) ⟨Nat.le_of_ble_eq_true rfl, Nat.le_of_ble_eq_true rfl⟩ ⟨Nat.le_of_ble_eq_true rfl, Nat.le_of_ble_eq_true rfl⟩ dX5_closeBracket_62 (fun _ _ q => False.elim q) (kZ (fun r_6 G_7 hr_6 h hG_7 => ?_))
      exact a_ireturn (pc := 65) X9 E rfl (fit_bool hr_6).1 (Nat.le_of_ble_eq_true rfl) (Nat.le_of_ble_eq_true rfl) dX5_closeBracket_65 ⟨rfl, _, rfl, hr_6, h⟩
  · have c_1 := c
    have h := h.2 c_1
    refine a_iconst (pc := 14) X9 dX5_closeBracket_14 ?_
    exact a_ireturn (pc := 15) X9 E rfl (fit_bool (Or.inl rfl)).1 (Nat.le_of_ble_eq_true rfl) (Nat.le_of_ble_eq_true rfl) dX5_closeBracket_15 ⟨rfl, _, rfl, (Or.inl rfl), h⟩
set_option maxHeartbeats 4000000 in
set_option maxRecDepth 100000 in
theorem m_X5_readHymn {nn : Nat} {a1 : Nat} {i2 : Int} {G : GH} {Q : Int → GH → Prop} (ha1 : a1 ∈ L6) (hi2 : inR i2) (hnn : 272 ≤ nn) (h : f_X5_readHymn a1 i2 G Q) : Mt yX5_readHymn cX5_readHymn 3 (some .boolean) 2 44 0 0 [vr 41, vr a1, vi i2] (SF nn) G (fun v S' G' => S' = SF nn ∧ qZ Q v S' G') (fun E S' G' => S' = SF nn ∧ False) := by
  refine Mt.of (l0 := [some (vr 41), some (vr a1), some (vi i2)]) (by decide) (Nat.le_of_ble_eq_true rfl) rfl ?_
  intro κ δ ρ0 X9 E hG
  replace X9 : CX κ δ RX5 cX5_readHymn 3 (some .boolean) := X9
  refine a_aload_n (pc := 0) X9 dX5_readHymn_0 rfl rfl ?_
  refine a_iconst (pc := 1) X9 dX5_readHymn_1 ?_
  refine a_sipush (pc := 2) X9 dX5_readHymn_2 rfl ?_
  refine a_callV (pc := 5) X9 E (m_X5_isNumber (show inR 1 by decide) (show inR 999 by decide) hnn h) okX5 (is5 hnn) wM_X5_95 w_instanceMethod_X5_isNumber w_selects_X5_isNumber w_initialized_RX5 w_code_X5_isNumber cp_X5_isNumber pn_X5_isNumber rfl (Nat.le_of_ble_eq_true rfl) ⟨Nat.le_of_ble_eq_true rfl, Nat.le_of_ble_eq_true rfl⟩ ⟨Nat.le_of_ble_eq_true rfl, Nat.le_of_ble_eq_true rfl⟩ dX5_readHymn_5 (fun _ _ q => False.elim q) (kZ (fun r_1 G_1 hr_1 h hG_1 => ?_))
  refine a_if_ne (pc := 8) (tgt := 13) X9 dX5_readHymn_8 rfl (bool_inR hr_1) (fun c => ?_) (fun c => ?_)
  · have c_1 := c
    have h := h.1 c_1
    refine a_aload_n (pc := 13) X9 dX5_readHymn_13 rfl rfl ?_
    refine a_getR (pc := 14) X9 (q := (a1 + 1)) okX6 1 rfl wF_X5_149 (is6 ha1 hnn) (rf6_1 _ ha1) dX5_readHymn_14 ?_
    refine a_iload_n (pc := 17) X9 dX5_readHymn_17 rfl rfl ?_
    obtain ⟨g_1, h⟩ := h
    refine b_iald (pc := 18) X9 (ar6_1 ha1 hnn) (Nat.le_of_ble_eq_true rfl) g_1 dX5_readHymn_18 ?_
    refine a_bipush (pc := 19) X9 dX5_readHymn_19 rfl ?_
    refine a_icmp_ne (pc := 21) (tgt := 30) X9 dX5_readHymn_21 rfl (hG_1 _ _) (by decide) (fun c => ?_) (fun c => ?_)
    · have c_2 := c
      have h := h.1 c_2
      refine a_aload_n (pc := 30) X9 dX5_readHymn_30 rfl rfl ?_
      refine a_iload_n (pc := 31) X9 dX5_readHymn_31 rfl rfl ?_
      refine a_aload_n (pc := 32) X9 dX5_readHymn_32 rfl rfl ?_
      refine a_getI (pc := 33) X9 okX5 8 rfl wF_X5_102 (is5 hnn) dX5_readHymn_33 ?_
      refine a_callV (pc := 36) X9 E (m_X6_lengthen ha1 hi2 (hG_1 _ _) hnn h) okX6 (is6 ha1 hnn) wM_X5_161 w_instanceMethod_X6_lengthen w_selects_X6_lengthen w_initialized_RX6 w_code_X6_lengthen cp_X6_lengthen pn_X6_lengthen rfl (Nat.le_of_ble_eq_true rfl) ⟨Nat.le_of_ble_eq_true rfl, Nat.le_of_ble_eq_true rfl⟩ ⟨Nat.le_of_ble_eq_true rfl, Nat.le_of_ble_eq_true rfl⟩ dX5_readHymn_36 (fun _ _ q => False.elim q) (kI (fun r_2 G_2 hr_2 h hG_2 => ?_))
      refine a_pop (pc := 39) X9 dX5_readHymn_39 rfl ?_
      refine a_aload_n (pc := 40) X9 dX5_readHymn_40 rfl rfl ?_
      refine a_callV (pc := 41) X9 E (m_X5_advance  hnn h) okX5 (is5 hnn) wM_X5_41 w_instanceMethod_X5_advance w_selects_X5_advance w_initialized_RX5 w_code_X5_advance cp_X5_advance pn_X5_advance rfl (Nat.le_of_ble_eq_true rfl) ⟨Nat.le_of_ble_eq_true rfl, Nat.le_of_ble_eq_true rfl⟩ ⟨Nat.le_of_ble_eq_true rfl, Nat.le_of_ble_eq_true rfl⟩ dX5_readHymn_41 (fun _ _ q => False.elim q) (kV (fun G_3 h hG_3 => ?_))
      refine a_iconst (pc := 44) X9 dX5_readHymn_44 ?_
      exact a_ireturn (pc := 45) X9 E rfl (fit_bool (Or.inr rfl)).1 (Nat.le_of_ble_eq_true rfl) (Nat.le_of_ble_eq_true rfl) dX5_readHymn_45 ⟨rfl, _, rfl, (Or.inr rfl), h⟩
    · have c_2 := c
      have h := h.2 c_2
      refine a_aload_n (pc := 24) X9 dX5_readHymn_24 rfl rfl ?_
      refine a_iconst (pc := 25) X9 dX5_readHymn_25 ?_
      refine a_callV (pc := 26) X9 E (m_X5_fail (show inR 4 by decide) hnn h) okX5 (is5 hnn) wM_X5_58 w_instanceMethod_X5_fail w_selects_X5_fail w_initialized_RX5 w_code_X5_fail cp_X5_fail pn_X5_fail rfl (Nat.le_of_ble_eq_true rfl) ⟨Nat.le_of_ble_eq_true rfl, Nat.le_of_ble_eq_true rfl⟩ ⟨Nat.le_of_ble_eq_true rfl, Nat.le_of_ble_eq_true rfl⟩ dX5_readHymn_26 (fun _ _ q => False.elim q) (kZ (fun r_4 G_4 hr_4 h hG_4 => ?_))
      exact a_ireturn (pc := 29) X9 E rfl (fit_bool hr_4).1 (Nat.le_of_ble_eq_true rfl) (Nat.le_of_ble_eq_true rfl) dX5_readHymn_29 ⟨rfl, _, rfl, hr_4, h⟩
  · have c_1 := c
    have h := h.2 c_1
    refine a_iconst (pc := 11) X9 dX5_readHymn_11 ?_
    exact a_ireturn (pc := 12) X9 E rfl (fit_bool (Or.inl rfl)).1 (Nat.le_of_ble_eq_true rfl) (Nat.le_of_ble_eq_true rfl) dX5_readHymn_12 ⟨rfl, _, rfl, (Or.inl rfl), h⟩
set_option maxHeartbeats 4000000 in
set_option maxRecDepth 100000 in
theorem m_X5_readService {nn : Nat} {a1 : Nat} {G : GH} {Q : Int → GH → Prop} (ha1 : a1 ∈ L6) (hnn : 272 ≤ nn) (h : f_X5_readService a1 G Q) : Mt yX5_readService cX5_readService 6 (some .boolean) 3 69 0 0 [vr 41, vr a1] (SF nn) G (fun v S' G' => S' = SF nn ∧ qZ Q v S' G') (fun E S' G' => S' = SF nn ∧ False) := by
  refine Mt.of (l0 := [some (vr 41), some (vr a1), none, none, none, none]) (by decide) (Nat.le_of_ble_eq_true rfl) rfl ?_
  intro κ δ ρ0 X9 E hG
  replace X9 : CX κ δ RX5 cX5_readService 6 (some .boolean) := X9
  refine a_aload_n (pc := 0) X9 dX5_readService_0 rfl rfl ?_
  refine a_getI (pc := 1) X9 okX6 0 rfl wF_X5_137 (is6 ha1 hnn) dX5_readService_1 ?_
  refine a_bipush (pc := 4) X9 dX5_readService_4 rfl ?_
  refine a_icmp_ne (pc := 6) (tgt := 15) X9 dX5_readService_6 rfl (hG _ _) (by decide) (fun c => ?_) (fun c => ?_)
  · have c_1 := c
    have h := h.1 c_1
    refine a_aload_n (pc := 15) X9 dX5_readService_15 rfl rfl ?_
    refine a_callV (pc := 16) X9 E (m_X6_addEmpty ha1 hnn h) okX6 (is6 ha1 hnn) wM_X5_142 w_instanceMethod_X6_addEmpty w_selects_X6_addEmpty w_initialized_RX6 w_code_X6_addEmpty cp_X6_addEmpty pn_X6_addEmpty rfl (Nat.le_of_ble_eq_true rfl) ⟨Nat.le_of_ble_eq_true rfl, Nat.le_of_ble_eq_true rfl⟩ ⟨Nat.le_of_ble_eq_true rfl, Nat.le_of_ble_eq_true rfl⟩ dX5_readService_16 (fun _ _ q => False.elim q) (kI (fun r_1 G_1 hr_1 h hG_1 => ?_))
    refine a_istore_n (pc := 19) X9 dX5_readService_19 rfl (Nat.le_of_ble_eq_true rfl) rfl rfl ?_
    refine a_aload_n (pc := 20) X9 dX5_readService_20 rfl rfl ?_
    refine a_iconst (pc := 21) X9 dX5_readService_21 ?_
    refine a_putI (pc := 22) X9 okX5 9 rfl rfl (v := 0) wF_X5_146 (is5 hnn) dX5_readService_22 (by decide) (fit_int _) (fun _ => ?_)
    obtain ⟨G_2, eG_2⟩ : ∃ G9, G9 = upG G_1 41 9 0 := ⟨_, rfl⟩
    have hG_2 : GR G_2 := by rw [eG_2]; exact (GR.up hG_1 (by decide))
    have h := h G_2 eG_2
    rw [← eG_2]
    refine a_aload_n (pc := 25) X9 dX5_readService_25 rfl rfl ?_
    refine a_callV (pc := 26) X9 E (m_X5_advance  hnn h) okX5 (is5 hnn) wM_X5_41 w_instanceMethod_X5_advance w_selects_X5_advance w_initialized_RX5 w_code_X5_advance cp_X5_advance pn_X5_advance rfl (Nat.le_of_ble_eq_true rfl) ⟨Nat.le_of_ble_eq_true rfl, Nat.le_of_ble_eq_true rfl⟩ ⟨Nat.le_of_ble_eq_true rfl, Nat.le_of_ble_eq_true rfl⟩ dX5_readService_26 (fun _ _ q => False.elim q) (kV (fun G_3 h hG_3 => ?_))
    refine a_iconst (pc := 29) X9 dX5_readService_29 ?_
    refine a_istore_n (pc := 30) X9 dX5_readService_30 rfl (Nat.le_of_ble_eq_true rfl) rfl rfl ?_
    refine a_iconst (pc := 31) X9 dX5_readService_31 ?_
    refine a_istore (pc := 32) X9 dX5_readService_32 (Nat.le_of_ble_eq_true rfl) rfl rfl ?_
    refine loopM3 (A := fun x3_1 x4_1 G_4 => inR x3_1 → inR x4_1 → GR G_4 → AW κ δ ρ0 (szF nn) 6 0 0 34 [some (vr 41), some (vr a1), some (vi r_1), some (vi x3_1), some (vi x4_1), none] [] (SF nn) G_4) (fun k_1 hk_1 x3_1 x4_1 G_4 h h_x3_1 h_x4_1 hG_4 => ?_) _ _ _ h (by decide) (by decide) hG_3
    refine a_iload (pc := 34) X9 dX5_readService_34 rfl ?_
    refine a_aload_n (pc := 36) X9 dX5_readService_36 rfl rfl ?_
    refine a_getI (pc := 37) X9 okX5 1 rfl wF_X5_20 (is5 hnn) dX5_readService_37 ?_
    refine a_icmp_gt (pc := 40) (tgt := 147) X9 dX5_readService_40 rfl h_x4_1 (hG_4 _ _) (fun c => ?_) (fun c => ?_)
    · have c_2 := c
      have h := h.1 c_2
      refine a_iconst (pc := 147) X9 dX5_readService_147 ?_
      exact a_ireturn (pc := 148) X9 E rfl (fit_bool (Or.inr rfl)).1 (Nat.le_of_ble_eq_true rfl) (Nat.le_of_ble_eq_true rfl) dX5_readService_148 ⟨rfl, _, rfl, (Or.inr rfl), h⟩
    · have c_2 := c
      have h := h.2 c_2
      refine a_aload_n (pc := 43) X9 dX5_readService_43 rfl rfl ?_
      refine a_bipush (pc := 44) X9 dX5_readService_44 rfl ?_
      refine a_callV (pc := 46) X9 E (m_X5_isSign (show inR 40 by decide) hnn h) okX5 (is5 hnn) wM_X5_48 w_instanceMethod_X5_isSign w_selects_X5_isSign w_initialized_RX5 w_code_X5_isSign cp_X5_isSign pn_X5_isSign rfl (Nat.le_of_ble_eq_true rfl) ⟨Nat.le_of_ble_eq_true rfl, Nat.le_of_ble_eq_true rfl⟩ ⟨Nat.le_of_ble_eq_true rfl, Nat.le_of_ble_eq_true rfl⟩ dX5_readService_46 (fun _ _ q => False.elim q) (kZp (fun r_3 hr_3 h => ?_))
      refine a_if_eq (pc := 49) (tgt := 69) X9 dX5_readService_49 rfl (bool_inR hr_3) (fun c => ?_) (fun c => ?_)
      · have c_3 := c
        have h := h.1 c_3
        refine a_aload_n (pc := 69) X9 dX5_readService_69 rfl rfl ?_
        refine a_bipush (pc := 70) X9 dX5_readService_70 rfl ?_
        refine a_callV (pc := 72) X9 E (m_X5_isSign (show inR 41 by decide) hnn h) okX5 (is5 hnn) wM_X5_48 w_instanceMethod_X5_isSign w_selects_X5_isSign w_initialized_RX5 w_code_X5_isSign cp_X5_isSign pn_X5_isSign rfl (Nat.le_of_ble_eq_true rfl) ⟨Nat.le_of_ble_eq_true rfl, Nat.le_of_ble_eq_true rfl⟩ ⟨Nat.le_of_ble_eq_true rfl, Nat.le_of_ble_eq_true rfl⟩ dX5_readService_72 (fun _ _ q => False.elim q) (kZp (fun r_4 hr_4 h => ?_))
        refine a_if_eq (pc := 75) (tgt := 100) X9 dX5_readService_75 rfl (bool_inR hr_4) (fun c => ?_) (fun c => ?_)
        · have c_4 := c
          have h := h.1 c_4
          refine a_aload_n (pc := 100) X9 dX5_readService_100 rfl rfl ?_
          refine a_getI (pc := 101) X9 okX5 5 rfl wF_X5_55 (is5 hnn) dX5_readService_101 ?_
          refine a_iconst (pc := 104) X9 dX5_readService_104 ?_
          refine a_icmp_eq (pc := 105) (tgt := 119) X9 dX5_readService_105 rfl (hG_4 _ _) (by decide) (fun c => ?_) (fun c => ?_)
          · have c_5 := c
            have h := h.1 c_5
            refine a_aload_n (pc := 119) X9 dX5_readService_119 rfl rfl ?_
            refine a_aload_n (pc := 120) X9 dX5_readService_120 rfl rfl ?_
            refine a_iload_n (pc := 121) X9 dX5_readService_121 rfl rfl ?_
            refine a_callV (pc := 122) X9 E (m_X5_readHymn ha1 hr_1 hnn h) okX5 (is5 hnn) wM_X5_158 w_instanceMethod_X5_readHymn w_selects_X5_readHymn w_initialized_RX5 w_code_X5_readHymn cp_X5_readHymn pn_X5_readHymn rfl (Nat.le_of_ble_eq_true rfl) ⟨Nat.le_of_ble_eq_true rfl, Nat.le_of_ble_eq_true rfl⟩ ⟨Nat.le_of_ble_eq_true rfl, Nat.le_of_ble_eq_true rfl⟩ dX5_readService_122 (fun _ _ q => False.elim q) (kZ (fun r_5 G_5 hr_5 h hG_5 => ?_))
            refine a_istore (pc := 125) X9 dX5_readService_125 (Nat.le_of_ble_eq_true rfl) rfl rfl ?_
            refine a_iconst (pc := 127) X9 dX5_readService_127 ?_
            refine a_istore_n (pc := 128) X9 dX5_readService_128 rfl (Nat.le_of_ble_eq_true rfl) rfl rfl ?_
            refine a_goto (pc := 129) (tgt := 134) X9 dX5_readService_129 rfl ?_
            refine a_iload (pc := 134) X9 dX5_readService_134 rfl ?_
            refine a_if_ne (pc := 136) (tgt := 141) X9 dX5_readService_136 rfl (bool_inR hr_5) (fun c => ?_) (fun c => ?_)
            · have c_6 := c
              have h := h.1 c_6
              refine a_iinc (pc := 141) X9 dX5_readService_141 rfl (Nat.le_of_ble_eq_true rfl) rfl rfl ?_
              refine a_goto (pc := 144) (tgt := 34) X9 dX5_readService_144 rfl ?_
              obtain ⟨g_1, h⟩ := h
              refine AW.drop 5 rfl ?_
              exact hk_1 _ _ _ h (by decide) g_1 hG_5
            · have c_6 := c
              have h := h.2 c_6
              refine a_iconst (pc := 139) X9 dX5_readService_139 ?_
              exact a_ireturn (pc := 140) X9 E rfl (fit_bool (Or.inl rfl)).1 (Nat.le_of_ble_eq_true rfl) (Nat.le_of_ble_eq_true rfl) dX5_readService_140 ⟨rfl, _, rfl, (Or.inl rfl), h⟩
          · have c_5 := c
            have h := h.2 c_5
            refine a_iload_n (pc := 108) X9 dX5_readService_108 rfl rfl ?_
            refine a_if_ne (pc := 109) (tgt := 119) X9 dX5_readService_109 rfl h_x3_1 (fun c => ?_) (fun c => ?_)
            · have c_7 := c
              have h := h.1 c_7
              refine a_aload_n (pc := 119) X9 dX5_readService_119 rfl rfl ?_
              refine a_aload_n (pc := 120) X9 dX5_readService_120 rfl rfl ?_
              refine a_iload_n (pc := 121) X9 dX5_readService_121 rfl rfl ?_
              refine a_callV (pc := 122) X9 E (m_X5_readHymn ha1 hr_1 hnn h) okX5 (is5 hnn) wM_X5_158 w_instanceMethod_X5_readHymn w_selects_X5_readHymn w_initialized_RX5 w_code_X5_readHymn cp_X5_readHymn pn_X5_readHymn rfl (Nat.le_of_ble_eq_true rfl) ⟨Nat.le_of_ble_eq_true rfl, Nat.le_of_ble_eq_true rfl⟩ ⟨Nat.le_of_ble_eq_true rfl, Nat.le_of_ble_eq_true rfl⟩ dX5_readService_122 (fun _ _ q => False.elim q) (kZ (fun r_6 G_6 hr_6 h hG_6 => ?_))
              refine a_istore (pc := 125) X9 dX5_readService_125 (Nat.le_of_ble_eq_true rfl) rfl rfl ?_
              refine a_iconst (pc := 127) X9 dX5_readService_127 ?_
              refine a_istore_n (pc := 128) X9 dX5_readService_128 rfl (Nat.le_of_ble_eq_true rfl) rfl rfl ?_
              refine a_goto (pc := 129) (tgt := 134) X9 dX5_readService_129 rfl ?_
              refine a_iload (pc := 134) X9 dX5_readService_134 rfl ?_
              refine a_if_ne (pc := 136) (tgt := 141) X9 dX5_readService_136 rfl (bool_inR hr_6) (fun c => ?_) (fun c => ?_)
              · have c_8 := c
                have h := h.1 c_8
                refine a_iinc (pc := 141) X9 dX5_readService_141 rfl (Nat.le_of_ble_eq_true rfl) rfl rfl ?_
                refine a_goto (pc := 144) (tgt := 34) X9 dX5_readService_144 rfl ?_
                obtain ⟨g_2, h⟩ := h
                refine AW.drop 5 rfl ?_
                exact hk_1 _ _ _ h (by decide) g_2 hG_6
              · have c_8 := c
                have h := h.2 c_8
                refine a_iconst (pc := 139) X9 dX5_readService_139 ?_
                exact a_ireturn (pc := 140) X9 E rfl (fit_bool (Or.inl rfl)).1 (Nat.le_of_ble_eq_true rfl) (Nat.le_of_ble_eq_true rfl) dX5_readService_140 ⟨rfl, _, rfl, (Or.inl rfl), h⟩
            · have c_7 := c
              have h := h.2 c_7
              refine a_aload_n (pc := 112) X9 dX5_readService_112 rfl rfl ?_
              refine a_getI (pc := 113) X9 okX5 9 rfl wF_X5_146 (is5 hnn) dX5_readService_113 ?_
              refine a_if_le (pc := 116) (tgt := 132) X9 dX5_readService_116 rfl (hG_4 _ _) (fun c => ?_) (fun c => ?_)
              · have c_9 := c
                have h := h.1 c_9
                refine a_iconst (pc := 132) X9 dX5_readService_132 ?_
                exact a_ireturn (pc := 133) X9 E rfl (fit_bool (Or.inr rfl)).1 (Nat.le_of_ble_eq_true rfl) (Nat.le_of_ble_eq_true rfl) dX5_readService_133 ⟨rfl, _, rfl, (Or.inr rfl), h⟩
              · have c_9 := c
                have h := h.2 c_9
                refine a_aload_n (pc := 119) X9 dX5_readService_119 rfl rfl ?_
                refine a_aload_n (pc := 120) X9 dX5_readService_120 rfl rfl ?_
                refine a_iload_n (pc := 121) X9 dX5_readService_121 rfl rfl ?_
                refine a_callV (pc := 122) X9 E (m_X5_readHymn ha1 hr_1 hnn h) okX5 (is5 hnn) wM_X5_158 w_instanceMethod_X5_readHymn w_selects_X5_readHymn w_initialized_RX5 w_code_X5_readHymn cp_X5_readHymn pn_X5_readHymn rfl (Nat.le_of_ble_eq_true rfl) ⟨Nat.le_of_ble_eq_true rfl, Nat.le_of_ble_eq_true rfl⟩ ⟨Nat.le_of_ble_eq_true rfl, Nat.le_of_ble_eq_true rfl⟩ dX5_readService_122 (fun _ _ q => False.elim q) (kZ (fun r_7 G_7 hr_7 h hG_7 => ?_))
                refine a_istore (pc := 125) X9 dX5_readService_125 (Nat.le_of_ble_eq_true rfl) rfl rfl ?_
                refine a_iconst (pc := 127) X9 dX5_readService_127 ?_
                refine a_istore_n (pc := 128) X9 dX5_readService_128 rfl (Nat.le_of_ble_eq_true rfl) rfl rfl ?_
                refine a_goto (pc := 129) (tgt := 134) X9 dX5_readService_129 rfl ?_
                refine a_iload (pc := 134) X9 dX5_readService_134 rfl ?_
                refine a_if_ne (pc := 136) (tgt := 141) X9 dX5_readService_136 rfl (bool_inR hr_7) (fun c => ?_) (fun c => ?_)
                · have c_10 := c
                  have h := h.1 c_10
                  refine a_iinc (pc := 141) X9 dX5_readService_141 rfl (Nat.le_of_ble_eq_true rfl) rfl rfl ?_
                  refine a_goto (pc := 144) (tgt := 34) X9 dX5_readService_144 rfl ?_
                  obtain ⟨g_3, h⟩ := h
                  refine AW.drop 5 rfl ?_
                  exact hk_1 _ _ _ h (by decide) g_3 hG_7
                · have c_10 := c
                  have h := h.2 c_10
                  refine a_iconst (pc := 139) X9 dX5_readService_139 ?_
                  exact a_ireturn (pc := 140) X9 E rfl (fit_bool (Or.inl rfl)).1 (Nat.le_of_ble_eq_true rfl) (Nat.le_of_ble_eq_true rfl) dX5_readService_140 ⟨rfl, _, rfl, (Or.inl rfl), h⟩
        · have c_4 := c
          have h := h.2 c_4
          refine a_aload_n (pc := 78) X9 dX5_readService_78 rfl rfl ?_
          refine a_getI (pc := 79) X9 okX5 9 rfl wF_X5_146 (is5 hnn) dX5_readService_79 ?_
          refine a_if_le (pc := 82) (tgt := 100) X9 dX5_readService_82 rfl (hG_4 _ _) (fun c => ?_) (fun c => ?_)
          · have c_11 := c
            have h := h.1 c_11
            refine a_aload_n (pc := 100) X9 dX5_readService_100 rfl rfl ?_
            refine a_getI (pc := 101) X9 okX5 5 rfl wF_X5_55 (is5 hnn) dX5_readService_101 ?_
            refine a_iconst (pc := 104) X9 dX5_readService_104 ?_
            refine a_icmp_eq (pc := 105) (tgt := 119) X9 dX5_readService_105 rfl (hG_4 _ _) (by decide) (fun c => ?_) (fun c => ?_)
            · have c_12 := c
              have h := h.1 c_12
              refine a_aload_n (pc := 119) X9 dX5_readService_119 rfl rfl ?_
              refine a_aload_n (pc := 120) X9 dX5_readService_120 rfl rfl ?_
              refine a_iload_n (pc := 121) X9 dX5_readService_121 rfl rfl ?_
              refine a_callV (pc := 122) X9 E (m_X5_readHymn ha1 hr_1 hnn h) okX5 (is5 hnn) wM_X5_158 w_instanceMethod_X5_readHymn w_selects_X5_readHymn w_initialized_RX5 w_code_X5_readHymn cp_X5_readHymn pn_X5_readHymn rfl (Nat.le_of_ble_eq_true rfl) ⟨Nat.le_of_ble_eq_true rfl, Nat.le_of_ble_eq_true rfl⟩ ⟨Nat.le_of_ble_eq_true rfl, Nat.le_of_ble_eq_true rfl⟩ dX5_readService_122 (fun _ _ q => False.elim q) (kZ (fun r_8 G_8 hr_8 h hG_8 => ?_))
              refine a_istore (pc := 125) X9 dX5_readService_125 (Nat.le_of_ble_eq_true rfl) rfl rfl ?_
              refine a_iconst (pc := 127) X9 dX5_readService_127 ?_
              refine a_istore_n (pc := 128) X9 dX5_readService_128 rfl (Nat.le_of_ble_eq_true rfl) rfl rfl ?_
              refine a_goto (pc := 129) (tgt := 134) X9 dX5_readService_129 rfl ?_
              refine a_iload (pc := 134) X9 dX5_readService_134 rfl ?_
              refine a_if_ne (pc := 136) (tgt := 141) X9 dX5_readService_136 rfl (bool_inR hr_8) (fun c => ?_) (fun c => ?_)
              · have c_13 := c
                have h := h.1 c_13
                refine a_iinc (pc := 141) X9 dX5_readService_141 rfl (Nat.le_of_ble_eq_true rfl) rfl rfl ?_
                refine a_goto (pc := 144) (tgt := 34) X9 dX5_readService_144 rfl ?_
                obtain ⟨g_4, h⟩ := h
                refine AW.drop 5 rfl ?_
                exact hk_1 _ _ _ h (by decide) g_4 hG_8
              · have c_13 := c
                have h := h.2 c_13
                refine a_iconst (pc := 139) X9 dX5_readService_139 ?_
                exact a_ireturn (pc := 140) X9 E rfl (fit_bool (Or.inl rfl)).1 (Nat.le_of_ble_eq_true rfl) (Nat.le_of_ble_eq_true rfl) dX5_readService_140 ⟨rfl, _, rfl, (Or.inl rfl), h⟩
            · have c_12 := c
              have h := h.2 c_12
              refine a_iload_n (pc := 108) X9 dX5_readService_108 rfl rfl ?_
              refine a_if_ne (pc := 109) (tgt := 119) X9 dX5_readService_109 rfl h_x3_1 (fun c => ?_) (fun c => ?_)
              · have c_14 := c
                have h := h.1 c_14
                refine a_aload_n (pc := 119) X9 dX5_readService_119 rfl rfl ?_
                refine a_aload_n (pc := 120) X9 dX5_readService_120 rfl rfl ?_
                refine a_iload_n (pc := 121) X9 dX5_readService_121 rfl rfl ?_
                refine a_callV (pc := 122) X9 E (m_X5_readHymn ha1 hr_1 hnn h) okX5 (is5 hnn) wM_X5_158 w_instanceMethod_X5_readHymn w_selects_X5_readHymn w_initialized_RX5 w_code_X5_readHymn cp_X5_readHymn pn_X5_readHymn rfl (Nat.le_of_ble_eq_true rfl) ⟨Nat.le_of_ble_eq_true rfl, Nat.le_of_ble_eq_true rfl⟩ ⟨Nat.le_of_ble_eq_true rfl, Nat.le_of_ble_eq_true rfl⟩ dX5_readService_122 (fun _ _ q => False.elim q) (kZ (fun r_9 G_9 hr_9 h hG_9 => ?_))
                refine a_istore (pc := 125) X9 dX5_readService_125 (Nat.le_of_ble_eq_true rfl) rfl rfl ?_
                refine a_iconst (pc := 127) X9 dX5_readService_127 ?_
                refine a_istore_n (pc := 128) X9 dX5_readService_128 rfl (Nat.le_of_ble_eq_true rfl) rfl rfl ?_
                refine a_goto (pc := 129) (tgt := 134) X9 dX5_readService_129 rfl ?_
                refine a_iload (pc := 134) X9 dX5_readService_134 rfl ?_
                refine a_if_ne (pc := 136) (tgt := 141) X9 dX5_readService_136 rfl (bool_inR hr_9) (fun c => ?_) (fun c => ?_)
                · have c_15 := c
                  have h := h.1 c_15
                  refine a_iinc (pc := 141) X9 dX5_readService_141 rfl (Nat.le_of_ble_eq_true rfl) rfl rfl ?_
                  refine a_goto (pc := 144) (tgt := 34) X9 dX5_readService_144 rfl ?_
                  obtain ⟨g_5, h⟩ := h
                  refine AW.drop 5 rfl ?_
                  exact hk_1 _ _ _ h (by decide) g_5 hG_9
                · have c_15 := c
                  have h := h.2 c_15
                  refine a_iconst (pc := 139) X9 dX5_readService_139 ?_
                  exact a_ireturn (pc := 140) X9 E rfl (fit_bool (Or.inl rfl)).1 (Nat.le_of_ble_eq_true rfl) (Nat.le_of_ble_eq_true rfl) dX5_readService_140 ⟨rfl, _, rfl, (Or.inl rfl), h⟩
              · have c_14 := c
                have h := h.2 c_14
                refine a_aload_n (pc := 112) X9 dX5_readService_112 rfl rfl ?_
                refine a_getI (pc := 113) X9 okX5 9 rfl wF_X5_146 (is5 hnn) dX5_readService_113 ?_
                refine a_if_le (pc := 116) (tgt := 132) X9 dX5_readService_116 rfl (hG_4 _ _) (fun c => ?_) (fun c => ?_)
                · have c_16 := c
                  have h := h.1 c_16
                  refine a_iconst (pc := 132) X9 dX5_readService_132 ?_
                  exact a_ireturn (pc := 133) X9 E rfl (fit_bool (Or.inr rfl)).1 (Nat.le_of_ble_eq_true rfl) (Nat.le_of_ble_eq_true rfl) dX5_readService_133 ⟨rfl, _, rfl, (Or.inr rfl), h⟩
                · have c_16 := c
                  have h := h.2 c_16
                  refine a_aload_n (pc := 119) X9 dX5_readService_119 rfl rfl ?_
                  refine a_aload_n (pc := 120) X9 dX5_readService_120 rfl rfl ?_
                  refine a_iload_n (pc := 121) X9 dX5_readService_121 rfl rfl ?_
                  refine a_callV (pc := 122) X9 E (m_X5_readHymn ha1 hr_1 hnn h) okX5 (is5 hnn) wM_X5_158 w_instanceMethod_X5_readHymn w_selects_X5_readHymn w_initialized_RX5 w_code_X5_readHymn cp_X5_readHymn pn_X5_readHymn rfl (Nat.le_of_ble_eq_true rfl) ⟨Nat.le_of_ble_eq_true rfl, Nat.le_of_ble_eq_true rfl⟩ ⟨Nat.le_of_ble_eq_true rfl, Nat.le_of_ble_eq_true rfl⟩ dX5_readService_122 (fun _ _ q => False.elim q) (kZ (fun r_10 G_10 hr_10 h hG_10 => ?_))
                  refine a_istore (pc := 125) X9 dX5_readService_125 (Nat.le_of_ble_eq_true rfl) rfl rfl ?_
                  refine a_iconst (pc := 127) X9 dX5_readService_127 ?_
                  refine a_istore_n (pc := 128) X9 dX5_readService_128 rfl (Nat.le_of_ble_eq_true rfl) rfl rfl ?_
                  refine a_goto (pc := 129) (tgt := 134) X9 dX5_readService_129 rfl ?_
                  refine a_iload (pc := 134) X9 dX5_readService_134 rfl ?_
                  refine a_if_ne (pc := 136) (tgt := 141) X9 dX5_readService_136 rfl (bool_inR hr_10) (fun c => ?_) (fun c => ?_)
                  · have c_17 := c
                    have h := h.1 c_17
                    refine a_iinc (pc := 141) X9 dX5_readService_141 rfl (Nat.le_of_ble_eq_true rfl) rfl rfl ?_
                    refine a_goto (pc := 144) (tgt := 34) X9 dX5_readService_144 rfl ?_
                    obtain ⟨g_6, h⟩ := h
                    refine AW.drop 5 rfl ?_
                    exact hk_1 _ _ _ h (by decide) g_6 hG_10
                  · have c_17 := c
                    have h := h.2 c_17
                    refine a_iconst (pc := 139) X9 dX5_readService_139 ?_
                    exact a_ireturn (pc := 140) X9 E rfl (fit_bool (Or.inl rfl)).1 (Nat.le_of_ble_eq_true rfl) (Nat.le_of_ble_eq_true rfl) dX5_readService_140 ⟨rfl, _, rfl, (Or.inl rfl), h⟩
          · have c_11 := c
            have h := h.2 c_11
            refine a_iload_n (pc := 85) X9 dX5_readService_85 rfl rfl ?_
            refine a_if_ne (pc := 86) (tgt := 100) X9 dX5_readService_86 rfl h_x3_1 (fun c => ?_) (fun c => ?_)
            · have c_18 := c
              have h := h.1 c_18
              refine a_aload_n (pc := 100) X9 dX5_readService_100 rfl rfl ?_
              refine a_getI (pc := 101) X9 okX5 5 rfl wF_X5_55 (is5 hnn) dX5_readService_101 ?_
              refine a_iconst (pc := 104) X9 dX5_readService_104 ?_
              refine a_icmp_eq (pc := 105) (tgt := 119) X9 dX5_readService_105 rfl (hG_4 _ _) (by decide) (fun c => ?_) (fun c => ?_)
              · have c_19 := c
                have h := h.1 c_19
                refine a_aload_n (pc := 119) X9 dX5_readService_119 rfl rfl ?_
                refine a_aload_n (pc := 120) X9 dX5_readService_120 rfl rfl ?_
                refine a_iload_n (pc := 121) X9 dX5_readService_121 rfl rfl ?_
                refine a_callV (pc := 122) X9 E (m_X5_readHymn ha1 hr_1 hnn h) okX5 (is5 hnn) wM_X5_158 w_instanceMethod_X5_readHymn w_selects_X5_readHymn w_initialized_RX5 w_code_X5_readHymn cp_X5_readHymn pn_X5_readHymn rfl (Nat.le_of_ble_eq_true rfl) ⟨Nat.le_of_ble_eq_true rfl, Nat.le_of_ble_eq_true rfl⟩ ⟨Nat.le_of_ble_eq_true rfl, Nat.le_of_ble_eq_true rfl⟩ dX5_readService_122 (fun _ _ q => False.elim q) (kZ (fun r_11 G_11 hr_11 h hG_11 => ?_))
                refine a_istore (pc := 125) X9 dX5_readService_125 (Nat.le_of_ble_eq_true rfl) rfl rfl ?_
                refine a_iconst (pc := 127) X9 dX5_readService_127 ?_
                refine a_istore_n (pc := 128) X9 dX5_readService_128 rfl (Nat.le_of_ble_eq_true rfl) rfl rfl ?_
                refine a_goto (pc := 129) (tgt := 134) X9 dX5_readService_129 rfl ?_
                refine a_iload (pc := 134) X9 dX5_readService_134 rfl ?_
                refine a_if_ne (pc := 136) (tgt := 141) X9 dX5_readService_136 rfl (bool_inR hr_11) (fun c => ?_) (fun c => ?_)
                · have c_20 := c
                  have h := h.1 c_20
                  refine a_iinc (pc := 141) X9 dX5_readService_141 rfl (Nat.le_of_ble_eq_true rfl) rfl rfl ?_
                  refine a_goto (pc := 144) (tgt := 34) X9 dX5_readService_144 rfl ?_
                  obtain ⟨g_7, h⟩ := h
                  refine AW.drop 5 rfl ?_
                  exact hk_1 _ _ _ h (by decide) g_7 hG_11
                · have c_20 := c
                  have h := h.2 c_20
                  refine a_iconst (pc := 139) X9 dX5_readService_139 ?_
                  exact a_ireturn (pc := 140) X9 E rfl (fit_bool (Or.inl rfl)).1 (Nat.le_of_ble_eq_true rfl) (Nat.le_of_ble_eq_true rfl) dX5_readService_140 ⟨rfl, _, rfl, (Or.inl rfl), h⟩
              · have c_19 := c
                have h := h.2 c_19
                refine a_iload_n (pc := 108) X9 dX5_readService_108 rfl rfl ?_
                refine a_if_ne (pc := 109) (tgt := 119) X9 dX5_readService_109 rfl h_x3_1 (fun c => ?_) (fun c => ?_)
                · have c_21 := c
                  have h := h.1 c_21
                  refine a_aload_n (pc := 119) X9 dX5_readService_119 rfl rfl ?_
                  refine a_aload_n (pc := 120) X9 dX5_readService_120 rfl rfl ?_
                  refine a_iload_n (pc := 121) X9 dX5_readService_121 rfl rfl ?_
                  refine a_callV (pc := 122) X9 E (m_X5_readHymn ha1 hr_1 hnn h) okX5 (is5 hnn) wM_X5_158 w_instanceMethod_X5_readHymn w_selects_X5_readHymn w_initialized_RX5 w_code_X5_readHymn cp_X5_readHymn pn_X5_readHymn rfl (Nat.le_of_ble_eq_true rfl) ⟨Nat.le_of_ble_eq_true rfl, Nat.le_of_ble_eq_true rfl⟩ ⟨Nat.le_of_ble_eq_true rfl, Nat.le_of_ble_eq_true rfl⟩ dX5_readService_122 (fun _ _ q => False.elim q) (kZ (fun r_12 G_12 hr_12 h hG_12 => ?_))
                  refine a_istore (pc := 125) X9 dX5_readService_125 (Nat.le_of_ble_eq_true rfl) rfl rfl ?_
                  refine a_iconst (pc := 127) X9 dX5_readService_127 ?_
                  refine a_istore_n (pc := 128) X9 dX5_readService_128 rfl (Nat.le_of_ble_eq_true rfl) rfl rfl ?_
                  refine a_goto (pc := 129) (tgt := 134) X9 dX5_readService_129 rfl ?_
                  refine a_iload (pc := 134) X9 dX5_readService_134 rfl ?_
                  refine a_if_ne (pc := 136) (tgt := 141) X9 dX5_readService_136 rfl (bool_inR hr_12) (fun c => ?_) (fun c => ?_)
                  · have c_22 := c
                    have h := h.1 c_22
                    refine a_iinc (pc := 141) X9 dX5_readService_141 rfl (Nat.le_of_ble_eq_true rfl) rfl rfl ?_
                    refine a_goto (pc := 144) (tgt := 34) X9 dX5_readService_144 rfl ?_
                    obtain ⟨g_8, h⟩ := h
                    refine AW.drop 5 rfl ?_
                    exact hk_1 _ _ _ h (by decide) g_8 hG_12
                  · have c_22 := c
                    have h := h.2 c_22
                    refine a_iconst (pc := 139) X9 dX5_readService_139 ?_
                    exact a_ireturn (pc := 140) X9 E rfl (fit_bool (Or.inl rfl)).1 (Nat.le_of_ble_eq_true rfl) (Nat.le_of_ble_eq_true rfl) dX5_readService_140 ⟨rfl, _, rfl, (Or.inl rfl), h⟩
                · have c_21 := c
                  have h := h.2 c_21
                  refine a_aload_n (pc := 112) X9 dX5_readService_112 rfl rfl ?_
                  refine a_getI (pc := 113) X9 okX5 9 rfl wF_X5_146 (is5 hnn) dX5_readService_113 ?_
                  refine a_if_le (pc := 116) (tgt := 132) X9 dX5_readService_116 rfl (hG_4 _ _) (fun c => ?_) (fun c => ?_)
                  · have c_23 := c
                    have h := h.1 c_23
                    refine a_iconst (pc := 132) X9 dX5_readService_132 ?_
                    exact a_ireturn (pc := 133) X9 E rfl (fit_bool (Or.inr rfl)).1 (Nat.le_of_ble_eq_true rfl) (Nat.le_of_ble_eq_true rfl) dX5_readService_133 ⟨rfl, _, rfl, (Or.inr rfl), h⟩
                  · have c_23 := c
                    have h := h.2 c_23
                    refine a_aload_n (pc := 119) X9 dX5_readService_119 rfl rfl ?_
                    refine a_aload_n (pc := 120) X9 dX5_readService_120 rfl rfl ?_
                    refine a_iload_n (pc := 121) X9 dX5_readService_121 rfl rfl ?_
                    refine a_callV (pc := 122) X9 E (m_X5_readHymn ha1 hr_1 hnn h) okX5 (is5 hnn) wM_X5_158 w_instanceMethod_X5_readHymn w_selects_X5_readHymn w_initialized_RX5 w_code_X5_readHymn cp_X5_readHymn pn_X5_readHymn rfl (Nat.le_of_ble_eq_true rfl) ⟨Nat.le_of_ble_eq_true rfl, Nat.le_of_ble_eq_true rfl⟩ ⟨Nat.le_of_ble_eq_true rfl, Nat.le_of_ble_eq_true rfl⟩ dX5_readService_122 (fun _ _ q => False.elim q) (kZ (fun r_13 G_13 hr_13 h hG_13 => ?_))
                    refine a_istore (pc := 125) X9 dX5_readService_125 (Nat.le_of_ble_eq_true rfl) rfl rfl ?_
                    refine a_iconst (pc := 127) X9 dX5_readService_127 ?_
                    refine a_istore_n (pc := 128) X9 dX5_readService_128 rfl (Nat.le_of_ble_eq_true rfl) rfl rfl ?_
                    refine a_goto (pc := 129) (tgt := 134) X9 dX5_readService_129 rfl ?_
                    refine a_iload (pc := 134) X9 dX5_readService_134 rfl ?_
                    refine a_if_ne (pc := 136) (tgt := 141) X9 dX5_readService_136 rfl (bool_inR hr_13) (fun c => ?_) (fun c => ?_)
                    · have c_24 := c
                      have h := h.1 c_24
                      refine a_iinc (pc := 141) X9 dX5_readService_141 rfl (Nat.le_of_ble_eq_true rfl) rfl rfl ?_
                      refine a_goto (pc := 144) (tgt := 34) X9 dX5_readService_144 rfl ?_
                      obtain ⟨g_9, h⟩ := h
                      refine AW.drop 5 rfl ?_
                      exact hk_1 _ _ _ h (by decide) g_9 hG_13
                    · have c_24 := c
                      have h := h.2 c_24
                      refine a_iconst (pc := 139) X9 dX5_readService_139 ?_
                      exact a_ireturn (pc := 140) X9 E rfl (fit_bool (Or.inl rfl)).1 (Nat.le_of_ble_eq_true rfl) (Nat.le_of_ble_eq_true rfl) dX5_readService_140 ⟨rfl, _, rfl, (Or.inl rfl), h⟩
            · have c_18 := c
              have h := h.2 c_18
              refine a_aload_n (pc := 89) X9 dX5_readService_89 rfl rfl ?_
              refine a_aload_n (pc := 90) X9 dX5_readService_90 rfl rfl ?_
              refine a_iload_n (pc := 91) X9 dX5_readService_91 rfl rfl ?_
              refine a_callV (pc := 92) X9 E (m_X5_closeBracket ha1 hr_1 hnn h) okX5 (is5 hnn) wM_X5_154 w_instanceMethod_X5_closeBracket w_selects_X5_closeBracket w_initialized_RX5 w_code_X5_closeBracket cp_X5_closeBracket pn_X5_closeBracket rfl (Nat.le_of_ble_eq_true rfl) ⟨Nat.le_of_ble_eq_true rfl, Nat.le_of_ble_eq_true rfl⟩ ⟨Nat.le_of_ble_eq_true rfl, Nat.le_of_ble_eq_true rfl⟩ dX5_readService_92 (fun _ _ q => False.elim q) (kZ (fun r_14 G_14 hr_14 h hG_14 => ?_))
              refine a_istore (pc := 95) X9 dX5_readService_95 (Nat.le_of_ble_eq_true rfl) rfl rfl ?_
              refine a_goto (pc := 97) (tgt := 134) X9 dX5_readService_97 rfl ?_
              refine a_iload (pc := 134) X9 dX5_readService_134 rfl ?_
              refine a_if_ne (pc := 136) (tgt := 141) X9 dX5_readService_136 rfl (bool_inR hr_14) (fun c => ?_) (fun c => ?_)
              · have c_25 := c
                have h := h.1 c_25
                refine a_iinc (pc := 141) X9 dX5_readService_141 rfl (Nat.le_of_ble_eq_true rfl) rfl rfl ?_
                refine a_goto (pc := 144) (tgt := 34) X9 dX5_readService_144 rfl ?_
                obtain ⟨g_10, h⟩ := h
                refine AW.drop 5 rfl ?_
                exact hk_1 _ _ _ h h_x3_1 g_10 hG_14
              · have c_25 := c
                have h := h.2 c_25
                refine a_iconst (pc := 139) X9 dX5_readService_139 ?_
                exact a_ireturn (pc := 140) X9 E rfl (fit_bool (Or.inl rfl)).1 (Nat.le_of_ble_eq_true rfl) (Nat.le_of_ble_eq_true rfl) dX5_readService_140 ⟨rfl, _, rfl, (Or.inl rfl), h⟩
      · have c_3 := c
        have h := h.2 c_3
        refine a_aload_n (pc := 52) X9 dX5_readService_52 rfl rfl ?_
        refine a_aload_n (pc := 53) X9 dX5_readService_53 rfl rfl ?_
        refine a_getR (pc := 54) X9 (q := (a1 + 1)) okX6 1 rfl wF_X5_149 (is6 ha1 hnn) (rf6_1 _ ha1) dX5_readService_54 ?_
        refine a_iload_n (pc := 57) X9 dX5_readService_57 rfl rfl ?_
        obtain ⟨g_11, h⟩ := h
        refine b_iald (pc := 58) X9 (ar6_1 ha1 hnn) (Nat.le_of_ble_eq_true rfl) g_11 dX5_readService_58 ?_
        refine a_callV (pc := 59) X9 E (m_X5_openBracket (hG_4 _ _) hnn h) okX5 (is5 hnn) wM_X5_151 w_instanceMethod_X5_openBracket w_selects_X5_openBracket w_initialized_RX5 w_code_X5_openBracket cp_X5_openBracket pn_X5_openBracket rfl (Nat.le_of_ble_eq_true rfl) ⟨Nat.le_of_ble_eq_true rfl, Nat.le_of_ble_eq_true rfl⟩ ⟨Nat.le_of_ble_eq_true rfl, Nat.le_of_ble_eq_true rfl⟩ dX5_readService_59 (fun _ _ q => False.elim q) (kZ (fun r_15 G_15 hr_15 h hG_15 => ?_))
        refine a_istore (pc := 62) X9 dX5_readService_62 (Nat.le_of_ble_eq_true rfl) rfl rfl ?_
        refine a_iconst (pc := 64) X9 dX5_readService_64 ?_
        refine a_istore_n (pc := 65) X9 dX5_readService_65 rfl (Nat.le_of_ble_eq_true rfl) rfl rfl ?_
        refine a_goto (pc := 66) (tgt := 134) X9 dX5_readService_66 rfl ?_
        refine a_iload (pc := 134) X9 dX5_readService_134 rfl ?_
        refine a_if_ne (pc := 136) (tgt := 141) X9 dX5_readService_136 rfl (bool_inR hr_15) (fun c => ?_) (fun c => ?_)
        · have c_26 := c
          have h := h.1 c_26
          refine a_iinc (pc := 141) X9 dX5_readService_141 rfl (Nat.le_of_ble_eq_true rfl) rfl rfl ?_
          refine a_goto (pc := 144) (tgt := 34) X9 dX5_readService_144 rfl ?_
          obtain ⟨g_12, h⟩ := h
          refine AW.drop 5 rfl ?_
          exact hk_1 _ _ _ h (by decide) g_12 hG_15
        · have c_26 := c
          have h := h.2 c_26
          refine a_iconst (pc := 139) X9 dX5_readService_139 ?_
          exact a_ireturn (pc := 140) X9 E rfl (fit_bool (Or.inl rfl)).1 (Nat.le_of_ble_eq_true rfl) (Nat.le_of_ble_eq_true rfl) dX5_readService_140 ⟨rfl, _, rfl, (Or.inl rfl), h⟩
  · have c_1 := c
    have h := h.2 c_1
    refine a_aload_n (pc := 9) X9 dX5_readService_9 rfl rfl ?_
    refine a_iconst (pc := 10) X9 dX5_readService_10 ?_
    refine a_callV (pc := 11) X9 E (m_X5_fail (show inR 3 by decide) hnn h) okX5 (is5 hnn) wM_X5_58 w_instanceMethod_X5_fail w_selects_X5_fail w_initialized_RX5 w_code_X5_fail cp_X5_fail pn_X5_fail rfl (Nat.le_of_ble_eq_true rfl) ⟨Nat.le_of_ble_eq_true rfl, Nat.le_of_ble_eq_true rfl⟩ ⟨Nat.le_of_ble_eq_true rfl, Nat.le_of_ble_eq_true rfl⟩ dX5_readService_11 (fun _ _ q => False.elim q) (kZ (fun r_16 G_16 hr_16 h hG_16 => ?_))
    exact a_ireturn (pc := 14) X9 E rfl (fit_bool hr_16).1 (Nat.le_of_ble_eq_true rfl) (Nat.le_of_ble_eq_true rfl) dX5_readService_14 ⟨rfl, _, rfl, hr_16, h⟩
set_option maxHeartbeats 4000000 in
set_option maxRecDepth 100000 in
theorem m_X5_readStatement {nn : Nat} {a1 : Nat} {G : GH} {Q : Int → GH → Prop} (ha1 : a1 ∈ L7) (hnn : 272 ≤ nn) (h : f_X5_readStatement a1 G Q) : Mt yX5_readStatement cX5_readStatement 2 (some .boolean) 6 130 0 0 [vr 41, vr a1] (SF nn) G (fun v S' G' => S' = SF nn ∧ qZ Q v S' G') (fun E S' G' => S' = SF nn ∧ False) := by
  refine Mt.of (l0 := [some (vr 41), some (vr a1)]) (by decide) (Nat.le_of_ble_eq_true rfl) rfl ?_
  intro κ δ ρ0 X9 E hG
  replace X9 : CX κ δ RX5 cX5_readStatement 2 (some .boolean) := X9
  refine a_aload_n (pc := 0) X9 dX5_readStatement_0 rfl rfl ?_
  refine b_ldcs (pc := 1) X9 (i := 3) (List.mem_of_getElem? (i := 3) rfl) dX5_readStatement_1 ?_
  refine a_callV (pc := 3) X9 E (m_X5_isWord (Nat.le_of_ble_eq_true rfl) hnn h) okX5 (is5 hnn) wM_X5_66 w_instanceMethod_X5_isWord w_selects_X5_isWord w_initialized_RX5 w_code_X5_isWord cp_X5_isWord pn_X5_isWord rfl (Nat.le_of_ble_eq_true rfl) ⟨Nat.le_of_ble_eq_true rfl, Nat.le_of_ble_eq_true rfl⟩ ⟨Nat.le_of_ble_eq_true rfl, Nat.le_of_ble_eq_true rfl⟩ dX5_readStatement_3 (fun _ _ q => False.elim q) (kZp (fun r_1 hr_1 h => ?_))
  refine a_if_eq (pc := 6) (tgt := 18) X9 dX5_readStatement_6 rfl (bool_inR hr_1) (fun c => ?_) (fun c => ?_)
  · have c_1 := c
    have h := h.1 c_1
    refine a_aload_n (pc := 18) X9 dX5_readStatement_18 rfl rfl ?_
    refine b_ldcs (pc := 19) X9 (i := 5) (List.mem_of_getElem? (i := 5) rfl) dX5_readStatement_19 ?_
    refine a_callV (pc := 21) X9 E (m_X5_isWord (Nat.le_of_ble_eq_true rfl) hnn h) okX5 (is5 hnn) wM_X5_66 w_instanceMethod_X5_isWord w_selects_X5_isWord w_initialized_RX5 w_code_X5_isWord cp_X5_isWord pn_X5_isWord rfl (Nat.le_of_ble_eq_true rfl) ⟨Nat.le_of_ble_eq_true rfl, Nat.le_of_ble_eq_true rfl⟩ ⟨Nat.le_of_ble_eq_true rfl, Nat.le_of_ble_eq_true rfl⟩ dX5_readStatement_21 (fun _ _ q => False.elim q) (kZp (fun r_2 hr_2 h => ?_))
    refine a_if_eq (pc := 24) (tgt := 36) X9 dX5_readStatement_24 rfl (bool_inR hr_2) (fun c => ?_) (fun c => ?_)
    · have c_2 := c
      have h := h.1 c_2
      refine a_aload_n (pc := 36) X9 dX5_readStatement_36 rfl rfl ?_
      refine b_ldcs (pc := 37) X9 (i := 6) (List.mem_of_getElem? (i := 6) rfl) dX5_readStatement_37 ?_
      refine a_callV (pc := 39) X9 E (m_X5_isWord (Nat.le_of_ble_eq_true rfl) hnn h) okX5 (is5 hnn) wM_X5_66 w_instanceMethod_X5_isWord w_selects_X5_isWord w_initialized_RX5 w_code_X5_isWord cp_X5_isWord pn_X5_isWord rfl (Nat.le_of_ble_eq_true rfl) ⟨Nat.le_of_ble_eq_true rfl, Nat.le_of_ble_eq_true rfl⟩ ⟨Nat.le_of_ble_eq_true rfl, Nat.le_of_ble_eq_true rfl⟩ dX5_readStatement_39 (fun _ _ q => False.elim q) (kZp (fun r_3 hr_3 h => ?_))
      refine a_if_eq (pc := 42) (tgt := 54) X9 dX5_readStatement_42 rfl (bool_inR hr_3) (fun c => ?_) (fun c => ?_)
      · have c_3 := c
        have h := h.1 c_3
        refine a_aload_n (pc := 54) X9 dX5_readStatement_54 rfl rfl ?_
        refine a_iconst (pc := 55) X9 dX5_readStatement_55 ?_
        refine a_callV (pc := 56) X9 E (m_X5_fail (show inR 1 by decide) hnn h) okX5 (is5 hnn) wM_X5_58 w_instanceMethod_X5_fail w_selects_X5_fail w_initialized_RX5 w_code_X5_fail cp_X5_fail pn_X5_fail rfl (Nat.le_of_ble_eq_true rfl) ⟨Nat.le_of_ble_eq_true rfl, Nat.le_of_ble_eq_true rfl⟩ ⟨Nat.le_of_ble_eq_true rfl, Nat.le_of_ble_eq_true rfl⟩ dX5_readStatement_56 (fun _ _ q => False.elim q) (kZ (fun r_4 G_1 hr_4 h hG_1 => ?_))
        exact a_ireturn (pc := 59) X9 E rfl (fit_bool hr_4).1 (Nat.le_of_ble_eq_true rfl) (Nat.le_of_ble_eq_true rfl) dX5_readStatement_59 ⟨rfl, _, rfl, hr_4, h⟩
      · have c_3 := c
        have h := h.2 c_3
        refine a_aload_n (pc := 45) X9 dX5_readStatement_45 rfl rfl ?_
        refine a_aload_n (pc := 46) X9 dX5_readStatement_46 rfl rfl ?_
        refine a_getR (pc := 47) X9 (q := (a1 + 11)) okX7 4 rfl wF_X5_85 (is7 ha1 hnn) (rf7_4 _ ha1) dX5_readStatement_47 ?_
        refine a_callV (pc := 50) X9 E (m_X5_readService (su7_4 _ ha1) hnn h) okX5 (is5 hnn) wM_X5_89 w_instanceMethod_X5_readService w_selects_X5_readService w_initialized_RX5 w_code_X5_readService cp_X5_readService pn_X5_readService rfl (Nat.le_of_ble_eq_true rfl) ⟨Nat.le_of_ble_eq_true rfl, Nat.le_of_ble_eq_true rfl⟩ ⟨Nat.le_of_ble_eq_true rfl, Nat.le_of_ble_eq_true rfl⟩ dX5_readStatement_50 (fun _ _ q => False.elim q) (kZ (fun r_5 G_2 hr_5 h hG_2 => ?_))
        exact a_ireturn (pc := 53) X9 E rfl (fit_bool hr_5).1 (Nat.le_of_ble_eq_true rfl) (Nat.le_of_ble_eq_true rfl) dX5_readStatement_53 ⟨rfl, _, rfl, hr_5, h⟩
    · have c_2 := c
      have h := h.2 c_2
      refine a_aload_n (pc := 27) X9 dX5_readStatement_27 rfl rfl ?_
      refine a_aload_n (pc := 28) X9 dX5_readStatement_28 rfl rfl ?_
      refine a_getR (pc := 29) X9 (q := (a1 + 2)) okX7 3 rfl wF_X5_70 (is7 ha1 hnn) (rf7_3 _ ha1) dX5_readStatement_29 ?_
      refine a_callV (pc := 32) X9 E (m_X5_readFriend (su7_3 _ ha1) hnn h) okX5 (is5 hnn) wM_X5_80 w_instanceMethod_X5_readFriend w_selects_X5_readFriend w_initialized_RX5 w_code_X5_readFriend cp_X5_readFriend pn_X5_readFriend rfl (Nat.le_of_ble_eq_true rfl) ⟨Nat.le_of_ble_eq_true rfl, Nat.le_of_ble_eq_true rfl⟩ ⟨Nat.le_of_ble_eq_true rfl, Nat.le_of_ble_eq_true rfl⟩ dX5_readStatement_32 (fun _ _ q => False.elim q) (kZ (fun r_6 G_3 hr_6 h hG_3 => ?_))
      exact a_ireturn (pc := 35) X9 E rfl (fit_bool hr_6).1 (Nat.le_of_ble_eq_true rfl) (Nat.le_of_ble_eq_true rfl) dX5_readStatement_35 ⟨rfl, _, rfl, hr_6, h⟩
  · have c_1 := c
    have h := h.2 c_1
    refine a_aload_n (pc := 9) X9 dX5_readStatement_9 rfl rfl ?_
    refine a_aload_n (pc := 10) X9 dX5_readStatement_10 rfl rfl ?_
    refine a_getR (pc := 11) X9 (q := (a1 + 2)) okX7 3 rfl wF_X5_70 (is7 ha1 hnn) (rf7_3 _ ha1) dX5_readStatement_11 ?_
    refine a_callV (pc := 14) X9 E (m_X5_readCard (su7_3 _ ha1) hnn h) okX5 (is5 hnn) wM_X5_74 w_instanceMethod_X5_readCard w_selects_X5_readCard w_initialized_RX5 w_code_X5_readCard cp_X5_readCard pn_X5_readCard rfl (Nat.le_of_ble_eq_true rfl) ⟨Nat.le_of_ble_eq_true rfl, Nat.le_of_ble_eq_true rfl⟩ ⟨Nat.le_of_ble_eq_true rfl, Nat.le_of_ble_eq_true rfl⟩ dX5_readStatement_14 (fun _ _ q => False.elim q) (kZ (fun r_7 G_4 hr_7 h hG_4 => ?_))
    exact a_ireturn (pc := 17) X9 E rfl (fit_bool hr_7).1 (Nat.le_of_ble_eq_true rfl) (Nat.le_of_ble_eq_true rfl) dX5_readStatement_17 ⟨rfl, _, rfl, hr_7, h⟩
set_option maxHeartbeats 4000000 in
set_option maxRecDepth 100000 in
theorem m_X5_readInto {nn : Nat} {a1 : Nat} {G : GH} {Q : Int → GH → Prop} (ha1 : a1 ∈ L7) (hnn : 272 ≤ nn) (h : f_X5_readInto a1 G Q) : Mt yX5_readInto cX5_readInto 3 (some .boolean) 7 151 0 0 [vr 41, vr a1] (SF nn) G (fun v S' G' => S' = SF nn ∧ qZ Q v S' G') (fun E S' G' => S' = SF nn ∧ False) := by
  refine Mt.of (l0 := [some (vr 41), some (vr a1), none]) (by decide) (Nat.le_of_ble_eq_true rfl) rfl ?_
  intro κ δ ρ0 X9 E hG
  replace X9 : CX κ δ RX5 cX5_readInto 3 (some .boolean) := X9
  refine a_aload_n (pc := 0) X9 dX5_readInto_0 rfl rfl ?_
  refine a_callV (pc := 1) X9 E (m_X7_startAnew ha1 hnn h) okX7 (is7 ha1 hnn) wM_X5_24 w_instanceMethod_X7_startAnew w_selects_X7_startAnew w_initialized_RX7 w_code_X7_startAnew cp_X7_startAnew pn_X7_startAnew rfl (Nat.le_of_ble_eq_true rfl) ⟨Nat.le_of_ble_eq_true rfl, Nat.le_of_ble_eq_true rfl⟩ ⟨Nat.le_of_ble_eq_true rfl, Nat.le_of_ble_eq_true rfl⟩ dX5_readInto_1 (fun _ _ q => False.elim q) (kV (fun G_1 h hG_1 => ?_))
  refine a_aload_n (pc := 4) X9 dX5_readInto_4 rfl rfl ?_
  refine a_iconst (pc := 5) X9 dX5_readInto_5 ?_
  refine a_putI (pc := 6) X9 okX5 2 rfl rfl (v := 0) wF_X5_29 (is5 hnn) dX5_readInto_6 (by decide) (fit_int _) (fun _ => ?_)
  obtain ⟨G_2, eG_2⟩ : ∃ G9, G9 = upG G_1 41 2 0 := ⟨_, rfl⟩
  have hG_2 : GR G_2 := by rw [eG_2]; exact (GR.up hG_1 (by decide))
  have h := h G_2 eG_2
  rw [← eG_2]
  refine a_aload_n (pc := 9) X9 dX5_readInto_9 rfl rfl ?_
  refine a_iconst (pc := 10) X9 dX5_readInto_10 ?_
  refine a_putI (pc := 11) X9 okX5 3 rfl rfl (v := 0) wF_X5_32 (is5 hnn) dX5_readInto_11 (by decide) (fit_int _) (fun _ => ?_)
  obtain ⟨G_3, eG_3⟩ : ∃ G9, G9 = upG G_2 41 3 0 := ⟨_, rfl⟩
  have hG_3 : GR G_3 := by rw [eG_3]; exact (GR.up hG_2 (by decide))
  have h := h G_3 eG_3
  rw [← eG_3]
  refine a_aload_n (pc := 14) X9 dX5_readInto_14 rfl rfl ?_
  refine a_iconst (pc := 15) X9 dX5_readInto_15 ?_
  refine a_putI (pc := 16) X9 okX5 4 rfl rfl (v := 0) wF_X5_35 (is5 hnn) dX5_readInto_16 (by decide) (fit_int _) (fun _ => ?_)
  obtain ⟨G_4, eG_4⟩ : ∃ G9, G9 = upG G_3 41 4 0 := ⟨_, rfl⟩
  have hG_4 : GR G_4 := by rw [eG_4]; exact (GR.up hG_3 (by decide))
  have h := h G_4 eG_4
  rw [← eG_4]
  refine a_aload_n (pc := 19) X9 dX5_readInto_19 rfl rfl ?_
  refine a_iconst (pc := 20) X9 dX5_readInto_20 ?_
  refine a_putI (pc := 21) X9 okX5 7 rfl rfl (v := 0) wF_X5_38 (is5 hnn) dX5_readInto_21 (by decide) (fit_int _) (fun _ => ?_)
  obtain ⟨G_5, eG_5⟩ : ∃ G9, G9 = upG G_4 41 7 0 := ⟨_, rfl⟩
  have hG_5 : GR G_5 := by rw [eG_5]; exact (GR.up hG_4 (by decide))
  have h := h G_5 eG_5
  rw [← eG_5]
  refine a_aload_n (pc := 24) X9 dX5_readInto_24 rfl rfl ?_
  refine a_callV (pc := 25) X9 E (m_X5_advance  hnn h) okX5 (is5 hnn) wM_X5_41 w_instanceMethod_X5_advance w_selects_X5_advance w_initialized_RX5 w_code_X5_advance cp_X5_advance pn_X5_advance rfl (Nat.le_of_ble_eq_true rfl) ⟨Nat.le_of_ble_eq_true rfl, Nat.le_of_ble_eq_true rfl⟩ ⟨Nat.le_of_ble_eq_true rfl, Nat.le_of_ble_eq_true rfl⟩ dX5_readInto_25 (fun _ _ q => False.elim q) (kV (fun G_6 h hG_6 => ?_))
  refine a_aload_n (pc := 28) X9 dX5_readInto_28 rfl rfl ?_
  refine a_aload_n (pc := 29) X9 dX5_readInto_29 rfl rfl ?_
  refine a_callV (pc := 30) X9 E (m_X5_readBoards ha1 hnn h) okX5 (is5 hnn) wM_X5_44 w_instanceMethod_X5_readBoards w_selects_X5_readBoards w_initialized_RX5 w_code_X5_readBoards cp_X5_readBoards pn_X5_readBoards rfl (Nat.le_of_ble_eq_true rfl) ⟨Nat.le_of_ble_eq_true rfl, Nat.le_of_ble_eq_true rfl⟩ ⟨Nat.le_of_ble_eq_true rfl, Nat.le_of_ble_eq_true rfl⟩ dX5_readInto_30 (fun _ _ q => False.elim q) (kZ (fun r_3 G_7 hr_3 h hG_7 => ?_))
  refine a_if_ne (pc := 33) (tgt := 38) X9 dX5_readInto_33 rfl (bool_inR hr_3) (fun c => ?_) (fun c => ?_)
  · have c_1 := c
    have h := h.1 c_1
    refine a_iconst (pc := 38) X9 dX5_readInto_38 ?_
    refine a_istore_n (pc := 39) X9 dX5_readInto_39 rfl (Nat.le_of_ble_eq_true rfl) rfl rfl ?_
    refine joinM1 (A := fun G_12 => GR G_12 → AW κ δ ρ0 (szF nn) 3 0 0 87 [some (vr 41), some (vr a1), none] [] (SF nn) G_12) (fun G_12 h hG_12 => ?_) (fun j_1 hj_1 h => ?_) h
    · refine a_aload_n (pc := 87) X9 dX5_readInto_87 rfl rfl ?_
      refine a_getI (pc := 88) X9 okX5 5 rfl wF_X5_55 (is5 hnn) dX5_readInto_88 ?_
      refine a_if_eq (pc := 91) (tgt := 102) X9 dX5_readInto_91 rfl (hG_12 _ _) (fun c => ?_) (fun c => ?_)
      · have c_5 := c
        have h := h.1 c_5
        refine a_iconst (pc := 102) X9 dX5_readInto_102 ?_
        refine a_goto (pc := 103) (tgt := 107) X9 dX5_readInto_103 rfl ?_
        exact a_ireturn (pc := 107) X9 E rfl (fit_bool (Or.inr rfl)).1 (Nat.le_of_ble_eq_true rfl) (Nat.le_of_ble_eq_true rfl) dX5_readInto_107 ⟨rfl, _, rfl, (Or.inr rfl), h⟩
      · have c_5 := c
        have h := h.2 c_5
        refine a_aload_n (pc := 94) X9 dX5_readInto_94 rfl rfl ?_
        refine a_iconst (pc := 95) X9 dX5_readInto_95 ?_
        refine a_callV (pc := 96) X9 E (m_X5_fail (show inR 1 by decide) hnn h) okX5 (is5 hnn) wM_X5_58 w_instanceMethod_X5_fail w_selects_X5_fail w_initialized_RX5 w_code_X5_fail cp_X5_fail pn_X5_fail rfl (Nat.le_of_ble_eq_true rfl) ⟨Nat.le_of_ble_eq_true rfl, Nat.le_of_ble_eq_true rfl⟩ ⟨Nat.le_of_ble_eq_true rfl, Nat.le_of_ble_eq_true rfl⟩ dX5_readInto_96 (fun _ _ q => False.elim q) (kZ (fun r_7 G_13 hr_7 h hG_13 => ?_))
        refine a_if_eq (pc := 99) (tgt := 106) X9 dX5_readInto_99 rfl (bool_inR hr_7) (fun c => ?_) (fun c => ?_)
        · have c_6 := c
          have h := h.1 c_6
          refine a_iconst (pc := 106) X9 dX5_readInto_106 ?_
          exact a_ireturn (pc := 107) X9 E rfl (fit_bool (Or.inl rfl)).1 (Nat.le_of_ble_eq_true rfl) (Nat.le_of_ble_eq_true rfl) dX5_readInto_107 ⟨rfl, _, rfl, (Or.inl rfl), h⟩
        · have c_6 := c
          have h := h.2 c_6
          refine a_iconst (pc := 102) X9 dX5_readInto_102 ?_
          refine a_goto (pc := 103) (tgt := 107) X9 dX5_readInto_103 rfl ?_
          exact a_ireturn (pc := 107) X9 E rfl (fit_bool (Or.inr rfl)).1 (Nat.le_of_ble_eq_true rfl) (Nat.le_of_ble_eq_true rfl) dX5_readInto_107 ⟨rfl, _, rfl, (Or.inr rfl), h⟩
    · refine loopM2 (A := fun x2_2 G_14 => inR x2_2 → GR G_14 → AW κ δ ρ0 (szF nn) 3 0 0 40 [some (vr 41), some (vr a1), some (vi x2_2)] [] (SF nn) G_14) (fun k_2 hk_2 x2_2 G_14 h h_x2_2 hG_14 => ?_) _ _ h (by decide) hG_7
      refine a_iload_n (pc := 40) X9 dX5_readInto_40 rfl rfl ?_
      refine a_aload_n (pc := 41) X9 dX5_readInto_41 rfl rfl ?_
      refine a_getI (pc := 42) X9 okX5 1 rfl wF_X5_20 (is5 hnn) dX5_readInto_42 ?_
      refine a_icmp_ge (pc := 45) (tgt := 87) X9 dX5_readInto_45 rfl h_x2_2 (hG_14 _ _) (fun c => ?_) (fun c => ?_)
      · have c_7 := c
        have h := h.1 c_7
        refine AW.drop 2 rfl ?_
        exact hj_1 _ h hG_14
      · have c_7 := c
        have h := h.2 c_7
        refine a_aload_n (pc := 48) X9 dX5_readInto_48 rfl rfl ?_
        refine a_bipush (pc := 49) X9 dX5_readInto_49 rfl ?_
        refine a_callV (pc := 51) X9 E (m_X5_isSign (show inR 59 by decide) hnn h) okX5 (is5 hnn) wM_X5_48 w_instanceMethod_X5_isSign w_selects_X5_isSign w_initialized_RX5 w_code_X5_isSign cp_X5_isSign pn_X5_isSign rfl (Nat.le_of_ble_eq_true rfl) ⟨Nat.le_of_ble_eq_true rfl, Nat.le_of_ble_eq_true rfl⟩ ⟨Nat.le_of_ble_eq_true rfl, Nat.le_of_ble_eq_true rfl⟩ dX5_readInto_51 (fun _ _ q => False.elim q) (kZp (fun r_8 hr_8 h => ?_))
        refine a_if_eq (pc := 54) (tgt := 87) X9 dX5_readInto_54 rfl (bool_inR hr_8) (fun c => ?_) (fun c => ?_)
        · have c_8 := c
          have h := h.1 c_8
          refine AW.drop 2 rfl ?_
          exact hj_1 _ h hG_14
        · have c_8 := c
          have h := h.2 c_8
          refine a_aload_n (pc := 57) X9 dX5_readInto_57 rfl rfl ?_
          refine a_dup (pc := 58) X9 dX5_readInto_58 rfl ?_
          refine a_getI (pc := 59) X9 okX5 4 rfl wF_X5_35 (is5 hnn) dX5_readInto_59 ?_
          refine a_iconst (pc := 62) X9 dX5_readInto_62 ?_
          refine a_iadd (pc := 63) X9 dX5_readInto_63 ?_
          obtain ⟨g_3, h⟩ := h
          refine a_putI (pc := 64) X9 okX5 4 rfl rfl (v := ((G_14 41 4) + 1)) wF_X5_35 (is5 hnn) dX5_readInto_64 g_3 (fit_int _) (fun _ => ?_)
          obtain ⟨G_15, eG_15⟩ : ∃ G9, G9 = upG G_14 41 4 ((G_14 41 4) + 1) := ⟨_, rfl⟩
          have hG_15 : GR G_15 := by rw [eG_15]; exact (GR.up hG_14 g_3)
          have h := h G_15 eG_15
          rw [← eG_15]
          refine a_aload_n (pc := 67) X9 dX5_readInto_67 rfl rfl ?_
          refine a_callV (pc := 68) X9 E (m_X5_advance  hnn h) okX5 (is5 hnn) wM_X5_41 w_instanceMethod_X5_advance w_selects_X5_advance w_initialized_RX5 w_code_X5_advance cp_X5_advance pn_X5_advance rfl (Nat.le_of_ble_eq_true rfl) ⟨Nat.le_of_ble_eq_true rfl, Nat.le_of_ble_eq_true rfl⟩ ⟨Nat.le_of_ble_eq_true rfl, Nat.le_of_ble_eq_true rfl⟩ dX5_readInto_68 (fun _ _ q => False.elim q) (kV (fun G_16 h hG_16 => ?_))
          refine a_aload_n (pc := 71) X9 dX5_readInto_71 rfl rfl ?_
          refine a_aload_n (pc := 72) X9 dX5_readInto_72 rfl rfl ?_
          refine a_callV (pc := 73) X9 E (m_X5_readStatement ha1 hnn h) okX5 (is5 hnn) wM_X5_52 w_instanceMethod_X5_readStatement w_selects_X5_readStatement w_initialized_RX5 w_code_X5_readStatement cp_X5_readStatement pn_X5_readStatement rfl (Nat.le_of_ble_eq_true rfl) ⟨Nat.le_of_ble_eq_true rfl, Nat.le_of_ble_eq_true rfl⟩ ⟨Nat.le_of_ble_eq_true rfl, Nat.le_of_ble_eq_true rfl⟩ dX5_readInto_73 (fun _ _ q => False.elim q) (kZ (fun r_10 G_17 hr_10 h hG_17 => ?_))
          refine a_if_ne (pc := 76) (tgt := 81) X9 dX5_readInto_76 rfl (bool_inR hr_10) (fun c => ?_) (fun c => ?_)
          · have c_9 := c
            have h := h.1 c_9
            refine a_iinc (pc := 81) X9 dX5_readInto_81 rfl (Nat.le_of_ble_eq_true rfl) rfl rfl ?_
            refine a_goto (pc := 84) (tgt := 40) X9 dX5_readInto_84 rfl ?_
            have q_3 : inR ((G_14 41 1)) := (hG_14 _ _)
            have q_4 : inR (x2_2) := h_x2_2
            have g_4 : inR ((x2_2 + 1)) := ⟨by omega, by omega⟩
            exact hk_2 _ _ h g_4 hG_17
          · have c_9 := c
            have h := h.2 c_9
            refine a_iconst (pc := 79) X9 dX5_readInto_79 ?_
            exact a_ireturn (pc := 80) X9 E rfl (fit_bool (Or.inl rfl)).1 (Nat.le_of_ble_eq_true rfl) (Nat.le_of_ble_eq_true rfl) dX5_readInto_80 ⟨rfl, _, rfl, (Or.inl rfl), h⟩
  · have c_1 := c
    have h := h.2 c_1
    refine a_iconst (pc := 36) X9 dX5_readInto_36 ?_
    exact a_ireturn (pc := 37) X9 E rfl (fit_bool (Or.inl rfl)).1 (Nat.le_of_ble_eq_true rfl) (Nat.le_of_ble_eq_true rfl) dX5_readInto_37 ⟨rfl, _, rfl, (Or.inl rfl), h⟩
set_option maxHeartbeats 4000000 in
set_option maxRecDepth 100000 in
theorem m_X8_copyFrom {nn : Nat} {a0 : Nat} {a1 : Nat} {G : GH} {Q : GH → Prop} (ha0 : a0 ∈ L8) (ha1 : a1 ∈ L8) (hnn : 272 ≤ nn) (h : f_X8_copyFrom a0 a1 G Q) : Mt yX8_copyFrom cX8_copyFrom 2 none 1 40 0 0 [vr a0, vr a1] (SF nn) G (fun v S' G' => S' = SF nn ∧ qV Q v S' G') (fun E S' G' => S' = SF nn ∧ False) := by
  refine Mt.of (l0 := [some (vr a0), some (vr a1)]) (by decide) (Nat.le_of_ble_eq_true rfl) rfl ?_
  intro κ δ ρ0 X9 E hG
  replace X9 : CX κ δ RX8 cX8_copyFrom 2 none := X9
  refine a_aload_n (pc := 0) X9 dX8_copyFrom_0 rfl rfl ?_
  refine a_aload_n (pc := 1) X9 dX8_copyFrom_1 rfl rfl ?_
  refine a_getI (pc := 2) X9 okX8 0 rfl wF_X8_36 (is8 ha1 hnn) dX8_copyFrom_2 ?_
  obtain ⟨g_1, h⟩ := h
  refine a_putI (pc := 5) X9 okX8 0 rfl rfl (v := (G a1 0)) wF_X8_36 (is8 ha0 hnn) dX8_copyFrom_5 (bool_inR g_1) (fit_bool g_1) (fun _ => ?_)
  obtain ⟨G_1, eG_1⟩ : ∃ G9, G9 = upG G a0 0 (G a1 0) := ⟨_, rfl⟩
  have hG_1 : GR G_1 := by rw [eG_1]; exact (GR.up hG (bool_inR g_1))
  have h := h G_1 eG_1
  rw [← eG_1]
  refine a_aload_n (pc := 8) X9 dX8_copyFrom_8 rfl rfl ?_
  refine a_aload_n (pc := 9) X9 dX8_copyFrom_9 rfl rfl ?_
  refine a_getI (pc := 10) X9 okX8 1 rfl wF_X8_40 (is8 ha1 hnn) dX8_copyFrom_10 ?_
  refine a_putI (pc := 13) X9 okX8 1 rfl rfl (v := (G_1 a1 1)) wF_X8_40 (is8 ha0 hnn) dX8_copyFrom_13 (hG_1 _ _) (fit_int _) (fun _ => ?_)
  obtain ⟨G_2, eG_2⟩ : ∃ G9, G9 = upG G_1 a0 1 (G_1 a1 1) := ⟨_, rfl⟩
  have hG_2 : GR G_2 := by rw [eG_2]; exact (GR.up hG_1 (hG_1 _ _))
  have h := h G_2 eG_2
  rw [← eG_2]
  refine a_aload_n (pc := 16) X9 dX8_copyFrom_16 rfl rfl ?_
  refine a_aload_n (pc := 17) X9 dX8_copyFrom_17 rfl rfl ?_
  refine a_getI (pc := 18) X9 okX8 5 rfl wF_X8_44 (is8 ha1 hnn) dX8_copyFrom_18 ?_
  refine a_putI (pc := 21) X9 okX8 5 rfl rfl (v := (G_2 a1 5)) wF_X8_44 (is8 ha0 hnn) dX8_copyFrom_21 (hG_2 _ _) (fit_int _) (fun _ => ?_)
  obtain ⟨G_3, eG_3⟩ : ∃ G9, G9 = upG G_2 a0 5 (G_2 a1 5) := ⟨_, rfl⟩
  have hG_3 : GR G_3 := by rw [eG_3]; exact (GR.up hG_2 (hG_2 _ _))
  have h := h G_3 eG_3
  rw [← eG_3]
  refine a_aload_n (pc := 24) X9 dX8_copyFrom_24 rfl rfl ?_
  refine a_aload_n (pc := 25) X9 dX8_copyFrom_25 rfl rfl ?_
  refine a_getI (pc := 26) X9 okX8 8 rfl wF_X8_47 (is8 ha1 hnn) dX8_copyFrom_26 ?_
  refine a_putI (pc := 29) X9 okX8 8 rfl rfl (v := (G_3 a1 8)) wF_X8_47 (is8 ha0 hnn) dX8_copyFrom_29 (hG_3 _ _) (fit_int _) (fun _ => ?_)
  obtain ⟨G_4, eG_4⟩ : ∃ G9, G9 = upG G_3 a0 8 (G_3 a1 8) := ⟨_, rfl⟩
  have hG_4 : GR G_4 := by rw [eG_4]; exact (GR.up hG_3 (hG_3 _ _))
  have h := h G_4 eG_4
  rw [← eG_4]
  refine a_aload_n (pc := 32) X9 dX8_copyFrom_32 rfl rfl ?_
  refine a_getR (pc := 33) X9 (q := (a1 + 1)) okX8 2 rfl wF_X8_9 (is8 ha1 hnn) (rf8_2 _ ha1) dX8_copyFrom_33 ?_
  refine a_iconst (pc := 36) X9 dX8_copyFrom_36 ?_
  refine a_aload_n (pc := 37) X9 dX8_copyFrom_37 rfl rfl ?_
  refine a_getR (pc := 38) X9 (q := (a0 + 1)) okX8 2 rfl wF_X8_9 (is8 ha0 hnn) (rf8_2 _ ha0) dX8_copyFrom_38 ?_
  refine a_iconst (pc := 41) X9 dX8_copyFrom_41 ?_
  refine a_bipush (pc := 42) X9 dX8_copyFrom_42 rfl ?_
  refine a_copyi (pc := 44) (sp := 0) (dp := 0) (n := 12) X9 E wM_X8_56 (ar8_2 ha1 hnn) (ar8_2 ha0 hnn) (Nat.le_of_ble_eq_true rfl) (Nat.le_of_ble_eq_true rfl) (Nat.le_of_ble_eq_true rfl) (Nat.le_of_ble_eq_true rfl) (Nat.le_of_ble_eq_true rfl) (Nat.le_of_ble_eq_true rfl) dX8_copyFrom_44 ?_
  obtain ⟨G_5, eG_5⟩ : ∃ G9, G9 = cpG G_4 (a1 + 1) 0 (a0 + 1) 0 12 := ⟨_, rfl⟩
  have hG_5 : GR G_5 := by rw [eG_5]; exact (GR.cp hG_4)
  have h := h G_5 eG_5
  rw [← eG_5]
  refine a_aload_n (pc := 47) X9 dX8_copyFrom_47 rfl rfl ?_
  refine a_getR (pc := 48) X9 (q := (a1 + 2)) okX8 3 rfl wF_X8_15 (is8 ha1 hnn) (rf8_3 _ ha1) dX8_copyFrom_48 ?_
  refine a_iconst (pc := 51) X9 dX8_copyFrom_51 ?_
  refine a_aload_n (pc := 52) X9 dX8_copyFrom_52 rfl rfl ?_
  refine a_getR (pc := 53) X9 (q := (a0 + 2)) okX8 3 rfl wF_X8_15 (is8 ha0 hnn) (rf8_3 _ ha0) dX8_copyFrom_53 ?_
  refine a_iconst (pc := 56) X9 dX8_copyFrom_56 ?_
  refine a_bipush (pc := 57) X9 dX8_copyFrom_57 rfl ?_
  refine a_copyi (pc := 59) (sp := 0) (dp := 0) (n := 12) X9 E wM_X8_56 (ar8_3 ha1 hnn) (ar8_3 ha0 hnn) (Nat.le_of_ble_eq_true rfl) (Nat.le_of_ble_eq_true rfl) (Nat.le_of_ble_eq_true rfl) (Nat.le_of_ble_eq_true rfl) (Nat.le_of_ble_eq_true rfl) (Nat.le_of_ble_eq_true rfl) dX8_copyFrom_59 ?_
  obtain ⟨G_6, eG_6⟩ : ∃ G9, G9 = cpG G_5 (a1 + 2) 0 (a0 + 2) 0 12 := ⟨_, rfl⟩
  have hG_6 : GR G_6 := by rw [eG_6]; exact (GR.cp hG_5)
  have h := h G_6 eG_6
  rw [← eG_6]
  refine a_aload_n (pc := 62) X9 dX8_copyFrom_62 rfl rfl ?_
  refine a_getR (pc := 63) X9 (q := (a1 + 3)) okX8 4 rfl wF_X8_18 (is8 ha1 hnn) (rf8_4 _ ha1) dX8_copyFrom_63 ?_
  refine a_iconst (pc := 66) X9 dX8_copyFrom_66 ?_
  refine a_aload_n (pc := 67) X9 dX8_copyFrom_67 rfl rfl ?_
  refine a_getR (pc := 68) X9 (q := (a0 + 3)) okX8 4 rfl wF_X8_18 (is8 ha0 hnn) (rf8_4 _ ha0) dX8_copyFrom_68 ?_
  refine a_iconst (pc := 71) X9 dX8_copyFrom_71 ?_
  refine a_bipush (pc := 72) X9 dX8_copyFrom_72 rfl ?_
  refine a_copyi (pc := 74) (sp := 0) (dp := 0) (n := 42) X9 E wM_X8_56 (ar8_4 ha1 hnn) (ar8_4 ha0 hnn) (Nat.le_of_ble_eq_true rfl) (Nat.le_of_ble_eq_true rfl) (Nat.le_of_ble_eq_true rfl) (Nat.le_of_ble_eq_true rfl) (Nat.le_of_ble_eq_true rfl) (Nat.le_of_ble_eq_true rfl) dX8_copyFrom_74 ?_
  obtain ⟨G_7, eG_7⟩ : ∃ G9, G9 = cpG G_6 (a1 + 3) 0 (a0 + 3) 0 42 := ⟨_, rfl⟩
  have hG_7 : GR G_7 := by rw [eG_7]; exact (GR.cp hG_6)
  have h := h G_7 eG_7
  rw [← eG_7]
  refine a_aload_n (pc := 77) X9 dX8_copyFrom_77 rfl rfl ?_
  refine a_getR (pc := 78) X9 (q := (a1 + 4)) okX8 6 rfl wF_X8_21 (is8 ha1 hnn) (rf8_6 _ ha1) dX8_copyFrom_78 ?_
  refine a_iconst (pc := 81) X9 dX8_copyFrom_81 ?_
  refine a_aload_n (pc := 82) X9 dX8_copyFrom_82 rfl rfl ?_
  refine a_getR (pc := 83) X9 (q := (a0 + 4)) okX8 6 rfl wF_X8_21 (is8 ha0 hnn) (rf8_6 _ ha0) dX8_copyFrom_83 ?_
  refine a_iconst (pc := 86) X9 dX8_copyFrom_86 ?_
  refine a_iconst (pc := 87) X9 dX8_copyFrom_87 ?_
  refine a_copyi (pc := 88) (sp := 0) (dp := 0) (n := 3) X9 E wM_X8_56 (ar8_6 ha1 hnn) (ar8_6 ha0 hnn) (Nat.le_of_ble_eq_true rfl) (Nat.le_of_ble_eq_true rfl) (Nat.le_of_ble_eq_true rfl) (Nat.le_of_ble_eq_true rfl) (Nat.le_of_ble_eq_true rfl) (Nat.le_of_ble_eq_true rfl) dX8_copyFrom_88 ?_
  obtain ⟨G_8, eG_8⟩ : ∃ G9, G9 = cpG G_7 (a1 + 4) 0 (a0 + 4) 0 3 := ⟨_, rfl⟩
  have hG_8 : GR G_8 := by rw [eG_8]; exact (GR.cp hG_7)
  have h := h G_8 eG_8
  rw [← eG_8]
  refine a_aload_n (pc := 91) X9 dX8_copyFrom_91 rfl rfl ?_
  refine a_getR (pc := 92) X9 (q := (a1 + 5)) okX8 7 rfl wF_X8_24 (is8 ha1 hnn) (rf8_7 _ ha1) dX8_copyFrom_92 ?_
  refine a_iconst (pc := 95) X9 dX8_copyFrom_95 ?_
  refine a_aload_n (pc := 96) X9 dX8_copyFrom_96 rfl rfl ?_
  refine a_getR (pc := 97) X9 (q := (a0 + 5)) okX8 7 rfl wF_X8_24 (is8 ha0 hnn) (rf8_7 _ ha0) dX8_copyFrom_97 ?_
  refine a_iconst (pc := 100) X9 dX8_copyFrom_100 ?_
  refine a_bipush (pc := 101) X9 dX8_copyFrom_101 rfl ?_
  refine a_copyi (pc := 103) (sp := 0) (dp := 0) (n := 30) X9 E wM_X8_56 (ar8_7 ha1 hnn) (ar8_7 ha0 hnn) (Nat.le_of_ble_eq_true rfl) (Nat.le_of_ble_eq_true rfl) (Nat.le_of_ble_eq_true rfl) (Nat.le_of_ble_eq_true rfl) (Nat.le_of_ble_eq_true rfl) (Nat.le_of_ble_eq_true rfl) dX8_copyFrom_103 ?_
  obtain ⟨G_9, eG_9⟩ : ∃ G9, G9 = cpG G_8 (a1 + 5) 0 (a0 + 5) 0 30 := ⟨_, rfl⟩
  have hG_9 : GR G_9 := by rw [eG_9]; exact (GR.cp hG_8)
  have h := h G_9 eG_9
  rw [← eG_9]
  refine a_aload_n (pc := 106) X9 dX8_copyFrom_106 rfl rfl ?_
  refine a_getR (pc := 107) X9 (q := (a1 + 6)) okX8 9 rfl wF_X8_27 (is8 ha1 hnn) (rf8_9 _ ha1) dX8_copyFrom_107 ?_
  refine a_iconst (pc := 110) X9 dX8_copyFrom_110 ?_
  refine a_aload_n (pc := 111) X9 dX8_copyFrom_111 rfl rfl ?_
  refine a_getR (pc := 112) X9 (q := (a0 + 6)) okX8 9 rfl wF_X8_27 (is8 ha0 hnn) (rf8_9 _ ha0) dX8_copyFrom_112 ?_
  refine a_iconst (pc := 115) X9 dX8_copyFrom_115 ?_
  refine a_bipush (pc := 116) X9 dX8_copyFrom_116 rfl ?_
  refine a_copyi (pc := 118) (sp := 0) (dp := 0) (n := 12) X9 E wM_X8_56 (ar8_9 ha1 hnn) (ar8_9 ha0 hnn) (Nat.le_of_ble_eq_true rfl) (Nat.le_of_ble_eq_true rfl) (Nat.le_of_ble_eq_true rfl) (Nat.le_of_ble_eq_true rfl) (Nat.le_of_ble_eq_true rfl) (Nat.le_of_ble_eq_true rfl) dX8_copyFrom_118 ?_
  obtain ⟨G_10, eG_10⟩ : ∃ G9, G9 = cpG G_9 (a1 + 6) 0 (a0 + 6) 0 12 := ⟨_, rfl⟩
  have hG_10 : GR G_10 := by rw [eG_10]; exact (GR.cp hG_9)
  have h := h G_10 eG_10
  rw [← eG_10]
  refine a_aload_n (pc := 121) X9 dX8_copyFrom_121 rfl rfl ?_
  refine a_getR (pc := 122) X9 (q := (a1 + 7)) okX8 10 rfl wF_X8_30 (is8 ha1 hnn) (rf8_10 _ ha1) dX8_copyFrom_122 ?_
  refine a_iconst (pc := 125) X9 dX8_copyFrom_125 ?_
  refine a_aload_n (pc := 126) X9 dX8_copyFrom_126 rfl rfl ?_
  refine a_getR (pc := 127) X9 (q := (a0 + 7)) okX8 10 rfl wF_X8_30 (is8 ha0 hnn) (rf8_10 _ ha0) dX8_copyFrom_127 ?_
  refine a_iconst (pc := 130) X9 dX8_copyFrom_130 ?_
  refine a_bipush (pc := 131) X9 dX8_copyFrom_131 rfl ?_
  refine a_copyi (pc := 133) (sp := 0) (dp := 0) (n := 12) X9 E wM_X8_56 (ar8_10 ha1 hnn) (ar8_10 ha0 hnn) (Nat.le_of_ble_eq_true rfl) (Nat.le_of_ble_eq_true rfl) (Nat.le_of_ble_eq_true rfl) (Nat.le_of_ble_eq_true rfl) (Nat.le_of_ble_eq_true rfl) (Nat.le_of_ble_eq_true rfl) dX8_copyFrom_133 ?_
  obtain ⟨G_11, eG_11⟩ : ∃ G9, G9 = cpG G_10 (a1 + 7) 0 (a0 + 7) 0 12 := ⟨_, rfl⟩
  have hG_11 : GR G_11 := by rw [eG_11]; exact (GR.cp hG_10)
  have h := h G_11 eG_11
  rw [← eG_11]
  refine a_aload_n (pc := 136) X9 dX8_copyFrom_136 rfl rfl ?_
  refine a_getR (pc := 137) X9 (q := (a1 + 8)) okX8 11 rfl wF_X8_33 (is8 ha1 hnn) (rf8_11 _ ha1) dX8_copyFrom_137 ?_
  refine a_iconst (pc := 140) X9 dX8_copyFrom_140 ?_
  refine a_aload_n (pc := 141) X9 dX8_copyFrom_141 rfl rfl ?_
  refine a_getR (pc := 142) X9 (q := (a0 + 8)) okX8 11 rfl wF_X8_33 (is8 ha0 hnn) (rf8_11 _ ha0) dX8_copyFrom_142 ?_
  refine a_iconst (pc := 145) X9 dX8_copyFrom_145 ?_
  refine a_bipush (pc := 146) X9 dX8_copyFrom_146 rfl ?_
  refine a_copyi (pc := 148) (sp := 0) (dp := 0) (n := 12) X9 E wM_X8_56 (ar8_11 ha1 hnn) (ar8_11 ha0 hnn) (Nat.le_of_ble_eq_true rfl) (Nat.le_of_ble_eq_true rfl) (Nat.le_of_ble_eq_true rfl) (Nat.le_of_ble_eq_true rfl) (Nat.le_of_ble_eq_true rfl) (Nat.le_of_ble_eq_true rfl) dX8_copyFrom_148 ?_
  obtain ⟨G_12, eG_12⟩ : ∃ G9, G9 = cpG G_11 (a1 + 8) 0 (a0 + 8) 0 12 := ⟨_, rfl⟩
  have hG_12 : GR G_12 := by rw [eG_12]; exact (GR.cp hG_11)
  have h := h G_12 eG_12
  rw [← eG_12]
  exact a_return (pc := 151) X9 E (Nat.le_of_ble_eq_true rfl) (Nat.le_of_ble_eq_true rfl) dX8_copyFrom_151 ⟨rfl, rfl, h⟩
set_option maxHeartbeats 4000000 in
set_option maxRecDepth 100000 in
theorem m_X6_copyFrom {nn : Nat} {a0 : Nat} {a1 : Nat} {G : GH} {Q : GH → Prop} (ha0 : a0 ∈ L6) (ha1 : a1 ∈ L6) (hnn : 272 ≤ nn) (h : f_X6_copyFrom a0 a1 G Q) : Mt yX6_copyFrom cX6_copyFrom 2 none 1 40 0 0 [vr a0, vr a1] (SF nn) G (fun v S' G' => S' = SF nn ∧ qV Q v S' G') (fun E S' G' => S' = SF nn ∧ False) := by
  refine Mt.of (l0 := [some (vr a0), some (vr a1)]) (by decide) (Nat.le_of_ble_eq_true rfl) rfl ?_
  intro κ δ ρ0 X9 E hG
  replace X9 : CX κ δ RX6 cX6_copyFrom 2 none := X9
  refine a_aload_n (pc := 0) X9 dX6_copyFrom_0 rfl rfl ?_
  refine a_aload_n (pc := 1) X9 dX6_copyFrom_1 rfl rfl ?_
  refine a_getI (pc := 2) X9 okX6 0 rfl wF_X6_18 (is6 ha1 hnn) dX6_copyFrom_2 ?_
  refine a_putI (pc := 5) X9 okX6 0 rfl rfl (v := (G a1 0)) wF_X6_18 (is6 ha0 hnn) dX6_copyFrom_5 (hG _ _) (fit_int _) (fun _ => ?_)
  obtain ⟨G_1, eG_1⟩ : ∃ G9, G9 = upG G a0 0 (G a1 0) := ⟨_, rfl⟩
  have hG_1 : GR G_1 := by rw [eG_1]; exact (GR.up hG (hG _ _))
  have h := h G_1 eG_1
  rw [← eG_1]
  refine a_aload_n (pc := 8) X9 dX6_copyFrom_8 rfl rfl ?_
  refine a_getR (pc := 9) X9 (q := (a1 + 1)) okX6 1 rfl wF_X6_9 (is6 ha1 hnn) (rf6_1 _ ha1) dX6_copyFrom_9 ?_
  refine a_iconst (pc := 12) X9 dX6_copyFrom_12 ?_
  refine a_aload_n (pc := 13) X9 dX6_copyFrom_13 rfl rfl ?_
  refine a_getR (pc := 14) X9 (q := (a0 + 1)) okX6 1 rfl wF_X6_9 (is6 ha0 hnn) (rf6_1 _ ha0) dX6_copyFrom_14 ?_
  refine a_iconst (pc := 17) X9 dX6_copyFrom_17 ?_
  refine a_bipush (pc := 18) X9 dX6_copyFrom_18 rfl ?_
  refine a_copyi (pc := 20) (sp := 0) (dp := 0) (n := 16) X9 E wM_X6_22 (ar6_1 ha1 hnn) (ar6_1 ha0 hnn) (Nat.le_of_ble_eq_true rfl) (Nat.le_of_ble_eq_true rfl) (Nat.le_of_ble_eq_true rfl) (Nat.le_of_ble_eq_true rfl) (Nat.le_of_ble_eq_true rfl) (Nat.le_of_ble_eq_true rfl) dX6_copyFrom_20 ?_
  obtain ⟨G_2, eG_2⟩ : ∃ G9, G9 = cpG G_1 (a1 + 1) 0 (a0 + 1) 0 16 := ⟨_, rfl⟩
  have hG_2 : GR G_2 := by rw [eG_2]; exact (GR.cp hG_1)
  have h := h G_2 eG_2
  rw [← eG_2]
  refine a_aload_n (pc := 23) X9 dX6_copyFrom_23 rfl rfl ?_
  refine a_getR (pc := 24) X9 (q := (a1 + 2)) okX6 2 rfl wF_X6_15 (is6 ha1 hnn) (rf6_2 _ ha1) dX6_copyFrom_24 ?_
  refine a_iconst (pc := 27) X9 dX6_copyFrom_27 ?_
  refine a_aload_n (pc := 28) X9 dX6_copyFrom_28 rfl rfl ?_
  refine a_getR (pc := 29) X9 (q := (a0 + 2)) okX6 2 rfl wF_X6_15 (is6 ha0 hnn) (rf6_2 _ ha0) dX6_copyFrom_29 ?_
  refine a_iconst (pc := 32) X9 dX6_copyFrom_32 ?_
  refine a_sipush (pc := 33) X9 dX6_copyFrom_33 rfl ?_
  refine a_copyi (pc := 36) (sp := 0) (dp := 0) (n := 128) X9 E wM_X6_22 (ar6_2 ha1 hnn) (ar6_2 ha0 hnn) (Nat.le_of_ble_eq_true rfl) (Nat.le_of_ble_eq_true rfl) (Nat.le_of_ble_eq_true rfl) (Nat.le_of_ble_eq_true rfl) (Nat.le_of_ble_eq_true rfl) (Nat.le_of_ble_eq_true rfl) dX6_copyFrom_36 ?_
  obtain ⟨G_3, eG_3⟩ : ∃ G9, G9 = cpG G_2 (a1 + 2) 0 (a0 + 2) 0 128 := ⟨_, rfl⟩
  have hG_3 : GR G_3 := by rw [eG_3]; exact (GR.cp hG_2)
  have h := h G_3 eG_3
  rw [← eG_3]
  exact a_return (pc := 39) X9 E (Nat.le_of_ble_eq_true rfl) (Nat.le_of_ble_eq_true rfl) dX6_copyFrom_39 ⟨rfl, rfl, h⟩
set_option maxHeartbeats 4000000 in
set_option maxRecDepth 100000 in
theorem m_X0_copyFrom {nn : Nat} {a0 : Nat} {a1 : Nat} {G : GH} {Q : GH → Prop} (ha0 : a0 ∈ L0) (ha1 : a1 ∈ L0) (hnn : 272 ≤ nn) (h : f_X0_copyFrom a0 a1 G Q) : Mt yX0_copyFrom cX0_copyFrom 2 none 1 40 0 0 [vr a0, vr a1] (SF nn) G (fun v S' G' => S' = SF nn ∧ qV Q v S' G') (fun E S' G' => S' = SF nn ∧ False) := by
  refine Mt.of (l0 := [some (vr a0), some (vr a1)]) (by decide) (Nat.le_of_ble_eq_true rfl) rfl ?_
  intro κ δ ρ0 X9 E hG
  replace X9 : CX κ δ RX0 cX0_copyFrom 2 none := X9
  refine a_aload_n (pc := 0) X9 dX0_copyFrom_0 rfl rfl ?_
  refine a_aload_n (pc := 1) X9 dX0_copyFrom_1 rfl rfl ?_
  refine a_getI (pc := 2) X9 okX0 0 rfl wF_X0_9 (is0 ha1 hnn) dX0_copyFrom_2 ?_
  refine a_putI (pc := 5) X9 okX0 0 rfl rfl (v := (G a1 0)) wF_X0_9 (is0 ha0 hnn) dX0_copyFrom_5 (hG _ _) (fit_int _) (fun _ => ?_)
  obtain ⟨G_1, eG_1⟩ : ∃ G9, G9 = upG G a0 0 (G a1 0) := ⟨_, rfl⟩
  have hG_1 : GR G_1 := by rw [eG_1]; exact (GR.up hG (hG _ _))
  have h := h G_1 eG_1
  rw [← eG_1]
  refine a_aload_n (pc := 8) X9 dX0_copyFrom_8 rfl rfl ?_
  refine a_getR (pc := 9) X9 (q := (a1 + 1)) okX0 1 rfl wF_X0_15 (is0 ha1 hnn) (rf0_1 _ ha1) dX0_copyFrom_9 ?_
  refine a_iconst (pc := 12) X9 dX0_copyFrom_12 ?_
  refine a_aload_n (pc := 13) X9 dX0_copyFrom_13 rfl rfl ?_
  refine a_getR (pc := 14) X9 (q := (a0 + 1)) okX0 1 rfl wF_X0_15 (is0 ha0 hnn) (rf0_1 _ ha0) dX0_copyFrom_14 ?_
  refine a_iconst (pc := 17) X9 dX0_copyFrom_17 ?_
  refine a_bipush (pc := 18) X9 dX0_copyFrom_18 rfl ?_
  refine a_copyi (pc := 20) (sp := 0) (dp := 0) (n := 18) X9 E wM_X0_37 (ar0_1 ha1 hnn) (ar0_1 ha0 hnn) (Nat.le_of_ble_eq_true rfl) (Nat.le_of_ble_eq_true rfl) (Nat.le_of_ble_eq_true rfl) (Nat.le_of_ble_eq_true rfl) (Nat.le_of_ble_eq_true rfl) (Nat.le_of_ble_eq_true rfl) dX0_copyFrom_20 ?_
  obtain ⟨G_2, eG_2⟩ : ∃ G9, G9 = cpG G_1 (a1 + 1) 0 (a0 + 1) 0 18 := ⟨_, rfl⟩
  have hG_2 : GR G_2 := by rw [eG_2]; exact (GR.cp hG_1)
  have h := h G_2 eG_2
  rw [← eG_2]
  refine a_aload_n (pc := 23) X9 dX0_copyFrom_23 rfl rfl ?_
  refine a_getR (pc := 24) X9 (q := (a1 + 2)) okX0 2 rfl wF_X0_19 (is0 ha1 hnn) (rf0_2 _ ha1) dX0_copyFrom_24 ?_
  refine a_iconst (pc := 27) X9 dX0_copyFrom_27 ?_
  refine a_aload_n (pc := 28) X9 dX0_copyFrom_28 rfl rfl ?_
  refine a_getR (pc := 29) X9 (q := (a0 + 2)) okX0 2 rfl wF_X0_19 (is0 ha0 hnn) (rf0_2 _ ha0) dX0_copyFrom_29 ?_
  refine a_iconst (pc := 32) X9 dX0_copyFrom_32 ?_
  refine a_bipush (pc := 33) X9 dX0_copyFrom_33 rfl ?_
  refine a_copyi (pc := 35) (sp := 0) (dp := 0) (n := 54) X9 E wM_X0_37 (ar0_2 ha1 hnn) (ar0_2 ha0 hnn) (Nat.le_of_ble_eq_true rfl) (Nat.le_of_ble_eq_true rfl) (Nat.le_of_ble_eq_true rfl) (Nat.le_of_ble_eq_true rfl) (Nat.le_of_ble_eq_true rfl) (Nat.le_of_ble_eq_true rfl) dX0_copyFrom_35 ?_
  obtain ⟨G_3, eG_3⟩ : ∃ G9, G9 = cpG G_2 (a1 + 2) 0 (a0 + 2) 0 54 := ⟨_, rfl⟩
  have hG_3 : GR G_3 := by rw [eG_3]; exact (GR.cp hG_2)
  have h := h G_3 eG_3
  rw [← eG_3]
  refine a_aload_n (pc := 38) X9 dX0_copyFrom_38 rfl rfl ?_
  refine a_getR (pc := 39) X9 (q := (a1 + 3)) okX0 3 rfl wF_X0_22 (is0 ha1 hnn) (rf0_3 _ ha1) dX0_copyFrom_39 ?_
  refine a_iconst (pc := 42) X9 dX0_copyFrom_42 ?_
  refine a_aload_n (pc := 43) X9 dX0_copyFrom_43 rfl rfl ?_
  refine a_getR (pc := 44) X9 (q := (a0 + 3)) okX0 3 rfl wF_X0_22 (is0 ha0 hnn) (rf0_3 _ ha0) dX0_copyFrom_44 ?_
  refine a_iconst (pc := 47) X9 dX0_copyFrom_47 ?_
  refine a_bipush (pc := 48) X9 dX0_copyFrom_48 rfl ?_
  refine a_copyi (pc := 50) (sp := 0) (dp := 0) (n := 54) X9 E wM_X0_37 (ar0_3 ha1 hnn) (ar0_3 ha0 hnn) (Nat.le_of_ble_eq_true rfl) (Nat.le_of_ble_eq_true rfl) (Nat.le_of_ble_eq_true rfl) (Nat.le_of_ble_eq_true rfl) (Nat.le_of_ble_eq_true rfl) (Nat.le_of_ble_eq_true rfl) dX0_copyFrom_50 ?_
  obtain ⟨G_4, eG_4⟩ : ∃ G9, G9 = cpG G_3 (a1 + 3) 0 (a0 + 3) 0 54 := ⟨_, rfl⟩
  have hG_4 : GR G_4 := by rw [eG_4]; exact (GR.cp hG_3)
  have h := h G_4 eG_4
  rw [← eG_4]
  refine a_aload_n (pc := 53) X9 dX0_copyFrom_53 rfl rfl ?_
  refine a_getR (pc := 54) X9 (q := (a1 + 4)) okX0 4 rfl wF_X0_25 (is0 ha1 hnn) (rf0_4 _ ha1) dX0_copyFrom_54 ?_
  refine a_iconst (pc := 57) X9 dX0_copyFrom_57 ?_
  refine a_aload_n (pc := 58) X9 dX0_copyFrom_58 rfl rfl ?_
  refine a_getR (pc := 59) X9 (q := (a0 + 4)) okX0 4 rfl wF_X0_25 (is0 ha0 hnn) (rf0_4 _ ha0) dX0_copyFrom_59 ?_
  refine a_iconst (pc := 62) X9 dX0_copyFrom_62 ?_
  refine a_bipush (pc := 63) X9 dX0_copyFrom_63 rfl ?_
  refine a_copyi (pc := 65) (sp := 0) (dp := 0) (n := 54) X9 E wM_X0_37 (ar0_4 ha1 hnn) (ar0_4 ha0 hnn) (Nat.le_of_ble_eq_true rfl) (Nat.le_of_ble_eq_true rfl) (Nat.le_of_ble_eq_true rfl) (Nat.le_of_ble_eq_true rfl) (Nat.le_of_ble_eq_true rfl) (Nat.le_of_ble_eq_true rfl) dX0_copyFrom_65 ?_
  obtain ⟨G_5, eG_5⟩ : ∃ G9, G9 = cpG G_4 (a1 + 4) 0 (a0 + 4) 0 54 := ⟨_, rfl⟩
  have hG_5 : GR G_5 := by rw [eG_5]; exact (GR.cp hG_4)
  have h := h G_5 eG_5
  rw [← eG_5]
  refine a_aload_n (pc := 68) X9 dX0_copyFrom_68 rfl rfl ?_
  refine a_getR (pc := 69) X9 (q := (a1 + 5)) okX0 5 rfl wF_X0_28 (is0 ha1 hnn) (rf0_5 _ ha1) dX0_copyFrom_69 ?_
  refine a_iconst (pc := 72) X9 dX0_copyFrom_72 ?_
  refine a_aload_n (pc := 73) X9 dX0_copyFrom_73 rfl rfl ?_
  refine a_getR (pc := 74) X9 (q := (a0 + 5)) okX0 5 rfl wF_X0_28 (is0 ha0 hnn) (rf0_5 _ ha0) dX0_copyFrom_74 ?_
  refine a_iconst (pc := 77) X9 dX0_copyFrom_77 ?_
  refine a_bipush (pc := 78) X9 dX0_copyFrom_78 rfl ?_
  refine a_copyi (pc := 80) (sp := 0) (dp := 0) (n := 42) X9 E wM_X0_37 (ar0_5 ha1 hnn) (ar0_5 ha0 hnn) (Nat.le_of_ble_eq_true rfl) (Nat.le_of_ble_eq_true rfl) (Nat.le_of_ble_eq_true rfl) (Nat.le_of_ble_eq_true rfl) (Nat.le_of_ble_eq_true rfl) (Nat.le_of_ble_eq_true rfl) dX0_copyFrom_80 ?_
  obtain ⟨G_6, eG_6⟩ : ∃ G9, G9 = cpG G_5 (a1 + 5) 0 (a0 + 5) 0 42 := ⟨_, rfl⟩
  have hG_6 : GR G_6 := by rw [eG_6]; exact (GR.cp hG_5)
  have h := h G_6 eG_6
  rw [← eG_6]
  exact a_return (pc := 83) X9 E (Nat.le_of_ble_eq_true rfl) (Nat.le_of_ble_eq_true rfl) dX0_copyFrom_83 ⟨rfl, rfl, h⟩
set_option maxHeartbeats 4000000 in
set_option maxRecDepth 100000 in
theorem m_X7_copyFrom {nn : Nat} {a0 : Nat} {a1 : Nat} {G : GH} {Q : GH → Prop} (ha0 : a0 ∈ L7) (ha1 : a1 ∈ L7) (hnn : 272 ≤ nn) (h : f_X7_copyFrom a0 a1 G Q) : Mt yX7_copyFrom cX7_copyFrom 2 none 2 61 0 0 [vr a0, vr a1] (SF nn) G (fun v S' G' => S' = SF nn ∧ qV Q v S' G') (fun E S' G' => S' = SF nn ∧ False) := by
  refine Mt.of (l0 := [some (vr a0), some (vr a1)]) (by decide) (Nat.le_of_ble_eq_true rfl) rfl ?_
  intro κ δ ρ0 X9 E hG
  replace X9 : CX κ δ RX7 cX7_copyFrom 2 none := X9
  refine a_aload_n (pc := 0) X9 dX7_copyFrom_0 rfl rfl ?_
  refine a_aload_n (pc := 1) X9 dX7_copyFrom_1 rfl rfl ?_
  refine a_getI (pc := 2) X9 okX7 0 rfl wF_X7_36 (is7 ha1 hnn) dX7_copyFrom_2 ?_
  refine a_putI (pc := 5) X9 okX7 0 rfl rfl (v := (G a1 0)) wF_X7_36 (is7 ha0 hnn) dX7_copyFrom_5 (hG _ _) (fit_int _) (fun _ => ?_)
  obtain ⟨G_1, eG_1⟩ : ∃ G9, G9 = upG G a0 0 (G a1 0) := ⟨_, rfl⟩
  have hG_1 : GR G_1 := by rw [eG_1]; exact (GR.up hG (hG _ _))
  have h := h G_1 eG_1
  rw [← eG_1]
  refine a_aload_n (pc := 8) X9 dX7_copyFrom_8 rfl rfl ?_
  refine a_getR (pc := 9) X9 (q := (a1 + 1)) okX7 1 rfl wF_X7_9 (is7 ha1 hnn) (rf7_1 _ ha1) dX7_copyFrom_9 ?_
  refine a_iconst (pc := 12) X9 dX7_copyFrom_12 ?_
  refine a_aload_n (pc := 13) X9 dX7_copyFrom_13 rfl rfl ?_
  refine a_getR (pc := 14) X9 (q := (a0 + 1)) okX7 1 rfl wF_X7_9 (is7 ha0 hnn) (rf7_1 _ ha0) dX7_copyFrom_14 ?_
  refine a_iconst (pc := 17) X9 dX7_copyFrom_17 ?_
  refine a_iconst (pc := 18) X9 dX7_copyFrom_18 ?_
  refine a_copyi (pc := 19) (sp := 0) (dp := 0) (n := 3) X9 E wM_X7_65 (ar7_1 ha1 hnn) (ar7_1 ha0 hnn) (Nat.le_of_ble_eq_true rfl) (Nat.le_of_ble_eq_true rfl) (Nat.le_of_ble_eq_true rfl) (Nat.le_of_ble_eq_true rfl) (Nat.le_of_ble_eq_true rfl) (Nat.le_of_ble_eq_true rfl) dX7_copyFrom_19 ?_
  obtain ⟨G_2, eG_2⟩ : ∃ G9, G9 = cpG G_1 (a1 + 1) 0 (a0 + 1) 0 3 := ⟨_, rfl⟩
  have hG_2 : GR G_2 := by rw [eG_2]; exact (GR.cp hG_1)
  have h := h G_2 eG_2
  rw [← eG_2]
  refine a_aload_n (pc := 22) X9 dX7_copyFrom_22 rfl rfl ?_
  refine a_aload_n (pc := 23) X9 dX7_copyFrom_23 rfl rfl ?_
  refine a_getI (pc := 24) X9 okX7 2 rfl wF_X7_40 (is7 ha1 hnn) dX7_copyFrom_24 ?_
  obtain ⟨g_1, h⟩ := h
  refine a_putI (pc := 27) X9 okX7 2 rfl rfl (v := (G_2 a1 2)) wF_X7_40 (is7 ha0 hnn) dX7_copyFrom_27 (bool_inR g_1) (fit_bool g_1) (fun _ => ?_)
  obtain ⟨G_3, eG_3⟩ : ∃ G9, G9 = upG G_2 a0 2 (G_2 a1 2) := ⟨_, rfl⟩
  have hG_3 : GR G_3 := by rw [eG_3]; exact (GR.up hG_2 (bool_inR g_1))
  have h := h G_3 eG_3
  rw [← eG_3]
  refine a_aload_n (pc := 30) X9 dX7_copyFrom_30 rfl rfl ?_
  refine a_getR (pc := 31) X9 (q := (a0 + 2)) okX7 3 rfl wF_X7_18 (is7 ha0 hnn) (rf7_3 _ ha0) dX7_copyFrom_31 ?_
  refine a_aload_n (pc := 34) X9 dX7_copyFrom_34 rfl rfl ?_
  refine a_getR (pc := 35) X9 (q := (a1 + 2)) okX7 3 rfl wF_X7_18 (is7 ha1 hnn) (rf7_3 _ ha1) dX7_copyFrom_35 ?_
  refine a_callV (pc := 38) X9 E (m_X8_copyFrom (su7_3 _ ha0) (su7_3 _ ha1) hnn h) okX8 (is8 (su7_3 _ ha0) hnn) wM_X7_71 w_instanceMethod_X8_copyFrom w_selects_X8_copyFrom w_initialized_RX8 w_code_X8_copyFrom cp_X8_copyFrom pn_X8_copyFrom rfl (Nat.le_of_ble_eq_true rfl) ⟨Nat.le_of_ble_eq_true rfl, Nat.le_of_ble_eq_true rfl⟩ ⟨Nat.le_of_ble_eq_true rfl, Nat.le_of_ble_eq_true rfl⟩ dX7_copyFrom_38 (fun _ _ q => False.elim q) (kV (fun G_4 h hG_4 => ?_))
  refine a_aload_n (pc := 41) X9 dX7_copyFrom_41 rfl rfl ?_
  refine a_getR (pc := 42) X9 (q := (a0 + 11)) okX7 4 rfl wF_X7_25 (is7 ha0 hnn) (rf7_4 _ ha0) dX7_copyFrom_42 ?_
  refine a_aload_n (pc := 45) X9 dX7_copyFrom_45 rfl rfl ?_
  refine a_getR (pc := 46) X9 (q := (a1 + 11)) okX7 4 rfl wF_X7_25 (is7 ha1 hnn) (rf7_4 _ ha1) dX7_copyFrom_46 ?_
  refine a_callV (pc := 49) X9 E (m_X6_copyFrom (su7_4 _ ha0) (su7_4 _ ha1) hnn h) okX6 (is6 (su7_4 _ ha0) hnn) wM_X7_75 w_instanceMethod_X6_copyFrom w_selects_X6_copyFrom w_initialized_RX6 w_code_X6_copyFrom cp_X6_copyFrom pn_X6_copyFrom rfl (Nat.le_of_ble_eq_true rfl) ⟨Nat.le_of_ble_eq_true rfl, Nat.le_of_ble_eq_true rfl⟩ ⟨Nat.le_of_ble_eq_true rfl, Nat.le_of_ble_eq_true rfl⟩ dX7_copyFrom_49 (fun _ _ q => False.elim q) (kV (fun G_5 h hG_5 => ?_))
  refine a_aload_n (pc := 52) X9 dX7_copyFrom_52 rfl rfl ?_
  refine a_getR (pc := 53) X9 (q := (a0 + 14)) okX7 5 rfl wF_X7_32 (is7 ha0 hnn) (rf7_5 _ ha0) dX7_copyFrom_53 ?_
  refine a_aload_n (pc := 56) X9 dX7_copyFrom_56 rfl rfl ?_
  refine a_getR (pc := 57) X9 (q := (a1 + 14)) okX7 5 rfl wF_X7_32 (is7 ha1 hnn) (rf7_5 _ ha1) dX7_copyFrom_57 ?_
  refine a_callV (pc := 60) X9 E (m_X0_copyFrom (su7_5 _ ha0) (su7_5 _ ha1) hnn h) okX0 (is0 (su7_5 _ ha0) hnn) wM_X7_78 w_instanceMethod_X0_copyFrom w_selects_X0_copyFrom w_initialized_RX0 w_code_X0_copyFrom cp_X0_copyFrom pn_X0_copyFrom rfl (Nat.le_of_ble_eq_true rfl) ⟨Nat.le_of_ble_eq_true rfl, Nat.le_of_ble_eq_true rfl⟩ ⟨Nat.le_of_ble_eq_true rfl, Nat.le_of_ble_eq_true rfl⟩ dX7_copyFrom_60 (fun _ _ q => False.elim q) (kV (fun G_6 h hG_6 => ?_))
  refine a_aload_n (pc := 63) X9 dX7_copyFrom_63 rfl rfl ?_
  refine a_aload_n (pc := 64) X9 dX7_copyFrom_64 rfl rfl ?_
  refine a_getI (pc := 65) X9 okX7 6 rfl wF_X7_53 (is7 ha1 hnn) dX7_copyFrom_65 ?_
  refine a_putI (pc := 68) X9 okX7 6 rfl rfl (v := (G_6 a1 6)) wF_X7_53 (is7 ha0 hnn) dX7_copyFrom_68 (hG_6 _ _) (fit_int _) (fun _ => ?_)
  obtain ⟨G_7, eG_7⟩ : ∃ G9, G9 = upG G_6 a0 6 (G_6 a1 6) := ⟨_, rfl⟩
  have hG_7 : GR G_7 := by rw [eG_7]; exact (GR.up hG_6 (hG_6 _ _))
  have h := h G_7 eG_7
  rw [← eG_7]
  refine a_aload_n (pc := 71) X9 dX7_copyFrom_71 rfl rfl ?_
  refine a_aload_n (pc := 72) X9 dX7_copyFrom_72 rfl rfl ?_
  refine a_getI (pc := 73) X9 okX7 7 rfl wF_X7_56 (is7 ha1 hnn) dX7_copyFrom_73 ?_
  refine a_putI (pc := 76) X9 okX7 7 rfl rfl (v := (G_7 a1 7)) wF_X7_56 (is7 ha0 hnn) dX7_copyFrom_76 (hG_7 _ _) (fit_int _) (fun _ => ?_)
  obtain ⟨G_8, eG_8⟩ : ∃ G9, G9 = upG G_7 a0 7 (G_7 a1 7) := ⟨_, rfl⟩
  have hG_8 : GR G_8 := by rw [eG_8]; exact (GR.up hG_7 (hG_7 _ _))
  have h := h G_8 eG_8
  rw [← eG_8]
  refine a_aload_n (pc := 79) X9 dX7_copyFrom_79 rfl rfl ?_
  refine a_aload_n (pc := 80) X9 dX7_copyFrom_80 rfl rfl ?_
  refine a_getI (pc := 81) X9 okX7 8 rfl wF_X7_59 (is7 ha1 hnn) dX7_copyFrom_81 ?_
  refine a_putI (pc := 84) X9 okX7 8 rfl rfl (v := (G_8 a1 8)) wF_X7_59 (is7 ha0 hnn) dX7_copyFrom_84 (hG_8 _ _) (fit_int _) (fun _ => ?_)
  obtain ⟨G_9, eG_9⟩ : ∃ G9, G9 = upG G_8 a0 8 (G_8 a1 8) := ⟨_, rfl⟩
  have hG_9 : GR G_9 := by rw [eG_9]; exact (GR.up hG_8 (hG_8 _ _))
  have h := h G_9 eG_9
  rw [← eG_9]
  refine a_aload_n (pc := 87) X9 dX7_copyFrom_87 rfl rfl ?_
  refine a_aload_n (pc := 88) X9 dX7_copyFrom_88 rfl rfl ?_
  refine a_getI (pc := 89) X9 okX7 9 rfl wF_X7_62 (is7 ha1 hnn) dX7_copyFrom_89 ?_
  refine a_putI (pc := 92) X9 okX7 9 rfl rfl (v := (G_9 a1 9)) wF_X7_62 (is7 ha0 hnn) dX7_copyFrom_92 (hG_9 _ _) (fit_int _) (fun _ => ?_)
  obtain ⟨G_10, eG_10⟩ : ∃ G9, G9 = upG G_9 a0 9 (G_9 a1 9) := ⟨_, rfl⟩
  have hG_10 : GR G_10 := by rw [eG_10]; exact (GR.up hG_9 (hG_9 _ _))
  have h := h G_10 eG_10
  rw [← eG_10]
  exact a_return (pc := 95) X9 E (Nat.le_of_ble_eq_true rfl) (Nat.le_of_ble_eq_true rfl) dX7_copyFrom_95 ⟨rfl, rfl, h⟩
set_option maxHeartbeats 4000000 in
set_option maxRecDepth 100000 in
theorem m_X1_forget {nn : Nat}  {G : GH} {Q : GH → Prop}  (hnn : 272 ≤ nn) (h : f_X1_forget G Q) : Mt yX1_forget cX1_forget 1 none 0 0 0 0 [vr 44] (SF nn) G (fun v S' G' => S' = SF nn ∧ qV Q v S' G') (fun E S' G' => S' = SF nn ∧ False) := by
  refine Mt.of (l0 := [some (vr 44)]) (by decide) (Nat.le_of_ble_eq_true rfl) rfl ?_
  intro κ δ ρ0 X9 E hG
  replace X9 : CX κ δ RX1 cX1_forget 1 none := X9
  refine a_aload_n (pc := 0) X9 dX1_forget_0 rfl rfl ?_
  refine a_iconst (pc := 1) X9 dX1_forget_1 ?_
  refine a_putI (pc := 2) X9 okX1 2 rfl rfl (v := 0) wF_X1_26 (is1 hnn) dX1_forget_2 (by decide) (fit_int _) (fun _ => ?_)
  obtain ⟨G_1, eG_1⟩ : ∃ G9, G9 = upG G 44 2 0 := ⟨_, rfl⟩
  have hG_1 : GR G_1 := by rw [eG_1]; exact (GR.up hG (by decide))
  have h := h G_1 eG_1
  rw [← eG_1]
  exact a_return (pc := 5) X9 E (Nat.le_of_ble_eq_true rfl) (Nat.le_of_ble_eq_true rfl) dX1_forget_5 ⟨rfl, rfl, h⟩
set_option maxHeartbeats 4000000 in
set_option maxRecDepth 100000 in
theorem m_X9_load {nn : Nat}  {G : GH} {Q : Int → GH → Prop}  (hnn : 272 ≤ nn) (h : f_X9_load G Q) : Mt yX9_load cX9_load 2 (some .int) 8 173 0 0 [vr 0] (SF nn) G (fun v S' G' => S' = SF nn ∧ qI Q v S' G') (fun E S' G' => S' = SF nn ∧ False) := by
  refine Mt.of (l0 := [some (vr 0), none]) (by decide) (Nat.le_of_ble_eq_true rfl) rfl ?_
  intro κ δ ρ0 X9 E hG
  replace X9 : CX κ δ RX9 cX9_load 2 (some .int) := X9
  refine a_aload_n (pc := 0) X9 dX9_load_0 rfl rfl ?_
  refine a_getR (pc := 1) X9 (q := 41) okX9 2 rfl wF_X9_22 (is9 hnn) rf9_2 dX9_load_1 ?_
  refine a_aload_n (pc := 4) X9 dX9_load_4 rfl rfl ?_
  refine a_getR (pc := 5) X9 (q := 21) okX9 1 rfl wF_X9_16 (is9 hnn) rf9_1 dX9_load_5 ?_
  refine a_callV (pc := 8) X9 E (m_X5_readInto su9_1 hnn h) okX5 (is5 hnn) wM_X9_80 w_instanceMethod_X5_readInto w_selects_X5_readInto w_initialized_RX5 w_code_X5_readInto cp_X5_readInto pn_X5_readInto rfl (Nat.le_of_ble_eq_true rfl) ⟨Nat.le_of_ble_eq_true rfl, Nat.le_of_ble_eq_true rfl⟩ ⟨Nat.le_of_ble_eq_true rfl, Nat.le_of_ble_eq_true rfl⟩ dX9_load_8 (fun _ _ q => False.elim q) (kZ (fun r_1 G_1 hr_1 h hG_1 => ?_))
  refine a_istore_n (pc := 11) X9 dX9_load_11 rfl (Nat.le_of_ble_eq_true rfl) rfl rfl ?_
  refine a_aload_n (pc := 12) X9 dX9_load_12 rfl rfl ?_
  refine a_getR (pc := 13) X9 (q := 41) okX9 2 rfl wF_X9_22 (is9 hnn) rf9_2 dX9_load_13 ?_
  refine a_iconst (pc := 16) X9 dX9_load_16 ?_
  refine a_putI (pc := 17) X9 okX5 1 rfl rfl (v := 0) wF_X9_84 (is5 hnn) dX9_load_17 (by decide) (fit_int _) (fun _ => ?_)
  obtain ⟨G_2, eG_2⟩ : ∃ G9, G9 = upG G_1 41 1 0 := ⟨_, rfl⟩
  have hG_2 : GR G_2 := by rw [eG_2]; exact (GR.up hG_1 (by decide))
  have h := h G_2 eG_2
  rw [← eG_2]
  refine a_iload_n (pc := 20) X9 dX9_load_20 rfl rfl ?_
  refine a_if_ne (pc := 21) (tgt := 35) X9 dX9_load_21 rfl (bool_inR hr_1) (fun c => ?_) (fun c => ?_)
  · have c_1 := c
    have h := h.1 c_1
    refine a_aload_n (pc := 35) X9 dX9_load_35 rfl rfl ?_
    refine a_getR (pc := 36) X9 (q := 1) okX9 0 rfl wF_X9_12 (is9 hnn) rf9_0 dX9_load_36 ?_
    refine a_aload_n (pc := 39) X9 dX9_load_39 rfl rfl ?_
    refine a_getR (pc := 40) X9 (q := 21) okX9 1 rfl wF_X9_16 (is9 hnn) rf9_1 dX9_load_40 ?_
    refine a_callV (pc := 43) X9 E (m_X7_copyFrom su9_0 su9_1 hnn h) okX7 (is7 su9_0 hnn) wM_X9_90 w_instanceMethod_X7_copyFrom w_selects_X7_copyFrom w_initialized_RX7 w_code_X7_copyFrom cp_X7_copyFrom pn_X7_copyFrom rfl (Nat.le_of_ble_eq_true rfl) ⟨Nat.le_of_ble_eq_true rfl, Nat.le_of_ble_eq_true rfl⟩ ⟨Nat.le_of_ble_eq_true rfl, Nat.le_of_ble_eq_true rfl⟩ dX9_load_43 (fun _ _ q => False.elim q) (kV (fun G_3 h hG_3 => ?_))
    refine a_aload_n (pc := 46) X9 dX9_load_46 rfl rfl ?_
    refine a_getR (pc := 47) X9 (q := 44) okX9 3 rfl wF_X9_29 (is9 hnn) rf9_3 dX9_load_47 ?_
    refine a_callV (pc := 50) X9 E (m_X1_forget  hnn h) okX1 (is1 hnn) wM_X9_94 w_instanceMethod_X1_forget w_selects_X1_forget w_initialized_RX1 w_code_X1_forget cp_X1_forget pn_X1_forget rfl (Nat.le_of_ble_eq_true rfl) ⟨Nat.le_of_ble_eq_true rfl, Nat.le_of_ble_eq_true rfl⟩ ⟨Nat.le_of_ble_eq_true rfl, Nat.le_of_ble_eq_true rfl⟩ dX9_load_50 (fun _ _ q => False.elim q) (kV (fun G_4 h hG_4 => ?_))
    refine a_aload_n (pc := 53) X9 dX9_load_53 rfl rfl ?_
    refine a_getR (pc := 54) X9 (q := 1) okX9 0 rfl wF_X9_12 (is9 hnn) rf9_0 dX9_load_54 ?_
    refine a_getR (pc := 57) X9 (q := 12) okX7 4 rfl wF_X9_97 (is7 su9_0 hnn) (rf7_4 _ su9_0) dX9_load_57 ?_
    refine a_getI (pc := 60) X9 okX6 0 rfl wF_X9_101 (is6 (su7_4 _ su9_0) hnn) dX9_load_60 ?_
    exact a_ireturn (pc := 63) X9 E rfl rfl (Nat.le_of_ble_eq_true rfl) (Nat.le_of_ble_eq_true rfl) dX9_load_63 ⟨rfl, _, rfl, (hG_4 _ _), h⟩
  · have c_1 := c
    have h := h.2 c_1
    refine a_bipush (pc := 24) X9 dX9_load_24 rfl ?_
    refine a_aload_n (pc := 26) X9 dX9_load_26 rfl rfl ?_
    refine a_getR (pc := 27) X9 (q := 41) okX9 2 rfl wF_X9_22 (is9 hnn) rf9_2 dX9_load_27 ?_
    refine a_getI (pc := 30) X9 okX5 3 rfl wF_X9_87 (is5 hnn) dX9_load_30 ?_
    refine a_isub (pc := 33) X9 dX9_load_33 ?_
    obtain ⟨g_1, h⟩ := h
    exact a_ireturn (pc := 34) X9 E rfl rfl (Nat.le_of_ble_eq_true rfl) (Nat.le_of_ble_eq_true rfl) dX9_load_34 ⟨rfl, _, rfl, g_1, h⟩
set_option maxHeartbeats 4000000 in
set_option maxRecDepth 100000 in
theorem m_X7_rowsAhead {nn : Nat} {a0 : Nat} {i1 : Int} {G : GH} {Q : Int → Prop} (ha0 : a0 ∈ L7) (hi1 : inR i1) (hnn : 272 ≤ nn) (h : f_X7_rowsAhead a0 i1 G Q) : Mt yX7_rowsAhead cX7_rowsAhead 4 (some .int) 0 0 0 0 [vr a0, vi i1] (SF nn) G (fun v S' G' => S' = SF nn ∧ qI (fun r9 G9 => G9 = G ∧ Q r9) v S' G') (fun E S' G' => S' = SF nn ∧ False) := by
  refine Mt.of (l0 := [some (vr a0), some (vi i1), none, none]) (by decide) (Nat.le_of_ble_eq_true rfl) rfl ?_
  intro κ δ ρ0 X9 E hG
  replace X9 : CX κ δ RX7 cX7_rowsAhead 4 (some .int) := X9
  refine a_iconst (pc := 0) X9 dX7_rowsAhead_0 ?_
  refine a_istore_n (pc := 1) X9 dX7_rowsAhead_1 rfl (Nat.le_of_ble_eq_true rfl) rfl rfl ?_
  refine a_iconst (pc := 2) X9 dX7_rowsAhead_2 ?_
  refine a_istore_n (pc := 3) X9 dX7_rowsAhead_3 rfl (Nat.le_of_ble_eq_true rfl) rfl rfl ?_
  refine loopM2 (A := fun x2_1 x3_1 => inR x2_1 → inR x3_1 → AW κ δ ρ0 (szF nn) 4 0 0 4 [some (vr a0), some (vi i1), some (vi x2_1), some (vi x3_1)] [] (SF nn) G) (fun k_1 hk_1 x2_1 x3_1 h h_x2_1 h_x3_1 => ?_) _ _ h (by decide) (by decide)
  refine a_iload_n (pc := 4) X9 dX7_rowsAhead_4 rfl rfl ?_
  refine a_iload_n (pc := 5) X9 dX7_rowsAhead_5 rfl rfl ?_
  refine a_icmp_ge (pc := 6) (tgt := 24) X9 dX7_rowsAhead_6 rfl h_x3_1 hi1 (fun c => ?_) (fun c => ?_)
  · have c_1 := c
    have h := h.1 c_1
    refine a_iload_n (pc := 24) X9 dX7_rowsAhead_24 rfl rfl ?_
    exact a_ireturn (pc := 25) X9 E rfl rfl (Nat.le_of_ble_eq_true rfl) (Nat.le_of_ble_eq_true rfl) dX7_rowsAhead_25 ⟨rfl, _, rfl, h_x2_1, rfl, h⟩
  · have c_1 := c
    have h := h.2 c_1
    refine a_iload_n (pc := 9) X9 dX7_rowsAhead_9 rfl rfl ?_
    refine a_aload_n (pc := 10) X9 dX7_rowsAhead_10 rfl rfl ?_
    refine a_getR (pc := 11) X9 (q := (a0 + 1)) okX7 1 rfl wF_X7_9 (is7 ha0 hnn) (rf7_1 _ ha0) dX7_rowsAhead_11 ?_
    refine a_iload_n (pc := 14) X9 dX7_rowsAhead_14 rfl rfl ?_
    obtain ⟨g_1, h⟩ := h
    refine b_iald (pc := 15) X9 (ar7_1 ha0 hnn) (Nat.le_of_ble_eq_true rfl) g_1 dX7_rowsAhead_15 ?_
    refine a_iadd (pc := 16) X9 dX7_rowsAhead_16 ?_
    refine a_istore_n (pc := 17) X9 dX7_rowsAhead_17 rfl (Nat.le_of_ble_eq_true rfl) rfl rfl ?_
    refine a_iinc (pc := 18) X9 dX7_rowsAhead_18 rfl (Nat.le_of_ble_eq_true rfl) rfl rfl ?_
    refine a_goto (pc := 21) (tgt := 4) X9 dX7_rowsAhead_21 rfl ?_
    obtain ⟨g_2, h⟩ := h
    have q_1 : inR (i1) := hi1
    have q_2 : inR (x3_1) := h_x3_1
    have g_3 : inR ((x3_1 + 1)) := ⟨by omega, by omega⟩
    exact hk_1 _ _ h g_2 g_3
set_option maxHeartbeats 4000000 in
set_option maxRecDepth 100000 in
theorem m_X0_countCards {nn : Nat} {a0 : Nat} {G : GH} {Q : Int → Prop} (ha0 : a0 ∈ L0) (hnn : 272 ≤ nn) (h : f_X0_countCards a0 G Q) : Mt yX0_countCards cX0_countCards 3 (some .int) 0 0 0 0 [vr a0] (SF nn) G (fun v S' G' => S' = SF nn ∧ qI (fun r9 G9 => G9 = G ∧ Q r9) v S' G') (fun E S' G' => S' = SF nn ∧ False) := by
  refine Mt.of (l0 := [some (vr a0), none, none]) (by decide) (Nat.le_of_ble_eq_true rfl) rfl ?_
  intro κ δ ρ0 X9 E hG
  replace X9 : CX κ δ RX0 cX0_countCards 3 (some .int) := X9
  refine a_iconst (pc := 0) X9 dX0_countCards_0 ?_
  refine a_istore_n (pc := 1) X9 dX0_countCards_1 rfl (Nat.le_of_ble_eq_true rfl) rfl rfl ?_
  refine a_iconst (pc := 2) X9 dX0_countCards_2 ?_
  refine a_istore_n (pc := 3) X9 dX0_countCards_3 rfl (Nat.le_of_ble_eq_true rfl) rfl rfl ?_
  refine loopM2 (A := fun x1_1 x2_1 => inR x1_1 → inR x2_1 → AW κ δ ρ0 (szF nn) 3 0 0 4 [some (vr a0), some (vi x1_1), some (vi x2_1)] [] (SF nn) G) (fun k_1 hk_1 x1_1 x2_1 h h_x1_1 h_x2_1 => ?_) _ _ h (by decide) (by decide)
  refine a_iload_n (pc := 4) X9 dX0_countCards_4 rfl rfl ?_
  refine a_bipush (pc := 5) X9 dX0_countCards_5 rfl ?_
  refine a_icmp_ge (pc := 7) (tgt := 29) X9 dX0_countCards_7 rfl h_x2_1 (by decide) (fun c => ?_) (fun c => ?_)
  · have c_1 := c
    have h := h.1 c_1
    refine a_iload_n (pc := 29) X9 dX0_countCards_29 rfl rfl ?_
    exact a_ireturn (pc := 30) X9 E rfl rfl (Nat.le_of_ble_eq_true rfl) (Nat.le_of_ble_eq_true rfl) dX0_countCards_30 ⟨rfl, _, rfl, h_x1_1, rfl, h⟩
  · have c_1 := c
    have h := h.2 c_1
    refine a_aload_n (pc := 10) X9 dX0_countCards_10 rfl rfl ?_
    refine a_getR (pc := 11) X9 (q := (a0 + 2)) okX0 2 rfl wF_X0_19 (is0 ha0 hnn) (rf0_2 _ ha0) dX0_countCards_11 ?_
    refine a_iload_n (pc := 14) X9 dX0_countCards_14 rfl rfl ?_
    obtain ⟨g_1, h⟩ := h
    refine b_iald (pc := 15) X9 (ar0_2 ha0 hnn) (Nat.le_of_ble_eq_true rfl) g_1 dX0_countCards_15 ?_
    refine a_iconst (pc := 16) X9 dX0_countCards_16 ?_
    refine a_icmp_eq (pc := 17) (tgt := 23) X9 dX0_countCards_17 rfl (hG _ _) (by decide) (fun c => ?_) (fun c => ?_)
    · have c_2 := c
      have h := h.1 c_2
      refine a_iinc (pc := 23) X9 dX0_countCards_23 rfl (Nat.le_of_ble_eq_true rfl) rfl rfl ?_
      refine a_goto (pc := 26) (tgt := 4) X9 dX0_countCards_26 rfl ?_
      have q_1 : inR (x2_1) := h_x2_1
      have g_2 : inR ((x2_1 + 1)) := ⟨by omega, by omega⟩
      exact hk_1 _ _ h h_x1_1 g_2
    · have c_2 := c
      have h := h.2 c_2
      refine a_iinc (pc := 20) X9 dX0_countCards_20 rfl (Nat.le_of_ble_eq_true rfl) rfl rfl ?_
      refine a_iinc (pc := 23) X9 dX0_countCards_23 rfl (Nat.le_of_ble_eq_true rfl) rfl rfl ?_
      refine a_goto (pc := 26) (tgt := 4) X9 dX0_countCards_26 rfl ?_
      obtain ⟨g_3, h⟩ := h
      have q_2 : inR (x2_1) := h_x2_1
      have g_4 : inR ((x2_1 + 1)) := ⟨by omega, by omega⟩
      exact hk_1 _ _ h g_3 g_4
set_option maxHeartbeats 4000000 in
set_option maxRecDepth 100000 in
theorem m_X9_size {nn : Nat} {i1 : Int} {G : GH} {Q : Int → Prop} (hi1 : inR i1) (hnn : 272 ≤ nn) (h : f_X9_size i1 G Q (fun _ => False)) : Mt yX9_size cX9_size 2 (some .int) 1 23 0 0 [vr 0, vi i1] (SF nn) G (fun v S' G' => S' = SF nn ∧ qI (fun r9 G9 => G9 = G ∧ Q r9) v S' G') (fun E S' G' => S' = SF nn ∧ False) := by
  refine Mt.of (l0 := [some (vr 0), some (vi i1)]) (by decide) (Nat.le_of_ble_eq_true rfl) rfl ?_
  intro κ δ ρ0 X9 E hG
  replace X9 : CX κ δ RX9 cX9_size 2 (some .int) := X9
  refine a_iload_n (pc := 0) X9 dX9_size_0 rfl rfl ?_
  have c_1 : (i1 < 0 ∨ 14 < i1) ∨ i1 = 0 ∨ i1 = 1 ∨ i1 = 2 ∨ i1 = 3 ∨ i1 = 4 ∨ i1 = 5 ∨ i1 = 6 ∨ i1 = 7 ∨ i1 = 8 ∨ i1 = 9 ∨ i1 = 10 ∨ i1 = 11 ∨ i1 = 12 ∨ i1 = 13 ∨ i1 = 14 := by omega
  rcases c_1 with c_1 | c_1 | c_1 | c_1 | c_1 | c_1 | c_1 | c_1 | c_1 | c_1 | c_1 | c_1 | c_1 | c_1 | c_1 | c_1
  · refine a_tableOut (pc := 1) (tgt := 240) X9 dX9_size_1 hi1 c_1 rfl ?_
    have h := h.1 c_1
    exact h.elim
  · refine a_tableIn (pc := 1) (tgt := 76) X9 dX9_size_1 hi1 (by omega) (by omega) (by rw [c_1]; rfl) rfl ?_
    have h := h.2.1 c_1
    refine a_aload_n (pc := 76) X9 dX9_size_76 rfl rfl ?_
    refine a_getR (pc := 77) X9 (q := 1) okX9 0 rfl wF_X9_12 (is9 hnn) rf9_0 dX9_size_77 ?_
    refine a_getI (pc := 80) X9 okX7 0 rfl wF_X9_68 (is7 su9_0 hnn) dX9_size_80 ?_
    exact a_ireturn (pc := 83) X9 E rfl rfl (Nat.le_of_ble_eq_true rfl) (Nat.le_of_ble_eq_true rfl) dX9_size_83 ⟨rfl, _, rfl, (hG _ _), rfl, h⟩
  · refine a_tableIn (pc := 1) (tgt := 84) X9 dX9_size_1 hi1 (by omega) (by omega) (by rw [c_1]; rfl) rfl ?_
    have h := h.2.2.1 c_1
    refine a_aload_n (pc := 84) X9 dX9_size_84 rfl rfl ?_
    refine a_getR (pc := 85) X9 (q := 1) okX9 0 rfl wF_X9_12 (is9 hnn) rf9_0 dX9_size_85 ?_
    refine a_aload_n (pc := 88) X9 dX9_size_88 rfl rfl ?_
    refine a_getR (pc := 89) X9 (q := 1) okX9 0 rfl wF_X9_12 (is9 hnn) rf9_0 dX9_size_89 ?_
    refine a_getI (pc := 92) X9 okX7 0 rfl wF_X9_68 (is7 su9_0 hnn) dX9_size_92 ?_
    refine a_callV (pc := 95) X9 E (m_X7_rowsAhead su9_0 (hG _ _) hnn h) okX7 (is7 su9_0 hnn) wM_X9_112 w_instanceMethod_X7_rowsAhead w_selects_X7_rowsAhead w_initialized_RX7 w_code_X7_rowsAhead cp_X7_rowsAhead pn_X7_rowsAhead rfl (Nat.le_of_ble_eq_true rfl) ⟨Nat.le_of_ble_eq_true rfl, Nat.le_of_ble_eq_true rfl⟩ ⟨Nat.le_of_ble_eq_true rfl, Nat.le_of_ble_eq_true rfl⟩ dX9_size_95 (fun _ _ q => False.elim q) (kIp (fun r_1 hr_1 h => ?_))
    exact a_ireturn (pc := 98) X9 E rfl rfl (Nat.le_of_ble_eq_true rfl) (Nat.le_of_ble_eq_true rfl) dX9_size_98 ⟨rfl, _, rfl, hr_1, rfl, h⟩
  · refine a_tableIn (pc := 1) (tgt := 99) X9 dX9_size_1 hi1 (by omega) (by omega) (by rw [c_1]; rfl) rfl ?_
    have h := h.2.2.2.1 c_1
    refine a_aload_n (pc := 99) X9 dX9_size_99 rfl rfl ?_
    refine a_getR (pc := 100) X9 (q := 1) okX9 0 rfl wF_X9_12 (is9 hnn) rf9_0 dX9_size_100 ?_
    refine a_getR (pc := 103) X9 (q := 3) okX7 3 rfl wF_X9_116 (is7 su9_0 hnn) (rf7_3 _ su9_0) dX9_size_103 ?_
    refine a_getI (pc := 106) X9 okX8 0 rfl wF_X9_120 (is8 (su7_3 _ su9_0) hnn) dX9_size_106 ?_
    refine a_if_eq (pc := 109) (tgt := 116) X9 dX9_size_109 rfl (hG _ _) (fun c => ?_) (fun c => ?_)
    · have c_2 := c
      have h := h.1 c_2
      refine a_iconst (pc := 116) X9 dX9_size_116 ?_
      exact a_ireturn (pc := 117) X9 E rfl rfl (Nat.le_of_ble_eq_true rfl) (Nat.le_of_ble_eq_true rfl) dX9_size_117 ⟨rfl, _, rfl, (show inR 0 by decide), rfl, h⟩
    · have c_2 := c
      have h := h.2 c_2
      refine a_iconst (pc := 112) X9 dX9_size_112 ?_
      refine a_goto (pc := 113) (tgt := 117) X9 dX9_size_113 rfl ?_
      exact a_ireturn (pc := 117) X9 E rfl rfl (Nat.le_of_ble_eq_true rfl) (Nat.le_of_ble_eq_true rfl) dX9_size_117 ⟨rfl, _, rfl, (show inR 1 by decide), rfl, h⟩
  · refine a_tableIn (pc := 1) (tgt := 118) X9 dX9_size_1 hi1 (by omega) (by omega) (by rw [c_1]; rfl) rfl ?_
    have h := h.2.2.2.2.1 c_1
    refine a_aload_n (pc := 118) X9 dX9_size_118 rfl rfl ?_
    refine a_getR (pc := 119) X9 (q := 1) okX9 0 rfl wF_X9_12 (is9 hnn) rf9_0 dX9_size_119 ?_
    refine a_getI (pc := 122) X9 okX7 2 rfl wF_X9_126 (is7 su9_0 hnn) dX9_size_122 ?_
    refine a_if_eq (pc := 125) (tgt := 132) X9 dX9_size_125 rfl (hG _ _) (fun c => ?_) (fun c => ?_)
    · have c_3 := c
      have h := h.1 c_3
      refine a_iconst (pc := 132) X9 dX9_size_132 ?_
      exact a_ireturn (pc := 133) X9 E rfl rfl (Nat.le_of_ble_eq_true rfl) (Nat.le_of_ble_eq_true rfl) dX9_size_133 ⟨rfl, _, rfl, (show inR 0 by decide), rfl, h⟩
    · have c_3 := c
      have h := h.2 c_3
      refine a_iconst (pc := 128) X9 dX9_size_128 ?_
      refine a_goto (pc := 129) (tgt := 133) X9 dX9_size_129 rfl ?_
      exact a_ireturn (pc := 133) X9 E rfl rfl (Nat.le_of_ble_eq_true rfl) (Nat.le_of_ble_eq_true rfl) dX9_size_133 ⟨rfl, _, rfl, (show inR 1 by decide), rfl, h⟩
  · refine a_tableIn (pc := 1) (tgt := 134) X9 dX9_size_1 hi1 (by omega) (by omega) (by rw [c_1]; rfl) rfl ?_
    have h := h.2.2.2.2.2.1 c_1
    refine a_aload_n (pc := 134) X9 dX9_size_134 rfl rfl ?_
    refine a_getR (pc := 135) X9 (q := 1) okX9 0 rfl wF_X9_12 (is9 hnn) rf9_0 dX9_size_135 ?_
    refine a_getR (pc := 138) X9 (q := 3) okX7 3 rfl wF_X9_116 (is7 su9_0 hnn) (rf7_3 _ su9_0) dX9_size_138 ?_
    refine a_getI (pc := 141) X9 okX8 1 rfl wF_X9_129 (is8 (su7_3 _ su9_0) hnn) dX9_size_141 ?_
    exact a_ireturn (pc := 144) X9 E rfl rfl (Nat.le_of_ble_eq_true rfl) (Nat.le_of_ble_eq_true rfl) dX9_size_144 ⟨rfl, _, rfl, (hG _ _), rfl, h⟩
  · refine a_tableIn (pc := 1) (tgt := 145) X9 dX9_size_1 hi1 (by omega) (by omega) (by rw [c_1]; rfl) rfl ?_
    have h := h.2.2.2.2.2.2.1 c_1
    refine a_aload_n (pc := 145) X9 dX9_size_145 rfl rfl ?_
    refine a_getR (pc := 146) X9 (q := 1) okX9 0 rfl wF_X9_12 (is9 hnn) rf9_0 dX9_size_146 ?_
    refine a_getR (pc := 149) X9 (q := 3) okX7 3 rfl wF_X9_116 (is7 su9_0 hnn) (rf7_3 _ su9_0) dX9_size_149 ?_
    refine a_getI (pc := 152) X9 okX8 5 rfl wF_X9_132 (is8 (su7_3 _ su9_0) hnn) dX9_size_152 ?_
    exact a_ireturn (pc := 155) X9 E rfl rfl (Nat.le_of_ble_eq_true rfl) (Nat.le_of_ble_eq_true rfl) dX9_size_155 ⟨rfl, _, rfl, (hG _ _), rfl, h⟩
  · refine a_tableIn (pc := 1) (tgt := 156) X9 dX9_size_1 hi1 (by omega) (by omega) (by rw [c_1]; rfl) rfl ?_
    have h := h.2.2.2.2.2.2.2.1 c_1
    refine a_aload_n (pc := 156) X9 dX9_size_156 rfl rfl ?_
    refine a_getR (pc := 157) X9 (q := 1) okX9 0 rfl wF_X9_12 (is9 hnn) rf9_0 dX9_size_157 ?_
    refine a_getR (pc := 160) X9 (q := 12) okX7 4 rfl wF_X9_97 (is7 su9_0 hnn) (rf7_4 _ su9_0) dX9_size_160 ?_
    refine a_getI (pc := 163) X9 okX6 0 rfl wF_X9_101 (is6 (su7_4 _ su9_0) hnn) dX9_size_163 ?_
    exact a_ireturn (pc := 166) X9 E rfl rfl (Nat.le_of_ble_eq_true rfl) (Nat.le_of_ble_eq_true rfl) dX9_size_166 ⟨rfl, _, rfl, (hG _ _), rfl, h⟩
  · refine a_tableIn (pc := 1) (tgt := 167) X9 dX9_size_1 hi1 (by omega) (by omega) (by rw [c_1]; rfl) rfl ?_
    have h := h.2.2.2.2.2.2.2.2.1 c_1
    refine a_aload_n (pc := 167) X9 dX9_size_167 rfl rfl ?_
    refine a_getR (pc := 168) X9 (q := 1) okX9 0 rfl wF_X9_12 (is9 hnn) rf9_0 dX9_size_168 ?_
    refine a_getR (pc := 171) X9 (q := 3) okX7 3 rfl wF_X9_116 (is7 su9_0 hnn) (rf7_3 _ su9_0) dX9_size_171 ?_
    refine a_getI (pc := 174) X9 okX8 8 rfl wF_X9_135 (is8 (su7_3 _ su9_0) hnn) dX9_size_174 ?_
    exact a_ireturn (pc := 177) X9 E rfl rfl (Nat.le_of_ble_eq_true rfl) (Nat.le_of_ble_eq_true rfl) dX9_size_177 ⟨rfl, _, rfl, (hG _ _), rfl, h⟩
  · refine a_tableIn (pc := 1) (tgt := 178) X9 dX9_size_1 hi1 (by omega) (by omega) (by rw [c_1]; rfl) rfl ?_
    have h := h.2.2.2.2.2.2.2.2.2.1 c_1
    refine a_aload_n (pc := 178) X9 dX9_size_178 rfl rfl ?_
    refine a_getR (pc := 179) X9 (q := 1) okX9 0 rfl wF_X9_12 (is9 hnn) rf9_0 dX9_size_179 ?_
    refine a_getR (pc := 182) X9 (q := 15) okX7 5 rfl wF_X9_138 (is7 su9_0 hnn) (rf7_5 _ su9_0) dX9_size_182 ?_
    refine a_getI (pc := 185) X9 okX0 0 rfl wF_X9_141 (is0 (su7_5 _ su9_0) hnn) dX9_size_185 ?_
    exact a_ireturn (pc := 188) X9 E rfl rfl (Nat.le_of_ble_eq_true rfl) (Nat.le_of_ble_eq_true rfl) dX9_size_188 ⟨rfl, _, rfl, (hG _ _), rfl, h⟩
  · refine a_tableIn (pc := 1) (tgt := 189) X9 dX9_size_1 hi1 (by omega) (by omega) (by rw [c_1]; rfl) rfl ?_
    have h := h.2.2.2.2.2.2.2.2.2.2.1 c_1
    refine a_aload_n (pc := 189) X9 dX9_size_189 rfl rfl ?_
    refine a_getR (pc := 190) X9 (q := 1) okX9 0 rfl wF_X9_12 (is9 hnn) rf9_0 dX9_size_190 ?_
    refine a_getR (pc := 193) X9 (q := 15) okX7 5 rfl wF_X9_138 (is7 su9_0 hnn) (rf7_5 _ su9_0) dX9_size_193 ?_
    refine a_callV (pc := 196) X9 E (m_X0_countCards (su7_5 _ su9_0) hnn h) okX0 (is0 (su7_5 _ su9_0) hnn) wM_X9_144 w_instanceMethod_X0_countCards w_selects_X0_countCards w_initialized_RX0 w_code_X0_countCards cp_X0_countCards pn_X0_countCards rfl (Nat.le_of_ble_eq_true rfl) ⟨Nat.le_of_ble_eq_true rfl, Nat.le_of_ble_eq_true rfl⟩ ⟨Nat.le_of_ble_eq_true rfl, Nat.le_of_ble_eq_true rfl⟩ dX9_size_196 (fun _ _ q => False.elim q) (kIp (fun r_2 hr_2 h => ?_))
    exact a_ireturn (pc := 199) X9 E rfl rfl (Nat.le_of_ble_eq_true rfl) (Nat.le_of_ble_eq_true rfl) dX9_size_199 ⟨rfl, _, rfl, hr_2, rfl, h⟩
  · refine a_tableIn (pc := 1) (tgt := 200) X9 dX9_size_1 hi1 (by omega) (by omega) (by rw [c_1]; rfl) rfl ?_
    have h := h.2.2.2.2.2.2.2.2.2.2.2.1 c_1
    refine a_aload_n (pc := 200) X9 dX9_size_200 rfl rfl ?_
    refine a_getR (pc := 201) X9 (q := 1) okX9 0 rfl wF_X9_12 (is9 hnn) rf9_0 dX9_size_201 ?_
    refine a_getI (pc := 204) X9 okX7 6 rfl wF_X9_148 (is7 su9_0 hnn) dX9_size_204 ?_
    exact a_ireturn (pc := 207) X9 E rfl rfl (Nat.le_of_ble_eq_true rfl) (Nat.le_of_ble_eq_true rfl) dX9_size_207 ⟨rfl, _, rfl, (hG _ _), rfl, h⟩
  · refine a_tableIn (pc := 1) (tgt := 208) X9 dX9_size_1 hi1 (by omega) (by omega) (by rw [c_1]; rfl) rfl ?_
    have h := h.2.2.2.2.2.2.2.2.2.2.2.2.1 c_1
    refine a_aload_n (pc := 208) X9 dX9_size_208 rfl rfl ?_
    refine a_getR (pc := 209) X9 (q := 1) okX9 0 rfl wF_X9_12 (is9 hnn) rf9_0 dX9_size_209 ?_
    refine a_getI (pc := 212) X9 okX7 7 rfl wF_X9_151 (is7 su9_0 hnn) dX9_size_212 ?_
    exact a_ireturn (pc := 215) X9 E rfl rfl (Nat.le_of_ble_eq_true rfl) (Nat.le_of_ble_eq_true rfl) dX9_size_215 ⟨rfl, _, rfl, (hG _ _), rfl, h⟩
  · refine a_tableIn (pc := 1) (tgt := 216) X9 dX9_size_1 hi1 (by omega) (by omega) (by rw [c_1]; rfl) rfl ?_
    have h := h.2.2.2.2.2.2.2.2.2.2.2.2.2.1 c_1
    refine a_aload_n (pc := 216) X9 dX9_size_216 rfl rfl ?_
    refine a_getR (pc := 217) X9 (q := 1) okX9 0 rfl wF_X9_12 (is9 hnn) rf9_0 dX9_size_217 ?_
    refine a_getI (pc := 220) X9 okX7 8 rfl wF_X9_154 (is7 su9_0 hnn) dX9_size_220 ?_
    exact a_ireturn (pc := 223) X9 E rfl rfl (Nat.le_of_ble_eq_true rfl) (Nat.le_of_ble_eq_true rfl) dX9_size_223 ⟨rfl, _, rfl, (hG _ _), rfl, h⟩
  · refine a_tableIn (pc := 1) (tgt := 224) X9 dX9_size_1 hi1 (by omega) (by omega) (by rw [c_1]; rfl) rfl ?_
    have h := h.2.2.2.2.2.2.2.2.2.2.2.2.2.2.1 c_1
    refine a_aload_n (pc := 224) X9 dX9_size_224 rfl rfl ?_
    refine a_getR (pc := 225) X9 (q := 1) okX9 0 rfl wF_X9_12 (is9 hnn) rf9_0 dX9_size_225 ?_
    refine a_getI (pc := 228) X9 okX7 9 rfl wF_X9_157 (is7 su9_0 hnn) dX9_size_228 ?_
    exact a_ireturn (pc := 231) X9 E rfl rfl (Nat.le_of_ble_eq_true rfl) (Nat.le_of_ble_eq_true rfl) dX9_size_231 ⟨rfl, _, rfl, (hG _ _), rfl, h⟩
  · refine a_tableIn (pc := 1) (tgt := 232) X9 dX9_size_1 hi1 (by omega) (by omega) (by rw [c_1]; rfl) rfl ?_
    have h := h.2.2.2.2.2.2.2.2.2.2.2.2.2.2.2 c_1
    refine a_aload_n (pc := 232) X9 dX9_size_232 rfl rfl ?_
    refine a_getR (pc := 233) X9 (q := 44) okX9 3 rfl wF_X9_29 (is9 hnn) rf9_3 dX9_size_233 ?_
    refine a_getI (pc := 236) X9 okX1 2 rfl wF_X9_160 (is1 hnn) dX9_size_236 ?_
    exact a_ireturn (pc := 239) X9 E rfl rfl (Nat.le_of_ble_eq_true rfl) (Nat.le_of_ble_eq_true rfl) dX9_size_239 ⟨rfl, _, rfl, (hG _ _), rfl, h⟩

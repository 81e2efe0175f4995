-- ===== the walks of the methods; written by wip/whole/gen.py =====
set_option maxHeartbeats 4000000 in
set_option maxRecDepth 100000 in
theorem m_X9_outAt {nn : Nat} {i1 : Int} {G : GH} {Q : Int → GH → Prop} (hi1 : inR i1) (hnn : 272 ≤ nn) (h : f_X9_outAt i1 G Q (fun _ _ => False)) : Mt yX9_outAt cX9_outAt 2 (some .int) 6 149 0 0 [vr 0, vi i1] (SF nn) G (fun v S' G' => S' = SF nn ∧ qI Q v S' G') (fun E S' G' => S' = SF nn ∧ False) := by
  refine Mt.of (l0 := [some (vr 0), some (vi i1)]) (by decide) (Nat.le_of_ble_eq_true rfl) rfl ?_
  intro κ δ ρ0 X9 E hG
  replace X9 : CX κ δ RX9 cX9_outAt 2 (some .int) := X9
  refine a_aload_n (pc := 0) X9 dX9_outAt_0 rfl rfl ?_
  refine a_iload_n (pc := 1) X9 dX9_outAt_1 rfl rfl ?_
  refine a_callV (pc := 2) X9 E (m_X9_needService hi1 hnn h) okX9 (is9 hnn) wM_X9_216 w_instanceMethod_X9_needService w_selects_X9_needService w_initialized_RX9 w_code_X9_needService cp_X9_needService pn_X9_needService rfl (Nat.le_of_ble_eq_true rfl) ⟨Nat.le_of_ble_eq_true rfl, Nat.le_of_ble_eq_true rfl⟩ ⟨Nat.le_of_ble_eq_true rfl, Nat.le_of_ble_eq_true rfl⟩ dX9_outAt_2 (fun _ _ q => False.elim q) (kVp (fun h => ?_))
  refine a_aload_n (pc := 5) X9 dX9_outAt_5 rfl rfl ?_
  refine a_getR (pc := 6) X9 (q := 208) okX9 6 rfl wF_X9_44 (is9 hnn) rf9_6 dX9_outAt_6 ?_
  refine a_aload_n (pc := 9) X9 dX9_outAt_9 rfl rfl ?_
  refine a_getR (pc := 10) X9 (q := 1) okX9 0 rfl wF_X9_12 (is9 hnn) rf9_0 dX9_outAt_10 ?_
  refine a_iload_n (pc := 13) X9 dX9_outAt_13 rfl rfl ?_
  refine a_iconst (pc := 14) X9 dX9_outAt_14 ?_
  refine a_aload_n (pc := 15) X9 dX9_outAt_15 rfl rfl ?_
  refine a_getR (pc := 16) X9 (q := 218) okX9 7 rfl wF_X9_51 (is9 hnn) rf9_7 dX9_outAt_16 ?_
  refine a_callV (pc := 19) X9 E (m_X4_chooseRows su9_0 hi1 (show inR (-1) by decide) su9_7 hnn h) okX4 (is4 hnn) wM_X9_260 w_instanceMethod_X4_chooseRows w_selects_X4_chooseRows w_initialized_RX4 w_code_X4_chooseRows cp_X4_chooseRows pn_X4_chooseRows rfl (Nat.le_of_ble_eq_true rfl) ⟨Nat.le_of_ble_eq_true rfl, Nat.le_of_ble_eq_true rfl⟩ ⟨Nat.le_of_ble_eq_true rfl, Nat.le_of_ble_eq_true rfl⟩ dX9_outAt_19 (fun _ _ q => False.elim q) (kV (fun G_1 h hG_1 => ?_))
  refine a_aload_n (pc := 22) X9 dX9_outAt_22 rfl rfl ?_
  refine a_getR (pc := 23) X9 (q := 208) okX9 6 rfl wF_X9_44 (is9 hnn) rf9_6 dX9_outAt_23 ?_
  refine a_getI (pc := 26) X9 okX4 3 rfl wF_X9_283 (is4 hnn) dX9_outAt_26 ?_
  exact a_ireturn (pc := 29) X9 E rfl rfl (Nat.le_of_ble_eq_true rfl) (Nat.le_of_ble_eq_true rfl) dX9_outAt_29 ⟨rfl, _, rfl, (hG_1 _ _), h⟩
set_option maxHeartbeats 4000000 in
set_option maxRecDepth 100000 in
theorem m_X4_countMissing {nn : Nat} {a1 : Nat} {i2 : Int} {G : GH} {Q : Int → GH → Prop} (ha1 : a1 ∈ L7) (hi2 : inR i2) (hnn : 272 ≤ nn) (h : f_X4_countMissing a1 i2 G Q) : Mt yX4_countMissing cX4_countMissing 7 (some .int) 4 85 0 0 [vr 208, vr a1, vi i2] (SF nn) G (fun v S' G' => S' = SF nn ∧ qI Q v S' G') (fun E S' G' => S' = SF nn ∧ False) := by
  refine Mt.of (l0 := [some (vr 208), some (vr a1), some (vi i2), none, none, none, none]) (by decide) (Nat.le_of_ble_eq_true rfl) rfl ?_
  intro κ δ ρ0 X9 E hG
  replace X9 : CX κ δ RX4 cX4_countMissing 7 (some .int) := X9
  refine a_aload_n (pc := 0) X9 dX4_countMissing_0 rfl rfl ?_
  refine a_aload_n (pc := 1) X9 dX4_countMissing_1 rfl rfl ?_
  refine a_getR (pc := 2) X9 (q := (a1 + 2)) okX7 3 rfl wF_X4_40 (is7 ha1 hnn) (rf7_3 _ ha1) dX4_countMissing_2 ?_
  refine a_callV (pc := 5) X9 E (m_X4_offerAll (su7_3 _ ha1) hnn h) okX4 (is4 hnn) wM_X4_58 w_instanceMethod_X4_offerAll w_selects_X4_offerAll w_initialized_RX4 w_code_X4_offerAll cp_X4_offerAll pn_X4_offerAll rfl (Nat.le_of_ble_eq_true rfl) ⟨Nat.le_of_ble_eq_true rfl, Nat.le_of_ble_eq_true rfl⟩ ⟨Nat.le_of_ble_eq_true rfl, Nat.le_of_ble_eq_true rfl⟩ dX4_countMissing_5 (fun _ _ q => False.elim q) (kV (fun G_1 h hG_1 => ?_))
  refine a_iconst (pc := 8) X9 dX4_countMissing_8 ?_
  refine a_istore_n (pc := 9) X9 dX4_countMissing_9 rfl (Nat.le_of_ble_eq_true rfl) rfl rfl ?_
  refine a_iconst (pc := 10) X9 dX4_countMissing_10 ?_
  refine a_istore (pc := 11) X9 dX4_countMissing_11 (Nat.le_of_ble_eq_true rfl) rfl rfl ?_
  refine loopM3 (A := fun x3_1 x4_1 G_2 => inR x3_1 → inR x4_1 → GR G_2 → AW κ δ ρ0 (szF nn) 7 0 0 13 [some (vr 208), some (vr a1), some (vi i2), some (vi x3_1), some (vi x4_1), none, none] [] (SF nn) G_2) (fun k_1 hk_1 x3_1 x4_1 G_2 h h_x3_1 h_x4_1 hG_2 => ?_) _ _ _ h (by decide) (by decide) hG_1
  refine a_iload (pc := 13) X9 dX4_countMissing_13 rfl ?_
  refine a_aload_n (pc := 15) X9 dX4_countMissing_15 rfl rfl ?_
  refine a_getI (pc := 16) X9 okX7 0 rfl wF_X4_78 (is7 ha1 hnn) dX4_countMissing_16 ?_
  refine a_icmp_ge (pc := 19) (tgt := 93) X9 dX4_countMissing_19 rfl h_x4_1 (hG_2 _ _) (fun c => ?_) (fun c => ?_)
  · have c_1 := c
    have h := h.1 c_1
    refine a_iload_n (pc := 93) X9 dX4_countMissing_93 rfl rfl ?_
    exact a_ireturn (pc := 94) X9 E rfl rfl (Nat.le_of_ble_eq_true rfl) (Nat.le_of_ble_eq_true rfl) dX4_countMissing_94 ⟨rfl, _, rfl, h_x3_1, h⟩
  · have c_1 := c
    have h := h.2 c_1
    refine a_iconst (pc := 22) X9 dX4_countMissing_22 ?_
    refine a_istore (pc := 23) X9 dX4_countMissing_23 (Nat.le_of_ble_eq_true rfl) rfl rfl ?_
    refine loopM3 (A := fun x3_2 x5_1 G_3 => inR x3_2 → inR x5_1 → GR G_3 → AW κ δ ρ0 (szF nn) 7 0 0 25 [some (vr 208), some (vr a1), some (vi i2), some (vi x3_2), some (vi x4_1), some (vi x5_1), none] [] (SF nn) G_3) (fun k_2 hk_2 x3_2 x5_1 G_3 h h_x3_2 h_x5_1 hG_3 => ?_) _ _ _ h h_x3_1 (by decide) hG_2
    refine a_iload (pc := 25) X9 dX4_countMissing_25 rfl ?_
    refine a_aload_n (pc := 27) X9 dX4_countMissing_27 rfl rfl ?_
    refine a_getR (pc := 28) X9 (q := (a1 + 1)) okX7 1 rfl wF_X4_81 (is7 ha1 hnn) (rf7_1 _ ha1) dX4_countMissing_28 ?_
    refine a_iload (pc := 31) X9 dX4_countMissing_31 rfl ?_
    obtain ⟨g_1, h⟩ := h
    refine b_iald (pc := 33) X9 (ar7_1 ha1 hnn) (Nat.le_of_ble_eq_true rfl) g_1 dX4_countMissing_33 ?_
    refine a_icmp_ge (pc := 34) (tgt := 87) X9 dX4_countMissing_34 rfl h_x5_1 (hG_3 _ _) (fun c => ?_) (fun c => ?_)
    · have c_2 := c
      have h := h.1 c_2
      refine a_iinc (pc := 87) X9 dX4_countMissing_87 rfl (Nat.le_of_ble_eq_true rfl) rfl rfl ?_
      refine a_goto (pc := 90) (tgt := 13) X9 dX4_countMissing_90 rfl ?_
      have q_1 : inR ((G_2 a1 0)) := (hG_2 _ _)
      have q_2 : inR (x4_1) := h_x4_1
      have g_2 : inR ((x4_1 + 1)) := ⟨by omega, by omega⟩
      refine AW.drop 5 rfl ?_
      exact hk_1 _ _ _ h h_x3_2 g_2 hG_3
    · have c_2 := c
      have h := h.2 c_2
      refine a_aload_n (pc := 37) X9 dX4_countMissing_37 rfl rfl ?_
      refine a_iload_n (pc := 38) X9 dX4_countMissing_38 rfl rfl ?_
      refine a_iload (pc := 39) X9 dX4_countMissing_39 rfl ?_
      refine a_iload (pc := 41) X9 dX4_countMissing_41 rfl ?_
      refine a_callV (pc := 43) X9 E (m_X7_hymnFor ha1 hi2 h_x4_1 h_x5_1 hnn h) okX7 (is7 ha1 hnn) wM_X4_84 w_instanceMethod_X7_hymnFor w_selects_X7_hymnFor w_initialized_RX7 w_code_X7_hymnFor cp_X7_hymnFor pn_X7_hymnFor rfl (Nat.le_of_ble_eq_true rfl) ⟨Nat.le_of_ble_eq_true rfl, Nat.le_of_ble_eq_true rfl⟩ ⟨Nat.le_of_ble_eq_true rfl, Nat.le_of_ble_eq_true rfl⟩ dX4_countMissing_43 (fun _ _ q => False.elim q) (kIp (fun r_2 hr_2 h => ?_))
      refine a_istore (pc := 46) X9 dX4_countMissing_46 (Nat.le_of_ble_eq_true rfl) rfl rfl ?_
      refine loopM3 (A := fun x3_3 x6_1 G_4 => inR x3_3 → inR x6_1 → GR G_4 → AW κ δ ρ0 (szF nn) 7 0 0 48 [some (vr 208), some (vr a1), some (vi i2), some (vi x3_3), some (vi x4_1), some (vi x5_1), some (vi x6_1)] [] (SF nn) G_4) (fun k_3 hk_3 x3_3 x6_1 G_4 h h_x3_3 h_x6_1 hG_4 => ?_) _ _ _ h h_x3_2 hr_2 hG_3
      refine a_iload (pc := 48) X9 dX4_countMissing_48 rfl ?_
      refine a_if_le (pc := 50) (tgt := 81) X9 dX4_countMissing_50 rfl h_x6_1 (fun c => ?_) (fun c => ?_)
      · have c_3 := c
        have h := h.1 c_3
        refine a_iinc (pc := 81) X9 dX4_countMissing_81 rfl (Nat.le_of_ble_eq_true rfl) rfl rfl ?_
        refine a_goto (pc := 84) (tgt := 25) X9 dX4_countMissing_84 rfl ?_
        have q_3 : inR ((G_3 (a1 + 1) (x4_1).toNat)) := (hG_3 _ _)
        have q_4 : inR (x5_1) := h_x5_1
        have g_3 : inR ((x5_1 + 1)) := ⟨by omega, by omega⟩
        refine AW.drop 6 rfl ?_
        exact hk_2 _ _ _ h h_x3_3 g_3 hG_4
      · have c_3 := c
        have h := h.2 c_3
        refine a_aload_n (pc := 53) X9 dX4_countMissing_53 rfl rfl ?_
        refine a_getR (pc := 54) X9 (q := 209) okX4 0 rfl wF_X4_12 (is4 hnn) rf4_0 dX4_countMissing_54 ?_
        refine a_iload (pc := 57) X9 dX4_countMissing_57 rfl ?_
        refine a_bipush (pc := 59) X9 dX4_countMissing_59 rfl ?_
        obtain ⟨g_4, h⟩ := h
        refine a_irem (pc := 61) X9 dX4_countMissing_61 ⟨g_4, h_x6_1.2⟩ ⟨(by decide), (by decide)⟩ ?_
        refine a_callV (pc := 62) X9 E (m_X2_addDigit (inR_mod g_4 (by decide) (by decide)) hnn h) okX2 (is2 hnn) wM_X4_112 w_instanceMethod_X2_addDigit w_selects_X2_addDigit w_initialized_RX2 w_code_X2_addDigit cp_X2_addDigit pn_X2_addDigit rfl (Nat.le_of_ble_eq_true rfl) ⟨Nat.le_of_ble_eq_true rfl, Nat.le_of_ble_eq_true rfl⟩ ⟨Nat.le_of_ble_eq_true rfl, Nat.le_of_ble_eq_true rfl⟩ dX4_countMissing_62 (fun _ _ q => False.elim q) (kZ (fun r_3 G_5 hr_3 h hG_5 => ?_))
        refine joinM1 (A := fun x3_4 => inR x3_4 → AW κ δ ρ0 (szF nn) 7 0 0 71 [some (vr 208), some (vr a1), some (vi i2), some (vi x3_4), some (vi x4_1), some (vi x5_1), some (vi x6_1)] [] (SF nn) G_5) (fun x3_4 h h_x3_4 => ?_) (fun j_1 hj_1 h => ?_) h
        · refine a_iload (pc := 71) X9 dX4_countMissing_71 rfl ?_
          refine a_bipush (pc := 73) X9 dX4_countMissing_73 rfl ?_
          refine a_idiv (pc := 75) X9 dX4_countMissing_75 ⟨g_4, h_x6_1.2⟩ ⟨(by decide), (by decide)⟩ ?_
          refine a_istore (pc := 76) X9 dX4_countMissing_76 (Nat.le_of_ble_eq_true rfl) rfl rfl ?_
          refine a_goto (pc := 78) (tgt := 48) X9 dX4_countMissing_78 rfl ?_
          exact hk_3 _ _ _ h h_x3_4 (inR_div h_x6_1 g_4 (by decide)) hG_5
        · refine a_if_ne (pc := 65) (tgt := 71) X9 dX4_countMissing_65 rfl (bool_inR hr_3) (fun c => ?_) (fun c => ?_)
          · have c_5 := c
            have h := h.1 c_5
            exact hj_1 _ h h_x3_3
          · have c_5 := c
            have h := h.2 c_5
            refine a_iinc (pc := 68) X9 dX4_countMissing_68 rfl (Nat.le_of_ble_eq_true rfl) rfl rfl ?_
            obtain ⟨g_5, h⟩ := h
            exact hj_1 _ h g_5
set_option maxHeartbeats 4000000 in
set_option maxRecDepth 100000 in
theorem m_X9_missing {nn : Nat} {i1 : Int} {G : GH} {Q : Int → GH → Prop} (hi1 : inR i1) (hnn : 272 ≤ nn) (h : f_X9_missing i1 G Q (fun _ _ => False)) : Mt yX9_missing cX9_missing 2 (some .int) 5 111 0 0 [vr 0, vi i1] (SF nn) G (fun v S' G' => S' = SF nn ∧ qI Q v S' G') (fun E S' G' => S' = SF nn ∧ False) := by
  refine Mt.of (l0 := [some (vr 0), some (vi i1)]) (by decide) (Nat.le_of_ble_eq_true rfl) rfl ?_
  intro κ δ ρ0 X9 E hG
  replace X9 : CX κ δ RX9 cX9_missing 2 (some .int) := X9
  refine a_aload_n (pc := 0) X9 dX9_missing_0 rfl rfl ?_
  refine a_iload_n (pc := 1) X9 dX9_missing_1 rfl rfl ?_
  refine a_callV (pc := 2) X9 E (m_X9_needService hi1 hnn h) okX9 (is9 hnn) wM_X9_216 w_instanceMethod_X9_needService w_selects_X9_needService w_initialized_RX9 w_code_X9_needService cp_X9_needService pn_X9_needService rfl (Nat.le_of_ble_eq_true rfl) ⟨Nat.le_of_ble_eq_true rfl, Nat.le_of_ble_eq_true rfl⟩ ⟨Nat.le_of_ble_eq_true rfl, Nat.le_of_ble_eq_true rfl⟩ dX9_missing_2 (fun _ _ q => False.elim q) (kVp (fun h => ?_))
  refine a_aload_n (pc := 5) X9 dX9_missing_5 rfl rfl ?_
  refine a_getR (pc := 6) X9 (q := 208) okX9 6 rfl wF_X9_44 (is9 hnn) rf9_6 dX9_missing_6 ?_
  refine a_aload_n (pc := 9) X9 dX9_missing_9 rfl rfl ?_
  refine a_getR (pc := 10) X9 (q := 1) okX9 0 rfl wF_X9_12 (is9 hnn) rf9_0 dX9_missing_10 ?_
  refine a_iload_n (pc := 13) X9 dX9_missing_13 rfl rfl ?_
  refine a_callV (pc := 14) X9 E (m_X4_countMissing su9_0 hi1 hnn h) okX4 (is4 hnn) wM_X9_286 w_instanceMethod_X4_countMissing w_selects_X4_countMissing w_initialized_RX4 w_code_X4_countMissing cp_X4_countMissing pn_X4_countMissing rfl (Nat.le_of_ble_eq_true rfl) ⟨Nat.le_of_ble_eq_true rfl, Nat.le_of_ble_eq_true rfl⟩ ⟨Nat.le_of_ble_eq_true rfl, Nat.le_of_ble_eq_true rfl⟩ dX9_missing_14 (fun _ _ q => False.elim q) (kI (fun r_2 G_1 hr_2 h hG_1 => ?_))
  exact a_ireturn (pc := 17) X9 E rfl rfl (Nat.le_of_ble_eq_true rfl) (Nat.le_of_ble_eq_true rfl) dX9_missing_17 ⟨rfl, _, rfl, hr_2, h⟩
set_option maxHeartbeats 4000000 in
set_option maxRecDepth 100000 in
theorem m_X9_bestBuy {nn : Nat} {i1 : Int} {G : GH} {Q : Int → GH → Prop} (hi1 : inR i1) (hnn : 272 ≤ nn) (h : f_X9_bestBuy i1 G Q (fun _ _ => False)) : Mt yX9_bestBuy cX9_bestBuy 5 (some .int) 6 149 0 0 [vr 0, vi i1] (SF nn) G (fun v S' G' => S' = SF nn ∧ qI Q v S' G') (fun E S' G' => S' = SF nn ∧ False) := by
  refine Mt.of (l0 := [some (vr 0), some (vi i1), none, none, none]) (by decide) (Nat.le_of_ble_eq_true rfl) rfl ?_
  intro κ δ ρ0 X9 E hG
  replace X9 : CX κ δ RX9 cX9_bestBuy 5 (some .int) := X9
  refine a_aload_n (pc := 0) X9 dX9_bestBuy_0 rfl rfl ?_
  refine a_iload_n (pc := 1) X9 dX9_bestBuy_1 rfl rfl ?_
  refine a_callV (pc := 2) X9 E (m_X9_needService hi1 hnn h) okX9 (is9 hnn) wM_X9_216 w_instanceMethod_X9_needService w_selects_X9_needService w_initialized_RX9 w_code_X9_needService cp_X9_needService pn_X9_needService rfl (Nat.le_of_ble_eq_true rfl) ⟨Nat.le_of_ble_eq_true rfl, Nat.le_of_ble_eq_true rfl⟩ ⟨Nat.le_of_ble_eq_true rfl, Nat.le_of_ble_eq_true rfl⟩ dX9_bestBuy_2 (fun _ _ q => False.elim q) (kVp (fun h => ?_))
  refine a_aload_n (pc := 5) X9 dX9_bestBuy_5 rfl rfl ?_
  refine a_getR (pc := 6) X9 (q := 208) okX9 6 rfl wF_X9_44 (is9 hnn) rf9_6 dX9_bestBuy_6 ?_
  refine a_aload_n (pc := 9) X9 dX9_bestBuy_9 rfl rfl ?_
  refine a_getR (pc := 10) X9 (q := 1) okX9 0 rfl wF_X9_12 (is9 hnn) rf9_0 dX9_bestBuy_10 ?_
  refine a_iload_n (pc := 13) X9 dX9_bestBuy_13 rfl rfl ?_
  refine a_iconst (pc := 14) X9 dX9_bestBuy_14 ?_
  refine a_aload_n (pc := 15) X9 dX9_bestBuy_15 rfl rfl ?_
  refine a_getR (pc := 16) X9 (q := 218) okX9 7 rfl wF_X9_51 (is9 hnn) rf9_7 dX9_bestBuy_16 ?_
  refine a_callV (pc := 19) X9 E (m_X4_chooseRows su9_0 hi1 (show inR (-1) by decide) su9_7 hnn h) okX4 (is4 hnn) wM_X9_260 w_instanceMethod_X4_chooseRows w_selects_X4_chooseRows w_initialized_RX4 w_code_X4_chooseRows cp_X4_chooseRows pn_X4_chooseRows rfl (Nat.le_of_ble_eq_true rfl) ⟨Nat.le_of_ble_eq_true rfl, Nat.le_of_ble_eq_true rfl⟩ ⟨Nat.le_of_ble_eq_true rfl, Nat.le_of_ble_eq_true rfl⟩ dX9_bestBuy_19 (fun _ _ q => False.elim q) (kV (fun G_1 h hG_1 => ?_))
  refine a_aload_n (pc := 22) X9 dX9_bestBuy_22 rfl rfl ?_
  refine a_getR (pc := 23) X9 (q := 208) okX9 6 rfl wF_X9_44 (is9 hnn) rf9_6 dX9_bestBuy_23 ?_
  refine a_getI (pc := 26) X9 okX4 1 rfl wF_X9_268 (is4 hnn) dX9_bestBuy_26 ?_
  refine a_istore_n (pc := 29) X9 dX9_bestBuy_29 rfl (Nat.le_of_ble_eq_true rfl) rfl rfl ?_
  refine a_iconst (pc := 30) X9 dX9_bestBuy_30 ?_
  refine a_istore_n (pc := 31) X9 dX9_bestBuy_31 rfl (Nat.le_of_ble_eq_true rfl) rfl rfl ?_
  refine a_iconst (pc := 32) X9 dX9_bestBuy_32 ?_
  refine a_istore (pc := 33) X9 dX9_bestBuy_33 (Nat.le_of_ble_eq_true rfl) rfl rfl ?_
  refine loopM4 (A := fun x2_1 x3_1 x4_1 G_2 => inR x2_1 → inR x3_1 → inR x4_1 → GR G_2 → AW κ δ ρ0 (szF nn) 5 0 0 35 [some (vr 0), some (vi i1), some (vi x2_1), some (vi x3_1), some (vi x4_1)] [] (SF nn) G_2) (fun k_1 hk_1 x2_1 x3_1 x4_1 G_2 h h_x2_1 h_x3_1 h_x4_1 hG_2 => ?_) _ _ _ _ h (hG_1 _ _) (by decide) (by decide) hG_1
  refine a_iload (pc := 35) X9 dX9_bestBuy_35 rfl ?_
  refine a_bipush (pc := 37) X9 dX9_bestBuy_37 rfl ?_
  refine a_icmp_ge (pc := 39) (tgt := 88) X9 dX9_bestBuy_39 rfl h_x4_1 (by decide) (fun c => ?_) (fun c => ?_)
  · have c_1 := c
    have h := h.1 c_1
    refine a_iload_n (pc := 88) X9 dX9_bestBuy_88 rfl rfl ?_
    exact a_ireturn (pc := 89) X9 E rfl rfl (Nat.le_of_ble_eq_true rfl) (Nat.le_of_ble_eq_true rfl) dX9_bestBuy_89 ⟨rfl, _, rfl, h_x3_1, h⟩
  · have c_1 := c
    have h := h.2 c_1
    refine a_aload_n (pc := 42) X9 dX9_bestBuy_42 rfl rfl ?_
    refine a_getR (pc := 43) X9 (q := 208) okX9 6 rfl wF_X9_44 (is9 hnn) rf9_6 dX9_bestBuy_43 ?_
    refine a_aload_n (pc := 46) X9 dX9_bestBuy_46 rfl rfl ?_
    refine a_getR (pc := 47) X9 (q := 1) okX9 0 rfl wF_X9_12 (is9 hnn) rf9_0 dX9_bestBuy_47 ?_
    refine a_iload_n (pc := 50) X9 dX9_bestBuy_50 rfl rfl ?_
    refine a_iload (pc := 51) X9 dX9_bestBuy_51 rfl ?_
    refine a_aload_n (pc := 53) X9 dX9_bestBuy_53 rfl rfl ?_
    refine a_getR (pc := 54) X9 (q := 218) okX9 7 rfl wF_X9_51 (is9 hnn) rf9_7 dX9_bestBuy_54 ?_
    refine a_callV (pc := 57) X9 E (m_X4_chooseRows su9_0 hi1 h_x4_1 su9_7 hnn h) okX4 (is4 hnn) wM_X9_260 w_instanceMethod_X4_chooseRows w_selects_X4_chooseRows w_initialized_RX4 w_code_X4_chooseRows cp_X4_chooseRows pn_X4_chooseRows rfl (Nat.le_of_ble_eq_true rfl) ⟨Nat.le_of_ble_eq_true rfl, Nat.le_of_ble_eq_true rfl⟩ ⟨Nat.le_of_ble_eq_true rfl, Nat.le_of_ble_eq_true rfl⟩ dX9_bestBuy_57 (fun _ _ q => False.elim q) (kV (fun G_3 h hG_3 => ?_))
    refine a_aload_n (pc := 60) X9 dX9_bestBuy_60 rfl rfl ?_
    refine a_getR (pc := 61) X9 (q := 208) okX9 6 rfl wF_X9_44 (is9 hnn) rf9_6 dX9_bestBuy_61 ?_
    refine a_getI (pc := 64) X9 okX4 1 rfl wF_X9_268 (is4 hnn) dX9_bestBuy_64 ?_
    refine a_iload_n (pc := 67) X9 dX9_bestBuy_67 rfl rfl ?_
    refine a_icmp_le (pc := 68) (tgt := 82) X9 dX9_bestBuy_68 rfl (hG_3 _ _) h_x2_1 (fun c => ?_) (fun c => ?_)
    · have c_2 := c
      have h := h.1 c_2
      refine a_iinc (pc := 82) X9 dX9_bestBuy_82 rfl (Nat.le_of_ble_eq_true rfl) rfl rfl ?_
      refine a_goto (pc := 85) (tgt := 35) X9 dX9_bestBuy_85 rfl ?_
      have q_1 : inR (x4_1) := h_x4_1
      have g_1 : inR ((x4_1 + 1)) := ⟨by omega, by omega⟩
      exact hk_1 _ _ _ _ h h_x2_1 h_x3_1 g_1 hG_3
    · have c_2 := c
      have h := h.2 c_2
      refine a_aload_n (pc := 71) X9 dX9_bestBuy_71 rfl rfl ?_
      refine a_getR (pc := 72) X9 (q := 208) okX9 6 rfl wF_X9_44 (is9 hnn) rf9_6 dX9_bestBuy_72 ?_
      refine a_getI (pc := 75) X9 okX4 1 rfl wF_X9_268 (is4 hnn) dX9_bestBuy_75 ?_
      refine a_istore_n (pc := 78) X9 dX9_bestBuy_78 rfl (Nat.le_of_ble_eq_true rfl) rfl rfl ?_
      refine a_iload (pc := 79) X9 dX9_bestBuy_79 rfl ?_
      refine a_istore_n (pc := 81) X9 dX9_bestBuy_81 rfl (Nat.le_of_ble_eq_true rfl) rfl rfl ?_
      refine a_iinc (pc := 82) X9 dX9_bestBuy_82 rfl (Nat.le_of_ble_eq_true rfl) rfl rfl ?_
      refine a_goto (pc := 85) (tgt := 35) X9 dX9_bestBuy_85 rfl ?_
      have q_2 : inR (x4_1) := h_x4_1
      have g_2 : inR ((x4_1 + 1)) := ⟨by omega, by omega⟩
      exact hk_1 _ _ _ _ h (hG_3 _ _) h_x4_1 g_2 hG_3
set_option maxHeartbeats 4000000 in
set_option maxRecDepth 100000 in
theorem m_X9_workFrom {nn : Nat} {i1 : Int} {i2 : Int} {G : GH} {Q : Int → GH → Prop} (hi1 : inR i1) (hi2 : inR i2) (hnn : 272 ≤ nn) (h : f_X9_workFrom i1 i2 G Q (fun _ _ => False)) : Mt yX9_workFrom cX9_workFrom 3 (some .int) 6 149 0 0 [vr 0, vi i1, vi i2] (SF nn) G (fun v S' G' => S' = SF nn ∧ qI Q v S' G') (fun E S' G' => S' = SF nn ∧ False) := by
  refine Mt.of (l0 := [some (vr 0), some (vi i1), some (vi i2)]) (by decide) (Nat.le_of_ble_eq_true rfl) rfl ?_
  intro κ δ ρ0 X9 E hG
  replace X9 : CX κ δ RX9 cX9_workFrom 3 (some .int) := X9
  refine a_aload_n (pc := 0) X9 dX9_workFrom_0 rfl rfl ?_
  refine a_iload_n (pc := 1) X9 dX9_workFrom_1 rfl rfl ?_
  refine a_callV (pc := 2) X9 E (m_X9_needService hi1 hnn h) okX9 (is9 hnn) wM_X9_216 w_instanceMethod_X9_needService w_selects_X9_needService w_initialized_RX9 w_code_X9_needService cp_X9_needService pn_X9_needService rfl (Nat.le_of_ble_eq_true rfl) ⟨Nat.le_of_ble_eq_true rfl, Nat.le_of_ble_eq_true rfl⟩ ⟨Nat.le_of_ble_eq_true rfl, Nat.le_of_ble_eq_true rfl⟩ dX9_workFrom_2 (fun _ _ q => False.elim q) (kVp (fun h => ?_))
  refine a_aload_n (pc := 5) X9 dX9_workFrom_5 rfl rfl ?_
  refine a_iload_n (pc := 6) X9 dX9_workFrom_6 rfl rfl ?_
  refine a_callV (pc := 7) X9 E (m_X9_needService hi2 hnn h) okX9 (is9 hnn) wM_X9_216 w_instanceMethod_X9_needService w_selects_X9_needService w_initialized_RX9 w_code_X9_needService cp_X9_needService pn_X9_needService rfl (Nat.le_of_ble_eq_true rfl) ⟨Nat.le_of_ble_eq_true rfl, Nat.le_of_ble_eq_true rfl⟩ ⟨Nat.le_of_ble_eq_true rfl, Nat.le_of_ble_eq_true rfl⟩ dX9_workFrom_7 (fun _ _ q => False.elim q) (kVp (fun h => ?_))
  refine a_aload_n (pc := 10) X9 dX9_workFrom_10 rfl rfl ?_
  refine a_getR (pc := 11) X9 (q := 208) okX9 6 rfl wF_X9_44 (is9 hnn) rf9_6 dX9_workFrom_11 ?_
  refine a_aload_n (pc := 14) X9 dX9_workFrom_14 rfl rfl ?_
  refine a_getR (pc := 15) X9 (q := 1) okX9 0 rfl wF_X9_12 (is9 hnn) rf9_0 dX9_workFrom_15 ?_
  refine a_iload_n (pc := 18) X9 dX9_workFrom_18 rfl rfl ?_
  refine a_iconst (pc := 19) X9 dX9_workFrom_19 ?_
  refine a_aload_n (pc := 20) X9 dX9_workFrom_20 rfl rfl ?_
  refine a_getR (pc := 21) X9 (q := 224) okX9 8 rfl wF_X9_55 (is9 hnn) rf9_8 dX9_workFrom_21 ?_
  refine a_callV (pc := 24) X9 E (m_X4_chooseRows su9_0 hi1 (show inR (-1) by decide) su9_8 hnn h) okX4 (is4 hnn) wM_X9_260 w_instanceMethod_X4_chooseRows w_selects_X4_chooseRows w_initialized_RX4 w_code_X4_chooseRows cp_X4_chooseRows pn_X4_chooseRows rfl (Nat.le_of_ble_eq_true rfl) ⟨Nat.le_of_ble_eq_true rfl, Nat.le_of_ble_eq_true rfl⟩ ⟨Nat.le_of_ble_eq_true rfl, Nat.le_of_ble_eq_true rfl⟩ dX9_workFrom_24 (fun _ _ q => False.elim q) (kV (fun G_1 h hG_1 => ?_))
  refine a_aload_n (pc := 27) X9 dX9_workFrom_27 rfl rfl ?_
  refine a_getR (pc := 28) X9 (q := 208) okX9 6 rfl wF_X9_44 (is9 hnn) rf9_6 dX9_workFrom_28 ?_
  refine a_aload_n (pc := 31) X9 dX9_workFrom_31 rfl rfl ?_
  refine a_getR (pc := 32) X9 (q := 1) okX9 0 rfl wF_X9_12 (is9 hnn) rf9_0 dX9_workFrom_32 ?_
  refine a_iload_n (pc := 35) X9 dX9_workFrom_35 rfl rfl ?_
  refine a_iconst (pc := 36) X9 dX9_workFrom_36 ?_
  refine a_aload_n (pc := 37) X9 dX9_workFrom_37 rfl rfl ?_
  refine a_getR (pc := 38) X9 (q := 218) okX9 7 rfl wF_X9_51 (is9 hnn) rf9_7 dX9_workFrom_38 ?_
  refine a_callV (pc := 41) X9 E (m_X4_chooseRows su9_0 hi2 (show inR (-1) by decide) su9_7 hnn h) okX4 (is4 hnn) wM_X9_260 w_instanceMethod_X4_chooseRows w_selects_X4_chooseRows w_initialized_RX4 w_code_X4_chooseRows cp_X4_chooseRows pn_X4_chooseRows rfl (Nat.le_of_ble_eq_true rfl) ⟨Nat.le_of_ble_eq_true rfl, Nat.le_of_ble_eq_true rfl⟩ ⟨Nat.le_of_ble_eq_true rfl, Nat.le_of_ble_eq_true rfl⟩ dX9_workFrom_41 (fun _ _ q => False.elim q) (kV (fun G_2 h hG_2 => ?_))
  refine a_aload_n (pc := 44) X9 dX9_workFrom_44 rfl rfl ?_
  refine a_getR (pc := 45) X9 (q := 224) okX9 8 rfl wF_X9_55 (is9 hnn) rf9_8 dX9_workFrom_45 ?_
  refine a_aload_n (pc := 48) X9 dX9_workFrom_48 rfl rfl ?_
  refine a_getR (pc := 49) X9 (q := 218) okX9 7 rfl wF_X9_51 (is9 hnn) rf9_7 dX9_workFrom_49 ?_
  refine a_callV (pc := 52) X9 E (m_X0_workTo su9_8 su9_7 hnn h) okX0 (is0 su9_8 hnn) wM_X9_270 w_instanceMethod_X0_workTo w_selects_X0_workTo w_initialized_RX0 w_code_X0_workTo cp_X0_workTo pn_X0_workTo rfl (Nat.le_of_ble_eq_true rfl) ⟨Nat.le_of_ble_eq_true rfl, Nat.le_of_ble_eq_true rfl⟩ ⟨Nat.le_of_ble_eq_true rfl, Nat.le_of_ble_eq_true rfl⟩ dX9_workFrom_52 (fun _ _ q => False.elim q) (kIp (fun r_5 hr_5 h => ?_))
  exact a_ireturn (pc := 55) X9 E rfl rfl (Nat.le_of_ble_eq_true rfl) (Nat.le_of_ble_eq_true rfl) dX9_workFrom_55 ⟨rfl, _, rfl, hr_5, h⟩
set_option maxHeartbeats 4000000 in
set_option maxRecDepth 100000 in
theorem m_X9_easiest {nn : Nat}  {G : GH} {Q : Int → GH → Prop}  (hnn : 272 ≤ nn) (h : f_X9_easiest G Q) : Mt yX9_easiest cX9_easiest 5 (some .int) 6 149 0 0 [vr 0] (SF nn) G (fun v S' G' => S' = SF nn ∧ qI Q v S' G') (fun E S' G' => S' = SF nn ∧ False) := by
  refine Mt.of (l0 := [some (vr 0), none, none, none, none]) (by decide) (Nat.le_of_ble_eq_true rfl) rfl ?_
  intro κ δ ρ0 X9 E hG
  replace X9 : CX κ δ RX9 cX9_easiest 5 (some .int) := X9
  refine a_iconst (pc := 0) X9 dX9_easiest_0 ?_
  refine a_istore_n (pc := 1) X9 dX9_easiest_1 rfl (Nat.le_of_ble_eq_true rfl) rfl rfl ?_
  refine a_iconst (pc := 2) X9 dX9_easiest_2 ?_
  refine a_istore_n (pc := 3) X9 dX9_easiest_3 rfl (Nat.le_of_ble_eq_true rfl) rfl rfl ?_
  refine a_iconst (pc := 4) X9 dX9_easiest_4 ?_
  refine a_istore_n (pc := 5) X9 dX9_easiest_5 rfl (Nat.le_of_ble_eq_true rfl) rfl rfl ?_
  refine loopM4 (A := fun x1_1 x2_1 x3_1 G_1 => inR x1_1 → inR x2_1 → inR x3_1 → GR G_1 → AW κ δ ρ0 (szF nn) 5 0 0 6 [some (vr 0), some (vi x1_1), some (vi x2_1), some (vi x3_1), none] [] (SF nn) G_1) (fun k_1 hk_1 x1_1 x2_1 x3_1 G_1 h h_x1_1 h_x2_1 h_x3_1 hG_1 => ?_) _ _ _ _ h (by decide) (by decide) (by decide) hG
  refine a_iload_n (pc := 6) X9 dX9_easiest_6 rfl rfl ?_
  refine a_aload_n (pc := 7) X9 dX9_easiest_7 rfl rfl ?_
  refine a_getR (pc := 8) X9 (q := 1) okX9 0 rfl wF_X9_12 (is9 hnn) rf9_0 dX9_easiest_8 ?_
  refine a_getR (pc := 11) X9 (q := 12) okX7 4 rfl wF_X9_97 (is7 su9_0 hnn) (rf7_4 _ su9_0) dX9_easiest_11 ?_
  refine a_getI (pc := 14) X9 okX6 0 rfl wF_X9_101 (is6 (su7_4 _ su9_0) hnn) dX9_easiest_14 ?_
  refine a_icmp_ge (pc := 17) (tgt := 75) X9 dX9_easiest_17 rfl h_x3_1 (hG_1 _ _) (fun c => ?_) (fun c => ?_)
  · have c_1 := c
    have h := h.1 c_1
    refine a_iload_n (pc := 75) X9 dX9_easiest_75 rfl rfl ?_
    exact a_ireturn (pc := 76) X9 E rfl rfl (Nat.le_of_ble_eq_true rfl) (Nat.le_of_ble_eq_true rfl) dX9_easiest_76 ⟨rfl, _, rfl, h_x1_1, h⟩
  · have c_1 := c
    have h := h.2 c_1
    refine a_aload_n (pc := 20) X9 dX9_easiest_20 rfl rfl ?_
    refine a_getR (pc := 21) X9 (q := 208) okX9 6 rfl wF_X9_44 (is9 hnn) rf9_6 dX9_easiest_21 ?_
    refine a_aload_n (pc := 24) X9 dX9_easiest_24 rfl rfl ?_
    refine a_getR (pc := 25) X9 (q := 1) okX9 0 rfl wF_X9_12 (is9 hnn) rf9_0 dX9_easiest_25 ?_
    refine a_iload_n (pc := 28) X9 dX9_easiest_28 rfl rfl ?_
    refine a_iconst (pc := 29) X9 dX9_easiest_29 ?_
    refine a_aload_n (pc := 30) X9 dX9_easiest_30 rfl rfl ?_
    refine a_getR (pc := 31) X9 (q := 218) okX9 7 rfl wF_X9_51 (is9 hnn) rf9_7 dX9_easiest_31 ?_
    refine a_callV (pc := 34) X9 E (m_X4_chooseRows su9_0 h_x3_1 (show inR (-1) by decide) su9_7 hnn h) okX4 (is4 hnn) wM_X9_260 w_instanceMethod_X4_chooseRows w_selects_X4_chooseRows w_initialized_RX4 w_code_X4_chooseRows cp_X4_chooseRows pn_X4_chooseRows rfl (Nat.le_of_ble_eq_true rfl) ⟨Nat.le_of_ble_eq_true rfl, Nat.le_of_ble_eq_true rfl⟩ ⟨Nat.le_of_ble_eq_true rfl, Nat.le_of_ble_eq_true rfl⟩ dX9_easiest_34 (fun _ _ q => False.elim q) (kV (fun G_2 h hG_2 => ?_))
    refine a_aload_n (pc := 37) X9 dX9_easiest_37 rfl rfl ?_
    refine a_getR (pc := 38) X9 (q := 1) okX9 0 rfl wF_X9_12 (is9 hnn) rf9_0 dX9_easiest_38 ?_
    refine a_getR (pc := 41) X9 (q := 15) okX7 5 rfl wF_X9_138 (is7 su9_0 hnn) (rf7_5 _ su9_0) dX9_easiest_41 ?_
    refine a_aload_n (pc := 44) X9 dX9_easiest_44 rfl rfl ?_
    refine a_getR (pc := 45) X9 (q := 218) okX9 7 rfl wF_X9_51 (is9 hnn) rf9_7 dX9_easiest_45 ?_
    refine a_callV (pc := 48) X9 E (m_X0_workTo (su7_5 _ su9_0) su9_7 hnn h) okX0 (is0 (su7_5 _ su9_0) hnn) wM_X9_270 w_instanceMethod_X0_workTo w_selects_X0_workTo w_initialized_RX0 w_code_X0_workTo cp_X0_workTo pn_X0_workTo rfl (Nat.le_of_ble_eq_true rfl) ⟨Nat.le_of_ble_eq_true rfl, Nat.le_of_ble_eq_true rfl⟩ ⟨Nat.le_of_ble_eq_true rfl, Nat.le_of_ble_eq_true rfl⟩ dX9_easiest_48 (fun _ _ q => False.elim q) (kIp (fun r_2 hr_2 h => ?_))
    refine a_istore (pc := 51) X9 dX9_easiest_51 (Nat.le_of_ble_eq_true rfl) rfl rfl ?_
    refine a_iload_n (pc := 53) X9 dX9_easiest_53 rfl rfl ?_
    refine a_iconst (pc := 54) X9 dX9_easiest_54 ?_
    refine a_icmp_eq (pc := 55) (tgt := 64) X9 dX9_easiest_55 rfl h_x1_1 (by decide) (fun c => ?_) (fun c => ?_)
    · have c_2 := c
      have h := h.1 c_2
      refine a_iload_n (pc := 64) X9 dX9_easiest_64 rfl rfl ?_
      refine a_istore_n (pc := 65) X9 dX9_easiest_65 rfl (Nat.le_of_ble_eq_true rfl) rfl rfl ?_
      refine a_iload (pc := 66) X9 dX9_easiest_66 rfl ?_
      refine a_istore_n (pc := 68) X9 dX9_easiest_68 rfl (Nat.le_of_ble_eq_true rfl) rfl rfl ?_
      refine a_iinc (pc := 69) X9 dX9_easiest_69 rfl (Nat.le_of_ble_eq_true rfl) rfl rfl ?_
      refine a_goto (pc := 72) (tgt := 6) X9 dX9_easiest_72 rfl ?_
      have q_1 : inR ((G_1 12 0)) := (hG_1 _ _)
      have q_2 : inR (x3_1) := h_x3_1
      have g_1 : inR ((x3_1 + 1)) := ⟨by omega, by omega⟩
      refine AW.drop 4 rfl ?_
      exact hk_1 _ _ _ _ h h_x3_1 hr_2 g_1 hG_2
    · have c_2 := c
      have h := h.2 c_2
      refine a_iload (pc := 58) X9 dX9_easiest_58 rfl ?_
      refine a_iload_n (pc := 60) X9 dX9_easiest_60 rfl rfl ?_
      refine a_icmp_ge (pc := 61) (tgt := 69) X9 dX9_easiest_61 rfl hr_2 h_x2_1 (fun c => ?_) (fun c => ?_)
      · have c_3 := c
        have h := h.1 c_3
        refine a_iinc (pc := 69) X9 dX9_easiest_69 rfl (Nat.le_of_ble_eq_true rfl) rfl rfl ?_
        refine a_goto (pc := 72) (tgt := 6) X9 dX9_easiest_72 rfl ?_
        have q_3 : inR ((G_1 12 0)) := (hG_1 _ _)
        have q_4 : inR (x3_1) := h_x3_1
        have g_2 : inR ((x3_1 + 1)) := ⟨by omega, by omega⟩
        refine AW.drop 4 rfl ?_
        exact hk_1 _ _ _ _ h h_x1_1 h_x2_1 g_2 hG_2
      · have c_3 := c
        have h := h.2 c_3
        refine a_iload_n (pc := 64) X9 dX9_easiest_64 rfl rfl ?_
        refine a_istore_n (pc := 65) X9 dX9_easiest_65 rfl (Nat.le_of_ble_eq_true rfl) rfl rfl ?_
        refine a_iload (pc := 66) X9 dX9_easiest_66 rfl ?_
        refine a_istore_n (pc := 68) X9 dX9_easiest_68 rfl (Nat.le_of_ble_eq_true rfl) rfl rfl ?_
        refine a_iinc (pc := 69) X9 dX9_easiest_69 rfl (Nat.le_of_ble_eq_true rfl) rfl rfl ?_
        refine a_goto (pc := 72) (tgt := 6) X9 dX9_easiest_72 rfl ?_
        have q_5 : inR ((G_1 12 0)) := (hG_1 _ _)
        have q_6 : inR (x3_1) := h_x3_1
        have g_3 : inR ((x3_1 + 1)) := ⟨by omega, by omega⟩
        refine AW.drop 4 rfl ?_
        exact hk_1 _ _ _ _ h h_x3_1 hr_2 g_3 hG_2
set_option maxHeartbeats 4000000 in
set_option maxRecDepth 100000 in
theorem m_X8_endingOf {nn : Nat} {a0 : Nat} {i1 : Int} {G : GH} {Q : Int → Prop} (ha0 : a0 ∈ L8) (hi1 : inR i1) (hnn : 272 ≤ nn) (h : f_X8_endingOf a0 i1 G Q) : Mt yX8_endingOf cX8_endingOf 4 (some .int) 0 0 0 0 [vr a0, vi i1] (SF nn) G (fun v S' G' => S' = SF nn ∧ qI (fun r9 G9 => G9 = G ∧ Q r9) v S' G') (fun E S' G' => S' = SF nn ∧ False) := by
  refine Mt.of (l0 := [some (vr a0), some (vi i1), none, none]) (by decide) (Nat.le_of_ble_eq_true rfl) rfl ?_
  intro κ δ ρ0 X9 E hG
  replace X9 : CX κ δ RX8 cX8_endingOf 4 (some .int) := X9
  refine a_iconst (pc := 0) X9 dX8_endingOf_0 ?_
  refine a_istore_n (pc := 1) X9 dX8_endingOf_1 rfl (Nat.le_of_ble_eq_true rfl) rfl rfl ?_
  refine a_iconst (pc := 2) X9 dX8_endingOf_2 ?_
  refine a_istore_n (pc := 3) X9 dX8_endingOf_3 rfl (Nat.le_of_ble_eq_true rfl) rfl rfl ?_
  refine loopM2 (A := fun x2_1 x3_1 => inR x2_1 → inR x3_1 → AW κ δ ρ0 (szF nn) 4 0 0 4 [some (vr a0), some (vi i1), some (vi x2_1), some (vi x3_1)] [] (SF nn) G) (fun k_1 hk_1 x2_1 x3_1 h h_x2_1 h_x3_1 => ?_) _ _ h (by decide) (by decide)
  refine a_iload_n (pc := 4) X9 dX8_endingOf_4 rfl rfl ?_
  refine a_aload_n (pc := 5) X9 dX8_endingOf_5 rfl rfl ?_
  refine a_getI (pc := 6) X9 okX8 8 rfl wF_X8_47 (is8 ha0 hnn) dX8_endingOf_6 ?_
  refine a_icmp_ge (pc := 9) (tgt := 47) X9 dX8_endingOf_9 rfl h_x3_1 (hG _ _) (fun c => ?_) (fun c => ?_)
  · have c_1 := c
    have h := h.1 c_1
    refine a_iload_n (pc := 47) X9 dX8_endingOf_47 rfl rfl ?_
    exact a_ireturn (pc := 48) X9 E rfl rfl (Nat.le_of_ble_eq_true rfl) (Nat.le_of_ble_eq_true rfl) dX8_endingOf_48 ⟨rfl, _, rfl, h_x2_1, rfl, h⟩
  · have c_1 := c
    have h := h.2 c_1
    refine a_aload_n (pc := 12) X9 dX8_endingOf_12 rfl rfl ?_
    refine a_getR (pc := 13) X9 (q := (a0 + 6)) okX8 9 rfl wF_X8_27 (is8 ha0 hnn) (rf8_9 _ ha0) dX8_endingOf_13 ?_
    refine a_iload_n (pc := 16) X9 dX8_endingOf_16 rfl rfl ?_
    obtain ⟨g_1, h⟩ := h
    refine b_iald (pc := 17) X9 (ar8_9 ha0 hnn) (Nat.le_of_ble_eq_true rfl) g_1 dX8_endingOf_17 ?_
    refine a_iload_n (pc := 18) X9 dX8_endingOf_18 rfl rfl ?_
    refine a_icmp_ne (pc := 19) (tgt := 41) X9 dX8_endingOf_19 rfl (hG _ _) hi1 (fun c => ?_) (fun c => ?_)
    · have c_2 := c
      have h := h.1 c_2
      refine a_iinc (pc := 41) X9 dX8_endingOf_41 rfl (Nat.le_of_ble_eq_true rfl) rfl rfl ?_
      refine a_goto (pc := 44) (tgt := 4) X9 dX8_endingOf_44 rfl ?_
      have q_1 : inR ((G a0 8)) := (hG _ _)
      have q_2 : inR (x3_1) := h_x3_1
      have g_2 : inR ((x3_1 + 1)) := ⟨by omega, by omega⟩
      exact hk_1 _ _ h h_x2_1 g_2
    · have c_2 := c
      have h := h.2 c_2
      refine a_aload_n (pc := 22) X9 dX8_endingOf_22 rfl rfl ?_
      refine a_getR (pc := 23) X9 (q := (a0 + 8)) okX8 11 rfl wF_X8_33 (is8 ha0 hnn) (rf8_11 _ ha0) dX8_endingOf_23 ?_
      refine a_iload_n (pc := 26) X9 dX8_endingOf_26 rfl rfl ?_
      refine b_iald (pc := 27) X9 (ar8_11 ha0 hnn) (Nat.le_of_ble_eq_true rfl) g_1 dX8_endingOf_27 ?_
      refine a_iconst (pc := 28) X9 dX8_endingOf_28 ?_
      refine a_icmp_ne (pc := 29) (tgt := 41) X9 dX8_endingOf_29 rfl (hG _ _) (by decide) (fun c => ?_) (fun c => ?_)
      · have c_3 := c
        have h := h.1 c_3
        refine a_iinc (pc := 41) X9 dX8_endingOf_41 rfl (Nat.le_of_ble_eq_true rfl) rfl rfl ?_
        refine a_goto (pc := 44) (tgt := 4) X9 dX8_endingOf_44 rfl ?_
        have q_3 : inR ((G a0 8)) := (hG _ _)
        have q_4 : inR (x3_1) := h_x3_1
        have g_3 : inR ((x3_1 + 1)) := ⟨by omega, by omega⟩
        exact hk_1 _ _ h h_x2_1 g_3
      · have c_3 := c
        have h := h.2 c_3
        refine a_iload_n (pc := 32) X9 dX8_endingOf_32 rfl rfl ?_
        refine a_aload_n (pc := 33) X9 dX8_endingOf_33 rfl rfl ?_
        refine a_getR (pc := 34) X9 (q := (a0 + 7)) okX8 10 rfl wF_X8_30 (is8 ha0 hnn) (rf8_10 _ ha0) dX8_endingOf_34 ?_
        refine a_iload_n (pc := 37) X9 dX8_endingOf_37 rfl rfl ?_
        refine b_iald (pc := 38) X9 (ar8_10 ha0 hnn) (Nat.le_of_ble_eq_true rfl) g_1 dX8_endingOf_38 ?_
        refine a_iadd (pc := 39) X9 dX8_endingOf_39 ?_
        refine a_istore_n (pc := 40) X9 dX8_endingOf_40 rfl (Nat.le_of_ble_eq_true rfl) rfl rfl ?_
        refine a_iinc (pc := 41) X9 dX8_endingOf_41 rfl (Nat.le_of_ble_eq_true rfl) rfl rfl ?_
        refine a_goto (pc := 44) (tgt := 4) X9 dX8_endingOf_44 rfl ?_
        obtain ⟨g_4, h⟩ := h
        have q_5 : inR ((G a0 8)) := (hG _ _)
        have q_6 : inR (x3_1) := h_x3_1
        have g_5 : inR ((x3_1 + 1)) := ⟨by omega, by omega⟩
        exact hk_1 _ _ h g_4 g_5
set_option maxHeartbeats 4000000 in
set_option maxRecDepth 100000 in
theorem m_X9_wouldFall {nn : Nat}  {G : GH} {Q : Int → Prop}  (hnn : 272 ≤ nn) (h : f_X9_wouldFall G Q) : Mt yX9_wouldFall cX9_wouldFall 5 (some .int) 1 23 0 0 [vr 0] (SF nn) G (fun v S' G' => S' = SF nn ∧ qI (fun r9 G9 => G9 = G ∧ Q r9) v S' G') (fun E S' G' => S' = SF nn ∧ False) := by
  refine Mt.of (l0 := [some (vr 0), none, none, none, none]) (by decide) (Nat.le_of_ble_eq_true rfl) rfl ?_
  intro κ δ ρ0 X9 E hG
  replace X9 : CX κ δ RX9 cX9_wouldFall 5 (some .int) := X9
  refine a_iconst (pc := 0) X9 dX9_wouldFall_0 ?_
  refine a_istore_n (pc := 1) X9 dX9_wouldFall_1 rfl (Nat.le_of_ble_eq_true rfl) rfl rfl ?_
  refine a_iconst (pc := 2) X9 dX9_wouldFall_2 ?_
  refine a_istore_n (pc := 3) X9 dX9_wouldFall_3 rfl (Nat.le_of_ble_eq_true rfl) rfl rfl ?_
  refine loopM2 (A := fun x1_1 x2_1 => inR x1_1 → inR x2_1 → AW κ δ ρ0 (szF nn) 5 0 0 4 [some (vr 0), some (vi x1_1), some (vi x2_1), none, none] [] (SF nn) G) (fun k_1 hk_1 x1_1 x2_1 h h_x1_1 h_x2_1 => ?_) _ _ h (by decide) (by decide)
  refine a_iload_n (pc := 4) X9 dX9_wouldFall_4 rfl rfl ?_
  refine a_bipush (pc := 5) X9 dX9_wouldFall_5 rfl ?_
  refine a_icmp_ge (pc := 7) (tgt := 69) X9 dX9_wouldFall_7 rfl h_x2_1 (by decide) (fun c => ?_) (fun c => ?_)
  · have c_1 := c
    have h := h.1 c_1
    refine a_iload_n (pc := 69) X9 dX9_wouldFall_69 rfl rfl ?_
    exact a_ireturn (pc := 70) X9 E rfl rfl (Nat.le_of_ble_eq_true rfl) (Nat.le_of_ble_eq_true rfl) dX9_wouldFall_70 ⟨rfl, _, rfl, h_x1_1, rfl, h⟩
  · have c_1 := c
    have h := h.2 c_1
    refine a_bipush (pc := 10) X9 dX9_wouldFall_10 rfl ?_
    refine a_iload_n (pc := 12) X9 dX9_wouldFall_12 rfl rfl ?_
    refine a_iadd (pc := 13) X9 dX9_wouldFall_13 ?_
    refine a_istore_n (pc := 14) X9 dX9_wouldFall_14 rfl (Nat.le_of_ble_eq_true rfl) rfl rfl ?_
    refine a_aload_n (pc := 15) X9 dX9_wouldFall_15 rfl rfl ?_
    refine a_getR (pc := 16) X9 (q := 1) okX9 0 rfl wF_X9_12 (is9 hnn) rf9_0 dX9_wouldFall_16 ?_
    refine a_getR (pc := 19) X9 (q := 3) okX7 3 rfl wF_X9_116 (is7 su9_0 hnn) (rf7_3 _ su9_0) dX9_wouldFall_19 ?_
    refine a_getR (pc := 22) X9 (q := 6) okX8 4 rfl wF_X9_179 (is8 (su7_3 _ su9_0) hnn) (rf8_4 _ (su7_3 _ su9_0)) dX9_wouldFall_22 ?_
    refine a_iload_n (pc := 25) X9 dX9_wouldFall_25 rfl rfl ?_
    obtain ⟨g_1, h⟩ := h
    refine b_iald (pc := 26) X9 (ar8_4 (su7_3 _ su9_0) hnn) (Nat.le_of_ble_eq_true rfl) g_1 dX9_wouldFall_26 ?_
    refine a_aload_n (pc := 27) X9 dX9_wouldFall_27 rfl rfl ?_
    refine a_getR (pc := 28) X9 (q := 1) okX9 0 rfl wF_X9_12 (is9 hnn) rf9_0 dX9_wouldFall_28 ?_
    refine a_getR (pc := 31) X9 (q := 3) okX7 3 rfl wF_X9_116 (is7 su9_0 hnn) (rf7_3 _ su9_0) dX9_wouldFall_31 ?_
    refine a_iload_n (pc := 34) X9 dX9_wouldFall_34 rfl rfl ?_
    refine a_callV (pc := 35) X9 E (m_X8_endingOf (su7_3 _ su9_0) h_x2_1 hnn h) okX8 (is8 (su7_3 _ su9_0) hnn) wM_X9_290 w_instanceMethod_X8_endingOf w_selects_X8_endingOf w_initialized_RX8 w_code_X8_endingOf cp_X8_endingOf pn_X8_endingOf rfl (Nat.le_of_ble_eq_true rfl) ⟨Nat.le_of_ble_eq_true rfl, Nat.le_of_ble_eq_true rfl⟩ ⟨Nat.le_of_ble_eq_true rfl, Nat.le_of_ble_eq_true rfl⟩ dX9_wouldFall_35 (fun _ _ q => False.elim q) (kIp (fun r_1 hr_1 h => ?_))
    refine a_isub (pc := 38) X9 dX9_wouldFall_38 ?_
    refine a_istore (pc := 39) X9 dX9_wouldFall_39 (Nat.le_of_ble_eq_true rfl) rfl rfl ?_
    refine a_iload_n (pc := 41) X9 dX9_wouldFall_41 rfl rfl ?_
    refine a_iconst (pc := 42) X9 dX9_wouldFall_42 ?_
    refine a_aload_n (pc := 43) X9 dX9_wouldFall_43 rfl rfl ?_
    refine a_getR (pc := 44) X9 (q := 1) okX9 0 rfl wF_X9_12 (is9 hnn) rf9_0 dX9_wouldFall_44 ?_
    refine a_getR (pc := 47) X9 (q := 15) okX7 5 rfl wF_X9_138 (is7 su9_0 hnn) (rf7_5 _ su9_0) dX9_wouldFall_47 ?_
    refine a_getR (pc := 50) X9 (q := 20) okX0 5 rfl wF_X9_182 (is0 (su7_5 _ su9_0) hnn) (rf0_5 _ (su7_5 _ su9_0)) dX9_wouldFall_50 ?_
    refine a_iload_n (pc := 53) X9 dX9_wouldFall_53 rfl rfl ?_
    refine b_iald (pc := 54) X9 (ar0_5 (su7_5 _ su9_0) hnn) (Nat.le_of_ble_eq_true rfl) g_1 dX9_wouldFall_54 ?_
    refine a_iload (pc := 55) X9 dX9_wouldFall_55 rfl ?_
    refine a_isub (pc := 57) X9 dX9_wouldFall_57 ?_
    obtain ⟨g_2, h⟩ := h
    refine b_max (pc := 58) X9 E wM_X9_293 (show inR 0 by decide) g_2 (Nat.le_of_ble_eq_true rfl) (Nat.le_of_ble_eq_true rfl) ⟨Nat.le_of_ble_eq_true rfl, Nat.le_of_ble_eq_true rfl⟩ dX9_wouldFall_58 ?_
    refine a_iadd (pc := 61) X9 dX9_wouldFall_61 ?_
    refine a_istore_n (pc := 62) X9 dX9_wouldFall_62 rfl (Nat.le_of_ble_eq_true rfl) rfl rfl ?_
    refine a_iinc (pc := 63) X9 dX9_wouldFall_63 rfl (Nat.le_of_ble_eq_true rfl) rfl rfl ?_
    refine a_goto (pc := 66) (tgt := 4) X9 dX9_wouldFall_66 rfl ?_
    obtain ⟨g_3, h⟩ := h
    have q_1 : inR (x2_1) := h_x2_1
    have g_4 : inR ((x2_1 + 1)) := ⟨by omega, by omega⟩
    refine AW.drop 3 rfl ?_
    refine AW.drop 4 rfl ?_
    exact hk_1 _ _ h g_3 g_4
set_option maxHeartbeats 4000000 in
set_option maxRecDepth 100000 in
theorem m_X1_keep {nn : Nat} {a1 : Nat} {G : GH} {Q : GH → Prop} (ha1 : a1 ∈ L7) (hnn : 272 ≤ nn) (h : f_X1_keep a1 G Q) : Mt yX1_keep cX1_keep 2 none 3 82 0 0 [vr 44, vr a1] (SF nn) G (fun v S' G' => S' = SF nn ∧ qV Q v S' G') (fun E S' G' => S' = SF nn ∧ False) := by
  refine Mt.of (l0 := [some (vr 44), some (vr a1)]) (by decide) (Nat.le_of_ble_eq_true rfl) rfl ?_
  intro κ δ ρ0 X9 E hG
  replace X9 : CX κ δ RX1 cX1_keep 2 none := X9
  refine a_aload_n (pc := 0) X9 dX1_keep_0 rfl rfl ?_
  refine a_getR (pc := 1) X9 (q := 45) okX1 0 rfl wF_X1_11 (is1 hnn) rf1_0 dX1_keep_1 ?_
  refine a_aload_n (pc := 4) X9 dX1_keep_4 rfl rfl ?_
  refine a_getI (pc := 5) X9 okX1 1 rfl wF_X1_18 (is1 hnn) dX1_keep_5 ?_
  obtain ⟨g_1, h⟩ := h
  have e_1 := el45 ((G 44 1)).toNat (by omega)
  refine a_aald (pc := 8) X9 (ar1_0 hnn) (Nat.le_of_ble_eq_true rfl) (Int.toNat_of_nonneg g_1.1).symm (by omega) e_1.1 dX1_keep_8 ?_
  refine a_aload_n (pc := 9) X9 dX1_keep_9 rfl rfl ?_
  refine a_callV (pc := 10) X9 E (m_X7_copyFrom e_1.2 ha1 hnn h) okX7 (is7 e_1.2 hnn) wM_X1_22 w_instanceMethod_X7_copyFrom w_selects_X7_copyFrom w_initialized_RX7 w_code_X7_copyFrom cp_X7_copyFrom pn_X7_copyFrom rfl (Nat.le_of_ble_eq_true rfl) ⟨Nat.le_of_ble_eq_true rfl, Nat.le_of_ble_eq_true rfl⟩ ⟨Nat.le_of_ble_eq_true rfl, Nat.le_of_ble_eq_true rfl⟩ dX1_keep_10 (fun _ _ q => False.elim q) (kV (fun G_1 h hG_1 => ?_))
  refine a_aload_n (pc := 13) X9 dX1_keep_13 rfl rfl ?_
  refine a_aload_n (pc := 14) X9 dX1_keep_14 rfl rfl ?_
  refine a_getI (pc := 15) X9 okX1 1 rfl wF_X1_18 (is1 hnn) dX1_keep_15 ?_
  refine a_iconst (pc := 18) X9 dX1_keep_18 ?_
  refine a_iadd (pc := 19) X9 dX1_keep_19 ?_
  refine a_bipush (pc := 20) X9 dX1_keep_20 rfl ?_
  obtain ⟨g_2, h⟩ := h
  obtain ⟨g_3, h⟩ := h
  refine a_irem (pc := 22) X9 dX1_keep_22 ⟨g_3, g_2.2⟩ ⟨(by decide), (by decide)⟩ ?_
  refine a_putI (pc := 23) X9 okX1 1 rfl rfl (v := (((G_1 44 1) + 1) % 8)) wF_X1_18 (is1 hnn) dX1_keep_23 (inR_mod g_3 (by decide) (by decide)) (fit_int _) (fun _ => ?_)
  obtain ⟨G_2, eG_2⟩ : ∃ G9, G9 = upG G_1 44 1 (((G_1 44 1) + 1) % 8) := ⟨_, rfl⟩
  have hG_2 : GR G_2 := by rw [eG_2]; exact (GR.up hG_1 (inR_mod g_3 (by decide) (by decide)))
  have h := h G_2 eG_2
  rw [← eG_2]
  refine a_aload_n (pc := 26) X9 dX1_keep_26 rfl rfl ?_
  refine a_aload_n (pc := 27) X9 dX1_keep_27 rfl rfl ?_
  refine a_getI (pc := 28) X9 okX1 2 rfl wF_X1_26 (is1 hnn) dX1_keep_28 ?_
  refine a_iconst (pc := 31) X9 dX1_keep_31 ?_
  refine a_iadd (pc := 32) X9 dX1_keep_32 ?_
  refine a_bipush (pc := 33) X9 dX1_keep_33 rfl ?_
  obtain ⟨g_4, h⟩ := h
  refine b_min (pc := 35) X9 E wM_X1_29 g_4 (show inR 8 by decide) (Nat.le_of_ble_eq_true rfl) (Nat.le_of_ble_eq_true rfl) ⟨Nat.le_of_ble_eq_true rfl, Nat.le_of_ble_eq_true rfl⟩ dX1_keep_35 ?_
  refine a_putI (pc := 38) X9 okX1 2 rfl rfl (v := (min ((G_2 44 2) + 1) 8)) wF_X1_26 (is1 hnn) dX1_keep_38 (inR_min g_4 (show inR 8 by decide)) (fit_int _) (fun _ => ?_)
  obtain ⟨G_3, eG_3⟩ : ∃ G9, G9 = upG G_2 44 2 (min ((G_2 44 2) + 1) 8) := ⟨_, rfl⟩
  have hG_3 : GR G_3 := by rw [eG_3]; exact (GR.up hG_2 (inR_min g_4 (show inR 8 by decide)))
  have h := h G_3 eG_3
  rw [← eG_3]
  exact a_return (pc := 41) X9 E (Nat.le_of_ble_eq_true rfl) (Nat.le_of_ble_eq_true rfl) dX1_keep_41 ⟨rfl, rfl, h⟩
set_option maxHeartbeats 4000000 in
set_option maxRecDepth 100000 in
theorem m_X9_hang {nn : Nat} {i1 : Int} {G : GH} {Q : Int → GH → Prop} (hi1 : inR i1) (hnn : 272 ≤ nn) (h : f_X9_hang i1 G Q (fun _ _ => False)) : Mt yX9_hang cX9_hang 3 (some .int) 6 149 0 0 [vr 0, vi i1] (SF nn) G (fun v S' G' => S' = SF nn ∧ qI Q v S' G') (fun E S' G' => S' = SF nn ∧ False) := by
  refine Mt.of (l0 := [some (vr 0), some (vi i1), none]) (by decide) (Nat.le_of_ble_eq_true rfl) rfl ?_
  intro κ δ ρ0 X9 E hG
  replace X9 : CX κ δ RX9 cX9_hang 3 (some .int) := X9
  refine a_aload_n (pc := 0) X9 dX9_hang_0 rfl rfl ?_
  refine a_iload_n (pc := 1) X9 dX9_hang_1 rfl rfl ?_
  refine a_callV (pc := 2) X9 E (m_X9_needService hi1 hnn h) okX9 (is9 hnn) wM_X9_216 w_instanceMethod_X9_needService w_selects_X9_needService w_initialized_RX9 w_code_X9_needService cp_X9_needService pn_X9_needService rfl (Nat.le_of_ble_eq_true rfl) ⟨Nat.le_of_ble_eq_true rfl, Nat.le_of_ble_eq_true rfl⟩ ⟨Nat.le_of_ble_eq_true rfl, Nat.le_of_ble_eq_true rfl⟩ dX9_hang_2 (fun _ _ q => False.elim q) (kVp (fun h => ?_))
  refine a_aload_n (pc := 5) X9 dX9_hang_5 rfl rfl ?_
  refine a_getR (pc := 6) X9 (q := 44) okX9 3 rfl wF_X9_29 (is9 hnn) rf9_3 dX9_hang_6 ?_
  refine a_aload_n (pc := 9) X9 dX9_hang_9 rfl rfl ?_
  refine a_getR (pc := 10) X9 (q := 1) okX9 0 rfl wF_X9_12 (is9 hnn) rf9_0 dX9_hang_10 ?_
  refine a_callV (pc := 13) X9 E (m_X1_keep su9_0 hnn h) okX1 (is1 hnn) wM_X9_298 w_instanceMethod_X1_keep w_selects_X1_keep w_initialized_RX1 w_code_X1_keep cp_X1_keep pn_X1_keep rfl (Nat.le_of_ble_eq_true rfl) ⟨Nat.le_of_ble_eq_true rfl, Nat.le_of_ble_eq_true rfl⟩ ⟨Nat.le_of_ble_eq_true rfl, Nat.le_of_ble_eq_true rfl⟩ dX9_hang_13 (fun _ _ q => False.elim q) (kV (fun G_1 h hG_1 => ?_))
  refine a_aload_n (pc := 16) X9 dX9_hang_16 rfl rfl ?_
  refine a_getR (pc := 17) X9 (q := 208) okX9 6 rfl wF_X9_44 (is9 hnn) rf9_6 dX9_hang_17 ?_
  refine a_aload_n (pc := 20) X9 dX9_hang_20 rfl rfl ?_
  refine a_getR (pc := 21) X9 (q := 1) okX9 0 rfl wF_X9_12 (is9 hnn) rf9_0 dX9_hang_21 ?_
  refine a_iload_n (pc := 24) X9 dX9_hang_24 rfl rfl ?_
  refine a_iconst (pc := 25) X9 dX9_hang_25 ?_
  refine a_aload_n (pc := 26) X9 dX9_hang_26 rfl rfl ?_
  refine a_getR (pc := 27) X9 (q := 218) okX9 7 rfl wF_X9_51 (is9 hnn) rf9_7 dX9_hang_27 ?_
  refine a_callV (pc := 30) X9 E (m_X4_chooseRows su9_0 hi1 (show inR (-1) by decide) su9_7 hnn h) okX4 (is4 hnn) wM_X9_260 w_instanceMethod_X4_chooseRows w_selects_X4_chooseRows w_initialized_RX4 w_code_X4_chooseRows cp_X4_chooseRows pn_X4_chooseRows rfl (Nat.le_of_ble_eq_true rfl) ⟨Nat.le_of_ble_eq_true rfl, Nat.le_of_ble_eq_true rfl⟩ ⟨Nat.le_of_ble_eq_true rfl, Nat.le_of_ble_eq_true rfl⟩ dX9_hang_30 (fun _ _ q => False.elim q) (kV (fun G_2 h hG_2 => ?_))
  refine a_aload_n (pc := 33) X9 dX9_hang_33 rfl rfl ?_
  refine a_getR (pc := 34) X9 (q := 208) okX9 6 rfl wF_X9_44 (is9 hnn) rf9_6 dX9_hang_34 ?_
  refine a_aload_n (pc := 37) X9 dX9_hang_37 rfl rfl ?_
  refine a_getR (pc := 38) X9 (q := 1) okX9 0 rfl wF_X9_12 (is9 hnn) rf9_0 dX9_hang_38 ?_
  refine a_getR (pc := 41) X9 (q := 3) okX7 3 rfl wF_X9_116 (is7 su9_0 hnn) (rf7_3 _ su9_0) dX9_hang_41 ?_
  refine a_aload_n (pc := 44) X9 dX9_hang_44 rfl rfl ?_
  refine a_getR (pc := 45) X9 (q := 218) okX9 7 rfl wF_X9_51 (is9 hnn) rf9_7 dX9_hang_45 ?_
  refine a_callV (pc := 48) X9 E (m_X4_chooseCards (su7_3 _ su9_0) su9_7 hnn h) okX4 (is4 hnn) wM_X9_264 w_instanceMethod_X4_chooseCards w_selects_X4_chooseCards w_initialized_RX4 w_code_X4_chooseCards cp_X4_chooseCards pn_X4_chooseCards rfl (Nat.le_of_ble_eq_true rfl) ⟨Nat.le_of_ble_eq_true rfl, Nat.le_of_ble_eq_true rfl⟩ ⟨Nat.le_of_ble_eq_true rfl, Nat.le_of_ble_eq_true rfl⟩ dX9_hang_48 (fun _ _ q => False.elim q) (kV (fun G_3 h hG_3 => ?_))
  refine a_aload_n (pc := 51) X9 dX9_hang_51 rfl rfl ?_
  refine a_getR (pc := 52) X9 (q := 1) okX9 0 rfl wF_X9_12 (is9 hnn) rf9_0 dX9_hang_52 ?_
  refine a_getR (pc := 55) X9 (q := 15) okX7 5 rfl wF_X9_138 (is7 su9_0 hnn) (rf7_5 _ su9_0) dX9_hang_55 ?_
  refine a_aload_n (pc := 58) X9 dX9_hang_58 rfl rfl ?_
  refine a_getR (pc := 59) X9 (q := 218) okX9 7 rfl wF_X9_51 (is9 hnn) rf9_7 dX9_hang_59 ?_
  refine a_callV (pc := 62) X9 E (m_X0_workTo (su7_5 _ su9_0) su9_7 hnn h) okX0 (is0 (su7_5 _ su9_0) hnn) wM_X9_270 w_instanceMethod_X0_workTo w_selects_X0_workTo w_initialized_RX0 w_code_X0_workTo cp_X0_workTo pn_X0_workTo rfl (Nat.le_of_ble_eq_true rfl) ⟨Nat.le_of_ble_eq_true rfl, Nat.le_of_ble_eq_true rfl⟩ ⟨Nat.le_of_ble_eq_true rfl, Nat.le_of_ble_eq_true rfl⟩ dX9_hang_62 (fun _ _ q => False.elim q) (kIp (fun r_5 hr_5 h => ?_))
  refine a_istore_n (pc := 65) X9 dX9_hang_65 rfl (Nat.le_of_ble_eq_true rfl) rfl rfl ?_
  refine a_aload_n (pc := 66) X9 dX9_hang_66 rfl rfl ?_
  refine a_getR (pc := 67) X9 (q := 1) okX9 0 rfl wF_X9_12 (is9 hnn) rf9_0 dX9_hang_67 ?_
  refine a_getR (pc := 70) X9 (q := 15) okX7 5 rfl wF_X9_138 (is7 su9_0 hnn) (rf7_5 _ su9_0) dX9_hang_70 ?_
  refine a_aload_n (pc := 73) X9 dX9_hang_73 rfl rfl ?_
  refine a_getR (pc := 74) X9 (q := 218) okX9 7 rfl wF_X9_51 (is9 hnn) rf9_7 dX9_hang_74 ?_
  refine a_callV (pc := 77) X9 E (m_X0_copyFrom (su7_5 _ su9_0) su9_7 hnn h) okX0 (is0 (su7_5 _ su9_0) hnn) wM_X9_301 w_instanceMethod_X0_copyFrom w_selects_X0_copyFrom w_initialized_RX0 w_code_X0_copyFrom cp_X0_copyFrom pn_X0_copyFrom rfl (Nat.le_of_ble_eq_true rfl) ⟨Nat.le_of_ble_eq_true rfl, Nat.le_of_ble_eq_true rfl⟩ ⟨Nat.le_of_ble_eq_true rfl, Nat.le_of_ble_eq_true rfl⟩ dX9_hang_77 (fun _ _ q => False.elim q) (kV (fun G_4 h hG_4 => ?_))
  refine a_aload_n (pc := 80) X9 dX9_hang_80 rfl rfl ?_
  refine a_getR (pc := 81) X9 (q := 1) okX9 0 rfl wF_X9_12 (is9 hnn) rf9_0 dX9_hang_81 ?_
  refine a_getR (pc := 84) X9 (q := 15) okX7 5 rfl wF_X9_138 (is7 su9_0 hnn) (rf7_5 _ su9_0) dX9_hang_84 ?_
  refine a_iload_n (pc := 87) X9 dX9_hang_87 rfl rfl ?_
  refine a_putI (pc := 88) X9 okX0 0 rfl rfl (v := i1) wF_X9_141 (is0 (su7_5 _ su9_0) hnn) dX9_hang_88 hi1 (fit_int _) (fun _ => ?_)
  obtain ⟨G_5, eG_5⟩ : ∃ G9, G9 = upG G_4 15 0 i1 := ⟨_, rfl⟩
  have hG_5 : GR G_5 := by rw [eG_5]; exact (GR.up hG_4 hi1)
  have h := h G_5 eG_5
  rw [← eG_5]
  refine a_aload_n (pc := 91) X9 dX9_hang_91 rfl rfl ?_
  refine a_getR (pc := 92) X9 (q := 1) okX9 0 rfl wF_X9_12 (is9 hnn) rf9_0 dX9_hang_92 ?_
  refine a_dup (pc := 95) X9 dX9_hang_95 rfl ?_
  refine a_getI (pc := 96) X9 okX7 7 rfl wF_X9_151 (is7 su9_0 hnn) dX9_hang_96 ?_
  refine a_iload_n (pc := 99) X9 dX9_hang_99 rfl rfl ?_
  refine a_iadd (pc := 100) X9 dX9_hang_100 ?_
  obtain ⟨g_1, h⟩ := h
  refine a_putI (pc := 101) X9 okX7 7 rfl rfl (v := ((G_5 1 7) + r_5)) wF_X9_151 (is7 su9_0 hnn) dX9_hang_101 g_1 (fit_int _) (fun _ => ?_)
  obtain ⟨G_6, eG_6⟩ : ∃ G9, G9 = upG G_5 1 7 ((G_5 1 7) + r_5) := ⟨_, rfl⟩
  have hG_6 : GR G_6 := by rw [eG_6]; exact (GR.up hG_5 g_1)
  have h := h G_6 eG_6
  rw [← eG_6]
  refine a_aload_n (pc := 104) X9 dX9_hang_104 rfl rfl ?_
  refine a_getR (pc := 105) X9 (q := 1) okX9 0 rfl wF_X9_12 (is9 hnn) rf9_0 dX9_hang_105 ?_
  refine a_dup (pc := 108) X9 dX9_hang_108 rfl ?_
  refine a_getI (pc := 109) X9 okX7 8 rfl wF_X9_154 (is7 su9_0 hnn) dX9_hang_109 ?_
  refine a_aload_n (pc := 112) X9 dX9_hang_112 rfl rfl ?_
  refine a_getR (pc := 113) X9 (q := 208) okX9 6 rfl wF_X9_44 (is9 hnn) rf9_6 dX9_hang_113 ?_
  refine a_getI (pc := 116) X9 okX4 1 rfl wF_X9_268 (is4 hnn) dX9_hang_116 ?_
  refine a_iadd (pc := 119) X9 dX9_hang_119 ?_
  obtain ⟨g_2, h⟩ := h
  refine a_putI (pc := 120) X9 okX7 8 rfl rfl (v := ((G_6 1 8) + (G_6 208 1))) wF_X9_154 (is7 su9_0 hnn) dX9_hang_120 g_2 (fit_int _) (fun _ => ?_)
  obtain ⟨G_7, eG_7⟩ : ∃ G9, G9 = upG G_6 1 8 ((G_6 1 8) + (G_6 208 1)) := ⟨_, rfl⟩
  have hG_7 : GR G_7 := by rw [eG_7]; exact (GR.up hG_6 g_2)
  have h := h G_7 eG_7
  rw [← eG_7]
  refine a_aload_n (pc := 123) X9 dX9_hang_123 rfl rfl ?_
  refine a_getR (pc := 124) X9 (q := 1) okX9 0 rfl wF_X9_12 (is9 hnn) rf9_0 dX9_hang_124 ?_
  refine a_dup (pc := 127) X9 dX9_hang_127 rfl ?_
  refine a_getI (pc := 128) X9 okX7 9 rfl wF_X9_157 (is7 su9_0 hnn) dX9_hang_128 ?_
  refine a_aload_n (pc := 131) X9 dX9_hang_131 rfl rfl ?_
  refine a_getR (pc := 132) X9 (q := 208) okX9 6 rfl wF_X9_44 (is9 hnn) rf9_6 dX9_hang_132 ?_
  refine a_getI (pc := 135) X9 okX4 2 rfl wF_X9_269 (is4 hnn) dX9_hang_135 ?_
  refine a_iadd (pc := 138) X9 dX9_hang_138 ?_
  obtain ⟨g_3, h⟩ := h
  refine a_putI (pc := 139) X9 okX7 9 rfl rfl (v := ((G_7 1 9) + (G_7 208 2))) wF_X9_157 (is7 su9_0 hnn) dX9_hang_139 g_3 (fit_int _) (fun _ => ?_)
  obtain ⟨G_8, eG_8⟩ : ∃ G9, G9 = upG G_7 1 9 ((G_7 1 9) + (G_7 208 2)) := ⟨_, rfl⟩
  have hG_8 : GR G_8 := by rw [eG_8]; exact (GR.up hG_7 g_3)
  have h := h G_8 eG_8
  rw [← eG_8]
  refine a_iload_n (pc := 142) X9 dX9_hang_142 rfl rfl ?_
  exact a_ireturn (pc := 143) X9 E rfl rfl (Nat.le_of_ble_eq_true rfl) (Nat.le_of_ble_eq_true rfl) dX9_hang_143 ⟨rfl, _, rfl, hr_5, h⟩
set_option maxHeartbeats 4000000 in
set_option maxRecDepth 100000 in
theorem m_X8_endLoan {nn : Nat} {a0 : Nat} {i1 : Int} {G : GH} {Q : GH → Prop} (ha0 : a0 ∈ L8) (hi1 : inR i1) (hnn : 272 ≤ nn) (h : f_X8_endLoan a0 i1 G Q) : Mt yX8_endLoan cX8_endLoan 4 none 0 0 0 0 [vr a0, vi i1] (SF nn) G (fun v S' G' => S' = SF nn ∧ qV Q v S' G') (fun E S' G' => S' = SF nn ∧ False) := by
  refine Mt.of (l0 := [some (vr a0), some (vi i1), none, none]) (by decide) (Nat.le_of_ble_eq_true rfl) rfl ?_
  intro κ δ ρ0 X9 E hG
  replace X9 : CX κ δ RX8 cX8_endLoan 4 none := X9
  refine a_aload_n (pc := 0) X9 dX8_endLoan_0 rfl rfl ?_
  refine a_getR (pc := 1) X9 (q := (a0 + 6)) okX8 9 rfl wF_X8_27 (is8 ha0 hnn) (rf8_9 _ ha0) dX8_endLoan_1 ?_
  refine a_iload_n (pc := 4) X9 dX8_endLoan_4 rfl rfl ?_
  obtain ⟨g_1, h⟩ := h
  refine b_iald (pc := 5) X9 (ar8_9 ha0 hnn) (Nat.le_of_ble_eq_true rfl) g_1 dX8_endLoan_5 ?_
  refine a_istore_n (pc := 6) X9 dX8_endLoan_6 rfl (Nat.le_of_ble_eq_true rfl) rfl rfl ?_
  refine a_aload_n (pc := 7) X9 dX8_endLoan_7 rfl rfl ?_
  refine a_getR (pc := 8) X9 (q := (a0 + 5)) okX8 7 rfl wF_X8_24 (is8 ha0 hnn) (rf8_7 _ ha0) dX8_endLoan_8 ?_
  refine a_iload_n (pc := 11) X9 dX8_endLoan_11 rfl rfl ?_
  refine a_dup2 (pc := 12) X9 dX8_endLoan_12 rfl rfl ?_
  obtain ⟨g_2, h⟩ := h
  refine b_iald (pc := 13) X9 (ar8_7 ha0 hnn) (Nat.le_of_ble_eq_true rfl) g_2 dX8_endLoan_13 ?_
  refine a_aload_n (pc := 14) X9 dX8_endLoan_14 rfl rfl ?_
  refine a_getR (pc := 15) X9 (q := (a0 + 7)) okX8 10 rfl wF_X8_30 (is8 ha0 hnn) (rf8_10 _ ha0) dX8_endLoan_15 ?_
  refine a_iload_n (pc := 18) X9 dX8_endLoan_18 rfl rfl ?_
  refine b_iald (pc := 19) X9 (ar8_10 ha0 hnn) (Nat.le_of_ble_eq_true rfl) g_1 dX8_endLoan_19 ?_
  refine a_iadd (pc := 20) X9 dX8_endLoan_20 ?_
  obtain ⟨g_3, h⟩ := h
  refine b_iast (pc := 21) X9 (i := (G (a0 + 6) (i1).toNat)) (v := ((G (a0 + 5) ((G (a0 + 6) (i1).toNat)).toNat) + (G (a0 + 7) (i1).toNat))) (ar8_7 ha0 hnn) (Nat.le_of_ble_eq_true rfl) g_2 g_3 dX8_endLoan_21 ?_
  obtain ⟨G_1, eG_1⟩ : ∃ G9, G9 = upG G (a0 + 5) ((G (a0 + 6) (i1).toNat)).toNat ((G (a0 + 5) ((G (a0 + 6) (i1).toNat)).toNat) + (G (a0 + 7) (i1).toNat)) := ⟨_, rfl⟩
  have hG_1 : GR G_1 := by rw [eG_1]; exact (GR.up hG g_3)
  have h := h G_1 eG_1
  rw [← eG_1]
  refine a_aload_n (pc := 22) X9 dX8_endLoan_22 rfl rfl ?_
  refine a_getR (pc := 23) X9 (q := (a0 + 3)) okX8 4 rfl wF_X8_18 (is8 ha0 hnn) (rf8_4 _ ha0) dX8_endLoan_23 ?_
  refine a_bipush (pc := 26) X9 dX8_endLoan_26 rfl ?_
  refine a_iload_n (pc := 28) X9 dX8_endLoan_28 rfl rfl ?_
  refine a_iadd (pc := 29) X9 dX8_endLoan_29 ?_
  refine a_dup2 (pc := 30) X9 dX8_endLoan_30 rfl rfl ?_
  obtain ⟨g_4, h⟩ := h
  refine b_iald (pc := 31) X9 (ar8_4 ha0 hnn) (Nat.le_of_ble_eq_true rfl) g_4 dX8_endLoan_31 ?_
  refine a_aload_n (pc := 32) X9 dX8_endLoan_32 rfl rfl ?_
  refine a_getR (pc := 33) X9 (q := (a0 + 7)) okX8 10 rfl wF_X8_30 (is8 ha0 hnn) (rf8_10 _ ha0) dX8_endLoan_33 ?_
  refine a_iload_n (pc := 36) X9 dX8_endLoan_36 rfl rfl ?_
  refine b_iald (pc := 37) X9 (ar8_10 ha0 hnn) (Nat.le_of_ble_eq_true rfl) g_1 dX8_endLoan_37 ?_
  refine a_isub (pc := 38) X9 dX8_endLoan_38 ?_
  obtain ⟨g_5, h⟩ := h
  refine b_iast (pc := 39) X9 (i := (12 + (G (a0 + 6) (i1).toNat))) (v := ((G_1 (a0 + 3) ((12 + (G (a0 + 6) (i1).toNat))).toNat) - (G_1 (a0 + 7) (i1).toNat))) (ar8_4 ha0 hnn) (Nat.le_of_ble_eq_true rfl) g_4 g_5 dX8_endLoan_39 ?_
  obtain ⟨G_2, eG_2⟩ : ∃ G9, G9 = upG G_1 (a0 + 3) ((12 + (G (a0 + 6) (i1).toNat))).toNat ((G_1 (a0 + 3) ((12 + (G (a0 + 6) (i1).toNat))).toNat) - (G_1 (a0 + 7) (i1).toNat)) := ⟨_, rfl⟩
  have hG_2 : GR G_2 := by rw [eG_2]; exact (GR.up hG_1 g_5)
  have h := h G_2 eG_2
  rw [← eG_2]
  refine a_aload_n (pc := 40) X9 dX8_endLoan_40 rfl rfl ?_
  refine a_dup (pc := 41) X9 dX8_endLoan_41 rfl ?_
  refine a_getI (pc := 42) X9 okX8 8 rfl wF_X8_47 (is8 ha0 hnn) dX8_endLoan_42 ?_
  refine a_iconst (pc := 45) X9 dX8_endLoan_45 ?_
  refine a_isub (pc := 46) X9 dX8_endLoan_46 ?_
  obtain ⟨g_6, h⟩ := h
  refine a_putI (pc := 47) X9 okX8 8 rfl rfl (v := ((G_2 a0 8) - 1)) wF_X8_47 (is8 ha0 hnn) dX8_endLoan_47 g_6 (fit_int _) (fun _ => ?_)
  obtain ⟨G_3, eG_3⟩ : ∃ G9, G9 = upG G_2 a0 8 ((G_2 a0 8) - 1) := ⟨_, rfl⟩
  have hG_3 : GR G_3 := by rw [eG_3]; exact (GR.up hG_2 g_6)
  have h := h G_3 eG_3
  rw [← eG_3]
  refine a_iload_n (pc := 50) X9 dX8_endLoan_50 rfl rfl ?_
  refine a_istore_n (pc := 51) X9 dX8_endLoan_51 rfl (Nat.le_of_ble_eq_true rfl) rfl rfl ?_
  refine loopM2 (A := fun x3_1 G_4 => inR x3_1 → GR G_4 → AW κ δ ρ0 (szF nn) 4 0 0 52 [some (vr a0), some (vi i1), some (vi (G (a0 + 6) (i1).toNat)), some (vi x3_1)] [] (SF nn) G_4) (fun k_1 hk_1 x3_1 G_4 h h_x3_1 hG_4 => ?_) _ _ h hi1 hG_3
  refine a_iload_n (pc := 52) X9 dX8_endLoan_52 rfl rfl ?_
  refine a_aload_n (pc := 53) X9 dX8_endLoan_53 rfl rfl ?_
  refine a_getI (pc := 54) X9 okX8 8 rfl wF_X8_47 (is8 ha0 hnn) dX8_endLoan_54 ?_
  refine a_icmp_ge (pc := 57) (tgt := 108) X9 dX8_endLoan_57 rfl h_x3_1 (hG_4 _ _) (fun c => ?_) (fun c => ?_)
  · have c_1 := c
    have h := h.1 c_1
    exact a_return (pc := 108) X9 E (Nat.le_of_ble_eq_true rfl) (Nat.le_of_ble_eq_true rfl) dX8_endLoan_108 ⟨rfl, rfl, h⟩
  · have c_1 := c
    have h := h.2 c_1
    refine a_aload_n (pc := 60) X9 dX8_endLoan_60 rfl rfl ?_
    refine a_getR (pc := 61) X9 (q := (a0 + 6)) okX8 9 rfl wF_X8_27 (is8 ha0 hnn) (rf8_9 _ ha0) dX8_endLoan_61 ?_
    refine a_iload_n (pc := 64) X9 dX8_endLoan_64 rfl rfl ?_
    refine a_aload_n (pc := 65) X9 dX8_endLoan_65 rfl rfl ?_
    refine a_getR (pc := 66) X9 (q := (a0 + 6)) okX8 9 rfl wF_X8_27 (is8 ha0 hnn) (rf8_9 _ ha0) dX8_endLoan_66 ?_
    refine a_iload_n (pc := 69) X9 dX8_endLoan_69 rfl rfl ?_
    refine a_iconst (pc := 70) X9 dX8_endLoan_70 ?_
    refine a_iadd (pc := 71) X9 dX8_endLoan_71 ?_
    obtain ⟨g_7, h⟩ := h
    refine b_iald (pc := 72) X9 (ar8_9 ha0 hnn) (Nat.le_of_ble_eq_true rfl) g_7 dX8_endLoan_72 ?_
    obtain ⟨g_8, h⟩ := h
    refine b_iast (pc := 73) X9 (i := x3_1) (v := (G_4 (a0 + 6) ((x3_1 + 1)).toNat)) (ar8_9 ha0 hnn) (Nat.le_of_ble_eq_true rfl) g_8 (hG_4 _ _) dX8_endLoan_73 ?_
    obtain ⟨G_5, eG_5⟩ : ∃ G9, G9 = upG G_4 (a0 + 6) (x3_1).toNat (G_4 (a0 + 6) ((x3_1 + 1)).toNat) := ⟨_, rfl⟩
    have hG_5 : GR G_5 := by rw [eG_5]; exact (GR.up hG_4 (hG_4 _ _))
    have h := h G_5 eG_5
    rw [← eG_5]
    refine a_aload_n (pc := 74) X9 dX8_endLoan_74 rfl rfl ?_
    refine a_getR (pc := 75) X9 (q := (a0 + 7)) okX8 10 rfl wF_X8_30 (is8 ha0 hnn) (rf8_10 _ ha0) dX8_endLoan_75 ?_
    refine a_iload_n (pc := 78) X9 dX8_endLoan_78 rfl rfl ?_
    refine a_aload_n (pc := 79) X9 dX8_endLoan_79 rfl rfl ?_
    refine a_getR (pc := 80) X9 (q := (a0 + 7)) okX8 10 rfl wF_X8_30 (is8 ha0 hnn) (rf8_10 _ ha0) dX8_endLoan_80 ?_
    refine a_iload_n (pc := 83) X9 dX8_endLoan_83 rfl rfl ?_
    refine a_iconst (pc := 84) X9 dX8_endLoan_84 ?_
    refine a_iadd (pc := 85) X9 dX8_endLoan_85 ?_
    refine b_iald (pc := 86) X9 (ar8_10 ha0 hnn) (Nat.le_of_ble_eq_true rfl) g_7 dX8_endLoan_86 ?_
    refine b_iast (pc := 87) X9 (i := x3_1) (v := (G_5 (a0 + 7) ((x3_1 + 1)).toNat)) (ar8_10 ha0 hnn) (Nat.le_of_ble_eq_true rfl) g_8 (hG_5 _ _) dX8_endLoan_87 ?_
    obtain ⟨G_6, eG_6⟩ : ∃ G9, G9 = upG G_5 (a0 + 7) (x3_1).toNat (G_5 (a0 + 7) ((x3_1 + 1)).toNat) := ⟨_, rfl⟩
    have hG_6 : GR G_6 := by rw [eG_6]; exact (GR.up hG_5 (hG_5 _ _))
    have h := h G_6 eG_6
    rw [← eG_6]
    refine a_aload_n (pc := 88) X9 dX8_endLoan_88 rfl rfl ?_
    refine a_getR (pc := 89) X9 (q := (a0 + 8)) okX8 11 rfl wF_X8_33 (is8 ha0 hnn) (rf8_11 _ ha0) dX8_endLoan_89 ?_
    refine a_iload_n (pc := 92) X9 dX8_endLoan_92 rfl rfl ?_
    refine a_aload_n (pc := 93) X9 dX8_endLoan_93 rfl rfl ?_
    refine a_getR (pc := 94) X9 (q := (a0 + 8)) okX8 11 rfl wF_X8_33 (is8 ha0 hnn) (rf8_11 _ ha0) dX8_endLoan_94 ?_
    refine a_iload_n (pc := 97) X9 dX8_endLoan_97 rfl rfl ?_
    refine a_iconst (pc := 98) X9 dX8_endLoan_98 ?_
    refine a_iadd (pc := 99) X9 dX8_endLoan_99 ?_
    refine b_iald (pc := 100) X9 (ar8_11 ha0 hnn) (Nat.le_of_ble_eq_true rfl) g_7 dX8_endLoan_100 ?_
    refine b_iast (pc := 101) X9 (i := x3_1) (v := (G_6 (a0 + 8) ((x3_1 + 1)).toNat)) (ar8_11 ha0 hnn) (Nat.le_of_ble_eq_true rfl) g_8 (hG_6 _ _) dX8_endLoan_101 ?_
    obtain ⟨G_7, eG_7⟩ : ∃ G9, G9 = upG G_6 (a0 + 8) (x3_1).toNat (G_6 (a0 + 8) ((x3_1 + 1)).toNat) := ⟨_, rfl⟩
    have hG_7 : GR G_7 := by rw [eG_7]; exact (GR.up hG_6 (hG_6 _ _))
    have h := h G_7 eG_7
    rw [← eG_7]
    refine a_iinc (pc := 102) X9 dX8_endLoan_102 rfl (Nat.le_of_ble_eq_true rfl) rfl rfl ?_
    refine a_goto (pc := 105) (tgt := 52) X9 dX8_endLoan_105 rfl ?_
    have q_1 : inR ((G_4 a0 8)) := (hG_4 _ _)
    have q_2 : inR (x3_1) := h_x3_1
    have g_9 : inR ((x3_1 + 1)) := ⟨by omega, by omega⟩
    exact hk_1 _ _ h g_9 hG_7
set_option maxHeartbeats 4000000 in
set_option maxRecDepth 100000 in
theorem m_X8_passService {nn : Nat} {a0 : Nat} {G : GH} {Q : GH → Prop} (ha0 : a0 ∈ L8) (hnn : 272 ≤ nn) (h : f_X8_passService a0 G Q) : Mt yX8_passService cX8_passService 2 none 1 23 0 0 [vr a0] (SF nn) G (fun v S' G' => S' = SF nn ∧ qV Q v S' G') (fun E S' G' => S' = SF nn ∧ False) := by
  refine Mt.of (l0 := [some (vr a0), none]) (by decide) (Nat.le_of_ble_eq_true rfl) rfl ?_
  intro κ δ ρ0 X9 E hG
  replace X9 : CX κ δ RX8 cX8_passService 2 none := X9
  refine a_aload_n (pc := 0) X9 dX8_passService_0 rfl rfl ?_
  refine a_getI (pc := 1) X9 okX8 8 rfl wF_X8_47 (is8 ha0 hnn) dX8_passService_1 ?_
  refine a_iconst (pc := 4) X9 dX8_passService_4 ?_
  refine a_isub (pc := 5) X9 dX8_passService_5 ?_
  refine a_istore_n (pc := 6) X9 dX8_passService_6 rfl (Nat.le_of_ble_eq_true rfl) rfl rfl ?_
  obtain ⟨g_1, h⟩ := h
  refine loopM2 (A := fun x1_1 G_1 => inR x1_1 → GR G_1 → AW κ δ ρ0 (szF nn) 2 0 0 7 [some (vr a0), some (vi x1_1)] [] (SF nn) G_1) (fun k_1 hk_1 x1_1 G_1 h h_x1_1 hG_1 => ?_) _ _ h g_1 hG
  refine a_iload_n (pc := 7) X9 dX8_passService_7 rfl rfl ?_
  refine a_if_lt (pc := 8) (tgt := 41) X9 dX8_passService_8 rfl h_x1_1 (fun c => ?_) (fun c => ?_)
  · have c_1 := c
    have h := h.1 c_1
    exact a_return (pc := 41) X9 E (Nat.le_of_ble_eq_true rfl) (Nat.le_of_ble_eq_true rfl) dX8_passService_41 ⟨rfl, rfl, h⟩
  · have c_1 := c
    have h := h.2 c_1
    refine a_aload_n (pc := 11) X9 dX8_passService_11 rfl rfl ?_
    refine a_getR (pc := 12) X9 (q := (a0 + 8)) okX8 11 rfl wF_X8_33 (is8 ha0 hnn) (rf8_11 _ ha0) dX8_passService_12 ?_
    refine a_iload_n (pc := 15) X9 dX8_passService_15 rfl rfl ?_
    refine a_dup2 (pc := 16) X9 dX8_passService_16 rfl rfl ?_
    obtain ⟨g_2, h⟩ := h
    refine b_iald (pc := 17) X9 (ar8_11 ha0 hnn) (Nat.le_of_ble_eq_true rfl) g_2 dX8_passService_17 ?_
    refine a_iconst (pc := 18) X9 dX8_passService_18 ?_
    refine a_isub (pc := 19) X9 dX8_passService_19 ?_
    obtain ⟨g_3, h⟩ := h
    refine b_iast (pc := 20) X9 (i := x1_1) (v := ((G_1 (a0 + 8) (x1_1).toNat) - 1)) (ar8_11 ha0 hnn) (Nat.le_of_ble_eq_true rfl) g_2 g_3 dX8_passService_20 ?_
    obtain ⟨G_2, eG_2⟩ : ∃ G9, G9 = upG G_1 (a0 + 8) (x1_1).toNat ((G_1 (a0 + 8) (x1_1).toNat) - 1) := ⟨_, rfl⟩
    have hG_2 : GR G_2 := by rw [eG_2]; exact (GR.up hG_1 g_3)
    have h := h G_2 eG_2
    rw [← eG_2]
    refine a_aload_n (pc := 21) X9 dX8_passService_21 rfl rfl ?_
    refine a_getR (pc := 22) X9 (q := (a0 + 8)) okX8 11 rfl wF_X8_33 (is8 ha0 hnn) (rf8_11 _ ha0) dX8_passService_22 ?_
    refine a_iload_n (pc := 25) X9 dX8_passService_25 rfl rfl ?_
    refine b_iald (pc := 26) X9 (ar8_11 ha0 hnn) (Nat.le_of_ble_eq_true rfl) g_2 dX8_passService_26 ?_
    refine a_if_ne (pc := 27) (tgt := 35) X9 dX8_passService_27 rfl (hG_2 _ _) (fun c => ?_) (fun c => ?_)
    · have c_2 := c
      have h := h.1 c_2
      refine a_iinc (pc := 35) X9 dX8_passService_35 rfl (Nat.le_of_ble_eq_true rfl) rfl rfl ?_
      refine a_goto (pc := 38) (tgt := 7) X9 dX8_passService_38 rfl ?_
      have q_1 : inR (x1_1) := h_x1_1
      have g_4 : inR ((x1_1 + (-1))) := ⟨by omega, by omega⟩
      exact hk_1 _ _ h g_4 hG_2
    · have c_2 := c
      have h := h.2 c_2
      refine a_aload_n (pc := 30) X9 dX8_passService_30 rfl rfl ?_
      refine a_iload_n (pc := 31) X9 dX8_passService_31 rfl rfl ?_
      refine a_callV (pc := 32) X9 E (m_X8_endLoan ha0 h_x1_1 hnn h) okX8 (is8 ha0 hnn) wM_X8_83 w_instanceMethod_X8_endLoan w_selects_X8_endLoan w_initialized_RX8 w_code_X8_endLoan cp_X8_endLoan pn_X8_endLoan rfl (Nat.le_of_ble_eq_true rfl) ⟨Nat.le_of_ble_eq_true rfl, Nat.le_of_ble_eq_true rfl⟩ ⟨Nat.le_of_ble_eq_true rfl, Nat.le_of_ble_eq_true rfl⟩ dX8_passService_32 (fun _ _ q => False.elim q) (kV (fun G_3 h hG_3 => ?_))
      refine a_iinc (pc := 35) X9 dX8_passService_35 rfl (Nat.le_of_ble_eq_true rfl) rfl rfl ?_
      refine a_goto (pc := 38) (tgt := 7) X9 dX8_passService_38 rfl ?_
      have q_2 : inR (x1_1) := h_x1_1
      have g_5 : inR ((x1_1 + (-1))) := ⟨by omega, by omega⟩
      exact hk_1 _ _ h g_5 hG_3
set_option maxHeartbeats 4000000 in
set_option maxRecDepth 100000 in
theorem m_X0_takeCardDown {nn : Nat} {a0 : Nat} {i1 : Int} {G : GH} {Q : GH → Prop} (ha0 : a0 ∈ L0) (hi1 : inR i1) (hnn : 272 ≤ nn) (h : f_X0_takeCardDown a0 i1 G Q) : Mt yX0_takeCardDown cX0_takeCardDown 2 none 0 0 0 0 [vr a0, vi i1] (SF nn) G (fun v S' G' => S' = SF nn ∧ qV Q v S' G') (fun E S' G' => S' = SF nn ∧ False) := by
  refine Mt.of (l0 := [some (vr a0), some (vi i1)]) (by decide) (Nat.le_of_ble_eq_true rfl) rfl ?_
  intro κ δ ρ0 X9 E hG
  replace X9 : CX κ δ RX0 cX0_takeCardDown 2 none := X9
  refine a_aload_n (pc := 0) X9 dX0_takeCardDown_0 rfl rfl ?_
  refine a_getR (pc := 1) X9 (q := (a0 + 5)) okX0 5 rfl wF_X0_28 (is0 ha0 hnn) (rf0_5 _ ha0) dX0_takeCardDown_1 ?_
  refine a_aload_n (pc := 4) X9 dX0_takeCardDown_4 rfl rfl ?_
  refine a_getR (pc := 5) X9 (q := (a0 + 3)) okX0 3 rfl wF_X0_22 (is0 ha0 hnn) (rf0_3 _ ha0) dX0_takeCardDown_5 ?_
  refine a_iload_n (pc := 8) X9 dX0_takeCardDown_8 rfl rfl ?_
  obtain ⟨g_1, h⟩ := h
  refine b_iald (pc := 9) X9 (ar0_3 ha0 hnn) (Nat.le_of_ble_eq_true rfl) g_1 dX0_takeCardDown_9 ?_
  refine a_dup2 (pc := 10) X9 dX0_takeCardDown_10 rfl rfl ?_
  obtain ⟨g_2, h⟩ := h
  refine b_iald (pc := 11) X9 (ar0_5 ha0 hnn) (Nat.le_of_ble_eq_true rfl) g_2 dX0_takeCardDown_11 ?_
  refine a_iconst (pc := 12) X9 dX0_takeCardDown_12 ?_
  refine a_isub (pc := 13) X9 dX0_takeCardDown_13 ?_
  obtain ⟨g_3, h⟩ := h
  refine b_iast (pc := 14) X9 (i := (G (a0 + 3) (i1).toNat)) (v := ((G (a0 + 5) ((G (a0 + 3) (i1).toNat)).toNat) - 1)) (ar0_5 ha0 hnn) (Nat.le_of_ble_eq_true rfl) g_2 g_3 dX0_takeCardDown_14 ?_
  obtain ⟨G_1, eG_1⟩ : ∃ G9, G9 = upG G (a0 + 5) ((G (a0 + 3) (i1).toNat)).toNat ((G (a0 + 5) ((G (a0 + 3) (i1).toNat)).toNat) - 1) := ⟨_, rfl⟩
  have hG_1 : GR G_1 := by rw [eG_1]; exact (GR.up hG g_3)
  have h := h G_1 eG_1
  rw [← eG_1]
  refine a_aload_n (pc := 15) X9 dX0_takeCardDown_15 rfl rfl ?_
  refine a_getR (pc := 16) X9 (q := (a0 + 2)) okX0 2 rfl wF_X0_19 (is0 ha0 hnn) (rf0_2 _ ha0) dX0_takeCardDown_16 ?_
  refine a_iload_n (pc := 19) X9 dX0_takeCardDown_19 rfl rfl ?_
  refine a_iconst (pc := 20) X9 dX0_takeCardDown_20 ?_
  refine b_iast (pc := 21) X9 (i := i1) (v := (-1)) (ar0_2 ha0 hnn) (Nat.le_of_ble_eq_true rfl) g_1 (by decide) dX0_takeCardDown_21 ?_
  obtain ⟨G_2, eG_2⟩ : ∃ G9, G9 = upG G_1 (a0 + 2) (i1).toNat (-1) := ⟨_, rfl⟩
  have hG_2 : GR G_2 := by rw [eG_2]; exact (GR.up hG_1 (by decide))
  have h := h G_2 eG_2
  rw [← eG_2]
  refine a_aload_n (pc := 22) X9 dX0_takeCardDown_22 rfl rfl ?_
  refine a_getR (pc := 23) X9 (q := (a0 + 3)) okX0 3 rfl wF_X0_22 (is0 ha0 hnn) (rf0_3 _ ha0) dX0_takeCardDown_23 ?_
  refine a_iload_n (pc := 26) X9 dX0_takeCardDown_26 rfl rfl ?_
  refine a_iconst (pc := 27) X9 dX0_takeCardDown_27 ?_
  refine b_iast (pc := 28) X9 (i := i1) (v := (-1)) (ar0_3 ha0 hnn) (Nat.le_of_ble_eq_true rfl) g_1 (by decide) dX0_takeCardDown_28 ?_
  obtain ⟨G_3, eG_3⟩ : ∃ G9, G9 = upG G_2 (a0 + 3) (i1).toNat (-1) := ⟨_, rfl⟩
  have hG_3 : GR G_3 := by rw [eG_3]; exact (GR.up hG_2 (by decide))
  have h := h G_3 eG_3
  rw [← eG_3]
  refine a_aload_n (pc := 29) X9 dX0_takeCardDown_29 rfl rfl ?_
  refine a_getR (pc := 30) X9 (q := (a0 + 4)) okX0 4 rfl wF_X0_25 (is0 ha0 hnn) (rf0_4 _ ha0) dX0_takeCardDown_30 ?_
  refine a_iload_n (pc := 33) X9 dX0_takeCardDown_33 rfl rfl ?_
  refine a_iconst (pc := 34) X9 dX0_takeCardDown_34 ?_
  refine b_iast (pc := 35) X9 (i := i1) (v := (-1)) (ar0_4 ha0 hnn) (Nat.le_of_ble_eq_true rfl) g_1 (by decide) dX0_takeCardDown_35 ?_
  obtain ⟨G_4, eG_4⟩ : ∃ G9, G9 = upG G_3 (a0 + 4) (i1).toNat (-1) := ⟨_, rfl⟩
  have hG_4 : GR G_4 := by rw [eG_4]; exact (GR.up hG_3 (by decide))
  have h := h G_4 eG_4
  rw [← eG_4]
  exact a_return (pc := 36) X9 E (Nat.le_of_ble_eq_true rfl) (Nat.le_of_ble_eq_true rfl) dX0_takeCardDown_36 ⟨rfl, rfl, h⟩
set_option maxHeartbeats 4000000 in
set_option maxRecDepth 100000 in
theorem m_X7_takeTooManyDown {nn : Nat} {a0 : Nat} {G : GH} {Q : Int → GH → Prop} (ha0 : a0 ∈ L7) (hnn : 272 ≤ nn) (h : f_X7_takeTooManyDown a0 G Q) : Mt yX7_takeTooManyDown cX7_takeTooManyDown 4 (some .int) 1 21 0 0 [vr a0] (SF nn) G (fun v S' G' => S' = SF nn ∧ qI Q v S' G') (fun E S' G' => S' = SF nn ∧ False) := by
  refine Mt.of (l0 := [some (vr a0), none, none, none]) (by decide) (Nat.le_of_ble_eq_true rfl) rfl ?_
  intro κ δ ρ0 X9 E hG
  replace X9 : CX κ δ RX7 cX7_takeTooManyDown 4 (some .int) := X9
  refine a_iconst (pc := 0) X9 dX7_takeTooManyDown_0 ?_
  refine a_istore_n (pc := 1) X9 dX7_takeTooManyDown_1 rfl (Nat.le_of_ble_eq_true rfl) rfl rfl ?_
  refine a_bipush (pc := 2) X9 dX7_takeTooManyDown_2 rfl ?_
  refine a_istore_n (pc := 4) X9 dX7_takeTooManyDown_4 rfl (Nat.le_of_ble_eq_true rfl) rfl rfl ?_
  refine loopM3 (A := fun x1_1 x2_1 G_1 => inR x1_1 → inR x2_1 → GR G_1 → AW κ δ ρ0 (szF nn) 4 0 0 5 [some (vr a0), some (vi x1_1), some (vi x2_1), none] [] (SF nn) G_1) (fun k_1 hk_1 x1_1 x2_1 G_1 h h_x1_1 h_x2_1 hG_1 => ?_) _ _ _ h (by decide) (by decide) hG
  refine a_iload_n (pc := 5) X9 dX7_takeTooManyDown_5 rfl rfl ?_
  refine a_if_lt (pc := 6) (tgt := 62) X9 dX7_takeTooManyDown_6 rfl h_x2_1 (fun c => ?_) (fun c => ?_)
  · have c_1 := c
    have h := h.1 c_1
    refine a_iload_n (pc := 62) X9 dX7_takeTooManyDown_62 rfl rfl ?_
    exact a_ireturn (pc := 63) X9 E rfl rfl (Nat.le_of_ble_eq_true rfl) (Nat.le_of_ble_eq_true rfl) dX7_takeTooManyDown_63 ⟨rfl, _, rfl, h_x1_1, h⟩
  · have c_1 := c
    have h := h.2 c_1
    refine a_aload_n (pc := 9) X9 dX7_takeTooManyDown_9 rfl rfl ?_
    refine a_getR (pc := 10) X9 (q := (a0 + 14)) okX7 5 rfl wF_X7_32 (is7 ha0 hnn) (rf7_5 _ ha0) dX7_takeTooManyDown_10 ?_
    refine a_getR (pc := 13) X9 (q := (a0 + 17)) okX0 3 rfl wF_X7_89 (is0 (su7_5 _ ha0) hnn) (rf0_3 _ (su7_5 _ ha0)) dX7_takeTooManyDown_13 ?_
    refine a_iload_n (pc := 16) X9 dX7_takeTooManyDown_16 rfl rfl ?_
    obtain ⟨g_1, h⟩ := h
    refine b_iald (pc := 17) X9 (ar0_3 (su7_5 _ ha0) hnn) (Nat.le_of_ble_eq_true rfl) g_1 dX7_takeTooManyDown_17 ?_
    refine a_istore_n (pc := 18) X9 dX7_takeTooManyDown_18 rfl (Nat.le_of_ble_eq_true rfl) rfl rfl ?_
    refine a_iload_n (pc := 19) X9 dX7_takeTooManyDown_19 rfl rfl ?_
    refine a_iconst (pc := 20) X9 dX7_takeTooManyDown_20 ?_
    refine a_icmp_eq (pc := 21) (tgt := 56) X9 dX7_takeTooManyDown_21 rfl (hG_1 _ _) (by decide) (fun c => ?_) (fun c => ?_)
    · have c_2 := c
      have h := h.1 c_2
      refine a_iinc (pc := 56) X9 dX7_takeTooManyDown_56 rfl (Nat.le_of_ble_eq_true rfl) rfl rfl ?_
      refine a_goto (pc := 59) (tgt := 5) X9 dX7_takeTooManyDown_59 rfl ?_
      have q_1 : inR (x2_1) := h_x2_1
      have g_2 : inR ((x2_1 + (-1))) := ⟨by omega, by omega⟩
      refine AW.drop 3 rfl ?_
      exact hk_1 _ _ _ h h_x1_1 g_2 hG_1
    · have c_2 := c
      have h := h.2 c_2
      refine a_aload_n (pc := 24) X9 dX7_takeTooManyDown_24 rfl rfl ?_
      refine a_getR (pc := 25) X9 (q := (a0 + 14)) okX7 5 rfl wF_X7_32 (is7 ha0 hnn) (rf7_5 _ ha0) dX7_takeTooManyDown_25 ?_
      refine a_getR (pc := 28) X9 (q := (a0 + 19)) okX0 5 rfl wF_X7_92 (is0 (su7_5 _ ha0) hnn) (rf0_5 _ (su7_5 _ ha0)) dX7_takeTooManyDown_28 ?_
      refine a_iload_n (pc := 31) X9 dX7_takeTooManyDown_31 rfl rfl ?_
      obtain ⟨g_3, h⟩ := h
      refine b_iald (pc := 32) X9 (ar0_5 (su7_5 _ ha0) hnn) (Nat.le_of_ble_eq_true rfl) g_3 dX7_takeTooManyDown_32 ?_
      refine a_aload_n (pc := 33) X9 dX7_takeTooManyDown_33 rfl rfl ?_
      refine a_getR (pc := 34) X9 (q := (a0 + 2)) okX7 3 rfl wF_X7_18 (is7 ha0 hnn) (rf7_3 _ ha0) dX7_takeTooManyDown_34 ?_
      refine a_getR (pc := 37) X9 (q := (a0 + 5)) okX8 4 rfl wF_X7_95 (is8 (su7_3 _ ha0) hnn) (rf8_4 _ (su7_3 _ ha0)) dX7_takeTooManyDown_37 ?_
      refine a_iload_n (pc := 40) X9 dX7_takeTooManyDown_40 rfl rfl ?_
      refine b_iald (pc := 41) X9 (ar8_4 (su7_3 _ ha0) hnn) (Nat.le_of_ble_eq_true rfl) g_3 dX7_takeTooManyDown_41 ?_
      refine a_icmp_le (pc := 42) (tgt := 56) X9 dX7_takeTooManyDown_42 rfl (hG_1 _ _) (hG_1 _ _) (fun c => ?_) (fun c => ?_)
      · have c_3 := c
        have h := h.1 c_3
        refine a_iinc (pc := 56) X9 dX7_takeTooManyDown_56 rfl (Nat.le_of_ble_eq_true rfl) rfl rfl ?_
        refine a_goto (pc := 59) (tgt := 5) X9 dX7_takeTooManyDown_59 rfl ?_
        have q_2 : inR (x2_1) := h_x2_1
        have g_4 : inR ((x2_1 + (-1))) := ⟨by omega, by omega⟩
        refine AW.drop 3 rfl ?_
        exact hk_1 _ _ _ h h_x1_1 g_4 hG_1
      · have c_3 := c
        have h := h.2 c_3
        refine a_aload_n (pc := 45) X9 dX7_takeTooManyDown_45 rfl rfl ?_
        refine a_getR (pc := 46) X9 (q := (a0 + 14)) okX7 5 rfl wF_X7_32 (is7 ha0 hnn) (rf7_5 _ ha0) dX7_takeTooManyDown_46 ?_
        refine a_iload_n (pc := 49) X9 dX7_takeTooManyDown_49 rfl rfl ?_
        refine a_callV (pc := 50) X9 E (m_X0_takeCardDown (su7_5 _ ha0) h_x2_1 hnn h) okX0 (is0 (su7_5 _ ha0) hnn) wM_X7_98 w_instanceMethod_X0_takeCardDown w_selects_X0_takeCardDown w_initialized_RX0 w_code_X0_takeCardDown cp_X0_takeCardDown pn_X0_takeCardDown rfl (Nat.le_of_ble_eq_true rfl) ⟨Nat.le_of_ble_eq_true rfl, Nat.le_of_ble_eq_true rfl⟩ ⟨Nat.le_of_ble_eq_true rfl, Nat.le_of_ble_eq_true rfl⟩ dX7_takeTooManyDown_50 (fun _ _ q => False.elim q) (kV (fun G_2 h hG_2 => ?_))
        refine a_iinc (pc := 53) X9 dX7_takeTooManyDown_53 rfl (Nat.le_of_ble_eq_true rfl) rfl rfl ?_
        refine a_iinc (pc := 56) X9 dX7_takeTooManyDown_56 rfl (Nat.le_of_ble_eq_true rfl) rfl rfl ?_
        refine a_goto (pc := 59) (tgt := 5) X9 dX7_takeTooManyDown_59 rfl ?_
        obtain ⟨g_5, h⟩ := h
        have q_3 : inR (x2_1) := h_x2_1
        have g_6 : inR ((x2_1 + (-1))) := ⟨by omega, by omega⟩
        refine AW.drop 3 rfl ?_
        exact hk_1 _ _ _ h g_5 g_6 hG_2
set_option maxHeartbeats 4000000 in
set_option maxRecDepth 100000 in
theorem m_X9_hold {nn : Nat}  {G : GH} {Q : Int → GH → Prop}  (hnn : 272 ≤ nn) (h : f_X9_hold G Q) : Mt yX9_hold cX9_hold 1 (some .int) 4 103 0 0 [vr 0] (SF nn) G (fun v S' G' => S' = SF nn ∧ qI Q v S' G') (fun E S' G' => S' = SF nn ∧ False) := by
  refine Mt.of (l0 := [some (vr 0)]) (by decide) (Nat.le_of_ble_eq_true rfl) rfl ?_
  intro κ δ ρ0 X9 E hG
  replace X9 : CX κ δ RX9 cX9_hold 1 (some .int) := X9
  refine a_aload_n (pc := 0) X9 dX9_hold_0 rfl rfl ?_
  refine a_getR (pc := 1) X9 (q := 1) okX9 0 rfl wF_X9_12 (is9 hnn) rf9_0 dX9_hold_1 ?_
  refine a_getR (pc := 4) X9 (q := 15) okX7 5 rfl wF_X9_138 (is7 su9_0 hnn) (rf7_5 _ su9_0) dX9_hold_4 ?_
  refine a_getI (pc := 7) X9 okX0 0 rfl wF_X9_141 (is0 (su7_5 _ su9_0) hnn) dX9_hold_7 ?_
  refine a_iconst (pc := 10) X9 dX9_hold_10 ?_
  refine a_icmp_ne (pc := 11) (tgt := 17) X9 dX9_hold_11 rfl (hG _ _) (by decide) (fun c => ?_) (fun c => ?_)
  · have c_1 := c
    have h := h.1 c_1
    refine a_aload_n (pc := 17) X9 dX9_hold_17 rfl rfl ?_
    refine a_getR (pc := 18) X9 (q := 44) okX9 3 rfl wF_X9_29 (is9 hnn) rf9_3 dX9_hold_18 ?_
    refine a_aload_n (pc := 21) X9 dX9_hold_21 rfl rfl ?_
    refine a_getR (pc := 22) X9 (q := 1) okX9 0 rfl wF_X9_12 (is9 hnn) rf9_0 dX9_hold_22 ?_
    refine a_callV (pc := 25) X9 E (m_X1_keep su9_0 hnn h) okX1 (is1 hnn) wM_X9_298 w_instanceMethod_X1_keep w_selects_X1_keep w_initialized_RX1 w_code_X1_keep cp_X1_keep pn_X1_keep rfl (Nat.le_of_ble_eq_true rfl) ⟨Nat.le_of_ble_eq_true rfl, Nat.le_of_ble_eq_true rfl⟩ ⟨Nat.le_of_ble_eq_true rfl, Nat.le_of_ble_eq_true rfl⟩ dX9_hold_25 (fun _ _ q => False.elim q) (kV (fun G_1 h hG_1 => ?_))
    refine a_aload_n (pc := 28) X9 dX9_hold_28 rfl rfl ?_
    refine a_getR (pc := 29) X9 (q := 1) okX9 0 rfl wF_X9_12 (is9 hnn) rf9_0 dX9_hold_29 ?_
    refine a_dup (pc := 32) X9 dX9_hold_32 rfl ?_
    refine a_getI (pc := 33) X9 okX7 6 rfl wF_X9_148 (is7 su9_0 hnn) dX9_hold_33 ?_
    refine a_iconst (pc := 36) X9 dX9_hold_36 ?_
    refine a_iadd (pc := 37) X9 dX9_hold_37 ?_
    obtain ⟨g_1, h⟩ := h
    refine a_putI (pc := 38) X9 okX7 6 rfl rfl (v := ((G_1 1 6) + 1)) wF_X9_148 (is7 su9_0 hnn) dX9_hold_38 g_1 (fit_int _) (fun _ => ?_)
    obtain ⟨G_2, eG_2⟩ : ∃ G9, G9 = upG G_1 1 6 ((G_1 1 6) + 1) := ⟨_, rfl⟩
    have hG_2 : GR G_2 := by rw [eG_2]; exact (GR.up hG_1 g_1)
    have h := h G_2 eG_2
    rw [← eG_2]
    refine a_aload_n (pc := 41) X9 dX9_hold_41 rfl rfl ?_
    refine a_getR (pc := 42) X9 (q := 1) okX9 0 rfl wF_X9_12 (is9 hnn) rf9_0 dX9_hold_42 ?_
    refine a_getR (pc := 45) X9 (q := 3) okX7 3 rfl wF_X9_116 (is7 su9_0 hnn) (rf7_3 _ su9_0) dX9_hold_45 ?_
    refine a_callV (pc := 48) X9 E (m_X8_passService (su7_3 _ su9_0) hnn h) okX8 (is8 (su7_3 _ su9_0) hnn) wM_X9_304 w_instanceMethod_X8_passService w_selects_X8_passService w_initialized_RX8 w_code_X8_passService cp_X8_passService pn_X8_passService rfl (Nat.le_of_ble_eq_true rfl) ⟨Nat.le_of_ble_eq_true rfl, Nat.le_of_ble_eq_true rfl⟩ ⟨Nat.le_of_ble_eq_true rfl, Nat.le_of_ble_eq_true rfl⟩ dX9_hold_48 (fun _ _ q => False.elim q) (kV (fun G_3 h hG_3 => ?_))
    refine a_aload_n (pc := 51) X9 dX9_hold_51 rfl rfl ?_
    refine a_getR (pc := 52) X9 (q := 1) okX9 0 rfl wF_X9_12 (is9 hnn) rf9_0 dX9_hold_52 ?_
    refine a_callV (pc := 55) X9 E (m_X7_takeTooManyDown su9_0 hnn h) okX7 (is7 su9_0 hnn) wM_X9_307 w_instanceMethod_X7_takeTooManyDown w_selects_X7_takeTooManyDown w_initialized_RX7 w_code_X7_takeTooManyDown cp_X7_takeTooManyDown pn_X7_takeTooManyDown rfl (Nat.le_of_ble_eq_true rfl) ⟨Nat.le_of_ble_eq_true rfl, Nat.le_of_ble_eq_true rfl⟩ ⟨Nat.le_of_ble_eq_true rfl, Nat.le_of_ble_eq_true rfl⟩ dX9_hold_55 (fun _ _ q => False.elim q) (kI (fun r_3 G_4 hr_3 h hG_4 => ?_))
    exact a_ireturn (pc := 58) X9 E rfl rfl (Nat.le_of_ble_eq_true rfl) (Nat.le_of_ble_eq_true rfl) dX9_hold_58 ⟨rfl, _, rfl, hr_3, h⟩
  · have c_1 := c
    have h := h.2 c_1
    refine a_bipush (pc := 14) X9 dX9_hold_14 rfl ?_
    exact a_ireturn (pc := 16) X9 E rfl rfl (Nat.le_of_ble_eq_true rfl) (Nat.le_of_ble_eq_true rfl) dX9_hold_16 ⟨rfl, _, rfl, (show inR (-3) by decide), h⟩
set_option maxHeartbeats 4000000 in
set_option maxRecDepth 100000 in
theorem m_X9_clear {nn : Nat}  {G : GH} {Q : Int → GH → Prop}  (hnn : 272 ≤ nn) (h : f_X9_clear G Q) : Mt yX9_clear cX9_clear 2 (some .int) 4 103 0 0 [vr 0] (SF nn) G (fun v S' G' => S' = SF nn ∧ qI Q v S' G') (fun E S' G' => S' = SF nn ∧ False) := by
  refine Mt.of (l0 := [some (vr 0), none]) (by decide) (Nat.le_of_ble_eq_true rfl) rfl ?_
  intro κ δ ρ0 X9 E hG
  replace X9 : CX κ δ RX9 cX9_clear 2 (some .int) := X9
  refine a_aload_n (pc := 0) X9 dX9_clear_0 rfl rfl ?_
  refine a_getR (pc := 1) X9 (q := 44) okX9 3 rfl wF_X9_29 (is9 hnn) rf9_3 dX9_clear_1 ?_
  refine a_aload_n (pc := 4) X9 dX9_clear_4 rfl rfl ?_
  refine a_getR (pc := 5) X9 (q := 1) okX9 0 rfl wF_X9_12 (is9 hnn) rf9_0 dX9_clear_5 ?_
  refine a_callV (pc := 8) X9 E (m_X1_keep su9_0 hnn h) okX1 (is1 hnn) wM_X9_298 w_instanceMethod_X1_keep w_selects_X1_keep w_initialized_RX1 w_code_X1_keep cp_X1_keep pn_X1_keep rfl (Nat.le_of_ble_eq_true rfl) ⟨Nat.le_of_ble_eq_true rfl, Nat.le_of_ble_eq_true rfl⟩ ⟨Nat.le_of_ble_eq_true rfl, Nat.le_of_ble_eq_true rfl⟩ dX9_clear_8 (fun _ _ q => False.elim q) (kV (fun G_1 h hG_1 => ?_))
  refine a_aload_n (pc := 11) X9 dX9_clear_11 rfl rfl ?_
  refine a_getR (pc := 12) X9 (q := 1) okX9 0 rfl wF_X9_12 (is9 hnn) rf9_0 dX9_clear_12 ?_
  refine a_getR (pc := 15) X9 (q := 15) okX7 5 rfl wF_X9_138 (is7 su9_0 hnn) (rf7_5 _ su9_0) dX9_clear_15 ?_
  refine a_callV (pc := 18) X9 E (m_X0_countCards (su7_5 _ su9_0) hnn h) okX0 (is0 (su7_5 _ su9_0) hnn) wM_X9_144 w_instanceMethod_X0_countCards w_selects_X0_countCards w_initialized_RX0 w_code_X0_countCards cp_X0_countCards pn_X0_countCards rfl (Nat.le_of_ble_eq_true rfl) ⟨Nat.le_of_ble_eq_true rfl, Nat.le_of_ble_eq_true rfl⟩ ⟨Nat.le_of_ble_eq_true rfl, Nat.le_of_ble_eq_true rfl⟩ dX9_clear_18 (fun _ _ q => False.elim q) (kIp (fun r_2 hr_2 h => ?_))
  refine a_istore_n (pc := 21) X9 dX9_clear_21 rfl (Nat.le_of_ble_eq_true rfl) rfl rfl ?_
  refine a_aload_n (pc := 22) X9 dX9_clear_22 rfl rfl ?_
  refine a_getR (pc := 23) X9 (q := 1) okX9 0 rfl wF_X9_12 (is9 hnn) rf9_0 dX9_clear_23 ?_
  refine a_getR (pc := 26) X9 (q := 15) okX7 5 rfl wF_X9_138 (is7 su9_0 hnn) (rf7_5 _ su9_0) dX9_clear_26 ?_
  refine a_callV (pc := 29) X9 E (m_X0_takeAllDown (su7_5 _ su9_0) hnn h) okX0 (is0 (su7_5 _ su9_0) hnn) wM_X9_310 w_instanceMethod_X0_takeAllDown w_selects_X0_takeAllDown w_initialized_RX0 w_code_X0_takeAllDown cp_X0_takeAllDown pn_X0_takeAllDown rfl (Nat.le_of_ble_eq_true rfl) ⟨Nat.le_of_ble_eq_true rfl, Nat.le_of_ble_eq_true rfl⟩ ⟨Nat.le_of_ble_eq_true rfl, Nat.le_of_ble_eq_true rfl⟩ dX9_clear_29 (fun _ _ q => False.elim q) (kV (fun G_2 h hG_2 => ?_))
  refine a_iload_n (pc := 32) X9 dX9_clear_32 rfl rfl ?_
  exact a_ireturn (pc := 33) X9 E rfl rfl (Nat.le_of_ble_eq_true rfl) (Nat.le_of_ble_eq_true rfl) dX9_clear_33 ⟨rfl, _, rfl, hr_2, h⟩
set_option maxHeartbeats 4000000 in
set_option maxRecDepth 100000 in
theorem m_X9_needMany {nn : Nat} {i0 : Int} {G : GH} {Q : Prop} (hi0 : inR i0) (hnn : 272 ≤ nn) (h : f_X9_needMany i0 Q (fun _ => False)) : Mt yX9_needMany cX9_needMany 1 none 1 22 0 0 [vi i0] (SF nn) G (fun v S' G' => S' = SF nn ∧ qV (fun G9 => G9 = G ∧ Q) v S' G') (fun E S' G' => S' = SF nn ∧ False) := by
  refine Mt.of (l0 := [some (vi i0)]) (by decide) (Nat.le_of_ble_eq_true rfl) rfl ?_
  intro κ δ ρ0 X9 E hG
  replace X9 : CX κ δ RX9 cX9_needMany 1 none := X9
  refine a_iload_n (pc := 0) X9 dX9_needMany_0 rfl rfl ?_
  refine a_iconst (pc := 1) X9 dX9_needMany_1 ?_
  refine a_bipush (pc := 2) X9 dX9_needMany_2 rfl ?_
  refine a_callS (pc := 4) X9 E (m_X9_within hi0 (show inR 1 by decide) (show inR 60 by decide) hnn h) wM_X9_199 w_static_X9_within w_initialized_RX9 w_code_X9_within cp_X9_within pn_X9_within rfl (Nat.le_of_ble_eq_true rfl) ⟨Nat.le_of_ble_eq_true rfl, Nat.le_of_ble_eq_true rfl⟩ ⟨Nat.le_of_ble_eq_true rfl, Nat.le_of_ble_eq_true rfl⟩ dX9_needMany_4 (fun _ _ q => False.elim q) (kZp (fun r_1 hr_1 h => ?_))
  refine a_callS (pc := 7) X9 E (m_X9_needArgument (bool_inR hr_1) hnn h) wM_X9_228 w_static_X9_needArgument w_initialized_RX9 w_code_X9_needArgument cp_X9_needArgument pn_X9_needArgument rfl (Nat.le_of_ble_eq_true rfl) ⟨Nat.le_of_ble_eq_true rfl, Nat.le_of_ble_eq_true rfl⟩ ⟨Nat.le_of_ble_eq_true rfl, Nat.le_of_ble_eq_true rfl⟩ dX9_needMany_7 (fun _ _ q => False.elim q) (kVp (fun h => ?_))
  exact a_return (pc := 10) X9 E (Nat.le_of_ble_eq_true rfl) (Nat.le_of_ble_eq_true rfl) dX9_needMany_10 ⟨rfl, rfl, rfl, h⟩
set_option maxHeartbeats 4000000 in
set_option maxRecDepth 100000 in
theorem m_X8_makeLoan {nn : Nat} {a0 : Nat} {i1 : Int} {i2 : Int} {G : GH} {Q : Int → GH → Prop} (ha0 : a0 ∈ L8) (hi1 : inR i1) (hi2 : inR i2) (hnn : 272 ≤ nn) (h : f_X8_makeLoan a0 i1 i2 G Q) : Mt yX8_makeLoan cX8_makeLoan 3 (some .int) 0 0 0 0 [vr a0, vi i1, vi i2] (SF nn) G (fun v S' G' => S' = SF nn ∧ qI Q v S' G') (fun E S' G' => S' = SF nn ∧ False) := by
  refine Mt.of (l0 := [some (vr a0), some (vi i1), some (vi i2)]) (by decide) (Nat.le_of_ble_eq_true rfl) rfl ?_
  intro κ δ ρ0 X9 E hG
  replace X9 : CX κ δ RX8 cX8_makeLoan 3 (some .int) := X9
  refine a_aload_n (pc := 0) X9 dX8_makeLoan_0 rfl rfl ?_
  refine a_getR (pc := 1) X9 (q := (a0 + 5)) okX8 7 rfl wF_X8_24 (is8 ha0 hnn) (rf8_7 _ ha0) dX8_makeLoan_1 ?_
  refine a_iload_n (pc := 4) X9 dX8_makeLoan_4 rfl rfl ?_
  refine a_dup2 (pc := 5) X9 dX8_makeLoan_5 rfl rfl ?_
  obtain ⟨g_1, h⟩ := h
  refine b_iald (pc := 6) X9 (ar8_7 ha0 hnn) (Nat.le_of_ble_eq_true rfl) g_1 dX8_makeLoan_6 ?_
  refine a_iload_n (pc := 7) X9 dX8_makeLoan_7 rfl rfl ?_
  refine a_isub (pc := 8) X9 dX8_makeLoan_8 ?_
  obtain ⟨g_2, h⟩ := h
  refine b_iast (pc := 9) X9 (i := i1) (v := ((G (a0 + 5) (i1).toNat) - i2)) (ar8_7 ha0 hnn) (Nat.le_of_ble_eq_true rfl) g_1 g_2 dX8_makeLoan_9 ?_
  obtain ⟨G_1, eG_1⟩ : ∃ G9, G9 = upG G (a0 + 5) (i1).toNat ((G (a0 + 5) (i1).toNat) - i2) := ⟨_, rfl⟩
  have hG_1 : GR G_1 := by rw [eG_1]; exact (GR.up hG g_2)
  have h := h G_1 eG_1
  rw [← eG_1]
  refine a_aload_n (pc := 10) X9 dX8_makeLoan_10 rfl rfl ?_
  refine a_getR (pc := 11) X9 (q := (a0 + 3)) okX8 4 rfl wF_X8_18 (is8 ha0 hnn) (rf8_4 _ ha0) dX8_makeLoan_11 ?_
  refine a_bipush (pc := 14) X9 dX8_makeLoan_14 rfl ?_
  refine a_iload_n (pc := 16) X9 dX8_makeLoan_16 rfl rfl ?_
  refine a_iadd (pc := 17) X9 dX8_makeLoan_17 ?_
  refine a_dup2 (pc := 18) X9 dX8_makeLoan_18 rfl rfl ?_
  obtain ⟨g_3, h⟩ := h
  refine b_iald (pc := 19) X9 (ar8_4 ha0 hnn) (Nat.le_of_ble_eq_true rfl) g_3 dX8_makeLoan_19 ?_
  refine a_iload_n (pc := 20) X9 dX8_makeLoan_20 rfl rfl ?_
  refine a_iadd (pc := 21) X9 dX8_makeLoan_21 ?_
  obtain ⟨g_4, h⟩ := h
  refine b_iast (pc := 22) X9 (i := (12 + i1)) (v := ((G_1 (a0 + 3) ((12 + i1)).toNat) + i2)) (ar8_4 ha0 hnn) (Nat.le_of_ble_eq_true rfl) g_3 g_4 dX8_makeLoan_22 ?_
  obtain ⟨G_2, eG_2⟩ : ∃ G9, G9 = upG G_1 (a0 + 3) ((12 + i1)).toNat ((G_1 (a0 + 3) ((12 + i1)).toNat) + i2) := ⟨_, rfl⟩
  have hG_2 : GR G_2 := by rw [eG_2]; exact (GR.up hG_1 g_4)
  have h := h G_2 eG_2
  rw [← eG_2]
  refine a_aload_n (pc := 23) X9 dX8_makeLoan_23 rfl rfl ?_
  refine a_getR (pc := 24) X9 (q := (a0 + 6)) okX8 9 rfl wF_X8_27 (is8 ha0 hnn) (rf8_9 _ ha0) dX8_makeLoan_24 ?_
  refine a_aload_n (pc := 27) X9 dX8_makeLoan_27 rfl rfl ?_
  refine a_getI (pc := 28) X9 okX8 8 rfl wF_X8_47 (is8 ha0 hnn) dX8_makeLoan_28 ?_
  refine a_iload_n (pc := 31) X9 dX8_makeLoan_31 rfl rfl ?_
  obtain ⟨g_5, h⟩ := h
  refine b_iast (pc := 32) X9 (i := (G_2 a0 8)) (v := i1) (ar8_9 ha0 hnn) (Nat.le_of_ble_eq_true rfl) g_5 hi1 dX8_makeLoan_32 ?_
  obtain ⟨G_3, eG_3⟩ : ∃ G9, G9 = upG G_2 (a0 + 6) ((G_2 a0 8)).toNat i1 := ⟨_, rfl⟩
  have hG_3 : GR G_3 := by rw [eG_3]; exact (GR.up hG_2 hi1)
  have h := h G_3 eG_3
  rw [← eG_3]
  refine a_aload_n (pc := 33) X9 dX8_makeLoan_33 rfl rfl ?_
  refine a_getR (pc := 34) X9 (q := (a0 + 7)) okX8 10 rfl wF_X8_30 (is8 ha0 hnn) (rf8_10 _ ha0) dX8_makeLoan_34 ?_
  refine a_aload_n (pc := 37) X9 dX8_makeLoan_37 rfl rfl ?_
  refine a_getI (pc := 38) X9 okX8 8 rfl wF_X8_47 (is8 ha0 hnn) dX8_makeLoan_38 ?_
  refine a_iload_n (pc := 41) X9 dX8_makeLoan_41 rfl rfl ?_
  obtain ⟨g_6, h⟩ := h
  refine b_iast (pc := 42) X9 (i := (G_3 a0 8)) (v := i2) (ar8_10 ha0 hnn) (Nat.le_of_ble_eq_true rfl) g_6 hi2 dX8_makeLoan_42 ?_
  obtain ⟨G_4, eG_4⟩ : ∃ G9, G9 = upG G_3 (a0 + 7) ((G_3 a0 8)).toNat i2 := ⟨_, rfl⟩
  have hG_4 : GR G_4 := by rw [eG_4]; exact (GR.up hG_3 hi2)
  have h := h G_4 eG_4
  rw [← eG_4]
  refine a_aload_n (pc := 43) X9 dX8_makeLoan_43 rfl rfl ?_
  refine a_getR (pc := 44) X9 (q := (a0 + 8)) okX8 11 rfl wF_X8_33 (is8 ha0 hnn) (rf8_11 _ ha0) dX8_makeLoan_44 ?_
  refine a_aload_n (pc := 47) X9 dX8_makeLoan_47 rfl rfl ?_
  refine a_getI (pc := 48) X9 okX8 8 rfl wF_X8_47 (is8 ha0 hnn) dX8_makeLoan_48 ?_
  refine a_aload_n (pc := 51) X9 dX8_makeLoan_51 rfl rfl ?_
  refine a_getR (pc := 52) X9 (q := (a0 + 4)) okX8 6 rfl wF_X8_21 (is8 ha0 hnn) (rf8_6 _ ha0) dX8_makeLoan_52 ?_
  refine a_iload_n (pc := 55) X9 dX8_makeLoan_55 rfl rfl ?_
  refine a_bipush (pc := 56) X9 dX8_makeLoan_56 rfl ?_
  obtain ⟨g_7, h⟩ := h
  refine a_idiv (pc := 58) X9 dX8_makeLoan_58 ⟨g_7, hi1.2⟩ ⟨(by decide), (by decide)⟩ ?_
  obtain ⟨g_8, h⟩ := h
  refine b_iald (pc := 59) X9 (ar8_6 ha0 hnn) (Nat.le_of_ble_eq_true rfl) g_8 dX8_makeLoan_59 ?_
  obtain ⟨g_9, h⟩ := h
  refine b_iast (pc := 60) X9 (i := (G_4 a0 8)) (v := (G_4 (a0 + 4) ((i1 / 10)).toNat)) (ar8_11 ha0 hnn) (Nat.le_of_ble_eq_true rfl) g_9 (hG_4 _ _) dX8_makeLoan_60 ?_
  obtain ⟨G_5, eG_5⟩ : ∃ G9, G9 = upG G_4 (a0 + 8) ((G_4 a0 8)).toNat (G_4 (a0 + 4) ((i1 / 10)).toNat) := ⟨_, rfl⟩
  have hG_5 : GR G_5 := by rw [eG_5]; exact (GR.up hG_4 (hG_4 _ _))
  have h := h G_5 eG_5
  rw [← eG_5]
  refine a_aload_n (pc := 61) X9 dX8_makeLoan_61 rfl rfl ?_
  refine a_dup (pc := 62) X9 dX8_makeLoan_62 rfl ?_
  refine a_getI (pc := 63) X9 okX8 8 rfl wF_X8_47 (is8 ha0 hnn) dX8_makeLoan_63 ?_
  refine a_iconst (pc := 66) X9 dX8_makeLoan_66 ?_
  refine a_iadd (pc := 67) X9 dX8_makeLoan_67 ?_
  obtain ⟨g_10, h⟩ := h
  refine a_putI (pc := 68) X9 okX8 8 rfl rfl (v := ((G_5 a0 8) + 1)) wF_X8_47 (is8 ha0 hnn) dX8_makeLoan_68 g_10 (fit_int _) (fun _ => ?_)
  obtain ⟨G_6, eG_6⟩ : ∃ G9, G9 = upG G_5 a0 8 ((G_5 a0 8) + 1) := ⟨_, rfl⟩
  have hG_6 : GR G_6 := by rw [eG_6]; exact (GR.up hG_5 g_10)
  have h := h G_6 eG_6
  rw [← eG_6]
  refine a_aload_n (pc := 71) X9 dX8_makeLoan_71 rfl rfl ?_
  refine a_getI (pc := 72) X9 okX8 8 rfl wF_X8_47 (is8 ha0 hnn) dX8_makeLoan_72 ?_
  refine a_iconst (pc := 75) X9 dX8_makeLoan_75 ?_
  refine a_isub (pc := 76) X9 dX8_makeLoan_76 ?_
  obtain ⟨g_11, h⟩ := h
  exact a_ireturn (pc := 77) X9 E rfl rfl (Nat.le_of_ble_eq_true rfl) (Nat.le_of_ble_eq_true rfl) dX8_makeLoan_77 ⟨rfl, _, rfl, g_11, h⟩
set_option maxHeartbeats 4000000 in
set_option maxRecDepth 100000 in
theorem m_X9_borrow {nn : Nat} {i1 : Int} {i2 : Int} {i3 : Int} {G : GH} {Q : Int → GH → Prop} (hi1 : inR i1) (hi2 : inR i2) (hi3 : inR i3) (hnn : 272 ≤ nn) (h : f_X9_borrow i1 i2 i3 G Q (fun _ _ => False)) : Mt yX9_borrow cX9_borrow 5 (some .int) 4 103 0 0 [vr 0, vi i1, vi i2, vi i3] (SF nn) G (fun v S' G' => S' = SF nn ∧ qI Q v S' G') (fun E S' G' => S' = SF nn ∧ False) := by
  refine Mt.of (l0 := [some (vr 0), some (vi i1), some (vi i2), some (vi i3), none]) (by decide) (Nat.le_of_ble_eq_true rfl) rfl ?_
  intro κ δ ρ0 X9 E hG
  replace X9 : CX κ δ RX9 cX9_borrow 5 (some .int) := X9
  refine a_aload_n (pc := 0) X9 dX9_borrow_0 rfl rfl ?_
  refine a_iload_n (pc := 1) X9 dX9_borrow_1 rfl rfl ?_
  refine a_callV (pc := 2) X9 E (m_X9_needFriend hi1 hnn h) okX9 (is9 hnn) wM_X9_193 w_instanceMethod_X9_needFriend w_selects_X9_needFriend w_initialized_RX9 w_code_X9_needFriend cp_X9_needFriend pn_X9_needFriend rfl (Nat.le_of_ble_eq_true rfl) ⟨Nat.le_of_ble_eq_true rfl, Nat.le_of_ble_eq_true rfl⟩ ⟨Nat.le_of_ble_eq_true rfl, Nat.le_of_ble_eq_true rfl⟩ dX9_borrow_2 (fun _ _ q => False.elim q) (kVp (fun h => ?_))
  refine a_iload_n (pc := 5) X9 dX9_borrow_5 rfl rfl ?_
  refine a_callS (pc := 6) X9 E (m_X9_needDigit hi2 hnn h) wM_X9_185 w_static_X9_needDigit w_initialized_RX9 w_code_X9_needDigit cp_X9_needDigit pn_X9_needDigit rfl (Nat.le_of_ble_eq_true rfl) ⟨Nat.le_of_ble_eq_true rfl, Nat.le_of_ble_eq_true rfl⟩ ⟨Nat.le_of_ble_eq_true rfl, Nat.le_of_ble_eq_true rfl⟩ dX9_borrow_6 (fun _ _ q => False.elim q) (kVp (fun h => ?_))
  refine a_iload_n (pc := 9) X9 dX9_borrow_9 rfl rfl ?_
  refine a_callS (pc := 10) X9 E (m_X9_needMany hi3 hnn h) wM_X9_313 w_static_X9_needMany w_initialized_RX9 w_code_X9_needMany cp_X9_needMany pn_X9_needMany rfl (Nat.le_of_ble_eq_true rfl) ⟨Nat.le_of_ble_eq_true rfl, Nat.le_of_ble_eq_true rfl⟩ ⟨Nat.le_of_ble_eq_true rfl, Nat.le_of_ble_eq_true rfl⟩ dX9_borrow_10 (fun _ _ q => False.elim q) (kVp (fun h => ?_))
  refine a_iload_n (pc := 13) X9 dX9_borrow_13 rfl rfl ?_
  refine a_bipush (pc := 14) X9 dX9_borrow_14 rfl ?_
  refine a_imul (pc := 16) X9 dX9_borrow_16 ?_
  refine a_iload_n (pc := 17) X9 dX9_borrow_17 rfl rfl ?_
  refine a_iadd (pc := 18) X9 dX9_borrow_18 ?_
  refine a_istore (pc := 19) X9 dX9_borrow_19 (Nat.le_of_ble_eq_true rfl) rfl rfl ?_
  refine a_iload_n (pc := 21) X9 dX9_borrow_21 rfl rfl ?_
  refine a_aload_n (pc := 22) X9 dX9_borrow_22 rfl rfl ?_
  refine a_getR (pc := 23) X9 (q := 1) okX9 0 rfl wF_X9_12 (is9 hnn) rf9_0 dX9_borrow_23 ?_
  refine a_getR (pc := 26) X9 (q := 3) okX7 3 rfl wF_X9_116 (is7 su9_0 hnn) (rf7_3 _ su9_0) dX9_borrow_26 ?_
  refine a_getR (pc := 29) X9 (q := 8) okX8 7 rfl wF_X9_196 (is8 (su7_3 _ su9_0) hnn) (rf8_7 _ (su7_3 _ su9_0)) dX9_borrow_29 ?_
  refine a_iload (pc := 32) X9 dX9_borrow_32 rfl ?_
  obtain ⟨g_1, h⟩ := h
  refine b_iald (pc := 34) X9 (ar8_7 (su7_3 _ su9_0) hnn) (Nat.le_of_ble_eq_true rfl) g_1 dX9_borrow_34 ?_
  refine a_icmp_le (pc := 35) (tgt := 41) X9 dX9_borrow_35 rfl hi3 (hG _ _) (fun c => ?_) (fun c => ?_)
  · have c_1 := c
    have h := h.1 c_1
    refine a_aload_n (pc := 41) X9 dX9_borrow_41 rfl rfl ?_
    refine a_getR (pc := 42) X9 (q := 1) okX9 0 rfl wF_X9_12 (is9 hnn) rf9_0 dX9_borrow_42 ?_
    refine a_getR (pc := 45) X9 (q := 3) okX7 3 rfl wF_X9_116 (is7 su9_0 hnn) (rf7_3 _ su9_0) dX9_borrow_45 ?_
    refine a_getI (pc := 48) X9 okX8 8 rfl wF_X9_135 (is8 (su7_3 _ su9_0) hnn) dX9_borrow_48 ?_
    refine a_bipush (pc := 51) X9 dX9_borrow_51 rfl ?_
    refine a_icmp_ne (pc := 53) (tgt := 59) X9 dX9_borrow_53 rfl (hG _ _) (by decide) (fun c => ?_) (fun c => ?_)
    · have c_2 := c
      have h := h.1 c_2
      refine a_aload_n (pc := 59) X9 dX9_borrow_59 rfl rfl ?_
      refine a_getR (pc := 60) X9 (q := 44) okX9 3 rfl wF_X9_29 (is9 hnn) rf9_3 dX9_borrow_60 ?_
      refine a_aload_n (pc := 63) X9 dX9_borrow_63 rfl rfl ?_
      refine a_getR (pc := 64) X9 (q := 1) okX9 0 rfl wF_X9_12 (is9 hnn) rf9_0 dX9_borrow_64 ?_
      refine a_callV (pc := 67) X9 E (m_X1_keep su9_0 hnn h) okX1 (is1 hnn) wM_X9_298 w_instanceMethod_X1_keep w_selects_X1_keep w_initialized_RX1 w_code_X1_keep cp_X1_keep pn_X1_keep rfl (Nat.le_of_ble_eq_true rfl) ⟨Nat.le_of_ble_eq_true rfl, Nat.le_of_ble_eq_true rfl⟩ ⟨Nat.le_of_ble_eq_true rfl, Nat.le_of_ble_eq_true rfl⟩ dX9_borrow_67 (fun _ _ q => False.elim q) (kV (fun G_1 h hG_1 => ?_))
      refine a_aload_n (pc := 70) X9 dX9_borrow_70 rfl rfl ?_
      refine a_getR (pc := 71) X9 (q := 1) okX9 0 rfl wF_X9_12 (is9 hnn) rf9_0 dX9_borrow_71 ?_
      refine a_getR (pc := 74) X9 (q := 3) okX7 3 rfl wF_X9_116 (is7 su9_0 hnn) (rf7_3 _ su9_0) dX9_borrow_74 ?_
      refine a_iload (pc := 77) X9 dX9_borrow_77 rfl ?_
      refine a_iload_n (pc := 79) X9 dX9_borrow_79 rfl rfl ?_
      obtain ⟨g_2, h⟩ := h
      refine a_callV (pc := 80) X9 E (m_X8_makeLoan (su7_3 _ su9_0) g_2 hi3 hnn h) okX8 (is8 (su7_3 _ su9_0) hnn) wM_X9_316 w_instanceMethod_X8_makeLoan w_selects_X8_makeLoan w_initialized_RX8 w_code_X8_makeLoan cp_X8_makeLoan pn_X8_makeLoan rfl (Nat.le_of_ble_eq_true rfl) ⟨Nat.le_of_ble_eq_true rfl, Nat.le_of_ble_eq_true rfl⟩ ⟨Nat.le_of_ble_eq_true rfl, Nat.le_of_ble_eq_true rfl⟩ dX9_borrow_80 (fun _ _ q => False.elim q) (kI (fun r_5 G_2 hr_5 h hG_2 => ?_))
      exact a_ireturn (pc := 83) X9 E rfl rfl (Nat.le_of_ble_eq_true rfl) (Nat.le_of_ble_eq_true rfl) dX9_borrow_83 ⟨rfl, _, rfl, hr_5, h⟩
    · have c_2 := c
      have h := h.2 c_2
      refine a_bipush (pc := 56) X9 dX9_borrow_56 rfl ?_
      exact a_ireturn (pc := 58) X9 E rfl rfl (Nat.le_of_ble_eq_true rfl) (Nat.le_of_ble_eq_true rfl) dX9_borrow_58 ⟨rfl, _, rfl, (show inR (-2) by decide), h⟩
  · have c_1 := c
    have h := h.2 c_1
    refine a_bipush (pc := 38) X9 dX9_borrow_38 rfl ?_
    exact a_ireturn (pc := 40) X9 E rfl rfl (Nat.le_of_ble_eq_true rfl) (Nat.le_of_ble_eq_true rfl) dX9_borrow_40 ⟨rfl, _, rfl, (show inR (-3) by decide), h⟩
set_option maxHeartbeats 4000000 in
set_option maxRecDepth 100000 in
theorem m_X9_giveBack {nn : Nat} {i1 : Int} {G : GH} {Q : Int → GH → Prop} (hi1 : inR i1) (hnn : 272 ≤ nn) (h : f_X9_giveBack i1 G Q (fun _ _ => False)) : Mt yX9_giveBack cX9_giveBack 2 (some .int) 4 103 0 0 [vr 0, vi i1] (SF nn) G (fun v S' G' => S' = SF nn ∧ qI Q v S' G') (fun E S' G' => S' = SF nn ∧ False) := by
  refine Mt.of (l0 := [some (vr 0), some (vi i1)]) (by decide) (Nat.le_of_ble_eq_true rfl) rfl ?_
  intro κ δ ρ0 X9 E hG
  replace X9 : CX κ δ RX9 cX9_giveBack 2 (some .int) := X9
  refine a_iload_n (pc := 0) X9 dX9_giveBack_0 rfl rfl ?_
  refine a_iconst (pc := 1) X9 dX9_giveBack_1 ?_
  refine a_aload_n (pc := 2) X9 dX9_giveBack_2 rfl rfl ?_
  refine a_getR (pc := 3) X9 (q := 1) okX9 0 rfl wF_X9_12 (is9 hnn) rf9_0 dX9_giveBack_3 ?_
  refine a_getR (pc := 6) X9 (q := 3) okX7 3 rfl wF_X9_116 (is7 su9_0 hnn) (rf7_3 _ su9_0) dX9_giveBack_6 ?_
  refine a_getI (pc := 9) X9 okX8 8 rfl wF_X9_135 (is8 (su7_3 _ su9_0) hnn) dX9_giveBack_9 ?_
  refine a_iconst (pc := 12) X9 dX9_giveBack_12 ?_
  refine a_isub (pc := 13) X9 dX9_giveBack_13 ?_
  obtain ⟨g_1, h⟩ := h
  refine a_callS (pc := 14) X9 E (m_X9_within hi1 (show inR 0 by decide) g_1 hnn h) wM_X9_199 w_static_X9_within w_initialized_RX9 w_code_X9_within cp_X9_within pn_X9_within rfl (Nat.le_of_ble_eq_true rfl) ⟨Nat.le_of_ble_eq_true rfl, Nat.le_of_ble_eq_true rfl⟩ ⟨Nat.le_of_ble_eq_true rfl, Nat.le_of_ble_eq_true rfl⟩ dX9_giveBack_14 (fun _ _ q => False.elim q) (kZp (fun r_1 hr_1 h => ?_))
  refine a_callS (pc := 17) X9 E (m_X9_needIndex (bool_inR hr_1) hnn h) wM_X9_203 w_static_X9_needIndex w_initialized_RX9 w_code_X9_needIndex cp_X9_needIndex pn_X9_needIndex rfl (Nat.le_of_ble_eq_true rfl) ⟨Nat.le_of_ble_eq_true rfl, Nat.le_of_ble_eq_true rfl⟩ ⟨Nat.le_of_ble_eq_true rfl, Nat.le_of_ble_eq_true rfl⟩ dX9_giveBack_17 (fun _ _ q => False.elim q) (kVp (fun h => ?_))
  refine a_aload_n (pc := 20) X9 dX9_giveBack_20 rfl rfl ?_
  refine a_getR (pc := 21) X9 (q := 44) okX9 3 rfl wF_X9_29 (is9 hnn) rf9_3 dX9_giveBack_21 ?_
  refine a_aload_n (pc := 24) X9 dX9_giveBack_24 rfl rfl ?_
  refine a_getR (pc := 25) X9 (q := 1) okX9 0 rfl wF_X9_12 (is9 hnn) rf9_0 dX9_giveBack_25 ?_
  refine a_callV (pc := 28) X9 E (m_X1_keep su9_0 hnn h) okX1 (is1 hnn) wM_X9_298 w_instanceMethod_X1_keep w_selects_X1_keep w_initialized_RX1 w_code_X1_keep cp_X1_keep pn_X1_keep rfl (Nat.le_of_ble_eq_true rfl) ⟨Nat.le_of_ble_eq_true rfl, Nat.le_of_ble_eq_true rfl⟩ ⟨Nat.le_of_ble_eq_true rfl, Nat.le_of_ble_eq_true rfl⟩ dX9_giveBack_28 (fun _ _ q => False.elim q) (kV (fun G_1 h hG_1 => ?_))
  refine a_aload_n (pc := 31) X9 dX9_giveBack_31 rfl rfl ?_
  refine a_getR (pc := 32) X9 (q := 1) okX9 0 rfl wF_X9_12 (is9 hnn) rf9_0 dX9_giveBack_32 ?_
  refine a_getR (pc := 35) X9 (q := 3) okX7 3 rfl wF_X9_116 (is7 su9_0 hnn) (rf7_3 _ su9_0) dX9_giveBack_35 ?_
  refine a_iload_n (pc := 38) X9 dX9_giveBack_38 rfl rfl ?_
  refine a_callV (pc := 39) X9 E (m_X8_endLoan (su7_3 _ su9_0) hi1 hnn h) okX8 (is8 (su7_3 _ su9_0) hnn) wM_X9_319 w_instanceMethod_X8_endLoan w_selects_X8_endLoan w_initialized_RX8 w_code_X8_endLoan cp_X8_endLoan pn_X8_endLoan rfl (Nat.le_of_ble_eq_true rfl) ⟨Nat.le_of_ble_eq_true rfl, Nat.le_of_ble_eq_true rfl⟩ ⟨Nat.le_of_ble_eq_true rfl, Nat.le_of_ble_eq_true rfl⟩ dX9_giveBack_39 (fun _ _ q => False.elim q) (kV (fun G_2 h hG_2 => ?_))
  refine a_aload_n (pc := 42) X9 dX9_giveBack_42 rfl rfl ?_
  refine a_getR (pc := 43) X9 (q := 1) okX9 0 rfl wF_X9_12 (is9 hnn) rf9_0 dX9_giveBack_43 ?_
  refine a_callV (pc := 46) X9 E (m_X7_takeTooManyDown su9_0 hnn h) okX7 (is7 su9_0 hnn) wM_X9_307 w_instanceMethod_X7_takeTooManyDown w_selects_X7_takeTooManyDown w_initialized_RX7 w_code_X7_takeTooManyDown cp_X7_takeTooManyDown pn_X7_takeTooManyDown rfl (Nat.le_of_ble_eq_true rfl) ⟨Nat.le_of_ble_eq_true rfl, Nat.le_of_ble_eq_true rfl⟩ ⟨Nat.le_of_ble_eq_true rfl, Nat.le_of_ble_eq_true rfl⟩ dX9_giveBack_46 (fun _ _ q => False.elim q) (kI (fun r_5 G_3 hr_5 h hG_3 => ?_))
  exact a_ireturn (pc := 49) X9 E rfl rfl (Nat.le_of_ble_eq_true rfl) (Nat.le_of_ble_eq_true rfl) dX9_giveBack_49 ⟨rfl, _, rfl, hr_5, h⟩
set_option maxHeartbeats 4000000 in
set_option maxRecDepth 100000 in
theorem m_X9_buy {nn : Nat} {i1 : Int} {i2 : Int} {G : GH} {Q : Int → GH → Prop} (hi1 : inR i1) (hi2 : inR i2) (hnn : 272 ≤ nn) (h : f_X9_buy i1 i2 G Q (fun _ _ => False)) : Mt yX9_buy cX9_buy 3 (some .int) 4 103 0 0 [vr 0, vi i1, vi i2] (SF nn) G (fun v S' G' => S' = SF nn ∧ qI Q v S' G') (fun E S' G' => S' = SF nn ∧ False) := by
  refine Mt.of (l0 := [some (vr 0), some (vi i1), some (vi i2)]) (by decide) (Nat.le_of_ble_eq_true rfl) rfl ?_
  intro κ δ ρ0 X9 E hG
  replace X9 : CX κ δ RX9 cX9_buy 3 (some .int) := X9
  refine a_aload_n (pc := 0) X9 dX9_buy_0 rfl rfl ?_
  refine a_iload_n (pc := 1) X9 dX9_buy_1 rfl rfl ?_
  refine a_callV (pc := 2) X9 E (m_X9_needOwn hi1 hnn h) okX9 (is9 hnn) wM_X9_322 w_instanceMethod_X9_needOwn w_selects_X9_needOwn w_initialized_RX9 w_code_X9_needOwn cp_X9_needOwn pn_X9_needOwn rfl (Nat.le_of_ble_eq_true rfl) ⟨Nat.le_of_ble_eq_true rfl, Nat.le_of_ble_eq_true rfl⟩ ⟨Nat.le_of_ble_eq_true rfl, Nat.le_of_ble_eq_true rfl⟩ dX9_buy_2 (fun _ _ q => False.elim q) (kVp (fun h => ?_))
  refine a_iload_n (pc := 5) X9 dX9_buy_5 rfl rfl ?_
  refine a_callS (pc := 6) X9 E (m_X9_needMany hi2 hnn h) wM_X9_313 w_static_X9_needMany w_initialized_RX9 w_code_X9_needMany cp_X9_needMany pn_X9_needMany rfl (Nat.le_of_ble_eq_true rfl) ⟨Nat.le_of_ble_eq_true rfl, Nat.le_of_ble_eq_true rfl⟩ ⟨Nat.le_of_ble_eq_true rfl, Nat.le_of_ble_eq_true rfl⟩ dX9_buy_6 (fun _ _ q => False.elim q) (kVp (fun h => ?_))
  refine a_aload_n (pc := 9) X9 dX9_buy_9 rfl rfl ?_
  refine a_getR (pc := 10) X9 (q := 1) okX9 0 rfl wF_X9_12 (is9 hnn) rf9_0 dX9_buy_10 ?_
  refine a_getR (pc := 13) X9 (q := 3) okX7 3 rfl wF_X9_116 (is7 su9_0 hnn) (rf7_3 _ su9_0) dX9_buy_13 ?_
  refine a_getR (pc := 16) X9 (q := 6) okX8 4 rfl wF_X9_179 (is8 (su7_3 _ su9_0) hnn) (rf8_4 _ (su7_3 _ su9_0)) dX9_buy_16 ?_
  refine a_iload_n (pc := 19) X9 dX9_buy_19 rfl rfl ?_
  obtain ⟨g_1, h⟩ := h
  refine b_iald (pc := 20) X9 (ar8_4 (su7_3 _ su9_0) hnn) (Nat.le_of_ble_eq_true rfl) g_1 dX9_buy_20 ?_
  refine a_iload_n (pc := 21) X9 dX9_buy_21 rfl rfl ?_
  refine a_iadd (pc := 22) X9 dX9_buy_22 ?_
  refine a_bipush (pc := 23) X9 dX9_buy_23 rfl ?_
  obtain ⟨g_2, h⟩ := h
  refine a_icmp_le (pc := 25) (tgt := 31) X9 dX9_buy_25 rfl g_2 (by decide) (fun c => ?_) (fun c => ?_)
  · have c_1 := c
    have h := h.1 c_1
    refine a_aload_n (pc := 31) X9 dX9_buy_31 rfl rfl ?_
    refine a_getR (pc := 32) X9 (q := 44) okX9 3 rfl wF_X9_29 (is9 hnn) rf9_3 dX9_buy_32 ?_
    refine a_aload_n (pc := 35) X9 dX9_buy_35 rfl rfl ?_
    refine a_getR (pc := 36) X9 (q := 1) okX9 0 rfl wF_X9_12 (is9 hnn) rf9_0 dX9_buy_36 ?_
    refine a_callV (pc := 39) X9 E (m_X1_keep su9_0 hnn h) okX1 (is1 hnn) wM_X9_298 w_instanceMethod_X1_keep w_selects_X1_keep w_initialized_RX1 w_code_X1_keep cp_X1_keep pn_X1_keep rfl (Nat.le_of_ble_eq_true rfl) ⟨Nat.le_of_ble_eq_true rfl, Nat.le_of_ble_eq_true rfl⟩ ⟨Nat.le_of_ble_eq_true rfl, Nat.le_of_ble_eq_true rfl⟩ dX9_buy_39 (fun _ _ q => False.elim q) (kV (fun G_1 h hG_1 => ?_))
    refine a_aload_n (pc := 42) X9 dX9_buy_42 rfl rfl ?_
    refine a_getR (pc := 43) X9 (q := 1) okX9 0 rfl wF_X9_12 (is9 hnn) rf9_0 dX9_buy_43 ?_
    refine a_getR (pc := 46) X9 (q := 3) okX7 3 rfl wF_X9_116 (is7 su9_0 hnn) (rf7_3 _ su9_0) dX9_buy_46 ?_
    refine a_getR (pc := 49) X9 (q := 6) okX8 4 rfl wF_X9_179 (is8 (su7_3 _ su9_0) hnn) (rf8_4 _ (su7_3 _ su9_0)) dX9_buy_49 ?_
    refine a_iload_n (pc := 52) X9 dX9_buy_52 rfl rfl ?_
    refine a_dup2 (pc := 53) X9 dX9_buy_53 rfl rfl ?_
    refine b_iald (pc := 54) X9 (ar8_4 (su7_3 _ su9_0) hnn) (Nat.le_of_ble_eq_true rfl) g_1 dX9_buy_54 ?_
    refine a_iload_n (pc := 55) X9 dX9_buy_55 rfl rfl ?_
    refine a_iadd (pc := 56) X9 dX9_buy_56 ?_
    obtain ⟨g_3, h⟩ := h
    refine b_iast (pc := 57) X9 (i := i1) (v := ((G_1 6 (i1).toNat) + i2)) (ar8_4 (su7_3 _ su9_0) hnn) (Nat.le_of_ble_eq_true rfl) g_1 g_3 dX9_buy_57 ?_
    obtain ⟨G_2, eG_2⟩ : ∃ G9, G9 = upG G_1 6 (i1).toNat ((G_1 6 (i1).toNat) + i2) := ⟨_, rfl⟩
    have hG_2 : GR G_2 := by rw [eG_2]; exact (GR.up hG_1 g_3)
    have h := h G_2 eG_2
    rw [← eG_2]
    refine a_aload_n (pc := 58) X9 dX9_buy_58 rfl rfl ?_
    refine a_getR (pc := 59) X9 (q := 1) okX9 0 rfl wF_X9_12 (is9 hnn) rf9_0 dX9_buy_59 ?_
    refine a_getR (pc := 62) X9 (q := 3) okX7 3 rfl wF_X9_116 (is7 su9_0 hnn) (rf7_3 _ su9_0) dX9_buy_62 ?_
    refine a_getR (pc := 65) X9 (q := 6) okX8 4 rfl wF_X9_179 (is8 (su7_3 _ su9_0) hnn) (rf8_4 _ (su7_3 _ su9_0)) dX9_buy_65 ?_
    refine a_iload_n (pc := 68) X9 dX9_buy_68 rfl rfl ?_
    refine b_iald (pc := 69) X9 (ar8_4 (su7_3 _ su9_0) hnn) (Nat.le_of_ble_eq_true rfl) g_1 dX9_buy_69 ?_
    exact a_ireturn (pc := 70) X9 E rfl rfl (Nat.le_of_ble_eq_true rfl) (Nat.le_of_ble_eq_true rfl) dX9_buy_70 ⟨rfl, _, rfl, (hG_2 _ _), h⟩
  · have c_1 := c
    have h := h.2 c_1
    refine a_bipush (pc := 28) X9 dX9_buy_28 rfl ?_
    exact a_ireturn (pc := 30) X9 E rfl rfl (Nat.le_of_ble_eq_true rfl) (Nat.le_of_ble_eq_true rfl) dX9_buy_30 ⟨rfl, _, rfl, (show inR (-2) by decide), h⟩
set_option maxHeartbeats 4000000 in
set_option maxRecDepth 100000 in
theorem m_X9_lose {nn : Nat} {i1 : Int} {i2 : Int} {G : GH} {Q : Int → GH → Prop} (hi1 : inR i1) (hi2 : inR i2) (hnn : 272 ≤ nn) (h : f_X9_lose i1 i2 G Q (fun _ _ => False)) : Mt yX9_lose cX9_lose 3 (some .int) 4 103 0 0 [vr 0, vi i1, vi i2] (SF nn) G (fun v S' G' => S' = SF nn ∧ qI Q v S' G') (fun E S' G' => S' = SF nn ∧ False) := by
  refine Mt.of (l0 := [some (vr 0), some (vi i1), some (vi i2)]) (by decide) (Nat.le_of_ble_eq_true rfl) rfl ?_
  intro κ δ ρ0 X9 E hG
  replace X9 : CX κ δ RX9 cX9_lose 3 (some .int) := X9
  refine a_aload_n (pc := 0) X9 dX9_lose_0 rfl rfl ?_
  refine a_iload_n (pc := 1) X9 dX9_lose_1 rfl rfl ?_
  refine a_callV (pc := 2) X9 E (m_X9_needOwn hi1 hnn h) okX9 (is9 hnn) wM_X9_322 w_instanceMethod_X9_needOwn w_selects_X9_needOwn w_initialized_RX9 w_code_X9_needOwn cp_X9_needOwn pn_X9_needOwn rfl (Nat.le_of_ble_eq_true rfl) ⟨Nat.le_of_ble_eq_true rfl, Nat.le_of_ble_eq_true rfl⟩ ⟨Nat.le_of_ble_eq_true rfl, Nat.le_of_ble_eq_true rfl⟩ dX9_lose_2 (fun _ _ q => False.elim q) (kVp (fun h => ?_))
  refine a_iload_n (pc := 5) X9 dX9_lose_5 rfl rfl ?_
  refine a_callS (pc := 6) X9 E (m_X9_needMany hi2 hnn h) wM_X9_313 w_static_X9_needMany w_initialized_RX9 w_code_X9_needMany cp_X9_needMany pn_X9_needMany rfl (Nat.le_of_ble_eq_true rfl) ⟨Nat.le_of_ble_eq_true rfl, Nat.le_of_ble_eq_true rfl⟩ ⟨Nat.le_of_ble_eq_true rfl, Nat.le_of_ble_eq_true rfl⟩ dX9_lose_6 (fun _ _ q => False.elim q) (kVp (fun h => ?_))
  refine a_aload_n (pc := 9) X9 dX9_lose_9 rfl rfl ?_
  refine a_getR (pc := 10) X9 (q := 1) okX9 0 rfl wF_X9_12 (is9 hnn) rf9_0 dX9_lose_10 ?_
  refine a_getR (pc := 13) X9 (q := 3) okX7 3 rfl wF_X9_116 (is7 su9_0 hnn) (rf7_3 _ su9_0) dX9_lose_13 ?_
  refine a_getR (pc := 16) X9 (q := 6) okX8 4 rfl wF_X9_179 (is8 (su7_3 _ su9_0) hnn) (rf8_4 _ (su7_3 _ su9_0)) dX9_lose_16 ?_
  refine a_iload_n (pc := 19) X9 dX9_lose_19 rfl rfl ?_
  obtain ⟨g_1, h⟩ := h
  refine b_iald (pc := 20) X9 (ar8_4 (su7_3 _ su9_0) hnn) (Nat.le_of_ble_eq_true rfl) g_1 dX9_lose_20 ?_
  refine a_iload_n (pc := 21) X9 dX9_lose_21 rfl rfl ?_
  refine a_icmp_ge (pc := 22) (tgt := 28) X9 dX9_lose_22 rfl (hG _ _) hi2 (fun c => ?_) (fun c => ?_)
  · have c_1 := c
    have h := h.1 c_1
    refine a_aload_n (pc := 28) X9 dX9_lose_28 rfl rfl ?_
    refine a_getR (pc := 29) X9 (q := 44) okX9 3 rfl wF_X9_29 (is9 hnn) rf9_3 dX9_lose_29 ?_
    refine a_aload_n (pc := 32) X9 dX9_lose_32 rfl rfl ?_
    refine a_getR (pc := 33) X9 (q := 1) okX9 0 rfl wF_X9_12 (is9 hnn) rf9_0 dX9_lose_33 ?_
    refine a_callV (pc := 36) X9 E (m_X1_keep su9_0 hnn h) okX1 (is1 hnn) wM_X9_298 w_instanceMethod_X1_keep w_selects_X1_keep w_initialized_RX1 w_code_X1_keep cp_X1_keep pn_X1_keep rfl (Nat.le_of_ble_eq_true rfl) ⟨Nat.le_of_ble_eq_true rfl, Nat.le_of_ble_eq_true rfl⟩ ⟨Nat.le_of_ble_eq_true rfl, Nat.le_of_ble_eq_true rfl⟩ dX9_lose_36 (fun _ _ q => False.elim q) (kV (fun G_1 h hG_1 => ?_))
    refine a_aload_n (pc := 39) X9 dX9_lose_39 rfl rfl ?_
    refine a_getR (pc := 40) X9 (q := 1) okX9 0 rfl wF_X9_12 (is9 hnn) rf9_0 dX9_lose_40 ?_
    refine a_getR (pc := 43) X9 (q := 3) okX7 3 rfl wF_X9_116 (is7 su9_0 hnn) (rf7_3 _ su9_0) dX9_lose_43 ?_
    refine a_getR (pc := 46) X9 (q := 6) okX8 4 rfl wF_X9_179 (is8 (su7_3 _ su9_0) hnn) (rf8_4 _ (su7_3 _ su9_0)) dX9_lose_46 ?_
    refine a_iload_n (pc := 49) X9 dX9_lose_49 rfl rfl ?_
    refine a_dup2 (pc := 50) X9 dX9_lose_50 rfl rfl ?_
    refine b_iald (pc := 51) X9 (ar8_4 (su7_3 _ su9_0) hnn) (Nat.le_of_ble_eq_true rfl) g_1 dX9_lose_51 ?_
    refine a_iload_n (pc := 52) X9 dX9_lose_52 rfl rfl ?_
    refine a_isub (pc := 53) X9 dX9_lose_53 ?_
    obtain ⟨g_2, h⟩ := h
    refine b_iast (pc := 54) X9 (i := i1) (v := ((G_1 6 (i1).toNat) - i2)) (ar8_4 (su7_3 _ su9_0) hnn) (Nat.le_of_ble_eq_true rfl) g_1 g_2 dX9_lose_54 ?_
    obtain ⟨G_2, eG_2⟩ : ∃ G9, G9 = upG G_1 6 (i1).toNat ((G_1 6 (i1).toNat) - i2) := ⟨_, rfl⟩
    have hG_2 : GR G_2 := by rw [eG_2]; exact (GR.up hG_1 g_2)
    have h := h G_2 eG_2
    rw [← eG_2]
    refine a_aload_n (pc := 55) X9 dX9_lose_55 rfl rfl ?_
    refine a_getR (pc := 56) X9 (q := 1) okX9 0 rfl wF_X9_12 (is9 hnn) rf9_0 dX9_lose_56 ?_
    refine a_callV (pc := 59) X9 E (m_X7_takeTooManyDown su9_0 hnn h) okX7 (is7 su9_0 hnn) wM_X9_307 w_instanceMethod_X7_takeTooManyDown w_selects_X7_takeTooManyDown w_initialized_RX7 w_code_X7_takeTooManyDown cp_X7_takeTooManyDown pn_X7_takeTooManyDown rfl (Nat.le_of_ble_eq_true rfl) ⟨Nat.le_of_ble_eq_true rfl, Nat.le_of_ble_eq_true rfl⟩ ⟨Nat.le_of_ble_eq_true rfl, Nat.le_of_ble_eq_true rfl⟩ dX9_lose_59 (fun _ _ q => False.elim q) (kI (fun r_4 G_3 hr_4 h hG_3 => ?_))
    exact a_ireturn (pc := 62) X9 E rfl rfl (Nat.le_of_ble_eq_true rfl) (Nat.le_of_ble_eq_true rfl) dX9_lose_62 ⟨rfl, _, rfl, hr_4, h⟩
  · have c_1 := c
    have h := h.2 c_1
    refine a_bipush (pc := 25) X9 dX9_lose_25 rfl ?_
    exact a_ireturn (pc := 27) X9 E rfl rfl (Nat.le_of_ble_eq_true rfl) (Nat.le_of_ble_eq_true rfl) dX9_lose_27 ⟨rfl, _, rfl, (show inR (-3) by decide), h⟩
set_option maxHeartbeats 4000000 in
set_option maxRecDepth 100000 in
theorem m_X9_addCard {nn : Nat} {i1 : Int} {i2 : Int} {i3 : Int} {G : GH} {Q : Int → GH → Prop} (hi1 : inR i1) (hi2 : inR i2) (hi3 : inR i3) (hnn : 272 ≤ nn) (h : f_X9_addCard i1 i2 i3 G Q (fun _ _ => False)) : Mt yX9_addCard cX9_addCard 4 (some .int) 4 103 0 0 [vr 0, vi i1, vi i2, vi i3] (SF nn) G (fun v S' G' => S' = SF nn ∧ qI Q v S' G') (fun E S' G' => S' = SF nn ∧ False) := by
  refine Mt.of (l0 := [some (vr 0), some (vi i1), some (vi i2), some (vi i3)]) (by decide) (Nat.le_of_ble_eq_true rfl) rfl ?_
  intro κ δ ρ0 X9 E hG
  replace X9 : CX κ δ RX9 cX9_addCard 4 (some .int) := X9
  refine a_iload_n (pc := 0) X9 dX9_addCard_0 rfl rfl ?_
  refine a_callS (pc := 1) X9 E (m_X9_needDigit hi1 hnn h) wM_X9_185 w_static_X9_needDigit w_initialized_RX9 w_code_X9_needDigit cp_X9_needDigit pn_X9_needDigit rfl (Nat.le_of_ble_eq_true rfl) ⟨Nat.le_of_ble_eq_true rfl, Nat.le_of_ble_eq_true rfl⟩ ⟨Nat.le_of_ble_eq_true rfl, Nat.le_of_ble_eq_true rfl⟩ dX9_addCard_1 (fun _ _ q => False.elim q) (kVp (fun h => ?_))
  refine a_iload_n (pc := 4) X9 dX9_addCard_4 rfl rfl ?_
  refine a_iconst (pc := 5) X9 dX9_addCard_5 ?_
  refine a_bipush (pc := 6) X9 dX9_addCard_6 rfl ?_
  refine a_callS (pc := 8) X9 E (m_X9_within hi2 (show inR (-1) by decide) (show inR 9 by decide) hnn h) wM_X9_199 w_static_X9_within w_initialized_RX9 w_code_X9_within cp_X9_within pn_X9_within rfl (Nat.le_of_ble_eq_true rfl) ⟨Nat.le_of_ble_eq_true rfl, Nat.le_of_ble_eq_true rfl⟩ ⟨Nat.le_of_ble_eq_true rfl, Nat.le_of_ble_eq_true rfl⟩ dX9_addCard_8 (fun _ _ q => False.elim q) (kZp (fun r_2 hr_2 h => ?_))
  refine a_callS (pc := 11) X9 E (m_X9_needArgument (bool_inR hr_2) hnn h) wM_X9_228 w_static_X9_needArgument w_initialized_RX9 w_code_X9_needArgument cp_X9_needArgument pn_X9_needArgument rfl (Nat.le_of_ble_eq_true rfl) ⟨Nat.le_of_ble_eq_true rfl, Nat.le_of_ble_eq_true rfl⟩ ⟨Nat.le_of_ble_eq_true rfl, Nat.le_of_ble_eq_true rfl⟩ dX9_addCard_11 (fun _ _ q => False.elim q) (kVp (fun h => ?_))
  refine a_iload_n (pc := 14) X9 dX9_addCard_14 rfl rfl ?_
  refine a_iconst (pc := 15) X9 dX9_addCard_15 ?_
  refine a_bipush (pc := 16) X9 dX9_addCard_16 rfl ?_
  refine a_callS (pc := 18) X9 E (m_X9_within hi3 (show inR 0 by decide) (show inR 60 by decide) hnn h) wM_X9_199 w_static_X9_within w_initialized_RX9 w_code_X9_within cp_X9_within pn_X9_within rfl (Nat.le_of_ble_eq_true rfl) ⟨Nat.le_of_ble_eq_true rfl, Nat.le_of_ble_eq_true rfl⟩ ⟨Nat.le_of_ble_eq_true rfl, Nat.le_of_ble_eq_true rfl⟩ dX9_addCard_18 (fun _ _ q => False.elim q) (kZp (fun r_4 hr_4 h => ?_))
  refine a_callS (pc := 21) X9 E (m_X9_needArgument (bool_inR hr_4) hnn h) wM_X9_228 w_static_X9_needArgument w_initialized_RX9 w_code_X9_needArgument cp_X9_needArgument pn_X9_needArgument rfl (Nat.le_of_ble_eq_true rfl) ⟨Nat.le_of_ble_eq_true rfl, Nat.le_of_ble_eq_true rfl⟩ ⟨Nat.le_of_ble_eq_true rfl, Nat.le_of_ble_eq_true rfl⟩ dX9_addCard_21 (fun _ _ q => False.elim q) (kVp (fun h => ?_))
  refine a_aload_n (pc := 24) X9 dX9_addCard_24 rfl rfl ?_
  refine a_getR (pc := 25) X9 (q := 1) okX9 0 rfl wF_X9_12 (is9 hnn) rf9_0 dX9_addCard_25 ?_
  refine a_getR (pc := 28) X9 (q := 3) okX7 3 rfl wF_X9_116 (is7 su9_0 hnn) (rf7_3 _ su9_0) dX9_addCard_28 ?_
  refine a_getI (pc := 31) X9 okX8 1 rfl wF_X9_129 (is8 (su7_3 _ su9_0) hnn) dX9_addCard_31 ?_
  refine a_bipush (pc := 34) X9 dX9_addCard_34 rfl ?_
  refine a_icmp_ne (pc := 36) (tgt := 42) X9 dX9_addCard_36 rfl (hG _ _) (by decide) (fun c => ?_) (fun c => ?_)
  · have c_1 := c
    have h := h.1 c_1
    refine a_aload_n (pc := 42) X9 dX9_addCard_42 rfl rfl ?_
    refine a_getR (pc := 43) X9 (q := 44) okX9 3 rfl wF_X9_29 (is9 hnn) rf9_3 dX9_addCard_43 ?_
    refine a_aload_n (pc := 46) X9 dX9_addCard_46 rfl rfl ?_
    refine a_getR (pc := 47) X9 (q := 1) okX9 0 rfl wF_X9_12 (is9 hnn) rf9_0 dX9_addCard_47 ?_
    refine a_callV (pc := 50) X9 E (m_X1_keep su9_0 hnn h) okX1 (is1 hnn) wM_X9_298 w_instanceMethod_X1_keep w_selects_X1_keep w_initialized_RX1 w_code_X1_keep cp_X1_keep pn_X1_keep rfl (Nat.le_of_ble_eq_true rfl) ⟨Nat.le_of_ble_eq_true rfl, Nat.le_of_ble_eq_true rfl⟩ ⟨Nat.le_of_ble_eq_true rfl, Nat.le_of_ble_eq_true rfl⟩ dX9_addCard_50 (fun _ _ q => False.elim q) (kV (fun G_1 h hG_1 => ?_))
    refine a_aload_n (pc := 53) X9 dX9_addCard_53 rfl rfl ?_
    refine a_getR (pc := 54) X9 (q := 1) okX9 0 rfl wF_X9_12 (is9 hnn) rf9_0 dX9_addCard_54 ?_
    refine a_getR (pc := 57) X9 (q := 3) okX7 3 rfl wF_X9_116 (is7 su9_0 hnn) (rf7_3 _ su9_0) dX9_addCard_57 ?_
    refine a_iload_n (pc := 60) X9 dX9_addCard_60 rfl rfl ?_
    refine a_iload_n (pc := 61) X9 dX9_addCard_61 rfl rfl ?_
    refine a_iload_n (pc := 62) X9 dX9_addCard_62 rfl rfl ?_
    refine a_callV (pc := 63) X9 E (m_X8_addSort (su7_3 _ su9_0) hi1 hi2 hi3 hnn h) okX8 (is8 (su7_3 _ su9_0) hnn) wM_X9_325 w_instanceMethod_X8_addSort w_selects_X8_addSort w_initialized_RX8 w_code_X8_addSort cp_X8_addSort pn_X8_addSort rfl (Nat.le_of_ble_eq_true rfl) ⟨Nat.le_of_ble_eq_true rfl, Nat.le_of_ble_eq_true rfl⟩ ⟨Nat.le_of_ble_eq_true rfl, Nat.le_of_ble_eq_true rfl⟩ dX9_addCard_63 (fun _ _ q => False.elim q) (kI (fun r_7 G_2 hr_7 h hG_2 => ?_))
    exact a_ireturn (pc := 66) X9 E rfl rfl (Nat.le_of_ble_eq_true rfl) (Nat.le_of_ble_eq_true rfl) dX9_addCard_66 ⟨rfl, _, rfl, hr_7, h⟩
  · have c_1 := c
    have h := h.2 c_1
    refine a_bipush (pc := 39) X9 dX9_addCard_39 rfl ?_
    exact a_ireturn (pc := 41) X9 E rfl rfl (Nat.le_of_ble_eq_true rfl) (Nat.le_of_ble_eq_true rfl) dX9_addCard_41 ⟨rfl, _, rfl, (show inR (-2) by decide), h⟩
set_option maxHeartbeats 4000000 in
set_option maxRecDepth 100000 in
theorem m_X9_setTurn {nn : Nat} {i1 : Int} {G : GH} {Q : Int → GH → Prop} (hi1 : inR i1) (hnn : 272 ≤ nn) (h : f_X9_setTurn i1 G Q) : Mt yX9_setTurn cX9_setTurn 3 (some .boolean) 4 103 0 0 [vr 0, vi i1] (SF nn) G (fun v S' G' => S' = SF nn ∧ qZ Q v S' G') (fun E S' G' => S' = SF nn ∧ False) := by
  refine Mt.of (l0 := [some (vr 0), some (vi i1), none]) (by decide) (Nat.le_of_ble_eq_true rfl) rfl ?_
  intro κ δ ρ0 X9 E hG
  replace X9 : CX κ δ RX9 cX9_setTurn 3 (some .boolean) := X9
  refine a_aload_n (pc := 0) X9 dX9_setTurn_0 rfl rfl ?_
  refine a_getR (pc := 1) X9 (q := 44) okX9 3 rfl wF_X9_29 (is9 hnn) rf9_3 dX9_setTurn_1 ?_
  refine a_aload_n (pc := 4) X9 dX9_setTurn_4 rfl rfl ?_
  refine a_getR (pc := 5) X9 (q := 1) okX9 0 rfl wF_X9_12 (is9 hnn) rf9_0 dX9_setTurn_5 ?_
  refine a_callV (pc := 8) X9 E (m_X1_keep su9_0 hnn h) okX1 (is1 hnn) wM_X9_298 w_instanceMethod_X1_keep w_selects_X1_keep w_initialized_RX1 w_code_X1_keep cp_X1_keep pn_X1_keep rfl (Nat.le_of_ble_eq_true rfl) ⟨Nat.le_of_ble_eq_true rfl, Nat.le_of_ble_eq_true rfl⟩ ⟨Nat.le_of_ble_eq_true rfl, Nat.le_of_ble_eq_true rfl⟩ dX9_setTurn_8 (fun _ _ q => False.elim q) (kV (fun G_1 h hG_1 => ?_))
  refine a_aload_n (pc := 11) X9 dX9_setTurn_11 rfl rfl ?_
  refine a_getR (pc := 12) X9 (q := 1) okX9 0 rfl wF_X9_12 (is9 hnn) rf9_0 dX9_setTurn_12 ?_
  refine a_getR (pc := 15) X9 (q := 3) okX7 3 rfl wF_X9_116 (is7 su9_0 hnn) (rf7_3 _ su9_0) dX9_setTurn_15 ?_
  refine a_getI (pc := 18) X9 okX8 0 rfl wF_X9_120 (is8 (su7_3 _ su9_0) hnn) dX9_setTurn_18 ?_
  refine a_istore_n (pc := 21) X9 dX9_setTurn_21 rfl (Nat.le_of_ble_eq_true rfl) rfl rfl ?_
  refine a_aload_n (pc := 22) X9 dX9_setTurn_22 rfl rfl ?_
  refine a_getR (pc := 23) X9 (q := 1) okX9 0 rfl wF_X9_12 (is9 hnn) rf9_0 dX9_setTurn_23 ?_
  refine a_getR (pc := 26) X9 (q := 3) okX7 3 rfl wF_X9_116 (is7 su9_0 hnn) (rf7_3 _ su9_0) dX9_setTurn_26 ?_
  refine a_iload_n (pc := 29) X9 dX9_setTurn_29 rfl rfl ?_
  obtain ⟨g_1, h⟩ := h
  refine a_putI (pc := 30) X9 okX8 0 rfl rfl (v := i1) wF_X9_120 (is8 (su7_3 _ su9_0) hnn) dX9_setTurn_30 (bool_inR g_1) (fit_bool g_1) (fun _ => ?_)
  obtain ⟨G_2, eG_2⟩ : ∃ G9, G9 = upG G_1 3 0 i1 := ⟨_, rfl⟩
  have hG_2 : GR G_2 := by rw [eG_2]; exact (GR.up hG_1 (bool_inR g_1))
  have h := h G_2 eG_2
  rw [← eG_2]
  refine a_iload_n (pc := 33) X9 dX9_setTurn_33 rfl rfl ?_
  obtain ⟨g_2, h⟩ := h
  exact a_ireturn (pc := 34) X9 E rfl (fit_bool g_2).1 (Nat.le_of_ble_eq_true rfl) (Nat.le_of_ble_eq_true rfl) dX9_setTurn_34 ⟨rfl, _, rfl, g_2, h⟩
set_option maxHeartbeats 4000000 in
set_option maxRecDepth 100000 in
theorem m_X9_setSplit {nn : Nat} {i1 : Int} {G : GH} {Q : Int → GH → Prop} (hi1 : inR i1) (hnn : 272 ≤ nn) (h : f_X9_setSplit i1 G Q) : Mt yX9_setSplit cX9_setSplit 3 (some .boolean) 4 103 0 0 [vr 0, vi i1] (SF nn) G (fun v S' G' => S' = SF nn ∧ qZ Q v S' G') (fun E S' G' => S' = SF nn ∧ False) := by
  refine Mt.of (l0 := [some (vr 0), some (vi i1), none]) (by decide) (Nat.le_of_ble_eq_true rfl) rfl ?_
  intro κ δ ρ0 X9 E hG
  replace X9 : CX κ δ RX9 cX9_setSplit 3 (some .boolean) := X9
  refine a_aload_n (pc := 0) X9 dX9_setSplit_0 rfl rfl ?_
  refine a_getR (pc := 1) X9 (q := 44) okX9 3 rfl wF_X9_29 (is9 hnn) rf9_3 dX9_setSplit_1 ?_
  refine a_aload_n (pc := 4) X9 dX9_setSplit_4 rfl rfl ?_
  refine a_getR (pc := 5) X9 (q := 1) okX9 0 rfl wF_X9_12 (is9 hnn) rf9_0 dX9_setSplit_5 ?_
  refine a_callV (pc := 8) X9 E (m_X1_keep su9_0 hnn h) okX1 (is1 hnn) wM_X9_298 w_instanceMethod_X1_keep w_selects_X1_keep w_initialized_RX1 w_code_X1_keep cp_X1_keep pn_X1_keep rfl (Nat.le_of_ble_eq_true rfl) ⟨Nat.le_of_ble_eq_true rfl, Nat.le_of_ble_eq_true rfl⟩ ⟨Nat.le_of_ble_eq_true rfl, Nat.le_of_ble_eq_true rfl⟩ dX9_setSplit_8 (fun _ _ q => False.elim q) (kV (fun G_1 h hG_1 => ?_))
  refine a_aload_n (pc := 11) X9 dX9_setSplit_11 rfl rfl ?_
  refine a_getR (pc := 12) X9 (q := 1) okX9 0 rfl wF_X9_12 (is9 hnn) rf9_0 dX9_setSplit_12 ?_
  refine a_getI (pc := 15) X9 okX7 2 rfl wF_X9_126 (is7 su9_0 hnn) dX9_setSplit_15 ?_
  refine a_istore_n (pc := 18) X9 dX9_setSplit_18 rfl (Nat.le_of_ble_eq_true rfl) rfl rfl ?_
  refine a_aload_n (pc := 19) X9 dX9_setSplit_19 rfl rfl ?_
  refine a_getR (pc := 20) X9 (q := 1) okX9 0 rfl wF_X9_12 (is9 hnn) rf9_0 dX9_setSplit_20 ?_
  refine a_iload_n (pc := 23) X9 dX9_setSplit_23 rfl rfl ?_
  obtain ⟨g_1, h⟩ := h
  refine a_putI (pc := 24) X9 okX7 2 rfl rfl (v := i1) wF_X9_126 (is7 su9_0 hnn) dX9_setSplit_24 (bool_inR g_1) (fit_bool g_1) (fun _ => ?_)
  obtain ⟨G_2, eG_2⟩ : ∃ G9, G9 = upG G_1 1 2 i1 := ⟨_, rfl⟩
  have hG_2 : GR G_2 := by rw [eG_2]; exact (GR.up hG_1 (bool_inR g_1))
  have h := h G_2 eG_2
  rw [← eG_2]
  refine a_iload_n (pc := 27) X9 dX9_setSplit_27 rfl rfl ?_
  obtain ⟨g_2, h⟩ := h
  exact a_ireturn (pc := 28) X9 E rfl (fit_bool g_2).1 (Nat.le_of_ble_eq_true rfl) (Nat.le_of_ble_eq_true rfl) dX9_setSplit_28 ⟨rfl, _, rfl, g_2, h⟩
set_option maxHeartbeats 4000000 in
set_option maxRecDepth 100000 in
theorem m_X9_setHymn {nn : Nat} {i1 : Int} {i2 : Int} {i3 : Int} {G : GH} {Q : Int → GH → Prop} (hi1 : inR i1) (hi2 : inR i2) (hi3 : inR i3) (hnn : 272 ≤ nn) (h : f_X9_setHymn i1 i2 i3 G Q (fun _ _ => False)) : Mt yX9_setHymn cX9_setHymn 5 (some .int) 4 103 0 0 [vr 0, vi i1, vi i2, vi i3] (SF nn) G (fun v S' G' => S' = SF nn ∧ qI Q v S' G') (fun E S' G' => S' = SF nn ∧ False) := by
  refine Mt.of (l0 := [some (vr 0), some (vi i1), some (vi i2), some (vi i3), none]) (by decide) (Nat.le_of_ble_eq_true rfl) rfl ?_
  intro κ δ ρ0 X9 E hG
  replace X9 : CX κ δ RX9 cX9_setHymn 5 (some .int) := X9
  refine a_aload_n (pc := 0) X9 dX9_setHymn_0 rfl rfl ?_
  refine a_iload_n (pc := 1) X9 dX9_setHymn_1 rfl rfl ?_
  refine a_callV (pc := 2) X9 E (m_X9_needService hi1 hnn h) okX9 (is9 hnn) wM_X9_216 w_instanceMethod_X9_needService w_selects_X9_needService w_initialized_RX9 w_code_X9_needService cp_X9_needService pn_X9_needService rfl (Nat.le_of_ble_eq_true rfl) ⟨Nat.le_of_ble_eq_true rfl, Nat.le_of_ble_eq_true rfl⟩ ⟨Nat.le_of_ble_eq_true rfl, Nat.le_of_ble_eq_true rfl⟩ dX9_setHymn_2 (fun _ _ q => False.elim q) (kVp (fun h => ?_))
  refine a_iload_n (pc := 5) X9 dX9_setHymn_5 rfl rfl ?_
  refine a_callS (pc := 6) X9 E (m_X9_needHymn hi3 hnn h) wM_X9_253 w_static_X9_needHymn w_initialized_RX9 w_code_X9_needHymn cp_X9_needHymn pn_X9_needHymn rfl (Nat.le_of_ble_eq_true rfl) ⟨Nat.le_of_ble_eq_true rfl, Nat.le_of_ble_eq_true rfl⟩ ⟨Nat.le_of_ble_eq_true rfl, Nat.le_of_ble_eq_true rfl⟩ dX9_setHymn_6 (fun _ _ q => False.elim q) (kVp (fun h => ?_))
  refine a_aload_n (pc := 9) X9 dX9_setHymn_9 rfl rfl ?_
  refine a_getR (pc := 10) X9 (q := 1) okX9 0 rfl wF_X9_12 (is9 hnn) rf9_0 dX9_setHymn_10 ?_
  refine a_getR (pc := 13) X9 (q := 12) okX7 4 rfl wF_X9_97 (is7 su9_0 hnn) (rf7_4 _ su9_0) dX9_setHymn_13 ?_
  refine a_iload_n (pc := 16) X9 dX9_setHymn_16 rfl rfl ?_
  refine a_iload_n (pc := 17) X9 dX9_setHymn_17 rfl rfl ?_
  refine a_callV (pc := 18) X9 E (m_X6_hymnAt (su7_4 _ su9_0) hi1 hi2 hnn h) okX6 (is6 (su7_4 _ su9_0) hnn) wM_X9_221 w_instanceMethod_X6_hymnAt w_selects_X6_hymnAt w_initialized_RX6 w_code_X6_hymnAt cp_X6_hymnAt pn_X6_hymnAt rfl (Nat.le_of_ble_eq_true rfl) ⟨Nat.le_of_ble_eq_true rfl, Nat.le_of_ble_eq_true rfl⟩ ⟨Nat.le_of_ble_eq_true rfl, Nat.le_of_ble_eq_true rfl⟩ dX9_setHymn_18 (fun _ _ q => False.elim q) (kIp (fun r_3 hr_3 h => ?_))
  refine a_istore (pc := 21) X9 dX9_setHymn_21 (Nat.le_of_ble_eq_true rfl) rfl rfl ?_
  refine a_iload (pc := 23) X9 dX9_setHymn_23 rfl ?_
  refine a_iconst (pc := 25) X9 dX9_setHymn_25 ?_
  refine a_icmp_ne (pc := 26) (tgt := 32) X9 dX9_setHymn_26 rfl hr_3 (by decide) (fun c => ?_) (fun c => ?_)
  · have c_1 := c
    have h := h.1 c_1
    refine a_aload_n (pc := 32) X9 dX9_setHymn_32 rfl rfl ?_
    refine a_getR (pc := 33) X9 (q := 44) okX9 3 rfl wF_X9_29 (is9 hnn) rf9_3 dX9_setHymn_33 ?_
    refine a_aload_n (pc := 36) X9 dX9_setHymn_36 rfl rfl ?_
    refine a_getR (pc := 37) X9 (q := 1) okX9 0 rfl wF_X9_12 (is9 hnn) rf9_0 dX9_setHymn_37 ?_
    refine a_callV (pc := 40) X9 E (m_X1_keep su9_0 hnn h) okX1 (is1 hnn) wM_X9_298 w_instanceMethod_X1_keep w_selects_X1_keep w_initialized_RX1 w_code_X1_keep cp_X1_keep pn_X1_keep rfl (Nat.le_of_ble_eq_true rfl) ⟨Nat.le_of_ble_eq_true rfl, Nat.le_of_ble_eq_true rfl⟩ ⟨Nat.le_of_ble_eq_true rfl, Nat.le_of_ble_eq_true rfl⟩ dX9_setHymn_40 (fun _ _ q => False.elim q) (kV (fun G_1 h hG_1 => ?_))
    refine a_aload_n (pc := 43) X9 dX9_setHymn_43 rfl rfl ?_
    refine a_getR (pc := 44) X9 (q := 1) okX9 0 rfl wF_X9_12 (is9 hnn) rf9_0 dX9_setHymn_44 ?_
    refine a_getR (pc := 47) X9 (q := 12) okX7 4 rfl wF_X9_97 (is7 su9_0 hnn) (rf7_4 _ su9_0) dX9_setHymn_47 ?_
    refine a_getR (pc := 50) X9 (q := 14) okX6 2 rfl wF_X9_329 (is6 (su7_4 _ su9_0) hnn) (rf6_2 _ (su7_4 _ su9_0)) dX9_setHymn_50 ?_
    refine a_iload_n (pc := 53) X9 dX9_setHymn_53 rfl rfl ?_
    refine a_bipush (pc := 54) X9 dX9_setHymn_54 rfl ?_
    refine a_imul (pc := 56) X9 dX9_setHymn_56 ?_
    refine a_iload_n (pc := 57) X9 dX9_setHymn_57 rfl rfl ?_
    refine a_iadd (pc := 58) X9 dX9_setHymn_58 ?_
    refine a_iload_n (pc := 59) X9 dX9_setHymn_59 rfl rfl ?_
    obtain ⟨g_1, h⟩ := h
    refine b_iast (pc := 60) X9 (i := ((i1 * 8) + i2)) (v := i3) (ar6_2 (su7_4 _ su9_0) hnn) (Nat.le_of_ble_eq_true rfl) g_1 hi3 dX9_setHymn_60 ?_
    obtain ⟨G_2, eG_2⟩ : ∃ G9, G9 = upG G_1 14 (((i1 * 8) + i2)).toNat i3 := ⟨_, rfl⟩
    have hG_2 : GR G_2 := by rw [eG_2]; exact (GR.up hG_1 hi3)
    have h := h G_2 eG_2
    rw [← eG_2]
    refine a_iload (pc := 61) X9 dX9_setHymn_61 rfl ?_
    exact a_ireturn (pc := 63) X9 E rfl rfl (Nat.le_of_ble_eq_true rfl) (Nat.le_of_ble_eq_true rfl) dX9_setHymn_63 ⟨rfl, _, rfl, hr_3, h⟩
  · have c_1 := c
    have h := h.2 c_1
    refine a_bipush (pc := 29) X9 dX9_setHymn_29 rfl ?_
    exact a_ireturn (pc := 31) X9 E rfl rfl (Nat.le_of_ble_eq_true rfl) (Nat.le_of_ble_eq_true rfl) dX9_setHymn_31 ⟨rfl, _, rfl, (show inR (-3) by decide), h⟩
set_option maxHeartbeats 4000000 in
set_option maxRecDepth 100000 in
theorem m_X9_addHymn {nn : Nat} {i1 : Int} {i2 : Int} {G : GH} {Q : Int → GH → Prop} (hi1 : inR i1) (hi2 : inR i2) (hnn : 272 ≤ nn) (h : f_X9_addHymn i1 i2 G Q (fun _ _ => False)) : Mt yX9_addHymn cX9_addHymn 3 (some .int) 4 103 0 0 [vr 0, vi i1, vi i2] (SF nn) G (fun v S' G' => S' = SF nn ∧ qI Q v S' G') (fun E S' G' => S' = SF nn ∧ False) := by
  refine Mt.of (l0 := [some (vr 0), some (vi i1), some (vi i2)]) (by decide) (Nat.le_of_ble_eq_true rfl) rfl ?_
  intro κ δ ρ0 X9 E hG
  replace X9 : CX κ δ RX9 cX9_addHymn 3 (some .int) := X9
  refine a_aload_n (pc := 0) X9 dX9_addHymn_0 rfl rfl ?_
  refine a_iload_n (pc := 1) X9 dX9_addHymn_1 rfl rfl ?_
  refine a_callV (pc := 2) X9 E (m_X9_needService hi1 hnn h) okX9 (is9 hnn) wM_X9_216 w_instanceMethod_X9_needService w_selects_X9_needService w_initialized_RX9 w_code_X9_needService cp_X9_needService pn_X9_needService rfl (Nat.le_of_ble_eq_true rfl) ⟨Nat.le_of_ble_eq_true rfl, Nat.le_of_ble_eq_true rfl⟩ ⟨Nat.le_of_ble_eq_true rfl, Nat.le_of_ble_eq_true rfl⟩ dX9_addHymn_2 (fun _ _ q => False.elim q) (kVp (fun h => ?_))
  refine a_iload_n (pc := 5) X9 dX9_addHymn_5 rfl rfl ?_
  refine a_callS (pc := 6) X9 E (m_X9_needHymn hi2 hnn h) wM_X9_253 w_static_X9_needHymn w_initialized_RX9 w_code_X9_needHymn cp_X9_needHymn pn_X9_needHymn rfl (Nat.le_of_ble_eq_true rfl) ⟨Nat.le_of_ble_eq_true rfl, Nat.le_of_ble_eq_true rfl⟩ ⟨Nat.le_of_ble_eq_true rfl, Nat.le_of_ble_eq_true rfl⟩ dX9_addHymn_6 (fun _ _ q => False.elim q) (kVp (fun h => ?_))
  refine a_aload_n (pc := 9) X9 dX9_addHymn_9 rfl rfl ?_
  refine a_getR (pc := 10) X9 (q := 1) okX9 0 rfl wF_X9_12 (is9 hnn) rf9_0 dX9_addHymn_10 ?_
  refine a_getR (pc := 13) X9 (q := 12) okX7 4 rfl wF_X9_97 (is7 su9_0 hnn) (rf7_4 _ su9_0) dX9_addHymn_13 ?_
  refine a_getR (pc := 16) X9 (q := 13) okX6 1 rfl wF_X9_219 (is6 (su7_4 _ su9_0) hnn) (rf6_1 _ (su7_4 _ su9_0)) dX9_addHymn_16 ?_
  refine a_iload_n (pc := 19) X9 dX9_addHymn_19 rfl rfl ?_
  obtain ⟨g_1, h⟩ := h
  refine b_iald (pc := 20) X9 (ar6_1 (su7_4 _ su9_0) hnn) (Nat.le_of_ble_eq_true rfl) g_1 dX9_addHymn_20 ?_
  refine a_bipush (pc := 21) X9 dX9_addHymn_21 rfl ?_
  refine a_icmp_ne (pc := 23) (tgt := 29) X9 dX9_addHymn_23 rfl (hG _ _) (by decide) (fun c => ?_) (fun c => ?_)
  · have c_1 := c
    have h := h.1 c_1
    refine a_aload_n (pc := 29) X9 dX9_addHymn_29 rfl rfl ?_
    refine a_getR (pc := 30) X9 (q := 44) okX9 3 rfl wF_X9_29 (is9 hnn) rf9_3 dX9_addHymn_30 ?_
    refine a_aload_n (pc := 33) X9 dX9_addHymn_33 rfl rfl ?_
    refine a_getR (pc := 34) X9 (q := 1) okX9 0 rfl wF_X9_12 (is9 hnn) rf9_0 dX9_addHymn_34 ?_
    refine a_callV (pc := 37) X9 E (m_X1_keep su9_0 hnn h) okX1 (is1 hnn) wM_X9_298 w_instanceMethod_X1_keep w_selects_X1_keep w_initialized_RX1 w_code_X1_keep cp_X1_keep pn_X1_keep rfl (Nat.le_of_ble_eq_true rfl) ⟨Nat.le_of_ble_eq_true rfl, Nat.le_of_ble_eq_true rfl⟩ ⟨Nat.le_of_ble_eq_true rfl, Nat.le_of_ble_eq_true rfl⟩ dX9_addHymn_37 (fun _ _ q => False.elim q) (kV (fun G_1 h hG_1 => ?_))
    refine a_aload_n (pc := 40) X9 dX9_addHymn_40 rfl rfl ?_
    refine a_getR (pc := 41) X9 (q := 1) okX9 0 rfl wF_X9_12 (is9 hnn) rf9_0 dX9_addHymn_41 ?_
    refine a_getR (pc := 44) X9 (q := 12) okX7 4 rfl wF_X9_97 (is7 su9_0 hnn) (rf7_4 _ su9_0) dX9_addHymn_44 ?_
    refine a_iload_n (pc := 47) X9 dX9_addHymn_47 rfl rfl ?_
    refine a_iload_n (pc := 48) X9 dX9_addHymn_48 rfl rfl ?_
    refine a_callV (pc := 49) X9 E (m_X6_lengthen (su7_4 _ su9_0) hi1 hi2 hnn h) okX6 (is6 (su7_4 _ su9_0) hnn) wM_X9_330 w_instanceMethod_X6_lengthen w_selects_X6_lengthen w_initialized_RX6 w_code_X6_lengthen cp_X6_lengthen pn_X6_lengthen rfl (Nat.le_of_ble_eq_true rfl) ⟨Nat.le_of_ble_eq_true rfl, Nat.le_of_ble_eq_true rfl⟩ ⟨Nat.le_of_ble_eq_true rfl, Nat.le_of_ble_eq_true rfl⟩ dX9_addHymn_49 (fun _ _ q => False.elim q) (kI (fun r_4 G_2 hr_4 h hG_2 => ?_))
    exact a_ireturn (pc := 52) X9 E rfl rfl (Nat.le_of_ble_eq_true rfl) (Nat.le_of_ble_eq_true rfl) dX9_addHymn_52 ⟨rfl, _, rfl, hr_4, h⟩
  · have c_1 := c
    have h := h.2 c_1
    refine a_bipush (pc := 26) X9 dX9_addHymn_26 rfl ?_
    exact a_ireturn (pc := 28) X9 E rfl rfl (Nat.le_of_ble_eq_true rfl) (Nat.le_of_ble_eq_true rfl) dX9_addHymn_28 ⟨rfl, _, rfl, (show inR (-2) by decide), h⟩
set_option maxHeartbeats 4000000 in
set_option maxRecDepth 100000 in
theorem m_X9_turned {nn : Nat}  {G : GH} {Q : UInt32 → Prop}  (hnn : 272 ≤ nn) (h : f_X9_turned G Q) : Mt yX9_turned cX9_turned 2 (some .float) 1 22 0 0 [vr 0] (SF nn) G (fun v S' G' => S' = SF nn ∧ qF (fun r9 G9 => G9 = G ∧ Q r9) v S' G') (fun E S' G' => S' = SF nn ∧ False) := by
  refine Mt.of (l0 := [some (vr 0), none]) (by decide) (Nat.le_of_ble_eq_true rfl) rfl ?_
  intro κ δ ρ0 X9 E hG
  replace X9 : CX κ δ RX9 cX9_turned 2 (some .float) := X9
  refine a_aload_n (pc := 0) X9 dX9_turned_0 rfl rfl ?_
  refine a_getR (pc := 1) X9 (q := 1) okX9 0 rfl wF_X9_12 (is9 hnn) rf9_0 dX9_turned_1 ?_
  refine a_getR (pc := 4) X9 (q := 15) okX7 5 rfl wF_X9_138 (is7 su9_0 hnn) (rf7_5 _ su9_0) dX9_turned_4 ?_
  refine a_callV (pc := 7) X9 E (m_X0_countCards (su7_5 _ su9_0) hnn h) okX0 (is0 (su7_5 _ su9_0) hnn) wM_X9_144 w_instanceMethod_X0_countCards w_selects_X0_countCards w_initialized_RX0 w_code_X0_countCards cp_X0_countCards pn_X0_countCards rfl (Nat.le_of_ble_eq_true rfl) ⟨Nat.le_of_ble_eq_true rfl, Nat.le_of_ble_eq_true rfl⟩ ⟨Nat.le_of_ble_eq_true rfl, Nat.le_of_ble_eq_true rfl⟩ dX9_turned_7 (fun _ _ q => False.elim q) (kIp (fun r_1 hr_1 h => ?_))
  refine a_istore_n (pc := 10) X9 dX9_turned_10 rfl (Nat.le_of_ble_eq_true rfl) rfl rfl ?_
  refine a_iload_n (pc := 11) X9 dX9_turned_11 rfl rfl ?_
  refine a_if_ne (pc := 12) (tgt := 19) X9 dX9_turned_12 rfl hr_1 (fun c => ?_) (fun c => ?_)
  · have c_1 := c
    have h := h.1 c_1
    refine a_aload_n (pc := 19) X9 dX9_turned_19 rfl rfl ?_
    refine a_getR (pc := 20) X9 (q := 1) okX9 0 rfl wF_X9_12 (is9 hnn) rf9_0 dX9_turned_20 ?_
    refine a_getR (pc := 23) X9 (q := 15) okX7 5 rfl wF_X9_138 (is7 su9_0 hnn) (rf7_5 _ su9_0) dX9_turned_23 ?_
    refine a_callV (pc := 26) X9 E (m_X0_countTurned (su7_5 _ su9_0) hnn h) okX0 (is0 (su7_5 _ su9_0) hnn) wM_X9_274 w_instanceMethod_X0_countTurned w_selects_X0_countTurned w_initialized_RX0 w_code_X0_countTurned cp_X0_countTurned pn_X0_countTurned rfl (Nat.le_of_ble_eq_true rfl) ⟨Nat.le_of_ble_eq_true rfl, Nat.le_of_ble_eq_true rfl⟩ ⟨Nat.le_of_ble_eq_true rfl, Nat.le_of_ble_eq_true rfl⟩ dX9_turned_26 (fun _ _ q => False.elim q) (kIp (fun r_2 hr_2 h => ?_))
    refine a_i2f (pc := 29) X9 dX9_turned_29 ?_
    refine a_iload_n (pc := 30) X9 dX9_turned_30 rfl rfl ?_
    refine a_i2f (pc := 31) X9 dX9_turned_31 ?_
    obtain ⟨g_1, h⟩ := h
    refine a_fdiv (pc := 32) X9 dX9_turned_32 g_1 ?_
    exact a_freturn (pc := 33) X9 E (Nat.le_of_ble_eq_true rfl) (Nat.le_of_ble_eq_true rfl) dX9_turned_33 ⟨rfl, _, rfl, rfl, h⟩
  · have c_1 := c
    have h := h.2 c_1
    refine a_fconst0 (pc := 15) X9 dX9_turned_15 ?_
    refine a_goto (pc := 16) (tgt := 33) X9 dX9_turned_16 rfl ?_
    exact a_freturn (pc := 33) X9 E (Nat.le_of_ble_eq_true rfl) (Nat.le_of_ble_eq_true rfl) dX9_turned_33 ⟨rfl, _, rfl, rfl, h⟩
set_option maxHeartbeats 4000000 in
set_option maxRecDepth 100000 in
theorem m_X1_goBack {nn : Nat} {a1 : Nat} {G : GH} {Q : GH → Prop} (ha1 : a1 ∈ L7) (hnn : 272 ≤ nn) (h : f_X1_goBack a1 G Q) : Mt yX1_goBack cX1_goBack 2 none 3 82 0 0 [vr 44, vr a1] (SF nn) G (fun v S' G' => S' = SF nn ∧ qV Q v S' G') (fun E S' G' => S' = SF nn ∧ False) := by
  refine Mt.of (l0 := [some (vr 44), some (vr a1)]) (by decide) (Nat.le_of_ble_eq_true rfl) rfl ?_
  intro κ δ ρ0 X9 E hG
  replace X9 : CX κ δ RX1 cX1_goBack 2 none := X9
  refine a_aload_n (pc := 0) X9 dX1_goBack_0 rfl rfl ?_
  refine a_aload_n (pc := 1) X9 dX1_goBack_1 rfl rfl ?_
  refine a_getI (pc := 2) X9 okX1 1 rfl wF_X1_18 (is1 hnn) dX1_goBack_2 ?_
  refine a_bipush (pc := 5) X9 dX1_goBack_5 rfl ?_
  refine a_iadd (pc := 7) X9 dX1_goBack_7 ?_
  refine a_iconst (pc := 8) X9 dX1_goBack_8 ?_
  refine a_isub (pc := 9) X9 dX1_goBack_9 ?_
  refine a_bipush (pc := 10) X9 dX1_goBack_10 rfl ?_
  obtain ⟨g_1, h⟩ := h
  obtain ⟨g_2, h⟩ := h
  refine a_irem (pc := 12) X9 dX1_goBack_12 ⟨g_2, g_1.2⟩ ⟨(by decide), (by decide)⟩ ?_
  refine a_putI (pc := 13) X9 okX1 1 rfl rfl (v := ((((G 44 1) + 8) - 1) % 8)) wF_X1_18 (is1 hnn) dX1_goBack_13 (inR_mod g_2 (by decide) (by decide)) (fit_int _) (fun _ => ?_)
  obtain ⟨G_1, eG_1⟩ : ∃ G9, G9 = upG G 44 1 ((((G 44 1) + 8) - 1) % 8) := ⟨_, rfl⟩
  have hG_1 : GR G_1 := by rw [eG_1]; exact (GR.up hG (inR_mod g_2 (by decide) (by decide)))
  have h := h G_1 eG_1
  rw [← eG_1]
  refine a_aload_n (pc := 16) X9 dX1_goBack_16 rfl rfl ?_
  refine a_aload_n (pc := 17) X9 dX1_goBack_17 rfl rfl ?_
  refine a_getR (pc := 18) X9 (q := 45) okX1 0 rfl wF_X1_11 (is1 hnn) rf1_0 dX1_goBack_18 ?_
  refine a_aload_n (pc := 21) X9 dX1_goBack_21 rfl rfl ?_
  refine a_getI (pc := 22) X9 okX1 1 rfl wF_X1_18 (is1 hnn) dX1_goBack_22 ?_
  obtain ⟨g_3, h⟩ := h
  have e_1 := el45 ((G_1 44 1)).toNat (by omega)
  refine a_aald (pc := 25) X9 (ar1_0 hnn) (Nat.le_of_ble_eq_true rfl) (Int.toNat_of_nonneg g_3.1).symm (by omega) e_1.1 dX1_goBack_25 ?_
  refine a_callV (pc := 26) X9 E (m_X7_copyFrom ha1 e_1.2 hnn h) okX7 (is7 ha1 hnn) wM_X1_22 w_instanceMethod_X7_copyFrom w_selects_X7_copyFrom w_initialized_RX7 w_code_X7_copyFrom cp_X7_copyFrom pn_X7_copyFrom rfl (Nat.le_of_ble_eq_true rfl) ⟨Nat.le_of_ble_eq_true rfl, Nat.le_of_ble_eq_true rfl⟩ ⟨Nat.le_of_ble_eq_true rfl, Nat.le_of_ble_eq_true rfl⟩ dX1_goBack_26 (fun _ _ q => False.elim q) (kV (fun G_2 h hG_2 => ?_))
  refine a_aload_n (pc := 29) X9 dX1_goBack_29 rfl rfl ?_
  refine a_dup (pc := 30) X9 dX1_goBack_30 rfl ?_
  refine a_getI (pc := 31) X9 okX1 2 rfl wF_X1_26 (is1 hnn) dX1_goBack_31 ?_
  refine a_iconst (pc := 34) X9 dX1_goBack_34 ?_
  refine a_isub (pc := 35) X9 dX1_goBack_35 ?_
  obtain ⟨g_4, h⟩ := h
  refine a_putI (pc := 36) X9 okX1 2 rfl rfl (v := ((G_2 44 2) - 1)) wF_X1_26 (is1 hnn) dX1_goBack_36 g_4 (fit_int _) (fun _ => ?_)
  obtain ⟨G_3, eG_3⟩ : ∃ G9, G9 = upG G_2 44 2 ((G_2 44 2) - 1) := ⟨_, rfl⟩
  have hG_3 : GR G_3 := by rw [eG_3]; exact (GR.up hG_2 g_4)
  have h := h G_3 eG_3
  rw [← eG_3]
  exact a_return (pc := 39) X9 E (Nat.le_of_ble_eq_true rfl) (Nat.le_of_ble_eq_true rfl) dX1_goBack_39 ⟨rfl, rfl, h⟩
set_option maxHeartbeats 4000000 in
set_option maxRecDepth 100000 in
theorem m_X9_undo {nn : Nat}  {G : GH} {Q : Int → GH → Prop}  (hnn : 272 ≤ nn) (h : f_X9_undo G Q) : Mt yX9_undo cX9_undo 1 (some .int) 4 103 0 0 [vr 0] (SF nn) G (fun v S' G' => S' = SF nn ∧ qI Q v S' G') (fun E S' G' => S' = SF nn ∧ False) := by
  refine Mt.of (l0 := [some (vr 0)]) (by decide) (Nat.le_of_ble_eq_true rfl) rfl ?_
  intro κ δ ρ0 X9 E hG
  replace X9 : CX κ δ RX9 cX9_undo 1 (some .int) := X9
  refine a_aload_n (pc := 0) X9 dX9_undo_0 rfl rfl ?_
  refine a_getR (pc := 1) X9 (q := 44) okX9 3 rfl wF_X9_29 (is9 hnn) rf9_3 dX9_undo_1 ?_
  refine a_getI (pc := 4) X9 okX1 2 rfl wF_X9_160 (is1 hnn) dX9_undo_4 ?_
  refine a_if_ne (pc := 7) (tgt := 12) X9 dX9_undo_7 rfl (hG _ _) (fun c => ?_) (fun c => ?_)
  · have c_1 := c
    have h := h.1 c_1
    refine a_aload_n (pc := 12) X9 dX9_undo_12 rfl rfl ?_
    refine a_getR (pc := 13) X9 (q := 44) okX9 3 rfl wF_X9_29 (is9 hnn) rf9_3 dX9_undo_13 ?_
    refine a_aload_n (pc := 16) X9 dX9_undo_16 rfl rfl ?_
    refine a_getR (pc := 17) X9 (q := 1) okX9 0 rfl wF_X9_12 (is9 hnn) rf9_0 dX9_undo_17 ?_
    refine a_callV (pc := 20) X9 E (m_X1_goBack su9_0 hnn h) okX1 (is1 hnn) wM_X9_350 w_instanceMethod_X1_goBack w_selects_X1_goBack w_initialized_RX1 w_code_X1_goBack cp_X1_goBack pn_X1_goBack rfl (Nat.le_of_ble_eq_true rfl) ⟨Nat.le_of_ble_eq_true rfl, Nat.le_of_ble_eq_true rfl⟩ ⟨Nat.le_of_ble_eq_true rfl, Nat.le_of_ble_eq_true rfl⟩ dX9_undo_20 (fun _ _ q => False.elim q) (kV (fun G_1 h hG_1 => ?_))
    refine a_aload_n (pc := 23) X9 dX9_undo_23 rfl rfl ?_
    refine a_getR (pc := 24) X9 (q := 44) okX9 3 rfl wF_X9_29 (is9 hnn) rf9_3 dX9_undo_24 ?_
    refine a_getI (pc := 27) X9 okX1 2 rfl wF_X9_160 (is1 hnn) dX9_undo_27 ?_
    exact a_ireturn (pc := 30) X9 E rfl rfl (Nat.le_of_ble_eq_true rfl) (Nat.le_of_ble_eq_true rfl) dX9_undo_30 ⟨rfl, _, rfl, (hG_1 _ _), h⟩
  · have c_1 := c
    have h := h.2 c_1
    refine a_iconst (pc := 10) X9 dX9_undo_10 ?_
    exact a_ireturn (pc := 11) X9 E rfl rfl (Nat.le_of_ble_eq_true rfl) (Nat.le_of_ble_eq_true rfl) dX9_undo_11 ⟨rfl, _, rfl, (show inR (-1) by decide), h⟩
set_option maxHeartbeats 4000000 in
set_option maxRecDepth 100000 in
theorem m_X9_saveSnapshot {nn : Nat} {i1 : Int} {G : GH} {Q : Int → GH → Prop} (hi1 : inR i1) (hnn : 272 ≤ nn) (h : f_X9_saveSnapshot i1 G Q (fun _ _ => False)) : Mt yX9_saveSnapshot cX9_saveSnapshot 2 (some .int) 3 82 0 0 [vr 0, vi i1] (SF nn) G (fun v S' G' => S' = SF nn ∧ qI Q v S' G') (fun E S' G' => S' = SF nn ∧ False) := by
  refine Mt.of (l0 := [some (vr 0), some (vi i1)]) (by decide) (Nat.le_of_ble_eq_true rfl) rfl ?_
  intro κ δ ρ0 X9 E hG
  replace X9 : CX κ δ RX9 cX9_saveSnapshot 2 (some .int) := X9
  refine a_iload_n (pc := 0) X9 dX9_saveSnapshot_0 rfl rfl ?_
  refine a_iconst (pc := 1) X9 dX9_saveSnapshot_1 ?_
  refine a_iconst (pc := 2) X9 dX9_saveSnapshot_2 ?_
  refine a_callS (pc := 3) X9 E (m_X9_within hi1 (show inR 0 by decide) (show inR 1 by decide) hnn h) wM_X9_199 w_static_X9_within w_initialized_RX9 w_code_X9_within cp_X9_within pn_X9_within rfl (Nat.le_of_ble_eq_true rfl) ⟨Nat.le_of_ble_eq_true rfl, Nat.le_of_ble_eq_true rfl⟩ ⟨Nat.le_of_ble_eq_true rfl, Nat.le_of_ble_eq_true rfl⟩ dX9_saveSnapshot_3 (fun _ _ q => False.elim q) (kZp (fun r_1 hr_1 h => ?_))
  refine a_callS (pc := 6) X9 E (m_X9_needArgument (bool_inR hr_1) hnn h) wM_X9_228 w_static_X9_needArgument w_initialized_RX9 w_code_X9_needArgument cp_X9_needArgument pn_X9_needArgument rfl (Nat.le_of_ble_eq_true rfl) ⟨Nat.le_of_ble_eq_true rfl, Nat.le_of_ble_eq_true rfl⟩ ⟨Nat.le_of_ble_eq_true rfl, Nat.le_of_ble_eq_true rfl⟩ dX9_saveSnapshot_6 (fun _ _ q => False.elim q) (kVp (fun h => ?_))
  refine a_aload_n (pc := 9) X9 dX9_saveSnapshot_9 rfl rfl ?_
  refine a_getR (pc := 10) X9 (q := 206) okX9 4 rfl wF_X9_33 (is9 hnn) rf9_4 dX9_saveSnapshot_10 ?_
  refine a_iload_n (pc := 13) X9 dX9_saveSnapshot_13 rfl rfl ?_
  obtain ⟨g_1, h⟩ := h
  have e_1 := el206 (i1).toNat (by omega)
  refine a_aald (pc := 14) X9 (ar9_4 hnn) (Nat.le_of_ble_eq_true rfl) (Int.toNat_of_nonneg g_1.1).symm (by omega) e_1.1 dX9_saveSnapshot_14 ?_
  refine a_aload_n (pc := 15) X9 dX9_saveSnapshot_15 rfl rfl ?_
  refine a_getR (pc := 16) X9 (q := 1) okX9 0 rfl wF_X9_12 (is9 hnn) rf9_0 dX9_saveSnapshot_16 ?_
  refine a_callV (pc := 19) X9 E (m_X7_copyFrom e_1.2 su9_0 hnn h) okX7 (is7 e_1.2 hnn) wM_X9_90 w_instanceMethod_X7_copyFrom w_selects_X7_copyFrom w_initialized_RX7 w_code_X7_copyFrom cp_X7_copyFrom pn_X7_copyFrom rfl (Nat.le_of_ble_eq_true rfl) ⟨Nat.le_of_ble_eq_true rfl, Nat.le_of_ble_eq_true rfl⟩ ⟨Nat.le_of_ble_eq_true rfl, Nat.le_of_ble_eq_true rfl⟩ dX9_saveSnapshot_19 (fun _ _ q => False.elim q) (kV (fun G_1 h hG_1 => ?_))
  refine a_aload_n (pc := 22) X9 dX9_saveSnapshot_22 rfl rfl ?_
  refine a_getR (pc := 23) X9 (q := 207) okX9 5 rfl wF_X9_37 (is9 hnn) rf9_5 dX9_saveSnapshot_23 ?_
  refine a_iload_n (pc := 26) X9 dX9_saveSnapshot_26 rfl rfl ?_
  refine a_iconst (pc := 27) X9 dX9_saveSnapshot_27 ?_
  refine b_zast (pc := 28) X9 (i := i1) (v := 1) (ar9_5 hnn) (Nat.le_of_ble_eq_true rfl) g_1 (Or.inr rfl) dX9_saveSnapshot_28 ?_
  obtain ⟨G_2, eG_2⟩ : ∃ G9, G9 = upG G_1 207 (i1).toNat 1 := ⟨_, rfl⟩
  have hG_2 : GR G_2 := by rw [eG_2]; exact (GR.up hG_1 (bool_inR (Or.inr rfl)))
  have h := h G_2 eG_2
  rw [← eG_2]
  refine a_aload_n (pc := 29) X9 dX9_saveSnapshot_29 rfl rfl ?_
  refine a_getR (pc := 30) X9 (q := 1) okX9 0 rfl wF_X9_12 (is9 hnn) rf9_0 dX9_saveSnapshot_30 ?_
  refine a_getI (pc := 33) X9 okX7 6 rfl wF_X9_148 (is7 su9_0 hnn) dX9_saveSnapshot_33 ?_
  exact a_ireturn (pc := 36) X9 E rfl rfl (Nat.le_of_ble_eq_true rfl) (Nat.le_of_ble_eq_true rfl) dX9_saveSnapshot_36 ⟨rfl, _, rfl, (hG_2 _ _), h⟩
set_option maxHeartbeats 4000000 in
set_option maxRecDepth 100000 in
theorem m_X9_restoreSnapshot {nn : Nat} {i1 : Int} {G : GH} {Q : Int → GH → Prop} (hi1 : inR i1) (hnn : 272 ≤ nn) (h : f_X9_restoreSnapshot i1 G Q (fun _ _ => False)) : Mt yX9_restoreSnapshot cX9_restoreSnapshot 2 (some .int) 3 82 0 0 [vr 0, vi i1] (SF nn) G (fun v S' G' => S' = SF nn ∧ qI Q v S' G') (fun E S' G' => S' = SF nn ∧ False) := by
  refine Mt.of (l0 := [some (vr 0), some (vi i1)]) (by decide) (Nat.le_of_ble_eq_true rfl) rfl ?_
  intro κ δ ρ0 X9 E hG
  replace X9 : CX κ δ RX9 cX9_restoreSnapshot 2 (some .int) := X9
  refine a_iload_n (pc := 0) X9 dX9_restoreSnapshot_0 rfl rfl ?_
  refine a_iconst (pc := 1) X9 dX9_restoreSnapshot_1 ?_
  refine a_iconst (pc := 2) X9 dX9_restoreSnapshot_2 ?_
  refine a_callS (pc := 3) X9 E (m_X9_within hi1 (show inR 0 by decide) (show inR 1 by decide) hnn h) wM_X9_199 w_static_X9_within w_initialized_RX9 w_code_X9_within cp_X9_within pn_X9_within rfl (Nat.le_of_ble_eq_true rfl) ⟨Nat.le_of_ble_eq_true rfl, Nat.le_of_ble_eq_true rfl⟩ ⟨Nat.le_of_ble_eq_true rfl, Nat.le_of_ble_eq_true rfl⟩ dX9_restoreSnapshot_3 (fun _ _ q => False.elim q) (kZp (fun r_1 hr_1 h => ?_))
  refine a_callS (pc := 6) X9 E (m_X9_needArgument (bool_inR hr_1) hnn h) wM_X9_228 w_static_X9_needArgument w_initialized_RX9 w_code_X9_needArgument cp_X9_needArgument pn_X9_needArgument rfl (Nat.le_of_ble_eq_true rfl) ⟨Nat.le_of_ble_eq_true rfl, Nat.le_of_ble_eq_true rfl⟩ ⟨Nat.le_of_ble_eq_true rfl, Nat.le_of_ble_eq_true rfl⟩ dX9_restoreSnapshot_6 (fun _ _ q => False.elim q) (kVp (fun h => ?_))
  refine a_aload_n (pc := 9) X9 dX9_restoreSnapshot_9 rfl rfl ?_
  refine a_getR (pc := 10) X9 (q := 207) okX9 5 rfl wF_X9_37 (is9 hnn) rf9_5 dX9_restoreSnapshot_10 ?_
  refine a_iload_n (pc := 13) X9 dX9_restoreSnapshot_13 rfl rfl ?_
  obtain ⟨g_1, h⟩ := h
  refine b_zald (pc := 14) X9 (ar9_5 hnn) (Nat.le_of_ble_eq_true rfl) g_1 dX9_restoreSnapshot_14 ?_
  refine a_if_ne (pc := 15) (tgt := 20) X9 dX9_restoreSnapshot_15 rfl (hG _ _) (fun c => ?_) (fun c => ?_)
  · have c_1 := c
    have h := h.1 c_1
    refine a_aload_n (pc := 20) X9 dX9_restoreSnapshot_20 rfl rfl ?_
    refine a_getR (pc := 21) X9 (q := 1) okX9 0 rfl wF_X9_12 (is9 hnn) rf9_0 dX9_restoreSnapshot_21 ?_
    refine a_aload_n (pc := 24) X9 dX9_restoreSnapshot_24 rfl rfl ?_
    refine a_getR (pc := 25) X9 (q := 206) okX9 4 rfl wF_X9_33 (is9 hnn) rf9_4 dX9_restoreSnapshot_25 ?_
    refine a_iload_n (pc := 28) X9 dX9_restoreSnapshot_28 rfl rfl ?_
    have e_1 := el206 (i1).toNat (by omega)
    refine a_aald (pc := 29) X9 (ar9_4 hnn) (Nat.le_of_ble_eq_true rfl) (Int.toNat_of_nonneg g_1.1).symm (by omega) e_1.1 dX9_restoreSnapshot_29 ?_
    refine a_callV (pc := 30) X9 E (m_X7_copyFrom su9_0 e_1.2 hnn h) okX7 (is7 su9_0 hnn) wM_X9_90 w_instanceMethod_X7_copyFrom w_selects_X7_copyFrom w_initialized_RX7 w_code_X7_copyFrom cp_X7_copyFrom pn_X7_copyFrom rfl (Nat.le_of_ble_eq_true rfl) ⟨Nat.le_of_ble_eq_true rfl, Nat.le_of_ble_eq_true rfl⟩ ⟨Nat.le_of_ble_eq_true rfl, Nat.le_of_ble_eq_true rfl⟩ dX9_restoreSnapshot_30 (fun _ _ q => False.elim q) (kV (fun G_1 h hG_1 => ?_))
    refine a_aload_n (pc := 33) X9 dX9_restoreSnapshot_33 rfl rfl ?_
    refine a_getR (pc := 34) X9 (q := 44) okX9 3 rfl wF_X9_29 (is9 hnn) rf9_3 dX9_restoreSnapshot_34 ?_
    refine a_callV (pc := 37) X9 E (m_X1_forget  hnn h) okX1 (is1 hnn) wM_X9_94 w_instanceMethod_X1_forget w_selects_X1_forget w_initialized_RX1 w_code_X1_forget cp_X1_forget pn_X1_forget rfl (Nat.le_of_ble_eq_true rfl) ⟨Nat.le_of_ble_eq_true rfl, Nat.le_of_ble_eq_true rfl⟩ ⟨Nat.le_of_ble_eq_true rfl, Nat.le_of_ble_eq_true rfl⟩ dX9_restoreSnapshot_37 (fun _ _ q => False.elim q) (kV (fun G_2 h hG_2 => ?_))
    refine a_aload_n (pc := 40) X9 dX9_restoreSnapshot_40 rfl rfl ?_
    refine a_getR (pc := 41) X9 (q := 1) okX9 0 rfl wF_X9_12 (is9 hnn) rf9_0 dX9_restoreSnapshot_41 ?_
    refine a_getI (pc := 44) X9 okX7 6 rfl wF_X9_148 (is7 su9_0 hnn) dX9_restoreSnapshot_44 ?_
    exact a_ireturn (pc := 47) X9 E rfl rfl (Nat.le_of_ble_eq_true rfl) (Nat.le_of_ble_eq_true rfl) dX9_restoreSnapshot_47 ⟨rfl, _, rfl, (hG_2 _ _), h⟩
  · have c_1 := c
    have h := h.2 c_1
    refine a_iconst (pc := 18) X9 dX9_restoreSnapshot_18 ?_
    exact a_ireturn (pc := 19) X9 E rfl rfl (Nat.le_of_ble_eq_true rfl) (Nat.le_of_ble_eq_true rfl) dX9_restoreSnapshot_19 ⟨rfl, _, rfl, (show inR (-1) by decide), h⟩

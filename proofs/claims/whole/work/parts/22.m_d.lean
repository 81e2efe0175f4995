-- ===== the walks of the methods; written by wip/whole/gen.py =====
set_option maxHeartbeats 4000000 in
set_option maxRecDepth 100000 in
theorem m_X10_fails {nn : Nat} {i1 : Int} {i2 : Int} {G : GH} {Q : Int → GH → Prop} (hi1 : inR i1) (hi2 : inR i2) (hnn : 285 ≤ nn) (h : f_X10_fails i1 i2 G Q) : Mt yX10_fails cX10_fails 3 (some .boolean) 0 0 0 0 [vr 272, vi i1, vi i2] (SF nn) G (fun v S' G' => S' = SF nn ∧ qZ Q v S' G') (fun E S' G' => S' = SF nn ∧ False) := by
  refine Mt.of (l0 := [some (vr 272), some (vi i1), some (vi i2)]) (by decide) (Nat.le_of_ble_eq_true rfl) rfl ?_
  intro κ δ ρ0 X9 E hG
  replace X9 : CX κ δ RX10 cX10_fails 3 (some .boolean) := X9
  refine a_aload_n (pc := 0) X9 dX10_fails_0 rfl rfl ?_
  refine a_iload_n (pc := 1) X9 dX10_fails_1 rfl rfl ?_
  refine a_putI (pc := 2) X9 okX10 12 rfl rfl (v := i1) wF_X10_72 (is10 hnn) dX10_fails_2 hi1 (fit_int _) (fun _ => ?_)
  obtain ⟨G_1, eG_1⟩ : ∃ G9, G9 = upG G 272 12 i1 := ⟨_, rfl⟩
  have hG_1 : GR G_1 := by rw [eG_1]; exact (GR.up hG hi1)
  have h := h G_1 eG_1
  rw [← eG_1]
  refine a_aload_n (pc := 5) X9 dX10_fails_5 rfl rfl ?_
  refine a_iload_n (pc := 6) X9 dX10_fails_6 rfl rfl ?_
  refine a_putI (pc := 7) X9 okX10 13 rfl rfl (v := i2) wF_X10_75 (is10 hnn) dX10_fails_7 hi2 (fit_int _) (fun _ => ?_)
  obtain ⟨G_2, eG_2⟩ : ∃ G9, G9 = upG G_1 272 13 i2 := ⟨_, rfl⟩
  have hG_2 : GR G_2 := by rw [eG_2]; exact (GR.up hG_1 hi2)
  have h := h G_2 eG_2
  rw [← eG_2]
  refine a_iconst (pc := 10) X9 dX10_fails_10 ?_
  exact a_ireturn (pc := 11) X9 E rfl (fit_bool (Or.inl rfl)).1 (Nat.le_of_ble_eq_true rfl) (Nat.le_of_ble_eq_true rfl) dX10_fails_11 ⟨rfl, _, rfl, (Or.inl rfl), h⟩
set_option maxHeartbeats 4000000 in
set_option maxRecDepth 100000 in
theorem m_X10_nextByte {nn : Nat}  {G : GH} {Q : Int → GH → Prop}  (hnn : 285 ≤ nn) (h : f_X10_nextByte G Q) : Mt yX10_nextByte cX10_nextByte 1 (some .int) 0 0 0 0 [vr 272] (SF nn) G (fun v S' G' => S' = SF nn ∧ qI Q v S' G') (fun E S' G' => S' = SF nn ∧ False) := by
  refine Mt.of (l0 := [some (vr 272)]) (by decide) (Nat.le_of_ble_eq_true rfl) rfl ?_
  intro κ δ ρ0 X9 E hG
  replace X9 : CX κ δ RX10 cX10_nextByte 1 (some .int) := X9
  refine joinM1 (A := fun G_3 => GR G_3 → AW κ δ ρ0 nn 1 0 0 38 [some (vr 272)] [] (SF nn) G_3) (fun G_3 h hG_3 => ?_) (fun j_1 hj_1 h => ?_) h
  · refine a_aload_n (pc := 38) X9 dX10_nextByte_38 rfl rfl ?_
    refine a_aload_n (pc := 39) X9 dX10_nextByte_39 rfl rfl ?_
    refine a_getI (pc := 40) X9 okX10 9 rfl wF_X10_78 (is10 hnn) dX10_nextByte_40 ?_
    refine a_putI (pc := 43) X9 okX10 10 rfl rfl (v := (G_3 272 9)) wF_X10_81 (is10 hnn) dX10_nextByte_43 (hG_3 _ _) (fit_int _) (fun _ => ?_)
    obtain ⟨G_4, eG_4⟩ : ∃ G9, G9 = upG G_3 272 10 (G_3 272 9) := ⟨_, rfl⟩
    have hG_4 : GR G_4 := by rw [eG_4]; exact (GR.up hG_3 (hG_3 _ _))
    have h := h G_4 eG_4
    rw [← eG_4]
    refine a_aload_n (pc := 46) X9 dX10_nextByte_46 rfl rfl ?_
    refine a_getI (pc := 47) X9 okX10 9 rfl wF_X10_78 (is10 hnn) dX10_nextByte_47 ?_
    refine a_aload_n (pc := 50) X9 dX10_nextByte_50 rfl rfl ?_
    refine a_getI (pc := 51) X9 okX10 8 rfl wF_X10_69 (is10 hnn) dX10_nextByte_51 ?_
    refine a_icmp_ge (pc := 54) (tgt := 73) X9 dX10_nextByte_54 rfl (hG_4 _ _) (hG_4 _ _) (fun c => ?_) (fun c => ?_)
    · have c_3 := c
      have h := h.1 c_3
      refine a_iconst (pc := 73) X9 dX10_nextByte_73 ?_
      exact a_ireturn (pc := 74) X9 E rfl rfl (Nat.le_of_ble_eq_true rfl) (Nat.le_of_ble_eq_true rfl) dX10_nextByte_74 ⟨rfl, _, rfl, (show inR (-1) by decide), h⟩
    · have c_3 := c
      have h := h.2 c_3
      refine a_aload_n (pc := 57) X9 dX10_nextByte_57 rfl rfl ?_
      refine a_getR (pc := 58) X9 (q := 278) okX10 7 rfl wF_X10_26 (is10 hnn) rf10_7 dX10_nextByte_58 ?_
      refine a_aload_n (pc := 61) X9 dX10_nextByte_61 rfl rfl ?_
      refine a_getI (pc := 62) X9 okX10 9 rfl wF_X10_78 (is10 hnn) dX10_nextByte_62 ?_
      obtain ⟨g_3, h⟩ := h
      refine b_bald (pc := 65) X9 (ar10_7 hnn) (Nat.le_of_ble_eq_true rfl) g_3 dX10_nextByte_65 ?_
      refine a_sipush (pc := 66) X9 dX10_nextByte_66 rfl ?_
      refine b_iand (pc := 69) X9 dX10_nextByte_69 ?_
      refine a_goto (pc := 70) (tgt := 74) X9 dX10_nextByte_70 rfl ?_
      exact a_ireturn (pc := 74) X9 E rfl rfl (Nat.le_of_ble_eq_true rfl) (Nat.le_of_ble_eq_true rfl) dX10_nextByte_74 ⟨rfl, _, rfl, inR_zAnd, h⟩
  · refine loopM1 (A := fun G_5 => GR G_5 → AW κ δ ρ0 nn 1 0 0 0 [some (vr 272)] [] (SF nn) G_5) (fun k_2 hk_2 G_5 h hG_5 => ?_) _ h hG
    refine a_aload_n (pc := 0) X9 dX10_nextByte_0 rfl rfl ?_
    refine a_getI (pc := 1) X9 okX10 9 rfl wF_X10_78 (is10 hnn) dX10_nextByte_1 ?_
    refine a_aload_n (pc := 4) X9 dX10_nextByte_4 rfl rfl ?_
    refine a_getI (pc := 5) X9 okX10 8 rfl wF_X10_69 (is10 hnn) dX10_nextByte_5 ?_
    refine a_icmp_ge (pc := 8) (tgt := 38) X9 dX10_nextByte_8 rfl (hG_5 _ _) (hG_5 _ _) (fun c => ?_) (fun c => ?_)
    · have c_4 := c
      have h := h.1 c_4
      exact hj_1 _ h hG_5
    · have c_4 := c
      have h := h.2 c_4
      refine a_aload_n (pc := 11) X9 dX10_nextByte_11 rfl rfl ?_
      refine a_getR (pc := 12) X9 (q := 278) okX10 7 rfl wF_X10_26 (is10 hnn) rf10_7 dX10_nextByte_12 ?_
      refine a_aload_n (pc := 15) X9 dX10_nextByte_15 rfl rfl ?_
      refine a_getI (pc := 16) X9 okX10 9 rfl wF_X10_78 (is10 hnn) dX10_nextByte_16 ?_
      obtain ⟨g_4, h⟩ := h
      refine b_bald (pc := 19) X9 (ar10_7 hnn) (Nat.le_of_ble_eq_true rfl) g_4 dX10_nextByte_19 ?_
      refine a_bipush (pc := 20) X9 dX10_nextByte_20 rfl ?_
      refine a_icmp_ne (pc := 22) (tgt := 38) X9 dX10_nextByte_22 rfl (hG_5 _ _) (by decide) (fun c => ?_) (fun c => ?_)
      · have c_5 := c
        have h := h.1 c_5
        exact hj_1 _ h hG_5
      · have c_5 := c
        have h := h.2 c_5
        refine a_aload_n (pc := 25) X9 dX10_nextByte_25 rfl rfl ?_
        refine a_dup (pc := 26) X9 dX10_nextByte_26 rfl ?_
        refine a_getI (pc := 27) X9 okX10 9 rfl wF_X10_78 (is10 hnn) dX10_nextByte_27 ?_
        refine a_iconst (pc := 30) X9 dX10_nextByte_30 ?_
        refine a_iadd (pc := 31) X9 dX10_nextByte_31 ?_
        have q_3 : inR ((G_5 272 8)) := (hG_5 _ _)
        have q_4 : inR ((G_5 272 9)) := (hG_5 _ _)
        have g_5 : inR (((G_5 272 9) + 1)) := ⟨by omega, by omega⟩
        refine a_putI (pc := 32) X9 okX10 9 rfl rfl (v := ((G_5 272 9) + 1)) wF_X10_78 (is10 hnn) dX10_nextByte_32 g_5 (fit_int _) (fun _ => ?_)
        obtain ⟨G_6, eG_6⟩ : ∃ G9, G9 = upG G_5 272 9 ((G_5 272 9) + 1) := ⟨_, rfl⟩
        have hG_6 : GR G_6 := by rw [eG_6]; exact (GR.up hG_5 g_5)
        have h := h G_6 eG_6
        rw [← eG_6]
        refine a_goto (pc := 35) (tgt := 0) X9 dX10_nextByte_35 rfl ?_
        exact hk_2 _ h hG_6
set_option maxHeartbeats 4000000 in
set_option maxRecDepth 100000 in
theorem m_X10_isAt {nn : Nat} {i1 : Int} {i2 : Int} {i3 : Int} {G : GH} {Q : Int → Prop} (hi1 : inR i1) (hi2 : inR i2) (hi3 : inR i3) (hnn : 285 ≤ nn) (h : f_X10_isAt i1 i2 i3 G Q) : Mt yX10_isAt cX10_isAt 4 (some .boolean) 0 0 0 0 [vr 272, vi i1, vi i2, vi i3] (SF nn) G (fun v S' G' => S' = SF nn ∧ qZ (fun r9 G9 => G9 = G ∧ Q r9) v S' G') (fun E S' G' => S' = SF nn ∧ False) := by
  refine Mt.of (l0 := [some (vr 272), some (vi i1), some (vi i2), some (vi i3)]) (by decide) (Nat.le_of_ble_eq_true rfl) rfl ?_
  intro κ δ ρ0 X9 E hG
  replace X9 : CX κ δ RX10 cX10_isAt 4 (some .boolean) := X9
  refine a_iload_n (pc := 0) X9 dX10_isAt_0 rfl rfl ?_
  refine a_aload_n (pc := 1) X9 dX10_isAt_1 rfl rfl ?_
  refine a_getI (pc := 2) X9 okX10 8 rfl wF_X10_69 (is10 hnn) dX10_isAt_2 ?_
  refine a_icmp_ge (pc := 5) (tgt := 32) X9 dX10_isAt_5 rfl hi1 (hG _ _) (fun c => ?_) (fun c => ?_)
  · have c_1 := c
    have h := h.1 c_1
    refine a_iconst (pc := 32) X9 dX10_isAt_32 ?_
    exact a_ireturn (pc := 33) X9 E rfl (fit_bool (Or.inl rfl)).1 (Nat.le_of_ble_eq_true rfl) (Nat.le_of_ble_eq_true rfl) dX10_isAt_33 ⟨rfl, _, rfl, (Or.inl rfl), rfl, h⟩
  · have c_1 := c
    have h := h.2 c_1
    refine a_aload_n (pc := 8) X9 dX10_isAt_8 rfl rfl ?_
    refine a_getR (pc := 9) X9 (q := 278) okX10 7 rfl wF_X10_26 (is10 hnn) rf10_7 dX10_isAt_9 ?_
    refine a_iload_n (pc := 12) X9 dX10_isAt_12 rfl rfl ?_
    obtain ⟨g_1, h⟩ := h
    refine b_bald (pc := 13) X9 (ar10_7 hnn) (Nat.le_of_ble_eq_true rfl) g_1 dX10_isAt_13 ?_
    refine a_iload_n (pc := 14) X9 dX10_isAt_14 rfl rfl ?_
    refine a_icmp_lt (pc := 15) (tgt := 32) X9 dX10_isAt_15 rfl (hG _ _) hi2 (fun c => ?_) (fun c => ?_)
    · have c_2 := c
      have h := h.1 c_2
      refine a_iconst (pc := 32) X9 dX10_isAt_32 ?_
      exact a_ireturn (pc := 33) X9 E rfl (fit_bool (Or.inl rfl)).1 (Nat.le_of_ble_eq_true rfl) (Nat.le_of_ble_eq_true rfl) dX10_isAt_33 ⟨rfl, _, rfl, (Or.inl rfl), rfl, h⟩
    · have c_2 := c
      have h := h.2 c_2
      refine a_aload_n (pc := 18) X9 dX10_isAt_18 rfl rfl ?_
      refine a_getR (pc := 19) X9 (q := 278) okX10 7 rfl wF_X10_26 (is10 hnn) rf10_7 dX10_isAt_19 ?_
      refine a_iload_n (pc := 22) X9 dX10_isAt_22 rfl rfl ?_
      refine b_bald (pc := 23) X9 (ar10_7 hnn) (Nat.le_of_ble_eq_true rfl) g_1 dX10_isAt_23 ?_
      refine a_iload_n (pc := 24) X9 dX10_isAt_24 rfl rfl ?_
      refine a_icmp_gt (pc := 25) (tgt := 32) X9 dX10_isAt_25 rfl (hG _ _) hi3 (fun c => ?_) (fun c => ?_)
      · have c_3 := c
        have h := h.1 c_3
        refine a_iconst (pc := 32) X9 dX10_isAt_32 ?_
        exact a_ireturn (pc := 33) X9 E rfl (fit_bool (Or.inl rfl)).1 (Nat.le_of_ble_eq_true rfl) (Nat.le_of_ble_eq_true rfl) dX10_isAt_33 ⟨rfl, _, rfl, (Or.inl rfl), rfl, h⟩
      · have c_3 := c
        have h := h.2 c_3
        refine a_iconst (pc := 28) X9 dX10_isAt_28 ?_
        refine a_goto (pc := 29) (tgt := 33) X9 dX10_isAt_29 rfl ?_
        exact a_ireturn (pc := 33) X9 E rfl (fit_bool (Or.inr rfl)).1 (Nat.le_of_ble_eq_true rfl) (Nat.le_of_ble_eq_true rfl) dX10_isAt_33 ⟨rfl, _, rfl, (Or.inr rfl), rfl, h⟩
set_option maxHeartbeats 4000000 in
set_option maxRecDepth 100000 in
theorem m_X10_isDigitNext {nn : Nat}  {G : GH} {Q : Int → GH → Prop}  (hnn : 285 ≤ nn) (h : f_X10_isDigitNext G Q) : Mt yX10_isDigitNext cX10_isDigitNext 1 (some .boolean) 1 25 0 0 [vr 272] (SF nn) G (fun v S' G' => S' = SF nn ∧ qZ Q v S' G') (fun E S' G' => S' = SF nn ∧ False) := by
  refine Mt.of (l0 := [some (vr 272)]) (by decide) (Nat.le_of_ble_eq_true rfl) rfl ?_
  intro κ δ ρ0 X9 E hG
  replace X9 : CX κ δ RX10 cX10_isDigitNext 1 (some .boolean) := X9
  refine a_aload_n (pc := 0) X9 dX10_isDigitNext_0 rfl rfl ?_
  refine a_callV (pc := 1) X9 E (m_X10_nextByte  hnn h) okX10 (is10 hnn) wM_X10_84 w_instanceMethod_X10_nextByte w_selects_X10_nextByte w_initialized_RX10 w_code_X10_nextByte cp_X10_nextByte pn_X10_nextByte rfl (Nat.le_of_ble_eq_true rfl) ⟨Nat.le_of_ble_eq_true rfl, Nat.le_of_ble_eq_true rfl⟩ ⟨Nat.le_of_ble_eq_true rfl, Nat.le_of_ble_eq_true rfl⟩ dX10_isDigitNext_1 (fun _ _ q => False.elim q) (kI (fun r_1 G_1 hr_1 h hG_1 => ?_))
  refine a_i2l (pc := 4) X9 dX10_isDigitNext_4 hr_1 ?_
  refine a_ldc2 (pc := 5) X9 (n := 48) wCL_X10_88 dX10_isDigitNext_5 (by decide +kernel) ?_
  refine a_ldc2 (pc := 8) X9 (n := 57) wCL_X10_90 dX10_isDigitNext_8 (by decide +kernel) ?_
  refine a_callS (pc := 11) X9 E (m_X10_in (inR_inL hr_1) (show inL 48 by decide) (show inL 57 by decide) hnn h) wM_X10_92 w_static_X10_in w_initialized_RX10 w_code_X10_in cp_X10_in pn_X10_in rfl (Nat.le_of_ble_eq_true rfl) ⟨Nat.le_of_ble_eq_true rfl, Nat.le_of_ble_eq_true rfl⟩ ⟨Nat.le_of_ble_eq_true rfl, Nat.le_of_ble_eq_true rfl⟩ dX10_isDigitNext_11 (fun _ _ q => False.elim q) (kZp (fun r_2 hr_2 h => ?_))
  exact a_ireturn (pc := 14) X9 E rfl (fit_bool hr_2).1 (Nat.le_of_ble_eq_true rfl) (Nat.le_of_ble_eq_true rfl) dX10_isDigitNext_14 ⟨rfl, _, rfl, hr_2, h⟩
set_option maxHeartbeats 4000000 in
set_option maxRecDepth 100000 in
theorem m_X10_reads {nn : Nat} {i1 : Int} {i2 : Int} {G : GH} {Q : Int → GH → Prop} (hi1 : inR i1) (hi2 : inR i2) (hnn : 285 ≤ nn) (h : f_X10_reads i1 i2 G Q) : Mt yX10_reads cX10_reads 5 (some .boolean) 2 45 0 0 [vr 272, vi i1, vi i2] (SF nn) G (fun v S' G' => S' = SF nn ∧ qZ Q v S' G') (fun E S' G' => S' = SF nn ∧ False) := by
  refine Mt.of (l0 := [some (vr 272), some (vi i1), some (vi i2), none, none]) (by decide) (Nat.le_of_ble_eq_true rfl) rfl ?_
  intro κ δ ρ0 X9 E hG
  replace X9 : CX κ δ RX10 cX10_reads 5 (some .boolean) := X9
  refine a_aload_n (pc := 0) X9 dX10_reads_0 rfl rfl ?_
  refine a_callV (pc := 1) X9 E (m_X10_isDigitNext  hnn h) okX10 (is10 hnn) wM_X10_96 w_instanceMethod_X10_isDigitNext w_selects_X10_isDigitNext w_initialized_RX10 w_code_X10_isDigitNext cp_X10_isDigitNext pn_X10_isDigitNext rfl (Nat.le_of_ble_eq_true rfl) ⟨Nat.le_of_ble_eq_true rfl, Nat.le_of_ble_eq_true rfl⟩ ⟨Nat.le_of_ble_eq_true rfl, Nat.le_of_ble_eq_true rfl⟩ dX10_reads_1 (fun _ _ q => False.elim q) (kZ (fun r_1 G_1 hr_1 h hG_1 => ?_))
  refine a_if_ne (pc := 4) (tgt := 17) X9 dX10_reads_4 rfl (bool_inR hr_1) (fun c => ?_) (fun c => ?_)
  · have c_1 := c
    have h := h.1 c_1
    refine a_lconst (pc := 17) X9 0 dX10_reads_17 rfl ?_
    refine a_lstore_n (pc := 18) X9 dX10_reads_18 rfl (Nat.le_of_ble_eq_true rfl) rfl rfl ?_
    refine loopM2 (A := fun x3_1 G_2 => inL x3_1 → GR G_2 → AW κ δ ρ0 nn 5 0 0 19 [some (vr 272), some (vi i1), some (vi i2), some (vl x3_1), none] [] (SF nn) G_2) (fun k_1 hk_1 x3_1 G_2 h h_x3_1 hG_2 => ?_) _ _ h (by decide) hG_1
    refine a_aload_n (pc := 19) X9 dX10_reads_19 rfl rfl ?_
    refine a_aload_n (pc := 20) X9 dX10_reads_20 rfl rfl ?_
    refine a_getI (pc := 21) X9 okX10 9 rfl wF_X10_78 (is10 hnn) dX10_reads_21 ?_
    refine a_bipush (pc := 24) X9 dX10_reads_24 rfl ?_
    refine a_bipush (pc := 26) X9 dX10_reads_26 rfl ?_
    refine a_callV (pc := 28) X9 E (m_X10_isAt (hG_2 _ _) (show inR 48 by decide) (show inR 57 by decide) hnn h) okX10 (is10 hnn) wM_X10_104 w_instanceMethod_X10_isAt w_selects_X10_isAt w_initialized_RX10 w_code_X10_isAt cp_X10_isAt pn_X10_isAt rfl (Nat.le_of_ble_eq_true rfl) ⟨Nat.le_of_ble_eq_true rfl, Nat.le_of_ble_eq_true rfl⟩ ⟨Nat.le_of_ble_eq_true rfl, Nat.le_of_ble_eq_true rfl⟩ dX10_reads_28 (fun _ _ q => False.elim q) (kZp (fun r_2 hr_2 h => ?_))
    refine a_if_eq (pc := 31) (tgt := 80) X9 dX10_reads_31 rfl (bool_inR hr_2) (fun c => ?_) (fun c => ?_)
    · have c_2 := c
      have h := h.1 c_2
      refine a_lload_n (pc := 80) X9 dX10_reads_80 rfl rfl ?_
      refine a_iload_n (pc := 81) X9 dX10_reads_81 rfl rfl ?_
      refine a_i2l (pc := 82) X9 dX10_reads_82 hi1 ?_
      refine a_iload_n (pc := 83) X9 dX10_reads_83 rfl rfl ?_
      refine a_i2l (pc := 84) X9 dX10_reads_84 hi2 ?_
      refine a_callS (pc := 85) X9 E (m_X10_in h_x3_1 (inR_inL hi1) (inR_inL hi2) hnn h) wM_X10_92 w_static_X10_in w_initialized_RX10 w_code_X10_in cp_X10_in pn_X10_in rfl (Nat.le_of_ble_eq_true rfl) ⟨Nat.le_of_ble_eq_true rfl, Nat.le_of_ble_eq_true rfl⟩ ⟨Nat.le_of_ble_eq_true rfl, Nat.le_of_ble_eq_true rfl⟩ dX10_reads_85 (fun _ _ q => False.elim q) (kZp (fun r_3 hr_3 h => ?_))
      refine a_if_ne (pc := 88) (tgt := 101) X9 dX10_reads_88 rfl (bool_inR hr_3) (fun c => ?_) (fun c => ?_)
      · have c_3 := c
        have h := h.1 c_3
        refine a_aload_n (pc := 101) X9 dX10_reads_101 rfl rfl ?_
        refine a_lload_n (pc := 102) X9 dX10_reads_102 rfl rfl ?_
        obtain ⟨g_1, h⟩ := h
        refine a_l2i (pc := 103) X9 dX10_reads_103 g_1 ?_
        refine a_putI (pc := 104) X9 okX10 11 rfl rfl (v := x3_1) wF_X10_112 (is10 hnn) dX10_reads_104 g_1 (fit_int _) (fun _ => ?_)
        obtain ⟨G_3, eG_3⟩ : ∃ G9, G9 = upG G_2 272 11 x3_1 := ⟨_, rfl⟩
        have hG_3 : GR G_3 := by rw [eG_3]; exact (GR.up hG_2 g_1)
        have h := h G_3 eG_3
        rw [← eG_3]
        refine a_iconst (pc := 107) X9 dX10_reads_107 ?_
        exact a_ireturn (pc := 108) X9 E rfl (fit_bool (Or.inr rfl)).1 (Nat.le_of_ble_eq_true rfl) (Nat.le_of_ble_eq_true rfl) dX10_reads_108 ⟨rfl, _, rfl, (Or.inr rfl), h⟩
      · have c_3 := c
        have h := h.2 c_3
        refine a_aload_n (pc := 91) X9 dX10_reads_91 rfl rfl ?_
        refine a_iconst (pc := 92) X9 dX10_reads_92 ?_
        refine a_aload_n (pc := 93) X9 dX10_reads_93 rfl rfl ?_
        refine a_getI (pc := 94) X9 okX10 10 rfl wF_X10_81 (is10 hnn) dX10_reads_94 ?_
        refine a_callV (pc := 97) X9 E (m_X10_fails (show inR 2 by decide) (hG_2 _ _) hnn h) okX10 (is10 hnn) wM_X10_100 w_instanceMethod_X10_fails w_selects_X10_fails w_initialized_RX10 w_code_X10_fails cp_X10_fails pn_X10_fails rfl (Nat.le_of_ble_eq_true rfl) ⟨Nat.le_of_ble_eq_true rfl, Nat.le_of_ble_eq_true rfl⟩ ⟨Nat.le_of_ble_eq_true rfl, Nat.le_of_ble_eq_true rfl⟩ dX10_reads_97 (fun _ _ q => False.elim q) (kZ (fun r_4 G_4 hr_4 h hG_4 => ?_))
        exact a_ireturn (pc := 100) X9 E rfl (fit_bool hr_4).1 (Nat.le_of_ble_eq_true rfl) (Nat.le_of_ble_eq_true rfl) dX10_reads_100 ⟨rfl, _, rfl, hr_4, h⟩
    · have c_2 := c
      have h := h.2 c_2
      refine a_lload_n (pc := 34) X9 dX10_reads_34 rfl rfl ?_
      refine a_ldc2 (pc := 35) X9 (n := 99999999) wCL_X10_108 dX10_reads_35 (by decide +kernel) ?_
      refine b_lcmp (pc := 38) X9 dX10_reads_38 h_x3_1 (by decide) ?_
      refine joinM1 (A := fun v_1 => inL v_1 → AW κ δ ρ0 nn 5 0 0 66 [some (vr 272), some (vi i1), some (vi i2), some (vl x3_1), none] [vl v_1] (SF nn) G_2) (fun v_1 h h_v_1 => ?_) (fun j_1 hj_1 h => ?_) h
      · refine a_lstore_n (pc := 66) X9 dX10_reads_66 rfl (Nat.le_of_ble_eq_true rfl) rfl rfl ?_
        refine a_aload_n (pc := 67) X9 dX10_reads_67 rfl rfl ?_
        refine a_dup (pc := 68) X9 dX10_reads_68 rfl ?_
        refine a_getI (pc := 69) X9 okX10 9 rfl wF_X10_78 (is10 hnn) dX10_reads_69 ?_
        refine a_iconst (pc := 72) X9 dX10_reads_72 ?_
        refine a_iadd (pc := 73) X9 dX10_reads_73 ?_
        obtain ⟨g_3, h⟩ := h
        refine a_putI (pc := 74) X9 okX10 9 rfl rfl (v := ((G_2 272 9) + 1)) wF_X10_78 (is10 hnn) dX10_reads_74 g_3 (fit_int _) (fun _ => ?_)
        obtain ⟨G_5, eG_5⟩ : ∃ G9, G9 = upG G_2 272 9 ((G_2 272 9) + 1) := ⟨_, rfl⟩
        have hG_5 : GR G_5 := by rw [eG_5]; exact (GR.up hG_2 g_3)
        have h := h G_5 eG_5
        rw [← eG_5]
        refine a_goto (pc := 77) (tgt := 19) X9 dX10_reads_77 rfl ?_
        exact hk_1 _ _ h h_v_1 hG_5
      · refine a_if_le (pc := 39) (tgt := 46) X9 dX10_reads_39 rfl lcv_inR (fun c => ?_) (fun c => ?_)
        · have c_5 : x3_1 ≤ 99999999 := lcv_le.mp c
          have h := h.1 c_5
          refine a_ldc2 (pc := 46) X9 (n := 10) wCL_X10_110 dX10_reads_46 (by decide +kernel) ?_
          refine a_lload_n (pc := 49) X9 dX10_reads_49 rfl rfl ?_
          refine a_lmul (pc := 50) X9 dX10_reads_50 ?_
          refine a_aload_n (pc := 51) X9 dX10_reads_51 rfl rfl ?_
          refine a_getR (pc := 52) X9 (q := 278) okX10 7 rfl wF_X10_26 (is10 hnn) rf10_7 dX10_reads_52 ?_
          refine a_aload_n (pc := 55) X9 dX10_reads_55 rfl rfl ?_
          refine a_getI (pc := 56) X9 okX10 9 rfl wF_X10_78 (is10 hnn) dX10_reads_56 ?_
          obtain ⟨g_4, h⟩ := h
          refine b_bald (pc := 59) X9 (ar10_7 hnn) (Nat.le_of_ble_eq_true rfl) g_4 dX10_reads_59 ?_
          refine a_i2l (pc := 60) X9 dX10_reads_60 (hG_2 _ _) ?_
          refine a_ladd (pc := 61) X9 dX10_reads_61 ?_
          refine a_ldc2 (pc := 62) X9 (n := 48) wCL_X10_88 dX10_reads_62 (by decide +kernel) ?_
          refine a_lsub (pc := 65) X9 dX10_reads_65 ?_
          obtain ⟨g_5, h⟩ := h
          exact hj_1 _ h g_5
        · have c_5 : 99999999 < x3_1 := lcv_gt.mp c
          have h := h.2 c_5
          refine a_lload_n (pc := 42) X9 dX10_reads_42 rfl rfl ?_
          refine a_goto (pc := 43) (tgt := 66) X9 dX10_reads_43 rfl ?_
          exact hj_1 _ h h_x3_1
  · have c_1 := c
    have h := h.2 c_1
    refine a_aload_n (pc := 7) X9 dX10_reads_7 rfl rfl ?_
    refine a_iconst (pc := 8) X9 dX10_reads_8 ?_
    refine a_aload_n (pc := 9) X9 dX10_reads_9 rfl rfl ?_
    refine a_getI (pc := 10) X9 okX10 10 rfl wF_X10_81 (is10 hnn) dX10_reads_10 ?_
    refine a_callV (pc := 13) X9 E (m_X10_fails (show inR 1 by decide) (hG_1 _ _) hnn h) okX10 (is10 hnn) wM_X10_100 w_instanceMethod_X10_fails w_selects_X10_fails w_initialized_RX10 w_code_X10_fails cp_X10_fails pn_X10_fails rfl (Nat.le_of_ble_eq_true rfl) ⟨Nat.le_of_ble_eq_true rfl, Nat.le_of_ble_eq_true rfl⟩ ⟨Nat.le_of_ble_eq_true rfl, Nat.le_of_ble_eq_true rfl⟩ dX10_reads_13 (fun _ _ q => False.elim q) (kZ (fun r_5 G_6 hr_5 h hG_6 => ?_))
    exact a_ireturn (pc := 16) X9 E rfl (fit_bool hr_5).1 (Nat.le_of_ble_eq_true rfl) (Nat.le_of_ble_eq_true rfl) dX10_reads_16 ⟨rfl, _, rfl, hr_5, h⟩
set_option maxHeartbeats 4000000 in
set_option maxRecDepth 100000 in
theorem m_X10_takes {nn : Nat} {w1 : Nat} {G : GH} {Q : Int → GH → Prop} (hw1 : w1 < 10) (hnn : 285 ≤ nn) (h : f_X10_takes w1 G Q) : Mt yX10_takes cX10_takes 4 (some .boolean) 4 85 0 0 [vr 272, vr (strB + w1)] (SF nn) G (fun v S' G' => S' = SF nn ∧ qZ Q v S' G') (fun E S' G' => S' = SF nn ∧ False) := by
  refine Mt.of (l0 := [some (vr 272), some (vr (strB + w1)), none, none]) (by decide) (Nat.le_of_ble_eq_true rfl) rfl ?_
  intro κ δ ρ0 X9 E hG
  replace X9 : CX κ δ RX10 cX10_takes 4 (some .boolean) := X9
  refine a_aload_n (pc := 0) X9 dX10_takes_0 rfl rfl ?_
  refine a_callV (pc := 1) X9 E (m_X10_nextByte  hnn h) okX10 (is10 hnn) wM_X10_84 w_instanceMethod_X10_nextByte w_selects_X10_nextByte w_initialized_RX10 w_code_X10_nextByte cp_X10_nextByte pn_X10_nextByte rfl (Nat.le_of_ble_eq_true rfl) ⟨Nat.le_of_ble_eq_true rfl, Nat.le_of_ble_eq_true rfl⟩ ⟨Nat.le_of_ble_eq_true rfl, Nat.le_of_ble_eq_true rfl⟩ dX10_takes_1 (fun _ _ q => False.elim q) (kI (fun r_1 G_1 hr_1 h hG_1 => ?_))
  refine a_i2l (pc := 4) X9 dX10_takes_4 hr_1 ?_
  refine a_ldc2 (pc := 5) X9 (n := 97) wCL_X10_115 dX10_takes_5 (by decide +kernel) ?_
  refine a_ldc2 (pc := 8) X9 (n := 122) wCL_X10_117 dX10_takes_8 (by decide +kernel) ?_
  refine a_callS (pc := 11) X9 E (m_X10_in (inR_inL hr_1) (show inL 97 by decide) (show inL 122 by decide) hnn h) wM_X10_92 w_static_X10_in w_initialized_RX10 w_code_X10_in cp_X10_in pn_X10_in rfl (Nat.le_of_ble_eq_true rfl) ⟨Nat.le_of_ble_eq_true rfl, Nat.le_of_ble_eq_true rfl⟩ ⟨Nat.le_of_ble_eq_true rfl, Nat.le_of_ble_eq_true rfl⟩ dX10_takes_11 (fun _ _ q => False.elim q) (kZp (fun r_2 hr_2 h => ?_))
  refine a_if_ne (pc := 14) (tgt := 19) X9 dX10_takes_14 rfl (bool_inR hr_2) (fun c => ?_) (fun c => ?_)
  · have c_1 := c
    have h := h.1 c_1
    refine a_aload_n (pc := 19) X9 dX10_takes_19 rfl rfl ?_
    refine a_getI (pc := 20) X9 okX10 10 rfl wF_X10_81 (is10 hnn) dX10_takes_20 ?_
    refine a_istore_n (pc := 23) X9 dX10_takes_23 rfl (Nat.le_of_ble_eq_true rfl) rfl rfl ?_
    refine loopM1 (A := fun x2_1 => inR x2_1 → AW κ δ ρ0 nn 4 0 0 24 [some (vr 272), some (vr (strB + w1)), some (vi x2_1), none] [] (SF nn) G_1) (fun k_1 hk_1 x2_1 h h_x2_1 => ?_) _ h (hG_1 _ _)
    refine a_aload_n (pc := 24) X9 dX10_takes_24 rfl rfl ?_
    refine a_iload_n (pc := 25) X9 dX10_takes_25 rfl rfl ?_
    refine a_bipush (pc := 26) X9 dX10_takes_26 rfl ?_
    refine a_bipush (pc := 28) X9 dX10_takes_28 rfl ?_
    refine a_callV (pc := 30) X9 E (m_X10_isAt h_x2_1 (show inR 97 by decide) (show inR 122 by decide) hnn h) okX10 (is10 hnn) wM_X10_104 w_instanceMethod_X10_isAt w_selects_X10_isAt w_initialized_RX10 w_code_X10_isAt cp_X10_isAt pn_X10_isAt rfl (Nat.le_of_ble_eq_true rfl) ⟨Nat.le_of_ble_eq_true rfl, Nat.le_of_ble_eq_true rfl⟩ ⟨Nat.le_of_ble_eq_true rfl, Nat.le_of_ble_eq_true rfl⟩ dX10_takes_30 (fun _ _ q => False.elim q) (kZp (fun r_3 hr_3 h => ?_))
    refine a_if_eq (pc := 33) (tgt := 42) X9 dX10_takes_33 rfl (bool_inR hr_3) (fun c => ?_) (fun c => ?_)
    · have c_2 := c
      have h := h.1 c_2
      refine a_iload_n (pc := 42) X9 dX10_takes_42 rfl rfl ?_
      refine a_aload_n (pc := 43) X9 dX10_takes_43 rfl rfl ?_
      refine a_getI (pc := 44) X9 okX10 10 rfl wF_X10_81 (is10 hnn) dX10_takes_44 ?_
      refine a_isub (pc := 47) X9 dX10_takes_47 ?_
      refine a_aload_n (pc := 48) X9 dX10_takes_48 rfl rfl ?_
      refine b_slen (pc := 49) X9 E hw1 wM_X10_119 (Nat.le_of_ble_eq_true rfl) ⟨Nat.le_of_ble_eq_true rfl, Nat.le_of_ble_eq_true rfl⟩ ⟨Nat.le_of_ble_eq_true rfl, Nat.le_of_ble_eq_true rfl⟩ dX10_takes_49 ?_
      obtain ⟨g_1, h⟩ := h
      refine a_icmp_eq (pc := 52) (tgt := 57) X9 dX10_takes_52 rfl g_1 slen_inR (fun c => ?_) (fun c => ?_)
      · have c_3 := c
        have h := h.1 c_3
        refine a_iconst (pc := 57) X9 dX10_takes_57 ?_
        refine a_istore_n (pc := 58) X9 dX10_takes_58 rfl (Nat.le_of_ble_eq_true rfl) rfl rfl ?_
        refine loopM1 (A := fun x3_1 => inR x3_1 → AW κ δ ρ0 nn 4 0 0 59 [some (vr 272), some (vr (strB + w1)), some (vi x2_1), some (vi x3_1)] [] (SF nn) G_1) (fun k_2 hk_2 x3_1 h h_x3_1 => ?_) _ h (by decide)
        refine a_iload_n (pc := 59) X9 dX10_takes_59 rfl rfl ?_
        refine a_aload_n (pc := 60) X9 dX10_takes_60 rfl rfl ?_
        refine b_slen (pc := 61) X9 E hw1 wM_X10_119 (Nat.le_of_ble_eq_true rfl) ⟨Nat.le_of_ble_eq_true rfl, Nat.le_of_ble_eq_true rfl⟩ ⟨Nat.le_of_ble_eq_true rfl, Nat.le_of_ble_eq_true rfl⟩ dX10_takes_61 ?_
        refine a_icmp_ge (pc := 64) (tgt := 94) X9 dX10_takes_64 rfl h_x3_1 slen_inR (fun c => ?_) (fun c => ?_)
        · have c_4 := c
          have h := h.1 c_4
          refine a_aload_n (pc := 94) X9 dX10_takes_94 rfl rfl ?_
          refine a_iload_n (pc := 95) X9 dX10_takes_95 rfl rfl ?_
          refine a_putI (pc := 96) X9 okX10 9 rfl rfl (v := x2_1) wF_X10_78 (is10 hnn) dX10_takes_96 h_x2_1 (fit_int _) (fun _ => ?_)
          obtain ⟨G_2, eG_2⟩ : ∃ G9, G9 = upG G_1 272 9 x2_1 := ⟨_, rfl⟩
          have hG_2 : GR G_2 := by rw [eG_2]; exact (GR.up hG_1 h_x2_1)
          have h := h G_2 eG_2
          rw [← eG_2]
          refine a_iconst (pc := 99) X9 dX10_takes_99 ?_
          exact a_ireturn (pc := 100) X9 E rfl (fit_bool (Or.inr rfl)).1 (Nat.le_of_ble_eq_true rfl) (Nat.le_of_ble_eq_true rfl) dX10_takes_100 ⟨rfl, _, rfl, (Or.inr rfl), h⟩
        · have c_4 := c
          have h := h.2 c_4
          refine a_aload_n (pc := 67) X9 dX10_takes_67 rfl rfl ?_
          refine a_getR (pc := 68) X9 (q := 278) okX10 7 rfl wF_X10_26 (is10 hnn) rf10_7 dX10_takes_68 ?_
          refine a_aload_n (pc := 71) X9 dX10_takes_71 rfl rfl ?_
          refine a_getI (pc := 72) X9 okX10 10 rfl wF_X10_81 (is10 hnn) dX10_takes_72 ?_
          refine a_iload_n (pc := 75) X9 dX10_takes_75 rfl rfl ?_
          refine a_iadd (pc := 76) X9 dX10_takes_76 ?_
          obtain ⟨g_2, h⟩ := h
          refine b_bald (pc := 77) X9 (ar10_7 hnn) (Nat.le_of_ble_eq_true rfl) g_2 dX10_takes_77 ?_
          refine a_aload_n (pc := 78) X9 dX10_takes_78 rfl rfl ?_
          refine a_iload_n (pc := 79) X9 dX10_takes_79 rfl rfl ?_
          obtain ⟨g_3, h⟩ := h
          refine b_schr (pc := 80) X9 E hw1 g_3 wM_X10_123 (Nat.le_of_ble_eq_true rfl) ⟨Nat.le_of_ble_eq_true rfl, Nat.le_of_ble_eq_true rfl⟩ ⟨Nat.le_of_ble_eq_true rfl, Nat.le_of_ble_eq_true rfl⟩ dX10_takes_80 ?_
          refine a_icmp_eq (pc := 83) (tgt := 88) X9 dX10_takes_83 rfl (hG_1 _ _) schr_inR (fun c => ?_) (fun c => ?_)
          · have c_5 := c
            have h := h.1 c_5
            refine a_iinc (pc := 88) X9 dX10_takes_88 rfl (Nat.le_of_ble_eq_true rfl) rfl rfl ?_
            refine a_goto (pc := 91) (tgt := 59) X9 dX10_takes_91 rfl ?_
            have q_1 : inR ((slen w1)) := slen_inR
            have q_2 : inR (x3_1) := h_x3_1
            have g_4 : inR ((x3_1 + 1)) := ⟨by omega, by omega⟩
            exact hk_2 _ h g_4
          · have c_5 := c
            have h := h.2 c_5
            refine a_iconst (pc := 86) X9 dX10_takes_86 ?_
            exact a_ireturn (pc := 87) X9 E rfl (fit_bool (Or.inl rfl)).1 (Nat.le_of_ble_eq_true rfl) (Nat.le_of_ble_eq_true rfl) dX10_takes_87 ⟨rfl, _, rfl, (Or.inl rfl), h⟩
      · have c_3 := c
        have h := h.2 c_3
        refine a_iconst (pc := 55) X9 dX10_takes_55 ?_
        exact a_ireturn (pc := 56) X9 E rfl (fit_bool (Or.inl rfl)).1 (Nat.le_of_ble_eq_true rfl) (Nat.le_of_ble_eq_true rfl) dX10_takes_56 ⟨rfl, _, rfl, (Or.inl rfl), h⟩
    · have c_2 := c
      have h := h.2 c_2
      refine a_iinc (pc := 36) X9 dX10_takes_36 rfl (Nat.le_of_ble_eq_true rfl) rfl rfl ?_
      refine a_goto (pc := 39) (tgt := 24) X9 dX10_takes_39 rfl ?_
      obtain ⟨g_5, h⟩ := h
      exact hk_1 _ h g_5
  · have c_1 := c
    have h := h.2 c_1
    refine a_iconst (pc := 17) X9 dX10_takes_17 ?_
    exact a_ireturn (pc := 18) X9 E rfl (fit_bool (Or.inl rfl)).1 (Nat.le_of_ble_eq_true rfl) (Nat.le_of_ble_eq_true rfl) dX10_takes_18 ⟨rfl, _, rfl, (Or.inl rfl), h⟩
set_option maxHeartbeats 4000000 in
set_option maxRecDepth 100000 in
theorem m_X10_readBoard {nn : Nat}  {G : GH} {Q : Int → GH → Prop}  (hnn : 285 ≤ nn) (h : f_X10_readBoard G Q) : Mt yX10_readBoard cX10_readBoard 1 (some .boolean) 5 108 0 0 [vr 272] (SF nn) G (fun v S' G' => S' = SF nn ∧ qZ Q v S' G') (fun E S' G' => S' = SF nn ∧ False) := by
  refine Mt.of (l0 := [some (vr 272)]) (by decide) (Nat.le_of_ble_eq_true rfl) rfl ?_
  intro κ δ ρ0 X9 E hG
  replace X9 : CX κ δ RX10 cX10_readBoard 1 (some .boolean) := X9
  refine a_aload_n (pc := 0) X9 dX10_readBoard_0 rfl rfl ?_
  refine a_callV (pc := 1) X9 E (m_X10_begins  hnn h) okX10 (is10 hnn) wM_X10_55 w_instanceMethod_X10_begins w_selects_X10_begins w_initialized_RX10 w_code_X10_begins cp_X10_begins pn_X10_begins rfl (Nat.le_of_ble_eq_true rfl) ⟨Nat.le_of_ble_eq_true rfl, Nat.le_of_ble_eq_true rfl⟩ ⟨Nat.le_of_ble_eq_true rfl, Nat.le_of_ble_eq_true rfl⟩ dX10_readBoard_1 (fun _ _ q => False.elim q) (kV (fun G_1 h hG_1 => ?_))
  refine loopM1 (A := fun G_2 => GR G_2 → AW κ δ ρ0 nn 1 0 0 4 [some (vr 272)] [] (SF nn) G_2) (fun k_1 hk_1 G_2 h hG_2 => ?_) _ h hG_1
  refine a_aload_n (pc := 4) X9 dX10_readBoard_4 rfl rfl ?_
  refine a_iconst (pc := 5) X9 dX10_readBoard_5 ?_
  refine a_bipush (pc := 6) X9 dX10_readBoard_6 rfl ?_
  refine a_callV (pc := 8) X9 E (m_X10_reads (show inR 1 by decide) (show inR 6 by decide) hnn h) okX10 (is10 hnn) wM_X10_127 w_instanceMethod_X10_reads w_selects_X10_reads w_initialized_RX10 w_code_X10_reads cp_X10_reads pn_X10_reads rfl (Nat.le_of_ble_eq_true rfl) ⟨Nat.le_of_ble_eq_true rfl, Nat.le_of_ble_eq_true rfl⟩ ⟨Nat.le_of_ble_eq_true rfl, Nat.le_of_ble_eq_true rfl⟩ dX10_readBoard_8 (fun _ _ q => False.elim q) (kZ (fun r_2 G_3 hr_2 h hG_3 => ?_))
  refine a_if_ne (pc := 11) (tgt := 16) X9 dX10_readBoard_11 rfl (bool_inR hr_2) (fun c => ?_) (fun c => ?_)
  · have c_1 := c
    have h := h.1 c_1
    refine a_aload_n (pc := 16) X9 dX10_readBoard_16 rfl rfl ?_
    refine a_getR (pc := 17) X9 (q := 273) okX10 1 rfl wF_X10_9 (is10 hnn) rf10_1 dX10_readBoard_17 ?_
    refine a_iconst (pc := 20) X9 dX10_readBoard_20 ?_
    refine a_iald (pc := 21) X9 (ar10_1 hnn) (Nat.le_of_ble_eq_true rfl) (j := 0) rfl (Nat.le_of_ble_eq_true rfl) dX10_readBoard_21 ?_
    refine a_iconst (pc := 22) X9 dX10_readBoard_22 ?_
    refine a_icmp_ne (pc := 23) (tgt := 36) X9 dX10_readBoard_23 rfl (hG_3 _ _) (by decide) (fun c => ?_) (fun c => ?_)
    · have c_2 := c
      have h := h.1 c_2
      refine a_aload_n (pc := 36) X9 dX10_readBoard_36 rfl rfl ?_
      refine a_getR (pc := 37) X9 (q := 273) okX10 1 rfl wF_X10_9 (is10 hnn) rf10_1 dX10_readBoard_37 ?_
      refine a_bipush (pc := 40) X9 dX10_readBoard_40 rfl ?_
      refine a_aload_n (pc := 42) X9 dX10_readBoard_42 rfl rfl ?_
      refine a_getR (pc := 43) X9 (q := 273) okX10 1 rfl wF_X10_9 (is10 hnn) rf10_1 dX10_readBoard_43 ?_
      refine a_iconst (pc := 46) X9 dX10_readBoard_46 ?_
      refine a_iald (pc := 47) X9 (ar10_1 hnn) (Nat.le_of_ble_eq_true rfl) (j := 0) rfl (Nat.le_of_ble_eq_true rfl) dX10_readBoard_47 ?_
      refine a_iadd (pc := 48) X9 dX10_readBoard_48 ?_
      refine a_aload_n (pc := 49) X9 dX10_readBoard_49 rfl rfl ?_
      refine a_getI (pc := 50) X9 okX10 11 rfl wF_X10_112 (is10 hnn) dX10_readBoard_50 ?_
      obtain ⟨g_1, h⟩ := h
      refine b_iast (pc := 53) X9 (i := (12 + (G_3 273 0))) (v := (G_3 272 11)) (ar10_1 hnn) (Nat.le_of_ble_eq_true rfl) g_1 (hG_3 _ _) dX10_readBoard_53 ?_
      obtain ⟨G_4, eG_4⟩ : ∃ G9, G9 = upG G_3 273 ((12 + (G_3 273 0))).toNat (G_3 272 11) := ⟨_, rfl⟩
      have hG_4 : GR G_4 := by rw [eG_4]; exact (GR.up hG_3 (hG_3 _ _))
      have h := h G_4 eG_4
      rw [← eG_4]
      refine a_aload_n (pc := 54) X9 dX10_readBoard_54 rfl rfl ?_
      refine a_getR (pc := 55) X9 (q := 273) okX10 1 rfl wF_X10_9 (is10 hnn) rf10_1 dX10_readBoard_55 ?_
      refine a_iconst (pc := 58) X9 dX10_readBoard_58 ?_
      refine a_dup2 (pc := 59) X9 dX10_readBoard_59 rfl rfl ?_
      refine a_iald (pc := 60) X9 (ar10_1 hnn) (Nat.le_of_ble_eq_true rfl) (j := 0) rfl (Nat.le_of_ble_eq_true rfl) dX10_readBoard_60 ?_
      refine a_iconst (pc := 61) X9 dX10_readBoard_61 ?_
      refine a_iadd (pc := 62) X9 dX10_readBoard_62 ?_
      obtain ⟨g_2, h⟩ := h
      refine a_iast (pc := 63) X9 (v := ((G_4 273 0) + 1)) (ar10_1 hnn) (Nat.le_of_ble_eq_true rfl) (j := 0) rfl (Nat.le_of_ble_eq_true rfl) g_2 dX10_readBoard_63 (fun _ => ?_)
      obtain ⟨G_5, eG_5⟩ : ∃ G9, G9 = upG G_4 273 0 ((G_4 273 0) + 1) := ⟨_, rfl⟩
      have hG_5 : GR G_5 := by rw [eG_5]; exact (GR.up hG_4 g_2)
      have h := h G_5 eG_5
      rw [← eG_5]
      refine a_aload_n (pc := 64) X9 dX10_readBoard_64 rfl rfl ?_
      refine a_callV (pc := 65) X9 E (m_X10_isDigitNext  hnn h) okX10 (is10 hnn) wM_X10_96 w_instanceMethod_X10_isDigitNext w_selects_X10_isDigitNext w_initialized_RX10 w_code_X10_isDigitNext cp_X10_isDigitNext pn_X10_isDigitNext rfl (Nat.le_of_ble_eq_true rfl) ⟨Nat.le_of_ble_eq_true rfl, Nat.le_of_ble_eq_true rfl⟩ ⟨Nat.le_of_ble_eq_true rfl, Nat.le_of_ble_eq_true rfl⟩ dX10_readBoard_65 (fun _ _ q => False.elim q) (kZ (fun r_3 G_6 hr_3 h hG_6 => ?_))
      refine a_if_ne (pc := 68) (tgt := 4) X9 dX10_readBoard_68 rfl (bool_inR hr_3) (fun c => ?_) (fun c => ?_)
      · have c_3 := c
        have h := h.1 c_3
        exact hk_1 _ h hG_6
      · have c_3 := c
        have h := h.2 c_3
        refine a_aload_n (pc := 71) X9 dX10_readBoard_71 rfl rfl ?_
        refine a_getR (pc := 72) X9 (q := 273) okX10 1 rfl wF_X10_9 (is10 hnn) rf10_1 dX10_readBoard_72 ?_
        refine a_iconst (pc := 75) X9 dX10_readBoard_75 ?_
        refine a_aload_n (pc := 76) X9 dX10_readBoard_76 rfl rfl ?_
        refine b_ldcs (pc := 77) X9 (i := 1) (List.mem_of_getElem? (i := 11) rfl) dX10_readBoard_77 ?_
        refine a_callV (pc := 79) X9 E (m_X10_takes (Nat.le_of_ble_eq_true rfl) hnn h) okX10 (is10 hnn) wM_X10_132 w_instanceMethod_X10_takes w_selects_X10_takes w_initialized_RX10 w_code_X10_takes cp_X10_takes pn_X10_takes rfl (Nat.le_of_ble_eq_true rfl) ⟨Nat.le_of_ble_eq_true rfl, Nat.le_of_ble_eq_true rfl⟩ ⟨Nat.le_of_ble_eq_true rfl, Nat.le_of_ble_eq_true rfl⟩ dX10_readBoard_79 (fun _ _ q => False.elim q) (kZ (fun r_4 G_7 hr_4 h hG_7 => ?_))
        refine joinM1 (A := fun v_1 => (v_1 = 0 ∨ v_1 = 1) → AW κ δ ρ0 nn 1 0 0 90 [some (vr 272)] [vi v_1, vi 1, vr 273] (SF nn) G_7) (fun v_1 h h_v_1 => ?_) (fun j_1 hj_1 h => ?_) h
        · refine a_iast (pc := 90) X9 (v := v_1) (ar10_1 hnn) (Nat.le_of_ble_eq_true rfl) (j := 1) rfl (Nat.le_of_ble_eq_true rfl) (bool_inR h_v_1) dX10_readBoard_90 (fun _ => ?_)
          obtain ⟨G_8, eG_8⟩ : ∃ G9, G9 = upG G_7 273 1 v_1 := ⟨_, rfl⟩
          have hG_8 : GR G_8 := by rw [eG_8]; exact (GR.up hG_7 (bool_inR h_v_1))
          have h := h G_8 eG_8
          rw [← eG_8]
          refine a_aload_n (pc := 91) X9 dX10_readBoard_91 rfl rfl ?_
          refine a_getR (pc := 92) X9 (q := 273) okX10 1 rfl wF_X10_9 (is10 hnn) rf10_1 dX10_readBoard_92 ?_
          refine a_iconst (pc := 95) X9 dX10_readBoard_95 ?_
          refine a_aload_n (pc := 96) X9 dX10_readBoard_96 rfl rfl ?_
          refine b_ldcs (pc := 97) X9 (i := 2) (List.mem_of_getElem? (i := 12) rfl) dX10_readBoard_97 ?_
          refine a_callV (pc := 99) X9 E (m_X10_takes (Nat.le_of_ble_eq_true rfl) hnn h) okX10 (is10 hnn) wM_X10_132 w_instanceMethod_X10_takes w_selects_X10_takes w_initialized_RX10 w_code_X10_takes cp_X10_takes pn_X10_takes rfl (Nat.le_of_ble_eq_true rfl) ⟨Nat.le_of_ble_eq_true rfl, Nat.le_of_ble_eq_true rfl⟩ ⟨Nat.le_of_ble_eq_true rfl, Nat.le_of_ble_eq_true rfl⟩ dX10_readBoard_99 (fun _ _ q => False.elim q) (kZ (fun r_5 G_9 hr_5 h hG_9 => ?_))
          refine a_if_eq (pc := 102) (tgt := 109) X9 dX10_readBoard_102 rfl (bool_inR hr_5) (fun c => ?_) (fun c => ?_)
          · have c_5 := c
            have h := h.1 c_5
            refine a_iconst (pc := 109) X9 dX10_readBoard_109 ?_
            refine a_iast (pc := 110) X9 (v := 0) (ar10_1 hnn) (Nat.le_of_ble_eq_true rfl) (j := 2) rfl (Nat.le_of_ble_eq_true rfl) (by decide) dX10_readBoard_110 (fun _ => ?_)
            obtain ⟨G_10, eG_10⟩ : ∃ G9, G9 = upG G_9 273 2 0 := ⟨_, rfl⟩
            have hG_10 : GR G_10 := by rw [eG_10]; exact (GR.up hG_9 (by decide))
            have h := h G_10 eG_10
            rw [← eG_10]
            refine a_iconst (pc := 111) X9 dX10_readBoard_111 ?_
            exact a_ireturn (pc := 112) X9 E rfl (fit_bool (Or.inr rfl)).1 (Nat.le_of_ble_eq_true rfl) (Nat.le_of_ble_eq_true rfl) dX10_readBoard_112 ⟨rfl, _, rfl, (Or.inr rfl), h⟩
          · have c_5 := c
            have h := h.2 c_5
            refine a_iconst (pc := 105) X9 dX10_readBoard_105 ?_
            refine a_goto (pc := 106) (tgt := 110) X9 dX10_readBoard_106 rfl ?_
            refine a_iast (pc := 110) X9 (v := 1) (ar10_1 hnn) (Nat.le_of_ble_eq_true rfl) (j := 2) rfl (Nat.le_of_ble_eq_true rfl) (by decide) dX10_readBoard_110 (fun _ => ?_)
            obtain ⟨G_11, eG_11⟩ : ∃ G9, G9 = upG G_9 273 2 1 := ⟨_, rfl⟩
            have hG_11 : GR G_11 := by rw [eG_11]; exact (GR.up hG_9 (by decide))
            have h := h G_11 eG_11
            rw [← eG_11]
            refine a_iconst (pc := 111) X9 dX10_readBoard_111 ?_
            exact a_ireturn (pc := 112) X9 E rfl (fit_bool (Or.inr rfl)).1 (Nat.le_of_ble_eq_true rfl) (Nat.le_of_ble_eq_true rfl) dX10_readBoard_112 ⟨rfl, _, rfl, (Or.inr rfl), h⟩
        · refine a_if_eq (pc := 82) (tgt := 89) X9 dX10_readBoard_82 rfl (bool_inR hr_4) (fun c => ?_) (fun c => ?_)
          · have c_6 := c
            have h := h.1 c_6
            refine a_iconst (pc := 89) X9 dX10_readBoard_89 ?_
            exact hj_1 _ h (Or.inl rfl)
          · have c_6 := c
            have h := h.2 c_6
            refine a_iconst (pc := 85) X9 dX10_readBoard_85 ?_
            refine a_goto (pc := 86) (tgt := 90) X9 dX10_readBoard_86 rfl ?_
            exact hj_1 _ h (Or.inr rfl)
    · have c_2 := c
      have h := h.2 c_2
      refine a_aload_n (pc := 26) X9 dX10_readBoard_26 rfl rfl ?_
      refine a_iconst (pc := 27) X9 dX10_readBoard_27 ?_
      refine a_aload_n (pc := 28) X9 dX10_readBoard_28 rfl rfl ?_
      refine a_getI (pc := 29) X9 okX10 10 rfl wF_X10_81 (is10 hnn) dX10_readBoard_29 ?_
      refine a_callV (pc := 32) X9 E (m_X10_fails (show inR 3 by decide) (hG_3 _ _) hnn h) okX10 (is10 hnn) wM_X10_100 w_instanceMethod_X10_fails w_selects_X10_fails w_initialized_RX10 w_code_X10_fails cp_X10_fails pn_X10_fails rfl (Nat.le_of_ble_eq_true rfl) ⟨Nat.le_of_ble_eq_true rfl, Nat.le_of_ble_eq_true rfl⟩ ⟨Nat.le_of_ble_eq_true rfl, Nat.le_of_ble_eq_true rfl⟩ dX10_readBoard_32 (fun _ _ q => False.elim q) (kZ (fun r_6 G_12 hr_6 h hG_12 => ?_))
      exact a_ireturn (pc := 35) X9 E rfl (fit_bool hr_6).1 (Nat.le_of_ble_eq_true rfl) (Nat.le_of_ble_eq_true rfl) dX10_readBoard_35 ⟨rfl, _, rfl, hr_6, h⟩
  · have c_1 := c
    have h := h.2 c_1
    refine a_iconst (pc := 14) X9 dX10_readBoard_14 ?_
    exact a_ireturn (pc := 15) X9 E rfl (fit_bool (Or.inl rfl)).1 (Nat.le_of_ble_eq_true rfl) (Nat.le_of_ble_eq_true rfl) dX10_readBoard_15 ⟨rfl, _, rfl, (Or.inl rfl), h⟩
set_option maxHeartbeats 4000000 in
set_option maxRecDepth 100000 in
theorem m_X10_cardAt {nn : Nat} {i0 : Int} {i1 : Int} {G : GH} {Q : Int → Prop} (hi0 : inR i0) (hi1 : inR i1) (hnn : 285 ≤ nn) (h : f_X10_cardAt i0 i1 Q) : Mt yX10_cardAt cX10_cardAt 2 (some .int) 0 0 0 0 [vi i0, vi i1] (SF nn) G (fun v S' G' => S' = SF nn ∧ qI (fun r9 G9 => G9 = G ∧ Q r9) v S' G') (fun E S' G' => S' = SF nn ∧ False) := by
  refine Mt.of (l0 := [some (vi i0), some (vi i1)]) (by decide) (Nat.le_of_ble_eq_true rfl) rfl ?_
  intro κ δ ρ0 X9 E hG
  replace X9 : CX κ δ RX10 cX10_cardAt 2 (some .int) := X9
  refine a_bipush (pc := 0) X9 dX10_cardAt_0 rfl ?_
  refine a_iconst (pc := 2) X9 dX10_cardAt_2 ?_
  refine a_iload_n (pc := 3) X9 dX10_cardAt_3 rfl rfl ?_
  refine a_imul (pc := 4) X9 dX10_cardAt_4 ?_
  refine a_iadd (pc := 5) X9 dX10_cardAt_5 ?_
  refine a_iload_n (pc := 6) X9 dX10_cardAt_6 rfl rfl ?_
  refine a_iadd (pc := 7) X9 dX10_cardAt_7 ?_
  obtain ⟨g_1, h⟩ := h
  exact a_ireturn (pc := 8) X9 E rfl rfl (Nat.le_of_ble_eq_true rfl) (Nat.le_of_ble_eq_true rfl) dX10_cardAt_8 ⟨rfl, _, rfl, g_1, rfl, h⟩
set_option maxHeartbeats 4000000 in
set_option maxRecDepth 100000 in
theorem m_X10_comesCard {nn : Nat} {i1 : Int} {i2 : Int} {i3 : Int} {G : GH} {Q : Int → GH → Prop} (hi1 : inR i1) (hi2 : inR i2) (hi3 : inR i3) (hnn : 285 ≤ nn) (h : f_X10_comesCard i1 i2 i3 G Q) : Mt yX10_comesCard cX10_comesCard 5 (some .int) 1 21 0 0 [vr 272, vi i1, vi i2, vi i3] (SF nn) G (fun v S' G' => S' = SF nn ∧ qI Q v S' G') (fun E S' G' => S' = SF nn ∧ False) := by
  refine Mt.of (l0 := [some (vr 272), some (vi i1), some (vi i2), some (vi i3), none]) (by decide) (Nat.le_of_ble_eq_true rfl) rfl ?_
  intro κ δ ρ0 X9 E hG
  replace X9 : CX κ δ RX10 cX10_comesCard 5 (some .int) := X9
  refine a_aload_n (pc := 0) X9 dX10_comesCard_0 rfl rfl ?_
  refine a_getR (pc := 1) X9 (q := 273) okX10 1 rfl wF_X10_9 (is10 hnn) rf10_1 dX10_comesCard_1 ?_
  refine a_iconst (pc := 4) X9 dX10_comesCard_4 ?_
  refine a_iald (pc := 5) X9 (ar10_1 hnn) (Nat.le_of_ble_eq_true rfl) (j := 3) rfl (Nat.le_of_ble_eq_true rfl) dX10_comesCard_5 ?_
  refine a_istore (pc := 6) X9 dX10_comesCard_6 (Nat.le_of_ble_eq_true rfl) rfl rfl ?_
  refine a_aload_n (pc := 8) X9 dX10_comesCard_8 rfl rfl ?_
  refine a_getR (pc := 9) X9 (q := 273) okX10 1 rfl wF_X10_9 (is10 hnn) rf10_1 dX10_comesCard_9 ?_
  refine a_iload (pc := 12) X9 dX10_comesCard_12 rfl ?_
  refine a_iconst (pc := 14) X9 dX10_comesCard_14 ?_
  refine a_callS (pc := 15) X9 E (m_X10_cardAt (hG _ _) (show inR 0 by decide) hnn h) wM_X10_205 w_static_X10_cardAt w_initialized_RX10 w_code_X10_cardAt cp_X10_cardAt pn_X10_cardAt rfl (Nat.le_of_ble_eq_true rfl) ⟨Nat.le_of_ble_eq_true rfl, Nat.le_of_ble_eq_true rfl⟩ ⟨Nat.le_of_ble_eq_true rfl, Nat.le_of_ble_eq_true rfl⟩ dX10_comesCard_15 (fun _ _ q => False.elim q) (kIp (fun r_1 hr_1 h => ?_))
  refine a_iload_n (pc := 18) X9 dX10_comesCard_18 rfl rfl ?_
  obtain ⟨g_1, h⟩ := h
  refine b_iast (pc := 19) X9 (i := r_1) (v := i1) (ar10_1 hnn) (Nat.le_of_ble_eq_true rfl) g_1 hi1 dX10_comesCard_19 ?_
  obtain ⟨G_1, eG_1⟩ : ∃ G9, G9 = upG G 273 (r_1).toNat i1 := ⟨_, rfl⟩
  have hG_1 : GR G_1 := by rw [eG_1]; exact (GR.up hG hi1)
  have h := h G_1 eG_1
  rw [← eG_1]
  refine a_aload_n (pc := 20) X9 dX10_comesCard_20 rfl rfl ?_
  refine a_getR (pc := 21) X9 (q := 273) okX10 1 rfl wF_X10_9 (is10 hnn) rf10_1 dX10_comesCard_21 ?_
  refine a_iload (pc := 24) X9 dX10_comesCard_24 rfl ?_
  refine a_iconst (pc := 26) X9 dX10_comesCard_26 ?_
  refine a_callS (pc := 27) X9 E (m_X10_cardAt (hG _ _) (show inR 1 by decide) hnn h) wM_X10_205 w_static_X10_cardAt w_initialized_RX10 w_code_X10_cardAt cp_X10_cardAt pn_X10_cardAt rfl (Nat.le_of_ble_eq_true rfl) ⟨Nat.le_of_ble_eq_true rfl, Nat.le_of_ble_eq_true rfl⟩ ⟨Nat.le_of_ble_eq_true rfl, Nat.le_of_ble_eq_true rfl⟩ dX10_comesCard_27 (fun _ _ q => False.elim q) (kIp (fun r_2 hr_2 h => ?_))
  refine a_iload_n (pc := 30) X9 dX10_comesCard_30 rfl rfl ?_
  obtain ⟨g_2, h⟩ := h
  refine b_iast (pc := 31) X9 (i := r_2) (v := i2) (ar10_1 hnn) (Nat.le_of_ble_eq_true rfl) g_2 hi2 dX10_comesCard_31 ?_
  obtain ⟨G_2, eG_2⟩ : ∃ G9, G9 = upG G_1 273 (r_2).toNat i2 := ⟨_, rfl⟩
  have hG_2 : GR G_2 := by rw [eG_2]; exact (GR.up hG_1 hi2)
  have h := h G_2 eG_2
  rw [← eG_2]
  refine a_aload_n (pc := 32) X9 dX10_comesCard_32 rfl rfl ?_
  refine a_getR (pc := 33) X9 (q := 273) okX10 1 rfl wF_X10_9 (is10 hnn) rf10_1 dX10_comesCard_33 ?_
  refine a_iload (pc := 36) X9 dX10_comesCard_36 rfl ?_
  refine a_iconst (pc := 38) X9 dX10_comesCard_38 ?_
  refine a_callS (pc := 39) X9 E (m_X10_cardAt (hG _ _) (show inR 2 by decide) hnn h) wM_X10_205 w_static_X10_cardAt w_initialized_RX10 w_code_X10_cardAt cp_X10_cardAt pn_X10_cardAt rfl (Nat.le_of_ble_eq_true rfl) ⟨Nat.le_of_ble_eq_true rfl, Nat.le_of_ble_eq_true rfl⟩ ⟨Nat.le_of_ble_eq_true rfl, Nat.le_of_ble_eq_true rfl⟩ dX10_comesCard_39 (fun _ _ q => False.elim q) (kIp (fun r_3 hr_3 h => ?_))
  refine a_iload_n (pc := 42) X9 dX10_comesCard_42 rfl rfl ?_
  obtain ⟨g_3, h⟩ := h
  refine b_iast (pc := 43) X9 (i := r_3) (v := i3) (ar10_1 hnn) (Nat.le_of_ble_eq_true rfl) g_3 hi3 dX10_comesCard_43 ?_
  obtain ⟨G_3, eG_3⟩ : ∃ G9, G9 = upG G_2 273 (r_3).toNat i3 := ⟨_, rfl⟩
  have hG_3 : GR G_3 := by rw [eG_3]; exact (GR.up hG_2 hi3)
  have h := h G_3 eG_3
  rw [← eG_3]
  refine a_aload_n (pc := 44) X9 dX10_comesCard_44 rfl rfl ?_
  refine a_getR (pc := 45) X9 (q := 273) okX10 1 rfl wF_X10_9 (is10 hnn) rf10_1 dX10_comesCard_45 ?_
  refine a_iconst (pc := 48) X9 dX10_comesCard_48 ?_
  refine a_dup2 (pc := 49) X9 dX10_comesCard_49 rfl rfl ?_
  refine a_iald (pc := 50) X9 (ar10_1 hnn) (Nat.le_of_ble_eq_true rfl) (j := 3) rfl (Nat.le_of_ble_eq_true rfl) dX10_comesCard_50 ?_
  refine a_iconst (pc := 51) X9 dX10_comesCard_51 ?_
  refine a_iadd (pc := 52) X9 dX10_comesCard_52 ?_
  obtain ⟨g_4, h⟩ := h
  refine a_iast (pc := 53) X9 (v := ((G_3 273 3) + 1)) (ar10_1 hnn) (Nat.le_of_ble_eq_true rfl) (j := 3) rfl (Nat.le_of_ble_eq_true rfl) g_4 dX10_comesCard_53 (fun _ => ?_)
  obtain ⟨G_4, eG_4⟩ : ∃ G9, G9 = upG G_3 273 3 ((G_3 273 3) + 1) := ⟨_, rfl⟩
  have hG_4 : GR G_4 := by rw [eG_4]; exact (GR.up hG_3 g_4)
  have h := h G_4 eG_4
  rw [← eG_4]
  refine a_iload (pc := 54) X9 dX10_comesCard_54 rfl ?_
  exact a_ireturn (pc := 56) X9 E rfl rfl (Nat.le_of_ble_eq_true rfl) (Nat.le_of_ble_eq_true rfl) dX10_comesCard_56 ⟨rfl, _, rfl, (hG _ _), h⟩
set_option maxHeartbeats 4000000 in
set_option maxRecDepth 100000 in
theorem m_X10_readCard {nn : Nat} {i1 : Int} {G : GH} {Q : Int → GH → Prop} (hi1 : inR i1) (hnn : 285 ≤ nn) (h : f_X10_readCard i1 G Q) : Mt yX10_readCard cX10_readCard 4 (some .boolean) 5 108 0 0 [vr 272, vi i1] (SF nn) G (fun v S' G' => S' = SF nn ∧ qZ Q v S' G') (fun E S' G' => S' = SF nn ∧ False) := by
  refine Mt.of (l0 := [some (vr 272), some (vi i1), none, none]) (by decide) (Nat.le_of_ble_eq_true rfl) rfl ?_
  intro κ δ ρ0 X9 E hG
  replace X9 : CX κ δ RX10 cX10_readCard 4 (some .boolean) := X9
  refine a_aload_n (pc := 0) X9 dX10_readCard_0 rfl rfl ?_
  refine a_getR (pc := 1) X9 (q := 273) okX10 1 rfl wF_X10_9 (is10 hnn) rf10_1 dX10_readCard_1 ?_
  refine a_iconst (pc := 4) X9 dX10_readCard_4 ?_
  refine a_iald (pc := 5) X9 (ar10_1 hnn) (Nat.le_of_ble_eq_true rfl) (j := 3) rfl (Nat.le_of_ble_eq_true rfl) dX10_readCard_5 ?_
  refine a_bipush (pc := 6) X9 dX10_readCard_6 rfl ?_
  refine a_icmp_ne (pc := 8) (tgt := 18) X9 dX10_readCard_8 rfl (hG _ _) (by decide) (fun c => ?_) (fun c => ?_)
  · have c_1 := c
    have h := h.1 c_1
    refine a_aload_n (pc := 18) X9 dX10_readCard_18 rfl rfl ?_
    refine a_iconst (pc := 19) X9 dX10_readCard_19 ?_
    refine a_bipush (pc := 20) X9 dX10_readCard_20 rfl ?_
    refine a_callV (pc := 22) X9 E (m_X10_reads (show inR 0 by decide) (show inR 9 by decide) hnn h) okX10 (is10 hnn) wM_X10_127 w_instanceMethod_X10_reads w_selects_X10_reads w_initialized_RX10 w_code_X10_reads cp_X10_reads pn_X10_reads rfl (Nat.le_of_ble_eq_true rfl) ⟨Nat.le_of_ble_eq_true rfl, Nat.le_of_ble_eq_true rfl⟩ ⟨Nat.le_of_ble_eq_true rfl, Nat.le_of_ble_eq_true rfl⟩ dX10_readCard_22 (fun _ _ q => False.elim q) (kZ (fun r_1 G_1 hr_1 h hG_1 => ?_))
    refine a_if_ne (pc := 25) (tgt := 30) X9 dX10_readCard_25 rfl (bool_inR hr_1) (fun c => ?_) (fun c => ?_)
    · have c_2 := c
      have h := h.1 c_2
      refine a_aload_n (pc := 30) X9 dX10_readCard_30 rfl rfl ?_
      refine a_getI (pc := 31) X9 okX10 11 rfl wF_X10_112 (is10 hnn) dX10_readCard_31 ?_
      refine a_istore_n (pc := 34) X9 dX10_readCard_34 rfl (Nat.le_of_ble_eq_true rfl) rfl rfl ?_
      refine a_iconst (pc := 35) X9 dX10_readCard_35 ?_
      refine a_istore_n (pc := 36) X9 dX10_readCard_36 rfl (Nat.le_of_ble_eq_true rfl) rfl rfl ?_
      refine a_aload_n (pc := 37) X9 dX10_readCard_37 rfl rfl ?_
      refine b_ldcs (pc := 38) X9 (i := 4) (List.mem_of_getElem? (i := 14) rfl) dX10_readCard_38 ?_
      refine a_callV (pc := 40) X9 E (m_X10_takes (Nat.le_of_ble_eq_true rfl) hnn h) okX10 (is10 hnn) wM_X10_132 w_instanceMethod_X10_takes w_selects_X10_takes w_initialized_RX10 w_code_X10_takes cp_X10_takes pn_X10_takes rfl (Nat.le_of_ble_eq_true rfl) ⟨Nat.le_of_ble_eq_true rfl, Nat.le_of_ble_eq_true rfl⟩ ⟨Nat.le_of_ble_eq_true rfl, Nat.le_of_ble_eq_true rfl⟩ dX10_readCard_40 (fun _ _ q => False.elim q) (kZ (fun r_2 G_2 hr_2 h hG_2 => ?_))
      refine a_if_eq (pc := 43) (tgt := 63) X9 dX10_readCard_43 rfl (bool_inR hr_2) (fun c => ?_) (fun c => ?_)
      · have c_3 := c
        have h := h.1 c_3
        refine a_aload_n (pc := 63) X9 dX10_readCard_63 rfl rfl ?_
        refine a_iconst (pc := 64) X9 dX10_readCard_64 ?_
        refine a_bipush (pc := 65) X9 dX10_readCard_65 rfl ?_
        refine a_callV (pc := 67) X9 E (m_X10_reads (show inR 0 by decide) (show inR 60 by decide) hnn h) okX10 (is10 hnn) wM_X10_127 w_instanceMethod_X10_reads w_selects_X10_reads w_initialized_RX10 w_code_X10_reads cp_X10_reads pn_X10_reads rfl (Nat.le_of_ble_eq_true rfl) ⟨Nat.le_of_ble_eq_true rfl, Nat.le_of_ble_eq_true rfl⟩ ⟨Nat.le_of_ble_eq_true rfl, Nat.le_of_ble_eq_true rfl⟩ dX10_readCard_67 (fun _ _ q => False.elim q) (kZ (fun r_3 G_3 hr_3 h hG_3 => ?_))
        refine a_if_ne (pc := 70) (tgt := 75) X9 dX10_readCard_70 rfl (bool_inR hr_3) (fun c => ?_) (fun c => ?_)
        · have c_4 := c
          have h := h.1 c_4
          refine a_aload_n (pc := 75) X9 dX10_readCard_75 rfl rfl ?_
          refine a_iload_n (pc := 76) X9 dX10_readCard_76 rfl rfl ?_
          refine a_iload_n (pc := 77) X9 dX10_readCard_77 rfl rfl ?_
          refine a_aload_n (pc := 78) X9 dX10_readCard_78 rfl rfl ?_
          refine a_getI (pc := 79) X9 okX10 11 rfl wF_X10_112 (is10 hnn) dX10_readCard_79 ?_
          refine a_callV (pc := 82) X9 E (m_X10_comesCard (hG_1 _ _) (show inR (-1) by decide) (hG_3 _ _) hnn h) okX10 (is10 hnn) wM_X10_140 w_instanceMethod_X10_comesCard w_selects_X10_comesCard w_initialized_RX10 w_code_X10_comesCard cp_X10_comesCard pn_X10_comesCard rfl (Nat.le_of_ble_eq_true rfl) ⟨Nat.le_of_ble_eq_true rfl, Nat.le_of_ble_eq_true rfl⟩ ⟨Nat.le_of_ble_eq_true rfl, Nat.le_of_ble_eq_true rfl⟩ dX10_readCard_82 (fun _ _ q => False.elim q) (kI (fun r_4 G_4 hr_4 h hG_4 => ?_))
          refine a_pop (pc := 85) X9 dX10_readCard_85 rfl ?_
          refine a_iconst (pc := 86) X9 dX10_readCard_86 ?_
          exact a_ireturn (pc := 87) X9 E rfl (fit_bool (Or.inr rfl)).1 (Nat.le_of_ble_eq_true rfl) (Nat.le_of_ble_eq_true rfl) dX10_readCard_87 ⟨rfl, _, rfl, (Or.inr rfl), h⟩
        · have c_4 := c
          have h := h.2 c_4
          refine a_iconst (pc := 73) X9 dX10_readCard_73 ?_
          exact a_ireturn (pc := 74) X9 E rfl (fit_bool (Or.inl rfl)).1 (Nat.le_of_ble_eq_true rfl) (Nat.le_of_ble_eq_true rfl) dX10_readCard_74 ⟨rfl, _, rfl, (Or.inl rfl), h⟩
      · have c_3 := c
        have h := h.2 c_3
        refine a_aload_n (pc := 46) X9 dX10_readCard_46 rfl rfl ?_
        refine a_iconst (pc := 47) X9 dX10_readCard_47 ?_
        refine a_bipush (pc := 48) X9 dX10_readCard_48 rfl ?_
        refine a_callV (pc := 50) X9 E (m_X10_reads (show inR 0 by decide) (show inR 9 by decide) hnn h) okX10 (is10 hnn) wM_X10_127 w_instanceMethod_X10_reads w_selects_X10_reads w_initialized_RX10 w_code_X10_reads cp_X10_reads pn_X10_reads rfl (Nat.le_of_ble_eq_true rfl) ⟨Nat.le_of_ble_eq_true rfl, Nat.le_of_ble_eq_true rfl⟩ ⟨Nat.le_of_ble_eq_true rfl, Nat.le_of_ble_eq_true rfl⟩ dX10_readCard_50 (fun _ _ q => False.elim q) (kZ (fun r_5 G_5 hr_5 h hG_5 => ?_))
        refine a_if_ne (pc := 53) (tgt := 58) X9 dX10_readCard_53 rfl (bool_inR hr_5) (fun c => ?_) (fun c => ?_)
        · have c_5 := c
          have h := h.1 c_5
          refine a_aload_n (pc := 58) X9 dX10_readCard_58 rfl rfl ?_
          refine a_getI (pc := 59) X9 okX10 11 rfl wF_X10_112 (is10 hnn) dX10_readCard_59 ?_
          refine a_istore_n (pc := 62) X9 dX10_readCard_62 rfl (Nat.le_of_ble_eq_true rfl) rfl rfl ?_
          refine a_aload_n (pc := 63) X9 dX10_readCard_63 rfl rfl ?_
          refine a_iconst (pc := 64) X9 dX10_readCard_64 ?_
          refine a_bipush (pc := 65) X9 dX10_readCard_65 rfl ?_
          refine a_callV (pc := 67) X9 E (m_X10_reads (show inR 0 by decide) (show inR 60 by decide) hnn h) okX10 (is10 hnn) wM_X10_127 w_instanceMethod_X10_reads w_selects_X10_reads w_initialized_RX10 w_code_X10_reads cp_X10_reads pn_X10_reads rfl (Nat.le_of_ble_eq_true rfl) ⟨Nat.le_of_ble_eq_true rfl, Nat.le_of_ble_eq_true rfl⟩ ⟨Nat.le_of_ble_eq_true rfl, Nat.le_of_ble_eq_true rfl⟩ dX10_readCard_67 (fun _ _ q => False.elim q) (kZ (fun r_6 G_6 hr_6 h hG_6 => ?_))
          refine a_if_ne (pc := 70) (tgt := 75) X9 dX10_readCard_70 rfl (bool_inR hr_6) (fun c => ?_) (fun c => ?_)
          · have c_6 := c
            have h := h.1 c_6
            refine a_aload_n (pc := 75) X9 dX10_readCard_75 rfl rfl ?_
            refine a_iload_n (pc := 76) X9 dX10_readCard_76 rfl rfl ?_
            refine a_iload_n (pc := 77) X9 dX10_readCard_77 rfl rfl ?_
            refine a_aload_n (pc := 78) X9 dX10_readCard_78 rfl rfl ?_
            refine a_getI (pc := 79) X9 okX10 11 rfl wF_X10_112 (is10 hnn) dX10_readCard_79 ?_
            refine a_callV (pc := 82) X9 E (m_X10_comesCard (hG_1 _ _) (hG_5 _ _) (hG_6 _ _) hnn h) okX10 (is10 hnn) wM_X10_140 w_instanceMethod_X10_comesCard w_selects_X10_comesCard w_initialized_RX10 w_code_X10_comesCard cp_X10_comesCard pn_X10_comesCard rfl (Nat.le_of_ble_eq_true rfl) ⟨Nat.le_of_ble_eq_true rfl, Nat.le_of_ble_eq_true rfl⟩ ⟨Nat.le_of_ble_eq_true rfl, Nat.le_of_ble_eq_true rfl⟩ dX10_readCard_82 (fun _ _ q => False.elim q) (kI (fun r_7 G_7 hr_7 h hG_7 => ?_))
            refine a_pop (pc := 85) X9 dX10_readCard_85 rfl ?_
            refine a_iconst (pc := 86) X9 dX10_readCard_86 ?_
            exact a_ireturn (pc := 87) X9 E rfl (fit_bool (Or.inr rfl)).1 (Nat.le_of_ble_eq_true rfl) (Nat.le_of_ble_eq_true rfl) dX10_readCard_87 ⟨rfl, _, rfl, (Or.inr rfl), h⟩
          · have c_6 := c
            have h := h.2 c_6
            refine a_iconst (pc := 73) X9 dX10_readCard_73 ?_
            exact a_ireturn (pc := 74) X9 E rfl (fit_bool (Or.inl rfl)).1 (Nat.le_of_ble_eq_true rfl) (Nat.le_of_ble_eq_true rfl) dX10_readCard_74 ⟨rfl, _, rfl, (Or.inl rfl), h⟩
        · have c_5 := c
          have h := h.2 c_5
          refine a_iconst (pc := 56) X9 dX10_readCard_56 ?_
          exact a_ireturn (pc := 57) X9 E rfl (fit_bool (Or.inl rfl)).1 (Nat.le_of_ble_eq_true rfl) (Nat.le_of_ble_eq_true rfl) dX10_readCard_57 ⟨rfl, _, rfl, (Or.inl rfl), h⟩
    · have c_2 := c
      have h := h.2 c_2
      refine a_iconst (pc := 28) X9 dX10_readCard_28 ?_
      exact a_ireturn (pc := 29) X9 E rfl (fit_bool (Or.inl rfl)).1 (Nat.le_of_ble_eq_true rfl) (Nat.le_of_ble_eq_true rfl) dX10_readCard_29 ⟨rfl, _, rfl, (Or.inl rfl), h⟩
  · have c_1 := c
    have h := h.2 c_1
    refine a_aload_n (pc := 11) X9 dX10_readCard_11 rfl rfl ?_
    refine a_iconst (pc := 12) X9 dX10_readCard_12 ?_
    refine a_iload_n (pc := 13) X9 dX10_readCard_13 rfl rfl ?_
    refine a_callV (pc := 14) X9 E (m_X10_fails (show inR 3 by decide) hi1 hnn h) okX10 (is10 hnn) wM_X10_100 w_instanceMethod_X10_fails w_selects_X10_fails w_initialized_RX10 w_code_X10_fails cp_X10_fails pn_X10_fails rfl (Nat.le_of_ble_eq_true rfl) ⟨Nat.le_of_ble_eq_true rfl, Nat.le_of_ble_eq_true rfl⟩ ⟨Nat.le_of_ble_eq_true rfl, Nat.le_of_ble_eq_true rfl⟩ dX10_readCard_14 (fun _ _ q => False.elim q) (kZ (fun r_8 G_8 hr_8 h hG_8 => ?_))
    exact a_ireturn (pc := 17) X9 E rfl (fit_bool hr_8).1 (Nat.le_of_ble_eq_true rfl) (Nat.le_of_ble_eq_true rfl) dX10_readCard_17 ⟨rfl, _, rfl, hr_8, h⟩
set_option maxHeartbeats 4000000 in
set_option maxRecDepth 100000 in
theorem m_X10_setsFriend {nn : Nat} {i1 : Int} {i2 : Int} {i3 : Int} {G : GH} {Q : GH → Prop} (hi1 : inR i1) (hi2 : inR i2) (hi3 : inR i3) (hnn : 285 ≤ nn) (h : f_X10_setsFriend i1 i2 i3 G Q) : Mt yX10_setsFriend cX10_setsFriend 4 none 0 0 0 0 [vr 272, vi i1, vi i2, vi i3] (SF nn) G (fun v S' G' => S' = SF nn ∧ qV Q v S' G') (fun E S' G' => S' = SF nn ∧ False) := by
  refine Mt.of (l0 := [some (vr 272), some (vi i1), some (vi i2), some (vi i3)]) (by decide) (Nat.le_of_ble_eq_true rfl) rfl ?_
  intro κ δ ρ0 X9 E hG
  replace X9 : CX κ δ RX10 cX10_setsFriend 4 none := X9
  refine a_aload_n (pc := 0) X9 dX10_setsFriend_0 rfl rfl ?_
  refine a_getR (pc := 1) X9 (q := 273) okX10 1 rfl wF_X10_9 (is10 hnn) rf10_1 dX10_setsFriend_1 ?_
  refine a_bipush (pc := 4) X9 dX10_setsFriend_4 rfl ?_
  refine a_bipush (pc := 6) X9 dX10_setsFriend_6 rfl ?_
  refine a_iload_n (pc := 8) X9 dX10_setsFriend_8 rfl rfl ?_
  refine a_imul (pc := 9) X9 dX10_setsFriend_9 ?_
  refine a_iadd (pc := 10) X9 dX10_setsFriend_10 ?_
  refine a_iload_n (pc := 11) X9 dX10_setsFriend_11 rfl rfl ?_
  refine a_iadd (pc := 12) X9 dX10_setsFriend_12 ?_
  refine a_iload_n (pc := 13) X9 dX10_setsFriend_13 rfl rfl ?_
  obtain ⟨g_1, h⟩ := h
  refine b_iast (pc := 14) X9 (i := ((51 + (11 * i1)) + i2)) (v := i3) (ar10_1 hnn) (Nat.le_of_ble_eq_true rfl) g_1 hi3 dX10_setsFriend_14 ?_
  obtain ⟨G_1, eG_1⟩ : ∃ G9, G9 = upG G 273 (((51 + (11 * i1)) + i2)).toNat i3 := ⟨_, rfl⟩
  have hG_1 : GR G_1 := by rw [eG_1]; exact (GR.up hG hi3)
  have h := h G_1 eG_1
  rw [← eG_1]
  exact a_return (pc := 15) X9 E (Nat.le_of_ble_eq_true rfl) (Nat.le_of_ble_eq_true rfl) dX10_setsFriend_15 ⟨rfl, rfl, h⟩
set_option maxHeartbeats 4000000 in
set_option maxRecDepth 100000 in
theorem m_X10_readFriend {nn : Nat} {i1 : Int} {G : GH} {Q : Int → GH → Prop} (hi1 : inR i1) (hnn : 285 ≤ nn) (h : f_X10_readFriend i1 G Q) : Mt yX10_readFriend cX10_readFriend 4 (some .boolean) 3 69 0 0 [vr 272, vi i1] (SF nn) G (fun v S' G' => S' = SF nn ∧ qZ Q v S' G') (fun E S' G' => S' = SF nn ∧ False) := by
  refine Mt.of (l0 := [some (vr 272), some (vi i1), none, none]) (by decide) (Nat.le_of_ble_eq_true rfl) rfl ?_
  intro κ δ ρ0 X9 E hG
  replace X9 : CX κ δ RX10 cX10_readFriend 4 (some .boolean) := X9
  refine a_aload_n (pc := 0) X9 dX10_readFriend_0 rfl rfl ?_
  refine a_getR (pc := 1) X9 (q := 273) okX10 1 rfl wF_X10_9 (is10 hnn) rf10_1 dX10_readFriend_1 ?_
  refine a_iconst (pc := 4) X9 dX10_readFriend_4 ?_
  refine a_iald (pc := 5) X9 (ar10_1 hnn) (Nat.le_of_ble_eq_true rfl) (j := 4) rfl (Nat.le_of_ble_eq_true rfl) dX10_readFriend_5 ?_
  refine a_istore_n (pc := 6) X9 dX10_readFriend_6 rfl (Nat.le_of_ble_eq_true rfl) rfl rfl ?_
  refine a_iload_n (pc := 7) X9 dX10_readFriend_7 rfl rfl ?_
  refine a_iconst (pc := 8) X9 dX10_readFriend_8 ?_
  refine a_icmp_ne (pc := 9) (tgt := 19) X9 dX10_readFriend_9 rfl (hG _ _) (by decide) (fun c => ?_) (fun c => ?_)
  · have c_1 := c
    have h := h.1 c_1
    refine a_aload_n (pc := 19) X9 dX10_readFriend_19 rfl rfl ?_
    refine a_iconst (pc := 20) X9 dX10_readFriend_20 ?_
    refine a_bipush (pc := 21) X9 dX10_readFriend_21 rfl ?_
    refine a_callV (pc := 23) X9 E (m_X10_reads (show inR 1 by decide) (show inR 9 by decide) hnn h) okX10 (is10 hnn) wM_X10_127 w_instanceMethod_X10_reads w_selects_X10_reads w_initialized_RX10 w_code_X10_reads cp_X10_reads pn_X10_reads rfl (Nat.le_of_ble_eq_true rfl) ⟨Nat.le_of_ble_eq_true rfl, Nat.le_of_ble_eq_true rfl⟩ ⟨Nat.le_of_ble_eq_true rfl, Nat.le_of_ble_eq_true rfl⟩ dX10_readFriend_23 (fun _ _ q => False.elim q) (kZ (fun r_1 G_1 hr_1 h hG_1 => ?_))
    refine a_if_ne (pc := 26) (tgt := 31) X9 dX10_readFriend_26 rfl (bool_inR hr_1) (fun c => ?_) (fun c => ?_)
    · have c_2 := c
      have h := h.1 c_2
      refine a_aload_n (pc := 31) X9 dX10_readFriend_31 rfl rfl ?_
      refine a_iload_n (pc := 32) X9 dX10_readFriend_32 rfl rfl ?_
      refine a_iconst (pc := 33) X9 dX10_readFriend_33 ?_
      refine a_aload_n (pc := 34) X9 dX10_readFriend_34 rfl rfl ?_
      refine a_getI (pc := 35) X9 okX10 11 rfl wF_X10_112 (is10 hnn) dX10_readFriend_35 ?_
      refine a_callV (pc := 38) X9 E (m_X10_setsFriend (hG _ _) (show inR 0 by decide) (hG_1 _ _) hnn h) okX10 (is10 hnn) wM_X10_144 w_instanceMethod_X10_setsFriend w_selects_X10_setsFriend w_initialized_RX10 w_code_X10_setsFriend cp_X10_setsFriend pn_X10_setsFriend rfl (Nat.le_of_ble_eq_true rfl) ⟨Nat.le_of_ble_eq_true rfl, Nat.le_of_ble_eq_true rfl⟩ ⟨Nat.le_of_ble_eq_true rfl, Nat.le_of_ble_eq_true rfl⟩ dX10_readFriend_38 (fun _ _ q => False.elim q) (kV (fun G_2 h hG_2 => ?_))
      refine a_iconst (pc := 41) X9 dX10_readFriend_41 ?_
      refine a_istore_n (pc := 42) X9 dX10_readFriend_42 rfl (Nat.le_of_ble_eq_true rfl) rfl rfl ?_
      refine loopM2 (A := fun x3_1 G_3 => inR x3_1 → GR G_3 → AW κ δ ρ0 nn 4 0 0 43 [some (vr 272), some (vi i1), some (vi (G 273 4)), some (vi x3_1)] [] (SF nn) G_3) (fun k_1 hk_1 x3_1 G_3 h h_x3_1 hG_3 => ?_) _ _ h (by decide) hG_2
      refine a_iload_n (pc := 43) X9 dX10_readFriend_43 rfl rfl ?_
      refine a_bipush (pc := 44) X9 dX10_readFriend_44 rfl ?_
      refine a_icmp_ge (pc := 46) (tgt := 79) X9 dX10_readFriend_46 rfl h_x3_1 (by decide) (fun c => ?_) (fun c => ?_)
      · have c_3 := c
        have h := h.1 c_3
        refine a_aload_n (pc := 79) X9 dX10_readFriend_79 rfl rfl ?_
        refine a_getR (pc := 80) X9 (q := 273) okX10 1 rfl wF_X10_9 (is10 hnn) rf10_1 dX10_readFriend_80 ?_
        refine a_iconst (pc := 83) X9 dX10_readFriend_83 ?_
        refine a_dup2 (pc := 84) X9 dX10_readFriend_84 rfl rfl ?_
        refine a_iald (pc := 85) X9 (ar10_1 hnn) (Nat.le_of_ble_eq_true rfl) (j := 4) rfl (Nat.le_of_ble_eq_true rfl) dX10_readFriend_85 ?_
        refine a_iconst (pc := 86) X9 dX10_readFriend_86 ?_
        refine a_iadd (pc := 87) X9 dX10_readFriend_87 ?_
        obtain ⟨g_1, h⟩ := h
        refine a_iast (pc := 88) X9 (v := ((G_3 273 4) + 1)) (ar10_1 hnn) (Nat.le_of_ble_eq_true rfl) (j := 4) rfl (Nat.le_of_ble_eq_true rfl) g_1 dX10_readFriend_88 (fun _ => ?_)
        obtain ⟨G_4, eG_4⟩ : ∃ G9, G9 = upG G_3 273 4 ((G_3 273 4) + 1) := ⟨_, rfl⟩
        have hG_4 : GR G_4 := by rw [eG_4]; exact (GR.up hG_3 g_1)
        have h := h G_4 eG_4
        rw [← eG_4]
        refine a_iconst (pc := 89) X9 dX10_readFriend_89 ?_
        exact a_ireturn (pc := 90) X9 E rfl (fit_bool (Or.inr rfl)).1 (Nat.le_of_ble_eq_true rfl) (Nat.le_of_ble_eq_true rfl) dX10_readFriend_90 ⟨rfl, _, rfl, (Or.inr rfl), h⟩
      · have c_3 := c
        have h := h.2 c_3
        refine a_aload_n (pc := 49) X9 dX10_readFriend_49 rfl rfl ?_
        refine a_iconst (pc := 50) X9 dX10_readFriend_50 ?_
        refine a_bipush (pc := 51) X9 dX10_readFriend_51 rfl ?_
        refine a_callV (pc := 53) X9 E (m_X10_reads (show inR 0 by decide) (show inR 20 by decide) hnn h) okX10 (is10 hnn) wM_X10_127 w_instanceMethod_X10_reads w_selects_X10_reads w_initialized_RX10 w_code_X10_reads cp_X10_reads pn_X10_reads rfl (Nat.le_of_ble_eq_true rfl) ⟨Nat.le_of_ble_eq_true rfl, Nat.le_of_ble_eq_true rfl⟩ ⟨Nat.le_of_ble_eq_true rfl, Nat.le_of_ble_eq_true rfl⟩ dX10_readFriend_53 (fun _ _ q => False.elim q) (kZ (fun r_3 G_5 hr_3 h hG_5 => ?_))
        refine a_if_ne (pc := 56) (tgt := 61) X9 dX10_readFriend_56 rfl (bool_inR hr_3) (fun c => ?_) (fun c => ?_)
        · have c_4 := c
          have h := h.1 c_4
          refine a_aload_n (pc := 61) X9 dX10_readFriend_61 rfl rfl ?_
          refine a_iload_n (pc := 62) X9 dX10_readFriend_62 rfl rfl ?_
          refine a_iconst (pc := 63) X9 dX10_readFriend_63 ?_
          refine a_iload_n (pc := 64) X9 dX10_readFriend_64 rfl rfl ?_
          refine a_iadd (pc := 65) X9 dX10_readFriend_65 ?_
          refine a_aload_n (pc := 66) X9 dX10_readFriend_66 rfl rfl ?_
          refine a_getI (pc := 67) X9 okX10 11 rfl wF_X10_112 (is10 hnn) dX10_readFriend_67 ?_
          obtain ⟨g_2, h⟩ := h
          refine a_callV (pc := 70) X9 E (m_X10_setsFriend (hG _ _) g_2 (hG_5 _ _) hnn h) okX10 (is10 hnn) wM_X10_144 w_instanceMethod_X10_setsFriend w_selects_X10_setsFriend w_initialized_RX10 w_code_X10_setsFriend cp_X10_setsFriend pn_X10_setsFriend rfl (Nat.le_of_ble_eq_true rfl) ⟨Nat.le_of_ble_eq_true rfl, Nat.le_of_ble_eq_true rfl⟩ ⟨Nat.le_of_ble_eq_true rfl, Nat.le_of_ble_eq_true rfl⟩ dX10_readFriend_70 (fun _ _ q => False.elim q) (kV (fun G_6 h hG_6 => ?_))
          refine a_iinc (pc := 73) X9 dX10_readFriend_73 rfl (Nat.le_of_ble_eq_true rfl) rfl rfl ?_
          refine a_goto (pc := 76) (tgt := 43) X9 dX10_readFriend_76 rfl ?_
          have q_1 : inR (x3_1) := h_x3_1
          have g_3 : inR ((x3_1 + 1)) := ⟨by omega, by omega⟩
          exact hk_1 _ _ h g_3 hG_6
        · have c_4 := c
          have h := h.2 c_4
          refine a_iconst (pc := 59) X9 dX10_readFriend_59 ?_
          exact a_ireturn (pc := 60) X9 E rfl (fit_bool (Or.inl rfl)).1 (Nat.le_of_ble_eq_true rfl) (Nat.le_of_ble_eq_true rfl) dX10_readFriend_60 ⟨rfl, _, rfl, (Or.inl rfl), h⟩
    · have c_2 := c
      have h := h.2 c_2
      refine a_iconst (pc := 29) X9 dX10_readFriend_29 ?_
      exact a_ireturn (pc := 30) X9 E rfl (fit_bool (Or.inl rfl)).1 (Nat.le_of_ble_eq_true rfl) (Nat.le_of_ble_eq_true rfl) dX10_readFriend_30 ⟨rfl, _, rfl, (Or.inl rfl), h⟩
  · have c_1 := c
    have h := h.2 c_1
    refine a_aload_n (pc := 12) X9 dX10_readFriend_12 rfl rfl ?_
    refine a_iconst (pc := 13) X9 dX10_readFriend_13 ?_
    refine a_iload_n (pc := 14) X9 dX10_readFriend_14 rfl rfl ?_
    refine a_callV (pc := 15) X9 E (m_X10_fails (show inR 3 by decide) hi1 hnn h) okX10 (is10 hnn) wM_X10_100 w_instanceMethod_X10_fails w_selects_X10_fails w_initialized_RX10 w_code_X10_fails cp_X10_fails pn_X10_fails rfl (Nat.le_of_ble_eq_true rfl) ⟨Nat.le_of_ble_eq_true rfl, Nat.le_of_ble_eq_true rfl⟩ ⟨Nat.le_of_ble_eq_true rfl, Nat.le_of_ble_eq_true rfl⟩ dX10_readFriend_15 (fun _ _ q => False.elim q) (kZ (fun r_5 G_7 hr_5 h hG_7 => ?_))
    exact a_ireturn (pc := 18) X9 E rfl (fit_bool hr_5).1 (Nat.le_of_ble_eq_true rfl) (Nat.le_of_ble_eq_true rfl) dX10_readFriend_18 ⟨rfl, _, rfl, hr_5, h⟩
set_option maxHeartbeats 4000000 in
set_option maxRecDepth 100000 in
theorem m_X10_serviceAt {nn : Nat} {i0 : Int} {i1 : Int} {G : GH} {Q : Int → Prop} (hi0 : inR i0) (hi1 : inR i1) (hnn : 285 ≤ nn) (h : f_X10_serviceAt i0 i1 Q) : Mt yX10_serviceAt cX10_serviceAt 2 (some .int) 0 0 0 0 [vi i0, vi i1] (SF nn) G (fun v S' G' => S' = SF nn ∧ qI (fun r9 G9 => G9 = G ∧ Q r9) v S' G') (fun E S' G' => S' = SF nn ∧ False) := by
  refine Mt.of (l0 := [some (vi i0), some (vi i1)]) (by decide) (Nat.le_of_ble_eq_true rfl) rfl ?_
  intro κ δ ρ0 X9 E hG
  replace X9 : CX κ δ RX10 cX10_serviceAt 2 (some .int) := X9
  refine a_sipush (pc := 0) X9 dX10_serviceAt_0 rfl ?_
  refine a_bipush (pc := 3) X9 dX10_serviceAt_3 rfl ?_
  refine a_iload_n (pc := 5) X9 dX10_serviceAt_5 rfl rfl ?_
  refine a_imul (pc := 6) X9 dX10_serviceAt_6 ?_
  refine a_iadd (pc := 7) X9 dX10_serviceAt_7 ?_
  refine a_iload_n (pc := 8) X9 dX10_serviceAt_8 rfl rfl ?_
  refine a_iadd (pc := 9) X9 dX10_serviceAt_9 ?_
  obtain ⟨g_1, h⟩ := h
  exact a_ireturn (pc := 10) X9 E rfl rfl (Nat.le_of_ble_eq_true rfl) (Nat.le_of_ble_eq_true rfl) dX10_serviceAt_10 ⟨rfl, _, rfl, g_1, rfl, h⟩
set_option maxHeartbeats 4000000 in
set_option maxRecDepth 100000 in
theorem m_X10_hymnsOf {nn : Nat} {i1 : Int} {G : GH} {Q : Int → Prop} (hi1 : inR i1) (hnn : 285 ≤ nn) (h : f_X10_hymnsOf i1 G Q) : Mt yX10_hymnsOf cX10_hymnsOf 2 (some .int) 1 21 0 0 [vr 272, vi i1] (SF nn) G (fun v S' G' => S' = SF nn ∧ qI (fun r9 G9 => G9 = G ∧ Q r9) v S' G') (fun E S' G' => S' = SF nn ∧ False) := by
  refine Mt.of (l0 := [some (vr 272), some (vi i1)]) (by decide) (Nat.le_of_ble_eq_true rfl) rfl ?_
  intro κ δ ρ0 X9 E hG
  replace X9 : CX κ δ RX10 cX10_hymnsOf 2 (some .int) := X9
  refine a_aload_n (pc := 0) X9 dX10_hymnsOf_0 rfl rfl ?_
  refine a_getR (pc := 1) X9 (q := 273) okX10 1 rfl wF_X10_9 (is10 hnn) rf10_1 dX10_hymnsOf_1 ?_
  refine a_iload_n (pc := 4) X9 dX10_hymnsOf_4 rfl rfl ?_
  refine a_iconst (pc := 5) X9 dX10_hymnsOf_5 ?_
  refine a_callS (pc := 6) X9 E (m_X10_serviceAt hi1 (show inR 0 by decide) hnn h) wM_X10_159 w_static_X10_serviceAt w_initialized_RX10 w_code_X10_serviceAt cp_X10_serviceAt pn_X10_serviceAt rfl (Nat.le_of_ble_eq_true rfl) ⟨Nat.le_of_ble_eq_true rfl, Nat.le_of_ble_eq_true rfl⟩ ⟨Nat.le_of_ble_eq_true rfl, Nat.le_of_ble_eq_true rfl⟩ dX10_hymnsOf_6 (fun _ _ q => False.elim q) (kIp (fun r_1 hr_1 h => ?_))
  obtain ⟨g_1, h⟩ := h
  refine b_iald (pc := 9) X9 (ar10_1 hnn) (Nat.le_of_ble_eq_true rfl) g_1 dX10_hymnsOf_9 ?_
  exact a_ireturn (pc := 10) X9 E rfl rfl (Nat.le_of_ble_eq_true rfl) (Nat.le_of_ble_eq_true rfl) dX10_hymnsOf_10 ⟨rfl, _, rfl, (hG _ _), rfl, h⟩
set_option maxHeartbeats 4000000 in
set_option maxRecDepth 100000 in
theorem m_X10_hymnOf {nn : Nat} {i1 : Int} {i2 : Int} {G : GH} {Q : Int → Prop} (hi1 : inR i1) (hi2 : inR i2) (hnn : 285 ≤ nn) (h : f_X10_hymnOf i1 i2 G Q) : Mt yX10_hymnOf cX10_hymnOf 3 (some .int) 1 21 0 0 [vr 272, vi i1, vi i2] (SF nn) G (fun v S' G' => S' = SF nn ∧ qI (fun r9 G9 => G9 = G ∧ Q r9) v S' G') (fun E S' G' => S' = SF nn ∧ False) := by
  refine Mt.of (l0 := [some (vr 272), some (vi i1), some (vi i2)]) (by decide) (Nat.le_of_ble_eq_true rfl) rfl ?_
  intro κ δ ρ0 X9 E hG
  replace X9 : CX κ δ RX10 cX10_hymnOf 3 (some .int) := X9
  refine a_aload_n (pc := 0) X9 dX10_hymnOf_0 rfl rfl ?_
  refine a_getR (pc := 1) X9 (q := 273) okX10 1 rfl wF_X10_9 (is10 hnn) rf10_1 dX10_hymnOf_1 ?_
  refine a_iload_n (pc := 4) X9 dX10_hymnOf_4 rfl rfl ?_
  refine a_iconst (pc := 5) X9 dX10_hymnOf_5 ?_
  refine a_iload_n (pc := 6) X9 dX10_hymnOf_6 rfl rfl ?_
  refine a_iadd (pc := 7) X9 dX10_hymnOf_7 ?_
  obtain ⟨g_1, h⟩ := h
  refine a_callS (pc := 8) X9 E (m_X10_serviceAt hi1 g_1 hnn h) wM_X10_159 w_static_X10_serviceAt w_initialized_RX10 w_code_X10_serviceAt cp_X10_serviceAt pn_X10_serviceAt rfl (Nat.le_of_ble_eq_true rfl) ⟨Nat.le_of_ble_eq_true rfl, Nat.le_of_ble_eq_true rfl⟩ ⟨Nat.le_of_ble_eq_true rfl, Nat.le_of_ble_eq_true rfl⟩ dX10_hymnOf_8 (fun _ _ q => False.elim q) (kIp (fun r_1 hr_1 h => ?_))
  obtain ⟨g_2, h⟩ := h
  refine b_iald (pc := 11) X9 (ar10_1 hnn) (Nat.le_of_ble_eq_true rfl) g_2 dX10_hymnOf_11 ?_
  exact a_ireturn (pc := 12) X9 E rfl rfl (Nat.le_of_ble_eq_true rfl) (Nat.le_of_ble_eq_true rfl) dX10_hymnOf_12 ⟨rfl, _, rfl, (hG _ _), rfl, h⟩
set_option maxHeartbeats 4000000 in
set_option maxRecDepth 100000 in
theorem m_X10_setsHymn {nn : Nat} {i1 : Int} {i2 : Int} {i3 : Int} {G : GH} {Q : GH → Prop} (hi1 : inR i1) (hi2 : inR i2) (hi3 : inR i3) (hnn : 285 ≤ nn) (h : f_X10_setsHymn i1 i2 i3 G Q) : Mt yX10_setsHymn cX10_setsHymn 4 none 1 21 0 0 [vr 272, vi i1, vi i2, vi i3] (SF nn) G (fun v S' G' => S' = SF nn ∧ qV Q v S' G') (fun E S' G' => S' = SF nn ∧ False) := by
  refine Mt.of (l0 := [some (vr 272), some (vi i1), some (vi i2), some (vi i3)]) (by decide) (Nat.le_of_ble_eq_true rfl) rfl ?_
  intro κ δ ρ0 X9 E hG
  replace X9 : CX κ δ RX10 cX10_setsHymn 4 none := X9
  refine a_aload_n (pc := 0) X9 dX10_setsHymn_0 rfl rfl ?_
  refine a_getR (pc := 1) X9 (q := 273) okX10 1 rfl wF_X10_9 (is10 hnn) rf10_1 dX10_setsHymn_1 ?_
  refine a_iload_n (pc := 4) X9 dX10_setsHymn_4 rfl rfl ?_
  refine a_iconst (pc := 5) X9 dX10_setsHymn_5 ?_
  refine a_iload_n (pc := 6) X9 dX10_setsHymn_6 rfl rfl ?_
  refine a_iadd (pc := 7) X9 dX10_setsHymn_7 ?_
  obtain ⟨g_1, h⟩ := h
  refine a_callS (pc := 8) X9 E (m_X10_serviceAt hi1 g_1 hnn h) wM_X10_159 w_static_X10_serviceAt w_initialized_RX10 w_code_X10_serviceAt cp_X10_serviceAt pn_X10_serviceAt rfl (Nat.le_of_ble_eq_true rfl) ⟨Nat.le_of_ble_eq_true rfl, Nat.le_of_ble_eq_true rfl⟩ ⟨Nat.le_of_ble_eq_true rfl, Nat.le_of_ble_eq_true rfl⟩ dX10_setsHymn_8 (fun _ _ q => False.elim q) (kIp (fun r_1 hr_1 h => ?_))
  refine a_iload_n (pc := 11) X9 dX10_setsHymn_11 rfl rfl ?_
  obtain ⟨g_2, h⟩ := h
  refine b_iast (pc := 12) X9 (i := r_1) (v := i3) (ar10_1 hnn) (Nat.le_of_ble_eq_true rfl) g_2 hi3 dX10_setsHymn_12 ?_
  obtain ⟨G_1, eG_1⟩ : ∃ G9, G9 = upG G 273 (r_1).toNat i3 := ⟨_, rfl⟩
  have hG_1 : GR G_1 := by rw [eG_1]; exact (GR.up hG hi3)
  have h := h G_1 eG_1
  rw [← eG_1]
  exact a_return (pc := 13) X9 E (Nat.le_of_ble_eq_true rfl) (Nat.le_of_ble_eq_true rfl) dX10_setsHymn_13 ⟨rfl, rfl, h⟩
set_option maxHeartbeats 4000000 in
set_option maxRecDepth 100000 in
theorem m_X10_repeats {nn : Nat} {i1 : Int} {i2 : Int} {G : GH} {Q : Int → GH → Prop} (hi1 : inR i1) (hi2 : inR i2) (hnn : 285 ≤ nn) (h : f_X10_repeats i1 i2 G Q) : Mt yX10_repeats cX10_repeats 5 (some .boolean) 3 69 0 0 [vr 272, vi i1, vi i2] (SF nn) G (fun v S' G' => S' = SF nn ∧ qZ Q v S' G') (fun E S' G' => S' = SF nn ∧ False) := by
  refine Mt.of (l0 := [some (vr 272), some (vi i1), some (vi i2), none, none]) (by decide) (Nat.le_of_ble_eq_true rfl) rfl ?_
  intro κ δ ρ0 X9 E hG
  replace X9 : CX κ δ RX10 cX10_repeats 5 (some .boolean) := X9
  refine a_aload_n (pc := 0) X9 dX10_repeats_0 rfl rfl ?_
  refine a_iconst (pc := 1) X9 dX10_repeats_1 ?_
  refine a_bipush (pc := 2) X9 dX10_repeats_2 rfl ?_
  refine a_callV (pc := 4) X9 E (m_X10_reads (show inR 1 by decide) (show inR 8 by decide) hnn h) okX10 (is10 hnn) wM_X10_127 w_instanceMethod_X10_reads w_selects_X10_reads w_initialized_RX10 w_code_X10_reads cp_X10_reads pn_X10_reads rfl (Nat.le_of_ble_eq_true rfl) ⟨Nat.le_of_ble_eq_true rfl, Nat.le_of_ble_eq_true rfl⟩ ⟨Nat.le_of_ble_eq_true rfl, Nat.le_of_ble_eq_true rfl⟩ dX10_repeats_4 (fun _ _ q => False.elim q) (kZ (fun r_1 G_1 hr_1 h hG_1 => ?_))
  refine a_if_ne (pc := 7) (tgt := 12) X9 dX10_repeats_7 rfl (bool_inR hr_1) (fun c => ?_) (fun c => ?_)
  · have c_1 := c
    have h := h.1 c_1
    refine a_aload_n (pc := 12) X9 dX10_repeats_12 rfl rfl ?_
    refine a_iload_n (pc := 13) X9 dX10_repeats_13 rfl rfl ?_
    refine a_callV (pc := 14) X9 E (m_X10_hymnsOf hi1 hnn h) okX10 (is10 hnn) wM_X10_148 w_instanceMethod_X10_hymnsOf w_selects_X10_hymnsOf w_initialized_RX10 w_code_X10_hymnsOf cp_X10_hymnsOf pn_X10_hymnsOf rfl (Nat.le_of_ble_eq_true rfl) ⟨Nat.le_of_ble_eq_true rfl, Nat.le_of_ble_eq_true rfl⟩ ⟨Nat.le_of_ble_eq_true rfl, Nat.le_of_ble_eq_true rfl⟩ dX10_repeats_14 (fun _ _ q => False.elim q) (kIp (fun r_2 hr_2 h => ?_))
    refine a_iload_n (pc := 17) X9 dX10_repeats_17 rfl rfl ?_
    refine a_isub (pc := 18) X9 dX10_repeats_18 ?_
    refine a_istore_n (pc := 19) X9 dX10_repeats_19 rfl (Nat.le_of_ble_eq_true rfl) rfl rfl ?_
    refine a_iload_n (pc := 20) X9 dX10_repeats_20 rfl rfl ?_
    refine a_iload_n (pc := 21) X9 dX10_repeats_21 rfl rfl ?_
    refine a_aload_n (pc := 22) X9 dX10_repeats_22 rfl rfl ?_
    refine a_getI (pc := 23) X9 okX10 11 rfl wF_X10_112 (is10 hnn) dX10_repeats_23 ?_
    refine a_imul (pc := 26) X9 dX10_repeats_26 ?_
    refine a_iadd (pc := 27) X9 dX10_repeats_27 ?_
    refine a_bipush (pc := 28) X9 dX10_repeats_28 rfl ?_
    obtain ⟨g_1, h⟩ := h
    refine a_icmp_le (pc := 30) (tgt := 43) X9 dX10_repeats_30 rfl g_1 (by decide) (fun c => ?_) (fun c => ?_)
    · have c_2 := c
      have h := h.1 c_2
      refine a_iload_n (pc := 43) X9 dX10_repeats_43 rfl rfl ?_
      refine a_istore (pc := 44) X9 dX10_repeats_44 (Nat.le_of_ble_eq_true rfl) rfl rfl ?_
      obtain ⟨g_2, h⟩ := h
      refine loopM2 (A := fun x4_1 G_2 => inR x4_1 → GR G_2 → AW κ δ ρ0 nn 5 0 0 46 [some (vr 272), some (vi i1), some (vi i2), some (vi (r_2 - i2)), some (vi x4_1)] [] (SF nn) G_2) (fun k_1 hk_1 x4_1 G_2 h h_x4_1 hG_2 => ?_) _ _ h g_2 hG_1
      refine a_iload (pc := 46) X9 dX10_repeats_46 rfl ?_
      refine a_iload_n (pc := 48) X9 dX10_repeats_48 rfl rfl ?_
      refine a_aload_n (pc := 49) X9 dX10_repeats_49 rfl rfl ?_
      refine a_getI (pc := 50) X9 okX10 11 rfl wF_X10_112 (is10 hnn) dX10_repeats_50 ?_
      refine a_imul (pc := 53) X9 dX10_repeats_53 ?_
      obtain ⟨g_3, h⟩ := h
      refine a_icmp_ge (pc := 54) (tgt := 83) X9 dX10_repeats_54 rfl h_x4_1 g_3 (fun c => ?_) (fun c => ?_)
      · have c_3 := c
        have h := h.1 c_3
        refine a_aload_n (pc := 83) X9 dX10_repeats_83 rfl rfl ?_
        refine a_getR (pc := 84) X9 (q := 273) okX10 1 rfl wF_X10_9 (is10 hnn) rf10_1 dX10_repeats_84 ?_
        refine a_iload_n (pc := 87) X9 dX10_repeats_87 rfl rfl ?_
        refine a_iconst (pc := 88) X9 dX10_repeats_88 ?_
        refine a_callS (pc := 89) X9 E (m_X10_serviceAt hi1 (show inR 0 by decide) hnn h) wM_X10_159 w_static_X10_serviceAt w_initialized_RX10 w_code_X10_serviceAt cp_X10_serviceAt pn_X10_serviceAt rfl (Nat.le_of_ble_eq_true rfl) ⟨Nat.le_of_ble_eq_true rfl, Nat.le_of_ble_eq_true rfl⟩ ⟨Nat.le_of_ble_eq_true rfl, Nat.le_of_ble_eq_true rfl⟩ dX10_repeats_89 (fun _ _ q => False.elim q) (kIp (fun r_3 hr_3 h => ?_))
        refine a_iload_n (pc := 92) X9 dX10_repeats_92 rfl rfl ?_
        refine a_iload_n (pc := 93) X9 dX10_repeats_93 rfl rfl ?_
        refine a_aload_n (pc := 94) X9 dX10_repeats_94 rfl rfl ?_
        refine a_getI (pc := 95) X9 okX10 11 rfl wF_X10_112 (is10 hnn) dX10_repeats_95 ?_
        refine a_imul (pc := 98) X9 dX10_repeats_98 ?_
        refine a_iadd (pc := 99) X9 dX10_repeats_99 ?_
        obtain ⟨g_4, h⟩ := h
        obtain ⟨g_5, h⟩ := h
        refine b_iast (pc := 100) X9 (i := r_3) (v := (i2 + ((r_2 - i2) * (G_2 272 11)))) (ar10_1 hnn) (Nat.le_of_ble_eq_true rfl) g_5 g_4 dX10_repeats_100 ?_
        obtain ⟨G_3, eG_3⟩ : ∃ G9, G9 = upG G_2 273 (r_3).toNat (i2 + ((r_2 - i2) * (G_2 272 11))) := ⟨_, rfl⟩
        have hG_3 : GR G_3 := by rw [eG_3]; exact (GR.up hG_2 g_4)
        have h := h G_3 eG_3
        rw [← eG_3]
        refine a_iconst (pc := 101) X9 dX10_repeats_101 ?_
        exact a_ireturn (pc := 102) X9 E rfl (fit_bool (Or.inr rfl)).1 (Nat.le_of_ble_eq_true rfl) (Nat.le_of_ble_eq_true rfl) dX10_repeats_102 ⟨rfl, _, rfl, (Or.inr rfl), h⟩
      · have c_3 := c
        have h := h.2 c_3
        refine a_aload_n (pc := 57) X9 dX10_repeats_57 rfl rfl ?_
        refine a_iload_n (pc := 58) X9 dX10_repeats_58 rfl rfl ?_
        refine a_iload_n (pc := 59) X9 dX10_repeats_59 rfl rfl ?_
        refine a_iload (pc := 60) X9 dX10_repeats_60 rfl ?_
        refine a_iadd (pc := 62) X9 dX10_repeats_62 ?_
        refine a_aload_n (pc := 63) X9 dX10_repeats_63 rfl rfl ?_
        refine a_iload_n (pc := 64) X9 dX10_repeats_64 rfl rfl ?_
        refine a_iload_n (pc := 65) X9 dX10_repeats_65 rfl rfl ?_
        refine a_iload (pc := 66) X9 dX10_repeats_66 rfl ?_
        refine a_iadd (pc := 68) X9 dX10_repeats_68 ?_
        refine a_iload_n (pc := 69) X9 dX10_repeats_69 rfl rfl ?_
        refine a_isub (pc := 70) X9 dX10_repeats_70 ?_
        obtain ⟨g_6, h⟩ := h
        refine a_callV (pc := 71) X9 E (m_X10_hymnOf hi1 g_6 hnn h) okX10 (is10 hnn) wM_X10_152 w_instanceMethod_X10_hymnOf w_selects_X10_hymnOf w_initialized_RX10 w_code_X10_hymnOf cp_X10_hymnOf pn_X10_hymnOf rfl (Nat.le_of_ble_eq_true rfl) ⟨Nat.le_of_ble_eq_true rfl, Nat.le_of_ble_eq_true rfl⟩ ⟨Nat.le_of_ble_eq_true rfl, Nat.le_of_ble_eq_true rfl⟩ dX10_repeats_71 (fun _ _ q => False.elim q) (kIp (fun r_4 hr_4 h => ?_))
        obtain ⟨g_7, h⟩ := h
        refine a_callV (pc := 74) X9 E (m_X10_setsHymn hi1 g_7 hr_4 hnn h) okX10 (is10 hnn) wM_X10_156 w_instanceMethod_X10_setsHymn w_selects_X10_setsHymn w_initialized_RX10 w_code_X10_setsHymn cp_X10_setsHymn pn_X10_setsHymn rfl (Nat.le_of_ble_eq_true rfl) ⟨Nat.le_of_ble_eq_true rfl, Nat.le_of_ble_eq_true rfl⟩ ⟨Nat.le_of_ble_eq_true rfl, Nat.le_of_ble_eq_true rfl⟩ dX10_repeats_74 (fun _ _ q => False.elim q) (kV (fun G_4 h hG_4 => ?_))
        refine a_iinc (pc := 77) X9 dX10_repeats_77 rfl (Nat.le_of_ble_eq_true rfl) rfl rfl ?_
        refine a_goto (pc := 80) (tgt := 46) X9 dX10_repeats_80 rfl ?_
        have q_1 : inR (((r_2 - i2) * (G_2 272 11))) := g_3
        have q_2 : inR (x4_1) := h_x4_1
        have g_8 : inR ((x4_1 + 1)) := ⟨by omega, by omega⟩
        exact hk_1 _ _ h g_8 hG_4
    · have c_2 := c
      have h := h.2 c_2
      refine a_aload_n (pc := 33) X9 dX10_repeats_33 rfl rfl ?_
      refine a_iconst (pc := 34) X9 dX10_repeats_34 ?_
      refine a_aload_n (pc := 35) X9 dX10_repeats_35 rfl rfl ?_
      refine a_getI (pc := 36) X9 okX10 10 rfl wF_X10_81 (is10 hnn) dX10_repeats_36 ?_
      refine a_callV (pc := 39) X9 E (m_X10_fails (show inR 4 by decide) (hG_1 _ _) hnn h) okX10 (is10 hnn) wM_X10_100 w_instanceMethod_X10_fails w_selects_X10_fails w_initialized_RX10 w_code_X10_fails cp_X10_fails pn_X10_fails rfl (Nat.le_of_ble_eq_true rfl) ⟨Nat.le_of_ble_eq_true rfl, Nat.le_of_ble_eq_true rfl⟩ ⟨Nat.le_of_ble_eq_true rfl, Nat.le_of_ble_eq_true rfl⟩ dX10_repeats_39 (fun _ _ q => False.elim q) (kZ (fun r_6 G_5 hr_6 h hG_5 => ?_))
      exact a_ireturn (pc := 42) X9 E rfl (fit_bool hr_6).1 (Nat.le_of_ble_eq_true rfl) (Nat.le_of_ble_eq_true rfl) dX10_repeats_42 ⟨rfl, _, rfl, hr_6, h⟩
  · have c_1 := c
    have h := h.2 c_1
    refine a_iconst (pc := 10) X9 dX10_repeats_10 ?_
    exact a_ireturn (pc := 11) X9 E rfl (fit_bool (Or.inl rfl)).1 (Nat.le_of_ble_eq_true rfl) (Nat.le_of_ble_eq_true rfl) dX10_repeats_11 ⟨rfl, _, rfl, (Or.inl rfl), h⟩
set_option maxHeartbeats 4000000 in
set_option maxRecDepth 100000 in
theorem m_X10_comesHymn {nn : Nat} {i1 : Int} {i2 : Int} {G : GH} {Q : GH → Prop} (hi1 : inR i1) (hi2 : inR i2) (hnn : 285 ≤ nn) (h : f_X10_comesHymn i1 i2 G Q) : Mt yX10_comesHymn cX10_comesHymn 3 none 2 44 0 0 [vr 272, vi i1, vi i2] (SF nn) G (fun v S' G' => S' = SF nn ∧ qV Q v S' G') (fun E S' G' => S' = SF nn ∧ False) := by
  refine Mt.of (l0 := [some (vr 272), some (vi i1), some (vi i2)]) (by decide) (Nat.le_of_ble_eq_true rfl) rfl ?_
  intro κ δ ρ0 X9 E hG
  replace X9 : CX κ δ RX10 cX10_comesHymn 3 none := X9
  refine a_aload_n (pc := 0) X9 dX10_comesHymn_0 rfl rfl ?_
  refine a_iload_n (pc := 1) X9 dX10_comesHymn_1 rfl rfl ?_
  refine a_aload_n (pc := 2) X9 dX10_comesHymn_2 rfl rfl ?_
  refine a_iload_n (pc := 3) X9 dX10_comesHymn_3 rfl rfl ?_
  refine a_callV (pc := 4) X9 E (m_X10_hymnsOf hi1 hnn h) okX10 (is10 hnn) wM_X10_148 w_instanceMethod_X10_hymnsOf w_selects_X10_hymnsOf w_initialized_RX10 w_code_X10_hymnsOf cp_X10_hymnsOf pn_X10_hymnsOf rfl (Nat.le_of_ble_eq_true rfl) ⟨Nat.le_of_ble_eq_true rfl, Nat.le_of_ble_eq_true rfl⟩ ⟨Nat.le_of_ble_eq_true rfl, Nat.le_of_ble_eq_true rfl⟩ dX10_comesHymn_4 (fun _ _ q => False.elim q) (kIp (fun r_1 hr_1 h => ?_))
  refine a_iload_n (pc := 7) X9 dX10_comesHymn_7 rfl rfl ?_
  refine a_callV (pc := 8) X9 E (m_X10_setsHymn hi1 hr_1 hi2 hnn h) okX10 (is10 hnn) wM_X10_156 w_instanceMethod_X10_setsHymn w_selects_X10_setsHymn w_initialized_RX10 w_code_X10_setsHymn cp_X10_setsHymn pn_X10_setsHymn rfl (Nat.le_of_ble_eq_true rfl) ⟨Nat.le_of_ble_eq_true rfl, Nat.le_of_ble_eq_true rfl⟩ ⟨Nat.le_of_ble_eq_true rfl, Nat.le_of_ble_eq_true rfl⟩ dX10_comesHymn_8 (fun _ _ q => False.elim q) (kV (fun G_1 h hG_1 => ?_))
  refine a_aload_n (pc := 11) X9 dX10_comesHymn_11 rfl rfl ?_
  refine a_getR (pc := 12) X9 (q := 273) okX10 1 rfl wF_X10_9 (is10 hnn) rf10_1 dX10_comesHymn_12 ?_
  refine a_iload_n (pc := 15) X9 dX10_comesHymn_15 rfl rfl ?_
  refine a_iconst (pc := 16) X9 dX10_comesHymn_16 ?_
  refine a_callS (pc := 17) X9 E (m_X10_serviceAt hi1 (show inR 0 by decide) hnn h) wM_X10_159 w_static_X10_serviceAt w_initialized_RX10 w_code_X10_serviceAt cp_X10_serviceAt pn_X10_serviceAt rfl (Nat.le_of_ble_eq_true rfl) ⟨Nat.le_of_ble_eq_true rfl, Nat.le_of_ble_eq_true rfl⟩ ⟨Nat.le_of_ble_eq_true rfl, Nat.le_of_ble_eq_true rfl⟩ dX10_comesHymn_17 (fun _ _ q => False.elim q) (kIp (fun r_3 hr_3 h => ?_))
  refine a_dup2 (pc := 20) X9 dX10_comesHymn_20 rfl rfl ?_
  obtain ⟨g_1, h⟩ := h
  refine b_iald (pc := 21) X9 (ar10_1 hnn) (Nat.le_of_ble_eq_true rfl) g_1 dX10_comesHymn_21 ?_
  refine a_iconst (pc := 22) X9 dX10_comesHymn_22 ?_
  refine a_iadd (pc := 23) X9 dX10_comesHymn_23 ?_
  obtain ⟨g_2, h⟩ := h
  refine b_iast (pc := 24) X9 (i := r_3) (v := ((G_1 273 (r_3).toNat) + 1)) (ar10_1 hnn) (Nat.le_of_ble_eq_true rfl) g_1 g_2 dX10_comesHymn_24 ?_
  obtain ⟨G_2, eG_2⟩ : ∃ G9, G9 = upG G_1 273 (r_3).toNat ((G_1 273 (r_3).toNat) + 1) := ⟨_, rfl⟩
  have hG_2 : GR G_2 := by rw [eG_2]; exact (GR.up hG_1 g_2)
  have h := h G_2 eG_2
  rw [← eG_2]
  exact a_return (pc := 25) X9 E (Nat.le_of_ble_eq_true rfl) (Nat.le_of_ble_eq_true rfl) dX10_comesHymn_25 ⟨rfl, rfl, h⟩
set_option maxHeartbeats 4000000 in
set_option maxRecDepth 100000 in
theorem m_X10_readService {nn : Nat} {i1 : Int} {G : GH} {Q : Int → GH → Prop} (hi1 : inR i1) (hnn : 285 ≤ nn) (h : f_X10_readService i1 G Q) : Mt yX10_readService cX10_readService 6 (some .boolean) 4 93 0 0 [vr 272, vi i1] (SF nn) G (fun v S' G' => S' = SF nn ∧ qZ Q v S' G') (fun E S' G' => S' = SF nn ∧ False) := by
  refine Mt.of (l0 := [some (vr 272), some (vi i1), none, none, none, none]) (by decide) (Nat.le_of_ble_eq_true rfl) rfl ?_
  intro κ δ ρ0 X9 E hG
  replace X9 : CX κ δ RX10 cX10_readService 6 (some .boolean) := X9
  refine a_aload_n (pc := 0) X9 dX10_readService_0 rfl rfl ?_
  refine a_getR (pc := 1) X9 (q := 273) okX10 1 rfl wF_X10_9 (is10 hnn) rf10_1 dX10_readService_1 ?_
  refine a_iconst (pc := 4) X9 dX10_readService_4 ?_
  refine a_iald (pc := 5) X9 (ar10_1 hnn) (Nat.le_of_ble_eq_true rfl) (j := 5) rfl (Nat.le_of_ble_eq_true rfl) dX10_readService_5 ?_
  refine a_istore_n (pc := 6) X9 dX10_readService_6 rfl (Nat.le_of_ble_eq_true rfl) rfl rfl ?_
  refine a_iload_n (pc := 7) X9 dX10_readService_7 rfl rfl ?_
  refine a_bipush (pc := 8) X9 dX10_readService_8 rfl ?_
  refine a_icmp_ne (pc := 10) (tgt := 20) X9 dX10_readService_10 rfl (hG _ _) (by decide) (fun c => ?_) (fun c => ?_)
  · have c_1 := c
    have h := h.1 c_1
    refine a_aload_n (pc := 20) X9 dX10_readService_20 rfl rfl ?_
    refine a_getR (pc := 21) X9 (q := 273) okX10 1 rfl wF_X10_9 (is10 hnn) rf10_1 dX10_readService_21 ?_
    refine a_iload_n (pc := 24) X9 dX10_readService_24 rfl rfl ?_
    refine a_iconst (pc := 25) X9 dX10_readService_25 ?_
    refine a_callS (pc := 26) X9 E (m_X10_serviceAt (hG _ _) (show inR 0 by decide) hnn h) wM_X10_159 w_static_X10_serviceAt w_initialized_RX10 w_code_X10_serviceAt cp_X10_serviceAt pn_X10_serviceAt rfl (Nat.le_of_ble_eq_true rfl) ⟨Nat.le_of_ble_eq_true rfl, Nat.le_of_ble_eq_true rfl⟩ ⟨Nat.le_of_ble_eq_true rfl, Nat.le_of_ble_eq_true rfl⟩ dX10_readService_26 (fun _ _ q => False.elim q) (kIp (fun r_1 hr_1 h => ?_))
    refine a_iconst (pc := 29) X9 dX10_readService_29 ?_
    obtain ⟨g_1, h⟩ := h
    refine b_iast (pc := 30) X9 (i := r_1) (v := 0) (ar10_1 hnn) (Nat.le_of_ble_eq_true rfl) g_1 (by decide) dX10_readService_30 ?_
    obtain ⟨G_1, eG_1⟩ : ∃ G9, G9 = upG G 273 (r_1).toNat 0 := ⟨_, rfl⟩
    have hG_1 : GR G_1 := by rw [eG_1]; exact (GR.up hG (by decide))
    have h := h G_1 eG_1
    rw [← eG_1]
    refine a_iconst (pc := 31) X9 dX10_readService_31 ?_
    refine a_istore_n (pc := 32) X9 dX10_readService_32 rfl (Nat.le_of_ble_eq_true rfl) rfl rfl ?_
    refine a_iconst (pc := 33) X9 dX10_readService_33 ?_
    refine a_istore (pc := 34) X9 dX10_readService_34 (Nat.le_of_ble_eq_true rfl) rfl rfl ?_
    refine joinM3 (A := fun x3_2 x4_2 G_12 => inR x3_2 → inR x4_2 → GR G_12 → AW κ δ ρ0 nn 6 0 0 202 [some (vr 272), some (vi i1), some (vi (G 273 5)), some (vi x3_2), some (vi x4_2), none] [] (SF nn) G_12) (fun x3_2 x4_2 G_12 h h_x3_2 h_x4_2 hG_12 => ?_) (fun j_1 hj_1 h => ?_) h
    · refine a_iload (pc := 202) X9 dX10_readService_202 rfl ?_
      refine a_if_eq (pc := 204) (tgt := 211) X9 dX10_readService_204 rfl h_x4_2 (fun c => ?_) (fun c => ?_)
      · have c_11 := c
        have h := h.1 c_11
        refine a_aload_n (pc := 211) X9 dX10_readService_211 rfl rfl ?_
        refine a_iconst (pc := 212) X9 dX10_readService_212 ?_
        refine a_aload_n (pc := 213) X9 dX10_readService_213 rfl rfl ?_
        refine a_getI (pc := 214) X9 okX10 10 rfl wF_X10_81 (is10 hnn) dX10_readService_214 ?_
        refine a_callV (pc := 217) X9 E (m_X10_fails (show inR 1 by decide) (hG_12 _ _) hnn h) okX10 (is10 hnn) wM_X10_100 w_instanceMethod_X10_fails w_selects_X10_fails w_initialized_RX10 w_code_X10_fails cp_X10_fails pn_X10_fails rfl (Nat.le_of_ble_eq_true rfl) ⟨Nat.le_of_ble_eq_true rfl, Nat.le_of_ble_eq_true rfl⟩ ⟨Nat.le_of_ble_eq_true rfl, Nat.le_of_ble_eq_true rfl⟩ dX10_readService_217 (fun _ _ q => False.elim q) (kZ (fun r_11 G_13 hr_11 h hG_13 => ?_))
        exact a_ireturn (pc := 220) X9 E rfl (fit_bool hr_11).1 (Nat.le_of_ble_eq_true rfl) (Nat.le_of_ble_eq_true rfl) dX10_readService_220 ⟨rfl, _, rfl, hr_11, h⟩
      · have c_11 := c
        have h := h.2 c_11
        refine a_iload_n (pc := 207) X9 dX10_readService_207 rfl rfl ?_
        refine a_if_le (pc := 208) (tgt := 221) X9 dX10_readService_208 rfl h_x3_2 (fun c => ?_) (fun c => ?_)
        · have c_12 := c
          have h := h.1 c_12
          refine a_aload_n (pc := 221) X9 dX10_readService_221 rfl rfl ?_
          refine a_getR (pc := 222) X9 (q := 273) okX10 1 rfl wF_X10_9 (is10 hnn) rf10_1 dX10_readService_222 ?_
          refine a_iconst (pc := 225) X9 dX10_readService_225 ?_
          refine a_dup2 (pc := 226) X9 dX10_readService_226 rfl rfl ?_
          refine a_iald (pc := 227) X9 (ar10_1 hnn) (Nat.le_of_ble_eq_true rfl) (j := 5) rfl (Nat.le_of_ble_eq_true rfl) dX10_readService_227 ?_
          refine a_iconst (pc := 228) X9 dX10_readService_228 ?_
          refine a_iadd (pc := 229) X9 dX10_readService_229 ?_
          obtain ⟨g_8, h⟩ := h
          refine a_iast (pc := 230) X9 (v := ((G_12 273 5) + 1)) (ar10_1 hnn) (Nat.le_of_ble_eq_true rfl) (j := 5) rfl (Nat.le_of_ble_eq_true rfl) g_8 dX10_readService_230 (fun _ => ?_)
          obtain ⟨G_14, eG_14⟩ : ∃ G9, G9 = upG G_12 273 5 ((G_12 273 5) + 1) := ⟨_, rfl⟩
          have hG_14 : GR G_14 := by rw [eG_14]; exact (GR.up hG_12 g_8)
          have h := h G_14 eG_14
          rw [← eG_14]
          refine a_iconst (pc := 231) X9 dX10_readService_231 ?_
          exact a_ireturn (pc := 232) X9 E rfl (fit_bool (Or.inr rfl)).1 (Nat.le_of_ble_eq_true rfl) (Nat.le_of_ble_eq_true rfl) dX10_readService_232 ⟨rfl, _, rfl, (Or.inr rfl), h⟩
        · have c_12 := c
          have h := h.2 c_12
          refine a_aload_n (pc := 211) X9 dX10_readService_211 rfl rfl ?_
          refine a_iconst (pc := 212) X9 dX10_readService_212 ?_
          refine a_aload_n (pc := 213) X9 dX10_readService_213 rfl rfl ?_
          refine a_getI (pc := 214) X9 okX10 10 rfl wF_X10_81 (is10 hnn) dX10_readService_214 ?_
          refine a_callV (pc := 217) X9 E (m_X10_fails (show inR 1 by decide) (hG_12 _ _) hnn h) okX10 (is10 hnn) wM_X10_100 w_instanceMethod_X10_fails w_selects_X10_fails w_initialized_RX10 w_code_X10_fails cp_X10_fails pn_X10_fails rfl (Nat.le_of_ble_eq_true rfl) ⟨Nat.le_of_ble_eq_true rfl, Nat.le_of_ble_eq_true rfl⟩ ⟨Nat.le_of_ble_eq_true rfl, Nat.le_of_ble_eq_true rfl⟩ dX10_readService_217 (fun _ _ q => False.elim q) (kZ (fun r_12 G_15 hr_12 h hG_15 => ?_))
          exact a_ireturn (pc := 220) X9 E rfl (fit_bool hr_12).1 (Nat.le_of_ble_eq_true rfl) (Nat.le_of_ble_eq_true rfl) dX10_readService_220 ⟨rfl, _, rfl, hr_12, h⟩
    · refine loopM3 (A := fun x3_3 x4_3 G_16 => inR x3_3 → inR x4_3 → GR G_16 → AW κ δ ρ0 nn 6 0 0 36 [some (vr 272), some (vi i1), some (vi (G 273 5)), some (vi x3_3), some (vi x4_3), none] [] (SF nn) G_16) (fun k_2 hk_2 x3_3 x4_3 G_16 h h_x3_3 h_x4_3 hG_16 => ?_) _ _ _ h (by decide) (by decide) hG_1
      refine a_aload_n (pc := 36) X9 dX10_readService_36 rfl rfl ?_
      refine a_callV (pc := 37) X9 E (m_X10_nextByte  hnn h) okX10 (is10 hnn) wM_X10_84 w_instanceMethod_X10_nextByte w_selects_X10_nextByte w_initialized_RX10 w_code_X10_nextByte cp_X10_nextByte pn_X10_nextByte rfl (Nat.le_of_ble_eq_true rfl) ⟨Nat.le_of_ble_eq_true rfl, Nat.le_of_ble_eq_true rfl⟩ ⟨Nat.le_of_ble_eq_true rfl, Nat.le_of_ble_eq_true rfl⟩ dX10_readService_37 (fun _ _ q => False.elim q) (kI (fun r_13 G_17 hr_13 h hG_17 => ?_))
      refine a_istore (pc := 40) X9 dX10_readService_40 (Nat.le_of_ble_eq_true rfl) rfl rfl ?_
      refine a_iload (pc := 42) X9 dX10_readService_42 rfl ?_
      refine a_bipush (pc := 44) X9 dX10_readService_44 rfl ?_
      refine a_icmp_ne (pc := 46) (tgt := 94) X9 dX10_readService_46 rfl hr_13 (by decide) (fun c => ?_) (fun c => ?_)
      · have c_13 := c
        have h := h.1 c_13
        refine a_iload (pc := 94) X9 dX10_readService_94 rfl ?_
        refine a_i2l (pc := 96) X9 dX10_readService_96 hr_13 ?_
        refine a_ldc2 (pc := 97) X9 (n := 48) wCL_X10_88 dX10_readService_97 (by decide +kernel) ?_
        refine a_ldc2 (pc := 100) X9 (n := 57) wCL_X10_90 dX10_readService_100 (by decide +kernel) ?_
        refine a_callS (pc := 103) X9 E (m_X10_in (inR_inL hr_13) (show inL 48 by decide) (show inL 57 by decide) hnn h) wM_X10_92 w_static_X10_in w_initialized_RX10 w_code_X10_in cp_X10_in pn_X10_in rfl (Nat.le_of_ble_eq_true rfl) ⟨Nat.le_of_ble_eq_true rfl, Nat.le_of_ble_eq_true rfl⟩ ⟨Nat.le_of_ble_eq_true rfl, Nat.le_of_ble_eq_true rfl⟩ dX10_readService_103 (fun _ _ q => False.elim q) (kZp (fun r_14 hr_14 h => ?_))
        refine a_if_eq (pc := 106) (tgt := 157) X9 dX10_readService_106 rfl (bool_inR hr_14) (fun c => ?_) (fun c => ?_)
        · have c_14 := c
          have h := h.1 c_14
          refine a_iload (pc := 157) X9 dX10_readService_157 rfl ?_
          refine a_bipush (pc := 159) X9 dX10_readService_159 rfl ?_
          refine a_icmp_ne (pc := 161) (tgt := 202) X9 dX10_readService_161 rfl hr_13 (by decide) (fun c => ?_) (fun c => ?_)
          · have c_15 := c
            have h := h.1 c_15
            refine AW.drop 5 rfl ?_
            exact hj_1 _ _ _ h h_x3_3 h_x4_3 hG_17
          · have c_15 := c
            have h := h.2 c_15
            refine a_iload (pc := 164) X9 dX10_readService_164 rfl ?_
            refine a_if_eq (pc := 166) (tgt := 202) X9 dX10_readService_166 rfl h_x4_3 (fun c => ?_) (fun c => ?_)
            · have c_16 := c
              have h := h.1 c_16
              refine AW.drop 5 rfl ?_
              exact hj_1 _ _ _ h h_x3_3 h_x4_3 hG_17
            · have c_16 := c
              have h := h.2 c_16
              refine a_iload_n (pc := 169) X9 dX10_readService_169 rfl rfl ?_
              refine a_if_le (pc := 170) (tgt := 202) X9 dX10_readService_170 rfl h_x3_3 (fun c => ?_) (fun c => ?_)
              · have c_17 := c
                have h := h.1 c_17
                refine AW.drop 5 rfl ?_
                exact hj_1 _ _ _ h h_x3_3 h_x4_3 hG_17
              · have c_17 := c
                have h := h.2 c_17
                refine a_iinc (pc := 173) X9 dX10_readService_173 rfl (Nat.le_of_ble_eq_true rfl) rfl rfl ?_
                refine a_aload_n (pc := 176) X9 dX10_readService_176 rfl rfl ?_
                refine a_dup (pc := 177) X9 dX10_readService_177 rfl ?_
                refine a_getI (pc := 178) X9 okX10 9 rfl wF_X10_78 (is10 hnn) dX10_readService_178 ?_
                refine a_iconst (pc := 181) X9 dX10_readService_181 ?_
                refine a_iadd (pc := 182) X9 dX10_readService_182 ?_
                obtain ⟨g_9, h⟩ := h
                refine a_putI (pc := 183) X9 okX10 9 rfl rfl (v := ((G_17 272 9) + 1)) wF_X10_78 (is10 hnn) dX10_readService_183 g_9 (fit_int _) (fun _ => ?_)
                obtain ⟨G_18, eG_18⟩ : ∃ G9, G9 = upG G_17 272 9 ((G_17 272 9) + 1) := ⟨_, rfl⟩
                have hG_18 : GR G_18 := by rw [eG_18]; exact (GR.up hG_17 g_9)
                have h := h G_18 eG_18
                rw [← eG_18]
                refine a_aload_n (pc := 186) X9 dX10_readService_186 rfl rfl ?_
                refine a_iload_n (pc := 187) X9 dX10_readService_187 rfl rfl ?_
                refine a_aload_n (pc := 188) X9 dX10_readService_188 rfl rfl ?_
                refine a_getR (pc := 189) X9 (q := 279) okX10 16 rfl wF_X10_34 (is10 hnn) rf10_16 dX10_readService_189 ?_
                refine a_iload_n (pc := 192) X9 dX10_readService_192 rfl rfl ?_
                obtain ⟨g_10, h⟩ := h
                refine b_iald (pc := 193) X9 (ar10_16 hnn) (Nat.le_of_ble_eq_true rfl) g_10 dX10_readService_193 ?_
                refine a_callV (pc := 194) X9 E (m_X10_repeats (hG _ _) (hG_18 _ _) hnn h) okX10 (is10 hnn) wM_X10_166 w_instanceMethod_X10_repeats w_selects_X10_repeats w_initialized_RX10 w_code_X10_repeats cp_X10_repeats pn_X10_repeats rfl (Nat.le_of_ble_eq_true rfl) ⟨Nat.le_of_ble_eq_true rfl, Nat.le_of_ble_eq_true rfl⟩ ⟨Nat.le_of_ble_eq_true rfl, Nat.le_of_ble_eq_true rfl⟩ dX10_readService_194 (fun _ _ q => False.elim q) (kZ (fun r_15 G_19 hr_15 h hG_19 => ?_))
                refine a_if_ne (pc := 197) (tgt := 233) X9 dX10_readService_197 rfl (bool_inR hr_15) (fun c => ?_) (fun c => ?_)
                · have c_18 := c
                  have h := h.1 c_18
                  refine a_goto (pc := 233) (tgt := 36) X9 dX10_readService_233 rfl ?_
                  have q_2 : inR (x3_3) := h_x3_3
                  have g_11 : inR ((x3_3 + (-1))) := ⟨by omega, by omega⟩
                  refine AW.drop 5 rfl ?_
                  exact hk_2 _ _ _ h g_11 h_x4_3 hG_19
                · have c_18 := c
                  have h := h.2 c_18
                  refine a_iconst (pc := 200) X9 dX10_readService_200 ?_
                  exact a_ireturn (pc := 201) X9 E rfl (fit_bool (Or.inl rfl)).1 (Nat.le_of_ble_eq_true rfl) (Nat.le_of_ble_eq_true rfl) dX10_readService_201 ⟨rfl, _, rfl, (Or.inl rfl), h⟩
        · have c_14 := c
          have h := h.2 c_14
          refine a_aload_n (pc := 109) X9 dX10_readService_109 rfl rfl ?_
          refine a_iconst (pc := 110) X9 dX10_readService_110 ?_
          refine a_sipush (pc := 111) X9 dX10_readService_111 rfl ?_
          refine a_callV (pc := 114) X9 E (m_X10_reads (show inR 1 by decide) (show inR 999 by decide) hnn h) okX10 (is10 hnn) wM_X10_127 w_instanceMethod_X10_reads w_selects_X10_reads w_initialized_RX10 w_code_X10_reads cp_X10_reads pn_X10_reads rfl (Nat.le_of_ble_eq_true rfl) ⟨Nat.le_of_ble_eq_true rfl, Nat.le_of_ble_eq_true rfl⟩ ⟨Nat.le_of_ble_eq_true rfl, Nat.le_of_ble_eq_true rfl⟩ dX10_readService_114 (fun _ _ q => False.elim q) (kZ (fun r_16 G_20 hr_16 h hG_20 => ?_))
          refine a_if_ne (pc := 117) (tgt := 122) X9 dX10_readService_117 rfl (bool_inR hr_16) (fun c => ?_) (fun c => ?_)
          · have c_19 := c
            have h := h.1 c_19
            refine a_aload_n (pc := 122) X9 dX10_readService_122 rfl rfl ?_
            refine a_iload_n (pc := 123) X9 dX10_readService_123 rfl rfl ?_
            refine a_callV (pc := 124) X9 E (m_X10_hymnsOf (hG _ _) hnn h) okX10 (is10 hnn) wM_X10_148 w_instanceMethod_X10_hymnsOf w_selects_X10_hymnsOf w_initialized_RX10 w_code_X10_hymnsOf cp_X10_hymnsOf pn_X10_hymnsOf rfl (Nat.le_of_ble_eq_true rfl) ⟨Nat.le_of_ble_eq_true rfl, Nat.le_of_ble_eq_true rfl⟩ ⟨Nat.le_of_ble_eq_true rfl, Nat.le_of_ble_eq_true rfl⟩ dX10_readService_124 (fun _ _ q => False.elim q) (kIp (fun r_17 hr_17 h => ?_))
            refine a_bipush (pc := 127) X9 dX10_readService_127 rfl ?_
            refine a_icmp_ne (pc := 129) (tgt := 142) X9 dX10_readService_129 rfl hr_17 (by decide) (fun c => ?_) (fun c => ?_)
            · have c_20 := c
              have h := h.1 c_20
              refine a_aload_n (pc := 142) X9 dX10_readService_142 rfl rfl ?_
              refine a_iload_n (pc := 143) X9 dX10_readService_143 rfl rfl ?_
              refine a_aload_n (pc := 144) X9 dX10_readService_144 rfl rfl ?_
              refine a_getI (pc := 145) X9 okX10 11 rfl wF_X10_112 (is10 hnn) dX10_readService_145 ?_
              refine a_callV (pc := 148) X9 E (m_X10_comesHymn (hG _ _) (hG_20 _ _) hnn h) okX10 (is10 hnn) wM_X10_162 w_instanceMethod_X10_comesHymn w_selects_X10_comesHymn w_initialized_RX10 w_code_X10_comesHymn cp_X10_comesHymn pn_X10_comesHymn rfl (Nat.le_of_ble_eq_true rfl) ⟨Nat.le_of_ble_eq_true rfl, Nat.le_of_ble_eq_true rfl⟩ ⟨Nat.le_of_ble_eq_true rfl, Nat.le_of_ble_eq_true rfl⟩ dX10_readService_148 (fun _ _ q => False.elim q) (kV (fun G_21 h hG_21 => ?_))
              refine a_iconst (pc := 151) X9 dX10_readService_151 ?_
              refine a_istore (pc := 152) X9 dX10_readService_152 (Nat.le_of_ble_eq_true rfl) rfl rfl ?_
              refine a_goto (pc := 154) (tgt := 233) X9 dX10_readService_154 rfl ?_
              refine a_goto (pc := 233) (tgt := 36) X9 dX10_readService_233 rfl ?_
              refine AW.drop 5 rfl ?_
              exact hk_2 _ _ _ h h_x3_3 (by decide) hG_21
            · have c_20 := c
              have h := h.2 c_20
              refine a_aload_n (pc := 132) X9 dX10_readService_132 rfl rfl ?_
              refine a_iconst (pc := 133) X9 dX10_readService_133 ?_
              refine a_aload_n (pc := 134) X9 dX10_readService_134 rfl rfl ?_
              refine a_getI (pc := 135) X9 okX10 10 rfl wF_X10_81 (is10 hnn) dX10_readService_135 ?_
              refine a_callV (pc := 138) X9 E (m_X10_fails (show inR 4 by decide) (hG_20 _ _) hnn h) okX10 (is10 hnn) wM_X10_100 w_instanceMethod_X10_fails w_selects_X10_fails w_initialized_RX10 w_code_X10_fails cp_X10_fails pn_X10_fails rfl (Nat.le_of_ble_eq_true rfl) ⟨Nat.le_of_ble_eq_true rfl, Nat.le_of_ble_eq_true rfl⟩ ⟨Nat.le_of_ble_eq_true rfl, Nat.le_of_ble_eq_true rfl⟩ dX10_readService_138 (fun _ _ q => False.elim q) (kZ (fun r_19 G_22 hr_19 h hG_22 => ?_))
              exact a_ireturn (pc := 141) X9 E rfl (fit_bool hr_19).1 (Nat.le_of_ble_eq_true rfl) (Nat.le_of_ble_eq_true rfl) dX10_readService_141 ⟨rfl, _, rfl, hr_19, h⟩
          · have c_19 := c
            have h := h.2 c_19
            refine a_iconst (pc := 120) X9 dX10_readService_120 ?_
            exact a_ireturn (pc := 121) X9 E rfl (fit_bool (Or.inl rfl)).1 (Nat.le_of_ble_eq_true rfl) (Nat.le_of_ble_eq_true rfl) dX10_readService_121 ⟨rfl, _, rfl, (Or.inl rfl), h⟩
      · have c_13 := c
        have h := h.2 c_13
        refine a_iload_n (pc := 49) X9 dX10_readService_49 rfl rfl ?_
        refine a_iconst (pc := 50) X9 dX10_readService_50 ?_
        refine a_icmp_ne (pc := 51) (tgt := 64) X9 dX10_readService_51 rfl h_x3_3 (by decide) (fun c => ?_) (fun c => ?_)
        · have c_21 := c
          have h := h.1 c_21
          refine a_aload_n (pc := 64) X9 dX10_readService_64 rfl rfl ?_
          refine a_getR (pc := 65) X9 (q := 279) okX10 16 rfl wF_X10_34 (is10 hnn) rf10_16 dX10_readService_65 ?_
          refine a_iload_n (pc := 68) X9 dX10_readService_68 rfl rfl ?_
          refine a_aload_n (pc := 69) X9 dX10_readService_69 rfl rfl ?_
          refine a_iload_n (pc := 70) X9 dX10_readService_70 rfl rfl ?_
          refine a_callV (pc := 71) X9 E (m_X10_hymnsOf (hG _ _) hnn h) okX10 (is10 hnn) wM_X10_148 w_instanceMethod_X10_hymnsOf w_selects_X10_hymnsOf w_initialized_RX10 w_code_X10_hymnsOf cp_X10_hymnsOf pn_X10_hymnsOf rfl (Nat.le_of_ble_eq_true rfl) ⟨Nat.le_of_ble_eq_true rfl, Nat.le_of_ble_eq_true rfl⟩ ⟨Nat.le_of_ble_eq_true rfl, Nat.le_of_ble_eq_true rfl⟩ dX10_readService_71 (fun _ _ q => False.elim q) (kIp (fun r_20 hr_20 h => ?_))
          obtain ⟨g_12, h⟩ := h
          refine b_iast (pc := 74) X9 (i := x3_3) (v := r_20) (ar10_16 hnn) (Nat.le_of_ble_eq_true rfl) g_12 hr_20 dX10_readService_74 ?_
          obtain ⟨G_23, eG_23⟩ : ∃ G9, G9 = upG G_17 279 (x3_3).toNat r_20 := ⟨_, rfl⟩
          have hG_23 : GR G_23 := by rw [eG_23]; exact (GR.up hG_17 hr_20)
          have h := h G_23 eG_23
          rw [← eG_23]
          refine a_iinc (pc := 75) X9 dX10_readService_75 rfl (Nat.le_of_ble_eq_true rfl) rfl rfl ?_
          refine a_aload_n (pc := 78) X9 dX10_readService_78 rfl rfl ?_
          refine a_dup (pc := 79) X9 dX10_readService_79 rfl ?_
          refine a_getI (pc := 80) X9 okX10 9 rfl wF_X10_78 (is10 hnn) dX10_readService_80 ?_
          refine a_iconst (pc := 83) X9 dX10_readService_83 ?_
          refine a_iadd (pc := 84) X9 dX10_readService_84 ?_
          obtain ⟨g_13, h⟩ := h
          refine a_putI (pc := 85) X9 okX10 9 rfl rfl (v := ((G_23 272 9) + 1)) wF_X10_78 (is10 hnn) dX10_readService_85 g_13 (fit_int _) (fun _ => ?_)
          obtain ⟨G_24, eG_24⟩ : ∃ G9, G9 = upG G_23 272 9 ((G_23 272 9) + 1) := ⟨_, rfl⟩
          have hG_24 : GR G_24 := by rw [eG_24]; exact (GR.up hG_23 g_13)
          have h := h G_24 eG_24
          rw [← eG_24]
          refine a_iconst (pc := 88) X9 dX10_readService_88 ?_
          refine a_istore (pc := 89) X9 dX10_readService_89 (Nat.le_of_ble_eq_true rfl) rfl rfl ?_
          refine a_goto (pc := 91) (tgt := 233) X9 dX10_readService_91 rfl ?_
          refine a_goto (pc := 233) (tgt := 36) X9 dX10_readService_233 rfl ?_
          obtain ⟨g_14, h⟩ := h
          refine AW.drop 5 rfl ?_
          exact hk_2 _ _ _ h g_14 (by decide) hG_24
        · have c_21 := c
          have h := h.2 c_21
          refine a_aload_n (pc := 54) X9 dX10_readService_54 rfl rfl ?_
          refine a_iconst (pc := 55) X9 dX10_readService_55 ?_
          refine a_aload_n (pc := 56) X9 dX10_readService_56 rfl rfl ?_
          refine a_getI (pc := 57) X9 okX10 10 rfl wF_X10_81 (is10 hnn) dX10_readService_57 ?_
          refine a_callV (pc := 60) X9 E (m_X10_fails (show inR 3 by decide) (hG_17 _ _) hnn h) okX10 (is10 hnn) wM_X10_100 w_instanceMethod_X10_fails w_selects_X10_fails w_initialized_RX10 w_code_X10_fails cp_X10_fails pn_X10_fails rfl (Nat.le_of_ble_eq_true rfl) ⟨Nat.le_of_ble_eq_true rfl, Nat.le_of_ble_eq_true rfl⟩ ⟨Nat.le_of_ble_eq_true rfl, Nat.le_of_ble_eq_true rfl⟩ dX10_readService_60 (fun _ _ q => False.elim q) (kZ (fun r_21 G_25 hr_21 h hG_25 => ?_))
          exact a_ireturn (pc := 63) X9 E rfl (fit_bool hr_21).1 (Nat.le_of_ble_eq_true rfl) (Nat.le_of_ble_eq_true rfl) dX10_readService_63 ⟨rfl, _, rfl, hr_21, h⟩
  · have c_1 := c
    have h := h.2 c_1
    refine a_aload_n (pc := 13) X9 dX10_readService_13 rfl rfl ?_
    refine a_iconst (pc := 14) X9 dX10_readService_14 ?_
    refine a_iload_n (pc := 15) X9 dX10_readService_15 rfl rfl ?_
    refine a_callV (pc := 16) X9 E (m_X10_fails (show inR 3 by decide) hi1 hnn h) okX10 (is10 hnn) wM_X10_100 w_instanceMethod_X10_fails w_selects_X10_fails w_initialized_RX10 w_code_X10_fails cp_X10_fails pn_X10_fails rfl (Nat.le_of_ble_eq_true rfl) ⟨Nat.le_of_ble_eq_true rfl, Nat.le_of_ble_eq_true rfl⟩ ⟨Nat.le_of_ble_eq_true rfl, Nat.le_of_ble_eq_true rfl⟩ dX10_readService_16 (fun _ _ q => False.elim q) (kZ (fun r_22 G_26 hr_22 h hG_26 => ?_))
    exact a_ireturn (pc := 19) X9 E rfl (fit_bool hr_22).1 (Nat.le_of_ble_eq_true rfl) (Nat.le_of_ble_eq_true rfl) dX10_readService_19 ⟨rfl, _, rfl, hr_22, h⟩
set_option maxHeartbeats 4000000 in
set_option maxRecDepth 100000 in
theorem m_X10_readStatement {nn : Nat}  {G : GH} {Q : Int → GH → Prop}  (hnn : 285 ≤ nn) (h : f_X10_readStatement G Q) : Mt yX10_readStatement cX10_readStatement 1 (some .boolean) 6 131 0 0 [vr 272] (SF nn) G (fun v S' G' => S' = SF nn ∧ qZ Q v S' G') (fun E S' G' => S' = SF nn ∧ False) := by
  refine Mt.of (l0 := [some (vr 272)]) (by decide) (Nat.le_of_ble_eq_true rfl) rfl ?_
  intro κ δ ρ0 X9 E hG
  replace X9 : CX κ δ RX10 cX10_readStatement 1 (some .boolean) := X9
  refine a_aload_n (pc := 0) X9 dX10_readStatement_0 rfl rfl ?_
  refine a_getI (pc := 1) X9 okX10 14 rfl wF_X10_169 (is10 hnn) dX10_readStatement_1 ?_
  refine a_if_ne (pc := 4) (tgt := 33) X9 dX10_readStatement_4 rfl (hG _ _) (fun c => ?_) (fun c => ?_)
  · have c_1 := c
    have h := h.1 c_1
    refine a_aload_n (pc := 33) X9 dX10_readStatement_33 rfl rfl ?_
    refine b_ldcs (pc := 34) X9 (i := 3) (List.mem_of_getElem? (i := 13) rfl) dX10_readStatement_34 ?_
    refine a_callV (pc := 36) X9 E (m_X10_takes (Nat.le_of_ble_eq_true rfl) hnn h) okX10 (is10 hnn) wM_X10_132 w_instanceMethod_X10_takes w_selects_X10_takes w_initialized_RX10 w_code_X10_takes cp_X10_takes pn_X10_takes rfl (Nat.le_of_ble_eq_true rfl) ⟨Nat.le_of_ble_eq_true rfl, Nat.le_of_ble_eq_true rfl⟩ ⟨Nat.le_of_ble_eq_true rfl, Nat.le_of_ble_eq_true rfl⟩ dX10_readStatement_36 (fun _ _ q => False.elim q) (kZ (fun r_1 G_1 hr_1 h hG_1 => ?_))
    refine a_if_eq (pc := 39) (tgt := 51) X9 dX10_readStatement_39 rfl (bool_inR hr_1) (fun c => ?_) (fun c => ?_)
    · have c_2 := c
      have h := h.1 c_2
      refine a_aload_n (pc := 51) X9 dX10_readStatement_51 rfl rfl ?_
      refine b_ldcs (pc := 52) X9 (i := 5) (List.mem_of_getElem? (i := 15) rfl) dX10_readStatement_52 ?_
      refine a_callV (pc := 54) X9 E (m_X10_takes (Nat.le_of_ble_eq_true rfl) hnn h) okX10 (is10 hnn) wM_X10_132 w_instanceMethod_X10_takes w_selects_X10_takes w_initialized_RX10 w_code_X10_takes cp_X10_takes pn_X10_takes rfl (Nat.le_of_ble_eq_true rfl) ⟨Nat.le_of_ble_eq_true rfl, Nat.le_of_ble_eq_true rfl⟩ ⟨Nat.le_of_ble_eq_true rfl, Nat.le_of_ble_eq_true rfl⟩ dX10_readStatement_54 (fun _ _ q => False.elim q) (kZ (fun r_2 G_2 hr_2 h hG_2 => ?_))
      refine a_if_eq (pc := 57) (tgt := 69) X9 dX10_readStatement_57 rfl (bool_inR hr_2) (fun c => ?_) (fun c => ?_)
      · have c_3 := c
        have h := h.1 c_3
        refine a_aload_n (pc := 69) X9 dX10_readStatement_69 rfl rfl ?_
        refine b_ldcs (pc := 70) X9 (i := 6) (List.mem_of_getElem? (i := 16) rfl) dX10_readStatement_70 ?_
        refine a_callV (pc := 72) X9 E (m_X10_takes (Nat.le_of_ble_eq_true rfl) hnn h) okX10 (is10 hnn) wM_X10_132 w_instanceMethod_X10_takes w_selects_X10_takes w_initialized_RX10 w_code_X10_takes cp_X10_takes pn_X10_takes rfl (Nat.le_of_ble_eq_true rfl) ⟨Nat.le_of_ble_eq_true rfl, Nat.le_of_ble_eq_true rfl⟩ ⟨Nat.le_of_ble_eq_true rfl, Nat.le_of_ble_eq_true rfl⟩ dX10_readStatement_72 (fun _ _ q => False.elim q) (kZ (fun r_3 G_3 hr_3 h hG_3 => ?_))
        refine a_if_eq (pc := 75) (tgt := 89) X9 dX10_readStatement_75 rfl (bool_inR hr_3) (fun c => ?_) (fun c => ?_)
        · have c_4 := c
          have h := h.1 c_4
          refine a_aload_n (pc := 89) X9 dX10_readStatement_89 rfl rfl ?_
          refine a_iconst (pc := 90) X9 dX10_readStatement_90 ?_
          refine a_aload_n (pc := 91) X9 dX10_readStatement_91 rfl rfl ?_
          refine a_getI (pc := 92) X9 okX10 10 rfl wF_X10_81 (is10 hnn) dX10_readStatement_92 ?_
          refine a_callV (pc := 95) X9 E (m_X10_fails (show inR 1 by decide) (hG_3 _ _) hnn h) okX10 (is10 hnn) wM_X10_100 w_instanceMethod_X10_fails w_selects_X10_fails w_initialized_RX10 w_code_X10_fails cp_X10_fails pn_X10_fails rfl (Nat.le_of_ble_eq_true rfl) ⟨Nat.le_of_ble_eq_true rfl, Nat.le_of_ble_eq_true rfl⟩ ⟨Nat.le_of_ble_eq_true rfl, Nat.le_of_ble_eq_true rfl⟩ dX10_readStatement_95 (fun _ _ q => False.elim q) (kZ (fun r_4 G_4 hr_4 h hG_4 => ?_))
          exact a_ireturn (pc := 98) X9 E rfl (fit_bool hr_4).1 (Nat.le_of_ble_eq_true rfl) (Nat.le_of_ble_eq_true rfl) dX10_readStatement_98 ⟨rfl, _, rfl, hr_4, h⟩
        · have c_4 := c
          have h := h.2 c_4
          refine a_aload_n (pc := 78) X9 dX10_readStatement_78 rfl rfl ?_
          refine a_aload_n (pc := 79) X9 dX10_readStatement_79 rfl rfl ?_
          refine a_getI (pc := 80) X9 okX10 10 rfl wF_X10_81 (is10 hnn) dX10_readStatement_80 ?_
          refine a_callV (pc := 83) X9 E (m_X10_readService (hG_3 _ _) hnn h) okX10 (is10 hnn) wM_X10_190 w_instanceMethod_X10_readService w_selects_X10_readService w_initialized_RX10 w_code_X10_readService cp_X10_readService pn_X10_readService rfl (Nat.le_of_ble_eq_true rfl) ⟨Nat.le_of_ble_eq_true rfl, Nat.le_of_ble_eq_true rfl⟩ ⟨Nat.le_of_ble_eq_true rfl, Nat.le_of_ble_eq_true rfl⟩ dX10_readStatement_83 (fun _ _ q => False.elim q) (kZ (fun r_5 G_5 hr_5 h hG_5 => ?_))
          refine a_goto (pc := 86) (tgt := 98) X9 dX10_readStatement_86 rfl ?_
          exact a_ireturn (pc := 98) X9 E rfl (fit_bool hr_5).1 (Nat.le_of_ble_eq_true rfl) (Nat.le_of_ble_eq_true rfl) dX10_readStatement_98 ⟨rfl, _, rfl, hr_5, h⟩
      · have c_3 := c
        have h := h.2 c_3
        refine a_aload_n (pc := 60) X9 dX10_readStatement_60 rfl rfl ?_
        refine a_aload_n (pc := 61) X9 dX10_readStatement_61 rfl rfl ?_
        refine a_getI (pc := 62) X9 okX10 10 rfl wF_X10_81 (is10 hnn) dX10_readStatement_62 ?_
        refine a_callV (pc := 65) X9 E (m_X10_readFriend (hG_2 _ _) hnn h) okX10 (is10 hnn) wM_X10_185 w_instanceMethod_X10_readFriend w_selects_X10_readFriend w_initialized_RX10 w_code_X10_readFriend cp_X10_readFriend pn_X10_readFriend rfl (Nat.le_of_ble_eq_true rfl) ⟨Nat.le_of_ble_eq_true rfl, Nat.le_of_ble_eq_true rfl⟩ ⟨Nat.le_of_ble_eq_true rfl, Nat.le_of_ble_eq_true rfl⟩ dX10_readStatement_65 (fun _ _ q => False.elim q) (kZ (fun r_6 G_6 hr_6 h hG_6 => ?_))
        exact a_ireturn (pc := 68) X9 E rfl (fit_bool hr_6).1 (Nat.le_of_ble_eq_true rfl) (Nat.le_of_ble_eq_true rfl) dX10_readStatement_68 ⟨rfl, _, rfl, hr_6, h⟩
    · have c_2 := c
      have h := h.2 c_2
      refine a_aload_n (pc := 42) X9 dX10_readStatement_42 rfl rfl ?_
      refine a_aload_n (pc := 43) X9 dX10_readStatement_43 rfl rfl ?_
      refine a_getI (pc := 44) X9 okX10 10 rfl wF_X10_81 (is10 hnn) dX10_readStatement_44 ?_
      refine a_callV (pc := 47) X9 E (m_X10_readCard (hG_1 _ _) hnn h) okX10 (is10 hnn) wM_X10_179 w_instanceMethod_X10_readCard w_selects_X10_readCard w_initialized_RX10 w_code_X10_readCard cp_X10_readCard pn_X10_readCard rfl (Nat.le_of_ble_eq_true rfl) ⟨Nat.le_of_ble_eq_true rfl, Nat.le_of_ble_eq_true rfl⟩ ⟨Nat.le_of_ble_eq_true rfl, Nat.le_of_ble_eq_true rfl⟩ dX10_readStatement_47 (fun _ _ q => False.elim q) (kZ (fun r_7 G_7 hr_7 h hG_7 => ?_))
      exact a_ireturn (pc := 50) X9 E rfl (fit_bool hr_7).1 (Nat.le_of_ble_eq_true rfl) (Nat.le_of_ble_eq_true rfl) dX10_readStatement_50 ⟨rfl, _, rfl, hr_7, h⟩
  · have c_1 := c
    have h := h.2 c_1
    refine a_aload_n (pc := 7) X9 dX10_readStatement_7 rfl rfl ?_
    refine b_ldcs (pc := 8) X9 (i := 0) (List.mem_of_getElem? (i := 10) rfl) dX10_readStatement_8 ?_
    refine a_callV (pc := 10) X9 E (m_X10_takes (Nat.le_of_ble_eq_true rfl) hnn h) okX10 (is10 hnn) wM_X10_132 w_instanceMethod_X10_takes w_selects_X10_takes w_initialized_RX10 w_code_X10_takes cp_X10_takes pn_X10_takes rfl (Nat.le_of_ble_eq_true rfl) ⟨Nat.le_of_ble_eq_true rfl, Nat.le_of_ble_eq_true rfl⟩ ⟨Nat.le_of_ble_eq_true rfl, Nat.le_of_ble_eq_true rfl⟩ dX10_readStatement_10 (fun _ _ q => False.elim q) (kZ (fun r_8 G_8 hr_8 h hG_8 => ?_))
    refine a_if_eq (pc := 13) (tgt := 23) X9 dX10_readStatement_13 rfl (bool_inR hr_8) (fun c => ?_) (fun c => ?_)
    · have c_5 := c
      have h := h.1 c_5
      refine a_aload_n (pc := 23) X9 dX10_readStatement_23 rfl rfl ?_
      refine a_iconst (pc := 24) X9 dX10_readStatement_24 ?_
      refine a_aload_n (pc := 25) X9 dX10_readStatement_25 rfl rfl ?_
      refine a_getI (pc := 26) X9 okX10 10 rfl wF_X10_81 (is10 hnn) dX10_readStatement_26 ?_
      refine a_callV (pc := 29) X9 E (m_X10_fails (show inR 1 by decide) (hG_8 _ _) hnn h) okX10 (is10 hnn) wM_X10_100 w_instanceMethod_X10_fails w_selects_X10_fails w_initialized_RX10 w_code_X10_fails cp_X10_fails pn_X10_fails rfl (Nat.le_of_ble_eq_true rfl) ⟨Nat.le_of_ble_eq_true rfl, Nat.le_of_ble_eq_true rfl⟩ ⟨Nat.le_of_ble_eq_true rfl, Nat.le_of_ble_eq_true rfl⟩ dX10_readStatement_29 (fun _ _ q => False.elim q) (kZ (fun r_9 G_9 hr_9 h hG_9 => ?_))
      exact a_ireturn (pc := 32) X9 E rfl (fit_bool hr_9).1 (Nat.le_of_ble_eq_true rfl) (Nat.le_of_ble_eq_true rfl) dX10_readStatement_32 ⟨rfl, _, rfl, hr_9, h⟩
    · have c_5 := c
      have h := h.2 c_5
      refine a_aload_n (pc := 16) X9 dX10_readStatement_16 rfl rfl ?_
      refine a_callV (pc := 17) X9 E (m_X10_readBoard  hnn h) okX10 (is10 hnn) wM_X10_174 w_instanceMethod_X10_readBoard w_selects_X10_readBoard w_initialized_RX10 w_code_X10_readBoard cp_X10_readBoard pn_X10_readBoard rfl (Nat.le_of_ble_eq_true rfl) ⟨Nat.le_of_ble_eq_true rfl, Nat.le_of_ble_eq_true rfl⟩ ⟨Nat.le_of_ble_eq_true rfl, Nat.le_of_ble_eq_true rfl⟩ dX10_readStatement_17 (fun _ _ q => False.elim q) (kZ (fun r_10 G_10 hr_10 h hG_10 => ?_))
      refine a_goto (pc := 20) (tgt := 32) X9 dX10_readStatement_20 rfl ?_
      exact a_ireturn (pc := 32) X9 E rfl (fit_bool hr_10).1 (Nat.le_of_ble_eq_true rfl) (Nat.le_of_ble_eq_true rfl) dX10_readStatement_32 ⟨rfl, _, rfl, hr_10, h⟩
set_option maxHeartbeats 4000000 in
set_option maxRecDepth 100000 in
theorem m_X10_readAll {nn : Nat}  {G : GH} {Q : Int → GH → Prop}  (hnn : 285 ≤ nn) (h : f_X10_readAll G Q) : Mt yX10_readAll cX10_readAll 2 (some .boolean) 7 151 0 0 [vr 272] (SF nn) G (fun v S' G' => S' = SF nn ∧ qZ Q v S' G') (fun E S' G' => S' = SF nn ∧ False) := by
  refine Mt.of (l0 := [some (vr 272), none]) (by decide) (Nat.le_of_ble_eq_true rfl) rfl ?_
  intro κ δ ρ0 X9 E hG
  replace X9 : CX κ δ RX10 cX10_readAll 2 (some .boolean) := X9
  refine a_aload_n (pc := 0) X9 dX10_readAll_0 rfl rfl ?_
  refine a_iconst (pc := 1) X9 dX10_readAll_1 ?_
  refine a_putI (pc := 2) X9 okX10 9 rfl rfl (v := 0) wF_X10_78 (is10 hnn) dX10_readAll_2 (by decide) (fit_int _) (fun _ => ?_)
  obtain ⟨G_1, eG_1⟩ : ∃ G9, G9 = upG G 272 9 0 := ⟨_, rfl⟩
  have hG_1 : GR G_1 := by rw [eG_1]; exact (GR.up hG (by decide))
  have h := h G_1 eG_1
  rw [← eG_1]
  refine a_aload_n (pc := 5) X9 dX10_readAll_5 rfl rfl ?_
  refine a_iconst (pc := 6) X9 dX10_readAll_6 ?_
  refine a_putI (pc := 7) X9 okX10 14 rfl rfl (v := 0) wF_X10_169 (is10 hnn) dX10_readAll_7 (by decide) (fit_int _) (fun _ => ?_)
  obtain ⟨G_2, eG_2⟩ : ∃ G9, G9 = upG G_1 272 14 0 := ⟨_, rfl⟩
  have hG_2 : GR G_2 := by rw [eG_2]; exact (GR.up hG_1 (by decide))
  have h := h G_2 eG_2
  rw [← eG_2]
  refine loopM1 (A := fun G_3 => GR G_3 → AW κ δ ρ0 nn 2 0 0 10 [some (vr 272), none] [] (SF nn) G_3) (fun k_1 hk_1 G_3 h hG_3 => ?_) _ h hG_2
  refine a_aload_n (pc := 10) X9 dX10_readAll_10 rfl rfl ?_
  refine a_callV (pc := 11) X9 E (m_X10_readStatement  hnn h) okX10 (is10 hnn) wM_X10_193 w_instanceMethod_X10_readStatement w_selects_X10_readStatement w_initialized_RX10 w_code_X10_readStatement cp_X10_readStatement pn_X10_readStatement rfl (Nat.le_of_ble_eq_true rfl) ⟨Nat.le_of_ble_eq_true rfl, Nat.le_of_ble_eq_true rfl⟩ ⟨Nat.le_of_ble_eq_true rfl, Nat.le_of_ble_eq_true rfl⟩ dX10_readAll_11 (fun _ _ q => False.elim q) (kZ (fun r_1 G_4 hr_1 h hG_4 => ?_))
  refine a_if_ne (pc := 14) (tgt := 19) X9 dX10_readAll_14 rfl (bool_inR hr_1) (fun c => ?_) (fun c => ?_)
  · have c_1 := c
    have h := h.1 c_1
    refine a_aload_n (pc := 19) X9 dX10_readAll_19 rfl rfl ?_
    refine a_callV (pc := 20) X9 E (m_X10_nextByte  hnn h) okX10 (is10 hnn) wM_X10_84 w_instanceMethod_X10_nextByte w_selects_X10_nextByte w_initialized_RX10 w_code_X10_nextByte cp_X10_nextByte pn_X10_nextByte rfl (Nat.le_of_ble_eq_true rfl) ⟨Nat.le_of_ble_eq_true rfl, Nat.le_of_ble_eq_true rfl⟩ ⟨Nat.le_of_ble_eq_true rfl, Nat.le_of_ble_eq_true rfl⟩ dX10_readAll_20 (fun _ _ q => False.elim q) (kI (fun r_2 G_5 hr_2 h hG_5 => ?_))
    refine a_istore_n (pc := 23) X9 dX10_readAll_23 rfl (Nat.le_of_ble_eq_true rfl) rfl rfl ?_
    refine a_iload_n (pc := 24) X9 dX10_readAll_24 rfl rfl ?_
    refine a_iconst (pc := 25) X9 dX10_readAll_25 ?_
    refine a_icmp_ne (pc := 26) (tgt := 31) X9 dX10_readAll_26 rfl hr_2 (by decide) (fun c => ?_) (fun c => ?_)
    · have c_2 := c
      have h := h.1 c_2
      refine a_iload_n (pc := 31) X9 dX10_readAll_31 rfl rfl ?_
      refine a_bipush (pc := 32) X9 dX10_readAll_32 rfl ?_
      refine a_icmp_eq (pc := 34) (tgt := 47) X9 dX10_readAll_34 rfl hr_2 (by decide) (fun c => ?_) (fun c => ?_)
      · have c_3 := c
        have h := h.1 c_3
        refine a_aload_n (pc := 47) X9 dX10_readAll_47 rfl rfl ?_
        refine a_dup (pc := 48) X9 dX10_readAll_48 rfl ?_
        refine a_getI (pc := 49) X9 okX10 9 rfl wF_X10_78 (is10 hnn) dX10_readAll_49 ?_
        refine a_iconst (pc := 52) X9 dX10_readAll_52 ?_
        refine a_iadd (pc := 53) X9 dX10_readAll_53 ?_
        obtain ⟨g_1, h⟩ := h
        refine a_putI (pc := 54) X9 okX10 9 rfl rfl (v := ((G_5 272 9) + 1)) wF_X10_78 (is10 hnn) dX10_readAll_54 g_1 (fit_int _) (fun _ => ?_)
        obtain ⟨G_6, eG_6⟩ : ∃ G9, G9 = upG G_5 272 9 ((G_5 272 9) + 1) := ⟨_, rfl⟩
        have hG_6 : GR G_6 := by rw [eG_6]; exact (GR.up hG_5 g_1)
        have h := h G_6 eG_6
        rw [← eG_6]
        refine a_aload_n (pc := 57) X9 dX10_readAll_57 rfl rfl ?_
        refine a_dup (pc := 58) X9 dX10_readAll_58 rfl ?_
        refine a_getI (pc := 59) X9 okX10 14 rfl wF_X10_169 (is10 hnn) dX10_readAll_59 ?_
        refine a_iconst (pc := 62) X9 dX10_readAll_62 ?_
        refine a_iadd (pc := 63) X9 dX10_readAll_63 ?_
        obtain ⟨g_2, h⟩ := h
        refine a_putI (pc := 64) X9 okX10 14 rfl rfl (v := ((G_6 272 14) + 1)) wF_X10_169 (is10 hnn) dX10_readAll_64 g_2 (fit_int _) (fun _ => ?_)
        obtain ⟨G_7, eG_7⟩ : ∃ G9, G9 = upG G_6 272 14 ((G_6 272 14) + 1) := ⟨_, rfl⟩
        have hG_7 : GR G_7 := by rw [eG_7]; exact (GR.up hG_6 g_2)
        have h := h G_7 eG_7
        rw [← eG_7]
        refine a_goto (pc := 67) (tgt := 10) X9 dX10_readAll_67 rfl ?_
        refine AW.drop 1 rfl ?_
        exact hk_1 _ h hG_7
      · have c_3 := c
        have h := h.2 c_3
        refine a_aload_n (pc := 37) X9 dX10_readAll_37 rfl rfl ?_
        refine a_iconst (pc := 38) X9 dX10_readAll_38 ?_
        refine a_aload_n (pc := 39) X9 dX10_readAll_39 rfl rfl ?_
        refine a_getI (pc := 40) X9 okX10 10 rfl wF_X10_81 (is10 hnn) dX10_readAll_40 ?_
        refine a_callV (pc := 43) X9 E (m_X10_fails (show inR 1 by decide) (hG_5 _ _) hnn h) okX10 (is10 hnn) wM_X10_100 w_instanceMethod_X10_fails w_selects_X10_fails w_initialized_RX10 w_code_X10_fails cp_X10_fails pn_X10_fails rfl (Nat.le_of_ble_eq_true rfl) ⟨Nat.le_of_ble_eq_true rfl, Nat.le_of_ble_eq_true rfl⟩ ⟨Nat.le_of_ble_eq_true rfl, Nat.le_of_ble_eq_true rfl⟩ dX10_readAll_43 (fun _ _ q => False.elim q) (kZ (fun r_3 G_8 hr_3 h hG_8 => ?_))
        exact a_ireturn (pc := 46) X9 E rfl (fit_bool hr_3).1 (Nat.le_of_ble_eq_true rfl) (Nat.le_of_ble_eq_true rfl) dX10_readAll_46 ⟨rfl, _, rfl, hr_3, h⟩
    · have c_2 := c
      have h := h.2 c_2
      refine a_iconst (pc := 29) X9 dX10_readAll_29 ?_
      exact a_ireturn (pc := 30) X9 E rfl (fit_bool (Or.inr rfl)).1 (Nat.le_of_ble_eq_true rfl) (Nat.le_of_ble_eq_true rfl) dX10_readAll_30 ⟨rfl, _, rfl, (Or.inr rfl), h⟩
  · have c_1 := c
    have h := h.2 c_1
    refine a_iconst (pc := 17) X9 dX10_readAll_17 ?_
    exact a_ireturn (pc := 18) X9 E rfl (fit_bool (Or.inl rfl)).1 (Nat.le_of_ble_eq_true rfl) (Nat.le_of_ble_eq_true rfl) dX10_readAll_18 ⟨rfl, _, rfl, (Or.inl rfl), h⟩
set_option maxHeartbeats 4000000 in
set_option maxRecDepth 100000 in
theorem m_X10_load {nn : Nat}  {G : GH} {Q : Int → GH → Prop}  (hnn : 285 ≤ nn) (h : f_X10_load G Q) : Mt yX10_load cX10_load 2 (some .int) 8 172 0 0 [vr 272] (SF nn) G (fun v S' G' => S' = SF nn ∧ qI Q v S' G') (fun E S' G' => S' = SF nn ∧ False) := by
  refine Mt.of (l0 := [some (vr 272), none]) (by decide) (Nat.le_of_ble_eq_true rfl) rfl ?_
  intro κ δ ρ0 X9 E hG
  replace X9 : CX κ δ RX10 cX10_load 2 (some .int) := X9
  refine a_aload_n (pc := 0) X9 dX10_load_0 rfl rfl ?_
  refine a_iconst (pc := 1) X9 dX10_load_1 ?_
  refine a_putI (pc := 2) X9 okX10 0 rfl rfl (v := 0) wF_X10_58 (is10 hnn) dX10_load_2 (by decide) (fit_int _) (fun _ => ?_)
  obtain ⟨G_1, eG_1⟩ : ∃ G9, G9 = upG G 272 0 0 := ⟨_, rfl⟩
  have hG_1 : GR G_1 := by rw [eG_1]; exact (GR.up hG (by decide))
  have h := h G_1 eG_1
  rw [← eG_1]
  refine a_aload_n (pc := 5) X9 dX10_load_5 rfl rfl ?_
  refine a_iconst (pc := 6) X9 dX10_load_6 ?_
  refine a_putI (pc := 7) X9 okX10 12 rfl rfl (v := 0) wF_X10_72 (is10 hnn) dX10_load_7 (by decide) (fit_int _) (fun _ => ?_)
  obtain ⟨G_2, eG_2⟩ : ∃ G9, G9 = upG G_1 272 12 0 := ⟨_, rfl⟩
  have hG_2 : GR G_2 := by rw [eG_2]; exact (GR.up hG_1 (by decide))
  have h := h G_2 eG_2
  rw [← eG_2]
  refine a_aload_n (pc := 10) X9 dX10_load_10 rfl rfl ?_
  refine a_iconst (pc := 11) X9 dX10_load_11 ?_
  refine a_putI (pc := 12) X9 okX10 15 rfl rfl (v := (-1)) wF_X10_30 (is10 hnn) dX10_load_12 (by decide) (fit_int _) (fun _ => ?_)
  obtain ⟨G_3, eG_3⟩ : ∃ G9, G9 = upG G_2 272 15 (-1) := ⟨_, rfl⟩
  have hG_3 : GR G_3 := by rw [eG_3]; exact (GR.up hG_2 (by decide))
  have h := h G_3 eG_3
  rw [← eG_3]
  refine a_aload_n (pc := 15) X9 dX10_load_15 rfl rfl ?_
  refine a_callV (pc := 16) X9 E (m_X10_goesAside  hnn h) okX10 (is10 hnn) wM_X10_196 w_instanceMethod_X10_goesAside w_selects_X10_goesAside w_initialized_RX10 w_code_X10_goesAside cp_X10_goesAside pn_X10_goesAside rfl (Nat.le_of_ble_eq_true rfl) ⟨Nat.le_of_ble_eq_true rfl, Nat.le_of_ble_eq_true rfl⟩ ⟨Nat.le_of_ble_eq_true rfl, Nat.le_of_ble_eq_true rfl⟩ dX10_load_16 (fun _ _ q => False.elim q) (kV (fun G_4 h hG_4 => ?_))
  refine a_aload_n (pc := 19) X9 dX10_load_19 rfl rfl ?_
  refine a_callV (pc := 20) X9 E (m_X10_readAll  hnn h) okX10 (is10 hnn) wM_X10_199 w_instanceMethod_X10_readAll w_selects_X10_readAll w_initialized_RX10 w_code_X10_readAll cp_X10_readAll pn_X10_readAll rfl (Nat.le_of_ble_eq_true rfl) ⟨Nat.le_of_ble_eq_true rfl, Nat.le_of_ble_eq_true rfl⟩ ⟨Nat.le_of_ble_eq_true rfl, Nat.le_of_ble_eq_true rfl⟩ dX10_load_20 (fun _ _ q => False.elim q) (kZ (fun r_2 G_5 hr_2 h hG_5 => ?_))
  refine a_istore_n (pc := 23) X9 dX10_load_23 rfl (Nat.le_of_ble_eq_true rfl) rfl rfl ?_
  refine a_aload_n (pc := 24) X9 dX10_load_24 rfl rfl ?_
  refine a_iconst (pc := 25) X9 dX10_load_25 ?_
  refine a_putI (pc := 26) X9 okX10 8 rfl rfl (v := 0) wF_X10_69 (is10 hnn) dX10_load_26 (by decide) (fit_int _) (fun _ => ?_)
  obtain ⟨G_6, eG_6⟩ : ∃ G9, G9 = upG G_5 272 8 0 := ⟨_, rfl⟩
  have hG_6 : GR G_6 := by rw [eG_6]; exact (GR.up hG_5 (by decide))
  have h := h G_6 eG_6
  rw [← eG_6]
  refine a_iload_n (pc := 29) X9 dX10_load_29 rfl rfl ?_
  refine a_if_ne (pc := 30) (tgt := 53) X9 dX10_load_30 rfl (bool_inR hr_2) (fun c => ?_) (fun c => ?_)
  · have c_1 := c
    have h := h.1 c_1
    refine a_aload_n (pc := 53) X9 dX10_load_53 rfl rfl ?_
    refine a_iconst (pc := 54) X9 dX10_load_54 ?_
    refine a_putI (pc := 55) X9 okX10 6 rfl rfl (v := 0) wF_X10_64 (is10 hnn) dX10_load_55 (by decide) (fit_int _) (fun _ => ?_)
    obtain ⟨G_7, eG_7⟩ : ∃ G9, G9 = upG G_6 272 6 0 := ⟨_, rfl⟩
    have hG_7 : GR G_7 := by rw [eG_7]; exact (GR.up hG_6 (by decide))
    have h := h G_7 eG_7
    rw [← eG_7]
    refine a_aload_n (pc := 58) X9 dX10_load_58 rfl rfl ?_
    refine a_getR (pc := 59) X9 (q := 273) okX10 1 rfl wF_X10_9 (is10 hnn) rf10_1 dX10_load_59 ?_
    refine a_iconst (pc := 62) X9 dX10_load_62 ?_
    refine a_iald (pc := 63) X9 (ar10_1 hnn) (Nat.le_of_ble_eq_true rfl) (j := 5) rfl (Nat.le_of_ble_eq_true rfl) dX10_load_63 ?_
    exact a_ireturn (pc := 64) X9 E rfl rfl (Nat.le_of_ble_eq_true rfl) (Nat.le_of_ble_eq_true rfl) dX10_load_64 ⟨rfl, _, rfl, (hG_7 _ _), h⟩
  · have c_1 := c
    have h := h.2 c_1
    refine a_aload_n (pc := 33) X9 dX10_load_33 rfl rfl ?_
    refine a_aload_n (pc := 34) X9 dX10_load_34 rfl rfl ?_
    refine a_getI (pc := 35) X9 okX10 14 rfl wF_X10_169 (is10 hnn) dX10_load_35 ?_
    refine a_putI (pc := 38) X9 okX10 15 rfl rfl (v := (G_6 272 14)) wF_X10_30 (is10 hnn) dX10_load_38 (hG_6 _ _) (fit_int _) (fun _ => ?_)
    obtain ⟨G_8, eG_8⟩ : ∃ G9, G9 = upG G_6 272 15 (G_6 272 14) := ⟨_, rfl⟩
    have hG_8 : GR G_8 := by rw [eG_8]; exact (GR.up hG_6 (hG_6 _ _))
    have h := h G_8 eG_8
    rw [← eG_8]
    refine a_aload_n (pc := 41) X9 dX10_load_41 rfl rfl ?_
    refine a_bipush (pc := 42) X9 dX10_load_42 rfl ?_
    refine a_aload_n (pc := 44) X9 dX10_load_44 rfl rfl ?_
    refine a_getI (pc := 45) X9 okX10 13 rfl wF_X10_75 (is10 hnn) dX10_load_45 ?_
    refine a_isub (pc := 48) X9 dX10_load_48 ?_
    obtain ⟨g_1, h⟩ := h
    refine a_callV (pc := 49) X9 E (m_X10_comesBack g_1 hnn h) okX10 (is10 hnn) wM_X10_202 w_instanceMethod_X10_comesBack w_selects_X10_comesBack w_initialized_RX10 w_code_X10_comesBack cp_X10_comesBack pn_X10_comesBack rfl (Nat.le_of_ble_eq_true rfl) ⟨Nat.le_of_ble_eq_true rfl, Nat.le_of_ble_eq_true rfl⟩ ⟨Nat.le_of_ble_eq_true rfl, Nat.le_of_ble_eq_true rfl⟩ dX10_load_49 (fun _ _ q => False.elim q) (kI (fun r_3 G_9 hr_3 h hG_9 => ?_))
    exact a_ireturn (pc := 52) X9 E rfl rfl (Nat.le_of_ble_eq_true rfl) (Nat.le_of_ble_eq_true rfl) dX10_load_52 ⟨rfl, _, rfl, hr_3, h⟩
set_option maxHeartbeats 4000000 in
set_option maxRecDepth 100000 in
theorem m_X10_loadError {nn : Nat}  {G : GH} {Q : Int → GH → Prop}  (hnn : 285 ≤ nn) (h : f_X10_loadError G Q) : Mt yX10_loadError cX10_loadError 1 (some .int) 0 0 0 0 [vr 272] (SF nn) G (fun v S' G' => S' = SF nn ∧ qI Q v S' G') (fun E S' G' => S' = SF nn ∧ False) := by
  refine Mt.of (l0 := [some (vr 272)]) (by decide) (Nat.le_of_ble_eq_true rfl) rfl ?_
  intro κ δ ρ0 X9 E hG
  replace X9 : CX κ δ RX10 cX10_loadError 1 (some .int) := X9
  refine a_aload_n (pc := 0) X9 dX10_loadError_0 rfl rfl ?_
  refine a_iconst (pc := 1) X9 dX10_loadError_1 ?_
  refine a_putI (pc := 2) X9 okX10 0 rfl rfl (v := 0) wF_X10_58 (is10 hnn) dX10_loadError_2 (by decide) (fit_int _) (fun _ => ?_)
  obtain ⟨G_1, eG_1⟩ : ∃ G9, G9 = upG G 272 0 0 := ⟨_, rfl⟩
  have hG_1 : GR G_1 := by rw [eG_1]; exact (GR.up hG (by decide))
  have h := h G_1 eG_1
  rw [← eG_1]
  refine a_aload_n (pc := 5) X9 dX10_loadError_5 rfl rfl ?_
  refine a_getI (pc := 6) X9 okX10 12 rfl wF_X10_72 (is10 hnn) dX10_loadError_6 ?_
  exact a_ireturn (pc := 9) X9 E rfl rfl (Nat.le_of_ble_eq_true rfl) (Nat.le_of_ble_eq_true rfl) dX10_loadError_9 ⟨rfl, _, rfl, (hG_1 _ _), h⟩
set_option maxHeartbeats 4000000 in
set_option maxRecDepth 100000 in
theorem m_X10_loadStatement {nn : Nat}  {G : GH} {Q : Int → GH → Prop}  (hnn : 285 ≤ nn) (h : f_X10_loadStatement G Q) : Mt yX10_loadStatement cX10_loadStatement 1 (some .int) 0 0 0 0 [vr 272] (SF nn) G (fun v S' G' => S' = SF nn ∧ qI Q v S' G') (fun E S' G' => S' = SF nn ∧ False) := by
  refine Mt.of (l0 := [some (vr 272)]) (by decide) (Nat.le_of_ble_eq_true rfl) rfl ?_
  intro κ δ ρ0 X9 E hG
  replace X9 : CX κ δ RX10 cX10_loadStatement 1 (some .int) := X9
  refine a_aload_n (pc := 0) X9 dX10_loadStatement_0 rfl rfl ?_
  refine a_iconst (pc := 1) X9 dX10_loadStatement_1 ?_
  refine a_putI (pc := 2) X9 okX10 0 rfl rfl (v := 0) wF_X10_58 (is10 hnn) dX10_loadStatement_2 (by decide) (fit_int _) (fun _ => ?_)
  obtain ⟨G_1, eG_1⟩ : ∃ G9, G9 = upG G 272 0 0 := ⟨_, rfl⟩
  have hG_1 : GR G_1 := by rw [eG_1]; exact (GR.up hG (by decide))
  have h := h G_1 eG_1
  rw [← eG_1]
  refine a_aload_n (pc := 5) X9 dX10_loadStatement_5 rfl rfl ?_
  refine a_getI (pc := 6) X9 okX10 15 rfl wF_X10_30 (is10 hnn) dX10_loadStatement_6 ?_
  exact a_ireturn (pc := 9) X9 E rfl rfl (Nat.le_of_ble_eq_true rfl) (Nat.le_of_ble_eq_true rfl) dX10_loadStatement_9 ⟨rfl, _, rfl, (hG_1 _ _), h⟩
set_option maxHeartbeats 4000000 in
set_option maxRecDepth 100000 in
theorem m_X10_ofFriend {nn : Nat} {i1 : Int} {i2 : Int} {G : GH} {Q : Int → Prop} (hi1 : inR i1) (hi2 : inR i2) (hnn : 285 ≤ nn) (h : f_X10_ofFriend i1 i2 G Q) : Mt yX10_ofFriend cX10_ofFriend 3 (some .int) 0 0 0 0 [vr 272, vi i1, vi i2] (SF nn) G (fun v S' G' => S' = SF nn ∧ qI (fun r9 G9 => G9 = G ∧ Q r9) v S' G') (fun E S' G' => S' = SF nn ∧ False) := by
  refine Mt.of (l0 := [some (vr 272), some (vi i1), some (vi i2)]) (by decide) (Nat.le_of_ble_eq_true rfl) rfl ?_
  intro κ δ ρ0 X9 E hG
  replace X9 : CX κ δ RX10 cX10_ofFriend 3 (some .int) := X9
  refine a_aload_n (pc := 0) X9 dX10_ofFriend_0 rfl rfl ?_
  refine a_getR (pc := 1) X9 (q := 273) okX10 1 rfl wF_X10_9 (is10 hnn) rf10_1 dX10_ofFriend_1 ?_
  refine a_bipush (pc := 4) X9 dX10_ofFriend_4 rfl ?_
  refine a_bipush (pc := 6) X9 dX10_ofFriend_6 rfl ?_
  refine a_iload_n (pc := 8) X9 dX10_ofFriend_8 rfl rfl ?_
  refine a_imul (pc := 9) X9 dX10_ofFriend_9 ?_
  refine a_iadd (pc := 10) X9 dX10_ofFriend_10 ?_
  refine a_iload_n (pc := 11) X9 dX10_ofFriend_11 rfl rfl ?_
  refine a_iadd (pc := 12) X9 dX10_ofFriend_12 ?_
  obtain ⟨g_1, h⟩ := h
  refine b_iald (pc := 13) X9 (ar10_1 hnn) (Nat.le_of_ble_eq_true rfl) g_1 dX10_ofFriend_13 ?_
  exact a_ireturn (pc := 14) X9 E rfl rfl (Nat.le_of_ble_eq_true rfl) (Nat.le_of_ble_eq_true rfl) dX10_ofFriend_14 ⟨rfl, _, rfl, (hG _ _), rfl, h⟩
set_option maxHeartbeats 4000000 in
set_option maxRecDepth 100000 in
theorem m_X10_loanAt {nn : Nat} {i0 : Int} {i1 : Int} {G : GH} {Q : Int → Prop} (hi0 : inR i0) (hi1 : inR i1) (hnn : 285 ≤ nn) (h : f_X10_loanAt i0 i1 Q) : Mt yX10_loanAt cX10_loanAt 2 (some .int) 0 0 0 0 [vi i0, vi i1] (SF nn) G (fun v S' G' => S' = SF nn ∧ qI (fun r9 G9 => G9 = G ∧ Q r9) v S' G') (fun E S' G' => S' = SF nn ∧ False) := by
  refine Mt.of (l0 := [some (vi i0), some (vi i1)]) (by decide) (Nat.le_of_ble_eq_true rfl) rfl ?_
  intro κ δ ρ0 X9 E hG
  replace X9 : CX κ δ RX10 cX10_loanAt 2 (some .int) := X9
  refine a_bipush (pc := 0) X9 dX10_loanAt_0 rfl ?_
  refine a_iconst (pc := 2) X9 dX10_loanAt_2 ?_
  refine a_iload_n (pc := 3) X9 dX10_loanAt_3 rfl rfl ?_
  refine a_imul (pc := 4) X9 dX10_loanAt_4 ?_
  refine a_iadd (pc := 5) X9 dX10_loanAt_5 ?_
  refine a_iload_n (pc := 6) X9 dX10_loanAt_6 rfl rfl ?_
  refine a_iadd (pc := 7) X9 dX10_loanAt_7 ?_
  obtain ⟨g_1, h⟩ := h
  exact a_ireturn (pc := 8) X9 E rfl rfl (Nat.le_of_ble_eq_true rfl) (Nat.le_of_ble_eq_true rfl) dX10_loanAt_8 ⟨rfl, _, rfl, g_1, rfl, h⟩
set_option maxHeartbeats 4000000 in
set_option maxRecDepth 100000 in
theorem m_X10_ofLoan {nn : Nat} {i1 : Int} {i2 : Int} {G : GH} {Q : Int → Prop} (hi1 : inR i1) (hi2 : inR i2) (hnn : 285 ≤ nn) (h : f_X10_ofLoan i1 i2 G Q) : Mt yX10_ofLoan cX10_ofLoan 3 (some .int) 1 21 0 0 [vr 272, vi i1, vi i2] (SF nn) G (fun v S' G' => S' = SF nn ∧ qI (fun r9 G9 => G9 = G ∧ Q r9) v S' G') (fun E S' G' => S' = SF nn ∧ False) := by
  refine Mt.of (l0 := [some (vr 272), some (vi i1), some (vi i2)]) (by decide) (Nat.le_of_ble_eq_true rfl) rfl ?_
  intro κ δ ρ0 X9 E hG
  replace X9 : CX κ δ RX10 cX10_ofLoan 3 (some .int) := X9
  refine a_aload_n (pc := 0) X9 dX10_ofLoan_0 rfl rfl ?_
  refine a_getR (pc := 1) X9 (q := 273) okX10 1 rfl wF_X10_9 (is10 hnn) rf10_1 dX10_ofLoan_1 ?_
  refine a_iload_n (pc := 4) X9 dX10_ofLoan_4 rfl rfl ?_
  refine a_iload_n (pc := 5) X9 dX10_ofLoan_5 rfl rfl ?_
  refine a_callS (pc := 6) X9 E (m_X10_loanAt hi1 hi2 hnn h) wM_X10_208 w_static_X10_loanAt w_initialized_RX10 w_code_X10_loanAt cp_X10_loanAt pn_X10_loanAt rfl (Nat.le_of_ble_eq_true rfl) ⟨Nat.le_of_ble_eq_true rfl, Nat.le_of_ble_eq_true rfl⟩ ⟨Nat.le_of_ble_eq_true rfl, Nat.le_of_ble_eq_true rfl⟩ dX10_ofLoan_6 (fun _ _ q => False.elim q) (kIp (fun r_1 hr_1 h => ?_))
  obtain ⟨g_1, h⟩ := h
  refine b_iald (pc := 9) X9 (ar10_1 hnn) (Nat.le_of_ble_eq_true rfl) g_1 dX10_ofLoan_9 ?_
  exact a_ireturn (pc := 10) X9 E rfl rfl (Nat.le_of_ble_eq_true rfl) (Nat.le_of_ble_eq_true rfl) dX10_ofLoan_10 ⟨rfl, _, rfl, (hG _ _), rfl, h⟩
set_option maxHeartbeats 4000000 in
set_option maxRecDepth 100000 in
theorem m_X10_isOwn {nn : Nat} {i0 : Int} {G : GH} {Q : Int → Prop} (hi0 : inR i0) (hnn : 285 ≤ nn) (h : f_X10_isOwn i0 Q) : Mt yX10_isOwn cX10_isOwn 1 (some .boolean) 0 0 0 0 [vi i0] (SF nn) G (fun v S' G' => S' = SF nn ∧ qZ (fun r9 G9 => G9 = G ∧ Q r9) v S' G') (fun E S' G' => S' = SF nn ∧ False) := by
  refine Mt.of (l0 := [some (vi i0)]) (by decide) (Nat.le_of_ble_eq_true rfl) rfl ?_
  intro κ δ ρ0 X9 E hG
  replace X9 : CX κ δ RX10 cX10_isOwn 1 (some .boolean) := X9
  refine a_iload_n (pc := 0) X9 dX10_isOwn_0 rfl rfl ?_
  refine a_bipush (pc := 1) X9 dX10_isOwn_1 rfl ?_
  refine a_icmp_ge (pc := 3) (tgt := 10) X9 dX10_isOwn_3 rfl hi0 (by decide) (fun c => ?_) (fun c => ?_)
  · have c_1 := c
    have h := h.1 c_1
    refine a_iconst (pc := 10) X9 dX10_isOwn_10 ?_
    exact a_ireturn (pc := 11) X9 E rfl (fit_bool (Or.inl rfl)).1 (Nat.le_of_ble_eq_true rfl) (Nat.le_of_ble_eq_true rfl) dX10_isOwn_11 ⟨rfl, _, rfl, (Or.inl rfl), rfl, h⟩
  · have c_1 := c
    have h := h.2 c_1
    refine a_iconst (pc := 6) X9 dX10_isOwn_6 ?_
    refine a_goto (pc := 7) (tgt := 11) X9 dX10_isOwn_7 rfl ?_
    exact a_ireturn (pc := 11) X9 E rfl (fit_bool (Or.inr rfl)).1 (Nat.le_of_ble_eq_true rfl) (Nat.le_of_ble_eq_true rfl) dX10_isOwn_11 ⟨rfl, _, rfl, (Or.inr rfl), rfl, h⟩
set_option maxHeartbeats 4000000 in
set_option maxRecDepth 100000 in
theorem m_X10_friendOf {nn : Nat} {i0 : Int} {G : GH} {Q : Int → Prop} (hi0 : inR i0) (hnn : 285 ≤ nn) (h : f_X10_friendOf i0 Q) : Mt yX10_friendOf cX10_friendOf 1 (some .int) 0 0 0 0 [vi i0] (SF nn) G (fun v S' G' => S' = SF nn ∧ qI (fun r9 G9 => G9 = G ∧ Q r9) v S' G') (fun E S' G' => S' = SF nn ∧ False) := by
  refine Mt.of (l0 := [some (vi i0)]) (by decide) (Nat.le_of_ble_eq_true rfl) rfl ?_
  intro κ δ ρ0 X9 E hG
  replace X9 : CX κ δ RX10 cX10_friendOf 1 (some .int) := X9
  refine a_iload_n (pc := 0) X9 dX10_friendOf_0 rfl rfl ?_
  refine a_bipush (pc := 1) X9 dX10_friendOf_1 rfl ?_
  refine a_isub (pc := 3) X9 dX10_friendOf_3 ?_
  refine a_bipush (pc := 4) X9 dX10_friendOf_4 rfl ?_
  obtain ⟨g_1, h⟩ := h
  obtain ⟨g_2, h⟩ := h
  refine a_idiv (pc := 6) X9 dX10_friendOf_6 ⟨g_2, g_1.2⟩ ⟨(by decide), (by decide)⟩ ?_
  exact a_ireturn (pc := 7) X9 E rfl rfl (Nat.le_of_ble_eq_true rfl) (Nat.le_of_ble_eq_true rfl) dX10_friendOf_7 ⟨rfl, _, rfl, (inR_div g_1 g_2 (by decide)), rfl, h⟩
set_option maxHeartbeats 4000000 in
set_option maxRecDepth 100000 in
theorem m_X10_digitOf {nn : Nat} {i0 : Int} {G : GH} {Q : Int → Prop} (hi0 : inR i0) (hnn : 285 ≤ nn) (h : f_X10_digitOf i0 Q) : Mt yX10_digitOf cX10_digitOf 1 (some .int) 0 0 0 0 [vi i0] (SF nn) G (fun v S' G' => S' = SF nn ∧ qI (fun r9 G9 => G9 = G ∧ Q r9) v S' G') (fun E S' G' => S' = SF nn ∧ False) := by
  refine Mt.of (l0 := [some (vi i0)]) (by decide) (Nat.le_of_ble_eq_true rfl) rfl ?_
  intro κ δ ρ0 X9 E hG
  replace X9 : CX κ δ RX10 cX10_digitOf 1 (some .int) := X9
  refine a_iload_n (pc := 0) X9 dX10_digitOf_0 rfl rfl ?_
  refine a_bipush (pc := 1) X9 dX10_digitOf_1 rfl ?_
  refine a_isub (pc := 3) X9 dX10_digitOf_3 ?_
  refine a_bipush (pc := 4) X9 dX10_digitOf_4 rfl ?_
  obtain ⟨g_1, h⟩ := h
  obtain ⟨g_2, h⟩ := h
  refine a_irem (pc := 6) X9 dX10_digitOf_6 ⟨g_2, g_1.2⟩ ⟨(by decide), (by decide)⟩ ?_
  exact a_ireturn (pc := 7) X9 E rfl rfl (Nat.le_of_ble_eq_true rfl) (Nat.le_of_ble_eq_true rfl) dX10_digitOf_7 ⟨rfl, _, rfl, (inR_mod g_2 (by decide) (by decide)), rfl, h⟩
set_option maxHeartbeats 4000000 in
set_option maxRecDepth 100000 in
theorem m_X10_numberOf {nn : Nat} {i0 : Int} {G : GH} {Q : Int → Prop} (hi0 : inR i0) (hnn : 285 ≤ nn) (h : f_X10_numberOf i0 Q) : Mt yX10_numberOf cX10_numberOf 1 (some .int) 1 20 0 0 [vi i0] (SF nn) G (fun v S' G' => S' = SF nn ∧ qI (fun r9 G9 => G9 = G ∧ Q r9) v S' G') (fun E S' G' => S' = SF nn ∧ False) := by
  refine Mt.of (l0 := [some (vi i0)]) (by decide) (Nat.le_of_ble_eq_true rfl) rfl ?_
  intro κ δ ρ0 X9 E hG
  replace X9 : CX κ δ RX10 cX10_numberOf 1 (some .int) := X9
  refine a_iload_n (pc := 0) X9 dX10_numberOf_0 rfl rfl ?_
  refine a_callS (pc := 1) X9 E (m_X10_isOwn hi0 hnn h) wM_X10_211 w_static_X10_isOwn w_initialized_RX10 w_code_X10_isOwn cp_X10_isOwn pn_X10_isOwn rfl (Nat.le_of_ble_eq_true rfl) ⟨Nat.le_of_ble_eq_true rfl, Nat.le_of_ble_eq_true rfl⟩ ⟨Nat.le_of_ble_eq_true rfl, Nat.le_of_ble_eq_true rfl⟩ dX10_numberOf_1 (fun _ _ q => False.elim q) (kZp (fun r_1 hr_1 h => ?_))
  refine a_if_eq (pc := 4) (tgt := 11) X9 dX10_numberOf_4 rfl (bool_inR hr_1) (fun c => ?_) (fun c => ?_)
  · have c_1 := c
    have h := h.1 c_1
    refine a_bipush (pc := 11) X9 dX10_numberOf_11 rfl ?_
    refine a_iload_n (pc := 13) X9 dX10_numberOf_13 rfl rfl ?_
    refine a_iadd (pc := 14) X9 dX10_numberOf_14 ?_
    refine a_bipush (pc := 15) X9 dX10_numberOf_15 rfl ?_
    refine a_isub (pc := 17) X9 dX10_numberOf_17 ?_
    obtain ⟨g_1, h⟩ := h
    exact a_ireturn (pc := 18) X9 E rfl rfl (Nat.le_of_ble_eq_true rfl) (Nat.le_of_ble_eq_true rfl) dX10_numberOf_18 ⟨rfl, _, rfl, g_1, rfl, h⟩
  · have c_1 := c
    have h := h.2 c_1
    refine a_iload_n (pc := 7) X9 dX10_numberOf_7 rfl rfl ?_
    refine a_goto (pc := 8) (tgt := 18) X9 dX10_numberOf_8 rfl ?_
    exact a_ireturn (pc := 18) X9 E rfl rfl (Nat.le_of_ble_eq_true rfl) (Nat.le_of_ble_eq_true rfl) dX10_numberOf_18 ⟨rfl, _, rfl, hi0, rfl, h⟩
set_option maxHeartbeats 4000000 in
set_option maxRecDepth 100000 in
theorem m_X10_sortOf {nn : Nat} {i0 : Int} {G : GH} {Q : Int → Prop} (hi0 : inR i0) (hnn : 285 ≤ nn) (h : f_X10_sortOf i0 Q) : Mt yX10_sortOf cX10_sortOf 1 (some .int) 0 0 0 0 [vi i0] (SF nn) G (fun v S' G' => S' = SF nn ∧ qI (fun r9 G9 => G9 = G ∧ Q r9) v S' G') (fun E S' G' => S' = SF nn ∧ False) := by
  refine Mt.of (l0 := [some (vi i0)]) (by decide) (Nat.le_of_ble_eq_true rfl) rfl ?_
  intro κ δ ρ0 X9 E hG
  replace X9 : CX κ δ RX10 cX10_sortOf 1 (some .int) := X9
  refine a_iload_n (pc := 0) X9 dX10_sortOf_0 rfl rfl ?_
  refine a_bipush (pc := 1) X9 dX10_sortOf_1 rfl ?_
  refine a_icmp_ge (pc := 3) (tgt := 10) X9 dX10_sortOf_3 rfl hi0 (by decide) (fun c => ?_) (fun c => ?_)
  · have c_1 := c
    have h := h.1 c_1
    refine a_bipush (pc := 10) X9 dX10_sortOf_10 rfl ?_
    refine a_iload_n (pc := 12) X9 dX10_sortOf_12 rfl rfl ?_
    refine a_iadd (pc := 13) X9 dX10_sortOf_13 ?_
    refine a_bipush (pc := 14) X9 dX10_sortOf_14 rfl ?_
    refine a_isub (pc := 16) X9 dX10_sortOf_16 ?_
    obtain ⟨g_1, h⟩ := h
    exact a_ireturn (pc := 17) X9 E rfl rfl (Nat.le_of_ble_eq_true rfl) (Nat.le_of_ble_eq_true rfl) dX10_sortOf_17 ⟨rfl, _, rfl, g_1, rfl, h⟩
  · have c_1 := c
    have h := h.2 c_1
    refine a_iload_n (pc := 6) X9 dX10_sortOf_6 rfl rfl ?_
    refine a_goto (pc := 7) (tgt := 17) X9 dX10_sortOf_7 rfl ?_
    exact a_ireturn (pc := 17) X9 E rfl rfl (Nat.le_of_ble_eq_true rfl) (Nat.le_of_ble_eq_true rfl) dX10_sortOf_17 ⟨rfl, _, rfl, hi0, rfl, h⟩
set_option maxHeartbeats 4000000 in
set_option maxRecDepth 100000 in
theorem m_X10_front {nn : Nat} {i1 : Int} {G : GH} {Q : Int → Prop} (hi1 : inR i1) (hnn : 285 ≤ nn) (h : f_X10_front i1 G Q) : Mt yX10_front cX10_front 2 (some .int) 1 21 0 0 [vr 272, vi i1] (SF nn) G (fun v S' G' => S' = SF nn ∧ qI (fun r9 G9 => G9 = G ∧ Q r9) v S' G') (fun E S' G' => S' = SF nn ∧ False) := by
  refine Mt.of (l0 := [some (vr 272), some (vi i1)]) (by decide) (Nat.le_of_ble_eq_true rfl) rfl ?_
  intro κ δ ρ0 X9 E hG
  replace X9 : CX κ δ RX10 cX10_front 2 (some .int) := X9
  refine a_iload_n (pc := 0) X9 dX10_front_0 rfl rfl ?_
  refine a_bipush (pc := 1) X9 dX10_front_1 rfl ?_
  refine a_icmp_ne (pc := 3) (tgt := 13) X9 dX10_front_3 rfl hi1 (by decide) (fun c => ?_) (fun c => ?_)
  · have c_1 := c
    have h := h.1 c_1
    refine a_iload_n (pc := 13) X9 dX10_front_13 rfl rfl ?_
    refine a_callS (pc := 14) X9 E (m_X10_isOwn hi1 hnn h) wM_X10_211 w_static_X10_isOwn w_initialized_RX10 w_code_X10_isOwn cp_X10_isOwn pn_X10_isOwn rfl (Nat.le_of_ble_eq_true rfl) ⟨Nat.le_of_ble_eq_true rfl, Nat.le_of_ble_eq_true rfl⟩ ⟨Nat.le_of_ble_eq_true rfl, Nat.le_of_ble_eq_true rfl⟩ dX10_front_14 (fun _ _ q => False.elim q) (kZp (fun r_1 hr_1 h => ?_))
    refine a_if_eq (pc := 17) (tgt := 33) X9 dX10_front_17 rfl (bool_inR hr_1) (fun c => ?_) (fun c => ?_)
    · have c_2 := c
      have h := h.1 c_2
      refine a_iload_n (pc := 33) X9 dX10_front_33 rfl rfl ?_
      refine a_callS (pc := 34) X9 E (m_X10_digitOf hi1 hnn h) wM_X10_214 w_static_X10_digitOf w_initialized_RX10 w_code_X10_digitOf cp_X10_digitOf pn_X10_digitOf rfl (Nat.le_of_ble_eq_true rfl) ⟨Nat.le_of_ble_eq_true rfl, Nat.le_of_ble_eq_true rfl⟩ ⟨Nat.le_of_ble_eq_true rfl, Nat.le_of_ble_eq_true rfl⟩ dX10_front_34 (fun _ _ q => False.elim q) (kIp (fun r_2 hr_2 h => ?_))
      exact a_ireturn (pc := 37) X9 E rfl rfl (Nat.le_of_ble_eq_true rfl) (Nat.le_of_ble_eq_true rfl) dX10_front_37 ⟨rfl, _, rfl, hr_2, rfl, h⟩
    · have c_2 := c
      have h := h.2 c_2
      refine a_aload_n (pc := 20) X9 dX10_front_20 rfl rfl ?_
      refine a_getR (pc := 21) X9 (q := 273) okX10 1 rfl wF_X10_9 (is10 hnn) rf10_1 dX10_front_21 ?_
      refine a_iload_n (pc := 24) X9 dX10_front_24 rfl rfl ?_
      refine a_iconst (pc := 25) X9 dX10_front_25 ?_
      refine a_callS (pc := 26) X9 E (m_X10_cardAt hi1 (show inR 0 by decide) hnn h) wM_X10_205 w_static_X10_cardAt w_initialized_RX10 w_code_X10_cardAt cp_X10_cardAt pn_X10_cardAt rfl (Nat.le_of_ble_eq_true rfl) ⟨Nat.le_of_ble_eq_true rfl, Nat.le_of_ble_eq_true rfl⟩ ⟨Nat.le_of_ble_eq_true rfl, Nat.le_of_ble_eq_true rfl⟩ dX10_front_26 (fun _ _ q => False.elim q) (kIp (fun r_3 hr_3 h => ?_))
      obtain ⟨g_1, h⟩ := h
      refine b_iald (pc := 29) X9 (ar10_1 hnn) (Nat.le_of_ble_eq_true rfl) g_1 dX10_front_29 ?_
      refine a_goto (pc := 30) (tgt := 37) X9 dX10_front_30 rfl ?_
      exact a_ireturn (pc := 37) X9 E rfl rfl (Nat.le_of_ble_eq_true rfl) (Nat.le_of_ble_eq_true rfl) dX10_front_37 ⟨rfl, _, rfl, (hG _ _), rfl, h⟩
  · have c_1 := c
    have h := h.2 c_1
    refine a_aload_n (pc := 6) X9 dX10_front_6 rfl rfl ?_
    refine a_getI (pc := 7) X9 okX10 17 rfl wF_X10_37 (is10 hnn) dX10_front_7 ?_
    refine a_goto (pc := 10) (tgt := 37) X9 dX10_front_10 rfl ?_
    exact a_ireturn (pc := 37) X9 E rfl rfl (Nat.le_of_ble_eq_true rfl) (Nat.le_of_ble_eq_true rfl) dX10_front_37 ⟨rfl, _, rfl, (hG _ _), rfl, h⟩
set_option maxHeartbeats 4000000 in
set_option maxRecDepth 100000 in
theorem m_X10_back {nn : Nat} {i1 : Int} {G : GH} {Q : Int → Prop} (hi1 : inR i1) (hnn : 285 ≤ nn) (h : f_X10_back i1 G Q) : Mt yX10_back cX10_back 2 (some .int) 1 21 0 0 [vr 272, vi i1] (SF nn) G (fun v S' G' => S' = SF nn ∧ qI (fun r9 G9 => G9 = G ∧ Q r9) v S' G') (fun E S' G' => S' = SF nn ∧ False) := by
  refine Mt.of (l0 := [some (vr 272), some (vi i1)]) (by decide) (Nat.le_of_ble_eq_true rfl) rfl ?_
  intro κ δ ρ0 X9 E hG
  replace X9 : CX κ δ RX10 cX10_back 2 (some .int) := X9
  refine a_iload_n (pc := 0) X9 dX10_back_0 rfl rfl ?_
  refine a_bipush (pc := 1) X9 dX10_back_1 rfl ?_
  refine a_icmp_eq (pc := 3) (tgt := 26) X9 dX10_back_3 rfl hi1 (by decide) (fun c => ?_) (fun c => ?_)
  · have c_1 := c
    have h := h.1 c_1
    refine a_iconst (pc := 26) X9 dX10_back_26 ?_
    exact a_ireturn (pc := 27) X9 E rfl rfl (Nat.le_of_ble_eq_true rfl) (Nat.le_of_ble_eq_true rfl) dX10_back_27 ⟨rfl, _, rfl, (show inR (-1) by decide), rfl, h⟩
  · have c_1 := c
    have h := h.2 c_1
    refine a_iload_n (pc := 6) X9 dX10_back_6 rfl rfl ?_
    refine a_callS (pc := 7) X9 E (m_X10_isOwn hi1 hnn h) wM_X10_211 w_static_X10_isOwn w_initialized_RX10 w_code_X10_isOwn cp_X10_isOwn pn_X10_isOwn rfl (Nat.le_of_ble_eq_true rfl) ⟨Nat.le_of_ble_eq_true rfl, Nat.le_of_ble_eq_true rfl⟩ ⟨Nat.le_of_ble_eq_true rfl, Nat.le_of_ble_eq_true rfl⟩ dX10_back_7 (fun _ _ q => False.elim q) (kZp (fun r_1 hr_1 h => ?_))
    refine a_if_eq (pc := 10) (tgt := 26) X9 dX10_back_10 rfl (bool_inR hr_1) (fun c => ?_) (fun c => ?_)
    · have c_2 := c
      have h := h.1 c_2
      refine a_iconst (pc := 26) X9 dX10_back_26 ?_
      exact a_ireturn (pc := 27) X9 E rfl rfl (Nat.le_of_ble_eq_true rfl) (Nat.le_of_ble_eq_true rfl) dX10_back_27 ⟨rfl, _, rfl, (show inR (-1) by decide), rfl, h⟩
    · have c_2 := c
      have h := h.2 c_2
      refine a_aload_n (pc := 13) X9 dX10_back_13 rfl rfl ?_
      refine a_getR (pc := 14) X9 (q := 273) okX10 1 rfl wF_X10_9 (is10 hnn) rf10_1 dX10_back_14 ?_
      refine a_iload_n (pc := 17) X9 dX10_back_17 rfl rfl ?_
      refine a_iconst (pc := 18) X9 dX10_back_18 ?_
      refine a_callS (pc := 19) X9 E (m_X10_cardAt hi1 (show inR 1 by decide) hnn h) wM_X10_205 w_static_X10_cardAt w_initialized_RX10 w_code_X10_cardAt cp_X10_cardAt pn_X10_cardAt rfl (Nat.le_of_ble_eq_true rfl) ⟨Nat.le_of_ble_eq_true rfl, Nat.le_of_ble_eq_true rfl⟩ ⟨Nat.le_of_ble_eq_true rfl, Nat.le_of_ble_eq_true rfl⟩ dX10_back_19 (fun _ _ q => False.elim q) (kIp (fun r_2 hr_2 h => ?_))
      obtain ⟨g_1, h⟩ := h
      refine b_iald (pc := 22) X9 (ar10_1 hnn) (Nat.le_of_ble_eq_true rfl) g_1 dX10_back_22 ?_
      refine a_goto (pc := 23) (tgt := 27) X9 dX10_back_23 rfl ?_
      exact a_ireturn (pc := 27) X9 E rfl rfl (Nat.le_of_ble_eq_true rfl) (Nat.le_of_ble_eq_true rfl) dX10_back_27 ⟨rfl, _, rfl, (hG _ _), rfl, h⟩
set_option maxHeartbeats 4000000 in
set_option maxRecDepth 100000 in
theorem m_X10_borrowedOf {nn : Nat} {i1 : Int} {i2 : Int} {G : GH} {Q : Int → Prop} (hi1 : inR i1) (hi2 : inR i2) (hnn : 285 ≤ nn) (h : f_X10_borrowedOf i1 i2 G Q) : Mt yX10_borrowedOf cX10_borrowedOf 5 (some .int) 2 43 0 0 [vr 272, vi i1, vi i2] (SF nn) G (fun v S' G' => S' = SF nn ∧ qI (fun r9 G9 => G9 = G ∧ Q r9) v S' G') (fun E S' G' => S' = SF nn ∧ False) := by
  refine Mt.of (l0 := [some (vr 272), some (vi i1), some (vi i2), none, none]) (by decide) (Nat.le_of_ble_eq_true rfl) rfl ?_
  intro κ δ ρ0 X9 E hG
  replace X9 : CX κ δ RX10 cX10_borrowedOf 5 (some .int) := X9
  refine a_iconst (pc := 0) X9 dX10_borrowedOf_0 ?_
  refine a_istore_n (pc := 1) X9 dX10_borrowedOf_1 rfl (Nat.le_of_ble_eq_true rfl) rfl rfl ?_
  refine a_iconst (pc := 2) X9 dX10_borrowedOf_2 ?_
  refine a_istore (pc := 3) X9 dX10_borrowedOf_3 (Nat.le_of_ble_eq_true rfl) rfl rfl ?_
  refine loopM2 (A := fun x3_1 x4_1 => inR x3_1 → inR x4_1 → AW κ δ ρ0 nn 5 0 0 5 [some (vr 272), some (vi i1), some (vi i2), some (vi x3_1), some (vi x4_1)] [] (SF nn) G) (fun k_1 hk_1 x3_1 x4_1 h h_x3_1 h_x4_1 => ?_) _ _ h (by decide) (by decide)
  refine a_iload (pc := 5) X9 dX10_borrowedOf_5 rfl ?_
  refine a_aload_n (pc := 7) X9 dX10_borrowedOf_7 rfl rfl ?_
  refine a_getR (pc := 8) X9 (q := 273) okX10 1 rfl wF_X10_9 (is10 hnn) rf10_1 dX10_borrowedOf_8 ?_
  refine a_bipush (pc := 11) X9 dX10_borrowedOf_11 rfl ?_
  refine a_iald (pc := 13) X9 (ar10_1 hnn) (Nat.le_of_ble_eq_true rfl) (j := 6) rfl (Nat.le_of_ble_eq_true rfl) dX10_borrowedOf_13 ?_
  refine a_icmp_ge (pc := 14) (tgt := 59) X9 dX10_borrowedOf_14 rfl h_x4_1 (hG _ _) (fun c => ?_) (fun c => ?_)
  · have c_1 := c
    have h := h.1 c_1
    refine a_iload_n (pc := 59) X9 dX10_borrowedOf_59 rfl rfl ?_
    exact a_ireturn (pc := 60) X9 E rfl rfl (Nat.le_of_ble_eq_true rfl) (Nat.le_of_ble_eq_true rfl) dX10_borrowedOf_60 ⟨rfl, _, rfl, h_x3_1, rfl, h⟩
  · have c_1 := c
    have h := h.2 c_1
    refine a_iload_n (pc := 17) X9 dX10_borrowedOf_17 rfl rfl ?_
    refine a_aload_n (pc := 18) X9 dX10_borrowedOf_18 rfl rfl ?_
    refine a_iload (pc := 19) X9 dX10_borrowedOf_19 rfl ?_
    refine a_iconst (pc := 21) X9 dX10_borrowedOf_21 ?_
    refine a_callV (pc := 22) X9 E (m_X10_ofLoan h_x4_1 (show inR 0 by decide) hnn h) okX10 (is10 hnn) wM_X10_217 w_instanceMethod_X10_ofLoan w_selects_X10_ofLoan w_initialized_RX10 w_code_X10_ofLoan cp_X10_ofLoan pn_X10_ofLoan rfl (Nat.le_of_ble_eq_true rfl) ⟨Nat.le_of_ble_eq_true rfl, Nat.le_of_ble_eq_true rfl⟩ ⟨Nat.le_of_ble_eq_true rfl, Nat.le_of_ble_eq_true rfl⟩ dX10_borrowedOf_22 (fun _ _ q => False.elim q) (kIp (fun r_1 hr_1 h => ?_))
    refine a_iload_n (pc := 25) X9 dX10_borrowedOf_25 rfl rfl ?_
    refine a_icmp_ne (pc := 26) (tgt := 50) X9 dX10_borrowedOf_26 rfl hr_1 hi1 (fun c => ?_) (fun c => ?_)
    · have c_2 := c
      have h := h.1 c_2
      refine a_iconst (pc := 50) X9 dX10_borrowedOf_50 ?_
      refine a_iadd (pc := 51) X9 dX10_borrowedOf_51 ?_
      refine a_istore_n (pc := 52) X9 dX10_borrowedOf_52 rfl (Nat.le_of_ble_eq_true rfl) rfl rfl ?_
      refine a_iinc (pc := 53) X9 dX10_borrowedOf_53 rfl (Nat.le_of_ble_eq_true rfl) rfl rfl ?_
      refine a_goto (pc := 56) (tgt := 5) X9 dX10_borrowedOf_56 rfl ?_
      obtain ⟨g_1, h⟩ := h
      have q_1 : inR ((G 273 6)) := (hG _ _)
      have q_2 : inR (x4_1) := h_x4_1
      have g_2 : inR ((x4_1 + 1)) := ⟨by omega, by omega⟩
      exact hk_1 _ _ h g_1 g_2
    · have c_2 := c
      have h := h.2 c_2
      refine a_aload_n (pc := 29) X9 dX10_borrowedOf_29 rfl rfl ?_
      refine a_iload (pc := 30) X9 dX10_borrowedOf_30 rfl ?_
      refine a_iconst (pc := 32) X9 dX10_borrowedOf_32 ?_
      refine a_callV (pc := 33) X9 E (m_X10_ofLoan h_x4_1 (show inR 1 by decide) hnn h) okX10 (is10 hnn) wM_X10_217 w_instanceMethod_X10_ofLoan w_selects_X10_ofLoan w_initialized_RX10 w_code_X10_ofLoan cp_X10_ofLoan pn_X10_ofLoan rfl (Nat.le_of_ble_eq_true rfl) ⟨Nat.le_of_ble_eq_true rfl, Nat.le_of_ble_eq_true rfl⟩ ⟨Nat.le_of_ble_eq_true rfl, Nat.le_of_ble_eq_true rfl⟩ dX10_borrowedOf_33 (fun _ _ q => False.elim q) (kIp (fun r_2 hr_2 h => ?_))
      refine a_iload_n (pc := 36) X9 dX10_borrowedOf_36 rfl rfl ?_
      refine a_icmp_ne (pc := 37) (tgt := 50) X9 dX10_borrowedOf_37 rfl hr_2 hi2 (fun c => ?_) (fun c => ?_)
      · have c_3 := c
        have h := h.1 c_3
        refine a_iconst (pc := 50) X9 dX10_borrowedOf_50 ?_
        refine a_iadd (pc := 51) X9 dX10_borrowedOf_51 ?_
        refine a_istore_n (pc := 52) X9 dX10_borrowedOf_52 rfl (Nat.le_of_ble_eq_true rfl) rfl rfl ?_
        refine a_iinc (pc := 53) X9 dX10_borrowedOf_53 rfl (Nat.le_of_ble_eq_true rfl) rfl rfl ?_
        refine a_goto (pc := 56) (tgt := 5) X9 dX10_borrowedOf_56 rfl ?_
        obtain ⟨g_3, h⟩ := h
        have q_3 : inR ((G 273 6)) := (hG _ _)
        have q_4 : inR (x4_1) := h_x4_1
        have g_4 : inR ((x4_1 + 1)) := ⟨by omega, by omega⟩
        exact hk_1 _ _ h g_3 g_4
      · have c_3 := c
        have h := h.2 c_3
        refine a_aload_n (pc := 40) X9 dX10_borrowedOf_40 rfl rfl ?_
        refine a_iload (pc := 41) X9 dX10_borrowedOf_41 rfl ?_
        refine a_iconst (pc := 43) X9 dX10_borrowedOf_43 ?_
        refine a_callV (pc := 44) X9 E (m_X10_ofLoan h_x4_1 (show inR 2 by decide) hnn h) okX10 (is10 hnn) wM_X10_217 w_instanceMethod_X10_ofLoan w_selects_X10_ofLoan w_initialized_RX10 w_code_X10_ofLoan cp_X10_ofLoan pn_X10_ofLoan rfl (Nat.le_of_ble_eq_true rfl) ⟨Nat.le_of_ble_eq_true rfl, Nat.le_of_ble_eq_true rfl⟩ ⟨Nat.le_of_ble_eq_true rfl, Nat.le_of_ble_eq_true rfl⟩ dX10_borrowedOf_44 (fun _ _ q => False.elim q) (kIp (fun r_3 hr_3 h => ?_))
        refine a_goto (pc := 47) (tgt := 51) X9 dX10_borrowedOf_47 rfl ?_
        refine a_iadd (pc := 51) X9 dX10_borrowedOf_51 ?_
        refine a_istore_n (pc := 52) X9 dX10_borrowedOf_52 rfl (Nat.le_of_ble_eq_true rfl) rfl rfl ?_
        refine a_iinc (pc := 53) X9 dX10_borrowedOf_53 rfl (Nat.le_of_ble_eq_true rfl) rfl rfl ?_
        refine a_goto (pc := 56) (tgt := 5) X9 dX10_borrowedOf_56 rfl ?_
        obtain ⟨g_5, h⟩ := h
        have q_5 : inR ((G 273 6)) := (hG _ _)
        have q_6 : inR (x4_1) := h_x4_1
        have g_6 : inR ((x4_1 + 1)) := ⟨by omega, by omega⟩
        exact hk_1 _ _ h g_5 g_6
set_option maxHeartbeats 4000000 in
set_option maxRecDepth 100000 in
theorem m_X10_count {nn : Nat} {i1 : Int} {G : GH} {Q : Int → Prop} (hi1 : inR i1) (hnn : 285 ≤ nn) (h : f_X10_count i1 G Q) : Mt yX10_count cX10_count 2 (some .int) 3 67 0 0 [vr 272, vi i1] (SF nn) G (fun v S' G' => S' = SF nn ∧ qI (fun r9 G9 => G9 = G ∧ Q r9) v S' G') (fun E S' G' => S' = SF nn ∧ False) := by
  refine Mt.of (l0 := [some (vr 272), some (vi i1)]) (by decide) (Nat.le_of_ble_eq_true rfl) rfl ?_
  intro κ δ ρ0 X9 E hG
  replace X9 : CX κ δ RX10 cX10_count 2 (some .int) := X9
  refine a_iload_n (pc := 0) X9 dX10_count_0 rfl rfl ?_
  refine a_bipush (pc := 1) X9 dX10_count_1 rfl ?_
  refine a_icmp_ne (pc := 3) (tgt := 20) X9 dX10_count_3 rfl hi1 (by decide) (fun c => ?_) (fun c => ?_)
  · have c_1 := c
    have h := h.1 c_1
    refine a_iload_n (pc := 20) X9 dX10_count_20 rfl rfl ?_
    refine a_callS (pc := 21) X9 E (m_X10_isOwn hi1 hnn h) wM_X10_211 w_static_X10_isOwn w_initialized_RX10 w_code_X10_isOwn cp_X10_isOwn pn_X10_isOwn rfl (Nat.le_of_ble_eq_true rfl) ⟨Nat.le_of_ble_eq_true rfl, Nat.le_of_ble_eq_true rfl⟩ ⟨Nat.le_of_ble_eq_true rfl, Nat.le_of_ble_eq_true rfl⟩ dX10_count_21 (fun _ _ q => False.elim q) (kZp (fun r_1 hr_1 h => ?_))
    refine a_if_eq (pc := 24) (tgt := 52) X9 dX10_count_24 rfl (bool_inR hr_1) (fun c => ?_) (fun c => ?_)
    · have c_2 := c
      have h := h.1 c_2
      refine a_aload_n (pc := 52) X9 dX10_count_52 rfl rfl ?_
      refine a_iload_n (pc := 53) X9 dX10_count_53 rfl rfl ?_
      refine a_callS (pc := 54) X9 E (m_X10_friendOf hi1 hnn h) wM_X10_220 w_static_X10_friendOf w_initialized_RX10 w_code_X10_friendOf cp_X10_friendOf pn_X10_friendOf rfl (Nat.le_of_ble_eq_true rfl) ⟨Nat.le_of_ble_eq_true rfl, Nat.le_of_ble_eq_true rfl⟩ ⟨Nat.le_of_ble_eq_true rfl, Nat.le_of_ble_eq_true rfl⟩ dX10_count_54 (fun _ _ q => False.elim q) (kIp (fun r_2 hr_2 h => ?_))
      refine a_iload_n (pc := 57) X9 dX10_count_57 rfl rfl ?_
      refine a_callS (pc := 58) X9 E (m_X10_digitOf hi1 hnn h) wM_X10_214 w_static_X10_digitOf w_initialized_RX10 w_code_X10_digitOf cp_X10_digitOf pn_X10_digitOf rfl (Nat.le_of_ble_eq_true rfl) ⟨Nat.le_of_ble_eq_true rfl, Nat.le_of_ble_eq_true rfl⟩ ⟨Nat.le_of_ble_eq_true rfl, Nat.le_of_ble_eq_true rfl⟩ dX10_count_58 (fun _ _ q => False.elim q) (kIp (fun r_3 hr_3 h => ?_))
      refine a_callV (pc := 61) X9 E (m_X10_borrowedOf hr_2 hr_3 hnn h) okX10 (is10 hnn) wM_X10_223 w_instanceMethod_X10_borrowedOf w_selects_X10_borrowedOf w_initialized_RX10 w_code_X10_borrowedOf cp_X10_borrowedOf pn_X10_borrowedOf rfl (Nat.le_of_ble_eq_true rfl) ⟨Nat.le_of_ble_eq_true rfl, Nat.le_of_ble_eq_true rfl⟩ ⟨Nat.le_of_ble_eq_true rfl, Nat.le_of_ble_eq_true rfl⟩ dX10_count_61 (fun _ _ q => False.elim q) (kIp (fun r_4 hr_4 h => ?_))
      exact a_ireturn (pc := 64) X9 E rfl rfl (Nat.le_of_ble_eq_true rfl) (Nat.le_of_ble_eq_true rfl) dX10_count_64 ⟨rfl, _, rfl, hr_4, rfl, h⟩
    · have c_2 := c
      have h := h.2 c_2
      refine a_iload_n (pc := 27) X9 dX10_count_27 rfl rfl ?_
      refine a_aload_n (pc := 28) X9 dX10_count_28 rfl rfl ?_
      refine a_getR (pc := 29) X9 (q := 273) okX10 1 rfl wF_X10_9 (is10 hnn) rf10_1 dX10_count_29 ?_
      refine a_iconst (pc := 32) X9 dX10_count_32 ?_
      refine a_iald (pc := 33) X9 (ar10_1 hnn) (Nat.le_of_ble_eq_true rfl) (j := 3) rfl (Nat.le_of_ble_eq_true rfl) dX10_count_33 ?_
      refine a_icmp_ge (pc := 34) (tgt := 50) X9 dX10_count_34 rfl hi1 (hG _ _) (fun c => ?_) (fun c => ?_)
      · have c_3 := c
        have h := h.1 c_3
        refine a_iconst (pc := 50) X9 dX10_count_50 ?_
        exact a_ireturn (pc := 51) X9 E rfl rfl (Nat.le_of_ble_eq_true rfl) (Nat.le_of_ble_eq_true rfl) dX10_count_51 ⟨rfl, _, rfl, (show inR 0 by decide), rfl, h⟩
      · have c_3 := c
        have h := h.2 c_3
        refine a_aload_n (pc := 37) X9 dX10_count_37 rfl rfl ?_
        refine a_getR (pc := 38) X9 (q := 273) okX10 1 rfl wF_X10_9 (is10 hnn) rf10_1 dX10_count_38 ?_
        refine a_iload_n (pc := 41) X9 dX10_count_41 rfl rfl ?_
        refine a_iconst (pc := 42) X9 dX10_count_42 ?_
        refine a_callS (pc := 43) X9 E (m_X10_cardAt hi1 (show inR 2 by decide) hnn h) wM_X10_205 w_static_X10_cardAt w_initialized_RX10 w_code_X10_cardAt cp_X10_cardAt pn_X10_cardAt rfl (Nat.le_of_ble_eq_true rfl) ⟨Nat.le_of_ble_eq_true rfl, Nat.le_of_ble_eq_true rfl⟩ ⟨Nat.le_of_ble_eq_true rfl, Nat.le_of_ble_eq_true rfl⟩ dX10_count_43 (fun _ _ q => False.elim q) (kIp (fun r_5 hr_5 h => ?_))
        obtain ⟨g_1, h⟩ := h
        refine b_iald (pc := 46) X9 (ar10_1 hnn) (Nat.le_of_ble_eq_true rfl) g_1 dX10_count_46 ?_
        refine a_goto (pc := 47) (tgt := 51) X9 dX10_count_47 rfl ?_
        exact a_ireturn (pc := 51) X9 E rfl rfl (Nat.le_of_ble_eq_true rfl) (Nat.le_of_ble_eq_true rfl) dX10_count_51 ⟨rfl, _, rfl, (hG _ _), rfl, h⟩
  · have c_1 := c
    have h := h.2 c_1
    refine a_aload_n (pc := 6) X9 dX10_count_6 rfl rfl ?_
    refine a_getI (pc := 7) X9 okX10 17 rfl wF_X10_37 (is10 hnn) dX10_count_7 ?_
    refine a_iconst (pc := 10) X9 dX10_count_10 ?_
    refine a_icmp_ne (pc := 11) (tgt := 18) X9 dX10_count_11 rfl (hG _ _) (by decide) (fun c => ?_) (fun c => ?_)
    · have c_4 := c
      have h := h.1 c_4
      refine a_iconst (pc := 18) X9 dX10_count_18 ?_
      exact a_ireturn (pc := 19) X9 E rfl rfl (Nat.le_of_ble_eq_true rfl) (Nat.le_of_ble_eq_true rfl) dX10_count_19 ⟨rfl, _, rfl, (show inR 1 by decide), rfl, h⟩
    · have c_4 := c
      have h := h.2 c_4
      refine a_iconst (pc := 14) X9 dX10_count_14 ?_
      refine a_goto (pc := 15) (tgt := 19) X9 dX10_count_15 rfl ?_
      exact a_ireturn (pc := 19) X9 E rfl rfl (Nat.le_of_ble_eq_true rfl) (Nat.le_of_ble_eq_true rfl) dX10_count_19 ⟨rfl, _, rfl, (show inR 0 by decide), rfl, h⟩
set_option maxHeartbeats 4000000 in
set_option maxRecDepth 100000 in
theorem m_X10_otherOne {nn : Nat} {i0 : Int} {G : GH} {Q : Int → Prop} (hi0 : inR i0) (hnn : 285 ≤ nn) (h : f_X10_otherOne i0 Q) : Mt yX10_otherOne cX10_otherOne 1 (some .int) 0 0 0 0 [vi i0] (SF nn) G (fun v S' G' => S' = SF nn ∧ qI (fun r9 G9 => G9 = G ∧ Q r9) v S' G') (fun E S' G' => S' = SF nn ∧ False) := by
  refine Mt.of (l0 := [some (vi i0)]) (by decide) (Nat.le_of_ble_eq_true rfl) rfl ?_
  intro κ δ ρ0 X9 E hG
  replace X9 : CX κ δ RX10 cX10_otherOne 1 (some .int) := X9
  refine a_iload_n (pc := 0) X9 dX10_otherOne_0 rfl rfl ?_
  refine a_bipush (pc := 1) X9 dX10_otherOne_1 rfl ?_
  refine a_icmp_ne (pc := 3) (tgt := 11) X9 dX10_otherOne_3 rfl hi0 (by decide) (fun c => ?_) (fun c => ?_)
  · have c_1 := c
    have h := h.1 c_1
    refine a_iload_n (pc := 11) X9 dX10_otherOne_11 rfl rfl ?_
    refine a_bipush (pc := 12) X9 dX10_otherOne_12 rfl ?_
    refine a_icmp_ne (pc := 14) (tgt := 22) X9 dX10_otherOne_14 rfl hi0 (by decide) (fun c => ?_) (fun c => ?_)
    · have c_2 := c
      have h := h.1 c_2
      refine a_iconst (pc := 22) X9 dX10_otherOne_22 ?_
      exact a_ireturn (pc := 23) X9 E rfl rfl (Nat.le_of_ble_eq_true rfl) (Nat.le_of_ble_eq_true rfl) dX10_otherOne_23 ⟨rfl, _, rfl, (show inR (-1) by decide), rfl, h⟩
    · have c_2 := c
      have h := h.2 c_2
      refine a_bipush (pc := 17) X9 dX10_otherOne_17 rfl ?_
      refine a_goto (pc := 19) (tgt := 23) X9 dX10_otherOne_19 rfl ?_
      exact a_ireturn (pc := 23) X9 E rfl rfl (Nat.le_of_ble_eq_true rfl) (Nat.le_of_ble_eq_true rfl) dX10_otherOne_23 ⟨rfl, _, rfl, (show inR 6 by decide), rfl, h⟩
  · have c_1 := c
    have h := h.2 c_1
    refine a_bipush (pc := 6) X9 dX10_otherOne_6 rfl ?_
    refine a_goto (pc := 8) (tgt := 23) X9 dX10_otherOne_8 rfl ?_
    exact a_ireturn (pc := 23) X9 E rfl rfl (Nat.le_of_ble_eq_true rfl) (Nat.le_of_ble_eq_true rfl) dX10_otherOne_23 ⟨rfl, _, rfl, (show inR 9 by decide), rfl, h⟩
set_option maxHeartbeats 4000000 in
set_option maxRecDepth 100000 in
theorem m_X10_wayOf {nn : Nat} {i1 : Int} {i2 : Int} {G : GH} {Q : Int → Prop} (hi1 : inR i1) (hi2 : inR i2) (hnn : 285 ≤ nn) (h : f_X10_wayOf i1 i2 G Q) : Mt yX10_wayOf cX10_wayOf 4 (some .int) 2 42 0 0 [vr 272, vi i1, vi i2] (SF nn) G (fun v S' G' => S' = SF nn ∧ qI (fun r9 G9 => G9 = G ∧ Q r9) v S' G') (fun E S' G' => S' = SF nn ∧ False) := by
  refine Mt.of (l0 := [some (vr 272), some (vi i1), some (vi i2), none]) (by decide) (Nat.le_of_ble_eq_true rfl) rfl ?_
  intro κ δ ρ0 X9 E hG
  replace X9 : CX κ δ RX10 cX10_wayOf 4 (some .int) := X9
  refine a_aload_n (pc := 0) X9 dX10_wayOf_0 rfl rfl ?_
  refine a_iload_n (pc := 1) X9 dX10_wayOf_1 rfl rfl ?_
  refine a_callV (pc := 2) X9 E (m_X10_front hi1 hnn h) okX10 (is10 hnn) wM_X10_226 w_instanceMethod_X10_front w_selects_X10_front w_initialized_RX10 w_code_X10_front cp_X10_front pn_X10_front rfl (Nat.le_of_ble_eq_true rfl) ⟨Nat.le_of_ble_eq_true rfl, Nat.le_of_ble_eq_true rfl⟩ ⟨Nat.le_of_ble_eq_true rfl, Nat.le_of_ble_eq_true rfl⟩ dX10_wayOf_2 (fun _ _ q => False.elim q) (kIp (fun r_1 hr_1 h => ?_))
  refine a_iload_n (pc := 5) X9 dX10_wayOf_5 rfl rfl ?_
  refine a_icmp_ne (pc := 6) (tgt := 11) X9 dX10_wayOf_6 rfl hr_1 hi2 (fun c => ?_) (fun c => ?_)
  · have c_1 := c
    have h := h.1 c_1
    refine a_aload_n (pc := 11) X9 dX10_wayOf_11 rfl rfl ?_
    refine a_iload_n (pc := 12) X9 dX10_wayOf_12 rfl rfl ?_
    refine a_callV (pc := 13) X9 E (m_X10_back hi1 hnn h) okX10 (is10 hnn) wM_X10_229 w_instanceMethod_X10_back w_selects_X10_back w_initialized_RX10 w_code_X10_back cp_X10_back pn_X10_back rfl (Nat.le_of_ble_eq_true rfl) ⟨Nat.le_of_ble_eq_true rfl, Nat.le_of_ble_eq_true rfl⟩ ⟨Nat.le_of_ble_eq_true rfl, Nat.le_of_ble_eq_true rfl⟩ dX10_wayOf_13 (fun _ _ q => False.elim q) (kIp (fun r_2 hr_2 h => ?_))
    refine a_iload_n (pc := 16) X9 dX10_wayOf_16 rfl rfl ?_
    refine a_icmp_ne (pc := 17) (tgt := 22) X9 dX10_wayOf_17 rfl hr_2 hi2 (fun c => ?_) (fun c => ?_)
    · have c_2 := c
      have h := h.1 c_2
      refine a_iload_n (pc := 22) X9 dX10_wayOf_22 rfl rfl ?_
      refine a_callS (pc := 23) X9 E (m_X10_otherOne hi2 hnn h) wM_X10_231 w_static_X10_otherOne w_initialized_RX10 w_code_X10_otherOne cp_X10_otherOne pn_X10_otherOne rfl (Nat.le_of_ble_eq_true rfl) ⟨Nat.le_of_ble_eq_true rfl, Nat.le_of_ble_eq_true rfl⟩ ⟨Nat.le_of_ble_eq_true rfl, Nat.le_of_ble_eq_true rfl⟩ dX10_wayOf_23 (fun _ _ q => False.elim q) (kIp (fun r_3 hr_3 h => ?_))
      refine a_istore_n (pc := 26) X9 dX10_wayOf_26 rfl (Nat.le_of_ble_eq_true rfl) rfl rfl ?_
      refine a_aload_n (pc := 27) X9 dX10_wayOf_27 rfl rfl ?_
      refine a_getR (pc := 28) X9 (q := 273) okX10 1 rfl wF_X10_9 (is10 hnn) rf10_1 dX10_wayOf_28 ?_
      refine a_iconst (pc := 31) X9 dX10_wayOf_31 ?_
      refine a_iald (pc := 32) X9 (ar10_1 hnn) (Nat.le_of_ble_eq_true rfl) (j := 1) rfl (Nat.le_of_ble_eq_true rfl) dX10_wayOf_32 ?_
      refine a_if_eq (pc := 33) (tgt := 41) X9 dX10_wayOf_33 rfl (hG _ _) (fun c => ?_) (fun c => ?_)
      · have c_3 := c
        have h := h.1 c_3
        refine a_iconst (pc := 41) X9 dX10_wayOf_41 ?_
        exact a_ireturn (pc := 42) X9 E rfl rfl (Nat.le_of_ble_eq_true rfl) (Nat.le_of_ble_eq_true rfl) dX10_wayOf_42 ⟨rfl, _, rfl, (show inR (-1) by decide), rfl, h⟩
      · have c_3 := c
        have h := h.2 c_3
        refine a_iload_n (pc := 36) X9 dX10_wayOf_36 rfl rfl ?_
        refine a_iconst (pc := 37) X9 dX10_wayOf_37 ?_
        refine a_icmp_ne (pc := 38) (tgt := 43) X9 dX10_wayOf_38 rfl hr_3 (by decide) (fun c => ?_) (fun c => ?_)
        · have c_4 := c
          have h := h.1 c_4
          refine a_aload_n (pc := 43) X9 dX10_wayOf_43 rfl rfl ?_
          refine a_iload_n (pc := 44) X9 dX10_wayOf_44 rfl rfl ?_
          refine a_callV (pc := 45) X9 E (m_X10_front hi1 hnn h) okX10 (is10 hnn) wM_X10_226 w_instanceMethod_X10_front w_selects_X10_front w_initialized_RX10 w_code_X10_front cp_X10_front pn_X10_front rfl (Nat.le_of_ble_eq_true rfl) ⟨Nat.le_of_ble_eq_true rfl, Nat.le_of_ble_eq_true rfl⟩ ⟨Nat.le_of_ble_eq_true rfl, Nat.le_of_ble_eq_true rfl⟩ dX10_wayOf_45 (fun _ _ q => False.elim q) (kIp (fun r_4 hr_4 h => ?_))
          refine a_iload_n (pc := 48) X9 dX10_wayOf_48 rfl rfl ?_
          refine a_icmp_ne (pc := 49) (tgt := 56) X9 dX10_wayOf_49 rfl hr_4 hr_3 (fun c => ?_) (fun c => ?_)
          · have c_5 := c
            have h := h.1 c_5
            refine a_aload_n (pc := 56) X9 dX10_wayOf_56 rfl rfl ?_
            refine a_iload_n (pc := 57) X9 dX10_wayOf_57 rfl rfl ?_
            refine a_callV (pc := 58) X9 E (m_X10_back hi1 hnn h) okX10 (is10 hnn) wM_X10_229 w_instanceMethod_X10_back w_selects_X10_back w_initialized_RX10 w_code_X10_back cp_X10_back pn_X10_back rfl (Nat.le_of_ble_eq_true rfl) ⟨Nat.le_of_ble_eq_true rfl, Nat.le_of_ble_eq_true rfl⟩ ⟨Nat.le_of_ble_eq_true rfl, Nat.le_of_ble_eq_true rfl⟩ dX10_wayOf_58 (fun _ _ q => False.elim q) (kIp (fun r_5 hr_5 h => ?_))
            refine a_iload_n (pc := 61) X9 dX10_wayOf_61 rfl rfl ?_
            refine a_icmp_ne (pc := 62) (tgt := 69) X9 dX10_wayOf_62 rfl hr_5 hr_3 (fun c => ?_) (fun c => ?_)
            · have c_6 := c
              have h := h.1 c_6
              refine a_iconst (pc := 69) X9 dX10_wayOf_69 ?_
              exact a_ireturn (pc := 70) X9 E rfl rfl (Nat.le_of_ble_eq_true rfl) (Nat.le_of_ble_eq_true rfl) dX10_wayOf_70 ⟨rfl, _, rfl, (show inR (-1) by decide), rfl, h⟩
            · have c_6 := c
              have h := h.2 c_6
              refine a_iconst (pc := 65) X9 dX10_wayOf_65 ?_
              refine a_goto (pc := 66) (tgt := 70) X9 dX10_wayOf_66 rfl ?_
              exact a_ireturn (pc := 70) X9 E rfl rfl (Nat.le_of_ble_eq_true rfl) (Nat.le_of_ble_eq_true rfl) dX10_wayOf_70 ⟨rfl, _, rfl, (show inR 3 by decide), rfl, h⟩
          · have c_5 := c
            have h := h.2 c_5
            refine a_iconst (pc := 52) X9 dX10_wayOf_52 ?_
            refine a_goto (pc := 53) (tgt := 70) X9 dX10_wayOf_53 rfl ?_
            exact a_ireturn (pc := 70) X9 E rfl rfl (Nat.le_of_ble_eq_true rfl) (Nat.le_of_ble_eq_true rfl) dX10_wayOf_70 ⟨rfl, _, rfl, (show inR 2 by decide), rfl, h⟩
        · have c_4 := c
          have h := h.2 c_4
          refine a_iconst (pc := 41) X9 dX10_wayOf_41 ?_
          exact a_ireturn (pc := 42) X9 E rfl rfl (Nat.le_of_ble_eq_true rfl) (Nat.le_of_ble_eq_true rfl) dX10_wayOf_42 ⟨rfl, _, rfl, (show inR (-1) by decide), rfl, h⟩
    · have c_2 := c
      have h := h.2 c_2
      refine a_iconst (pc := 20) X9 dX10_wayOf_20 ?_
      exact a_ireturn (pc := 21) X9 E rfl rfl (Nat.le_of_ble_eq_true rfl) (Nat.le_of_ble_eq_true rfl) dX10_wayOf_21 ⟨rfl, _, rfl, (show inR 1 by decide), rfl, h⟩
  · have c_1 := c
    have h := h.2 c_1
    refine a_iconst (pc := 9) X9 dX10_wayOf_9 ?_
    exact a_ireturn (pc := 10) X9 E rfl rfl (Nat.le_of_ble_eq_true rfl) (Nat.le_of_ble_eq_true rfl) dX10_wayOf_10 ⟨rfl, _, rfl, (show inR 0 by decide), rfl, h⟩
set_option maxHeartbeats 4000000 in
set_option maxRecDepth 100000 in
theorem m_X10_placeAt {nn : Nat} {i0 : Int} {i1 : Int} {G : GH} {Q : Int → Prop} (hi0 : inR i0) (hi1 : inR i1) (hnn : 285 ≤ nn) (h : f_X10_placeAt i0 i1 Q) : Mt yX10_placeAt cX10_placeAt 2 (some .int) 0 0 0 0 [vi i0, vi i1] (SF nn) G (fun v S' G' => S' = SF nn ∧ qI (fun r9 G9 => G9 = G ∧ Q r9) v S' G') (fun E S' G' => S' = SF nn ∧ False) := by
  refine Mt.of (l0 := [some (vi i0), some (vi i1)]) (by decide) (Nat.le_of_ble_eq_true rfl) rfl ?_
  intro κ δ ρ0 X9 E hG
  replace X9 : CX κ δ RX10 cX10_placeAt 2 (some .int) := X9
  refine a_sipush (pc := 0) X9 dX10_placeAt_0 rfl ?_
  refine a_iconst (pc := 3) X9 dX10_placeAt_3 ?_
  refine a_iload_n (pc := 4) X9 dX10_placeAt_4 rfl rfl ?_
  refine a_imul (pc := 5) X9 dX10_placeAt_5 ?_
  refine a_iadd (pc := 6) X9 dX10_placeAt_6 ?_
  refine a_iload_n (pc := 7) X9 dX10_placeAt_7 rfl rfl ?_
  refine a_iadd (pc := 8) X9 dX10_placeAt_8 ?_
  obtain ⟨g_1, h⟩ := h
  exact a_ireturn (pc := 9) X9 E rfl rfl (Nat.le_of_ble_eq_true rfl) (Nat.le_of_ble_eq_true rfl) dX10_placeAt_9 ⟨rfl, _, rfl, g_1, rfl, h⟩
set_option maxHeartbeats 4000000 in
set_option maxRecDepth 100000 in
theorem m_X10_hanging {nn : Nat} {i1 : Int} {G : GH} {Q : Int → Prop} (hi1 : inR i1) (hnn : 285 ≤ nn) (h : f_X10_hanging i1 G Q) : Mt yX10_hanging cX10_hanging 4 (some .int) 1 21 0 0 [vr 272, vi i1] (SF nn) G (fun v S' G' => S' = SF nn ∧ qI (fun r9 G9 => G9 = G ∧ Q r9) v S' G') (fun E S' G' => S' = SF nn ∧ False) := by
  refine Mt.of (l0 := [some (vr 272), some (vi i1), none, none]) (by decide) (Nat.le_of_ble_eq_true rfl) rfl ?_
  intro κ δ ρ0 X9 E hG
  replace X9 : CX κ δ RX10 cX10_hanging 4 (some .int) := X9
  refine a_iconst (pc := 0) X9 dX10_hanging_0 ?_
  refine a_istore_n (pc := 1) X9 dX10_hanging_1 rfl (Nat.le_of_ble_eq_true rfl) rfl rfl ?_
  refine a_iconst (pc := 2) X9 dX10_hanging_2 ?_
  refine a_istore_n (pc := 3) X9 dX10_hanging_3 rfl (Nat.le_of_ble_eq_true rfl) rfl rfl ?_
  refine loopM2 (A := fun x2_1 x3_1 => inR x2_1 → inR x3_1 → AW κ δ ρ0 nn 4 0 0 4 [some (vr 272), some (vi i1), some (vi x2_1), some (vi x3_1)] [] (SF nn) G) (fun k_1 hk_1 x2_1 x3_1 h h_x2_1 h_x3_1 => ?_) _ _ h (by decide) (by decide)
  refine a_iload_n (pc := 4) X9 dX10_hanging_4 rfl rfl ?_
  refine a_bipush (pc := 5) X9 dX10_hanging_5 rfl ?_
  refine a_icmp_ge (pc := 7) (tgt := 38) X9 dX10_hanging_7 rfl h_x3_1 (by decide) (fun c => ?_) (fun c => ?_)
  · have c_1 := c
    have h := h.1 c_1
    refine a_iload_n (pc := 38) X9 dX10_hanging_38 rfl rfl ?_
    exact a_ireturn (pc := 39) X9 E rfl rfl (Nat.le_of_ble_eq_true rfl) (Nat.le_of_ble_eq_true rfl) dX10_hanging_39 ⟨rfl, _, rfl, h_x2_1, rfl, h⟩
  · have c_1 := c
    have h := h.2 c_1
    refine a_iload_n (pc := 10) X9 dX10_hanging_10 rfl rfl ?_
    refine a_aload_n (pc := 11) X9 dX10_hanging_11 rfl rfl ?_
    refine a_getR (pc := 12) X9 (q := 273) okX10 1 rfl wF_X10_9 (is10 hnn) rf10_1 dX10_hanging_12 ?_
    refine a_iload_n (pc := 15) X9 dX10_hanging_15 rfl rfl ?_
    refine a_iconst (pc := 16) X9 dX10_hanging_16 ?_
    refine a_callS (pc := 17) X9 E (m_X10_placeAt h_x3_1 (show inR 1 by decide) hnn h) wM_X10_234 w_static_X10_placeAt w_initialized_RX10 w_code_X10_placeAt cp_X10_placeAt pn_X10_placeAt rfl (Nat.le_of_ble_eq_true rfl) ⟨Nat.le_of_ble_eq_true rfl, Nat.le_of_ble_eq_true rfl⟩ ⟨Nat.le_of_ble_eq_true rfl, Nat.le_of_ble_eq_true rfl⟩ dX10_hanging_17 (fun _ _ q => False.elim q) (kIp (fun r_1 hr_1 h => ?_))
    obtain ⟨g_1, h⟩ := h
    refine b_iald (pc := 20) X9 (ar10_1 hnn) (Nat.le_of_ble_eq_true rfl) g_1 dX10_hanging_20 ?_
    refine a_iload_n (pc := 21) X9 dX10_hanging_21 rfl rfl ?_
    refine a_icmp_ne (pc := 22) (tgt := 29) X9 dX10_hanging_22 rfl (hG _ _) hi1 (fun c => ?_) (fun c => ?_)
    · have c_2 := c
      have h := h.1 c_2
      refine a_iconst (pc := 29) X9 dX10_hanging_29 ?_
      refine a_iadd (pc := 30) X9 dX10_hanging_30 ?_
      refine a_istore_n (pc := 31) X9 dX10_hanging_31 rfl (Nat.le_of_ble_eq_true rfl) rfl rfl ?_
      refine a_iinc (pc := 32) X9 dX10_hanging_32 rfl (Nat.le_of_ble_eq_true rfl) rfl rfl ?_
      refine a_goto (pc := 35) (tgt := 4) X9 dX10_hanging_35 rfl ?_
      obtain ⟨g_2, h⟩ := h
      have q_1 : inR (x3_1) := h_x3_1
      have g_3 : inR ((x3_1 + 1)) := ⟨by omega, by omega⟩
      exact hk_1 _ _ h g_2 g_3
    · have c_2 := c
      have h := h.2 c_2
      refine a_iconst (pc := 25) X9 dX10_hanging_25 ?_
      refine a_goto (pc := 26) (tgt := 30) X9 dX10_hanging_26 rfl ?_
      refine a_iadd (pc := 30) X9 dX10_hanging_30 ?_
      refine a_istore_n (pc := 31) X9 dX10_hanging_31 rfl (Nat.le_of_ble_eq_true rfl) rfl rfl ?_
      refine a_iinc (pc := 32) X9 dX10_hanging_32 rfl (Nat.le_of_ble_eq_true rfl) rfl rfl ?_
      refine a_goto (pc := 35) (tgt := 4) X9 dX10_hanging_35 rfl ?_
      obtain ⟨g_4, h⟩ := h
      have q_2 : inR (x3_1) := h_x3_1
      have g_5 : inR ((x3_1 + 1)) := ⟨by omega, by omega⟩
      exact hk_1 _ _ h g_4 g_5
set_option maxHeartbeats 4000000 in
set_option maxRecDepth 100000 in
theorem m_X10_hangs {nn : Nat} {i1 : Int} {G : GH} {Q : Int → Prop} (hi1 : inR i1) (hnn : 285 ≤ nn) (h : f_X10_hangs i1 G Q) : Mt yX10_hangs cX10_hangs 2 (some .boolean) 1 21 0 0 [vr 272, vi i1] (SF nn) G (fun v S' G' => S' = SF nn ∧ qZ (fun r9 G9 => G9 = G ∧ Q r9) v S' G') (fun E S' G' => S' = SF nn ∧ False) := by
  refine Mt.of (l0 := [some (vr 272), some (vi i1)]) (by decide) (Nat.le_of_ble_eq_true rfl) rfl ?_
  intro κ δ ρ0 X9 E hG
  replace X9 : CX κ δ RX10 cX10_hangs 2 (some .boolean) := X9
  refine a_aload_n (pc := 0) X9 dX10_hangs_0 rfl rfl ?_
  refine a_getR (pc := 1) X9 (q := 273) okX10 1 rfl wF_X10_9 (is10 hnn) rf10_1 dX10_hangs_1 ?_
  refine a_iload_n (pc := 4) X9 dX10_hangs_4 rfl rfl ?_
  refine a_iconst (pc := 5) X9 dX10_hangs_5 ?_
  refine a_callS (pc := 6) X9 E (m_X10_placeAt hi1 (show inR 0 by decide) hnn h) wM_X10_234 w_static_X10_placeAt w_initialized_RX10 w_code_X10_placeAt cp_X10_placeAt pn_X10_placeAt rfl (Nat.le_of_ble_eq_true rfl) ⟨Nat.le_of_ble_eq_true rfl, Nat.le_of_ble_eq_true rfl⟩ ⟨Nat.le_of_ble_eq_true rfl, Nat.le_of_ble_eq_true rfl⟩ dX10_hangs_6 (fun _ _ q => False.elim q) (kIp (fun r_1 hr_1 h => ?_))
  obtain ⟨g_1, h⟩ := h
  refine b_iald (pc := 9) X9 (ar10_1 hnn) (Nat.le_of_ble_eq_true rfl) g_1 dX10_hangs_9 ?_
  refine a_iconst (pc := 10) X9 dX10_hangs_10 ?_
  refine a_icmp_eq (pc := 11) (tgt := 18) X9 dX10_hangs_11 rfl (hG _ _) (by decide) (fun c => ?_) (fun c => ?_)
  · have c_1 := c
    have h := h.1 c_1
    refine a_iconst (pc := 18) X9 dX10_hangs_18 ?_
    exact a_ireturn (pc := 19) X9 E rfl (fit_bool (Or.inl rfl)).1 (Nat.le_of_ble_eq_true rfl) (Nat.le_of_ble_eq_true rfl) dX10_hangs_19 ⟨rfl, _, rfl, (Or.inl rfl), rfl, h⟩
  · have c_1 := c
    have h := h.2 c_1
    refine a_iconst (pc := 14) X9 dX10_hangs_14 ?_
    refine a_goto (pc := 15) (tgt := 19) X9 dX10_hangs_15 rfl ?_
    exact a_ireturn (pc := 19) X9 E rfl (fit_bool (Or.inr rfl)).1 (Nat.le_of_ble_eq_true rfl) (Nat.le_of_ble_eq_true rfl) dX10_hangs_19 ⟨rfl, _, rfl, (Or.inr rfl), rfl, h⟩
set_option maxHeartbeats 4000000 in
set_option maxRecDepth 100000 in
theorem m_X10_allHanging {nn : Nat}  {G : GH} {Q : Int → Prop}  (hnn : 285 ≤ nn) (h : f_X10_allHanging G Q) : Mt yX10_allHanging cX10_allHanging 3 (some .int) 2 42 0 0 [vr 272] (SF nn) G (fun v S' G' => S' = SF nn ∧ qI (fun r9 G9 => G9 = G ∧ Q r9) v S' G') (fun E S' G' => S' = SF nn ∧ False) := by
  refine Mt.of (l0 := [some (vr 272), none, none]) (by decide) (Nat.le_of_ble_eq_true rfl) rfl ?_
  intro κ δ ρ0 X9 E hG
  replace X9 : CX κ δ RX10 cX10_allHanging 3 (some .int) := X9
  refine a_iconst (pc := 0) X9 dX10_allHanging_0 ?_
  refine a_istore_n (pc := 1) X9 dX10_allHanging_1 rfl (Nat.le_of_ble_eq_true rfl) rfl rfl ?_
  refine a_iconst (pc := 2) X9 dX10_allHanging_2 ?_
  refine a_istore_n (pc := 3) X9 dX10_allHanging_3 rfl (Nat.le_of_ble_eq_true rfl) rfl rfl ?_
  refine loopM2 (A := fun x1_1 x2_1 => inR x1_1 → inR x2_1 → AW κ δ ρ0 nn 3 0 0 4 [some (vr 272), some (vi x1_1), some (vi x2_1)] [] (SF nn) G) (fun k_1 hk_1 x1_1 x2_1 h h_x1_1 h_x2_1 => ?_) _ _ h (by decide) (by decide)
  refine a_iload_n (pc := 4) X9 dX10_allHanging_4 rfl rfl ?_
  refine a_bipush (pc := 5) X9 dX10_allHanging_5 rfl ?_
  refine a_icmp_ge (pc := 7) (tgt := 32) X9 dX10_allHanging_7 rfl h_x2_1 (by decide) (fun c => ?_) (fun c => ?_)
  · have c_1 := c
    have h := h.1 c_1
    refine a_iload_n (pc := 32) X9 dX10_allHanging_32 rfl rfl ?_
    exact a_ireturn (pc := 33) X9 E rfl rfl (Nat.le_of_ble_eq_true rfl) (Nat.le_of_ble_eq_true rfl) dX10_allHanging_33 ⟨rfl, _, rfl, h_x1_1, rfl, h⟩
  · have c_1 := c
    have h := h.2 c_1
    refine a_iload_n (pc := 10) X9 dX10_allHanging_10 rfl rfl ?_
    refine a_aload_n (pc := 11) X9 dX10_allHanging_11 rfl rfl ?_
    refine a_iload_n (pc := 12) X9 dX10_allHanging_12 rfl rfl ?_
    refine a_callV (pc := 13) X9 E (m_X10_hangs h_x2_1 hnn h) okX10 (is10 hnn) wM_X10_237 w_instanceMethod_X10_hangs w_selects_X10_hangs w_initialized_RX10 w_code_X10_hangs cp_X10_hangs pn_X10_hangs rfl (Nat.le_of_ble_eq_true rfl) ⟨Nat.le_of_ble_eq_true rfl, Nat.le_of_ble_eq_true rfl⟩ ⟨Nat.le_of_ble_eq_true rfl, Nat.le_of_ble_eq_true rfl⟩ dX10_allHanging_13 (fun _ _ q => False.elim q) (kZp (fun r_1 hr_1 h => ?_))
    refine a_if_eq (pc := 16) (tgt := 23) X9 dX10_allHanging_16 rfl (bool_inR hr_1) (fun c => ?_) (fun c => ?_)
    · have c_2 := c
      have h := h.1 c_2
      refine a_iconst (pc := 23) X9 dX10_allHanging_23 ?_
      refine a_iadd (pc := 24) X9 dX10_allHanging_24 ?_
      refine a_istore_n (pc := 25) X9 dX10_allHanging_25 rfl (Nat.le_of_ble_eq_true rfl) rfl rfl ?_
      refine a_iinc (pc := 26) X9 dX10_allHanging_26 rfl (Nat.le_of_ble_eq_true rfl) rfl rfl ?_
      refine a_goto (pc := 29) (tgt := 4) X9 dX10_allHanging_29 rfl ?_
      obtain ⟨g_1, h⟩ := h
      have q_1 : inR (x2_1) := h_x2_1
      have g_2 : inR ((x2_1 + 1)) := ⟨by omega, by omega⟩
      exact hk_1 _ _ h g_1 g_2
    · have c_2 := c
      have h := h.2 c_2
      refine a_iconst (pc := 19) X9 dX10_allHanging_19 ?_
      refine a_goto (pc := 20) (tgt := 24) X9 dX10_allHanging_20 rfl ?_
      refine a_iadd (pc := 24) X9 dX10_allHanging_24 ?_
      refine a_istore_n (pc := 25) X9 dX10_allHanging_25 rfl (Nat.le_of_ble_eq_true rfl) rfl rfl ?_
      refine a_iinc (pc := 26) X9 dX10_allHanging_26 rfl (Nat.le_of_ble_eq_true rfl) rfl rfl ?_
      refine a_goto (pc := 29) (tgt := 4) X9 dX10_allHanging_29 rfl ?_
      obtain ⟨g_3, h⟩ := h
      have q_2 : inR (x2_1) := h_x2_1
      have g_4 : inR ((x2_1 + 1)) := ⟨by omega, by omega⟩
      exact hk_1 _ _ h g_3 g_4
set_option maxHeartbeats 4000000 in
set_option maxRecDepth 100000 in
theorem m_X10_comesDown {nn : Nat} {i1 : Int} {G : GH} {Q : GH → Prop} (hi1 : inR i1) (hnn : 285 ≤ nn) (h : f_X10_comesDown i1 G Q) : Mt yX10_comesDown cX10_comesDown 3 none 1 21 0 0 [vr 272, vi i1] (SF nn) G (fun v S' G' => S' = SF nn ∧ qV Q v S' G') (fun E S' G' => S' = SF nn ∧ False) := by
  refine Mt.of (l0 := [some (vr 272), some (vi i1), none]) (by decide) (Nat.le_of_ble_eq_true rfl) rfl ?_
  intro κ δ ρ0 X9 E hG
  replace X9 : CX κ δ RX10 cX10_comesDown 3 none := X9
  refine a_iconst (pc := 0) X9 dX10_comesDown_0 ?_
  refine a_istore_n (pc := 1) X9 dX10_comesDown_1 rfl (Nat.le_of_ble_eq_true rfl) rfl rfl ?_
  refine loopM2 (A := fun x2_1 G_1 => inR x2_1 → GR G_1 → AW κ δ ρ0 nn 3 0 0 2 [some (vr 272), some (vi i1), some (vi x2_1)] [] (SF nn) G_1) (fun k_1 hk_1 x2_1 G_1 h h_x2_1 hG_1 => ?_) _ _ h (by decide) hG
  refine a_iload_n (pc := 2) X9 dX10_comesDown_2 rfl rfl ?_
  refine a_iconst (pc := 3) X9 dX10_comesDown_3 ?_
  refine a_icmp_ge (pc := 4) (tgt := 24) X9 dX10_comesDown_4 rfl h_x2_1 (by decide) (fun c => ?_) (fun c => ?_)
  · have c_1 := c
    have h := h.1 c_1
    exact a_return (pc := 24) X9 E (Nat.le_of_ble_eq_true rfl) (Nat.le_of_ble_eq_true rfl) dX10_comesDown_24 ⟨rfl, rfl, h⟩
  · have c_1 := c
    have h := h.2 c_1
    refine a_aload_n (pc := 7) X9 dX10_comesDown_7 rfl rfl ?_
    refine a_getR (pc := 8) X9 (q := 273) okX10 1 rfl wF_X10_9 (is10 hnn) rf10_1 dX10_comesDown_8 ?_
    refine a_iload_n (pc := 11) X9 dX10_comesDown_11 rfl rfl ?_
    refine a_iload_n (pc := 12) X9 dX10_comesDown_12 rfl rfl ?_
    refine a_callS (pc := 13) X9 E (m_X10_placeAt hi1 h_x2_1 hnn h) wM_X10_234 w_static_X10_placeAt w_initialized_RX10 w_code_X10_placeAt cp_X10_placeAt pn_X10_placeAt rfl (Nat.le_of_ble_eq_true rfl) ⟨Nat.le_of_ble_eq_true rfl, Nat.le_of_ble_eq_true rfl⟩ ⟨Nat.le_of_ble_eq_true rfl, Nat.le_of_ble_eq_true rfl⟩ dX10_comesDown_13 (fun _ _ q => False.elim q) (kIp (fun r_1 hr_1 h => ?_))
    refine a_iconst (pc := 16) X9 dX10_comesDown_16 ?_
    obtain ⟨g_1, h⟩ := h
    refine b_iast (pc := 17) X9 (i := r_1) (v := (-1)) (ar10_1 hnn) (Nat.le_of_ble_eq_true rfl) g_1 (by decide) dX10_comesDown_17 ?_
    obtain ⟨G_2, eG_2⟩ : ∃ G9, G9 = upG G_1 273 (r_1).toNat (-1) := ⟨_, rfl⟩
    have hG_2 : GR G_2 := by rw [eG_2]; exact (GR.up hG_1 (by decide))
    have h := h G_2 eG_2
    rw [← eG_2]
    refine a_iinc (pc := 18) X9 dX10_comesDown_18 rfl (Nat.le_of_ble_eq_true rfl) rfl rfl ?_
    refine a_goto (pc := 21) (tgt := 2) X9 dX10_comesDown_21 rfl ?_
    have q_1 : inR (x2_1) := h_x2_1
    have g_2 : inR ((x2_1 + 1)) := ⟨by omega, by omega⟩
    exact hk_1 _ _ h g_2 hG_2
set_option maxHeartbeats 4000000 in
set_option maxRecDepth 100000 in
theorem m_X10_falls {nn : Nat} {i1 : Int} {G : GH} {Q : Int → GH → Prop} (hi1 : inR i1) (hnn : 285 ≤ nn) (h : f_X10_falls i1 G Q) : Mt yX10_falls cX10_falls 5 (some .int) 4 88 0 0 [vr 272, vi i1] (SF nn) G (fun v S' G' => S' = SF nn ∧ qI Q v S' G') (fun E S' G' => S' = SF nn ∧ False) := by
  refine Mt.of (l0 := [some (vr 272), some (vi i1), none, none, none]) (by decide) (Nat.le_of_ble_eq_true rfl) rfl ?_
  intro κ δ ρ0 X9 E hG
  replace X9 : CX κ δ RX10 cX10_falls 5 (some .int) := X9
  refine a_iconst (pc := 0) X9 dX10_falls_0 ?_
  refine a_aload_n (pc := 1) X9 dX10_falls_1 rfl rfl ?_
  refine a_iload_n (pc := 2) X9 dX10_falls_2 rfl rfl ?_
  refine a_callV (pc := 3) X9 E (m_X10_hanging hi1 hnn h) okX10 (is10 hnn) wM_X10_240 w_instanceMethod_X10_hanging w_selects_X10_hanging w_initialized_RX10 w_code_X10_hanging cp_X10_hanging pn_X10_hanging rfl (Nat.le_of_ble_eq_true rfl) ⟨Nat.le_of_ble_eq_true rfl, Nat.le_of_ble_eq_true rfl⟩ ⟨Nat.le_of_ble_eq_true rfl, Nat.le_of_ble_eq_true rfl⟩ dX10_falls_3 (fun _ _ q => False.elim q) (kIp (fun r_1 hr_1 h => ?_))
  refine a_aload_n (pc := 6) X9 dX10_falls_6 rfl rfl ?_
  refine a_iload_n (pc := 7) X9 dX10_falls_7 rfl rfl ?_
  refine a_callV (pc := 8) X9 E (m_X10_count hi1 hnn h) okX10 (is10 hnn) wM_X10_243 w_instanceMethod_X10_count w_selects_X10_count w_initialized_RX10 w_code_X10_count cp_X10_count pn_X10_count rfl (Nat.le_of_ble_eq_true rfl) ⟨Nat.le_of_ble_eq_true rfl, Nat.le_of_ble_eq_true rfl⟩ ⟨Nat.le_of_ble_eq_true rfl, Nat.le_of_ble_eq_true rfl⟩ dX10_falls_8 (fun _ _ q => False.elim q) (kIp (fun r_2 hr_2 h => ?_))
  refine a_isub (pc := 11) X9 dX10_falls_11 ?_
  obtain ⟨g_1, h⟩ := h
  refine b_max (pc := 12) X9 E wM_X10_246 (show inR 0 by decide) g_1 (Nat.le_of_ble_eq_true rfl) (Nat.le_of_ble_eq_true rfl) ⟨Nat.le_of_ble_eq_true rfl, Nat.le_of_ble_eq_true rfl⟩ dX10_falls_12 ?_
  refine a_istore_n (pc := 15) X9 dX10_falls_15 rfl (Nat.le_of_ble_eq_true rfl) rfl rfl ?_
  refine a_iload_n (pc := 16) X9 dX10_falls_16 rfl rfl ?_
  refine a_istore_n (pc := 17) X9 dX10_falls_17 rfl (Nat.le_of_ble_eq_true rfl) rfl rfl ?_
  refine a_bipush (pc := 18) X9 dX10_falls_18 rfl ?_
  refine a_istore (pc := 20) X9 dX10_falls_20 (Nat.le_of_ble_eq_true rfl) rfl rfl ?_
  refine loopM3 (A := fun x3_1 x4_1 G_1 => inR x3_1 → inR x4_1 → GR G_1 → AW κ δ ρ0 nn 5 0 0 22 [some (vr 272), some (vi i1), some (vi (max 0 (r_1 - r_2))), some (vi x3_1), some (vi x4_1)] [] (SF nn) G_1) (fun k_1 hk_1 x3_1 x4_1 G_1 h h_x3_1 h_x4_1 hG_1 => ?_) _ _ _ h (inR_max (show inR 0 by decide) g_1) (by decide) hG
  refine a_iload (pc := 22) X9 dX10_falls_22 rfl ?_
  refine a_if_lt (pc := 24) (tgt := 64) X9 dX10_falls_24 rfl h_x4_1 (fun c => ?_) (fun c => ?_)
  · have c_1 := c
    have h := h.1 c_1
    refine a_iload_n (pc := 64) X9 dX10_falls_64 rfl rfl ?_
    exact a_ireturn (pc := 65) X9 E rfl rfl (Nat.le_of_ble_eq_true rfl) (Nat.le_of_ble_eq_true rfl) dX10_falls_65 ⟨rfl, _, rfl, (inR_max (show inR 0 by decide) g_1), h⟩
  · have c_1 := c
    have h := h.2 c_1
    refine a_iload_n (pc := 27) X9 dX10_falls_27 rfl rfl ?_
    refine a_if_le (pc := 28) (tgt := 64) X9 dX10_falls_28 rfl h_x3_1 (fun c => ?_) (fun c => ?_)
    · have c_2 := c
      have h := h.1 c_2
      refine a_iload_n (pc := 64) X9 dX10_falls_64 rfl rfl ?_
      exact a_ireturn (pc := 65) X9 E rfl rfl (Nat.le_of_ble_eq_true rfl) (Nat.le_of_ble_eq_true rfl) dX10_falls_65 ⟨rfl, _, rfl, (inR_max (show inR 0 by decide) g_1), h⟩
    · have c_2 := c
      have h := h.2 c_2
      refine a_aload_n (pc := 31) X9 dX10_falls_31 rfl rfl ?_
      refine a_getR (pc := 32) X9 (q := 273) okX10 1 rfl wF_X10_9 (is10 hnn) rf10_1 dX10_falls_32 ?_
      refine a_iload (pc := 35) X9 dX10_falls_35 rfl ?_
      refine a_iconst (pc := 37) X9 dX10_falls_37 ?_
      refine a_callS (pc := 38) X9 E (m_X10_placeAt h_x4_1 (show inR 1 by decide) hnn h) wM_X10_234 w_static_X10_placeAt w_initialized_RX10 w_code_X10_placeAt cp_X10_placeAt pn_X10_placeAt rfl (Nat.le_of_ble_eq_true rfl) ⟨Nat.le_of_ble_eq_true rfl, Nat.le_of_ble_eq_true rfl⟩ ⟨Nat.le_of_ble_eq_true rfl, Nat.le_of_ble_eq_true rfl⟩ dX10_falls_38 (fun _ _ q => False.elim q) (kIp (fun r_3 hr_3 h => ?_))
      obtain ⟨g_2, h⟩ := h
      refine b_iald (pc := 41) X9 (ar10_1 hnn) (Nat.le_of_ble_eq_true rfl) g_2 dX10_falls_41 ?_
      refine a_iload_n (pc := 42) X9 dX10_falls_42 rfl rfl ?_
      refine a_icmp_eq (pc := 43) (tgt := 49) X9 dX10_falls_43 rfl (hG_1 _ _) hi1 (fun c => ?_) (fun c => ?_)
      · have c_3 := c
        have h := h.1 c_3
        refine a_aload_n (pc := 49) X9 dX10_falls_49 rfl rfl ?_
        refine a_iload (pc := 50) X9 dX10_falls_50 rfl ?_
        refine a_callV (pc := 52) X9 E (m_X10_comesDown h_x4_1 hnn h) okX10 (is10 hnn) wM_X10_251 w_instanceMethod_X10_comesDown w_selects_X10_comesDown w_initialized_RX10 w_code_X10_comesDown cp_X10_comesDown pn_X10_comesDown rfl (Nat.le_of_ble_eq_true rfl) ⟨Nat.le_of_ble_eq_true rfl, Nat.le_of_ble_eq_true rfl⟩ ⟨Nat.le_of_ble_eq_true rfl, Nat.le_of_ble_eq_true rfl⟩ dX10_falls_52 (fun _ _ q => False.elim q) (kV (fun G_2 h hG_2 => ?_))
        refine a_iinc (pc := 55) X9 dX10_falls_55 rfl (Nat.le_of_ble_eq_true rfl) rfl rfl ?_
        refine a_iinc (pc := 58) X9 dX10_falls_58 rfl (Nat.le_of_ble_eq_true rfl) rfl rfl ?_
        refine a_goto (pc := 61) (tgt := 22) X9 dX10_falls_61 rfl ?_
        have q_1 : inR (x3_1) := h_x3_1
        have g_3 : inR ((x3_1 + (-1))) := ⟨by omega, by omega⟩
        have q_2 : inR (x4_1) := h_x4_1
        have g_4 : inR ((x4_1 + (-1))) := ⟨by omega, by omega⟩
        exact hk_1 _ _ _ h g_3 g_4 hG_2
      · have c_3 := c
        have h := h.2 c_3
        refine a_goto (pc := 46) (tgt := 58) X9 dX10_falls_46 rfl ?_
        refine a_iinc (pc := 58) X9 dX10_falls_58 rfl (Nat.le_of_ble_eq_true rfl) rfl rfl ?_
        refine a_goto (pc := 61) (tgt := 22) X9 dX10_falls_61 rfl ?_
        have q_3 : inR (x4_1) := h_x4_1
        have g_5 : inR ((x4_1 + (-1))) := ⟨by omega, by omega⟩
        exact hk_1 _ _ _ h h_x3_1 g_5 hG_1
set_option maxHeartbeats 4000000 in
set_option maxRecDepth 100000 in
theorem m_X10_allFall {nn : Nat}  {G : GH} {Q : Int → GH → Prop}  (hnn : 285 ≤ nn) (h : f_X10_allFall G Q) : Mt yX10_allFall cX10_allFall 3 (some .int) 5 112 0 0 [vr 272] (SF nn) G (fun v S' G' => S' = SF nn ∧ qI Q v S' G') (fun E S' G' => S' = SF nn ∧ False) := by
  refine Mt.of (l0 := [some (vr 272), none, none]) (by decide) (Nat.le_of_ble_eq_true rfl) rfl ?_
  intro κ δ ρ0 X9 E hG
  replace X9 : CX κ δ RX10 cX10_allFall 3 (some .int) := X9
  refine a_iconst (pc := 0) X9 dX10_allFall_0 ?_
  refine a_istore_n (pc := 1) X9 dX10_allFall_1 rfl (Nat.le_of_ble_eq_true rfl) rfl rfl ?_
  refine a_iconst (pc := 2) X9 dX10_allFall_2 ?_
  refine a_istore_n (pc := 3) X9 dX10_allFall_3 rfl (Nat.le_of_ble_eq_true rfl) rfl rfl ?_
  refine loopM3 (A := fun x1_1 x2_1 G_1 => inR x1_1 → inR x2_1 → GR G_1 → AW κ δ ρ0 nn 3 0 0 4 [some (vr 272), some (vi x1_1), some (vi x2_1)] [] (SF nn) G_1) (fun k_1 hk_1 x1_1 x2_1 G_1 h h_x1_1 h_x2_1 hG_1 => ?_) _ _ _ h (by decide) (by decide) hG
  refine a_iload_n (pc := 4) X9 dX10_allFall_4 rfl rfl ?_
  refine a_bipush (pc := 5) X9 dX10_allFall_5 rfl ?_
  refine a_icmp_ge (pc := 7) (tgt := 24) X9 dX10_allFall_7 rfl h_x2_1 (by decide) (fun c => ?_) (fun c => ?_)
  · have c_1 := c
    have h := h.1 c_1
    refine a_iload_n (pc := 24) X9 dX10_allFall_24 rfl rfl ?_
    exact a_ireturn (pc := 25) X9 E rfl rfl (Nat.le_of_ble_eq_true rfl) (Nat.le_of_ble_eq_true rfl) dX10_allFall_25 ⟨rfl, _, rfl, h_x1_1, h⟩
  · have c_1 := c
    have h := h.2 c_1
    refine a_iload_n (pc := 10) X9 dX10_allFall_10 rfl rfl ?_
    refine a_aload_n (pc := 11) X9 dX10_allFall_11 rfl rfl ?_
    refine a_iload_n (pc := 12) X9 dX10_allFall_12 rfl rfl ?_
    refine a_callV (pc := 13) X9 E (m_X10_falls h_x2_1 hnn h) okX10 (is10 hnn) wM_X10_255 w_instanceMethod_X10_falls w_selects_X10_falls w_initialized_RX10 w_code_X10_falls cp_X10_falls pn_X10_falls rfl (Nat.le_of_ble_eq_true rfl) ⟨Nat.le_of_ble_eq_true rfl, Nat.le_of_ble_eq_true rfl⟩ ⟨Nat.le_of_ble_eq_true rfl, Nat.le_of_ble_eq_true rfl⟩ dX10_allFall_13 (fun _ _ q => False.elim q) (kI (fun r_1 G_2 hr_1 h hG_2 => ?_))
    refine a_iadd (pc := 16) X9 dX10_allFall_16 ?_
    refine a_istore_n (pc := 17) X9 dX10_allFall_17 rfl (Nat.le_of_ble_eq_true rfl) rfl rfl ?_
    refine a_iinc (pc := 18) X9 dX10_allFall_18 rfl (Nat.le_of_ble_eq_true rfl) rfl rfl ?_
    refine a_goto (pc := 21) (tgt := 4) X9 dX10_allFall_21 rfl ?_
    obtain ⟨g_1, h⟩ := h
    have q_1 : inR (x2_1) := h_x2_1
    have g_2 : inR ((x2_1 + 1)) := ⟨by omega, by omega⟩
    exact hk_1 _ _ _ h g_1 g_2 hG_2
set_option maxHeartbeats 4000000 in
set_option maxRecDepth 100000 in
theorem m_X10_shows {nn : Nat} {i1 : Int} {G : GH} {Q : Int → Prop} (hi1 : inR i1) (hnn : 285 ≤ nn) (h : f_X10_shows i1 G Q) : Mt yX10_shows cX10_shows 4 (some .int) 3 65 0 0 [vr 272, vi i1] (SF nn) G (fun v S' G' => S' = SF nn ∧ qI (fun r9 G9 => G9 = G ∧ Q r9) v S' G') (fun E S' G' => S' = SF nn ∧ False) := by
  refine Mt.of (l0 := [some (vr 272), some (vi i1), none, none]) (by decide) (Nat.le_of_ble_eq_true rfl) rfl ?_
  intro κ δ ρ0 X9 E hG
  replace X9 : CX κ δ RX10 cX10_shows 4 (some .int) := X9
  refine a_iconst (pc := 0) X9 dX10_shows_0 ?_
  refine a_istore_n (pc := 1) X9 dX10_shows_1 rfl (Nat.le_of_ble_eq_true rfl) rfl rfl ?_
  refine a_iconst (pc := 2) X9 dX10_shows_2 ?_
  refine a_istore_n (pc := 3) X9 dX10_shows_3 rfl (Nat.le_of_ble_eq_true rfl) rfl rfl ?_
  refine loopM2 (A := fun x2_1 x3_1 => inR x2_1 → inR x3_1 → AW κ δ ρ0 nn 4 0 0 4 [some (vr 272), some (vi i1), some (vi x2_1), some (vi x3_1)] [] (SF nn) G) (fun k_1 hk_1 x2_1 x3_1 h h_x2_1 h_x3_1 => ?_) _ _ h (by decide) (by decide)
  refine a_iload_n (pc := 4) X9 dX10_shows_4 rfl rfl ?_
  refine a_bipush (pc := 5) X9 dX10_shows_5 rfl ?_
  refine a_icmp_ge (pc := 7) (tgt := 36) X9 dX10_shows_7 rfl h_x3_1 (by decide) (fun c => ?_) (fun c => ?_)
  · have c_1 := c
    have h := h.1 c_1
    refine a_iload_n (pc := 36) X9 dX10_shows_36 rfl rfl ?_
    exact a_ireturn (pc := 37) X9 E rfl rfl (Nat.le_of_ble_eq_true rfl) (Nat.le_of_ble_eq_true rfl) dX10_shows_37 ⟨rfl, _, rfl, h_x2_1, rfl, h⟩
  · have c_1 := c
    have h := h.2 c_1
    refine a_iload_n (pc := 10) X9 dX10_shows_10 rfl rfl ?_
    refine a_aload_n (pc := 11) X9 dX10_shows_11 rfl rfl ?_
    refine a_iload_n (pc := 12) X9 dX10_shows_12 rfl rfl ?_
    refine a_iload_n (pc := 13) X9 dX10_shows_13 rfl rfl ?_
    refine a_callV (pc := 14) X9 E (m_X10_wayOf hi1 h_x3_1 hnn h) okX10 (is10 hnn) wM_X10_258 w_instanceMethod_X10_wayOf w_selects_X10_wayOf w_initialized_RX10 w_code_X10_wayOf cp_X10_wayOf pn_X10_wayOf rfl (Nat.le_of_ble_eq_true rfl) ⟨Nat.le_of_ble_eq_true rfl, Nat.le_of_ble_eq_true rfl⟩ ⟨Nat.le_of_ble_eq_true rfl, Nat.le_of_ble_eq_true rfl⟩ dX10_shows_14 (fun _ _ q => False.elim q) (kIp (fun r_1 hr_1 h => ?_))
    refine a_iconst (pc := 17) X9 dX10_shows_17 ?_
    refine a_icmp_eq (pc := 18) (tgt := 27) X9 dX10_shows_18 rfl hr_1 (by decide) (fun c => ?_) (fun c => ?_)
    · have c_2 := c
      have h := h.1 c_2
      refine a_iconst (pc := 27) X9 dX10_shows_27 ?_
      refine b_ior (pc := 28) X9 dX10_shows_28 ?_
      refine a_istore_n (pc := 29) X9 dX10_shows_29 rfl (Nat.le_of_ble_eq_true rfl) rfl rfl ?_
      refine a_iinc (pc := 30) X9 dX10_shows_30 rfl (Nat.le_of_ble_eq_true rfl) rfl rfl ?_
      refine a_goto (pc := 33) (tgt := 4) X9 dX10_shows_33 rfl ?_
      have q_1 : inR (x3_1) := h_x3_1
      have g_1 : inR ((x3_1 + 1)) := ⟨by omega, by omega⟩
      exact hk_1 _ _ h inR_zOr g_1
    · have c_2 := c
      have h := h.2 c_2
      refine a_iconst (pc := 21) X9 dX10_shows_21 ?_
      refine a_iload_n (pc := 22) X9 dX10_shows_22 rfl rfl ?_
      refine b_ishl (pc := 23) X9 dX10_shows_23 ?_
      refine a_goto (pc := 24) (tgt := 28) X9 dX10_shows_24 rfl ?_
      refine b_ior (pc := 28) X9 dX10_shows_28 ?_
      refine a_istore_n (pc := 29) X9 dX10_shows_29 rfl (Nat.le_of_ble_eq_true rfl) rfl rfl ?_
      refine a_iinc (pc := 30) X9 dX10_shows_30 rfl (Nat.le_of_ble_eq_true rfl) rfl rfl ?_
      refine a_goto (pc := 33) (tgt := 4) X9 dX10_shows_33 rfl ?_
      have q_2 : inR (x3_1) := h_x3_1
      have g_2 : inR ((x3_1 + 1)) := ⟨by omega, by omega⟩
      exact hk_1 _ _ h inR_zOr g_2
set_option maxHeartbeats 4000000 in
set_option maxRecDepth 100000 in
theorem m_X10_brings {nn : Nat} {i1 : Int} {i2 : Int} {G : GH} {Q : GH → Prop} (hi1 : inR i1) (hi2 : inR i2) (hnn : 285 ≤ nn) (h : f_X10_brings i1 i2 G Q) : Mt yX10_brings cX10_brings 4 none 0 0 0 0 [vr 272, vi i1, vi i2] (SF nn) G (fun v S' G' => S' = SF nn ∧ qV Q v S' G') (fun E S' G' => S' = SF nn ∧ False) := by
  refine Mt.of (l0 := [some (vr 272), some (vi i1), some (vi i2), none]) (by decide) (Nat.le_of_ble_eq_true rfl) rfl ?_
  intro κ δ ρ0 X9 E hG
  replace X9 : CX κ δ RX10 cX10_brings 4 none := X9
  refine a_iconst (pc := 0) X9 dX10_brings_0 ?_
  refine a_istore_n (pc := 1) X9 dX10_brings_1 rfl (Nat.le_of_ble_eq_true rfl) rfl rfl ?_
  refine loopM2 (A := fun x3_1 G_1 => inR x3_1 → GR G_1 → AW κ δ ρ0 nn 4 0 0 2 [some (vr 272), some (vi i1), some (vi i2), some (vi x3_1)] [] (SF nn) G_1) (fun k_1 hk_1 x3_1 G_1 h h_x3_1 hG_1 => ?_) _ _ h (by decide) hG
  refine a_iload_n (pc := 2) X9 dX10_brings_2 rfl rfl ?_
  refine a_sipush (pc := 3) X9 dX10_brings_3 rfl ?_
  refine a_icmp_ge (pc := 6) (tgt := 35) X9 dX10_brings_6 rfl h_x3_1 (by decide) (fun c => ?_) (fun c => ?_)
  · have c_1 := c
    have h := h.1 c_1
    exact a_return (pc := 35) X9 E (Nat.le_of_ble_eq_true rfl) (Nat.le_of_ble_eq_true rfl) dX10_brings_35 ⟨rfl, rfl, h⟩
  · have c_1 := c
    have h := h.2 c_1
    refine a_aload_n (pc := 9) X9 dX10_brings_9 rfl rfl ?_
    refine a_getR (pc := 10) X9 (q := 280) okX10 18 rfl wF_X10_40 (is10 hnn) rf10_18 dX10_brings_10 ?_
    refine a_iload_n (pc := 13) X9 dX10_brings_13 rfl rfl ?_
    refine a_dup2 (pc := 14) X9 dX10_brings_14 rfl rfl ?_
    obtain ⟨g_1, h⟩ := h
    refine b_iald (pc := 15) X9 (ar10_18 hnn) (Nat.le_of_ble_eq_true rfl) g_1 dX10_brings_15 ?_
    refine a_iload_n (pc := 16) X9 dX10_brings_16 rfl rfl ?_
    refine a_iload_n (pc := 17) X9 dX10_brings_17 rfl rfl ?_
    refine b_iand (pc := 18) X9 dX10_brings_18 ?_
    refine a_if_eq (pc := 19) (tgt := 26) X9 dX10_brings_19 rfl inR_zAnd (fun c => ?_) (fun c => ?_)
    · have c_2 := c
      have h := h.1 c_2
      refine a_iconst (pc := 26) X9 dX10_brings_26 ?_
      refine a_iadd (pc := 27) X9 dX10_brings_27 ?_
      obtain ⟨g_2, h⟩ := h
      refine b_iast (pc := 28) X9 (i := x3_1) (v := ((G_1 280 (x3_1).toNat) + 0)) (ar10_18 hnn) (Nat.le_of_ble_eq_true rfl) g_1 g_2 dX10_brings_28 ?_
      obtain ⟨G_2, eG_2⟩ : ∃ G9, G9 = upG G_1 280 (x3_1).toNat ((G_1 280 (x3_1).toNat) + 0) := ⟨_, rfl⟩
      have hG_2 : GR G_2 := by rw [eG_2]; exact (GR.up hG_1 g_2)
      have h := h G_2 eG_2
      rw [← eG_2]
      refine a_iinc (pc := 29) X9 dX10_brings_29 rfl (Nat.le_of_ble_eq_true rfl) rfl rfl ?_
      refine a_goto (pc := 32) (tgt := 2) X9 dX10_brings_32 rfl ?_
      have q_1 : inR (x3_1) := h_x3_1
      have g_3 : inR ((x3_1 + 1)) := ⟨by omega, by omega⟩
      exact hk_1 _ _ h g_3 hG_2
    · have c_2 := c
      have h := h.2 c_2
      refine a_iload_n (pc := 22) X9 dX10_brings_22 rfl rfl ?_
      refine a_goto (pc := 23) (tgt := 27) X9 dX10_brings_23 rfl ?_
      refine a_iadd (pc := 27) X9 dX10_brings_27 ?_
      obtain ⟨g_4, h⟩ := h
      refine b_iast (pc := 28) X9 (i := x3_1) (v := ((G_1 280 (x3_1).toNat) + i2)) (ar10_18 hnn) (Nat.le_of_ble_eq_true rfl) g_1 g_4 dX10_brings_28 ?_
      obtain ⟨G_3, eG_3⟩ : ∃ G9, G9 = upG G_1 280 (x3_1).toNat ((G_1 280 (x3_1).toNat) + i2) := ⟨_, rfl⟩
      have hG_3 : GR G_3 := by rw [eG_3]; exact (GR.up hG_1 g_4)
      have h := h G_3 eG_3
      rw [← eG_3]
      refine a_iinc (pc := 29) X9 dX10_brings_29 rfl (Nat.le_of_ble_eq_true rfl) rfl rfl ?_
      refine a_goto (pc := 32) (tgt := 2) X9 dX10_brings_32 rfl ?_
      have q_2 : inR (x3_1) := h_x3_1
      have g_5 : inR ((x3_1 + 1)) := ⟨by omega, by omega⟩
      exact hk_1 _ _ h g_5 hG_3
set_option maxHeartbeats 4000000 in
set_option maxRecDepth 100000 in
theorem m_X10_wants {nn : Nat} {i1 : Int} {i2 : Int} {G : GH} {Q : GH → Prop} (hi1 : inR i1) (hi2 : inR i2) (hnn : 285 ≤ nn) (h : f_X10_wants i1 i2 G Q) : Mt yX10_wants cX10_wants 4 none 0 0 0 0 [vr 272, vi i1, vi i2] (SF nn) G (fun v S' G' => S' = SF nn ∧ qV Q v S' G') (fun E S' G' => S' = SF nn ∧ False) := by
  refine Mt.of (l0 := [some (vr 272), some (vi i1), some (vi i2), none]) (by decide) (Nat.le_of_ble_eq_true rfl) rfl ?_
  intro κ δ ρ0 X9 E hG
  replace X9 : CX κ δ RX10 cX10_wants 4 none := X9
  refine a_iconst (pc := 0) X9 dX10_wants_0 ?_
  refine a_istore_n (pc := 1) X9 dX10_wants_1 rfl (Nat.le_of_ble_eq_true rfl) rfl rfl ?_
  refine loopM2 (A := fun x3_1 G_1 => inR x3_1 → GR G_1 → AW κ δ ρ0 nn 4 0 0 2 [some (vr 272), some (vi i1), some (vi i2), some (vi x3_1)] [] (SF nn) G_1) (fun k_1 hk_1 x3_1 G_1 h h_x3_1 hG_1 => ?_) _ _ h (by decide) hG
  refine a_iload_n (pc := 2) X9 dX10_wants_2 rfl rfl ?_
  refine a_sipush (pc := 3) X9 dX10_wants_3 rfl ?_
  refine a_icmp_ge (pc := 6) (tgt := 38) X9 dX10_wants_6 rfl h_x3_1 (by decide) (fun c => ?_) (fun c => ?_)
  · have c_1 := c
    have h := h.1 c_1
    exact a_return (pc := 38) X9 E (Nat.le_of_ble_eq_true rfl) (Nat.le_of_ble_eq_true rfl) dX10_wants_38 ⟨rfl, rfl, h⟩
  · have c_1 := c
    have h := h.2 c_1
    refine a_aload_n (pc := 9) X9 dX10_wants_9 rfl rfl ?_
    refine a_getR (pc := 10) X9 (q := 281) okX10 19 rfl wF_X10_43 (is10 hnn) rf10_19 dX10_wants_10 ?_
    refine a_iload_n (pc := 13) X9 dX10_wants_13 rfl rfl ?_
    refine a_dup2 (pc := 14) X9 dX10_wants_14 rfl rfl ?_
    obtain ⟨g_1, h⟩ := h
    refine b_iald (pc := 15) X9 (ar10_19 hnn) (Nat.le_of_ble_eq_true rfl) g_1 dX10_wants_15 ?_
    refine a_iload_n (pc := 16) X9 dX10_wants_16 rfl rfl ?_
    refine a_iload_n (pc := 17) X9 dX10_wants_17 rfl rfl ?_
    refine b_ishr (pc := 18) X9 dX10_wants_18 ?_
    refine a_iconst (pc := 19) X9 dX10_wants_19 ?_
    refine b_iand (pc := 20) X9 dX10_wants_20 ?_
    refine a_iconst (pc := 21) X9 dX10_wants_21 ?_
    refine a_icmp_ne (pc := 22) (tgt := 29) X9 dX10_wants_22 rfl inR_zAnd (by decide) (fun c => ?_) (fun c => ?_)
    · have c_2 := c
      have h := h.1 c_2
      refine a_iconst (pc := 29) X9 dX10_wants_29 ?_
      refine a_iadd (pc := 30) X9 dX10_wants_30 ?_
      obtain ⟨g_2, h⟩ := h
      refine b_iast (pc := 31) X9 (i := x3_1) (v := ((G_1 281 (x3_1).toNat) + 0)) (ar10_19 hnn) (Nat.le_of_ble_eq_true rfl) g_1 g_2 dX10_wants_31 ?_
      obtain ⟨G_2, eG_2⟩ : ∃ G9, G9 = upG G_1 281 (x3_1).toNat ((G_1 281 (x3_1).toNat) + 0) := ⟨_, rfl⟩
      have hG_2 : GR G_2 := by rw [eG_2]; exact (GR.up hG_1 g_2)
      have h := h G_2 eG_2
      rw [← eG_2]
      refine a_iinc (pc := 32) X9 dX10_wants_32 rfl (Nat.le_of_ble_eq_true rfl) rfl rfl ?_
      refine a_goto (pc := 35) (tgt := 2) X9 dX10_wants_35 rfl ?_
      have q_1 : inR (x3_1) := h_x3_1
      have g_3 : inR ((x3_1 + 1)) := ⟨by omega, by omega⟩
      exact hk_1 _ _ h g_3 hG_2
    · have c_2 := c
      have h := h.2 c_2
      refine a_iload_n (pc := 25) X9 dX10_wants_25 rfl rfl ?_
      refine a_goto (pc := 26) (tgt := 30) X9 dX10_wants_26 rfl ?_
      refine a_iadd (pc := 30) X9 dX10_wants_30 ?_
      obtain ⟨g_4, h⟩ := h
      refine b_iast (pc := 31) X9 (i := x3_1) (v := ((G_1 281 (x3_1).toNat) + i2)) (ar10_19 hnn) (Nat.le_of_ble_eq_true rfl) g_1 g_4 dX10_wants_31 ?_
      obtain ⟨G_3, eG_3⟩ : ∃ G9, G9 = upG G_1 281 (x3_1).toNat ((G_1 281 (x3_1).toNat) + i2) := ⟨_, rfl⟩
      have hG_3 : GR G_3 := by rw [eG_3]; exact (GR.up hG_1 g_4)
      have h := h G_3 eG_3
      rw [← eG_3]
      refine a_iinc (pc := 32) X9 dX10_wants_32 rfl (Nat.le_of_ble_eq_true rfl) rfl rfl ?_
      refine a_goto (pc := 35) (tgt := 2) X9 dX10_wants_35 rfl ?_
      have q_2 : inR (x3_1) := h_x3_1
      have g_5 : inR ((x3_1 + 1)) := ⟨by omega, by omega⟩
      exact hk_1 _ _ h g_5 hG_3
set_option maxHeartbeats 4000000 in
set_option maxRecDepth 100000 in
theorem m_X10_wantsHymn {nn : Nat} {i1 : Int} {i2 : Int} {G : GH} {Q : GH → Prop} (hi1 : inR i1) (hi2 : inR i2) (hnn : 285 ≤ nn) (h : f_X10_wantsHymn i1 i2 G Q) : Mt yX10_wantsHymn cX10_wantsHymn 4 none 1 23 0 0 [vr 272, vi i1, vi i2] (SF nn) G (fun v S' G' => S' = SF nn ∧ qV Q v S' G') (fun E S' G' => S' = SF nn ∧ False) := by
  refine Mt.of (l0 := [some (vr 272), some (vi i1), some (vi i2), none]) (by decide) (Nat.le_of_ble_eq_true rfl) rfl ?_
  intro κ δ ρ0 X9 E hG
  replace X9 : CX κ δ RX10 cX10_wantsHymn 4 none := X9
  refine a_iload_n (pc := 0) X9 dX10_wantsHymn_0 rfl rfl ?_
  refine a_istore_n (pc := 1) X9 dX10_wantsHymn_1 rfl (Nat.le_of_ble_eq_true rfl) rfl rfl ?_
  refine loopM2 (A := fun x3_1 G_1 => inR x3_1 → GR G_1 → AW κ δ ρ0 nn 4 0 0 2 [some (vr 272), some (vi i1), some (vi i2), some (vi x3_1)] [] (SF nn) G_1) (fun k_1 hk_1 x3_1 G_1 h h_x3_1 hG_1 => ?_) _ _ h hi1 hG
  refine a_iload_n (pc := 2) X9 dX10_wantsHymn_2 rfl rfl ?_
  refine a_if_le (pc := 3) (tgt := 23) X9 dX10_wantsHymn_3 rfl h_x3_1 (fun c => ?_) (fun c => ?_)
  · have c_1 := c
    have h := h.1 c_1
    exact a_return (pc := 23) X9 E (Nat.le_of_ble_eq_true rfl) (Nat.le_of_ble_eq_true rfl) dX10_wantsHymn_23 ⟨rfl, rfl, h⟩
  · have c_1 := c
    have h := h.2 c_1
    refine a_aload_n (pc := 6) X9 dX10_wantsHymn_6 rfl rfl ?_
    refine a_iload_n (pc := 7) X9 dX10_wantsHymn_7 rfl rfl ?_
    refine a_bipush (pc := 8) X9 dX10_wantsHymn_8 rfl ?_
    obtain ⟨g_1, h⟩ := h
    refine a_irem (pc := 10) X9 dX10_wantsHymn_10 ⟨g_1, h_x3_1.2⟩ ⟨(by decide), (by decide)⟩ ?_
    refine a_iload_n (pc := 11) X9 dX10_wantsHymn_11 rfl rfl ?_
    refine a_callV (pc := 12) X9 E (m_X10_wants (inR_mod g_1 (by decide) (by decide)) hi2 hnn h) okX10 (is10 hnn) wM_X10_261 w_instanceMethod_X10_wants w_selects_X10_wants w_initialized_RX10 w_code_X10_wants cp_X10_wants pn_X10_wants rfl (Nat.le_of_ble_eq_true rfl) ⟨Nat.le_of_ble_eq_true rfl, Nat.le_of_ble_eq_true rfl⟩ ⟨Nat.le_of_ble_eq_true rfl, Nat.le_of_ble_eq_true rfl⟩ dX10_wantsHymn_12 (fun _ _ q => False.elim q) (kV (fun G_2 h hG_2 => ?_))
    refine a_iload_n (pc := 15) X9 dX10_wantsHymn_15 rfl rfl ?_
    refine a_bipush (pc := 16) X9 dX10_wantsHymn_16 rfl ?_
    refine a_idiv (pc := 18) X9 dX10_wantsHymn_18 ⟨g_1, h_x3_1.2⟩ ⟨(by decide), (by decide)⟩ ?_
    refine a_istore_n (pc := 19) X9 dX10_wantsHymn_19 rfl (Nat.le_of_ble_eq_true rfl) rfl rfl ?_
    refine a_goto (pc := 20) (tgt := 2) X9 dX10_wantsHymn_20 rfl ?_
    exact hk_1 _ _ h (inR_div h_x3_1 g_1 (by decide)) hG_2
set_option maxHeartbeats 4000000 in
set_option maxRecDepth 100000 in
theorem m_X10_laysCards {nn : Nat} {i1 : Int} {G : GH} {Q : GH → Prop} (hi1 : inR i1) (hnn : 285 ≤ nn) (h : f_X10_laysCards i1 G Q) : Mt yX10_laysCards cX10_laysCards 3 none 4 88 0 0 [vr 272, vi i1] (SF nn) G (fun v S' G' => S' = SF nn ∧ qV Q v S' G') (fun E S' G' => S' = SF nn ∧ False) := by
  refine Mt.of (l0 := [some (vr 272), some (vi i1), none]) (by decide) (Nat.le_of_ble_eq_true rfl) rfl ?_
  intro κ δ ρ0 X9 E hG
  replace X9 : CX κ δ RX10 cX10_laysCards 3 none := X9
  refine a_iconst (pc := 0) X9 dX10_laysCards_0 ?_
  refine a_istore_n (pc := 1) X9 dX10_laysCards_1 rfl (Nat.le_of_ble_eq_true rfl) rfl rfl ?_
  refine loopM2 (A := fun x2_1 G_1 => inR x2_1 → GR G_1 → AW κ δ ρ0 nn 3 0 0 2 [some (vr 272), some (vi i1), some (vi x2_1)] [] (SF nn) G_1) (fun k_1 hk_1 x2_1 G_1 h h_x2_1 hG_1 => ?_) _ _ h (by decide) hG
  refine a_iload_n (pc := 2) X9 dX10_laysCards_2 rfl rfl ?_
  refine a_sipush (pc := 3) X9 dX10_laysCards_3 rfl ?_
  refine a_icmp_ge (pc := 6) (tgt := 29) X9 dX10_laysCards_6 rfl h_x2_1 (by decide) (fun c => ?_) (fun c => ?_)
  · have c_1 := c
    have h := h.1 c_1
    refine a_iconst (pc := 29) X9 dX10_laysCards_29 ?_
    refine a_istore_n (pc := 30) X9 dX10_laysCards_30 rfl (Nat.le_of_ble_eq_true rfl) rfl rfl ?_
    refine loopM2 (A := fun x2_2 G_2 => inR x2_2 → GR G_2 → AW κ δ ρ0 nn 3 0 0 31 [some (vr 272), some (vi i1), some (vi x2_2)] [] (SF nn) G_2) (fun k_2 hk_2 x2_2 G_2 h h_x2_2 hG_2 => ?_) _ _ h (by decide) hG_1
    refine a_iload_n (pc := 31) X9 dX10_laysCards_31 rfl rfl ?_
    refine a_bipush (pc := 32) X9 dX10_laysCards_32 rfl ?_
    refine a_icmp_ge (pc := 34) (tgt := 92) X9 dX10_laysCards_34 rfl h_x2_2 (by decide) (fun c => ?_) (fun c => ?_)
    · have c_2 := c
      have h := h.1 c_2
      exact a_return (pc := 92) X9 E (Nat.le_of_ble_eq_true rfl) (Nat.le_of_ble_eq_true rfl) dX10_laysCards_92 ⟨rfl, rfl, h⟩
    · have c_2 := c
      have h := h.2 c_2
      refine a_aload_n (pc := 37) X9 dX10_laysCards_37 rfl rfl ?_
      refine a_getR (pc := 38) X9 (q := 282) okX10 20 rfl wF_X10_46 (is10 hnn) rf10_20 dX10_laysCards_38 ?_
      refine a_iload_n (pc := 41) X9 dX10_laysCards_41 rfl rfl ?_
      refine a_aload_n (pc := 42) X9 dX10_laysCards_42 rfl rfl ?_
      refine a_iload_n (pc := 43) X9 dX10_laysCards_43 rfl rfl ?_
      refine a_callV (pc := 44) X9 E (m_X10_count h_x2_2 hnn h) okX10 (is10 hnn) wM_X10_243 w_instanceMethod_X10_count w_selects_X10_count w_initialized_RX10 w_code_X10_count cp_X10_count pn_X10_count rfl (Nat.le_of_ble_eq_true rfl) ⟨Nat.le_of_ble_eq_true rfl, Nat.le_of_ble_eq_true rfl⟩ ⟨Nat.le_of_ble_eq_true rfl, Nat.le_of_ble_eq_true rfl⟩ dX10_laysCards_44 (fun _ _ q => False.elim q) (kIp (fun r_1 hr_1 h => ?_))
      refine a_iload_n (pc := 47) X9 dX10_laysCards_47 rfl rfl ?_
      refine joinM1 (A := fun v_1 => inR v_1 → AW κ δ ρ0 nn 3 0 0 60 [some (vr 272), some (vi i1), some (vi x2_2)] [vi v_1, vi r_1, vi x2_2, vr 282] (SF nn) G_2) (fun v_1 h h_v_1 => ?_) (fun j_1 hj_1 h => ?_) h
      · refine a_isub (pc := 60) X9 dX10_laysCards_60 ?_
        obtain ⟨g_1, h⟩ := h
        obtain ⟨g_2, h⟩ := h
        refine b_iast (pc := 61) X9 (i := x2_2) (v := (r_1 - v_1)) (ar10_20 hnn) (Nat.le_of_ble_eq_true rfl) g_2 g_1 dX10_laysCards_61 ?_
        obtain ⟨G_3, eG_3⟩ : ∃ G9, G9 = upG G_2 282 (x2_2).toNat (r_1 - v_1) := ⟨_, rfl⟩
        have hG_3 : GR G_3 := by rw [eG_3]; exact (GR.up hG_2 g_1)
        have h := h G_3 eG_3
        rw [← eG_3]
        refine a_aload_n (pc := 62) X9 dX10_laysCards_62 rfl rfl ?_
        refine a_getR (pc := 63) X9 (q := 282) okX10 20 rfl wF_X10_46 (is10 hnn) rf10_20 dX10_laysCards_63 ?_
        refine a_iload_n (pc := 66) X9 dX10_laysCards_66 rfl rfl ?_
        refine b_iald (pc := 67) X9 (ar10_20 hnn) (Nat.le_of_ble_eq_true rfl) g_2 dX10_laysCards_67 ?_
        refine a_if_le (pc := 68) (tgt := 86) X9 dX10_laysCards_68 rfl (hG_3 _ _) (fun c => ?_) (fun c => ?_)
        · have c_4 := c
          have h := h.1 c_4
          refine a_iinc (pc := 86) X9 dX10_laysCards_86 rfl (Nat.le_of_ble_eq_true rfl) rfl rfl ?_
          refine a_goto (pc := 89) (tgt := 31) X9 dX10_laysCards_89 rfl ?_
          have q_1 : inR (x2_2) := h_x2_2
          have g_3 : inR ((x2_2 + 1)) := ⟨by omega, by omega⟩
          exact hk_2 _ _ h g_3 hG_3
        · have c_4 := c
          have h := h.2 c_4
          refine a_aload_n (pc := 71) X9 dX10_laysCards_71 rfl rfl ?_
          refine a_aload_n (pc := 72) X9 dX10_laysCards_72 rfl rfl ?_
          refine a_iload_n (pc := 73) X9 dX10_laysCards_73 rfl rfl ?_
          refine a_callV (pc := 74) X9 E (m_X10_shows h_x2_2 hnn h) okX10 (is10 hnn) wM_X10_264 w_instanceMethod_X10_shows w_selects_X10_shows w_initialized_RX10 w_code_X10_shows cp_X10_shows pn_X10_shows rfl (Nat.le_of_ble_eq_true rfl) ⟨Nat.le_of_ble_eq_true rfl, Nat.le_of_ble_eq_true rfl⟩ ⟨Nat.le_of_ble_eq_true rfl, Nat.le_of_ble_eq_true rfl⟩ dX10_laysCards_74 (fun _ _ q => False.elim q) (kIp (fun r_3 hr_3 h => ?_))
          refine a_aload_n (pc := 77) X9 dX10_laysCards_77 rfl rfl ?_
          refine a_getR (pc := 78) X9 (q := 282) okX10 20 rfl wF_X10_46 (is10 hnn) rf10_20 dX10_laysCards_78 ?_
          refine a_iload_n (pc := 81) X9 dX10_laysCards_81 rfl rfl ?_
          refine b_iald (pc := 82) X9 (ar10_20 hnn) (Nat.le_of_ble_eq_true rfl) g_2 dX10_laysCards_82 ?_
          refine a_callV (pc := 83) X9 E (m_X10_brings hr_3 (hG_3 _ _) hnn h) okX10 (is10 hnn) wM_X10_267 w_instanceMethod_X10_brings w_selects_X10_brings w_initialized_RX10 w_code_X10_brings cp_X10_brings pn_X10_brings rfl (Nat.le_of_ble_eq_true rfl) ⟨Nat.le_of_ble_eq_true rfl, Nat.le_of_ble_eq_true rfl⟩ ⟨Nat.le_of_ble_eq_true rfl, Nat.le_of_ble_eq_true rfl⟩ dX10_laysCards_83 (fun _ _ q => False.elim q) (kV (fun G_4 h hG_4 => ?_))
          refine a_iinc (pc := 86) X9 dX10_laysCards_86 rfl (Nat.le_of_ble_eq_true rfl) rfl rfl ?_
          refine a_goto (pc := 89) (tgt := 31) X9 dX10_laysCards_89 rfl ?_
          have q_2 : inR (x2_2) := h_x2_2
          have g_4 : inR ((x2_2 + 1)) := ⟨by omega, by omega⟩
          exact hk_2 _ _ h g_4 hG_4
      · refine a_if_eq (pc := 48) (tgt := 59) X9 dX10_laysCards_48 rfl hi1 (fun c => ?_) (fun c => ?_)
        · have c_5 := c
          have h := h.1 c_5
          refine a_iconst (pc := 59) X9 dX10_laysCards_59 ?_
          exact hj_1 _ h (by decide)
        · have c_5 := c
          have h := h.2 c_5
          refine a_aload_n (pc := 51) X9 dX10_laysCards_51 rfl rfl ?_
          refine a_iload_n (pc := 52) X9 dX10_laysCards_52 rfl rfl ?_
          refine a_callV (pc := 53) X9 E (m_X10_hanging h_x2_2 hnn h) okX10 (is10 hnn) wM_X10_240 w_instanceMethod_X10_hanging w_selects_X10_hanging w_initialized_RX10 w_code_X10_hanging cp_X10_hanging pn_X10_hanging rfl (Nat.le_of_ble_eq_true rfl) ⟨Nat.le_of_ble_eq_true rfl, Nat.le_of_ble_eq_true rfl⟩ ⟨Nat.le_of_ble_eq_true rfl, Nat.le_of_ble_eq_true rfl⟩ dX10_laysCards_53 (fun _ _ q => False.elim q) (kIp (fun r_5 hr_5 h => ?_))
          refine a_goto (pc := 56) (tgt := 60) X9 dX10_laysCards_56 rfl ?_
          exact hj_1 _ h hr_5
  · have c_1 := c
    have h := h.2 c_1
    refine a_aload_n (pc := 9) X9 dX10_laysCards_9 rfl rfl ?_
    refine a_getR (pc := 10) X9 (q := 280) okX10 18 rfl wF_X10_40 (is10 hnn) rf10_18 dX10_laysCards_10 ?_
    refine a_iload_n (pc := 13) X9 dX10_laysCards_13 rfl rfl ?_
    refine a_iconst (pc := 14) X9 dX10_laysCards_14 ?_
    obtain ⟨g_5, h⟩ := h
    refine b_iast (pc := 15) X9 (i := x2_1) (v := 0) (ar10_18 hnn) (Nat.le_of_ble_eq_true rfl) g_5 (by decide) dX10_laysCards_15 ?_
    obtain ⟨G_5, eG_5⟩ : ∃ G9, G9 = upG G_1 280 (x2_1).toNat 0 := ⟨_, rfl⟩
    have hG_5 : GR G_5 := by rw [eG_5]; exact (GR.up hG_1 (by decide))
    have h := h G_5 eG_5
    rw [← eG_5]
    refine a_aload_n (pc := 16) X9 dX10_laysCards_16 rfl rfl ?_
    refine a_getR (pc := 17) X9 (q := 281) okX10 19 rfl wF_X10_43 (is10 hnn) rf10_19 dX10_laysCards_17 ?_
    refine a_iload_n (pc := 20) X9 dX10_laysCards_20 rfl rfl ?_
    refine a_iconst (pc := 21) X9 dX10_laysCards_21 ?_
    refine b_iast (pc := 22) X9 (i := x2_1) (v := 0) (ar10_19 hnn) (Nat.le_of_ble_eq_true rfl) g_5 (by decide) dX10_laysCards_22 ?_
    obtain ⟨G_6, eG_6⟩ : ∃ G9, G9 = upG G_5 281 (x2_1).toNat 0 := ⟨_, rfl⟩
    have hG_6 : GR G_6 := by rw [eG_6]; exact (GR.up hG_5 (by decide))
    have h := h G_6 eG_6
    rw [← eG_6]
    refine a_iinc (pc := 23) X9 dX10_laysCards_23 rfl (Nat.le_of_ble_eq_true rfl) rfl rfl ?_
    refine a_goto (pc := 26) (tgt := 2) X9 dX10_laysCards_26 rfl ?_
    have q_3 : inR (x2_1) := h_x2_1
    have g_6 : inR ((x2_1 + 1)) := ⟨by omega, by omega⟩
    exact hk_1 _ _ h g_6 hG_6
set_option maxHeartbeats 4000000 in
set_option maxRecDepth 100000 in
theorem m_X10_lack {nn : Nat}  {G : GH} {Q : Int → Prop}  (hnn : 285 ≤ nn) (h : f_X10_lack G Q) : Mt yX10_lack cX10_lack 3 (some .int) 1 13 0 0 [vr 272] (SF nn) G (fun v S' G' => S' = SF nn ∧ qI (fun r9 G9 => G9 = G ∧ Q r9) v S' G') (fun E S' G' => S' = SF nn ∧ False) := by
  refine Mt.of (l0 := [some (vr 272), none, none]) (by decide) (Nat.le_of_ble_eq_true rfl) rfl ?_
  intro κ δ ρ0 X9 E hG
  replace X9 : CX κ δ RX10 cX10_lack 3 (some .int) := X9
  refine a_iconst (pc := 0) X9 dX10_lack_0 ?_
  refine a_istore_n (pc := 1) X9 dX10_lack_1 rfl (Nat.le_of_ble_eq_true rfl) rfl rfl ?_
  refine a_iconst (pc := 2) X9 dX10_lack_2 ?_
  refine a_istore_n (pc := 3) X9 dX10_lack_3 rfl (Nat.le_of_ble_eq_true rfl) rfl rfl ?_
  refine loopM2 (A := fun x1_1 x2_1 => inR x1_1 → inR x2_1 → AW κ δ ρ0 nn 3 0 0 4 [some (vr 272), some (vi x1_1), some (vi x2_1)] [] (SF nn) G) (fun k_1 hk_1 x1_1 x2_1 h h_x1_1 h_x2_1 => ?_) _ _ h (by decide) (by decide)
  refine a_iload_n (pc := 4) X9 dX10_lack_4 rfl rfl ?_
  refine a_sipush (pc := 5) X9 dX10_lack_5 rfl ?_
  refine a_icmp_ge (pc := 8) (tgt := 35) X9 dX10_lack_8 rfl h_x2_1 (by decide) (fun c => ?_) (fun c => ?_)
  · have c_1 := c
    have h := h.1 c_1
    refine a_iload_n (pc := 35) X9 dX10_lack_35 rfl rfl ?_
    exact a_ireturn (pc := 36) X9 E rfl rfl (Nat.le_of_ble_eq_true rfl) (Nat.le_of_ble_eq_true rfl) dX10_lack_36 ⟨rfl, _, rfl, h_x1_1, rfl, h⟩
  · have c_1 := c
    have h := h.2 c_1
    refine a_iload_n (pc := 11) X9 dX10_lack_11 rfl rfl ?_
    refine a_aload_n (pc := 12) X9 dX10_lack_12 rfl rfl ?_
    refine a_getR (pc := 13) X9 (q := 281) okX10 19 rfl wF_X10_43 (is10 hnn) rf10_19 dX10_lack_13 ?_
    refine a_iload_n (pc := 16) X9 dX10_lack_16 rfl rfl ?_
    obtain ⟨g_1, h⟩ := h
    refine b_iald (pc := 17) X9 (ar10_19 hnn) (Nat.le_of_ble_eq_true rfl) g_1 dX10_lack_17 ?_
    refine a_aload_n (pc := 18) X9 dX10_lack_18 rfl rfl ?_
    refine a_getR (pc := 19) X9 (q := 280) okX10 18 rfl wF_X10_40 (is10 hnn) rf10_18 dX10_lack_19 ?_
    refine a_iload_n (pc := 22) X9 dX10_lack_22 rfl rfl ?_
    refine b_iald (pc := 23) X9 (ar10_18 hnn) (Nat.le_of_ble_eq_true rfl) g_1 dX10_lack_23 ?_
    refine a_isub (pc := 24) X9 dX10_lack_24 ?_
    obtain ⟨g_2, h⟩ := h
    refine b_max (pc := 25) X9 E wM_X10_246 h_x1_1 g_2 (Nat.le_of_ble_eq_true rfl) (Nat.le_of_ble_eq_true rfl) ⟨Nat.le_of_ble_eq_true rfl, Nat.le_of_ble_eq_true rfl⟩ dX10_lack_25 ?_
    refine a_istore_n (pc := 28) X9 dX10_lack_28 rfl (Nat.le_of_ble_eq_true rfl) rfl rfl ?_
    refine a_iinc (pc := 29) X9 dX10_lack_29 rfl (Nat.le_of_ble_eq_true rfl) rfl rfl ?_
    refine a_goto (pc := 32) (tgt := 4) X9 dX10_lack_32 rfl ?_
    have q_1 : inR (x2_1) := h_x2_1
    have g_3 : inR ((x2_1 + 1)) := ⟨by omega, by omega⟩
    exact hk_1 _ _ h (inR_max h_x1_1 g_2) g_3
set_option maxHeartbeats 4000000 in
set_option maxRecDepth 100000 in
theorem m_X10_allRows {nn : Nat}  {G : GH} {Q : Int → Prop}  (hnn : 285 ≤ nn) (h : f_X10_allRows G Q) : Mt yX10_allRows cX10_allRows 3 (some .int) 0 0 0 0 [vr 272] (SF nn) G (fun v S' G' => S' = SF nn ∧ qI (fun r9 G9 => G9 = G ∧ Q r9) v S' G') (fun E S' G' => S' = SF nn ∧ False) := by
  refine Mt.of (l0 := [some (vr 272), none, none]) (by decide) (Nat.le_of_ble_eq_true rfl) rfl ?_
  intro κ δ ρ0 X9 E hG
  replace X9 : CX κ δ RX10 cX10_allRows 3 (some .int) := X9
  refine a_iconst (pc := 0) X9 dX10_allRows_0 ?_
  refine a_istore_n (pc := 1) X9 dX10_allRows_1 rfl (Nat.le_of_ble_eq_true rfl) rfl rfl ?_
  refine a_iconst (pc := 2) X9 dX10_allRows_2 ?_
  refine a_istore_n (pc := 3) X9 dX10_allRows_3 rfl (Nat.le_of_ble_eq_true rfl) rfl rfl ?_
  refine loopM2 (A := fun x1_1 x2_1 => inR x1_1 → inR x2_1 → AW κ δ ρ0 nn 3 0 0 4 [some (vr 272), some (vi x1_1), some (vi x2_1)] [] (SF nn) G) (fun k_1 hk_1 x1_1 x2_1 h h_x1_1 h_x2_1 => ?_) _ _ h (by decide) (by decide)
  refine a_iload_n (pc := 4) X9 dX10_allRows_4 rfl rfl ?_
  refine a_aload_n (pc := 5) X9 dX10_allRows_5 rfl rfl ?_
  refine a_getR (pc := 6) X9 (q := 273) okX10 1 rfl wF_X10_9 (is10 hnn) rf10_1 dX10_allRows_6 ?_
  refine a_iconst (pc := 9) X9 dX10_allRows_9 ?_
  refine a_iald (pc := 10) X9 (ar10_1 hnn) (Nat.le_of_ble_eq_true rfl) (j := 0) rfl (Nat.le_of_ble_eq_true rfl) dX10_allRows_10 ?_
  refine a_icmp_ge (pc := 11) (tgt := 32) X9 dX10_allRows_11 rfl h_x2_1 (hG _ _) (fun c => ?_) (fun c => ?_)
  · have c_1 := c
    have h := h.1 c_1
    refine a_iload_n (pc := 32) X9 dX10_allRows_32 rfl rfl ?_
    exact a_ireturn (pc := 33) X9 E rfl rfl (Nat.le_of_ble_eq_true rfl) (Nat.le_of_ble_eq_true rfl) dX10_allRows_33 ⟨rfl, _, rfl, h_x1_1, rfl, h⟩
  · have c_1 := c
    have h := h.2 c_1
    refine a_iload_n (pc := 14) X9 dX10_allRows_14 rfl rfl ?_
    refine a_aload_n (pc := 15) X9 dX10_allRows_15 rfl rfl ?_
    refine a_getR (pc := 16) X9 (q := 273) okX10 1 rfl wF_X10_9 (is10 hnn) rf10_1 dX10_allRows_16 ?_
    refine a_bipush (pc := 19) X9 dX10_allRows_19 rfl ?_
    refine a_iload_n (pc := 21) X9 dX10_allRows_21 rfl rfl ?_
    refine a_iadd (pc := 22) X9 dX10_allRows_22 ?_
    obtain ⟨g_1, h⟩ := h
    refine b_iald (pc := 23) X9 (ar10_1 hnn) (Nat.le_of_ble_eq_true rfl) g_1 dX10_allRows_23 ?_
    refine a_iadd (pc := 24) X9 dX10_allRows_24 ?_
    refine a_istore_n (pc := 25) X9 dX10_allRows_25 rfl (Nat.le_of_ble_eq_true rfl) rfl rfl ?_
    refine a_iinc (pc := 26) X9 dX10_allRows_26 rfl (Nat.le_of_ble_eq_true rfl) rfl rfl ?_
    refine a_goto (pc := 29) (tgt := 4) X9 dX10_allRows_29 rfl ?_
    obtain ⟨g_2, h⟩ := h
    have q_1 : inR ((G 273 0)) := (hG _ _)
    have q_2 : inR (x2_1) := h_x2_1
    have g_3 : inR ((x2_1 + 1)) := ⟨by omega, by omega⟩
    exact hk_1 _ _ h g_2 g_3
set_option maxHeartbeats 4000000 in
set_option maxRecDepth 100000 in
theorem m_X10_firstRow {nn : Nat} {i1 : Int} {G : GH} {Q : Int → Prop} (hi1 : inR i1) (hnn : 285 ≤ nn) (h : f_X10_firstRow i1 G Q) : Mt yX10_firstRow cX10_firstRow 4 (some .int) 0 0 0 0 [vr 272, vi i1] (SF nn) G (fun v S' G' => S' = SF nn ∧ qI (fun r9 G9 => G9 = G ∧ Q r9) v S' G') (fun E S' G' => S' = SF nn ∧ False) := by
  refine Mt.of (l0 := [some (vr 272), some (vi i1), none, none]) (by decide) (Nat.le_of_ble_eq_true rfl) rfl ?_
  intro κ δ ρ0 X9 E hG
  replace X9 : CX κ δ RX10 cX10_firstRow 4 (some .int) := X9
  refine a_iconst (pc := 0) X9 dX10_firstRow_0 ?_
  refine a_istore_n (pc := 1) X9 dX10_firstRow_1 rfl (Nat.le_of_ble_eq_true rfl) rfl rfl ?_
  refine a_iconst (pc := 2) X9 dX10_firstRow_2 ?_
  refine a_istore_n (pc := 3) X9 dX10_firstRow_3 rfl (Nat.le_of_ble_eq_true rfl) rfl rfl ?_
  refine loopM2 (A := fun x2_1 x3_1 => inR x2_1 → inR x3_1 → AW κ δ ρ0 nn 4 0 0 4 [some (vr 272), some (vi i1), some (vi x2_1), some (vi x3_1)] [] (SF nn) G) (fun k_1 hk_1 x2_1 x3_1 h h_x2_1 h_x3_1 => ?_) _ _ h (by decide) (by decide)
  refine a_iload_n (pc := 4) X9 dX10_firstRow_4 rfl rfl ?_
  refine a_iload_n (pc := 5) X9 dX10_firstRow_5 rfl rfl ?_
  refine a_icmp_ge (pc := 6) (tgt := 27) X9 dX10_firstRow_6 rfl h_x3_1 hi1 (fun c => ?_) (fun c => ?_)
  · have c_1 := c
    have h := h.1 c_1
    refine a_iload_n (pc := 27) X9 dX10_firstRow_27 rfl rfl ?_
    exact a_ireturn (pc := 28) X9 E rfl rfl (Nat.le_of_ble_eq_true rfl) (Nat.le_of_ble_eq_true rfl) dX10_firstRow_28 ⟨rfl, _, rfl, h_x2_1, rfl, h⟩
  · have c_1 := c
    have h := h.2 c_1
    refine a_iload_n (pc := 9) X9 dX10_firstRow_9 rfl rfl ?_
    refine a_aload_n (pc := 10) X9 dX10_firstRow_10 rfl rfl ?_
    refine a_getR (pc := 11) X9 (q := 273) okX10 1 rfl wF_X10_9 (is10 hnn) rf10_1 dX10_firstRow_11 ?_
    refine a_bipush (pc := 14) X9 dX10_firstRow_14 rfl ?_
    refine a_iload_n (pc := 16) X9 dX10_firstRow_16 rfl rfl ?_
    refine a_iadd (pc := 17) X9 dX10_firstRow_17 ?_
    obtain ⟨g_1, h⟩ := h
    refine b_iald (pc := 18) X9 (ar10_1 hnn) (Nat.le_of_ble_eq_true rfl) g_1 dX10_firstRow_18 ?_
    refine a_iadd (pc := 19) X9 dX10_firstRow_19 ?_
    refine a_istore_n (pc := 20) X9 dX10_firstRow_20 rfl (Nat.le_of_ble_eq_true rfl) rfl rfl ?_
    refine a_iinc (pc := 21) X9 dX10_firstRow_21 rfl (Nat.le_of_ble_eq_true rfl) rfl rfl ?_
    refine a_goto (pc := 24) (tgt := 4) X9 dX10_firstRow_24 rfl ?_
    obtain ⟨g_2, h⟩ := h
    have q_1 : inR (i1) := hi1
    have q_2 : inR (x3_1) := h_x3_1
    have g_3 : inR ((x3_1 + 1)) := ⟨by omega, by omega⟩
    exact hk_1 _ _ h g_2 g_3

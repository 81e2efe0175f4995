-- ===== the walks of the methods; written by wip/whole/gen.py =====
set_option maxHeartbeats 4000000 in
set_option maxRecDepth 100000 in
theorem m_X9_needIndex {nn : Nat} {i0 : Int} {G : GH} {Q : Prop} (hi0 : inR i0) (hnn : 272 ≤ nn) (h : f_X9_needIndex i0 Q (fun _ => False)) : Mt yX9_needIndex cX9_needIndex 1 none 0 0 0 0 [vi i0] (SF nn) G (fun v S' G' => S' = SF nn ∧ qV (fun G9 => G9 = G ∧ Q) v S' G') (fun E S' G' => S' = SF nn ∧ False) := by
  refine Mt.of (l0 := [some (vi i0)]) (by decide) (Nat.le_of_ble_eq_true rfl) rfl ?_
  intro κ δ ρ0 X9 E hG
  replace X9 : CX κ δ RX9 cX9_needIndex 1 none := X9
  refine a_iload_n (pc := 0) X9 dX9_needIndex_0 rfl rfl ?_
  refine a_if_ne (pc := 1) (tgt := 15) X9 dX9_needIndex_1 rfl hi0 (fun c => ?_) (fun c => ?_)
  · have c_1 := c
    have h := h.1 c_1
    exact a_return (pc := 15) X9 E (Nat.le_of_ble_eq_true rfl) (Nat.le_of_ble_eq_true rfl) dX9_needIndex_15 ⟨rfl, rfl, rfl, h⟩
  · have c_1 := c
    have h := h.2 c_1
    exact h.elim
set_option maxHeartbeats 4000000 in
set_option maxRecDepth 100000 in
theorem m_X9_needOwn {nn : Nat} {i1 : Int} {G : GH} {Q : Prop} (hi1 : inR i1) (hnn : 272 ≤ nn) (h : f_X9_needOwn i1 G Q (fun _ => False)) : Mt yX9_needOwn cX9_needOwn 2 none 1 22 0 0 [vr 0, vi i1] (SF nn) G (fun v S' G' => S' = SF nn ∧ qV (fun G9 => G9 = G ∧ Q) v S' G') (fun E S' G' => S' = SF nn ∧ False) := by
  refine Mt.of (l0 := [some (vr 0), some (vi i1)]) (by decide) (Nat.le_of_ble_eq_true rfl) rfl ?_
  intro κ δ ρ0 X9 E hG
  replace X9 : CX κ δ RX9 cX9_needOwn 2 none := X9
  refine a_iload_n (pc := 0) X9 dX9_needOwn_0 rfl rfl ?_
  refine a_iconst (pc := 1) X9 dX9_needOwn_1 ?_
  refine a_aload_n (pc := 2) X9 dX9_needOwn_2 rfl rfl ?_
  refine a_getR (pc := 3) X9 (q := 1) okX9 0 rfl wF_X9_12 (is9 hnn) rf9_0 dX9_needOwn_3 ?_
  refine a_getR (pc := 6) X9 (q := 3) okX7 3 rfl wF_X9_116 (is7 su9_0 hnn) (rf7_3 _ su9_0) dX9_needOwn_6 ?_
  refine a_getI (pc := 9) X9 okX8 1 rfl wF_X9_129 (is8 (su7_3 _ su9_0) hnn) dX9_needOwn_9 ?_
  refine a_iconst (pc := 12) X9 dX9_needOwn_12 ?_
  refine a_isub (pc := 13) X9 dX9_needOwn_13 ?_
  obtain ⟨g_1, h⟩ := h
  refine a_callS (pc := 14) X9 E (m_X9_within hi1 (show inR 0 by decide) g_1 hnn h) wM_X9_199 w_static_X9_within w_initialized_RX9 w_code_X9_within cp_X9_within pn_X9_within rfl (Nat.le_of_ble_eq_true rfl) ⟨Nat.le_of_ble_eq_true rfl, Nat.le_of_ble_eq_true rfl⟩ ⟨Nat.le_of_ble_eq_true rfl, Nat.le_of_ble_eq_true rfl⟩ dX9_needOwn_14 (fun _ _ q => False.elim q) (kZp (fun r_1 hr_1 h => ?_))
  refine a_callS (pc := 17) X9 E (m_X9_needIndex (bool_inR hr_1) hnn h) wM_X9_203 w_static_X9_needIndex w_initialized_RX9 w_code_X9_needIndex cp_X9_needIndex pn_X9_needIndex rfl (Nat.le_of_ble_eq_true rfl) ⟨Nat.le_of_ble_eq_true rfl, Nat.le_of_ble_eq_true rfl⟩ ⟨Nat.le_of_ble_eq_true rfl, Nat.le_of_ble_eq_true rfl⟩ dX9_needOwn_17 (fun _ _ q => False.elim q) (kVp (fun h => ?_))
  exact a_return (pc := 20) X9 E (Nat.le_of_ble_eq_true rfl) (Nat.le_of_ble_eq_true rfl) dX9_needOwn_20 ⟨rfl, rfl, rfl, h⟩
set_option maxHeartbeats 4000000 in
set_option maxRecDepth 100000 in
theorem m_X9_needFriend {nn : Nat} {i1 : Int} {G : GH} {Q : Prop} (hi1 : inR i1) (hnn : 272 ≤ nn) (h : f_X9_needFriend i1 G Q (fun _ => False)) : Mt yX9_needFriend cX9_needFriend 2 none 1 22 0 0 [vr 0, vi i1] (SF nn) G (fun v S' G' => S' = SF nn ∧ qV (fun G9 => G9 = G ∧ Q) v S' G') (fun E S' G' => S' = SF nn ∧ False) := by
  refine Mt.of (l0 := [some (vr 0), some (vi i1)]) (by decide) (Nat.le_of_ble_eq_true rfl) rfl ?_
  intro κ δ ρ0 X9 E hG
  replace X9 : CX κ δ RX9 cX9_needFriend 2 none := X9
  refine a_iload_n (pc := 0) X9 dX9_needFriend_0 rfl rfl ?_
  refine a_iconst (pc := 1) X9 dX9_needFriend_1 ?_
  refine a_aload_n (pc := 2) X9 dX9_needFriend_2 rfl rfl ?_
  refine a_getR (pc := 3) X9 (q := 1) okX9 0 rfl wF_X9_12 (is9 hnn) rf9_0 dX9_needFriend_3 ?_
  refine a_getR (pc := 6) X9 (q := 3) okX7 3 rfl wF_X9_116 (is7 su9_0 hnn) (rf7_3 _ su9_0) dX9_needFriend_6 ?_
  refine a_getI (pc := 9) X9 okX8 5 rfl wF_X9_132 (is8 (su7_3 _ su9_0) hnn) dX9_needFriend_9 ?_
  refine a_iconst (pc := 12) X9 dX9_needFriend_12 ?_
  refine a_isub (pc := 13) X9 dX9_needFriend_13 ?_
  obtain ⟨g_1, h⟩ := h
  refine a_callS (pc := 14) X9 E (m_X9_within hi1 (show inR 0 by decide) g_1 hnn h) wM_X9_199 w_static_X9_within w_initialized_RX9 w_code_X9_within cp_X9_within pn_X9_within rfl (Nat.le_of_ble_eq_true rfl) ⟨Nat.le_of_ble_eq_true rfl, Nat.le_of_ble_eq_true rfl⟩ ⟨Nat.le_of_ble_eq_true rfl, Nat.le_of_ble_eq_true rfl⟩ dX9_needFriend_14 (fun _ _ q => False.elim q) (kZp (fun r_1 hr_1 h => ?_))
  refine a_callS (pc := 17) X9 E (m_X9_needIndex (bool_inR hr_1) hnn h) wM_X9_203 w_static_X9_needIndex w_initialized_RX9 w_code_X9_needIndex cp_X9_needIndex pn_X9_needIndex rfl (Nat.le_of_ble_eq_true rfl) ⟨Nat.le_of_ble_eq_true rfl, Nat.le_of_ble_eq_true rfl⟩ ⟨Nat.le_of_ble_eq_true rfl, Nat.le_of_ble_eq_true rfl⟩ dX9_needFriend_17 (fun _ _ q => False.elim q) (kVp (fun h => ?_))
  exact a_return (pc := 20) X9 E (Nat.le_of_ble_eq_true rfl) (Nat.le_of_ble_eq_true rfl) dX9_needFriend_20 ⟨rfl, rfl, rfl, h⟩
set_option maxHeartbeats 4000000 in
set_option maxRecDepth 100000 in
theorem m_X9_sortOf {nn : Nat} {i1 : Int} {G : GH} {Q : Int → Prop} (hi1 : inR i1) (hnn : 272 ≤ nn) (h : f_X9_sortOf i1 G Q (fun _ => False)) : Mt yX9_sortOf cX9_sortOf 3 (some .int) 2 43 0 0 [vr 0, vi i1] (SF nn) G (fun v S' G' => S' = SF nn ∧ qI (fun r9 G9 => G9 = G ∧ Q r9) v S' G') (fun E S' G' => S' = SF nn ∧ False) := by
  refine Mt.of (l0 := [some (vr 0), some (vi i1), none]) (by decide) (Nat.le_of_ble_eq_true rfl) rfl ?_
  intro κ δ ρ0 X9 E hG
  replace X9 : CX κ δ RX9 cX9_sortOf 3 (some .int) := X9
  refine a_iload_n (pc := 0) X9 dX9_sortOf_0 rfl rfl ?_
  refine a_bipush (pc := 1) X9 dX9_sortOf_1 rfl ?_
  refine a_icmp_ge (pc := 3) (tgt := 13) X9 dX9_sortOf_3 rfl hi1 (by decide) (fun c => ?_) (fun c => ?_)
  · have c_1 := c
    have h := h.1 c_1
    refine a_iload_n (pc := 13) X9 dX9_sortOf_13 rfl rfl ?_
    refine a_bipush (pc := 14) X9 dX9_sortOf_14 rfl ?_
    refine a_isub (pc := 16) X9 dX9_sortOf_16 ?_
    refine a_istore_n (pc := 17) X9 dX9_sortOf_17 rfl (Nat.le_of_ble_eq_true rfl) rfl rfl ?_
    refine a_aload_n (pc := 18) X9 dX9_sortOf_18 rfl rfl ?_
    refine a_iload_n (pc := 19) X9 dX9_sortOf_19 rfl rfl ?_
    refine a_bipush (pc := 20) X9 dX9_sortOf_20 rfl ?_
    have q_1 : inR (i1) := hi1
    have g_1 : inR ((i1 - 100)) := ⟨by omega, by omega⟩
    obtain ⟨g_2, h⟩ := h
    refine a_idiv (pc := 22) X9 dX9_sortOf_22 ⟨g_2, g_1.2⟩ ⟨(by decide), (by decide)⟩ ?_
    refine a_callV (pc := 23) X9 E (m_X9_needFriend (inR_div g_1 g_2 (by decide)) hnn h) okX9 (is9 hnn) wM_X9_193 w_instanceMethod_X9_needFriend w_selects_X9_needFriend w_initialized_RX9 w_code_X9_needFriend cp_X9_needFriend pn_X9_needFriend rfl (Nat.le_of_ble_eq_true rfl) ⟨Nat.le_of_ble_eq_true rfl, Nat.le_of_ble_eq_true rfl⟩ ⟨Nat.le_of_ble_eq_true rfl, Nat.le_of_ble_eq_true rfl⟩ dX9_sortOf_23 (fun _ _ q => False.elim q) (kVp (fun h => ?_))
    refine a_bipush (pc := 26) X9 dX9_sortOf_26 rfl ?_
    refine a_iload_n (pc := 28) X9 dX9_sortOf_28 rfl rfl ?_
    refine a_iadd (pc := 29) X9 dX9_sortOf_29 ?_
    obtain ⟨g_3, h⟩ := h
    exact a_ireturn (pc := 30) X9 E rfl rfl (Nat.le_of_ble_eq_true rfl) (Nat.le_of_ble_eq_true rfl) dX9_sortOf_30 ⟨rfl, _, rfl, g_3, rfl, h⟩
  · have c_1 := c
    have h := h.2 c_1
    refine a_aload_n (pc := 6) X9 dX9_sortOf_6 rfl rfl ?_
    refine a_iload_n (pc := 7) X9 dX9_sortOf_7 rfl rfl ?_
    refine a_callV (pc := 8) X9 E (m_X9_needOwn hi1 hnn h) okX9 (is9 hnn) wM_X9_322 w_instanceMethod_X9_needOwn w_selects_X9_needOwn w_initialized_RX9 w_code_X9_needOwn cp_X9_needOwn pn_X9_needOwn rfl (Nat.le_of_ble_eq_true rfl) ⟨Nat.le_of_ble_eq_true rfl, Nat.le_of_ble_eq_true rfl⟩ ⟨Nat.le_of_ble_eq_true rfl, Nat.le_of_ble_eq_true rfl⟩ dX9_sortOf_8 (fun _ _ q => False.elim q) (kVp (fun h => ?_))
    refine a_iload_n (pc := 11) X9 dX9_sortOf_11 rfl rfl ?_
    exact a_ireturn (pc := 12) X9 E rfl rfl (Nat.le_of_ble_eq_true rfl) (Nat.le_of_ble_eq_true rfl) dX9_sortOf_12 ⟨rfl, _, rfl, hi1, rfl, h⟩
set_option maxHeartbeats 4000000 in
set_option maxRecDepth 100000 in
theorem m_X8_frontOf {nn : Nat} {a0 : Nat} {i1 : Int} {G : GH} {Q : Int → Prop} (ha0 : a0 ∈ L8) (hi1 : inR i1) (hnn : 272 ≤ nn) (h : f_X8_frontOf a0 i1 G Q) : Mt yX8_frontOf cX8_frontOf 2 (some .int) 0 0 0 0 [vr a0, vi i1] (SF nn) G (fun v S' G' => S' = SF nn ∧ qI (fun r9 G9 => G9 = G ∧ Q r9) v S' G') (fun E S' G' => S' = SF nn ∧ False) := by
  refine Mt.of (l0 := [some (vr a0), some (vi i1)]) (by decide) (Nat.le_of_ble_eq_true rfl) rfl ?_
  intro κ δ ρ0 X9 E hG
  replace X9 : CX κ δ RX8 cX8_frontOf 2 (some .int) := X9
  refine a_iload_n (pc := 0) X9 dX8_frontOf_0 rfl rfl ?_
  refine a_bipush (pc := 1) X9 dX8_frontOf_1 rfl ?_
  refine a_icmp_ge (pc := 3) (tgt := 15) X9 dX8_frontOf_3 rfl hi1 (by decide) (fun c => ?_) (fun c => ?_)
  · have c_1 := c
    have h := h.1 c_1
    refine a_iload_n (pc := 15) X9 dX8_frontOf_15 rfl rfl ?_
    refine a_bipush (pc := 16) X9 dX8_frontOf_16 rfl ?_
    refine a_isub (pc := 18) X9 dX8_frontOf_18 ?_
    refine a_bipush (pc := 19) X9 dX8_frontOf_19 rfl ?_
    have q_1 : inR (i1) := hi1
    have g_1 : inR ((i1 - 12)) := ⟨by omega, by omega⟩
    obtain ⟨g_2, h⟩ := h
    refine a_irem (pc := 21) X9 dX8_frontOf_21 ⟨g_2, g_1.2⟩ ⟨(by decide), (by decide)⟩ ?_
    exact a_ireturn (pc := 22) X9 E rfl rfl (Nat.le_of_ble_eq_true rfl) (Nat.le_of_ble_eq_true rfl) dX8_frontOf_22 ⟨rfl, _, rfl, (inR_mod g_2 (by decide) (by decide)), rfl, h⟩
  · have c_1 := c
    have h := h.2 c_1
    refine a_aload_n (pc := 6) X9 dX8_frontOf_6 rfl rfl ?_
    refine a_getR (pc := 7) X9 (q := (a0 + 1)) okX8 2 rfl wF_X8_9 (is8 ha0 hnn) (rf8_2 _ ha0) dX8_frontOf_7 ?_
    refine a_iload_n (pc := 10) X9 dX8_frontOf_10 rfl rfl ?_
    obtain ⟨g_3, h⟩ := h
    refine b_iald (pc := 11) X9 (ar8_2 ha0 hnn) (Nat.le_of_ble_eq_true rfl) g_3 dX8_frontOf_11 ?_
    refine a_goto (pc := 12) (tgt := 22) X9 dX8_frontOf_12 rfl ?_
    exact a_ireturn (pc := 22) X9 E rfl rfl (Nat.le_of_ble_eq_true rfl) (Nat.le_of_ble_eq_true rfl) dX8_frontOf_22 ⟨rfl, _, rfl, (hG _ _), rfl, h⟩
set_option maxHeartbeats 4000000 in
set_option maxRecDepth 100000 in
theorem m_X8_backOf {nn : Nat} {a0 : Nat} {i1 : Int} {G : GH} {Q : Int → Prop} (ha0 : a0 ∈ L8) (hi1 : inR i1) (hnn : 272 ≤ nn) (h : f_X8_backOf a0 i1 G Q) : Mt yX8_backOf cX8_backOf 2 (some .int) 0 0 0 0 [vr a0, vi i1] (SF nn) G (fun v S' G' => S' = SF nn ∧ qI (fun r9 G9 => G9 = G ∧ Q r9) v S' G') (fun E S' G' => S' = SF nn ∧ False) := by
  refine Mt.of (l0 := [some (vr a0), some (vi i1)]) (by decide) (Nat.le_of_ble_eq_true rfl) rfl ?_
  intro κ δ ρ0 X9 E hG
  replace X9 : CX κ δ RX8 cX8_backOf 2 (some .int) := X9
  refine a_iload_n (pc := 0) X9 dX8_backOf_0 rfl rfl ?_
  refine a_bipush (pc := 1) X9 dX8_backOf_1 rfl ?_
  refine a_icmp_ge (pc := 3) (tgt := 15) X9 dX8_backOf_3 rfl hi1 (by decide) (fun c => ?_) (fun c => ?_)
  · have c_1 := c
    have h := h.1 c_1
    refine a_iconst (pc := 15) X9 dX8_backOf_15 ?_
    exact a_ireturn (pc := 16) X9 E rfl rfl (Nat.le_of_ble_eq_true rfl) (Nat.le_of_ble_eq_true rfl) dX8_backOf_16 ⟨rfl, _, rfl, (show inR (-1) by decide), rfl, h⟩
  · have c_1 := c
    have h := h.2 c_1
    refine a_aload_n (pc := 6) X9 dX8_backOf_6 rfl rfl ?_
    refine a_getR (pc := 7) X9 (q := (a0 + 2)) okX8 3 rfl wF_X8_15 (is8 ha0 hnn) (rf8_3 _ ha0) dX8_backOf_7 ?_
    refine a_iload_n (pc := 10) X9 dX8_backOf_10 rfl rfl ?_
    obtain ⟨g_1, h⟩ := h
    refine b_iald (pc := 11) X9 (ar8_3 ha0 hnn) (Nat.le_of_ble_eq_true rfl) g_1 dX8_backOf_11 ?_
    refine a_goto (pc := 12) (tgt := 16) X9 dX8_backOf_12 rfl ?_
    exact a_ireturn (pc := 16) X9 E rfl rfl (Nat.le_of_ble_eq_true rfl) (Nat.le_of_ble_eq_true rfl) dX8_backOf_16 ⟨rfl, _, rfl, (hG _ _), rfl, h⟩
set_option maxHeartbeats 4000000 in
set_option maxRecDepth 100000 in
theorem m_X9_card {nn : Nat} {i1 : Int} {i2 : Int} {G : GH} {Q : Int → Prop} (hi1 : inR i1) (hi2 : inR i2) (hnn : 272 ≤ nn) (h : f_X9_card i1 i2 G Q (fun _ => False)) : Mt yX9_card cX9_card 4 (some .int) 3 65 0 0 [vr 0, vi i1, vi i2] (SF nn) G (fun v S' G' => S' = SF nn ∧ qI (fun r9 G9 => G9 = G ∧ Q r9) v S' G') (fun E S' G' => S' = SF nn ∧ False) := by
  refine Mt.of (l0 := [some (vr 0), some (vi i1), some (vi i2), none]) (by decide) (Nat.le_of_ble_eq_true rfl) rfl ?_
  intro κ δ ρ0 X9 E hG
  replace X9 : CX κ δ RX9 cX9_card 4 (some .int) := X9
  refine a_aload_n (pc := 0) X9 dX9_card_0 rfl rfl ?_
  refine a_iload_n (pc := 1) X9 dX9_card_1 rfl rfl ?_
  refine a_callV (pc := 2) X9 E (m_X9_sortOf hi1 hnn h) okX9 (is9 hnn) wM_X9_170 w_instanceMethod_X9_sortOf w_selects_X9_sortOf w_initialized_RX9 w_code_X9_sortOf cp_X9_sortOf pn_X9_sortOf rfl (Nat.le_of_ble_eq_true rfl) ⟨Nat.le_of_ble_eq_true rfl, Nat.le_of_ble_eq_true rfl⟩ ⟨Nat.le_of_ble_eq_true rfl, Nat.le_of_ble_eq_true rfl⟩ dX9_card_2 (fun _ _ q => False.elim q) (kIp (fun r_1 hr_1 h => ?_))
  refine a_istore_n (pc := 5) X9 dX9_card_5 rfl (Nat.le_of_ble_eq_true rfl) rfl rfl ?_
  refine a_iload_n (pc := 6) X9 dX9_card_6 rfl rfl ?_
  have c_1 : (i2 < 0 ∨ 3 < i2) ∨ i2 = 0 ∨ i2 = 1 ∨ i2 = 2 ∨ i2 = 3 := by omega
  rcases c_1 with c_1 | c_1 | c_1 | c_1 | c_1
  · refine a_tableOut (pc := 7) (tgt := 86) X9 dX9_card_7 hi2 c_1 rfl ?_
    have h := h.1 c_1
    exact h.elim
  · refine a_tableIn (pc := 7) (tgt := 36) X9 dX9_card_7 hi2 (by omega) (by omega) (by rw [c_1]; rfl) rfl ?_
    have h := h.2.1 c_1
    refine a_aload_n (pc := 36) X9 dX9_card_36 rfl rfl ?_
    refine a_getR (pc := 37) X9 (q := 1) okX9 0 rfl wF_X9_12 (is9 hnn) rf9_0 dX9_card_37 ?_
    refine a_getR (pc := 40) X9 (q := 3) okX7 3 rfl wF_X9_116 (is7 su9_0 hnn) (rf7_3 _ su9_0) dX9_card_40 ?_
    refine a_iload_n (pc := 43) X9 dX9_card_43 rfl rfl ?_
    refine a_callV (pc := 44) X9 E (m_X8_frontOf (su7_3 _ su9_0) hr_1 hnn h) okX8 (is8 (su7_3 _ su9_0) hnn) wM_X9_173 w_instanceMethod_X8_frontOf w_selects_X8_frontOf w_initialized_RX8 w_code_X8_frontOf cp_X8_frontOf pn_X8_frontOf rfl (Nat.le_of_ble_eq_true rfl) ⟨Nat.le_of_ble_eq_true rfl, Nat.le_of_ble_eq_true rfl⟩ ⟨Nat.le_of_ble_eq_true rfl, Nat.le_of_ble_eq_true rfl⟩ dX9_card_44 (fun _ _ q => False.elim q) (kIp (fun r_2 hr_2 h => ?_))
    exact a_ireturn (pc := 47) X9 E rfl rfl (Nat.le_of_ble_eq_true rfl) (Nat.le_of_ble_eq_true rfl) dX9_card_47 ⟨rfl, _, rfl, hr_2, rfl, h⟩
  · refine a_tableIn (pc := 7) (tgt := 48) X9 dX9_card_7 hi2 (by omega) (by omega) (by rw [c_1]; rfl) rfl ?_
    have h := h.2.2.1 c_1
    refine a_aload_n (pc := 48) X9 dX9_card_48 rfl rfl ?_
    refine a_getR (pc := 49) X9 (q := 1) okX9 0 rfl wF_X9_12 (is9 hnn) rf9_0 dX9_card_49 ?_
    refine a_getR (pc := 52) X9 (q := 3) okX7 3 rfl wF_X9_116 (is7 su9_0 hnn) (rf7_3 _ su9_0) dX9_card_52 ?_
    refine a_iload_n (pc := 55) X9 dX9_card_55 rfl rfl ?_
    refine a_callV (pc := 56) X9 E (m_X8_backOf (su7_3 _ su9_0) hr_1 hnn h) okX8 (is8 (su7_3 _ su9_0) hnn) wM_X9_176 w_instanceMethod_X8_backOf w_selects_X8_backOf w_initialized_RX8 w_code_X8_backOf cp_X8_backOf pn_X8_backOf rfl (Nat.le_of_ble_eq_true rfl) ⟨Nat.le_of_ble_eq_true rfl, Nat.le_of_ble_eq_true rfl⟩ ⟨Nat.le_of_ble_eq_true rfl, Nat.le_of_ble_eq_true rfl⟩ dX9_card_56 (fun _ _ q => False.elim q) (kIp (fun r_3 hr_3 h => ?_))
    exact a_ireturn (pc := 59) X9 E rfl rfl (Nat.le_of_ble_eq_true rfl) (Nat.le_of_ble_eq_true rfl) dX9_card_59 ⟨rfl, _, rfl, hr_3, rfl, h⟩
  · refine a_tableIn (pc := 7) (tgt := 60) X9 dX9_card_7 hi2 (by omega) (by omega) (by rw [c_1]; rfl) rfl ?_
    have h := h.2.2.2.1 c_1
    refine a_aload_n (pc := 60) X9 dX9_card_60 rfl rfl ?_
    refine a_getR (pc := 61) X9 (q := 1) okX9 0 rfl wF_X9_12 (is9 hnn) rf9_0 dX9_card_61 ?_
    refine a_getR (pc := 64) X9 (q := 3) okX7 3 rfl wF_X9_116 (is7 su9_0 hnn) (rf7_3 _ su9_0) dX9_card_64 ?_
    refine a_getR (pc := 67) X9 (q := 6) okX8 4 rfl wF_X9_179 (is8 (su7_3 _ su9_0) hnn) (rf8_4 _ (su7_3 _ su9_0)) dX9_card_67 ?_
    refine a_iload_n (pc := 70) X9 dX9_card_70 rfl rfl ?_
    obtain ⟨g_1, h⟩ := h
    refine b_iald (pc := 71) X9 (ar8_4 (su7_3 _ su9_0) hnn) (Nat.le_of_ble_eq_true rfl) g_1 dX9_card_71 ?_
    exact a_ireturn (pc := 72) X9 E rfl rfl (Nat.le_of_ble_eq_true rfl) (Nat.le_of_ble_eq_true rfl) dX9_card_72 ⟨rfl, _, rfl, (hG _ _), rfl, h⟩
  · refine a_tableIn (pc := 7) (tgt := 73) X9 dX9_card_7 hi2 (by omega) (by omega) (by rw [c_1]; rfl) rfl ?_
    have h := h.2.2.2.2 c_1
    refine a_aload_n (pc := 73) X9 dX9_card_73 rfl rfl ?_
    refine a_getR (pc := 74) X9 (q := 1) okX9 0 rfl wF_X9_12 (is9 hnn) rf9_0 dX9_card_74 ?_
    refine a_getR (pc := 77) X9 (q := 15) okX7 5 rfl wF_X9_138 (is7 su9_0 hnn) (rf7_5 _ su9_0) dX9_card_77 ?_
    refine a_getR (pc := 80) X9 (q := 20) okX0 5 rfl wF_X9_182 (is0 (su7_5 _ su9_0) hnn) (rf0_5 _ (su7_5 _ su9_0)) dX9_card_80 ?_
    refine a_iload_n (pc := 83) X9 dX9_card_83 rfl rfl ?_
    obtain ⟨g_2, h⟩ := h
    refine b_iald (pc := 84) X9 (ar0_5 (su7_5 _ su9_0) hnn) (Nat.le_of_ble_eq_true rfl) g_2 dX9_card_84 ?_
    exact a_ireturn (pc := 85) X9 E rfl rfl (Nat.le_of_ble_eq_true rfl) (Nat.le_of_ble_eq_true rfl) dX9_card_85 ⟨rfl, _, rfl, (hG _ _), rfl, h⟩
set_option maxHeartbeats 4000000 in
set_option maxRecDepth 100000 in
theorem m_X9_needArgument {nn : Nat} {i0 : Int} {G : GH} {Q : Prop} (hi0 : inR i0) (hnn : 272 ≤ nn) (h : f_X9_needArgument i0 Q (fun _ => False)) : Mt yX9_needArgument cX9_needArgument 1 none 0 0 0 0 [vi i0] (SF nn) G (fun v S' G' => S' = SF nn ∧ qV (fun G9 => G9 = G ∧ Q) v S' G') (fun E S' G' => S' = SF nn ∧ False) := by
  refine Mt.of (l0 := [some (vi i0)]) (by decide) (Nat.le_of_ble_eq_true rfl) rfl ?_
  intro κ δ ρ0 X9 E hG
  replace X9 : CX κ δ RX9 cX9_needArgument 1 none := X9
  refine a_iload_n (pc := 0) X9 dX9_needArgument_0 rfl rfl ?_
  refine a_if_ne (pc := 1) (tgt := 15) X9 dX9_needArgument_1 rfl hi0 (fun c => ?_) (fun c => ?_)
  · have c_1 := c
    have h := h.1 c_1
    exact a_return (pc := 15) X9 E (Nat.le_of_ble_eq_true rfl) (Nat.le_of_ble_eq_true rfl) dX9_needArgument_15 ⟨rfl, rfl, rfl, h⟩
  · have c_1 := c
    have h := h.2 c_1
    exact h.elim
set_option maxHeartbeats 4000000 in
set_option maxRecDepth 100000 in
theorem m_X9_needDigit {nn : Nat} {i0 : Int} {G : GH} {Q : Prop} (hi0 : inR i0) (hnn : 272 ≤ nn) (h : f_X9_needDigit i0 Q (fun _ => False)) : Mt yX9_needDigit cX9_needDigit 1 none 1 22 0 0 [vi i0] (SF nn) G (fun v S' G' => S' = SF nn ∧ qV (fun G9 => G9 = G ∧ Q) v S' G') (fun E S' G' => S' = SF nn ∧ False) := by
  refine Mt.of (l0 := [some (vi i0)]) (by decide) (Nat.le_of_ble_eq_true rfl) rfl ?_
  intro κ δ ρ0 X9 E hG
  replace X9 : CX κ δ RX9 cX9_needDigit 1 none := X9
  refine a_iload_n (pc := 0) X9 dX9_needDigit_0 rfl rfl ?_
  refine a_iconst (pc := 1) X9 dX9_needDigit_1 ?_
  refine a_bipush (pc := 2) X9 dX9_needDigit_2 rfl ?_
  refine a_callS (pc := 4) X9 E (m_X9_within hi0 (show inR 0 by decide) (show inR 9 by decide) hnn h) wM_X9_199 w_static_X9_within w_initialized_RX9 w_code_X9_within cp_X9_within pn_X9_within rfl (Nat.le_of_ble_eq_true rfl) ⟨Nat.le_of_ble_eq_true rfl, Nat.le_of_ble_eq_true rfl⟩ ⟨Nat.le_of_ble_eq_true rfl, Nat.le_of_ble_eq_true rfl⟩ dX9_needDigit_4 (fun _ _ q => False.elim q) (kZp (fun r_1 hr_1 h => ?_))
  refine a_callS (pc := 7) X9 E (m_X9_needArgument (bool_inR hr_1) hnn h) wM_X9_228 w_static_X9_needArgument w_initialized_RX9 w_code_X9_needArgument cp_X9_needArgument pn_X9_needArgument rfl (Nat.le_of_ble_eq_true rfl) ⟨Nat.le_of_ble_eq_true rfl, Nat.le_of_ble_eq_true rfl⟩ ⟨Nat.le_of_ble_eq_true rfl, Nat.le_of_ble_eq_true rfl⟩ dX9_needDigit_7 (fun _ _ q => False.elim q) (kVp (fun h => ?_))
  exact a_return (pc := 10) X9 E (Nat.le_of_ble_eq_true rfl) (Nat.le_of_ble_eq_true rfl) dX9_needDigit_10 ⟨rfl, rfl, rfl, h⟩
set_option maxHeartbeats 4000000 in
set_option maxRecDepth 100000 in
theorem m_X8_isTurnable {nn : Nat} {i0 : Int} {G : GH} {Q : Int → Prop} (hi0 : inR i0) (hnn : 272 ≤ nn) (h : f_X8_isTurnable i0 Q) : Mt yX8_isTurnable cX8_isTurnable 1 (some .boolean) 0 0 0 0 [vi i0] (SF nn) G (fun v S' G' => S' = SF nn ∧ qZ (fun r9 G9 => G9 = G ∧ Q r9) v S' G') (fun E S' G' => S' = SF nn ∧ False) := by
  refine Mt.of (l0 := [some (vi i0)]) (by decide) (Nat.le_of_ble_eq_true rfl) rfl ?_
  intro κ δ ρ0 X9 E hG
  replace X9 : CX κ δ RX8 cX8_isTurnable 1 (some .boolean) := X9
  refine a_iload_n (pc := 0) X9 dX8_isTurnable_0 rfl rfl ?_
  refine a_bipush (pc := 1) X9 dX8_isTurnable_1 rfl ?_
  refine a_icmp_eq (pc := 3) (tgt := 12) X9 dX8_isTurnable_3 rfl hi0 (by decide) (fun c => ?_) (fun c => ?_)
  · have c_1 := c
    have h := h.1 c_1
    refine a_iconst (pc := 12) X9 dX8_isTurnable_12 ?_
    refine a_goto (pc := 13) (tgt := 17) X9 dX8_isTurnable_13 rfl ?_
    exact a_ireturn (pc := 17) X9 E rfl (fit_bool (Or.inr rfl)).1 (Nat.le_of_ble_eq_true rfl) (Nat.le_of_ble_eq_true rfl) dX8_isTurnable_17 ⟨rfl, _, rfl, (Or.inr rfl), rfl, h⟩
  · have c_1 := c
    have h := h.2 c_1
    refine a_iload_n (pc := 6) X9 dX8_isTurnable_6 rfl rfl ?_
    refine a_bipush (pc := 7) X9 dX8_isTurnable_7 rfl ?_
    refine a_icmp_ne (pc := 9) (tgt := 16) X9 dX8_isTurnable_9 rfl hi0 (by decide) (fun c => ?_) (fun c => ?_)
    · have c_2 := c
      have h := h.1 c_2
      refine a_iconst (pc := 16) X9 dX8_isTurnable_16 ?_
      exact a_ireturn (pc := 17) X9 E rfl (fit_bool (Or.inl rfl)).1 (Nat.le_of_ble_eq_true rfl) (Nat.le_of_ble_eq_true rfl) dX8_isTurnable_17 ⟨rfl, _, rfl, (Or.inl rfl), rfl, h⟩
    · have c_2 := c
      have h := h.2 c_2
      refine a_iconst (pc := 12) X9 dX8_isTurnable_12 ?_
      refine a_goto (pc := 13) (tgt := 17) X9 dX8_isTurnable_13 rfl ?_
      exact a_ireturn (pc := 17) X9 E rfl (fit_bool (Or.inr rfl)).1 (Nat.le_of_ble_eq_true rfl) (Nat.le_of_ble_eq_true rfl) dX8_isTurnable_17 ⟨rfl, _, rfl, (Or.inr rfl), rfl, h⟩
set_option maxHeartbeats 4000000 in
set_option maxRecDepth 100000 in
theorem m_X8_otherOfBoth {nn : Nat} {i0 : Int} {G : GH} {Q : Int → Prop} (hi0 : inR i0) (hnn : 272 ≤ nn) (h : f_X8_otherOfBoth i0 Q) : Mt yX8_otherOfBoth cX8_otherOfBoth 1 (some .int) 0 0 0 0 [vi i0] (SF nn) G (fun v S' G' => S' = SF nn ∧ qI (fun r9 G9 => G9 = G ∧ Q r9) v S' G') (fun E S' G' => S' = SF nn ∧ False) := by
  refine Mt.of (l0 := [some (vi i0)]) (by decide) (Nat.le_of_ble_eq_true rfl) rfl ?_
  intro κ δ ρ0 X9 E hG
  replace X9 : CX κ δ RX8 cX8_otherOfBoth 1 (some .int) := X9
  refine a_bipush (pc := 0) X9 dX8_otherOfBoth_0 rfl ?_
  refine a_iload_n (pc := 2) X9 dX8_otherOfBoth_2 rfl rfl ?_
  refine a_isub (pc := 3) X9 dX8_otherOfBoth_3 ?_
  obtain ⟨g_1, h⟩ := h
  exact a_ireturn (pc := 4) X9 E rfl rfl (Nat.le_of_ble_eq_true rfl) (Nat.le_of_ble_eq_true rfl) dX8_otherOfBoth_4 ⟨rfl, _, rfl, g_1, rfl, h⟩
set_option maxHeartbeats 4000000 in
set_option maxRecDepth 100000 in
theorem m_X8_wayOf {nn : Nat} {a0 : Nat} {i1 : Int} {i2 : Int} {G : GH} {Q : Int → Prop} (ha0 : a0 ∈ L8) (hi1 : inR i1) (hi2 : inR i2) (hnn : 272 ≤ nn) (h : f_X8_wayOf a0 i1 i2 G Q) : Mt yX8_wayOf cX8_wayOf 5 (some .int) 1 21 0 0 [vr a0, vi i1, vi i2] (SF nn) G (fun v S' G' => S' = SF nn ∧ qI (fun r9 G9 => G9 = G ∧ Q r9) v S' G') (fun E S' G' => S' = SF nn ∧ False) := by
  refine Mt.of (l0 := [some (vr a0), some (vi i1), some (vi i2), none, none]) (by decide) (Nat.le_of_ble_eq_true rfl) rfl ?_
  intro κ δ ρ0 X9 E hG
  replace X9 : CX κ δ RX8 cX8_wayOf 5 (some .int) := X9
  refine a_aload_n (pc := 0) X9 dX8_wayOf_0 rfl rfl ?_
  refine a_iload_n (pc := 1) X9 dX8_wayOf_1 rfl rfl ?_
  refine a_callV (pc := 2) X9 E (m_X8_frontOf ha0 hi1 hnn h) okX8 (is8 ha0 hnn) wM_X8_62 w_instanceMethod_X8_frontOf w_selects_X8_frontOf w_initialized_RX8 w_code_X8_frontOf cp_X8_frontOf pn_X8_frontOf rfl (Nat.le_of_ble_eq_true rfl) ⟨Nat.le_of_ble_eq_true rfl, Nat.le_of_ble_eq_true rfl⟩ ⟨Nat.le_of_ble_eq_true rfl, Nat.le_of_ble_eq_true rfl⟩ dX8_wayOf_2 (fun _ _ q => False.elim q) (kIp (fun r_1 hr_1 h => ?_))
  refine a_istore_n (pc := 5) X9 dX8_wayOf_5 rfl (Nat.le_of_ble_eq_true rfl) rfl rfl ?_
  refine a_aload_n (pc := 6) X9 dX8_wayOf_6 rfl rfl ?_
  refine a_iload_n (pc := 7) X9 dX8_wayOf_7 rfl rfl ?_
  refine a_callV (pc := 8) X9 E (m_X8_backOf ha0 hi1 hnn h) okX8 (is8 ha0 hnn) wM_X8_66 w_instanceMethod_X8_backOf w_selects_X8_backOf w_initialized_RX8 w_code_X8_backOf cp_X8_backOf pn_X8_backOf rfl (Nat.le_of_ble_eq_true rfl) ⟨Nat.le_of_ble_eq_true rfl, Nat.le_of_ble_eq_true rfl⟩ ⟨Nat.le_of_ble_eq_true rfl, Nat.le_of_ble_eq_true rfl⟩ dX8_wayOf_8 (fun _ _ q => False.elim q) (kIp (fun r_2 hr_2 h => ?_))
  refine a_istore (pc := 11) X9 dX8_wayOf_11 (Nat.le_of_ble_eq_true rfl) rfl rfl ?_
  refine a_iload_n (pc := 13) X9 dX8_wayOf_13 rfl rfl ?_
  refine a_iload_n (pc := 14) X9 dX8_wayOf_14 rfl rfl ?_
  refine a_icmp_ne (pc := 15) (tgt := 20) X9 dX8_wayOf_15 rfl hr_1 hi2 (fun c => ?_) (fun c => ?_)
  · have c_1 := c
    have h := h.1 c_1
    refine a_iload (pc := 20) X9 dX8_wayOf_20 rfl ?_
    refine a_iload_n (pc := 22) X9 dX8_wayOf_22 rfl rfl ?_
    refine a_icmp_ne (pc := 23) (tgt := 28) X9 dX8_wayOf_23 rfl hr_2 hi2 (fun c => ?_) (fun c => ?_)
    · have c_2 := c
      have h := h.1 c_2
      refine a_aload_n (pc := 28) X9 dX8_wayOf_28 rfl rfl ?_
      refine a_getI (pc := 29) X9 okX8 0 rfl wF_X8_36 (is8 ha0 hnn) dX8_wayOf_29 ?_
      refine a_if_eq (pc := 32) (tgt := 42) X9 dX8_wayOf_32 rfl (hG _ _) (fun c => ?_) (fun c => ?_)
      · have c_3 := c
        have h := h.1 c_3
        refine a_iconst (pc := 42) X9 dX8_wayOf_42 ?_
        exact a_ireturn (pc := 43) X9 E rfl rfl (Nat.le_of_ble_eq_true rfl) (Nat.le_of_ble_eq_true rfl) dX8_wayOf_43 ⟨rfl, _, rfl, (show inR (-1) by decide), rfl, h⟩
      · have c_3 := c
        have h := h.2 c_3
        refine a_iload_n (pc := 35) X9 dX8_wayOf_35 rfl rfl ?_
        refine a_callS (pc := 36) X9 E (m_X8_isTurnable hi2 hnn h) wM_X8_69 w_static_X8_isTurnable w_initialized_RX8 w_code_X8_isTurnable cp_X8_isTurnable pn_X8_isTurnable rfl (Nat.le_of_ble_eq_true rfl) ⟨Nat.le_of_ble_eq_true rfl, Nat.le_of_ble_eq_true rfl⟩ ⟨Nat.le_of_ble_eq_true rfl, Nat.le_of_ble_eq_true rfl⟩ dX8_wayOf_36 (fun _ _ q => False.elim q) (kZp (fun r_3 hr_3 h => ?_))
        refine a_if_ne (pc := 39) (tgt := 44) X9 dX8_wayOf_39 rfl (bool_inR hr_3) (fun c => ?_) (fun c => ?_)
        · have c_4 := c
          have h := h.1 c_4
          refine a_iload_n (pc := 44) X9 dX8_wayOf_44 rfl rfl ?_
          refine a_iload_n (pc := 45) X9 dX8_wayOf_45 rfl rfl ?_
          refine a_callS (pc := 46) X9 E (m_X8_otherOfBoth hi2 hnn h) wM_X8_73 w_static_X8_otherOfBoth w_initialized_RX8 w_code_X8_otherOfBoth cp_X8_otherOfBoth pn_X8_otherOfBoth rfl (Nat.le_of_ble_eq_true rfl) ⟨Nat.le_of_ble_eq_true rfl, Nat.le_of_ble_eq_true rfl⟩ ⟨Nat.le_of_ble_eq_true rfl, Nat.le_of_ble_eq_true rfl⟩ dX8_wayOf_46 (fun _ _ q => False.elim q) (kIp (fun r_4 hr_4 h => ?_))
          refine a_icmp_ne (pc := 49) (tgt := 54) X9 dX8_wayOf_49 rfl hr_1 hr_4 (fun c => ?_) (fun c => ?_)
          · have c_5 := c
            have h := h.1 c_5
            refine a_iload (pc := 54) X9 dX8_wayOf_54 rfl ?_
            refine a_iload_n (pc := 56) X9 dX8_wayOf_56 rfl rfl ?_
            refine a_callS (pc := 57) X9 E (m_X8_otherOfBoth hi2 hnn h) wM_X8_73 w_static_X8_otherOfBoth w_initialized_RX8 w_code_X8_otherOfBoth cp_X8_otherOfBoth pn_X8_otherOfBoth rfl (Nat.le_of_ble_eq_true rfl) ⟨Nat.le_of_ble_eq_true rfl, Nat.le_of_ble_eq_true rfl⟩ ⟨Nat.le_of_ble_eq_true rfl, Nat.le_of_ble_eq_true rfl⟩ dX8_wayOf_57 (fun _ _ q => False.elim q) (kIp (fun r_5 hr_5 h => ?_))
            refine a_icmp_ne (pc := 60) (tgt := 67) X9 dX8_wayOf_60 rfl hr_2 hr_5 (fun c => ?_) (fun c => ?_)
            · have c_6 := c
              have h := h.1 c_6
              refine a_iconst (pc := 67) X9 dX8_wayOf_67 ?_
              exact a_ireturn (pc := 68) X9 E rfl rfl (Nat.le_of_ble_eq_true rfl) (Nat.le_of_ble_eq_true rfl) dX8_wayOf_68 ⟨rfl, _, rfl, (show inR (-1) by decide), rfl, h⟩
            · have c_6 := c
              have h := h.2 c_6
              refine a_iconst (pc := 63) X9 dX8_wayOf_63 ?_
              refine a_goto (pc := 64) (tgt := 68) X9 dX8_wayOf_64 rfl ?_
              exact a_ireturn (pc := 68) X9 E rfl rfl (Nat.le_of_ble_eq_true rfl) (Nat.le_of_ble_eq_true rfl) dX8_wayOf_68 ⟨rfl, _, rfl, (show inR 3 by decide), rfl, h⟩
          · have c_5 := c
            have h := h.2 c_5
            refine a_iconst (pc := 52) X9 dX8_wayOf_52 ?_
            exact a_ireturn (pc := 53) X9 E rfl rfl (Nat.le_of_ble_eq_true rfl) (Nat.le_of_ble_eq_true rfl) dX8_wayOf_53 ⟨rfl, _, rfl, (show inR 2 by decide), rfl, h⟩
        · have c_4 := c
          have h := h.2 c_4
          refine a_iconst (pc := 42) X9 dX8_wayOf_42 ?_
          exact a_ireturn (pc := 43) X9 E rfl rfl (Nat.le_of_ble_eq_true rfl) (Nat.le_of_ble_eq_true rfl) dX8_wayOf_43 ⟨rfl, _, rfl, (show inR (-1) by decide), rfl, h⟩
    · have c_2 := c
      have h := h.2 c_2
      refine a_iconst (pc := 26) X9 dX8_wayOf_26 ?_
      exact a_ireturn (pc := 27) X9 E rfl rfl (Nat.le_of_ble_eq_true rfl) (Nat.le_of_ble_eq_true rfl) dX8_wayOf_27 ⟨rfl, _, rfl, (show inR 1 by decide), rfl, h⟩
  · have c_1 := c
    have h := h.2 c_1
    refine a_iconst (pc := 18) X9 dX8_wayOf_18 ?_
    exact a_ireturn (pc := 19) X9 E rfl rfl (Nat.le_of_ble_eq_true rfl) (Nat.le_of_ble_eq_true rfl) dX8_wayOf_19 ⟨rfl, _, rfl, (show inR 0 by decide), rfl, h⟩
set_option maxHeartbeats 4000000 in
set_option maxRecDepth 100000 in
theorem m_X9_way {nn : Nat} {i1 : Int} {i2 : Int} {G : GH} {Q : Int → Prop} (hi1 : inR i1) (hi2 : inR i2) (hnn : 272 ≤ nn) (h : f_X9_way i1 i2 G Q (fun _ => False)) : Mt yX9_way cX9_way 4 (some .int) 3 65 0 0 [vr 0, vi i1, vi i2] (SF nn) G (fun v S' G' => S' = SF nn ∧ qI (fun r9 G9 => G9 = G ∧ Q r9) v S' G') (fun E S' G' => S' = SF nn ∧ False) := by
  refine Mt.of (l0 := [some (vr 0), some (vi i1), some (vi i2), none]) (by decide) (Nat.le_of_ble_eq_true rfl) rfl ?_
  intro κ δ ρ0 X9 E hG
  replace X9 : CX κ δ RX9 cX9_way 4 (some .int) := X9
  refine a_aload_n (pc := 0) X9 dX9_way_0 rfl rfl ?_
  refine a_iload_n (pc := 1) X9 dX9_way_1 rfl rfl ?_
  refine a_callV (pc := 2) X9 E (m_X9_sortOf hi1 hnn h) okX9 (is9 hnn) wM_X9_170 w_instanceMethod_X9_sortOf w_selects_X9_sortOf w_initialized_RX9 w_code_X9_sortOf cp_X9_sortOf pn_X9_sortOf rfl (Nat.le_of_ble_eq_true rfl) ⟨Nat.le_of_ble_eq_true rfl, Nat.le_of_ble_eq_true rfl⟩ ⟨Nat.le_of_ble_eq_true rfl, Nat.le_of_ble_eq_true rfl⟩ dX9_way_2 (fun _ _ q => False.elim q) (kIp (fun r_1 hr_1 h => ?_))
  refine a_istore_n (pc := 5) X9 dX9_way_5 rfl (Nat.le_of_ble_eq_true rfl) rfl rfl ?_
  refine a_iload_n (pc := 6) X9 dX9_way_6 rfl rfl ?_
  refine a_callS (pc := 7) X9 E (m_X9_needDigit hi2 hnn h) wM_X9_185 w_static_X9_needDigit w_initialized_RX9 w_code_X9_needDigit cp_X9_needDigit pn_X9_needDigit rfl (Nat.le_of_ble_eq_true rfl) ⟨Nat.le_of_ble_eq_true rfl, Nat.le_of_ble_eq_true rfl⟩ ⟨Nat.le_of_ble_eq_true rfl, Nat.le_of_ble_eq_true rfl⟩ dX9_way_7 (fun _ _ q => False.elim q) (kVp (fun h => ?_))
  refine a_aload_n (pc := 10) X9 dX9_way_10 rfl rfl ?_
  refine a_getR (pc := 11) X9 (q := 1) okX9 0 rfl wF_X9_12 (is9 hnn) rf9_0 dX9_way_11 ?_
  refine a_getR (pc := 14) X9 (q := 3) okX7 3 rfl wF_X9_116 (is7 su9_0 hnn) (rf7_3 _ su9_0) dX9_way_14 ?_
  refine a_iload_n (pc := 17) X9 dX9_way_17 rfl rfl ?_
  refine a_iload_n (pc := 18) X9 dX9_way_18 rfl rfl ?_
  refine a_callV (pc := 19) X9 E (m_X8_wayOf (su7_3 _ su9_0) hr_1 hi2 hnn h) okX8 (is8 (su7_3 _ su9_0) hnn) wM_X9_189 w_instanceMethod_X8_wayOf w_selects_X8_wayOf w_initialized_RX8 w_code_X8_wayOf cp_X8_wayOf pn_X8_wayOf rfl (Nat.le_of_ble_eq_true rfl) ⟨Nat.le_of_ble_eq_true rfl, Nat.le_of_ble_eq_true rfl⟩ ⟨Nat.le_of_ble_eq_true rfl, Nat.le_of_ble_eq_true rfl⟩ dX9_way_19 (fun _ _ q => False.elim q) (kIp (fun r_3 hr_3 h => ?_))
  exact a_ireturn (pc := 22) X9 E rfl rfl (Nat.le_of_ble_eq_true rfl) (Nat.le_of_ble_eq_true rfl) dX9_way_22 ⟨rfl, _, rfl, hr_3, rfl, h⟩
set_option maxHeartbeats 4000000 in
set_option maxRecDepth 100000 in
theorem m_X9_lends {nn : Nat} {i1 : Int} {i2 : Int} {G : GH} {Q : Int → Prop} (hi1 : inR i1) (hi2 : inR i2) (hnn : 272 ≤ nn) (h : f_X9_lends i1 i2 G Q (fun _ => False)) : Mt yX9_lends cX9_lends 3 (some .int) 2 43 0 0 [vr 0, vi i1, vi i2] (SF nn) G (fun v S' G' => S' = SF nn ∧ qI (fun r9 G9 => G9 = G ∧ Q r9) v S' G') (fun E S' G' => S' = SF nn ∧ False) := by
  refine Mt.of (l0 := [some (vr 0), some (vi i1), some (vi i2)]) (by decide) (Nat.le_of_ble_eq_true rfl) rfl ?_
  intro κ δ ρ0 X9 E hG
  replace X9 : CX κ δ RX9 cX9_lends 3 (some .int) := X9
  refine a_aload_n (pc := 0) X9 dX9_lends_0 rfl rfl ?_
  refine a_iload_n (pc := 1) X9 dX9_lends_1 rfl rfl ?_
  refine a_callV (pc := 2) X9 E (m_X9_needFriend hi1 hnn h) okX9 (is9 hnn) wM_X9_193 w_instanceMethod_X9_needFriend w_selects_X9_needFriend w_initialized_RX9 w_code_X9_needFriend cp_X9_needFriend pn_X9_needFriend rfl (Nat.le_of_ble_eq_true rfl) ⟨Nat.le_of_ble_eq_true rfl, Nat.le_of_ble_eq_true rfl⟩ ⟨Nat.le_of_ble_eq_true rfl, Nat.le_of_ble_eq_true rfl⟩ dX9_lends_2 (fun _ _ q => False.elim q) (kVp (fun h => ?_))
  refine a_iload_n (pc := 5) X9 dX9_lends_5 rfl rfl ?_
  refine a_callS (pc := 6) X9 E (m_X9_needDigit hi2 hnn h) wM_X9_185 w_static_X9_needDigit w_initialized_RX9 w_code_X9_needDigit cp_X9_needDigit pn_X9_needDigit rfl (Nat.le_of_ble_eq_true rfl) ⟨Nat.le_of_ble_eq_true rfl, Nat.le_of_ble_eq_true rfl⟩ ⟨Nat.le_of_ble_eq_true rfl, Nat.le_of_ble_eq_true rfl⟩ dX9_lends_6 (fun _ _ q => False.elim q) (kVp (fun h => ?_))
  refine a_aload_n (pc := 9) X9 dX9_lends_9 rfl rfl ?_
  refine a_getR (pc := 10) X9 (q := 1) okX9 0 rfl wF_X9_12 (is9 hnn) rf9_0 dX9_lends_10 ?_
  refine a_getR (pc := 13) X9 (q := 3) okX7 3 rfl wF_X9_116 (is7 su9_0 hnn) (rf7_3 _ su9_0) dX9_lends_13 ?_
  refine a_getR (pc := 16) X9 (q := 8) okX8 7 rfl wF_X9_196 (is8 (su7_3 _ su9_0) hnn) (rf8_7 _ (su7_3 _ su9_0)) dX9_lends_16 ?_
  refine a_iload_n (pc := 19) X9 dX9_lends_19 rfl rfl ?_
  refine a_bipush (pc := 20) X9 dX9_lends_20 rfl ?_
  refine a_imul (pc := 22) X9 dX9_lends_22 ?_
  refine a_iload_n (pc := 23) X9 dX9_lends_23 rfl rfl ?_
  refine a_iadd (pc := 24) X9 dX9_lends_24 ?_
  obtain ⟨g_1, h⟩ := h
  refine b_iald (pc := 25) X9 (ar8_7 (su7_3 _ su9_0) hnn) (Nat.le_of_ble_eq_true rfl) g_1 dX9_lends_25 ?_
  exact a_ireturn (pc := 26) X9 E rfl rfl (Nat.le_of_ble_eq_true rfl) (Nat.le_of_ble_eq_true rfl) dX9_lends_26 ⟨rfl, _, rfl, (hG _ _), rfl, h⟩
set_option maxHeartbeats 4000000 in
set_option maxRecDepth 100000 in
theorem m_X9_loan {nn : Nat} {i1 : Int} {i2 : Int} {G : GH} {Q : Int → Prop} (hi1 : inR i1) (hi2 : inR i2) (hnn : 272 ≤ nn) (h : f_X9_loan i1 i2 G Q (fun _ => False)) : Mt yX9_loan cX9_loan 3 (some .int) 1 22 0 0 [vr 0, vi i1, vi i2] (SF nn) G (fun v S' G' => S' = SF nn ∧ qI (fun r9 G9 => G9 = G ∧ Q r9) v S' G') (fun E S' G' => S' = SF nn ∧ False) := by
  refine Mt.of (l0 := [some (vr 0), some (vi i1), some (vi i2)]) (by decide) (Nat.le_of_ble_eq_true rfl) rfl ?_
  intro κ δ ρ0 X9 E hG
  replace X9 : CX κ δ RX9 cX9_loan 3 (some .int) := X9
  refine a_iload_n (pc := 0) X9 dX9_loan_0 rfl rfl ?_
  refine a_iconst (pc := 1) X9 dX9_loan_1 ?_
  refine a_aload_n (pc := 2) X9 dX9_loan_2 rfl rfl ?_
  refine a_getR (pc := 3) X9 (q := 1) okX9 0 rfl wF_X9_12 (is9 hnn) rf9_0 dX9_loan_3 ?_
  refine a_getR (pc := 6) X9 (q := 3) okX7 3 rfl wF_X9_116 (is7 su9_0 hnn) (rf7_3 _ su9_0) dX9_loan_6 ?_
  refine a_getI (pc := 9) X9 okX8 8 rfl wF_X9_135 (is8 (su7_3 _ su9_0) hnn) dX9_loan_9 ?_
  refine a_iconst (pc := 12) X9 dX9_loan_12 ?_
  refine a_isub (pc := 13) X9 dX9_loan_13 ?_
  obtain ⟨g_1, h⟩ := h
  refine a_callS (pc := 14) X9 E (m_X9_within hi1 (show inR 0 by decide) g_1 hnn h) wM_X9_199 w_static_X9_within w_initialized_RX9 w_code_X9_within cp_X9_within pn_X9_within rfl (Nat.le_of_ble_eq_true rfl) ⟨Nat.le_of_ble_eq_true rfl, Nat.le_of_ble_eq_true rfl⟩ ⟨Nat.le_of_ble_eq_true rfl, Nat.le_of_ble_eq_true rfl⟩ dX9_loan_14 (fun _ _ q => False.elim q) (kZp (fun r_1 hr_1 h => ?_))
  refine a_callS (pc := 17) X9 E (m_X9_needIndex (bool_inR hr_1) hnn h) wM_X9_203 w_static_X9_needIndex w_initialized_RX9 w_code_X9_needIndex cp_X9_needIndex pn_X9_needIndex rfl (Nat.le_of_ble_eq_true rfl) ⟨Nat.le_of_ble_eq_true rfl, Nat.le_of_ble_eq_true rfl⟩ ⟨Nat.le_of_ble_eq_true rfl, Nat.le_of_ble_eq_true rfl⟩ dX9_loan_17 (fun _ _ q => False.elim q) (kVp (fun h => ?_))
  refine a_iload_n (pc := 20) X9 dX9_loan_20 rfl rfl ?_
  have c_1 : (i2 < 0 ∨ 3 < i2) ∨ i2 = 0 ∨ i2 = 1 ∨ i2 = 2 ∨ i2 = 3 := by omega
  rcases c_1 with c_1 | c_1 | c_1 | c_1 | c_1
  · refine a_tableOut (pc := 21) (tgt := 110) X9 dX9_loan_21 hi2 c_1 rfl ?_
    have h := h.1 c_1
    exact h.elim
  · refine a_tableIn (pc := 21) (tgt := 52) X9 dX9_loan_21 hi2 (by omega) (by omega) (by rw [c_1]; rfl) rfl ?_
    have h := h.2.1 c_1
    refine a_aload_n (pc := 52) X9 dX9_loan_52 rfl rfl ?_
    refine a_getR (pc := 53) X9 (q := 1) okX9 0 rfl wF_X9_12 (is9 hnn) rf9_0 dX9_loan_53 ?_
    refine a_getR (pc := 56) X9 (q := 3) okX7 3 rfl wF_X9_116 (is7 su9_0 hnn) (rf7_3 _ su9_0) dX9_loan_56 ?_
    refine a_getR (pc := 59) X9 (q := 9) okX8 9 rfl wF_X9_207 (is8 (su7_3 _ su9_0) hnn) (rf8_9 _ (su7_3 _ su9_0)) dX9_loan_59 ?_
    refine a_iload_n (pc := 62) X9 dX9_loan_62 rfl rfl ?_
    obtain ⟨g_2, h⟩ := h
    refine b_iald (pc := 63) X9 (ar8_9 (su7_3 _ su9_0) hnn) (Nat.le_of_ble_eq_true rfl) g_2 dX9_loan_63 ?_
    refine a_bipush (pc := 64) X9 dX9_loan_64 rfl ?_
    obtain ⟨g_3, h⟩ := h
    refine a_idiv (pc := 66) X9 dX9_loan_66 ⟨g_3, (hG _ _).2⟩ ⟨(by decide), (by decide)⟩ ?_
    exact a_ireturn (pc := 67) X9 E rfl rfl (Nat.le_of_ble_eq_true rfl) (Nat.le_of_ble_eq_true rfl) dX9_loan_67 ⟨rfl, _, rfl, (inR_div (hG _ _) g_3 (by decide)), rfl, h⟩
  · refine a_tableIn (pc := 21) (tgt := 68) X9 dX9_loan_21 hi2 (by omega) (by omega) (by rw [c_1]; rfl) rfl ?_
    have h := h.2.2.1 c_1
    refine a_aload_n (pc := 68) X9 dX9_loan_68 rfl rfl ?_
    refine a_getR (pc := 69) X9 (q := 1) okX9 0 rfl wF_X9_12 (is9 hnn) rf9_0 dX9_loan_69 ?_
    refine a_getR (pc := 72) X9 (q := 3) okX7 3 rfl wF_X9_116 (is7 su9_0 hnn) (rf7_3 _ su9_0) dX9_loan_72 ?_
    refine a_getR (pc := 75) X9 (q := 9) okX8 9 rfl wF_X9_207 (is8 (su7_3 _ su9_0) hnn) (rf8_9 _ (su7_3 _ su9_0)) dX9_loan_75 ?_
    refine a_iload_n (pc := 78) X9 dX9_loan_78 rfl rfl ?_
    obtain ⟨g_4, h⟩ := h
    refine b_iald (pc := 79) X9 (ar8_9 (su7_3 _ su9_0) hnn) (Nat.le_of_ble_eq_true rfl) g_4 dX9_loan_79 ?_
    refine a_bipush (pc := 80) X9 dX9_loan_80 rfl ?_
    obtain ⟨g_5, h⟩ := h
    refine a_irem (pc := 82) X9 dX9_loan_82 ⟨g_5, (hG _ _).2⟩ ⟨(by decide), (by decide)⟩ ?_
    exact a_ireturn (pc := 83) X9 E rfl rfl (Nat.le_of_ble_eq_true rfl) (Nat.le_of_ble_eq_true rfl) dX9_loan_83 ⟨rfl, _, rfl, (inR_mod g_5 (by decide) (by decide)), rfl, h⟩
  · refine a_tableIn (pc := 21) (tgt := 84) X9 dX9_loan_21 hi2 (by omega) (by omega) (by rw [c_1]; rfl) rfl ?_
    have h := h.2.2.2.1 c_1
    refine a_aload_n (pc := 84) X9 dX9_loan_84 rfl rfl ?_
    refine a_getR (pc := 85) X9 (q := 1) okX9 0 rfl wF_X9_12 (is9 hnn) rf9_0 dX9_loan_85 ?_
    refine a_getR (pc := 88) X9 (q := 3) okX7 3 rfl wF_X9_116 (is7 su9_0 hnn) (rf7_3 _ su9_0) dX9_loan_88 ?_
    refine a_getR (pc := 91) X9 (q := 10) okX8 10 rfl wF_X9_210 (is8 (su7_3 _ su9_0) hnn) (rf8_10 _ (su7_3 _ su9_0)) dX9_loan_91 ?_
    refine a_iload_n (pc := 94) X9 dX9_loan_94 rfl rfl ?_
    obtain ⟨g_6, h⟩ := h
    refine b_iald (pc := 95) X9 (ar8_10 (su7_3 _ su9_0) hnn) (Nat.le_of_ble_eq_true rfl) g_6 dX9_loan_95 ?_
    exact a_ireturn (pc := 96) X9 E rfl rfl (Nat.le_of_ble_eq_true rfl) (Nat.le_of_ble_eq_true rfl) dX9_loan_96 ⟨rfl, _, rfl, (hG _ _), rfl, h⟩
  · refine a_tableIn (pc := 21) (tgt := 97) X9 dX9_loan_21 hi2 (by omega) (by omega) (by rw [c_1]; rfl) rfl ?_
    have h := h.2.2.2.2 c_1
    refine a_aload_n (pc := 97) X9 dX9_loan_97 rfl rfl ?_
    refine a_getR (pc := 98) X9 (q := 1) okX9 0 rfl wF_X9_12 (is9 hnn) rf9_0 dX9_loan_98 ?_
    refine a_getR (pc := 101) X9 (q := 3) okX7 3 rfl wF_X9_116 (is7 su9_0 hnn) (rf7_3 _ su9_0) dX9_loan_101 ?_
    refine a_getR (pc := 104) X9 (q := 11) okX8 11 rfl wF_X9_213 (is8 (su7_3 _ su9_0) hnn) (rf8_11 _ (su7_3 _ su9_0)) dX9_loan_104 ?_
    refine a_iload_n (pc := 107) X9 dX9_loan_107 rfl rfl ?_
    obtain ⟨g_7, h⟩ := h
    refine b_iald (pc := 108) X9 (ar8_11 (su7_3 _ su9_0) hnn) (Nat.le_of_ble_eq_true rfl) g_7 dX9_loan_108 ?_
    exact a_ireturn (pc := 109) X9 E rfl rfl (Nat.le_of_ble_eq_true rfl) (Nat.le_of_ble_eq_true rfl) dX9_loan_109 ⟨rfl, _, rfl, (hG _ _), rfl, h⟩
set_option maxHeartbeats 4000000 in
set_option maxRecDepth 100000 in
theorem m_X9_rows {nn : Nat} {i1 : Int} {G : GH} {Q : Int → Prop} (hi1 : inR i1) (hnn : 272 ≤ nn) (h : f_X9_rows i1 G Q (fun _ => False)) : Mt yX9_rows cX9_rows 2 (some .int) 1 22 0 0 [vr 0, vi i1] (SF nn) G (fun v S' G' => S' = SF nn ∧ qI (fun r9 G9 => G9 = G ∧ Q r9) v S' G') (fun E S' G' => S' = SF nn ∧ False) := by
  refine Mt.of (l0 := [some (vr 0), some (vi i1)]) (by decide) (Nat.le_of_ble_eq_true rfl) rfl ?_
  intro κ δ ρ0 X9 E hG
  replace X9 : CX κ δ RX9 cX9_rows 2 (some .int) := X9
  refine a_iload_n (pc := 0) X9 dX9_rows_0 rfl rfl ?_
  refine a_iconst (pc := 1) X9 dX9_rows_1 ?_
  refine a_aload_n (pc := 2) X9 dX9_rows_2 rfl rfl ?_
  refine a_getR (pc := 3) X9 (q := 1) okX9 0 rfl wF_X9_12 (is9 hnn) rf9_0 dX9_rows_3 ?_
  refine a_getI (pc := 6) X9 okX7 0 rfl wF_X9_68 (is7 su9_0 hnn) dX9_rows_6 ?_
  refine a_iconst (pc := 9) X9 dX9_rows_9 ?_
  refine a_isub (pc := 10) X9 dX9_rows_10 ?_
  obtain ⟨g_1, h⟩ := h
  refine a_callS (pc := 11) X9 E (m_X9_within hi1 (show inR 0 by decide) g_1 hnn h) wM_X9_199 w_static_X9_within w_initialized_RX9 w_code_X9_within cp_X9_within pn_X9_within rfl (Nat.le_of_ble_eq_true rfl) ⟨Nat.le_of_ble_eq_true rfl, Nat.le_of_ble_eq_true rfl⟩ ⟨Nat.le_of_ble_eq_true rfl, Nat.le_of_ble_eq_true rfl⟩ dX9_rows_11 (fun _ _ q => False.elim q) (kZp (fun r_1 hr_1 h => ?_))
  refine a_callS (pc := 14) X9 E (m_X9_needIndex (bool_inR hr_1) hnn h) wM_X9_203 w_static_X9_needIndex w_initialized_RX9 w_code_X9_needIndex cp_X9_needIndex pn_X9_needIndex rfl (Nat.le_of_ble_eq_true rfl) ⟨Nat.le_of_ble_eq_true rfl, Nat.le_of_ble_eq_true rfl⟩ ⟨Nat.le_of_ble_eq_true rfl, Nat.le_of_ble_eq_true rfl⟩ dX9_rows_14 (fun _ _ q => False.elim q) (kVp (fun h => ?_))
  refine a_aload_n (pc := 17) X9 dX9_rows_17 rfl rfl ?_
  refine a_getR (pc := 18) X9 (q := 1) okX9 0 rfl wF_X9_12 (is9 hnn) rf9_0 dX9_rows_18 ?_
  refine a_getR (pc := 21) X9 (q := 2) okX7 1 rfl wF_X9_72 (is7 su9_0 hnn) (rf7_1 _ su9_0) dX9_rows_21 ?_
  refine a_iload_n (pc := 24) X9 dX9_rows_24 rfl rfl ?_
  obtain ⟨g_2, h⟩ := h
  refine b_iald (pc := 25) X9 (ar7_1 su9_0 hnn) (Nat.le_of_ble_eq_true rfl) g_2 dX9_rows_25 ?_
  exact a_ireturn (pc := 26) X9 E rfl rfl (Nat.le_of_ble_eq_true rfl) (Nat.le_of_ble_eq_true rfl) dX9_rows_26 ⟨rfl, _, rfl, (hG _ _), rfl, h⟩
set_option maxHeartbeats 4000000 in
set_option maxRecDepth 100000 in
theorem m_X9_needService {nn : Nat} {i1 : Int} {G : GH} {Q : Prop} (hi1 : inR i1) (hnn : 272 ≤ nn) (h : f_X9_needService i1 G Q (fun _ => False)) : Mt yX9_needService cX9_needService 2 none 1 22 0 0 [vr 0, vi i1] (SF nn) G (fun v S' G' => S' = SF nn ∧ qV (fun G9 => G9 = G ∧ Q) v S' G') (fun E S' G' => S' = SF nn ∧ False) := by
  refine Mt.of (l0 := [some (vr 0), some (vi i1)]) (by decide) (Nat.le_of_ble_eq_true rfl) rfl ?_
  intro κ δ ρ0 X9 E hG
  replace X9 : CX κ δ RX9 cX9_needService 2 none := X9
  refine a_iload_n (pc := 0) X9 dX9_needService_0 rfl rfl ?_
  refine a_iconst (pc := 1) X9 dX9_needService_1 ?_
  refine a_aload_n (pc := 2) X9 dX9_needService_2 rfl rfl ?_
  refine a_getR (pc := 3) X9 (q := 1) okX9 0 rfl wF_X9_12 (is9 hnn) rf9_0 dX9_needService_3 ?_
  refine a_getR (pc := 6) X9 (q := 12) okX7 4 rfl wF_X9_97 (is7 su9_0 hnn) (rf7_4 _ su9_0) dX9_needService_6 ?_
  refine a_getI (pc := 9) X9 okX6 0 rfl wF_X9_101 (is6 (su7_4 _ su9_0) hnn) dX9_needService_9 ?_
  refine a_iconst (pc := 12) X9 dX9_needService_12 ?_
  refine a_isub (pc := 13) X9 dX9_needService_13 ?_
  obtain ⟨g_1, h⟩ := h
  refine a_callS (pc := 14) X9 E (m_X9_within hi1 (show inR 0 by decide) g_1 hnn h) wM_X9_199 w_static_X9_within w_initialized_RX9 w_code_X9_within cp_X9_within pn_X9_within rfl (Nat.le_of_ble_eq_true rfl) ⟨Nat.le_of_ble_eq_true rfl, Nat.le_of_ble_eq_true rfl⟩ ⟨Nat.le_of_ble_eq_true rfl, Nat.le_of_ble_eq_true rfl⟩ dX9_needService_14 (fun _ _ q => False.elim q) (kZp (fun r_1 hr_1 h => ?_))
  refine a_callS (pc := 17) X9 E (m_X9_needIndex (bool_inR hr_1) hnn h) wM_X9_203 w_static_X9_needIndex w_initialized_RX9 w_code_X9_needIndex cp_X9_needIndex pn_X9_needIndex rfl (Nat.le_of_ble_eq_true rfl) ⟨Nat.le_of_ble_eq_true rfl, Nat.le_of_ble_eq_true rfl⟩ ⟨Nat.le_of_ble_eq_true rfl, Nat.le_of_ble_eq_true rfl⟩ dX9_needService_17 (fun _ _ q => False.elim q) (kVp (fun h => ?_))
  exact a_return (pc := 20) X9 E (Nat.le_of_ble_eq_true rfl) (Nat.le_of_ble_eq_true rfl) dX9_needService_20 ⟨rfl, rfl, rfl, h⟩
set_option maxHeartbeats 4000000 in
set_option maxRecDepth 100000 in
theorem m_X9_hymns {nn : Nat} {i1 : Int} {G : GH} {Q : Int → Prop} (hi1 : inR i1) (hnn : 272 ≤ nn) (h : f_X9_hymns i1 G Q (fun _ => False)) : Mt yX9_hymns cX9_hymns 2 (some .int) 2 43 0 0 [vr 0, vi i1] (SF nn) G (fun v S' G' => S' = SF nn ∧ qI (fun r9 G9 => G9 = G ∧ Q r9) v S' G') (fun E S' G' => S' = SF nn ∧ False) := by
  refine Mt.of (l0 := [some (vr 0), some (vi i1)]) (by decide) (Nat.le_of_ble_eq_true rfl) rfl ?_
  intro κ δ ρ0 X9 E hG
  replace X9 : CX κ δ RX9 cX9_hymns 2 (some .int) := X9
  refine a_aload_n (pc := 0) X9 dX9_hymns_0 rfl rfl ?_
  refine a_iload_n (pc := 1) X9 dX9_hymns_1 rfl rfl ?_
  refine a_callV (pc := 2) X9 E (m_X9_needService hi1 hnn h) okX9 (is9 hnn) wM_X9_216 w_instanceMethod_X9_needService w_selects_X9_needService w_initialized_RX9 w_code_X9_needService cp_X9_needService pn_X9_needService rfl (Nat.le_of_ble_eq_true rfl) ⟨Nat.le_of_ble_eq_true rfl, Nat.le_of_ble_eq_true rfl⟩ ⟨Nat.le_of_ble_eq_true rfl, Nat.le_of_ble_eq_true rfl⟩ dX9_hymns_2 (fun _ _ q => False.elim q) (kVp (fun h => ?_))
  refine a_aload_n (pc := 5) X9 dX9_hymns_5 rfl rfl ?_
  refine a_getR (pc := 6) X9 (q := 1) okX9 0 rfl wF_X9_12 (is9 hnn) rf9_0 dX9_hymns_6 ?_
  refine a_getR (pc := 9) X9 (q := 12) okX7 4 rfl wF_X9_97 (is7 su9_0 hnn) (rf7_4 _ su9_0) dX9_hymns_9 ?_
  refine a_getR (pc := 12) X9 (q := 13) okX6 1 rfl wF_X9_219 (is6 (su7_4 _ su9_0) hnn) (rf6_1 _ (su7_4 _ su9_0)) dX9_hymns_12 ?_
  refine a_iload_n (pc := 15) X9 dX9_hymns_15 rfl rfl ?_
  obtain ⟨g_1, h⟩ := h
  refine b_iald (pc := 16) X9 (ar6_1 (su7_4 _ su9_0) hnn) (Nat.le_of_ble_eq_true rfl) g_1 dX9_hymns_16 ?_
  exact a_ireturn (pc := 17) X9 E rfl rfl (Nat.le_of_ble_eq_true rfl) (Nat.le_of_ble_eq_true rfl) dX9_hymns_17 ⟨rfl, _, rfl, (hG _ _), rfl, h⟩
set_option maxHeartbeats 4000000 in
set_option maxRecDepth 100000 in
theorem m_X9_hymn {nn : Nat} {i1 : Int} {i2 : Int} {G : GH} {Q : Int → Prop} (hi1 : inR i1) (hi2 : inR i2) (hnn : 272 ≤ nn) (h : f_X9_hymn i1 i2 G Q (fun _ => False)) : Mt yX9_hymn cX9_hymn 3 (some .int) 2 44 0 0 [vr 0, vi i1, vi i2] (SF nn) G (fun v S' G' => S' = SF nn ∧ qI (fun r9 G9 => G9 = G ∧ Q r9) v S' G') (fun E S' G' => S' = SF nn ∧ False) := by
  refine Mt.of (l0 := [some (vr 0), some (vi i1), some (vi i2)]) (by decide) (Nat.le_of_ble_eq_true rfl) rfl ?_
  intro κ δ ρ0 X9 E hG
  replace X9 : CX κ δ RX9 cX9_hymn 3 (some .int) := X9
  refine a_aload_n (pc := 0) X9 dX9_hymn_0 rfl rfl ?_
  refine a_iload_n (pc := 1) X9 dX9_hymn_1 rfl rfl ?_
  refine a_callV (pc := 2) X9 E (m_X9_needService hi1 hnn h) okX9 (is9 hnn) wM_X9_216 w_instanceMethod_X9_needService w_selects_X9_needService w_initialized_RX9 w_code_X9_needService cp_X9_needService pn_X9_needService rfl (Nat.le_of_ble_eq_true rfl) ⟨Nat.le_of_ble_eq_true rfl, Nat.le_of_ble_eq_true rfl⟩ ⟨Nat.le_of_ble_eq_true rfl, Nat.le_of_ble_eq_true rfl⟩ dX9_hymn_2 (fun _ _ q => False.elim q) (kVp (fun h => ?_))
  refine a_aload_n (pc := 5) X9 dX9_hymn_5 rfl rfl ?_
  refine a_getR (pc := 6) X9 (q := 1) okX9 0 rfl wF_X9_12 (is9 hnn) rf9_0 dX9_hymn_6 ?_
  refine a_getR (pc := 9) X9 (q := 12) okX7 4 rfl wF_X9_97 (is7 su9_0 hnn) (rf7_4 _ su9_0) dX9_hymn_9 ?_
  refine a_iload_n (pc := 12) X9 dX9_hymn_12 rfl rfl ?_
  refine a_iload_n (pc := 13) X9 dX9_hymn_13 rfl rfl ?_
  refine a_callV (pc := 14) X9 E (m_X6_hymnAt (su7_4 _ su9_0) hi1 hi2 hnn h) okX6 (is6 (su7_4 _ su9_0) hnn) wM_X9_221 w_instanceMethod_X6_hymnAt w_selects_X6_hymnAt w_initialized_RX6 w_code_X6_hymnAt cp_X6_hymnAt pn_X6_hymnAt rfl (Nat.le_of_ble_eq_true rfl) ⟨Nat.le_of_ble_eq_true rfl, Nat.le_of_ble_eq_true rfl⟩ ⟨Nat.le_of_ble_eq_true rfl, Nat.le_of_ble_eq_true rfl⟩ dX9_hymn_14 (fun _ _ q => False.elim q) (kIp (fun r_2 hr_2 h => ?_))
  exact a_ireturn (pc := 17) X9 E rfl rfl (Nat.le_of_ble_eq_true rfl) (Nat.le_of_ble_eq_true rfl) dX9_hymn_17 ⟨rfl, _, rfl, hr_2, rfl, h⟩
set_option maxHeartbeats 4000000 in
set_option maxRecDepth 100000 in
theorem m_X9_needRow {nn : Nat} {i1 : Int} {i2 : Int} {G : GH} {Q : Prop} (hi1 : inR i1) (hi2 : inR i2) (hnn : 272 ≤ nn) (h : f_X9_needRow i1 i2 G Q (fun _ => False)) : Mt yX9_needRow cX9_needRow 3 none 1 22 0 0 [vr 0, vi i1, vi i2] (SF nn) G (fun v S' G' => S' = SF nn ∧ qV (fun G9 => G9 = G ∧ Q) v S' G') (fun E S' G' => S' = SF nn ∧ False) := by
  refine Mt.of (l0 := [some (vr 0), some (vi i1), some (vi i2)]) (by decide) (Nat.le_of_ble_eq_true rfl) rfl ?_
  intro κ δ ρ0 X9 E hG
  replace X9 : CX κ δ RX9 cX9_needRow 3 none := X9
  refine a_iload_n (pc := 0) X9 dX9_needRow_0 rfl rfl ?_
  refine a_iconst (pc := 1) X9 dX9_needRow_1 ?_
  refine a_aload_n (pc := 2) X9 dX9_needRow_2 rfl rfl ?_
  refine a_getR (pc := 3) X9 (q := 1) okX9 0 rfl wF_X9_12 (is9 hnn) rf9_0 dX9_needRow_3 ?_
  refine a_getI (pc := 6) X9 okX7 0 rfl wF_X9_68 (is7 su9_0 hnn) dX9_needRow_6 ?_
  refine a_iconst (pc := 9) X9 dX9_needRow_9 ?_
  refine a_isub (pc := 10) X9 dX9_needRow_10 ?_
  obtain ⟨g_1, h⟩ := h
  refine a_callS (pc := 11) X9 E (m_X9_within hi1 (show inR 0 by decide) g_1 hnn h) wM_X9_199 w_static_X9_within w_initialized_RX9 w_code_X9_within cp_X9_within pn_X9_within rfl (Nat.le_of_ble_eq_true rfl) ⟨Nat.le_of_ble_eq_true rfl, Nat.le_of_ble_eq_true rfl⟩ ⟨Nat.le_of_ble_eq_true rfl, Nat.le_of_ble_eq_true rfl⟩ dX9_needRow_11 (fun _ _ q => False.elim q) (kZp (fun r_1 hr_1 h => ?_))
  refine a_callS (pc := 14) X9 E (m_X9_needIndex (bool_inR hr_1) hnn h) wM_X9_203 w_static_X9_needIndex w_initialized_RX9 w_code_X9_needIndex cp_X9_needIndex pn_X9_needIndex rfl (Nat.le_of_ble_eq_true rfl) ⟨Nat.le_of_ble_eq_true rfl, Nat.le_of_ble_eq_true rfl⟩ ⟨Nat.le_of_ble_eq_true rfl, Nat.le_of_ble_eq_true rfl⟩ dX9_needRow_14 (fun _ _ q => False.elim q) (kVp (fun h => ?_))
  refine a_iload_n (pc := 17) X9 dX9_needRow_17 rfl rfl ?_
  refine a_iconst (pc := 18) X9 dX9_needRow_18 ?_
  refine a_aload_n (pc := 19) X9 dX9_needRow_19 rfl rfl ?_
  refine a_getR (pc := 20) X9 (q := 1) okX9 0 rfl wF_X9_12 (is9 hnn) rf9_0 dX9_needRow_20 ?_
  refine a_getR (pc := 23) X9 (q := 2) okX7 1 rfl wF_X9_72 (is7 su9_0 hnn) (rf7_1 _ su9_0) dX9_needRow_23 ?_
  refine a_iload_n (pc := 26) X9 dX9_needRow_26 rfl rfl ?_
  obtain ⟨g_2, h⟩ := h
  refine b_iald (pc := 27) X9 (ar7_1 su9_0 hnn) (Nat.le_of_ble_eq_true rfl) g_2 dX9_needRow_27 ?_
  refine a_iconst (pc := 28) X9 dX9_needRow_28 ?_
  refine a_isub (pc := 29) X9 dX9_needRow_29 ?_
  obtain ⟨g_3, h⟩ := h
  refine a_callS (pc := 30) X9 E (m_X9_within hi2 (show inR 0 by decide) g_3 hnn h) wM_X9_199 w_static_X9_within w_initialized_RX9 w_code_X9_within cp_X9_within pn_X9_within rfl (Nat.le_of_ble_eq_true rfl) ⟨Nat.le_of_ble_eq_true rfl, Nat.le_of_ble_eq_true rfl⟩ ⟨Nat.le_of_ble_eq_true rfl, Nat.le_of_ble_eq_true rfl⟩ dX9_needRow_30 (fun _ _ q => False.elim q) (kZp (fun r_3 hr_3 h => ?_))
  refine a_callS (pc := 33) X9 E (m_X9_needIndex (bool_inR hr_3) hnn h) wM_X9_203 w_static_X9_needIndex w_initialized_RX9 w_code_X9_needIndex cp_X9_needIndex pn_X9_needIndex rfl (Nat.le_of_ble_eq_true rfl) ⟨Nat.le_of_ble_eq_true rfl, Nat.le_of_ble_eq_true rfl⟩ ⟨Nat.le_of_ble_eq_true rfl, Nat.le_of_ble_eq_true rfl⟩ dX9_needRow_33 (fun _ _ q => False.elim q) (kVp (fun h => ?_))
  exact a_return (pc := 36) X9 E (Nat.le_of_ble_eq_true rfl) (Nat.le_of_ble_eq_true rfl) dX9_needRow_36 ⟨rfl, rfl, rfl, h⟩
set_option maxHeartbeats 4000000 in
set_option maxRecDepth 100000 in
theorem m_X9_numberOf {nn : Nat} {i0 : Int} {G : GH} {Q : Int → Prop} (hi0 : inR i0) (hnn : 272 ≤ nn) (h : f_X9_numberOf i0 Q) : Mt yX9_numberOf cX9_numberOf 1 (some .int) 0 0 0 0 [vi i0] (SF nn) G (fun v S' G' => S' = SF nn ∧ qI (fun r9 G9 => G9 = G ∧ Q r9) v S' G') (fun E S' G' => S' = SF nn ∧ False) := by
  refine Mt.of (l0 := [some (vi i0)]) (by decide) (Nat.le_of_ble_eq_true rfl) rfl ?_
  intro κ δ ρ0 X9 E hG
  replace X9 : CX κ δ RX9 cX9_numberOf 1 (some .int) := X9
  refine a_iload_n (pc := 0) X9 dX9_numberOf_0 rfl rfl ?_
  refine a_bipush (pc := 1) X9 dX9_numberOf_1 rfl ?_
  refine a_icmp_ge (pc := 3) (tgt := 10) X9 dX9_numberOf_3 rfl hi0 (by decide) (fun c => ?_) (fun c => ?_)
  · have c_1 := c
    have h := h.1 c_1
    refine a_bipush (pc := 10) X9 dX9_numberOf_10 rfl ?_
    refine a_iload_n (pc := 12) X9 dX9_numberOf_12 rfl rfl ?_
    refine a_iadd (pc := 13) X9 dX9_numberOf_13 ?_
    refine a_bipush (pc := 14) X9 dX9_numberOf_14 rfl ?_
    refine a_isub (pc := 16) X9 dX9_numberOf_16 ?_
    obtain ⟨g_1, h⟩ := h
    exact a_ireturn (pc := 17) X9 E rfl rfl (Nat.le_of_ble_eq_true rfl) (Nat.le_of_ble_eq_true rfl) dX9_numberOf_17 ⟨rfl, _, rfl, g_1, rfl, h⟩
  · have c_1 := c
    have h := h.2 c_1
    refine a_iload_n (pc := 6) X9 dX9_numberOf_6 rfl rfl ?_
    refine a_goto (pc := 7) (tgt := 17) X9 dX9_numberOf_7 rfl ?_
    exact a_ireturn (pc := 17) X9 E rfl rfl (Nat.le_of_ble_eq_true rfl) (Nat.le_of_ble_eq_true rfl) dX9_numberOf_17 ⟨rfl, _, rfl, hi0, rfl, h⟩
set_option maxHeartbeats 4000000 in
set_option maxRecDepth 100000 in
theorem m_X9_place {nn : Nat} {i1 : Int} {i2 : Int} {i3 : Int} {i4 : Int} {G : GH} {Q : Int → Prop} (hi1 : inR i1) (hi2 : inR i2) (hi3 : inR i3) (hi4 : inR i4) (hnn : 272 ≤ nn) (h : f_X9_place i1 i2 i3 i4 G Q (fun _ => False)) : Mt yX9_place cX9_place 6 (some .int) 2 44 0 0 [vr 0, vi i1, vi i2, vi i3, vi i4] (SF nn) G (fun v S' G' => S' = SF nn ∧ qI (fun r9 G9 => G9 = G ∧ Q r9) v S' G') (fun E S' G' => S' = SF nn ∧ False) := by
  refine Mt.of (l0 := [some (vr 0), some (vi i1), some (vi i2), some (vi i3), some (vi i4), none]) (by decide) (Nat.le_of_ble_eq_true rfl) rfl ?_
  intro κ δ ρ0 X9 E hG
  replace X9 : CX κ δ RX9 cX9_place 6 (some .int) := X9
  refine a_aload_n (pc := 0) X9 dX9_place_0 rfl rfl ?_
  refine a_iload_n (pc := 1) X9 dX9_place_1 rfl rfl ?_
  refine a_iload_n (pc := 2) X9 dX9_place_2 rfl rfl ?_
  refine a_callV (pc := 3) X9 E (m_X9_needRow hi1 hi2 hnn h) okX9 (is9 hnn) wM_X9_224 w_instanceMethod_X9_needRow w_selects_X9_needRow w_initialized_RX9 w_code_X9_needRow cp_X9_needRow pn_X9_needRow rfl (Nat.le_of_ble_eq_true rfl) ⟨Nat.le_of_ble_eq_true rfl, Nat.le_of_ble_eq_true rfl⟩ ⟨Nat.le_of_ble_eq_true rfl, Nat.le_of_ble_eq_true rfl⟩ dX9_place_3 (fun _ _ q => False.elim q) (kVp (fun h => ?_))
  refine a_iload_n (pc := 6) X9 dX9_place_6 rfl rfl ?_
  refine a_iconst (pc := 7) X9 dX9_place_7 ?_
  refine a_iconst (pc := 8) X9 dX9_place_8 ?_
  refine a_callS (pc := 9) X9 E (m_X9_within hi3 (show inR 0 by decide) (show inR 2 by decide) hnn h) wM_X9_199 w_static_X9_within w_initialized_RX9 w_code_X9_within cp_X9_within pn_X9_within rfl (Nat.le_of_ble_eq_true rfl) ⟨Nat.le_of_ble_eq_true rfl, Nat.le_of_ble_eq_true rfl⟩ ⟨Nat.le_of_ble_eq_true rfl, Nat.le_of_ble_eq_true rfl⟩ dX9_place_9 (fun _ _ q => False.elim q) (kZp (fun r_2 hr_2 h => ?_))
  refine a_callS (pc := 12) X9 E (m_X9_needArgument (bool_inR hr_2) hnn h) wM_X9_228 w_static_X9_needArgument w_initialized_RX9 w_code_X9_needArgument cp_X9_needArgument pn_X9_needArgument rfl (Nat.le_of_ble_eq_true rfl) ⟨Nat.le_of_ble_eq_true rfl, Nat.le_of_ble_eq_true rfl⟩ ⟨Nat.le_of_ble_eq_true rfl, Nat.le_of_ble_eq_true rfl⟩ dX9_place_12 (fun _ _ q => False.elim q) (kVp (fun h => ?_))
  refine a_iload_n (pc := 15) X9 dX9_place_15 rfl rfl ?_
  refine a_bipush (pc := 16) X9 dX9_place_16 rfl ?_
  refine a_imul (pc := 18) X9 dX9_place_18 ?_
  refine a_iload_n (pc := 19) X9 dX9_place_19 rfl rfl ?_
  refine a_iadd (pc := 20) X9 dX9_place_20 ?_
  refine a_iconst (pc := 21) X9 dX9_place_21 ?_
  refine a_imul (pc := 22) X9 dX9_place_22 ?_
  refine a_iload_n (pc := 23) X9 dX9_place_23 rfl rfl ?_
  refine a_iadd (pc := 24) X9 dX9_place_24 ?_
  refine a_istore (pc := 25) X9 dX9_place_25 (Nat.le_of_ble_eq_true rfl) rfl rfl ?_
  refine a_iload (pc := 27) X9 dX9_place_27 rfl ?_
  have c_1 : (i4 < 0 ∨ 2 < i4) ∨ i4 = 0 ∨ i4 = 1 ∨ i4 = 2 := by omega
  rcases c_1 with c_1 | c_1 | c_1 | c_1
  · refine a_tableOut (pc := 29) (tgt := 101) X9 dX9_place_29 hi4 c_1 rfl ?_
    have h := h.1 c_1
    exact h.elim
  · refine a_tableIn (pc := 29) (tgt := 56) X9 dX9_place_29 hi4 (by omega) (by omega) (by rw [c_1]; rfl) rfl ?_
    have h := h.2.1 c_1
    refine a_aload_n (pc := 56) X9 dX9_place_56 rfl rfl ?_
    refine a_getR (pc := 57) X9 (q := 1) okX9 0 rfl wF_X9_12 (is9 hnn) rf9_0 dX9_place_57 ?_
    refine a_getR (pc := 60) X9 (q := 15) okX7 5 rfl wF_X9_138 (is7 su9_0 hnn) (rf7_5 _ su9_0) dX9_place_60 ?_
    refine a_getR (pc := 63) X9 (q := 17) okX0 2 rfl wF_X9_231 (is0 (su7_5 _ su9_0) hnn) (rf0_2 _ (su7_5 _ su9_0)) dX9_place_63 ?_
    refine a_iload (pc := 66) X9 dX9_place_66 rfl ?_
    obtain ⟨g_1, h⟩ := h
    refine b_iald (pc := 68) X9 (ar0_2 (su7_5 _ su9_0) hnn) (Nat.le_of_ble_eq_true rfl) g_1 dX9_place_68 ?_
    exact a_ireturn (pc := 69) X9 E rfl rfl (Nat.le_of_ble_eq_true rfl) (Nat.le_of_ble_eq_true rfl) dX9_place_69 ⟨rfl, _, rfl, (hG _ _), rfl, h⟩
  · refine a_tableIn (pc := 29) (tgt := 70) X9 dX9_place_29 hi4 (by omega) (by omega) (by rw [c_1]; rfl) rfl ?_
    have h := h.2.2.1 c_1
    refine a_aload_n (pc := 70) X9 dX9_place_70 rfl rfl ?_
    refine a_getR (pc := 71) X9 (q := 1) okX9 0 rfl wF_X9_12 (is9 hnn) rf9_0 dX9_place_71 ?_
    refine a_getR (pc := 74) X9 (q := 15) okX7 5 rfl wF_X9_138 (is7 su9_0 hnn) (rf7_5 _ su9_0) dX9_place_74 ?_
    refine a_getR (pc := 77) X9 (q := 18) okX0 3 rfl wF_X9_234 (is0 (su7_5 _ su9_0) hnn) (rf0_3 _ (su7_5 _ su9_0)) dX9_place_77 ?_
    refine a_iload (pc := 80) X9 dX9_place_80 rfl ?_
    obtain ⟨g_2, h⟩ := h
    refine b_iald (pc := 82) X9 (ar0_3 (su7_5 _ su9_0) hnn) (Nat.le_of_ble_eq_true rfl) g_2 dX9_place_82 ?_
    refine a_callS (pc := 83) X9 E (m_X9_numberOf (hG _ _) hnn h) wM_X9_237 w_static_X9_numberOf w_initialized_RX9 w_code_X9_numberOf cp_X9_numberOf pn_X9_numberOf rfl (Nat.le_of_ble_eq_true rfl) ⟨Nat.le_of_ble_eq_true rfl, Nat.le_of_ble_eq_true rfl⟩ ⟨Nat.le_of_ble_eq_true rfl, Nat.le_of_ble_eq_true rfl⟩ dX9_place_83 (fun _ _ q => False.elim q) (kIp (fun r_4 hr_4 h => ?_))
    exact a_ireturn (pc := 86) X9 E rfl rfl (Nat.le_of_ble_eq_true rfl) (Nat.le_of_ble_eq_true rfl) dX9_place_86 ⟨rfl, _, rfl, hr_4, rfl, h⟩
  · refine a_tableIn (pc := 29) (tgt := 87) X9 dX9_place_29 hi4 (by omega) (by omega) (by rw [c_1]; rfl) rfl ?_
    have h := h.2.2.2 c_1
    refine a_aload_n (pc := 87) X9 dX9_place_87 rfl rfl ?_
    refine a_getR (pc := 88) X9 (q := 1) okX9 0 rfl wF_X9_12 (is9 hnn) rf9_0 dX9_place_88 ?_
    refine a_getR (pc := 91) X9 (q := 15) okX7 5 rfl wF_X9_138 (is7 su9_0 hnn) (rf7_5 _ su9_0) dX9_place_91 ?_
    refine a_getR (pc := 94) X9 (q := 19) okX0 4 rfl wF_X9_240 (is0 (su7_5 _ su9_0) hnn) (rf0_4 _ (su7_5 _ su9_0)) dX9_place_94 ?_
    refine a_iload (pc := 97) X9 dX9_place_97 rfl ?_
    obtain ⟨g_3, h⟩ := h
    refine b_iald (pc := 99) X9 (ar0_4 (su7_5 _ su9_0) hnn) (Nat.le_of_ble_eq_true rfl) g_3 dX9_place_99 ?_
    exact a_ireturn (pc := 100) X9 E rfl rfl (Nat.le_of_ble_eq_true rfl) (Nat.le_of_ble_eq_true rfl) dX9_place_100 ⟨rfl, _, rfl, (hG _ _), rfl, h⟩
set_option maxHeartbeats 4000000 in
set_option maxRecDepth 100000 in
theorem m_X9_hung {nn : Nat} {i1 : Int} {i2 : Int} {G : GH} {Q : Int → Prop} (hi1 : inR i1) (hi2 : inR i2) (hnn : 272 ≤ nn) (h : f_X9_hung i1 i2 G Q (fun _ => False)) : Mt yX9_hung cX9_hung 3 (some .int) 2 44 0 0 [vr 0, vi i1, vi i2] (SF nn) G (fun v S' G' => S' = SF nn ∧ qI (fun r9 G9 => G9 = G ∧ Q r9) v S' G') (fun E S' G' => S' = SF nn ∧ False) := by
  refine Mt.of (l0 := [some (vr 0), some (vi i1), some (vi i2)]) (by decide) (Nat.le_of_ble_eq_true rfl) rfl ?_
  intro κ δ ρ0 X9 E hG
  replace X9 : CX κ δ RX9 cX9_hung 3 (some .int) := X9
  refine a_aload_n (pc := 0) X9 dX9_hung_0 rfl rfl ?_
  refine a_iload_n (pc := 1) X9 dX9_hung_1 rfl rfl ?_
  refine a_iload_n (pc := 2) X9 dX9_hung_2 rfl rfl ?_
  refine a_callV (pc := 3) X9 E (m_X9_needRow hi1 hi2 hnn h) okX9 (is9 hnn) wM_X9_224 w_instanceMethod_X9_needRow w_selects_X9_needRow w_initialized_RX9 w_code_X9_needRow cp_X9_needRow pn_X9_needRow rfl (Nat.le_of_ble_eq_true rfl) ⟨Nat.le_of_ble_eq_true rfl, Nat.le_of_ble_eq_true rfl⟩ ⟨Nat.le_of_ble_eq_true rfl, Nat.le_of_ble_eq_true rfl⟩ dX9_hung_3 (fun _ _ q => False.elim q) (kVp (fun h => ?_))
  refine a_aload_n (pc := 6) X9 dX9_hung_6 rfl rfl ?_
  refine a_getR (pc := 7) X9 (q := 1) okX9 0 rfl wF_X9_12 (is9 hnn) rf9_0 dX9_hung_7 ?_
  refine a_getR (pc := 10) X9 (q := 15) okX7 5 rfl wF_X9_138 (is7 su9_0 hnn) (rf7_5 _ su9_0) dX9_hung_10 ?_
  refine a_getR (pc := 13) X9 (q := 16) okX0 1 rfl wF_X9_243 (is0 (su7_5 _ su9_0) hnn) (rf0_1 _ (su7_5 _ su9_0)) dX9_hung_13 ?_
  refine a_iload_n (pc := 16) X9 dX9_hung_16 rfl rfl ?_
  refine a_bipush (pc := 17) X9 dX9_hung_17 rfl ?_
  refine a_imul (pc := 19) X9 dX9_hung_19 ?_
  refine a_iload_n (pc := 20) X9 dX9_hung_20 rfl rfl ?_
  refine a_iadd (pc := 21) X9 dX9_hung_21 ?_
  obtain ⟨g_1, h⟩ := h
  refine b_iald (pc := 22) X9 (ar0_1 (su7_5 _ su9_0) hnn) (Nat.le_of_ble_eq_true rfl) g_1 dX9_hung_22 ?_
  exact a_ireturn (pc := 23) X9 E rfl rfl (Nat.le_of_ble_eq_true rfl) (Nat.le_of_ble_eq_true rfl) dX9_hung_23 ⟨rfl, _, rfl, (hG _ _), rfl, h⟩
set_option maxHeartbeats 4000000 in
set_option maxRecDepth 100000 in
theorem m_X0_lacksCard {nn : Nat} {a0 : Nat} {i1 : Int} {G : GH} {Q : Int → Prop} (ha0 : a0 ∈ L0) (hi1 : inR i1) (hnn : 272 ≤ nn) (h : f_X0_lacksCard a0 i1 G Q) : Mt yX0_lacksCard cX0_lacksCard 4 (some .boolean) 0 0 0 0 [vr a0, vi i1] (SF nn) G (fun v S' G' => S' = SF nn ∧ qZ (fun r9 G9 => G9 = G ∧ Q r9) v S' G') (fun E S' G' => S' = SF nn ∧ False) := by
  refine Mt.of (l0 := [some (vr a0), some (vi i1), none, none]) (by decide) (Nat.le_of_ble_eq_true rfl) rfl ?_
  intro κ δ ρ0 X9 E hG
  replace X9 : CX κ δ RX0 cX0_lacksCard 4 (some .boolean) := X9
  refine a_aload_n (pc := 0) X9 dX0_lacksCard_0 rfl rfl ?_
  refine a_getR (pc := 1) X9 (q := (a0 + 1)) okX0 1 rfl wF_X0_15 (is0 ha0 hnn) (rf0_1 _ ha0) dX0_lacksCard_1 ?_
  refine a_iload_n (pc := 4) X9 dX0_lacksCard_4 rfl rfl ?_
  obtain ⟨g_1, h⟩ := h
  refine b_iald (pc := 5) X9 (ar0_1 ha0 hnn) (Nat.le_of_ble_eq_true rfl) g_1 dX0_lacksCard_5 ?_
  refine a_istore_n (pc := 6) X9 dX0_lacksCard_6 rfl (Nat.le_of_ble_eq_true rfl) rfl rfl ?_
  refine a_iconst (pc := 7) X9 dX0_lacksCard_7 ?_
  refine a_istore_n (pc := 8) X9 dX0_lacksCard_8 rfl (Nat.le_of_ble_eq_true rfl) rfl rfl ?_
  refine loopM2 (A := fun x2_1 x3_1 => inR x2_1 → inR x3_1 → AW κ δ ρ0 (szF nn) 4 0 0 9 [some (vr a0), some (vi i1), some (vi x2_1), some (vi x3_1)] [] (SF nn) G) (fun k_1 hk_1 x2_1 x3_1 h h_x2_1 h_x3_1 => ?_) _ _ h (hG _ _) (by decide)
  refine a_iload_n (pc := 9) X9 dX0_lacksCard_9 rfl rfl ?_
  refine a_if_lt (pc := 10) (tgt := 44) X9 dX0_lacksCard_10 rfl h_x3_1 (fun c => ?_) (fun c => ?_)
  · have c_1 := c
    have h := h.1 c_1
    refine a_iconst (pc := 44) X9 dX0_lacksCard_44 ?_
    exact a_ireturn (pc := 45) X9 E rfl (fit_bool (Or.inl rfl)).1 (Nat.le_of_ble_eq_true rfl) (Nat.le_of_ble_eq_true rfl) dX0_lacksCard_45 ⟨rfl, _, rfl, (Or.inl rfl), rfl, h⟩
  · have c_1 := c
    have h := h.2 c_1
    refine a_iload_n (pc := 13) X9 dX0_lacksCard_13 rfl rfl ?_
    refine a_if_le (pc := 14) (tgt := 44) X9 dX0_lacksCard_14 rfl h_x2_1 (fun c => ?_) (fun c => ?_)
    · have c_2 := c
      have h := h.1 c_2
      refine a_iconst (pc := 44) X9 dX0_lacksCard_44 ?_
      exact a_ireturn (pc := 45) X9 E rfl (fit_bool (Or.inl rfl)).1 (Nat.le_of_ble_eq_true rfl) (Nat.le_of_ble_eq_true rfl) dX0_lacksCard_45 ⟨rfl, _, rfl, (Or.inl rfl), rfl, h⟩
    · have c_2 := c
      have h := h.2 c_2
      refine a_aload_n (pc := 17) X9 dX0_lacksCard_17 rfl rfl ?_
      refine a_getR (pc := 18) X9 (q := (a0 + 2)) okX0 2 rfl wF_X0_19 (is0 ha0 hnn) (rf0_2 _ ha0) dX0_lacksCard_18 ?_
      refine a_iload_n (pc := 21) X9 dX0_lacksCard_21 rfl rfl ?_
      refine a_iconst (pc := 22) X9 dX0_lacksCard_22 ?_
      refine a_imul (pc := 23) X9 dX0_lacksCard_23 ?_
      refine a_iload_n (pc := 24) X9 dX0_lacksCard_24 rfl rfl ?_
      refine a_iadd (pc := 25) X9 dX0_lacksCard_25 ?_
      obtain ⟨g_2, h⟩ := h
      refine b_iald (pc := 26) X9 (ar0_2 ha0 hnn) (Nat.le_of_ble_eq_true rfl) g_2 dX0_lacksCard_26 ?_
      refine a_iconst (pc := 27) X9 dX0_lacksCard_27 ?_
      refine a_icmp_ne (pc := 28) (tgt := 33) X9 dX0_lacksCard_28 rfl (hG _ _) (by decide) (fun c => ?_) (fun c => ?_)
      · have c_3 := c
        have h := h.1 c_3
        refine a_iload_n (pc := 33) X9 dX0_lacksCard_33 rfl rfl ?_
        refine a_bipush (pc := 34) X9 dX0_lacksCard_34 rfl ?_
        obtain ⟨g_3, h⟩ := h
        refine a_idiv (pc := 36) X9 dX0_lacksCard_36 ⟨g_3, h_x2_1.2⟩ ⟨(by decide), (by decide)⟩ ?_
        refine a_istore_n (pc := 37) X9 dX0_lacksCard_37 rfl (Nat.le_of_ble_eq_true rfl) rfl rfl ?_
        refine a_iinc (pc := 38) X9 dX0_lacksCard_38 rfl (Nat.le_of_ble_eq_true rfl) rfl rfl ?_
        refine a_goto (pc := 41) (tgt := 9) X9 dX0_lacksCard_41 rfl ?_
        have q_1 : inR (x3_1) := h_x3_1
        have g_4 : inR ((x3_1 + (-1))) := ⟨by omega, by omega⟩
        exact hk_1 _ _ h (inR_div h_x2_1 g_3 (by decide)) g_4
      · have c_3 := c
        have h := h.2 c_3
        refine a_iconst (pc := 31) X9 dX0_lacksCard_31 ?_
        exact a_ireturn (pc := 32) X9 E rfl (fit_bool (Or.inr rfl)).1 (Nat.le_of_ble_eq_true rfl) (Nat.le_of_ble_eq_true rfl) dX0_lacksCard_32 ⟨rfl, _, rfl, (Or.inr rfl), rfl, h⟩
set_option maxHeartbeats 4000000 in
set_option maxRecDepth 100000 in
theorem m_X0_countHoles {nn : Nat} {a0 : Nat} {G : GH} {Q : Int → Prop} (ha0 : a0 ∈ L0) (hnn : 272 ≤ nn) (h : f_X0_countHoles a0 G Q) : Mt yX0_countHoles cX0_countHoles 3 (some .int) 1 23 0 0 [vr a0] (SF nn) G (fun v S' G' => S' = SF nn ∧ qI (fun r9 G9 => G9 = G ∧ Q r9) v S' G') (fun E S' G' => S' = SF nn ∧ False) := by
  refine Mt.of (l0 := [some (vr a0), none, none]) (by decide) (Nat.le_of_ble_eq_true rfl) rfl ?_
  intro κ δ ρ0 X9 E hG
  replace X9 : CX κ δ RX0 cX0_countHoles 3 (some .int) := X9
  refine a_iconst (pc := 0) X9 dX0_countHoles_0 ?_
  refine a_istore_n (pc := 1) X9 dX0_countHoles_1 rfl (Nat.le_of_ble_eq_true rfl) rfl rfl ?_
  refine a_iconst (pc := 2) X9 dX0_countHoles_2 ?_
  refine a_istore_n (pc := 3) X9 dX0_countHoles_3 rfl (Nat.le_of_ble_eq_true rfl) rfl rfl ?_
  refine loopM2 (A := fun x1_1 x2_1 => inR x1_1 → inR x2_1 → AW κ δ ρ0 (szF nn) 3 0 0 4 [some (vr a0), some (vi x1_1), some (vi x2_1)] [] (SF nn) G) (fun k_1 hk_1 x1_1 x2_1 h h_x1_1 h_x2_1 => ?_) _ _ h (by decide) (by decide)
  refine a_iload_n (pc := 4) X9 dX0_countHoles_4 rfl rfl ?_
  refine a_bipush (pc := 5) X9 dX0_countHoles_5 rfl ?_
  refine a_icmp_ge (pc := 7) (tgt := 37) X9 dX0_countHoles_7 rfl h_x2_1 (by decide) (fun c => ?_) (fun c => ?_)
  · have c_1 := c
    have h := h.1 c_1
    refine a_iload_n (pc := 37) X9 dX0_countHoles_37 rfl rfl ?_
    exact a_ireturn (pc := 38) X9 E rfl rfl (Nat.le_of_ble_eq_true rfl) (Nat.le_of_ble_eq_true rfl) dX0_countHoles_38 ⟨rfl, _, rfl, h_x1_1, rfl, h⟩
  · have c_1 := c
    have h := h.2 c_1
    refine a_aload_n (pc := 10) X9 dX0_countHoles_10 rfl rfl ?_
    refine a_getR (pc := 11) X9 (q := (a0 + 1)) okX0 1 rfl wF_X0_15 (is0 ha0 hnn) (rf0_1 _ ha0) dX0_countHoles_11 ?_
    refine a_iload_n (pc := 14) X9 dX0_countHoles_14 rfl rfl ?_
    obtain ⟨g_1, h⟩ := h
    refine b_iald (pc := 15) X9 (ar0_1 ha0 hnn) (Nat.le_of_ble_eq_true rfl) g_1 dX0_countHoles_15 ?_
    refine a_iconst (pc := 16) X9 dX0_countHoles_16 ?_
    refine a_icmp_eq (pc := 17) (tgt := 31) X9 dX0_countHoles_17 rfl (hG _ _) (by decide) (fun c => ?_) (fun c => ?_)
    · have c_2 := c
      have h := h.1 c_2
      refine a_iinc (pc := 31) X9 dX0_countHoles_31 rfl (Nat.le_of_ble_eq_true rfl) rfl rfl ?_
      refine a_goto (pc := 34) (tgt := 4) X9 dX0_countHoles_34 rfl ?_
      have q_1 : inR (x2_1) := h_x2_1
      have g_2 : inR ((x2_1 + 1)) := ⟨by omega, by omega⟩
      exact hk_1 _ _ h h_x1_1 g_2
    · have c_2 := c
      have h := h.2 c_2
      refine a_aload_n (pc := 20) X9 dX0_countHoles_20 rfl rfl ?_
      refine a_iload_n (pc := 21) X9 dX0_countHoles_21 rfl rfl ?_
      refine a_callV (pc := 22) X9 E (m_X0_lacksCard ha0 h_x2_1 hnn h) okX0 (is0 ha0 hnn) wM_X0_43 w_instanceMethod_X0_lacksCard w_selects_X0_lacksCard w_initialized_RX0 w_code_X0_lacksCard cp_X0_lacksCard pn_X0_lacksCard rfl (Nat.le_of_ble_eq_true rfl) ⟨Nat.le_of_ble_eq_true rfl, Nat.le_of_ble_eq_true rfl⟩ ⟨Nat.le_of_ble_eq_true rfl, Nat.le_of_ble_eq_true rfl⟩ dX0_countHoles_22 (fun _ _ q => False.elim q) (kZp (fun r_1 hr_1 h => ?_))
      refine a_if_eq (pc := 25) (tgt := 31) X9 dX0_countHoles_25 rfl (bool_inR hr_1) (fun c => ?_) (fun c => ?_)
      · have c_3 := c
        have h := h.1 c_3
        refine a_iinc (pc := 31) X9 dX0_countHoles_31 rfl (Nat.le_of_ble_eq_true rfl) rfl rfl ?_
        refine a_goto (pc := 34) (tgt := 4) X9 dX0_countHoles_34 rfl ?_
        have q_2 : inR (x2_1) := h_x2_1
        have g_3 : inR ((x2_1 + 1)) := ⟨by omega, by omega⟩
        exact hk_1 _ _ h h_x1_1 g_3
      · have c_3 := c
        have h := h.2 c_3
        refine a_iinc (pc := 28) X9 dX0_countHoles_28 rfl (Nat.le_of_ble_eq_true rfl) rfl rfl ?_
        refine a_iinc (pc := 31) X9 dX0_countHoles_31 rfl (Nat.le_of_ble_eq_true rfl) rfl rfl ?_
        refine a_goto (pc := 34) (tgt := 4) X9 dX0_countHoles_34 rfl ?_
        obtain ⟨g_4, h⟩ := h
        have q_3 : inR (x2_1) := h_x2_1
        have g_5 : inR ((x2_1 + 1)) := ⟨by omega, by omega⟩
        exact hk_1 _ _ h g_4 g_5
set_option maxHeartbeats 4000000 in
set_option maxRecDepth 100000 in
theorem m_X9_holes {nn : Nat}  {G : GH} {Q : Int → Prop}  (hnn : 272 ≤ nn) (h : f_X9_holes G Q) : Mt yX9_holes cX9_holes 1 (some .int) 2 45 0 0 [vr 0] (SF nn) G (fun v S' G' => S' = SF nn ∧ qI (fun r9 G9 => G9 = G ∧ Q r9) v S' G') (fun E S' G' => S' = SF nn ∧ False) := by
  refine Mt.of (l0 := [some (vr 0)]) (by decide) (Nat.le_of_ble_eq_true rfl) rfl ?_
  intro κ δ ρ0 X9 E hG
  replace X9 : CX κ δ RX9 cX9_holes 1 (some .int) := X9
  refine a_aload_n (pc := 0) X9 dX9_holes_0 rfl rfl ?_
  refine a_getR (pc := 1) X9 (q := 1) okX9 0 rfl wF_X9_12 (is9 hnn) rf9_0 dX9_holes_1 ?_
  refine a_getR (pc := 4) X9 (q := 15) okX7 5 rfl wF_X9_138 (is7 su9_0 hnn) (rf7_5 _ su9_0) dX9_holes_4 ?_
  refine a_callV (pc := 7) X9 E (m_X0_countHoles (su7_5 _ su9_0) hnn h) okX0 (is0 (su7_5 _ su9_0) hnn) wM_X9_246 w_instanceMethod_X0_countHoles w_selects_X0_countHoles w_initialized_RX0 w_code_X0_countHoles cp_X0_countHoles pn_X0_countHoles rfl (Nat.le_of_ble_eq_true rfl) ⟨Nat.le_of_ble_eq_true rfl, Nat.le_of_ble_eq_true rfl⟩ ⟨Nat.le_of_ble_eq_true rfl, Nat.le_of_ble_eq_true rfl⟩ dX9_holes_7 (fun _ _ q => False.elim q) (kIp (fun r_1 hr_1 h => ?_))
  exact a_ireturn (pc := 10) X9 E rfl rfl (Nat.le_of_ble_eq_true rfl) (Nat.le_of_ble_eq_true rfl) dX9_holes_10 ⟨rfl, _, rfl, hr_1, rfl, h⟩
set_option maxHeartbeats 4000000 in
set_option maxRecDepth 100000 in
theorem m_X8_showsDigit {nn : Nat} {a0 : Nat} {i1 : Int} {i2 : Int} {G : GH} {Q : Int → Prop} (ha0 : a0 ∈ L8) (hi1 : inR i1) (hi2 : inR i2) (hnn : 272 ≤ nn) (h : f_X8_showsDigit a0 i1 i2 G Q) : Mt yX8_showsDigit cX8_showsDigit 3 (some .boolean) 2 45 0 0 [vr a0, vi i1, vi i2] (SF nn) G (fun v S' G' => S' = SF nn ∧ qZ (fun r9 G9 => G9 = G ∧ Q r9) v S' G') (fun E S' G' => S' = SF nn ∧ False) := by
  refine Mt.of (l0 := [some (vr a0), some (vi i1), some (vi i2)]) (by decide) (Nat.le_of_ble_eq_true rfl) rfl ?_
  intro κ δ ρ0 X9 E hG
  replace X9 : CX κ δ RX8 cX8_showsDigit 3 (some .boolean) := X9
  refine a_aload_n (pc := 0) X9 dX8_showsDigit_0 rfl rfl ?_
  refine a_getR (pc := 1) X9 (q := (a0 + 3)) okX8 4 rfl wF_X8_18 (is8 ha0 hnn) (rf8_4 _ ha0) dX8_showsDigit_1 ?_
  refine a_iload_n (pc := 4) X9 dX8_showsDigit_4 rfl rfl ?_
  obtain ⟨g_1, h⟩ := h
  refine b_iald (pc := 5) X9 (ar8_4 ha0 hnn) (Nat.le_of_ble_eq_true rfl) g_1 dX8_showsDigit_5 ?_
  refine a_if_le (pc := 6) (tgt := 23) X9 dX8_showsDigit_6 rfl (hG _ _) (fun c => ?_) (fun c => ?_)
  · have c_1 := c
    have h := h.1 c_1
    refine a_iconst (pc := 23) X9 dX8_showsDigit_23 ?_
    exact a_ireturn (pc := 24) X9 E rfl (fit_bool (Or.inl rfl)).1 (Nat.le_of_ble_eq_true rfl) (Nat.le_of_ble_eq_true rfl) dX8_showsDigit_24 ⟨rfl, _, rfl, (Or.inl rfl), rfl, h⟩
  · have c_1 := c
    have h := h.2 c_1
    refine a_aload_n (pc := 9) X9 dX8_showsDigit_9 rfl rfl ?_
    refine a_iload_n (pc := 10) X9 dX8_showsDigit_10 rfl rfl ?_
    refine a_iload_n (pc := 11) X9 dX8_showsDigit_11 rfl rfl ?_
    refine a_callV (pc := 12) X9 E (m_X8_wayOf ha0 hi1 hi2 hnn h) okX8 (is8 ha0 hnn) wM_X8_79 w_instanceMethod_X8_wayOf w_selects_X8_wayOf w_initialized_RX8 w_code_X8_wayOf cp_X8_wayOf pn_X8_wayOf rfl (Nat.le_of_ble_eq_true rfl) ⟨Nat.le_of_ble_eq_true rfl, Nat.le_of_ble_eq_true rfl⟩ ⟨Nat.le_of_ble_eq_true rfl, Nat.le_of_ble_eq_true rfl⟩ dX8_showsDigit_12 (fun _ _ q => False.elim q) (kIp (fun r_1 hr_1 h => ?_))
    refine a_iconst (pc := 15) X9 dX8_showsDigit_15 ?_
    refine a_icmp_eq (pc := 16) (tgt := 23) X9 dX8_showsDigit_16 rfl hr_1 (by decide) (fun c => ?_) (fun c => ?_)
    · have c_2 := c
      have h := h.1 c_2
      refine a_iconst (pc := 23) X9 dX8_showsDigit_23 ?_
      exact a_ireturn (pc := 24) X9 E rfl (fit_bool (Or.inl rfl)).1 (Nat.le_of_ble_eq_true rfl) (Nat.le_of_ble_eq_true rfl) dX8_showsDigit_24 ⟨rfl, _, rfl, (Or.inl rfl), rfl, h⟩
    · have c_2 := c
      have h := h.2 c_2
      refine a_iconst (pc := 19) X9 dX8_showsDigit_19 ?_
      refine a_goto (pc := 20) (tgt := 24) X9 dX8_showsDigit_20 rfl ?_
      exact a_ireturn (pc := 24) X9 E rfl (fit_bool (Or.inr rfl)).1 (Nat.le_of_ble_eq_true rfl) (Nat.le_of_ble_eq_true rfl) dX8_showsDigit_24 ⟨rfl, _, rfl, (Or.inr rfl), rfl, h⟩
set_option maxHeartbeats 4000000 in
set_option maxRecDepth 100000 in
theorem m_X9_free {nn : Nat} {i1 : Int} {G : GH} {Q : Int → Prop} (hi1 : inR i1) (hnn : 272 ≤ nn) (h : f_X9_free i1 G Q (fun _ => False)) : Mt yX9_free cX9_free 4 (some .int) 3 67 0 0 [vr 0, vi i1] (SF nn) G (fun v S' G' => S' = SF nn ∧ qI (fun r9 G9 => G9 = G ∧ Q r9) v S' G') (fun E S' G' => S' = SF nn ∧ False) := by
  refine Mt.of (l0 := [some (vr 0), some (vi i1), none, none]) (by decide) (Nat.le_of_ble_eq_true rfl) rfl ?_
  intro κ δ ρ0 X9 E hG
  replace X9 : CX κ δ RX9 cX9_free 4 (some .int) := X9
  refine a_iload_n (pc := 0) X9 dX9_free_0 rfl rfl ?_
  refine a_callS (pc := 1) X9 E (m_X9_needDigit hi1 hnn h) wM_X9_185 w_static_X9_needDigit w_initialized_RX9 w_code_X9_needDigit cp_X9_needDigit pn_X9_needDigit rfl (Nat.le_of_ble_eq_true rfl) ⟨Nat.le_of_ble_eq_true rfl, Nat.le_of_ble_eq_true rfl⟩ ⟨Nat.le_of_ble_eq_true rfl, Nat.le_of_ble_eq_true rfl⟩ dX9_free_1 (fun _ _ q => False.elim q) (kVp (fun h => ?_))
  refine a_iconst (pc := 4) X9 dX9_free_4 ?_
  refine a_istore_n (pc := 5) X9 dX9_free_5 rfl (Nat.le_of_ble_eq_true rfl) rfl rfl ?_
  refine a_iconst (pc := 6) X9 dX9_free_6 ?_
  refine a_istore_n (pc := 7) X9 dX9_free_7 rfl (Nat.le_of_ble_eq_true rfl) rfl rfl ?_
  refine loopM2 (A := fun x2_1 x3_1 => inR x2_1 → inR x3_1 → AW κ δ ρ0 (szF nn) 4 0 0 8 [some (vr 0), some (vi i1), some (vi x2_1), some (vi x3_1)] [] (SF nn) G) (fun k_1 hk_1 x2_1 x3_1 h h_x2_1 h_x3_1 => ?_) _ _ h (by decide) (by decide)
  refine a_iload_n (pc := 8) X9 dX9_free_8 rfl rfl ?_
  refine a_bipush (pc := 9) X9 dX9_free_9 rfl ?_
  refine a_icmp_ge (pc := 11) (tgt := 63) X9 dX9_free_11 rfl h_x3_1 (by decide) (fun c => ?_) (fun c => ?_)
  · have c_1 := c
    have h := h.1 c_1
    refine a_iload_n (pc := 63) X9 dX9_free_63 rfl rfl ?_
    exact a_ireturn (pc := 64) X9 E rfl rfl (Nat.le_of_ble_eq_true rfl) (Nat.le_of_ble_eq_true rfl) dX9_free_64 ⟨rfl, _, rfl, h_x2_1, rfl, h⟩
  · have c_1 := c
    have h := h.2 c_1
    refine a_aload_n (pc := 14) X9 dX9_free_14 rfl rfl ?_
    refine a_getR (pc := 15) X9 (q := 1) okX9 0 rfl wF_X9_12 (is9 hnn) rf9_0 dX9_free_15 ?_
    refine a_getR (pc := 18) X9 (q := 3) okX7 3 rfl wF_X9_116 (is7 su9_0 hnn) (rf7_3 _ su9_0) dX9_free_18 ?_
    refine a_iload_n (pc := 21) X9 dX9_free_21 rfl rfl ?_
    refine a_iload_n (pc := 22) X9 dX9_free_22 rfl rfl ?_
    refine a_callV (pc := 23) X9 E (m_X8_showsDigit (su7_3 _ su9_0) h_x3_1 hi1 hnn h) okX8 (is8 (su7_3 _ su9_0) hnn) wM_X9_249 w_instanceMethod_X8_showsDigit w_selects_X8_showsDigit w_initialized_RX8 w_code_X8_showsDigit cp_X8_showsDigit pn_X8_showsDigit rfl (Nat.le_of_ble_eq_true rfl) ⟨Nat.le_of_ble_eq_true rfl, Nat.le_of_ble_eq_true rfl⟩ ⟨Nat.le_of_ble_eq_true rfl, Nat.le_of_ble_eq_true rfl⟩ dX9_free_23 (fun _ _ q => False.elim q) (kZp (fun r_2 hr_2 h => ?_))
    refine a_if_eq (pc := 26) (tgt := 57) X9 dX9_free_26 rfl (bool_inR hr_2) (fun c => ?_) (fun c => ?_)
    · have c_2 := c
      have h := h.1 c_2
      refine a_iinc (pc := 57) X9 dX9_free_57 rfl (Nat.le_of_ble_eq_true rfl) rfl rfl ?_
      refine a_goto (pc := 60) (tgt := 8) X9 dX9_free_60 rfl ?_
      have q_1 : inR (x3_1) := h_x3_1
      have g_1 : inR ((x3_1 + 1)) := ⟨by omega, by omega⟩
      exact hk_1 _ _ h h_x2_1 g_1
    · have c_2 := c
      have h := h.2 c_2
      refine a_iload_n (pc := 29) X9 dX9_free_29 rfl rfl ?_
      refine a_aload_n (pc := 30) X9 dX9_free_30 rfl rfl ?_
      refine a_getR (pc := 31) X9 (q := 1) okX9 0 rfl wF_X9_12 (is9 hnn) rf9_0 dX9_free_31 ?_
      refine a_getR (pc := 34) X9 (q := 3) okX7 3 rfl wF_X9_116 (is7 su9_0 hnn) (rf7_3 _ su9_0) dX9_free_34 ?_
      refine a_getR (pc := 37) X9 (q := 6) okX8 4 rfl wF_X9_179 (is8 (su7_3 _ su9_0) hnn) (rf8_4 _ (su7_3 _ su9_0)) dX9_free_37 ?_
      refine a_iload_n (pc := 40) X9 dX9_free_40 rfl rfl ?_
      obtain ⟨g_2, h⟩ := h
      refine b_iald (pc := 41) X9 (ar8_4 (su7_3 _ su9_0) hnn) (Nat.le_of_ble_eq_true rfl) g_2 dX9_free_41 ?_
      refine a_aload_n (pc := 42) X9 dX9_free_42 rfl rfl ?_
      refine a_getR (pc := 43) X9 (q := 1) okX9 0 rfl wF_X9_12 (is9 hnn) rf9_0 dX9_free_43 ?_
      refine a_getR (pc := 46) X9 (q := 15) okX7 5 rfl wF_X9_138 (is7 su9_0 hnn) (rf7_5 _ su9_0) dX9_free_46 ?_
      refine a_getR (pc := 49) X9 (q := 20) okX0 5 rfl wF_X9_182 (is0 (su7_5 _ su9_0) hnn) (rf0_5 _ (su7_5 _ su9_0)) dX9_free_49 ?_
      refine a_iload_n (pc := 52) X9 dX9_free_52 rfl rfl ?_
      refine b_iald (pc := 53) X9 (ar0_5 (su7_5 _ su9_0) hnn) (Nat.le_of_ble_eq_true rfl) g_2 dX9_free_53 ?_
      refine a_isub (pc := 54) X9 dX9_free_54 ?_
      refine a_iadd (pc := 55) X9 dX9_free_55 ?_
      refine a_istore_n (pc := 56) X9 dX9_free_56 rfl (Nat.le_of_ble_eq_true rfl) rfl rfl ?_
      refine a_iinc (pc := 57) X9 dX9_free_57 rfl (Nat.le_of_ble_eq_true rfl) rfl rfl ?_
      refine a_goto (pc := 60) (tgt := 8) X9 dX9_free_60 rfl ?_
      obtain ⟨g_3, h⟩ := h
      have q_2 : inR (x3_1) := h_x3_1
      have g_4 : inR ((x3_1 + 1)) := ⟨by omega, by omega⟩
      exact hk_1 _ _ h g_3 g_4
set_option maxHeartbeats 4000000 in
set_option maxRecDepth 100000 in
theorem m_X9_needHymn {nn : Nat} {i0 : Int} {G : GH} {Q : Prop} (hi0 : inR i0) (hnn : 272 ≤ nn) (h : f_X9_needHymn i0 Q (fun _ => False)) : Mt yX9_needHymn cX9_needHymn 1 none 1 22 0 0 [vi i0] (SF nn) G (fun v S' G' => S' = SF nn ∧ qV (fun G9 => G9 = G ∧ Q) v S' G') (fun E S' G' => S' = SF nn ∧ False) := by
  refine Mt.of (l0 := [some (vi i0)]) (by decide) (Nat.le_of_ble_eq_true rfl) rfl ?_
  intro κ δ ρ0 X9 E hG
  replace X9 : CX κ δ RX9 cX9_needHymn 1 none := X9
  refine a_iload_n (pc := 0) X9 dX9_needHymn_0 rfl rfl ?_
  refine a_iconst (pc := 1) X9 dX9_needHymn_1 ?_
  refine a_sipush (pc := 2) X9 dX9_needHymn_2 rfl ?_
  refine a_callS (pc := 5) X9 E (m_X9_within hi0 (show inR 1 by decide) (show inR 999 by decide) hnn h) wM_X9_199 w_static_X9_within w_initialized_RX9 w_code_X9_within cp_X9_within pn_X9_within rfl (Nat.le_of_ble_eq_true rfl) ⟨Nat.le_of_ble_eq_true rfl, Nat.le_of_ble_eq_true rfl⟩ ⟨Nat.le_of_ble_eq_true rfl, Nat.le_of_ble_eq_true rfl⟩ dX9_needHymn_5 (fun _ _ q => False.elim q) (kZp (fun r_1 hr_1 h => ?_))
  refine a_callS (pc := 8) X9 E (m_X9_needArgument (bool_inR hr_1) hnn h) wM_X9_228 w_static_X9_needArgument w_initialized_RX9 w_code_X9_needArgument cp_X9_needArgument pn_X9_needArgument rfl (Nat.le_of_ble_eq_true rfl) ⟨Nat.le_of_ble_eq_true rfl, Nat.le_of_ble_eq_true rfl⟩ ⟨Nat.le_of_ble_eq_true rfl, Nat.le_of_ble_eq_true rfl⟩ dX9_needHymn_8 (fun _ _ q => False.elim q) (kVp (fun h => ?_))
  exact a_return (pc := 11) X9 E (Nat.le_of_ble_eq_true rfl) (Nat.le_of_ble_eq_true rfl) dX9_needHymn_11 ⟨rfl, rfl, rfl, h⟩
set_option maxHeartbeats 4000000 in
set_option maxRecDepth 100000 in
theorem m_X2_startEmpty {nn : Nat}  {G : GH} {Q : GH → Prop}  (hnn : 272 ≤ nn) (h : f_X2_startEmpty G Q) : Mt yX2_startEmpty cX2_startEmpty 1 none 1 23 0 0 [vr 209] (SF nn) G (fun v S' G' => S' = SF nn ∧ qV Q v S' G') (fun E S' G' => S' = SF nn ∧ False) := by
  refine Mt.of (l0 := [some (vr 209)]) (by decide) (Nat.le_of_ble_eq_true rfl) rfl ?_
  intro κ δ ρ0 X9 E hG
  replace X9 : CX κ δ RX2 cX2_startEmpty 1 none := X9
  refine a_aload_n (pc := 0) X9 dX2_startEmpty_0 rfl rfl ?_
  refine a_iconst (pc := 1) X9 dX2_startEmpty_1 ?_
  refine a_putI (pc := 2) X9 okX2 0 rfl rfl (v := 0) wF_X2_36 (is2 hnn) dX2_startEmpty_2 (by decide) (fit_int _) (fun _ => ?_)
  obtain ⟨G_1, eG_1⟩ : ∃ G9, G9 = upG G 209 0 0 := ⟨_, rfl⟩
  have hG_1 : GR G_1 := by rw [eG_1]; exact (GR.up hG (by decide))
  have h := h G_1 eG_1
  rw [← eG_1]
  refine a_aload_n (pc := 5) X9 dX2_startEmpty_5 rfl rfl ?_
  refine a_getR (pc := 6) X9 (q := 214) okX2 5 rfl wF_X2_24 (is2 hnn) rf2_5 dX2_startEmpty_6 ?_
  refine a_iconst (pc := 9) X9 dX2_startEmpty_9 ?_
  refine a_callS (pc := 10) X9 E (m_fill (v := 0) (ar2_5 hnn) (Nat.le_of_ble_eq_true rfl) (show inR 0 by decide)) wM_X2_40 w_static_J7_fill_53178 w_initialized_RJ7 w_code_J7_fill_53178 cp_J7_fill_53178 pn_J7_fill_53178 rfl (Nat.le_of_ble_eq_true rfl) ⟨Nat.le_of_ble_eq_true rfl, Nat.le_of_ble_eq_true rfl⟩ ⟨Nat.le_of_ble_eq_true rfl, Nat.le_of_ble_eq_true rfl⟩ dX2_startEmpty_10 (fun _ _ q => q.elim) (kV (fun G_2 eG_2 hG_2 => ?_))
  have h := h G_2 eG_2
  exact a_return (pc := 13) X9 E (Nat.le_of_ble_eq_true rfl) (Nat.le_of_ble_eq_true rfl) dX2_startEmpty_13 ⟨rfl, rfl, h⟩
set_option maxHeartbeats 4000000 in
set_option maxRecDepth 100000 in
theorem m_X8_digitsOfSide {nn : Nat} {a0 : Nat} {i1 : Int} {G : GH} {Q : Int → Prop} (ha0 : a0 ∈ L8) (hi1 : inR i1) (hnn : 272 ≤ nn) (h : f_X8_digitsOfSide a0 i1 G Q) : Mt yX8_digitsOfSide cX8_digitsOfSide 3 (some .int) 1 20 0 0 [vr a0, vi i1] (SF nn) G (fun v S' G' => S' = SF nn ∧ qI (fun r9 G9 => G9 = G ∧ Q r9) v S' G') (fun E S' G' => S' = SF nn ∧ False) := by
  refine Mt.of (l0 := [some (vr a0), some (vi i1), none]) (by decide) (Nat.le_of_ble_eq_true rfl) rfl ?_
  intro κ δ ρ0 X9 E hG
  replace X9 : CX κ δ RX8 cX8_digitsOfSide 3 (some .int) := X9
  refine a_iload_n (pc := 0) X9 dX8_digitsOfSide_0 rfl rfl ?_
  refine a_iconst (pc := 1) X9 dX8_digitsOfSide_1 ?_
  refine a_icmp_ne (pc := 2) (tgt := 7) X9 dX8_digitsOfSide_2 rfl hi1 (by decide) (fun c => ?_) (fun c => ?_)
  · have c_1 := c
    have h := h.1 c_1
    refine a_iconst (pc := 7) X9 dX8_digitsOfSide_7 ?_
    refine a_iload_n (pc := 8) X9 dX8_digitsOfSide_8 rfl rfl ?_
    refine b_ishl (pc := 9) X9 dX8_digitsOfSide_9 ?_
    refine a_istore_n (pc := 10) X9 dX8_digitsOfSide_10 rfl (Nat.le_of_ble_eq_true rfl) rfl rfl ?_
    refine a_aload_n (pc := 11) X9 dX8_digitsOfSide_11 rfl rfl ?_
    refine a_getI (pc := 12) X9 okX8 0 rfl wF_X8_36 (is8 ha0 hnn) dX8_digitsOfSide_12 ?_
    refine a_if_eq (pc := 15) (tgt := 36) X9 dX8_digitsOfSide_15 rfl (hG _ _) (fun c => ?_) (fun c => ?_)
    · have c_2 := c
      have h := h.1 c_2
      refine a_iload_n (pc := 36) X9 dX8_digitsOfSide_36 rfl rfl ?_
      exact a_ireturn (pc := 37) X9 E rfl rfl (Nat.le_of_ble_eq_true rfl) (Nat.le_of_ble_eq_true rfl) dX8_digitsOfSide_37 ⟨rfl, _, rfl, inR_zShl, rfl, h⟩
    · have c_2 := c
      have h := h.2 c_2
      refine a_iload_n (pc := 18) X9 dX8_digitsOfSide_18 rfl rfl ?_
      refine a_callS (pc := 19) X9 E (m_X8_isTurnable hi1 hnn h) wM_X8_69 w_static_X8_isTurnable w_initialized_RX8 w_code_X8_isTurnable cp_X8_isTurnable pn_X8_isTurnable rfl (Nat.le_of_ble_eq_true rfl) ⟨Nat.le_of_ble_eq_true rfl, Nat.le_of_ble_eq_true rfl⟩ ⟨Nat.le_of_ble_eq_true rfl, Nat.le_of_ble_eq_true rfl⟩ dX8_digitsOfSide_19 (fun _ _ q => False.elim q) (kZp (fun r_1 hr_1 h => ?_))
      refine a_if_eq (pc := 22) (tgt := 36) X9 dX8_digitsOfSide_22 rfl (bool_inR hr_1) (fun c => ?_) (fun c => ?_)
      · have c_3 := c
        have h := h.1 c_3
        refine a_iload_n (pc := 36) X9 dX8_digitsOfSide_36 rfl rfl ?_
        exact a_ireturn (pc := 37) X9 E rfl rfl (Nat.le_of_ble_eq_true rfl) (Nat.le_of_ble_eq_true rfl) dX8_digitsOfSide_37 ⟨rfl, _, rfl, inR_zShl, rfl, h⟩
      · have c_3 := c
        have h := h.2 c_3
        refine a_iload_n (pc := 25) X9 dX8_digitsOfSide_25 rfl rfl ?_
        refine a_iconst (pc := 26) X9 dX8_digitsOfSide_26 ?_
        refine a_iload_n (pc := 27) X9 dX8_digitsOfSide_27 rfl rfl ?_
        refine a_callS (pc := 28) X9 E (m_X8_otherOfBoth hi1 hnn h) wM_X8_73 w_static_X8_otherOfBoth w_initialized_RX8 w_code_X8_otherOfBoth cp_X8_otherOfBoth pn_X8_otherOfBoth rfl (Nat.le_of_ble_eq_true rfl) ⟨Nat.le_of_ble_eq_true rfl, Nat.le_of_ble_eq_true rfl⟩ ⟨Nat.le_of_ble_eq_true rfl, Nat.le_of_ble_eq_true rfl⟩ dX8_digitsOfSide_28 (fun _ _ q => False.elim q) (kIp (fun r_2 hr_2 h => ?_))
        refine b_ishl (pc := 31) X9 dX8_digitsOfSide_31 ?_
        refine b_ior (pc := 32) X9 dX8_digitsOfSide_32 ?_
        refine a_goto (pc := 33) (tgt := 37) X9 dX8_digitsOfSide_33 rfl ?_
        exact a_ireturn (pc := 37) X9 E rfl rfl (Nat.le_of_ble_eq_true rfl) (Nat.le_of_ble_eq_true rfl) dX8_digitsOfSide_37 ⟨rfl, _, rfl, inR_zOr, rfl, h⟩
  · have c_1 := c
    have h := h.2 c_1
    refine a_iconst (pc := 5) X9 dX8_digitsOfSide_5 ?_
    exact a_ireturn (pc := 6) X9 E rfl rfl (Nat.le_of_ble_eq_true rfl) (Nat.le_of_ble_eq_true rfl) dX8_digitsOfSide_6 ⟨rfl, _, rfl, (show inR 0 by decide), rfl, h⟩
set_option maxHeartbeats 4000000 in
set_option maxRecDepth 100000 in
theorem m_X8_digitsOf {nn : Nat} {a0 : Nat} {i1 : Int} {G : GH} {Q : Int → Prop} (ha0 : a0 ∈ L8) (hi1 : inR i1) (hnn : 272 ≤ nn) (h : f_X8_digitsOf a0 i1 G Q) : Mt yX8_digitsOf cX8_digitsOf 2 (some .int) 2 42 0 0 [vr a0, vi i1] (SF nn) G (fun v S' G' => S' = SF nn ∧ qI (fun r9 G9 => G9 = G ∧ Q r9) v S' G') (fun E S' G' => S' = SF nn ∧ False) := by
  refine Mt.of (l0 := [some (vr a0), some (vi i1)]) (by decide) (Nat.le_of_ble_eq_true rfl) rfl ?_
  intro κ δ ρ0 X9 E hG
  replace X9 : CX κ δ RX8 cX8_digitsOf 2 (some .int) := X9
  refine a_aload_n (pc := 0) X9 dX8_digitsOf_0 rfl rfl ?_
  refine a_aload_n (pc := 1) X9 dX8_digitsOf_1 rfl rfl ?_
  refine a_iload_n (pc := 2) X9 dX8_digitsOf_2 rfl rfl ?_
  refine a_callV (pc := 3) X9 E (m_X8_frontOf ha0 hi1 hnn h) okX8 (is8 ha0 hnn) wM_X8_62 w_instanceMethod_X8_frontOf w_selects_X8_frontOf w_initialized_RX8 w_code_X8_frontOf cp_X8_frontOf pn_X8_frontOf rfl (Nat.le_of_ble_eq_true rfl) ⟨Nat.le_of_ble_eq_true rfl, Nat.le_of_ble_eq_true rfl⟩ ⟨Nat.le_of_ble_eq_true rfl, Nat.le_of_ble_eq_true rfl⟩ dX8_digitsOf_3 (fun _ _ q => False.elim q) (kIp (fun r_1 hr_1 h => ?_))
  refine a_callV (pc := 6) X9 E (m_X8_digitsOfSide ha0 hr_1 hnn h) okX8 (is8 ha0 hnn) wM_X8_76 w_instanceMethod_X8_digitsOfSide w_selects_X8_digitsOfSide w_initialized_RX8 w_code_X8_digitsOfSide cp_X8_digitsOfSide pn_X8_digitsOfSide rfl (Nat.le_of_ble_eq_true rfl) ⟨Nat.le_of_ble_eq_true rfl, Nat.le_of_ble_eq_true rfl⟩ ⟨Nat.le_of_ble_eq_true rfl, Nat.le_of_ble_eq_true rfl⟩ dX8_digitsOf_6 (fun _ _ q => False.elim q) (kIp (fun r_2 hr_2 h => ?_))
  refine a_aload_n (pc := 9) X9 dX8_digitsOf_9 rfl rfl ?_
  refine a_aload_n (pc := 10) X9 dX8_digitsOf_10 rfl rfl ?_
  refine a_iload_n (pc := 11) X9 dX8_digitsOf_11 rfl rfl ?_
  refine a_callV (pc := 12) X9 E (m_X8_backOf ha0 hi1 hnn h) okX8 (is8 ha0 hnn) wM_X8_66 w_instanceMethod_X8_backOf w_selects_X8_backOf w_initialized_RX8 w_code_X8_backOf cp_X8_backOf pn_X8_backOf rfl (Nat.le_of_ble_eq_true rfl) ⟨Nat.le_of_ble_eq_true rfl, Nat.le_of_ble_eq_true rfl⟩ ⟨Nat.le_of_ble_eq_true rfl, Nat.le_of_ble_eq_true rfl⟩ dX8_digitsOf_12 (fun _ _ q => False.elim q) (kIp (fun r_3 hr_3 h => ?_))
  refine a_callV (pc := 15) X9 E (m_X8_digitsOfSide ha0 hr_3 hnn h) okX8 (is8 ha0 hnn) wM_X8_76 w_instanceMethod_X8_digitsOfSide w_selects_X8_digitsOfSide w_initialized_RX8 w_code_X8_digitsOfSide cp_X8_digitsOfSide pn_X8_digitsOfSide rfl (Nat.le_of_ble_eq_true rfl) ⟨Nat.le_of_ble_eq_true rfl, Nat.le_of_ble_eq_true rfl⟩ ⟨Nat.le_of_ble_eq_true rfl, Nat.le_of_ble_eq_true rfl⟩ dX8_digitsOf_15 (fun _ _ q => False.elim q) (kIp (fun r_4 hr_4 h => ?_))
  refine b_ior (pc := 18) X9 dX8_digitsOf_18 ?_
  exact a_ireturn (pc := 19) X9 E rfl rfl (Nat.le_of_ble_eq_true rfl) (Nat.le_of_ble_eq_true rfl) dX8_digitsOf_19 ⟨rfl, _, rfl, inR_zOr, rfl, h⟩
set_option maxHeartbeats 4000000 in
set_option maxRecDepth 100000 in
theorem m_X2_offer {nn : Nat} {i1 : Int} {i2 : Int} {i3 : Int} {G : GH} {Q : GH → Prop} (hi1 : inR i1) (hi2 : inR i2) (hi3 : inR i3) (hnn : 272 ≤ nn) (h : f_X2_offer i1 i2 i3 G Q) : Mt yX2_offer cX2_offer 4 none 0 0 0 0 [vr 209, vi i1, vi i2, vi i3] (SF nn) G (fun v S' G' => S' = SF nn ∧ qV Q v S' G') (fun E S' G' => S' = SF nn ∧ False) := by
  refine Mt.of (l0 := [some (vr 209), some (vi i1), some (vi i2), some (vi i3)]) (by decide) (Nat.le_of_ble_eq_true rfl) rfl ?_
  intro κ δ ρ0 X9 E hG
  replace X9 : CX κ δ RX2 cX2_offer 4 none := X9
  refine a_iload_n (pc := 0) X9 dX2_offer_0 rfl rfl ?_
  refine a_if_le (pc := 1) (tgt := 63) X9 dX2_offer_1 rfl hi3 (fun c => ?_) (fun c => ?_)
  · have c_1 := c
    have h := h.1 c_1
    exact a_return (pc := 63) X9 E (Nat.le_of_ble_eq_true rfl) (Nat.le_of_ble_eq_true rfl) dX2_offer_63 ⟨rfl, rfl, h⟩
  · have c_1 := c
    have h := h.2 c_1
    refine a_aload_n (pc := 4) X9 dX2_offer_4 rfl rfl ?_
    refine a_getI (pc := 5) X9 okX2 0 rfl wF_X2_36 (is2 hnn) dX2_offer_5 ?_
    refine a_bipush (pc := 8) X9 dX2_offer_8 rfl ?_
    refine a_icmp_ge (pc := 10) (tgt := 63) X9 dX2_offer_10 rfl (hG _ _) (by decide) (fun c => ?_) (fun c => ?_)
    · have c_2 := c
      have h := h.1 c_2
      exact a_return (pc := 63) X9 E (Nat.le_of_ble_eq_true rfl) (Nat.le_of_ble_eq_true rfl) dX2_offer_63 ⟨rfl, rfl, h⟩
    · have c_2 := c
      have h := h.2 c_2
      refine a_aload_n (pc := 13) X9 dX2_offer_13 rfl rfl ?_
      refine a_getR (pc := 14) X9 (q := 210) okX2 1 rfl wF_X2_11 (is2 hnn) rf2_1 dX2_offer_14 ?_
      refine a_aload_n (pc := 17) X9 dX2_offer_17 rfl rfl ?_
      refine a_getI (pc := 18) X9 okX2 0 rfl wF_X2_36 (is2 hnn) dX2_offer_18 ?_
      refine a_iload_n (pc := 21) X9 dX2_offer_21 rfl rfl ?_
      obtain ⟨g_1, h⟩ := h
      refine b_iast (pc := 22) X9 (i := (G 209 0)) (v := i1) (ar2_1 hnn) (Nat.le_of_ble_eq_true rfl) g_1 hi1 dX2_offer_22 ?_
      obtain ⟨G_1, eG_1⟩ : ∃ G9, G9 = upG G 210 ((G 209 0)).toNat i1 := ⟨_, rfl⟩
      have hG_1 : GR G_1 := by rw [eG_1]; exact (GR.up hG hi1)
      have h := h G_1 eG_1
      rw [← eG_1]
      refine a_aload_n (pc := 23) X9 dX2_offer_23 rfl rfl ?_
      refine a_getR (pc := 24) X9 (q := 211) okX2 2 rfl wF_X2_15 (is2 hnn) rf2_2 dX2_offer_24 ?_
      refine a_aload_n (pc := 27) X9 dX2_offer_27 rfl rfl ?_
      refine a_getI (pc := 28) X9 okX2 0 rfl wF_X2_36 (is2 hnn) dX2_offer_28 ?_
      refine a_iload_n (pc := 31) X9 dX2_offer_31 rfl rfl ?_
      obtain ⟨g_2, h⟩ := h
      refine b_iast (pc := 32) X9 (i := (G_1 209 0)) (v := i2) (ar2_2 hnn) (Nat.le_of_ble_eq_true rfl) g_2 hi2 dX2_offer_32 ?_
      obtain ⟨G_2, eG_2⟩ : ∃ G9, G9 = upG G_1 211 ((G_1 209 0)).toNat i2 := ⟨_, rfl⟩
      have hG_2 : GR G_2 := by rw [eG_2]; exact (GR.up hG_1 hi2)
      have h := h G_2 eG_2
      rw [← eG_2]
      refine a_aload_n (pc := 33) X9 dX2_offer_33 rfl rfl ?_
      refine a_getR (pc := 34) X9 (q := 212) okX2 3 rfl wF_X2_18 (is2 hnn) rf2_3 dX2_offer_34 ?_
      refine a_aload_n (pc := 37) X9 dX2_offer_37 rfl rfl ?_
      refine a_getI (pc := 38) X9 okX2 0 rfl wF_X2_36 (is2 hnn) dX2_offer_38 ?_
      refine a_iload_n (pc := 41) X9 dX2_offer_41 rfl rfl ?_
      obtain ⟨g_3, h⟩ := h
      refine b_iast (pc := 42) X9 (i := (G_2 209 0)) (v := i3) (ar2_3 hnn) (Nat.le_of_ble_eq_true rfl) g_3 hi3 dX2_offer_42 ?_
      obtain ⟨G_3, eG_3⟩ : ∃ G9, G9 = upG G_2 212 ((G_2 209 0)).toNat i3 := ⟨_, rfl⟩
      have hG_3 : GR G_3 := by rw [eG_3]; exact (GR.up hG_2 hi3)
      have h := h G_3 eG_3
      rw [← eG_3]
      refine a_aload_n (pc := 43) X9 dX2_offer_43 rfl rfl ?_
      refine a_getR (pc := 44) X9 (q := 213) okX2 4 rfl wF_X2_21 (is2 hnn) rf2_4 dX2_offer_44 ?_
      refine a_aload_n (pc := 47) X9 dX2_offer_47 rfl rfl ?_
      refine a_getI (pc := 48) X9 okX2 0 rfl wF_X2_36 (is2 hnn) dX2_offer_48 ?_
      refine a_iconst (pc := 51) X9 dX2_offer_51 ?_
      obtain ⟨g_4, h⟩ := h
      refine b_iast (pc := 52) X9 (i := (G_3 209 0)) (v := 0) (ar2_4 hnn) (Nat.le_of_ble_eq_true rfl) g_4 (by decide) dX2_offer_52 ?_
      obtain ⟨G_4, eG_4⟩ : ∃ G9, G9 = upG G_3 213 ((G_3 209 0)).toNat 0 := ⟨_, rfl⟩
      have hG_4 : GR G_4 := by rw [eG_4]; exact (GR.up hG_3 (by decide))
      have h := h G_4 eG_4
      rw [← eG_4]
      refine a_aload_n (pc := 53) X9 dX2_offer_53 rfl rfl ?_
      refine a_dup (pc := 54) X9 dX2_offer_54 rfl ?_
      refine a_getI (pc := 55) X9 okX2 0 rfl wF_X2_36 (is2 hnn) dX2_offer_55 ?_
      refine a_iconst (pc := 58) X9 dX2_offer_58 ?_
      refine a_iadd (pc := 59) X9 dX2_offer_59 ?_
      obtain ⟨g_5, h⟩ := h
      refine a_putI (pc := 60) X9 okX2 0 rfl rfl (v := ((G_4 209 0) + 1)) wF_X2_36 (is2 hnn) dX2_offer_60 g_5 (fit_int _) (fun _ => ?_)
      obtain ⟨G_5, eG_5⟩ : ∃ G9, G9 = upG G_4 209 0 ((G_4 209 0) + 1) := ⟨_, rfl⟩
      have hG_5 : GR G_5 := by rw [eG_5]; exact (GR.up hG_4 g_5)
      have h := h G_5 eG_5
      rw [← eG_5]
      exact a_return (pc := 63) X9 E (Nat.le_of_ble_eq_true rfl) (Nat.le_of_ble_eq_true rfl) dX2_offer_63 ⟨rfl, rfl, h⟩
set_option maxHeartbeats 4000000 in
set_option maxRecDepth 100000 in
theorem m_X4_offerFree {nn : Nat} {a1 : Nat} {a2 : Nat} {G : GH} {Q : GH → Prop} (ha1 : a1 ∈ L8) (ha2 : a2 ∈ L0) (hnn : 272 ≤ nn) (h : f_X4_offerFree a1 a2 G Q) : Mt yX4_offerFree cX4_offerFree 4 none 3 63 0 0 [vr 208, vr a1, vr a2] (SF nn) G (fun v S' G' => S' = SF nn ∧ qV Q v S' G') (fun E S' G' => S' = SF nn ∧ False) := by
  refine Mt.of (l0 := [some (vr 208), some (vr a1), some (vr a2), none]) (by decide) (Nat.le_of_ble_eq_true rfl) rfl ?_
  intro κ δ ρ0 X9 E hG
  replace X9 : CX κ δ RX4 cX4_offerFree 4 none := X9
  refine a_aload_n (pc := 0) X9 dX4_offerFree_0 rfl rfl ?_
  refine a_getR (pc := 1) X9 (q := 209) okX4 0 rfl wF_X4_12 (is4 hnn) rf4_0 dX4_offerFree_1 ?_
  refine a_callV (pc := 4) X9 E (m_X2_startEmpty  hnn h) okX2 (is2 hnn) wM_X4_18 w_instanceMethod_X2_startEmpty w_selects_X2_startEmpty w_initialized_RX2 w_code_X2_startEmpty cp_X2_startEmpty pn_X2_startEmpty rfl (Nat.le_of_ble_eq_true rfl) ⟨Nat.le_of_ble_eq_true rfl, Nat.le_of_ble_eq_true rfl⟩ ⟨Nat.le_of_ble_eq_true rfl, Nat.le_of_ble_eq_true rfl⟩ dX4_offerFree_4 (fun _ _ q => False.elim q) (kV (fun G_1 h hG_1 => ?_))
  refine a_iconst (pc := 7) X9 dX4_offerFree_7 ?_
  refine a_istore_n (pc := 8) X9 dX4_offerFree_8 rfl (Nat.le_of_ble_eq_true rfl) rfl rfl ?_
  refine loopM2 (A := fun x3_1 G_2 => inR x3_1 → GR G_2 → AW κ δ ρ0 (szF nn) 4 0 0 9 [some (vr 208), some (vr a1), some (vr a2), some (vi x3_1)] [] (SF nn) G_2) (fun k_1 hk_1 x3_1 G_2 h h_x3_1 hG_2 => ?_) _ _ h (by decide) hG_1
  refine a_iload_n (pc := 9) X9 dX4_offerFree_9 rfl rfl ?_
  refine a_bipush (pc := 10) X9 dX4_offerFree_10 rfl ?_
  refine a_icmp_ge (pc := 12) (tgt := 56) X9 dX4_offerFree_12 rfl h_x3_1 (by decide) (fun c => ?_) (fun c => ?_)
  · have c_1 := c
    have h := h.1 c_1
    exact a_return (pc := 56) X9 E (Nat.le_of_ble_eq_true rfl) (Nat.le_of_ble_eq_true rfl) dX4_offerFree_56 ⟨rfl, rfl, h⟩
  · have c_1 := c
    have h := h.2 c_1
    refine a_aload_n (pc := 15) X9 dX4_offerFree_15 rfl rfl ?_
    refine a_getR (pc := 16) X9 (q := (a1 + 3)) okX8 4 rfl wF_X4_21 (is8 ha1 hnn) (rf8_4 _ ha1) dX4_offerFree_16 ?_
    refine a_iload_n (pc := 19) X9 dX4_offerFree_19 rfl rfl ?_
    obtain ⟨g_1, h⟩ := h
    refine b_iald (pc := 20) X9 (ar8_4 ha1 hnn) (Nat.le_of_ble_eq_true rfl) g_1 dX4_offerFree_20 ?_
    refine a_if_le (pc := 21) (tgt := 50) X9 dX4_offerFree_21 rfl (hG_2 _ _) (fun c => ?_) (fun c => ?_)
    · have c_2 := c
      have h := h.1 c_2
      refine a_iinc (pc := 50) X9 dX4_offerFree_50 rfl (Nat.le_of_ble_eq_true rfl) rfl rfl ?_
      refine a_goto (pc := 53) (tgt := 9) X9 dX4_offerFree_53 rfl ?_
      have q_1 : inR (x3_1) := h_x3_1
      have g_2 : inR ((x3_1 + 1)) := ⟨by omega, by omega⟩
      exact hk_1 _ _ h g_2 hG_2
    · have c_2 := c
      have h := h.2 c_2
      refine a_aload_n (pc := 24) X9 dX4_offerFree_24 rfl rfl ?_
      refine a_getR (pc := 25) X9 (q := 209) okX4 0 rfl wF_X4_12 (is4 hnn) rf4_0 dX4_offerFree_25 ?_
      refine a_iload_n (pc := 28) X9 dX4_offerFree_28 rfl rfl ?_
      refine a_aload_n (pc := 29) X9 dX4_offerFree_29 rfl rfl ?_
      refine a_iload_n (pc := 30) X9 dX4_offerFree_30 rfl rfl ?_
      refine a_callV (pc := 31) X9 E (m_X8_digitsOf ha1 h_x3_1 hnn h) okX8 (is8 ha1 hnn) wM_X4_27 w_instanceMethod_X8_digitsOf w_selects_X8_digitsOf w_initialized_RX8 w_code_X8_digitsOf cp_X8_digitsOf pn_X8_digitsOf rfl (Nat.le_of_ble_eq_true rfl) ⟨Nat.le_of_ble_eq_true rfl, Nat.le_of_ble_eq_true rfl⟩ ⟨Nat.le_of_ble_eq_true rfl, Nat.le_of_ble_eq_true rfl⟩ dX4_offerFree_31 (fun _ _ q => False.elim q) (kIp (fun r_2 hr_2 h => ?_))
      refine a_aload_n (pc := 34) X9 dX4_offerFree_34 rfl rfl ?_
      refine a_getR (pc := 35) X9 (q := (a1 + 3)) okX8 4 rfl wF_X4_21 (is8 ha1 hnn) (rf8_4 _ ha1) dX4_offerFree_35 ?_
      refine a_iload_n (pc := 38) X9 dX4_offerFree_38 rfl rfl ?_
      refine b_iald (pc := 39) X9 (ar8_4 ha1 hnn) (Nat.le_of_ble_eq_true rfl) g_1 dX4_offerFree_39 ?_
      refine a_aload_n (pc := 40) X9 dX4_offerFree_40 rfl rfl ?_
      refine a_getR (pc := 41) X9 (q := (a2 + 5)) okX0 5 rfl wF_X4_35 (is0 ha2 hnn) (rf0_5 _ ha2) dX4_offerFree_41 ?_
      refine a_iload_n (pc := 44) X9 dX4_offerFree_44 rfl rfl ?_
      refine b_iald (pc := 45) X9 (ar0_5 ha2 hnn) (Nat.le_of_ble_eq_true rfl) g_1 dX4_offerFree_45 ?_
      refine a_isub (pc := 46) X9 dX4_offerFree_46 ?_
      obtain ⟨g_3, h⟩ := h
      refine a_callV (pc := 47) X9 E (m_X2_offer h_x3_1 hr_2 g_3 hnn h) okX2 (is2 hnn) wM_X4_31 w_instanceMethod_X2_offer w_selects_X2_offer w_initialized_RX2 w_code_X2_offer cp_X2_offer pn_X2_offer rfl (Nat.le_of_ble_eq_true rfl) ⟨Nat.le_of_ble_eq_true rfl, Nat.le_of_ble_eq_true rfl⟩ ⟨Nat.le_of_ble_eq_true rfl, Nat.le_of_ble_eq_true rfl⟩ dX4_offerFree_47 (fun _ _ q => False.elim q) (kV (fun G_3 h hG_3 => ?_))
      refine a_iinc (pc := 50) X9 dX4_offerFree_50 rfl (Nat.le_of_ble_eq_true rfl) rfl rfl ?_
      refine a_goto (pc := 53) (tgt := 9) X9 dX4_offerFree_53 rfl ?_
      have q_2 : inR (x3_1) := h_x3_1
      have g_4 : inR ((x3_1 + 1)) := ⟨by omega, by omega⟩
      exact hk_1 _ _ h g_4 hG_3
set_option maxHeartbeats 4000000 in
set_option maxRecDepth 100000 in
theorem m_X2_change {nn : Nat} {i1 : Int} {i2 : Int} {i3 : Int} {G : GH} {Q : GH → Prop} (hi1 : inR i1) (hi2 : inR i2) (hi3 : inR i3) (hnn : 272 ≤ nn) (h : f_X2_change i1 i2 i3 G Q) : Mt yX2_change cX2_change 4 none 0 0 0 0 [vr 209, vi i1, vi i2, vi i3] (SF nn) G (fun v S' G' => S' = SF nn ∧ qV Q v S' G') (fun E S' G' => S' = SF nn ∧ False) := by
  refine Mt.of (l0 := [some (vr 209), some (vi i1), some (vi i2), some (vi i3)]) (by decide) (Nat.le_of_ble_eq_true rfl) rfl ?_
  intro κ δ ρ0 X9 E hG
  replace X9 : CX κ δ RX2 cX2_change 4 none := X9
  refine a_aload_n (pc := 0) X9 dX2_change_0 rfl rfl ?_
  refine a_getR (pc := 1) X9 (q := 214) okX2 5 rfl wF_X2_24 (is2 hnn) rf2_5 dX2_change_1 ?_
  refine a_iload_n (pc := 4) X9 dX2_change_4 rfl rfl ?_
  refine a_bipush (pc := 5) X9 dX2_change_5 rfl ?_
  refine a_imul (pc := 7) X9 dX2_change_7 ?_
  refine a_iload_n (pc := 8) X9 dX2_change_8 rfl rfl ?_
  refine a_iadd (pc := 9) X9 dX2_change_9 ?_
  refine a_dup2 (pc := 10) X9 dX2_change_10 rfl rfl ?_
  obtain ⟨g_1, h⟩ := h
  refine b_iald (pc := 11) X9 (ar2_5 hnn) (Nat.le_of_ble_eq_true rfl) g_1 dX2_change_11 ?_
  refine a_iload_n (pc := 12) X9 dX2_change_12 rfl rfl ?_
  refine a_iadd (pc := 13) X9 dX2_change_13 ?_
  obtain ⟨g_2, h⟩ := h
  refine b_iast (pc := 14) X9 (i := ((i1 * 10) + i2)) (v := ((G 214 (((i1 * 10) + i2)).toNat) + i3)) (ar2_5 hnn) (Nat.le_of_ble_eq_true rfl) g_1 g_2 dX2_change_14 ?_
  obtain ⟨G_1, eG_1⟩ : ∃ G9, G9 = upG G 214 (((i1 * 10) + i2)).toNat ((G 214 (((i1 * 10) + i2)).toNat) + i3) := ⟨_, rfl⟩
  have hG_1 : GR G_1 := by rw [eG_1]; exact (GR.up hG g_2)
  have h := h G_1 eG_1
  rw [← eG_1]
  refine a_aload_n (pc := 15) X9 dX2_change_15 rfl rfl ?_
  refine a_getR (pc := 16) X9 (q := 213) okX2 4 rfl wF_X2_21 (is2 hnn) rf2_4 dX2_change_16 ?_
  refine a_iload_n (pc := 19) X9 dX2_change_19 rfl rfl ?_
  refine a_dup2 (pc := 20) X9 dX2_change_20 rfl rfl ?_
  obtain ⟨g_3, h⟩ := h
  refine b_iald (pc := 21) X9 (ar2_4 hnn) (Nat.le_of_ble_eq_true rfl) g_3 dX2_change_21 ?_
  refine a_iload_n (pc := 22) X9 dX2_change_22 rfl rfl ?_
  refine a_iadd (pc := 23) X9 dX2_change_23 ?_
  obtain ⟨g_4, h⟩ := h
  refine b_iast (pc := 24) X9 (i := i1) (v := ((G_1 213 (i1).toNat) + i3)) (ar2_4 hnn) (Nat.le_of_ble_eq_true rfl) g_3 g_4 dX2_change_24 ?_
  obtain ⟨G_2, eG_2⟩ : ∃ G9, G9 = upG G_1 213 (i1).toNat ((G_1 213 (i1).toNat) + i3) := ⟨_, rfl⟩
  have hG_2 : GR G_2 := by rw [eG_2]; exact (GR.up hG_1 g_4)
  have h := h G_2 eG_2
  rw [← eG_2]
  exact a_return (pc := 25) X9 E (Nat.le_of_ble_eq_true rfl) (Nat.le_of_ble_eq_true rfl) dX2_change_25 ⟨rfl, rfl, h⟩
set_option maxHeartbeats 4000000 in
set_option maxRecDepth 100000 in
theorem m_X2_passOn {nn : Nat} {i1 : Int} {i2 : Int} {i3 : Int} {G : GH} {Q : GH → Prop} (hi1 : inR i1) (hi2 : inR i2) (hi3 : inR i3) (hnn : 272 ≤ nn) (h : f_X2_passOn i1 i2 i3 G Q) : Mt yX2_passOn cX2_passOn 7 none 1 23 0 0 [vr 209, vi i1, vi i2, vi i3] (SF nn) G (fun v S' G' => S' = SF nn ∧ qV Q v S' G') (fun E S' G' => S' = SF nn ∧ False) := by
  refine Mt.of (l0 := [some (vr 209), some (vi i1), some (vi i2), some (vi i3), none, none, none]) (by decide) (Nat.le_of_ble_eq_true rfl) rfl ?_
  intro κ δ ρ0 X9 E hG
  replace X9 : CX κ δ RX2 cX2_passOn 7 none := X9
  refine a_aload_n (pc := 0) X9 dX2_passOn_0 rfl rfl ?_
  refine a_iload_n (pc := 1) X9 dX2_passOn_1 rfl rfl ?_
  refine a_iload_n (pc := 2) X9 dX2_passOn_2 rfl rfl ?_
  refine a_iconst (pc := 3) X9 dX2_passOn_3 ?_
  refine a_callV (pc := 4) X9 E (m_X2_change hi3 hi2 (show inR 1 by decide) hnn h) okX2 (is2 hnn) wM_X2_58 w_instanceMethod_X2_change w_selects_X2_change w_initialized_RX2 w_code_X2_change cp_X2_change pn_X2_change rfl (Nat.le_of_ble_eq_true rfl) ⟨Nat.le_of_ble_eq_true rfl, Nat.le_of_ble_eq_true rfl⟩ ⟨Nat.le_of_ble_eq_true rfl, Nat.le_of_ble_eq_true rfl⟩ dX2_passOn_4 (fun _ _ q => False.elim q) (kV (fun G_1 h hG_1 => ?_))
  refine a_iload_n (pc := 7) X9 dX2_passOn_7 rfl rfl ?_
  refine a_istore (pc := 8) X9 dX2_passOn_8 (Nat.le_of_ble_eq_true rfl) rfl rfl ?_
  refine a_iconst (pc := 10) X9 dX2_passOn_10 ?_
  refine a_istore (pc := 11) X9 dX2_passOn_11 (Nat.le_of_ble_eq_true rfl) rfl rfl ?_
  refine loopM3 (A := fun x4_1 x5_1 G_2 => inR x4_1 → inR x5_1 → GR G_2 → AW κ δ ρ0 (szF nn) 7 0 0 13 [some (vr 209), some (vi i1), some (vi i2), some (vi i3), some (vi x4_1), some (vi x5_1), none] [] (SF nn) G_2) (fun k_1 hk_1 x4_1 x5_1 G_2 h h_x4_1 h_x5_1 hG_2 => ?_) _ _ _ h hi2 (by decide) hG_1
  refine a_iload (pc := 13) X9 dX2_passOn_13 rfl ?_
  refine a_bipush (pc := 15) X9 dX2_passOn_15 rfl ?_
  refine a_icmp_ge (pc := 17) (tgt := 73) X9 dX2_passOn_17 rfl h_x5_1 (by decide) (fun c => ?_) (fun c => ?_)
  · have c_1 := c
    have h := h.1 c_1
    exact a_return (pc := 73) X9 E (Nat.le_of_ble_eq_true rfl) (Nat.le_of_ble_eq_true rfl) dX2_passOn_73 ⟨rfl, rfl, h⟩
  · have c_1 := c
    have h := h.2 c_1
    refine a_iload (pc := 20) X9 dX2_passOn_20 rfl ?_
    refine a_iload_n (pc := 22) X9 dX2_passOn_22 rfl rfl ?_
    refine a_icmp_eq (pc := 23) (tgt := 73) X9 dX2_passOn_23 rfl h_x4_1 hi1 (fun c => ?_) (fun c => ?_)
    · have c_2 := c
      have h := h.1 c_2
      exact a_return (pc := 73) X9 E (Nat.le_of_ble_eq_true rfl) (Nat.le_of_ble_eq_true rfl) dX2_passOn_73 ⟨rfl, rfl, h⟩
    · have c_2 := c
      have h := h.2 c_2
      refine a_aload_n (pc := 26) X9 dX2_passOn_26 rfl rfl ?_
      refine a_getR (pc := 27) X9 (q := 216) okX2 7 rfl wF_X2_30 (is2 hnn) rf2_7 dX2_passOn_27 ?_
      refine a_iload (pc := 30) X9 dX2_passOn_30 rfl ?_
      obtain ⟨g_1, h⟩ := h
      refine b_iald (pc := 32) X9 (ar2_7 hnn) (Nat.le_of_ble_eq_true rfl) g_1 dX2_passOn_32 ?_
      refine a_istore (pc := 33) X9 dX2_passOn_33 (Nat.le_of_ble_eq_true rfl) rfl rfl ?_
      refine a_aload_n (pc := 35) X9 dX2_passOn_35 rfl rfl ?_
      refine a_aload_n (pc := 36) X9 dX2_passOn_36 rfl rfl ?_
      refine a_getR (pc := 37) X9 (q := 217) okX2 8 rfl wF_X2_33 (is2 hnn) rf2_8 dX2_passOn_37 ?_
      refine a_iload (pc := 40) X9 dX2_passOn_40 rfl ?_
      refine b_iald (pc := 42) X9 (ar2_8 hnn) (Nat.le_of_ble_eq_true rfl) g_1 dX2_passOn_42 ?_
      refine a_iload (pc := 43) X9 dX2_passOn_43 rfl ?_
      refine a_iconst (pc := 45) X9 dX2_passOn_45 ?_
      refine a_callV (pc := 46) X9 E (m_X2_change (hG_2 _ _) h_x4_1 (show inR (-1) by decide) hnn h) okX2 (is2 hnn) wM_X2_58 w_instanceMethod_X2_change w_selects_X2_change w_initialized_RX2 w_code_X2_change cp_X2_change pn_X2_change rfl (Nat.le_of_ble_eq_true rfl) ⟨Nat.le_of_ble_eq_true rfl, Nat.le_of_ble_eq_true rfl⟩ ⟨Nat.le_of_ble_eq_true rfl, Nat.le_of_ble_eq_true rfl⟩ dX2_passOn_46 (fun _ _ q => False.elim q) (kV (fun G_3 h hG_3 => ?_))
      refine a_aload_n (pc := 49) X9 dX2_passOn_49 rfl rfl ?_
      refine a_aload_n (pc := 50) X9 dX2_passOn_50 rfl rfl ?_
      refine a_getR (pc := 51) X9 (q := 217) okX2 8 rfl wF_X2_33 (is2 hnn) rf2_8 dX2_passOn_51 ?_
      refine a_iload (pc := 54) X9 dX2_passOn_54 rfl ?_
      refine b_iald (pc := 56) X9 (ar2_8 hnn) (Nat.le_of_ble_eq_true rfl) g_1 dX2_passOn_56 ?_
      refine a_iload (pc := 57) X9 dX2_passOn_57 rfl ?_
      refine a_iconst (pc := 59) X9 dX2_passOn_59 ?_
      refine a_callV (pc := 60) X9 E (m_X2_change (hG_3 _ _) (hG_2 _ _) (show inR 1 by decide) hnn h) okX2 (is2 hnn) wM_X2_58 w_instanceMethod_X2_change w_selects_X2_change w_initialized_RX2 w_code_X2_change cp_X2_change pn_X2_change rfl (Nat.le_of_ble_eq_true rfl) ⟨Nat.le_of_ble_eq_true rfl, Nat.le_of_ble_eq_true rfl⟩ ⟨Nat.le_of_ble_eq_true rfl, Nat.le_of_ble_eq_true rfl⟩ dX2_passOn_60 (fun _ _ q => False.elim q) (kV (fun G_4 h hG_4 => ?_))
      refine a_iload (pc := 63) X9 dX2_passOn_63 rfl ?_
      refine a_istore (pc := 65) X9 dX2_passOn_65 (Nat.le_of_ble_eq_true rfl) rfl rfl ?_
      refine a_iinc (pc := 67) X9 dX2_passOn_67 rfl (Nat.le_of_ble_eq_true rfl) rfl rfl ?_
      refine a_goto (pc := 70) (tgt := 13) X9 dX2_passOn_70 rfl ?_
      have q_1 : inR (x5_1) := h_x5_1
      have g_2 : inR ((x5_1 + 1)) := ⟨by omega, by omega⟩
      refine AW.drop 6 rfl ?_
      exact hk_1 _ _ _ h (hG_2 _ _) g_2 hG_4
set_option maxHeartbeats 4000000 in
set_option maxRecDepth 100000 in
theorem m_X2_addDigit {nn : Nat} {i1 : Int} {G : GH} {Q : Int → GH → Prop} (hi1 : inR i1) (hnn : 272 ≤ nn) (h : f_X2_addDigit i1 G Q) : Mt yX2_addDigit cX2_addDigit 8 (some .boolean) 2 49 0 0 [vr 209, vi i1] (SF nn) G (fun v S' G' => S' = SF nn ∧ qZ Q v S' G') (fun E S' G' => S' = SF nn ∧ False) := by
  refine Mt.of (l0 := [some (vr 209), some (vi i1), none, none, none, none, none, none]) (by decide) (Nat.le_of_ble_eq_true rfl) rfl ?_
  intro κ δ ρ0 X9 E hG
  replace X9 : CX κ δ RX2 cX2_addDigit 8 (some .boolean) := X9
  refine a_iconst (pc := 0) X9 dX2_addDigit_0 ?_
  refine a_iload_n (pc := 1) X9 dX2_addDigit_1 rfl rfl ?_
  refine b_ishl (pc := 2) X9 dX2_addDigit_2 ?_
  refine a_istore_n (pc := 3) X9 dX2_addDigit_3 rfl (Nat.le_of_ble_eq_true rfl) rfl rfl ?_
  refine a_aload_n (pc := 4) X9 dX2_addDigit_4 rfl rfl ?_
  refine a_getR (pc := 5) X9 (q := 215) okX2 6 rfl wF_X2_27 (is2 hnn) rf2_6 dX2_addDigit_5 ?_
  refine a_iconst (pc := 8) X9 dX2_addDigit_8 ?_
  refine a_iload_n (pc := 9) X9 dX2_addDigit_9 rfl rfl ?_
  refine a_iast (pc := 10) X9 (v := i1) (ar2_6 hnn) (Nat.le_of_ble_eq_true rfl) (j := 0) rfl (Nat.le_of_ble_eq_true rfl) hi1 dX2_addDigit_10 (fun _ => ?_)
  obtain ⟨G_1, eG_1⟩ : ∃ G9, G9 = upG G 215 0 i1 := ⟨_, rfl⟩
  have hG_1 : GR G_1 := by rw [eG_1]; exact (GR.up hG hi1)
  have h := h G_1 eG_1
  rw [← eG_1]
  refine a_iconst (pc := 11) X9 dX2_addDigit_11 ?_
  refine a_istore_n (pc := 12) X9 dX2_addDigit_12 rfl (Nat.le_of_ble_eq_true rfl) rfl rfl ?_
  refine a_iconst (pc := 13) X9 dX2_addDigit_13 ?_
  refine a_istore (pc := 14) X9 dX2_addDigit_14 (Nat.le_of_ble_eq_true rfl) rfl rfl ?_
  refine loopM4 (A := fun x2_1 x3_1 x4_1 G_2 => inR x2_1 → inR x3_1 → inR x4_1 → GR G_2 → AW κ δ ρ0 (szF nn) 8 0 0 16 [some (vr 209), some (vi i1), some (vi x2_1), some (vi x3_1), some (vi x4_1), none, none, none] [] (SF nn) G_2) (fun k_1 hk_1 x2_1 x3_1 x4_1 G_2 h h_x2_1 h_x3_1 h_x4_1 hG_2 => ?_) _ _ _ _ h inR_zShl (by decide) (by decide) hG_1
  refine a_iload (pc := 16) X9 dX2_addDigit_16 rfl ?_
  refine a_iload_n (pc := 18) X9 dX2_addDigit_18 rfl rfl ?_
  refine a_icmp_ge (pc := 19) (tgt := 185) X9 dX2_addDigit_19 rfl h_x4_1 h_x3_1 (fun c => ?_) (fun c => ?_)
  · have c_1 := c
    have h := h.1 c_1
    refine a_iconst (pc := 185) X9 dX2_addDigit_185 ?_
    exact a_ireturn (pc := 186) X9 E rfl (fit_bool (Or.inl rfl)).1 (Nat.le_of_ble_eq_true rfl) (Nat.le_of_ble_eq_true rfl) dX2_addDigit_186 ⟨rfl, _, rfl, (Or.inl rfl), h⟩
  · have c_1 := c
    have h := h.2 c_1
    refine a_iload (pc := 22) X9 dX2_addDigit_22 rfl ?_
    refine a_bipush (pc := 24) X9 dX2_addDigit_24 rfl ?_
    refine a_icmp_ge (pc := 26) (tgt := 185) X9 dX2_addDigit_26 rfl h_x4_1 (by decide) (fun c => ?_) (fun c => ?_)
    · have c_2 := c
      have h := h.1 c_2
      refine a_iconst (pc := 185) X9 dX2_addDigit_185 ?_
      exact a_ireturn (pc := 186) X9 E rfl (fit_bool (Or.inl rfl)).1 (Nat.le_of_ble_eq_true rfl) (Nat.le_of_ble_eq_true rfl) dX2_addDigit_186 ⟨rfl, _, rfl, (Or.inl rfl), h⟩
    · have c_2 := c
      have h := h.2 c_2
      refine a_aload_n (pc := 29) X9 dX2_addDigit_29 rfl rfl ?_
      refine a_getR (pc := 30) X9 (q := 215) okX2 6 rfl wF_X2_27 (is2 hnn) rf2_6 dX2_addDigit_30 ?_
      refine a_iload (pc := 33) X9 dX2_addDigit_33 rfl ?_
      obtain ⟨g_1, h⟩ := h
      refine b_iald (pc := 35) X9 (ar2_6 hnn) (Nat.le_of_ble_eq_true rfl) g_1 dX2_addDigit_35 ?_
      refine a_istore (pc := 36) X9 dX2_addDigit_36 (Nat.le_of_ble_eq_true rfl) rfl rfl ?_
      refine a_iconst (pc := 38) X9 dX2_addDigit_38 ?_
      refine a_istore (pc := 39) X9 dX2_addDigit_39 (Nat.le_of_ble_eq_true rfl) rfl rfl ?_
      refine loopM4 (A := fun x2_2 x3_2 x6_1 G_3 => inR x2_2 → inR x3_2 → inR x6_1 → GR G_3 → AW κ δ ρ0 (szF nn) 8 0 0 41 [some (vr 209), some (vi i1), some (vi x2_2), some (vi x3_2), some (vi x4_1), some (vi (G_2 215 (x4_1).toNat)), some (vi x6_1), none] [] (SF nn) G_3) (fun k_2 hk_2 x2_2 x3_2 x6_1 G_3 h h_x2_2 h_x3_2 h_x6_1 hG_3 => ?_) _ _ _ _ h h_x2_1 h_x3_1 (by decide) hG_2
      refine a_iload (pc := 41) X9 dX2_addDigit_41 rfl ?_
      refine a_aload_n (pc := 43) X9 dX2_addDigit_43 rfl rfl ?_
      refine a_getI (pc := 44) X9 okX2 0 rfl wF_X2_36 (is2 hnn) dX2_addDigit_44 ?_
      refine a_icmp_ge (pc := 47) (tgt := 179) X9 dX2_addDigit_47 rfl h_x6_1 (hG_3 _ _) (fun c => ?_) (fun c => ?_)
      · have c_3 := c
        have h := h.1 c_3
        refine a_iinc (pc := 179) X9 dX2_addDigit_179 rfl (Nat.le_of_ble_eq_true rfl) rfl rfl ?_
        refine a_goto (pc := 182) (tgt := 16) X9 dX2_addDigit_182 rfl ?_
        have q_1 : inR (x3_1) := h_x3_1
        have q_2 : inR (x4_1) := h_x4_1
        have g_2 : inR ((x4_1 + 1)) := ⟨by omega, by omega⟩
        refine AW.drop 5 rfl ?_
        refine AW.drop 6 rfl ?_
        exact hk_1 _ _ _ _ h h_x2_2 h_x3_2 g_2 hG_3
      · have c_3 := c
        have h := h.2 c_3
        refine a_aload_n (pc := 50) X9 dX2_addDigit_50 rfl rfl ?_
        refine a_getR (pc := 51) X9 (q := 211) okX2 2 rfl wF_X2_15 (is2 hnn) rf2_2 dX2_addDigit_51 ?_
        refine a_iload (pc := 54) X9 dX2_addDigit_54 rfl ?_
        obtain ⟨g_3, h⟩ := h
        refine b_iald (pc := 56) X9 (ar2_2 hnn) (Nat.le_of_ble_eq_true rfl) g_3 dX2_addDigit_56 ?_
        refine a_iload (pc := 57) X9 dX2_addDigit_57 rfl ?_
        refine b_ishr (pc := 59) X9 dX2_addDigit_59 ?_
        refine a_iconst (pc := 60) X9 dX2_addDigit_60 ?_
        refine b_iand (pc := 61) X9 dX2_addDigit_61 ?_
        refine a_if_ne (pc := 62) (tgt := 68) X9 dX2_addDigit_62 rfl inR_zAnd (fun c => ?_) (fun c => ?_)
        · have c_4 := c
          have h := h.1 c_4
          refine a_aload_n (pc := 68) X9 dX2_addDigit_68 rfl rfl ?_
          refine a_getR (pc := 69) X9 (q := 213) okX2 4 rfl wF_X2_21 (is2 hnn) rf2_4 dX2_addDigit_69 ?_
          refine a_iload (pc := 72) X9 dX2_addDigit_72 rfl ?_
          refine b_iald (pc := 74) X9 (ar2_4 hnn) (Nat.le_of_ble_eq_true rfl) g_3 dX2_addDigit_74 ?_
          refine a_aload_n (pc := 75) X9 dX2_addDigit_75 rfl rfl ?_
          refine a_getR (pc := 76) X9 (q := 212) okX2 3 rfl wF_X2_18 (is2 hnn) rf2_3 dX2_addDigit_76 ?_
          refine a_iload (pc := 79) X9 dX2_addDigit_79 rfl ?_
          refine b_iald (pc := 81) X9 (ar2_3 hnn) (Nat.le_of_ble_eq_true rfl) g_3 dX2_addDigit_81 ?_
          refine a_icmp_ge (pc := 82) (tgt := 96) X9 dX2_addDigit_82 rfl (hG_3 _ _) (hG_3 _ _) (fun c => ?_) (fun c => ?_)
          · have c_5 := c
            have h := h.1 c_5
            refine a_iconst (pc := 96) X9 dX2_addDigit_96 ?_
            refine a_istore (pc := 97) X9 dX2_addDigit_97 (Nat.le_of_ble_eq_true rfl) rfl rfl ?_
            refine loopM4 (A := fun x2_3 x3_3 x7_1 G_4 => inR x2_3 → inR x3_3 → inR x7_1 → GR G_4 → AW κ δ ρ0 (szF nn) 8 0 0 99 [some (vr 209), some (vi i1), some (vi x2_3), some (vi x3_3), some (vi x4_1), some (vi (G_2 215 (x4_1).toNat)), some (vi x6_1), some (vi x7_1)] [] (SF nn) G_4) (fun k_3 hk_3 x2_3 x3_3 x7_1 G_4 h h_x2_3 h_x3_3 h_x7_1 hG_4 => ?_) _ _ _ _ h h_x2_2 h_x3_2 (by decide) hG_3
            refine a_iload (pc := 99) X9 dX2_addDigit_99 rfl ?_
            refine a_bipush (pc := 101) X9 dX2_addDigit_101 rfl ?_
            refine a_icmp_ge (pc := 103) (tgt := 173) X9 dX2_addDigit_103 rfl h_x7_1 (by decide) (fun c => ?_) (fun c => ?_)
            · have c_6 := c
              have h := h.1 c_6
              refine a_iinc (pc := 173) X9 dX2_addDigit_173 rfl (Nat.le_of_ble_eq_true rfl) rfl rfl ?_
              refine a_goto (pc := 176) (tgt := 41) X9 dX2_addDigit_176 rfl ?_
              have q_3 : inR ((G_3 209 0)) := (hG_3 _ _)
              have q_4 : inR (x6_1) := h_x6_1
              have g_4 : inR ((x6_1 + 1)) := ⟨by omega, by omega⟩
              refine AW.drop 7 rfl ?_
              exact hk_2 _ _ _ _ h h_x2_3 h_x3_3 g_4 hG_4
            · have c_6 := c
              have h := h.2 c_6
              refine a_iload_n (pc := 106) X9 dX2_addDigit_106 rfl rfl ?_
              refine a_iload (pc := 107) X9 dX2_addDigit_107 rfl ?_
              refine b_ishr (pc := 109) X9 dX2_addDigit_109 ?_
              refine a_iconst (pc := 110) X9 dX2_addDigit_110 ?_
              refine b_iand (pc := 111) X9 dX2_addDigit_111 ?_
              refine a_if_ne (pc := 112) (tgt := 167) X9 dX2_addDigit_112 rfl inR_zAnd (fun c => ?_) (fun c => ?_)
              · have c_7 := c
                have h := h.1 c_7
                refine a_iinc (pc := 167) X9 dX2_addDigit_167 rfl (Nat.le_of_ble_eq_true rfl) rfl rfl ?_
                refine a_goto (pc := 170) (tgt := 99) X9 dX2_addDigit_170 rfl ?_
                have q_5 : inR (x7_1) := h_x7_1
                have g_5 : inR ((x7_1 + 1)) := ⟨by omega, by omega⟩
                exact hk_3 _ _ _ _ h h_x2_3 h_x3_3 g_5 hG_4
              · have c_7 := c
                have h := h.2 c_7
                refine a_aload_n (pc := 115) X9 dX2_addDigit_115 rfl rfl ?_
                refine a_getR (pc := 116) X9 (q := 214) okX2 5 rfl wF_X2_24 (is2 hnn) rf2_5 dX2_addDigit_116 ?_
                refine a_iload (pc := 119) X9 dX2_addDigit_119 rfl ?_
                refine a_bipush (pc := 121) X9 dX2_addDigit_121 rfl ?_
                refine a_imul (pc := 123) X9 dX2_addDigit_123 ?_
                refine a_iload (pc := 124) X9 dX2_addDigit_124 rfl ?_
                refine a_iadd (pc := 126) X9 dX2_addDigit_126 ?_
                obtain ⟨g_6, h⟩ := h
                refine b_iald (pc := 127) X9 (ar2_5 hnn) (Nat.le_of_ble_eq_true rfl) g_6 dX2_addDigit_127 ?_
                refine a_if_le (pc := 128) (tgt := 167) X9 dX2_addDigit_128 rfl (hG_4 _ _) (fun c => ?_) (fun c => ?_)
                · have c_8 := c
                  have h := h.1 c_8
                  refine a_iinc (pc := 167) X9 dX2_addDigit_167 rfl (Nat.le_of_ble_eq_true rfl) rfl rfl ?_
                  refine a_goto (pc := 170) (tgt := 99) X9 dX2_addDigit_170 rfl ?_
                  have q_6 : inR (x7_1) := h_x7_1
                  have g_7 : inR ((x7_1 + 1)) := ⟨by omega, by omega⟩
                  exact hk_3 _ _ _ _ h h_x2_3 h_x3_3 g_7 hG_4
                · have c_8 := c
                  have h := h.2 c_8
                  refine a_iload_n (pc := 131) X9 dX2_addDigit_131 rfl rfl ?_
                  refine a_iconst (pc := 132) X9 dX2_addDigit_132 ?_
                  refine a_iload (pc := 133) X9 dX2_addDigit_133 rfl ?_
                  refine b_ishl (pc := 135) X9 dX2_addDigit_135 ?_
                  refine b_ior (pc := 136) X9 dX2_addDigit_136 ?_
                  refine a_istore_n (pc := 137) X9 dX2_addDigit_137 rfl (Nat.le_of_ble_eq_true rfl) rfl rfl ?_
                  refine a_aload_n (pc := 138) X9 dX2_addDigit_138 rfl rfl ?_
                  refine a_getR (pc := 139) X9 (q := 216) okX2 7 rfl wF_X2_30 (is2 hnn) rf2_7 dX2_addDigit_139 ?_
                  refine a_iload (pc := 142) X9 dX2_addDigit_142 rfl ?_
                  refine a_iload (pc := 144) X9 dX2_addDigit_144 rfl ?_
                  obtain ⟨g_8, h⟩ := h
                  refine b_iast (pc := 146) X9 (i := x7_1) (v := (G_2 215 (x4_1).toNat)) (ar2_7 hnn) (Nat.le_of_ble_eq_true rfl) g_8 (hG_2 _ _) dX2_addDigit_146 ?_
                  obtain ⟨G_5, eG_5⟩ : ∃ G9, G9 = upG G_4 216 (x7_1).toNat (G_2 215 (x4_1).toNat) := ⟨_, rfl⟩
                  have hG_5 : GR G_5 := by rw [eG_5]; exact (GR.up hG_4 (hG_2 _ _))
                  have h := h G_5 eG_5
                  rw [← eG_5]
                  refine a_aload_n (pc := 147) X9 dX2_addDigit_147 rfl rfl ?_
                  refine a_getR (pc := 148) X9 (q := 217) okX2 8 rfl wF_X2_33 (is2 hnn) rf2_8 dX2_addDigit_148 ?_
                  refine a_iload (pc := 151) X9 dX2_addDigit_151 rfl ?_
                  refine a_iload (pc := 153) X9 dX2_addDigit_153 rfl ?_
                  refine b_iast (pc := 155) X9 (i := x7_1) (v := x6_1) (ar2_8 hnn) (Nat.le_of_ble_eq_true rfl) g_8 h_x6_1 dX2_addDigit_155 ?_
                  obtain ⟨G_6, eG_6⟩ : ∃ G9, G9 = upG G_5 217 (x7_1).toNat x6_1 := ⟨_, rfl⟩
                  have hG_6 : GR G_6 := by rw [eG_6]; exact (GR.up hG_5 h_x6_1)
                  have h := h G_6 eG_6
                  rw [← eG_6]
                  refine a_aload_n (pc := 156) X9 dX2_addDigit_156 rfl rfl ?_
                  refine a_getR (pc := 157) X9 (q := 215) okX2 6 rfl wF_X2_27 (is2 hnn) rf2_6 dX2_addDigit_157 ?_
                  refine a_iload_n (pc := 160) X9 dX2_addDigit_160 rfl rfl ?_
                  refine a_iload (pc := 161) X9 dX2_addDigit_161 rfl ?_
                  obtain ⟨g_9, h⟩ := h
                  refine b_iast (pc := 163) X9 (i := x3_3) (v := x7_1) (ar2_6 hnn) (Nat.le_of_ble_eq_true rfl) g_9 h_x7_1 dX2_addDigit_163 ?_
                  obtain ⟨G_7, eG_7⟩ : ∃ G9, G9 = upG G_6 215 (x3_3).toNat x7_1 := ⟨_, rfl⟩
                  have hG_7 : GR G_7 := by rw [eG_7]; exact (GR.up hG_6 h_x7_1)
                  have h := h G_7 eG_7
                  rw [← eG_7]
                  refine a_iinc (pc := 164) X9 dX2_addDigit_164 rfl (Nat.le_of_ble_eq_true rfl) rfl rfl ?_
                  refine a_iinc (pc := 167) X9 dX2_addDigit_167 rfl (Nat.le_of_ble_eq_true rfl) rfl rfl ?_
                  refine a_goto (pc := 170) (tgt := 99) X9 dX2_addDigit_170 rfl ?_
                  obtain ⟨g_10, h⟩ := h
                  have q_7 : inR (x7_1) := h_x7_1
                  have g_11 : inR ((x7_1 + 1)) := ⟨by omega, by omega⟩
                  exact hk_3 _ _ _ _ h inR_zOr g_10 g_11 hG_7
          · have c_5 := c
            have h := h.2 c_5
            refine a_aload_n (pc := 85) X9 dX2_addDigit_85 rfl rfl ?_
            refine a_iload_n (pc := 86) X9 dX2_addDigit_86 rfl rfl ?_
            refine a_iload (pc := 87) X9 dX2_addDigit_87 rfl ?_
            refine a_iload (pc := 89) X9 dX2_addDigit_89 rfl ?_
            refine a_callV (pc := 91) X9 E (m_X2_passOn hi1 (hG_2 _ _) h_x6_1 hnn h) okX2 (is2 hnn) wM_X2_62 w_instanceMethod_X2_passOn w_selects_X2_passOn w_initialized_RX2 w_code_X2_passOn cp_X2_passOn pn_X2_passOn rfl (Nat.le_of_ble_eq_true rfl) ⟨Nat.le_of_ble_eq_true rfl, Nat.le_of_ble_eq_true rfl⟩ ⟨Nat.le_of_ble_eq_true rfl, Nat.le_of_ble_eq_true rfl⟩ dX2_addDigit_91 (fun _ _ q => False.elim q) (kV (fun G_8 h hG_8 => ?_))
            refine a_iconst (pc := 94) X9 dX2_addDigit_94 ?_
            exact a_ireturn (pc := 95) X9 E rfl (fit_bool (Or.inr rfl)).1 (Nat.le_of_ble_eq_true rfl) (Nat.le_of_ble_eq_true rfl) dX2_addDigit_95 ⟨rfl, _, rfl, (Or.inr rfl), h⟩
        · have c_4 := c
          have h := h.2 c_4
          refine a_goto (pc := 65) (tgt := 173) X9 dX2_addDigit_65 rfl ?_
          refine a_iinc (pc := 173) X9 dX2_addDigit_173 rfl (Nat.le_of_ble_eq_true rfl) rfl rfl ?_
          refine a_goto (pc := 176) (tgt := 41) X9 dX2_addDigit_176 rfl ?_
          have q_8 : inR ((G_3 209 0)) := (hG_3 _ _)
          have q_9 : inR (x6_1) := h_x6_1
          have g_12 : inR ((x6_1 + 1)) := ⟨by omega, by omega⟩
          exact hk_2 _ _ _ _ h h_x2_2 h_x3_2 g_12 hG_3
set_option maxHeartbeats 4000000 in
set_option maxRecDepth 100000 in
theorem m_X2_offerThatShows {nn : Nat} {i1 : Int} {G : GH} {Q : Int → Prop} (hi1 : inR i1) (hnn : 272 ≤ nn) (h : f_X2_offerThatShows i1 G Q) : Mt yX2_offerThatShows cX2_offerThatShows 3 (some .int) 0 0 0 0 [vr 209, vi i1] (SF nn) G (fun v S' G' => S' = SF nn ∧ qI (fun r9 G9 => G9 = G ∧ Q r9) v S' G') (fun E S' G' => S' = SF nn ∧ False) := by
  refine Mt.of (l0 := [some (vr 209), some (vi i1), none]) (by decide) (Nat.le_of_ble_eq_true rfl) rfl ?_
  intro κ δ ρ0 X9 E hG
  replace X9 : CX κ δ RX2 cX2_offerThatShows 3 (some .int) := X9
  refine a_iconst (pc := 0) X9 dX2_offerThatShows_0 ?_
  refine a_istore_n (pc := 1) X9 dX2_offerThatShows_1 rfl (Nat.le_of_ble_eq_true rfl) rfl rfl ?_
  refine loopM1 (A := fun x2_1 => inR x2_1 → AW κ δ ρ0 (szF nn) 3 0 0 2 [some (vr 209), some (vi i1), some (vi x2_1)] [] (SF nn) G) (fun k_1 hk_1 x2_1 h h_x2_1 => ?_) _ h (by decide)
  refine a_iload_n (pc := 2) X9 dX2_offerThatShows_2 rfl rfl ?_
  refine a_aload_n (pc := 3) X9 dX2_offerThatShows_3 rfl rfl ?_
  refine a_getI (pc := 4) X9 okX2 0 rfl wF_X2_36 (is2 hnn) dX2_offerThatShows_4 ?_
  refine a_icmp_ge (pc := 7) (tgt := 32) X9 dX2_offerThatShows_7 rfl h_x2_1 (hG _ _) (fun c => ?_) (fun c => ?_)
  · have c_1 := c
    have h := h.1 c_1
    refine a_iconst (pc := 32) X9 dX2_offerThatShows_32 ?_
    exact a_ireturn (pc := 33) X9 E rfl rfl (Nat.le_of_ble_eq_true rfl) (Nat.le_of_ble_eq_true rfl) dX2_offerThatShows_33 ⟨rfl, _, rfl, (show inR (-1) by decide), rfl, h⟩
  · have c_1 := c
    have h := h.2 c_1
    refine a_aload_n (pc := 10) X9 dX2_offerThatShows_10 rfl rfl ?_
    refine a_getR (pc := 11) X9 (q := 214) okX2 5 rfl wF_X2_24 (is2 hnn) rf2_5 dX2_offerThatShows_11 ?_
    refine a_iload_n (pc := 14) X9 dX2_offerThatShows_14 rfl rfl ?_
    refine a_bipush (pc := 15) X9 dX2_offerThatShows_15 rfl ?_
    refine a_imul (pc := 17) X9 dX2_offerThatShows_17 ?_
    refine a_iload_n (pc := 18) X9 dX2_offerThatShows_18 rfl rfl ?_
    refine a_iadd (pc := 19) X9 dX2_offerThatShows_19 ?_
    obtain ⟨g_1, h⟩ := h
    refine b_iald (pc := 20) X9 (ar2_5 hnn) (Nat.le_of_ble_eq_true rfl) g_1 dX2_offerThatShows_20 ?_
    refine a_if_le (pc := 21) (tgt := 26) X9 dX2_offerThatShows_21 rfl (hG _ _) (fun c => ?_) (fun c => ?_)
    · have c_2 := c
      have h := h.1 c_2
      refine a_iinc (pc := 26) X9 dX2_offerThatShows_26 rfl (Nat.le_of_ble_eq_true rfl) rfl rfl ?_
      refine a_goto (pc := 29) (tgt := 2) X9 dX2_offerThatShows_29 rfl ?_
      have q_1 : inR ((G 209 0)) := (hG _ _)
      have q_2 : inR (x2_1) := h_x2_1
      have g_2 : inR ((x2_1 + 1)) := ⟨by omega, by omega⟩
      exact hk_1 _ h g_2
    · have c_2 := c
      have h := h.2 c_2
      refine a_iload_n (pc := 24) X9 dX2_offerThatShows_24 rfl rfl ?_
      exact a_ireturn (pc := 25) X9 E rfl rfl (Nat.le_of_ble_eq_true rfl) (Nat.le_of_ble_eq_true rfl) dX2_offerThatShows_25 ⟨rfl, _, rfl, h_x2_1, rfl, h⟩
set_option maxHeartbeats 4000000 in
set_option maxRecDepth 100000 in
theorem m_X2_dropDigitsOf {nn : Nat} {i1 : Int} {i2 : Int} {G : GH} {Q : GH → Prop} (hi1 : inR i1) (hi2 : inR i2) (hnn : 272 ≤ nn) (h : f_X2_dropDigitsOf i1 i2 G Q) : Mt yX2_dropDigitsOf cX2_dropDigitsOf 5 none 1 23 0 0 [vr 209, vi i1, vi i2] (SF nn) G (fun v S' G' => S' = SF nn ∧ qV Q v S' G') (fun E S' G' => S' = SF nn ∧ False) := by
  refine Mt.of (l0 := [some (vr 209), some (vi i1), some (vi i2), none, none]) (by decide) (Nat.le_of_ble_eq_true rfl) rfl ?_
  intro κ δ ρ0 X9 E hG
  replace X9 : CX κ δ RX2 cX2_dropDigitsOf 5 none := X9
  refine a_iload_n (pc := 0) X9 dX2_dropDigitsOf_0 rfl rfl ?_
  refine a_istore_n (pc := 1) X9 dX2_dropDigitsOf_1 rfl (Nat.le_of_ble_eq_true rfl) rfl rfl ?_
  refine loopM2 (A := fun x3_1 G_1 => inR x3_1 → GR G_1 → AW κ δ ρ0 (szF nn) 5 0 0 2 [some (vr 209), some (vi i1), some (vi i2), some (vi x3_1), none] [] (SF nn) G_1) (fun k_1 hk_1 x3_1 G_1 h h_x3_1 hG_1 => ?_) _ _ h hi1 hG
  refine a_iload_n (pc := 2) X9 dX2_dropDigitsOf_2 rfl rfl ?_
  refine a_if_le (pc := 3) (tgt := 46) X9 dX2_dropDigitsOf_3 rfl h_x3_1 (fun c => ?_) (fun c => ?_)
  · have c_1 := c
    have h := h.1 c_1
    exact a_return (pc := 46) X9 E (Nat.le_of_ble_eq_true rfl) (Nat.le_of_ble_eq_true rfl) dX2_dropDigitsOf_46 ⟨rfl, rfl, h⟩
  · have c_1 := c
    have h := h.2 c_1
    refine a_iload_n (pc := 6) X9 dX2_dropDigitsOf_6 rfl rfl ?_
    refine a_iload_n (pc := 7) X9 dX2_dropDigitsOf_7 rfl rfl ?_
    refine a_icmp_le (pc := 8) (tgt := 46) X9 dX2_dropDigitsOf_8 rfl h_x3_1 hi2 (fun c => ?_) (fun c => ?_)
    · have c_2 := c
      have h := h.1 c_2
      exact a_return (pc := 46) X9 E (Nat.le_of_ble_eq_true rfl) (Nat.le_of_ble_eq_true rfl) dX2_dropDigitsOf_46 ⟨rfl, rfl, h⟩
    · have c_2 := c
      have h := h.2 c_2
      refine a_aload_n (pc := 11) X9 dX2_dropDigitsOf_11 rfl rfl ?_
      refine a_iload_n (pc := 12) X9 dX2_dropDigitsOf_12 rfl rfl ?_
      refine a_bipush (pc := 13) X9 dX2_dropDigitsOf_13 rfl ?_
      obtain ⟨g_1, h⟩ := h
      refine a_irem (pc := 15) X9 dX2_dropDigitsOf_15 ⟨g_1, h_x3_1.2⟩ ⟨(by decide), (by decide)⟩ ?_
      refine a_callV (pc := 16) X9 E (m_X2_offerThatShows (inR_mod g_1 (by decide) (by decide)) hnn h) okX2 (is2 hnn) wM_X2_54 w_instanceMethod_X2_offerThatShows w_selects_X2_offerThatShows w_initialized_RX2 w_code_X2_offerThatShows cp_X2_offerThatShows pn_X2_offerThatShows rfl (Nat.le_of_ble_eq_true rfl) ⟨Nat.le_of_ble_eq_true rfl, Nat.le_of_ble_eq_true rfl⟩ ⟨Nat.le_of_ble_eq_true rfl, Nat.le_of_ble_eq_true rfl⟩ dX2_dropDigitsOf_16 (fun _ _ q => False.elim q) (kIp (fun r_1 hr_1 h => ?_))
      refine a_istore (pc := 19) X9 dX2_dropDigitsOf_19 (Nat.le_of_ble_eq_true rfl) rfl rfl ?_
      refine a_iload (pc := 21) X9 dX2_dropDigitsOf_21 rfl ?_
      refine a_iconst (pc := 23) X9 dX2_dropDigitsOf_23 ?_
      refine joinM1 (A := fun G_3 => GR G_3 → AW κ δ ρ0 (szF nn) 5 0 0 38 [some (vr 209), some (vi i1), some (vi i2), some (vi x3_1), some (vi r_1)] [] (SF nn) G_3) (fun G_3 h hG_3 => ?_) (fun j_1 hj_1 h => ?_) h
      · refine a_iload_n (pc := 38) X9 dX2_dropDigitsOf_38 rfl rfl ?_
        refine a_bipush (pc := 39) X9 dX2_dropDigitsOf_39 rfl ?_
        refine a_idiv (pc := 41) X9 dX2_dropDigitsOf_41 ⟨g_1, h_x3_1.2⟩ ⟨(by decide), (by decide)⟩ ?_
        refine a_istore_n (pc := 42) X9 dX2_dropDigitsOf_42 rfl (Nat.le_of_ble_eq_true rfl) rfl rfl ?_
        refine a_goto (pc := 43) (tgt := 2) X9 dX2_dropDigitsOf_43 rfl ?_
        refine AW.drop 4 rfl ?_
        exact hk_1 _ _ h (inR_div h_x3_1 g_1 (by decide)) hG_3
      · refine a_icmp_eq (pc := 24) (tgt := 38) X9 dX2_dropDigitsOf_24 rfl hr_1 (by decide) (fun c => ?_) (fun c => ?_)
        · have c_4 := c
          have h := h.1 c_4
          exact hj_1 _ h hG_1
        · have c_4 := c
          have h := h.2 c_4
          refine a_aload_n (pc := 27) X9 dX2_dropDigitsOf_27 rfl rfl ?_
          refine a_iload (pc := 28) X9 dX2_dropDigitsOf_28 rfl ?_
          refine a_iload_n (pc := 30) X9 dX2_dropDigitsOf_30 rfl rfl ?_
          refine a_bipush (pc := 31) X9 dX2_dropDigitsOf_31 rfl ?_
          refine a_irem (pc := 33) X9 dX2_dropDigitsOf_33 ⟨g_1, h_x3_1.2⟩ ⟨(by decide), (by decide)⟩ ?_
          refine a_iconst (pc := 34) X9 dX2_dropDigitsOf_34 ?_
          refine a_callV (pc := 35) X9 E (m_X2_change hr_1 (inR_mod g_1 (by decide) (by decide)) (show inR (-1) by decide) hnn h) okX2 (is2 hnn) wM_X2_58 w_instanceMethod_X2_change w_selects_X2_change w_initialized_RX2 w_code_X2_change cp_X2_change pn_X2_change rfl (Nat.le_of_ble_eq_true rfl) ⟨Nat.le_of_ble_eq_true rfl, Nat.le_of_ble_eq_true rfl⟩ ⟨Nat.le_of_ble_eq_true rfl, Nat.le_of_ble_eq_true rfl⟩ dX2_dropDigitsOf_35 (fun _ _ q => False.elim q) (kV (fun G_4 h hG_4 => ?_))
          exact hj_1 _ h hG_4
set_option maxHeartbeats 4000000 in
set_option maxRecDepth 100000 in
theorem m_X2_addDigitsOf {nn : Nat} {i1 : Int} {G : GH} {Q : Int → GH → Prop} (hi1 : inR i1) (hnn : 272 ≤ nn) (h : f_X2_addDigitsOf i1 G Q) : Mt yX2_addDigitsOf cX2_addDigitsOf 3 (some .boolean) 3 76 0 0 [vr 209, vi i1] (SF nn) G (fun v S' G' => S' = SF nn ∧ qZ Q v S' G') (fun E S' G' => S' = SF nn ∧ False) := by
  refine Mt.of (l0 := [some (vr 209), some (vi i1), none]) (by decide) (Nat.le_of_ble_eq_true rfl) rfl ?_
  intro κ δ ρ0 X9 E hG
  replace X9 : CX κ δ RX2 cX2_addDigitsOf 3 (some .boolean) := X9
  refine a_iload_n (pc := 0) X9 dX2_addDigitsOf_0 rfl rfl ?_
  refine a_istore_n (pc := 1) X9 dX2_addDigitsOf_1 rfl (Nat.le_of_ble_eq_true rfl) rfl rfl ?_
  refine loopM2 (A := fun x2_1 G_1 => inR x2_1 → GR G_1 → AW κ δ ρ0 (szF nn) 3 0 0 2 [some (vr 209), some (vi i1), some (vi x2_1)] [] (SF nn) G_1) (fun k_1 hk_1 x2_1 G_1 h h_x2_1 hG_1 => ?_) _ _ h hi1 hG
  refine a_iload_n (pc := 2) X9 dX2_addDigitsOf_2 rfl rfl ?_
  refine a_if_le (pc := 3) (tgt := 33) X9 dX2_addDigitsOf_3 rfl h_x2_1 (fun c => ?_) (fun c => ?_)
  · have c_1 := c
    have h := h.1 c_1
    refine a_iconst (pc := 33) X9 dX2_addDigitsOf_33 ?_
    exact a_ireturn (pc := 34) X9 E rfl (fit_bool (Or.inr rfl)).1 (Nat.le_of_ble_eq_true rfl) (Nat.le_of_ble_eq_true rfl) dX2_addDigitsOf_34 ⟨rfl, _, rfl, (Or.inr rfl), h⟩
  · have c_1 := c
    have h := h.2 c_1
    refine a_aload_n (pc := 6) X9 dX2_addDigitsOf_6 rfl rfl ?_
    refine a_iload_n (pc := 7) X9 dX2_addDigitsOf_7 rfl rfl ?_
    refine a_bipush (pc := 8) X9 dX2_addDigitsOf_8 rfl ?_
    obtain ⟨g_1, h⟩ := h
    refine a_irem (pc := 10) X9 dX2_addDigitsOf_10 ⟨g_1, h_x2_1.2⟩ ⟨(by decide), (by decide)⟩ ?_
    refine a_callV (pc := 11) X9 E (m_X2_addDigit (inR_mod g_1 (by decide) (by decide)) hnn h) okX2 (is2 hnn) wM_X2_46 w_instanceMethod_X2_addDigit w_selects_X2_addDigit w_initialized_RX2 w_code_X2_addDigit cp_X2_addDigit pn_X2_addDigit rfl (Nat.le_of_ble_eq_true rfl) ⟨Nat.le_of_ble_eq_true rfl, Nat.le_of_ble_eq_true rfl⟩ ⟨Nat.le_of_ble_eq_true rfl, Nat.le_of_ble_eq_true rfl⟩ dX2_addDigitsOf_11 (fun _ _ q => False.elim q) (kZ (fun r_1 G_2 hr_1 h hG_2 => ?_))
    refine a_if_ne (pc := 14) (tgt := 25) X9 dX2_addDigitsOf_14 rfl (bool_inR hr_1) (fun c => ?_) (fun c => ?_)
    · have c_2 := c
      have h := h.1 c_2
      refine a_iload_n (pc := 25) X9 dX2_addDigitsOf_25 rfl rfl ?_
      refine a_bipush (pc := 26) X9 dX2_addDigitsOf_26 rfl ?_
      refine a_idiv (pc := 28) X9 dX2_addDigitsOf_28 ⟨g_1, h_x2_1.2⟩ ⟨(by decide), (by decide)⟩ ?_
      refine a_istore_n (pc := 29) X9 dX2_addDigitsOf_29 rfl (Nat.le_of_ble_eq_true rfl) rfl rfl ?_
      refine a_goto (pc := 30) (tgt := 2) X9 dX2_addDigitsOf_30 rfl ?_
      exact hk_1 _ _ h (inR_div h_x2_1 g_1 (by decide)) hG_2
    · have c_2 := c
      have h := h.2 c_2
      refine a_aload_n (pc := 17) X9 dX2_addDigitsOf_17 rfl rfl ?_
      refine a_iload_n (pc := 18) X9 dX2_addDigitsOf_18 rfl rfl ?_
      refine a_iload_n (pc := 19) X9 dX2_addDigitsOf_19 rfl rfl ?_
      refine a_callV (pc := 20) X9 E (m_X2_dropDigitsOf hi1 h_x2_1 hnn h) okX2 (is2 hnn) wM_X2_50 w_instanceMethod_X2_dropDigitsOf w_selects_X2_dropDigitsOf w_initialized_RX2 w_code_X2_dropDigitsOf cp_X2_dropDigitsOf pn_X2_dropDigitsOf rfl (Nat.le_of_ble_eq_true rfl) ⟨Nat.le_of_ble_eq_true rfl, Nat.le_of_ble_eq_true rfl⟩ ⟨Nat.le_of_ble_eq_true rfl, Nat.le_of_ble_eq_true rfl⟩ dX2_addDigitsOf_20 (fun _ _ q => False.elim q) (kV (fun G_3 h hG_3 => ?_))
      refine a_iconst (pc := 23) X9 dX2_addDigitsOf_23 ?_
      exact a_ireturn (pc := 24) X9 E rfl (fit_bool (Or.inl rfl)).1 (Nat.le_of_ble_eq_true rfl) (Nat.le_of_ble_eq_true rfl) dX2_addDigitsOf_24 ⟨rfl, _, rfl, (Or.inl rfl), h⟩
set_option maxHeartbeats 4000000 in
set_option maxRecDepth 100000 in
theorem m_X4_couldShow {nn : Nat} {a1 : Nat} {i2 : Int} {G : GH} {Q : Int → GH → Prop} (ha1 : a1 ∈ L7) (hi2 : inR i2) (hnn : 272 ≤ nn) (h : f_X4_couldShow a1 i2 G Q) : Mt yX4_couldShow cX4_couldShow 3 (some .boolean) 4 98 0 0 [vr 208, vr a1, vi i2] (SF nn) G (fun v S' G' => S' = SF nn ∧ qZ Q v S' G') (fun E S' G' => S' = SF nn ∧ False) := by
  refine Mt.of (l0 := [some (vr 208), some (vr a1), some (vi i2)]) (by decide) (Nat.le_of_ble_eq_true rfl) rfl ?_
  intro κ δ ρ0 X9 E hG
  replace X9 : CX κ δ RX4 cX4_couldShow 3 (some .boolean) := X9
  refine a_aload_n (pc := 0) X9 dX4_couldShow_0 rfl rfl ?_
  refine a_aload_n (pc := 1) X9 dX4_couldShow_1 rfl rfl ?_
  refine a_getR (pc := 2) X9 (q := (a1 + 2)) okX7 3 rfl wF_X4_40 (is7 ha1 hnn) (rf7_3 _ ha1) dX4_couldShow_2 ?_
  refine a_aload_n (pc := 5) X9 dX4_couldShow_5 rfl rfl ?_
  refine a_getR (pc := 6) X9 (q := (a1 + 14)) okX7 5 rfl wF_X4_46 (is7 ha1 hnn) (rf7_5 _ ha1) dX4_couldShow_6 ?_
  refine a_callV (pc := 9) X9 E (m_X4_offerFree (su7_3 _ ha1) (su7_5 _ ha1) hnn h) okX4 (is4 hnn) wM_X4_50 w_instanceMethod_X4_offerFree w_selects_X4_offerFree w_initialized_RX4 w_code_X4_offerFree cp_X4_offerFree pn_X4_offerFree rfl (Nat.le_of_ble_eq_true rfl) ⟨Nat.le_of_ble_eq_true rfl, Nat.le_of_ble_eq_true rfl⟩ ⟨Nat.le_of_ble_eq_true rfl, Nat.le_of_ble_eq_true rfl⟩ dX4_couldShow_9 (fun _ _ q => False.elim q) (kV (fun G_1 h hG_1 => ?_))
  refine a_aload_n (pc := 12) X9 dX4_couldShow_12 rfl rfl ?_
  refine a_getR (pc := 13) X9 (q := 209) okX4 0 rfl wF_X4_12 (is4 hnn) rf4_0 dX4_couldShow_13 ?_
  refine a_iload_n (pc := 16) X9 dX4_couldShow_16 rfl rfl ?_
  refine a_callV (pc := 17) X9 E (m_X2_addDigitsOf hi2 hnn h) okX2 (is2 hnn) wM_X4_54 w_instanceMethod_X2_addDigitsOf w_selects_X2_addDigitsOf w_initialized_RX2 w_code_X2_addDigitsOf cp_X2_addDigitsOf pn_X2_addDigitsOf rfl (Nat.le_of_ble_eq_true rfl) ⟨Nat.le_of_ble_eq_true rfl, Nat.le_of_ble_eq_true rfl⟩ ⟨Nat.le_of_ble_eq_true rfl, Nat.le_of_ble_eq_true rfl⟩ dX4_couldShow_17 (fun _ _ q => False.elim q) (kZ (fun r_2 G_2 hr_2 h hG_2 => ?_))
  exact a_ireturn (pc := 20) X9 E rfl (fit_bool hr_2).1 (Nat.le_of_ble_eq_true rfl) (Nat.le_of_ble_eq_true rfl) dX4_couldShow_20 ⟨rfl, _, rfl, hr_2, h⟩
set_option maxHeartbeats 4000000 in
set_option maxRecDepth 100000 in
theorem m_X9_canShow {nn : Nat} {i1 : Int} {G : GH} {Q : Int → GH → Prop} (hi1 : inR i1) (hnn : 272 ≤ nn) (h : f_X9_canShow i1 G Q (fun _ _ => False)) : Mt yX9_canShow cX9_canShow 2 (some .boolean) 5 120 0 0 [vr 0, vi i1] (SF nn) G (fun v S' G' => S' = SF nn ∧ qZ Q v S' G') (fun E S' G' => S' = SF nn ∧ False) := by
  refine Mt.of (l0 := [some (vr 0), some (vi i1)]) (by decide) (Nat.le_of_ble_eq_true rfl) rfl ?_
  intro κ δ ρ0 X9 E hG
  replace X9 : CX κ δ RX9 cX9_canShow 2 (some .boolean) := X9
  refine a_iload_n (pc := 0) X9 dX9_canShow_0 rfl rfl ?_
  refine a_callS (pc := 1) X9 E (m_X9_needHymn hi1 hnn h) wM_X9_253 w_static_X9_needHymn w_initialized_RX9 w_code_X9_needHymn cp_X9_needHymn pn_X9_needHymn rfl (Nat.le_of_ble_eq_true rfl) ⟨Nat.le_of_ble_eq_true rfl, Nat.le_of_ble_eq_true rfl⟩ ⟨Nat.le_of_ble_eq_true rfl, Nat.le_of_ble_eq_true rfl⟩ dX9_canShow_1 (fun _ _ q => False.elim q) (kVp (fun h => ?_))
  refine a_aload_n (pc := 4) X9 dX9_canShow_4 rfl rfl ?_
  refine a_getR (pc := 5) X9 (q := 208) okX9 6 rfl wF_X9_44 (is9 hnn) rf9_6 dX9_canShow_5 ?_
  refine a_aload_n (pc := 8) X9 dX9_canShow_8 rfl rfl ?_
  refine a_getR (pc := 9) X9 (q := 1) okX9 0 rfl wF_X9_12 (is9 hnn) rf9_0 dX9_canShow_9 ?_
  refine a_iload_n (pc := 12) X9 dX9_canShow_12 rfl rfl ?_
  refine a_callV (pc := 13) X9 E (m_X4_couldShow su9_0 hi1 hnn h) okX4 (is4 hnn) wM_X9_256 w_instanceMethod_X4_couldShow w_selects_X4_couldShow w_initialized_RX4 w_code_X4_couldShow cp_X4_couldShow pn_X4_couldShow rfl (Nat.le_of_ble_eq_true rfl) ⟨Nat.le_of_ble_eq_true rfl, Nat.le_of_ble_eq_true rfl⟩ ⟨Nat.le_of_ble_eq_true rfl, Nat.le_of_ble_eq_true rfl⟩ dX9_canShow_13 (fun _ _ q => False.elim q) (kZ (fun r_2 G_1 hr_2 h hG_1 => ?_))
  exact a_ireturn (pc := 16) X9 E rfl (fit_bool hr_2).1 (Nat.le_of_ble_eq_true rfl) (Nat.le_of_ble_eq_true rfl) dX9_canShow_16 ⟨rfl, _, rfl, hr_2, h⟩
set_option maxHeartbeats 4000000 in
set_option maxRecDepth 100000 in
theorem m_X9_most {nn : Nat} {i1 : Int} {G : GH} {Q : Int → Prop} (hi1 : inR i1) (hnn : 272 ≤ nn) (h : f_X9_most i1 G Q (fun _ => False)) : Mt yX9_most cX9_most 4 (some .int) 3 67 0 0 [vr 0, vi i1] (SF nn) G (fun v S' G' => S' = SF nn ∧ qI (fun r9 G9 => G9 = G ∧ Q r9) v S' G') (fun E S' G' => S' = SF nn ∧ False) := by
  refine Mt.of (l0 := [some (vr 0), some (vi i1), none, none]) (by decide) (Nat.le_of_ble_eq_true rfl) rfl ?_
  intro κ δ ρ0 X9 E hG
  replace X9 : CX κ δ RX9 cX9_most 4 (some .int) := X9
  refine a_iload_n (pc := 0) X9 dX9_most_0 rfl rfl ?_
  refine a_callS (pc := 1) X9 E (m_X9_needDigit hi1 hnn h) wM_X9_185 w_static_X9_needDigit w_initialized_RX9 w_code_X9_needDigit cp_X9_needDigit pn_X9_needDigit rfl (Nat.le_of_ble_eq_true rfl) ⟨Nat.le_of_ble_eq_true rfl, Nat.le_of_ble_eq_true rfl⟩ ⟨Nat.le_of_ble_eq_true rfl, Nat.le_of_ble_eq_true rfl⟩ dX9_most_1 (fun _ _ q => False.elim q) (kVp (fun h => ?_))
  refine a_iconst (pc := 4) X9 dX9_most_4 ?_
  refine a_istore_n (pc := 5) X9 dX9_most_5 rfl (Nat.le_of_ble_eq_true rfl) rfl rfl ?_
  refine a_iconst (pc := 6) X9 dX9_most_6 ?_
  refine a_istore_n (pc := 7) X9 dX9_most_7 rfl (Nat.le_of_ble_eq_true rfl) rfl rfl ?_
  refine loopM2 (A := fun x2_1 x3_1 => inR x2_1 → inR x3_1 → AW κ δ ρ0 (szF nn) 4 0 0 8 [some (vr 0), some (vi i1), some (vi x2_1), some (vi x3_1)] [] (SF nn) G) (fun k_1 hk_1 x2_1 x3_1 h h_x2_1 h_x3_1 => ?_) _ _ h (by decide) (by decide)
  refine a_iload_n (pc := 8) X9 dX9_most_8 rfl rfl ?_
  refine a_bipush (pc := 9) X9 dX9_most_9 rfl ?_
  refine a_icmp_ge (pc := 11) (tgt := 50) X9 dX9_most_11 rfl h_x3_1 (by decide) (fun c => ?_) (fun c => ?_)
  · have c_1 := c
    have h := h.1 c_1
    refine a_iload_n (pc := 50) X9 dX9_most_50 rfl rfl ?_
    exact a_ireturn (pc := 51) X9 E rfl rfl (Nat.le_of_ble_eq_true rfl) (Nat.le_of_ble_eq_true rfl) dX9_most_51 ⟨rfl, _, rfl, h_x2_1, rfl, h⟩
  · have c_1 := c
    have h := h.2 c_1
    refine a_aload_n (pc := 14) X9 dX9_most_14 rfl rfl ?_
    refine a_getR (pc := 15) X9 (q := 1) okX9 0 rfl wF_X9_12 (is9 hnn) rf9_0 dX9_most_15 ?_
    refine a_getR (pc := 18) X9 (q := 3) okX7 3 rfl wF_X9_116 (is7 su9_0 hnn) (rf7_3 _ su9_0) dX9_most_18 ?_
    refine a_iload_n (pc := 21) X9 dX9_most_21 rfl rfl ?_
    refine a_iload_n (pc := 22) X9 dX9_most_22 rfl rfl ?_
    refine a_callV (pc := 23) X9 E (m_X8_showsDigit (su7_3 _ su9_0) h_x3_1 hi1 hnn h) okX8 (is8 (su7_3 _ su9_0) hnn) wM_X9_249 w_instanceMethod_X8_showsDigit w_selects_X8_showsDigit w_initialized_RX8 w_code_X8_showsDigit cp_X8_showsDigit pn_X8_showsDigit rfl (Nat.le_of_ble_eq_true rfl) ⟨Nat.le_of_ble_eq_true rfl, Nat.le_of_ble_eq_true rfl⟩ ⟨Nat.le_of_ble_eq_true rfl, Nat.le_of_ble_eq_true rfl⟩ dX9_most_23 (fun _ _ q => False.elim q) (kZp (fun r_2 hr_2 h => ?_))
    refine a_if_eq (pc := 26) (tgt := 44) X9 dX9_most_26 rfl (bool_inR hr_2) (fun c => ?_) (fun c => ?_)
    · have c_2 := c
      have h := h.1 c_2
      refine a_iinc (pc := 44) X9 dX9_most_44 rfl (Nat.le_of_ble_eq_true rfl) rfl rfl ?_
      refine a_goto (pc := 47) (tgt := 8) X9 dX9_most_47 rfl ?_
      have q_1 : inR (x3_1) := h_x3_1
      have g_1 : inR ((x3_1 + 1)) := ⟨by omega, by omega⟩
      exact hk_1 _ _ h h_x2_1 g_1
    · have c_2 := c
      have h := h.2 c_2
      refine a_iload_n (pc := 29) X9 dX9_most_29 rfl rfl ?_
      refine a_aload_n (pc := 30) X9 dX9_most_30 rfl rfl ?_
      refine a_getR (pc := 31) X9 (q := 1) okX9 0 rfl wF_X9_12 (is9 hnn) rf9_0 dX9_most_31 ?_
      refine a_getR (pc := 34) X9 (q := 3) okX7 3 rfl wF_X9_116 (is7 su9_0 hnn) (rf7_3 _ su9_0) dX9_most_34 ?_
      refine a_getR (pc := 37) X9 (q := 6) okX8 4 rfl wF_X9_179 (is8 (su7_3 _ su9_0) hnn) (rf8_4 _ (su7_3 _ su9_0)) dX9_most_37 ?_
      refine a_iload_n (pc := 40) X9 dX9_most_40 rfl rfl ?_
      obtain ⟨g_2, h⟩ := h
      refine b_iald (pc := 41) X9 (ar8_4 (su7_3 _ su9_0) hnn) (Nat.le_of_ble_eq_true rfl) g_2 dX9_most_41 ?_
      refine a_iadd (pc := 42) X9 dX9_most_42 ?_
      refine a_istore_n (pc := 43) X9 dX9_most_43 rfl (Nat.le_of_ble_eq_true rfl) rfl rfl ?_
      refine a_iinc (pc := 44) X9 dX9_most_44 rfl (Nat.le_of_ble_eq_true rfl) rfl rfl ?_
      refine a_goto (pc := 47) (tgt := 8) X9 dX9_most_47 rfl ?_
      obtain ⟨g_3, h⟩ := h
      have q_2 : inR (x3_1) := h_x3_1
      have g_4 : inR ((x3_1 + 1)) := ⟨by omega, by omega⟩
      exact hk_1 _ _ h g_3 g_4
set_option maxHeartbeats 4000000 in
set_option maxRecDepth 100000 in
theorem m_X4_offerAll {nn : Nat} {a1 : Nat} {G : GH} {Q : GH → Prop} (ha1 : a1 ∈ L8) (hnn : 272 ≤ nn) (h : f_X4_offerAll a1 G Q) : Mt yX4_offerAll cX4_offerAll 3 none 3 63 0 0 [vr 208, vr a1] (SF nn) G (fun v S' G' => S' = SF nn ∧ qV Q v S' G') (fun E S' G' => S' = SF nn ∧ False) := by
  refine Mt.of (l0 := [some (vr 208), some (vr a1), none]) (by decide) (Nat.le_of_ble_eq_true rfl) rfl ?_
  intro κ δ ρ0 X9 E hG
  replace X9 : CX κ δ RX4 cX4_offerAll 3 none := X9
  refine a_aload_n (pc := 0) X9 dX4_offerAll_0 rfl rfl ?_
  refine a_getR (pc := 1) X9 (q := 209) okX4 0 rfl wF_X4_12 (is4 hnn) rf4_0 dX4_offerAll_1 ?_
  refine a_callV (pc := 4) X9 E (m_X2_startEmpty  hnn h) okX2 (is2 hnn) wM_X4_18 w_instanceMethod_X2_startEmpty w_selects_X2_startEmpty w_initialized_RX2 w_code_X2_startEmpty cp_X2_startEmpty pn_X2_startEmpty rfl (Nat.le_of_ble_eq_true rfl) ⟨Nat.le_of_ble_eq_true rfl, Nat.le_of_ble_eq_true rfl⟩ ⟨Nat.le_of_ble_eq_true rfl, Nat.le_of_ble_eq_true rfl⟩ dX4_offerAll_4 (fun _ _ q => False.elim q) (kV (fun G_1 h hG_1 => ?_))
  refine a_iconst (pc := 7) X9 dX4_offerAll_7 ?_
  refine a_istore_n (pc := 8) X9 dX4_offerAll_8 rfl (Nat.le_of_ble_eq_true rfl) rfl rfl ?_
  refine loopM2 (A := fun x2_1 G_2 => inR x2_1 → GR G_2 → AW κ δ ρ0 (szF nn) 3 0 0 9 [some (vr 208), some (vr a1), some (vi x2_1)] [] (SF nn) G_2) (fun k_1 hk_1 x2_1 G_2 h h_x2_1 hG_2 => ?_) _ _ h (by decide) hG_1
  refine a_iload_n (pc := 9) X9 dX4_offerAll_9 rfl rfl ?_
  refine a_bipush (pc := 10) X9 dX4_offerAll_10 rfl ?_
  refine a_icmp_ge (pc := 12) (tgt := 49) X9 dX4_offerAll_12 rfl h_x2_1 (by decide) (fun c => ?_) (fun c => ?_)
  · have c_1 := c
    have h := h.1 c_1
    exact a_return (pc := 49) X9 E (Nat.le_of_ble_eq_true rfl) (Nat.le_of_ble_eq_true rfl) dX4_offerAll_49 ⟨rfl, rfl, h⟩
  · have c_1 := c
    have h := h.2 c_1
    refine a_aload_n (pc := 15) X9 dX4_offerAll_15 rfl rfl ?_
    refine a_getR (pc := 16) X9 (q := (a1 + 3)) okX8 4 rfl wF_X4_21 (is8 ha1 hnn) (rf8_4 _ ha1) dX4_offerAll_16 ?_
    refine a_iload_n (pc := 19) X9 dX4_offerAll_19 rfl rfl ?_
    obtain ⟨g_1, h⟩ := h
    refine b_iald (pc := 20) X9 (ar8_4 ha1 hnn) (Nat.le_of_ble_eq_true rfl) g_1 dX4_offerAll_20 ?_
    refine a_if_le (pc := 21) (tgt := 43) X9 dX4_offerAll_21 rfl (hG_2 _ _) (fun c => ?_) (fun c => ?_)
    · have c_2 := c
      have h := h.1 c_2
      refine a_iinc (pc := 43) X9 dX4_offerAll_43 rfl (Nat.le_of_ble_eq_true rfl) rfl rfl ?_
      refine a_goto (pc := 46) (tgt := 9) X9 dX4_offerAll_46 rfl ?_
      have q_1 : inR (x2_1) := h_x2_1
      have g_2 : inR ((x2_1 + 1)) := ⟨by omega, by omega⟩
      exact hk_1 _ _ h g_2 hG_2
    · have c_2 := c
      have h := h.2 c_2
      refine a_aload_n (pc := 24) X9 dX4_offerAll_24 rfl rfl ?_
      refine a_getR (pc := 25) X9 (q := 209) okX4 0 rfl wF_X4_12 (is4 hnn) rf4_0 dX4_offerAll_25 ?_
      refine a_iload_n (pc := 28) X9 dX4_offerAll_28 rfl rfl ?_
      refine a_aload_n (pc := 29) X9 dX4_offerAll_29 rfl rfl ?_
      refine a_iload_n (pc := 30) X9 dX4_offerAll_30 rfl rfl ?_
      refine a_callV (pc := 31) X9 E (m_X8_digitsOf ha1 h_x2_1 hnn h) okX8 (is8 ha1 hnn) wM_X4_27 w_instanceMethod_X8_digitsOf w_selects_X8_digitsOf w_initialized_RX8 w_code_X8_digitsOf cp_X8_digitsOf pn_X8_digitsOf rfl (Nat.le_of_ble_eq_true rfl) ⟨Nat.le_of_ble_eq_true rfl, Nat.le_of_ble_eq_true rfl⟩ ⟨Nat.le_of_ble_eq_true rfl, Nat.le_of_ble_eq_true rfl⟩ dX4_offerAll_31 (fun _ _ q => False.elim q) (kIp (fun r_2 hr_2 h => ?_))
      refine a_aload_n (pc := 34) X9 dX4_offerAll_34 rfl rfl ?_
      refine a_getR (pc := 35) X9 (q := (a1 + 3)) okX8 4 rfl wF_X4_21 (is8 ha1 hnn) (rf8_4 _ ha1) dX4_offerAll_35 ?_
      refine a_iload_n (pc := 38) X9 dX4_offerAll_38 rfl rfl ?_
      refine b_iald (pc := 39) X9 (ar8_4 ha1 hnn) (Nat.le_of_ble_eq_true rfl) g_1 dX4_offerAll_39 ?_
      refine a_callV (pc := 40) X9 E (m_X2_offer h_x2_1 hr_2 (hG_2 _ _) hnn h) okX2 (is2 hnn) wM_X4_31 w_instanceMethod_X2_offer w_selects_X2_offer w_initialized_RX2 w_code_X2_offer cp_X2_offer pn_X2_offer rfl (Nat.le_of_ble_eq_true rfl) ⟨Nat.le_of_ble_eq_true rfl, Nat.le_of_ble_eq_true rfl⟩ ⟨Nat.le_of_ble_eq_true rfl, Nat.le_of_ble_eq_true rfl⟩ dX4_offerAll_40 (fun _ _ q => False.elim q) (kV (fun G_3 h hG_3 => ?_))
      refine a_iinc (pc := 43) X9 dX4_offerAll_43 rfl (Nat.le_of_ble_eq_true rfl) rfl rfl ?_
      refine a_goto (pc := 46) (tgt := 9) X9 dX4_offerAll_46 rfl ?_
      have q_2 : inR (x2_1) := h_x2_1
      have g_3 : inR ((x2_1 + 1)) := ⟨by omega, by omega⟩
      exact hk_1 _ _ h g_3 hG_3
set_option maxHeartbeats 4000000 in
set_option maxRecDepth 100000 in
theorem m_X7_hymnFor {nn : Nat} {a0 : Nat} {i1 : Int} {i2 : Int} {i3 : Int} {G : GH} {Q : Int → Prop} (ha0 : a0 ∈ L7) (hi1 : inR i1) (hi2 : inR i2) (hi3 : inR i3) (hnn : 272 ≤ nn) (h : f_X7_hymnFor a0 i1 i2 i3 G Q) : Mt yX7_hymnFor cX7_hymnFor 4 (some .int) 2 44 0 0 [vr a0, vi i1, vi i2, vi i3] (SF nn) G (fun v S' G' => S' = SF nn ∧ qI (fun r9 G9 => G9 = G ∧ Q r9) v S' G') (fun E S' G' => S' = SF nn ∧ False) := by
  refine Mt.of (l0 := [some (vr a0), some (vi i1), some (vi i2), some (vi i3)]) (by decide) (Nat.le_of_ble_eq_true rfl) rfl ?_
  intro κ δ ρ0 X9 E hG
  replace X9 : CX κ δ RX7 cX7_hymnFor 4 (some .int) := X9
  refine a_aload_n (pc := 0) X9 dX7_hymnFor_0 rfl rfl ?_
  refine a_getR (pc := 1) X9 (q := (a0 + 11)) okX7 4 rfl wF_X7_25 (is7 ha0 hnn) (rf7_4 _ ha0) dX7_hymnFor_1 ?_
  refine a_iload_n (pc := 4) X9 dX7_hymnFor_4 rfl rfl ?_
  refine a_aload_n (pc := 5) X9 dX7_hymnFor_5 rfl rfl ?_
  refine a_getI (pc := 6) X9 okX7 2 rfl wF_X7_40 (is7 ha0 hnn) dX7_hymnFor_6 ?_
  refine joinM1 (A := fun v_1 => inR v_1 → AW κ δ ρ0 (szF nn) 4 0 0 23 [some (vr a0), some (vi i1), some (vi i2), some (vi i3)] [vi v_1, vi i1, vr (a0 + 11)] (SF nn) G) (fun v_1 h h_v_1 => ?_) (fun j_1 hj_1 h => ?_) h
  · refine a_callV (pc := 23) X9 E (m_X6_hymnAt (su7_4 _ ha0) hi1 h_v_1 hnn h) okX6 (is6 (su7_4 _ ha0) hnn) wM_X7_85 w_instanceMethod_X6_hymnAt w_selects_X6_hymnAt w_initialized_RX6 w_code_X6_hymnAt cp_X6_hymnAt pn_X6_hymnAt rfl (Nat.le_of_ble_eq_true rfl) ⟨Nat.le_of_ble_eq_true rfl, Nat.le_of_ble_eq_true rfl⟩ ⟨Nat.le_of_ble_eq_true rfl, Nat.le_of_ble_eq_true rfl⟩ dX7_hymnFor_23 (fun _ _ q => False.elim q) (kIp (fun r_2 hr_2 h => ?_))
    exact a_ireturn (pc := 26) X9 E rfl rfl (Nat.le_of_ble_eq_true rfl) (Nat.le_of_ble_eq_true rfl) dX7_hymnFor_26 ⟨rfl, _, rfl, hr_2, rfl, h⟩
  · refine a_if_eq (pc := 9) (tgt := 22) X9 dX7_hymnFor_9 rfl (hG _ _) (fun c => ?_) (fun c => ?_)
    · have c_2 := c
      have h := h.1 c_2
      refine a_iload_n (pc := 22) X9 dX7_hymnFor_22 rfl rfl ?_
      exact hj_1 _ h hi3
    · have c_2 := c
      have h := h.2 c_2
      refine a_aload_n (pc := 12) X9 dX7_hymnFor_12 rfl rfl ?_
      refine a_iload_n (pc := 13) X9 dX7_hymnFor_13 rfl rfl ?_
      refine a_callV (pc := 14) X9 E (m_X7_rowsAhead ha0 hi2 hnn h) okX7 (is7 ha0 hnn) wM_X7_81 w_instanceMethod_X7_rowsAhead w_selects_X7_rowsAhead w_initialized_RX7 w_code_X7_rowsAhead cp_X7_rowsAhead pn_X7_rowsAhead rfl (Nat.le_of_ble_eq_true rfl) ⟨Nat.le_of_ble_eq_true rfl, Nat.le_of_ble_eq_true rfl⟩ ⟨Nat.le_of_ble_eq_true rfl, Nat.le_of_ble_eq_true rfl⟩ dX7_hymnFor_14 (fun _ _ q => False.elim q) (kIp (fun r_3 hr_3 h => ?_))
      refine a_iload_n (pc := 17) X9 dX7_hymnFor_17 rfl rfl ?_
      refine a_iadd (pc := 18) X9 dX7_hymnFor_18 ?_
      refine a_goto (pc := 19) (tgt := 23) X9 dX7_hymnFor_19 rfl ?_
      obtain ⟨g_1, h⟩ := h
      exact hj_1 _ h g_1
set_option maxHeartbeats 4000000 in
set_option maxRecDepth 100000 in
theorem m_X0_putHymn {nn : Nat} {a0 : Nat} {i1 : Int} {i2 : Int} {G : GH} {Q : GH → Prop} (ha0 : a0 ∈ L0) (hi1 : inR i1) (hi2 : inR i2) (hnn : 272 ≤ nn) (h : f_X0_putHymn a0 i1 i2 G Q) : Mt yX0_putHymn cX0_putHymn 5 none 0 0 0 0 [vr a0, vi i1, vi i2] (SF nn) G (fun v S' G' => S' = SF nn ∧ qV Q v S' G') (fun E S' G' => S' = SF nn ∧ False) := by
  refine Mt.of (l0 := [some (vr a0), some (vi i1), some (vi i2), none, none]) (by decide) (Nat.le_of_ble_eq_true rfl) rfl ?_
  intro κ δ ρ0 X9 E hG
  replace X9 : CX κ δ RX0 cX0_putHymn 5 none := X9
  refine a_aload_n (pc := 0) X9 dX0_putHymn_0 rfl rfl ?_
  refine a_getR (pc := 1) X9 (q := (a0 + 1)) okX0 1 rfl wF_X0_15 (is0 ha0 hnn) (rf0_1 _ ha0) dX0_putHymn_1 ?_
  refine a_iload_n (pc := 4) X9 dX0_putHymn_4 rfl rfl ?_
  refine a_iload_n (pc := 5) X9 dX0_putHymn_5 rfl rfl ?_
  obtain ⟨g_1, h⟩ := h
  refine b_iast (pc := 6) X9 (i := i1) (v := i2) (ar0_1 ha0 hnn) (Nat.le_of_ble_eq_true rfl) g_1 hi2 dX0_putHymn_6 ?_
  obtain ⟨G_1, eG_1⟩ : ∃ G9, G9 = upG G (a0 + 1) (i1).toNat i2 := ⟨_, rfl⟩
  have hG_1 : GR G_1 := by rw [eG_1]; exact (GR.up hG hi2)
  have h := h G_1 eG_1
  rw [← eG_1]
  refine a_iload_n (pc := 7) X9 dX0_putHymn_7 rfl rfl ?_
  refine a_istore_n (pc := 8) X9 dX0_putHymn_8 rfl (Nat.le_of_ble_eq_true rfl) rfl rfl ?_
  refine a_iconst (pc := 9) X9 dX0_putHymn_9 ?_
  refine a_istore (pc := 10) X9 dX0_putHymn_10 (Nat.le_of_ble_eq_true rfl) rfl rfl ?_
  refine loopM3 (A := fun x3_1 x4_1 G_2 => inR x3_1 → inR x4_1 → GR G_2 → AW κ δ ρ0 (szF nn) 5 0 0 12 [some (vr a0), some (vi i1), some (vi i2), some (vi x3_1), some (vi x4_1)] [] (SF nn) G_2) (fun k_1 hk_1 x3_1 x4_1 G_2 h h_x3_1 h_x4_1 hG_2 => ?_) _ _ _ h hi2 (by decide) hG_1
  refine a_iload (pc := 12) X9 dX0_putHymn_12 rfl ?_
  refine a_if_lt (pc := 14) (tgt := 47) X9 dX0_putHymn_14 rfl h_x4_1 (fun c => ?_) (fun c => ?_)
  · have c_1 := c
    have h := h.1 c_1
    exact a_return (pc := 47) X9 E (Nat.le_of_ble_eq_true rfl) (Nat.le_of_ble_eq_true rfl) dX0_putHymn_47 ⟨rfl, rfl, h⟩
  · have c_1 := c
    have h := h.2 c_1
    refine a_iload_n (pc := 17) X9 dX0_putHymn_17 rfl rfl ?_
    refine a_if_le (pc := 18) (tgt := 47) X9 dX0_putHymn_18 rfl h_x3_1 (fun c => ?_) (fun c => ?_)
    · have c_2 := c
      have h := h.1 c_2
      exact a_return (pc := 47) X9 E (Nat.le_of_ble_eq_true rfl) (Nat.le_of_ble_eq_true rfl) dX0_putHymn_47 ⟨rfl, rfl, h⟩
    · have c_2 := c
      have h := h.2 c_2
      refine a_aload_n (pc := 21) X9 dX0_putHymn_21 rfl rfl ?_
      refine a_getR (pc := 22) X9 (q := (a0 + 2)) okX0 2 rfl wF_X0_19 (is0 ha0 hnn) (rf0_2 _ ha0) dX0_putHymn_22 ?_
      refine a_iload_n (pc := 25) X9 dX0_putHymn_25 rfl rfl ?_
      refine a_iconst (pc := 26) X9 dX0_putHymn_26 ?_
      refine a_imul (pc := 27) X9 dX0_putHymn_27 ?_
      refine a_iload (pc := 28) X9 dX0_putHymn_28 rfl ?_
      refine a_iadd (pc := 30) X9 dX0_putHymn_30 ?_
      refine a_iload_n (pc := 31) X9 dX0_putHymn_31 rfl rfl ?_
      refine a_bipush (pc := 32) X9 dX0_putHymn_32 rfl ?_
      obtain ⟨g_2, h⟩ := h
      refine a_irem (pc := 34) X9 dX0_putHymn_34 ⟨g_2, h_x3_1.2⟩ ⟨(by decide), (by decide)⟩ ?_
      obtain ⟨g_3, h⟩ := h
      refine b_iast (pc := 35) X9 (i := ((i1 * 3) + x4_1)) (v := (x3_1 % 10)) (ar0_2 ha0 hnn) (Nat.le_of_ble_eq_true rfl) g_3 (inR_mod g_2 (by decide) (by decide)) dX0_putHymn_35 ?_
      obtain ⟨G_3, eG_3⟩ : ∃ G9, G9 = upG G_2 (a0 + 2) (((i1 * 3) + x4_1)).toNat (x3_1 % 10) := ⟨_, rfl⟩
      have hG_3 : GR G_3 := by rw [eG_3]; exact (GR.up hG_2 (inR_mod g_2 (by decide) (by decide)))
      have h := h G_3 eG_3
      rw [← eG_3]
      refine a_iload_n (pc := 36) X9 dX0_putHymn_36 rfl rfl ?_
      refine a_bipush (pc := 37) X9 dX0_putHymn_37 rfl ?_
      refine a_idiv (pc := 39) X9 dX0_putHymn_39 ⟨g_2, h_x3_1.2⟩ ⟨(by decide), (by decide)⟩ ?_
      refine a_istore_n (pc := 40) X9 dX0_putHymn_40 rfl (Nat.le_of_ble_eq_true rfl) rfl rfl ?_
      refine a_iinc (pc := 41) X9 dX0_putHymn_41 rfl (Nat.le_of_ble_eq_true rfl) rfl rfl ?_
      refine a_goto (pc := 44) (tgt := 12) X9 dX0_putHymn_44 rfl ?_
      have q_1 : inR (x4_1) := h_x4_1
      have g_4 : inR ((x4_1 + (-1))) := ⟨by omega, by omega⟩
      exact hk_1 _ _ _ h (inR_div h_x3_1 g_2 (by decide)) g_4 hG_3
set_option maxHeartbeats 4000000 in
set_option maxRecDepth 100000 in
theorem m_X4_chooseRow {nn : Nat} {i1 : Int} {i2 : Int} {i3 : Int} {a4 : Nat} {G : GH} {Q : GH → Prop} (hi1 : inR i1) (hi2 : inR i2) (hi3 : inR i3) (ha4 : a4 ∈ L0) (hnn : 272 ≤ nn) (h : f_X4_chooseRow i1 i2 i3 a4 G Q) : Mt yX4_chooseRow cX4_chooseRow 5 none 4 98 0 0 [vr 208, vi i1, vi i2, vi i3, vr a4] (SF nn) G (fun v S' G' => S' = SF nn ∧ qV Q v S' G') (fun E S' G' => S' = SF nn ∧ False) := by
  refine Mt.of (l0 := [some (vr 208), some (vi i1), some (vi i2), some (vi i3), some (vr a4)]) (by decide) (Nat.le_of_ble_eq_true rfl) rfl ?_
  intro κ δ ρ0 X9 E hG
  replace X9 : CX κ δ RX4 cX4_chooseRow 5 none := X9
  refine a_aload_n (pc := 0) X9 dX4_chooseRow_0 rfl rfl ?_
  refine a_getR (pc := 1) X9 (q := 209) okX4 0 rfl wF_X4_12 (is4 hnn) rf4_0 dX4_chooseRow_1 ?_
  refine a_iload_n (pc := 4) X9 dX4_chooseRow_4 rfl rfl ?_
  refine a_callV (pc := 5) X9 E (m_X2_addDigitsOf hi3 hnn h) okX2 (is2 hnn) wM_X4_54 w_instanceMethod_X2_addDigitsOf w_selects_X2_addDigitsOf w_initialized_RX2 w_code_X2_addDigitsOf cp_X2_addDigitsOf pn_X2_addDigitsOf rfl (Nat.le_of_ble_eq_true rfl) ⟨Nat.le_of_ble_eq_true rfl, Nat.le_of_ble_eq_true rfl⟩ ⟨Nat.le_of_ble_eq_true rfl, Nat.le_of_ble_eq_true rfl⟩ dX4_chooseRow_5 (fun _ _ q => False.elim q) (kZ (fun r_1 G_1 hr_1 h hG_1 => ?_))
  refine a_if_eq (pc := 8) (tgt := 34) X9 dX4_chooseRow_8 rfl (bool_inR hr_1) (fun c => ?_) (fun c => ?_)
  · have c_1 := c
    have h := h.1 c_1
    refine a_aload_n (pc := 34) X9 dX4_chooseRow_34 rfl rfl ?_
    refine a_getI (pc := 35) X9 okX4 2 rfl wF_X4_72 (is4 hnn) dX4_chooseRow_35 ?_
    refine joinM1 (A := fun G_3 => GR G_3 → AW κ δ ρ0 (szF nn) 5 0 0 51 [some (vr 208), some (vi i1), some (vi i2), some (vi i3), some (vr a4)] [] (SF nn) G_3) (fun G_3 h hG_3 => ?_) (fun j_1 hj_1 h => ?_) h
    · refine a_aload_n (pc := 51) X9 dX4_chooseRow_51 rfl rfl ?_
      refine a_dup (pc := 52) X9 dX4_chooseRow_52 rfl ?_
      refine a_getI (pc := 53) X9 okX4 2 rfl wF_X4_72 (is4 hnn) dX4_chooseRow_53 ?_
      refine a_iconst (pc := 56) X9 dX4_chooseRow_56 ?_
      refine a_iadd (pc := 57) X9 dX4_chooseRow_57 ?_
      obtain ⟨g_2, h⟩ := h
      refine a_putI (pc := 58) X9 okX4 2 rfl rfl (v := ((G_3 208 2) + 1)) wF_X4_72 (is4 hnn) dX4_chooseRow_58 g_2 (fit_int _) (fun _ => ?_)
      obtain ⟨G_4, eG_4⟩ : ∃ G9, G9 = upG G_3 208 2 ((G_3 208 2) + 1) := ⟨_, rfl⟩
      have hG_4 : GR G_4 := by rw [eG_4]; exact (GR.up hG_3 g_2)
      have h := h G_4 eG_4
      rw [← eG_4]
      exact a_return (pc := 61) X9 E (Nat.le_of_ble_eq_true rfl) (Nat.le_of_ble_eq_true rfl) dX4_chooseRow_61 ⟨rfl, rfl, h⟩
    · refine a_if_ne (pc := 38) (tgt := 51) X9 dX4_chooseRow_38 rfl (hG_1 _ _) (fun c => ?_) (fun c => ?_)
      · have c_3 := c
        have h := h.1 c_3
        exact hj_1 _ h hG_1
      · have c_3 := c
        have h := h.2 c_3
        refine a_aload_n (pc := 41) X9 dX4_chooseRow_41 rfl rfl ?_
        refine a_bipush (pc := 42) X9 dX4_chooseRow_42 rfl ?_
        refine a_iload_n (pc := 44) X9 dX4_chooseRow_44 rfl rfl ?_
        refine a_imul (pc := 45) X9 dX4_chooseRow_45 ?_
        refine a_iload_n (pc := 46) X9 dX4_chooseRow_46 rfl rfl ?_
        refine a_iadd (pc := 47) X9 dX4_chooseRow_47 ?_
        obtain ⟨g_3, h⟩ := h
        refine a_putI (pc := 48) X9 okX4 3 rfl rfl (v := ((100 * i1) + i2)) wF_X4_75 (is4 hnn) dX4_chooseRow_48 g_3 (fit_int _) (fun _ => ?_)
        obtain ⟨G_5, eG_5⟩ : ∃ G9, G9 = upG G_1 208 3 ((100 * i1) + i2) := ⟨_, rfl⟩
        have hG_5 : GR G_5 := by rw [eG_5]; exact (GR.up hG_1 g_3)
        have h := h G_5 eG_5
        rw [← eG_5]
        exact hj_1 _ h hG_5
  · have c_1 := c
    have h := h.2 c_1
    refine a_aload (pc := 11) X9 dX4_chooseRow_11 rfl ?_
    refine a_iload_n (pc := 13) X9 dX4_chooseRow_13 rfl rfl ?_
    refine a_bipush (pc := 14) X9 dX4_chooseRow_14 rfl ?_
    refine a_imul (pc := 16) X9 dX4_chooseRow_16 ?_
    refine a_iload_n (pc := 17) X9 dX4_chooseRow_17 rfl rfl ?_
    refine a_iadd (pc := 18) X9 dX4_chooseRow_18 ?_
    refine a_iload_n (pc := 19) X9 dX4_chooseRow_19 rfl rfl ?_
    obtain ⟨g_4, h⟩ := h
    refine a_callV (pc := 20) X9 E (m_X0_putHymn ha4 g_4 hi3 hnn h) okX0 (is0 ha4 hnn) wM_X4_92 w_instanceMethod_X0_putHymn w_selects_X0_putHymn w_initialized_RX0 w_code_X0_putHymn cp_X0_putHymn pn_X0_putHymn rfl (Nat.le_of_ble_eq_true rfl) ⟨Nat.le_of_ble_eq_true rfl, Nat.le_of_ble_eq_true rfl⟩ ⟨Nat.le_of_ble_eq_true rfl, Nat.le_of_ble_eq_true rfl⟩ dX4_chooseRow_20 (fun _ _ q => False.elim q) (kV (fun G_6 h hG_6 => ?_))
    refine a_aload_n (pc := 23) X9 dX4_chooseRow_23 rfl rfl ?_
    refine a_dup (pc := 24) X9 dX4_chooseRow_24 rfl ?_
    refine a_getI (pc := 25) X9 okX4 1 rfl wF_X4_68 (is4 hnn) dX4_chooseRow_25 ?_
    refine a_iconst (pc := 28) X9 dX4_chooseRow_28 ?_
    refine a_iadd (pc := 29) X9 dX4_chooseRow_29 ?_
    obtain ⟨g_5, h⟩ := h
    refine a_putI (pc := 30) X9 okX4 1 rfl rfl (v := ((G_6 208 1) + 1)) wF_X4_68 (is4 hnn) dX4_chooseRow_30 g_5 (fit_int _) (fun _ => ?_)
    obtain ⟨G_7, eG_7⟩ : ∃ G9, G9 = upG G_6 208 1 ((G_6 208 1) + 1) := ⟨_, rfl⟩
    have hG_7 : GR G_7 := by rw [eG_7]; exact (GR.up hG_6 g_5)
    have h := h G_7 eG_7
    rw [← eG_7]
    exact a_return (pc := 33) X9 E (Nat.le_of_ble_eq_true rfl) (Nat.le_of_ble_eq_true rfl) dX4_chooseRow_33 ⟨rfl, rfl, h⟩
set_option maxHeartbeats 4000000 in
set_option maxRecDepth 100000 in
theorem m_X4_chooseRows {nn : Nat} {a1 : Nat} {i2 : Int} {i3 : Int} {a4 : Nat} {G : GH} {Q : GH → Prop} (ha1 : a1 ∈ L7) (hi2 : inR i2) (hi3 : inR i3) (ha4 : a4 ∈ L0) (hnn : 272 ≤ nn) (h : f_X4_chooseRows a1 i2 i3 a4 G Q) : Mt yX4_chooseRows cX4_chooseRows 8 none 5 122 0 0 [vr 208, vr a1, vi i2, vi i3, vr a4] (SF nn) G (fun v S' G' => S' = SF nn ∧ qV Q v S' G') (fun E S' G' => S' = SF nn ∧ False) := by
  refine Mt.of (l0 := [some (vr 208), some (vr a1), some (vi i2), some (vi i3), some (vr a4), none, none, none]) (by decide) (Nat.le_of_ble_eq_true rfl) rfl ?_
  intro κ δ ρ0 X9 E hG
  replace X9 : CX κ δ RX4 cX4_chooseRows 8 none := X9
  refine a_aload_n (pc := 0) X9 dX4_chooseRows_0 rfl rfl ?_
  refine a_aload_n (pc := 1) X9 dX4_chooseRows_1 rfl rfl ?_
  refine a_getR (pc := 2) X9 (q := (a1 + 2)) okX7 3 rfl wF_X4_40 (is7 ha1 hnn) (rf7_3 _ ha1) dX4_chooseRows_2 ?_
  refine a_callV (pc := 5) X9 E (m_X4_offerAll (su7_3 _ ha1) hnn h) okX4 (is4 hnn) wM_X4_58 w_instanceMethod_X4_offerAll w_selects_X4_offerAll w_initialized_RX4 w_code_X4_offerAll cp_X4_offerAll pn_X4_offerAll rfl (Nat.le_of_ble_eq_true rfl) ⟨Nat.le_of_ble_eq_true rfl, Nat.le_of_ble_eq_true rfl⟩ ⟨Nat.le_of_ble_eq_true rfl, Nat.le_of_ble_eq_true rfl⟩ dX4_chooseRows_5 (fun _ _ q => False.elim q) (kV (fun G_1 h hG_1 => ?_))
  refine a_iload_n (pc := 8) X9 dX4_chooseRows_8 rfl rfl ?_
  refine a_iconst (pc := 9) X9 dX4_chooseRows_9 ?_
  refine joinM1 (A := fun G_3 => GR G_3 → AW κ δ ρ0 (szF nn) 8 0 0 30 [some (vr 208), some (vr a1), some (vi i2), some (vi i3), some (vr a4), none, none, none] [] (SF nn) G_3) (fun G_3 h hG_3 => ?_) (fun j_1 hj_1 h => ?_) h
  · refine a_aload (pc := 30) X9 dX4_chooseRows_30 rfl ?_
    refine a_callV (pc := 32) X9 E (m_X0_takeAllDown ha4 hnn h) okX0 (is0 ha4 hnn) wM_X4_65 w_instanceMethod_X0_takeAllDown w_selects_X0_takeAllDown w_initialized_RX0 w_code_X0_takeAllDown cp_X0_takeAllDown pn_X0_takeAllDown rfl (Nat.le_of_ble_eq_true rfl) ⟨Nat.le_of_ble_eq_true rfl, Nat.le_of_ble_eq_true rfl⟩ ⟨Nat.le_of_ble_eq_true rfl, Nat.le_of_ble_eq_true rfl⟩ dX4_chooseRows_32 (fun _ _ q => False.elim q) (kV (fun G_4 h hG_4 => ?_))
    refine a_aload_n (pc := 35) X9 dX4_chooseRows_35 rfl rfl ?_
    refine a_iconst (pc := 36) X9 dX4_chooseRows_36 ?_
    refine a_putI (pc := 37) X9 okX4 1 rfl rfl (v := 0) wF_X4_68 (is4 hnn) dX4_chooseRows_37 (by decide) (fit_int _) (fun _ => ?_)
    obtain ⟨G_5, eG_5⟩ : ∃ G9, G9 = upG G_4 208 1 0 := ⟨_, rfl⟩
    have hG_5 : GR G_5 := by rw [eG_5]; exact (GR.up hG_4 (by decide))
    have h := h G_5 eG_5
    rw [← eG_5]
    refine a_aload_n (pc := 40) X9 dX4_chooseRows_40 rfl rfl ?_
    refine a_iconst (pc := 41) X9 dX4_chooseRows_41 ?_
    refine a_putI (pc := 42) X9 okX4 2 rfl rfl (v := 0) wF_X4_72 (is4 hnn) dX4_chooseRows_42 (by decide) (fit_int _) (fun _ => ?_)
    obtain ⟨G_6, eG_6⟩ : ∃ G9, G9 = upG G_5 208 2 0 := ⟨_, rfl⟩
    have hG_6 : GR G_6 := by rw [eG_6]; exact (GR.up hG_5 (by decide))
    have h := h G_6 eG_6
    rw [← eG_6]
    refine a_aload_n (pc := 45) X9 dX4_chooseRows_45 rfl rfl ?_
    refine a_iconst (pc := 46) X9 dX4_chooseRows_46 ?_
    refine a_putI (pc := 47) X9 okX4 3 rfl rfl (v := (-1)) wF_X4_75 (is4 hnn) dX4_chooseRows_47 (by decide) (fit_int _) (fun _ => ?_)
    obtain ⟨G_7, eG_7⟩ : ∃ G9, G9 = upG G_6 208 3 (-1) := ⟨_, rfl⟩
    have hG_7 : GR G_7 := by rw [eG_7]; exact (GR.up hG_6 (by decide))
    have h := h G_7 eG_7
    rw [← eG_7]
    refine a_iconst (pc := 50) X9 dX4_chooseRows_50 ?_
    refine a_istore (pc := 51) X9 dX4_chooseRows_51 (Nat.le_of_ble_eq_true rfl) rfl rfl ?_
    refine loopM2 (A := fun x5_1 G_8 => inR x5_1 → GR G_8 → AW κ δ ρ0 (szF nn) 8 0 0 53 [some (vr 208), some (vr a1), some (vi i2), some (vi i3), some (vr a4), some (vi x5_1), none, none] [] (SF nn) G_8) (fun k_1 hk_1 x5_1 G_8 h h_x5_1 hG_8 => ?_) _ _ h (by decide) hG_7
    refine a_iload (pc := 53) X9 dX4_chooseRows_53 rfl ?_
    refine a_aload_n (pc := 55) X9 dX4_chooseRows_55 rfl rfl ?_
    refine a_getI (pc := 56) X9 okX7 0 rfl wF_X4_78 (is7 ha1 hnn) dX4_chooseRows_56 ?_
    refine a_icmp_ge (pc := 59) (tgt := 118) X9 dX4_chooseRows_59 rfl h_x5_1 (hG_8 _ _) (fun c => ?_) (fun c => ?_)
    · have c_2 := c
      have h := h.1 c_2
      exact a_return (pc := 118) X9 E (Nat.le_of_ble_eq_true rfl) (Nat.le_of_ble_eq_true rfl) dX4_chooseRows_118 ⟨rfl, rfl, h⟩
    · have c_2 := c
      have h := h.2 c_2
      refine a_iconst (pc := 62) X9 dX4_chooseRows_62 ?_
      refine a_istore (pc := 63) X9 dX4_chooseRows_63 (Nat.le_of_ble_eq_true rfl) rfl rfl ?_
      refine loopM2 (A := fun x6_1 G_9 => inR x6_1 → GR G_9 → AW κ δ ρ0 (szF nn) 8 0 0 65 [some (vr 208), some (vr a1), some (vi i2), some (vi i3), some (vr a4), some (vi x5_1), some (vi x6_1), none] [] (SF nn) G_9) (fun k_2 hk_2 x6_1 G_9 h h_x6_1 hG_9 => ?_) _ _ h (by decide) hG_8
      refine a_iload (pc := 65) X9 dX4_chooseRows_65 rfl ?_
      refine a_aload_n (pc := 67) X9 dX4_chooseRows_67 rfl rfl ?_
      refine a_getR (pc := 68) X9 (q := (a1 + 1)) okX7 1 rfl wF_X4_81 (is7 ha1 hnn) (rf7_1 _ ha1) dX4_chooseRows_68 ?_
      refine a_iload (pc := 71) X9 dX4_chooseRows_71 rfl ?_
      obtain ⟨g_1, h⟩ := h
      refine b_iald (pc := 73) X9 (ar7_1 ha1 hnn) (Nat.le_of_ble_eq_true rfl) g_1 dX4_chooseRows_73 ?_
      refine a_icmp_ge (pc := 74) (tgt := 112) X9 dX4_chooseRows_74 rfl h_x6_1 (hG_9 _ _) (fun c => ?_) (fun c => ?_)
      · have c_3 := c
        have h := h.1 c_3
        refine a_iinc (pc := 112) X9 dX4_chooseRows_112 rfl (Nat.le_of_ble_eq_true rfl) rfl rfl ?_
        refine a_goto (pc := 115) (tgt := 53) X9 dX4_chooseRows_115 rfl ?_
        have q_1 : inR ((G_8 a1 0)) := (hG_8 _ _)
        have q_2 : inR (x5_1) := h_x5_1
        have g_2 : inR ((x5_1 + 1)) := ⟨by omega, by omega⟩
        refine AW.drop 6 rfl ?_
        exact hk_1 _ _ h g_2 hG_9
      · have c_3 := c
        have h := h.2 c_3
        refine a_aload_n (pc := 77) X9 dX4_chooseRows_77 rfl rfl ?_
        refine a_iload_n (pc := 78) X9 dX4_chooseRows_78 rfl rfl ?_
        refine a_iload (pc := 79) X9 dX4_chooseRows_79 rfl ?_
        refine a_iload (pc := 81) X9 dX4_chooseRows_81 rfl ?_
        refine a_callV (pc := 83) X9 E (m_X7_hymnFor ha1 hi2 h_x5_1 h_x6_1 hnn h) okX7 (is7 ha1 hnn) wM_X4_84 w_instanceMethod_X7_hymnFor w_selects_X7_hymnFor w_initialized_RX7 w_code_X7_hymnFor cp_X7_hymnFor pn_X7_hymnFor rfl (Nat.le_of_ble_eq_true rfl) ⟨Nat.le_of_ble_eq_true rfl, Nat.le_of_ble_eq_true rfl⟩ ⟨Nat.le_of_ble_eq_true rfl, Nat.le_of_ble_eq_true rfl⟩ dX4_chooseRows_83 (fun _ _ q => False.elim q) (kIp (fun r_5 hr_5 h => ?_))
        refine a_istore (pc := 86) X9 dX4_chooseRows_86 (Nat.le_of_ble_eq_true rfl) rfl rfl ?_
        refine a_iload (pc := 88) X9 dX4_chooseRows_88 rfl ?_
        refine a_iconst (pc := 90) X9 dX4_chooseRows_90 ?_
        refine a_icmp_eq (pc := 91) (tgt := 106) X9 dX4_chooseRows_91 rfl hr_5 (by decide) (fun c => ?_) (fun c => ?_)
        · have c_4 := c
          have h := h.1 c_4
          refine a_iinc (pc := 106) X9 dX4_chooseRows_106 rfl (Nat.le_of_ble_eq_true rfl) rfl rfl ?_
          refine a_goto (pc := 109) (tgt := 65) X9 dX4_chooseRows_109 rfl ?_
          have q_3 : inR ((G_9 (a1 + 1) (x5_1).toNat)) := (hG_9 _ _)
          have q_4 : inR (x6_1) := h_x6_1
          have g_3 : inR ((x6_1 + 1)) := ⟨by omega, by omega⟩
          refine AW.drop 7 rfl ?_
          exact hk_2 _ _ h g_3 hG_9
        · have c_4 := c
          have h := h.2 c_4
          refine a_aload_n (pc := 94) X9 dX4_chooseRows_94 rfl rfl ?_
          refine a_iload (pc := 95) X9 dX4_chooseRows_95 rfl ?_
          refine a_iload (pc := 97) X9 dX4_chooseRows_97 rfl ?_
          refine a_iload (pc := 99) X9 dX4_chooseRows_99 rfl ?_
          refine a_aload (pc := 101) X9 dX4_chooseRows_101 rfl ?_
          refine a_callV (pc := 103) X9 E (m_X4_chooseRow h_x5_1 h_x6_1 hr_5 ha4 hnn h) okX4 (is4 hnn) wM_X4_88 w_instanceMethod_X4_chooseRow w_selects_X4_chooseRow w_initialized_RX4 w_code_X4_chooseRow cp_X4_chooseRow pn_X4_chooseRow rfl (Nat.le_of_ble_eq_true rfl) ⟨Nat.le_of_ble_eq_true rfl, Nat.le_of_ble_eq_true rfl⟩ ⟨Nat.le_of_ble_eq_true rfl, Nat.le_of_ble_eq_true rfl⟩ dX4_chooseRows_103 (fun _ _ q => False.elim q) (kV (fun G_10 h hG_10 => ?_))
          refine a_iinc (pc := 106) X9 dX4_chooseRows_106 rfl (Nat.le_of_ble_eq_true rfl) rfl rfl ?_
          refine a_goto (pc := 109) (tgt := 65) X9 dX4_chooseRows_109 rfl ?_
          have q_5 : inR ((G_9 (a1 + 1) (x5_1).toNat)) := (hG_9 _ _)
          have q_6 : inR (x6_1) := h_x6_1
          have g_4 : inR ((x6_1 + 1)) := ⟨by omega, by omega⟩
          refine AW.drop 7 rfl ?_
          exact hk_2 _ _ h g_4 hG_10
  · refine a_icmp_eq (pc := 10) (tgt := 30) X9 dX4_chooseRows_10 rfl hi3 (by decide) (fun c => ?_) (fun c => ?_)
    · have c_5 := c
      have h := h.1 c_5
      exact hj_1 _ h hG_1
    · have c_5 := c
      have h := h.2 c_5
      refine a_aload_n (pc := 13) X9 dX4_chooseRows_13 rfl rfl ?_
      refine a_getR (pc := 14) X9 (q := 209) okX4 0 rfl wF_X4_12 (is4 hnn) rf4_0 dX4_chooseRows_14 ?_
      refine a_iconst (pc := 17) X9 dX4_chooseRows_17 ?_
      refine a_aload_n (pc := 18) X9 dX4_chooseRows_18 rfl rfl ?_
      refine a_getR (pc := 19) X9 (q := (a1 + 2)) okX7 3 rfl wF_X4_40 (is7 ha1 hnn) (rf7_3 _ ha1) dX4_chooseRows_19 ?_
      refine a_iload_n (pc := 22) X9 dX4_chooseRows_22 rfl rfl ?_
      refine a_callV (pc := 23) X9 E (m_X8_digitsOfSide (su7_3 _ ha1) hi3 hnn h) okX8 (is8 (su7_3 _ ha1) hnn) wM_X4_62 w_instanceMethod_X8_digitsOfSide w_selects_X8_digitsOfSide w_initialized_RX8 w_code_X8_digitsOfSide cp_X8_digitsOfSide pn_X8_digitsOfSide rfl (Nat.le_of_ble_eq_true rfl) ⟨Nat.le_of_ble_eq_true rfl, Nat.le_of_ble_eq_true rfl⟩ ⟨Nat.le_of_ble_eq_true rfl, Nat.le_of_ble_eq_true rfl⟩ dX4_chooseRows_23 (fun _ _ q => False.elim q) (kIp (fun r_7 hr_7 h => ?_))
      refine a_iconst (pc := 26) X9 dX4_chooseRows_26 ?_
      refine a_callV (pc := 27) X9 E (m_X2_offer (show inR (-1) by decide) hr_7 (show inR 1 by decide) hnn h) okX2 (is2 hnn) wM_X4_31 w_instanceMethod_X2_offer w_selects_X2_offer w_initialized_RX2 w_code_X2_offer cp_X2_offer pn_X2_offer rfl (Nat.le_of_ble_eq_true rfl) ⟨Nat.le_of_ble_eq_true rfl, Nat.le_of_ble_eq_true rfl⟩ ⟨Nat.le_of_ble_eq_true rfl, Nat.le_of_ble_eq_true rfl⟩ dX4_chooseRows_27 (fun _ _ q => False.elim q) (kV (fun G_11 h hG_11 => ?_))
      exact hj_1 _ h hG_11
set_option maxHeartbeats 4000000 in
set_option maxRecDepth 100000 in
theorem m_X2_firstShownBy {nn : Nat} {i1 : Int} {G : GH} {Q : Int → Prop} (hi1 : inR i1) (hnn : 272 ≤ nn) (h : f_X2_firstShownBy i1 G Q) : Mt yX2_firstShownBy cX2_firstShownBy 3 (some .int) 0 0 0 0 [vr 209, vi i1] (SF nn) G (fun v S' G' => S' = SF nn ∧ qI (fun r9 G9 => G9 = G ∧ Q r9) v S' G') (fun E S' G' => S' = SF nn ∧ False) := by
  refine Mt.of (l0 := [some (vr 209), some (vi i1), none]) (by decide) (Nat.le_of_ble_eq_true rfl) rfl ?_
  intro κ δ ρ0 X9 E hG
  replace X9 : CX κ δ RX2 cX2_firstShownBy 3 (some .int) := X9
  refine a_iconst (pc := 0) X9 dX2_firstShownBy_0 ?_
  refine a_istore_n (pc := 1) X9 dX2_firstShownBy_1 rfl (Nat.le_of_ble_eq_true rfl) rfl rfl ?_
  refine loopM1 (A := fun x2_1 => inR x2_1 → AW κ δ ρ0 (szF nn) 3 0 0 2 [some (vr 209), some (vi i1), some (vi x2_1)] [] (SF nn) G) (fun k_1 hk_1 x2_1 h h_x2_1 => ?_) _ h (by decide)
  refine a_iload_n (pc := 2) X9 dX2_firstShownBy_2 rfl rfl ?_
  refine a_bipush (pc := 3) X9 dX2_firstShownBy_3 rfl ?_
  refine a_icmp_ge (pc := 5) (tgt := 30) X9 dX2_firstShownBy_5 rfl h_x2_1 (by decide) (fun c => ?_) (fun c => ?_)
  · have c_1 := c
    have h := h.1 c_1
    refine a_iconst (pc := 30) X9 dX2_firstShownBy_30 ?_
    exact a_ireturn (pc := 31) X9 E rfl rfl (Nat.le_of_ble_eq_true rfl) (Nat.le_of_ble_eq_true rfl) dX2_firstShownBy_31 ⟨rfl, _, rfl, (show inR (-1) by decide), rfl, h⟩
  · have c_1 := c
    have h := h.2 c_1
    refine a_aload_n (pc := 8) X9 dX2_firstShownBy_8 rfl rfl ?_
    refine a_getR (pc := 9) X9 (q := 214) okX2 5 rfl wF_X2_24 (is2 hnn) rf2_5 dX2_firstShownBy_9 ?_
    refine a_iload_n (pc := 12) X9 dX2_firstShownBy_12 rfl rfl ?_
    refine a_bipush (pc := 13) X9 dX2_firstShownBy_13 rfl ?_
    refine a_imul (pc := 15) X9 dX2_firstShownBy_15 ?_
    refine a_iload_n (pc := 16) X9 dX2_firstShownBy_16 rfl rfl ?_
    refine a_iadd (pc := 17) X9 dX2_firstShownBy_17 ?_
    obtain ⟨g_1, h⟩ := h
    refine b_iald (pc := 18) X9 (ar2_5 hnn) (Nat.le_of_ble_eq_true rfl) g_1 dX2_firstShownBy_18 ?_
    refine a_if_le (pc := 19) (tgt := 24) X9 dX2_firstShownBy_19 rfl (hG _ _) (fun c => ?_) (fun c => ?_)
    · have c_2 := c
      have h := h.1 c_2
      refine a_iinc (pc := 24) X9 dX2_firstShownBy_24 rfl (Nat.le_of_ble_eq_true rfl) rfl rfl ?_
      refine a_goto (pc := 27) (tgt := 2) X9 dX2_firstShownBy_27 rfl ?_
      have q_1 : inR (x2_1) := h_x2_1
      have g_2 : inR ((x2_1 + 1)) := ⟨by omega, by omega⟩
      exact hk_1 _ h g_2
    · have c_2 := c
      have h := h.2 c_2
      refine a_iload_n (pc := 22) X9 dX2_firstShownBy_22 rfl rfl ?_
      exact a_ireturn (pc := 23) X9 E rfl rfl (Nat.le_of_ble_eq_true rfl) (Nat.le_of_ble_eq_true rfl) dX2_firstShownBy_23 ⟨rfl, _, rfl, h_x2_1, rfl, h⟩
set_option maxHeartbeats 4000000 in
set_option maxRecDepth 100000 in
theorem m_X2_canSpare {nn : Nat} {i1 : Int} {G : GH} {Q : Int → GH → Prop} (hi1 : inR i1) (hnn : 272 ≤ nn) (h : f_X2_canSpare i1 G Q) : Mt yX2_canSpare cX2_canSpare 4 (some .boolean) 3 76 0 0 [vr 209, vi i1] (SF nn) G (fun v S' G' => S' = SF nn ∧ qZ Q v S' G') (fun E S' G' => S' = SF nn ∧ False) := by
  refine Mt.of (l0 := [some (vr 209), some (vi i1), none, none]) (by decide) (Nat.le_of_ble_eq_true rfl) rfl ?_
  intro κ δ ρ0 X9 E hG
  replace X9 : CX κ δ RX2 cX2_canSpare 4 (some .boolean) := X9
  refine a_aload_n (pc := 0) X9 dX2_canSpare_0 rfl rfl ?_
  refine a_getR (pc := 1) X9 (q := 213) okX2 4 rfl wF_X2_21 (is2 hnn) rf2_4 dX2_canSpare_1 ?_
  refine a_iload_n (pc := 4) X9 dX2_canSpare_4 rfl rfl ?_
  obtain ⟨g_1, h⟩ := h
  refine b_iald (pc := 5) X9 (ar2_4 hnn) (Nat.le_of_ble_eq_true rfl) g_1 dX2_canSpare_5 ?_
  refine a_aload_n (pc := 6) X9 dX2_canSpare_6 rfl rfl ?_
  refine a_getR (pc := 7) X9 (q := 212) okX2 3 rfl wF_X2_18 (is2 hnn) rf2_3 dX2_canSpare_7 ?_
  refine a_iload_n (pc := 10) X9 dX2_canSpare_10 rfl rfl ?_
  refine b_iald (pc := 11) X9 (ar2_3 hnn) (Nat.le_of_ble_eq_true rfl) g_1 dX2_canSpare_11 ?_
  refine a_icmp_ge (pc := 12) (tgt := 17) X9 dX2_canSpare_12 rfl (hG _ _) (hG _ _) (fun c => ?_) (fun c => ?_)
  · have c_1 := c
    have h := h.1 c_1
    refine a_aload_n (pc := 17) X9 dX2_canSpare_17 rfl rfl ?_
    refine a_iload_n (pc := 18) X9 dX2_canSpare_18 rfl rfl ?_
    refine a_callV (pc := 19) X9 E (m_X2_firstShownBy hi1 hnn h) okX2 (is2 hnn) wM_X2_68 w_instanceMethod_X2_firstShownBy w_selects_X2_firstShownBy w_initialized_RX2 w_code_X2_firstShownBy cp_X2_firstShownBy pn_X2_firstShownBy rfl (Nat.le_of_ble_eq_true rfl) ⟨Nat.le_of_ble_eq_true rfl, Nat.le_of_ble_eq_true rfl⟩ ⟨Nat.le_of_ble_eq_true rfl, Nat.le_of_ble_eq_true rfl⟩ dX2_canSpare_19 (fun _ _ q => False.elim q) (kIp (fun r_1 hr_1 h => ?_))
    refine a_istore_n (pc := 22) X9 dX2_canSpare_22 rfl (Nat.le_of_ble_eq_true rfl) rfl rfl ?_
    refine a_iload_n (pc := 23) X9 dX2_canSpare_23 rfl rfl ?_
    refine a_iconst (pc := 24) X9 dX2_canSpare_24 ?_
    refine a_icmp_ne (pc := 25) (tgt := 30) X9 dX2_canSpare_25 rfl hr_1 (by decide) (fun c => ?_) (fun c => ?_)
    · have c_2 := c
      have h := h.1 c_2
      refine a_aload_n (pc := 30) X9 dX2_canSpare_30 rfl rfl ?_
      refine a_iload_n (pc := 31) X9 dX2_canSpare_31 rfl rfl ?_
      refine a_iload_n (pc := 32) X9 dX2_canSpare_32 rfl rfl ?_
      refine a_iconst (pc := 33) X9 dX2_canSpare_33 ?_
      refine a_callV (pc := 34) X9 E (m_X2_change hi1 hr_1 (show inR (-1) by decide) hnn h) okX2 (is2 hnn) wM_X2_58 w_instanceMethod_X2_change w_selects_X2_change w_initialized_RX2 w_code_X2_change cp_X2_change pn_X2_change rfl (Nat.le_of_ble_eq_true rfl) ⟨Nat.le_of_ble_eq_true rfl, Nat.le_of_ble_eq_true rfl⟩ ⟨Nat.le_of_ble_eq_true rfl, Nat.le_of_ble_eq_true rfl⟩ dX2_canSpare_34 (fun _ _ q => False.elim q) (kV (fun G_1 h hG_1 => ?_))
      refine a_aload_n (pc := 37) X9 dX2_canSpare_37 rfl rfl ?_
      refine a_getR (pc := 38) X9 (q := 212) okX2 3 rfl wF_X2_18 (is2 hnn) rf2_3 dX2_canSpare_38 ?_
      refine a_iload_n (pc := 41) X9 dX2_canSpare_41 rfl rfl ?_
      refine a_dup2 (pc := 42) X9 dX2_canSpare_42 rfl rfl ?_
      refine b_iald (pc := 43) X9 (ar2_3 hnn) (Nat.le_of_ble_eq_true rfl) g_1 dX2_canSpare_43 ?_
      refine a_iconst (pc := 44) X9 dX2_canSpare_44 ?_
      refine a_isub (pc := 45) X9 dX2_canSpare_45 ?_
      obtain ⟨g_2, h⟩ := h
      refine b_iast (pc := 46) X9 (i := i1) (v := ((G_1 212 (i1).toNat) - 1)) (ar2_3 hnn) (Nat.le_of_ble_eq_true rfl) g_1 g_2 dX2_canSpare_46 ?_
      obtain ⟨G_2, eG_2⟩ : ∃ G9, G9 = upG G_1 212 (i1).toNat ((G_1 212 (i1).toNat) - 1) := ⟨_, rfl⟩
      have hG_2 : GR G_2 := by rw [eG_2]; exact (GR.up hG_1 g_2)
      have h := h G_2 eG_2
      rw [← eG_2]
      refine a_aload_n (pc := 47) X9 dX2_canSpare_47 rfl rfl ?_
      refine a_iload_n (pc := 48) X9 dX2_canSpare_48 rfl rfl ?_
      refine a_callV (pc := 49) X9 E (m_X2_addDigit hr_1 hnn h) okX2 (is2 hnn) wM_X2_46 w_instanceMethod_X2_addDigit w_selects_X2_addDigit w_initialized_RX2 w_code_X2_addDigit cp_X2_addDigit pn_X2_addDigit rfl (Nat.le_of_ble_eq_true rfl) ⟨Nat.le_of_ble_eq_true rfl, Nat.le_of_ble_eq_true rfl⟩ ⟨Nat.le_of_ble_eq_true rfl, Nat.le_of_ble_eq_true rfl⟩ dX2_canSpare_49 (fun _ _ q => False.elim q) (kZ (fun r_3 G_3 hr_3 h hG_3 => ?_))
      refine a_istore_n (pc := 52) X9 dX2_canSpare_52 rfl (Nat.le_of_ble_eq_true rfl) rfl rfl ?_
      refine a_aload_n (pc := 53) X9 dX2_canSpare_53 rfl rfl ?_
      refine a_getR (pc := 54) X9 (q := 212) okX2 3 rfl wF_X2_18 (is2 hnn) rf2_3 dX2_canSpare_54 ?_
      refine a_iload_n (pc := 57) X9 dX2_canSpare_57 rfl rfl ?_
      refine a_dup2 (pc := 58) X9 dX2_canSpare_58 rfl rfl ?_
      refine b_iald (pc := 59) X9 (ar2_3 hnn) (Nat.le_of_ble_eq_true rfl) g_1 dX2_canSpare_59 ?_
      refine a_iconst (pc := 60) X9 dX2_canSpare_60 ?_
      refine a_iadd (pc := 61) X9 dX2_canSpare_61 ?_
      obtain ⟨g_3, h⟩ := h
      refine b_iast (pc := 62) X9 (i := i1) (v := ((G_3 212 (i1).toNat) + 1)) (ar2_3 hnn) (Nat.le_of_ble_eq_true rfl) g_1 g_3 dX2_canSpare_62 ?_
      obtain ⟨G_4, eG_4⟩ : ∃ G9, G9 = upG G_3 212 (i1).toNat ((G_3 212 (i1).toNat) + 1) := ⟨_, rfl⟩
      have hG_4 : GR G_4 := by rw [eG_4]; exact (GR.up hG_3 g_3)
      have h := h G_4 eG_4
      rw [← eG_4]
      refine a_iload_n (pc := 63) X9 dX2_canSpare_63 rfl rfl ?_
      refine a_if_ne (pc := 64) (tgt := 74) X9 dX2_canSpare_64 rfl (bool_inR hr_3) (fun c => ?_) (fun c => ?_)
      · have c_3 := c
        have h := h.1 c_3
        refine a_iload_n (pc := 74) X9 dX2_canSpare_74 rfl rfl ?_
        exact a_ireturn (pc := 75) X9 E rfl (fit_bool hr_3).1 (Nat.le_of_ble_eq_true rfl) (Nat.le_of_ble_eq_true rfl) dX2_canSpare_75 ⟨rfl, _, rfl, hr_3, h⟩
      · have c_3 := c
        have h := h.2 c_3
        refine a_aload_n (pc := 67) X9 dX2_canSpare_67 rfl rfl ?_
        refine a_iload_n (pc := 68) X9 dX2_canSpare_68 rfl rfl ?_
        refine a_iload_n (pc := 69) X9 dX2_canSpare_69 rfl rfl ?_
        refine a_iconst (pc := 70) X9 dX2_canSpare_70 ?_
        refine a_callV (pc := 71) X9 E (m_X2_change hi1 hr_1 (show inR 1 by decide) hnn h) okX2 (is2 hnn) wM_X2_58 w_instanceMethod_X2_change w_selects_X2_change w_initialized_RX2 w_code_X2_change cp_X2_change pn_X2_change rfl (Nat.le_of_ble_eq_true rfl) ⟨Nat.le_of_ble_eq_true rfl, Nat.le_of_ble_eq_true rfl⟩ ⟨Nat.le_of_ble_eq_true rfl, Nat.le_of_ble_eq_true rfl⟩ dX2_canSpare_71 (fun _ _ q => False.elim q) (kV (fun G_5 h hG_5 => ?_))
        refine a_iload_n (pc := 74) X9 dX2_canSpare_74 rfl rfl ?_
        exact a_ireturn (pc := 75) X9 E rfl (fit_bool hr_3).1 (Nat.le_of_ble_eq_true rfl) (Nat.le_of_ble_eq_true rfl) dX2_canSpare_75 ⟨rfl, _, rfl, hr_3, h⟩
    · have c_2 := c
      have h := h.2 c_2
      refine a_iconst (pc := 28) X9 dX2_canSpare_28 ?_
      exact a_ireturn (pc := 29) X9 E rfl (fit_bool (Or.inl rfl)).1 (Nat.le_of_ble_eq_true rfl) (Nat.le_of_ble_eq_true rfl) dX2_canSpare_29 ⟨rfl, _, rfl, (Or.inl rfl), h⟩
  · have c_1 := c
    have h := h.2 c_1
    refine a_iconst (pc := 15) X9 dX2_canSpare_15 ?_
    exact a_ireturn (pc := 16) X9 E rfl (fit_bool (Or.inr rfl)).1 (Nat.le_of_ble_eq_true rfl) (Nat.le_of_ble_eq_true rfl) dX2_canSpare_16 ⟨rfl, _, rfl, (Or.inr rfl), h⟩
set_option maxHeartbeats 4000000 in
set_option maxRecDepth 100000 in
theorem m_X2_giveAway {nn : Nat} {i1 : Int} {G : GH} {Q : Int → GH → Prop} (hi1 : inR i1) (hnn : 272 ≤ nn) (h : f_X2_giveAway i1 G Q) : Mt yX2_giveAway cX2_giveAway 4 (some .int) 4 99 0 0 [vr 209, vi i1] (SF nn) G (fun v S' G' => S' = SF nn ∧ qI Q v S' G') (fun E S' G' => S' = SF nn ∧ False) := by
  refine Mt.of (l0 := [some (vr 209), some (vi i1), none, none]) (by decide) (Nat.le_of_ble_eq_true rfl) rfl ?_
  intro κ δ ρ0 X9 E hG
  replace X9 : CX κ δ RX2 cX2_giveAway 4 (some .int) := X9
  refine a_aload_n (pc := 0) X9 dX2_giveAway_0 rfl rfl ?_
  refine a_iload_n (pc := 1) X9 dX2_giveAway_1 rfl rfl ?_
  refine a_callV (pc := 2) X9 E (m_X2_offerThatShows hi1 hnn h) okX2 (is2 hnn) wM_X2_54 w_instanceMethod_X2_offerThatShows w_selects_X2_offerThatShows w_initialized_RX2 w_code_X2_offerThatShows cp_X2_offerThatShows pn_X2_offerThatShows rfl (Nat.le_of_ble_eq_true rfl) ⟨Nat.le_of_ble_eq_true rfl, Nat.le_of_ble_eq_true rfl⟩ ⟨Nat.le_of_ble_eq_true rfl, Nat.le_of_ble_eq_true rfl⟩ dX2_giveAway_2 (fun _ _ q => False.elim q) (kIp (fun r_1 hr_1 h => ?_))
  refine a_istore_n (pc := 5) X9 dX2_giveAway_5 rfl (Nat.le_of_ble_eq_true rfl) rfl rfl ?_
  refine a_iload_n (pc := 6) X9 dX2_giveAway_6 rfl rfl ?_
  refine a_iconst (pc := 7) X9 dX2_giveAway_7 ?_
  refine a_icmp_ne (pc := 8) (tgt := 13) X9 dX2_giveAway_8 rfl hr_1 (by decide) (fun c => ?_) (fun c => ?_)
  · have c_1 := c
    have h := h.1 c_1
    refine a_aload_n (pc := 13) X9 dX2_giveAway_13 rfl rfl ?_
    refine a_iload_n (pc := 14) X9 dX2_giveAway_14 rfl rfl ?_
    refine a_iload_n (pc := 15) X9 dX2_giveAway_15 rfl rfl ?_
    refine a_iconst (pc := 16) X9 dX2_giveAway_16 ?_
    refine a_callV (pc := 17) X9 E (m_X2_change hr_1 hi1 (show inR (-1) by decide) hnn h) okX2 (is2 hnn) wM_X2_58 w_instanceMethod_X2_change w_selects_X2_change w_initialized_RX2 w_code_X2_change cp_X2_change pn_X2_change rfl (Nat.le_of_ble_eq_true rfl) ⟨Nat.le_of_ble_eq_true rfl, Nat.le_of_ble_eq_true rfl⟩ ⟨Nat.le_of_ble_eq_true rfl, Nat.le_of_ble_eq_true rfl⟩ dX2_giveAway_17 (fun _ _ q => False.elim q) (kV (fun G_1 h hG_1 => ?_))
    refine a_iconst (pc := 20) X9 dX2_giveAway_20 ?_
    refine a_istore_n (pc := 21) X9 dX2_giveAway_21 rfl (Nat.le_of_ble_eq_true rfl) rfl rfl ?_
    refine loopM2 (A := fun x3_1 G_2 => inR x3_1 → GR G_2 → AW κ δ ρ0 (szF nn) 4 0 0 22 [some (vr 209), some (vi i1), some (vi r_1), some (vi x3_1)] [] (SF nn) G_2) (fun k_1 hk_1 x3_1 G_2 h h_x3_1 hG_2 => ?_) _ _ h (by decide) hG_1
    refine a_iload_n (pc := 22) X9 dX2_giveAway_22 rfl rfl ?_
    refine a_iload_n (pc := 23) X9 dX2_giveAway_23 rfl rfl ?_
    refine a_icmp_ge (pc := 24) (tgt := 75) X9 dX2_giveAway_24 rfl h_x3_1 hr_1 (fun c => ?_) (fun c => ?_)
    · have c_2 := c
      have h := h.1 c_2
      refine a_aload_n (pc := 75) X9 dX2_giveAway_75 rfl rfl ?_
      refine a_getR (pc := 76) X9 (q := 212) okX2 3 rfl wF_X2_18 (is2 hnn) rf2_3 dX2_giveAway_76 ?_
      refine a_iload_n (pc := 79) X9 dX2_giveAway_79 rfl rfl ?_
      refine a_dup2 (pc := 80) X9 dX2_giveAway_80 rfl rfl ?_
      obtain ⟨g_1, h⟩ := h
      refine b_iald (pc := 81) X9 (ar2_3 hnn) (Nat.le_of_ble_eq_true rfl) g_1 dX2_giveAway_81 ?_
      refine a_iconst (pc := 82) X9 dX2_giveAway_82 ?_
      refine a_isub (pc := 83) X9 dX2_giveAway_83 ?_
      obtain ⟨g_2, h⟩ := h
      refine b_iast (pc := 84) X9 (i := r_1) (v := ((G_2 212 (r_1).toNat) - 1)) (ar2_3 hnn) (Nat.le_of_ble_eq_true rfl) g_1 g_2 dX2_giveAway_84 ?_
      obtain ⟨G_3, eG_3⟩ : ∃ G9, G9 = upG G_2 212 (r_1).toNat ((G_2 212 (r_1).toNat) - 1) := ⟨_, rfl⟩
      have hG_3 : GR G_3 := by rw [eG_3]; exact (GR.up hG_2 g_2)
      have h := h G_3 eG_3
      rw [← eG_3]
      refine a_iload_n (pc := 85) X9 dX2_giveAway_85 rfl rfl ?_
      exact a_ireturn (pc := 86) X9 E rfl rfl (Nat.le_of_ble_eq_true rfl) (Nat.le_of_ble_eq_true rfl) dX2_giveAway_86 ⟨rfl, _, rfl, hr_1, h⟩
    · have c_2 := c
      have h := h.2 c_2
      refine a_aload_n (pc := 27) X9 dX2_giveAway_27 rfl rfl ?_
      refine a_getR (pc := 28) X9 (q := 212) okX2 3 rfl wF_X2_18 (is2 hnn) rf2_3 dX2_giveAway_28 ?_
      refine a_iload_n (pc := 31) X9 dX2_giveAway_31 rfl rfl ?_
      obtain ⟨g_3, h⟩ := h
      refine b_iald (pc := 32) X9 (ar2_3 hnn) (Nat.le_of_ble_eq_true rfl) g_3 dX2_giveAway_32 ?_
      refine a_if_le (pc := 33) (tgt := 69) X9 dX2_giveAway_33 rfl (hG_2 _ _) (fun c => ?_) (fun c => ?_)
      · have c_3 := c
        have h := h.1 c_3
        refine a_iinc (pc := 69) X9 dX2_giveAway_69 rfl (Nat.le_of_ble_eq_true rfl) rfl rfl ?_
        refine a_goto (pc := 72) (tgt := 22) X9 dX2_giveAway_72 rfl ?_
        have q_1 : inR (r_1) := hr_1
        have q_2 : inR (x3_1) := h_x3_1
        have g_4 : inR ((x3_1 + 1)) := ⟨by omega, by omega⟩
        exact hk_1 _ _ h g_4 hG_2
      · have c_3 := c
        have h := h.2 c_3
        refine a_aload_n (pc := 36) X9 dX2_giveAway_36 rfl rfl ?_
        refine a_getR (pc := 37) X9 (q := 211) okX2 2 rfl wF_X2_15 (is2 hnn) rf2_2 dX2_giveAway_37 ?_
        refine a_iload_n (pc := 40) X9 dX2_giveAway_40 rfl rfl ?_
        refine b_iald (pc := 41) X9 (ar2_2 hnn) (Nat.le_of_ble_eq_true rfl) g_3 dX2_giveAway_41 ?_
        refine a_iload_n (pc := 42) X9 dX2_giveAway_42 rfl rfl ?_
        refine b_ishr (pc := 43) X9 dX2_giveAway_43 ?_
        refine a_iconst (pc := 44) X9 dX2_giveAway_44 ?_
        refine b_iand (pc := 45) X9 dX2_giveAway_45 ?_
        refine a_if_eq (pc := 46) (tgt := 69) X9 dX2_giveAway_46 rfl inR_zAnd (fun c => ?_) (fun c => ?_)
        · have c_4 := c
          have h := h.1 c_4
          refine a_iinc (pc := 69) X9 dX2_giveAway_69 rfl (Nat.le_of_ble_eq_true rfl) rfl rfl ?_
          refine a_goto (pc := 72) (tgt := 22) X9 dX2_giveAway_72 rfl ?_
          have q_3 : inR (r_1) := hr_1
          have q_4 : inR (x3_1) := h_x3_1
          have g_5 : inR ((x3_1 + 1)) := ⟨by omega, by omega⟩
          exact hk_1 _ _ h g_5 hG_2
        · have c_4 := c
          have h := h.2 c_4
          refine a_aload_n (pc := 49) X9 dX2_giveAway_49 rfl rfl ?_
          refine a_iload_n (pc := 50) X9 dX2_giveAway_50 rfl rfl ?_
          refine a_callV (pc := 51) X9 E (m_X2_canSpare h_x3_1 hnn h) okX2 (is2 hnn) wM_X2_65 w_instanceMethod_X2_canSpare w_selects_X2_canSpare w_initialized_RX2 w_code_X2_canSpare cp_X2_canSpare pn_X2_canSpare rfl (Nat.le_of_ble_eq_true rfl) ⟨Nat.le_of_ble_eq_true rfl, Nat.le_of_ble_eq_true rfl⟩ ⟨Nat.le_of_ble_eq_true rfl, Nat.le_of_ble_eq_true rfl⟩ dX2_giveAway_51 (fun _ _ q => False.elim q) (kZ (fun r_3 G_4 hr_3 h hG_4 => ?_))
          refine a_if_eq (pc := 54) (tgt := 69) X9 dX2_giveAway_54 rfl (bool_inR hr_3) (fun c => ?_) (fun c => ?_)
          · have c_5 := c
            have h := h.1 c_5
            refine a_iinc (pc := 69) X9 dX2_giveAway_69 rfl (Nat.le_of_ble_eq_true rfl) rfl rfl ?_
            refine a_goto (pc := 72) (tgt := 22) X9 dX2_giveAway_72 rfl ?_
            have q_5 : inR (r_1) := hr_1
            have q_6 : inR (x3_1) := h_x3_1
            have g_6 : inR ((x3_1 + 1)) := ⟨by omega, by omega⟩
            exact hk_1 _ _ h g_6 hG_4
          · have c_5 := c
            have h := h.2 c_5
            refine a_aload_n (pc := 57) X9 dX2_giveAway_57 rfl rfl ?_
            refine a_getR (pc := 58) X9 (q := 212) okX2 3 rfl wF_X2_18 (is2 hnn) rf2_3 dX2_giveAway_58 ?_
            refine a_iload_n (pc := 61) X9 dX2_giveAway_61 rfl rfl ?_
            refine a_dup2 (pc := 62) X9 dX2_giveAway_62 rfl rfl ?_
            refine b_iald (pc := 63) X9 (ar2_3 hnn) (Nat.le_of_ble_eq_true rfl) g_3 dX2_giveAway_63 ?_
            refine a_iconst (pc := 64) X9 dX2_giveAway_64 ?_
            refine a_isub (pc := 65) X9 dX2_giveAway_65 ?_
            obtain ⟨g_7, h⟩ := h
            refine b_iast (pc := 66) X9 (i := x3_1) (v := ((G_4 212 (x3_1).toNat) - 1)) (ar2_3 hnn) (Nat.le_of_ble_eq_true rfl) g_3 g_7 dX2_giveAway_66 ?_
            obtain ⟨G_5, eG_5⟩ : ∃ G9, G9 = upG G_4 212 (x3_1).toNat ((G_4 212 (x3_1).toNat) - 1) := ⟨_, rfl⟩
            have hG_5 : GR G_5 := by rw [eG_5]; exact (GR.up hG_4 g_7)
            have h := h G_5 eG_5
            rw [← eG_5]
            refine a_iload_n (pc := 67) X9 dX2_giveAway_67 rfl rfl ?_
            exact a_ireturn (pc := 68) X9 E rfl rfl (Nat.le_of_ble_eq_true rfl) (Nat.le_of_ble_eq_true rfl) dX2_giveAway_68 ⟨rfl, _, rfl, h_x3_1, h⟩
  · have c_1 := c
    have h := h.2 c_1
    refine a_iconst (pc := 11) X9 dX2_giveAway_11 ?_
    exact a_ireturn (pc := 12) X9 E rfl rfl (Nat.le_of_ble_eq_true rfl) (Nat.le_of_ble_eq_true rfl) dX2_giveAway_12 ⟨rfl, _, rfl, (show inR (-1) by decide), h⟩
set_option maxHeartbeats 4000000 in
set_option maxRecDepth 100000 in
theorem m_X0_putCard {nn : Nat} {a0 : Nat} {i1 : Int} {i2 : Int} {i3 : Int} {G : GH} {Q : GH → Prop} (ha0 : a0 ∈ L0) (hi1 : inR i1) (hi2 : inR i2) (hi3 : inR i3) (hnn : 272 ≤ nn) (h : f_X0_putCard a0 i1 i2 i3 G Q) : Mt yX0_putCard cX0_putCard 4 none 0 0 0 0 [vr a0, vi i1, vi i2, vi i3] (SF nn) G (fun v S' G' => S' = SF nn ∧ qV Q v S' G') (fun E S' G' => S' = SF nn ∧ False) := by
  refine Mt.of (l0 := [some (vr a0), some (vi i1), some (vi i2), some (vi i3)]) (by decide) (Nat.le_of_ble_eq_true rfl) rfl ?_
  intro κ δ ρ0 X9 E hG
  replace X9 : CX κ δ RX0 cX0_putCard 4 none := X9
  refine a_aload_n (pc := 0) X9 dX0_putCard_0 rfl rfl ?_
  refine a_getR (pc := 1) X9 (q := (a0 + 3)) okX0 3 rfl wF_X0_22 (is0 ha0 hnn) (rf0_3 _ ha0) dX0_putCard_1 ?_
  refine a_iload_n (pc := 4) X9 dX0_putCard_4 rfl rfl ?_
  refine a_iload_n (pc := 5) X9 dX0_putCard_5 rfl rfl ?_
  obtain ⟨g_1, h⟩ := h
  refine b_iast (pc := 6) X9 (i := i1) (v := i2) (ar0_3 ha0 hnn) (Nat.le_of_ble_eq_true rfl) g_1 hi2 dX0_putCard_6 ?_
  obtain ⟨G_1, eG_1⟩ : ∃ G9, G9 = upG G (a0 + 3) (i1).toNat i2 := ⟨_, rfl⟩
  have hG_1 : GR G_1 := by rw [eG_1]; exact (GR.up hG hi2)
  have h := h G_1 eG_1
  rw [← eG_1]
  refine a_aload_n (pc := 7) X9 dX0_putCard_7 rfl rfl ?_
  refine a_getR (pc := 8) X9 (q := (a0 + 4)) okX0 4 rfl wF_X0_25 (is0 ha0 hnn) (rf0_4 _ ha0) dX0_putCard_8 ?_
  refine a_iload_n (pc := 11) X9 dX0_putCard_11 rfl rfl ?_
  refine a_iload_n (pc := 12) X9 dX0_putCard_12 rfl rfl ?_
  refine b_iast (pc := 13) X9 (i := i1) (v := i3) (ar0_4 ha0 hnn) (Nat.le_of_ble_eq_true rfl) g_1 hi3 dX0_putCard_13 ?_
  obtain ⟨G_2, eG_2⟩ : ∃ G9, G9 = upG G_1 (a0 + 4) (i1).toNat i3 := ⟨_, rfl⟩
  have hG_2 : GR G_2 := by rw [eG_2]; exact (GR.up hG_1 hi3)
  have h := h G_2 eG_2
  rw [← eG_2]
  refine a_aload_n (pc := 14) X9 dX0_putCard_14 rfl rfl ?_
  refine a_getR (pc := 15) X9 (q := (a0 + 5)) okX0 5 rfl wF_X0_28 (is0 ha0 hnn) (rf0_5 _ ha0) dX0_putCard_15 ?_
  refine a_iload_n (pc := 18) X9 dX0_putCard_18 rfl rfl ?_
  refine a_dup2 (pc := 19) X9 dX0_putCard_19 rfl rfl ?_
  obtain ⟨g_2, h⟩ := h
  refine b_iald (pc := 20) X9 (ar0_5 ha0 hnn) (Nat.le_of_ble_eq_true rfl) g_2 dX0_putCard_20 ?_
  refine a_iconst (pc := 21) X9 dX0_putCard_21 ?_
  refine a_iadd (pc := 22) X9 dX0_putCard_22 ?_
  obtain ⟨g_3, h⟩ := h
  refine b_iast (pc := 23) X9 (i := i2) (v := ((G_2 (a0 + 5) (i2).toNat) + 1)) (ar0_5 ha0 hnn) (Nat.le_of_ble_eq_true rfl) g_2 g_3 dX0_putCard_23 ?_
  obtain ⟨G_3, eG_3⟩ : ∃ G9, G9 = upG G_2 (a0 + 5) (i2).toNat ((G_2 (a0 + 5) (i2).toNat) + 1) := ⟨_, rfl⟩
  have hG_3 : GR G_3 := by rw [eG_3]; exact (GR.up hG_2 g_3)
  have h := h G_3 eG_3
  rw [← eG_3]
  exact a_return (pc := 24) X9 E (Nat.le_of_ble_eq_true rfl) (Nat.le_of_ble_eq_true rfl) dX0_putCard_24 ⟨rfl, rfl, h⟩
set_option maxHeartbeats 4000000 in
set_option maxRecDepth 100000 in
theorem m_X4_chooseCards {nn : Nat} {a1 : Nat} {a2 : Nat} {G : GH} {Q : GH → Prop} (ha1 : a1 ∈ L8) (ha2 : a2 ∈ L0) (hnn : 272 ≤ nn) (h : f_X4_chooseCards a1 a2 G Q) : Mt yX4_chooseCards cX4_chooseCards 7 none 5 122 0 0 [vr 208, vr a1, vr a2] (SF nn) G (fun v S' G' => S' = SF nn ∧ qV Q v S' G') (fun E S' G' => S' = SF nn ∧ False) := by
  refine Mt.of (l0 := [some (vr 208), some (vr a1), some (vr a2), none, none, none, none]) (by decide) (Nat.le_of_ble_eq_true rfl) rfl ?_
  intro κ δ ρ0 X9 E hG
  replace X9 : CX κ δ RX4 cX4_chooseCards 7 none := X9
  refine a_iconst (pc := 0) X9 dX4_chooseCards_0 ?_
  refine a_istore_n (pc := 1) X9 dX4_chooseCards_1 rfl (Nat.le_of_ble_eq_true rfl) rfl rfl ?_
  refine loopM2 (A := fun x3_1 G_1 => inR x3_1 → GR G_1 → AW κ δ ρ0 (szF nn) 7 0 0 2 [some (vr 208), some (vr a1), some (vr a2), some (vi x3_1), none, none, none] [] (SF nn) G_1) (fun k_1 hk_1 x3_1 G_1 h h_x3_1 hG_1 => ?_) _ _ h (by decide) hG
  refine a_iload_n (pc := 2) X9 dX4_chooseCards_2 rfl rfl ?_
  refine a_bipush (pc := 3) X9 dX4_chooseCards_3 rfl ?_
  refine a_icmp_ge (pc := 5) (tgt := 76) X9 dX4_chooseCards_5 rfl h_x3_1 (by decide) (fun c => ?_) (fun c => ?_)
  · have c_1 := c
    have h := h.1 c_1
    exact a_return (pc := 76) X9 E (Nat.le_of_ble_eq_true rfl) (Nat.le_of_ble_eq_true rfl) dX4_chooseCards_76 ⟨rfl, rfl, h⟩
  · have c_1 := c
    have h := h.2 c_1
    refine a_aload_n (pc := 8) X9 dX4_chooseCards_8 rfl rfl ?_
    refine a_getR (pc := 9) X9 (q := (a2 + 2)) okX0 2 rfl wF_X4_96 (is0 ha2 hnn) (rf0_2 _ ha2) dX4_chooseCards_9 ?_
    refine a_iload_n (pc := 12) X9 dX4_chooseCards_12 rfl rfl ?_
    obtain ⟨g_1, h⟩ := h
    refine b_iald (pc := 13) X9 (ar0_2 ha2 hnn) (Nat.le_of_ble_eq_true rfl) g_1 dX4_chooseCards_13 ?_
    refine a_istore (pc := 14) X9 dX4_chooseCards_14 (Nat.le_of_ble_eq_true rfl) rfl rfl ?_
    refine a_iload (pc := 16) X9 dX4_chooseCards_16 rfl ?_
    refine a_iconst (pc := 18) X9 dX4_chooseCards_18 ?_
    refine joinM2 (A := fun v_1 G_3 => inR v_1 → GR G_3 → AW κ δ ρ0 (szF nn) 7 0 0 35 [some (vr 208), some (vr a1), some (vr a2), some (vi x3_1), some (vi (G_1 (a2 + 2) (x3_1).toNat)), none, none] [vi v_1] (SF nn) G_3) (fun v_1 G_3 h h_v_1 hG_3 => ?_) (fun j_1 hj_1 h => ?_) h
    · refine a_istore (pc := 35) X9 dX4_chooseCards_35 (Nat.le_of_ble_eq_true rfl) rfl rfl ?_
      refine a_iload (pc := 37) X9 dX4_chooseCards_37 rfl ?_
      refine a_iconst (pc := 39) X9 dX4_chooseCards_39 ?_
      refine a_icmp_eq (pc := 40) (tgt := 70) X9 dX4_chooseCards_40 rfl h_v_1 (by decide) (fun c => ?_) (fun c => ?_)
      · have c_3 := c
        have h := h.1 c_3
        refine a_iinc (pc := 70) X9 dX4_chooseCards_70 rfl (Nat.le_of_ble_eq_true rfl) rfl rfl ?_
        refine a_goto (pc := 73) (tgt := 2) X9 dX4_chooseCards_73 rfl ?_
        have q_1 : inR (x3_1) := h_x3_1
        have g_2 : inR ((x3_1 + 1)) := ⟨by omega, by omega⟩
        refine AW.drop 4 rfl ?_
        refine AW.drop 5 rfl ?_
        exact hk_1 _ _ h g_2 hG_3
      · have c_3 := c
        have h := h.2 c_3
        refine a_aload_n (pc := 43) X9 dX4_chooseCards_43 rfl rfl ?_
        refine a_getR (pc := 44) X9 (q := 209) okX4 0 rfl wF_X4_12 (is4 hnn) rf4_0 dX4_chooseCards_44 ?_
        refine a_getR (pc := 47) X9 (q := 210) okX2 1 rfl wF_X4_102 (is2 hnn) rf2_1 dX4_chooseCards_47 ?_
        refine a_iload (pc := 50) X9 dX4_chooseCards_50 rfl ?_
        obtain ⟨g_3, h⟩ := h
        refine b_iald (pc := 52) X9 (ar2_1 hnn) (Nat.le_of_ble_eq_true rfl) g_3 dX4_chooseCards_52 ?_
        refine a_istore (pc := 53) X9 dX4_chooseCards_53 (Nat.le_of_ble_eq_true rfl) rfl rfl ?_
        refine a_aload_n (pc := 55) X9 dX4_chooseCards_55 rfl rfl ?_
        refine a_iload_n (pc := 56) X9 dX4_chooseCards_56 rfl rfl ?_
        refine a_iload (pc := 57) X9 dX4_chooseCards_57 rfl ?_
        refine a_aload_n (pc := 59) X9 dX4_chooseCards_59 rfl rfl ?_
        refine a_iload (pc := 60) X9 dX4_chooseCards_60 rfl ?_
        refine a_iload (pc := 62) X9 dX4_chooseCards_62 rfl ?_
        refine a_callV (pc := 64) X9 E (m_X8_wayOf ha1 (hG_3 _ _) (hG_1 _ _) hnn h) okX8 (is8 ha1 hnn) wM_X4_105 w_instanceMethod_X8_wayOf w_selects_X8_wayOf w_initialized_RX8 w_code_X8_wayOf cp_X8_wayOf pn_X8_wayOf rfl (Nat.le_of_ble_eq_true rfl) ⟨Nat.le_of_ble_eq_true rfl, Nat.le_of_ble_eq_true rfl⟩ ⟨Nat.le_of_ble_eq_true rfl, Nat.le_of_ble_eq_true rfl⟩ dX4_chooseCards_64 (fun _ _ q => False.elim q) (kIp (fun r_2 hr_2 h => ?_))
        refine a_callV (pc := 67) X9 E (m_X0_putCard ha2 h_x3_1 (hG_3 _ _) hr_2 hnn h) okX0 (is0 ha2 hnn) wM_X4_109 w_instanceMethod_X0_putCard w_selects_X0_putCard w_initialized_RX0 w_code_X0_putCard cp_X0_putCard pn_X0_putCard rfl (Nat.le_of_ble_eq_true rfl) ⟨Nat.le_of_ble_eq_true rfl, Nat.le_of_ble_eq_true rfl⟩ ⟨Nat.le_of_ble_eq_true rfl, Nat.le_of_ble_eq_true rfl⟩ dX4_chooseCards_67 (fun _ _ q => False.elim q) (kV (fun G_4 h hG_4 => ?_))
        refine a_iinc (pc := 70) X9 dX4_chooseCards_70 rfl (Nat.le_of_ble_eq_true rfl) rfl rfl ?_
        refine a_goto (pc := 73) (tgt := 2) X9 dX4_chooseCards_73 rfl ?_
        have q_2 : inR (x3_1) := h_x3_1
        have g_4 : inR ((x3_1 + 1)) := ⟨by omega, by omega⟩
        refine AW.drop 4 rfl ?_
        refine AW.drop 5 rfl ?_
        refine AW.drop 6 rfl ?_
        exact hk_1 _ _ h g_4 hG_4
    · refine a_icmp_ne (pc := 19) (tgt := 26) X9 dX4_chooseCards_19 rfl (hG_1 _ _) (by decide) (fun c => ?_) (fun c => ?_)
      · have c_4 := c
        have h := h.1 c_4
        refine a_aload_n (pc := 26) X9 dX4_chooseCards_26 rfl rfl ?_
        refine a_getR (pc := 27) X9 (q := 209) okX4 0 rfl wF_X4_12 (is4 hnn) rf4_0 dX4_chooseCards_27 ?_
        refine a_iload (pc := 30) X9 dX4_chooseCards_30 rfl ?_
        refine a_callV (pc := 32) X9 E (m_X2_giveAway (hG_1 _ _) hnn h) okX2 (is2 hnn) wM_X4_99 w_instanceMethod_X2_giveAway w_selects_X2_giveAway w_initialized_RX2 w_code_X2_giveAway cp_X2_giveAway pn_X2_giveAway rfl (Nat.le_of_ble_eq_true rfl) ⟨Nat.le_of_ble_eq_true rfl, Nat.le_of_ble_eq_true rfl⟩ ⟨Nat.le_of_ble_eq_true rfl, Nat.le_of_ble_eq_true rfl⟩ dX4_chooseCards_32 (fun _ _ q => False.elim q) (kI (fun r_4 G_5 hr_4 h hG_5 => ?_))
        exact hj_1 _ _ h hr_4 hG_5
      · have c_4 := c
        have h := h.2 c_4
        refine a_iconst (pc := 22) X9 dX4_chooseCards_22 ?_
        refine a_goto (pc := 23) (tgt := 35) X9 dX4_chooseCards_23 rfl ?_
        exact hj_1 _ _ h (by decide) hG_1
set_option maxHeartbeats 4000000 in
set_option maxRecDepth 100000 in
theorem m_X0_workTo {nn : Nat} {a0 : Nat} {a1 : Nat} {G : GH} {Q : Int → Prop} (ha0 : a0 ∈ L0) (ha1 : a1 ∈ L0) (hnn : 272 ≤ nn) (h : f_X0_workTo a0 a1 G Q) : Mt yX0_workTo cX0_workTo 4 (some .int) 0 0 0 0 [vr a0, vr a1] (SF nn) G (fun v S' G' => S' = SF nn ∧ qI (fun r9 G9 => G9 = G ∧ Q r9) v S' G') (fun E S' G' => S' = SF nn ∧ False) := by
  refine Mt.of (l0 := [some (vr a0), some (vr a1), none, none]) (by decide) (Nat.le_of_ble_eq_true rfl) rfl ?_
  intro κ δ ρ0 X9 E hG
  replace X9 : CX κ δ RX0 cX0_workTo 4 (some .int) := X9
  refine a_iconst (pc := 0) X9 dX0_workTo_0 ?_
  refine a_istore_n (pc := 1) X9 dX0_workTo_1 rfl (Nat.le_of_ble_eq_true rfl) rfl rfl ?_
  refine a_iconst (pc := 2) X9 dX0_workTo_2 ?_
  refine a_istore_n (pc := 3) X9 dX0_workTo_3 rfl (Nat.le_of_ble_eq_true rfl) rfl rfl ?_
  refine loopM2 (A := fun x2_1 x3_1 => inR x2_1 → inR x3_1 → AW κ δ ρ0 (szF nn) 4 0 0 4 [some (vr a0), some (vr a1), some (vi x2_1), some (vi x3_1)] [] (SF nn) G) (fun k_1 hk_1 x2_1 x3_1 h h_x2_1 h_x3_1 => ?_) _ _ h (by decide) (by decide)
  refine a_iload_n (pc := 4) X9 dX0_workTo_4 rfl rfl ?_
  refine a_bipush (pc := 5) X9 dX0_workTo_5 rfl ?_
  refine a_icmp_ge (pc := 7) (tgt := 65) X9 dX0_workTo_7 rfl h_x3_1 (by decide) (fun c => ?_) (fun c => ?_)
  · have c_1 := c
    have h := h.1 c_1
    refine a_iload_n (pc := 65) X9 dX0_workTo_65 rfl rfl ?_
    exact a_ireturn (pc := 66) X9 E rfl rfl (Nat.le_of_ble_eq_true rfl) (Nat.le_of_ble_eq_true rfl) dX0_workTo_66 ⟨rfl, _, rfl, h_x2_1, rfl, h⟩
  · have c_1 := c
    have h := h.2 c_1
    refine a_aload_n (pc := 10) X9 dX0_workTo_10 rfl rfl ?_
    refine a_getR (pc := 11) X9 (q := (a0 + 2)) okX0 2 rfl wF_X0_19 (is0 ha0 hnn) (rf0_2 _ ha0) dX0_workTo_11 ?_
    refine a_iload_n (pc := 14) X9 dX0_workTo_14 rfl rfl ?_
    obtain ⟨g_1, h⟩ := h
    refine b_iald (pc := 15) X9 (ar0_2 ha0 hnn) (Nat.le_of_ble_eq_true rfl) g_1 dX0_workTo_15 ?_
    refine a_aload_n (pc := 16) X9 dX0_workTo_16 rfl rfl ?_
    refine a_getR (pc := 17) X9 (q := (a1 + 2)) okX0 2 rfl wF_X0_19 (is0 ha1 hnn) (rf0_2 _ ha1) dX0_workTo_17 ?_
    refine a_iload_n (pc := 20) X9 dX0_workTo_20 rfl rfl ?_
    refine b_iald (pc := 21) X9 (ar0_2 ha1 hnn) (Nat.le_of_ble_eq_true rfl) g_1 dX0_workTo_21 ?_
    refine a_icmp_eq (pc := 22) (tgt := 59) X9 dX0_workTo_22 rfl (hG _ _) (hG _ _) (fun c => ?_) (fun c => ?_)
    · have c_2 := c
      have h := h.1 c_2
      refine a_iinc (pc := 59) X9 dX0_workTo_59 rfl (Nat.le_of_ble_eq_true rfl) rfl rfl ?_
      refine a_goto (pc := 62) (tgt := 4) X9 dX0_workTo_62 rfl ?_
      have q_1 : inR (x3_1) := h_x3_1
      have g_2 : inR ((x3_1 + 1)) := ⟨by omega, by omega⟩
      exact hk_1 _ _ h h_x2_1 g_2
    · have c_2 := c
      have h := h.2 c_2
      refine a_iload_n (pc := 25) X9 dX0_workTo_25 rfl rfl ?_
      refine a_aload_n (pc := 26) X9 dX0_workTo_26 rfl rfl ?_
      refine a_getR (pc := 27) X9 (q := (a0 + 2)) okX0 2 rfl wF_X0_19 (is0 ha0 hnn) (rf0_2 _ ha0) dX0_workTo_27 ?_
      refine a_iload_n (pc := 30) X9 dX0_workTo_30 rfl rfl ?_
      refine b_iald (pc := 31) X9 (ar0_2 ha0 hnn) (Nat.le_of_ble_eq_true rfl) g_1 dX0_workTo_31 ?_
      refine a_iconst (pc := 32) X9 dX0_workTo_32 ?_
      refine joinM1 (A := fun v_1 => (v_1 = 0 ∨ v_1 = 1) → AW κ δ ρ0 (szF nn) 4 0 0 41 [some (vr a0), some (vr a1), some (vi x2_1), some (vi x3_1)] [vi v_1, vi x2_1] (SF nn) G) (fun v_1 h h_v_1 => ?_) (fun j_1 hj_1 h => ?_) h
      · refine a_aload_n (pc := 41) X9 dX0_workTo_41 rfl rfl ?_
        refine a_getR (pc := 42) X9 (q := (a1 + 2)) okX0 2 rfl wF_X0_19 (is0 ha1 hnn) (rf0_2 _ ha1) dX0_workTo_42 ?_
        refine a_iload_n (pc := 45) X9 dX0_workTo_45 rfl rfl ?_
        refine b_iald (pc := 46) X9 (ar0_2 ha1 hnn) (Nat.le_of_ble_eq_true rfl) g_1 dX0_workTo_46 ?_
        refine a_iconst (pc := 47) X9 dX0_workTo_47 ?_
        refine joinM1 (A := fun v_2 => (v_2 = 0 ∨ v_2 = 1) → AW κ δ ρ0 (szF nn) 4 0 0 56 [some (vr a0), some (vr a1), some (vi x2_1), some (vi x3_1)] [vi v_2, vi v_1, vi x2_1] (SF nn) G) (fun v_2 h h_v_2 => ?_) (fun j_2 hj_2 h => ?_) h
        · refine a_iadd (pc := 56) X9 dX0_workTo_56 ?_
          refine a_iadd (pc := 57) X9 dX0_workTo_57 ?_
          refine a_istore_n (pc := 58) X9 dX0_workTo_58 rfl (Nat.le_of_ble_eq_true rfl) rfl rfl ?_
          refine a_iinc (pc := 59) X9 dX0_workTo_59 rfl (Nat.le_of_ble_eq_true rfl) rfl rfl ?_
          refine a_goto (pc := 62) (tgt := 4) X9 dX0_workTo_62 rfl ?_
          obtain ⟨g_3, h⟩ := h
          have q_2 : inR (x3_1) := h_x3_1
          have g_4 : inR ((x3_1 + 1)) := ⟨by omega, by omega⟩
          exact hk_1 _ _ h g_3 g_4
        · refine a_icmp_ne (pc := 48) (tgt := 55) X9 dX0_workTo_48 rfl (hG _ _) (by decide) (fun c => ?_) (fun c => ?_)
          · have c_5 := c
            have h := h.1 c_5
            refine a_iconst (pc := 55) X9 dX0_workTo_55 ?_
            exact hj_2 _ h (Or.inr rfl)
          · have c_5 := c
            have h := h.2 c_5
            refine a_iconst (pc := 51) X9 dX0_workTo_51 ?_
            refine a_goto (pc := 52) (tgt := 56) X9 dX0_workTo_52 rfl ?_
            exact hj_2 _ h (Or.inl rfl)
      · refine a_icmp_ne (pc := 33) (tgt := 40) X9 dX0_workTo_33 rfl (hG _ _) (by decide) (fun c => ?_) (fun c => ?_)
        · have c_6 := c
          have h := h.1 c_6
          refine a_iconst (pc := 40) X9 dX0_workTo_40 ?_
          exact hj_1 _ h (Or.inr rfl)
        · have c_6 := c
          have h := h.2 c_6
          refine a_iconst (pc := 36) X9 dX0_workTo_36 ?_
          refine a_goto (pc := 37) (tgt := 41) X9 dX0_workTo_37 rfl ?_
          exact hj_1 _ h (Or.inl rfl)
set_option maxHeartbeats 4000000 in
set_option maxRecDepth 100000 in
theorem m_X0_countTurned {nn : Nat} {a0 : Nat} {G : GH} {Q : Int → Prop} (ha0 : a0 ∈ L0) (hnn : 272 ≤ nn) (h : f_X0_countTurned a0 G Q) : Mt yX0_countTurned cX0_countTurned 3 (some .int) 0 0 0 0 [vr a0] (SF nn) G (fun v S' G' => S' = SF nn ∧ qI (fun r9 G9 => G9 = G ∧ Q r9) v S' G') (fun E S' G' => S' = SF nn ∧ False) := by
  refine Mt.of (l0 := [some (vr a0), none, none]) (by decide) (Nat.le_of_ble_eq_true rfl) rfl ?_
  intro κ δ ρ0 X9 E hG
  replace X9 : CX κ δ RX0 cX0_countTurned 3 (some .int) := X9
  refine a_iconst (pc := 0) X9 dX0_countTurned_0 ?_
  refine a_istore_n (pc := 1) X9 dX0_countTurned_1 rfl (Nat.le_of_ble_eq_true rfl) rfl rfl ?_
  refine a_iconst (pc := 2) X9 dX0_countTurned_2 ?_
  refine a_istore_n (pc := 3) X9 dX0_countTurned_3 rfl (Nat.le_of_ble_eq_true rfl) rfl rfl ?_
  refine loopM2 (A := fun x1_1 x2_1 => inR x1_1 → inR x2_1 → AW κ δ ρ0 (szF nn) 3 0 0 4 [some (vr a0), some (vi x1_1), some (vi x2_1)] [] (SF nn) G) (fun k_1 hk_1 x1_1 x2_1 h h_x1_1 h_x2_1 => ?_) _ _ h (by decide) (by decide)
  refine a_iload_n (pc := 4) X9 dX0_countTurned_4 rfl rfl ?_
  refine a_bipush (pc := 5) X9 dX0_countTurned_5 rfl ?_
  refine a_icmp_ge (pc := 7) (tgt := 39) X9 dX0_countTurned_7 rfl h_x2_1 (by decide) (fun c => ?_) (fun c => ?_)
  · have c_1 := c
    have h := h.1 c_1
    refine a_iload_n (pc := 39) X9 dX0_countTurned_39 rfl rfl ?_
    exact a_ireturn (pc := 40) X9 E rfl rfl (Nat.le_of_ble_eq_true rfl) (Nat.le_of_ble_eq_true rfl) dX0_countTurned_40 ⟨rfl, _, rfl, h_x1_1, rfl, h⟩
  · have c_1 := c
    have h := h.2 c_1
    refine a_aload_n (pc := 10) X9 dX0_countTurned_10 rfl rfl ?_
    refine a_getR (pc := 11) X9 (q := (a0 + 4)) okX0 4 rfl wF_X0_25 (is0 ha0 hnn) (rf0_4 _ ha0) dX0_countTurned_11 ?_
    refine a_iload_n (pc := 14) X9 dX0_countTurned_14 rfl rfl ?_
    obtain ⟨g_1, h⟩ := h
    refine b_iald (pc := 15) X9 (ar0_4 ha0 hnn) (Nat.le_of_ble_eq_true rfl) g_1 dX0_countTurned_15 ?_
    refine a_iconst (pc := 16) X9 dX0_countTurned_16 ?_
    refine a_icmp_eq (pc := 17) (tgt := 30) X9 dX0_countTurned_17 rfl (hG _ _) (by decide) (fun c => ?_) (fun c => ?_)
    · have c_2 := c
      have h := h.1 c_2
      refine a_iinc (pc := 30) X9 dX0_countTurned_30 rfl (Nat.le_of_ble_eq_true rfl) rfl rfl ?_
      refine a_iinc (pc := 33) X9 dX0_countTurned_33 rfl (Nat.le_of_ble_eq_true rfl) rfl rfl ?_
      refine a_goto (pc := 36) (tgt := 4) X9 dX0_countTurned_36 rfl ?_
      obtain ⟨g_2, h⟩ := h
      have q_1 : inR (x2_1) := h_x2_1
      have g_3 : inR ((x2_1 + 1)) := ⟨by omega, by omega⟩
      exact hk_1 _ _ h g_2 g_3
    · have c_2 := c
      have h := h.2 c_2
      refine a_aload_n (pc := 20) X9 dX0_countTurned_20 rfl rfl ?_
      refine a_getR (pc := 21) X9 (q := (a0 + 4)) okX0 4 rfl wF_X0_25 (is0 ha0 hnn) (rf0_4 _ ha0) dX0_countTurned_21 ?_
      refine a_iload_n (pc := 24) X9 dX0_countTurned_24 rfl rfl ?_
      refine b_iald (pc := 25) X9 (ar0_4 ha0 hnn) (Nat.le_of_ble_eq_true rfl) g_1 dX0_countTurned_25 ?_
      refine a_iconst (pc := 26) X9 dX0_countTurned_26 ?_
      refine a_icmp_ne (pc := 27) (tgt := 33) X9 dX0_countTurned_27 rfl (hG _ _) (by decide) (fun c => ?_) (fun c => ?_)
      · have c_3 := c
        have h := h.1 c_3
        refine a_iinc (pc := 33) X9 dX0_countTurned_33 rfl (Nat.le_of_ble_eq_true rfl) rfl rfl ?_
        refine a_goto (pc := 36) (tgt := 4) X9 dX0_countTurned_36 rfl ?_
        have q_2 : inR (x2_1) := h_x2_1
        have g_4 : inR ((x2_1 + 1)) := ⟨by omega, by omega⟩
        exact hk_1 _ _ h h_x1_1 g_4
      · have c_3 := c
        have h := h.2 c_3
        refine a_iinc (pc := 30) X9 dX0_countTurned_30 rfl (Nat.le_of_ble_eq_true rfl) rfl rfl ?_
        refine a_iinc (pc := 33) X9 dX0_countTurned_33 rfl (Nat.le_of_ble_eq_true rfl) rfl rfl ?_
        refine a_goto (pc := 36) (tgt := 4) X9 dX0_countTurned_36 rfl ?_
        obtain ⟨g_5, h⟩ := h
        have q_3 : inR (x2_1) := h_x2_1
        have g_6 : inR ((x2_1 + 1)) := ⟨by omega, by omega⟩
        exact hk_1 _ _ h g_5 g_6
set_option maxHeartbeats 4000000 in
set_option maxRecDepth 100000 in
theorem m_X0_countBacks {nn : Nat} {a0 : Nat} {G : GH} {Q : Int → Prop} (ha0 : a0 ∈ L0) (hnn : 272 ≤ nn) (h : f_X0_countBacks a0 G Q) : Mt yX0_countBacks cX0_countBacks 3 (some .int) 0 0 0 0 [vr a0] (SF nn) G (fun v S' G' => S' = SF nn ∧ qI (fun r9 G9 => G9 = G ∧ Q r9) v S' G') (fun E S' G' => S' = SF nn ∧ False) := by
  refine Mt.of (l0 := [some (vr a0), none, none]) (by decide) (Nat.le_of_ble_eq_true rfl) rfl ?_
  intro κ δ ρ0 X9 E hG
  replace X9 : CX κ δ RX0 cX0_countBacks 3 (some .int) := X9
  refine a_iconst (pc := 0) X9 dX0_countBacks_0 ?_
  refine a_istore_n (pc := 1) X9 dX0_countBacks_1 rfl (Nat.le_of_ble_eq_true rfl) rfl rfl ?_
  refine a_iconst (pc := 2) X9 dX0_countBacks_2 ?_
  refine a_istore_n (pc := 3) X9 dX0_countBacks_3 rfl (Nat.le_of_ble_eq_true rfl) rfl rfl ?_
  refine loopM2 (A := fun x1_1 x2_1 => inR x1_1 → inR x2_1 → AW κ δ ρ0 (szF nn) 3 0 0 4 [some (vr a0), some (vi x1_1), some (vi x2_1)] [] (SF nn) G) (fun k_1 hk_1 x1_1 x2_1 h h_x1_1 h_x2_1 => ?_) _ _ h (by decide) (by decide)
  refine a_iload_n (pc := 4) X9 dX0_countBacks_4 rfl rfl ?_
  refine a_bipush (pc := 5) X9 dX0_countBacks_5 rfl ?_
  refine a_icmp_ge (pc := 7) (tgt := 39) X9 dX0_countBacks_7 rfl h_x2_1 (by decide) (fun c => ?_) (fun c => ?_)
  · have c_1 := c
    have h := h.1 c_1
    refine a_iload_n (pc := 39) X9 dX0_countBacks_39 rfl rfl ?_
    exact a_ireturn (pc := 40) X9 E rfl rfl (Nat.le_of_ble_eq_true rfl) (Nat.le_of_ble_eq_true rfl) dX0_countBacks_40 ⟨rfl, _, rfl, h_x1_1, rfl, h⟩
  · have c_1 := c
    have h := h.2 c_1
    refine a_aload_n (pc := 10) X9 dX0_countBacks_10 rfl rfl ?_
    refine a_getR (pc := 11) X9 (q := (a0 + 4)) okX0 4 rfl wF_X0_25 (is0 ha0 hnn) (rf0_4 _ ha0) dX0_countBacks_11 ?_
    refine a_iload_n (pc := 14) X9 dX0_countBacks_14 rfl rfl ?_
    obtain ⟨g_1, h⟩ := h
    refine b_iald (pc := 15) X9 (ar0_4 ha0 hnn) (Nat.le_of_ble_eq_true rfl) g_1 dX0_countBacks_15 ?_
    refine a_iconst (pc := 16) X9 dX0_countBacks_16 ?_
    refine a_icmp_eq (pc := 17) (tgt := 30) X9 dX0_countBacks_17 rfl (hG _ _) (by decide) (fun c => ?_) (fun c => ?_)
    · have c_2 := c
      have h := h.1 c_2
      refine a_iinc (pc := 30) X9 dX0_countBacks_30 rfl (Nat.le_of_ble_eq_true rfl) rfl rfl ?_
      refine a_iinc (pc := 33) X9 dX0_countBacks_33 rfl (Nat.le_of_ble_eq_true rfl) rfl rfl ?_
      refine a_goto (pc := 36) (tgt := 4) X9 dX0_countBacks_36 rfl ?_
      obtain ⟨g_2, h⟩ := h
      have q_1 : inR (x2_1) := h_x2_1
      have g_3 : inR ((x2_1 + 1)) := ⟨by omega, by omega⟩
      exact hk_1 _ _ h g_2 g_3
    · have c_2 := c
      have h := h.2 c_2
      refine a_aload_n (pc := 20) X9 dX0_countBacks_20 rfl rfl ?_
      refine a_getR (pc := 21) X9 (q := (a0 + 4)) okX0 4 rfl wF_X0_25 (is0 ha0 hnn) (rf0_4 _ ha0) dX0_countBacks_21 ?_
      refine a_iload_n (pc := 24) X9 dX0_countBacks_24 rfl rfl ?_
      refine b_iald (pc := 25) X9 (ar0_4 ha0 hnn) (Nat.le_of_ble_eq_true rfl) g_1 dX0_countBacks_25 ?_
      refine a_iconst (pc := 26) X9 dX0_countBacks_26 ?_
      refine a_icmp_ne (pc := 27) (tgt := 33) X9 dX0_countBacks_27 rfl (hG _ _) (by decide) (fun c => ?_) (fun c => ?_)
      · have c_3 := c
        have h := h.1 c_3
        refine a_iinc (pc := 33) X9 dX0_countBacks_33 rfl (Nat.le_of_ble_eq_true rfl) rfl rfl ?_
        refine a_goto (pc := 36) (tgt := 4) X9 dX0_countBacks_36 rfl ?_
        have q_2 : inR (x2_1) := h_x2_1
        have g_4 : inR ((x2_1 + 1)) := ⟨by omega, by omega⟩
        exact hk_1 _ _ h h_x1_1 g_4
      · have c_3 := c
        have h := h.2 c_3
        refine a_iinc (pc := 30) X9 dX0_countBacks_30 rfl (Nat.le_of_ble_eq_true rfl) rfl rfl ?_
        refine a_iinc (pc := 33) X9 dX0_countBacks_33 rfl (Nat.le_of_ble_eq_true rfl) rfl rfl ?_
        refine a_goto (pc := 36) (tgt := 4) X9 dX0_countBacks_36 rfl ?_
        obtain ⟨g_5, h⟩ := h
        have q_3 : inR (x2_1) := h_x2_1
        have g_6 : inR ((x2_1 + 1)) := ⟨by omega, by omega⟩
        exact hk_1 _ _ h g_5 g_6
set_option maxHeartbeats 4000000 in
set_option maxRecDepth 100000 in
theorem m_X0_countBorrowed {nn : Nat} {a0 : Nat} {G : GH} {Q : Int → Prop} (ha0 : a0 ∈ L0) (hnn : 272 ≤ nn) (h : f_X0_countBorrowed a0 G Q) : Mt yX0_countBorrowed cX0_countBorrowed 3 (some .int) 0 0 0 0 [vr a0] (SF nn) G (fun v S' G' => S' = SF nn ∧ qI (fun r9 G9 => G9 = G ∧ Q r9) v S' G') (fun E S' G' => S' = SF nn ∧ False) := by
  refine Mt.of (l0 := [some (vr a0), none, none]) (by decide) (Nat.le_of_ble_eq_true rfl) rfl ?_
  intro κ δ ρ0 X9 E hG
  replace X9 : CX κ δ RX0 cX0_countBorrowed 3 (some .int) := X9
  refine a_iconst (pc := 0) X9 dX0_countBorrowed_0 ?_
  refine a_istore_n (pc := 1) X9 dX0_countBorrowed_1 rfl (Nat.le_of_ble_eq_true rfl) rfl rfl ?_
  refine a_iconst (pc := 2) X9 dX0_countBorrowed_2 ?_
  refine a_istore_n (pc := 3) X9 dX0_countBorrowed_3 rfl (Nat.le_of_ble_eq_true rfl) rfl rfl ?_
  refine loopM2 (A := fun x1_1 x2_1 => inR x1_1 → inR x2_1 → AW κ δ ρ0 (szF nn) 3 0 0 4 [some (vr a0), some (vi x1_1), some (vi x2_1)] [] (SF nn) G) (fun k_1 hk_1 x1_1 x2_1 h h_x1_1 h_x2_1 => ?_) _ _ h (by decide) (by decide)
  refine a_iload_n (pc := 4) X9 dX0_countBorrowed_4 rfl rfl ?_
  refine a_bipush (pc := 5) X9 dX0_countBorrowed_5 rfl ?_
  refine a_icmp_ge (pc := 7) (tgt := 30) X9 dX0_countBorrowed_7 rfl h_x2_1 (by decide) (fun c => ?_) (fun c => ?_)
  · have c_1 := c
    have h := h.1 c_1
    refine a_iload_n (pc := 30) X9 dX0_countBorrowed_30 rfl rfl ?_
    exact a_ireturn (pc := 31) X9 E rfl rfl (Nat.le_of_ble_eq_true rfl) (Nat.le_of_ble_eq_true rfl) dX0_countBorrowed_31 ⟨rfl, _, rfl, h_x1_1, rfl, h⟩
  · have c_1 := c
    have h := h.2 c_1
    refine a_aload_n (pc := 10) X9 dX0_countBorrowed_10 rfl rfl ?_
    refine a_getR (pc := 11) X9 (q := (a0 + 3)) okX0 3 rfl wF_X0_22 (is0 ha0 hnn) (rf0_3 _ ha0) dX0_countBorrowed_11 ?_
    refine a_iload_n (pc := 14) X9 dX0_countBorrowed_14 rfl rfl ?_
    obtain ⟨g_1, h⟩ := h
    refine b_iald (pc := 15) X9 (ar0_3 ha0 hnn) (Nat.le_of_ble_eq_true rfl) g_1 dX0_countBorrowed_15 ?_
    refine a_bipush (pc := 16) X9 dX0_countBorrowed_16 rfl ?_
    refine a_icmp_lt (pc := 18) (tgt := 24) X9 dX0_countBorrowed_18 rfl (hG _ _) (by decide) (fun c => ?_) (fun c => ?_)
    · have c_2 := c
      have h := h.1 c_2
      refine a_iinc (pc := 24) X9 dX0_countBorrowed_24 rfl (Nat.le_of_ble_eq_true rfl) rfl rfl ?_
      refine a_goto (pc := 27) (tgt := 4) X9 dX0_countBorrowed_27 rfl ?_
      have q_1 : inR (x2_1) := h_x2_1
      have g_2 : inR ((x2_1 + 1)) := ⟨by omega, by omega⟩
      exact hk_1 _ _ h h_x1_1 g_2
    · have c_2 := c
      have h := h.2 c_2
      refine a_iinc (pc := 21) X9 dX0_countBorrowed_21 rfl (Nat.le_of_ble_eq_true rfl) rfl rfl ?_
      refine a_iinc (pc := 24) X9 dX0_countBorrowed_24 rfl (Nat.le_of_ble_eq_true rfl) rfl rfl ?_
      refine a_goto (pc := 27) (tgt := 4) X9 dX0_countBorrowed_27 rfl ?_
      obtain ⟨g_3, h⟩ := h
      have q_2 : inR (x2_1) := h_x2_1
      have g_4 : inR ((x2_1 + 1)) := ⟨by omega, by omega⟩
      exact hk_1 _ _ h g_3 g_4
set_option maxHeartbeats 4000000 in
set_option maxRecDepth 100000 in
theorem m_X9_would {nn : Nat} {i1 : Int} {i2 : Int} {G : GH} {Q : Int → GH → Prop} (hi1 : inR i1) (hi2 : inR i2) (hnn : 272 ≤ nn) (h : f_X9_would i1 i2 G Q (fun _ _ => False)) : Mt yX9_would cX9_would 3 (some .int) 6 149 0 0 [vr 0, vi i1, vi i2] (SF nn) G (fun v S' G' => S' = SF nn ∧ qI Q v S' G') (fun E S' G' => S' = SF nn ∧ False) := by
  refine Mt.of (l0 := [some (vr 0), some (vi i1), some (vi i2)]) (by decide) (Nat.le_of_ble_eq_true rfl) rfl ?_
  intro κ δ ρ0 X9 E hG
  replace X9 : CX κ δ RX9 cX9_would 3 (some .int) := X9
  refine a_aload_n (pc := 0) X9 dX9_would_0 rfl rfl ?_
  refine a_iload_n (pc := 1) X9 dX9_would_1 rfl rfl ?_
  refine a_callV (pc := 2) X9 E (m_X9_needService hi1 hnn h) okX9 (is9 hnn) wM_X9_216 w_instanceMethod_X9_needService w_selects_X9_needService w_initialized_RX9 w_code_X9_needService cp_X9_needService pn_X9_needService rfl (Nat.le_of_ble_eq_true rfl) ⟨Nat.le_of_ble_eq_true rfl, Nat.le_of_ble_eq_true rfl⟩ ⟨Nat.le_of_ble_eq_true rfl, Nat.le_of_ble_eq_true rfl⟩ dX9_would_2 (fun _ _ q => False.elim q) (kVp (fun h => ?_))
  refine a_iload_n (pc := 5) X9 dX9_would_5 rfl rfl ?_
  refine a_iconst (pc := 6) X9 dX9_would_6 ?_
  refine a_bipush (pc := 7) X9 dX9_would_7 rfl ?_
  refine a_callS (pc := 9) X9 E (m_X9_within hi2 (show inR 0 by decide) (show inR 6 by decide) hnn h) wM_X9_199 w_static_X9_within w_initialized_RX9 w_code_X9_within cp_X9_within pn_X9_within rfl (Nat.le_of_ble_eq_true rfl) ⟨Nat.le_of_ble_eq_true rfl, Nat.le_of_ble_eq_true rfl⟩ ⟨Nat.le_of_ble_eq_true rfl, Nat.le_of_ble_eq_true rfl⟩ dX9_would_9 (fun _ _ q => False.elim q) (kZp (fun r_2 hr_2 h => ?_))
  refine a_callS (pc := 12) X9 E (m_X9_needArgument (bool_inR hr_2) hnn h) wM_X9_228 w_static_X9_needArgument w_initialized_RX9 w_code_X9_needArgument cp_X9_needArgument pn_X9_needArgument rfl (Nat.le_of_ble_eq_true rfl) ⟨Nat.le_of_ble_eq_true rfl, Nat.le_of_ble_eq_true rfl⟩ ⟨Nat.le_of_ble_eq_true rfl, Nat.le_of_ble_eq_true rfl⟩ dX9_would_12 (fun _ _ q => False.elim q) (kVp (fun h => ?_))
  refine a_aload_n (pc := 15) X9 dX9_would_15 rfl rfl ?_
  refine a_getR (pc := 16) X9 (q := 208) okX9 6 rfl wF_X9_44 (is9 hnn) rf9_6 dX9_would_16 ?_
  refine a_aload_n (pc := 19) X9 dX9_would_19 rfl rfl ?_
  refine a_getR (pc := 20) X9 (q := 1) okX9 0 rfl wF_X9_12 (is9 hnn) rf9_0 dX9_would_20 ?_
  refine a_iload_n (pc := 23) X9 dX9_would_23 rfl rfl ?_
  refine a_iconst (pc := 24) X9 dX9_would_24 ?_
  refine a_aload_n (pc := 25) X9 dX9_would_25 rfl rfl ?_
  refine a_getR (pc := 26) X9 (q := 218) okX9 7 rfl wF_X9_51 (is9 hnn) rf9_7 dX9_would_26 ?_
  refine a_callV (pc := 29) X9 E (m_X4_chooseRows su9_0 hi1 (show inR (-1) by decide) su9_7 hnn h) okX4 (is4 hnn) wM_X9_260 w_instanceMethod_X4_chooseRows w_selects_X4_chooseRows w_initialized_RX4 w_code_X4_chooseRows cp_X4_chooseRows pn_X4_chooseRows rfl (Nat.le_of_ble_eq_true rfl) ⟨Nat.le_of_ble_eq_true rfl, Nat.le_of_ble_eq_true rfl⟩ ⟨Nat.le_of_ble_eq_true rfl, Nat.le_of_ble_eq_true rfl⟩ dX9_would_29 (fun _ _ q => False.elim q) (kV (fun G_1 h hG_1 => ?_))
  refine a_iload_n (pc := 32) X9 dX9_would_32 rfl rfl ?_
  refine a_iconst (pc := 33) X9 dX9_would_33 ?_
  refine joinM1 (A := fun G_3 => GR G_3 → AW κ δ ρ0 (szF nn) 3 0 0 55 [some (vr 0), some (vi i1), some (vi i2)] [] (SF nn) G_3) (fun G_3 h hG_3 => ?_) (fun j_1 hj_1 h => ?_) h
  · refine a_iload_n (pc := 55) X9 dX9_would_55 rfl rfl ?_
    have c_2 : (i2 < 0 ∨ 5 < i2) ∨ i2 = 0 ∨ i2 = 1 ∨ i2 = 2 ∨ i2 = 3 ∨ i2 = 4 ∨ i2 = 5 := by omega
    rcases c_2 with c_2 | c_2 | c_2 | c_2 | c_2 | c_2 | c_2
    · refine a_tableOut (pc := 56) (tgt := 151) X9 dX9_would_56 hi2 c_2 rfl ?_
      have h := h.1 c_2
      refine a_aload_n (pc := 151) X9 dX9_would_151 rfl rfl ?_
      refine a_getR (pc := 152) X9 (q := 218) okX9 7 rfl wF_X9_51 (is9 hnn) rf9_7 dX9_would_152 ?_
      refine a_callV (pc := 155) X9 E (m_X0_countBorrowed su9_7 hnn h) okX0 (is0 su9_7 hnn) wM_X9_280 w_instanceMethod_X0_countBorrowed w_selects_X0_countBorrowed w_initialized_RX0 w_code_X0_countBorrowed cp_X0_countBorrowed pn_X0_countBorrowed rfl (Nat.le_of_ble_eq_true rfl) ⟨Nat.le_of_ble_eq_true rfl, Nat.le_of_ble_eq_true rfl⟩ ⟨Nat.le_of_ble_eq_true rfl, Nat.le_of_ble_eq_true rfl⟩ dX9_would_155 (fun _ _ q => False.elim q) (kIp (fun r_6 hr_6 h => ?_))
      exact a_ireturn (pc := 158) X9 E rfl rfl (Nat.le_of_ble_eq_true rfl) (Nat.le_of_ble_eq_true rfl) dX9_would_158 ⟨rfl, _, rfl, hr_6, h⟩
    · refine a_tableIn (pc := 56) (tgt := 96) X9 dX9_would_56 hi2 (by omega) (by omega) (by rw [c_2]; rfl) rfl ?_
      have h := h.2.1 c_2
      refine a_aload_n (pc := 96) X9 dX9_would_96 rfl rfl ?_
      refine a_getR (pc := 97) X9 (q := 208) okX9 6 rfl wF_X9_44 (is9 hnn) rf9_6 dX9_would_97 ?_
      refine a_getI (pc := 100) X9 okX4 1 rfl wF_X9_268 (is4 hnn) dX9_would_100 ?_
      exact a_ireturn (pc := 103) X9 E rfl rfl (Nat.le_of_ble_eq_true rfl) (Nat.le_of_ble_eq_true rfl) dX9_would_103 ⟨rfl, _, rfl, (hG_3 _ _), h⟩
    · refine a_tableIn (pc := 56) (tgt := 104) X9 dX9_would_56 hi2 (by omega) (by omega) (by rw [c_2]; rfl) rfl ?_
      have h := h.2.2.1 c_2
      refine a_aload_n (pc := 104) X9 dX9_would_104 rfl rfl ?_
      refine a_getR (pc := 105) X9 (q := 208) okX9 6 rfl wF_X9_44 (is9 hnn) rf9_6 dX9_would_105 ?_
      refine a_getI (pc := 108) X9 okX4 2 rfl wF_X9_269 (is4 hnn) dX9_would_108 ?_
      exact a_ireturn (pc := 111) X9 E rfl rfl (Nat.le_of_ble_eq_true rfl) (Nat.le_of_ble_eq_true rfl) dX9_would_111 ⟨rfl, _, rfl, (hG_3 _ _), h⟩
    · refine a_tableIn (pc := 56) (tgt := 112) X9 dX9_would_56 hi2 (by omega) (by omega) (by rw [c_2]; rfl) rfl ?_
      have h := h.2.2.2.1 c_2
      refine a_aload_n (pc := 112) X9 dX9_would_112 rfl rfl ?_
      refine a_getR (pc := 113) X9 (q := 1) okX9 0 rfl wF_X9_12 (is9 hnn) rf9_0 dX9_would_113 ?_
      refine a_getR (pc := 116) X9 (q := 15) okX7 5 rfl wF_X9_138 (is7 su9_0 hnn) (rf7_5 _ su9_0) dX9_would_116 ?_
      refine a_aload_n (pc := 119) X9 dX9_would_119 rfl rfl ?_
      refine a_getR (pc := 120) X9 (q := 218) okX9 7 rfl wF_X9_51 (is9 hnn) rf9_7 dX9_would_120 ?_
      refine a_callV (pc := 123) X9 E (m_X0_workTo (su7_5 _ su9_0) su9_7 hnn h) okX0 (is0 (su7_5 _ su9_0) hnn) wM_X9_270 w_instanceMethod_X0_workTo w_selects_X0_workTo w_initialized_RX0 w_code_X0_workTo cp_X0_workTo pn_X0_workTo rfl (Nat.le_of_ble_eq_true rfl) ⟨Nat.le_of_ble_eq_true rfl, Nat.le_of_ble_eq_true rfl⟩ ⟨Nat.le_of_ble_eq_true rfl, Nat.le_of_ble_eq_true rfl⟩ dX9_would_123 (fun _ _ q => False.elim q) (kIp (fun r_7 hr_7 h => ?_))
      exact a_ireturn (pc := 126) X9 E rfl rfl (Nat.le_of_ble_eq_true rfl) (Nat.le_of_ble_eq_true rfl) dX9_would_126 ⟨rfl, _, rfl, hr_7, h⟩
    · refine a_tableIn (pc := 56) (tgt := 127) X9 dX9_would_56 hi2 (by omega) (by omega) (by rw [c_2]; rfl) rfl ?_
      have h := h.2.2.2.2.1 c_2
      refine a_aload_n (pc := 127) X9 dX9_would_127 rfl rfl ?_
      refine a_getR (pc := 128) X9 (q := 218) okX9 7 rfl wF_X9_51 (is9 hnn) rf9_7 dX9_would_128 ?_
      refine a_callV (pc := 131) X9 E (m_X0_countCards su9_7 hnn h) okX0 (is0 su9_7 hnn) wM_X9_144 w_instanceMethod_X0_countCards w_selects_X0_countCards w_initialized_RX0 w_code_X0_countCards cp_X0_countCards pn_X0_countCards rfl (Nat.le_of_ble_eq_true rfl) ⟨Nat.le_of_ble_eq_true rfl, Nat.le_of_ble_eq_true rfl⟩ ⟨Nat.le_of_ble_eq_true rfl, Nat.le_of_ble_eq_true rfl⟩ dX9_would_131 (fun _ _ q => False.elim q) (kIp (fun r_8 hr_8 h => ?_))
      exact a_ireturn (pc := 134) X9 E rfl rfl (Nat.le_of_ble_eq_true rfl) (Nat.le_of_ble_eq_true rfl) dX9_would_134 ⟨rfl, _, rfl, hr_8, h⟩
    · refine a_tableIn (pc := 56) (tgt := 135) X9 dX9_would_56 hi2 (by omega) (by omega) (by rw [c_2]; rfl) rfl ?_
      have h := h.2.2.2.2.2.1 c_2
      refine a_aload_n (pc := 135) X9 dX9_would_135 rfl rfl ?_
      refine a_getR (pc := 136) X9 (q := 218) okX9 7 rfl wF_X9_51 (is9 hnn) rf9_7 dX9_would_136 ?_
      refine a_callV (pc := 139) X9 E (m_X0_countTurned su9_7 hnn h) okX0 (is0 su9_7 hnn) wM_X9_274 w_instanceMethod_X0_countTurned w_selects_X0_countTurned w_initialized_RX0 w_code_X0_countTurned cp_X0_countTurned pn_X0_countTurned rfl (Nat.le_of_ble_eq_true rfl) ⟨Nat.le_of_ble_eq_true rfl, Nat.le_of_ble_eq_true rfl⟩ ⟨Nat.le_of_ble_eq_true rfl, Nat.le_of_ble_eq_true rfl⟩ dX9_would_139 (fun _ _ q => False.elim q) (kIp (fun r_9 hr_9 h => ?_))
      exact a_ireturn (pc := 142) X9 E rfl rfl (Nat.le_of_ble_eq_true rfl) (Nat.le_of_ble_eq_true rfl) dX9_would_142 ⟨rfl, _, rfl, hr_9, h⟩
    · refine a_tableIn (pc := 56) (tgt := 143) X9 dX9_would_56 hi2 (by omega) (by omega) (by rw [c_2]; rfl) rfl ?_
      have h := h.2.2.2.2.2.2 c_2
      refine a_aload_n (pc := 143) X9 dX9_would_143 rfl rfl ?_
      refine a_getR (pc := 144) X9 (q := 218) okX9 7 rfl wF_X9_51 (is9 hnn) rf9_7 dX9_would_144 ?_
      refine a_callV (pc := 147) X9 E (m_X0_countBacks su9_7 hnn h) okX0 (is0 su9_7 hnn) wM_X9_277 w_instanceMethod_X0_countBacks w_selects_X0_countBacks w_initialized_RX0 w_code_X0_countBacks cp_X0_countBacks pn_X0_countBacks rfl (Nat.le_of_ble_eq_true rfl) ⟨Nat.le_of_ble_eq_true rfl, Nat.le_of_ble_eq_true rfl⟩ ⟨Nat.le_of_ble_eq_true rfl, Nat.le_of_ble_eq_true rfl⟩ dX9_would_147 (fun _ _ q => False.elim q) (kIp (fun r_10 hr_10 h => ?_))
      exact a_ireturn (pc := 150) X9 E rfl rfl (Nat.le_of_ble_eq_true rfl) (Nat.le_of_ble_eq_true rfl) dX9_would_150 ⟨rfl, _, rfl, hr_10, h⟩
  · refine a_icmp_lt (pc := 34) (tgt := 55) X9 dX9_would_34 rfl hi2 (by decide) (fun c => ?_) (fun c => ?_)
    · have c_3 := c
      have h := h.1 c_3
      exact hj_1 _ h hG_1
    · have c_3 := c
      have h := h.2 c_3
      refine a_aload_n (pc := 37) X9 dX9_would_37 rfl rfl ?_
      refine a_getR (pc := 38) X9 (q := 208) okX9 6 rfl wF_X9_44 (is9 hnn) rf9_6 dX9_would_38 ?_
      refine a_aload_n (pc := 41) X9 dX9_would_41 rfl rfl ?_
      refine a_getR (pc := 42) X9 (q := 1) okX9 0 rfl wF_X9_12 (is9 hnn) rf9_0 dX9_would_42 ?_
      refine a_getR (pc := 45) X9 (q := 3) okX7 3 rfl wF_X9_116 (is7 su9_0 hnn) (rf7_3 _ su9_0) dX9_would_45 ?_
      refine a_aload_n (pc := 48) X9 dX9_would_48 rfl rfl ?_
      refine a_getR (pc := 49) X9 (q := 218) okX9 7 rfl wF_X9_51 (is9 hnn) rf9_7 dX9_would_49 ?_
      refine a_callV (pc := 52) X9 E (m_X4_chooseCards (su7_3 _ su9_0) su9_7 hnn h) okX4 (is4 hnn) wM_X9_264 w_instanceMethod_X4_chooseCards w_selects_X4_chooseCards w_initialized_RX4 w_code_X4_chooseCards cp_X4_chooseCards pn_X4_chooseCards rfl (Nat.le_of_ble_eq_true rfl) ⟨Nat.le_of_ble_eq_true rfl, Nat.le_of_ble_eq_true rfl⟩ ⟨Nat.le_of_ble_eq_true rfl, Nat.le_of_ble_eq_true rfl⟩ dX9_would_52 (fun _ _ q => False.elim q) (kV (fun G_4 h hG_4 => ?_))
      exact hj_1 _ h hG_4

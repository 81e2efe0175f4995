-- ===== the walks of the wrappers and of the arms; written by wip/whole/genlaw.py =====
set_option maxHeartbeats 4000000 in
set_option maxRecDepth 100000 in
theorem m_L_addCard {nn : Nat} {i1 : Int} {i2 : Int} {i3 : Int} {G : GH} {Q : Int → GH → Prop} (hi1 : inR i1) (hi2 : inR i2) (hi3 : inR i3) (hnn : 286 ≤ nn) (h : f_L_addCard i1 i2 i3 G Q) : MtH yL_addCard cL_addCard 6 (some .int) [(0, 12, 15, 13)] 9 145 3 18 [vr 0, vi i1, vi i2, vi i3, vr 285] (SF nn) G (fun v S' G' => S' = SF nn ∧ qI Q v S' G') := by
  refine MtH.of (l0 := [some (vr 0), some (vi i1), some (vi i2), some (vi i3), some (vr 285), none]) (by decide) (Nat.le_of_ble_eq_true rfl) rfl ?_
  intro κ δ ρ0 X9 E hG
  replace X9 : CX κ δ RL cL_addCard 6 (some .int) := X9
  have hnn0 : 272 ≤ nn := by omega
  refine a_aload (pc := 0) X9 dL_addCard_0 rfl ?_
  refine a_iconst (pc := 2) X9 dL_addCard_2 ?_
  refine a_aload_n (pc := 3) X9 dL_addCard_3 rfl rfl ?_
  refine a_iload_n (pc := 4) X9 dL_addCard_4 rfl rfl ?_
  refine a_iload_n (pc := 5) X9 dL_addCard_5 rfl rfl ?_
  refine a_iload_n (pc := 6) X9 dL_addCard_6 rfl rfl ?_
  refine a_callVH (pc := 7) X9 E (m_X9_addCard hi1 hi2 hi3 hnn0 h) okX9 (is9 hnn0) wM_L_90 w_instanceMethod_X9_addCard w_selects_X9_addCard w_initialized_RX9 w_code_X9_addCard cp_X9_addCard pn_X9_addCard rfl (Nat.le_of_ble_eq_true rfl) ⟨Nat.le_of_ble_eq_true rfl, Nat.le_of_ble_eq_true rfl⟩ ⟨Nat.le_of_ble_eq_true rfl, Nat.le_of_ble_eq_true rfl⟩ dL_addCard_7 (fun E9 G9 h hG9 => ?_) (kI (fun r_1 G_1 hr_1 h hG_1 => ?_))
  · obtain ⟨rfl, h⟩ := h
    refine ⟨[], ⟨0, 12, 15, 13⟩, [], 5, 2, rfl, by decide, Or.inl ⟨rfl, dL_addCard_15⟩, Nat.le_of_ble_eq_true rfl, rfl, Or.inr ⟨rfl, rfl, by decide⟩, ?_⟩
    refine a_iconst (pc := 17) X9 dL_addCard_17 ?_
    exact a_ireturnH (pc := 18) X9 E rfl rfl (Nat.le_of_ble_eq_true rfl) (Nat.le_of_ble_eq_true rfl) dL_addCard_18 ⟨rfl, _, rfl, (show inR 1 by decide), h⟩
  · refine a_i2l (pc := 10) X9 dL_addCard_10 hr_1 ?_
    refine a_last (pc := 11) X9 (v := r_1) (atO hnn) (Nat.le_of_ble_eq_true rfl) (j := 0) rfl (Nat.le_of_ble_eq_true rfl) hr_1 dL_addCard_11 (fun _ => ?_)
    obtain ⟨G_2, eG_2⟩ : ∃ G9, G9 = upG G_1 285 0 r_1 := ⟨_, rfl⟩
    have hG_2 : GR G_2 := by rw [eG_2]; exact (GR.up hG_1 hr_1)
    have h := h G_2 eG_2
    rw [← eG_2]
    refine a_goto (pc := 12) (tgt := 19) X9 dL_addCard_12 rfl ?_
    refine a_iconst (pc := 19) X9 dL_addCard_19 ?_
    exact a_ireturnH (pc := 20) X9 E rfl rfl (Nat.le_of_ble_eq_true rfl) (Nat.le_of_ble_eq_true rfl) dL_addCard_20 ⟨rfl, _, rfl, (show inR 0 by decide), h⟩
set_option maxHeartbeats 4000000 in
set_option maxRecDepth 100000 in
theorem m_L_addHymn {nn : Nat} {i1 : Int} {i2 : Int} {G : GH} {Q : Int → GH → Prop} (hi1 : inR i1) (hi2 : inR i2) (hnn : 286 ≤ nn) (h : f_L_addHymn i1 i2 G Q) : MtH yL_addHymn cL_addHymn 5 (some .int) [(0, 10, 13, 19), (0, 10, 17, 13)] 9 145 2 12 [vr 0, vi i1, vi i2, vr 285] (SF nn) G (fun v S' G' => S' = SF nn ∧ qI Q v S' G') := by
  refine MtH.of (l0 := [some (vr 0), some (vi i1), some (vi i2), some (vr 285), none]) (by decide) (Nat.le_of_ble_eq_true rfl) rfl ?_
  intro κ δ ρ0 X9 E hG
  replace X9 : CX κ δ RL cL_addHymn 5 (some .int) := X9
  have hnn0 : 272 ≤ nn := by omega
  refine a_aload_n (pc := 0) X9 dL_addHymn_0 rfl rfl ?_
  refine a_iconst (pc := 1) X9 dL_addHymn_1 ?_
  refine a_aload_n (pc := 2) X9 dL_addHymn_2 rfl rfl ?_
  refine a_iload_n (pc := 3) X9 dL_addHymn_3 rfl rfl ?_
  refine a_iload_n (pc := 4) X9 dL_addHymn_4 rfl rfl ?_
  refine a_callVH (pc := 5) X9 E (m_X9_addHymn hi1 hi2 hnn0 h) okX9 (is9 hnn0) wM_L_96 w_instanceMethod_X9_addHymn w_selects_X9_addHymn w_initialized_RX9 w_code_X9_addHymn cp_X9_addHymn pn_X9_addHymn rfl (Nat.le_of_ble_eq_true rfl) ⟨Nat.le_of_ble_eq_true rfl, Nat.le_of_ble_eq_true rfl⟩ ⟨Nat.le_of_ble_eq_true rfl, Nat.le_of_ble_eq_true rfl⟩ dL_addHymn_5 (fun E9 G9 h hG9 => ?_) (kI (fun r_1 G_1 hr_1 h hG_1 => ?_))
  · rcases h with ⟨rfl, h⟩ | ⟨rfl, h⟩
    · refine ⟨[], ⟨0, 10, 13, 19⟩, [⟨0, 10, 17, 13⟩], 4, 2, rfl, by decide, Or.inl ⟨rfl, dL_addHymn_13⟩, Nat.le_of_ble_eq_true rfl, rfl, Or.inl ⟨rfl, rfl, rfl⟩, ?_⟩
      refine a_iconst (pc := 15) X9 dL_addHymn_15 ?_
      exact a_ireturnH (pc := 16) X9 E rfl rfl (Nat.le_of_ble_eq_true rfl) (Nat.le_of_ble_eq_true rfl) dL_addHymn_16 ⟨rfl, _, rfl, (show inR 1 by decide), h⟩
    · refine ⟨[⟨0, 10, 13, 19⟩], ⟨0, 10, 17, 13⟩, [], 4, 2, rfl, by decide, Or.inl ⟨rfl, dL_addHymn_17⟩, Nat.le_of_ble_eq_true rfl, rfl, Or.inr ⟨rfl, rfl, by decide⟩, ?_⟩
      refine a_iconst (pc := 19) X9 dL_addHymn_19 ?_
      exact a_ireturnH (pc := 20) X9 E rfl rfl (Nat.le_of_ble_eq_true rfl) (Nat.le_of_ble_eq_true rfl) dL_addHymn_20 ⟨rfl, _, rfl, (show inR 2 by decide), h⟩
  · refine a_i2l (pc := 8) X9 dL_addHymn_8 hr_1 ?_
    refine a_last (pc := 9) X9 (v := r_1) (atO hnn) (Nat.le_of_ble_eq_true rfl) (j := 0) rfl (Nat.le_of_ble_eq_true rfl) hr_1 dL_addHymn_9 (fun _ => ?_)
    obtain ⟨G_2, eG_2⟩ : ∃ G9, G9 = upG G_1 285 0 r_1 := ⟨_, rfl⟩
    have hG_2 : GR G_2 := by rw [eG_2]; exact (GR.up hG_1 hr_1)
    have h := h G_2 eG_2
    rw [← eG_2]
    refine a_goto (pc := 10) (tgt := 21) X9 dL_addHymn_10 rfl ?_
    refine a_iconst (pc := 21) X9 dL_addHymn_21 ?_
    exact a_ireturnH (pc := 22) X9 E rfl rfl (Nat.le_of_ble_eq_true rfl) (Nat.le_of_ble_eq_true rfl) dL_addHymn_22 ⟨rfl, _, rfl, (show inR 0 by decide), h⟩
set_option maxHeartbeats 4000000 in
set_option maxRecDepth 100000 in
theorem m_L_addService {nn : Nat} {i1 : Int} {G : GH} {Q : Int → GH → Prop} (hi1 : inR i1) (hnn : 286 ≤ nn) (h : f_L_addService i1 G Q) : MtH yL_addService cL_addService 4 (some .int) [(0, 9, 12, 13)] 9 144 1 6 [vr 0, vi i1, vr 285] (SF nn) G (fun v S' G' => S' = SF nn ∧ qI Q v S' G') := by
  refine MtH.of (l0 := [some (vr 0), some (vi i1), some (vr 285), none]) (by decide) (Nat.le_of_ble_eq_true rfl) rfl ?_
  intro κ δ ρ0 X9 E hG
  replace X9 : CX κ δ RL cL_addService 4 (some .int) := X9
  have hnn0 : 272 ≤ nn := by omega
  refine a_aload_n (pc := 0) X9 dL_addService_0 rfl rfl ?_
  refine a_iconst (pc := 1) X9 dL_addService_1 ?_
  refine a_aload_n (pc := 2) X9 dL_addService_2 rfl rfl ?_
  refine a_iload_n (pc := 3) X9 dL_addService_3 rfl rfl ?_
  refine a_callVH (pc := 4) X9 E (m_X9_addService hi1 hnn0 h) okX9 (is9 hnn0) wM_L_99 w_instanceMethod_X9_addService w_selects_X9_addService w_initialized_RX9 w_code_X9_addService cp_X9_addService pn_X9_addService rfl (Nat.le_of_ble_eq_true rfl) ⟨Nat.le_of_ble_eq_true rfl, Nat.le_of_ble_eq_true rfl⟩ ⟨Nat.le_of_ble_eq_true rfl, Nat.le_of_ble_eq_true rfl⟩ dL_addService_4 (fun E9 G9 h hG9 => ?_) (kI (fun r_1 G_1 hr_1 h hG_1 => ?_))
  · obtain ⟨rfl, h⟩ := h
    refine ⟨[], ⟨0, 9, 12, 13⟩, [], 3, 1, rfl, by decide, Or.inr ⟨3, rfl, rfl, dL_addService_12⟩, Nat.le_of_ble_eq_true rfl, rfl, Or.inr ⟨rfl, rfl, by decide⟩, ?_⟩
    refine a_iconst (pc := 13) X9 dL_addService_13 ?_
    exact a_ireturnH (pc := 14) X9 E rfl rfl (Nat.le_of_ble_eq_true rfl) (Nat.le_of_ble_eq_true rfl) dL_addService_14 ⟨rfl, _, rfl, (show inR 1 by decide), h⟩
  · refine a_i2l (pc := 7) X9 dL_addService_7 hr_1 ?_
    refine a_last (pc := 8) X9 (v := r_1) (atO hnn) (Nat.le_of_ble_eq_true rfl) (j := 0) rfl (Nat.le_of_ble_eq_true rfl) hr_1 dL_addService_8 (fun _ => ?_)
    obtain ⟨G_2, eG_2⟩ : ∃ G9, G9 = upG G_1 285 0 r_1 := ⟨_, rfl⟩
    have hG_2 : GR G_2 := by rw [eG_2]; exact (GR.up hG_1 hr_1)
    have h := h G_2 eG_2
    rw [← eG_2]
    refine a_goto (pc := 9) (tgt := 15) X9 dL_addService_9 rfl ?_
    refine a_iconst (pc := 15) X9 dL_addService_15 ?_
    exact a_ireturnH (pc := 16) X9 E rfl rfl (Nat.le_of_ble_eq_true rfl) (Nat.le_of_ble_eq_true rfl) dL_addService_16 ⟨rfl, _, rfl, (show inR 0 by decide), h⟩
set_option maxHeartbeats 4000000 in
set_option maxRecDepth 100000 in
theorem m_L_bestBuy {nn : Nat} {i1 : Int} {G : GH} {Q : Int → GH → Prop} (hi1 : inR i1) (hnn : 286 ≤ nn) (h : f_L_bestBuy i1 G Q) : MtH yL_bestBuy cL_bestBuy 4 (some .int) [(0, 9, 12, 19)] 9 173 1 6 [vr 0, vi i1, vr 285] (SF nn) G (fun v S' G' => S' = SF nn ∧ qI Q v S' G') := by
  refine MtH.of (l0 := [some (vr 0), some (vi i1), some (vr 285), none]) (by decide) (Nat.le_of_ble_eq_true rfl) rfl ?_
  intro κ δ ρ0 X9 E hG
  replace X9 : CX κ δ RL cL_bestBuy 4 (some .int) := X9
  have hnn0 : 272 ≤ nn := by omega
  refine a_aload_n (pc := 0) X9 dL_bestBuy_0 rfl rfl ?_
  refine a_iconst (pc := 1) X9 dL_bestBuy_1 ?_
  refine a_aload_n (pc := 2) X9 dL_bestBuy_2 rfl rfl ?_
  refine a_iload_n (pc := 3) X9 dL_bestBuy_3 rfl rfl ?_
  refine a_callVH (pc := 4) X9 E (m_X9_bestBuy hi1 hnn0 h) okX9 (is9 hnn0) wM_L_65 w_instanceMethod_X9_bestBuy w_selects_X9_bestBuy w_initialized_RX9 w_code_X9_bestBuy cp_X9_bestBuy pn_X9_bestBuy rfl (Nat.le_of_ble_eq_true rfl) ⟨Nat.le_of_ble_eq_true rfl, Nat.le_of_ble_eq_true rfl⟩ ⟨Nat.le_of_ble_eq_true rfl, Nat.le_of_ble_eq_true rfl⟩ dL_bestBuy_4 (fun E9 G9 h hG9 => ?_) (kI (fun r_1 G_1 hr_1 h hG_1 => ?_))
  · obtain ⟨rfl, h⟩ := h
    refine ⟨[], ⟨0, 9, 12, 19⟩, [], 3, 1, rfl, by decide, Or.inr ⟨3, rfl, rfl, dL_bestBuy_12⟩, Nat.le_of_ble_eq_true rfl, rfl, Or.inl ⟨rfl, rfl, rfl⟩, ?_⟩
    refine a_iconst (pc := 13) X9 dL_bestBuy_13 ?_
    exact a_ireturnH (pc := 14) X9 E rfl rfl (Nat.le_of_ble_eq_true rfl) (Nat.le_of_ble_eq_true rfl) dL_bestBuy_14 ⟨rfl, _, rfl, (show inR 1 by decide), h⟩
  · refine a_i2l (pc := 7) X9 dL_bestBuy_7 hr_1 ?_
    refine a_last (pc := 8) X9 (v := r_1) (atO hnn) (Nat.le_of_ble_eq_true rfl) (j := 0) rfl (Nat.le_of_ble_eq_true rfl) hr_1 dL_bestBuy_8 (fun _ => ?_)
    obtain ⟨G_2, eG_2⟩ : ∃ G9, G9 = upG G_1 285 0 r_1 := ⟨_, rfl⟩
    have hG_2 : GR G_2 := by rw [eG_2]; exact (GR.up hG_1 hr_1)
    have h := h G_2 eG_2
    rw [← eG_2]
    refine a_goto (pc := 9) (tgt := 15) X9 dL_bestBuy_9 rfl ?_
    refine a_iconst (pc := 15) X9 dL_bestBuy_15 ?_
    exact a_ireturnH (pc := 16) X9 E rfl rfl (Nat.le_of_ble_eq_true rfl) (Nat.le_of_ble_eq_true rfl) dL_bestBuy_16 ⟨rfl, _, rfl, (show inR 0 by decide), h⟩
set_option maxHeartbeats 4000000 in
set_option maxRecDepth 100000 in
theorem m_L_borrow {nn : Nat} {i1 : Int} {i2 : Int} {i3 : Int} {G : GH} {Q : Int → GH → Prop} (hi1 : inR i1) (hi2 : inR i2) (hi3 : inR i3) (hnn : 286 ≤ nn) (h : f_L_borrow i1 i2 i3 G Q) : MtH yL_borrow cL_borrow 6 (some .int) [(0, 12, 15, 19), (0, 12, 19, 13)] 9 147 3 18 [vr 0, vi i1, vi i2, vi i3, vr 285] (SF nn) G (fun v S' G' => S' = SF nn ∧ qI Q v S' G') := by
  refine MtH.of (l0 := [some (vr 0), some (vi i1), some (vi i2), some (vi i3), some (vr 285), none]) (by decide) (Nat.le_of_ble_eq_true rfl) rfl ?_
  intro κ δ ρ0 X9 E hG
  replace X9 : CX κ δ RL cL_borrow 6 (some .int) := X9
  have hnn0 : 272 ≤ nn := by omega
  refine a_aload (pc := 0) X9 dL_borrow_0 rfl ?_
  refine a_iconst (pc := 2) X9 dL_borrow_2 ?_
  refine a_aload_n (pc := 3) X9 dL_borrow_3 rfl rfl ?_
  refine a_iload_n (pc := 4) X9 dL_borrow_4 rfl rfl ?_
  refine a_iload_n (pc := 5) X9 dL_borrow_5 rfl rfl ?_
  refine a_iload_n (pc := 6) X9 dL_borrow_6 rfl rfl ?_
  refine a_callVH (pc := 7) X9 E (m_X9_borrow hi1 hi2 hi3 hnn0 h) okX9 (is9 hnn0) wM_L_77 w_instanceMethod_X9_borrow w_selects_X9_borrow w_initialized_RX9 w_code_X9_borrow cp_X9_borrow pn_X9_borrow rfl (Nat.le_of_ble_eq_true rfl) ⟨Nat.le_of_ble_eq_true rfl, Nat.le_of_ble_eq_true rfl⟩ ⟨Nat.le_of_ble_eq_true rfl, Nat.le_of_ble_eq_true rfl⟩ dL_borrow_7 (fun E9 G9 h hG9 => ?_) (kI (fun r_1 G_1 hr_1 h hG_1 => ?_))
  · rcases h with ⟨rfl, h⟩ | ⟨rfl, h⟩
    · refine ⟨[], ⟨0, 12, 15, 19⟩, [⟨0, 12, 19, 13⟩], 5, 2, rfl, by decide, Or.inl ⟨rfl, dL_borrow_15⟩, Nat.le_of_ble_eq_true rfl, rfl, Or.inl ⟨rfl, rfl, rfl⟩, ?_⟩
      refine a_iconst (pc := 17) X9 dL_borrow_17 ?_
      exact a_ireturnH (pc := 18) X9 E rfl rfl (Nat.le_of_ble_eq_true rfl) (Nat.le_of_ble_eq_true rfl) dL_borrow_18 ⟨rfl, _, rfl, (show inR 1 by decide), h⟩
    · refine ⟨[⟨0, 12, 15, 19⟩], ⟨0, 12, 19, 13⟩, [], 5, 2, rfl, by decide, Or.inl ⟨rfl, dL_borrow_19⟩, Nat.le_of_ble_eq_true rfl, rfl, Or.inr ⟨rfl, rfl, by decide⟩, ?_⟩
      refine a_iconst (pc := 21) X9 dL_borrow_21 ?_
      exact a_ireturnH (pc := 22) X9 E rfl rfl (Nat.le_of_ble_eq_true rfl) (Nat.le_of_ble_eq_true rfl) dL_borrow_22 ⟨rfl, _, rfl, (show inR 2 by decide), h⟩
  · refine a_i2l (pc := 10) X9 dL_borrow_10 hr_1 ?_
    refine a_last (pc := 11) X9 (v := r_1) (atO hnn) (Nat.le_of_ble_eq_true rfl) (j := 0) rfl (Nat.le_of_ble_eq_true rfl) hr_1 dL_borrow_11 (fun _ => ?_)
    obtain ⟨G_2, eG_2⟩ : ∃ G9, G9 = upG G_1 285 0 r_1 := ⟨_, rfl⟩
    have hG_2 : GR G_2 := by rw [eG_2]; exact (GR.up hG_1 hr_1)
    have h := h G_2 eG_2
    rw [← eG_2]
    refine a_goto (pc := 12) (tgt := 23) X9 dL_borrow_12 rfl ?_
    refine a_iconst (pc := 23) X9 dL_borrow_23 ?_
    exact a_ireturnH (pc := 24) X9 E rfl rfl (Nat.le_of_ble_eq_true rfl) (Nat.le_of_ble_eq_true rfl) dL_borrow_24 ⟨rfl, _, rfl, (show inR 0 by decide), h⟩
set_option maxHeartbeats 4000000 in
set_option maxRecDepth 100000 in
theorem m_L_buy {nn : Nat} {i1 : Int} {i2 : Int} {G : GH} {Q : Int → GH → Prop} (hi1 : inR i1) (hi2 : inR i2) (hnn : 286 ≤ nn) (h : f_L_buy i1 i2 G Q) : MtH yL_buy cL_buy 5 (some .int) [(0, 10, 13, 19), (0, 10, 17, 13)] 9 145 2 12 [vr 0, vi i1, vi i2, vr 285] (SF nn) G (fun v S' G' => S' = SF nn ∧ qI Q v S' G') := by
  refine MtH.of (l0 := [some (vr 0), some (vi i1), some (vi i2), some (vr 285), none]) (by decide) (Nat.le_of_ble_eq_true rfl) rfl ?_
  intro κ δ ρ0 X9 E hG
  replace X9 : CX κ δ RL cL_buy 5 (some .int) := X9
  have hnn0 : 272 ≤ nn := by omega
  refine a_aload_n (pc := 0) X9 dL_buy_0 rfl rfl ?_
  refine a_iconst (pc := 1) X9 dL_buy_1 ?_
  refine a_aload_n (pc := 2) X9 dL_buy_2 rfl rfl ?_
  refine a_iload_n (pc := 3) X9 dL_buy_3 rfl rfl ?_
  refine a_iload_n (pc := 4) X9 dL_buy_4 rfl rfl ?_
  refine a_callVH (pc := 5) X9 E (m_X9_buy hi1 hi2 hnn0 h) okX9 (is9 hnn0) wM_L_84 w_instanceMethod_X9_buy w_selects_X9_buy w_initialized_RX9 w_code_X9_buy cp_X9_buy pn_X9_buy rfl (Nat.le_of_ble_eq_true rfl) ⟨Nat.le_of_ble_eq_true rfl, Nat.le_of_ble_eq_true rfl⟩ ⟨Nat.le_of_ble_eq_true rfl, Nat.le_of_ble_eq_true rfl⟩ dL_buy_5 (fun E9 G9 h hG9 => ?_) (kI (fun r_1 G_1 hr_1 h hG_1 => ?_))
  · rcases h with ⟨rfl, h⟩ | ⟨rfl, h⟩
    · refine ⟨[], ⟨0, 10, 13, 19⟩, [⟨0, 10, 17, 13⟩], 4, 2, rfl, by decide, Or.inl ⟨rfl, dL_buy_13⟩, Nat.le_of_ble_eq_true rfl, rfl, Or.inl ⟨rfl, rfl, rfl⟩, ?_⟩
      refine a_iconst (pc := 15) X9 dL_buy_15 ?_
      exact a_ireturnH (pc := 16) X9 E rfl rfl (Nat.le_of_ble_eq_true rfl) (Nat.le_of_ble_eq_true rfl) dL_buy_16 ⟨rfl, _, rfl, (show inR 1 by decide), h⟩
    · refine ⟨[⟨0, 10, 13, 19⟩], ⟨0, 10, 17, 13⟩, [], 4, 2, rfl, by decide, Or.inl ⟨rfl, dL_buy_17⟩, Nat.le_of_ble_eq_true rfl, rfl, Or.inr ⟨rfl, rfl, by decide⟩, ?_⟩
      refine a_iconst (pc := 19) X9 dL_buy_19 ?_
      exact a_ireturnH (pc := 20) X9 E rfl rfl (Nat.le_of_ble_eq_true rfl) (Nat.le_of_ble_eq_true rfl) dL_buy_20 ⟨rfl, _, rfl, (show inR 2 by decide), h⟩
  · refine a_i2l (pc := 8) X9 dL_buy_8 hr_1 ?_
    refine a_last (pc := 9) X9 (v := r_1) (atO hnn) (Nat.le_of_ble_eq_true rfl) (j := 0) rfl (Nat.le_of_ble_eq_true rfl) hr_1 dL_buy_9 (fun _ => ?_)
    obtain ⟨G_2, eG_2⟩ : ∃ G9, G9 = upG G_1 285 0 r_1 := ⟨_, rfl⟩
    have hG_2 : GR G_2 := by rw [eG_2]; exact (GR.up hG_1 hr_1)
    have h := h G_2 eG_2
    rw [← eG_2]
    refine a_goto (pc := 10) (tgt := 21) X9 dL_buy_10 rfl ?_
    refine a_iconst (pc := 21) X9 dL_buy_21 ?_
    exact a_ireturnH (pc := 22) X9 E rfl rfl (Nat.le_of_ble_eq_true rfl) (Nat.le_of_ble_eq_true rfl) dL_buy_22 ⟨rfl, _, rfl, (show inR 0 by decide), h⟩
set_option maxHeartbeats 4000000 in
set_option maxRecDepth 100000 in
theorem m_L_canShow {nn : Nat} {i1 : Int} {G : GH} {Q : Int → GH → Prop} (hi1 : inR i1) (hnn : 286 ≤ nn) (h : f_L_canShow i1 G Q) : MtH yL_canShow cL_canShow 4 (some .int) [(0, 16, 19, 13)] 9 143 1 6 [vr 0, vi i1, vr 285] (SF nn) G (fun v S' G' => S' = SF nn ∧ qI Q v S' G') := by
  refine MtH.of (l0 := [some (vr 0), some (vi i1), some (vr 285), none]) (by decide) (Nat.le_of_ble_eq_true rfl) rfl ?_
  intro κ δ ρ0 X9 E hG
  replace X9 : CX κ δ RL cL_canShow 4 (some .int) := X9
  have hnn0 : 272 ≤ nn := by omega
  refine a_aload_n (pc := 0) X9 dL_canShow_0 rfl rfl ?_
  refine a_iconst (pc := 1) X9 dL_canShow_1 ?_
  refine a_aload_n (pc := 2) X9 dL_canShow_2 rfl rfl ?_
  refine a_iload_n (pc := 3) X9 dL_canShow_3 rfl rfl ?_
  refine a_callVH (pc := 4) X9 E (m_X9_canShow hi1 hnn0 h) okX9 (is9 hnn0) wM_L_49 w_instanceMethod_X9_canShow w_selects_X9_canShow w_initialized_RX9 w_code_X9_canShow cp_X9_canShow pn_X9_canShow rfl (Nat.le_of_ble_eq_true rfl) ⟨Nat.le_of_ble_eq_true rfl, Nat.le_of_ble_eq_true rfl⟩ ⟨Nat.le_of_ble_eq_true rfl, Nat.le_of_ble_eq_true rfl⟩ dL_canShow_4 (fun E9 G9 h hG9 => ?_) (kZ (fun r_1 G_1 hr_1 h hG_1 => ?_))
  · obtain ⟨rfl, h⟩ := h
    refine ⟨[], ⟨0, 16, 19, 13⟩, [], 3, 1, rfl, by decide, Or.inr ⟨3, rfl, rfl, dL_canShow_19⟩, Nat.le_of_ble_eq_true rfl, rfl, Or.inr ⟨rfl, rfl, by decide⟩, ?_⟩
    refine a_iconst (pc := 20) X9 dL_canShow_20 ?_
    exact a_ireturnH (pc := 21) X9 E rfl rfl (Nat.le_of_ble_eq_true rfl) (Nat.le_of_ble_eq_true rfl) dL_canShow_21 ⟨rfl, _, rfl, (show inR 1 by decide), h⟩
  · refine a_if_eq (pc := 7) (tgt := 14) X9 dL_canShow_7 rfl (bool_inR hr_1) (fun c => ?_) (fun c => ?_)
    · have c_1 := c
      have h := h.1 c_1
      refine a_lconst (pc := 14) X9 0 dL_canShow_14 rfl ?_
      refine a_last (pc := 15) X9 (v := 0) (atO hnn) (Nat.le_of_ble_eq_true rfl) (j := 0) rfl (Nat.le_of_ble_eq_true rfl) (show inR 0 by decide) dL_canShow_15 (fun _ => ?_)
      obtain ⟨G_2, eG_2⟩ : ∃ G9, G9 = upG G_1 285 0 0 := ⟨_, rfl⟩
      have hG_2 : GR G_2 := by rw [eG_2]; exact (GR.up hG_1 (show inR 0 by decide))
      have h := h G_2 eG_2
      rw [← eG_2]
      refine a_goto (pc := 16) (tgt := 22) X9 dL_canShow_16 rfl ?_
      refine a_iconst (pc := 22) X9 dL_canShow_22 ?_
      exact a_ireturnH (pc := 23) X9 E rfl rfl (Nat.le_of_ble_eq_true rfl) (Nat.le_of_ble_eq_true rfl) dL_canShow_23 ⟨rfl, _, rfl, (show inR 0 by decide), h⟩
    · have c_1 := c
      have h := h.2 c_1
      refine a_lconst (pc := 10) X9 1 dL_canShow_10 rfl ?_
      refine a_goto (pc := 11) (tgt := 15) X9 dL_canShow_11 rfl ?_
      refine a_last (pc := 15) X9 (v := 1) (atO hnn) (Nat.le_of_ble_eq_true rfl) (j := 0) rfl (Nat.le_of_ble_eq_true rfl) (show inR 1 by decide) dL_canShow_15 (fun _ => ?_)
      obtain ⟨G_3, eG_3⟩ : ∃ G9, G9 = upG G_1 285 0 1 := ⟨_, rfl⟩
      have hG_3 : GR G_3 := by rw [eG_3]; exact (GR.up hG_1 (show inR 1 by decide))
      have h := h G_3 eG_3
      rw [← eG_3]
      refine a_goto (pc := 16) (tgt := 22) X9 dL_canShow_16 rfl ?_
      refine a_iconst (pc := 22) X9 dL_canShow_22 ?_
      exact a_ireturnH (pc := 23) X9 E rfl rfl (Nat.le_of_ble_eq_true rfl) (Nat.le_of_ble_eq_true rfl) dL_canShow_23 ⟨rfl, _, rfl, (show inR 0 by decide), h⟩
set_option maxHeartbeats 4000000 in
set_option maxRecDepth 100000 in
theorem m_L_card {nn : Nat} {i1 : Int} {i2 : Int} {G : GH} {Q : Int → GH → Prop} (hi1 : inR i1) (hi2 : inR i2) (hnn : 286 ≤ nn) (h : f_L_card i1 i2 G Q) : MtH yL_card cL_card 5 (some .int) [(0, 10, 13, 19), (0, 10, 17, 13)] 10 168 2 12 [vr 0, vi i1, vi i2, vr 285] (SF nn) G (fun v S' G' => S' = SF nn ∧ qI Q v S' G') := by
  refine MtH.of (l0 := [some (vr 0), some (vi i1), some (vi i2), some (vr 285), none]) (by decide) (Nat.le_of_ble_eq_true rfl) rfl ?_
  intro κ δ ρ0 X9 E hG
  replace X9 : CX κ δ RL cL_card 5 (some .int) := X9
  have hnn0 : 272 ≤ nn := by omega
  refine a_aload_n (pc := 0) X9 dL_card_0 rfl rfl ?_
  refine a_iconst (pc := 1) X9 dL_card_1 ?_
  refine a_aload_n (pc := 2) X9 dL_card_2 rfl rfl ?_
  refine a_iload_n (pc := 3) X9 dL_card_3 rfl rfl ?_
  refine a_iload_n (pc := 4) X9 dL_card_4 rfl rfl ?_
  refine a_callVH (pc := 5) X9 E (m_X9_card hi1 hi2 hnn0 h) okX9 (is9 hnn0) wM_L_15 w_instanceMethod_X9_card w_selects_X9_card w_initialized_RX9 w_code_X9_card cp_X9_card pn_X9_card rfl (Nat.le_of_ble_eq_true rfl) ⟨Nat.le_of_ble_eq_true rfl, Nat.le_of_ble_eq_true rfl⟩ ⟨Nat.le_of_ble_eq_true rfl, Nat.le_of_ble_eq_true rfl⟩ dL_card_5 (fun E9 G9 h hG9 => ?_) (kIp (fun r_1 hr_1 h => ?_))
  · obtain ⟨rfl, h⟩ := h
    rcases h with ⟨rfl, h⟩ | ⟨rfl, h⟩
    · refine ⟨[], ⟨0, 10, 13, 19⟩, [⟨0, 10, 17, 13⟩], 4, 2, rfl, by decide, Or.inl ⟨rfl, dL_card_13⟩, Nat.le_of_ble_eq_true rfl, rfl, Or.inl ⟨rfl, rfl, rfl⟩, ?_⟩
      refine a_iconst (pc := 15) X9 dL_card_15 ?_
      exact a_ireturnH (pc := 16) X9 E rfl rfl (Nat.le_of_ble_eq_true rfl) (Nat.le_of_ble_eq_true rfl) dL_card_16 ⟨rfl, _, rfl, (show inR 1 by decide), h⟩
    · refine ⟨[⟨0, 10, 13, 19⟩], ⟨0, 10, 17, 13⟩, [], 4, 2, rfl, by decide, Or.inl ⟨rfl, dL_card_17⟩, Nat.le_of_ble_eq_true rfl, rfl, Or.inr ⟨rfl, rfl, by decide⟩, ?_⟩
      refine a_iconst (pc := 19) X9 dL_card_19 ?_
      exact a_ireturnH (pc := 20) X9 E rfl rfl (Nat.le_of_ble_eq_true rfl) (Nat.le_of_ble_eq_true rfl) dL_card_20 ⟨rfl, _, rfl, (show inR 2 by decide), h⟩
  · refine a_i2l (pc := 8) X9 dL_card_8 hr_1 ?_
    refine a_last (pc := 9) X9 (v := r_1) (atO hnn) (Nat.le_of_ble_eq_true rfl) (j := 0) rfl (Nat.le_of_ble_eq_true rfl) hr_1 dL_card_9 (fun _ => ?_)
    obtain ⟨G_1, eG_1⟩ : ∃ G9, G9 = upG G 285 0 r_1 := ⟨_, rfl⟩
    have hG_1 : GR G_1 := by rw [eG_1]; exact (GR.up hG hr_1)
    have h := h G_1 eG_1
    rw [← eG_1]
    refine a_goto (pc := 10) (tgt := 21) X9 dL_card_10 rfl ?_
    refine a_iconst (pc := 21) X9 dL_card_21 ?_
    exact a_ireturnH (pc := 22) X9 E rfl rfl (Nat.le_of_ble_eq_true rfl) (Nat.le_of_ble_eq_true rfl) dL_card_22 ⟨rfl, _, rfl, (show inR 0 by decide), h⟩
set_option maxHeartbeats 4000000 in
set_option maxRecDepth 100000 in
theorem m_L_free {nn : Nat} {i1 : Int} {G : GH} {Q : Int → GH → Prop} (hi1 : inR i1) (hnn : 286 ≤ nn) (h : f_L_free i1 G Q) : MtH yL_free cL_free 4 (some .int) [(0, 9, 12, 13)] 9 145 1 6 [vr 0, vi i1, vr 285] (SF nn) G (fun v S' G' => S' = SF nn ∧ qI Q v S' G') := by
  refine MtH.of (l0 := [some (vr 0), some (vi i1), some (vr 285), none]) (by decide) (Nat.le_of_ble_eq_true rfl) rfl ?_
  intro κ δ ρ0 X9 E hG
  replace X9 : CX κ δ RL cL_free 4 (some .int) := X9
  have hnn0 : 272 ≤ nn := by omega
  refine a_aload_n (pc := 0) X9 dL_free_0 rfl rfl ?_
  refine a_iconst (pc := 1) X9 dL_free_1 ?_
  refine a_aload_n (pc := 2) X9 dL_free_2 rfl rfl ?_
  refine a_iload_n (pc := 3) X9 dL_free_3 rfl rfl ?_
  refine a_callVH (pc := 4) X9 E (m_X9_free hi1 hnn0 h) okX9 (is9 hnn0) wM_L_46 w_instanceMethod_X9_free w_selects_X9_free w_initialized_RX9 w_code_X9_free cp_X9_free pn_X9_free rfl (Nat.le_of_ble_eq_true rfl) ⟨Nat.le_of_ble_eq_true rfl, Nat.le_of_ble_eq_true rfl⟩ ⟨Nat.le_of_ble_eq_true rfl, Nat.le_of_ble_eq_true rfl⟩ dL_free_4 (fun E9 G9 h hG9 => ?_) (kIp (fun r_1 hr_1 h => ?_))
  · obtain ⟨rfl, h⟩ := h
    obtain ⟨rfl, h⟩ := h
    refine ⟨[], ⟨0, 9, 12, 13⟩, [], 3, 1, rfl, by decide, Or.inr ⟨3, rfl, rfl, dL_free_12⟩, Nat.le_of_ble_eq_true rfl, rfl, Or.inr ⟨rfl, rfl, by decide⟩, ?_⟩
    refine a_iconst (pc := 13) X9 dL_free_13 ?_
    exact a_ireturnH (pc := 14) X9 E rfl rfl (Nat.le_of_ble_eq_true rfl) (Nat.le_of_ble_eq_true rfl) dL_free_14 ⟨rfl, _, rfl, (show inR 1 by decide), h⟩
  · refine a_i2l (pc := 7) X9 dL_free_7 hr_1 ?_
    refine a_last (pc := 8) X9 (v := r_1) (atO hnn) (Nat.le_of_ble_eq_true rfl) (j := 0) rfl (Nat.le_of_ble_eq_true rfl) hr_1 dL_free_8 (fun _ => ?_)
    obtain ⟨G_1, eG_1⟩ : ∃ G9, G9 = upG G 285 0 r_1 := ⟨_, rfl⟩
    have hG_1 : GR G_1 := by rw [eG_1]; exact (GR.up hG hr_1)
    have h := h G_1 eG_1
    rw [← eG_1]
    refine a_goto (pc := 9) (tgt := 15) X9 dL_free_9 rfl ?_
    refine a_iconst (pc := 15) X9 dL_free_15 ?_
    exact a_ireturnH (pc := 16) X9 E rfl rfl (Nat.le_of_ble_eq_true rfl) (Nat.le_of_ble_eq_true rfl) dL_free_16 ⟨rfl, _, rfl, (show inR 0 by decide), h⟩
set_option maxHeartbeats 4000000 in
set_option maxRecDepth 100000 in
theorem m_L_giveBack {nn : Nat} {i1 : Int} {G : GH} {Q : Int → GH → Prop} (hi1 : inR i1) (hnn : 286 ≤ nn) (h : f_L_giveBack i1 G Q) : MtH yL_giveBack cL_giveBack 4 (some .int) [(0, 9, 12, 19)] 8 124 1 6 [vr 0, vi i1, vr 285] (SF nn) G (fun v S' G' => S' = SF nn ∧ qI Q v S' G') := by
  refine MtH.of (l0 := [some (vr 0), some (vi i1), some (vr 285), none]) (by decide) (Nat.le_of_ble_eq_true rfl) rfl ?_
  intro κ δ ρ0 X9 E hG
  replace X9 : CX κ δ RL cL_giveBack 4 (some .int) := X9
  have hnn0 : 272 ≤ nn := by omega
  refine a_aload_n (pc := 0) X9 dL_giveBack_0 rfl rfl ?_
  refine a_iconst (pc := 1) X9 dL_giveBack_1 ?_
  refine a_aload_n (pc := 2) X9 dL_giveBack_2 rfl rfl ?_
  refine a_iload_n (pc := 3) X9 dL_giveBack_3 rfl rfl ?_
  refine a_callVH (pc := 4) X9 E (m_X9_giveBack hi1 hnn0 h) okX9 (is9 hnn0) wM_L_81 w_instanceMethod_X9_giveBack w_selects_X9_giveBack w_initialized_RX9 w_code_X9_giveBack cp_X9_giveBack pn_X9_giveBack rfl (Nat.le_of_ble_eq_true rfl) ⟨Nat.le_of_ble_eq_true rfl, Nat.le_of_ble_eq_true rfl⟩ ⟨Nat.le_of_ble_eq_true rfl, Nat.le_of_ble_eq_true rfl⟩ dL_giveBack_4 (fun E9 G9 h hG9 => ?_) (kI (fun r_1 G_1 hr_1 h hG_1 => ?_))
  · obtain ⟨rfl, h⟩ := h
    refine ⟨[], ⟨0, 9, 12, 19⟩, [], 3, 1, rfl, by decide, Or.inr ⟨3, rfl, rfl, dL_giveBack_12⟩, Nat.le_of_ble_eq_true rfl, rfl, Or.inl ⟨rfl, rfl, rfl⟩, ?_⟩
    refine a_iconst (pc := 13) X9 dL_giveBack_13 ?_
    exact a_ireturnH (pc := 14) X9 E rfl rfl (Nat.le_of_ble_eq_true rfl) (Nat.le_of_ble_eq_true rfl) dL_giveBack_14 ⟨rfl, _, rfl, (show inR 1 by decide), h⟩
  · refine a_i2l (pc := 7) X9 dL_giveBack_7 hr_1 ?_
    refine a_last (pc := 8) X9 (v := r_1) (atO hnn) (Nat.le_of_ble_eq_true rfl) (j := 0) rfl (Nat.le_of_ble_eq_true rfl) hr_1 dL_giveBack_8 (fun _ => ?_)
    obtain ⟨G_2, eG_2⟩ : ∃ G9, G9 = upG G_1 285 0 r_1 := ⟨_, rfl⟩
    have hG_2 : GR G_2 := by rw [eG_2]; exact (GR.up hG_1 hr_1)
    have h := h G_2 eG_2
    rw [← eG_2]
    refine a_goto (pc := 9) (tgt := 15) X9 dL_giveBack_9 rfl ?_
    refine a_iconst (pc := 15) X9 dL_giveBack_15 ?_
    exact a_ireturnH (pc := 16) X9 E rfl rfl (Nat.le_of_ble_eq_true rfl) (Nat.le_of_ble_eq_true rfl) dL_giveBack_16 ⟨rfl, _, rfl, (show inR 0 by decide), h⟩
set_option maxHeartbeats 4000000 in
set_option maxRecDepth 100000 in
theorem m_L_hang {nn : Nat} {i1 : Int} {G : GH} {Q : Int → GH → Prop} (hi1 : inR i1) (hnn : 286 ≤ nn) (h : f_L_hang i1 G Q) : MtH yL_hang cL_hang 4 (some .int) [(0, 9, 12, 19)] 9 171 1 6 [vr 0, vi i1, vr 285] (SF nn) G (fun v S' G' => S' = SF nn ∧ qI Q v S' G') := by
  refine MtH.of (l0 := [some (vr 0), some (vi i1), some (vr 285), none]) (by decide) (Nat.le_of_ble_eq_true rfl) rfl ?_
  intro κ δ ρ0 X9 E hG
  replace X9 : CX κ δ RL cL_hang 4 (some .int) := X9
  have hnn0 : 272 ≤ nn := by omega
  refine a_aload_n (pc := 0) X9 dL_hang_0 rfl rfl ?_
  refine a_iconst (pc := 1) X9 dL_hang_1 ?_
  refine a_aload_n (pc := 2) X9 dL_hang_2 rfl rfl ?_
  refine a_iload_n (pc := 3) X9 dL_hang_3 rfl rfl ?_
  refine a_callVH (pc := 4) X9 E (m_X9_hang hi1 hnn0 h) okX9 (is9 hnn0) wM_L_74 w_instanceMethod_X9_hang w_selects_X9_hang w_initialized_RX9 w_code_X9_hang cp_X9_hang pn_X9_hang rfl (Nat.le_of_ble_eq_true rfl) ⟨Nat.le_of_ble_eq_true rfl, Nat.le_of_ble_eq_true rfl⟩ ⟨Nat.le_of_ble_eq_true rfl, Nat.le_of_ble_eq_true rfl⟩ dL_hang_4 (fun E9 G9 h hG9 => ?_) (kI (fun r_1 G_1 hr_1 h hG_1 => ?_))
  · obtain ⟨rfl, h⟩ := h
    refine ⟨[], ⟨0, 9, 12, 19⟩, [], 3, 1, rfl, by decide, Or.inr ⟨3, rfl, rfl, dL_hang_12⟩, Nat.le_of_ble_eq_true rfl, rfl, Or.inl ⟨rfl, rfl, rfl⟩, ?_⟩
    refine a_iconst (pc := 13) X9 dL_hang_13 ?_
    exact a_ireturnH (pc := 14) X9 E rfl rfl (Nat.le_of_ble_eq_true rfl) (Nat.le_of_ble_eq_true rfl) dL_hang_14 ⟨rfl, _, rfl, (show inR 1 by decide), h⟩
  · refine a_i2l (pc := 7) X9 dL_hang_7 hr_1 ?_
    refine a_last (pc := 8) X9 (v := r_1) (atO hnn) (Nat.le_of_ble_eq_true rfl) (j := 0) rfl (Nat.le_of_ble_eq_true rfl) hr_1 dL_hang_8 (fun _ => ?_)
    obtain ⟨G_2, eG_2⟩ : ∃ G9, G9 = upG G_1 285 0 r_1 := ⟨_, rfl⟩
    have hG_2 : GR G_2 := by rw [eG_2]; exact (GR.up hG_1 hr_1)
    have h := h G_2 eG_2
    rw [← eG_2]
    refine a_goto (pc := 9) (tgt := 15) X9 dL_hang_9 rfl ?_
    refine a_iconst (pc := 15) X9 dL_hang_15 ?_
    exact a_ireturnH (pc := 16) X9 E rfl rfl (Nat.le_of_ble_eq_true rfl) (Nat.le_of_ble_eq_true rfl) dL_hang_16 ⟨rfl, _, rfl, (show inR 0 by decide), h⟩
set_option maxHeartbeats 4000000 in
set_option maxRecDepth 100000 in
theorem m_L_hung {nn : Nat} {i1 : Int} {i2 : Int} {G : GH} {Q : Int → GH → Prop} (hi1 : inR i1) (hi2 : inR i2) (hnn : 286 ≤ nn) (h : f_L_hung i1 i2 G Q) : MtH yL_hung cL_hung 5 (some .int) [(0, 10, 13, 19)] 9 146 2 12 [vr 0, vi i1, vi i2, vr 285] (SF nn) G (fun v S' G' => S' = SF nn ∧ qI Q v S' G') := by
  refine MtH.of (l0 := [some (vr 0), some (vi i1), some (vi i2), some (vr 285), none]) (by decide) (Nat.le_of_ble_eq_true rfl) rfl ?_
  intro κ δ ρ0 X9 E hG
  replace X9 : CX κ δ RL cL_hung 5 (some .int) := X9
  have hnn0 : 272 ≤ nn := by omega
  refine a_aload_n (pc := 0) X9 dL_hung_0 rfl rfl ?_
  refine a_iconst (pc := 1) X9 dL_hung_1 ?_
  refine a_aload_n (pc := 2) X9 dL_hung_2 rfl rfl ?_
  refine a_iload_n (pc := 3) X9 dL_hung_3 rfl rfl ?_
  refine a_iload_n (pc := 4) X9 dL_hung_4 rfl rfl ?_
  refine a_callVH (pc := 5) X9 E (m_X9_hung hi1 hi2 hnn0 h) okX9 (is9 hnn0) wM_L_43 w_instanceMethod_X9_hung w_selects_X9_hung w_initialized_RX9 w_code_X9_hung cp_X9_hung pn_X9_hung rfl (Nat.le_of_ble_eq_true rfl) ⟨Nat.le_of_ble_eq_true rfl, Nat.le_of_ble_eq_true rfl⟩ ⟨Nat.le_of_ble_eq_true rfl, Nat.le_of_ble_eq_true rfl⟩ dL_hung_5 (fun E9 G9 h hG9 => ?_) (kIp (fun r_1 hr_1 h => ?_))
  · obtain ⟨rfl, h⟩ := h
    obtain ⟨rfl, h⟩ := h
    refine ⟨[], ⟨0, 10, 13, 19⟩, [], 4, 2, rfl, by decide, Or.inl ⟨rfl, dL_hung_13⟩, Nat.le_of_ble_eq_true rfl, rfl, Or.inl ⟨rfl, rfl, rfl⟩, ?_⟩
    refine a_iconst (pc := 15) X9 dL_hung_15 ?_
    exact a_ireturnH (pc := 16) X9 E rfl rfl (Nat.le_of_ble_eq_true rfl) (Nat.le_of_ble_eq_true rfl) dL_hung_16 ⟨rfl, _, rfl, (show inR 1 by decide), h⟩
  · refine a_i2l (pc := 8) X9 dL_hung_8 hr_1 ?_
    refine a_last (pc := 9) X9 (v := r_1) (atO hnn) (Nat.le_of_ble_eq_true rfl) (j := 0) rfl (Nat.le_of_ble_eq_true rfl) hr_1 dL_hung_9 (fun _ => ?_)
    obtain ⟨G_1, eG_1⟩ : ∃ G9, G9 = upG G 285 0 r_1 := ⟨_, rfl⟩
    have hG_1 : GR G_1 := by rw [eG_1]; exact (GR.up hG hr_1)
    have h := h G_1 eG_1
    rw [← eG_1]
    refine a_goto (pc := 10) (tgt := 17) X9 dL_hung_10 rfl ?_
    refine a_iconst (pc := 17) X9 dL_hung_17 ?_
    exact a_ireturnH (pc := 18) X9 E rfl rfl (Nat.le_of_ble_eq_true rfl) (Nat.le_of_ble_eq_true rfl) dL_hung_18 ⟨rfl, _, rfl, (show inR 0 by decide), h⟩
set_option maxHeartbeats 4000000 in
set_option maxRecDepth 100000 in
theorem m_L_hymn {nn : Nat} {i1 : Int} {i2 : Int} {G : GH} {Q : Int → GH → Prop} (hi1 : inR i1) (hi2 : inR i2) (hnn : 286 ≤ nn) (h : f_L_hymn i1 i2 G Q) : MtH yL_hymn cL_hymn 5 (some .int) [(0, 10, 13, 19)] 9 145 1 6 [vr 0, vi i1, vi i2, vr 285] (SF nn) G (fun v S' G' => S' = SF nn ∧ qI Q v S' G') := by
  refine MtH.of (l0 := [some (vr 0), some (vi i1), some (vi i2), some (vr 285), none]) (by decide) (Nat.le_of_ble_eq_true rfl) rfl ?_
  intro κ δ ρ0 X9 E hG
  replace X9 : CX κ δ RL cL_hymn 5 (some .int) := X9
  have hnn0 : 272 ≤ nn := by omega
  refine a_aload_n (pc := 0) X9 dL_hymn_0 rfl rfl ?_
  refine a_iconst (pc := 1) X9 dL_hymn_1 ?_
  refine a_aload_n (pc := 2) X9 dL_hymn_2 rfl rfl ?_
  refine a_iload_n (pc := 3) X9 dL_hymn_3 rfl rfl ?_
  refine a_iload_n (pc := 4) X9 dL_hymn_4 rfl rfl ?_
  refine a_callVH (pc := 5) X9 E (m_X9_hymn hi1 hi2 hnn0 h) okX9 (is9 hnn0) wM_L_36 w_instanceMethod_X9_hymn w_selects_X9_hymn w_initialized_RX9 w_code_X9_hymn cp_X9_hymn pn_X9_hymn rfl (Nat.le_of_ble_eq_true rfl) ⟨Nat.le_of_ble_eq_true rfl, Nat.le_of_ble_eq_true rfl⟩ ⟨Nat.le_of_ble_eq_true rfl, Nat.le_of_ble_eq_true rfl⟩ dL_hymn_5 (fun E9 G9 h hG9 => ?_) (kIp (fun r_1 hr_1 h => ?_))
  · obtain ⟨rfl, h⟩ := h
    obtain ⟨rfl, h⟩ := h
    refine ⟨[], ⟨0, 10, 13, 19⟩, [], 4, 2, rfl, by decide, Or.inl ⟨rfl, dL_hymn_13⟩, Nat.le_of_ble_eq_true rfl, rfl, Or.inl ⟨rfl, rfl, rfl⟩, ?_⟩
    refine a_iconst (pc := 15) X9 dL_hymn_15 ?_
    exact a_ireturnH (pc := 16) X9 E rfl rfl (Nat.le_of_ble_eq_true rfl) (Nat.le_of_ble_eq_true rfl) dL_hymn_16 ⟨rfl, _, rfl, (show inR 1 by decide), h⟩
  · refine a_i2l (pc := 8) X9 dL_hymn_8 hr_1 ?_
    refine a_last (pc := 9) X9 (v := r_1) (atO hnn) (Nat.le_of_ble_eq_true rfl) (j := 0) rfl (Nat.le_of_ble_eq_true rfl) hr_1 dL_hymn_9 (fun _ => ?_)
    obtain ⟨G_1, eG_1⟩ : ∃ G9, G9 = upG G 285 0 r_1 := ⟨_, rfl⟩
    have hG_1 : GR G_1 := by rw [eG_1]; exact (GR.up hG hr_1)
    have h := h G_1 eG_1
    rw [← eG_1]
    refine a_goto (pc := 10) (tgt := 17) X9 dL_hymn_10 rfl ?_
    refine a_iconst (pc := 17) X9 dL_hymn_17 ?_
    exact a_ireturnH (pc := 18) X9 E rfl rfl (Nat.le_of_ble_eq_true rfl) (Nat.le_of_ble_eq_true rfl) dL_hymn_18 ⟨rfl, _, rfl, (show inR 0 by decide), h⟩
set_option maxHeartbeats 4000000 in
set_option maxRecDepth 100000 in
theorem m_L_hymns {nn : Nat} {i1 : Int} {G : GH} {Q : Int → GH → Prop} (hi1 : inR i1) (hnn : 286 ≤ nn) (h : f_L_hymns i1 G Q) : MtH yL_hymns cL_hymns 4 (some .int) [(0, 9, 12, 19)] 9 144 1 6 [vr 0, vi i1, vr 285] (SF nn) G (fun v S' G' => S' = SF nn ∧ qI Q v S' G') := by
  refine MtH.of (l0 := [some (vr 0), some (vi i1), some (vr 285), none]) (by decide) (Nat.le_of_ble_eq_true rfl) rfl ?_
  intro κ δ ρ0 X9 E hG
  replace X9 : CX κ δ RL cL_hymns 4 (some .int) := X9
  have hnn0 : 272 ≤ nn := by omega
  refine a_aload_n (pc := 0) X9 dL_hymns_0 rfl rfl ?_
  refine a_iconst (pc := 1) X9 dL_hymns_1 ?_
  refine a_aload_n (pc := 2) X9 dL_hymns_2 rfl rfl ?_
  refine a_iload_n (pc := 3) X9 dL_hymns_3 rfl rfl ?_
  refine a_callVH (pc := 4) X9 E (m_X9_hymns hi1 hnn0 h) okX9 (is9 hnn0) wM_L_33 w_instanceMethod_X9_hymns w_selects_X9_hymns w_initialized_RX9 w_code_X9_hymns cp_X9_hymns pn_X9_hymns rfl (Nat.le_of_ble_eq_true rfl) ⟨Nat.le_of_ble_eq_true rfl, Nat.le_of_ble_eq_true rfl⟩ ⟨Nat.le_of_ble_eq_true rfl, Nat.le_of_ble_eq_true rfl⟩ dL_hymns_4 (fun E9 G9 h hG9 => ?_) (kIp (fun r_1 hr_1 h => ?_))
  · obtain ⟨rfl, h⟩ := h
    obtain ⟨rfl, h⟩ := h
    refine ⟨[], ⟨0, 9, 12, 19⟩, [], 3, 1, rfl, by decide, Or.inr ⟨3, rfl, rfl, dL_hymns_12⟩, Nat.le_of_ble_eq_true rfl, rfl, Or.inl ⟨rfl, rfl, rfl⟩, ?_⟩
    refine a_iconst (pc := 13) X9 dL_hymns_13 ?_
    exact a_ireturnH (pc := 14) X9 E rfl rfl (Nat.le_of_ble_eq_true rfl) (Nat.le_of_ble_eq_true rfl) dL_hymns_14 ⟨rfl, _, rfl, (show inR 1 by decide), h⟩
  · refine a_i2l (pc := 7) X9 dL_hymns_7 hr_1 ?_
    refine a_last (pc := 8) X9 (v := r_1) (atO hnn) (Nat.le_of_ble_eq_true rfl) (j := 0) rfl (Nat.le_of_ble_eq_true rfl) hr_1 dL_hymns_8 (fun _ => ?_)
    obtain ⟨G_1, eG_1⟩ : ∃ G9, G9 = upG G 285 0 r_1 := ⟨_, rfl⟩
    have hG_1 : GR G_1 := by rw [eG_1]; exact (GR.up hG hr_1)
    have h := h G_1 eG_1
    rw [← eG_1]
    refine a_goto (pc := 9) (tgt := 15) X9 dL_hymns_9 rfl ?_
    refine a_iconst (pc := 15) X9 dL_hymns_15 ?_
    exact a_ireturnH (pc := 16) X9 E rfl rfl (Nat.le_of_ble_eq_true rfl) (Nat.le_of_ble_eq_true rfl) dL_hymns_16 ⟨rfl, _, rfl, (show inR 0 by decide), h⟩
set_option maxHeartbeats 4000000 in
set_option maxRecDepth 100000 in
theorem m_L_lenders {nn : Nat} {i1 : Int} {G : GH} {Q : Int → GH → Prop} (hi1 : inR i1) (hnn : 286 ≤ nn) (h : f_L_lenders i1 G Q) : MtH yL_lenders cL_lenders 4 (some .int) [(0, 9, 12, 13)] 9 145 1 6 [vr 0, vi i1, vr 285] (SF nn) G (fun v S' G' => S' = SF nn ∧ qI Q v S' G') := by
  refine MtH.of (l0 := [some (vr 0), some (vi i1), some (vr 285), none]) (by decide) (Nat.le_of_ble_eq_true rfl) rfl ?_
  intro κ δ ρ0 X9 E hG
  replace X9 : CX κ δ RL cL_lenders 4 (some .int) := X9
  have hnn0 : 272 ≤ nn := by omega
  refine a_aload_n (pc := 0) X9 dL_lenders_0 rfl rfl ?_
  refine a_iconst (pc := 1) X9 dL_lenders_1 ?_
  refine a_aload_n (pc := 2) X9 dL_lenders_2 rfl rfl ?_
  refine a_iload_n (pc := 3) X9 dL_lenders_3 rfl rfl ?_
  refine a_callVH (pc := 4) X9 E (m_X9_lenders hi1 hnn0 h) okX9 (is9 hnn0) wM_L_71 w_instanceMethod_X9_lenders w_selects_X9_lenders w_initialized_RX9 w_code_X9_lenders cp_X9_lenders pn_X9_lenders rfl (Nat.le_of_ble_eq_true rfl) ⟨Nat.le_of_ble_eq_true rfl, Nat.le_of_ble_eq_true rfl⟩ ⟨Nat.le_of_ble_eq_true rfl, Nat.le_of_ble_eq_true rfl⟩ dL_lenders_4 (fun E9 G9 h hG9 => ?_) (kIp (fun r_1 hr_1 h => ?_))
  · obtain ⟨rfl, h⟩ := h
    obtain ⟨rfl, h⟩ := h
    refine ⟨[], ⟨0, 9, 12, 13⟩, [], 3, 1, rfl, by decide, Or.inr ⟨3, rfl, rfl, dL_lenders_12⟩, Nat.le_of_ble_eq_true rfl, rfl, Or.inr ⟨rfl, rfl, by decide⟩, ?_⟩
    refine a_iconst (pc := 13) X9 dL_lenders_13 ?_
    exact a_ireturnH (pc := 14) X9 E rfl rfl (Nat.le_of_ble_eq_true rfl) (Nat.le_of_ble_eq_true rfl) dL_lenders_14 ⟨rfl, _, rfl, (show inR 1 by decide), h⟩
  · refine a_i2l (pc := 7) X9 dL_lenders_7 hr_1 ?_
    refine a_last (pc := 8) X9 (v := r_1) (atO hnn) (Nat.le_of_ble_eq_true rfl) (j := 0) rfl (Nat.le_of_ble_eq_true rfl) hr_1 dL_lenders_8 (fun _ => ?_)
    obtain ⟨G_1, eG_1⟩ : ∃ G9, G9 = upG G 285 0 r_1 := ⟨_, rfl⟩
    have hG_1 : GR G_1 := by rw [eG_1]; exact (GR.up hG hr_1)
    have h := h G_1 eG_1
    rw [← eG_1]
    refine a_goto (pc := 9) (tgt := 15) X9 dL_lenders_9 rfl ?_
    refine a_iconst (pc := 15) X9 dL_lenders_15 ?_
    exact a_ireturnH (pc := 16) X9 E rfl rfl (Nat.le_of_ble_eq_true rfl) (Nat.le_of_ble_eq_true rfl) dL_lenders_16 ⟨rfl, _, rfl, (show inR 0 by decide), h⟩
set_option maxHeartbeats 4000000 in
set_option maxRecDepth 100000 in
theorem m_L_lends {nn : Nat} {i1 : Int} {i2 : Int} {G : GH} {Q : Int → GH → Prop} (hi1 : inR i1) (hi2 : inR i2) (hnn : 286 ≤ nn) (h : f_L_lends i1 i2 G Q) : MtH yL_lends cL_lends 5 (some .int) [(0, 10, 13, 19), (0, 10, 17, 13)] 9 145 2 12 [vr 0, vi i1, vi i2, vr 285] (SF nn) G (fun v S' G' => S' = SF nn ∧ qI Q v S' G') := by
  refine MtH.of (l0 := [some (vr 0), some (vi i1), some (vi i2), some (vr 285), none]) (by decide) (Nat.le_of_ble_eq_true rfl) rfl ?_
  intro κ δ ρ0 X9 E hG
  replace X9 : CX κ δ RL cL_lends 5 (some .int) := X9
  have hnn0 : 272 ≤ nn := by omega
  refine a_aload_n (pc := 0) X9 dL_lends_0 rfl rfl ?_
  refine a_iconst (pc := 1) X9 dL_lends_1 ?_
  refine a_aload_n (pc := 2) X9 dL_lends_2 rfl rfl ?_
  refine a_iload_n (pc := 3) X9 dL_lends_3 rfl rfl ?_
  refine a_iload_n (pc := 4) X9 dL_lends_4 rfl rfl ?_
  refine a_callVH (pc := 5) X9 E (m_X9_lends hi1 hi2 hnn0 h) okX9 (is9 hnn0) wM_L_24 w_instanceMethod_X9_lends w_selects_X9_lends w_initialized_RX9 w_code_X9_lends cp_X9_lends pn_X9_lends rfl (Nat.le_of_ble_eq_true rfl) ⟨Nat.le_of_ble_eq_true rfl, Nat.le_of_ble_eq_true rfl⟩ ⟨Nat.le_of_ble_eq_true rfl, Nat.le_of_ble_eq_true rfl⟩ dL_lends_5 (fun E9 G9 h hG9 => ?_) (kIp (fun r_1 hr_1 h => ?_))
  · obtain ⟨rfl, h⟩ := h
    rcases h with ⟨rfl, h⟩ | ⟨rfl, h⟩
    · refine ⟨[], ⟨0, 10, 13, 19⟩, [⟨0, 10, 17, 13⟩], 4, 2, rfl, by decide, Or.inl ⟨rfl, dL_lends_13⟩, Nat.le_of_ble_eq_true rfl, rfl, Or.inl ⟨rfl, rfl, rfl⟩, ?_⟩
      refine a_iconst (pc := 15) X9 dL_lends_15 ?_
      exact a_ireturnH (pc := 16) X9 E rfl rfl (Nat.le_of_ble_eq_true rfl) (Nat.le_of_ble_eq_true rfl) dL_lends_16 ⟨rfl, _, rfl, (show inR 1 by decide), h⟩
    · refine ⟨[⟨0, 10, 13, 19⟩], ⟨0, 10, 17, 13⟩, [], 4, 2, rfl, by decide, Or.inl ⟨rfl, dL_lends_17⟩, Nat.le_of_ble_eq_true rfl, rfl, Or.inr ⟨rfl, rfl, by decide⟩, ?_⟩
      refine a_iconst (pc := 19) X9 dL_lends_19 ?_
      exact a_ireturnH (pc := 20) X9 E rfl rfl (Nat.le_of_ble_eq_true rfl) (Nat.le_of_ble_eq_true rfl) dL_lends_20 ⟨rfl, _, rfl, (show inR 2 by decide), h⟩
  · refine a_i2l (pc := 8) X9 dL_lends_8 hr_1 ?_
    refine a_last (pc := 9) X9 (v := r_1) (atO hnn) (Nat.le_of_ble_eq_true rfl) (j := 0) rfl (Nat.le_of_ble_eq_true rfl) hr_1 dL_lends_9 (fun _ => ?_)
    obtain ⟨G_1, eG_1⟩ : ∃ G9, G9 = upG G 285 0 r_1 := ⟨_, rfl⟩
    have hG_1 : GR G_1 := by rw [eG_1]; exact (GR.up hG hr_1)
    have h := h G_1 eG_1
    rw [← eG_1]
    refine a_goto (pc := 10) (tgt := 21) X9 dL_lends_10 rfl ?_
    refine a_iconst (pc := 21) X9 dL_lends_21 ?_
    exact a_ireturnH (pc := 22) X9 E rfl rfl (Nat.le_of_ble_eq_true rfl) (Nat.le_of_ble_eq_true rfl) dL_lends_22 ⟨rfl, _, rfl, (show inR 0 by decide), h⟩
set_option maxHeartbeats 4000000 in
set_option maxRecDepth 100000 in
theorem m_L_loan {nn : Nat} {i1 : Int} {i2 : Int} {G : GH} {Q : Int → GH → Prop} (hi1 : inR i1) (hi2 : inR i2) (hnn : 286 ≤ nn) (h : f_L_loan i1 i2 G Q) : MtH yL_loan cL_loan 5 (some .int) [(0, 10, 13, 19), (0, 10, 17, 13)] 8 124 2 12 [vr 0, vi i1, vi i2, vr 285] (SF nn) G (fun v S' G' => S' = SF nn ∧ qI Q v S' G') := by
  refine MtH.of (l0 := [some (vr 0), some (vi i1), some (vi i2), some (vr 285), none]) (by decide) (Nat.le_of_ble_eq_true rfl) rfl ?_
  intro κ δ ρ0 X9 E hG
  replace X9 : CX κ δ RL cL_loan 5 (some .int) := X9
  have hnn0 : 272 ≤ nn := by omega
  refine a_aload_n (pc := 0) X9 dL_loan_0 rfl rfl ?_
  refine a_iconst (pc := 1) X9 dL_loan_1 ?_
  refine a_aload_n (pc := 2) X9 dL_loan_2 rfl rfl ?_
  refine a_iload_n (pc := 3) X9 dL_loan_3 rfl rfl ?_
  refine a_iload_n (pc := 4) X9 dL_loan_4 rfl rfl ?_
  refine a_callVH (pc := 5) X9 E (m_X9_loan hi1 hi2 hnn0 h) okX9 (is9 hnn0) wM_L_27 w_instanceMethod_X9_loan w_selects_X9_loan w_initialized_RX9 w_code_X9_loan cp_X9_loan pn_X9_loan rfl (Nat.le_of_ble_eq_true rfl) ⟨Nat.le_of_ble_eq_true rfl, Nat.le_of_ble_eq_true rfl⟩ ⟨Nat.le_of_ble_eq_true rfl, Nat.le_of_ble_eq_true rfl⟩ dL_loan_5 (fun E9 G9 h hG9 => ?_) (kIp (fun r_1 hr_1 h => ?_))
  · obtain ⟨rfl, h⟩ := h
    rcases h with ⟨rfl, h⟩ | ⟨rfl, h⟩
    · refine ⟨[], ⟨0, 10, 13, 19⟩, [⟨0, 10, 17, 13⟩], 4, 2, rfl, by decide, Or.inl ⟨rfl, dL_loan_13⟩, Nat.le_of_ble_eq_true rfl, rfl, Or.inl ⟨rfl, rfl, rfl⟩, ?_⟩
      refine a_iconst (pc := 15) X9 dL_loan_15 ?_
      exact a_ireturnH (pc := 16) X9 E rfl rfl (Nat.le_of_ble_eq_true rfl) (Nat.le_of_ble_eq_true rfl) dL_loan_16 ⟨rfl, _, rfl, (show inR 1 by decide), h⟩
    · refine ⟨[⟨0, 10, 13, 19⟩], ⟨0, 10, 17, 13⟩, [], 4, 2, rfl, by decide, Or.inl ⟨rfl, dL_loan_17⟩, Nat.le_of_ble_eq_true rfl, rfl, Or.inr ⟨rfl, rfl, by decide⟩, ?_⟩
      refine a_iconst (pc := 19) X9 dL_loan_19 ?_
      exact a_ireturnH (pc := 20) X9 E rfl rfl (Nat.le_of_ble_eq_true rfl) (Nat.le_of_ble_eq_true rfl) dL_loan_20 ⟨rfl, _, rfl, (show inR 2 by decide), h⟩
  · refine a_i2l (pc := 8) X9 dL_loan_8 hr_1 ?_
    refine a_last (pc := 9) X9 (v := r_1) (atO hnn) (Nat.le_of_ble_eq_true rfl) (j := 0) rfl (Nat.le_of_ble_eq_true rfl) hr_1 dL_loan_9 (fun _ => ?_)
    obtain ⟨G_1, eG_1⟩ : ∃ G9, G9 = upG G 285 0 r_1 := ⟨_, rfl⟩
    have hG_1 : GR G_1 := by rw [eG_1]; exact (GR.up hG hr_1)
    have h := h G_1 eG_1
    rw [← eG_1]
    refine a_goto (pc := 10) (tgt := 21) X9 dL_loan_10 rfl ?_
    refine a_iconst (pc := 21) X9 dL_loan_21 ?_
    exact a_ireturnH (pc := 22) X9 E rfl rfl (Nat.le_of_ble_eq_true rfl) (Nat.le_of_ble_eq_true rfl) dL_loan_22 ⟨rfl, _, rfl, (show inR 0 by decide), h⟩
set_option maxHeartbeats 4000000 in
set_option maxRecDepth 100000 in
theorem m_L_lose {nn : Nat} {i1 : Int} {i2 : Int} {G : GH} {Q : Int → GH → Prop} (hi1 : inR i1) (hi2 : inR i2) (hnn : 286 ≤ nn) (h : f_L_lose i1 i2 G Q) : MtH yL_lose cL_lose 5 (some .int) [(0, 10, 13, 19), (0, 10, 17, 13)] 9 145 2 12 [vr 0, vi i1, vi i2, vr 285] (SF nn) G (fun v S' G' => S' = SF nn ∧ qI Q v S' G') := by
  refine MtH.of (l0 := [some (vr 0), some (vi i1), some (vi i2), some (vr 285), none]) (by decide) (Nat.le_of_ble_eq_true rfl) rfl ?_
  intro κ δ ρ0 X9 E hG
  replace X9 : CX κ δ RL cL_lose 5 (some .int) := X9
  have hnn0 : 272 ≤ nn := by omega
  refine a_aload_n (pc := 0) X9 dL_lose_0 rfl rfl ?_
  refine a_iconst (pc := 1) X9 dL_lose_1 ?_
  refine a_aload_n (pc := 2) X9 dL_lose_2 rfl rfl ?_
  refine a_iload_n (pc := 3) X9 dL_lose_3 rfl rfl ?_
  refine a_iload_n (pc := 4) X9 dL_lose_4 rfl rfl ?_
  refine a_callVH (pc := 5) X9 E (m_X9_lose hi1 hi2 hnn0 h) okX9 (is9 hnn0) wM_L_87 w_instanceMethod_X9_lose w_selects_X9_lose w_initialized_RX9 w_code_X9_lose cp_X9_lose pn_X9_lose rfl (Nat.le_of_ble_eq_true rfl) ⟨Nat.le_of_ble_eq_true rfl, Nat.le_of_ble_eq_true rfl⟩ ⟨Nat.le_of_ble_eq_true rfl, Nat.le_of_ble_eq_true rfl⟩ dL_lose_5 (fun E9 G9 h hG9 => ?_) (kI (fun r_1 G_1 hr_1 h hG_1 => ?_))
  · rcases h with ⟨rfl, h⟩ | ⟨rfl, h⟩
    · refine ⟨[], ⟨0, 10, 13, 19⟩, [⟨0, 10, 17, 13⟩], 4, 2, rfl, by decide, Or.inl ⟨rfl, dL_lose_13⟩, Nat.le_of_ble_eq_true rfl, rfl, Or.inl ⟨rfl, rfl, rfl⟩, ?_⟩
      refine a_iconst (pc := 15) X9 dL_lose_15 ?_
      exact a_ireturnH (pc := 16) X9 E rfl rfl (Nat.le_of_ble_eq_true rfl) (Nat.le_of_ble_eq_true rfl) dL_lose_16 ⟨rfl, _, rfl, (show inR 1 by decide), h⟩
    · refine ⟨[⟨0, 10, 13, 19⟩], ⟨0, 10, 17, 13⟩, [], 4, 2, rfl, by decide, Or.inl ⟨rfl, dL_lose_17⟩, Nat.le_of_ble_eq_true rfl, rfl, Or.inr ⟨rfl, rfl, by decide⟩, ?_⟩
      refine a_iconst (pc := 19) X9 dL_lose_19 ?_
      exact a_ireturnH (pc := 20) X9 E rfl rfl (Nat.le_of_ble_eq_true rfl) (Nat.le_of_ble_eq_true rfl) dL_lose_20 ⟨rfl, _, rfl, (show inR 2 by decide), h⟩
  · refine a_i2l (pc := 8) X9 dL_lose_8 hr_1 ?_
    refine a_last (pc := 9) X9 (v := r_1) (atO hnn) (Nat.le_of_ble_eq_true rfl) (j := 0) rfl (Nat.le_of_ble_eq_true rfl) hr_1 dL_lose_9 (fun _ => ?_)
    obtain ⟨G_2, eG_2⟩ : ∃ G9, G9 = upG G_1 285 0 r_1 := ⟨_, rfl⟩
    have hG_2 : GR G_2 := by rw [eG_2]; exact (GR.up hG_1 hr_1)
    have h := h G_2 eG_2
    rw [← eG_2]
    refine a_goto (pc := 10) (tgt := 21) X9 dL_lose_10 rfl ?_
    refine a_iconst (pc := 21) X9 dL_lose_21 ?_
    exact a_ireturnH (pc := 22) X9 E rfl rfl (Nat.le_of_ble_eq_true rfl) (Nat.le_of_ble_eq_true rfl) dL_lose_22 ⟨rfl, _, rfl, (show inR 0 by decide), h⟩
set_option maxHeartbeats 4000000 in
set_option maxRecDepth 100000 in
theorem m_L_missing {nn : Nat} {i1 : Int} {G : GH} {Q : Int → GH → Prop} (hi1 : inR i1) (hnn : 286 ≤ nn) (h : f_L_missing i1 G Q) : MtH yL_missing cL_missing 4 (some .int) [(0, 9, 12, 19)] 9 144 1 6 [vr 0, vi i1, vr 285] (SF nn) G (fun v S' G' => S' = SF nn ∧ qI Q v S' G') := by
  refine MtH.of (l0 := [some (vr 0), some (vi i1), some (vr 285), none]) (by decide) (Nat.le_of_ble_eq_true rfl) rfl ?_
  intro κ δ ρ0 X9 E hG
  replace X9 : CX κ δ RL cL_missing 4 (some .int) := X9
  have hnn0 : 272 ≤ nn := by omega
  refine a_aload_n (pc := 0) X9 dL_missing_0 rfl rfl ?_
  refine a_iconst (pc := 1) X9 dL_missing_1 ?_
  refine a_aload_n (pc := 2) X9 dL_missing_2 rfl rfl ?_
  refine a_iload_n (pc := 3) X9 dL_missing_3 rfl rfl ?_
  refine a_callVH (pc := 4) X9 E (m_X9_missing hi1 hnn0 h) okX9 (is9 hnn0) wM_L_62 w_instanceMethod_X9_missing w_selects_X9_missing w_initialized_RX9 w_code_X9_missing cp_X9_missing pn_X9_missing rfl (Nat.le_of_ble_eq_true rfl) ⟨Nat.le_of_ble_eq_true rfl, Nat.le_of_ble_eq_true rfl⟩ ⟨Nat.le_of_ble_eq_true rfl, Nat.le_of_ble_eq_true rfl⟩ dL_missing_4 (fun E9 G9 h hG9 => ?_) (kI (fun r_1 G_1 hr_1 h hG_1 => ?_))
  · obtain ⟨rfl, h⟩ := h
    refine ⟨[], ⟨0, 9, 12, 19⟩, [], 3, 1, rfl, by decide, Or.inr ⟨3, rfl, rfl, dL_missing_12⟩, Nat.le_of_ble_eq_true rfl, rfl, Or.inl ⟨rfl, rfl, rfl⟩, ?_⟩
    refine a_iconst (pc := 13) X9 dL_missing_13 ?_
    exact a_ireturnH (pc := 14) X9 E rfl rfl (Nat.le_of_ble_eq_true rfl) (Nat.le_of_ble_eq_true rfl) dL_missing_14 ⟨rfl, _, rfl, (show inR 1 by decide), h⟩
  · refine a_i2l (pc := 7) X9 dL_missing_7 hr_1 ?_
    refine a_last (pc := 8) X9 (v := r_1) (atO hnn) (Nat.le_of_ble_eq_true rfl) (j := 0) rfl (Nat.le_of_ble_eq_true rfl) hr_1 dL_missing_8 (fun _ => ?_)
    obtain ⟨G_2, eG_2⟩ : ∃ G9, G9 = upG G_1 285 0 r_1 := ⟨_, rfl⟩
    have hG_2 : GR G_2 := by rw [eG_2]; exact (GR.up hG_1 hr_1)
    have h := h G_2 eG_2
    rw [← eG_2]
    refine a_goto (pc := 9) (tgt := 15) X9 dL_missing_9 rfl ?_
    refine a_iconst (pc := 15) X9 dL_missing_15 ?_
    exact a_ireturnH (pc := 16) X9 E rfl rfl (Nat.le_of_ble_eq_true rfl) (Nat.le_of_ble_eq_true rfl) dL_missing_16 ⟨rfl, _, rfl, (show inR 0 by decide), h⟩
set_option maxHeartbeats 4000000 in
set_option maxRecDepth 100000 in
theorem m_L_most {nn : Nat} {i1 : Int} {G : GH} {Q : Int → GH → Prop} (hi1 : inR i1) (hnn : 286 ≤ nn) (h : f_L_most i1 G Q) : MtH yL_most cL_most 4 (some .int) [(0, 9, 12, 13)] 9 145 1 6 [vr 0, vi i1, vr 285] (SF nn) G (fun v S' G' => S' = SF nn ∧ qI Q v S' G') := by
  refine MtH.of (l0 := [some (vr 0), some (vi i1), some (vr 285), none]) (by decide) (Nat.le_of_ble_eq_true rfl) rfl ?_
  intro κ δ ρ0 X9 E hG
  replace X9 : CX κ δ RL cL_most 4 (some .int) := X9
  have hnn0 : 272 ≤ nn := by omega
  refine a_aload_n (pc := 0) X9 dL_most_0 rfl rfl ?_
  refine a_iconst (pc := 1) X9 dL_most_1 ?_
  refine a_aload_n (pc := 2) X9 dL_most_2 rfl rfl ?_
  refine a_iload_n (pc := 3) X9 dL_most_3 rfl rfl ?_
  refine a_callVH (pc := 4) X9 E (m_X9_most hi1 hnn0 h) okX9 (is9 hnn0) wM_L_53 w_instanceMethod_X9_most w_selects_X9_most w_initialized_RX9 w_code_X9_most cp_X9_most pn_X9_most rfl (Nat.le_of_ble_eq_true rfl) ⟨Nat.le_of_ble_eq_true rfl, Nat.le_of_ble_eq_true rfl⟩ ⟨Nat.le_of_ble_eq_true rfl, Nat.le_of_ble_eq_true rfl⟩ dL_most_4 (fun E9 G9 h hG9 => ?_) (kIp (fun r_1 hr_1 h => ?_))
  · obtain ⟨rfl, h⟩ := h
    obtain ⟨rfl, h⟩ := h
    refine ⟨[], ⟨0, 9, 12, 13⟩, [], 3, 1, rfl, by decide, Or.inr ⟨3, rfl, rfl, dL_most_12⟩, Nat.le_of_ble_eq_true rfl, rfl, Or.inr ⟨rfl, rfl, by decide⟩, ?_⟩
    refine a_iconst (pc := 13) X9 dL_most_13 ?_
    exact a_ireturnH (pc := 14) X9 E rfl rfl (Nat.le_of_ble_eq_true rfl) (Nat.le_of_ble_eq_true rfl) dL_most_14 ⟨rfl, _, rfl, (show inR 1 by decide), h⟩
  · refine a_i2l (pc := 7) X9 dL_most_7 hr_1 ?_
    refine a_last (pc := 8) X9 (v := r_1) (atO hnn) (Nat.le_of_ble_eq_true rfl) (j := 0) rfl (Nat.le_of_ble_eq_true rfl) hr_1 dL_most_8 (fun _ => ?_)
    obtain ⟨G_1, eG_1⟩ : ∃ G9, G9 = upG G 285 0 r_1 := ⟨_, rfl⟩
    have hG_1 : GR G_1 := by rw [eG_1]; exact (GR.up hG hr_1)
    have h := h G_1 eG_1
    rw [← eG_1]
    refine a_goto (pc := 9) (tgt := 15) X9 dL_most_9 rfl ?_
    refine a_iconst (pc := 15) X9 dL_most_15 ?_
    exact a_ireturnH (pc := 16) X9 E rfl rfl (Nat.le_of_ble_eq_true rfl) (Nat.le_of_ble_eq_true rfl) dL_most_16 ⟨rfl, _, rfl, (show inR 0 by decide), h⟩
set_option maxHeartbeats 4000000 in
set_option maxRecDepth 100000 in
theorem m_L_outAt {nn : Nat} {i1 : Int} {G : GH} {Q : Int → GH → Prop} (hi1 : inR i1) (hnn : 286 ≤ nn) (h : f_L_outAt i1 G Q) : MtH yL_outAt cL_outAt 4 (some .int) [(0, 9, 12, 19)] 9 170 1 6 [vr 0, vi i1, vr 285] (SF nn) G (fun v S' G' => S' = SF nn ∧ qI Q v S' G') := by
  refine MtH.of (l0 := [some (vr 0), some (vi i1), some (vr 285), none]) (by decide) (Nat.le_of_ble_eq_true rfl) rfl ?_
  intro κ δ ρ0 X9 E hG
  replace X9 : CX κ δ RL cL_outAt 4 (some .int) := X9
  have hnn0 : 272 ≤ nn := by omega
  refine a_aload_n (pc := 0) X9 dL_outAt_0 rfl rfl ?_
  refine a_iconst (pc := 1) X9 dL_outAt_1 ?_
  refine a_aload_n (pc := 2) X9 dL_outAt_2 rfl rfl ?_
  refine a_iload_n (pc := 3) X9 dL_outAt_3 rfl rfl ?_
  refine a_callVH (pc := 4) X9 E (m_X9_outAt hi1 hnn0 h) okX9 (is9 hnn0) wM_L_59 w_instanceMethod_X9_outAt w_selects_X9_outAt w_initialized_RX9 w_code_X9_outAt cp_X9_outAt pn_X9_outAt rfl (Nat.le_of_ble_eq_true rfl) ⟨Nat.le_of_ble_eq_true rfl, Nat.le_of_ble_eq_true rfl⟩ ⟨Nat.le_of_ble_eq_true rfl, Nat.le_of_ble_eq_true rfl⟩ dL_outAt_4 (fun E9 G9 h hG9 => ?_) (kI (fun r_1 G_1 hr_1 h hG_1 => ?_))
  · obtain ⟨rfl, h⟩ := h
    refine ⟨[], ⟨0, 9, 12, 19⟩, [], 3, 1, rfl, by decide, Or.inr ⟨3, rfl, rfl, dL_outAt_12⟩, Nat.le_of_ble_eq_true rfl, rfl, Or.inl ⟨rfl, rfl, rfl⟩, ?_⟩
    refine a_iconst (pc := 13) X9 dL_outAt_13 ?_
    exact a_ireturnH (pc := 14) X9 E rfl rfl (Nat.le_of_ble_eq_true rfl) (Nat.le_of_ble_eq_true rfl) dL_outAt_14 ⟨rfl, _, rfl, (show inR 1 by decide), h⟩
  · refine a_i2l (pc := 7) X9 dL_outAt_7 hr_1 ?_
    refine a_last (pc := 8) X9 (v := r_1) (atO hnn) (Nat.le_of_ble_eq_true rfl) (j := 0) rfl (Nat.le_of_ble_eq_true rfl) hr_1 dL_outAt_8 (fun _ => ?_)
    obtain ⟨G_2, eG_2⟩ : ∃ G9, G9 = upG G_1 285 0 r_1 := ⟨_, rfl⟩
    have hG_2 : GR G_2 := by rw [eG_2]; exact (GR.up hG_1 hr_1)
    have h := h G_2 eG_2
    rw [← eG_2]
    refine a_goto (pc := 9) (tgt := 15) X9 dL_outAt_9 rfl ?_
    refine a_iconst (pc := 15) X9 dL_outAt_15 ?_
    exact a_ireturnH (pc := 16) X9 E rfl rfl (Nat.le_of_ble_eq_true rfl) (Nat.le_of_ble_eq_true rfl) dL_outAt_16 ⟨rfl, _, rfl, (show inR 0 by decide), h⟩
set_option maxHeartbeats 4000000 in
set_option maxRecDepth 100000 in
theorem m_L_place {nn : Nat} {i1 : Int} {i2 : Int} {i3 : Int} {i4 : Int} {G : GH} {Q : Int → GH → Prop} (hi1 : inR i1) (hi2 : inR i2) (hi3 : inR i3) (hi4 : inR i4) (hnn : 286 ≤ nn) (h : f_L_place i1 i2 i3 i4 G Q) : MtH yL_place cL_place 7 (some .int) [(0, 14, 17, 19), (0, 14, 21, 13)] 9 149 4 24 [vr 0, vi i1, vi i2, vi i3, vi i4, vr 285] (SF nn) G (fun v S' G' => S' = SF nn ∧ qI Q v S' G') := by
  refine MtH.of (l0 := [some (vr 0), some (vi i1), some (vi i2), some (vi i3), some (vi i4), some (vr 285), none]) (by decide) (Nat.le_of_ble_eq_true rfl) rfl ?_
  intro κ δ ρ0 X9 E hG
  replace X9 : CX κ δ RL cL_place 7 (some .int) := X9
  have hnn0 : 272 ≤ nn := by omega
  refine a_aload (pc := 0) X9 dL_place_0 rfl ?_
  refine a_iconst (pc := 2) X9 dL_place_2 ?_
  refine a_aload_n (pc := 3) X9 dL_place_3 rfl rfl ?_
  refine a_iload_n (pc := 4) X9 dL_place_4 rfl rfl ?_
  refine a_iload_n (pc := 5) X9 dL_place_5 rfl rfl ?_
  refine a_iload_n (pc := 6) X9 dL_place_6 rfl rfl ?_
  refine a_iload (pc := 7) X9 dL_place_7 rfl ?_
  refine a_callVH (pc := 9) X9 E (m_X9_place hi1 hi2 hi3 hi4 hnn0 h) okX9 (is9 hnn0) wM_L_39 w_instanceMethod_X9_place w_selects_X9_place w_initialized_RX9 w_code_X9_place cp_X9_place pn_X9_place rfl (Nat.le_of_ble_eq_true rfl) ⟨Nat.le_of_ble_eq_true rfl, Nat.le_of_ble_eq_true rfl⟩ ⟨Nat.le_of_ble_eq_true rfl, Nat.le_of_ble_eq_true rfl⟩ dL_place_9 (fun E9 G9 h hG9 => ?_) (kIp (fun r_1 hr_1 h => ?_))
  · obtain ⟨rfl, h⟩ := h
    rcases h with ⟨rfl, h⟩ | ⟨rfl, h⟩
    · refine ⟨[], ⟨0, 14, 17, 19⟩, [⟨0, 14, 21, 13⟩], 6, 2, rfl, by decide, Or.inl ⟨rfl, dL_place_17⟩, Nat.le_of_ble_eq_true rfl, rfl, Or.inl ⟨rfl, rfl, rfl⟩, ?_⟩
      refine a_iconst (pc := 19) X9 dL_place_19 ?_
      exact a_ireturnH (pc := 20) X9 E rfl rfl (Nat.le_of_ble_eq_true rfl) (Nat.le_of_ble_eq_true rfl) dL_place_20 ⟨rfl, _, rfl, (show inR 1 by decide), h⟩
    · refine ⟨[⟨0, 14, 17, 19⟩], ⟨0, 14, 21, 13⟩, [], 6, 2, rfl, by decide, Or.inl ⟨rfl, dL_place_21⟩, Nat.le_of_ble_eq_true rfl, rfl, Or.inr ⟨rfl, rfl, by decide⟩, ?_⟩
      refine a_iconst (pc := 23) X9 dL_place_23 ?_
      exact a_ireturnH (pc := 24) X9 E rfl rfl (Nat.le_of_ble_eq_true rfl) (Nat.le_of_ble_eq_true rfl) dL_place_24 ⟨rfl, _, rfl, (show inR 2 by decide), h⟩
  · refine a_i2l (pc := 12) X9 dL_place_12 hr_1 ?_
    refine a_last (pc := 13) X9 (v := r_1) (atO hnn) (Nat.le_of_ble_eq_true rfl) (j := 0) rfl (Nat.le_of_ble_eq_true rfl) hr_1 dL_place_13 (fun _ => ?_)
    obtain ⟨G_1, eG_1⟩ : ∃ G9, G9 = upG G 285 0 r_1 := ⟨_, rfl⟩
    have hG_1 : GR G_1 := by rw [eG_1]; exact (GR.up hG hr_1)
    have h := h G_1 eG_1
    rw [← eG_1]
    refine a_goto (pc := 14) (tgt := 25) X9 dL_place_14 rfl ?_
    refine a_iconst (pc := 25) X9 dL_place_25 ?_
    exact a_ireturnH (pc := 26) X9 E rfl rfl (Nat.le_of_ble_eq_true rfl) (Nat.le_of_ble_eq_true rfl) dL_place_26 ⟨rfl, _, rfl, (show inR 0 by decide), h⟩
set_option maxHeartbeats 4000000 in
set_option maxRecDepth 100000 in
theorem m_L_restoreSnapshot {nn : Nat} {i1 : Int} {G : GH} {Q : Int → GH → Prop} (hi1 : inR i1) (hnn : 286 ≤ nn) (h : f_L_restoreSnapshot i1 G Q) : MtH yL_restoreSnapshot cL_restoreSnapshot 4 (some .int) [(0, 9, 12, 13)] 8 123 1 6 [vr 0, vi i1, vr 285] (SF nn) G (fun v S' G' => S' = SF nn ∧ qI Q v S' G') := by
  refine MtH.of (l0 := [some (vr 0), some (vi i1), some (vr 285), none]) (by decide) (Nat.le_of_ble_eq_true rfl) rfl ?_
  intro κ δ ρ0 X9 E hG
  replace X9 : CX κ δ RL cL_restoreSnapshot 4 (some .int) := X9
  have hnn0 : 272 ≤ nn := by omega
  refine a_aload_n (pc := 0) X9 dL_restoreSnapshot_0 rfl rfl ?_
  refine a_iconst (pc := 1) X9 dL_restoreSnapshot_1 ?_
  refine a_aload_n (pc := 2) X9 dL_restoreSnapshot_2 rfl rfl ?_
  refine a_iload_n (pc := 3) X9 dL_restoreSnapshot_3 rfl rfl ?_
  refine a_callVH (pc := 4) X9 E (m_X9_restoreSnapshot hi1 hnn0 h) okX9 (is9 hnn0) wM_L_108 w_instanceMethod_X9_restoreSnapshot w_selects_X9_restoreSnapshot w_initialized_RX9 w_code_X9_restoreSnapshot cp_X9_restoreSnapshot pn_X9_restoreSnapshot rfl (Nat.le_of_ble_eq_true rfl) ⟨Nat.le_of_ble_eq_true rfl, Nat.le_of_ble_eq_true rfl⟩ ⟨Nat.le_of_ble_eq_true rfl, Nat.le_of_ble_eq_true rfl⟩ dL_restoreSnapshot_4 (fun E9 G9 h hG9 => ?_) (kI (fun r_1 G_1 hr_1 h hG_1 => ?_))
  · obtain ⟨rfl, h⟩ := h
    refine ⟨[], ⟨0, 9, 12, 13⟩, [], 3, 1, rfl, by decide, Or.inr ⟨3, rfl, rfl, dL_restoreSnapshot_12⟩, Nat.le_of_ble_eq_true rfl, rfl, Or.inr ⟨rfl, rfl, by decide⟩, ?_⟩
    refine a_iconst (pc := 13) X9 dL_restoreSnapshot_13 ?_
    exact a_ireturnH (pc := 14) X9 E rfl rfl (Nat.le_of_ble_eq_true rfl) (Nat.le_of_ble_eq_true rfl) dL_restoreSnapshot_14 ⟨rfl, _, rfl, (show inR 1 by decide), h⟩
  · refine a_i2l (pc := 7) X9 dL_restoreSnapshot_7 hr_1 ?_
    refine a_last (pc := 8) X9 (v := r_1) (atO hnn) (Nat.le_of_ble_eq_true rfl) (j := 0) rfl (Nat.le_of_ble_eq_true rfl) hr_1 dL_restoreSnapshot_8 (fun _ => ?_)
    obtain ⟨G_2, eG_2⟩ : ∃ G9, G9 = upG G_1 285 0 r_1 := ⟨_, rfl⟩
    have hG_2 : GR G_2 := by rw [eG_2]; exact (GR.up hG_1 hr_1)
    have h := h G_2 eG_2
    rw [← eG_2]
    refine a_goto (pc := 9) (tgt := 15) X9 dL_restoreSnapshot_9 rfl ?_
    refine a_iconst (pc := 15) X9 dL_restoreSnapshot_15 ?_
    exact a_ireturnH (pc := 16) X9 E rfl rfl (Nat.le_of_ble_eq_true rfl) (Nat.le_of_ble_eq_true rfl) dL_restoreSnapshot_16 ⟨rfl, _, rfl, (show inR 0 by decide), h⟩
set_option maxHeartbeats 4000000 in
set_option maxRecDepth 100000 in
theorem m_L_rows {nn : Nat} {i1 : Int} {G : GH} {Q : Int → GH → Prop} (hi1 : inR i1) (hnn : 286 ≤ nn) (h : f_L_rows i1 G Q) : MtH yL_rows cL_rows 4 (some .int) [(0, 9, 12, 19)] 8 123 1 6 [vr 0, vi i1, vr 285] (SF nn) G (fun v S' G' => S' = SF nn ∧ qI Q v S' G') := by
  refine MtH.of (l0 := [some (vr 0), some (vi i1), some (vr 285), none]) (by decide) (Nat.le_of_ble_eq_true rfl) rfl ?_
  intro κ δ ρ0 X9 E hG
  replace X9 : CX κ δ RL cL_rows 4 (some .int) := X9
  have hnn0 : 272 ≤ nn := by omega
  refine a_aload_n (pc := 0) X9 dL_rows_0 rfl rfl ?_
  refine a_iconst (pc := 1) X9 dL_rows_1 ?_
  refine a_aload_n (pc := 2) X9 dL_rows_2 rfl rfl ?_
  refine a_iload_n (pc := 3) X9 dL_rows_3 rfl rfl ?_
  refine a_callVH (pc := 4) X9 E (m_X9_rows hi1 hnn0 h) okX9 (is9 hnn0) wM_L_30 w_instanceMethod_X9_rows w_selects_X9_rows w_initialized_RX9 w_code_X9_rows cp_X9_rows pn_X9_rows rfl (Nat.le_of_ble_eq_true rfl) ⟨Nat.le_of_ble_eq_true rfl, Nat.le_of_ble_eq_true rfl⟩ ⟨Nat.le_of_ble_eq_true rfl, Nat.le_of_ble_eq_true rfl⟩ dL_rows_4 (fun E9 G9 h hG9 => ?_) (kIp (fun r_1 hr_1 h => ?_))
  · obtain ⟨rfl, h⟩ := h
    obtain ⟨rfl, h⟩ := h
    refine ⟨[], ⟨0, 9, 12, 19⟩, [], 3, 1, rfl, by decide, Or.inr ⟨3, rfl, rfl, dL_rows_12⟩, Nat.le_of_ble_eq_true rfl, rfl, Or.inl ⟨rfl, rfl, rfl⟩, ?_⟩
    refine a_iconst (pc := 13) X9 dL_rows_13 ?_
    exact a_ireturnH (pc := 14) X9 E rfl rfl (Nat.le_of_ble_eq_true rfl) (Nat.le_of_ble_eq_true rfl) dL_rows_14 ⟨rfl, _, rfl, (show inR 1 by decide), h⟩
  · refine a_i2l (pc := 7) X9 dL_rows_7 hr_1 ?_
    refine a_last (pc := 8) X9 (v := r_1) (atO hnn) (Nat.le_of_ble_eq_true rfl) (j := 0) rfl (Nat.le_of_ble_eq_true rfl) hr_1 dL_rows_8 (fun _ => ?_)
    obtain ⟨G_1, eG_1⟩ : ∃ G9, G9 = upG G 285 0 r_1 := ⟨_, rfl⟩
    have hG_1 : GR G_1 := by rw [eG_1]; exact (GR.up hG hr_1)
    have h := h G_1 eG_1
    rw [← eG_1]
    refine a_goto (pc := 9) (tgt := 15) X9 dL_rows_9 rfl ?_
    refine a_iconst (pc := 15) X9 dL_rows_15 ?_
    exact a_ireturnH (pc := 16) X9 E rfl rfl (Nat.le_of_ble_eq_true rfl) (Nat.le_of_ble_eq_true rfl) dL_rows_16 ⟨rfl, _, rfl, (show inR 0 by decide), h⟩
set_option maxHeartbeats 4000000 in
set_option maxRecDepth 100000 in
theorem m_L_saveSnapshot {nn : Nat} {i1 : Int} {G : GH} {Q : Int → GH → Prop} (hi1 : inR i1) (hnn : 286 ≤ nn) (h : f_L_saveSnapshot i1 G Q) : MtH yL_saveSnapshot cL_saveSnapshot 4 (some .int) [(0, 9, 12, 13)] 8 123 1 6 [vr 0, vi i1, vr 285] (SF nn) G (fun v S' G' => S' = SF nn ∧ qI Q v S' G') := by
  refine MtH.of (l0 := [some (vr 0), some (vi i1), some (vr 285), none]) (by decide) (Nat.le_of_ble_eq_true rfl) rfl ?_
  intro κ δ ρ0 X9 E hG
  replace X9 : CX κ δ RL cL_saveSnapshot 4 (some .int) := X9
  have hnn0 : 272 ≤ nn := by omega
  refine a_aload_n (pc := 0) X9 dL_saveSnapshot_0 rfl rfl ?_
  refine a_iconst (pc := 1) X9 dL_saveSnapshot_1 ?_
  refine a_aload_n (pc := 2) X9 dL_saveSnapshot_2 rfl rfl ?_
  refine a_iload_n (pc := 3) X9 dL_saveSnapshot_3 rfl rfl ?_
  refine a_callVH (pc := 4) X9 E (m_X9_saveSnapshot hi1 hnn0 h) okX9 (is9 hnn0) wM_L_105 w_instanceMethod_X9_saveSnapshot w_selects_X9_saveSnapshot w_initialized_RX9 w_code_X9_saveSnapshot cp_X9_saveSnapshot pn_X9_saveSnapshot rfl (Nat.le_of_ble_eq_true rfl) ⟨Nat.le_of_ble_eq_true rfl, Nat.le_of_ble_eq_true rfl⟩ ⟨Nat.le_of_ble_eq_true rfl, Nat.le_of_ble_eq_true rfl⟩ dL_saveSnapshot_4 (fun E9 G9 h hG9 => ?_) (kI (fun r_1 G_1 hr_1 h hG_1 => ?_))
  · obtain ⟨rfl, h⟩ := h
    refine ⟨[], ⟨0, 9, 12, 13⟩, [], 3, 1, rfl, by decide, Or.inr ⟨3, rfl, rfl, dL_saveSnapshot_12⟩, Nat.le_of_ble_eq_true rfl, rfl, Or.inr ⟨rfl, rfl, by decide⟩, ?_⟩
    refine a_iconst (pc := 13) X9 dL_saveSnapshot_13 ?_
    exact a_ireturnH (pc := 14) X9 E rfl rfl (Nat.le_of_ble_eq_true rfl) (Nat.le_of_ble_eq_true rfl) dL_saveSnapshot_14 ⟨rfl, _, rfl, (show inR 1 by decide), h⟩
  · refine a_i2l (pc := 7) X9 dL_saveSnapshot_7 hr_1 ?_
    refine a_last (pc := 8) X9 (v := r_1) (atO hnn) (Nat.le_of_ble_eq_true rfl) (j := 0) rfl (Nat.le_of_ble_eq_true rfl) hr_1 dL_saveSnapshot_8 (fun _ => ?_)
    obtain ⟨G_2, eG_2⟩ : ∃ G9, G9 = upG G_1 285 0 r_1 := ⟨_, rfl⟩
    have hG_2 : GR G_2 := by rw [eG_2]; exact (GR.up hG_1 hr_1)
    have h := h G_2 eG_2
    rw [← eG_2]
    refine a_goto (pc := 9) (tgt := 15) X9 dL_saveSnapshot_9 rfl ?_
    refine a_iconst (pc := 15) X9 dL_saveSnapshot_15 ?_
    exact a_ireturnH (pc := 16) X9 E rfl rfl (Nat.le_of_ble_eq_true rfl) (Nat.le_of_ble_eq_true rfl) dL_saveSnapshot_16 ⟨rfl, _, rfl, (show inR 0 by decide), h⟩
set_option maxHeartbeats 4000000 in
set_option maxRecDepth 100000 in
theorem m_L_setHymn {nn : Nat} {i1 : Int} {i2 : Int} {i3 : Int} {G : GH} {Q : Int → GH → Prop} (hi1 : inR i1) (hi2 : inR i2) (hi3 : inR i3) (hnn : 286 ≤ nn) (h : f_L_setHymn i1 i2 i3 G Q) : MtH yL_setHymn cL_setHymn 6 (some .int) [(0, 12, 15, 19), (0, 12, 19, 13)] 9 147 2 12 [vr 0, vi i1, vi i2, vi i3, vr 285] (SF nn) G (fun v S' G' => S' = SF nn ∧ qI Q v S' G') := by
  refine MtH.of (l0 := [some (vr 0), some (vi i1), some (vi i2), some (vi i3), some (vr 285), none]) (by decide) (Nat.le_of_ble_eq_true rfl) rfl ?_
  intro κ δ ρ0 X9 E hG
  replace X9 : CX κ δ RL cL_setHymn 6 (some .int) := X9
  have hnn0 : 272 ≤ nn := by omega
  refine a_aload (pc := 0) X9 dL_setHymn_0 rfl ?_
  refine a_iconst (pc := 2) X9 dL_setHymn_2 ?_
  refine a_aload_n (pc := 3) X9 dL_setHymn_3 rfl rfl ?_
  refine a_iload_n (pc := 4) X9 dL_setHymn_4 rfl rfl ?_
  refine a_iload_n (pc := 5) X9 dL_setHymn_5 rfl rfl ?_
  refine a_iload_n (pc := 6) X9 dL_setHymn_6 rfl rfl ?_
  refine a_callVH (pc := 7) X9 E (m_X9_setHymn hi1 hi2 hi3 hnn0 h) okX9 (is9 hnn0) wM_L_93 w_instanceMethod_X9_setHymn w_selects_X9_setHymn w_initialized_RX9 w_code_X9_setHymn cp_X9_setHymn pn_X9_setHymn rfl (Nat.le_of_ble_eq_true rfl) ⟨Nat.le_of_ble_eq_true rfl, Nat.le_of_ble_eq_true rfl⟩ ⟨Nat.le_of_ble_eq_true rfl, Nat.le_of_ble_eq_true rfl⟩ dL_setHymn_7 (fun E9 G9 h hG9 => ?_) (kI (fun r_1 G_1 hr_1 h hG_1 => ?_))
  · rcases h with ⟨rfl, h⟩ | ⟨rfl, h⟩
    · refine ⟨[], ⟨0, 12, 15, 19⟩, [⟨0, 12, 19, 13⟩], 5, 2, rfl, by decide, Or.inl ⟨rfl, dL_setHymn_15⟩, Nat.le_of_ble_eq_true rfl, rfl, Or.inl ⟨rfl, rfl, rfl⟩, ?_⟩
      refine a_iconst (pc := 17) X9 dL_setHymn_17 ?_
      exact a_ireturnH (pc := 18) X9 E rfl rfl (Nat.le_of_ble_eq_true rfl) (Nat.le_of_ble_eq_true rfl) dL_setHymn_18 ⟨rfl, _, rfl, (show inR 1 by decide), h⟩
    · refine ⟨[⟨0, 12, 15, 19⟩], ⟨0, 12, 19, 13⟩, [], 5, 2, rfl, by decide, Or.inl ⟨rfl, dL_setHymn_19⟩, Nat.le_of_ble_eq_true rfl, rfl, Or.inr ⟨rfl, rfl, by decide⟩, ?_⟩
      refine a_iconst (pc := 21) X9 dL_setHymn_21 ?_
      exact a_ireturnH (pc := 22) X9 E rfl rfl (Nat.le_of_ble_eq_true rfl) (Nat.le_of_ble_eq_true rfl) dL_setHymn_22 ⟨rfl, _, rfl, (show inR 2 by decide), h⟩
  · refine a_i2l (pc := 10) X9 dL_setHymn_10 hr_1 ?_
    refine a_last (pc := 11) X9 (v := r_1) (atO hnn) (Nat.le_of_ble_eq_true rfl) (j := 0) rfl (Nat.le_of_ble_eq_true rfl) hr_1 dL_setHymn_11 (fun _ => ?_)
    obtain ⟨G_2, eG_2⟩ : ∃ G9, G9 = upG G_1 285 0 r_1 := ⟨_, rfl⟩
    have hG_2 : GR G_2 := by rw [eG_2]; exact (GR.up hG_1 hr_1)
    have h := h G_2 eG_2
    rw [← eG_2]
    refine a_goto (pc := 12) (tgt := 23) X9 dL_setHymn_12 rfl ?_
    refine a_iconst (pc := 23) X9 dL_setHymn_23 ?_
    exact a_ireturnH (pc := 24) X9 E rfl rfl (Nat.le_of_ble_eq_true rfl) (Nat.le_of_ble_eq_true rfl) dL_setHymn_24 ⟨rfl, _, rfl, (show inR 0 by decide), h⟩
set_option maxHeartbeats 4000000 in
set_option maxRecDepth 100000 in
theorem m_L_size {nn : Nat} {i1 : Int} {G : GH} {Q : Int → GH → Prop} (hi1 : inR i1) (hnn : 286 ≤ nn) (h : f_L_size i1 G Q) : MtH yL_size cL_size 4 (some .int) [(0, 9, 12, 13)] 7 103 1 6 [vr 0, vi i1, vr 285] (SF nn) G (fun v S' G' => S' = SF nn ∧ qI Q v S' G') := by
  refine MtH.of (l0 := [some (vr 0), some (vi i1), some (vr 285), none]) (by decide) (Nat.le_of_ble_eq_true rfl) rfl ?_
  intro κ δ ρ0 X9 E hG
  replace X9 : CX κ δ RL cL_size 4 (some .int) := X9
  have hnn0 : 272 ≤ nn := by omega
  refine a_aload_n (pc := 0) X9 dL_size_0 rfl rfl ?_
  refine a_iconst (pc := 1) X9 dL_size_1 ?_
  refine a_aload_n (pc := 2) X9 dL_size_2 rfl rfl ?_
  refine a_iload_n (pc := 3) X9 dL_size_3 rfl rfl ?_
  refine a_callVH (pc := 4) X9 E (m_X9_size hi1 hnn0 h) okX9 (is9 hnn0) wM_L_7 w_instanceMethod_X9_size w_selects_X9_size w_initialized_RX9 w_code_X9_size cp_X9_size pn_X9_size rfl (Nat.le_of_ble_eq_true rfl) ⟨Nat.le_of_ble_eq_true rfl, Nat.le_of_ble_eq_true rfl⟩ ⟨Nat.le_of_ble_eq_true rfl, Nat.le_of_ble_eq_true rfl⟩ dL_size_4 (fun E9 G9 h hG9 => ?_) (kIp (fun r_1 hr_1 h => ?_))
  · obtain ⟨rfl, h⟩ := h
    obtain ⟨rfl, h⟩ := h
    refine ⟨[], ⟨0, 9, 12, 13⟩, [], 3, 1, rfl, by decide, Or.inr ⟨3, rfl, rfl, dL_size_12⟩, Nat.le_of_ble_eq_true rfl, rfl, Or.inr ⟨rfl, rfl, by decide⟩, ?_⟩
    refine a_iconst (pc := 13) X9 dL_size_13 ?_
    exact a_ireturnH (pc := 14) X9 E rfl rfl (Nat.le_of_ble_eq_true rfl) (Nat.le_of_ble_eq_true rfl) dL_size_14 ⟨rfl, _, rfl, (show inR 1 by decide), h⟩
  · refine a_i2l (pc := 7) X9 dL_size_7 hr_1 ?_
    refine a_last (pc := 8) X9 (v := r_1) (atO hnn) (Nat.le_of_ble_eq_true rfl) (j := 0) rfl (Nat.le_of_ble_eq_true rfl) hr_1 dL_size_8 (fun _ => ?_)
    obtain ⟨G_1, eG_1⟩ : ∃ G9, G9 = upG G 285 0 r_1 := ⟨_, rfl⟩
    have hG_1 : GR G_1 := by rw [eG_1]; exact (GR.up hG hr_1)
    have h := h G_1 eG_1
    rw [← eG_1]
    refine a_goto (pc := 9) (tgt := 15) X9 dL_size_9 rfl ?_
    refine a_iconst (pc := 15) X9 dL_size_15 ?_
    exact a_ireturnH (pc := 16) X9 E rfl rfl (Nat.le_of_ble_eq_true rfl) (Nat.le_of_ble_eq_true rfl) dL_size_16 ⟨rfl, _, rfl, (show inR 0 by decide), h⟩
set_option maxHeartbeats 4000000 in
set_option maxRecDepth 100000 in
theorem m_L_way {nn : Nat} {i1 : Int} {i2 : Int} {G : GH} {Q : Int → GH → Prop} (hi1 : inR i1) (hi2 : inR i2) (hnn : 286 ≤ nn) (h : f_L_way i1 i2 G Q) : MtH yL_way cL_way 5 (some .int) [(0, 10, 13, 19), (0, 10, 17, 13)] 10 168 2 12 [vr 0, vi i1, vi i2, vr 285] (SF nn) G (fun v S' G' => S' = SF nn ∧ qI Q v S' G') := by
  refine MtH.of (l0 := [some (vr 0), some (vi i1), some (vi i2), some (vr 285), none]) (by decide) (Nat.le_of_ble_eq_true rfl) rfl ?_
  intro κ δ ρ0 X9 E hG
  replace X9 : CX κ δ RL cL_way 5 (some .int) := X9
  have hnn0 : 272 ≤ nn := by omega
  refine a_aload_n (pc := 0) X9 dL_way_0 rfl rfl ?_
  refine a_iconst (pc := 1) X9 dL_way_1 ?_
  refine a_aload_n (pc := 2) X9 dL_way_2 rfl rfl ?_
  refine a_iload_n (pc := 3) X9 dL_way_3 rfl rfl ?_
  refine a_iload_n (pc := 4) X9 dL_way_4 rfl rfl ?_
  refine a_callVH (pc := 5) X9 E (m_X9_way hi1 hi2 hnn0 h) okX9 (is9 hnn0) wM_L_21 w_instanceMethod_X9_way w_selects_X9_way w_initialized_RX9 w_code_X9_way cp_X9_way pn_X9_way rfl (Nat.le_of_ble_eq_true rfl) ⟨Nat.le_of_ble_eq_true rfl, Nat.le_of_ble_eq_true rfl⟩ ⟨Nat.le_of_ble_eq_true rfl, Nat.le_of_ble_eq_true rfl⟩ dL_way_5 (fun E9 G9 h hG9 => ?_) (kIp (fun r_1 hr_1 h => ?_))
  · obtain ⟨rfl, h⟩ := h
    rcases h with ⟨rfl, h⟩ | ⟨rfl, h⟩
    · refine ⟨[], ⟨0, 10, 13, 19⟩, [⟨0, 10, 17, 13⟩], 4, 2, rfl, by decide, Or.inl ⟨rfl, dL_way_13⟩, Nat.le_of_ble_eq_true rfl, rfl, Or.inl ⟨rfl, rfl, rfl⟩, ?_⟩
      refine a_iconst (pc := 15) X9 dL_way_15 ?_
      exact a_ireturnH (pc := 16) X9 E rfl rfl (Nat.le_of_ble_eq_true rfl) (Nat.le_of_ble_eq_true rfl) dL_way_16 ⟨rfl, _, rfl, (show inR 1 by decide), h⟩
    · refine ⟨[⟨0, 10, 13, 19⟩], ⟨0, 10, 17, 13⟩, [], 4, 2, rfl, by decide, Or.inl ⟨rfl, dL_way_17⟩, Nat.le_of_ble_eq_true rfl, rfl, Or.inr ⟨rfl, rfl, by decide⟩, ?_⟩
      refine a_iconst (pc := 19) X9 dL_way_19 ?_
      exact a_ireturnH (pc := 20) X9 E rfl rfl (Nat.le_of_ble_eq_true rfl) (Nat.le_of_ble_eq_true rfl) dL_way_20 ⟨rfl, _, rfl, (show inR 2 by decide), h⟩
  · refine a_i2l (pc := 8) X9 dL_way_8 hr_1 ?_
    refine a_last (pc := 9) X9 (v := r_1) (atO hnn) (Nat.le_of_ble_eq_true rfl) (j := 0) rfl (Nat.le_of_ble_eq_true rfl) hr_1 dL_way_9 (fun _ => ?_)
    obtain ⟨G_1, eG_1⟩ : ∃ G9, G9 = upG G 285 0 r_1 := ⟨_, rfl⟩
    have hG_1 : GR G_1 := by rw [eG_1]; exact (GR.up hG hr_1)
    have h := h G_1 eG_1
    rw [← eG_1]
    refine a_goto (pc := 10) (tgt := 21) X9 dL_way_10 rfl ?_
    refine a_iconst (pc := 21) X9 dL_way_21 ?_
    exact a_ireturnH (pc := 22) X9 E rfl rfl (Nat.le_of_ble_eq_true rfl) (Nat.le_of_ble_eq_true rfl) dL_way_22 ⟨rfl, _, rfl, (show inR 0 by decide), h⟩
set_option maxHeartbeats 4000000 in
set_option maxRecDepth 100000 in
theorem m_L_workFrom {nn : Nat} {i1 : Int} {i2 : Int} {G : GH} {Q : Int → GH → Prop} (hi1 : inR i1) (hi2 : inR i2) (hnn : 286 ≤ nn) (h : f_L_workFrom i1 i2 G Q) : MtH yL_workFrom cL_workFrom 5 (some .int) [(0, 10, 13, 19)] 9 171 2 12 [vr 0, vi i1, vi i2, vr 285] (SF nn) G (fun v S' G' => S' = SF nn ∧ qI Q v S' G') := by
  refine MtH.of (l0 := [some (vr 0), some (vi i1), some (vi i2), some (vr 285), none]) (by decide) (Nat.le_of_ble_eq_true rfl) rfl ?_
  intro κ δ ρ0 X9 E hG
  replace X9 : CX κ δ RL cL_workFrom 5 (some .int) := X9
  have hnn0 : 272 ≤ nn := by omega
  refine a_aload_n (pc := 0) X9 dL_workFrom_0 rfl rfl ?_
  refine a_iconst (pc := 1) X9 dL_workFrom_1 ?_
  refine a_aload_n (pc := 2) X9 dL_workFrom_2 rfl rfl ?_
  refine a_iload_n (pc := 3) X9 dL_workFrom_3 rfl rfl ?_
  refine a_iload_n (pc := 4) X9 dL_workFrom_4 rfl rfl ?_
  refine a_callVH (pc := 5) X9 E (m_X9_workFrom hi1 hi2 hnn0 h) okX9 (is9 hnn0) wM_L_68 w_instanceMethod_X9_workFrom w_selects_X9_workFrom w_initialized_RX9 w_code_X9_workFrom cp_X9_workFrom pn_X9_workFrom rfl (Nat.le_of_ble_eq_true rfl) ⟨Nat.le_of_ble_eq_true rfl, Nat.le_of_ble_eq_true rfl⟩ ⟨Nat.le_of_ble_eq_true rfl, Nat.le_of_ble_eq_true rfl⟩ dL_workFrom_5 (fun E9 G9 h hG9 => ?_) (kI (fun r_1 G_1 hr_1 h hG_1 => ?_))
  · obtain ⟨rfl, h⟩ := h
    refine ⟨[], ⟨0, 10, 13, 19⟩, [], 4, 2, rfl, by decide, Or.inl ⟨rfl, dL_workFrom_13⟩, Nat.le_of_ble_eq_true rfl, rfl, Or.inl ⟨rfl, rfl, rfl⟩, ?_⟩
    refine a_iconst (pc := 15) X9 dL_workFrom_15 ?_
    exact a_ireturnH (pc := 16) X9 E rfl rfl (Nat.le_of_ble_eq_true rfl) (Nat.le_of_ble_eq_true rfl) dL_workFrom_16 ⟨rfl, _, rfl, (show inR 1 by decide), h⟩
  · refine a_i2l (pc := 8) X9 dL_workFrom_8 hr_1 ?_
    refine a_last (pc := 9) X9 (v := r_1) (atO hnn) (Nat.le_of_ble_eq_true rfl) (j := 0) rfl (Nat.le_of_ble_eq_true rfl) hr_1 dL_workFrom_9 (fun _ => ?_)
    obtain ⟨G_2, eG_2⟩ : ∃ G9, G9 = upG G_1 285 0 r_1 := ⟨_, rfl⟩
    have hG_2 : GR G_2 := by rw [eG_2]; exact (GR.up hG_1 hr_1)
    have h := h G_2 eG_2
    rw [← eG_2]
    refine a_goto (pc := 10) (tgt := 17) X9 dL_workFrom_10 rfl ?_
    refine a_iconst (pc := 17) X9 dL_workFrom_17 ?_
    exact a_ireturnH (pc := 18) X9 E rfl rfl (Nat.le_of_ble_eq_true rfl) (Nat.le_of_ble_eq_true rfl) dL_workFrom_18 ⟨rfl, _, rfl, (show inR 0 by decide), h⟩
set_option maxHeartbeats 4000000 in
set_option maxRecDepth 100000 in
theorem m_L_would {nn : Nat} {i1 : Int} {i2 : Int} {G : GH} {Q : Int → GH → Prop} (hi1 : inR i1) (hi2 : inR i2) (hnn : 286 ≤ nn) (h : f_L_would i1 i2 G Q) : MtH yL_would cL_would 5 (some .int) [(0, 10, 13, 19), (0, 10, 17, 13)] 9 171 2 12 [vr 0, vi i1, vi i2, vr 285] (SF nn) G (fun v S' G' => S' = SF nn ∧ qI Q v S' G') := by
  refine MtH.of (l0 := [some (vr 0), some (vi i1), some (vi i2), some (vr 285), none]) (by decide) (Nat.le_of_ble_eq_true rfl) rfl ?_
  intro κ δ ρ0 X9 E hG
  replace X9 : CX κ δ RL cL_would 5 (some .int) := X9
  have hnn0 : 272 ≤ nn := by omega
  refine a_aload_n (pc := 0) X9 dL_would_0 rfl rfl ?_
  refine a_iconst (pc := 1) X9 dL_would_1 ?_
  refine a_aload_n (pc := 2) X9 dL_would_2 rfl rfl ?_
  refine a_iload_n (pc := 3) X9 dL_would_3 rfl rfl ?_
  refine a_iload_n (pc := 4) X9 dL_would_4 rfl rfl ?_
  refine a_callVH (pc := 5) X9 E (m_X9_would hi1 hi2 hnn0 h) okX9 (is9 hnn0) wM_L_56 w_instanceMethod_X9_would w_selects_X9_would w_initialized_RX9 w_code_X9_would cp_X9_would pn_X9_would rfl (Nat.le_of_ble_eq_true rfl) ⟨Nat.le_of_ble_eq_true rfl, Nat.le_of_ble_eq_true rfl⟩ ⟨Nat.le_of_ble_eq_true rfl, Nat.le_of_ble_eq_true rfl⟩ dL_would_5 (fun E9 G9 h hG9 => ?_) (kI (fun r_1 G_1 hr_1 h hG_1 => ?_))
  · rcases h with ⟨rfl, h⟩ | ⟨rfl, h⟩
    · refine ⟨[], ⟨0, 10, 13, 19⟩, [⟨0, 10, 17, 13⟩], 4, 2, rfl, by decide, Or.inl ⟨rfl, dL_would_13⟩, Nat.le_of_ble_eq_true rfl, rfl, Or.inl ⟨rfl, rfl, rfl⟩, ?_⟩
      refine a_iconst (pc := 15) X9 dL_would_15 ?_
      exact a_ireturnH (pc := 16) X9 E rfl rfl (Nat.le_of_ble_eq_true rfl) (Nat.le_of_ble_eq_true rfl) dL_would_16 ⟨rfl, _, rfl, (show inR 1 by decide), h⟩
    · refine ⟨[⟨0, 10, 13, 19⟩], ⟨0, 10, 17, 13⟩, [], 4, 2, rfl, by decide, Or.inl ⟨rfl, dL_would_17⟩, Nat.le_of_ble_eq_true rfl, rfl, Or.inr ⟨rfl, rfl, by decide⟩, ?_⟩
      refine a_iconst (pc := 19) X9 dL_would_19 ?_
      exact a_ireturnH (pc := 20) X9 E rfl rfl (Nat.le_of_ble_eq_true rfl) (Nat.le_of_ble_eq_true rfl) dL_would_20 ⟨rfl, _, rfl, (show inR 2 by decide), h⟩
  · refine a_i2l (pc := 8) X9 dL_would_8 hr_1 ?_
    refine a_last (pc := 9) X9 (v := r_1) (atO hnn) (Nat.le_of_ble_eq_true rfl) (j := 0) rfl (Nat.le_of_ble_eq_true rfl) hr_1 dL_would_9 (fun _ => ?_)
    obtain ⟨G_2, eG_2⟩ : ∃ G9, G9 = upG G_1 285 0 r_1 := ⟨_, rfl⟩
    have hG_2 : GR G_2 := by rw [eG_2]; exact (GR.up hG_1 hr_1)
    have h := h G_2 eG_2
    rw [← eG_2]
    refine a_goto (pc := 10) (tgt := 21) X9 dL_would_10 rfl ?_
    refine a_iconst (pc := 21) X9 dL_would_21 ?_
    exact a_ireturnH (pc := 22) X9 E rfl rfl (Nat.le_of_ble_eq_true rfl) (Nat.le_of_ble_eq_true rfl) dL_would_22 ⟨rfl, _, rfl, (show inR 0 by decide), h⟩
set_option maxHeartbeats 4000000 in
set_option maxRecDepth 100000 in
theorem m_L_writeService {nn : Nat} {i1 : Int} {G : GH} {Q : Int → GH → Prop} (hi1 : inR i1) (hnn : 286 ≤ nn) (h : f_L_writeService i1 G Q) : MtH yL_writeService cL_writeService 4 (some .int) [(0, 9, 12, 19)] 9 145 1 6 [vr 0, vi i1, vr 285] (SF nn) G (fun v S' G' => S' = SF nn ∧ qI Q v S' G') := by
  refine MtH.of (l0 := [some (vr 0), some (vi i1), some (vr 285), none]) (by decide) (Nat.le_of_ble_eq_true rfl) rfl ?_
  intro κ δ ρ0 X9 E hG
  replace X9 : CX κ δ RL cL_writeService 4 (some .int) := X9
  have hnn0 : 272 ≤ nn := by omega
  refine a_aload_n (pc := 0) X9 dL_writeService_0 rfl rfl ?_
  refine a_iconst (pc := 1) X9 dL_writeService_1 ?_
  refine a_aload_n (pc := 2) X9 dL_writeService_2 rfl rfl ?_
  refine a_iload_n (pc := 3) X9 dL_writeService_3 rfl rfl ?_
  refine a_callVH (pc := 4) X9 E (m_X9_writeService hi1 hnn0 h) okX9 (is9 hnn0) wM_L_102 w_instanceMethod_X9_writeService w_selects_X9_writeService w_initialized_RX9 w_code_X9_writeService cp_X9_writeService pn_X9_writeService rfl (Nat.le_of_ble_eq_true rfl) ⟨Nat.le_of_ble_eq_true rfl, Nat.le_of_ble_eq_true rfl⟩ ⟨Nat.le_of_ble_eq_true rfl, Nat.le_of_ble_eq_true rfl⟩ dL_writeService_4 (fun E9 G9 h hG9 => ?_) (kI (fun r_1 G_1 hr_1 h hG_1 => ?_))
  · obtain ⟨rfl, h⟩ := h
    refine ⟨[], ⟨0, 9, 12, 19⟩, [], 3, 1, rfl, by decide, Or.inr ⟨3, rfl, rfl, dL_writeService_12⟩, Nat.le_of_ble_eq_true rfl, rfl, Or.inl ⟨rfl, rfl, rfl⟩, ?_⟩
    refine a_iconst (pc := 13) X9 dL_writeService_13 ?_
    exact a_ireturnH (pc := 14) X9 E rfl rfl (Nat.le_of_ble_eq_true rfl) (Nat.le_of_ble_eq_true rfl) dL_writeService_14 ⟨rfl, _, rfl, (show inR 1 by decide), h⟩
  · refine a_i2l (pc := 7) X9 dL_writeService_7 hr_1 ?_
    refine a_last (pc := 8) X9 (v := r_1) (atO hnn) (Nat.le_of_ble_eq_true rfl) (j := 0) rfl (Nat.le_of_ble_eq_true rfl) hr_1 dL_writeService_8 (fun _ => ?_)
    obtain ⟨G_2, eG_2⟩ : ∃ G9, G9 = upG G_1 285 0 r_1 := ⟨_, rfl⟩
    have hG_2 : GR G_2 := by rw [eG_2]; exact (GR.up hG_1 hr_1)
    have h := h G_2 eG_2
    rw [← eG_2]
    refine a_goto (pc := 9) (tgt := 15) X9 dL_writeService_9 rfl ?_
    refine a_iconst (pc := 15) X9 dL_writeService_15 ?_
    exact a_ireturnH (pc := 16) X9 E rfl rfl (Nat.le_of_ble_eq_true rfl) (Nat.le_of_ble_eq_true rfl) dL_writeService_16 ⟨rfl, _, rfl, (show inR 0 by decide), h⟩
set_option maxHeartbeats 4000000 in
set_option maxRecDepth 100000 in
theorem m_law_0 {κ : Cx} {δ : Dx} {ρ0 : Nat → Nat} {n0 cb sb nn L : Nat} {xs : Nat → Int32} {i4 : Int} {G : GH} {K : GH → Prop} (X9 : CX κ δ RL cL_law 9 ret) (E : RmL κ) (LX : LawX κ δ ρ0 L xs) (hnn : 286 ≤ nn) (hi4 : inR i4) (hG : GR G) (hcb : cb + 4 ≤ 601024 ∧ sb + 24 ≤ 7293033) (hK : ∀ G9, K G9 → GR G9 → AW κ δ ρ0 n0 9 (cb + 4) (sb + 24) 2618 [some (vr (strB + 30)), some (vr 0), some (vr 272), some (vr 285), some (vi i4), none, none, none, none] [] (SF nn) G9) (h : f_law_0 L xs i4 G K) : AW κ δ ρ0 n0 9 cb sb 244 [some (vr (strB + 30)), some (vr 0), some (vr 272), some (vr 285), some (vi i4), none, none, none, none] [] (SF nn) G := by
  have hnn0 : 272 ≤ nn := by omega
  have hnn1 : 285 ≤ nn := by omega
  refine a_aload_n (pc := 244) X9 dL_law_244 rfl rfl ?_
  refine a_aload_n (pc := 245) X9 dL_law_245 rfl rfl ?_
  refine a_iload (pc := 246) X9 dL_law_246 rfl ?_
  refine a_iconst (pc := 248) X9 dL_law_248 ?_
  refine a_iadd (pc := 249) X9 dL_law_249 ?_
  obtain ⟨g_1, h⟩ := h
  refine b_scr (pc := 250) X9 LX g_1 dL_law_250 ?_
  refine a_i2l (pc := 251) X9 dL_law_251 (inR_toInt _) ?_
  refine a_bipush (pc := 252) X9 dL_law_252 rfl ?_
  refine b_lshl (pc := 254) X9 dL_law_254 ?_
  refine a_aload_n (pc := 255) X9 dL_law_255 rfl rfl ?_
  refine a_iload (pc := 256) X9 dL_law_256 rfl ?_
  refine a_iconst (pc := 258) X9 dL_law_258 ?_
  refine a_iadd (pc := 259) X9 dL_law_259 ?_
  obtain ⟨g_2, h⟩ := h
  refine b_scr (pc := 260) X9 LX g_2 dL_law_260 ?_
  refine a_i2l (pc := 261) X9 dL_law_261 (inR_toInt _) ?_
  refine a_ldc2 (pc := 262) X9 (n := 4294967295) wCL_L_115 dL_law_262 (by decide +kernel) ?_
  refine b_land (pc := 265) X9 dL_law_265 ?_
  refine b_lor (pc := 266) X9 dL_law_266 ?_
  refine a_callVL (pc := 267) X9 E (m_X9_append inL_lOr hnn0 h) okX9 (is9 hnn0) wM_L_117 w_instanceMethod_X9_append w_selects_X9_append w_initialized_RX9 w_code_X9_append cp_X9_append pn_X9_append rfl (Nat.le_of_ble_eq_true rfl) ⟨Nat.le_of_ble_eq_true rfl, Nat.le_of_ble_eq_true rfl⟩ ⟨by omega, by omega⟩ dL_law_267 (kI (fun r_1 G_1 hr_1 h hG_1 => ?_))
  refine a_aload_n (pc := 270) X9 dL_law_270 rfl rfl ?_
  refine a_aload_n (pc := 271) X9 dL_law_271 rfl rfl ?_
  refine a_iload (pc := 272) X9 dL_law_272 rfl ?_
  refine a_iconst (pc := 274) X9 dL_law_274 ?_
  refine a_iadd (pc := 275) X9 dL_law_275 ?_
  refine b_scr (pc := 276) X9 LX g_1 dL_law_276 ?_
  refine a_i2l (pc := 277) X9 dL_law_277 (inR_toInt _) ?_
  refine a_bipush (pc := 278) X9 dL_law_278 rfl ?_
  refine b_lshl (pc := 280) X9 dL_law_280 ?_
  refine a_aload_n (pc := 281) X9 dL_law_281 rfl rfl ?_
  refine a_iload (pc := 282) X9 dL_law_282 rfl ?_
  refine a_iconst (pc := 284) X9 dL_law_284 ?_
  refine a_iadd (pc := 285) X9 dL_law_285 ?_
  refine b_scr (pc := 286) X9 LX g_2 dL_law_286 ?_
  refine a_i2l (pc := 287) X9 dL_law_287 (inR_toInt _) ?_
  refine a_ldc2 (pc := 288) X9 (n := 4294967295) wCL_L_115 dL_law_288 (by decide +kernel) ?_
  refine b_land (pc := 291) X9 dL_law_291 ?_
  refine b_lor (pc := 292) X9 dL_law_292 ?_
  refine a_callVL (pc := 293) X9 E (m_X10_append inL_lOr hnn1 h) okX10 (is10 hnn1) wM_L_121 w_instanceMethod_X10_append w_selects_X10_append w_initialized_RX10 w_code_X10_append cp_X10_append pn_X10_append rfl (Nat.le_of_ble_eq_true rfl) ⟨Nat.le_of_ble_eq_true rfl, Nat.le_of_ble_eq_true rfl⟩ ⟨by omega, by omega⟩ dL_law_293 (kI (fun r_2 G_2 hr_2 h hG_2 => ?_))
  refine a_icmp_eq (pc := 296) (tgt := 2618) X9 dL_law_296 rfl hr_1 hr_2 (fun c => ?_) (fun c => ?_)
  · have c_1 := c
    have h := h.1 c_1
    refine AW.widen (cb' := cb + 4) (sb' := sb + 24) (by omega) (by omega) ?_
    exact hK _ h hG_2
  · have c_1 := c
    have h := h.2 c_1
    refine a_iconst (pc := 299) X9 dL_law_299 ?_
    exact h.elim
set_option maxHeartbeats 4000000 in
set_option maxRecDepth 100000 in
theorem m_law_1 {κ : Cx} {δ : Dx} {ρ0 : Nat → Nat} {n0 cb sb nn L : Nat} {xs : Nat → Int32} {i4 : Int} {G : GH} {K : GH → Prop} (X9 : CX κ δ RL cL_law 9 ret) (E : RmL κ) (LX : LawX κ δ ρ0 L xs) (hnn : 286 ≤ nn) (hi4 : inR i4) (hG : GR G) (hcb : cb + 4 ≤ 601024 ∧ sb + 24 ≤ 7293033) (hK : ∀ G9, K G9 → GR G9 → AW κ δ ρ0 n0 9 (cb + 4) (sb + 24) 2618 [some (vr (strB + 30)), some (vr 0), some (vr 272), some (vr 285), some (vi i4), none, none, none, none] [] (SF nn) G9) (h : f_law_1 L xs i4 G K) : AW κ δ ρ0 n0 9 cb sb 301 [some (vr (strB + 30)), some (vr 0), some (vr 272), some (vr 285), some (vi i4), none, none, none, none] [] (SF nn) G := by
  have hnn0 : 272 ≤ nn := by omega
  have hnn1 : 285 ≤ nn := by omega
  refine a_aload_n (pc := 301) X9 dL_law_301 rfl rfl ?_
  refine a_callVL (pc := 302) X9 E (m_X9_load  hnn0 h) okX9 (is9 hnn0) wM_L_122 w_instanceMethod_X9_load w_selects_X9_load w_initialized_RX9 w_code_X9_load cp_X9_load pn_X9_load rfl (Nat.le_of_ble_eq_true rfl) ⟨Nat.le_of_ble_eq_true rfl, Nat.le_of_ble_eq_true rfl⟩ ⟨by omega, by omega⟩ dL_law_302 (kI (fun r_1 G_1 hr_1 h hG_1 => ?_))
  refine a_aload_n (pc := 305) X9 dL_law_305 rfl rfl ?_
  refine a_callVL (pc := 306) X9 E (m_X10_load  hnn1 h) okX10 (is10 hnn1) wM_L_126 w_instanceMethod_X10_load w_selects_X10_load w_initialized_RX10 w_code_X10_load cp_X10_load pn_X10_load rfl (Nat.le_of_ble_eq_true rfl) ⟨Nat.le_of_ble_eq_true rfl, Nat.le_of_ble_eq_true rfl⟩ ⟨by omega, by omega⟩ dL_law_306 (kI (fun r_2 G_2 hr_2 h hG_2 => ?_))
  refine a_icmp_eq (pc := 309) (tgt := 2618) X9 dL_law_309 rfl hr_1 hr_2 (fun c => ?_) (fun c => ?_)
  · have c_1 := c
    have h := h.1 c_1
    refine AW.widen (cb' := cb + 4) (sb' := sb + 24) (by omega) (by omega) ?_
    exact hK _ h hG_2
  · have c_1 := c
    have h := h.2 c_1
    refine a_iconst (pc := 312) X9 dL_law_312 ?_
    exact h.elim
set_option maxHeartbeats 4000000 in
set_option maxRecDepth 100000 in
theorem m_law_2 {κ : Cx} {δ : Dx} {ρ0 : Nat → Nat} {n0 cb sb nn L : Nat} {xs : Nat → Int32} {i4 : Int} {G : GH} {K : GH → Prop} (X9 : CX κ δ RL cL_law 9 ret) (E : RmL κ) (LX : LawX κ δ ρ0 L xs) (hnn : 286 ≤ nn) (hi4 : inR i4) (hG : GR G) (hcb : cb + 4 ≤ 601024 ∧ sb + 24 ≤ 7293033) (hK : ∀ G9, K G9 → GR G9 → AW κ δ ρ0 n0 9 (cb + 4) (sb + 24) 2618 [some (vr (strB + 30)), some (vr 0), some (vr 272), some (vr 285), some (vi i4), none, none, none, none] [] (SF nn) G9) (h : f_law_2 L xs i4 G K) : AW κ δ ρ0 n0 9 cb sb 314 [some (vr (strB + 30)), some (vr 0), some (vr 272), some (vr 285), some (vi i4), none, none, none, none] [] (SF nn) G := by
  have hnn0 : 272 ≤ nn := by omega
  have hnn1 : 285 ≤ nn := by omega
  refine a_aload_n (pc := 314) X9 dL_law_314 rfl rfl ?_
  refine a_callVL (pc := 315) X9 E (m_X9_loadError  hnn0 h) okX9 (is9 hnn0) wM_L_127 w_instanceMethod_X9_loadError w_selects_X9_loadError w_initialized_RX9 w_code_X9_loadError cp_X9_loadError pn_X9_loadError rfl (Nat.le_of_ble_eq_true rfl) ⟨Nat.le_of_ble_eq_true rfl, Nat.le_of_ble_eq_true rfl⟩ ⟨by omega, by omega⟩ dL_law_315 (kIp (fun r_1 hr_1 h => ?_))
  refine a_aload_n (pc := 318) X9 dL_law_318 rfl rfl ?_
  refine a_callVL (pc := 319) X9 E (m_X10_loadError  hnn1 h) okX10 (is10 hnn1) wM_L_130 w_instanceMethod_X10_loadError w_selects_X10_loadError w_initialized_RX10 w_code_X10_loadError cp_X10_loadError pn_X10_loadError rfl (Nat.le_of_ble_eq_true rfl) ⟨Nat.le_of_ble_eq_true rfl, Nat.le_of_ble_eq_true rfl⟩ ⟨by omega, by omega⟩ dL_law_319 (kI (fun r_2 G_1 hr_2 h hG_1 => ?_))
  refine a_icmp_eq (pc := 322) (tgt := 2618) X9 dL_law_322 rfl hr_1 hr_2 (fun c => ?_) (fun c => ?_)
  · have c_1 := c
    have h := h.1 c_1
    refine AW.widen (cb' := cb + 4) (sb' := sb + 24) (by omega) (by omega) ?_
    exact hK _ h hG_1
  · have c_1 := c
    have h := h.2 c_1
    refine a_iconst (pc := 325) X9 dL_law_325 ?_
    exact h.elim
set_option maxHeartbeats 4000000 in
set_option maxRecDepth 100000 in
theorem m_law_3 {κ : Cx} {δ : Dx} {ρ0 : Nat → Nat} {n0 cb sb nn L : Nat} {xs : Nat → Int32} {i4 : Int} {G : GH} {K : GH → Prop} (X9 : CX κ δ RL cL_law 9 ret) (E : RmL κ) (LX : LawX κ δ ρ0 L xs) (hnn : 286 ≤ nn) (hi4 : inR i4) (hG : GR G) (hcb : cb + 4 ≤ 601024 ∧ sb + 24 ≤ 7293033) (hK : ∀ G9, K G9 → GR G9 → AW κ δ ρ0 n0 9 (cb + 4) (sb + 24) 2618 [some (vr (strB + 30)), some (vr 0), some (vr 272), some (vr 285), some (vi i4), none, none, none, none] [] (SF nn) G9) (h : f_law_3 L xs i4 G K) : AW κ δ ρ0 n0 9 cb sb 327 [some (vr (strB + 30)), some (vr 0), some (vr 272), some (vr 285), some (vi i4), none, none, none, none] [] (SF nn) G := by
  have hnn0 : 272 ≤ nn := by omega
  have hnn1 : 285 ≤ nn := by omega
  refine a_aload_n (pc := 327) X9 dL_law_327 rfl rfl ?_
  refine a_callVL (pc := 328) X9 E (m_X9_loadStatement  hnn0 h) okX9 (is9 hnn0) wM_L_131 w_instanceMethod_X9_loadStatement w_selects_X9_loadStatement w_initialized_RX9 w_code_X9_loadStatement cp_X9_loadStatement pn_X9_loadStatement rfl (Nat.le_of_ble_eq_true rfl) ⟨Nat.le_of_ble_eq_true rfl, Nat.le_of_ble_eq_true rfl⟩ ⟨by omega, by omega⟩ dL_law_328 (kIp (fun r_1 hr_1 h => ?_))
  refine a_aload_n (pc := 331) X9 dL_law_331 rfl rfl ?_
  refine a_callVL (pc := 332) X9 E (m_X10_loadStatement  hnn1 h) okX10 (is10 hnn1) wM_L_134 w_instanceMethod_X10_loadStatement w_selects_X10_loadStatement w_initialized_RX10 w_code_X10_loadStatement cp_X10_loadStatement pn_X10_loadStatement rfl (Nat.le_of_ble_eq_true rfl) ⟨Nat.le_of_ble_eq_true rfl, Nat.le_of_ble_eq_true rfl⟩ ⟨by omega, by omega⟩ dL_law_332 (kI (fun r_2 G_1 hr_2 h hG_1 => ?_))
  refine a_icmp_eq (pc := 335) (tgt := 2618) X9 dL_law_335 rfl hr_1 hr_2 (fun c => ?_) (fun c => ?_)
  · have c_1 := c
    have h := h.1 c_1
    refine AW.widen (cb' := cb + 4) (sb' := sb + 24) (by omega) (by omega) ?_
    exact hK _ h hG_1
  · have c_1 := c
    have h := h.2 c_1
    refine a_iconst (pc := 338) X9 dL_law_338 ?_
    exact h.elim
set_option maxHeartbeats 4000000 in
set_option maxRecDepth 100000 in
theorem m_law_4 {κ : Cx} {δ : Dx} {ρ0 : Nat → Nat} {n0 cb sb nn L : Nat} {xs : Nat → Int32} {i4 : Int} {G : GH} {K : GH → Prop} (X9 : CX κ δ RL cL_law 9 ret) (E : RmL κ) (LX : LawX κ δ ρ0 L xs) (hnn : 286 ≤ nn) (hi4 : inR i4) (hG : GR G) (hcb : cb + 4 ≤ 601024 ∧ sb + 24 ≤ 7293033) (hK : ∀ G9, K G9 → GR G9 → AW κ δ ρ0 n0 9 (cb + 4) (sb + 24) 2618 [some (vr (strB + 30)), some (vr 0), some (vr 272), some (vr 285), some (vi i4), none, none, none, none] [] (SF nn) G9) (h : f_law_4 L xs i4 G K) : AW κ δ ρ0 n0 9 cb sb 340 [some (vr (strB + 30)), some (vr 0), some (vr 272), some (vr 285), some (vi i4), none, none, none, none] [] (SF nn) G := by
  have hnn0 : 272 ≤ nn := by omega
  have hnn1 : 285 ≤ nn := by omega
  refine a_aload_n (pc := 340) X9 dL_law_340 rfl rfl ?_
  refine a_aload_n (pc := 341) X9 dL_law_341 rfl rfl ?_
  refine a_iload (pc := 342) X9 dL_law_342 rfl ?_
  refine a_iconst (pc := 344) X9 dL_law_344 ?_
  refine a_iadd (pc := 345) X9 dL_law_345 ?_
  obtain ⟨g_1, h⟩ := h
  refine b_scr (pc := 346) X9 LX g_1 dL_law_346 ?_
  refine a_aload_n (pc := 347) X9 dL_law_347 rfl rfl ?_
  refine a_callSL (pc := 348) X9 E (m_L_size (inR_toInt _) hnn h) wM_L_135 w_static_L_size w_initialized_RL w_codeWith_L_size cpL_size pnL_size rfl (Nat.le_of_ble_eq_true rfl) ⟨Nat.le_of_ble_eq_true rfl, Nat.le_of_ble_eq_true rfl⟩ ⟨by omega, by omega⟩ dL_law_348 (kI (fun r_1 G_1 hr_1 h hG_1 => ?_))
  refine a_istore (pc := 351) X9 dL_law_351 (Nat.le_of_ble_eq_true rfl) rfl rfl ?_
  refine a_aload_n (pc := 353) X9 dL_law_353 rfl rfl ?_
  refine a_aload_n (pc := 354) X9 dL_law_354 rfl rfl ?_
  refine a_iload (pc := 355) X9 dL_law_355 rfl ?_
  refine a_iconst (pc := 357) X9 dL_law_357 ?_
  refine a_iadd (pc := 358) X9 dL_law_358 ?_
  refine b_scr (pc := 359) X9 LX g_1 dL_law_359 ?_
  refine a_callVL (pc := 360) X9 E (m_X10_size (inR_toInt _) hnn1 h) okX10 (is10 hnn1) wM_L_140 w_instanceMethod_X10_size w_selects_X10_size w_initialized_RX10 w_code_X10_size cp_X10_size pn_X10_size rfl (Nat.le_of_ble_eq_true rfl) ⟨Nat.le_of_ble_eq_true rfl, Nat.le_of_ble_eq_true rfl⟩ ⟨by omega, by omega⟩ dL_law_360 (kI (fun r_2 G_2 hr_2 h hG_2 => ?_))
  refine a_istore (pc := 363) X9 dL_law_363 (Nat.le_of_ble_eq_true rfl) rfl rfl ?_
  refine a_aload_n (pc := 365) X9 dL_law_365 rfl rfl ?_
  refine a_callVL (pc := 366) X9 E (m_X10_thrown  hnn1 h) okX10 (is10 hnn1) wM_L_141 w_instanceMethod_X10_thrown w_selects_X10_thrown w_initialized_RX10 w_code_X10_thrown cp_X10_thrown pn_X10_thrown rfl (Nat.le_of_ble_eq_true rfl) ⟨Nat.le_of_ble_eq_true rfl, Nat.le_of_ble_eq_true rfl⟩ ⟨by omega, by omega⟩ dL_law_366 (kIp (fun r_3 hr_3 h => ?_))
  refine a_iload (pc := 369) X9 dL_law_369 rfl ?_
  refine a_icmp_eq (pc := 371) (tgt := 376) X9 dL_law_371 rfl hr_3 hr_1 (fun c => ?_) (fun c => ?_)
  · have c_1 := c
    have h := h.1 c_1
    refine a_iload (pc := 376) X9 dL_law_376 rfl ?_
    refine a_if_ne (pc := 378) (tgt := 393) X9 dL_law_378 rfl hr_1 (fun c => ?_) (fun c => ?_)
    · have c_2 := c
      have h := h.1 c_2
      refine a_goto (pc := 393) (tgt := 2618) X9 dL_law_393 rfl ?_
      refine AW.widen (cb' := cb + 4) (sb' := sb + 24) (by omega) (by omega) ?_
      refine AW.drop 5 rfl ?_
      refine AW.drop 6 rfl ?_
      exact hK _ h hG_2
    · have c_2 := c
      have h := h.2 c_2
      refine a_aload_n (pc := 381) X9 dL_law_381 rfl rfl ?_
      refine a_iconst (pc := 382) X9 dL_law_382 ?_
      refine a_lald (pc := 383) X9 (atO hnn) (Nat.le_of_ble_eq_true rfl) (j := 0) rfl (Nat.le_of_ble_eq_true rfl) dL_law_383 ?_
      refine a_iload (pc := 384) X9 dL_law_384 rfl ?_
      refine a_i2l (pc := 386) X9 dL_law_386 hr_2 ?_
      refine b_lcmp (pc := 387) X9 dL_law_387 (inR_inL (hG_2 _ _)) (inR_inL hr_2) ?_
      refine a_if_eq (pc := 388) (tgt := 393) X9 dL_law_388 rfl lcv_inR (fun c => ?_) (fun c => ?_)
      · have c_3 : (G_2 285 0) = r_2 := lcv_eq.mp c
        have h := h.1 c_3
        refine a_goto (pc := 393) (tgt := 2618) X9 dL_law_393 rfl ?_
        refine AW.widen (cb' := cb + 4) (sb' := sb + 24) (by omega) (by omega) ?_
        refine AW.drop 5 rfl ?_
        refine AW.drop 6 rfl ?_
        exact hK _ h hG_2
      · have c_3 : (G_2 285 0) ≠ r_2 := fun e => c (lcv_eq.mpr e)
        have h := h.2 c_3
        refine a_iconst (pc := 391) X9 dL_law_391 ?_
        exact h.elim
  · have c_1 := c
    have h := h.2 c_1
    refine a_iconst (pc := 374) X9 dL_law_374 ?_
    exact h.elim
set_option maxHeartbeats 4000000 in
set_option maxRecDepth 100000 in
theorem m_law_5 {κ : Cx} {δ : Dx} {ρ0 : Nat → Nat} {n0 cb sb nn L : Nat} {xs : Nat → Int32} {i4 : Int} {G : GH} {K : GH → Prop} (X9 : CX κ δ RL cL_law 9 ret) (E : RmL κ) (LX : LawX κ δ ρ0 L xs) (hnn : 286 ≤ nn) (hi4 : inR i4) (hG : GR G) (hcb : cb + 4 ≤ 601024 ∧ sb + 24 ≤ 7293033) (hK : ∀ G9, K G9 → GR G9 → AW κ δ ρ0 n0 9 (cb + 4) (sb + 24) 2618 [some (vr (strB + 30)), some (vr 0), some (vr 272), some (vr 285), some (vi i4), none, none, none, none] [] (SF nn) G9) (h : f_law_5 L xs i4 G K) : AW κ δ ρ0 n0 9 cb sb 396 [some (vr (strB + 30)), some (vr 0), some (vr 272), some (vr 285), some (vi i4), none, none, none, none] [] (SF nn) G := by
  have hnn0 : 272 ≤ nn := by omega
  have hnn1 : 285 ≤ nn := by omega
  refine a_aload_n (pc := 396) X9 dL_law_396 rfl rfl ?_
  refine a_aload_n (pc := 397) X9 dL_law_397 rfl rfl ?_
  refine a_iload (pc := 398) X9 dL_law_398 rfl ?_
  refine a_iconst (pc := 400) X9 dL_law_400 ?_
  refine a_iadd (pc := 401) X9 dL_law_401 ?_
  obtain ⟨g_1, h⟩ := h
  refine b_scr (pc := 402) X9 LX g_1 dL_law_402 ?_
  refine a_aload_n (pc := 403) X9 dL_law_403 rfl rfl ?_
  refine a_iload (pc := 404) X9 dL_law_404 rfl ?_
  refine a_iconst (pc := 406) X9 dL_law_406 ?_
  refine a_iadd (pc := 407) X9 dL_law_407 ?_
  obtain ⟨g_2, h⟩ := h
  refine b_scr (pc := 408) X9 LX g_2 dL_law_408 ?_
  refine a_aload_n (pc := 409) X9 dL_law_409 rfl rfl ?_
  refine a_callSL (pc := 410) X9 E (m_L_card (inR_toInt _) (inR_toInt _) hnn h) wM_L_144 w_static_L_card w_initialized_RL w_codeWith_L_card cpL_card pnL_card rfl (Nat.le_of_ble_eq_true rfl) ⟨Nat.le_of_ble_eq_true rfl, Nat.le_of_ble_eq_true rfl⟩ ⟨by omega, by omega⟩ dL_law_410 (kI (fun r_1 G_1 hr_1 h hG_1 => ?_))
  refine a_istore (pc := 413) X9 dL_law_413 (Nat.le_of_ble_eq_true rfl) rfl rfl ?_
  refine a_aload_n (pc := 415) X9 dL_law_415 rfl rfl ?_
  refine a_aload_n (pc := 416) X9 dL_law_416 rfl rfl ?_
  refine a_iload (pc := 417) X9 dL_law_417 rfl ?_
  refine a_iconst (pc := 419) X9 dL_law_419 ?_
  refine a_iadd (pc := 420) X9 dL_law_420 ?_
  refine b_scr (pc := 421) X9 LX g_1 dL_law_421 ?_
  refine a_aload_n (pc := 422) X9 dL_law_422 rfl rfl ?_
  refine a_iload (pc := 423) X9 dL_law_423 rfl ?_
  refine a_iconst (pc := 425) X9 dL_law_425 ?_
  refine a_iadd (pc := 426) X9 dL_law_426 ?_
  refine b_scr (pc := 427) X9 LX g_2 dL_law_427 ?_
  refine a_callVL (pc := 428) X9 E (m_X10_card (inR_toInt _) (inR_toInt _) hnn1 h) okX10 (is10 hnn1) wM_L_147 w_instanceMethod_X10_card w_selects_X10_card w_initialized_RX10 w_code_X10_card cp_X10_card pn_X10_card rfl (Nat.le_of_ble_eq_true rfl) ⟨Nat.le_of_ble_eq_true rfl, Nat.le_of_ble_eq_true rfl⟩ ⟨by omega, by omega⟩ dL_law_428 (kI (fun r_2 G_2 hr_2 h hG_2 => ?_))
  refine a_istore (pc := 431) X9 dL_law_431 (Nat.le_of_ble_eq_true rfl) rfl rfl ?_
  refine a_aload_n (pc := 433) X9 dL_law_433 rfl rfl ?_
  refine a_callVL (pc := 434) X9 E (m_X10_thrown  hnn1 h) okX10 (is10 hnn1) wM_L_141 w_instanceMethod_X10_thrown w_selects_X10_thrown w_initialized_RX10 w_code_X10_thrown cp_X10_thrown pn_X10_thrown rfl (Nat.le_of_ble_eq_true rfl) ⟨Nat.le_of_ble_eq_true rfl, Nat.le_of_ble_eq_true rfl⟩ ⟨by omega, by omega⟩ dL_law_434 (kIp (fun r_3 hr_3 h => ?_))
  refine a_iload (pc := 437) X9 dL_law_437 rfl ?_
  refine a_icmp_eq (pc := 439) (tgt := 444) X9 dL_law_439 rfl hr_3 hr_1 (fun c => ?_) (fun c => ?_)
  · have c_1 := c
    have h := h.1 c_1
    refine a_iload (pc := 444) X9 dL_law_444 rfl ?_
    refine a_if_ne (pc := 446) (tgt := 461) X9 dL_law_446 rfl hr_1 (fun c => ?_) (fun c => ?_)
    · have c_2 := c
      have h := h.1 c_2
      refine a_goto (pc := 461) (tgt := 2618) X9 dL_law_461 rfl ?_
      refine AW.widen (cb' := cb + 4) (sb' := sb + 24) (by omega) (by omega) ?_
      refine AW.drop 5 rfl ?_
      refine AW.drop 6 rfl ?_
      exact hK _ h hG_2
    · have c_2 := c
      have h := h.2 c_2
      refine a_aload_n (pc := 449) X9 dL_law_449 rfl rfl ?_
      refine a_iconst (pc := 450) X9 dL_law_450 ?_
      refine a_lald (pc := 451) X9 (atO hnn) (Nat.le_of_ble_eq_true rfl) (j := 0) rfl (Nat.le_of_ble_eq_true rfl) dL_law_451 ?_
      refine a_iload (pc := 452) X9 dL_law_452 rfl ?_
      refine a_i2l (pc := 454) X9 dL_law_454 hr_2 ?_
      refine b_lcmp (pc := 455) X9 dL_law_455 (inR_inL (hG_2 _ _)) (inR_inL hr_2) ?_
      refine a_if_eq (pc := 456) (tgt := 461) X9 dL_law_456 rfl lcv_inR (fun c => ?_) (fun c => ?_)
      · have c_3 : (G_2 285 0) = r_2 := lcv_eq.mp c
        have h := h.1 c_3
        refine a_goto (pc := 461) (tgt := 2618) X9 dL_law_461 rfl ?_
        refine AW.widen (cb' := cb + 4) (sb' := sb + 24) (by omega) (by omega) ?_
        refine AW.drop 5 rfl ?_
        refine AW.drop 6 rfl ?_
        exact hK _ h hG_2
      · have c_3 : (G_2 285 0) ≠ r_2 := fun e => c (lcv_eq.mpr e)
        have h := h.2 c_3
        refine a_iconst (pc := 459) X9 dL_law_459 ?_
        exact h.elim
  · have c_1 := c
    have h := h.2 c_1
    refine a_iconst (pc := 442) X9 dL_law_442 ?_
    exact h.elim
set_option maxHeartbeats 4000000 in
set_option maxRecDepth 100000 in
theorem m_law_6 {κ : Cx} {δ : Dx} {ρ0 : Nat → Nat} {n0 cb sb nn L : Nat} {xs : Nat → Int32} {i4 : Int} {G : GH} {K : GH → Prop} (X9 : CX κ δ RL cL_law 9 ret) (E : RmL κ) (LX : LawX κ δ ρ0 L xs) (hnn : 286 ≤ nn) (hi4 : inR i4) (hG : GR G) (hcb : cb + 4 ≤ 601024 ∧ sb + 24 ≤ 7293033) (hK : ∀ G9, K G9 → GR G9 → AW κ δ ρ0 n0 9 (cb + 4) (sb + 24) 2618 [some (vr (strB + 30)), some (vr 0), some (vr 272), some (vr 285), some (vi i4), none, none, none, none] [] (SF nn) G9) (h : f_law_6 L xs i4 G K) : AW κ δ ρ0 n0 9 cb sb 464 [some (vr (strB + 30)), some (vr 0), some (vr 272), some (vr 285), some (vi i4), none, none, none, none] [] (SF nn) G := by
  have hnn0 : 272 ≤ nn := by omega
  have hnn1 : 285 ≤ nn := by omega
  refine a_aload_n (pc := 464) X9 dL_law_464 rfl rfl ?_
  refine a_aload_n (pc := 465) X9 dL_law_465 rfl rfl ?_
  refine a_iload (pc := 466) X9 dL_law_466 rfl ?_
  refine a_iconst (pc := 468) X9 dL_law_468 ?_
  refine a_iadd (pc := 469) X9 dL_law_469 ?_
  obtain ⟨g_1, h⟩ := h
  refine b_scr (pc := 470) X9 LX g_1 dL_law_470 ?_
  refine a_aload_n (pc := 471) X9 dL_law_471 rfl rfl ?_
  refine a_iload (pc := 472) X9 dL_law_472 rfl ?_
  refine a_iconst (pc := 474) X9 dL_law_474 ?_
  refine a_iadd (pc := 475) X9 dL_law_475 ?_
  obtain ⟨g_2, h⟩ := h
  refine b_scr (pc := 476) X9 LX g_2 dL_law_476 ?_
  refine a_aload_n (pc := 477) X9 dL_law_477 rfl rfl ?_
  refine a_callSL (pc := 478) X9 E (m_L_way (inR_toInt _) (inR_toInt _) hnn h) wM_L_148 w_static_L_way w_initialized_RL w_codeWith_L_way cpL_way pnL_way rfl (Nat.le_of_ble_eq_true rfl) ⟨Nat.le_of_ble_eq_true rfl, Nat.le_of_ble_eq_true rfl⟩ ⟨by omega, by omega⟩ dL_law_478 (kI (fun r_1 G_1 hr_1 h hG_1 => ?_))
  refine a_istore (pc := 481) X9 dL_law_481 (Nat.le_of_ble_eq_true rfl) rfl rfl ?_
  refine a_aload_n (pc := 483) X9 dL_law_483 rfl rfl ?_
  refine a_aload_n (pc := 484) X9 dL_law_484 rfl rfl ?_
  refine a_iload (pc := 485) X9 dL_law_485 rfl ?_
  refine a_iconst (pc := 487) X9 dL_law_487 ?_
  refine a_iadd (pc := 488) X9 dL_law_488 ?_
  refine b_scr (pc := 489) X9 LX g_1 dL_law_489 ?_
  refine a_aload_n (pc := 490) X9 dL_law_490 rfl rfl ?_
  refine a_iload (pc := 491) X9 dL_law_491 rfl ?_
  refine a_iconst (pc := 493) X9 dL_law_493 ?_
  refine a_iadd (pc := 494) X9 dL_law_494 ?_
  refine b_scr (pc := 495) X9 LX g_2 dL_law_495 ?_
  refine a_callVL (pc := 496) X9 E (m_X10_way (inR_toInt _) (inR_toInt _) hnn1 h) okX10 (is10 hnn1) wM_L_150 w_instanceMethod_X10_way w_selects_X10_way w_initialized_RX10 w_code_X10_way cp_X10_way pn_X10_way rfl (Nat.le_of_ble_eq_true rfl) ⟨Nat.le_of_ble_eq_true rfl, Nat.le_of_ble_eq_true rfl⟩ ⟨by omega, by omega⟩ dL_law_496 (kI (fun r_2 G_2 hr_2 h hG_2 => ?_))
  refine a_istore (pc := 499) X9 dL_law_499 (Nat.le_of_ble_eq_true rfl) rfl rfl ?_
  refine a_aload_n (pc := 501) X9 dL_law_501 rfl rfl ?_
  refine a_callVL (pc := 502) X9 E (m_X10_thrown  hnn1 h) okX10 (is10 hnn1) wM_L_141 w_instanceMethod_X10_thrown w_selects_X10_thrown w_initialized_RX10 w_code_X10_thrown cp_X10_thrown pn_X10_thrown rfl (Nat.le_of_ble_eq_true rfl) ⟨Nat.le_of_ble_eq_true rfl, Nat.le_of_ble_eq_true rfl⟩ ⟨by omega, by omega⟩ dL_law_502 (kIp (fun r_3 hr_3 h => ?_))
  refine a_iload (pc := 505) X9 dL_law_505 rfl ?_
  refine a_icmp_eq (pc := 507) (tgt := 512) X9 dL_law_507 rfl hr_3 hr_1 (fun c => ?_) (fun c => ?_)
  · have c_1 := c
    have h := h.1 c_1
    refine a_iload (pc := 512) X9 dL_law_512 rfl ?_
    refine a_if_ne (pc := 514) (tgt := 529) X9 dL_law_514 rfl hr_1 (fun c => ?_) (fun c => ?_)
    · have c_2 := c
      have h := h.1 c_2
      refine a_goto (pc := 529) (tgt := 2618) X9 dL_law_529 rfl ?_
      refine AW.widen (cb' := cb + 4) (sb' := sb + 24) (by omega) (by omega) ?_
      refine AW.drop 5 rfl ?_
      refine AW.drop 6 rfl ?_
      exact hK _ h hG_2
    · have c_2 := c
      have h := h.2 c_2
      refine a_aload_n (pc := 517) X9 dL_law_517 rfl rfl ?_
      refine a_iconst (pc := 518) X9 dL_law_518 ?_
      refine a_lald (pc := 519) X9 (atO hnn) (Nat.le_of_ble_eq_true rfl) (j := 0) rfl (Nat.le_of_ble_eq_true rfl) dL_law_519 ?_
      refine a_iload (pc := 520) X9 dL_law_520 rfl ?_
      refine a_i2l (pc := 522) X9 dL_law_522 hr_2 ?_
      refine b_lcmp (pc := 523) X9 dL_law_523 (inR_inL (hG_2 _ _)) (inR_inL hr_2) ?_
      refine a_if_eq (pc := 524) (tgt := 529) X9 dL_law_524 rfl lcv_inR (fun c => ?_) (fun c => ?_)
      · have c_3 : (G_2 285 0) = r_2 := lcv_eq.mp c
        have h := h.1 c_3
        refine a_goto (pc := 529) (tgt := 2618) X9 dL_law_529 rfl ?_
        refine AW.widen (cb' := cb + 4) (sb' := sb + 24) (by omega) (by omega) ?_
        refine AW.drop 5 rfl ?_
        refine AW.drop 6 rfl ?_
        exact hK _ h hG_2
      · have c_3 : (G_2 285 0) ≠ r_2 := fun e => c (lcv_eq.mpr e)
        have h := h.2 c_3
        refine a_iconst (pc := 527) X9 dL_law_527 ?_
        exact h.elim
  · have c_1 := c
    have h := h.2 c_1
    refine a_iconst (pc := 510) X9 dL_law_510 ?_
    exact h.elim
set_option maxHeartbeats 4000000 in
set_option maxRecDepth 100000 in
theorem m_law_7 {κ : Cx} {δ : Dx} {ρ0 : Nat → Nat} {n0 cb sb nn L : Nat} {xs : Nat → Int32} {i4 : Int} {G : GH} {K : GH → Prop} (X9 : CX κ δ RL cL_law 9 ret) (E : RmL κ) (LX : LawX κ δ ρ0 L xs) (hnn : 286 ≤ nn) (hi4 : inR i4) (hG : GR G) (hcb : cb + 4 ≤ 601024 ∧ sb + 24 ≤ 7293033) (hK : ∀ G9, K G9 → GR G9 → AW κ δ ρ0 n0 9 (cb + 4) (sb + 24) 2618 [some (vr (strB + 30)), some (vr 0), some (vr 272), some (vr 285), some (vi i4), none, none, none, none] [] (SF nn) G9) (h : f_law_7 L xs i4 G K) : AW κ δ ρ0 n0 9 cb sb 532 [some (vr (strB + 30)), some (vr 0), some (vr 272), some (vr 285), some (vi i4), none, none, none, none] [] (SF nn) G := by
  have hnn0 : 272 ≤ nn := by omega
  have hnn1 : 285 ≤ nn := by omega
  refine a_aload_n (pc := 532) X9 dL_law_532 rfl rfl ?_
  refine a_aload_n (pc := 533) X9 dL_law_533 rfl rfl ?_
  refine a_iload (pc := 534) X9 dL_law_534 rfl ?_
  refine a_iconst (pc := 536) X9 dL_law_536 ?_
  refine a_iadd (pc := 537) X9 dL_law_537 ?_
  obtain ⟨g_1, h⟩ := h
  refine b_scr (pc := 538) X9 LX g_1 dL_law_538 ?_
  refine a_aload_n (pc := 539) X9 dL_law_539 rfl rfl ?_
  refine a_iload (pc := 540) X9 dL_law_540 rfl ?_
  refine a_iconst (pc := 542) X9 dL_law_542 ?_
  refine a_iadd (pc := 543) X9 dL_law_543 ?_
  obtain ⟨g_2, h⟩ := h
  refine b_scr (pc := 544) X9 LX g_2 dL_law_544 ?_
  refine a_aload_n (pc := 545) X9 dL_law_545 rfl rfl ?_
  refine a_callSL (pc := 546) X9 E (m_L_lends (inR_toInt _) (inR_toInt _) hnn h) wM_L_151 w_static_L_lends w_initialized_RL w_codeWith_L_lends cpL_lends pnL_lends rfl (Nat.le_of_ble_eq_true rfl) ⟨Nat.le_of_ble_eq_true rfl, Nat.le_of_ble_eq_true rfl⟩ ⟨by omega, by omega⟩ dL_law_546 (kI (fun r_1 G_1 hr_1 h hG_1 => ?_))
  refine a_istore (pc := 549) X9 dL_law_549 (Nat.le_of_ble_eq_true rfl) rfl rfl ?_
  refine a_aload_n (pc := 551) X9 dL_law_551 rfl rfl ?_
  refine a_aload_n (pc := 552) X9 dL_law_552 rfl rfl ?_
  refine a_iload (pc := 553) X9 dL_law_553 rfl ?_
  refine a_iconst (pc := 555) X9 dL_law_555 ?_
  refine a_iadd (pc := 556) X9 dL_law_556 ?_
  refine b_scr (pc := 557) X9 LX g_1 dL_law_557 ?_
  refine a_aload_n (pc := 558) X9 dL_law_558 rfl rfl ?_
  refine a_iload (pc := 559) X9 dL_law_559 rfl ?_
  refine a_iconst (pc := 561) X9 dL_law_561 ?_
  refine a_iadd (pc := 562) X9 dL_law_562 ?_
  refine b_scr (pc := 563) X9 LX g_2 dL_law_563 ?_
  refine a_callVL (pc := 564) X9 E (m_X10_lends (inR_toInt _) (inR_toInt _) hnn1 h) okX10 (is10 hnn1) wM_L_153 w_instanceMethod_X10_lends w_selects_X10_lends w_initialized_RX10 w_code_X10_lends cp_X10_lends pn_X10_lends rfl (Nat.le_of_ble_eq_true rfl) ⟨Nat.le_of_ble_eq_true rfl, Nat.le_of_ble_eq_true rfl⟩ ⟨by omega, by omega⟩ dL_law_564 (kI (fun r_2 G_2 hr_2 h hG_2 => ?_))
  refine a_istore (pc := 567) X9 dL_law_567 (Nat.le_of_ble_eq_true rfl) rfl rfl ?_
  refine a_aload_n (pc := 569) X9 dL_law_569 rfl rfl ?_
  refine a_callVL (pc := 570) X9 E (m_X10_thrown  hnn1 h) okX10 (is10 hnn1) wM_L_141 w_instanceMethod_X10_thrown w_selects_X10_thrown w_initialized_RX10 w_code_X10_thrown cp_X10_thrown pn_X10_thrown rfl (Nat.le_of_ble_eq_true rfl) ⟨Nat.le_of_ble_eq_true rfl, Nat.le_of_ble_eq_true rfl⟩ ⟨by omega, by omega⟩ dL_law_570 (kIp (fun r_3 hr_3 h => ?_))
  refine a_iload (pc := 573) X9 dL_law_573 rfl ?_
  refine a_icmp_eq (pc := 575) (tgt := 580) X9 dL_law_575 rfl hr_3 hr_1 (fun c => ?_) (fun c => ?_)
  · have c_1 := c
    have h := h.1 c_1
    refine a_iload (pc := 580) X9 dL_law_580 rfl ?_
    refine a_if_ne (pc := 582) (tgt := 597) X9 dL_law_582 rfl hr_1 (fun c => ?_) (fun c => ?_)
    · have c_2 := c
      have h := h.1 c_2
      refine a_goto (pc := 597) (tgt := 2618) X9 dL_law_597 rfl ?_
      refine AW.widen (cb' := cb + 4) (sb' := sb + 24) (by omega) (by omega) ?_
      refine AW.drop 5 rfl ?_
      refine AW.drop 6 rfl ?_
      exact hK _ h hG_2
    · have c_2 := c
      have h := h.2 c_2
      refine a_aload_n (pc := 585) X9 dL_law_585 rfl rfl ?_
      refine a_iconst (pc := 586) X9 dL_law_586 ?_
      refine a_lald (pc := 587) X9 (atO hnn) (Nat.le_of_ble_eq_true rfl) (j := 0) rfl (Nat.le_of_ble_eq_true rfl) dL_law_587 ?_
      refine a_iload (pc := 588) X9 dL_law_588 rfl ?_
      refine a_i2l (pc := 590) X9 dL_law_590 hr_2 ?_
      refine b_lcmp (pc := 591) X9 dL_law_591 (inR_inL (hG_2 _ _)) (inR_inL hr_2) ?_
      refine a_if_eq (pc := 592) (tgt := 597) X9 dL_law_592 rfl lcv_inR (fun c => ?_) (fun c => ?_)
      · have c_3 : (G_2 285 0) = r_2 := lcv_eq.mp c
        have h := h.1 c_3
        refine a_goto (pc := 597) (tgt := 2618) X9 dL_law_597 rfl ?_
        refine AW.widen (cb' := cb + 4) (sb' := sb + 24) (by omega) (by omega) ?_
        refine AW.drop 5 rfl ?_
        refine AW.drop 6 rfl ?_
        exact hK _ h hG_2
      · have c_3 : (G_2 285 0) ≠ r_2 := fun e => c (lcv_eq.mpr e)
        have h := h.2 c_3
        refine a_iconst (pc := 595) X9 dL_law_595 ?_
        exact h.elim
  · have c_1 := c
    have h := h.2 c_1
    refine a_iconst (pc := 578) X9 dL_law_578 ?_
    exact h.elim
set_option maxHeartbeats 4000000 in
set_option maxRecDepth 100000 in
theorem m_law_8 {κ : Cx} {δ : Dx} {ρ0 : Nat → Nat} {n0 cb sb nn L : Nat} {xs : Nat → Int32} {i4 : Int} {G : GH} {K : GH → Prop} (X9 : CX κ δ RL cL_law 9 ret) (E : RmL κ) (LX : LawX κ δ ρ0 L xs) (hnn : 286 ≤ nn) (hi4 : inR i4) (hG : GR G) (hcb : cb + 4 ≤ 601024 ∧ sb + 24 ≤ 7293033) (hK : ∀ G9, K G9 → GR G9 → AW κ δ ρ0 n0 9 (cb + 4) (sb + 24) 2618 [some (vr (strB + 30)), some (vr 0), some (vr 272), some (vr 285), some (vi i4), none, none, none, none] [] (SF nn) G9) (h : f_law_8 L xs i4 G K) : AW κ δ ρ0 n0 9 cb sb 600 [some (vr (strB + 30)), some (vr 0), some (vr 272), some (vr 285), some (vi i4), none, none, none, none] [] (SF nn) G := by
  have hnn0 : 272 ≤ nn := by omega
  have hnn1 : 285 ≤ nn := by omega
  refine a_aload_n (pc := 600) X9 dL_law_600 rfl rfl ?_
  refine a_aload_n (pc := 601) X9 dL_law_601 rfl rfl ?_
  refine a_iload (pc := 602) X9 dL_law_602 rfl ?_
  refine a_iconst (pc := 604) X9 dL_law_604 ?_
  refine a_iadd (pc := 605) X9 dL_law_605 ?_
  obtain ⟨g_1, h⟩ := h
  refine b_scr (pc := 606) X9 LX g_1 dL_law_606 ?_
  refine a_aload_n (pc := 607) X9 dL_law_607 rfl rfl ?_
  refine a_iload (pc := 608) X9 dL_law_608 rfl ?_
  refine a_iconst (pc := 610) X9 dL_law_610 ?_
  refine a_iadd (pc := 611) X9 dL_law_611 ?_
  obtain ⟨g_2, h⟩ := h
  refine b_scr (pc := 612) X9 LX g_2 dL_law_612 ?_
  refine a_aload_n (pc := 613) X9 dL_law_613 rfl rfl ?_
  refine a_callSL (pc := 614) X9 E (m_L_loan (inR_toInt _) (inR_toInt _) hnn h) wM_L_154 w_static_L_loan w_initialized_RL w_codeWith_L_loan cpL_loan pnL_loan rfl (Nat.le_of_ble_eq_true rfl) ⟨Nat.le_of_ble_eq_true rfl, Nat.le_of_ble_eq_true rfl⟩ ⟨by omega, by omega⟩ dL_law_614 (kI (fun r_1 G_1 hr_1 h hG_1 => ?_))
  refine a_istore (pc := 617) X9 dL_law_617 (Nat.le_of_ble_eq_true rfl) rfl rfl ?_
  refine a_aload_n (pc := 619) X9 dL_law_619 rfl rfl ?_
  refine a_aload_n (pc := 620) X9 dL_law_620 rfl rfl ?_
  refine a_iload (pc := 621) X9 dL_law_621 rfl ?_
  refine a_iconst (pc := 623) X9 dL_law_623 ?_
  refine a_iadd (pc := 624) X9 dL_law_624 ?_
  refine b_scr (pc := 625) X9 LX g_1 dL_law_625 ?_
  refine a_aload_n (pc := 626) X9 dL_law_626 rfl rfl ?_
  refine a_iload (pc := 627) X9 dL_law_627 rfl ?_
  refine a_iconst (pc := 629) X9 dL_law_629 ?_
  refine a_iadd (pc := 630) X9 dL_law_630 ?_
  refine b_scr (pc := 631) X9 LX g_2 dL_law_631 ?_
  refine a_callVL (pc := 632) X9 E (m_X10_loan (inR_toInt _) (inR_toInt _) hnn1 h) okX10 (is10 hnn1) wM_L_156 w_instanceMethod_X10_loan w_selects_X10_loan w_initialized_RX10 w_code_X10_loan cp_X10_loan pn_X10_loan rfl (Nat.le_of_ble_eq_true rfl) ⟨Nat.le_of_ble_eq_true rfl, Nat.le_of_ble_eq_true rfl⟩ ⟨by omega, by omega⟩ dL_law_632 (kI (fun r_2 G_2 hr_2 h hG_2 => ?_))
  refine a_istore (pc := 635) X9 dL_law_635 (Nat.le_of_ble_eq_true rfl) rfl rfl ?_
  refine a_aload_n (pc := 637) X9 dL_law_637 rfl rfl ?_
  refine a_callVL (pc := 638) X9 E (m_X10_thrown  hnn1 h) okX10 (is10 hnn1) wM_L_141 w_instanceMethod_X10_thrown w_selects_X10_thrown w_initialized_RX10 w_code_X10_thrown cp_X10_thrown pn_X10_thrown rfl (Nat.le_of_ble_eq_true rfl) ⟨Nat.le_of_ble_eq_true rfl, Nat.le_of_ble_eq_true rfl⟩ ⟨by omega, by omega⟩ dL_law_638 (kIp (fun r_3 hr_3 h => ?_))
  refine a_iload (pc := 641) X9 dL_law_641 rfl ?_
  refine a_icmp_eq (pc := 643) (tgt := 648) X9 dL_law_643 rfl hr_3 hr_1 (fun c => ?_) (fun c => ?_)
  · have c_1 := c
    have h := h.1 c_1
    refine a_iload (pc := 648) X9 dL_law_648 rfl ?_
    refine a_if_ne (pc := 650) (tgt := 665) X9 dL_law_650 rfl hr_1 (fun c => ?_) (fun c => ?_)
    · have c_2 := c
      have h := h.1 c_2
      refine a_goto (pc := 665) (tgt := 2618) X9 dL_law_665 rfl ?_
      refine AW.widen (cb' := cb + 4) (sb' := sb + 24) (by omega) (by omega) ?_
      refine AW.drop 5 rfl ?_
      refine AW.drop 6 rfl ?_
      exact hK _ h hG_2
    · have c_2 := c
      have h := h.2 c_2
      refine a_aload_n (pc := 653) X9 dL_law_653 rfl rfl ?_
      refine a_iconst (pc := 654) X9 dL_law_654 ?_
      refine a_lald (pc := 655) X9 (atO hnn) (Nat.le_of_ble_eq_true rfl) (j := 0) rfl (Nat.le_of_ble_eq_true rfl) dL_law_655 ?_
      refine a_iload (pc := 656) X9 dL_law_656 rfl ?_
      refine a_i2l (pc := 658) X9 dL_law_658 hr_2 ?_
      refine b_lcmp (pc := 659) X9 dL_law_659 (inR_inL (hG_2 _ _)) (inR_inL hr_2) ?_
      refine a_if_eq (pc := 660) (tgt := 665) X9 dL_law_660 rfl lcv_inR (fun c => ?_) (fun c => ?_)
      · have c_3 : (G_2 285 0) = r_2 := lcv_eq.mp c
        have h := h.1 c_3
        refine a_goto (pc := 665) (tgt := 2618) X9 dL_law_665 rfl ?_
        refine AW.widen (cb' := cb + 4) (sb' := sb + 24) (by omega) (by omega) ?_
        refine AW.drop 5 rfl ?_
        refine AW.drop 6 rfl ?_
        exact hK _ h hG_2
      · have c_3 : (G_2 285 0) ≠ r_2 := fun e => c (lcv_eq.mpr e)
        have h := h.2 c_3
        refine a_iconst (pc := 663) X9 dL_law_663 ?_
        exact h.elim
  · have c_1 := c
    have h := h.2 c_1
    refine a_iconst (pc := 646) X9 dL_law_646 ?_
    exact h.elim
set_option maxHeartbeats 4000000 in
set_option maxRecDepth 100000 in
theorem m_law_9 {κ : Cx} {δ : Dx} {ρ0 : Nat → Nat} {n0 cb sb nn L : Nat} {xs : Nat → Int32} {i4 : Int} {G : GH} {K : GH → Prop} (X9 : CX κ δ RL cL_law 9 ret) (E : RmL κ) (LX : LawX κ δ ρ0 L xs) (hnn : 286 ≤ nn) (hi4 : inR i4) (hG : GR G) (hcb : cb + 4 ≤ 601024 ∧ sb + 24 ≤ 7293033) (hK : ∀ G9, K G9 → GR G9 → AW κ δ ρ0 n0 9 (cb + 4) (sb + 24) 2618 [some (vr (strB + 30)), some (vr 0), some (vr 272), some (vr 285), some (vi i4), none, none, none, none] [] (SF nn) G9) (h : f_law_9 L xs i4 G K) : AW κ δ ρ0 n0 9 cb sb 668 [some (vr (strB + 30)), some (vr 0), some (vr 272), some (vr 285), some (vi i4), none, none, none, none] [] (SF nn) G := by
  have hnn0 : 272 ≤ nn := by omega
  have hnn1 : 285 ≤ nn := by omega
  refine a_aload_n (pc := 668) X9 dL_law_668 rfl rfl ?_
  refine a_aload_n (pc := 669) X9 dL_law_669 rfl rfl ?_
  refine a_iload (pc := 670) X9 dL_law_670 rfl ?_
  refine a_iconst (pc := 672) X9 dL_law_672 ?_
  refine a_iadd (pc := 673) X9 dL_law_673 ?_
  obtain ⟨g_1, h⟩ := h
  refine b_scr (pc := 674) X9 LX g_1 dL_law_674 ?_
  refine a_aload_n (pc := 675) X9 dL_law_675 rfl rfl ?_
  refine a_callSL (pc := 676) X9 E (m_L_rows (inR_toInt _) hnn h) wM_L_157 w_static_L_rows w_initialized_RL w_codeWith_L_rows cpL_rows pnL_rows rfl (Nat.le_of_ble_eq_true rfl) ⟨Nat.le_of_ble_eq_true rfl, Nat.le_of_ble_eq_true rfl⟩ ⟨by omega, by omega⟩ dL_law_676 (kI (fun r_1 G_1 hr_1 h hG_1 => ?_))
  refine a_istore (pc := 679) X9 dL_law_679 (Nat.le_of_ble_eq_true rfl) rfl rfl ?_
  refine a_aload_n (pc := 681) X9 dL_law_681 rfl rfl ?_
  refine a_aload_n (pc := 682) X9 dL_law_682 rfl rfl ?_
  refine a_iload (pc := 683) X9 dL_law_683 rfl ?_
  refine a_iconst (pc := 685) X9 dL_law_685 ?_
  refine a_iadd (pc := 686) X9 dL_law_686 ?_
  refine b_scr (pc := 687) X9 LX g_1 dL_law_687 ?_
  refine a_callVL (pc := 688) X9 E (m_X10_rows (inR_toInt _) hnn1 h) okX10 (is10 hnn1) wM_L_159 w_instanceMethod_X10_rows w_selects_X10_rows w_initialized_RX10 w_code_X10_rows cp_X10_rows pn_X10_rows rfl (Nat.le_of_ble_eq_true rfl) ⟨Nat.le_of_ble_eq_true rfl, Nat.le_of_ble_eq_true rfl⟩ ⟨by omega, by omega⟩ dL_law_688 (kI (fun r_2 G_2 hr_2 h hG_2 => ?_))
  refine a_istore (pc := 691) X9 dL_law_691 (Nat.le_of_ble_eq_true rfl) rfl rfl ?_
  refine a_aload_n (pc := 693) X9 dL_law_693 rfl rfl ?_
  refine a_callVL (pc := 694) X9 E (m_X10_thrown  hnn1 h) okX10 (is10 hnn1) wM_L_141 w_instanceMethod_X10_thrown w_selects_X10_thrown w_initialized_RX10 w_code_X10_thrown cp_X10_thrown pn_X10_thrown rfl (Nat.le_of_ble_eq_true rfl) ⟨Nat.le_of_ble_eq_true rfl, Nat.le_of_ble_eq_true rfl⟩ ⟨by omega, by omega⟩ dL_law_694 (kIp (fun r_3 hr_3 h => ?_))
  refine a_iload (pc := 697) X9 dL_law_697 rfl ?_
  refine a_icmp_eq (pc := 699) (tgt := 704) X9 dL_law_699 rfl hr_3 hr_1 (fun c => ?_) (fun c => ?_)
  · have c_1 := c
    have h := h.1 c_1
    refine a_iload (pc := 704) X9 dL_law_704 rfl ?_
    refine a_if_ne (pc := 706) (tgt := 721) X9 dL_law_706 rfl hr_1 (fun c => ?_) (fun c => ?_)
    · have c_2 := c
      have h := h.1 c_2
      refine a_goto (pc := 721) (tgt := 2618) X9 dL_law_721 rfl ?_
      refine AW.widen (cb' := cb + 4) (sb' := sb + 24) (by omega) (by omega) ?_
      refine AW.drop 5 rfl ?_
      refine AW.drop 6 rfl ?_
      exact hK _ h hG_2
    · have c_2 := c
      have h := h.2 c_2
      refine a_aload_n (pc := 709) X9 dL_law_709 rfl rfl ?_
      refine a_iconst (pc := 710) X9 dL_law_710 ?_
      refine a_lald (pc := 711) X9 (atO hnn) (Nat.le_of_ble_eq_true rfl) (j := 0) rfl (Nat.le_of_ble_eq_true rfl) dL_law_711 ?_
      refine a_iload (pc := 712) X9 dL_law_712 rfl ?_
      refine a_i2l (pc := 714) X9 dL_law_714 hr_2 ?_
      refine b_lcmp (pc := 715) X9 dL_law_715 (inR_inL (hG_2 _ _)) (inR_inL hr_2) ?_
      refine a_if_eq (pc := 716) (tgt := 721) X9 dL_law_716 rfl lcv_inR (fun c => ?_) (fun c => ?_)
      · have c_3 : (G_2 285 0) = r_2 := lcv_eq.mp c
        have h := h.1 c_3
        refine a_goto (pc := 721) (tgt := 2618) X9 dL_law_721 rfl ?_
        refine AW.widen (cb' := cb + 4) (sb' := sb + 24) (by omega) (by omega) ?_
        refine AW.drop 5 rfl ?_
        refine AW.drop 6 rfl ?_
        exact hK _ h hG_2
      · have c_3 : (G_2 285 0) ≠ r_2 := fun e => c (lcv_eq.mpr e)
        have h := h.2 c_3
        refine a_iconst (pc := 719) X9 dL_law_719 ?_
        exact h.elim
  · have c_1 := c
    have h := h.2 c_1
    refine a_iconst (pc := 702) X9 dL_law_702 ?_
    exact h.elim
set_option maxHeartbeats 4000000 in
set_option maxRecDepth 100000 in
theorem m_law_10 {κ : Cx} {δ : Dx} {ρ0 : Nat → Nat} {n0 cb sb nn L : Nat} {xs : Nat → Int32} {i4 : Int} {G : GH} {K : GH → Prop} (X9 : CX κ δ RL cL_law 9 ret) (E : RmL κ) (LX : LawX κ δ ρ0 L xs) (hnn : 286 ≤ nn) (hi4 : inR i4) (hG : GR G) (hcb : cb + 4 ≤ 601024 ∧ sb + 24 ≤ 7293033) (hK : ∀ G9, K G9 → GR G9 → AW κ δ ρ0 n0 9 (cb + 4) (sb + 24) 2618 [some (vr (strB + 30)), some (vr 0), some (vr 272), some (vr 285), some (vi i4), none, none, none, none] [] (SF nn) G9) (h : f_law_10 L xs i4 G K) : AW κ δ ρ0 n0 9 cb sb 724 [some (vr (strB + 30)), some (vr 0), some (vr 272), some (vr 285), some (vi i4), none, none, none, none] [] (SF nn) G := by
  have hnn0 : 272 ≤ nn := by omega
  have hnn1 : 285 ≤ nn := by omega
  refine a_aload_n (pc := 724) X9 dL_law_724 rfl rfl ?_
  refine a_aload_n (pc := 725) X9 dL_law_725 rfl rfl ?_
  refine a_iload (pc := 726) X9 dL_law_726 rfl ?_
  refine a_iconst (pc := 728) X9 dL_law_728 ?_
  refine a_iadd (pc := 729) X9 dL_law_729 ?_
  obtain ⟨g_1, h⟩ := h
  refine b_scr (pc := 730) X9 LX g_1 dL_law_730 ?_
  refine a_aload_n (pc := 731) X9 dL_law_731 rfl rfl ?_
  refine a_callSL (pc := 732) X9 E (m_L_hymns (inR_toInt _) hnn h) wM_L_160 w_static_L_hymns w_initialized_RL w_codeWith_L_hymns cpL_hymns pnL_hymns rfl (Nat.le_of_ble_eq_true rfl) ⟨Nat.le_of_ble_eq_true rfl, Nat.le_of_ble_eq_true rfl⟩ ⟨by omega, by omega⟩ dL_law_732 (kI (fun r_1 G_1 hr_1 h hG_1 => ?_))
  refine a_istore (pc := 735) X9 dL_law_735 (Nat.le_of_ble_eq_true rfl) rfl rfl ?_
  refine a_aload_n (pc := 737) X9 dL_law_737 rfl rfl ?_
  refine a_aload_n (pc := 738) X9 dL_law_738 rfl rfl ?_
  refine a_iload (pc := 739) X9 dL_law_739 rfl ?_
  refine a_iconst (pc := 741) X9 dL_law_741 ?_
  refine a_iadd (pc := 742) X9 dL_law_742 ?_
  refine b_scr (pc := 743) X9 LX g_1 dL_law_743 ?_
  refine a_callVL (pc := 744) X9 E (m_X10_hymns (inR_toInt _) hnn1 h) okX10 (is10 hnn1) wM_L_162 w_instanceMethod_X10_hymns w_selects_X10_hymns w_initialized_RX10 w_code_X10_hymns cp_X10_hymns pn_X10_hymns rfl (Nat.le_of_ble_eq_true rfl) ⟨Nat.le_of_ble_eq_true rfl, Nat.le_of_ble_eq_true rfl⟩ ⟨by omega, by omega⟩ dL_law_744 (kI (fun r_2 G_2 hr_2 h hG_2 => ?_))
  refine a_istore (pc := 747) X9 dL_law_747 (Nat.le_of_ble_eq_true rfl) rfl rfl ?_
  refine a_aload_n (pc := 749) X9 dL_law_749 rfl rfl ?_
  refine a_callVL (pc := 750) X9 E (m_X10_thrown  hnn1 h) okX10 (is10 hnn1) wM_L_141 w_instanceMethod_X10_thrown w_selects_X10_thrown w_initialized_RX10 w_code_X10_thrown cp_X10_thrown pn_X10_thrown rfl (Nat.le_of_ble_eq_true rfl) ⟨Nat.le_of_ble_eq_true rfl, Nat.le_of_ble_eq_true rfl⟩ ⟨by omega, by omega⟩ dL_law_750 (kIp (fun r_3 hr_3 h => ?_))
  refine a_iload (pc := 753) X9 dL_law_753 rfl ?_
  refine a_icmp_eq (pc := 755) (tgt := 760) X9 dL_law_755 rfl hr_3 hr_1 (fun c => ?_) (fun c => ?_)
  · have c_1 := c
    have h := h.1 c_1
    refine a_iload (pc := 760) X9 dL_law_760 rfl ?_
    refine a_if_ne (pc := 762) (tgt := 777) X9 dL_law_762 rfl hr_1 (fun c => ?_) (fun c => ?_)
    · have c_2 := c
      have h := h.1 c_2
      refine a_goto (pc := 777) (tgt := 2618) X9 dL_law_777 rfl ?_
      refine AW.widen (cb' := cb + 4) (sb' := sb + 24) (by omega) (by omega) ?_
      refine AW.drop 5 rfl ?_
      refine AW.drop 6 rfl ?_
      exact hK _ h hG_2
    · have c_2 := c
      have h := h.2 c_2
      refine a_aload_n (pc := 765) X9 dL_law_765 rfl rfl ?_
      refine a_iconst (pc := 766) X9 dL_law_766 ?_
      refine a_lald (pc := 767) X9 (atO hnn) (Nat.le_of_ble_eq_true rfl) (j := 0) rfl (Nat.le_of_ble_eq_true rfl) dL_law_767 ?_
      refine a_iload (pc := 768) X9 dL_law_768 rfl ?_
      refine a_i2l (pc := 770) X9 dL_law_770 hr_2 ?_
      refine b_lcmp (pc := 771) X9 dL_law_771 (inR_inL (hG_2 _ _)) (inR_inL hr_2) ?_
      refine a_if_eq (pc := 772) (tgt := 777) X9 dL_law_772 rfl lcv_inR (fun c => ?_) (fun c => ?_)
      · have c_3 : (G_2 285 0) = r_2 := lcv_eq.mp c
        have h := h.1 c_3
        refine a_goto (pc := 777) (tgt := 2618) X9 dL_law_777 rfl ?_
        refine AW.widen (cb' := cb + 4) (sb' := sb + 24) (by omega) (by omega) ?_
        refine AW.drop 5 rfl ?_
        refine AW.drop 6 rfl ?_
        exact hK _ h hG_2
      · have c_3 : (G_2 285 0) ≠ r_2 := fun e => c (lcv_eq.mpr e)
        have h := h.2 c_3
        refine a_iconst (pc := 775) X9 dL_law_775 ?_
        exact h.elim
  · have c_1 := c
    have h := h.2 c_1
    refine a_iconst (pc := 758) X9 dL_law_758 ?_
    exact h.elim
set_option maxHeartbeats 4000000 in
set_option maxRecDepth 100000 in
theorem m_law_11 {κ : Cx} {δ : Dx} {ρ0 : Nat → Nat} {n0 cb sb nn L : Nat} {xs : Nat → Int32} {i4 : Int} {G : GH} {K : GH → Prop} (X9 : CX κ δ RL cL_law 9 ret) (E : RmL κ) (LX : LawX κ δ ρ0 L xs) (hnn : 286 ≤ nn) (hi4 : inR i4) (hG : GR G) (hcb : cb + 4 ≤ 601024 ∧ sb + 24 ≤ 7293033) (hK : ∀ G9, K G9 → GR G9 → AW κ δ ρ0 n0 9 (cb + 4) (sb + 24) 2618 [some (vr (strB + 30)), some (vr 0), some (vr 272), some (vr 285), some (vi i4), none, none, none, none] [] (SF nn) G9) (h : f_law_11 L xs i4 G K) : AW κ δ ρ0 n0 9 cb sb 780 [some (vr (strB + 30)), some (vr 0), some (vr 272), some (vr 285), some (vi i4), none, none, none, none] [] (SF nn) G := by
  have hnn0 : 272 ≤ nn := by omega
  have hnn1 : 285 ≤ nn := by omega
  refine a_aload_n (pc := 780) X9 dL_law_780 rfl rfl ?_
  refine a_aload_n (pc := 781) X9 dL_law_781 rfl rfl ?_
  refine a_iload (pc := 782) X9 dL_law_782 rfl ?_
  refine a_iconst (pc := 784) X9 dL_law_784 ?_
  refine a_iadd (pc := 785) X9 dL_law_785 ?_
  obtain ⟨g_1, h⟩ := h
  refine b_scr (pc := 786) X9 LX g_1 dL_law_786 ?_
  refine a_aload_n (pc := 787) X9 dL_law_787 rfl rfl ?_
  refine a_iload (pc := 788) X9 dL_law_788 rfl ?_
  refine a_iconst (pc := 790) X9 dL_law_790 ?_
  refine a_iadd (pc := 791) X9 dL_law_791 ?_
  obtain ⟨g_2, h⟩ := h
  refine b_scr (pc := 792) X9 LX g_2 dL_law_792 ?_
  refine a_aload_n (pc := 793) X9 dL_law_793 rfl rfl ?_
  refine a_callSL (pc := 794) X9 E (m_L_hymn (inR_toInt _) (inR_toInt _) hnn h) wM_L_163 w_static_L_hymn w_initialized_RL w_codeWith_L_hymn cpL_hymn pnL_hymn rfl (Nat.le_of_ble_eq_true rfl) ⟨Nat.le_of_ble_eq_true rfl, Nat.le_of_ble_eq_true rfl⟩ ⟨by omega, by omega⟩ dL_law_794 (kI (fun r_1 G_1 hr_1 h hG_1 => ?_))
  refine a_istore (pc := 797) X9 dL_law_797 (Nat.le_of_ble_eq_true rfl) rfl rfl ?_
  refine a_aload_n (pc := 799) X9 dL_law_799 rfl rfl ?_
  refine a_aload_n (pc := 800) X9 dL_law_800 rfl rfl ?_
  refine a_iload (pc := 801) X9 dL_law_801 rfl ?_
  refine a_iconst (pc := 803) X9 dL_law_803 ?_
  refine a_iadd (pc := 804) X9 dL_law_804 ?_
  refine b_scr (pc := 805) X9 LX g_1 dL_law_805 ?_
  refine a_aload_n (pc := 806) X9 dL_law_806 rfl rfl ?_
  refine a_iload (pc := 807) X9 dL_law_807 rfl ?_
  refine a_iconst (pc := 809) X9 dL_law_809 ?_
  refine a_iadd (pc := 810) X9 dL_law_810 ?_
  refine b_scr (pc := 811) X9 LX g_2 dL_law_811 ?_
  refine a_callVL (pc := 812) X9 E (m_X10_hymn (inR_toInt _) (inR_toInt _) hnn1 h) okX10 (is10 hnn1) wM_L_165 w_instanceMethod_X10_hymn w_selects_X10_hymn w_initialized_RX10 w_code_X10_hymn cp_X10_hymn pn_X10_hymn rfl (Nat.le_of_ble_eq_true rfl) ⟨Nat.le_of_ble_eq_true rfl, Nat.le_of_ble_eq_true rfl⟩ ⟨by omega, by omega⟩ dL_law_812 (kI (fun r_2 G_2 hr_2 h hG_2 => ?_))
  refine a_istore (pc := 815) X9 dL_law_815 (Nat.le_of_ble_eq_true rfl) rfl rfl ?_
  refine a_aload_n (pc := 817) X9 dL_law_817 rfl rfl ?_
  refine a_callVL (pc := 818) X9 E (m_X10_thrown  hnn1 h) okX10 (is10 hnn1) wM_L_141 w_instanceMethod_X10_thrown w_selects_X10_thrown w_initialized_RX10 w_code_X10_thrown cp_X10_thrown pn_X10_thrown rfl (Nat.le_of_ble_eq_true rfl) ⟨Nat.le_of_ble_eq_true rfl, Nat.le_of_ble_eq_true rfl⟩ ⟨by omega, by omega⟩ dL_law_818 (kIp (fun r_3 hr_3 h => ?_))
  refine a_iload (pc := 821) X9 dL_law_821 rfl ?_
  refine a_icmp_eq (pc := 823) (tgt := 828) X9 dL_law_823 rfl hr_3 hr_1 (fun c => ?_) (fun c => ?_)
  · have c_1 := c
    have h := h.1 c_1
    refine a_iload (pc := 828) X9 dL_law_828 rfl ?_
    refine a_if_ne (pc := 830) (tgt := 845) X9 dL_law_830 rfl hr_1 (fun c => ?_) (fun c => ?_)
    · have c_2 := c
      have h := h.1 c_2
      refine a_goto (pc := 845) (tgt := 2618) X9 dL_law_845 rfl ?_
      refine AW.widen (cb' := cb + 4) (sb' := sb + 24) (by omega) (by omega) ?_
      refine AW.drop 5 rfl ?_
      refine AW.drop 6 rfl ?_
      exact hK _ h hG_2
    · have c_2 := c
      have h := h.2 c_2
      refine a_aload_n (pc := 833) X9 dL_law_833 rfl rfl ?_
      refine a_iconst (pc := 834) X9 dL_law_834 ?_
      refine a_lald (pc := 835) X9 (atO hnn) (Nat.le_of_ble_eq_true rfl) (j := 0) rfl (Nat.le_of_ble_eq_true rfl) dL_law_835 ?_
      refine a_iload (pc := 836) X9 dL_law_836 rfl ?_
      refine a_i2l (pc := 838) X9 dL_law_838 hr_2 ?_
      refine b_lcmp (pc := 839) X9 dL_law_839 (inR_inL (hG_2 _ _)) (inR_inL hr_2) ?_
      refine a_if_eq (pc := 840) (tgt := 845) X9 dL_law_840 rfl lcv_inR (fun c => ?_) (fun c => ?_)
      · have c_3 : (G_2 285 0) = r_2 := lcv_eq.mp c
        have h := h.1 c_3
        refine a_goto (pc := 845) (tgt := 2618) X9 dL_law_845 rfl ?_
        refine AW.widen (cb' := cb + 4) (sb' := sb + 24) (by omega) (by omega) ?_
        refine AW.drop 5 rfl ?_
        refine AW.drop 6 rfl ?_
        exact hK _ h hG_2
      · have c_3 : (G_2 285 0) ≠ r_2 := fun e => c (lcv_eq.mpr e)
        have h := h.2 c_3
        refine a_iconst (pc := 843) X9 dL_law_843 ?_
        exact h.elim
  · have c_1 := c
    have h := h.2 c_1
    refine a_iconst (pc := 826) X9 dL_law_826 ?_
    exact h.elim
set_option maxHeartbeats 4000000 in
set_option maxRecDepth 100000 in
theorem m_law_12 {κ : Cx} {δ : Dx} {ρ0 : Nat → Nat} {n0 cb sb nn L : Nat} {xs : Nat → Int32} {i4 : Int} {G : GH} {K : GH → Prop} (X9 : CX κ δ RL cL_law 9 ret) (E : RmL κ) (LX : LawX κ δ ρ0 L xs) (hnn : 286 ≤ nn) (hi4 : inR i4) (hG : GR G) (hcb : cb + 4 ≤ 601024 ∧ sb + 24 ≤ 7293033) (hK : ∀ G9, K G9 → GR G9 → AW κ δ ρ0 n0 9 (cb + 4) (sb + 24) 2618 [some (vr (strB + 30)), some (vr 0), some (vr 272), some (vr 285), some (vi i4), none, none, none, none] [] (SF nn) G9) (h : f_law_12 L xs i4 G K) : AW κ δ ρ0 n0 9 cb sb 848 [some (vr (strB + 30)), some (vr 0), some (vr 272), some (vr 285), some (vi i4), none, none, none, none] [] (SF nn) G := by
  have hnn0 : 272 ≤ nn := by omega
  have hnn1 : 285 ≤ nn := by omega
  refine a_aload_n (pc := 848) X9 dL_law_848 rfl rfl ?_
  refine a_aload_n (pc := 849) X9 dL_law_849 rfl rfl ?_
  refine a_iload (pc := 850) X9 dL_law_850 rfl ?_
  refine a_iconst (pc := 852) X9 dL_law_852 ?_
  refine a_iadd (pc := 853) X9 dL_law_853 ?_
  obtain ⟨g_1, h⟩ := h
  refine b_scr (pc := 854) X9 LX g_1 dL_law_854 ?_
  refine a_aload_n (pc := 855) X9 dL_law_855 rfl rfl ?_
  refine a_iload (pc := 856) X9 dL_law_856 rfl ?_
  refine a_iconst (pc := 858) X9 dL_law_858 ?_
  refine a_iadd (pc := 859) X9 dL_law_859 ?_
  obtain ⟨g_2, h⟩ := h
  refine b_scr (pc := 860) X9 LX g_2 dL_law_860 ?_
  refine a_aload_n (pc := 861) X9 dL_law_861 rfl rfl ?_
  refine a_iload (pc := 862) X9 dL_law_862 rfl ?_
  refine a_iconst (pc := 864) X9 dL_law_864 ?_
  refine a_iadd (pc := 865) X9 dL_law_865 ?_
  obtain ⟨g_3, h⟩ := h
  refine b_scr (pc := 866) X9 LX g_3 dL_law_866 ?_
  refine a_aload_n (pc := 867) X9 dL_law_867 rfl rfl ?_
  refine a_iload (pc := 868) X9 dL_law_868 rfl ?_
  refine a_iconst (pc := 870) X9 dL_law_870 ?_
  refine a_iadd (pc := 871) X9 dL_law_871 ?_
  obtain ⟨g_4, h⟩ := h
  refine b_scr (pc := 872) X9 LX g_4 dL_law_872 ?_
  refine a_aload_n (pc := 873) X9 dL_law_873 rfl rfl ?_
  refine a_callSL (pc := 874) X9 E (m_L_place (inR_toInt _) (inR_toInt _) (inR_toInt _) (inR_toInt _) hnn h) wM_L_166 w_static_L_place w_initialized_RL w_codeWith_L_place cpL_place pnL_place rfl (Nat.le_of_ble_eq_true rfl) ⟨Nat.le_of_ble_eq_true rfl, Nat.le_of_ble_eq_true rfl⟩ ⟨by omega, by omega⟩ dL_law_874 (kI (fun r_1 G_1 hr_1 h hG_1 => ?_))
  refine a_istore (pc := 877) X9 dL_law_877 (Nat.le_of_ble_eq_true rfl) rfl rfl ?_
  refine a_aload_n (pc := 879) X9 dL_law_879 rfl rfl ?_
  refine a_aload_n (pc := 880) X9 dL_law_880 rfl rfl ?_
  refine a_iload (pc := 881) X9 dL_law_881 rfl ?_
  refine a_iconst (pc := 883) X9 dL_law_883 ?_
  refine a_iadd (pc := 884) X9 dL_law_884 ?_
  refine b_scr (pc := 885) X9 LX g_1 dL_law_885 ?_
  refine a_aload_n (pc := 886) X9 dL_law_886 rfl rfl ?_
  refine a_iload (pc := 887) X9 dL_law_887 rfl ?_
  refine a_iconst (pc := 889) X9 dL_law_889 ?_
  refine a_iadd (pc := 890) X9 dL_law_890 ?_
  refine b_scr (pc := 891) X9 LX g_2 dL_law_891 ?_
  refine a_aload_n (pc := 892) X9 dL_law_892 rfl rfl ?_
  refine a_iload (pc := 893) X9 dL_law_893 rfl ?_
  refine a_iconst (pc := 895) X9 dL_law_895 ?_
  refine a_iadd (pc := 896) X9 dL_law_896 ?_
  refine b_scr (pc := 897) X9 LX g_3 dL_law_897 ?_
  refine a_aload_n (pc := 898) X9 dL_law_898 rfl rfl ?_
  refine a_iload (pc := 899) X9 dL_law_899 rfl ?_
  refine a_iconst (pc := 901) X9 dL_law_901 ?_
  refine a_iadd (pc := 902) X9 dL_law_902 ?_
  refine b_scr (pc := 903) X9 LX g_4 dL_law_903 ?_
  refine a_callVL (pc := 904) X9 E (m_X10_place (inR_toInt _) (inR_toInt _) (inR_toInt _) (inR_toInt _) hnn1 h) okX10 (is10 hnn1) wM_L_169 w_instanceMethod_X10_place w_selects_X10_place w_initialized_RX10 w_code_X10_place cp_X10_place pn_X10_place rfl (Nat.le_of_ble_eq_true rfl) ⟨Nat.le_of_ble_eq_true rfl, Nat.le_of_ble_eq_true rfl⟩ ⟨by omega, by omega⟩ dL_law_904 (kI (fun r_2 G_2 hr_2 h hG_2 => ?_))
  refine a_istore (pc := 907) X9 dL_law_907 (Nat.le_of_ble_eq_true rfl) rfl rfl ?_
  refine a_aload_n (pc := 909) X9 dL_law_909 rfl rfl ?_
  refine a_callVL (pc := 910) X9 E (m_X10_thrown  hnn1 h) okX10 (is10 hnn1) wM_L_141 w_instanceMethod_X10_thrown w_selects_X10_thrown w_initialized_RX10 w_code_X10_thrown cp_X10_thrown pn_X10_thrown rfl (Nat.le_of_ble_eq_true rfl) ⟨Nat.le_of_ble_eq_true rfl, Nat.le_of_ble_eq_true rfl⟩ ⟨by omega, by omega⟩ dL_law_910 (kIp (fun r_3 hr_3 h => ?_))
  refine a_iload (pc := 913) X9 dL_law_913 rfl ?_
  refine a_icmp_eq (pc := 915) (tgt := 920) X9 dL_law_915 rfl hr_3 hr_1 (fun c => ?_) (fun c => ?_)
  · have c_1 := c
    have h := h.1 c_1
    refine a_iload (pc := 920) X9 dL_law_920 rfl ?_
    refine a_if_ne (pc := 922) (tgt := 937) X9 dL_law_922 rfl hr_1 (fun c => ?_) (fun c => ?_)
    · have c_2 := c
      have h := h.1 c_2
      refine a_goto (pc := 937) (tgt := 2618) X9 dL_law_937 rfl ?_
      refine AW.widen (cb' := cb + 4) (sb' := sb + 24) (by omega) (by omega) ?_
      refine AW.drop 5 rfl ?_
      refine AW.drop 6 rfl ?_
      exact hK _ h hG_2
    · have c_2 := c
      have h := h.2 c_2
      refine a_aload_n (pc := 925) X9 dL_law_925 rfl rfl ?_
      refine a_iconst (pc := 926) X9 dL_law_926 ?_
      refine a_lald (pc := 927) X9 (atO hnn) (Nat.le_of_ble_eq_true rfl) (j := 0) rfl (Nat.le_of_ble_eq_true rfl) dL_law_927 ?_
      refine a_iload (pc := 928) X9 dL_law_928 rfl ?_
      refine a_i2l (pc := 930) X9 dL_law_930 hr_2 ?_
      refine b_lcmp (pc := 931) X9 dL_law_931 (inR_inL (hG_2 _ _)) (inR_inL hr_2) ?_
      refine a_if_eq (pc := 932) (tgt := 937) X9 dL_law_932 rfl lcv_inR (fun c => ?_) (fun c => ?_)
      · have c_3 : (G_2 285 0) = r_2 := lcv_eq.mp c
        have h := h.1 c_3
        refine a_goto (pc := 937) (tgt := 2618) X9 dL_law_937 rfl ?_
        refine AW.widen (cb' := cb + 4) (sb' := sb + 24) (by omega) (by omega) ?_
        refine AW.drop 5 rfl ?_
        refine AW.drop 6 rfl ?_
        exact hK _ h hG_2
      · have c_3 : (G_2 285 0) ≠ r_2 := fun e => c (lcv_eq.mpr e)
        have h := h.2 c_3
        refine a_iconst (pc := 935) X9 dL_law_935 ?_
        exact h.elim
  · have c_1 := c
    have h := h.2 c_1
    refine a_iconst (pc := 918) X9 dL_law_918 ?_
    exact h.elim
set_option maxHeartbeats 4000000 in
set_option maxRecDepth 100000 in
theorem m_law_13 {κ : Cx} {δ : Dx} {ρ0 : Nat → Nat} {n0 cb sb nn L : Nat} {xs : Nat → Int32} {i4 : Int} {G : GH} {K : GH → Prop} (X9 : CX κ δ RL cL_law 9 ret) (E : RmL κ) (LX : LawX κ δ ρ0 L xs) (hnn : 286 ≤ nn) (hi4 : inR i4) (hG : GR G) (hcb : cb + 4 ≤ 601024 ∧ sb + 24 ≤ 7293033) (hK : ∀ G9, K G9 → GR G9 → AW κ δ ρ0 n0 9 (cb + 4) (sb + 24) 2618 [some (vr (strB + 30)), some (vr 0), some (vr 272), some (vr 285), some (vi i4), none, none, none, none] [] (SF nn) G9) (h : f_law_13 L xs i4 G K) : AW κ δ ρ0 n0 9 cb sb 940 [some (vr (strB + 30)), some (vr 0), some (vr 272), some (vr 285), some (vi i4), none, none, none, none] [] (SF nn) G := by
  have hnn0 : 272 ≤ nn := by omega
  have hnn1 : 285 ≤ nn := by omega
  refine a_aload_n (pc := 940) X9 dL_law_940 rfl rfl ?_
  refine a_aload_n (pc := 941) X9 dL_law_941 rfl rfl ?_
  refine a_iload (pc := 942) X9 dL_law_942 rfl ?_
  refine a_iconst (pc := 944) X9 dL_law_944 ?_
  refine a_iadd (pc := 945) X9 dL_law_945 ?_
  obtain ⟨g_1, h⟩ := h
  refine b_scr (pc := 946) X9 LX g_1 dL_law_946 ?_
  refine a_aload_n (pc := 947) X9 dL_law_947 rfl rfl ?_
  refine a_iload (pc := 948) X9 dL_law_948 rfl ?_
  refine a_iconst (pc := 950) X9 dL_law_950 ?_
  refine a_iadd (pc := 951) X9 dL_law_951 ?_
  obtain ⟨g_2, h⟩ := h
  refine b_scr (pc := 952) X9 LX g_2 dL_law_952 ?_
  refine a_aload_n (pc := 953) X9 dL_law_953 rfl rfl ?_
  refine a_callSL (pc := 954) X9 E (m_L_hung (inR_toInt _) (inR_toInt _) hnn h) wM_L_170 w_static_L_hung w_initialized_RL w_codeWith_L_hung cpL_hung pnL_hung rfl (Nat.le_of_ble_eq_true rfl) ⟨Nat.le_of_ble_eq_true rfl, Nat.le_of_ble_eq_true rfl⟩ ⟨by omega, by omega⟩ dL_law_954 (kI (fun r_1 G_1 hr_1 h hG_1 => ?_))
  refine a_istore (pc := 957) X9 dL_law_957 (Nat.le_of_ble_eq_true rfl) rfl rfl ?_
  refine a_aload_n (pc := 959) X9 dL_law_959 rfl rfl ?_
  refine a_aload_n (pc := 960) X9 dL_law_960 rfl rfl ?_
  refine a_iload (pc := 961) X9 dL_law_961 rfl ?_
  refine a_iconst (pc := 963) X9 dL_law_963 ?_
  refine a_iadd (pc := 964) X9 dL_law_964 ?_
  refine b_scr (pc := 965) X9 LX g_1 dL_law_965 ?_
  refine a_aload_n (pc := 966) X9 dL_law_966 rfl rfl ?_
  refine a_iload (pc := 967) X9 dL_law_967 rfl ?_
  refine a_iconst (pc := 969) X9 dL_law_969 ?_
  refine a_iadd (pc := 970) X9 dL_law_970 ?_
  refine b_scr (pc := 971) X9 LX g_2 dL_law_971 ?_
  refine a_callVL (pc := 972) X9 E (m_X10_hung (inR_toInt _) (inR_toInt _) hnn1 h) okX10 (is10 hnn1) wM_L_172 w_instanceMethod_X10_hung w_selects_X10_hung w_initialized_RX10 w_code_X10_hung cp_X10_hung pn_X10_hung rfl (Nat.le_of_ble_eq_true rfl) ⟨Nat.le_of_ble_eq_true rfl, Nat.le_of_ble_eq_true rfl⟩ ⟨by omega, by omega⟩ dL_law_972 (kI (fun r_2 G_2 hr_2 h hG_2 => ?_))
  refine a_istore (pc := 975) X9 dL_law_975 (Nat.le_of_ble_eq_true rfl) rfl rfl ?_
  refine a_aload_n (pc := 977) X9 dL_law_977 rfl rfl ?_
  refine a_callVL (pc := 978) X9 E (m_X10_thrown  hnn1 h) okX10 (is10 hnn1) wM_L_141 w_instanceMethod_X10_thrown w_selects_X10_thrown w_initialized_RX10 w_code_X10_thrown cp_X10_thrown pn_X10_thrown rfl (Nat.le_of_ble_eq_true rfl) ⟨Nat.le_of_ble_eq_true rfl, Nat.le_of_ble_eq_true rfl⟩ ⟨by omega, by omega⟩ dL_law_978 (kIp (fun r_3 hr_3 h => ?_))
  refine a_iload (pc := 981) X9 dL_law_981 rfl ?_
  refine a_icmp_eq (pc := 983) (tgt := 988) X9 dL_law_983 rfl hr_3 hr_1 (fun c => ?_) (fun c => ?_)
  · have c_1 := c
    have h := h.1 c_1
    refine a_iload (pc := 988) X9 dL_law_988 rfl ?_
    refine a_if_ne (pc := 990) (tgt := 1005) X9 dL_law_990 rfl hr_1 (fun c => ?_) (fun c => ?_)
    · have c_2 := c
      have h := h.1 c_2
      refine a_goto (pc := 1005) (tgt := 2618) X9 dL_law_1005 rfl ?_
      refine AW.widen (cb' := cb + 4) (sb' := sb + 24) (by omega) (by omega) ?_
      refine AW.drop 5 rfl ?_
      refine AW.drop 6 rfl ?_
      exact hK _ h hG_2
    · have c_2 := c
      have h := h.2 c_2
      refine a_aload_n (pc := 993) X9 dL_law_993 rfl rfl ?_
      refine a_iconst (pc := 994) X9 dL_law_994 ?_
      refine a_lald (pc := 995) X9 (atO hnn) (Nat.le_of_ble_eq_true rfl) (j := 0) rfl (Nat.le_of_ble_eq_true rfl) dL_law_995 ?_
      refine a_iload (pc := 996) X9 dL_law_996 rfl ?_
      refine a_i2l (pc := 998) X9 dL_law_998 hr_2 ?_
      refine b_lcmp (pc := 999) X9 dL_law_999 (inR_inL (hG_2 _ _)) (inR_inL hr_2) ?_
      refine a_if_eq (pc := 1000) (tgt := 1005) X9 dL_law_1000 rfl lcv_inR (fun c => ?_) (fun c => ?_)
      · have c_3 : (G_2 285 0) = r_2 := lcv_eq.mp c
        have h := h.1 c_3
        refine a_goto (pc := 1005) (tgt := 2618) X9 dL_law_1005 rfl ?_
        refine AW.widen (cb' := cb + 4) (sb' := sb + 24) (by omega) (by omega) ?_
        refine AW.drop 5 rfl ?_
        refine AW.drop 6 rfl ?_
        exact hK _ h hG_2
      · have c_3 : (G_2 285 0) ≠ r_2 := fun e => c (lcv_eq.mpr e)
        have h := h.2 c_3
        refine a_iconst (pc := 1003) X9 dL_law_1003 ?_
        exact h.elim
  · have c_1 := c
    have h := h.2 c_1
    refine a_iconst (pc := 986) X9 dL_law_986 ?_
    exact h.elim
set_option maxHeartbeats 4000000 in
set_option maxRecDepth 100000 in
theorem m_law_14 {κ : Cx} {δ : Dx} {ρ0 : Nat → Nat} {n0 cb sb nn L : Nat} {xs : Nat → Int32} {i4 : Int} {G : GH} {K : GH → Prop} (X9 : CX κ δ RL cL_law 9 ret) (E : RmL κ) (LX : LawX κ δ ρ0 L xs) (hnn : 286 ≤ nn) (hi4 : inR i4) (hG : GR G) (hcb : cb + 4 ≤ 601024 ∧ sb + 24 ≤ 7293033) (hK : ∀ G9, K G9 → GR G9 → AW κ δ ρ0 n0 9 (cb + 4) (sb + 24) 2618 [some (vr (strB + 30)), some (vr 0), some (vr 272), some (vr 285), some (vi i4), none, none, none, none] [] (SF nn) G9) (h : f_law_14 L xs i4 G K) : AW κ δ ρ0 n0 9 cb sb 1008 [some (vr (strB + 30)), some (vr 0), some (vr 272), some (vr 285), some (vi i4), none, none, none, none] [] (SF nn) G := by
  have hnn0 : 272 ≤ nn := by omega
  have hnn1 : 285 ≤ nn := by omega
  refine a_aload_n (pc := 1008) X9 dL_law_1008 rfl rfl ?_
  refine a_callVL (pc := 1009) X9 E (m_X9_holes  hnn0 h) okX9 (is9 hnn0) wM_L_173 w_instanceMethod_X9_holes w_selects_X9_holes w_initialized_RX9 w_code_X9_holes cp_X9_holes pn_X9_holes rfl (Nat.le_of_ble_eq_true rfl) ⟨Nat.le_of_ble_eq_true rfl, Nat.le_of_ble_eq_true rfl⟩ ⟨by omega, by omega⟩ dL_law_1009 (kIp (fun r_1 hr_1 h => ?_))
  refine a_aload_n (pc := 1012) X9 dL_law_1012 rfl rfl ?_
  refine a_callVL (pc := 1013) X9 E (m_X10_holes  hnn1 h) okX10 (is10 hnn1) wM_L_176 w_instanceMethod_X10_holes w_selects_X10_holes w_initialized_RX10 w_code_X10_holes cp_X10_holes pn_X10_holes rfl (Nat.le_of_ble_eq_true rfl) ⟨Nat.le_of_ble_eq_true rfl, Nat.le_of_ble_eq_true rfl⟩ ⟨by omega, by omega⟩ dL_law_1013 (kI (fun r_2 G_1 hr_2 h hG_1 => ?_))
  refine a_icmp_eq (pc := 1016) (tgt := 2618) X9 dL_law_1016 rfl hr_1 hr_2 (fun c => ?_) (fun c => ?_)
  · have c_1 := c
    have h := h.1 c_1
    refine AW.widen (cb' := cb + 4) (sb' := sb + 24) (by omega) (by omega) ?_
    exact hK _ h hG_1
  · have c_1 := c
    have h := h.2 c_1
    refine a_iconst (pc := 1019) X9 dL_law_1019 ?_
    exact h.elim
set_option maxHeartbeats 4000000 in
set_option maxRecDepth 100000 in
theorem m_law_15 {κ : Cx} {δ : Dx} {ρ0 : Nat → Nat} {n0 cb sb nn L : Nat} {xs : Nat → Int32} {i4 : Int} {G : GH} {K : GH → Prop} (X9 : CX κ δ RL cL_law 9 ret) (E : RmL κ) (LX : LawX κ δ ρ0 L xs) (hnn : 286 ≤ nn) (hi4 : inR i4) (hG : GR G) (hcb : cb + 4 ≤ 601024 ∧ sb + 24 ≤ 7293033) (hK : ∀ G9, K G9 → GR G9 → AW κ δ ρ0 n0 9 (cb + 4) (sb + 24) 2618 [some (vr (strB + 30)), some (vr 0), some (vr 272), some (vr 285), some (vi i4), none, none, none, none] [] (SF nn) G9) (h : f_law_15 L xs i4 G K) : AW κ δ ρ0 n0 9 cb sb 1021 [some (vr (strB + 30)), some (vr 0), some (vr 272), some (vr 285), some (vi i4), none, none, none, none] [] (SF nn) G := by
  have hnn0 : 272 ≤ nn := by omega
  have hnn1 : 285 ≤ nn := by omega
  refine a_aload_n (pc := 1021) X9 dL_law_1021 rfl rfl ?_
  refine a_aload_n (pc := 1022) X9 dL_law_1022 rfl rfl ?_
  refine a_iload (pc := 1023) X9 dL_law_1023 rfl ?_
  refine a_iconst (pc := 1025) X9 dL_law_1025 ?_
  refine a_iadd (pc := 1026) X9 dL_law_1026 ?_
  obtain ⟨g_1, h⟩ := h
  refine b_scr (pc := 1027) X9 LX g_1 dL_law_1027 ?_
  refine a_aload_n (pc := 1028) X9 dL_law_1028 rfl rfl ?_
  refine a_callSL (pc := 1029) X9 E (m_L_free (inR_toInt _) hnn h) wM_L_177 w_static_L_free w_initialized_RL w_codeWith_L_free cpL_free pnL_free rfl (Nat.le_of_ble_eq_true rfl) ⟨Nat.le_of_ble_eq_true rfl, Nat.le_of_ble_eq_true rfl⟩ ⟨by omega, by omega⟩ dL_law_1029 (kI (fun r_1 G_1 hr_1 h hG_1 => ?_))
  refine a_istore (pc := 1032) X9 dL_law_1032 (Nat.le_of_ble_eq_true rfl) rfl rfl ?_
  refine a_aload_n (pc := 1034) X9 dL_law_1034 rfl rfl ?_
  refine a_aload_n (pc := 1035) X9 dL_law_1035 rfl rfl ?_
  refine a_iload (pc := 1036) X9 dL_law_1036 rfl ?_
  refine a_iconst (pc := 1038) X9 dL_law_1038 ?_
  refine a_iadd (pc := 1039) X9 dL_law_1039 ?_
  refine b_scr (pc := 1040) X9 LX g_1 dL_law_1040 ?_
  refine a_callVL (pc := 1041) X9 E (m_X10_free (inR_toInt _) hnn1 h) okX10 (is10 hnn1) wM_L_179 w_instanceMethod_X10_free w_selects_X10_free w_initialized_RX10 w_code_X10_free cp_X10_free pn_X10_free rfl (Nat.le_of_ble_eq_true rfl) ⟨Nat.le_of_ble_eq_true rfl, Nat.le_of_ble_eq_true rfl⟩ ⟨by omega, by omega⟩ dL_law_1041 (kI (fun r_2 G_2 hr_2 h hG_2 => ?_))
  refine a_istore (pc := 1044) X9 dL_law_1044 (Nat.le_of_ble_eq_true rfl) rfl rfl ?_
  refine a_aload_n (pc := 1046) X9 dL_law_1046 rfl rfl ?_
  refine a_callVL (pc := 1047) X9 E (m_X10_thrown  hnn1 h) okX10 (is10 hnn1) wM_L_141 w_instanceMethod_X10_thrown w_selects_X10_thrown w_initialized_RX10 w_code_X10_thrown cp_X10_thrown pn_X10_thrown rfl (Nat.le_of_ble_eq_true rfl) ⟨Nat.le_of_ble_eq_true rfl, Nat.le_of_ble_eq_true rfl⟩ ⟨by omega, by omega⟩ dL_law_1047 (kIp (fun r_3 hr_3 h => ?_))
  refine a_iload (pc := 1050) X9 dL_law_1050 rfl ?_
  refine a_icmp_eq (pc := 1052) (tgt := 1057) X9 dL_law_1052 rfl hr_3 hr_1 (fun c => ?_) (fun c => ?_)
  · have c_1 := c
    have h := h.1 c_1
    refine a_iload (pc := 1057) X9 dL_law_1057 rfl ?_
    refine a_if_ne (pc := 1059) (tgt := 1074) X9 dL_law_1059 rfl hr_1 (fun c => ?_) (fun c => ?_)
    · have c_2 := c
      have h := h.1 c_2
      refine a_goto (pc := 1074) (tgt := 2618) X9 dL_law_1074 rfl ?_
      refine AW.widen (cb' := cb + 4) (sb' := sb + 24) (by omega) (by omega) ?_
      refine AW.drop 5 rfl ?_
      refine AW.drop 6 rfl ?_
      exact hK _ h hG_2
    · have c_2 := c
      have h := h.2 c_2
      refine a_aload_n (pc := 1062) X9 dL_law_1062 rfl rfl ?_
      refine a_iconst (pc := 1063) X9 dL_law_1063 ?_
      refine a_lald (pc := 1064) X9 (atO hnn) (Nat.le_of_ble_eq_true rfl) (j := 0) rfl (Nat.le_of_ble_eq_true rfl) dL_law_1064 ?_
      refine a_iload (pc := 1065) X9 dL_law_1065 rfl ?_
      refine a_i2l (pc := 1067) X9 dL_law_1067 hr_2 ?_
      refine b_lcmp (pc := 1068) X9 dL_law_1068 (inR_inL (hG_2 _ _)) (inR_inL hr_2) ?_
      refine a_if_eq (pc := 1069) (tgt := 1074) X9 dL_law_1069 rfl lcv_inR (fun c => ?_) (fun c => ?_)
      · have c_3 : (G_2 285 0) = r_2 := lcv_eq.mp c
        have h := h.1 c_3
        refine a_goto (pc := 1074) (tgt := 2618) X9 dL_law_1074 rfl ?_
        refine AW.widen (cb' := cb + 4) (sb' := sb + 24) (by omega) (by omega) ?_
        refine AW.drop 5 rfl ?_
        refine AW.drop 6 rfl ?_
        exact hK _ h hG_2
      · have c_3 : (G_2 285 0) ≠ r_2 := fun e => c (lcv_eq.mpr e)
        have h := h.2 c_3
        refine a_iconst (pc := 1072) X9 dL_law_1072 ?_
        exact h.elim
  · have c_1 := c
    have h := h.2 c_1
    refine a_iconst (pc := 1055) X9 dL_law_1055 ?_
    exact h.elim
set_option maxHeartbeats 4000000 in
set_option maxRecDepth 100000 in
theorem m_law_16 {κ : Cx} {δ : Dx} {ρ0 : Nat → Nat} {n0 cb sb nn L : Nat} {xs : Nat → Int32} {i4 : Int} {G : GH} {K : GH → Prop} (X9 : CX κ δ RL cL_law 9 ret) (E : RmL κ) (LX : LawX κ δ ρ0 L xs) (hnn : 286 ≤ nn) (hi4 : inR i4) (hG : GR G) (hcb : cb + 4 ≤ 601024 ∧ sb + 24 ≤ 7293033) (hK : ∀ G9, K G9 → GR G9 → AW κ δ ρ0 n0 9 (cb + 4) (sb + 24) 2618 [some (vr (strB + 30)), some (vr 0), some (vr 272), some (vr 285), some (vi i4), none, none, none, none] [] (SF nn) G9) (h : f_law_16 L xs i4 G K) : AW κ δ ρ0 n0 9 cb sb 1077 [some (vr (strB + 30)), some (vr 0), some (vr 272), some (vr 285), some (vi i4), none, none, none, none] [] (SF nn) G := by
  have hnn0 : 272 ≤ nn := by omega
  have hnn1 : 285 ≤ nn := by omega
  refine a_aload_n (pc := 1077) X9 dL_law_1077 rfl rfl ?_
  refine a_aload_n (pc := 1078) X9 dL_law_1078 rfl rfl ?_
  refine a_iload (pc := 1079) X9 dL_law_1079 rfl ?_
  refine a_iconst (pc := 1081) X9 dL_law_1081 ?_
  refine a_iadd (pc := 1082) X9 dL_law_1082 ?_
  obtain ⟨g_1, h⟩ := h
  refine b_scr (pc := 1083) X9 LX g_1 dL_law_1083 ?_
  refine a_aload_n (pc := 1084) X9 dL_law_1084 rfl rfl ?_
  refine a_callSL (pc := 1085) X9 E (m_L_canShow (inR_toInt _) hnn h) wM_L_180 w_static_L_canShow w_initialized_RL w_codeWith_L_canShow cpL_canShow pnL_canShow rfl (Nat.le_of_ble_eq_true rfl) ⟨Nat.le_of_ble_eq_true rfl, Nat.le_of_ble_eq_true rfl⟩ ⟨by omega, by omega⟩ dL_law_1085 (kI (fun r_1 G_1 hr_1 h hG_1 => ?_))
  refine a_istore (pc := 1088) X9 dL_law_1088 (Nat.le_of_ble_eq_true rfl) rfl rfl ?_
  refine a_aload_n (pc := 1090) X9 dL_law_1090 rfl rfl ?_
  refine a_aload_n (pc := 1091) X9 dL_law_1091 rfl rfl ?_
  refine a_iload (pc := 1092) X9 dL_law_1092 rfl ?_
  refine a_iconst (pc := 1094) X9 dL_law_1094 ?_
  refine a_iadd (pc := 1095) X9 dL_law_1095 ?_
  refine b_scr (pc := 1096) X9 LX g_1 dL_law_1096 ?_
  refine a_callVL (pc := 1097) X9 E (m_X10_canShow (inR_toInt _) hnn1 h) okX10 (is10 hnn1) wM_L_182 w_instanceMethod_X10_canShow w_selects_X10_canShow w_initialized_RX10 w_code_X10_canShow cp_X10_canShow pn_X10_canShow rfl (Nat.le_of_ble_eq_true rfl) ⟨Nat.le_of_ble_eq_true rfl, Nat.le_of_ble_eq_true rfl⟩ ⟨by omega, by omega⟩ dL_law_1097 (kZ (fun r_2 G_2 hr_2 h hG_2 => ?_))
  refine a_istore (pc := 1100) X9 dL_law_1100 (Nat.le_of_ble_eq_true rfl) rfl rfl ?_
  refine a_aload_n (pc := 1102) X9 dL_law_1102 rfl rfl ?_
  refine a_callVL (pc := 1103) X9 E (m_X10_thrown  hnn1 h) okX10 (is10 hnn1) wM_L_141 w_instanceMethod_X10_thrown w_selects_X10_thrown w_initialized_RX10 w_code_X10_thrown cp_X10_thrown pn_X10_thrown rfl (Nat.le_of_ble_eq_true rfl) ⟨Nat.le_of_ble_eq_true rfl, Nat.le_of_ble_eq_true rfl⟩ ⟨by omega, by omega⟩ dL_law_1103 (kIp (fun r_3 hr_3 h => ?_))
  refine a_iload (pc := 1106) X9 dL_law_1106 rfl ?_
  refine a_icmp_eq (pc := 1108) (tgt := 1113) X9 dL_law_1108 rfl hr_3 hr_1 (fun c => ?_) (fun c => ?_)
  · have c_1 := c
    have h := h.1 c_1
    refine a_iload (pc := 1113) X9 dL_law_1113 rfl ?_
    refine a_if_ne (pc := 1115) (tgt := 1137) X9 dL_law_1115 rfl hr_1 (fun c => ?_) (fun c => ?_)
    · have c_2 := c
      have h := h.1 c_2
      refine a_goto (pc := 1137) (tgt := 2618) X9 dL_law_1137 rfl ?_
      refine AW.widen (cb' := cb + 4) (sb' := sb + 24) (by omega) (by omega) ?_
      refine AW.drop 5 rfl ?_
      refine AW.drop 6 rfl ?_
      exact hK _ h hG_2
    · have c_2 := c
      have h := h.2 c_2
      refine a_aload_n (pc := 1118) X9 dL_law_1118 rfl rfl ?_
      refine a_iconst (pc := 1119) X9 dL_law_1119 ?_
      refine a_lald (pc := 1120) X9 (atO hnn) (Nat.le_of_ble_eq_true rfl) (j := 0) rfl (Nat.le_of_ble_eq_true rfl) dL_law_1120 ?_
      refine a_iload (pc := 1121) X9 dL_law_1121 rfl ?_
      refine joinM1 (A := fun v_1 => (v_1 = 0 ∨ v_1 = 1) → AW κ δ ρ0 n0 9 (cb + 1) (sb + 6) 1131 [some (vr (strB + 30)), some (vr 0), some (vr 272), some (vr 285), some (vi i4), some (vi r_1), some (vi r_2), none, none] [vl v_1, vl (G_2 285 0)] (SF nn) G_2) (fun v_1 h h_v_1 => ?_) (fun j_1 hj_1 h => ?_) h
      · refine b_lcmp (pc := 1131) X9 dL_law_1131 (inR_inL (hG_2 _ _)) (inR_inL (bool_inR h_v_1)) ?_
        refine a_if_eq (pc := 1132) (tgt := 1137) X9 dL_law_1132 rfl lcv_inR (fun c => ?_) (fun c => ?_)
        · have c_4 : (G_2 285 0) = v_1 := lcv_eq.mp c
          have h := h.1 c_4
          refine a_goto (pc := 1137) (tgt := 2618) X9 dL_law_1137 rfl ?_
          refine AW.widen (cb' := cb + 4) (sb' := sb + 24) (by omega) (by omega) ?_
          refine AW.drop 5 rfl ?_
          refine AW.drop 6 rfl ?_
          exact hK _ h hG_2
        · have c_4 : (G_2 285 0) ≠ v_1 := fun e => c (lcv_eq.mpr e)
          have h := h.2 c_4
          refine a_iconst (pc := 1135) X9 dL_law_1135 ?_
          exact h.elim
      · refine a_if_eq (pc := 1123) (tgt := 1130) X9 dL_law_1123 rfl (bool_inR hr_2) (fun c => ?_) (fun c => ?_)
        · have c_5 := c
          have h := h.1 c_5
          refine a_lconst (pc := 1130) X9 0 dL_law_1130 rfl ?_
          exact hj_1 _ h (Or.inl rfl)
        · have c_5 := c
          have h := h.2 c_5
          refine a_lconst (pc := 1126) X9 1 dL_law_1126 rfl ?_
          refine a_goto (pc := 1127) (tgt := 1131) X9 dL_law_1127 rfl ?_
          exact hj_1 _ h (Or.inr rfl)
  · have c_1 := c
    have h := h.2 c_1
    refine a_iconst (pc := 1111) X9 dL_law_1111 ?_
    exact h.elim
set_option maxHeartbeats 4000000 in
set_option maxRecDepth 100000 in
theorem m_law_17 {κ : Cx} {δ : Dx} {ρ0 : Nat → Nat} {n0 cb sb nn L : Nat} {xs : Nat → Int32} {i4 : Int} {G : GH} {K : GH → Prop} (X9 : CX κ δ RL cL_law 9 ret) (E : RmL κ) (LX : LawX κ δ ρ0 L xs) (hnn : 286 ≤ nn) (hi4 : inR i4) (hG : GR G) (hcb : cb + 4 ≤ 601024 ∧ sb + 24 ≤ 7293033) (hK : ∀ G9, K G9 → GR G9 → AW κ δ ρ0 n0 9 (cb + 4) (sb + 24) 2618 [some (vr (strB + 30)), some (vr 0), some (vr 272), some (vr 285), some (vi i4), none, none, none, none] [] (SF nn) G9) (h : f_law_17 L xs i4 G K) : AW κ δ ρ0 n0 9 cb sb 1140 [some (vr (strB + 30)), some (vr 0), some (vr 272), some (vr 285), some (vi i4), none, none, none, none] [] (SF nn) G := by
  have hnn0 : 272 ≤ nn := by omega
  have hnn1 : 285 ≤ nn := by omega
  refine a_aload_n (pc := 1140) X9 dL_law_1140 rfl rfl ?_
  refine a_aload_n (pc := 1141) X9 dL_law_1141 rfl rfl ?_
  refine a_iload (pc := 1142) X9 dL_law_1142 rfl ?_
  refine a_iconst (pc := 1144) X9 dL_law_1144 ?_
  refine a_iadd (pc := 1145) X9 dL_law_1145 ?_
  obtain ⟨g_1, h⟩ := h
  refine b_scr (pc := 1146) X9 LX g_1 dL_law_1146 ?_
  refine a_aload_n (pc := 1147) X9 dL_law_1147 rfl rfl ?_
  refine a_callSL (pc := 1148) X9 E (m_L_most (inR_toInt _) hnn h) wM_L_183 w_static_L_most w_initialized_RL w_codeWith_L_most cpL_most pnL_most rfl (Nat.le_of_ble_eq_true rfl) ⟨Nat.le_of_ble_eq_true rfl, Nat.le_of_ble_eq_true rfl⟩ ⟨by omega, by omega⟩ dL_law_1148 (kI (fun r_1 G_1 hr_1 h hG_1 => ?_))
  refine a_istore (pc := 1151) X9 dL_law_1151 (Nat.le_of_ble_eq_true rfl) rfl rfl ?_
  refine a_aload_n (pc := 1153) X9 dL_law_1153 rfl rfl ?_
  refine a_aload_n (pc := 1154) X9 dL_law_1154 rfl rfl ?_
  refine a_iload (pc := 1155) X9 dL_law_1155 rfl ?_
  refine a_iconst (pc := 1157) X9 dL_law_1157 ?_
  refine a_iadd (pc := 1158) X9 dL_law_1158 ?_
  refine b_scr (pc := 1159) X9 LX g_1 dL_law_1159 ?_
  refine a_callVL (pc := 1160) X9 E (m_X10_most (inR_toInt _) hnn1 h) okX10 (is10 hnn1) wM_L_185 w_instanceMethod_X10_most w_selects_X10_most w_initialized_RX10 w_code_X10_most cp_X10_most pn_X10_most rfl (Nat.le_of_ble_eq_true rfl) ⟨Nat.le_of_ble_eq_true rfl, Nat.le_of_ble_eq_true rfl⟩ ⟨by omega, by omega⟩ dL_law_1160 (kI (fun r_2 G_2 hr_2 h hG_2 => ?_))
  refine a_istore (pc := 1163) X9 dL_law_1163 (Nat.le_of_ble_eq_true rfl) rfl rfl ?_
  refine a_aload_n (pc := 1165) X9 dL_law_1165 rfl rfl ?_
  refine a_callVL (pc := 1166) X9 E (m_X10_thrown  hnn1 h) okX10 (is10 hnn1) wM_L_141 w_instanceMethod_X10_thrown w_selects_X10_thrown w_initialized_RX10 w_code_X10_thrown cp_X10_thrown pn_X10_thrown rfl (Nat.le_of_ble_eq_true rfl) ⟨Nat.le_of_ble_eq_true rfl, Nat.le_of_ble_eq_true rfl⟩ ⟨by omega, by omega⟩ dL_law_1166 (kIp (fun r_3 hr_3 h => ?_))
  refine a_iload (pc := 1169) X9 dL_law_1169 rfl ?_
  refine a_icmp_eq (pc := 1171) (tgt := 1176) X9 dL_law_1171 rfl hr_3 hr_1 (fun c => ?_) (fun c => ?_)
  · have c_1 := c
    have h := h.1 c_1
    refine a_iload (pc := 1176) X9 dL_law_1176 rfl ?_
    refine a_if_ne (pc := 1178) (tgt := 1193) X9 dL_law_1178 rfl hr_1 (fun c => ?_) (fun c => ?_)
    · have c_2 := c
      have h := h.1 c_2
      refine a_goto (pc := 1193) (tgt := 2618) X9 dL_law_1193 rfl ?_
      refine AW.widen (cb' := cb + 4) (sb' := sb + 24) (by omega) (by omega) ?_
      refine AW.drop 5 rfl ?_
      refine AW.drop 6 rfl ?_
      exact hK _ h hG_2
    · have c_2 := c
      have h := h.2 c_2
      refine a_aload_n (pc := 1181) X9 dL_law_1181 rfl rfl ?_
      refine a_iconst (pc := 1182) X9 dL_law_1182 ?_
      refine a_lald (pc := 1183) X9 (atO hnn) (Nat.le_of_ble_eq_true rfl) (j := 0) rfl (Nat.le_of_ble_eq_true rfl) dL_law_1183 ?_
      refine a_iload (pc := 1184) X9 dL_law_1184 rfl ?_
      refine a_i2l (pc := 1186) X9 dL_law_1186 hr_2 ?_
      refine b_lcmp (pc := 1187) X9 dL_law_1187 (inR_inL (hG_2 _ _)) (inR_inL hr_2) ?_
      refine a_if_eq (pc := 1188) (tgt := 1193) X9 dL_law_1188 rfl lcv_inR (fun c => ?_) (fun c => ?_)
      · have c_3 : (G_2 285 0) = r_2 := lcv_eq.mp c
        have h := h.1 c_3
        refine a_goto (pc := 1193) (tgt := 2618) X9 dL_law_1193 rfl ?_
        refine AW.widen (cb' := cb + 4) (sb' := sb + 24) (by omega) (by omega) ?_
        refine AW.drop 5 rfl ?_
        refine AW.drop 6 rfl ?_
        exact hK _ h hG_2
      · have c_3 : (G_2 285 0) ≠ r_2 := fun e => c (lcv_eq.mpr e)
        have h := h.2 c_3
        refine a_iconst (pc := 1191) X9 dL_law_1191 ?_
        exact h.elim
  · have c_1 := c
    have h := h.2 c_1
    refine a_iconst (pc := 1174) X9 dL_law_1174 ?_
    exact h.elim
set_option maxHeartbeats 4000000 in
set_option maxRecDepth 100000 in
theorem m_law_18 {κ : Cx} {δ : Dx} {ρ0 : Nat → Nat} {n0 cb sb nn L : Nat} {xs : Nat → Int32} {i4 : Int} {G : GH} {K : GH → Prop} (X9 : CX κ δ RL cL_law 9 ret) (E : RmL κ) (LX : LawX κ δ ρ0 L xs) (hnn : 286 ≤ nn) (hi4 : inR i4) (hG : GR G) (hcb : cb + 4 ≤ 601024 ∧ sb + 24 ≤ 7293033) (hK : ∀ G9, K G9 → GR G9 → AW κ δ ρ0 n0 9 (cb + 4) (sb + 24) 2618 [some (vr (strB + 30)), some (vr 0), some (vr 272), some (vr 285), some (vi i4), none, none, none, none] [] (SF nn) G9) (h : f_law_18 L xs i4 G K) : AW κ δ ρ0 n0 9 cb sb 1196 [some (vr (strB + 30)), some (vr 0), some (vr 272), some (vr 285), some (vi i4), none, none, none, none] [] (SF nn) G := by
  have hnn0 : 272 ≤ nn := by omega
  have hnn1 : 285 ≤ nn := by omega
  refine a_aload_n (pc := 1196) X9 dL_law_1196 rfl rfl ?_
  refine a_aload_n (pc := 1197) X9 dL_law_1197 rfl rfl ?_
  refine a_iload (pc := 1198) X9 dL_law_1198 rfl ?_
  refine a_iconst (pc := 1200) X9 dL_law_1200 ?_
  refine a_iadd (pc := 1201) X9 dL_law_1201 ?_
  obtain ⟨g_1, h⟩ := h
  refine b_scr (pc := 1202) X9 LX g_1 dL_law_1202 ?_
  refine a_aload_n (pc := 1203) X9 dL_law_1203 rfl rfl ?_
  refine a_iload (pc := 1204) X9 dL_law_1204 rfl ?_
  refine a_iconst (pc := 1206) X9 dL_law_1206 ?_
  refine a_iadd (pc := 1207) X9 dL_law_1207 ?_
  obtain ⟨g_2, h⟩ := h
  refine b_scr (pc := 1208) X9 LX g_2 dL_law_1208 ?_
  refine a_aload_n (pc := 1209) X9 dL_law_1209 rfl rfl ?_
  refine a_callSL (pc := 1210) X9 E (m_L_would (inR_toInt _) (inR_toInt _) hnn h) wM_L_186 w_static_L_would w_initialized_RL w_codeWith_L_would cpL_would pnL_would rfl (Nat.le_of_ble_eq_true rfl) ⟨Nat.le_of_ble_eq_true rfl, Nat.le_of_ble_eq_true rfl⟩ ⟨by omega, by omega⟩ dL_law_1210 (kI (fun r_1 G_1 hr_1 h hG_1 => ?_))
  refine a_istore (pc := 1213) X9 dL_law_1213 (Nat.le_of_ble_eq_true rfl) rfl rfl ?_
  refine a_aload_n (pc := 1215) X9 dL_law_1215 rfl rfl ?_
  refine a_aload_n (pc := 1216) X9 dL_law_1216 rfl rfl ?_
  refine a_iload (pc := 1217) X9 dL_law_1217 rfl ?_
  refine a_iconst (pc := 1219) X9 dL_law_1219 ?_
  refine a_iadd (pc := 1220) X9 dL_law_1220 ?_
  refine b_scr (pc := 1221) X9 LX g_1 dL_law_1221 ?_
  refine a_aload_n (pc := 1222) X9 dL_law_1222 rfl rfl ?_
  refine a_iload (pc := 1223) X9 dL_law_1223 rfl ?_
  refine a_iconst (pc := 1225) X9 dL_law_1225 ?_
  refine a_iadd (pc := 1226) X9 dL_law_1226 ?_
  refine b_scr (pc := 1227) X9 LX g_2 dL_law_1227 ?_
  refine a_callVL (pc := 1228) X9 E (m_X10_would (inR_toInt _) (inR_toInt _) hnn1 h) okX10 (is10 hnn1) wM_L_188 w_instanceMethod_X10_would w_selects_X10_would w_initialized_RX10 w_code_X10_would cp_X10_would pn_X10_would rfl (Nat.le_of_ble_eq_true rfl) ⟨Nat.le_of_ble_eq_true rfl, Nat.le_of_ble_eq_true rfl⟩ ⟨by omega, by omega⟩ dL_law_1228 (kI (fun r_2 G_2 hr_2 h hG_2 => ?_))
  refine a_istore (pc := 1231) X9 dL_law_1231 (Nat.le_of_ble_eq_true rfl) rfl rfl ?_
  refine a_aload_n (pc := 1233) X9 dL_law_1233 rfl rfl ?_
  refine a_callVL (pc := 1234) X9 E (m_X10_thrown  hnn1 h) okX10 (is10 hnn1) wM_L_141 w_instanceMethod_X10_thrown w_selects_X10_thrown w_initialized_RX10 w_code_X10_thrown cp_X10_thrown pn_X10_thrown rfl (Nat.le_of_ble_eq_true rfl) ⟨Nat.le_of_ble_eq_true rfl, Nat.le_of_ble_eq_true rfl⟩ ⟨by omega, by omega⟩ dL_law_1234 (kIp (fun r_3 hr_3 h => ?_))
  refine a_iload (pc := 1237) X9 dL_law_1237 rfl ?_
  refine a_icmp_eq (pc := 1239) (tgt := 1244) X9 dL_law_1239 rfl hr_3 hr_1 (fun c => ?_) (fun c => ?_)
  · have c_1 := c
    have h := h.1 c_1
    refine a_iload (pc := 1244) X9 dL_law_1244 rfl ?_
    refine a_if_ne (pc := 1246) (tgt := 1261) X9 dL_law_1246 rfl hr_1 (fun c => ?_) (fun c => ?_)
    · have c_2 := c
      have h := h.1 c_2
      refine a_goto (pc := 1261) (tgt := 2618) X9 dL_law_1261 rfl ?_
      refine AW.widen (cb' := cb + 4) (sb' := sb + 24) (by omega) (by omega) ?_
      refine AW.drop 5 rfl ?_
      refine AW.drop 6 rfl ?_
      exact hK _ h hG_2
    · have c_2 := c
      have h := h.2 c_2
      refine a_aload_n (pc := 1249) X9 dL_law_1249 rfl rfl ?_
      refine a_iconst (pc := 1250) X9 dL_law_1250 ?_
      refine a_lald (pc := 1251) X9 (atO hnn) (Nat.le_of_ble_eq_true rfl) (j := 0) rfl (Nat.le_of_ble_eq_true rfl) dL_law_1251 ?_
      refine a_iload (pc := 1252) X9 dL_law_1252 rfl ?_
      refine a_i2l (pc := 1254) X9 dL_law_1254 hr_2 ?_
      refine b_lcmp (pc := 1255) X9 dL_law_1255 (inR_inL (hG_2 _ _)) (inR_inL hr_2) ?_
      refine a_if_eq (pc := 1256) (tgt := 1261) X9 dL_law_1256 rfl lcv_inR (fun c => ?_) (fun c => ?_)
      · have c_3 : (G_2 285 0) = r_2 := lcv_eq.mp c
        have h := h.1 c_3
        refine a_goto (pc := 1261) (tgt := 2618) X9 dL_law_1261 rfl ?_
        refine AW.widen (cb' := cb + 4) (sb' := sb + 24) (by omega) (by omega) ?_
        refine AW.drop 5 rfl ?_
        refine AW.drop 6 rfl ?_
        exact hK _ h hG_2
      · have c_3 : (G_2 285 0) ≠ r_2 := fun e => c (lcv_eq.mpr e)
        have h := h.2 c_3
        refine a_iconst (pc := 1259) X9 dL_law_1259 ?_
        exact h.elim
  · have c_1 := c
    have h := h.2 c_1
    refine a_iconst (pc := 1242) X9 dL_law_1242 ?_
    exact h.elim
set_option maxHeartbeats 4000000 in
set_option maxRecDepth 100000 in
theorem m_law_19 {κ : Cx} {δ : Dx} {ρ0 : Nat → Nat} {n0 cb sb nn L : Nat} {xs : Nat → Int32} {i4 : Int} {G : GH} {K : GH → Prop} (X9 : CX κ δ RL cL_law 9 ret) (E : RmL κ) (LX : LawX κ δ ρ0 L xs) (hnn : 286 ≤ nn) (hi4 : inR i4) (hG : GR G) (hcb : cb + 4 ≤ 601024 ∧ sb + 24 ≤ 7293033) (hK : ∀ G9, K G9 → GR G9 → AW κ δ ρ0 n0 9 (cb + 4) (sb + 24) 2618 [some (vr (strB + 30)), some (vr 0), some (vr 272), some (vr 285), some (vi i4), none, none, none, none] [] (SF nn) G9) (h : f_law_19 L xs i4 G K) : AW κ δ ρ0 n0 9 cb sb 1264 [some (vr (strB + 30)), some (vr 0), some (vr 272), some (vr 285), some (vi i4), none, none, none, none] [] (SF nn) G := by
  have hnn0 : 272 ≤ nn := by omega
  have hnn1 : 285 ≤ nn := by omega
  refine a_aload_n (pc := 1264) X9 dL_law_1264 rfl rfl ?_
  refine a_aload_n (pc := 1265) X9 dL_law_1265 rfl rfl ?_
  refine a_iload (pc := 1266) X9 dL_law_1266 rfl ?_
  refine a_iconst (pc := 1268) X9 dL_law_1268 ?_
  refine a_iadd (pc := 1269) X9 dL_law_1269 ?_
  obtain ⟨g_1, h⟩ := h
  refine b_scr (pc := 1270) X9 LX g_1 dL_law_1270 ?_
  refine a_aload_n (pc := 1271) X9 dL_law_1271 rfl rfl ?_
  refine a_callSL (pc := 1272) X9 E (m_L_outAt (inR_toInt _) hnn h) wM_L_189 w_static_L_outAt w_initialized_RL w_codeWith_L_outAt cpL_outAt pnL_outAt rfl (Nat.le_of_ble_eq_true rfl) ⟨Nat.le_of_ble_eq_true rfl, Nat.le_of_ble_eq_true rfl⟩ ⟨by omega, by omega⟩ dL_law_1272 (kI (fun r_1 G_1 hr_1 h hG_1 => ?_))
  refine a_istore (pc := 1275) X9 dL_law_1275 (Nat.le_of_ble_eq_true rfl) rfl rfl ?_
  refine a_aload_n (pc := 1277) X9 dL_law_1277 rfl rfl ?_
  refine a_aload_n (pc := 1278) X9 dL_law_1278 rfl rfl ?_
  refine a_iload (pc := 1279) X9 dL_law_1279 rfl ?_
  refine a_iconst (pc := 1281) X9 dL_law_1281 ?_
  refine a_iadd (pc := 1282) X9 dL_law_1282 ?_
  refine b_scr (pc := 1283) X9 LX g_1 dL_law_1283 ?_
  refine a_callVL (pc := 1284) X9 E (m_X10_outAt (inR_toInt _) hnn1 h) okX10 (is10 hnn1) wM_L_191 w_instanceMethod_X10_outAt w_selects_X10_outAt w_initialized_RX10 w_code_X10_outAt cp_X10_outAt pn_X10_outAt rfl (Nat.le_of_ble_eq_true rfl) ⟨Nat.le_of_ble_eq_true rfl, Nat.le_of_ble_eq_true rfl⟩ ⟨by omega, by omega⟩ dL_law_1284 (kI (fun r_2 G_2 hr_2 h hG_2 => ?_))
  refine a_istore (pc := 1287) X9 dL_law_1287 (Nat.le_of_ble_eq_true rfl) rfl rfl ?_
  refine a_aload_n (pc := 1289) X9 dL_law_1289 rfl rfl ?_
  refine a_callVL (pc := 1290) X9 E (m_X10_thrown  hnn1 h) okX10 (is10 hnn1) wM_L_141 w_instanceMethod_X10_thrown w_selects_X10_thrown w_initialized_RX10 w_code_X10_thrown cp_X10_thrown pn_X10_thrown rfl (Nat.le_of_ble_eq_true rfl) ⟨Nat.le_of_ble_eq_true rfl, Nat.le_of_ble_eq_true rfl⟩ ⟨by omega, by omega⟩ dL_law_1290 (kIp (fun r_3 hr_3 h => ?_))
  refine a_iload (pc := 1293) X9 dL_law_1293 rfl ?_
  refine a_icmp_eq (pc := 1295) (tgt := 1300) X9 dL_law_1295 rfl hr_3 hr_1 (fun c => ?_) (fun c => ?_)
  · have c_1 := c
    have h := h.1 c_1
    refine a_iload (pc := 1300) X9 dL_law_1300 rfl ?_
    refine a_if_ne (pc := 1302) (tgt := 1317) X9 dL_law_1302 rfl hr_1 (fun c => ?_) (fun c => ?_)
    · have c_2 := c
      have h := h.1 c_2
      refine a_goto (pc := 1317) (tgt := 2618) X9 dL_law_1317 rfl ?_
      refine AW.widen (cb' := cb + 4) (sb' := sb + 24) (by omega) (by omega) ?_
      refine AW.drop 5 rfl ?_
      refine AW.drop 6 rfl ?_
      exact hK _ h hG_2
    · have c_2 := c
      have h := h.2 c_2
      refine a_aload_n (pc := 1305) X9 dL_law_1305 rfl rfl ?_
      refine a_iconst (pc := 1306) X9 dL_law_1306 ?_
      refine a_lald (pc := 1307) X9 (atO hnn) (Nat.le_of_ble_eq_true rfl) (j := 0) rfl (Nat.le_of_ble_eq_true rfl) dL_law_1307 ?_
      refine a_iload (pc := 1308) X9 dL_law_1308 rfl ?_
      refine a_i2l (pc := 1310) X9 dL_law_1310 hr_2 ?_
      refine b_lcmp (pc := 1311) X9 dL_law_1311 (inR_inL (hG_2 _ _)) (inR_inL hr_2) ?_
      refine a_if_eq (pc := 1312) (tgt := 1317) X9 dL_law_1312 rfl lcv_inR (fun c => ?_) (fun c => ?_)
      · have c_3 : (G_2 285 0) = r_2 := lcv_eq.mp c
        have h := h.1 c_3
        refine a_goto (pc := 1317) (tgt := 2618) X9 dL_law_1317 rfl ?_
        refine AW.widen (cb' := cb + 4) (sb' := sb + 24) (by omega) (by omega) ?_
        refine AW.drop 5 rfl ?_
        refine AW.drop 6 rfl ?_
        exact hK _ h hG_2
      · have c_3 : (G_2 285 0) ≠ r_2 := fun e => c (lcv_eq.mpr e)
        have h := h.2 c_3
        refine a_iconst (pc := 1315) X9 dL_law_1315 ?_
        exact h.elim
  · have c_1 := c
    have h := h.2 c_1
    refine a_iconst (pc := 1298) X9 dL_law_1298 ?_
    exact h.elim
set_option maxHeartbeats 4000000 in
set_option maxRecDepth 100000 in
theorem m_law_20 {κ : Cx} {δ : Dx} {ρ0 : Nat → Nat} {n0 cb sb nn L : Nat} {xs : Nat → Int32} {i4 : Int} {G : GH} {K : GH → Prop} (X9 : CX κ δ RL cL_law 9 ret) (E : RmL κ) (LX : LawX κ δ ρ0 L xs) (hnn : 286 ≤ nn) (hi4 : inR i4) (hG : GR G) (hcb : cb + 4 ≤ 601024 ∧ sb + 24 ≤ 7293033) (hK : ∀ G9, K G9 → GR G9 → AW κ δ ρ0 n0 9 (cb + 4) (sb + 24) 2618 [some (vr (strB + 30)), some (vr 0), some (vr 272), some (vr 285), some (vi i4), none, none, none, none] [] (SF nn) G9) (h : f_law_20 L xs i4 G K) : AW κ δ ρ0 n0 9 cb sb 1320 [some (vr (strB + 30)), some (vr 0), some (vr 272), some (vr 285), some (vi i4), none, none, none, none] [] (SF nn) G := by
  have hnn0 : 272 ≤ nn := by omega
  have hnn1 : 285 ≤ nn := by omega
  refine a_aload_n (pc := 1320) X9 dL_law_1320 rfl rfl ?_
  refine a_aload_n (pc := 1321) X9 dL_law_1321 rfl rfl ?_
  refine a_iload (pc := 1322) X9 dL_law_1322 rfl ?_
  refine a_iconst (pc := 1324) X9 dL_law_1324 ?_
  refine a_iadd (pc := 1325) X9 dL_law_1325 ?_
  obtain ⟨g_1, h⟩ := h
  refine b_scr (pc := 1326) X9 LX g_1 dL_law_1326 ?_
  refine a_aload_n (pc := 1327) X9 dL_law_1327 rfl rfl ?_
  refine a_callSL (pc := 1328) X9 E (m_L_missing (inR_toInt _) hnn h) wM_L_192 w_static_L_missing w_initialized_RL w_codeWith_L_missing cpL_missing pnL_missing rfl (Nat.le_of_ble_eq_true rfl) ⟨Nat.le_of_ble_eq_true rfl, Nat.le_of_ble_eq_true rfl⟩ ⟨by omega, by omega⟩ dL_law_1328 (kI (fun r_1 G_1 hr_1 h hG_1 => ?_))
  refine a_istore (pc := 1331) X9 dL_law_1331 (Nat.le_of_ble_eq_true rfl) rfl rfl ?_
  refine a_aload_n (pc := 1333) X9 dL_law_1333 rfl rfl ?_
  refine a_aload_n (pc := 1334) X9 dL_law_1334 rfl rfl ?_
  refine a_iload (pc := 1335) X9 dL_law_1335 rfl ?_
  refine a_iconst (pc := 1337) X9 dL_law_1337 ?_
  refine a_iadd (pc := 1338) X9 dL_law_1338 ?_
  refine b_scr (pc := 1339) X9 LX g_1 dL_law_1339 ?_
  refine a_callVL (pc := 1340) X9 E (m_X10_missing (inR_toInt _) hnn1 h) okX10 (is10 hnn1) wM_L_194 w_instanceMethod_X10_missing w_selects_X10_missing w_initialized_RX10 w_code_X10_missing cp_X10_missing pn_X10_missing rfl (Nat.le_of_ble_eq_true rfl) ⟨Nat.le_of_ble_eq_true rfl, Nat.le_of_ble_eq_true rfl⟩ ⟨by omega, by omega⟩ dL_law_1340 (kI (fun r_2 G_2 hr_2 h hG_2 => ?_))
  refine a_istore (pc := 1343) X9 dL_law_1343 (Nat.le_of_ble_eq_true rfl) rfl rfl ?_
  refine a_aload_n (pc := 1345) X9 dL_law_1345 rfl rfl ?_
  refine a_callVL (pc := 1346) X9 E (m_X10_thrown  hnn1 h) okX10 (is10 hnn1) wM_L_141 w_instanceMethod_X10_thrown w_selects_X10_thrown w_initialized_RX10 w_code_X10_thrown cp_X10_thrown pn_X10_thrown rfl (Nat.le_of_ble_eq_true rfl) ⟨Nat.le_of_ble_eq_true rfl, Nat.le_of_ble_eq_true rfl⟩ ⟨by omega, by omega⟩ dL_law_1346 (kIp (fun r_3 hr_3 h => ?_))
  refine a_iload (pc := 1349) X9 dL_law_1349 rfl ?_
  refine a_icmp_eq (pc := 1351) (tgt := 1356) X9 dL_law_1351 rfl hr_3 hr_1 (fun c => ?_) (fun c => ?_)
  · have c_1 := c
    have h := h.1 c_1
    refine a_iload (pc := 1356) X9 dL_law_1356 rfl ?_
    refine a_if_ne (pc := 1358) (tgt := 1373) X9 dL_law_1358 rfl hr_1 (fun c => ?_) (fun c => ?_)
    · have c_2 := c
      have h := h.1 c_2
      refine a_goto (pc := 1373) (tgt := 2618) X9 dL_law_1373 rfl ?_
      refine AW.widen (cb' := cb + 4) (sb' := sb + 24) (by omega) (by omega) ?_
      refine AW.drop 5 rfl ?_
      refine AW.drop 6 rfl ?_
      exact hK _ h hG_2
    · have c_2 := c
      have h := h.2 c_2
      refine a_aload_n (pc := 1361) X9 dL_law_1361 rfl rfl ?_
      refine a_iconst (pc := 1362) X9 dL_law_1362 ?_
      refine a_lald (pc := 1363) X9 (atO hnn) (Nat.le_of_ble_eq_true rfl) (j := 0) rfl (Nat.le_of_ble_eq_true rfl) dL_law_1363 ?_
      refine a_iload (pc := 1364) X9 dL_law_1364 rfl ?_
      refine a_i2l (pc := 1366) X9 dL_law_1366 hr_2 ?_
      refine b_lcmp (pc := 1367) X9 dL_law_1367 (inR_inL (hG_2 _ _)) (inR_inL hr_2) ?_
      refine a_if_eq (pc := 1368) (tgt := 1373) X9 dL_law_1368 rfl lcv_inR (fun c => ?_) (fun c => ?_)
      · have c_3 : (G_2 285 0) = r_2 := lcv_eq.mp c
        have h := h.1 c_3
        refine a_goto (pc := 1373) (tgt := 2618) X9 dL_law_1373 rfl ?_
        refine AW.widen (cb' := cb + 4) (sb' := sb + 24) (by omega) (by omega) ?_
        refine AW.drop 5 rfl ?_
        refine AW.drop 6 rfl ?_
        exact hK _ h hG_2
      · have c_3 : (G_2 285 0) ≠ r_2 := fun e => c (lcv_eq.mpr e)
        have h := h.2 c_3
        refine a_iconst (pc := 1371) X9 dL_law_1371 ?_
        exact h.elim
  · have c_1 := c
    have h := h.2 c_1
    refine a_iconst (pc := 1354) X9 dL_law_1354 ?_
    exact h.elim
set_option maxHeartbeats 4000000 in
set_option maxRecDepth 100000 in
theorem m_law_21 {κ : Cx} {δ : Dx} {ρ0 : Nat → Nat} {n0 cb sb nn L : Nat} {xs : Nat → Int32} {i4 : Int} {G : GH} {K : GH → Prop} (X9 : CX κ δ RL cL_law 9 ret) (E : RmL κ) (LX : LawX κ δ ρ0 L xs) (hnn : 286 ≤ nn) (hi4 : inR i4) (hG : GR G) (hcb : cb + 4 ≤ 601024 ∧ sb + 24 ≤ 7293033) (hK : ∀ G9, K G9 → GR G9 → AW κ δ ρ0 n0 9 (cb + 4) (sb + 24) 2618 [some (vr (strB + 30)), some (vr 0), some (vr 272), some (vr 285), some (vi i4), none, none, none, none] [] (SF nn) G9) (h : f_law_21 L xs i4 G K) : AW κ δ ρ0 n0 9 cb sb 1376 [some (vr (strB + 30)), some (vr 0), some (vr 272), some (vr 285), some (vi i4), none, none, none, none] [] (SF nn) G := by
  have hnn0 : 272 ≤ nn := by omega
  have hnn1 : 285 ≤ nn := by omega
  refine a_aload_n (pc := 1376) X9 dL_law_1376 rfl rfl ?_
  refine a_aload_n (pc := 1377) X9 dL_law_1377 rfl rfl ?_
  refine a_iload (pc := 1378) X9 dL_law_1378 rfl ?_
  refine a_iconst (pc := 1380) X9 dL_law_1380 ?_
  refine a_iadd (pc := 1381) X9 dL_law_1381 ?_
  obtain ⟨g_1, h⟩ := h
  refine b_scr (pc := 1382) X9 LX g_1 dL_law_1382 ?_
  refine a_aload_n (pc := 1383) X9 dL_law_1383 rfl rfl ?_
  refine a_callSL (pc := 1384) X9 E (m_L_bestBuy (inR_toInt _) hnn h) wM_L_195 w_static_L_bestBuy w_initialized_RL w_codeWith_L_bestBuy cpL_bestBuy pnL_bestBuy rfl (Nat.le_of_ble_eq_true rfl) ⟨Nat.le_of_ble_eq_true rfl, Nat.le_of_ble_eq_true rfl⟩ ⟨by omega, by omega⟩ dL_law_1384 (kI (fun r_1 G_1 hr_1 h hG_1 => ?_))
  refine a_istore (pc := 1387) X9 dL_law_1387 (Nat.le_of_ble_eq_true rfl) rfl rfl ?_
  refine a_aload_n (pc := 1389) X9 dL_law_1389 rfl rfl ?_
  refine a_aload_n (pc := 1390) X9 dL_law_1390 rfl rfl ?_
  refine a_iload (pc := 1391) X9 dL_law_1391 rfl ?_
  refine a_iconst (pc := 1393) X9 dL_law_1393 ?_
  refine a_iadd (pc := 1394) X9 dL_law_1394 ?_
  refine b_scr (pc := 1395) X9 LX g_1 dL_law_1395 ?_
  refine a_callVL (pc := 1396) X9 E (m_X10_bestBuy (inR_toInt _) hnn1 h) okX10 (is10 hnn1) wM_L_197 w_instanceMethod_X10_bestBuy w_selects_X10_bestBuy w_initialized_RX10 w_code_X10_bestBuy cp_X10_bestBuy pn_X10_bestBuy rfl (Nat.le_of_ble_eq_true rfl) ⟨Nat.le_of_ble_eq_true rfl, Nat.le_of_ble_eq_true rfl⟩ ⟨by omega, by omega⟩ dL_law_1396 (kI (fun r_2 G_2 hr_2 h hG_2 => ?_))
  refine a_istore (pc := 1399) X9 dL_law_1399 (Nat.le_of_ble_eq_true rfl) rfl rfl ?_
  refine a_aload_n (pc := 1401) X9 dL_law_1401 rfl rfl ?_
  refine a_callVL (pc := 1402) X9 E (m_X10_thrown  hnn1 h) okX10 (is10 hnn1) wM_L_141 w_instanceMethod_X10_thrown w_selects_X10_thrown w_initialized_RX10 w_code_X10_thrown cp_X10_thrown pn_X10_thrown rfl (Nat.le_of_ble_eq_true rfl) ⟨Nat.le_of_ble_eq_true rfl, Nat.le_of_ble_eq_true rfl⟩ ⟨by omega, by omega⟩ dL_law_1402 (kIp (fun r_3 hr_3 h => ?_))
  refine a_iload (pc := 1405) X9 dL_law_1405 rfl ?_
  refine a_icmp_eq (pc := 1407) (tgt := 1412) X9 dL_law_1407 rfl hr_3 hr_1 (fun c => ?_) (fun c => ?_)
  · have c_1 := c
    have h := h.1 c_1
    refine a_iload (pc := 1412) X9 dL_law_1412 rfl ?_
    refine a_if_ne (pc := 1414) (tgt := 1429) X9 dL_law_1414 rfl hr_1 (fun c => ?_) (fun c => ?_)
    · have c_2 := c
      have h := h.1 c_2
      refine a_goto (pc := 1429) (tgt := 2618) X9 dL_law_1429 rfl ?_
      refine AW.widen (cb' := cb + 4) (sb' := sb + 24) (by omega) (by omega) ?_
      refine AW.drop 5 rfl ?_
      refine AW.drop 6 rfl ?_
      exact hK _ h hG_2
    · have c_2 := c
      have h := h.2 c_2
      refine a_aload_n (pc := 1417) X9 dL_law_1417 rfl rfl ?_
      refine a_iconst (pc := 1418) X9 dL_law_1418 ?_
      refine a_lald (pc := 1419) X9 (atO hnn) (Nat.le_of_ble_eq_true rfl) (j := 0) rfl (Nat.le_of_ble_eq_true rfl) dL_law_1419 ?_
      refine a_iload (pc := 1420) X9 dL_law_1420 rfl ?_
      refine a_i2l (pc := 1422) X9 dL_law_1422 hr_2 ?_
      refine b_lcmp (pc := 1423) X9 dL_law_1423 (inR_inL (hG_2 _ _)) (inR_inL hr_2) ?_
      refine a_if_eq (pc := 1424) (tgt := 1429) X9 dL_law_1424 rfl lcv_inR (fun c => ?_) (fun c => ?_)
      · have c_3 : (G_2 285 0) = r_2 := lcv_eq.mp c
        have h := h.1 c_3
        refine a_goto (pc := 1429) (tgt := 2618) X9 dL_law_1429 rfl ?_
        refine AW.widen (cb' := cb + 4) (sb' := sb + 24) (by omega) (by omega) ?_
        refine AW.drop 5 rfl ?_
        refine AW.drop 6 rfl ?_
        exact hK _ h hG_2
      · have c_3 : (G_2 285 0) ≠ r_2 := fun e => c (lcv_eq.mpr e)
        have h := h.2 c_3
        refine a_iconst (pc := 1427) X9 dL_law_1427 ?_
        exact h.elim
  · have c_1 := c
    have h := h.2 c_1
    refine a_iconst (pc := 1410) X9 dL_law_1410 ?_
    exact h.elim
set_option maxHeartbeats 4000000 in
set_option maxRecDepth 100000 in
theorem m_law_22 {κ : Cx} {δ : Dx} {ρ0 : Nat → Nat} {n0 cb sb nn L : Nat} {xs : Nat → Int32} {i4 : Int} {G : GH} {K : GH → Prop} (X9 : CX κ δ RL cL_law 9 ret) (E : RmL κ) (LX : LawX κ δ ρ0 L xs) (hnn : 286 ≤ nn) (hi4 : inR i4) (hG : GR G) (hcb : cb + 4 ≤ 601024 ∧ sb + 24 ≤ 7293033) (hK : ∀ G9, K G9 → GR G9 → AW κ δ ρ0 n0 9 (cb + 4) (sb + 24) 2618 [some (vr (strB + 30)), some (vr 0), some (vr 272), some (vr 285), some (vi i4), none, none, none, none] [] (SF nn) G9) (h : f_law_22 L xs i4 G K) : AW κ δ ρ0 n0 9 cb sb 1432 [some (vr (strB + 30)), some (vr 0), some (vr 272), some (vr 285), some (vi i4), none, none, none, none] [] (SF nn) G := by
  have hnn0 : 272 ≤ nn := by omega
  have hnn1 : 285 ≤ nn := by omega
  refine a_aload_n (pc := 1432) X9 dL_law_1432 rfl rfl ?_
  refine a_callVL (pc := 1433) X9 E (m_X9_firstOut  hnn0 h) okX9 (is9 hnn0) wM_L_198 w_instanceMethod_X9_firstOut w_selects_X9_firstOut w_initialized_RX9 w_code_X9_firstOut cp_X9_firstOut pn_X9_firstOut rfl (Nat.le_of_ble_eq_true rfl) ⟨Nat.le_of_ble_eq_true rfl, Nat.le_of_ble_eq_true rfl⟩ ⟨by omega, by omega⟩ dL_law_1433 (kI (fun r_1 G_1 hr_1 h hG_1 => ?_))
  refine a_aload_n (pc := 1436) X9 dL_law_1436 rfl rfl ?_
  refine a_callVL (pc := 1437) X9 E (m_X10_firstOut  hnn1 h) okX10 (is10 hnn1) wM_L_201 w_instanceMethod_X10_firstOut w_selects_X10_firstOut w_initialized_RX10 w_code_X10_firstOut cp_X10_firstOut pn_X10_firstOut rfl (Nat.le_of_ble_eq_true rfl) ⟨Nat.le_of_ble_eq_true rfl, Nat.le_of_ble_eq_true rfl⟩ ⟨by omega, by omega⟩ dL_law_1437 (kI (fun r_2 G_2 hr_2 h hG_2 => ?_))
  refine a_icmp_eq (pc := 1440) (tgt := 2618) X9 dL_law_1440 rfl hr_1 hr_2 (fun c => ?_) (fun c => ?_)
  · have c_1 := c
    have h := h.1 c_1
    refine AW.widen (cb' := cb + 4) (sb' := sb + 24) (by omega) (by omega) ?_
    exact hK _ h hG_2
  · have c_1 := c
    have h := h.2 c_1
    refine a_iconst (pc := 1443) X9 dL_law_1443 ?_
    exact h.elim
set_option maxHeartbeats 4000000 in
set_option maxRecDepth 100000 in
theorem m_law_23 {κ : Cx} {δ : Dx} {ρ0 : Nat → Nat} {n0 cb sb nn L : Nat} {xs : Nat → Int32} {i4 : Int} {G : GH} {K : GH → Prop} (X9 : CX κ δ RL cL_law 9 ret) (E : RmL κ) (LX : LawX κ δ ρ0 L xs) (hnn : 286 ≤ nn) (hi4 : inR i4) (hG : GR G) (hcb : cb + 4 ≤ 601024 ∧ sb + 24 ≤ 7293033) (hK : ∀ G9, K G9 → GR G9 → AW κ δ ρ0 n0 9 (cb + 4) (sb + 24) 2618 [some (vr (strB + 30)), some (vr 0), some (vr 272), some (vr 285), some (vi i4), none, none, none, none] [] (SF nn) G9) (h : f_law_23 L xs i4 G K) : AW κ δ ρ0 n0 9 cb sb 1445 [some (vr (strB + 30)), some (vr 0), some (vr 272), some (vr 285), some (vi i4), none, none, none, none] [] (SF nn) G := by
  have hnn0 : 272 ≤ nn := by omega
  have hnn1 : 285 ≤ nn := by omega
  refine a_aload_n (pc := 1445) X9 dL_law_1445 rfl rfl ?_
  refine a_aload_n (pc := 1446) X9 dL_law_1446 rfl rfl ?_
  refine a_iload (pc := 1447) X9 dL_law_1447 rfl ?_
  refine a_iconst (pc := 1449) X9 dL_law_1449 ?_
  refine a_iadd (pc := 1450) X9 dL_law_1450 ?_
  obtain ⟨g_1, h⟩ := h
  refine b_scr (pc := 1451) X9 LX g_1 dL_law_1451 ?_
  refine a_aload_n (pc := 1452) X9 dL_law_1452 rfl rfl ?_
  refine a_iload (pc := 1453) X9 dL_law_1453 rfl ?_
  refine a_iconst (pc := 1455) X9 dL_law_1455 ?_
  refine a_iadd (pc := 1456) X9 dL_law_1456 ?_
  obtain ⟨g_2, h⟩ := h
  refine b_scr (pc := 1457) X9 LX g_2 dL_law_1457 ?_
  refine a_aload_n (pc := 1458) X9 dL_law_1458 rfl rfl ?_
  refine a_callSL (pc := 1459) X9 E (m_L_workFrom (inR_toInt _) (inR_toInt _) hnn h) wM_L_202 w_static_L_workFrom w_initialized_RL w_codeWith_L_workFrom cpL_workFrom pnL_workFrom rfl (Nat.le_of_ble_eq_true rfl) ⟨Nat.le_of_ble_eq_true rfl, Nat.le_of_ble_eq_true rfl⟩ ⟨by omega, by omega⟩ dL_law_1459 (kI (fun r_1 G_1 hr_1 h hG_1 => ?_))
  refine a_istore (pc := 1462) X9 dL_law_1462 (Nat.le_of_ble_eq_true rfl) rfl rfl ?_
  refine a_aload_n (pc := 1464) X9 dL_law_1464 rfl rfl ?_
  refine a_aload_n (pc := 1465) X9 dL_law_1465 rfl rfl ?_
  refine a_iload (pc := 1466) X9 dL_law_1466 rfl ?_
  refine a_iconst (pc := 1468) X9 dL_law_1468 ?_
  refine a_iadd (pc := 1469) X9 dL_law_1469 ?_
  refine b_scr (pc := 1470) X9 LX g_1 dL_law_1470 ?_
  refine a_aload_n (pc := 1471) X9 dL_law_1471 rfl rfl ?_
  refine a_iload (pc := 1472) X9 dL_law_1472 rfl ?_
  refine a_iconst (pc := 1474) X9 dL_law_1474 ?_
  refine a_iadd (pc := 1475) X9 dL_law_1475 ?_
  refine b_scr (pc := 1476) X9 LX g_2 dL_law_1476 ?_
  refine a_callVL (pc := 1477) X9 E (m_X10_workFrom (inR_toInt _) (inR_toInt _) hnn1 h) okX10 (is10 hnn1) wM_L_204 w_instanceMethod_X10_workFrom w_selects_X10_workFrom w_initialized_RX10 w_code_X10_workFrom cp_X10_workFrom pn_X10_workFrom rfl (Nat.le_of_ble_eq_true rfl) ⟨Nat.le_of_ble_eq_true rfl, Nat.le_of_ble_eq_true rfl⟩ ⟨by omega, by omega⟩ dL_law_1477 (kI (fun r_2 G_2 hr_2 h hG_2 => ?_))
  refine a_istore (pc := 1480) X9 dL_law_1480 (Nat.le_of_ble_eq_true rfl) rfl rfl ?_
  refine a_aload_n (pc := 1482) X9 dL_law_1482 rfl rfl ?_
  refine a_callVL (pc := 1483) X9 E (m_X10_thrown  hnn1 h) okX10 (is10 hnn1) wM_L_141 w_instanceMethod_X10_thrown w_selects_X10_thrown w_initialized_RX10 w_code_X10_thrown cp_X10_thrown pn_X10_thrown rfl (Nat.le_of_ble_eq_true rfl) ⟨Nat.le_of_ble_eq_true rfl, Nat.le_of_ble_eq_true rfl⟩ ⟨by omega, by omega⟩ dL_law_1483 (kIp (fun r_3 hr_3 h => ?_))
  refine a_iload (pc := 1486) X9 dL_law_1486 rfl ?_
  refine a_icmp_eq (pc := 1488) (tgt := 1493) X9 dL_law_1488 rfl hr_3 hr_1 (fun c => ?_) (fun c => ?_)
  · have c_1 := c
    have h := h.1 c_1
    refine a_iload (pc := 1493) X9 dL_law_1493 rfl ?_
    refine a_if_ne (pc := 1495) (tgt := 1510) X9 dL_law_1495 rfl hr_1 (fun c => ?_) (fun c => ?_)
    · have c_2 := c
      have h := h.1 c_2
      refine a_goto (pc := 1510) (tgt := 2618) X9 dL_law_1510 rfl ?_
      refine AW.widen (cb' := cb + 4) (sb' := sb + 24) (by omega) (by omega) ?_
      refine AW.drop 5 rfl ?_
      refine AW.drop 6 rfl ?_
      exact hK _ h hG_2
    · have c_2 := c
      have h := h.2 c_2
      refine a_aload_n (pc := 1498) X9 dL_law_1498 rfl rfl ?_
      refine a_iconst (pc := 1499) X9 dL_law_1499 ?_
      refine a_lald (pc := 1500) X9 (atO hnn) (Nat.le_of_ble_eq_true rfl) (j := 0) rfl (Nat.le_of_ble_eq_true rfl) dL_law_1500 ?_
      refine a_iload (pc := 1501) X9 dL_law_1501 rfl ?_
      refine a_i2l (pc := 1503) X9 dL_law_1503 hr_2 ?_
      refine b_lcmp (pc := 1504) X9 dL_law_1504 (inR_inL (hG_2 _ _)) (inR_inL hr_2) ?_
      refine a_if_eq (pc := 1505) (tgt := 1510) X9 dL_law_1505 rfl lcv_inR (fun c => ?_) (fun c => ?_)
      · have c_3 : (G_2 285 0) = r_2 := lcv_eq.mp c
        have h := h.1 c_3
        refine a_goto (pc := 1510) (tgt := 2618) X9 dL_law_1510 rfl ?_
        refine AW.widen (cb' := cb + 4) (sb' := sb + 24) (by omega) (by omega) ?_
        refine AW.drop 5 rfl ?_
        refine AW.drop 6 rfl ?_
        exact hK _ h hG_2
      · have c_3 : (G_2 285 0) ≠ r_2 := fun e => c (lcv_eq.mpr e)
        have h := h.2 c_3
        refine a_iconst (pc := 1508) X9 dL_law_1508 ?_
        exact h.elim
  · have c_1 := c
    have h := h.2 c_1
    refine a_iconst (pc := 1491) X9 dL_law_1491 ?_
    exact h.elim
set_option maxHeartbeats 4000000 in
set_option maxRecDepth 100000 in
theorem m_law_24 {κ : Cx} {δ : Dx} {ρ0 : Nat → Nat} {n0 cb sb nn L : Nat} {xs : Nat → Int32} {i4 : Int} {G : GH} {K : GH → Prop} (X9 : CX κ δ RL cL_law 9 ret) (E : RmL κ) (LX : LawX κ δ ρ0 L xs) (hnn : 286 ≤ nn) (hi4 : inR i4) (hG : GR G) (hcb : cb + 4 ≤ 601024 ∧ sb + 24 ≤ 7293033) (hK : ∀ G9, K G9 → GR G9 → AW κ δ ρ0 n0 9 (cb + 4) (sb + 24) 2618 [some (vr (strB + 30)), some (vr 0), some (vr 272), some (vr 285), some (vi i4), none, none, none, none] [] (SF nn) G9) (h : f_law_24 L xs i4 G K) : AW κ δ ρ0 n0 9 cb sb 1513 [some (vr (strB + 30)), some (vr 0), some (vr 272), some (vr 285), some (vi i4), none, none, none, none] [] (SF nn) G := by
  have hnn0 : 272 ≤ nn := by omega
  have hnn1 : 285 ≤ nn := by omega
  refine a_aload_n (pc := 1513) X9 dL_law_1513 rfl rfl ?_
  refine a_callVL (pc := 1514) X9 E (m_X9_easiest  hnn0 h) okX9 (is9 hnn0) wM_L_205 w_instanceMethod_X9_easiest w_selects_X9_easiest w_initialized_RX9 w_code_X9_easiest cp_X9_easiest pn_X9_easiest rfl (Nat.le_of_ble_eq_true rfl) ⟨Nat.le_of_ble_eq_true rfl, Nat.le_of_ble_eq_true rfl⟩ ⟨by omega, by omega⟩ dL_law_1514 (kI (fun r_1 G_1 hr_1 h hG_1 => ?_))
  refine a_aload_n (pc := 1517) X9 dL_law_1517 rfl rfl ?_
  refine a_callVL (pc := 1518) X9 E (m_X10_easiest  hnn1 h) okX10 (is10 hnn1) wM_L_208 w_instanceMethod_X10_easiest w_selects_X10_easiest w_initialized_RX10 w_code_X10_easiest cp_X10_easiest pn_X10_easiest rfl (Nat.le_of_ble_eq_true rfl) ⟨Nat.le_of_ble_eq_true rfl, Nat.le_of_ble_eq_true rfl⟩ ⟨by omega, by omega⟩ dL_law_1518 (kI (fun r_2 G_2 hr_2 h hG_2 => ?_))
  refine a_icmp_eq (pc := 1521) (tgt := 2618) X9 dL_law_1521 rfl hr_1 hr_2 (fun c => ?_) (fun c => ?_)
  · have c_1 := c
    have h := h.1 c_1
    refine AW.widen (cb' := cb + 4) (sb' := sb + 24) (by omega) (by omega) ?_
    exact hK _ h hG_2
  · have c_1 := c
    have h := h.2 c_1
    refine a_iconst (pc := 1524) X9 dL_law_1524 ?_
    exact h.elim
set_option maxHeartbeats 4000000 in
set_option maxRecDepth 100000 in
theorem m_law_25 {κ : Cx} {δ : Dx} {ρ0 : Nat → Nat} {n0 cb sb nn L : Nat} {xs : Nat → Int32} {i4 : Int} {G : GH} {K : GH → Prop} (X9 : CX κ δ RL cL_law 9 ret) (E : RmL κ) (LX : LawX κ δ ρ0 L xs) (hnn : 286 ≤ nn) (hi4 : inR i4) (hG : GR G) (hcb : cb + 4 ≤ 601024 ∧ sb + 24 ≤ 7293033) (hK : ∀ G9, K G9 → GR G9 → AW κ δ ρ0 n0 9 (cb + 4) (sb + 24) 2618 [some (vr (strB + 30)), some (vr 0), some (vr 272), some (vr 285), some (vi i4), none, none, none, none] [] (SF nn) G9) (h : f_law_25 L xs i4 G K) : AW κ δ ρ0 n0 9 cb sb 1526 [some (vr (strB + 30)), some (vr 0), some (vr 272), some (vr 285), some (vi i4), none, none, none, none] [] (SF nn) G := by
  have hnn0 : 272 ≤ nn := by omega
  have hnn1 : 285 ≤ nn := by omega
  refine a_aload_n (pc := 1526) X9 dL_law_1526 rfl rfl ?_
  refine a_callVL (pc := 1527) X9 E (m_X9_wouldFall  hnn0 h) okX9 (is9 hnn0) wM_L_209 w_instanceMethod_X9_wouldFall w_selects_X9_wouldFall w_initialized_RX9 w_code_X9_wouldFall cp_X9_wouldFall pn_X9_wouldFall rfl (Nat.le_of_ble_eq_true rfl) ⟨Nat.le_of_ble_eq_true rfl, Nat.le_of_ble_eq_true rfl⟩ ⟨by omega, by omega⟩ dL_law_1527 (kIp (fun r_1 hr_1 h => ?_))
  refine a_aload_n (pc := 1530) X9 dL_law_1530 rfl rfl ?_
  refine a_callVL (pc := 1531) X9 E (m_X10_wouldFall  hnn1 h) okX10 (is10 hnn1) wM_L_212 w_instanceMethod_X10_wouldFall w_selects_X10_wouldFall w_initialized_RX10 w_code_X10_wouldFall cp_X10_wouldFall pn_X10_wouldFall rfl (Nat.le_of_ble_eq_true rfl) ⟨Nat.le_of_ble_eq_true rfl, Nat.le_of_ble_eq_true rfl⟩ ⟨by omega, by omega⟩ dL_law_1531 (kI (fun r_2 G_1 hr_2 h hG_1 => ?_))
  refine a_icmp_eq (pc := 1534) (tgt := 2618) X9 dL_law_1534 rfl hr_1 hr_2 (fun c => ?_) (fun c => ?_)
  · have c_1 := c
    have h := h.1 c_1
    refine AW.widen (cb' := cb + 4) (sb' := sb + 24) (by omega) (by omega) ?_
    exact hK _ h hG_1
  · have c_1 := c
    have h := h.2 c_1
    refine a_iconst (pc := 1537) X9 dL_law_1537 ?_
    exact h.elim
set_option maxHeartbeats 4000000 in
set_option maxRecDepth 100000 in
theorem m_law_26 {κ : Cx} {δ : Dx} {ρ0 : Nat → Nat} {n0 cb sb nn L : Nat} {xs : Nat → Int32} {i4 : Int} {G : GH} {K : GH → Prop} (X9 : CX κ δ RL cL_law 9 ret) (E : RmL κ) (LX : LawX κ δ ρ0 L xs) (hnn : 286 ≤ nn) (hi4 : inR i4) (hG : GR G) (hcb : cb + 4 ≤ 601024 ∧ sb + 24 ≤ 7293033) (hK : ∀ G9, K G9 → GR G9 → AW κ δ ρ0 n0 9 (cb + 4) (sb + 24) 2618 [some (vr (strB + 30)), some (vr 0), some (vr 272), some (vr 285), some (vi i4), none, none, none, none] [] (SF nn) G9) (h : f_law_26 L xs i4 G K) : AW κ δ ρ0 n0 9 cb sb 1539 [some (vr (strB + 30)), some (vr 0), some (vr 272), some (vr 285), some (vi i4), none, none, none, none] [] (SF nn) G := by
  have hnn0 : 272 ≤ nn := by omega
  have hnn1 : 285 ≤ nn := by omega
  refine a_aload_n (pc := 1539) X9 dL_law_1539 rfl rfl ?_
  refine a_aload_n (pc := 1540) X9 dL_law_1540 rfl rfl ?_
  refine a_iload (pc := 1541) X9 dL_law_1541 rfl ?_
  refine a_iconst (pc := 1543) X9 dL_law_1543 ?_
  refine a_iadd (pc := 1544) X9 dL_law_1544 ?_
  obtain ⟨g_1, h⟩ := h
  refine b_scr (pc := 1545) X9 LX g_1 dL_law_1545 ?_
  refine a_aload_n (pc := 1546) X9 dL_law_1546 rfl rfl ?_
  refine a_callSL (pc := 1547) X9 E (m_L_lenders (inR_toInt _) hnn h) wM_L_213 w_static_L_lenders w_initialized_RL w_codeWith_L_lenders cpL_lenders pnL_lenders rfl (Nat.le_of_ble_eq_true rfl) ⟨Nat.le_of_ble_eq_true rfl, Nat.le_of_ble_eq_true rfl⟩ ⟨by omega, by omega⟩ dL_law_1547 (kI (fun r_1 G_1 hr_1 h hG_1 => ?_))
  refine a_istore (pc := 1550) X9 dL_law_1550 (Nat.le_of_ble_eq_true rfl) rfl rfl ?_
  refine a_aload_n (pc := 1552) X9 dL_law_1552 rfl rfl ?_
  refine a_aload_n (pc := 1553) X9 dL_law_1553 rfl rfl ?_
  refine a_iload (pc := 1554) X9 dL_law_1554 rfl ?_
  refine a_iconst (pc := 1556) X9 dL_law_1556 ?_
  refine a_iadd (pc := 1557) X9 dL_law_1557 ?_
  refine b_scr (pc := 1558) X9 LX g_1 dL_law_1558 ?_
  refine a_callVL (pc := 1559) X9 E (m_X10_lenders (inR_toInt _) hnn1 h) okX10 (is10 hnn1) wM_L_215 w_instanceMethod_X10_lenders w_selects_X10_lenders w_initialized_RX10 w_code_X10_lenders cp_X10_lenders pn_X10_lenders rfl (Nat.le_of_ble_eq_true rfl) ⟨Nat.le_of_ble_eq_true rfl, Nat.le_of_ble_eq_true rfl⟩ ⟨by omega, by omega⟩ dL_law_1559 (kI (fun r_2 G_2 hr_2 h hG_2 => ?_))
  refine a_istore (pc := 1562) X9 dL_law_1562 (Nat.le_of_ble_eq_true rfl) rfl rfl ?_
  refine a_aload_n (pc := 1564) X9 dL_law_1564 rfl rfl ?_
  refine a_callVL (pc := 1565) X9 E (m_X10_thrown  hnn1 h) okX10 (is10 hnn1) wM_L_141 w_instanceMethod_X10_thrown w_selects_X10_thrown w_initialized_RX10 w_code_X10_thrown cp_X10_thrown pn_X10_thrown rfl (Nat.le_of_ble_eq_true rfl) ⟨Nat.le_of_ble_eq_true rfl, Nat.le_of_ble_eq_true rfl⟩ ⟨by omega, by omega⟩ dL_law_1565 (kIp (fun r_3 hr_3 h => ?_))
  refine a_iload (pc := 1568) X9 dL_law_1568 rfl ?_
  refine a_icmp_eq (pc := 1570) (tgt := 1575) X9 dL_law_1570 rfl hr_3 hr_1 (fun c => ?_) (fun c => ?_)
  · have c_1 := c
    have h := h.1 c_1
    refine a_iload (pc := 1575) X9 dL_law_1575 rfl ?_
    refine a_if_ne (pc := 1577) (tgt := 1592) X9 dL_law_1577 rfl hr_1 (fun c => ?_) (fun c => ?_)
    · have c_2 := c
      have h := h.1 c_2
      refine a_goto (pc := 1592) (tgt := 2618) X9 dL_law_1592 rfl ?_
      refine AW.widen (cb' := cb + 4) (sb' := sb + 24) (by omega) (by omega) ?_
      refine AW.drop 5 rfl ?_
      refine AW.drop 6 rfl ?_
      exact hK _ h hG_2
    · have c_2 := c
      have h := h.2 c_2
      refine a_aload_n (pc := 1580) X9 dL_law_1580 rfl rfl ?_
      refine a_iconst (pc := 1581) X9 dL_law_1581 ?_
      refine a_lald (pc := 1582) X9 (atO hnn) (Nat.le_of_ble_eq_true rfl) (j := 0) rfl (Nat.le_of_ble_eq_true rfl) dL_law_1582 ?_
      refine a_iload (pc := 1583) X9 dL_law_1583 rfl ?_
      refine a_i2l (pc := 1585) X9 dL_law_1585 hr_2 ?_
      refine b_lcmp (pc := 1586) X9 dL_law_1586 (inR_inL (hG_2 _ _)) (inR_inL hr_2) ?_
      refine a_if_eq (pc := 1587) (tgt := 1592) X9 dL_law_1587 rfl lcv_inR (fun c => ?_) (fun c => ?_)
      · have c_3 : (G_2 285 0) = r_2 := lcv_eq.mp c
        have h := h.1 c_3
        refine a_goto (pc := 1592) (tgt := 2618) X9 dL_law_1592 rfl ?_
        refine AW.widen (cb' := cb + 4) (sb' := sb + 24) (by omega) (by omega) ?_
        refine AW.drop 5 rfl ?_
        refine AW.drop 6 rfl ?_
        exact hK _ h hG_2
      · have c_3 : (G_2 285 0) ≠ r_2 := fun e => c (lcv_eq.mpr e)
        have h := h.2 c_3
        refine a_iconst (pc := 1590) X9 dL_law_1590 ?_
        exact h.elim
  · have c_1 := c
    have h := h.2 c_1
    refine a_iconst (pc := 1573) X9 dL_law_1573 ?_
    exact h.elim
set_option maxHeartbeats 4000000 in
set_option maxRecDepth 100000 in
theorem m_law_27 {κ : Cx} {δ : Dx} {ρ0 : Nat → Nat} {n0 cb sb nn L : Nat} {xs : Nat → Int32} {i4 : Int} {G : GH} {K : GH → Prop} (X9 : CX κ δ RL cL_law 9 ret) (E : RmL κ) (LX : LawX κ δ ρ0 L xs) (hnn : 286 ≤ nn) (hi4 : inR i4) (hG : GR G) (hcb : cb + 4 ≤ 601024 ∧ sb + 24 ≤ 7293033) (hK : ∀ G9, K G9 → GR G9 → AW κ δ ρ0 n0 9 (cb + 4) (sb + 24) 2618 [some (vr (strB + 30)), some (vr 0), some (vr 272), some (vr 285), some (vi i4), none, none, none, none] [] (SF nn) G9) (h : f_law_27 L xs i4 G K) : AW κ δ ρ0 n0 9 cb sb 1595 [some (vr (strB + 30)), some (vr 0), some (vr 272), some (vr 285), some (vi i4), none, none, none, none] [] (SF nn) G := by
  have hnn0 : 272 ≤ nn := by omega
  have hnn1 : 285 ≤ nn := by omega
  refine a_aload_n (pc := 1595) X9 dL_law_1595 rfl rfl ?_
  refine a_aload_n (pc := 1596) X9 dL_law_1596 rfl rfl ?_
  refine a_iload (pc := 1597) X9 dL_law_1597 rfl ?_
  refine a_iconst (pc := 1599) X9 dL_law_1599 ?_
  refine a_iadd (pc := 1600) X9 dL_law_1600 ?_
  obtain ⟨g_1, h⟩ := h
  refine b_scr (pc := 1601) X9 LX g_1 dL_law_1601 ?_
  refine a_aload_n (pc := 1602) X9 dL_law_1602 rfl rfl ?_
  refine a_callSL (pc := 1603) X9 E (m_L_hang (inR_toInt _) hnn h) wM_L_216 w_static_L_hang w_initialized_RL w_codeWith_L_hang cpL_hang pnL_hang rfl (Nat.le_of_ble_eq_true rfl) ⟨Nat.le_of_ble_eq_true rfl, Nat.le_of_ble_eq_true rfl⟩ ⟨by omega, by omega⟩ dL_law_1603 (kI (fun r_1 G_1 hr_1 h hG_1 => ?_))
  refine a_istore (pc := 1606) X9 dL_law_1606 (Nat.le_of_ble_eq_true rfl) rfl rfl ?_
  refine a_aload_n (pc := 1608) X9 dL_law_1608 rfl rfl ?_
  refine a_aload_n (pc := 1609) X9 dL_law_1609 rfl rfl ?_
  refine a_iload (pc := 1610) X9 dL_law_1610 rfl ?_
  refine a_iconst (pc := 1612) X9 dL_law_1612 ?_
  refine a_iadd (pc := 1613) X9 dL_law_1613 ?_
  refine b_scr (pc := 1614) X9 LX g_1 dL_law_1614 ?_
  refine a_callVL (pc := 1615) X9 E (m_X10_hang (inR_toInt _) hnn1 h) okX10 (is10 hnn1) wM_L_218 w_instanceMethod_X10_hang w_selects_X10_hang w_initialized_RX10 w_code_X10_hang cp_X10_hang pn_X10_hang rfl (Nat.le_of_ble_eq_true rfl) ⟨Nat.le_of_ble_eq_true rfl, Nat.le_of_ble_eq_true rfl⟩ ⟨by omega, by omega⟩ dL_law_1615 (kI (fun r_2 G_2 hr_2 h hG_2 => ?_))
  refine a_istore (pc := 1618) X9 dL_law_1618 (Nat.le_of_ble_eq_true rfl) rfl rfl ?_
  refine a_aload_n (pc := 1620) X9 dL_law_1620 rfl rfl ?_
  refine a_callVL (pc := 1621) X9 E (m_X10_thrown  hnn1 h) okX10 (is10 hnn1) wM_L_141 w_instanceMethod_X10_thrown w_selects_X10_thrown w_initialized_RX10 w_code_X10_thrown cp_X10_thrown pn_X10_thrown rfl (Nat.le_of_ble_eq_true rfl) ⟨Nat.le_of_ble_eq_true rfl, Nat.le_of_ble_eq_true rfl⟩ ⟨by omega, by omega⟩ dL_law_1621 (kIp (fun r_3 hr_3 h => ?_))
  refine a_iload (pc := 1624) X9 dL_law_1624 rfl ?_
  refine a_icmp_eq (pc := 1626) (tgt := 1631) X9 dL_law_1626 rfl hr_3 hr_1 (fun c => ?_) (fun c => ?_)
  · have c_1 := c
    have h := h.1 c_1
    refine a_iload (pc := 1631) X9 dL_law_1631 rfl ?_
    refine a_if_ne (pc := 1633) (tgt := 1648) X9 dL_law_1633 rfl hr_1 (fun c => ?_) (fun c => ?_)
    · have c_2 := c
      have h := h.1 c_2
      refine a_goto (pc := 1648) (tgt := 2618) X9 dL_law_1648 rfl ?_
      refine AW.widen (cb' := cb + 4) (sb' := sb + 24) (by omega) (by omega) ?_
      refine AW.drop 5 rfl ?_
      refine AW.drop 6 rfl ?_
      exact hK _ h hG_2
    · have c_2 := c
      have h := h.2 c_2
      refine a_aload_n (pc := 1636) X9 dL_law_1636 rfl rfl ?_
      refine a_iconst (pc := 1637) X9 dL_law_1637 ?_
      refine a_lald (pc := 1638) X9 (atO hnn) (Nat.le_of_ble_eq_true rfl) (j := 0) rfl (Nat.le_of_ble_eq_true rfl) dL_law_1638 ?_
      refine a_iload (pc := 1639) X9 dL_law_1639 rfl ?_
      refine a_i2l (pc := 1641) X9 dL_law_1641 hr_2 ?_
      refine b_lcmp (pc := 1642) X9 dL_law_1642 (inR_inL (hG_2 _ _)) (inR_inL hr_2) ?_
      refine a_if_eq (pc := 1643) (tgt := 1648) X9 dL_law_1643 rfl lcv_inR (fun c => ?_) (fun c => ?_)
      · have c_3 : (G_2 285 0) = r_2 := lcv_eq.mp c
        have h := h.1 c_3
        refine a_goto (pc := 1648) (tgt := 2618) X9 dL_law_1648 rfl ?_
        refine AW.widen (cb' := cb + 4) (sb' := sb + 24) (by omega) (by omega) ?_
        refine AW.drop 5 rfl ?_
        refine AW.drop 6 rfl ?_
        exact hK _ h hG_2
      · have c_3 : (G_2 285 0) ≠ r_2 := fun e => c (lcv_eq.mpr e)
        have h := h.2 c_3
        refine a_iconst (pc := 1646) X9 dL_law_1646 ?_
        exact h.elim
  · have c_1 := c
    have h := h.2 c_1
    refine a_iconst (pc := 1629) X9 dL_law_1629 ?_
    exact h.elim
set_option maxHeartbeats 4000000 in
set_option maxRecDepth 100000 in
theorem m_law_28 {κ : Cx} {δ : Dx} {ρ0 : Nat → Nat} {n0 cb sb nn L : Nat} {xs : Nat → Int32} {i4 : Int} {G : GH} {K : GH → Prop} (X9 : CX κ δ RL cL_law 9 ret) (E : RmL κ) (LX : LawX κ δ ρ0 L xs) (hnn : 286 ≤ nn) (hi4 : inR i4) (hG : GR G) (hcb : cb + 4 ≤ 601024 ∧ sb + 24 ≤ 7293033) (hK : ∀ G9, K G9 → GR G9 → AW κ δ ρ0 n0 9 (cb + 4) (sb + 24) 2618 [some (vr (strB + 30)), some (vr 0), some (vr 272), some (vr 285), some (vi i4), none, none, none, none] [] (SF nn) G9) (h : f_law_28 L xs i4 G K) : AW κ δ ρ0 n0 9 cb sb 1651 [some (vr (strB + 30)), some (vr 0), some (vr 272), some (vr 285), some (vi i4), none, none, none, none] [] (SF nn) G := by
  have hnn0 : 272 ≤ nn := by omega
  have hnn1 : 285 ≤ nn := by omega
  refine a_aload_n (pc := 1651) X9 dL_law_1651 rfl rfl ?_
  refine a_callVL (pc := 1652) X9 E (m_X9_hold  hnn0 h) okX9 (is9 hnn0) wM_L_219 w_instanceMethod_X9_hold w_selects_X9_hold w_initialized_RX9 w_code_X9_hold cp_X9_hold pn_X9_hold rfl (Nat.le_of_ble_eq_true rfl) ⟨Nat.le_of_ble_eq_true rfl, Nat.le_of_ble_eq_true rfl⟩ ⟨by omega, by omega⟩ dL_law_1652 (kI (fun r_1 G_1 hr_1 h hG_1 => ?_))
  refine a_aload_n (pc := 1655) X9 dL_law_1655 rfl rfl ?_
  refine a_callVL (pc := 1656) X9 E (m_X10_hold  hnn1 h) okX10 (is10 hnn1) wM_L_222 w_instanceMethod_X10_hold w_selects_X10_hold w_initialized_RX10 w_code_X10_hold cp_X10_hold pn_X10_hold rfl (Nat.le_of_ble_eq_true rfl) ⟨Nat.le_of_ble_eq_true rfl, Nat.le_of_ble_eq_true rfl⟩ ⟨by omega, by omega⟩ dL_law_1656 (kI (fun r_2 G_2 hr_2 h hG_2 => ?_))
  refine a_icmp_eq (pc := 1659) (tgt := 2618) X9 dL_law_1659 rfl hr_1 hr_2 (fun c => ?_) (fun c => ?_)
  · have c_1 := c
    have h := h.1 c_1
    refine AW.widen (cb' := cb + 4) (sb' := sb + 24) (by omega) (by omega) ?_
    exact hK _ h hG_2
  · have c_1 := c
    have h := h.2 c_1
    refine a_iconst (pc := 1662) X9 dL_law_1662 ?_
    exact h.elim
set_option maxHeartbeats 4000000 in
set_option maxRecDepth 100000 in
theorem m_law_29 {κ : Cx} {δ : Dx} {ρ0 : Nat → Nat} {n0 cb sb nn L : Nat} {xs : Nat → Int32} {i4 : Int} {G : GH} {K : GH → Prop} (X9 : CX κ δ RL cL_law 9 ret) (E : RmL κ) (LX : LawX κ δ ρ0 L xs) (hnn : 286 ≤ nn) (hi4 : inR i4) (hG : GR G) (hcb : cb + 4 ≤ 601024 ∧ sb + 24 ≤ 7293033) (hK : ∀ G9, K G9 → GR G9 → AW κ δ ρ0 n0 9 (cb + 4) (sb + 24) 2618 [some (vr (strB + 30)), some (vr 0), some (vr 272), some (vr 285), some (vi i4), none, none, none, none] [] (SF nn) G9) (h : f_law_29 L xs i4 G K) : AW κ δ ρ0 n0 9 cb sb 1664 [some (vr (strB + 30)), some (vr 0), some (vr 272), some (vr 285), some (vi i4), none, none, none, none] [] (SF nn) G := by
  have hnn0 : 272 ≤ nn := by omega
  have hnn1 : 285 ≤ nn := by omega
  refine a_aload_n (pc := 1664) X9 dL_law_1664 rfl rfl ?_
  refine a_callVL (pc := 1665) X9 E (m_X9_clear  hnn0 h) okX9 (is9 hnn0) wM_L_223 w_instanceMethod_X9_clear w_selects_X9_clear w_initialized_RX9 w_code_X9_clear cp_X9_clear pn_X9_clear rfl (Nat.le_of_ble_eq_true rfl) ⟨Nat.le_of_ble_eq_true rfl, Nat.le_of_ble_eq_true rfl⟩ ⟨by omega, by omega⟩ dL_law_1665 (kI (fun r_1 G_1 hr_1 h hG_1 => ?_))
  refine a_aload_n (pc := 1668) X9 dL_law_1668 rfl rfl ?_
  refine a_callVL (pc := 1669) X9 E (m_X10_clear  hnn1 h) okX10 (is10 hnn1) wM_L_226 w_instanceMethod_X10_clear w_selects_X10_clear w_initialized_RX10 w_code_X10_clear cp_X10_clear pn_X10_clear rfl (Nat.le_of_ble_eq_true rfl) ⟨Nat.le_of_ble_eq_true rfl, Nat.le_of_ble_eq_true rfl⟩ ⟨by omega, by omega⟩ dL_law_1669 (kI (fun r_2 G_2 hr_2 h hG_2 => ?_))
  refine a_icmp_eq (pc := 1672) (tgt := 2618) X9 dL_law_1672 rfl hr_1 hr_2 (fun c => ?_) (fun c => ?_)
  · have c_1 := c
    have h := h.1 c_1
    refine AW.widen (cb' := cb + 4) (sb' := sb + 24) (by omega) (by omega) ?_
    exact hK _ h hG_2
  · have c_1 := c
    have h := h.2 c_1
    refine a_iconst (pc := 1675) X9 dL_law_1675 ?_
    exact h.elim
set_option maxHeartbeats 4000000 in
set_option maxRecDepth 100000 in
theorem m_law_30 {κ : Cx} {δ : Dx} {ρ0 : Nat → Nat} {n0 cb sb nn L : Nat} {xs : Nat → Int32} {i4 : Int} {G : GH} {K : GH → Prop} (X9 : CX κ δ RL cL_law 9 ret) (E : RmL κ) (LX : LawX κ δ ρ0 L xs) (hnn : 286 ≤ nn) (hi4 : inR i4) (hG : GR G) (hcb : cb + 4 ≤ 601024 ∧ sb + 24 ≤ 7293033) (hK : ∀ G9, K G9 → GR G9 → AW κ δ ρ0 n0 9 (cb + 4) (sb + 24) 2618 [some (vr (strB + 30)), some (vr 0), some (vr 272), some (vr 285), some (vi i4), none, none, none, none] [] (SF nn) G9) (h : f_law_30 L xs i4 G K) : AW κ δ ρ0 n0 9 cb sb 1677 [some (vr (strB + 30)), some (vr 0), some (vr 272), some (vr 285), some (vi i4), none, none, none, none] [] (SF nn) G := by
  have hnn0 : 272 ≤ nn := by omega
  have hnn1 : 285 ≤ nn := by omega
  refine a_aload_n (pc := 1677) X9 dL_law_1677 rfl rfl ?_
  refine a_aload_n (pc := 1678) X9 dL_law_1678 rfl rfl ?_
  refine a_iload (pc := 1679) X9 dL_law_1679 rfl ?_
  refine a_iconst (pc := 1681) X9 dL_law_1681 ?_
  refine a_iadd (pc := 1682) X9 dL_law_1682 ?_
  obtain ⟨g_1, h⟩ := h
  refine b_scr (pc := 1683) X9 LX g_1 dL_law_1683 ?_
  refine a_aload_n (pc := 1684) X9 dL_law_1684 rfl rfl ?_
  refine a_iload (pc := 1685) X9 dL_law_1685 rfl ?_
  refine a_iconst (pc := 1687) X9 dL_law_1687 ?_
  refine a_iadd (pc := 1688) X9 dL_law_1688 ?_
  obtain ⟨g_2, h⟩ := h
  refine b_scr (pc := 1689) X9 LX g_2 dL_law_1689 ?_
  refine a_aload_n (pc := 1690) X9 dL_law_1690 rfl rfl ?_
  refine a_iload (pc := 1691) X9 dL_law_1691 rfl ?_
  refine a_iconst (pc := 1693) X9 dL_law_1693 ?_
  refine a_iadd (pc := 1694) X9 dL_law_1694 ?_
  obtain ⟨g_3, h⟩ := h
  refine b_scr (pc := 1695) X9 LX g_3 dL_law_1695 ?_
  refine a_aload_n (pc := 1696) X9 dL_law_1696 rfl rfl ?_
  refine a_callSL (pc := 1697) X9 E (m_L_borrow (inR_toInt _) (inR_toInt _) (inR_toInt _) hnn h) wM_L_227 w_static_L_borrow w_initialized_RL w_codeWith_L_borrow cpL_borrow pnL_borrow rfl (Nat.le_of_ble_eq_true rfl) ⟨Nat.le_of_ble_eq_true rfl, Nat.le_of_ble_eq_true rfl⟩ ⟨by omega, by omega⟩ dL_law_1697 (kI (fun r_1 G_1 hr_1 h hG_1 => ?_))
  refine a_istore (pc := 1700) X9 dL_law_1700 (Nat.le_of_ble_eq_true rfl) rfl rfl ?_
  refine a_aload_n (pc := 1702) X9 dL_law_1702 rfl rfl ?_
  refine a_aload_n (pc := 1703) X9 dL_law_1703 rfl rfl ?_
  refine a_iload (pc := 1704) X9 dL_law_1704 rfl ?_
  refine a_iconst (pc := 1706) X9 dL_law_1706 ?_
  refine a_iadd (pc := 1707) X9 dL_law_1707 ?_
  refine b_scr (pc := 1708) X9 LX g_1 dL_law_1708 ?_
  refine a_aload_n (pc := 1709) X9 dL_law_1709 rfl rfl ?_
  refine a_iload (pc := 1710) X9 dL_law_1710 rfl ?_
  refine a_iconst (pc := 1712) X9 dL_law_1712 ?_
  refine a_iadd (pc := 1713) X9 dL_law_1713 ?_
  refine b_scr (pc := 1714) X9 LX g_2 dL_law_1714 ?_
  refine a_aload_n (pc := 1715) X9 dL_law_1715 rfl rfl ?_
  refine a_iload (pc := 1716) X9 dL_law_1716 rfl ?_
  refine a_iconst (pc := 1718) X9 dL_law_1718 ?_
  refine a_iadd (pc := 1719) X9 dL_law_1719 ?_
  refine b_scr (pc := 1720) X9 LX g_3 dL_law_1720 ?_
  refine a_callVL (pc := 1721) X9 E (m_X10_borrow (inR_toInt _) (inR_toInt _) (inR_toInt _) hnn1 h) okX10 (is10 hnn1) wM_L_230 w_instanceMethod_X10_borrow w_selects_X10_borrow w_initialized_RX10 w_code_X10_borrow cp_X10_borrow pn_X10_borrow rfl (Nat.le_of_ble_eq_true rfl) ⟨Nat.le_of_ble_eq_true rfl, Nat.le_of_ble_eq_true rfl⟩ ⟨by omega, by omega⟩ dL_law_1721 (kI (fun r_2 G_2 hr_2 h hG_2 => ?_))
  refine a_istore (pc := 1724) X9 dL_law_1724 (Nat.le_of_ble_eq_true rfl) rfl rfl ?_
  refine a_aload_n (pc := 1726) X9 dL_law_1726 rfl rfl ?_
  refine a_callVL (pc := 1727) X9 E (m_X10_thrown  hnn1 h) okX10 (is10 hnn1) wM_L_141 w_instanceMethod_X10_thrown w_selects_X10_thrown w_initialized_RX10 w_code_X10_thrown cp_X10_thrown pn_X10_thrown rfl (Nat.le_of_ble_eq_true rfl) ⟨Nat.le_of_ble_eq_true rfl, Nat.le_of_ble_eq_true rfl⟩ ⟨by omega, by omega⟩ dL_law_1727 (kIp (fun r_3 hr_3 h => ?_))
  refine a_iload (pc := 1730) X9 dL_law_1730 rfl ?_
  refine a_icmp_eq (pc := 1732) (tgt := 1737) X9 dL_law_1732 rfl hr_3 hr_1 (fun c => ?_) (fun c => ?_)
  · have c_1 := c
    have h := h.1 c_1
    refine a_iload (pc := 1737) X9 dL_law_1737 rfl ?_
    refine a_if_ne (pc := 1739) (tgt := 1754) X9 dL_law_1739 rfl hr_1 (fun c => ?_) (fun c => ?_)
    · have c_2 := c
      have h := h.1 c_2
      refine a_goto (pc := 1754) (tgt := 2618) X9 dL_law_1754 rfl ?_
      refine AW.widen (cb' := cb + 4) (sb' := sb + 24) (by omega) (by omega) ?_
      refine AW.drop 5 rfl ?_
      refine AW.drop 6 rfl ?_
      exact hK _ h hG_2
    · have c_2 := c
      have h := h.2 c_2
      refine a_aload_n (pc := 1742) X9 dL_law_1742 rfl rfl ?_
      refine a_iconst (pc := 1743) X9 dL_law_1743 ?_
      refine a_lald (pc := 1744) X9 (atO hnn) (Nat.le_of_ble_eq_true rfl) (j := 0) rfl (Nat.le_of_ble_eq_true rfl) dL_law_1744 ?_
      refine a_iload (pc := 1745) X9 dL_law_1745 rfl ?_
      refine a_i2l (pc := 1747) X9 dL_law_1747 hr_2 ?_
      refine b_lcmp (pc := 1748) X9 dL_law_1748 (inR_inL (hG_2 _ _)) (inR_inL hr_2) ?_
      refine a_if_eq (pc := 1749) (tgt := 1754) X9 dL_law_1749 rfl lcv_inR (fun c => ?_) (fun c => ?_)
      · have c_3 : (G_2 285 0) = r_2 := lcv_eq.mp c
        have h := h.1 c_3
        refine a_goto (pc := 1754) (tgt := 2618) X9 dL_law_1754 rfl ?_
        refine AW.widen (cb' := cb + 4) (sb' := sb + 24) (by omega) (by omega) ?_
        refine AW.drop 5 rfl ?_
        refine AW.drop 6 rfl ?_
        exact hK _ h hG_2
      · have c_3 : (G_2 285 0) ≠ r_2 := fun e => c (lcv_eq.mpr e)
        have h := h.2 c_3
        refine a_iconst (pc := 1752) X9 dL_law_1752 ?_
        exact h.elim
  · have c_1 := c
    have h := h.2 c_1
    refine a_iconst (pc := 1735) X9 dL_law_1735 ?_
    exact h.elim
set_option maxHeartbeats 4000000 in
set_option maxRecDepth 100000 in
theorem m_law_31 {κ : Cx} {δ : Dx} {ρ0 : Nat → Nat} {n0 cb sb nn L : Nat} {xs : Nat → Int32} {i4 : Int} {G : GH} {K : GH → Prop} (X9 : CX κ δ RL cL_law 9 ret) (E : RmL κ) (LX : LawX κ δ ρ0 L xs) (hnn : 286 ≤ nn) (hi4 : inR i4) (hG : GR G) (hcb : cb + 4 ≤ 601024 ∧ sb + 24 ≤ 7293033) (hK : ∀ G9, K G9 → GR G9 → AW κ δ ρ0 n0 9 (cb + 4) (sb + 24) 2618 [some (vr (strB + 30)), some (vr 0), some (vr 272), some (vr 285), some (vi i4), none, none, none, none] [] (SF nn) G9) (h : f_law_31 L xs i4 G K) : AW κ δ ρ0 n0 9 cb sb 1757 [some (vr (strB + 30)), some (vr 0), some (vr 272), some (vr 285), some (vi i4), none, none, none, none] [] (SF nn) G := by
  have hnn0 : 272 ≤ nn := by omega
  have hnn1 : 285 ≤ nn := by omega
  refine a_aload_n (pc := 1757) X9 dL_law_1757 rfl rfl ?_
  refine a_aload_n (pc := 1758) X9 dL_law_1758 rfl rfl ?_
  refine a_iload (pc := 1759) X9 dL_law_1759 rfl ?_
  refine a_iconst (pc := 1761) X9 dL_law_1761 ?_
  refine a_iadd (pc := 1762) X9 dL_law_1762 ?_
  obtain ⟨g_1, h⟩ := h
  refine b_scr (pc := 1763) X9 LX g_1 dL_law_1763 ?_
  refine a_aload_n (pc := 1764) X9 dL_law_1764 rfl rfl ?_
  refine a_callSL (pc := 1765) X9 E (m_L_giveBack (inR_toInt _) hnn h) wM_L_231 w_static_L_giveBack w_initialized_RL w_codeWith_L_giveBack cpL_giveBack pnL_giveBack rfl (Nat.le_of_ble_eq_true rfl) ⟨Nat.le_of_ble_eq_true rfl, Nat.le_of_ble_eq_true rfl⟩ ⟨by omega, by omega⟩ dL_law_1765 (kI (fun r_1 G_1 hr_1 h hG_1 => ?_))
  refine a_istore (pc := 1768) X9 dL_law_1768 (Nat.le_of_ble_eq_true rfl) rfl rfl ?_
  refine a_aload_n (pc := 1770) X9 dL_law_1770 rfl rfl ?_
  refine a_aload_n (pc := 1771) X9 dL_law_1771 rfl rfl ?_
  refine a_iload (pc := 1772) X9 dL_law_1772 rfl ?_
  refine a_iconst (pc := 1774) X9 dL_law_1774 ?_
  refine a_iadd (pc := 1775) X9 dL_law_1775 ?_
  refine b_scr (pc := 1776) X9 LX g_1 dL_law_1776 ?_
  refine a_callVL (pc := 1777) X9 E (m_X10_giveBack (inR_toInt _) hnn1 h) okX10 (is10 hnn1) wM_L_233 w_instanceMethod_X10_giveBack w_selects_X10_giveBack w_initialized_RX10 w_code_X10_giveBack cp_X10_giveBack pn_X10_giveBack rfl (Nat.le_of_ble_eq_true rfl) ⟨Nat.le_of_ble_eq_true rfl, Nat.le_of_ble_eq_true rfl⟩ ⟨by omega, by omega⟩ dL_law_1777 (kI (fun r_2 G_2 hr_2 h hG_2 => ?_))
  refine a_istore (pc := 1780) X9 dL_law_1780 (Nat.le_of_ble_eq_true rfl) rfl rfl ?_
  refine a_aload_n (pc := 1782) X9 dL_law_1782 rfl rfl ?_
  refine a_callVL (pc := 1783) X9 E (m_X10_thrown  hnn1 h) okX10 (is10 hnn1) wM_L_141 w_instanceMethod_X10_thrown w_selects_X10_thrown w_initialized_RX10 w_code_X10_thrown cp_X10_thrown pn_X10_thrown rfl (Nat.le_of_ble_eq_true rfl) ⟨Nat.le_of_ble_eq_true rfl, Nat.le_of_ble_eq_true rfl⟩ ⟨by omega, by omega⟩ dL_law_1783 (kIp (fun r_3 hr_3 h => ?_))
  refine a_iload (pc := 1786) X9 dL_law_1786 rfl ?_
  refine a_icmp_eq (pc := 1788) (tgt := 1793) X9 dL_law_1788 rfl hr_3 hr_1 (fun c => ?_) (fun c => ?_)
  · have c_1 := c
    have h := h.1 c_1
    refine a_iload (pc := 1793) X9 dL_law_1793 rfl ?_
    refine a_if_ne (pc := 1795) (tgt := 1810) X9 dL_law_1795 rfl hr_1 (fun c => ?_) (fun c => ?_)
    · have c_2 := c
      have h := h.1 c_2
      refine a_goto (pc := 1810) (tgt := 2618) X9 dL_law_1810 rfl ?_
      refine AW.widen (cb' := cb + 4) (sb' := sb + 24) (by omega) (by omega) ?_
      refine AW.drop 5 rfl ?_
      refine AW.drop 6 rfl ?_
      exact hK _ h hG_2
    · have c_2 := c
      have h := h.2 c_2
      refine a_aload_n (pc := 1798) X9 dL_law_1798 rfl rfl ?_
      refine a_iconst (pc := 1799) X9 dL_law_1799 ?_
      refine a_lald (pc := 1800) X9 (atO hnn) (Nat.le_of_ble_eq_true rfl) (j := 0) rfl (Nat.le_of_ble_eq_true rfl) dL_law_1800 ?_
      refine a_iload (pc := 1801) X9 dL_law_1801 rfl ?_
      refine a_i2l (pc := 1803) X9 dL_law_1803 hr_2 ?_
      refine b_lcmp (pc := 1804) X9 dL_law_1804 (inR_inL (hG_2 _ _)) (inR_inL hr_2) ?_
      refine a_if_eq (pc := 1805) (tgt := 1810) X9 dL_law_1805 rfl lcv_inR (fun c => ?_) (fun c => ?_)
      · have c_3 : (G_2 285 0) = r_2 := lcv_eq.mp c
        have h := h.1 c_3
        refine a_goto (pc := 1810) (tgt := 2618) X9 dL_law_1810 rfl ?_
        refine AW.widen (cb' := cb + 4) (sb' := sb + 24) (by omega) (by omega) ?_
        refine AW.drop 5 rfl ?_
        refine AW.drop 6 rfl ?_
        exact hK _ h hG_2
      · have c_3 : (G_2 285 0) ≠ r_2 := fun e => c (lcv_eq.mpr e)
        have h := h.2 c_3
        refine a_iconst (pc := 1808) X9 dL_law_1808 ?_
        exact h.elim
  · have c_1 := c
    have h := h.2 c_1
    refine a_iconst (pc := 1791) X9 dL_law_1791 ?_
    exact h.elim
set_option maxHeartbeats 4000000 in
set_option maxRecDepth 100000 in
theorem m_law_32 {κ : Cx} {δ : Dx} {ρ0 : Nat → Nat} {n0 cb sb nn L : Nat} {xs : Nat → Int32} {i4 : Int} {G : GH} {K : GH → Prop} (X9 : CX κ δ RL cL_law 9 ret) (E : RmL κ) (LX : LawX κ δ ρ0 L xs) (hnn : 286 ≤ nn) (hi4 : inR i4) (hG : GR G) (hcb : cb + 4 ≤ 601024 ∧ sb + 24 ≤ 7293033) (hK : ∀ G9, K G9 → GR G9 → AW κ δ ρ0 n0 9 (cb + 4) (sb + 24) 2618 [some (vr (strB + 30)), some (vr 0), some (vr 272), some (vr 285), some (vi i4), none, none, none, none] [] (SF nn) G9) (h : f_law_32 L xs i4 G K) : AW κ δ ρ0 n0 9 cb sb 1813 [some (vr (strB + 30)), some (vr 0), some (vr 272), some (vr 285), some (vi i4), none, none, none, none] [] (SF nn) G := by
  have hnn0 : 272 ≤ nn := by omega
  have hnn1 : 285 ≤ nn := by omega
  refine a_aload_n (pc := 1813) X9 dL_law_1813 rfl rfl ?_
  refine a_aload_n (pc := 1814) X9 dL_law_1814 rfl rfl ?_
  refine a_iload (pc := 1815) X9 dL_law_1815 rfl ?_
  refine a_iconst (pc := 1817) X9 dL_law_1817 ?_
  refine a_iadd (pc := 1818) X9 dL_law_1818 ?_
  obtain ⟨g_1, h⟩ := h
  refine b_scr (pc := 1819) X9 LX g_1 dL_law_1819 ?_
  refine a_aload_n (pc := 1820) X9 dL_law_1820 rfl rfl ?_
  refine a_iload (pc := 1821) X9 dL_law_1821 rfl ?_
  refine a_iconst (pc := 1823) X9 dL_law_1823 ?_
  refine a_iadd (pc := 1824) X9 dL_law_1824 ?_
  obtain ⟨g_2, h⟩ := h
  refine b_scr (pc := 1825) X9 LX g_2 dL_law_1825 ?_
  refine a_aload_n (pc := 1826) X9 dL_law_1826 rfl rfl ?_
  refine a_callSL (pc := 1827) X9 E (m_L_buy (inR_toInt _) (inR_toInt _) hnn h) wM_L_234 w_static_L_buy w_initialized_RL w_codeWith_L_buy cpL_buy pnL_buy rfl (Nat.le_of_ble_eq_true rfl) ⟨Nat.le_of_ble_eq_true rfl, Nat.le_of_ble_eq_true rfl⟩ ⟨by omega, by omega⟩ dL_law_1827 (kI (fun r_1 G_1 hr_1 h hG_1 => ?_))
  refine a_istore (pc := 1830) X9 dL_law_1830 (Nat.le_of_ble_eq_true rfl) rfl rfl ?_
  refine a_aload_n (pc := 1832) X9 dL_law_1832 rfl rfl ?_
  refine a_aload_n (pc := 1833) X9 dL_law_1833 rfl rfl ?_
  refine a_iload (pc := 1834) X9 dL_law_1834 rfl ?_
  refine a_iconst (pc := 1836) X9 dL_law_1836 ?_
  refine a_iadd (pc := 1837) X9 dL_law_1837 ?_
  refine b_scr (pc := 1838) X9 LX g_1 dL_law_1838 ?_
  refine a_aload_n (pc := 1839) X9 dL_law_1839 rfl rfl ?_
  refine a_iload (pc := 1840) X9 dL_law_1840 rfl ?_
  refine a_iconst (pc := 1842) X9 dL_law_1842 ?_
  refine a_iadd (pc := 1843) X9 dL_law_1843 ?_
  refine b_scr (pc := 1844) X9 LX g_2 dL_law_1844 ?_
  refine a_callVL (pc := 1845) X9 E (m_X10_buy (inR_toInt _) (inR_toInt _) hnn1 h) okX10 (is10 hnn1) wM_L_236 w_instanceMethod_X10_buy w_selects_X10_buy w_initialized_RX10 w_code_X10_buy cp_X10_buy pn_X10_buy rfl (Nat.le_of_ble_eq_true rfl) ⟨Nat.le_of_ble_eq_true rfl, Nat.le_of_ble_eq_true rfl⟩ ⟨by omega, by omega⟩ dL_law_1845 (kI (fun r_2 G_2 hr_2 h hG_2 => ?_))
  refine a_istore (pc := 1848) X9 dL_law_1848 (Nat.le_of_ble_eq_true rfl) rfl rfl ?_
  refine a_aload_n (pc := 1850) X9 dL_law_1850 rfl rfl ?_
  refine a_callVL (pc := 1851) X9 E (m_X10_thrown  hnn1 h) okX10 (is10 hnn1) wM_L_141 w_instanceMethod_X10_thrown w_selects_X10_thrown w_initialized_RX10 w_code_X10_thrown cp_X10_thrown pn_X10_thrown rfl (Nat.le_of_ble_eq_true rfl) ⟨Nat.le_of_ble_eq_true rfl, Nat.le_of_ble_eq_true rfl⟩ ⟨by omega, by omega⟩ dL_law_1851 (kIp (fun r_3 hr_3 h => ?_))
  refine a_iload (pc := 1854) X9 dL_law_1854 rfl ?_
  refine a_icmp_eq (pc := 1856) (tgt := 1861) X9 dL_law_1856 rfl hr_3 hr_1 (fun c => ?_) (fun c => ?_)
  · have c_1 := c
    have h := h.1 c_1
    refine a_iload (pc := 1861) X9 dL_law_1861 rfl ?_
    refine a_if_ne (pc := 1863) (tgt := 1878) X9 dL_law_1863 rfl hr_1 (fun c => ?_) (fun c => ?_)
    · have c_2 := c
      have h := h.1 c_2
      refine a_goto (pc := 1878) (tgt := 2618) X9 dL_law_1878 rfl ?_
      refine AW.widen (cb' := cb + 4) (sb' := sb + 24) (by omega) (by omega) ?_
      refine AW.drop 5 rfl ?_
      refine AW.drop 6 rfl ?_
      exact hK _ h hG_2
    · have c_2 := c
      have h := h.2 c_2
      refine a_aload_n (pc := 1866) X9 dL_law_1866 rfl rfl ?_
      refine a_iconst (pc := 1867) X9 dL_law_1867 ?_
      refine a_lald (pc := 1868) X9 (atO hnn) (Nat.le_of_ble_eq_true rfl) (j := 0) rfl (Nat.le_of_ble_eq_true rfl) dL_law_1868 ?_
      refine a_iload (pc := 1869) X9 dL_law_1869 rfl ?_
      refine a_i2l (pc := 1871) X9 dL_law_1871 hr_2 ?_
      refine b_lcmp (pc := 1872) X9 dL_law_1872 (inR_inL (hG_2 _ _)) (inR_inL hr_2) ?_
      refine a_if_eq (pc := 1873) (tgt := 1878) X9 dL_law_1873 rfl lcv_inR (fun c => ?_) (fun c => ?_)
      · have c_3 : (G_2 285 0) = r_2 := lcv_eq.mp c
        have h := h.1 c_3
        refine a_goto (pc := 1878) (tgt := 2618) X9 dL_law_1878 rfl ?_
        refine AW.widen (cb' := cb + 4) (sb' := sb + 24) (by omega) (by omega) ?_
        refine AW.drop 5 rfl ?_
        refine AW.drop 6 rfl ?_
        exact hK _ h hG_2
      · have c_3 : (G_2 285 0) ≠ r_2 := fun e => c (lcv_eq.mpr e)
        have h := h.2 c_3
        refine a_iconst (pc := 1876) X9 dL_law_1876 ?_
        exact h.elim
  · have c_1 := c
    have h := h.2 c_1
    refine a_iconst (pc := 1859) X9 dL_law_1859 ?_
    exact h.elim
set_option maxHeartbeats 4000000 in
set_option maxRecDepth 100000 in
theorem m_law_33 {κ : Cx} {δ : Dx} {ρ0 : Nat → Nat} {n0 cb sb nn L : Nat} {xs : Nat → Int32} {i4 : Int} {G : GH} {K : GH → Prop} (X9 : CX κ δ RL cL_law 9 ret) (E : RmL κ) (LX : LawX κ δ ρ0 L xs) (hnn : 286 ≤ nn) (hi4 : inR i4) (hG : GR G) (hcb : cb + 4 ≤ 601024 ∧ sb + 24 ≤ 7293033) (hK : ∀ G9, K G9 → GR G9 → AW κ δ ρ0 n0 9 (cb + 4) (sb + 24) 2618 [some (vr (strB + 30)), some (vr 0), some (vr 272), some (vr 285), some (vi i4), none, none, none, none] [] (SF nn) G9) (h : f_law_33 L xs i4 G K) : AW κ δ ρ0 n0 9 cb sb 1881 [some (vr (strB + 30)), some (vr 0), some (vr 272), some (vr 285), some (vi i4), none, none, none, none] [] (SF nn) G := by
  have hnn0 : 272 ≤ nn := by omega
  have hnn1 : 285 ≤ nn := by omega
  refine a_aload_n (pc := 1881) X9 dL_law_1881 rfl rfl ?_
  refine a_aload_n (pc := 1882) X9 dL_law_1882 rfl rfl ?_
  refine a_iload (pc := 1883) X9 dL_law_1883 rfl ?_
  refine a_iconst (pc := 1885) X9 dL_law_1885 ?_
  refine a_iadd (pc := 1886) X9 dL_law_1886 ?_
  obtain ⟨g_1, h⟩ := h
  refine b_scr (pc := 1887) X9 LX g_1 dL_law_1887 ?_
  refine a_aload_n (pc := 1888) X9 dL_law_1888 rfl rfl ?_
  refine a_iload (pc := 1889) X9 dL_law_1889 rfl ?_
  refine a_iconst (pc := 1891) X9 dL_law_1891 ?_
  refine a_iadd (pc := 1892) X9 dL_law_1892 ?_
  obtain ⟨g_2, h⟩ := h
  refine b_scr (pc := 1893) X9 LX g_2 dL_law_1893 ?_
  refine a_aload_n (pc := 1894) X9 dL_law_1894 rfl rfl ?_
  refine a_callSL (pc := 1895) X9 E (m_L_lose (inR_toInt _) (inR_toInt _) hnn h) wM_L_237 w_static_L_lose w_initialized_RL w_codeWith_L_lose cpL_lose pnL_lose rfl (Nat.le_of_ble_eq_true rfl) ⟨Nat.le_of_ble_eq_true rfl, Nat.le_of_ble_eq_true rfl⟩ ⟨by omega, by omega⟩ dL_law_1895 (kI (fun r_1 G_1 hr_1 h hG_1 => ?_))
  refine a_istore (pc := 1898) X9 dL_law_1898 (Nat.le_of_ble_eq_true rfl) rfl rfl ?_
  refine a_aload_n (pc := 1900) X9 dL_law_1900 rfl rfl ?_
  refine a_aload_n (pc := 1901) X9 dL_law_1901 rfl rfl ?_
  refine a_iload (pc := 1902) X9 dL_law_1902 rfl ?_
  refine a_iconst (pc := 1904) X9 dL_law_1904 ?_
  refine a_iadd (pc := 1905) X9 dL_law_1905 ?_
  refine b_scr (pc := 1906) X9 LX g_1 dL_law_1906 ?_
  refine a_aload_n (pc := 1907) X9 dL_law_1907 rfl rfl ?_
  refine a_iload (pc := 1908) X9 dL_law_1908 rfl ?_
  refine a_iconst (pc := 1910) X9 dL_law_1910 ?_
  refine a_iadd (pc := 1911) X9 dL_law_1911 ?_
  refine b_scr (pc := 1912) X9 LX g_2 dL_law_1912 ?_
  refine a_callVL (pc := 1913) X9 E (m_X10_lose (inR_toInt _) (inR_toInt _) hnn1 h) okX10 (is10 hnn1) wM_L_239 w_instanceMethod_X10_lose w_selects_X10_lose w_initialized_RX10 w_code_X10_lose cp_X10_lose pn_X10_lose rfl (Nat.le_of_ble_eq_true rfl) ⟨Nat.le_of_ble_eq_true rfl, Nat.le_of_ble_eq_true rfl⟩ ⟨by omega, by omega⟩ dL_law_1913 (kI (fun r_2 G_2 hr_2 h hG_2 => ?_))
  refine a_istore (pc := 1916) X9 dL_law_1916 (Nat.le_of_ble_eq_true rfl) rfl rfl ?_
  refine a_aload_n (pc := 1918) X9 dL_law_1918 rfl rfl ?_
  refine a_callVL (pc := 1919) X9 E (m_X10_thrown  hnn1 h) okX10 (is10 hnn1) wM_L_141 w_instanceMethod_X10_thrown w_selects_X10_thrown w_initialized_RX10 w_code_X10_thrown cp_X10_thrown pn_X10_thrown rfl (Nat.le_of_ble_eq_true rfl) ⟨Nat.le_of_ble_eq_true rfl, Nat.le_of_ble_eq_true rfl⟩ ⟨by omega, by omega⟩ dL_law_1919 (kIp (fun r_3 hr_3 h => ?_))
  refine a_iload (pc := 1922) X9 dL_law_1922 rfl ?_
  refine a_icmp_eq (pc := 1924) (tgt := 1929) X9 dL_law_1924 rfl hr_3 hr_1 (fun c => ?_) (fun c => ?_)
  · have c_1 := c
    have h := h.1 c_1
    refine a_iload (pc := 1929) X9 dL_law_1929 rfl ?_
    refine a_if_ne (pc := 1931) (tgt := 1946) X9 dL_law_1931 rfl hr_1 (fun c => ?_) (fun c => ?_)
    · have c_2 := c
      have h := h.1 c_2
      refine a_goto (pc := 1946) (tgt := 2618) X9 dL_law_1946 rfl ?_
      refine AW.widen (cb' := cb + 4) (sb' := sb + 24) (by omega) (by omega) ?_
      refine AW.drop 5 rfl ?_
      refine AW.drop 6 rfl ?_
      exact hK _ h hG_2
    · have c_2 := c
      have h := h.2 c_2
      refine a_aload_n (pc := 1934) X9 dL_law_1934 rfl rfl ?_
      refine a_iconst (pc := 1935) X9 dL_law_1935 ?_
      refine a_lald (pc := 1936) X9 (atO hnn) (Nat.le_of_ble_eq_true rfl) (j := 0) rfl (Nat.le_of_ble_eq_true rfl) dL_law_1936 ?_
      refine a_iload (pc := 1937) X9 dL_law_1937 rfl ?_
      refine a_i2l (pc := 1939) X9 dL_law_1939 hr_2 ?_
      refine b_lcmp (pc := 1940) X9 dL_law_1940 (inR_inL (hG_2 _ _)) (inR_inL hr_2) ?_
      refine a_if_eq (pc := 1941) (tgt := 1946) X9 dL_law_1941 rfl lcv_inR (fun c => ?_) (fun c => ?_)
      · have c_3 : (G_2 285 0) = r_2 := lcv_eq.mp c
        have h := h.1 c_3
        refine a_goto (pc := 1946) (tgt := 2618) X9 dL_law_1946 rfl ?_
        refine AW.widen (cb' := cb + 4) (sb' := sb + 24) (by omega) (by omega) ?_
        refine AW.drop 5 rfl ?_
        refine AW.drop 6 rfl ?_
        exact hK _ h hG_2
      · have c_3 : (G_2 285 0) ≠ r_2 := fun e => c (lcv_eq.mpr e)
        have h := h.2 c_3
        refine a_iconst (pc := 1944) X9 dL_law_1944 ?_
        exact h.elim
  · have c_1 := c
    have h := h.2 c_1
    refine a_iconst (pc := 1927) X9 dL_law_1927 ?_
    exact h.elim
set_option maxHeartbeats 4000000 in
set_option maxRecDepth 100000 in
theorem m_law_34 {κ : Cx} {δ : Dx} {ρ0 : Nat → Nat} {n0 cb sb nn L : Nat} {xs : Nat → Int32} {i4 : Int} {G : GH} {K : GH → Prop} (X9 : CX κ δ RL cL_law 9 ret) (E : RmL κ) (LX : LawX κ δ ρ0 L xs) (hnn : 286 ≤ nn) (hi4 : inR i4) (hG : GR G) (hcb : cb + 4 ≤ 601024 ∧ sb + 24 ≤ 7293033) (hK : ∀ G9, K G9 → GR G9 → AW κ δ ρ0 n0 9 (cb + 4) (sb + 24) 2618 [some (vr (strB + 30)), some (vr 0), some (vr 272), some (vr 285), some (vi i4), none, none, none, none] [] (SF nn) G9) (h : f_law_34 L xs i4 G K) : AW κ δ ρ0 n0 9 cb sb 1949 [some (vr (strB + 30)), some (vr 0), some (vr 272), some (vr 285), some (vi i4), none, none, none, none] [] (SF nn) G := by
  have hnn0 : 272 ≤ nn := by omega
  have hnn1 : 285 ≤ nn := by omega
  refine a_aload_n (pc := 1949) X9 dL_law_1949 rfl rfl ?_
  refine a_aload_n (pc := 1950) X9 dL_law_1950 rfl rfl ?_
  refine a_iload (pc := 1951) X9 dL_law_1951 rfl ?_
  refine a_iconst (pc := 1953) X9 dL_law_1953 ?_
  refine a_iadd (pc := 1954) X9 dL_law_1954 ?_
  obtain ⟨g_1, h⟩ := h
  refine b_scr (pc := 1955) X9 LX g_1 dL_law_1955 ?_
  refine a_aload_n (pc := 1956) X9 dL_law_1956 rfl rfl ?_
  refine a_iload (pc := 1957) X9 dL_law_1957 rfl ?_
  refine a_iconst (pc := 1959) X9 dL_law_1959 ?_
  refine a_iadd (pc := 1960) X9 dL_law_1960 ?_
  obtain ⟨g_2, h⟩ := h
  refine b_scr (pc := 1961) X9 LX g_2 dL_law_1961 ?_
  refine a_aload_n (pc := 1962) X9 dL_law_1962 rfl rfl ?_
  refine a_iload (pc := 1963) X9 dL_law_1963 rfl ?_
  refine a_iconst (pc := 1965) X9 dL_law_1965 ?_
  refine a_iadd (pc := 1966) X9 dL_law_1966 ?_
  obtain ⟨g_3, h⟩ := h
  refine b_scr (pc := 1967) X9 LX g_3 dL_law_1967 ?_
  refine a_aload_n (pc := 1968) X9 dL_law_1968 rfl rfl ?_
  refine a_callSL (pc := 1969) X9 E (m_L_addCard (inR_toInt _) (inR_toInt _) (inR_toInt _) hnn h) wM_L_240 w_static_L_addCard w_initialized_RL w_codeWith_L_addCard cpL_addCard pnL_addCard rfl (Nat.le_of_ble_eq_true rfl) ⟨Nat.le_of_ble_eq_true rfl, Nat.le_of_ble_eq_true rfl⟩ ⟨by omega, by omega⟩ dL_law_1969 (kI (fun r_1 G_1 hr_1 h hG_1 => ?_))
  refine a_istore (pc := 1972) X9 dL_law_1972 (Nat.le_of_ble_eq_true rfl) rfl rfl ?_
  refine a_aload_n (pc := 1974) X9 dL_law_1974 rfl rfl ?_
  refine a_aload_n (pc := 1975) X9 dL_law_1975 rfl rfl ?_
  refine a_iload (pc := 1976) X9 dL_law_1976 rfl ?_
  refine a_iconst (pc := 1978) X9 dL_law_1978 ?_
  refine a_iadd (pc := 1979) X9 dL_law_1979 ?_
  refine b_scr (pc := 1980) X9 LX g_1 dL_law_1980 ?_
  refine a_aload_n (pc := 1981) X9 dL_law_1981 rfl rfl ?_
  refine a_iload (pc := 1982) X9 dL_law_1982 rfl ?_
  refine a_iconst (pc := 1984) X9 dL_law_1984 ?_
  refine a_iadd (pc := 1985) X9 dL_law_1985 ?_
  refine b_scr (pc := 1986) X9 LX g_2 dL_law_1986 ?_
  refine a_aload_n (pc := 1987) X9 dL_law_1987 rfl rfl ?_
  refine a_iload (pc := 1988) X9 dL_law_1988 rfl ?_
  refine a_iconst (pc := 1990) X9 dL_law_1990 ?_
  refine a_iadd (pc := 1991) X9 dL_law_1991 ?_
  refine b_scr (pc := 1992) X9 LX g_3 dL_law_1992 ?_
  refine a_callVL (pc := 1993) X9 E (m_X10_addCard (inR_toInt _) (inR_toInt _) (inR_toInt _) hnn1 h) okX10 (is10 hnn1) wM_L_242 w_instanceMethod_X10_addCard w_selects_X10_addCard w_initialized_RX10 w_code_X10_addCard cp_X10_addCard pn_X10_addCard rfl (Nat.le_of_ble_eq_true rfl) ⟨Nat.le_of_ble_eq_true rfl, Nat.le_of_ble_eq_true rfl⟩ ⟨by omega, by omega⟩ dL_law_1993 (kI (fun r_2 G_2 hr_2 h hG_2 => ?_))
  refine a_istore (pc := 1996) X9 dL_law_1996 (Nat.le_of_ble_eq_true rfl) rfl rfl ?_
  refine a_aload_n (pc := 1998) X9 dL_law_1998 rfl rfl ?_
  refine a_callVL (pc := 1999) X9 E (m_X10_thrown  hnn1 h) okX10 (is10 hnn1) wM_L_141 w_instanceMethod_X10_thrown w_selects_X10_thrown w_initialized_RX10 w_code_X10_thrown cp_X10_thrown pn_X10_thrown rfl (Nat.le_of_ble_eq_true rfl) ⟨Nat.le_of_ble_eq_true rfl, Nat.le_of_ble_eq_true rfl⟩ ⟨by omega, by omega⟩ dL_law_1999 (kIp (fun r_3 hr_3 h => ?_))
  refine a_iload (pc := 2002) X9 dL_law_2002 rfl ?_
  refine a_icmp_eq (pc := 2004) (tgt := 2009) X9 dL_law_2004 rfl hr_3 hr_1 (fun c => ?_) (fun c => ?_)
  · have c_1 := c
    have h := h.1 c_1
    refine a_iload (pc := 2009) X9 dL_law_2009 rfl ?_
    refine a_if_ne (pc := 2011) (tgt := 2026) X9 dL_law_2011 rfl hr_1 (fun c => ?_) (fun c => ?_)
    · have c_2 := c
      have h := h.1 c_2
      refine a_goto (pc := 2026) (tgt := 2618) X9 dL_law_2026 rfl ?_
      refine AW.widen (cb' := cb + 4) (sb' := sb + 24) (by omega) (by omega) ?_
      refine AW.drop 5 rfl ?_
      refine AW.drop 6 rfl ?_
      exact hK _ h hG_2
    · have c_2 := c
      have h := h.2 c_2
      refine a_aload_n (pc := 2014) X9 dL_law_2014 rfl rfl ?_
      refine a_iconst (pc := 2015) X9 dL_law_2015 ?_
      refine a_lald (pc := 2016) X9 (atO hnn) (Nat.le_of_ble_eq_true rfl) (j := 0) rfl (Nat.le_of_ble_eq_true rfl) dL_law_2016 ?_
      refine a_iload (pc := 2017) X9 dL_law_2017 rfl ?_
      refine a_i2l (pc := 2019) X9 dL_law_2019 hr_2 ?_
      refine b_lcmp (pc := 2020) X9 dL_law_2020 (inR_inL (hG_2 _ _)) (inR_inL hr_2) ?_
      refine a_if_eq (pc := 2021) (tgt := 2026) X9 dL_law_2021 rfl lcv_inR (fun c => ?_) (fun c => ?_)
      · have c_3 : (G_2 285 0) = r_2 := lcv_eq.mp c
        have h := h.1 c_3
        refine a_goto (pc := 2026) (tgt := 2618) X9 dL_law_2026 rfl ?_
        refine AW.widen (cb' := cb + 4) (sb' := sb + 24) (by omega) (by omega) ?_
        refine AW.drop 5 rfl ?_
        refine AW.drop 6 rfl ?_
        exact hK _ h hG_2
      · have c_3 : (G_2 285 0) ≠ r_2 := fun e => c (lcv_eq.mpr e)
        have h := h.2 c_3
        refine a_iconst (pc := 2024) X9 dL_law_2024 ?_
        exact h.elim
  · have c_1 := c
    have h := h.2 c_1
    refine a_iconst (pc := 2007) X9 dL_law_2007 ?_
    exact h.elim
set_option maxHeartbeats 4000000 in
set_option maxRecDepth 100000 in
theorem m_law_35 {κ : Cx} {δ : Dx} {ρ0 : Nat → Nat} {n0 cb sb nn L : Nat} {xs : Nat → Int32} {i4 : Int} {G : GH} {K : GH → Prop} (X9 : CX κ δ RL cL_law 9 ret) (E : RmL κ) (LX : LawX κ δ ρ0 L xs) (hnn : 286 ≤ nn) (hi4 : inR i4) (hG : GR G) (hcb : cb + 4 ≤ 601024 ∧ sb + 24 ≤ 7293033) (hK : ∀ G9, K G9 → GR G9 → AW κ δ ρ0 n0 9 (cb + 4) (sb + 24) 2618 [some (vr (strB + 30)), some (vr 0), some (vr 272), some (vr 285), some (vi i4), none, none, none, none] [] (SF nn) G9) (h : f_law_35 L xs i4 G K) : AW κ δ ρ0 n0 9 cb sb 2029 [some (vr (strB + 30)), some (vr 0), some (vr 272), some (vr 285), some (vi i4), none, none, none, none] [] (SF nn) G := by
  have hnn0 : 272 ≤ nn := by omega
  have hnn1 : 285 ≤ nn := by omega
  refine a_aload_n (pc := 2029) X9 dL_law_2029 rfl rfl ?_
  refine a_aload_n (pc := 2030) X9 dL_law_2030 rfl rfl ?_
  refine a_iload (pc := 2031) X9 dL_law_2031 rfl ?_
  refine a_iconst (pc := 2033) X9 dL_law_2033 ?_
  refine a_iadd (pc := 2034) X9 dL_law_2034 ?_
  obtain ⟨g_1, h⟩ := h
  refine b_scr (pc := 2035) X9 LX g_1 dL_law_2035 ?_
  refine joinM1 (A := fun v_1 => (v_1 = 0 ∨ v_1 = 1) → AW κ δ ρ0 n0 9 (cb + 0) (sb + 0) 2044 [some (vr (strB + 30)), some (vr 0), some (vr 272), some (vr 285), some (vi i4), none, none, none, none] [vi v_1, vr 0] (SF nn) G) (fun v_1 h h_v_1 => ?_) (fun j_1 hj_1 h => ?_) h
  · refine a_callVL (pc := 2044) X9 E (m_X9_setTurn (bool_inR h_v_1) hnn0 h) okX9 (is9 hnn0) wM_L_243 w_instanceMethod_X9_setTurn w_selects_X9_setTurn w_initialized_RX9 w_code_X9_setTurn cp_X9_setTurn pn_X9_setTurn rfl (Nat.le_of_ble_eq_true rfl) ⟨Nat.le_of_ble_eq_true rfl, Nat.le_of_ble_eq_true rfl⟩ ⟨by omega, by omega⟩ dL_law_2044 (kZ (fun r_1 G_1 hr_1 h hG_1 => ?_))
    refine a_aload_n (pc := 2047) X9 dL_law_2047 rfl rfl ?_
    refine a_aload_n (pc := 2048) X9 dL_law_2048 rfl rfl ?_
    refine a_iload (pc := 2049) X9 dL_law_2049 rfl ?_
    refine a_iconst (pc := 2051) X9 dL_law_2051 ?_
    refine a_iadd (pc := 2052) X9 dL_law_2052 ?_
    refine b_scr (pc := 2053) X9 LX g_1 dL_law_2053 ?_
    refine joinM1 (A := fun v_2 => (v_2 = 0 ∨ v_2 = 1) → AW κ δ ρ0 n0 9 (cb + 0) (sb + 0) 2062 [some (vr (strB + 30)), some (vr 0), some (vr 272), some (vr 285), some (vi i4), none, none, none, none] [vi v_2, vr 272, vi r_1] (SF nn) G_1) (fun v_2 h h_v_2 => ?_) (fun j_2 hj_2 h => ?_) h
    · refine a_callVL (pc := 2062) X9 E (m_X10_setTurn (bool_inR h_v_2) hnn1 h) okX10 (is10 hnn1) wM_L_247 w_instanceMethod_X10_setTurn w_selects_X10_setTurn w_initialized_RX10 w_code_X10_setTurn cp_X10_setTurn pn_X10_setTurn rfl (Nat.le_of_ble_eq_true rfl) ⟨Nat.le_of_ble_eq_true rfl, Nat.le_of_ble_eq_true rfl⟩ ⟨by omega, by omega⟩ dL_law_2062 (kZ (fun r_2 G_2 hr_2 h hG_2 => ?_))
      refine a_icmp_eq (pc := 2065) (tgt := 2618) X9 dL_law_2065 rfl (bool_inR hr_1) (bool_inR hr_2) (fun c => ?_) (fun c => ?_)
      · have c_3 := c
        have h := h.1 c_3
        refine AW.widen (cb' := cb + 4) (sb' := sb + 24) (by omega) (by omega) ?_
        exact hK _ h hG_2
      · have c_3 := c
        have h := h.2 c_3
        refine a_iconst (pc := 2068) X9 dL_law_2068 ?_
        exact h.elim
    · refine a_if_eq (pc := 2054) (tgt := 2061) X9 dL_law_2054 rfl (inR_toInt _) (fun c => ?_) (fun c => ?_)
      · have c_4 := c
        have h := h.1 c_4
        refine a_iconst (pc := 2061) X9 dL_law_2061 ?_
        exact hj_2 _ h (Or.inl rfl)
      · have c_4 := c
        have h := h.2 c_4
        refine a_iconst (pc := 2057) X9 dL_law_2057 ?_
        refine a_goto (pc := 2058) (tgt := 2062) X9 dL_law_2058 rfl ?_
        exact hj_2 _ h (Or.inr rfl)
  · refine a_if_eq (pc := 2036) (tgt := 2043) X9 dL_law_2036 rfl (inR_toInt _) (fun c => ?_) (fun c => ?_)
    · have c_5 := c
      have h := h.1 c_5
      refine a_iconst (pc := 2043) X9 dL_law_2043 ?_
      exact hj_1 _ h (Or.inl rfl)
    · have c_5 := c
      have h := h.2 c_5
      refine a_iconst (pc := 2039) X9 dL_law_2039 ?_
      refine a_goto (pc := 2040) (tgt := 2044) X9 dL_law_2040 rfl ?_
      exact hj_1 _ h (Or.inr rfl)
set_option maxHeartbeats 4000000 in
set_option maxRecDepth 100000 in
theorem m_law_36 {κ : Cx} {δ : Dx} {ρ0 : Nat → Nat} {n0 cb sb nn L : Nat} {xs : Nat → Int32} {i4 : Int} {G : GH} {K : GH → Prop} (X9 : CX κ δ RL cL_law 9 ret) (E : RmL κ) (LX : LawX κ δ ρ0 L xs) (hnn : 286 ≤ nn) (hi4 : inR i4) (hG : GR G) (hcb : cb + 4 ≤ 601024 ∧ sb + 24 ≤ 7293033) (hK : ∀ G9, K G9 → GR G9 → AW κ δ ρ0 n0 9 (cb + 4) (sb + 24) 2618 [some (vr (strB + 30)), some (vr 0), some (vr 272), some (vr 285), some (vi i4), none, none, none, none] [] (SF nn) G9) (h : f_law_36 L xs i4 G K) : AW κ δ ρ0 n0 9 cb sb 2070 [some (vr (strB + 30)), some (vr 0), some (vr 272), some (vr 285), some (vi i4), none, none, none, none] [] (SF nn) G := by
  have hnn0 : 272 ≤ nn := by omega
  have hnn1 : 285 ≤ nn := by omega
  refine a_aload_n (pc := 2070) X9 dL_law_2070 rfl rfl ?_
  refine a_aload_n (pc := 2071) X9 dL_law_2071 rfl rfl ?_
  refine a_iload (pc := 2072) X9 dL_law_2072 rfl ?_
  refine a_iconst (pc := 2074) X9 dL_law_2074 ?_
  refine a_iadd (pc := 2075) X9 dL_law_2075 ?_
  obtain ⟨g_1, h⟩ := h
  refine b_scr (pc := 2076) X9 LX g_1 dL_law_2076 ?_
  refine joinM1 (A := fun v_1 => (v_1 = 0 ∨ v_1 = 1) → AW κ δ ρ0 n0 9 (cb + 0) (sb + 0) 2085 [some (vr (strB + 30)), some (vr 0), some (vr 272), some (vr 285), some (vi i4), none, none, none, none] [vi v_1, vr 0] (SF nn) G) (fun v_1 h h_v_1 => ?_) (fun j_1 hj_1 h => ?_) h
  · refine a_callVL (pc := 2085) X9 E (m_X9_setSplit (bool_inR h_v_1) hnn0 h) okX9 (is9 hnn0) wM_L_248 w_instanceMethod_X9_setSplit w_selects_X9_setSplit w_initialized_RX9 w_code_X9_setSplit cp_X9_setSplit pn_X9_setSplit rfl (Nat.le_of_ble_eq_true rfl) ⟨Nat.le_of_ble_eq_true rfl, Nat.le_of_ble_eq_true rfl⟩ ⟨by omega, by omega⟩ dL_law_2085 (kZ (fun r_1 G_1 hr_1 h hG_1 => ?_))
    refine a_aload_n (pc := 2088) X9 dL_law_2088 rfl rfl ?_
    refine a_aload_n (pc := 2089) X9 dL_law_2089 rfl rfl ?_
    refine a_iload (pc := 2090) X9 dL_law_2090 rfl ?_
    refine a_iconst (pc := 2092) X9 dL_law_2092 ?_
    refine a_iadd (pc := 2093) X9 dL_law_2093 ?_
    refine b_scr (pc := 2094) X9 LX g_1 dL_law_2094 ?_
    refine joinM1 (A := fun v_2 => (v_2 = 0 ∨ v_2 = 1) → AW κ δ ρ0 n0 9 (cb + 0) (sb + 0) 2103 [some (vr (strB + 30)), some (vr 0), some (vr 272), some (vr 285), some (vi i4), none, none, none, none] [vi v_2, vr 272, vi r_1] (SF nn) G_1) (fun v_2 h h_v_2 => ?_) (fun j_2 hj_2 h => ?_) h
    · refine a_callVL (pc := 2103) X9 E (m_X10_setSplit (bool_inR h_v_2) hnn1 h) okX10 (is10 hnn1) wM_L_251 w_instanceMethod_X10_setSplit w_selects_X10_setSplit w_initialized_RX10 w_code_X10_setSplit cp_X10_setSplit pn_X10_setSplit rfl (Nat.le_of_ble_eq_true rfl) ⟨Nat.le_of_ble_eq_true rfl, Nat.le_of_ble_eq_true rfl⟩ ⟨by omega, by omega⟩ dL_law_2103 (kZ (fun r_2 G_2 hr_2 h hG_2 => ?_))
      refine a_icmp_eq (pc := 2106) (tgt := 2618) X9 dL_law_2106 rfl (bool_inR hr_1) (bool_inR hr_2) (fun c => ?_) (fun c => ?_)
      · have c_3 := c
        have h := h.1 c_3
        refine AW.widen (cb' := cb + 4) (sb' := sb + 24) (by omega) (by omega) ?_
        exact hK _ h hG_2
      · have c_3 := c
        have h := h.2 c_3
        refine a_iconst (pc := 2109) X9 dL_law_2109 ?_
        exact h.elim
    · refine a_if_eq (pc := 2095) (tgt := 2102) X9 dL_law_2095 rfl (inR_toInt _) (fun c => ?_) (fun c => ?_)
      · have c_4 := c
        have h := h.1 c_4
        refine a_iconst (pc := 2102) X9 dL_law_2102 ?_
        exact hj_2 _ h (Or.inl rfl)
      · have c_4 := c
        have h := h.2 c_4
        refine a_iconst (pc := 2098) X9 dL_law_2098 ?_
        refine a_goto (pc := 2099) (tgt := 2103) X9 dL_law_2099 rfl ?_
        exact hj_2 _ h (Or.inr rfl)
  · refine a_if_eq (pc := 2077) (tgt := 2084) X9 dL_law_2077 rfl (inR_toInt _) (fun c => ?_) (fun c => ?_)
    · have c_5 := c
      have h := h.1 c_5
      refine a_iconst (pc := 2084) X9 dL_law_2084 ?_
      exact hj_1 _ h (Or.inl rfl)
    · have c_5 := c
      have h := h.2 c_5
      refine a_iconst (pc := 2080) X9 dL_law_2080 ?_
      refine a_goto (pc := 2081) (tgt := 2085) X9 dL_law_2081 rfl ?_
      exact hj_1 _ h (Or.inr rfl)
set_option maxHeartbeats 4000000 in
set_option maxRecDepth 100000 in
theorem m_law_37 {κ : Cx} {δ : Dx} {ρ0 : Nat → Nat} {n0 cb sb nn L : Nat} {xs : Nat → Int32} {i4 : Int} {G : GH} {K : GH → Prop} (X9 : CX κ δ RL cL_law 9 ret) (E : RmL κ) (LX : LawX κ δ ρ0 L xs) (hnn : 286 ≤ nn) (hi4 : inR i4) (hG : GR G) (hcb : cb + 4 ≤ 601024 ∧ sb + 24 ≤ 7293033) (hK : ∀ G9, K G9 → GR G9 → AW κ δ ρ0 n0 9 (cb + 4) (sb + 24) 2618 [some (vr (strB + 30)), some (vr 0), some (vr 272), some (vr 285), some (vi i4), none, none, none, none] [] (SF nn) G9) (h : f_law_37 L xs i4 G K) : AW κ δ ρ0 n0 9 cb sb 2111 [some (vr (strB + 30)), some (vr 0), some (vr 272), some (vr 285), some (vi i4), none, none, none, none] [] (SF nn) G := by
  have hnn0 : 272 ≤ nn := by omega
  have hnn1 : 285 ≤ nn := by omega
  refine a_aload_n (pc := 2111) X9 dL_law_2111 rfl rfl ?_
  refine a_aload_n (pc := 2112) X9 dL_law_2112 rfl rfl ?_
  refine a_iload (pc := 2113) X9 dL_law_2113 rfl ?_
  refine a_iconst (pc := 2115) X9 dL_law_2115 ?_
  refine a_iadd (pc := 2116) X9 dL_law_2116 ?_
  obtain ⟨g_1, h⟩ := h
  refine b_scr (pc := 2117) X9 LX g_1 dL_law_2117 ?_
  refine a_aload_n (pc := 2118) X9 dL_law_2118 rfl rfl ?_
  refine a_iload (pc := 2119) X9 dL_law_2119 rfl ?_
  refine a_iconst (pc := 2121) X9 dL_law_2121 ?_
  refine a_iadd (pc := 2122) X9 dL_law_2122 ?_
  obtain ⟨g_2, h⟩ := h
  refine b_scr (pc := 2123) X9 LX g_2 dL_law_2123 ?_
  refine a_aload_n (pc := 2124) X9 dL_law_2124 rfl rfl ?_
  refine a_iload (pc := 2125) X9 dL_law_2125 rfl ?_
  refine a_iconst (pc := 2127) X9 dL_law_2127 ?_
  refine a_iadd (pc := 2128) X9 dL_law_2128 ?_
  obtain ⟨g_3, h⟩ := h
  refine b_scr (pc := 2129) X9 LX g_3 dL_law_2129 ?_
  refine a_aload_n (pc := 2130) X9 dL_law_2130 rfl rfl ?_
  refine a_callSL (pc := 2131) X9 E (m_L_setHymn (inR_toInt _) (inR_toInt _) (inR_toInt _) hnn h) wM_L_252 w_static_L_setHymn w_initialized_RL w_codeWith_L_setHymn cpL_setHymn pnL_setHymn rfl (Nat.le_of_ble_eq_true rfl) ⟨Nat.le_of_ble_eq_true rfl, Nat.le_of_ble_eq_true rfl⟩ ⟨by omega, by omega⟩ dL_law_2131 (kI (fun r_1 G_1 hr_1 h hG_1 => ?_))
  refine a_istore (pc := 2134) X9 dL_law_2134 (Nat.le_of_ble_eq_true rfl) rfl rfl ?_
  refine a_aload_n (pc := 2136) X9 dL_law_2136 rfl rfl ?_
  refine a_aload_n (pc := 2137) X9 dL_law_2137 rfl rfl ?_
  refine a_iload (pc := 2138) X9 dL_law_2138 rfl ?_
  refine a_iconst (pc := 2140) X9 dL_law_2140 ?_
  refine a_iadd (pc := 2141) X9 dL_law_2141 ?_
  refine b_scr (pc := 2142) X9 LX g_1 dL_law_2142 ?_
  refine a_aload_n (pc := 2143) X9 dL_law_2143 rfl rfl ?_
  refine a_iload (pc := 2144) X9 dL_law_2144 rfl ?_
  refine a_iconst (pc := 2146) X9 dL_law_2146 ?_
  refine a_iadd (pc := 2147) X9 dL_law_2147 ?_
  refine b_scr (pc := 2148) X9 LX g_2 dL_law_2148 ?_
  refine a_aload_n (pc := 2149) X9 dL_law_2149 rfl rfl ?_
  refine a_iload (pc := 2150) X9 dL_law_2150 rfl ?_
  refine a_iconst (pc := 2152) X9 dL_law_2152 ?_
  refine a_iadd (pc := 2153) X9 dL_law_2153 ?_
  refine b_scr (pc := 2154) X9 LX g_3 dL_law_2154 ?_
  refine a_callVL (pc := 2155) X9 E (m_X10_setHymn (inR_toInt _) (inR_toInt _) (inR_toInt _) hnn1 h) okX10 (is10 hnn1) wM_L_254 w_instanceMethod_X10_setHymn w_selects_X10_setHymn w_initialized_RX10 w_code_X10_setHymn cp_X10_setHymn pn_X10_setHymn rfl (Nat.le_of_ble_eq_true rfl) ⟨Nat.le_of_ble_eq_true rfl, Nat.le_of_ble_eq_true rfl⟩ ⟨by omega, by omega⟩ dL_law_2155 (kI (fun r_2 G_2 hr_2 h hG_2 => ?_))
  refine a_istore (pc := 2158) X9 dL_law_2158 (Nat.le_of_ble_eq_true rfl) rfl rfl ?_
  refine a_aload_n (pc := 2160) X9 dL_law_2160 rfl rfl ?_
  refine a_callVL (pc := 2161) X9 E (m_X10_thrown  hnn1 h) okX10 (is10 hnn1) wM_L_141 w_instanceMethod_X10_thrown w_selects_X10_thrown w_initialized_RX10 w_code_X10_thrown cp_X10_thrown pn_X10_thrown rfl (Nat.le_of_ble_eq_true rfl) ⟨Nat.le_of_ble_eq_true rfl, Nat.le_of_ble_eq_true rfl⟩ ⟨by omega, by omega⟩ dL_law_2161 (kIp (fun r_3 hr_3 h => ?_))
  refine a_iload (pc := 2164) X9 dL_law_2164 rfl ?_
  refine a_icmp_eq (pc := 2166) (tgt := 2171) X9 dL_law_2166 rfl hr_3 hr_1 (fun c => ?_) (fun c => ?_)
  · have c_1 := c
    have h := h.1 c_1
    refine a_iload (pc := 2171) X9 dL_law_2171 rfl ?_
    refine a_if_ne (pc := 2173) (tgt := 2188) X9 dL_law_2173 rfl hr_1 (fun c => ?_) (fun c => ?_)
    · have c_2 := c
      have h := h.1 c_2
      refine a_goto (pc := 2188) (tgt := 2618) X9 dL_law_2188 rfl ?_
      refine AW.widen (cb' := cb + 4) (sb' := sb + 24) (by omega) (by omega) ?_
      refine AW.drop 5 rfl ?_
      refine AW.drop 6 rfl ?_
      exact hK _ h hG_2
    · have c_2 := c
      have h := h.2 c_2
      refine a_aload_n (pc := 2176) X9 dL_law_2176 rfl rfl ?_
      refine a_iconst (pc := 2177) X9 dL_law_2177 ?_
      refine a_lald (pc := 2178) X9 (atO hnn) (Nat.le_of_ble_eq_true rfl) (j := 0) rfl (Nat.le_of_ble_eq_true rfl) dL_law_2178 ?_
      refine a_iload (pc := 2179) X9 dL_law_2179 rfl ?_
      refine a_i2l (pc := 2181) X9 dL_law_2181 hr_2 ?_
      refine b_lcmp (pc := 2182) X9 dL_law_2182 (inR_inL (hG_2 _ _)) (inR_inL hr_2) ?_
      refine a_if_eq (pc := 2183) (tgt := 2188) X9 dL_law_2183 rfl lcv_inR (fun c => ?_) (fun c => ?_)
      · have c_3 : (G_2 285 0) = r_2 := lcv_eq.mp c
        have h := h.1 c_3
        refine a_goto (pc := 2188) (tgt := 2618) X9 dL_law_2188 rfl ?_
        refine AW.widen (cb' := cb + 4) (sb' := sb + 24) (by omega) (by omega) ?_
        refine AW.drop 5 rfl ?_
        refine AW.drop 6 rfl ?_
        exact hK _ h hG_2
      · have c_3 : (G_2 285 0) ≠ r_2 := fun e => c (lcv_eq.mpr e)
        have h := h.2 c_3
        refine a_iconst (pc := 2186) X9 dL_law_2186 ?_
        exact h.elim
  · have c_1 := c
    have h := h.2 c_1
    refine a_iconst (pc := 2169) X9 dL_law_2169 ?_
    exact h.elim
set_option maxHeartbeats 4000000 in
set_option maxRecDepth 100000 in
theorem m_law_38 {κ : Cx} {δ : Dx} {ρ0 : Nat → Nat} {n0 cb sb nn L : Nat} {xs : Nat → Int32} {i4 : Int} {G : GH} {K : GH → Prop} (X9 : CX κ δ RL cL_law 9 ret) (E : RmL κ) (LX : LawX κ δ ρ0 L xs) (hnn : 286 ≤ nn) (hi4 : inR i4) (hG : GR G) (hcb : cb + 4 ≤ 601024 ∧ sb + 24 ≤ 7293033) (hK : ∀ G9, K G9 → GR G9 → AW κ δ ρ0 n0 9 (cb + 4) (sb + 24) 2618 [some (vr (strB + 30)), some (vr 0), some (vr 272), some (vr 285), some (vi i4), none, none, none, none] [] (SF nn) G9) (h : f_law_38 L xs i4 G K) : AW κ δ ρ0 n0 9 cb sb 2191 [some (vr (strB + 30)), some (vr 0), some (vr 272), some (vr 285), some (vi i4), none, none, none, none] [] (SF nn) G := by
  have hnn0 : 272 ≤ nn := by omega
  have hnn1 : 285 ≤ nn := by omega
  refine a_aload_n (pc := 2191) X9 dL_law_2191 rfl rfl ?_
  refine a_aload_n (pc := 2192) X9 dL_law_2192 rfl rfl ?_
  refine a_iload (pc := 2193) X9 dL_law_2193 rfl ?_
  refine a_iconst (pc := 2195) X9 dL_law_2195 ?_
  refine a_iadd (pc := 2196) X9 dL_law_2196 ?_
  obtain ⟨g_1, h⟩ := h
  refine b_scr (pc := 2197) X9 LX g_1 dL_law_2197 ?_
  refine a_aload_n (pc := 2198) X9 dL_law_2198 rfl rfl ?_
  refine a_iload (pc := 2199) X9 dL_law_2199 rfl ?_
  refine a_iconst (pc := 2201) X9 dL_law_2201 ?_
  refine a_iadd (pc := 2202) X9 dL_law_2202 ?_
  obtain ⟨g_2, h⟩ := h
  refine b_scr (pc := 2203) X9 LX g_2 dL_law_2203 ?_
  refine a_aload_n (pc := 2204) X9 dL_law_2204 rfl rfl ?_
  refine a_callSL (pc := 2205) X9 E (m_L_addHymn (inR_toInt _) (inR_toInt _) hnn h) wM_L_255 w_static_L_addHymn w_initialized_RL w_codeWith_L_addHymn cpL_addHymn pnL_addHymn rfl (Nat.le_of_ble_eq_true rfl) ⟨Nat.le_of_ble_eq_true rfl, Nat.le_of_ble_eq_true rfl⟩ ⟨by omega, by omega⟩ dL_law_2205 (kI (fun r_1 G_1 hr_1 h hG_1 => ?_))
  refine a_istore (pc := 2208) X9 dL_law_2208 (Nat.le_of_ble_eq_true rfl) rfl rfl ?_
  refine a_aload_n (pc := 2210) X9 dL_law_2210 rfl rfl ?_
  refine a_aload_n (pc := 2211) X9 dL_law_2211 rfl rfl ?_
  refine a_iload (pc := 2212) X9 dL_law_2212 rfl ?_
  refine a_iconst (pc := 2214) X9 dL_law_2214 ?_
  refine a_iadd (pc := 2215) X9 dL_law_2215 ?_
  refine b_scr (pc := 2216) X9 LX g_1 dL_law_2216 ?_
  refine a_aload_n (pc := 2217) X9 dL_law_2217 rfl rfl ?_
  refine a_iload (pc := 2218) X9 dL_law_2218 rfl ?_
  refine a_iconst (pc := 2220) X9 dL_law_2220 ?_
  refine a_iadd (pc := 2221) X9 dL_law_2221 ?_
  refine b_scr (pc := 2222) X9 LX g_2 dL_law_2222 ?_
  refine a_callVL (pc := 2223) X9 E (m_X10_addHymn (inR_toInt _) (inR_toInt _) hnn1 h) okX10 (is10 hnn1) wM_L_257 w_instanceMethod_X10_addHymn w_selects_X10_addHymn w_initialized_RX10 w_code_X10_addHymn cp_X10_addHymn pn_X10_addHymn rfl (Nat.le_of_ble_eq_true rfl) ⟨Nat.le_of_ble_eq_true rfl, Nat.le_of_ble_eq_true rfl⟩ ⟨by omega, by omega⟩ dL_law_2223 (kI (fun r_2 G_2 hr_2 h hG_2 => ?_))
  refine a_istore (pc := 2226) X9 dL_law_2226 (Nat.le_of_ble_eq_true rfl) rfl rfl ?_
  refine a_aload_n (pc := 2228) X9 dL_law_2228 rfl rfl ?_
  refine a_callVL (pc := 2229) X9 E (m_X10_thrown  hnn1 h) okX10 (is10 hnn1) wM_L_141 w_instanceMethod_X10_thrown w_selects_X10_thrown w_initialized_RX10 w_code_X10_thrown cp_X10_thrown pn_X10_thrown rfl (Nat.le_of_ble_eq_true rfl) ⟨Nat.le_of_ble_eq_true rfl, Nat.le_of_ble_eq_true rfl⟩ ⟨by omega, by omega⟩ dL_law_2229 (kIp (fun r_3 hr_3 h => ?_))
  refine a_iload (pc := 2232) X9 dL_law_2232 rfl ?_
  refine a_icmp_eq (pc := 2234) (tgt := 2239) X9 dL_law_2234 rfl hr_3 hr_1 (fun c => ?_) (fun c => ?_)
  · have c_1 := c
    have h := h.1 c_1
    refine a_iload (pc := 2239) X9 dL_law_2239 rfl ?_
    refine a_if_ne (pc := 2241) (tgt := 2256) X9 dL_law_2241 rfl hr_1 (fun c => ?_) (fun c => ?_)
    · have c_2 := c
      have h := h.1 c_2
      refine a_goto (pc := 2256) (tgt := 2618) X9 dL_law_2256 rfl ?_
      refine AW.widen (cb' := cb + 4) (sb' := sb + 24) (by omega) (by omega) ?_
      refine AW.drop 5 rfl ?_
      refine AW.drop 6 rfl ?_
      exact hK _ h hG_2
    · have c_2 := c
      have h := h.2 c_2
      refine a_aload_n (pc := 2244) X9 dL_law_2244 rfl rfl ?_
      refine a_iconst (pc := 2245) X9 dL_law_2245 ?_
      refine a_lald (pc := 2246) X9 (atO hnn) (Nat.le_of_ble_eq_true rfl) (j := 0) rfl (Nat.le_of_ble_eq_true rfl) dL_law_2246 ?_
      refine a_iload (pc := 2247) X9 dL_law_2247 rfl ?_
      refine a_i2l (pc := 2249) X9 dL_law_2249 hr_2 ?_
      refine b_lcmp (pc := 2250) X9 dL_law_2250 (inR_inL (hG_2 _ _)) (inR_inL hr_2) ?_
      refine a_if_eq (pc := 2251) (tgt := 2256) X9 dL_law_2251 rfl lcv_inR (fun c => ?_) (fun c => ?_)
      · have c_3 : (G_2 285 0) = r_2 := lcv_eq.mp c
        have h := h.1 c_3
        refine a_goto (pc := 2256) (tgt := 2618) X9 dL_law_2256 rfl ?_
        refine AW.widen (cb' := cb + 4) (sb' := sb + 24) (by omega) (by omega) ?_
        refine AW.drop 5 rfl ?_
        refine AW.drop 6 rfl ?_
        exact hK _ h hG_2
      · have c_3 : (G_2 285 0) ≠ r_2 := fun e => c (lcv_eq.mpr e)
        have h := h.2 c_3
        refine a_iconst (pc := 2254) X9 dL_law_2254 ?_
        exact h.elim
  · have c_1 := c
    have h := h.2 c_1
    refine a_iconst (pc := 2237) X9 dL_law_2237 ?_
    exact h.elim
set_option maxHeartbeats 4000000 in
set_option maxRecDepth 100000 in
theorem m_law_39 {κ : Cx} {δ : Dx} {ρ0 : Nat → Nat} {n0 cb sb nn L : Nat} {xs : Nat → Int32} {i4 : Int} {G : GH} {K : GH → Prop} (X9 : CX κ δ RL cL_law 9 ret) (E : RmL κ) (LX : LawX κ δ ρ0 L xs) (hnn : 286 ≤ nn) (hi4 : inR i4) (hG : GR G) (hcb : cb + 4 ≤ 601024 ∧ sb + 24 ≤ 7293033) (hK : ∀ G9, K G9 → GR G9 → AW κ δ ρ0 n0 9 (cb + 4) (sb + 24) 2618 [some (vr (strB + 30)), some (vr 0), some (vr 272), some (vr 285), some (vi i4), none, none, none, none] [] (SF nn) G9) (h : f_law_39 L xs i4 G K) : AW κ δ ρ0 n0 9 cb sb 2259 [some (vr (strB + 30)), some (vr 0), some (vr 272), some (vr 285), some (vi i4), none, none, none, none] [] (SF nn) G := by
  have hnn0 : 272 ≤ nn := by omega
  have hnn1 : 285 ≤ nn := by omega
  refine a_aload_n (pc := 2259) X9 dL_law_2259 rfl rfl ?_
  refine a_aload_n (pc := 2260) X9 dL_law_2260 rfl rfl ?_
  refine a_iload (pc := 2261) X9 dL_law_2261 rfl ?_
  refine a_iconst (pc := 2263) X9 dL_law_2263 ?_
  refine a_iadd (pc := 2264) X9 dL_law_2264 ?_
  obtain ⟨g_1, h⟩ := h
  refine b_scr (pc := 2265) X9 LX g_1 dL_law_2265 ?_
  refine a_aload_n (pc := 2266) X9 dL_law_2266 rfl rfl ?_
  refine a_callSL (pc := 2267) X9 E (m_L_addService (inR_toInt _) hnn h) wM_L_258 w_static_L_addService w_initialized_RL w_codeWith_L_addService cpL_addService pnL_addService rfl (Nat.le_of_ble_eq_true rfl) ⟨Nat.le_of_ble_eq_true rfl, Nat.le_of_ble_eq_true rfl⟩ ⟨by omega, by omega⟩ dL_law_2267 (kI (fun r_1 G_1 hr_1 h hG_1 => ?_))
  refine a_istore (pc := 2270) X9 dL_law_2270 (Nat.le_of_ble_eq_true rfl) rfl rfl ?_
  refine a_aload_n (pc := 2272) X9 dL_law_2272 rfl rfl ?_
  refine a_aload_n (pc := 2273) X9 dL_law_2273 rfl rfl ?_
  refine a_iload (pc := 2274) X9 dL_law_2274 rfl ?_
  refine a_iconst (pc := 2276) X9 dL_law_2276 ?_
  refine a_iadd (pc := 2277) X9 dL_law_2277 ?_
  refine b_scr (pc := 2278) X9 LX g_1 dL_law_2278 ?_
  refine a_callVL (pc := 2279) X9 E (m_X10_addService (inR_toInt _) hnn1 h) okX10 (is10 hnn1) wM_L_260 w_instanceMethod_X10_addService w_selects_X10_addService w_initialized_RX10 w_code_X10_addService cp_X10_addService pn_X10_addService rfl (Nat.le_of_ble_eq_true rfl) ⟨Nat.le_of_ble_eq_true rfl, Nat.le_of_ble_eq_true rfl⟩ ⟨by omega, by omega⟩ dL_law_2279 (kI (fun r_2 G_2 hr_2 h hG_2 => ?_))
  refine a_istore (pc := 2282) X9 dL_law_2282 (Nat.le_of_ble_eq_true rfl) rfl rfl ?_
  refine a_aload_n (pc := 2284) X9 dL_law_2284 rfl rfl ?_
  refine a_callVL (pc := 2285) X9 E (m_X10_thrown  hnn1 h) okX10 (is10 hnn1) wM_L_141 w_instanceMethod_X10_thrown w_selects_X10_thrown w_initialized_RX10 w_code_X10_thrown cp_X10_thrown pn_X10_thrown rfl (Nat.le_of_ble_eq_true rfl) ⟨Nat.le_of_ble_eq_true rfl, Nat.le_of_ble_eq_true rfl⟩ ⟨by omega, by omega⟩ dL_law_2285 (kIp (fun r_3 hr_3 h => ?_))
  refine a_iload (pc := 2288) X9 dL_law_2288 rfl ?_
  refine a_icmp_eq (pc := 2290) (tgt := 2295) X9 dL_law_2290 rfl hr_3 hr_1 (fun c => ?_) (fun c => ?_)
  · have c_1 := c
    have h := h.1 c_1
    refine a_iload (pc := 2295) X9 dL_law_2295 rfl ?_
    refine a_if_ne (pc := 2297) (tgt := 2312) X9 dL_law_2297 rfl hr_1 (fun c => ?_) (fun c => ?_)
    · have c_2 := c
      have h := h.1 c_2
      refine a_goto (pc := 2312) (tgt := 2618) X9 dL_law_2312 rfl ?_
      refine AW.widen (cb' := cb + 4) (sb' := sb + 24) (by omega) (by omega) ?_
      refine AW.drop 5 rfl ?_
      refine AW.drop 6 rfl ?_
      exact hK _ h hG_2
    · have c_2 := c
      have h := h.2 c_2
      refine a_aload_n (pc := 2300) X9 dL_law_2300 rfl rfl ?_
      refine a_iconst (pc := 2301) X9 dL_law_2301 ?_
      refine a_lald (pc := 2302) X9 (atO hnn) (Nat.le_of_ble_eq_true rfl) (j := 0) rfl (Nat.le_of_ble_eq_true rfl) dL_law_2302 ?_
      refine a_iload (pc := 2303) X9 dL_law_2303 rfl ?_
      refine a_i2l (pc := 2305) X9 dL_law_2305 hr_2 ?_
      refine b_lcmp (pc := 2306) X9 dL_law_2306 (inR_inL (hG_2 _ _)) (inR_inL hr_2) ?_
      refine a_if_eq (pc := 2307) (tgt := 2312) X9 dL_law_2307 rfl lcv_inR (fun c => ?_) (fun c => ?_)
      · have c_3 : (G_2 285 0) = r_2 := lcv_eq.mp c
        have h := h.1 c_3
        refine a_goto (pc := 2312) (tgt := 2618) X9 dL_law_2312 rfl ?_
        refine AW.widen (cb' := cb + 4) (sb' := sb + 24) (by omega) (by omega) ?_
        refine AW.drop 5 rfl ?_
        refine AW.drop 6 rfl ?_
        exact hK _ h hG_2
      · have c_3 : (G_2 285 0) ≠ r_2 := fun e => c (lcv_eq.mpr e)
        have h := h.2 c_3
        refine a_iconst (pc := 2310) X9 dL_law_2310 ?_
        exact h.elim
  · have c_1 := c
    have h := h.2 c_1
    refine a_iconst (pc := 2293) X9 dL_law_2293 ?_
    exact h.elim
set_option maxHeartbeats 4000000 in
set_option maxRecDepth 100000 in
theorem m_law_40 {κ : Cx} {δ : Dx} {ρ0 : Nat → Nat} {n0 cb sb nn L : Nat} {xs : Nat → Int32} {i4 : Int} {G : GH} {K : GH → Prop} (X9 : CX κ δ RL cL_law 9 ret) (E : RmL κ) (LX : LawX κ δ ρ0 L xs) (hnn : 286 ≤ nn) (hi4 : inR i4) (hG : GR G) (hcb : cb + 4 ≤ 601024 ∧ sb + 24 ≤ 7293033) (hK : ∀ G9, K G9 → GR G9 → AW κ δ ρ0 n0 9 (cb + 4) (sb + 24) 2618 [some (vr (strB + 30)), some (vr 0), some (vr 272), some (vr 285), some (vi i4), none, none, none, none] [] (SF nn) G9) (h : f_law_40 L xs i4 G K) : AW κ δ ρ0 n0 9 cb sb 2315 [some (vr (strB + 30)), some (vr 0), some (vr 272), some (vr 285), some (vi i4), none, none, none, none] [] (SF nn) G := by
  have hnn0 : 272 ≤ nn := by omega
  have hnn1 : 285 ≤ nn := by omega
  refine a_aload_n (pc := 2315) X9 dL_law_2315 rfl rfl ?_
  refine a_callVL (pc := 2316) X9 E (m_X9_luck  hnn0 h) okX9 (is9 hnn0) wM_L_261 w_instanceMethod_X9_luck w_selects_X9_luck w_initialized_RX9 w_code_X9_luck cp_X9_luck pn_X9_luck rfl (Nat.le_of_ble_eq_true rfl) ⟨Nat.le_of_ble_eq_true rfl, Nat.le_of_ble_eq_true rfl⟩ ⟨by omega, by omega⟩ dL_law_2316 (kDp (fun r_1 h => ?_))
  refine a_dstore (pc := 2319) X9 dL_law_2319 (Nat.le_of_ble_eq_true rfl) rfl rfl ?_
  refine a_aload_n (pc := 2321) X9 dL_law_2321 rfl rfl ?_
  refine a_callVL (pc := 2322) X9 E (m_X10_luck  hnn1 h) okX10 (is10 hnn1) wM_L_265 w_instanceMethod_X10_luck w_selects_X10_luck w_initialized_RX10 w_code_X10_luck cp_X10_luck pn_X10_luck rfl (Nat.le_of_ble_eq_true rfl) ⟨Nat.le_of_ble_eq_true rfl, Nat.le_of_ble_eq_true rfl⟩ ⟨by omega, by omega⟩ dL_law_2322 (kD (fun r_2 G_1 h hG_1 => ?_))
  refine a_dstore (pc := 2325) X9 dL_law_2325 (Nat.le_of_ble_eq_true rfl) rfl rfl ?_
  refine a_dload (pc := 2327) X9 dL_law_2327 rfl ?_
  refine a_dload (pc := 2329) X9 dL_law_2329 rfl ?_
  refine b_dcmp (pc := 2331) X9 dL_law_2331 ?_
  refine a_if_eq (pc := 2332) (tgt := 2353) X9 dL_law_2332 rfl dcv_inR (fun c => ?_) (fun c => ?_)
  · have c_1 := c
    have h := h.1 c_1
    refine a_goto (pc := 2353) (tgt := 2618) X9 dL_law_2353 rfl ?_
    refine AW.widen (cb' := cb + 4) (sb' := sb + 24) (by omega) (by omega) ?_
    refine AW.drop 5 rfl ?_
    refine AW.drop 7 rfl ?_
    exact hK _ h hG_1
  · have c_1 := c
    have h := h.2 c_1
    refine a_dload (pc := 2335) X9 dL_law_2335 rfl ?_
    refine a_dload (pc := 2337) X9 dL_law_2337 rfl ?_
    refine b_dcmp (pc := 2339) X9 dL_law_2339 ?_
    refine a_if_eq (pc := 2340) (tgt := 2351) X9 dL_law_2340 rfl dcv_inR (fun c => ?_) (fun c => ?_)
    · have c_2 := c
      have h := h.1 c_2
      refine a_iconst (pc := 2351) X9 dL_law_2351 ?_
      exact h.elim
    · have c_2 := c
      have h := h.2 c_2
      refine a_dload (pc := 2343) X9 dL_law_2343 rfl ?_
      refine a_dload (pc := 2345) X9 dL_law_2345 rfl ?_
      refine b_dcmp (pc := 2347) X9 dL_law_2347 ?_
      refine a_if_ne (pc := 2348) (tgt := 2353) X9 dL_law_2348 rfl dcv_inR (fun c => ?_) (fun c => ?_)
      · have c_3 := c
        have h := h.1 c_3
        refine a_goto (pc := 2353) (tgt := 2618) X9 dL_law_2353 rfl ?_
        refine AW.widen (cb' := cb + 4) (sb' := sb + 24) (by omega) (by omega) ?_
        refine AW.drop 5 rfl ?_
        refine AW.drop 7 rfl ?_
        exact hK _ h hG_1
      · have c_3 := c
        have h := h.2 c_3
        refine a_iconst (pc := 2351) X9 dL_law_2351 ?_
        exact h.elim
set_option maxHeartbeats 4000000 in
set_option maxRecDepth 100000 in
theorem m_law_41 {κ : Cx} {δ : Dx} {ρ0 : Nat → Nat} {n0 cb sb nn L : Nat} {xs : Nat → Int32} {i4 : Int} {G : GH} {K : GH → Prop} (X9 : CX κ δ RL cL_law 9 ret) (E : RmL κ) (LX : LawX κ δ ρ0 L xs) (hnn : 286 ≤ nn) (hi4 : inR i4) (hG : GR G) (hcb : cb + 4 ≤ 601024 ∧ sb + 24 ≤ 7293033) (hK : ∀ G9, K G9 → GR G9 → AW κ δ ρ0 n0 9 (cb + 4) (sb + 24) 2618 [some (vr (strB + 30)), some (vr 0), some (vr 272), some (vr 285), some (vi i4), none, none, none, none] [] (SF nn) G9) (h : f_law_41 L xs i4 G K) : AW κ δ ρ0 n0 9 cb sb 2356 [some (vr (strB + 30)), some (vr 0), some (vr 272), some (vr 285), some (vi i4), none, none, none, none] [] (SF nn) G := by
  have hnn0 : 272 ≤ nn := by omega
  have hnn1 : 285 ≤ nn := by omega
  refine a_aload_n (pc := 2356) X9 dL_law_2356 rfl rfl ?_
  refine a_callVL (pc := 2357) X9 E (m_X9_turned  hnn0 h) okX9 (is9 hnn0) wM_L_266 w_instanceMethod_X9_turned w_selects_X9_turned w_initialized_RX9 w_code_X9_turned cp_X9_turned pn_X9_turned rfl (Nat.le_of_ble_eq_true rfl) ⟨Nat.le_of_ble_eq_true rfl, Nat.le_of_ble_eq_true rfl⟩ ⟨by omega, by omega⟩ dL_law_2357 (kFp (fun r_1 h => ?_))
  obtain ⟨g_1, h⟩ := h
  refine a_f2d (pc := 2360) X9 dL_law_2360 g_1 ?_
  refine a_dstore (pc := 2361) X9 dL_law_2361 (Nat.le_of_ble_eq_true rfl) rfl rfl ?_
  refine a_aload_n (pc := 2363) X9 dL_law_2363 rfl rfl ?_
  refine a_callVL (pc := 2364) X9 E (m_X10_turned  hnn1 h) okX10 (is10 hnn1) wM_L_270 w_instanceMethod_X10_turned w_selects_X10_turned w_initialized_RX10 w_code_X10_turned cp_X10_turned pn_X10_turned rfl (Nat.le_of_ble_eq_true rfl) ⟨Nat.le_of_ble_eq_true rfl, Nat.le_of_ble_eq_true rfl⟩ ⟨by omega, by omega⟩ dL_law_2364 (kF (fun r_2 G_1 h hG_1 => ?_))
  obtain ⟨g_2, h⟩ := h
  refine a_f2d (pc := 2367) X9 dL_law_2367 g_2 ?_
  refine a_dstore (pc := 2368) X9 dL_law_2368 (Nat.le_of_ble_eq_true rfl) rfl rfl ?_
  refine a_dload (pc := 2370) X9 dL_law_2370 rfl ?_
  refine a_dload (pc := 2372) X9 dL_law_2372 rfl ?_
  refine b_dcmp (pc := 2374) X9 dL_law_2374 ?_
  refine a_if_eq (pc := 2375) (tgt := 2396) X9 dL_law_2375 rfl dcv_inR (fun c => ?_) (fun c => ?_)
  · have c_1 := c
    have h := h.1 c_1
    refine a_goto (pc := 2396) (tgt := 2618) X9 dL_law_2396 rfl ?_
    refine AW.widen (cb' := cb + 4) (sb' := sb + 24) (by omega) (by omega) ?_
    refine AW.drop 5 rfl ?_
    refine AW.drop 7 rfl ?_
    exact hK _ h hG_1
  · have c_1 := c
    have h := h.2 c_1
    refine a_dload (pc := 2378) X9 dL_law_2378 rfl ?_
    refine a_dload (pc := 2380) X9 dL_law_2380 rfl ?_
    refine b_dcmp (pc := 2382) X9 dL_law_2382 ?_
    refine a_if_eq (pc := 2383) (tgt := 2394) X9 dL_law_2383 rfl dcv_inR (fun c => ?_) (fun c => ?_)
    · have c_2 := c
      have h := h.1 c_2
      refine a_iconst (pc := 2394) X9 dL_law_2394 ?_
      exact h.elim
    · have c_2 := c
      have h := h.2 c_2
      refine a_dload (pc := 2386) X9 dL_law_2386 rfl ?_
      refine a_dload (pc := 2388) X9 dL_law_2388 rfl ?_
      refine b_dcmp (pc := 2390) X9 dL_law_2390 ?_
      refine a_if_ne (pc := 2391) (tgt := 2396) X9 dL_law_2391 rfl dcv_inR (fun c => ?_) (fun c => ?_)
      · have c_3 := c
        have h := h.1 c_3
        refine a_goto (pc := 2396) (tgt := 2618) X9 dL_law_2396 rfl ?_
        refine AW.widen (cb' := cb + 4) (sb' := sb + 24) (by omega) (by omega) ?_
        refine AW.drop 5 rfl ?_
        refine AW.drop 7 rfl ?_
        exact hK _ h hG_1
      · have c_3 := c
        have h := h.2 c_3
        refine a_iconst (pc := 2394) X9 dL_law_2394 ?_
        exact h.elim
set_option maxHeartbeats 4000000 in
set_option maxRecDepth 100000 in
theorem m_law_42 {κ : Cx} {δ : Dx} {ρ0 : Nat → Nat} {n0 cb sb nn L : Nat} {xs : Nat → Int32} {i4 : Int} {G : GH} {K : GH → Prop} (X9 : CX κ δ RL cL_law 9 ret) (E : RmL κ) (LX : LawX κ δ ρ0 L xs) (hnn : 286 ≤ nn) (hi4 : inR i4) (hG : GR G) (hcb : cb + 4 ≤ 601024 ∧ sb + 24 ≤ 7293033) (hK : ∀ G9, K G9 → GR G9 → AW κ δ ρ0 n0 9 (cb + 4) (sb + 24) 2618 [some (vr (strB + 30)), some (vr 0), some (vr 272), some (vr 285), some (vi i4), none, none, none, none] [] (SF nn) G9) (h : f_law_42 L xs i4 G K) : AW κ δ ρ0 n0 9 cb sb 2399 [some (vr (strB + 30)), some (vr 0), some (vr 272), some (vr 285), some (vi i4), none, none, none, none] [] (SF nn) G := by
  have hnn0 : 272 ≤ nn := by omega
  have hnn1 : 285 ≤ nn := by omega
  refine a_aload_n (pc := 2399) X9 dL_law_2399 rfl rfl ?_
  refine a_callVL (pc := 2400) X9 E (m_X9_write  hnn0 h) okX9 (is9 hnn0) wM_L_271 w_instanceMethod_X9_write w_selects_X9_write w_initialized_RX9 w_code_X9_write cp_X9_write pn_X9_write rfl (Nat.le_of_ble_eq_true rfl) ⟨Nat.le_of_ble_eq_true rfl, Nat.le_of_ble_eq_true rfl⟩ ⟨by omega, by omega⟩ dL_law_2400 (kI (fun r_1 G_1 hr_1 h hG_1 => ?_))
  refine a_aload_n (pc := 2403) X9 dL_law_2403 rfl rfl ?_
  refine a_callVL (pc := 2404) X9 E (m_X10_write  hnn1 h) okX10 (is10 hnn1) wM_L_274 w_instanceMethod_X10_write w_selects_X10_write w_initialized_RX10 w_code_X10_write cp_X10_write pn_X10_write rfl (Nat.le_of_ble_eq_true rfl) ⟨Nat.le_of_ble_eq_true rfl, Nat.le_of_ble_eq_true rfl⟩ ⟨by omega, by omega⟩ dL_law_2404 (kI (fun r_2 G_2 hr_2 h hG_2 => ?_))
  refine a_icmp_eq (pc := 2407) (tgt := 2618) X9 dL_law_2407 rfl hr_1 hr_2 (fun c => ?_) (fun c => ?_)
  · have c_1 := c
    have h := h.1 c_1
    refine AW.widen (cb' := cb + 4) (sb' := sb + 24) (by omega) (by omega) ?_
    exact hK _ h hG_2
  · have c_1 := c
    have h := h.2 c_1
    refine a_iconst (pc := 2410) X9 dL_law_2410 ?_
    exact h.elim
set_option maxHeartbeats 4000000 in
set_option maxRecDepth 100000 in
theorem m_law_43 {κ : Cx} {δ : Dx} {ρ0 : Nat → Nat} {n0 cb sb nn L : Nat} {xs : Nat → Int32} {i4 : Int} {G : GH} {K : GH → Prop} (X9 : CX κ δ RL cL_law 9 ret) (E : RmL κ) (LX : LawX κ δ ρ0 L xs) (hnn : 286 ≤ nn) (hi4 : inR i4) (hG : GR G) (hcb : cb + 4 ≤ 601024 ∧ sb + 24 ≤ 7293033) (hK : ∀ G9, K G9 → GR G9 → AW κ δ ρ0 n0 9 (cb + 4) (sb + 24) 2618 [some (vr (strB + 30)), some (vr 0), some (vr 272), some (vr 285), some (vi i4), none, none, none, none] [] (SF nn) G9) (h : f_law_43 L xs i4 G K) : AW κ δ ρ0 n0 9 cb sb 2412 [some (vr (strB + 30)), some (vr 0), some (vr 272), some (vr 285), some (vi i4), none, none, none, none] [] (SF nn) G := by
  have hnn0 : 272 ≤ nn := by omega
  have hnn1 : 285 ≤ nn := by omega
  refine a_aload_n (pc := 2412) X9 dL_law_2412 rfl rfl ?_
  refine a_aload_n (pc := 2413) X9 dL_law_2413 rfl rfl ?_
  refine a_iload (pc := 2414) X9 dL_law_2414 rfl ?_
  refine a_iconst (pc := 2416) X9 dL_law_2416 ?_
  refine a_iadd (pc := 2417) X9 dL_law_2417 ?_
  obtain ⟨g_1, h⟩ := h
  refine b_scr (pc := 2418) X9 LX g_1 dL_law_2418 ?_
  refine a_aload_n (pc := 2419) X9 dL_law_2419 rfl rfl ?_
  refine a_callSL (pc := 2420) X9 E (m_L_writeService (inR_toInt _) hnn h) wM_L_275 w_static_L_writeService w_initialized_RL w_codeWith_L_writeService cpL_writeService pnL_writeService rfl (Nat.le_of_ble_eq_true rfl) ⟨Nat.le_of_ble_eq_true rfl, Nat.le_of_ble_eq_true rfl⟩ ⟨by omega, by omega⟩ dL_law_2420 (kI (fun r_1 G_1 hr_1 h hG_1 => ?_))
  refine a_istore (pc := 2423) X9 dL_law_2423 (Nat.le_of_ble_eq_true rfl) rfl rfl ?_
  refine a_aload_n (pc := 2425) X9 dL_law_2425 rfl rfl ?_
  refine a_aload_n (pc := 2426) X9 dL_law_2426 rfl rfl ?_
  refine a_iload (pc := 2427) X9 dL_law_2427 rfl ?_
  refine a_iconst (pc := 2429) X9 dL_law_2429 ?_
  refine a_iadd (pc := 2430) X9 dL_law_2430 ?_
  refine b_scr (pc := 2431) X9 LX g_1 dL_law_2431 ?_
  refine a_callVL (pc := 2432) X9 E (m_X10_writeService (inR_toInt _) hnn1 h) okX10 (is10 hnn1) wM_L_277 w_instanceMethod_X10_writeService w_selects_X10_writeService w_initialized_RX10 w_code_X10_writeService cp_X10_writeService pn_X10_writeService rfl (Nat.le_of_ble_eq_true rfl) ⟨Nat.le_of_ble_eq_true rfl, Nat.le_of_ble_eq_true rfl⟩ ⟨by omega, by omega⟩ dL_law_2432 (kI (fun r_2 G_2 hr_2 h hG_2 => ?_))
  refine a_istore (pc := 2435) X9 dL_law_2435 (Nat.le_of_ble_eq_true rfl) rfl rfl ?_
  refine a_aload_n (pc := 2437) X9 dL_law_2437 rfl rfl ?_
  refine a_callVL (pc := 2438) X9 E (m_X10_thrown  hnn1 h) okX10 (is10 hnn1) wM_L_141 w_instanceMethod_X10_thrown w_selects_X10_thrown w_initialized_RX10 w_code_X10_thrown cp_X10_thrown pn_X10_thrown rfl (Nat.le_of_ble_eq_true rfl) ⟨Nat.le_of_ble_eq_true rfl, Nat.le_of_ble_eq_true rfl⟩ ⟨by omega, by omega⟩ dL_law_2438 (kIp (fun r_3 hr_3 h => ?_))
  refine a_iload (pc := 2441) X9 dL_law_2441 rfl ?_
  refine a_icmp_eq (pc := 2443) (tgt := 2448) X9 dL_law_2443 rfl hr_3 hr_1 (fun c => ?_) (fun c => ?_)
  · have c_1 := c
    have h := h.1 c_1
    refine a_iload (pc := 2448) X9 dL_law_2448 rfl ?_
    refine a_if_ne (pc := 2450) (tgt := 2465) X9 dL_law_2450 rfl hr_1 (fun c => ?_) (fun c => ?_)
    · have c_2 := c
      have h := h.1 c_2
      refine a_goto (pc := 2465) (tgt := 2618) X9 dL_law_2465 rfl ?_
      refine AW.widen (cb' := cb + 4) (sb' := sb + 24) (by omega) (by omega) ?_
      refine AW.drop 5 rfl ?_
      refine AW.drop 6 rfl ?_
      exact hK _ h hG_2
    · have c_2 := c
      have h := h.2 c_2
      refine a_aload_n (pc := 2453) X9 dL_law_2453 rfl rfl ?_
      refine a_iconst (pc := 2454) X9 dL_law_2454 ?_
      refine a_lald (pc := 2455) X9 (atO hnn) (Nat.le_of_ble_eq_true rfl) (j := 0) rfl (Nat.le_of_ble_eq_true rfl) dL_law_2455 ?_
      refine a_iload (pc := 2456) X9 dL_law_2456 rfl ?_
      refine a_i2l (pc := 2458) X9 dL_law_2458 hr_2 ?_
      refine b_lcmp (pc := 2459) X9 dL_law_2459 (inR_inL (hG_2 _ _)) (inR_inL hr_2) ?_
      refine a_if_eq (pc := 2460) (tgt := 2465) X9 dL_law_2460 rfl lcv_inR (fun c => ?_) (fun c => ?_)
      · have c_3 : (G_2 285 0) = r_2 := lcv_eq.mp c
        have h := h.1 c_3
        refine a_goto (pc := 2465) (tgt := 2618) X9 dL_law_2465 rfl ?_
        refine AW.widen (cb' := cb + 4) (sb' := sb + 24) (by omega) (by omega) ?_
        refine AW.drop 5 rfl ?_
        refine AW.drop 6 rfl ?_
        exact hK _ h hG_2
      · have c_3 : (G_2 285 0) ≠ r_2 := fun e => c (lcv_eq.mpr e)
        have h := h.2 c_3
        refine a_iconst (pc := 2463) X9 dL_law_2463 ?_
        exact h.elim
  · have c_1 := c
    have h := h.2 c_1
    refine a_iconst (pc := 2446) X9 dL_law_2446 ?_
    exact h.elim
set_option maxHeartbeats 4000000 in
set_option maxRecDepth 100000 in
theorem m_law_44 {κ : Cx} {δ : Dx} {ρ0 : Nat → Nat} {n0 cb sb nn L : Nat} {xs : Nat → Int32} {i4 : Int} {G : GH} {K : GH → Prop} (X9 : CX κ δ RL cL_law 9 ret) (E : RmL κ) (LX : LawX κ δ ρ0 L xs) (hnn : 286 ≤ nn) (hi4 : inR i4) (hG : GR G) (hcb : cb + 4 ≤ 601024 ∧ sb + 24 ≤ 7293033) (hK : ∀ G9, K G9 → GR G9 → AW κ δ ρ0 n0 9 (cb + 4) (sb + 24) 2618 [some (vr (strB + 30)), some (vr 0), some (vr 272), some (vr 285), some (vi i4), none, none, none, none] [] (SF nn) G9) (h : f_law_44 L xs i4 G K) : AW κ δ ρ0 n0 9 cb sb 2468 [some (vr (strB + 30)), some (vr 0), some (vr 272), some (vr 285), some (vi i4), none, none, none, none] [] (SF nn) G := by
  have hnn0 : 272 ≤ nn := by omega
  have hnn1 : 285 ≤ nn := by omega
  refine a_aload_n (pc := 2468) X9 dL_law_2468 rfl rfl ?_
  refine a_aload_n (pc := 2469) X9 dL_law_2469 rfl rfl ?_
  refine a_iload (pc := 2470) X9 dL_law_2470 rfl ?_
  refine a_iconst (pc := 2472) X9 dL_law_2472 ?_
  refine a_iadd (pc := 2473) X9 dL_law_2473 ?_
  obtain ⟨g_1, h⟩ := h
  refine b_scr (pc := 2474) X9 LX g_1 dL_law_2474 ?_
  refine a_callVL (pc := 2475) X9 E (m_X9_outputByte (inR_toInt _) hnn0 h) okX9 (is9 hnn0) wM_L_278 w_instanceMethod_X9_outputByte w_selects_X9_outputByte w_initialized_RX9 w_code_X9_outputByte cp_X9_outputByte pn_X9_outputByte rfl (Nat.le_of_ble_eq_true rfl) ⟨Nat.le_of_ble_eq_true rfl, Nat.le_of_ble_eq_true rfl⟩ ⟨by omega, by omega⟩ dL_law_2475 (kIp (fun r_1 hr_1 h => ?_))
  refine a_aload_n (pc := 2478) X9 dL_law_2478 rfl rfl ?_
  refine a_aload_n (pc := 2479) X9 dL_law_2479 rfl rfl ?_
  refine a_iload (pc := 2480) X9 dL_law_2480 rfl ?_
  refine a_iconst (pc := 2482) X9 dL_law_2482 ?_
  refine a_iadd (pc := 2483) X9 dL_law_2483 ?_
  refine b_scr (pc := 2484) X9 LX g_1 dL_law_2484 ?_
  refine a_callVL (pc := 2485) X9 E (m_X10_outputByte (inR_toInt _) hnn1 h) okX10 (is10 hnn1) wM_L_281 w_instanceMethod_X10_outputByte w_selects_X10_outputByte w_initialized_RX10 w_code_X10_outputByte cp_X10_outputByte pn_X10_outputByte rfl (Nat.le_of_ble_eq_true rfl) ⟨Nat.le_of_ble_eq_true rfl, Nat.le_of_ble_eq_true rfl⟩ ⟨by omega, by omega⟩ dL_law_2485 (kI (fun r_2 G_1 hr_2 h hG_1 => ?_))
  refine a_icmp_eq (pc := 2488) (tgt := 2618) X9 dL_law_2488 rfl hr_1 hr_2 (fun c => ?_) (fun c => ?_)
  · have c_1 := c
    have h := h.1 c_1
    refine AW.widen (cb' := cb + 4) (sb' := sb + 24) (by omega) (by omega) ?_
    exact hK _ h hG_1
  · have c_1 := c
    have h := h.2 c_1
    refine a_iconst (pc := 2491) X9 dL_law_2491 ?_
    exact h.elim
set_option maxHeartbeats 4000000 in
set_option maxRecDepth 100000 in
theorem m_law_45 {κ : Cx} {δ : Dx} {ρ0 : Nat → Nat} {n0 cb sb nn L : Nat} {xs : Nat → Int32} {i4 : Int} {G : GH} {K : GH → Prop} (X9 : CX κ δ RL cL_law 9 ret) (E : RmL κ) (LX : LawX κ δ ρ0 L xs) (hnn : 286 ≤ nn) (hi4 : inR i4) (hG : GR G) (hcb : cb + 4 ≤ 601024 ∧ sb + 24 ≤ 7293033) (hK : ∀ G9, K G9 → GR G9 → AW κ δ ρ0 n0 9 (cb + 4) (sb + 24) 2618 [some (vr (strB + 30)), some (vr 0), some (vr 272), some (vr 285), some (vi i4), none, none, none, none] [] (SF nn) G9) (h : f_law_45 L xs i4 G K) : AW κ δ ρ0 n0 9 cb sb 2493 [some (vr (strB + 30)), some (vr 0), some (vr 272), some (vr 285), some (vi i4), none, none, none, none] [] (SF nn) G := by
  have hnn0 : 272 ≤ nn := by omega
  have hnn1 : 285 ≤ nn := by omega
  refine a_aload_n (pc := 2493) X9 dL_law_2493 rfl rfl ?_
  refine a_callVL (pc := 2494) X9 E (m_X9_undo  hnn0 h) okX9 (is9 hnn0) wM_L_282 w_instanceMethod_X9_undo w_selects_X9_undo w_initialized_RX9 w_code_X9_undo cp_X9_undo pn_X9_undo rfl (Nat.le_of_ble_eq_true rfl) ⟨Nat.le_of_ble_eq_true rfl, Nat.le_of_ble_eq_true rfl⟩ ⟨by omega, by omega⟩ dL_law_2494 (kI (fun r_1 G_1 hr_1 h hG_1 => ?_))
  refine a_aload_n (pc := 2497) X9 dL_law_2497 rfl rfl ?_
  refine a_callVL (pc := 2498) X9 E (m_X10_undo  hnn1 h) okX10 (is10 hnn1) wM_L_285 w_instanceMethod_X10_undo w_selects_X10_undo w_initialized_RX10 w_code_X10_undo cp_X10_undo pn_X10_undo rfl (Nat.le_of_ble_eq_true rfl) ⟨Nat.le_of_ble_eq_true rfl, Nat.le_of_ble_eq_true rfl⟩ ⟨by omega, by omega⟩ dL_law_2498 (kI (fun r_2 G_2 hr_2 h hG_2 => ?_))
  refine a_icmp_eq (pc := 2501) (tgt := 2618) X9 dL_law_2501 rfl hr_1 hr_2 (fun c => ?_) (fun c => ?_)
  · have c_1 := c
    have h := h.1 c_1
    refine AW.widen (cb' := cb + 4) (sb' := sb + 24) (by omega) (by omega) ?_
    exact hK _ h hG_2
  · have c_1 := c
    have h := h.2 c_1
    refine a_iconst (pc := 2504) X9 dL_law_2504 ?_
    exact h.elim
set_option maxHeartbeats 4000000 in
set_option maxRecDepth 100000 in
theorem m_law_46 {κ : Cx} {δ : Dx} {ρ0 : Nat → Nat} {n0 cb sb nn L : Nat} {xs : Nat → Int32} {i4 : Int} {G : GH} {K : GH → Prop} (X9 : CX κ δ RL cL_law 9 ret) (E : RmL κ) (LX : LawX κ δ ρ0 L xs) (hnn : 286 ≤ nn) (hi4 : inR i4) (hG : GR G) (hcb : cb + 4 ≤ 601024 ∧ sb + 24 ≤ 7293033) (hK : ∀ G9, K G9 → GR G9 → AW κ δ ρ0 n0 9 (cb + 4) (sb + 24) 2618 [some (vr (strB + 30)), some (vr 0), some (vr 272), some (vr 285), some (vi i4), none, none, none, none] [] (SF nn) G9) (h : f_law_46 L xs i4 G K) : AW κ δ ρ0 n0 9 cb sb 2506 [some (vr (strB + 30)), some (vr 0), some (vr 272), some (vr 285), some (vi i4), none, none, none, none] [] (SF nn) G := by
  have hnn0 : 272 ≤ nn := by omega
  have hnn1 : 285 ≤ nn := by omega
  refine a_aload_n (pc := 2506) X9 dL_law_2506 rfl rfl ?_
  refine a_aload_n (pc := 2507) X9 dL_law_2507 rfl rfl ?_
  refine a_iload (pc := 2508) X9 dL_law_2508 rfl ?_
  refine a_iconst (pc := 2510) X9 dL_law_2510 ?_
  refine a_iadd (pc := 2511) X9 dL_law_2511 ?_
  obtain ⟨g_1, h⟩ := h
  refine b_scr (pc := 2512) X9 LX g_1 dL_law_2512 ?_
  refine a_aload_n (pc := 2513) X9 dL_law_2513 rfl rfl ?_
  refine a_callSL (pc := 2514) X9 E (m_L_saveSnapshot (inR_toInt _) hnn h) wM_L_286 w_static_L_saveSnapshot w_initialized_RL w_codeWith_L_saveSnapshot cpL_saveSnapshot pnL_saveSnapshot rfl (Nat.le_of_ble_eq_true rfl) ⟨Nat.le_of_ble_eq_true rfl, Nat.le_of_ble_eq_true rfl⟩ ⟨by omega, by omega⟩ dL_law_2514 (kI (fun r_1 G_1 hr_1 h hG_1 => ?_))
  refine a_istore (pc := 2517) X9 dL_law_2517 (Nat.le_of_ble_eq_true rfl) rfl rfl ?_
  refine a_aload_n (pc := 2519) X9 dL_law_2519 rfl rfl ?_
  refine a_aload_n (pc := 2520) X9 dL_law_2520 rfl rfl ?_
  refine a_iload (pc := 2521) X9 dL_law_2521 rfl ?_
  refine a_iconst (pc := 2523) X9 dL_law_2523 ?_
  refine a_iadd (pc := 2524) X9 dL_law_2524 ?_
  refine b_scr (pc := 2525) X9 LX g_1 dL_law_2525 ?_
  refine a_callVL (pc := 2526) X9 E (m_X10_saveSnapshot (inR_toInt _) hnn1 h) okX10 (is10 hnn1) wM_L_288 w_instanceMethod_X10_saveSnapshot w_selects_X10_saveSnapshot w_initialized_RX10 w_code_X10_saveSnapshot cp_X10_saveSnapshot pn_X10_saveSnapshot rfl (Nat.le_of_ble_eq_true rfl) ⟨Nat.le_of_ble_eq_true rfl, Nat.le_of_ble_eq_true rfl⟩ ⟨by omega, by omega⟩ dL_law_2526 (kI (fun r_2 G_2 hr_2 h hG_2 => ?_))
  refine a_istore (pc := 2529) X9 dL_law_2529 (Nat.le_of_ble_eq_true rfl) rfl rfl ?_
  refine a_aload_n (pc := 2531) X9 dL_law_2531 rfl rfl ?_
  refine a_callVL (pc := 2532) X9 E (m_X10_thrown  hnn1 h) okX10 (is10 hnn1) wM_L_141 w_instanceMethod_X10_thrown w_selects_X10_thrown w_initialized_RX10 w_code_X10_thrown cp_X10_thrown pn_X10_thrown rfl (Nat.le_of_ble_eq_true rfl) ⟨Nat.le_of_ble_eq_true rfl, Nat.le_of_ble_eq_true rfl⟩ ⟨by omega, by omega⟩ dL_law_2532 (kIp (fun r_3 hr_3 h => ?_))
  refine a_iload (pc := 2535) X9 dL_law_2535 rfl ?_
  refine a_icmp_eq (pc := 2537) (tgt := 2542) X9 dL_law_2537 rfl hr_3 hr_1 (fun c => ?_) (fun c => ?_)
  · have c_1 := c
    have h := h.1 c_1
    refine a_iload (pc := 2542) X9 dL_law_2542 rfl ?_
    refine a_if_ne (pc := 2544) (tgt := 2559) X9 dL_law_2544 rfl hr_1 (fun c => ?_) (fun c => ?_)
    · have c_2 := c
      have h := h.1 c_2
      refine a_goto (pc := 2559) (tgt := 2618) X9 dL_law_2559 rfl ?_
      refine AW.widen (cb' := cb + 4) (sb' := sb + 24) (by omega) (by omega) ?_
      refine AW.drop 5 rfl ?_
      refine AW.drop 6 rfl ?_
      exact hK _ h hG_2
    · have c_2 := c
      have h := h.2 c_2
      refine a_aload_n (pc := 2547) X9 dL_law_2547 rfl rfl ?_
      refine a_iconst (pc := 2548) X9 dL_law_2548 ?_
      refine a_lald (pc := 2549) X9 (atO hnn) (Nat.le_of_ble_eq_true rfl) (j := 0) rfl (Nat.le_of_ble_eq_true rfl) dL_law_2549 ?_
      refine a_iload (pc := 2550) X9 dL_law_2550 rfl ?_
      refine a_i2l (pc := 2552) X9 dL_law_2552 hr_2 ?_
      refine b_lcmp (pc := 2553) X9 dL_law_2553 (inR_inL (hG_2 _ _)) (inR_inL hr_2) ?_
      refine a_if_eq (pc := 2554) (tgt := 2559) X9 dL_law_2554 rfl lcv_inR (fun c => ?_) (fun c => ?_)
      · have c_3 : (G_2 285 0) = r_2 := lcv_eq.mp c
        have h := h.1 c_3
        refine a_goto (pc := 2559) (tgt := 2618) X9 dL_law_2559 rfl ?_
        refine AW.widen (cb' := cb + 4) (sb' := sb + 24) (by omega) (by omega) ?_
        refine AW.drop 5 rfl ?_
        refine AW.drop 6 rfl ?_
        exact hK _ h hG_2
      · have c_3 : (G_2 285 0) ≠ r_2 := fun e => c (lcv_eq.mpr e)
        have h := h.2 c_3
        refine a_iconst (pc := 2557) X9 dL_law_2557 ?_
        exact h.elim
  · have c_1 := c
    have h := h.2 c_1
    refine a_iconst (pc := 2540) X9 dL_law_2540 ?_
    exact h.elim
set_option maxHeartbeats 4000000 in
set_option maxRecDepth 100000 in
theorem m_law_47 {κ : Cx} {δ : Dx} {ρ0 : Nat → Nat} {n0 cb sb nn L : Nat} {xs : Nat → Int32} {i4 : Int} {G : GH} {K : GH → Prop} (X9 : CX κ δ RL cL_law 9 ret) (E : RmL κ) (LX : LawX κ δ ρ0 L xs) (hnn : 286 ≤ nn) (hi4 : inR i4) (hG : GR G) (hcb : cb + 4 ≤ 601024 ∧ sb + 24 ≤ 7293033) (hK : ∀ G9, K G9 → GR G9 → AW κ δ ρ0 n0 9 (cb + 4) (sb + 24) 2618 [some (vr (strB + 30)), some (vr 0), some (vr 272), some (vr 285), some (vi i4), none, none, none, none] [] (SF nn) G9) (h : f_law_47 L xs i4 G K) : AW κ δ ρ0 n0 9 cb sb 2562 [some (vr (strB + 30)), some (vr 0), some (vr 272), some (vr 285), some (vi i4), none, none, none, none] [] (SF nn) G := by
  have hnn0 : 272 ≤ nn := by omega
  have hnn1 : 285 ≤ nn := by omega
  refine a_aload_n (pc := 2562) X9 dL_law_2562 rfl rfl ?_
  refine a_aload_n (pc := 2563) X9 dL_law_2563 rfl rfl ?_
  refine a_iload (pc := 2564) X9 dL_law_2564 rfl ?_
  refine a_iconst (pc := 2566) X9 dL_law_2566 ?_
  refine a_iadd (pc := 2567) X9 dL_law_2567 ?_
  obtain ⟨g_1, h⟩ := h
  refine b_scr (pc := 2568) X9 LX g_1 dL_law_2568 ?_
  refine a_aload_n (pc := 2569) X9 dL_law_2569 rfl rfl ?_
  refine a_callSL (pc := 2570) X9 E (m_L_restoreSnapshot (inR_toInt _) hnn h) wM_L_289 w_static_L_restoreSnapshot w_initialized_RL w_codeWith_L_restoreSnapshot cpL_restoreSnapshot pnL_restoreSnapshot rfl (Nat.le_of_ble_eq_true rfl) ⟨Nat.le_of_ble_eq_true rfl, Nat.le_of_ble_eq_true rfl⟩ ⟨by omega, by omega⟩ dL_law_2570 (kI (fun r_1 G_1 hr_1 h hG_1 => ?_))
  refine a_istore (pc := 2573) X9 dL_law_2573 (Nat.le_of_ble_eq_true rfl) rfl rfl ?_
  refine a_aload_n (pc := 2575) X9 dL_law_2575 rfl rfl ?_
  refine a_aload_n (pc := 2576) X9 dL_law_2576 rfl rfl ?_
  refine a_iload (pc := 2577) X9 dL_law_2577 rfl ?_
  refine a_iconst (pc := 2579) X9 dL_law_2579 ?_
  refine a_iadd (pc := 2580) X9 dL_law_2580 ?_
  refine b_scr (pc := 2581) X9 LX g_1 dL_law_2581 ?_
  refine a_callVL (pc := 2582) X9 E (m_X10_restoreSnapshot (inR_toInt _) hnn1 h) okX10 (is10 hnn1) wM_L_291 w_instanceMethod_X10_restoreSnapshot w_selects_X10_restoreSnapshot w_initialized_RX10 w_code_X10_restoreSnapshot cp_X10_restoreSnapshot pn_X10_restoreSnapshot rfl (Nat.le_of_ble_eq_true rfl) ⟨Nat.le_of_ble_eq_true rfl, Nat.le_of_ble_eq_true rfl⟩ ⟨by omega, by omega⟩ dL_law_2582 (kI (fun r_2 G_2 hr_2 h hG_2 => ?_))
  refine a_istore (pc := 2585) X9 dL_law_2585 (Nat.le_of_ble_eq_true rfl) rfl rfl ?_
  refine a_aload_n (pc := 2587) X9 dL_law_2587 rfl rfl ?_
  refine a_callVL (pc := 2588) X9 E (m_X10_thrown  hnn1 h) okX10 (is10 hnn1) wM_L_141 w_instanceMethod_X10_thrown w_selects_X10_thrown w_initialized_RX10 w_code_X10_thrown cp_X10_thrown pn_X10_thrown rfl (Nat.le_of_ble_eq_true rfl) ⟨Nat.le_of_ble_eq_true rfl, Nat.le_of_ble_eq_true rfl⟩ ⟨by omega, by omega⟩ dL_law_2588 (kIp (fun r_3 hr_3 h => ?_))
  refine a_iload (pc := 2591) X9 dL_law_2591 rfl ?_
  refine a_icmp_eq (pc := 2593) (tgt := 2598) X9 dL_law_2593 rfl hr_3 hr_1 (fun c => ?_) (fun c => ?_)
  · have c_1 := c
    have h := h.1 c_1
    refine a_iload (pc := 2598) X9 dL_law_2598 rfl ?_
    refine a_if_ne (pc := 2600) (tgt := 2615) X9 dL_law_2600 rfl hr_1 (fun c => ?_) (fun c => ?_)
    · have c_2 := c
      have h := h.1 c_2
      refine a_goto (pc := 2615) (tgt := 2618) X9 dL_law_2615 rfl ?_
      refine AW.widen (cb' := cb + 4) (sb' := sb + 24) (by omega) (by omega) ?_
      refine AW.drop 5 rfl ?_
      refine AW.drop 6 rfl ?_
      exact hK _ h hG_2
    · have c_2 := c
      have h := h.2 c_2
      refine a_aload_n (pc := 2603) X9 dL_law_2603 rfl rfl ?_
      refine a_iconst (pc := 2604) X9 dL_law_2604 ?_
      refine a_lald (pc := 2605) X9 (atO hnn) (Nat.le_of_ble_eq_true rfl) (j := 0) rfl (Nat.le_of_ble_eq_true rfl) dL_law_2605 ?_
      refine a_iload (pc := 2606) X9 dL_law_2606 rfl ?_
      refine a_i2l (pc := 2608) X9 dL_law_2608 hr_2 ?_
      refine b_lcmp (pc := 2609) X9 dL_law_2609 (inR_inL (hG_2 _ _)) (inR_inL hr_2) ?_
      refine a_if_eq (pc := 2610) (tgt := 2615) X9 dL_law_2610 rfl lcv_inR (fun c => ?_) (fun c => ?_)
      · have c_3 : (G_2 285 0) = r_2 := lcv_eq.mp c
        have h := h.1 c_3
        refine a_goto (pc := 2615) (tgt := 2618) X9 dL_law_2615 rfl ?_
        refine AW.widen (cb' := cb + 4) (sb' := sb + 24) (by omega) (by omega) ?_
        refine AW.drop 5 rfl ?_
        refine AW.drop 6 rfl ?_
        exact hK _ h hG_2
      · have c_3 : (G_2 285 0) ≠ r_2 := fun e => c (lcv_eq.mpr e)
        have h := h.2 c_3
        refine a_iconst (pc := 2613) X9 dL_law_2613 ?_
        exact h.elim
  · have c_1 := c
    have h := h.2 c_1
    refine a_iconst (pc := 2596) X9 dL_law_2596 ?_
    exact h.elim

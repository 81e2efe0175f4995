-- ===== the walks of the builder's methods: written by wip/p51/mksb.py =====
theorem pnB_isL : pnum yJ5_isLatin1_aae02 = some 0 := by decide +kernel
theorem cpB_isL : clsPlain yJ5_isLatin1_aae02 := ⟨by decide +kernel, by decide +kernel⟩
theorem pnB_len8 : pnum yJ8_newLength_cabcc = some 3 := by decide +kernel
theorem cpB_len8 : clsPlain yJ8_newLength_cabcc := ⟨by decide +kernel, by decide +kernel⟩
theorem pnB_newc : pnum yJ5_newCapacity_0f7a4 = some 1 := by decide +kernel
theorem cpB_newc : clsPlain yJ5_newCapacity_0f7a4 := ⟨by decide +kernel, by decide +kernel⟩
theorem pnB_cpo : pnum yJ7_copyOf_9075b = some 2 := by decide +kernel
theorem cpB_cpo : clsPlain yJ7_copyOf_9075b := ⟨by decide +kernel, by decide +kernel⟩
theorem pnB_ens : pnum yJ5_ensureCapacityInternal_d00df = some 1 := by decide +kernel
theorem cpB_ens : clsPlain yJ5_ensureCapacityInternal_d00df := ⟨by decide +kernel, by decide +kernel⟩
theorem pnB_inf : pnum yJ5_inflateIfNeededFor_a7421 = some 1 := by decide +kernel
theorem cpB_inf : clsPlain yJ5_inflateIfNeededFor_a7421 := ⟨by decide +kernel, by decide +kernel⟩
theorem pnB_gby : pnum yJ0_getBytes_840e7 = some 3 := by decide +kernel
theorem cpB_gby : clsPlain yJ0_getBytes_840e7 := ⟨by decide +kernel, by decide +kernel⟩
theorem pnB_pst : pnum yJ5_putStringAt_47b60 = some 2 := by decide +kernel
theorem cpB_pst : clsPlain yJ5_putStringAt_47b60 := ⟨by decide +kernel, by decide +kernel⟩
theorem pnB_apS5 : pnum yJ5_append_cf1ce = some 1 := by decide +kernel
theorem cpB_apS5 : clsPlain yJ5_append_cf1ce := ⟨by decide +kernel, by decide +kernel⟩
theorem pnB_apS4 : pnum yJ4_append_15ec4 = some 1 := by decide +kernel
theorem cpB_apS4 : clsPlain yJ4_append_15ec4 := ⟨by decide +kernel, by decide +kernel⟩
theorem pnB_apSB : pnum yJ4_append_cf1ce = some 1 := by decide +kernel
theorem cpB_apSB : clsPlain yJ4_append_cf1ce := ⟨by decide +kernel, by decide +kernel⟩
theorem pnB_apC5 : pnum yJ5_append_3fe6f = some 1 := by decide +kernel
theorem cpB_apC5 : clsPlain yJ5_append_3fe6f := ⟨by decide +kernel, by decide +kernel⟩
theorem pnB_apC4 : pnum yJ4_append_cf468 = some 1 := by decide +kernel
theorem cpB_apC4 : clsPlain yJ4_append_cf468 := ⟨by decide +kernel, by decide +kernel⟩
theorem pnB_apI5 : pnum yJ5_append_c97b9 = some 1 := by decide +kernel
theorem cpB_apI5 : clsPlain yJ5_append_c97b9 := ⟨by decide +kernel, by decide +kernel⟩
theorem pnB_apI4 : pnum yJ4_append_bf812 = some 1 := by decide +kernel
theorem cpB_apI4 : clsPlain yJ4_append_bf812 := ⟨by decide +kernel, by decide +kernel⟩
theorem pnB_ss : pnum yJ6_stringSize_0f7a4 = some 1 := by decide +kernel
theorem cpB_ss : clsPlain yJ6_stringSize_0f7a4 := ⟨by decide +kernel, by decide +kernel⟩
theorem pnB_gch : pnum yJ6_getChars_ba4f3 = some 3 := by decide +kernel
theorem cpB_gch : clsPlain yJ6_getChars_ba4f3 := ⟨by decide +kernel, by decide +kernel⟩
theorem pnB_can : pnum yJ1_canEncode_fc78d = some 1 := by decide +kernel
theorem cpB_can : clsPlain yJ1_canEncode_fc78d := ⟨by decide +kernel, by decide +kernel⟩
theorem pnB_in5 : pnum yJ5_init_a7421 = some 1 := by decide +kernel
theorem cpB_in5 : clsPlain yJ5_init_a7421 := ⟨by decide +kernel, by decide +kernel⟩
theorem pnB_in4 : pnum yJ4_init_a7421 = some 1 := by decide +kernel
theorem cpB_in4 : clsPlain yJ4_init_a7421 := ⟨by decide +kernel, by decide +kernel⟩
theorem pnB_len5 : pnum yJ5_length_8abf5 = some 0 := by decide +kernel
theorem cpB_len5 : clsPlain yJ5_length_8abf5 := ⟨by decide +kernel, by decide +kernel⟩
theorem pnB_len4 : pnum yJ4_length_8abf5 = some 0 := by decide +kernel
theorem cpB_len4 : clsPlain yJ4_length_8abf5 := ⟨by decide +kernel, by decide +kernel⟩
theorem pnB_gv : pnum yJ5_getValue_6d5f1 = some 0 := by decide +kernel
theorem cpB_gv : clsPlain yJ5_getValue_6d5f1 := ⟨by decide +kernel, by decide +kernel⟩
theorem pnB_chl : pnum yJ7_checkLength_df160 = some 2 := by decide +kernel
theorem cpB_chl : clsPlain yJ7_checkLength_df160 := ⟨by decide +kernel, by decide +kernel⟩
theorem pnB_crb : pnum yJ7_copyOfRangeByte_39247 = some 3 := by decide +kernel
theorem cpB_crb : clsPlain yJ7_copyOfRangeByte_39247 := ⟨by decide +kernel, by decide +kernel⟩
theorem pnB_cor : pnum yJ7_copyOfRange_39247 = some 3 := by decide +kernel
theorem cpB_cor : clsPlain yJ7_copyOfRange_39247 := ⟨by decide +kernel, by decide +kernel⟩
theorem pnB_i0a : pnum yJ0_init_db425 = some 2 := by decide +kernel
theorem cpB_i0a : clsPlain yJ0_init_db425 := ⟨by decide +kernel, by decide +kernel⟩
theorem pnB_i0b : pnum yJ0_init_81219 = some 1 := by decide +kernel
theorem cpB_i0b : clsPlain yJ0_init_81219 := ⟨by decide +kernel, by decide +kernel⟩
theorem pnB_tos : pnum yJ4_toString_0e30d = some 0 := by decide +kernel
theorem cpB_tos : clsPlain yJ4_toString_0e30d := ⟨by decide +kernel, by decide +kernel⟩
theorem zShl_0 {x : Int} (h : inR x) : zShl x 0 = x := by
  unfold zShl
  have e : (zI 0 &&& 31) = 0 := by decide
  rw [e, Int32.shiftLeft_zero]
  exact zI_toInt h
theorem zShr_z {x : Int} (h : inR x) : zShr x 0 = x := by
  unfold zShr
  have e : (zI 0 &&& 31) = 0 := by decide
  rw [e, Int32.shiftRight_zero]
  exact zI_toInt h
theorem capN_4 : capN 4 = 382 := rfl
theorem sb_fw {k : Nat} : ∀ a, a < 273 + (k + 1) → ∀ j q, rfB k a j = some q → q < 273 + (k + 1) := fun _ _ _ _ h => rfB_lt h
theorem sb_put {k : Nat} : ∀ a' k', rfB (k + 1) a' k' = if a' = 272 ∧ k' = 0 then some (273 + (k + 1)) else rfB k a' k' := by
  intro a' k'
  unfold rfB
  by_cases h : a' = 272 ∧ k' = 0
  · rw [if_pos h, if_pos h]
  · rw [if_neg h, if_neg h, if_neg h]
theorem sb_shn {k : Nat} : shB (273 + (k + 1)) = .inl (2, capN (k + 1)) := by
  unfold shB
  rw [if_neg (by omega), if_neg (by omega), show 273 + (k + 1) - 273 = k + 1 by omega]
theorem cap_le {k : Nat} (hk : k ≤ 4) : capN k ≤ 382 := (capN_rng k).2
theorem BTx.grow {k : Nat} {G : GH} {t : List Int} (hk : k < 4) (B : BTx k G t) : BTx (k + 1) (cpG (zG G (273 + (k + 1))) (273 + k) 0 (273 + (k + 1)) 0 (capN k)) t := by
  obtain ⟨b1, b2, b3, b4, b5⟩ := B
  have e1 : ∀ a j, a ≠ 273 + (k + 1) → cpG (zG G (273 + (k + 1))) (273 + k) 0 (273 + (k + 1)) 0 (capN k) a j = G a j := by
    intro a j h
    unfold cpG
    rw [if_neg (fun q => h q.1), zG_ne h]
  have e2 : ∀ j, j < capN k → cpG (zG G (273 + (k + 1))) (273 + k) 0 (273 + (k + 1)) 0 (capN k) (273 + (k + 1)) j = G (273 + k) j := by
    intro j h
    unfold cpG
    rw [if_pos ⟨rfl, by omega, by omega⟩, zG_ne (by omega), Nat.zero_add, Nat.sub_zero]
  have e3 : ∀ j, capN k ≤ j → cpG (zG G (273 + (k + 1))) (273 + k) 0 (273 + (k + 1)) 0 (capN k) (273 + (k + 1)) j = 0 := by
    intro j h
    unfold cpG
    rw [if_neg (by omega), zG_eq]
  refine ⟨by rw [e1 _ _ (by omega)]; exact b1, by rw [e1 _ _ (by omega)]; exact b2, by have := capN_s hk; omega, fun i hi => ?_, fun i => ?_⟩
  · rw [e2 i (by omega)]; exact b4 i hi
  · by_cases h : i < capN k
    · rw [e2 i h]; exact b5 i
    · rw [e3 i (by omega)]; decide
theorem cp_low {k : Nat} {G : GH} {n : Nat} : LowH (cpG (zG G (273 + (k + 1))) (273 + k) 0 (273 + (k + 1)) 0 n) G := by
  intro a h j
  unfold cpG
  rw [if_neg (by omega), zG_ne (by omega)]
section SBW1
set_option maxHeartbeats 1000000 in
set_option maxRecDepth 100000 in
theorem sb_isL {k : Nat} {G : GH} (hc : G 272 1 = 0) : Mt yJ5_isLatin1_aae02 cJ5_isLatin1_aae02 1 (some .boolean) 0 0 0 0 [vr 272] (SB k) G (fun v S' G' => S' = SB k ∧ qI (fun r G' => G' = G ∧ r = 1) v S' G') (fun E S' G' => S' = SB k ∧ False) := by
  refine Mt.of (l0 := [some (vr 272)]) (by decide) (Nat.le_of_ble_eq_true rfl) rfl ?_
  intro κ δ ρ0 X E hG
  replace X : CX κ δ RJ5 cJ5_isLatin1_aae02 1 (some .boolean) := X
  refine b_compact (pc := 0) X wF_J5_18 dJ5_isLatin1_aae02_0 ?_
  refine a_if_eq (pc := 3) (tgt := 17) X dJ5_isLatin1_aae02_3 rfl (by decide) (fun c9 => absurd c9 (by decide)) (fun c9 => ?_)
  refine a_aload_n (pc := 6) X dJ5_isLatin1_aae02_6 rfl rfl ?_
  refine a_getI (pc := 7) X okJ4 1 rfl wF_J5_22 (sb_is k) dJ5_isLatin1_aae02_7 ?_
  rw [hc]
  refine a_if_ne (pc := 10) (tgt := 17) X dJ5_isLatin1_aae02_10 rfl (by decide) (fun c9 => absurd c9 (by decide)) (fun c9 => ?_)
  refine a_iconst (pc := 13) X dJ5_isLatin1_aae02_13 ?_
  refine a_goto (pc := 14) (tgt := 18) X dJ5_isLatin1_aae02_14 rfl ?_
  exact a_ireturn (pc := 18) X E rfl rfl (Nat.le_of_ble_eq_true rfl) (Nat.le_of_ble_eq_true rfl) dJ5_isLatin1_aae02_18 ⟨rfl, _, rfl, by decide, rfl, rfl⟩
set_option maxHeartbeats 1000000 in
set_option maxRecDepth 100000 in
theorem sb_nlen {S : ASt} {G : GH} {x u z : Int} (hx : 0 < x ∧ x ≤ 1000) (hu : -1000 ≤ u ∧ u ≤ 1000) (hz : 0 ≤ z ∧ z ≤ 1000) : Mt yJ8_newLength_cabcc cJ8_newLength_cabcc 4 (some .int) 1 16 0 0 [vi x, vi u, vi z] S G (fun v S' G' => S' = S ∧ qI (fun r G' => G' = G ∧ r = x + max u z) v S' G') (fun E S' G' => S' = S ∧ False) := by
  refine Mt.of (l0 := [some (vi x), some (vi u), some (vi z), none]) (by decide) (Nat.le_of_ble_eq_true rfl) rfl ?_
  intro κ δ ρ0 X E hG
  replace X : CX κ δ RJ8 cJ8_newLength_cabcc 4 (some .int) := X
  refine a_iload_n (pc := 0) X dJ8_newLength_cabcc_0 rfl rfl ?_
  refine a_iload_n (pc := 1) X dJ8_newLength_cabcc_1 rfl rfl ?_
  refine a_iload_n (pc := 2) X dJ8_newLength_cabcc_2 rfl rfl ?_
  refine b_max (pc := 3) X E wM_J8_194 ⟨by omega, by omega⟩ ⟨by omega, by omega⟩ (Nat.le_of_ble_eq_true rfl) (Nat.le_of_ble_eq_true rfl) ⟨Nat.le_of_ble_eq_true rfl, Nat.le_of_ble_eq_true rfl⟩ dJ8_newLength_cabcc_3 ?_
  refine a_iadd (pc := 6) X dJ8_newLength_cabcc_6 ?_
  refine a_istore_n (pc := 7) (i := 3) X dJ8_newLength_cabcc_7 rfl (Nat.le_of_ble_eq_true rfl) rfl rfl ?_
  refine a_iconst (pc := 8) X dJ8_newLength_cabcc_8 ?_
  refine a_iload_n (pc := 9) X dJ8_newLength_cabcc_9 rfl rfl ?_
  refine a_icmp_ge (pc := 10) (tgt := 21) X dJ8_newLength_cabcc_10 rfl (by decide) ⟨by omega, by omega⟩ (fun c9 => absurd c9 (by omega)) (fun c9 => ?_)
  refine a_iload_n (pc := 13) X dJ8_newLength_cabcc_13 rfl rfl ?_
  refine a_ldc (pc := 14) X (n := 2147483639) wCI_J8_200 dJ8_newLength_cabcc_14 (by decide +kernel) ?_
  refine a_icmp_gt (pc := 16) (tgt := 21) X dJ8_newLength_cabcc_16 rfl ⟨by omega, by omega⟩ (by decide) (fun c9 => absurd c9 (by omega)) (fun c9 => ?_)
  refine a_iload_n (pc := 19) X dJ8_newLength_cabcc_19 rfl rfl ?_
  exact a_ireturn (pc := 20) X E rfl rfl (Nat.le_of_ble_eq_true rfl) (Nat.le_of_ble_eq_true rfl) dJ8_newLength_cabcc_20 ⟨rfl, _, rfl, ⟨by omega, by omega⟩, rfl, rfl⟩
set_option maxHeartbeats 1000000 in
set_option maxRecDepth 100000 in
theorem sb_newc {k : Nat} {G : GH} {m : Int} (hc : G 272 1 = 0) (hm : 0 ≤ m ∧ m ≤ 400) (hm2 : m ≤ 2 * capN k + 2) : Mt yJ5_newCapacity_0f7a4 cJ5_newCapacity_0f7a4 6 (some .int) 2 40 0 0 [vr 272, vi m] (SB k) G (fun v S' G' => S' = SB k ∧ qI (fun r G' => G' = G ∧ r = 2 * capN k + 2) v S' G') (fun E S' G' => S' = SB k ∧ False) := by
  refine Mt.of (l0 := [some (vr 272), some (vi m), none, none, none, none]) (by decide) (Nat.le_of_ble_eq_true rfl) rfl ?_
  intro κ δ ρ0 X E hG
  replace X : CX κ δ RJ5 cJ5_newCapacity_0f7a4 6 (some .int) := X
  have hcap := capN_rng k
  refine a_aload_n (pc := 0) X dJ5_newCapacity_0f7a4_0 rfl rfl ?_
  refine a_getR (pc := 1) (q := 273 + k) X okJ4 0 rfl wF_J5_15 (sb_is k) (sb_rf k) dJ5_newCapacity_0f7a4_1 ?_
  refine a_alen (pc := 4) X (sb_ar k) (by decide) dJ5_newCapacity_0f7a4_4 ?_
  refine a_istore_n (pc := 5) (i := 2) X dJ5_newCapacity_0f7a4_5 rfl (Nat.le_of_ble_eq_true rfl) rfl rfl ?_
  refine a_iload_n (pc := 6) X dJ5_newCapacity_0f7a4_6 rfl rfl ?_
  refine a_aload_n (pc := 7) X dJ5_newCapacity_0f7a4_7 rfl rfl ?_
  refine a_getI (pc := 8) X okJ4 1 rfl wF_J5_22 (sb_is k) dJ5_newCapacity_0f7a4_8 ?_
  rw [hc]
  refine b_ishl (pc := 11) X dJ5_newCapacity_0f7a4_11 ?_
  rw [zShl_0 ⟨by omega, by omega⟩]
  refine a_istore_n (pc := 12) (i := 3) X dJ5_newCapacity_0f7a4_12 rfl (Nat.le_of_ble_eq_true rfl) rfl rfl ?_
  refine a_iload_n (pc := 13) X dJ5_newCapacity_0f7a4_13 rfl rfl ?_
  refine a_iload_n (pc := 14) X dJ5_newCapacity_0f7a4_14 rfl rfl ?_
  refine a_isub (pc := 15) X dJ5_newCapacity_0f7a4_15 ?_
  refine a_istore (pc := 16) X dJ5_newCapacity_0f7a4_16 (Nat.le_of_ble_eq_true rfl) rfl rfl ?_
  refine a_iload_n (pc := 18) X dJ5_newCapacity_0f7a4_18 rfl rfl ?_
  refine a_iload (pc := 19) X dJ5_newCapacity_0f7a4_19 rfl ?_
  refine a_iload_n (pc := 21) X dJ5_newCapacity_0f7a4_21 rfl rfl ?_
  refine a_iconst (pc := 22) X dJ5_newCapacity_0f7a4_22 ?_
  refine a_aload_n (pc := 23) X dJ5_newCapacity_0f7a4_23 rfl rfl ?_
  refine a_getI (pc := 24) X okJ4 1 rfl wF_J5_22 (sb_is k) dJ5_newCapacity_0f7a4_24 ?_
  rw [hc]
  refine b_ishl (pc := 27) X dJ5_newCapacity_0f7a4_27 ?_
  rw [zShl_0 (by decide)]
  refine a_iadd (pc := 28) X dJ5_newCapacity_0f7a4_28 ?_
  refine a_callS (pc := 29) X E (sb_nlen (x := (capN k : Int)) (u := m - capN k) (z := (capN k : Int) + 2) ⟨by omega, by omega⟩ ⟨by omega, by omega⟩ ⟨by omega, by omega⟩) wM_J5_114 w_static_J8_newLength_cabcc w_initialized_RJ8 w_code_J8_newLength_cabcc cpB_len8 pnB_len8 rfl (Nat.le_of_ble_eq_true rfl) ⟨Nat.le_of_ble_eq_true rfl, Nat.le_of_ble_eq_true rfl⟩ ⟨Nat.le_of_ble_eq_true rfl, Nat.le_of_ble_eq_true rfl⟩ dJ5_newCapacity_0f7a4_29 (fun _ _ q => False.elim q) (kIp (fun r hr h => ?_))
  have h9 : r = 2 * capN k + 2 := by omega
  clear h
  subst h9
  refine a_istore (pc := 32) X dJ5_newCapacity_0f7a4_32 (Nat.le_of_ble_eq_true rfl) rfl rfl ?_
  refine a_iload (pc := 34) X dJ5_newCapacity_0f7a4_34 rfl ?_
  refine a_ldc (pc := 36) X (n := 2147483647) wCI_J5_39 dJ5_newCapacity_0f7a4_36 (by decide +kernel) ?_
  refine a_icmp_ne (pc := 38) (tgt := 51) X dJ5_newCapacity_0f7a4_38 rfl ⟨by omega, by omega⟩ (by decide) (fun c9 => ?_) (fun c9 => absurd c9 (by omega))
  refine a_iload (pc := 51) X dJ5_newCapacity_0f7a4_51 rfl ?_
  refine a_aload_n (pc := 53) X dJ5_newCapacity_0f7a4_53 rfl rfl ?_
  refine a_getI (pc := 54) X okJ4 1 rfl wF_J5_22 (sb_is k) dJ5_newCapacity_0f7a4_54 ?_
  rw [hc]
  refine b_ishr (pc := 57) X dJ5_newCapacity_0f7a4_57 ?_
  rw [zShr_z ⟨by omega, by omega⟩]
  exact a_ireturn (pc := 58) X E rfl rfl (Nat.le_of_ble_eq_true rfl) (Nat.le_of_ble_eq_true rfl) dJ5_newCapacity_0f7a4_58 ⟨rfl, _, rfl, ⟨by omega, by omega⟩, rfl, rfl⟩
set_option maxHeartbeats 1000000 in
set_option maxRecDepth 100000 in
theorem sb_cpo {n a N M : Nat} {sh : Nat → Sh} {rf : Nat → Nat → Option Nat} {G : GH} (ha : isAt (n, sh, rf) a (.inl (2, N))) (hsh : sh n = .inl (2, M)) (hfw : ∀ a, a < n → ∀ k q, rf a k = some q → q < n) (hn : n < 1000) (hNM : N < M) (hM : M < 1000) (hb : ∀ i, 0 ≤ G a i ∧ G a i < 128) : Mt yJ7_copyOf_9075b cJ7_copyOf_9075b 3 (some (.array .byte)) 1 44 1 M [vr a, vi (M : Int)] (n, sh, rf) G (fun v S' G' => v = some (vr n) ∧ S' = (n + 1, sh, rf) ∧ G' = cpG (zG G n) a 0 n 0 N) noX := by
  refine Mt.of (l0 := [some (vr a), some (vi (M : Int)), none]) (by decide) (Nat.le_of_ble_eq_true rfl) rfl ?_
  intro κ δ ρ0 X E hG
  replace X : CX κ δ RJ7 cJ7_copyOf_9075b 3 (some (.array .byte)) := X
  refine a_iload_n (pc := 0) X dJ7_copyOf_9075b_0 rfl rfl ?_
  refine a_aload_n (pc := 1) X dJ7_copyOf_9075b_1 rfl rfl ?_
  refine a_alen (pc := 2) X ha (by decide) dJ7_copyOf_9075b_2 ?_
  refine a_icmp_ne (pc := 3) (tgt := 14) X dJ7_copyOf_9075b_3 rfl ⟨by omega, by omega⟩ ⟨by omega, by omega⟩ (fun c9 => ?_) (fun c9 => absurd c9 (by omega))
  refine a_iload_n (pc := 14) X dJ7_copyOf_9075b_14 rfl rfl ?_
  refine a_newarr (atype := .byte) (pc := 15) (n := n) (N := M) (t := 2) (rf := rf) X E.rm (Nat.le_of_ble_eq_true rfl) rfl (fun C h => by cases h) w_arrayClass__byte rfl hsh hfw (by unfold strB; omega) (Nat.le_refl _) (by have := ha.1; simp [rltB, vi, vq] ; exact Or.inl this) rfl (by show M * 1 ≤ _; omega) (by omega) ⟨by omega, by omega⟩ dJ7_copyOf_9075b_15 ?_
  refine a_astore_n (pc := 17) (i := 2) X dJ7_copyOf_9075b_17 rfl (Nat.le_of_ble_eq_true rfl) rfl rfl ?_
  refine a_aload_n (pc := 18) X dJ7_copyOf_9075b_18 rfl rfl ?_
  refine a_iconst (pc := 19) X dJ7_copyOf_9075b_19 ?_
  refine a_aload_n (pc := 20) X dJ7_copyOf_9075b_20 rfl rfl ?_
  refine a_iconst (pc := 21) X dJ7_copyOf_9075b_21 ?_
  refine a_aload_n (pc := 22) X dJ7_copyOf_9075b_22 rfl rfl ?_
  refine a_alen (n := N) (t := 2) (pc := 23) X ⟨Nat.lt_succ_of_lt ha.1, ha.2⟩ (by decide) dJ7_copyOf_9075b_23 ?_
  refine a_iload_n (pc := 24) X dJ7_copyOf_9075b_24 rfl rfl ?_
  refine b_min (pc := 25) X E wM_J7_304 ⟨by omega, by omega⟩ ⟨by omega, by omega⟩ (Nat.le_of_ble_eq_true rfl) (Nat.le_of_ble_eq_true rfl) ⟨by omega, by omega⟩ dJ7_copyOf_9075b_25 ?_
  rw [show min (N : Int) (M : Int) = N by omega]
  refine a_copyb (sp := 0) (dp := 0) (n := N) (pc := 28) X E.rm wM_J7_150 (n0' := N) (n1' := M) ⟨Nat.lt_succ_of_lt ha.1, ha.2⟩ ⟨Nat.lt_succ_self _, hsh⟩ (by omega) (by omega) (by omega) (by omega) (fun i hi => by rw [zG_ne (by have := ha.1; exact Nat.ne_of_lt this)]; exact hb _) (Nat.le_of_ble_eq_true rfl) (Nat.le_of_ble_eq_true rfl) dJ7_copyOf_9075b_28 ?_
  refine a_aload_n (pc := 31) X dJ7_copyOf_9075b_31 rfl rfl ?_
  exact a_areturn (pc := 32) X E rfl (Or.inr ⟨_, rfl⟩) (by omega) (by omega) dJ7_copyOf_9075b_32 ⟨rfl, rfl, rfl⟩
set_option maxHeartbeats 1000000 in
set_option maxRecDepth 100000 in
theorem sb_ens {k : Nat} {G : GH} {t : List Int} {m : Int} (hk : k ≤ 4) (B : BTx k G t) (hm : 0 ≤ m ∧ m ≤ 382) (hm2 : m ≤ t.length + 9) : Mt yJ5_ensureCapacityInternal_d00df cJ5_ensureCapacityInternal_d00df 3 none 3 66 1 382 [vr 272, vi m] (SB k) G (fun v S' G' => v = none ∧ ∃ k', k ≤ k' ∧ k' ≤ 4 ∧ S' = SB k' ∧ BTx k' G' t ∧ m ≤ capN k' ∧ LowH G' G) noX := by
  refine Mt.of (l0 := [some (vr 272), some (vi m), none]) (by decide) (Nat.le_of_ble_eq_true rfl) rfl ?_
  intro κ δ ρ0 X E hG
  replace X : CX κ δ RJ5 cJ5_ensureCapacityInternal_d00df 3 none := X
  have hcap := capN_rng k
  have hB := B
  obtain ⟨hc, hn, hl9, -, hb9⟩ := B
  refine a_aload_n (pc := 0) X dJ5_ensureCapacityInternal_d00df_0 rfl rfl ?_
  refine a_getR (pc := 1) (q := 273 + k) X okJ4 0 rfl wF_J5_15 (sb_is k) (sb_rf k) dJ5_ensureCapacityInternal_d00df_1 ?_
  refine a_alen (pc := 4) X (sb_ar k) (by decide) dJ5_ensureCapacityInternal_d00df_4 ?_
  refine a_aload_n (pc := 5) X dJ5_ensureCapacityInternal_d00df_5 rfl rfl ?_
  refine a_getI (pc := 6) X okJ4 1 rfl wF_J5_22 (sb_is k) dJ5_ensureCapacityInternal_d00df_6 ?_
  rw [hc]
  refine b_ishr (pc := 9) X dJ5_ensureCapacityInternal_d00df_9 ?_
  rw [zShr_z ⟨by omega, by omega⟩]
  refine a_istore_n (pc := 10) (i := 2) X dJ5_ensureCapacityInternal_d00df_10 rfl (Nat.le_of_ble_eq_true rfl) rfl rfl ?_
  refine a_iload_n (pc := 11) X dJ5_ensureCapacityInternal_d00df_11 rfl rfl ?_
  refine a_iload_n (pc := 12) X dJ5_ensureCapacityInternal_d00df_12 rfl rfl ?_
  refine a_isub (pc := 13) X dJ5_ensureCapacityInternal_d00df_13 ?_
  by_cases hcs : m ≤ capN k
  · refine a_if_le (pc := 14) (tgt := 38) X dJ5_ensureCapacityInternal_d00df_14 rfl ⟨by omega, by omega⟩ (fun c => ?_) (fun c => absurd c (by omega))
    exact a_return (pc := 38) X E (Nat.le_of_ble_eq_true rfl) (Nat.le_of_ble_eq_true rfl) dJ5_ensureCapacityInternal_d00df_38 ⟨rfl, k, Nat.le_refl _, hk, rfl, hB, hcs, fun _ _ _ => rfl⟩
  have hk4 : k < 4 := by
    rcases Nat.lt_or_ge k 4 with h | h
    · exact h
    · have e4 : k = 4 := by omega
      subst e4
      rw [capN_4] at hcs
      omega
  have hcs2 := capN_s hk4
  have hcap1 := capN_rng (k + 1)
  refine a_if_le (pc := 14) (tgt := 38) X dJ5_ensureCapacityInternal_d00df_14 rfl ⟨by omega, by omega⟩ (fun c => absurd c (by omega)) (fun c => ?_)
  refine a_aload_n (pc := 17) X dJ5_ensureCapacityInternal_d00df_17 rfl rfl ?_
  refine a_aload_n (pc := 18) X dJ5_ensureCapacityInternal_d00df_18 rfl rfl ?_
  refine a_getR (pc := 19) (q := 273 + k) X okJ4 0 rfl wF_J5_15 (sb_is k) (sb_rf k) dJ5_ensureCapacityInternal_d00df_19 ?_
  refine a_aload_n (pc := 22) X dJ5_ensureCapacityInternal_d00df_22 rfl rfl ?_
  refine a_iload_n (pc := 23) X dJ5_ensureCapacityInternal_d00df_23 rfl rfl ?_
  refine a_callV (pc := 24) X E (sb_newc (m := m) hc ⟨by omega, by omega⟩ (by omega)) okJ4 (sb_is k) wM_J5_104 w_instanceMethod_J5_newCapacity_0f7a4 w_selB_J5_newCapacity_0f7a4 w_initialized_RJ5 w_code_J5_newCapacity_0f7a4 cpB_newc pnB_newc rfl (Nat.le_of_ble_eq_true rfl) ⟨Nat.le_of_ble_eq_true rfl, Nat.le_of_ble_eq_true rfl⟩ ⟨Nat.le_of_ble_eq_true rfl, Nat.le_of_ble_eq_true rfl⟩ dJ5_ensureCapacityInternal_d00df_24 (fun _ _ q => False.elim q) (kIp (fun r hr h => ?_))
  have h9 : r = ((capN (k + 1) : Nat) : Int) := by omega
  clear h
  subst h9
  refine a_aload_n (pc := 27) X dJ5_ensureCapacityInternal_d00df_27 rfl rfl ?_
  refine a_getI (pc := 28) X okJ4 1 rfl wF_J5_22 (sb_is k) dJ5_ensureCapacityInternal_d00df_28 ?_
  rw [hc]
  refine b_ishl (pc := 31) X dJ5_ensureCapacityInternal_d00df_31 ?_
  rw [zShl_0 ⟨by omega, by omega⟩]
  refine g_callS (pc := 32) X E.rm (sb_cpo (M := capN (k + 1)) (sb_ar k) sb_shn sb_fw (by omega) (by omega) (by omega) hb9) (Nat.le_refl _) (by first | rfl | (simp [rltB, vi, vq, vl] <;> (try unfold strB) <;> omega)) (by first | rfl | (simp [rltB, vi, vq, vl] <;> (try unfold strB) <;> omega)) (by rintro v S' G' ⟨-, rfl, -⟩; exact Nat.le_succ _) wM_J5_108 w_static_J7_copyOf_9075b w_initialized_RJ7 w_code_J7_copyOf_9075b cpB_cpo pnB_cpo rfl (Nat.le_of_ble_eq_true rfl) ⟨Nat.le_of_ble_eq_true rfl, Nat.le_of_ble_eq_true rfl⟩ ⟨by omega, by omega⟩ dJ5_ensureCapacityInternal_d00df_32 (fun v S' G' q hG' => ?_)
  obtain ⟨rfl, rfl, rfl⟩ := q
  refine a_putRn (pc := 35) (rf' := rfB (k + 1)) (q := 273 + (k + 1)) X okJ4 0 rfl rfl wF_J5_15 (a := 272) ⟨by omega, rfl⟩ (fun r => ⟨rfl, rfl⟩) sb_put dJ5_ensureCapacityInternal_d00df_35 ?_
  exact a_return (pc := 38) X E (by omega) (by omega) dJ5_ensureCapacityInternal_d00df_38 ⟨rfl, k + 1, Nat.le_succ _, hk4, rfl, hB.grow hk4, by omega, cp_low⟩
set_option maxHeartbeats 1000000 in
set_option maxRecDepth 100000 in
theorem sb_inf {k w : Nat} {G : GH} (hw : w < 15) (hc : G 272 1 = 0) : Mt yJ5_inflateIfNeededFor_a7421 cJ5_inflateIfNeededFor_a7421 2 none 1 20 0 0 [vr 272, vr (strB + w)] (SB k) G (fun v S' G' => S' = SB k ∧ qV (fun G' => G' = G) v S' G') (fun E S' G' => S' = SB k ∧ False) := by
  refine Mt.of (l0 := [some (vr 272), some (vr (strB + w))]) (by decide) (Nat.le_of_ble_eq_true rfl) rfl ?_
  intro κ δ ρ0 X E hG
  replace X : CX κ δ RJ5 cJ5_inflateIfNeededFor_a7421 2 none := X
  refine b_compact (pc := 0) X wF_J5_18 dJ5_inflateIfNeededFor_a7421_0 ?_
  refine a_if_eq (pc := 3) (tgt := 21) X dJ5_inflateIfNeededFor_a7421_3 rfl (by decide) (fun c9 => absurd c9 (by decide)) (fun c9 => ?_)
  refine a_aload_n (pc := 6) X dJ5_inflateIfNeededFor_a7421_6 rfl rfl ?_
  refine a_getI (pc := 7) X okJ4 1 rfl wF_J5_22 (sb_is k) dJ5_inflateIfNeededFor_a7421_7 ?_
  rw [hc]
  refine a_aload_n (pc := 10) X dJ5_inflateIfNeededFor_a7421_10 rfl rfl ?_
  refine a_callVS (pc := 11) X E hw (mS_coder hw) wM_J5_40 w_instanceMethod_J0_coder_7d493 w_selects_J0_coder_7d493 w_initialized_RJ0 w_code_J0_coder_7d493 cpS_coder pnS_coder rfl (Nat.le_of_ble_eq_true rfl) ⟨Nat.le_of_ble_eq_true rfl, Nat.le_of_ble_eq_true rfl⟩ ⟨Nat.le_of_ble_eq_true rfl, Nat.le_of_ble_eq_true rfl⟩ dJ5_inflateIfNeededFor_a7421_11 (fun _ _ q => False.elim q) (kIp (fun r hr h => ?_))
  subst h
  refine a_icmp_eq (pc := 14) (tgt := 21) X dJ5_inflateIfNeededFor_a7421_14 rfl (by decide) (by decide) (fun c9 => ?_) (fun c9 => absurd rfl c9)
  exact a_return (pc := 21) X E (Nat.le_of_ble_eq_true rfl) (Nat.le_of_ble_eq_true rfl) dJ5_inflateIfNeededFor_a7421_21 ⟨rfl, rfl, rfl⟩
set_option maxHeartbeats 1000000 in
set_option maxRecDepth 100000 in
theorem sb_gby {k w dp : Nat} {G : GH} (hw : w < 15) (hd9 : dp + strL.getD w 0 ≤ capN k) : Mt yJ0_getBytes_840e7 cJ0_getBytes_840e7 4 none 1 44 0 0 [vr (strB + w), vr (273 + k), vi (dp : Int), vi 0] (SB k) G (fun v S' G' => S' = SB k ∧ qV (fun G' => G' = tcG G w (273 + k) dp (strL.getD w 0)) v S' G') (fun E S' G' => S' = SB k ∧ False) := by
  refine Mt.of (l0 := [some (vr (strB + w)), some (vr (273 + k)), some (vi (dp : Int)), some (vi 0)]) (by decide) (Nat.le_of_ble_eq_true rfl) rfl ?_
  intro κ δ ρ0 X E hG
  replace X : CX κ δ RJ0 cJ0_getBytes_840e7 4 none := X
  have hcap := capN_rng k
  refine a_aload_n (pc := 0) X dJ0_getBytes_840e7_0 rfl rfl ?_
  refine a_callVS (pc := 1) X E hw (mS_coder hw) wM_J0_335 w_instanceMethod_J0_coder_7d493 w_selects_J0_coder_7d493 w_initialized_RJ0 w_code_J0_coder_7d493 cpS_coder pnS_coder rfl (Nat.le_of_ble_eq_true rfl) ⟨Nat.le_of_ble_eq_true rfl, Nat.le_of_ble_eq_true rfl⟩ ⟨Nat.le_of_ble_eq_true rfl, Nat.le_of_ble_eq_true rfl⟩ dJ0_getBytes_840e7_1 (fun _ _ q => False.elim q) (kIp (fun r hr h => ?_))
  subst h
  refine a_iload_n (pc := 4) X dJ0_getBytes_840e7_4 rfl rfl ?_
  refine a_icmp_ne (pc := 5) (tgt := 28) X dJ0_getBytes_840e7_5 rfl (by decide) (by decide) (fun c9 => absurd rfl c9) (fun c9 => ?_)
  refine a_aload_n (pc := 8) X dJ0_getBytes_840e7_8 rfl rfl ?_
  refine s_value (pc := 9) X hw rfl dJ0_getBytes_840e7_9 ?_
  refine a_iconst (pc := 12) X dJ0_getBytes_840e7_12 ?_
  refine a_aload_n (pc := 13) X dJ0_getBytes_840e7_13 rfl rfl ?_
  refine a_iload_n (pc := 14) X dJ0_getBytes_840e7_14 rfl rfl ?_
  refine a_iload_n (pc := 15) X dJ0_getBytes_840e7_15 rfl rfl ?_
  refine b_ishl (pc := 16) X dJ0_getBytes_840e7_16 ?_
  rw [zShl_0 ⟨by omega, by omega⟩]
  refine a_aload_n (pc := 17) X dJ0_getBytes_840e7_17 rfl rfl ?_
  refine s_value (pc := 18) X hw rfl dJ0_getBytes_840e7_18 ?_
  refine s_alen (pc := 21) X hw dJ0_getBytes_840e7_21 ?_
  refine a_copyt (pc := 22) (dp := dp) X E.rm hw wM_J0_212 (sb_ar k) hd9 (by omega) (Nat.le_of_ble_eq_true rfl) (Nat.le_of_ble_eq_true rfl) dJ0_getBytes_840e7_22 ?_
  refine a_goto (pc := 25) (tgt := 43) X dJ0_getBytes_840e7_25 rfl ?_
  exact a_return (pc := 43) X E (Nat.le_of_ble_eq_true rfl) (Nat.le_of_ble_eq_true rfl) dJ0_getBytes_840e7_43 ⟨rfl, rfl, rfl⟩
set_option maxHeartbeats 1000000 in
set_option maxRecDepth 100000 in
theorem sb_pst {k w dp : Nat} {G : GH} (hw : w < 15) (hc : G 272 1 = 0) (hd9 : dp + strL.getD w 0 ≤ capN k) : Mt yJ5_putStringAt_47b60 cJ5_putStringAt_47b60 3 none 2 67 0 0 [vr 272, vi (dp : Int), vr (strB + w)] (SB k) G (fun v S' G' => S' = SB k ∧ qV (fun G' => G' = tcG G w (273 + k) dp (strL.getD w 0)) v S' G') (fun E S' G' => S' = SB k ∧ False) := by
  refine Mt.of (l0 := [some (vr 272), some (vi (dp : Int)), some (vr (strB + w))]) (by decide) (Nat.le_of_ble_eq_true rfl) rfl ?_
  intro κ δ ρ0 X E hG
  replace X : CX κ δ RJ5 cJ5_putStringAt_47b60 3 none := X
  refine a_aload_n (pc := 0) X dJ5_putStringAt_47b60_0 rfl rfl ?_
  refine a_aload_n (pc := 1) X dJ5_putStringAt_47b60_1 rfl rfl ?_
  refine a_callV (pc := 2) X E (sb_inf hw hc) okJ4 (sb_is k) wM_J5_397 w_instanceMethod_J5_inflateIfNeededFor_a7421 w_selB_J5_inflateIfNeededFor_a7421 w_initialized_RJ5 w_code_J5_inflateIfNeededFor_a7421 cpB_inf pnB_inf rfl (Nat.le_of_ble_eq_true rfl) ⟨Nat.le_of_ble_eq_true rfl, Nat.le_of_ble_eq_true rfl⟩ ⟨Nat.le_of_ble_eq_true rfl, Nat.le_of_ble_eq_true rfl⟩ dJ5_putStringAt_47b60_2 (fun _ _ q => False.elim q) (kV (fun G1 h hG1 => ?_))
  subst h
  refine a_aload_n (pc := 5) X dJ5_putStringAt_47b60_5 rfl rfl ?_
  refine a_aload_n (pc := 6) X dJ5_putStringAt_47b60_6 rfl rfl ?_
  refine a_getR (pc := 7) (q := 273 + k) X okJ4 0 rfl wF_J5_15 (sb_is k) (sb_rf k) dJ5_putStringAt_47b60_7 ?_
  refine a_iload_n (pc := 10) X dJ5_putStringAt_47b60_10 rfl rfl ?_
  refine a_aload_n (pc := 11) X dJ5_putStringAt_47b60_11 rfl rfl ?_
  refine a_getI (pc := 12) X okJ4 1 rfl wF_J5_22 (sb_is k) dJ5_putStringAt_47b60_12 ?_
  rw [hc]
  refine a_callVS (pc := 15) X E hw (sb_gby hw hd9) wM_J5_399 w_instanceMethod_J0_getBytes_840e7 w_selects_J0_getBytes_840e7 w_initialized_RJ0 w_code_J0_getBytes_840e7 cpB_gby pnB_gby rfl (Nat.le_of_ble_eq_true rfl) ⟨Nat.le_of_ble_eq_true rfl, Nat.le_of_ble_eq_true rfl⟩ ⟨Nat.le_of_ble_eq_true rfl, Nat.le_of_ble_eq_true rfl⟩ dJ5_putStringAt_47b60_15 (fun _ _ q => False.elim q) (kV (fun G1 h hG1 => ?_))
  subst h
  exact a_return (pc := 18) X E (Nat.le_of_ble_eq_true rfl) (Nat.le_of_ble_eq_true rfl) dJ5_putStringAt_47b60_18 ⟨rfl, rfl, rfl⟩
def tOK (t : List Int) : Prop := ∀ x ∈ t, 0 ≤ x ∧ x < 128
/-- the constant w as letters -/
def cT (w : Nat) : List Int := (strT.getD w []).map (·.toInt)
theorem cT_len : ∀ w, w < 15 → (cT w).length = strL.getD w 0 := by decide +kernel
theorem cT_9 : ∀ w, w < 15 → strL.getD w 0 ≤ 9 := by decide +kernel
theorem cT_at {w i : Nat} (h : i < (cT w).length) : schr w i = (cT w).getD i 0 := by
  unfold cT at h ⊢
  rw [List.length_map] at h
  unfold schr
  generalize strT.getD w [] = L at h ⊢
  rw [List.getD_eq_getElem?_getD, List.getD_eq_getElem?_getD, List.getElem?_map, List.getElem?_eq_getElem h]
  rfl
theorem getD_app1 {t u : List Int} {i : Nat} (h : i < t.length) : (t ++ u).getD i 0 = t.getD i 0 := by
  rw [List.getD_eq_getElem?_getD, List.getD_eq_getElem?_getD, List.getElem?_append_left h]
theorem getD_app2 {t u : List Int} {i : Nat} (h : t.length ≤ i) : (t ++ u).getD i 0 = u.getD (i - t.length) 0 := by
  rw [List.getD_eq_getElem?_getD, List.getD_eq_getElem?_getD, List.getElem?_append_right h]
theorem BTx.str {k w : Nat} {G : GH} {t : List Int} (hw : w < 15) (B : BTx k G t) (hd : t.length + strL.getD w 0 ≤ capN k) : BTx k (upG (tcG G w (273 + k) t.length (strL.getD w 0)) 272 3 ((t.length : Int) + slen w)) (t ++ cT w) := by
  obtain ⟨b1, b2, b3, b4, b5⟩ := B
  have hl := cT_len w hw
  have e : ∀ i, upG (tcG G w (273 + k) t.length (strL.getD w 0)) 272 3 ((t.length : Int) + slen w) (273 + k) i = if t.length ≤ i ∧ i < t.length + strL.getD w 0 then schr w (i - t.length) else G (273 + k) i := by
    intro i
    rw [upG_na (by omega)]
    unfold tcG
    by_cases h : t.length ≤ i ∧ i < t.length + strL.getD w 0
    · rw [if_pos ⟨rfl, h⟩, if_pos h]
    · rw [if_neg (fun q => h q.2), if_neg h]
  refine ⟨?_, ?_, by rw [List.length_append, hl]; exact hd, fun i hi => ?_, fun i => ?_⟩
  · rw [upG_nk (by decide)]
    unfold tcG
    rw [if_neg (by omega)]
    exact b1
  · rw [upG_same, List.length_append, hl, Int.natCast_add]
    rfl
  · rw [List.length_append, hl] at hi
    rw [e]
    by_cases h : i < t.length
    · rw [if_neg (by omega), getD_app1 h]; exact b4 i h
    · rw [if_pos ⟨by omega, hi⟩, getD_app2 (by omega)]; exact cT_at (by omega)
  · rw [e]
    split
    · exact schr_rng hw
    · exact b5 i
theorem LowH.str {k w dp n : Nat} {G : GH} {v : Int} : LowH (upG (tcG G w (273 + k) dp n) 272 3 v) G := by
  intro a h j
  rw [upG_na (by omega)]
  unfold tcG
  rw [if_neg (by omega)]
theorem LowH.tr {G1 G2 G3 : GH} (h1 : LowH G1 G2) (h2 : LowH G2 G3) : LowH G1 G3 := fun a h j => (h1 a h j).trans (h2 a h j)
/-- what is behind an append of the letters u -/
def ApQ (k : Nat) (G : GH) (t u : List Int) : Option AV → ASt → GH → Prop := fun v S' G' => v = some (vr 272) ∧ ∃ k', k ≤ k' ∧ k' ≤ 4 ∧ S' = SB k' ∧ BTx k' G' (t ++ u) ∧ LowH G' G
theorem ApQ_ge {k : Nat} {G : GH} {t u : List Int} : ∀ v S' G', ApQ k G t u v S' G' → (SB k).1 ≤ S'.1 := by
  rintro v S' G' ⟨-, k', h1, -, rfl, -⟩
  show 273 + (k + 1) ≤ 273 + (k' + 1)
  omega
set_option maxHeartbeats 1000000 in
set_option maxRecDepth 100000 in
theorem sb_apS5 {k w : Nat} {G : GH} {t : List Int} (hk : k ≤ 4) (hw : w < 15) (B : BTx k G t) (ht : t.length ≤ 372) : Mt yJ5_append_cf1ce cJ5_append_cf1ce 3 (some (.object "java/lang/AbstractStringBuilder")) 4 89 1 382 [vr 272, vr (strB + w)] (SB k) G (ApQ k G t (cT w)) noX := by
  refine Mt.of (l0 := [some (vr 272), some (vr (strB + w)), none]) (by decide) (Nat.le_of_ble_eq_true rfl) rfl ?_
  intro κ δ ρ0 X E hG
  replace X : CX κ δ RJ5 cJ5_append_cf1ce 3 (some (.object "java/lang/AbstractStringBuilder")) := X
  have hB := B
  obtain ⟨hc, hn, hl9, -, hb9⟩ := B
  have hcap := capN_rng k
  have h9 := cT_9 w hw
  have hsl : slen w = ((strL.getD w 0 : Nat) : Int) := rfl
  refine a_aload_n (pc := 0) X dJ5_append_cf1ce_0 rfl rfl ?_
  refine a_ifnonnull (pc := 1) (tgt := 9) X dJ5_append_cf1ce_1 rfl ?_
  refine a_aload_n (pc := 9) X dJ5_append_cf1ce_9 rfl rfl ?_
  refine a_callVS (pc := 10) X E hw (mS_len hw) wM_J5_32 w_instanceMethod_J0_length_8abf5 w_selects_J0_length_8abf5 w_initialized_RJ0 w_code_J0_length_8abf5 cpS_len pnS_len rfl (Nat.le_of_ble_eq_true rfl) ⟨Nat.le_of_ble_eq_true rfl, Nat.le_of_ble_eq_true rfl⟩ ⟨by omega, by omega⟩ dJ5_append_cf1ce_10 (fun _ _ q => False.elim q) (kIp (fun r hr h => ?_))
  subst h
  refine a_istore_n (pc := 13) (i := 2) X dJ5_append_cf1ce_13 rfl (Nat.le_of_ble_eq_true rfl) rfl rfl ?_
  refine a_aload_n (pc := 14) X dJ5_append_cf1ce_14 rfl rfl ?_
  refine a_aload_n (pc := 15) X dJ5_append_cf1ce_15 rfl rfl ?_
  refine a_getI (pc := 16) X okJ4 3 rfl wF_J5_79 (sb_is k) dJ5_append_cf1ce_16 ?_
  rw [hn]
  refine a_iload_n (pc := 19) X dJ5_append_cf1ce_19 rfl rfl ?_
  refine a_iadd (pc := 20) X dJ5_append_cf1ce_20 ?_
  refine g_callV (pc := 21) X E.rm (sb_ens (m := (t.length : Int) + slen w) hk hB ⟨by omega, by omega⟩ (by omega)) (Nat.le_refl _) (by first | rfl | (simp [rltB, vi, vq, vl] <;> (try unfold strB) <;> omega)) (by first | rfl | (simp [rltB, vi, vq, vl] <;> (try unfold strB) <;> omega)) (by rintro v S' G' ⟨-, k', h1, -, rfl, -⟩; show 273 + (k + 1) ≤ 273 + (k' + 1); omega) okJ4 (sb_is k) wM_J5_100 w_instanceMethod_J5_ensureCapacityInternal_d00df w_selB_J5_ensureCapacityInternal_d00df w_initialized_RJ5 w_code_J5_ensureCapacityInternal_d00df cpB_ens pnB_ens rfl (Nat.le_of_ble_eq_true rfl) ⟨Nat.le_of_ble_eq_true rfl, Nat.le_of_ble_eq_true rfl⟩ ⟨by omega, by omega⟩ dJ5_append_cf1ce_21 (fun v S' G' q hG' => ?_)
  obtain ⟨rfl, k1, hk1, hk14, rfl, B1, hm1, hL1⟩ := q
  clear hc hn hb9
  have hcap1 := capN_rng k1
  have hB1 := B1
  obtain ⟨hc, hn, hl9, -, hb9⟩ := B1
  have hd9 : t.length + strL.getD w 0 ≤ capN k1 := by omega
  refine a_aload_n (pc := 24) X dJ5_append_cf1ce_24 rfl rfl ?_
  refine a_aload_n (pc := 25) X dJ5_append_cf1ce_25 rfl rfl ?_
  refine a_getI (pc := 26) X okJ4 3 rfl wF_J5_79 (sb_is k1) dJ5_append_cf1ce_26 ?_
  rw [hn]
  refine a_aload_n (pc := 29) X dJ5_append_cf1ce_29 rfl rfl ?_
  refine a_callV (pc := 30) X E (sb_pst (dp := t.length) hw hc hd9) okJ4 (sb_is k1) wM_J5_208 w_instanceMethod_J5_putStringAt_47b60 w_selB_J5_putStringAt_47b60 w_initialized_RJ5 w_code_J5_putStringAt_47b60 cpB_pst pnB_pst rfl (Nat.le_of_ble_eq_true rfl) ⟨Nat.le_of_ble_eq_true rfl, Nat.le_of_ble_eq_true rfl⟩ ⟨by omega, by omega⟩ dJ5_append_cf1ce_30 (fun _ _ q => False.elim q) (kV (fun G1 h hG1 => ?_))
  subst h
  have hn2 : tcG G' w (273 + k1) t.length (strL.getD w 0) 272 3 = (t.length : Int) := by unfold tcG; rw [if_neg (by omega)]; exact hn
  refine a_aload_n (pc := 33) X dJ5_append_cf1ce_33 rfl rfl ?_
  refine a_dup (pc := 34) X dJ5_append_cf1ce_34 rfl ?_
  refine a_getI (pc := 35) X okJ4 3 rfl wF_J5_79 (sb_is k1) dJ5_append_cf1ce_35 ?_
  rw [hn2]
  refine a_iload_n (pc := 38) X dJ5_append_cf1ce_38 rfl rfl ?_
  refine a_iadd (pc := 39) X dJ5_append_cf1ce_39 ?_
  refine a_putI (pc := 40) X okJ4 3 rfl rfl wF_J5_79 (sb_is k1) dJ5_append_cf1ce_40 ⟨by omega, by omega⟩ (fit_int _) (fun hG2 => ?_)
  refine a_aload_n (pc := 43) X dJ5_append_cf1ce_43 rfl rfl ?_
  exact a_areturn (pc := 44) X E rfl (Or.inl ⟨_, rfl⟩) (by omega) (by omega) dJ5_append_cf1ce_44 ⟨rfl, k1, hk1, hk14, rfl, hB1.str hw hd9, LowH.str.tr hL1⟩
set_option maxHeartbeats 1000000 in
set_option maxRecDepth 100000 in
theorem sb_apS4 {k w : Nat} {G : GH} {t : List Int} (hk : k ≤ 4) (hw : w < 15) (B : BTx k G t) (ht : t.length ≤ 372) : Mt yJ4_append_15ec4 cJ4_append_15ec4 2 (some (.object "java/lang/StringBuilder")) 5 111 1 382 [vr 272, vr (strB + w)] (SB k) G (ApQ k G t (cT w)) noX := by
  refine Mt.of (l0 := [some (vr 272), some (vr (strB + w))]) (by decide) (Nat.le_of_ble_eq_true rfl) rfl ?_
  intro κ δ ρ0 X E hG
  replace X : CX κ δ RJ4 cJ4_append_15ec4 2 (some (.object "java/lang/StringBuilder")) := X
  refine a_aload_n (pc := 0) X dJ4_append_15ec4_0 rfl rfl ?_
  refine a_aload_n (pc := 1) X dJ4_append_15ec4_1 rfl rfl ?_
  refine g_callSU (pc := 2) X E.rm (sb_apS5 hk hw B ht) (Nat.le_refl _) (by first | rfl | (simp [rltB, vi, vq, vl] <;> (try unfold strB) <;> omega)) (by first | rfl | (simp [rltB, vi, vq, vl] <;> (try unfold strB) <;> omega)) ApQ_ge okJ4 (sb_is k) wM_J4_29 w_same_J5_append_cf1ce w_superclass_RJ4 w_instanceMethod_J5_append_cf1ce w_initialized_RJ5 w_code_J5_append_cf1ce ⟨by decide +kernel, pnB_apS5⟩ rfl (Nat.le_of_ble_eq_true rfl) ⟨Nat.le_of_ble_eq_true rfl, Nat.le_of_ble_eq_true rfl⟩ ⟨by omega, by omega⟩ dJ4_append_15ec4_2 (fun v S' G' q hG' => ?_)
  obtain ⟨rfl, k1, hk1, hk14, rfl, B1, hL1⟩ := q
  refine a_pop (pc := 5) X dJ4_append_15ec4_5 rfl ?_
  refine a_aload_n (pc := 6) X dJ4_append_15ec4_6 rfl rfl ?_
  exact a_areturn (pc := 7) X E rfl (Or.inl ⟨_, rfl⟩) (by omega) (by omega) dJ4_append_15ec4_7 ⟨rfl, k1, hk1, hk14, rfl, B1, hL1⟩
set_option maxHeartbeats 1000000 in
set_option maxRecDepth 100000 in
theorem sb_apSB {k w : Nat} {G : GH} {t : List Int} (hk : k ≤ 4) (hw : w < 15) (B : BTx k G t) (ht : t.length ≤ 372) : Mt yJ4_append_cf1ce cJ4_append_cf1ce 2 (some (.object "java/lang/AbstractStringBuilder")) 6 132 1 382 [vr 272, vr (strB + w)] (SB k) G (ApQ k G t (cT w)) noX := by
  refine Mt.of (l0 := [some (vr 272), some (vr (strB + w))]) (by decide) (Nat.le_of_ble_eq_true rfl) rfl ?_
  intro κ δ ρ0 X E hG
  replace X : CX κ δ RJ4 cJ4_append_cf1ce 2 (some (.object "java/lang/AbstractStringBuilder")) := X
  refine a_aload_n (pc := 0) X dJ4_append_cf1ce_0 rfl rfl ?_
  refine a_aload_n (pc := 1) X dJ4_append_cf1ce_1 rfl rfl ?_
  refine g_callV (pc := 2) X E.rm (sb_apS4 hk hw B ht) (Nat.le_refl _) (by first | rfl | (simp [rltB, vi, vq, vl] <;> (try unfold strB) <;> omega)) (by first | rfl | (simp [rltB, vi, vq, vl] <;> (try unfold strB) <;> omega)) ApQ_ge okJ4 (sb_is k) wM_J4_23 w_instanceMethod_J4_append_15ec4 w_selects_J4_append_15ec4 w_initialized_RJ4 w_code_J4_append_15ec4 cpB_apS4 pnB_apS4 rfl (Nat.le_of_ble_eq_true rfl) ⟨Nat.le_of_ble_eq_true rfl, Nat.le_of_ble_eq_true rfl⟩ ⟨by omega, by omega⟩ dJ4_append_cf1ce_2 (fun v S' G' q hG' => ?_)
  obtain ⟨rfl, k1, hk1, hk14, rfl, B1, hL1⟩ := q
  exact a_areturn (pc := 5) X E rfl (Or.inl ⟨_, rfl⟩) (by omega) (by omega) dJ4_append_cf1ce_5 ⟨rfl, k1, hk1, hk14, rfl, B1, hL1⟩
end SBW1

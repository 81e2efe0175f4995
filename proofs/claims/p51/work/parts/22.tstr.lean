-- ===== a text behind the class's cells (272 the String, 273 its bytes): its length and its letters =====
def tLen (nn : Nat) : Int := ((nn - 1000 : Nat) : Int)
theorem tLen_inR {nn : Nat} (h : nn < 2000) : inR (tLen nn) := ⟨by unfold tLen; omega, by unfold tLen; omega⟩
section TST
variable {nn : Nat}
theorem t_sz (h : 1000 ≤ nn) : szF nn = 274 := if_neg (by omega)
theorem t_is (h : 1000 ≤ nn) : isAt (SF nn) 272 (.inr 10) := ⟨by show 272 < szF nn; rw [t_sz h]; omega, rfl⟩
theorem t_ar (h : 1000 ≤ nn) : isAt (SF nn) 273 (.inl (2, nn - 1000)) := ⟨by show 273 < szF nn; rw [t_sz h]; omega, rfl⟩
theorem t_rf : (SF nn).2.2 272 0 = some 273 := rfl
end TST
section TSTM
variable {nn : Nat} {G : GH}
set_option maxHeartbeats 1000000 in
set_option maxRecDepth 100000 in
theorem mT_coder (h0 : 1000 ≤ nn) (hc : G 272 1 = 0) : Mt yJ0_coder_7d493 cJ0_coder_7d493 1 (some .byte) 0 0 0 0 [vr 272] (SF nn) G (fun v S' G' => S' = SF nn ∧ qI (fun r G' => G' = G ∧ r = 0) v S' G') (fun E S' G' => S' = SF nn ∧ False) := by
  refine Mt.of (l0 := [some (vr 272)]) (by decide) (Nat.le_of_ble_eq_true rfl) rfl ?_
  intro κ δ ρ0 X E hG
  replace X : CX κ δ RJ0 cJ0_coder_7d493 1 (some .byte) := X
  refine s_compact (pc := 0) X rfl dJ0_coder_7d493_0 ?_
  refine a_if_eq (pc := 3) (tgt := 13) X dJ0_coder_7d493_3 rfl (by decide) (fun c => absurd c (by decide)) (fun c => ?_)
  refine a_aload_n (pc := 6) X dJ0_coder_7d493_6 rfl rfl ?_
  refine a_getI (pc := 7) X okJ0 1 rfl wF_J0_15 (t_is h0) dJ0_coder_7d493_7 ?_
  rw [hc]
  refine a_goto (pc := 10) (tgt := 14) X dJ0_coder_7d493_10 rfl ?_
  exact a_ireturn (pc := 14) X E rfl rfl (Nat.le_of_ble_eq_true rfl) (Nat.le_of_ble_eq_true rfl) dJ0_coder_7d493_14 ⟨rfl, _, rfl, by decide, rfl, rfl⟩
set_option maxHeartbeats 1000000 in
set_option maxRecDepth 100000 in
theorem mT_isL (h0 : 1000 ≤ nn) (hc : G 272 1 = 0) : Mt yJ0_isLatin1_aae02 cJ0_isLatin1_aae02 1 (some .boolean) 0 0 0 0 [vr 272] (SF nn) G (fun v S' G' => S' = SF nn ∧ qI (fun r G' => G' = G ∧ r = 1) v S' G') (fun E S' G' => S' = SF nn ∧ False) := by
  refine Mt.of (l0 := [some (vr 272)]) (by decide) (Nat.le_of_ble_eq_true rfl) rfl ?_
  intro κ δ ρ0 X E hG
  replace X : CX κ δ RJ0 cJ0_isLatin1_aae02 1 (some .boolean) := X
  refine s_compact (pc := 0) X rfl dJ0_isLatin1_aae02_0 ?_
  refine a_if_eq (pc := 3) (tgt := 17) X dJ0_isLatin1_aae02_3 rfl (by decide) (fun c => absurd c (by decide)) (fun c => ?_)
  refine a_aload_n (pc := 6) X dJ0_isLatin1_aae02_6 rfl rfl ?_
  refine a_getI (pc := 7) X okJ0 1 rfl wF_J0_15 (t_is h0) dJ0_isLatin1_aae02_7 ?_
  rw [hc]
  refine a_if_ne (pc := 10) (tgt := 17) X dJ0_isLatin1_aae02_10 rfl (by decide) (fun c => absurd rfl c) (fun c => ?_)
  refine a_iconst (pc := 13) X dJ0_isLatin1_aae02_13 ?_
  refine a_goto (pc := 14) (tgt := 18) X dJ0_isLatin1_aae02_14 rfl ?_
  exact a_ireturn (pc := 18) X E rfl rfl (Nat.le_of_ble_eq_true rfl) (Nat.le_of_ble_eq_true rfl) dJ0_isLatin1_aae02_18 ⟨rfl, _, rfl, by decide, rfl, rfl⟩
theorem zShr_0 {n : Nat} (h : n < 2147483648) : zShr (n : Int) 0 = n := by
  have e9 := zI_shr (x := n) (y := 0) (by omega) (by omega)
  unfold zShr
  rw [show zI ((0 : Nat) : Int) = zI 0 from rfl] at e9
  rw [e9]
  simp only [Nat.pow_zero, Nat.div_one]
  exact zI_toInt ⟨by omega, by omega⟩
set_option maxHeartbeats 1000000 in
set_option maxRecDepth 100000 in
theorem mT_len (h0 : 1000 ≤ nn ∧ nn < 2000) (hc : G 272 1 = 0) : Mt yJ0_length_8abf5 cJ0_length_8abf5 1 (some .int) 1 20 0 0 [vr 272] (SF nn) G (fun v S' G' => S' = SF nn ∧ qI (fun r G' => G' = G ∧ r = tLen nn) v S' G') (fun E S' G' => S' = SF nn ∧ False) := by
  refine Mt.of (l0 := [some (vr 272)]) (by decide) (Nat.le_of_ble_eq_true rfl) rfl ?_
  intro κ δ ρ0 X E hG
  replace X : CX κ δ RJ0 cJ0_length_8abf5 1 (some .int) := X
  refine a_aload_n (pc := 0) X dJ0_length_8abf5_0 rfl rfl ?_
  refine a_getR (pc := 1) (q := 273) X okJ0 0 rfl wF_J0_9 (t_is h0.1) t_rf dJ0_length_8abf5_1 ?_
  refine a_alen (pc := 4) X (t_ar h0.1) (by decide) dJ0_length_8abf5_4 ?_
  refine a_aload_n (pc := 5) X dJ0_length_8abf5_5 rfl rfl ?_
  refine a_callV (pc := 6) X E (mT_coder h0.1 hc) okJ0 (t_is h0.1) wM_J0_335 w_instanceMethod_J0_coder_7d493 w_selects_J0_coder_7d493 w_initialized_RJ0 w_code_J0_coder_7d493 cpS_coder pnS_coder rfl (Nat.le_of_ble_eq_true rfl) ⟨Nat.le_of_ble_eq_true rfl, Nat.le_of_ble_eq_true rfl⟩ ⟨Nat.le_of_ble_eq_true rfl, Nat.le_of_ble_eq_true rfl⟩ dJ0_length_8abf5_6 (fun _ _ q => False.elim q) (kIp (fun r hr h => ?_))
  subst h
  refine b_ishr (pc := 9) X dJ0_length_8abf5_9 ?_
  rw [zShr_0 (by omega)]
  exact a_ireturn (pc := 10) X E rfl rfl (Nat.le_of_ble_eq_true rfl) (Nat.le_of_ble_eq_true rfl) dJ0_length_8abf5_10 ⟨rfl, _, rfl, tLen_inR h0.2, rfl, rfl⟩
theorem chr_nar {x : Int} (h : 0 ≤ x ∧ x < 128) : narrow .char (.int (zI x)) = .int (zI x) := by
  obtain ⟨n, rfl⟩ := Int.eq_ofNat_of_zero_le h.1
  have hc : ∀ n : Nat, n < 128 → vp_nar .char (zI (n : Int)) = zI n := by decide +kernel
  have := hc n (by omega)
  unfold vp_nar at this
  rw [show narrow .char (.int (zI (n : Int))) = .int ((zI (n : Int)).toUInt32.toUInt16.toUInt32.toInt32) from rfl] at this ⊢
  exact congrArg Value.int this
theorem zAnd_asc {x : Int} (h : 0 ≤ x ∧ x < 128) : zAnd x 255 = x := by
  obtain ⟨n, rfl⟩ := Int.eq_ofNat_of_zero_le h.1
  exact zAnd_255 n (by omega)
set_option maxHeartbeats 1000000 in
set_option maxRecDepth 100000 in
theorem mT_l1 {i : Int} (h0 : 1000 ≤ nn ∧ nn < 2000) (hi : 0 ≤ i ∧ i < tLen nn) (hb : 0 ≤ G 273 i.toNat ∧ G 273 i.toNat < 128) : Mt yJ1_charAt_3b067 cJ1_charAt_3b067 2 (some .char) 2 43 0 0 [vr 273, vi i] (SF nn) G (fun v S' G' => S' = SF nn ∧ qI (fun r G' => G' = G ∧ r = G 273 i.toNat) v S' G') (fun E S' G' => S' = SF nn ∧ False) := by
  refine Mt.of (l0 := [some (vr 273), some (vi i)]) (by decide) (Nat.le_of_ble_eq_true rfl) rfl ?_
  intro κ δ ρ0 X E hG
  replace X : CX κ δ RJ1 cJ1_charAt_3b067 2 (some .char) := X
  have hl := (tLen_inR h0.2).2
  refine a_iload_n (pc := 0) X dJ1_charAt_3b067_0 rfl rfl ?_
  refine a_aload_n (pc := 1) X dJ1_charAt_3b067_1 rfl rfl ?_
  refine a_alen (pc := 2) X (t_ar h0.1) (by decide) dJ1_charAt_3b067_2 ?_
  refine a_callS (pc := 3) X E (mS_chk SF_noFar hi ⟨by omega, by omega⟩ (tLen_inR h0.2)) wM_J1_9 w_static_J0_checkIndex_df160 w_initialized_RJ0 w_code_J0_checkIndex_df160 cpS_chk pnS_chk rfl (Nat.le_of_ble_eq_true rfl) ⟨Nat.le_of_ble_eq_true rfl, Nat.le_of_ble_eq_true rfl⟩ ⟨Nat.le_of_ble_eq_true rfl, Nat.le_of_ble_eq_true rfl⟩ dJ1_charAt_3b067_3 (fun _ _ q => False.elim q) (kV (fun G1 h hG1 => ?_))
  subst h
  refine a_aload_n (pc := 6) X dJ1_charAt_3b067_6 rfl rfl ?_
  refine a_iload_n (pc := 7) X dJ1_charAt_3b067_7 rfl rfl ?_
  refine b_bald (pc := 8) X (t_ar h0.1) (by omega) hi dJ1_charAt_3b067_8 ?_
  refine a_sipush (pc := 9) X dJ1_charAt_3b067_9 rfl ?_
  refine b_iand (pc := 12) X dJ1_charAt_3b067_12 ?_
  rw [zAnd_asc hb]
  refine a_i2c (pc := 13) X ⟨hb.1, by omega⟩ dJ1_charAt_3b067_13 ?_
  exact a_ireturn (pc := 14) (ty := .char) X E rfl (chr_nar hb) (Nat.le_of_ble_eq_true rfl) (Nat.le_of_ble_eq_true rfl) dJ1_charAt_3b067_14 ⟨rfl, _, rfl, hG _ _, rfl, rfl⟩
set_option maxHeartbeats 1000000 in
set_option maxRecDepth 100000 in
theorem mT_chr {i : Int} (h0 : 1000 ≤ nn ∧ nn < 2000) (hc : G 272 1 = 0) (hi : 0 ≤ i ∧ i < tLen nn) (hb : 0 ≤ G 273 i.toNat ∧ G 273 i.toNat < 128) : Mt yJ0_charAt_5068e cJ0_charAt_5068e 2 (some .char) 3 64 0 0 [vr 272, vi i] (SF nn) G (fun v S' G' => S' = SF nn ∧ qI (fun r G' => G' = G ∧ r = G 273 i.toNat) v S' G') (fun E S' G' => S' = SF nn ∧ False) := by
  refine Mt.of (l0 := [some (vr 272), some (vi i)]) (by decide) (Nat.le_of_ble_eq_true rfl) rfl ?_
  intro κ δ ρ0 X E hG
  replace X : CX κ δ RJ0 cJ0_charAt_5068e 2 (some .char) := X
  refine a_aload_n (pc := 0) X dJ0_charAt_5068e_0 rfl rfl ?_
  refine a_callV (pc := 1) X E (mT_isL h0.1 hc) okJ0 (t_is h0.1) wM_J0_492 w_instanceMethod_J0_isLatin1_aae02 w_selects_J0_isLatin1_aae02 w_initialized_RJ0 w_code_J0_isLatin1_aae02 cpS_isL pnS_isL rfl (Nat.le_of_ble_eq_true rfl) ⟨Nat.le_of_ble_eq_true rfl, Nat.le_of_ble_eq_true rfl⟩ ⟨Nat.le_of_ble_eq_true rfl, Nat.le_of_ble_eq_true rfl⟩ dJ0_charAt_5068e_1 (fun _ _ q => False.elim q) (kIp (fun r hr h => ?_))
  subst h
  refine a_if_eq (pc := 4) (tgt := 16) X dJ0_charAt_5068e_4 rfl (by decide) (fun c => absurd c (by decide)) (fun c => ?_)
  refine a_aload_n (pc := 7) X dJ0_charAt_5068e_7 rfl rfl ?_
  refine a_getR (pc := 8) (q := 273) X okJ0 0 rfl wF_J0_9 (t_is h0.1) t_rf dJ0_charAt_5068e_8 ?_
  refine a_iload_n (pc := 11) X dJ0_charAt_5068e_11 rfl rfl ?_
  refine a_callS (pc := 12) X E (mT_l1 h0 hi hb) wM_J0_495 w_static_J1_charAt_3b067 w_initialized_RJ1 w_code_J1_charAt_3b067 cpS_l1 pnS_l1 rfl (Nat.le_of_ble_eq_true rfl) ⟨Nat.le_of_ble_eq_true rfl, Nat.le_of_ble_eq_true rfl⟩ ⟨Nat.le_of_ble_eq_true rfl, Nat.le_of_ble_eq_true rfl⟩ dJ0_charAt_5068e_12 (fun _ _ q => False.elim q) (kIp (fun r hr h => ?_))
  subst h
  exact a_ireturn (pc := 15) (ty := .char) X E rfl (chr_nar hb) (Nat.le_of_ble_eq_true rfl) (Nat.le_of_ble_eq_true rfl) dJ0_charAt_5068e_15 ⟨rfl, _, rfl, hG _ _, rfl, rfl⟩
end TSTM

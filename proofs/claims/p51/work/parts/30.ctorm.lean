-- ===== the constructors, each at its address; written by wip/whole/gennew.py =====
set_option maxHeartbeats 4000000 in
set_option maxRecDepth 100000 in
theorem k_X8_init_3 {G : GH} : Mt yX8_init cX8_init 1 none 1 13 8 135 [vr 3] (4, shF, rfP 1) G (fun v S' G' => S' = (12, shF, rfP 9) ∧ v = none ∧ ((∀ b k, b < 3 → G' b k = G b k) ∧ True)) noX := by
  refine Mt.ofI (l0 := [some (vr 3)]) rfl (by decide) (Nat.le_of_ble_eq_true rfl) rfl ?_
  intro κ δ ρ0 X9 hI E hG
  replace X9 : CX κ δ RX8 cX8_init 1 none := X9
  have hR := E.rm
  refine a_aload_n (pc := 0) X9 dX8_init_0 rfl rfl ?_
  refine a_objInit (pc := 1) X9 hR wM_X8_3 (Nat.le_of_ble_eq_true rfl) (Nat.le_of_ble_eq_true rfl) dX8_init_1 ?_
  refine a_aload_n (pc := 4) X9 dX8_init_4 rfl rfl ?_
  refine a_bipush (pc := 5) X9 dX8_init_5 rfl ?_
  refine a_newarr (atype := .int) (pc := 7) (n := 4) (N := 12) (t := 0) (rf := rfP 1) X9 hR (Nat.le_of_ble_eq_true rfl) rfl (fun C h => by cases h) w_arrayClass__int rfl rfl (rfP_fw (by decide +kernel)) (Nat.le_of_ble_eq_true rfl) (Nat.le_of_ble_eq_true rfl) rfl rfl (Nat.le_of_ble_eq_true rfl) (Nat.le_of_ble_eq_true rfl) ⟨Nat.le_of_ble_eq_true rfl, Nat.le_of_ble_eq_true rfl⟩ dX8_init_7 ?_
  obtain ⟨G1, eG1⟩ : ∃ Gz, Gz = zG G 4 := ⟨_, rfl⟩
  have hG1 : GR G1 := by rw [eG1]; exact hG.zz
  rw [← eG1]
  refine a_putR (pc := 9) (n := 5) (rf := rfP 1) (rf' := rfP 2) hI X9 okX8 2 rfl rfl rfl wF_X8_9 ⟨(Nat.le_of_ble_eq_true rfl), rfl⟩ (fun _ => ⟨rfl, rfl⟩) (rfP_s rfl rfl) dX8_init_9 ?_
  refine a_aload_n (pc := 12) X9 dX8_init_12 rfl rfl ?_
  refine a_bipush (pc := 13) X9 dX8_init_13 rfl ?_
  refine a_newarr (atype := .int) (pc := 15) (n := 5) (N := 12) (t := 0) (rf := rfP 2) X9 hR (Nat.le_of_ble_eq_true rfl) rfl (fun C h => by cases h) w_arrayClass__int rfl rfl (rfP_fw (by decide +kernel)) (Nat.le_of_ble_eq_true rfl) (Nat.le_of_ble_eq_true rfl) rfl rfl (Nat.le_of_ble_eq_true rfl) (Nat.le_of_ble_eq_true rfl) ⟨Nat.le_of_ble_eq_true rfl, Nat.le_of_ble_eq_true rfl⟩ dX8_init_15 ?_
  obtain ⟨G2, eG2⟩ : ∃ Gz, Gz = zG G1 5 := ⟨_, rfl⟩
  have hG2 : GR G2 := by rw [eG2]; exact hG1.zz
  rw [← eG2]
  refine a_putR (pc := 17) (n := 6) (rf := rfP 2) (rf' := rfP 3) hI X9 okX8 3 rfl rfl rfl wF_X8_15 ⟨(Nat.le_of_ble_eq_true rfl), rfl⟩ (fun _ => ⟨rfl, rfl⟩) (rfP_s rfl rfl) dX8_init_17 ?_
  refine a_aload_n (pc := 20) X9 dX8_init_20 rfl rfl ?_
  refine a_bipush (pc := 21) X9 dX8_init_21 rfl ?_
  refine a_newarr (atype := .int) (pc := 23) (n := 6) (N := 42) (t := 0) (rf := rfP 3) X9 hR (Nat.le_of_ble_eq_true rfl) rfl (fun C h => by cases h) w_arrayClass__int rfl rfl (rfP_fw (by decide +kernel)) (Nat.le_of_ble_eq_true rfl) (Nat.le_of_ble_eq_true rfl) rfl rfl (Nat.le_of_ble_eq_true rfl) (Nat.le_of_ble_eq_true rfl) ⟨Nat.le_of_ble_eq_true rfl, Nat.le_of_ble_eq_true rfl⟩ dX8_init_23 ?_
  obtain ⟨G3, eG3⟩ : ∃ Gz, Gz = zG G2 6 := ⟨_, rfl⟩
  have hG3 : GR G3 := by rw [eG3]; exact hG2.zz
  rw [← eG3]
  refine a_putR (pc := 25) (n := 7) (rf := rfP 3) (rf' := rfP 4) hI X9 okX8 4 rfl rfl rfl wF_X8_18 ⟨(Nat.le_of_ble_eq_true rfl), rfl⟩ (fun _ => ⟨rfl, rfl⟩) (rfP_s rfl rfl) dX8_init_25 ?_
  refine a_aload_n (pc := 28) X9 dX8_init_28 rfl rfl ?_
  refine a_iconst (pc := 29) X9 dX8_init_29 ?_
  refine a_newarr (atype := .int) (pc := 30) (n := 7) (N := 3) (t := 0) (rf := rfP 4) X9 hR (Nat.le_of_ble_eq_true rfl) rfl (fun C h => by cases h) w_arrayClass__int rfl rfl (rfP_fw (by decide +kernel)) (Nat.le_of_ble_eq_true rfl) (Nat.le_of_ble_eq_true rfl) rfl rfl (Nat.le_of_ble_eq_true rfl) (Nat.le_of_ble_eq_true rfl) ⟨Nat.le_of_ble_eq_true rfl, Nat.le_of_ble_eq_true rfl⟩ dX8_init_30 ?_
  obtain ⟨G4, eG4⟩ : ∃ Gz, Gz = zG G3 7 := ⟨_, rfl⟩
  have hG4 : GR G4 := by rw [eG4]; exact hG3.zz
  rw [← eG4]
  refine a_putR (pc := 32) (n := 8) (rf := rfP 4) (rf' := rfP 5) hI X9 okX8 6 rfl rfl rfl wF_X8_21 ⟨(Nat.le_of_ble_eq_true rfl), rfl⟩ (fun _ => ⟨rfl, rfl⟩) (rfP_s rfl rfl) dX8_init_32 ?_
  refine a_aload_n (pc := 35) X9 dX8_init_35 rfl rfl ?_
  refine a_bipush (pc := 36) X9 dX8_init_36 rfl ?_
  refine a_newarr (atype := .int) (pc := 38) (n := 8) (N := 30) (t := 0) (rf := rfP 5) X9 hR (Nat.le_of_ble_eq_true rfl) rfl (fun C h => by cases h) w_arrayClass__int rfl rfl (rfP_fw (by decide +kernel)) (Nat.le_of_ble_eq_true rfl) (Nat.le_of_ble_eq_true rfl) rfl rfl (Nat.le_of_ble_eq_true rfl) (Nat.le_of_ble_eq_true rfl) ⟨Nat.le_of_ble_eq_true rfl, Nat.le_of_ble_eq_true rfl⟩ dX8_init_38 ?_
  obtain ⟨G5, eG5⟩ : ∃ Gz, Gz = zG G4 8 := ⟨_, rfl⟩
  have hG5 : GR G5 := by rw [eG5]; exact hG4.zz
  rw [← eG5]
  refine a_putR (pc := 40) (n := 9) (rf := rfP 5) (rf' := rfP 6) hI X9 okX8 7 rfl rfl rfl wF_X8_24 ⟨(Nat.le_of_ble_eq_true rfl), rfl⟩ (fun _ => ⟨rfl, rfl⟩) (rfP_s rfl rfl) dX8_init_40 ?_
  refine a_aload_n (pc := 43) X9 dX8_init_43 rfl rfl ?_
  refine a_bipush (pc := 44) X9 dX8_init_44 rfl ?_
  refine a_newarr (atype := .int) (pc := 46) (n := 9) (N := 12) (t := 0) (rf := rfP 6) X9 hR (Nat.le_of_ble_eq_true rfl) rfl (fun C h => by cases h) w_arrayClass__int rfl rfl (rfP_fw (by decide +kernel)) (Nat.le_of_ble_eq_true rfl) (Nat.le_of_ble_eq_true rfl) rfl rfl (Nat.le_of_ble_eq_true rfl) (Nat.le_of_ble_eq_true rfl) ⟨Nat.le_of_ble_eq_true rfl, Nat.le_of_ble_eq_true rfl⟩ dX8_init_46 ?_
  obtain ⟨G6, eG6⟩ : ∃ Gz, Gz = zG G5 9 := ⟨_, rfl⟩
  have hG6 : GR G6 := by rw [eG6]; exact hG5.zz
  rw [← eG6]
  refine a_putR (pc := 48) (n := 10) (rf := rfP 6) (rf' := rfP 7) hI X9 okX8 9 rfl rfl rfl wF_X8_27 ⟨(Nat.le_of_ble_eq_true rfl), rfl⟩ (fun _ => ⟨rfl, rfl⟩) (rfP_s rfl rfl) dX8_init_48 ?_
  refine a_aload_n (pc := 51) X9 dX8_init_51 rfl rfl ?_
  refine a_bipush (pc := 52) X9 dX8_init_52 rfl ?_
  refine a_newarr (atype := .int) (pc := 54) (n := 10) (N := 12) (t := 0) (rf := rfP 7) X9 hR (Nat.le_of_ble_eq_true rfl) rfl (fun C h => by cases h) w_arrayClass__int rfl rfl (rfP_fw (by decide +kernel)) (Nat.le_of_ble_eq_true rfl) (Nat.le_of_ble_eq_true rfl) rfl rfl (Nat.le_of_ble_eq_true rfl) (Nat.le_of_ble_eq_true rfl) ⟨Nat.le_of_ble_eq_true rfl, Nat.le_of_ble_eq_true rfl⟩ dX8_init_54 ?_
  obtain ⟨G7, eG7⟩ : ∃ Gz, Gz = zG G6 10 := ⟨_, rfl⟩
  have hG7 : GR G7 := by rw [eG7]; exact hG6.zz
  rw [← eG7]
  refine a_putR (pc := 56) (n := 11) (rf := rfP 7) (rf' := rfP 8) hI X9 okX8 10 rfl rfl rfl wF_X8_30 ⟨(Nat.le_of_ble_eq_true rfl), rfl⟩ (fun _ => ⟨rfl, rfl⟩) (rfP_s rfl rfl) dX8_init_56 ?_
  refine a_aload_n (pc := 59) X9 dX8_init_59 rfl rfl ?_
  refine a_bipush (pc := 60) X9 dX8_init_60 rfl ?_
  refine a_newarr (atype := .int) (pc := 62) (n := 11) (N := 12) (t := 0) (rf := rfP 8) X9 hR (Nat.le_of_ble_eq_true rfl) rfl (fun C h => by cases h) w_arrayClass__int rfl rfl (rfP_fw (by decide +kernel)) (Nat.le_of_ble_eq_true rfl) (Nat.le_of_ble_eq_true rfl) rfl rfl (Nat.le_of_ble_eq_true rfl) (Nat.le_of_ble_eq_true rfl) ⟨Nat.le_of_ble_eq_true rfl, Nat.le_of_ble_eq_true rfl⟩ dX8_init_62 ?_
  obtain ⟨G8, eG8⟩ : ∃ Gz, Gz = zG G7 11 := ⟨_, rfl⟩
  have hG8 : GR G8 := by rw [eG8]; exact hG7.zz
  rw [← eG8]
  refine a_putR (pc := 64) (n := 12) (rf := rfP 8) (rf' := rfP 9) hI X9 okX8 11 rfl rfl rfl wF_X8_33 ⟨(Nat.le_of_ble_eq_true rfl), rfl⟩ (fun _ => ⟨rfl, rfl⟩) (rfP_s rfl rfl) dX8_init_64 ?_
  exact a_return (pc := 67) X9 E (Nat.le_of_ble_eq_true rfl) (Nat.le_of_ble_eq_true rfl) dX8_init_67 ⟨rfl, rfl, ⟨(by intro b k hb; rw [eG8, zG_ne (by omega)]; rw [eG7, zG_ne (by omega)]; rw [eG6, zG_ne (by omega)]; rw [eG5, zG_ne (by omega)]; rw [eG4, zG_ne (by omega)]; rw [eG3, zG_ne (by omega)]; rw [eG2, zG_ne (by omega)]; rw [eG1, zG_ne (by omega)]), trivial⟩⟩
set_option maxHeartbeats 4000000 in
set_option maxRecDepth 100000 in
theorem k_X6_init_12 {G : GH} : Mt yX6_init cX6_init 1 none 1 13 2 144 [vr 12] (13, shF, rfP 10) G (fun v S' G' => S' = (15, shF, rfP 12) ∧ v = none ∧ ((∀ b k, b < 12 → G' b k = G b k) ∧ True)) noX := by
  refine Mt.ofI (l0 := [some (vr 12)]) rfl (by decide) (Nat.le_of_ble_eq_true rfl) rfl ?_
  intro κ δ ρ0 X9 hI E hG
  replace X9 : CX κ δ RX6 cX6_init 1 none := X9
  have hR := E.rm
  refine a_aload_n (pc := 0) X9 dX6_init_0 rfl rfl ?_
  refine a_objInit (pc := 1) X9 hR wM_X6_3 (Nat.le_of_ble_eq_true rfl) (Nat.le_of_ble_eq_true rfl) dX6_init_1 ?_
  refine a_aload_n (pc := 4) X9 dX6_init_4 rfl rfl ?_
  refine a_bipush (pc := 5) X9 dX6_init_5 rfl ?_
  refine a_newarr (atype := .int) (pc := 7) (n := 13) (N := 16) (t := 0) (rf := rfP 10) X9 hR (Nat.le_of_ble_eq_true rfl) rfl (fun C h => by cases h) w_arrayClass__int rfl rfl (rfP_fw (by decide +kernel)) (Nat.le_of_ble_eq_true rfl) (Nat.le_of_ble_eq_true rfl) rfl rfl (Nat.le_of_ble_eq_true rfl) (Nat.le_of_ble_eq_true rfl) ⟨Nat.le_of_ble_eq_true rfl, Nat.le_of_ble_eq_true rfl⟩ dX6_init_7 ?_
  obtain ⟨G1, eG1⟩ : ∃ Gz, Gz = zG G 13 := ⟨_, rfl⟩
  have hG1 : GR G1 := by rw [eG1]; exact hG.zz
  rw [← eG1]
  refine a_putR (pc := 9) (n := 14) (rf := rfP 10) (rf' := rfP 11) hI X9 okX6 1 rfl rfl rfl wF_X6_9 ⟨(Nat.le_of_ble_eq_true rfl), rfl⟩ (fun _ => ⟨rfl, rfl⟩) (rfP_s rfl rfl) dX6_init_9 ?_
  refine a_aload_n (pc := 12) X9 dX6_init_12 rfl rfl ?_
  refine a_sipush (pc := 13) X9 dX6_init_13 rfl ?_
  refine a_newarr (atype := .int) (pc := 16) (n := 14) (N := 128) (t := 0) (rf := rfP 11) X9 hR (Nat.le_of_ble_eq_true rfl) rfl (fun C h => by cases h) w_arrayClass__int rfl rfl (rfP_fw (by decide +kernel)) (Nat.le_of_ble_eq_true rfl) (Nat.le_of_ble_eq_true rfl) rfl rfl (Nat.le_of_ble_eq_true rfl) (Nat.le_of_ble_eq_true rfl) ⟨Nat.le_of_ble_eq_true rfl, Nat.le_of_ble_eq_true rfl⟩ dX6_init_16 ?_
  obtain ⟨G2, eG2⟩ : ∃ Gz, Gz = zG G1 14 := ⟨_, rfl⟩
  have hG2 : GR G2 := by rw [eG2]; exact hG1.zz
  rw [← eG2]
  refine a_putR (pc := 18) (n := 15) (rf := rfP 11) (rf' := rfP 12) hI X9 okX6 2 rfl rfl rfl wF_X6_15 ⟨(Nat.le_of_ble_eq_true rfl), rfl⟩ (fun _ => ⟨rfl, rfl⟩) (rfP_s rfl rfl) dX6_init_18 ?_
  exact a_return (pc := 21) X9 E (Nat.le_of_ble_eq_true rfl) (Nat.le_of_ble_eq_true rfl) dX6_init_21 ⟨rfl, rfl, ⟨(by intro b k hb; rw [eG2, zG_ne (by omega)]; rw [eG1, zG_ne (by omega)]), trivial⟩⟩
set_option maxHeartbeats 4000000 in
set_option maxRecDepth 100000 in
theorem k_X0_init_15 {G : GH} : Mt yX0_init cX0_init 1 none 1 13 5 222 [vr 15] (16, shF, rfP 13) G (fun v S' G' => S' = (21, shF, rfP 18) ∧ v = none ∧ ((∀ b k, b < 15 → G' b k = G b k) ∧ True)) noX := by
  refine Mt.ofI (l0 := [some (vr 15)]) rfl (by decide) (Nat.le_of_ble_eq_true rfl) rfl ?_
  intro κ δ ρ0 X9 hI E hG
  replace X9 : CX κ δ RX0 cX0_init 1 none := X9
  have hR := E.rm
  refine a_aload_n (pc := 0) X9 dX0_init_0 rfl rfl ?_
  refine a_objInit (pc := 1) X9 hR wM_X0_3 (Nat.le_of_ble_eq_true rfl) (Nat.le_of_ble_eq_true rfl) dX0_init_1 ?_
  refine a_aload_n (pc := 4) X9 dX0_init_4 rfl rfl ?_
  refine a_iconst (pc := 5) X9 dX0_init_5 ?_
  refine a_putI (pc := 6) X9 okX0 0 rfl rfl wF_X0_9 ⟨(Nat.le_of_ble_eq_true rfl), rfl⟩ dX0_init_6 (by decide) (fit_int _) (fun _ => ?_)
  obtain ⟨G1, eG1⟩ : ∃ Gz, Gz = upG G 15 0 (-1) := ⟨_, rfl⟩
  have hG1 : GR G1 := by rw [eG1]; exact GR.up hG (by decide)
  rw [← eG1]
  refine a_aload_n (pc := 9) X9 dX0_init_9 rfl rfl ?_
  refine a_bipush (pc := 10) X9 dX0_init_10 rfl ?_
  refine a_newarr (atype := .int) (pc := 12) (n := 16) (N := 18) (t := 0) (rf := rfP 13) X9 hR (Nat.le_of_ble_eq_true rfl) rfl (fun C h => by cases h) w_arrayClass__int rfl rfl (rfP_fw (by decide +kernel)) (Nat.le_of_ble_eq_true rfl) (Nat.le_of_ble_eq_true rfl) rfl rfl (Nat.le_of_ble_eq_true rfl) (Nat.le_of_ble_eq_true rfl) ⟨Nat.le_of_ble_eq_true rfl, Nat.le_of_ble_eq_true rfl⟩ dX0_init_12 ?_
  obtain ⟨G2, eG2⟩ : ∃ Gz, Gz = zG G1 16 := ⟨_, rfl⟩
  have hG2 : GR G2 := by rw [eG2]; exact hG1.zz
  rw [← eG2]
  refine a_putR (pc := 14) (n := 17) (rf := rfP 13) (rf' := rfP 14) hI X9 okX0 1 rfl rfl rfl wF_X0_15 ⟨(Nat.le_of_ble_eq_true rfl), rfl⟩ (fun _ => ⟨rfl, rfl⟩) (rfP_s rfl rfl) dX0_init_14 ?_
  refine a_aload_n (pc := 17) X9 dX0_init_17 rfl rfl ?_
  refine a_bipush (pc := 18) X9 dX0_init_18 rfl ?_
  refine a_newarr (atype := .int) (pc := 20) (n := 17) (N := 54) (t := 0) (rf := rfP 14) X9 hR (Nat.le_of_ble_eq_true rfl) rfl (fun C h => by cases h) w_arrayClass__int rfl rfl (rfP_fw (by decide +kernel)) (Nat.le_of_ble_eq_true rfl) (Nat.le_of_ble_eq_true rfl) rfl rfl (Nat.le_of_ble_eq_true rfl) (Nat.le_of_ble_eq_true rfl) ⟨Nat.le_of_ble_eq_true rfl, Nat.le_of_ble_eq_true rfl⟩ dX0_init_20 ?_
  obtain ⟨G3, eG3⟩ : ∃ Gz, Gz = zG G2 17 := ⟨_, rfl⟩
  have hG3 : GR G3 := by rw [eG3]; exact hG2.zz
  rw [← eG3]
  refine a_putR (pc := 22) (n := 18) (rf := rfP 14) (rf' := rfP 15) hI X9 okX0 2 rfl rfl rfl wF_X0_19 ⟨(Nat.le_of_ble_eq_true rfl), rfl⟩ (fun _ => ⟨rfl, rfl⟩) (rfP_s rfl rfl) dX0_init_22 ?_
  refine a_aload_n (pc := 25) X9 dX0_init_25 rfl rfl ?_
  refine a_bipush (pc := 26) X9 dX0_init_26 rfl ?_
  refine a_newarr (atype := .int) (pc := 28) (n := 18) (N := 54) (t := 0) (rf := rfP 15) X9 hR (Nat.le_of_ble_eq_true rfl) rfl (fun C h => by cases h) w_arrayClass__int rfl rfl (rfP_fw (by decide +kernel)) (Nat.le_of_ble_eq_true rfl) (Nat.le_of_ble_eq_true rfl) rfl rfl (Nat.le_of_ble_eq_true rfl) (Nat.le_of_ble_eq_true rfl) ⟨Nat.le_of_ble_eq_true rfl, Nat.le_of_ble_eq_true rfl⟩ dX0_init_28 ?_
  obtain ⟨G4, eG4⟩ : ∃ Gz, Gz = zG G3 18 := ⟨_, rfl⟩
  have hG4 : GR G4 := by rw [eG4]; exact hG3.zz
  rw [← eG4]
  refine a_putR (pc := 30) (n := 19) (rf := rfP 15) (rf' := rfP 16) hI X9 okX0 3 rfl rfl rfl wF_X0_22 ⟨(Nat.le_of_ble_eq_true rfl), rfl⟩ (fun _ => ⟨rfl, rfl⟩) (rfP_s rfl rfl) dX0_init_30 ?_
  refine a_aload_n (pc := 33) X9 dX0_init_33 rfl rfl ?_
  refine a_bipush (pc := 34) X9 dX0_init_34 rfl ?_
  refine a_newarr (atype := .int) (pc := 36) (n := 19) (N := 54) (t := 0) (rf := rfP 16) X9 hR (Nat.le_of_ble_eq_true rfl) rfl (fun C h => by cases h) w_arrayClass__int rfl rfl (rfP_fw (by decide +kernel)) (Nat.le_of_ble_eq_true rfl) (Nat.le_of_ble_eq_true rfl) rfl rfl (Nat.le_of_ble_eq_true rfl) (Nat.le_of_ble_eq_true rfl) ⟨Nat.le_of_ble_eq_true rfl, Nat.le_of_ble_eq_true rfl⟩ dX0_init_36 ?_
  obtain ⟨G5, eG5⟩ : ∃ Gz, Gz = zG G4 19 := ⟨_, rfl⟩
  have hG5 : GR G5 := by rw [eG5]; exact hG4.zz
  rw [← eG5]
  refine a_putR (pc := 38) (n := 20) (rf := rfP 16) (rf' := rfP 17) hI X9 okX0 4 rfl rfl rfl wF_X0_25 ⟨(Nat.le_of_ble_eq_true rfl), rfl⟩ (fun _ => ⟨rfl, rfl⟩) (rfP_s rfl rfl) dX0_init_38 ?_
  refine a_aload_n (pc := 41) X9 dX0_init_41 rfl rfl ?_
  refine a_bipush (pc := 42) X9 dX0_init_42 rfl ?_
  refine a_newarr (atype := .int) (pc := 44) (n := 20) (N := 42) (t := 0) (rf := rfP 17) X9 hR (Nat.le_of_ble_eq_true rfl) rfl (fun C h => by cases h) w_arrayClass__int rfl rfl (rfP_fw (by decide +kernel)) (Nat.le_of_ble_eq_true rfl) (Nat.le_of_ble_eq_true rfl) rfl rfl (Nat.le_of_ble_eq_true rfl) (Nat.le_of_ble_eq_true rfl) ⟨Nat.le_of_ble_eq_true rfl, Nat.le_of_ble_eq_true rfl⟩ dX0_init_44 ?_
  obtain ⟨G6, eG6⟩ : ∃ Gz, Gz = zG G5 20 := ⟨_, rfl⟩
  have hG6 : GR G6 := by rw [eG6]; exact hG5.zz
  rw [← eG6]
  refine a_putR (pc := 46) (n := 21) (rf := rfP 17) (rf' := rfP 18) hI X9 okX0 5 rfl rfl rfl wF_X0_28 ⟨(Nat.le_of_ble_eq_true rfl), rfl⟩ (fun _ => ⟨rfl, rfl⟩) (rfP_s rfl rfl) dX0_init_46 ?_
  exact a_return (pc := 49) X9 E (Nat.le_of_ble_eq_true rfl) (Nat.le_of_ble_eq_true rfl) dX0_init_49 ⟨rfl, rfl, ⟨(by intro b k hb; rw [eG6, zG_ne (by omega)]; rw [eG5, zG_ne (by omega)]; rw [eG4, zG_ne (by omega)]; rw [eG3, zG_ne (by omega)]; rw [eG2, zG_ne (by omega)]; rw [eG1, upG_na (by omega)]), trivial⟩⟩
set_option maxHeartbeats 4000000 in
set_option maxRecDepth 100000 in
theorem k_X7_init_1 {G : GH} : Mt yX7_init cX7_init 1 none 2 33 19 525 [vr 1] (2, shF, rfP 0) G (fun v S' G' => S' = (21, shF, rfP 19) ∧ v = none ∧ ((∀ b k, b < 1 → G' b k = G b k) ∧ True)) noX := by
  refine Mt.ofI (l0 := [some (vr 1)]) rfl (by decide) (Nat.le_of_ble_eq_true rfl) rfl ?_
  intro κ δ ρ0 X9 hI E hG
  replace X9 : CX κ δ RX7 cX7_init 1 none := X9
  have hR := E.rm
  refine a_aload_n (pc := 0) X9 dX7_init_0 rfl rfl ?_
  refine a_objInit (pc := 1) X9 hR wM_X7_3 (Nat.le_of_ble_eq_true rfl) (Nat.le_of_ble_eq_true rfl) dX7_init_1 ?_
  refine a_aload_n (pc := 4) X9 dX7_init_4 rfl rfl ?_
  refine a_iconst (pc := 5) X9 dX7_init_5 ?_
  refine a_newarr (atype := .int) (pc := 6) (n := 2) (N := 3) (t := 0) (rf := rfP 0) X9 hR (Nat.le_of_ble_eq_true rfl) rfl (fun C h => by cases h) w_arrayClass__int rfl rfl (rfP_fw (by decide +kernel)) (Nat.le_of_ble_eq_true rfl) (Nat.le_of_ble_eq_true rfl) rfl rfl (Nat.le_of_ble_eq_true rfl) (Nat.le_of_ble_eq_true rfl) ⟨Nat.le_of_ble_eq_true rfl, Nat.le_of_ble_eq_true rfl⟩ dX7_init_6 ?_
  obtain ⟨G1, eG1⟩ : ∃ Gz, Gz = zG G 2 := ⟨_, rfl⟩
  have hG1 : GR G1 := by rw [eG1]; exact hG.zz
  rw [← eG1]
  refine a_putR (pc := 8) (n := 3) (rf := rfP 0) (rf' := rfP 1) hI X9 okX7 1 rfl rfl rfl wF_X7_9 ⟨(Nat.le_of_ble_eq_true rfl), rfl⟩ (fun _ => ⟨rfl, rfl⟩) (rfP_s rfl rfl) dX7_init_8 ?_
  refine a_aload_n (pc := 11) X9 dX7_init_11 rfl rfl ?_
  refine a_new (pc := 12) (n := 3) (rf := rfP 1) X9 hR okX8 wC_X7_15 w_instantiable_RX8 w_initialized_RX8 fv_X8 rfl (rfP_none (by decide +kernel)) (rfP_fw (by decide +kernel)) (Nat.le_of_ble_eq_true rfl) (Nat.le_of_ble_eq_true rfl) rfl rfl ⟨Nat.le_of_ble_eq_true rfl, Nat.le_of_ble_eq_true rfl⟩ dX7_init_12 ?_
  obtain ⟨G2, eG2⟩ : ∃ Gz, Gz = zG G1 3 := ⟨_, rfl⟩
  have hG2 : GR G2 := by rw [eG2]; exact hG1.zz
  rw [← eG2]
  refine a_dup (pc := 15) X9 dX7_init_15 rfl ?_
  refine a_callIN (pc := 16) X9 hR (k_X8_init_3 (G := G2)) (Nat.le_of_ble_eq_true rfl) rfl rfl (Nat.le_of_ble_eq_true rfl) nx_X7_17 w_instanceMethod_X8_init w_initialized_RX8 w_code_X8_init cpN_X8 pnN_X8 rfl (Nat.le_of_ble_eq_true rfl) ⟨Nat.le_of_ble_eq_true rfl, Nat.le_of_ble_eq_true rfl⟩ ⟨Nat.le_of_ble_eq_true rfl, Nat.le_of_ble_eq_true rfl⟩ dX7_init_16 (fun G3 pG3 hG3 => ?_)
  refine a_putR (pc := 19) (n := 12) (rf := rfP 9) (rf' := rfP 10) hI X9 okX7 3 rfl rfl rfl wF_X7_18 ⟨(Nat.le_of_ble_eq_true rfl), rfl⟩ (fun _ => ⟨rfl, rfl⟩) (rfP_s rfl rfl) dX7_init_19 ?_
  refine a_aload_n (pc := 22) X9 dX7_init_22 rfl rfl ?_
  refine a_new (pc := 23) (n := 12) (rf := rfP 10) X9 hR okX6 wC_X7_22 w_instantiable_RX6 w_initialized_RX6 fv_X6 rfl (rfP_none (by decide +kernel)) (rfP_fw (by decide +kernel)) (Nat.le_of_ble_eq_true rfl) (Nat.le_of_ble_eq_true rfl) rfl rfl ⟨Nat.le_of_ble_eq_true rfl, Nat.le_of_ble_eq_true rfl⟩ dX7_init_23 ?_
  obtain ⟨G4, eG4⟩ : ∃ Gz, Gz = zG G3 12 := ⟨_, rfl⟩
  have hG4 : GR G4 := by rw [eG4]; exact hG3.zz
  rw [← eG4]
  refine a_dup (pc := 26) X9 dX7_init_26 rfl ?_
  refine a_callIN (pc := 27) X9 hR (k_X6_init_12 (G := G4)) (Nat.le_of_ble_eq_true rfl) rfl rfl (Nat.le_of_ble_eq_true rfl) nx_X7_24 w_instanceMethod_X6_init w_initialized_RX6 w_code_X6_init cpN_X6 pnN_X6 rfl (Nat.le_of_ble_eq_true rfl) ⟨Nat.le_of_ble_eq_true rfl, Nat.le_of_ble_eq_true rfl⟩ ⟨Nat.le_of_ble_eq_true rfl, Nat.le_of_ble_eq_true rfl⟩ dX7_init_27 (fun G5 pG5 hG5 => ?_)
  refine a_putR (pc := 30) (n := 15) (rf := rfP 12) (rf' := rfP 13) hI X9 okX7 4 rfl rfl rfl wF_X7_25 ⟨(Nat.le_of_ble_eq_true rfl), rfl⟩ (fun _ => ⟨rfl, rfl⟩) (rfP_s rfl rfl) dX7_init_30 ?_
  refine a_aload_n (pc := 33) X9 dX7_init_33 rfl rfl ?_
  refine a_new (pc := 34) (n := 15) (rf := rfP 13) X9 hR okX0 wC_X7_29 w_instantiable_RX0 w_initialized_RX0 fv_X0 rfl (rfP_none (by decide +kernel)) (rfP_fw (by decide +kernel)) (Nat.le_of_ble_eq_true rfl) (Nat.le_of_ble_eq_true rfl) rfl rfl ⟨Nat.le_of_ble_eq_true rfl, Nat.le_of_ble_eq_true rfl⟩ dX7_init_34 ?_
  obtain ⟨G6, eG6⟩ : ∃ Gz, Gz = zG G5 15 := ⟨_, rfl⟩
  have hG6 : GR G6 := by rw [eG6]; exact hG5.zz
  rw [← eG6]
  refine a_dup (pc := 37) X9 dX7_init_37 rfl ?_
  refine a_callIN (pc := 38) X9 hR (k_X0_init_15 (G := G6)) (Nat.le_of_ble_eq_true rfl) rfl rfl (Nat.le_of_ble_eq_true rfl) nx_X7_31 w_instanceMethod_X0_init w_initialized_RX0 w_code_X0_init cpN_X0 pnN_X0 rfl (Nat.le_of_ble_eq_true rfl) ⟨Nat.le_of_ble_eq_true rfl, Nat.le_of_ble_eq_true rfl⟩ ⟨Nat.le_of_ble_eq_true rfl, Nat.le_of_ble_eq_true rfl⟩ dX7_init_38 (fun G7 pG7 hG7 => ?_)
  refine a_putR (pc := 41) (n := 21) (rf := rfP 18) (rf' := rfP 19) hI X9 okX7 5 rfl rfl rfl wF_X7_32 ⟨(Nat.le_of_ble_eq_true rfl), rfl⟩ (fun _ => ⟨rfl, rfl⟩) (rfP_s rfl rfl) dX7_init_41 ?_
  exact a_return (pc := 44) X9 E (Nat.le_of_ble_eq_true rfl) (Nat.le_of_ble_eq_true rfl) dX7_init_44 ⟨rfl, rfl, ⟨(by intro b k hb; rw [pG7.1 b k (by omega)]; rw [eG6, zG_ne (by omega)]; rw [pG5.1 b k (by omega)]; rw [eG4, zG_ne (by omega)]; rw [pG3.1 b k (by omega)]; rw [eG2, zG_ne (by omega)]; rw [eG1, zG_ne (by omega)]), trivial⟩⟩
set_option maxHeartbeats 4000000 in
set_option maxRecDepth 100000 in
theorem k_X8_init_23 {G : GH} : Mt yX8_init cX8_init 1 none 1 13 8 135 [vr 23] (24, shF, rfP 21) G (fun v S' G' => S' = (32, shF, rfP 29) ∧ v = none ∧ ((∀ b k, b < 23 → G' b k = G b k) ∧ True)) noX := by
  refine Mt.ofI (l0 := [some (vr 23)]) rfl (by decide) (Nat.le_of_ble_eq_true rfl) rfl ?_
  intro κ δ ρ0 X9 hI E hG
  replace X9 : CX κ δ RX8 cX8_init 1 none := X9
  have hR := E.rm
  refine a_aload_n (pc := 0) X9 dX8_init_0 rfl rfl ?_
  refine a_objInit (pc := 1) X9 hR wM_X8_3 (Nat.le_of_ble_eq_true rfl) (Nat.le_of_ble_eq_true rfl) dX8_init_1 ?_
  refine a_aload_n (pc := 4) X9 dX8_init_4 rfl rfl ?_
  refine a_bipush (pc := 5) X9 dX8_init_5 rfl ?_
  refine a_newarr (atype := .int) (pc := 7) (n := 24) (N := 12) (t := 0) (rf := rfP 21) X9 hR (Nat.le_of_ble_eq_true rfl) rfl (fun C h => by cases h) w_arrayClass__int rfl rfl (rfP_fw (by decide +kernel)) (Nat.le_of_ble_eq_true rfl) (Nat.le_of_ble_eq_true rfl) rfl rfl (Nat.le_of_ble_eq_true rfl) (Nat.le_of_ble_eq_true rfl) ⟨Nat.le_of_ble_eq_true rfl, Nat.le_of_ble_eq_true rfl⟩ dX8_init_7 ?_
  obtain ⟨G1, eG1⟩ : ∃ Gz, Gz = zG G 24 := ⟨_, rfl⟩
  have hG1 : GR G1 := by rw [eG1]; exact hG.zz
  rw [← eG1]
  refine a_putR (pc := 9) (n := 25) (rf := rfP 21) (rf' := rfP 22) hI X9 okX8 2 rfl rfl rfl wF_X8_9 ⟨(Nat.le_of_ble_eq_true rfl), rfl⟩ (fun _ => ⟨rfl, rfl⟩) (rfP_s rfl rfl) dX8_init_9 ?_
  refine a_aload_n (pc := 12) X9 dX8_init_12 rfl rfl ?_
  refine a_bipush (pc := 13) X9 dX8_init_13 rfl ?_
  refine a_newarr (atype := .int) (pc := 15) (n := 25) (N := 12) (t := 0) (rf := rfP 22) X9 hR (Nat.le_of_ble_eq_true rfl) rfl (fun C h => by cases h) w_arrayClass__int rfl rfl (rfP_fw (by decide +kernel)) (Nat.le_of_ble_eq_true rfl) (Nat.le_of_ble_eq_true rfl) rfl rfl (Nat.le_of_ble_eq_true rfl) (Nat.le_of_ble_eq_true rfl) ⟨Nat.le_of_ble_eq_true rfl, Nat.le_of_ble_eq_true rfl⟩ dX8_init_15 ?_
  obtain ⟨G2, eG2⟩ : ∃ Gz, Gz = zG G1 25 := ⟨_, rfl⟩
  have hG2 : GR G2 := by rw [eG2]; exact hG1.zz
  rw [← eG2]
  refine a_putR (pc := 17) (n := 26) (rf := rfP 22) (rf' := rfP 23) hI X9 okX8 3 rfl rfl rfl wF_X8_15 ⟨(Nat.le_of_ble_eq_true rfl), rfl⟩ (fun _ => ⟨rfl, rfl⟩) (rfP_s rfl rfl) dX8_init_17 ?_
  refine a_aload_n (pc := 20) X9 dX8_init_20 rfl rfl ?_
  refine a_bipush (pc := 21) X9 dX8_init_21 rfl ?_
  refine a_newarr (atype := .int) (pc := 23) (n := 26) (N := 42) (t := 0) (rf := rfP 23) X9 hR (Nat.le_of_ble_eq_true rfl) rfl (fun C h => by cases h) w_arrayClass__int rfl rfl (rfP_fw (by decide +kernel)) (Nat.le_of_ble_eq_true rfl) (Nat.le_of_ble_eq_true rfl) rfl rfl (Nat.le_of_ble_eq_true rfl) (Nat.le_of_ble_eq_true rfl) ⟨Nat.le_of_ble_eq_true rfl, Nat.le_of_ble_eq_true rfl⟩ dX8_init_23 ?_
  obtain ⟨G3, eG3⟩ : ∃ Gz, Gz = zG G2 26 := ⟨_, rfl⟩
  have hG3 : GR G3 := by rw [eG3]; exact hG2.zz
  rw [← eG3]
  refine a_putR (pc := 25) (n := 27) (rf := rfP 23) (rf' := rfP 24) hI X9 okX8 4 rfl rfl rfl wF_X8_18 ⟨(Nat.le_of_ble_eq_true rfl), rfl⟩ (fun _ => ⟨rfl, rfl⟩) (rfP_s rfl rfl) dX8_init_25 ?_
  refine a_aload_n (pc := 28) X9 dX8_init_28 rfl rfl ?_
  refine a_iconst (pc := 29) X9 dX8_init_29 ?_
  refine a_newarr (atype := .int) (pc := 30) (n := 27) (N := 3) (t := 0) (rf := rfP 24) X9 hR (Nat.le_of_ble_eq_true rfl) rfl (fun C h => by cases h) w_arrayClass__int rfl rfl (rfP_fw (by decide +kernel)) (Nat.le_of_ble_eq_true rfl) (Nat.le_of_ble_eq_true rfl) rfl rfl (Nat.le_of_ble_eq_true rfl) (Nat.le_of_ble_eq_true rfl) ⟨Nat.le_of_ble_eq_true rfl, Nat.le_of_ble_eq_true rfl⟩ dX8_init_30 ?_
  obtain ⟨G4, eG4⟩ : ∃ Gz, Gz = zG G3 27 := ⟨_, rfl⟩
  have hG4 : GR G4 := by rw [eG4]; exact hG3.zz
  rw [← eG4]
  refine a_putR (pc := 32) (n := 28) (rf := rfP 24) (rf' := rfP 25) hI X9 okX8 6 rfl rfl rfl wF_X8_21 ⟨(Nat.le_of_ble_eq_true rfl), rfl⟩ (fun _ => ⟨rfl, rfl⟩) (rfP_s rfl rfl) dX8_init_32 ?_
  refine a_aload_n (pc := 35) X9 dX8_init_35 rfl rfl ?_
  refine a_bipush (pc := 36) X9 dX8_init_36 rfl ?_
  refine a_newarr (atype := .int) (pc := 38) (n := 28) (N := 30) (t := 0) (rf := rfP 25) X9 hR (Nat.le_of_ble_eq_true rfl) rfl (fun C h => by cases h) w_arrayClass__int rfl rfl (rfP_fw (by decide +kernel)) (Nat.le_of_ble_eq_true rfl) (Nat.le_of_ble_eq_true rfl) rfl rfl (Nat.le_of_ble_eq_true rfl) (Nat.le_of_ble_eq_true rfl) ⟨Nat.le_of_ble_eq_true rfl, Nat.le_of_ble_eq_true rfl⟩ dX8_init_38 ?_
  obtain ⟨G5, eG5⟩ : ∃ Gz, Gz = zG G4 28 := ⟨_, rfl⟩
  have hG5 : GR G5 := by rw [eG5]; exact hG4.zz
  rw [← eG5]
  refine a_putR (pc := 40) (n := 29) (rf := rfP 25) (rf' := rfP 26) hI X9 okX8 7 rfl rfl rfl wF_X8_24 ⟨(Nat.le_of_ble_eq_true rfl), rfl⟩ (fun _ => ⟨rfl, rfl⟩) (rfP_s rfl rfl) dX8_init_40 ?_
  refine a_aload_n (pc := 43) X9 dX8_init_43 rfl rfl ?_
  refine a_bipush (pc := 44) X9 dX8_init_44 rfl ?_
  refine a_newarr (atype := .int) (pc := 46) (n := 29) (N := 12) (t := 0) (rf := rfP 26) X9 hR (Nat.le_of_ble_eq_true rfl) rfl (fun C h => by cases h) w_arrayClass__int rfl rfl (rfP_fw (by decide +kernel)) (Nat.le_of_ble_eq_true rfl) (Nat.le_of_ble_eq_true rfl) rfl rfl (Nat.le_of_ble_eq_true rfl) (Nat.le_of_ble_eq_true rfl) ⟨Nat.le_of_ble_eq_true rfl, Nat.le_of_ble_eq_true rfl⟩ dX8_init_46 ?_
  obtain ⟨G6, eG6⟩ : ∃ Gz, Gz = zG G5 29 := ⟨_, rfl⟩
  have hG6 : GR G6 := by rw [eG6]; exact hG5.zz
  rw [← eG6]
  refine a_putR (pc := 48) (n := 30) (rf := rfP 26) (rf' := rfP 27) hI X9 okX8 9 rfl rfl rfl wF_X8_27 ⟨(Nat.le_of_ble_eq_true rfl), rfl⟩ (fun _ => ⟨rfl, rfl⟩) (rfP_s rfl rfl) dX8_init_48 ?_
  refine a_aload_n (pc := 51) X9 dX8_init_51 rfl rfl ?_
  refine a_bipush (pc := 52) X9 dX8_init_52 rfl ?_
  refine a_newarr (atype := .int) (pc := 54) (n := 30) (N := 12) (t := 0) (rf := rfP 27) X9 hR (Nat.le_of_ble_eq_true rfl) rfl (fun C h => by cases h) w_arrayClass__int rfl rfl (rfP_fw (by decide +kernel)) (Nat.le_of_ble_eq_true rfl) (Nat.le_of_ble_eq_true rfl) rfl rfl (Nat.le_of_ble_eq_true rfl) (Nat.le_of_ble_eq_true rfl) ⟨Nat.le_of_ble_eq_true rfl, Nat.le_of_ble_eq_true rfl⟩ dX8_init_54 ?_
  obtain ⟨G7, eG7⟩ : ∃ Gz, Gz = zG G6 30 := ⟨_, rfl⟩
  have hG7 : GR G7 := by rw [eG7]; exact hG6.zz
  rw [← eG7]
  refine a_putR (pc := 56) (n := 31) (rf := rfP 27) (rf' := rfP 28) hI X9 okX8 10 rfl rfl rfl wF_X8_30 ⟨(Nat.le_of_ble_eq_true rfl), rfl⟩ (fun _ => ⟨rfl, rfl⟩) (rfP_s rfl rfl) dX8_init_56 ?_
  refine a_aload_n (pc := 59) X9 dX8_init_59 rfl rfl ?_
  refine a_bipush (pc := 60) X9 dX8_init_60 rfl ?_
  refine a_newarr (atype := .int) (pc := 62) (n := 31) (N := 12) (t := 0) (rf := rfP 28) X9 hR (Nat.le_of_ble_eq_true rfl) rfl (fun C h => by cases h) w_arrayClass__int rfl rfl (rfP_fw (by decide +kernel)) (Nat.le_of_ble_eq_true rfl) (Nat.le_of_ble_eq_true rfl) rfl rfl (Nat.le_of_ble_eq_true rfl) (Nat.le_of_ble_eq_true rfl) ⟨Nat.le_of_ble_eq_true rfl, Nat.le_of_ble_eq_true rfl⟩ dX8_init_62 ?_
  obtain ⟨G8, eG8⟩ : ∃ Gz, Gz = zG G7 31 := ⟨_, rfl⟩
  have hG8 : GR G8 := by rw [eG8]; exact hG7.zz
  rw [← eG8]
  refine a_putR (pc := 64) (n := 32) (rf := rfP 28) (rf' := rfP 29) hI X9 okX8 11 rfl rfl rfl wF_X8_33 ⟨(Nat.le_of_ble_eq_true rfl), rfl⟩ (fun _ => ⟨rfl, rfl⟩) (rfP_s rfl rfl) dX8_init_64 ?_
  exact a_return (pc := 67) X9 E (Nat.le_of_ble_eq_true rfl) (Nat.le_of_ble_eq_true rfl) dX8_init_67 ⟨rfl, rfl, ⟨(by intro b k hb; rw [eG8, zG_ne (by omega)]; rw [eG7, zG_ne (by omega)]; rw [eG6, zG_ne (by omega)]; rw [eG5, zG_ne (by omega)]; rw [eG4, zG_ne (by omega)]; rw [eG3, zG_ne (by omega)]; rw [eG2, zG_ne (by omega)]; rw [eG1, zG_ne (by omega)]), trivial⟩⟩
set_option maxHeartbeats 4000000 in
set_option maxRecDepth 100000 in
theorem k_X6_init_32 {G : GH} : Mt yX6_init cX6_init 1 none 1 13 2 144 [vr 32] (33, shF, rfP 30) G (fun v S' G' => S' = (35, shF, rfP 32) ∧ v = none ∧ ((∀ b k, b < 32 → G' b k = G b k) ∧ True)) noX := by
  refine Mt.ofI (l0 := [some (vr 32)]) rfl (by decide) (Nat.le_of_ble_eq_true rfl) rfl ?_
  intro κ δ ρ0 X9 hI E hG
  replace X9 : CX κ δ RX6 cX6_init 1 none := X9
  have hR := E.rm
  refine a_aload_n (pc := 0) X9 dX6_init_0 rfl rfl ?_
  refine a_objInit (pc := 1) X9 hR wM_X6_3 (Nat.le_of_ble_eq_true rfl) (Nat.le_of_ble_eq_true rfl) dX6_init_1 ?_
  refine a_aload_n (pc := 4) X9 dX6_init_4 rfl rfl ?_
  refine a_bipush (pc := 5) X9 dX6_init_5 rfl ?_
  refine a_newarr (atype := .int) (pc := 7) (n := 33) (N := 16) (t := 0) (rf := rfP 30) X9 hR (Nat.le_of_ble_eq_true rfl) rfl (fun C h => by cases h) w_arrayClass__int rfl rfl (rfP_fw (by decide +kernel)) (Nat.le_of_ble_eq_true rfl) (Nat.le_of_ble_eq_true rfl) rfl rfl (Nat.le_of_ble_eq_true rfl) (Nat.le_of_ble_eq_true rfl) ⟨Nat.le_of_ble_eq_true rfl, Nat.le_of_ble_eq_true rfl⟩ dX6_init_7 ?_
  obtain ⟨G1, eG1⟩ : ∃ Gz, Gz = zG G 33 := ⟨_, rfl⟩
  have hG1 : GR G1 := by rw [eG1]; exact hG.zz
  rw [← eG1]
  refine a_putR (pc := 9) (n := 34) (rf := rfP 30) (rf' := rfP 31) hI X9 okX6 1 rfl rfl rfl wF_X6_9 ⟨(Nat.le_of_ble_eq_true rfl), rfl⟩ (fun _ => ⟨rfl, rfl⟩) (rfP_s rfl rfl) dX6_init_9 ?_
  refine a_aload_n (pc := 12) X9 dX6_init_12 rfl rfl ?_
  refine a_sipush (pc := 13) X9 dX6_init_13 rfl ?_
  refine a_newarr (atype := .int) (pc := 16) (n := 34) (N := 128) (t := 0) (rf := rfP 31) X9 hR (Nat.le_of_ble_eq_true rfl) rfl (fun C h => by cases h) w_arrayClass__int rfl rfl (rfP_fw (by decide +kernel)) (Nat.le_of_ble_eq_true rfl) (Nat.le_of_ble_eq_true rfl) rfl rfl (Nat.le_of_ble_eq_true rfl) (Nat.le_of_ble_eq_true rfl) ⟨Nat.le_of_ble_eq_true rfl, Nat.le_of_ble_eq_true rfl⟩ dX6_init_16 ?_
  obtain ⟨G2, eG2⟩ : ∃ Gz, Gz = zG G1 34 := ⟨_, rfl⟩
  have hG2 : GR G2 := by rw [eG2]; exact hG1.zz
  rw [← eG2]
  refine a_putR (pc := 18) (n := 35) (rf := rfP 31) (rf' := rfP 32) hI X9 okX6 2 rfl rfl rfl wF_X6_15 ⟨(Nat.le_of_ble_eq_true rfl), rfl⟩ (fun _ => ⟨rfl, rfl⟩) (rfP_s rfl rfl) dX6_init_18 ?_
  exact a_return (pc := 21) X9 E (Nat.le_of_ble_eq_true rfl) (Nat.le_of_ble_eq_true rfl) dX6_init_21 ⟨rfl, rfl, ⟨(by intro b k hb; rw [eG2, zG_ne (by omega)]; rw [eG1, zG_ne (by omega)]), trivial⟩⟩
set_option maxHeartbeats 4000000 in
set_option maxRecDepth 100000 in
theorem k_X0_init_35 {G : GH} : Mt yX0_init cX0_init 1 none 1 13 5 222 [vr 35] (36, shF, rfP 33) G (fun v S' G' => S' = (41, shF, rfP 38) ∧ v = none ∧ ((∀ b k, b < 35 → G' b k = G b k) ∧ True)) noX := by
  refine Mt.ofI (l0 := [some (vr 35)]) rfl (by decide) (Nat.le_of_ble_eq_true rfl) rfl ?_
  intro κ δ ρ0 X9 hI E hG
  replace X9 : CX κ δ RX0 cX0_init 1 none := X9
  have hR := E.rm
  refine a_aload_n (pc := 0) X9 dX0_init_0 rfl rfl ?_
  refine a_objInit (pc := 1) X9 hR wM_X0_3 (Nat.le_of_ble_eq_true rfl) (Nat.le_of_ble_eq_true rfl) dX0_init_1 ?_
  refine a_aload_n (pc := 4) X9 dX0_init_4 rfl rfl ?_
  refine a_iconst (pc := 5) X9 dX0_init_5 ?_
  refine a_putI (pc := 6) X9 okX0 0 rfl rfl wF_X0_9 ⟨(Nat.le_of_ble_eq_true rfl), rfl⟩ dX0_init_6 (by decide) (fit_int _) (fun _ => ?_)
  obtain ⟨G1, eG1⟩ : ∃ Gz, Gz = upG G 35 0 (-1) := ⟨_, rfl⟩
  have hG1 : GR G1 := by rw [eG1]; exact GR.up hG (by decide)
  rw [← eG1]
  refine a_aload_n (pc := 9) X9 dX0_init_9 rfl rfl ?_
  refine a_bipush (pc := 10) X9 dX0_init_10 rfl ?_
  refine a_newarr (atype := .int) (pc := 12) (n := 36) (N := 18) (t := 0) (rf := rfP 33) X9 hR (Nat.le_of_ble_eq_true rfl) rfl (fun C h => by cases h) w_arrayClass__int rfl rfl (rfP_fw (by decide +kernel)) (Nat.le_of_ble_eq_true rfl) (Nat.le_of_ble_eq_true rfl) rfl rfl (Nat.le_of_ble_eq_true rfl) (Nat.le_of_ble_eq_true rfl) ⟨Nat.le_of_ble_eq_true rfl, Nat.le_of_ble_eq_true rfl⟩ dX0_init_12 ?_
  obtain ⟨G2, eG2⟩ : ∃ Gz, Gz = zG G1 36 := ⟨_, rfl⟩
  have hG2 : GR G2 := by rw [eG2]; exact hG1.zz
  rw [← eG2]
  refine a_putR (pc := 14) (n := 37) (rf := rfP 33) (rf' := rfP 34) hI X9 okX0 1 rfl rfl rfl wF_X0_15 ⟨(Nat.le_of_ble_eq_true rfl), rfl⟩ (fun _ => ⟨rfl, rfl⟩) (rfP_s rfl rfl) dX0_init_14 ?_
  refine a_aload_n (pc := 17) X9 dX0_init_17 rfl rfl ?_
  refine a_bipush (pc := 18) X9 dX0_init_18 rfl ?_
  refine a_newarr (atype := .int) (pc := 20) (n := 37) (N := 54) (t := 0) (rf := rfP 34) X9 hR (Nat.le_of_ble_eq_true rfl) rfl (fun C h => by cases h) w_arrayClass__int rfl rfl (rfP_fw (by decide +kernel)) (Nat.le_of_ble_eq_true rfl) (Nat.le_of_ble_eq_true rfl) rfl rfl (Nat.le_of_ble_eq_true rfl) (Nat.le_of_ble_eq_true rfl) ⟨Nat.le_of_ble_eq_true rfl, Nat.le_of_ble_eq_true rfl⟩ dX0_init_20 ?_
  obtain ⟨G3, eG3⟩ : ∃ Gz, Gz = zG G2 37 := ⟨_, rfl⟩
  have hG3 : GR G3 := by rw [eG3]; exact hG2.zz
  rw [← eG3]
  refine a_putR (pc := 22) (n := 38) (rf := rfP 34) (rf' := rfP 35) hI X9 okX0 2 rfl rfl rfl wF_X0_19 ⟨(Nat.le_of_ble_eq_true rfl), rfl⟩ (fun _ => ⟨rfl, rfl⟩) (rfP_s rfl rfl) dX0_init_22 ?_
  refine a_aload_n (pc := 25) X9 dX0_init_25 rfl rfl ?_
  refine a_bipush (pc := 26) X9 dX0_init_26 rfl ?_
  refine a_newarr (atype := .int) (pc := 28) (n := 38) (N := 54) (t := 0) (rf := rfP 35) X9 hR (Nat.le_of_ble_eq_true rfl) rfl (fun C h => by cases h) w_arrayClass__int rfl rfl (rfP_fw (by decide +kernel)) (Nat.le_of_ble_eq_true rfl) (Nat.le_of_ble_eq_true rfl) rfl rfl (Nat.le_of_ble_eq_true rfl) (Nat.le_of_ble_eq_true rfl) ⟨Nat.le_of_ble_eq_true rfl, Nat.le_of_ble_eq_true rfl⟩ dX0_init_28 ?_
  obtain ⟨G4, eG4⟩ : ∃ Gz, Gz = zG G3 38 := ⟨_, rfl⟩
  have hG4 : GR G4 := by rw [eG4]; exact hG3.zz
  rw [← eG4]
  refine a_putR (pc := 30) (n := 39) (rf := rfP 35) (rf' := rfP 36) hI X9 okX0 3 rfl rfl rfl wF_X0_22 ⟨(Nat.le_of_ble_eq_true rfl), rfl⟩ (fun _ => ⟨rfl, rfl⟩) (rfP_s rfl rfl) dX0_init_30 ?_
  refine a_aload_n (pc := 33) X9 dX0_init_33 rfl rfl ?_
  refine a_bipush (pc := 34) X9 dX0_init_34 rfl ?_
  refine a_newarr (atype := .int) (pc := 36) (n := 39) (N := 54) (t := 0) (rf := rfP 36) X9 hR (Nat.le_of_ble_eq_true rfl) rfl (fun C h => by cases h) w_arrayClass__int rfl rfl (rfP_fw (by decide +kernel)) (Nat.le_of_ble_eq_true rfl) (Nat.le_of_ble_eq_true rfl) rfl rfl (Nat.le_of_ble_eq_true rfl) (Nat.le_of_ble_eq_true rfl) ⟨Nat.le_of_ble_eq_true rfl, Nat.le_of_ble_eq_true rfl⟩ dX0_init_36 ?_
  obtain ⟨G5, eG5⟩ : ∃ Gz, Gz = zG G4 39 := ⟨_, rfl⟩
  have hG5 : GR G5 := by rw [eG5]; exact hG4.zz
  rw [← eG5]
  refine a_putR (pc := 38) (n := 40) (rf := rfP 36) (rf' := rfP 37) hI X9 okX0 4 rfl rfl rfl wF_X0_25 ⟨(Nat.le_of_ble_eq_true rfl), rfl⟩ (fun _ => ⟨rfl, rfl⟩) (rfP_s rfl rfl) dX0_init_38 ?_
  refine a_aload_n (pc := 41) X9 dX0_init_41 rfl rfl ?_
  refine a_bipush (pc := 42) X9 dX0_init_42 rfl ?_
  refine a_newarr (atype := .int) (pc := 44) (n := 40) (N := 42) (t := 0) (rf := rfP 37) X9 hR (Nat.le_of_ble_eq_true rfl) rfl (fun C h => by cases h) w_arrayClass__int rfl rfl (rfP_fw (by decide +kernel)) (Nat.le_of_ble_eq_true rfl) (Nat.le_of_ble_eq_true rfl) rfl rfl (Nat.le_of_ble_eq_true rfl) (Nat.le_of_ble_eq_true rfl) ⟨Nat.le_of_ble_eq_true rfl, Nat.le_of_ble_eq_true rfl⟩ dX0_init_44 ?_
  obtain ⟨G6, eG6⟩ : ∃ Gz, Gz = zG G5 40 := ⟨_, rfl⟩
  have hG6 : GR G6 := by rw [eG6]; exact hG5.zz
  rw [← eG6]
  refine a_putR (pc := 46) (n := 41) (rf := rfP 37) (rf' := rfP 38) hI X9 okX0 5 rfl rfl rfl wF_X0_28 ⟨(Nat.le_of_ble_eq_true rfl), rfl⟩ (fun _ => ⟨rfl, rfl⟩) (rfP_s rfl rfl) dX0_init_46 ?_
  exact a_return (pc := 49) X9 E (Nat.le_of_ble_eq_true rfl) (Nat.le_of_ble_eq_true rfl) dX0_init_49 ⟨rfl, rfl, ⟨(by intro b k hb; rw [eG6, zG_ne (by omega)]; rw [eG5, zG_ne (by omega)]; rw [eG4, zG_ne (by omega)]; rw [eG3, zG_ne (by omega)]; rw [eG2, zG_ne (by omega)]; rw [eG1, upG_na (by omega)]), trivial⟩⟩
set_option maxHeartbeats 4000000 in
set_option maxRecDepth 100000 in
theorem k_X7_init_21 {G : GH} : Mt yX7_init cX7_init 1 none 2 33 19 525 [vr 21] (22, shF, rfP 20) G (fun v S' G' => S' = (41, shF, rfP 39) ∧ v = none ∧ ((∀ b k, b < 21 → G' b k = G b k) ∧ True)) noX := by
  refine Mt.ofI (l0 := [some (vr 21)]) rfl (by decide) (Nat.le_of_ble_eq_true rfl) rfl ?_
  intro κ δ ρ0 X9 hI E hG
  replace X9 : CX κ δ RX7 cX7_init 1 none := X9
  have hR := E.rm
  refine a_aload_n (pc := 0) X9 dX7_init_0 rfl rfl ?_
  refine a_objInit (pc := 1) X9 hR wM_X7_3 (Nat.le_of_ble_eq_true rfl) (Nat.le_of_ble_eq_true rfl) dX7_init_1 ?_
  refine a_aload_n (pc := 4) X9 dX7_init_4 rfl rfl ?_
  refine a_iconst (pc := 5) X9 dX7_init_5 ?_
  refine a_newarr (atype := .int) (pc := 6) (n := 22) (N := 3) (t := 0) (rf := rfP 20) X9 hR (Nat.le_of_ble_eq_true rfl) rfl (fun C h => by cases h) w_arrayClass__int rfl rfl (rfP_fw (by decide +kernel)) (Nat.le_of_ble_eq_true rfl) (Nat.le_of_ble_eq_true rfl) rfl rfl (Nat.le_of_ble_eq_true rfl) (Nat.le_of_ble_eq_true rfl) ⟨Nat.le_of_ble_eq_true rfl, Nat.le_of_ble_eq_true rfl⟩ dX7_init_6 ?_
  obtain ⟨G1, eG1⟩ : ∃ Gz, Gz = zG G 22 := ⟨_, rfl⟩
  have hG1 : GR G1 := by rw [eG1]; exact hG.zz
  rw [← eG1]
  refine a_putR (pc := 8) (n := 23) (rf := rfP 20) (rf' := rfP 21) hI X9 okX7 1 rfl rfl rfl wF_X7_9 ⟨(Nat.le_of_ble_eq_true rfl), rfl⟩ (fun _ => ⟨rfl, rfl⟩) (rfP_s rfl rfl) dX7_init_8 ?_
  refine a_aload_n (pc := 11) X9 dX7_init_11 rfl rfl ?_
  refine a_new (pc := 12) (n := 23) (rf := rfP 21) X9 hR okX8 wC_X7_15 w_instantiable_RX8 w_initialized_RX8 fv_X8 rfl (rfP_none (by decide +kernel)) (rfP_fw (by decide +kernel)) (Nat.le_of_ble_eq_true rfl) (Nat.le_of_ble_eq_true rfl) rfl rfl ⟨Nat.le_of_ble_eq_true rfl, Nat.le_of_ble_eq_true rfl⟩ dX7_init_12 ?_
  obtain ⟨G2, eG2⟩ : ∃ Gz, Gz = zG G1 23 := ⟨_, rfl⟩
  have hG2 : GR G2 := by rw [eG2]; exact hG1.zz
  rw [← eG2]
  refine a_dup (pc := 15) X9 dX7_init_15 rfl ?_
  refine a_callIN (pc := 16) X9 hR (k_X8_init_23 (G := G2)) (Nat.le_of_ble_eq_true rfl) rfl rfl (Nat.le_of_ble_eq_true rfl) nx_X7_17 w_instanceMethod_X8_init w_initialized_RX8 w_code_X8_init cpN_X8 pnN_X8 rfl (Nat.le_of_ble_eq_true rfl) ⟨Nat.le_of_ble_eq_true rfl, Nat.le_of_ble_eq_true rfl⟩ ⟨Nat.le_of_ble_eq_true rfl, Nat.le_of_ble_eq_true rfl⟩ dX7_init_16 (fun G3 pG3 hG3 => ?_)
  refine a_putR (pc := 19) (n := 32) (rf := rfP 29) (rf' := rfP 30) hI X9 okX7 3 rfl rfl rfl wF_X7_18 ⟨(Nat.le_of_ble_eq_true rfl), rfl⟩ (fun _ => ⟨rfl, rfl⟩) (rfP_s rfl rfl) dX7_init_19 ?_
  refine a_aload_n (pc := 22) X9 dX7_init_22 rfl rfl ?_
  refine a_new (pc := 23) (n := 32) (rf := rfP 30) X9 hR okX6 wC_X7_22 w_instantiable_RX6 w_initialized_RX6 fv_X6 rfl (rfP_none (by decide +kernel)) (rfP_fw (by decide +kernel)) (Nat.le_of_ble_eq_true rfl) (Nat.le_of_ble_eq_true rfl) rfl rfl ⟨Nat.le_of_ble_eq_true rfl, Nat.le_of_ble_eq_true rfl⟩ dX7_init_23 ?_
  obtain ⟨G4, eG4⟩ : ∃ Gz, Gz = zG G3 32 := ⟨_, rfl⟩
  have hG4 : GR G4 := by rw [eG4]; exact hG3.zz
  rw [← eG4]
  refine a_dup (pc := 26) X9 dX7_init_26 rfl ?_
  refine a_callIN (pc := 27) X9 hR (k_X6_init_32 (G := G4)) (Nat.le_of_ble_eq_true rfl) rfl rfl (Nat.le_of_ble_eq_true rfl) nx_X7_24 w_instanceMethod_X6_init w_initialized_RX6 w_code_X6_init cpN_X6 pnN_X6 rfl (Nat.le_of_ble_eq_true rfl) ⟨Nat.le_of_ble_eq_true rfl, Nat.le_of_ble_eq_true rfl⟩ ⟨Nat.le_of_ble_eq_true rfl, Nat.le_of_ble_eq_true rfl⟩ dX7_init_27 (fun G5 pG5 hG5 => ?_)
  refine a_putR (pc := 30) (n := 35) (rf := rfP 32) (rf' := rfP 33) hI X9 okX7 4 rfl rfl rfl wF_X7_25 ⟨(Nat.le_of_ble_eq_true rfl), rfl⟩ (fun _ => ⟨rfl, rfl⟩) (rfP_s rfl rfl) dX7_init_30 ?_
  refine a_aload_n (pc := 33) X9 dX7_init_33 rfl rfl ?_
  refine a_new (pc := 34) (n := 35) (rf := rfP 33) X9 hR okX0 wC_X7_29 w_instantiable_RX0 w_initialized_RX0 fv_X0 rfl (rfP_none (by decide +kernel)) (rfP_fw (by decide +kernel)) (Nat.le_of_ble_eq_true rfl) (Nat.le_of_ble_eq_true rfl) rfl rfl ⟨Nat.le_of_ble_eq_true rfl, Nat.le_of_ble_eq_true rfl⟩ dX7_init_34 ?_
  obtain ⟨G6, eG6⟩ : ∃ Gz, Gz = zG G5 35 := ⟨_, rfl⟩
  have hG6 : GR G6 := by rw [eG6]; exact hG5.zz
  rw [← eG6]
  refine a_dup (pc := 37) X9 dX7_init_37 rfl ?_
  refine a_callIN (pc := 38) X9 hR (k_X0_init_35 (G := G6)) (Nat.le_of_ble_eq_true rfl) rfl rfl (Nat.le_of_ble_eq_true rfl) nx_X7_31 w_instanceMethod_X0_init w_initialized_RX0 w_code_X0_init cpN_X0 pnN_X0 rfl (Nat.le_of_ble_eq_true rfl) ⟨Nat.le_of_ble_eq_true rfl, Nat.le_of_ble_eq_true rfl⟩ ⟨Nat.le_of_ble_eq_true rfl, Nat.le_of_ble_eq_true rfl⟩ dX7_init_38 (fun G7 pG7 hG7 => ?_)
  refine a_putR (pc := 41) (n := 41) (rf := rfP 38) (rf' := rfP 39) hI X9 okX7 5 rfl rfl rfl wF_X7_32 ⟨(Nat.le_of_ble_eq_true rfl), rfl⟩ (fun _ => ⟨rfl, rfl⟩) (rfP_s rfl rfl) dX7_init_41 ?_
  exact a_return (pc := 44) X9 E (Nat.le_of_ble_eq_true rfl) (Nat.le_of_ble_eq_true rfl) dX7_init_44 ⟨rfl, rfl, ⟨(by intro b k hb; rw [pG7.1 b k (by omega)]; rw [eG6, zG_ne (by omega)]; rw [pG5.1 b k (by omega)]; rw [eG4, zG_ne (by omega)]; rw [pG3.1 b k (by omega)]; rw [eG2, zG_ne (by omega)]; rw [eG1, zG_ne (by omega)]), trivial⟩⟩
set_option maxHeartbeats 4000000 in
set_option maxRecDepth 100000 in
theorem k_X5_init_41 {G : GH} : Mt yX5_init cX5_init 1 none 1 13 2 503 [vr 41] (42, shF, rfP 40) G (fun v S' G' => S' = (44, shF, rfP 42) ∧ v = none ∧ ((∀ b k, b < 41 → G' b k = G b k) ∧ G' 41 1 = G 41 1 ∧ G' 41 2 = G 41 2 ∧ G' 41 3 = G 41 3 ∧ G' 41 4 = G 41 4 ∧ G' 41 5 = G 41 5 ∧ G' 41 6 = G 41 6 ∧ G' 41 7 = G 41 7 ∧ G' 41 8 = G 41 8 ∧ G' 41 9 = G 41 9)) noX := by
  refine Mt.ofI (l0 := [some (vr 41)]) rfl (by decide) (Nat.le_of_ble_eq_true rfl) rfl ?_
  intro κ δ ρ0 X9 hI E hG
  replace X9 : CX κ δ RX5 cX5_init 1 none := X9
  have hR := E.rm
  refine a_aload_n (pc := 0) X9 dX5_init_0 rfl rfl ?_
  refine a_objInit (pc := 1) X9 hR wM_X5_3 (Nat.le_of_ble_eq_true rfl) (Nat.le_of_ble_eq_true rfl) dX5_init_1 ?_
  refine a_aload_n (pc := 4) X9 dX5_init_4 rfl rfl ?_
  refine a_sipush (pc := 5) X9 dX5_init_5 rfl ?_
  refine a_newarr (atype := .int) (pc := 8) (n := 42) (N := 500) (t := 0) (rf := rfP 40) X9 hR (Nat.le_of_ble_eq_true rfl) rfl (fun C h => by cases h) w_arrayClass__int rfl rfl (rfP_fw (by decide +kernel)) (Nat.le_of_ble_eq_true rfl) (Nat.le_of_ble_eq_true rfl) rfl rfl (Nat.le_of_ble_eq_true rfl) (Nat.le_of_ble_eq_true rfl) ⟨Nat.le_of_ble_eq_true rfl, Nat.le_of_ble_eq_true rfl⟩ dX5_init_8 ?_
  obtain ⟨G1, eG1⟩ : ∃ Gz, Gz = zG G 42 := ⟨_, rfl⟩
  have hG1 : GR G1 := by rw [eG1]; exact hG.zz
  rw [← eG1]
  refine a_putR (pc := 10) (n := 43) (rf := rfP 40) (rf' := rfP 41) hI X9 okX5 0 rfl rfl rfl wF_X5_9 ⟨(Nat.le_of_ble_eq_true rfl), rfl⟩ (fun _ => ⟨rfl, rfl⟩) (rfP_s rfl rfl) dX5_init_10 ?_
  refine a_aload_n (pc := 13) X9 dX5_init_13 rfl rfl ?_
  refine a_iconst (pc := 14) X9 dX5_init_14 ?_
  refine a_newarr (atype := .int) (pc := 15) (n := 43) (N := 3) (t := 0) (rf := rfP 41) X9 hR (Nat.le_of_ble_eq_true rfl) rfl (fun C h => by cases h) w_arrayClass__int rfl rfl (rfP_fw (by decide +kernel)) (Nat.le_of_ble_eq_true rfl) (Nat.le_of_ble_eq_true rfl) rfl rfl (Nat.le_of_ble_eq_true rfl) (Nat.le_of_ble_eq_true rfl) ⟨Nat.le_of_ble_eq_true rfl, Nat.le_of_ble_eq_true rfl⟩ dX5_init_15 ?_
  obtain ⟨G2, eG2⟩ : ∃ Gz, Gz = zG G1 43 := ⟨_, rfl⟩
  have hG2 : GR G2 := by rw [eG2]; exact hG1.zz
  rw [← eG2]
  refine a_putR (pc := 17) (n := 44) (rf := rfP 41) (rf' := rfP 42) hI X9 okX5 10 rfl rfl rfl wF_X5_15 ⟨(Nat.le_of_ble_eq_true rfl), rfl⟩ (fun _ => ⟨rfl, rfl⟩) (rfP_s rfl rfl) dX5_init_17 ?_
  exact a_return (pc := 20) X9 E (Nat.le_of_ble_eq_true rfl) (Nat.le_of_ble_eq_true rfl) dX5_init_20 ⟨rfl, rfl, ⟨(by intro b k hb; rw [eG2, zG_ne (by omega)]; rw [eG1, zG_ne (by omega)]), (by rw [eG2, zG_ne (by decide)]; rw [eG1, zG_ne (by decide)]), (by rw [eG2, zG_ne (by decide)]; rw [eG1, zG_ne (by decide)]), (by rw [eG2, zG_ne (by decide)]; rw [eG1, zG_ne (by decide)]), (by rw [eG2, zG_ne (by decide)]; rw [eG1, zG_ne (by decide)]), (by rw [eG2, zG_ne (by decide)]; rw [eG1, zG_ne (by decide)]), (by rw [eG2, zG_ne (by decide)]; rw [eG1, zG_ne (by decide)]), (by rw [eG2, zG_ne (by decide)]; rw [eG1, zG_ne (by decide)]), (by rw [eG2, zG_ne (by decide)]; rw [eG1, zG_ne (by decide)]), (by rw [eG2, zG_ne (by decide)]; rw [eG1, zG_ne (by decide)])⟩⟩
set_option maxHeartbeats 4000000 in
set_option maxRecDepth 100000 in
theorem k_X8_init_48 {G : GH} : Mt yX8_init cX8_init 1 none 1 13 8 135 [vr 48] (49, shF, rfP 45) G (fun v S' G' => S' = (57, shF, rfP 53) ∧ v = none ∧ ((∀ b k, b < 48 → G' b k = G b k) ∧ True)) noX := by
  refine Mt.ofI (l0 := [some (vr 48)]) rfl (by decide) (Nat.le_of_ble_eq_true rfl) rfl ?_
  intro κ δ ρ0 X9 hI E hG
  replace X9 : CX κ δ RX8 cX8_init 1 none := X9
  have hR := E.rm
  refine a_aload_n (pc := 0) X9 dX8_init_0 rfl rfl ?_
  refine a_objInit (pc := 1) X9 hR wM_X8_3 (Nat.le_of_ble_eq_true rfl) (Nat.le_of_ble_eq_true rfl) dX8_init_1 ?_
  refine a_aload_n (pc := 4) X9 dX8_init_4 rfl rfl ?_
  refine a_bipush (pc := 5) X9 dX8_init_5 rfl ?_
  refine a_newarr (atype := .int) (pc := 7) (n := 49) (N := 12) (t := 0) (rf := rfP 45) X9 hR (Nat.le_of_ble_eq_true rfl) rfl (fun C h => by cases h) w_arrayClass__int rfl rfl (rfP_fw (by decide +kernel)) (Nat.le_of_ble_eq_true rfl) (Nat.le_of_ble_eq_true rfl) rfl rfl (Nat.le_of_ble_eq_true rfl) (Nat.le_of_ble_eq_true rfl) ⟨Nat.le_of_ble_eq_true rfl, Nat.le_of_ble_eq_true rfl⟩ dX8_init_7 ?_
  obtain ⟨G1, eG1⟩ : ∃ Gz, Gz = zG G 49 := ⟨_, rfl⟩
  have hG1 : GR G1 := by rw [eG1]; exact hG.zz
  rw [← eG1]
  refine a_putR (pc := 9) (n := 50) (rf := rfP 45) (rf' := rfP 46) hI X9 okX8 2 rfl rfl rfl wF_X8_9 ⟨(Nat.le_of_ble_eq_true rfl), rfl⟩ (fun _ => ⟨rfl, rfl⟩) (rfP_s rfl rfl) dX8_init_9 ?_
  refine a_aload_n (pc := 12) X9 dX8_init_12 rfl rfl ?_
  refine a_bipush (pc := 13) X9 dX8_init_13 rfl ?_
  refine a_newarr (atype := .int) (pc := 15) (n := 50) (N := 12) (t := 0) (rf := rfP 46) X9 hR (Nat.le_of_ble_eq_true rfl) rfl (fun C h => by cases h) w_arrayClass__int rfl rfl (rfP_fw (by decide +kernel)) (Nat.le_of_ble_eq_true rfl) (Nat.le_of_ble_eq_true rfl) rfl rfl (Nat.le_of_ble_eq_true rfl) (Nat.le_of_ble_eq_true rfl) ⟨Nat.le_of_ble_eq_true rfl, Nat.le_of_ble_eq_true rfl⟩ dX8_init_15 ?_
  obtain ⟨G2, eG2⟩ : ∃ Gz, Gz = zG G1 50 := ⟨_, rfl⟩
  have hG2 : GR G2 := by rw [eG2]; exact hG1.zz
  rw [← eG2]
  refine a_putR (pc := 17) (n := 51) (rf := rfP 46) (rf' := rfP 47) hI X9 okX8 3 rfl rfl rfl wF_X8_15 ⟨(Nat.le_of_ble_eq_true rfl), rfl⟩ (fun _ => ⟨rfl, rfl⟩) (rfP_s rfl rfl) dX8_init_17 ?_
  refine a_aload_n (pc := 20) X9 dX8_init_20 rfl rfl ?_
  refine a_bipush (pc := 21) X9 dX8_init_21 rfl ?_
  refine a_newarr (atype := .int) (pc := 23) (n := 51) (N := 42) (t := 0) (rf := rfP 47) X9 hR (Nat.le_of_ble_eq_true rfl) rfl (fun C h => by cases h) w_arrayClass__int rfl rfl (rfP_fw (by decide +kernel)) (Nat.le_of_ble_eq_true rfl) (Nat.le_of_ble_eq_true rfl) rfl rfl (Nat.le_of_ble_eq_true rfl) (Nat.le_of_ble_eq_true rfl) ⟨Nat.le_of_ble_eq_true rfl, Nat.le_of_ble_eq_true rfl⟩ dX8_init_23 ?_
  obtain ⟨G3, eG3⟩ : ∃ Gz, Gz = zG G2 51 := ⟨_, rfl⟩
  have hG3 : GR G3 := by rw [eG3]; exact hG2.zz
  rw [← eG3]
  refine a_putR (pc := 25) (n := 52) (rf := rfP 47) (rf' := rfP 48) hI X9 okX8 4 rfl rfl rfl wF_X8_18 ⟨(Nat.le_of_ble_eq_true rfl), rfl⟩ (fun _ => ⟨rfl, rfl⟩) (rfP_s rfl rfl) dX8_init_25 ?_
  refine a_aload_n (pc := 28) X9 dX8_init_28 rfl rfl ?_
  refine a_iconst (pc := 29) X9 dX8_init_29 ?_
  refine a_newarr (atype := .int) (pc := 30) (n := 52) (N := 3) (t := 0) (rf := rfP 48) X9 hR (Nat.le_of_ble_eq_true rfl) rfl (fun C h => by cases h) w_arrayClass__int rfl rfl (rfP_fw (by decide +kernel)) (Nat.le_of_ble_eq_true rfl) (Nat.le_of_ble_eq_true rfl) rfl rfl (Nat.le_of_ble_eq_true rfl) (Nat.le_of_ble_eq_true rfl) ⟨Nat.le_of_ble_eq_true rfl, Nat.le_of_ble_eq_true rfl⟩ dX8_init_30 ?_
  obtain ⟨G4, eG4⟩ : ∃ Gz, Gz = zG G3 52 := ⟨_, rfl⟩
  have hG4 : GR G4 := by rw [eG4]; exact hG3.zz
  rw [← eG4]
  refine a_putR (pc := 32) (n := 53) (rf := rfP 48) (rf' := rfP 49) hI X9 okX8 6 rfl rfl rfl wF_X8_21 ⟨(Nat.le_of_ble_eq_true rfl), rfl⟩ (fun _ => ⟨rfl, rfl⟩) (rfP_s rfl rfl) dX8_init_32 ?_
  refine a_aload_n (pc := 35) X9 dX8_init_35 rfl rfl ?_
  refine a_bipush (pc := 36) X9 dX8_init_36 rfl ?_
  refine a_newarr (atype := .int) (pc := 38) (n := 53) (N := 30) (t := 0) (rf := rfP 49) X9 hR (Nat.le_of_ble_eq_true rfl) rfl (fun C h => by cases h) w_arrayClass__int rfl rfl (rfP_fw (by decide +kernel)) (Nat.le_of_ble_eq_true rfl) (Nat.le_of_ble_eq_true rfl) rfl rfl (Nat.le_of_ble_eq_true rfl) (Nat.le_of_ble_eq_true rfl) ⟨Nat.le_of_ble_eq_true rfl, Nat.le_of_ble_eq_true rfl⟩ dX8_init_38 ?_
  obtain ⟨G5, eG5⟩ : ∃ Gz, Gz = zG G4 53 := ⟨_, rfl⟩
  have hG5 : GR G5 := by rw [eG5]; exact hG4.zz
  rw [← eG5]
  refine a_putR (pc := 40) (n := 54) (rf := rfP 49) (rf' := rfP 50) hI X9 okX8 7 rfl rfl rfl wF_X8_24 ⟨(Nat.le_of_ble_eq_true rfl), rfl⟩ (fun _ => ⟨rfl, rfl⟩) (rfP_s rfl rfl) dX8_init_40 ?_
  refine a_aload_n (pc := 43) X9 dX8_init_43 rfl rfl ?_
  refine a_bipush (pc := 44) X9 dX8_init_44 rfl ?_
  refine a_newarr (atype := .int) (pc := 46) (n := 54) (N := 12) (t := 0) (rf := rfP 50) X9 hR (Nat.le_of_ble_eq_true rfl) rfl (fun C h => by cases h) w_arrayClass__int rfl rfl (rfP_fw (by decide +kernel)) (Nat.le_of_ble_eq_true rfl) (Nat.le_of_ble_eq_true rfl) rfl rfl (Nat.le_of_ble_eq_true rfl) (Nat.le_of_ble_eq_true rfl) ⟨Nat.le_of_ble_eq_true rfl, Nat.le_of_ble_eq_true rfl⟩ dX8_init_46 ?_
  obtain ⟨G6, eG6⟩ : ∃ Gz, Gz = zG G5 54 := ⟨_, rfl⟩
  have hG6 : GR G6 := by rw [eG6]; exact hG5.zz
  rw [← eG6]
  refine a_putR (pc := 48) (n := 55) (rf := rfP 50) (rf' := rfP 51) hI X9 okX8 9 rfl rfl rfl wF_X8_27 ⟨(Nat.le_of_ble_eq_true rfl), rfl⟩ (fun _ => ⟨rfl, rfl⟩) (rfP_s rfl rfl) dX8_init_48 ?_
  refine a_aload_n (pc := 51) X9 dX8_init_51 rfl rfl ?_
  refine a_bipush (pc := 52) X9 dX8_init_52 rfl ?_
  refine a_newarr (atype := .int) (pc := 54) (n := 55) (N := 12) (t := 0) (rf := rfP 51) X9 hR (Nat.le_of_ble_eq_true rfl) rfl (fun C h => by cases h) w_arrayClass__int rfl rfl (rfP_fw (by decide +kernel)) (Nat.le_of_ble_eq_true rfl) (Nat.le_of_ble_eq_true rfl) rfl rfl (Nat.le_of_ble_eq_true rfl) (Nat.le_of_ble_eq_true rfl) ⟨Nat.le_of_ble_eq_true rfl, Nat.le_of_ble_eq_true rfl⟩ dX8_init_54 ?_
  obtain ⟨G7, eG7⟩ : ∃ Gz, Gz = zG G6 55 := ⟨_, rfl⟩
  have hG7 : GR G7 := by rw [eG7]; exact hG6.zz
  rw [← eG7]
  refine a_putR (pc := 56) (n := 56) (rf := rfP 51) (rf' := rfP 52) hI X9 okX8 10 rfl rfl rfl wF_X8_30 ⟨(Nat.le_of_ble_eq_true rfl), rfl⟩ (fun _ => ⟨rfl, rfl⟩) (rfP_s rfl rfl) dX8_init_56 ?_
  refine a_aload_n (pc := 59) X9 dX8_init_59 rfl rfl ?_
  refine a_bipush (pc := 60) X9 dX8_init_60 rfl ?_
  refine a_newarr (atype := .int) (pc := 62) (n := 56) (N := 12) (t := 0) (rf := rfP 52) X9 hR (Nat.le_of_ble_eq_true rfl) rfl (fun C h => by cases h) w_arrayClass__int rfl rfl (rfP_fw (by decide +kernel)) (Nat.le_of_ble_eq_true rfl) (Nat.le_of_ble_eq_true rfl) rfl rfl (Nat.le_of_ble_eq_true rfl) (Nat.le_of_ble_eq_true rfl) ⟨Nat.le_of_ble_eq_true rfl, Nat.le_of_ble_eq_true rfl⟩ dX8_init_62 ?_
  obtain ⟨G8, eG8⟩ : ∃ Gz, Gz = zG G7 56 := ⟨_, rfl⟩
  have hG8 : GR G8 := by rw [eG8]; exact hG7.zz
  rw [← eG8]
  refine a_putR (pc := 64) (n := 57) (rf := rfP 52) (rf' := rfP 53) hI X9 okX8 11 rfl rfl rfl wF_X8_33 ⟨(Nat.le_of_ble_eq_true rfl), rfl⟩ (fun _ => ⟨rfl, rfl⟩) (rfP_s rfl rfl) dX8_init_64 ?_
  exact a_return (pc := 67) X9 E (Nat.le_of_ble_eq_true rfl) (Nat.le_of_ble_eq_true rfl) dX8_init_67 ⟨rfl, rfl, ⟨(by intro b k hb; rw [eG8, zG_ne (by omega)]; rw [eG7, zG_ne (by omega)]; rw [eG6, zG_ne (by omega)]; rw [eG5, zG_ne (by omega)]; rw [eG4, zG_ne (by omega)]; rw [eG3, zG_ne (by omega)]; rw [eG2, zG_ne (by omega)]; rw [eG1, zG_ne (by omega)]), trivial⟩⟩
set_option maxHeartbeats 4000000 in
set_option maxRecDepth 100000 in
theorem k_X6_init_57 {G : GH} : Mt yX6_init cX6_init 1 none 1 13 2 144 [vr 57] (58, shF, rfP 54) G (fun v S' G' => S' = (60, shF, rfP 56) ∧ v = none ∧ ((∀ b k, b < 57 → G' b k = G b k) ∧ True)) noX := by
  refine Mt.ofI (l0 := [some (vr 57)]) rfl (by decide) (Nat.le_of_ble_eq_true rfl) rfl ?_
  intro κ δ ρ0 X9 hI E hG
  replace X9 : CX κ δ RX6 cX6_init 1 none := X9
  have hR := E.rm
  refine a_aload_n (pc := 0) X9 dX6_init_0 rfl rfl ?_
  refine a_objInit (pc := 1) X9 hR wM_X6_3 (Nat.le_of_ble_eq_true rfl) (Nat.le_of_ble_eq_true rfl) dX6_init_1 ?_
  refine a_aload_n (pc := 4) X9 dX6_init_4 rfl rfl ?_
  refine a_bipush (pc := 5) X9 dX6_init_5 rfl ?_
  refine a_newarr (atype := .int) (pc := 7) (n := 58) (N := 16) (t := 0) (rf := rfP 54) X9 hR (Nat.le_of_ble_eq_true rfl) rfl (fun C h => by cases h) w_arrayClass__int rfl rfl (rfP_fw (by decide +kernel)) (Nat.le_of_ble_eq_true rfl) (Nat.le_of_ble_eq_true rfl) rfl rfl (Nat.le_of_ble_eq_true rfl) (Nat.le_of_ble_eq_true rfl) ⟨Nat.le_of_ble_eq_true rfl, Nat.le_of_ble_eq_true rfl⟩ dX6_init_7 ?_
  obtain ⟨G1, eG1⟩ : ∃ Gz, Gz = zG G 58 := ⟨_, rfl⟩
  have hG1 : GR G1 := by rw [eG1]; exact hG.zz
  rw [← eG1]
  refine a_putR (pc := 9) (n := 59) (rf := rfP 54) (rf' := rfP 55) hI X9 okX6 1 rfl rfl rfl wF_X6_9 ⟨(Nat.le_of_ble_eq_true rfl), rfl⟩ (fun _ => ⟨rfl, rfl⟩) (rfP_s rfl rfl) dX6_init_9 ?_
  refine a_aload_n (pc := 12) X9 dX6_init_12 rfl rfl ?_
  refine a_sipush (pc := 13) X9 dX6_init_13 rfl ?_
  refine a_newarr (atype := .int) (pc := 16) (n := 59) (N := 128) (t := 0) (rf := rfP 55) X9 hR (Nat.le_of_ble_eq_true rfl) rfl (fun C h => by cases h) w_arrayClass__int rfl rfl (rfP_fw (by decide +kernel)) (Nat.le_of_ble_eq_true rfl) (Nat.le_of_ble_eq_true rfl) rfl rfl (Nat.le_of_ble_eq_true rfl) (Nat.le_of_ble_eq_true rfl) ⟨Nat.le_of_ble_eq_true rfl, Nat.le_of_ble_eq_true rfl⟩ dX6_init_16 ?_
  obtain ⟨G2, eG2⟩ : ∃ Gz, Gz = zG G1 59 := ⟨_, rfl⟩
  have hG2 : GR G2 := by rw [eG2]; exact hG1.zz
  rw [← eG2]
  refine a_putR (pc := 18) (n := 60) (rf := rfP 55) (rf' := rfP 56) hI X9 okX6 2 rfl rfl rfl wF_X6_15 ⟨(Nat.le_of_ble_eq_true rfl), rfl⟩ (fun _ => ⟨rfl, rfl⟩) (rfP_s rfl rfl) dX6_init_18 ?_
  exact a_return (pc := 21) X9 E (Nat.le_of_ble_eq_true rfl) (Nat.le_of_ble_eq_true rfl) dX6_init_21 ⟨rfl, rfl, ⟨(by intro b k hb; rw [eG2, zG_ne (by omega)]; rw [eG1, zG_ne (by omega)]), trivial⟩⟩
set_option maxHeartbeats 4000000 in
set_option maxRecDepth 100000 in
theorem k_X0_init_60 {G : GH} : Mt yX0_init cX0_init 1 none 1 13 5 222 [vr 60] (61, shF, rfP 57) G (fun v S' G' => S' = (66, shF, rfP 62) ∧ v = none ∧ ((∀ b k, b < 60 → G' b k = G b k) ∧ True)) noX := by
  refine Mt.ofI (l0 := [some (vr 60)]) rfl (by decide) (Nat.le_of_ble_eq_true rfl) rfl ?_
  intro κ δ ρ0 X9 hI E hG
  replace X9 : CX κ δ RX0 cX0_init 1 none := X9
  have hR := E.rm
  refine a_aload_n (pc := 0) X9 dX0_init_0 rfl rfl ?_
  refine a_objInit (pc := 1) X9 hR wM_X0_3 (Nat.le_of_ble_eq_true rfl) (Nat.le_of_ble_eq_true rfl) dX0_init_1 ?_
  refine a_aload_n (pc := 4) X9 dX0_init_4 rfl rfl ?_
  refine a_iconst (pc := 5) X9 dX0_init_5 ?_
  refine a_putI (pc := 6) X9 okX0 0 rfl rfl wF_X0_9 ⟨(Nat.le_of_ble_eq_true rfl), rfl⟩ dX0_init_6 (by decide) (fit_int _) (fun _ => ?_)
  obtain ⟨G1, eG1⟩ : ∃ Gz, Gz = upG G 60 0 (-1) := ⟨_, rfl⟩
  have hG1 : GR G1 := by rw [eG1]; exact GR.up hG (by decide)
  rw [← eG1]
  refine a_aload_n (pc := 9) X9 dX0_init_9 rfl rfl ?_
  refine a_bipush (pc := 10) X9 dX0_init_10 rfl ?_
  refine a_newarr (atype := .int) (pc := 12) (n := 61) (N := 18) (t := 0) (rf := rfP 57) X9 hR (Nat.le_of_ble_eq_true rfl) rfl (fun C h => by cases h) w_arrayClass__int rfl rfl (rfP_fw (by decide +kernel)) (Nat.le_of_ble_eq_true rfl) (Nat.le_of_ble_eq_true rfl) rfl rfl (Nat.le_of_ble_eq_true rfl) (Nat.le_of_ble_eq_true rfl) ⟨Nat.le_of_ble_eq_true rfl, Nat.le_of_ble_eq_true rfl⟩ dX0_init_12 ?_
  obtain ⟨G2, eG2⟩ : ∃ Gz, Gz = zG G1 61 := ⟨_, rfl⟩
  have hG2 : GR G2 := by rw [eG2]; exact hG1.zz
  rw [← eG2]
  refine a_putR (pc := 14) (n := 62) (rf := rfP 57) (rf' := rfP 58) hI X9 okX0 1 rfl rfl rfl wF_X0_15 ⟨(Nat.le_of_ble_eq_true rfl), rfl⟩ (fun _ => ⟨rfl, rfl⟩) (rfP_s rfl rfl) dX0_init_14 ?_
  refine a_aload_n (pc := 17) X9 dX0_init_17 rfl rfl ?_
  refine a_bipush (pc := 18) X9 dX0_init_18 rfl ?_
  refine a_newarr (atype := .int) (pc := 20) (n := 62) (N := 54) (t := 0) (rf := rfP 58) X9 hR (Nat.le_of_ble_eq_true rfl) rfl (fun C h => by cases h) w_arrayClass__int rfl rfl (rfP_fw (by decide +kernel)) (Nat.le_of_ble_eq_true rfl) (Nat.le_of_ble_eq_true rfl) rfl rfl (Nat.le_of_ble_eq_true rfl) (Nat.le_of_ble_eq_true rfl) ⟨Nat.le_of_ble_eq_true rfl, Nat.le_of_ble_eq_true rfl⟩ dX0_init_20 ?_
  obtain ⟨G3, eG3⟩ : ∃ Gz, Gz = zG G2 62 := ⟨_, rfl⟩
  have hG3 : GR G3 := by rw [eG3]; exact hG2.zz
  rw [← eG3]
  refine a_putR (pc := 22) (n := 63) (rf := rfP 58) (rf' := rfP 59) hI X9 okX0 2 rfl rfl rfl wF_X0_19 ⟨(Nat.le_of_ble_eq_true rfl), rfl⟩ (fun _ => ⟨rfl, rfl⟩) (rfP_s rfl rfl) dX0_init_22 ?_
  refine a_aload_n (pc := 25) X9 dX0_init_25 rfl rfl ?_
  refine a_bipush (pc := 26) X9 dX0_init_26 rfl ?_
  refine a_newarr (atype := .int) (pc := 28) (n := 63) (N := 54) (t := 0) (rf := rfP 59) X9 hR (Nat.le_of_ble_eq_true rfl) rfl (fun C h => by cases h) w_arrayClass__int rfl rfl (rfP_fw (by decide +kernel)) (Nat.le_of_ble_eq_true rfl) (Nat.le_of_ble_eq_true rfl) rfl rfl (Nat.le_of_ble_eq_true rfl) (Nat.le_of_ble_eq_true rfl) ⟨Nat.le_of_ble_eq_true rfl, Nat.le_of_ble_eq_true rfl⟩ dX0_init_28 ?_
  obtain ⟨G4, eG4⟩ : ∃ Gz, Gz = zG G3 63 := ⟨_, rfl⟩
  have hG4 : GR G4 := by rw [eG4]; exact hG3.zz
  rw [← eG4]
  refine a_putR (pc := 30) (n := 64) (rf := rfP 59) (rf' := rfP 60) hI X9 okX0 3 rfl rfl rfl wF_X0_22 ⟨(Nat.le_of_ble_eq_true rfl), rfl⟩ (fun _ => ⟨rfl, rfl⟩) (rfP_s rfl rfl) dX0_init_30 ?_
  refine a_aload_n (pc := 33) X9 dX0_init_33 rfl rfl ?_
  refine a_bipush (pc := 34) X9 dX0_init_34 rfl ?_
  refine a_newarr (atype := .int) (pc := 36) (n := 64) (N := 54) (t := 0) (rf := rfP 60) X9 hR (Nat.le_of_ble_eq_true rfl) rfl (fun C h => by cases h) w_arrayClass__int rfl rfl (rfP_fw (by decide +kernel)) (Nat.le_of_ble_eq_true rfl) (Nat.le_of_ble_eq_true rfl) rfl rfl (Nat.le_of_ble_eq_true rfl) (Nat.le_of_ble_eq_true rfl) ⟨Nat.le_of_ble_eq_true rfl, Nat.le_of_ble_eq_true rfl⟩ dX0_init_36 ?_
  obtain ⟨G5, eG5⟩ : ∃ Gz, Gz = zG G4 64 := ⟨_, rfl⟩
  have hG5 : GR G5 := by rw [eG5]; exact hG4.zz
  rw [← eG5]
  refine a_putR (pc := 38) (n := 65) (rf := rfP 60) (rf' := rfP 61) hI X9 okX0 4 rfl rfl rfl wF_X0_25 ⟨(Nat.le_of_ble_eq_true rfl), rfl⟩ (fun _ => ⟨rfl, rfl⟩) (rfP_s rfl rfl) dX0_init_38 ?_
  refine a_aload_n (pc := 41) X9 dX0_init_41 rfl rfl ?_
  refine a_bipush (pc := 42) X9 dX0_init_42 rfl ?_
  refine a_newarr (atype := .int) (pc := 44) (n := 65) (N := 42) (t := 0) (rf := rfP 61) X9 hR (Nat.le_of_ble_eq_true rfl) rfl (fun C h => by cases h) w_arrayClass__int rfl rfl (rfP_fw (by decide +kernel)) (Nat.le_of_ble_eq_true rfl) (Nat.le_of_ble_eq_true rfl) rfl rfl (Nat.le_of_ble_eq_true rfl) (Nat.le_of_ble_eq_true rfl) ⟨Nat.le_of_ble_eq_true rfl, Nat.le_of_ble_eq_true rfl⟩ dX0_init_44 ?_
  obtain ⟨G6, eG6⟩ : ∃ Gz, Gz = zG G5 65 := ⟨_, rfl⟩
  have hG6 : GR G6 := by rw [eG6]; exact hG5.zz
  rw [← eG6]
  refine a_putR (pc := 46) (n := 66) (rf := rfP 61) (rf' := rfP 62) hI X9 okX0 5 rfl rfl rfl wF_X0_28 ⟨(Nat.le_of_ble_eq_true rfl), rfl⟩ (fun _ => ⟨rfl, rfl⟩) (rfP_s rfl rfl) dX0_init_46 ?_
  exact a_return (pc := 49) X9 E (Nat.le_of_ble_eq_true rfl) (Nat.le_of_ble_eq_true rfl) dX0_init_49 ⟨rfl, rfl, ⟨(by intro b k hb; rw [eG6, zG_ne (by omega)]; rw [eG5, zG_ne (by omega)]; rw [eG4, zG_ne (by omega)]; rw [eG3, zG_ne (by omega)]; rw [eG2, zG_ne (by omega)]; rw [eG1, upG_na (by omega)]), trivial⟩⟩
set_option maxHeartbeats 4000000 in
set_option maxRecDepth 100000 in
theorem k_X7_init_46 {G : GH} : Mt yX7_init cX7_init 1 none 2 33 19 525 [vr 46] (47, shF, rfP 44) G (fun v S' G' => S' = (66, shF, rfP 63) ∧ v = none ∧ ((∀ b k, b < 46 → G' b k = G b k) ∧ True)) noX := by
  refine Mt.ofI (l0 := [some (vr 46)]) rfl (by decide) (Nat.le_of_ble_eq_true rfl) rfl ?_
  intro κ δ ρ0 X9 hI E hG
  replace X9 : CX κ δ RX7 cX7_init 1 none := X9
  have hR := E.rm
  refine a_aload_n (pc := 0) X9 dX7_init_0 rfl rfl ?_
  refine a_objInit (pc := 1) X9 hR wM_X7_3 (Nat.le_of_ble_eq_true rfl) (Nat.le_of_ble_eq_true rfl) dX7_init_1 ?_
  refine a_aload_n (pc := 4) X9 dX7_init_4 rfl rfl ?_
  refine a_iconst (pc := 5) X9 dX7_init_5 ?_
  refine a_newarr (atype := .int) (pc := 6) (n := 47) (N := 3) (t := 0) (rf := rfP 44) X9 hR (Nat.le_of_ble_eq_true rfl) rfl (fun C h => by cases h) w_arrayClass__int rfl rfl (rfP_fw (by decide +kernel)) (Nat.le_of_ble_eq_true rfl) (Nat.le_of_ble_eq_true rfl) rfl rfl (Nat.le_of_ble_eq_true rfl) (Nat.le_of_ble_eq_true rfl) ⟨Nat.le_of_ble_eq_true rfl, Nat.le_of_ble_eq_true rfl⟩ dX7_init_6 ?_
  obtain ⟨G1, eG1⟩ : ∃ Gz, Gz = zG G 47 := ⟨_, rfl⟩
  have hG1 : GR G1 := by rw [eG1]; exact hG.zz
  rw [← eG1]
  refine a_putR (pc := 8) (n := 48) (rf := rfP 44) (rf' := rfP 45) hI X9 okX7 1 rfl rfl rfl wF_X7_9 ⟨(Nat.le_of_ble_eq_true rfl), rfl⟩ (fun _ => ⟨rfl, rfl⟩) (rfP_s rfl rfl) dX7_init_8 ?_
  refine a_aload_n (pc := 11) X9 dX7_init_11 rfl rfl ?_
  refine a_new (pc := 12) (n := 48) (rf := rfP 45) X9 hR okX8 wC_X7_15 w_instantiable_RX8 w_initialized_RX8 fv_X8 rfl (rfP_none (by decide +kernel)) (rfP_fw (by decide +kernel)) (Nat.le_of_ble_eq_true rfl) (Nat.le_of_ble_eq_true rfl) rfl rfl ⟨Nat.le_of_ble_eq_true rfl, Nat.le_of_ble_eq_true rfl⟩ dX7_init_12 ?_
  obtain ⟨G2, eG2⟩ : ∃ Gz, Gz = zG G1 48 := ⟨_, rfl⟩
  have hG2 : GR G2 := by rw [eG2]; exact hG1.zz
  rw [← eG2]
  refine a_dup (pc := 15) X9 dX7_init_15 rfl ?_
  refine a_callIN (pc := 16) X9 hR (k_X8_init_48 (G := G2)) (Nat.le_of_ble_eq_true rfl) rfl rfl (Nat.le_of_ble_eq_true rfl) nx_X7_17 w_instanceMethod_X8_init w_initialized_RX8 w_code_X8_init cpN_X8 pnN_X8 rfl (Nat.le_of_ble_eq_true rfl) ⟨Nat.le_of_ble_eq_true rfl, Nat.le_of_ble_eq_true rfl⟩ ⟨Nat.le_of_ble_eq_true rfl, Nat.le_of_ble_eq_true rfl⟩ dX7_init_16 (fun G3 pG3 hG3 => ?_)
  refine a_putR (pc := 19) (n := 57) (rf := rfP 53) (rf' := rfP 54) hI X9 okX7 3 rfl rfl rfl wF_X7_18 ⟨(Nat.le_of_ble_eq_true rfl), rfl⟩ (fun _ => ⟨rfl, rfl⟩) (rfP_s rfl rfl) dX7_init_19 ?_
  refine a_aload_n (pc := 22) X9 dX7_init_22 rfl rfl ?_
  refine a_new (pc := 23) (n := 57) (rf := rfP 54) X9 hR okX6 wC_X7_22 w_instantiable_RX6 w_initialized_RX6 fv_X6 rfl (rfP_none (by decide +kernel)) (rfP_fw (by decide +kernel)) (Nat.le_of_ble_eq_true rfl) (Nat.le_of_ble_eq_true rfl) rfl rfl ⟨Nat.le_of_ble_eq_true rfl, Nat.le_of_ble_eq_true rfl⟩ dX7_init_23 ?_
  obtain ⟨G4, eG4⟩ : ∃ Gz, Gz = zG G3 57 := ⟨_, rfl⟩
  have hG4 : GR G4 := by rw [eG4]; exact hG3.zz
  rw [← eG4]
  refine a_dup (pc := 26) X9 dX7_init_26 rfl ?_
  refine a_callIN (pc := 27) X9 hR (k_X6_init_57 (G := G4)) (Nat.le_of_ble_eq_true rfl) rfl rfl (Nat.le_of_ble_eq_true rfl) nx_X7_24 w_instanceMethod_X6_init w_initialized_RX6 w_code_X6_init cpN_X6 pnN_X6 rfl (Nat.le_of_ble_eq_true rfl) ⟨Nat.le_of_ble_eq_true rfl, Nat.le_of_ble_eq_true rfl⟩ ⟨Nat.le_of_ble_eq_true rfl, Nat.le_of_ble_eq_true rfl⟩ dX7_init_27 (fun G5 pG5 hG5 => ?_)
  refine a_putR (pc := 30) (n := 60) (rf := rfP 56) (rf' := rfP 57) hI X9 okX7 4 rfl rfl rfl wF_X7_25 ⟨(Nat.le_of_ble_eq_true rfl), rfl⟩ (fun _ => ⟨rfl, rfl⟩) (rfP_s rfl rfl) dX7_init_30 ?_
  refine a_aload_n (pc := 33) X9 dX7_init_33 rfl rfl ?_
  refine a_new (pc := 34) (n := 60) (rf := rfP 57) X9 hR okX0 wC_X7_29 w_instantiable_RX0 w_initialized_RX0 fv_X0 rfl (rfP_none (by decide +kernel)) (rfP_fw (by decide +kernel)) (Nat.le_of_ble_eq_true rfl) (Nat.le_of_ble_eq_true rfl) rfl rfl ⟨Nat.le_of_ble_eq_true rfl, Nat.le_of_ble_eq_true rfl⟩ dX7_init_34 ?_
  obtain ⟨G6, eG6⟩ : ∃ Gz, Gz = zG G5 60 := ⟨_, rfl⟩
  have hG6 : GR G6 := by rw [eG6]; exact hG5.zz
  rw [← eG6]
  refine a_dup (pc := 37) X9 dX7_init_37 rfl ?_
  refine a_callIN (pc := 38) X9 hR (k_X0_init_60 (G := G6)) (Nat.le_of_ble_eq_true rfl) rfl rfl (Nat.le_of_ble_eq_true rfl) nx_X7_31 w_instanceMethod_X0_init w_initialized_RX0 w_code_X0_init cpN_X0 pnN_X0 rfl (Nat.le_of_ble_eq_true rfl) ⟨Nat.le_of_ble_eq_true rfl, Nat.le_of_ble_eq_true rfl⟩ ⟨Nat.le_of_ble_eq_true rfl, Nat.le_of_ble_eq_true rfl⟩ dX7_init_38 (fun G7 pG7 hG7 => ?_)
  refine a_putR (pc := 41) (n := 66) (rf := rfP 62) (rf' := rfP 63) hI X9 okX7 5 rfl rfl rfl wF_X7_32 ⟨(Nat.le_of_ble_eq_true rfl), rfl⟩ (fun _ => ⟨rfl, rfl⟩) (rfP_s rfl rfl) dX7_init_41 ?_
  exact a_return (pc := 44) X9 E (Nat.le_of_ble_eq_true rfl) (Nat.le_of_ble_eq_true rfl) dX7_init_44 ⟨rfl, rfl, ⟨(by intro b k hb; rw [pG7.1 b k (by omega)]; rw [eG6, zG_ne (by omega)]; rw [pG5.1 b k (by omega)]; rw [eG4, zG_ne (by omega)]; rw [pG3.1 b k (by omega)]; rw [eG2, zG_ne (by omega)]; rw [eG1, zG_ne (by omega)]), trivial⟩⟩
set_option maxHeartbeats 4000000 in
set_option maxRecDepth 100000 in
theorem k_X8_init_68 {G : GH} : Mt yX8_init cX8_init 1 none 1 13 8 135 [vr 68] (69, shF, rfP 65) G (fun v S' G' => S' = (77, shF, rfP 73) ∧ v = none ∧ ((∀ b k, b < 68 → G' b k = G b k) ∧ True)) noX := by
  refine Mt.ofI (l0 := [some (vr 68)]) rfl (by decide) (Nat.le_of_ble_eq_true rfl) rfl ?_
  intro κ δ ρ0 X9 hI E hG
  replace X9 : CX κ δ RX8 cX8_init 1 none := X9
  have hR := E.rm
  refine a_aload_n (pc := 0) X9 dX8_init_0 rfl rfl ?_
  refine a_objInit (pc := 1) X9 hR wM_X8_3 (Nat.le_of_ble_eq_true rfl) (Nat.le_of_ble_eq_true rfl) dX8_init_1 ?_
  refine a_aload_n (pc := 4) X9 dX8_init_4 rfl rfl ?_
  refine a_bipush (pc := 5) X9 dX8_init_5 rfl ?_
  refine a_newarr (atype := .int) (pc := 7) (n := 69) (N := 12) (t := 0) (rf := rfP 65) X9 hR (Nat.le_of_ble_eq_true rfl) rfl (fun C h => by cases h) w_arrayClass__int rfl rfl (rfP_fw (by decide +kernel)) (Nat.le_of_ble_eq_true rfl) (Nat.le_of_ble_eq_true rfl) rfl rfl (Nat.le_of_ble_eq_true rfl) (Nat.le_of_ble_eq_true rfl) ⟨Nat.le_of_ble_eq_true rfl, Nat.le_of_ble_eq_true rfl⟩ dX8_init_7 ?_
  obtain ⟨G1, eG1⟩ : ∃ Gz, Gz = zG G 69 := ⟨_, rfl⟩
  have hG1 : GR G1 := by rw [eG1]; exact hG.zz
  rw [← eG1]
  refine a_putR (pc := 9) (n := 70) (rf := rfP 65) (rf' := rfP 66) hI X9 okX8 2 rfl rfl rfl wF_X8_9 ⟨(Nat.le_of_ble_eq_true rfl), rfl⟩ (fun _ => ⟨rfl, rfl⟩) (rfP_s rfl rfl) dX8_init_9 ?_
  refine a_aload_n (pc := 12) X9 dX8_init_12 rfl rfl ?_
  refine a_bipush (pc := 13) X9 dX8_init_13 rfl ?_
  refine a_newarr (atype := .int) (pc := 15) (n := 70) (N := 12) (t := 0) (rf := rfP 66) X9 hR (Nat.le_of_ble_eq_true rfl) rfl (fun C h => by cases h) w_arrayClass__int rfl rfl (rfP_fw (by decide +kernel)) (Nat.le_of_ble_eq_true rfl) (Nat.le_of_ble_eq_true rfl) rfl rfl (Nat.le_of_ble_eq_true rfl) (Nat.le_of_ble_eq_true rfl) ⟨Nat.le_of_ble_eq_true rfl, Nat.le_of_ble_eq_true rfl⟩ dX8_init_15 ?_
  obtain ⟨G2, eG2⟩ : ∃ Gz, Gz = zG G1 70 := ⟨_, rfl⟩
  have hG2 : GR G2 := by rw [eG2]; exact hG1.zz
  rw [← eG2]
  refine a_putR (pc := 17) (n := 71) (rf := rfP 66) (rf' := rfP 67) hI X9 okX8 3 rfl rfl rfl wF_X8_15 ⟨(Nat.le_of_ble_eq_true rfl), rfl⟩ (fun _ => ⟨rfl, rfl⟩) (rfP_s rfl rfl) dX8_init_17 ?_
  refine a_aload_n (pc := 20) X9 dX8_init_20 rfl rfl ?_
  refine a_bipush (pc := 21) X9 dX8_init_21 rfl ?_
  refine a_newarr (atype := .int) (pc := 23) (n := 71) (N := 42) (t := 0) (rf := rfP 67) X9 hR (Nat.le_of_ble_eq_true rfl) rfl (fun C h => by cases h) w_arrayClass__int rfl rfl (rfP_fw (by decide +kernel)) (Nat.le_of_ble_eq_true rfl) (Nat.le_of_ble_eq_true rfl) rfl rfl (Nat.le_of_ble_eq_true rfl) (Nat.le_of_ble_eq_true rfl) ⟨Nat.le_of_ble_eq_true rfl, Nat.le_of_ble_eq_true rfl⟩ dX8_init_23 ?_
  obtain ⟨G3, eG3⟩ : ∃ Gz, Gz = zG G2 71 := ⟨_, rfl⟩
  have hG3 : GR G3 := by rw [eG3]; exact hG2.zz
  rw [← eG3]
  refine a_putR (pc := 25) (n := 72) (rf := rfP 67) (rf' := rfP 68) hI X9 okX8 4 rfl rfl rfl wF_X8_18 ⟨(Nat.le_of_ble_eq_true rfl), rfl⟩ (fun _ => ⟨rfl, rfl⟩) (rfP_s rfl rfl) dX8_init_25 ?_
  refine a_aload_n (pc := 28) X9 dX8_init_28 rfl rfl ?_
  refine a_iconst (pc := 29) X9 dX8_init_29 ?_
  refine a_newarr (atype := .int) (pc := 30) (n := 72) (N := 3) (t := 0) (rf := rfP 68) X9 hR (Nat.le_of_ble_eq_true rfl) rfl (fun C h => by cases h) w_arrayClass__int rfl rfl (rfP_fw (by decide +kernel)) (Nat.le_of_ble_eq_true rfl) (Nat.le_of_ble_eq_true rfl) rfl rfl (Nat.le_of_ble_eq_true rfl) (Nat.le_of_ble_eq_true rfl) ⟨Nat.le_of_ble_eq_true rfl, Nat.le_of_ble_eq_true rfl⟩ dX8_init_30 ?_
  obtain ⟨G4, eG4⟩ : ∃ Gz, Gz = zG G3 72 := ⟨_, rfl⟩
  have hG4 : GR G4 := by rw [eG4]; exact hG3.zz
  rw [← eG4]
  refine a_putR (pc := 32) (n := 73) (rf := rfP 68) (rf' := rfP 69) hI X9 okX8 6 rfl rfl rfl wF_X8_21 ⟨(Nat.le_of_ble_eq_true rfl), rfl⟩ (fun _ => ⟨rfl, rfl⟩) (rfP_s rfl rfl) dX8_init_32 ?_
  refine a_aload_n (pc := 35) X9 dX8_init_35 rfl rfl ?_
  refine a_bipush (pc := 36) X9 dX8_init_36 rfl ?_
  refine a_newarr (atype := .int) (pc := 38) (n := 73) (N := 30) (t := 0) (rf := rfP 69) X9 hR (Nat.le_of_ble_eq_true rfl) rfl (fun C h => by cases h) w_arrayClass__int rfl rfl (rfP_fw (by decide +kernel)) (Nat.le_of_ble_eq_true rfl) (Nat.le_of_ble_eq_true rfl) rfl rfl (Nat.le_of_ble_eq_true rfl) (Nat.le_of_ble_eq_true rfl) ⟨Nat.le_of_ble_eq_true rfl, Nat.le_of_ble_eq_true rfl⟩ dX8_init_38 ?_
  obtain ⟨G5, eG5⟩ : ∃ Gz, Gz = zG G4 73 := ⟨_, rfl⟩
  have hG5 : GR G5 := by rw [eG5]; exact hG4.zz
  rw [← eG5]
  refine a_putR (pc := 40) (n := 74) (rf := rfP 69) (rf' := rfP 70) hI X9 okX8 7 rfl rfl rfl wF_X8_24 ⟨(Nat.le_of_ble_eq_true rfl), rfl⟩ (fun _ => ⟨rfl, rfl⟩) (rfP_s rfl rfl) dX8_init_40 ?_
  refine a_aload_n (pc := 43) X9 dX8_init_43 rfl rfl ?_
  refine a_bipush (pc := 44) X9 dX8_init_44 rfl ?_
  refine a_newarr (atype := .int) (pc := 46) (n := 74) (N := 12) (t := 0) (rf := rfP 70) X9 hR (Nat.le_of_ble_eq_true rfl) rfl (fun C h => by cases h) w_arrayClass__int rfl rfl (rfP_fw (by decide +kernel)) (Nat.le_of_ble_eq_true rfl) (Nat.le_of_ble_eq_true rfl) rfl rfl (Nat.le_of_ble_eq_true rfl) (Nat.le_of_ble_eq_true rfl) ⟨Nat.le_of_ble_eq_true rfl, Nat.le_of_ble_eq_true rfl⟩ dX8_init_46 ?_
  obtain ⟨G6, eG6⟩ : ∃ Gz, Gz = zG G5 74 := ⟨_, rfl⟩
  have hG6 : GR G6 := by rw [eG6]; exact hG5.zz
  rw [← eG6]
  refine a_putR (pc := 48) (n := 75) (rf := rfP 70) (rf' := rfP 71) hI X9 okX8 9 rfl rfl rfl wF_X8_27 ⟨(Nat.le_of_ble_eq_true rfl), rfl⟩ (fun _ => ⟨rfl, rfl⟩) (rfP_s rfl rfl) dX8_init_48 ?_
  refine a_aload_n (pc := 51) X9 dX8_init_51 rfl rfl ?_
  refine a_bipush (pc := 52) X9 dX8_init_52 rfl ?_
  refine a_newarr (atype := .int) (pc := 54) (n := 75) (N := 12) (t := 0) (rf := rfP 71) X9 hR (Nat.le_of_ble_eq_true rfl) rfl (fun C h => by cases h) w_arrayClass__int rfl rfl (rfP_fw (by decide +kernel)) (Nat.le_of_ble_eq_true rfl) (Nat.le_of_ble_eq_true rfl) rfl rfl (Nat.le_of_ble_eq_true rfl) (Nat.le_of_ble_eq_true rfl) ⟨Nat.le_of_ble_eq_true rfl, Nat.le_of_ble_eq_true rfl⟩ dX8_init_54 ?_
  obtain ⟨G7, eG7⟩ : ∃ Gz, Gz = zG G6 75 := ⟨_, rfl⟩
  have hG7 : GR G7 := by rw [eG7]; exact hG6.zz
  rw [← eG7]
  refine a_putR (pc := 56) (n := 76) (rf := rfP 71) (rf' := rfP 72) hI X9 okX8 10 rfl rfl rfl wF_X8_30 ⟨(Nat.le_of_ble_eq_true rfl), rfl⟩ (fun _ => ⟨rfl, rfl⟩) (rfP_s rfl rfl) dX8_init_56 ?_
  refine a_aload_n (pc := 59) X9 dX8_init_59 rfl rfl ?_
  refine a_bipush (pc := 60) X9 dX8_init_60 rfl ?_
  refine a_newarr (atype := .int) (pc := 62) (n := 76) (N := 12) (t := 0) (rf := rfP 72) X9 hR (Nat.le_of_ble_eq_true rfl) rfl (fun C h => by cases h) w_arrayClass__int rfl rfl (rfP_fw (by decide +kernel)) (Nat.le_of_ble_eq_true rfl) (Nat.le_of_ble_eq_true rfl) rfl rfl (Nat.le_of_ble_eq_true rfl) (Nat.le_of_ble_eq_true rfl) ⟨Nat.le_of_ble_eq_true rfl, Nat.le_of_ble_eq_true rfl⟩ dX8_init_62 ?_
  obtain ⟨G8, eG8⟩ : ∃ Gz, Gz = zG G7 76 := ⟨_, rfl⟩
  have hG8 : GR G8 := by rw [eG8]; exact hG7.zz
  rw [← eG8]
  refine a_putR (pc := 64) (n := 77) (rf := rfP 72) (rf' := rfP 73) hI X9 okX8 11 rfl rfl rfl wF_X8_33 ⟨(Nat.le_of_ble_eq_true rfl), rfl⟩ (fun _ => ⟨rfl, rfl⟩) (rfP_s rfl rfl) dX8_init_64 ?_
  exact a_return (pc := 67) X9 E (Nat.le_of_ble_eq_true rfl) (Nat.le_of_ble_eq_true rfl) dX8_init_67 ⟨rfl, rfl, ⟨(by intro b k hb; rw [eG8, zG_ne (by omega)]; rw [eG7, zG_ne (by omega)]; rw [eG6, zG_ne (by omega)]; rw [eG5, zG_ne (by omega)]; rw [eG4, zG_ne (by omega)]; rw [eG3, zG_ne (by omega)]; rw [eG2, zG_ne (by omega)]; rw [eG1, zG_ne (by omega)]), trivial⟩⟩
set_option maxHeartbeats 4000000 in
set_option maxRecDepth 100000 in
theorem k_X6_init_77 {G : GH} : Mt yX6_init cX6_init 1 none 1 13 2 144 [vr 77] (78, shF, rfP 74) G (fun v S' G' => S' = (80, shF, rfP 76) ∧ v = none ∧ ((∀ b k, b < 77 → G' b k = G b k) ∧ True)) noX := by
  refine Mt.ofI (l0 := [some (vr 77)]) rfl (by decide) (Nat.le_of_ble_eq_true rfl) rfl ?_
  intro κ δ ρ0 X9 hI E hG
  replace X9 : CX κ δ RX6 cX6_init 1 none := X9
  have hR := E.rm
  refine a_aload_n (pc := 0) X9 dX6_init_0 rfl rfl ?_
  refine a_objInit (pc := 1) X9 hR wM_X6_3 (Nat.le_of_ble_eq_true rfl) (Nat.le_of_ble_eq_true rfl) dX6_init_1 ?_
  refine a_aload_n (pc := 4) X9 dX6_init_4 rfl rfl ?_
  refine a_bipush (pc := 5) X9 dX6_init_5 rfl ?_
  refine a_newarr (atype := .int) (pc := 7) (n := 78) (N := 16) (t := 0) (rf := rfP 74) X9 hR (Nat.le_of_ble_eq_true rfl) rfl (fun C h => by cases h) w_arrayClass__int rfl rfl (rfP_fw (by decide +kernel)) (Nat.le_of_ble_eq_true rfl) (Nat.le_of_ble_eq_true rfl) rfl rfl (Nat.le_of_ble_eq_true rfl) (Nat.le_of_ble_eq_true rfl) ⟨Nat.le_of_ble_eq_true rfl, Nat.le_of_ble_eq_true rfl⟩ dX6_init_7 ?_
  obtain ⟨G1, eG1⟩ : ∃ Gz, Gz = zG G 78 := ⟨_, rfl⟩
  have hG1 : GR G1 := by rw [eG1]; exact hG.zz
  rw [← eG1]
  refine a_putR (pc := 9) (n := 79) (rf := rfP 74) (rf' := rfP 75) hI X9 okX6 1 rfl rfl rfl wF_X6_9 ⟨(Nat.le_of_ble_eq_true rfl), rfl⟩ (fun _ => ⟨rfl, rfl⟩) (rfP_s rfl rfl) dX6_init_9 ?_
  refine a_aload_n (pc := 12) X9 dX6_init_12 rfl rfl ?_
  refine a_sipush (pc := 13) X9 dX6_init_13 rfl ?_
  refine a_newarr (atype := .int) (pc := 16) (n := 79) (N := 128) (t := 0) (rf := rfP 75) X9 hR (Nat.le_of_ble_eq_true rfl) rfl (fun C h => by cases h) w_arrayClass__int rfl rfl (rfP_fw (by decide +kernel)) (Nat.le_of_ble_eq_true rfl) (Nat.le_of_ble_eq_true rfl) rfl rfl (Nat.le_of_ble_eq_true rfl) (Nat.le_of_ble_eq_true rfl) ⟨Nat.le_of_ble_eq_true rfl, Nat.le_of_ble_eq_true rfl⟩ dX6_init_16 ?_
  obtain ⟨G2, eG2⟩ : ∃ Gz, Gz = zG G1 79 := ⟨_, rfl⟩
  have hG2 : GR G2 := by rw [eG2]; exact hG1.zz
  rw [← eG2]
  refine a_putR (pc := 18) (n := 80) (rf := rfP 75) (rf' := rfP 76) hI X9 okX6 2 rfl rfl rfl wF_X6_15 ⟨(Nat.le_of_ble_eq_true rfl), rfl⟩ (fun _ => ⟨rfl, rfl⟩) (rfP_s rfl rfl) dX6_init_18 ?_
  exact a_return (pc := 21) X9 E (Nat.le_of_ble_eq_true rfl) (Nat.le_of_ble_eq_true rfl) dX6_init_21 ⟨rfl, rfl, ⟨(by intro b k hb; rw [eG2, zG_ne (by omega)]; rw [eG1, zG_ne (by omega)]), trivial⟩⟩
set_option maxHeartbeats 4000000 in
set_option maxRecDepth 100000 in
theorem k_X0_init_80 {G : GH} : Mt yX0_init cX0_init 1 none 1 13 5 222 [vr 80] (81, shF, rfP 77) G (fun v S' G' => S' = (86, shF, rfP 82) ∧ v = none ∧ ((∀ b k, b < 80 → G' b k = G b k) ∧ True)) noX := by
  refine Mt.ofI (l0 := [some (vr 80)]) rfl (by decide) (Nat.le_of_ble_eq_true rfl) rfl ?_
  intro κ δ ρ0 X9 hI E hG
  replace X9 : CX κ δ RX0 cX0_init 1 none := X9
  have hR := E.rm
  refine a_aload_n (pc := 0) X9 dX0_init_0 rfl rfl ?_
  refine a_objInit (pc := 1) X9 hR wM_X0_3 (Nat.le_of_ble_eq_true rfl) (Nat.le_of_ble_eq_true rfl) dX0_init_1 ?_
  refine a_aload_n (pc := 4) X9 dX0_init_4 rfl rfl ?_
  refine a_iconst (pc := 5) X9 dX0_init_5 ?_
  refine a_putI (pc := 6) X9 okX0 0 rfl rfl wF_X0_9 ⟨(Nat.le_of_ble_eq_true rfl), rfl⟩ dX0_init_6 (by decide) (fit_int _) (fun _ => ?_)
  obtain ⟨G1, eG1⟩ : ∃ Gz, Gz = upG G 80 0 (-1) := ⟨_, rfl⟩
  have hG1 : GR G1 := by rw [eG1]; exact GR.up hG (by decide)
  rw [← eG1]
  refine a_aload_n (pc := 9) X9 dX0_init_9 rfl rfl ?_
  refine a_bipush (pc := 10) X9 dX0_init_10 rfl ?_
  refine a_newarr (atype := .int) (pc := 12) (n := 81) (N := 18) (t := 0) (rf := rfP 77) X9 hR (Nat.le_of_ble_eq_true rfl) rfl (fun C h => by cases h) w_arrayClass__int rfl rfl (rfP_fw (by decide +kernel)) (Nat.le_of_ble_eq_true rfl) (Nat.le_of_ble_eq_true rfl) rfl rfl (Nat.le_of_ble_eq_true rfl) (Nat.le_of_ble_eq_true rfl) ⟨Nat.le_of_ble_eq_true rfl, Nat.le_of_ble_eq_true rfl⟩ dX0_init_12 ?_
  obtain ⟨G2, eG2⟩ : ∃ Gz, Gz = zG G1 81 := ⟨_, rfl⟩
  have hG2 : GR G2 := by rw [eG2]; exact hG1.zz
  rw [← eG2]
  refine a_putR (pc := 14) (n := 82) (rf := rfP 77) (rf' := rfP 78) hI X9 okX0 1 rfl rfl rfl wF_X0_15 ⟨(Nat.le_of_ble_eq_true rfl), rfl⟩ (fun _ => ⟨rfl, rfl⟩) (rfP_s rfl rfl) dX0_init_14 ?_
  refine a_aload_n (pc := 17) X9 dX0_init_17 rfl rfl ?_
  refine a_bipush (pc := 18) X9 dX0_init_18 rfl ?_
  refine a_newarr (atype := .int) (pc := 20) (n := 82) (N := 54) (t := 0) (rf := rfP 78) X9 hR (Nat.le_of_ble_eq_true rfl) rfl (fun C h => by cases h) w_arrayClass__int rfl rfl (rfP_fw (by decide +kernel)) (Nat.le_of_ble_eq_true rfl) (Nat.le_of_ble_eq_true rfl) rfl rfl (Nat.le_of_ble_eq_true rfl) (Nat.le_of_ble_eq_true rfl) ⟨Nat.le_of_ble_eq_true rfl, Nat.le_of_ble_eq_true rfl⟩ dX0_init_20 ?_
  obtain ⟨G3, eG3⟩ : ∃ Gz, Gz = zG G2 82 := ⟨_, rfl⟩
  have hG3 : GR G3 := by rw [eG3]; exact hG2.zz
  rw [← eG3]
  refine a_putR (pc := 22) (n := 83) (rf := rfP 78) (rf' := rfP 79) hI X9 okX0 2 rfl rfl rfl wF_X0_19 ⟨(Nat.le_of_ble_eq_true rfl), rfl⟩ (fun _ => ⟨rfl, rfl⟩) (rfP_s rfl rfl) dX0_init_22 ?_
  refine a_aload_n (pc := 25) X9 dX0_init_25 rfl rfl ?_
  refine a_bipush (pc := 26) X9 dX0_init_26 rfl ?_
  refine a_newarr (atype := .int) (pc := 28) (n := 83) (N := 54) (t := 0) (rf := rfP 79) X9 hR (Nat.le_of_ble_eq_true rfl) rfl (fun C h => by cases h) w_arrayClass__int rfl rfl (rfP_fw (by decide +kernel)) (Nat.le_of_ble_eq_true rfl) (Nat.le_of_ble_eq_true rfl) rfl rfl (Nat.le_of_ble_eq_true rfl) (Nat.le_of_ble_eq_true rfl) ⟨Nat.le_of_ble_eq_true rfl, Nat.le_of_ble_eq_true rfl⟩ dX0_init_28 ?_
  obtain ⟨G4, eG4⟩ : ∃ Gz, Gz = zG G3 83 := ⟨_, rfl⟩
  have hG4 : GR G4 := by rw [eG4]; exact hG3.zz
  rw [← eG4]
  refine a_putR (pc := 30) (n := 84) (rf := rfP 79) (rf' := rfP 80) hI X9 okX0 3 rfl rfl rfl wF_X0_22 ⟨(Nat.le_of_ble_eq_true rfl), rfl⟩ (fun _ => ⟨rfl, rfl⟩) (rfP_s rfl rfl) dX0_init_30 ?_
  refine a_aload_n (pc := 33) X9 dX0_init_33 rfl rfl ?_
  refine a_bipush (pc := 34) X9 dX0_init_34 rfl ?_
  refine a_newarr (atype := .int) (pc := 36) (n := 84) (N := 54) (t := 0) (rf := rfP 80) X9 hR (Nat.le_of_ble_eq_true rfl) rfl (fun C h => by cases h) w_arrayClass__int rfl rfl (rfP_fw (by decide +kernel)) (Nat.le_of_ble_eq_true rfl) (Nat.le_of_ble_eq_true rfl) rfl rfl (Nat.le_of_ble_eq_true rfl) (Nat.le_of_ble_eq_true rfl) ⟨Nat.le_of_ble_eq_true rfl, Nat.le_of_ble_eq_true rfl⟩ dX0_init_36 ?_
  obtain ⟨G5, eG5⟩ : ∃ Gz, Gz = zG G4 84 := ⟨_, rfl⟩
  have hG5 : GR G5 := by rw [eG5]; exact hG4.zz
  rw [← eG5]
  refine a_putR (pc := 38) (n := 85) (rf := rfP 80) (rf' := rfP 81) hI X9 okX0 4 rfl rfl rfl wF_X0_25 ⟨(Nat.le_of_ble_eq_true rfl), rfl⟩ (fun _ => ⟨rfl, rfl⟩) (rfP_s rfl rfl) dX0_init_38 ?_
  refine a_aload_n (pc := 41) X9 dX0_init_41 rfl rfl ?_
  refine a_bipush (pc := 42) X9 dX0_init_42 rfl ?_
  refine a_newarr (atype := .int) (pc := 44) (n := 85) (N := 42) (t := 0) (rf := rfP 81) X9 hR (Nat.le_of_ble_eq_true rfl) rfl (fun C h => by cases h) w_arrayClass__int rfl rfl (rfP_fw (by decide +kernel)) (Nat.le_of_ble_eq_true rfl) (Nat.le_of_ble_eq_true rfl) rfl rfl (Nat.le_of_ble_eq_true rfl) (Nat.le_of_ble_eq_true rfl) ⟨Nat.le_of_ble_eq_true rfl, Nat.le_of_ble_eq_true rfl⟩ dX0_init_44 ?_
  obtain ⟨G6, eG6⟩ : ∃ Gz, Gz = zG G5 85 := ⟨_, rfl⟩
  have hG6 : GR G6 := by rw [eG6]; exact hG5.zz
  rw [← eG6]
  refine a_putR (pc := 46) (n := 86) (rf := rfP 81) (rf' := rfP 82) hI X9 okX0 5 rfl rfl rfl wF_X0_28 ⟨(Nat.le_of_ble_eq_true rfl), rfl⟩ (fun _ => ⟨rfl, rfl⟩) (rfP_s rfl rfl) dX0_init_46 ?_
  exact a_return (pc := 49) X9 E (Nat.le_of_ble_eq_true rfl) (Nat.le_of_ble_eq_true rfl) dX0_init_49 ⟨rfl, rfl, ⟨(by intro b k hb; rw [eG6, zG_ne (by omega)]; rw [eG5, zG_ne (by omega)]; rw [eG4, zG_ne (by omega)]; rw [eG3, zG_ne (by omega)]; rw [eG2, zG_ne (by omega)]; rw [eG1, upG_na (by omega)]), trivial⟩⟩
set_option maxHeartbeats 4000000 in
set_option maxRecDepth 100000 in
theorem k_X7_init_66 {G : GH} : Mt yX7_init cX7_init 1 none 2 33 19 525 [vr 66] (67, shF, rfP 64) G (fun v S' G' => S' = (86, shF, rfP 83) ∧ v = none ∧ ((∀ b k, b < 66 → G' b k = G b k) ∧ True)) noX := by
  refine Mt.ofI (l0 := [some (vr 66)]) rfl (by decide) (Nat.le_of_ble_eq_true rfl) rfl ?_
  intro κ δ ρ0 X9 hI E hG
  replace X9 : CX κ δ RX7 cX7_init 1 none := X9
  have hR := E.rm
  refine a_aload_n (pc := 0) X9 dX7_init_0 rfl rfl ?_
  refine a_objInit (pc := 1) X9 hR wM_X7_3 (Nat.le_of_ble_eq_true rfl) (Nat.le_of_ble_eq_true rfl) dX7_init_1 ?_
  refine a_aload_n (pc := 4) X9 dX7_init_4 rfl rfl ?_
  refine a_iconst (pc := 5) X9 dX7_init_5 ?_
  refine a_newarr (atype := .int) (pc := 6) (n := 67) (N := 3) (t := 0) (rf := rfP 64) X9 hR (Nat.le_of_ble_eq_true rfl) rfl (fun C h => by cases h) w_arrayClass__int rfl rfl (rfP_fw (by decide +kernel)) (Nat.le_of_ble_eq_true rfl) (Nat.le_of_ble_eq_true rfl) rfl rfl (Nat.le_of_ble_eq_true rfl) (Nat.le_of_ble_eq_true rfl) ⟨Nat.le_of_ble_eq_true rfl, Nat.le_of_ble_eq_true rfl⟩ dX7_init_6 ?_
  obtain ⟨G1, eG1⟩ : ∃ Gz, Gz = zG G 67 := ⟨_, rfl⟩
  have hG1 : GR G1 := by rw [eG1]; exact hG.zz
  rw [← eG1]
  refine a_putR (pc := 8) (n := 68) (rf := rfP 64) (rf' := rfP 65) hI X9 okX7 1 rfl rfl rfl wF_X7_9 ⟨(Nat.le_of_ble_eq_true rfl), rfl⟩ (fun _ => ⟨rfl, rfl⟩) (rfP_s rfl rfl) dX7_init_8 ?_
  refine a_aload_n (pc := 11) X9 dX7_init_11 rfl rfl ?_
  refine a_new (pc := 12) (n := 68) (rf := rfP 65) X9 hR okX8 wC_X7_15 w_instantiable_RX8 w_initialized_RX8 fv_X8 rfl (rfP_none (by decide +kernel)) (rfP_fw (by decide +kernel)) (Nat.le_of_ble_eq_true rfl) (Nat.le_of_ble_eq_true rfl) rfl rfl ⟨Nat.le_of_ble_eq_true rfl, Nat.le_of_ble_eq_true rfl⟩ dX7_init_12 ?_
  obtain ⟨G2, eG2⟩ : ∃ Gz, Gz = zG G1 68 := ⟨_, rfl⟩
  have hG2 : GR G2 := by rw [eG2]; exact hG1.zz
  rw [← eG2]
  refine a_dup (pc := 15) X9 dX7_init_15 rfl ?_
  refine a_callIN (pc := 16) X9 hR (k_X8_init_68 (G := G2)) (Nat.le_of_ble_eq_true rfl) rfl rfl (Nat.le_of_ble_eq_true rfl) nx_X7_17 w_instanceMethod_X8_init w_initialized_RX8 w_code_X8_init cpN_X8 pnN_X8 rfl (Nat.le_of_ble_eq_true rfl) ⟨Nat.le_of_ble_eq_true rfl, Nat.le_of_ble_eq_true rfl⟩ ⟨Nat.le_of_ble_eq_true rfl, Nat.le_of_ble_eq_true rfl⟩ dX7_init_16 (fun G3 pG3 hG3 => ?_)
  refine a_putR (pc := 19) (n := 77) (rf := rfP 73) (rf' := rfP 74) hI X9 okX7 3 rfl rfl rfl wF_X7_18 ⟨(Nat.le_of_ble_eq_true rfl), rfl⟩ (fun _ => ⟨rfl, rfl⟩) (rfP_s rfl rfl) dX7_init_19 ?_
  refine a_aload_n (pc := 22) X9 dX7_init_22 rfl rfl ?_
  refine a_new (pc := 23) (n := 77) (rf := rfP 74) X9 hR okX6 wC_X7_22 w_instantiable_RX6 w_initialized_RX6 fv_X6 rfl (rfP_none (by decide +kernel)) (rfP_fw (by decide +kernel)) (Nat.le_of_ble_eq_true rfl) (Nat.le_of_ble_eq_true rfl) rfl rfl ⟨Nat.le_of_ble_eq_true rfl, Nat.le_of_ble_eq_true rfl⟩ dX7_init_23 ?_
  obtain ⟨G4, eG4⟩ : ∃ Gz, Gz = zG G3 77 := ⟨_, rfl⟩
  have hG4 : GR G4 := by rw [eG4]; exact hG3.zz
  rw [← eG4]
  refine a_dup (pc := 26) X9 dX7_init_26 rfl ?_
  refine a_callIN (pc := 27) X9 hR (k_X6_init_77 (G := G4)) (Nat.le_of_ble_eq_true rfl) rfl rfl (Nat.le_of_ble_eq_true rfl) nx_X7_24 w_instanceMethod_X6_init w_initialized_RX6 w_code_X6_init cpN_X6 pnN_X6 rfl (Nat.le_of_ble_eq_true rfl) ⟨Nat.le_of_ble_eq_true rfl, Nat.le_of_ble_eq_true rfl⟩ ⟨Nat.le_of_ble_eq_true rfl, Nat.le_of_ble_eq_true rfl⟩ dX7_init_27 (fun G5 pG5 hG5 => ?_)
  refine a_putR (pc := 30) (n := 80) (rf := rfP 76) (rf' := rfP 77) hI X9 okX7 4 rfl rfl rfl wF_X7_25 ⟨(Nat.le_of_ble_eq_true rfl), rfl⟩ (fun _ => ⟨rfl, rfl⟩) (rfP_s rfl rfl) dX7_init_30 ?_
  refine a_aload_n (pc := 33) X9 dX7_init_33 rfl rfl ?_
  refine a_new (pc := 34) (n := 80) (rf := rfP 77) X9 hR okX0 wC_X7_29 w_instantiable_RX0 w_initialized_RX0 fv_X0 rfl (rfP_none (by decide +kernel)) (rfP_fw (by decide +kernel)) (Nat.le_of_ble_eq_true rfl) (Nat.le_of_ble_eq_true rfl) rfl rfl ⟨Nat.le_of_ble_eq_true rfl, Nat.le_of_ble_eq_true rfl⟩ dX7_init_34 ?_
  obtain ⟨G6, eG6⟩ : ∃ Gz, Gz = zG G5 80 := ⟨_, rfl⟩
  have hG6 : GR G6 := by rw [eG6]; exact hG5.zz
  rw [← eG6]
  refine a_dup (pc := 37) X9 dX7_init_37 rfl ?_
  refine a_callIN (pc := 38) X9 hR (k_X0_init_80 (G := G6)) (Nat.le_of_ble_eq_true rfl) rfl rfl (Nat.le_of_ble_eq_true rfl) nx_X7_31 w_instanceMethod_X0_init w_initialized_RX0 w_code_X0_init cpN_X0 pnN_X0 rfl (Nat.le_of_ble_eq_true rfl) ⟨Nat.le_of_ble_eq_true rfl, Nat.le_of_ble_eq_true rfl⟩ ⟨Nat.le_of_ble_eq_true rfl, Nat.le_of_ble_eq_true rfl⟩ dX7_init_38 (fun G7 pG7 hG7 => ?_)
  refine a_putR (pc := 41) (n := 86) (rf := rfP 82) (rf' := rfP 83) hI X9 okX7 5 rfl rfl rfl wF_X7_32 ⟨(Nat.le_of_ble_eq_true rfl), rfl⟩ (fun _ => ⟨rfl, rfl⟩) (rfP_s rfl rfl) dX7_init_41 ?_
  exact a_return (pc := 44) X9 E (Nat.le_of_ble_eq_true rfl) (Nat.le_of_ble_eq_true rfl) dX7_init_44 ⟨rfl, rfl, ⟨(by intro b k hb; rw [pG7.1 b k (by omega)]; rw [eG6, zG_ne (by omega)]; rw [pG5.1 b k (by omega)]; rw [eG4, zG_ne (by omega)]; rw [pG3.1 b k (by omega)]; rw [eG2, zG_ne (by omega)]; rw [eG1, zG_ne (by omega)]), trivial⟩⟩
set_option maxHeartbeats 4000000 in
set_option maxRecDepth 100000 in
theorem k_X8_init_88 {G : GH} : Mt yX8_init cX8_init 1 none 1 13 8 135 [vr 88] (89, shF, rfP 85) G (fun v S' G' => S' = (97, shF, rfP 93) ∧ v = none ∧ ((∀ b k, b < 88 → G' b k = G b k) ∧ True)) noX := by
  refine Mt.ofI (l0 := [some (vr 88)]) rfl (by decide) (Nat.le_of_ble_eq_true rfl) rfl ?_
  intro κ δ ρ0 X9 hI E hG
  replace X9 : CX κ δ RX8 cX8_init 1 none := X9
  have hR := E.rm
  refine a_aload_n (pc := 0) X9 dX8_init_0 rfl rfl ?_
  refine a_objInit (pc := 1) X9 hR wM_X8_3 (Nat.le_of_ble_eq_true rfl) (Nat.le_of_ble_eq_true rfl) dX8_init_1 ?_
  refine a_aload_n (pc := 4) X9 dX8_init_4 rfl rfl ?_
  refine a_bipush (pc := 5) X9 dX8_init_5 rfl ?_
  refine a_newarr (atype := .int) (pc := 7) (n := 89) (N := 12) (t := 0) (rf := rfP 85) X9 hR (Nat.le_of_ble_eq_true rfl) rfl (fun C h => by cases h) w_arrayClass__int rfl rfl (rfP_fw (by decide +kernel)) (Nat.le_of_ble_eq_true rfl) (Nat.le_of_ble_eq_true rfl) rfl rfl (Nat.le_of_ble_eq_true rfl) (Nat.le_of_ble_eq_true rfl) ⟨Nat.le_of_ble_eq_true rfl, Nat.le_of_ble_eq_true rfl⟩ dX8_init_7 ?_
  obtain ⟨G1, eG1⟩ : ∃ Gz, Gz = zG G 89 := ⟨_, rfl⟩
  have hG1 : GR G1 := by rw [eG1]; exact hG.zz
  rw [← eG1]
  refine a_putR (pc := 9) (n := 90) (rf := rfP 85) (rf' := rfP 86) hI X9 okX8 2 rfl rfl rfl wF_X8_9 ⟨(Nat.le_of_ble_eq_true rfl), rfl⟩ (fun _ => ⟨rfl, rfl⟩) (rfP_s rfl rfl) dX8_init_9 ?_
  refine a_aload_n (pc := 12) X9 dX8_init_12 rfl rfl ?_
  refine a_bipush (pc := 13) X9 dX8_init_13 rfl ?_
  refine a_newarr (atype := .int) (pc := 15) (n := 90) (N := 12) (t := 0) (rf := rfP 86) X9 hR (Nat.le_of_ble_eq_true rfl) rfl (fun C h => by cases h) w_arrayClass__int rfl rfl (rfP_fw (by decide +kernel)) (Nat.le_of_ble_eq_true rfl) (Nat.le_of_ble_eq_true rfl) rfl rfl (Nat.le_of_ble_eq_true rfl) (Nat.le_of_ble_eq_true rfl) ⟨Nat.le_of_ble_eq_true rfl, Nat.le_of_ble_eq_true rfl⟩ dX8_init_15 ?_
  obtain ⟨G2, eG2⟩ : ∃ Gz, Gz = zG G1 90 := ⟨_, rfl⟩
  have hG2 : GR G2 := by rw [eG2]; exact hG1.zz
  rw [← eG2]
  refine a_putR (pc := 17) (n := 91) (rf := rfP 86) (rf' := rfP 87) hI X9 okX8 3 rfl rfl rfl wF_X8_15 ⟨(Nat.le_of_ble_eq_true rfl), rfl⟩ (fun _ => ⟨rfl, rfl⟩) (rfP_s rfl rfl) dX8_init_17 ?_
  refine a_aload_n (pc := 20) X9 dX8_init_20 rfl rfl ?_
  refine a_bipush (pc := 21) X9 dX8_init_21 rfl ?_
  refine a_newarr (atype := .int) (pc := 23) (n := 91) (N := 42) (t := 0) (rf := rfP 87) X9 hR (Nat.le_of_ble_eq_true rfl) rfl (fun C h => by cases h) w_arrayClass__int rfl rfl (rfP_fw (by decide +kernel)) (Nat.le_of_ble_eq_true rfl) (Nat.le_of_ble_eq_true rfl) rfl rfl (Nat.le_of_ble_eq_true rfl) (Nat.le_of_ble_eq_true rfl) ⟨Nat.le_of_ble_eq_true rfl, Nat.le_of_ble_eq_true rfl⟩ dX8_init_23 ?_
  obtain ⟨G3, eG3⟩ : ∃ Gz, Gz = zG G2 91 := ⟨_, rfl⟩
  have hG3 : GR G3 := by rw [eG3]; exact hG2.zz
  rw [← eG3]
  refine a_putR (pc := 25) (n := 92) (rf := rfP 87) (rf' := rfP 88) hI X9 okX8 4 rfl rfl rfl wF_X8_18 ⟨(Nat.le_of_ble_eq_true rfl), rfl⟩ (fun _ => ⟨rfl, rfl⟩) (rfP_s rfl rfl) dX8_init_25 ?_
  refine a_aload_n (pc := 28) X9 dX8_init_28 rfl rfl ?_
  refine a_iconst (pc := 29) X9 dX8_init_29 ?_
  refine a_newarr (atype := .int) (pc := 30) (n := 92) (N := 3) (t := 0) (rf := rfP 88) X9 hR (Nat.le_of_ble_eq_true rfl) rfl (fun C h => by cases h) w_arrayClass__int rfl rfl (rfP_fw (by decide +kernel)) (Nat.le_of_ble_eq_true rfl) (Nat.le_of_ble_eq_true rfl) rfl rfl (Nat.le_of_ble_eq_true rfl) (Nat.le_of_ble_eq_true rfl) ⟨Nat.le_of_ble_eq_true rfl, Nat.le_of_ble_eq_true rfl⟩ dX8_init_30 ?_
  obtain ⟨G4, eG4⟩ : ∃ Gz, Gz = zG G3 92 := ⟨_, rfl⟩
  have hG4 : GR G4 := by rw [eG4]; exact hG3.zz
  rw [← eG4]
  refine a_putR (pc := 32) (n := 93) (rf := rfP 88) (rf' := rfP 89) hI X9 okX8 6 rfl rfl rfl wF_X8_21 ⟨(Nat.le_of_ble_eq_true rfl), rfl⟩ (fun _ => ⟨rfl, rfl⟩) (rfP_s rfl rfl) dX8_init_32 ?_
  refine a_aload_n (pc := 35) X9 dX8_init_35 rfl rfl ?_
  refine a_bipush (pc := 36) X9 dX8_init_36 rfl ?_
  refine a_newarr (atype := .int) (pc := 38) (n := 93) (N := 30) (t := 0) (rf := rfP 89) X9 hR (Nat.le_of_ble_eq_true rfl) rfl (fun C h => by cases h) w_arrayClass__int rfl rfl (rfP_fw (by decide +kernel)) (Nat.le_of_ble_eq_true rfl) (Nat.le_of_ble_eq_true rfl) rfl rfl (Nat.le_of_ble_eq_true rfl) (Nat.le_of_ble_eq_true rfl) ⟨Nat.le_of_ble_eq_true rfl, Nat.le_of_ble_eq_true rfl⟩ dX8_init_38 ?_
  obtain ⟨G5, eG5⟩ : ∃ Gz, Gz = zG G4 93 := ⟨_, rfl⟩
  have hG5 : GR G5 := by rw [eG5]; exact hG4.zz
  rw [← eG5]
  refine a_putR (pc := 40) (n := 94) (rf := rfP 89) (rf' := rfP 90) hI X9 okX8 7 rfl rfl rfl wF_X8_24 ⟨(Nat.le_of_ble_eq_true rfl), rfl⟩ (fun _ => ⟨rfl, rfl⟩) (rfP_s rfl rfl) dX8_init_40 ?_
  refine a_aload_n (pc := 43) X9 dX8_init_43 rfl rfl ?_
  refine a_bipush (pc := 44) X9 dX8_init_44 rfl ?_
  refine a_newarr (atype := .int) (pc := 46) (n := 94) (N := 12) (t := 0) (rf := rfP 90) X9 hR (Nat.le_of_ble_eq_true rfl) rfl (fun C h => by cases h) w_arrayClass__int rfl rfl (rfP_fw (by decide +kernel)) (Nat.le_of_ble_eq_true rfl) (Nat.le_of_ble_eq_true rfl) rfl rfl (Nat.le_of_ble_eq_true rfl) (Nat.le_of_ble_eq_true rfl) ⟨Nat.le_of_ble_eq_true rfl, Nat.le_of_ble_eq_true rfl⟩ dX8_init_46 ?_
  obtain ⟨G6, eG6⟩ : ∃ Gz, Gz = zG G5 94 := ⟨_, rfl⟩
  have hG6 : GR G6 := by rw [eG6]; exact hG5.zz
  rw [← eG6]
  refine a_putR (pc := 48) (n := 95) (rf := rfP 90) (rf' := rfP 91) hI X9 okX8 9 rfl rfl rfl wF_X8_27 ⟨(Nat.le_of_ble_eq_true rfl), rfl⟩ (fun _ => ⟨rfl, rfl⟩) (rfP_s rfl rfl) dX8_init_48 ?_
  refine a_aload_n (pc := 51) X9 dX8_init_51 rfl rfl ?_
  refine a_bipush (pc := 52) X9 dX8_init_52 rfl ?_
  refine a_newarr (atype := .int) (pc := 54) (n := 95) (N := 12) (t := 0) (rf := rfP 91) X9 hR (Nat.le_of_ble_eq_true rfl) rfl (fun C h => by cases h) w_arrayClass__int rfl rfl (rfP_fw (by decide +kernel)) (Nat.le_of_ble_eq_true rfl) (Nat.le_of_ble_eq_true rfl) rfl rfl (Nat.le_of_ble_eq_true rfl) (Nat.le_of_ble_eq_true rfl) ⟨Nat.le_of_ble_eq_true rfl, Nat.le_of_ble_eq_true rfl⟩ dX8_init_54 ?_
  obtain ⟨G7, eG7⟩ : ∃ Gz, Gz = zG G6 95 := ⟨_, rfl⟩
  have hG7 : GR G7 := by rw [eG7]; exact hG6.zz
  rw [← eG7]
  refine a_putR (pc := 56) (n := 96) (rf := rfP 91) (rf' := rfP 92) hI X9 okX8 10 rfl rfl rfl wF_X8_30 ⟨(Nat.le_of_ble_eq_true rfl), rfl⟩ (fun _ => ⟨rfl, rfl⟩) (rfP_s rfl rfl) dX8_init_56 ?_
  refine a_aload_n (pc := 59) X9 dX8_init_59 rfl rfl ?_
  refine a_bipush (pc := 60) X9 dX8_init_60 rfl ?_
  refine a_newarr (atype := .int) (pc := 62) (n := 96) (N := 12) (t := 0) (rf := rfP 92) X9 hR (Nat.le_of_ble_eq_true rfl) rfl (fun C h => by cases h) w_arrayClass__int rfl rfl (rfP_fw (by decide +kernel)) (Nat.le_of_ble_eq_true rfl) (Nat.le_of_ble_eq_true rfl) rfl rfl (Nat.le_of_ble_eq_true rfl) (Nat.le_of_ble_eq_true rfl) ⟨Nat.le_of_ble_eq_true rfl, Nat.le_of_ble_eq_true rfl⟩ dX8_init_62 ?_
  obtain ⟨G8, eG8⟩ : ∃ Gz, Gz = zG G7 96 := ⟨_, rfl⟩
  have hG8 : GR G8 := by rw [eG8]; exact hG7.zz
  rw [← eG8]
  refine a_putR (pc := 64) (n := 97) (rf := rfP 92) (rf' := rfP 93) hI X9 okX8 11 rfl rfl rfl wF_X8_33 ⟨(Nat.le_of_ble_eq_true rfl), rfl⟩ (fun _ => ⟨rfl, rfl⟩) (rfP_s rfl rfl) dX8_init_64 ?_
  exact a_return (pc := 67) X9 E (Nat.le_of_ble_eq_true rfl) (Nat.le_of_ble_eq_true rfl) dX8_init_67 ⟨rfl, rfl, ⟨(by intro b k hb; rw [eG8, zG_ne (by omega)]; rw [eG7, zG_ne (by omega)]; rw [eG6, zG_ne (by omega)]; rw [eG5, zG_ne (by omega)]; rw [eG4, zG_ne (by omega)]; rw [eG3, zG_ne (by omega)]; rw [eG2, zG_ne (by omega)]; rw [eG1, zG_ne (by omega)]), trivial⟩⟩
set_option maxHeartbeats 4000000 in
set_option maxRecDepth 100000 in
theorem k_X6_init_97 {G : GH} : Mt yX6_init cX6_init 1 none 1 13 2 144 [vr 97] (98, shF, rfP 94) G (fun v S' G' => S' = (100, shF, rfP 96) ∧ v = none ∧ ((∀ b k, b < 97 → G' b k = G b k) ∧ True)) noX := by
  refine Mt.ofI (l0 := [some (vr 97)]) rfl (by decide) (Nat.le_of_ble_eq_true rfl) rfl ?_
  intro κ δ ρ0 X9 hI E hG
  replace X9 : CX κ δ RX6 cX6_init 1 none := X9
  have hR := E.rm
  refine a_aload_n (pc := 0) X9 dX6_init_0 rfl rfl ?_
  refine a_objInit (pc := 1) X9 hR wM_X6_3 (Nat.le_of_ble_eq_true rfl) (Nat.le_of_ble_eq_true rfl) dX6_init_1 ?_
  refine a_aload_n (pc := 4) X9 dX6_init_4 rfl rfl ?_
  refine a_bipush (pc := 5) X9 dX6_init_5 rfl ?_
  refine a_newarr (atype := .int) (pc := 7) (n := 98) (N := 16) (t := 0) (rf := rfP 94) X9 hR (Nat.le_of_ble_eq_true rfl) rfl (fun C h => by cases h) w_arrayClass__int rfl rfl (rfP_fw (by decide +kernel)) (Nat.le_of_ble_eq_true rfl) (Nat.le_of_ble_eq_true rfl) rfl rfl (Nat.le_of_ble_eq_true rfl) (Nat.le_of_ble_eq_true rfl) ⟨Nat.le_of_ble_eq_true rfl, Nat.le_of_ble_eq_true rfl⟩ dX6_init_7 ?_
  obtain ⟨G1, eG1⟩ : ∃ Gz, Gz = zG G 98 := ⟨_, rfl⟩
  have hG1 : GR G1 := by rw [eG1]; exact hG.zz
  rw [← eG1]
  refine a_putR (pc := 9) (n := 99) (rf := rfP 94) (rf' := rfP 95) hI X9 okX6 1 rfl rfl rfl wF_X6_9 ⟨(Nat.le_of_ble_eq_true rfl), rfl⟩ (fun _ => ⟨rfl, rfl⟩) (rfP_s rfl rfl) dX6_init_9 ?_
  refine a_aload_n (pc := 12) X9 dX6_init_12 rfl rfl ?_
  refine a_sipush (pc := 13) X9 dX6_init_13 rfl ?_
  refine a_newarr (atype := .int) (pc := 16) (n := 99) (N := 128) (t := 0) (rf := rfP 95) X9 hR (Nat.le_of_ble_eq_true rfl) rfl (fun C h => by cases h) w_arrayClass__int rfl rfl (rfP_fw (by decide +kernel)) (Nat.le_of_ble_eq_true rfl) (Nat.le_of_ble_eq_true rfl) rfl rfl (Nat.le_of_ble_eq_true rfl) (Nat.le_of_ble_eq_true rfl) ⟨Nat.le_of_ble_eq_true rfl, Nat.le_of_ble_eq_true rfl⟩ dX6_init_16 ?_
  obtain ⟨G2, eG2⟩ : ∃ Gz, Gz = zG G1 99 := ⟨_, rfl⟩
  have hG2 : GR G2 := by rw [eG2]; exact hG1.zz
  rw [← eG2]
  refine a_putR (pc := 18) (n := 100) (rf := rfP 95) (rf' := rfP 96) hI X9 okX6 2 rfl rfl rfl wF_X6_15 ⟨(Nat.le_of_ble_eq_true rfl), rfl⟩ (fun _ => ⟨rfl, rfl⟩) (rfP_s rfl rfl) dX6_init_18 ?_
  exact a_return (pc := 21) X9 E (Nat.le_of_ble_eq_true rfl) (Nat.le_of_ble_eq_true rfl) dX6_init_21 ⟨rfl, rfl, ⟨(by intro b k hb; rw [eG2, zG_ne (by omega)]; rw [eG1, zG_ne (by omega)]), trivial⟩⟩
set_option maxHeartbeats 4000000 in
set_option maxRecDepth 100000 in
theorem k_X0_init_100 {G : GH} : Mt yX0_init cX0_init 1 none 1 13 5 222 [vr 100] (101, shF, rfP 97) G (fun v S' G' => S' = (106, shF, rfP 102) ∧ v = none ∧ ((∀ b k, b < 100 → G' b k = G b k) ∧ True)) noX := by
  refine Mt.ofI (l0 := [some (vr 100)]) rfl (by decide) (Nat.le_of_ble_eq_true rfl) rfl ?_
  intro κ δ ρ0 X9 hI E hG
  replace X9 : CX κ δ RX0 cX0_init 1 none := X9
  have hR := E.rm
  refine a_aload_n (pc := 0) X9 dX0_init_0 rfl rfl ?_
  refine a_objInit (pc := 1) X9 hR wM_X0_3 (Nat.le_of_ble_eq_true rfl) (Nat.le_of_ble_eq_true rfl) dX0_init_1 ?_
  refine a_aload_n (pc := 4) X9 dX0_init_4 rfl rfl ?_
  refine a_iconst (pc := 5) X9 dX0_init_5 ?_
  refine a_putI (pc := 6) X9 okX0 0 rfl rfl wF_X0_9 ⟨(Nat.le_of_ble_eq_true rfl), rfl⟩ dX0_init_6 (by decide) (fit_int _) (fun _ => ?_)
  obtain ⟨G1, eG1⟩ : ∃ Gz, Gz = upG G 100 0 (-1) := ⟨_, rfl⟩
  have hG1 : GR G1 := by rw [eG1]; exact GR.up hG (by decide)
  rw [← eG1]
  refine a_aload_n (pc := 9) X9 dX0_init_9 rfl rfl ?_
  refine a_bipush (pc := 10) X9 dX0_init_10 rfl ?_
  refine a_newarr (atype := .int) (pc := 12) (n := 101) (N := 18) (t := 0) (rf := rfP 97) X9 hR (Nat.le_of_ble_eq_true rfl) rfl (fun C h => by cases h) w_arrayClass__int rfl rfl (rfP_fw (by decide +kernel)) (Nat.le_of_ble_eq_true rfl) (Nat.le_of_ble_eq_true rfl) rfl rfl (Nat.le_of_ble_eq_true rfl) (Nat.le_of_ble_eq_true rfl) ⟨Nat.le_of_ble_eq_true rfl, Nat.le_of_ble_eq_true rfl⟩ dX0_init_12 ?_
  obtain ⟨G2, eG2⟩ : ∃ Gz, Gz = zG G1 101 := ⟨_, rfl⟩
  have hG2 : GR G2 := by rw [eG2]; exact hG1.zz
  rw [← eG2]
  refine a_putR (pc := 14) (n := 102) (rf := rfP 97) (rf' := rfP 98) hI X9 okX0 1 rfl rfl rfl wF_X0_15 ⟨(Nat.le_of_ble_eq_true rfl), rfl⟩ (fun _ => ⟨rfl, rfl⟩) (rfP_s rfl rfl) dX0_init_14 ?_
  refine a_aload_n (pc := 17) X9 dX0_init_17 rfl rfl ?_
  refine a_bipush (pc := 18) X9 dX0_init_18 rfl ?_
  refine a_newarr (atype := .int) (pc := 20) (n := 102) (N := 54) (t := 0) (rf := rfP 98) X9 hR (Nat.le_of_ble_eq_true rfl) rfl (fun C h => by cases h) w_arrayClass__int rfl rfl (rfP_fw (by decide +kernel)) (Nat.le_of_ble_eq_true rfl) (Nat.le_of_ble_eq_true rfl) rfl rfl (Nat.le_of_ble_eq_true rfl) (Nat.le_of_ble_eq_true rfl) ⟨Nat.le_of_ble_eq_true rfl, Nat.le_of_ble_eq_true rfl⟩ dX0_init_20 ?_
  obtain ⟨G3, eG3⟩ : ∃ Gz, Gz = zG G2 102 := ⟨_, rfl⟩
  have hG3 : GR G3 := by rw [eG3]; exact hG2.zz
  rw [← eG3]
  refine a_putR (pc := 22) (n := 103) (rf := rfP 98) (rf' := rfP 99) hI X9 okX0 2 rfl rfl rfl wF_X0_19 ⟨(Nat.le_of_ble_eq_true rfl), rfl⟩ (fun _ => ⟨rfl, rfl⟩) (rfP_s rfl rfl) dX0_init_22 ?_
  refine a_aload_n (pc := 25) X9 dX0_init_25 rfl rfl ?_
  refine a_bipush (pc := 26) X9 dX0_init_26 rfl ?_
  refine a_newarr (atype := .int) (pc := 28) (n := 103) (N := 54) (t := 0) (rf := rfP 99) X9 hR (Nat.le_of_ble_eq_true rfl) rfl (fun C h => by cases h) w_arrayClass__int rfl rfl (rfP_fw (by decide +kernel)) (Nat.le_of_ble_eq_true rfl) (Nat.le_of_ble_eq_true rfl) rfl rfl (Nat.le_of_ble_eq_true rfl) (Nat.le_of_ble_eq_true rfl) ⟨Nat.le_of_ble_eq_true rfl, Nat.le_of_ble_eq_true rfl⟩ dX0_init_28 ?_
  obtain ⟨G4, eG4⟩ : ∃ Gz, Gz = zG G3 103 := ⟨_, rfl⟩
  have hG4 : GR G4 := by rw [eG4]; exact hG3.zz
  rw [← eG4]
  refine a_putR (pc := 30) (n := 104) (rf := rfP 99) (rf' := rfP 100) hI X9 okX0 3 rfl rfl rfl wF_X0_22 ⟨(Nat.le_of_ble_eq_true rfl), rfl⟩ (fun _ => ⟨rfl, rfl⟩) (rfP_s rfl rfl) dX0_init_30 ?_
  refine a_aload_n (pc := 33) X9 dX0_init_33 rfl rfl ?_
  refine a_bipush (pc := 34) X9 dX0_init_34 rfl ?_
  refine a_newarr (atype := .int) (pc := 36) (n := 104) (N := 54) (t := 0) (rf := rfP 100) X9 hR (Nat.le_of_ble_eq_true rfl) rfl (fun C h => by cases h) w_arrayClass__int rfl rfl (rfP_fw (by decide +kernel)) (Nat.le_of_ble_eq_true rfl) (Nat.le_of_ble_eq_true rfl) rfl rfl (Nat.le_of_ble_eq_true rfl) (Nat.le_of_ble_eq_true rfl) ⟨Nat.le_of_ble_eq_true rfl, Nat.le_of_ble_eq_true rfl⟩ dX0_init_36 ?_
  obtain ⟨G5, eG5⟩ : ∃ Gz, Gz = zG G4 104 := ⟨_, rfl⟩
  have hG5 : GR G5 := by rw [eG5]; exact hG4.zz
  rw [← eG5]
  refine a_putR (pc := 38) (n := 105) (rf := rfP 100) (rf' := rfP 101) hI X9 okX0 4 rfl rfl rfl wF_X0_25 ⟨(Nat.le_of_ble_eq_true rfl), rfl⟩ (fun _ => ⟨rfl, rfl⟩) (rfP_s rfl rfl) dX0_init_38 ?_
  refine a_aload_n (pc := 41) X9 dX0_init_41 rfl rfl ?_
  refine a_bipush (pc := 42) X9 dX0_init_42 rfl ?_
  refine a_newarr (atype := .int) (pc := 44) (n := 105) (N := 42) (t := 0) (rf := rfP 101) X9 hR (Nat.le_of_ble_eq_true rfl) rfl (fun C h => by cases h) w_arrayClass__int rfl rfl (rfP_fw (by decide +kernel)) (Nat.le_of_ble_eq_true rfl) (Nat.le_of_ble_eq_true rfl) rfl rfl (Nat.le_of_ble_eq_true rfl) (Nat.le_of_ble_eq_true rfl) ⟨Nat.le_of_ble_eq_true rfl, Nat.le_of_ble_eq_true rfl⟩ dX0_init_44 ?_
  obtain ⟨G6, eG6⟩ : ∃ Gz, Gz = zG G5 105 := ⟨_, rfl⟩
  have hG6 : GR G6 := by rw [eG6]; exact hG5.zz
  rw [← eG6]
  refine a_putR (pc := 46) (n := 106) (rf := rfP 101) (rf' := rfP 102) hI X9 okX0 5 rfl rfl rfl wF_X0_28 ⟨(Nat.le_of_ble_eq_true rfl), rfl⟩ (fun _ => ⟨rfl, rfl⟩) (rfP_s rfl rfl) dX0_init_46 ?_
  exact a_return (pc := 49) X9 E (Nat.le_of_ble_eq_true rfl) (Nat.le_of_ble_eq_true rfl) dX0_init_49 ⟨rfl, rfl, ⟨(by intro b k hb; rw [eG6, zG_ne (by omega)]; rw [eG5, zG_ne (by omega)]; rw [eG4, zG_ne (by omega)]; rw [eG3, zG_ne (by omega)]; rw [eG2, zG_ne (by omega)]; rw [eG1, upG_na (by omega)]), trivial⟩⟩
set_option maxHeartbeats 4000000 in
set_option maxRecDepth 100000 in
theorem k_X7_init_86 {G : GH} : Mt yX7_init cX7_init 1 none 2 33 19 525 [vr 86] (87, shF, rfP 84) G (fun v S' G' => S' = (106, shF, rfP 103) ∧ v = none ∧ ((∀ b k, b < 86 → G' b k = G b k) ∧ True)) noX := by
  refine Mt.ofI (l0 := [some (vr 86)]) rfl (by decide) (Nat.le_of_ble_eq_true rfl) rfl ?_
  intro κ δ ρ0 X9 hI E hG
  replace X9 : CX κ δ RX7 cX7_init 1 none := X9
  have hR := E.rm
  refine a_aload_n (pc := 0) X9 dX7_init_0 rfl rfl ?_
  refine a_objInit (pc := 1) X9 hR wM_X7_3 (Nat.le_of_ble_eq_true rfl) (Nat.le_of_ble_eq_true rfl) dX7_init_1 ?_
  refine a_aload_n (pc := 4) X9 dX7_init_4 rfl rfl ?_
  refine a_iconst (pc := 5) X9 dX7_init_5 ?_
  refine a_newarr (atype := .int) (pc := 6) (n := 87) (N := 3) (t := 0) (rf := rfP 84) X9 hR (Nat.le_of_ble_eq_true rfl) rfl (fun C h => by cases h) w_arrayClass__int rfl rfl (rfP_fw (by decide +kernel)) (Nat.le_of_ble_eq_true rfl) (Nat.le_of_ble_eq_true rfl) rfl rfl (Nat.le_of_ble_eq_true rfl) (Nat.le_of_ble_eq_true rfl) ⟨Nat.le_of_ble_eq_true rfl, Nat.le_of_ble_eq_true rfl⟩ dX7_init_6 ?_
  obtain ⟨G1, eG1⟩ : ∃ Gz, Gz = zG G 87 := ⟨_, rfl⟩
  have hG1 : GR G1 := by rw [eG1]; exact hG.zz
  rw [← eG1]
  refine a_putR (pc := 8) (n := 88) (rf := rfP 84) (rf' := rfP 85) hI X9 okX7 1 rfl rfl rfl wF_X7_9 ⟨(Nat.le_of_ble_eq_true rfl), rfl⟩ (fun _ => ⟨rfl, rfl⟩) (rfP_s rfl rfl) dX7_init_8 ?_
  refine a_aload_n (pc := 11) X9 dX7_init_11 rfl rfl ?_
  refine a_new (pc := 12) (n := 88) (rf := rfP 85) X9 hR okX8 wC_X7_15 w_instantiable_RX8 w_initialized_RX8 fv_X8 rfl (rfP_none (by decide +kernel)) (rfP_fw (by decide +kernel)) (Nat.le_of_ble_eq_true rfl) (Nat.le_of_ble_eq_true rfl) rfl rfl ⟨Nat.le_of_ble_eq_true rfl, Nat.le_of_ble_eq_true rfl⟩ dX7_init_12 ?_
  obtain ⟨G2, eG2⟩ : ∃ Gz, Gz = zG G1 88 := ⟨_, rfl⟩
  have hG2 : GR G2 := by rw [eG2]; exact hG1.zz
  rw [← eG2]
  refine a_dup (pc := 15) X9 dX7_init_15 rfl ?_
  refine a_callIN (pc := 16) X9 hR (k_X8_init_88 (G := G2)) (Nat.le_of_ble_eq_true rfl) rfl rfl (Nat.le_of_ble_eq_true rfl) nx_X7_17 w_instanceMethod_X8_init w_initialized_RX8 w_code_X8_init cpN_X8 pnN_X8 rfl (Nat.le_of_ble_eq_true rfl) ⟨Nat.le_of_ble_eq_true rfl, Nat.le_of_ble_eq_true rfl⟩ ⟨Nat.le_of_ble_eq_true rfl, Nat.le_of_ble_eq_true rfl⟩ dX7_init_16 (fun G3 pG3 hG3 => ?_)
  refine a_putR (pc := 19) (n := 97) (rf := rfP 93) (rf' := rfP 94) hI X9 okX7 3 rfl rfl rfl wF_X7_18 ⟨(Nat.le_of_ble_eq_true rfl), rfl⟩ (fun _ => ⟨rfl, rfl⟩) (rfP_s rfl rfl) dX7_init_19 ?_
  refine a_aload_n (pc := 22) X9 dX7_init_22 rfl rfl ?_
  refine a_new (pc := 23) (n := 97) (rf := rfP 94) X9 hR okX6 wC_X7_22 w_instantiable_RX6 w_initialized_RX6 fv_X6 rfl (rfP_none (by decide +kernel)) (rfP_fw (by decide +kernel)) (Nat.le_of_ble_eq_true rfl) (Nat.le_of_ble_eq_true rfl) rfl rfl ⟨Nat.le_of_ble_eq_true rfl, Nat.le_of_ble_eq_true rfl⟩ dX7_init_23 ?_
  obtain ⟨G4, eG4⟩ : ∃ Gz, Gz = zG G3 97 := ⟨_, rfl⟩
  have hG4 : GR G4 := by rw [eG4]; exact hG3.zz
  rw [← eG4]
  refine a_dup (pc := 26) X9 dX7_init_26 rfl ?_
  refine a_callIN (pc := 27) X9 hR (k_X6_init_97 (G := G4)) (Nat.le_of_ble_eq_true rfl) rfl rfl (Nat.le_of_ble_eq_true rfl) nx_X7_24 w_instanceMethod_X6_init w_initialized_RX6 w_code_X6_init cpN_X6 pnN_X6 rfl (Nat.le_of_ble_eq_true rfl) ⟨Nat.le_of_ble_eq_true rfl, Nat.le_of_ble_eq_true rfl⟩ ⟨Nat.le_of_ble_eq_true rfl, Nat.le_of_ble_eq_true rfl⟩ dX7_init_27 (fun G5 pG5 hG5 => ?_)
  refine a_putR (pc := 30) (n := 100) (rf := rfP 96) (rf' := rfP 97) hI X9 okX7 4 rfl rfl rfl wF_X7_25 ⟨(Nat.le_of_ble_eq_true rfl), rfl⟩ (fun _ => ⟨rfl, rfl⟩) (rfP_s rfl rfl) dX7_init_30 ?_
  refine a_aload_n (pc := 33) X9 dX7_init_33 rfl rfl ?_
  refine a_new (pc := 34) (n := 100) (rf := rfP 97) X9 hR okX0 wC_X7_29 w_instantiable_RX0 w_initialized_RX0 fv_X0 rfl (rfP_none (by decide +kernel)) (rfP_fw (by decide +kernel)) (Nat.le_of_ble_eq_true rfl) (Nat.le_of_ble_eq_true rfl) rfl rfl ⟨Nat.le_of_ble_eq_true rfl, Nat.le_of_ble_eq_true rfl⟩ dX7_init_34 ?_
  obtain ⟨G6, eG6⟩ : ∃ Gz, Gz = zG G5 100 := ⟨_, rfl⟩
  have hG6 : GR G6 := by rw [eG6]; exact hG5.zz
  rw [← eG6]
  refine a_dup (pc := 37) X9 dX7_init_37 rfl ?_
  refine a_callIN (pc := 38) X9 hR (k_X0_init_100 (G := G6)) (Nat.le_of_ble_eq_true rfl) rfl rfl (Nat.le_of_ble_eq_true rfl) nx_X7_31 w_instanceMethod_X0_init w_initialized_RX0 w_code_X0_init cpN_X0 pnN_X0 rfl (Nat.le_of_ble_eq_true rfl) ⟨Nat.le_of_ble_eq_true rfl, Nat.le_of_ble_eq_true rfl⟩ ⟨Nat.le_of_ble_eq_true rfl, Nat.le_of_ble_eq_true rfl⟩ dX7_init_38 (fun G7 pG7 hG7 => ?_)
  refine a_putR (pc := 41) (n := 106) (rf := rfP 102) (rf' := rfP 103) hI X9 okX7 5 rfl rfl rfl wF_X7_32 ⟨(Nat.le_of_ble_eq_true rfl), rfl⟩ (fun _ => ⟨rfl, rfl⟩) (rfP_s rfl rfl) dX7_init_41 ?_
  exact a_return (pc := 44) X9 E (Nat.le_of_ble_eq_true rfl) (Nat.le_of_ble_eq_true rfl) dX7_init_44 ⟨rfl, rfl, ⟨(by intro b k hb; rw [pG7.1 b k (by omega)]; rw [eG6, zG_ne (by omega)]; rw [pG5.1 b k (by omega)]; rw [eG4, zG_ne (by omega)]; rw [pG3.1 b k (by omega)]; rw [eG2, zG_ne (by omega)]; rw [eG1, zG_ne (by omega)]), trivial⟩⟩
set_option maxHeartbeats 4000000 in
set_option maxRecDepth 100000 in
theorem k_X8_init_108 {G : GH} : Mt yX8_init cX8_init 1 none 1 13 8 135 [vr 108] (109, shF, rfP 105) G (fun v S' G' => S' = (117, shF, rfP 113) ∧ v = none ∧ ((∀ b k, b < 108 → G' b k = G b k) ∧ True)) noX := by
  refine Mt.ofI (l0 := [some (vr 108)]) rfl (by decide) (Nat.le_of_ble_eq_true rfl) rfl ?_
  intro κ δ ρ0 X9 hI E hG
  replace X9 : CX κ δ RX8 cX8_init 1 none := X9
  have hR := E.rm
  refine a_aload_n (pc := 0) X9 dX8_init_0 rfl rfl ?_
  refine a_objInit (pc := 1) X9 hR wM_X8_3 (Nat.le_of_ble_eq_true rfl) (Nat.le_of_ble_eq_true rfl) dX8_init_1 ?_
  refine a_aload_n (pc := 4) X9 dX8_init_4 rfl rfl ?_
  refine a_bipush (pc := 5) X9 dX8_init_5 rfl ?_
  refine a_newarr (atype := .int) (pc := 7) (n := 109) (N := 12) (t := 0) (rf := rfP 105) X9 hR (Nat.le_of_ble_eq_true rfl) rfl (fun C h => by cases h) w_arrayClass__int rfl rfl (rfP_fw (by decide +kernel)) (Nat.le_of_ble_eq_true rfl) (Nat.le_of_ble_eq_true rfl) rfl rfl (Nat.le_of_ble_eq_true rfl) (Nat.le_of_ble_eq_true rfl) ⟨Nat.le_of_ble_eq_true rfl, Nat.le_of_ble_eq_true rfl⟩ dX8_init_7 ?_
  obtain ⟨G1, eG1⟩ : ∃ Gz, Gz = zG G 109 := ⟨_, rfl⟩
  have hG1 : GR G1 := by rw [eG1]; exact hG.zz
  rw [← eG1]
  refine a_putR (pc := 9) (n := 110) (rf := rfP 105) (rf' := rfP 106) hI X9 okX8 2 rfl rfl rfl wF_X8_9 ⟨(Nat.le_of_ble_eq_true rfl), rfl⟩ (fun _ => ⟨rfl, rfl⟩) (rfP_s rfl rfl) dX8_init_9 ?_
  refine a_aload_n (pc := 12) X9 dX8_init_12 rfl rfl ?_
  refine a_bipush (pc := 13) X9 dX8_init_13 rfl ?_
  refine a_newarr (atype := .int) (pc := 15) (n := 110) (N := 12) (t := 0) (rf := rfP 106) X9 hR (Nat.le_of_ble_eq_true rfl) rfl (fun C h => by cases h) w_arrayClass__int rfl rfl (rfP_fw (by decide +kernel)) (Nat.le_of_ble_eq_true rfl) (Nat.le_of_ble_eq_true rfl) rfl rfl (Nat.le_of_ble_eq_true rfl) (Nat.le_of_ble_eq_true rfl) ⟨Nat.le_of_ble_eq_true rfl, Nat.le_of_ble_eq_true rfl⟩ dX8_init_15 ?_
  obtain ⟨G2, eG2⟩ : ∃ Gz, Gz = zG G1 110 := ⟨_, rfl⟩
  have hG2 : GR G2 := by rw [eG2]; exact hG1.zz
  rw [← eG2]
  refine a_putR (pc := 17) (n := 111) (rf := rfP 106) (rf' := rfP 107) hI X9 okX8 3 rfl rfl rfl wF_X8_15 ⟨(Nat.le_of_ble_eq_true rfl), rfl⟩ (fun _ => ⟨rfl, rfl⟩) (rfP_s rfl rfl) dX8_init_17 ?_
  refine a_aload_n (pc := 20) X9 dX8_init_20 rfl rfl ?_
  refine a_bipush (pc := 21) X9 dX8_init_21 rfl ?_
  refine a_newarr (atype := .int) (pc := 23) (n := 111) (N := 42) (t := 0) (rf := rfP 107) X9 hR (Nat.le_of_ble_eq_true rfl) rfl (fun C h => by cases h) w_arrayClass__int rfl rfl (rfP_fw (by decide +kernel)) (Nat.le_of_ble_eq_true rfl) (Nat.le_of_ble_eq_true rfl) rfl rfl (Nat.le_of_ble_eq_true rfl) (Nat.le_of_ble_eq_true rfl) ⟨Nat.le_of_ble_eq_true rfl, Nat.le_of_ble_eq_true rfl⟩ dX8_init_23 ?_
  obtain ⟨G3, eG3⟩ : ∃ Gz, Gz = zG G2 111 := ⟨_, rfl⟩
  have hG3 : GR G3 := by rw [eG3]; exact hG2.zz
  rw [← eG3]
  refine a_putR (pc := 25) (n := 112) (rf := rfP 107) (rf' := rfP 108) hI X9 okX8 4 rfl rfl rfl wF_X8_18 ⟨(Nat.le_of_ble_eq_true rfl), rfl⟩ (fun _ => ⟨rfl, rfl⟩) (rfP_s rfl rfl) dX8_init_25 ?_
  refine a_aload_n (pc := 28) X9 dX8_init_28 rfl rfl ?_
  refine a_iconst (pc := 29) X9 dX8_init_29 ?_
  refine a_newarr (atype := .int) (pc := 30) (n := 112) (N := 3) (t := 0) (rf := rfP 108) X9 hR (Nat.le_of_ble_eq_true rfl) rfl (fun C h => by cases h) w_arrayClass__int rfl rfl (rfP_fw (by decide +kernel)) (Nat.le_of_ble_eq_true rfl) (Nat.le_of_ble_eq_true rfl) rfl rfl (Nat.le_of_ble_eq_true rfl) (Nat.le_of_ble_eq_true rfl) ⟨Nat.le_of_ble_eq_true rfl, Nat.le_of_ble_eq_true rfl⟩ dX8_init_30 ?_
  obtain ⟨G4, eG4⟩ : ∃ Gz, Gz = zG G3 112 := ⟨_, rfl⟩
  have hG4 : GR G4 := by rw [eG4]; exact hG3.zz
  rw [← eG4]
  refine a_putR (pc := 32) (n := 113) (rf := rfP 108) (rf' := rfP 109) hI X9 okX8 6 rfl rfl rfl wF_X8_21 ⟨(Nat.le_of_ble_eq_true rfl), rfl⟩ (fun _ => ⟨rfl, rfl⟩) (rfP_s rfl rfl) dX8_init_32 ?_
  refine a_aload_n (pc := 35) X9 dX8_init_35 rfl rfl ?_
  refine a_bipush (pc := 36) X9 dX8_init_36 rfl ?_
  refine a_newarr (atype := .int) (pc := 38) (n := 113) (N := 30) (t := 0) (rf := rfP 109) X9 hR (Nat.le_of_ble_eq_true rfl) rfl (fun C h => by cases h) w_arrayClass__int rfl rfl (rfP_fw (by decide +kernel)) (Nat.le_of_ble_eq_true rfl) (Nat.le_of_ble_eq_true rfl) rfl rfl (Nat.le_of_ble_eq_true rfl) (Nat.le_of_ble_eq_true rfl) ⟨Nat.le_of_ble_eq_true rfl, Nat.le_of_ble_eq_true rfl⟩ dX8_init_38 ?_
  obtain ⟨G5, eG5⟩ : ∃ Gz, Gz = zG G4 113 := ⟨_, rfl⟩
  have hG5 : GR G5 := by rw [eG5]; exact hG4.zz
  rw [← eG5]
  refine a_putR (pc := 40) (n := 114) (rf := rfP 109) (rf' := rfP 110) hI X9 okX8 7 rfl rfl rfl wF_X8_24 ⟨(Nat.le_of_ble_eq_true rfl), rfl⟩ (fun _ => ⟨rfl, rfl⟩) (rfP_s rfl rfl) dX8_init_40 ?_
  refine a_aload_n (pc := 43) X9 dX8_init_43 rfl rfl ?_
  refine a_bipush (pc := 44) X9 dX8_init_44 rfl ?_
  refine a_newarr (atype := .int) (pc := 46) (n := 114) (N := 12) (t := 0) (rf := rfP 110) X9 hR (Nat.le_of_ble_eq_true rfl) rfl (fun C h => by cases h) w_arrayClass__int rfl rfl (rfP_fw (by decide +kernel)) (Nat.le_of_ble_eq_true rfl) (Nat.le_of_ble_eq_true rfl) rfl rfl (Nat.le_of_ble_eq_true rfl) (Nat.le_of_ble_eq_true rfl) ⟨Nat.le_of_ble_eq_true rfl, Nat.le_of_ble_eq_true rfl⟩ dX8_init_46 ?_
  obtain ⟨G6, eG6⟩ : ∃ Gz, Gz = zG G5 114 := ⟨_, rfl⟩
  have hG6 : GR G6 := by rw [eG6]; exact hG5.zz
  rw [← eG6]
  refine a_putR (pc := 48) (n := 115) (rf := rfP 110) (rf' := rfP 111) hI X9 okX8 9 rfl rfl rfl wF_X8_27 ⟨(Nat.le_of_ble_eq_true rfl), rfl⟩ (fun _ => ⟨rfl, rfl⟩) (rfP_s rfl rfl) dX8_init_48 ?_
  refine a_aload_n (pc := 51) X9 dX8_init_51 rfl rfl ?_
  refine a_bipush (pc := 52) X9 dX8_init_52 rfl ?_
  refine a_newarr (atype := .int) (pc := 54) (n := 115) (N := 12) (t := 0) (rf := rfP 111) X9 hR (Nat.le_of_ble_eq_true rfl) rfl (fun C h => by cases h) w_arrayClass__int rfl rfl (rfP_fw (by decide +kernel)) (Nat.le_of_ble_eq_true rfl) (Nat.le_of_ble_eq_true rfl) rfl rfl (Nat.le_of_ble_eq_true rfl) (Nat.le_of_ble_eq_true rfl) ⟨Nat.le_of_ble_eq_true rfl, Nat.le_of_ble_eq_true rfl⟩ dX8_init_54 ?_
  obtain ⟨G7, eG7⟩ : ∃ Gz, Gz = zG G6 115 := ⟨_, rfl⟩
  have hG7 : GR G7 := by rw [eG7]; exact hG6.zz
  rw [← eG7]
  refine a_putR (pc := 56) (n := 116) (rf := rfP 111) (rf' := rfP 112) hI X9 okX8 10 rfl rfl rfl wF_X8_30 ⟨(Nat.le_of_ble_eq_true rfl), rfl⟩ (fun _ => ⟨rfl, rfl⟩) (rfP_s rfl rfl) dX8_init_56 ?_
  refine a_aload_n (pc := 59) X9 dX8_init_59 rfl rfl ?_
  refine a_bipush (pc := 60) X9 dX8_init_60 rfl ?_
  refine a_newarr (atype := .int) (pc := 62) (n := 116) (N := 12) (t := 0) (rf := rfP 112) X9 hR (Nat.le_of_ble_eq_true rfl) rfl (fun C h => by cases h) w_arrayClass__int rfl rfl (rfP_fw (by decide +kernel)) (Nat.le_of_ble_eq_true rfl) (Nat.le_of_ble_eq_true rfl) rfl rfl (Nat.le_of_ble_eq_true rfl) (Nat.le_of_ble_eq_true rfl) ⟨Nat.le_of_ble_eq_true rfl, Nat.le_of_ble_eq_true rfl⟩ dX8_init_62 ?_
  obtain ⟨G8, eG8⟩ : ∃ Gz, Gz = zG G7 116 := ⟨_, rfl⟩
  have hG8 : GR G8 := by rw [eG8]; exact hG7.zz
  rw [← eG8]
  refine a_putR (pc := 64) (n := 117) (rf := rfP 112) (rf' := rfP 113) hI X9 okX8 11 rfl rfl rfl wF_X8_33 ⟨(Nat.le_of_ble_eq_true rfl), rfl⟩ (fun _ => ⟨rfl, rfl⟩) (rfP_s rfl rfl) dX8_init_64 ?_
  exact a_return (pc := 67) X9 E (Nat.le_of_ble_eq_true rfl) (Nat.le_of_ble_eq_true rfl) dX8_init_67 ⟨rfl, rfl, ⟨(by intro b k hb; rw [eG8, zG_ne (by omega)]; rw [eG7, zG_ne (by omega)]; rw [eG6, zG_ne (by omega)]; rw [eG5, zG_ne (by omega)]; rw [eG4, zG_ne (by omega)]; rw [eG3, zG_ne (by omega)]; rw [eG2, zG_ne (by omega)]; rw [eG1, zG_ne (by omega)]), trivial⟩⟩
set_option maxHeartbeats 4000000 in
set_option maxRecDepth 100000 in
theorem k_X6_init_117 {G : GH} : Mt yX6_init cX6_init 1 none 1 13 2 144 [vr 117] (118, shF, rfP 114) G (fun v S' G' => S' = (120, shF, rfP 116) ∧ v = none ∧ ((∀ b k, b < 117 → G' b k = G b k) ∧ True)) noX := by
  refine Mt.ofI (l0 := [some (vr 117)]) rfl (by decide) (Nat.le_of_ble_eq_true rfl) rfl ?_
  intro κ δ ρ0 X9 hI E hG
  replace X9 : CX κ δ RX6 cX6_init 1 none := X9
  have hR := E.rm
  refine a_aload_n (pc := 0) X9 dX6_init_0 rfl rfl ?_
  refine a_objInit (pc := 1) X9 hR wM_X6_3 (Nat.le_of_ble_eq_true rfl) (Nat.le_of_ble_eq_true rfl) dX6_init_1 ?_
  refine a_aload_n (pc := 4) X9 dX6_init_4 rfl rfl ?_
  refine a_bipush (pc := 5) X9 dX6_init_5 rfl ?_
  refine a_newarr (atype := .int) (pc := 7) (n := 118) (N := 16) (t := 0) (rf := rfP 114) X9 hR (Nat.le_of_ble_eq_true rfl) rfl (fun C h => by cases h) w_arrayClass__int rfl rfl (rfP_fw (by decide +kernel)) (Nat.le_of_ble_eq_true rfl) (Nat.le_of_ble_eq_true rfl) rfl rfl (Nat.le_of_ble_eq_true rfl) (Nat.le_of_ble_eq_true rfl) ⟨Nat.le_of_ble_eq_true rfl, Nat.le_of_ble_eq_true rfl⟩ dX6_init_7 ?_
  obtain ⟨G1, eG1⟩ : ∃ Gz, Gz = zG G 118 := ⟨_, rfl⟩
  have hG1 : GR G1 := by rw [eG1]; exact hG.zz
  rw [← eG1]
  refine a_putR (pc := 9) (n := 119) (rf := rfP 114) (rf' := rfP 115) hI X9 okX6 1 rfl rfl rfl wF_X6_9 ⟨(Nat.le_of_ble_eq_true rfl), rfl⟩ (fun _ => ⟨rfl, rfl⟩) (rfP_s rfl rfl) dX6_init_9 ?_
  refine a_aload_n (pc := 12) X9 dX6_init_12 rfl rfl ?_
  refine a_sipush (pc := 13) X9 dX6_init_13 rfl ?_
  refine a_newarr (atype := .int) (pc := 16) (n := 119) (N := 128) (t := 0) (rf := rfP 115) X9 hR (Nat.le_of_ble_eq_true rfl) rfl (fun C h => by cases h) w_arrayClass__int rfl rfl (rfP_fw (by decide +kernel)) (Nat.le_of_ble_eq_true rfl) (Nat.le_of_ble_eq_true rfl) rfl rfl (Nat.le_of_ble_eq_true rfl) (Nat.le_of_ble_eq_true rfl) ⟨Nat.le_of_ble_eq_true rfl, Nat.le_of_ble_eq_true rfl⟩ dX6_init_16 ?_
  obtain ⟨G2, eG2⟩ : ∃ Gz, Gz = zG G1 119 := ⟨_, rfl⟩
  have hG2 : GR G2 := by rw [eG2]; exact hG1.zz
  rw [← eG2]
  refine a_putR (pc := 18) (n := 120) (rf := rfP 115) (rf' := rfP 116) hI X9 okX6 2 rfl rfl rfl wF_X6_15 ⟨(Nat.le_of_ble_eq_true rfl), rfl⟩ (fun _ => ⟨rfl, rfl⟩) (rfP_s rfl rfl) dX6_init_18 ?_
  exact a_return (pc := 21) X9 E (Nat.le_of_ble_eq_true rfl) (Nat.le_of_ble_eq_true rfl) dX6_init_21 ⟨rfl, rfl, ⟨(by intro b k hb; rw [eG2, zG_ne (by omega)]; rw [eG1, zG_ne (by omega)]), trivial⟩⟩
set_option maxHeartbeats 4000000 in
set_option maxRecDepth 100000 in
theorem k_X0_init_120 {G : GH} : Mt yX0_init cX0_init 1 none 1 13 5 222 [vr 120] (121, shF, rfP 117) G (fun v S' G' => S' = (126, shF, rfP 122) ∧ v = none ∧ ((∀ b k, b < 120 → G' b k = G b k) ∧ True)) noX := by
  refine Mt.ofI (l0 := [some (vr 120)]) rfl (by decide) (Nat.le_of_ble_eq_true rfl) rfl ?_
  intro κ δ ρ0 X9 hI E hG
  replace X9 : CX κ δ RX0 cX0_init 1 none := X9
  have hR := E.rm
  refine a_aload_n (pc := 0) X9 dX0_init_0 rfl rfl ?_
  refine a_objInit (pc := 1) X9 hR wM_X0_3 (Nat.le_of_ble_eq_true rfl) (Nat.le_of_ble_eq_true rfl) dX0_init_1 ?_
  refine a_aload_n (pc := 4) X9 dX0_init_4 rfl rfl ?_
  refine a_iconst (pc := 5) X9 dX0_init_5 ?_
  refine a_putI (pc := 6) X9 okX0 0 rfl rfl wF_X0_9 ⟨(Nat.le_of_ble_eq_true rfl), rfl⟩ dX0_init_6 (by decide) (fit_int _) (fun _ => ?_)
  obtain ⟨G1, eG1⟩ : ∃ Gz, Gz = upG G 120 0 (-1) := ⟨_, rfl⟩
  have hG1 : GR G1 := by rw [eG1]; exact GR.up hG (by decide)
  rw [← eG1]
  refine a_aload_n (pc := 9) X9 dX0_init_9 rfl rfl ?_
  refine a_bipush (pc := 10) X9 dX0_init_10 rfl ?_
  refine a_newarr (atype := .int) (pc := 12) (n := 121) (N := 18) (t := 0) (rf := rfP 117) X9 hR (Nat.le_of_ble_eq_true rfl) rfl (fun C h => by cases h) w_arrayClass__int rfl rfl (rfP_fw (by decide +kernel)) (Nat.le_of_ble_eq_true rfl) (Nat.le_of_ble_eq_true rfl) rfl rfl (Nat.le_of_ble_eq_true rfl) (Nat.le_of_ble_eq_true rfl) ⟨Nat.le_of_ble_eq_true rfl, Nat.le_of_ble_eq_true rfl⟩ dX0_init_12 ?_
  obtain ⟨G2, eG2⟩ : ∃ Gz, Gz = zG G1 121 := ⟨_, rfl⟩
  have hG2 : GR G2 := by rw [eG2]; exact hG1.zz
  rw [← eG2]
  refine a_putR (pc := 14) (n := 122) (rf := rfP 117) (rf' := rfP 118) hI X9 okX0 1 rfl rfl rfl wF_X0_15 ⟨(Nat.le_of_ble_eq_true rfl), rfl⟩ (fun _ => ⟨rfl, rfl⟩) (rfP_s rfl rfl) dX0_init_14 ?_
  refine a_aload_n (pc := 17) X9 dX0_init_17 rfl rfl ?_
  refine a_bipush (pc := 18) X9 dX0_init_18 rfl ?_
  refine a_newarr (atype := .int) (pc := 20) (n := 122) (N := 54) (t := 0) (rf := rfP 118) X9 hR (Nat.le_of_ble_eq_true rfl) rfl (fun C h => by cases h) w_arrayClass__int rfl rfl (rfP_fw (by decide +kernel)) (Nat.le_of_ble_eq_true rfl) (Nat.le_of_ble_eq_true rfl) rfl rfl (Nat.le_of_ble_eq_true rfl) (Nat.le_of_ble_eq_true rfl) ⟨Nat.le_of_ble_eq_true rfl, Nat.le_of_ble_eq_true rfl⟩ dX0_init_20 ?_
  obtain ⟨G3, eG3⟩ : ∃ Gz, Gz = zG G2 122 := ⟨_, rfl⟩
  have hG3 : GR G3 := by rw [eG3]; exact hG2.zz
  rw [← eG3]
  refine a_putR (pc := 22) (n := 123) (rf := rfP 118) (rf' := rfP 119) hI X9 okX0 2 rfl rfl rfl wF_X0_19 ⟨(Nat.le_of_ble_eq_true rfl), rfl⟩ (fun _ => ⟨rfl, rfl⟩) (rfP_s rfl rfl) dX0_init_22 ?_
  refine a_aload_n (pc := 25) X9 dX0_init_25 rfl rfl ?_
  refine a_bipush (pc := 26) X9 dX0_init_26 rfl ?_
  refine a_newarr (atype := .int) (pc := 28) (n := 123) (N := 54) (t := 0) (rf := rfP 119) X9 hR (Nat.le_of_ble_eq_true rfl) rfl (fun C h => by cases h) w_arrayClass__int rfl rfl (rfP_fw (by decide +kernel)) (Nat.le_of_ble_eq_true rfl) (Nat.le_of_ble_eq_true rfl) rfl rfl (Nat.le_of_ble_eq_true rfl) (Nat.le_of_ble_eq_true rfl) ⟨Nat.le_of_ble_eq_true rfl, Nat.le_of_ble_eq_true rfl⟩ dX0_init_28 ?_
  obtain ⟨G4, eG4⟩ : ∃ Gz, Gz = zG G3 123 := ⟨_, rfl⟩
  have hG4 : GR G4 := by rw [eG4]; exact hG3.zz
  rw [← eG4]
  refine a_putR (pc := 30) (n := 124) (rf := rfP 119) (rf' := rfP 120) hI X9 okX0 3 rfl rfl rfl wF_X0_22 ⟨(Nat.le_of_ble_eq_true rfl), rfl⟩ (fun _ => ⟨rfl, rfl⟩) (rfP_s rfl rfl) dX0_init_30 ?_
  refine a_aload_n (pc := 33) X9 dX0_init_33 rfl rfl ?_
  refine a_bipush (pc := 34) X9 dX0_init_34 rfl ?_
  refine a_newarr (atype := .int) (pc := 36) (n := 124) (N := 54) (t := 0) (rf := rfP 120) X9 hR (Nat.le_of_ble_eq_true rfl) rfl (fun C h => by cases h) w_arrayClass__int rfl rfl (rfP_fw (by decide +kernel)) (Nat.le_of_ble_eq_true rfl) (Nat.le_of_ble_eq_true rfl) rfl rfl (Nat.le_of_ble_eq_true rfl) (Nat.le_of_ble_eq_true rfl) ⟨Nat.le_of_ble_eq_true rfl, Nat.le_of_ble_eq_true rfl⟩ dX0_init_36 ?_
  obtain ⟨G5, eG5⟩ : ∃ Gz, Gz = zG G4 124 := ⟨_, rfl⟩
  have hG5 : GR G5 := by rw [eG5]; exact hG4.zz
  rw [← eG5]
  refine a_putR (pc := 38) (n := 125) (rf := rfP 120) (rf' := rfP 121) hI X9 okX0 4 rfl rfl rfl wF_X0_25 ⟨(Nat.le_of_ble_eq_true rfl), rfl⟩ (fun _ => ⟨rfl, rfl⟩) (rfP_s rfl rfl) dX0_init_38 ?_
  refine a_aload_n (pc := 41) X9 dX0_init_41 rfl rfl ?_
  refine a_bipush (pc := 42) X9 dX0_init_42 rfl ?_
  refine a_newarr (atype := .int) (pc := 44) (n := 125) (N := 42) (t := 0) (rf := rfP 121) X9 hR (Nat.le_of_ble_eq_true rfl) rfl (fun C h => by cases h) w_arrayClass__int rfl rfl (rfP_fw (by decide +kernel)) (Nat.le_of_ble_eq_true rfl) (Nat.le_of_ble_eq_true rfl) rfl rfl (Nat.le_of_ble_eq_true rfl) (Nat.le_of_ble_eq_true rfl) ⟨Nat.le_of_ble_eq_true rfl, Nat.le_of_ble_eq_true rfl⟩ dX0_init_44 ?_
  obtain ⟨G6, eG6⟩ : ∃ Gz, Gz = zG G5 125 := ⟨_, rfl⟩
  have hG6 : GR G6 := by rw [eG6]; exact hG5.zz
  rw [← eG6]
  refine a_putR (pc := 46) (n := 126) (rf := rfP 121) (rf' := rfP 122) hI X9 okX0 5 rfl rfl rfl wF_X0_28 ⟨(Nat.le_of_ble_eq_true rfl), rfl⟩ (fun _ => ⟨rfl, rfl⟩) (rfP_s rfl rfl) dX0_init_46 ?_
  exact a_return (pc := 49) X9 E (Nat.le_of_ble_eq_true rfl) (Nat.le_of_ble_eq_true rfl) dX0_init_49 ⟨rfl, rfl, ⟨(by intro b k hb; rw [eG6, zG_ne (by omega)]; rw [eG5, zG_ne (by omega)]; rw [eG4, zG_ne (by omega)]; rw [eG3, zG_ne (by omega)]; rw [eG2, zG_ne (by omega)]; rw [eG1, upG_na (by omega)]), trivial⟩⟩
set_option maxHeartbeats 4000000 in
set_option maxRecDepth 100000 in
theorem k_X7_init_106 {G : GH} : Mt yX7_init cX7_init 1 none 2 33 19 525 [vr 106] (107, shF, rfP 104) G (fun v S' G' => S' = (126, shF, rfP 123) ∧ v = none ∧ ((∀ b k, b < 106 → G' b k = G b k) ∧ True)) noX := by
  refine Mt.ofI (l0 := [some (vr 106)]) rfl (by decide) (Nat.le_of_ble_eq_true rfl) rfl ?_
  intro κ δ ρ0 X9 hI E hG
  replace X9 : CX κ δ RX7 cX7_init 1 none := X9
  have hR := E.rm
  refine a_aload_n (pc := 0) X9 dX7_init_0 rfl rfl ?_
  refine a_objInit (pc := 1) X9 hR wM_X7_3 (Nat.le_of_ble_eq_true rfl) (Nat.le_of_ble_eq_true rfl) dX7_init_1 ?_
  refine a_aload_n (pc := 4) X9 dX7_init_4 rfl rfl ?_
  refine a_iconst (pc := 5) X9 dX7_init_5 ?_
  refine a_newarr (atype := .int) (pc := 6) (n := 107) (N := 3) (t := 0) (rf := rfP 104) X9 hR (Nat.le_of_ble_eq_true rfl) rfl (fun C h => by cases h) w_arrayClass__int rfl rfl (rfP_fw (by decide +kernel)) (Nat.le_of_ble_eq_true rfl) (Nat.le_of_ble_eq_true rfl) rfl rfl (Nat.le_of_ble_eq_true rfl) (Nat.le_of_ble_eq_true rfl) ⟨Nat.le_of_ble_eq_true rfl, Nat.le_of_ble_eq_true rfl⟩ dX7_init_6 ?_
  obtain ⟨G1, eG1⟩ : ∃ Gz, Gz = zG G 107 := ⟨_, rfl⟩
  have hG1 : GR G1 := by rw [eG1]; exact hG.zz
  rw [← eG1]
  refine a_putR (pc := 8) (n := 108) (rf := rfP 104) (rf' := rfP 105) hI X9 okX7 1 rfl rfl rfl wF_X7_9 ⟨(Nat.le_of_ble_eq_true rfl), rfl⟩ (fun _ => ⟨rfl, rfl⟩) (rfP_s rfl rfl) dX7_init_8 ?_
  refine a_aload_n (pc := 11) X9 dX7_init_11 rfl rfl ?_
  refine a_new (pc := 12) (n := 108) (rf := rfP 105) X9 hR okX8 wC_X7_15 w_instantiable_RX8 w_initialized_RX8 fv_X8 rfl (rfP_none (by decide +kernel)) (rfP_fw (by decide +kernel)) (Nat.le_of_ble_eq_true rfl) (Nat.le_of_ble_eq_true rfl) rfl rfl ⟨Nat.le_of_ble_eq_true rfl, Nat.le_of_ble_eq_true rfl⟩ dX7_init_12 ?_
  obtain ⟨G2, eG2⟩ : ∃ Gz, Gz = zG G1 108 := ⟨_, rfl⟩
  have hG2 : GR G2 := by rw [eG2]; exact hG1.zz
  rw [← eG2]
  refine a_dup (pc := 15) X9 dX7_init_15 rfl ?_
  refine a_callIN (pc := 16) X9 hR (k_X8_init_108 (G := G2)) (Nat.le_of_ble_eq_true rfl) rfl rfl (Nat.le_of_ble_eq_true rfl) nx_X7_17 w_instanceMethod_X8_init w_initialized_RX8 w_code_X8_init cpN_X8 pnN_X8 rfl (Nat.le_of_ble_eq_true rfl) ⟨Nat.le_of_ble_eq_true rfl, Nat.le_of_ble_eq_true rfl⟩ ⟨Nat.le_of_ble_eq_true rfl, Nat.le_of_ble_eq_true rfl⟩ dX7_init_16 (fun G3 pG3 hG3 => ?_)
  refine a_putR (pc := 19) (n := 117) (rf := rfP 113) (rf' := rfP 114) hI X9 okX7 3 rfl rfl rfl wF_X7_18 ⟨(Nat.le_of_ble_eq_true rfl), rfl⟩ (fun _ => ⟨rfl, rfl⟩) (rfP_s rfl rfl) dX7_init_19 ?_
  refine a_aload_n (pc := 22) X9 dX7_init_22 rfl rfl ?_
  refine a_new (pc := 23) (n := 117) (rf := rfP 114) X9 hR okX6 wC_X7_22 w_instantiable_RX6 w_initialized_RX6 fv_X6 rfl (rfP_none (by decide +kernel)) (rfP_fw (by decide +kernel)) (Nat.le_of_ble_eq_true rfl) (Nat.le_of_ble_eq_true rfl) rfl rfl ⟨Nat.le_of_ble_eq_true rfl, Nat.le_of_ble_eq_true rfl⟩ dX7_init_23 ?_
  obtain ⟨G4, eG4⟩ : ∃ Gz, Gz = zG G3 117 := ⟨_, rfl⟩
  have hG4 : GR G4 := by rw [eG4]; exact hG3.zz
  rw [← eG4]
  refine a_dup (pc := 26) X9 dX7_init_26 rfl ?_
  refine a_callIN (pc := 27) X9 hR (k_X6_init_117 (G := G4)) (Nat.le_of_ble_eq_true rfl) rfl rfl (Nat.le_of_ble_eq_true rfl) nx_X7_24 w_instanceMethod_X6_init w_initialized_RX6 w_code_X6_init cpN_X6 pnN_X6 rfl (Nat.le_of_ble_eq_true rfl) ⟨Nat.le_of_ble_eq_true rfl, Nat.le_of_ble_eq_true rfl⟩ ⟨Nat.le_of_ble_eq_true rfl, Nat.le_of_ble_eq_true rfl⟩ dX7_init_27 (fun G5 pG5 hG5 => ?_)
  refine a_putR (pc := 30) (n := 120) (rf := rfP 116) (rf' := rfP 117) hI X9 okX7 4 rfl rfl rfl wF_X7_25 ⟨(Nat.le_of_ble_eq_true rfl), rfl⟩ (fun _ => ⟨rfl, rfl⟩) (rfP_s rfl rfl) dX7_init_30 ?_
  refine a_aload_n (pc := 33) X9 dX7_init_33 rfl rfl ?_
  refine a_new (pc := 34) (n := 120) (rf := rfP 117) X9 hR okX0 wC_X7_29 w_instantiable_RX0 w_initialized_RX0 fv_X0 rfl (rfP_none (by decide +kernel)) (rfP_fw (by decide +kernel)) (Nat.le_of_ble_eq_true rfl) (Nat.le_of_ble_eq_true rfl) rfl rfl ⟨Nat.le_of_ble_eq_true rfl, Nat.le_of_ble_eq_true rfl⟩ dX7_init_34 ?_
  obtain ⟨G6, eG6⟩ : ∃ Gz, Gz = zG G5 120 := ⟨_, rfl⟩
  have hG6 : GR G6 := by rw [eG6]; exact hG5.zz
  rw [← eG6]
  refine a_dup (pc := 37) X9 dX7_init_37 rfl ?_
  refine a_callIN (pc := 38) X9 hR (k_X0_init_120 (G := G6)) (Nat.le_of_ble_eq_true rfl) rfl rfl (Nat.le_of_ble_eq_true rfl) nx_X7_31 w_instanceMethod_X0_init w_initialized_RX0 w_code_X0_init cpN_X0 pnN_X0 rfl (Nat.le_of_ble_eq_true rfl) ⟨Nat.le_of_ble_eq_true rfl, Nat.le_of_ble_eq_true rfl⟩ ⟨Nat.le_of_ble_eq_true rfl, Nat.le_of_ble_eq_true rfl⟩ dX7_init_38 (fun G7 pG7 hG7 => ?_)
  refine a_putR (pc := 41) (n := 126) (rf := rfP 122) (rf' := rfP 123) hI X9 okX7 5 rfl rfl rfl wF_X7_32 ⟨(Nat.le_of_ble_eq_true rfl), rfl⟩ (fun _ => ⟨rfl, rfl⟩) (rfP_s rfl rfl) dX7_init_41 ?_
  exact a_return (pc := 44) X9 E (Nat.le_of_ble_eq_true rfl) (Nat.le_of_ble_eq_true rfl) dX7_init_44 ⟨rfl, rfl, ⟨(by intro b k hb; rw [pG7.1 b k (by omega)]; rw [eG6, zG_ne (by omega)]; rw [pG5.1 b k (by omega)]; rw [eG4, zG_ne (by omega)]; rw [pG3.1 b k (by omega)]; rw [eG2, zG_ne (by omega)]; rw [eG1, zG_ne (by omega)]), trivial⟩⟩
set_option maxHeartbeats 4000000 in
set_option maxRecDepth 100000 in
theorem k_X8_init_128 {G : GH} : Mt yX8_init cX8_init 1 none 1 13 8 135 [vr 128] (129, shF, rfP 125) G (fun v S' G' => S' = (137, shF, rfP 133) ∧ v = none ∧ ((∀ b k, b < 128 → G' b k = G b k) ∧ True)) noX := by
  refine Mt.ofI (l0 := [some (vr 128)]) rfl (by decide) (Nat.le_of_ble_eq_true rfl) rfl ?_
  intro κ δ ρ0 X9 hI E hG
  replace X9 : CX κ δ RX8 cX8_init 1 none := X9
  have hR := E.rm
  refine a_aload_n (pc := 0) X9 dX8_init_0 rfl rfl ?_
  refine a_objInit (pc := 1) X9 hR wM_X8_3 (Nat.le_of_ble_eq_true rfl) (Nat.le_of_ble_eq_true rfl) dX8_init_1 ?_
  refine a_aload_n (pc := 4) X9 dX8_init_4 rfl rfl ?_
  refine a_bipush (pc := 5) X9 dX8_init_5 rfl ?_
  refine a_newarr (atype := .int) (pc := 7) (n := 129) (N := 12) (t := 0) (rf := rfP 125) X9 hR (Nat.le_of_ble_eq_true rfl) rfl (fun C h => by cases h) w_arrayClass__int rfl rfl (rfP_fw (by decide +kernel)) (Nat.le_of_ble_eq_true rfl) (Nat.le_of_ble_eq_true rfl) rfl rfl (Nat.le_of_ble_eq_true rfl) (Nat.le_of_ble_eq_true rfl) ⟨Nat.le_of_ble_eq_true rfl, Nat.le_of_ble_eq_true rfl⟩ dX8_init_7 ?_
  obtain ⟨G1, eG1⟩ : ∃ Gz, Gz = zG G 129 := ⟨_, rfl⟩
  have hG1 : GR G1 := by rw [eG1]; exact hG.zz
  rw [← eG1]
  refine a_putR (pc := 9) (n := 130) (rf := rfP 125) (rf' := rfP 126) hI X9 okX8 2 rfl rfl rfl wF_X8_9 ⟨(Nat.le_of_ble_eq_true rfl), rfl⟩ (fun _ => ⟨rfl, rfl⟩) (rfP_s rfl rfl) dX8_init_9 ?_
  refine a_aload_n (pc := 12) X9 dX8_init_12 rfl rfl ?_
  refine a_bipush (pc := 13) X9 dX8_init_13 rfl ?_
  refine a_newarr (atype := .int) (pc := 15) (n := 130) (N := 12) (t := 0) (rf := rfP 126) X9 hR (Nat.le_of_ble_eq_true rfl) rfl (fun C h => by cases h) w_arrayClass__int rfl rfl (rfP_fw (by decide +kernel)) (Nat.le_of_ble_eq_true rfl) (Nat.le_of_ble_eq_true rfl) rfl rfl (Nat.le_of_ble_eq_true rfl) (Nat.le_of_ble_eq_true rfl) ⟨Nat.le_of_ble_eq_true rfl, Nat.le_of_ble_eq_true rfl⟩ dX8_init_15 ?_
  obtain ⟨G2, eG2⟩ : ∃ Gz, Gz = zG G1 130 := ⟨_, rfl⟩
  have hG2 : GR G2 := by rw [eG2]; exact hG1.zz
  rw [← eG2]
  refine a_putR (pc := 17) (n := 131) (rf := rfP 126) (rf' := rfP 127) hI X9 okX8 3 rfl rfl rfl wF_X8_15 ⟨(Nat.le_of_ble_eq_true rfl), rfl⟩ (fun _ => ⟨rfl, rfl⟩) (rfP_s rfl rfl) dX8_init_17 ?_
  refine a_aload_n (pc := 20) X9 dX8_init_20 rfl rfl ?_
  refine a_bipush (pc := 21) X9 dX8_init_21 rfl ?_
  refine a_newarr (atype := .int) (pc := 23) (n := 131) (N := 42) (t := 0) (rf := rfP 127) X9 hR (Nat.le_of_ble_eq_true rfl) rfl (fun C h => by cases h) w_arrayClass__int rfl rfl (rfP_fw (by decide +kernel)) (Nat.le_of_ble_eq_true rfl) (Nat.le_of_ble_eq_true rfl) rfl rfl (Nat.le_of_ble_eq_true rfl) (Nat.le_of_ble_eq_true rfl) ⟨Nat.le_of_ble_eq_true rfl, Nat.le_of_ble_eq_true rfl⟩ dX8_init_23 ?_
  obtain ⟨G3, eG3⟩ : ∃ Gz, Gz = zG G2 131 := ⟨_, rfl⟩
  have hG3 : GR G3 := by rw [eG3]; exact hG2.zz
  rw [← eG3]
  refine a_putR (pc := 25) (n := 132) (rf := rfP 127) (rf' := rfP 128) hI X9 okX8 4 rfl rfl rfl wF_X8_18 ⟨(Nat.le_of_ble_eq_true rfl), rfl⟩ (fun _ => ⟨rfl, rfl⟩) (rfP_s rfl rfl) dX8_init_25 ?_
  refine a_aload_n (pc := 28) X9 dX8_init_28 rfl rfl ?_
  refine a_iconst (pc := 29) X9 dX8_init_29 ?_
  refine a_newarr (atype := .int) (pc := 30) (n := 132) (N := 3) (t := 0) (rf := rfP 128) X9 hR (Nat.le_of_ble_eq_true rfl) rfl (fun C h => by cases h) w_arrayClass__int rfl rfl (rfP_fw (by decide +kernel)) (Nat.le_of_ble_eq_true rfl) (Nat.le_of_ble_eq_true rfl) rfl rfl (Nat.le_of_ble_eq_true rfl) (Nat.le_of_ble_eq_true rfl) ⟨Nat.le_of_ble_eq_true rfl, Nat.le_of_ble_eq_true rfl⟩ dX8_init_30 ?_
  obtain ⟨G4, eG4⟩ : ∃ Gz, Gz = zG G3 132 := ⟨_, rfl⟩
  have hG4 : GR G4 := by rw [eG4]; exact hG3.zz
  rw [← eG4]
  refine a_putR (pc := 32) (n := 133) (rf := rfP 128) (rf' := rfP 129) hI X9 okX8 6 rfl rfl rfl wF_X8_21 ⟨(Nat.le_of_ble_eq_true rfl), rfl⟩ (fun _ => ⟨rfl, rfl⟩) (rfP_s rfl rfl) dX8_init_32 ?_
  refine a_aload_n (pc := 35) X9 dX8_init_35 rfl rfl ?_
  refine a_bipush (pc := 36) X9 dX8_init_36 rfl ?_
  refine a_newarr (atype := .int) (pc := 38) (n := 133) (N := 30) (t := 0) (rf := rfP 129) X9 hR (Nat.le_of_ble_eq_true rfl) rfl (fun C h => by cases h) w_arrayClass__int rfl rfl (rfP_fw (by decide +kernel)) (Nat.le_of_ble_eq_true rfl) (Nat.le_of_ble_eq_true rfl) rfl rfl (Nat.le_of_ble_eq_true rfl) (Nat.le_of_ble_eq_true rfl) ⟨Nat.le_of_ble_eq_true rfl, Nat.le_of_ble_eq_true rfl⟩ dX8_init_38 ?_
  obtain ⟨G5, eG5⟩ : ∃ Gz, Gz = zG G4 133 := ⟨_, rfl⟩
  have hG5 : GR G5 := by rw [eG5]; exact hG4.zz
  rw [← eG5]
  refine a_putR (pc := 40) (n := 134) (rf := rfP 129) (rf' := rfP 130) hI X9 okX8 7 rfl rfl rfl wF_X8_24 ⟨(Nat.le_of_ble_eq_true rfl), rfl⟩ (fun _ => ⟨rfl, rfl⟩) (rfP_s rfl rfl) dX8_init_40 ?_
  refine a_aload_n (pc := 43) X9 dX8_init_43 rfl rfl ?_
  refine a_bipush (pc := 44) X9 dX8_init_44 rfl ?_
  refine a_newarr (atype := .int) (pc := 46) (n := 134) (N := 12) (t := 0) (rf := rfP 130) X9 hR (Nat.le_of_ble_eq_true rfl) rfl (fun C h => by cases h) w_arrayClass__int rfl rfl (rfP_fw (by decide +kernel)) (Nat.le_of_ble_eq_true rfl) (Nat.le_of_ble_eq_true rfl) rfl rfl (Nat.le_of_ble_eq_true rfl) (Nat.le_of_ble_eq_true rfl) ⟨Nat.le_of_ble_eq_true rfl, Nat.le_of_ble_eq_true rfl⟩ dX8_init_46 ?_
  obtain ⟨G6, eG6⟩ : ∃ Gz, Gz = zG G5 134 := ⟨_, rfl⟩
  have hG6 : GR G6 := by rw [eG6]; exact hG5.zz
  rw [← eG6]
  refine a_putR (pc := 48) (n := 135) (rf := rfP 130) (rf' := rfP 131) hI X9 okX8 9 rfl rfl rfl wF_X8_27 ⟨(Nat.le_of_ble_eq_true rfl), rfl⟩ (fun _ => ⟨rfl, rfl⟩) (rfP_s rfl rfl) dX8_init_48 ?_
  refine a_aload_n (pc := 51) X9 dX8_init_51 rfl rfl ?_
  refine a_bipush (pc := 52) X9 dX8_init_52 rfl ?_
  refine a_newarr (atype := .int) (pc := 54) (n := 135) (N := 12) (t := 0) (rf := rfP 131) X9 hR (Nat.le_of_ble_eq_true rfl) rfl (fun C h => by cases h) w_arrayClass__int rfl rfl (rfP_fw (by decide +kernel)) (Nat.le_of_ble_eq_true rfl) (Nat.le_of_ble_eq_true rfl) rfl rfl (Nat.le_of_ble_eq_true rfl) (Nat.le_of_ble_eq_true rfl) ⟨Nat.le_of_ble_eq_true rfl, Nat.le_of_ble_eq_true rfl⟩ dX8_init_54 ?_
  obtain ⟨G7, eG7⟩ : ∃ Gz, Gz = zG G6 135 := ⟨_, rfl⟩
  have hG7 : GR G7 := by rw [eG7]; exact hG6.zz
  rw [← eG7]
  refine a_putR (pc := 56) (n := 136) (rf := rfP 131) (rf' := rfP 132) hI X9 okX8 10 rfl rfl rfl wF_X8_30 ⟨(Nat.le_of_ble_eq_true rfl), rfl⟩ (fun _ => ⟨rfl, rfl⟩) (rfP_s rfl rfl) dX8_init_56 ?_
  refine a_aload_n (pc := 59) X9 dX8_init_59 rfl rfl ?_
  refine a_bipush (pc := 60) X9 dX8_init_60 rfl ?_
  refine a_newarr (atype := .int) (pc := 62) (n := 136) (N := 12) (t := 0) (rf := rfP 132) X9 hR (Nat.le_of_ble_eq_true rfl) rfl (fun C h => by cases h) w_arrayClass__int rfl rfl (rfP_fw (by decide +kernel)) (Nat.le_of_ble_eq_true rfl) (Nat.le_of_ble_eq_true rfl) rfl rfl (Nat.le_of_ble_eq_true rfl) (Nat.le_of_ble_eq_true rfl) ⟨Nat.le_of_ble_eq_true rfl, Nat.le_of_ble_eq_true rfl⟩ dX8_init_62 ?_
  obtain ⟨G8, eG8⟩ : ∃ Gz, Gz = zG G7 136 := ⟨_, rfl⟩
  have hG8 : GR G8 := by rw [eG8]; exact hG7.zz
  rw [← eG8]
  refine a_putR (pc := 64) (n := 137) (rf := rfP 132) (rf' := rfP 133) hI X9 okX8 11 rfl rfl rfl wF_X8_33 ⟨(Nat.le_of_ble_eq_true rfl), rfl⟩ (fun _ => ⟨rfl, rfl⟩) (rfP_s rfl rfl) dX8_init_64 ?_
  exact a_return (pc := 67) X9 E (Nat.le_of_ble_eq_true rfl) (Nat.le_of_ble_eq_true rfl) dX8_init_67 ⟨rfl, rfl, ⟨(by intro b k hb; rw [eG8, zG_ne (by omega)]; rw [eG7, zG_ne (by omega)]; rw [eG6, zG_ne (by omega)]; rw [eG5, zG_ne (by omega)]; rw [eG4, zG_ne (by omega)]; rw [eG3, zG_ne (by omega)]; rw [eG2, zG_ne (by omega)]; rw [eG1, zG_ne (by omega)]), trivial⟩⟩
set_option maxHeartbeats 4000000 in
set_option maxRecDepth 100000 in
theorem k_X6_init_137 {G : GH} : Mt yX6_init cX6_init 1 none 1 13 2 144 [vr 137] (138, shF, rfP 134) G (fun v S' G' => S' = (140, shF, rfP 136) ∧ v = none ∧ ((∀ b k, b < 137 → G' b k = G b k) ∧ True)) noX := by
  refine Mt.ofI (l0 := [some (vr 137)]) rfl (by decide) (Nat.le_of_ble_eq_true rfl) rfl ?_
  intro κ δ ρ0 X9 hI E hG
  replace X9 : CX κ δ RX6 cX6_init 1 none := X9
  have hR := E.rm
  refine a_aload_n (pc := 0) X9 dX6_init_0 rfl rfl ?_
  refine a_objInit (pc := 1) X9 hR wM_X6_3 (Nat.le_of_ble_eq_true rfl) (Nat.le_of_ble_eq_true rfl) dX6_init_1 ?_
  refine a_aload_n (pc := 4) X9 dX6_init_4 rfl rfl ?_
  refine a_bipush (pc := 5) X9 dX6_init_5 rfl ?_
  refine a_newarr (atype := .int) (pc := 7) (n := 138) (N := 16) (t := 0) (rf := rfP 134) X9 hR (Nat.le_of_ble_eq_true rfl) rfl (fun C h => by cases h) w_arrayClass__int rfl rfl (rfP_fw (by decide +kernel)) (Nat.le_of_ble_eq_true rfl) (Nat.le_of_ble_eq_true rfl) rfl rfl (Nat.le_of_ble_eq_true rfl) (Nat.le_of_ble_eq_true rfl) ⟨Nat.le_of_ble_eq_true rfl, Nat.le_of_ble_eq_true rfl⟩ dX6_init_7 ?_
  obtain ⟨G1, eG1⟩ : ∃ Gz, Gz = zG G 138 := ⟨_, rfl⟩
  have hG1 : GR G1 := by rw [eG1]; exact hG.zz
  rw [← eG1]
  refine a_putR (pc := 9) (n := 139) (rf := rfP 134) (rf' := rfP 135) hI X9 okX6 1 rfl rfl rfl wF_X6_9 ⟨(Nat.le_of_ble_eq_true rfl), rfl⟩ (fun _ => ⟨rfl, rfl⟩) (rfP_s rfl rfl) dX6_init_9 ?_
  refine a_aload_n (pc := 12) X9 dX6_init_12 rfl rfl ?_
  refine a_sipush (pc := 13) X9 dX6_init_13 rfl ?_
  refine a_newarr (atype := .int) (pc := 16) (n := 139) (N := 128) (t := 0) (rf := rfP 135) X9 hR (Nat.le_of_ble_eq_true rfl) rfl (fun C h => by cases h) w_arrayClass__int rfl rfl (rfP_fw (by decide +kernel)) (Nat.le_of_ble_eq_true rfl) (Nat.le_of_ble_eq_true rfl) rfl rfl (Nat.le_of_ble_eq_true rfl) (Nat.le_of_ble_eq_true rfl) ⟨Nat.le_of_ble_eq_true rfl, Nat.le_of_ble_eq_true rfl⟩ dX6_init_16 ?_
  obtain ⟨G2, eG2⟩ : ∃ Gz, Gz = zG G1 139 := ⟨_, rfl⟩
  have hG2 : GR G2 := by rw [eG2]; exact hG1.zz
  rw [← eG2]
  refine a_putR (pc := 18) (n := 140) (rf := rfP 135) (rf' := rfP 136) hI X9 okX6 2 rfl rfl rfl wF_X6_15 ⟨(Nat.le_of_ble_eq_true rfl), rfl⟩ (fun _ => ⟨rfl, rfl⟩) (rfP_s rfl rfl) dX6_init_18 ?_
  exact a_return (pc := 21) X9 E (Nat.le_of_ble_eq_true rfl) (Nat.le_of_ble_eq_true rfl) dX6_init_21 ⟨rfl, rfl, ⟨(by intro b k hb; rw [eG2, zG_ne (by omega)]; rw [eG1, zG_ne (by omega)]), trivial⟩⟩
set_option maxHeartbeats 4000000 in
set_option maxRecDepth 100000 in
theorem k_X0_init_140 {G : GH} : Mt yX0_init cX0_init 1 none 1 13 5 222 [vr 140] (141, shF, rfP 137) G (fun v S' G' => S' = (146, shF, rfP 142) ∧ v = none ∧ ((∀ b k, b < 140 → G' b k = G b k) ∧ True)) noX := by
  refine Mt.ofI (l0 := [some (vr 140)]) rfl (by decide) (Nat.le_of_ble_eq_true rfl) rfl ?_
  intro κ δ ρ0 X9 hI E hG
  replace X9 : CX κ δ RX0 cX0_init 1 none := X9
  have hR := E.rm
  refine a_aload_n (pc := 0) X9 dX0_init_0 rfl rfl ?_
  refine a_objInit (pc := 1) X9 hR wM_X0_3 (Nat.le_of_ble_eq_true rfl) (Nat.le_of_ble_eq_true rfl) dX0_init_1 ?_
  refine a_aload_n (pc := 4) X9 dX0_init_4 rfl rfl ?_
  refine a_iconst (pc := 5) X9 dX0_init_5 ?_
  refine a_putI (pc := 6) X9 okX0 0 rfl rfl wF_X0_9 ⟨(Nat.le_of_ble_eq_true rfl), rfl⟩ dX0_init_6 (by decide) (fit_int _) (fun _ => ?_)
  obtain ⟨G1, eG1⟩ : ∃ Gz, Gz = upG G 140 0 (-1) := ⟨_, rfl⟩
  have hG1 : GR G1 := by rw [eG1]; exact GR.up hG (by decide)
  rw [← eG1]
  refine a_aload_n (pc := 9) X9 dX0_init_9 rfl rfl ?_
  refine a_bipush (pc := 10) X9 dX0_init_10 rfl ?_
  refine a_newarr (atype := .int) (pc := 12) (n := 141) (N := 18) (t := 0) (rf := rfP 137) X9 hR (Nat.le_of_ble_eq_true rfl) rfl (fun C h => by cases h) w_arrayClass__int rfl rfl (rfP_fw (by decide +kernel)) (Nat.le_of_ble_eq_true rfl) (Nat.le_of_ble_eq_true rfl) rfl rfl (Nat.le_of_ble_eq_true rfl) (Nat.le_of_ble_eq_true rfl) ⟨Nat.le_of_ble_eq_true rfl, Nat.le_of_ble_eq_true rfl⟩ dX0_init_12 ?_
  obtain ⟨G2, eG2⟩ : ∃ Gz, Gz = zG G1 141 := ⟨_, rfl⟩
  have hG2 : GR G2 := by rw [eG2]; exact hG1.zz
  rw [← eG2]
  refine a_putR (pc := 14) (n := 142) (rf := rfP 137) (rf' := rfP 138) hI X9 okX0 1 rfl rfl rfl wF_X0_15 ⟨(Nat.le_of_ble_eq_true rfl), rfl⟩ (fun _ => ⟨rfl, rfl⟩) (rfP_s rfl rfl) dX0_init_14 ?_
  refine a_aload_n (pc := 17) X9 dX0_init_17 rfl rfl ?_
  refine a_bipush (pc := 18) X9 dX0_init_18 rfl ?_
  refine a_newarr (atype := .int) (pc := 20) (n := 142) (N := 54) (t := 0) (rf := rfP 138) X9 hR (Nat.le_of_ble_eq_true rfl) rfl (fun C h => by cases h) w_arrayClass__int rfl rfl (rfP_fw (by decide +kernel)) (Nat.le_of_ble_eq_true rfl) (Nat.le_of_ble_eq_true rfl) rfl rfl (Nat.le_of_ble_eq_true rfl) (Nat.le_of_ble_eq_true rfl) ⟨Nat.le_of_ble_eq_true rfl, Nat.le_of_ble_eq_true rfl⟩ dX0_init_20 ?_
  obtain ⟨G3, eG3⟩ : ∃ Gz, Gz = zG G2 142 := ⟨_, rfl⟩
  have hG3 : GR G3 := by rw [eG3]; exact hG2.zz
  rw [← eG3]
  refine a_putR (pc := 22) (n := 143) (rf := rfP 138) (rf' := rfP 139) hI X9 okX0 2 rfl rfl rfl wF_X0_19 ⟨(Nat.le_of_ble_eq_true rfl), rfl⟩ (fun _ => ⟨rfl, rfl⟩) (rfP_s rfl rfl) dX0_init_22 ?_
  refine a_aload_n (pc := 25) X9 dX0_init_25 rfl rfl ?_
  refine a_bipush (pc := 26) X9 dX0_init_26 rfl ?_
  refine a_newarr (atype := .int) (pc := 28) (n := 143) (N := 54) (t := 0) (rf := rfP 139) X9 hR (Nat.le_of_ble_eq_true rfl) rfl (fun C h => by cases h) w_arrayClass__int rfl rfl (rfP_fw (by decide +kernel)) (Nat.le_of_ble_eq_true rfl) (Nat.le_of_ble_eq_true rfl) rfl rfl (Nat.le_of_ble_eq_true rfl) (Nat.le_of_ble_eq_true rfl) ⟨Nat.le_of_ble_eq_true rfl, Nat.le_of_ble_eq_true rfl⟩ dX0_init_28 ?_
  obtain ⟨G4, eG4⟩ : ∃ Gz, Gz = zG G3 143 := ⟨_, rfl⟩
  have hG4 : GR G4 := by rw [eG4]; exact hG3.zz
  rw [← eG4]
  refine a_putR (pc := 30) (n := 144) (rf := rfP 139) (rf' := rfP 140) hI X9 okX0 3 rfl rfl rfl wF_X0_22 ⟨(Nat.le_of_ble_eq_true rfl), rfl⟩ (fun _ => ⟨rfl, rfl⟩) (rfP_s rfl rfl) dX0_init_30 ?_
  refine a_aload_n (pc := 33) X9 dX0_init_33 rfl rfl ?_
  refine a_bipush (pc := 34) X9 dX0_init_34 rfl ?_
  refine a_newarr (atype := .int) (pc := 36) (n := 144) (N := 54) (t := 0) (rf := rfP 140) X9 hR (Nat.le_of_ble_eq_true rfl) rfl (fun C h => by cases h) w_arrayClass__int rfl rfl (rfP_fw (by decide +kernel)) (Nat.le_of_ble_eq_true rfl) (Nat.le_of_ble_eq_true rfl) rfl rfl (Nat.le_of_ble_eq_true rfl) (Nat.le_of_ble_eq_true rfl) ⟨Nat.le_of_ble_eq_true rfl, Nat.le_of_ble_eq_true rfl⟩ dX0_init_36 ?_
  obtain ⟨G5, eG5⟩ : ∃ Gz, Gz = zG G4 144 := ⟨_, rfl⟩
  have hG5 : GR G5 := by rw [eG5]; exact hG4.zz
  rw [← eG5]
  refine a_putR (pc := 38) (n := 145) (rf := rfP 140) (rf' := rfP 141) hI X9 okX0 4 rfl rfl rfl wF_X0_25 ⟨(Nat.le_of_ble_eq_true rfl), rfl⟩ (fun _ => ⟨rfl, rfl⟩) (rfP_s rfl rfl) dX0_init_38 ?_
  refine a_aload_n (pc := 41) X9 dX0_init_41 rfl rfl ?_
  refine a_bipush (pc := 42) X9 dX0_init_42 rfl ?_
  refine a_newarr (atype := .int) (pc := 44) (n := 145) (N := 42) (t := 0) (rf := rfP 141) X9 hR (Nat.le_of_ble_eq_true rfl) rfl (fun C h => by cases h) w_arrayClass__int rfl rfl (rfP_fw (by decide +kernel)) (Nat.le_of_ble_eq_true rfl) (Nat.le_of_ble_eq_true rfl) rfl rfl (Nat.le_of_ble_eq_true rfl) (Nat.le_of_ble_eq_true rfl) ⟨Nat.le_of_ble_eq_true rfl, Nat.le_of_ble_eq_true rfl⟩ dX0_init_44 ?_
  obtain ⟨G6, eG6⟩ : ∃ Gz, Gz = zG G5 145 := ⟨_, rfl⟩
  have hG6 : GR G6 := by rw [eG6]; exact hG5.zz
  rw [← eG6]
  refine a_putR (pc := 46) (n := 146) (rf := rfP 141) (rf' := rfP 142) hI X9 okX0 5 rfl rfl rfl wF_X0_28 ⟨(Nat.le_of_ble_eq_true rfl), rfl⟩ (fun _ => ⟨rfl, rfl⟩) (rfP_s rfl rfl) dX0_init_46 ?_
  exact a_return (pc := 49) X9 E (Nat.le_of_ble_eq_true rfl) (Nat.le_of_ble_eq_true rfl) dX0_init_49 ⟨rfl, rfl, ⟨(by intro b k hb; rw [eG6, zG_ne (by omega)]; rw [eG5, zG_ne (by omega)]; rw [eG4, zG_ne (by omega)]; rw [eG3, zG_ne (by omega)]; rw [eG2, zG_ne (by omega)]; rw [eG1, upG_na (by omega)]), trivial⟩⟩
set_option maxHeartbeats 4000000 in
set_option maxRecDepth 100000 in
theorem k_X7_init_126 {G : GH} : Mt yX7_init cX7_init 1 none 2 33 19 525 [vr 126] (127, shF, rfP 124) G (fun v S' G' => S' = (146, shF, rfP 143) ∧ v = none ∧ ((∀ b k, b < 126 → G' b k = G b k) ∧ True)) noX := by
  refine Mt.ofI (l0 := [some (vr 126)]) rfl (by decide) (Nat.le_of_ble_eq_true rfl) rfl ?_
  intro κ δ ρ0 X9 hI E hG
  replace X9 : CX κ δ RX7 cX7_init 1 none := X9
  have hR := E.rm
  refine a_aload_n (pc := 0) X9 dX7_init_0 rfl rfl ?_
  refine a_objInit (pc := 1) X9 hR wM_X7_3 (Nat.le_of_ble_eq_true rfl) (Nat.le_of_ble_eq_true rfl) dX7_init_1 ?_
  refine a_aload_n (pc := 4) X9 dX7_init_4 rfl rfl ?_
  refine a_iconst (pc := 5) X9 dX7_init_5 ?_
  refine a_newarr (atype := .int) (pc := 6) (n := 127) (N := 3) (t := 0) (rf := rfP 124) X9 hR (Nat.le_of_ble_eq_true rfl) rfl (fun C h => by cases h) w_arrayClass__int rfl rfl (rfP_fw (by decide +kernel)) (Nat.le_of_ble_eq_true rfl) (Nat.le_of_ble_eq_true rfl) rfl rfl (Nat.le_of_ble_eq_true rfl) (Nat.le_of_ble_eq_true rfl) ⟨Nat.le_of_ble_eq_true rfl, Nat.le_of_ble_eq_true rfl⟩ dX7_init_6 ?_
  obtain ⟨G1, eG1⟩ : ∃ Gz, Gz = zG G 127 := ⟨_, rfl⟩
  have hG1 : GR G1 := by rw [eG1]; exact hG.zz
  rw [← eG1]
  refine a_putR (pc := 8) (n := 128) (rf := rfP 124) (rf' := rfP 125) hI X9 okX7 1 rfl rfl rfl wF_X7_9 ⟨(Nat.le_of_ble_eq_true rfl), rfl⟩ (fun _ => ⟨rfl, rfl⟩) (rfP_s rfl rfl) dX7_init_8 ?_
  refine a_aload_n (pc := 11) X9 dX7_init_11 rfl rfl ?_
  refine a_new (pc := 12) (n := 128) (rf := rfP 125) X9 hR okX8 wC_X7_15 w_instantiable_RX8 w_initialized_RX8 fv_X8 rfl (rfP_none (by decide +kernel)) (rfP_fw (by decide +kernel)) (Nat.le_of_ble_eq_true rfl) (Nat.le_of_ble_eq_true rfl) rfl rfl ⟨Nat.le_of_ble_eq_true rfl, Nat.le_of_ble_eq_true rfl⟩ dX7_init_12 ?_
  obtain ⟨G2, eG2⟩ : ∃ Gz, Gz = zG G1 128 := ⟨_, rfl⟩
  have hG2 : GR G2 := by rw [eG2]; exact hG1.zz
  rw [← eG2]
  refine a_dup (pc := 15) X9 dX7_init_15 rfl ?_
  refine a_callIN (pc := 16) X9 hR (k_X8_init_128 (G := G2)) (Nat.le_of_ble_eq_true rfl) rfl rfl (Nat.le_of_ble_eq_true rfl) nx_X7_17 w_instanceMethod_X8_init w_initialized_RX8 w_code_X8_init cpN_X8 pnN_X8 rfl (Nat.le_of_ble_eq_true rfl) ⟨Nat.le_of_ble_eq_true rfl, Nat.le_of_ble_eq_true rfl⟩ ⟨Nat.le_of_ble_eq_true rfl, Nat.le_of_ble_eq_true rfl⟩ dX7_init_16 (fun G3 pG3 hG3 => ?_)
  refine a_putR (pc := 19) (n := 137) (rf := rfP 133) (rf' := rfP 134) hI X9 okX7 3 rfl rfl rfl wF_X7_18 ⟨(Nat.le_of_ble_eq_true rfl), rfl⟩ (fun _ => ⟨rfl, rfl⟩) (rfP_s rfl rfl) dX7_init_19 ?_
  refine a_aload_n (pc := 22) X9 dX7_init_22 rfl rfl ?_
  refine a_new (pc := 23) (n := 137) (rf := rfP 134) X9 hR okX6 wC_X7_22 w_instantiable_RX6 w_initialized_RX6 fv_X6 rfl (rfP_none (by decide +kernel)) (rfP_fw (by decide +kernel)) (Nat.le_of_ble_eq_true rfl) (Nat.le_of_ble_eq_true rfl) rfl rfl ⟨Nat.le_of_ble_eq_true rfl, Nat.le_of_ble_eq_true rfl⟩ dX7_init_23 ?_
  obtain ⟨G4, eG4⟩ : ∃ Gz, Gz = zG G3 137 := ⟨_, rfl⟩
  have hG4 : GR G4 := by rw [eG4]; exact hG3.zz
  rw [← eG4]
  refine a_dup (pc := 26) X9 dX7_init_26 rfl ?_
  refine a_callIN (pc := 27) X9 hR (k_X6_init_137 (G := G4)) (Nat.le_of_ble_eq_true rfl) rfl rfl (Nat.le_of_ble_eq_true rfl) nx_X7_24 w_instanceMethod_X6_init w_initialized_RX6 w_code_X6_init cpN_X6 pnN_X6 rfl (Nat.le_of_ble_eq_true rfl) ⟨Nat.le_of_ble_eq_true rfl, Nat.le_of_ble_eq_true rfl⟩ ⟨Nat.le_of_ble_eq_true rfl, Nat.le_of_ble_eq_true rfl⟩ dX7_init_27 (fun G5 pG5 hG5 => ?_)
  refine a_putR (pc := 30) (n := 140) (rf := rfP 136) (rf' := rfP 137) hI X9 okX7 4 rfl rfl rfl wF_X7_25 ⟨(Nat.le_of_ble_eq_true rfl), rfl⟩ (fun _ => ⟨rfl, rfl⟩) (rfP_s rfl rfl) dX7_init_30 ?_
  refine a_aload_n (pc := 33) X9 dX7_init_33 rfl rfl ?_
  refine a_new (pc := 34) (n := 140) (rf := rfP 137) X9 hR okX0 wC_X7_29 w_instantiable_RX0 w_initialized_RX0 fv_X0 rfl (rfP_none (by decide +kernel)) (rfP_fw (by decide +kernel)) (Nat.le_of_ble_eq_true rfl) (Nat.le_of_ble_eq_true rfl) rfl rfl ⟨Nat.le_of_ble_eq_true rfl, Nat.le_of_ble_eq_true rfl⟩ dX7_init_34 ?_
  obtain ⟨G6, eG6⟩ : ∃ Gz, Gz = zG G5 140 := ⟨_, rfl⟩
  have hG6 : GR G6 := by rw [eG6]; exact hG5.zz
  rw [← eG6]
  refine a_dup (pc := 37) X9 dX7_init_37 rfl ?_
  refine a_callIN (pc := 38) X9 hR (k_X0_init_140 (G := G6)) (Nat.le_of_ble_eq_true rfl) rfl rfl (Nat.le_of_ble_eq_true rfl) nx_X7_31 w_instanceMethod_X0_init w_initialized_RX0 w_code_X0_init cpN_X0 pnN_X0 rfl (Nat.le_of_ble_eq_true rfl) ⟨Nat.le_of_ble_eq_true rfl, Nat.le_of_ble_eq_true rfl⟩ ⟨Nat.le_of_ble_eq_true rfl, Nat.le_of_ble_eq_true rfl⟩ dX7_init_38 (fun G7 pG7 hG7 => ?_)
  refine a_putR (pc := 41) (n := 146) (rf := rfP 142) (rf' := rfP 143) hI X9 okX7 5 rfl rfl rfl wF_X7_32 ⟨(Nat.le_of_ble_eq_true rfl), rfl⟩ (fun _ => ⟨rfl, rfl⟩) (rfP_s rfl rfl) dX7_init_41 ?_
  exact a_return (pc := 44) X9 E (Nat.le_of_ble_eq_true rfl) (Nat.le_of_ble_eq_true rfl) dX7_init_44 ⟨rfl, rfl, ⟨(by intro b k hb; rw [pG7.1 b k (by omega)]; rw [eG6, zG_ne (by omega)]; rw [pG5.1 b k (by omega)]; rw [eG4, zG_ne (by omega)]; rw [pG3.1 b k (by omega)]; rw [eG2, zG_ne (by omega)]; rw [eG1, zG_ne (by omega)]), trivial⟩⟩
set_option maxHeartbeats 4000000 in
set_option maxRecDepth 100000 in
theorem k_X8_init_148 {G : GH} : Mt yX8_init cX8_init 1 none 1 13 8 135 [vr 148] (149, shF, rfP 145) G (fun v S' G' => S' = (157, shF, rfP 153) ∧ v = none ∧ ((∀ b k, b < 148 → G' b k = G b k) ∧ True)) noX := by
  refine Mt.ofI (l0 := [some (vr 148)]) rfl (by decide) (Nat.le_of_ble_eq_true rfl) rfl ?_
  intro κ δ ρ0 X9 hI E hG
  replace X9 : CX κ δ RX8 cX8_init 1 none := X9
  have hR := E.rm
  refine a_aload_n (pc := 0) X9 dX8_init_0 rfl rfl ?_
  refine a_objInit (pc := 1) X9 hR wM_X8_3 (Nat.le_of_ble_eq_true rfl) (Nat.le_of_ble_eq_true rfl) dX8_init_1 ?_
  refine a_aload_n (pc := 4) X9 dX8_init_4 rfl rfl ?_
  refine a_bipush (pc := 5) X9 dX8_init_5 rfl ?_
  refine a_newarr (atype := .int) (pc := 7) (n := 149) (N := 12) (t := 0) (rf := rfP 145) X9 hR (Nat.le_of_ble_eq_true rfl) rfl (fun C h => by cases h) w_arrayClass__int rfl rfl (rfP_fw (by decide +kernel)) (Nat.le_of_ble_eq_true rfl) (Nat.le_of_ble_eq_true rfl) rfl rfl (Nat.le_of_ble_eq_true rfl) (Nat.le_of_ble_eq_true rfl) ⟨Nat.le_of_ble_eq_true rfl, Nat.le_of_ble_eq_true rfl⟩ dX8_init_7 ?_
  obtain ⟨G1, eG1⟩ : ∃ Gz, Gz = zG G 149 := ⟨_, rfl⟩
  have hG1 : GR G1 := by rw [eG1]; exact hG.zz
  rw [← eG1]
  refine a_putR (pc := 9) (n := 150) (rf := rfP 145) (rf' := rfP 146) hI X9 okX8 2 rfl rfl rfl wF_X8_9 ⟨(Nat.le_of_ble_eq_true rfl), rfl⟩ (fun _ => ⟨rfl, rfl⟩) (rfP_s rfl rfl) dX8_init_9 ?_
  refine a_aload_n (pc := 12) X9 dX8_init_12 rfl rfl ?_
  refine a_bipush (pc := 13) X9 dX8_init_13 rfl ?_
  refine a_newarr (atype := .int) (pc := 15) (n := 150) (N := 12) (t := 0) (rf := rfP 146) X9 hR (Nat.le_of_ble_eq_true rfl) rfl (fun C h => by cases h) w_arrayClass__int rfl rfl (rfP_fw (by decide +kernel)) (Nat.le_of_ble_eq_true rfl) (Nat.le_of_ble_eq_true rfl) rfl rfl (Nat.le_of_ble_eq_true rfl) (Nat.le_of_ble_eq_true rfl) ⟨Nat.le_of_ble_eq_true rfl, Nat.le_of_ble_eq_true rfl⟩ dX8_init_15 ?_
  obtain ⟨G2, eG2⟩ : ∃ Gz, Gz = zG G1 150 := ⟨_, rfl⟩
  have hG2 : GR G2 := by rw [eG2]; exact hG1.zz
  rw [← eG2]
  refine a_putR (pc := 17) (n := 151) (rf := rfP 146) (rf' := rfP 147) hI X9 okX8 3 rfl rfl rfl wF_X8_15 ⟨(Nat.le_of_ble_eq_true rfl), rfl⟩ (fun _ => ⟨rfl, rfl⟩) (rfP_s rfl rfl) dX8_init_17 ?_
  refine a_aload_n (pc := 20) X9 dX8_init_20 rfl rfl ?_
  refine a_bipush (pc := 21) X9 dX8_init_21 rfl ?_
  refine a_newarr (atype := .int) (pc := 23) (n := 151) (N := 42) (t := 0) (rf := rfP 147) X9 hR (Nat.le_of_ble_eq_true rfl) rfl (fun C h => by cases h) w_arrayClass__int rfl rfl (rfP_fw (by decide +kernel)) (Nat.le_of_ble_eq_true rfl) (Nat.le_of_ble_eq_true rfl) rfl rfl (Nat.le_of_ble_eq_true rfl) (Nat.le_of_ble_eq_true rfl) ⟨Nat.le_of_ble_eq_true rfl, Nat.le_of_ble_eq_true rfl⟩ dX8_init_23 ?_
  obtain ⟨G3, eG3⟩ : ∃ Gz, Gz = zG G2 151 := ⟨_, rfl⟩
  have hG3 : GR G3 := by rw [eG3]; exact hG2.zz
  rw [← eG3]
  refine a_putR (pc := 25) (n := 152) (rf := rfP 147) (rf' := rfP 148) hI X9 okX8 4 rfl rfl rfl wF_X8_18 ⟨(Nat.le_of_ble_eq_true rfl), rfl⟩ (fun _ => ⟨rfl, rfl⟩) (rfP_s rfl rfl) dX8_init_25 ?_
  refine a_aload_n (pc := 28) X9 dX8_init_28 rfl rfl ?_
  refine a_iconst (pc := 29) X9 dX8_init_29 ?_
  refine a_newarr (atype := .int) (pc := 30) (n := 152) (N := 3) (t := 0) (rf := rfP 148) X9 hR (Nat.le_of_ble_eq_true rfl) rfl (fun C h => by cases h) w_arrayClass__int rfl rfl (rfP_fw (by decide +kernel)) (Nat.le_of_ble_eq_true rfl) (Nat.le_of_ble_eq_true rfl) rfl rfl (Nat.le_of_ble_eq_true rfl) (Nat.le_of_ble_eq_true rfl) ⟨Nat.le_of_ble_eq_true rfl, Nat.le_of_ble_eq_true rfl⟩ dX8_init_30 ?_
  obtain ⟨G4, eG4⟩ : ∃ Gz, Gz = zG G3 152 := ⟨_, rfl⟩
  have hG4 : GR G4 := by rw [eG4]; exact hG3.zz
  rw [← eG4]
  refine a_putR (pc := 32) (n := 153) (rf := rfP 148) (rf' := rfP 149) hI X9 okX8 6 rfl rfl rfl wF_X8_21 ⟨(Nat.le_of_ble_eq_true rfl), rfl⟩ (fun _ => ⟨rfl, rfl⟩) (rfP_s rfl rfl) dX8_init_32 ?_
  refine a_aload_n (pc := 35) X9 dX8_init_35 rfl rfl ?_
  refine a_bipush (pc := 36) X9 dX8_init_36 rfl ?_
  refine a_newarr (atype := .int) (pc := 38) (n := 153) (N := 30) (t := 0) (rf := rfP 149) X9 hR (Nat.le_of_ble_eq_true rfl) rfl (fun C h => by cases h) w_arrayClass__int rfl rfl (rfP_fw (by decide +kernel)) (Nat.le_of_ble_eq_true rfl) (Nat.le_of_ble_eq_true rfl) rfl rfl (Nat.le_of_ble_eq_true rfl) (Nat.le_of_ble_eq_true rfl) ⟨Nat.le_of_ble_eq_true rfl, Nat.le_of_ble_eq_true rfl⟩ dX8_init_38 ?_
  obtain ⟨G5, eG5⟩ : ∃ Gz, Gz = zG G4 153 := ⟨_, rfl⟩
  have hG5 : GR G5 := by rw [eG5]; exact hG4.zz
  rw [← eG5]
  refine a_putR (pc := 40) (n := 154) (rf := rfP 149) (rf' := rfP 150) hI X9 okX8 7 rfl rfl rfl wF_X8_24 ⟨(Nat.le_of_ble_eq_true rfl), rfl⟩ (fun _ => ⟨rfl, rfl⟩) (rfP_s rfl rfl) dX8_init_40 ?_
  refine a_aload_n (pc := 43) X9 dX8_init_43 rfl rfl ?_
  refine a_bipush (pc := 44) X9 dX8_init_44 rfl ?_
  refine a_newarr (atype := .int) (pc := 46) (n := 154) (N := 12) (t := 0) (rf := rfP 150) X9 hR (Nat.le_of_ble_eq_true rfl) rfl (fun C h => by cases h) w_arrayClass__int rfl rfl (rfP_fw (by decide +kernel)) (Nat.le_of_ble_eq_true rfl) (Nat.le_of_ble_eq_true rfl) rfl rfl (Nat.le_of_ble_eq_true rfl) (Nat.le_of_ble_eq_true rfl) ⟨Nat.le_of_ble_eq_true rfl, Nat.le_of_ble_eq_true rfl⟩ dX8_init_46 ?_
  obtain ⟨G6, eG6⟩ : ∃ Gz, Gz = zG G5 154 := ⟨_, rfl⟩
  have hG6 : GR G6 := by rw [eG6]; exact hG5.zz
  rw [← eG6]
  refine a_putR (pc := 48) (n := 155) (rf := rfP 150) (rf' := rfP 151) hI X9 okX8 9 rfl rfl rfl wF_X8_27 ⟨(Nat.le_of_ble_eq_true rfl), rfl⟩ (fun _ => ⟨rfl, rfl⟩) (rfP_s rfl rfl) dX8_init_48 ?_
  refine a_aload_n (pc := 51) X9 dX8_init_51 rfl rfl ?_
  refine a_bipush (pc := 52) X9 dX8_init_52 rfl ?_
  refine a_newarr (atype := .int) (pc := 54) (n := 155) (N := 12) (t := 0) (rf := rfP 151) X9 hR (Nat.le_of_ble_eq_true rfl) rfl (fun C h => by cases h) w_arrayClass__int rfl rfl (rfP_fw (by decide +kernel)) (Nat.le_of_ble_eq_true rfl) (Nat.le_of_ble_eq_true rfl) rfl rfl (Nat.le_of_ble_eq_true rfl) (Nat.le_of_ble_eq_true rfl) ⟨Nat.le_of_ble_eq_true rfl, Nat.le_of_ble_eq_true rfl⟩ dX8_init_54 ?_
  obtain ⟨G7, eG7⟩ : ∃ Gz, Gz = zG G6 155 := ⟨_, rfl⟩
  have hG7 : GR G7 := by rw [eG7]; exact hG6.zz
  rw [← eG7]
  refine a_putR (pc := 56) (n := 156) (rf := rfP 151) (rf' := rfP 152) hI X9 okX8 10 rfl rfl rfl wF_X8_30 ⟨(Nat.le_of_ble_eq_true rfl), rfl⟩ (fun _ => ⟨rfl, rfl⟩) (rfP_s rfl rfl) dX8_init_56 ?_
  refine a_aload_n (pc := 59) X9 dX8_init_59 rfl rfl ?_
  refine a_bipush (pc := 60) X9 dX8_init_60 rfl ?_
  refine a_newarr (atype := .int) (pc := 62) (n := 156) (N := 12) (t := 0) (rf := rfP 152) X9 hR (Nat.le_of_ble_eq_true rfl) rfl (fun C h => by cases h) w_arrayClass__int rfl rfl (rfP_fw (by decide +kernel)) (Nat.le_of_ble_eq_true rfl) (Nat.le_of_ble_eq_true rfl) rfl rfl (Nat.le_of_ble_eq_true rfl) (Nat.le_of_ble_eq_true rfl) ⟨Nat.le_of_ble_eq_true rfl, Nat.le_of_ble_eq_true rfl⟩ dX8_init_62 ?_
  obtain ⟨G8, eG8⟩ : ∃ Gz, Gz = zG G7 156 := ⟨_, rfl⟩
  have hG8 : GR G8 := by rw [eG8]; exact hG7.zz
  rw [← eG8]
  refine a_putR (pc := 64) (n := 157) (rf := rfP 152) (rf' := rfP 153) hI X9 okX8 11 rfl rfl rfl wF_X8_33 ⟨(Nat.le_of_ble_eq_true rfl), rfl⟩ (fun _ => ⟨rfl, rfl⟩) (rfP_s rfl rfl) dX8_init_64 ?_
  exact a_return (pc := 67) X9 E (Nat.le_of_ble_eq_true rfl) (Nat.le_of_ble_eq_true rfl) dX8_init_67 ⟨rfl, rfl, ⟨(by intro b k hb; rw [eG8, zG_ne (by omega)]; rw [eG7, zG_ne (by omega)]; rw [eG6, zG_ne (by omega)]; rw [eG5, zG_ne (by omega)]; rw [eG4, zG_ne (by omega)]; rw [eG3, zG_ne (by omega)]; rw [eG2, zG_ne (by omega)]; rw [eG1, zG_ne (by omega)]), trivial⟩⟩
set_option maxHeartbeats 4000000 in
set_option maxRecDepth 100000 in
theorem k_X6_init_157 {G : GH} : Mt yX6_init cX6_init 1 none 1 13 2 144 [vr 157] (158, shF, rfP 154) G (fun v S' G' => S' = (160, shF, rfP 156) ∧ v = none ∧ ((∀ b k, b < 157 → G' b k = G b k) ∧ True)) noX := by
  refine Mt.ofI (l0 := [some (vr 157)]) rfl (by decide) (Nat.le_of_ble_eq_true rfl) rfl ?_
  intro κ δ ρ0 X9 hI E hG
  replace X9 : CX κ δ RX6 cX6_init 1 none := X9
  have hR := E.rm
  refine a_aload_n (pc := 0) X9 dX6_init_0 rfl rfl ?_
  refine a_objInit (pc := 1) X9 hR wM_X6_3 (Nat.le_of_ble_eq_true rfl) (Nat.le_of_ble_eq_true rfl) dX6_init_1 ?_
  refine a_aload_n (pc := 4) X9 dX6_init_4 rfl rfl ?_
  refine a_bipush (pc := 5) X9 dX6_init_5 rfl ?_
  refine a_newarr (atype := .int) (pc := 7) (n := 158) (N := 16) (t := 0) (rf := rfP 154) X9 hR (Nat.le_of_ble_eq_true rfl) rfl (fun C h => by cases h) w_arrayClass__int rfl rfl (rfP_fw (by decide +kernel)) (Nat.le_of_ble_eq_true rfl) (Nat.le_of_ble_eq_true rfl) rfl rfl (Nat.le_of_ble_eq_true rfl) (Nat.le_of_ble_eq_true rfl) ⟨Nat.le_of_ble_eq_true rfl, Nat.le_of_ble_eq_true rfl⟩ dX6_init_7 ?_
  obtain ⟨G1, eG1⟩ : ∃ Gz, Gz = zG G 158 := ⟨_, rfl⟩
  have hG1 : GR G1 := by rw [eG1]; exact hG.zz
  rw [← eG1]
  refine a_putR (pc := 9) (n := 159) (rf := rfP 154) (rf' := rfP 155) hI X9 okX6 1 rfl rfl rfl wF_X6_9 ⟨(Nat.le_of_ble_eq_true rfl), rfl⟩ (fun _ => ⟨rfl, rfl⟩) (rfP_s rfl rfl) dX6_init_9 ?_
  refine a_aload_n (pc := 12) X9 dX6_init_12 rfl rfl ?_
  refine a_sipush (pc := 13) X9 dX6_init_13 rfl ?_
  refine a_newarr (atype := .int) (pc := 16) (n := 159) (N := 128) (t := 0) (rf := rfP 155) X9 hR (Nat.le_of_ble_eq_true rfl) rfl (fun C h => by cases h) w_arrayClass__int rfl rfl (rfP_fw (by decide +kernel)) (Nat.le_of_ble_eq_true rfl) (Nat.le_of_ble_eq_true rfl) rfl rfl (Nat.le_of_ble_eq_true rfl) (Nat.le_of_ble_eq_true rfl) ⟨Nat.le_of_ble_eq_true rfl, Nat.le_of_ble_eq_true rfl⟩ dX6_init_16 ?_
  obtain ⟨G2, eG2⟩ : ∃ Gz, Gz = zG G1 159 := ⟨_, rfl⟩
  have hG2 : GR G2 := by rw [eG2]; exact hG1.zz
  rw [← eG2]
  refine a_putR (pc := 18) (n := 160) (rf := rfP 155) (rf' := rfP 156) hI X9 okX6 2 rfl rfl rfl wF_X6_15 ⟨(Nat.le_of_ble_eq_true rfl), rfl⟩ (fun _ => ⟨rfl, rfl⟩) (rfP_s rfl rfl) dX6_init_18 ?_
  exact a_return (pc := 21) X9 E (Nat.le_of_ble_eq_true rfl) (Nat.le_of_ble_eq_true rfl) dX6_init_21 ⟨rfl, rfl, ⟨(by intro b k hb; rw [eG2, zG_ne (by omega)]; rw [eG1, zG_ne (by omega)]), trivial⟩⟩
set_option maxHeartbeats 4000000 in
set_option maxRecDepth 100000 in
theorem k_X0_init_160 {G : GH} : Mt yX0_init cX0_init 1 none 1 13 5 222 [vr 160] (161, shF, rfP 157) G (fun v S' G' => S' = (166, shF, rfP 162) ∧ v = none ∧ ((∀ b k, b < 160 → G' b k = G b k) ∧ True)) noX := by
  refine Mt.ofI (l0 := [some (vr 160)]) rfl (by decide) (Nat.le_of_ble_eq_true rfl) rfl ?_
  intro κ δ ρ0 X9 hI E hG
  replace X9 : CX κ δ RX0 cX0_init 1 none := X9
  have hR := E.rm
  refine a_aload_n (pc := 0) X9 dX0_init_0 rfl rfl ?_
  refine a_objInit (pc := 1) X9 hR wM_X0_3 (Nat.le_of_ble_eq_true rfl) (Nat.le_of_ble_eq_true rfl) dX0_init_1 ?_
  refine a_aload_n (pc := 4) X9 dX0_init_4 rfl rfl ?_
  refine a_iconst (pc := 5) X9 dX0_init_5 ?_
  refine a_putI (pc := 6) X9 okX0 0 rfl rfl wF_X0_9 ⟨(Nat.le_of_ble_eq_true rfl), rfl⟩ dX0_init_6 (by decide) (fit_int _) (fun _ => ?_)
  obtain ⟨G1, eG1⟩ : ∃ Gz, Gz = upG G 160 0 (-1) := ⟨_, rfl⟩
  have hG1 : GR G1 := by rw [eG1]; exact GR.up hG (by decide)
  rw [← eG1]
  refine a_aload_n (pc := 9) X9 dX0_init_9 rfl rfl ?_
  refine a_bipush (pc := 10) X9 dX0_init_10 rfl ?_
  refine a_newarr (atype := .int) (pc := 12) (n := 161) (N := 18) (t := 0) (rf := rfP 157) X9 hR (Nat.le_of_ble_eq_true rfl) rfl (fun C h => by cases h) w_arrayClass__int rfl rfl (rfP_fw (by decide +kernel)) (Nat.le_of_ble_eq_true rfl) (Nat.le_of_ble_eq_true rfl) rfl rfl (Nat.le_of_ble_eq_true rfl) (Nat.le_of_ble_eq_true rfl) ⟨Nat.le_of_ble_eq_true rfl, Nat.le_of_ble_eq_true rfl⟩ dX0_init_12 ?_
  obtain ⟨G2, eG2⟩ : ∃ Gz, Gz = zG G1 161 := ⟨_, rfl⟩
  have hG2 : GR G2 := by rw [eG2]; exact hG1.zz
  rw [← eG2]
  refine a_putR (pc := 14) (n := 162) (rf := rfP 157) (rf' := rfP 158) hI X9 okX0 1 rfl rfl rfl wF_X0_15 ⟨(Nat.le_of_ble_eq_true rfl), rfl⟩ (fun _ => ⟨rfl, rfl⟩) (rfP_s rfl rfl) dX0_init_14 ?_
  refine a_aload_n (pc := 17) X9 dX0_init_17 rfl rfl ?_
  refine a_bipush (pc := 18) X9 dX0_init_18 rfl ?_
  refine a_newarr (atype := .int) (pc := 20) (n := 162) (N := 54) (t := 0) (rf := rfP 158) X9 hR (Nat.le_of_ble_eq_true rfl) rfl (fun C h => by cases h) w_arrayClass__int rfl rfl (rfP_fw (by decide +kernel)) (Nat.le_of_ble_eq_true rfl) (Nat.le_of_ble_eq_true rfl) rfl rfl (Nat.le_of_ble_eq_true rfl) (Nat.le_of_ble_eq_true rfl) ⟨Nat.le_of_ble_eq_true rfl, Nat.le_of_ble_eq_true rfl⟩ dX0_init_20 ?_
  obtain ⟨G3, eG3⟩ : ∃ Gz, Gz = zG G2 162 := ⟨_, rfl⟩
  have hG3 : GR G3 := by rw [eG3]; exact hG2.zz
  rw [← eG3]
  refine a_putR (pc := 22) (n := 163) (rf := rfP 158) (rf' := rfP 159) hI X9 okX0 2 rfl rfl rfl wF_X0_19 ⟨(Nat.le_of_ble_eq_true rfl), rfl⟩ (fun _ => ⟨rfl, rfl⟩) (rfP_s rfl rfl) dX0_init_22 ?_
  refine a_aload_n (pc := 25) X9 dX0_init_25 rfl rfl ?_
  refine a_bipush (pc := 26) X9 dX0_init_26 rfl ?_
  refine a_newarr (atype := .int) (pc := 28) (n := 163) (N := 54) (t := 0) (rf := rfP 159) X9 hR (Nat.le_of_ble_eq_true rfl) rfl (fun C h => by cases h) w_arrayClass__int rfl rfl (rfP_fw (by decide +kernel)) (Nat.le_of_ble_eq_true rfl) (Nat.le_of_ble_eq_true rfl) rfl rfl (Nat.le_of_ble_eq_true rfl) (Nat.le_of_ble_eq_true rfl) ⟨Nat.le_of_ble_eq_true rfl, Nat.le_of_ble_eq_true rfl⟩ dX0_init_28 ?_
  obtain ⟨G4, eG4⟩ : ∃ Gz, Gz = zG G3 163 := ⟨_, rfl⟩
  have hG4 : GR G4 := by rw [eG4]; exact hG3.zz
  rw [← eG4]
  refine a_putR (pc := 30) (n := 164) (rf := rfP 159) (rf' := rfP 160) hI X9 okX0 3 rfl rfl rfl wF_X0_22 ⟨(Nat.le_of_ble_eq_true rfl), rfl⟩ (fun _ => ⟨rfl, rfl⟩) (rfP_s rfl rfl) dX0_init_30 ?_
  refine a_aload_n (pc := 33) X9 dX0_init_33 rfl rfl ?_
  refine a_bipush (pc := 34) X9 dX0_init_34 rfl ?_
  refine a_newarr (atype := .int) (pc := 36) (n := 164) (N := 54) (t := 0) (rf := rfP 160) X9 hR (Nat.le_of_ble_eq_true rfl) rfl (fun C h => by cases h) w_arrayClass__int rfl rfl (rfP_fw (by decide +kernel)) (Nat.le_of_ble_eq_true rfl) (Nat.le_of_ble_eq_true rfl) rfl rfl (Nat.le_of_ble_eq_true rfl) (Nat.le_of_ble_eq_true rfl) ⟨Nat.le_of_ble_eq_true rfl, Nat.le_of_ble_eq_true rfl⟩ dX0_init_36 ?_
  obtain ⟨G5, eG5⟩ : ∃ Gz, Gz = zG G4 164 := ⟨_, rfl⟩
  have hG5 : GR G5 := by rw [eG5]; exact hG4.zz
  rw [← eG5]
  refine a_putR (pc := 38) (n := 165) (rf := rfP 160) (rf' := rfP 161) hI X9 okX0 4 rfl rfl rfl wF_X0_25 ⟨(Nat.le_of_ble_eq_true rfl), rfl⟩ (fun _ => ⟨rfl, rfl⟩) (rfP_s rfl rfl) dX0_init_38 ?_
  refine a_aload_n (pc := 41) X9 dX0_init_41 rfl rfl ?_
  refine a_bipush (pc := 42) X9 dX0_init_42 rfl ?_
  refine a_newarr (atype := .int) (pc := 44) (n := 165) (N := 42) (t := 0) (rf := rfP 161) X9 hR (Nat.le_of_ble_eq_true rfl) rfl (fun C h => by cases h) w_arrayClass__int rfl rfl (rfP_fw (by decide +kernel)) (Nat.le_of_ble_eq_true rfl) (Nat.le_of_ble_eq_true rfl) rfl rfl (Nat.le_of_ble_eq_true rfl) (Nat.le_of_ble_eq_true rfl) ⟨Nat.le_of_ble_eq_true rfl, Nat.le_of_ble_eq_true rfl⟩ dX0_init_44 ?_
  obtain ⟨G6, eG6⟩ : ∃ Gz, Gz = zG G5 165 := ⟨_, rfl⟩
  have hG6 : GR G6 := by rw [eG6]; exact hG5.zz
  rw [← eG6]
  refine a_putR (pc := 46) (n := 166) (rf := rfP 161) (rf' := rfP 162) hI X9 okX0 5 rfl rfl rfl wF_X0_28 ⟨(Nat.le_of_ble_eq_true rfl), rfl⟩ (fun _ => ⟨rfl, rfl⟩) (rfP_s rfl rfl) dX0_init_46 ?_
  exact a_return (pc := 49) X9 E (Nat.le_of_ble_eq_true rfl) (Nat.le_of_ble_eq_true rfl) dX0_init_49 ⟨rfl, rfl, ⟨(by intro b k hb; rw [eG6, zG_ne (by omega)]; rw [eG5, zG_ne (by omega)]; rw [eG4, zG_ne (by omega)]; rw [eG3, zG_ne (by omega)]; rw [eG2, zG_ne (by omega)]; rw [eG1, upG_na (by omega)]), trivial⟩⟩
set_option maxHeartbeats 4000000 in
set_option maxRecDepth 100000 in
theorem k_X7_init_146 {G : GH} : Mt yX7_init cX7_init 1 none 2 33 19 525 [vr 146] (147, shF, rfP 144) G (fun v S' G' => S' = (166, shF, rfP 163) ∧ v = none ∧ ((∀ b k, b < 146 → G' b k = G b k) ∧ True)) noX := by
  refine Mt.ofI (l0 := [some (vr 146)]) rfl (by decide) (Nat.le_of_ble_eq_true rfl) rfl ?_
  intro κ δ ρ0 X9 hI E hG
  replace X9 : CX κ δ RX7 cX7_init 1 none := X9
  have hR := E.rm
  refine a_aload_n (pc := 0) X9 dX7_init_0 rfl rfl ?_
  refine a_objInit (pc := 1) X9 hR wM_X7_3 (Nat.le_of_ble_eq_true rfl) (Nat.le_of_ble_eq_true rfl) dX7_init_1 ?_
  refine a_aload_n (pc := 4) X9 dX7_init_4 rfl rfl ?_
  refine a_iconst (pc := 5) X9 dX7_init_5 ?_
  refine a_newarr (atype := .int) (pc := 6) (n := 147) (N := 3) (t := 0) (rf := rfP 144) X9 hR (Nat.le_of_ble_eq_true rfl) rfl (fun C h => by cases h) w_arrayClass__int rfl rfl (rfP_fw (by decide +kernel)) (Nat.le_of_ble_eq_true rfl) (Nat.le_of_ble_eq_true rfl) rfl rfl (Nat.le_of_ble_eq_true rfl) (Nat.le_of_ble_eq_true rfl) ⟨Nat.le_of_ble_eq_true rfl, Nat.le_of_ble_eq_true rfl⟩ dX7_init_6 ?_
  obtain ⟨G1, eG1⟩ : ∃ Gz, Gz = zG G 147 := ⟨_, rfl⟩
  have hG1 : GR G1 := by rw [eG1]; exact hG.zz
  rw [← eG1]
  refine a_putR (pc := 8) (n := 148) (rf := rfP 144) (rf' := rfP 145) hI X9 okX7 1 rfl rfl rfl wF_X7_9 ⟨(Nat.le_of_ble_eq_true rfl), rfl⟩ (fun _ => ⟨rfl, rfl⟩) (rfP_s rfl rfl) dX7_init_8 ?_
  refine a_aload_n (pc := 11) X9 dX7_init_11 rfl rfl ?_
  refine a_new (pc := 12) (n := 148) (rf := rfP 145) X9 hR okX8 wC_X7_15 w_instantiable_RX8 w_initialized_RX8 fv_X8 rfl (rfP_none (by decide +kernel)) (rfP_fw (by decide +kernel)) (Nat.le_of_ble_eq_true rfl) (Nat.le_of_ble_eq_true rfl) rfl rfl ⟨Nat.le_of_ble_eq_true rfl, Nat.le_of_ble_eq_true rfl⟩ dX7_init_12 ?_
  obtain ⟨G2, eG2⟩ : ∃ Gz, Gz = zG G1 148 := ⟨_, rfl⟩
  have hG2 : GR G2 := by rw [eG2]; exact hG1.zz
  rw [← eG2]
  refine a_dup (pc := 15) X9 dX7_init_15 rfl ?_
  refine a_callIN (pc := 16) X9 hR (k_X8_init_148 (G := G2)) (Nat.le_of_ble_eq_true rfl) rfl rfl (Nat.le_of_ble_eq_true rfl) nx_X7_17 w_instanceMethod_X8_init w_initialized_RX8 w_code_X8_init cpN_X8 pnN_X8 rfl (Nat.le_of_ble_eq_true rfl) ⟨Nat.le_of_ble_eq_true rfl, Nat.le_of_ble_eq_true rfl⟩ ⟨Nat.le_of_ble_eq_true rfl, Nat.le_of_ble_eq_true rfl⟩ dX7_init_16 (fun G3 pG3 hG3 => ?_)
  refine a_putR (pc := 19) (n := 157) (rf := rfP 153) (rf' := rfP 154) hI X9 okX7 3 rfl rfl rfl wF_X7_18 ⟨(Nat.le_of_ble_eq_true rfl), rfl⟩ (fun _ => ⟨rfl, rfl⟩) (rfP_s rfl rfl) dX7_init_19 ?_
  refine a_aload_n (pc := 22) X9 dX7_init_22 rfl rfl ?_
  refine a_new (pc := 23) (n := 157) (rf := rfP 154) X9 hR okX6 wC_X7_22 w_instantiable_RX6 w_initialized_RX6 fv_X6 rfl (rfP_none (by decide +kernel)) (rfP_fw (by decide +kernel)) (Nat.le_of_ble_eq_true rfl) (Nat.le_of_ble_eq_true rfl) rfl rfl ⟨Nat.le_of_ble_eq_true rfl, Nat.le_of_ble_eq_true rfl⟩ dX7_init_23 ?_
  obtain ⟨G4, eG4⟩ : ∃ Gz, Gz = zG G3 157 := ⟨_, rfl⟩
  have hG4 : GR G4 := by rw [eG4]; exact hG3.zz
  rw [← eG4]
  refine a_dup (pc := 26) X9 dX7_init_26 rfl ?_
  refine a_callIN (pc := 27) X9 hR (k_X6_init_157 (G := G4)) (Nat.le_of_ble_eq_true rfl) rfl rfl (Nat.le_of_ble_eq_true rfl) nx_X7_24 w_instanceMethod_X6_init w_initialized_RX6 w_code_X6_init cpN_X6 pnN_X6 rfl (Nat.le_of_ble_eq_true rfl) ⟨Nat.le_of_ble_eq_true rfl, Nat.le_of_ble_eq_true rfl⟩ ⟨Nat.le_of_ble_eq_true rfl, Nat.le_of_ble_eq_true rfl⟩ dX7_init_27 (fun G5 pG5 hG5 => ?_)
  refine a_putR (pc := 30) (n := 160) (rf := rfP 156) (rf' := rfP 157) hI X9 okX7 4 rfl rfl rfl wF_X7_25 ⟨(Nat.le_of_ble_eq_true rfl), rfl⟩ (fun _ => ⟨rfl, rfl⟩) (rfP_s rfl rfl) dX7_init_30 ?_
  refine a_aload_n (pc := 33) X9 dX7_init_33 rfl rfl ?_
  refine a_new (pc := 34) (n := 160) (rf := rfP 157) X9 hR okX0 wC_X7_29 w_instantiable_RX0 w_initialized_RX0 fv_X0 rfl (rfP_none (by decide +kernel)) (rfP_fw (by decide +kernel)) (Nat.le_of_ble_eq_true rfl) (Nat.le_of_ble_eq_true rfl) rfl rfl ⟨Nat.le_of_ble_eq_true rfl, Nat.le_of_ble_eq_true rfl⟩ dX7_init_34 ?_
  obtain ⟨G6, eG6⟩ : ∃ Gz, Gz = zG G5 160 := ⟨_, rfl⟩
  have hG6 : GR G6 := by rw [eG6]; exact hG5.zz
  rw [← eG6]
  refine a_dup (pc := 37) X9 dX7_init_37 rfl ?_
  refine a_callIN (pc := 38) X9 hR (k_X0_init_160 (G := G6)) (Nat.le_of_ble_eq_true rfl) rfl rfl (Nat.le_of_ble_eq_true rfl) nx_X7_31 w_instanceMethod_X0_init w_initialized_RX0 w_code_X0_init cpN_X0 pnN_X0 rfl (Nat.le_of_ble_eq_true rfl) ⟨Nat.le_of_ble_eq_true rfl, Nat.le_of_ble_eq_true rfl⟩ ⟨Nat.le_of_ble_eq_true rfl, Nat.le_of_ble_eq_true rfl⟩ dX7_init_38 (fun G7 pG7 hG7 => ?_)
  refine a_putR (pc := 41) (n := 166) (rf := rfP 162) (rf' := rfP 163) hI X9 okX7 5 rfl rfl rfl wF_X7_32 ⟨(Nat.le_of_ble_eq_true rfl), rfl⟩ (fun _ => ⟨rfl, rfl⟩) (rfP_s rfl rfl) dX7_init_41 ?_
  exact a_return (pc := 44) X9 E (Nat.le_of_ble_eq_true rfl) (Nat.le_of_ble_eq_true rfl) dX7_init_44 ⟨rfl, rfl, ⟨(by intro b k hb; rw [pG7.1 b k (by omega)]; rw [eG6, zG_ne (by omega)]; rw [pG5.1 b k (by omega)]; rw [eG4, zG_ne (by omega)]; rw [pG3.1 b k (by omega)]; rw [eG2, zG_ne (by omega)]; rw [eG1, zG_ne (by omega)]), trivial⟩⟩
set_option maxHeartbeats 4000000 in
set_option maxRecDepth 100000 in
theorem k_X8_init_168 {G : GH} : Mt yX8_init cX8_init 1 none 1 13 8 135 [vr 168] (169, shF, rfP 165) G (fun v S' G' => S' = (177, shF, rfP 173) ∧ v = none ∧ ((∀ b k, b < 168 → G' b k = G b k) ∧ True)) noX := by
  refine Mt.ofI (l0 := [some (vr 168)]) rfl (by decide) (Nat.le_of_ble_eq_true rfl) rfl ?_
  intro κ δ ρ0 X9 hI E hG
  replace X9 : CX κ δ RX8 cX8_init 1 none := X9
  have hR := E.rm
  refine a_aload_n (pc := 0) X9 dX8_init_0 rfl rfl ?_
  refine a_objInit (pc := 1) X9 hR wM_X8_3 (Nat.le_of_ble_eq_true rfl) (Nat.le_of_ble_eq_true rfl) dX8_init_1 ?_
  refine a_aload_n (pc := 4) X9 dX8_init_4 rfl rfl ?_
  refine a_bipush (pc := 5) X9 dX8_init_5 rfl ?_
  refine a_newarr (atype := .int) (pc := 7) (n := 169) (N := 12) (t := 0) (rf := rfP 165) X9 hR (Nat.le_of_ble_eq_true rfl) rfl (fun C h => by cases h) w_arrayClass__int rfl rfl (rfP_fw (by decide +kernel)) (Nat.le_of_ble_eq_true rfl) (Nat.le_of_ble_eq_true rfl) rfl rfl (Nat.le_of_ble_eq_true rfl) (Nat.le_of_ble_eq_true rfl) ⟨Nat.le_of_ble_eq_true rfl, Nat.le_of_ble_eq_true rfl⟩ dX8_init_7 ?_
  obtain ⟨G1, eG1⟩ : ∃ Gz, Gz = zG G 169 := ⟨_, rfl⟩
  have hG1 : GR G1 := by rw [eG1]; exact hG.zz
  rw [← eG1]
  refine a_putR (pc := 9) (n := 170) (rf := rfP 165) (rf' := rfP 166) hI X9 okX8 2 rfl rfl rfl wF_X8_9 ⟨(Nat.le_of_ble_eq_true rfl), rfl⟩ (fun _ => ⟨rfl, rfl⟩) (rfP_s rfl rfl) dX8_init_9 ?_
  refine a_aload_n (pc := 12) X9 dX8_init_12 rfl rfl ?_
  refine a_bipush (pc := 13) X9 dX8_init_13 rfl ?_
  refine a_newarr (atype := .int) (pc := 15) (n := 170) (N := 12) (t := 0) (rf := rfP 166) X9 hR (Nat.le_of_ble_eq_true rfl) rfl (fun C h => by cases h) w_arrayClass__int rfl rfl (rfP_fw (by decide +kernel)) (Nat.le_of_ble_eq_true rfl) (Nat.le_of_ble_eq_true rfl) rfl rfl (Nat.le_of_ble_eq_true rfl) (Nat.le_of_ble_eq_true rfl) ⟨Nat.le_of_ble_eq_true rfl, Nat.le_of_ble_eq_true rfl⟩ dX8_init_15 ?_
  obtain ⟨G2, eG2⟩ : ∃ Gz, Gz = zG G1 170 := ⟨_, rfl⟩
  have hG2 : GR G2 := by rw [eG2]; exact hG1.zz
  rw [← eG2]
  refine a_putR (pc := 17) (n := 171) (rf := rfP 166) (rf' := rfP 167) hI X9 okX8 3 rfl rfl rfl wF_X8_15 ⟨(Nat.le_of_ble_eq_true rfl), rfl⟩ (fun _ => ⟨rfl, rfl⟩) (rfP_s rfl rfl) dX8_init_17 ?_
  refine a_aload_n (pc := 20) X9 dX8_init_20 rfl rfl ?_
  refine a_bipush (pc := 21) X9 dX8_init_21 rfl ?_
  refine a_newarr (atype := .int) (pc := 23) (n := 171) (N := 42) (t := 0) (rf := rfP 167) X9 hR (Nat.le_of_ble_eq_true rfl) rfl (fun C h => by cases h) w_arrayClass__int rfl rfl (rfP_fw (by decide +kernel)) (Nat.le_of_ble_eq_true rfl) (Nat.le_of_ble_eq_true rfl) rfl rfl (Nat.le_of_ble_eq_true rfl) (Nat.le_of_ble_eq_true rfl) ⟨Nat.le_of_ble_eq_true rfl, Nat.le_of_ble_eq_true rfl⟩ dX8_init_23 ?_
  obtain ⟨G3, eG3⟩ : ∃ Gz, Gz = zG G2 171 := ⟨_, rfl⟩
  have hG3 : GR G3 := by rw [eG3]; exact hG2.zz
  rw [← eG3]
  refine a_putR (pc := 25) (n := 172) (rf := rfP 167) (rf' := rfP 168) hI X9 okX8 4 rfl rfl rfl wF_X8_18 ⟨(Nat.le_of_ble_eq_true rfl), rfl⟩ (fun _ => ⟨rfl, rfl⟩) (rfP_s rfl rfl) dX8_init_25 ?_
  refine a_aload_n (pc := 28) X9 dX8_init_28 rfl rfl ?_
  refine a_iconst (pc := 29) X9 dX8_init_29 ?_
  refine a_newarr (atype := .int) (pc := 30) (n := 172) (N := 3) (t := 0) (rf := rfP 168) X9 hR (Nat.le_of_ble_eq_true rfl) rfl (fun C h => by cases h) w_arrayClass__int rfl rfl (rfP_fw (by decide +kernel)) (Nat.le_of_ble_eq_true rfl) (Nat.le_of_ble_eq_true rfl) rfl rfl (Nat.le_of_ble_eq_true rfl) (Nat.le_of_ble_eq_true rfl) ⟨Nat.le_of_ble_eq_true rfl, Nat.le_of_ble_eq_true rfl⟩ dX8_init_30 ?_
  obtain ⟨G4, eG4⟩ : ∃ Gz, Gz = zG G3 172 := ⟨_, rfl⟩
  have hG4 : GR G4 := by rw [eG4]; exact hG3.zz
  rw [← eG4]
  refine a_putR (pc := 32) (n := 173) (rf := rfP 168) (rf' := rfP 169) hI X9 okX8 6 rfl rfl rfl wF_X8_21 ⟨(Nat.le_of_ble_eq_true rfl), rfl⟩ (fun _ => ⟨rfl, rfl⟩) (rfP_s rfl rfl) dX8_init_32 ?_
  refine a_aload_n (pc := 35) X9 dX8_init_35 rfl rfl ?_
  refine a_bipush (pc := 36) X9 dX8_init_36 rfl ?_
  refine a_newarr (atype := .int) (pc := 38) (n := 173) (N := 30) (t := 0) (rf := rfP 169) X9 hR (Nat.le_of_ble_eq_true rfl) rfl (fun C h => by cases h) w_arrayClass__int rfl rfl (rfP_fw (by decide +kernel)) (Nat.le_of_ble_eq_true rfl) (Nat.le_of_ble_eq_true rfl) rfl rfl (Nat.le_of_ble_eq_true rfl) (Nat.le_of_ble_eq_true rfl) ⟨Nat.le_of_ble_eq_true rfl, Nat.le_of_ble_eq_true rfl⟩ dX8_init_38 ?_
  obtain ⟨G5, eG5⟩ : ∃ Gz, Gz = zG G4 173 := ⟨_, rfl⟩
  have hG5 : GR G5 := by rw [eG5]; exact hG4.zz
  rw [← eG5]
  refine a_putR (pc := 40) (n := 174) (rf := rfP 169) (rf' := rfP 170) hI X9 okX8 7 rfl rfl rfl wF_X8_24 ⟨(Nat.le_of_ble_eq_true rfl), rfl⟩ (fun _ => ⟨rfl, rfl⟩) (rfP_s rfl rfl) dX8_init_40 ?_
  refine a_aload_n (pc := 43) X9 dX8_init_43 rfl rfl ?_
  refine a_bipush (pc := 44) X9 dX8_init_44 rfl ?_
  refine a_newarr (atype := .int) (pc := 46) (n := 174) (N := 12) (t := 0) (rf := rfP 170) X9 hR (Nat.le_of_ble_eq_true rfl) rfl (fun C h => by cases h) w_arrayClass__int rfl rfl (rfP_fw (by decide +kernel)) (Nat.le_of_ble_eq_true rfl) (Nat.le_of_ble_eq_true rfl) rfl rfl (Nat.le_of_ble_eq_true rfl) (Nat.le_of_ble_eq_true rfl) ⟨Nat.le_of_ble_eq_true rfl, Nat.le_of_ble_eq_true rfl⟩ dX8_init_46 ?_
  obtain ⟨G6, eG6⟩ : ∃ Gz, Gz = zG G5 174 := ⟨_, rfl⟩
  have hG6 : GR G6 := by rw [eG6]; exact hG5.zz
  rw [← eG6]
  refine a_putR (pc := 48) (n := 175) (rf := rfP 170) (rf' := rfP 171) hI X9 okX8 9 rfl rfl rfl wF_X8_27 ⟨(Nat.le_of_ble_eq_true rfl), rfl⟩ (fun _ => ⟨rfl, rfl⟩) (rfP_s rfl rfl) dX8_init_48 ?_
  refine a_aload_n (pc := 51) X9 dX8_init_51 rfl rfl ?_
  refine a_bipush (pc := 52) X9 dX8_init_52 rfl ?_
  refine a_newarr (atype := .int) (pc := 54) (n := 175) (N := 12) (t := 0) (rf := rfP 171) X9 hR (Nat.le_of_ble_eq_true rfl) rfl (fun C h => by cases h) w_arrayClass__int rfl rfl (rfP_fw (by decide +kernel)) (Nat.le_of_ble_eq_true rfl) (Nat.le_of_ble_eq_true rfl) rfl rfl (Nat.le_of_ble_eq_true rfl) (Nat.le_of_ble_eq_true rfl) ⟨Nat.le_of_ble_eq_true rfl, Nat.le_of_ble_eq_true rfl⟩ dX8_init_54 ?_
  obtain ⟨G7, eG7⟩ : ∃ Gz, Gz = zG G6 175 := ⟨_, rfl⟩
  have hG7 : GR G7 := by rw [eG7]; exact hG6.zz
  rw [← eG7]
  refine a_putR (pc := 56) (n := 176) (rf := rfP 171) (rf' := rfP 172) hI X9 okX8 10 rfl rfl rfl wF_X8_30 ⟨(Nat.le_of_ble_eq_true rfl), rfl⟩ (fun _ => ⟨rfl, rfl⟩) (rfP_s rfl rfl) dX8_init_56 ?_
  refine a_aload_n (pc := 59) X9 dX8_init_59 rfl rfl ?_
  refine a_bipush (pc := 60) X9 dX8_init_60 rfl ?_
  refine a_newarr (atype := .int) (pc := 62) (n := 176) (N := 12) (t := 0) (rf := rfP 172) X9 hR (Nat.le_of_ble_eq_true rfl) rfl (fun C h => by cases h) w_arrayClass__int rfl rfl (rfP_fw (by decide +kernel)) (Nat.le_of_ble_eq_true rfl) (Nat.le_of_ble_eq_true rfl) rfl rfl (Nat.le_of_ble_eq_true rfl) (Nat.le_of_ble_eq_true rfl) ⟨Nat.le_of_ble_eq_true rfl, Nat.le_of_ble_eq_true rfl⟩ dX8_init_62 ?_
  obtain ⟨G8, eG8⟩ : ∃ Gz, Gz = zG G7 176 := ⟨_, rfl⟩
  have hG8 : GR G8 := by rw [eG8]; exact hG7.zz
  rw [← eG8]
  refine a_putR (pc := 64) (n := 177) (rf := rfP 172) (rf' := rfP 173) hI X9 okX8 11 rfl rfl rfl wF_X8_33 ⟨(Nat.le_of_ble_eq_true rfl), rfl⟩ (fun _ => ⟨rfl, rfl⟩) (rfP_s rfl rfl) dX8_init_64 ?_
  exact a_return (pc := 67) X9 E (Nat.le_of_ble_eq_true rfl) (Nat.le_of_ble_eq_true rfl) dX8_init_67 ⟨rfl, rfl, ⟨(by intro b k hb; rw [eG8, zG_ne (by omega)]; rw [eG7, zG_ne (by omega)]; rw [eG6, zG_ne (by omega)]; rw [eG5, zG_ne (by omega)]; rw [eG4, zG_ne (by omega)]; rw [eG3, zG_ne (by omega)]; rw [eG2, zG_ne (by omega)]; rw [eG1, zG_ne (by omega)]), trivial⟩⟩
set_option maxHeartbeats 4000000 in
set_option maxRecDepth 100000 in
theorem k_X6_init_177 {G : GH} : Mt yX6_init cX6_init 1 none 1 13 2 144 [vr 177] (178, shF, rfP 174) G (fun v S' G' => S' = (180, shF, rfP 176) ∧ v = none ∧ ((∀ b k, b < 177 → G' b k = G b k) ∧ True)) noX := by
  refine Mt.ofI (l0 := [some (vr 177)]) rfl (by decide) (Nat.le_of_ble_eq_true rfl) rfl ?_
  intro κ δ ρ0 X9 hI E hG
  replace X9 : CX κ δ RX6 cX6_init 1 none := X9
  have hR := E.rm
  refine a_aload_n (pc := 0) X9 dX6_init_0 rfl rfl ?_
  refine a_objInit (pc := 1) X9 hR wM_X6_3 (Nat.le_of_ble_eq_true rfl) (Nat.le_of_ble_eq_true rfl) dX6_init_1 ?_
  refine a_aload_n (pc := 4) X9 dX6_init_4 rfl rfl ?_
  refine a_bipush (pc := 5) X9 dX6_init_5 rfl ?_
  refine a_newarr (atype := .int) (pc := 7) (n := 178) (N := 16) (t := 0) (rf := rfP 174) X9 hR (Nat.le_of_ble_eq_true rfl) rfl (fun C h => by cases h) w_arrayClass__int rfl rfl (rfP_fw (by decide +kernel)) (Nat.le_of_ble_eq_true rfl) (Nat.le_of_ble_eq_true rfl) rfl rfl (Nat.le_of_ble_eq_true rfl) (Nat.le_of_ble_eq_true rfl) ⟨Nat.le_of_ble_eq_true rfl, Nat.le_of_ble_eq_true rfl⟩ dX6_init_7 ?_
  obtain ⟨G1, eG1⟩ : ∃ Gz, Gz = zG G 178 := ⟨_, rfl⟩
  have hG1 : GR G1 := by rw [eG1]; exact hG.zz
  rw [← eG1]
  refine a_putR (pc := 9) (n := 179) (rf := rfP 174) (rf' := rfP 175) hI X9 okX6 1 rfl rfl rfl wF_X6_9 ⟨(Nat.le_of_ble_eq_true rfl), rfl⟩ (fun _ => ⟨rfl, rfl⟩) (rfP_s rfl rfl) dX6_init_9 ?_
  refine a_aload_n (pc := 12) X9 dX6_init_12 rfl rfl ?_
  refine a_sipush (pc := 13) X9 dX6_init_13 rfl ?_
  refine a_newarr (atype := .int) (pc := 16) (n := 179) (N := 128) (t := 0) (rf := rfP 175) X9 hR (Nat.le_of_ble_eq_true rfl) rfl (fun C h => by cases h) w_arrayClass__int rfl rfl (rfP_fw (by decide +kernel)) (Nat.le_of_ble_eq_true rfl) (Nat.le_of_ble_eq_true rfl) rfl rfl (Nat.le_of_ble_eq_true rfl) (Nat.le_of_ble_eq_true rfl) ⟨Nat.le_of_ble_eq_true rfl, Nat.le_of_ble_eq_true rfl⟩ dX6_init_16 ?_
  obtain ⟨G2, eG2⟩ : ∃ Gz, Gz = zG G1 179 := ⟨_, rfl⟩
  have hG2 : GR G2 := by rw [eG2]; exact hG1.zz
  rw [← eG2]
  refine a_putR (pc := 18) (n := 180) (rf := rfP 175) (rf' := rfP 176) hI X9 okX6 2 rfl rfl rfl wF_X6_15 ⟨(Nat.le_of_ble_eq_true rfl), rfl⟩ (fun _ => ⟨rfl, rfl⟩) (rfP_s rfl rfl) dX6_init_18 ?_
  exact a_return (pc := 21) X9 E (Nat.le_of_ble_eq_true rfl) (Nat.le_of_ble_eq_true rfl) dX6_init_21 ⟨rfl, rfl, ⟨(by intro b k hb; rw [eG2, zG_ne (by omega)]; rw [eG1, zG_ne (by omega)]), trivial⟩⟩
set_option maxHeartbeats 4000000 in
set_option maxRecDepth 100000 in
theorem k_X0_init_180 {G : GH} : Mt yX0_init cX0_init 1 none 1 13 5 222 [vr 180] (181, shF, rfP 177) G (fun v S' G' => S' = (186, shF, rfP 182) ∧ v = none ∧ ((∀ b k, b < 180 → G' b k = G b k) ∧ True)) noX := by
  refine Mt.ofI (l0 := [some (vr 180)]) rfl (by decide) (Nat.le_of_ble_eq_true rfl) rfl ?_
  intro κ δ ρ0 X9 hI E hG
  replace X9 : CX κ δ RX0 cX0_init 1 none := X9
  have hR := E.rm
  refine a_aload_n (pc := 0) X9 dX0_init_0 rfl rfl ?_
  refine a_objInit (pc := 1) X9 hR wM_X0_3 (Nat.le_of_ble_eq_true rfl) (Nat.le_of_ble_eq_true rfl) dX0_init_1 ?_
  refine a_aload_n (pc := 4) X9 dX0_init_4 rfl rfl ?_
  refine a_iconst (pc := 5) X9 dX0_init_5 ?_
  refine a_putI (pc := 6) X9 okX0 0 rfl rfl wF_X0_9 ⟨(Nat.le_of_ble_eq_true rfl), rfl⟩ dX0_init_6 (by decide) (fit_int _) (fun _ => ?_)
  obtain ⟨G1, eG1⟩ : ∃ Gz, Gz = upG G 180 0 (-1) := ⟨_, rfl⟩
  have hG1 : GR G1 := by rw [eG1]; exact GR.up hG (by decide)
  rw [← eG1]
  refine a_aload_n (pc := 9) X9 dX0_init_9 rfl rfl ?_
  refine a_bipush (pc := 10) X9 dX0_init_10 rfl ?_
  refine a_newarr (atype := .int) (pc := 12) (n := 181) (N := 18) (t := 0) (rf := rfP 177) X9 hR (Nat.le_of_ble_eq_true rfl) rfl (fun C h => by cases h) w_arrayClass__int rfl rfl (rfP_fw (by decide +kernel)) (Nat.le_of_ble_eq_true rfl) (Nat.le_of_ble_eq_true rfl) rfl rfl (Nat.le_of_ble_eq_true rfl) (Nat.le_of_ble_eq_true rfl) ⟨Nat.le_of_ble_eq_true rfl, Nat.le_of_ble_eq_true rfl⟩ dX0_init_12 ?_
  obtain ⟨G2, eG2⟩ : ∃ Gz, Gz = zG G1 181 := ⟨_, rfl⟩
  have hG2 : GR G2 := by rw [eG2]; exact hG1.zz
  rw [← eG2]
  refine a_putR (pc := 14) (n := 182) (rf := rfP 177) (rf' := rfP 178) hI X9 okX0 1 rfl rfl rfl wF_X0_15 ⟨(Nat.le_of_ble_eq_true rfl), rfl⟩ (fun _ => ⟨rfl, rfl⟩) (rfP_s rfl rfl) dX0_init_14 ?_
  refine a_aload_n (pc := 17) X9 dX0_init_17 rfl rfl ?_
  refine a_bipush (pc := 18) X9 dX0_init_18 rfl ?_
  refine a_newarr (atype := .int) (pc := 20) (n := 182) (N := 54) (t := 0) (rf := rfP 178) X9 hR (Nat.le_of_ble_eq_true rfl) rfl (fun C h => by cases h) w_arrayClass__int rfl rfl (rfP_fw (by decide +kernel)) (Nat.le_of_ble_eq_true rfl) (Nat.le_of_ble_eq_true rfl) rfl rfl (Nat.le_of_ble_eq_true rfl) (Nat.le_of_ble_eq_true rfl) ⟨Nat.le_of_ble_eq_true rfl, Nat.le_of_ble_eq_true rfl⟩ dX0_init_20 ?_
  obtain ⟨G3, eG3⟩ : ∃ Gz, Gz = zG G2 182 := ⟨_, rfl⟩
  have hG3 : GR G3 := by rw [eG3]; exact hG2.zz
  rw [← eG3]
  refine a_putR (pc := 22) (n := 183) (rf := rfP 178) (rf' := rfP 179) hI X9 okX0 2 rfl rfl rfl wF_X0_19 ⟨(Nat.le_of_ble_eq_true rfl), rfl⟩ (fun _ => ⟨rfl, rfl⟩) (rfP_s rfl rfl) dX0_init_22 ?_
  refine a_aload_n (pc := 25) X9 dX0_init_25 rfl rfl ?_
  refine a_bipush (pc := 26) X9 dX0_init_26 rfl ?_
  refine a_newarr (atype := .int) (pc := 28) (n := 183) (N := 54) (t := 0) (rf := rfP 179) X9 hR (Nat.le_of_ble_eq_true rfl) rfl (fun C h => by cases h) w_arrayClass__int rfl rfl (rfP_fw (by decide +kernel)) (Nat.le_of_ble_eq_true rfl) (Nat.le_of_ble_eq_true rfl) rfl rfl (Nat.le_of_ble_eq_true rfl) (Nat.le_of_ble_eq_true rfl) ⟨Nat.le_of_ble_eq_true rfl, Nat.le_of_ble_eq_true rfl⟩ dX0_init_28 ?_
  obtain ⟨G4, eG4⟩ : ∃ Gz, Gz = zG G3 183 := ⟨_, rfl⟩
  have hG4 : GR G4 := by rw [eG4]; exact hG3.zz
  rw [← eG4]
  refine a_putR (pc := 30) (n := 184) (rf := rfP 179) (rf' := rfP 180) hI X9 okX0 3 rfl rfl rfl wF_X0_22 ⟨(Nat.le_of_ble_eq_true rfl), rfl⟩ (fun _ => ⟨rfl, rfl⟩) (rfP_s rfl rfl) dX0_init_30 ?_
  refine a_aload_n (pc := 33) X9 dX0_init_33 rfl rfl ?_
  refine a_bipush (pc := 34) X9 dX0_init_34 rfl ?_
  refine a_newarr (atype := .int) (pc := 36) (n := 184) (N := 54) (t := 0) (rf := rfP 180) X9 hR (Nat.le_of_ble_eq_true rfl) rfl (fun C h => by cases h) w_arrayClass__int rfl rfl (rfP_fw (by decide +kernel)) (Nat.le_of_ble_eq_true rfl) (Nat.le_of_ble_eq_true rfl) rfl rfl (Nat.le_of_ble_eq_true rfl) (Nat.le_of_ble_eq_true rfl) ⟨Nat.le_of_ble_eq_true rfl, Nat.le_of_ble_eq_true rfl⟩ dX0_init_36 ?_
  obtain ⟨G5, eG5⟩ : ∃ Gz, Gz = zG G4 184 := ⟨_, rfl⟩
  have hG5 : GR G5 := by rw [eG5]; exact hG4.zz
  rw [← eG5]
  refine a_putR (pc := 38) (n := 185) (rf := rfP 180) (rf' := rfP 181) hI X9 okX0 4 rfl rfl rfl wF_X0_25 ⟨(Nat.le_of_ble_eq_true rfl), rfl⟩ (fun _ => ⟨rfl, rfl⟩) (rfP_s rfl rfl) dX0_init_38 ?_
  refine a_aload_n (pc := 41) X9 dX0_init_41 rfl rfl ?_
  refine a_bipush (pc := 42) X9 dX0_init_42 rfl ?_
  refine a_newarr (atype := .int) (pc := 44) (n := 185) (N := 42) (t := 0) (rf := rfP 181) X9 hR (Nat.le_of_ble_eq_true rfl) rfl (fun C h => by cases h) w_arrayClass__int rfl rfl (rfP_fw (by decide +kernel)) (Nat.le_of_ble_eq_true rfl) (Nat.le_of_ble_eq_true rfl) rfl rfl (Nat.le_of_ble_eq_true rfl) (Nat.le_of_ble_eq_true rfl) ⟨Nat.le_of_ble_eq_true rfl, Nat.le_of_ble_eq_true rfl⟩ dX0_init_44 ?_
  obtain ⟨G6, eG6⟩ : ∃ Gz, Gz = zG G5 185 := ⟨_, rfl⟩
  have hG6 : GR G6 := by rw [eG6]; exact hG5.zz
  rw [← eG6]
  refine a_putR (pc := 46) (n := 186) (rf := rfP 181) (rf' := rfP 182) hI X9 okX0 5 rfl rfl rfl wF_X0_28 ⟨(Nat.le_of_ble_eq_true rfl), rfl⟩ (fun _ => ⟨rfl, rfl⟩) (rfP_s rfl rfl) dX0_init_46 ?_
  exact a_return (pc := 49) X9 E (Nat.le_of_ble_eq_true rfl) (Nat.le_of_ble_eq_true rfl) dX0_init_49 ⟨rfl, rfl, ⟨(by intro b k hb; rw [eG6, zG_ne (by omega)]; rw [eG5, zG_ne (by omega)]; rw [eG4, zG_ne (by omega)]; rw [eG3, zG_ne (by omega)]; rw [eG2, zG_ne (by omega)]; rw [eG1, upG_na (by omega)]), trivial⟩⟩
set_option maxHeartbeats 4000000 in
set_option maxRecDepth 100000 in
theorem k_X7_init_166 {G : GH} : Mt yX7_init cX7_init 1 none 2 33 19 525 [vr 166] (167, shF, rfP 164) G (fun v S' G' => S' = (186, shF, rfP 183) ∧ v = none ∧ ((∀ b k, b < 166 → G' b k = G b k) ∧ True)) noX := by
  refine Mt.ofI (l0 := [some (vr 166)]) rfl (by decide) (Nat.le_of_ble_eq_true rfl) rfl ?_
  intro κ δ ρ0 X9 hI E hG
  replace X9 : CX κ δ RX7 cX7_init 1 none := X9
  have hR := E.rm
  refine a_aload_n (pc := 0) X9 dX7_init_0 rfl rfl ?_
  refine a_objInit (pc := 1) X9 hR wM_X7_3 (Nat.le_of_ble_eq_true rfl) (Nat.le_of_ble_eq_true rfl) dX7_init_1 ?_
  refine a_aload_n (pc := 4) X9 dX7_init_4 rfl rfl ?_
  refine a_iconst (pc := 5) X9 dX7_init_5 ?_
  refine a_newarr (atype := .int) (pc := 6) (n := 167) (N := 3) (t := 0) (rf := rfP 164) X9 hR (Nat.le_of_ble_eq_true rfl) rfl (fun C h => by cases h) w_arrayClass__int rfl rfl (rfP_fw (by decide +kernel)) (Nat.le_of_ble_eq_true rfl) (Nat.le_of_ble_eq_true rfl) rfl rfl (Nat.le_of_ble_eq_true rfl) (Nat.le_of_ble_eq_true rfl) ⟨Nat.le_of_ble_eq_true rfl, Nat.le_of_ble_eq_true rfl⟩ dX7_init_6 ?_
  obtain ⟨G1, eG1⟩ : ∃ Gz, Gz = zG G 167 := ⟨_, rfl⟩
  have hG1 : GR G1 := by rw [eG1]; exact hG.zz
  rw [← eG1]
  refine a_putR (pc := 8) (n := 168) (rf := rfP 164) (rf' := rfP 165) hI X9 okX7 1 rfl rfl rfl wF_X7_9 ⟨(Nat.le_of_ble_eq_true rfl), rfl⟩ (fun _ => ⟨rfl, rfl⟩) (rfP_s rfl rfl) dX7_init_8 ?_
  refine a_aload_n (pc := 11) X9 dX7_init_11 rfl rfl ?_
  refine a_new (pc := 12) (n := 168) (rf := rfP 165) X9 hR okX8 wC_X7_15 w_instantiable_RX8 w_initialized_RX8 fv_X8 rfl (rfP_none (by decide +kernel)) (rfP_fw (by decide +kernel)) (Nat.le_of_ble_eq_true rfl) (Nat.le_of_ble_eq_true rfl) rfl rfl ⟨Nat.le_of_ble_eq_true rfl, Nat.le_of_ble_eq_true rfl⟩ dX7_init_12 ?_
  obtain ⟨G2, eG2⟩ : ∃ Gz, Gz = zG G1 168 := ⟨_, rfl⟩
  have hG2 : GR G2 := by rw [eG2]; exact hG1.zz
  rw [← eG2]
  refine a_dup (pc := 15) X9 dX7_init_15 rfl ?_
  refine a_callIN (pc := 16) X9 hR (k_X8_init_168 (G := G2)) (Nat.le_of_ble_eq_true rfl) rfl rfl (Nat.le_of_ble_eq_true rfl) nx_X7_17 w_instanceMethod_X8_init w_initialized_RX8 w_code_X8_init cpN_X8 pnN_X8 rfl (Nat.le_of_ble_eq_true rfl) ⟨Nat.le_of_ble_eq_true rfl, Nat.le_of_ble_eq_true rfl⟩ ⟨Nat.le_of_ble_eq_true rfl, Nat.le_of_ble_eq_true rfl⟩ dX7_init_16 (fun G3 pG3 hG3 => ?_)
  refine a_putR (pc := 19) (n := 177) (rf := rfP 173) (rf' := rfP 174) hI X9 okX7 3 rfl rfl rfl wF_X7_18 ⟨(Nat.le_of_ble_eq_true rfl), rfl⟩ (fun _ => ⟨rfl, rfl⟩) (rfP_s rfl rfl) dX7_init_19 ?_
  refine a_aload_n (pc := 22) X9 dX7_init_22 rfl rfl ?_
  refine a_new (pc := 23) (n := 177) (rf := rfP 174) X9 hR okX6 wC_X7_22 w_instantiable_RX6 w_initialized_RX6 fv_X6 rfl (rfP_none (by decide +kernel)) (rfP_fw (by decide +kernel)) (Nat.le_of_ble_eq_true rfl) (Nat.le_of_ble_eq_true rfl) rfl rfl ⟨Nat.le_of_ble_eq_true rfl, Nat.le_of_ble_eq_true rfl⟩ dX7_init_23 ?_
  obtain ⟨G4, eG4⟩ : ∃ Gz, Gz = zG G3 177 := ⟨_, rfl⟩
  have hG4 : GR G4 := by rw [eG4]; exact hG3.zz
  rw [← eG4]
  refine a_dup (pc := 26) X9 dX7_init_26 rfl ?_
  refine a_callIN (pc := 27) X9 hR (k_X6_init_177 (G := G4)) (Nat.le_of_ble_eq_true rfl) rfl rfl (Nat.le_of_ble_eq_true rfl) nx_X7_24 w_instanceMethod_X6_init w_initialized_RX6 w_code_X6_init cpN_X6 pnN_X6 rfl (Nat.le_of_ble_eq_true rfl) ⟨Nat.le_of_ble_eq_true rfl, Nat.le_of_ble_eq_true rfl⟩ ⟨Nat.le_of_ble_eq_true rfl, Nat.le_of_ble_eq_true rfl⟩ dX7_init_27 (fun G5 pG5 hG5 => ?_)
  refine a_putR (pc := 30) (n := 180) (rf := rfP 176) (rf' := rfP 177) hI X9 okX7 4 rfl rfl rfl wF_X7_25 ⟨(Nat.le_of_ble_eq_true rfl), rfl⟩ (fun _ => ⟨rfl, rfl⟩) (rfP_s rfl rfl) dX7_init_30 ?_
  refine a_aload_n (pc := 33) X9 dX7_init_33 rfl rfl ?_
  refine a_new (pc := 34) (n := 180) (rf := rfP 177) X9 hR okX0 wC_X7_29 w_instantiable_RX0 w_initialized_RX0 fv_X0 rfl (rfP_none (by decide +kernel)) (rfP_fw (by decide +kernel)) (Nat.le_of_ble_eq_true rfl) (Nat.le_of_ble_eq_true rfl) rfl rfl ⟨Nat.le_of_ble_eq_true rfl, Nat.le_of_ble_eq_true rfl⟩ dX7_init_34 ?_
  obtain ⟨G6, eG6⟩ : ∃ Gz, Gz = zG G5 180 := ⟨_, rfl⟩
  have hG6 : GR G6 := by rw [eG6]; exact hG5.zz
  rw [← eG6]
  refine a_dup (pc := 37) X9 dX7_init_37 rfl ?_
  refine a_callIN (pc := 38) X9 hR (k_X0_init_180 (G := G6)) (Nat.le_of_ble_eq_true rfl) rfl rfl (Nat.le_of_ble_eq_true rfl) nx_X7_31 w_instanceMethod_X0_init w_initialized_RX0 w_code_X0_init cpN_X0 pnN_X0 rfl (Nat.le_of_ble_eq_true rfl) ⟨Nat.le_of_ble_eq_true rfl, Nat.le_of_ble_eq_true rfl⟩ ⟨Nat.le_of_ble_eq_true rfl, Nat.le_of_ble_eq_true rfl⟩ dX7_init_38 (fun G7 pG7 hG7 => ?_)
  refine a_putR (pc := 41) (n := 186) (rf := rfP 182) (rf' := rfP 183) hI X9 okX7 5 rfl rfl rfl wF_X7_32 ⟨(Nat.le_of_ble_eq_true rfl), rfl⟩ (fun _ => ⟨rfl, rfl⟩) (rfP_s rfl rfl) dX7_init_41 ?_
  exact a_return (pc := 44) X9 E (Nat.le_of_ble_eq_true rfl) (Nat.le_of_ble_eq_true rfl) dX7_init_44 ⟨rfl, rfl, ⟨(by intro b k hb; rw [pG7.1 b k (by omega)]; rw [eG6, zG_ne (by omega)]; rw [pG5.1 b k (by omega)]; rw [eG4, zG_ne (by omega)]; rw [pG3.1 b k (by omega)]; rw [eG2, zG_ne (by omega)]; rw [eG1, zG_ne (by omega)]), trivial⟩⟩
set_option maxHeartbeats 4000000 in
set_option maxRecDepth 100000 in
theorem k_X8_init_188 {G : GH} : Mt yX8_init cX8_init 1 none 1 13 8 135 [vr 188] (189, shF, rfP 185) G (fun v S' G' => S' = (197, shF, rfP 193) ∧ v = none ∧ ((∀ b k, b < 188 → G' b k = G b k) ∧ True)) noX := by
  refine Mt.ofI (l0 := [some (vr 188)]) rfl (by decide) (Nat.le_of_ble_eq_true rfl) rfl ?_
  intro κ δ ρ0 X9 hI E hG
  replace X9 : CX κ δ RX8 cX8_init 1 none := X9
  have hR := E.rm
  refine a_aload_n (pc := 0) X9 dX8_init_0 rfl rfl ?_
  refine a_objInit (pc := 1) X9 hR wM_X8_3 (Nat.le_of_ble_eq_true rfl) (Nat.le_of_ble_eq_true rfl) dX8_init_1 ?_
  refine a_aload_n (pc := 4) X9 dX8_init_4 rfl rfl ?_
  refine a_bipush (pc := 5) X9 dX8_init_5 rfl ?_
  refine a_newarr (atype := .int) (pc := 7) (n := 189) (N := 12) (t := 0) (rf := rfP 185) X9 hR (Nat.le_of_ble_eq_true rfl) rfl (fun C h => by cases h) w_arrayClass__int rfl rfl (rfP_fw (by decide +kernel)) (Nat.le_of_ble_eq_true rfl) (Nat.le_of_ble_eq_true rfl) rfl rfl (Nat.le_of_ble_eq_true rfl) (Nat.le_of_ble_eq_true rfl) ⟨Nat.le_of_ble_eq_true rfl, Nat.le_of_ble_eq_true rfl⟩ dX8_init_7 ?_
  obtain ⟨G1, eG1⟩ : ∃ Gz, Gz = zG G 189 := ⟨_, rfl⟩
  have hG1 : GR G1 := by rw [eG1]; exact hG.zz
  rw [← eG1]
  refine a_putR (pc := 9) (n := 190) (rf := rfP 185) (rf' := rfP 186) hI X9 okX8 2 rfl rfl rfl wF_X8_9 ⟨(Nat.le_of_ble_eq_true rfl), rfl⟩ (fun _ => ⟨rfl, rfl⟩) (rfP_s rfl rfl) dX8_init_9 ?_
  refine a_aload_n (pc := 12) X9 dX8_init_12 rfl rfl ?_
  refine a_bipush (pc := 13) X9 dX8_init_13 rfl ?_
  refine a_newarr (atype := .int) (pc := 15) (n := 190) (N := 12) (t := 0) (rf := rfP 186) X9 hR (Nat.le_of_ble_eq_true rfl) rfl (fun C h => by cases h) w_arrayClass__int rfl rfl (rfP_fw (by decide +kernel)) (Nat.le_of_ble_eq_true rfl) (Nat.le_of_ble_eq_true rfl) rfl rfl (Nat.le_of_ble_eq_true rfl) (Nat.le_of_ble_eq_true rfl) ⟨Nat.le_of_ble_eq_true rfl, Nat.le_of_ble_eq_true rfl⟩ dX8_init_15 ?_
  obtain ⟨G2, eG2⟩ : ∃ Gz, Gz = zG G1 190 := ⟨_, rfl⟩
  have hG2 : GR G2 := by rw [eG2]; exact hG1.zz
  rw [← eG2]
  refine a_putR (pc := 17) (n := 191) (rf := rfP 186) (rf' := rfP 187) hI X9 okX8 3 rfl rfl rfl wF_X8_15 ⟨(Nat.le_of_ble_eq_true rfl), rfl⟩ (fun _ => ⟨rfl, rfl⟩) (rfP_s rfl rfl) dX8_init_17 ?_
  refine a_aload_n (pc := 20) X9 dX8_init_20 rfl rfl ?_
  refine a_bipush (pc := 21) X9 dX8_init_21 rfl ?_
  refine a_newarr (atype := .int) (pc := 23) (n := 191) (N := 42) (t := 0) (rf := rfP 187) X9 hR (Nat.le_of_ble_eq_true rfl) rfl (fun C h => by cases h) w_arrayClass__int rfl rfl (rfP_fw (by decide +kernel)) (Nat.le_of_ble_eq_true rfl) (Nat.le_of_ble_eq_true rfl) rfl rfl (Nat.le_of_ble_eq_true rfl) (Nat.le_of_ble_eq_true rfl) ⟨Nat.le_of_ble_eq_true rfl, Nat.le_of_ble_eq_true rfl⟩ dX8_init_23 ?_
  obtain ⟨G3, eG3⟩ : ∃ Gz, Gz = zG G2 191 := ⟨_, rfl⟩
  have hG3 : GR G3 := by rw [eG3]; exact hG2.zz
  rw [← eG3]
  refine a_putR (pc := 25) (n := 192) (rf := rfP 187) (rf' := rfP 188) hI X9 okX8 4 rfl rfl rfl wF_X8_18 ⟨(Nat.le_of_ble_eq_true rfl), rfl⟩ (fun _ => ⟨rfl, rfl⟩) (rfP_s rfl rfl) dX8_init_25 ?_
  refine a_aload_n (pc := 28) X9 dX8_init_28 rfl rfl ?_
  refine a_iconst (pc := 29) X9 dX8_init_29 ?_
  refine a_newarr (atype := .int) (pc := 30) (n := 192) (N := 3) (t := 0) (rf := rfP 188) X9 hR (Nat.le_of_ble_eq_true rfl) rfl (fun C h => by cases h) w_arrayClass__int rfl rfl (rfP_fw (by decide +kernel)) (Nat.le_of_ble_eq_true rfl) (Nat.le_of_ble_eq_true rfl) rfl rfl (Nat.le_of_ble_eq_true rfl) (Nat.le_of_ble_eq_true rfl) ⟨Nat.le_of_ble_eq_true rfl, Nat.le_of_ble_eq_true rfl⟩ dX8_init_30 ?_
  obtain ⟨G4, eG4⟩ : ∃ Gz, Gz = zG G3 192 := ⟨_, rfl⟩
  have hG4 : GR G4 := by rw [eG4]; exact hG3.zz
  rw [← eG4]
  refine a_putR (pc := 32) (n := 193) (rf := rfP 188) (rf' := rfP 189) hI X9 okX8 6 rfl rfl rfl wF_X8_21 ⟨(Nat.le_of_ble_eq_true rfl), rfl⟩ (fun _ => ⟨rfl, rfl⟩) (rfP_s rfl rfl) dX8_init_32 ?_
  refine a_aload_n (pc := 35) X9 dX8_init_35 rfl rfl ?_
  refine a_bipush (pc := 36) X9 dX8_init_36 rfl ?_
  refine a_newarr (atype := .int) (pc := 38) (n := 193) (N := 30) (t := 0) (rf := rfP 189) X9 hR (Nat.le_of_ble_eq_true rfl) rfl (fun C h => by cases h) w_arrayClass__int rfl rfl (rfP_fw (by decide +kernel)) (Nat.le_of_ble_eq_true rfl) (Nat.le_of_ble_eq_true rfl) rfl rfl (Nat.le_of_ble_eq_true rfl) (Nat.le_of_ble_eq_true rfl) ⟨Nat.le_of_ble_eq_true rfl, Nat.le_of_ble_eq_true rfl⟩ dX8_init_38 ?_
  obtain ⟨G5, eG5⟩ : ∃ Gz, Gz = zG G4 193 := ⟨_, rfl⟩
  have hG5 : GR G5 := by rw [eG5]; exact hG4.zz
  rw [← eG5]
  refine a_putR (pc := 40) (n := 194) (rf := rfP 189) (rf' := rfP 190) hI X9 okX8 7 rfl rfl rfl wF_X8_24 ⟨(Nat.le_of_ble_eq_true rfl), rfl⟩ (fun _ => ⟨rfl, rfl⟩) (rfP_s rfl rfl) dX8_init_40 ?_
  refine a_aload_n (pc := 43) X9 dX8_init_43 rfl rfl ?_
  refine a_bipush (pc := 44) X9 dX8_init_44 rfl ?_
  refine a_newarr (atype := .int) (pc := 46) (n := 194) (N := 12) (t := 0) (rf := rfP 190) X9 hR (Nat.le_of_ble_eq_true rfl) rfl (fun C h => by cases h) w_arrayClass__int rfl rfl (rfP_fw (by decide +kernel)) (Nat.le_of_ble_eq_true rfl) (Nat.le_of_ble_eq_true rfl) rfl rfl (Nat.le_of_ble_eq_true rfl) (Nat.le_of_ble_eq_true rfl) ⟨Nat.le_of_ble_eq_true rfl, Nat.le_of_ble_eq_true rfl⟩ dX8_init_46 ?_
  obtain ⟨G6, eG6⟩ : ∃ Gz, Gz = zG G5 194 := ⟨_, rfl⟩
  have hG6 : GR G6 := by rw [eG6]; exact hG5.zz
  rw [← eG6]
  refine a_putR (pc := 48) (n := 195) (rf := rfP 190) (rf' := rfP 191) hI X9 okX8 9 rfl rfl rfl wF_X8_27 ⟨(Nat.le_of_ble_eq_true rfl), rfl⟩ (fun _ => ⟨rfl, rfl⟩) (rfP_s rfl rfl) dX8_init_48 ?_
  refine a_aload_n (pc := 51) X9 dX8_init_51 rfl rfl ?_
  refine a_bipush (pc := 52) X9 dX8_init_52 rfl ?_
  refine a_newarr (atype := .int) (pc := 54) (n := 195) (N := 12) (t := 0) (rf := rfP 191) X9 hR (Nat.le_of_ble_eq_true rfl) rfl (fun C h => by cases h) w_arrayClass__int rfl rfl (rfP_fw (by decide +kernel)) (Nat.le_of_ble_eq_true rfl) (Nat.le_of_ble_eq_true rfl) rfl rfl (Nat.le_of_ble_eq_true rfl) (Nat.le_of_ble_eq_true rfl) ⟨Nat.le_of_ble_eq_true rfl, Nat.le_of_ble_eq_true rfl⟩ dX8_init_54 ?_
  obtain ⟨G7, eG7⟩ : ∃ Gz, Gz = zG G6 195 := ⟨_, rfl⟩
  have hG7 : GR G7 := by rw [eG7]; exact hG6.zz
  rw [← eG7]
  refine a_putR (pc := 56) (n := 196) (rf := rfP 191) (rf' := rfP 192) hI X9 okX8 10 rfl rfl rfl wF_X8_30 ⟨(Nat.le_of_ble_eq_true rfl), rfl⟩ (fun _ => ⟨rfl, rfl⟩) (rfP_s rfl rfl) dX8_init_56 ?_
  refine a_aload_n (pc := 59) X9 dX8_init_59 rfl rfl ?_
  refine a_bipush (pc := 60) X9 dX8_init_60 rfl ?_
  refine a_newarr (atype := .int) (pc := 62) (n := 196) (N := 12) (t := 0) (rf := rfP 192) X9 hR (Nat.le_of_ble_eq_true rfl) rfl (fun C h => by cases h) w_arrayClass__int rfl rfl (rfP_fw (by decide +kernel)) (Nat.le_of_ble_eq_true rfl) (Nat.le_of_ble_eq_true rfl) rfl rfl (Nat.le_of_ble_eq_true rfl) (Nat.le_of_ble_eq_true rfl) ⟨Nat.le_of_ble_eq_true rfl, Nat.le_of_ble_eq_true rfl⟩ dX8_init_62 ?_
  obtain ⟨G8, eG8⟩ : ∃ Gz, Gz = zG G7 196 := ⟨_, rfl⟩
  have hG8 : GR G8 := by rw [eG8]; exact hG7.zz
  rw [← eG8]
  refine a_putR (pc := 64) (n := 197) (rf := rfP 192) (rf' := rfP 193) hI X9 okX8 11 rfl rfl rfl wF_X8_33 ⟨(Nat.le_of_ble_eq_true rfl), rfl⟩ (fun _ => ⟨rfl, rfl⟩) (rfP_s rfl rfl) dX8_init_64 ?_
  exact a_return (pc := 67) X9 E (Nat.le_of_ble_eq_true rfl) (Nat.le_of_ble_eq_true rfl) dX8_init_67 ⟨rfl, rfl, ⟨(by intro b k hb; rw [eG8, zG_ne (by omega)]; rw [eG7, zG_ne (by omega)]; rw [eG6, zG_ne (by omega)]; rw [eG5, zG_ne (by omega)]; rw [eG4, zG_ne (by omega)]; rw [eG3, zG_ne (by omega)]; rw [eG2, zG_ne (by omega)]; rw [eG1, zG_ne (by omega)]), trivial⟩⟩
set_option maxHeartbeats 4000000 in
set_option maxRecDepth 100000 in
theorem k_X6_init_197 {G : GH} : Mt yX6_init cX6_init 1 none 1 13 2 144 [vr 197] (198, shF, rfP 194) G (fun v S' G' => S' = (200, shF, rfP 196) ∧ v = none ∧ ((∀ b k, b < 197 → G' b k = G b k) ∧ True)) noX := by
  refine Mt.ofI (l0 := [some (vr 197)]) rfl (by decide) (Nat.le_of_ble_eq_true rfl) rfl ?_
  intro κ δ ρ0 X9 hI E hG
  replace X9 : CX κ δ RX6 cX6_init 1 none := X9
  have hR := E.rm
  refine a_aload_n (pc := 0) X9 dX6_init_0 rfl rfl ?_
  refine a_objInit (pc := 1) X9 hR wM_X6_3 (Nat.le_of_ble_eq_true rfl) (Nat.le_of_ble_eq_true rfl) dX6_init_1 ?_
  refine a_aload_n (pc := 4) X9 dX6_init_4 rfl rfl ?_
  refine a_bipush (pc := 5) X9 dX6_init_5 rfl ?_
  refine a_newarr (atype := .int) (pc := 7) (n := 198) (N := 16) (t := 0) (rf := rfP 194) X9 hR (Nat.le_of_ble_eq_true rfl) rfl (fun C h => by cases h) w_arrayClass__int rfl rfl (rfP_fw (by decide +kernel)) (Nat.le_of_ble_eq_true rfl) (Nat.le_of_ble_eq_true rfl) rfl rfl (Nat.le_of_ble_eq_true rfl) (Nat.le_of_ble_eq_true rfl) ⟨Nat.le_of_ble_eq_true rfl, Nat.le_of_ble_eq_true rfl⟩ dX6_init_7 ?_
  obtain ⟨G1, eG1⟩ : ∃ Gz, Gz = zG G 198 := ⟨_, rfl⟩
  have hG1 : GR G1 := by rw [eG1]; exact hG.zz
  rw [← eG1]
  refine a_putR (pc := 9) (n := 199) (rf := rfP 194) (rf' := rfP 195) hI X9 okX6 1 rfl rfl rfl wF_X6_9 ⟨(Nat.le_of_ble_eq_true rfl), rfl⟩ (fun _ => ⟨rfl, rfl⟩) (rfP_s rfl rfl) dX6_init_9 ?_
  refine a_aload_n (pc := 12) X9 dX6_init_12 rfl rfl ?_
  refine a_sipush (pc := 13) X9 dX6_init_13 rfl ?_
  refine a_newarr (atype := .int) (pc := 16) (n := 199) (N := 128) (t := 0) (rf := rfP 195) X9 hR (Nat.le_of_ble_eq_true rfl) rfl (fun C h => by cases h) w_arrayClass__int rfl rfl (rfP_fw (by decide +kernel)) (Nat.le_of_ble_eq_true rfl) (Nat.le_of_ble_eq_true rfl) rfl rfl (Nat.le_of_ble_eq_true rfl) (Nat.le_of_ble_eq_true rfl) ⟨Nat.le_of_ble_eq_true rfl, Nat.le_of_ble_eq_true rfl⟩ dX6_init_16 ?_
  obtain ⟨G2, eG2⟩ : ∃ Gz, Gz = zG G1 199 := ⟨_, rfl⟩
  have hG2 : GR G2 := by rw [eG2]; exact hG1.zz
  rw [← eG2]
  refine a_putR (pc := 18) (n := 200) (rf := rfP 195) (rf' := rfP 196) hI X9 okX6 2 rfl rfl rfl wF_X6_15 ⟨(Nat.le_of_ble_eq_true rfl), rfl⟩ (fun _ => ⟨rfl, rfl⟩) (rfP_s rfl rfl) dX6_init_18 ?_
  exact a_return (pc := 21) X9 E (Nat.le_of_ble_eq_true rfl) (Nat.le_of_ble_eq_true rfl) dX6_init_21 ⟨rfl, rfl, ⟨(by intro b k hb; rw [eG2, zG_ne (by omega)]; rw [eG1, zG_ne (by omega)]), trivial⟩⟩
set_option maxHeartbeats 4000000 in
set_option maxRecDepth 100000 in
theorem k_X0_init_200 {G : GH} : Mt yX0_init cX0_init 1 none 1 13 5 222 [vr 200] (201, shF, rfP 197) G (fun v S' G' => S' = (206, shF, rfP 202) ∧ v = none ∧ ((∀ b k, b < 200 → G' b k = G b k) ∧ True)) noX := by
  refine Mt.ofI (l0 := [some (vr 200)]) rfl (by decide) (Nat.le_of_ble_eq_true rfl) rfl ?_
  intro κ δ ρ0 X9 hI E hG
  replace X9 : CX κ δ RX0 cX0_init 1 none := X9
  have hR := E.rm
  refine a_aload_n (pc := 0) X9 dX0_init_0 rfl rfl ?_
  refine a_objInit (pc := 1) X9 hR wM_X0_3 (Nat.le_of_ble_eq_true rfl) (Nat.le_of_ble_eq_true rfl) dX0_init_1 ?_
  refine a_aload_n (pc := 4) X9 dX0_init_4 rfl rfl ?_
  refine a_iconst (pc := 5) X9 dX0_init_5 ?_
  refine a_putI (pc := 6) X9 okX0 0 rfl rfl wF_X0_9 ⟨(Nat.le_of_ble_eq_true rfl), rfl⟩ dX0_init_6 (by decide) (fit_int _) (fun _ => ?_)
  obtain ⟨G1, eG1⟩ : ∃ Gz, Gz = upG G 200 0 (-1) := ⟨_, rfl⟩
  have hG1 : GR G1 := by rw [eG1]; exact GR.up hG (by decide)
  rw [← eG1]
  refine a_aload_n (pc := 9) X9 dX0_init_9 rfl rfl ?_
  refine a_bipush (pc := 10) X9 dX0_init_10 rfl ?_
  refine a_newarr (atype := .int) (pc := 12) (n := 201) (N := 18) (t := 0) (rf := rfP 197) X9 hR (Nat.le_of_ble_eq_true rfl) rfl (fun C h => by cases h) w_arrayClass__int rfl rfl (rfP_fw (by decide +kernel)) (Nat.le_of_ble_eq_true rfl) (Nat.le_of_ble_eq_true rfl) rfl rfl (Nat.le_of_ble_eq_true rfl) (Nat.le_of_ble_eq_true rfl) ⟨Nat.le_of_ble_eq_true rfl, Nat.le_of_ble_eq_true rfl⟩ dX0_init_12 ?_
  obtain ⟨G2, eG2⟩ : ∃ Gz, Gz = zG G1 201 := ⟨_, rfl⟩
  have hG2 : GR G2 := by rw [eG2]; exact hG1.zz
  rw [← eG2]
  refine a_putR (pc := 14) (n := 202) (rf := rfP 197) (rf' := rfP 198) hI X9 okX0 1 rfl rfl rfl wF_X0_15 ⟨(Nat.le_of_ble_eq_true rfl), rfl⟩ (fun _ => ⟨rfl, rfl⟩) (rfP_s rfl rfl) dX0_init_14 ?_
  refine a_aload_n (pc := 17) X9 dX0_init_17 rfl rfl ?_
  refine a_bipush (pc := 18) X9 dX0_init_18 rfl ?_
  refine a_newarr (atype := .int) (pc := 20) (n := 202) (N := 54) (t := 0) (rf := rfP 198) X9 hR (Nat.le_of_ble_eq_true rfl) rfl (fun C h => by cases h) w_arrayClass__int rfl rfl (rfP_fw (by decide +kernel)) (Nat.le_of_ble_eq_true rfl) (Nat.le_of_ble_eq_true rfl) rfl rfl (Nat.le_of_ble_eq_true rfl) (Nat.le_of_ble_eq_true rfl) ⟨Nat.le_of_ble_eq_true rfl, Nat.le_of_ble_eq_true rfl⟩ dX0_init_20 ?_
  obtain ⟨G3, eG3⟩ : ∃ Gz, Gz = zG G2 202 := ⟨_, rfl⟩
  have hG3 : GR G3 := by rw [eG3]; exact hG2.zz
  rw [← eG3]
  refine a_putR (pc := 22) (n := 203) (rf := rfP 198) (rf' := rfP 199) hI X9 okX0 2 rfl rfl rfl wF_X0_19 ⟨(Nat.le_of_ble_eq_true rfl), rfl⟩ (fun _ => ⟨rfl, rfl⟩) (rfP_s rfl rfl) dX0_init_22 ?_
  refine a_aload_n (pc := 25) X9 dX0_init_25 rfl rfl ?_
  refine a_bipush (pc := 26) X9 dX0_init_26 rfl ?_
  refine a_newarr (atype := .int) (pc := 28) (n := 203) (N := 54) (t := 0) (rf := rfP 199) X9 hR (Nat.le_of_ble_eq_true rfl) rfl (fun C h => by cases h) w_arrayClass__int rfl rfl (rfP_fw (by decide +kernel)) (Nat.le_of_ble_eq_true rfl) (Nat.le_of_ble_eq_true rfl) rfl rfl (Nat.le_of_ble_eq_true rfl) (Nat.le_of_ble_eq_true rfl) ⟨Nat.le_of_ble_eq_true rfl, Nat.le_of_ble_eq_true rfl⟩ dX0_init_28 ?_
  obtain ⟨G4, eG4⟩ : ∃ Gz, Gz = zG G3 203 := ⟨_, rfl⟩
  have hG4 : GR G4 := by rw [eG4]; exact hG3.zz
  rw [← eG4]
  refine a_putR (pc := 30) (n := 204) (rf := rfP 199) (rf' := rfP 200) hI X9 okX0 3 rfl rfl rfl wF_X0_22 ⟨(Nat.le_of_ble_eq_true rfl), rfl⟩ (fun _ => ⟨rfl, rfl⟩) (rfP_s rfl rfl) dX0_init_30 ?_
  refine a_aload_n (pc := 33) X9 dX0_init_33 rfl rfl ?_
  refine a_bipush (pc := 34) X9 dX0_init_34 rfl ?_
  refine a_newarr (atype := .int) (pc := 36) (n := 204) (N := 54) (t := 0) (rf := rfP 200) X9 hR (Nat.le_of_ble_eq_true rfl) rfl (fun C h => by cases h) w_arrayClass__int rfl rfl (rfP_fw (by decide +kernel)) (Nat.le_of_ble_eq_true rfl) (Nat.le_of_ble_eq_true rfl) rfl rfl (Nat.le_of_ble_eq_true rfl) (Nat.le_of_ble_eq_true rfl) ⟨Nat.le_of_ble_eq_true rfl, Nat.le_of_ble_eq_true rfl⟩ dX0_init_36 ?_
  obtain ⟨G5, eG5⟩ : ∃ Gz, Gz = zG G4 204 := ⟨_, rfl⟩
  have hG5 : GR G5 := by rw [eG5]; exact hG4.zz
  rw [← eG5]
  refine a_putR (pc := 38) (n := 205) (rf := rfP 200) (rf' := rfP 201) hI X9 okX0 4 rfl rfl rfl wF_X0_25 ⟨(Nat.le_of_ble_eq_true rfl), rfl⟩ (fun _ => ⟨rfl, rfl⟩) (rfP_s rfl rfl) dX0_init_38 ?_
  refine a_aload_n (pc := 41) X9 dX0_init_41 rfl rfl ?_
  refine a_bipush (pc := 42) X9 dX0_init_42 rfl ?_
  refine a_newarr (atype := .int) (pc := 44) (n := 205) (N := 42) (t := 0) (rf := rfP 201) X9 hR (Nat.le_of_ble_eq_true rfl) rfl (fun C h => by cases h) w_arrayClass__int rfl rfl (rfP_fw (by decide +kernel)) (Nat.le_of_ble_eq_true rfl) (Nat.le_of_ble_eq_true rfl) rfl rfl (Nat.le_of_ble_eq_true rfl) (Nat.le_of_ble_eq_true rfl) ⟨Nat.le_of_ble_eq_true rfl, Nat.le_of_ble_eq_true rfl⟩ dX0_init_44 ?_
  obtain ⟨G6, eG6⟩ : ∃ Gz, Gz = zG G5 205 := ⟨_, rfl⟩
  have hG6 : GR G6 := by rw [eG6]; exact hG5.zz
  rw [← eG6]
  refine a_putR (pc := 46) (n := 206) (rf := rfP 201) (rf' := rfP 202) hI X9 okX0 5 rfl rfl rfl wF_X0_28 ⟨(Nat.le_of_ble_eq_true rfl), rfl⟩ (fun _ => ⟨rfl, rfl⟩) (rfP_s rfl rfl) dX0_init_46 ?_
  exact a_return (pc := 49) X9 E (Nat.le_of_ble_eq_true rfl) (Nat.le_of_ble_eq_true rfl) dX0_init_49 ⟨rfl, rfl, ⟨(by intro b k hb; rw [eG6, zG_ne (by omega)]; rw [eG5, zG_ne (by omega)]; rw [eG4, zG_ne (by omega)]; rw [eG3, zG_ne (by omega)]; rw [eG2, zG_ne (by omega)]; rw [eG1, upG_na (by omega)]), trivial⟩⟩
set_option maxHeartbeats 4000000 in
set_option maxRecDepth 100000 in
theorem k_X7_init_186 {G : GH} : Mt yX7_init cX7_init 1 none 2 33 19 525 [vr 186] (187, shF, rfP 184) G (fun v S' G' => S' = (206, shF, rfP 203) ∧ v = none ∧ ((∀ b k, b < 186 → G' b k = G b k) ∧ True)) noX := by
  refine Mt.ofI (l0 := [some (vr 186)]) rfl (by decide) (Nat.le_of_ble_eq_true rfl) rfl ?_
  intro κ δ ρ0 X9 hI E hG
  replace X9 : CX κ δ RX7 cX7_init 1 none := X9
  have hR := E.rm
  refine a_aload_n (pc := 0) X9 dX7_init_0 rfl rfl ?_
  refine a_objInit (pc := 1) X9 hR wM_X7_3 (Nat.le_of_ble_eq_true rfl) (Nat.le_of_ble_eq_true rfl) dX7_init_1 ?_
  refine a_aload_n (pc := 4) X9 dX7_init_4 rfl rfl ?_
  refine a_iconst (pc := 5) X9 dX7_init_5 ?_
  refine a_newarr (atype := .int) (pc := 6) (n := 187) (N := 3) (t := 0) (rf := rfP 184) X9 hR (Nat.le_of_ble_eq_true rfl) rfl (fun C h => by cases h) w_arrayClass__int rfl rfl (rfP_fw (by decide +kernel)) (Nat.le_of_ble_eq_true rfl) (Nat.le_of_ble_eq_true rfl) rfl rfl (Nat.le_of_ble_eq_true rfl) (Nat.le_of_ble_eq_true rfl) ⟨Nat.le_of_ble_eq_true rfl, Nat.le_of_ble_eq_true rfl⟩ dX7_init_6 ?_
  obtain ⟨G1, eG1⟩ : ∃ Gz, Gz = zG G 187 := ⟨_, rfl⟩
  have hG1 : GR G1 := by rw [eG1]; exact hG.zz
  rw [← eG1]
  refine a_putR (pc := 8) (n := 188) (rf := rfP 184) (rf' := rfP 185) hI X9 okX7 1 rfl rfl rfl wF_X7_9 ⟨(Nat.le_of_ble_eq_true rfl), rfl⟩ (fun _ => ⟨rfl, rfl⟩) (rfP_s rfl rfl) dX7_init_8 ?_
  refine a_aload_n (pc := 11) X9 dX7_init_11 rfl rfl ?_
  refine a_new (pc := 12) (n := 188) (rf := rfP 185) X9 hR okX8 wC_X7_15 w_instantiable_RX8 w_initialized_RX8 fv_X8 rfl (rfP_none (by decide +kernel)) (rfP_fw (by decide +kernel)) (Nat.le_of_ble_eq_true rfl) (Nat.le_of_ble_eq_true rfl) rfl rfl ⟨Nat.le_of_ble_eq_true rfl, Nat.le_of_ble_eq_true rfl⟩ dX7_init_12 ?_
  obtain ⟨G2, eG2⟩ : ∃ Gz, Gz = zG G1 188 := ⟨_, rfl⟩
  have hG2 : GR G2 := by rw [eG2]; exact hG1.zz
  rw [← eG2]
  refine a_dup (pc := 15) X9 dX7_init_15 rfl ?_
  refine a_callIN (pc := 16) X9 hR (k_X8_init_188 (G := G2)) (Nat.le_of_ble_eq_true rfl) rfl rfl (Nat.le_of_ble_eq_true rfl) nx_X7_17 w_instanceMethod_X8_init w_initialized_RX8 w_code_X8_init cpN_X8 pnN_X8 rfl (Nat.le_of_ble_eq_true rfl) ⟨Nat.le_of_ble_eq_true rfl, Nat.le_of_ble_eq_true rfl⟩ ⟨Nat.le_of_ble_eq_true rfl, Nat.le_of_ble_eq_true rfl⟩ dX7_init_16 (fun G3 pG3 hG3 => ?_)
  refine a_putR (pc := 19) (n := 197) (rf := rfP 193) (rf' := rfP 194) hI X9 okX7 3 rfl rfl rfl wF_X7_18 ⟨(Nat.le_of_ble_eq_true rfl), rfl⟩ (fun _ => ⟨rfl, rfl⟩) (rfP_s rfl rfl) dX7_init_19 ?_
  refine a_aload_n (pc := 22) X9 dX7_init_22 rfl rfl ?_
  refine a_new (pc := 23) (n := 197) (rf := rfP 194) X9 hR okX6 wC_X7_22 w_instantiable_RX6 w_initialized_RX6 fv_X6 rfl (rfP_none (by decide +kernel)) (rfP_fw (by decide +kernel)) (Nat.le_of_ble_eq_true rfl) (Nat.le_of_ble_eq_true rfl) rfl rfl ⟨Nat.le_of_ble_eq_true rfl, Nat.le_of_ble_eq_true rfl⟩ dX7_init_23 ?_
  obtain ⟨G4, eG4⟩ : ∃ Gz, Gz = zG G3 197 := ⟨_, rfl⟩
  have hG4 : GR G4 := by rw [eG4]; exact hG3.zz
  rw [← eG4]
  refine a_dup (pc := 26) X9 dX7_init_26 rfl ?_
  refine a_callIN (pc := 27) X9 hR (k_X6_init_197 (G := G4)) (Nat.le_of_ble_eq_true rfl) rfl rfl (Nat.le_of_ble_eq_true rfl) nx_X7_24 w_instanceMethod_X6_init w_initialized_RX6 w_code_X6_init cpN_X6 pnN_X6 rfl (Nat.le_of_ble_eq_true rfl) ⟨Nat.le_of_ble_eq_true rfl, Nat.le_of_ble_eq_true rfl⟩ ⟨Nat.le_of_ble_eq_true rfl, Nat.le_of_ble_eq_true rfl⟩ dX7_init_27 (fun G5 pG5 hG5 => ?_)
  refine a_putR (pc := 30) (n := 200) (rf := rfP 196) (rf' := rfP 197) hI X9 okX7 4 rfl rfl rfl wF_X7_25 ⟨(Nat.le_of_ble_eq_true rfl), rfl⟩ (fun _ => ⟨rfl, rfl⟩) (rfP_s rfl rfl) dX7_init_30 ?_
  refine a_aload_n (pc := 33) X9 dX7_init_33 rfl rfl ?_
  refine a_new (pc := 34) (n := 200) (rf := rfP 197) X9 hR okX0 wC_X7_29 w_instantiable_RX0 w_initialized_RX0 fv_X0 rfl (rfP_none (by decide +kernel)) (rfP_fw (by decide +kernel)) (Nat.le_of_ble_eq_true rfl) (Nat.le_of_ble_eq_true rfl) rfl rfl ⟨Nat.le_of_ble_eq_true rfl, Nat.le_of_ble_eq_true rfl⟩ dX7_init_34 ?_
  obtain ⟨G6, eG6⟩ : ∃ Gz, Gz = zG G5 200 := ⟨_, rfl⟩
  have hG6 : GR G6 := by rw [eG6]; exact hG5.zz
  rw [← eG6]
  refine a_dup (pc := 37) X9 dX7_init_37 rfl ?_
  refine a_callIN (pc := 38) X9 hR (k_X0_init_200 (G := G6)) (Nat.le_of_ble_eq_true rfl) rfl rfl (Nat.le_of_ble_eq_true rfl) nx_X7_31 w_instanceMethod_X0_init w_initialized_RX0 w_code_X0_init cpN_X0 pnN_X0 rfl (Nat.le_of_ble_eq_true rfl) ⟨Nat.le_of_ble_eq_true rfl, Nat.le_of_ble_eq_true rfl⟩ ⟨Nat.le_of_ble_eq_true rfl, Nat.le_of_ble_eq_true rfl⟩ dX7_init_38 (fun G7 pG7 hG7 => ?_)
  refine a_putR (pc := 41) (n := 206) (rf := rfP 202) (rf' := rfP 203) hI X9 okX7 5 rfl rfl rfl wF_X7_32 ⟨(Nat.le_of_ble_eq_true rfl), rfl⟩ (fun _ => ⟨rfl, rfl⟩) (rfP_s rfl rfl) dX7_init_41 ?_
  exact a_return (pc := 44) X9 E (Nat.le_of_ble_eq_true rfl) (Nat.le_of_ble_eq_true rfl) dX7_init_44 ⟨rfl, rfl, ⟨(by intro b k hb; rw [pG7.1 b k (by omega)]; rw [eG6, zG_ne (by omega)]; rw [pG5.1 b k (by omega)]; rw [eG4, zG_ne (by omega)]; rw [pG3.1 b k (by omega)]; rw [eG2, zG_ne (by omega)]; rw [eG1, zG_ne (by omega)]), trivial⟩⟩
set_option maxHeartbeats 4000000 in
set_option maxRecDepth 100000 in
theorem k_X1_init_44 {G : GH} : Mt yX1_init cX1_init 2 none 3 53 161 4288 [vr 44] (45, shF, rfP 43) G (fun v S' G' => S' = (206, shF, rfP 204) ∧ v = none ∧ ((∀ b k, b < 44 → G' b k = G b k) ∧ G' 44 1 = G 44 1 ∧ G' 44 2 = G 44 2)) noX := by
  refine Mt.ofI (l0 := [some (vr 44), none]) rfl (by decide) (Nat.le_of_ble_eq_true rfl) rfl ?_
  intro κ δ ρ0 X9 hI E hG
  replace X9 : CX κ δ RX1 cX1_init 2 none := X9
  have hR := E.rm
  refine a_aload_n (pc := 0) X9 dX1_init_0 rfl rfl ?_
  refine a_objInit (pc := 1) X9 hR wM_X1_3 (Nat.le_of_ble_eq_true rfl) (Nat.le_of_ble_eq_true rfl) dX1_init_1 ?_
  refine a_aload_n (pc := 4) X9 dX1_init_4 rfl rfl ?_
  refine a_bipush (pc := 5) X9 dX1_init_5 rfl ?_
  refine a_newrefs (pc := 7) (n := 45) (N := 8) (rf := rfP 43) X9 hR wC_X1_9 rfl (rfP_none (by decide +kernel)) (rfP_fw (by decide +kernel)) (Nat.le_of_ble_eq_true rfl) (Nat.le_of_ble_eq_true rfl) rfl rfl (Nat.le_of_ble_eq_true rfl) ⟨Nat.le_of_ble_eq_true rfl, Nat.le_of_ble_eq_true rfl⟩ dX1_init_7 ?_
  obtain ⟨G1, eG1⟩ : ∃ Gz, Gz = zG G 45 := ⟨_, rfl⟩
  have hG1 : GR G1 := by rw [eG1]; exact hG.zz
  rw [← eG1]
  refine a_putR (pc := 10) (n := 46) (rf := rfP 43) (rf' := rfP 44) hI X9 okX1 0 rfl rfl rfl wF_X1_11 ⟨(Nat.le_of_ble_eq_true rfl), rfl⟩ (fun _ => ⟨rfl, rfl⟩) (rfP_s rfl rfl) dX1_init_10 ?_
  refine a_iconst (pc := 13) X9 dX1_init_13 ?_
  refine a_istore_n (pc := 14) X9 dX1_init_14 rfl (Nat.le_of_ble_eq_true rfl) rfl rfl ?_
  refine a_iload_n (pc := 15) X9 dX1_init_15 rfl rfl ?_
  refine a_bipush (pc := 16) X9 dX1_init_16 rfl ?_
  refine a_icmp_ge (pc := 18) (tgt := 40) X9 dX1_init_18 rfl (by decide) (by decide) (fun c => absurd c (by decide)) (fun _ => ?_)
  refine a_aload_n (pc := 21) X9 dX1_init_21 rfl rfl ?_
  refine a_getR (pc := 22) (q := 45) X9 okX1 0 rfl wF_X1_11 ⟨(Nat.le_of_ble_eq_true rfl), rfl⟩ rfl dX1_init_22 ?_
  refine a_iload_n (pc := 25) X9 dX1_init_25 rfl rfl ?_
  refine a_new (pc := 26) (n := 46) (rf := rfP 44) X9 hR okX7 wC_X1_9 w_instantiable_RX7 w_initialized_RX7 fv_X7 rfl (rfP_none (by decide +kernel)) (rfP_fw (by decide +kernel)) (Nat.le_of_ble_eq_true rfl) (Nat.le_of_ble_eq_true rfl) rfl rfl ⟨Nat.le_of_ble_eq_true rfl, Nat.le_of_ble_eq_true rfl⟩ dX1_init_26 ?_
  obtain ⟨G2, eG2⟩ : ∃ Gz, Gz = zG G1 46 := ⟨_, rfl⟩
  have hG2 : GR G2 := by rw [eG2]; exact hG1.zz
  rw [← eG2]
  refine a_dup (pc := 29) X9 dX1_init_29 rfl ?_
  refine a_callIN (pc := 30) X9 hR (k_X7_init_46 (G := G2)) (Nat.le_of_ble_eq_true rfl) rfl rfl (Nat.le_of_ble_eq_true rfl) nx_X1_17 w_instanceMethod_X7_init w_initialized_RX7 w_code_X7_init cpN_X7 pnN_X7 rfl (Nat.le_of_ble_eq_true rfl) ⟨Nat.le_of_ble_eq_true rfl, Nat.le_of_ble_eq_true rfl⟩ ⟨Nat.le_of_ble_eq_true rfl, Nat.le_of_ble_eq_true rfl⟩ dX1_init_30 (fun G3 pG3 hG3 => ?_)
  refine a_aast (pc := 33) (n := 66) (j := 0) (rf := rfP 63) (rf' := rfP 64) X9 ⟨(Nat.le_of_ble_eq_true rfl), rfl⟩ ⟨(Nat.le_of_ble_eq_true rfl), rfl⟩ (Nat.le_of_ble_eq_true rfl) rfl (Nat.le_of_ble_eq_true rfl) (rfP_s rfl rfl) dX1_init_33 ?_
  refine a_iinc (pc := 34) X9 dX1_init_34 rfl (Nat.le_of_ble_eq_true rfl) rfl rfl ?_
  refine a_goto (pc := 37) (tgt := 15) X9 dX1_init_37 rfl ?_
  refine a_iload_n (pc := 15) X9 dX1_init_15 rfl rfl ?_
  refine a_bipush (pc := 16) X9 dX1_init_16 rfl ?_
  refine a_icmp_ge (pc := 18) (tgt := 40) X9 dX1_init_18 rfl (by decide) (by decide) (fun c => absurd c (by decide)) (fun _ => ?_)
  refine a_aload_n (pc := 21) X9 dX1_init_21 rfl rfl ?_
  refine a_getR (pc := 22) (q := 45) X9 okX1 0 rfl wF_X1_11 ⟨(Nat.le_of_ble_eq_true rfl), rfl⟩ rfl dX1_init_22 ?_
  refine a_iload_n (pc := 25) X9 dX1_init_25 rfl rfl ?_
  refine a_new (pc := 26) (n := 66) (rf := rfP 64) X9 hR okX7 wC_X1_9 w_instantiable_RX7 w_initialized_RX7 fv_X7 rfl (rfP_none (by decide +kernel)) (rfP_fw (by decide +kernel)) (Nat.le_of_ble_eq_true rfl) (Nat.le_of_ble_eq_true rfl) rfl rfl ⟨Nat.le_of_ble_eq_true rfl, Nat.le_of_ble_eq_true rfl⟩ dX1_init_26 ?_
  obtain ⟨G4, eG4⟩ : ∃ Gz, Gz = zG G3 66 := ⟨_, rfl⟩
  have hG4 : GR G4 := by rw [eG4]; exact hG3.zz
  rw [← eG4]
  refine a_dup (pc := 29) X9 dX1_init_29 rfl ?_
  refine a_callIN (pc := 30) X9 hR (k_X7_init_66 (G := G4)) (Nat.le_of_ble_eq_true rfl) rfl rfl (Nat.le_of_ble_eq_true rfl) nx_X1_17 w_instanceMethod_X7_init w_initialized_RX7 w_code_X7_init cpN_X7 pnN_X7 rfl (Nat.le_of_ble_eq_true rfl) ⟨Nat.le_of_ble_eq_true rfl, Nat.le_of_ble_eq_true rfl⟩ ⟨Nat.le_of_ble_eq_true rfl, Nat.le_of_ble_eq_true rfl⟩ dX1_init_30 (fun G5 pG5 hG5 => ?_)
  refine a_aast (pc := 33) (n := 86) (j := 1) (rf := rfP 83) (rf' := rfP 84) X9 ⟨(Nat.le_of_ble_eq_true rfl), rfl⟩ ⟨(Nat.le_of_ble_eq_true rfl), rfl⟩ (Nat.le_of_ble_eq_true rfl) rfl (Nat.le_of_ble_eq_true rfl) (rfP_s rfl rfl) dX1_init_33 ?_
  refine a_iinc (pc := 34) X9 dX1_init_34 rfl (Nat.le_of_ble_eq_true rfl) rfl rfl ?_
  refine a_goto (pc := 37) (tgt := 15) X9 dX1_init_37 rfl ?_
  refine a_iload_n (pc := 15) X9 dX1_init_15 rfl rfl ?_
  refine a_bipush (pc := 16) X9 dX1_init_16 rfl ?_
  refine a_icmp_ge (pc := 18) (tgt := 40) X9 dX1_init_18 rfl (by decide) (by decide) (fun c => absurd c (by decide)) (fun _ => ?_)
  refine a_aload_n (pc := 21) X9 dX1_init_21 rfl rfl ?_
  refine a_getR (pc := 22) (q := 45) X9 okX1 0 rfl wF_X1_11 ⟨(Nat.le_of_ble_eq_true rfl), rfl⟩ rfl dX1_init_22 ?_
  refine a_iload_n (pc := 25) X9 dX1_init_25 rfl rfl ?_
  refine a_new (pc := 26) (n := 86) (rf := rfP 84) X9 hR okX7 wC_X1_9 w_instantiable_RX7 w_initialized_RX7 fv_X7 rfl (rfP_none (by decide +kernel)) (rfP_fw (by decide +kernel)) (Nat.le_of_ble_eq_true rfl) (Nat.le_of_ble_eq_true rfl) rfl rfl ⟨Nat.le_of_ble_eq_true rfl, Nat.le_of_ble_eq_true rfl⟩ dX1_init_26 ?_
  obtain ⟨G6, eG6⟩ : ∃ Gz, Gz = zG G5 86 := ⟨_, rfl⟩
  have hG6 : GR G6 := by rw [eG6]; exact hG5.zz
  rw [← eG6]
  refine a_dup (pc := 29) X9 dX1_init_29 rfl ?_
  refine a_callIN (pc := 30) X9 hR (k_X7_init_86 (G := G6)) (Nat.le_of_ble_eq_true rfl) rfl rfl (Nat.le_of_ble_eq_true rfl) nx_X1_17 w_instanceMethod_X7_init w_initialized_RX7 w_code_X7_init cpN_X7 pnN_X7 rfl (Nat.le_of_ble_eq_true rfl) ⟨Nat.le_of_ble_eq_true rfl, Nat.le_of_ble_eq_true rfl⟩ ⟨Nat.le_of_ble_eq_true rfl, Nat.le_of_ble_eq_true rfl⟩ dX1_init_30 (fun G7 pG7 hG7 => ?_)
  refine a_aast (pc := 33) (n := 106) (j := 2) (rf := rfP 103) (rf' := rfP 104) X9 ⟨(Nat.le_of_ble_eq_true rfl), rfl⟩ ⟨(Nat.le_of_ble_eq_true rfl), rfl⟩ (Nat.le_of_ble_eq_true rfl) rfl (Nat.le_of_ble_eq_true rfl) (rfP_s rfl rfl) dX1_init_33 ?_
  refine a_iinc (pc := 34) X9 dX1_init_34 rfl (Nat.le_of_ble_eq_true rfl) rfl rfl ?_
  refine a_goto (pc := 37) (tgt := 15) X9 dX1_init_37 rfl ?_
  refine a_iload_n (pc := 15) X9 dX1_init_15 rfl rfl ?_
  refine a_bipush (pc := 16) X9 dX1_init_16 rfl ?_
  refine a_icmp_ge (pc := 18) (tgt := 40) X9 dX1_init_18 rfl (by decide) (by decide) (fun c => absurd c (by decide)) (fun _ => ?_)
  refine a_aload_n (pc := 21) X9 dX1_init_21 rfl rfl ?_
  refine a_getR (pc := 22) (q := 45) X9 okX1 0 rfl wF_X1_11 ⟨(Nat.le_of_ble_eq_true rfl), rfl⟩ rfl dX1_init_22 ?_
  refine a_iload_n (pc := 25) X9 dX1_init_25 rfl rfl ?_
  refine a_new (pc := 26) (n := 106) (rf := rfP 104) X9 hR okX7 wC_X1_9 w_instantiable_RX7 w_initialized_RX7 fv_X7 rfl (rfP_none (by decide +kernel)) (rfP_fw (by decide +kernel)) (Nat.le_of_ble_eq_true rfl) (Nat.le_of_ble_eq_true rfl) rfl rfl ⟨Nat.le_of_ble_eq_true rfl, Nat.le_of_ble_eq_true rfl⟩ dX1_init_26 ?_
  obtain ⟨G8, eG8⟩ : ∃ Gz, Gz = zG G7 106 := ⟨_, rfl⟩
  have hG8 : GR G8 := by rw [eG8]; exact hG7.zz
  rw [← eG8]
  refine a_dup (pc := 29) X9 dX1_init_29 rfl ?_
  refine a_callIN (pc := 30) X9 hR (k_X7_init_106 (G := G8)) (Nat.le_of_ble_eq_true rfl) rfl rfl (Nat.le_of_ble_eq_true rfl) nx_X1_17 w_instanceMethod_X7_init w_initialized_RX7 w_code_X7_init cpN_X7 pnN_X7 rfl (Nat.le_of_ble_eq_true rfl) ⟨Nat.le_of_ble_eq_true rfl, Nat.le_of_ble_eq_true rfl⟩ ⟨Nat.le_of_ble_eq_true rfl, Nat.le_of_ble_eq_true rfl⟩ dX1_init_30 (fun G9 pG9 hG9 => ?_)
  refine a_aast (pc := 33) (n := 126) (j := 3) (rf := rfP 123) (rf' := rfP 124) X9 ⟨(Nat.le_of_ble_eq_true rfl), rfl⟩ ⟨(Nat.le_of_ble_eq_true rfl), rfl⟩ (Nat.le_of_ble_eq_true rfl) rfl (Nat.le_of_ble_eq_true rfl) (rfP_s rfl rfl) dX1_init_33 ?_
  refine a_iinc (pc := 34) X9 dX1_init_34 rfl (Nat.le_of_ble_eq_true rfl) rfl rfl ?_
  refine a_goto (pc := 37) (tgt := 15) X9 dX1_init_37 rfl ?_
  refine a_iload_n (pc := 15) X9 dX1_init_15 rfl rfl ?_
  refine a_bipush (pc := 16) X9 dX1_init_16 rfl ?_
  refine a_icmp_ge (pc := 18) (tgt := 40) X9 dX1_init_18 rfl (by decide) (by decide) (fun c => absurd c (by decide)) (fun _ => ?_)
  refine a_aload_n (pc := 21) X9 dX1_init_21 rfl rfl ?_
  refine a_getR (pc := 22) (q := 45) X9 okX1 0 rfl wF_X1_11 ⟨(Nat.le_of_ble_eq_true rfl), rfl⟩ rfl dX1_init_22 ?_
  refine a_iload_n (pc := 25) X9 dX1_init_25 rfl rfl ?_
  refine a_new (pc := 26) (n := 126) (rf := rfP 124) X9 hR okX7 wC_X1_9 w_instantiable_RX7 w_initialized_RX7 fv_X7 rfl (rfP_none (by decide +kernel)) (rfP_fw (by decide +kernel)) (Nat.le_of_ble_eq_true rfl) (Nat.le_of_ble_eq_true rfl) rfl rfl ⟨Nat.le_of_ble_eq_true rfl, Nat.le_of_ble_eq_true rfl⟩ dX1_init_26 ?_
  obtain ⟨G10, eG10⟩ : ∃ Gz, Gz = zG G9 126 := ⟨_, rfl⟩
  have hG10 : GR G10 := by rw [eG10]; exact hG9.zz
  rw [← eG10]
  refine a_dup (pc := 29) X9 dX1_init_29 rfl ?_
  refine a_callIN (pc := 30) X9 hR (k_X7_init_126 (G := G10)) (Nat.le_of_ble_eq_true rfl) rfl rfl (Nat.le_of_ble_eq_true rfl) nx_X1_17 w_instanceMethod_X7_init w_initialized_RX7 w_code_X7_init cpN_X7 pnN_X7 rfl (Nat.le_of_ble_eq_true rfl) ⟨Nat.le_of_ble_eq_true rfl, Nat.le_of_ble_eq_true rfl⟩ ⟨Nat.le_of_ble_eq_true rfl, Nat.le_of_ble_eq_true rfl⟩ dX1_init_30 (fun G11 pG11 hG11 => ?_)
  refine a_aast (pc := 33) (n := 146) (j := 4) (rf := rfP 143) (rf' := rfP 144) X9 ⟨(Nat.le_of_ble_eq_true rfl), rfl⟩ ⟨(Nat.le_of_ble_eq_true rfl), rfl⟩ (Nat.le_of_ble_eq_true rfl) rfl (Nat.le_of_ble_eq_true rfl) (rfP_s rfl rfl) dX1_init_33 ?_
  refine a_iinc (pc := 34) X9 dX1_init_34 rfl (Nat.le_of_ble_eq_true rfl) rfl rfl ?_
  refine a_goto (pc := 37) (tgt := 15) X9 dX1_init_37 rfl ?_
  refine a_iload_n (pc := 15) X9 dX1_init_15 rfl rfl ?_
  refine a_bipush (pc := 16) X9 dX1_init_16 rfl ?_
  refine a_icmp_ge (pc := 18) (tgt := 40) X9 dX1_init_18 rfl (by decide) (by decide) (fun c => absurd c (by decide)) (fun _ => ?_)
  refine a_aload_n (pc := 21) X9 dX1_init_21 rfl rfl ?_
  refine a_getR (pc := 22) (q := 45) X9 okX1 0 rfl wF_X1_11 ⟨(Nat.le_of_ble_eq_true rfl), rfl⟩ rfl dX1_init_22 ?_
  refine a_iload_n (pc := 25) X9 dX1_init_25 rfl rfl ?_
  refine a_new (pc := 26) (n := 146) (rf := rfP 144) X9 hR okX7 wC_X1_9 w_instantiable_RX7 w_initialized_RX7 fv_X7 rfl (rfP_none (by decide +kernel)) (rfP_fw (by decide +kernel)) (Nat.le_of_ble_eq_true rfl) (Nat.le_of_ble_eq_true rfl) rfl rfl ⟨Nat.le_of_ble_eq_true rfl, Nat.le_of_ble_eq_true rfl⟩ dX1_init_26 ?_
  obtain ⟨G12, eG12⟩ : ∃ Gz, Gz = zG G11 146 := ⟨_, rfl⟩
  have hG12 : GR G12 := by rw [eG12]; exact hG11.zz
  rw [← eG12]
  refine a_dup (pc := 29) X9 dX1_init_29 rfl ?_
  refine a_callIN (pc := 30) X9 hR (k_X7_init_146 (G := G12)) (Nat.le_of_ble_eq_true rfl) rfl rfl (Nat.le_of_ble_eq_true rfl) nx_X1_17 w_instanceMethod_X7_init w_initialized_RX7 w_code_X7_init cpN_X7 pnN_X7 rfl (Nat.le_of_ble_eq_true rfl) ⟨Nat.le_of_ble_eq_true rfl, Nat.le_of_ble_eq_true rfl⟩ ⟨Nat.le_of_ble_eq_true rfl, Nat.le_of_ble_eq_true rfl⟩ dX1_init_30 (fun G13 pG13 hG13 => ?_)
  refine a_aast (pc := 33) (n := 166) (j := 5) (rf := rfP 163) (rf' := rfP 164) X9 ⟨(Nat.le_of_ble_eq_true rfl), rfl⟩ ⟨(Nat.le_of_ble_eq_true rfl), rfl⟩ (Nat.le_of_ble_eq_true rfl) rfl (Nat.le_of_ble_eq_true rfl) (rfP_s rfl rfl) dX1_init_33 ?_
  refine a_iinc (pc := 34) X9 dX1_init_34 rfl (Nat.le_of_ble_eq_true rfl) rfl rfl ?_
  refine a_goto (pc := 37) (tgt := 15) X9 dX1_init_37 rfl ?_
  refine a_iload_n (pc := 15) X9 dX1_init_15 rfl rfl ?_
  refine a_bipush (pc := 16) X9 dX1_init_16 rfl ?_
  refine a_icmp_ge (pc := 18) (tgt := 40) X9 dX1_init_18 rfl (by decide) (by decide) (fun c => absurd c (by decide)) (fun _ => ?_)
  refine a_aload_n (pc := 21) X9 dX1_init_21 rfl rfl ?_
  refine a_getR (pc := 22) (q := 45) X9 okX1 0 rfl wF_X1_11 ⟨(Nat.le_of_ble_eq_true rfl), rfl⟩ rfl dX1_init_22 ?_
  refine a_iload_n (pc := 25) X9 dX1_init_25 rfl rfl ?_
  refine a_new (pc := 26) (n := 166) (rf := rfP 164) X9 hR okX7 wC_X1_9 w_instantiable_RX7 w_initialized_RX7 fv_X7 rfl (rfP_none (by decide +kernel)) (rfP_fw (by decide +kernel)) (Nat.le_of_ble_eq_true rfl) (Nat.le_of_ble_eq_true rfl) rfl rfl ⟨Nat.le_of_ble_eq_true rfl, Nat.le_of_ble_eq_true rfl⟩ dX1_init_26 ?_
  obtain ⟨G14, eG14⟩ : ∃ Gz, Gz = zG G13 166 := ⟨_, rfl⟩
  have hG14 : GR G14 := by rw [eG14]; exact hG13.zz
  rw [← eG14]
  refine a_dup (pc := 29) X9 dX1_init_29 rfl ?_
  refine a_callIN (pc := 30) X9 hR (k_X7_init_166 (G := G14)) (Nat.le_of_ble_eq_true rfl) rfl rfl (Nat.le_of_ble_eq_true rfl) nx_X1_17 w_instanceMethod_X7_init w_initialized_RX7 w_code_X7_init cpN_X7 pnN_X7 rfl (Nat.le_of_ble_eq_true rfl) ⟨Nat.le_of_ble_eq_true rfl, Nat.le_of_ble_eq_true rfl⟩ ⟨Nat.le_of_ble_eq_true rfl, Nat.le_of_ble_eq_true rfl⟩ dX1_init_30 (fun G15 pG15 hG15 => ?_)
  refine a_aast (pc := 33) (n := 186) (j := 6) (rf := rfP 183) (rf' := rfP 184) X9 ⟨(Nat.le_of_ble_eq_true rfl), rfl⟩ ⟨(Nat.le_of_ble_eq_true rfl), rfl⟩ (Nat.le_of_ble_eq_true rfl) rfl (Nat.le_of_ble_eq_true rfl) (rfP_s rfl rfl) dX1_init_33 ?_
  refine a_iinc (pc := 34) X9 dX1_init_34 rfl (Nat.le_of_ble_eq_true rfl) rfl rfl ?_
  refine a_goto (pc := 37) (tgt := 15) X9 dX1_init_37 rfl ?_
  refine a_iload_n (pc := 15) X9 dX1_init_15 rfl rfl ?_
  refine a_bipush (pc := 16) X9 dX1_init_16 rfl ?_
  refine a_icmp_ge (pc := 18) (tgt := 40) X9 dX1_init_18 rfl (by decide) (by decide) (fun c => absurd c (by decide)) (fun _ => ?_)
  refine a_aload_n (pc := 21) X9 dX1_init_21 rfl rfl ?_
  refine a_getR (pc := 22) (q := 45) X9 okX1 0 rfl wF_X1_11 ⟨(Nat.le_of_ble_eq_true rfl), rfl⟩ rfl dX1_init_22 ?_
  refine a_iload_n (pc := 25) X9 dX1_init_25 rfl rfl ?_
  refine a_new (pc := 26) (n := 186) (rf := rfP 184) X9 hR okX7 wC_X1_9 w_instantiable_RX7 w_initialized_RX7 fv_X7 rfl (rfP_none (by decide +kernel)) (rfP_fw (by decide +kernel)) (Nat.le_of_ble_eq_true rfl) (Nat.le_of_ble_eq_true rfl) rfl rfl ⟨Nat.le_of_ble_eq_true rfl, Nat.le_of_ble_eq_true rfl⟩ dX1_init_26 ?_
  obtain ⟨G16, eG16⟩ : ∃ Gz, Gz = zG G15 186 := ⟨_, rfl⟩
  have hG16 : GR G16 := by rw [eG16]; exact hG15.zz
  rw [← eG16]
  refine a_dup (pc := 29) X9 dX1_init_29 rfl ?_
  refine a_callIN (pc := 30) X9 hR (k_X7_init_186 (G := G16)) (Nat.le_of_ble_eq_true rfl) rfl rfl (Nat.le_of_ble_eq_true rfl) nx_X1_17 w_instanceMethod_X7_init w_initialized_RX7 w_code_X7_init cpN_X7 pnN_X7 rfl (Nat.le_of_ble_eq_true rfl) ⟨Nat.le_of_ble_eq_true rfl, Nat.le_of_ble_eq_true rfl⟩ ⟨Nat.le_of_ble_eq_true rfl, Nat.le_of_ble_eq_true rfl⟩ dX1_init_30 (fun G17 pG17 hG17 => ?_)
  refine a_aast (pc := 33) (n := 206) (j := 7) (rf := rfP 203) (rf' := rfP 204) X9 ⟨(Nat.le_of_ble_eq_true rfl), rfl⟩ ⟨(Nat.le_of_ble_eq_true rfl), rfl⟩ (Nat.le_of_ble_eq_true rfl) rfl (Nat.le_of_ble_eq_true rfl) (rfP_s rfl rfl) dX1_init_33 ?_
  refine a_iinc (pc := 34) X9 dX1_init_34 rfl (Nat.le_of_ble_eq_true rfl) rfl rfl ?_
  refine a_goto (pc := 37) (tgt := 15) X9 dX1_init_37 rfl ?_
  refine a_iload_n (pc := 15) X9 dX1_init_15 rfl rfl ?_
  refine a_bipush (pc := 16) X9 dX1_init_16 rfl ?_
  refine a_icmp_ge (pc := 18) (tgt := 40) X9 dX1_init_18 rfl (by decide) (by decide) (fun _ => ?_) (fun c => absurd c (by decide))
  exact a_return (pc := 40) X9 E (Nat.le_of_ble_eq_true rfl) (Nat.le_of_ble_eq_true rfl) dX1_init_40 ⟨rfl, rfl, ⟨(by intro b k hb; rw [pG17.1 b k (by omega)]; rw [eG16, zG_ne (by omega)]; rw [pG15.1 b k (by omega)]; rw [eG14, zG_ne (by omega)]; rw [pG13.1 b k (by omega)]; rw [eG12, zG_ne (by omega)]; rw [pG11.1 b k (by omega)]; rw [eG10, zG_ne (by omega)]; rw [pG9.1 b k (by omega)]; rw [eG8, zG_ne (by omega)]; rw [pG7.1 b k (by omega)]; rw [eG6, zG_ne (by omega)]; rw [pG5.1 b k (by omega)]; rw [eG4, zG_ne (by omega)]; rw [pG3.1 b k (by omega)]; rw [eG2, zG_ne (by omega)]; rw [eG1, zG_ne (by omega)]), (by rw [pG17.1 _ _ (by decide)]; rw [eG16, zG_ne (by decide)]; rw [pG15.1 _ _ (by decide)]; rw [eG14, zG_ne (by decide)]; rw [pG13.1 _ _ (by decide)]; rw [eG12, zG_ne (by decide)]; rw [pG11.1 _ _ (by decide)]; rw [eG10, zG_ne (by decide)]; rw [pG9.1 _ _ (by decide)]; rw [eG8, zG_ne (by decide)]; rw [pG7.1 _ _ (by decide)]; rw [eG6, zG_ne (by decide)]; rw [pG5.1 _ _ (by decide)]; rw [eG4, zG_ne (by decide)]; rw [pG3.1 _ _ (by decide)]; rw [eG2, zG_ne (by decide)]; rw [eG1, zG_ne (by decide)]), (by rw [pG17.1 _ _ (by decide)]; rw [eG16, zG_ne (by decide)]; rw [pG15.1 _ _ (by decide)]; rw [eG14, zG_ne (by decide)]; rw [pG13.1 _ _ (by decide)]; rw [eG12, zG_ne (by decide)]; rw [pG11.1 _ _ (by decide)]; rw [eG10, zG_ne (by decide)]; rw [pG9.1 _ _ (by decide)]; rw [eG8, zG_ne (by decide)]; rw [pG7.1 _ _ (by decide)]; rw [eG6, zG_ne (by decide)]; rw [pG5.1 _ _ (by decide)]; rw [eG4, zG_ne (by decide)]; rw [pG3.1 _ _ (by decide)]; rw [eG2, zG_ne (by decide)]; rw [eG1, zG_ne (by decide)])⟩⟩
set_option maxHeartbeats 4000000 in
set_option maxRecDepth 100000 in
theorem k_X2_init_209 {G : GH} : Mt yX2_init cX2_init 1 none 1 13 8 632 [vr 209] (210, shF, rfP 207) G (fun v S' G' => S' = (218, shF, rfP 215) ∧ v = none ∧ ((∀ b k, b < 209 → G' b k = G b k) ∧ True)) noX := by
  refine Mt.ofI (l0 := [some (vr 209)]) rfl (by decide) (Nat.le_of_ble_eq_true rfl) rfl ?_
  intro κ δ ρ0 X9 hI E hG
  replace X9 : CX κ δ RX2 cX2_init 1 none := X9
  have hR := E.rm
  refine a_aload_n (pc := 0) X9 dX2_init_0 rfl rfl ?_
  refine a_objInit (pc := 1) X9 hR wM_X2_3 (Nat.le_of_ble_eq_true rfl) (Nat.le_of_ble_eq_true rfl) dX2_init_1 ?_
  refine a_aload_n (pc := 4) X9 dX2_init_4 rfl rfl ?_
  refine a_bipush (pc := 5) X9 dX2_init_5 rfl ?_
  refine a_newarr (atype := .int) (pc := 7) (n := 210) (N := 43) (t := 0) (rf := rfP 207) X9 hR (Nat.le_of_ble_eq_true rfl) rfl (fun C h => by cases h) w_arrayClass__int rfl rfl (rfP_fw (by decide +kernel)) (Nat.le_of_ble_eq_true rfl) (Nat.le_of_ble_eq_true rfl) rfl rfl (Nat.le_of_ble_eq_true rfl) (Nat.le_of_ble_eq_true rfl) ⟨Nat.le_of_ble_eq_true rfl, Nat.le_of_ble_eq_true rfl⟩ dX2_init_7 ?_
  obtain ⟨G1, eG1⟩ : ∃ Gz, Gz = zG G 210 := ⟨_, rfl⟩
  have hG1 : GR G1 := by rw [eG1]; exact hG.zz
  rw [← eG1]
  refine a_putR (pc := 9) (n := 211) (rf := rfP 207) (rf' := rfP 208) hI X9 okX2 1 rfl rfl rfl wF_X2_11 ⟨(Nat.le_of_ble_eq_true rfl), rfl⟩ (fun _ => ⟨rfl, rfl⟩) (rfP_s rfl rfl) dX2_init_9 ?_
  refine a_aload_n (pc := 12) X9 dX2_init_12 rfl rfl ?_
  refine a_bipush (pc := 13) X9 dX2_init_13 rfl ?_
  refine a_newarr (atype := .int) (pc := 15) (n := 211) (N := 43) (t := 0) (rf := rfP 208) X9 hR (Nat.le_of_ble_eq_true rfl) rfl (fun C h => by cases h) w_arrayClass__int rfl rfl (rfP_fw (by decide +kernel)) (Nat.le_of_ble_eq_true rfl) (Nat.le_of_ble_eq_true rfl) rfl rfl (Nat.le_of_ble_eq_true rfl) (Nat.le_of_ble_eq_true rfl) ⟨Nat.le_of_ble_eq_true rfl, Nat.le_of_ble_eq_true rfl⟩ dX2_init_15 ?_
  obtain ⟨G2, eG2⟩ : ∃ Gz, Gz = zG G1 211 := ⟨_, rfl⟩
  have hG2 : GR G2 := by rw [eG2]; exact hG1.zz
  rw [← eG2]
  refine a_putR (pc := 17) (n := 212) (rf := rfP 208) (rf' := rfP 209) hI X9 okX2 2 rfl rfl rfl wF_X2_15 ⟨(Nat.le_of_ble_eq_true rfl), rfl⟩ (fun _ => ⟨rfl, rfl⟩) (rfP_s rfl rfl) dX2_init_17 ?_
  refine a_aload_n (pc := 20) X9 dX2_init_20 rfl rfl ?_
  refine a_bipush (pc := 21) X9 dX2_init_21 rfl ?_
  refine a_newarr (atype := .int) (pc := 23) (n := 212) (N := 43) (t := 0) (rf := rfP 209) X9 hR (Nat.le_of_ble_eq_true rfl) rfl (fun C h => by cases h) w_arrayClass__int rfl rfl (rfP_fw (by decide +kernel)) (Nat.le_of_ble_eq_true rfl) (Nat.le_of_ble_eq_true rfl) rfl rfl (Nat.le_of_ble_eq_true rfl) (Nat.le_of_ble_eq_true rfl) ⟨Nat.le_of_ble_eq_true rfl, Nat.le_of_ble_eq_true rfl⟩ dX2_init_23 ?_
  obtain ⟨G3, eG3⟩ : ∃ Gz, Gz = zG G2 212 := ⟨_, rfl⟩
  have hG3 : GR G3 := by rw [eG3]; exact hG2.zz
  rw [← eG3]
  refine a_putR (pc := 25) (n := 213) (rf := rfP 209) (rf' := rfP 210) hI X9 okX2 3 rfl rfl rfl wF_X2_18 ⟨(Nat.le_of_ble_eq_true rfl), rfl⟩ (fun _ => ⟨rfl, rfl⟩) (rfP_s rfl rfl) dX2_init_25 ?_
  refine a_aload_n (pc := 28) X9 dX2_init_28 rfl rfl ?_
  refine a_bipush (pc := 29) X9 dX2_init_29 rfl ?_
  refine a_newarr (atype := .int) (pc := 31) (n := 213) (N := 43) (t := 0) (rf := rfP 210) X9 hR (Nat.le_of_ble_eq_true rfl) rfl (fun C h => by cases h) w_arrayClass__int rfl rfl (rfP_fw (by decide +kernel)) (Nat.le_of_ble_eq_true rfl) (Nat.le_of_ble_eq_true rfl) rfl rfl (Nat.le_of_ble_eq_true rfl) (Nat.le_of_ble_eq_true rfl) ⟨Nat.le_of_ble_eq_true rfl, Nat.le_of_ble_eq_true rfl⟩ dX2_init_31 ?_
  obtain ⟨G4, eG4⟩ : ∃ Gz, Gz = zG G3 213 := ⟨_, rfl⟩
  have hG4 : GR G4 := by rw [eG4]; exact hG3.zz
  rw [← eG4]
  refine a_putR (pc := 33) (n := 214) (rf := rfP 210) (rf' := rfP 211) hI X9 okX2 4 rfl rfl rfl wF_X2_21 ⟨(Nat.le_of_ble_eq_true rfl), rfl⟩ (fun _ => ⟨rfl, rfl⟩) (rfP_s rfl rfl) dX2_init_33 ?_
  refine a_aload_n (pc := 36) X9 dX2_init_36 rfl rfl ?_
  refine a_sipush (pc := 37) X9 dX2_init_37 rfl ?_
  refine a_newarr (atype := .int) (pc := 40) (n := 214) (N := 430) (t := 0) (rf := rfP 211) X9 hR (Nat.le_of_ble_eq_true rfl) rfl (fun C h => by cases h) w_arrayClass__int rfl rfl (rfP_fw (by decide +kernel)) (Nat.le_of_ble_eq_true rfl) (Nat.le_of_ble_eq_true rfl) rfl rfl (Nat.le_of_ble_eq_true rfl) (Nat.le_of_ble_eq_true rfl) ⟨Nat.le_of_ble_eq_true rfl, Nat.le_of_ble_eq_true rfl⟩ dX2_init_40 ?_
  obtain ⟨G5, eG5⟩ : ∃ Gz, Gz = zG G4 214 := ⟨_, rfl⟩
  have hG5 : GR G5 := by rw [eG5]; exact hG4.zz
  rw [← eG5]
  refine a_putR (pc := 42) (n := 215) (rf := rfP 211) (rf' := rfP 212) hI X9 okX2 5 rfl rfl rfl wF_X2_24 ⟨(Nat.le_of_ble_eq_true rfl), rfl⟩ (fun _ => ⟨rfl, rfl⟩) (rfP_s rfl rfl) dX2_init_42 ?_
  refine a_aload_n (pc := 45) X9 dX2_init_45 rfl rfl ?_
  refine a_bipush (pc := 46) X9 dX2_init_46 rfl ?_
  refine a_newarr (atype := .int) (pc := 48) (n := 215) (N := 10) (t := 0) (rf := rfP 212) X9 hR (Nat.le_of_ble_eq_true rfl) rfl (fun C h => by cases h) w_arrayClass__int rfl rfl (rfP_fw (by decide +kernel)) (Nat.le_of_ble_eq_true rfl) (Nat.le_of_ble_eq_true rfl) rfl rfl (Nat.le_of_ble_eq_true rfl) (Nat.le_of_ble_eq_true rfl) ⟨Nat.le_of_ble_eq_true rfl, Nat.le_of_ble_eq_true rfl⟩ dX2_init_48 ?_
  obtain ⟨G6, eG6⟩ : ∃ Gz, Gz = zG G5 215 := ⟨_, rfl⟩
  have hG6 : GR G6 := by rw [eG6]; exact hG5.zz
  rw [← eG6]
  refine a_putR (pc := 50) (n := 216) (rf := rfP 212) (rf' := rfP 213) hI X9 okX2 6 rfl rfl rfl wF_X2_27 ⟨(Nat.le_of_ble_eq_true rfl), rfl⟩ (fun _ => ⟨rfl, rfl⟩) (rfP_s rfl rfl) dX2_init_50 ?_
  refine a_aload_n (pc := 53) X9 dX2_init_53 rfl rfl ?_
  refine a_bipush (pc := 54) X9 dX2_init_54 rfl ?_
  refine a_newarr (atype := .int) (pc := 56) (n := 216) (N := 10) (t := 0) (rf := rfP 213) X9 hR (Nat.le_of_ble_eq_true rfl) rfl (fun C h => by cases h) w_arrayClass__int rfl rfl (rfP_fw (by decide +kernel)) (Nat.le_of_ble_eq_true rfl) (Nat.le_of_ble_eq_true rfl) rfl rfl (Nat.le_of_ble_eq_true rfl) (Nat.le_of_ble_eq_true rfl) ⟨Nat.le_of_ble_eq_true rfl, Nat.le_of_ble_eq_true rfl⟩ dX2_init_56 ?_
  obtain ⟨G7, eG7⟩ : ∃ Gz, Gz = zG G6 216 := ⟨_, rfl⟩
  have hG7 : GR G7 := by rw [eG7]; exact hG6.zz
  rw [← eG7]
  refine a_putR (pc := 58) (n := 217) (rf := rfP 213) (rf' := rfP 214) hI X9 okX2 7 rfl rfl rfl wF_X2_30 ⟨(Nat.le_of_ble_eq_true rfl), rfl⟩ (fun _ => ⟨rfl, rfl⟩) (rfP_s rfl rfl) dX2_init_58 ?_
  refine a_aload_n (pc := 61) X9 dX2_init_61 rfl rfl ?_
  refine a_bipush (pc := 62) X9 dX2_init_62 rfl ?_
  refine a_newarr (atype := .int) (pc := 64) (n := 217) (N := 10) (t := 0) (rf := rfP 214) X9 hR (Nat.le_of_ble_eq_true rfl) rfl (fun C h => by cases h) w_arrayClass__int rfl rfl (rfP_fw (by decide +kernel)) (Nat.le_of_ble_eq_true rfl) (Nat.le_of_ble_eq_true rfl) rfl rfl (Nat.le_of_ble_eq_true rfl) (Nat.le_of_ble_eq_true rfl) ⟨Nat.le_of_ble_eq_true rfl, Nat.le_of_ble_eq_true rfl⟩ dX2_init_64 ?_
  obtain ⟨G8, eG8⟩ : ∃ Gz, Gz = zG G7 217 := ⟨_, rfl⟩
  have hG8 : GR G8 := by rw [eG8]; exact hG7.zz
  rw [← eG8]
  refine a_putR (pc := 66) (n := 218) (rf := rfP 214) (rf' := rfP 215) hI X9 okX2 8 rfl rfl rfl wF_X2_33 ⟨(Nat.le_of_ble_eq_true rfl), rfl⟩ (fun _ => ⟨rfl, rfl⟩) (rfP_s rfl rfl) dX2_init_66 ?_
  exact a_return (pc := 69) X9 E (Nat.le_of_ble_eq_true rfl) (Nat.le_of_ble_eq_true rfl) dX2_init_69 ⟨rfl, rfl, ⟨(by intro b k hb; rw [eG8, zG_ne (by omega)]; rw [eG7, zG_ne (by omega)]; rw [eG6, zG_ne (by omega)]; rw [eG5, zG_ne (by omega)]; rw [eG4, zG_ne (by omega)]; rw [eG3, zG_ne (by omega)]; rw [eG2, zG_ne (by omega)]; rw [eG1, zG_ne (by omega)]), trivial⟩⟩
set_option maxHeartbeats 4000000 in
set_option maxRecDepth 100000 in
theorem k_X4_init_208 {G : GH} : Mt yX4_init cX4_init 1 none 2 33 9 641 [vr 208] (209, shF, rfP 207) G (fun v S' G' => S' = (218, shF, rfP 216) ∧ v = none ∧ ((∀ b k, b < 208 → G' b k = G b k) ∧ True)) noX := by
  refine Mt.ofI (l0 := [some (vr 208)]) rfl (by decide) (Nat.le_of_ble_eq_true rfl) rfl ?_
  intro κ δ ρ0 X9 hI E hG
  replace X9 : CX κ δ RX4 cX4_init 1 none := X9
  have hR := E.rm
  refine a_aload_n (pc := 0) X9 dX4_init_0 rfl rfl ?_
  refine a_objInit (pc := 1) X9 hR wM_X4_3 (Nat.le_of_ble_eq_true rfl) (Nat.le_of_ble_eq_true rfl) dX4_init_1 ?_
  refine a_aload_n (pc := 4) X9 dX4_init_4 rfl rfl ?_
  refine a_new (pc := 5) (n := 209) (rf := rfP 207) X9 hR okX2 wC_X4_9 w_instantiable_RX2 w_initialized_RX2 fv_X2 rfl (rfP_none (by decide +kernel)) (rfP_fw (by decide +kernel)) (Nat.le_of_ble_eq_true rfl) (Nat.le_of_ble_eq_true rfl) rfl rfl ⟨Nat.le_of_ble_eq_true rfl, Nat.le_of_ble_eq_true rfl⟩ dX4_init_5 ?_
  obtain ⟨G1, eG1⟩ : ∃ Gz, Gz = zG G 209 := ⟨_, rfl⟩
  have hG1 : GR G1 := by rw [eG1]; exact hG.zz
  rw [← eG1]
  refine a_dup (pc := 8) X9 dX4_init_8 rfl ?_
  refine a_callIN (pc := 9) X9 hR (k_X2_init_209 (G := G1)) (Nat.le_of_ble_eq_true rfl) rfl rfl (Nat.le_of_ble_eq_true rfl) nx_X4_11 w_instanceMethod_X2_init w_initialized_RX2 w_code_X2_init cpN_X2 pnN_X2 rfl (Nat.le_of_ble_eq_true rfl) ⟨Nat.le_of_ble_eq_true rfl, Nat.le_of_ble_eq_true rfl⟩ ⟨Nat.le_of_ble_eq_true rfl, Nat.le_of_ble_eq_true rfl⟩ dX4_init_9 (fun G2 pG2 hG2 => ?_)
  refine a_putR (pc := 12) (n := 218) (rf := rfP 215) (rf' := rfP 216) hI X9 okX4 0 rfl rfl rfl wF_X4_12 ⟨(Nat.le_of_ble_eq_true rfl), rfl⟩ (fun _ => ⟨rfl, rfl⟩) (rfP_s rfl rfl) dX4_init_12 ?_
  exact a_return (pc := 15) X9 E (Nat.le_of_ble_eq_true rfl) (Nat.le_of_ble_eq_true rfl) dX4_init_15 ⟨rfl, rfl, ⟨(by intro b k hb; rw [pG2.1 b k (by omega)]; rw [eG1, zG_ne (by omega)]), trivial⟩⟩
set_option maxHeartbeats 4000000 in
set_option maxRecDepth 100000 in
theorem k_X0_init_218 {G : GH} : Mt yX0_init cX0_init 1 none 1 13 5 222 [vr 218] (219, shF, rfP 217) G (fun v S' G' => S' = (224, shF, rfP 222) ∧ v = none ∧ ((∀ b k, b < 218 → G' b k = G b k) ∧ True)) noX := by
  refine Mt.ofI (l0 := [some (vr 218)]) rfl (by decide) (Nat.le_of_ble_eq_true rfl) rfl ?_
  intro κ δ ρ0 X9 hI E hG
  replace X9 : CX κ δ RX0 cX0_init 1 none := X9
  have hR := E.rm
  refine a_aload_n (pc := 0) X9 dX0_init_0 rfl rfl ?_
  refine a_objInit (pc := 1) X9 hR wM_X0_3 (Nat.le_of_ble_eq_true rfl) (Nat.le_of_ble_eq_true rfl) dX0_init_1 ?_
  refine a_aload_n (pc := 4) X9 dX0_init_4 rfl rfl ?_
  refine a_iconst (pc := 5) X9 dX0_init_5 ?_
  refine a_putI (pc := 6) X9 okX0 0 rfl rfl wF_X0_9 ⟨(Nat.le_of_ble_eq_true rfl), rfl⟩ dX0_init_6 (by decide) (fit_int _) (fun _ => ?_)
  obtain ⟨G1, eG1⟩ : ∃ Gz, Gz = upG G 218 0 (-1) := ⟨_, rfl⟩
  have hG1 : GR G1 := by rw [eG1]; exact GR.up hG (by decide)
  rw [← eG1]
  refine a_aload_n (pc := 9) X9 dX0_init_9 rfl rfl ?_
  refine a_bipush (pc := 10) X9 dX0_init_10 rfl ?_
  refine a_newarr (atype := .int) (pc := 12) (n := 219) (N := 18) (t := 0) (rf := rfP 217) X9 hR (Nat.le_of_ble_eq_true rfl) rfl (fun C h => by cases h) w_arrayClass__int rfl rfl (rfP_fw (by decide +kernel)) (Nat.le_of_ble_eq_true rfl) (Nat.le_of_ble_eq_true rfl) rfl rfl (Nat.le_of_ble_eq_true rfl) (Nat.le_of_ble_eq_true rfl) ⟨Nat.le_of_ble_eq_true rfl, Nat.le_of_ble_eq_true rfl⟩ dX0_init_12 ?_
  obtain ⟨G2, eG2⟩ : ∃ Gz, Gz = zG G1 219 := ⟨_, rfl⟩
  have hG2 : GR G2 := by rw [eG2]; exact hG1.zz
  rw [← eG2]
  refine a_putR (pc := 14) (n := 220) (rf := rfP 217) (rf' := rfP 218) hI X9 okX0 1 rfl rfl rfl wF_X0_15 ⟨(Nat.le_of_ble_eq_true rfl), rfl⟩ (fun _ => ⟨rfl, rfl⟩) (rfP_s rfl rfl) dX0_init_14 ?_
  refine a_aload_n (pc := 17) X9 dX0_init_17 rfl rfl ?_
  refine a_bipush (pc := 18) X9 dX0_init_18 rfl ?_
  refine a_newarr (atype := .int) (pc := 20) (n := 220) (N := 54) (t := 0) (rf := rfP 218) X9 hR (Nat.le_of_ble_eq_true rfl) rfl (fun C h => by cases h) w_arrayClass__int rfl rfl (rfP_fw (by decide +kernel)) (Nat.le_of_ble_eq_true rfl) (Nat.le_of_ble_eq_true rfl) rfl rfl (Nat.le_of_ble_eq_true rfl) (Nat.le_of_ble_eq_true rfl) ⟨Nat.le_of_ble_eq_true rfl, Nat.le_of_ble_eq_true rfl⟩ dX0_init_20 ?_
  obtain ⟨G3, eG3⟩ : ∃ Gz, Gz = zG G2 220 := ⟨_, rfl⟩
  have hG3 : GR G3 := by rw [eG3]; exact hG2.zz
  rw [← eG3]
  refine a_putR (pc := 22) (n := 221) (rf := rfP 218) (rf' := rfP 219) hI X9 okX0 2 rfl rfl rfl wF_X0_19 ⟨(Nat.le_of_ble_eq_true rfl), rfl⟩ (fun _ => ⟨rfl, rfl⟩) (rfP_s rfl rfl) dX0_init_22 ?_
  refine a_aload_n (pc := 25) X9 dX0_init_25 rfl rfl ?_
  refine a_bipush (pc := 26) X9 dX0_init_26 rfl ?_
  refine a_newarr (atype := .int) (pc := 28) (n := 221) (N := 54) (t := 0) (rf := rfP 219) X9 hR (Nat.le_of_ble_eq_true rfl) rfl (fun C h => by cases h) w_arrayClass__int rfl rfl (rfP_fw (by decide +kernel)) (Nat.le_of_ble_eq_true rfl) (Nat.le_of_ble_eq_true rfl) rfl rfl (Nat.le_of_ble_eq_true rfl) (Nat.le_of_ble_eq_true rfl) ⟨Nat.le_of_ble_eq_true rfl, Nat.le_of_ble_eq_true rfl⟩ dX0_init_28 ?_
  obtain ⟨G4, eG4⟩ : ∃ Gz, Gz = zG G3 221 := ⟨_, rfl⟩
  have hG4 : GR G4 := by rw [eG4]; exact hG3.zz
  rw [← eG4]
  refine a_putR (pc := 30) (n := 222) (rf := rfP 219) (rf' := rfP 220) hI X9 okX0 3 rfl rfl rfl wF_X0_22 ⟨(Nat.le_of_ble_eq_true rfl), rfl⟩ (fun _ => ⟨rfl, rfl⟩) (rfP_s rfl rfl) dX0_init_30 ?_
  refine a_aload_n (pc := 33) X9 dX0_init_33 rfl rfl ?_
  refine a_bipush (pc := 34) X9 dX0_init_34 rfl ?_
  refine a_newarr (atype := .int) (pc := 36) (n := 222) (N := 54) (t := 0) (rf := rfP 220) X9 hR (Nat.le_of_ble_eq_true rfl) rfl (fun C h => by cases h) w_arrayClass__int rfl rfl (rfP_fw (by decide +kernel)) (Nat.le_of_ble_eq_true rfl) (Nat.le_of_ble_eq_true rfl) rfl rfl (Nat.le_of_ble_eq_true rfl) (Nat.le_of_ble_eq_true rfl) ⟨Nat.le_of_ble_eq_true rfl, Nat.le_of_ble_eq_true rfl⟩ dX0_init_36 ?_
  obtain ⟨G5, eG5⟩ : ∃ Gz, Gz = zG G4 222 := ⟨_, rfl⟩
  have hG5 : GR G5 := by rw [eG5]; exact hG4.zz
  rw [← eG5]
  refine a_putR (pc := 38) (n := 223) (rf := rfP 220) (rf' := rfP 221) hI X9 okX0 4 rfl rfl rfl wF_X0_25 ⟨(Nat.le_of_ble_eq_true rfl), rfl⟩ (fun _ => ⟨rfl, rfl⟩) (rfP_s rfl rfl) dX0_init_38 ?_
  refine a_aload_n (pc := 41) X9 dX0_init_41 rfl rfl ?_
  refine a_bipush (pc := 42) X9 dX0_init_42 rfl ?_
  refine a_newarr (atype := .int) (pc := 44) (n := 223) (N := 42) (t := 0) (rf := rfP 221) X9 hR (Nat.le_of_ble_eq_true rfl) rfl (fun C h => by cases h) w_arrayClass__int rfl rfl (rfP_fw (by decide +kernel)) (Nat.le_of_ble_eq_true rfl) (Nat.le_of_ble_eq_true rfl) rfl rfl (Nat.le_of_ble_eq_true rfl) (Nat.le_of_ble_eq_true rfl) ⟨Nat.le_of_ble_eq_true rfl, Nat.le_of_ble_eq_true rfl⟩ dX0_init_44 ?_
  obtain ⟨G6, eG6⟩ : ∃ Gz, Gz = zG G5 223 := ⟨_, rfl⟩
  have hG6 : GR G6 := by rw [eG6]; exact hG5.zz
  rw [← eG6]
  refine a_putR (pc := 46) (n := 224) (rf := rfP 221) (rf' := rfP 222) hI X9 okX0 5 rfl rfl rfl wF_X0_28 ⟨(Nat.le_of_ble_eq_true rfl), rfl⟩ (fun _ => ⟨rfl, rfl⟩) (rfP_s rfl rfl) dX0_init_46 ?_
  exact a_return (pc := 49) X9 E (Nat.le_of_ble_eq_true rfl) (Nat.le_of_ble_eq_true rfl) dX0_init_49 ⟨rfl, rfl, ⟨(by intro b k hb; rw [eG6, zG_ne (by omega)]; rw [eG5, zG_ne (by omega)]; rw [eG4, zG_ne (by omega)]; rw [eG3, zG_ne (by omega)]; rw [eG2, zG_ne (by omega)]; rw [eG1, upG_na (by omega)]), trivial⟩⟩
set_option maxHeartbeats 4000000 in
set_option maxRecDepth 100000 in
theorem k_X0_init_224 {G : GH} : Mt yX0_init cX0_init 1 none 1 13 5 222 [vr 224] (225, shF, rfP 223) G (fun v S' G' => S' = (230, shF, rfP 228) ∧ v = none ∧ ((∀ b k, b < 224 → G' b k = G b k) ∧ True)) noX := by
  refine Mt.ofI (l0 := [some (vr 224)]) rfl (by decide) (Nat.le_of_ble_eq_true rfl) rfl ?_
  intro κ δ ρ0 X9 hI E hG
  replace X9 : CX κ δ RX0 cX0_init 1 none := X9
  have hR := E.rm
  refine a_aload_n (pc := 0) X9 dX0_init_0 rfl rfl ?_
  refine a_objInit (pc := 1) X9 hR wM_X0_3 (Nat.le_of_ble_eq_true rfl) (Nat.le_of_ble_eq_true rfl) dX0_init_1 ?_
  refine a_aload_n (pc := 4) X9 dX0_init_4 rfl rfl ?_
  refine a_iconst (pc := 5) X9 dX0_init_5 ?_
  refine a_putI (pc := 6) X9 okX0 0 rfl rfl wF_X0_9 ⟨(Nat.le_of_ble_eq_true rfl), rfl⟩ dX0_init_6 (by decide) (fit_int _) (fun _ => ?_)
  obtain ⟨G1, eG1⟩ : ∃ Gz, Gz = upG G 224 0 (-1) := ⟨_, rfl⟩
  have hG1 : GR G1 := by rw [eG1]; exact GR.up hG (by decide)
  rw [← eG1]
  refine a_aload_n (pc := 9) X9 dX0_init_9 rfl rfl ?_
  refine a_bipush (pc := 10) X9 dX0_init_10 rfl ?_
  refine a_newarr (atype := .int) (pc := 12) (n := 225) (N := 18) (t := 0) (rf := rfP 223) X9 hR (Nat.le_of_ble_eq_true rfl) rfl (fun C h => by cases h) w_arrayClass__int rfl rfl (rfP_fw (by decide +kernel)) (Nat.le_of_ble_eq_true rfl) (Nat.le_of_ble_eq_true rfl) rfl rfl (Nat.le_of_ble_eq_true rfl) (Nat.le_of_ble_eq_true rfl) ⟨Nat.le_of_ble_eq_true rfl, Nat.le_of_ble_eq_true rfl⟩ dX0_init_12 ?_
  obtain ⟨G2, eG2⟩ : ∃ Gz, Gz = zG G1 225 := ⟨_, rfl⟩
  have hG2 : GR G2 := by rw [eG2]; exact hG1.zz
  rw [← eG2]
  refine a_putR (pc := 14) (n := 226) (rf := rfP 223) (rf' := rfP 224) hI X9 okX0 1 rfl rfl rfl wF_X0_15 ⟨(Nat.le_of_ble_eq_true rfl), rfl⟩ (fun _ => ⟨rfl, rfl⟩) (rfP_s rfl rfl) dX0_init_14 ?_
  refine a_aload_n (pc := 17) X9 dX0_init_17 rfl rfl ?_
  refine a_bipush (pc := 18) X9 dX0_init_18 rfl ?_
  refine a_newarr (atype := .int) (pc := 20) (n := 226) (N := 54) (t := 0) (rf := rfP 224) X9 hR (Nat.le_of_ble_eq_true rfl) rfl (fun C h => by cases h) w_arrayClass__int rfl rfl (rfP_fw (by decide +kernel)) (Nat.le_of_ble_eq_true rfl) (Nat.le_of_ble_eq_true rfl) rfl rfl (Nat.le_of_ble_eq_true rfl) (Nat.le_of_ble_eq_true rfl) ⟨Nat.le_of_ble_eq_true rfl, Nat.le_of_ble_eq_true rfl⟩ dX0_init_20 ?_
  obtain ⟨G3, eG3⟩ : ∃ Gz, Gz = zG G2 226 := ⟨_, rfl⟩
  have hG3 : GR G3 := by rw [eG3]; exact hG2.zz
  rw [← eG3]
  refine a_putR (pc := 22) (n := 227) (rf := rfP 224) (rf' := rfP 225) hI X9 okX0 2 rfl rfl rfl wF_X0_19 ⟨(Nat.le_of_ble_eq_true rfl), rfl⟩ (fun _ => ⟨rfl, rfl⟩) (rfP_s rfl rfl) dX0_init_22 ?_
  refine a_aload_n (pc := 25) X9 dX0_init_25 rfl rfl ?_
  refine a_bipush (pc := 26) X9 dX0_init_26 rfl ?_
  refine a_newarr (atype := .int) (pc := 28) (n := 227) (N := 54) (t := 0) (rf := rfP 225) X9 hR (Nat.le_of_ble_eq_true rfl) rfl (fun C h => by cases h) w_arrayClass__int rfl rfl (rfP_fw (by decide +kernel)) (Nat.le_of_ble_eq_true rfl) (Nat.le_of_ble_eq_true rfl) rfl rfl (Nat.le_of_ble_eq_true rfl) (Nat.le_of_ble_eq_true rfl) ⟨Nat.le_of_ble_eq_true rfl, Nat.le_of_ble_eq_true rfl⟩ dX0_init_28 ?_
  obtain ⟨G4, eG4⟩ : ∃ Gz, Gz = zG G3 227 := ⟨_, rfl⟩
  have hG4 : GR G4 := by rw [eG4]; exact hG3.zz
  rw [← eG4]
  refine a_putR (pc := 30) (n := 228) (rf := rfP 225) (rf' := rfP 226) hI X9 okX0 3 rfl rfl rfl wF_X0_22 ⟨(Nat.le_of_ble_eq_true rfl), rfl⟩ (fun _ => ⟨rfl, rfl⟩) (rfP_s rfl rfl) dX0_init_30 ?_
  refine a_aload_n (pc := 33) X9 dX0_init_33 rfl rfl ?_
  refine a_bipush (pc := 34) X9 dX0_init_34 rfl ?_
  refine a_newarr (atype := .int) (pc := 36) (n := 228) (N := 54) (t := 0) (rf := rfP 226) X9 hR (Nat.le_of_ble_eq_true rfl) rfl (fun C h => by cases h) w_arrayClass__int rfl rfl (rfP_fw (by decide +kernel)) (Nat.le_of_ble_eq_true rfl) (Nat.le_of_ble_eq_true rfl) rfl rfl (Nat.le_of_ble_eq_true rfl) (Nat.le_of_ble_eq_true rfl) ⟨Nat.le_of_ble_eq_true rfl, Nat.le_of_ble_eq_true rfl⟩ dX0_init_36 ?_
  obtain ⟨G5, eG5⟩ : ∃ Gz, Gz = zG G4 228 := ⟨_, rfl⟩
  have hG5 : GR G5 := by rw [eG5]; exact hG4.zz
  rw [← eG5]
  refine a_putR (pc := 38) (n := 229) (rf := rfP 226) (rf' := rfP 227) hI X9 okX0 4 rfl rfl rfl wF_X0_25 ⟨(Nat.le_of_ble_eq_true rfl), rfl⟩ (fun _ => ⟨rfl, rfl⟩) (rfP_s rfl rfl) dX0_init_38 ?_
  refine a_aload_n (pc := 41) X9 dX0_init_41 rfl rfl ?_
  refine a_bipush (pc := 42) X9 dX0_init_42 rfl ?_
  refine a_newarr (atype := .int) (pc := 44) (n := 229) (N := 42) (t := 0) (rf := rfP 227) X9 hR (Nat.le_of_ble_eq_true rfl) rfl (fun C h => by cases h) w_arrayClass__int rfl rfl (rfP_fw (by decide +kernel)) (Nat.le_of_ble_eq_true rfl) (Nat.le_of_ble_eq_true rfl) rfl rfl (Nat.le_of_ble_eq_true rfl) (Nat.le_of_ble_eq_true rfl) ⟨Nat.le_of_ble_eq_true rfl, Nat.le_of_ble_eq_true rfl⟩ dX0_init_44 ?_
  obtain ⟨G6, eG6⟩ : ∃ Gz, Gz = zG G5 229 := ⟨_, rfl⟩
  have hG6 : GR G6 := by rw [eG6]; exact hG5.zz
  rw [← eG6]
  refine a_putR (pc := 46) (n := 230) (rf := rfP 227) (rf' := rfP 228) hI X9 okX0 5 rfl rfl rfl wF_X0_28 ⟨(Nat.le_of_ble_eq_true rfl), rfl⟩ (fun _ => ⟨rfl, rfl⟩) (rfP_s rfl rfl) dX0_init_46 ?_
  exact a_return (pc := 49) X9 E (Nat.le_of_ble_eq_true rfl) (Nat.le_of_ble_eq_true rfl) dX0_init_49 ⟨rfl, rfl, ⟨(by intro b k hb; rw [eG6, zG_ne (by omega)]; rw [eG5, zG_ne (by omega)]; rw [eG4, zG_ne (by omega)]; rw [eG3, zG_ne (by omega)]; rw [eG2, zG_ne (by omega)]; rw [eG1, upG_na (by omega)]), trivial⟩⟩
set_option maxHeartbeats 4000000 in
set_option maxRecDepth 100000 in
theorem k_X3_init_230 {G : GH} : Mt yX3_init cX3_init 1 none 1 13 1 80 [vr 230] (231, shF, rfP 229) G (fun v S' G' => S' = (232, shF, rfP 230) ∧ v = none ∧ ((∀ b k, b < 230 → G' b k = G b k) ∧ G' 230 1 = G 230 1)) noX := by
  refine Mt.ofI (l0 := [some (vr 230)]) rfl (by decide) (Nat.le_of_ble_eq_true rfl) rfl ?_
  intro κ δ ρ0 X9 hI E hG
  replace X9 : CX κ δ RX3 cX3_init 1 none := X9
  have hR := E.rm
  refine a_aload_n (pc := 0) X9 dX3_init_0 rfl rfl ?_
  refine a_objInit (pc := 1) X9 hR wM_X3_3 (Nat.le_of_ble_eq_true rfl) (Nat.le_of_ble_eq_true rfl) dX3_init_1 ?_
  refine a_aload_n (pc := 4) X9 dX3_init_4 rfl rfl ?_
  refine a_bipush (pc := 5) X9 dX3_init_5 rfl ?_
  refine a_newarr (atype := .int) (pc := 7) (n := 231) (N := 80) (t := 0) (rf := rfP 229) X9 hR (Nat.le_of_ble_eq_true rfl) rfl (fun C h => by cases h) w_arrayClass__int rfl rfl (rfP_fw (by decide +kernel)) (Nat.le_of_ble_eq_true rfl) (Nat.le_of_ble_eq_true rfl) rfl rfl (Nat.le_of_ble_eq_true rfl) (Nat.le_of_ble_eq_true rfl) ⟨Nat.le_of_ble_eq_true rfl, Nat.le_of_ble_eq_true rfl⟩ dX3_init_7 ?_
  obtain ⟨G1, eG1⟩ : ∃ Gz, Gz = zG G 231 := ⟨_, rfl⟩
  have hG1 : GR G1 := by rw [eG1]; exact hG.zz
  rw [← eG1]
  refine a_putR (pc := 9) (n := 232) (rf := rfP 229) (rf' := rfP 230) hI X9 okX3 0 rfl rfl rfl wF_X3_9 ⟨(Nat.le_of_ble_eq_true rfl), rfl⟩ (fun _ => ⟨rfl, rfl⟩) (rfP_s rfl rfl) dX3_init_9 ?_
  exact a_return (pc := 12) X9 E (Nat.le_of_ble_eq_true rfl) (Nat.le_of_ble_eq_true rfl) dX3_init_12 ⟨rfl, rfl, ⟨(by intro b k hb; rw [eG1, zG_ne (by omega)]), (by rw [eG1, zG_ne (by decide)])⟩⟩
set_option maxHeartbeats 4000000 in
set_option maxRecDepth 100000 in
theorem k_X8_init_234 {G : GH} : Mt yX8_init cX8_init 1 none 1 13 8 135 [vr 234] (235, shF, rfP 232) G (fun v S' G' => S' = (243, shF, rfP 240) ∧ v = none ∧ ((∀ b k, b < 234 → G' b k = G b k) ∧ True)) noX := by
  refine Mt.ofI (l0 := [some (vr 234)]) rfl (by decide) (Nat.le_of_ble_eq_true rfl) rfl ?_
  intro κ δ ρ0 X9 hI E hG
  replace X9 : CX κ δ RX8 cX8_init 1 none := X9
  have hR := E.rm
  refine a_aload_n (pc := 0) X9 dX8_init_0 rfl rfl ?_
  refine a_objInit (pc := 1) X9 hR wM_X8_3 (Nat.le_of_ble_eq_true rfl) (Nat.le_of_ble_eq_true rfl) dX8_init_1 ?_
  refine a_aload_n (pc := 4) X9 dX8_init_4 rfl rfl ?_
  refine a_bipush (pc := 5) X9 dX8_init_5 rfl ?_
  refine a_newarr (atype := .int) (pc := 7) (n := 235) (N := 12) (t := 0) (rf := rfP 232) X9 hR (Nat.le_of_ble_eq_true rfl) rfl (fun C h => by cases h) w_arrayClass__int rfl rfl (rfP_fw (by decide +kernel)) (Nat.le_of_ble_eq_true rfl) (Nat.le_of_ble_eq_true rfl) rfl rfl (Nat.le_of_ble_eq_true rfl) (Nat.le_of_ble_eq_true rfl) ⟨Nat.le_of_ble_eq_true rfl, Nat.le_of_ble_eq_true rfl⟩ dX8_init_7 ?_
  obtain ⟨G1, eG1⟩ : ∃ Gz, Gz = zG G 235 := ⟨_, rfl⟩
  have hG1 : GR G1 := by rw [eG1]; exact hG.zz
  rw [← eG1]
  refine a_putR (pc := 9) (n := 236) (rf := rfP 232) (rf' := rfP 233) hI X9 okX8 2 rfl rfl rfl wF_X8_9 ⟨(Nat.le_of_ble_eq_true rfl), rfl⟩ (fun _ => ⟨rfl, rfl⟩) (rfP_s rfl rfl) dX8_init_9 ?_
  refine a_aload_n (pc := 12) X9 dX8_init_12 rfl rfl ?_
  refine a_bipush (pc := 13) X9 dX8_init_13 rfl ?_
  refine a_newarr (atype := .int) (pc := 15) (n := 236) (N := 12) (t := 0) (rf := rfP 233) X9 hR (Nat.le_of_ble_eq_true rfl) rfl (fun C h => by cases h) w_arrayClass__int rfl rfl (rfP_fw (by decide +kernel)) (Nat.le_of_ble_eq_true rfl) (Nat.le_of_ble_eq_true rfl) rfl rfl (Nat.le_of_ble_eq_true rfl) (Nat.le_of_ble_eq_true rfl) ⟨Nat.le_of_ble_eq_true rfl, Nat.le_of_ble_eq_true rfl⟩ dX8_init_15 ?_
  obtain ⟨G2, eG2⟩ : ∃ Gz, Gz = zG G1 236 := ⟨_, rfl⟩
  have hG2 : GR G2 := by rw [eG2]; exact hG1.zz
  rw [← eG2]
  refine a_putR (pc := 17) (n := 237) (rf := rfP 233) (rf' := rfP 234) hI X9 okX8 3 rfl rfl rfl wF_X8_15 ⟨(Nat.le_of_ble_eq_true rfl), rfl⟩ (fun _ => ⟨rfl, rfl⟩) (rfP_s rfl rfl) dX8_init_17 ?_
  refine a_aload_n (pc := 20) X9 dX8_init_20 rfl rfl ?_
  refine a_bipush (pc := 21) X9 dX8_init_21 rfl ?_
  refine a_newarr (atype := .int) (pc := 23) (n := 237) (N := 42) (t := 0) (rf := rfP 234) X9 hR (Nat.le_of_ble_eq_true rfl) rfl (fun C h => by cases h) w_arrayClass__int rfl rfl (rfP_fw (by decide +kernel)) (Nat.le_of_ble_eq_true rfl) (Nat.le_of_ble_eq_true rfl) rfl rfl (Nat.le_of_ble_eq_true rfl) (Nat.le_of_ble_eq_true rfl) ⟨Nat.le_of_ble_eq_true rfl, Nat.le_of_ble_eq_true rfl⟩ dX8_init_23 ?_
  obtain ⟨G3, eG3⟩ : ∃ Gz, Gz = zG G2 237 := ⟨_, rfl⟩
  have hG3 : GR G3 := by rw [eG3]; exact hG2.zz
  rw [← eG3]
  refine a_putR (pc := 25) (n := 238) (rf := rfP 234) (rf' := rfP 235) hI X9 okX8 4 rfl rfl rfl wF_X8_18 ⟨(Nat.le_of_ble_eq_true rfl), rfl⟩ (fun _ => ⟨rfl, rfl⟩) (rfP_s rfl rfl) dX8_init_25 ?_
  refine a_aload_n (pc := 28) X9 dX8_init_28 rfl rfl ?_
  refine a_iconst (pc := 29) X9 dX8_init_29 ?_
  refine a_newarr (atype := .int) (pc := 30) (n := 238) (N := 3) (t := 0) (rf := rfP 235) X9 hR (Nat.le_of_ble_eq_true rfl) rfl (fun C h => by cases h) w_arrayClass__int rfl rfl (rfP_fw (by decide +kernel)) (Nat.le_of_ble_eq_true rfl) (Nat.le_of_ble_eq_true rfl) rfl rfl (Nat.le_of_ble_eq_true rfl) (Nat.le_of_ble_eq_true rfl) ⟨Nat.le_of_ble_eq_true rfl, Nat.le_of_ble_eq_true rfl⟩ dX8_init_30 ?_
  obtain ⟨G4, eG4⟩ : ∃ Gz, Gz = zG G3 238 := ⟨_, rfl⟩
  have hG4 : GR G4 := by rw [eG4]; exact hG3.zz
  rw [← eG4]
  refine a_putR (pc := 32) (n := 239) (rf := rfP 235) (rf' := rfP 236) hI X9 okX8 6 rfl rfl rfl wF_X8_21 ⟨(Nat.le_of_ble_eq_true rfl), rfl⟩ (fun _ => ⟨rfl, rfl⟩) (rfP_s rfl rfl) dX8_init_32 ?_
  refine a_aload_n (pc := 35) X9 dX8_init_35 rfl rfl ?_
  refine a_bipush (pc := 36) X9 dX8_init_36 rfl ?_
  refine a_newarr (atype := .int) (pc := 38) (n := 239) (N := 30) (t := 0) (rf := rfP 236) X9 hR (Nat.le_of_ble_eq_true rfl) rfl (fun C h => by cases h) w_arrayClass__int rfl rfl (rfP_fw (by decide +kernel)) (Nat.le_of_ble_eq_true rfl) (Nat.le_of_ble_eq_true rfl) rfl rfl (Nat.le_of_ble_eq_true rfl) (Nat.le_of_ble_eq_true rfl) ⟨Nat.le_of_ble_eq_true rfl, Nat.le_of_ble_eq_true rfl⟩ dX8_init_38 ?_
  obtain ⟨G5, eG5⟩ : ∃ Gz, Gz = zG G4 239 := ⟨_, rfl⟩
  have hG5 : GR G5 := by rw [eG5]; exact hG4.zz
  rw [← eG5]
  refine a_putR (pc := 40) (n := 240) (rf := rfP 236) (rf' := rfP 237) hI X9 okX8 7 rfl rfl rfl wF_X8_24 ⟨(Nat.le_of_ble_eq_true rfl), rfl⟩ (fun _ => ⟨rfl, rfl⟩) (rfP_s rfl rfl) dX8_init_40 ?_
  refine a_aload_n (pc := 43) X9 dX8_init_43 rfl rfl ?_
  refine a_bipush (pc := 44) X9 dX8_init_44 rfl ?_
  refine a_newarr (atype := .int) (pc := 46) (n := 240) (N := 12) (t := 0) (rf := rfP 237) X9 hR (Nat.le_of_ble_eq_true rfl) rfl (fun C h => by cases h) w_arrayClass__int rfl rfl (rfP_fw (by decide +kernel)) (Nat.le_of_ble_eq_true rfl) (Nat.le_of_ble_eq_true rfl) rfl rfl (Nat.le_of_ble_eq_true rfl) (Nat.le_of_ble_eq_true rfl) ⟨Nat.le_of_ble_eq_true rfl, Nat.le_of_ble_eq_true rfl⟩ dX8_init_46 ?_
  obtain ⟨G6, eG6⟩ : ∃ Gz, Gz = zG G5 240 := ⟨_, rfl⟩
  have hG6 : GR G6 := by rw [eG6]; exact hG5.zz
  rw [← eG6]
  refine a_putR (pc := 48) (n := 241) (rf := rfP 237) (rf' := rfP 238) hI X9 okX8 9 rfl rfl rfl wF_X8_27 ⟨(Nat.le_of_ble_eq_true rfl), rfl⟩ (fun _ => ⟨rfl, rfl⟩) (rfP_s rfl rfl) dX8_init_48 ?_
  refine a_aload_n (pc := 51) X9 dX8_init_51 rfl rfl ?_
  refine a_bipush (pc := 52) X9 dX8_init_52 rfl ?_
  refine a_newarr (atype := .int) (pc := 54) (n := 241) (N := 12) (t := 0) (rf := rfP 238) X9 hR (Nat.le_of_ble_eq_true rfl) rfl (fun C h => by cases h) w_arrayClass__int rfl rfl (rfP_fw (by decide +kernel)) (Nat.le_of_ble_eq_true rfl) (Nat.le_of_ble_eq_true rfl) rfl rfl (Nat.le_of_ble_eq_true rfl) (Nat.le_of_ble_eq_true rfl) ⟨Nat.le_of_ble_eq_true rfl, Nat.le_of_ble_eq_true rfl⟩ dX8_init_54 ?_
  obtain ⟨G7, eG7⟩ : ∃ Gz, Gz = zG G6 241 := ⟨_, rfl⟩
  have hG7 : GR G7 := by rw [eG7]; exact hG6.zz
  rw [← eG7]
  refine a_putR (pc := 56) (n := 242) (rf := rfP 238) (rf' := rfP 239) hI X9 okX8 10 rfl rfl rfl wF_X8_30 ⟨(Nat.le_of_ble_eq_true rfl), rfl⟩ (fun _ => ⟨rfl, rfl⟩) (rfP_s rfl rfl) dX8_init_56 ?_
  refine a_aload_n (pc := 59) X9 dX8_init_59 rfl rfl ?_
  refine a_bipush (pc := 60) X9 dX8_init_60 rfl ?_
  refine a_newarr (atype := .int) (pc := 62) (n := 242) (N := 12) (t := 0) (rf := rfP 239) X9 hR (Nat.le_of_ble_eq_true rfl) rfl (fun C h => by cases h) w_arrayClass__int rfl rfl (rfP_fw (by decide +kernel)) (Nat.le_of_ble_eq_true rfl) (Nat.le_of_ble_eq_true rfl) rfl rfl (Nat.le_of_ble_eq_true rfl) (Nat.le_of_ble_eq_true rfl) ⟨Nat.le_of_ble_eq_true rfl, Nat.le_of_ble_eq_true rfl⟩ dX8_init_62 ?_
  obtain ⟨G8, eG8⟩ : ∃ Gz, Gz = zG G7 242 := ⟨_, rfl⟩
  have hG8 : GR G8 := by rw [eG8]; exact hG7.zz
  rw [← eG8]
  refine a_putR (pc := 64) (n := 243) (rf := rfP 239) (rf' := rfP 240) hI X9 okX8 11 rfl rfl rfl wF_X8_33 ⟨(Nat.le_of_ble_eq_true rfl), rfl⟩ (fun _ => ⟨rfl, rfl⟩) (rfP_s rfl rfl) dX8_init_64 ?_
  exact a_return (pc := 67) X9 E (Nat.le_of_ble_eq_true rfl) (Nat.le_of_ble_eq_true rfl) dX8_init_67 ⟨rfl, rfl, ⟨(by intro b k hb; rw [eG8, zG_ne (by omega)]; rw [eG7, zG_ne (by omega)]; rw [eG6, zG_ne (by omega)]; rw [eG5, zG_ne (by omega)]; rw [eG4, zG_ne (by omega)]; rw [eG3, zG_ne (by omega)]; rw [eG2, zG_ne (by omega)]; rw [eG1, zG_ne (by omega)]), trivial⟩⟩
set_option maxHeartbeats 4000000 in
set_option maxRecDepth 100000 in
theorem k_X6_init_243 {G : GH} : Mt yX6_init cX6_init 1 none 1 13 2 144 [vr 243] (244, shF, rfP 241) G (fun v S' G' => S' = (246, shF, rfP 243) ∧ v = none ∧ ((∀ b k, b < 243 → G' b k = G b k) ∧ True)) noX := by
  refine Mt.ofI (l0 := [some (vr 243)]) rfl (by decide) (Nat.le_of_ble_eq_true rfl) rfl ?_
  intro κ δ ρ0 X9 hI E hG
  replace X9 : CX κ δ RX6 cX6_init 1 none := X9
  have hR := E.rm
  refine a_aload_n (pc := 0) X9 dX6_init_0 rfl rfl ?_
  refine a_objInit (pc := 1) X9 hR wM_X6_3 (Nat.le_of_ble_eq_true rfl) (Nat.le_of_ble_eq_true rfl) dX6_init_1 ?_
  refine a_aload_n (pc := 4) X9 dX6_init_4 rfl rfl ?_
  refine a_bipush (pc := 5) X9 dX6_init_5 rfl ?_
  refine a_newarr (atype := .int) (pc := 7) (n := 244) (N := 16) (t := 0) (rf := rfP 241) X9 hR (Nat.le_of_ble_eq_true rfl) rfl (fun C h => by cases h) w_arrayClass__int rfl rfl (rfP_fw (by decide +kernel)) (Nat.le_of_ble_eq_true rfl) (Nat.le_of_ble_eq_true rfl) rfl rfl (Nat.le_of_ble_eq_true rfl) (Nat.le_of_ble_eq_true rfl) ⟨Nat.le_of_ble_eq_true rfl, Nat.le_of_ble_eq_true rfl⟩ dX6_init_7 ?_
  obtain ⟨G1, eG1⟩ : ∃ Gz, Gz = zG G 244 := ⟨_, rfl⟩
  have hG1 : GR G1 := by rw [eG1]; exact hG.zz
  rw [← eG1]
  refine a_putR (pc := 9) (n := 245) (rf := rfP 241) (rf' := rfP 242) hI X9 okX6 1 rfl rfl rfl wF_X6_9 ⟨(Nat.le_of_ble_eq_true rfl), rfl⟩ (fun _ => ⟨rfl, rfl⟩) (rfP_s rfl rfl) dX6_init_9 ?_
  refine a_aload_n (pc := 12) X9 dX6_init_12 rfl rfl ?_
  refine a_sipush (pc := 13) X9 dX6_init_13 rfl ?_
  refine a_newarr (atype := .int) (pc := 16) (n := 245) (N := 128) (t := 0) (rf := rfP 242) X9 hR (Nat.le_of_ble_eq_true rfl) rfl (fun C h => by cases h) w_arrayClass__int rfl rfl (rfP_fw (by decide +kernel)) (Nat.le_of_ble_eq_true rfl) (Nat.le_of_ble_eq_true rfl) rfl rfl (Nat.le_of_ble_eq_true rfl) (Nat.le_of_ble_eq_true rfl) ⟨Nat.le_of_ble_eq_true rfl, Nat.le_of_ble_eq_true rfl⟩ dX6_init_16 ?_
  obtain ⟨G2, eG2⟩ : ∃ Gz, Gz = zG G1 245 := ⟨_, rfl⟩
  have hG2 : GR G2 := by rw [eG2]; exact hG1.zz
  rw [← eG2]
  refine a_putR (pc := 18) (n := 246) (rf := rfP 242) (rf' := rfP 243) hI X9 okX6 2 rfl rfl rfl wF_X6_15 ⟨(Nat.le_of_ble_eq_true rfl), rfl⟩ (fun _ => ⟨rfl, rfl⟩) (rfP_s rfl rfl) dX6_init_18 ?_
  exact a_return (pc := 21) X9 E (Nat.le_of_ble_eq_true rfl) (Nat.le_of_ble_eq_true rfl) dX6_init_21 ⟨rfl, rfl, ⟨(by intro b k hb; rw [eG2, zG_ne (by omega)]; rw [eG1, zG_ne (by omega)]), trivial⟩⟩
set_option maxHeartbeats 4000000 in
set_option maxRecDepth 100000 in
theorem k_X0_init_246 {G : GH} : Mt yX0_init cX0_init 1 none 1 13 5 222 [vr 246] (247, shF, rfP 244) G (fun v S' G' => S' = (252, shF, rfP 249) ∧ v = none ∧ ((∀ b k, b < 246 → G' b k = G b k) ∧ True)) noX := by
  refine Mt.ofI (l0 := [some (vr 246)]) rfl (by decide) (Nat.le_of_ble_eq_true rfl) rfl ?_
  intro κ δ ρ0 X9 hI E hG
  replace X9 : CX κ δ RX0 cX0_init 1 none := X9
  have hR := E.rm
  refine a_aload_n (pc := 0) X9 dX0_init_0 rfl rfl ?_
  refine a_objInit (pc := 1) X9 hR wM_X0_3 (Nat.le_of_ble_eq_true rfl) (Nat.le_of_ble_eq_true rfl) dX0_init_1 ?_
  refine a_aload_n (pc := 4) X9 dX0_init_4 rfl rfl ?_
  refine a_iconst (pc := 5) X9 dX0_init_5 ?_
  refine a_putI (pc := 6) X9 okX0 0 rfl rfl wF_X0_9 ⟨(Nat.le_of_ble_eq_true rfl), rfl⟩ dX0_init_6 (by decide) (fit_int _) (fun _ => ?_)
  obtain ⟨G1, eG1⟩ : ∃ Gz, Gz = upG G 246 0 (-1) := ⟨_, rfl⟩
  have hG1 : GR G1 := by rw [eG1]; exact GR.up hG (by decide)
  rw [← eG1]
  refine a_aload_n (pc := 9) X9 dX0_init_9 rfl rfl ?_
  refine a_bipush (pc := 10) X9 dX0_init_10 rfl ?_
  refine a_newarr (atype := .int) (pc := 12) (n := 247) (N := 18) (t := 0) (rf := rfP 244) X9 hR (Nat.le_of_ble_eq_true rfl) rfl (fun C h => by cases h) w_arrayClass__int rfl rfl (rfP_fw (by decide +kernel)) (Nat.le_of_ble_eq_true rfl) (Nat.le_of_ble_eq_true rfl) rfl rfl (Nat.le_of_ble_eq_true rfl) (Nat.le_of_ble_eq_true rfl) ⟨Nat.le_of_ble_eq_true rfl, Nat.le_of_ble_eq_true rfl⟩ dX0_init_12 ?_
  obtain ⟨G2, eG2⟩ : ∃ Gz, Gz = zG G1 247 := ⟨_, rfl⟩
  have hG2 : GR G2 := by rw [eG2]; exact hG1.zz
  rw [← eG2]
  refine a_putR (pc := 14) (n := 248) (rf := rfP 244) (rf' := rfP 245) hI X9 okX0 1 rfl rfl rfl wF_X0_15 ⟨(Nat.le_of_ble_eq_true rfl), rfl⟩ (fun _ => ⟨rfl, rfl⟩) (rfP_s rfl rfl) dX0_init_14 ?_
  refine a_aload_n (pc := 17) X9 dX0_init_17 rfl rfl ?_
  refine a_bipush (pc := 18) X9 dX0_init_18 rfl ?_
  refine a_newarr (atype := .int) (pc := 20) (n := 248) (N := 54) (t := 0) (rf := rfP 245) X9 hR (Nat.le_of_ble_eq_true rfl) rfl (fun C h => by cases h) w_arrayClass__int rfl rfl (rfP_fw (by decide +kernel)) (Nat.le_of_ble_eq_true rfl) (Nat.le_of_ble_eq_true rfl) rfl rfl (Nat.le_of_ble_eq_true rfl) (Nat.le_of_ble_eq_true rfl) ⟨Nat.le_of_ble_eq_true rfl, Nat.le_of_ble_eq_true rfl⟩ dX0_init_20 ?_
  obtain ⟨G3, eG3⟩ : ∃ Gz, Gz = zG G2 248 := ⟨_, rfl⟩
  have hG3 : GR G3 := by rw [eG3]; exact hG2.zz
  rw [← eG3]
  refine a_putR (pc := 22) (n := 249) (rf := rfP 245) (rf' := rfP 246) hI X9 okX0 2 rfl rfl rfl wF_X0_19 ⟨(Nat.le_of_ble_eq_true rfl), rfl⟩ (fun _ => ⟨rfl, rfl⟩) (rfP_s rfl rfl) dX0_init_22 ?_
  refine a_aload_n (pc := 25) X9 dX0_init_25 rfl rfl ?_
  refine a_bipush (pc := 26) X9 dX0_init_26 rfl ?_
  refine a_newarr (atype := .int) (pc := 28) (n := 249) (N := 54) (t := 0) (rf := rfP 246) X9 hR (Nat.le_of_ble_eq_true rfl) rfl (fun C h => by cases h) w_arrayClass__int rfl rfl (rfP_fw (by decide +kernel)) (Nat.le_of_ble_eq_true rfl) (Nat.le_of_ble_eq_true rfl) rfl rfl (Nat.le_of_ble_eq_true rfl) (Nat.le_of_ble_eq_true rfl) ⟨Nat.le_of_ble_eq_true rfl, Nat.le_of_ble_eq_true rfl⟩ dX0_init_28 ?_
  obtain ⟨G4, eG4⟩ : ∃ Gz, Gz = zG G3 249 := ⟨_, rfl⟩
  have hG4 : GR G4 := by rw [eG4]; exact hG3.zz
  rw [← eG4]
  refine a_putR (pc := 30) (n := 250) (rf := rfP 246) (rf' := rfP 247) hI X9 okX0 3 rfl rfl rfl wF_X0_22 ⟨(Nat.le_of_ble_eq_true rfl), rfl⟩ (fun _ => ⟨rfl, rfl⟩) (rfP_s rfl rfl) dX0_init_30 ?_
  refine a_aload_n (pc := 33) X9 dX0_init_33 rfl rfl ?_
  refine a_bipush (pc := 34) X9 dX0_init_34 rfl ?_
  refine a_newarr (atype := .int) (pc := 36) (n := 250) (N := 54) (t := 0) (rf := rfP 247) X9 hR (Nat.le_of_ble_eq_true rfl) rfl (fun C h => by cases h) w_arrayClass__int rfl rfl (rfP_fw (by decide +kernel)) (Nat.le_of_ble_eq_true rfl) (Nat.le_of_ble_eq_true rfl) rfl rfl (Nat.le_of_ble_eq_true rfl) (Nat.le_of_ble_eq_true rfl) ⟨Nat.le_of_ble_eq_true rfl, Nat.le_of_ble_eq_true rfl⟩ dX0_init_36 ?_
  obtain ⟨G5, eG5⟩ : ∃ Gz, Gz = zG G4 250 := ⟨_, rfl⟩
  have hG5 : GR G5 := by rw [eG5]; exact hG4.zz
  rw [← eG5]
  refine a_putR (pc := 38) (n := 251) (rf := rfP 247) (rf' := rfP 248) hI X9 okX0 4 rfl rfl rfl wF_X0_25 ⟨(Nat.le_of_ble_eq_true rfl), rfl⟩ (fun _ => ⟨rfl, rfl⟩) (rfP_s rfl rfl) dX0_init_38 ?_
  refine a_aload_n (pc := 41) X9 dX0_init_41 rfl rfl ?_
  refine a_bipush (pc := 42) X9 dX0_init_42 rfl ?_
  refine a_newarr (atype := .int) (pc := 44) (n := 251) (N := 42) (t := 0) (rf := rfP 248) X9 hR (Nat.le_of_ble_eq_true rfl) rfl (fun C h => by cases h) w_arrayClass__int rfl rfl (rfP_fw (by decide +kernel)) (Nat.le_of_ble_eq_true rfl) (Nat.le_of_ble_eq_true rfl) rfl rfl (Nat.le_of_ble_eq_true rfl) (Nat.le_of_ble_eq_true rfl) ⟨Nat.le_of_ble_eq_true rfl, Nat.le_of_ble_eq_true rfl⟩ dX0_init_44 ?_
  obtain ⟨G6, eG6⟩ : ∃ Gz, Gz = zG G5 251 := ⟨_, rfl⟩
  have hG6 : GR G6 := by rw [eG6]; exact hG5.zz
  rw [← eG6]
  refine a_putR (pc := 46) (n := 252) (rf := rfP 248) (rf' := rfP 249) hI X9 okX0 5 rfl rfl rfl wF_X0_28 ⟨(Nat.le_of_ble_eq_true rfl), rfl⟩ (fun _ => ⟨rfl, rfl⟩) (rfP_s rfl rfl) dX0_init_46 ?_
  exact a_return (pc := 49) X9 E (Nat.le_of_ble_eq_true rfl) (Nat.le_of_ble_eq_true rfl) dX0_init_49 ⟨rfl, rfl, ⟨(by intro b k hb; rw [eG6, zG_ne (by omega)]; rw [eG5, zG_ne (by omega)]; rw [eG4, zG_ne (by omega)]; rw [eG3, zG_ne (by omega)]; rw [eG2, zG_ne (by omega)]; rw [eG1, upG_na (by omega)]), trivial⟩⟩
set_option maxHeartbeats 4000000 in
set_option maxRecDepth 100000 in
theorem k_X7_init_232 {G : GH} : Mt yX7_init cX7_init 1 none 2 33 19 525 [vr 232] (233, shF, rfP 231) G (fun v S' G' => S' = (252, shF, rfP 250) ∧ v = none ∧ ((∀ b k, b < 232 → G' b k = G b k) ∧ True)) noX := by
  refine Mt.ofI (l0 := [some (vr 232)]) rfl (by decide) (Nat.le_of_ble_eq_true rfl) rfl ?_
  intro κ δ ρ0 X9 hI E hG
  replace X9 : CX κ δ RX7 cX7_init 1 none := X9
  have hR := E.rm
  refine a_aload_n (pc := 0) X9 dX7_init_0 rfl rfl ?_
  refine a_objInit (pc := 1) X9 hR wM_X7_3 (Nat.le_of_ble_eq_true rfl) (Nat.le_of_ble_eq_true rfl) dX7_init_1 ?_
  refine a_aload_n (pc := 4) X9 dX7_init_4 rfl rfl ?_
  refine a_iconst (pc := 5) X9 dX7_init_5 ?_
  refine a_newarr (atype := .int) (pc := 6) (n := 233) (N := 3) (t := 0) (rf := rfP 231) X9 hR (Nat.le_of_ble_eq_true rfl) rfl (fun C h => by cases h) w_arrayClass__int rfl rfl (rfP_fw (by decide +kernel)) (Nat.le_of_ble_eq_true rfl) (Nat.le_of_ble_eq_true rfl) rfl rfl (Nat.le_of_ble_eq_true rfl) (Nat.le_of_ble_eq_true rfl) ⟨Nat.le_of_ble_eq_true rfl, Nat.le_of_ble_eq_true rfl⟩ dX7_init_6 ?_
  obtain ⟨G1, eG1⟩ : ∃ Gz, Gz = zG G 233 := ⟨_, rfl⟩
  have hG1 : GR G1 := by rw [eG1]; exact hG.zz
  rw [← eG1]
  refine a_putR (pc := 8) (n := 234) (rf := rfP 231) (rf' := rfP 232) hI X9 okX7 1 rfl rfl rfl wF_X7_9 ⟨(Nat.le_of_ble_eq_true rfl), rfl⟩ (fun _ => ⟨rfl, rfl⟩) (rfP_s rfl rfl) dX7_init_8 ?_
  refine a_aload_n (pc := 11) X9 dX7_init_11 rfl rfl ?_
  refine a_new (pc := 12) (n := 234) (rf := rfP 232) X9 hR okX8 wC_X7_15 w_instantiable_RX8 w_initialized_RX8 fv_X8 rfl (rfP_none (by decide +kernel)) (rfP_fw (by decide +kernel)) (Nat.le_of_ble_eq_true rfl) (Nat.le_of_ble_eq_true rfl) rfl rfl ⟨Nat.le_of_ble_eq_true rfl, Nat.le_of_ble_eq_true rfl⟩ dX7_init_12 ?_
  obtain ⟨G2, eG2⟩ : ∃ Gz, Gz = zG G1 234 := ⟨_, rfl⟩
  have hG2 : GR G2 := by rw [eG2]; exact hG1.zz
  rw [← eG2]
  refine a_dup (pc := 15) X9 dX7_init_15 rfl ?_
  refine a_callIN (pc := 16) X9 hR (k_X8_init_234 (G := G2)) (Nat.le_of_ble_eq_true rfl) rfl rfl (Nat.le_of_ble_eq_true rfl) nx_X7_17 w_instanceMethod_X8_init w_initialized_RX8 w_code_X8_init cpN_X8 pnN_X8 rfl (Nat.le_of_ble_eq_true rfl) ⟨Nat.le_of_ble_eq_true rfl, Nat.le_of_ble_eq_true rfl⟩ ⟨Nat.le_of_ble_eq_true rfl, Nat.le_of_ble_eq_true rfl⟩ dX7_init_16 (fun G3 pG3 hG3 => ?_)
  refine a_putR (pc := 19) (n := 243) (rf := rfP 240) (rf' := rfP 241) hI X9 okX7 3 rfl rfl rfl wF_X7_18 ⟨(Nat.le_of_ble_eq_true rfl), rfl⟩ (fun _ => ⟨rfl, rfl⟩) (rfP_s rfl rfl) dX7_init_19 ?_
  refine a_aload_n (pc := 22) X9 dX7_init_22 rfl rfl ?_
  refine a_new (pc := 23) (n := 243) (rf := rfP 241) X9 hR okX6 wC_X7_22 w_instantiable_RX6 w_initialized_RX6 fv_X6 rfl (rfP_none (by decide +kernel)) (rfP_fw (by decide +kernel)) (Nat.le_of_ble_eq_true rfl) (Nat.le_of_ble_eq_true rfl) rfl rfl ⟨Nat.le_of_ble_eq_true rfl, Nat.le_of_ble_eq_true rfl⟩ dX7_init_23 ?_
  obtain ⟨G4, eG4⟩ : ∃ Gz, Gz = zG G3 243 := ⟨_, rfl⟩
  have hG4 : GR G4 := by rw [eG4]; exact hG3.zz
  rw [← eG4]
  refine a_dup (pc := 26) X9 dX7_init_26 rfl ?_
  refine a_callIN (pc := 27) X9 hR (k_X6_init_243 (G := G4)) (Nat.le_of_ble_eq_true rfl) rfl rfl (Nat.le_of_ble_eq_true rfl) nx_X7_24 w_instanceMethod_X6_init w_initialized_RX6 w_code_X6_init cpN_X6 pnN_X6 rfl (Nat.le_of_ble_eq_true rfl) ⟨Nat.le_of_ble_eq_true rfl, Nat.le_of_ble_eq_true rfl⟩ ⟨Nat.le_of_ble_eq_true rfl, Nat.le_of_ble_eq_true rfl⟩ dX7_init_27 (fun G5 pG5 hG5 => ?_)
  refine a_putR (pc := 30) (n := 246) (rf := rfP 243) (rf' := rfP 244) hI X9 okX7 4 rfl rfl rfl wF_X7_25 ⟨(Nat.le_of_ble_eq_true rfl), rfl⟩ (fun _ => ⟨rfl, rfl⟩) (rfP_s rfl rfl) dX7_init_30 ?_
  refine a_aload_n (pc := 33) X9 dX7_init_33 rfl rfl ?_
  refine a_new (pc := 34) (n := 246) (rf := rfP 244) X9 hR okX0 wC_X7_29 w_instantiable_RX0 w_initialized_RX0 fv_X0 rfl (rfP_none (by decide +kernel)) (rfP_fw (by decide +kernel)) (Nat.le_of_ble_eq_true rfl) (Nat.le_of_ble_eq_true rfl) rfl rfl ⟨Nat.le_of_ble_eq_true rfl, Nat.le_of_ble_eq_true rfl⟩ dX7_init_34 ?_
  obtain ⟨G6, eG6⟩ : ∃ Gz, Gz = zG G5 246 := ⟨_, rfl⟩
  have hG6 : GR G6 := by rw [eG6]; exact hG5.zz
  rw [← eG6]
  refine a_dup (pc := 37) X9 dX7_init_37 rfl ?_
  refine a_callIN (pc := 38) X9 hR (k_X0_init_246 (G := G6)) (Nat.le_of_ble_eq_true rfl) rfl rfl (Nat.le_of_ble_eq_true rfl) nx_X7_31 w_instanceMethod_X0_init w_initialized_RX0 w_code_X0_init cpN_X0 pnN_X0 rfl (Nat.le_of_ble_eq_true rfl) ⟨Nat.le_of_ble_eq_true rfl, Nat.le_of_ble_eq_true rfl⟩ ⟨Nat.le_of_ble_eq_true rfl, Nat.le_of_ble_eq_true rfl⟩ dX7_init_38 (fun G7 pG7 hG7 => ?_)
  refine a_putR (pc := 41) (n := 252) (rf := rfP 249) (rf' := rfP 250) hI X9 okX7 5 rfl rfl rfl wF_X7_32 ⟨(Nat.le_of_ble_eq_true rfl), rfl⟩ (fun _ => ⟨rfl, rfl⟩) (rfP_s rfl rfl) dX7_init_41 ?_
  exact a_return (pc := 44) X9 E (Nat.le_of_ble_eq_true rfl) (Nat.le_of_ble_eq_true rfl) dX7_init_44 ⟨rfl, rfl, ⟨(by intro b k hb; rw [pG7.1 b k (by omega)]; rw [eG6, zG_ne (by omega)]; rw [pG5.1 b k (by omega)]; rw [eG4, zG_ne (by omega)]; rw [pG3.1 b k (by omega)]; rw [eG2, zG_ne (by omega)]; rw [eG1, zG_ne (by omega)]), trivial⟩⟩
set_option maxHeartbeats 4000000 in
set_option maxRecDepth 100000 in
theorem k_X8_init_254 {G : GH} : Mt yX8_init cX8_init 1 none 1 13 8 135 [vr 254] (255, shF, rfP 252) G (fun v S' G' => S' = (263, shF, rfP 260) ∧ v = none ∧ ((∀ b k, b < 254 → G' b k = G b k) ∧ True)) noX := by
  refine Mt.ofI (l0 := [some (vr 254)]) rfl (by decide) (Nat.le_of_ble_eq_true rfl) rfl ?_
  intro κ δ ρ0 X9 hI E hG
  replace X9 : CX κ δ RX8 cX8_init 1 none := X9
  have hR := E.rm
  refine a_aload_n (pc := 0) X9 dX8_init_0 rfl rfl ?_
  refine a_objInit (pc := 1) X9 hR wM_X8_3 (Nat.le_of_ble_eq_true rfl) (Nat.le_of_ble_eq_true rfl) dX8_init_1 ?_
  refine a_aload_n (pc := 4) X9 dX8_init_4 rfl rfl ?_
  refine a_bipush (pc := 5) X9 dX8_init_5 rfl ?_
  refine a_newarr (atype := .int) (pc := 7) (n := 255) (N := 12) (t := 0) (rf := rfP 252) X9 hR (Nat.le_of_ble_eq_true rfl) rfl (fun C h => by cases h) w_arrayClass__int rfl rfl (rfP_fw (by decide +kernel)) (Nat.le_of_ble_eq_true rfl) (Nat.le_of_ble_eq_true rfl) rfl rfl (Nat.le_of_ble_eq_true rfl) (Nat.le_of_ble_eq_true rfl) ⟨Nat.le_of_ble_eq_true rfl, Nat.le_of_ble_eq_true rfl⟩ dX8_init_7 ?_
  obtain ⟨G1, eG1⟩ : ∃ Gz, Gz = zG G 255 := ⟨_, rfl⟩
  have hG1 : GR G1 := by rw [eG1]; exact hG.zz
  rw [← eG1]
  refine a_putR (pc := 9) (n := 256) (rf := rfP 252) (rf' := rfP 253) hI X9 okX8 2 rfl rfl rfl wF_X8_9 ⟨(Nat.le_of_ble_eq_true rfl), rfl⟩ (fun _ => ⟨rfl, rfl⟩) (rfP_s rfl rfl) dX8_init_9 ?_
  refine a_aload_n (pc := 12) X9 dX8_init_12 rfl rfl ?_
  refine a_bipush (pc := 13) X9 dX8_init_13 rfl ?_
  refine a_newarr (atype := .int) (pc := 15) (n := 256) (N := 12) (t := 0) (rf := rfP 253) X9 hR (Nat.le_of_ble_eq_true rfl) rfl (fun C h => by cases h) w_arrayClass__int rfl rfl (rfP_fw (by decide +kernel)) (Nat.le_of_ble_eq_true rfl) (Nat.le_of_ble_eq_true rfl) rfl rfl (Nat.le_of_ble_eq_true rfl) (Nat.le_of_ble_eq_true rfl) ⟨Nat.le_of_ble_eq_true rfl, Nat.le_of_ble_eq_true rfl⟩ dX8_init_15 ?_
  obtain ⟨G2, eG2⟩ : ∃ Gz, Gz = zG G1 256 := ⟨_, rfl⟩
  have hG2 : GR G2 := by rw [eG2]; exact hG1.zz
  rw [← eG2]
  refine a_putR (pc := 17) (n := 257) (rf := rfP 253) (rf' := rfP 254) hI X9 okX8 3 rfl rfl rfl wF_X8_15 ⟨(Nat.le_of_ble_eq_true rfl), rfl⟩ (fun _ => ⟨rfl, rfl⟩) (rfP_s rfl rfl) dX8_init_17 ?_
  refine a_aload_n (pc := 20) X9 dX8_init_20 rfl rfl ?_
  refine a_bipush (pc := 21) X9 dX8_init_21 rfl ?_
  refine a_newarr (atype := .int) (pc := 23) (n := 257) (N := 42) (t := 0) (rf := rfP 254) X9 hR (Nat.le_of_ble_eq_true rfl) rfl (fun C h => by cases h) w_arrayClass__int rfl rfl (rfP_fw (by decide +kernel)) (Nat.le_of_ble_eq_true rfl) (Nat.le_of_ble_eq_true rfl) rfl rfl (Nat.le_of_ble_eq_true rfl) (Nat.le_of_ble_eq_true rfl) ⟨Nat.le_of_ble_eq_true rfl, Nat.le_of_ble_eq_true rfl⟩ dX8_init_23 ?_
  obtain ⟨G3, eG3⟩ : ∃ Gz, Gz = zG G2 257 := ⟨_, rfl⟩
  have hG3 : GR G3 := by rw [eG3]; exact hG2.zz
  rw [← eG3]
  refine a_putR (pc := 25) (n := 258) (rf := rfP 254) (rf' := rfP 255) hI X9 okX8 4 rfl rfl rfl wF_X8_18 ⟨(Nat.le_of_ble_eq_true rfl), rfl⟩ (fun _ => ⟨rfl, rfl⟩) (rfP_s rfl rfl) dX8_init_25 ?_
  refine a_aload_n (pc := 28) X9 dX8_init_28 rfl rfl ?_
  refine a_iconst (pc := 29) X9 dX8_init_29 ?_
  refine a_newarr (atype := .int) (pc := 30) (n := 258) (N := 3) (t := 0) (rf := rfP 255) X9 hR (Nat.le_of_ble_eq_true rfl) rfl (fun C h => by cases h) w_arrayClass__int rfl rfl (rfP_fw (by decide +kernel)) (Nat.le_of_ble_eq_true rfl) (Nat.le_of_ble_eq_true rfl) rfl rfl (Nat.le_of_ble_eq_true rfl) (Nat.le_of_ble_eq_true rfl) ⟨Nat.le_of_ble_eq_true rfl, Nat.le_of_ble_eq_true rfl⟩ dX8_init_30 ?_
  obtain ⟨G4, eG4⟩ : ∃ Gz, Gz = zG G3 258 := ⟨_, rfl⟩
  have hG4 : GR G4 := by rw [eG4]; exact hG3.zz
  rw [← eG4]
  refine a_putR (pc := 32) (n := 259) (rf := rfP 255) (rf' := rfP 256) hI X9 okX8 6 rfl rfl rfl wF_X8_21 ⟨(Nat.le_of_ble_eq_true rfl), rfl⟩ (fun _ => ⟨rfl, rfl⟩) (rfP_s rfl rfl) dX8_init_32 ?_
  refine a_aload_n (pc := 35) X9 dX8_init_35 rfl rfl ?_
  refine a_bipush (pc := 36) X9 dX8_init_36 rfl ?_
  refine a_newarr (atype := .int) (pc := 38) (n := 259) (N := 30) (t := 0) (rf := rfP 256) X9 hR (Nat.le_of_ble_eq_true rfl) rfl (fun C h => by cases h) w_arrayClass__int rfl rfl (rfP_fw (by decide +kernel)) (Nat.le_of_ble_eq_true rfl) (Nat.le_of_ble_eq_true rfl) rfl rfl (Nat.le_of_ble_eq_true rfl) (Nat.le_of_ble_eq_true rfl) ⟨Nat.le_of_ble_eq_true rfl, Nat.le_of_ble_eq_true rfl⟩ dX8_init_38 ?_
  obtain ⟨G5, eG5⟩ : ∃ Gz, Gz = zG G4 259 := ⟨_, rfl⟩
  have hG5 : GR G5 := by rw [eG5]; exact hG4.zz
  rw [← eG5]
  refine a_putR (pc := 40) (n := 260) (rf := rfP 256) (rf' := rfP 257) hI X9 okX8 7 rfl rfl rfl wF_X8_24 ⟨(Nat.le_of_ble_eq_true rfl), rfl⟩ (fun _ => ⟨rfl, rfl⟩) (rfP_s rfl rfl) dX8_init_40 ?_
  refine a_aload_n (pc := 43) X9 dX8_init_43 rfl rfl ?_
  refine a_bipush (pc := 44) X9 dX8_init_44 rfl ?_
  refine a_newarr (atype := .int) (pc := 46) (n := 260) (N := 12) (t := 0) (rf := rfP 257) X9 hR (Nat.le_of_ble_eq_true rfl) rfl (fun C h => by cases h) w_arrayClass__int rfl rfl (rfP_fw (by decide +kernel)) (Nat.le_of_ble_eq_true rfl) (Nat.le_of_ble_eq_true rfl) rfl rfl (Nat.le_of_ble_eq_true rfl) (Nat.le_of_ble_eq_true rfl) ⟨Nat.le_of_ble_eq_true rfl, Nat.le_of_ble_eq_true rfl⟩ dX8_init_46 ?_
  obtain ⟨G6, eG6⟩ : ∃ Gz, Gz = zG G5 260 := ⟨_, rfl⟩
  have hG6 : GR G6 := by rw [eG6]; exact hG5.zz
  rw [← eG6]
  refine a_putR (pc := 48) (n := 261) (rf := rfP 257) (rf' := rfP 258) hI X9 okX8 9 rfl rfl rfl wF_X8_27 ⟨(Nat.le_of_ble_eq_true rfl), rfl⟩ (fun _ => ⟨rfl, rfl⟩) (rfP_s rfl rfl) dX8_init_48 ?_
  refine a_aload_n (pc := 51) X9 dX8_init_51 rfl rfl ?_
  refine a_bipush (pc := 52) X9 dX8_init_52 rfl ?_
  refine a_newarr (atype := .int) (pc := 54) (n := 261) (N := 12) (t := 0) (rf := rfP 258) X9 hR (Nat.le_of_ble_eq_true rfl) rfl (fun C h => by cases h) w_arrayClass__int rfl rfl (rfP_fw (by decide +kernel)) (Nat.le_of_ble_eq_true rfl) (Nat.le_of_ble_eq_true rfl) rfl rfl (Nat.le_of_ble_eq_true rfl) (Nat.le_of_ble_eq_true rfl) ⟨Nat.le_of_ble_eq_true rfl, Nat.le_of_ble_eq_true rfl⟩ dX8_init_54 ?_
  obtain ⟨G7, eG7⟩ : ∃ Gz, Gz = zG G6 261 := ⟨_, rfl⟩
  have hG7 : GR G7 := by rw [eG7]; exact hG6.zz
  rw [← eG7]
  refine a_putR (pc := 56) (n := 262) (rf := rfP 258) (rf' := rfP 259) hI X9 okX8 10 rfl rfl rfl wF_X8_30 ⟨(Nat.le_of_ble_eq_true rfl), rfl⟩ (fun _ => ⟨rfl, rfl⟩) (rfP_s rfl rfl) dX8_init_56 ?_
  refine a_aload_n (pc := 59) X9 dX8_init_59 rfl rfl ?_
  refine a_bipush (pc := 60) X9 dX8_init_60 rfl ?_
  refine a_newarr (atype := .int) (pc := 62) (n := 262) (N := 12) (t := 0) (rf := rfP 259) X9 hR (Nat.le_of_ble_eq_true rfl) rfl (fun C h => by cases h) w_arrayClass__int rfl rfl (rfP_fw (by decide +kernel)) (Nat.le_of_ble_eq_true rfl) (Nat.le_of_ble_eq_true rfl) rfl rfl (Nat.le_of_ble_eq_true rfl) (Nat.le_of_ble_eq_true rfl) ⟨Nat.le_of_ble_eq_true rfl, Nat.le_of_ble_eq_true rfl⟩ dX8_init_62 ?_
  obtain ⟨G8, eG8⟩ : ∃ Gz, Gz = zG G7 262 := ⟨_, rfl⟩
  have hG8 : GR G8 := by rw [eG8]; exact hG7.zz
  rw [← eG8]
  refine a_putR (pc := 64) (n := 263) (rf := rfP 259) (rf' := rfP 260) hI X9 okX8 11 rfl rfl rfl wF_X8_33 ⟨(Nat.le_of_ble_eq_true rfl), rfl⟩ (fun _ => ⟨rfl, rfl⟩) (rfP_s rfl rfl) dX8_init_64 ?_
  exact a_return (pc := 67) X9 E (Nat.le_of_ble_eq_true rfl) (Nat.le_of_ble_eq_true rfl) dX8_init_67 ⟨rfl, rfl, ⟨(by intro b k hb; rw [eG8, zG_ne (by omega)]; rw [eG7, zG_ne (by omega)]; rw [eG6, zG_ne (by omega)]; rw [eG5, zG_ne (by omega)]; rw [eG4, zG_ne (by omega)]; rw [eG3, zG_ne (by omega)]; rw [eG2, zG_ne (by omega)]; rw [eG1, zG_ne (by omega)]), trivial⟩⟩
set_option maxHeartbeats 4000000 in
set_option maxRecDepth 100000 in
theorem k_X6_init_263 {G : GH} : Mt yX6_init cX6_init 1 none 1 13 2 144 [vr 263] (264, shF, rfP 261) G (fun v S' G' => S' = (266, shF, rfP 263) ∧ v = none ∧ ((∀ b k, b < 263 → G' b k = G b k) ∧ True)) noX := by
  refine Mt.ofI (l0 := [some (vr 263)]) rfl (by decide) (Nat.le_of_ble_eq_true rfl) rfl ?_
  intro κ δ ρ0 X9 hI E hG
  replace X9 : CX κ δ RX6 cX6_init 1 none := X9
  have hR := E.rm
  refine a_aload_n (pc := 0) X9 dX6_init_0 rfl rfl ?_
  refine a_objInit (pc := 1) X9 hR wM_X6_3 (Nat.le_of_ble_eq_true rfl) (Nat.le_of_ble_eq_true rfl) dX6_init_1 ?_
  refine a_aload_n (pc := 4) X9 dX6_init_4 rfl rfl ?_
  refine a_bipush (pc := 5) X9 dX6_init_5 rfl ?_
  refine a_newarr (atype := .int) (pc := 7) (n := 264) (N := 16) (t := 0) (rf := rfP 261) X9 hR (Nat.le_of_ble_eq_true rfl) rfl (fun C h => by cases h) w_arrayClass__int rfl rfl (rfP_fw (by decide +kernel)) (Nat.le_of_ble_eq_true rfl) (Nat.le_of_ble_eq_true rfl) rfl rfl (Nat.le_of_ble_eq_true rfl) (Nat.le_of_ble_eq_true rfl) ⟨Nat.le_of_ble_eq_true rfl, Nat.le_of_ble_eq_true rfl⟩ dX6_init_7 ?_
  obtain ⟨G1, eG1⟩ : ∃ Gz, Gz = zG G 264 := ⟨_, rfl⟩
  have hG1 : GR G1 := by rw [eG1]; exact hG.zz
  rw [← eG1]
  refine a_putR (pc := 9) (n := 265) (rf := rfP 261) (rf' := rfP 262) hI X9 okX6 1 rfl rfl rfl wF_X6_9 ⟨(Nat.le_of_ble_eq_true rfl), rfl⟩ (fun _ => ⟨rfl, rfl⟩) (rfP_s rfl rfl) dX6_init_9 ?_
  refine a_aload_n (pc := 12) X9 dX6_init_12 rfl rfl ?_
  refine a_sipush (pc := 13) X9 dX6_init_13 rfl ?_
  refine a_newarr (atype := .int) (pc := 16) (n := 265) (N := 128) (t := 0) (rf := rfP 262) X9 hR (Nat.le_of_ble_eq_true rfl) rfl (fun C h => by cases h) w_arrayClass__int rfl rfl (rfP_fw (by decide +kernel)) (Nat.le_of_ble_eq_true rfl) (Nat.le_of_ble_eq_true rfl) rfl rfl (Nat.le_of_ble_eq_true rfl) (Nat.le_of_ble_eq_true rfl) ⟨Nat.le_of_ble_eq_true rfl, Nat.le_of_ble_eq_true rfl⟩ dX6_init_16 ?_
  obtain ⟨G2, eG2⟩ : ∃ Gz, Gz = zG G1 265 := ⟨_, rfl⟩
  have hG2 : GR G2 := by rw [eG2]; exact hG1.zz
  rw [← eG2]
  refine a_putR (pc := 18) (n := 266) (rf := rfP 262) (rf' := rfP 263) hI X9 okX6 2 rfl rfl rfl wF_X6_15 ⟨(Nat.le_of_ble_eq_true rfl), rfl⟩ (fun _ => ⟨rfl, rfl⟩) (rfP_s rfl rfl) dX6_init_18 ?_
  exact a_return (pc := 21) X9 E (Nat.le_of_ble_eq_true rfl) (Nat.le_of_ble_eq_true rfl) dX6_init_21 ⟨rfl, rfl, ⟨(by intro b k hb; rw [eG2, zG_ne (by omega)]; rw [eG1, zG_ne (by omega)]), trivial⟩⟩
set_option maxHeartbeats 4000000 in
set_option maxRecDepth 100000 in
theorem k_X0_init_266 {G : GH} : Mt yX0_init cX0_init 1 none 1 13 5 222 [vr 266] (267, shF, rfP 264) G (fun v S' G' => S' = (272, shF, rfP 269) ∧ v = none ∧ ((∀ b k, b < 266 → G' b k = G b k) ∧ True)) noX := by
  refine Mt.ofI (l0 := [some (vr 266)]) rfl (by decide) (Nat.le_of_ble_eq_true rfl) rfl ?_
  intro κ δ ρ0 X9 hI E hG
  replace X9 : CX κ δ RX0 cX0_init 1 none := X9
  have hR := E.rm
  refine a_aload_n (pc := 0) X9 dX0_init_0 rfl rfl ?_
  refine a_objInit (pc := 1) X9 hR wM_X0_3 (Nat.le_of_ble_eq_true rfl) (Nat.le_of_ble_eq_true rfl) dX0_init_1 ?_
  refine a_aload_n (pc := 4) X9 dX0_init_4 rfl rfl ?_
  refine a_iconst (pc := 5) X9 dX0_init_5 ?_
  refine a_putI (pc := 6) X9 okX0 0 rfl rfl wF_X0_9 ⟨(Nat.le_of_ble_eq_true rfl), rfl⟩ dX0_init_6 (by decide) (fit_int _) (fun _ => ?_)
  obtain ⟨G1, eG1⟩ : ∃ Gz, Gz = upG G 266 0 (-1) := ⟨_, rfl⟩
  have hG1 : GR G1 := by rw [eG1]; exact GR.up hG (by decide)
  rw [← eG1]
  refine a_aload_n (pc := 9) X9 dX0_init_9 rfl rfl ?_
  refine a_bipush (pc := 10) X9 dX0_init_10 rfl ?_
  refine a_newarr (atype := .int) (pc := 12) (n := 267) (N := 18) (t := 0) (rf := rfP 264) X9 hR (Nat.le_of_ble_eq_true rfl) rfl (fun C h => by cases h) w_arrayClass__int rfl rfl (rfP_fw (by decide +kernel)) (Nat.le_of_ble_eq_true rfl) (Nat.le_of_ble_eq_true rfl) rfl rfl (Nat.le_of_ble_eq_true rfl) (Nat.le_of_ble_eq_true rfl) ⟨Nat.le_of_ble_eq_true rfl, Nat.le_of_ble_eq_true rfl⟩ dX0_init_12 ?_
  obtain ⟨G2, eG2⟩ : ∃ Gz, Gz = zG G1 267 := ⟨_, rfl⟩
  have hG2 : GR G2 := by rw [eG2]; exact hG1.zz
  rw [← eG2]
  refine a_putR (pc := 14) (n := 268) (rf := rfP 264) (rf' := rfP 265) hI X9 okX0 1 rfl rfl rfl wF_X0_15 ⟨(Nat.le_of_ble_eq_true rfl), rfl⟩ (fun _ => ⟨rfl, rfl⟩) (rfP_s rfl rfl) dX0_init_14 ?_
  refine a_aload_n (pc := 17) X9 dX0_init_17 rfl rfl ?_
  refine a_bipush (pc := 18) X9 dX0_init_18 rfl ?_
  refine a_newarr (atype := .int) (pc := 20) (n := 268) (N := 54) (t := 0) (rf := rfP 265) X9 hR (Nat.le_of_ble_eq_true rfl) rfl (fun C h => by cases h) w_arrayClass__int rfl rfl (rfP_fw (by decide +kernel)) (Nat.le_of_ble_eq_true rfl) (Nat.le_of_ble_eq_true rfl) rfl rfl (Nat.le_of_ble_eq_true rfl) (Nat.le_of_ble_eq_true rfl) ⟨Nat.le_of_ble_eq_true rfl, Nat.le_of_ble_eq_true rfl⟩ dX0_init_20 ?_
  obtain ⟨G3, eG3⟩ : ∃ Gz, Gz = zG G2 268 := ⟨_, rfl⟩
  have hG3 : GR G3 := by rw [eG3]; exact hG2.zz
  rw [← eG3]
  refine a_putR (pc := 22) (n := 269) (rf := rfP 265) (rf' := rfP 266) hI X9 okX0 2 rfl rfl rfl wF_X0_19 ⟨(Nat.le_of_ble_eq_true rfl), rfl⟩ (fun _ => ⟨rfl, rfl⟩) (rfP_s rfl rfl) dX0_init_22 ?_
  refine a_aload_n (pc := 25) X9 dX0_init_25 rfl rfl ?_
  refine a_bipush (pc := 26) X9 dX0_init_26 rfl ?_
  refine a_newarr (atype := .int) (pc := 28) (n := 269) (N := 54) (t := 0) (rf := rfP 266) X9 hR (Nat.le_of_ble_eq_true rfl) rfl (fun C h => by cases h) w_arrayClass__int rfl rfl (rfP_fw (by decide +kernel)) (Nat.le_of_ble_eq_true rfl) (Nat.le_of_ble_eq_true rfl) rfl rfl (Nat.le_of_ble_eq_true rfl) (Nat.le_of_ble_eq_true rfl) ⟨Nat.le_of_ble_eq_true rfl, Nat.le_of_ble_eq_true rfl⟩ dX0_init_28 ?_
  obtain ⟨G4, eG4⟩ : ∃ Gz, Gz = zG G3 269 := ⟨_, rfl⟩
  have hG4 : GR G4 := by rw [eG4]; exact hG3.zz
  rw [← eG4]
  refine a_putR (pc := 30) (n := 270) (rf := rfP 266) (rf' := rfP 267) hI X9 okX0 3 rfl rfl rfl wF_X0_22 ⟨(Nat.le_of_ble_eq_true rfl), rfl⟩ (fun _ => ⟨rfl, rfl⟩) (rfP_s rfl rfl) dX0_init_30 ?_
  refine a_aload_n (pc := 33) X9 dX0_init_33 rfl rfl ?_
  refine a_bipush (pc := 34) X9 dX0_init_34 rfl ?_
  refine a_newarr (atype := .int) (pc := 36) (n := 270) (N := 54) (t := 0) (rf := rfP 267) X9 hR (Nat.le_of_ble_eq_true rfl) rfl (fun C h => by cases h) w_arrayClass__int rfl rfl (rfP_fw (by decide +kernel)) (Nat.le_of_ble_eq_true rfl) (Nat.le_of_ble_eq_true rfl) rfl rfl (Nat.le_of_ble_eq_true rfl) (Nat.le_of_ble_eq_true rfl) ⟨Nat.le_of_ble_eq_true rfl, Nat.le_of_ble_eq_true rfl⟩ dX0_init_36 ?_
  obtain ⟨G5, eG5⟩ : ∃ Gz, Gz = zG G4 270 := ⟨_, rfl⟩
  have hG5 : GR G5 := by rw [eG5]; exact hG4.zz
  rw [← eG5]
  refine a_putR (pc := 38) (n := 271) (rf := rfP 267) (rf' := rfP 268) hI X9 okX0 4 rfl rfl rfl wF_X0_25 ⟨(Nat.le_of_ble_eq_true rfl), rfl⟩ (fun _ => ⟨rfl, rfl⟩) (rfP_s rfl rfl) dX0_init_38 ?_
  refine a_aload_n (pc := 41) X9 dX0_init_41 rfl rfl ?_
  refine a_bipush (pc := 42) X9 dX0_init_42 rfl ?_
  refine a_newarr (atype := .int) (pc := 44) (n := 271) (N := 42) (t := 0) (rf := rfP 268) X9 hR (Nat.le_of_ble_eq_true rfl) rfl (fun C h => by cases h) w_arrayClass__int rfl rfl (rfP_fw (by decide +kernel)) (Nat.le_of_ble_eq_true rfl) (Nat.le_of_ble_eq_true rfl) rfl rfl (Nat.le_of_ble_eq_true rfl) (Nat.le_of_ble_eq_true rfl) ⟨Nat.le_of_ble_eq_true rfl, Nat.le_of_ble_eq_true rfl⟩ dX0_init_44 ?_
  obtain ⟨G6, eG6⟩ : ∃ Gz, Gz = zG G5 271 := ⟨_, rfl⟩
  have hG6 : GR G6 := by rw [eG6]; exact hG5.zz
  rw [← eG6]
  refine a_putR (pc := 46) (n := 272) (rf := rfP 268) (rf' := rfP 269) hI X9 okX0 5 rfl rfl rfl wF_X0_28 ⟨(Nat.le_of_ble_eq_true rfl), rfl⟩ (fun _ => ⟨rfl, rfl⟩) (rfP_s rfl rfl) dX0_init_46 ?_
  exact a_return (pc := 49) X9 E (Nat.le_of_ble_eq_true rfl) (Nat.le_of_ble_eq_true rfl) dX0_init_49 ⟨rfl, rfl, ⟨(by intro b k hb; rw [eG6, zG_ne (by omega)]; rw [eG5, zG_ne (by omega)]; rw [eG4, zG_ne (by omega)]; rw [eG3, zG_ne (by omega)]; rw [eG2, zG_ne (by omega)]; rw [eG1, upG_na (by omega)]), trivial⟩⟩
set_option maxHeartbeats 4000000 in
set_option maxRecDepth 100000 in
theorem k_X7_init_252 {G : GH} : Mt yX7_init cX7_init 1 none 2 33 19 525 [vr 252] (253, shF, rfP 251) G (fun v S' G' => S' = (272, shF, rfP 270) ∧ v = none ∧ ((∀ b k, b < 252 → G' b k = G b k) ∧ True)) noX := by
  refine Mt.ofI (l0 := [some (vr 252)]) rfl (by decide) (Nat.le_of_ble_eq_true rfl) rfl ?_
  intro κ δ ρ0 X9 hI E hG
  replace X9 : CX κ δ RX7 cX7_init 1 none := X9
  have hR := E.rm
  refine a_aload_n (pc := 0) X9 dX7_init_0 rfl rfl ?_
  refine a_objInit (pc := 1) X9 hR wM_X7_3 (Nat.le_of_ble_eq_true rfl) (Nat.le_of_ble_eq_true rfl) dX7_init_1 ?_
  refine a_aload_n (pc := 4) X9 dX7_init_4 rfl rfl ?_
  refine a_iconst (pc := 5) X9 dX7_init_5 ?_
  refine a_newarr (atype := .int) (pc := 6) (n := 253) (N := 3) (t := 0) (rf := rfP 251) X9 hR (Nat.le_of_ble_eq_true rfl) rfl (fun C h => by cases h) w_arrayClass__int rfl rfl (rfP_fw (by decide +kernel)) (Nat.le_of_ble_eq_true rfl) (Nat.le_of_ble_eq_true rfl) rfl rfl (Nat.le_of_ble_eq_true rfl) (Nat.le_of_ble_eq_true rfl) ⟨Nat.le_of_ble_eq_true rfl, Nat.le_of_ble_eq_true rfl⟩ dX7_init_6 ?_
  obtain ⟨G1, eG1⟩ : ∃ Gz, Gz = zG G 253 := ⟨_, rfl⟩
  have hG1 : GR G1 := by rw [eG1]; exact hG.zz
  rw [← eG1]
  refine a_putR (pc := 8) (n := 254) (rf := rfP 251) (rf' := rfP 252) hI X9 okX7 1 rfl rfl rfl wF_X7_9 ⟨(Nat.le_of_ble_eq_true rfl), rfl⟩ (fun _ => ⟨rfl, rfl⟩) (rfP_s rfl rfl) dX7_init_8 ?_
  refine a_aload_n (pc := 11) X9 dX7_init_11 rfl rfl ?_
  refine a_new (pc := 12) (n := 254) (rf := rfP 252) X9 hR okX8 wC_X7_15 w_instantiable_RX8 w_initialized_RX8 fv_X8 rfl (rfP_none (by decide +kernel)) (rfP_fw (by decide +kernel)) (Nat.le_of_ble_eq_true rfl) (Nat.le_of_ble_eq_true rfl) rfl rfl ⟨Nat.le_of_ble_eq_true rfl, Nat.le_of_ble_eq_true rfl⟩ dX7_init_12 ?_
  obtain ⟨G2, eG2⟩ : ∃ Gz, Gz = zG G1 254 := ⟨_, rfl⟩
  have hG2 : GR G2 := by rw [eG2]; exact hG1.zz
  rw [← eG2]
  refine a_dup (pc := 15) X9 dX7_init_15 rfl ?_
  refine a_callIN (pc := 16) X9 hR (k_X8_init_254 (G := G2)) (Nat.le_of_ble_eq_true rfl) rfl rfl (Nat.le_of_ble_eq_true rfl) nx_X7_17 w_instanceMethod_X8_init w_initialized_RX8 w_code_X8_init cpN_X8 pnN_X8 rfl (Nat.le_of_ble_eq_true rfl) ⟨Nat.le_of_ble_eq_true rfl, Nat.le_of_ble_eq_true rfl⟩ ⟨Nat.le_of_ble_eq_true rfl, Nat.le_of_ble_eq_true rfl⟩ dX7_init_16 (fun G3 pG3 hG3 => ?_)
  refine a_putR (pc := 19) (n := 263) (rf := rfP 260) (rf' := rfP 261) hI X9 okX7 3 rfl rfl rfl wF_X7_18 ⟨(Nat.le_of_ble_eq_true rfl), rfl⟩ (fun _ => ⟨rfl, rfl⟩) (rfP_s rfl rfl) dX7_init_19 ?_
  refine a_aload_n (pc := 22) X9 dX7_init_22 rfl rfl ?_
  refine a_new (pc := 23) (n := 263) (rf := rfP 261) X9 hR okX6 wC_X7_22 w_instantiable_RX6 w_initialized_RX6 fv_X6 rfl (rfP_none (by decide +kernel)) (rfP_fw (by decide +kernel)) (Nat.le_of_ble_eq_true rfl) (Nat.le_of_ble_eq_true rfl) rfl rfl ⟨Nat.le_of_ble_eq_true rfl, Nat.le_of_ble_eq_true rfl⟩ dX7_init_23 ?_
  obtain ⟨G4, eG4⟩ : ∃ Gz, Gz = zG G3 263 := ⟨_, rfl⟩
  have hG4 : GR G4 := by rw [eG4]; exact hG3.zz
  rw [← eG4]
  refine a_dup (pc := 26) X9 dX7_init_26 rfl ?_
  refine a_callIN (pc := 27) X9 hR (k_X6_init_263 (G := G4)) (Nat.le_of_ble_eq_true rfl) rfl rfl (Nat.le_of_ble_eq_true rfl) nx_X7_24 w_instanceMethod_X6_init w_initialized_RX6 w_code_X6_init cpN_X6 pnN_X6 rfl (Nat.le_of_ble_eq_true rfl) ⟨Nat.le_of_ble_eq_true rfl, Nat.le_of_ble_eq_true rfl⟩ ⟨Nat.le_of_ble_eq_true rfl, Nat.le_of_ble_eq_true rfl⟩ dX7_init_27 (fun G5 pG5 hG5 => ?_)
  refine a_putR (pc := 30) (n := 266) (rf := rfP 263) (rf' := rfP 264) hI X9 okX7 4 rfl rfl rfl wF_X7_25 ⟨(Nat.le_of_ble_eq_true rfl), rfl⟩ (fun _ => ⟨rfl, rfl⟩) (rfP_s rfl rfl) dX7_init_30 ?_
  refine a_aload_n (pc := 33) X9 dX7_init_33 rfl rfl ?_
  refine a_new (pc := 34) (n := 266) (rf := rfP 264) X9 hR okX0 wC_X7_29 w_instantiable_RX0 w_initialized_RX0 fv_X0 rfl (rfP_none (by decide +kernel)) (rfP_fw (by decide +kernel)) (Nat.le_of_ble_eq_true rfl) (Nat.le_of_ble_eq_true rfl) rfl rfl ⟨Nat.le_of_ble_eq_true rfl, Nat.le_of_ble_eq_true rfl⟩ dX7_init_34 ?_
  obtain ⟨G6, eG6⟩ : ∃ Gz, Gz = zG G5 266 := ⟨_, rfl⟩
  have hG6 : GR G6 := by rw [eG6]; exact hG5.zz
  rw [← eG6]
  refine a_dup (pc := 37) X9 dX7_init_37 rfl ?_
  refine a_callIN (pc := 38) X9 hR (k_X0_init_266 (G := G6)) (Nat.le_of_ble_eq_true rfl) rfl rfl (Nat.le_of_ble_eq_true rfl) nx_X7_31 w_instanceMethod_X0_init w_initialized_RX0 w_code_X0_init cpN_X0 pnN_X0 rfl (Nat.le_of_ble_eq_true rfl) ⟨Nat.le_of_ble_eq_true rfl, Nat.le_of_ble_eq_true rfl⟩ ⟨Nat.le_of_ble_eq_true rfl, Nat.le_of_ble_eq_true rfl⟩ dX7_init_38 (fun G7 pG7 hG7 => ?_)
  refine a_putR (pc := 41) (n := 272) (rf := rfP 269) (rf' := rfP 270) hI X9 okX7 5 rfl rfl rfl wF_X7_32 ⟨(Nat.le_of_ble_eq_true rfl), rfl⟩ (fun _ => ⟨rfl, rfl⟩) (rfP_s rfl rfl) dX7_init_41 ?_
  exact a_return (pc := 44) X9 E (Nat.le_of_ble_eq_true rfl) (Nat.le_of_ble_eq_true rfl) dX7_init_44 ⟨rfl, rfl, ⟨(by intro b k hb; rw [pG7.1 b k (by omega)]; rw [eG6, zG_ne (by omega)]; rw [pG5.1 b k (by omega)]; rw [eG4, zG_ne (by omega)]; rw [pG3.1 b k (by omega)]; rw [eG2, zG_ne (by omega)]; rw [eG1, zG_ne (by omega)]), trivial⟩⟩
set_option maxHeartbeats 4000000 in
set_option maxRecDepth 100000 in
theorem k_X9_init_0 {G : GH} {Q : GH → Prop} (h : ∀ G1 : GH, (∀ b k, b < 0 → G1 b k = G b k) ∧ G1 41 1 = 0 ∧ G1 41 2 = 0 ∧ G1 41 3 = 0 ∧ G1 41 4 = 0 ∧ G1 41 5 = 0 ∧ G1 41 6 = 0 ∧ G1 41 7 = 0 ∧ G1 41 8 = 0 ∧ G1 41 9 = 0 ∧ G1 44 1 = 0 ∧ G1 44 2 = 0 ∧ G1 230 1 = 0 ∧ G1 207 0 = 0 ∧ G1 207 1 = 0 → f_X7_startAnew 1 G1 (fun G2 => ∀ G3, G3 = upG G2 1 0 1 → ∀ G4, G4 = upG G3 2 0 4 → Q G4)) : Mt yX9_init cX9_init 2 none 4 74 271 8132 [vr 0] (1, shF, rfP 0) G (fun v S' G' => S' = (272, shF, rfP 271) ∧ v = none ∧ Q G') noX := by
  refine Mt.ofI (l0 := [some (vr 0), none]) rfl (by decide) (Nat.le_of_ble_eq_true rfl) rfl ?_
  intro κ δ ρ0 X9 hI E hG
  replace X9 : CX κ δ RX9 cX9_init 2 none := X9
  have hR := E.rm
  refine a_aload_n (pc := 0) X9 dX9_init_0 rfl rfl ?_
  refine a_objInit (pc := 1) X9 hR wM_X9_3 (Nat.le_of_ble_eq_true rfl) (Nat.le_of_ble_eq_true rfl) dX9_init_1 ?_
  refine a_aload_n (pc := 4) X9 dX9_init_4 rfl rfl ?_
  refine a_new (pc := 5) (n := 1) (rf := rfP 0) X9 hR okX7 wC_X9_9 w_instantiable_RX7 w_initialized_RX7 fv_X7 rfl (rfP_none (by decide +kernel)) (rfP_fw (by decide +kernel)) (Nat.le_of_ble_eq_true rfl) (Nat.le_of_ble_eq_true rfl) rfl rfl ⟨Nat.le_of_ble_eq_true rfl, Nat.le_of_ble_eq_true rfl⟩ dX9_init_5 ?_
  obtain ⟨G1, eG1⟩ : ∃ Gz, Gz = zG G 1 := ⟨_, rfl⟩
  have hG1 : GR G1 := by rw [eG1]; exact hG.zz
  rw [← eG1]
  refine a_dup (pc := 8) X9 dX9_init_8 rfl ?_
  refine a_callIN (pc := 9) X9 hR (k_X7_init_1 (G := G1)) (Nat.le_of_ble_eq_true rfl) rfl rfl (Nat.le_of_ble_eq_true rfl) nx_X9_11 w_instanceMethod_X7_init w_initialized_RX7 w_code_X7_init cpN_X7 pnN_X7 rfl (Nat.le_of_ble_eq_true rfl) ⟨Nat.le_of_ble_eq_true rfl, Nat.le_of_ble_eq_true rfl⟩ ⟨Nat.le_of_ble_eq_true rfl, Nat.le_of_ble_eq_true rfl⟩ dX9_init_9 (fun G2 pG2 hG2 => ?_)
  refine a_putR (pc := 12) (n := 21) (rf := rfP 19) (rf' := rfP 20) hI X9 okX9 0 rfl rfl rfl wF_X9_12 ⟨(Nat.le_of_ble_eq_true rfl), rfl⟩ (fun _ => ⟨rfl, rfl⟩) (rfP_s rfl rfl) dX9_init_12 ?_
  refine a_aload_n (pc := 15) X9 dX9_init_15 rfl rfl ?_
  refine a_new (pc := 16) (n := 21) (rf := rfP 20) X9 hR okX7 wC_X9_9 w_instantiable_RX7 w_initialized_RX7 fv_X7 rfl (rfP_none (by decide +kernel)) (rfP_fw (by decide +kernel)) (Nat.le_of_ble_eq_true rfl) (Nat.le_of_ble_eq_true rfl) rfl rfl ⟨Nat.le_of_ble_eq_true rfl, Nat.le_of_ble_eq_true rfl⟩ dX9_init_16 ?_
  obtain ⟨G3, eG3⟩ : ∃ Gz, Gz = zG G2 21 := ⟨_, rfl⟩
  have hG3 : GR G3 := by rw [eG3]; exact hG2.zz
  rw [← eG3]
  refine a_dup (pc := 19) X9 dX9_init_19 rfl ?_
  refine a_callIN (pc := 20) X9 hR (k_X7_init_21 (G := G3)) (Nat.le_of_ble_eq_true rfl) rfl rfl (Nat.le_of_ble_eq_true rfl) nx_X9_11 w_instanceMethod_X7_init w_initialized_RX7 w_code_X7_init cpN_X7 pnN_X7 rfl (Nat.le_of_ble_eq_true rfl) ⟨Nat.le_of_ble_eq_true rfl, Nat.le_of_ble_eq_true rfl⟩ ⟨Nat.le_of_ble_eq_true rfl, Nat.le_of_ble_eq_true rfl⟩ dX9_init_20 (fun G4 pG4 hG4 => ?_)
  refine a_putR (pc := 23) (n := 41) (rf := rfP 39) (rf' := rfP 40) hI X9 okX9 1 rfl rfl rfl wF_X9_16 ⟨(Nat.le_of_ble_eq_true rfl), rfl⟩ (fun _ => ⟨rfl, rfl⟩) (rfP_s rfl rfl) dX9_init_23 ?_
  refine a_aload_n (pc := 26) X9 dX9_init_26 rfl rfl ?_
  refine a_new (pc := 27) (n := 41) (rf := rfP 40) X9 hR okX5 wC_X9_19 w_instantiable_RX5 w_initialized_RX5 fv_X5 rfl (rfP_none (by decide +kernel)) (rfP_fw (by decide +kernel)) (Nat.le_of_ble_eq_true rfl) (Nat.le_of_ble_eq_true rfl) rfl rfl ⟨Nat.le_of_ble_eq_true rfl, Nat.le_of_ble_eq_true rfl⟩ dX9_init_27 ?_
  obtain ⟨G5, eG5⟩ : ∃ Gz, Gz = zG G4 41 := ⟨_, rfl⟩
  have hG5 : GR G5 := by rw [eG5]; exact hG4.zz
  rw [← eG5]
  refine a_dup (pc := 30) X9 dX9_init_30 rfl ?_
  refine a_callIN (pc := 31) X9 hR (k_X5_init_41 (G := G5)) (Nat.le_of_ble_eq_true rfl) rfl rfl (Nat.le_of_ble_eq_true rfl) nx_X9_21 w_instanceMethod_X5_init w_initialized_RX5 w_code_X5_init cpN_X5 pnN_X5 rfl (Nat.le_of_ble_eq_true rfl) ⟨Nat.le_of_ble_eq_true rfl, Nat.le_of_ble_eq_true rfl⟩ ⟨Nat.le_of_ble_eq_true rfl, Nat.le_of_ble_eq_true rfl⟩ dX9_init_31 (fun G6 pG6 hG6 => ?_)
  refine a_putR (pc := 34) (n := 44) (rf := rfP 42) (rf' := rfP 43) hI X9 okX9 2 rfl rfl rfl wF_X9_22 ⟨(Nat.le_of_ble_eq_true rfl), rfl⟩ (fun _ => ⟨rfl, rfl⟩) (rfP_s rfl rfl) dX9_init_34 ?_
  refine a_aload_n (pc := 37) X9 dX9_init_37 rfl rfl ?_
  refine a_new (pc := 38) (n := 44) (rf := rfP 43) X9 hR okX1 wC_X9_26 w_instantiable_RX1 w_initialized_RX1 fv_X1 rfl (rfP_none (by decide +kernel)) (rfP_fw (by decide +kernel)) (Nat.le_of_ble_eq_true rfl) (Nat.le_of_ble_eq_true rfl) rfl rfl ⟨Nat.le_of_ble_eq_true rfl, Nat.le_of_ble_eq_true rfl⟩ dX9_init_38 ?_
  obtain ⟨G7, eG7⟩ : ∃ Gz, Gz = zG G6 44 := ⟨_, rfl⟩
  have hG7 : GR G7 := by rw [eG7]; exact hG6.zz
  rw [← eG7]
  refine a_dup (pc := 41) X9 dX9_init_41 rfl ?_
  refine a_callI (pc := 42) X9 hR (k_X1_init_44 (G := G7)) (Nat.le_of_ble_eq_true rfl) rfl rfl (Nat.le_of_ble_eq_true rfl) wM_X9_28 w_instanceMethod_X1_init w_initialized_RX1 w_code_X1_init cpN_X1 pnN_X1 rfl (Nat.le_of_ble_eq_true rfl) ⟨Nat.le_of_ble_eq_true rfl, Nat.le_of_ble_eq_true rfl⟩ ⟨Nat.le_of_ble_eq_true rfl, Nat.le_of_ble_eq_true rfl⟩ dX9_init_42 (fun G8 pG8 hG8 => ?_)
  refine a_putR (pc := 45) (n := 206) (rf := rfP 204) (rf' := rfP 205) hI X9 okX9 3 rfl rfl rfl wF_X9_29 ⟨(Nat.le_of_ble_eq_true rfl), rfl⟩ (fun _ => ⟨rfl, rfl⟩) (rfP_s rfl rfl) dX9_init_45 ?_
  refine a_aload_n (pc := 48) X9 dX9_init_48 rfl rfl ?_
  refine a_iconst (pc := 49) X9 dX9_init_49 ?_
  refine a_newrefs (pc := 50) (n := 206) (N := 2) (rf := rfP 205) X9 hR wC_X9_9 rfl (rfP_none (by decide +kernel)) (rfP_fw (by decide +kernel)) (Nat.le_of_ble_eq_true rfl) (Nat.le_of_ble_eq_true rfl) rfl rfl (Nat.le_of_ble_eq_true rfl) ⟨Nat.le_of_ble_eq_true rfl, Nat.le_of_ble_eq_true rfl⟩ dX9_init_50 ?_
  obtain ⟨G9, eG9⟩ : ∃ Gz, Gz = zG G8 206 := ⟨_, rfl⟩
  have hG9 : GR G9 := by rw [eG9]; exact hG8.zz
  rw [← eG9]
  refine a_putR (pc := 53) (n := 207) (rf := rfP 205) (rf' := rfP 206) hI X9 okX9 4 rfl rfl rfl wF_X9_33 ⟨(Nat.le_of_ble_eq_true rfl), rfl⟩ (fun _ => ⟨rfl, rfl⟩) (rfP_s rfl rfl) dX9_init_53 ?_
  refine a_aload_n (pc := 56) X9 dX9_init_56 rfl rfl ?_
  refine a_iconst (pc := 57) X9 dX9_init_57 ?_
  refine a_newarr (atype := .boolean) (pc := 58) (n := 207) (N := 2) (t := 1) (rf := rfP 206) X9 hR (Nat.le_of_ble_eq_true rfl) rfl (fun C h => by cases h) w_arrayClass__boolean rfl rfl (rfP_fw (by decide +kernel)) (Nat.le_of_ble_eq_true rfl) (Nat.le_of_ble_eq_true rfl) rfl rfl (Nat.le_of_ble_eq_true rfl) (Nat.le_of_ble_eq_true rfl) ⟨Nat.le_of_ble_eq_true rfl, Nat.le_of_ble_eq_true rfl⟩ dX9_init_58 ?_
  obtain ⟨G10, eG10⟩ : ∃ Gz, Gz = zG G9 207 := ⟨_, rfl⟩
  have hG10 : GR G10 := by rw [eG10]; exact hG9.zz
  rw [← eG10]
  refine a_putR (pc := 60) (n := 208) (rf := rfP 206) (rf' := rfP 207) hI X9 okX9 5 rfl rfl rfl wF_X9_37 ⟨(Nat.le_of_ble_eq_true rfl), rfl⟩ (fun _ => ⟨rfl, rfl⟩) (rfP_s rfl rfl) dX9_init_60 ?_
  refine a_aload_n (pc := 63) X9 dX9_init_63 rfl rfl ?_
  refine a_new (pc := 64) (n := 208) (rf := rfP 207) X9 hR okX4 wC_X9_41 w_instantiable_RX4 w_initialized_RX4 fv_X4 rfl (rfP_none (by decide +kernel)) (rfP_fw (by decide +kernel)) (Nat.le_of_ble_eq_true rfl) (Nat.le_of_ble_eq_true rfl) rfl rfl ⟨Nat.le_of_ble_eq_true rfl, Nat.le_of_ble_eq_true rfl⟩ dX9_init_64 ?_
  obtain ⟨G11, eG11⟩ : ∃ Gz, Gz = zG G10 208 := ⟨_, rfl⟩
  have hG11 : GR G11 := by rw [eG11]; exact hG10.zz
  rw [← eG11]
  refine a_dup (pc := 67) X9 dX9_init_67 rfl ?_
  refine a_callIN (pc := 68) X9 hR (k_X4_init_208 (G := G11)) (Nat.le_of_ble_eq_true rfl) rfl rfl (Nat.le_of_ble_eq_true rfl) nx_X9_43 w_instanceMethod_X4_init w_initialized_RX4 w_code_X4_init cpN_X4 pnN_X4 rfl (Nat.le_of_ble_eq_true rfl) ⟨Nat.le_of_ble_eq_true rfl, Nat.le_of_ble_eq_true rfl⟩ ⟨Nat.le_of_ble_eq_true rfl, Nat.le_of_ble_eq_true rfl⟩ dX9_init_68 (fun G12 pG12 hG12 => ?_)
  refine a_putR (pc := 71) (n := 218) (rf := rfP 216) (rf' := rfP 217) hI X9 okX9 6 rfl rfl rfl wF_X9_44 ⟨(Nat.le_of_ble_eq_true rfl), rfl⟩ (fun _ => ⟨rfl, rfl⟩) (rfP_s rfl rfl) dX9_init_71 ?_
  refine a_aload_n (pc := 74) X9 dX9_init_74 rfl rfl ?_
  refine a_new (pc := 75) (n := 218) (rf := rfP 217) X9 hR okX0 wC_X9_48 w_instantiable_RX0 w_initialized_RX0 fv_X0 rfl (rfP_none (by decide +kernel)) (rfP_fw (by decide +kernel)) (Nat.le_of_ble_eq_true rfl) (Nat.le_of_ble_eq_true rfl) rfl rfl ⟨Nat.le_of_ble_eq_true rfl, Nat.le_of_ble_eq_true rfl⟩ dX9_init_75 ?_
  obtain ⟨G13, eG13⟩ : ∃ Gz, Gz = zG G12 218 := ⟨_, rfl⟩
  have hG13 : GR G13 := by rw [eG13]; exact hG12.zz
  rw [← eG13]
  refine a_dup (pc := 78) X9 dX9_init_78 rfl ?_
  refine a_callIN (pc := 79) X9 hR (k_X0_init_218 (G := G13)) (Nat.le_of_ble_eq_true rfl) rfl rfl (Nat.le_of_ble_eq_true rfl) nx_X9_50 w_instanceMethod_X0_init w_initialized_RX0 w_code_X0_init cpN_X0 pnN_X0 rfl (Nat.le_of_ble_eq_true rfl) ⟨Nat.le_of_ble_eq_true rfl, Nat.le_of_ble_eq_true rfl⟩ ⟨Nat.le_of_ble_eq_true rfl, Nat.le_of_ble_eq_true rfl⟩ dX9_init_79 (fun G14 pG14 hG14 => ?_)
  refine a_putR (pc := 82) (n := 224) (rf := rfP 222) (rf' := rfP 223) hI X9 okX9 7 rfl rfl rfl wF_X9_51 ⟨(Nat.le_of_ble_eq_true rfl), rfl⟩ (fun _ => ⟨rfl, rfl⟩) (rfP_s rfl rfl) dX9_init_82 ?_
  refine a_aload_n (pc := 85) X9 dX9_init_85 rfl rfl ?_
  refine a_new (pc := 86) (n := 224) (rf := rfP 223) X9 hR okX0 wC_X9_48 w_instantiable_RX0 w_initialized_RX0 fv_X0 rfl (rfP_none (by decide +kernel)) (rfP_fw (by decide +kernel)) (Nat.le_of_ble_eq_true rfl) (Nat.le_of_ble_eq_true rfl) rfl rfl ⟨Nat.le_of_ble_eq_true rfl, Nat.le_of_ble_eq_true rfl⟩ dX9_init_86 ?_
  obtain ⟨G15, eG15⟩ : ∃ Gz, Gz = zG G14 224 := ⟨_, rfl⟩
  have hG15 : GR G15 := by rw [eG15]; exact hG14.zz
  rw [← eG15]
  refine a_dup (pc := 89) X9 dX9_init_89 rfl ?_
  refine a_callIN (pc := 90) X9 hR (k_X0_init_224 (G := G15)) (Nat.le_of_ble_eq_true rfl) rfl rfl (Nat.le_of_ble_eq_true rfl) nx_X9_50 w_instanceMethod_X0_init w_initialized_RX0 w_code_X0_init cpN_X0 pnN_X0 rfl (Nat.le_of_ble_eq_true rfl) ⟨Nat.le_of_ble_eq_true rfl, Nat.le_of_ble_eq_true rfl⟩ ⟨Nat.le_of_ble_eq_true rfl, Nat.le_of_ble_eq_true rfl⟩ dX9_init_90 (fun G16 pG16 hG16 => ?_)
  refine a_putR (pc := 93) (n := 230) (rf := rfP 228) (rf' := rfP 229) hI X9 okX9 8 rfl rfl rfl wF_X9_55 ⟨(Nat.le_of_ble_eq_true rfl), rfl⟩ (fun _ => ⟨rfl, rfl⟩) (rfP_s rfl rfl) dX9_init_93 ?_
  refine a_aload_n (pc := 96) X9 dX9_init_96 rfl rfl ?_
  refine a_new (pc := 97) (n := 230) (rf := rfP 229) X9 hR okX3 wC_X9_58 w_instantiable_RX3 w_initialized_RX3 fv_X3 rfl (rfP_none (by decide +kernel)) (rfP_fw (by decide +kernel)) (Nat.le_of_ble_eq_true rfl) (Nat.le_of_ble_eq_true rfl) rfl rfl ⟨Nat.le_of_ble_eq_true rfl, Nat.le_of_ble_eq_true rfl⟩ dX9_init_97 ?_
  obtain ⟨G17, eG17⟩ : ∃ Gz, Gz = zG G16 230 := ⟨_, rfl⟩
  have hG17 : GR G17 := by rw [eG17]; exact hG16.zz
  rw [← eG17]
  refine a_dup (pc := 100) X9 dX9_init_100 rfl ?_
  refine a_callIN (pc := 101) X9 hR (k_X3_init_230 (G := G17)) (Nat.le_of_ble_eq_true rfl) rfl rfl (Nat.le_of_ble_eq_true rfl) nx_X9_60 w_instanceMethod_X3_init w_initialized_RX3 w_code_X3_init cpN_X3 pnN_X3 rfl (Nat.le_of_ble_eq_true rfl) ⟨Nat.le_of_ble_eq_true rfl, Nat.le_of_ble_eq_true rfl⟩ ⟨Nat.le_of_ble_eq_true rfl, Nat.le_of_ble_eq_true rfl⟩ dX9_init_101 (fun G18 pG18 hG18 => ?_)
  refine a_putR (pc := 104) (n := 232) (rf := rfP 230) (rf' := rfP 231) hI X9 okX9 9 rfl rfl rfl wF_X9_61 ⟨(Nat.le_of_ble_eq_true rfl), rfl⟩ (fun _ => ⟨rfl, rfl⟩) (rfP_s rfl rfl) dX9_init_104 ?_
  refine a_iconst (pc := 107) X9 dX9_init_107 ?_
  refine a_istore_n (pc := 108) X9 dX9_init_108 rfl (Nat.le_of_ble_eq_true rfl) rfl rfl ?_
  refine a_iload_n (pc := 109) X9 dX9_init_109 rfl rfl ?_
  refine a_iconst (pc := 110) X9 dX9_init_110 ?_
  refine a_icmp_ge (pc := 111) (tgt := 133) X9 dX9_init_111 rfl (by decide) (by decide) (fun c => absurd c (by decide)) (fun _ => ?_)
  refine a_aload_n (pc := 114) X9 dX9_init_114 rfl rfl ?_
  refine a_getR (pc := 115) (q := 206) X9 okX9 4 rfl wF_X9_33 ⟨(Nat.le_of_ble_eq_true rfl), rfl⟩ rfl dX9_init_115 ?_
  refine a_iload_n (pc := 118) X9 dX9_init_118 rfl rfl ?_
  refine a_new (pc := 119) (n := 232) (rf := rfP 231) X9 hR okX7 wC_X9_9 w_instantiable_RX7 w_initialized_RX7 fv_X7 rfl (rfP_none (by decide +kernel)) (rfP_fw (by decide +kernel)) (Nat.le_of_ble_eq_true rfl) (Nat.le_of_ble_eq_true rfl) rfl rfl ⟨Nat.le_of_ble_eq_true rfl, Nat.le_of_ble_eq_true rfl⟩ dX9_init_119 ?_
  obtain ⟨G19, eG19⟩ : ∃ Gz, Gz = zG G18 232 := ⟨_, rfl⟩
  have hG19 : GR G19 := by rw [eG19]; exact hG18.zz
  rw [← eG19]
  refine a_dup (pc := 122) X9 dX9_init_122 rfl ?_
  refine a_callIN (pc := 123) X9 hR (k_X7_init_232 (G := G19)) (Nat.le_of_ble_eq_true rfl) rfl rfl (Nat.le_of_ble_eq_true rfl) nx_X9_11 w_instanceMethod_X7_init w_initialized_RX7 w_code_X7_init cpN_X7 pnN_X7 rfl (Nat.le_of_ble_eq_true rfl) ⟨Nat.le_of_ble_eq_true rfl, Nat.le_of_ble_eq_true rfl⟩ ⟨Nat.le_of_ble_eq_true rfl, Nat.le_of_ble_eq_true rfl⟩ dX9_init_123 (fun G20 pG20 hG20 => ?_)
  refine a_aast (pc := 126) (n := 252) (j := 0) (rf := rfP 250) (rf' := rfP 251) X9 ⟨(Nat.le_of_ble_eq_true rfl), rfl⟩ ⟨(Nat.le_of_ble_eq_true rfl), rfl⟩ (Nat.le_of_ble_eq_true rfl) rfl (Nat.le_of_ble_eq_true rfl) (rfP_s rfl rfl) dX9_init_126 ?_
  refine a_iinc (pc := 127) X9 dX9_init_127 rfl (Nat.le_of_ble_eq_true rfl) rfl rfl ?_
  refine a_goto (pc := 130) (tgt := 109) X9 dX9_init_130 rfl ?_
  refine a_iload_n (pc := 109) X9 dX9_init_109 rfl rfl ?_
  refine a_iconst (pc := 110) X9 dX9_init_110 ?_
  refine a_icmp_ge (pc := 111) (tgt := 133) X9 dX9_init_111 rfl (by decide) (by decide) (fun c => absurd c (by decide)) (fun _ => ?_)
  refine a_aload_n (pc := 114) X9 dX9_init_114 rfl rfl ?_
  refine a_getR (pc := 115) (q := 206) X9 okX9 4 rfl wF_X9_33 ⟨(Nat.le_of_ble_eq_true rfl), rfl⟩ rfl dX9_init_115 ?_
  refine a_iload_n (pc := 118) X9 dX9_init_118 rfl rfl ?_
  refine a_new (pc := 119) (n := 252) (rf := rfP 251) X9 hR okX7 wC_X9_9 w_instantiable_RX7 w_initialized_RX7 fv_X7 rfl (rfP_none (by decide +kernel)) (rfP_fw (by decide +kernel)) (Nat.le_of_ble_eq_true rfl) (Nat.le_of_ble_eq_true rfl) rfl rfl ⟨Nat.le_of_ble_eq_true rfl, Nat.le_of_ble_eq_true rfl⟩ dX9_init_119 ?_
  obtain ⟨G21, eG21⟩ : ∃ Gz, Gz = zG G20 252 := ⟨_, rfl⟩
  have hG21 : GR G21 := by rw [eG21]; exact hG20.zz
  rw [← eG21]
  refine a_dup (pc := 122) X9 dX9_init_122 rfl ?_
  refine a_callIN (pc := 123) X9 hR (k_X7_init_252 (G := G21)) (Nat.le_of_ble_eq_true rfl) rfl rfl (Nat.le_of_ble_eq_true rfl) nx_X9_11 w_instanceMethod_X7_init w_initialized_RX7 w_code_X7_init cpN_X7 pnN_X7 rfl (Nat.le_of_ble_eq_true rfl) ⟨Nat.le_of_ble_eq_true rfl, Nat.le_of_ble_eq_true rfl⟩ ⟨Nat.le_of_ble_eq_true rfl, Nat.le_of_ble_eq_true rfl⟩ dX9_init_123 (fun G22 pG22 hG22 => ?_)
  refine a_aast (pc := 126) (n := 272) (j := 1) (rf := rfP 270) (rf' := rfP 271) X9 ⟨(Nat.le_of_ble_eq_true rfl), rfl⟩ ⟨(Nat.le_of_ble_eq_true rfl), rfl⟩ (Nat.le_of_ble_eq_true rfl) rfl (Nat.le_of_ble_eq_true rfl) (rfP_s rfl rfl) dX9_init_126 ?_
  refine a_iinc (pc := 127) X9 dX9_init_127 rfl (Nat.le_of_ble_eq_true rfl) rfl rfl ?_
  refine a_goto (pc := 130) (tgt := 109) X9 dX9_init_130 rfl ?_
  refine a_iload_n (pc := 109) X9 dX9_init_109 rfl rfl ?_
  refine a_iconst (pc := 110) X9 dX9_init_110 ?_
  refine a_icmp_ge (pc := 111) (tgt := 133) X9 dX9_init_111 rfl (by decide) (by decide) (fun _ => ?_) (fun c => absurd c (by decide))
  refine a_aload_n (pc := 133) X9 dX9_init_133 rfl rfl ?_
  refine a_getR (pc := 134) (q := 1) X9 okX9 0 rfl wF_X9_12 ⟨(Nat.le_of_ble_eq_true rfl), rfl⟩ rfl dX9_init_134 ?_
  refine AW.congS (S' := SF 272) szF_272 (fun a ha => shX_lo ha) (fun a ha k => (rfX_lo ha).trans (rfP_allC a ha k)) ?_
  have h := h G22 ⟨(by intro b k hb; rw [pG22.1 b k (by omega)]; rw [eG21, zG_ne (by omega)]; rw [pG20.1 b k (by omega)]; rw [eG19, zG_ne (by omega)]; rw [pG18.1 b k (by omega)]; rw [eG17, zG_ne (by omega)]; rw [pG16.1 b k (by omega)]; rw [eG15, zG_ne (by omega)]; rw [pG14.1 b k (by omega)]; rw [eG13, zG_ne (by omega)]; rw [pG12.1 b k (by omega)]; rw [eG11, zG_ne (by omega)]; rw [eG10, zG_ne (by omega)]; rw [eG9, zG_ne (by omega)]; rw [pG8.1 b k (by omega)]; rw [eG7, zG_ne (by omega)]; rw [pG6.1 b k (by omega)]; rw [eG5, zG_ne (by omega)]; rw [pG4.1 b k (by omega)]; rw [eG3, zG_ne (by omega)]; rw [pG2.1 b k (by omega)]; rw [eG1, zG_ne (by omega)]), (by rw [pG22.1 _ _ (by decide)]; rw [eG21, zG_ne (by decide)]; rw [pG20.1 _ _ (by decide)]; rw [eG19, zG_ne (by decide)]; rw [pG18.1 _ _ (by decide)]; rw [eG17, zG_ne (by decide)]; rw [pG16.1 _ _ (by decide)]; rw [eG15, zG_ne (by decide)]; rw [pG14.1 _ _ (by decide)]; rw [eG13, zG_ne (by decide)]; rw [pG12.1 _ _ (by decide)]; rw [eG11, zG_ne (by decide)]; rw [eG10, zG_ne (by decide)]; rw [eG9, zG_ne (by decide)]; rw [pG8.1 _ _ (by decide)]; rw [eG7, zG_ne (by decide)]; rw [pG6.2.1]; rw [eG5, zG_eq]), (by rw [pG22.1 _ _ (by decide)]; rw [eG21, zG_ne (by decide)]; rw [pG20.1 _ _ (by decide)]; rw [eG19, zG_ne (by decide)]; rw [pG18.1 _ _ (by decide)]; rw [eG17, zG_ne (by decide)]; rw [pG16.1 _ _ (by decide)]; rw [eG15, zG_ne (by decide)]; rw [pG14.1 _ _ (by decide)]; rw [eG13, zG_ne (by decide)]; rw [pG12.1 _ _ (by decide)]; rw [eG11, zG_ne (by decide)]; rw [eG10, zG_ne (by decide)]; rw [eG9, zG_ne (by decide)]; rw [pG8.1 _ _ (by decide)]; rw [eG7, zG_ne (by decide)]; rw [pG6.2.2.1]; rw [eG5, zG_eq]), (by rw [pG22.1 _ _ (by decide)]; rw [eG21, zG_ne (by decide)]; rw [pG20.1 _ _ (by decide)]; rw [eG19, zG_ne (by decide)]; rw [pG18.1 _ _ (by decide)]; rw [eG17, zG_ne (by decide)]; rw [pG16.1 _ _ (by decide)]; rw [eG15, zG_ne (by decide)]; rw [pG14.1 _ _ (by decide)]; rw [eG13, zG_ne (by decide)]; rw [pG12.1 _ _ (by decide)]; rw [eG11, zG_ne (by decide)]; rw [eG10, zG_ne (by decide)]; rw [eG9, zG_ne (by decide)]; rw [pG8.1 _ _ (by decide)]; rw [eG7, zG_ne (by decide)]; rw [pG6.2.2.2.1]; rw [eG5, zG_eq]), (by rw [pG22.1 _ _ (by decide)]; rw [eG21, zG_ne (by decide)]; rw [pG20.1 _ _ (by decide)]; rw [eG19, zG_ne (by decide)]; rw [pG18.1 _ _ (by decide)]; rw [eG17, zG_ne (by decide)]; rw [pG16.1 _ _ (by decide)]; rw [eG15, zG_ne (by decide)]; rw [pG14.1 _ _ (by decide)]; rw [eG13, zG_ne (by decide)]; rw [pG12.1 _ _ (by decide)]; rw [eG11, zG_ne (by decide)]; rw [eG10, zG_ne (by decide)]; rw [eG9, zG_ne (by decide)]; rw [pG8.1 _ _ (by decide)]; rw [eG7, zG_ne (by decide)]; rw [pG6.2.2.2.2.1]; rw [eG5, zG_eq]), (by rw [pG22.1 _ _ (by decide)]; rw [eG21, zG_ne (by decide)]; rw [pG20.1 _ _ (by decide)]; rw [eG19, zG_ne (by decide)]; rw [pG18.1 _ _ (by decide)]; rw [eG17, zG_ne (by decide)]; rw [pG16.1 _ _ (by decide)]; rw [eG15, zG_ne (by decide)]; rw [pG14.1 _ _ (by decide)]; rw [eG13, zG_ne (by decide)]; rw [pG12.1 _ _ (by decide)]; rw [eG11, zG_ne (by decide)]; rw [eG10, zG_ne (by decide)]; rw [eG9, zG_ne (by decide)]; rw [pG8.1 _ _ (by decide)]; rw [eG7, zG_ne (by decide)]; rw [pG6.2.2.2.2.2.1]; rw [eG5, zG_eq]), (by rw [pG22.1 _ _ (by decide)]; rw [eG21, zG_ne (by decide)]; rw [pG20.1 _ _ (by decide)]; rw [eG19, zG_ne (by decide)]; rw [pG18.1 _ _ (by decide)]; rw [eG17, zG_ne (by decide)]; rw [pG16.1 _ _ (by decide)]; rw [eG15, zG_ne (by decide)]; rw [pG14.1 _ _ (by decide)]; rw [eG13, zG_ne (by decide)]; rw [pG12.1 _ _ (by decide)]; rw [eG11, zG_ne (by decide)]; rw [eG10, zG_ne (by decide)]; rw [eG9, zG_ne (by decide)]; rw [pG8.1 _ _ (by decide)]; rw [eG7, zG_ne (by decide)]; rw [pG6.2.2.2.2.2.2.1]; rw [eG5, zG_eq]), (by rw [pG22.1 _ _ (by decide)]; rw [eG21, zG_ne (by decide)]; rw [pG20.1 _ _ (by decide)]; rw [eG19, zG_ne (by decide)]; rw [pG18.1 _ _ (by decide)]; rw [eG17, zG_ne (by decide)]; rw [pG16.1 _ _ (by decide)]; rw [eG15, zG_ne (by decide)]; rw [pG14.1 _ _ (by decide)]; rw [eG13, zG_ne (by decide)]; rw [pG12.1 _ _ (by decide)]; rw [eG11, zG_ne (by decide)]; rw [eG10, zG_ne (by decide)]; rw [eG9, zG_ne (by decide)]; rw [pG8.1 _ _ (by decide)]; rw [eG7, zG_ne (by decide)]; rw [pG6.2.2.2.2.2.2.2.1]; rw [eG5, zG_eq]), (by rw [pG22.1 _ _ (by decide)]; rw [eG21, zG_ne (by decide)]; rw [pG20.1 _ _ (by decide)]; rw [eG19, zG_ne (by decide)]; rw [pG18.1 _ _ (by decide)]; rw [eG17, zG_ne (by decide)]; rw [pG16.1 _ _ (by decide)]; rw [eG15, zG_ne (by decide)]; rw [pG14.1 _ _ (by decide)]; rw [eG13, zG_ne (by decide)]; rw [pG12.1 _ _ (by decide)]; rw [eG11, zG_ne (by decide)]; rw [eG10, zG_ne (by decide)]; rw [eG9, zG_ne (by decide)]; rw [pG8.1 _ _ (by decide)]; rw [eG7, zG_ne (by decide)]; rw [pG6.2.2.2.2.2.2.2.2.1]; rw [eG5, zG_eq]), (by rw [pG22.1 _ _ (by decide)]; rw [eG21, zG_ne (by decide)]; rw [pG20.1 _ _ (by decide)]; rw [eG19, zG_ne (by decide)]; rw [pG18.1 _ _ (by decide)]; rw [eG17, zG_ne (by decide)]; rw [pG16.1 _ _ (by decide)]; rw [eG15, zG_ne (by decide)]; rw [pG14.1 _ _ (by decide)]; rw [eG13, zG_ne (by decide)]; rw [pG12.1 _ _ (by decide)]; rw [eG11, zG_ne (by decide)]; rw [eG10, zG_ne (by decide)]; rw [eG9, zG_ne (by decide)]; rw [pG8.1 _ _ (by decide)]; rw [eG7, zG_ne (by decide)]; rw [pG6.2.2.2.2.2.2.2.2.2]; rw [eG5, zG_eq]), (by rw [pG22.1 _ _ (by decide)]; rw [eG21, zG_ne (by decide)]; rw [pG20.1 _ _ (by decide)]; rw [eG19, zG_ne (by decide)]; rw [pG18.1 _ _ (by decide)]; rw [eG17, zG_ne (by decide)]; rw [pG16.1 _ _ (by decide)]; rw [eG15, zG_ne (by decide)]; rw [pG14.1 _ _ (by decide)]; rw [eG13, zG_ne (by decide)]; rw [pG12.1 _ _ (by decide)]; rw [eG11, zG_ne (by decide)]; rw [eG10, zG_ne (by decide)]; rw [eG9, zG_ne (by decide)]; rw [pG8.2.1]; rw [eG7, zG_eq]), (by rw [pG22.1 _ _ (by decide)]; rw [eG21, zG_ne (by decide)]; rw [pG20.1 _ _ (by decide)]; rw [eG19, zG_ne (by decide)]; rw [pG18.1 _ _ (by decide)]; rw [eG17, zG_ne (by decide)]; rw [pG16.1 _ _ (by decide)]; rw [eG15, zG_ne (by decide)]; rw [pG14.1 _ _ (by decide)]; rw [eG13, zG_ne (by decide)]; rw [pG12.1 _ _ (by decide)]; rw [eG11, zG_ne (by decide)]; rw [eG10, zG_ne (by decide)]; rw [eG9, zG_ne (by decide)]; rw [pG8.2.2]; rw [eG7, zG_eq]), (by rw [pG22.1 _ _ (by decide)]; rw [eG21, zG_ne (by decide)]; rw [pG20.1 _ _ (by decide)]; rw [eG19, zG_ne (by decide)]; rw [pG18.2]; rw [eG17, zG_eq]), (by rw [pG22.1 _ _ (by decide)]; rw [eG21, zG_ne (by decide)]; rw [pG20.1 _ _ (by decide)]; rw [eG19, zG_ne (by decide)]; rw [pG18.1 _ _ (by decide)]; rw [eG17, zG_ne (by decide)]; rw [pG16.1 _ _ (by decide)]; rw [eG15, zG_ne (by decide)]; rw [pG14.1 _ _ (by decide)]; rw [eG13, zG_ne (by decide)]; rw [pG12.1 _ _ (by decide)]; rw [eG11, zG_ne (by decide)]; rw [eG10, zG_eq]), (by rw [pG22.1 _ _ (by decide)]; rw [eG21, zG_ne (by decide)]; rw [pG20.1 _ _ (by decide)]; rw [eG19, zG_ne (by decide)]; rw [pG18.1 _ _ (by decide)]; rw [eG17, zG_ne (by decide)]; rw [pG16.1 _ _ (by decide)]; rw [eG15, zG_ne (by decide)]; rw [pG14.1 _ _ (by decide)]; rw [eG13, zG_ne (by decide)]; rw [pG12.1 _ _ (by decide)]; rw [eG11, zG_ne (by decide)]; rw [eG10, zG_eq])⟩
  refine a_callV (pc := 137) X9 E (m_X7_startAnew su9_0 (Nat.le_refl _) h) okX7 (is7 su9_0 (Nat.le_refl _)) wM_X9_65 w_instanceMethod_X7_startAnew w_selects_X7_startAnew w_initialized_RX7 w_code_X7_startAnew cp_X7_startAnew pn_X7_startAnew rfl (Nat.le_of_ble_eq_true rfl) ⟨Nat.le_of_ble_eq_true rfl, Nat.le_of_ble_eq_true rfl⟩ ⟨Nat.le_of_ble_eq_true rfl, Nat.le_of_ble_eq_true rfl⟩ dX9_init_137 (fun _ _ q => False.elim q) (kV (fun G23 h hG23 => ?_))
  refine a_aload_n (pc := 140) X9 dX9_init_140 rfl rfl ?_
  refine a_getR (pc := 141) (q := 1) X9 okX9 0 rfl wF_X9_12 ⟨(Nat.le_of_ble_eq_true rfl), rfl⟩ rfl dX9_init_141 ?_
  refine a_iconst (pc := 144) X9 dX9_init_144 ?_
  refine a_putI (pc := 145) X9 okX7 0 rfl rfl wF_X9_68 ⟨(Nat.le_of_ble_eq_true rfl), rfl⟩ dX9_init_145 (by decide) (fit_int _) (fun _ => ?_)
  obtain ⟨G24, eG24⟩ : ∃ Gz, Gz = upG G23 1 0 1 := ⟨_, rfl⟩
  have hG24 : GR G24 := by rw [eG24]; exact GR.up hG23 (by decide)
  rw [← eG24]
  refine a_aload_n (pc := 148) X9 dX9_init_148 rfl rfl ?_
  refine a_getR (pc := 149) (q := 1) X9 okX9 0 rfl wF_X9_12 ⟨(Nat.le_of_ble_eq_true rfl), rfl⟩ rfl dX9_init_149 ?_
  refine a_getR (pc := 152) (q := 2) X9 okX7 1 rfl wF_X9_72 ⟨(Nat.le_of_ble_eq_true rfl), rfl⟩ rfl dX9_init_152 ?_
  refine a_iconst (pc := 155) X9 dX9_init_155 ?_
  refine a_iconst (pc := 156) X9 dX9_init_156 ?_
  refine a_iast (pc := 157) X9 ⟨(Nat.le_of_ble_eq_true rfl), rfl⟩ (Nat.le_of_ble_eq_true rfl) (j := 0) rfl (Nat.le_of_ble_eq_true rfl) (by decide) dX9_init_157 (fun _ => ?_)
  obtain ⟨G25, eG25⟩ : ∃ Gz, Gz = upG G24 2 0 4 := ⟨_, rfl⟩
  have hG25 : GR G25 := by rw [eG25]; exact GR.up hG24 (by decide)
  rw [← eG25]
  refine AW.congS (S' := (272, shF, rfP 271)) szF_272.symm (fun a ha => (shX_lo (show a < 272 from ha)).symm) (fun a ha k => ((rfX_lo (show a < 272 from ha)).trans (rfP_allC a ha k)).symm) ?_
  have h := h G24 eG24 G25 eG25
  exact a_return (pc := 158) X9 E (Nat.le_of_ble_eq_true rfl) (Nat.le_of_ble_eq_true rfl) dX9_init_158 ⟨rfl, rfl, h⟩

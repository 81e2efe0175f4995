-- ===== the constructor, toString: written by wip/p51/mksb.py =====
theorem fv_J4 : ∀ j, j < 4 → defaultValue (tyJ4 j) = vp_V (fv0 11) j := by decide +kernel
theorem fv_J0 : ∀ j, j < 4 → defaultValue (tyJ0 j) = vp_V (fv0 10) j := by decide +kernel
theorem rfF_fw {m : Nat} (hm : 272 ≤ m) : ∀ a, a < m → ∀ j q, rfF a j = some q → q < m := fun _ _ _ _ h => by have := rfF_lt h; omega
theorem rf0_put : ∀ a' k', rfB 0 a' k' = if a' = 272 ∧ k' = 0 then some 273 else rfF a' k' := fun _ _ => rfl
/-- the empty builder -/
theorem BT_0 {G : GH} (h1 : G 272 1 = 0) (h3 : G 272 3 = 0) (hb : ∀ i, G 273 i = 0) : BTx 0 G [] := ⟨h1, h3, Nat.zero_le _, fun i hi => absurd hi (Nat.not_lt_zero _), fun i => by show 0 ≤ G 273 i ∧ _; rw [hb]; decide⟩
/-- cells behind the builder: the String and its bytes -/
def shT (k m : Nat) (a : Nat) : Sh := if a = 273 + (k + 1) then .inr 10 else if a = 273 + (k + 1) + 1 then .inl (2, m) else shB a
def rfT (k a j : Nat) : Option Nat := if a = 273 + (k + 1) ∧ j = 0 then some (273 + (k + 1) + 1) else rfB k a j
theorem shT_lo {k m a : Nat} (h : a < 273 + (k + 1)) : shT k m a = shB a := by unfold shT; rw [if_neg (by omega), if_neg (by omega)]
theorem shT_n {k m : Nat} : shT k m (273 + (k + 1)) = .inr 10 := if_pos rfl
theorem shT_n1 {k m : Nat} : shT k m (273 + (k + 1) + 1) = .inl (2, m) := by unfold shT; rw [if_neg (by omega), if_pos rfl]
theorem rfB_n {k : Nat} {j : Nat} : rfB k (273 + (k + 1)) j = none := by unfold rfB; rw [if_neg (by omega)]; exact rfF_hi (by omega)
theorem sbT_fw {k p : Nat} (hp : 273 + (k + 1) ≤ p) : ∀ a, a < p → ∀ j q, rfB k a j = some q → q < p := fun _ _ _ _ h => Nat.lt_of_lt_of_le (rfB_lt h) hp
theorem rfT_put {k : Nat} : ∀ a' k', rfT k a' k' = if a' = 273 + (k + 1) ∧ k' = 0 then some (273 + (k + 1) + 1) else rfB k a' k' := fun _ _ => rfl
theorem t_is2 {k m p : Nat} (hp : 273 + (k + 1) ≤ p) : isAt (p, shT k m, rfB k) 272 (.inr 11) := ⟨by show 272 < p; omega, by show shT k m 272 = _; rw [shT_lo (by omega)]; rfl⟩
theorem t_ar2 {k m p : Nat} (hp : 273 + (k + 1) ≤ p) : isAt (p, shT k m, rfB k) (273 + k) (.inl (2, capN k)) := ⟨by show 273 + k < p; omega, by show shT k m _ = _; rw [shT_lo (by omega)]; exact (sb_ar k).2⟩
theorem t_isS {k m p : Nat} {rf : Nat → Nat → Option Nat} (hp : 273 + (k + 1) < p) : isAt (p, shT k m, rf) (273 + (k + 1)) (.inr 10) := ⟨hp, shT_n⟩
theorem BTx.z {k : Nat} {G : GH} {t : List Int} (B : BTx k G t) : BTx k (zG G (273 + (k + 1))) t := by
  obtain ⟨b1, b2, b3, b4, b5⟩ := B
  exact ⟨by rw [zG_ne (by omega)]; exact b1, by rw [zG_ne (by omega)]; exact b2, b3, fun i hi => by rw [zG_ne (by omega)]; exact b4 i hi, fun i => by rw [zG_ne (by omega)]; exact b5 i⟩
section SBW3
set_option maxHeartbeats 1000000 in
set_option maxRecDepth 100000 in
theorem sb_in5 {G : GH} (hz : ∀ j, G 272 j = 0) : Mt yJ5_init_a7421 cJ5_init_a7421 5 none 7 153 2 404 [vr 272, vr (strB + 7)] (273, shB, rfF) G (fun v S' G' => v = none ∧ ∃ k', k' ≤ 4 ∧ S' = SB k' ∧ BTx k' G' (cT 7) ∧ LowH G' G) noX := by
  refine Mt.of (l0 := [some (vr 272), some (vr (strB + 7)), none, none, none]) (by decide) (Nat.le_of_ble_eq_true rfl) rfl ?_
  intro κ δ ρ0 X E hG
  replace X : CX κ δ RJ5 cJ5_init_a7421 5 none := X
  refine a_aload_n (pc := 0) X dJ5_init_a7421_0 rfl rfl ?_
  refine a_objInit (pc := 1) X E.rm wM_J5_3 (Nat.le_of_ble_eq_true rfl) (Nat.le_of_ble_eq_true rfl) dJ5_init_a7421_1 ?_
  refine a_aload_n (pc := 4) X dJ5_init_a7421_4 rfl rfl ?_
  refine a_callVS (pc := 5) X E (w := 7) (by decide) (mS_len (by decide)) wM_J5_32 w_instanceMethod_J0_length_8abf5 w_selects_J0_length_8abf5 w_initialized_RJ0 w_code_J0_length_8abf5 cpS_len pnS_len rfl (Nat.le_of_ble_eq_true rfl) ⟨Nat.le_of_ble_eq_true rfl, Nat.le_of_ble_eq_true rfl⟩ ⟨by omega, by omega⟩ dJ5_init_a7421_5 (fun _ _ q => False.elim q) (kIp (fun r hr h => ?_))
  replace h : r = 6 := h
  subst h
  refine a_istore_n (pc := 8) (i := 2) X dJ5_init_a7421_8 rfl (Nat.le_of_ble_eq_true rfl) rfl rfl ?_
  refine a_iload_n (pc := 9) X dJ5_init_a7421_9 rfl rfl ?_
  refine a_ldc (pc := 10) X (n := 2147483631) wCI_J5_38 dJ5_init_a7421_10 (by decide +kernel) ?_
  refine a_icmp_ge (pc := 12) (tgt := 22) X dJ5_init_a7421_12 rfl (by decide) (by decide) (fun c9 => absurd c9 (by decide)) (fun c9 => ?_)
  refine a_iload_n (pc := 15) X dJ5_init_a7421_15 rfl rfl ?_
  refine a_bipush (pc := 16) X dJ5_init_a7421_16 rfl ?_
  refine a_iadd (pc := 18) X dJ5_init_a7421_18 ?_
  refine a_goto (pc := 19) (tgt := 24) X dJ5_init_a7421_19 rfl ?_
  refine a_istore_n (pc := 24) (i := 3) X dJ5_init_a7421_24 rfl (Nat.le_of_ble_eq_true rfl) rfl rfl ?_
  refine a_aload_n (pc := 25) X dJ5_init_a7421_25 rfl rfl ?_
  refine a_callVS (pc := 26) X E (w := 7) (by decide) (mS_coder (by decide)) wM_J5_40 w_instanceMethod_J0_coder_7d493 w_selects_J0_coder_7d493 w_initialized_RJ0 w_code_J0_coder_7d493 cpS_coder pnS_coder rfl (Nat.le_of_ble_eq_true rfl) ⟨Nat.le_of_ble_eq_true rfl, Nat.le_of_ble_eq_true rfl⟩ ⟨Nat.le_of_ble_eq_true rfl, Nat.le_of_ble_eq_true rfl⟩ dJ5_init_a7421_26 (fun _ _ q => False.elim q) (kIp (fun r hr h => ?_))
  subst h
  refine a_istore (pc := 29) X dJ5_init_a7421_29 (Nat.le_of_ble_eq_true rfl) rfl rfl ?_
  refine a_aload_n (pc := 31) X dJ5_init_a7421_31 rfl rfl ?_
  refine a_iload (pc := 32) X dJ5_init_a7421_32 rfl ?_
  refine a_putI (pc := 34) X okJ4 1 rfl rfl wF_J5_22 (a := 272) ⟨by decide, rfl⟩ dJ5_init_a7421_34 (by decide) ⟨rfl, rfl⟩ (fun hG2 => ?_)
  refine a_aload_n (pc := 37) X dJ5_init_a7421_37 rfl rfl ?_
  refine a_iload (pc := 38) X dJ5_init_a7421_38 rfl ?_
  refine a_if_ne (pc := 40) (tgt := 49) X dJ5_init_a7421_40 rfl (by decide) (fun c9 => absurd rfl c9) (fun c9 => ?_)
  refine a_iload_n (pc := 43) X dJ5_init_a7421_43 rfl rfl ?_
  rw [show (6 : Int) + 16 = ((22 : Nat) : Int) from rfl]
  refine a_newarr (atype := .byte) (pc := 44) (n := 273) (N := 22) (t := 2) (rf := rfF) X E.rm (Nat.le_of_ble_eq_true rfl) rfl (fun C h => by cases h) w_arrayClass__byte rfl rfl (rfF_fw (by decide)) (by decide) (Nat.le_refl _) rfl rfl (by decide) (by decide) ⟨by omega, by omega⟩ dJ5_init_a7421_44 ?_
  refine a_goto (pc := 46) (tgt := 53) X dJ5_init_a7421_46 rfl ?_
  refine a_putRn (pc := 53) (rf' := rfB 0) (q := 273) X okJ4 0 rfl rfl wF_J5_15 (a := 272) ⟨by decide, rfl⟩ (fun r => ⟨rfl, rfl⟩) rf0_put dJ5_init_a7421_53 ?_
  refine a_aload_n (pc := 56) X dJ5_init_a7421_56 rfl rfl ?_
  refine a_aload_n (pc := 57) X dJ5_init_a7421_57 rfl rfl ?_
  refine g_callO (pc := 58) X E.rm (sb_apSB (k := 0) (w := 7) (t := []) (by decide) (by decide) (BT_0 ?_ ?_ ?_) (by decide)) (Nat.le_succ _) rfl rfl ApQ_ge okJ4 (sb_is 0) wM_J5_43 w_same_J5_append_cf1ce w_instanceMethod_J5_append_cf1ce w_instanceMethod_J4_append_cf1ce w_selB_J4_append_cf1ce w_initialized_RJ4 w_code_J4_append_cf1ce w_code_J5_append_cf1ce ⟨by decide +kernel, by decide +kernel, pnB_apS5⟩ rfl (Nat.le_of_ble_eq_true rfl) ⟨Nat.le_of_ble_eq_true rfl, Nat.le_of_ble_eq_true rfl⟩ ⟨by omega, by omega⟩ dJ5_init_a7421_58 (fun v S' G' q hG' => ?_)
  · rw [zG_ne (by decide), upG_same]
  · rw [zG_ne (by decide), upG_nk (by decide)]; exact hz 3
  · intro i; exact zG_eq
  obtain ⟨rfl, k1, -, hk14, rfl, B1, hL1⟩ := q
  refine a_pop (pc := 61) X dJ5_init_a7421_61 rfl ?_
  refine a_return (pc := 62) X E (by omega) (by omega) dJ5_init_a7421_62 ⟨rfl, k1, hk14, rfl, B1, hL1.tr fun a h j => ?_⟩
  rw [zG_ne (by omega), upG_na (by omega)]
set_option maxHeartbeats 1000000 in
set_option maxRecDepth 100000 in
theorem sb_in4 {G : GH} (hz : ∀ j, G 272 j = 0) : Mt yJ4_init_a7421 cJ4_init_a7421 2 none 8 177 2 404 [vr 272, vr (strB + 7)] (273, shB, rfF) G (fun v S' G' => v = none ∧ ∃ k', k' ≤ 4 ∧ S' = SB k' ∧ BTx k' G' (cT 7) ∧ LowH G' G) noX := by
  refine Mt.of (l0 := [some (vr 272), some (vr (strB + 7))]) (by decide) (Nat.le_of_ble_eq_true rfl) rfl ?_
  intro κ δ ρ0 X E hG
  replace X : CX κ δ RJ4 cJ4_init_a7421 2 none := X
  refine a_aload_n (pc := 0) X dJ4_init_a7421_0 rfl rfl ?_
  refine a_aload_n (pc := 1) X dJ4_init_a7421_1 rfl rfl ?_
  refine g_callI (pc := 2) X E.rm (sb_in5 hz) (Nat.le_refl _) rfl rfl (by rintro v S' G' ⟨-, k', h1, rfl, -⟩; show 273 ≤ 273 + (k' + 1); omega) wM_J4_7 w_instanceMethod_J5_init_a7421 w_initialized_RJ5 w_code_J5_init_a7421 cpB_in5 pnB_in5 rfl rfl (Nat.le_of_ble_eq_true rfl) ⟨Nat.le_of_ble_eq_true rfl, Nat.le_of_ble_eq_true rfl⟩ ⟨by omega, by omega⟩ dJ4_init_a7421_2 (fun v S' G' q hG' => ?_)
  obtain ⟨rfl, k1, hk14, rfl, B1, hL1⟩ := q
  exact a_return (pc := 5) X E (by omega) (by omega) dJ4_init_a7421_5 ⟨rfl, k1, hk14, rfl, B1, hL1⟩
set_option maxHeartbeats 1000000 in
set_option maxRecDepth 100000 in
theorem sb_gv {k m p : Nat} {G : GH} (hp : 273 + (k + 1) ≤ p) : Mt yJ5_getValue_6d5f1 cJ5_getValue_6d5f1 1 (some (.array .byte)) 0 0 0 0 [vr 272] (p, shT k m, rfB k) G (fun v S' G' => S' = (p, shT k m, rfB k) ∧ v = some (vr (273 + k)) ∧ G' = G) (fun E S' G' => S' = (p, shT k m, rfB k) ∧ False) := by
  refine Mt.of (l0 := [some (vr 272)]) (by decide) (Nat.le_of_ble_eq_true rfl) rfl ?_
  intro κ δ ρ0 X E hG
  replace X : CX κ δ RJ5 cJ5_getValue_6d5f1 1 (some (.array .byte)) := X
  refine a_aload_n (pc := 0) X dJ5_getValue_6d5f1_0 rfl rfl ?_
  refine a_getR (pc := 1) (q := 273 + k) X okJ4 0 rfl wF_J5_15 (t_is2 hp) (sb_rf k) dJ5_getValue_6d5f1_1 ?_
  exact a_areturn (pc := 4) X E rfl (Or.inr ⟨_, rfl⟩) (Nat.le_of_ble_eq_true rfl) (Nat.le_of_ble_eq_true rfl) dJ5_getValue_6d5f1_4 ⟨rfl, rfl, rfl⟩
set_option maxHeartbeats 1000000 in
set_option maxRecDepth 100000 in
theorem sb_len5 {S : ASt} {G : GH} {x : Int} (ha : isAt S 272 (.inr 11)) (hx : inR x) (hn : G 272 3 = x) : Mt yJ5_length_8abf5 cJ5_length_8abf5 1 (some .int) 0 0 0 0 [vr 272] S G (fun v S' G' => S' = S ∧ v = some (vi x) ∧ G' = G) noX := by
  refine Mt.of (l0 := [some (vr 272)]) (by decide) (Nat.le_of_ble_eq_true rfl) rfl ?_
  intro κ δ ρ0 X E hG
  replace X : CX κ δ RJ5 cJ5_length_8abf5 1 (some .int) := X
  refine a_aload_n (pc := 0) X dJ5_length_8abf5_0 rfl rfl ?_
  refine a_getI (pc := 1) X okJ4 3 rfl wF_J5_79 ha dJ5_length_8abf5_1 ?_
  rw [hn]
  exact a_ireturn (pc := 4) X E rfl rfl (Nat.le_of_ble_eq_true rfl) (Nat.le_of_ble_eq_true rfl) dJ5_length_8abf5_4 ⟨rfl, rfl, rfl⟩
set_option maxHeartbeats 1000000 in
set_option maxRecDepth 100000 in
theorem sb_len4 {S : ASt} {G : GH} {x : Int} (ha : isAt S 272 (.inr 11)) (hn : G 272 3 = x) (hx : inR x) : Mt yJ4_length_8abf5 cJ4_length_8abf5 1 (some .int) 1 20 0 0 [vr 272] S G (fun v S' G' => S' = S ∧ v = some (vi x) ∧ G' = G) noX := by
  refine Mt.of (l0 := [some (vr 272)]) (by decide) (Nat.le_of_ble_eq_true rfl) rfl ?_
  intro κ δ ρ0 X E hG
  replace X : CX κ δ RJ4 cJ4_length_8abf5 1 (some .int) := X
  refine a_aload_n (pc := 0) X dJ4_length_8abf5_0 rfl rfl ?_
  refine g_callSU (pc := 1) X E.rm (sb_len5 ha hx hn) (Nat.le_refl _) (by have h9 := ha.1; simp [rltB, vq]; exact Or.inl h9) rfl (by rintro v S' G' ⟨rfl, -⟩; exact Nat.le_refl _) okJ4 ha wM_J4_343 w_same_J5_length_8abf5 w_superclass_RJ4 w_instanceMethod_J5_length_8abf5 w_initialized_RJ5 w_code_J5_length_8abf5 ⟨by decide +kernel, pnB_len5⟩ rfl (Nat.le_of_ble_eq_true rfl) ⟨Nat.le_of_ble_eq_true rfl, Nat.le_of_ble_eq_true rfl⟩ ⟨Nat.le_of_ble_eq_true rfl, Nat.le_of_ble_eq_true rfl⟩ dJ4_length_8abf5_1 (fun v S' G' q hG' => ?_)
  obtain ⟨rfl, rfl, rfl⟩ := q
  exact a_ireturn (pc := 4) X E rfl rfl (Nat.le_of_ble_eq_true rfl) (Nat.le_of_ble_eq_true rfl) dJ4_length_8abf5_4 ⟨rfl, rfl, rfl⟩
set_option maxHeartbeats 1000000 in
set_option maxRecDepth 100000 in
theorem sb_isLg {S : ASt} {G : GH} (ha : isAt S 272 (.inr 11)) (hc : G 272 1 = 0) : Mt yJ5_isLatin1_aae02 cJ5_isLatin1_aae02 1 (some .boolean) 0 0 0 0 [vr 272] S G (fun v S' G' => S' = S ∧ qI (fun r G' => G' = G ∧ r = 1) v S' G') (fun E S' G' => S' = S ∧ False) := by
  refine Mt.of (l0 := [some (vr 272)]) (by decide) (Nat.le_of_ble_eq_true rfl) rfl ?_
  intro κ δ ρ0 X E hG
  replace X : CX κ δ RJ5 cJ5_isLatin1_aae02 1 (some .boolean) := X
  refine b_compact (pc := 0) X wF_J5_18 dJ5_isLatin1_aae02_0 ?_
  refine a_if_eq (pc := 3) (tgt := 17) X dJ5_isLatin1_aae02_3 rfl (by decide) (fun c9 => absurd c9 (by decide)) (fun c9 => ?_)
  refine a_aload_n (pc := 6) X dJ5_isLatin1_aae02_6 rfl rfl ?_
  refine a_getI (pc := 7) X okJ4 1 rfl wF_J5_22 ha dJ5_isLatin1_aae02_7 ?_
  rw [hc]
  refine a_if_ne (pc := 10) (tgt := 17) X dJ5_isLatin1_aae02_10 rfl (by decide) (fun c9 => absurd c9 (by decide)) (fun c9 => ?_)
  refine a_iconst (pc := 13) X dJ5_isLatin1_aae02_13 ?_
  refine a_goto (pc := 14) (tgt := 18) X dJ5_isLatin1_aae02_14 rfl ?_
  exact a_ireturn (pc := 18) X E rfl rfl (Nat.le_of_ble_eq_true rfl) (Nat.le_of_ble_eq_true rfl) dJ5_isLatin1_aae02_18 ⟨rfl, _, rfl, by decide, rfl, rfl⟩
set_option maxHeartbeats 1000000 in
set_option maxRecDepth 100000 in
theorem sb_chl {S : ASt} {G : GH} {x z : Int} (hx : inR x) (hz : inR z) (h : x ≤ z) : Mt yJ7_checkLength_df160 cJ7_checkLength_df160 2 none 0 0 0 0 [vi x, vi z] S G (fun v S' G' => S' = S ∧ qV (fun G' => G' = G) v S' G') (fun E S' G' => S' = S ∧ False) := by
  refine Mt.of (l0 := [some (vi x), some (vi z)]) (by decide) (Nat.le_of_ble_eq_true rfl) rfl ?_
  intro κ δ ρ0 X E hG
  replace X : CX κ δ RJ7 cJ7_checkLength_df160 2 none := X
  refine a_iload_n (pc := 0) X dJ7_checkLength_df160_0 rfl rfl ?_
  refine a_iload_n (pc := 1) X dJ7_checkLength_df160_1 rfl rfl ?_
  refine a_icmp_ge (pc := 2) (tgt := 37) X dJ7_checkLength_df160_2 rfl hz hx (fun c9 => ?_) (fun c9 => absurd c9 (by omega))
  exact a_return (pc := 37) X E (Nat.le_of_ble_eq_true rfl) (Nat.le_of_ble_eq_true rfl) dJ7_checkLength_df160_37 ⟨rfl, rfl, rfl⟩
set_option maxHeartbeats 1000000 in
set_option maxRecDepth 100000 in
theorem sb_crb {n a N m : Nat} {sh : Nat → Sh} {rf : Nat → Nat → Option Nat} {G : GH} (ha : isAt (n, sh, rf) a (.inl (2, N))) (hsh : sh n = .inl (2, m)) (hfw : ∀ a, a < n → ∀ k q, rf a k = some q → q < n) (hn : n < 1000) (hm : m ≤ N) (hN : N < 1000) (hb : ∀ i, 0 ≤ G a i ∧ G a i < 128) : Mt yJ7_copyOfRangeByte_39247 cJ7_copyOfRangeByte_39247 5 (some (.array .byte)) 1 48 1 m [vr a, vi 0, vi (m : Int)] (n, sh, rf) G (fun v S' G' => v = some (vr n) ∧ S' = (n + 1, sh, rf) ∧ (∀ i, i < m → G' n i = G a i) ∧ ∀ x, x ≠ n → ∀ j, G' x j = G x j) noX := by
  refine Mt.of (l0 := [some (vr a), some (vi 0), some (vi (m : Int)), none, none]) (by decide) (Nat.le_of_ble_eq_true rfl) rfl ?_
  intro κ δ ρ0 X E hG
  replace X : CX κ δ RJ7 cJ7_copyOfRangeByte_39247 5 (some (.array .byte)) := X
  refine a_iload_n (pc := 0) X dJ7_copyOfRangeByte_39247_0 rfl rfl ?_
  refine a_iload_n (pc := 1) X dJ7_copyOfRangeByte_39247_1 rfl rfl ?_
  refine a_callS (pc := 2) X E (sb_chl (by decide) ⟨by omega, by omega⟩ (by omega)) wM_J7_343 w_static_J7_checkLength_df160 w_initialized_RJ7 w_code_J7_checkLength_df160 cpB_chl pnB_chl rfl (Nat.le_of_ble_eq_true rfl) ⟨Nat.le_of_ble_eq_true rfl, Nat.le_of_ble_eq_true rfl⟩ ⟨by omega, by omega⟩ dJ7_copyOfRangeByte_39247_2 (fun _ _ q => False.elim q) (kV (fun G1 h hG1 => ?_))
  subst h
  refine a_iload_n (pc := 5) X dJ7_copyOfRangeByte_39247_5 rfl rfl ?_
  refine a_iload_n (pc := 6) X dJ7_copyOfRangeByte_39247_6 rfl rfl ?_
  refine a_isub (pc := 7) X dJ7_copyOfRangeByte_39247_7 ?_
  rw [Int.sub_zero]
  refine a_istore_n (pc := 8) (i := 3) X dJ7_copyOfRangeByte_39247_8 rfl (Nat.le_of_ble_eq_true rfl) rfl rfl ?_
  refine a_iload_n (pc := 9) X dJ7_copyOfRangeByte_39247_9 rfl rfl ?_
  refine a_newarr (atype := .byte) (pc := 10) (n := n) (N := m) (t := 2) (rf := rf) X E.rm (Nat.le_of_ble_eq_true rfl) rfl (fun C h => by cases h) w_arrayClass__byte rfl hsh hfw (by unfold strB; omega) (Nat.le_refl _) (by have := ha.1; simp [rltB, vi, vq] ; exact Or.inl this) rfl (by show m * 1 ≤ _; omega) (by omega) ⟨by omega, by omega⟩ dJ7_copyOfRangeByte_39247_10 ?_
  refine a_astore (pc := 12) X dJ7_copyOfRangeByte_39247_12 (Nat.le_of_ble_eq_true rfl) rfl rfl ?_
  refine a_aload_n (pc := 14) X dJ7_copyOfRangeByte_39247_14 rfl rfl ?_
  refine a_iload_n (pc := 15) X dJ7_copyOfRangeByte_39247_15 rfl rfl ?_
  refine a_aload (pc := 16) X dJ7_copyOfRangeByte_39247_16 rfl ?_
  refine a_iconst (pc := 18) X dJ7_copyOfRangeByte_39247_18 ?_
  refine a_aload_n (pc := 19) X dJ7_copyOfRangeByte_39247_19 rfl rfl ?_
  refine a_alen (n := N) (t := 2) (pc := 20) X ⟨Nat.lt_succ_of_lt ha.1, ha.2⟩ (by decide) dJ7_copyOfRangeByte_39247_20 ?_
  refine a_iload_n (pc := 21) X dJ7_copyOfRangeByte_39247_21 rfl rfl ?_
  refine a_isub (pc := 22) X dJ7_copyOfRangeByte_39247_22 ?_
  rw [Int.sub_zero]
  refine a_iload_n (pc := 23) X dJ7_copyOfRangeByte_39247_23 rfl rfl ?_
  refine b_min (pc := 24) X E wM_J7_304 ⟨by omega, by omega⟩ ⟨by omega, by omega⟩ (Nat.le_of_ble_eq_true rfl) (Nat.le_of_ble_eq_true rfl) ⟨by omega, by omega⟩ dJ7_copyOfRangeByte_39247_24 ?_
  rw [show min (N : Int) (m : Int) = m by omega]
  refine a_copyb (sp := 0) (dp := 0) (n := m) (pc := 27) X E.rm wM_J7_150 (n0' := N) (n1' := m) ⟨Nat.lt_succ_of_lt ha.1, ha.2⟩ ⟨Nat.lt_succ_self _, hsh⟩ (by omega) (by omega) (by omega) (by omega) (fun i hi => by rw [zG_ne (by have := ha.1; exact Nat.ne_of_lt this)]; exact hb _) (Nat.le_of_ble_eq_true rfl) (Nat.le_of_ble_eq_true rfl) dJ7_copyOfRangeByte_39247_27 ?_
  refine a_aload (pc := 30) X dJ7_copyOfRangeByte_39247_30 rfl ?_
  refine a_areturn (pc := 32) X E rfl (Or.inr ⟨_, rfl⟩) (by omega) (by omega) dJ7_copyOfRangeByte_39247_32 ⟨rfl, rfl, fun i hi => ?_, fun x hx j => ?_⟩
  · unfold cpG
    rw [if_pos ⟨rfl, by omega, by omega⟩, zG_ne (by have := ha.1; exact Nat.ne_of_lt this), Nat.zero_add, Nat.sub_zero]
  · unfold cpG
    rw [if_neg (fun q => hx q.1), zG_ne hx]
set_option maxHeartbeats 1000000 in
set_option maxRecDepth 100000 in
theorem sb_cor {n a N m : Nat} {sh : Nat → Sh} {rf : Nat → Nat → Option Nat} {G : GH} (ha : isAt (n, sh, rf) a (.inl (2, N))) (hsh : sh n = .inl (2, m)) (hfw : ∀ a, a < n → ∀ k q, rf a k = some q → q < n) (hn : n < 1000) (hm : m ≤ N) (hN : N < 1000) (hb : ∀ i, 0 ≤ G a i ∧ G a i < 128) : Mt yJ7_copyOfRange_39247 cJ7_copyOfRange_39247 3 (some (.array .byte)) 2 72 1 N [vr a, vi 0, vi (m : Int)] (n, sh, rf) G (fun v S' G' => v = some (vr n) ∧ S' = (n + 1, sh, rf) ∧ (∀ i, i < m → G' n i = G a i) ∧ ∀ x, x ≠ n → ∀ j, G' x j = G x j) noX := by
  refine Mt.of (l0 := [some (vr a), some (vi 0), some (vi (m : Int))]) (by decide) (Nat.le_of_ble_eq_true rfl) rfl ?_
  intro κ δ ρ0 X E hG
  replace X : CX κ δ RJ7 cJ7_copyOfRange_39247 3 (some (.array .byte)) := X
  refine a_iload_n (pc := 0) X dJ7_copyOfRange_39247_0 rfl rfl ?_
  refine a_if_ne (pc := 1) (tgt := 10) X dJ7_copyOfRange_39247_1 rfl (by decide) (fun c9 => absurd rfl c9) (fun c9 => ?_)
  refine a_iload_n (pc := 4) X dJ7_copyOfRange_39247_4 rfl rfl ?_
  refine a_aload_n (pc := 5) X dJ7_copyOfRange_39247_5 rfl rfl ?_
  refine a_alen (pc := 6) X ha (by decide) dJ7_copyOfRange_39247_6 ?_
  by_cases hmn : m = N
  · subst hmn
    refine a_icmp_eq (pc := 7) (tgt := 17) X dJ7_copyOfRange_39247_7 rfl ⟨by omega, by omega⟩ ⟨by omega, by omega⟩ (fun c9 => ?_) (fun c9 => absurd rfl c9)
    refine a_aload_n (pc := 17) X dJ7_copyOfRange_39247_17 rfl rfl ?_
    refine a_cloneb (pc := 18) X E.rm ha hsh hfw (by unfold strB; omega) (Nat.le_refl _) (by have := ha.1; simp [rltB, vi, vq] ; exact Or.inl this) rfl (fun i _ => fits_b (hb i)) (Nat.le_of_ble_eq_true rfl) (Nat.le_of_ble_eq_true rfl) ⟨by omega, by omega⟩ dJ7_copyOfRange_39247_18 ?_
    refine a_castb (N := m) (pc := 21) X ⟨Nat.lt_succ_self _, hsh⟩ dJ7_copyOfRange_39247_21 ?_
    exact a_areturn (pc := 24) X E rfl (Or.inr ⟨_, rfl⟩) (by omega) (by omega) dJ7_copyOfRange_39247_24 ⟨rfl, rfl, fun i hi => if_pos rfl, fun x hx j => if_neg hx⟩
  refine a_icmp_eq (pc := 7) (tgt := 17) X dJ7_copyOfRange_39247_7 rfl ⟨by omega, by omega⟩ ⟨by omega, by omega⟩ (fun c9 => absurd c9 (by omega)) (fun c9 => ?_)
  refine a_aload_n (pc := 10) X dJ7_copyOfRange_39247_10 rfl rfl ?_
  refine a_iload_n (pc := 11) X dJ7_copyOfRange_39247_11 rfl rfl ?_
  refine a_iload_n (pc := 12) X dJ7_copyOfRange_39247_12 rfl rfl ?_
  refine g_callS (pc := 13) X E.rm (sb_crb ha hsh hfw hn hm hN hb) (Nat.le_refl _) (by have := ha.1; simp [rltB, vi, vq] ; exact Or.inl this) rfl (by rintro v S' G' ⟨-, rfl, -⟩; exact Nat.le_succ _) wM_J7_339 w_static_J7_copyOfRangeByte_39247 w_initialized_RJ7 w_code_J7_copyOfRangeByte_39247 cpB_crb pnB_crb rfl (Nat.le_of_ble_eq_true rfl) ⟨Nat.le_of_ble_eq_true rfl, Nat.le_of_ble_eq_true rfl⟩ ⟨by omega, by omega⟩ dJ7_copyOfRange_39247_13 (fun v S' G' q hG' => ?_)
  obtain ⟨rfl, rfl, q1, q2⟩ := q
  exact a_areturn (pc := 16) X E rfl (Or.inr ⟨_, rfl⟩) (by omega) (by omega) dJ7_copyOfRange_39247_16 ⟨rfl, rfl, q1, q2⟩
set_option maxHeartbeats 1000000 in
set_option maxRecDepth 100000 in
theorem sb_i0a {k : Nat} {G : GH} {t : List Int} (hk : k ≤ 4) (B : BTx k G t) : Mt yJ0_init_db425 cJ0_init_db425 5 none 3 94 1 382 [vr (273 + (k + 1)), vr 272, vq none] (273 + (k + 1) + 1, shT k t.length, rfB k) G (fun v S' G' => v = none ∧ S' = (273 + (k + 1) + 1 + 1, shT k t.length, rfT k) ∧ G' (273 + (k + 1)) 1 = 0 ∧ (∀ i, i < t.length → G' (273 + (k + 1) + 1) i = t.getD i 0) ∧ LowH G' G) noX := by
  refine Mt.ofI (l0 := [some (vr (273 + (k + 1))), some (vr 272), some (vq none), none, none]) rfl (by decide) (Nat.le_of_ble_eq_true rfl) rfl ?_
  intro κ δ ρ0 X hI E hG
  replace X : CX κ δ RJ0 cJ0_init_db425 5 none := X
  have hcap := capN_rng k
  obtain ⟨hc, hn, hl9, ht9, hb9⟩ := B
  refine a_aload_n (pc := 0) X dJ0_init_db425_0 rfl rfl ?_
  refine a_objInit (pc := 1) X E.rm wM_J0_1 (Nat.le_of_ble_eq_true rfl) (Nat.le_of_ble_eq_true rfl) dJ0_init_db425_1 ?_
  refine a_aload_n (pc := 4) X dJ0_init_db425_4 rfl rfl ?_
  refine a_callV (pc := 5) X E (sb_gv (Nat.le_succ _)) okJ4 (t_is2 (Nat.le_succ _)) wM_J0_552 w_instanceMethod_J5_getValue_6d5f1 w_selB_J5_getValue_6d5f1 w_initialized_RJ5 w_code_J5_getValue_6d5f1 cpB_gv pnB_gv rfl (Nat.le_of_ble_eq_true rfl) ⟨Nat.le_of_ble_eq_true rfl, Nat.le_of_ble_eq_true rfl⟩ ⟨by omega, by omega⟩ dJ0_init_db425_5 (fun _ _ q => False.elim q) (fun v G1 h hG1 => ?_)
  obtain ⟨rfl, rfl⟩ := h
  refine a_astore_n (pc := 8) (i := 3) X dJ0_init_db425_8 rfl (Nat.le_of_ble_eq_true rfl) rfl rfl ?_
  refine a_aload_n (pc := 9) X dJ0_init_db425_9 rfl rfl ?_
  refine g_callO (pc := 10) X E.rm (sb_len4 (x := (t.length : Int)) (t_is2 (Nat.le_succ _)) hn ⟨by omega, by omega⟩) (Nat.le_refl _) (by simp [rltB, vi, vq] <;> omega) rfl (by rintro v S' G' ⟨rfl, -⟩; exact Nat.le_refl _) okJ4 (t_is2 (Nat.le_succ _)) wM_J0_549 w_same_J5_length_8abf5 w_instanceMethod_J5_length_8abf5 w_instanceMethod_J4_length_8abf5 w_selB_J4_length_8abf5 w_initialized_RJ4 w_code_J4_length_8abf5 w_code_J5_length_8abf5 ⟨by decide +kernel, by decide +kernel, pnB_len5⟩ rfl (Nat.le_of_ble_eq_true rfl) ⟨Nat.le_of_ble_eq_true rfl, Nat.le_of_ble_eq_true rfl⟩ ⟨by omega, by omega⟩ dJ0_init_db425_10 (fun v S' G' q hG' => ?_)
  obtain ⟨rfl, rfl, rfl⟩ := q
  refine a_istore (pc := 13) X dJ0_init_db425_13 (Nat.le_of_ble_eq_true rfl) rfl rfl ?_
  refine a_aload_n (pc := 15) X dJ0_init_db425_15 rfl rfl ?_
  refine a_callV (pc := 16) X E (sb_isLg (t_is2 (Nat.le_succ _)) hc) okJ4 (t_is2 (Nat.le_succ _)) wM_J0_1047 w_instanceMethod_J5_isLatin1_aae02 w_selB_J5_isLatin1_aae02 w_initialized_RJ5 w_code_J5_isLatin1_aae02 cpB_isL pnB_isL rfl (Nat.le_of_ble_eq_true rfl) ⟨Nat.le_of_ble_eq_true rfl, Nat.le_of_ble_eq_true rfl⟩ ⟨by omega, by omega⟩ dJ0_init_db425_16 (fun _ _ q => False.elim q) (kIp (fun r hr h => ?_))
  subst h
  refine a_if_eq (pc := 19) (tgt := 41) X dJ0_init_db425_19 rfl (by decide) (fun c9 => absurd c9 (by decide)) (fun c9 => ?_)
  refine a_aload_n (pc := 22) X dJ0_init_db425_22 rfl rfl ?_
  refine a_iconst (pc := 23) X dJ0_init_db425_23 ?_
  refine a_putIF (pc := 24) hI X okJ0 1 rfl rfl rfl wF_J0_15 (t_isS (Nat.lt_succ_self _)) dJ0_init_db425_24 (by decide) ⟨rfl, rfl⟩ (fun hG2 => ?_)
  refine a_aload_n (pc := 27) X dJ0_init_db425_27 rfl rfl ?_
  refine a_aload_n (pc := 28) X dJ0_init_db425_28 rfl rfl ?_
  refine a_iconst (pc := 29) X dJ0_init_db425_29 ?_
  refine a_iload (pc := 30) X dJ0_init_db425_30 rfl ?_
  refine g_callS (pc := 32) X E.rm (sb_cor (n := 273 + (k + 1) + 1) (m := t.length) (t_ar2 (Nat.le_succ _)) shT_n1 (sbT_fw (Nat.le_succ _)) (by omega) hl9 (by omega) (fun i => by rw [upG_na (by omega)]; exact hb9 i)) (Nat.le_refl _) (by simp [rltB, vi, vq] <;> omega) (by simp [rltB, vi, vq] <;> omega) (by rintro v S' G' ⟨-, rfl, -⟩; exact Nat.le_succ _) wM_J0_54 w_static_J7_copyOfRange_39247 w_initialized_RJ7 w_code_J7_copyOfRange_39247 cpB_cor pnB_cor rfl (Nat.le_of_ble_eq_true rfl) ⟨Nat.le_of_ble_eq_true rfl, Nat.le_of_ble_eq_true rfl⟩ ⟨by omega, by omega⟩ dJ0_init_db425_32 (fun v S' G' q hG' => ?_)
  obtain ⟨rfl, rfl, q1, q2⟩ := q
  refine a_putR (pc := 35) (rf' := rfT k) (q := 273 + (k + 1) + 1) hI X okJ0 0 rfl rfl rfl wF_J0_9 (t_isS (by omega)) (fun r => ⟨rfl, rfl⟩) rfT_put dJ0_init_db425_35 ?_
  refine a_goto (pc := 38) (tgt := 97) X dJ0_init_db425_38 rfl ?_
  exact a_return (pc := 97) X E (by omega) (by omega) dJ0_init_db425_97 ⟨rfl, rfl, by rw [q2 _ (by omega)]; exact upG_same _ _ _ _, fun i hi => by rw [q1 i hi, upG_na (by omega)]; exact ht9 i hi, fun a h j => by rw [q2 _ (by omega), upG_na (by omega)]⟩
set_option maxHeartbeats 1000000 in
set_option maxRecDepth 100000 in
theorem sb_i0b {k : Nat} {G : GH} {t : List Int} (hk : k ≤ 4) (B : BTx k G t) : Mt yJ0_init_81219 cJ0_init_81219 2 none 4 118 1 382 [vr (273 + (k + 1)), vr 272] (273 + (k + 1) + 1, shT k t.length, rfB k) G (fun v S' G' => v = none ∧ S' = (273 + (k + 1) + 1 + 1, shT k t.length, rfT k) ∧ G' (273 + (k + 1)) 1 = 0 ∧ (∀ i, i < t.length → G' (273 + (k + 1) + 1) i = t.getD i 0) ∧ LowH G' G) noX := by
  refine Mt.of (l0 := [some (vr (273 + (k + 1))), some (vr 272)]) (by decide) (Nat.le_of_ble_eq_true rfl) rfl ?_
  intro κ δ ρ0 X E hG
  replace X : CX κ δ RJ0 cJ0_init_81219 2 none := X
  refine a_aload_n (pc := 0) X dJ0_init_81219_0 rfl rfl ?_
  refine a_aload_n (pc := 1) X dJ0_init_81219_1 rfl rfl ?_
  refine a_aconst (pc := 2) X dJ0_init_81219_2 ?_
  refine g_callI (pc := 3) X E.rm (sb_i0a hk B) (Nat.le_refl _) (by simp [rltB, vi, vq] <;> omega) rfl (by rintro v S' G' ⟨-, rfl, -⟩; exact Nat.le_succ _) wM_J0_489 w_instanceMethod_J0_init_db425 w_initialized_RJ0 w_code_J0_init_db425 cpB_i0a pnB_i0a rfl rfl (Nat.le_of_ble_eq_true rfl) ⟨Nat.le_of_ble_eq_true rfl, Nat.le_of_ble_eq_true rfl⟩ ⟨by omega, by omega⟩ dJ0_init_81219_3 (fun v S' G' q hG' => ?_)
  obtain ⟨rfl, rfl, q1, q2, q3⟩ := q
  exact a_return (pc := 6) X E (by omega) (by omega) dJ0_init_81219_6 ⟨rfl, rfl, q1, q2, q3⟩
set_option maxHeartbeats 1000000 in
set_option maxRecDepth 100000 in
theorem sb_tos {k : Nat} {G : GH} {t : List Int} (hk : k ≤ 4) (B : BTx k G t) : Mt yJ4_toString_0e30d cJ4_toString_0e30d 1 (some (.object "java/lang/String")) 5 139 2 386 [vr 272] (SB k) G (fun v S' G' => v = some (vr (273 + (k + 1))) ∧ S' = (273 + (k + 1) + 1 + 1, shT k t.length, rfT k) ∧ G' (273 + (k + 1)) 1 = 0 ∧ (∀ i, i < t.length → G' (273 + (k + 1) + 1) i = t.getD i 0) ∧ LowH G' G) noX := by
  refine Mt.of (l0 := [some (vr 272)]) (by decide) (Nat.le_of_ble_eq_true rfl) rfl ?_
  intro κ δ ρ0 X E hG
  replace X : CX κ δ RJ4 cJ4_toString_0e30d 1 (some (.object "java/lang/String")) := X
  have hB := B
  refine AW.congS (S' := (273 + (k + 1), shT k t.length, rfB k)) rfl (fun a ha => shT_lo ha) (fun a ha j => rfl) ?_
  refine a_new (pc := 0) (n := 273 + (k + 1)) (rf := rfB k) X E.rm okJ0 wC_J4_18 w_instantiable_RJ0 w_initialized_RJ0 fv_J0 shT_n (fun _ => rfB_n) (sbT_fw (Nat.le_refl _)) (by unfold strB; omega) (Nat.le_refl _) (by simp [rltB, vi, vq] <;> omega) rfl ⟨by omega, by omega⟩ dJ4_toString_0e30d_0 ?_
  refine a_dup (pc := 3) X dJ4_toString_0e30d_3 rfl ?_
  refine a_aload_n (pc := 4) X dJ4_toString_0e30d_4 rfl rfl ?_
  refine g_callI (pc := 5) X E.rm (sb_i0b hk (hB.z)) (Nat.le_succ _) (by simp [rltB, vi, vq] <;> omega) (by simp [rltB, vi, vq] <;> omega) (by rintro v S' G' ⟨-, rfl, -⟩; exact Nat.le_succ _) wM_J4_137 w_instanceMethod_J0_init_81219 w_initialized_RJ0 w_code_J0_init_81219 cpB_i0b pnB_i0b rfl rfl (Nat.le_of_ble_eq_true rfl) ⟨Nat.le_of_ble_eq_true rfl, Nat.le_of_ble_eq_true rfl⟩ ⟨by omega, by omega⟩ dJ4_toString_0e30d_5 (fun v S' G' q hG' => ?_)
  obtain ⟨rfl, rfl, q1, q2, q3⟩ := q
  exact a_areturn (pc := 8) X E rfl (Or.inl ⟨_, rfl⟩) (by omega) (by omega) dJ4_toString_0e30d_8 ⟨rfl, rfl, q1, q2, q3.tr fun a h j => zG_ne (by omega)⟩
end SBW3

-- ===== letters and numbers: written by wip/p51/mksb.py =====
theorem byte_nar {x : Int} (h : 0 ≤ x ∧ x < 128) : vp_nar .byte (zI x) = zI x := by
  obtain ⟨n, rfl⟩ := Int.eq_ofNat_of_zero_le h.1
  have hc : ∀ n : Nat, n < 128 → vp_nar .byte (zI (n : Int)) = zI n := by decide +kernel
  exact hc n (by omega)
theorem byte_i2b {x : Int} (h : 0 ≤ x ∧ x < 128) : (zI x).toInt8.toInt32 = zI x := by
  obtain ⟨n, rfl⟩ := Int.eq_ofNat_of_zero_le h.1
  have hc : ∀ n : Nat, n < 128 → (zI (n : Int)).toInt8.toInt32 = zI n := by decide +kernel
  exact hc n (by omega)
/-- the letters u are put at dp of the row a -/
def pub (G : GH) (a dp : Nat) (u : List Int) : GH := fun a' j => if a' = a ∧ dp ≤ j ∧ j < dp + u.length then u.getD (j - dp) 0 else G a' j
theorem pub_1 {G : GH} {a dp : Nat} {x : Int} : upG G a dp x = pub G a dp [x] := by
  funext a' j
  unfold upG pub
  by_cases h : a' = a ∧ j = dp
  · obtain ⟨rfl, rfl⟩ := h
    simp
  · rw [if_neg h, if_neg (fun q => h ⟨q.1, by have h2 := q.2.1; have h3 : j < dp + 1 := q.2.2; omega⟩)]
theorem pub_c {G : GH} {a dp : Nat} {x : Int} {u : List Int} : upG (pub G a (dp + 1) u) a dp x = pub G a dp (x :: u) := by
  funext a' j
  unfold upG pub
  by_cases h : a' = a ∧ j = dp
  · obtain ⟨rfl, rfl⟩ := h
    simp
  · rw [if_neg h]
    by_cases h2 : a' = a ∧ dp + 1 ≤ j ∧ j < dp + 1 + u.length
    · rw [if_pos h2, if_pos ⟨h2.1, by omega, by rw [List.length_cons]; omega⟩]
      obtain ⟨i, rfl⟩ : ∃ i, j = dp + 1 + i := ⟨j - (dp + 1), by omega⟩
      rw [show dp + 1 + i - (dp + 1) = i by omega, show dp + 1 + i - dp = i + 1 by omega]
      rfl
    · rw [if_neg h2, if_neg (fun q => by
        have h3 := q.2.2
        rw [List.length_cons] at h3
        have h4 := q.2.1
        by_cases h5 : j = dp
        · exact h ⟨q.1, h5⟩
        · exact h2 ⟨q.1, by omega, by omega⟩)]
theorem gr_pub {G : GH} {a dp : Nat} {u : List Int} (h : GR G) (hu : tOK u) : GR (pub G a dp u) := by
  intro a' j
  unfold pub
  split
  · next q =>
    have hm : u.getD (j - dp) 0 ∈ u := by
      rw [List.getD_eq_getElem?_getD, List.getElem?_eq_getElem (by omega)]
      exact List.getElem_mem _
    have := hu _ hm
    exact ⟨by omega, by omega⟩
  · exact h _ _
theorem BTx.put {k : Nat} {G : GH} {t u : List Int} (hu : tOK u) (B : BTx k G t) (hd : t.length + u.length ≤ capN k) {v : Int} (hv : v = (t.length : Int) + u.length) : BTx k (upG (pub G (273 + k) t.length u) 272 3 v) (t ++ u) := by
  obtain ⟨b1, b2, b3, b4, b5⟩ := B
  have e : ∀ i, upG (pub G (273 + k) t.length u) 272 3 v (273 + k) i = if t.length ≤ i ∧ i < t.length + u.length then u.getD (i - t.length) 0 else G (273 + k) i := by
    intro i
    rw [upG_na (by omega)]
    unfold pub
    by_cases h : t.length ≤ i ∧ i < t.length + u.length
    · rw [if_pos ⟨rfl, h⟩, if_pos h]
    · rw [if_neg (fun q => h q.2), if_neg h]
  refine ⟨?_, ?_, by rw [List.length_append]; exact hd, fun i hi => ?_, fun i => ?_⟩
  · rw [upG_nk (by decide)]
    unfold pub
    rw [if_neg (by omega)]
    exact b1
  · rw [upG_same, List.length_append, hv, Int.natCast_add]
  · rw [List.length_append] at hi
    rw [e]
    by_cases h : i < t.length
    · rw [if_neg (by omega), getD_app1 h]; exact b4 i h
    · rw [if_pos ⟨by omega, hi⟩, getD_app2 (by omega)]
  · rw [e]
    split
    · next q =>
      refine hu _ ?_
      rw [List.getD_eq_getElem?_getD, List.getElem?_eq_getElem (by omega)]
      exact List.getElem_mem _
    · exact b5 i
theorem LowH.put {k dp : Nat} {G : GH} {v : Int} {u : List Int} : LowH (upG (pub G (273 + k) dp u) 272 3 v) G := by
  intro a h j
  rw [upG_na (by omega)]
  unfold pub
  rw [if_neg (by omega)]
theorem pub_cm {k dp : Nat} {G : GH} {v x : Int} : upG (upG G 272 3 v) (273 + k) dp x = upG (pub G (273 + k) dp [x]) 272 3 v := by
  rw [← pub_1]
  funext a' j
  unfold upG
  by_cases h : a' = 273 + k ∧ j = dp
  · rw [if_pos h, if_neg (by omega), if_pos h]
  · rw [if_neg h]
    by_cases h2 : a' = 272 ∧ j = 3
    · rw [if_pos h2, if_pos h2]
    · rw [if_neg h2, if_neg h2, if_neg h]
/-- a number's digits -/
def dgs (n : Nat) : List Int := if n < 10 then [dgO n] else if n < 100 then [dgT n, dgO n] else [dgO (n / 100), dgT (n % 100), dgO (n % 100)]
theorem dgO_r (n : Nat) : 0 ≤ dgO n ∧ dgO n < 128 := by unfold dgO; omega
theorem dgT_r {n : Nat} (h : n < 100) : 0 ≤ dgT n ∧ dgT n < 128 := by unfold dgT; omega
theorem dgs_ok (n : Nat) : tOK (dgs n) := by
  intro x hx
  unfold dgs at hx
  split at hx
  · simp only [List.mem_cons, List.not_mem_nil, or_false] at hx
    subst hx; exact dgO_r _
  · split at hx
    · next h =>
      simp only [List.mem_cons, List.not_mem_nil, or_false] at hx
      rcases hx with rfl | rfl
      · exact dgT_r h
      · exact dgO_r _
    · simp only [List.mem_cons, List.not_mem_nil, or_false] at hx
      rcases hx with rfl | rfl | rfl
      · exact dgO_r _
      · exact dgT_r (by omega)
      · exact dgO_r _
theorem dgs_len (n : Nat) : 1 ≤ (dgs n).length ∧ (dgs n).length ≤ 3 := by
  unfold dgs
  split
  · exact ⟨Nat.le_refl 1, by show 1 ≤ 3; omega⟩
  · split
    · exact ⟨by show 1 ≤ 2; omega, by show 2 ≤ 3; omega⟩
    · exact ⟨by show 1 ≤ 3; omega, by show 3 ≤ 3; omega⟩
section SBW2
set_option maxHeartbeats 1000000 in
set_option maxRecDepth 100000 in
theorem sb_can {S : ASt} {G : GH} {c : Int} (hc : 0 ≤ c ∧ c < 128) : Mt yJ1_canEncode_fc78d cJ1_canEncode_fc78d 1 (some .boolean) 0 0 0 0 [vi c] S G (fun v S' G' => S' = S ∧ qI (fun r G' => G' = G ∧ r = 1) v S' G') (fun E S' G' => S' = S ∧ False) := by
  refine Mt.of (l0 := [some (vi c)]) (by decide) (Nat.le_of_ble_eq_true rfl) rfl ?_
  intro κ δ ρ0 X E hG
  replace X : CX κ δ RJ1 cJ1_canEncode_fc78d 1 (some .boolean) := X
  refine a_iload_n (pc := 0) X dJ1_canEncode_fc78d_0 rfl rfl ?_
  refine a_sipush (pc := 1) X dJ1_canEncode_fc78d_1 rfl ?_
  refine a_icmp_gt (pc := 4) (tgt := 11) X dJ1_canEncode_fc78d_4 rfl ⟨by omega, by omega⟩ (by decide) (fun c9 => absurd c9 (by omega)) (fun c9 => ?_)
  refine a_iconst (pc := 7) X dJ1_canEncode_fc78d_7 ?_
  refine a_goto (pc := 8) (tgt := 12) X dJ1_canEncode_fc78d_8 rfl ?_
  exact a_ireturn (pc := 12) X E rfl rfl (Nat.le_of_ble_eq_true rfl) (Nat.le_of_ble_eq_true rfl) dJ1_canEncode_fc78d_12 ⟨rfl, _, rfl, by decide, rfl, rfl⟩
set_option maxHeartbeats 1000000 in
set_option maxRecDepth 100000 in
theorem sb_apC5 {k : Nat} {G : GH} {t : List Int} {c : Int} (hk : k ≤ 4) (hcc : 0 ≤ c ∧ c < 128) (B : BTx k G t) (ht : t.length ≤ 372) : Mt yJ5_append_3fe6f cJ5_append_3fe6f 2 (some (.object "java/lang/AbstractStringBuilder")) 4 88 1 382 [vr 272, vi c] (SB k) G (ApQ k G t [c]) noX := by
  refine Mt.of (l0 := [some (vr 272), some (vi c)]) (by decide) (Nat.le_of_ble_eq_true rfl) rfl ?_
  intro κ δ ρ0 X E hG
  replace X : CX κ δ RJ5 cJ5_append_3fe6f 2 (some (.object "java/lang/AbstractStringBuilder")) := X
  have hB := B
  obtain ⟨hc, hn, hl9, -, hb9⟩ := B
  have hcap := capN_rng k
  refine a_aload_n (pc := 0) X dJ5_append_3fe6f_0 rfl rfl ?_
  refine a_aload_n (pc := 1) X dJ5_append_3fe6f_1 rfl rfl ?_
  refine a_getI (pc := 2) X okJ4 3 rfl wF_J5_79 (sb_is k) dJ5_append_3fe6f_2 ?_
  rw [hn]
  refine a_iconst (pc := 5) X dJ5_append_3fe6f_5 ?_
  refine a_iadd (pc := 6) X dJ5_append_3fe6f_6 ?_
  refine g_callV (pc := 7) X E.rm (sb_ens (m := (t.length : Int) + 1) hk hB ⟨by omega, by omega⟩ (by omega)) (Nat.le_refl _) (by first | rfl | (simp [rltB, vi, vq, vl] <;> (try unfold strB) <;> omega)) (by first | rfl | (simp [rltB, vi, vq, vl] <;> (try unfold strB) <;> omega)) (by rintro v S' G' ⟨-, k', h1, -, rfl, -⟩; show 273 + (k + 1) ≤ 273 + (k' + 1); omega) okJ4 (sb_is k) wM_J5_100 w_instanceMethod_J5_ensureCapacityInternal_d00df w_selB_J5_ensureCapacityInternal_d00df w_initialized_RJ5 w_code_J5_ensureCapacityInternal_d00df cpB_ens pnB_ens rfl (Nat.le_of_ble_eq_true rfl) ⟨Nat.le_of_ble_eq_true rfl, Nat.le_of_ble_eq_true rfl⟩ ⟨by omega, by omega⟩ dJ5_append_3fe6f_7 (fun v S' G' q hG' => ?_)
  obtain ⟨rfl, k1, hk1, hk14, rfl, B1, hm1, hL1⟩ := q
  clear hc hn hb9
  have hcap1 := capN_rng k1
  have hB1 := B1
  obtain ⟨hc, hn, hl9, -, hb9⟩ := B1
  refine a_aload_n (pc := 10) X dJ5_append_3fe6f_10 rfl rfl ?_
  refine a_callV (pc := 11) X E (sb_isL hc) okJ4 (sb_is k1) wM_J5_83 w_instanceMethod_J5_isLatin1_aae02 w_selB_J5_isLatin1_aae02 w_initialized_RJ5 w_code_J5_isLatin1_aae02 cpB_isL pnB_isL rfl (Nat.le_of_ble_eq_true rfl) ⟨Nat.le_of_ble_eq_true rfl, Nat.le_of_ble_eq_true rfl⟩ ⟨by omega, by omega⟩ dJ5_append_3fe6f_11 (fun _ _ q => False.elim q) (kIp (fun r hr h => ?_))
  subst h
  refine a_if_eq (pc := 14) (tgt := 45) X dJ5_append_3fe6f_14 rfl (by decide) (fun c9 => absurd c9 (by decide)) (fun c9 => ?_)
  refine a_iload_n (pc := 17) X dJ5_append_3fe6f_17 rfl rfl ?_
  refine a_callS (pc := 18) X E (sb_can hcc) wM_J5_191 w_static_J1_canEncode_fc78d w_initialized_RJ1 w_code_J1_canEncode_fc78d cpB_can pnB_can rfl (Nat.le_of_ble_eq_true rfl) ⟨Nat.le_of_ble_eq_true rfl, Nat.le_of_ble_eq_true rfl⟩ ⟨by omega, by omega⟩ dJ5_append_3fe6f_18 (fun _ _ q => False.elim q) (kIp (fun r hr h => ?_))
  subst h
  refine a_if_eq (pc := 21) (tgt := 45) X dJ5_append_3fe6f_21 rfl (by decide) (fun c9 => absurd c9 (by decide)) (fun c9 => ?_)
  refine a_aload_n (pc := 24) X dJ5_append_3fe6f_24 rfl rfl ?_
  refine a_getR (pc := 25) (q := 273 + k1) X okJ4 0 rfl wF_J5_15 (sb_is k1) (sb_rf k1) dJ5_append_3fe6f_25 ?_
  refine a_aload_n (pc := 28) X dJ5_append_3fe6f_28 rfl rfl ?_
  refine a_dup (pc := 29) X dJ5_append_3fe6f_29 rfl ?_
  refine a_getI (pc := 30) X okJ4 3 rfl wF_J5_79 (sb_is k1) dJ5_append_3fe6f_30 ?_
  rw [hn]
  refine a_dupx1 (pc := 33) X dJ5_append_3fe6f_33 rfl rfl ?_
  refine a_iconst (pc := 34) X dJ5_append_3fe6f_34 ?_
  refine a_iadd (pc := 35) X dJ5_append_3fe6f_35 ?_
  refine a_putI (pc := 36) X okJ4 3 rfl rfl wF_J5_79 (sb_is k1) dJ5_append_3fe6f_36 ⟨by omega, by omega⟩ (fit_int _) (fun hG2 => ?_)
  refine a_iload_n (pc := 39) X dJ5_append_3fe6f_39 rfl rfl ?_
  refine a_i2b (pc := 40) X c dJ5_append_3fe6f_40 (byte_i2b hcc) ?_
  refine a_bast (pc := 41) (j := t.length) (v := c) X (sb_ar k1) (by omega) rfl (by omega) ⟨by omega, by omega⟩ (byte_nar hcc) dJ5_append_3fe6f_41 (fun hG3 => ?_)
  rw [pub_cm]
  refine a_goto (pc := 42) (tgt := 75) X dJ5_append_3fe6f_42 rfl ?_
  refine a_aload_n (pc := 75) X dJ5_append_3fe6f_75 rfl rfl ?_
  exact a_areturn (pc := 76) X E rfl (Or.inl ⟨_, rfl⟩) (by omega) (by omega) dJ5_append_3fe6f_76 ⟨rfl, k1, hk1, hk14, rfl, hB1.put (u := [c]) (fun x hx => by rw [List.mem_singleton.mp hx]; exact hcc) (by show _ + 1 ≤ _; omega) rfl, LowH.put.tr hL1⟩
set_option maxHeartbeats 1000000 in
set_option maxRecDepth 100000 in
theorem sb_apC4 {k : Nat} {G : GH} {t : List Int} {c : Int} (hk : k ≤ 4) (hcc : 0 ≤ c ∧ c < 128) (B : BTx k G t) (ht : t.length ≤ 372) : Mt yJ4_append_cf468 cJ4_append_cf468 2 (some (.object "java/lang/StringBuilder")) 5 109 1 382 [vr 272, vi c] (SB k) G (ApQ k G t [c]) noX := by
  refine Mt.of (l0 := [some (vr 272), some (vi c)]) (by decide) (Nat.le_of_ble_eq_true rfl) rfl ?_
  intro κ δ ρ0 X E hG
  replace X : CX κ δ RJ4 cJ4_append_cf468 2 (some (.object "java/lang/StringBuilder")) := X
  refine a_aload_n (pc := 0) X dJ4_append_cf468_0 rfl rfl ?_
  refine a_iload_n (pc := 1) X dJ4_append_cf468_1 rfl rfl ?_
  refine g_callSU (pc := 2) X E.rm (sb_apC5 hk hcc B ht) (Nat.le_refl _) (by first | rfl | (simp [rltB, vi, vq, vl] <;> (try unfold strB) <;> omega)) (by first | rfl | (simp [rltB, vi, vq, vl] <;> (try unfold strB) <;> omega)) ApQ_ge okJ4 (sb_is k) wM_J4_50 w_same_J5_append_3fe6f w_superclass_RJ4 w_instanceMethod_J5_append_3fe6f w_initialized_RJ5 w_code_J5_append_3fe6f ⟨by decide +kernel, pnB_apC5⟩ rfl (Nat.le_of_ble_eq_true rfl) ⟨Nat.le_of_ble_eq_true rfl, Nat.le_of_ble_eq_true rfl⟩ ⟨by omega, by omega⟩ dJ4_append_cf468_2 (fun v S' G' q hG' => ?_)
  obtain ⟨rfl, k1, hk1, hk14, rfl, B1, hL1⟩ := q
  refine a_pop (pc := 5) X dJ4_append_cf468_5 rfl ?_
  refine a_aload_n (pc := 6) X dJ4_append_cf468_6 rfl rfl ?_
  exact a_areturn (pc := 7) X E rfl (Or.inl ⟨_, rfl⟩) (by omega) (by omega) dJ4_append_cf468_7 ⟨rfl, k1, hk1, hk14, rfl, B1, hL1⟩
set_option maxHeartbeats 1000000 in
set_option maxRecDepth 100000 in
theorem sb_ss1 {S : ASt} {G : GH} {n : Nat} (hn : n < 10) : Mt yJ6_stringSize_0f7a4 cJ6_stringSize_0f7a4 4 (some .int) 0 0 0 0 [vi (n : Int)] S G (fun v S' G' => S' = S ∧ qI (fun r G' => G' = G ∧ r = 1) v S' G') (fun E S' G' => S' = S ∧ False) := by
  refine Mt.of (l0 := [some (vi (n : Int)), none, none, none]) (by decide) (Nat.le_of_ble_eq_true rfl) rfl ?_
  intro κ δ ρ0 X E hG
  replace X : CX κ δ RJ6 cJ6_stringSize_0f7a4 4 (some .int) := X
  refine a_iconst (pc := 0) X dJ6_stringSize_0f7a4_0 ?_
  refine a_istore_n (pc := 1) (i := 1) X dJ6_stringSize_0f7a4_1 rfl (Nat.le_of_ble_eq_true rfl) rfl rfl ?_
  refine a_iload_n (pc := 2) X dJ6_stringSize_0f7a4_2 rfl rfl ?_
  refine a_if_lt (pc := 3) (tgt := 11) X dJ6_stringSize_0f7a4_3 rfl ⟨by omega, by omega⟩ (fun c9 => absurd c9 (by omega)) (fun c9 => ?_)
  refine a_iconst (pc := 6) X dJ6_stringSize_0f7a4_6 ?_
  refine a_istore_n (pc := 7) (i := 1) X dJ6_stringSize_0f7a4_7 rfl (Nat.le_of_ble_eq_true rfl) rfl rfl ?_
  refine a_iload_n (pc := 8) X dJ6_stringSize_0f7a4_8 rfl rfl ?_
  refine a_ineg (pc := 9) X dJ6_stringSize_0f7a4_9 ?_
  refine a_istore_n (pc := 10) (i := 0) X dJ6_stringSize_0f7a4_10 rfl (Nat.le_of_ble_eq_true rfl) rfl rfl ?_
  refine a_bipush (pc := 11) X dJ6_stringSize_0f7a4_11 rfl ?_
  refine a_istore_n (pc := 13) (i := 2) X dJ6_stringSize_0f7a4_13 rfl (Nat.le_of_ble_eq_true rfl) rfl rfl ?_
  refine a_iconst (pc := 14) X dJ6_stringSize_0f7a4_14 ?_
  refine a_istore_n (pc := 15) (i := 3) X dJ6_stringSize_0f7a4_15 rfl (Nat.le_of_ble_eq_true rfl) rfl rfl ?_
  refine a_iload_n (pc := 16) X dJ6_stringSize_0f7a4_16 rfl rfl ?_
  refine a_bipush (pc := 17) X dJ6_stringSize_0f7a4_17 rfl ?_
  refine a_icmp_ge (pc := 19) (tgt := 42) X dJ6_stringSize_0f7a4_19 rfl ⟨by omega, by omega⟩ (by decide) (fun c9 => absurd c9 (by omega)) (fun c9 => ?_)
  refine a_iload_n (pc := 22) X dJ6_stringSize_0f7a4_22 rfl rfl ?_
  refine a_iload_n (pc := 23) X dJ6_stringSize_0f7a4_23 rfl rfl ?_
  refine a_icmp_le (pc := 24) (tgt := 31) X dJ6_stringSize_0f7a4_24 rfl ⟨by omega, by omega⟩ ⟨by omega, by omega⟩ (fun c9 => absurd c9 (by omega)) (fun c9 => ?_)
  refine a_iload_n (pc := 27) X dJ6_stringSize_0f7a4_27 rfl rfl ?_
  refine a_iload_n (pc := 28) X dJ6_stringSize_0f7a4_28 rfl rfl ?_
  refine a_iadd (pc := 29) X dJ6_stringSize_0f7a4_29 ?_
  exact a_ireturn (pc := 30) X E rfl rfl (Nat.le_of_ble_eq_true rfl) (Nat.le_of_ble_eq_true rfl) dJ6_stringSize_0f7a4_30 ⟨rfl, _, rfl, by decide, rfl, by decide⟩
set_option maxHeartbeats 1000000 in
set_option maxRecDepth 100000 in
theorem sb_ss2 {S : ASt} {G : GH} {n : Nat} (hn : 10 ≤ n ∧ n < 100) : Mt yJ6_stringSize_0f7a4 cJ6_stringSize_0f7a4 4 (some .int) 0 0 0 0 [vi (n : Int)] S G (fun v S' G' => S' = S ∧ qI (fun r G' => G' = G ∧ r = 2) v S' G') (fun E S' G' => S' = S ∧ False) := by
  refine Mt.of (l0 := [some (vi (n : Int)), none, none, none]) (by decide) (Nat.le_of_ble_eq_true rfl) rfl ?_
  intro κ δ ρ0 X E hG
  replace X : CX κ δ RJ6 cJ6_stringSize_0f7a4 4 (some .int) := X
  refine a_iconst (pc := 0) X dJ6_stringSize_0f7a4_0 ?_
  refine a_istore_n (pc := 1) (i := 1) X dJ6_stringSize_0f7a4_1 rfl (Nat.le_of_ble_eq_true rfl) rfl rfl ?_
  refine a_iload_n (pc := 2) X dJ6_stringSize_0f7a4_2 rfl rfl ?_
  refine a_if_lt (pc := 3) (tgt := 11) X dJ6_stringSize_0f7a4_3 rfl ⟨by omega, by omega⟩ (fun c9 => absurd c9 (by omega)) (fun c9 => ?_)
  refine a_iconst (pc := 6) X dJ6_stringSize_0f7a4_6 ?_
  refine a_istore_n (pc := 7) (i := 1) X dJ6_stringSize_0f7a4_7 rfl (Nat.le_of_ble_eq_true rfl) rfl rfl ?_
  refine a_iload_n (pc := 8) X dJ6_stringSize_0f7a4_8 rfl rfl ?_
  refine a_ineg (pc := 9) X dJ6_stringSize_0f7a4_9 ?_
  refine a_istore_n (pc := 10) (i := 0) X dJ6_stringSize_0f7a4_10 rfl (Nat.le_of_ble_eq_true rfl) rfl rfl ?_
  refine a_bipush (pc := 11) X dJ6_stringSize_0f7a4_11 rfl ?_
  refine a_istore_n (pc := 13) (i := 2) X dJ6_stringSize_0f7a4_13 rfl (Nat.le_of_ble_eq_true rfl) rfl rfl ?_
  refine a_iconst (pc := 14) X dJ6_stringSize_0f7a4_14 ?_
  refine a_istore_n (pc := 15) (i := 3) X dJ6_stringSize_0f7a4_15 rfl (Nat.le_of_ble_eq_true rfl) rfl rfl ?_
  refine a_iload_n (pc := 16) X dJ6_stringSize_0f7a4_16 rfl rfl ?_
  refine a_bipush (pc := 17) X dJ6_stringSize_0f7a4_17 rfl ?_
  refine a_icmp_ge (pc := 19) (tgt := 42) X dJ6_stringSize_0f7a4_19 rfl ⟨by omega, by omega⟩ (by decide) (fun c9 => absurd c9 (by omega)) (fun c9 => ?_)
  refine a_iload_n (pc := 22) X dJ6_stringSize_0f7a4_22 rfl rfl ?_
  refine a_iload_n (pc := 23) X dJ6_stringSize_0f7a4_23 rfl rfl ?_
  refine a_icmp_le (pc := 24) (tgt := 31) X dJ6_stringSize_0f7a4_24 rfl ⟨by omega, by omega⟩ ⟨by omega, by omega⟩ (fun c9 => ?_) (fun c9 => absurd c9 (by omega))
  refine a_bipush (pc := 31) X dJ6_stringSize_0f7a4_31 rfl ?_
  refine a_iload_n (pc := 33) X dJ6_stringSize_0f7a4_33 rfl rfl ?_
  refine a_imul (pc := 34) X dJ6_stringSize_0f7a4_34 ?_
  refine a_istore_n (pc := 35) (i := 2) X dJ6_stringSize_0f7a4_35 rfl (Nat.le_of_ble_eq_true rfl) rfl rfl ?_
  refine a_iinc (pc := 36) X dJ6_stringSize_0f7a4_36 rfl (Nat.le_of_ble_eq_true rfl) rfl rfl ?_
  refine a_goto (pc := 39) (tgt := 16) X dJ6_stringSize_0f7a4_39 rfl ?_
  refine a_iload_n (pc := 16) X dJ6_stringSize_0f7a4_16 rfl rfl ?_
  refine a_bipush (pc := 17) X dJ6_stringSize_0f7a4_17 rfl ?_
  refine a_icmp_ge (pc := 19) (tgt := 42) X dJ6_stringSize_0f7a4_19 rfl ⟨by omega, by omega⟩ (by decide) (fun c9 => absurd c9 (by omega)) (fun c9 => ?_)
  refine a_iload_n (pc := 22) X dJ6_stringSize_0f7a4_22 rfl rfl ?_
  refine a_iload_n (pc := 23) X dJ6_stringSize_0f7a4_23 rfl rfl ?_
  refine a_icmp_le (pc := 24) (tgt := 31) X dJ6_stringSize_0f7a4_24 rfl ⟨by omega, by omega⟩ ⟨by omega, by omega⟩ (fun c9 => absurd c9 (by omega)) (fun c9 => ?_)
  refine a_iload_n (pc := 27) X dJ6_stringSize_0f7a4_27 rfl rfl ?_
  refine a_iload_n (pc := 28) X dJ6_stringSize_0f7a4_28 rfl rfl ?_
  refine a_iadd (pc := 29) X dJ6_stringSize_0f7a4_29 ?_
  exact a_ireturn (pc := 30) X E rfl rfl (Nat.le_of_ble_eq_true rfl) (Nat.le_of_ble_eq_true rfl) dJ6_stringSize_0f7a4_30 ⟨rfl, _, rfl, by decide, rfl, by decide⟩
set_option maxHeartbeats 1000000 in
set_option maxRecDepth 100000 in
theorem sb_ss3 {S : ASt} {G : GH} {n : Nat} (hn : 100 ≤ n ∧ n < 1000) : Mt yJ6_stringSize_0f7a4 cJ6_stringSize_0f7a4 4 (some .int) 0 0 0 0 [vi (n : Int)] S G (fun v S' G' => S' = S ∧ qI (fun r G' => G' = G ∧ r = 3) v S' G') (fun E S' G' => S' = S ∧ False) := by
  refine Mt.of (l0 := [some (vi (n : Int)), none, none, none]) (by decide) (Nat.le_of_ble_eq_true rfl) rfl ?_
  intro κ δ ρ0 X E hG
  replace X : CX κ δ RJ6 cJ6_stringSize_0f7a4 4 (some .int) := X
  refine a_iconst (pc := 0) X dJ6_stringSize_0f7a4_0 ?_
  refine a_istore_n (pc := 1) (i := 1) X dJ6_stringSize_0f7a4_1 rfl (Nat.le_of_ble_eq_true rfl) rfl rfl ?_
  refine a_iload_n (pc := 2) X dJ6_stringSize_0f7a4_2 rfl rfl ?_
  refine a_if_lt (pc := 3) (tgt := 11) X dJ6_stringSize_0f7a4_3 rfl ⟨by omega, by omega⟩ (fun c9 => absurd c9 (by omega)) (fun c9 => ?_)
  refine a_iconst (pc := 6) X dJ6_stringSize_0f7a4_6 ?_
  refine a_istore_n (pc := 7) (i := 1) X dJ6_stringSize_0f7a4_7 rfl (Nat.le_of_ble_eq_true rfl) rfl rfl ?_
  refine a_iload_n (pc := 8) X dJ6_stringSize_0f7a4_8 rfl rfl ?_
  refine a_ineg (pc := 9) X dJ6_stringSize_0f7a4_9 ?_
  refine a_istore_n (pc := 10) (i := 0) X dJ6_stringSize_0f7a4_10 rfl (Nat.le_of_ble_eq_true rfl) rfl rfl ?_
  refine a_bipush (pc := 11) X dJ6_stringSize_0f7a4_11 rfl ?_
  refine a_istore_n (pc := 13) (i := 2) X dJ6_stringSize_0f7a4_13 rfl (Nat.le_of_ble_eq_true rfl) rfl rfl ?_
  refine a_iconst (pc := 14) X dJ6_stringSize_0f7a4_14 ?_
  refine a_istore_n (pc := 15) (i := 3) X dJ6_stringSize_0f7a4_15 rfl (Nat.le_of_ble_eq_true rfl) rfl rfl ?_
  refine a_iload_n (pc := 16) X dJ6_stringSize_0f7a4_16 rfl rfl ?_
  refine a_bipush (pc := 17) X dJ6_stringSize_0f7a4_17 rfl ?_
  refine a_icmp_ge (pc := 19) (tgt := 42) X dJ6_stringSize_0f7a4_19 rfl ⟨by omega, by omega⟩ (by decide) (fun c9 => absurd c9 (by omega)) (fun c9 => ?_)
  refine a_iload_n (pc := 22) X dJ6_stringSize_0f7a4_22 rfl rfl ?_
  refine a_iload_n (pc := 23) X dJ6_stringSize_0f7a4_23 rfl rfl ?_
  refine a_icmp_le (pc := 24) (tgt := 31) X dJ6_stringSize_0f7a4_24 rfl ⟨by omega, by omega⟩ ⟨by omega, by omega⟩ (fun c9 => ?_) (fun c9 => absurd c9 (by omega))
  refine a_bipush (pc := 31) X dJ6_stringSize_0f7a4_31 rfl ?_
  refine a_iload_n (pc := 33) X dJ6_stringSize_0f7a4_33 rfl rfl ?_
  refine a_imul (pc := 34) X dJ6_stringSize_0f7a4_34 ?_
  refine a_istore_n (pc := 35) (i := 2) X dJ6_stringSize_0f7a4_35 rfl (Nat.le_of_ble_eq_true rfl) rfl rfl ?_
  refine a_iinc (pc := 36) X dJ6_stringSize_0f7a4_36 rfl (Nat.le_of_ble_eq_true rfl) rfl rfl ?_
  refine a_goto (pc := 39) (tgt := 16) X dJ6_stringSize_0f7a4_39 rfl ?_
  refine a_iload_n (pc := 16) X dJ6_stringSize_0f7a4_16 rfl rfl ?_
  refine a_bipush (pc := 17) X dJ6_stringSize_0f7a4_17 rfl ?_
  refine a_icmp_ge (pc := 19) (tgt := 42) X dJ6_stringSize_0f7a4_19 rfl ⟨by omega, by omega⟩ (by decide) (fun c9 => absurd c9 (by omega)) (fun c9 => ?_)
  refine a_iload_n (pc := 22) X dJ6_stringSize_0f7a4_22 rfl rfl ?_
  refine a_iload_n (pc := 23) X dJ6_stringSize_0f7a4_23 rfl rfl ?_
  refine a_icmp_le (pc := 24) (tgt := 31) X dJ6_stringSize_0f7a4_24 rfl ⟨by omega, by omega⟩ ⟨by omega, by omega⟩ (fun c9 => ?_) (fun c9 => absurd c9 (by omega))
  refine a_bipush (pc := 31) X dJ6_stringSize_0f7a4_31 rfl ?_
  refine a_iload_n (pc := 33) X dJ6_stringSize_0f7a4_33 rfl rfl ?_
  refine a_imul (pc := 34) X dJ6_stringSize_0f7a4_34 ?_
  refine a_istore_n (pc := 35) (i := 2) X dJ6_stringSize_0f7a4_35 rfl (Nat.le_of_ble_eq_true rfl) rfl rfl ?_
  refine a_iinc (pc := 36) X dJ6_stringSize_0f7a4_36 rfl (Nat.le_of_ble_eq_true rfl) rfl rfl ?_
  refine a_goto (pc := 39) (tgt := 16) X dJ6_stringSize_0f7a4_39 rfl ?_
  refine a_iload_n (pc := 16) X dJ6_stringSize_0f7a4_16 rfl rfl ?_
  refine a_bipush (pc := 17) X dJ6_stringSize_0f7a4_17 rfl ?_
  refine a_icmp_ge (pc := 19) (tgt := 42) X dJ6_stringSize_0f7a4_19 rfl ⟨by omega, by omega⟩ (by decide) (fun c9 => absurd c9 (by omega)) (fun c9 => ?_)
  refine a_iload_n (pc := 22) X dJ6_stringSize_0f7a4_22 rfl rfl ?_
  refine a_iload_n (pc := 23) X dJ6_stringSize_0f7a4_23 rfl rfl ?_
  refine a_icmp_le (pc := 24) (tgt := 31) X dJ6_stringSize_0f7a4_24 rfl ⟨by omega, by omega⟩ ⟨by omega, by omega⟩ (fun c9 => absurd c9 (by omega)) (fun c9 => ?_)
  refine a_iload_n (pc := 27) X dJ6_stringSize_0f7a4_27 rfl rfl ?_
  refine a_iload_n (pc := 28) X dJ6_stringSize_0f7a4_28 rfl rfl ?_
  refine a_iadd (pc := 29) X dJ6_stringSize_0f7a4_29 ?_
  exact a_ireturn (pc := 30) X E rfl rfl (Nat.le_of_ble_eq_true rfl) (Nat.le_of_ble_eq_true rfl) dJ6_stringSize_0f7a4_30 ⟨rfl, _, rfl, by decide, rfl, by decide⟩
theorem sb_ss {S : ASt} {G : GH} {n : Nat} (hn : n < 1000) : Mt yJ6_stringSize_0f7a4 cJ6_stringSize_0f7a4 4 (some .int) 0 0 0 0 [vi (n : Int)] S G (fun v S' G' => S' = S ∧ qI (fun r G' => G' = G ∧ r = ((dgs n).length : Int)) v S' G') (fun E S' G' => S' = S ∧ False) := by
  by_cases h1 : n < 10
  · rw [show (dgs n).length = 1 by unfold dgs; rw [if_pos h1]; rfl]; exact sb_ss1 h1
  · by_cases h2 : n < 100
    · rw [show (dgs n).length = 2 by unfold dgs; rw [if_neg h1, if_pos h2]; rfl]; exact sb_ss2 ⟨by omega, h2⟩
    · rw [show (dgs n).length = 3 by unfold dgs; rw [if_neg h1, if_neg h2]; rfl]; exact sb_ss3 ⟨by omega, hn⟩
set_option maxHeartbeats 1000000 in
set_option maxRecDepth 100000 in
theorem sb_gch1 {k n dp : Nat} {G : GH} (hn : n < 10) (hd9 : dp + 1 ≤ capN k) : Mt yJ6_getChars_ba4f3 cJ6_getChars_ba4f3 7 (some .int) 0 0 0 0 [vi (n : Int), vi ((dp : Int) + 1), vr (273 + k)] (SB k) G (fun v S' G' => S' = SB k ∧ qI (fun r G' => G' = pub G (273 + k) dp (dgs n)) v S' G') (fun E S' G' => S' = SB k ∧ False) := by
  refine Mt.of (l0 := [some (vi (n : Int)), some (vi ((dp : Int) + 1)), some (vr (273 + k)), none, none, none, none]) (by decide) (Nat.le_of_ble_eq_true rfl) rfl ?_
  intro κ δ ρ0 X E hG
  replace X : CX κ δ RJ6 cJ6_getChars_ba4f3 7 (some .int) := X
  have hcap := capN_rng k
  have hr0 := dgO_r n
  refine a_iload_n (pc := 0) X dJ6_getChars_ba4f3_0 rfl rfl ?_
  refine a_istore (pc := 1) X dJ6_getChars_ba4f3_1 (Nat.le_of_ble_eq_true rfl) rfl rfl ?_
  refine a_iload_n (pc := 3) X dJ6_getChars_ba4f3_3 rfl rfl ?_
  refine a_if_ge (pc := 4) (tgt := 11) X dJ6_getChars_ba4f3_4 rfl ⟨by omega, by omega⟩ (fun c9 => ?_) (fun c9 => absurd c9 (by omega))
  refine a_iconst (pc := 11) X dJ6_getChars_ba4f3_11 ?_
  refine a_istore (pc := 12) X dJ6_getChars_ba4f3_12 (Nat.le_of_ble_eq_true rfl) rfl rfl ?_
  refine a_iload (pc := 14) X dJ6_getChars_ba4f3_14 rfl ?_
  refine a_if_ne (pc := 16) (tgt := 22) X dJ6_getChars_ba4f3_16 rfl (by decide) (fun c9 => absurd rfl c9) (fun c9 => ?_)
  refine a_iload_n (pc := 19) X dJ6_getChars_ba4f3_19 rfl rfl ?_
  refine a_ineg (pc := 20) X dJ6_getChars_ba4f3_20 ?_
  refine a_istore_n (pc := 21) (i := 0) X dJ6_getChars_ba4f3_21 rfl (Nat.le_of_ble_eq_true rfl) rfl rfl ?_
  refine a_iload_n (pc := 22) X dJ6_getChars_ba4f3_22 rfl rfl ?_
  refine a_bipush (pc := 23) X dJ6_getChars_ba4f3_23 rfl ?_
  refine a_icmp_gt (pc := 25) (tgt := 72) X dJ6_getChars_ba4f3_25 rfl ⟨by omega, by omega⟩ (by decide) (fun c9 => ?_) (fun c9 => absurd c9 (by omega))
  refine a_aload_n (pc := 72) X dJ6_getChars_ba4f3_72 rfl rfl ?_
  refine a_iinc (pc := 73) X dJ6_getChars_ba4f3_73 rfl (Nat.le_of_ble_eq_true rfl) rfl rfl ?_
  refine a_iload (pc := 76) X dJ6_getChars_ba4f3_76 rfl ?_
  refine b_ones (pc := 78) X wF_J6_83 dJ6_getChars_ba4f3_78 ?_
  refine a_iload_n (pc := 81) X dJ6_getChars_ba4f3_81 rfl rfl ?_
  refine a_ineg (pc := 82) X dJ6_getChars_ba4f3_82 ?_
  rw [Int.neg_neg]
  refine b_onesAt (pc := 83) (i := n) X (by omega) dJ6_getChars_ba4f3_83 ?_
  refine a_bast (pc := 84) (j := dp) (v := dgO n) X (sb_ar k) (by omega) (by omega) (by omega) ⟨by omega, by omega⟩ (byte_nar (dgO_r n)) dJ6_getChars_ba4f3_84 (fun _ => ?_)
  refine a_iload_n (pc := 85) X dJ6_getChars_ba4f3_85 rfl rfl ?_
  refine a_bipush (pc := 86) X dJ6_getChars_ba4f3_86 rfl ?_
  refine a_icmp_ge (pc := 88) (tgt := 104) X dJ6_getChars_ba4f3_88 rfl ⟨by omega, by omega⟩ (by decide) (fun c9 => ?_) (fun c9 => absurd c9 (by omega))
  refine a_iload (pc := 104) X dJ6_getChars_ba4f3_104 rfl ?_
  refine a_if_eq (pc := 106) (tgt := 118) X dJ6_getChars_ba4f3_106 rfl (by decide) (fun c9 => ?_) (fun c9 => absurd rfl c9)
  refine a_iload (pc := 118) X dJ6_getChars_ba4f3_118 rfl ?_
  exact a_ireturn (pc := 120) X E rfl rfl (Nat.le_of_ble_eq_true rfl) (Nat.le_of_ble_eq_true rfl) dJ6_getChars_ba4f3_120 ⟨rfl, _, rfl, ⟨by omega, by omega⟩, by unfold dgs; rw [if_pos hn]; exact pub_1⟩
set_option maxHeartbeats 1000000 in
set_option maxRecDepth 100000 in
theorem sb_gch2 {k n dp : Nat} {G : GH} (hn : 10 ≤ n ∧ n < 100) (hd9 : dp + 2 ≤ capN k) : Mt yJ6_getChars_ba4f3 cJ6_getChars_ba4f3 7 (some .int) 0 0 0 0 [vi (n : Int), vi ((dp : Int) + 2), vr (273 + k)] (SB k) G (fun v S' G' => S' = SB k ∧ qI (fun r G' => G' = pub G (273 + k) dp (dgs n)) v S' G') (fun E S' G' => S' = SB k ∧ False) := by
  refine Mt.of (l0 := [some (vi (n : Int)), some (vi ((dp : Int) + 2)), some (vr (273 + k)), none, none, none, none]) (by decide) (Nat.le_of_ble_eq_true rfl) rfl ?_
  intro κ δ ρ0 X E hG
  replace X : CX κ δ RJ6 cJ6_getChars_ba4f3 7 (some .int) := X
  have hcap := capN_rng k
  have hr0 := dgO_r n
  have hr1 := dgT_r hn.2
  refine a_iload_n (pc := 0) X dJ6_getChars_ba4f3_0 rfl rfl ?_
  refine a_istore (pc := 1) X dJ6_getChars_ba4f3_1 (Nat.le_of_ble_eq_true rfl) rfl rfl ?_
  refine a_iload_n (pc := 3) X dJ6_getChars_ba4f3_3 rfl rfl ?_
  refine a_if_ge (pc := 4) (tgt := 11) X dJ6_getChars_ba4f3_4 rfl ⟨by omega, by omega⟩ (fun c9 => ?_) (fun c9 => absurd c9 (by omega))
  refine a_iconst (pc := 11) X dJ6_getChars_ba4f3_11 ?_
  refine a_istore (pc := 12) X dJ6_getChars_ba4f3_12 (Nat.le_of_ble_eq_true rfl) rfl rfl ?_
  refine a_iload (pc := 14) X dJ6_getChars_ba4f3_14 rfl ?_
  refine a_if_ne (pc := 16) (tgt := 22) X dJ6_getChars_ba4f3_16 rfl (by decide) (fun c9 => absurd rfl c9) (fun c9 => ?_)
  refine a_iload_n (pc := 19) X dJ6_getChars_ba4f3_19 rfl rfl ?_
  refine a_ineg (pc := 20) X dJ6_getChars_ba4f3_20 ?_
  refine a_istore_n (pc := 21) (i := 0) X dJ6_getChars_ba4f3_21 rfl (Nat.le_of_ble_eq_true rfl) rfl rfl ?_
  refine a_iload_n (pc := 22) X dJ6_getChars_ba4f3_22 rfl rfl ?_
  refine a_bipush (pc := 23) X dJ6_getChars_ba4f3_23 rfl ?_
  refine a_icmp_gt (pc := 25) (tgt := 72) X dJ6_getChars_ba4f3_25 rfl ⟨by omega, by omega⟩ (by decide) (fun c9 => ?_) (fun c9 => absurd c9 (by omega))
  refine a_aload_n (pc := 72) X dJ6_getChars_ba4f3_72 rfl rfl ?_
  refine a_iinc (pc := 73) X dJ6_getChars_ba4f3_73 rfl (Nat.le_of_ble_eq_true rfl) rfl rfl ?_
  refine a_iload (pc := 76) X dJ6_getChars_ba4f3_76 rfl ?_
  refine b_ones (pc := 78) X wF_J6_83 dJ6_getChars_ba4f3_78 ?_
  refine a_iload_n (pc := 81) X dJ6_getChars_ba4f3_81 rfl rfl ?_
  refine a_ineg (pc := 82) X dJ6_getChars_ba4f3_82 ?_
  rw [Int.neg_neg]
  refine b_onesAt (pc := 83) (i := n) X (by omega) dJ6_getChars_ba4f3_83 ?_
  refine a_bast (pc := 84) (j := dp + 1) (v := dgO n) X (sb_ar k) (by omega) (by omega) (by omega) ⟨by omega, by omega⟩ (byte_nar (dgO_r n)) dJ6_getChars_ba4f3_84 (fun _ => ?_)
  refine a_iload_n (pc := 85) X dJ6_getChars_ba4f3_85 rfl rfl ?_
  refine a_bipush (pc := 86) X dJ6_getChars_ba4f3_86 rfl ?_
  refine a_icmp_ge (pc := 88) (tgt := 104) X dJ6_getChars_ba4f3_88 rfl ⟨by omega, by omega⟩ (by decide) (fun c9 => absurd c9 (by omega)) (fun c9 => ?_)
  refine a_aload_n (pc := 91) X dJ6_getChars_ba4f3_91 rfl rfl ?_
  refine a_iinc (pc := 92) X dJ6_getChars_ba4f3_92 rfl (Nat.le_of_ble_eq_true rfl) rfl rfl ?_
  refine a_iload (pc := 95) X dJ6_getChars_ba4f3_95 rfl ?_
  refine b_tens (pc := 97) X wF_J6_87 dJ6_getChars_ba4f3_97 ?_
  refine a_iload_n (pc := 100) X dJ6_getChars_ba4f3_100 rfl rfl ?_
  refine a_ineg (pc := 101) X dJ6_getChars_ba4f3_101 ?_
  rw [Int.neg_neg]
  refine b_tensAt (pc := 102) (i := n) X (by omega) dJ6_getChars_ba4f3_102 ?_
  refine a_bast (pc := 103) (j := dp) (v := dgT n) X (sb_ar k) (by omega) (by omega) (by omega) ⟨by omega, by omega⟩ (byte_nar (dgT_r hn.2)) dJ6_getChars_ba4f3_103 (fun _ => ?_)
  refine a_iload (pc := 104) X dJ6_getChars_ba4f3_104 rfl ?_
  refine a_if_eq (pc := 106) (tgt := 118) X dJ6_getChars_ba4f3_106 rfl (by decide) (fun c9 => ?_) (fun c9 => absurd rfl c9)
  refine a_iload (pc := 118) X dJ6_getChars_ba4f3_118 rfl ?_
  exact a_ireturn (pc := 120) X E rfl rfl (Nat.le_of_ble_eq_true rfl) (Nat.le_of_ble_eq_true rfl) dJ6_getChars_ba4f3_120 ⟨rfl, _, rfl, ⟨by omega, by omega⟩, by unfold dgs; rw [if_neg (by omega), if_pos hn.2, pub_1 (dp := dp + 1), pub_c]⟩
set_option maxHeartbeats 1000000 in
set_option maxRecDepth 100000 in
theorem sb_gch3 {k n dp : Nat} {G : GH} (hn : 100 ≤ n ∧ n < 1000) (hd9 : dp + 3 ≤ capN k) : Mt yJ6_getChars_ba4f3 cJ6_getChars_ba4f3 7 (some .int) 0 0 0 0 [vi (n : Int), vi ((dp : Int) + 3), vr (273 + k)] (SB k) G (fun v S' G' => S' = SB k ∧ qI (fun r G' => G' = pub G (273 + k) dp (dgs n)) v S' G') (fun E S' G' => S' = SB k ∧ False) := by
  refine Mt.of (l0 := [some (vi (n : Int)), some (vi ((dp : Int) + 3)), some (vr (273 + k)), none, none, none, none]) (by decide) (Nat.le_of_ble_eq_true rfl) rfl ?_
  intro κ δ ρ0 X E hG
  replace X : CX κ δ RJ6 cJ6_getChars_ba4f3 7 (some .int) := X
  have hcap := capN_rng k
  have hr0 := dgO_r (n % 100)
  have hr1 := dgT_r (show n % 100 < 100 by omega)
  have hr2 := dgO_r (n / 100)
  refine a_iload_n (pc := 0) X dJ6_getChars_ba4f3_0 rfl rfl ?_
  refine a_istore (pc := 1) X dJ6_getChars_ba4f3_1 (Nat.le_of_ble_eq_true rfl) rfl rfl ?_
  refine a_iload_n (pc := 3) X dJ6_getChars_ba4f3_3 rfl rfl ?_
  refine a_if_ge (pc := 4) (tgt := 11) X dJ6_getChars_ba4f3_4 rfl ⟨by omega, by omega⟩ (fun c9 => ?_) (fun c9 => absurd c9 (by omega))
  refine a_iconst (pc := 11) X dJ6_getChars_ba4f3_11 ?_
  refine a_istore (pc := 12) X dJ6_getChars_ba4f3_12 (Nat.le_of_ble_eq_true rfl) rfl rfl ?_
  refine a_iload (pc := 14) X dJ6_getChars_ba4f3_14 rfl ?_
  refine a_if_ne (pc := 16) (tgt := 22) X dJ6_getChars_ba4f3_16 rfl (by decide) (fun c9 => absurd rfl c9) (fun c9 => ?_)
  refine a_iload_n (pc := 19) X dJ6_getChars_ba4f3_19 rfl rfl ?_
  refine a_ineg (pc := 20) X dJ6_getChars_ba4f3_20 ?_
  refine a_istore_n (pc := 21) (i := 0) X dJ6_getChars_ba4f3_21 rfl (Nat.le_of_ble_eq_true rfl) rfl rfl ?_
  refine a_iload_n (pc := 22) X dJ6_getChars_ba4f3_22 rfl rfl ?_
  refine a_bipush (pc := 23) X dJ6_getChars_ba4f3_23 rfl ?_
  refine a_icmp_gt (pc := 25) (tgt := 72) X dJ6_getChars_ba4f3_25 rfl ⟨by omega, by omega⟩ (by decide) (fun c9 => absurd c9 (by omega)) (fun c9 => ?_)
  refine a_iload_n (pc := 28) X dJ6_getChars_ba4f3_28 rfl rfl ?_
  refine a_bipush (pc := 29) X dJ6_getChars_ba4f3_29 rfl ?_
  refine a_idivS (pc := 31) X dJ6_getChars_ba4f3_31 ⟨by omega, by omega⟩ (by decide) ?_
  rw [show (-(n : Int)).tdiv 100 = -((n / 100 : Nat) : Int) by rw [Int.neg_tdiv, Int.tdiv_eq_ediv_of_nonneg (by omega)]; omega]
  refine a_istore_n (pc := 32) (i := 3) X dJ6_getChars_ba4f3_32 rfl (Nat.le_of_ble_eq_true rfl) rfl rfl ?_
  refine a_iload_n (pc := 33) X dJ6_getChars_ba4f3_33 rfl rfl ?_
  refine a_bipush (pc := 34) X dJ6_getChars_ba4f3_34 rfl ?_
  refine a_imul (pc := 36) X dJ6_getChars_ba4f3_36 ?_
  refine a_iload_n (pc := 37) X dJ6_getChars_ba4f3_37 rfl rfl ?_
  refine a_isub (pc := 38) X dJ6_getChars_ba4f3_38 ?_
  rw [show -((n / 100 : Nat) : Int) * 100 - -(n : Int) = ((n % 100 : Nat) : Int) by omega]
  refine a_istore (pc := 39) X dJ6_getChars_ba4f3_39 (Nat.le_of_ble_eq_true rfl) rfl rfl ?_
  refine a_iload_n (pc := 41) X dJ6_getChars_ba4f3_41 rfl rfl ?_
  refine a_istore_n (pc := 42) (i := 0) X dJ6_getChars_ba4f3_42 rfl (Nat.le_of_ble_eq_true rfl) rfl rfl ?_
  refine a_aload_n (pc := 43) X dJ6_getChars_ba4f3_43 rfl rfl ?_
  refine a_iinc (pc := 44) X dJ6_getChars_ba4f3_44 rfl (Nat.le_of_ble_eq_true rfl) rfl rfl ?_
  refine a_iload (pc := 47) X dJ6_getChars_ba4f3_47 rfl ?_
  refine b_ones (pc := 49) X wF_J6_83 dJ6_getChars_ba4f3_49 ?_
  refine a_iload (pc := 52) X dJ6_getChars_ba4f3_52 rfl ?_
  refine b_onesAt (pc := 54) (i := n % 100) X (by omega) dJ6_getChars_ba4f3_54 ?_
  refine a_bast (pc := 55) (j := dp + 1 + 1) (v := dgO (n % 100)) X (sb_ar k) (by omega) (by omega) (by omega) ⟨by omega, by omega⟩ (byte_nar (dgO_r _)) dJ6_getChars_ba4f3_55 (fun _ => ?_)
  refine a_aload_n (pc := 56) X dJ6_getChars_ba4f3_56 rfl rfl ?_
  refine a_iinc (pc := 57) X dJ6_getChars_ba4f3_57 rfl (Nat.le_of_ble_eq_true rfl) rfl rfl ?_
  refine a_iload (pc := 60) X dJ6_getChars_ba4f3_60 rfl ?_
  refine b_tens (pc := 62) X wF_J6_87 dJ6_getChars_ba4f3_62 ?_
  refine a_iload (pc := 65) X dJ6_getChars_ba4f3_65 rfl ?_
  refine b_tensAt (pc := 67) (i := n % 100) X (by omega) dJ6_getChars_ba4f3_67 ?_
  refine a_bast (pc := 68) (j := dp + 1) (v := dgT (n % 100)) X (sb_ar k) (by omega) (by omega) (by omega) ⟨by omega, by omega⟩ (byte_nar (dgT_r (by omega))) dJ6_getChars_ba4f3_68 (fun _ => ?_)
  refine a_goto (pc := 69) (tgt := 22) X dJ6_getChars_ba4f3_69 rfl ?_
  refine a_iload_n (pc := 22) X dJ6_getChars_ba4f3_22 rfl rfl ?_
  refine a_bipush (pc := 23) X dJ6_getChars_ba4f3_23 rfl ?_
  refine a_icmp_gt (pc := 25) (tgt := 72) X dJ6_getChars_ba4f3_25 rfl ⟨by omega, by omega⟩ (by decide) (fun c9 => ?_) (fun c9 => absurd c9 (by omega))
  refine a_aload_n (pc := 72) X dJ6_getChars_ba4f3_72 rfl rfl ?_
  refine a_iinc (pc := 73) X dJ6_getChars_ba4f3_73 rfl (Nat.le_of_ble_eq_true rfl) rfl rfl ?_
  refine a_iload (pc := 76) X dJ6_getChars_ba4f3_76 rfl ?_
  refine b_ones (pc := 78) X wF_J6_83 dJ6_getChars_ba4f3_78 ?_
  refine a_iload_n (pc := 81) X dJ6_getChars_ba4f3_81 rfl rfl ?_
  refine a_ineg (pc := 82) X dJ6_getChars_ba4f3_82 ?_
  rw [Int.neg_neg]
  refine b_onesAt (pc := 83) (i := n / 100) X (by omega) dJ6_getChars_ba4f3_83 ?_
  refine a_bast (pc := 84) (j := dp) (v := dgO (n / 100)) X (sb_ar k) (by omega) (by omega) (by omega) ⟨by omega, by omega⟩ (byte_nar (dgO_r _)) dJ6_getChars_ba4f3_84 (fun _ => ?_)
  refine a_iload_n (pc := 85) X dJ6_getChars_ba4f3_85 rfl rfl ?_
  refine a_bipush (pc := 86) X dJ6_getChars_ba4f3_86 rfl ?_
  refine a_icmp_ge (pc := 88) (tgt := 104) X dJ6_getChars_ba4f3_88 rfl ⟨by omega, by omega⟩ (by decide) (fun c9 => ?_) (fun c9 => absurd c9 (by omega))
  refine a_iload (pc := 104) X dJ6_getChars_ba4f3_104 rfl ?_
  refine a_if_eq (pc := 106) (tgt := 118) X dJ6_getChars_ba4f3_106 rfl (by decide) (fun c9 => ?_) (fun c9 => absurd rfl c9)
  refine a_iload (pc := 118) X dJ6_getChars_ba4f3_118 rfl ?_
  exact a_ireturn (pc := 120) X E rfl rfl (Nat.le_of_ble_eq_true rfl) (Nat.le_of_ble_eq_true rfl) dJ6_getChars_ba4f3_120 ⟨rfl, _, rfl, ⟨by omega, by omega⟩, by unfold dgs; rw [if_neg (by omega), if_neg (by omega), pub_1 (dp := dp + 1 + 1), pub_c (dp := dp + 1), pub_c]⟩
theorem sb_gch {k n dp : Nat} {G : GH} (hn : n < 1000) (hd9 : dp + (dgs n).length ≤ capN k) : Mt yJ6_getChars_ba4f3 cJ6_getChars_ba4f3 7 (some .int) 0 0 0 0 [vi (n : Int), vi ((dp : Int) + ((dgs n).length : Int)), vr (273 + k)] (SB k) G (fun v S' G' => S' = SB k ∧ qI (fun r G' => G' = pub G (273 + k) dp (dgs n)) v S' G') (fun E S' G' => S' = SB k ∧ False) := by
  by_cases h1 : n < 10
  · have e : (dgs n).length = 1 := by unfold dgs; rw [if_pos h1]; rfl
    rw [e] at hd9 ⊢; exact sb_gch1 h1 hd9
  · by_cases h2 : n < 100
    · have e : (dgs n).length = 2 := by unfold dgs; rw [if_neg h1, if_pos h2]; rfl
      rw [e] at hd9 ⊢; exact sb_gch2 ⟨by omega, h2⟩ hd9
    · have e : (dgs n).length = 3 := by unfold dgs; rw [if_neg h1, if_neg h2]; rfl
      rw [e] at hd9 ⊢; exact sb_gch3 ⟨by omega, hn⟩ hd9
set_option maxHeartbeats 1000000 in
set_option maxRecDepth 100000 in
theorem sb_apI5 {k n : Nat} {G : GH} {t : List Int} (hk : k ≤ 4) (hn9 : n < 1000) (B : BTx k G t) (ht : t.length ≤ 372) : Mt yJ5_append_c97b9 cJ5_append_c97b9 4 (some (.object "java/lang/AbstractStringBuilder")) 4 88 1 382 [vr 272, vi (n : Int)] (SB k) G (ApQ k G t (dgs n)) noX := by
  refine Mt.of (l0 := [some (vr 272), some (vi (n : Int)), none, none]) (by decide) (Nat.le_of_ble_eq_true rfl) rfl ?_
  intro κ δ ρ0 X E hG
  replace X : CX κ δ RJ5 cJ5_append_c97b9 4 (some (.object "java/lang/AbstractStringBuilder")) := X
  have hB := B
  obtain ⟨hc, hn, hl9, -, hb9⟩ := B
  have hcap := capN_rng k
  have hdl := dgs_len n
  refine a_aload_n (pc := 0) X dJ5_append_c97b9_0 rfl rfl ?_
  refine a_getI (pc := 1) X okJ4 3 rfl wF_J5_79 (sb_is k) dJ5_append_c97b9_1 ?_
  rw [hn]
  refine a_istore_n (pc := 4) (i := 2) X dJ5_append_c97b9_4 rfl (Nat.le_of_ble_eq_true rfl) rfl rfl ?_
  refine a_iload_n (pc := 5) X dJ5_append_c97b9_5 rfl rfl ?_
  refine a_iload_n (pc := 6) X dJ5_append_c97b9_6 rfl rfl ?_
  refine a_callS (pc := 7) X E (sb_ss hn9) wM_J5_245 w_static_J6_stringSize_0f7a4 w_initialized_RJ6 w_code_J6_stringSize_0f7a4 cpB_ss pnB_ss rfl (Nat.le_of_ble_eq_true rfl) ⟨Nat.le_of_ble_eq_true rfl, Nat.le_of_ble_eq_true rfl⟩ ⟨Nat.le_of_ble_eq_true rfl, Nat.le_of_ble_eq_true rfl⟩ dJ5_append_c97b9_7 (fun _ _ q => False.elim q) (kIp (fun r hr h => ?_))
  subst h
  refine a_iadd (pc := 10) X dJ5_append_c97b9_10 ?_
  refine a_istore_n (pc := 11) (i := 3) X dJ5_append_c97b9_11 rfl (Nat.le_of_ble_eq_true rfl) rfl rfl ?_
  refine a_aload_n (pc := 12) X dJ5_append_c97b9_12 rfl rfl ?_
  refine a_iload_n (pc := 13) X dJ5_append_c97b9_13 rfl rfl ?_
  refine g_callV (pc := 14) X E.rm (sb_ens (m := (t.length : Int) + ((dgs n).length : Int)) hk hB ⟨by omega, by omega⟩ (by omega)) (Nat.le_refl _) (by first | rfl | (simp [rltB, vi, vq, vl] <;> (try unfold strB) <;> omega)) (by first | rfl | (simp [rltB, vi, vq, vl] <;> (try unfold strB) <;> omega)) (by rintro v S' G' ⟨-, k', h1, -, rfl, -⟩; show 273 + (k + 1) ≤ 273 + (k' + 1); omega) okJ4 (sb_is k) wM_J5_100 w_instanceMethod_J5_ensureCapacityInternal_d00df w_selB_J5_ensureCapacityInternal_d00df w_initialized_RJ5 w_code_J5_ensureCapacityInternal_d00df cpB_ens pnB_ens rfl (Nat.le_of_ble_eq_true rfl) ⟨Nat.le_of_ble_eq_true rfl, Nat.le_of_ble_eq_true rfl⟩ ⟨by omega, by omega⟩ dJ5_append_c97b9_14 (fun v S' G' q hG' => ?_)
  obtain ⟨rfl, k1, hk1, hk14, rfl, B1, hm1, hL1⟩ := q
  clear hc hn hb9
  have hcap1 := capN_rng k1
  have hB1 := B1
  obtain ⟨hc, hn, hl9, -, hb9⟩ := B1
  refine a_aload_n (pc := 17) X dJ5_append_c97b9_17 rfl rfl ?_
  refine a_callV (pc := 18) X E (sb_isL hc) okJ4 (sb_is k1) wM_J5_83 w_instanceMethod_J5_isLatin1_aae02 w_selB_J5_isLatin1_aae02 w_initialized_RJ5 w_code_J5_isLatin1_aae02 cpB_isL pnB_isL rfl (Nat.le_of_ble_eq_true rfl) ⟨Nat.le_of_ble_eq_true rfl, Nat.le_of_ble_eq_true rfl⟩ ⟨by omega, by omega⟩ dJ5_append_c97b9_18 (fun _ _ q => False.elim q) (kIp (fun r hr h => ?_))
  subst h
  refine a_if_eq (pc := 21) (tgt := 37) X dJ5_append_c97b9_21 rfl (by decide) (fun c9 => absurd c9 (by decide)) (fun c9 => ?_)
  refine a_iload_n (pc := 24) X dJ5_append_c97b9_24 rfl rfl ?_
  refine a_iload_n (pc := 25) X dJ5_append_c97b9_25 rfl rfl ?_
  refine a_aload_n (pc := 26) X dJ5_append_c97b9_26 rfl rfl ?_
  refine a_getR (pc := 27) (q := 273 + k1) X okJ4 0 rfl wF_J5_15 (sb_is k1) (sb_rf k1) dJ5_append_c97b9_27 ?_
  refine a_callS (pc := 30) X E (sb_gch hn9 (by omega)) wM_J5_248 w_static_J6_getChars_ba4f3 w_initialized_RJ6 w_code_J6_getChars_ba4f3 cpB_gch pnB_gch rfl (Nat.le_of_ble_eq_true rfl) ⟨Nat.le_of_ble_eq_true rfl, Nat.le_of_ble_eq_true rfl⟩ ⟨by omega, by omega⟩ dJ5_append_c97b9_30 (fun _ _ q => False.elim q) (kI (fun r G2 hr h hG2 => ?_))
  subst h
  refine a_pop (pc := 33) X dJ5_append_c97b9_33 rfl ?_
  refine a_goto (pc := 34) (tgt := 48) X dJ5_append_c97b9_34 rfl ?_
  refine a_aload_n (pc := 48) X dJ5_append_c97b9_48 rfl rfl ?_
  refine a_iload_n (pc := 49) X dJ5_append_c97b9_49 rfl rfl ?_
  refine a_putI (pc := 50) X okJ4 3 rfl rfl wF_J5_79 (sb_is k1) dJ5_append_c97b9_50 ⟨by omega, by omega⟩ (fit_int _) (fun hG3 => ?_)
  refine a_aload_n (pc := 53) X dJ5_append_c97b9_53 rfl rfl ?_
  exact a_areturn (pc := 54) X E rfl (Or.inl ⟨_, rfl⟩) (by omega) (by omega) dJ5_append_c97b9_54 ⟨rfl, k1, hk1, hk14, rfl, hB1.put (dgs_ok n) (by omega) rfl, LowH.put.tr hL1⟩
set_option maxHeartbeats 1000000 in
set_option maxRecDepth 100000 in
theorem sb_apI4 {k n : Nat} {G : GH} {t : List Int} (hk : k ≤ 4) (hn9 : n < 1000) (B : BTx k G t) (ht : t.length ≤ 372) : Mt yJ4_append_bf812 cJ4_append_bf812 2 (some (.object "java/lang/StringBuilder")) 5 111 1 382 [vr 272, vi (n : Int)] (SB k) G (ApQ k G t (dgs n)) noX := by
  refine Mt.of (l0 := [some (vr 272), some (vi (n : Int))]) (by decide) (Nat.le_of_ble_eq_true rfl) rfl ?_
  intro κ δ ρ0 X E hG
  replace X : CX κ δ RJ4 cJ4_append_bf812 2 (some (.object "java/lang/StringBuilder")) := X
  refine a_aload_n (pc := 0) X dJ4_append_bf812_0 rfl rfl ?_
  refine a_iload_n (pc := 1) X dJ4_append_bf812_1 rfl rfl ?_
  refine g_callSU (pc := 2) X E.rm (sb_apI5 hk hn9 B ht) (Nat.le_refl _) (by first | rfl | (simp [rltB, vi, vq, vl] <;> (try unfold strB) <;> omega)) (by first | rfl | (simp [rltB, vi, vq, vl] <;> (try unfold strB) <;> omega)) ApQ_ge okJ4 (sb_is k) wM_J4_53 w_same_J5_append_c97b9 w_superclass_RJ4 w_instanceMethod_J5_append_c97b9 w_initialized_RJ5 w_code_J5_append_c97b9 ⟨by decide +kernel, pnB_apI5⟩ rfl (Nat.le_of_ble_eq_true rfl) ⟨Nat.le_of_ble_eq_true rfl, Nat.le_of_ble_eq_true rfl⟩ ⟨by omega, by omega⟩ dJ4_append_bf812_2 (fun v S' G' q hG' => ?_)
  obtain ⟨rfl, k1, hk1, hk14, rfl, B1, hL1⟩ := q
  refine a_pop (pc := 5) X dJ4_append_bf812_5 rfl ?_
  refine a_aload_n (pc := 6) X dJ4_append_bf812_6 rfl rfl ?_
  exact a_areturn (pc := 7) X E rfl (Or.inl ⟨_, rfl⟩) (by omega) (by omega) dJ4_append_bf812_7 ⟨rfl, k1, hk1, hk14, rfl, B1, hL1⟩
end SBW2

-- ===== the whole text: written by wip/p51/mktext.py =====
theorem cellOf_mv {dA : Nat → ClassId} {ρ ρ' : Nat → Nat} {S S' : ASt} {G G' : GH} {a a' : Nat} (hsh : S.2.1 a = S'.2.1 a') (hG : ∀ j, G a j = G' a' j) (hrf : ∀ j, (S.2.2 a j).map ρ = (S'.2.2 a' j).map ρ') : cellOf dA ρ S G a = cellOf dA ρ' S' G' a' := by
  have h2 : G a = G' a' := funext hG
  unfold cellOf
  rw [← hsh]
  cases S.2.1 a with
  | inr ci => simp [fvals, h2, hrf]
  | inl q => simp [avals, h2, hrf]
theorem rfX_272 {j : Nat} : rfX 272 j = if j = 0 then some 273 else none := by
  unfold rfX
  by_cases h : j = 0
  · subst h; rfl
  · rw [if_neg h]
    first | (rw [if_neg (by omega)]; exact rfF_hi (Nat.le_refl _)) | (rw [if_neg (fun q => h q.2)]; exact rfF_hi (Nat.le_refl _))
section TXB
variable {κ : Cx} {δ : Dx} {own : String} {b : ByteArray} {nL : Nat} {ret : Option FieldType} {ρ0 : Nat → Nat} {cb sb pc fr lo mc ms : Nat} {l : AL} {G : GH} {Qr : Option AV → ASt → GH → Prop} {Qx : String → ASt → GH → Prop}
/-- the String is given back; the builder is forgotten -/
theorem a_areturnT (X : CX κ δ own b nL ret) (E : EndR κ δ ρ0 272 fr lo mc ms Qr Qx) {k m : Nat} {rt : FieldType} (hret : ret = some rt) (hrt : (∃ n, rt = .object n) ∨ ∃ t, rt = .array t) (hc : cb ≤ mc) (hs : sb ≤ ms) (hd : decode b pc = .ok (.areturn, 1))
    (hq : ∀ G9 : GH, (∀ a, a < 272 → ∀ j, G9 a j = G a j) → (∀ j, G9 272 j = G (273 + (k + 1)) j) → (∀ j, G9 273 j = G (273 + (k + 1) + 1) j) → Qr (some (vr 272)) (SF (1000 + m)) G9) : AW κ δ ρ0 272 nL cb sb pc l [vr (273 + (k + 1))] (273 + (k + 1) + 1 + 1, shT k m, rfT k) G := by
  obtain ⟨p, lc, e, R, s, m9, args, below, meth, c, Q⟩ := κ
  obtain ⟨hx, hb, hml, hown, hts, hr, hlk, hK, hN, hA, htr⟩ := X
  obtain ⟨rfl, -, -⟩ := E
  intro ρ H locs ls h1 h2 h3 h4
  refine W.widen hc hs (vx_ret ?_)
  refine W.aret hx hb (hr.trans hret) hrt (Or.inr ⟨ρ (273 + (k + 1)), rfl⟩) (fun t ht hW => ?_) (fun q hq => h3.2.2 q hq) hd hlk
  obtain ⟨ρ', hρ⟩ : ∃ ρ' : Nat → Nat, ρ' = fun a => if a = 272 then ρ (273 + (k + 1)) else if a = 273 then ρ (273 + (k + 1) + 1) else ρ0 a := ⟨_, rfl⟩
  obtain ⟨G9, hG9⟩ : ∃ G9 : GH, G9 = fun a j => if a = 272 then G (273 + (k + 1)) j else if a = 273 then G (273 + (k + 1) + 1) j else G a j := ⟨_, rfl⟩
  have r2 : ρ' 272 = ρ (273 + (k + 1)) := by rw [hρ]; exact if_pos rfl
  have r3 : ρ' 273 = ρ (273 + (k + 1) + 1) := by rw [hρ]; rfl
  have r0 : ∀ a, a ≠ 272 → a ≠ 273 → ρ' a = ρ0 a := fun a h h' => by rw [hρ]; simp only [if_neg h, if_neg h']
  have r1 : ∀ a, a < 272 → ρ' a = ρ a := fun a h => (r0 a (by omega) (by omega)).trans (h1 a (by omega)).symm
  have g2 : ∀ j, G9 272 j = G (273 + (k + 1)) j := fun j => by rw [hG9]; exact if_pos rfl
  have g3 : ∀ j, G9 273 j = G (273 + (k + 1) + 1) j := fun j => by rw [hG9]; rfl
  have g1 : ∀ a, a < 272 → ∀ j, G9 a j = G a j := fun a h j => by rw [hG9]; simp only [if_neg (show a ≠ 272 by omega), if_neg (show a ≠ 273 by omega)]
  have sz : szF (1000 + m) = 274 := t_sz (by omega)
  have key : ∀ i, i < 274 → (ρ' i, cellOf δ.2.2.1 ρ' (SF (1000 + m)) G9 i) = (ρ (if i = 272 then 273 + (k + 1) else if i = 273 then 273 + (k + 1) + 1 else i), cellOf δ.2.2.1 ρ (273 + (k + 1) + 1 + 1, shT k m, rfT k) G (if i = 272 then 273 + (k + 1) else if i = 273 then 273 + (k + 1) + 1 else i)) := by
    intro i hi
    by_cases e2 : i = 272
    · subst e2
      rw [if_pos rfl, r2]
      refine congrArg _ (cellOf_mv ?_ g2 fun j => ?_)
      · exact shT_n.symm
      · show (rfX 272 j).map ρ' = (rfT k (273 + (k + 1)) j).map ρ
        rw [rfX_272]
        unfold rfT
        by_cases hj : j = 0
        · rw [if_pos hj, if_pos ⟨rfl, hj⟩]; exact congrArg some r3
        · rw [if_neg hj, if_neg (fun q => hj q.2), rfB_n]; rfl
    · by_cases e3 : i = 273
      · subst e3
        rw [if_neg e2, if_pos rfl, r3]
        refine congrArg _ ?_
        have ea : isAt (SF (1000 + m)) 273 (.inl (2, m)) := by
          have := t_ar (nn := 1000 + m) (by omega)
          rwa [show 1000 + m - 1000 = m by omega] at this
        unfold cellOf
        rw [ea.2]
        show _ = match shT k m (273 + (k + 1) + 1) with | .inr ci => _ | .inl (t, n) => _
        rw [shT_n1]
        show avals _ _ _ _ _ _ _ = avals _ _ _ _ _ _ _
        unfold avals
        simp only [if_neg (show ¬ (2 : Nat) = 3 by decide), if_neg (show ¬ (2 : Nat) = 4 by decide), g3]
      · have hlt : i < 272 := by omega
        rw [if_neg e2, if_neg e3, r1 i hlt]
        refine congrArg _ (cellOf_mv ?_ (g1 i hlt) fun j => ?_)
        · show shX (1000 + m) i = shT k m i
          rw [shX_lo hlt, shT_lo (by omega)]
          unfold shB
          rw [if_pos hlt]
        · show (rfX i j).map ρ' = (rfT k i j).map ρ
          rw [rfX_lo hlt]
          have e9 : rfT k i j = rfF i j := by
            unfold rfT rfB
            rw [if_neg (by omega), if_neg (by omega)]
          rw [e9]
          cases h : rfF i j with
          | none => rfl
          | some q => exact congrArg some (r1 q (rfF_lt h))
  have hat : ∀ (i : Nat) (q : Nat × va_E), (wl δ.2.2.1 ρ' (SF (1000 + m)) G9)[i]? = some q → i < 274 ∧ (wl δ.2.2.1 ρ (273 + (k + 1) + 1 + 1, shT k m, rfT k) G)[if i = 272 then 273 + (k + 1) else if i = 273 then 273 + (k + 1) + 1 else i]? = some q := by
    intro i q h
    have hlen : (wl δ.2.2.1 ρ' (SF (1000 + m)) G9).length = 274 := by unfold wl; rw [List.length_map, List.length_range]; exact sz
    have hi : i < 274 := by rw [← hlen]; exact (List.getElem?_eq_some_iff.mp h).1
    refine ⟨hi, ?_⟩
    rw [wl_at (by show i < szF _; rw [sz]; exact hi), key i hi] at h
    rw [wl_at (by show _ < 273 + (k + 1) + 1 + 1; (repeat' split) <;> omega)]
    exact h
  have hlen : (wl δ.2.2.1 ρ' (SF (1000 + m)) G9).length = 274 := by unfold wl; rw [List.length_map, List.length_range]; exact sz
  refine ⟨⟨some (vr 272), SF (1000 + m), G9, ρ', ?_, hq G9 g1 g2 g3, ?_, ?_⟩, h3.F ht⟩
  · show _ = Outcome.returned (some (Value.ref (ρ' 272)))
    rw [r2]
  · intro a ha
    have ha2 : ¬ (272 ≤ a ∧ a < 274) := by
      intro q; exact ha ⟨q.1, by show a < szF _; rw [sz]; exact q.2⟩
    exact r0 a (by omega) (by omega)
  · rw [ht]
    have hstr : 273 + (k + 1) + 1 + 1 ≤ strB := h2.2.2.1
    refine ⟨h2.1.by _ (fun i q h => (hat i q h).2), h2.2.1.by _ (fun i q h => (hat i q h).2) (fun i j hi hj h => ?_), ?_, ?_, h2.2.2.2.2.re fun a ha _ => ?_⟩
    · rw [hlen] at hi hj
      split at h <;> split at h <;> (try split at h) <;> (try split at h) <;> omega
    · show szF _ ≤ strB
      rw [sz]; decide
    · intro a j
      rw [hG9]
      simp only
      split
      · exact h2.2.2.2.1 _ _
      · split
        · exact h2.2.2.2.1 _ _
        · exact h2.2.2.2.1 _ _
    · have hb9 : strB = 1000000 := rfl
      rw [r0 a (by omega) (by omega)]
      refine (h1 a ?_).symm
      intro q
      have := q.2
      omega
end TXB
/-- what the law's text gives back -/
def TxQ (L : Nat) (xs : Nat → Int32) (G : GH) : Option AV → ASt → GH → Prop := fun v S' G' => v = some (vr 272) ∧ S' = SF (1000 + (txAll (cN L xs)).length) ∧ G' 272 1 = 0 ∧ (∀ i, i < (txAll (cN L xs)).length → G' 273 i = (txAll (cN L xs)).getD i 0) ∧ LowH G' G ∧ (txAll (cN L xs)).length ≤ 297
set_option maxHeartbeats 1000000 in
set_option maxRecDepth 100000 in
theorem m_L_text {L : Nat} {xs : Nat → Int32} {G : GH} : MtS L xs yL_text cL_text 4 (some (.object "java/lang/String")) 12 240 110 45000 [vr (strB + 60)] (SF 272) G (TxQ L xs G) noX := by
  refine MtS.of (l0 := [some (vr (strB + 60)), none, none, none]) (by decide) (Nat.le_of_ble_eq_true rfl) rfl ?_
  intro κ δ ρ0 X E hsc hG
  replace X : CX κ δ RL cL_text 4 (some (.object "java/lang/String")) := X
  replace E : EndR κ δ ρ0 272 12 240 110 45000 (TxQ L xs G) noX := E
  show AW κ δ ρ0 272 4 0 0 0 _ _ _ _
  have hc0 := cN_lt (L := L) (xs := xs) (i := 0)
  refine AW.congS (S' := (272, shB, rfF)) szF_272.symm (fun a ha => ?_) (fun a ha j => ?_) ?_
  · have ha' : a < 272 := ha
    show shB a = shX 272 a
    rw [shX_lo ha']
    exact if_pos ha'
  · have ha' : a < 272 := ha
    exact (rfX_lo ha').symm
  refine a_new (pc := 0) (n := 272) (sh := shB) (rf := rfF) X E.rm okJ4 wC_L_33 w_instantiable_RJ4 w_initialized_RJ4 fv_J4 rfl (fun _ => rfF_hi (Nat.le_refl _)) (rfF_fw (Nat.le_refl _)) (by decide) (Nat.le_refl _) rfl rfl ⟨Nat.le_of_ble_eq_true rfl, Nat.le_of_ble_eq_true rfl⟩ dL_text_0 ?_
  refine a_dup (pc := 3) X dL_text_3 rfl ?_
  refine b_ldcs (pc := 4) (i := 7) (text := "board ") X (by decide) dL_text_4 ?_
  refine g_callI (pc := 6) X E.rm (sb_in4 (G := zG G 272) (fun j => zG_eq)) (by decide) rfl rfl (by rintro v S' G' ⟨-, k', h1, rfl, -⟩; show 273 ≤ 273 + (k' + 1); omega) wM_L_37 w_instanceMethod_J4_init_a7421 w_initialized_RJ4 w_code_J4_init_a7421 cpB_in4 pnB_in4 rfl rfl (Nat.le_of_ble_eq_true rfl) ⟨Nat.le_of_ble_eq_true rfl, Nat.le_of_ble_eq_true rfl⟩ ⟨by omega, by omega⟩ dL_text_6 (fun v S' G1 q hG1 => ?_)
  obtain ⟨rfl, k, hk, rfl, B, hL0⟩ := q
  have hL : LowH G1 G := hL0.tr fun a h j => zG_ne (by omega)
  clear hL0
  have ht : (cT 7).length ≤ 6 := by decide
  refine a_iconst (pc := 9) X dL_text_9 ?_
  refine a_aload_n (pc := 10) X dL_text_10 rfl rfl ?_
  refine a_iconst (pc := 11) X dL_text_11 ?_
  refine tw_cell (pc := 12) X E hsc (0) (by omega) ⟨Nat.le_of_ble_eq_true rfl, Nat.le_of_ble_eq_true rfl⟩ (Nat.le_of_ble_eq_true rfl) ⟨by omega, by omega⟩ dL_text_12 ?_
  refine a_iconst (pc := 15) X dL_text_15 ?_
  refine n_irem (pc := 16) X 4 (by omega) (by decide) dL_text_16 ?_
  refine n_iadd (pc := 17) X (1) (cN L xs 0 % 4) dL_text_17 ?_
  refine tw_int (pc := 18) X E.rm (1 + cN L xs 0 % 4) (by omega) hk B ht (by omega) (Nat.le_refl _) rfl rfl ⟨Nat.le_of_ble_eq_true rfl, Nat.le_of_ble_eq_true rfl⟩ (Nat.le_of_ble_eq_true rfl) ⟨by omega, by omega⟩ dL_text_18 (fun k9 G9 hk9 B9 ht9 hL9 => ?_)
  have hLz := hL9.tr hL
  clear hk B ht hL hL9
  have hk := hk9
  have B := B9
  have ht := ht9
  have hL := hLz
  clear hk9 B9 ht9 hLz
  refine a_astore_n (pc := 21) (i := 1) X dL_text_21 rfl (Nat.le_of_ble_eq_true rfl) rfl rfl ?_
  -- behind the two services: the String
  have f9 : TW κ δ ρ0 G 102 258 297 (some (vi ((1 + 1 : Nat) : Int))) (some (vi ((cN L xs (25 + 1) % 5 : Nat) : Int))) [] (txAll (cN L xs)) := by
    intro k G2 hk B ht hL
    refine a_iload_n (pc := 258) X dL_text_258 rfl rfl ?_
    refine a_iconst (pc := 259) X dL_text_259 ?_
    refine a_icmp_ge (pc := 260) (tgt := 337) X dL_text_260 rfl (by decide) (by decide) (fun _ => ?_) (fun c9 => absurd c9 (by decide))
    refine a_aload_n (pc := 337) X dL_text_337 rfl rfl ?_
    refine g_callV (pc := 338) X E.rm (sb_tos hk B) (by show 272 ≤ 273 + (k + 1); omega) (rltB_mono (show 273 ≤ (SB k).1 from Nat.le_add_right _ _) rfl) rfl (by rintro v S' G' ⟨-, rfl, -⟩; exact Nat.le_trans (Nat.le_succ _) (Nat.le_succ _)) okJ4 (sb_is k) wM_L_72 w_instanceMethod_J4_toString_0e30d w_selects_J4_toString_0e30d w_initialized_RJ4 w_code_J4_toString_0e30d cpB_tos pnB_tos rfl (Nat.le_of_ble_eq_true rfl) ⟨Nat.le_of_ble_eq_true rfl, Nat.le_of_ble_eq_true rfl⟩ ⟨by omega, by omega⟩ dL_text_338 (fun v S' G' q hG' => ?_)
    obtain ⟨rfl, rfl, q1, q2, q3⟩ := q
    exact a_areturnT (pc := 341) X E rfl (Or.inl ⟨_, rfl⟩) (by omega) (by omega) dL_text_341 (fun G9 g1 g2 g3 => ⟨rfl, rfl, by rw [g2]; exact q1, fun i hi => by rw [g3]; exact q2 i hi, fun a h j => (g1 a h j).trans ((q3.tr hL) a h j), by omega⟩)
  have f8 : TW κ δ ρ0 G 62 224 201 (some (vi ((0 : Nat) : Int))) none [] (txHead (cN L xs) ++ (txCards (cN L xs) (1 + cN L xs 5 % 6) ++ (cT 13 ++ dgs (1 + cN L xs 12 % 3)))) → True := fun _ => trivial
  clear f8
  have f7 : ∀ x3 : Option AV, rltB 273 [x3] = true → TW κ δ ρ0 G 62 224 201 (some (vi 0)) x3 [] (txHead (cN L xs) ++ txCards (cN L xs) (1 + cN L xs 5 % 6) ++ cT 13 ++ dgs (1 + cN L xs 12 % 3)) := by
    intro x3 hx3 k2 G2 hk2 B2 ht2 hL2
    refine tx_fr X E hsc hx3 ?_ 10 0 rfl k2 G2 hk2 (by rw [show txFr (cN L xs) 0 = [] from rfl, List.append_nil]; exact B2) (by rw [show txFr (cN L xs) 0 = [] from rfl, List.append_nil]; omega) hL2
    intro k3 G3 hk3 B3 ht3 hL3
    refine a_iconst (pc := 256) X dL_text_256 ?_
    refine a_istore_n (pc := 257) (i := 2) X dL_text_257 rfl (Nat.le_of_ble_eq_true rfl) rfl rfl ?_
    refine tx_sv X E hsc (s := 0) (j := 82) (q := 241) hx3 (by decide) (by decide) (by decide) ?_ k3 G3 hk3 B3 ht3 hL3
    refine tx_sv X E hsc (s := 1) (j := 92) (q := 269) rfl (by decide) (by decide) (by decide) ?_
    intro k4 G4 hk4 B4 ht4 hL4
    refine f9 k4 G4 hk4 ?_ ?_ hL4
    · unfold txAll; simpa only [List.append_assoc] using B4
    · unfold txAll; simp only [List.append_assoc, List.length_append] at ht4 ⊢; omega
  have f6 : TW κ δ ρ0 G 10 95 30 (some (vi ((0 : Nat) : Int))) none [] (txHead (cN L xs)) := by
    intro k2 G2 hk2 B2 ht2 hL2
    refine tx_cards X E hsc (t := txHead (cN L xs)) (fun x3 hx3 => ?_) (1 + cN L xs 5 % 6) 0 none rfl (Nat.zero_add _) k2 G2 hk2 (by rw [show txCards (cN L xs) 0 = [] from rfl, List.append_nil]; exact B2) (by rw [show txCards (cN L xs) 0 = [] from rfl, List.append_nil]; omega) hL2
    exact tx_g X E hsc (j := 60) (q := 190) (by exact hx3) (by decide) (by decide) (f7 x3 hx3)
  have f5 : ∀ t, t = txHead (cN L xs) → TW κ δ ρ0 G 4 92 25 none none [vr 272] t := by
    rintro _ rfl k2 G2 hk2 B2 ht2 hL2
    refine a_pop (pc := 92) X dL_text_92 rfl ?_
    refine a_iconst (pc := 93) X dL_text_93 ?_
    refine a_istore_n (pc := 94) (i := 2) X dL_text_94 rfl (Nat.le_of_ble_eq_true rfl) rfl rfl ?_
    exact AW.widen (by omega) (by omega) (f6 k2 G2 hk2 B2 (by omega) hL2)
  have f4 : ∀ t, (∀ u, u = (if cN L xs 3 % 2 = 0 then cT 8 else []) → ∀ u2, u2 = (if cN L xs 4 % 2 = 0 then cT 10 else []) → t ++ u ++ u2 = txHead (cN L xs)) → TW κ δ ρ0 G 2 51 13 none none [] t := by
    intro t hh
    refine tx_b X E hsc (j := 2) (q := 13) (by decide) (by decide) (fun h3 => ?_) (fun h3 => ?_)
    · refine tx_c X E hsc (j := 3) (q := 19) (by decide) (by decide) (fun h4 => f5 _ ?_) (fun h4 => f5 _ ?_)
      · exact hh _ (if_pos h3).symm _ (if_pos h4).symm
      · have := hh _ (if_pos h3).symm _ (if_neg h4).symm
        rwa [List.append_nil] at this
    · have e0 : (if cN L xs 3 % 2 = 0 then cT 8 else []) = [] := if_neg h3
      refine tx_c X E hsc (j := 3) (q := 19) (by decide) (by decide) (fun h4 => f5 _ ?_) (fun h4 => f5 _ ?_)
      · have := hh _ e0.symm _ (if_pos h4).symm
        rwa [List.append_nil] at this
      · have := hh _ e0.symm _ (if_neg h4).symm
        rwa [List.append_nil, List.append_nil] at this
  have f3 : TW κ δ ρ0 G 0 22 9 none none [] (cT 7 ++ dgs (1 + cN L xs 0 % 4)) := by
    refine tx_a X E hsc rfl (j := 0) (q := 9) (by decide) (by decide) (fun h1 => f4 _ ?_) (fun h1 => f4 _ ?_)
    · rintro _ rfl _ rfl
      unfold txHead
      rw [if_pos h1]
      simp only [List.append_assoc, List.nil_append]
    · rintro _ rfl _ rfl
      unfold txHead
      rw [if_neg h1]
      simp only [List.append_assoc]
  exact AW.widen (by decide) (by decide) (f3 k9 G9 hk B (by omega) hL)

-- ===== the start: classes, String constants, the world outside =====
def strK (i : Nat) : String × Nat := ([("HymnBoards$Reader", 93), ("HymnBoards$Reader", 108), ("HymnBoards$Reader", 115), ("HymnBoards$Reader", 64), ("HymnBoards$Reader", 122), ("HymnBoards$Reader", 78), ("HymnBoards$Reader", 83), ("HymnBoards", 165), ("HymnBoards", 355), ("HymnBoards", 358)] : List (String × Nat)).getD i ("", 0)
def strTm (i : Nat) : Term := .string (strK i).1 (strK i).2
def preF : List Cond := flatC (Jvm.Cond.and given_1 narrow_1)
theorem st_ex : ∀ i, i < 10 → Cond.exactly (strTm i) "java/lang/String" ∈ preF := by decide +kernel
theorem st_co : ∀ i, i < 10 → Cond.eq (.field (strTm i) "java/lang/String" "coder" "B") (.int 0) ∈ preF := by decide +kernel
theorem st_ar : ∀ i, i < 10 → Cond.arrayOf (.field (strTm i) "java/lang/String" "value" "[B") .byte ∈ preF := by decide +kernel
theorem st_le : ∀ i, i < 10 → Cond.eq (.length (.field (strTm i) "java/lang/String" "value" "[B")) (.int (Int32.ofNat (strL.getD i 0))) ∈ preF := by decide +kernel
theorem st_el : ∀ i, i < 10 → ∀ j, j < strL.getD i 0 → Cond.eq (.elem (.field (strTm i) "java/lang/String" "value" "[B") (.int (Int32.ofNat j))) (.int ((strT.getD i []).getD j 0)) ∈ preF := by decide +kernel
theorem st_ne : ∀ i, i < 10 → ∀ j, j < 10 → i ≠ j → Cond.not (Cond.eq (strTm i) (strTm j)) ∈ preF ∨ Cond.not (Cond.eq (strTm j) (strTm i)) ∈ preF := by decide +kernel
theorem st_len : ∀ i, i < 10 → strL.getD i 0 < 2 ^ 31 := by decide +kernel
theorem st_ref : ∀ q ∈ strR, Cond.stringRef q.1 q.2.1 q.2.2.1 ∈ lw_tbl := by decide +kernel
/-- each use of a String constant: its own first one, or said to be one object with it -/
theorem st_same : ∀ q ∈ strR, Term.string q.1 q.2.1 = strTm q.2.2.2 ∨ Cond.eq (strTm q.2.2.2) (.string q.1 q.2.1) ∈ preF := by decide +kernel
theorem ns_tbl : ∀ q ∈ nestW, Cond.methodLinkNest q.1 q.2.1 q.2.2.1 q.2.2.2 ∈ lw_tbl := fun q hq => List.mem_append_right _ (nestW_in q hq)
theorem dc_tbl : ∀ q ∈ decL, Cond.declares q ∈ lw_tbl := by decide +kernel
theorem tb_ao : Cond.arrayOver (.object RX7) ∈ lw_tbl := by decide +kernel
theorem tb_c1 : Cond.castable xIAE xIAE ∈ lw_tbl := by decide +kernel
theorem tb_c2 : Cond.castable xIOB xIOB ∈ lw_tbl := by decide +kernel
theorem tb_n1 : Cond.not (Cond.castable xIAE xIOB) ∈ preF := by decide +kernel
theorem tb_n2 : Cond.not (Cond.castable xIOB xIAE) ∈ preF := by decide +kernel
theorem tb_l1 : Cond.laysStatic Bundle.tN "UNASSIGNED_STACK" Bundle.steD ∈ lw_tbl := by decide +kernel
theorem tb_l2 : Cond.laysStatic Bundle.tN "SUPPRESSED_SENTINEL" Bundle.listD ∈ lw_tbl := by decide +kernel
theorem tb_l3 : Cond.laysStatic "java/lang/String" "COMPACT_STRINGS" "Z" ∈ lw_tbl := by decide +kernel
theorem tb_l4 : Cond.laysStatic "jdk/internal/util/Preconditions" "SIOOBE_FORMATTER" "Ljava/util/function/BiFunction;" ∈ lw_tbl := by decide +kernel
theorem tb_i1 : Cond.initialized Bundle.tN ∈ lw_tbl := by decide +kernel
theorem tb_i3 : Cond.initialized "java/lang/String" ∈ lw_tbl := by decide +kernel
theorem tb_i4 : Cond.initialized "jdk/internal/util/Preconditions" ∈ lw_tbl := by decide +kernel
theorem tb_r1 : Cond.isRef (.static Bundle.tN "UNASSIGNED_STACK" Bundle.steD) ∈ preF := by decide +kernel
theorem tb_r2 : Cond.isRef (.static Bundle.tN "SUPPRESSED_SENTINEL" Bundle.listD) ∈ preF := by decide +kernel
theorem tb_r3 : Cond.eq (.static "java/lang/String" "COMPACT_STRINGS" "Z") (.int 1) ∈ preF := by decide +kernel
theorem tb_r4 : Cond.isRef (.static "jdk/internal/util/Preconditions" "SIOOBE_FORMATTER" "Ljava/util/function/BiFunction;") ∈ preF := by decide +kernel
theorem arrT_of {args : Array Value} {s : State} {ty : FieldType} (hpr : ∀ C, ty ≠ .object C) (h : (Cond.arrayClass ty).before args s = true) : ∃ cA, ArrOfT s cA ty ∧ va_RA s cA ty := by
  obtain ⟨cA, k, comp, h1, h2, h3⟩ := Cond.arrayClass_spec h
  refine ⟨cA, fun n z => ⟨(fun k h => by cases h), k, h2, comp, h3⟩, ?_⟩
  cases ty with
  | object C => exact absurd rfl (hpr C)
  | _ => exact h1
theorem arrO_of {args : Array Value} {s : State} {C : String} (h : (Cond.arrayOver (.object C)).before args s = true) : ∃ cA, ArrOfT s cA (.object C) ∧ va_RA s cA (.object C) := by
  obtain ⟨comp, cA, k, h1, h2, h3, h4, h5⟩ := Cond.arrayOver_spec h
  exact ⟨cA, fun n z => ⟨(fun k h => by cases h), k, h3, comp, h4⟩, k, comp, h3, h4, h1, h5⟩
theorem known_all {args : Array Value} {s : State} (hts : ∀ w ∈ allW, w.before args s = true) : ∀ k : Nat, ∃ z : ClassId × (Nat → Nat), ∀ q, vwCl[k]? = some q → u_Kn s q.1 q.2.1 q.2.2 z.1 z.2 := by
  intro k
  match k with
  | 0 => obtain ⟨c0, i0, h0⟩ := u_known (C := RX0) (T := TX0) (N := 6) (n := 6) hts inW0 (hts _ w_instantiable_RX0); exact ⟨(c0, i0), fun q hq => by cases hq; exact h0⟩
  | 1 => obtain ⟨c0, i0, h0⟩ := u_known (C := RX1) (T := TX1) (N := 3) (n := 3) hts inW1 (hts _ w_instantiable_RX1); exact ⟨(c0, i0), fun q hq => by cases hq; exact h0⟩
  | 2 => obtain ⟨c0, i0, h0⟩ := u_known (C := RX2) (T := TX2) (N := 9) (n := 9) hts inW2 (hts _ w_instantiable_RX2); exact ⟨(c0, i0), fun q hq => by cases hq; exact h0⟩
  | 3 => obtain ⟨c0, i0, h0⟩ := u_known (C := RX3) (T := TX3) (N := 2) (n := 2) hts inW3 (hts _ w_instantiable_RX3); exact ⟨(c0, i0), fun q hq => by cases hq; exact h0⟩
  | 4 => obtain ⟨c0, i0, h0⟩ := u_known (C := RX4) (T := TX4) (N := 4) (n := 4) hts inW4 (hts _ w_instantiable_RX4); exact ⟨(c0, i0), fun q hq => by cases hq; exact h0⟩
  | 5 => obtain ⟨c0, i0, h0⟩ := u_known (C := RX5) (T := TX5) (N := 11) (n := 11) hts inW5 (hts _ w_instantiable_RX5); exact ⟨(c0, i0), fun q hq => by cases hq; exact h0⟩
  | 6 => obtain ⟨c0, i0, h0⟩ := u_known (C := RX6) (T := TX6) (N := 3) (n := 3) hts inW6 (hts _ w_instantiable_RX6); exact ⟨(c0, i0), fun q hq => by cases hq; exact h0⟩
  | 7 => obtain ⟨c0, i0, h0⟩ := u_known (C := RX7) (T := TX7) (N := 10) (n := 10) hts inW7 (hts _ w_instantiable_RX7); exact ⟨(c0, i0), fun q hq => by cases hq; exact h0⟩
  | 8 => obtain ⟨c0, i0, h0⟩ := u_known (C := RX8) (T := TX8) (N := 12) (n := 12) hts inW8 (hts _ w_instantiable_RX8); exact ⟨(c0, i0), fun q hq => by cases hq; exact h0⟩
  | 9 => obtain ⟨c0, i0, h0⟩ := u_known (C := RX9) (T := TX9) (N := 10) (n := 10) hts inW9 (hts _ w_instantiable_RX9); exact ⟨(c0, i0), fun q hq => by cases hq; exact h0⟩
  | 10 => obtain ⟨c0, i0, h0⟩ := u_known (C := RX10) (T := TX10) (N := 28) (n := 28) hts inW10 (hts _ w_instantiable_RX10); exact ⟨(c0, i0), fun q hq => by cases hq; exact h0⟩
  | k + 11 => exact ⟨(0, fun _ => 0), fun q hq => by simp [vwCl] at hq⟩

theorem law_main {p : Program} {e : Env} {s : State} {m : MethodId} {below : List Frame} {meth : Method} {c : Code} (l : Launch) (hflags : l.flags = flags0) {b L : Nat} {xs : Nat → Int32} (hL : L ≤ 2560) (C0 : lw_At p s m meth c b L xs) (Rel : Nat → GH → Prop) (hini : PureIni (Rel 0)) (harm : PureArms Rel) : W p l e room_1 s m #[Value.ref b] below meth c s.heap [] 0 0 (lw_Z below #[Value.ref b] s) (entryFrame m ([Value.ref b] : List Value).toArray 9) := by
  obtain ⟨hx, hb, hr, hml, hown, hts, hX, hbl, hlocks, hgv⟩ := id C0
  have hpre : ∀ w ∈ preF, w.before #[Value.ref b] s = true := flat_of_before _ hgv
  have hts9 : ∀ w ∈ allW, w.before #[Value.ref b] s = true := fun w hw => hts w (allW_tbl w hw)
  have hA0 : ∀ a : Nat, a < s.heap.size → ¬ (fun q : Nat => s.heap.size ≤ q) a := fun a ha q => absurd ha (Nat.not_lt.mpr q)
  obtain ⟨dz, hdz⟩ := Classical.axiomOfChoice (known_all hts9)
  have hT : ∀ t : Nat, ∃ cA, (t = 0 → ArrOfT s cA .int ∧ va_RA s cA .int) ∧ (t = 1 → ArrOfT s cA .boolean ∧ va_RA s cA .boolean) ∧ (t = 2 → ArrOfT s cA .byte ∧ va_RA s cA .byte) ∧ (t = 3 → ArrOfT s cA .long ∧ va_RA s cA .long) ∧ (t = 4 → ArrOfT s cA (.object RX7) ∧ va_RA s cA (.object RX7)) := by
    intro t
    match t with
    | 0 => obtain ⟨cA, h⟩ := arrT_of (fun C h => by cases h) (hts9 _ w_arrayClass__int); exact ⟨cA, (fun _ => h), (fun q => by cases q), (fun q => by cases q), (fun q => by cases q), (fun q => by cases q)⟩
    | 1 => obtain ⟨cA, h⟩ := arrT_of (fun C h => by cases h) (hts9 _ w_arrayClass__boolean); exact ⟨cA, (fun q => by cases q), (fun _ => h), (fun q => by cases q), (fun q => by cases q), (fun q => by cases q)⟩
    | 2 => obtain ⟨cA, h⟩ := arrT_of (fun C h => by cases h) (hts9 _ w_arrayClass__byte); exact ⟨cA, (fun q => by cases q), (fun q => by cases q), (fun _ => h), (fun q => by cases q), (fun q => by cases q)⟩
    | 3 => obtain ⟨cA, h⟩ := arrT_of (fun C h => by cases h) (hts9 _ w_arrayClass__long); exact ⟨cA, (fun q => by cases q), (fun q => by cases q), (fun q => by cases q), (fun _ => h), (fun q => by cases q)⟩
    | 4 => obtain ⟨cA, h⟩ := arrO_of (hts _ tb_ao); exact ⟨cA, (fun q => by cases q), (fun q => by cases q), (fun q => by cases q), (fun q => by cases q), (fun _ => h)⟩
    | t + 5 => exact ⟨0, (fun q => by omega), (fun q => by omega), (fun q => by omega), (fun q => by omega), (fun q => by omega)⟩
  obtain ⟨dA, hdA⟩ := Classical.axiomOfChoice hT
  obtain ⟨adK, adV, hSt, hev⟩ := vk_Sof (N := 10) (tm := strTm) (len := strL) (byt := strT) (A := fun q : Nat => s.heap.size ≤ q) st_len (fun i hi => hpre _ (st_ex i hi)) (fun i hi => hpre _ (st_co i hi)) (fun i hi => hpre _ (st_ar i hi)) (fun i hi => hpre _ (st_le i hi)) (fun i hi j hj => hpre _ (st_el i hi j hj)) (fun i j hi hj hne => (st_ne i hi j hj hne).elim (fun h => Or.inl (hpre _ h)) (fun h => Or.inr (hpre _ h))) hA0
  obtain ⟨δ, hδ⟩ : ∃ δ : Dx, δ = (fun k => (dz k).1, fun k => (dz k).2, dA, s.heap.size, adK, adV) := ⟨_, rfl⟩
  have hfr : frA δ = fun q : Nat => s.heap.size ≤ q := by rw [hδ]
  have hK : va_K (δ.1, δ.2.1) vwCl (tysL δ.2.2.1) s := by
    subst hδ
    refine ⟨fun k q hq => hdz k q hq, fun k q hq => ?_⟩
    match k, hq with
    | 0, hq => cases hq; exact (hdA 0).1 rfl
    | 1, hq => cases hq; exact (hdA 1).2.1 rfl
    | 2, hq => cases hq; exact (hdA 2).2.2.1 rfl
    | 3, hq => cases hq; exact (hdA 3).2.2.2.1 rfl
    | 4, hq => cases hq; exact (hdA 4).2.2.2.2 rfl
    | k + 5, hq => simp [tysL] at hq
  have hAmb : Amb δ s s.heap := by
    refine ⟨?_, ?_, ?_, ?_, ?_, ?_, ?_, ?_, ?_, ?_, ?_, ?_, ?_⟩
    · rw [hfr]; exact vx_Zqof (hts _ tb_l1) (hts _ tb_i1) (hpre _ tb_r1) hA0
    · rw [hfr]; exact vx_Zqof (hts _ tb_l2) (hts _ tb_i1) (hpre _ tb_r2) hA0
    · rw [hfr]; exact va_Zof (hts _ tb_l3) (hts _ tb_i3) (va_eqt (hpre _ tb_r3)) hA0
    · rw [hfr]; exact va_Zqof (hts _ tb_l4) (hts _ tb_i4) (hpre _ tb_r4) hA0
    · rw [hfr, hδ]; exact hSt
    · intro q hq
      have hi := strR_lt q hq
      have h1 := hts _ (st_ref q hq)
      have h2 : (Term.string q.1 q.2.1).eval #[Value.ref b] s none [] s = some (.ref (adK q.2.2.2)) := by
        rcases st_same q hq with h | h
        · rw [h]; exact hev _ hi
        · obtain ⟨w, g1, g2⟩ := Cond.eq_one (show (Cond.eq (strTm q.2.2.2) (.string q.1 q.2.1)).holds #[Value.ref b] s none s [] = true from hpre _ h)
          rw [hev _ hi] at g1
          rw [g2, ← g1]
      have h3 := vk_R.of h1 h2
      rw [hδ]; exact h3
    · intro q hq; exact va_Nw.of rfl (hts _ (ns_tbl q hq))
    · exact va_AO.of (hts _ tb_ao)
    · exact va_Nc.of (hpre _ tb_n1)
    · exact va_Nc.of (hpre _ tb_n2)
    · exact va_Nw.of rfl (hts _ tb_c1)
    · exact va_Nw.of rfl (hts _ tb_c2)
    · intro q hq; exact va_Nw.of rfl (hts _ (dc_tbl q hq))
  have htr : l.stackTraces = false := by
    unfold Launch.stackTraces
    rw [hflags]; decide +kernel
  have X : CX (p, l, e, room_1, s, m, #[Value.ref b], below, meth, c, lw_Z below #[Value.ref b] s) δ RL cL_law 9 ret := ⟨hx, hb, hml, hown, hts9, hr, hlocks, hK, by rw [hδ]; exact Nat.le_refl _, hAmb, htr⟩
  have hδ4 : δ.2.2.2.1 = s.heap.size := by rw [hδ]
  obtain ⟨ρ0, hρ⟩ : ∃ ρ0 : Nat → Nat, ρ0 = fun a => if a = strB + 30 then b else if a < strB + 10 then adK (a - strB) else adV (a - strB - 10) := ⟨_, rfl⟩
  have hb30 : ρ0 (strB + 30) = b := by rw [hρ]; simp
  have LX : LawX (p, l, e, room_1, s, m, #[Value.ref b], below, meth, c, lw_Z below #[Value.ref b] s) δ ρ0 L xs := by
    refine ⟨?_, ?_, ?_, hL⟩
    · rw [hb30]; exact hX
    · rw [hb30]; exact hbl
    · rw [hb30, hfr]; exact Nat.not_le.mpr hbl
  have hRep : Rep δ ρ0 (0, shF, rfP 0) (fun _ _ => 0) s.heap := by
    refine ⟨fun k q h => by simp [wl] at h, ⟨fun i j p q h => by simp [wl] at h, fun k q h => by simp [wl] at h⟩, Nat.zero_le _, fun _ _ => inR_0, fun i hi => ?_⟩
    rw [hρ, hδ]
    have n1 : strB + i ≠ strB + 30 := by omega
    have n2 : strB + i < strB + 10 := by omega
    have n3 : strB + 10 + i ≠ strB + 30 := by omega
    have n4 : ¬ strB + 10 + i < strB + 10 := by omega
    simp only [n1, n2, n3, n4, if_true, if_false]
    refine ⟨congrArg adK (by omega), congrArg adV (by omega)⟩
  have hRm : RmG (p, l, e, room_1, s, m, #[Value.ref b], below, meth, c, lw_Z below #[Value.ref b] s) 13 470 601024 7293033 := rfl
  have main : AW (p, l, e, room_1, s, m, #[Value.ref b], below, meth, c, lw_Z below #[Value.ref b] s) δ ρ0 0 9 0 0 0 [some (vr (strB + 30)), none, none, none, none, none, none, none, none] [] (0, shF, rfP 0) (fun _ _ => 0) := by
    refine a_new (pc := 0) (n := 0) (rf := rfP 0) X hRm okX9 wC_L_8 w_instantiable_RX9 w_initialized_RX9 fv_X9 rfl (rfP_none (by decide +kernel)) (rfP_fw (by decide +kernel)) (Nat.le_of_ble_eq_true rfl) (Nat.le_refl _) rfl rfl ⟨Nat.le_of_ble_eq_true rfl, Nat.le_of_ble_eq_true rfl⟩ dL_law_0 ?_
    refine a_dup (pc := 3) X dL_law_3 rfl ?_
    refine a_callI (pc := 4) X hRm (k_X9_init_0 (fun G1 h1 => hini G1 h1)) (Nat.zero_le _) rfl rfl (Nat.le_of_ble_eq_true rfl) wM_L_111 w_instanceMethod_X9_init w_initialized_RX9 w_code_X9_init cpN_X9 pnN_X9 rfl (Nat.le_of_ble_eq_true rfl) ⟨Nat.le_of_ble_eq_true rfl, Nat.le_of_ble_eq_true rfl⟩ ⟨Nat.le_of_ble_eq_true rfl, Nat.le_of_ble_eq_true rfl⟩ dL_law_4 (fun G4 h4 hG4 => ?_)
    refine a_astore_n (pc := 7) X dL_law_7 rfl (Nat.le_of_ble_eq_true rfl) rfl rfl ?_
    refine a_new (pc := 8) (n := 272) (rf := rfP 271) X hRm okX10 wC_L_112 w_instantiable_RX10 w_initialized_RX10 fv_X10 rfl (rfP_none (by decide +kernel)) (rfP_fw (by decide +kernel)) (Nat.le_of_ble_eq_true rfl) (Nat.zero_le _) rfl rfl ⟨Nat.le_of_ble_eq_true rfl, Nat.le_of_ble_eq_true rfl⟩ dL_law_8 ?_
    refine a_dup (pc := 11) X dL_law_11 rfl ?_
    refine a_callI (pc := 12) X hRm (k_X10_init_272 (fun G5 h5 => h4 G5 h5)) (Nat.zero_le _) rfl rfl (Nat.le_of_ble_eq_true rfl) wM_L_114 w_instanceMethod_X10_init w_initialized_RX10 w_code_X10_init cpN_X10 pnN_X10 rfl (Nat.le_of_ble_eq_true rfl) ⟨Nat.le_of_ble_eq_true rfl, Nat.le_of_ble_eq_true rfl⟩ ⟨Nat.le_of_ble_eq_true rfl, Nat.le_of_ble_eq_true rfl⟩ dL_law_12 (fun G8 h8 hG8 => ?_)
    refine a_astore_n (pc := 15) X dL_law_15 rfl (Nat.le_of_ble_eq_true rfl) rfl rfl ?_
    refine a_iconst (pc := 16) X dL_law_16 ?_
    refine a_newarr (atype := .long) (pc := 17) (n := 285) (N := 1) (t := 3) (rf := rfP 283) X hRm (Nat.le_of_ble_eq_true rfl) rfl (fun C h => by cases h) w_arrayClass__long rfl rfl (rfP_fw (by decide +kernel)) (Nat.le_of_ble_eq_true rfl) (Nat.zero_le _) rfl rfl (Nat.le_of_ble_eq_true rfl) (Nat.le_of_ble_eq_true rfl) ⟨Nat.le_of_ble_eq_true rfl, Nat.le_of_ble_eq_true rfl⟩ dL_law_17 ?_
    refine a_astore_n (pc := 19) X dL_law_19 rfl (Nat.le_of_ble_eq_true rfl) rfl rfl ?_
    refine a_iconst (pc := 20) X dL_law_20 ?_
    refine a_istore (pc := 21) X dL_law_21 (Nat.le_of_ble_eq_true rfl) rfl rfl ?_
    refine AW.congS (S' := SF 286) rfl (fun _ _ => rfl) (fun a ha k => ?_) ?_
    · by_cases ha9 : a < 285
      · exact rfP_allM a ha9 k
      · have e9 : a = 285 := by
          have ha : a < 286 := ha
          omega
        subst e9
        show rfF 285 k = rfP 283 285 k
        rw [rfP_none (by decide +kernel)]
        unfold rfF
        rw [List.getD_eq_getElem?_getD (l := rfL), show rfL[285]? = some [] by decide +kernel]
        rfl
    · refine AW.widen (cb' := 300) (sb' := 17000) (Nat.le_of_ble_eq_true rfl) (Nat.le_of_ble_eq_true rfl) ?_
      exact law_loop X hδ4 LX hL Rel harm 513 0 _ (by omega) (by omega) h8 hG8.zz
  rw [lg_entry_eq]
  have hl9 := enL_HL (ρ := ρ0) (vs := [vr (strB + 30)]) (n := 9) (Nat.le_of_ble_eq_true rfl)
  have e8 : ([vr (strB + 30)] : List AV).map (cv ρ0) = [Value.ref b] := by
    show [va_rf (some (ρ0 (strB + 30)))] = _
    rw [hb30]; rfl
  rw [e8] at hl9
  exact main ρ0 s.heap [] _ (fun _ _ => rfl) hRep (by rw [hfr]; exact va_S.rf) hl9

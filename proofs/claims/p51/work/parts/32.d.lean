-- ===== the start: written by wip/p51/mkmain.py =====
theorem st_len : ∀ i, i < 15 → strL.getD i 0 < 2 ^ 31 := by decide +kernel
theorem st_ref : ∀ q ∈ strR, Cond.stringRef q.1 q.2.1 q.2.2.1 ∈ lw_tbl := by decide +kernel
/-- each use of a String constant: its own first one, or said to be one object with it -/
theorem st_same : ∀ q ∈ strR, Term.string q.1 q.2.1 = strTm q.2.2.2 ∨ Cond.eq (strTm q.2.2.2) (.string q.1 q.2.1) ∈ preF := by decide +kernel
theorem ns_tbl : ∀ q ∈ nestW, Cond.methodLinkNest q.1 q.2.1 q.2.2.1 q.2.2.2 ∈ lw_tbl := fun q hq => List.mem_append_right _ (nestW_in q hq)
theorem dc_tbl : ∀ q ∈ decL, Cond.declares q ∈ lw_tbl := by decide +kernel
theorem tb_ao : Cond.arrayOver (.object RX7) ∈ lw_tbl := by decide +kernel
theorem tb_c1 : Cond.castable xIAE xIAE ∈ lw_tbl := by decide +kernel
theorem tb_c2 : Cond.castable xIOB xIOB ∈ lw_tbl := by decide +kernel
theorem tb_l1 : Cond.laysStatic Bundle.tN "UNASSIGNED_STACK" Bundle.steD ∈ lw_tbl := by decide +kernel
theorem tb_l2 : Cond.laysStatic Bundle.tN "SUPPRESSED_SENTINEL" Bundle.listD ∈ lw_tbl := by decide +kernel
theorem tb_l3 : Cond.laysStatic "java/lang/String" "COMPACT_STRINGS" "Z" ∈ lw_tbl := by decide +kernel
theorem tb_l4 : Cond.laysStatic "jdk/internal/util/Preconditions" "SIOOBE_FORMATTER" "Ljava/util/function/BiFunction;" ∈ lw_tbl := by decide +kernel
theorem tb_i1 : Cond.initialized Bundle.tN ∈ lw_tbl := by decide +kernel
theorem tb_i3 : Cond.initialized "java/lang/String" ∈ lw_tbl := by decide +kernel
theorem tb_i4 : Cond.initialized "jdk/internal/util/Preconditions" ∈ lw_tbl := by decide +kernel
theorem tb_r1 : Cond.isRef (.static Bundle.tN "UNASSIGNED_STACK" Bundle.steD) ∈ preF := by decide +kernel
theorem tb_r2 : Cond.isRef (.static Bundle.tN "SUPPRESSED_SENTINEL" Bundle.listD) ∈ preF := by decide +kernel
theorem tb_r3 : Cond.eq (.static "java/lang/String" "COMPACT_STRINGS" "Z") (.int 1) ∈ preF := by decide +kernel
theorem tb_r4 : Cond.isRef (.static "jdk/internal/util/Preconditions" "SIOOBE_FORMATTER" "Ljava/util/function/BiFunction;") ∈ preF := by decide +kernel
theorem arrT_of {args : Array Value} {s : State} {ty : FieldType} (hpr : ∀ C, ty ≠ .object C) (h : (Cond.arrayClass ty).before args s = true) : ∃ cA, ArrOfT s cA ty ∧ va_RA s cA ty := by
  obtain ⟨cA, k, comp, h1, h2, h3⟩ := Cond.arrayClass_spec h
  refine ⟨cA, fun n z => ⟨(fun k h => by cases h), k, h2, comp, h3⟩, ?_⟩
  cases ty with
  | object C => exact absurd rfl (hpr C)
  | _ => exact h1
theorem arrO_of {args : Array Value} {s : State} {C : String} (h : (Cond.arrayOver (.object C)).before args s = true) : ∃ cA, ArrOfT s cA (.object C) ∧ va_RA s cA (.object C) := by
  obtain ⟨comp, cA, k, h1, h2, h3, h4, h5⟩ := Cond.arrayOver_spec h
  exact ⟨cA, fun n z => ⟨(fun k h => by cases h), k, h3, comp, h4⟩, k, comp, h3, h4, h1, h5⟩
theorem known_all {args : Array Value} {s : State} (hts : ∀ w ∈ allW, w.before args s = true) : ∀ k : Nat, ∃ z : ClassId × (Nat → Nat), ∀ q, vwCl[k]? = some q → u_Kn s q.1 q.2.1 q.2.2 z.1 z.2 := by
  intro k
  match k with
  | 0 => obtain ⟨c0, i0, h0⟩ := u_known (C := RX0) (T := TX0) (N := 6) (n := 6) hts inW0 (hts _ w_instantiable_RX0); exact ⟨(c0, i0), fun q hq => by cases hq; exact h0⟩
  | 1 => obtain ⟨c0, i0, h0⟩ := u_known (C := RX1) (T := TX1) (N := 3) (n := 3) hts inW1 (hts _ w_instantiable_RX1); exact ⟨(c0, i0), fun q hq => by cases hq; exact h0⟩
  | 2 => obtain ⟨c0, i0, h0⟩ := u_known (C := RX2) (T := TX2) (N := 9) (n := 9) hts inW2 (hts _ w_instantiable_RX2); exact ⟨(c0, i0), fun q hq => by cases hq; exact h0⟩
  | 3 => obtain ⟨c0, i0, h0⟩ := u_known (C := RX3) (T := TX3) (N := 2) (n := 2) hts inW3 (hts _ w_instantiable_RX3); exact ⟨(c0, i0), fun q hq => by cases hq; exact h0⟩
  | 4 => obtain ⟨c0, i0, h0⟩ := u_known (C := RX4) (T := TX4) (N := 4) (n := 4) hts inW4 (hts _ w_instantiable_RX4); exact ⟨(c0, i0), fun q hq => by cases hq; exact h0⟩
  | 5 => obtain ⟨c0, i0, h0⟩ := u_known (C := RX5) (T := TX5) (N := 11) (n := 11) hts inW5 (hts _ w_instantiable_RX5); exact ⟨(c0, i0), fun q hq => by cases hq; exact h0⟩
  | 6 => obtain ⟨c0, i0, h0⟩ := u_known (C := RX6) (T := TX6) (N := 3) (n := 3) hts inW6 (hts _ w_instantiable_RX6); exact ⟨(c0, i0), fun q hq => by cases hq; exact h0⟩
  | 7 => obtain ⟨c0, i0, h0⟩ := u_known (C := RX7) (T := TX7) (N := 10) (n := 10) hts inW7 (hts _ w_instantiable_RX7); exact ⟨(c0, i0), fun q hq => by cases hq; exact h0⟩
  | 8 => obtain ⟨c0, i0, h0⟩ := u_known (C := RX8) (T := TX8) (N := 12) (n := 12) hts inW8 (hts _ w_instantiable_RX8); exact ⟨(c0, i0), fun q hq => by cases hq; exact h0⟩
  | 9 => obtain ⟨c0, i0, h0⟩ := u_known (C := RX9) (T := TX9) (N := 10) (n := 10) hts inW9 (hts _ w_instantiable_RX9); exact ⟨(c0, i0), fun q hq => by cases hq; exact h0⟩
  | 10 => obtain ⟨c0, i0, h0⟩ := u_known (C := RJ0) (T := TJ0) (N := 4) (n := 4) hts inWJ0 (hts _ w_instantiable_RJ0); exact ⟨(c0, i0), fun q hq => by cases hq; exact h0⟩
  | 11 => obtain ⟨c0, i0, h0⟩ := u_known (C := RJ4) (T := TJ4) (N := 4) (n := 4) hts inWJ4 (hts _ w_instantiable_RJ4); exact ⟨(c0, i0), fun q hq => by cases hq; exact h0⟩
  | k + 12 => exact ⟨(0, fun _ => 0), fun q hq => by simp [vwCl] at hq⟩
def dgTm (nm : String) : Term := .static "java/lang/Integer" nm "[B"
theorem tb_d1 : Cond.laysStatic "java/lang/Integer" "DigitOnes" "[B" ∈ lw_tbl := by decide +kernel
theorem tb_d2 : Cond.laysStatic "java/lang/Integer" "DigitTens" "[B" ∈ lw_tbl := by decide +kernel
theorem tb_di : Cond.initialized "java/lang/Integer" ∈ lw_tbl := by decide +kernel
theorem tb_da : ∀ nm ∈ ["DigitOnes", "DigitTens"], Cond.arrayOf (dgTm nm) .byte ∈ preF := by decide +kernel
theorem tb_dl : ∀ nm ∈ ["DigitOnes", "DigitTens"], Cond.eq (.length (dgTm nm)) (.int 100) ∈ preF := by decide +kernel

-- ===== the pure facts: all arms =====
theorem pure_arms : PureArms Rel := by
  intro L xs j G h _ hj hlt
  have hK : ∀ G', Rel (j + 1) G' → Rel (j + 1) G' := fun _ q => q
  have hL : 0 ≤ ((5 * j : Nat) : Int) ∧ ((5 * j : Nat) : Int) + 5 ≤ (L : Int) := ⟨by omega, by omega⟩
  exact ⟨⟨arm_0 h hK hL, arm_1 h hK, arm_2 h hK, arm_3 h hK, arm_4 h hK hL, arm_5 h hK hL, arm_6 h hK hL, arm_7 h hK hL, arm_8 h hK hL, arm_9 h hK hL, arm_10 h hK hL, arm_11 h hK hL, arm_12 h hK hL, arm_13 h hK hL, arm_14 h hK, arm_15 h hK hL, arm_16 h hK hL, arm_17 h hK hL, arm_18 h hK hj hL, arm_19 h hK hj hL, arm_20 h hK hL, arm_21 h hK hj hL, arm_22 h hK hj, arm_23 h hK hj hL, arm_24 h hK hj, arm_25 h hK hj, arm_26 h hK hL, arm_27 h hK hj hL, arm_28 h hK hj, arm_29 h hK, arm_30 h hK hL, arm_31 h hK hL, arm_32 h hK hL, arm_33 h hK hL, arm_34 h hK hL, arm_35 h hK hL, arm_36 h hK hL, arm_37 h hK hL, arm_38 h hK hL, arm_39 h hK hL, arm_40 h hj hK, arm_41 h hK, arm_42 h hK, arm_43 h hK hL, arm_44 h hK hL, arm_45 h hK, arm_46 h hK hL, arm_47 h hK hL⟩, h.next0⟩

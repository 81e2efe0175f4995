-- ===== p51, PURE LAYER: sizes, the law's hymn, a step =====
def szW (W : WT) (i : Int) : Int := if i = 1 then allRW W else if i = 2 then W 1 else if i = 3 then W 2 else if i = 4 then W 3 else if i = 5 then W 4 else if i = 6 then W 5 else if i = 7 then W 6 else if i = 8 then W 7 else if i = 9 then ahW W else if i = 10 then W 8 else if i = 11 then W 9 else if i = 12 then W 10 else if i = 13 then W 11 else W 0
section PE
variable {c : Nat → Nat} {j : Int} {G : GH} {W W' : WT}
theorem e_size {Q : Int → Prop} {X : String → Prop} {i : Int} (hi : 0 ≤ i ∧ i ≤ 13) (hW : WF j W) (hR : RepS G 1 W) (q : Q (szW W i)) : f_X9_size i G Q X := by
  have b := hW.bo
  have k : ∀ v w : Int, v = w → Q w → Q v := fun v w e1 q2 => by rw [e1]; exact q2
  unfold szW at q
  refine ⟨fun c => by omega, fun c => ?_, fun c => ?_, fun c => ?_, fun c => ?_, fun c => ?_, fun c => ?_, fun c => ?_, fun c => ?_, fun c => ?_, fun c => ?_, fun c => ?_, fun c => ?_, fun c => ?_, fun c => ?_, fun c => ?_⟩ <;> subst c
  · exact k _ _ hR.bo q
  · rw [show G 1 0 = W 0 from hR.bo]
    exact c_rowsAhead hW hR ⟨by omega, by omega⟩ (k _ _ rfl q)
  · have e : G 3 0 = W 1 := hR.tu
    have := hW.tu
    exact ⟨fun c => k _ _ (show (0 : Int) = W 1 by omega) q, fun c => k _ _ (show (1 : Int) = W 1 by omega) q⟩
  · have e : G 1 2 = W 2 := hR.sp
    have := hW.sp
    exact ⟨fun c => k _ _ (show (0 : Int) = W 2 by omega) q, fun c => k _ _ (show (1 : Int) = W 2 by omega) q⟩
  · exact k _ _ hR.ow q
  · exact k _ _ hR.fr q
  · exact k _ _ hR.se q
  · exact k _ _ hR.lo q
  · exact k _ _ hR.ha q
  · exact c_countCards hW hR.hs (k _ _ rfl q)
  · exact k _ _ hR.he q
  · exact k _ _ hR.wo q
  · exact k _ _ hR.hu q
  · exact k _ _ hR.ou q
  · omega
theorem hyN_q {Q : Int → Prop} {v : Int} (hv : 0 ≤ v ∧ v < 100000) (h : ∀ r, 1 ≤ r → r ≤ 999 → Q r) : f_L_hymn v Q := by
  unfold f_L_hymn
  refine ⟨by omega, fun h => ⟨fun h1 => ⟨by omega, ⟨by omega, by omega⟩, ?_⟩, fun h1 => ⟨by omega, ⟨by omega, by omega⟩, ?_⟩⟩, fun h => ⟨by omega, ⟨by omega, by omega⟩, ?_⟩⟩ <;> refine ‹∀ r, 1 ≤ r → r ≤ 999 → Q r› _ ?_ ?_ <;> omega
theorem hng_DIG {s : Int} (hW : WF j W) (hs : 0 ≤ s ∧ s < W 5) : DIG (hngW (-1) W s) := by
  intro r col r0 r1 c0 c1
  rw [hng_pla (by omega) (by omega) (by omega) (by omega), plV_0, hng_hun r0 r1]
  have hy := hyV_rng (tf := -1) hW hs (r := r)
  unfold ddV ddH
  rw [show (3 * r + col) / 3 = r by omega, show (3 * r + col) % 3 = col by omega]
  generalize hyV (-1) W s r = h at hy ⊢
  unfold unitW digH
  by_cases c1' : h = -1
  · rw [if_pos c1']; exact Or.inl rfl
  · rw [if_neg c1']
    have e : col = 0 ∨ col = 1 ∨ col = 2 := by omega
    rcases e with rfl | rfl | rfl
    · simp only [if_true]
      by_cases c2 : h < 100
      · rw [if_pos c2]; exact Or.inl rfl
      · rw [if_neg c2, if_neg (by omega)]; exact Or.inr ⟨by omega, rfl⟩
    · simp only [show ¬ ((1 : Int) = 0) by decide, if_false, if_true]
      by_cases c2 : h < 10
      · rw [if_pos c2]; exact Or.inl rfl
      · rw [if_neg c2, if_neg (by omega)]; exact Or.inr ⟨by omega, rfl⟩
    · simp only [show ¬ ((2 : Int) = 0) by decide, show ¬ ((2 : Int) = 1) by decide, if_false]
      by_cases c2 : h < 1
      · omega
      · rw [if_neg c2]; exact Or.inr ⟨by omega, by omega⟩
end PE

-- ===== p51, PURE LAYER: the acts, each with the state that it shows then: setTurn, setSplit, clear, undo =====
def upW (W : WT) (k : Nat) (v : Int) : WT := fun x => if x = k then v else W x
theorem upW_eq {W : WT} {k : Nat} {v : Int} : upW W k v k = v := if_pos rfl
theorem upW_ne {W : WT} {k x : Nat} {v : Int} (h : x ≠ k) : upW W k v x = W x := if_neg h
section PB
variable {c : Nat → Nat} {j : Int} {G : GH} {W : WT} {Q : Int → GH → Prop} {Q0 : GH → Prop}
theorem d_setTurn (hW : WF j W) (hR : RepS G 1 W) (hg : RgC G) {v : Int} (hv : v = 0 ∨ v = 1) (h : ∀ W' G2, (∀ k, k ≠ 1 → W' k = W k) → Acted j W W' G G2 → ∀ r, Q r G2) : f_X9_setTurn v G Q := by
  refine c_keepC hW hR hg (fun G1 kc => ⟨hv, fun G2 e2 => ?_⟩)
  have r1 := kc.rep1C hg hR
  have tu : G1 3 0 = W 1 := r1.tu
  have w5 : ∀ k, k ≠ 1 → upW W 1 v k = W k := fun k hk => upW_ne hk
  have w51 : upW W 1 v 1 = v := upW_eq
  refine ⟨by rw [tu]; exact hW.tu, h (upW W 1 v) G2 w5 ⟨G1, kc, fun x q1 _ => by rw [e2, up_na (by omega)], ?_, ?_⟩ _⟩
  · have := hW.he; have := hW.wo; have := hW.hu; have := hW.ou
    refine hW.flds (fun k q0 q1 => w5 k (by omega)) (w5 0 (by omega)) (w5 3 (by omega)) (w5 4 (by omega)) (w5 5 (by omega)) (w5 6 (by omega)) (by rw [w51]; exact hv) (by rw [w5 2 (by omega)]; exact hW.sp) (w5 7 (by omega)) (by rw [w5 8 (by omega)]; omega) (by rw [w5 9 (by omega)]; omega) (by rw [w5 10 (by omega)]; omega) (by rw [w5 11 (by omega)]; omega)
  · have r2 : ∀ x, x ≠ 3 → G2 x = G1 x := fun x hx => by rw [e2, up_na hx]
    have r3 : ∀ k, k ≠ 0 → G2 3 k = G1 3 k := fun k hk => by rw [e2, upG_nk hk]
    refine RepS.flds hW r1 (fun k q0 q1 => w5 k (by omega)) (w5 0 (by omega)) (w5 3 (by omega)) (w5 4 (by omega)) (w5 5 (by omega)) (w5 6 (by omega)) (fun x q0 q1 q2 q3 q4 => r2 x (by omega)) ?_ ?_ ?_ ?_ ?_ ?_ ?_ ?_ ?_ ?_ ?_ ?_
    · rw [r2 1 (by omega), w5 0 (by omega)]; exact r1.bo
    · rw [r2 1 (by omega), w5 2 (by omega)]; exact r1.sp
    · rw [w51, e2]; exact upG_same _ _ _ _
    · rw [r3 1 (by omega), w5 3 (by omega)]; exact r1.ow
    · rw [r3 5 (by omega), w5 4 (by omega)]; exact r1.fr
    · rw [r3 8 (by omega), w5 6 (by omega)]; exact r1.lo
    · rw [r2 _ (by omega), w5 5 (by omega)]; exact r1.se
    · rw [r2 _ (by omega), w5 7 (by omega)]; exact r1.ha
    · rw [r2 1 (by omega), w5 8 (by omega)]; exact r1.he
    · rw [r2 1 (by omega), w5 9 (by omega)]; exact r1.wo
    · rw [r2 1 (by omega), w5 10 (by omega)]; exact r1.hu
    · rw [r2 1 (by omega), w5 11 (by omega)]; exact r1.ou
theorem d_setSplit (hW : WF j W) (hR : RepS G 1 W) (hg : RgC G) {v : Int} (hv : v = 0 ∨ v = 1) (h : ∀ W' G2, (∀ k, k ≠ 2 → W' k = W k) → Acted j W W' G G2 → ∀ r, Q r G2) : f_X9_setSplit v G Q := by
  refine c_keepC hW hR hg (fun G1 kc => ⟨hv, fun G2 e2 => ?_⟩)
  have r1 := kc.rep1C hg hR
  have sp : G1 1 2 = W 2 := r1.sp
  have w5 : ∀ k, k ≠ 2 → upW W 2 v k = W k := fun k hk => upW_ne hk
  have w51 : upW W 2 v 2 = v := upW_eq
  refine ⟨by rw [sp]; exact hW.sp, h (upW W 2 v) G2 w5 ⟨G1, kc, fun x q1 _ => by rw [e2, up_na (by omega)], ?_, ?_⟩ _⟩
  · have := hW.he; have := hW.wo; have := hW.hu; have := hW.ou
    refine hW.flds (fun k q0 q1 => w5 k (by omega)) (w5 0 (by omega)) (w5 3 (by omega)) (w5 4 (by omega)) (w5 5 (by omega)) (w5 6 (by omega)) (by rw [w5 1 (by omega)]; exact hW.tu) (by rw [w51]; exact hv) (w5 7 (by omega)) (by rw [w5 8 (by omega)]; omega) (by rw [w5 9 (by omega)]; omega) (by rw [w5 10 (by omega)]; omega) (by rw [w5 11 (by omega)]; omega)
  · have r2 : ∀ x, x ≠ 1 → G2 x = G1 x := fun x hx => by rw [e2, up_na hx]
    have r3 : ∀ k, k ≠ 2 → G2 1 k = G1 1 k := fun k hk => by rw [e2, upG_nk hk]
    refine RepS.flds hW r1 (fun k q0 q1 => w5 k (by omega)) (w5 0 (by omega)) (w5 3 (by omega)) (w5 4 (by omega)) (w5 5 (by omega)) (w5 6 (by omega)) (fun x q0 q1 q2 q3 q4 => r2 x (by omega)) ?_ ?_ ?_ ?_ ?_ ?_ ?_ ?_ ?_ ?_ ?_ ?_
    · rw [r3 0 (by omega), w5 0 (by omega)]; exact r1.bo
    · rw [w51, e2]; exact upG_same _ _ _ _
    · rw [r2 _ (by omega), w5 1 (by omega)]; exact r1.tu
    · rw [r2 _ (by omega), w5 3 (by omega)]; exact r1.ow
    · rw [r2 _ (by omega), w5 4 (by omega)]; exact r1.fr
    · rw [r2 _ (by omega), w5 6 (by omega)]; exact r1.lo
    · rw [r2 _ (by omega), w5 5 (by omega)]; exact r1.se
    · rw [r2 _ (by omega), w5 7 (by omega)]; exact r1.ha
    · rw [r3 6 (by omega), w5 8 (by omega)]; exact r1.he
    · rw [r3 7 (by omega), w5 9 (by omega)]; exact r1.wo
    · rw [r3 8 (by omega), w5 10 (by omega)]; exact r1.hu
    · rw [r3 9 (by omega), w5 11 (by omega)]; exact r1.ou
/-- W with all taken down -/
def bareW (W : WT) : WT := fun k => if k = 7 then -1 else if 276 ≤ k ∧ k < 456 then -1 else W k
theorem bare_is : Bare (bareW W) W := ⟨fun k k0 k1 => by unfold bareW; rw [if_neg k1, if_neg (by omega)], if_pos rfl, fun k k0 k1 => by unfold bareW; rw [if_neg (by omega), if_pos ⟨k0, k1⟩]⟩
theorem d_clear (hW : WF j W) (hR : RepS G 1 W) (hg : RgC G) (h : ∀ G2, Acted j W (bareW W) G G2 → ∀ r, Q r G2) : f_X9_clear G Q := by
  refine c_keepC hW hR hg (fun G1 kc => ?_)
  have r1 := kc.rep1C hg hR
  refine c_countCards hW r1.hs (c_allDown (fun G2 o2 d0 d1 d2 d5 => ?_))
  exact h G2 ⟨G1, kc, fun x q1 _ => o2 x (by omega), bare_is.wf hW (by omega), bare_is.rep hW r1 (fun x x1 x2 => o2 x (by omega)) d0 d1 d2 d5⟩ _
theorem d_undo (hI : InvW c j G W) (h : ∀ G2 W2, InvW c j G2 W2 → ∀ r, Q r G2) : f_X9_undo G Q := by
  have hI0 := hI
  obtain ⟨g1, g2, ⟨⟨q1, q3⟩, q4⟩, g5⟩ := hI
  refine ⟨fun cc => ?_, fun cc => ?_⟩
  · refine ⟨⟨by omega, by omega⟩, by omega, fun G1 e1 => ?_⟩
    have n1 : G1 44 1 = (G 44 1 + 8 - 1) % 8 := by rw [e1, upG_same]
    have sl : 46 + 20 * (G1 44 1).toNat = ringC G (G 44 2 - 1) := by unfold ringC; omega
    have slr : 46 ≤ ringC G (G 44 2 - 1) ∧ ringC G (G 44 2 - 1) ≤ 186 := by unfold ringC; omega
    obtain ⟨U, hGo, hRp⟩ := q4 (G 44 2 - 1) (by omega) (by omega)
    have hWp := hGo.1
    rw [sl]
    have hR1 : RepS G1 (ringC G (G 44 2 - 1)) U := hRp.congr (fun x x1 x2 => by rw [e1, up_na (by unfold ringC at x1; omega)])
    refine ⟨by omega, c_copy7 (by omega) (by rw [hR1.sp]; exact hWp.sp) (by rw [hR1.tu]; exact hWp.tu) (fun G2 o2 c2 => ?_)⟩
    have r2 := RepS.copy hWp c2 hR1
    have a2 : G2 44 2 = G 44 2 := by rw [o2 44 (by omega), e1, upG_nk (by omega)]
    rw [a2]
    refine ⟨⟨by omega, by omega⟩, fun G3 e3 => h G3 U ?_ _⟩
    have k3 : ∀ x, x ≠ 44 → ¬ (1 ≤ x ∧ x < 21) → G3 x = G x := fun x x1 x2 => by rw [e3, up_na x1, o2 x (by omega), e1, up_na x1]
    have g44 : ∀ k, k ≠ 2 → G3 44 k = G1 44 k := fun k hk => by rw [e3, upG_nk hk, o2 44 (by omega)]
    have g442 : G3 44 2 = G 44 2 - 1 := by rw [e3, upG_same]
    refine ⟨hGo, r2.congr (fun x x1 x2 => by rw [e3, up_na (by omega)]), ⟨⟨by omega, by rw [g44 1 (by omega)]; omega⟩, fun i i0 i1 => ?_⟩, fun s s0 s1 => ?_⟩
    · obtain ⟨V, v1, v2⟩ := q4 i i0 (by omega)
      have er : ringC G3 i = ringC G i := by unfold ringC; rw [g44 1 (by omega), g442, n1]; omega
      refine ⟨V, v1, ?_⟩
      rw [er]
      refine v2.congr (fun x x1 x2 => k3 x ?_ ?_) <;> unfold ringC at x1 x2 <;> omega
    · obtain ⟨y1, y2⟩ := g5 s s0 s1
      rw [k3 207 (by omega) (by omega)]
      exact ⟨y1, fun y => by obtain ⟨V, v1, v2⟩ := y2 y; exact ⟨V, v1, v2.congr (fun x x1 x2 => k3 x (by omega) (by omega))⟩⟩
  · exact h G W hI0 _
end PB

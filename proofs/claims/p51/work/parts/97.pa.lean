-- ===== p51, PURE LAYER: what always holds (the class alone); the acts' frame =====
def RgC (G : GH) : Prop := (0 ≤ G 44 2 ∧ G 44 2 ≤ 8) ∧ (0 ≤ G 44 1 ∧ G 44 1 ≤ 7)
theorem c_keepC {j : Int} {G : GH} {W : WT} {Q : GH → Prop} (hW : WF j W) (hR : RepS G 1 W) (hg : RgC G) (h : ∀ G', KeptC G G' W → Q G') : f_X1_keep 1 G Q := by
  obtain ⟨h2, h3⟩ := hg
  refine ⟨by omega, c_copy7 (by omega) (by rw [hR.sp]; exact hW.sp) (by rw [hR.tu]; exact hW.tu) (fun G1 o1 c1 => ?_)⟩
  have e44 : G1 44 = G 44 := o1 44 (by omega)
  rw [e44]
  refine ⟨⟨by omega, by omega⟩, by omega, fun G2 e2 => ?_⟩
  have e442 : G2 44 2 = G 44 2 := by rw [e2, upG_nk (by omega), e44]
  rw [e442]
  refine ⟨⟨by omega, by omega⟩, fun G3 e3 => h G3 ⟨fun x hx hs => ?_, ?_, ?_, ?_⟩⟩
  · rw [e3, up_na hx, e2, up_na hx]; exact o1 x hs
  · rw [e3, upG_nk (by omega), e2, upG_same]
  · rw [e3, upG_same]
  · have sl : 46 ≤ slotA G := by unfold slotA; omega
    refine (RepS.copy hW c1 hR).congr (fun x x1 x2 => ?_)
    rw [e3, up_na (by omega), e2, up_na (by omega)]
theorem KeptC.rep1C {G G1 : GH} {W : WT} (hg : RgC G) (k : KeptC G G1 W) (r : RepS G 1 W) : RepS G1 1 W := by
  have := hg.2
  refine r.congr (fun x x1 x2 => k.1 x (by omega) (by unfold slotA; omega))
theorem KeptC.rowC {G G1 : GH} {W : WT} (hg : RgC G) (k : KeptC G G1 W) {x : Nat} (hx : x < 44 ∨ 206 ≤ x ∨ x = 45) : G1 x = G x := by
  have := hg.2
  exact k.1 x (by omega) (by unfold slotA; omega)
/-- an act that kept the state first: it shows W' now -/
def Acted (j : Int) (W W' : WT) (G G2 : GH) : Prop := ∃ G1, KeptC G G1 W ∧ (∀ x, ¬ (1 ≤ x ∧ x < 21) → ¬ (208 ≤ x ∧ x ≤ 229) → G2 x = G1 x) ∧ WF (j + 1) W' ∧ RepS G2 1 W'
/-- the column c's digit of a hymn, or -1 -/
def digH (h c : Int) : Int := if c = 0 then (if h / 100 < 1 then -1 else h / 100 % 10) else if c = 1 then (if h / 10 < 1 then -1 else h / 10 % 10) else h % 10
/-- what hangs shows the digits of the hymns that were hung -/
def DIG (W : WT) : Prop := ∀ r col, 0 ≤ r → r < 18 → 0 ≤ col → col < 3 → plaW W (3 * r + col) 0 = -1 ∨ (1 ≤ hunW W r ∧ plaW W (3 * r + col) 0 = digH (hunW W r) col)
/-- what a friend lends and has lent is as at first -/
def FrC (c : Nat → Nat) (W : WT) : Prop := ∀ d : Int, 0 ≤ d → d < 10 → friW W 0 (1 + d) + borW W 0 d = ((c (13 + d.toNat) % 4 : Nat) : Int)
def Goo (c : Nat → Nat) (j : Int) (W : WT) : Prop := WF j W ∧ W 4 = 1 ∧ W 5 = 2 ∧ 1 ≤ W 3 ∧ FrC c W ∧ DIG W
theorem Goo.mono {c : Nat → Nat} {j j' : Int} {W : WT} (hj : j ≤ j') (h : Goo c j W) : Goo c j' W := ⟨h.1.mono hj, h.2⟩
def ringC (G : GH) (i : Int) : Nat := 46 + 20 * ((G 44 1 + 8 - G 44 2 + i) % 8).toNat
def HistC (c : Nat → Nat) (j : Int) (G : GH) : Prop := RgC G ∧ ∀ i, 0 ≤ i → i < G 44 2 → ∃ U, Goo c j U ∧ RepS G (ringC G i) U
def SnapC (c : Nat → Nat) (j : Int) (G : GH) : Prop := ∀ s : Int, 0 ≤ s → s < 2 → (G 207 s.toNat = 0 ∨ G 207 s.toNat = 1) ∧ (G 207 s.toNat = 1 → ∃ U, Goo c j U ∧ RepS G (232 + 20 * s.toNat) U)
def InvW (c : Nat → Nat) (j : Int) (G : GH) (W : WT) : Prop := Goo c j W ∧ RepS G 1 W ∧ HistC c j G ∧ SnapC c j G
section INVW
variable {c : Nat → Nat} {j j' : Int} {G G2 : GH} {W W' : WT}
theorem InvW.wf (h : InvW c j G W) : WF j W := h.1.1
theorem InvW.rp (h : InvW c j G W) : RepS G 1 W := h.2.1
theorem InvW.rg (h : InvW c j G W) : RgC G := h.2.2.1.1
theorem InvW.mono (hj : j ≤ j') (h : InvW c j G W) : InvW c j' G W := by
  obtain ⟨h1, h2, ⟨h3, h4⟩, h5⟩ := h
  refine ⟨h1.mono hj, h2, ⟨h3, fun i i0 i1 => ?_⟩, fun s s0 s1 => ?_⟩
  · obtain ⟨U, u1, u2⟩ := h4 i i0 i1; exact ⟨U, u1.mono hj, u2⟩
  · obtain ⟨q1, q2⟩ := h5 s s0 s1
    exact ⟨q1, fun q => by obtain ⟨U, u1, u2⟩ := q2 q; exact ⟨U, u1.mono hj, u2⟩⟩
/-- nothing of it changed -/
theorem InvW.congr (h : InvW c j G W) (e : ∀ x, (1 ≤ x ∧ x < 21) ∨ (44 ≤ x ∧ x ≤ 207) ∨ (232 ≤ x ∧ x ≤ 271) → G2 x = G x) : InvW c j G2 W := by
  obtain ⟨h1, h2, ⟨h3, h4⟩, h5⟩ := h
  have e44 : G2 44 = G 44 := e 44 (by omega)
  have e207 : G2 207 = G 207 := e 207 (by omega)
  have hr : RgC G2 := by unfold RgC at h3 ⊢; rw [e44]; exact h3
  have h1' : Goo c j W := h1
  have hS : RepS G2 1 W := h2.congr (fun x x1 x2 => e x (by omega))
  refine ⟨h1', hS, ⟨hr, fun i i0 i1 => ?_⟩, fun s s0 s1 => ?_⟩
  · rw [e44] at i1
    obtain ⟨U, u1, u2⟩ := h4 i i0 i1
    have er : ringC G2 i = ringC G i := by unfold ringC; rw [e44]
    refine ⟨U, u1, ?_⟩
    rw [er]
    refine u2.congr (fun x x1 x2 => e x ?_)
    unfold ringC at x1 x2
    omega
  · obtain ⟨q1, q2⟩ := h5 s s0 s1
    rw [e207]
    exact ⟨q1, fun q => by obtain ⟨U, u1, u2⟩ := q2 q; exact ⟨U, u1, u2.congr (fun x x1 x2 => e x (by omega))⟩⟩
theorem InvW.acted (h : InvW c j G W) (a : Acted j W W' G G2) (g : W' 4 = 1 ∧ W' 5 = 2 ∧ 1 ≤ W' 3 ∧ FrC c W' ∧ DIG W') : InvW c (j + 1) G2 W' := by
  obtain ⟨h1, h2, ⟨h3, h4⟩, h5⟩ := h
  obtain ⟨G1, k, o, w, r⟩ := a
  obtain ⟨k1, k2, k3, k4⟩ := k
  obtain ⟨q1, q2⟩ := h3
  have e44 : G2 44 = G1 44 := o 44 (by omega) (by omega)
  refine ⟨⟨w, g⟩, r, ⟨⟨by rw [e44]; omega, by rw [e44]; omega⟩, fun i i0 i1 => ?_⟩, fun s s0 s1 => ?_⟩
  · rw [e44] at i1
    have rg : ∀ x, 46 ≤ x → x ≤ 205 → G2 x = G1 x := fun x x0 x1 => o x (by omega) (by omega)
    by_cases cl : i = G1 44 2 - 1
    · refine ⟨W, h1.mono (by omega), ?_⟩
      have ea : ringC G2 i = slotA G := by unfold ringC slotA; rw [e44]; omega
      rw [ea]
      refine k4.congr (fun x x1 x2 => rg x ?_ ?_)
      · unfold slotA at x1; omega
      · unfold slotA at x2; omega
    · by_cases c8 : G 44 2 < 8
      · obtain ⟨U, u1, u2⟩ := h4 i i0 (by omega)
        refine ⟨U, u1.mono (by omega), ?_⟩
        have ea : ringC G2 i = ringC G i := by unfold ringC; rw [e44]; omega
        rw [ea]
        refine u2.congr (fun x x1 x2 => ?_)
        rw [rg x (by unfold ringC at x1; omega) (by unfold ringC at x2; omega)]
        exact k1 x (by unfold ringC at x1; omega) (by unfold ringC at x1 x2; unfold slotA; omega)
      · obtain ⟨U, u1, u2⟩ := h4 (i + 1) (by omega) (by omega)
        refine ⟨U, u1.mono (by omega), ?_⟩
        have ea : ringC G2 i = ringC G (i + 1) := by unfold ringC; rw [e44]; omega
        rw [ea]
        refine u2.congr (fun x x1 x2 => ?_)
        rw [rg x (by unfold ringC at x1; omega) (by unfold ringC at x2; omega)]
        exact k1 x (by unfold ringC at x1; omega) (by unfold ringC at x1 x2; unfold slotA; omega)
  · have e2 : ∀ x, 206 ≤ x → x ≤ 271 → ¬ (208 ≤ x ∧ x ≤ 229) → G2 x = G x := fun x x0 x1 x2 => (o x (by omega) x2).trans (k1 x (by omega) (by unfold slotA; omega))
    obtain ⟨y1, y2⟩ := h5 s s0 s1
    rw [e2 207 (by omega) (by omega) (by omega)]
    exact ⟨y1, fun y => by obtain ⟨U, u1, u2⟩ := y2 y; exact ⟨U, u1.mono (by omega), u2.congr (fun x x1 x2 => e2 x (by omega) (by omega) (by omega))⟩⟩
end INVW
-- ===== the side facts where parts of W stay =====
section SIDE
variable {c : Nat → Nat} {W W' : WT}
theorem FrC.same (h : FrC c W) (hl : 0 ≤ W 6 ∧ W 6 ≤ 12) (e6 : W' 6 = W 6) (ef : EqR 51 84 W' W) (el : EqR 84 132 W' W) : FrC c W' := by
  intro d d0 d1
  have q1 : friW W' 0 (1 + d) = friW W 0 (1 + d) := ef _ (by omega) (by omega)
  have q2 : borW W' 0 d = borW W 0 d := rR_bor e6 el hl.2
  rw [q1, q2]; exact h d d0 d1
theorem DIG.same (h : DIG W) (ep : EqR 276 456 W' W) : DIG W' := by
  intro r col r0 r1 c0 c1
  have q1 : plaW W' (3 * r + col) 0 = plaW W (3 * r + col) 0 := ep _ (by omega) (by omega)
  have q2 : hunW W' r = hunW W r := ep _ (by omega) (by omega)
  rw [q1, q2]; exact h r col r0 r1 c0 c1
/-- some places fell -/
theorem DIG.fell (h : DIG W) (hp : ∀ p, 0 ≤ p → p < 54 → plaW W' p 0 = -1 ∨ plaW W' p 0 = plaW W p 0) (hh : ∀ r, 0 ≤ r → r < 18 → hunW W' r = hunW W r) : DIG W' := by
  intro r col r0 r1 c0 c1
  rw [hh r r0 r1]
  rcases hp (3 * r + col) (by omega) (by omega) with q | q
  · exact Or.inl q
  · rw [q]; exact h r col r0 r1 c0 c1
end SIDE

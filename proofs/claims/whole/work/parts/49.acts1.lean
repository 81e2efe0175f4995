-- ===== PURE LAYER: setTurn, setSplit =====
section A1
variable {W W' : WT} {G G' : GH} {a : Nat} {j j' : Int}
theorem WF.flds (h : WF j W) (e : EqR 12 456 W' W) (e0 : W' 0 = W 0) (e3 : W' 3 = W 3) (e4 : W' 4 = W 4) (e5 : W' 5 = W 5) (e6 : W' 6 = W 6) (w1 : W' 1 = 0 ∨ W' 1 = 1) (w2 : W' 2 = 0 ∨ W' 2 = 1) (w7 : W' 7 = W 7) (w8 : 0 ≤ W' 8 ∧ W' 8 ≤ j') (w9 : 0 ≤ W' 9 ∧ W' 9 ≤ 108 * j') (w10 : 0 ≤ W' 10 ∧ W' 10 ≤ 18 * j') (w11 : 0 ≤ W' 11 ∧ W' 11 ≤ 18 * j') : WF j' W' :=
  have er := e.sub (lo' := 12) (hi' := 15) (by omega) (by omega)
  have ec := e.sub (lo' := 15) (hi' := 51) (by omega) (by omega)
  have ef := e.sub (lo' := 51) (hi' := 84) (by omega) (by omega)
  have el := e.sub (lo' := 84) (hi' := 132) (by omega) (by omega)
  have es := e.sub (lo' := 132) (hi' := 276) (by omega) (by omega)
  have ep := e.sub (lo' := 276) (hi' := 438) (by omega) (by omega)
  have eh := e.sub (lo' := 438) (hi' := 456) (by omega) (by omega)
  ⟨by rw [e0]; exact h.bo, w1, w2, by rw [e3]; exact h.ow, by rw [e4]; exact h.fr, by rw [e5]; exact h.se, by rw [e6]; exact h.lo, by rw [w7]; exact h.ha, w8, w9, w10, w11, h.ro_of e0 er, h.ca_of e3 ec, h.fd_of e4 e6 ef el, h.ln_of e4 e6 el, h.sv_of e5 es, h.pl_of ep, h.pf_of e0 er ep, h.hr_of eh, h.hf_of e0 er eh, h.hc_of e3 ec e6 el ep, h.nh_of w7 ep⟩
theorem RepS.flds (h : WF j W) (r : RepS G a W) (e : EqR 12 456 W' W) (e0 : W' 0 = W 0) (e3 : W' 3 = W 3) (e4 : W' 4 = W 4) (e5 : W' 5 = W 5) (e6 : W' 6 = W 6) (g : ∀ x, a + 1 ≤ x → x ≤ a + 19 → x ≠ a + 2 → x ≠ a + 11 → x ≠ a + 14 → G' x = G x)
    (w0 : G' a 0 = W' 0) (w2 : G' a 2 = W' 2) (w1 : G' (a + 2) 0 = W' 1) (w3 : G' (a + 2) 1 = W' 3) (w4 : G' (a + 2) 5 = W' 4) (w6 : G' (a + 2) 8 = W' 6) (w5 : G' (a + 11) 0 = W' 5) (w7 : G' (a + 14) 0 = W' 7) (w8 : G' a 6 = W' 8) (w9 : G' a 7 = W' 9) (w10 : G' a 8 = W' 10) (w11 : G' a 9 = W' 11) : RepS G' a W' :=
  have er := e.sub (lo' := 12) (hi' := 15) (by omega) (by omega)
  have ec := e.sub (lo' := 15) (hi' := 51) (by omega) (by omega)
  have ef := e.sub (lo' := 51) (hi' := 84) (by omega) (by omega)
  have el := e.sub (lo' := 84) (hi' := 132) (by omega) (by omega)
  have es := e.sub (lo' := 132) (hi' := 276) (by omega) (by omega)
  have ep := e.sub (lo' := 276) (hi' := 438) (by omega) (by omega)
  have ex := e.sub (lo' := 276) (hi' := 456) (by omega) (by omega)
  have G1 := fun x (p1 : a + 1 ≤ x) (p2 : x ≤ a + 19) (p3 : x ≠ a + 2) (p4 : x ≠ a + 11) (p5 : x ≠ a + 14) => g x p1 p2 p3 p4 p5
  ⟨w0, RepS.ro_of h r e0 er (G1 _ (by omega) (by omega) (by omega) (by omega) (by omega)), w2, w1, w3, w4, w6, RepS.ca_of h r e3 ec (G1 _ (by omega) (by omega) (by omega) (by omega) (by omega)) (G1 _ (by omega) (by omega) (by omega) (by omega) (by omega)),
    RepS.ct_of h r e3 ec e6 el (G1 _ (by omega) (by omega) (by omega) (by omega) (by omega)), RepS.fd_of h r e4 ef (G1 _ (by omega) (by omega) (by omega) (by omega) (by omega)) (G1 _ (by omega) (by omega) (by omega) (by omega) (by omega)),
    RepS.ln_of h r e6 el (G1 _ (by omega) (by omega) (by omega) (by omega) (by omega)) (G1 _ (by omega) (by omega) (by omega) (by omega) (by omega)) (G1 _ (by omega) (by omega) (by omega) (by omega) (by omega)), w5, RepS.sv_of h r e5 es (G1 _ (by omega) (by omega) (by omega) (by omega) (by omega)) (G1 _ (by omega) (by omega) (by omega) (by omega) (by omega)),
    w7, HangS.of h r.hs e0 er ex (fun x x1 x2 => G1 x (by omega) (by omega) (by omega) (by omega) (by omega)), RepS.hg_of r ep (G1 _ (by omega) (by omega) (by omega) (by omega) (by omega)), w8, w9, w10, w11⟩
end A1
theorem join_z {x : Int} {F : Int → Prop} (h0 : x = 0 → F 0) (h1 : x ≠ 0 → F 1) : join1 F (fun j => (x = 0 → j 0) ∧ (x ≠ 0 → j 1)) := ⟨h0, h1⟩
/-- both sides of a kept state: after the class kept, before it changed anything -/
theorem KeptC.rep1 {j : Int} {G G1 : GH} {W : WT} (hH : HistR j G) (k : KeptC G G1 W) (r : RepS G 1 W) : RepS G1 1 W := by
  have := hH.2.2.1
  refine r.congr (fun x x1 x2 => k.1 x (by omega) (by unfold slotA; omega))
theorem KeptC.row {j : Int} {G G1 : GH} {W : WT} (hH : HistR j G) (k : KeptC G G1 W) {x : Nat} (hx : x < 44 ∨ 206 ≤ x ∨ x = 45) : G1 x = G x := by
  have := hH.2.2.1
  exact k.1 x (by omega) (by unfold slotA; omega)
theorem Rel.hi {j : Nat} {G : GH} (h : Rel j G) : HistR (j : Int) G := h.2.2.2.1
theorem KeptM.w {G G' : GH} (k : KeptM G G') : G' 273 = G 273 := k.1 273 (by omega) (by omega)
section A2
variable {j : Nat} {G : GH} {K : GH → Prop} {L : Nat} {xs : Nat → Int32} {i4 : Int}
theorem act_35 (h : Rel j G) (hK : ∀ G', Rel (j + 1) G' → K G') {v : Int} (hv : v = 0 ∨ v = 1) (x : Int) (hx : ∀ F : Int → Prop, F v → join1 F (fun j => (x = 0 → j 0) ∧ (x ≠ 0 → j 1))) :
    f_X9_setTurn v G (fun r1 G1 => join1 (fun v2 => f_X10_setTurn v2 G1 (tail0 K r1)) (fun j2 => (x = 0 → j2 0) ∧ (x ≠ 0 → j2 1))) := by
  have hW := h.wf
  have hR := h.rp
  refine c_keep hW hR h.hi (fun G1 kc => ⟨hv, fun G2 e2 => ?_⟩)
  have r1 := kc.rep1 h.hi hR
  have tu : G1 3 0 = G 273 1 := r1.tu
  refine ⟨by rw [tu]; exact hW.tu, hx _ ?_⟩
  intro G3 e3
  have hz : ∀ F : Int → Prop, F v → join1 F (fun j => (v = 0 → j 0) ∧ (v ≠ 0 → j 1)) := fun F q => by
    rcases hv with rfl | rfl
    · exact join_z (fun _ => q) (fun c => absurd rfl c)
    · exact join_z (fun c => by omega) (fun _ => q)
  refine hz _ ?_
  have g6 : G3 272 6 = G 272 6 := by rw [e3, upG_nk (by omega), e2, up_na (by omega), kc.row h.hi (by omega)]
  refine m_keeps (by rw [g6]; exact h.hi.1) (fun G4 km => ⟨⟨by omega, by omega⟩, fun G5 e5 => ?_⟩)
  have w4 : G4 273 = G 273 := by rw [km.w, e3, up_na (by omega), e2, up_na (by omega), kc.row h.hi (by omega)]
  have w5 : ∀ k, k ≠ 1 → G5 273 k = G 273 k := fun k hk => by rw [e5, upG_nk (by omega), w4]
  have w51 : G5 273 1 = v := by rw [e5]; exact upG_same _ _ _ _
  have rel : Rel (j + 1) G5 := by
    refine h.acted kc (Gc := G2) (Gm0 := G3) (Gm := G4) (fun x q q1 => ?_) (fun k q => ?_) (fun x q => ?_) (fun k q => ?_) km (fun x q q1 => ?_) (fun k q => ?_) ?_ ?_
    · rw [e2, up_na (by omega)]
    · rw [e2, up_na (by omega)]
    · rw [e3, up_na (by unfold ownA at q; omega)]
    · rw [e3, upG_nk (by unfold ownK at q; omega)]
    · rw [e5, up_na q1]
    · rw [e5, up_na (by omega)]
    · have := hW.he; have := hW.wo; have := hW.hu; have := hW.ou
      refine hW.flds (fun k q0 q1 => w5 k (by omega)) (w5 0 (by omega)) (w5 3 (by omega)) (w5 4 (by omega)) (w5 5 (by omega)) (w5 6 (by omega)) (by rw [w51]; exact hv) (by rw [w5 2 (by omega)]; exact hW.sp) (w5 7 (by omega)) (by rw [w5 8 (by omega)]; omega) (by rw [w5 9 (by omega)]; omega) (by rw [w5 10 (by omega)]; omega) (by rw [w5 11 (by omega)]; omega)
    · have r2 : ∀ x, x ≠ 3 → G2 x = G1 x := fun x hx => by rw [e2, up_na hx]
      have r3 : ∀ k, k ≠ 0 → G2 3 k = G1 3 k := fun k hk => by rw [e2, upG_nk hk]
      refine RepS.flds hW r1 (fun k q0 q1 => w5 k (by omega)) (w5 0 (by omega)) (w5 3 (by omega)) (w5 4 (by omega)) (w5 5 (by omega)) (w5 6 (by omega)) (fun x q0 q1 q2 q3 q4 => r2 x (by omega)) ?_ ?_ ?_ ?_ ?_ ?_ ?_ ?_ ?_ ?_ ?_ ?_
      · rw [r2 1 (by omega), w5 0 (by omega)]; exact r1.bo
      · rw [r2 1 (by omega), w5 2 (by omega)]; exact r1.sp
      · rw [w51, e2]; exact upG_same _ _ _ _
      · rw [r3 1 (by omega), w5 3 (by omega)]; exact r1.ow
      · rw [r3 5 (by omega), w5 4 (by omega)]; exact r1.fr
      · rw [r3 8 (by omega), w5 6 (by omega)]; exact r1.lo
      · rw [r2 _ (by omega), w5 5 (by omega)]; exact r1.se
      · rw [r2 _ (by omega), w5 7 (by omega)]; exact r1.ha
      · rw [r2 1 (by omega), w5 8 (by omega)]; exact r1.he
      · rw [r2 1 (by omega), w5 9 (by omega)]; exact r1.wo
      · rw [r2 1 (by omega), w5 10 (by omega)]; exact r1.hu
      · rw [r2 1 (by omega), w5 11 (by omega)]; exact r1.ou
  rw [w4, tu]
  have ht := hW.tu
  show ((G 273 1 ≠ 1 → _) ∧ (G 273 1 = 1 → _))
  exact ⟨fun c => tail0_ok (by omega) (hK _ rel), fun c => tail0_ok (by omega) (hK _ rel)⟩
theorem arm_35 (h : Rel j G) (hK : ∀ G', Rel (j + 1) G' → K G') (hL : 0 ≤ i4 ∧ i4 + 5 ≤ L) : f_law_35 L xs i4 G K := by
  refine ⟨⟨by omega, by omega⟩, ?_⟩
  generalize (xs ((i4 + 1)).toNat).toInt = x
  refine join_z (fun c => ?_) (fun c => ?_)
  · exact act_35 h hK (Or.inl rfl) x (fun F q => join_z (fun _ => q) (fun c2 => absurd c c2))
  · exact act_35 h hK (Or.inr rfl) x (fun F q => join_z (fun c2 => absurd c2 c) (fun _ => q))
end A2

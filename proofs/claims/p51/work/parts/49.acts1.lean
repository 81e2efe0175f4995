-- ===== PURE LAYER: setTurn, setSplit =====
section A1
variable {W W' : WT} {G G' : GH} {a : Nat} {j j' : Int}
theorem WF.flds (h : WF j W) (e : EqR 12 456 W' W) (e0 : W' 0 = W 0) (e3 : W' 3 = W 3) (e4 : W' 4 = W 4) (e5 : W' 5 = W 5) (e6 : W' 6 = W 6) (w1 : W' 1 = 0 ∨ W' 1 = 1) (w2 : W' 2 = 0 ∨ W' 2 = 1) (w7 : W' 7 = W 7) (w8 : 0 ≤ W' 8 ∧ W' 8 ≤ j') (w9 : 0 ≤ W' 9 ∧ W' 9 ≤ 108 * j') (w10 : 0 ≤ W' 10 ∧ W' 10 ≤ 18 * j') (w11 : 0 ≤ W' 11 ∧ W' 11 ≤ 18 * j') : WF j' W' :=
  have er := e.sub (lo' := 12) (hi' := 15) (by omega) (by omega)
  have ec := e.sub (lo' := 15) (hi' := 51) (by omega) (by omega)
  have ef := e.sub (lo' := 51) (hi' := 84) (by omega) (by omega)
  have el := e.sub (lo' := 84) (hi' := 132) (by omega) (by omega)
  have es := e.sub (lo' := 132) (hi' := 276) (by omega) (by omega)
  have ep := e.sub (lo' := 276) (hi' := 438) (by omega) (by omega)
  have eh := e.sub (lo' := 438) (hi' := 456) (by omega) (by omega)
  ⟨by rw [e0]; exact h.bo, w1, w2, by rw [e3]; exact h.ow, by rw [e4]; exact h.fr, by rw [e5]; exact h.se, by rw [e6]; exact h.lo, by rw [w7]; exact h.ha, w8, w9, w10, w11, h.ro_of e0 er, h.ca_of e3 ec, h.fd_of e4 e6 ef el, h.ln_of e4 e6 el, h.sv_of e5 es, h.pl_of ep, h.pf_of e0 er ep, h.hr_of eh, h.hf_of e0 er eh, h.hc_of e3 ec e6 el ep, h.nh_of w7 ep⟩
theorem RepS.flds (h : WF j W) (r : RepS G a W) (e : EqR 12 456 W' W) (e0 : W' 0 = W 0) (e3 : W' 3 = W 3) (e4 : W' 4 = W 4) (e5 : W' 5 = W 5) (e6 : W' 6 = W 6) (g : ∀ x, a + 1 ≤ x → x ≤ a + 19 → x ≠ a + 2 → x ≠ a + 11 → x ≠ a + 14 → G' x = G x)
    (w0 : G' a 0 = W' 0) (w2 : G' a 2 = W' 2) (w1 : G' (a + 2) 0 = W' 1) (w3 : G' (a + 2) 1 = W' 3) (w4 : G' (a + 2) 5 = W' 4) (w6 : G' (a + 2) 8 = W' 6) (w5 : G' (a + 11) 0 = W' 5) (w7 : G' (a + 14) 0 = W' 7) (w8 : G' a 6 = W' 8) (w9 : G' a 7 = W' 9) (w10 : G' a 8 = W' 10) (w11 : G' a 9 = W' 11) : RepS G' a W' :=
  have er := e.sub (lo' := 12) (hi' := 15) (by omega) (by omega)
  have ec := e.sub (lo' := 15) (hi' := 51) (by omega) (by omega)
  have ef := e.sub (lo' := 51) (hi' := 84) (by omega) (by omega)
  have el := e.sub (lo' := 84) (hi' := 132) (by omega) (by omega)
  have es := e.sub (lo' := 132) (hi' := 276) (by omega) (by omega)
  have ep := e.sub (lo' := 276) (hi' := 438) (by omega) (by omega)
  have ex := e.sub (lo' := 276) (hi' := 456) (by omega) (by omega)
  have G1 := fun x (p1 : a + 1 ≤ x) (p2 : x ≤ a + 19) (p3 : x ≠ a + 2) (p4 : x ≠ a + 11) (p5 : x ≠ a + 14) => g x p1 p2 p3 p4 p5
  ⟨w0, RepS.ro_of h r e0 er (G1 _ (by omega) (by omega) (by omega) (by omega) (by omega)), w2, w1, w3, w4, w6, RepS.ca_of h r e3 ec (G1 _ (by omega) (by omega) (by omega) (by omega) (by omega)) (G1 _ (by omega) (by omega) (by omega) (by omega) (by omega)),
    RepS.ct_of h r e3 ec e6 el (G1 _ (by omega) (by omega) (by omega) (by omega) (by omega)), RepS.fd_of h r e4 ef (G1 _ (by omega) (by omega) (by omega) (by omega) (by omega)) (G1 _ (by omega) (by omega) (by omega) (by omega) (by omega)),
    RepS.ln_of h r e6 el (G1 _ (by omega) (by omega) (by omega) (by omega) (by omega)) (G1 _ (by omega) (by omega) (by omega) (by omega) (by omega)) (G1 _ (by omega) (by omega) (by omega) (by omega) (by omega)), w5, RepS.sv_of h r e5 es (G1 _ (by omega) (by omega) (by omega) (by omega) (by omega)) (G1 _ (by omega) (by omega) (by omega) (by omega) (by omega)),
    w7, HangS.of h r.hs e0 er ex (fun x x1 x2 => G1 x (by omega) (by omega) (by omega) (by omega) (by omega)), RepS.hg_of r ep (G1 _ (by omega) (by omega) (by omega) (by omega) (by omega)), w8, w9, w10, w11⟩
end A1
theorem join_z {x : Int} {F : Int → Prop} (h0 : x = 0 → F 0) (h1 : x ≠ 0 → F 1) : join1 F (fun j => (x = 0 → j 0) ∧ (x ≠ 0 → j 1)) := ⟨h0, h1⟩
/-- both sides of a kept state: after the class kept, before it changed anything -/
theorem KeptC.rep1 {j : Int} {G G1 : GH} {W : WT} (hH : HistR j G) (k : KeptC G G1 W) (r : RepS G 1 W) : RepS G1 1 W := by
  have := hH.2.2.1
  refine r.congr (fun x x1 x2 => k.1 x (by omega) (by unfold slotA; omega))
theorem KeptC.row {j : Int} {G G1 : GH} {W : WT} (hH : HistR j G) (k : KeptC G G1 W) {x : Nat} (hx : x < 44 ∨ 206 ≤ x ∨ x = 45) : G1 x = G x := by
  have := hH.2.2.1
  exact k.1 x (by omega) (by unfold slotA; omega)
theorem Rel.hi {j : Nat} {G : GH} (h : Rel j G) : HistR (j : Int) G := h.2.2.2.1
theorem KeptM.w {G G' : GH} (k : KeptM G G') : G' 273 = G 273 := k.1 273 (by omega) (by omega)
section A2
variable {j : Nat} {G : GH} {K : GH → Prop} {L : Nat} {xs : Nat → Int32} {i4 : Int}
end A2

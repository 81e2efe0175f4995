-- ===== PURE LAYER: setSplit, clear, undo, snapshots =====
section A2
variable {j : Nat} {G : GH} {K : GH → Prop} {L : Nat} {xs : Nat → Int32} {i4 : Int}
theorem act_36 (h : Rel j G) (hK : ∀ G', Rel (j + 1) G' → K G') {v : Int} (hv : v = 0 ∨ v = 1) (x : Int) (hx : ∀ F : Int → Prop, F v → join1 F (fun j => (x = 0 → j 0) ∧ (x ≠ 0 → j 1))) :
    f_X9_setSplit v G (fun r1 G1 => join1 (fun v2 => f_X10_setSplit v2 G1 (tail0 K r1)) (fun j2 => (x = 0 → j2 0) ∧ (x ≠ 0 → j2 1))) := by
  have hW := h.wf
  have hR := h.rp
  refine c_keep hW hR h.hi (fun G1 kc => ⟨hv, fun G2 e2 => ?_⟩)
  have r1 := kc.rep1 h.hi hR
  have sp : G1 1 2 = G 273 2 := r1.sp
  refine ⟨by rw [sp]; exact hW.sp, hx _ ?_⟩
  intro G3 e3
  have hz : ∀ F : Int → Prop, F v → join1 F (fun j => (v = 0 → j 0) ∧ (v ≠ 0 → j 1)) := fun F q => by
    rcases hv with rfl | rfl
    · exact join_z (fun _ => q) (fun c => absurd rfl c)
    · exact join_z (fun c => by omega) (fun _ => q)
  refine hz _ ?_
  have g6 : G3 272 6 = G 272 6 := by rw [e3, upG_nk (by omega), e2, up_na (by omega), kc.row h.hi (by omega)]
  refine m_keeps (by rw [g6]; exact h.hi.1) (fun G4 km => ⟨⟨by omega, by omega⟩, fun G5 e5 => ?_⟩)
  have w4 : G4 273 = G 273 := by rw [km.w, e3, up_na (by omega), e2, up_na (by omega), kc.row h.hi (by omega)]
  have w5 : ∀ k, k ≠ 2 → G5 273 k = G 273 k := fun k hk => by rw [e5, upG_nk (by omega), w4]
  have w51 : G5 273 2 = v := by rw [e5]; exact upG_same _ _ _ _
  have rel : Rel (j + 1) G5 := by
    refine h.acted kc (Gc := G2) (Gm0 := G3) (Gm := G4) (fun x q q1 => ?_) (fun k q => ?_) (fun x q => ?_) (fun k q => ?_) km (fun x q q1 => ?_) (fun k q => ?_) ?_ ?_
    · rw [e2, up_na (by omega)]
    · rw [e2, up_na (by omega)]
    · rw [e3, up_na (by unfold ownA at q; omega)]
    · rw [e3, upG_nk (by unfold ownK at q; omega)]
    · rw [e5, up_na q1]
    · rw [e5, up_na (by omega)]
    · have := hW.he; have := hW.wo; have := hW.hu; have := hW.ou
      refine hW.flds (fun k q0 q1 => w5 k (by omega)) (w5 0 (by omega)) (w5 3 (by omega)) (w5 4 (by omega)) (w5 5 (by omega)) (w5 6 (by omega)) (by rw [w5 1 (by omega)]; exact hW.tu) (by rw [w51]; exact hv) (w5 7 (by omega)) (by rw [w5 8 (by omega)]; omega) (by rw [w5 9 (by omega)]; omega) (by rw [w5 10 (by omega)]; omega) (by rw [w5 11 (by omega)]; omega)
    · have r2 : ∀ x, x ≠ 1 → G2 x = G1 x := fun x hx => by rw [e2, up_na hx]
      have r3 : ∀ k, k ≠ 2 → G2 1 k = G1 1 k := fun k hk => by rw [e2, upG_nk hk]
      refine RepS.flds hW r1 (fun k q0 q1 => w5 k (by omega)) (w5 0 (by omega)) (w5 3 (by omega)) (w5 4 (by omega)) (w5 5 (by omega)) (w5 6 (by omega)) (fun x q0 q1 q2 q3 q4 => r2 x (by omega)) ?_ ?_ ?_ ?_ ?_ ?_ ?_ ?_ ?_ ?_ ?_ ?_
      · rw [r3 0 (by omega), w5 0 (by omega)]; exact r1.bo
      · rw [w51, e2]; exact upG_same _ _ _ _
      · rw [r2 _ (by omega), w5 1 (by omega)]; exact r1.tu
      · rw [r2 _ (by omega), w5 3 (by omega)]; exact r1.ow
      · rw [r2 _ (by omega), w5 4 (by omega)]; exact r1.fr
      · rw [r2 _ (by omega), w5 6 (by omega)]; exact r1.lo
      · rw [r2 _ (by omega), w5 5 (by omega)]; exact r1.se
      · rw [r2 _ (by omega), w5 7 (by omega)]; exact r1.ha
      · rw [r3 6 (by omega), w5 8 (by omega)]; exact r1.he
      · rw [r3 7 (by omega), w5 9 (by omega)]; exact r1.wo
      · rw [r3 8 (by omega), w5 10 (by omega)]; exact r1.hu
      · rw [r3 9 (by omega), w5 11 (by omega)]; exact r1.ou
  have w42 : G4 273 (2 : Int).toNat = G 273 2 := by rw [w4]; rfl
  rw [w42, sp]
  have ht := hW.sp
  show ((G 273 2 ≠ 1 → _) ∧ (G 273 2 = 1 → _))
  exact ⟨fun c => tail0_ok (by omega) (hK _ rel), fun c => tail0_ok (by omega) (hK _ rel)⟩
theorem arm_36 (h : Rel j G) (hK : ∀ G', Rel (j + 1) G' → K G') (hL : 0 ≤ i4 ∧ i4 + 5 ≤ L) : f_law_36 L xs i4 G K := by
  refine ⟨⟨by omega, by omega⟩, ?_⟩
  generalize (xs ((i4 + 1)).toNat).toInt = x
  refine join_z (fun c => ?_) (fun c => ?_)
  · exact act_36 h hK (Or.inl rfl) x (fun F q => join_z (fun _ => q) (fun c2 => absurd c c2))
  · exact act_36 h hK (Or.inr rfl) x (fun F q => join_z (fun c2 => absurd c2 c) (fun _ => q))
-- everything taken down
/-- W with nothing hung -/
def Bare (W' W : WT) : Prop := (∀ k, k < 276 → k ≠ 7 → W' k = W k) ∧ W' 7 = -1 ∧ ∀ k, 276 ≤ k → k < 456 → W' k = -1
theorem Bare.pla {W W' : WT} (b : Bare W' W) {p h9 : Int} (p0 : 0 ≤ p) (p1 : p < 54) (h0 : 0 ≤ h9) (h1 : h9 < 3) : plaW W' p h9 = -1 := b.2.2 _ (by omega) (by omega)
theorem Bare.hun {W W' : WT} (b : Bare W' W) {r : Int} (p0 : 0 ≤ r) (p1 : r < 18) : hunW W' r = -1 := b.2.2 _ (by omega) (by omega)
theorem Bare.hg {W W' : WT} (b : Bare W' W) {s : Int} (hs : 0 ≤ s) : hgW W' s = 0 := sumN_zero _ (fun p p0 p1 => b2_f (by rw [b.pla p0 (by omega) (by omega) (by omega)]; omega))
theorem Bare.wf {W W' : WT} {n n' : Int} (b : Bare W' W) (h : WF n W) (hn : n ≤ n') : WF n' W' := by
  have er : EqR 12 15 W' W := fun k q0 q1 => b.1 k (by omega) (by omega)
  have ec : EqR 15 51 W' W := fun k q0 q1 => b.1 k (by omega) (by omega)
  have ef : EqR 51 84 W' W := fun k q0 q1 => b.1 k (by omega) (by omega)
  have el : EqR 84 132 W' W := fun k q0 q1 => b.1 k (by omega) (by omega)
  have es : EqR 132 276 W' W := fun k q0 q1 => b.1 k (by omega) (by omega)
  have f := fun k (q : k < 12) (q1 : k ≠ 7) => b.1 k (by omega) q1
  have h8 := h.he; have h9 := h.wo; have h10 := h.hu; have h11 := h.ou
  refine ⟨by rw [f 0 (by omega) (by omega)]; exact h.bo, by rw [f 1 (by omega) (by omega)]; exact h.tu, by rw [f 2 (by omega) (by omega)]; exact h.sp, by rw [f 3 (by omega) (by omega)]; exact h.ow, by rw [f 4 (by omega) (by omega)]; exact h.fr, by rw [f 5 (by omega) (by omega)]; exact h.se, by rw [f 6 (by omega) (by omega)]; exact h.lo, by rw [b.2.1]; omega,
    by rw [f 8 (by omega) (by omega)]; omega, by rw [f 9 (by omega) (by omega)]; omega, by rw [f 10 (by omega) (by omega)]; omega, by rw [f 11 (by omega) (by omega)]; omega, h.ro_of (f 0 (by omega) (by omega)) er, h.ca_of (f 3 (by omega) (by omega)) ec, h.fd_of (f 4 (by omega) (by omega)) (f 6 (by omega) (by omega)) ef el, h.ln_of (f 4 (by omega) (by omega)) (f 6 (by omega) (by omega)) el, h.sv_of (f 5 (by omega) (by omega)) es, ?_, ?_, ?_, ?_, ?_, fun _ p p0 p1 => b.pla p0 p1 (by omega) (by omega)⟩
  · intro p p0 p1
    rw [b.pla p0 p1 (by omega) (by omega), b.pla p0 p1 (by omega) (by omega), b.pla p0 p1 (by omega) (by omega)]; omega
  · have := h.allR
    intro p p0 p1
    rw [rR_allR (f 0 (by omega) (by omega)) er h.bo.2] at p0
    exact b.pla (by omega) p1 (by omega) (by omega)
  · intro r r0 r1
    exact Or.inl (b.hun r0 r1)
  · have := h.allR
    intro r r0 r1
    rw [rR_allR (f 0 (by omega) (by omega)) er h.bo.2] at r0
    exact b.hun (by omega) r1
  · intro s s0 s1
    rw [b.hg s0, rR_cnt (f 3 (by omega) (by omega)) ec (f 6 (by omega) (by omega)) el h.ow.2 h.lo.2 s0]
    exact (cnt_rng h ⟨s0, s1⟩).1
theorem Bare.rep {W W' : WT} {n : Int} {G G' : GH} {a : Nat} (b : Bare W' W) (h : WF n W) (r : RepS G a W) (g : ∀ x, a ≤ x → x ≤ a + 13 → G' x = G x) (g0 : G' (a + 14) 0 = -1) (g1 : ∀ i, i < 18 → G' (a + 15) i = -1) (g2 : ∀ i, i < 54 → G' (a + 16) i = -1 ∧ G' (a + 17) i = -1 ∧ G' (a + 18) i = -1) (g5 : ∀ i, i < 42 → G' (a + 19) i = 0) : RepS G' a W' := by
  have er : EqR 12 15 W' W := fun k q0 q1 => b.1 k (by omega) (by omega)
  have ec : EqR 15 51 W' W := fun k q0 q1 => b.1 k (by omega) (by omega)
  have ef : EqR 51 84 W' W := fun k q0 q1 => b.1 k (by omega) (by omega)
  have el : EqR 84 132 W' W := fun k q0 q1 => b.1 k (by omega) (by omega)
  have es : EqR 132 276 W' W := fun k q0 q1 => b.1 k (by omega) (by omega)
  have f := fun k (q : k < 12) (q1 : k ≠ 7) => b.1 k (by omega) q1
  have g' := fun x (q0 : a ≤ x) (q1 : x ≤ a + 13) => g x q0 q1
  refine ⟨by rw [g' a (by omega) (by omega), f 0 (by omega) (by omega)]; exact r.bo, r.ro_of h (f 0 (by omega) (by omega)) er (g' _ (by omega) (by omega)), by rw [g' a (by omega) (by omega), f 2 (by omega) (by omega)]; exact r.sp, by rw [g' _ (by omega) (by omega), f 1 (by omega) (by omega)]; exact r.tu, by rw [g' _ (by omega) (by omega), f 3 (by omega) (by omega)]; exact r.ow, by rw [g' _ (by omega) (by omega), f 4 (by omega) (by omega)]; exact r.fr, by rw [g' _ (by omega) (by omega), f 6 (by omega) (by omega)]; exact r.lo,
    r.ca_of h (f 3 (by omega) (by omega)) ec (g' _ (by omega) (by omega)) (g' _ (by omega) (by omega)), r.ct_of h (f 3 (by omega) (by omega)) ec (f 6 (by omega) (by omega)) el (g' _ (by omega) (by omega)), r.fd_of h (f 4 (by omega) (by omega)) ef (g' _ (by omega) (by omega)) (g' _ (by omega) (by omega)), r.ln_of h (f 6 (by omega) (by omega)) el (g' _ (by omega) (by omega)) (g' _ (by omega) (by omega)) (g' _ (by omega) (by omega)),
    by rw [g' _ (by omega) (by omega), f 5 (by omega) (by omega)]; exact r.se, r.sv_of h (f 5 (by omega) (by omega)) es (g' _ (by omega) (by omega)) (g' _ (by omega) (by omega)), by rw [g0, b.2.1], ⟨?_, ?_⟩, ?_,
    by rw [g' a (by omega) (by omega), f 8 (by omega) (by omega)]; exact r.he, by rw [g' a (by omega) (by omega), f 9 (by omega) (by omega)]; exact r.wo, by rw [g' a (by omega) (by omega), f 10 (by omega) (by omega)]; exact r.hu, by rw [g' a (by omega) (by omega), f 11 (by omega) (by omega)]; exact r.ou⟩
  · intro x i x0 x1 y0 y1
    refine ⟨fun q => ?_, fun q => g1 _ (by omega)⟩
    have q := (act_of (f 0 (by omega) (by omega)) er x0 x1).mp q
    have fr := h.frst x0 (by have := q.1; omega)
    rw [rR_frst er (by omega), b.hun (by omega) (by omega)]
    exact g1 _ (by omega)
  · intro x i x0 x1 y0 y1
    refine ⟨fun q => ?_, fun q => g2 _ (by omega)⟩
    have q := (act_of (f 0 (by omega) (by omega)) er x0 x1).mp q
    have fr := h.frst x0 (by have := q.1; omega)
    rw [rR_frst er (by omega), b.pla (by omega) (by omega) (by omega) (by omega), b.pla (by omega) (by omega) (by omega) (by omega), b.pla (by omega) (by omega) (by omega) (by omega)]
    exact g2 _ (by omega)
  · intro s s0 s1
    rw [b.hg s0]
    exact g5 _ (by omega)
theorem flG_at {G : GH} {a n k : Nat} {v : Int} (h : k < n) : flG G a n v a k = v := by
  unfold flG
  exact if_pos ⟨rfl, h⟩
theorem flG_na {G : GH} {a n x : Nat} {v : Int} (h : x ≠ a) : flG G a n v x = G x := by
  funext k
  unfold flG
  exact if_neg (fun q => h q.1)
theorem c_allDown {a : Nat} {Q : GH → Prop} (h : ∀ G', (∀ x, ¬ (a ≤ x ∧ x ≤ a + 5) → G' x = G x) → G' a 0 = -1 → (∀ i, i < 18 → G' (a + 1) i = -1) → (∀ i, i < 54 → G' (a + 2) i = -1 ∧ G' (a + 3) i = -1 ∧ G' (a + 4) i = -1) → (∀ i, i < 42 → G' (a + 5) i = 0) → Q G') : f_X0_takeAllDown a G Q := by
  intro G1 e1 G2 e2 G3 e3 G4 e4 G5 e5 G6 e6
  refine h G6 (fun x hx => ?_) ?_ (fun i hi => ?_) (fun i hi => ⟨?_, ?_, ?_⟩) (fun i hi => ?_)
  · rw [e6, flG_na (by omega), e5, flG_na (by omega), e4, flG_na (by omega), e3, flG_na (by omega), e2, flG_na (by omega), e1, up_na (by omega)]
  · rw [e6, flG_na (by omega), e5, flG_na (by omega), e4, flG_na (by omega), e3, flG_na (by omega), e2, flG_na (by omega), e1, upG_same]
  · rw [e6, flG_na (by omega), e5, flG_na (by omega), e4, flG_na (by omega), e3, flG_na (by omega), e2, flG_at hi]
  · rw [e6, flG_na (by omega), e5, flG_na (by omega), e4, flG_na (by omega), e3, flG_at hi]
  · rw [e6, flG_na (by omega), e5, flG_na (by omega), e4, flG_at hi]
  · rw [e6, flG_na (by omega), e5, flG_at hi]
  · rw [e6, flG_at hi]
theorem m_takesDown {Q : GH → Prop} (h : ∀ G', (∀ x, x ≠ 273 → G' x = G x) → Bare (G' 273) (G 273) → Q G') : f_X10_takesDown G Q := by
  unfold f_X10_takesDown
  refine up_loop (fun x G1 => (∀ y, y ≠ 273 → G1 y = G y) ∧ (∀ k : Nat, k < 276 → G1 273 k = G 273 k) ∧ (∀ k : Nat, 276 ≤ k → (k : Int) < x → G1 273 k = -1)) 276 456 (by omega) ⟨fun _ _ => rfl, fun _ _ => rfl, fun k k0 k1 => by omega⟩ (fun k x G1 h0 h1 hI kk => ⟨fun c G2 e2 => ?_, fun c => ⟨⟨by omega, by omega⟩, fun G3 e3 => ?_⟩⟩)
  · obtain ⟨i1, i2, i3⟩ := hI
    refine h G2 (fun y hy => by rw [e2, up_na hy]; exact i1 y hy) ⟨fun k k0 k1 => ?_, by rw [e2, upG_same], fun k k0 k1 => ?_⟩
    · rw [e2, upG_nk k1]; exact i2 k k0
    · rw [e2, upG_nk (by omega)]; exact i3 k k0 (by omega)
  · obtain ⟨i1, i2, i3⟩ := hI
    refine kk G3 c ⟨fun y hy => by rw [e3, up_na hy]; exact i1 y hy, fun k k0 => ?_, fun k k0 k1 => ?_⟩
    · rw [e3, upG_nk (by omega)]; exact i2 k k0
    · by_cases c2 : (k : Int) = x
      · rw [e3, show k = x.toNat by omega, upG_same]
      · rw [e3, upG_nk (by omega)]; exact i3 k k0 (by omega)
theorem arm_29 (h : Rel j G) (hK : ∀ G', Rel (j + 1) G' → K G') : f_law_29 L xs i4 G K := by
  have hW := h.wf
  have hR := h.rp
  refine c_keep hW hR h.hi (fun G1 kc => ?_)
  have r1 := kc.rep1 h.hi hR
  refine c_countCards hW r1.hs (c_allDown (fun G2 o2 d0 d1 d2 d5 => ?_))
  intro G3 e3
  have g6 : G3 272 6 = G 272 6 := by rw [e3, upG_nk (by omega), o2 272 (by omega), kc.row h.hi (by omega)]
  refine m_keeps (by rw [g6]; exact h.hi.1) (fun G4 km => ?_)
  have w4 : G4 273 = G 273 := by rw [km.w, e3, up_na (by omega), o2 273 (by omega), kc.row h.hi (by omega)]
  refine p10_allHanging (m_takesDown (fun G5 o5 b5 => ?_))
  rw [w4] at b5
  rw [w4]
  refine tail0_ok rfl (hK _ ?_)
  refine h.acted kc (Gc := G2) (Gm0 := G3) (Gm := G4) (fun x q q1 => ?_) (fun k q => ?_) (fun x q => ?_) (fun k q => ?_) km (fun x q q1 => ?_) (fun k q => ?_) ?_ ?_
  · exact o2 x (by omega)
  · rw [o2 272 (by omega)]
  · rw [e3, up_na (by unfold ownA at q; omega)]
  · rw [e3, upG_nk (by unfold ownK at q; omega)]
  · exact o5 x q1
  · rw [o5 272 (by omega)]
  · exact b5.wf hW (by omega)
  · exact b5.rep hW r1 (fun x x1 x2 => o2 x (by omega)) d0 d1 d2 d5
end A2

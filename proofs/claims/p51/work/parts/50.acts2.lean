-- ===== PURE LAYER: setSplit, clear, undo, snapshots =====
section A2
variable {j : Nat} {G : GH} {K : GH → Prop} {L : Nat} {xs : Nat → Int32} {i4 : Int}
-- everything taken down
/-- W with nothing hung -/
def Bare (W' W : WT) : Prop := (∀ k, k < 276 → k ≠ 7 → W' k = W k) ∧ W' 7 = -1 ∧ ∀ k, 276 ≤ k → k < 456 → W' k = -1
theorem Bare.pla {W W' : WT} (b : Bare W' W) {p h9 : Int} (p0 : 0 ≤ p) (p1 : p < 54) (h0 : 0 ≤ h9) (h1 : h9 < 3) : plaW W' p h9 = -1 := b.2.2 _ (by omega) (by omega)
theorem Bare.hun {W W' : WT} (b : Bare W' W) {r : Int} (p0 : 0 ≤ r) (p1 : r < 18) : hunW W' r = -1 := b.2.2 _ (by omega) (by omega)
theorem Bare.hg {W W' : WT} (b : Bare W' W) {s : Int} (hs : 0 ≤ s) : hgW W' s = 0 := sumN_zero _ (fun p p0 p1 => b2_f (by rw [b.pla p0 (by omega) (by omega) (by omega)]; omega))
theorem Bare.wf {W W' : WT} {n n' : Int} (b : Bare W' W) (h : WF n W) (hn : n ≤ n') : WF n' W' := by
  have er : EqR 12 15 W' W := fun k q0 q1 => b.1 k (by omega) (by omega)
  have ec : EqR 15 51 W' W := fun k q0 q1 => b.1 k (by omega) (by omega)
  have ef : EqR 51 84 W' W := fun k q0 q1 => b.1 k (by omega) (by omega)
  have el : EqR 84 132 W' W := fun k q0 q1 => b.1 k (by omega) (by omega)
  have es : EqR 132 276 W' W := fun k q0 q1 => b.1 k (by omega) (by omega)
  have f := fun k (q : k < 12) (q1 : k ≠ 7) => b.1 k (by omega) q1
  have h8 := h.he; have h9 := h.wo; have h10 := h.hu; have h11 := h.ou
  refine ⟨by rw [f 0 (by omega) (by omega)]; exact h.bo, by rw [f 1 (by omega) (by omega)]; exact h.tu, by rw [f 2 (by omega) (by omega)]; exact h.sp, by rw [f 3 (by omega) (by omega)]; exact h.ow, by rw [f 4 (by omega) (by omega)]; exact h.fr, by rw [f 5 (by omega) (by omega)]; exact h.se, by rw [f 6 (by omega) (by omega)]; exact h.lo, by rw [b.2.1]; omega,
    by rw [f 8 (by omega) (by omega)]; omega, by rw [f 9 (by omega) (by omega)]; omega, by rw [f 10 (by omega) (by omega)]; omega, by rw [f 11 (by omega) (by omega)]; omega, h.ro_of (f 0 (by omega) (by omega)) er, h.ca_of (f 3 (by omega) (by omega)) ec, h.fd_of (f 4 (by omega) (by omega)) (f 6 (by omega) (by omega)) ef el, h.ln_of (f 4 (by omega) (by omega)) (f 6 (by omega) (by omega)) el, h.sv_of (f 5 (by omega) (by omega)) es, ?_, ?_, ?_, ?_, ?_, fun _ p p0 p1 => b.pla p0 p1 (by omega) (by omega)⟩
  · intro p p0 p1
    rw [b.pla p0 p1 (by omega) (by omega), b.pla p0 p1 (by omega) (by omega), b.pla p0 p1 (by omega) (by omega)]; omega
  · have := h.allR
    intro p p0 p1
    rw [rR_allR (f 0 (by omega) (by omega)) er h.bo.2] at p0
    exact b.pla (by omega) p1 (by omega) (by omega)
  · intro r r0 r1
    exact Or.inl (b.hun r0 r1)
  · have := h.allR
    intro r r0 r1
    rw [rR_allR (f 0 (by omega) (by omega)) er h.bo.2] at r0
    exact b.hun (by omega) r1
  · intro s s0 s1
    rw [b.hg s0, rR_cnt (f 3 (by omega) (by omega)) ec (f 6 (by omega) (by omega)) el h.ow.2 h.lo.2 s0]
    exact (cnt_rng h ⟨s0, s1⟩).1
theorem Bare.rep {W W' : WT} {n : Int} {G G' : GH} {a : Nat} (b : Bare W' W) (h : WF n W) (r : RepS G a W) (g : ∀ x, a ≤ x → x ≤ a + 13 → G' x = G x) (g0 : G' (a + 14) 0 = -1) (g1 : ∀ i, i < 18 → G' (a + 15) i = -1) (g2 : ∀ i, i < 54 → G' (a + 16) i = -1 ∧ G' (a + 17) i = -1 ∧ G' (a + 18) i = -1) (g5 : ∀ i, i < 42 → G' (a + 19) i = 0) : RepS G' a W' := by
  have er : EqR 12 15 W' W := fun k q0 q1 => b.1 k (by omega) (by omega)
  have ec : EqR 15 51 W' W := fun k q0 q1 => b.1 k (by omega) (by omega)
  have ef : EqR 51 84 W' W := fun k q0 q1 => b.1 k (by omega) (by omega)
  have el : EqR 84 132 W' W := fun k q0 q1 => b.1 k (by omega) (by omega)
  have es : EqR 132 276 W' W := fun k q0 q1 => b.1 k (by omega) (by omega)
  have f := fun k (q : k < 12) (q1 : k ≠ 7) => b.1 k (by omega) q1
  have g' := fun x (q0 : a ≤ x) (q1 : x ≤ a + 13) => g x q0 q1
  refine ⟨by rw [g' a (by omega) (by omega), f 0 (by omega) (by omega)]; exact r.bo, r.ro_of h (f 0 (by omega) (by omega)) er (g' _ (by omega) (by omega)), by rw [g' a (by omega) (by omega), f 2 (by omega) (by omega)]; exact r.sp, by rw [g' _ (by omega) (by omega), f 1 (by omega) (by omega)]; exact r.tu, by rw [g' _ (by omega) (by omega), f 3 (by omega) (by omega)]; exact r.ow, by rw [g' _ (by omega) (by omega), f 4 (by omega) (by omega)]; exact r.fr, by rw [g' _ (by omega) (by omega), f 6 (by omega) (by omega)]; exact r.lo,
    r.ca_of h (f 3 (by omega) (by omega)) ec (g' _ (by omega) (by omega)) (g' _ (by omega) (by omega)), r.ct_of h (f 3 (by omega) (by omega)) ec (f 6 (by omega) (by omega)) el (g' _ (by omega) (by omega)), r.fd_of h (f 4 (by omega) (by omega)) ef (g' _ (by omega) (by omega)) (g' _ (by omega) (by omega)), r.ln_of h (f 6 (by omega) (by omega)) el (g' _ (by omega) (by omega)) (g' _ (by omega) (by omega)) (g' _ (by omega) (by omega)),
    by rw [g' _ (by omega) (by omega), f 5 (by omega) (by omega)]; exact r.se, r.sv_of h (f 5 (by omega) (by omega)) es (g' _ (by omega) (by omega)) (g' _ (by omega) (by omega)), by rw [g0, b.2.1], ⟨?_, ?_⟩, ?_,
    by rw [g' a (by omega) (by omega), f 8 (by omega) (by omega)]; exact r.he, by rw [g' a (by omega) (by omega), f 9 (by omega) (by omega)]; exact r.wo, by rw [g' a (by omega) (by omega), f 10 (by omega) (by omega)]; exact r.hu, by rw [g' a (by omega) (by omega), f 11 (by omega) (by omega)]; exact r.ou⟩
  · intro x i x0 x1 y0 y1
    refine ⟨fun q => ?_, fun q => g1 _ (by omega)⟩
    have q := (act_of (f 0 (by omega) (by omega)) er x0 x1).mp q
    have fr := h.frst x0 (by have := q.1; omega)
    rw [rR_frst er (by omega), b.hun (by omega) (by omega)]
    exact g1 _ (by omega)
  · intro x i x0 x1 y0 y1
    refine ⟨fun q => ?_, fun q => g2 _ (by omega)⟩
    have q := (act_of (f 0 (by omega) (by omega)) er x0 x1).mp q
    have fr := h.frst x0 (by have := q.1; omega)
    rw [rR_frst er (by omega), b.pla (by omega) (by omega) (by omega) (by omega), b.pla (by omega) (by omega) (by omega) (by omega), b.pla (by omega) (by omega) (by omega) (by omega)]
    exact g2 _ (by omega)
  · intro s s0 s1
    rw [b.hg s0]
    exact g5 _ (by omega)
theorem flG_at {G : GH} {a n k : Nat} {v : Int} (h : k < n) : flG G a n v a k = v := by
  unfold flG
  exact if_pos ⟨rfl, h⟩
theorem flG_na {G : GH} {a n x : Nat} {v : Int} (h : x ≠ a) : flG G a n v x = G x := by
  funext k
  unfold flG
  exact if_neg (fun q => h q.1)
theorem c_allDown {a : Nat} {Q : GH → Prop} (h : ∀ G', (∀ x, ¬ (a ≤ x ∧ x ≤ a + 5) → G' x = G x) → G' a 0 = -1 → (∀ i, i < 18 → G' (a + 1) i = -1) → (∀ i, i < 54 → G' (a + 2) i = -1 ∧ G' (a + 3) i = -1 ∧ G' (a + 4) i = -1) → (∀ i, i < 42 → G' (a + 5) i = 0) → Q G') : f_X0_takeAllDown a G Q := by
  intro G1 e1 G2 e2 G3 e3 G4 e4 G5 e5 G6 e6
  refine h G6 (fun x hx => ?_) ?_ (fun i hi => ?_) (fun i hi => ⟨?_, ?_, ?_⟩) (fun i hi => ?_)
  · rw [e6, flG_na (by omega), e5, flG_na (by omega), e4, flG_na (by omega), e3, flG_na (by omega), e2, flG_na (by omega), e1, up_na (by omega)]
  · rw [e6, flG_na (by omega), e5, flG_na (by omega), e4, flG_na (by omega), e3, flG_na (by omega), e2, flG_na (by omega), e1, upG_same]
  · rw [e6, flG_na (by omega), e5, flG_na (by omega), e4, flG_na (by omega), e3, flG_na (by omega), e2, flG_at hi]
  · rw [e6, flG_na (by omega), e5, flG_na (by omega), e4, flG_na (by omega), e3, flG_at hi]
  · rw [e6, flG_na (by omega), e5, flG_na (by omega), e4, flG_at hi]
  · rw [e6, flG_na (by omega), e5, flG_at hi]
  · rw [e6, flG_at hi]
end A2

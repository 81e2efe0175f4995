-- ===== PURE LAYER: parts of WF and RepS, carried over where W and the class's rows are the same =====
section REG
variable {W W' : WT} {G G' : GH} {a : Nat} {j j' : Int}
def EqR (lo hi : Nat) (W' W : WT) : Prop := ∀ k, lo ≤ k → k < hi → W' k = W k
theorem EqR.at {lo hi : Nat} (e : EqR lo hi W' W) {i : Int} (h0 : (lo : Int) ≤ i) (h1 : i < (hi : Int)) : W' i.toNat = W i.toNat := e _ (by omega) (by omega)
theorem EqR.sub {lo hi lo' hi' : Nat} (e : EqR lo hi W' W) (h0 : lo ≤ lo') (h1 : hi' ≤ hi) : EqR lo' hi' W' W := fun k q0 q1 => e k (by omega) (by omega)
theorem rR_row (e : EqR 12 15 W' W) {b : Int} (h0 : 0 ≤ b) (h : b < 3) : rowW W' b = rowW W b := e _ (by omega) (by omega)
theorem rR_card (e : EqR 15 51 W' W) {k h : Int} (k0 : 0 ≤ k) (hk : k < 12) (h0 : 0 ≤ h) (hh : h < 3) : cardW W' k h = cardW W k h := e _ (by omega) (by omega)
theorem rR_fri (e : EqR 51 84 W' W) {k h : Int} (k0 : 0 ≤ k) (hk : k < 3) (h0 : 0 ≤ h) (hh : h < 11) : friW W' k h = friW W k h := e _ (by omega) (by omega)
theorem rR_loan (e : EqR 84 132 W' W) {k h : Int} (k0 : 0 ≤ k) (hk : k < 12) (h0 : 0 ≤ h) (hh : h < 4) : loanW W' k h = loanW W k h := e _ (by omega) (by omega)
theorem rR_serv (e : EqR 132 276 W' W) {k h : Int} (k0 : 0 ≤ k) (hk : k < 16) (h0 : 0 ≤ h) (hh : h < 9) : servW W' k h = servW W k h := e _ (by omega) (by omega)
theorem rR_pla (e : EqR 276 438 W' W) {k h : Int} (k0 : 0 ≤ k) (hk : k < 54) (h0 : 0 ≤ h) (hh : h < 3) : plaW W' k h = plaW W k h := e _ (by omega) (by omega)
theorem rR_hun (e : EqR 438 456 W' W) {k : Int} (k0 : 0 ≤ k) (hk : k < 18) : hunW W' k = hunW W k := e _ (by omega) (by omega)
theorem rR_frst (e : EqR 12 15 W' W) {b : Int} (h : b ≤ 3) : frstW W' b = frstW W b := sumZ_congr (fun i h0 h1 => rR_row e h0 (by omega))
theorem rR_allR (e0 : W' 0 = W 0) (e : EqR 12 15 W' W) (h : W 0 ≤ 3) : allRW W' = allRW W := by
  unfold allRW
  rw [e0]
  exact rR_frst e h
theorem rR_bor (e0 : W' 6 = W 6) (e : EqR 84 132 W' W) (h : W 6 ≤ 12) {f d : Int} : borW W' f d = borW W f d := by
  unfold borW
  rw [e0]
  refine sumZ_congr (fun l h0 h1 => ?_)
  rw [rR_loan e h0 (by omega) (by omega) (by omega), rR_loan e h0 (by omega) (by omega) (by omega), rR_loan e h0 (by omega) (by omega) (by omega)]
theorem rR_hg (e : EqR 276 438 W' W) {s : Int} : hgW W' s = hgW W s := sumZ_congr (fun p h0 h1 => by
  rw [rR_pla e h0 h1 (by omega) (by omega)])
theorem rR_cnt (e3 : W' 3 = W 3) (ec : EqR 15 51 W' W) (e6 : W' 6 = W 6) (el : EqR 84 132 W' W) (h3 : W 3 ≤ 12) (h : W 6 ≤ 12) {s : Int} (hs : 0 ≤ s) : cntW (-1) W' s = cntW (-1) W s := by
  unfold cntW
  split
  · rfl
  · split
    · rw [e3, rR_card ec hs (by omega) (by omega) (by omega)]
    · exact rR_bor e6 el h
-- the parts of WF
theorem WF.ro_of (h : WF j W) (e0 : W' 0 = W 0) (e : EqR 12 15 W' W) : ∀ b, 0 ≤ b → b < W' 0 → 1 ≤ rowW W' b ∧ rowW W' b ≤ 6 := by
  have := h.bo
  intro b h0 h1
  rw [e0] at h1
  rw [rR_row e h0 (by omega)]; exact h.ro b h0 h1
theorem WF.ca_of (h : WF j W) (e3 : W' 3 = W 3) (e : EqR 15 51 W' W) : ∀ k, 0 ≤ k → k < W' 3 → (0 ≤ cardW W' k 0 ∧ cardW W' k 0 ≤ 9) ∧ (-1 ≤ cardW W' k 1 ∧ cardW W' k 1 ≤ 9) ∧ (0 ≤ cardW W' k 2 ∧ cardW W' k 2 ≤ 60) := by
  have := h.ow
  intro k h0 h1
  rw [e3] at h1
  rw [rR_card e h0 (by omega) (by omega) (by omega), rR_card e h0 (by omega) (by omega) (by omega), rR_card e h0 (by omega) (by omega) (by omega)]; exact h.ca k h0 h1
theorem WF.fd_of (h : WF j W) (e4 : W' 4 = W 4) (e6 : W' 6 = W 6) (e : EqR 51 84 W' W) (el : EqR 84 132 W' W) : ∀ f, 0 ≤ f → f < W' 4 → (1 ≤ friW W' f 0 ∧ friW W' f 0 ≤ 9) ∧ ∀ d, 0 ≤ d → d < 10 → 0 ≤ friW W' f (1 + d) ∧ friW W' f (1 + d) + borW W' f d ≤ 20 := by
  have := h.fr; have lo := h.lo
  intro f h0 h1
  rw [e4] at h1
  rw [rR_fri e h0 (by omega) (by omega) (by omega)]
  refine ⟨(h.fd f h0 h1).1, fun d d0 d1 => ?_⟩
  rw [rR_fri e h0 (by omega) (by omega) (by omega), rR_bor e6 el lo.2]; exact (h.fd f h0 h1).2 d d0 d1
theorem WF.ln_of (h : WF j W) (e4 : W' 4 = W 4) (e6 : W' 6 = W 6) (el : EqR 84 132 W' W) : ∀ l, 0 ≤ l → l < W' 6 → (0 ≤ loanW W' l 0 ∧ loanW W' l 0 < W' 4) ∧ (0 ≤ loanW W' l 1 ∧ loanW W' l 1 ≤ 9) ∧ (1 ≤ loanW W' l 2 ∧ loanW W' l 2 ≤ 60) ∧ (1 ≤ loanW W' l 3 ∧ loanW W' l 3 ≤ 9) := by
  have := h.lo
  intro l h0 h1
  rw [e6] at h1
  rw [rR_loan el h0 (by omega) (by omega) (by omega), rR_loan el h0 (by omega) (by omega) (by omega), rR_loan el h0 (by omega) (by omega) (by omega), rR_loan el h0 (by omega) (by omega) (by omega), e4]; exact h.ln l h0 h1
theorem WF.sv_of (h : WF j W) (e5 : W' 5 = W 5) (e : EqR 132 276 W' W) : ∀ s, 0 ≤ s → s < W' 5 → (1 ≤ servW W' s 0 ∧ servW W' s 0 ≤ 8) ∧ ∀ i, 0 ≤ i → i < servW W' s 0 → 1 ≤ servW W' s (1 + i) ∧ servW W' s (1 + i) ≤ 999 := by
  have := h.se
  intro s h0 h1
  rw [e5] at h1
  have sv := h.sv s h0 h1
  rw [rR_serv e h0 (by omega) (by omega) (by omega)]
  refine ⟨sv.1, fun i i0 i1 => ?_⟩
  rw [rR_serv e h0 (by omega) (by omega) (by omega)]; exact sv.2 i i0 i1
theorem WF.pl_of (h : WF j W) (e : EqR 276 438 W' W) : ∀ p, 0 ≤ p → p < 54 → (-1 ≤ plaW W' p 0 ∧ plaW W' p 0 ≤ 9) ∧ (-1 ≤ plaW W' p 1 ∧ plaW W' p 1 < 42) ∧ (-1 ≤ plaW W' p 2 ∧ plaW W' p 2 ≤ 3) ∧ (plaW W' p 0 = -1 ↔ plaW W' p 1 = -1) ∧ (plaW W' p 0 = -1 ↔ plaW W' p 2 = -1) := by
  intro p h0 h1
  rw [rR_pla e h0 h1 (by omega) (by omega), rR_pla e h0 h1 (by omega) (by omega), rR_pla e h0 h1 (by omega) (by omega)]; exact h.pl p h0 h1
theorem WF.pf_of (h : WF j W) (e0 : W' 0 = W 0) (er : EqR 12 15 W' W) (e : EqR 276 438 W' W) : ∀ p, 3 * allRW W' ≤ p → p < 54 → plaW W' p 0 = -1 := by
  have al := h.allR
  intro p h0 h1
  rw [rR_allR e0 er h.bo.2] at h0
  rw [rR_pla e (by omega) h1 (by omega) (by omega)]; exact h.pf p h0 h1
theorem WF.hr_of (h : WF j W) (e : EqR 438 456 W' W) : ∀ r, 0 ≤ r → r < 18 → hunW W' r = -1 ∨ (1 ≤ hunW W' r ∧ hunW W' r ≤ 999) := by
  intro r h0 h1
  rw [rR_hun e h0 h1]; exact h.hr r h0 h1
theorem WF.hf_of (h : WF j W) (e0 : W' 0 = W 0) (er : EqR 12 15 W' W) (e : EqR 438 456 W' W) : ∀ r, allRW W' ≤ r → r < 18 → hunW W' r = -1 := by
  have al := h.allR
  intro r h0 h1
  rw [rR_allR e0 er h.bo.2] at h0
  rw [rR_hun e (by omega) h1]; exact h.hf r h0 h1
theorem WF.hc_of (h : WF j W) (e3 : W' 3 = W 3) (ec : EqR 15 51 W' W) (e6 : W' 6 = W 6) (el : EqR 84 132 W' W) (e : EqR 276 438 W' W) : ∀ s, 0 ≤ s → s < 42 → hgW W' s ≤ cntW (-1) W' s := by
  intro s h0 h1
  rw [rR_hg e, rR_cnt e3 ec e6 el h.ow.2 h.lo.2 h0]; exact h.hc s h0 h1
theorem WF.nh_of (h : WF j W) (e7 : W' 7 = W 7) (e : EqR 276 438 W' W) : W' 7 = -1 → ∀ p, 0 ≤ p → p < 54 → plaW W' p 0 = -1 := by
  intro h7 p h0 h1
  rw [e7] at h7
  rw [rR_pla e h0 h1 (by omega) (by omega)]; exact h.nh h7 p h0 h1
-- the parts of RepS
theorem RepS.ro_of (h : WF j W) (r : RepS G a W) (e0 : W' 0 = W 0) (e : EqR 12 15 W' W) (g : G' (a + 1) = G (a + 1)) : ∀ b : Int, 0 ≤ b → b < W' 0 → G' (a + 1) b.toNat = rowW W' b := by
  have := h.bo
  intro b h0 h1
  rw [e0] at h1
  rw [rR_row e h0 (by omega), g]; exact r.ro b h0 h1
theorem RepS.ca_of (h : WF j W) (r : RepS G a W) (e3 : W' 3 = W 3) (e : EqR 15 51 W' W) (g3 : G' (a + 3) = G (a + 3)) (g4 : G' (a + 4) = G (a + 4)) : ∀ k : Int, 0 ≤ k → k < W' 3 → G' (a + 3) k.toNat = cardW W' k 0 ∧ G' (a + 4) k.toNat = cardW W' k 1 := by
  have := h.ow
  intro k h0 h1
  rw [e3] at h1
  rw [rR_card e h0 (by omega) (by omega) (by omega), rR_card e h0 (by omega) (by omega) (by omega), g3, g4]; exact r.ca k h0 h1
theorem RepS.ct_of (h : WF j W) (r : RepS G a W) (e3 : W' 3 = W 3) (ec : EqR 15 51 W' W) (e6 : W' 6 = W 6) (el : EqR 84 132 W' W) (g : G' (a + 5) = G (a + 5)) : ∀ s : Int, 0 ≤ s → s < 42 → G' (a + 5) s.toNat = cntW (-1) W' s := by
  intro s h0 h1
  rw [rR_cnt e3 ec e6 el h.ow.2 h.lo.2 h0, g]; exact r.ct s h0 h1
theorem RepS.fd_of (h : WF j W) (r : RepS G a W) (e4 : W' 4 = W 4) (e : EqR 51 84 W' W) (g6 : G' (a + 6) = G (a + 6)) (g7 : G' (a + 7) = G (a + 7)) : ∀ f : Int, 0 ≤ f → f < W' 4 → G' (a + 6) f.toNat = friW W' f 0 ∧ ∀ d : Int, 0 ≤ d → d < 10 → G' (a + 7) ((f * 10) + d).toNat = friW W' f (1 + d) := by
  have := h.fr
  intro f h0 h1
  rw [e4] at h1
  rw [rR_fri e h0 (by omega) (by omega) (by omega), g6, g7]
  refine ⟨(r.fd f h0 h1).1, fun d d0 d1 => ?_⟩
  rw [rR_fri e h0 (by omega) (by omega) (by omega)]; exact (r.fd f h0 h1).2 d d0 d1
theorem RepS.ln_of (h : WF j W) (r : RepS G a W) (e6 : W' 6 = W 6) (el : EqR 84 132 W' W) (g8 : G' (a + 8) = G (a + 8)) (g9 : G' (a + 9) = G (a + 9)) (g10 : G' (a + 10) = G (a + 10)) : ∀ l : Int, 0 ≤ l → l < W' 6 → G' (a + 8) l.toNat = loanW W' l 0 * 10 + loanW W' l 1 ∧ G' (a + 9) l.toNat = loanW W' l 2 ∧ G' (a + 10) l.toNat = loanW W' l 3 := by
  have := h.lo
  intro l h0 h1
  rw [e6] at h1
  rw [rR_loan el h0 (by omega) (by omega) (by omega), rR_loan el h0 (by omega) (by omega) (by omega), rR_loan el h0 (by omega) (by omega) (by omega), rR_loan el h0 (by omega) (by omega) (by omega), g8, g9, g10]; exact r.ln l h0 h1
theorem RepS.sv_of (h : WF j W) (r : RepS G a W) (e5 : W' 5 = W 5) (e : EqR 132 276 W' W) (g12 : G' (a + 12) = G (a + 12)) (g13 : G' (a + 13) = G (a + 13)) : ∀ s : Int, 0 ≤ s → s < W' 5 → G' (a + 12) s.toNat = servW W' s 0 ∧ ∀ i : Int, 0 ≤ i → i < servW W' s 0 → G' (a + 13) ((s * 8) + i).toNat = servW W' s (1 + i) := by
  have := h.se
  intro s h0 h1
  rw [e5] at h1
  have sv := h.sv s h0 h1
  rw [rR_serv e h0 (by omega) (by omega) (by omega), g12, g13]
  refine ⟨(r.sv s h0 h1).1, fun i i0 i1 => ?_⟩
  rw [rR_serv e h0 (by omega) (by omega) (by omega)]; exact (r.sv s h0 h1).2 i i0 i1
theorem act_of (e0 : W' 0 = W 0) (er : EqR 12 15 W' W) {m b i : Int} (b0 : 0 ≤ b) (hb : b < 3) : actv W' m b i ↔ actv W m b i := by
  unfold actv
  rw [e0, rR_row er b0 hb]
theorem HangS.of {h9 : Nat} (h : WF j W) (r : HangS G h9 W) (e0 : W' 0 = W 0) (er : EqR 12 15 W' W) (e : EqR 276 456 W' W) (g : ∀ x, h9 + 1 ≤ x → x ≤ h9 + 4 → G' x = G x) : HangS G' h9 W' := by
  refine HangS.congr g ⟨fun b x b0 b1 x0 x1 => ⟨fun q => ?_, fun q => ?_⟩, fun b x b0 b1 x0 x1 => ⟨fun q => ?_, fun q => ?_⟩⟩
  · have q := (act_of e0 er b0 b1).mp q
    have f := h.frst b0 (by have := q.1; omega)
    rw [rR_frst er (by omega), rR_hun (e.sub (by omega) (by omega)) (by omega) (by omega)]; exact (r.1 b x b0 b1 x0 x1).1 q
  · exact (r.1 b x b0 b1 x0 x1).2 (fun q2 => q ((act_of e0 er b0 b1).mpr q2))
  · have q := (act_of e0 er b0 b1).mp q
    have f := h.frst b0 (by have := q.1; omega)
    have ep := e.sub (lo' := 276) (hi' := 438) (by omega) (by omega)
    rw [rR_frst er (by omega), rR_pla ep (by omega) (by omega) (by omega) (by omega), rR_pla ep (by omega) (by omega) (by omega) (by omega), rR_pla ep (by omega) (by omega) (by omega) (by omega)]; exact (r.2 b x b0 b1 x0 x1).1 q
  · exact (r.2 b x b0 b1 x0 x1).2 (fun q2 => q ((act_of e0 er b0 b1).mpr q2))
theorem RepS.hg_of (r : RepS G a W) (e : EqR 276 438 W' W) (g : G' (a + 19) = G (a + 19)) : ∀ s : Int, 0 ≤ s → s < 42 → G' (a + 19) s.toNat = hgW W' s := by
  intro s h0 h1
  rw [rR_hg e, g]; exact r.hg s h0 h1
end REG
/-- the relation after a call that kept and then changed the state on both sides -/
theorem Rel.acted {j : Nat} {G G1 Gc Gm0 Gm G' : GH} (h : Rel j G) (kc : KeptC G G1 (G 273)) (ec : ∀ x, ownA x → ¬ (1 ≤ x ∧ x ≤ 20) → Gc x = G1 x) (ec2 : ∀ k, ownK k → Gc 272 k = G1 272 k) (e0 : ∀ x, ownA x → Gm0 x = Gc x) (e02 : ∀ k, ownK k → Gm0 272 k = Gc 272 k)
    (km : KeptM Gm0 Gm) (em : ∀ x, ownA x → x ≠ 273 → G' x = Gm x) (em2 : ∀ k, ownK k → G' 272 k = Gm 272 k) (hW : WF ((j + 1 : Nat) : Int) (G' 273)) (hR : RepS Gc 1 (G' 273)) : Rel (j + 1) G' := by
  obtain ⟨r1, r2, r3, r4, r5, r6, r7, r8⟩ := h
  obtain ⟨k1, k2, k3, k4⟩ := kc
  obtain ⟨m1, m2, m3, m4, m5⟩ := km
  unfold ownA at ec e0 em
  unfold ownK at ec2 e02 em2
  have sl : 46 ≤ slotA G ∧ slotA G ≤ 186 := by have := r4.2.2.1; unfold slotA; omega
  have g1 : ∀ x, ¬ (46 ≤ x ∧ x ≤ 205) → x ≠ 44 → G1 x = G x := fun x q0 q1 => k1 x q1 (by omega)
  -- a row that neither side changed
  have same : ∀ x, (x = 41 ∨ x = 42 ∨ x = 206 ∨ x = 207 ∨ (230 ≤ x ∧ x ≤ 271) ∨ x = 275 ∨ x = 276 ∨ x = 278 ∨ x = 284) → G' x = G x := fun x q => by
    rw [em x (by omega) (by omega), m1 x (by omega) (by omega), e0 x (by omega), ec x (by omega) (by omega), g1 x (by omega) (by omega)]
  have clas : ∀ x, 1 ≤ x → x ≤ 20 → G' x = Gc x := fun x q0 q1 => by
    rw [em x (by omega) (by omega), m1 x (by omega) (by omega), e0 x (by omega)]
  have ring : ∀ x, x = 44 ∨ (46 ≤ x ∧ x ≤ 205) → G' x = G1 x := fun x q => by
    rw [em x (by omega) (by omega), m1 x (by omega) (by omega), e0 x (by omega), ec x (by omega) (by omega)]
  have fld : ∀ k, k = 8 ∨ k = 12 ∨ k = 15 ∨ k = 17 ∨ k = 27 → G' 272 k = G 272 k := fun k q => by
    rw [em2 k (by omega), m2 k (by omega), e02 k (by omega), ec2 k (by omega), g1 272 (by omega) (by omega)]
  have c6 : Gm0 272 6 = G 272 6 := by rw [e02 6 (by omega), ec2 6 (by omega), g1 272 (by omega) (by omega)]
  have c277 : Gm0 277 = G 277 := by rw [e0 277 (by omega), ec 277 (by omega) (by omega), g1 277 (by omega) (by omega)]
  have c273 : Gm0 273 = G 273 := by rw [e0 273 (by omega), ec 273 (by omega) (by omega), g1 273 (by omega) (by omega)]
  have d6 : G' 272 6 = Gm 272 6 := em2 6 (by omega)
  have d277 : G' 277 = Gm 277 := em 277 (by omega) (by omega)
  have u : ∀ i, undW G' i = undW Gm i := fun i => by unfold undW; rw [d277]
  have u0 : ∀ i, undW Gm0 i = undW G i := fun i => by unfold undW; rw [c277]
  rw [c6] at m3 m4
  refine ⟨hW, hR.congr (fun x q0 q1 => clas x q0 (by omega)), by rw [fld 17 (by omega)]; exact r3, ?_, r5.congr (by omega) (fun x q => same x (by omega)), r6.congr (fun x q => same x (by omega)) (fld 8 (by omega)), r7.congr (same 41 (by omega)) (fld 12 (by omega)) (fld 15 (by omega)), r8.congr (fun x q => same x (by omega)) (fld 27 (by omega))⟩
  refine HistR.congr (j := (j : Int)) (G := G') (by omega) (fun _ _ => rfl) rfl (HistR.kept r4 r1 (by rw [ring 44 (by omega)]; exact k2) (by rw [ring 44 (by omega)]; exact k3) (fun x q0 q1 q2 => by rw [ring x (by omega)]; exact k1 x (by omega) q2) (k4.congr (fun x q0 q1 => ring x (by omega))) (by rw [d6]; exact m3) (fun i i0 i1 => ?_) ?_)
  · rw [u, ← u0]; exact m4 i i0 (by omega)
  · rw [u, d6]
    rw [c273] at m5; exact m5

-- ===== PURE LAYER: WF after something fell =====
section FW
variable {W W' : WT} {n n' : Int}
def FellP (F : Int → Prop) (W' W : WT) : Prop := ∀ p, 0 ≤ p → p < 54 → (F p → plaW W' p 0 = -1 ∧ plaW W' p 1 = -1 ∧ plaW W' p 2 = -1) ∧ (¬ F p → plaW W' p 0 = plaW W p 0 ∧ plaW W' p 1 = plaW W p 1 ∧ plaW W' p 2 = plaW W p 2)
theorem FellP.pl {F : Int → Prop} (f : FellP F W' W) (h : WF n W) : ∀ p, 0 ≤ p → p < 54 → (-1 ≤ plaW W' p 0 ∧ plaW W' p 0 ≤ 9) ∧ (-1 ≤ plaW W' p 1 ∧ plaW W' p 1 < 42) ∧ (-1 ≤ plaW W' p 2 ∧ plaW W' p 2 ≤ 3) ∧ (plaW W' p 0 = -1 ↔ plaW W' p 1 = -1) ∧ (plaW W' p 0 = -1 ↔ plaW W' p 2 = -1) := by
  intro p p0 p1
  have pl := h.pl p p0 p1
  by_cases y : F p
  · obtain ⟨a, b, c⟩ := (f p p0 p1).1 y
    rw [a, b, c]; omega
  · obtain ⟨a, b, c⟩ := (f p p0 p1).2 y
    rw [a, b, c]; exact pl
theorem FellP.pf {F : Int → Prop} (f : FellP F W' W) (h : WF n W) (e0 : W' 0 = W 0) (er : EqR 12 15 W' W) : ∀ p, 3 * allRW W' ≤ p → p < 54 → plaW W' p 0 = -1 := by
  have al := h.allR
  intro p p0 p1
  rw [rR_allR e0 er h.bo.2] at p0
  by_cases y : F p
  · exact ((f p (by omega) p1).1 y).1
  · rw [((f p (by omega) p1).2 y).1]; exact h.pf p p0 p1
theorem FellP.hg {c : Int → Int} (f : FellP (fallW W c) W' W) {s : Int} (s0 : 0 ≤ s) (hc : 0 ≤ c s) : hgW W' s = min (hgW W s) (c s) := by
  have k : Fell (fallW W c) (fun k => if 276 ≤ k ∧ k < 438 then W' k else W k) W := by
    refine ⟨fun k hk => if_neg (by omega), fun p p0 p1 => ?_⟩
    have z : ∀ h9 : Int, 0 ≤ h9 → h9 < 3 → plaW (fun k => if 276 ≤ k ∧ k < 438 then W' k else W k) p h9 = plaW W' p h9 := fun h9 a0 a1 => if_pos (by omega)
    rw [z 0 (by omega) (by omega), z 1 (by omega) (by omega), z 2 (by omega) (by omega)]
    exact f p p0 p1
  have e : hgW W' s = hgW (fun k => if 276 ≤ k ∧ k < 438 then W' k else W k) s := sumZ_congr (fun p p0 p1 => by
    have : plaW (fun k => if 276 ≤ k ∧ k < 438 then W' k else W k) p 1 = plaW W' p 1 := if_pos (by omega)
    rw [this])
  rw [e]; exact k.hg s0 hc
/-- a sort of which there are enough: nothing falls -/
theorem WF.enough (h : WF n W) {p : Int} (p0 : 0 ≤ p) (p1 : p < 54) (z : plaW W p 1 ≠ -1) : rankW W (plaW W p 1) p < cntW (-1) W (plaW W p 1) := by
  have pl := h.pl p p0 p1
  have hc := h.hc (plaW W p 1) (by omega) (by omega)
  have r1 := rankW_s (W := W) (s := plaW W p 1) p0
  rw [b2_t rfl] at r1
  have r2 := rankW_le (W := W) (s := plaW W p 1) (P := p + 1) (Q := 54) (by omega) (by omega)
  have e : hgW W (plaW W p 1) = rankW W (plaW W p 1) 54 := rfl
  omega
theorem FellP.nh {F : Int → Prop} (f : FellP F W' W) (h : WF n W) (e7 : W' 7 = W 7) : W' 7 = -1 → ∀ p, 0 ≤ p → p < 54 → plaW W' p 0 = -1 := by
  intro h7 p p0 p1
  rw [e7] at h7
  by_cases y : F p
  · exact ((f p p0 p1).1 y).1
  · rw [((f p p0 p1).2 y).1]; exact h.nh h7 p p0 p1
theorem FellP.wf {c : Int → Int} (f : FellP (fallW W c) W' W) (h : WF n W) (e0 : W' 0 = W 0) (er : EqR 12 15 W' W) (eh : EqR 438 456 W' W) (w1 : W' 1 = W 1) (w2 : W' 2 = W 2) (w3 : 0 ≤ W' 3 ∧ W' 3 ≤ 12) (w4 : 0 ≤ W' 4 ∧ W' 4 ≤ 3) (w5 : 0 ≤ W' 5 ∧ W' 5 ≤ 16) (w6 : 0 ≤ W' 6 ∧ W' 6 ≤ 12) (w7 : W' 7 = W 7) (w8 : 0 ≤ W' 8 ∧ W' 8 ≤ n') (w9 : 0 ≤ W' 9 ∧ W' 9 ≤ 108 * n') (w10 : 0 ≤ W' 10 ∧ W' 10 ≤ 18 * n') (w11 : 0 ≤ W' 11 ∧ W' 11 ≤ 18 * n')
    (ca : ∀ k, 0 ≤ k → k < W' 3 → (0 ≤ cardW W' k 0 ∧ cardW W' k 0 ≤ 9) ∧ (-1 ≤ cardW W' k 1 ∧ cardW W' k 1 ≤ 9) ∧ (0 ≤ cardW W' k 2 ∧ cardW W' k 2 ≤ 60))
    (fd : ∀ f, 0 ≤ f → f < W' 4 → (1 ≤ friW W' f 0 ∧ friW W' f 0 ≤ 9) ∧ ∀ d, 0 ≤ d → d < 10 → 0 ≤ friW W' f (1 + d) ∧ friW W' f (1 + d) + borW W' f d ≤ 20)
    (ln : ∀ l, 0 ≤ l → l < W' 6 → (0 ≤ loanW W' l 0 ∧ loanW W' l 0 < W' 4) ∧ (0 ≤ loanW W' l 1 ∧ loanW W' l 1 ≤ 9) ∧ (1 ≤ loanW W' l 2 ∧ loanW W' l 2 ≤ 60) ∧ (1 ≤ loanW W' l 3 ∧ loanW W' l 3 ≤ 9))
    (sv : ∀ s, 0 ≤ s → s < W' 5 → (1 ≤ servW W' s 0 ∧ servW W' s 0 ≤ 8) ∧ ∀ i, 0 ≤ i → i < servW W' s 0 → 1 ≤ servW W' s (1 + i) ∧ servW W' s (1 + i) ≤ 999)
    (hc : ∀ s, 0 ≤ s → s < 42 → c s = cntW (-1) W' s ∧ 0 ≤ c s) : WF n' W' :=
  ⟨by rw [e0]; exact h.bo, by rw [w1]; exact h.tu, by rw [w2]; exact h.sp, w3, w4, w5, w6, by rw [w7]; exact h.ha, w8, w9, w10, w11, h.ro_of e0 er, ca, fd, ln, sv, f.pl h, f.pf h e0 er, h.hr_of eh, h.hf_of e0 er eh, (fun s s0 s1 => by
    rw [f.hg s0 (hc s s0 s1).2, ← (hc s s0 s1).1]; omega), f.nh h w7⟩
end FW

-- ===== PURE LAYER: setHymn, addHymn, addService =====
section A4
variable {W W' : WT} {a : Nat} {n n' : Int} {G' : GH}
variable {j : Nat} {G : GH} {K : GH → Prop} {L : Nat} {xs : Nat → Int32} {i4 : Int}
def OutS (W' W : WT) : Prop := ∀ k, k < 456 → k ≠ 5 → ¬ (132 ≤ k ∧ k < 276) → W' k = W k
theorem OutS.wf (o : OutS W' W) (h : WF n W) (hn : n ≤ n') (w5 : 0 ≤ W' 5 ∧ W' 5 ≤ 16) (sv : ∀ s, 0 ≤ s → s < W' 5 → (1 ≤ servW W' s 0 ∧ servW W' s 0 ≤ 8) ∧ ∀ i, 0 ≤ i → i < servW W' s 0 → 1 ≤ servW W' s (1 + i) ∧ servW W' s (1 + i) ≤ 999) : WF n' W' := by
  have er : EqR 12 15 W' W := fun k q0 q1 => o k (by omega) (by omega) (by omega)
  have ec : EqR 15 51 W' W := fun k q0 q1 => o k (by omega) (by omega) (by omega)
  have ef : EqR 51 84 W' W := fun k q0 q1 => o k (by omega) (by omega) (by omega)
  have el : EqR 84 132 W' W := fun k q0 q1 => o k (by omega) (by omega) (by omega)
  have ep : EqR 276 438 W' W := fun k q0 q1 => o k (by omega) (by omega) (by omega)
  have eh : EqR 438 456 W' W := fun k q0 q1 => o k (by omega) (by omega) (by omega)
  have f := fun k (q : k < 12) (q1 : k ≠ 5) => o k (by omega) q1 (by omega)
  have h8 := h.he; have h9 := h.wo; have h10 := h.hu; have h11 := h.ou
  exact ⟨by rw [f 0 (by omega) (by omega)]; exact h.bo, by rw [f 1 (by omega) (by omega)]; exact h.tu, by rw [f 2 (by omega) (by omega)]; exact h.sp, by rw [f 3 (by omega) (by omega)]; exact h.ow, by rw [f 4 (by omega) (by omega)]; exact h.fr, w5, by rw [f 6 (by omega) (by omega)]; exact h.lo, by rw [f 7 (by omega) (by omega)]; exact h.ha,
    by rw [f 8 (by omega) (by omega)]; omega, by rw [f 9 (by omega) (by omega)]; omega, by rw [f 10 (by omega) (by omega)]; omega, by rw [f 11 (by omega) (by omega)]; omega, h.ro_of (f 0 (by omega) (by omega)) er, h.ca_of (f 3 (by omega) (by omega)) ec, h.fd_of (f 4 (by omega) (by omega)) (f 6 (by omega) (by omega)) ef el, h.ln_of (f 4 (by omega) (by omega)) (f 6 (by omega) (by omega)) el, sv, h.pl_of ep, h.pf_of (f 0 (by omega) (by omega)) er ep, h.hr_of eh, h.hf_of (f 0 (by omega) (by omega)) er eh, h.hc_of (f 3 (by omega) (by omega)) ec (f 6 (by omega) (by omega)) el ep, h.nh_of (f 7 (by omega) (by omega)) ep⟩
theorem OutS.rep (o : OutS W' W) (h : WF n W) (r : RepS G a W) (g : ∀ x, a ≤ x → x ≤ a + 19 → x ≠ a + 11 → x ≠ a + 12 → x ≠ a + 13 → G' x = G x) (w5 : G' (a + 11) 0 = W' 5) (sv : ∀ s : Int, 0 ≤ s → s < W' 5 → G' (a + 12) s.toNat = servW W' s 0 ∧ ∀ i : Int, 0 ≤ i → i < servW W' s 0 → G' (a + 13) ((s * 8) + i).toNat = servW W' s (1 + i)) : RepS G' a W' := by
  have er : EqR 12 15 W' W := fun k q0 q1 => o k (by omega) (by omega) (by omega)
  have ec : EqR 15 51 W' W := fun k q0 q1 => o k (by omega) (by omega) (by omega)
  have ef : EqR 51 84 W' W := fun k q0 q1 => o k (by omega) (by omega) (by omega)
  have el : EqR 84 132 W' W := fun k q0 q1 => o k (by omega) (by omega) (by omega)
  have ep : EqR 276 438 W' W := fun k q0 q1 => o k (by omega) (by omega) (by omega)
  have ex : EqR 276 456 W' W := fun k q0 q1 => o k (by omega) (by omega) (by omega)
  have f := fun k (q : k < 12) (q1 : k ≠ 5) => o k (by omega) q1 (by omega)
  exact ⟨by rw [g a (by omega) (by omega) (by omega) (by omega) (by omega), f 0 (by omega) (by omega)]; exact r.bo, r.ro_of h (f 0 (by omega) (by omega)) er (g _ (by omega) (by omega) (by omega) (by omega) (by omega)), by rw [g a (by omega) (by omega) (by omega) (by omega) (by omega), f 2 (by omega) (by omega)]; exact r.sp, by rw [g _ (by omega) (by omega) (by omega) (by omega) (by omega), f 1 (by omega) (by omega)]; exact r.tu, by rw [g _ (by omega) (by omega) (by omega) (by omega) (by omega), f 3 (by omega) (by omega)]; exact r.ow, by rw [g _ (by omega) (by omega) (by omega) (by omega) (by omega), f 4 (by omega) (by omega)]; exact r.fr, by rw [g _ (by omega) (by omega) (by omega) (by omega) (by omega), f 6 (by omega) (by omega)]; exact r.lo,
    r.ca_of h (f 3 (by omega) (by omega)) ec (g _ (by omega) (by omega) (by omega) (by omega) (by omega)) (g _ (by omega) (by omega) (by omega) (by omega) (by omega)), r.ct_of h (f 3 (by omega) (by omega)) ec (f 6 (by omega) (by omega)) el (g _ (by omega) (by omega) (by omega) (by omega) (by omega)), r.fd_of h (f 4 (by omega) (by omega)) ef (g _ (by omega) (by omega) (by omega) (by omega) (by omega)) (g _ (by omega) (by omega) (by omega) (by omega) (by omega)), r.ln_of h (f 6 (by omega) (by omega)) el (g _ (by omega) (by omega) (by omega) (by omega) (by omega)) (g _ (by omega) (by omega) (by omega) (by omega) (by omega)) (g _ (by omega) (by omega) (by omega) (by omega) (by omega)),
    w5, sv, by rw [g _ (by omega) (by omega) (by omega) (by omega) (by omega), f 7 (by omega) (by omega)]; exact r.ha, HangS.of h r.hs (f 0 (by omega) (by omega)) er ex (fun x x1 x2 => g x (by omega) (by omega) (by omega) (by omega) (by omega)), r.hg_of ep (g _ (by omega) (by omega) (by omega) (by omega) (by omega)),
    by rw [g a (by omega) (by omega) (by omega) (by omega) (by omega), f 8 (by omega) (by omega)]; exact r.he, by rw [g a (by omega) (by omega) (by omega) (by omega) (by omega), f 9 (by omega) (by omega)]; exact r.wo, by rw [g a (by omega) (by omega) (by omega) (by omega) (by omega), f 10 (by omega) (by omega)]; exact r.hu, by rw [g a (by omega) (by omega) (by omega) (by omega) (by omega), f 11 (by omega) (by omega)]; exact r.ou⟩
end A4

-- ===== PURE LAYER: setHymn, addHymn, addService =====
section A4
variable {W W' : WT} {a : Nat} {n n' : Int} {G' : GH}
variable {j : Nat} {G : GH} {K : GH → Prop} {L : Nat} {xs : Nat → Int32} {i4 : Int}
def OutS (W' W : WT) : Prop := ∀ k, k < 456 → k ≠ 5 → ¬ (132 ≤ k ∧ k < 276) → W' k = W k
theorem OutS.wf (o : OutS W' W) (h : WF n W) (hn : n ≤ n') (w5 : 0 ≤ W' 5 ∧ W' 5 ≤ 16) (sv : ∀ s, 0 ≤ s → s < W' 5 → (1 ≤ servW W' s 0 ∧ servW W' s 0 ≤ 8) ∧ ∀ i, 0 ≤ i → i < servW W' s 0 → 1 ≤ servW W' s (1 + i) ∧ servW W' s (1 + i) ≤ 999) : WF n' W' := by
  have er : EqR 12 15 W' W := fun k q0 q1 => o k (by omega) (by omega) (by omega)
  have ec : EqR 15 51 W' W := fun k q0 q1 => o k (by omega) (by omega) (by omega)
  have ef : EqR 51 84 W' W := fun k q0 q1 => o k (by omega) (by omega) (by omega)
  have el : EqR 84 132 W' W := fun k q0 q1 => o k (by omega) (by omega) (by omega)
  have ep : EqR 276 438 W' W := fun k q0 q1 => o k (by omega) (by omega) (by omega)
  have eh : EqR 438 456 W' W := fun k q0 q1 => o k (by omega) (by omega) (by omega)
  have f := fun k (q : k < 12) (q1 : k ≠ 5) => o k (by omega) q1 (by omega)
  have h8 := h.he; have h9 := h.wo; have h10 := h.hu; have h11 := h.ou
  exact ⟨by rw [f 0 (by omega) (by omega)]; exact h.bo, by rw [f 1 (by omega) (by omega)]; exact h.tu, by rw [f 2 (by omega) (by omega)]; exact h.sp, by rw [f 3 (by omega) (by omega)]; exact h.ow, by rw [f 4 (by omega) (by omega)]; exact h.fr, w5, by rw [f 6 (by omega) (by omega)]; exact h.lo, by rw [f 7 (by omega) (by omega)]; exact h.ha,
    by rw [f 8 (by omega) (by omega)]; omega, by rw [f 9 (by omega) (by omega)]; omega, by rw [f 10 (by omega) (by omega)]; omega, by rw [f 11 (by omega) (by omega)]; omega, h.ro_of (f 0 (by omega) (by omega)) er, h.ca_of (f 3 (by omega) (by omega)) ec, h.fd_of (f 4 (by omega) (by omega)) (f 6 (by omega) (by omega)) ef el, h.ln_of (f 4 (by omega) (by omega)) (f 6 (by omega) (by omega)) el, sv, h.pl_of ep, h.pf_of (f 0 (by omega) (by omega)) er ep, h.hr_of eh, h.hf_of (f 0 (by omega) (by omega)) er eh, h.hc_of (f 3 (by omega) (by omega)) ec (f 6 (by omega) (by omega)) el ep, h.nh_of (f 7 (by omega) (by omega)) ep⟩
theorem OutS.rep (o : OutS W' W) (h : WF n W) (r : RepS G a W) (g : ∀ x, a ≤ x → x ≤ a + 19 → x ≠ a + 11 → x ≠ a + 12 → x ≠ a + 13 → G' x = G x) (w5 : G' (a + 11) 0 = W' 5) (sv : ∀ s : Int, 0 ≤ s → s < W' 5 → G' (a + 12) s.toNat = servW W' s 0 ∧ ∀ i : Int, 0 ≤ i → i < servW W' s 0 → G' (a + 13) ((s * 8) + i).toNat = servW W' s (1 + i)) : RepS G' a W' := by
  have er : EqR 12 15 W' W := fun k q0 q1 => o k (by omega) (by omega) (by omega)
  have ec : EqR 15 51 W' W := fun k q0 q1 => o k (by omega) (by omega) (by omega)
  have ef : EqR 51 84 W' W := fun k q0 q1 => o k (by omega) (by omega) (by omega)
  have el : EqR 84 132 W' W := fun k q0 q1 => o k (by omega) (by omega) (by omega)
  have ep : EqR 276 438 W' W := fun k q0 q1 => o k (by omega) (by omega) (by omega)
  have ex : EqR 276 456 W' W := fun k q0 q1 => o k (by omega) (by omega) (by omega)
  have f := fun k (q : k < 12) (q1 : k ≠ 5) => o k (by omega) q1 (by omega)
  exact ⟨by rw [g a (by omega) (by omega) (by omega) (by omega) (by omega), f 0 (by omega) (by omega)]; exact r.bo, r.ro_of h (f 0 (by omega) (by omega)) er (g _ (by omega) (by omega) (by omega) (by omega) (by omega)), by rw [g a (by omega) (by omega) (by omega) (by omega) (by omega), f 2 (by omega) (by omega)]; exact r.sp, by rw [g _ (by omega) (by omega) (by omega) (by omega) (by omega), f 1 (by omega) (by omega)]; exact r.tu, by rw [g _ (by omega) (by omega) (by omega) (by omega) (by omega), f 3 (by omega) (by omega)]; exact r.ow, by rw [g _ (by omega) (by omega) (by omega) (by omega) (by omega), f 4 (by omega) (by omega)]; exact r.fr, by rw [g _ (by omega) (by omega) (by omega) (by omega) (by omega), f 6 (by omega) (by omega)]; exact r.lo,
    r.ca_of h (f 3 (by omega) (by omega)) ec (g _ (by omega) (by omega) (by omega) (by omega) (by omega)) (g _ (by omega) (by omega) (by omega) (by omega) (by omega)), r.ct_of h (f 3 (by omega) (by omega)) ec (f 6 (by omega) (by omega)) el (g _ (by omega) (by omega) (by omega) (by omega) (by omega)), r.fd_of h (f 4 (by omega) (by omega)) ef (g _ (by omega) (by omega) (by omega) (by omega) (by omega)) (g _ (by omega) (by omega) (by omega) (by omega) (by omega)), r.ln_of h (f 6 (by omega) (by omega)) el (g _ (by omega) (by omega) (by omega) (by omega) (by omega)) (g _ (by omega) (by omega) (by omega) (by omega) (by omega)) (g _ (by omega) (by omega) (by omega) (by omega) (by omega)),
    w5, sv, by rw [g _ (by omega) (by omega) (by omega) (by omega) (by omega), f 7 (by omega) (by omega)]; exact r.ha, HangS.of h r.hs (f 0 (by omega) (by omega)) er ex (fun x x1 x2 => g x (by omega) (by omega) (by omega) (by omega) (by omega)), r.hg_of ep (g _ (by omega) (by omega) (by omega) (by omega) (by omega)),
    by rw [g a (by omega) (by omega) (by omega) (by omega) (by omega), f 8 (by omega) (by omega)]; exact r.he, by rw [g a (by omega) (by omega) (by omega) (by omega) (by omega), f 9 (by omega) (by omega)]; exact r.wo, by rw [g a (by omega) (by omega) (by omega) (by omega) (by omega), f 10 (by omega) (by omega)]; exact r.hu, by rw [g a (by omega) (by omega) (by omega) (by omega) (by omega), f 11 (by omega) (by omega)]; exact r.ou⟩
/-- nothing done: the answer v, nothing thrown -/
theorem none_done {v : Int} (h : Rel j G) (hK : ∀ G', Rel (j + 1) G' → K G') : tailP K 0 v (upG (upG G 285 0 v) 272 0 0) :=
  tail_ok (upG_same _ _ _ _) (fun _ => by rw [up_na (by omega), upG_same]) (hK _ (h.read (fun x q => up_na (by unfold ownA at q; omega))))
theorem thrown_is {t : Int} (h : Rel j G) (hK : ∀ G', Rel (j + 1) G' → K G') (ht : t ≠ 0) {v : Int} : tailP K t v (upG G 272 0 t) :=
  tail_ok (upG_same _ _ _ _) (fun c => absurd c ht) (hK _ h.th0)
theorem arm_37 (h : Rel j G) (hK : ∀ G', Rel (j + 1) G' → K G') (hL : 0 ≤ i4 ∧ i4 + 5 ≤ L) : f_law_37 L xs i4 G K := by
  have i2 : inR (xs ((i4 + 2)).toNat).toInt := inR_toInt _
  refine ⟨⟨by omega, by omega⟩, ⟨by omega, by omega⟩, ⟨by omega, by omega⟩, ?_⟩
  generalize (xs ((i4 + 1)).toNat).toInt = s
  generalize (xs ((i4 + 2)).toNat).toInt = i at i2 ⊢
  generalize (xs ((i4 + 3)).toNat).toInt = v
  have hW := h.wf
  have hR := h.rp
  have hse := hW.se
  unfold f_L_setHymn f_X9_setHymn
  refine c_needService hW hR (fun a => c_needHymn (fun b => ?_) (fun b => Or.inr ⟨rfl, ?_⟩)) (fun a => Or.inl ⟨rfl, ?_⟩)
  · have sv := hW.sv s a.1 a.2
    refine c_hymnAt (a := 1) hW hR a i2 ?_
    by_cases c : 0 ≤ i ∧ i < servW (G 273) s 0
    · rw [if_pos c]
      have old := sv.2 i c.1 c.2
      refine ⟨fun _ => c_keep hW hR h.hi (fun G1 kc => ⟨by omega, fun G2 e2 G3 e3 => ?_⟩), fun c2 => by omega⟩
      have r1 := kc.rep1 h.hi hR
      have m3 : G3 273 = G 273 := by rw [e3, up_na (by omega), e2, up_na (by omega), kc.row h.hi (by omega)]
      have t3 : G3 272 = G 272 := by rw [e3, up_na (by omega), e2, up_na (by omega), kc.row h.hi (by omega)]
      have m : MV G3 (G 273) := ⟨m3, by rw [t3]; exact h.2.2.1⟩
      refine mv_noService m hW (fun _ => z01' (p10_in (p10_th (fun _ => z01 ?_) (fun c2 => absurd b c2)))) (fun c2 => absurd (show 0 ≤ s ∧ s ≤ G 273 5 - 1 by omega) c2)
      refine p10_hymnsOf (by omega) ?_
      rw [m.th.1]
      refine ⟨⟨by omega, by omega⟩, p10_in ⟨fun _ => ⟨⟨by omega, by omega⟩, p10_serviceAt (by omega) (by omega) ?_⟩, fun c2 => absurd (show 0 ≤ i ∧ i ≤ servW (G 273) s 0 - 1 by omega) (b2_eq0 c2)⟩⟩
      have g6 : (upG G3 272 0 0) 272 6 = G 272 6 := by rw [upG_nk (by omega), t3]
      refine m_keeps (by rw [g6]; exact h.hi.1) (fun G4 km => ⟨⟨by omega, by omega⟩, fun G5 e5 => ?_⟩)
      have w4 : G4 273 = G 273 := by rw [km.w, up_na (by omega), m3]
      have w5 : ∀ k, k ≠ ((132 + (9 * s)) + (1 + i)).toNat → G5 273 k = G 273 k := fun k hk => by rw [e5, upG_nk hk, w4]
      have w5v : G5 273 ((132 + (9 * s)) + (1 + i)).toNat = v := by rw [e5, upG_same]
      have sv0 : ∀ t, 0 ≤ t → t < 16 → servW (G5 273) t 0 = servW (G 273) t 0 := fun t t0 t1 => w5 _ (by omega)
      refine tail_ok (K := K) ?_ (fun _ => ?_) (hK _ ?_)
      · rw [e5, up_na (by omega), km.2.1 0 (by omega), upG_same]
      · rw [e5, up_na (by omega), km.1 285 (by omega) (by omega), up_na (by omega), e3, upG_same, w4]
      · refine h.acted kc (Gc := G2) (Gm0 := upG G3 272 0 0) (Gm := G4) (fun x q q1 => ?_) (fun k q => ?_) (fun x q => ?_) (fun k q => ?_) km (fun x q q1 => ?_) (fun k q => ?_) ?_ ?_
        · rw [e2, up_na (by omega)]
        · rw [e2, up_na (by omega)]
        · rw [up_na (by unfold ownA at q; omega), e3, up_na (by unfold ownA at q; omega)]
        · rw [upG_nk (by unfold ownK at q; omega), e3, up_na (by omega)]
        · rw [e5, up_na q1]
        · rw [e5, up_na (by omega)]
        · refine OutS.wf (W := G 273) (fun k k0 k1 k2 => w5 k (by omega)) hW (by omega) (by rw [w5 5 (by omega)]; exact hse) (fun t t0 t1 => ?_)
          rw [w5 5 (by omega)] at t1
          have st := hW.sv t t0 t1
          rw [sv0 t t0 (by omega)]
          refine ⟨st.1, fun x x0 x1 => ?_⟩
          by_cases c3 : t = s ∧ x = i
          · rw [c3.1, c3.2]
            show 1 ≤ G5 273 ((132 + (9 * s)) + (1 + i)).toNat ∧ G5 273 ((132 + (9 * s)) + (1 + i)).toNat ≤ 999
            rw [w5v]; exact b
          · have : servW (G5 273) t (1 + x) = servW (G 273) t (1 + x) := w5 _ (by omega)
            rw [this]; exact st.2 x x0 x1
        · refine OutS.rep (W := G 273) (fun k k0 k1 k2 => w5 k (by omega)) hW r1 (fun x x0 x1 x2 x3 x4 => by rw [e2, up_na (by omega)]) (by rw [e2, up_na (by omega), w5 5 (by omega)]; exact r1.se) (fun t t0 t1 => ?_)
          rw [w5 5 (by omega)] at t1
          have st := hW.sv t t0 t1
          have rt := r1.sv t t0 t1
          rw [sv0 t t0 (by omega)]
          refine ⟨by rw [e2, up_na (by omega)]; exact rt.1, fun x x0 x1 => ?_⟩
          by_cases c3 : t = s ∧ x = i
          · rw [c3.1, c3.2, e2]
            show upG G1 14 ((s * 8) + i).toNat v 14 ((s * 8) + i).toNat = G5 273 ((132 + (9 * s)) + (1 + i)).toNat
            rw [upG_same, w5v]
          · have : servW (G5 273) t (1 + x) = servW (G 273) t (1 + x) := w5 _ (by omega)
            rw [this, e2]
            show upG G1 14 ((s * 8) + i).toNat v 14 ((t * 8) + x).toNat = _
            rw [upG_nk (by omega)]; exact rt.2 x x0 x1
    · rw [if_neg c]
      refine ⟨fun c2 => absurd rfl c2, fun _ G3 e3 => ?_⟩
      have m : MV G3 (G 273) := by rw [e3]; exact ⟨up_na (by omega), by rw [up_na (by omega)]; exact h.2.2.1⟩
      refine mv_noService m hW (fun _ => z01' (p10_in (p10_th (fun _ => z01 ?_) (fun c2 => absurd b c2)))) (fun c2 => absurd (show 0 ≤ s ∧ s ≤ G 273 5 - 1 by omega) c2)
      refine p10_hymnsOf (by omega) ?_
      rw [m.th.1]
      refine ⟨⟨by omega, by omega⟩, p10_in ⟨fun c2 => absurd (b2_ne0 c2) (by omega), fun _ => ?_⟩⟩
      rw [e3]; exact none_done h hK
  · have m : MV G (G 273) := ⟨rfl, h.2.2.1⟩
    refine mv_noService m hW (fun _ => z01' (p10_in (p10_th (fun c2 => absurd c2 b) (fun _ => z10 ?_)))) (fun c2 => absurd (show 0 ≤ s ∧ s ≤ G 273 5 - 1 by omega) c2)
    rw [up_up]; exact thrown_is h hK (by omega)
  · have m : MV G (G 273) := ⟨rfl, h.2.2.1⟩
    refine mv_noService m hW (fun c2 => absurd (show 0 ≤ s ∧ s < G 273 5 by omega) a) (fun _ => z10' (thrown_is h hK (by omega)))
end A4

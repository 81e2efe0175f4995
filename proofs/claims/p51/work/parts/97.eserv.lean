-- ===== PURE LAYER: load, the class reads a service =====
def hyU (W : WT) (s v : Int) : WT := pu (pu W ((132 + (9 * s)) + (1 + servW W s 0)).toNat v) ((132 + (9 * s)) + 0).toNat (servW W s 0 + 1)
def repH (s ins : Int) : Nat → Int → WT → WT
  | 0, _, W => W
  | k + 1, x, W => repH s ins k (x + 1) (pu W ((132 + (9 * s)) + (1 + x)).toNat (servW W s (1 + (x - ins))))
def reU (W : WT) (s ah v : Int) : WT := pu (repH s (servW W s 0 - ah) ((servW W s 0 - ah) * v - (servW W s 0 - ah)).toNat (servW W s 0) W) ((132 + (9 * s)) + 0).toNat (ah + (servW W s 0 - ah) * v)
def pSvc (T : BT) (n s : Int) : Nat → Int → Int → Int → WT → WT → PR
  | 0, p, _, _, _, _ => .inl (0, p)
  | k + 1, p, d, due, B, W =>
    if p < n ∧ T p.toNat = 40 then (if d = 3 then .inl (3, p) else pSvc T n s k (nxT T n p) (d + 1) 1 (pu B d.toNat (servW W s 0)) W)
    else if (p < n ∧ T p.toNat = 41) ∧ 0 < d ∧ due = 0 then (if nmT T n 1 8 (nxT T n p) ≠ 0 then .inl (nmT T n 1 8 (nxT T n p), nxT T n p) else if 8 < B (d - 1).toNat + (servW W s 0 - B (d - 1).toNat) * vlT T n (nxT T n p) then .inl (4, nxT T n p) else pSvc T n s k (nxT T n (nxT T n p)) (d - 1) 0 B (reU W s (B (d - 1).toNat) (vlT T n (nxT T n p))))
    else if kdT T n p = 2 ∨ due ≠ 0 ∨ 0 < d then (if nmT T n 1 999 p ≠ 0 then .inl (nmT T n 1 999 p, p) else if servW W s 0 = 8 then .inl (4, p) else pSvc T n s k (nxT T n p) d 0 B (hyU W s (vlT T n p)))
    else .inr (p, pu W 5 (s + 1))
def pServ (T : BT) (n p : Int) (B W : WT) : PR := if W 5 = 16 then .inl (3, p) else pSvc T n (W 5) (n + 1).toNat (nxT T n p) 0 1 B (pu W ((132 + (9 * W 5)) + 0).toNat 0)
theorem mul_r {a v : Int} (ha : 0 ≤ a ∧ a ≤ 8) (hv : 1 ≤ v ∧ v ≤ 8) : (a ≤ a * v ∧ a * v ≤ 64) ∧ a * (v - 1) = a * v - a ∧ (a = 0 → a * v = 0) := by
  have : v = 1 ∨ v = 2 ∨ v = 3 ∨ v = 4 ∨ v = 5 ∨ v = 6 ∨ v = 7 ∨ v = 8 := by omega
  rcases this with rfl | rfl | rfl | rfl | rfl | rfl | rfl | rfl <;> omega
def SvR (s d : Int) (W0 W B : WT) (G : GH) : Prop := RepS (upG G 32 0 s) 21 W0 ∧ (∀ k, ¬ ((132 + (9 * s)).toNat ≤ k ∧ k < (132 + (9 * s)).toNat + 9) → W k = W0 k) ∧ G 32 0 = s + 1 ∧ (0 ≤ servW W s 0 ∧ servW W s 0 ≤ 8) ∧ G 33 s.toNat = servW W s 0 ∧ (∀ i : Int, 0 ≤ i → i < servW W s 0 → (1 ≤ servW W s (1 + i) ∧ servW W s (1 + i) ≤ 999) ∧ G 34 ((s * 8) + i).toNat = servW W s (1 + i)) ∧ G 41 9 = d ∧ ∀ i : Int, 0 ≤ i → i < d → (0 ≤ B i.toNat ∧ B i.toNat ≤ servW W s 0) ∧ G 43 i.toNat = B i.toNat
section CSRV
variable {T : BT} {n st p : Int} {G0 G : GH} {R : GH → Prop} {W W0 B : WT} {s d : Int}
theorem rep_srv {G' : GH} (r : RepS G 21 W0) (g : ∀ x, 21 ≤ x → x ≤ 40 → x ≠ 33 → x ≠ 34 → G' x = G x) (g33 : ∀ k, k < (W0 5).toNat → G' 33 k = G 33 k) (g34 : ∀ k : Nat, (k : Int) < W0 5 * 8 → G' 34 k = G 34 k) (hs : ∀ s, 0 ≤ s → s < W0 5 → servW W0 s 0 ≤ 8) : RepS G' 21 W0 := by
  obtain ⟨a1, a2, a3, a4, a5, a6, a7, a8, a9, a10, a11, a12, a13, a14, a15, a16⟩ := r
  unfold RepS
  rw [g 21 (by omega) (by omega) (by omega) (by omega), g (21 + 1) (by omega) (by omega) (by omega) (by omega), g (21 + 2) (by omega) (by omega) (by omega) (by omega), g (21 + 3) (by omega) (by omega) (by omega) (by omega), g (21 + 4) (by omega) (by omega) (by omega) (by omega), g (21 + 5) (by omega) (by omega) (by omega) (by omega), g (21 + 6) (by omega) (by omega) (by omega) (by omega), g (21 + 7) (by omega) (by omega) (by omega) (by omega), g (21 + 8) (by omega) (by omega) (by omega) (by omega), g (21 + 9) (by omega) (by omega) (by omega) (by omega), g (21 + 10) (by omega) (by omega) (by omega) (by omega), g (21 + 11) (by omega) (by omega) (by omega) (by omega), g (21 + 14) (by omega) (by omega) (by omega) (by omega), g (21 + 19) (by omega) (by omega) (by omega) (by omega)]
  refine ⟨a1, a2, a3, a4, a5, a6, a7, a8, a9, a10, a11, a12, fun s s0 s1 => ?_, a14, a15.congr (fun x h1 h2 => g x (by omega) (by omega) (by omega) (by omega)), a16⟩
  have := a13 s s0 s1
  have h8 := hs s s0 s1
  refine ⟨by show G' 33 _ = _; rw [g33 _ (by omega)]; exact this.1, fun d d0 d1 => ?_⟩
  show G' 34 _ = _
  rw [g34 _ (by omega)]; exact this.2 d d0 d1
theorem srv_done (hW : WF 0 W0) (h6 : W0 6 = 0) (hs : s = W0 5) (s16 : s < 16) (q : SvR s d W0 W B G) (h1 : 1 ≤ servW W s 0) : WF 0 (pu W 5 (s + 1)) ∧ RepS G 21 (pu W 5 (s + 1)) ∧ pu W 5 (s + 1) 6 = 0 := by
  have ss := hW.se
  obtain ⟨r, o, g32, l8, g33, g34, -, -⟩ := q
  have ok : ∀ k, k ≠ 5 → ¬ ((132 + (9 * s)).toNat ≤ k ∧ k < (132 + (9 * s)).toNat + 9) → pu W 5 (s + 1) k = W0 k := fun k k4 kk => by rw [pu_ne k4]; exact o k kk
  have ow : ∀ k, k ≠ 5 → pu W 5 (s + 1) k = W k := fun k k4 => pu_ne k4
  have o5 : pu W 5 (s + 1) 5 = s + 1 := pu_at
  generalize pu W 5 (s + 1) = V at *
  have er : EqR 12 15 V W0 := fun k q0 q1 => ok k (by omega) (by omega)
  have ec : EqR 15 51 V W0 := fun k q0 q1 => ok k (by omega) (by omega)
  have ef : EqR 51 84 V W0 := fun k q0 q1 => ok k (by omega) (by omega)
  have el : EqR 84 132 V W0 := fun k q0 q1 => ok k (by omega) (by omega)
  have ep : EqR 276 438 V W0 := fun k q0 q1 => ok k (by omega) (by omega)
  have eh : EqR 438 456 V W0 := fun k q0 q1 => ok k (by omega) (by omega)
  have ex : EqR 276 456 V W0 := fun k q0 q1 => ok k (by omega) (by omega)
  have fk := fun k (q : k < 12) (q1 : k ≠ 5) => ok k q1 (by omega)
  have h6' : V 6 = 0 := by rw [fk 6 (by omega) (by omega)]; exact h6
  have h8 := hW.he; have h9 := hW.wo; have h10 := hW.hu; have h11 := hW.ou
  have fo : ∀ f' h, 0 ≤ f' → f' < s → 0 ≤ h → h < 9 → servW V f' h = servW W0 f' h := fun f' h a0 a1 b0 b1 => ok _ (by omega) (by omega)
  have fn : ∀ h, 0 ≤ h → h < 9 → servW V s h = servW W s h := fun h b0 b1 => ow _ (by omega)
  refine ⟨?_, ?_, h6'⟩
  · refine ⟨by rw [fk 0 (by omega) (by omega)]; exact hW.bo, by rw [fk 1 (by omega) (by omega)]; exact hW.tu, by rw [fk 2 (by omega) (by omega)]; exact hW.sp, by rw [fk 3 (by omega) (by omega)]; exact hW.ow, by rw [fk 4 (by omega) (by omega)]; exact hW.fr, by rw [o5]; omega, by rw [fk 6 (by omega) (by omega)]; exact hW.lo, by rw [fk 7 (by omega) (by omega)]; have := hW.ha; exact ⟨by omega, by omega⟩,
      by rw [fk 8 (by omega) (by omega)]; omega, by rw [fk 9 (by omega) (by omega)]; omega, by rw [fk 10 (by omega) (by omega)]; omega, by rw [fk 11 (by omega) (by omega)]; omega, hW.ro_of (fk 0 (by omega) (by omega)) er, hW.ca_of (fk 3 (by omega) (by omega)) ec, hW.fd_of (fk 4 (by omega) (by omega)) (fk 6 (by omega) (by omega)) ef el, fun l l0 l1 => by omega, fun f' a0 a1 => ?_, hW.pl_of ep, hW.pf_of (fk 0 (by omega) (by omega)) er ep, hW.hr_of eh, hW.hf_of (fk 0 (by omega) (by omega)) er eh, hW.hc_of (fk 3 (by omega) (by omega)) ec (fk 6 (by omega) (by omega)) el ep, hW.nh_of (fk 7 (by omega) (by omega)) ep⟩
    rw [o5] at a1
    by_cases c : f' = s
    · rw [c, fn 0 (by omega) (by omega)]
      refine ⟨⟨h1, l8.2⟩, fun i i0 i1 => ?_⟩
      rw [fn (1 + i) (by omega) (by omega)]
      exact (g34 i i0 i1).1
    · have q := hW.sv f' a0 (by omega)
      rw [fo f' 0 a0 (by omega) (by omega) (by omega)]
      refine ⟨q.1, fun i i0 i1 => ?_⟩
      rw [fo f' (1 + i) a0 (by omega) (by omega) (by omega)]
      exact q.2 i i0 i1
  · have gg : ∀ x, x ≠ 32 → G x = upG G 32 0 s x := fun x hx => (up_na hx).symm
    refine ⟨by rw [gg 21 (by omega), fk 0 (by omega) (by omega)]; exact r.bo, r.ro_of hW (fk 0 (by omega) (by omega)) er (gg _ (by omega)), by rw [gg 21 (by omega), fk 2 (by omega) (by omega)]; exact r.sp, by rw [gg (21 + 2) (by omega), fk 1 (by omega) (by omega)]; exact r.tu, by rw [gg (21 + 2) (by omega), fk 3 (by omega) (by omega)]; exact r.ow, by rw [gg (21 + 2) (by omega), fk 4 (by omega) (by omega)]; exact r.fr, by rw [gg (21 + 2) (by omega), fk 6 (by omega) (by omega)]; exact r.lo,
      r.ca_of hW (fk 3 (by omega) (by omega)) ec (gg _ (by omega)) (gg _ (by omega)), r.ct_of hW (fk 3 (by omega) (by omega)) ec (fk 6 (by omega) (by omega)) el (gg _ (by omega)), r.fd_of hW (fk 4 (by omega) (by omega)) ef (gg _ (by omega)) (gg _ (by omega)), fun l l0 l1 => by omega,
      by rw [o5]; exact g32, fun f' a0 a1 => ?_, by rw [gg _ (by omega), fk 7 (by omega) (by omega)]; exact r.ha, HangS.of hW r.hs (fk 0 (by omega) (by omega)) er ex (fun x x1 x2 => gg x (by omega)), r.hg_of ep (gg _ (by omega)),
      by rw [gg 21 (by omega), fk 8 (by omega) (by omega)]; exact r.he, by rw [gg 21 (by omega), fk 9 (by omega) (by omega)]; exact r.wo, by rw [gg 21 (by omega), fk 10 (by omega) (by omega)]; exact r.hu, by rw [gg 21 (by omega), fk 11 (by omega) (by omega)]; exact r.ou⟩
    rw [o5] at a1
    by_cases c : f' = s
    · rw [c, fn 0 (by omega) (by omega)]
      refine ⟨g33, fun i i0 i1 => ?_⟩
      rw [fn (1 + i) (by omega) (by omega)]
      exact (g34 i i0 i1).2
    · have q := r.sv f' a0 (by omega)
      rw [fo f' 0 a0 (by omega) (by omega) (by omega), gg (21 + 12) (by omega), gg (21 + 13) (by omega)]
      refine ⟨q.1, fun i i0 i1 => ?_⟩
      rw [fo f' (1 + i) a0 (by omega) (by omega) (by have := (hW.sv f' a0 (by omega)).1; omega)]
      exact q.2 i i0 i1
theorem stb_srv : Stb (SvR s d W0 W B) := fun G G' o e9 q => by
  obtain ⟨r, k, g32, l8, g33, g34, g9, g43⟩ := q
  refine ⟨r.congr (fun x x0 x1 => ?_), k, by rw [o 32 (by omega)]; exact g32, l8, by rw [o 33 (by omega)]; exact g33, by rw [o 34 (by omega)]; exact g34, by rw [e9]; exact g9, by rw [o 43 (by omega)]; exact g43⟩
  unfold upG
  rw [o x (by omega)]
end CSRV

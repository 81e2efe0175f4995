-- ===== PURE LAYER: addCard, buy =====
section A6
variable {W W' : WT} {a : Nat} {n n' : Int} {G' : GH}
variable {j : Nat} {G : GH} {K : GH → Prop} {L : Nat} {xs : Nat → Int32} {i4 : Int}
def OutC (W' W : WT) : Prop := ∀ k, k < 456 → k ≠ 3 → ¬ (15 ≤ k ∧ k < 51) → W' k = W k
theorem OutC.wf (o : OutC W' W) (h : WF n W) (hn : n ≤ n') (w3 : 0 ≤ W' 3 ∧ W' 3 ≤ 12) (ca : ∀ k, 0 ≤ k → k < W' 3 → (0 ≤ cardW W' k 0 ∧ cardW W' k 0 ≤ 9) ∧ (-1 ≤ cardW W' k 1 ∧ cardW W' k 1 ≤ 9) ∧ (0 ≤ cardW W' k 2 ∧ cardW W' k 2 ≤ 60)) (hc : ∀ s, 0 ≤ s → s < 42 → hgW W s ≤ cntW (-1) W' s) : WF n' W' := by
  have er : EqR 12 15 W' W := fun k q0 q1 => o k (by omega) (by omega) (by omega)
  have ef : EqR 51 84 W' W := fun k q0 q1 => o k (by omega) (by omega) (by omega)
  have el : EqR 84 132 W' W := fun k q0 q1 => o k (by omega) (by omega) (by omega)
  have es : EqR 132 276 W' W := fun k q0 q1 => o k (by omega) (by omega) (by omega)
  have ep : EqR 276 438 W' W := fun k q0 q1 => o k (by omega) (by omega) (by omega)
  have eh : EqR 438 456 W' W := fun k q0 q1 => o k (by omega) (by omega) (by omega)
  have f := fun k (q : k < 12) (q1 : k ≠ 3) => o k (by omega) q1 (by omega)
  have h8 := h.he; have h9 := h.wo; have h10 := h.hu; have h11 := h.ou
  exact ⟨by rw [f 0 (by omega) (by omega)]; exact h.bo, by rw [f 1 (by omega) (by omega)]; exact h.tu, by rw [f 2 (by omega) (by omega)]; exact h.sp, w3, by rw [f 4 (by omega) (by omega)]; exact h.fr, by rw [f 5 (by omega) (by omega)]; exact h.se, by rw [f 6 (by omega) (by omega)]; exact h.lo, by rw [f 7 (by omega) (by omega)]; exact h.ha,
    by rw [f 8 (by omega) (by omega)]; omega, by rw [f 9 (by omega) (by omega)]; omega, by rw [f 10 (by omega) (by omega)]; omega, by rw [f 11 (by omega) (by omega)]; omega, h.ro_of (f 0 (by omega) (by omega)) er, ca, h.fd_of (f 4 (by omega) (by omega)) (f 6 (by omega) (by omega)) ef el, h.ln_of (f 4 (by omega) (by omega)) (f 6 (by omega) (by omega)) el, h.sv_of (f 5 (by omega) (by omega)) es, h.pl_of ep, h.pf_of (f 0 (by omega) (by omega)) er ep, h.hr_of eh, h.hf_of (f 0 (by omega) (by omega)) er eh, (fun s s0 s1 => by rw [rR_hg ep]; exact hc s s0 s1), h.nh_of (f 7 (by omega) (by omega)) ep⟩
theorem OutC.rep (o : OutC W' W) (h : WF n W) (r : RepS G a W) (g : ∀ x, a ≤ x → x ≤ a + 19 → x ≠ a + 2 → x ≠ a + 3 → x ≠ a + 4 → x ≠ a + 5 → G' x = G x) (g2 : ∀ k, k ≠ 1 → G' (a + 2) k = G (a + 2) k) (w3 : G' (a + 2) 1 = W' 3)
    (ca : ∀ k : Int, 0 ≤ k → k < W' 3 → G' (a + 3) k.toNat = cardW W' k 0 ∧ G' (a + 4) k.toNat = cardW W' k 1) (ct : ∀ s : Int, 0 ≤ s → s < 42 → G' (a + 5) s.toNat = cntW (-1) W' s) : RepS G' a W' := by
  have er : EqR 12 15 W' W := fun k q0 q1 => o k (by omega) (by omega) (by omega)
  have ef : EqR 51 84 W' W := fun k q0 q1 => o k (by omega) (by omega) (by omega)
  have el : EqR 84 132 W' W := fun k q0 q1 => o k (by omega) (by omega) (by omega)
  have es : EqR 132 276 W' W := fun k q0 q1 => o k (by omega) (by omega) (by omega)
  have ep : EqR 276 438 W' W := fun k q0 q1 => o k (by omega) (by omega) (by omega)
  have ex : EqR 276 456 W' W := fun k q0 q1 => o k (by omega) (by omega) (by omega)
  have f := fun k (q : k < 12) (q1 : k ≠ 3) => o k (by omega) q1 (by omega)
  have gg := fun x (x0 : a ≤ x) (x1 : x ≤ a + 19) (x2 : ¬ (a + 2 ≤ x ∧ x ≤ a + 5)) => g x x0 x1 (by omega) (by omega) (by omega) (by omega)
  exact ⟨by rw [gg a (by omega) (by omega) (by omega), f 0 (by omega) (by omega)]; exact r.bo, r.ro_of h (f 0 (by omega) (by omega)) er (gg _ (by omega) (by omega) (by omega)), by rw [gg a (by omega) (by omega) (by omega), f 2 (by omega) (by omega)]; exact r.sp, by rw [g2 0 (by omega), f 1 (by omega) (by omega)]; exact r.tu, w3, by rw [g2 5 (by omega), f 4 (by omega) (by omega)]; exact r.fr, by rw [g2 8 (by omega), f 6 (by omega) (by omega)]; exact r.lo,
    ca, ct, r.fd_of h (f 4 (by omega) (by omega)) ef (gg _ (by omega) (by omega) (by omega)) (gg _ (by omega) (by omega) (by omega)), r.ln_of h (f 6 (by omega) (by omega)) el (gg _ (by omega) (by omega) (by omega)) (gg _ (by omega) (by omega) (by omega)) (gg _ (by omega) (by omega) (by omega)),
    by rw [gg _ (by omega) (by omega) (by omega), f 5 (by omega) (by omega)]; exact r.se, r.sv_of h (f 5 (by omega) (by omega)) es (gg _ (by omega) (by omega) (by omega)) (gg _ (by omega) (by omega) (by omega)), by rw [gg _ (by omega) (by omega) (by omega), f 7 (by omega) (by omega)]; exact r.ha, HangS.of h r.hs (f 0 (by omega) (by omega)) er ex (fun x x1 x2 => gg x (by omega) (by omega) (by omega)), r.hg_of ep (gg _ (by omega) (by omega) (by omega)),
    by rw [gg a (by omega) (by omega) (by omega), f 8 (by omega) (by omega)]; exact r.he, by rw [gg a (by omega) (by omega) (by omega), f 9 (by omega) (by omega)]; exact r.wo, by rw [gg a (by omega) (by omega) (by omega), f 10 (by omega) (by omega)]; exact r.hu, by rw [gg a (by omega) (by omega) (by omega), f 11 (by omega) (by omega)]; exact r.ou⟩
/-- the class adds a sort of own cards -/
theorem c_addSort {a0 : Nat} {Q : Int → GH → Prop} {d e m c : Int} (hc : G a0 1 = c) (hc2 : 0 ≤ c ∧ c < 12) (h : ∀ G' : GH, (∀ x, x ≠ a0 → x ≠ a0 + 1 → x ≠ a0 + 2 → x ≠ a0 + 3 → G' x = G x) → (∀ k, k ≠ 1 → G' a0 k = G a0 k) → G' a0 1 = c + 1 → (∀ k, k ≠ c.toNat → G' (a0 + 1) k = G (a0 + 1) k ∧ G' (a0 + 2) k = G (a0 + 2) k ∧ G' (a0 + 3) k = G (a0 + 3) k) → G' (a0 + 1) c.toNat = d ∧ G' (a0 + 2) c.toNat = e ∧ G' (a0 + 3) c.toNat = m → Q c G') : f_X8_addSort a0 d e m G Q := by
  unfold f_X8_addSort
  rw [hc]
  refine ⟨hc2, fun G1 e1 => ?_⟩
  have c1 : G1 a0 1 = c := by rw [e1, upG_na (by omega), hc]
  rw [c1]
  refine ⟨hc2, fun G2 e2 => ?_⟩
  have c2 : G2 a0 1 = c := by rw [e2, upG_na (by omega), c1]
  rw [c2]
  refine ⟨by omega, fun G3 e3 => ?_⟩
  have c3 : G3 a0 1 = c := by rw [e3, upG_na (by omega), c2]
  rw [c3]
  refine ⟨⟨by omega, by omega⟩, fun G4 e4 => ?_⟩
  have c4 : G4 a0 1 = c + 1 := by rw [e4, upG_same]
  rw [c4, show c + 1 - 1 = c by omega]
  refine ⟨⟨by omega, by omega⟩, h G4 (fun x x0 x1 x2 x3 => by rw [e4, up_na x0, e3, up_na x3, e2, up_na x2, e1, up_na x1]) (fun k hk => by rw [e4, upG_nk hk, e3, up_na (by omega), e2, up_na (by omega), e1, up_na (by omega)]) c4 (fun k hk => ⟨?_, ?_, ?_⟩) ⟨?_, ?_, ?_⟩⟩
  · rw [e4, up_na (by omega), e3, up_na (by omega), e2, up_na (by omega), e1, upG_nk hk]
  · rw [e4, up_na (by omega), e3, up_na (by omega), e2, upG_nk hk, e1, up_na (by omega)]
  · rw [e4, up_na (by omega), e3, upG_nk hk, e2, up_na (by omega), e1, up_na (by omega)]
  · rw [e4, up_na (by omega), e3, up_na (by omega), e2, up_na (by omega), e1, upG_same]
  · rw [e4, up_na (by omega), e3, up_na (by omega), e2, upG_same]
  · rw [e4, up_na (by omega), e3, upG_same]
theorem cnt_own {s : Int} (s0 : 0 ≤ s) (s1 : s < 12) : cntW (-1) W s = if s < W 3 then cardW W s 2 else 0 := by
  unfold cntW
  rw [if_neg (show ¬ s = 42 by omega), if_pos s1]
theorem cnt_bor {s : Int} (s0 : 12 ≤ s) (s1 : s < 42) : cntW (-1) W s = borW W ((s - 12) / 10) ((s - 12) % 10) := by
  unfold cntW
  rw [if_neg (show ¬ s = 42 by omega), if_neg (show ¬ s < 12 by omega)]
/-- a sort of own cards came: both sides -/
theorem came_wf {d e m : Int} (h : WF n W) (hn : n ≤ n') (w3 : W 3 < 12) (o : ∀ k, k < 456 → k ≠ 3 → ¬ ((15 + 3 * W 3).toNat ≤ k ∧ k < (15 + 3 * W 3).toNat + 3) → W' k = W k) (o3 : W' 3 = W 3 + 1) (hd : 0 ≤ d ∧ d ≤ 9) (he : -1 ≤ e ∧ e ≤ 9) (hm : 0 ≤ m ∧ m ≤ 60) (v : cardW W' (W 3) 0 = d ∧ cardW W' (W 3) 1 = e ∧ cardW W' (W 3) 2 = m) :
    WF n' W' ∧ OutC W' W ∧ (∀ k h9, 0 ≤ k → k < W 3 → 0 ≤ h9 → h9 < 3 → cardW W' k h9 = cardW W k h9) ∧ (∀ s, 0 ≤ s → s < 42 → cntW (-1) W' s = if s = W 3 then m else cntW (-1) W s) := by
  have ow := h.ow
  have oc : OutC W' W := fun k k0 k1 k2 => o k k0 k1 (by omega)
  have cd : ∀ k h9, 0 ≤ k → k < W 3 → 0 ≤ h9 → h9 < 3 → cardW W' k h9 = cardW W k h9 := fun k h9 k0 k1 h0 h1 => o _ (by omega) (by omega) (by omega)
  have ct : ∀ s, 0 ≤ s → s < 42 → cntW (-1) W' s = if s = W 3 then m else cntW (-1) W s := by
    intro s s0 s1
    by_cases c : s < 12
    · rw [cnt_own s0 c, cnt_own s0 c, o3]
      by_cases c2 : s = W 3
      · rw [if_pos c2, if_pos (by omega), c2]; exact v.2.2
      · rw [if_neg c2]
        by_cases c3 : s < W 3
        · rw [if_pos c3, if_pos (show s < W 3 + 1 by omega)]; exact cd s 2 s0 c3 (by omega) (by omega)
        · rw [if_neg c3, if_neg (show ¬ s < W 3 + 1 by omega)]
    · rw [cnt_bor (by omega) s1, cnt_bor (by omega) s1, if_neg (by omega)]
      exact rR_bor (o 6 (by omega) (by omega) (by omega)) (fun k q0 q1 => o k (by omega) (by omega) (by omega)) h.lo.2
  refine ⟨oc.wf h hn (by omega) (fun k k0 k1 => ?_) (fun s s0 s1 => ?_), oc, cd, ct⟩
  · by_cases c : k = W 3
    · rw [c, v.1, v.2.1, v.2.2]; exact ⟨hd, he, hm⟩
    · rw [cd k 0 k0 (by omega) (by omega) (by omega), cd k 1 k0 (by omega) (by omega) (by omega), cd k 2 k0 (by omega) (by omega) (by omega)]
      exact h.ca k k0 (by omega)
  · rw [ct s s0 s1]
    have := h.hc s s0 s1
    by_cases c : s = W 3
    · rw [if_pos c]
      have z : cntW (-1) W s = 0 := cnt_none ⟨s0, s1⟩ (by unfold isSort; omega)
      omega
    · rw [if_neg c]; exact this
end A6

-- ===== PURE LAYER: buy =====
section A7
variable {W W' : WT} {a : Nat} {n n' : Int} {G' : GH}
variable {j : Nat} {G : GH} {K : GH → Prop} {L : Nat} {xs : Nat → Int32} {i4 : Int}
/-- the count of the own card c is m, nothing else changed -/
def CntIs (W' W : WT) (c m : Int) : Prop := (∀ k, k < 456 → k ≠ ((15 + (3 * c)) + 2).toNat → W' k = W k) ∧ cardW W' c 2 = m
theorem CntIs.facts {c m : Int} (q : CntIs W' W c m) (h : WF n W) (hc : 0 ≤ c ∧ c < W 3) : OutC W' W ∧ W' 3 = W 3 ∧ (∀ k h9, 0 ≤ k → k < 12 → 0 ≤ h9 → h9 < 2 → cardW W' k h9 = cardW W k h9) ∧ (∀ s, 0 ≤ s → s < 42 → cntW (-1) W' s = if s = c then m else cntW (-1) W s) := by
  have ow := h.ow
  obtain ⟨q1, q2⟩ := q
  have e3 : W' 3 = W 3 := q1 3 (by omega) (by omega)
  refine ⟨fun k k0 k1 k2 => q1 k k0 (by omega), e3, fun k h9 k0 k1 h0 h1 => q1 _ (by omega) (by omega), fun s s0 s1 => ?_⟩
  by_cases cs : s < 12
  · rw [cnt_own s0 cs, cnt_own s0 cs, e3]
    by_cases c2 : s = c
    · rw [if_pos c2, if_pos (by omega), c2]; exact q2
    · rw [if_neg c2]
      have : cardW W' s 2 = cardW W s 2 := q1 _ (by omega) (by omega)
      rw [this]
  · rw [cnt_bor (by omega) s1, cnt_bor (by omega) s1, if_neg (by omega)]
    exact rR_bor (q1 6 (by omega) (by omega)) (fun k p0 p1 => q1 k (by omega) (by omega)) h.lo.2
theorem arm_32 (h : Rel j G) (hK : ∀ G', Rel (j + 1) G' → K G') (hL : 0 ≤ i4 ∧ i4 + 5 ≤ L) : f_law_32 L xs i4 G K := by
  refine ⟨⟨by omega, by omega⟩, ⟨by omega, by omega⟩, ?_⟩
  generalize (xs ((i4 + 1)).toNat).toInt = c
  generalize (xs ((i4 + 2)).toNat).toInt = m
  have hW := h.wf
  have hR := h.rp
  have how := hW.ow
  unfold f_L_buy f_X9_buy
  refine c_needOwn hW hR (fun a => c_needMany (fun b => ?_) (fun b => Or.inr ⟨rfl, ?_⟩)) (fun a => Or.inl ⟨rfl, ?_⟩)
  · have ca := hW.ca c a.1 a.2
    have ec : cntW (-1) (G 273) c = cardW (G 273) c 2 := by rw [cnt_own a.1 (by omega), if_pos a.2]
    have e6 : G 6 c.toNat = cardW (G 273) c 2 := (hR.ct c a.1 (by omega)).trans ec
    rw [e6]
    refine ⟨by omega, ⟨by omega, by omega⟩, fun b2 => ?_, fun b2 => ?_⟩
    · refine c_keep hW hR h.hi (fun G1 kc => ?_)
      have r1 := kc.rep1 h.hi hR
      have e61 : G1 6 c.toNat = cardW (G 273) c 2 := (r1.ct c a.1 (by omega)).trans ec
      rw [e61]
      refine ⟨⟨by omega, by omega⟩, fun G2 e2 G3 e3 => ?_⟩
      have e62 : G2 6 c.toNat = cardW (G 273) c 2 + m := by rw [e2, upG_same]
      have m3 : G3 273 = G 273 := by rw [e3, up_na (by omega), e2, up_na (by omega), kc.row h.hi (by omega)]
      have t3 : G3 272 = G 272 := by rw [e3, up_na (by omega), e2, up_na (by omega), kc.row h.hi (by omega)]
      have mm : MV G3 (G 273) := ⟨m3, by rw [t3]; exact h.2.2.1⟩
      refine mv_noOwn mm hW (fun _ => z01' (p10_in (p10_th (fun _ => z01 (p10_cardAt (by omega) (by omega) ?_)) (fun c2 => absurd b c2)))) (fun c2 => absurd (show 0 ≤ c ∧ c ≤ G 273 3 - 1 by omega) c2)
      have wm : (upG G3 272 0 0) 273 = G 273 := by rw [up_na (by omega), m3]
      have g6 : (upG G3 272 0 0) 272 6 = G 272 6 := by rw [upG_nk (by omega), t3]
      rw [wm]
      have e9 : G 273 ((15 + (3 * c)) + 2).toNat = cardW (G 273) c 2 := rfl
      rw [e9]
      refine ⟨⟨by omega, by omega⟩, ⟨by omega, by omega⟩, fun _ => m_keeps (by rw [g6]; exact h.hi.1) (fun G4 km => p10_cardAt (by omega) (by omega) ⟨⟨by omega, by omega⟩, fun G5 e5 => ?_⟩), fun c2 => by omega⟩
      have w4 : G4 273 = G 273 := by rw [km.w, wm]
      have ci : CntIs (G5 273) (G 273) c (cardW (G 273) c 2 + m) := ⟨fun k _ k1 => by rw [e5, upG_nk k1, w4], by rw [e5]; exact upG_same _ _ _ _⟩
      obtain ⟨oc, o3, cd, ct⟩ := ci.facts hW a
      refine tail_ok (K := K) ?_ (fun _ => ?_) (hK _ ?_)
      · rw [e5, up_na (by omega), km.2.1 0 (by omega), upG_same]
      · rw [e5, up_na (by omega), km.1 285 (by omega) (by omega), up_na (by omega), e3, upG_same, e62]
      · refine h.acted kc (Gc := G2) (Gm0 := upG G3 272 0 0) (Gm := G4) (fun x q q1 => ?_) (fun k q => ?_) (fun x q => ?_) (fun k q => ?_) km (fun x q q1 => ?_) (fun k q => ?_) ?_ ?_
        · rw [e2, up_na (by omega)]
        · rw [e2, up_na (by omega)]
        · rw [up_na (by unfold ownA at q; omega), e3, up_na (by unfold ownA at q; omega)]
        · rw [upG_nk (by unfold ownK at q; omega), e3, up_na (by omega)]
        · rw [e5, up_na q1]
        · rw [e5, up_na (by omega)]
        · refine oc.wf hW (by omega) (by rw [o3]; exact how) (fun k k0 k1 => ?_) (fun s s0 s1 => ?_)
          · rw [o3] at k1
            have ck := hW.ca k k0 k1
            rw [cd k 0 k0 (by omega) (by omega) (by omega), cd k 1 k0 (by omega) (by omega) (by omega)]
            refine ⟨ck.1, ck.2.1, ?_⟩
            by_cases c3 : k = c
            · rw [c3, ci.2]; omega
            · have : cardW (G5 273) k 2 = cardW (G 273) k 2 := ci.1 _ (by omega) (by omega)
              rw [this]; exact ck.2.2
          · rw [ct s s0 s1]
            have := hW.hc s s0 s1
            by_cases c3 : s = c
            · rw [if_pos c3]
              rw [c3, ec] at this
              rw [c3]; omega
            · rw [if_neg c3]; exact this
        · have r2 : ∀ x, x ≠ 6 → G2 x = G1 x := fun x hx => by rw [e2, up_na hx]
          refine oc.rep hW r1 (fun x x0 x1 x2 x3 x4 x5 => r2 x (by omega)) (fun k hk => by rw [r2 _ (by omega)]) (by rw [o3, r2 _ (by omega)]; exact r1.ow) (fun k k0 k1 => ?_) (fun s s0 s1 => ?_)
          · rw [o3] at k1
            rw [cd k 0 k0 (by omega) (by omega) (by omega), cd k 1 k0 (by omega) (by omega) (by omega), r2 _ (by omega), r2 _ (by omega)]
            exact r1.ca k k0 k1
          · rw [ct s s0 s1]
            by_cases c3 : s = c
            · rw [if_pos c3, c3]; exact e62
            · rw [if_neg c3, e2]
              show upG G1 6 c.toNat _ 6 s.toNat = _
              rw [upG_nk (by omega)]; exact r1.ct s s0 s1
    · intro G3 e3
      have mm : MV G3 (G 273) := by rw [e3]; exact ⟨up_na (by omega), by rw [up_na (by omega)]; exact h.2.2.1⟩
      refine mv_noOwn mm hW (fun _ => z01' (p10_in (p10_th (fun _ => z01 (p10_cardAt (by omega) (by omega) ?_)) (fun c2 => absurd b c2)))) (fun c2 => absurd (show 0 ≤ c ∧ c ≤ G 273 3 - 1 by omega) c2)
      rw [mm.th.1]
      have e9 : G 273 ((15 + (3 * c)) + 2).toNat = cardW (G 273) c 2 := rfl
      rw [e9]
      refine ⟨⟨by omega, by omega⟩, ⟨by omega, by omega⟩, fun c2 => by omega, fun _ => ?_⟩
      rw [e3]; exact none_done h hK
  · have mm : MV G (G 273) := ⟨rfl, h.2.2.1⟩
    refine mv_noOwn mm hW (fun _ => z01' (p10_in (p10_th (fun c2 => absurd c2 b) (fun _ => z10 ?_)))) (fun c2 => absurd (show 0 ≤ c ∧ c ≤ G 273 3 - 1 by omega) c2)
    rw [up_up]; exact thrown_is h hK (by omega)
  · have mm : MV G (G 273) := ⟨rfl, h.2.2.1⟩
    refine mv_noOwn mm hW (fun c2 => absurd (show 0 ≤ c ∧ c < G 273 3 by omega) a) (fun _ => z10' (thrown_is h hK (by omega)))
end A7

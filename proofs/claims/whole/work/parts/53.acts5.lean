-- ===== PURE LAYER: addHymn, addService =====
theorem c_lengthen {a0 : Nat} {G : GH} {Q : Int → GH → Prop} {s v len : Int} (hs : 0 ≤ s ∧ s < 16) (hl : G (a0 + 1) s.toNat = len) (hl2 : 0 ≤ len ∧ len ≤ 7) (h : ∀ G' : GH, (∀ x, x ≠ a0 + 1 → x ≠ a0 + 2 → G' x = G x) → (∀ k, k ≠ s.toNat → G' (a0 + 1) k = G (a0 + 1) k) → G' (a0 + 1) s.toNat = len + 1 → (∀ k, k ≠ ((s * 8) + len).toNat → G' (a0 + 2) k = G (a0 + 2) k) → G' (a0 + 2) ((s * 8) + len).toNat = v → Q (len + 1) G') : f_X6_lengthen a0 s v G Q := by
  unfold f_X6_lengthen
  rw [hl]
  refine ⟨hs, ⟨by omega, by omega⟩, fun G1 e1 => ?_⟩
  have l1 : G1 (a0 + 1) s.toNat = len := by rw [e1, upG_na (by omega), hl]
  rw [l1]
  refine ⟨⟨by omega, by omega⟩, fun G2 e2 => ?_⟩
  have l2 : G2 (a0 + 1) s.toNat = len + 1 := by rw [e2, upG_same]
  rw [l2]
  refine h G2 (fun x x1 x2 => by rw [e2, up_na x1, e1, up_na x2]) (fun k hk => by rw [e2, upG_nk hk, e1, upG_na (by omega)]) l2 (fun k hk => by rw [e2, upG_na (by omega), e1, upG_nk hk]) (by rw [e2, upG_na (by omega), e1, upG_same])
theorem m_comesHymn {G : GH} {Q : GH → Prop} {s v len : Int} (hs : 0 ≤ s ∧ s < 16) (hl : servW (G 273) s 0 = len) (hl2 : 0 ≤ len ∧ len ≤ 7) (h : ∀ G' : GH, (∀ x, x ≠ 273 → G' x = G x) → (∀ k, k ≠ ((132 + (9 * s)) + 0).toNat → k ≠ ((132 + (9 * s)) + (1 + len)).toNat → G' 273 k = G 273 k) → servW (G' 273) s 0 = len + 1 → servW (G' 273) s (1 + len) = v → Q G') : f_X10_comesHymn s v G Q := by
  refine p10_hymnsOf hs ?_
  rw [hl]
  refine ⟨⟨by omega, by omega⟩, p10_serviceAt (by omega) (by omega) ⟨⟨by omega, by omega⟩, fun G1 e1 => p10_serviceAt (by omega) (by omega) ⟨⟨by omega, by omega⟩, ?_⟩⟩⟩
  have l1 : G1 273 ((132 + (9 * s)) + 0).toNat = len := by rw [e1, upG_nk (by omega)]; exact hl
  rw [l1]
  refine ⟨⟨by omega, by omega⟩, fun G2 e2 => h G2 (fun x hx => by rw [e2, up_na hx, e1, up_na hx]) (fun k k1 k2 => by rw [e2, upG_nk k1, e1, upG_nk k2]) ?_ ?_⟩
  · show G2 273 ((132 + (9 * s)) + 0).toNat = _
    rw [e2, upG_same]
  · show G2 273 ((132 + (9 * s)) + (1 + len)).toNat = _
    rw [e2, upG_nk (by omega), e1, upG_same]
section A5
variable {j : Nat} {G : GH} {K : GH → Prop} {L : Nat} {xs : Nat → Int32} {i4 : Int}
theorem arm_38 (h : Rel j G) (hK : ∀ G', Rel (j + 1) G' → K G') (hL : 0 ≤ i4 ∧ i4 + 5 ≤ L) : f_law_38 L xs i4 G K := by
  refine ⟨⟨by omega, by omega⟩, ⟨by omega, by omega⟩, ?_⟩
  generalize (xs ((i4 + 1)).toNat).toInt = s
  generalize (xs ((i4 + 2)).toNat).toInt = v
  have hW := h.wf
  have hR := h.rp
  have hse := hW.se
  unfold f_L_addHymn f_X9_addHymn
  refine c_needService hW hR (fun a => c_needHymn (fun b => ?_) (fun b => Or.inr ⟨rfl, ?_⟩)) (fun a => Or.inl ⟨rfl, ?_⟩)
  · have sv := hW.sv s a.1 a.2
    have e13 : G 13 s.toNat = servW (G 273) s 0 := (hR.sv s a.1 a.2).1
    refine ⟨by omega, fun c => ?_, fun c => ?_⟩
    · rw [e13] at c
      refine c_keep hW hR h.hi (fun G1 kc => ?_)
      have r1 := kc.rep1 h.hi hR
      refine c_lengthen (len := servW (G 273) s 0) (by omega) (r1.sv s a.1 a.2).1 (by omega) (fun G2 o2 x1 x2 x3 x4 G3 e3 => ?_)
      have m3 : G3 273 = G 273 := by rw [e3, up_na (by omega), o2 273 (by omega) (by omega), kc.row h.hi (by omega)]
      have t3 : G3 272 = G 272 := by rw [e3, up_na (by omega), o2 272 (by omega) (by omega), kc.row h.hi (by omega)]
      have m : MV G3 (G 273) := ⟨m3, by rw [t3]; exact h.2.2.1⟩
      refine mv_noService m hW (fun _ => z01' (p10_in (p10_th (fun _ => z01 ?_) (fun c2 => absurd b c2)))) (fun c2 => absurd (show 0 ≤ s ∧ s ≤ G 273 5 - 1 by omega) c2)
      refine p10_hymnsOf (by omega) ?_
      rw [m.th.1]
      refine ⟨fun _ => ?_, fun c2 => absurd c2 c⟩
      have g6 : (upG G3 272 0 0) 272 6 = G 272 6 := by rw [upG_nk (by omega), t3]
      refine m_keeps (by rw [g6]; exact h.hi.1) (fun G4 km => ?_)
      have w4 : G4 273 = G 273 := by rw [km.w, up_na (by omega), m3]
      refine m_comesHymn (len := servW (G 273) s 0) (by omega) (by rw [w4]) (by omega) (fun G5 o5 w5 v5 u5 => p10_hymnsOf (by omega) ?_)
      rw [v5]
      have w5' : ∀ k, k ≠ ((132 + (9 * s)) + 0).toNat → k ≠ ((132 + (9 * s)) + (1 + servW (G 273) s 0)).toNat → G5 273 k = G 273 k := fun k k0 k1 => by rw [w5 k k0 k1, w4]
      refine tail_ok (K := K) ?_ (fun _ => ?_) (hK _ ?_)
      · rw [o5 272 (by omega), km.2.1 0 (by omega), upG_same]
      · rw [o5 285 (by omega), km.1 285 (by omega) (by omega), up_na (by omega), e3, upG_same]
      · refine h.acted kc (Gc := G2) (Gm0 := upG G3 272 0 0) (Gm := G4) (fun x q q1 => ?_) (fun k q => ?_) (fun x q => ?_) (fun k q => ?_) km (fun x q q1 => ?_) (fun k q => ?_) ?_ ?_
        · rw [o2 x (by omega) (by omega)]
        · rw [o2 272 (by omega) (by omega)]
        · rw [up_na (by unfold ownA at q; omega), e3, up_na (by unfold ownA at q; omega)]
        · rw [upG_nk (by unfold ownK at q; omega), e3, up_na (by omega)]
        · rw [o5 x q1]
        · rw [o5 272 (by omega)]
        · refine OutS.wf (W := G 273) (fun k k0 k1 k2 => w5' k (by omega) (by omega)) hW (by omega) (by rw [w5' 5 (by omega) (by omega)]; exact hse) (fun t t0 t1 => ?_)
          rw [w5' 5 (by omega) (by omega)] at t1
          have st := hW.sv t t0 t1
          by_cases ct : t = s
          · rw [ct, v5]
            refine ⟨by omega, fun x x0 x1 => ?_⟩
            by_cases cx : x = servW (G 273) s 0
            · rw [cx, u5]; exact b
            · have : servW (G5 273) s (1 + x) = servW (G 273) s (1 + x) := w5' _ (by omega) (by omega)
              rw [this]; exact sv.2 x x0 (by omega)
          · have e0 : servW (G5 273) t 0 = servW (G 273) t 0 := w5' _ (by omega) (by omega)
            rw [e0]
            refine ⟨st.1, fun x x0 x1 => ?_⟩
            have : servW (G5 273) t (1 + x) = servW (G 273) t (1 + x) := w5' _ (by omega) (by omega)
            rw [this]; exact st.2 x x0 x1
        · refine OutS.rep (W := G 273) (fun k k0 k1 k2 => w5' k (by omega) (by omega)) hW r1 (fun x x0 x1 x2 x3 x4 => o2 x (by omega) (by omega)) (by rw [o2 12 (by omega) (by omega), w5' 5 (by omega) (by omega)]; exact r1.se) (fun t t0 t1 => ?_)
          rw [w5' 5 (by omega) (by omega)] at t1
          have st := hW.sv t t0 t1
          have rt := r1.sv t t0 t1
          by_cases ct : t = s
          · rw [ct, v5]
            refine ⟨x2, fun x x0 x1 => ?_⟩
            by_cases cx : x = servW (G 273) s 0
            · rw [cx, u5]; exact x4
            · have : servW (G5 273) s (1 + x) = servW (G 273) s (1 + x) := w5' _ (by omega) (by omega)
              rw [this]
              rw [ct] at rt
              exact (x3 _ (by omega)).trans (rt.2 x x0 (by omega))
          · have e0 : servW (G5 273) t 0 = servW (G 273) t 0 := w5' _ (by omega) (by omega)
            rw [e0]
            refine ⟨(x1 _ (by omega)).trans rt.1, fun x x0 x1 => ?_⟩
            have : servW (G5 273) t (1 + x) = servW (G 273) t (1 + x) := w5' _ (by omega) (by omega)
            rw [this]
            exact (x3 _ (by omega)).trans (rt.2 x x0 x1)
    · rw [e13] at c
      intro G3 e3
      have m : MV G3 (G 273) := by rw [e3]; exact ⟨up_na (by omega), by rw [up_na (by omega)]; exact h.2.2.1⟩
      refine mv_noService m hW (fun _ => z01' (p10_in (p10_th (fun _ => z01 ?_) (fun c2 => absurd b c2)))) (fun c2 => absurd (show 0 ≤ s ∧ s ≤ G 273 5 - 1 by omega) c2)
      refine p10_hymnsOf (by omega) ?_
      rw [m.th.1]
      refine ⟨fun c2 => absurd c c2, fun _ => ?_⟩
      rw [e3]; exact none_done h hK
  · have m : MV G (G 273) := ⟨rfl, h.2.2.1⟩
    refine mv_noService m hW (fun _ => z01' (p10_in (p10_th (fun c2 => absurd c2 b) (fun _ => z10 ?_)))) (fun c2 => absurd (show 0 ≤ s ∧ s ≤ G 273 5 - 1 by omega) c2)
    rw [up_up]; exact thrown_is h hK (by omega)
  · have m : MV G (G 273) := ⟨rfl, h.2.2.1⟩
    refine mv_noService m hW (fun c2 => absurd (show 0 ≤ s ∧ s < G 273 5 by omega) a) (fun _ => z10' (thrown_is h hK (by omega)))
theorem arm_39 (h : Rel j G) (hK : ∀ G', Rel (j + 1) G' → K G') (hL : 0 ≤ i4 ∧ i4 + 5 ≤ L) : f_law_39 L xs i4 G K := by
  refine ⟨⟨by omega, by omega⟩, ?_⟩
  generalize (xs ((i4 + 1)).toNat).toInt = v
  have hW := h.wf
  have hR := h.rp
  have hse := hW.se
  have e12 : G 12 0 = G 273 5 := hR.se
  unfold f_L_addService f_X9_addService
  refine c_needHymn (fun b => ⟨fun c => ?_, fun c => ?_⟩) (fun b => ⟨rfl, ?_⟩)
  · rw [e12] at c
    refine c_keep hW hR h.hi (fun G1 kc => ?_)
    have r1 := kc.rep1 h.hi hR
    have f12 : G1 12 0 = G 273 5 := r1.se
    unfold f_X6_addEmpty
    rw [f12]
    refine ⟨by omega, fun Ga ea => ?_⟩
    have fa : Ga 12 0 = G 273 5 := by rw [ea, up_na (by omega), f12]
    rw [fa]
    refine ⟨⟨by omega, by omega⟩, fun Gb eb => ?_⟩
    have fb : Gb 12 0 = G 273 5 + 1 := by rw [eb, upG_same]
    rw [fb, show G 273 5 + 1 - 1 = G 273 5 by omega]
    refine ⟨⟨by omega, by omega⟩, ?_⟩
    have b13 : ∀ k, k ≠ (G 273 5).toNat → Gb 13 k = G1 13 k := fun k hk => by rw [eb, up_na (by omega), ea]; exact upG_nk hk
    refine c_lengthen (len := 0) (by omega) (by rw [eb, up_na (by omega), ea]; exact upG_same _ _ _ _) (by omega) (fun G2 o2 x1 x2 x3 x4 G3 e3 => ?_)
    have ob : ∀ x, x ≠ 12 → x ≠ 13 → Gb x = G1 x := fun x q0 q1 => by rw [eb, up_na q0, ea, up_na (by omega)]
    have o2' : ∀ x, x ≠ 12 → x ≠ 13 → x ≠ 14 → G2 x = G1 x := fun x q0 q1 q2 => by rw [o2 x (by omega) (by omega), ob x q0 q1]
    have m3 : G3 273 = G 273 := by rw [e3, up_na (by omega), o2' 273 (by omega) (by omega) (by omega), kc.row h.hi (by omega)]
    have t3 : G3 272 = G 272 := by rw [e3, up_na (by omega), o2' 272 (by omega) (by omega) (by omega), kc.row h.hi (by omega)]
    have wm : (upG G3 272 0 0) 273 = G 273 := by rw [up_na (by omega), m3]
    refine p10_in (p10_wr (fun _ => z01 ?_) (fun c2 => absurd b c2))
    rw [wm]
    refine ⟨fun _ => ?_, fun c2 => absurd c2 c⟩
    have g6 : (upG G3 272 0 0) 272 6 = G 272 6 := by rw [upG_nk (by omega), t3]
    refine m_keeps (by rw [g6]; exact h.hi.1) (fun G4 km => p10_serviceAt (by omega) (by omega) ⟨⟨by omega, by omega⟩, fun G5 e5 => ?_⟩)
    have w4 : G4 273 = G 273 := by rw [km.w, wm]
    refine m_comesHymn (len := 0) (by omega) (by rw [e5]; exact upG_same _ _ _ _) (by omega) (fun G6 o6 w6 v6 u6 => ?_)
    have w6' : ∀ k, k ≠ ((132 + (9 * G 273 5)) + 0).toNat → k ≠ ((132 + (9 * G 273 5)) + (1 + 0)).toNat → G6 273 k = G 273 k := fun k k0 k1 => by rw [w6 k k0 k1, e5, upG_nk k0, w4]
    rw [w6' 5 (by omega) (by omega)]
    refine ⟨⟨by omega, by omega⟩, fun G7 e7 => ?_⟩
    have w7 : ∀ k, k ≠ 5 → G7 273 k = G6 273 k := fun k hk => by rw [e7, upG_nk hk]
    have w75 : G7 273 5 = G 273 5 + 1 := by rw [e7, upG_same]
    refine tail_ok (K := K) ?_ (fun _ => ?_) (hK _ ?_)
    · rw [e7, up_na (by omega), o6 272 (by omega), e5, up_na (by omega), km.2.1 0 (by omega), upG_same]
    · rw [e7, up_na (by omega), o6 285 (by omega), e5, up_na (by omega), km.1 285 (by omega) (by omega), up_na (by omega), e3, upG_same]
    · have sn0 : servW (G7 273) (G 273 5) 0 = 1 := (w7 _ (by omega)).trans v6
      have sn1 : servW (G7 273) (G 273 5) (1 + 0) = v := (w7 _ (by omega)).trans u6
      refine h.acted kc (Gc := G2) (Gm0 := upG G3 272 0 0) (Gm := G4) (fun x q q1 => ?_) (fun k q => ?_) (fun x q => ?_) (fun k q => ?_) km (fun x q q1 => ?_) (fun k q => ?_) ?_ ?_
      · rw [o2' x (by omega) (by omega) (by omega)]
      · rw [o2' 272 (by omega) (by omega) (by omega)]
      · rw [up_na (by unfold ownA at q; omega), e3, up_na (by unfold ownA at q; omega)]
      · rw [upG_nk (by unfold ownK at q; omega), e3, up_na (by omega)]
      · rw [e7, up_na q1, o6 x q1, e5, up_na q1]
      · rw [e7, up_na (by omega), o6 272 (by omega), e5, up_na (by omega)]
      · refine OutS.wf (W := G 273) (fun k k0 k1 k2 => by rw [w7 k k1, w6' k (by omega) (by omega)]) hW (by omega) (by rw [w75]; omega) (fun t t0 t1 => ?_)
        rw [w75] at t1
        by_cases ct : t = G 273 5
        · rw [ct, sn0]
          refine ⟨by omega, fun x x0 x1 => ?_⟩
          rw [show x = 0 by omega, sn1]; exact b
        · have st := hW.sv t t0 (by omega)
          have e0 : servW (G7 273) t 0 = servW (G 273) t 0 := (w7 _ (by omega)).trans (w6' _ (by omega) (by omega))
          rw [e0]
          refine ⟨st.1, fun x x0 x1 => ?_⟩
          have : servW (G7 273) t (1 + x) = servW (G 273) t (1 + x) := (w7 _ (by omega)).trans (w6' _ (by omega) (by omega))
          rw [this]; exact st.2 x x0 x1
      · refine OutS.rep (W := G 273) (fun k k0 k1 k2 => by rw [w7 k k1, w6' k (by omega) (by omega)]) hW r1 (fun x x0 x1 x2 x3 x4 => o2' x (by omega) (by omega) (by omega)) (by rw [o2 12 (by omega) (by omega), w75]; exact fb) (fun t t0 t1 => ?_)
        rw [w75] at t1
        by_cases ct : t = G 273 5
        · rw [ct, sn0]
          refine ⟨x2, fun x x0 x1 => ?_⟩
          rw [show x = 0 by omega, sn1]; exact x4
        · have st := hW.sv t t0 (by omega)
          have rt := r1.sv t t0 (by omega)
          have e0 : servW (G7 273) t 0 = servW (G 273) t 0 := (w7 _ (by omega)).trans (w6' _ (by omega) (by omega))
          rw [e0]
          refine ⟨(x1 _ (by omega)).trans ((b13 _ (by omega)).trans rt.1), fun x x0 x1 => ?_⟩
          have : servW (G7 273) t (1 + x) = servW (G 273) t (1 + x) := (w7 _ (by omega)).trans (w6' _ (by omega) (by omega))
          rw [this]
          exact (x3 _ (by omega)).trans ((congrFun (ob 14 (by omega) (by omega)) _).trans (rt.2 x x0 x1))
  · rw [e12] at c
    intro G3 e3
    have wm : (upG G3 272 0 0) 273 = G 273 := by rw [up_na (by omega), e3, up_na (by omega)]
    refine p10_in (p10_wr (fun _ => z01 ?_) (fun c2 => absurd b c2))
    rw [wm]
    refine ⟨fun c2 => absurd c c2, fun _ => ?_⟩
    rw [e3]; exact none_done h hK
  · exact p10_in (p10_wr (fun c2 => absurd c2 b) (fun _ => z10 (thrown_is h hK (by omega))))
end A5

-- ===== p51, PURE LAYER: the law's load =====
def tP (t : List Int) : Prop := ∀ x ∈ t, 1 ≤ x ∧ x < 128
theorem tP.app {a b : List Int} (ha : tP a) (hb : tP b) : tP (a ++ b) := fun x hx => by
  rcases List.mem_append.1 hx with q | q
  · exact ha x q
  · exact hb x q
theorem tP_nil : tP [] := fun x hx => by cases hx
theorem tP_32 : tP [32] := fun x hx => by rw [List.mem_singleton] at hx; omega
theorem tP_cT : ∀ w, w < 15 → tP (cT w) := by unfold tP; decide +kernel
theorem tP_dgs {m : Nat} (hm : m < 1000) : tP (dgs m) := by
  have d0 := dgO_d (m / 100)
  have d1 := dgT_d (m := m % 100) (by omega)
  have d2 := dgO_d (m % 100)
  have d3 := dgO_d m
  intro x hx
  unfold dgs at hx
  by_cases c1 : m < 10
  · rw [if_pos c1, List.mem_singleton] at hx; omega
  rw [if_neg c1] at hx
  by_cases c2 : m < 100
  · rw [if_pos c2] at hx
    have := dgT_d c2
    simp only [List.mem_cons, List.not_mem_nil, or_false] at hx
    rcases hx with rfl | rfl <;> omega
  rw [if_neg c2] at hx
  simp only [List.mem_cons, List.not_mem_nil, or_false] at hx
  rcases hx with rfl | rfl | rfl <;> omega
section QD
variable {c : Nat → Nat} {L : Nat} {xs : Nat → Int32} {G G' : GH}
theorem tP_card {x : Nat} : tP (txCard x) := by
  unfold txCard
  refine (tP_cT 11 (by decide)).app ((tP_dgs ?_).app (tP.app ?_ (tP_32.app (tP_dgs (by omega)))))
  · split <;> omega
  · split
    · exact (tP_cT 12 (by decide)).app (tP_dgs (by split <;> omega))
    · exact tP_nil
theorem tP_cards : ∀ k, tP (txCards c k)
  | 0 => tP_nil
  | k + 1 => (tP_cards k).app tP_card
theorem tP_fr : ∀ k, tP (txFr c k)
  | 0 => tP_nil
  | k + 1 => (tP_fr k).app (tP_32.app (tP_dgs (by omega)))
theorem tP_hy {j : Nat} : ∀ k, tP (txHy c j k)
  | 0 => tP_nil
  | k + 1 => (tP_hy k).app (tP_32.app (tP_dgs (hyN_rng _).2))
theorem tP_sv {k : Nat} : tP (txSv c k) := (tP_cT 14 (by decide)).app ((tP_dgs (hyN_rng _).2).app (tP_hy _))
theorem tP_all : tP (txAll c) := by
  unfold txAll txHead
  refine tP.app ((tP_cT 7 (by decide)).app ((tP_dgs (by omega)).app (tP.app ?_ (tP.app ?_ ?_)))) ((tP_cards _).app ((tP_cT 13 (by decide)).app ((tP_dgs (by omega)).app ((tP_fr 10).app (tP_sv.app tP_sv)))))
  · split
    · exact tP_nil
    · exact tP_32.app (tP_dgs (by omega))
  · split
    · exact tP_cT 8 (by decide)
    · exact tP_nil
  · split
    · exact tP_cT 10 (by decide)
    · exact tP_nil
def P0 (G : GH) : Prop := G 41 1 = 0 ∧ G 44 1 = 0 ∧ G 44 2 = 0 ∧ G 207 0 = 0 ∧ G 207 1 = 0
theorem p0_ini : PureIni P0 := by
  intro G1 z1
  obtain ⟨-, y1, y2, y3, y4, y5, y6, y7, y8, y9, y44, y442, y230, y207, y2071⟩ := z1
  refine c_startAnew (fun G2 o2 zr z0 z2 zt G3 e3 G4 e4 => ?_)
  have g4 : ∀ x, 20 < x → G4 x = G1 x := fun x h1 => by rw [e4, up_na (by omega), e3, up_na (by omega), o2 x (by omega)]
  exact ⟨by rw [g4 41 (by omega)]; exact y1, by rw [g4 44 (by omega)]; exact y44, by rw [g4 44 (by omega)]; exact y442, by rw [g4 207 (by omega)]; exact y207, by rw [g4 207 (by omega)]; exact y2071⟩
theorem load_ok (h0 : P0 G) (hl : LowH G' G) (ht : TxIn L xs G') : f_L_load (1000 + (txAll (cN L xs)).length) G' (fun r G2 => r = 2 ∧ ∃ W, InvW (cN L xs) 0 G2 W) := by
  obtain ⟨t1, t2, t3⟩ := ht
  obtain ⟨z1, z2, z3, z4, z5⟩ := h0
  refine load_words t3 tP_all t1 t2 (by rw [hl 41 (by omega)]; exact z1) (fun G1 o1 tg => ?_)
  obtain ⟨g1, g2⟩ := tg
  have pl : ∀ i, i < (txAll (cN L xs)).length → 1 ≤ (txAll (cN L xs)).getD i 0 ∧ (txAll (cN L xs)).getD i 0 < 128 := fun i hi => by
    refine tP_all (c := cN L xs) _ ?_
    rw [List.getD_eq_getElem?_getD, List.getElem?_eq_getElem hi]
    exact List.getElem_mem _
  have hT : TxO (G1 42) (G1 41 1) := ⟨by omega, fun i hi => by
    have hi : i < (txAll (cN L xs)).length := by omega
    have := pl i hi
    rw [g2 i hi]; omega⟩
  have hS : Sf (G1 42) (G1 41 1) 0 (txAll (cN L xs)) := ⟨Int.le_refl 0, by omega, fun i hi => by rw [show (0 : Int).toNat + i = i by omega]; exact g2 i hi⟩
  obtain ⟨W', hp, w7, w6, w5, w4, w3, wf4⟩ := p_all (V := fun _ => 0) hS
  unfold f_X9_load
  refine c_into (V := fun _ => 0) hT rfl rfl ⟨fun W2 G2 st' hp2 b wf G3 e3 => ⟨fun _ => ?_, fun w => by omega⟩, fun e a st' G2 hp2 f G3 e3 => ?_⟩
  · rw [hp] at hp2
    obtain rfl : W' = W2 := Sum.inr.inj hp2
    have rp : RepS G2 21 W' := b.2.2.2.2
    have x2 : ∀ x, x ≠ 41 → G3 x = G2 x := fun x hx => by rw [e3, up_na hx]
    have rp2 : RepS G3 21 W' := rp.congr (fun x a0 a1 => x2 x (by omega))
    refine c_copy7 (by omega) (by have := wf.sp; rw [rp2.sp]; exact this) (by have := wf.tu; rw [rp2.tu]; exact this) (fun G4 o4 cp G5 e5 => ?_)
    have rp4 : RepS G4 1 W' := RepS.copy wf cp rp2
    have rp5 : RepS G5 1 W' := rp4.congr (fun x a0 a1 => by rw [e5, up_na (by omega)])
    have x5 : ∀ x, 45 ≤ x → x < 272 → G5 x = G x := fun x h1 h2 => by rw [e5, up_na (by omega), o4 x (by omega), x2 x (by omega), b.1 x (by omega) (by omega) (by omega), o1 x (by omega) (by omega)]; exact funext fun q => hl x h2 q
    have g44 : ∀ k, k ≠ 2 → G5 44 k = G 44 k := fun k hk => by rw [e5, upG_nk hk, o4 44 (by omega), x2 44 (by omega), b.1 44 (by omega) (by omega) (by omega), o1 44 (by omega) (by omega), hl 44 (by omega)]
    have g442 : G5 44 2 = 0 := by rw [e5, upG_same]
    refine ⟨rp5.se.trans w5, W', ⟨wf, w4, w5, by omega, fun d d0 d1 => ?_, fun r col r0 r1 c0 c1 => Or.inl (wf.nh w7 _ (by omega) (by omega))⟩, rp5, ⟨⟨by rw [g442]; omega, by rw [g44 1 (by omega), z2]; omega⟩, fun i i0 i1 => by rw [g442] at i1; omega⟩, fun s s0 s1 => ?_⟩
    · have hb : borW W' 0 d = 0 := by unfold borW; rw [w6]; rfl
      have hf : friW W' 0 (1 + d) = W' (52 + d.toNat) := by show W' _ = _; rw [show (51 + 11 * (0 : Int) + (1 + d)).toNat = 52 + d.toNat by omega]
      rw [hb, hf, wf4 d.toNat (by omega)]
      omega
    · have e207 : G5 207 s.toNat = 0 := by
        rw [x5 207 (by omega) (by omega)]
        have : s = 0 ∨ s = 1 := by omega
        rcases this with rfl | rfl
        · exact z4
        · exact z5
      exact ⟨Or.inl e207, fun q => by omega⟩
  · rw [hp] at hp2
    cases hp2
end QD

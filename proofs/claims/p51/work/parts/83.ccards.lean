-- ===== PURE LAYER: the class chooses cards =====
section CC
variable {W : WT} {s j : Int} {G : GH}
def cpT (W : WT) (P b : Int) : Int := if b < W 0 then min (max (P - 18 * b) 0) (3 * rowW W b) else 0
/-- how many places of the boards are ahead of the class's place P -/
def cpP (W : WT) (P : Int) : Int := cpT W P 0 + cpT W P 1 + cpT W P 2
theorem cp_facts (hW : WF j W) {P : Int} (hP : 0 ≤ P ∧ P < 54) : (actD W 3 (P / 18) (P % 18) → cpP W P = 3 * frstW W (P / 18) + P % 18 ∧ cpP W (P + 1) = 3 * frstW W (P / 18) + P % 18 + 1) ∧ (¬ actD W 3 (P / 18) (P % 18) → cpP W (P + 1) = cpP W P) := by
  have bo := hW.bo
  have f0 := frst_0 (W := W); have f1 := frst_1 (W := W); have f2 := frst_2 (W := W)
  have q0 := hW.ro 0 (by omega) (by omega)
  have q1 : 1 < W 0 → 1 ≤ rowW W 1 ∧ rowW W 1 ≤ 6 := fun q => hW.ro 1 (by omega) q
  have q2 : 2 < W 0 → 1 ≤ rowW W 2 ∧ rowW W 2 ≤ 6 := fun q => hW.ro 2 (by omega) q
  have e : W 0 = 1 ∨ W 0 = 2 ∨ W 0 = 3 := by omega
  have eb : P / 18 = 0 ∨ P / 18 = 1 ∨ P / 18 = 2 := by omega
  have i0 : ∀ P, cpT W P 0 = min (max (P - 18 * 0) 0) (3 * rowW W 0) := fun P => if_pos (by omega)
  have key : ∀ b x : Int, P / 18 = b → P % 18 = x → (b < W 0 ∧ x < 3 * rowW W b → cpP W P = 3 * frstW W b + x ∧ cpP W (P + 1) = 3 * frstW W b + x + 1) ∧ (¬ (b < W 0 ∧ x < 3 * rowW W b) → cpP W (P + 1) = cpP W P) := fun b x hb hx => by
    unfold cpP
    rcases e with e | e | e
    · have i1 : ∀ P, cpT W P 1 = 0 := fun P => if_neg (by omega)
      have i2 : ∀ P, cpT W P 2 = 0 := fun P => if_neg (by omega)
      rw [i0 P, i0 (P + 1), i1 P, i1 (P + 1), i2 P, i2 (P + 1), e]
      rw [hb] at eb
      rcases eb with rfl | rfl | rfl
      · rw [f0]
        exact ⟨fun w => by omega, fun w => by omega⟩
      · exact ⟨fun w => by omega, fun w => by omega⟩
      · exact ⟨fun w => by omega, fun w => by omega⟩
    · have i1 : ∀ P, cpT W P 1 = min (max (P - 18 * 1) 0) (3 * rowW W 1) := fun P => if_pos (by omega)
      have i2 : ∀ P, cpT W P 2 = 0 := fun P => if_neg (by omega)
      have r1 := q1 (by omega)
      rw [i0 P, i0 (P + 1), i1 P, i1 (P + 1), i2 P, i2 (P + 1), e]
      rw [hb] at eb
      rcases eb with rfl | rfl | rfl
      · rw [f0]
        exact ⟨fun w => by omega, fun w => by omega⟩
      · rw [f1]
        exact ⟨fun w => by omega, fun w => by omega⟩
      · exact ⟨fun w => by omega, fun w => by omega⟩
    · have i1 : ∀ P, cpT W P 1 = min (max (P - 18 * 1) 0) (3 * rowW W 1) := fun P => if_pos (by omega)
      have i2 : ∀ P, cpT W P 2 = min (max (P - 18 * 2) 0) (3 * rowW W 2) := fun P => if_pos (by omega)
      have r1 := q1 (by omega)
      have r2 := q2 (by omega)
      rw [i0 P, i0 (P + 1), i1 P, i1 (P + 1), i2 P, i2 (P + 1), e]
      rw [hb] at eb
      rcases eb with rfl | rfl | rfl
      · rw [f0]
        exact ⟨fun w => by omega, fun w => by omega⟩
      · rw [f1]
        exact ⟨fun w => by omega, fun w => by omega⟩
      · rw [f2]
        exact ⟨fun w => by omega, fun w => by omega⟩
  exact key (P / 18) (P % 18) rfl rfl
theorem cp_sum (hW : WF j W) : (∀ P, 0 ≤ P → P ≤ 54 → 0 ≤ cpP W P ∧ cpP W P ≤ 3 * allRW W) ∧ cpP W 0 = 0 ∧ cpP W 54 = 3 * allRW W := by
  have bo := hW.bo
  have f1 := frst_1 (W := W); have f2 := frst_2 (W := W); have f3 := frst_3 (W := W)
  have q0 := hW.ro 0 (by omega) (by omega)
  have q1 : 1 < W 0 → 1 ≤ rowW W 1 ∧ rowW W 1 ≤ 6 := fun q => hW.ro 1 (by omega) q
  have q2 : 2 < W 0 → 1 ≤ rowW W 2 ∧ rowW W 2 ≤ 6 := fun q => hW.ro 2 (by omega) q
  have e : W 0 = 1 ∨ W 0 = 2 ∨ W 0 = 3 := by omega
  have i0 : ∀ P, cpT W P 0 = min (max (P - 18 * 0) 0) (3 * rowW W 0) := fun P => if_pos (by omega)
  unfold cpP allRW
  rcases e with e | e | e
  · have i1 : ∀ P, cpT W P 1 = 0 := fun P => if_neg (by omega)
    have i2 : ∀ P, cpT W P 2 = 0 := fun P => if_neg (by omega)
    rw [e, f1, i0 0, i0 54, i1 0, i1 54, i2 0, i2 54]
    refine ⟨fun P p0 p1 => ?_, by omega, by omega⟩
    rw [i0 P, i1 P, i2 P]; omega
  · have i1 : ∀ P, cpT W P 1 = min (max (P - 18 * 1) 0) (3 * rowW W 1) := fun P => if_pos (by omega)
    have i2 : ∀ P, cpT W P 2 = 0 := fun P => if_neg (by omega)
    have r1 := q1 (by omega)
    rw [e, f2, i0 0, i0 54, i1 0, i1 54, i2 0, i2 54]
    refine ⟨fun P p0 p1 => ?_, by omega, by omega⟩
    rw [i0 P, i1 P, i2 P]; omega
  · have i1 : ∀ P, cpT W P 1 = min (max (P - 18 * 1) 0) (3 * rowW W 1) := fun P => if_pos (by omega)
    have i2 : ∀ P, cpT W P 2 = min (max (P - 18 * 2) 0) (3 * rowW W 2) := fun P => if_pos (by omega)
    have r1 := q1 (by omega)
    have r2 := q2 (by omega)
    rw [e, f3, i0 0, i0 54, i1 0, i1 54, i2 0, i2 54]
    refine ⟨fun P p0 p1 => ?_, by omega, by omega⟩
    rw [i0 P, i1 P, i2 P]; omega
theorem cp_rng (hW : WF j W) {P : Int} (hP : 0 ≤ P ∧ P ≤ 54) : 0 ≤ cpP W P ∧ cpP W P ≤ 3 * allRW W := (cp_sum hW).1 P hP.1 hP.2
theorem cp_end (hW : WF j W) : cpP W 54 = 3 * allRW W := (cp_sum hW).2.2
/-- cards are chosen for the class's places ahead of P; G0: behind the rows -/
def PCard (G0 G : GH) (a4 : Nat) (W : WT) (s m P : Int) : Prop := (∀ y, ¬ (212 ≤ y ∧ y ≤ 217) → ¬ (a4 + 3 ≤ y ∧ y ≤ a4 + 5) → G y = G0 y) ∧ Mat G m (fun o => shW (-1) W (sgm G0 o)) (fun o => (stP (-1) W s (cpP W P).toNat).1 (sgm G0 o)) (stP (-1) W s (cpP W P).toNat).2 ∧
  (∀ b i : Int, 0 ≤ b → b < 3 → 0 ≤ i → i < 18 → G (a4 + 3) (18 * b + i).toNat = (if actD W 3 b i ∧ 18 * b + i < P then plV (-1) W s (3 * frstW W b + i) 1 else -1) ∧ G (a4 + 4) (18 * b + i).toNat = (if actD W 3 b i ∧ 18 * b + i < P then plV (-1) W s (3 * frstW W b + i) 2 else -1)) ∧
  (∀ x : Int, 0 ≤ x → x < 42 → G (a4 + 5) x.toNat = sumZ (fun q => b2 (ddV (-1) W s q ≠ -1 ∧ soP (-1) W s q = x)) (cpP W P))
theorem c_cardStep {k : Int → GH → Prop} {G0 : GH} {m P : Int} (hW : WF j W) (hs : 0 ≤ s ∧ s < W 5) (hR : RepS G0 1 W) (ch : Chosen G0 218 (-1) W s m) (hP : 0 ≤ P ∧ P < 54) (C : PCard G0 G 218 W s m P)
    (h : ∀ G' : GH, PCard G0 G' 218 W s m (P + 1) → k (P + 1) G') : join2 (fun (v_1 : Int) (G_3 : GH) => ((v_1 = (-1) → (k (P + 1) G_3)) ∧ (v_1 ≠ (-1) → ((0 ≤ v_1 ∧ v_1 < 43) ∧ (f_X8_wayOf 3 (G_3 210 (v_1).toNat) (G (218 + 2) (P).toNat) G_3 (fun r_2 => (f_X0_putCard 218 P (G_3 210 (v_1).toNat) r_2 G_3 (fun G_4 => (k (P + 1) G_4))))))))) (fun (j_1 : Int → GH → Prop) => (((G (218 + 2) (P).toNat) ≠ (-1) → (f_X2_giveAway (G (218 + 2) (P).toNat) G (fun r_4 G_5 => (j_1 r_4 G_5)))) ∧ ((G (218 + 2) (P).toNat) = (-1) → (j_1 (-1) G)))) := by
  obtain ⟨o1, M, v1, hg1⟩ := C
  obtain ⟨_, pd, _, lk, _⟩ := ch
  have bo := hW.bo
  have al := hW.allR
  have cp := cp_facts hW hP
  have cr := cp_rng hW (P := P) ⟨hP.1, by omega⟩
  have eP : P = 18 * (P / 18) + P % 18 := by omega
  have hb : 0 ≤ P / 18 ∧ P / 18 < 3 := by omega
  have hi : 0 ≤ P % 18 ∧ P % 18 < 18 := by omega
  have dP : G (218 + 2) P.toNat = if actD W 3 (P / 18) (P % 18) then ddV (-1) W s (3 * frstW W (P / 18) + P % 18) else -1 := by
    rw [o1 _ (by omega) (by omega)]
    have z := pd.2 (P / 18) (P % 18) hb.1 hb.2 hi.1 hi.2
    rw [← eP] at z
    rw [z]
    by_cases c : actD W 3 (P / 18) (P % 18)
    · have rb := hW.ro (P / 18) hb.1 c.1
      have fs := frst_s (W := W) hb.1
      have fr1 := hW.frst (b := P / 18 + 1) (by omega) (by have := c.1; omega)
      have c2 := c.2
      rw [if_pos c, if_pos ⟨c, by omega⟩]
    · rw [if_neg c, if_neg (fun w => c w.1)]
  -- nothing to show here
  have skip : G (218 + 2) P.toNat = -1 → k (P + 1) G := fun e => by
    refine h G ⟨o1, ?_, fun b i b0 b1 i0 i1 => ?_, fun x x0 x1 => ?_⟩
    · by_cases c : actD W 3 (P / 18) (P % 18)
      · rw [dP, if_pos c] at e
        have cc := cp.1 c
        have es := stP_s (tf := -1) (W := W) (s := s) cr.1
        rw [cc.1, if_pos e, ← cc.2, ← cc.1] at es
        rw [es]; exact M
      · rw [cp.2 c]; exact M
    · have z := v1 b i b0 b1 i0 i1
      rw [z.1, z.2]
      by_cases c : actD W 3 b i ∧ 18 * b + i < P
      · rw [if_pos c, if_pos c, if_pos ⟨c.1, by omega⟩, if_pos ⟨c.1, by omega⟩]; exact ⟨rfl, rfl⟩
      · rw [if_neg c, if_neg c]
        by_cases c2 : actD W 3 b i ∧ 18 * b + i < P + 1
        · have e2 : 18 * b + i = P := by
            refine Classical.byContradiction fun w => c ⟨c2.1, by omega⟩
          have eb : P / 18 = b := by omega
          have ei : P % 18 = i := by omega
          rw [dP, eb, ei, if_pos c2.1] at e
          rw [if_pos c2, if_pos c2]
          unfold plV
          rw [if_pos e, if_pos e]; exact ⟨rfl, rfl⟩
        · rw [if_neg c2, if_neg c2]; exact ⟨rfl, rfl⟩
    · rw [hg1 x x0 x1]
      by_cases c : actD W 3 (P / 18) (P % 18)
      · rw [dP, if_pos c] at e
        have cc := cp.1 c
        rw [cc.2, ← cc.1, sumZ_s cr.1, cc.1, b2_f (fun w => w.1 e)]; omega
      · rw [cp.2 c]
  by_cases c0 : G (218 + 2) P.toNat = -1
  · refine joinI2 (P := fun v G3 => v = -1 ∧ G3 = G) (fun v G3 hv => ?_) (fun jj hj => ⟨fun w => absurd c0 w, fun _ => hj _ _ ⟨rfl, rfl⟩⟩)
    obtain ⟨rfl, rfl⟩ := hv
    exact ⟨fun _ => skip c0, fun w => absurd rfl w⟩
  · have c : actD W 3 (P / 18) (P % 18) := Classical.byContradiction fun w => c0 (by rw [dP, if_neg w])
    rw [if_pos c] at dP
    have cc := cp.1 c
    have rb := hW.ro (P / 18) hb.1 c.1
    have fs := frst_s (W := W) hb.1
    have fr := hW.frst hb.1 (by have := c.1; omega)
    have fr1 := hW.frst (b := P / 18 + 1) (by omega) (by have := c.1; omega)
    have c2 := c.2
    rw [dP] at c0 ⊢
    generalize hp : 3 * frstW W (P / 18) + P % 18 = p at dP c0 cc ⊢
    have hp54 : 0 ≤ p ∧ p < 3 * allRW W := by omega
    rw [cc.1] at M hg1
    have I := stP_inv (tf := -1) hW hs (by omega) p.toNat (by omega)
    have dr : -1 ≤ ddV (-1) W s p ∧ ddV (-1) W s p ≤ 9 := ddH_rng (hyV_rng hW hs)
    have hd : 0 ≤ ddV (-1) W s p ∧ ddV (-1) W s p < 10 := by omega
    obtain ⟨k1, k2, k3⟩ := I.pick hW (by omega) hp54 hd
    have pos := I.pos hW hp54 hd
    have es := stP_s (tf := -1) (W := W) (s := s) hp54.1
    rw [if_neg c0] at es
    have hz : ∀ x, 0 ≤ x → x < 43 → cntW (-1) W x ≤ 0 → (stP (-1) W s p.toNat).1 x = 0 := fun x x0 x1 w => by
      have := I.2.1 x x0 x1
      omega
    have cnt42 : cntW (-1) W 42 = 0 := by
      unfold cntW
      rw [if_pos rfl, if_pos rfl]
    have k42 : soP (-1) W s p ≠ 42 := fun w => by
      have a := k1.1
      rw [w] at a
      have := hz 42 (by omega) (by omega) (by omega)
      omega
    refine joinI2 (P := fun v G3 => (0 ≤ v ∧ v < m) ∧ G0 210 v.toNat = soP (-1) W s p ∧ (∀ y, ¬ (212 ≤ y ∧ y ≤ 217) → G3 y = G y) ∧ Mat G3 m (fun o => shW (-1) W (sgm G0 o)) (fun o => (stP (-1) W s (p + 1).toNat).1 (sgm G0 o)) (stP (-1) W s (p + 1).toNat).2) (fun v G3 hv => ?_) (fun jj hj => ⟨fun _ => ?_, fun w => absurd w c0⟩)
    · obtain ⟨hv0, hv1, o3, M3⟩ := hv
      have hm := lk.1
      have g3 : G3 210 v.toNat = soP (-1) W s p := by rw [o3 210 (by omega), o1 210 (by omega) (by omega)]; exact hv1
      refine ⟨fun w => by omega, fun _ => ⟨⟨hv0.1, by omega⟩, ?_⟩⟩
      rw [g3]
      have r3 : RepS G3 1 W := hR.congr (fun y y0 y1 => by rw [o3 y (by omega), o1 y (by omega) (by omega)])
      have hsort : isSort W (soP (-1) W s p) := Classical.byContradiction fun w => by
        have a := k1.1
        have b := cnt_none (s := soP (-1) W s p) ⟨k2.1, by omega⟩ w
        have := hz _ k2.1 k2.2 (by omega)
        omega
      refine c_wayOf (a := 1) hW r3 hsort ⟨hd.1, dr.2⟩ ⟨hP, fun G4 e4 G5 e5 => ⟨⟨k2.1, by omega⟩, ?_⟩⟩
      have gh : G5 (218 + 5) (soP (-1) W s p).toNat = sumZ (fun q => b2 (ddV (-1) W s q ≠ -1 ∧ soP (-1) W s q = soP (-1) W s p)) p := by
        rw [e5, up_na (by omega), e4, up_na (by omega), o3 _ (by omega)]
        exact hg1 _ k2.1 (by omega)
      have sr0 := sumZ_ge (f := fun q => b2 (ddV (-1) W s q ≠ -1 ∧ soP (-1) W s q = soP (-1) W s p)) (x := p) (fun _ _ _ => b2_ge)
      have sr1 := sumZ_le (f := fun q => b2 (ddV (-1) W s q ≠ -1 ∧ soP (-1) W s q = soP (-1) W s p)) (c := 1) hp54.1 (fun _ _ _ => b2_le)
      rw [gh]
      refine ⟨⟨by omega, by omega⟩, fun G6 e6 => h G6 ⟨fun y y0 y1 => by rw [e6, up_na (by omega), e5, up_na (by omega), e4, up_na (by omega), o3 y y0]; exact o1 y y0 y1, ?_, fun b i b0 b1 i0 i1 => ?_, fun x x0 x1 => ?_⟩⟩
      · rw [cc.2]
        obtain ⟨m1, m2, m3, m4, m5, m6⟩ := M3
        have g : ∀ y, y ≤ 217 → G6 y = G3 y := fun y y0 => by rw [e6, up_na (by omega), e5, up_na (by omega), e4, up_na (by omega)]
        refine ⟨by rw [g 209 (by omega)]; exact m1, m2, fun o o0 o1 => by rw [g 211 (by omega), g 212 (by omega)]; exact m3 o o0 o1, fun o o0 o1 => ?_, fun o d o0 o1 d0 d1 => ?_, fun d d0 d1 => ?_⟩
        · rw [g 213 (by omega)]
          unfold useM shM
          rw [g 214 (by omega)]; exact m4 o o0 o1
        · unfold shM
          rw [g 214 (by omega)]; exact m5 o d o0 o1 d0 d1
        · unfold shM
          rw [g 214 (by omega)]; exact m6 d d0 d1
      · have z := v1 b i b0 b1 i0 i1
        by_cases e2 : 18 * b + i = P
        · have eb : P / 18 = b := by omega
          have ei : P % 18 = i := by omega
          rw [eb, ei] at c hp
          rw [e2, if_pos ⟨c, by omega⟩, if_pos ⟨c, by omega⟩, hp]
          refine ⟨?_, ?_⟩
          · rw [e6, up_na (by omega), e5, up_na (by omega), e4, upG_same]
            unfold plV
            rw [if_neg c0, if_neg (by omega), if_pos rfl]
          · rw [e6, up_na (by omega), e5, upG_same]
            unfold plV
            rw [if_neg c0, if_neg (by omega), if_neg (by omega)]
        · have g3' : G6 (218 + 3) (18 * b + i).toNat = G (218 + 3) (18 * b + i).toNat := by
            rw [e6, up_na (by omega), e5, up_na (by omega), e4, upG_nk (by omega), o3 _ (by omega)]
          have g4' : G6 (218 + 4) (18 * b + i).toNat = G (218 + 4) (18 * b + i).toNat := by
            rw [e6, up_na (by omega), e5, upG_nk (by omega), e4, up_na (by omega), o3 _ (by omega)]
          rw [g3', g4', z.1, z.2]
          by_cases c3 : actD W 3 b i ∧ 18 * b + i < P
          · rw [if_pos c3, if_pos c3, if_pos ⟨c3.1, by omega⟩, if_pos ⟨c3.1, by omega⟩]; exact ⟨rfl, rfl⟩
          · have c4 : ¬ (actD W 3 b i ∧ 18 * b + i < P + 1) := fun w => c3 ⟨w.1, by omega⟩
            rw [if_neg c3, if_neg c3, if_neg c4, if_neg c4]; exact ⟨rfl, rfl⟩
      · rw [cc.2, sumZ_s hp54.1]
        by_cases e : x = soP (-1) W s p
        · rw [e, e6, upG_same, b2_t ⟨c0, rfl⟩]
        · rw [e6, upG_nk (by omega), e5, up_na (by omega), e4, up_na (by omega), o3 _ (by omega), hg1 x x0 x1, b2_f (fun w => e w.2.symm)]; omega
    · refine c_giveAway M hd pos (fun o G5 o0 om ok no o5 M5 => hj o G5 ?_)
      have lo := lk.2.1 o o0 om
      have hs2 : sgm G0 o = soP (-1) W s p := by
        -- the offer's sort can give, those ahead can't
        have hz1 : ∀ q, 0 ≤ q → q < m → ∀ x, 0 ≤ x → x < 43 → cntW (-1) W x ≤ 0 → bump (stP (-1) W s p.toNat).1 (sgm G0 q) (-1) x = 0 := fun q q0 q1 x x0 x1 w => by
          have := (lk.2.1 q q0 q1).2
          rw [bump_ne (fun e => by rw [e] at w; omega)]
          exact hz x x0 x1 w
        have tr : ∀ q, 0 ≤ q → q < m → (okO m (fun o => shW (-1) W (sgm G0 o)) (fun o => (stP (-1) W s p.toNat).1 (sgm G0 o)) (stP (-1) W s p.toNat).2 (ddV (-1) W s p) q ↔ okS (shW (-1) W) (stP (-1) W s p.toNat).1 (stP (-1) W s p.toNat).2 (ddV (-1) W s p) (sgm G0 q)) := fun q q0 q1 => by
          have be := lk.bumpE (L := (stP (-1) W s p.toNat).1) (v := -1) ⟨q0, q1⟩
          have he := lk.hallE (D := shW (-1) W) (L := bump (stP (-1) W s p.toNat).1 (sgm G0 q) (-1)) (n := bump (stP (-1) W s p.toNat).2 (ddV (-1) W s p) (-1)) (hz1 q q0 q1)
          refine ⟨fun w => ⟨w.1, w.2.1, lack_hall.mpr (he.mp (hall_congrL be w.2.2))⟩, fun w => ⟨w.1, w.2.1, hall_congrL (fun o' p0 p1 => (be o' p0 p1).symm) (he.mpr (lack_hall.mp w.2.2))⟩⟩
        have ok2 := (tr o o0 om).mp ok
        rcases Int.lt_trichotomy (sgm G0 o) (soP (-1) W s p) with q | q | q
        · exact absurd ok2 (k3 _ lo.1.1 q)
        · exact q
        · exfalso
          have cpos : 0 < cntW (-1) W (soP (-1) W s p) := by
            have a := k1.1
            have b := I.2.1 _ k2.1 k2.2
            omega
          obtain ⟨o', ho', hs'⟩ := lk.2.2.2.1 _ k2.1 k2.2 cpos
          have lt : o' < o := by
            refine Classical.byContradiction fun w => ?_
            by_cases e : o' = o
            · rw [e] at hs'; omega
            · have := lk.2.2.1 o o' o0 (by omega) ho'.2
              omega
          refine no o' ho'.1 lt ((tr o' ho'.1 ho'.2).mpr ?_)
          rw [hs']; exact k1
      refine ⟨⟨o0, om⟩, ?_, o5, ?_⟩
      · have z : sg (G0 210 o.toNat) = soP (-1) W s p := hs2
        unfold sg at z
        by_cases w : G0 210 o.toNat = -1
        · rw [if_pos w] at z; omega
        · rw [if_neg w] at z; exact z
      · rw [es]
        have be := lk.bumpE (L := (stP (-1) W s p.toNat).1) (v := -1) ⟨o0, om⟩
        rw [hs2] at be
        exact M5.congrL be
/-- the plan shows what is hung -/
def PlanF (G : GH) (W : WT) (s : Int) : Prop := (∀ b i : Int, 0 ≤ b → b < 3 → 0 ≤ i → i < 18 → G 221 (18 * b + i).toNat = (if actD W 3 b i then plV (-1) W s (3 * frstW W b + i) 1 else -1) ∧ G 222 (18 * b + i).toNat = (if actD W 3 b i then plV (-1) W s (3 * frstW W b + i) 2 else -1)) ∧ (∀ x : Int, 0 ≤ x → x < 42 → G 223 x.toNat = sumZ (fun q => b2 (ddV (-1) W s q ≠ -1 ∧ soP (-1) W s q = x)) (3 * allRW W))
theorem c_chooseCards {Q : GH → Prop} {m : Int} (hW : WF j W) (hs : 0 ≤ s ∧ s < W 5) (hR : RepS G 1 W) (ch : Chosen G 218 (-1) W s m) (h : ∀ G' : GH, (∀ y, ¬ (212 ≤ y ∧ y ≤ 217) → ¬ (221 ≤ y ∧ y ≤ 223) → G' y = G y) → PlanF G' W s → Q G') : f_X4_chooseCards 3 218 G Q := by
  have c0 := (cp_sum hW).2.1
  unfold f_X4_chooseCards
  refine up_loop (fun P G1 => PCard G G1 218 W s m P) 0 54 (by omega) ⟨fun _ _ _ => rfl, ?_, fun b i b0 b1 i0 i1 => ?_, fun x x0 x1 => ?_⟩ (fun k P G1 P0 P1 hI kk => ⟨fun c => ?_, fun c => ⟨⟨P0, c⟩, c_cardStep hW hs hR ch ⟨P0, c⟩ hI (fun G2 P2 => kk G2 c P2)⟩⟩)
  · rw [c0]; exact ch.2.2.2.2
  · have z := ch.2.2.1.2.1 (18 * b + i).toNat (by omega)
    rw [if_neg (fun w => by have := w.2; omega), if_neg (fun w => by have := w.2; omega)]
    exact z
  · rw [c0, sumZ_0]
    exact ch.2.2.1.2.2 x.toNat (by omega)
  · have eP : P = 54 := by omega
    rw [eP] at hI
    obtain ⟨h1, h2, h3, h4⟩ := hI
    refine h G1 (fun y y0 y1 => h1 y y0 (by omega)) ⟨fun b i b0 b1 i0 i1 => ?_, fun x x0 x1 => ?_⟩
    · have z := h3 b i b0 b1 i0 i1
      by_cases c2 : actD W 3 b i
      · rw [if_pos ⟨c2, by omega⟩, if_pos ⟨c2, by omega⟩] at z
        rw [if_pos c2, if_pos c2]; exact z
      · rw [if_neg (fun w => c2 w.1), if_neg (fun w => c2 w.1)] at z
        rw [if_neg c2, if_neg c2]; exact z
    · have z := h4 x x0 x1
      rw [cp_end hW] at z
      exact z
end CC

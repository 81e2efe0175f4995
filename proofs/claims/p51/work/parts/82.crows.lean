-- ===== PURE LAYER: the class chooses rows =====
theorem Mat.congrG {G G' : GH} {m : Int} {D : Int → Nat} {L n : Int → Int} (M : Mat G m D L n) (g : ∀ y, 209 ≤ y → y ≤ 214 → G' y = G y) : Mat G' m D L n := by
  obtain ⟨m1, m2, m3, m4, m5, m6⟩ := M
  refine ⟨by rw [g 209 (by omega) (by omega)]; exact m1, m2, fun o o0 o1 => by rw [g 211 (by omega) (by omega), g 212 (by omega) (by omega)]; exact m3 o o0 o1, fun o o0 o1 => ?_, fun o d o0 o1 d0 d1 => ?_, fun d d0 d1 => ?_⟩
  · rw [g 213 (by omega) (by omega)]
    unfold useM shM
    rw [g 214 (by omega) (by omega)]; exact m4 o o0 o1
  · unfold shM
    rw [g 214 (by omega) (by omega)]; exact m5 o d o0 o1 d0 d1
  · unfold shM
    rw [g 214 (by omega) (by omega)]; exact m6 d d0 d1
section CR
variable {tf : Int} {W : WT} {s j : Int} {G : GH}
theorem front_tf {x : Int} (hx : x ≠ 42) : frontW tf W x = frontW (-1) W x := by
  unfold frontW
  rw [if_neg hx, if_neg hx]
theorem way_tf {x d : Int} (hx : x ≠ 42) : wayW tf W x d = wayW (-1) W x d := by
  unfold wayW
  rw [front_tf hx]
theorem sh_tf {x : Int} (hx : x ≠ 42) : shW tf W x = shW (-1) W x := by
  refine set_ext shW_lt shW_lt (fun d d0 d1 => ?_)
  rw [shW_in ⟨d0, d1⟩, shW_in ⟨d0, d1⟩, way_tf hx]
theorem cnt_tf {x : Int} (hx : x ≠ 42) : cntW tf W x = cntW (-1) W x := by
  unfold cntW
  rw [if_neg hx, if_neg hx]
theorem c_offerAll {Q : GH → Prop} (hW : WF j W) (hR : RepS G 1 W) (h : ∀ (G' : GH) (m : Int), (∀ y, ¬ (209 ≤ y ∧ y ≤ 214) → G' y = G y) → OfI G' m (shW tf W) (cntW tf W) 42 → Q G') : f_X4_offerAll 3 G Q := by
  unfold f_X4_offerAll
  intro G1 e1 G2 e2
  refine up_loop (fun x G3 => ∃ m : Int, (∀ y, ¬ (209 ≤ y ∧ y ≤ 214) → G3 y = G y) ∧ OfI G3 m (shW tf W) (cntW tf W) x) 0 42 (by omega) ⟨0, fun y hy => by rw [e2, flG_na (by omega), e1, up_na (by omega)], ⟨by rw [e2, flG_na (by omega), e1, upG_same], by omega, fun o o0 o1 => by omega, fun o o' o0 oo o1 => by omega, fun s s0 s1 => by omega, fun g => rfl, fun k hk => by rw [e2, flG_at hk]⟩⟩ (fun k x G3 x0 x1 hI kk => ?_)
  obtain ⟨m, o3, q3⟩ := hI
  have r3 : RepS G3 1 W := hR.congr (fun y y0 y1 => o3 y (by omega))
  refine ⟨fun c => ?_, fun c => ⟨⟨x0, c⟩, ?_⟩⟩
  · rw [show x = 42 by omega] at q3
    exact h G3 m o3 q3
  · have e6 : G3 6 x.toNat = cntW (-1) W x := r3.ct x x0 c
    have ec : cntW tf W x = cntW (-1) W x := cnt_tf (by omega)
    show (G3 6 x.toNat ≤ 0 → _) ∧ (0 < G3 6 x.toNat → f_X8_digitsOf 3 x G3 (fun r => f_X2_offer x r (G3 6 x.toNat) G3 (fun G4 => k (x + 1) G4)))
    rw [e6]
    refine ⟨fun c2 => kk G3 c ⟨m, o3, q3.skip x0 (by omega)⟩, fun c2 => ?_⟩
    have hi : isSort W x := Classical.byContradiction fun q => by rw [cnt_none ⟨x0, c⟩ q] at c2; omega
    refine c_digitsOf (a := 1) hW r3 hi ?_
    have k9 := c_offer (i1 := x) (dx := ((shW (-1) W x : Nat) : Int)) (Q := fun G4 => k (x + 1) G4) q3 ⟨x0, by omega⟩ (if_neg (by omega)) (by rw [sh_tf (tf := tf) (by omega)]) (fun G4 m' o4 p4 q4 => kk G4 c ⟨m', fun y hy => by rw [o4 y (by omega)]; exact o3 y hy, q4⟩)
    rw [ec] at k9
    exact k9
theorem unit_c {c : Int} (hc : 0 ≤ c ∧ c < 3) : (c = 0 ∧ unitW c = 100) ∨ (c = 1 ∧ unitW c = 10) ∨ (c = 2 ∧ unitW c = 1) := by
  have e : c = 0 ∨ c = 1 ∨ c = 2 := by omega
  rcases e with rfl | rfl | rfl
  · exact Or.inl ⟨rfl, rfl⟩
  · exact Or.inr (Or.inl ⟨rfl, rfl⟩)
  · exact Or.inr (Or.inr ⟨rfl, rfl⟩)
theorem c_putHymn {Q : GH → Prop} {a0 : Nat} {R hy : Int} (hR : 0 ≤ R ∧ R < 18) (hh : 1 ≤ hy ∧ hy ≤ 999) (h : ∀ G' : GH, (∀ y, y ≠ a0 + 1 → y ≠ a0 + 2 → G' y = G y) → (∀ k, k ≠ R.toNat → G' (a0 + 1) k = G (a0 + 1) k) → G' (a0 + 1) R.toNat = hy → (∀ k, ¬ ((3 * R).toNat ≤ k ∧ k < (3 * R).toNat + 3) → G' (a0 + 2) k = G (a0 + 2) k) → (∀ c, 0 ≤ c → c < 3 → G' (a0 + 2) (3 * R + c).toNat = if hy < unitW c then G (a0 + 2) (3 * R + c).toNat else hy / unitW c % 10) → Q G') : f_X0_putHymn a0 R hy G Q := by
  unfold f_X0_putHymn
  refine ⟨hR, fun G1 e1 => ?_⟩
  refine loopI3 (I := fun r c G2 => (-1 ≤ c ∧ c ≤ 2) ∧ ((c = 2 ∧ r = hy) ∨ (c = 1 ∧ r = hy / 10) ∨ (c = 0 ∧ r = hy / 10 / 10) ∨ (c = -1 ∧ r = hy / 10 / 10 / 10)) ∧ (∀ y, y ≠ a0 + 2 → G2 y = G1 y) ∧ (∀ k : Nat, ¬ (3 * R + c < (k : Int) ∧ (k : Int) < 3 * R + 3) → G2 (a0 + 2) k = G (a0 + 2) k) ∧ (∀ c', c < c' → c' < 3 → G2 (a0 + 2) (3 * R + c').toNat = if hy < unitW c' then G (a0 + 2) (3 * R + c').toNat else hy / unitW c' % 10)) (μ := fun _ c _ => (c + 1).toNat) (fun k r c G2 hI ih => ?_) hy 2 G1 ⟨by omega, Or.inl ⟨rfl, rfl⟩, fun _ _ => rfl, fun k hk => by rw [e1, up_na (by omega)], fun c' c0 c1 => by omega⟩
  obtain ⟨hc, hr, o2, i2, v2⟩ := hI
  have fin : (c < 0 ∨ r ≤ 0) → Q G2 := fun w => by
    refine h G2 (fun y y0 y1 => by rw [o2 y y1, e1, up_na y0]) (fun k hk => by rw [o2 _ (by omega), e1, upG_nk hk]) (by rw [o2 _ (by omega), e1, upG_same]) (fun k hk => i2 k (by omega)) (fun c' c0 c1 => ?_)
    by_cases q : c < c'
    · exact v2 c' q c1
    · have u := unit_c ⟨c0, c1⟩
      rw [if_pos (by omega)]
      exact i2 _ (by omega)
  refine ⟨fun q => fin (Or.inl q), fun q => ⟨fun q2 => fin (Or.inr q2), fun q2 => ⟨by omega, ⟨by omega, by omega⟩, fun G3 e3 => ih _ _ _ ⟨by omega, by omega, fun y hy' => by rw [e3, up_na hy']; exact o2 y hy', fun k hk => ?_, fun c' c0 c1 => ?_⟩ (by omega)⟩⟩⟩
  · rw [e3, upG_nk (by omega)]; exact i2 k (by omega)
  · by_cases e : c' = c
    · have u := unit_c ⟨q, by omega⟩
      rw [e, e3, show ((R * 3) + c).toNat = (3 * R + c).toNat by omega, upG_same, if_neg (by omega)]
      rcases u with ⟨u1, u2⟩ | ⟨u1, u2⟩ | ⟨u1, u2⟩ <;> rw [u2] <;> omega
    · rw [e3, upG_nk (by omega)]; exact v2 c' (by omega) c1
/-- as actv, decidable -/
abbrev actD (W : WT) (m b i : Int) : Prop := b < W 0 ∧ i < m * rowW W b
def foC (W : WT) (f : Int) : Int := if f = -1 then -1 else 100 * bdW W f + (f - frstW W (bdW W f))
theorem roV_fo : ∀ r : Nat, roV tf W s (r : Int) = 0 ↔ foN tf W s r = -1
  | 0 => ⟨fun _ => rfl, fun _ => rfl⟩
  | r + 1 => by
    have ih := roV_fo r
    have nn : 0 ≤ roV tf W s (r : Int) := sumZ_ge (fun _ _ _ => b2_ge)
    have es : roV tf W s ((r + 1 : Nat) : Int) = roV tf W s (r : Int) + b2 (outR tf W s (r : Int)) := by
      rw [show ((r + 1 : Nat) : Int) = (r : Int) + 1 by omega]
      exact sumZ_s (by omega)
    have ef : foN tf W s (r + 1) = if foN tf W s r ≠ -1 then foN tf W s r else if outR tf W s (r : Int) then (r : Int) else -1 := rfl
    have bb := b2_01 (p := outR tf W s (r : Int))
    rw [es, ef]
    by_cases c : foN tf W s r = -1
    · rw [if_neg (fun w => w c), ih.mpr c]
      by_cases o : outR tf W s (r : Int)
      · rw [if_pos o, b2_t o]; omega
      · rw [if_neg o, b2_f o]; omega
    · rw [if_pos c]
      have : ¬ roV tf W s (r : Int) = 0 := fun w => c (ih.mp w)
      omega
def PlanD (G : GH) (a4 : Nat) (tf : Int) (W : WT) (s : Int) (r : Int) : Prop := (∀ b x : Int, 0 ≤ b → b < 3 → 0 ≤ x → x < 6 → G (a4 + 1) (6 * b + x).toNat = if actD W 1 b x ∧ frstW W b + x < r then hyV tf W s (frstW W b + x) else -1) ∧ (∀ b i : Int, 0 ≤ b → b < 3 → 0 ≤ i → i < 18 → G (a4 + 2) (18 * b + i).toNat = if actD W 3 b i ∧ frstW W b + i / 3 < r then ddV tf W s (3 * frstW W b + i) else -1)
/-- one more row that shows nothing -/
theorem PlanD.none {a4 : Nat} {r : Int} (P : PlanD G a4 tf W s r) (hh : hyV tf W s r = -1) : PlanD G a4 tf W s (r + 1) := by
  refine ⟨fun b x b0 b1 x0 x1 => ?_, fun b i b0 b1 i0 i1 => ?_⟩
  · rw [P.1 b x b0 b1 x0 x1]
    by_cases c : actD W 1 b x ∧ frstW W b + x < r
    · rw [if_pos c, if_pos ⟨c.1, by omega⟩]
    · rw [if_neg c]
      by_cases c2 : actD W 1 b x ∧ frstW W b + x < r + 1
      · have e : frstW W b + x = r := by
          refine Classical.byContradiction fun w => c ⟨c2.1, by omega⟩
        rw [if_pos c2, e, hh]
      · rw [if_neg c2]
  · rw [P.2 b i b0 b1 i0 i1]
    by_cases c : actD W 3 b i ∧ frstW W b + i / 3 < r
    · rw [if_pos c, if_pos ⟨c.1, by omega⟩]
    · rw [if_neg c]
      by_cases c2 : actD W 3 b i ∧ frstW W b + i / 3 < r + 1
      · have e : frstW W b + i / 3 = r := by
          refine Classical.byContradiction fun w => c ⟨c2.1, by omega⟩
        rw [if_pos c2]
        show -1 = ddH (hyV tf W s) (3 * frstW W b + i)
        unfold ddH
        rw [show (3 * frstW W b + i) / 3 = r by omega, if_pos hh]
      · rw [if_neg c2]
theorem PlanD.congr {G' : GH} {a4 : Nat} {r : Int} (P : PlanD G a4 tf W s r) (e1 : G' (a4 + 1) = G (a4 + 1)) (e2 : G' (a4 + 2) = G (a4 + 2)) : PlanD G' a4 tf W s r := by
  unfold PlanD
  rw [e1, e2]; exact P
/-- the row x of the board b is put -/
theorem PlanD.put {G' : GH} {a4 : Nat} {b x : Int} (hW : WF j W) (P : PlanD G a4 tf W s (frstW W b + x)) (b0 : 0 ≤ b) (b1 : b < W 0) (x0 : 0 ≤ x) (x1 : x < rowW W b) {hy : Int} (hh : hyV tf W s (frstW W b + x) = hy) (hy1 : 1 ≤ hy ∧ hy ≤ 999)
    (p1 : ∀ k, k ≠ (6 * b + x).toNat → G' (a4 + 1) k = G (a4 + 1) k) (p2 : G' (a4 + 1) (6 * b + x).toNat = hy) (p3 : ∀ k, ¬ ((3 * (6 * b + x)).toNat ≤ k ∧ k < (3 * (6 * b + x)).toNat + 3) → G' (a4 + 2) k = G (a4 + 2) k) (p4 : ∀ c, 0 ≤ c → c < 3 → G' (a4 + 2) (3 * (6 * b + x) + c).toNat = if hy < unitW c then G (a4 + 2) (3 * (6 * b + x) + c).toNat else hy / unitW c % 10) : PlanD G' a4 tf W s (frstW W b + x + 1) := by
  have bo := hW.bo
  have rb := hW.ro b b0 b1
  have fr := hW.frst b0 (by omega)
  have one : ∀ b' x' : Int, 0 ≤ b' → b' < W 0 → 0 ≤ x' → x' < rowW W b' → frstW W b' + x' = frstW W b + x → b' = b ∧ x' = x := fun b' x' q0 q1 q2 q3 e => by
    have k1 := hW.bd_eq b0 b1 x0 x1
    have k2 := hW.bd_eq q0 q1 q2 q3
    rw [e, k1] at k2
    rw [← k2] at e
    exact ⟨k2.symm, by omega⟩
  refine ⟨fun b' x' q0 q1 q2 q3 => ?_, fun b' i q0 q1 q2 q3 => ?_⟩
  · by_cases e : b' = b ∧ x' = x
    · rw [e.1, e.2, p2, if_pos ⟨⟨b1, by omega⟩, by omega⟩, hh]
    · rw [p1 _ (by omega), P.1 b' x' q0 q1 q2 q3]
      by_cases c : actD W 1 b' x' ∧ frstW W b' + x' < frstW W b + x
      · rw [if_pos c, if_pos ⟨c.1, by omega⟩]
      · rw [if_neg c, if_neg]
        intro w
        have w1 := w.1.1
        have w2 := w.1.2
        exact e (one b' x' q0 w1 q2 (by omega) (by
          refine Classical.byContradiction fun w3 => c ⟨w.1, by omega⟩))
  · by_cases e : b' = b ∧ i / 3 = x
    · have ei : (18 * b' + i).toNat = (3 * (6 * b + x) + i % 3).toNat := by omega
      rw [ei, p4 (i % 3) (by omega) (by omega), e.1, if_pos (show actD W 3 b i ∧ frstW W b + i / 3 < frstW W b + x + 1 from ⟨⟨b1, by omega⟩, by omega⟩)]
      show _ = ddH (hyV tf W s) (3 * frstW W b + i)
      unfold ddH
      rw [show (3 * frstW W b + i) / 3 = frstW W b + x by omega, show (3 * frstW W b + i) % 3 = i % 3 by omega, hh, if_neg (show ¬ hy = -1 by omega)]
      by_cases c : hy < unitW (i % 3)
      · rw [if_pos c, if_pos c, ← ei, P.2 b' i q0 q1 q2 q3, if_neg]
        intro w
        have := w.2
        rw [e.1] at this
        omega
      · rw [if_neg c, if_neg c]
    · rw [p3 _ (by omega), P.2 b' i q0 q1 q2 q3]
      by_cases c : actD W 3 b' i ∧ frstW W b' + i / 3 < frstW W b + x
      · rw [if_pos c, if_pos ⟨c.1, by omega⟩]
      · rw [if_neg c, if_neg]
        intro w
        have w1 := w.1.1
        have w2 := w.1.2
        exact e (one b' (i / 3) q0 w1 (by omega) (by omega) (by
          refine Classical.byContradiction fun w3 => c ⟨w.1, by omega⟩))
/-- the class's rows up to r are chosen; G0: behind the offers -/
def PRow (G0 G : GH) (a4 : Nat) (tf : Int) (W : WT) (s m r : Int) : Prop := (∀ y, y ≠ 208 → ¬ (213 ≤ y ∧ y ≤ 217) → y ≠ a4 + 1 → y ≠ a4 + 2 → G y = G0 y) ∧ (∀ k, ¬ (1 ≤ k ∧ k ≤ 3) → G 208 k = G0 208 k) ∧ (G 208 1 = rhV tf W s r ∧ G 208 2 = roV tf W s r ∧ G 208 3 = foC W (foN tf W s r.toNat)) ∧ PlanD G a4 tf W s r ∧ Mat G m (fun o => shW tf W (sgm G0 o)) (fun o => cntW tf W (sgm G0 o)) (nR tf W s r.toNat)
theorem c_rowStep {Q : GH → Prop} {G0 : GH} {a4 : Nat} {m b x : Int} (ha : a4 = 218 ∨ a4 = 224) (hW : WF j W) (hs : 0 ≤ s ∧ s < W 5) (ht : -1 ≤ tf ∧ tf ≤ 9) (hR : RepS G0 1 W) (k0 : Lk G0 m (cntW tf W)) (b0 : 0 ≤ b) (b1 : b < W 0) (x0 : 0 ≤ x) (x1 : x < rowW W b) (P : PRow G0 G a4 tf W s m (frstW W b + x))
    (h : ∀ G' : GH, PRow G0 G' a4 tf W s m (frstW W b + x + 1) → Q G') : f_X7_hymnFor 1 s b x G (fun r => (r = -1 → Q G) ∧ (r ≠ -1 → f_X4_chooseRow b x r a4 G Q)) := by
  obtain ⟨o1, q1, ⟨c1, c2, c3⟩, pd, M⟩ := P
  have bo := hW.bo
  have rb := hW.ro b b0 b1
  have fr := hW.frst b0 (by omega)
  have al := hW.allR
  have fs := frst_s (W := W) b0
  have fr1 := hW.frst (b := b + 1) (by omega) (by omega)
  have rr : 0 ≤ frstW W b + x ∧ frstW W b + x < allRW W := by omega
  have r1 : RepS G 1 W := hR.congr (fun y y0 y1 => o1 y (by omega) (by omega) (by omega) (by omega))
  have dr := due_rng hW hs rr
  have es := nR_s (tf := tf) (W := W) (s := s) rr.1
  have fos := foN_s (tf := tf) (W := W) (s := s) rr.1
  have rs : rhV tf W s (frstW W b + x + 1) = rhV tf W s (frstW W b + x) + b2 (tkR tf W s (frstW W b + x)) := sumZ_s rr.1
  have os : roV tf W s (frstW W b + x + 1) = roV tf W s (frstW W b + x) + b2 (outR tf W s (frstW W b + x)) := sumZ_s rr.1
  have rng1 : 0 ≤ rhV tf W s (frstW W b + x) ∧ rhV tf W s (frstW W b + x) ≤ frstW W b + x := by
    refine ⟨sumZ_ge (fun _ _ _ => b2_ge), ?_⟩
    have := sumZ_le (f := fun r => b2 (tkR tf W s r)) (c := 1) rr.1 (fun _ _ _ => b2_le)
    unfold rhV
    omega
  have rng2 : 0 ≤ roV tf W s (frstW W b + x) ∧ roV tf W s (frstW W b + x) ≤ frstW W b + x := by
    refine ⟨sumZ_ge (fun _ _ _ => b2_ge), ?_⟩
    have := sumZ_le (f := fun r => b2 (outR tf W s r)) (c := 1) rr.1 (fun _ _ _ => b2_le)
    unfold roV
    omega
  have rofo := roV_fo (tf := tf) (W := W) (s := s) (frstW W b + x).toNat
  rw [show (((frstW W b + x).toNat : Nat) : Int) = frstW W b + x by omega] at rofo
  have hz : ∀ x, 0 ≤ x → x < 43 → cntW tf W x ≤ 0 → cntW tf W x = 0 := fun x x0 x1 w => by
    have := cnt43 hW ht x x0 x1
    omega
  refine c_hymnFor hW r1 hs ⟨b0, b1⟩ ⟨x0, x1⟩ ⟨fun cd => ?_, fun cd => ?_⟩
  · have nt : ¬ tkR tf W s (frstW W b + x) := fun w => w.1 cd
    have no : ¬ outR tf W s (frstW W b + x) := fun w => w.1 cd
    rw [if_neg nt] at es
    rw [b2_f nt] at rs
    rw [b2_f no] at os
    have hyx : hyV tf W s (frstW W b + x) = -1 := by
      unfold hyV
      rw [if_neg (fun w => nt w.2)]
    refine h G ⟨o1, q1, ⟨by rw [c1, rs]; omega, by rw [c2, os]; omega, ?_⟩, pd.none hyx, by rw [es]; exact M⟩
    rw [c3, fos]
    by_cases c5 : foN tf W s (frstW W b + x).toNat = -1
    · rw [if_neg (fun w => w c5), if_neg no, c5]
    · rw [if_pos c5]
  · have dr2 : 1 ≤ dueW W s (frstW W b + x) ∧ dueW W s (frstW W b + x) ≤ 999 := by omega
    unfold f_X4_chooseRow
    refine c_addDigits (by omega) M (fun G2 o2 M2 => ⟨fun w => by omega, fun _ => ⟨⟨by omega, by omega⟩, ?_⟩⟩) (fun G2 o2 M2 nh => ⟨fun _ => ?_, fun w => absurd rfl w⟩)
    · have tk : tkR tf W s (frstW W b + x) := ⟨cd, lack_hall.mpr ((k0.hallE hz).mp M2.hl)⟩
      have nt : ¬ outR tf W s (frstW W b + x) := fun w => w.2 tk.2
      rw [if_pos tk] at es
      rw [b2_t tk] at rs
      rw [b2_f nt] at os
      have hyx : hyV tf W s (frstW W b + x) = dueW W s (frstW W b + x) := if_pos ⟨rr, tk⟩
      refine c_putHymn (a0 := a4) (by omega) dr2 (fun G3 o3 p1 p2 p3 p4 => ?_)
      have e28 : G3 208 = G 208 := by rw [o3 208 (by omega) (by omega), o2 208 (by omega)]
      rw [e28, c1]
      refine ⟨⟨by omega, by omega⟩, fun G4 e4 => ?_⟩
      have pe1 : G2 (a4 + 1) = G (a4 + 1) := o2 _ (by omega)
      have pe2 : G2 (a4 + 2) = G (a4 + 2) := o2 _ (by omega)
      rw [show b * 6 + x = 6 * b + x by omega] at p1 p2 p3 p4
      have pd2 : PlanD G2 a4 tf W s (frstW W b + x) := pd.congr pe1 pe2
      have pd3 := pd2.put (G' := G3) hW b0 b1 x0 x1 hyx dr2 p1 p2 p3 p4
      refine h G4 ⟨fun y y0 y1 y2 y3 => by rw [e4, up_na y0, o3 y y2 y3, o2 y (by omega)]; exact o1 y y0 y1 y2 y3, fun k hk => by rw [e4, upG_nk (by omega), e28]; exact q1 k hk, ⟨by rw [e4, upG_same, rs], by rw [e4, upG_nk (by omega), e28, c2, os]; omega, ?_⟩, pd3.congr (by rw [e4, up_na (by omega)]) (by rw [e4, up_na (by omega)]), ?_⟩
      · rw [e4, upG_nk (by omega), e28, c3, fos]
        by_cases c5 : foN tf W s (frstW W b + x).toNat = -1
        · rw [if_neg (fun w => w c5), if_neg nt, c5]
        · rw [if_pos c5]
      · rw [es]
        obtain ⟨m1, m2, m3, m4, m5, m6⟩ := M2
        have g : ∀ y, 209 ≤ y → y ≤ 214 → G4 y = G2 y := fun y y0 y1 => by rw [e4, up_na (by omega), o3 y (by omega) (by omega)]
        refine ⟨by rw [g 209 (by omega) (by omega)]; exact m1, m2, fun o o0 o1 => by rw [g 211 (by omega) (by omega), g 212 (by omega) (by omega)]; exact m3 o o0 o1, fun o o0 o1 => ?_, fun o d o0 o1 d0 d1 => ?_, fun d d0 d1 => ?_⟩
        · rw [g 213 (by omega) (by omega)]
          unfold useM shM
          rw [g 214 (by omega) (by omega)]; exact m4 o o0 o1
        · unfold shM
          rw [g 214 (by omega) (by omega)]; exact m5 o d o0 o1 d0 d1
        · unfold shM
          rw [g 214 (by omega) (by omega)]; exact m6 d d0 d1
    · have nf : ¬ fitR tf W s (frstW W b + x) := fun w => nh ((k0.hallE hz).mpr (lack_hall.mp w))
      have nt : ¬ tkR tf W s (frstW W b + x) := fun w => nf w.2
      have ot : outR tf W s (frstW W b + x) := ⟨cd, nf⟩
      rw [if_neg nt] at es
      rw [b2_f nt] at rs
      rw [b2_t ot] at os
      have hyx : hyV tf W s (frstW W b + x) = -1 := by
        unfold hyV
        rw [if_neg (fun w => nt w.2)]
      have e28 : G2 208 = G 208 := o2 208 (by omega)
      have pd2 : PlanD G2 a4 tf W s (frstW W b + x + 1) := (pd.congr (o2 _ (by omega)) (o2 _ (by omega))).none hyx
      have fin : ∀ G3 : GH, (∀ y, y ≠ 208 → G3 y = G2 y) → (∀ k, k ≠ 2 → k ≠ 3 → G3 208 k = G 208 k) → G3 208 2 = roV tf W s (frstW W b + x + 1) → G3 208 3 = foC W (foN tf W s (frstW W b + x + 1).toNat) → Q G3 := fun G3 o3 p3 v2 v3 => by
        refine h G3 ⟨fun y y0 y1 y2 y3 => by rw [o3 y y0, o2 y (by omega)]; exact o1 y y0 y1 y2 y3, fun k hk => by rw [p3 k (by omega) (by omega)]; exact q1 k hk, ⟨by rw [p3 1 (by omega) (by omega), c1, rs]; omega, v2, v3⟩, pd2.congr (o3 _ (by omega)) (o3 _ (by omega)), ?_⟩
        rw [es]
        obtain ⟨m1, m2, m3, m4, m5, m6⟩ := M2
        refine ⟨by rw [o3 209 (by omega)]; exact m1, m2, fun o o0 o1 => by rw [o3 211 (by omega), o3 212 (by omega)]; exact m3 o o0 o1, fun o o0 o1 => ?_, fun o d o0 o1 d0 d1 => ?_, fun d d0 d1 => ?_⟩
        · rw [o3 213 (by omega)]
          unfold useM shM
          rw [o3 214 (by omega)]; exact m4 o o0 o1
        · unfold shM
          rw [o3 214 (by omega)]; exact m5 o d o0 o1 d0 d1
        · unfold shM
          rw [o3 214 (by omega)]; exact m6 d d0 d1
      refine joinI1 (P := fun G3 => (∀ y, y ≠ 208 → G3 y = G2 y) ∧ (∀ k, k ≠ 3 → G3 208 k = G 208 k) ∧ G3 208 3 = foC W (foN tf W s (frstW W b + x + 1).toNat)) (fun G3 hP => ?_) (fun jj hj => ?_)
      · obtain ⟨h1, h2, h3⟩ := hP
        rw [h2 2 (by omega), c2]
        refine ⟨⟨by omega, by omega⟩, fun G4 e4 => fin G4 (fun y hy => by rw [e4, up_na hy]; exact h1 y hy) (fun k k1 k2 => by rw [e4, upG_nk k1]; exact h2 k k2) (by rw [e4, upG_same, os]) (by rw [e4, upG_nk (by omega)]; exact h3)⟩
      · rw [e28, c2]
        refine ⟨fun c6 => hj G2 ⟨fun _ _ => rfl, fun k _ => by rw [e28], ?_⟩, fun c6 => ⟨⟨by omega, by omega⟩, fun G5 e5 => hj G5 ⟨fun y hy => by rw [e5, up_na hy], fun k hk => by rw [e5, upG_nk hk, e28], ?_⟩⟩⟩
        · have c7 : foN tf W s (frstW W b + x).toNat ≠ -1 := fun w => c6 (rofo.mpr w)
          rw [e28, c3, fos, if_pos c7]
        · have c7 : foN tf W s (frstW W b + x).toNat = -1 := rofo.mp c6
          rw [e5, upG_same, fos, if_neg (fun w => w c7), if_pos ot]
          unfold foC
          rw [if_neg (by omega), hW.bd_eq b0 b1 x0 x1]; omega
/-- what chooseRows leaves -/
def Chosen (G' : GH) (a4 : Nat) (tf : Int) (W : WT) (s m : Int) : Prop := (G' 208 1 = rhV tf W s (allRW W) ∧ G' 208 2 = roV tf W s (allRW W) ∧ G' 208 3 = foC W (foN tf W s (allRW W).toNat)) ∧ PlanD G' a4 tf W s (allRW W) ∧ (G' a4 0 = -1 ∧ (∀ i, i < 54 → G' (a4 + 3) i = -1 ∧ G' (a4 + 4) i = -1) ∧ (∀ i, i < 42 → G' (a4 + 5) i = 0)) ∧ Lk G' m (cntW tf W) ∧ Mat G' m (fun o => shW tf W (sgm G' o)) (fun o => cntW tf W (sgm G' o)) (nR tf W s (allRW W).toNat)
theorem c_chooseRows {Q : GH → Prop} {a4 : Nat} (ha : a4 = 218 ∨ a4 = 224) (hW : WF j W) (hs : 0 ≤ s ∧ s < W 5) (ht : -1 ≤ tf ∧ tf ≤ 9) (hR : RepS G 1 W) (h : ∀ (G' : GH) (m : Int), (∀ y, ¬ (208 ≤ y ∧ y ≤ 217) → ¬ (a4 ≤ y ∧ y ≤ a4 + 5) → G' y = G y) → Chosen G' a4 tf W s m → Q G') : f_X4_chooseRows 1 s tf a4 G Q := by
  have bo := hW.bo
  have al := hW.allR
  unfold f_X4_chooseRows
  refine c_offerAll (tf := tf) hW hR (fun G1 m o1 q1 => ?_)
  refine joinI1 (P := fun G3 => ∃ m : Int, (∀ y, ¬ (209 ≤ y ∧ y ≤ 214) → G3 y = G y) ∧ OfI G3 m (shW tf W) (cntW tf W) 43) (fun G3 hP => ?_) (fun jj hj => ⟨fun c => hj G1 ⟨m, o1, q1.skip (by omega) ?_⟩, fun c => ?_⟩)
  · obtain ⟨m, o3, q3⟩ := hP
    refine c_allDown (fun G4 o4 d0 d1 d2 d5 G5 e5 G6 e6 G7 e7 => ?_)
    have o7 : ∀ y, y ≠ 208 → G7 y = G4 y := fun y hy => by rw [e7, up_na hy, e6, up_na hy, e5, up_na hy]
    have o73 : ∀ y, y ≠ 208 → ¬ (a4 ≤ y ∧ y ≤ a4 + 5) → G7 y = G3 y := fun y y0 y1 => by rw [o7 y y0, o4 y y1]
    have f1 : G7 208 1 = 0 := by rw [e7, upG_nk (by omega), e6, upG_nk (by omega), e5, upG_same]
    have f2 : G7 208 2 = 0 := by rw [e7, upG_nk (by omega), e6, upG_same]
    have f3 : G7 208 3 = -1 := by rw [e7, upG_same]
    have lb := cnt43 hW ht
    have lk7 : Lk G7 m (cntW tf W) := q3.lk.congr (o73 210 (by omega) (by omega))
    have sg7 : ∀ o, sgm G7 o = sgm G3 o := fun o => by
      unfold sgm
      rw [o73 210 (by omega) (by omega)]
    have M3 := q3.mat (fun _ _ _ => shW_lt) (fun x x0 x1 => (lb x x0 x1).2)
    have ef7 : (fun o => shW tf W (sgm G7 o)) = (fun o => shW tf W (sgm G3 o)) := funext fun o => by
      show shW tf W (sgm G7 o) = shW tf W (sgm G3 o)
      rw [sg7]
    have eg7 : (fun o => cntW tf W (sgm G7 o)) = (fun o => cntW tf W (sgm G3 o)) := funext fun o => by
      show cntW tf W (sgm G7 o) = cntW tf W (sgm G3 o)
      rw [sg7]
    have M7 : Mat G7 m (fun o => shW tf W (sgm G7 o)) (fun o => cntW tf W (sgm G7 o)) (nR tf W s 0) := by
      rw [ef7, eg7]
      exact M3.congrG (fun y y0 y1 => o73 y (by omega) (by omega))
    have r7 : RepS G7 1 W := hR.congr (fun y y0 y1 => by rw [o73 y (by omega) (by omega), o3 y (by omega)])
    have pd7 : PlanD G7 a4 tf W s 0 := by
      refine ⟨fun b x b0 b1 x0 x1 => ?_, fun b i b0 b1 i0 i1 => ?_⟩
      · rw [o7 _ (by omega), if_neg]
        · exact d1 _ (by omega)
        · intro w
          have := hW.frst b0 (by have := w.1.1; omega)
          have := w.2
          omega
      · rw [o7 _ (by omega), if_neg]
        · exact (d2 _ (by omega)).1
        · intro w
          have := hW.frst b0 (by have := w.1.1; omega)
          have := w.2
          omega
    have P0 : PRow G7 G7 a4 tf W s m (frstW W 0) := by
      rw [frst_0]
      exact ⟨fun _ _ _ _ _ => rfl, fun _ _ => rfl, ⟨f1, f2, f3⟩, pd7, M7⟩
    refine up_loop (fun b G8 => PRow G7 G8 a4 tf W s m (frstW W b)) 0 (W 0) (by omega) P0 (fun k b G8 b0 b1 hI kk => ?_)
    have g10 : ∀ G9 : GH, ∀ r, PRow G7 G9 a4 tf W s m r → G9 1 0 = W 0 := fun G9 r P => by
      rw [P.1 1 (by omega) (by omega) (by omega) (by omega)]; exact r7.bo
    rw [g10 G8 _ hI]
    refine ⟨fun c => ?_, fun c => ?_⟩
    · have eb : b = W 0 := by omega
      rw [eb] at hI
      obtain ⟨h1, h2, h3, h4, h5⟩ := hI
      have e8 : ∀ o, sgm G8 o = sgm G7 o := fun o => by
        unfold sgm
        rw [h1 210 (by omega) (by omega) (by omega) (by omega)]
      refine h G8 m (fun y y0 y1 => by rw [h1 y (by omega) (by omega) (by omega) (by omega), o73 y (by omega) y1, o3 y (by omega)]) ⟨h3, h4, ⟨?_, fun i hi => ?_, fun i hi => ?_⟩, lk7.congr (h1 210 (by omega) (by omega) (by omega) (by omega)), ?_⟩
      · rw [h1 a4 (by omega) (by omega) (by omega) (by omega), o7 _ (by omega)]; exact d0
      · rw [h1 _ (by omega) (by omega) (by omega) (by omega), h1 (a4 + 4) (by omega) (by omega) (by omega) (by omega), o7 _ (by omega), o7 _ (by omega)]; exact (d2 i hi).2
      · rw [h1 _ (by omega) (by omega) (by omega) (by omega), o7 _ (by omega)]; exact d5 i hi
      · have ef : (fun o => shW tf W (sgm G8 o)) = (fun o => shW tf W (sgm G7 o)) := funext fun o => by
          show shW tf W (sgm G8 o) = shW tf W (sgm G7 o)
          rw [e8]
        have eg : (fun o => cntW tf W (sgm G8 o)) = (fun o => cntW tf W (sgm G7 o)) := funext fun o => by
          show cntW tf W (sgm G8 o) = cntW tf W (sgm G7 o)
          rw [e8]
        rw [ef, eg]; exact h5
    · have rb := hW.ro b b0 c
      have I0 : PRow G7 G8 a4 tf W s m (frstW W b + 0) := by rw [Int.add_zero]; exact hI
      refine up_loop (fun x G9 => PRow G7 G9 a4 tf W s m (frstW W b + x)) 0 (rowW W b) (by omega) I0 (fun k2 x G9 x0 x1 hI2 kk2 => ⟨⟨b0, by omega⟩, ?_⟩)
      have g2 : G9 2 b.toNat = rowW W b := by
        rw [hI2.1 2 (by omega) (by omega) (by omega) (by omega)]; exact r7.ro b b0 c
      show (G9 2 b.toNat ≤ x → _) ∧ (x < G9 2 b.toNat → _)
      rw [g2]
      refine ⟨fun c2 => kk G9 c ?_, fun c2 => ?_⟩
      · have ex : x = rowW W b := by omega
        rw [frst_s b0, ← ex]; exact hI2
      · refine c_rowStep (Q := fun G10 => k2 (x + 1) G10) ha hW hs ht r7 lk7 b0 c x0 c2 hI2 (fun G10 P10 => kk2 G10 c2 ?_)
        rw [show frstW W b + (x + 1) = frstW W b + x + 1 by omega]; exact P10
  · show cntW tf W 42 ≤ 0
    unfold cntW
    rw [if_pos rfl, if_pos c]; exact Int.le_refl _
  · have r1 : RepS G1 1 W := hR.congr (fun y y0 y1 => o1 y (by omega))
    have ef : frontW tf W 42 = tf := if_pos rfl
    have eb : backW W 42 = -1 := if_pos rfl
    have ec : cntW tf W 42 = 1 := by
      unfold cntW
      rw [if_pos rfl, if_neg c]
    have es : shW tf W 42 = sideN (W 1) tf := by
      have k := sh_side (tf := tf) (W := W) (s := 42) (by rw [ef]; omega) (by rw [eb]; omega)
      rw [ef, eb] at k
      have z : sideN (W 1) (-1) = 0 := if_pos rfl
      rw [z, Nat.or_zero] at k
      exact k
    refine c_side (a := 1) r1 ht ?_
    have k9 := c_offer (i1 := -1) (dx := ((sideN (W 1) tf : Nat) : Int)) (Q := fun G11 => jj G11) q1 ⟨by omega, by omega⟩ rfl (by rw [es]) (fun G4 m' o4 p4 q4 => hj G4 ⟨m', fun y hy => by rw [o4 y (by omega)]; exact o1 y hy, q4⟩)
    rw [ec] at k9
    exact k9
end CR

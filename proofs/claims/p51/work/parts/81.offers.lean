-- ===== PURE LAYER: the class's offers =====
def sideN (tu x : Int) : Nat := if x = -1 then 0 else if tu ≠ 0 ∧ (x = 6 ∨ x = 9) then 2 ^ x.toNat ||| 2 ^ (15 - x).toNat else 2 ^ x.toNat
theorem sideN_in {tu x d : Int} (hd : 0 ≤ d ∧ d < 10) (hx : -1 ≤ x ∧ x ≤ 9) : inS (sideN tu x) d ↔ x ≠ -1 ∧ (d = x ∨ (tu ≠ 0 ∧ (x = 6 ∨ x = 9) ∧ d = 15 - x)) := by
  unfold sideN
  by_cases c : x = -1
  · rw [if_pos c]
    exact ⟨fun w => absurd w inS_0, fun w => absurd c w.1⟩
  · rw [if_neg c]
    by_cases c2 : tu ≠ 0 ∧ (x = 6 ∨ x = 9)
    · rw [if_pos c2, inS_or, inS_bit (by omega) hd.1, inS_bit (by omega) hd.1]
      omega
    · rw [if_neg c2, inS_bit (by omega) hd.1]
      omega
theorem sideN_lt {tu x : Int} (hx : -1 ≤ x ∧ x ≤ 9) : sideN tu x < 1024 := by
  unfold sideN
  by_cases c : x = -1
  · rw [if_pos c]; omega
  · rw [if_neg c]
    by_cases c2 : tu ≠ 0 ∧ (x = 6 ∨ x = 9)
    · rw [if_pos c2]; exact or_lt (bit_lt (by omega)) (bit_lt (by omega))
    · rw [if_neg c2]; exact bit_lt (by omega)
theorem way_ne {tf : Int} {W : WT} {s d : Int} : wayW tf W s d ≠ -1 ↔ (frontW tf W s = d ∨ backW W s = d ∨ (W 1 ≠ 0 ∧ othW d ≠ -1 ∧ (frontW tf W s = othW d ∨ backW W s = othW d))) := by
  unfold wayW
  by_cases c1 : frontW tf W s = d
  · rw [if_pos c1]; exact ⟨fun _ => Or.inl c1, fun _ => by omega⟩
  · rw [if_neg c1]
    by_cases c2 : backW W s = d
    · rw [if_pos c2]; exact ⟨fun _ => Or.inr (Or.inl c2), fun _ => by omega⟩
    · rw [if_neg c2]
      by_cases c3 : W 1 = 0 ∨ othW d = -1
      · rw [if_pos c3]
        exact ⟨fun w => absurd rfl w, fun w => by omega⟩
      · rw [if_neg c3]
        by_cases c4 : frontW tf W s = othW d
        · rw [if_pos c4]; exact ⟨fun _ => by omega, fun _ => by omega⟩
        · rw [if_neg c4]
          by_cases c5 : backW W s = othW d
          · rw [if_pos c5]; exact ⟨fun _ => by omega, fun _ => by omega⟩
          · rw [if_neg c5]; exact ⟨fun w => absurd rfl w, fun w => by omega⟩
theorem sh_side {tf : Int} {W : WT} {s : Int} (hf : 0 ≤ frontW tf W s ∧ frontW tf W s ≤ 9) (hb : -1 ≤ backW W s ∧ backW W s ≤ 9) : shW tf W s = sideN (W 1) (frontW tf W s) ||| sideN (W 1) (backW W s) := by
  refine set_ext shW_lt (or_lt (sideN_lt (by omega)) (sideN_lt hb)) (fun d d0 d1 => ?_)
  rw [shW_in ⟨d0, d1⟩, inS_or, sideN_in ⟨d0, d1⟩ (by omega), sideN_in ⟨d0, d1⟩ hb, way_ne]
  generalize frontW tf W s = f at hf ⊢
  generalize backW W s = b at hb ⊢
  generalize W 1 = t
  by_cases c6 : d = 6
  · have e : othW d = 9 := by unfold othW; rw [if_pos c6]
    rw [e]; omega
  · by_cases c9 : d = 9
    · have e : othW d = 6 := by unfold othW; rw [if_neg c6, if_pos c9]
      rw [e]; omega
    · have e : othW d = -1 := by unfold othW; rw [if_neg c6, if_neg c9]
      rw [e]; omega
section OF1
variable {G : GH} {a : Nat} {W : WT} {j : Int} {Q : Int → Prop}
theorem c_side {x : Int} (hR : RepS G a W) (hx : -1 ≤ x ∧ x ≤ 9) (h : Q ((sideN (W 1) x : Nat) : Int)) : f_X8_digitsOfSide (a + 2) x G Q := by
  unfold f_X8_digitsOfSide
  rw [hR.tu]
  unfold sideN at h
  refine ⟨fun c => ?_, fun c => by rw [if_pos c] at h; exact h⟩
  rw [if_neg c] at h
  have z := zShl1 (e := x) (by omega)
  refine ⟨fun c2 => ?_, fun c2 => c_isTurnable ⟨fun c3 => ?_, fun c3 => ⟨⟨by omega, by omega⟩, ?_⟩⟩⟩
  · rw [if_neg (fun w => w.1 c2)] at h
    rw [z]; exact h
  · rw [if_neg (fun w => b2_eq0 c3 w.2)] at h
    rw [z]; exact h
  · have c4 := b2_ne0 c3
    rw [if_pos ⟨c2, c4⟩] at h
    show Q (zOr (zShl 1 x) (zShl 1 (15 - x)))
    rw [z, zShl1 (e := 15 - x) (by omega), zOrn (bit_lt (by omega)) (bit_lt (by omega))]
    exact h
theorem front_rng (hW : WF j W) {s : Int} (hs : isSort W s) : (0 ≤ frontW (-1) W s ∧ frontW (-1) W s ≤ 9) ∧ (-1 ≤ backW W s ∧ backW W s ≤ 9) := by
  have ho := hW.ow
  unfold isSort at hs
  unfold frontW backW
  have h42 : ¬ s = 42 := by omega
  rw [if_neg h42, if_neg h42]
  by_cases c : s < 12
  · rw [if_pos c, if_pos c]
    have := hW.ca s (by omega) (by omega)
    exact ⟨this.1, this.2.1⟩
  · rw [if_neg c, if_neg c]; omega
theorem c_digitsOf {s : Int} (hW : WF j W) (hR : RepS G a W) (hs : isSort W s) (h : Q ((shW (-1) W s : Nat) : Int)) : f_X8_digitsOf (a + 2) s G Q := by
  have fr := front_rng hW hs
  unfold f_X8_digitsOf
  refine c_frontOf hW hR hs (c_side hR (by omega) (c_backOf hW hR hs (c_side hR fr.2 ?_)))
  rw [zOrn (sideN_lt (by omega)) (sideN_lt fr.2), ← sh_side fr.1 fr.2]
  exact h
end OF1
def sg (v : Int) : Int := if v = -1 then 42 else v
abbrev sgm (G : GH) (o : Int) : Int := sg (G 210 o.toNat)
def OfI (G : GH) (m : Int) (D : Int → Nat) (c0 : Int → Int) (x : Int) : Prop := G 209 0 = m ∧ (0 ≤ m ∧ m ≤ x) ∧ (∀ o, 0 ≤ o → o < m → (0 ≤ sgm G o ∧ sgm G o < x) ∧ 0 < c0 (sgm G o) ∧ G 211 o.toNat = (D (sgm G o) : Int) ∧ G 212 o.toNat = c0 (sgm G o) ∧ G 213 o.toNat = 0) ∧
  (∀ o o', 0 ≤ o → o < o' → o' < m → sgm G o < sgm G o') ∧ (∀ s, 0 ≤ s → s < x → 0 < c0 s → ∃ o, (0 ≤ o ∧ o < m) ∧ sgm G o = s) ∧ (∀ g : Int → Int, sumZ (fun o => g (sgm G o)) m = sumZ (fun s => if 0 < c0 s then g s else 0) x) ∧ (∀ k, k < 430 → G 214 k = 0)
section OF2
variable {G G' : GH} {m x : Int} {D : Int → Nat} {c0 L n : Int → Int}
theorem OfI.skip (q : OfI G m D c0 x) (hx : 0 ≤ x) (hc : c0 x ≤ 0) : OfI G m D c0 (x + 1) := by
  obtain ⟨q1, q2, q3, q4, q5, q6, q7⟩ := q
  refine ⟨q1, by omega, fun o o0 o1 => ?_, q4, fun s s0 s1 sc => q5 s s0 (by
    refine Classical.byContradiction fun w => ?_
    have e : s = x := by omega
    rw [e] at sc; omega) sc, fun g => ?_, q7⟩
  · have z := q3 o o0 o1
    exact ⟨⟨z.1.1, by omega⟩, z.2⟩
  · rw [q6 g, sumZ_s hx, if_neg (by omega)]; omega
theorem c_offer {Q : GH → Prop} {i1 : Int} {dx : Int} (q : OfI G m D c0 x) (hx : 0 ≤ x ∧ x < 43) (hi : sg i1 = x) (hd : dx = (D x : Int)) (h : ∀ (G' : GH) (m' : Int), (∀ y, ¬ (209 ≤ y ∧ y ≤ 213) → G' y = G y) → (∀ k, k ≠ 0 → G' 209 k = G 209 k) → OfI G' m' D c0 (x + 1) → Q G') : f_X2_offer i1 dx (c0 x) G Q := by
  unfold f_X2_offer
  refine ⟨fun c => h G m (fun _ _ => rfl) (fun _ _ => rfl) (q.skip hx.1 c), fun c => ?_⟩
  obtain ⟨q1, q2, q3, q4, q5, q6, q7⟩ := q
  rw [q1]
  refine ⟨fun c2 => by omega, fun c2 => ⟨⟨q2.1, c2⟩, fun G1 e1 => ?_⟩⟩
  have m1 : G1 209 0 = m := by rw [e1, up_na (by omega)]; exact q1
  rw [m1]
  refine ⟨⟨q2.1, c2⟩, fun G2 e2 => ?_⟩
  have m2 : G2 209 0 = m := by rw [e2, up_na (by omega)]; exact m1
  rw [m2]
  refine ⟨⟨q2.1, c2⟩, fun G3 e3 => ?_⟩
  have m3 : G3 209 0 = m := by rw [e3, up_na (by omega)]; exact m2
  rw [m3]
  refine ⟨⟨q2.1, c2⟩, fun G4 e4 => ?_⟩
  have m4 : G4 209 0 = m := by rw [e4, up_na (by omega)]; exact m3
  rw [m4]
  refine ⟨⟨by omega, by omega⟩, fun G5 e5 => ?_⟩
  have r10 : ∀ k, k ≠ m.toNat → G5 210 k = G 210 k := fun k hk => by rw [e5, up_na (by omega), e4, up_na (by omega), e3, up_na (by omega), e2, up_na (by omega), e1, upG_nk hk]
  have r10m : G5 210 m.toNat = i1 := by rw [e5, up_na (by omega), e4, up_na (by omega), e3, up_na (by omega), e2, up_na (by omega), e1, upG_same]
  have r11 : ∀ k, k ≠ m.toNat → G5 211 k = G 211 k := fun k hk => by rw [e5, up_na (by omega), e4, up_na (by omega), e3, up_na (by omega), e2, upG_nk hk, e1, up_na (by omega)]
  have r11m : G5 211 m.toNat = dx := by rw [e5, up_na (by omega), e4, up_na (by omega), e3, up_na (by omega), e2, upG_same]
  have r12 : ∀ k, k ≠ m.toNat → G5 212 k = G 212 k := fun k hk => by rw [e5, up_na (by omega), e4, up_na (by omega), e3, upG_nk hk, e2, up_na (by omega), e1, up_na (by omega)]
  have r12m : G5 212 m.toNat = c0 x := by rw [e5, up_na (by omega), e4, up_na (by omega), e3, upG_same]
  have r13 : ∀ k, k ≠ m.toNat → G5 213 k = G 213 k := fun k hk => by rw [e5, up_na (by omega), e4, upG_nk hk, e3, up_na (by omega), e2, up_na (by omega), e1, up_na (by omega)]
  have r13m : G5 213 m.toNat = 0 := by rw [e5, up_na (by omega), e4, upG_same]
  have ro : ∀ y, ¬ (209 ≤ y ∧ y ≤ 213) → G5 y = G y := fun y hy => by rw [e5, up_na (by omega), e4, up_na (by omega), e3, up_na (by omega), e2, up_na (by omega), e1, up_na (by omega)]
  have sold : ∀ o, 0 ≤ o → o < m → sgm G5 o = sgm G o := fun o o0 o1 => by
    unfold sgm
    rw [r10 _ (by omega)]
  have snew : sgm G5 m = x := by
    unfold sgm
    rw [r10m]; exact hi
  refine h G5 (m + 1) ro (fun k hk => by rw [e5, upG_nk hk, e4, up_na (by omega), e3, up_na (by omega), e2, up_na (by omega), e1, up_na (by omega)]) ⟨by rw [e5, upG_same], by omega, fun o o0 o1 => ?_, fun o o' o0 oo o1 => ?_, fun s s0 s1 sc => ?_, fun g => ?_, fun k hk => by rw [ro 214 (by omega)]; exact q7 k hk⟩
  · by_cases e : o = m
    · rw [e, snew, r11m, r12m, r13m]
      exact ⟨⟨hx.1, by omega⟩, c, hd, rfl, rfl⟩
    · rw [sold o o0 (by omega), r11 _ (by omega), r12 _ (by omega), r13 _ (by omega)]
      have z := q3 o o0 (by omega)
      exact ⟨⟨z.1.1, by omega⟩, z.2⟩
  · by_cases e : o' = m
    · rw [e, snew, sold o o0 (by omega)]
      exact (q3 o o0 (by omega)).1.2
    · rw [sold o o0 (by omega), sold o' (by omega) (by omega)]
      exact q4 o o' o0 oo (by omega)
  · by_cases e : s = x
    · exact ⟨m, ⟨q2.1, by omega⟩, by rw [snew]; exact e.symm⟩
    · obtain ⟨o, ho, hs⟩ := q5 s s0 (by omega) sc
      exact ⟨o, ⟨ho.1, by omega⟩, by rw [sold o ho.1 ho.2]; exact hs⟩
  · rw [sumZ_s q2.1, sumZ_s hx.1, snew, if_pos c, ← q6 g]
    rw [sumZ_congr (f := fun o => g (sgm G5 o)) (g := fun o => g (sgm G o)) (fun o o0 o1 => by rw [sold o o0 o1])]
/-- which offer is of which sort -/
def Lk (G : GH) (m : Int) (c0 : Int → Int) : Prop := (0 ≤ m ∧ m ≤ 43) ∧ (∀ o, 0 ≤ o → o < m → (0 ≤ sgm G o ∧ sgm G o < 43) ∧ 0 < c0 (sgm G o)) ∧ (∀ o o', 0 ≤ o → o < o' → o' < m → sgm G o < sgm G o') ∧ (∀ s, 0 ≤ s → s < 43 → 0 < c0 s → ∃ o, (0 ≤ o ∧ o < m) ∧ sgm G o = s) ∧ (∀ g : Int → Int, sumZ (fun o => g (sgm G o)) m = sumZ (fun s => if 0 < c0 s then g s else 0) 43)
theorem OfI.lk (q : OfI G m D c0 43) : Lk G m c0 := ⟨q.2.1, fun o o0 o1 => ⟨(q.2.2.1 o o0 o1).1, (q.2.2.1 o o0 o1).2.1⟩, q.2.2.2.1, q.2.2.2.2.1, q.2.2.2.2.2.1⟩
theorem OfI.mat (q : OfI G m D c0 43) (hD : ∀ s, 0 ≤ s → s < 43 → D s < 1024) (hc : ∀ s, 0 ≤ s → s < 43 → c0 s ≤ 1000) : Mat G m (fun o => D (sgm G o)) (fun o => c0 (sgm G o)) (fun _ => 0) := by
  obtain ⟨q1, q2, q3, q4, q5, q6, q7⟩ := q
  have z : ∀ o d, 0 ≤ o → o < m → 0 ≤ d → d < 10 → shM G o d = 0 := fun o d o0 o1 d0 d1 => q7 _ (by omega)
  have u : ∀ o, 0 ≤ o → o < m → useM G o = 0 := fun o o0 o1 => sumZ_zero (fun d d0 d1 => z o d o0 o1 d0 d1)
  refine ⟨q1, q2, fun o o0 o1 => ?_, fun o o0 o1 => ?_, fun o d o0 o1 d0 d1 => ?_, fun d d0 d1 => sumZ_zero (fun o o0 o1 => z o d o0 o1 d0 d1)⟩
  · have w := q3 o o0 o1
    exact ⟨w.2.2.1, hD _ w.1.1 w.1.2, w.2.2.2.1, by have := w.2.1; show 0 ≤ c0 (sgm G o); omega, hc _ w.1.1 w.1.2⟩
  · have w := q3 o o0 o1
    rw [u o o0 o1]
    refine ⟨w.2.2.2.2, ?_⟩
    have := w.2.1
    show 0 ≤ c0 (sgm G o)
    omega
  · rw [z o d o0 o1 d0 d1]
    exact ⟨Int.le_refl _, fun w => by omega⟩
theorem Lk.congr (k : Lk G m c0) (e : G' 210 = G 210) : Lk G' m c0 := by
  unfold Lk sgm
  rw [e]; exact k
theorem Lk.canE (k : Lk G m c0) (hL : ∀ s, 0 ≤ s → s < 43 → c0 s ≤ 0 → L s = 0) {X : Nat} : can m (fun o => D (sgm G o)) (fun o => L (sgm G o)) X = can 43 D L X := by
  have e := k.2.2.2.2 (fun s => if mts (D s) X then L s else 0)
  refine e.trans (sumZ_congr (fun s s0 s1 => ?_))
  show (if 0 < c0 s then (if mts (D s) X then L s else 0) else 0) = (if mts (D s) X then L s else 0)
  by_cases c : 0 < c0 s
  · rw [if_pos c]
  · rw [if_neg c, hL s s0 s1 (by omega)]
    split <;> rfl
theorem Lk.hallE (k : Lk G m c0) (hL : ∀ s, 0 ≤ s → s < 43 → c0 s ≤ 0 → L s = 0) : hall m (fun o => D (sgm G o)) (fun o => L (sgm G o)) n ↔ hall 43 D L n :=
  ⟨fun h X hX => by rw [← k.canE hL]; exact h X hX, fun h X hX => by rw [k.canE hL]; exact h X hX⟩
theorem Mat.congrL {L' : Int → Int} (M : Mat G m D L n) (h : ∀ o, 0 ≤ o → o < m → L' o = L o) : Mat G m D L' n := by
  obtain ⟨m1, m2, m3, m4, m5, m6⟩ := M
  exact ⟨m1, m2, fun o o0 o1 => by rw [h o o0 o1]; exact m3 o o0 o1, fun o o0 o1 => by rw [h o o0 o1]; exact m4 o o0 o1, m5, m6⟩
theorem can_congrL {S : Int} {L' : Int → Int} {X : Nat} (h : ∀ o, 0 ≤ o → o < S → L' o = L o) : can S D L' X = can S D L X := sumZ_congr (fun o o0 o1 => by
  show (if mts (D o) X then L' o else 0) = (if mts (D o) X then L o else 0)
  rw [h o o0 o1])
theorem hall_congrL {S : Int} {L' : Int → Int} (h : ∀ o, 0 ≤ o → o < S → L' o = L o) (q : hall S D L n) : hall S D L' n := fun X hX => by rw [can_congrL h]; exact q X hX
/-- one card less of the offer o is one card less of its sort -/
theorem Lk.bumpE (k : Lk G m c0) {o : Int} (ho : 0 ≤ o ∧ o < m) {v : Int} : ∀ o', 0 ≤ o' → o' < m → bump L (sgm G o) v (sgm G o') = bump (fun o => L (sgm G o)) o v o' := fun o' o0 o1 => by
  by_cases e : o' = o
  · rw [e, bump_eq, bump_eq]
  · rw [bump_ne e, bump_ne]
    intro w
    rcases Int.lt_trichotomy o' o with q | q | q
    · have := k.2.2.1 o' o o0 q ho.2
      omega
    · exact e q
    · have := k.2.2.1 o o' ho.1 q o1
      omega
end OF2

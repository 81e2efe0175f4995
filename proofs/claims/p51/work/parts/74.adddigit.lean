-- ===== PURE LAYER: the class's search =====
theorem bits0 {x : Nat} {e : Int} (hx : x < 1024) (he : 0 ≤ e ∧ e < 10) : (zAnd (zShr (x : Int) e) 1 ≠ 0 ↔ inS x e) ∧ (zAnd (zShr (x : Int) e) 1 = 0 ↔ ¬ inS x e) := by
  have z := zbit (x := (x : Int)) (d := e) (by omega) (by omega) he.1 (by omega)
  rw [Int.toNat_natCast] at z
  rw [z]
  by_cases c : inS x e
  · rw [if_pos c]; exact ⟨⟨fun _ => c, fun _ => by omega⟩, ⟨fun w => by omega, fun w => absurd c w⟩⟩
  · rw [if_neg c]; exact ⟨⟨fun w => absurd rfl w, fun w => absurd w c⟩, ⟨fun _ => c, fun _ => rfl⟩⟩
theorem zShl1 {e : Int} (he : 0 ≤ e ∧ e < 10) : zShl 1 e = ((2 ^ e.toNat : Nat) : Int) := by
  have hb := bit_lt he
  have k := zShl_n (x := 1) (y := e.toNat) (by omega) (by omega)
  rw [Nat.one_mul, show ((e.toNat : Nat) : Int) = e by omega] at k
  exact k
theorem zOrn {x y : Nat} (hx : x < 1024) (hy : y < 1024) : zOr (x : Int) (y : Int) = ((x ||| y : Nat) : Int) := by
  rcases zOr_n x y with h | h | h
  · exact h
  · omega
  · omega
section BFS
variable {G G2 G4 : GH} {m : Int} {D : Int → Nat} {L n : Int → Int} {d q : Int} {r : Nat}
def BF (G : GH) (m : Int) (D : Int → Nat) (d : Int) (r : Nat) (q : Int) (G2 : GH) : Prop :=
  (∀ x, x ≠ 215 → x ≠ 216 → x ≠ 217 → G2 x = G x) ∧ r < 1024 ∧ Way G2 m D q d ∧ (∀ j : Int, 0 ≤ j → j < q → inS r (G2 215 j.toNat)) ∧ (∀ e : Int, 0 ≤ e → e < 10 → inS r e → ∃ j : Int, (0 ≤ j ∧ j < q) ∧ G2 215 j.toNat = e) ∧ sumZ (fun e => b2 (inS r e)) 10 = q
def Cls (G : GH) (D : Int → Nat) (L : Int → Int) (r : Nat) (w o : Int) : Prop := inS (D o) w → useM G o = L o ∧ ∀ e : Int, 0 ≤ e → e < 10 → 0 < shM G o e → inS r e
theorem Cls.mono {r' : Nat} {w o : Int} (h : Cls G D L r w o) (hr : ∀ e, inS r e → inS r' e) : Cls G D L r' w o := fun q => ⟨(h q).1, fun e e0 e1 s => hr e ((h q).2 e e0 e1 s)⟩
theorem BF.push {e i w o : Int} {G7 : GH} (B : BF G m D d r q G4) (he : 0 ≤ e ∧ e < 10) (hne : ¬ inS r e) (hi : 0 ≤ i ∧ i < q) (hw : G4 215 i.toNat = w) (ho : 0 ≤ o ∧ o < m) (hs : 0 < shM G o e) (hin : inS (D o) w) (hq10 : q < 10)
    (h5 : ∀ k, k ≠ q.toNat → G7 215 k = G4 215 k) (h5q : G7 215 q.toNat = e) (h6 : ∀ k, k ≠ e.toNat → G7 216 k = G4 216 k) (h6e : G7 216 e.toNat = w) (h7 : ∀ k, k ≠ e.toNat → G7 217 k = G4 217 k) (h7e : G7 217 e.toNat = o) (hx : ∀ x, x ≠ 215 → x ≠ 216 → x ≠ 217 → G7 x = G4 x) : BF G m D d (r ||| 2 ^ e.toNat) (q + 1) G7 := by
  obtain ⟨b1, b2', ⟨p1, p2, p3, p4, p5⟩, b4, b5, b6⟩ := B
  have old : ∀ j : Int, 0 ≤ j → j < q → G7 215 j.toNat = G4 215 j.toNat := fun j j0 j1 => h5 _ (by omega)
  have ne : ∀ j : Int, 0 ≤ j → j < q → G4 215 j.toNat ≠ e := fun j j0 j1 w => hne (by rw [← w]; exact b4 j j0 j1)
  have sub : ∀ x, inS r x → inS (r ||| 2 ^ e.toNat) x := fun x hx => inS_or.mpr (Or.inl hx)
  have e4 : ∀ a c : Int, shM G7 a c = shM G a c := fun a c => by
    show G7 214 _ = G 214 _
    rw [hx 214 (by omega) (by omega) (by omega), b1 214 (by omega) (by omega) (by omega)]
  have e44 : ∀ a c : Int, shM G4 a c = shM G a c := fun a c => by
    show G4 214 _ = G 214 _
    rw [b1 214 (by omega) (by omega) (by omega)]
  refine ⟨fun x x0 x1 x2 => by rw [hx x x0 x1 x2]; exact b1 x x0 x1 x2, or_lt b2' (bit_lt he), ⟨by omega, fun j j0 j1 => ?_, fun a c a0 ac c1 => ?_, ?_, fun j j0 j1 => ?_⟩, fun j j0 j1 => ?_, fun x x0 x1 hin' => ?_, ?_⟩
  · by_cases c : j = q
    · rw [c, h5q]; exact he
    · rw [old j j0 (by omega)]; exact p2 j j0 (by omega)
  · by_cases cq : c = q
    · rw [cq, h5q, old a a0 (by omega)]; exact ne a a0 (by omega)
    · rw [old a a0 (by omega), old c (by omega) (by omega)]; exact p3 a c a0 ac (by omega)
  · have := old 0 (by omega) (by omega)
    exact this.trans p4
  · by_cases c : j = q
    · rw [c, h5q, h6e, h7e]
      refine ⟨i, hi, ?_, ho, ?_, ?_⟩
      · rw [old i hi.1 hi.2]; exact hw.symm
      · rw [e4]; exact hs
      · rw [old i hi.1 hi.2, hw]; exact hin
    · obtain ⟨i', q0, q1, q2, q3, q4⟩ := p5 j j0 (by omega)
      have nj := ne j (by omega) (by omega)
      have rj := p2 j (by omega) (by omega)
      rw [old j (by omega) (by omega), h6 _ (by omega), h7 _ (by omega)]
      refine ⟨i', q0, ?_, q2, ?_, ?_⟩
      · rw [old i' q0.1 (by omega)]; exact q1
      · rw [e4, ← e44]; exact q3
      · rw [old i' q0.1 (by omega)]; exact q4
  · by_cases c : j = q
    · rw [c, h5q]; exact inS_or.mpr (Or.inr ((inS_bit he.1 he.1).mpr rfl))
    · rw [old j j0 (by omega)]; exact sub _ (b4 j j0 (by omega))
  · rcases inS_or.mp hin' with w1 | w1
    · obtain ⟨j, jr, je⟩ := b5 x x0 x1 w1
      exact ⟨j, ⟨jr.1, by omega⟩, by rw [old j jr.1 jr.2]; exact je⟩
    · exact ⟨q, ⟨by omega, by omega⟩, by rw [h5q]; exact ((inS_bit he.1 x0).mp w1).symm⟩
  · rw [sumZ_one (f := fun x => b2 (inS (r ||| 2 ^ e.toNat) x)) (g := fun x => b2 (inS r x)) he.1 he.2 (fun x x0 x1 hxe => b2_iff ⟨fun w1 => (inS_or.mp w1).elim (fun w2 => w2) (fun w2 => absurd ((inS_bit he.1 x0).mp w2) hxe), sub x⟩), b6]
    show q + (b2 (inS (r ||| 2 ^ e.toNat) e) - b2 (inS r e)) = q + 1
    rw [b2_t (inS_or.mpr (Or.inr ((inS_bit he.1 he.1).mpr rfl))), b2_f hne]; omega
theorem BF.room {e : Int} (B : BF G m D d r q G4) (he : 0 ≤ e ∧ e < 10) (hne : ¬ inS r e) : q < 10 := by
  have h1 : sumZ (fun i => b2 (inS r i) + b2 (i = e)) 10 ≤ 1 * 10 := sumZ_le (by omega) (fun i i0 i1 => by
    by_cases c : i = e
    · rw [c, b2_f hne, b2_t rfl]; omega
    · rw [b2_f c]
      have := b2_le (p := inS r i)
      omega)
  rw [sumZ_add, B.2.2.2.2.2, sumZ_one0 (f := fun i => b2 (i = e)) he.1 he.2 (fun i i0 i1 c => b2_f c)] at h1
  have h2 : b2 (e = e) = 1 := b2_t rfl
  rw [h2] at h1
  omega
theorem c_addDigit {Q : Int → GH → Prop} (M : Mat G m D L n) (hd : 0 ≤ d ∧ d < 10) (h1 : ∀ G' : GH, (∀ x, ¬ (213 ≤ x ∧ x ≤ 217) → G' x = G x) → Mat G' m D L (bump n d 1) → Q 1 G') (h0 : ∀ G' : GH, (∀ x, ¬ (215 ≤ x ∧ x ≤ 217) → G' x = G x) → (∃ R : Nat, R < 1024 ∧ inS R d ∧ tight m D L n R) → Q 0 G') : f_X2_addDigit d G Q := by
  have hm := M.2.1
  unfold f_X2_addDigit
  intro G1 e1
  have hsh := zShl1 hd
  have finish : ∀ (r : Nat) (q : Int) (G2 : GH), BF G m D d r q G2 → (∀ j : Int, 0 ≤ j → j < q → ∀ o : Int, 0 ≤ o → o < m → Cls G D L r (G2 215 j.toNat) o) → Q 0 G2 := by
    intro r q G2 B hc
    refine h0 G2 (fun x hx => B.1 x (by omega) (by omega) (by omega)) ⟨r, B.2.1, ?_, ?_⟩
    · have z := B.2.2.2.1 0 (by omega) (by have := B.2.2.1.1; omega)
      have z2 := B.2.2.1.2.2.2.1
      have z3 : G2 215 (0 : Int).toNat = d := z2
      rw [z3] at z; exact z
    · refine tight_of_closed (M := fun o d => shM G o d) (fun o d o0 o1 d0 d1 => M.2.2.2.2.1 o d o0 o1 d0 d1) (fun d d0 d1 => M.2.2.2.2.2 d d0 d1) (fun o o0 o1 => (M.2.2.1 o o0 o1).2.1) (fun o o0 o1 w => ?_)
      obtain ⟨e, e0, e2, e3⟩ := (mts_iff (M.2.2.1 o o0 o1).2.1).mp w
      obtain ⟨j, jr, je⟩ := B.2.2.2.2.1 e e0.1 e0.2 e3
      exact hc j jr.1 jr.2 o o0 o1 (by rw [je]; exact e2)
  refine loopI4 (I := fun x2 x3 x4 G2 => ∃ r : Nat, x2 = (r : Int) ∧ BF G m D d r x3 G2 ∧ (0 ≤ x4 ∧ x4 ≤ x3) ∧ ∀ j : Int, 0 ≤ j → j < x4 → ∀ o : Int, 0 ≤ o → o < m → Cls G D L r (G2 215 j.toNat) o) (μ := fun _ _ x4 _ => (10 - x4).toNat) (fun k1 x2 x3 x4 G2 hI ih => ?_) _ 1 0 G1 ⟨2 ^ d.toNat, hsh, ⟨fun x x0 x1 x2 => by rw [e1, up_na x0], bit_lt hd, ⟨by omega, fun j j0 j1 => ?_, fun i j i0 ij j1 => by omega, by rw [e1, upG_same], fun j j0 j1 => by omega⟩, fun j j0 j1 => ?_, fun e e0 e2 he => ⟨0, by omega, ?_⟩, ?_⟩, by omega, fun j j0 j1 => by omega⟩
  · obtain ⟨r, rfl, B, h4, hc⟩ := hI
    have hq := B.2.2.1.1
    refine ⟨fun c => finish r x3 G2 B (fun j j0 j1 => hc j j0 (by omega)), fun c => ⟨fun c2 => by omega, fun _ => ⟨⟨by omega, by omega⟩, ?_⟩⟩⟩
    have hw4 := B.2.2.1.2.1 x4 h4.1 c
    generalize hw : G2 215 x4.toNat = w at hw4 ⊢
    refine loopI4 (I := fun x2 x3' x6 G3 => ∃ r' : Nat, x2 = (r' : Int) ∧ BF G m D d r' x3' G3 ∧ x4 < x3' ∧ G3 215 x4.toNat = w ∧ (∀ j : Int, 0 ≤ j → j < x4 → ∀ o : Int, 0 ≤ o → o < m → Cls G D L r' (G3 215 j.toNat) o) ∧ (0 ≤ x6 ∧ x6 ≤ m) ∧ ∀ o : Int, 0 ≤ o → o < x6 → Cls G D L r' w o) (μ := fun _ _ x6 _ => (43 - x6).toNat) (fun k2 x2 x3' x6 G3 hI2 ih2 => ?_) _ x3 0 G2 ⟨r, rfl, B, c, hw, hc, by omega, fun o o0 o1 => by omega⟩
    obtain ⟨r', rfl, B2, c3, hw3, hc3, h6, ho6⟩ := hI2
    have g209 : G3 209 0 = m := by rw [B2.1 209 (by omega) (by omega) (by omega)]; exact M.1
    rw [g209]
    refine ⟨fun c6 => ih _ _ _ _ ⟨r', rfl, B2, by omega, fun j j0 j1 o o0 o1 => ?_⟩ (by omega), fun c6 => ⟨⟨by omega, by omega⟩, ?_⟩⟩
    · by_cases cj : j = x4
      · rw [cj, hw3]; exact ho6 o o0 (by omega)
      · exact hc3 j j0 (by omega) o o0 o1
    have mo := M.2.2.1 x6 h6.1 c6
    have mu := M.2.2.2.1 x6 h6.1 c6
    have g211 : G3 211 x6.toNat = (D x6 : Int) := by rw [B2.1 211 (by omega) (by omega) (by omega)]; exact mo.1
    have g212 : G3 212 x6.toNat = L x6 := by rw [B2.1 212 (by omega) (by omega) (by omega)]; exact mo.2.2.1
    have g213 : G3 213 x6.toNat = useM G x6 := by rw [B2.1 213 (by omega) (by omega) (by omega)]; exact mu.1
    have bt := bits0 mo.2.1 hw4
    rw [g211, g212, g213]
    refine ⟨fun cb => ?_, fun cb => ih2 _ _ _ _ ⟨r', rfl, B2, c3, hw3, hc3, by omega, fun o o0 o1 => ?_⟩ (by omega)⟩
    · have hin := bt.1.mp cb
      refine ⟨fun cu => ?_, fun cu => ?_⟩
      · have full : useM G x6 = L x6 := by omega
        refine loopI4 (I := fun x2 x3'' x7 G4 => ∃ s : Nat, x2 = (s : Int) ∧ BF G m D d s x3'' G4 ∧ x4 < x3'' ∧ G4 215 x4.toNat = w ∧ (∀ j : Int, 0 ≤ j → j < x4 → ∀ o : Int, 0 ≤ o → o < m → Cls G D L s (G4 215 j.toNat) o) ∧ (∀ o : Int, 0 ≤ o → o < x6 → Cls G D L s w o) ∧ (0 ≤ x7 ∧ x7 ≤ 10) ∧ ∀ e : Int, 0 ≤ e → e < x7 → 0 < shM G x6 e → inS s e) (μ := fun _ _ x7 _ => (10 - x7).toNat) (fun k3 x2 x3'' x7 G4 hI3 ih3 => ?_) _ x3' 0 G3 ⟨r', rfl, B2, c3, hw3, hc3, ho6, by omega, fun e e0 e2 => by omega⟩
        obtain ⟨s, rfl, B3, c3', hw3', hc3', ho6', h7, hs7⟩ := hI3
        refine ⟨fun c7 => ih2 _ _ _ _ ⟨s, rfl, B3, c3', hw3', hc3', by omega, fun o o0 o1 => ?_⟩ (by omega), fun c7 => ?_⟩
        · by_cases co : o = x6
          · rw [co]
            exact fun _ => ⟨full, fun e e0 e2 sh => hs7 e e0 (by omega) sh⟩
          · exact ho6' o o0 (by omega)
        have bs := bits0 B3.2.1 (e := x7) ⟨h7.1, c7⟩
        have g214 : G4 214 ((x6 * 10) + x7).toNat = shM G x6 x7 := by rw [B3.1 214 (by omega) (by omega) (by omega)]
        have same : (0 < shM G x6 x7 → inS s x7) → k3 (s : Int) x3'' (x7 + 1) G4 := fun hh => ih3 _ _ _ _ ⟨s, rfl, B3, c3', hw3', hc3', ho6', by omega, fun e e0 e2 sh => by
          by_cases ce : e = x7
          · rw [ce] at sh ⊢; exact hh sh
          · exact hs7 e e0 (by omega) sh⟩ (by omega)
        refine ⟨fun cb2 => same (fun _ => bs.1.mp cb2), fun cb2 => ⟨⟨by omega, by omega⟩, ?_⟩⟩
        rw [g214]
        refine ⟨fun cs => same (fun q => by omega), fun cs => ⟨⟨h7.1, c7⟩, fun G5 e5 G6 e6 => ?_⟩⟩
        have nin := bs.2.mp cb2
        have q10 := B3.room ⟨h7.1, c7⟩ nin
        have q1 := B3.2.2.1.1
        refine ⟨⟨by omega, q10⟩, fun G7 e7 => ⟨⟨by omega, by omega⟩, ?_⟩⟩
        have B4 : BF G m D d (s ||| 2 ^ x7.toNat) (x3'' + 1) G7 := B3.push (i := x4) (w := w) (o := x6) ⟨h7.1, c7⟩ nin ⟨h4.1, c3'⟩ hw3' ⟨h6.1, c6⟩ cs hin q10 (fun k hk => by rw [e7, upG_nk hk, e6, up_na (by omega), e5, up_na (by omega)]) (by rw [e7, upG_same]) (fun k hk => by rw [e7, up_na (by omega), e6, up_na (by omega), e5, upG_nk hk]) (by rw [e7, up_na (by omega), e6, up_na (by omega), e5, upG_same]) (fun k hk => by rw [e7, up_na (by omega), e6, upG_nk hk, e5, up_na (by omega)]) (by rw [e7, up_na (by omega), e6, upG_same]) (fun x x0 x1 x2 => by rw [e7, up_na x0, e6, up_na x2, e5, up_na x1])
        have sub : ∀ e, inS s e → inS (s ||| 2 ^ x7.toNat) e := fun e he => inS_or.mpr (Or.inl he)
        have q7 : ∀ j : Int, 0 ≤ j → j < x3'' → G7 215 j.toNat = G4 215 j.toNat := fun j j0 j1 => by rw [e7, upG_nk (by omega), e6, up_na (by omega), e5, up_na (by omega)]
        rw [zShl1 ⟨h7.1, c7⟩, zOrn B3.2.1 (bit_lt ⟨h7.1, c7⟩)]
        refine ih3 _ _ _ _ ⟨s ||| 2 ^ x7.toNat, rfl, B4, by omega, by rw [q7 x4 h4.1 c3']; exact hw3', fun j j0 j1 o o0 o1 => by rw [q7 j j0 (by omega)]; exact (hc3' j j0 j1 o o0 o1).mono sub, fun o o0 o1 => (ho6' o o0 o1).mono sub, by omega, fun e e0 e2 sh => ?_⟩ (by omega)
        by_cases ce : e = x7
        · rw [ce]; exact inS_or.mpr (Or.inr ((inS_bit h7.1 h7.1).mpr rfl))
        · exact sub e (hs7 e e0 (by omega) sh)
      · have M3 : Mat G3 m D L n := by
          obtain ⟨m1, m2, m3, m4, m5, m6⟩ := M
          have e4 : G3 214 = G 214 := B2.1 214 (by omega) (by omega) (by omega)
          refine ⟨g209, m2, fun o o0 o1 => by rw [B2.1 211 (by omega) (by omega) (by omega), B2.1 212 (by omega) (by omega) (by omega)]; exact m3 o o0 o1, fun o o0 o1 => ?_, fun o d' o0 o1 d0 d1 => ?_, fun d' d0 d1 => ?_⟩
          · rw [B2.1 213 (by omega) (by omega) (by omega)]
            unfold useM shM
            rw [e4]; exact m4 o o0 o1
          · unfold shM
            rw [e4]; exact m5 o d' o0 o1 d0 d1
          · unfold shM
            rw [e4]; exact m6 d' d0 d1
        have u3 : useM G3 x6 < L x6 := by
          have e4 : G3 214 = G 214 := B2.1 214 (by omega) (by omega) (by omega)
          unfold useM shM
          rw [e4]; exact cu
        have k9 := c_passOn (Q := fun G8 => Q 1 G8) (o := x6) M3 B2.2.2.1 (j0 := x4) ⟨h4.1, c3⟩ ⟨h6.1, c6⟩ (by rw [hw3]; exact hin) u3 (fun G' o' M' => h1 G' (fun x hx => by rw [o' x (by omega) (by omega), B2.1 x (by omega) (by omega) (by omega)]) M')
        rw [hw3] at k9
        exact k9
    · by_cases co : o = x6
      · rw [co]; exact fun w2 => absurd w2 (bt.2.mp cb)
      · exact ho6 o o0 (by omega)
  · have ej : j = 0 := by omega
    rw [ej, e1]
    have : upG G 215 0 d 215 (0 : Int).toNat = d := upG_same _ _ _ _
    rw [this]; exact hd
  · have ej : j = 0 := by omega
    have : G1 215 j.toNat = d := by
      rw [ej, e1]; exact upG_same _ _ _ _
    rw [this]; exact (inS_bit hd.1 hd.1).mpr rfl
  · rw [e1]
    have : upG G 215 0 d 215 (0 : Int).toNat = d := upG_same _ _ _ _
    rw [this]; exact ((inS_bit hd.1 e0).mp he).symm
  · rw [sumZ_one0 (f := fun x => b2 (inS (2 ^ d.toNat) x)) hd.1 hd.2 (fun x x0 x1 hx => b2_f (fun w => hx ((inS_bit hd.1 x0).mp w)))]
    exact b2_t ((inS_bit hd.1 hd.1).mpr rfl)
end BFS

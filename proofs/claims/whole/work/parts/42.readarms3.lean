-- ===== PURE LAYER: arms of the reading methods: places, rows, sums =====
section ARMS
variable {j : Nat} {G : GH} {K : GH → Prop} {L : Nat} {xs : Nat → Int32} {i4 : Int}
theorem HangS.at1 {h : Nat} {W : WT} {b r : Int} (hH : HangS G h W) (hb : (0 ≤ b ∧ b < W 0) ∧ b < 3) (hr : (0 ≤ r ∧ r < rowW W b) ∧ r < 6) : G (h + 1) (b * 6 + r).toNat = hunW W (frstW W b + r) := by
  have := (hH.1 b r hb.1.1 hb.2 hr.1.1 hr.2).1 ⟨hb.1.2, by omega⟩
  rw [show b * 6 + r = 6 * b + r by omega]; exact this
theorem HangS.at3 {h : Nat} {W : WT} {b r p : Int} (hH : HangS G h W) (hb : (0 ≤ b ∧ b < W 0) ∧ b < 3) (hr : (0 ≤ r ∧ r < rowW W b) ∧ r < 6) (hp : 0 ≤ p ∧ p < 3) : G (h + 2) ((b * 6 + r) * 3 + p).toNat = plaW W (3 * (frstW W b + r) + p) 0 ∧ G (h + 3) ((b * 6 + r) * 3 + p).toNat = plaW W (3 * (frstW W b + r) + p) 1 ∧ G (h + 4) ((b * 6 + r) * 3 + p).toNat = plaW W (3 * (frstW W b + r) + p) 2 := by
  have := (hH.2 b (3 * r + p) hb.1.1 hb.2 (by omega) (by omega)).1 ⟨hb.1.2, by omega⟩
  rw [show (b * 6 + r) * 3 + p = 18 * b + (3 * r + p) by omega, show 3 * (frstW W b + r) + p = 3 * frstW W b + (3 * r + p) by omega]; exact this
theorem HangS.no1 {h : Nat} {W : WT} {b r : Int} (hH : HangS G h W) (hb : 0 ≤ b ∧ b < 3) (hr : 0 ≤ r ∧ r < 6) (hn : ¬ actv W 1 b r) : G (h + 1) (b * 6 + r).toNat = -1 := by
  have := (hH.1 b r hb.1 hb.2 hr.1 hr.2).2 hn
  rw [show b * 6 + r = 6 * b + r by omega]; exact this
def numN (s : Int) : Int := if s < 12 then s else (100 + s) - 12
theorem c_numberOf {s : Int} {Q : Int → Prop} (hs : -1 ≤ s ∧ s < 42) (h : Q (numN s)) : f_X9_numberOf s Q := by
  unfold numN at h
  refine ⟨fun c => ⟨⟨by omega, by omega⟩, ?_⟩, fun c => ?_⟩
  · rw [if_neg (by omega)] at h; exact h
  · rw [if_pos c] at h; exact h
theorem WF.rowlt {n : Int} {W : WT} (hW : WF n W) {b r : Int} (h : (0 ≤ b ∧ b < W 0) ∧ 0 ≤ r ∧ r < rowW W b) : (b < 3 ∧ r < 6) ∧ 0 ≤ frstW W b ∧ frstW W b + r < allRW W ∧ allRW W ≤ 18 := by
  have hb := hW.bo
  have hr := hW.ro b h.1.1 h.1.2
  have f := hW.frst h.1.1 (by omega)
  have f1 := hW.frst (b := b + 1) (by omega) (by omega)
  have f2 := frst_s (W := W) h.1.1
  have := hW.allR
  omega
theorem arm_12 (h : Rel j G) (hK : ∀ G', Rel (j + 1) G' → K G') (hL : 0 ≤ i4 ∧ i4 + 5 ≤ L) : f_law_12 L xs i4 G K := by
  have hW := h.wf
  have hR := h.rp
  refine ⟨⟨by omega, by omega⟩, ⟨by omega, by omega⟩, ⟨by omega, by omega⟩, ⟨by omega, by omega⟩, ?_⟩
  generalize (xs ((i4 + 1)).toNat).toInt = b
  generalize (xs ((i4 + 2)).toNat).toInt = r
  generalize (xs ((i4 + 3)).toNat).toInt = p
  generalize (xs ((i4 + 4)).toNat).toInt = w
  refine arm3 (L := fun Q => f_L_place b r p w G Q) (M := fun G1 Q => f_X10_place b r p w G1 Q) ((0 ≤ b ∧ b < G 273 0) ∧ 0 ≤ r ∧ r < rowW (G 273) b) ((0 ≤ p ∧ p ≤ 2) ∧ 0 ≤ w ∧ w ≤ 2) (if w = 0 then plaW (G 273) (3 * (frstW (G 273) b + r) + p) 0 else if w = 1 then numN (plaW (G 273) (3 * (frstW (G 273) b + r) + p) 1) else plaW (G 273) (3 * (frstW (G 273) b + r) + p) 2) h hK (fun Q q0 q1 q2 => ?_) (fun G1 Q m q0 q1 q2 => ?_)
  · unfold f_L_place f_X9_place
    refine c_needRow hW hR (fun a => c_within (c_needA (fun b1 => ⟨fun b2 => Or.inr ⟨rfl, q2 a (by omega)⟩, ?_⟩) (fun b1 => Or.inr ⟨rfl, q2 a (by omega)⟩))) (fun a => Or.inl ⟨rfl, q1 a⟩)
    have rl := hW.rowlt a
    obtain ⟨e0, e1, e2⟩ := hR.hs.at3 ⟨a.1, rl.1.1⟩ ⟨a.2, rl.1.2⟩ (p := p) (by omega)
    have pl := hW.pl (3 * (frstW (G 273) b + r) + p) (by omega) (by omega)
    by_cases c : 0 ≤ w ∧ w ≤ 2
    · have q0 := q0 a ⟨b1, c⟩
      refine ⟨fun e => ⟨⟨by omega, by omega⟩, fun G1 e5 => ?_⟩, fun e => ⟨⟨by omega, by omega⟩, ?_⟩, fun e => ⟨⟨by omega, by omega⟩, fun G1 e5 => ?_⟩⟩ <;> subst e
      · rw [e5, show G 17 ((((b * 6) + r) * 3) + p).toNat = _ from e0]; exact q0
      · rw [show G 18 ((((b * 6) + r) * 3) + p).toNat = _ from e1]
        refine c_numberOf pl.2.1 (fun G1 e5 => ?_)
        rw [e5]; exact q0
      · rw [e5, show G 19 ((((b * 6) + r) * 3) + p).toNat = _ from e2]; exact q0
    · refine ⟨fun e => ?_, fun e => ?_, fun e => ?_⟩ <;> omega
  · refine mv_noRow m hW (fun a => z01' (p10_in (joinI1 (P := fun v => (v = 0 ∧ (0 ≤ p ∧ p ≤ 2) ∧ 0 ≤ w ∧ w ≤ 2) ∨ (v = 1 ∧ ¬ ((0 ≤ p ∧ p ≤ 2) ∧ 0 ≤ w ∧ w ≤ 2))) (fun v hv => ?_) (fun k hk => ⟨fun c => ?_, fun c => p10_in ⟨fun c2 => ?_, fun c2 => ?_⟩⟩)))) (fun a => z10' (q1 a))
    · have rl := hW.rowlt a
      have pl := fun c => hW.pl (3 * (frstW (G 273) b + r) + p) c
      have m1 := m.th (t := 0)
      rcases hv with ⟨rfl, c1, c2⟩ | ⟨rfl, c⟩
      · have q0 := q0 a ⟨c1, c2⟩
        refine p10_throwsIf (Or.inl rfl) (fun _ => z01 (mv_firstRow m1 hW (by omega) ⟨⟨by omega, by omega⟩, p10_hangs (by omega) ⟨fun c3 => ⟨fun c4 => ?_, fun c4 => ?_, fun c4 => ?_⟩, fun c3 => ?_⟩⟩)) (fun c => by omega)
        · refine p10_placeAt (by omega) (by omega) ⟨⟨by omega, by omega⟩, ?_⟩
          rw [if_neg (by omega), if_neg (by omega)] at q0
          rw [m1.1]; exact q0
        · refine p10_placeAt (by omega) (by omega) ⟨⟨by omega, by omega⟩, ?_⟩
          rw [if_pos c4] at q0
          rw [m1.1]; exact q0
        · refine p10_placeAt (by omega) (by omega) ⟨⟨by omega, by omega⟩, ?_⟩
          rw [if_neg (by omega), if_pos c4] at q0
          rw [m1.1]
          have := (pl (by omega) (by omega)).2.1
          exact p10_numberOf (s := plaW (G 273) (3 * (frstW (G 273) b + r) + p) 1) (by omega) q0
        · have c3 := b2_eq0 c3
          rw [m1.1] at c3
          have z : plaW (G 273) (3 * (frstW (G 273) b + r) + p) 0 = -1 := Classical.byContradiction c3
          have pl := pl (by omega) (by omega)
          have z1 := pl.2.2.2.1.mp z
          have z2 := pl.2.2.2.2.mp z
          rw [z, z1, z2] at q0
          have e9 : (if w = 0 then (-1 : Int) else if w = 1 then numN (-1) else -1) = -1 := by
            split
            · rfl
            · split <;> rfl
          rw [e9] at q0; exact q0
      · refine p10_throwsIf (Or.inr rfl) (fun c => by omega) (fun _ => z10 ?_)
        rw [up_up]; exact q2 a c
    · have := b2_eq0 c
      exact hk _ (Or.inr ⟨rfl, by omega⟩)
    · have := b2_ne0 c; have := b2_ne0 c2
      exact hk _ (Or.inl ⟨rfl, by omega⟩)
    · have := b2_ne0 c; have := b2_eq0 c2
      exact hk _ (Or.inr ⟨rfl, by omega⟩)
theorem arm_13 (h : Rel j G) (hK : ∀ G', Rel (j + 1) G' → K G') (hL : 0 ≤ i4 ∧ i4 + 5 ≤ L) : f_law_13 L xs i4 G K := by
  have hW := h.wf
  have hR := h.rp
  refine ⟨⟨by omega, by omega⟩, ⟨by omega, by omega⟩, ?_⟩
  generalize (xs ((i4 + 1)).toNat).toInt = b
  generalize (xs ((i4 + 2)).toNat).toInt = r
  refine arm3 (L := fun Q => f_L_hung b r G Q) (M := fun G1 Q => f_X10_hung b r G1 Q) ((0 ≤ b ∧ b < G 273 0) ∧ 0 ≤ r ∧ r < rowW (G 273) b) True (hunW (G 273) (frstW (G 273) b + r)) h hK (fun Q q0 q1 q2 => ?_) (fun G1 Q m q0 q1 q2 => ?_)
  · unfold f_L_hung f_X9_hung
    refine c_needRow hW hR (fun a => ?_) (fun a => ⟨rfl, q1 a⟩)
    have rl := hW.rowlt a
    refine ⟨⟨by omega, by omega⟩, fun G1 e => ?_⟩
    rw [e, show G 16 ((b * 6) + r).toNat = _ from hR.hs.at1 ⟨a.1, rl.1.1⟩ ⟨a.2, rl.1.2⟩]; exact q0 a trivial
  · refine mv_noRow m hW (fun a => z01 ?_) (fun a => z10 (q1 a))
    have rl := hW.rowlt a
    have m1 := m.th (t := 0)
    refine mv_firstRow m1 hW (by omega) ⟨⟨by omega, by omega⟩, ?_⟩
    rw [m1.1, show (438 + frstW (G 273) b) + r = 438 + (frstW (G 273) b + r) by omega]; exact q0 a trivial
/-- a sum over sorts of at most 720 each -/
theorem sorts_rng {f : Int → Int} {x : Int} (h0 : 0 ≤ x) (h1 : x ≤ 42) (h : ∀ s, 0 ≤ s → s < x → 0 ≤ f s ∧ f s ≤ 720) : 0 ≤ sumZ f x ∧ sumZ f x ≤ 720 * x := ⟨sumZ_ge (fun s a b => (h s a b).1), sumZ_le h0 (fun s a b => (h s a b).2)⟩
def mostW (W : WT) (d : Int) : Int := sumZ (fun s => if wayW (-1) W s d = -1 then 0 else cntW (-1) W s) 42
def freeW (W : WT) (d : Int) : Int := sumZ (fun s => if wayW (-1) W s d = -1 then 0 else cntW (-1) W s - hgW W s) 42
theorem hg_ge {W : WT} {s : Int} : 0 ≤ hgW W s := sumZ_ge (fun _ _ _ => b2_ge)
theorem most_rng {n : Int} {W : WT} (hW : WF n W) {d s : Int} (h0 : 0 ≤ s) (h1 : s < 42) : 0 ≤ (if wayW (-1) W s d = -1 then 0 else cntW (-1) W s) ∧ (if wayW (-1) W s d = -1 then 0 else cntW (-1) W s) ≤ 720 := by
  have := cnt_rng hW ⟨h0, h1⟩
  split <;> omega
theorem free_rng {n : Int} {W : WT} (hW : WF n W) {d s : Int} (h0 : 0 ≤ s) (h1 : s < 42) : 0 ≤ (if wayW (-1) W s d = -1 then 0 else cntW (-1) W s - hgW W s) ∧ (if wayW (-1) W s d = -1 then 0 else cntW (-1) W s - hgW W s) ≤ 720 := by
  have := cnt_rng hW ⟨h0, h1⟩
  have := hW.hc s h0 h1
  have := hg_ge (W := W) (s := s)
  split <;> omega
theorem c_mostS {a : Nat} {W : WT} {n d : Int} {Q : Int → Prop} (hW : WF n W) (hR : RepS G a W) (hd : 0 ≤ d ∧ d ≤ 9) (hq : Q (mostW W d)) : loop2 (fun (k_1 : Int → Int → Prop) (x2_1 : Int) (x3_1 : Int) => ((42 ≤ x3_1 → (Q x2_1)) ∧ (x3_1 < 42 → (f_X8_showsDigit (a + 2) x3_1 d G (fun r_2 => ((r_2 = 0 → (k_1 x2_1 (x3_1 + 1))) ∧ (r_2 ≠ 0 → ((0 ≤ x3_1 ∧ x3_1 < 42) ∧ (inR (x2_1 + (G (a + 5) (x3_1).toNat)) ∧ (k_1 (x2_1 + (G (a + 5) (x3_1).toNat)) (x3_1 + 1))))))))))) 0 0 := by
  refine sum_loop (fun s => if wayW (-1) W s d = -1 then 0 else cntW (-1) W s) 42 (by omega) (fun k acc x h0 h1 hacc kk => ⟨fun c => ?_, fun c => ?_⟩)
  · have : x = 42 := by omega
    subst this
    rw [hacc, Int.zero_add]; exact hq
  · have kk := kk c
    have r := sorts_rng (x := x) h0 h1 (fun s a b => most_rng hW (d := d) a (by omega))
    have r2 := most_rng hW (d := d) h0 c
    refine c_showsDigit hW hR ⟨h0, c⟩ hd (fun q => ⟨fun _ => ?_, fun q2 => absurd rfl q2⟩) (fun q w => ⟨fun _ => ?_, fun q2 => absurd rfl q2⟩) (fun q w => ⟨fun q2 => by omega, fun _ => ⟨⟨h0, c⟩, ?_⟩⟩)
    · rw [show (if wayW (-1) W x d = -1 then 0 else cntW (-1) W x) = 0 by split; rfl; exact q, Int.add_zero] at kk; exact kk
    · rw [if_pos w, Int.add_zero] at kk; exact kk
    · rw [if_neg w] at kk r2
      rw [hR.ct x h0 c]
      exact ⟨⟨by omega, by omega⟩, kk⟩
theorem c_freeS {a : Nat} {W : WT} {n d : Int} {Q : Int → Prop} (hW : WF n W) (hR : RepS G a W) (hd : 0 ≤ d ∧ d ≤ 9) (hq : Q (freeW W d)) : loop2 (fun (k_1 : Int → Int → Prop) (x2_1 : Int) (x3_1 : Int) => ((42 ≤ x3_1 → (Q x2_1)) ∧ (x3_1 < 42 → (f_X8_showsDigit (a + 2) x3_1 d G (fun r_2 => ((r_2 = 0 → (k_1 x2_1 (x3_1 + 1))) ∧ (r_2 ≠ 0 → ((0 ≤ x3_1 ∧ x3_1 < 42) ∧ (inR (x2_1 + ((G (a + 5) (x3_1).toNat) - (G (a + 19) (x3_1).toNat))) ∧ (k_1 (x2_1 + ((G (a + 5) (x3_1).toNat) - (G (a + 19) (x3_1).toNat))) (x3_1 + 1))))))))))) 0 0 := by
  refine sum_loop (fun s => if wayW (-1) W s d = -1 then 0 else cntW (-1) W s - hgW W s) 42 (by omega) (fun k acc x h0 h1 hacc kk => ⟨fun c => ?_, fun c => ?_⟩)
  · have : x = 42 := by omega
    subst this
    rw [hacc, Int.zero_add]; exact hq
  · have kk := kk c
    have r := sorts_rng (x := x) h0 h1 (fun s a b => free_rng hW (d := d) a (by omega))
    have r2 := free_rng hW (d := d) h0 c
    have hc := hW.hc x h0 c
    have hg := hg_ge (W := W) (s := x)
    refine c_showsDigit hW hR ⟨h0, c⟩ hd (fun q => ⟨fun _ => ?_, fun q2 => absurd rfl q2⟩) (fun q w => ⟨fun _ => ?_, fun q2 => absurd rfl q2⟩) (fun q w => ⟨fun q2 => by omega, fun _ => ⟨⟨h0, c⟩, ?_⟩⟩)
    · rw [show (if wayW (-1) W x d = -1 then 0 else cntW (-1) W x - hgW W x) = 0 by split; rfl; omega, Int.add_zero] at kk; exact kk
    · rw [if_pos w, Int.add_zero] at kk; exact kk
    · rw [if_neg w] at kk r2
      rw [hR.ct x h0 c, hR.hg x h0 c]
      exact ⟨⟨by omega, by omega⟩, kk⟩
theorem arm_15 (h : Rel j G) (hK : ∀ G', Rel (j + 1) G' → K G') (hL : 0 ≤ i4 ∧ i4 + 5 ≤ L) : f_law_15 L xs i4 G K := by
  have hW := h.wf
  have hR := h.rp
  refine ⟨⟨by omega, by omega⟩, ?_⟩
  generalize (xs ((i4 + 1)).toNat).toInt = d
  refine arm3 (L := fun Q => f_L_free d G Q) (M := fun G1 Q => f_X10_free d G1 Q) (0 ≤ d ∧ d ≤ 9) True (freeW (G 273) d) h hK (fun Q q0 q1 q2 => ?_) (fun G1 Q m q0 q1 q2 => ?_)
  · refine c_needDigit (fun a => c_freeS (a := 1) hW hR a (fun G1 e => ?_)) (fun a => ⟨rfl, q1 a⟩)
    rw [e]; exact q0 a trivial
  · refine p10_noDigit (fun a => z01 ?_) (fun a => z10 (q1 a))
    have m1 := m.th (t := 0)
    refine sum_loop (fun s => if wayW (-1) (G 273) s d = -1 then 0 else cntW (-1) (G 273) s - hgW (G 273) s) 42 (by omega) (fun k acc x h0 h1 hacc kk => ⟨fun c => ?_, fun c => ?_⟩)
    · have : x = 42 := by omega
      subst this
      rw [hacc, Int.zero_add]; exact q0 a trivial
    · have kk := kk c
      have r := sorts_rng (x := x) h0 h1 (fun s a b => free_rng hW (d := d) a (by omega))
      have r2 := free_rng hW (d := d) h0 c
      refine mv_way m1 (by omega) ⟨fun w => mv_count m1 hW (by omega) (mv_hanging m1 ?_), fun w => ?_⟩
      · rw [if_neg w] at kk r2
        exact ⟨⟨by omega, by omega⟩, kk⟩
      · rw [if_pos w] at kk
        exact ⟨⟨by omega, by omega⟩, kk⟩
theorem arm_17 (h : Rel j G) (hK : ∀ G', Rel (j + 1) G' → K G') (hL : 0 ≤ i4 ∧ i4 + 5 ≤ L) : f_law_17 L xs i4 G K := by
  have hW := h.wf
  have hR := h.rp
  refine ⟨⟨by omega, by omega⟩, ?_⟩
  generalize (xs ((i4 + 1)).toNat).toInt = d
  refine arm3 (L := fun Q => f_L_most d G Q) (M := fun G1 Q => f_X10_most d G1 Q) (0 ≤ d ∧ d ≤ 9) True (mostW (G 273) d) h hK (fun Q q0 q1 q2 => ?_) (fun G1 Q m q0 q1 q2 => ?_)
  · refine c_needDigit (fun a => c_mostS (a := 1) hW hR a (fun G1 e => ?_)) (fun a => ⟨rfl, q1 a⟩)
    rw [e]; exact q0 a trivial
  · refine p10_noDigit (fun a => z01 ?_) (fun a => z10 (q1 a))
    have m1 := m.th (t := 0)
    refine sum_loop (fun s => if wayW (-1) (G 273) s d = -1 then 0 else cntW (-1) (G 273) s) 42 (by omega) (fun k acc x h0 h1 hacc kk => ⟨fun c => ?_, fun c => ?_⟩)
    · have : x = 42 := by omega
      subst this
      rw [hacc, Int.zero_add]; exact q0 a trivial
    · have kk := kk c
      have r := sorts_rng (x := x) h0 h1 (fun s a b => most_rng hW (d := d) a (by omega))
      have r2 := most_rng hW (d := d) h0 c
      refine mv_way m1 (by omega) ⟨fun w => mv_count m1 hW (by omega) ?_, fun w => ?_⟩
      · rw [if_neg w] at kk r2
        exact ⟨⟨by omega, by omega⟩, kk⟩
      · rw [if_pos w] at kk
        exact ⟨⟨by omega, by omega⟩, kk⟩
end ARMS

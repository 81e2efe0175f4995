-- ===== PURE LAYER: arms of the reading methods: places, rows, sums =====
section ARMS
variable {j : Nat} {G : GH} {K : GH → Prop} {L : Nat} {xs : Nat → Int32} {i4 : Int}
theorem HangS.at1 {h : Nat} {W : WT} {b r : Int} (hH : HangS G h W) (hb : (0 ≤ b ∧ b < W 0) ∧ b < 3) (hr : (0 ≤ r ∧ r < rowW W b) ∧ r < 6) : G (h + 1) (b * 6 + r).toNat = hunW W (frstW W b + r) := by
  have := (hH.1 b r hb.1.1 hb.2 hr.1.1 hr.2).1 ⟨hb.1.2, by omega⟩
  rw [show b * 6 + r = 6 * b + r by omega]; exact this
theorem HangS.at3 {h : Nat} {W : WT} {b r p : Int} (hH : HangS G h W) (hb : (0 ≤ b ∧ b < W 0) ∧ b < 3) (hr : (0 ≤ r ∧ r < rowW W b) ∧ r < 6) (hp : 0 ≤ p ∧ p < 3) : G (h + 2) ((b * 6 + r) * 3 + p).toNat = plaW W (3 * (frstW W b + r) + p) 0 ∧ G (h + 3) ((b * 6 + r) * 3 + p).toNat = plaW W (3 * (frstW W b + r) + p) 1 ∧ G (h + 4) ((b * 6 + r) * 3 + p).toNat = plaW W (3 * (frstW W b + r) + p) 2 := by
  have := (hH.2 b (3 * r + p) hb.1.1 hb.2 (by omega) (by omega)).1 ⟨hb.1.2, by omega⟩
  rw [show (b * 6 + r) * 3 + p = 18 * b + (3 * r + p) by omega, show 3 * (frstW W b + r) + p = 3 * frstW W b + (3 * r + p) by omega]; exact this
theorem HangS.no1 {h : Nat} {W : WT} {b r : Int} (hH : HangS G h W) (hb : 0 ≤ b ∧ b < 3) (hr : 0 ≤ r ∧ r < 6) (hn : ¬ actv W 1 b r) : G (h + 1) (b * 6 + r).toNat = -1 := by
  have := (hH.1 b r hb.1 hb.2 hr.1 hr.2).2 hn
  rw [show b * 6 + r = 6 * b + r by omega]; exact this
def numN (s : Int) : Int := if s < 12 then s else (100 + s) - 12
theorem c_numberOf {s : Int} {Q : Int → Prop} (hs : -1 ≤ s ∧ s < 42) (h : Q (numN s)) : f_X9_numberOf s Q := by
  unfold numN at h
  refine ⟨fun c => ⟨⟨by omega, by omega⟩, ?_⟩, fun c => ?_⟩
  · rw [if_neg (by omega)] at h; exact h
  · rw [if_pos c] at h; exact h
theorem WF.rowlt {n : Int} {W : WT} (hW : WF n W) {b r : Int} (h : (0 ≤ b ∧ b < W 0) ∧ 0 ≤ r ∧ r < rowW W b) : (b < 3 ∧ r < 6) ∧ 0 ≤ frstW W b ∧ frstW W b + r < allRW W ∧ allRW W ≤ 18 := by
  have hb := hW.bo
  have hr := hW.ro b h.1.1 h.1.2
  have f := hW.frst h.1.1 (by omega)
  have f1 := hW.frst (b := b + 1) (by omega) (by omega)
  have f2 := frst_s (W := W) h.1.1
  have := hW.allR
  omega
/-- a sum over sorts of at most 720 each -/
theorem sorts_rng {f : Int → Int} {x : Int} (h0 : 0 ≤ x) (h1 : x ≤ 42) (h : ∀ s, 0 ≤ s → s < x → 0 ≤ f s ∧ f s ≤ 720) : 0 ≤ sumZ f x ∧ sumZ f x ≤ 720 * x := ⟨sumZ_ge (fun s a b => (h s a b).1), sumZ_le h0 (fun s a b => (h s a b).2)⟩
def mostW (W : WT) (d : Int) : Int := sumZ (fun s => if wayW (-1) W s d = -1 then 0 else cntW (-1) W s) 42
def freeW (W : WT) (d : Int) : Int := sumZ (fun s => if wayW (-1) W s d = -1 then 0 else cntW (-1) W s - hgW W s) 42
theorem hg_ge {W : WT} {s : Int} : 0 ≤ hgW W s := sumZ_ge (fun _ _ _ => b2_ge)
theorem most_rng {n : Int} {W : WT} (hW : WF n W) {d s : Int} (h0 : 0 ≤ s) (h1 : s < 42) : 0 ≤ (if wayW (-1) W s d = -1 then 0 else cntW (-1) W s) ∧ (if wayW (-1) W s d = -1 then 0 else cntW (-1) W s) ≤ 720 := by
  have := cnt_rng hW ⟨h0, h1⟩
  split <;> omega
theorem free_rng {n : Int} {W : WT} (hW : WF n W) {d s : Int} (h0 : 0 ≤ s) (h1 : s < 42) : 0 ≤ (if wayW (-1) W s d = -1 then 0 else cntW (-1) W s - hgW W s) ∧ (if wayW (-1) W s d = -1 then 0 else cntW (-1) W s - hgW W s) ≤ 720 := by
  have := cnt_rng hW ⟨h0, h1⟩
  have := hW.hc s h0 h1
  have := hg_ge (W := W) (s := s)
  split <;> omega
theorem c_mostS {a : Nat} {W : WT} {n d : Int} {Q : Int → Prop} (hW : WF n W) (hR : RepS G a W) (hd : 0 ≤ d ∧ d ≤ 9) (hq : Q (mostW W d)) : loop2 (fun (k_1 : Int → Int → Prop) (x2_1 : Int) (x3_1 : Int) => ((42 ≤ x3_1 → (Q x2_1)) ∧ (x3_1 < 42 → (f_X8_showsDigit (a + 2) x3_1 d G (fun r_2 => ((r_2 = 0 → (k_1 x2_1 (x3_1 + 1))) ∧ (r_2 ≠ 0 → ((0 ≤ x3_1 ∧ x3_1 < 42) ∧ (inR (x2_1 + (G (a + 5) (x3_1).toNat)) ∧ (k_1 (x2_1 + (G (a + 5) (x3_1).toNat)) (x3_1 + 1))))))))))) 0 0 := by
  refine sum_loop (fun s => if wayW (-1) W s d = -1 then 0 else cntW (-1) W s) 42 (by omega) (fun k acc x h0 h1 hacc kk => ⟨fun c => ?_, fun c => ?_⟩)
  · have : x = 42 := by omega
    subst this
    rw [hacc, Int.zero_add]; exact hq
  · have kk := kk c
    have r := sorts_rng (x := x) h0 h1 (fun s a b => most_rng hW (d := d) a (by omega))
    have r2 := most_rng hW (d := d) h0 c
    refine c_showsDigit hW hR ⟨h0, c⟩ hd (fun q => ⟨fun _ => ?_, fun q2 => absurd rfl q2⟩) (fun q w => ⟨fun _ => ?_, fun q2 => absurd rfl q2⟩) (fun q w => ⟨fun q2 => by omega, fun _ => ⟨⟨h0, c⟩, ?_⟩⟩)
    · rw [show (if wayW (-1) W x d = -1 then 0 else cntW (-1) W x) = 0 by split; rfl; exact q, Int.add_zero] at kk; exact kk
    · rw [if_pos w, Int.add_zero] at kk; exact kk
    · rw [if_neg w] at kk r2
      rw [hR.ct x h0 c]
      exact ⟨⟨by omega, by omega⟩, kk⟩
theorem c_freeS {a : Nat} {W : WT} {n d : Int} {Q : Int → Prop} (hW : WF n W) (hR : RepS G a W) (hd : 0 ≤ d ∧ d ≤ 9) (hq : Q (freeW W d)) : loop2 (fun (k_1 : Int → Int → Prop) (x2_1 : Int) (x3_1 : Int) => ((42 ≤ x3_1 → (Q x2_1)) ∧ (x3_1 < 42 → (f_X8_showsDigit (a + 2) x3_1 d G (fun r_2 => ((r_2 = 0 → (k_1 x2_1 (x3_1 + 1))) ∧ (r_2 ≠ 0 → ((0 ≤ x3_1 ∧ x3_1 < 42) ∧ (inR (x2_1 + ((G (a + 5) (x3_1).toNat) - (G (a + 19) (x3_1).toNat))) ∧ (k_1 (x2_1 + ((G (a + 5) (x3_1).toNat) - (G (a + 19) (x3_1).toNat))) (x3_1 + 1))))))))))) 0 0 := by
  refine sum_loop (fun s => if wayW (-1) W s d = -1 then 0 else cntW (-1) W s - hgW W s) 42 (by omega) (fun k acc x h0 h1 hacc kk => ⟨fun c => ?_, fun c => ?_⟩)
  · have : x = 42 := by omega
    subst this
    rw [hacc, Int.zero_add]; exact hq
  · have kk := kk c
    have r := sorts_rng (x := x) h0 h1 (fun s a b => free_rng hW (d := d) a (by omega))
    have r2 := free_rng hW (d := d) h0 c
    have hc := hW.hc x h0 c
    have hg := hg_ge (W := W) (s := x)
    refine c_showsDigit hW hR ⟨h0, c⟩ hd (fun q => ⟨fun _ => ?_, fun q2 => absurd rfl q2⟩) (fun q w => ⟨fun _ => ?_, fun q2 => absurd rfl q2⟩) (fun q w => ⟨fun q2 => by omega, fun _ => ⟨⟨h0, c⟩, ?_⟩⟩)
    · rw [show (if wayW (-1) W x d = -1 then 0 else cntW (-1) W x - hgW W x) = 0 by split; rfl; omega, Int.add_zero] at kk; exact kk
    · rw [if_pos w, Int.add_zero] at kk; exact kk
    · rw [if_neg w] at kk r2
      rw [hR.ct x h0 c, hR.hg x h0 c]
      exact ⟨⟨by omega, by omega⟩, kk⟩
end ARMS

-- ===== p51, PURE LAYER: what the class answers to reads =====
def cdW (W : WT) (s i : Int) : Int := if i = 0 then frontW (-1) W s else if i = 1 then backW W s else if i = 2 then cntW (-1) W s else hgW W s
def plcW (W : WT) (p w : Int) : Int := if w = 0 then plaW W p 0 else if w = 1 then numN (plaW W p 1) else plaW W p 2
section PG
variable {j : Int} {G : GH} {W : WT} {Q : Int → Prop} {X : String → Prop} {Q2 : Int → GH → Prop} {X2 : String → GH → Prop}
theorem e_card {k i : Int} (hW : WF j W) (hR : RepS G 1 W) (hk : (0 ≤ k ∧ k < W 3) ∨ (100 ≤ k ∧ k < 100 + 10 * W 4)) (hi : 0 ≤ i ∧ i ≤ 3) (q0 : Q (cdW W (sortN k) i)) : f_X9_card k i G Q X := by
  have how := hW.ow
  have hfr := hW.fr
  unfold f_X9_card
  refine c_sortOf ⟨by omega, by omega⟩ hW hR (fun a => ⟨fun b => by omega, ?_⟩) (fun a => absurd hk a)
  have s := sortN_rng hW (c := k) (by unfold isCardW; omega)
  unfold cdW at q0
  show (_ = _ → f_X8_frontOf 3 (sortN k) G _) ∧ (_ = _ → f_X8_backOf 3 (sortN k) G _) ∧ (_ = _ → (0 ≤ sortN k ∧ sortN k < 42) ∧ _) ∧ (_ = _ → (0 ≤ sortN k ∧ sortN k < 42) ∧ _)
  refine ⟨fun e => ?_, fun e => ?_, fun e => ⟨s.2, ?_⟩, fun e => ⟨s.2, ?_⟩⟩ <;> subst e
  · exact c_frontOf hW hR s.1 q0
  · exact c_backOf hW hR s.1 q0
  · show Q (G 6 (sortN k).toNat)
    rw [show G 6 (sortN k).toNat = cntW (-1) W (sortN k) from hR.ct _ s.2.1 s.2.2]; exact q0
  · show Q (G 20 (sortN k).toNat)
    rw [show G 20 (sortN k).toNat = hgW W (sortN k) from hR.hg _ s.2.1 s.2.2]; exact q0
theorem e_way {k i : Int} (hW : WF j W) (hR : RepS G 1 W) (hk : (0 ≤ k ∧ k < W 3) ∨ (100 ≤ k ∧ k < 100 + 10 * W 4)) (hi : 0 ≤ i ∧ i ≤ 9) (q0 : Q (wayW (-1) W (sortN k) i)) : f_X9_way k i G Q X := by
  have how := hW.ow
  have hfr := hW.fr
  unfold f_X9_way
  refine c_sortOf ⟨by omega, by omega⟩ hW hR (fun a => c_needDigit (fun _ => ?_) (fun b => absurd hi b)) (fun a => absurd hk a)
  have s := sortN_rng hW (c := k) (by unfold isCardW; omega)
  exact c_wayOf hW hR s.1 hi q0
theorem e_lends {c i : Int} (hW : WF j W) (hR : RepS G 1 W) (hc : 0 ≤ c ∧ c < W 4) (hi : 0 ≤ i ∧ i ≤ 9) (q0 : Q (friW W c (1 + i))) : f_X9_lends c i G Q X := by
  have hf := hW.fr
  refine c_needFriend hW hR (fun a => c_needDigit (fun b => ⟨⟨by omega, by omega⟩, ?_⟩) (fun b => absurd hi b)) (fun a => absurd hc a)
  have := (hR.fd c hc.1 hc.2).2 i (by omega) (by omega)
  rw [show G 8 ((c * 10) + i).toNat = friW W c (1 + i) from this]; exact q0
theorem e_loan {c i : Int} (hW : WF j W) (hR : RepS G 1 W) (hc : 0 ≤ c ∧ c < W 6) (hi : 0 ≤ i ∧ i ≤ 3) (q0 : Q (loanW W c i)) : f_X9_loan c i G Q X := by
  have hl := hW.lo
  have elo : G 3 8 = W 6 := hR.lo
  unfold f_X9_loan
  rw [elo]
  refine ⟨⟨by omega, by omega⟩, c_within (c_needI (fun a => ⟨fun b => by omega, ?_⟩) (fun a => absurd (show 0 ≤ c ∧ c ≤ W 6 - 1 by omega) a))⟩
  have e := hR.ln c (by omega) (by omega)
  have ln := hW.ln c (by omega) (by omega)
  have e1 : G 9 c.toNat = loanW W c 0 * 10 + loanW W c 1 := e.1
  have e2 : G 10 c.toNat = loanW W c 2 := e.2.1
  have e3 : G 11 c.toNat = loanW W c 3 := e.2.2
  refine ⟨fun e => ⟨⟨by omega, by omega⟩, by omega, ?_⟩, fun e => ⟨⟨by omega, by omega⟩, by omega, ?_⟩, fun e => ⟨⟨by omega, by omega⟩, ?_⟩, fun e => ⟨⟨by omega, by omega⟩, ?_⟩⟩ <;> subst e
  · rw [e1, show (loanW W c 0 * 10 + loanW W c 1) / 10 = loanW W c 0 by omega]; exact q0
  · rw [e1, show (loanW W c 0 * 10 + loanW W c 1) % 10 = loanW W c 1 by omega]; exact q0
  · rw [e2]; exact q0
  · rw [e3]; exact q0
theorem e_rows {c : Int} (hW : WF j W) (hR : RepS G 1 W) (hc : 0 ≤ c ∧ c < W 0) (q0 : Q (rowW W c)) : f_X9_rows c G Q X := by
  have hb := hW.bo
  have ebo : G 1 0 = W 0 := hR.bo
  unfold f_X9_rows
  rw [ebo]
  refine ⟨⟨by omega, by omega⟩, c_within (c_needI (fun a => ⟨⟨by omega, by omega⟩, ?_⟩) (fun a => absurd (show 0 ≤ c ∧ c ≤ W 0 - 1 by omega) a))⟩
  rw [show G 2 c.toNat = rowW W c from hR.ro c (by omega) (by omega)]; exact q0
theorem e_hymns {s : Int} (hW : WF j W) (hR : RepS G 1 W) (hs : 0 ≤ s ∧ s < W 5) (q0 : Q (servW W s 0)) : f_X9_hymns s G Q X := by
  have := hW.se
  refine c_needService hW hR (fun a => ⟨by omega, ?_⟩) (fun a => absurd hs a)
  rw [show G 13 s.toNat = servW W s 0 from (hR.sv s hs.1 hs.2).1]; exact q0
theorem e_hymn {s i : Int} (hW : WF j W) (hR : RepS G 1 W) (hs : 0 ≤ s ∧ s < W 5) (hi : inR i) (q0 : Q (if 0 ≤ i ∧ i < servW W s 0 then servW W s (1 + i) else -1)) : f_X9_hymn s i G Q X :=
  c_needService hW hR (fun a => c_hymnAt (a := 1) hW hR hs hi q0) (fun a => absurd hs a)
theorem e_hung {b r : Int} (hW : WF j W) (hR : RepS G 1 W) (a : (0 ≤ b ∧ b < W 0) ∧ 0 ≤ r ∧ r < rowW W b) (q0 : Q (hunW W (frstW W b + r))) : f_X9_hung b r G Q X := by
  unfold f_X9_hung
  refine c_needRow hW hR (fun _ => ?_) (fun q => absurd a q)
  have rl := hW.rowlt a
  refine ⟨⟨by omega, by omega⟩, ?_⟩
  rw [show G 16 ((b * 6) + r).toNat = _ from hR.hs.at1 ⟨a.1, rl.1.1⟩ ⟨a.2, rl.1.2⟩]; exact q0
theorem e_place {b r p w : Int} (hW : WF j W) (hR : RepS G 1 W) (a : (0 ≤ b ∧ b < W 0) ∧ 0 ≤ r ∧ r < rowW W b) (hp : 0 ≤ p ∧ p ≤ 2) (hw : 0 ≤ w ∧ w ≤ 2) (q0 : Q (plcW W (3 * (frstW W b + r) + p) w)) : f_X9_place b r p w G Q X := by
  unfold f_X9_place
  refine c_needRow hW hR (fun _ => c_within (c_needA (fun _ => ⟨fun b2 => by omega, ?_⟩) (fun b1 => absurd hp b1))) (fun q => absurd a q)
  have rl := hW.rowlt a
  obtain ⟨e0, e1, e2⟩ := hR.hs.at3 ⟨a.1, rl.1.1⟩ ⟨a.2, rl.1.2⟩ (p := p) (by omega)
  have pl := hW.pl (3 * (frstW W b + r) + p) (by omega) (by omega)
  unfold plcW at q0
  refine ⟨fun e => ⟨⟨by omega, by omega⟩, ?_⟩, fun e => ⟨⟨by omega, by omega⟩, ?_⟩, fun e => ⟨⟨by omega, by omega⟩, ?_⟩⟩ <;> subst e
  · rw [show G 17 ((((b * 6) + r) * 3) + p).toNat = _ from e0]; exact q0
  · rw [show G 18 ((((b * 6) + r) * 3) + p).toNat = _ from e1]
    exact c_numberOf pl.2.1 q0
  · rw [show G 19 ((((b * 6) + r) * 3) + p).toNat = _ from e2]; exact q0
theorem e_holes (hW : WF j W) (hR : RepS G 1 W) (q0 : Q (holesW W)) : f_X9_holes G Q := c_countHoles hW hR.hs q0
theorem e_free {d : Int} (hW : WF j W) (hR : RepS G 1 W) (hd : 0 ≤ d ∧ d ≤ 9) (q0 : Q (freeW W d)) : f_X9_free d G Q X := c_needDigit (fun _ => c_freeS (a := 1) hW hR hd q0) (fun q => absurd hd q)
theorem e_most {d : Int} (hW : WF j W) (hR : RepS G 1 W) (hd : 0 ≤ d ∧ d ≤ 9) (q0 : Q (mostW W d)) : f_X9_most d G Q X := c_needDigit (fun _ => c_mostS (a := 1) hW hR hd q0) (fun q => absurd hd q)
end PG

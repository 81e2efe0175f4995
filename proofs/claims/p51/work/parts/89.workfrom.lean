-- ===== PURE LAYER: workFrom =====
def Sim (W' W : WT) : Prop := ∀ k, k < 276 → k ≠ 7 → ¬ (9 ≤ k ∧ k ≤ 11) → W' k = W k
theorem hng_sim {tf s : Int} {W : WT} : Sim (hngW tf W s) W := fun _ hk h7 h9 => hng_low hk h7 (by omega) (by omega) (by omega)
section SI
variable {W W' : WT} {n s tf : Int}
theorem Sim.er (q : Sim W' W) : EqR 12 276 W' W := fun k _ k1 => q k k1 (by omega) (by omega)
theorem Sim.frst (q : Sim W' W) {b : Int} (hb : b ≤ 3) : frstW W' b = frstW W b := rR_frst (q.er.sub (by omega) (by omega)) hb
theorem Sim.allR (q : Sim W' W) (hW : WF n W) : allRW W' = allRW W := rR_allR (q 0 (by omega) (by omega) (by omega)) (q.er.sub (by omega) (by omega)) hW.bo.2
theorem Sim.due (q : Sim W' W) (hW : WF n W) (hs : 0 ≤ s ∧ s < W 5) {r : Int} (hr : 0 ≤ r ∧ r < allRW W) : dueW W' s r = dueW W s r := by
  have hd := hW.bd hr.1 hr.2
  have hbo := hW.bo
  have hse := hW.se
  have hsv := hW.sv s hs.1 hs.2
  have hf := hW.frst hd.1 (by omega)
  have eb : bdW W' r = bdW W r := by
    unfold bdW
    rw [q.frst (by omega), q.frst (by omega)]
  have ei : dueIx W' r = dueIx W r := by
    unfold dueIx
    rw [q 2 (by omega) (by omega) (by omega), eb, q.frst (by omega)]
  have hi : 0 ≤ dueIx W r := by
    unfold dueIx
    split <;> omega
  have e0 : servW W' s 0 = servW W s 0 := q _ (by omega) (by omega) (by omega)
  unfold dueW
  rw [ei, e0]
  by_cases c : dueIx W r < servW W s 0
  · rw [if_pos c, if_pos c]
    exact q _ (by omega) (by omega) (by omega)
  · rw [if_neg c, if_neg c]
theorem Sim.way (q : Sim W' W) {x d : Int} (hx : 0 ≤ x ∧ x ≤ 42) : wayW tf W' x d = wayW tf W x d := by
  have ec : ∀ h9 : Int, x < 12 → 0 ≤ h9 → h9 < 3 → cardW W' x h9 = cardW W x h9 := fun h9 a b c => q _ (by omega) (by omega) (by omega)
  have e1 : frontW tf W' x = frontW tf W x := by
    unfold frontW
    by_cases c : x = 42
    · rw [if_pos c, if_pos c]
    · rw [if_neg c, if_neg c]
      by_cases c2 : x < 12
      · rw [if_pos c2, if_pos c2, ec 0 c2 (by omega) (by omega)]
      · rw [if_neg c2, if_neg c2]
  have e2 : backW W' x = backW W x := by
    unfold backW
    by_cases c : x = 42
    · rw [if_pos c, if_pos c]
    · rw [if_neg c, if_neg c]
      by_cases c2 : x < 12
      · rw [if_pos c2, if_pos c2, ec 1 c2 (by omega) (by omega)]
      · rw [if_neg c2, if_neg c2]
  unfold wayW
  rw [e1, e2, q 1 (by omega) (by omega) (by omega)]
theorem Sim.sh (q : Sim W' W) {x : Int} (hx : 0 ≤ x ∧ x ≤ 42) : shW tf W' x = shW tf W x := set_ext shW_lt shW_lt (fun d d0 d1 => by rw [shW_in ⟨d0, d1⟩, shW_in ⟨d0, d1⟩, q.way hx])
theorem Sim.cnt (q : Sim W' W) (hW : WF n W) {x : Int} (hx : 0 ≤ x ∧ x ≤ 42) : cntW tf W' x = cntW tf W x := by
  have lo := hW.lo
  have ow := hW.ow
  unfold cntW
  by_cases c : x = 42
  · rw [if_pos c, if_pos c]
  · rw [if_neg c, if_neg c]
    by_cases c2 : x < 12
    · have ec : cardW W' x 2 = cardW W x 2 := q _ (by omega) (by omega) (by omega)
      rw [if_pos c2, if_pos c2, q 3 (by omega) (by omega) (by omega), ec]
    · rw [if_neg c2, if_neg c2]
      exact rR_bor (q 6 (by omega) (by omega) (by omega)) (fun k q0 q1 => q k (by omega) (by omega) (by omega)) lo.2
theorem Sim.lack (q : Sim W' W) (hW : WF n W) {m : Int → Int} : lackV 43 (shW tf W') (cntW tf W') m = lackV 43 (shW tf W) (cntW tf W) m := lackV_congr (fun X => sumZ_congr (fun x x0 x1 => by
  show (if mts (shW tf W' x) X then cntW tf W' x else 0) = (if mts (shW tf W x) X then cntW tf W x else 0)
  rw [q.sh ⟨x0, by omega⟩, q.cnt hW ⟨x0, by omega⟩]))
theorem Sim.dem (q : Sim W' W) (hW : WF n W) (hs : 0 ≤ s ∧ s < W 5) : ∀ r : Nat, (r : Int) ≤ allRW W → nR tf W' s r = nR tf W s r
  | 0, _ => rfl
  | r + 1, hr => by
    have ih := Sim.dem q hW hs r (by omega)
    have ed := q.due hW hs (r := (r : Int)) ⟨by omega, by omega⟩
    have el := q.lack (tf := tf) hW (m := plusH (nR tf W s r) (dueW W s (r : Int)) 1)
    show (if dueW W' s (r : Int) ≠ -1 ∧ lackV 43 (shW tf W') (cntW tf W') (plusH (nR tf W' s r) (dueW W' s (r : Int)) 1) = 0 then plusH (nR tf W' s r) (dueW W' s (r : Int)) 1 else nR tf W' s r) = (if dueW W s (r : Int) ≠ -1 ∧ lackV 43 (shW tf W) (cntW tf W) (plusH (nR tf W s r) (dueW W s (r : Int)) 1) = 0 then plusH (nR tf W s r) (dueW W s (r : Int)) 1 else nR tf W s r)
    rw [ih, ed]
    have el' : lackV 43 (shW tf W') (cntW tf W') (plusH (nR tf W s r) (dueW W s (r : Int)) 1) = lackV 43 (shW tf W) (cntW tf W) (plusH (nR tf W s r) (dueW W s (r : Int)) 1) := el
    rw [el']
theorem Sim.hy (q : Sim W' W) (hW : WF n W) (hs : 0 ≤ s ∧ s < W 5) : hyV tf W' s = hyV tf W s := funext fun r => by
  unfold hyV
  rw [q.allR hW]
  by_cases c : 0 ≤ r ∧ r < allRW W
  · have ed := q.due hW hs c
    have en := q.dem (tf := tf) hW hs r.toNat (by omega)
    have el := q.lack (tf := tf) hW (m := plusH (nR tf W s r.toNat) (dueW W s r) 1)
    have et : tkR tf W' s r ↔ tkR tf W s r := by
      show (dueW W' s r ≠ -1 ∧ lackV 43 (shW tf W') (cntW tf W') (plusH (nR tf W' s r.toNat) (dueW W' s r) 1) = 0) ↔ (dueW W s r ≠ -1 ∧ lackV 43 (shW tf W) (cntW tf W) (plusH (nR tf W s r.toNat) (dueW W s r) 1) = 0)
      rw [ed, en, el]
    by_cases t : tkR tf W s r
    · rw [if_pos ⟨c, et.mpr t⟩, if_pos ⟨c, t⟩, ed]
    · rw [if_neg (fun w => t (et.mp w.2)), if_neg (fun w => t w.2)]
  · rw [if_neg (fun w => c w.1), if_neg (fun w => c w.1)]
theorem Sim.dd (q : Sim W' W) (hW : WF n W) (hs : 0 ≤ s ∧ s < W 5) {p : Int} : ddV tf W' s p = ddV tf W s p := by
  show ddH (hyV tf W' s) p = ddH (hyV tf W s) p
  rw [q.hy hW hs]
end SI
section AF
variable {j : Nat} {G : GH} {K : GH → Prop} {L : Nat} {xs : Nat → Int32} {i4 : Int}
end AF

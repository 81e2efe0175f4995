-- ===== PURE LAYER: the reference hangs rows, then places =====
section MH
variable {tf : Int} {W : WT} {s j : Int} {G : GH}
theorem nR_b (h : WF j W) (hs : 0 ≤ s ∧ s < W 5) {r : Nat} (hr : (r : Int) ≤ allRW W) {d : Int} (hd : 0 ≤ d) : 0 ≤ nR tf W s r d ∧ nR tf W s r d ≤ 54 := by
  have k := nR_is (tf := tf) h hs hd r hr
  have al := h.allR
  omega
theorem cntd_3 {h e : Int} : 0 ≤ cntd h e ∧ cntd h e ≤ 3 := by
  refine ⟨cntd_ge, ?_⟩
  unfold cntd
  have p := b2_le (p := 0 < h ∧ h % 10 = e)
  have q := b2_le (p := 0 < h / 10 ∧ h / 10 % 10 = e)
  have r := b2_le (p := 0 < h / 10 / 10 ∧ h / 10 / 10 % 10 = e)
  omega
theorem plusH_cancel {n : Int → Int} {h : Int} : plusH (plusH n h 1) h (-1) = n := by
  funext e
  unfold plusH
  omega
theorem Nb_st (hW : WF j W) (hs : 0 ≤ s ∧ s < W 5) (ht : -1 ≤ tf ∧ tf ≤ 9) {p : Nat} (hp : (p : Int) ≤ 3 * allRW W) {d : Int} (d0 : 0 ≤ d) (d1 : d < 10) : 0 ≤ (stP tf W s p).2 d ∧ (stP tf W s p).2 d ≤ 54 := by
  have I := (stP_inv hW hs ht p hp).2.2.1 d d0 d1
  have al := hW.allR
  have m := sumZ_le2 (f := fun q => b2 (ddV tf W s q = d)) (x := (p : Int)) (y := 3 * allRW W) (by omega) hp (fun _ _ => b2_ge)
  have z := sumZ_ge (f := fun q => b2 (ddV tf W s q = d)) (x := (p : Int)) (fun _ _ _ => b2_ge)
  have t := sumZ_le (f := fun q => b2 (ddV tf W s q = d)) (c := 1) (x := 3 * allRW W) (by omega) (fun _ _ _ => b2_le)
  omega
end MH

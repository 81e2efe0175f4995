-- ===== PURE LAYER: load, the reference reads the boards and a service =====
section MSERV
variable {T : BT} {n st p : Int} {G0 G : GH} {W : WT} {s : Int}
theorem en_3 (h : kdT T n p = 3) : enT T n p = p + 1 := by
  have k := kd_of3 h
  unfold enT
  rw [if_neg (by omega), if_neg k.2.1, if_neg k.2.2]
/-- a sign was passed over -/
theorem at_sign {G' : GH} (h : kdT T n p = 3) (hp : 0 ≤ p) (e : G' 272 9 = p + 1) : AtS T n G' (nxT T n p) := by
  have k := kd_of3 h
  refine ⟨by omega, ?_⟩
  rw [e]
  unfold nxT
  rw [en_3 h]
end MSERV

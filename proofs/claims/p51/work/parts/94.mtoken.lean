-- ===== PURE LAYER: load, the tokens as the reference reads them =====
abbrev RfS (T : BT) (n : Int) (G : GH) : Prop := G 272 8 = n ∧ ∀ i : Nat, (i : Int) < n → G 278 i = sgB (T i)
theorem sg_and : ∀ v : Nat, v < 256 → zAnd (sgB (v : Int)) 255 = v := by decide +kernel
theorem sg_and' {v : Int} (h : 0 ≤ v ∧ v ≤ 255) : zAnd (sgB v) 255 = v := by
  have := sg_and v.toNat (by omega)
  rw [show ((v.toNat : Nat) : Int) = v by omega] at this
  exact this
theorem sg_in {v lo hi : Int} (h : 0 ≤ v ∧ v ≤ 255) (hl : 0 ≤ lo ∧ hi < 128) : (lo ≤ sgB v ∧ sgB v ≤ hi) ↔ (lo ≤ v ∧ v ≤ hi) := by
  unfold sgB
  by_cases c : v < 128
  · rw [if_pos c]
  · rw [if_neg c]; omega
section MTOK
variable {T : BT} {n p : Int} {G : GH}
theorem RfS.at (h : RfS T n G) {x : Int} (x0 : 0 ≤ x) (x1 : x < n) : G 278 x.toNat = sgB (T x.toNat) := h.2 _ (by omega)
theorem TxO.at (h : TxO T n) {x : Int} (x0 : 0 ≤ x) (x1 : x < n) : 1 ≤ T x.toNat ∧ T x.toNat ≤ 255 := h.2 _ (by omega)
theorem sgB_lo {v : Int} (h : v ≤ 127) : sgB v = v := if_pos (by omega)
theorem sch_rng {w i : Nat} (hw : w < 10) : 0 ≤ schr w i ∧ schr w i < 128 := schr_rng (by omega)
theorem sg_chr {v c : Int} (h : 0 ≤ v ∧ v ≤ 255) (hc : 0 ≤ c ∧ c < 128) : sgB v = c ↔ v = c := by
  have := sg_in (v := v) (lo := c) (hi := c) h hc
  constructor
  · intro q; have := this.mp ⟨by omega, by omega⟩; omega
  · intro q; have := this.mpr ⟨by omega, by omega⟩; omega
/-- the reference stands before the token at p -/
abbrev AtS (T : BT) (n : Int) (G : GH) (p : Int) : Prop := (0 ≤ G 272 9 ∧ G 272 9 ≤ n) ∧ skT T n (G 272 9) = p
theorem AtS.rng (a : AtS T n G p) : 0 ≤ p ∧ p ≤ n := by
  have := sk_rng (T := T) a.1.2
  rw [a.2] at this
  have := a.1
  omega
theorem AtS.self {G' : GH} (a : AtS T n G p) (h : G' 272 9 = p) : AtS T n G' p := by
  have := a.rng
  refine ⟨by rw [h]; exact this, ?_⟩
  rw [h, ← a.2]; exact sk_sk
end MTOK

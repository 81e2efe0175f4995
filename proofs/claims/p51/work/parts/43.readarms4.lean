-- ===== PURE LAYER: arms of the reading methods: holes, lenders, luck, turned, outputByte =====
theorem n64_of {a : UInt64} (h : FP.dIsNaN a = false) : vf_n64 a := by
  have h1 : ¬ (9218868437227405312 < a.toNat % 2 ^ 63) := fun q => by
    have := (Jvm.FP.Core.isNaN_bits a).mpr q
    have e : FP.dIsNaN a = true := this
    rw [h] at e; cases e
  unfold vf_n64
  rw [UInt64.le_iff_toNat_le, UInt64.toNat_and]
  rw [show (0x7fffffffffffffff : UInt64).toNat = 2 ^ 63 - 1 from rfl, Nat.and_two_pow_sub_one_eq_mod]
  show a.toNat % 2 ^ 63 ≤ 9218868437227405312
  omega
theorem n32_of {a : UInt32} (h : FP.fIsNaN a = false) : vf_n32 a := by
  have h1 : ¬ (2139095040 < a.toNat % 2 ^ 31) := fun q => by
    have := (Jvm.FP.Core.isNaN_bits32 a).mpr q
    have e : FP.fIsNaN a = true := this
    rw [h] at e; cases e
  unfold vf_n32
  rw [UInt32.le_iff_toNat_le, UInt32.toNat_and]
  rw [show (0x7fffffff : UInt32).toNat = 2 ^ 31 - 1 from rfl, Nat.and_two_pow_sub_one_eq_mod]
  show a.toNat % 2 ^ 31 ≤ 2139095040
  omega
theorem zI_ne0 {x : Int} (hx : inR x) (h : x ≠ 0) : zI x ≠ 0 := fun q => h (by
  have := zI_toInt hx
  rw [q] at this
  exact this.symm)
theorem d_quot {x y : Int} (hy : inR y) (h : y ≠ 0) : FP.dIsNaN (FP.ddiv (FP.i2d (zI x)) (FP.i2d (zI y))) = false := by
  refine Jvm.FP.Core.ddiv_out (a := FP.i2d (zI x)) (b := FP.i2d (zI y)) ?_ (Jvm.FP.Core.i2d_fin (zI y)) ?_
  · rw [Jvm.FP.Core.notNaN_iff]; exact (Jvm.FP.Core.i2d_fin (zI x)).ne_nan
  · rw [Jvm.FP.Core.zero_bits2]; exact Jvm.FP.Core.i2d_ne_zero (zI_ne0 hy h)
theorem f_quot {x y : Int} (hy : inR y) (h : y ≠ 0) : FP.fIsNaN (FP.fdiv (FP.i2f (zI x)) (FP.i2f (zI y))) = false := by
  refine Jvm.FP.Core.fdiv_out (a := FP.i2f (zI x)) (b := FP.i2f (zI y)) ?_ (Jvm.FP.Core.i2f_fin (zI y)) ?_
  · rw [Jvm.FP.Core.notNaN_iff32]; exact (Jvm.FP.Core.i2f_fin (zI x)).ne_nan
  · rw [Jvm.FP.Core.zero_bits232]; exact Jvm.FP.Core.i2f_ne_zero (zI_ne0 hy h)
theorem f2d_n64 {a : UInt32} (h : FP.fIsNaN a = false) : vf_n64 (FP.f2d a) := n64_of (by rw [Jvm.FP.f2d_nan]; exact h)
section ARMS
variable {j : Nat} {G : GH} {K : GH → Prop} {L : Nat} {xs : Nat → Int32} {i4 : Int}
theorem Rel.th0 {j : Nat} {G : GH} (h : Rel j G) {t : Int} : Rel (j + 1) (upG G 272 0 t) := h.read (fun _ _ => rfl)
theorem fz_nan : FP.fIsNaN FP.fconst0 = false := by rfl
theorem cnt54 {p : Int → Prop} [DecidablePred p] : 0 ≤ sumZ (fun i => b2 (p i)) 54 ∧ sumZ (fun i => b2 (p i)) 54 ≤ 54 := ⟨sumZ_ge (fun _ _ _ => b2_ge), by have := sumZ_le (f := fun i => b2 (p i)) (c := 1) (x := 54) (by omega) (fun _ _ _ => b2_le); omega⟩
/-- friends that lend the digit, as a set -/
def lenW (W : WT) (d x : Int) : Int := sumZ (fun f => if 0 < friW W f (1 + d) then (if f = 0 then 1 else if f = 1 then 2 else 4) else 0) x
theorem len_rng {W : WT} {d x : Int} (h0 : 0 ≤ x) (h1 : x ≤ 3) : 0 ≤ lenW W d x ∧ (x = 0 → lenW W d x = 0) ∧ (x = 1 → lenW W d x ≤ 1) ∧ (x = 2 → lenW W d x ≤ 3) ∧ lenW W d x ≤ 7 := by
  have s0 : lenW W d 0 = 0 := rfl
  have s1 : lenW W d 1 = lenW W d 0 + (if 0 < friW W 0 (1 + d) then (if (0 : Int) = 0 then 1 else if (0 : Int) = 1 then 2 else 4) else 0) := sumZ_s (x := 0) (by omega)
  have s2 : lenW W d 2 = lenW W d 1 + (if 0 < friW W 1 (1 + d) then (if (1 : Int) = 0 then 1 else if (1 : Int) = 1 then 2 else 4) else 0) := sumZ_s (x := 1) (by omega)
  have s3 : lenW W d 3 = lenW W d 2 + (if 0 < friW W 2 (1 + d) then (if (2 : Int) = 0 then 1 else if (2 : Int) = 1 then 2 else 4) else 0) := sumZ_s (x := 2) (by omega)
  have : x = 0 ∨ x = 1 ∨ x = 2 ∨ x = 3 := by omega
  rw [if_pos rfl] at s1
  rw [if_neg (show ¬ (1 : Int) = 0 by decide), if_pos rfl] at s2
  rw [if_neg (show ¬ (2 : Int) = 0 by decide), if_neg (show ¬ (2 : Int) = 1 by decide)] at s3
  split at s1 <;> split at s2 <;> split at s3 <;> rcases this with rfl | rfl | rfl | rfl <;> omega
end ARMS

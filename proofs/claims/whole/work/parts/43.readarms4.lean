-- ===== PURE LAYER: arms of the reading methods: holes, lenders, luck, turned, outputByte =====
theorem n64_of {a : UInt64} (h : FP.dIsNaN a = false) : vf_n64 a := by
  have h1 : ¬ (9218868437227405312 < a.toNat % 2 ^ 63) := fun q => by
    have := (Jvm.FP.Core.isNaN_bits a).mpr q
    have e : FP.dIsNaN a = true := this
    rw [h] at e; cases e
  unfold vf_n64
  rw [UInt64.le_iff_toNat_le, UInt64.toNat_and]
  rw [show (0x7fffffffffffffff : UInt64).toNat = 2 ^ 63 - 1 from rfl, Nat.and_two_pow_sub_one_eq_mod]
  show a.toNat % 2 ^ 63 ≤ 9218868437227405312
  omega
theorem n32_of {a : UInt32} (h : FP.fIsNaN a = false) : vf_n32 a := by
  have h1 : ¬ (2139095040 < a.toNat % 2 ^ 31) := fun q => by
    have := (Jvm.FP.Core.isNaN_bits32 a).mpr q
    have e : FP.fIsNaN a = true := this
    rw [h] at e; cases e
  unfold vf_n32
  rw [UInt32.le_iff_toNat_le, UInt32.toNat_and]
  rw [show (0x7fffffff : UInt32).toNat = 2 ^ 31 - 1 from rfl, Nat.and_two_pow_sub_one_eq_mod]
  show a.toNat % 2 ^ 31 ≤ 2139095040
  omega
theorem zI_ne0 {x : Int} (hx : inR x) (h : x ≠ 0) : zI x ≠ 0 := fun q => h (by
  have := zI_toInt hx
  rw [q] at this
  exact this.symm)
theorem d_quot {x y : Int} (hy : inR y) (h : y ≠ 0) : FP.dIsNaN (FP.ddiv (FP.i2d (zI x)) (FP.i2d (zI y))) = false := by
  refine Jvm.FP.Core.ddiv_out (a := FP.i2d (zI x)) (b := FP.i2d (zI y)) ?_ (Jvm.FP.Core.i2d_fin (zI y)) ?_
  · rw [Jvm.FP.Core.notNaN_iff]; exact (Jvm.FP.Core.i2d_fin (zI x)).ne_nan
  · rw [Jvm.FP.Core.zero_bits2]; exact Jvm.FP.Core.i2d_ne_zero (zI_ne0 hy h)
theorem f_quot {x y : Int} (hy : inR y) (h : y ≠ 0) : FP.fIsNaN (FP.fdiv (FP.i2f (zI x)) (FP.i2f (zI y))) = false := by
  refine Jvm.FP.Core.fdiv_out (a := FP.i2f (zI x)) (b := FP.i2f (zI y)) ?_ (Jvm.FP.Core.i2f_fin (zI y)) ?_
  · rw [Jvm.FP.Core.notNaN_iff32]; exact (Jvm.FP.Core.i2f_fin (zI x)).ne_nan
  · rw [Jvm.FP.Core.zero_bits232]; exact Jvm.FP.Core.i2f_ne_zero (zI_ne0 hy h)
theorem f2d_n64 {a : UInt32} (h : FP.fIsNaN a = false) : vf_n64 (FP.f2d a) := n64_of (by rw [Jvm.FP.f2d_nan]; exact h)
section ARMS
variable {j : Nat} {G : GH} {K : GH → Prop} {L : Nat} {xs : Nat → Int32} {i4 : Int}
theorem Rel.th0 {j : Nat} {G : GH} (h : Rel j G) {t : Int} : Rel (j + 1) (upG G 272 0 t) := h.read (fun _ _ => rfl)
theorem arm_40 (h : Rel j G) (hj : j < 512) (hK : ∀ G', Rel (j + 1) G' → K G') : f_law_40 L xs i4 G K := by
  have hW := h.wf
  have hR := h.rp
  have hu := hW.hu
  have ho := hW.ou
  have e1 : G 1 8 = G 273 10 := hR.hu
  have e2 : G 1 9 = G 273 11 := hR.ou
  have ir : inR (G 273 10 + G 273 11) := ⟨by omega, by omega⟩
  have fin : ∀ x : UInt64, ((dcv x x) = 0 → (K (upG G 272 0 0))) ∧ ((dcv x x) ≠ 0 → (((dcv x x) = 0 → False) ∧ ((dcv x x) ≠ 0 → (((dcv x x) ≠ 0 → (K (upG G 272 0 0))) ∧ ((dcv x x) = 0 → False))))) := fun x =>
    ⟨fun _ => hK _ h.th0, fun c => ⟨fun q => c q, fun _ => ⟨fun _ => hK _ h.th0, fun q => c q⟩⟩⟩
  unfold f_law_40 f_X9_luck
  rw [e1, e2]
  have m1 : (upG G 272 0 0) 273 = G 273 := up_na (by decide)
  have md : ∀ x : UInt64, x = (if G 273 10 + G 273 11 = 0 then FP.dconst0 else FP.ddiv (FP.i2d (zI (G 273 10))) (FP.i2d (zI (G 273 10 + G 273 11)))) → f_X10_luck G (fun r_2 G_1 => (((dcv x r_2) = 0 → (K G_1)) ∧ ((dcv x r_2) ≠ 0 → (((dcv x x) = 0 → False) ∧ ((dcv x x) ≠ 0 → (((dcv r_2 r_2) ≠ 0 → (K G_1)) ∧ ((dcv r_2 r_2) = 0 → False))))))) := by
    intro x hx G1 eG
    subst eG
    rw [m1]
    refine ⟨ir, fun c => ⟨n64_of (d_quot ir c), ?_⟩, fun c => ?_⟩
    · rw [if_neg c] at hx
      rw [← hx]; exact fin x
    · rw [if_pos c] at hx
      rw [← hx]; exact fin x
  refine ⟨ir, fun c => ⟨n64_of (d_quot ir c), md _ (by rw [if_neg c])⟩, fun c => md _ (by rw [if_pos c])⟩
theorem fz_nan : FP.fIsNaN FP.fconst0 = false := by rfl
theorem cnt54 {p : Int → Prop} [DecidablePred p] : 0 ≤ sumZ (fun i => b2 (p i)) 54 ∧ sumZ (fun i => b2 (p i)) 54 ≤ 54 := ⟨sumZ_ge (fun _ _ _ => b2_ge), by have := sumZ_le (f := fun i => b2 (p i)) (c := 1) (x := 54) (by omega) (fun _ _ _ => b2_le); omega⟩
theorem arm_41 (h : Rel j G) (hK : ∀ G', Rel (j + 1) G' → K G') : f_law_41 L xs i4 G K := by
  have hW := h.wf
  have hR := h.rp
  have ra : 0 ≤ ahW (G 273) ∧ ahW (G 273) ≤ 54 := cnt54
  have ir : inR (ahW (G 273)) := ⟨by omega, by omega⟩
  have fin : ∀ x : UInt64, ((dcv x x) = 0 → (K (upG G 272 0 0))) ∧ ((dcv x x) ≠ 0 → (((dcv x x) = 0 → False) ∧ ((dcv x x) ≠ 0 → (((dcv x x) ≠ 0 → (K (upG G 272 0 0))) ∧ ((dcv x x) = 0 → False))))) := fun x =>
    ⟨fun _ => hK _ h.th0, fun c => ⟨fun q => c q, fun _ => ⟨fun _ => hK _ h.th0, fun q => c q⟩⟩⟩
  have md : ∀ x : UInt32, x = (if ahW (G 273) = 0 then FP.fconst0 else FP.fdiv (FP.i2f (zI (tuW (G 273)))) (FP.i2f (zI (ahW (G 273))))) → f_X10_turned G (fun r_2 G_1 => (vf_n64 (FP.f2d r_2) ∧ (((dcv (FP.f2d x) (FP.f2d r_2)) = 0 → (K G_1)) ∧ ((dcv (FP.f2d x) (FP.f2d r_2)) ≠ 0 → (((dcv (FP.f2d x) (FP.f2d x)) = 0 → False) ∧ ((dcv (FP.f2d x) (FP.f2d x)) ≠ 0 → (((dcv (FP.f2d r_2) (FP.f2d r_2)) ≠ 0 → (K G_1)) ∧ ((dcv (FP.f2d r_2) (FP.f2d r_2)) = 0 → False)))))))) := by
    intro x hx G1 eG
    subst eG
    have m : MV (upG G 272 0 0) (G 273) := (MV.of h (fun _ _ => rfl)).th
    refine mv_allHanging m ⟨fun c => mv_turnedOnes m ⟨n32_of (f_quot ir c), f2d_n64 (f_quot ir c), ?_⟩, fun c => ⟨f2d_n64 fz_nan, ?_⟩⟩
    · rw [if_neg c] at hx
      rw [← hx]; exact fin _
    · rw [if_pos c] at hx
      rw [← hx]; exact fin _
  refine c_countCards hW hR.hs ⟨fun c => c_countTurned hW hR.hs ⟨n32_of (f_quot ir c), f2d_n64 (f_quot ir c), md _ (by rw [if_neg c])⟩, fun c => ⟨f2d_n64 fz_nan, md _ (by rw [if_pos c])⟩⟩
theorem arm_44 (h : Rel j G) (hK : ∀ G', Rel (j + 1) G' → K G') (hL : 0 ≤ i4 ∧ i4 + 5 ≤ L) : f_law_44 L xs i4 G K := by
  obtain ⟨o1, o2, o3⟩ : OutR G := h.2.2.2.2.2.2.2
  refine ⟨⟨by omega, by omega⟩, ?_⟩
  generalize (xs ((i4 + 1)).toNat).toInt = i
  refine arm_read0 (L := fun Q => f_X9_outputByte i G Q) (M := fun Q => f_X10_outputByte i G Q) (if 0 ≤ i ∧ i ≤ G 230 1 - 1 then G 231 i.toNat else -1) h hK (fun Q q => ⟨⟨by omega, by omega⟩, c_within ⟨fun c => ?_, fun c => ⟨⟨by have := b2_ne0 c; omega, by have := b2_ne0 c; omega⟩, ?_⟩⟩⟩) (fun Q q G1 e => ?_)
  · rw [if_neg (b2_eq0 c)] at q; exact q
  · rw [if_pos (b2_ne0 c)] at q; exact q
  · subst e
    rw [upG_nk (by decide), o1]
    refine ⟨⟨by omega, by omega⟩, p10_in ⟨fun c => ?_, fun c => ?_⟩⟩
    · rw [if_neg (b2_eq0 c)] at q; exact q
    · have c := b2_ne0 c
      rw [if_pos c] at q
      refine ⟨⟨by omega, by omega⟩, ?_⟩
      rw [upG_na (by decide), o3 i (by omega) (by omega)]; exact q
/-- friends that lend the digit, as a set -/
def lenW (W : WT) (d x : Int) : Int := sumZ (fun f => if 0 < friW W f (1 + d) then (if f = 0 then 1 else if f = 1 then 2 else 4) else 0) x
theorem len_rng {W : WT} {d x : Int} (h0 : 0 ≤ x) (h1 : x ≤ 3) : 0 ≤ lenW W d x ∧ (x = 0 → lenW W d x = 0) ∧ (x = 1 → lenW W d x ≤ 1) ∧ (x = 2 → lenW W d x ≤ 3) ∧ lenW W d x ≤ 7 := by
  have s0 : lenW W d 0 = 0 := rfl
  have s1 : lenW W d 1 = lenW W d 0 + (if 0 < friW W 0 (1 + d) then (if (0 : Int) = 0 then 1 else if (0 : Int) = 1 then 2 else 4) else 0) := sumZ_s (x := 0) (by omega)
  have s2 : lenW W d 2 = lenW W d 1 + (if 0 < friW W 1 (1 + d) then (if (1 : Int) = 0 then 1 else if (1 : Int) = 1 then 2 else 4) else 0) := sumZ_s (x := 1) (by omega)
  have s3 : lenW W d 3 = lenW W d 2 + (if 0 < friW W 2 (1 + d) then (if (2 : Int) = 0 then 1 else if (2 : Int) = 1 then 2 else 4) else 0) := sumZ_s (x := 2) (by omega)
  have : x = 0 ∨ x = 1 ∨ x = 2 ∨ x = 3 := by omega
  rw [if_pos rfl] at s1
  rw [if_neg (show ¬ (1 : Int) = 0 by decide), if_pos rfl] at s2
  rw [if_neg (show ¬ (2 : Int) = 0 by decide), if_neg (show ¬ (2 : Int) = 1 by decide)] at s3
  split at s1 <;> split at s2 <;> split at s3 <;> rcases this with rfl | rfl | rfl | rfl <;> omega
theorem arm_26 (h : Rel j G) (hK : ∀ G', Rel (j + 1) G' → K G') (hL : 0 ≤ i4 ∧ i4 + 5 ≤ L) : f_law_26 L xs i4 G K := by
  have hW := h.wf
  have hR := h.rp
  have hf := hW.fr
  have ef : G 3 5 = G 273 4 := hR.fr
  refine ⟨⟨by omega, by omega⟩, ?_⟩
  generalize (xs ((i4 + 1)).toNat).toInt = d
  have sh : ∀ x : Int, 0 ≤ x → x < 3 → zShl 1 x = (if x = 0 then 1 else if x = 1 then 2 else 4) := by
    intro x x0 x1
    have : x = 0 ∨ x = 1 ∨ x = 2 := by omega
    rcases this with rfl | rfl | rfl <;> decide
  refine arm3 (L := fun Q => f_L_lenders d G Q) (M := fun G1 Q => f_X10_lenders d G1 Q) (0 ≤ d ∧ d ≤ 9) True (lenW (G 273) d (G 273 4)) h hK (fun Q q0 q1 q2 => ?_) (fun G1 Q m q0 q1 q2 => ?_)
  · refine c_needDigit (fun a => ?_) (fun a => ⟨rfl, q1 a⟩)
    refine sum_loop (fun f => if 0 < friW (G 273) f (1 + d) then (if f = 0 then 1 else if f = 1 then 2 else 4) else 0) (G 273 4) hf.1 (fun k acc x h0 h1 hacc kk => ?_)
    rw [ef]
    rw [Int.zero_add] at hacc
    refine ⟨fun c => ?_, fun c => ⟨⟨by omega, by omega⟩, ?_⟩⟩
    · have : x = G 273 4 := by omega
      subst this
      intro G1 e
      rw [e, hacc]; exact q0 a trivial
    · have kk := kk c
      have e8 : G 8 ((x * 10) + d).toNat = friW (G 273) x (1 + d) := (hR.fd x h0 c).2 d (by omega) (by omega)
      have lr := len_rng (W := G 273) (d := d) (x := x) h0 (by omega)
      have ha : acc = lenW (G 273) d x := hacc
      rw [e8, sh x h0 (by omega)]
      refine ⟨fun c2 => ?_, fun c2 => ?_⟩
      · rw [if_neg (by omega), Int.add_zero] at kk; exact kk
      · rw [if_pos c2] at kk
        refine ⟨⟨?_, ?_⟩, kk⟩
        · split
          · omega
          · split <;> omega
        · split
          · omega
          · split <;> omega
  · refine p10_noDigit (fun a => z01 ?_) (fun a => z10 (q1 a))
    have m1 := m.th (t := 0)
    refine sum_loop (fun f => if 0 < friW (G 273) f (1 + d) then (if f = 0 then 1 else if f = 1 then 2 else 4) else 0) (G 273 4) hf.1 (fun k acc x h0 h1 hacc kk => ?_)
    rw [m1.1]
    rw [Int.zero_add] at hacc
    refine ⟨fun c => ?_, fun c => ⟨⟨by omega, by omega⟩, p10_ofFriend (by omega) (by omega) ?_⟩⟩
    · have : x = G 273 4 := by omega
      subst this
      rw [hacc]; exact q0 a trivial
    · have kk := kk c
      have lr := len_rng (W := G 273) (d := d) (x := x) h0 (by omega)
      have ha : acc = lenW (G 273) d x := hacc
      rw [← ha] at lr
      rw [m1.1]
      refine ⟨fun c2 => ?_, fun c2 => ?_⟩
      · rw [if_neg (by omega), Int.add_zero] at kk
        rw [show zOr acc 0 = acc by
          have : acc = 0 ∨ acc = 1 ∨ acc = 2 ∨ acc = 3 ∨ acc = 4 ∨ acc = 5 ∨ acc = 6 ∨ acc = 7 := by omega
          rcases this with r | r | r | r | r | r | r | r <;> rw [r] <;> decide]
        exact kk
      · rw [if_pos c2] at kk
        have sx := sh x h0 (by omega)
        have xx : x = 0 ∨ x = 1 ∨ x = 2 := by omega
        have e9 : zOr acc (zShl 1 x) = acc + (if x = 0 then 1 else if x = 1 then 2 else 4) := by
          rw [sx]
          rcases xx with r | r | r
          · have : acc = 0 := by omega
            rw [r, this]; decide
          · have : acc = 0 ∨ acc = 1 := by omega
            rcases this with r2 | r2 <;> rw [r, r2] <;> decide
          · have : acc = 0 ∨ acc = 1 ∨ acc = 2 ∨ acc = 3 := by omega
            rcases this with r2 | r2 | r2 | r2 <;> rw [r, r2] <;> decide
        rw [e9]; exact kk
end ARMS

-- ===== System.arraycopy of ints, Math.max, Math.min, throw =====
/-- a copy between two rows of ints -/
def cpG (G : GH) (a0 sp a1 dp n : Nat) : GH := fun a k => if a = a1 ∧ dp ≤ k ∧ k < dp + n then G a0 (sp + (k - dp)) else G a k
theorem GR.cp {G : GH} {a0 sp a1 dp n : Nat} (h : GR G) : GR (cpG G a0 sp a1 dp n) := by
  intro a k
  unfold cpG
  split
  · exact h _ _
  · exact h _ _
theorem wl_cp {dA : Nat → ClassId} {ρ : Nat → Nat} {S : ASt} {G : GH} {a0 a1 sp dp n t n1 : Nat} (h : isAt S a1 (.inl (t, n1))) (ht : t < 3) : wl dA ρ S (cpG G a0 sp a1 dp n) = (wl dA ρ S G).set a1 (ρ a1, .inl (dA t, n1, .inl (va_cpy (fun j => zI (G a0 j)) (fun j => zI (G a1 j)) sp dp n))) := by
  refine wl_set h.1 ?_ (fun a' ha' k' => by simp [cpG, ha'])
  rw [cellOf, h.2]
  show avals _ _ _ _ _ _ _ = _
  rw [avals, if_neg (by omega), if_neg (by omega)]
  congr 4
  funext j
  unfold cpG va_cpy
  by_cases hj : dp ≤ j ∧ j < dp + n
  · rw [if_pos ⟨rfl, hj⟩, if_pos hj]
  · rw [if_neg (fun q => hj q.2), if_neg hj]
section NAT
variable {κ : Cx} {δ : Dx} {own : String} {b : ByteArray} {nL : Nat} {ret : Option FieldType} {ρ0 : Nat → Nat} {n0 cb sb pc fr lo mc ms : Nat} {l : AL} {st : List AV} {S : ASt} {G : GH} {Qr : Option AV → ASt → GH → Prop} {Qx : String → ASt → GH → Prop}
theorem cpW : nativeFrameWords "java/lang/System" "arraycopy" 5 + 11 ≤ 40 := by decide +kernel
theorem a_copyi (X : CX κ δ own b nL ret) (E : EndR κ δ ρ0 n0 fr lo mc ms Qr Qx) {idx a0 a1 n0' n1' sp dp n : Nat} (hl : Cond.methodLink own idx arraycopyName ∈ allW) (ha0 : isAt S a0 (.inl (0, n0'))) (ha1 : isAt S a1 (.inl (0, n1'))) (h4 : sp + n ≤ n0') (h5 : dp + n ≤ n1') (hb0 : n0' < 2147483648) (hb1 : n1' < 2147483648)
    (hfr : 1 ≤ fr) (hlo : wsum st + 40 ≤ lo) (hd : decode b pc = .ok (.invokestatic idx, 3)) (kk : AW κ δ ρ0 n0 nL cb sb (pc + 3) l st S (cpG G a0 sp a1 dp n)) : AW κ δ ρ0 n0 nL cb sb pc l (vi (n : Int) :: vi (dp : Int) :: vr a1 :: vi (sp : Int) :: vr a0 :: st) S G := by
  obtain ⟨p, lc, e, R, s, m, args, below, meth, c, Q⟩ := κ
  obtain ⟨hx, hb, hml, hown, hts, hret, hlk, hK, hN, hA, htr⟩ := X
  obtain ⟨-, rfl, -⟩ := E
  intro ρ H locs ls q1 q2 q3 q4
  have hg := q2.2.2.2.1
  have c0 : ∀ k : Nat, k < 2147483648 → (zI (k : Int)).toNatClampNeg = k := fun k hk => by rw [zI_cl ⟨by omega, by omega⟩]; rfl
  have c1 : ∀ k : Nat, k < 2147483648 → ¬ zI (k : Int) < 0 := fun k hk h => by
    rw [← zI_0, zI_lt ⟨by omega, by omega⟩ inR_0] at h; omega
  refine va_copyi hx hb (hml.trans q4.2.1.symm) hown (hts _ hl) (hts _ w_native_arraycopyName) (hts _ w_static_arraycopyName) (hts _ w_initialized__java_lang_System_) hK q2.1 q2.2.1 q3 a0 a1 0 0 (wl_int ha0 (by decide)) (wl_int ha1 (by decide)) (tys_at _).1 (tys_at _).1 rfl (c1 _ (by omega)) (c1 _ (by omega)) (c1 _ (by omega)) (by rw [c0 _ (by omega), c0 _ (by omega)]; exact h4) (by rw [c0 _ (by omega), c0 _ (by omega)]; exact h5) (fun i _ => rfl) hfr ?_ hd (fun H1 locs1 e1 e2 e3 => ?_)
  · rw [wsum_ok]
    have := cpW
    show _ ≤ lo
    omega
  · rw [c0 _ (by omega), c0 _ (by omega), c0 _ (by omega), ← wl_cp ha1 (by decide)] at e1 e2
    exact kk ρ H1 locs1 ls q1 ⟨e1, e2, q2.2.2.1, hg.cp, q2.2.2.2.2⟩ e3 q4
theorem a_max (X : CX κ δ own b nL ret) (E : EndR κ δ ρ0 n0 fr lo mc ms Qr Qx) {idx : Nat} {x y : Int} (hl : Cond.methodLink own idx Lib.Math.max.name ∈ allW) (hx0 : inR x) (hy0 : inR y) (hfr : 1 ≤ fr) (hlo : wsum st + 13 ≤ lo) (hm : cb ≤ mc ∧ sb ≤ ms) (hd : decode b pc = .ok (.invokestatic idx, 3))
    (kk : AW κ δ ρ0 n0 nL cb sb (pc + 3) l (vi (if x < y then y else x) :: st) S G) : AW κ δ ρ0 n0 nL cb sb pc l (vi y :: vi x :: st) S G := by
  obtain ⟨p, lc, e, R, s, m, args, below, meth, c, Q⟩ := κ
  obtain ⟨hx, hb, hml, hown, hts, hret, hlk, hK, hN, hA, htr⟩ := X
  obtain ⟨-, rfl, -⟩ := E
  intro ρ H locs ls q1 q2 q3 q4
  refine va_mmax hx hb (hml.trans q4.2.1.symm) hown (hts _ hl) (hts _ w_static_Lib_Math_max_name) (hts _ w_initialized__java_lang_Math_) (hts _ w_code_max) hfr (by rw [wsum_ok]; exact hlo) hm.1 hm.2 hd ?_
  have e0 : (if zI x < zI y then zI y else zI x) = zI (if x < y then y else x) := by
    by_cases h : x < y
    · rw [if_pos h, if_pos ((zI_lt hx0 hy0).mpr h)]
    · rw [if_neg h, if_neg (fun q => h ((zI_lt hx0 hy0).mp q))]
  rw [e0]
  exact kk ρ H locs ls q1 q2 q3 q4
theorem a_min (X : CX κ δ own b nL ret) (E : EndR κ δ ρ0 n0 fr lo mc ms Qr Qx) {idx : Nat} {x y : Int} (hl : Cond.methodLink own idx Lib.Math.min.name ∈ allW) (hx0 : inR x) (hy0 : inR y) (hfr : 1 ≤ fr) (hlo : wsum st + 13 ≤ lo) (hm : cb ≤ mc ∧ sb ≤ ms) (hd : decode b pc = .ok (.invokestatic idx, 3))
    (kk : AW κ δ ρ0 n0 nL cb sb (pc + 3) l (vi (if y < x then y else x) :: st) S G) : AW κ δ ρ0 n0 nL cb sb pc l (vi y :: vi x :: st) S G := by
  obtain ⟨p, lc, e, R, s, m, args, below, meth, c, Q⟩ := κ
  obtain ⟨hx, hb, hml, hown, hts, hret, hlk, hK, hN, hA, htr⟩ := X
  obtain ⟨-, rfl, -⟩ := E
  intro ρ H locs ls q1 q2 q3 q4
  refine va_mmin hx hb (hml.trans q4.2.1.symm) hown (hts _ hl) (hts _ w_static_Lib_Math_min_name) (hts _ w_initialized__java_lang_Math_) (hts _ w_code_min) hfr (by rw [wsum_ok]; exact hlo) hm.1 hm.2 hd ?_
  have e0 : (if zI y < zI x then zI y else zI x) = zI (if y < x then y else x) := by
    by_cases h : y < x
    · rw [if_pos h, if_pos ((zI_lt hy0 hx0).mpr h)]
    · rw [if_neg h, if_neg (fun q => h ((zI_lt hy0 hx0).mp q))]
  rw [e0]
  exact kk ρ H locs ls q1 q2 q3 q4
end NAT

-- ===== fields and arrays =====
def ClsOK (ci : Nat) (C : String) (T : u_T) (N : Nat) (ty : Nat → FieldType) : Prop :=
  vwCl[ci]? = some (C, T, N) ∧ (∀ w ∈ u_ws C T N, w ∈ allW) ∧ (∀ k, k < N → parseFieldDescriptor (T k).2.2.1 = some (ty k)) ∧ (∀ a, a < N → ∀ b, b < N → a ≠ b → (T a).2.1 ≠ (T b).2.1) ∧ (fk ci).length = N
theorem okX0 : ClsOK 0 RX0 TX0 6 tyX0 := ⟨rfl, inW0, tyX0_ok, nmX0, rfl⟩
theorem okX1 : ClsOK 1 RX1 TX1 3 tyX1 := ⟨rfl, inW1, tyX1_ok, nmX1, rfl⟩
theorem okX2 : ClsOK 2 RX2 TX2 9 tyX2 := ⟨rfl, inW2, tyX2_ok, nmX2, rfl⟩
theorem okX3 : ClsOK 3 RX3 TX3 2 tyX3 := ⟨rfl, inW3, tyX3_ok, nmX3, rfl⟩
theorem okX4 : ClsOK 4 RX4 TX4 4 tyX4 := ⟨rfl, inW4, tyX4_ok, nmX4, rfl⟩
theorem okX5 : ClsOK 5 RX5 TX5 11 tyX5 := ⟨rfl, inW5, tyX5_ok, nmX5, rfl⟩
theorem okX6 : ClsOK 6 RX6 TX6 3 tyX6 := ⟨rfl, inW6, tyX6_ok, nmX6, rfl⟩
theorem okX7 : ClsOK 7 RX7 TX7 10 tyX7 := ⟨rfl, inW7, tyX7_ok, nmX7, rfl⟩
theorem okX8 : ClsOK 8 RX8 TX8 12 tyX8 := ⟨rfl, inW8, tyX8_ok, nmX8, rfl⟩
theorem okX9 : ClsOK 9 RX9 TX9 10 tyX9 := ⟨rfl, inW9, tyX9_ok, nmX9, rfl⟩
theorem okJ0 : ClsOK 10 RJ0 TJ0 4 tyJ0 := ⟨rfl, inWJ0, tyJ0_ok, nmJ0, rfl⟩
theorem okJ4 : ClsOK 11 RJ4 TJ4 4 tyJ4 := ⟨rfl, inWJ4, tyJ4_ok, nmJ4, rfl⟩
theorem tys_at (dA : Nat → ClassId) : (tysL dA)[0]? = some (dA 0, .int) ∧ (tysL dA)[1]? = some (dA 1, .boolean) ∧ (tysL dA)[2]? = some (dA 2, .byte) ∧ (tysL dA)[3]? = some (dA 3, .byte) ∧ (tysL dA)[4]? = some (dA 4, .object RX7) := ⟨rfl, rfl, rfl, rfl, rfl⟩
section ROWS2
variable {κ : Cx} {δ : Dx} {own : String} {b : ByteArray} {nL : Nat} {ret : Option FieldType} {ρ0 : Nat → Nat} {n0 cb sb pc : Nat} {l : AL} {st : List AV} {S : ASt} {G : GH}
/-- a number of an object -/
theorem a_getI (X : CX κ δ own b nL ret) {C : String} {T : u_T} {N ci index a : Nat} {ty : Nat → FieldType} (hc : ClsOK ci C T N ty) (k : Nat) (hf : (fk ci)[k]? = some 0) (hw : Cond.fieldLink own index (T k).1 (T k).2.1 (T k).2.2.1 ∈ allW) (ha : isAt S a (.inr ci)) (hd : decode b pc = .ok (.getfield index, 3))
    (kk : AW κ δ ρ0 n0 nL cb sb (pc + 3) l (vi (G a k) :: st) S G) : AW κ δ ρ0 n0 nL cb sb pc l (vr a :: st) S G := by
  obtain ⟨p, lc, e, R, s, m, args, below, meth, c, Q⟩ := κ
  obtain ⟨hx, hb, hml, hown, hts, hret, hlk, hK, hN, hA, htr⟩ := X
  intro ρ H locs ls h1 h2 h3 h4
  have hk : k < N := by have := (List.getElem?_eq_some_iff.mp hf).1; rw [hc.2.2.2.2] at this; exact this
  refine va_get hx hb hts hc.2.1 hown hK h2.1 a (wl_obj ha) hc.1 k hk (hts _ hw) (fun _ h => h) (v := .int (zI (G a k))) ?_ hd (kk ρ H locs ls h1 h2 h3 h4)
  rw [fvals_get hf]; rfl
/-- a reference of an object -/
theorem a_getR (X : CX κ δ own b nL ret) {C : String} {T : u_T} {N ci index a q : Nat} {ty : Nat → FieldType} (hc : ClsOK ci C T N ty) (k : Nat) (hf : (fk ci)[k]? = some 1) (hw : Cond.fieldLink own index (T k).1 (T k).2.1 (T k).2.2.1 ∈ allW) (ha : isAt S a (.inr ci)) (hq : S.2.2 a k = some q) (hd : decode b pc = .ok (.getfield index, 3))
    (kk : AW κ δ ρ0 n0 nL cb sb (pc + 3) l (vr q :: st) S G) : AW κ δ ρ0 n0 nL cb sb pc l (vr a :: st) S G := by
  obtain ⟨p, lc, e, R, s, m, args, below, meth, c, Q⟩ := κ
  obtain ⟨hx, hb, hml, hown, hts, hret, hlk, hK, hN, hA, htr⟩ := X
  intro ρ H locs ls h1 h2 h3 h4
  have hk : k < N := by have := (List.getElem?_eq_some_iff.mp hf).1; rw [hc.2.2.2.2] at this; exact this
  refine va_get hx hb hts hc.2.1 hown hK h2.1 a (wl_obj ha) hc.1 k hk (hts _ hw) (fun _ h => h) (v := .ref (ρ q)) ?_ hd (kk ρ H locs ls h1 h2 h3 h4)
  rw [fvals_get hf, hq]; rfl
/-- a number is put into an object -/
theorem a_putI (X : CX κ δ own b nL ret) {C : String} {T : u_T} {N ci index a : Nat} {ty : Nat → FieldType} (hc : ClsOK ci C T N ty) (k : Nat) (hf : (fk ci)[k]? = some 0) (hfin : (T k).2.2.2 = false) {v : Int} (hw : Cond.fieldLink own index (T k).1 (T k).2.1 (T k).2.2.1 ∈ allW) (ha : isAt S a (.inr ci)) (hd : decode b pc = .ok (.putfield index, 3)) (hv : inR v)
    (hfit : narrow (ty k) (.int (zI v)) = .int (zI v) ∧ fits (ty k) (.int (zI v)) = true)
    (kk : GR (upG G a k v) → AW κ δ ρ0 n0 nL cb sb (pc + 3) l st S (upG G a k v)) : AW κ δ ρ0 n0 nL cb sb pc l (vi v :: vr a :: st) S G := by
  obtain ⟨p, lc, e, R, s, m, args, below, meth, c, Q⟩ := κ
  obtain ⟨hx, hb, hml, hown, hts, hret, hlk, hK, hN, hA, htr⟩ := X
  intro ρ H locs ls h1 h2 h3 h4
  have hk : k < N := by have := (List.getElem?_eq_some_iff.mp hf).1; rw [hc.2.2.2.2] at this; exact this
  have hl : k < (fvals ρ S G a ci).length := by rw [show (fvals ρ S G a ci).length = (fk ci).length by simp [fvals], hc.2.2.2.2]; exact hk
  have hg := h2.2.2.2.1.up (a := a) (k := k) hv
  refine va_put (v := .int (zI v)) hx hb hts hc.2.1 ty hc.2.2.1 hc.2.2.2.1 hown hK h2.1 h2.2.1 h3 a (wl_obj ha) hc.1 k hk (hts _ hw) (fun _ h => h) hfin (hc.2.2.1 k hk) hfit.1 hfit.2 hl hd (fun H1 locs1 e1 e2 e3 => ?_)
  rw [← wl_putI ha hf] at e1 e2
  exact kk hg ρ H1 locs1 ls h1 ⟨e1, e2, h2.2.2.1, hg, h2.2.2.2.2⟩ e3 h4
theorem fit_int (v : Int) : narrow .int (.int (zI v)) = .int (zI v) ∧ fits .int (.int (zI v)) = true := ⟨rfl, rfl⟩
theorem fit_bool {v : Int} (h : v = 0 ∨ v = 1) : narrow .boolean (.int (zI v)) = .int (zI v) ∧ fits .boolean (.int (zI v)) = true := by
  rcases h with rfl | rfl <;> exact ⟨rfl, rfl⟩
theorem a_iald (X : CX κ δ own b nL ret) {a n j : Nat} {i : Int} (ha : isAt S a (.inl (0, n))) (hn : n < 2147483648) (hi : i = (j : Int)) (hj : j < n) (hd : decode b pc = .ok (.iaload, 1))
    (kk : AW κ δ ρ0 n0 nL cb sb (pc + 1) l (vi (G a j) :: st) S G) : AW κ δ ρ0 n0 nL cb sb pc l (vi i :: vr a :: st) S G := by
  obtain ⟨p, lc, e, R, s, m, args, below, meth, c, Q⟩ := κ
  obtain ⟨hx, hb, hml, hown, hts, hret, hlk, hK, hN, hA, htr⟩ := X
  intro ρ H locs ls h1 h2 h3 h4
  subst hi
  refine va_iald hx hb hK h2.1 a 0 (wl_int ha (by decide)) (tys_at _).1 (zI_ix (by omega) (by omega) hn) hd ?_
  have e0 : (zI (j : Int)).toNatClampNeg = j := by rw [zI_cl ⟨by omega, by omega⟩]; rfl
  rw [e0]
  exact kk ρ H locs ls h1 h2 h3 h4
theorem a_bald (X : CX κ δ own b nL ret) {a n j : Nat} {i : Int} (ha : isAt S a (.inl (2, n))) (hn : n < 2147483648) (hi : i = (j : Int)) (hj : j < n) (hd : decode b pc = .ok (.baload, 1))
    (kk : AW κ δ ρ0 n0 nL cb sb (pc + 1) l (vi (G a j) :: st) S G) : AW κ δ ρ0 n0 nL cb sb pc l (vi i :: vr a :: st) S G := by
  obtain ⟨p, lc, e, R, s, m, args, below, meth, c, Q⟩ := κ
  obtain ⟨hx, hb, hml, hown, hts, hret, hlk, hK, hN, hA, htr⟩ := X
  intro ρ H locs ls h1 h2 h3 h4
  subst hi
  refine va_bald hx hb hK h2.1 a 2 (wl_int ha (by decide)) (tys_at _).2.2.1 (zI_ix (by omega) (by omega) hn) hd ?_
  have e0 : (zI (j : Int)).toNatClampNeg = j := by rw [zI_cl ⟨by omega, by omega⟩]; rfl
  rw [e0]
  exact kk ρ H locs ls h1 h2 h3 h4
theorem a_zald (X : CX κ δ own b nL ret) {a n j : Nat} {i : Int} (ha : isAt S a (.inl (1, n))) (hn : n < 2147483648) (hi : i = (j : Int)) (hj : j < n) (hd : decode b pc = .ok (.baload, 1))
    (kk : AW κ δ ρ0 n0 nL cb sb (pc + 1) l (vi (G a j) :: st) S G) : AW κ δ ρ0 n0 nL cb sb pc l (vi i :: vr a :: st) S G := by
  obtain ⟨p, lc, e, R, s, m, args, below, meth, c, Q⟩ := κ
  obtain ⟨hx, hb, hml, hown, hts, hret, hlk, hK, hN, hA, htr⟩ := X
  intro ρ H locs ls h1 h2 h3 h4
  subst hi
  refine va_zald hx hb hK h2.1 a 1 (wl_int ha (by decide)) (tys_at _).2.1 (zI_ix (by omega) (by omega) hn) hd ?_
  have e0 : (zI (j : Int)).toNatClampNeg = j := by rw [zI_cl ⟨by omega, by omega⟩]; rfl
  rw [e0]
  exact kk ρ H locs ls h1 h2 h3 h4
theorem a_aald (X : CX κ δ own b nL ret) {a n j q : Nat} {i : Int} (ha : isAt S a (.inl (4, n))) (hn : n < 2147483648) (hi : i = (j : Int)) (hj : j < n) (hq : S.2.2 a j = some q) (hd : decode b pc = .ok (.aaload, 1))
    (kk : AW κ δ ρ0 n0 nL cb sb (pc + 1) l (vr q :: st) S G) : AW κ δ ρ0 n0 nL cb sb pc l (vi i :: vr a :: st) S G := by
  obtain ⟨p, lc, e, R, s, m, args, below, meth, c, Q⟩ := κ
  obtain ⟨hx, hb, hml, hown, hts, hret, hlk, hK, hN, hA, htr⟩ := X
  intro ρ H locs ls h1 h2 h3 h4
  subst hi
  refine va_aldq hx hb hK h2.1 a 4 (wl_refs ha) (tys_at _).2.2.2.2 (zI_ix (by omega) (by omega) hn) hd ?_
  have e0 : (zI (j : Int)).toNatClampNeg = j := by rw [zI_cl ⟨by omega, by omega⟩]; rfl
  rw [e0, hq]
  exact kk ρ H locs ls h1 h2 h3 h4
theorem a_iast (X : CX κ δ own b nL ret) {a n j : Nat} {i v : Int} (ha : isAt S a (.inl (0, n))) (hn : n < 2147483648) (hi : i = (j : Int)) (hj : j < n) (hv : inR v) (hd : decode b pc = .ok (.iastore, 1))
    (kk : GR (upG G a j v) → AW κ δ ρ0 n0 nL cb sb (pc + 1) l st S (upG G a j v)) : AW κ δ ρ0 n0 nL cb sb pc l (vi v :: vi i :: vr a :: st) S G := by
  obtain ⟨p, lc, e, R, s, m, args, below, meth, c, Q⟩ := κ
  obtain ⟨hx, hb, hml, hown, hts, hret, hlk, hK, hN, hA, htr⟩ := X
  intro ρ H locs ls h1 h2 h3 h4
  subst hi
  have e0 : (zI (j : Int)).toNatClampNeg = j := by rw [zI_cl ⟨by omega, by omega⟩]; rfl
  have hg := h2.2.2.2.1.up (a := a) (k := j) hv
  refine va_iast hx hb hK h2.1 h2.2.1 h3 a 0 (wl_int ha (by decide)) (tys_at _).1 (zI_ix (by omega) (by omega) hn) hd (fun H1 locs1 e1 e2 e3 => ?_)
  rw [e0, ← wl_putA ha (by decide)] at e1 e2
  exact kk hg ρ H1 locs1 ls h1 ⟨e1, e2, h2.2.2.1, hg, h2.2.2.2.2⟩ e3 h4
theorem a_bast (X : CX κ δ own b nL ret) {a n j : Nat} {i v : Int} (ha : isAt S a (.inl (2, n))) (hn : n < 2147483648) (hi : i = (j : Int)) (hj : j < n) (hv : inR v) (hb8 : vp_nar .byte (zI v) = zI v) (hd : decode b pc = .ok (.bastore, 1))
    (kk : GR (upG G a j v) → AW κ δ ρ0 n0 nL cb sb (pc + 1) l st S (upG G a j v)) : AW κ δ ρ0 n0 nL cb sb pc l (vi v :: vi i :: vr a :: st) S G := by
  obtain ⟨p, lc, e, R, s, m, args, below, meth, c, Q⟩ := κ
  obtain ⟨hx, hb, hml, hown, hts, hret, hlk, hK, hN, hA, htr⟩ := X
  intro ρ H locs ls h1 h2 h3 h4
  subst hi
  have e0 : (zI (j : Int)).toNatClampNeg = j := by rw [zI_cl ⟨by omega, by omega⟩]; rfl
  have hg := h2.2.2.2.1.up (a := a) (k := j) hv
  refine va_bast hx hb hK h2.1 h2.2.1 h3 a 2 (wl_int ha (by decide)) (tys_at _).2.2.1 (zI_ix (by omega) (by omega) hn) hd (fun H1 locs1 e1 e2 e3 => ?_)
  rw [hb8, e0, ← wl_putA ha (by decide)] at e1 e2
  exact kk hg ρ H1 locs1 ls h1 ⟨e1, e2, h2.2.2.1, hg, h2.2.2.2.2⟩ e3 h4
theorem a_zast (X : CX κ δ own b nL ret) {a n j : Nat} {i v : Int} (ha : isAt S a (.inl (1, n))) (hn : n < 2147483648) (hi : i = (j : Int)) (hj : j < n) (hv : inR v) (hb8 : vp_nar .boolean (zI v) = zI v) (hd : decode b pc = .ok (.bastore, 1))
    (kk : GR (upG G a j v) → AW κ δ ρ0 n0 nL cb sb (pc + 1) l st S (upG G a j v)) : AW κ δ ρ0 n0 nL cb sb pc l (vi v :: vi i :: vr a :: st) S G := by
  obtain ⟨p, lc, e, R, s, m, args, below, meth, c, Q⟩ := κ
  obtain ⟨hx, hb, hml, hown, hts, hret, hlk, hK, hN, hA, htr⟩ := X
  intro ρ H locs ls h1 h2 h3 h4
  subst hi
  have e0 : (zI (j : Int)).toNatClampNeg = j := by rw [zI_cl ⟨by omega, by omega⟩]; rfl
  have hg := h2.2.2.2.1.up (a := a) (k := j) hv
  refine va_zast hx hb hK h2.1 h2.2.1 h3 a 1 (wl_int ha (by decide)) (tys_at _).2.1 (zI_ix (by omega) (by omega) hn) hd (fun H1 locs1 e1 e2 e3 => ?_)
  rw [hb8, e0, ← wl_putA ha (by decide)] at e1 e2
  exact kk hg ρ H1 locs1 ls h1 ⟨e1, e2, h2.2.2.1, hg, h2.2.2.2.2⟩ e3 h4
theorem a_alen (X : CX κ δ own b nL ret) {a t n : Nat} (ha : isAt S a (.inl (t, n))) (ht : t < 5) (hd : decode b pc = .ok (.arraylength, 1))
    (kk : AW κ δ ρ0 n0 nL cb sb (pc + 1) l (vi (n : Int) :: st) S G) : AW κ δ ρ0 n0 nL cb sb pc l (vr a :: st) S G := by
  obtain ⟨p, lc, e, R, s, m, args, below, meth, c, Q⟩ := κ
  obtain ⟨hx, hb, hml, hown, hts, hret, hlk, hK, hN, hA, htr⟩ := X
  intro ρ H locs ls h1 h2 h3 h4
  have hw := wl_arr (dA := δ.2.2.1) (ρ := ρ) (G := G) ha
  match t, ht with
  | 0, _ => exact va_alen hx hb hK h2.1 a 0 hw (tys_at _).1 rfl hd (kk ρ H locs ls h1 h2 h3 h4)
  | 1, _ => exact va_alen hx hb hK h2.1 a 1 hw (tys_at _).2.1 rfl hd (kk ρ H locs ls h1 h2 h3 h4)
  | 2, _ => exact va_alen hx hb hK h2.1 a 2 hw (tys_at _).2.2.1 rfl hd (kk ρ H locs ls h1 h2 h3 h4)
  | 3, _ => exact va_alen hx hb hK h2.1 a 3 hw (tys_at _).2.2.2.1 rfl hd (kk ρ H locs ls h1 h2 h3 h4)
  | 4, _ => exact va_alen hx hb hK h2.1 a 4 hw (tys_at _).2.2.2.2 rfl hd (kk ρ H locs ls h1 h2 h3 h4)
end ROWS2

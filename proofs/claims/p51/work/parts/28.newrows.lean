-- ===== rows for what makes objects =====
def zG (G : GH) (n : Nat) : GH := fun a k => if a = n then 0 else G a k
theorem zG_ne {G : GH} {n a k : Nat} (h : a ≠ n) : zG G n a k = G a k := by simp [zG, h]
theorem zG_eq {G : GH} {n k : Nat} : zG G n n k = 0 := by simp [zG]
theorem GR.zz {G : GH} {n : Nat} (h : GR G) : GR (zG G n) := by
  intro a k
  unfold zG
  split
  · decide
  · exact h _ _
def rltB (c : Nat) : AL → Bool
  | [] => true
  | some (.inr (.inr (.inl (some a)))) :: r => (decide (a < c) || decide (strB ≤ a)) && rltB c r
  | none :: r => rltB c r
  | some (.inl _) :: r => rltB c r
  | some (.inr (.inl _)) :: r => rltB c r
  | some (.inr (.inr (.inl none))) :: r => rltB c r
  | some (.inr (.inr (.inr _))) :: r => rltB c r
theorem rltB_spec {c : Nat} : ∀ {l : AL}, rltB c l = true → ∀ (i a : Nat), l[i]? = some (some (vr a)) → a < c ∨ strB ≤ a
  | [], _, i, a, h => by simp at h
  | some (.inr (.inr (.inl (some x)))) :: r, hb, i, a, h => by
    simp only [rltB, Bool.and_eq_true, Bool.or_eq_true, decide_eq_true_eq] at hb
    match i, h with
    | 0, h =>
      have h9 : some (some (vr x)) = some (some (vr a)) := h
      injection h9 with h9; injection h9 with h9; injection h9 with h9; injection h9 with h9; injection h9 with h9; injection h9 with h9
      rw [← h9]; exact hb.1
    | i + 1, h => exact rltB_spec hb.2 i a (by simpa using h)
  | none :: r, hb, i, a, h => by
    match i, h with
    | 0, h => simp at h
    | i + 1, h => exact rltB_spec (l := r) hb i a (by simpa using h)
  | some (.inl _) :: r, hb, i, a, h => by
    match i, h with
    | 0, h => simp [vq] at h
    | i + 1, h => exact rltB_spec (l := r) hb i a (by simpa using h)
  | some (.inr (.inl _)) :: r, hb, i, a, h => by
    match i, h with
    | 0, h => simp [vq] at h
    | i + 1, h => exact rltB_spec (l := r) hb i a (by simpa using h)
  | some (.inr (.inr (.inl none))) :: r, hb, i, a, h => by
    match i, h with
    | 0, h => simp [vq] at h
    | i + 1, h => exact rltB_spec (l := r) hb i a (by simpa using h)
  | some (.inr (.inr (.inr _))) :: r, hb, i, a, h => by
    match i, h with
    | 0, h => simp [vq] at h
    | i + 1, h => exact rltB_spec (l := r) hb i a (by simpa using h)
theorem cv_same {ρ ρ' : Nat → Nat} {v : AV} (h : ∀ a, v = vr a → ρ' a = ρ a) : cv ρ' v = cv ρ v := by
  match v, h with
  | .inl _, _ => rfl
  | .inr (.inl _), _ => rfl
  | .inr (.inr (.inl none)), _ => rfl
  | .inr (.inr (.inl (some a))), h => simp [cv, h a rfl]
  | .inr (.inr (.inr (.inl _))), _ => rfl
  | .inr (.inr (.inr (.inr _))), _ => rfl
theorem HL.re {ρ ρ' : Nat → Nat} {n c : Nat} {l : AL} {ls : Array Slot} (h : HL ρ n l ls) (hr : rltB c l = true) (he : ∀ a, a < c ∨ strB ≤ a → ρ' a = ρ a) : HL ρ' n l ls := by
  refine ⟨h.1, h.2.1, h.2.2.1, fun i v hv => ?_⟩
  rw [cv_same (ρ := ρ) (fun a ha => he a (rltB_spec hr i a (by rw [hv, ha])))]
  exact h.2.2.2 i v hv
theorem st_re {ρ ρ' : Nat → Nat} {c : Nat} {st : List AV} (hr : rltB c (st.map some) = true) (he : ∀ a, a < c ∨ strB ≤ a → ρ' a = ρ a) : st.map (cv ρ') = st.map (cv ρ) := by
  apply List.map_congr_left
  intro v hv
  obtain ⟨i, hi⟩ := List.getElem?_of_mem hv
  exact cv_same fun a ha => he a (rltB_spec hr i a (by rw [List.getElem?_map, hi, ha]; rfl))
theorem cellOf_re {dA : Nat → ClassId} {ρ ρ' : Nat → Nat} {n n' : Nat} {sh : Nat → Sh} {rf : Nat → Nat → Option Nat} {G G' : GH} {a : Nat} (hG : ∀ k, G' a k = G a k) (hr : ∀ k q, rf a k = some q → ρ' q = ρ q) : cellOf dA ρ' (n', sh, rf) G' a = cellOf dA ρ (n, sh, rf) G a := by
  have hm : ∀ k, (rf a k).map ρ' = (rf a k).map ρ := by
    intro k
    cases h : rf a k with
    | none => rfl
    | some q => simp [hr k q h]
  have h2 : G' a = G a := funext hG
  simp only [cellOf]
  cases sh a with
  | inr ci => simp [fvals, hm, h2]
  | inl q => simp [avals, hm, h2]
theorem wl_push {dA : Nat → ClassId} {ρ : Nat → Nat} {n q : Nat} {sh : Nat → Sh} {rf : Nat → Nat → Option Nat} {G : GH} {e : va_E} (hfw : ∀ a, a < n → ∀ k q', rf a k = some q' → q' < n)
    (he : cellOf dA (fun a => if a = n then q else ρ a) (n + 1, sh, rf) (zG G n) n = e) : wl dA (fun a => if a = n then q else ρ a) (n + 1, sh, rf) (zG G n) = wl dA ρ (n, sh, rf) G ++ [(q, e)] := by
  unfold wl
  show List.map _ (List.range (n + 1)) = List.map _ (List.range n) ++ _
  rw [List.range_succ, List.map_append]
  congr 1
  · apply List.map_congr_left
    intro a ha
    have ha := List.mem_range.mp ha
    simp only [if_neg (Nat.ne_of_lt ha)]
    rw [cellOf_re (ρ := ρ) (n := n) (G := G) (fun k => zG_ne (Nat.ne_of_lt ha)) (fun k q' hq => by rw [if_neg (Nat.ne_of_lt (hfw a ha k q' hq))])]
  · simp [he]
def fv0 (ci : Nat) : List Value := (fk ci).map fun kd => if kd = 0 then .int 0 else .null
def RmG (κ : Cx) (fr lo mc ms : Nat) : Prop := match κ with
  | (_, _, _, R, _) => R = { frames := fr, cells := mc, slots := ms, locals := lo }
def isInit (κ : Cx) : Prop := match κ with
  | (_, _, _, _, _, _, _, _, meth, _, _) => meth.name = "<init>"
theorem EndR.rm {κ : Cx} {δ : Dx} {ρ0 : Nat → Nat} {n0 fr lo mc ms : Nat} {Qr : Option AV → ASt → GH → Prop} {Qx : String → ASt → GH → Prop} (E : EndR κ δ ρ0 n0 fr lo mc ms Qr Qx) : RmG κ fr lo mc ms := by
  obtain ⟨p, lc, e, R, s, m, args, below, meth, c, Q⟩ := κ
  exact E.2.1
theorem Mt.ofI {y : MethodName} {b : ByteArray} {nL : Nat} {ret : Option FieldType} {fr lo mc ms : Nat} {as : List AV} {S : ASt} {G : GH} {Qr : Option AV → ASt → GH → Prop} {Qx : String → ASt → GH → Prop} {l0 : AL} (hin : y.name = "<init>") (hy : plainName y.cls = true) (hlen : (enL as).length ≤ nL) (hl : enL as ++ List.replicate (nL - (enL as).length) none = l0)
    (body : ∀ (κ : Cx) (δ : Dx) (ρ0 : Nat → Nat), CX κ δ y.cls b nL ret → isInit κ → EndR κ δ ρ0 S.1 fr lo mc ms Qr Qx → GR G → AW κ δ ρ0 S.1 nL 0 0 0 l0 [] S G) : Mt y b nL ret fr lo mc ms as S G Qr Qx := by
  intro lc δ ρ hst
  refine vx_ofW (cc := b) (maxL := nL) (ret := ret) hy rfl ?_
  intro p e s m args below meth c s₁ B hml htab hv
  obtain ⟨rfl, hN, hK, hA, hR⟩ := hv
  have hts0 := atoms_spec (ws := Cond.code y b nL ret :: allW) B.pre
  have X : CX (p, lc, e, (headSpec (Cond.code y b nL ret :: allW) { frames := fr, cells := mc, slots := ms, locals := lo }).room, s, m, (as.map (cv ρ)).toArray, below, meth, c, vx_MQ below (PostR δ ρ S.1 Qr) (PostX δ ρ S.1 Qx) (as.map (cv ρ)).toArray s mc ms (frA δ)) δ y.cls b nL ret :=
    ⟨B.exec, B.bytes, hml, findClass_of_methodNamed B.named, fun w hw => hts0 w (List.mem_cons_of_mem _ hw), B.returns, B.notSynchronized, hK, hN, hA, hst⟩
  have k := body _ δ ρ X ((name_of_methodNamed B.named B.method).1.trans hin) ⟨rfl, rfl, htab⟩ hR.2.2.2.1
  rw [lg_entry_eq]
  subst hl
  exact k ρ s.heap [] _ (fun _ _ => rfl) hR va_S.rf (enL_HL hlen)
section ROWS8
variable {κ : Cx} {δ : Dx} {own : String} {b : ByteArray} {nL : Nat} {ret : Option FieldType} {ρ0 : Nat → Nat} {n0 cb sb pc fr lo mc ms n : Nat} {l : AL} {st : List AV} {G : GH} {sh : Nat → Sh} {rf rf' : Nat → Nat → Option Nat}
/-- an object is made: its abstract address is the next one -/
theorem a_new (X : CX κ δ own b nL ret) (hR : RmG κ fr lo mc ms) {C : String} {T : u_T} {N ci idx : Nat} {ty : Nat → FieldType} (hc : ClsOK ci C T N ty) (hlk : Cond.classLink own idx C ∈ allW) (hinst : Cond.instantiable C N ∈ allW) (hini : Cond.initialized C ∈ allW) (hfv : ∀ j, j < N → defaultValue (ty j) = vp_V (fv0 ci) j)
    (hsh : sh n = .inr ci) (hnone : ∀ k, rf n k = none) (hfw : ∀ a, a < n → ∀ k q, rf a k = some q → q < n) (hn : n < strB) (hn0 : n0 ≤ n) (hl : rltB n l = true) (hst : rltB n (st.map some) = true) (hcap : cb + 1 ≤ mc ∧ sb + N ≤ ms) (hd : decode b pc = .ok (.new idx, 3))
    (k : AW κ δ ρ0 n0 nL (cb + 1) (sb + N) (pc + 3) l (vr n :: st) (n + 1, sh, rf) (zG G n)) : AW κ δ ρ0 n0 nL cb sb pc l st (n, sh, rf) G := by
  obtain ⟨p, lc, e, R, s, m, args, below, meth, c, Q⟩ := κ
  obtain ⟨hx, hb, hml, hown, hts, hret, hlk9, hK, hN, hA, htr⟩ := X
  subst hR
  intro ρ H locs ls h1 h2 h3 h4
  refine va_new hx hb hts hc.2.1 ty hc.2.2.1 hown (hts _ hlk) (hts _ hinst) (hts _ hini) hK h2.1 h2.2.1 h3 (fun q hq => Nat.le_trans hN hq) hc.1 hfv hcap.1 hcap.2 hd (fun q H1 e1 e2 e3 => ?_)
  have hre : ∀ a, a < n ∨ strB ≤ a → (fun a => if a = n then q else ρ a) a = ρ a := fun a ha => by
    have : a ≠ n := by omega
    simp [this]
  have hcell : cellOf δ.2.2.1 (fun a => if a = n then q else ρ a) (n + 1, sh, rf) (zG G n) n = .inr (ci, fv0 ci) := by
    unfold cellOf
    show (match sh n with | .inr ci => _ | .inl (t, n) => _) = _
    rw [hsh]
    show Sum.inr (ci, fvals _ _ _ n ci) = _
    congr 2
    unfold fvals fv0
    apply List.ext_getElem?
    intro i
    rw [List.getElem?_mapIdx, List.getElem?_map]
    cases (fk ci)[i]? with
    | none => rfl
    | some kd => simp [hnone, zG_eq]; rfl
  have hw := wl_push (dA := δ.2.2.1) (ρ := ρ) (q := q) (sh := sh) (G := G) hfw hcell
  have k9 := k (fun a => if a = n then q else ρ a) H1 locs ls (fun a ha => by
      have h9 : a ≠ n := fun q9 => ha (by subst q9; exact ⟨hn0, Nat.lt_succ_self _⟩)
      simp only [h9, if_false]
      exact h1 a (fun q9 => ha ⟨q9.1, Nat.lt_succ_of_lt q9.2⟩))
    ⟨by rw [hw]; exact e1, by rw [hw]; exact e2, hn, h2.2.2.2.1.zz, h2.2.2.2.2.re (fun a ha _ => hre a (Or.inr ha))⟩ e3 (h4.re hl hre)
  have e8 : (vr n :: st).map (cv (fun a => if a = n then q else ρ a)) = .ref q :: st.map (cv ρ) := by
    rw [List.map_cons, st_re hst hre]
    simp [cv, vq, va_rf]
  rw [e8] at k9
  exact k9
/-- a row of numbers is made -/
theorem a_newarr (X : CX κ δ own b nL ret) (hR : RmG κ fr lo mc ms) {atype : ArrayType} {N t : Nat} (ht : t < 4) (hty : (tysL δ.2.2.1)[t]? = some (δ.2.2.1 t, newarray.typeOf atype)) (hpr : ∀ C, newarray.typeOf atype ≠ .object C) (hw : Cond.arrayClass (newarray.typeOf atype) ∈ allW) (hdef : defaultValue (newarray.typeOf atype) = if t = 3 then .long 0 else .int 0)
    (hsh : sh n = .inl (t, N)) (hfw : ∀ a, a < n → ∀ k q, rf a k = some q → q < n) (hn : n < strB) (hn0 : n0 ≤ n) (hl : rltB n l = true) (hst : rltB n (st.map some) = true) (hby : N * componentBytes (newarray.typeOf atype) ≤ 536870912) (hN9 : N < 2147483648) (hcap : cb + 1 ≤ mc ∧ sb + N ≤ ms) (hd : decode b pc = .ok (.newarray atype, 2))
    (k : AW κ δ ρ0 n0 nL (cb + 1) (sb + N) (pc + 2) l (vr n :: st) (n + 1, sh, rf) (zG G n)) : AW κ δ ρ0 n0 nL cb sb pc l (vi (N : Int) :: st) (n, sh, rf) G := by
  obtain ⟨p, lc, e, R, s, m, args, below, meth, c, Q⟩ := κ
  obtain ⟨hx, hb, hml, hown, hts, hret, hlk9, hK, hN, hA, htr⟩ := X
  subst hR
  intro ρ H locs ls h1 h2 h3 h4
  have c0 : (zI (N : Int)).toNatClampNeg = N := by rw [zI_cl ⟨by omega, by omega⟩]; rfl
  have c1 : ¬ zI (N : Int) < 0 := fun h => by rw [← zI_0, zI_lt ⟨by omega, by omega⟩ inR_0] at h; omega
  refine va_newa (a0 := if t = 3 then (N, .inr (.inl fun _ => 0)) else (N, .inl fun _ => 0)) hx hb (hts _ hw) rfl hK h2.1 h2.2.1 h3 (fun q hq => Nat.le_trans hN hq) ?_ c1 c0 hby hcap.1 hcap.2 hd (fun q cA H1 eK e1 e2 e3 => ?_)
  · intro cA
    by_cases h : t = 3
    · simp only [h, if_true] at hdef ⊢
      rw [hdef]; rfl
    · simp only [h, if_false] at hdef ⊢
      rw [hdef]; rfl
  have hcA : cA = δ.2.2.1 t := by
    have q1 := (hK.2 t _ hty).2
    have hlen : (tysL δ.2.2.1).length = 5 := rfl
    have q2 := (eK.2 5 (cA, newarray.typeOf atype) (by rw [List.getElem?_append_right (by rw [hlen]; exact Nat.le_refl _), hlen]; rfl)).2
    generalize newarray.typeOf atype = ty at q1 q2 hpr
    cases ty with
    | object C => exact absurd rfl (hpr C)
    | _ => exact Option.some.inj (q2.symm.trans q1)
  subst hcA
  have hre : ∀ a, a < n ∨ strB ≤ a → (fun a => if a = n then q else ρ a) a = ρ a := fun a ha => by
    have : a ≠ n := by omega
    simp [this]
  have hcell : cellOf δ.2.2.1 (fun a => if a = n then q else ρ a) (n + 1, sh, rf) (zG G n) n = .inl (δ.2.2.1 t, if t = 3 then (N, .inr (.inl fun _ => 0)) else (N, .inl fun _ => 0)) := by
    unfold cellOf
    show (match sh n with | .inr ci => _ | .inl (t, n) => _) = _
    rw [hsh]
    show avals _ _ _ _ n t N = _
    unfold avals
    have hz : ∀ j, zG G n n j = 0 := fun j => zG_eq
    by_cases h : t = 3
    · simp only [h, if_true, hz]; rfl
    · have h4 : t ≠ 4 := by omega
      simp only [h, h4, if_false, hz]; rfl
  have hw9 := wl_push (dA := δ.2.2.1) (ρ := ρ) (q := q) (sh := sh) (G := G) hfw hcell
  have k9 := k (fun a => if a = n then q else ρ a) H1 locs ls (fun a ha => by
      have h9 : a ≠ n := fun q9 => ha (by subst q9; exact ⟨hn0, Nat.lt_succ_self _⟩)
      simp only [h9, if_false]
      exact h1 a (fun q9 => ha ⟨q9.1, Nat.lt_succ_of_lt q9.2⟩))
    ⟨by rw [hw9]; exact e1, by rw [hw9]; exact e2, hn, h2.2.2.2.1.zz, h2.2.2.2.2.re (fun a ha _ => hre a (Or.inr ha))⟩ e3 (h4.re hl hre)
  have e8 : (vr n :: st).map (cv (fun a => if a = n then q else ρ a)) = .ref q :: st.map (cv ρ) := by
    rw [List.map_cons, st_re hst hre]
    simp [cv, vq, va_rf]
  rw [e8] at k9
  exact k9
/-- a row of references is made -/
theorem a_newrefs (X : CX κ δ own b nL ret) (hR : RmG κ fr lo mc ms) {N idx : Nat} (hlk : Cond.classLink own idx RX7 ∈ allW) (hsh : sh n = .inl (4, N)) (hnone : ∀ k, rf n k = none) (hfw : ∀ a, a < n → ∀ k q, rf a k = some q → q < n) (hn : n < strB) (hn0 : n0 ≤ n) (hl : rltB n l = true) (hst : rltB n (st.map some) = true) (hby : N * 4 ≤ 536870912) (hcap : cb + 1 ≤ mc ∧ sb + N ≤ ms) (hd : decode b pc = .ok (.anewarray idx, 3))
    (k : AW κ δ ρ0 n0 nL (cb + 1) (sb + N) (pc + 3) l (vr n :: st) (n + 1, sh, rf) (zG G n)) : AW κ δ ρ0 n0 nL cb sb pc l (vi (N : Int) :: st) (n, sh, rf) G := by
  obtain ⟨p, lc, e, R, s, m, args, below, meth, c, Q⟩ := κ
  obtain ⟨hx, hb, hml, hown, hts, hret, hlk9, hK, hN, hA, htr⟩ := X
  subst hR
  intro ρ H locs ls h1 h2 h3 h4
  have c0 : (zI (N : Int)).toNatClampNeg = N := by rw [zI_cl ⟨by omega, by omega⟩]; rfl
  have c1 : ¬ zI (N : Int) < 0 := fun h => by rw [← zI_0, zI_lt ⟨by omega, by omega⟩ inR_0] at h; omega
  refine va_newq hx hb hown (hts _ hlk) hA.2.2.2.2.2.2.2.1 hK h2.1 h2.2.1 h3 (fun q hq => Nat.le_trans hN hq) c1 c0 hby hcap.1 hcap.2 hd (fun q cA H1 eK e1 e2 e3 => ?_)
  have hcA : cA = δ.2.2.1 4 := by
    have q1 := (hK.2 4 _ (tys_at _).2.2.2.2).2
    have hlen : (tysL δ.2.2.1).length = 5 := rfl
    have q2 := (eK.2 5 (cA, .object RX7) (by rw [List.getElem?_append_right (by rw [hlen]; exact Nat.le_refl _), hlen]; rfl)).2
    obtain ⟨_, _, _, _, _, r1⟩ := q1
    obtain ⟨_, _, _, _, _, r2⟩ := q2
    exact Option.some.inj (r2.symm.trans r1)
  subst hcA
  have hre : ∀ a, a < n ∨ strB ≤ a → (fun a => if a = n then q else ρ a) a = ρ a := fun a ha => by
    have : a ≠ n := by omega
    simp [this]
  have hcell : cellOf δ.2.2.1 (fun a => if a = n then q else ρ a) (n + 1, sh, rf) (zG G n) n = .inl (δ.2.2.1 4, N, .inr (.inr (.inr (.inr fun _ => none)))) := by
    unfold cellOf
    show (match sh n with | .inr ci => _ | .inl (t, n) => _) = _
    rw [hsh]
    show avals _ _ _ _ n 4 N = _
    unfold avals
    rw [if_neg (by decide), if_pos rfl]
    simp [hnone]
  have hw9 := wl_push (dA := δ.2.2.1) (ρ := ρ) (q := q) (sh := sh) (G := G) hfw hcell
  have k9 := k (fun a => if a = n then q else ρ a) H1 locs ls (fun a ha => by
      have h9 : a ≠ n := fun q9 => ha (by subst q9; exact ⟨hn0, Nat.lt_succ_self _⟩)
      simp only [h9, if_false]
      exact h1 a (fun q9 => ha ⟨q9.1, Nat.lt_succ_of_lt q9.2⟩))
    ⟨by rw [hw9]; exact e1, by rw [hw9]; exact e2, hn, h2.2.2.2.1.zz, h2.2.2.2.2.re (fun a ha _ => hre a (Or.inr ha))⟩ e3 (h4.re hl hre)
  have e8 : (vr n :: st).map (cv (fun a => if a = n then q else ρ a)) = .ref q :: st.map (cv ρ) := by
    rw [List.map_cons, st_re hst hre]
    simp [cv, vq, va_rf]
  rw [e8] at k9
  exact k9
theorem wl_re {dA : Nat → ClassId} {ρ : Nat → Nat} {S S' : ASt} {G : GH} (h1 : S'.1 = S.1) (h2 : ∀ a, a < S.1 → S'.2.1 a = S.2.1 a) (h3 : ∀ a, a < S.1 → ∀ k, S'.2.2 a k = S.2.2 a k) : wl dA ρ S' G = wl dA ρ S G := by
  unfold wl
  rw [h1]
  apply List.map_congr_left
  intro a ha
  have ha := List.mem_range.mp ha
  congr 1
  unfold cellOf
  rw [h2 a ha]
  have e9 : S'.2.2 a = S.2.2 a := funext (h3 a ha)
  cases S.2.1 a with
  | inr ci => simp [fvals, e9]
  | inl q => simp [avals, e9]
theorem AW.congS {S S' : ASt} (h1 : S'.1 = S.1) (h2 : ∀ a, a < S.1 → S'.2.1 a = S.2.1 a) (h3 : ∀ a, a < S.1 → ∀ k, S'.2.2 a k = S.2.2 a k) (k : AW κ δ ρ0 n0 nL cb sb pc l st S' G) : AW κ δ ρ0 n0 nL cb sb pc l st S G := by
  obtain ⟨p, lc, e, R, s, m, args, below, meth, c, Q⟩ := κ
  intro ρ H locs ls q1 q2 q3 q4
  have hw := wl_re (dA := δ.2.2.1) (ρ := ρ) (G := G) h1 h2 h3
  exact k ρ H locs ls (fun a ha => q1 a (by rw [← h1]; exact ha)) ⟨by rw [hw]; exact q2.1, by rw [hw]; exact q2.2.1, by rw [h1]; exact q2.2.2.1, q2.2.2.2⟩ q3 q4
theorem wl_putR {dA : Nat → ClassId} {ρ : Nat → Nat} {G : GH} {a ci k q : Nat} (h : isAt (n, sh, rf) a (.inr ci)) (hf : (fk ci)[k]? = some 1) (hrf : ∀ a' k', rf' a' k' = if a' = a ∧ k' = k then some q else rf a' k') : wl dA ρ (n, sh, rf') G = (wl dA ρ (n, sh, rf) G).set a (ρ a, .inr (ci, (fvals ρ (n, sh, rf) G a ci).set k (.ref (ρ q)))) := by
  apply List.ext_getElem?
  intro i
  rw [List.getElem?_set]
  have ha : a < n := h.1
  have hsa : sh a = .inr ci := h.2
  by_cases hi : a = i
  · subst hi
    have hl : a < (wl dA ρ (n, sh, rf) G).length := by simp [wl]; exact ha
    rw [if_pos rfl, if_pos hl, wl_at (S := (n, sh, rf')) ha]
    congr 2
    unfold cellOf
    show (match sh a with | .inr ci => _ | .inl (t, n) => _) = _
    rw [hsa]
    show Sum.inr (ci, _) = _
    congr 2
    apply List.ext_getElem?
    intro j
    rw [List.getElem?_set]
    have hk : k < (fvals ρ (n, sh, rf) G a ci).length := by
      have := (List.getElem?_eq_some_iff.mp hf).1
      simpa [fvals] using this
    by_cases hj : k = j
    · subst hj
      rw [if_pos rfl, if_pos hk, fvals_get hf]
      show some (if (1 : Nat) = 0 then _ else va_rf ((rf' a k).map ρ)) = _
      rw [hrf, if_neg (by decide), if_pos ⟨rfl, rfl⟩]; rfl
    · rw [if_neg hj]
      simp only [fvals, List.getElem?_mapIdx]
      cases (fk ci)[j]? with
      | none => rfl
      | some kd =>
        have : rf' a j = rf a j := by rw [hrf, if_neg (fun q9 => hj q9.2.symm)]
        simp [this]
  · rw [if_neg hi]
    by_cases hn : i < n
    · rw [wl_at (S := (n, sh, rf')) hn, wl_at (S := (n, sh, rf)) hn]
      congr 2
      have e9 : rf' i = rf i := funext fun k' => by rw [hrf, if_neg (fun q9 => hi q9.1.symm)]
      unfold cellOf
      show (match sh i with | .inr ci => _ | .inl (t, n) => _) = (match sh i with | .inr ci => _ | .inl (t, n) => _)
      cases sh i with
      | inr ci => simp [fvals, e9]
      | inl q => simp [avals, e9]
    · rw [List.getElem?_eq_none (by simp [wl]; omega), List.getElem?_eq_none (by simp [wl]; omega)]
/-- a final reference is put, in a constructor -/
theorem a_putR (hI : isInit κ) (X : CX κ δ own b nL ret) {C : String} {T : u_T} {N ci index a q : Nat} {ty : Nat → FieldType} (hc : ClsOK ci C T N ty) (k : Nat) (hf : (fk ci)[k]? = some 1) (hfin : (T k).2.2.2 = true) (hdecl : (T k).1 = own) (hw : Cond.fieldLink own index (T k).1 (T k).2.1 (T k).2.2.1 ∈ allW) (ha : isAt (n, sh, rf) a (.inr ci)) (hty : ∀ r : Nat, narrow (ty k) (.ref r) = .ref r ∧ fits (ty k) (.ref r) = true)
    (hrf : ∀ a' k', rf' a' k' = if a' = a ∧ k' = k then some q else rf a' k') (hd : decode b pc = .ok (.putfield index, 3))
    (kk : AW κ δ ρ0 n0 nL cb sb (pc + 3) l st (n, sh, rf') G) : AW κ δ ρ0 n0 nL cb sb pc l (vr q :: vr a :: st) (n, sh, rf) G := by
  obtain ⟨p, lc, e, R, s, m, args, below, meth, c, Q⟩ := κ
  obtain ⟨hx, hb, hml, hown, hts, hret, hlk, hK, hN, hA, htr⟩ := X
  intro ρ H locs ls h1 h2 h3 h4
  have hk : k < N := by have := (List.getElem?_eq_some_iff.mp hf).1; rw [hc.2.2.2.2] at this; exact this
  have hl : k < (fvals ρ (n, sh, rf) G a ci).length := by rw [show (fvals ρ (n, sh, rf) G a ci).length = (fk ci).length by simp [fvals], hc.2.2.2.2]; exact hk
  refine va_putF (v := .ref (ρ q)) hx hb hts hc.2.1 ty hc.2.2.1 hc.2.2.2.1 hown hK h2.1 h2.2.1 h3 a (wl_obj ha) hc.1 k hk (hts _ hw) (fun _ h => h) hfin hI hdecl (hc.2.2.1 k hk) (hty _).1 (hty _).2 hl hd (fun H1 locs1 e1 e2 e3 => ?_)
  rw [← wl_putR ha hf hrf] at e1 e2
  exact kk ρ H1 locs1 ls h1 ⟨e1, e2, h2.2.2⟩ e3 h4
theorem wl_astR {dA : Nat → ClassId} {ρ : Nat → Nat} {G : GH} {a k q N : Nat} (h : isAt (n, sh, rf) a (.inl (4, N))) (hrf : ∀ a' k', rf' a' k' = if a' = a ∧ k' = k then some q else rf a' k') : wl dA ρ (n, sh, rf') G = (wl dA ρ (n, sh, rf) G).set a (ρ a, .inl (dA 4, N, .inr (.inr (.inr (.inr (va_up (fun j => (rf a j).map ρ) k (some (ρ q)))))))) := by
  apply List.ext_getElem?
  intro i
  rw [List.getElem?_set]
  have ha : a < n := h.1
  have hsa : sh a = .inl (4, N) := h.2
  by_cases hi : a = i
  · subst hi
    have hl : a < (wl dA ρ (n, sh, rf) G).length := by simp [wl]; exact ha
    rw [if_pos rfl, if_pos hl, wl_at (S := (n, sh, rf')) ha]
    congr 2
    unfold cellOf
    show (match sh a with | .inr ci => _ | .inl (t, n) => _) = _
    rw [hsa]
    show avals _ _ _ _ a 4 N = _
    unfold avals
    rw [if_neg (by decide), if_pos rfl]
    congr 7
    funext j
    show (rf' a j).map ρ = _
    rw [hrf]
    unfold va_up
    by_cases hj : j = k
    · subst hj; simp
    · simp [hj]
  · rw [if_neg hi]
    by_cases hn : i < n
    · rw [wl_at (S := (n, sh, rf')) hn, wl_at (S := (n, sh, rf)) hn]
      congr 2
      have e9 : rf' i = rf i := funext fun k' => by rw [hrf, if_neg (fun q9 => hi q9.1.symm)]
      unfold cellOf
      show (match sh i with | .inr ci => _ | .inl (t, n) => _) = (match sh i with | .inr ci => _ | .inl (t, n) => _)
      cases sh i with
      | inr ci => simp [fvals, e9]
      | inl q => simp [avals, e9]
    · rw [List.getElem?_eq_none (by simp [wl]; omega), List.getElem?_eq_none (by simp [wl]; omega)]
theorem a_aast (X : CX κ δ own b nL ret) {a j q N : Nat} {i : Int} (ha : isAt (n, sh, rf) a (.inl (4, N))) (hq : isAt (n, sh, rf) q (.inr 7)) (hN9 : N < 2147483648) (hi : i = (j : Int)) (hj : j < N) (hrf : ∀ a' k', rf' a' k' = if a' = a ∧ k' = j then some q else rf a' k') (hd : decode b pc = .ok (.aastore, 1))
    (kk : AW κ δ ρ0 n0 nL cb sb (pc + 1) l st (n, sh, rf') G) : AW κ δ ρ0 n0 nL cb sb pc l (vr q :: vi i :: vr a :: st) (n, sh, rf) G := by
  obtain ⟨p, lc, e, R, s, m, args, below, meth, c, Q⟩ := κ
  obtain ⟨hx, hb, hml, hown, hts, hret, hlk, hK, hN, hA, htr⟩ := X
  intro ρ H locs ls h1 h2 h3 h4
  subst hi
  have e0 : (zI (j : Int)).toNatClampNeg = j := by rw [zI_cl ⟨by omega, by omega⟩]; rfl
  refine va_astq hx hb hK h2.1 h2.2.1 h3 a 4 q 7 (wl_refs ha) (tys_at _).2.2.2.2 (wl_obj hq) rfl (zI_ix (by omega) (by omega) hN9) hd (fun H1 locs1 e1 e2 e3 => ?_)
  rw [e0, ← wl_astR ha hrf] at e1 e2
  exact kk ρ H1 locs1 ls h1 ⟨e1, e2, h2.2.2⟩ e3 h4
theorem a_objInit (X : CX κ δ own b nL ret) (hR : RmG κ fr lo mc ms) {idx a : Nat} {S : ASt} (hl : Cond.methodLink own idx objectInit ∈ allW) (hfr : 1 ≤ fr) (hlo : wsum st + 12 ≤ lo) (hd : decode b pc = .ok (.invokespecial idx, 3)) (k : AW κ δ ρ0 n0 nL cb sb (pc + 3) l st S G) : AW κ δ ρ0 n0 nL cb sb pc l (vr a :: st) S G := by
  obtain ⟨p, lc, e, R, s, m, args, below, meth, c, Q⟩ := κ
  obtain ⟨hx, hb, hml, hown, hts, hret, hlk, hK, hN, hA, htr⟩ := X
  subst hR
  intro ρ H locs ls h1 h2 h3 h4
  refine W.objInit (rest := st.map (cv ρ)) hx hb hown (hts _ hl) (hts _ w_instanceMethod_objectInit) (hts _ w_code_objectInit) rfl (h4.2.1.trans hml.symm) rfl hd hfr ?_ (k ρ H locs ls h1 h2 h3 h4)
  show 2 * 0 + _ + 12 ≤ lo
  rw [wsum_ok]; omega
section CI9
variable {y : MethodName} {b' : ByteArray} {nL' fr' lo' mc' ms' a : Nat} {S S2 : ASt} {P : GH → Prop}
theorem after_new {p : Program} {lc : Launch} {e : Env} {R : Room} {s : State} {m : MethodId} {args : Array Value} {below : List Frame} {meth : Method} {c : Code} {Q : State → Prop} {H : Heap} {locs : List Loc} {ls : Array Slot} {ρ : Nat → Nat} {av : Array Value} {st0 : List Value} (hn0 : n0 ≤ S.1) (hl : rltB S.1 l = true) (hst : rltB S.1 (st.map some) = true)
    (hext : ∀ a, ¬ (n0 ≤ a ∧ a < S.1) → ρ a = ρ0 a) (hS : va_S (frA δ) s.heap H locs) (hL : HL ρ nL l ls) (hS2 : S.1 ≤ S2.1)
    (hr : vx_Run p lc e R s m args below meth c H locs cb sb mc' ms' (F0 m pc ls st0) (st.map (cv ρ)) (PostR δ ρ S.1 (fun v S' G' => S' = S2 ∧ v = none ∧ P G') av) (PostX δ ρ S.1 noX) (frA δ))
    (kk : ∀ G', P G' → GR G' → AW (p, lc, e, R, s, m, args, below, meth, c, Q) δ ρ0 n0 nL (cb + mc') (sb + ms') (pc + 3) l st S2 G') : W p lc e R s m args below meth c H locs cb sb Q (F0 m pc ls st0) := by
  refine call_go hr hS ?_ ?_
  · intro E ce q9 S' G' ρ' H1 locs1 hq
    exact hq.elim
  · intro v S' G' ρ' H1 locs1 hq he hrep hS1
    obtain ⟨rfl, rfl, hq⟩ := hq
    have hstr := hrep.2.2.1
    have hre : ∀ a, a < S.1 ∨ strB ≤ a → ρ' a = ρ a := fun a ha => he a (by omega)
    have k := kk G' hq hrep.2.2.2.1 ρ' H1 locs1 ls (fun a ha => (he a (by omega)).trans (hext a (by omega))) hrep hS1 (hL.re hl hre)
    rw [st_re hst hre] at k
    exact k
/-- a private constructor of a nest mate -/
theorem a_callIN (X : CX κ δ own b nL ret) (hR : RmG κ fr lo mc ms) {idx : Nat} {host : String} (M : Mt y b' nL' none fr' lo' mc' ms' [vr a] S G (fun v S' G' => S' = S2 ∧ v = none ∧ P G') noX) (hn0 : n0 ≤ S.1) (hl9 : rltB S.1 l = true) (hst : rltB S.1 (st.map some) = true) (hS2 : S.1 ≤ S2.1)
    (hl : (own, idx, y, host) ∈ nestW) (hi : Cond.instanceMethod y ∈ allW) (hini : Cond.initialized y.cls ∈ allW) (hcode : Cond.code y b' nL' none ∈ allW) (hy : clsPlain y) (hn : pnum y = some 0) (hyi : y.name = "<init>")
    (hw : wsum st ≤ 8) (hr : fr' + 1 ≤ fr ∧ 8 + (nL' + 11) + lo' ≤ lo) (hm : cb + mc' ≤ mc ∧ sb + ms' ≤ ms) (hd : decode b pc = .ok (.invokespecial idx, 3))
    (kk : ∀ G', P G' → GR G' → AW κ δ ρ0 n0 nL (cb + mc') (sb + ms') (pc + 3) l st S2 G') : AW κ δ ρ0 n0 nL cb sb pc l (vr a :: st) S G := by
  obtain ⟨p, lc, e, R, s, m, args, below, meth, c, Q⟩ := κ
  obtain ⟨hx, hb, hml, hown, hts, hret, hlk, hK, hN, hA, htr⟩ := X
  subst hR
  intro ρ H locs ls h1 h2 h3 h4
  refine after_new hn0 hl9 hst h1 h3 h4 hS2 (av := #[Value.ref (ρ a)]) ?_ kk
  refine vx_runIN (host := host) (As := []) (n := 0) ⟨hx, hb, hml, hown, hts⟩ (M lc δ ρ htr)
    ⟨⟨⟨rfl, rfl, hr.1, hr.2, payA hts hcode, List.mem_cons_self⟩, hts _ hcode, hts _ hini, hy, pnum_len hn, va_Nw.use rfl (hA.2.2.2.2.2.2.1 _ hl)⟩, hyi, hts _ hi⟩
    ⟨PreA.blind, fun U hU hW => ⟨rfl, by rw [hU]; exact Nat.le_trans hN h3.1, va_K.moved hW.alike hK, ?_, by rw [hU]; exact h2⟩⟩ rfl rfl h4.2.1 ?_ ?_ hd ⟨hm.1, hm.2⟩
  · rw [hU]; exact hA.move hW h3.2.1
  · rfl
  · exact lv_room (by rw [wsum_ok]; exact hw)
theorem a_callI (X : CX κ δ own b nL ret) (hR : RmG κ fr lo mc ms) {idx : Nat} (M : Mt y b' nL' none fr' lo' mc' ms' [vr a] S G (fun v S' G' => S' = S2 ∧ v = none ∧ P G') noX) (hn0 : n0 ≤ S.1) (hl9 : rltB S.1 l = true) (hst : rltB S.1 (st.map some) = true) (hS2 : S.1 ≤ S2.1)
    (hl : Cond.methodLink own idx y ∈ allW) (hi : Cond.instanceMethod y ∈ allW) (hini : Cond.initialized y.cls ∈ allW) (hcode : Cond.code y b' nL' none ∈ allW) (hy : clsPlain y) (hn : pnum y = some 0) (hyi : y.name = "<init>")
    (hw : wsum st ≤ 8) (hr : fr' + 1 ≤ fr ∧ 8 + (nL' + 11) + lo' ≤ lo) (hm : cb + mc' ≤ mc ∧ sb + ms' ≤ ms) (hd : decode b pc = .ok (.invokespecial idx, 3))
    (kk : ∀ G', P G' → GR G' → AW κ δ ρ0 n0 nL (cb + mc') (sb + ms') (pc + 3) l st S2 G') : AW κ δ ρ0 n0 nL cb sb pc l (vr a :: st) S G := by
  obtain ⟨p, lc, e, R, s, m, args, below, meth, c, Q⟩ := κ
  obtain ⟨hx, hb, hml, hown, hts, hret, hlk, hK, hN, hA, htr⟩ := X
  subst hR
  intro ρ H locs ls h1 h2 h3 h4
  refine after_new hn0 hl9 hst h1 h3 h4 hS2 (av := #[Value.ref (ρ a)]) ?_ kk
  refine vx_runI (As := []) (n := 0) ⟨hx, hb, hml, hown, hts⟩ (M lc δ ρ htr)
    ⟨⟨rfl, rfl, hr.1, hr.2, payA hts hcode, List.mem_cons_self, hts _ hcode, hts _ hini, hy, pnum_len hn, hts _ hl⟩, hyi, hts _ hi⟩
    ⟨PreA.blind, fun U hU hW => ⟨rfl, by rw [hU]; exact Nat.le_trans hN h3.1, va_K.moved hW.alike hK, ?_, by rw [hU]; exact h2⟩⟩ rfl rfl h4.2.1 ?_ ?_ hd ⟨hm.1, hm.2⟩
  · rw [hU]; exact hA.move hW h3.2.1
  · rfl
  · exact lv_room (by rw [wsum_ok]; exact hw)
end CI9
end ROWS8

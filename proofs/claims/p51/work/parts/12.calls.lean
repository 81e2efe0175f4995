-- ===== contracts over the abstract heap, and calls =====
def PostR (δ : Dx) (ρ0 : Nat → Nat) (n0 : Nat) (Qr : Option AV → ASt → GH → Prop) : Array Value → State → Outcome → State → Prop := fun _ st oc t =>
  (∃ (v : Option AV) (S' : ASt) (G' : GH) (ρ' : Nat → Nat), oc = .returned (v.map (cv ρ')) ∧ Qr v S' G' ∧ (∀ a, ¬ (n0 ≤ a ∧ a < S'.1) → ρ' a = ρ0 a) ∧ Rep δ ρ' S' G' t.heap) ∧ va_F (frA δ) st t
def PostX (δ : Dx) (ρ0 : Nat → Nat) (n0 : Nat) (Qx : String → ASt → GH → Prop) : String → State → State → Prop := fun E st t =>
  (∃ (S' : ASt) (G' : GH) (ρ' : Nat → Nat), Qx E S' G' ∧ (∀ a, ¬ (n0 ≤ a ∧ a < S'.1) → ρ' a = ρ0 a) ∧ Rep δ ρ' S' G' t.heap) ∧ va_F (frA δ) st t
def PreA (δ : Dx) (ρ : Nat → Nat) (as : List AV) (S : ASt) (G : GH) : Array Value → State → Prop := fun v U =>
  v = (as.map (cv ρ)).toArray ∧ δ.2.2.2.1 ≤ U.heap.size ∧ va_K (δ.1, δ.2.1) vwCl (tysL δ.2.2.1) U ∧ Amb δ U U.heap ∧ Rep δ ρ S G U.heap
theorem PreA.blind {δ : Dx} {ρ : Nat → Nat} {as : List AV} {S : ASt} {G : GH} : FrameBlind (PreA δ ρ as S G) := by
  intro a U g mk h
  obtain ⟨h1, h2, h3, h4, h5⟩ := h
  exact ⟨h1, h2, va_K.moved (u := U) (U := U.calling g mk a) (Vm.Alike.refl U.vm) h3, h4.move (s := U) (U := U.calling g mk a) (State.WarmedH.refl U) (fun _ _ _ => rfl), h5⟩
/-- the contract of a method: words, room (frames, words of locals, cells, slots), arguments and heap at the start; what holds behind its return, behind its throw -/
def Mt (y : MethodName) (b : ByteArray) (nL : Nat) (ret : Option FieldType) (fr lo mc ms : Nat) (as : List AV) (S : ASt) (G : GH) (Qr : Option AV → ASt → GH → Prop) (Qx : String → ASt → GH → Prop) : Prop :=
  ∀ (lc : Launch) (δ : Dx) (ρ : Nat → Nat), lc.stackTraces = false → vx_Met lc y (Cond.code y b nL ret :: allW) { frames := fr, cells := mc, slots := ms, locals := lo } (PreA δ ρ as S G) (PostR δ ρ S.1 Qr) (PostX δ ρ S.1 Qx) mc ms (frA δ)
def noX : String → ASt → GH → Prop := fun _ _ _ => False
theorem Mt.mono {y : MethodName} {b : ByteArray} {nL : Nat} {ret : Option FieldType} {fr lo mc ms : Nat} {as : List AV} {S : ASt} {G : GH} {Qr Qr' : Option AV → ASt → GH → Prop} {Qx Qx' : String → ASt → GH → Prop} (h : Mt y b nL ret fr lo mc ms as S G Qr Qx) (h1 : ∀ v S' G', Qr v S' G' → Qr' v S' G') (h2 : ∀ E S' G', Qx E S' G' → Qx' E S' G') : Mt y b nL ret fr lo mc ms as S G Qr' Qx' := by
  intro lc δ ρ hl p e a1 a2 a3 s m args below a4 a5 a6 a7
  obtain ⟨t, o, b1, b2, b3, b4⟩ := h lc δ ρ hl p e a1 a2 a3 s m args below a4 a5 a6 a7
  refine ⟨t, o, b1, b2, b3, ?_⟩
  rcases b4 with ⟨⟨⟨v, S', G', ρ', c1, c2, c3⟩, c4⟩, c5⟩ | ⟨q, c1, E, ce, L, ⟨⟨S', G', ρ', c2, c3⟩, c4⟩, c5⟩
  · exact Or.inl ⟨⟨⟨v, S', G', ρ', c1, h1 _ _ _ c2, c3⟩, c4⟩, c5⟩
  · exact Or.inr ⟨q, c1, E, ce, L, ⟨⟨S', G', ρ', h2 _ _ _ c2, c3⟩, c4⟩, c5⟩
-- the entry
def enL : List AV → AL
  | [] => []
  | v :: r => if cat2 (some v) then some v :: none :: enL r else some v :: enL r
theorem enL_len {ρ : Nat → Nat} : ∀ vs : List AV, (enL vs).length = (lg_sl (vs.map (cv ρ))).length
  | [] => rfl
  | v :: r => by
    have ih := enL_len (ρ := ρ) r
    have e : lg_sl ((v :: r).map (cv ρ)) = (if (cv ρ v).category = 2 then [Slot.val (cv ρ v), .second] else [.val (cv ρ v)]) ++ lg_sl (r.map (cv ρ)) := by simp [lg_sl]
    rw [e, List.length_append, ← ih]
    show (if cat2 (some v) then some v :: none :: enL r else some v :: enL r).length = _
    rw [cat2_spec (ρ := ρ)]
    by_cases h : (cv ρ v).category = 2
    · simp only [h, decide_true, if_true, List.length_cons, List.length_nil]; omega
    · simp only [h, decide_false, if_false, Bool.false_eq_true, List.length_cons, List.length_nil]; omega
theorem enL_args {ρ : Nat → Nat} : ∀ (vs : List AV) (k i : Nat) (v : AV), (enL vs)[i]? = some (some v) → (k + i, cv ρ v) ∈ lv_args k (vs.map (cv ρ))
  | [], k, i, v, h => by simp [enL] at h
  | w :: r, k, i, v, h => by
    unfold enL at h
    rw [cat2_spec (ρ := ρ)] at h
    show _ ∈ (k, cv ρ w) :: lv_args (if (cv ρ w).category = 2 then k + 2 else k + 1) (r.map (cv ρ))
    by_cases hc : (cv ρ w).category = 2
    · simp only [hc, decide_true, if_true] at h ⊢
      match i, h with
      | 0, h => simp at h; subst h; exact List.mem_cons_self
      | 1, h => simp at h
      | i + 2, h =>
        have := enL_args (ρ := ρ) r (k + 2) i v (by simpa using h)
        rw [show k + (i + 2) = k + 2 + i by omega]
        exact List.mem_cons_of_mem _ this
    · simp only [hc, decide_false, if_false, Bool.false_eq_true] at h ⊢
      match i, h with
      | 0, h => simp at h; subst h; exact List.mem_cons_self
      | i + 1, h =>
        have := enL_args (ρ := ρ) r (k + 1) i v (by simpa using h)
        rw [show k + (i + 1) = k + 1 + i by omega]
        exact List.mem_cons_of_mem _ this
theorem enL_HL {ρ : Nat → Nat} {vs : List AV} {n : Nat} (h : (enL vs).length ≤ n) : HL ρ n (enL vs ++ List.replicate (n - (enL vs).length) none) ((lg_sl (vs.map (cv ρ)) ++ List.replicate (n - (lg_sl (vs.map (cv ρ))).length) Slot.unset).toArray) := by
  have hl := lv_entry (vs.map (cv ρ)) (n := n) (by rw [← enL_len]; exact h)
  refine ⟨by simp; omega, hl.1, hl.2.1, fun i v hi => ?_⟩
  have h2 : (enL vs)[i]? = some (some v) := by
    by_cases hlt : i < (enL vs).length
    · rwa [List.getElem?_append_left hlt] at hi
    · rw [List.getElem?_append_right (by omega), List.getElem?_replicate] at hi
      split at hi <;> simp at hi
  have h3 := enL_args (ρ := ρ) vs 0 i v h2
  rw [Nat.zero_add] at h3
  exact hl.2.2 _ h3
def EndR (κ : Cx) (δ : Dx) (ρ0 : Nat → Nat) (n0 fr lo mc ms : Nat) (Qr : Option AV → ASt → GH → Prop) (Qx : String → ASt → GH → Prop) : Prop := match κ with
  | (_, _, _, R, s, _, args, below, _, c, Q) => Q = vx_MQ below (PostR δ ρ0 n0 Qr) (PostX δ ρ0 n0 Qx) args s mc ms (frA δ) ∧ R = { frames := fr, cells := mc, slots := ms, locals := lo } ∧ ∀ x ∈ c.exceptionTable.toList, False
theorem Mt.of {y : MethodName} {b : ByteArray} {nL : Nat} {ret : Option FieldType} {fr lo mc ms : Nat} {as : List AV} {S : ASt} {G : GH} {Qr : Option AV → ASt → GH → Prop} {Qx : String → ASt → GH → Prop} {l0 : AL} (hy : plainName y.cls = true) (hlen : (enL as).length ≤ nL) (hl : enL as ++ List.replicate (nL - (enL as).length) none = l0)
    (body : ∀ (κ : Cx) (δ : Dx) (ρ0 : Nat → Nat), CX κ δ y.cls b nL ret → EndR κ δ ρ0 S.1 fr lo mc ms Qr Qx → GR G → AW κ δ ρ0 S.1 nL 0 0 0 l0 [] S G) : Mt y b nL ret fr lo mc ms as S G Qr Qx := by
  intro lc δ ρ hst
  refine vx_ofW (cc := b) (maxL := nL) (ret := ret) hy rfl ?_
  intro p e s m args below meth c s₁ B hml htab hv
  obtain ⟨rfl, hN, hK, hA, hR⟩ := hv
  have hts0 := atoms_spec (ws := Cond.code y b nL ret :: allW) B.pre
  have X : CX (p, lc, e, (headSpec (Cond.code y b nL ret :: allW) { frames := fr, cells := mc, slots := ms, locals := lo }).room, s, m, (as.map (cv ρ)).toArray, below, meth, c, vx_MQ below (PostR δ ρ S.1 Qr) (PostX δ ρ S.1 Qx) (as.map (cv ρ)).toArray s mc ms (frA δ)) δ y.cls b nL ret :=
    ⟨B.exec, B.bytes, hml, findClass_of_methodNamed B.named, fun w hw => hts0 w (List.mem_cons_of_mem _ hw), B.returns, B.notSynchronized, hK, hN, hA, hst⟩
  have k := body _ δ ρ X ⟨rfl, rfl, htab⟩ hR.2.2.2.1
  rw [lg_entry_eq]
  subst hl
  exact k ρ s.heap [] _ (fun _ _ => rfl) hR va_S.rf (enL_HL hlen)
section CALLS
variable {κ : Cx} {δ : Dx} {own : String} {b : ByteArray} {nL : Nat} {ret : Option FieldType} {ρ0 : Nat → Nat} {n0 cb sb pc fr lo mc ms : Nat} {l : AL} {st : List AV} {S : ASt} {G : GH} {Qr : Option AV → ASt → GH → Prop} {Qx : String → ASt → GH → Prop}
theorem a_ireturn (X : CX κ δ own b nL ret) (E : EndR κ δ ρ0 n0 fr lo mc ms Qr Qx) {ty : FieldType} {v : Int} (hret : ret = some ty) (hn : narrow ty (.int (zI v)) = .int (zI v)) (hc : cb ≤ mc) (hs : sb ≤ ms) (hd : decode b pc = .ok (.ireturn, 1)) (hq : Qr (some (vi v)) S G) : AW κ δ ρ0 n0 nL cb sb pc l [vi v] S G := by
  obtain ⟨p, lc, e, R, s, m, args, below, meth, c, Q⟩ := κ
  obtain ⟨hx, hb, hml, hown, hts, hr, hlk, hK, hN, hA, htr⟩ := X
  obtain ⟨rfl, -, -⟩ := E
  intro ρ H locs ls h1 h2 h3 h4
  refine W.widen hc hs (vx_ret ?_)
  refine W.zret (ty := ty) hx hb (hr.trans hret) hn (fun t ht hW => ?_) (fun q hq => h3.2.2 q hq) hd hlk
  exact ⟨⟨some (vi v), S, G, ρ, rfl, hq, h1, by rw [ht]; exact h2⟩, h3.F ht⟩
theorem a_return (X : CX κ δ own b nL none) (E : EndR κ δ ρ0 n0 fr lo mc ms Qr Qx) (hc : cb ≤ mc) (hs : sb ≤ ms) (hd : decode b pc = .ok (.return_, 1)) (hq : Qr none S G) : AW κ δ ρ0 n0 nL cb sb pc l [] S G := by
  obtain ⟨p, lc, e, R, s, m, args, below, meth, c, Q⟩ := κ
  obtain ⟨hx, hb, hml, hown, hts, hr, hlk, hK, hN, hA, htr⟩ := X
  obtain ⟨rfl, -, -⟩ := E
  intro ρ H locs ls h1 h2 h3 h4
  refine W.widen hc hs (vx_ret ?_)
  refine W.vret hx hb hr (fun t ht hW => ?_) (fun q hq => h3.2.2 q hq) hd hlk
  exact ⟨⟨none, S, G, ρ, rfl, hq, h1, by rw [ht]; exact h2⟩, h3.F ht⟩
theorem a_dreturn (X : CX κ δ own b nL (some .double)) (E : EndR κ δ ρ0 n0 fr lo mc ms Qr Qx) {v : UInt64} (hc : cb ≤ mc) (hs : sb ≤ ms) (hd : decode b pc = .ok (.dreturn, 1)) (hq : Qr (some (vd v)) S G) : AW κ δ ρ0 n0 nL cb sb pc l [vd v] S G := by
  obtain ⟨p, lc, e, R, s, m, args, below, meth, c, Q⟩ := κ
  obtain ⟨hx, hb, hml, hown, hts, hr, hlk, hK, hN, hA, htr⟩ := X
  obtain ⟨rfl, -, -⟩ := E
  intro ρ H locs ls h1 h2 h3 h4
  refine W.widen hc hs (vx_ret ?_)
  refine W.dret hx hb hr (fun t ht hW => ?_) (fun q hq => h3.2.2 q hq) hd hlk
  exact ⟨⟨some (vd v), S, G, ρ, rfl, hq, h1, by rw [ht]; exact h2⟩, h3.F ht⟩
theorem a_freturn (X : CX κ δ own b nL (some .float)) (E : EndR κ δ ρ0 n0 fr lo mc ms Qr Qx) {v : UInt32} (hc : cb ≤ mc) (hs : sb ≤ ms) (hd : decode b pc = .ok (.freturn, 1)) (hq : Qr (some (vf v)) S G) : AW κ δ ρ0 n0 nL cb sb pc l [vf v] S G := by
  obtain ⟨p, lc, e, R, s, m, args, below, meth, c, Q⟩ := κ
  obtain ⟨hx, hb, hml, hown, hts, hr, hlk, hK, hN, hA, htr⟩ := X
  obtain ⟨rfl, -, -⟩ := E
  intro ρ H locs ls h1 h2 h3 h4
  refine W.widen hc hs (vx_ret ?_)
  refine W.fret hx hb hr (fun t ht hW => ?_) (fun q hq => h3.2.2 q hq) hd hlk
  exact ⟨⟨some (vf v), S, G, ρ, rfl, hq, h1, by rw [ht]; exact h2⟩, h3.F ht⟩
end CALLS
section CALLGO
variable {p : Program} {lc : Launch} {e : Env} {R : Room} {s : State} {m : MethodId} {args : Array Value} {below : List Frame} {meth : Method} {c : Code} {H : Heap} {locs : List Loc} {cells slots : Nat} {Q : State → Prop}
variable {δ : Dx} {mc ms pc n1 : Nat} {a : Array Value} {ls : Array Slot} {st0 rest : List Value} {ρ : Nat → Nat} {Qr : Option AV → ASt → GH → Prop} {Qx : String → ASt → GH → Prop}
theorem call_go (hr : vx_Run p lc e R s m args below meth c H locs cells slots mc ms (F0 m pc ls st0) rest (PostR δ ρ n1 Qr a) (PostX δ ρ n1 Qx) (frA δ)) (hS : va_S (frA δ) s.heap H locs)
    (kx : ∀ (E : String) (ce : Cell) (q9 : Addr) (S' : ASt) (G' : GH) (ρ' : Nat → Nat) (H1 : Heap) (locs1 : List Loc), Qx E S' G' → (∀ a, ¬ (n1 ≤ a ∧ a < S'.1) → ρ' a = ρ a) → Rep δ ρ' S' G' H1 → va_S (frA δ) s.heap H1 locs1 → H1[q9]? = some ce → ce.vm = .none → s.vm.findClass E = some ce.cls → vx_W p lc e R s m args below meth c H1 locs1 (cells + mc) (slots + ms) Q (F0 m pc ls rest) q9)
    (kk : ∀ (v : Option AV) (S' : ASt) (G' : GH) (ρ' : Nat → Nat) (H1 : Heap) (locs1 : List Loc), Qr v S' G' → (∀ a, ¬ (n1 ≤ a ∧ a < S'.1) → ρ' a = ρ a) → Rep δ ρ' S' G' H1 → va_S (frA δ) s.heap H1 locs1 → W p lc e R s m args below meth c H1 locs1 (cells + mc) (slots + ms) Q (F0 m (pc + 3) ls ((v.map (cv ρ')).toList ++ rest))) : W p lc e R s m args below meth c H locs cells slots Q (F0 m pc ls st0) := by
  intro T hT X
  rcases hr T hT X with ⟨v, st₀, t, T', L, h0, X', hL, e1, e2, ⟨⟨v', S', G', ρ', hv, hp, hb, hrep⟩, hF⟩, st⟩ | ⟨q, st₀, t, T', L, E, ce, h0, X', hL, e1, e2, ⟨⟨S', G', ρ', hp, hb, hrep⟩, hF⟩, hce, hcv, hcl, st⟩
  · cases hv
    obtain ⟨k1, k2, k3⟩ := vx_keep h0 e1 hS (fun _ _ h => h) (fun _ h => h) hL hF
    obtain ⟨t2, a1, b1⟩ := kk v' S' G' ρ' T'.heap (locs ++ L) hp hb (by rw [e1]; exact hrep) k3 T' rfl X'
    exact ⟨t2, st t2 a1, b1⟩
  · obtain ⟨k1, k2, k3⟩ := vx_keep h0 e1 hS (fun _ _ h => h) (fun _ h => h) hL hF
    obtain ⟨t2, a1, b1⟩ := kx E ce q S' G' ρ' T'.heap (locs ++ L) hp hb (by rw [e1]; exact hrep) k3 (by rw [e1]; exact hce) hcv hcl T' rfl X'
    exact ⟨t2, st.trans a1, b1⟩
end CALLGO
/-- the words under a call: at most 8 -/
def wsum (st : List AV) : Nat := (st.map fun v => if cat2 (some v) then 2 else 1).sum
theorem wsum_ok {ρ : Nat → Nat} : ∀ st : List AV, ((st.map (cv ρ)).map fun v => v.category).sum = wsum st
  | [] => rfl
  | v :: r => by
    have ih := wsum_ok (ρ := ρ) r
    rw [List.map_cons, List.map_cons, List.sum_cons, ih]
    unfold wsum
    rw [List.map_cons, List.sum_cons, cat2_spec (ρ := ρ)]
    rcases lv_cat (cv ρ v) with h | h <;> rw [h] <;> rfl
def pnum (y : MethodName) : Option Nat := (parseMethodDescriptor y.desc).map fun d => d.parameters.length
def clsPlain (y : MethodName) : Prop := y.cls ≠ "java/lang/invoke/MethodHandle" ∧ y.cls ≠ "java/lang/invoke/VarHandle"
/-- all that a call's linking asks of the tables -/
theorem goodA {w : Cond} (h : w ∈ allW) : (w.onTables && w.keeps) = true ∨ ∃ ty, w = .arrayClass ty := good_of_word (allW_good w h)
theorem payA {args : Array Value} {s : State} (hts : ∀ w ∈ allW, w.before args s = true) {y : MethodName} {b' : ByteArray} {nL' : Nat} {ret' : Option FieldType} (hcode : Cond.code y b' nL' ret' ∈ allW) : ∀ w ∈ (Cond.code y b' nL' ret' :: allW), ∀ (a' : Array Value) (U : State), s.WarmedH U.vm → w.before a' U = true := by
  have h1 : ∀ w ∈ (Cond.code y b' nL' ret' :: allW), w ∈ allW := fun w h => (List.mem_cons.mp h).elim (fun e => e ▸ hcode) (fun h => h)
  exact fun w hw a' U hW => word_at hW (goodA (h1 w hw)) (hts w (h1 w hw))
theorem pnum_len {y : MethodName} {n : Nat} (h : pnum y = some n) : ∀ sig, parseMethodDescriptor y.desc = some sig → n = sig.parameters.length := by
  intro sig hs
  unfold pnum at h
  rw [hs] at h
  exact (Option.some.inj h).symm
section CALLR
variable {κ : Cx} {δ : Dx} {own : String} {b : ByteArray} {nL : Nat} {ret : Option FieldType} {ρ0 : Nat → Nat} {n0 cb sb pc fr lo mc ms : Nat} {l : AL} {st stk : List AV} {S : ASt} {G : GH} {Qr Qr' : Option AV → ASt → GH → Prop} {Qx Qx' : String → ASt → GH → Prop}
variable {y : MethodName} {b' : ByteArray} {nL' : Nat} {ret' : Option FieldType} {fr' lo' mc' ms' : Nat} {as : List AV}
/-- what is done with a callee that keeps the abstract addresses: its throw leaves this method too -/
theorem after_call (X : CX κ δ own b nL ret) (E : EndR κ δ ρ0 n0 fr lo mc ms Qr Qx) {p : Program} {lc : Launch} {e : Env} {R : Room} {s : State} {m : MethodId} {args : Array Value} {below : List Frame} {meth : Method} {c : Code} {Q : State → Prop} (hκ : κ = (p, lc, e, R, s, m, args, below, meth, c, Q))
    {H : Heap} {locs : List Loc} {ls : Array Slot} {ρ : Nat → Nat} {a : Array Value} {st0 : List Value} (hext : ∀ a, ¬ (n0 ≤ a ∧ a < S.1) → ρ a = ρ0 a) (hS : va_S (frA δ) s.heap H locs) (hL : HL ρ nL l ls)
    (hr : vx_Run p lc e R s m args below meth c H locs cb sb mc' ms' (F0 m pc ls st0) (st.map (cv ρ)) (PostR δ ρ S.1 (fun v S' G' => S' = S ∧ Qr' v S' G') a) (PostX δ ρ S.1 (fun E S' G' => S' = S ∧ Qx' E S' G')) (frA δ))
    (hc : cb + mc' ≤ mc ∧ sb + ms' ≤ ms) (kx : ∀ E G', Qx' E S G' → Qx E S G')
    (kk : ∀ v G', Qr' v S G' → GR G' → AW κ δ ρ0 n0 nL (cb + mc') (sb + ms') (pc + 3) l (v.toList ++ st) S G') : W p lc e R s m args below meth c H locs cb sb Q (F0 m pc ls st0) := by
  subst hκ
  obtain ⟨hx, hb, hml, hown, hts, hret, hlk, hK, hN, hA, htr⟩ := X
  obtain ⟨rfl, hR, htab⟩ := E
  refine call_go hr hS ?_ ?_
  · intro E ce q9 S' G' ρ' H1 locs1 hq he hrep hS1 hce hcv hcl
    obtain ⟨rfl, hq⟩ := hq
    have hρ : ρ' = ρ := funext fun a => he a (by omega)
    subst hρ
    refine vx_out (fun x hx => (htab x hx).elim) hlk hce hcv hcl (fun t ht hv => ?_) (fun z hz => hS1.2.2 z hz) hc.1 hc.2
    exact ⟨⟨S', G', ρ', kx _ _ hq, hext, by rw [ht]; exact hrep⟩, hS1.F ht⟩
  · intro v S' G' ρ' H1 locs1 hq he hrep hS1
    obtain ⟨rfl, hq⟩ := hq
    have hρ : ρ' = ρ := funext fun a => he a (by omega)
    subst hρ
    have k := kk v G' hq hrep.2.2.2.1 ρ' H1 locs1 ls hext hrep hS1 hL
    rw [List.map_append] at k
    cases v <;> exact k
theorem a_callV (X : CX κ δ own b nL ret) (E : EndR κ δ ρ0 n0 fr lo mc ms Qr Qx) {C : String} {T : u_T} {N ci idx a : Nat} {ty : Nat → FieldType} (M : Mt y b' nL' ret' fr' lo' mc' ms' (vr a :: as) S G (fun v S' G' => S' = S ∧ Qr' v S' G') (fun E S' G' => S' = S ∧ Qx' E S' G'))
    (hc : ClsOK ci C T N ty) (ha : isAt S a (.inr ci)) (hl : Cond.methodLink own idx y ∈ allW) (hi : Cond.instanceMethod y ∈ allW) (hs : Cond.selects C y y ∈ allW) (hini : Cond.initialized y.cls ∈ allW) (hcode : Cond.code y b' nL' ret' ∈ allW) (hy : clsPlain y) (hn : pnum y = some as.length)
    (hstk : as.reverse ++ vr a :: st = stk) (hw : wsum st ≤ 8) (hr : fr' + 1 ≤ fr ∧ 8 + (nL' + 11) + lo' ≤ lo) (hm : cb + mc' ≤ mc ∧ sb + ms' ≤ ms) (hd : decode b pc = .ok (.invokevirtual idx, 3))
    (kx : ∀ E G', Qx' E S G' → Qx E S G') (kk : ∀ v G', Qr' v S G' → GR G' → AW κ δ ρ0 n0 nL (cb + mc') (sb + ms') (pc + 3) l (v.toList ++ st) S G') : AW κ δ ρ0 n0 nL cb sb pc l stk S G := by
  obtain ⟨p, lc, e, R, s, m, args, below, meth, c, Q⟩ := κ
  have X0 := X
  have E0 := E
  obtain ⟨hx, hb, hml, hown, hts, hret, hlk, hK, hN, hA, htr⟩ := X
  obtain ⟨-, rfl, -⟩ := E
  intro ρ H locs ls h1 h2 h3 h4
  subst hstk
  refine after_call X0 E0 rfl h1 h3 h4 (a := (Value.ref (ρ a) :: as.map (cv ρ)).toArray) ?_ hm kx kk
  refine vx_runV (As := as.map (cv ρ)) (n := as.length) ⟨hx, hb, hml, hown, hts⟩ (M lc δ ρ htr)
    ⟨⟨rfl, rfl, hr.1, hr.2, payA hts hcode, List.mem_cons_self, hts _ hcode, hts _ hini, hy, pnum_len hn, hts _ hl⟩, hts _ hi, hts _ hs⟩
    ⟨PreA.blind, va_recv hK h2.1 hc.1 (wl_obj ha), fun U hU hW => ⟨rfl, by rw [hU]; exact Nat.le_trans hN h3.1, va_K.moved hW.alike hK, ?_, by rw [hU]; exact h2⟩⟩ rfl (by simp) h4.2.1 ?_ ?_ hd ⟨hm.1, hm.2⟩
  · rw [hU]; exact hA.move hW h3.2.1
  · show List.map (cv ρ) (as.reverse ++ vr a :: st) = _
    rw [List.map_append, List.map_reverse]; rfl
  · exact lv_room (by rw [wsum_ok]; exact hw)
theorem a_callS (X : CX κ δ own b nL ret) (E : EndR κ δ ρ0 n0 fr lo mc ms Qr Qx) {idx : Nat} (M : Mt y b' nL' ret' fr' lo' mc' ms' as S G (fun v S' G' => S' = S ∧ Qr' v S' G') (fun E S' G' => S' = S ∧ Qx' E S' G'))
    (hl : Cond.methodLink own idx y ∈ allW) (hs : Cond.static y ∈ allW) (hini : Cond.initialized y.cls ∈ allW) (hcode : Cond.code y b' nL' ret' ∈ allW) (hy : clsPlain y) (hn : pnum y = some as.length)
    (hstk : as.reverse ++ st = stk) (hw : wsum st ≤ 8) (hr : fr' + 1 ≤ fr ∧ 8 + (nL' + 11) + lo' ≤ lo) (hm : cb + mc' ≤ mc ∧ sb + ms' ≤ ms) (hd : decode b pc = .ok (.invokestatic idx, 3))
    (kx : ∀ E G', Qx' E S G' → Qx E S G') (kk : ∀ v G', Qr' v S G' → GR G' → AW κ δ ρ0 n0 nL (cb + mc') (sb + ms') (pc + 3) l (v.toList ++ st) S G') : AW κ δ ρ0 n0 nL cb sb pc l stk S G := by
  obtain ⟨p, lc, e, R, s, m, args, below, meth, c, Q⟩ := κ
  have X0 := X
  have E0 := E
  obtain ⟨hx, hb, hml, hown, hts, hret, hlk, hK, hN, hA, htr⟩ := X
  obtain ⟨-, rfl, -⟩ := E
  intro ρ H locs ls h1 h2 h3 h4
  subst hstk
  refine after_call X0 E0 rfl h1 h3 h4 (a := (as.map (cv ρ)).toArray) ?_ hm kx kk
  refine vx_runS (As := as.map (cv ρ)) (n := as.length) ⟨hx, hb, hml, hown, hts⟩ (M lc δ ρ htr)
    ⟨⟨rfl, rfl, hr.1, hr.2, payA hts hcode, List.mem_cons_self, hts _ hcode, hts _ hini, hy, pnum_len hn, hts _ hl⟩, hts _ hs⟩
    ⟨PreA.blind, fun U hU hW => ⟨rfl, by rw [hU]; exact Nat.le_trans hN h3.1, va_K.moved hW.alike hK, ?_, by rw [hU]; exact h2⟩⟩ rfl (by simp) h4.2.1 ?_ ?_ hd ⟨hm.1, hm.2⟩
  · rw [hU]; exact hA.move hW h3.2.1
  · show List.map (cv ρ) (as.reverse ++ st) = _
    rw [List.map_append, List.map_reverse]
  · exact lv_room (by rw [wsum_ok]; exact hw)
/-- a private static method of a nest mate -/
theorem a_callSN (X : CX κ δ own b nL ret) (E : EndR κ δ ρ0 n0 fr lo mc ms Qr Qx) {idx : Nat} {host : String} (M : Mt y b' nL' ret' fr' lo' mc' ms' as S G (fun v S' G' => S' = S ∧ Qr' v S' G') (fun E S' G' => S' = S ∧ Qx' E S' G'))
    (hl : (own, idx, y, host) ∈ nestW) (hs : Cond.static y ∈ allW) (hini : Cond.initialized y.cls ∈ allW) (hcode : Cond.code y b' nL' ret' ∈ allW) (hy : clsPlain y) (hn : pnum y = some as.length)
    (hstk : as.reverse ++ st = stk) (hw : wsum st ≤ 8) (hr : fr' + 1 ≤ fr ∧ 8 + (nL' + 11) + lo' ≤ lo) (hm : cb + mc' ≤ mc ∧ sb + ms' ≤ ms) (hd : decode b pc = .ok (.invokestatic idx, 3))
    (kx : ∀ E G', Qx' E S G' → Qx E S G') (kk : ∀ v G', Qr' v S G' → GR G' → AW κ δ ρ0 n0 nL (cb + mc') (sb + ms') (pc + 3) l (v.toList ++ st) S G') : AW κ δ ρ0 n0 nL cb sb pc l stk S G := by
  obtain ⟨p, lc, e, R, s, m, args, below, meth, c, Q⟩ := κ
  have X0 := X
  have E0 := E
  obtain ⟨hx, hb, hml, hown, hts, hret, hlk, hK, hN, hA, htr⟩ := X
  obtain ⟨-, rfl, -⟩ := E
  intro ρ H locs ls h1 h2 h3 h4
  subst hstk
  refine after_call X0 E0 rfl h1 h3 h4 (a := (as.map (cv ρ)).toArray) ?_ hm kx kk
  refine vx_runSN (host := host) (As := as.map (cv ρ)) (n := as.length) ⟨hx, hb, hml, hown, hts⟩ (M lc δ ρ htr)
    ⟨⟨⟨rfl, rfl, hr.1, hr.2, payA hts hcode, List.mem_cons_self⟩, hts _ hcode, hts _ hini, hy, pnum_len hn, va_Nw.use rfl (hA.2.2.2.2.2.2.1 _ hl)⟩, hts _ hs, trivial⟩
    ⟨PreA.blind, fun U hU hW => ⟨rfl, by rw [hU]; exact Nat.le_trans hN h3.1, va_K.moved hW.alike hK, ?_, by rw [hU]; exact h2⟩⟩ rfl (by simp) h4.2.1 ?_ ?_ hd ⟨hm.1, hm.2⟩
  · rw [hU]; exact hA.move hW h3.2.1
  · show List.map (cv ρ) (as.reverse ++ st) = _
    rw [List.map_append, List.map_reverse]
  · exact lv_room (by rw [wsum_ok]; exact hw)
end CALLR

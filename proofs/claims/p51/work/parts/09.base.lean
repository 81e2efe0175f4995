-- ===== THE WORDS OF THIS PROOF: abstract values (ints as Int), an abstract heap with addresses of its own, AW: the kit's W over all concrete heaps that hold the abstract one =====
abbrev AV : Type := Int ⊕ (Int ⊕ (Option Nat ⊕ (UInt64 ⊕ UInt32)))
def vi (x : Int) : AV := .inl x
def vl (x : Int) : AV := .inr (.inl x)
def vq (a : Option Nat) : AV := .inr (.inr (.inl a))
def vd (x : UInt64) : AV := .inr (.inr (.inr (.inl x)))
def vf (x : UInt32) : AV := .inr (.inr (.inr (.inr x)))
abbrev vr (a : Nat) : AV := vq (some a)
def zI (x : Int) : Int32 := Int32.ofInt x
def zL (x : Int) : Int64 := Int64.ofInt x
def cv (ρ : Nat → Nat) : AV → Value
  | .inl x => .int (zI x)
  | .inr (.inl x) => .long (zL x)
  | .inr (.inr (.inl a)) => va_rf (a.map ρ)
  | .inr (.inr (.inr (.inl x))) => .double x
  | .inr (.inr (.inr (.inr x))) => .float x
abbrev inR (x : Int) : Prop := -2147483648 ≤ x ∧ x ≤ 2147483647
abbrev inL (x : Int) : Prop := -9223372036854775808 ≤ x ∧ x ≤ 9223372036854775807
theorem zI_toInt {x : Int} (h : inR x) : (zI x).toInt = x := by
  obtain ⟨h1, h2⟩ := h
  exact Int32.toInt_ofInt_of_le (by omega) (by omega)
theorem zL_toInt {x : Int} (h : inL x) : (zL x).toInt = x := by
  obtain ⟨h1, h2⟩ := h
  exact Int64.toInt_ofInt_of_le (by omega) (by omega)
theorem zI_of (x : Int32) : zI x.toInt = x := Int32.ofInt_toInt x
theorem zL_of (x : Int64) : zL x.toInt = x := Int64.ofInt_toInt x
theorem inR_toInt (x : Int32) : inR x.toInt := ⟨by have := Int32.le_toInt x; omega, by have := Int32.toInt_lt x; omega⟩
theorem inL_toInt (x : Int64) : inL x.toInt := ⟨by have := Int64.le_toInt x; omega, by have := Int64.toInt_lt x; omega⟩
theorem zI_add (x y : Int) : zI (x + y) = zI x + zI y := Int32.ofInt_add x y
theorem zI_sub (x y : Int) : zI (x - y) = zI x - zI y := Int32.ofInt_sub x y
theorem zI_mul (x y : Int) : zI (x * y) = zI x * zI y := Int32.ofInt_mul x y
theorem zI_neg (x : Int) : zI (-x) = -zI x := Int32.ofInt_neg x
theorem zL_add (x y : Int) : zL (x + y) = zL x + zL y := Int64.ofInt_add x y
theorem zL_sub (x y : Int) : zL (x - y) = zL x - zL y := Int64.ofInt_sub x y
theorem zL_mul (x y : Int) : zL (x * y) = zL x * zL y := Int64.ofInt_mul x y
theorem zI_lt {x y : Int} (hx : inR x) (hy : inR y) : zI x < zI y ↔ x < y := by rw [Int32.lt_iff_toInt_lt, zI_toInt hx, zI_toInt hy]
theorem zI_le {x y : Int} (hx : inR x) (hy : inR y) : zI x ≤ zI y ↔ x ≤ y := by rw [Int32.le_iff_toInt_le, zI_toInt hx, zI_toInt hy]
theorem zI_eq {x y : Int} (hx : inR x) (hy : inR y) : zI x = zI y ↔ x = y := by rw [← Int32.toInt_inj, zI_toInt hx, zI_toInt hy]
theorem zL_lt {x y : Int} (hx : inL x) (hy : inL y) : zL x < zL y ↔ x < y := by rw [Int64.lt_iff_toInt_lt, zL_toInt hx, zL_toInt hy]
theorem zL_eq {x y : Int} (hx : inL x) (hy : inL y) : zL x = zL y ↔ x = y := by rw [← Int64.toInt_inj, zL_toInt hx, zL_toInt hy]
theorem zI_0 : zI 0 = 0 := rfl
theorem inR_inL {x : Int} (h : inR x) : inL x := ⟨by have := h.1; omega, by have := h.2; omega⟩
theorem zI_ix {x : Int} {n : Nat} (h0 : 0 ≤ x) (h1 : x < n) (hn : n < 2147483648) : vp_in (zI x) n := by
  rw [vp_in_iff, zI_toInt ⟨by omega, by omega⟩]
  exact ⟨h0, h1⟩
theorem zI_cl {x : Int} (h : inR x) : (zI x).toNatClampNeg = x.toNat := by
  show (zI x).toInt.toNat = _
  rw [zI_toInt h]
-- the abstract heap
abbrev Sh : Type := (Nat × Nat) ⊕ Nat
abbrev ASt : Type := Nat × (Nat → Sh) × (Nat → Nat → Option Nat)
abbrev GH : Type := Nat → Nat → Int
def isAt (S : ASt) (a : Nat) (h : Sh) : Prop := a < S.1 ∧ S.2.1 a = h
/-- the fields' kinds of each class: 0 a number or a boolean, 1 a reference -/
def fk : Nat → List Nat
  | 0 => [0, 1, 1, 1, 1, 1]
  | 1 => [1, 0, 0]
  | 2 => [0, 1, 1, 1, 1, 1, 1, 1, 1]
  | 3 => [1, 0]
  | 4 => [1, 0, 0, 0]
  | 5 => [1, 0, 0, 0, 0, 0, 0, 0, 0, 0, 1]
  | 6 => [0, 1, 1]
  | 7 => [0, 1, 0, 1, 1, 1, 0, 0, 0, 0]
  | 8 => [0, 0, 1, 1, 1, 0, 1, 1, 0, 1, 1, 1]
  | 9 => [1, 1, 1, 1, 1, 1, 1, 1, 1, 1]
  | 10 => [1, 0, 0, 0]
  | 11 => [1, 0, 0, 0]
  | _ => []
def fvals (ρ : Nat → Nat) (S : ASt) (G : GH) (a ci : Nat) : List Value := (fk ci).mapIdx fun k kd => if kd = 0 then .int (zI (G a k)) else va_rf ((S.2.2 a k).map ρ)
def avals (dA : Nat → ClassId) (ρ : Nat → Nat) (S : ASt) (G : GH) (a t n : Nat) : va_E :=
  if t = 3 then .inl (dA t, n, .inr (.inl fun j => zL (G a j))) else if t = 4 then .inl (dA t, n, .inr (.inr (.inr (.inr fun j => (S.2.2 a j).map ρ)))) else .inl (dA t, n, .inl fun j => zI (G a j))
def cellOf (dA : Nat → ClassId) (ρ : Nat → Nat) (S : ASt) (G : GH) (a : Nat) : va_E := match S.2.1 a with
  | .inr ci => .inr (ci, fvals ρ S G a ci)
  | .inl (t, n) => avals dA ρ S G a t n
def wl (dA : Nat → ClassId) (ρ : Nat → Nat) (S : ASt) (G : GH) : va_W := (List.range S.1).map fun a => (ρ a, cellOf dA ρ S G a)
theorem wl_at {dA : Nat → ClassId} {ρ : Nat → Nat} {S : ASt} {G : GH} {a : Nat} (h : a < S.1) : (wl dA ρ S G)[a]? = some (ρ a, cellOf dA ρ S G a) := by
  simp [wl, List.getElem?_map, List.getElem?_range h]
theorem wl_obj {dA : Nat → ClassId} {ρ : Nat → Nat} {S : ASt} {G : GH} {a ci : Nat} (h : isAt S a (.inr ci)) : (wl dA ρ S G)[a]? = some (ρ a, .inr (ci, fvals ρ S G a ci)) := by
  rw [wl_at h.1, cellOf, h.2]
theorem wl_arr {dA : Nat → ClassId} {ρ : Nat → Nat} {S : ASt} {G : GH} {a t n : Nat} (h : isAt S a (.inl (t, n))) : (wl dA ρ S G)[a]? = some (ρ a, avals dA ρ S G a t n) := by
  rw [wl_at h.1, cellOf, h.2]
theorem wl_int {dA : Nat → ClassId} {ρ : Nat → Nat} {S : ASt} {G : GH} {a t n : Nat} (h : isAt S a (.inl (t, n))) (ht : t < 3) : (wl dA ρ S G)[a]? = some (ρ a, .inl (dA t, n, .inl fun j => zI (G a j))) := by
  rw [wl_arr h, avals, if_neg (by omega), if_neg (by omega)]
theorem wl_long {dA : Nat → ClassId} {ρ : Nat → Nat} {S : ASt} {G : GH} {a n : Nat} (h : isAt S a (.inl (3, n))) : (wl dA ρ S G)[a]? = some (ρ a, .inl (dA 3, n, .inr (.inl fun j => zL (G a j)))) := by
  rw [wl_arr h, avals, if_pos rfl]
theorem wl_refs {dA : Nat → ClassId} {ρ : Nat → Nat} {S : ASt} {G : GH} {a n : Nat} (h : isAt S a (.inl (4, n))) : (wl dA ρ S G)[a]? = some (ρ a, .inl (dA 4, n, .inr (.inr (.inr (.inr fun j => (S.2.2 a j).map ρ))))) := by
  rw [wl_arr h, avals, if_neg (by decide), if_pos rfl]
theorem fvals_get {ρ : Nat → Nat} {S : ASt} {G : GH} {a ci k kd : Nat} (h : (fk ci)[k]? = some kd) : (fvals ρ S G a ci)[k]? = some (if kd = 0 then .int (zI (G a k)) else va_rf ((S.2.2 a k).map ρ)) := by
  simp [fvals, List.getElem?_mapIdx, h]
/-- a number is put at the place k of the cell a -/
def upG (G : GH) (a k : Nat) (v : Int) : GH := fun a' k' => if a' = a ∧ k' = k then v else G a' k'
theorem upG_same (G : GH) (a k : Nat) (v : Int) : upG G a k v a k = v := by simp [upG]
theorem upG_ne {G : GH} {a k a' k' : Nat} {v : Int} (h : ¬ (a' = a ∧ k' = k)) : upG G a k v a' k' = G a' k' := by simp [upG, h]
theorem upG_na {G : GH} {a k a' k' : Nat} {v : Int} (h : a' ≠ a) : upG G a k v a' k' = G a' k' := by simp [upG, h]
theorem upG_nk {G : GH} {a k a' k' : Nat} {v : Int} (h : k' ≠ k) : upG G a k v a' k' = G a' k' := by simp [upG, h]
def GR (G : GH) : Prop := ∀ a k, inR (G a k)
theorem GR.up {G : GH} {a k : Nat} {v : Int} (h : GR G) (hv : inR v) : GR (upG G a k v) := by
  intro a' k'
  unfold upG
  split
  · exact hv
  · exact h _ _
theorem cellOf_other {dA : Nat → ClassId} {ρ : Nat → Nat} {S : ASt} {G G' : GH} {a : Nat} (h : ∀ k, G' a k = G a k) : cellOf dA ρ S G' a = cellOf dA ρ S G a := by
  have h2 : G' a = G a := funext h
  unfold cellOf
  cases S.2.1 a with
  | inr ci => simp [fvals, h2]
  | inl q => simp [avals, h2]
theorem wl_set {dA : Nat → ClassId} {ρ : Nat → Nat} {S : ASt} {G G' : GH} {a : Nat} {e : va_E} (ha : a < S.1) (he : cellOf dA ρ S G' a = e) (h : ∀ a', a' ≠ a → ∀ k, G' a' k = G a' k) : wl dA ρ S G' = (wl dA ρ S G).set a (ρ a, e) := by
  apply List.ext_getElem?
  intro i
  rw [List.getElem?_set]
  by_cases hi : a = i
  · subst hi
    have hl : a < (wl dA ρ S G).length := by simp [wl, ha]
    rw [if_pos rfl, if_pos hl, wl_at ha, he]
  · rw [if_neg hi]
    by_cases hn : i < S.1
    · rw [wl_at hn, wl_at hn, cellOf_other (fun k => h i (fun e => hi e.symm) k)]
    · rw [List.getElem?_eq_none (by simp [wl]; omega), List.getElem?_eq_none (by simp [wl]; omega)]
theorem wl_putI {dA : Nat → ClassId} {ρ : Nat → Nat} {S : ASt} {G : GH} {a ci k : Nat} {v : Int} (h : isAt S a (.inr ci)) (hf : (fk ci)[k]? = some 0) : wl dA ρ S (upG G a k v) = (wl dA ρ S G).set a (ρ a, .inr (ci, (fvals ρ S G a ci).set k (.int (zI v)))) := by
  refine wl_set h.1 ?_ (fun a' ha' k' => upG_na ha')
  have e : cellOf dA ρ S (upG G a k v) a = .inr (ci, fvals ρ S (upG G a k v) a ci) := by rw [cellOf, h.2]
  rw [e]
  congr 2
  apply List.ext_getElem?
  intro i
  rw [List.getElem?_set]
  have hk : k < (fvals ρ S G a ci).length := by
    have := (List.getElem?_eq_some_iff.mp hf).1
    simpa [fvals] using this
  by_cases hi : k = i
  · subst hi
    rw [if_pos rfl, if_pos hk, fvals_get hf]
    simp [upG_same]
  · rw [if_neg hi]
    simp only [fvals, List.getElem?_mapIdx]
    cases (fk ci)[i]? with
    | none => rfl
    | some kd => simp [upG_nk (G := G) (a := a) (a' := a) (v := v) (fun e => hi e.symm)]
theorem wl_putA {dA : Nat → ClassId} {ρ : Nat → Nat} {S : ASt} {G : GH} {a t n k : Nat} {v : Int} (h : isAt S a (.inl (t, n))) (ht : t < 3) : wl dA ρ S (upG G a k v) = (wl dA ρ S G).set a (ρ a, .inl (dA t, n, .inl (upd (fun j => zI (G a j)) k (zI v)))) := by
  refine wl_set h.1 ?_ (fun a' ha' k' => upG_na ha')
  rw [cellOf, h.2]
  show avals _ _ _ _ _ _ _ = _
  rw [avals, if_neg (by omega), if_neg (by omega)]
  congr 4
  funext j
  unfold upd
  by_cases hj : j = k
  · subst hj; simp [upG_same]
  · simp [upG_nk hj, hj]
theorem wl_putL {dA : Nat → ClassId} {ρ : Nat → Nat} {S : ASt} {G : GH} {a n k : Nat} {v : Int} (h : isAt S a (.inl (3, n))) : wl dA ρ S (upG G a k v) = (wl dA ρ S G).set a (ρ a, .inl (dA 3, n, .inr (.inl (vp_updL (fun j => zL (G a j)) k (zL v))))) := by
  refine wl_set h.1 ?_ (fun a' ha' k' => upG_na ha')
  rw [cellOf, h.2]
  show avals _ _ _ _ _ _ _ = _
  rw [avals, if_pos rfl]
  congr 5
  funext j
  unfold vp_updL
  by_cases hj : j = k
  · subst hj; simp [upG_same]
  · simp [upG_nk hj, hj]
-- locals
abbrev AL : Type := List (Option AV)
def HL (ρ : Nat → Nat) (n : Nat) (l : AL) (ls : Array Slot) : Prop := l.length = n ∧ ls.size = n ∧ lv_wf ls ∧ ∀ (i : Nat) (v : AV), l[i]? = some (some v) → ls[i]? = some (.val (cv ρ v))
def cat2 : Option AV → Bool
  | some (.inr (.inl _)) => true
  | some (.inr (.inr (.inr (.inl _)))) => true
  | _ => false
/-- the place ahead of i holds no number of two words -/
def okP (l : AL) (i : Nat) : Bool := i == 0 || !(cat2 (l.getD (i - 1) none))
theorem cat2_spec {ρ : Nat → Nat} {v : AV} : cat2 (some v) = decide ((cv ρ v).category = 2) := by
  match v with
  | .inl x => rfl
  | .inr (.inl x) => rfl
  | .inr (.inr (.inl none)) => rfl
  | .inr (.inr (.inl (some a))) => rfl
  | .inr (.inr (.inr (.inl x))) => rfl
  | .inr (.inr (.inr (.inr x))) => rfl
def prs (ρ : Nat → Nat) (l : AL) : List (Nat × Value) := (l.zipIdx.filterMap fun q => q.1.map fun v => (q.2, cv ρ v))
theorem prs_mem {ρ : Nat → Nat} {l : AL} {q : Nat × Value} : q ∈ prs ρ l ↔ ∃ v, l[q.1]? = some (some v) ∧ q.2 = cv ρ v := by
  unfold prs
  rw [List.mem_filterMap]
  constructor
  · rintro ⟨⟨o, i⟩, h1, h2⟩
    rw [List.mem_zipIdx_iff_getElem?] at h1
    cases o with
    | none => simp at h2
    | some v =>
      simp only [Option.map_some, Option.some.injEq] at h2
      subst h2
      exact ⟨v, h1, rfl⟩
  · rintro ⟨v, h1, h2⟩
    refine ⟨(some v, q.1), ?_, ?_⟩
    · rw [List.mem_zipIdx_iff_getElem?]; exact h1
    · simp only [Option.map_some, Option.some.injEq]
      rw [← h2]
theorem HL.has {ρ : Nat → Nat} {n : Nat} {l : AL} {ls : Array Slot} (h : HL ρ n l ls) : lv_has ls n (prs ρ l) := by
  refine ⟨h.2.1, h.2.2.1, fun q hq => ?_⟩
  obtain ⟨v, h1, h2⟩ := prs_mem.mp hq
  rw [h2]
  exact h.2.2.2 _ _ h1
theorem HL.set1 {ρ : Nat → Nat} {n i : Nat} {l : AL} {ls ls' : Array Slot} {v : AV} (h : HL ρ n l ls) (hi : i < n) (ho : okP l i = true)
    (h' : lv_has ls' n ((i, cv ρ v) :: (prs ρ l).filter (fun q => !(q.1 == i) && !(q.1 + 1 == i && q.2.category == 2)))) : HL ρ n (l.set i (some v)) ls' := by
  refine ⟨by simp [h.1], h'.1, h'.2.1, fun j w hj => ?_⟩
  rw [List.getElem?_set] at hj
  by_cases hij : i = j
  · subst hij
    rw [if_pos rfl, if_pos (by rw [h.1]; exact hi)] at hj
    cases hj
    exact h'.2.2 _ List.mem_cons_self
  · rw [if_neg hij] at hj
    refine h'.2.2 (j, cv ρ w) (List.mem_cons_of_mem _ ?_)
    rw [List.mem_filter]
    refine ⟨prs_mem.mpr ⟨w, hj, rfl⟩, ?_⟩
    simp only [Bool.and_eq_true, Bool.not_eq_true', beq_eq_false_iff_ne, ne_eq, Bool.and_eq_false_iff]
    refine ⟨fun e => hij e.symm, ?_⟩
    by_cases hj1 : j + 1 = i
    · right
      subst hj1
      have hc : cat2 (some w) = false := by
        simp only [okP, Nat.add_sub_cancel, List.getD_eq_getElem?_getD, hj, Option.getD_some] at ho
        simpa using ho
      rw [cat2_spec (ρ := ρ)] at hc
      simpa using hc
    · left; simpa using hj1
theorem HL.set2 {ρ : Nat → Nat} {n i : Nat} {l : AL} {ls ls' : Array Slot} {v : AV} (h : HL ρ n l ls) (hi : i + 1 < n) (ho : okP l i = true)
    (h' : lv_has ls' n ((i, cv ρ v) :: (prs ρ l).filter (fun q => !(q.1 == i) && (!(q.1 == i + 1) && !(q.1 + 1 == i && q.2.category == 2))))) : HL ρ n ((l.set i (some v)).set (i + 1) none) ls' := by
  refine ⟨by simp [h.1], h'.1, h'.2.1, fun j w hj => ?_⟩
  rw [List.getElem?_set] at hj
  by_cases hij1 : i + 1 = j
  · subst hij1
    rw [if_pos rfl] at hj
    split at hj <;> cases hj
  · rw [if_neg hij1, List.getElem?_set] at hj
    by_cases hij : i = j
    · subst hij
      rw [if_pos rfl, if_pos (by rw [h.1]; omega)] at hj
      cases hj
      exact h'.2.2 _ List.mem_cons_self
    · rw [if_neg hij] at hj
      refine h'.2.2 (j, cv ρ w) (List.mem_cons_of_mem _ ?_)
      rw [List.mem_filter]
      refine ⟨prs_mem.mpr ⟨w, hj, rfl⟩, ?_⟩
      simp only [Bool.and_eq_true, Bool.not_eq_true', beq_eq_false_iff_ne, ne_eq, Bool.and_eq_false_iff]
      refine ⟨fun e => hij e.symm, fun e => hij1 e.symm, ?_⟩
      by_cases hj1 : j + 1 = i
      · right
        subst hj1
        have hc : cat2 (some w) = false := by
          simp only [okP, Nat.add_sub_cancel, List.getD_eq_getElem?_getD, hj, Option.getD_some] at ho
          simpa using ho
        rw [cat2_spec (ρ := ρ)] at hc
        simpa using hc
      · left; simpa using hj1
-- ===== the context of a method's body =====
abbrev Dx : Type := (Nat → ClassId) × (Nat → Nat → Nat) × (Nat → ClassId) × Nat × (Nat → Nat) × (Nat → Nat) × Nat × Nat × (Nat → Int32) × Nat × Nat
/-- the String constants' objects, their bytes; the script: where, how long, what; the tables of digits -/
abbrev dKK (δ : Dx) : Nat → Nat := δ.2.2.2.2.1
abbrev dVV (δ : Dx) : Nat → Nat := δ.2.2.2.2.2.1
abbrev dSb (δ : Dx) : Nat := δ.2.2.2.2.2.2.1
abbrev dSL (δ : Dx) : Nat := δ.2.2.2.2.2.2.2.1
abbrev dSx (δ : Dx) : Nat → Int32 := δ.2.2.2.2.2.2.2.2.1
abbrev dT1 (δ : Dx) : Nat := δ.2.2.2.2.2.2.2.2.2.1
abbrev dT2 (δ : Dx) : Nat := δ.2.2.2.2.2.2.2.2.2.2
def dgO (j : Nat) : Int := 48 + ((j % 10 : Nat) : Int)
def dgT (j : Nat) : Int := 48 + ((j / 10 : Nat) : Int)
def tysL (dA : Nat → ClassId) : List (ClassId × FieldType) := [(dA 0, .int), (dA 1, .boolean), (dA 2, .byte), (dA 3, .byte), (dA 4, .object RX7)]
/-- the String constants: the text and its bytes; the constant i has the abstract address 1000000 + i -/
def strB : Nat := 1000000
def strL : List Nat := [5, 4, 5, 4, 4, 6, 7, 6, 5, 0, 6, 6, 6, 8, 9]
def strT : List (List Int32) := [[98, 111, 97, 114, 100], [116, 117, 114, 110], [115, 112, 108, 105, 116], [99, 97, 114, 100], [98, 97, 99, 107], [102, 114, 105, 101, 110, 100], [115, 101, 114, 118, 105, 99, 101], [98, 111, 97, 114, 100, 32], [32, 116, 117, 114, 110], [], [32, 115, 112, 108, 105, 116], [59, 99, 97, 114, 100, 32], [32, 98, 97, 99, 107, 32], [59, 102, 114, 105, 101, 110, 100, 32], [59, 115, 101, 114, 118, 105, 99, 101, 32]]
def strR : List (String × Nat × String × Nat) := [("HymnBoards$Reader", 93, "board", 0), ("HymnBoards$Reader", 108, "turn", 1), ("HymnBoards$Reader", 115, "split", 2), ("HymnBoards$Reader", 64, "card", 3), ("HymnBoards$Reader", 122, "back", 4), ("HymnBoards$Reader", 78, "friend", 5), ("HymnBoards$Reader", 83, "service", 6), ("HymnBoardsLaw", 35, "board ", 7), ("HymnBoardsLaw", 52, " turn", 8), ("HymnBoardsLaw", 54, "", 9), ("HymnBoardsLaw", 59, " split", 10), ("HymnBoardsLaw", 61, ";card ", 11), ("HymnBoardsLaw", 63, " back ", 12), ("HymnBoardsLaw", 65, ";friend ", 13), ("HymnBoardsLaw", 67, ";service ", 14)]
abbrev xIAE : String := "java/lang/IllegalArgumentException"
abbrev xIOB : String := "java/lang/IndexOutOfBoundsException"
/-- the cells that the claim's objects may lie in: all that are made after the law's start -/
abbrev frA (δ : Dx) : Nat → Prop := fun q => δ.2.2.2.1 ≤ q
/-- the constructors of the classes above an exception's -/
def decL : List MethodName := [⟨"java/lang/RuntimeException", "<init>", "(Ljava/lang/String;)V"⟩, ⟨"java/lang/Exception", "<init>", "(Ljava/lang/String;)V"⟩, ⟨"java/lang/Throwable", "<init>", "(Ljava/lang/String;)V"⟩]
/-- what of the world outside the claim's own objects is needed -/
def Scr (δ : Dx) (U : State) (H : Heap) : Prop := va_X (dSb δ) (dSL δ) (dSx δ) U H ∧ ¬ frA δ (dSb δ) ∧ dSL δ ≤ 260
def DgT (nm : String) (t : Nat) (f : Nat → Int) (δ : Dx) (U : State) (H : Heap) : Prop := va_Z "java/lang/Integer" nm "[B" (.ref t) (frA δ) U H ∧ va_T .byte t 100 (fun j => .int (zI (f j))) (frA δ) U H
def Amb (δ : Dx) (U : State) (H : Heap) : Prop :=
  vx_Zq Bundle.tN "UNASSIGNED_STACK" Bundle.steD (frA δ) U H ∧ vx_Zq Bundle.tN "SUPPRESSED_SENTINEL" Bundle.listD (frA δ) U H ∧
  va_Z "java/lang/String" "COMPACT_STRINGS" "Z" (.int 1) (frA δ) U H ∧ va_Zq "jdk/internal/util/Preconditions" "SIOOBE_FORMATTER" "Ljava/util/function/BiFunction;" (frA δ) U H ∧
  vk_S 15 strL strT (dKK δ) (dVV δ) (frA δ) U H ∧ (∀ q ∈ strR, vk_R q.1 q.2.1 q.2.2.1 ((dKK δ) q.2.2.2) U) ∧
  (∀ q ∈ nestW, va_Nw (.methodLinkNest q.1 q.2.1 q.2.2.1 q.2.2.2) U) ∧ va_AO RX7 U ∧ True ∧ True ∧ va_Nw (.castable xIAE xIAE) U ∧ va_Nw (.castable xIOB xIOB) U ∧ (∀ q ∈ decL, va_Nw (.declares q) U) ∧ Scr δ U H ∧ DgT "DigitOnes" (dT1 δ) dgO δ U H ∧ DgT "DigitTens" (dT2 δ) dgT δ U H ∧ va_Nw (.castable "[B" "java/lang/Cloneable") U
theorem Scr.move {δ : Dx} {s U : State} {H0 H : Heap} (hv : s.vm.Alike U.vm) (hk : ∀ a : Nat, a < H0.size → ¬ frA δ a → H[a]? = H0[a]?) (h : Scr δ s H0) : Scr δ U H := by
  obtain ⟨h1, h2, h3⟩ := h
  have hb : dSb δ < H0.size := by
    obtain ⟨scr, e, -⟩ := h1
    exact (Array.getElem?_eq_some_iff.mp e).1
  exact ⟨(h1.moved hv).kept (hk _ hb h2), h2, h3⟩
theorem DgT.move {nm : String} {t : Nat} {f : Nat → Int} {δ : Dx} {s U : State} {H0 H : Heap} (hv : s.vm.Alike U.vm) (hk : ∀ a : Nat, a < H0.size → ¬ frA δ a → H[a]? = H0[a]?) (h : DgT nm t f δ s H0) : DgT nm t f δ U H := ⟨(va_Z.moved hv h.1).kept hk, (va_T.moved hv h.2).kept hk⟩
theorem Amb.move {δ : Dx} {s U : State} {H0 H : Heap} (hW : s.WarmedH U.vm) (hk : ∀ a : Nat, a < H0.size → ¬ frA δ a → H[a]? = H0[a]?) (h : Amb δ s H0) : Amb δ U H := by
  obtain ⟨h1, h2, h3, h4, h5, h6, h7, h8, h9, h10, h11, h12, h13, h14, h15, h16, h17⟩ := h
  have hv := hW.alike
  exact ⟨(h1.moved hv).kept hk, (h2.moved hv).kept hk, (va_Z.moved hv h3).kept hk, (va_Zq.moved hv h4).kept hk, (vk_S.moved hv h5).kept hk, fun q hq => (h6 q hq).warm hW, fun q hq => (h7 q hq).warmM hW, h8.moved hv, h9, h10, h11.warmC hW, h12.warmC hW, fun q hq => (h13 q hq).warmD hW, h14.move hv hk, h15.move hv hk, h16.move hv hk, h17.warmC hW⟩
/-- the addresses of what lies outside -/
def RepC (δ : Dx) (ρ : Nat → Nat) : Prop := (∀ i, i < 15 → ρ (strB + i) = dKK δ i ∧ ρ (strB + 20 + i) = dVV δ i) ∧ ρ (strB + 60) = dSb δ ∧ ρ (strB + 50) = dT1 δ ∧ ρ (strB + 51) = dT2 δ
theorem RepC.re {δ : Dx} {ρ ρ' : Nat → Nat} (h : RepC δ ρ) (e : ∀ a, strB ≤ a → a ≠ strB + 70 → ρ' a = ρ a) : RepC δ ρ' := by
  obtain ⟨h1, h2, h3, h4⟩ := h
  refine ⟨fun i hi => ?_, ?_, ?_, ?_⟩
  · rw [e _ (by omega) (by omega), e _ (by omega) (by omega)]; exact h1 i hi
  · rw [e _ (by omega) (by omega)]; exact h2
  · rw [e _ (by omega) (by omega)]; exact h3
  · rw [e _ (by omega) (by omega)]; exact h4
def Rep (δ : Dx) (ρ : Nat → Nat) (S : ASt) (G : GH) (H : Heap) : Prop :=
  va_P (δ.1, δ.2.1) vwCl (wl δ.2.2.1 ρ S G) H ∧ va_D (frA δ) (wl δ.2.2.1 ρ S G) ∧ S.1 ≤ strB ∧ GR G ∧ RepC δ ρ
/-- the machine's own part of a method's body: program, launch, room, start, .., and what is to hold at the end -/
abbrev Cx : Type := Program × Launch × Env × Room × State × MethodId × Array Value × List Frame × Method × Code × (State → Prop)
def CX (κ : Cx) (δ : Dx) (own : String) (b : ByteArray) (nL : Nat) (ret : Option FieldType) : Prop := match κ with
  | (p, l, _, _, s, m, args, _, meth, c, _) => p.tables.exec = Jvm.exec ∧ c.code = b ∧ c.maxLocals = nL ∧ s.vm.findClass own = some m.cls ∧ (∀ w ∈ allW, w.before args s = true) ∧ meth.sig.returnType = ret ∧ meth.locks = false ∧ va_K (δ.1, δ.2.1) vwCl (tysL δ.2.2.1) s ∧ δ.2.2.2.1 ≤ s.heap.size ∧ Amb δ s s.heap ∧ l.stackTraces = false
/-- from here, in every heap that holds the abstract one, the method goes on to its end -/
def AW (κ : Cx) (δ : Dx) (ρ0 : Nat → Nat) (n0 nL cb sb pc : Nat) (l : AL) (st : List AV) (S : ASt) (G : GH) : Prop := match κ with
  | (p, lc, e, R, s, m, args, below, meth, c, Q) => ∀ (ρ : Nat → Nat) (H : Heap) (locs : List Loc) (ls : Array Slot), (∀ a, ¬ (n0 ≤ a ∧ a < S.1) → ρ a = ρ0 a) → Rep δ ρ S G H → va_S (frA δ) s.heap H locs → HL ρ nL l ls → W p lc e R s m args below meth c H locs cb sb Q (F0 m pc ls (st.map (cv ρ)))
section AWR
variable {κ : Cx} {δ : Dx} {own : String} {b : ByteArray} {nL : Nat} {ret : Option FieldType} {ρ0 : Nat → Nat} {n0 cb sb pc : Nat} {l : AL} {st : List AV} {S : ASt} {G : GH}
theorem AW.GR (k : GR G → AW κ δ ρ0 n0 nL cb sb pc l st S G) : AW κ δ ρ0 n0 nL cb sb pc l st S G := by
  obtain ⟨p, lc, e, R, s, m, args, below, meth, c, Q⟩ := κ
  intro ρ H locs ls h1 h2 h3 h4
  exact k h2.2.2.2.1 ρ H locs ls h1 h2 h3 h4
theorem AW.widen {cb' sb' : Nat} (h1 : cb ≤ cb') (h2 : sb ≤ sb') (k : AW κ δ ρ0 n0 nL cb' sb' pc l st S G) : AW κ δ ρ0 n0 nL cb sb pc l st S G := by
  obtain ⟨p, lc, e, R, s, m, args, below, meth, c, Q⟩ := κ
  intro ρ H locs ls q1 q2 q3 q4
  exact W.widen h1 h2 (k ρ H locs ls q1 q2 q3 q4)
theorem AW.eq {l' : AL} {st' : List AV} {G' : GH} (hl : l = l') (hs : st = st') (hG : G = G') (k : AW κ δ ρ0 n0 nL cb sb pc l' st' S G') : AW κ δ ρ0 n0 nL cb sb pc l st S G := by
  subst hl; subst hs; subst hG; exact k
end AWR

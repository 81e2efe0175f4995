-- ===== p51, PURE LAYER: the law's text as the class reads it =====
/-- from p on the text is u -/
def Sf (T : BT) (n p : Int) (u : List Int) : Prop := 0 ≤ p ∧ p + (u.length : Int) = n ∧ ∀ i, i < u.length → T (p.toNat + i) = u.getD i 0
def skl : List Int → List Int
  | [] => []
  | x :: u => if x = 32 then skl u else x :: u
/-- what stands behind a token: nothing, a space or a semicolon -/
def Sep (u : List Int) : Prop := u.headD 0 = 0 ∨ u.headD 0 = 32 ∨ u.headD 0 = 59
section QB
variable {T : BT} {n p : Int} {u : List Int}
theorem Sf.nil (h : Sf T n p []) : p = n := by have := h.2.1; have : p + 0 = n := this; omega
theorem Sf.lt {x : Int} (h : Sf T n p (x :: u)) : p < n := by have := h.2.1; rw [List.length_cons] at this; omega
theorem Sf.hd {x : Int} (h : Sf T n p (x :: u)) : T p.toNat = x := h.2.2 0 (Nat.zero_lt_succ _)
theorem Sf.tl {x : Int} (h : Sf T n p (x :: u)) : Sf T n (p + 1) u := by
  have h1 := h.1
  have h2 := h.2.1
  rw [List.length_cons] at h2
  refine ⟨by omega, by omega, fun i hi => ?_⟩
  have := h.2.2 (i + 1) (by rw [List.length_cons]; omega)
  rw [show (p + 1).toNat + i = p.toNat + (i + 1) by omega, this]
  rfl
theorem Sf.le (h : Sf T n p u) : p ≤ n := by have := h.2.1; omega
theorem Sf.app : ∀ {a : List Int} {p : Int}, Sf T n p (a ++ u) → Sf T n (p + (a.length : Int)) u
  | [], p, h => by
    rw [show p + (([] : List Int).length : Int) = p from Int.add_zero p]; exact h
  | x :: a, p, h => by
    have := Sf.app (a := a) (Sf.tl h)
    rw [List.length_cons, show p + ((a.length + 1 : Nat) : Int) = p + 1 + (a.length : Int) by omega]; exact this
theorem sk_at : ∀ {u : List Int} {p : Int}, Sf T n p u → Sf T n (skT T n p) (skl u)
  | [], p, h => by
    have e : skT T n p = p := run_0 (fun q => by have := h.nil; omega)
    rw [e]; exact h
  | x :: u, p, h => by
    by_cases c : x = 32
    · have e : skT T n p = skT T n (p + 1) := run_1 h.lt (isSp_t (h.hd.trans c))
      rw [e, show skl (x :: u) = skl u from if_pos c]
      exact sk_at h.tl
    · have e : skT T n p = p := run_0 (isSp_f (by rw [h.hd]; exact c))
      rw [e, show skl (x :: u) = x :: u from if_neg c]
      exact h
theorem le_run : ∀ {a : List Int} {p : Int}, Sf T n p (a ++ u) → (∀ x ∈ a, 97 ≤ x ∧ x ≤ 122) → Sep u → runT (isLeB T) n p = p + (a.length : Int)
  | [], p, h, _, hs => by
    rw [show p + (([] : List Int).length : Int) = p from Int.add_zero p]
    have h : Sf T n p u := h
    match u, h, hs with
    | [], h, _ => exact run_0 (fun q => by have := h.nil; omega)
    | x :: v, h, hs =>
      refine run_0 (isLe_f ?_)
      rw [h.hd]
      have hs : x = 0 ∨ x = 32 ∨ x = 59 := hs
      omega
  | x :: a, p, h, ha, hs => by
    have e : runT (isLeB T) n p = runT (isLeB T) n (p + 1) := run_1 (Sf.lt h) (isLe_t (by rw [Sf.hd h]; exact ha x (List.mem_cons_self ..)))
    rw [e, le_run (Sf.tl h) (fun y hy => ha y (List.mem_cons_of_mem _ hy)) hs, List.length_cons]
    omega
theorem cT_le : ∀ w, w < 7 → ∀ x ∈ cT w, 97 ≤ x ∧ x ≤ 122 := by decide +kernel
theorem cT_ne : ∀ w, w < 7 → cT w ≠ [] := by decide +kernel
theorem wd_at {w : Nat} (hw : w < 7) (h : Sf T n p (cT w ++ u)) (hs : Sep u) : isWd T n w p ∧ enT T n p - p = slen w ∧ Sf T n (nxT T n p) (skl u) := by
  have hl := cT_len w (by omega)
  have r := le_run h (cT_le w hw) hs
  have a := h.app
  match hc : cT w, cT_ne w hw with
  | x :: v, _ =>
    rw [hc] at h
    have hx := cT_le w hw x (by rw [hc]; exact List.mem_cons_self ..)
    have t : 97 ≤ T p.toNat ∧ T p.toNat ≤ 122 := by rw [Sf.hd h]; exact hx
    have e : enT T n p = p + ((cT w).length : Int) := by
      unfold enT
      rw [if_neg (by have := Sf.lt h; omega), if_pos t, r]
    have e2 : enT T n p - p = slen w := by rw [e, hl]; unfold slen; omega
    refine ⟨⟨kd_1 (Sf.lt h) t, e2, fun i hi => ?_⟩, e2, ?_⟩
    · have hi : i < (cT w).length := by rw [hl]; unfold slen at hi; omega
      rw [← hc] at h
      rw [h.2.2 i (by rw [List.length_append]; omega), cT_at hi, getD_app1 hi]
    · unfold nxT
      rw [e]
      exact sk_at a
theorem Sf.kd0 (h : Sf T n p []) : kdT T n p = 0 := kd_0 (by have := h.nil; omega)
theorem Sf.kd3 (h : Sf T n p (59 :: u)) : kdT T n p = 3 := kd_3 h.lt (by rw [h.hd]; omega) (by rw [h.hd]; omega)
theorem Sf.nx3 (h : Sf T n p (59 :: u)) : Sf T n (nxT T n p) (skl u) := by
  have e : enT T n p = p + 1 := by
    unfold enT
    rw [if_neg (by have := h.lt; omega), if_neg (by rw [h.hd]; omega), if_neg (by rw [h.hd]; omega)]
  unfold nxT
  rw [e]
  exact sk_at h.tl
theorem di_end (h : Sf T n p u) (hs : Sep u) : ¬ (p < n ∧ isDiB T p = true) := by
  match u, h, hs with
  | [], h, _ => exact fun q => by have := h.nil; omega
  | x :: v, h, hs =>
    refine isDi_f ?_
    rw [h.hd]
    have hs : x = 0 ∨ x = 32 ∨ x = 59 := hs
    omega
theorem di_run : ∀ {a : List Int} {p : Int}, Sf T n p (a ++ u) → (∀ x ∈ a, 48 ≤ x ∧ x ≤ 57) → Sep u → runT (isDiB T) n p = p + (a.length : Int)
  | [], p, h, _, hs => by
    rw [show p + (([] : List Int).length : Int) = p from Int.add_zero p]
    exact run_0 (di_end h hs)
  | x :: a, p, h, ha, hs => by
    have e : runT (isDiB T) n p = runT (isDiB T) n (p + 1) := run_1 (Sf.lt h) (isDi_t (by rw [Sf.hd h]; exact ha x (List.mem_cons_self ..)))
    rw [e, di_run (Sf.tl h) (fun y hy => ha y (List.mem_cons_of_mem _ hy)) hs, List.length_cons]
    omega
theorem nv_end {v : Int} (h : Sf T n p u) (hs : Sep u) : nvT T n v p = v := nv_0 (di_end h hs)
theorem nv_step {v x : Int} (h : Sf T n p (x :: u)) (hx : 48 ≤ x ∧ x ≤ 57) (hv : 0 ≤ v ∧ v < 1000) : nvT T n v p = nvT T n (v * 10 + (x - 48)) (p + 1) := by
  rw [nv_1 h.lt (isDi_t (by rw [h.hd]; exact hx)), h.hd]
  rw [show min (v * 10 + x - 48) 1000000 = v * 10 + (x - 48) by omega]
theorem dgO_d (m : Nat) : 48 ≤ dgO m ∧ dgO m ≤ 57 := by unfold dgO; omega
theorem dgT_d {m : Nat} (h : m < 100) : 48 ≤ dgT m ∧ dgT m ≤ 57 := by unfold dgT; omega
theorem dg_at {m : Nat} (hm : m < 1000) (h : Sf T n p (dgs m ++ u)) (hs : Sep u) : kdT T n p = 2 ∧ vlT T n p = (m : Int) ∧ Sf T n (nxT T n p) (skl u) := by
  have fin : ∀ (x : Int) (v : List Int), dgs m = x :: v → (∀ y ∈ dgs m, 48 ≤ y ∧ y ≤ 57) → nvT T n 0 p = (m : Int) → kdT T n p = 2 ∧ vlT T n p = (m : Int) ∧ Sf T n (nxT T n p) (skl u) := by
    intro x v hc ha hv
    have r := di_run h ha hs
    have a := h.app
    rw [hc] at h
    have t : 48 ≤ T p.toNat ∧ T p.toNat ≤ 57 := by rw [Sf.hd h]; exact ha x (by rw [hc]; exact List.mem_cons_self ..)
    have k := kd_2 (Sf.lt h) t
    have e : enT T n p = p + ((dgs m).length : Int) := by
      unfold enT
      rw [if_neg (by have := Sf.lt h; omega), if_neg (by omega), if_pos t, r]
    refine ⟨k, (vl_2 k).trans hv, ?_⟩
    unfold nxT
    rw [e]
    exact sk_at a
  unfold dgs at h fin
  by_cases c1 : m < 10
  · rw [if_pos c1] at h fin
    refine fin _ _ rfl (fun y hy => ?_) ?_
    · rw [List.mem_singleton] at hy; subst hy; exact dgO_d _
    · rw [nv_step (u := u) h (dgO_d _) (by omega), nv_end (Sf.tl h) hs]
      unfold dgO; omega
  rw [if_neg c1] at h fin
  by_cases c2 : m < 100
  · rw [if_pos c2] at h fin
    have d1 := dgT_d c2
    have d2 := dgO_d m
    refine fin _ _ rfl (fun y hy => ?_) ?_
    · simp only [List.mem_cons, List.not_mem_nil, or_false] at hy
      rcases hy with rfl | rfl
      · exact d1
      · exact d2
    · rw [nv_step (u := dgO m :: u) h d1 (by omega), nv_step (u := u) (Sf.tl h) d2 (by omega), nv_end (Sf.tl (Sf.tl h)) hs]
      unfold dgO dgT; omega
  rw [if_neg c2] at h fin
  have d0 := dgO_d (m / 100)
  have d1 := dgT_d (m := m % 100) (by omega)
  have d2 := dgO_d (m % 100)
  refine fin _ _ rfl (fun y hy => ?_) ?_
  · simp only [List.mem_cons, List.not_mem_nil, or_false] at hy
    rcases hy with rfl | rfl | rfl
    · exact d0
    · exact d1
    · exact d2
  · rw [nv_step (u := dgT (m % 100) :: dgO (m % 100) :: u) h d0 (by omega), nv_step (u := dgO (m % 100) :: u) (Sf.tl h) d1 (by omega), nv_step (u := u) (Sf.tl (Sf.tl h)) d2 (by omega), nv_end (Sf.tl (Sf.tl (Sf.tl h))) hs]
    unfold dgO dgT; omega
theorem nm_at {m : Nat} {lo hi : Int} (hm : m < 1000) (h : Sf T n p (dgs m ++ u)) (hs : Sep u) (hr : lo ≤ m ∧ (m : Int) ≤ hi) : nmT T n lo hi p = 0 ∧ vlT T n p = (m : Int) ∧ Sf T n (nxT T n p) (skl u) := by
  obtain ⟨k, v, s⟩ := dg_at hm h hs
  refine ⟨?_, v, s⟩
  unfold nmT
  rw [if_neg (by omega), v, if_pos hr]
theorem dgs_skl {m : Nat} {v : List Int} : skl (dgs m ++ v) = dgs m ++ v := by
  have o : ∀ x, dgO x ≠ 32 := fun x => by unfold dgO; omega
  have t : ∀ x, dgT x ≠ 32 := fun x => by unfold dgT; omega
  unfold dgs
  by_cases c1 : m < 10
  · rw [if_pos c1]; exact if_neg (o _)
  rw [if_neg c1]
  by_cases c2 : m < 100
  · rw [if_pos c2]; exact if_neg (t _)
  rw [if_neg c2]; exact if_neg (o _)
theorem cT_skl : ∀ w, w < 7 → ∀ v, skl (cT w ++ v) = cT w ++ v := by
  intro w hw v
  match hc : cT w, cT_ne w hw with
  | x :: r, _ =>
    have := cT_le w hw x (by rw [hc]; exact List.mem_cons_self ..)
    exact if_neg (by omega)
theorem semi_skl {v : List Int} : skl (59 :: v) = 59 :: v := if_neg (by decide)
theorem sp_skl {v : List Int} : skl (32 :: v) = skl v := if_pos rfl
theorem cT_7 : cT 7 = cT 0 ++ [32] := by decide +kernel
theorem cT_8 : cT 8 = 32 :: cT 1 := by decide +kernel
theorem cT_10 : cT 10 = 32 :: cT 2 := by decide +kernel
theorem cT_11 : cT 11 = 59 :: (cT 3 ++ [32]) := by decide +kernel
theorem cT_12 : cT 12 = 32 :: (cT 4 ++ [32]) := by decide +kernel
theorem cT_13 : cT 13 = 59 :: (cT 5 ++ [32]) := by decide +kernel
theorem cT_14 : cT 14 = 59 :: (cT 6 ++ [32]) := by decide +kernel
end QB

-- ===== p51: the pure facts, put together =====
theorem pure_all (L : Nat) (xs : Nat → Int32) : PureAll L xs := by
  refine ⟨P0, fun k G => ∃ W, InvW (cN L xs) (k : Int) G W, p0_ini, fun G G' h0 hl ht _ => load_ok h0 hl ht, fun k G hk h _ => ?_, fun G h _ => ?_⟩
  · obtain ⟨W, hI⟩ := h
    have e := step_ok (L := L) (xs := xs) hI ⟨by omega, by omega⟩ hk
    rw [show (k : Int) + 1 = ((k + 1 : Nat) : Int) by omega] at e
    exact e
  · obtain ⟨W, hI⟩ := h
    refine cards_ok hI (fun G2 h2 => ⟨rfl, ?_⟩)
    have h5 := h2.1.2.2.1
    have z6 : szW W 6 = W 5 := rfl
    refine e_size (by omega) h2.wf h2.rp ?_
    rw [z6, h5]
    refine ⟨by omega, fun G3 e3 => ?_⟩
    rw [e3]
    exact hangs_ok h2 ⟨by omega, by omega⟩ ⟨Int.emod_nonneg _ (by omega), Int.emod_lt_of_pos _ (by omega)⟩

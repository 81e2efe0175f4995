-- ===== PURE LAYER: the reference's sets: what can be shown, what is needed, the lack =====
def HC (G : GH) (D : Int → Nat) (L : Int → Int) : Prop := ∀ X : Nat, X < 1024 → G 280 X = can 43 D L X
def HN (G : GH) (n : Int → Int) : Prop := ∀ X : Nat, X < 1024 → G 281 X = need n X
def HLf (G : GH) (L : Int → Int) : Prop := ∀ s : Int, 0 ≤ s → s < 43 → G 282 s.toNat = L s
def Lb (L : Int → Int) : Prop := ∀ s : Int, 0 ≤ s → s < 43 → 0 ≤ L s ∧ L s ≤ 1000
def Nb (n : Int → Int) : Prop := ∀ d : Int, 0 ≤ d → d < 10 → -1000 ≤ n d ∧ n d ≤ 1000
theorem HC.congr {G G' : GH} {D : Int → Nat} {L : Int → Int} (h : HC G D L) (e : G' 280 = G 280) : HC G' D L := fun X hX => by rw [e]; exact h X hX
theorem HN.congr {G G' : GH} {n : Int → Int} (h : HN G n) (e : G' 281 = G 281) : HN G' n := fun X hX => by rw [e]; exact h X hX
theorem HLf.congr {G G' : GH} {L : Int → Int} (h : HLf G L) (e : G' 282 = G 282) : HLf G' L := fun s s0 s1 => by rw [e]; exact h s s0 s1
theorem need_rng {n : Int → Int} (h : Nb n) {X : Nat} : -10000 ≤ need n X ∧ need n X ≤ 10000 := by
  have h1 : need n X ≤ 1000 * 10 := sumZ_le (by omega) (fun i i0 i1 => by
    have := h i i0 i1
    show (if inS X i then n i else 0) ≤ 1000
    split <;> omega)
  have h2 : 0 ≤ sumZ (fun d => (if inS X d then n d else 0) + 1000) 10 := sumZ_ge (fun i i0 i1 => by
    have := h i i0 i1
    show 0 ≤ (if inS X i then n i else 0) + 1000
    split <;> omega)
  rw [sumZ_add] at h2
  have h3 : sumZ (fun _ => (1000 : Int)) 10 ≤ 1000 * 10 := sumZ_le (by omega) (fun _ _ _ => Int.le_refl _)
  have e : need n X = sumZ (fun d => if inS X d then n d else 0) 10 := rfl
  omega
theorem can_rng {D : Int → Nat} {L : Int → Int} (h : Lb L) {X : Nat} : 0 ≤ can 43 D L X ∧ can 43 D L X ≤ 43000 := by
  have h1 : can 43 D L X ≤ 1000 * 43 := sumZ_le (by omega) (fun i i0 i1 => by
    have := h i i0 i1
    show (if mts (D i) X then L i else 0) ≤ 1000
    split <;> omega)
  have h2 : 0 ≤ can 43 D L X := sumZ_ge (fun i i0 i1 => by
    have := h i i0 i1
    show 0 ≤ (if mts (D i) X then L i else 0)
    split <;> omega)
  omega
section MA
variable {G : GH} {D : Int → Nat} {L n : Int → Int} {d v s : Int}
end MA

/-! a sum over a rising list is the sum over all days of those that are in it -/
def sI (g dl : Nat → Nat) : Nat → Nat
  | 0 => 0
  | m + 1 => sI g dl m + g (dl m)
def sB (p : Nat → Bool) (g : Nat → Nat) : Nat → Nat
  | 0 => 0
  | B + 1 => sB p g B + if p B = true then g B else 0
theorem sB_sI {p : Nat → Bool} {g dl : Nat → Nat} : ∀ B m, (∀ i, i < m → dl i < B) → (∀ i j, i < j → j < m → dl i < dl j) → (∀ D, D < B → (p D = true ↔ ∃ i, i < m ∧ dl i = D)) → sB p g B = sI g dl m
  | 0, m, h1, _, _ => by
    have : m = 0 := by
      rcases Nat.eq_zero_or_pos m with c | c
      · exact c
      · have := h1 0 c
        omega
    subst this
    rfl
  | B + 1, m, h1, h2, h3 => by
    by_cases c : p B = true
    · obtain ⟨i, hi, e⟩ := (h3 B (by omega)).mp c
      have him : i = m - 1 := by
        rcases Nat.lt_or_ge i (m - 1) with q | q
        · have a := h2 i (m - 1) q (by omega)
          have b := h1 (m - 1) (by omega)
          omega
        · omega
      obtain ⟨m', rfl⟩ : ∃ m', m = m' + 1 := ⟨m - 1, by omega⟩
      rw [Nat.add_sub_cancel] at him
      subst him
      have ih := sB_sI (p := p) (g := g) (dl := dl) B i (fun j hj => by have := h2 j i hj (by omega); omega) (fun a b hab hb => h2 a b hab (by omega)) (fun D hD => by
        rw [h3 D (by omega)]
        constructor
        · rintro ⟨j, hj, ej⟩
          rcases Nat.lt_or_ge j i with q | q
          · exact ⟨j, q, ej⟩
          · have : j = i := by omega
            subst this
            omega
        · rintro ⟨j, hj, ej⟩
          exact ⟨j, by omega, ej⟩)
      show sB p g B + (if p B = true then g B else 0) = sI g dl i + g (dl i)
      rw [ih, if_pos c, e]
    · have ih := sB_sI (p := p) (g := g) (dl := dl) B m (fun j hj => by
        have a := h1 j hj
        rcases Nat.lt_or_ge (dl j) B with q | q
        · exact q
        · exact absurd ((h3 B (by omega)).mpr ⟨j, hj, by omega⟩) c) h2 (fun D hD => h3 D (by omega))
      show sB p g B + (if p B = true then g B else 0) = _
      rw [ih, if_neg c, Nat.add_zero]

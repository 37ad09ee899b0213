/-! THE FIRST STATE keeps the invariant -/
theorem rz {q k : Nat} (h1 : q ≠ 8) (h2 : q ≠ 23) (h3 : q ≠ 59) : rd st0 q k = 0 := by
  show (if q = 8 then (-1 : Int32) else if q = 23 ∧ k = 3 then 25 else if q = 59 ∧ k = 65 then -1 else if q = 59 ∧ k = 56 then 24 else 0) = 0
  rw [if_neg h1, if_neg (fun h => h2 h.1), if_neg (fun h => h3 h.1), if_neg (fun h => h3 h.1)]
theorem rz9 {k : Nat} (h1 : k ≠ 65) (h2 : k ≠ 56) : rd st0 59 k = 0 := by
  show (if 59 = 8 then (-1 : Int32) else if 59 = 23 ∧ k = 3 then 25 else if 59 = 59 ∧ k = 65 then -1 else if 59 = 59 ∧ k = 56 then 24 else 0) = 0
  rw [if_neg (by omega), if_neg (by omega), if_neg (fun h => h1 h.2), if_neg (fun h => h2 h.2)]
theorem nI_zero : (0 : Int32) = nI 0 := rfl
theorem inv_first : Inv st0 := by
  refine ⟨0, 0, 0, 0, ⟨by omega, rfl, rfl⟩, ⟨by omega, rfl, rfl, fun i h => absurd h (Nat.not_lt_zero _), fun i _ => ?_, fun i h => absurd h (Nat.not_lt_zero _), fun i _ _ => ?_⟩, ⟨by omega, rfl, rfl, fun i _ => ?_⟩, fun i _ => ?_, fun s k hs hk => ?_, ⟨by omega, rfl, rfl, fun b h => absurd h (Nat.not_lt_zero _), fun b _ hb => ?_⟩, ⟨0, by omega, rfl, rfl, fun i h => absurd h (Nat.not_lt_zero _), fun i j _ h => absurd h (Nat.not_lt_zero _)⟩, ⟨0, by omega, rfl, rfl, fun i h => absurd h (Nat.not_lt_zero _)⟩, ⟨0, by omega, rfl, rfl, fun i h => absurd h (Nat.not_lt_zero _)⟩, ⟨0, by omega, rfl, rfl, fun i h => absurd h (Nat.not_lt_zero _)⟩, ⟨0, by omega, rfl, rfl, fun i h => absurd h (Nat.not_lt_zero _), fun i j _ h => absurd h (Nat.not_lt_zero _)⟩, Or.inl ⟨rfl, rfl⟩, ⟨fun i _ => ?_, Or.inl ⟨rfl, rfl⟩⟩, ?_⟩
  · rw [rz (by omega) (by omega) (by omega), rz (by omega) (by omega) (by omega)]
  · rfl
  · refine ⟨0, 0, 0, 0, 0, by omega, by omega, by omega, by omega, by omega, ⟨?_, ?_, ?_, ?_, ?_⟩, ⟨?_, ?_, ?_, ?_, ?_⟩⟩ <;> exact (rz (by omega) (by omega) (by omega)).trans nI_zero
  · refine ⟨⟨0, by omega, ?_, ?_⟩, ?_⟩
    · exact (rz (by omega) (by omega) (by omega)).trans nI_zero
    · exact (rz (by omega) (by omega) (by omega)).trans nI_zero
    · rw [rz (by omega) (by omega) (by omega), rz (by omega) (by omega) (by omega)]
  · refine ⟨⟨0, by omega, ?_, ?_⟩, ⟨0, by omega, ?_, ?_⟩⟩ <;> exact (rz (by omega) (by omega) (by omega)).trans nI_zero
  · refine ⟨⟨?_, ?_, ?_, ?_, ?_⟩, ⟨?_, ?_, ?_, ?_, ?_⟩⟩ <;> exact rz (by omega) (by omega) (by omega)
  · refine ⟨⟨0, by omega, ?_, ?_⟩, ⟨0, by omega, ?_, ?_⟩, fun _ => ⟨?_, ?_⟩⟩ <;> first | exact rz (by omega) (by omega) (by omega) | exact (rz (by omega) (by omega) (by omega)).trans nI_zero
  · exact (rz9 (by omega) (by omega)).trans (rz (by omega) (by omega) (by omega)).symm

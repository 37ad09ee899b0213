/-! LOSS of a morning's number, the class' side -/
def lo (P W Q v : Nat) : Nat := if Q < v then (v - Q) * P else (Q - v) * W
theorem L_ti {v Q : Nat} (hv : v < 1000000) (hQ : Q < 1000000) : ((nI v - nI Q).toInt64).toInt = (v : Int) - Q := by
  rw [Int32.toInt_toInt64, ti_sub (by rw [ti_nI (by omega), ti_nI (by omega)]; omega) (by rw [ti_nI (by omega), ti_nI (by omega)]; omega), ti_nI (by omega), ti_nI (by omega)]
theorem L_pos {v Q : Nat} (hv : v < 1000000) (hQ : Q < 1000000) (h : Q ≤ v) : (nI v - nI Q).toInt64 = lN (v - Q) := by
  apply Int64.toInt_inj.mp
  rw [L_ti hv hQ, lN_toInt (by omega)]
  omega
theorem L_neg {v Q : Nat} (hv : v < 1000000) (hQ : Q < 1000000) (h : v ≤ Q) : -(nI v - nI Q).toInt64 = lN (Q - v) := by
  apply Int64.toInt_inj.mp
  rw [Int64.toInt_neg, L_ti hv hQ, lN_toInt (by omega)]
  rw [show -((v : Int) - Q) = ((Q - v : Nat) : Int) by omega]
  exact Int.bmod_eq_of_le (by omega) (by omega)
theorem L_le0 {v Q : Nat} (hv : v < 1000000) (hQ : Q < 1000000) : lg_cmp (nI v - nI Q).toInt64 0 ≤ 0 ↔ v ≤ Q := by
  rw [lg_cmp_le, Int64.le_iff_toInt_le, L_ti hv hQ]
  have : (0 : Int64).toInt = 0 := rfl
  omega
section LX
variable {Γ : GG} {l : Launch} {d : Nat} {σ : St}
theorem S_lossOfX {m Q P W : Nat} {v : Nat → Nat} (hm : m ≤ 600) (hQ : Q < 1000) (hP : P < 1000000) (hW : W < 1000000) (e : rd σ 34 9 = nI m) (hv : ∀ i, i < m → rd σ 42 i = nI (v i) ∧ v i < 1000000) : Meth Γ l d mX8_lossOf [.ref 34, .int (nI Q), .int (nI P), .int (nI W)] σ (KL fun x σ' => σ' = σ ∧ x = lN (sI (lo P W Q) v m)) := by
  have loop : ∀ f i, i + f = m → J Γ l d mX8_lossOf (KL fun x σ' => σ' = σ ∧ x = lN (sI (lo P W Q) v m)) 6 [(0, .ref 34), (1, .int (nI Q)), (2, .int (nI P)), (3, .int (nI W)), (4, .long (lN (sI (lo P W Q) v i))), (6, .int (nI i))] [] σ := by
    intro f
    induction f with
    | zero =>
      intro i hi
      have : i = m := by omega
      subst this
      exact w_X8_lossOf_6 _ _ _ _ _ ⟨fun _ => ⟨_, rfl, rfl, rfl⟩, fun q => absurd (yle e (Nat.le_refl _) (by omega)) q⟩
    | succ f ih =>
      intro i hi
      obtain ⟨h1, h2⟩ := hv i (by omega)
      have st : sI (lo P W Q) v (i + 1) = sI (lo P W Q) v i + lo P W Q (v i) := rfl
      refine w_X8_lossOf_6 _ _ _ _ _ ⟨fun q => absurd q (nle e (by omega) (by omega)), fun _ => ⟨in_nI (by omega) (by omega), fun x2 hx => ?_⟩⟩
      rw [cl (by omega), h1] at hx
      subst hx
      rw [L_le0 h2 (by omega), nI_l (by omega), nI_l (by omega)]
      refine ⟨fun q x hx => ?_, fun q x hx => ?_⟩
      · rw [nI_s] at hx
        subst hx
        have := ih (i + 1) (by omega)
        rw [st, ← lN_add] at this
        rw [L_neg h2 (by omega) q, lN_mul]
        unfold lo at this
        rw [if_neg (c := Q < v i) (by omega)] at this
        exact this
      · rw [nI_s] at hx
        subst hx
        have := ih (i + 1) (by omega)
        rw [st, ← lN_add] at this
        rw [L_pos h2 (by omega) (by omega), lN_mul]
        have e2 : lo P W Q (v i) = (v i - Q) * P := if_pos (by omega)
        rw [e2] at this
        exact this
  exact M_X8_lossOf _ _ _ (w_X8_lossOf_0 _ _ _ (loop m 0 (by omega)))
end LX

/-! a morning's arguments, on both sides -/
def ordC (nS nK : Nat) (a b c e : Int32) : Prop := ((0 ≤ a ∧ a < nI nS) ∧ 0 ≤ b ∧ b < nI nK) ∧ (∃ w : Nat, w < 70 ∧ w % 10 < 3 ∧ c = nI w) ∧ ∃ K : Nat, K < 1500 ∧ e = nI K
section MG
variable {Γ : GG} {l : Launch} {d : Nat} {σ : St}
theorem ge3 {w : Nat} (hw : w < 2147483648) : (3 : Int32) ≤ nI w - nI w / 10 * 10 ↔ 3 ≤ w % 10 := by
  rw [show nI w - nI w / 10 * 10 = nI (w % 10) from nI_modn (b := 10) hw (by omega)]
  exact nI_lei (a := 3) (by omega) (by omega)
theorem S_isMorning {nS nK : Nat} (a b c e : Int32) (s1 : rd σ 5 1 = nI nS) (k1 : rd σ 11 5 = nI nK) : Meth Γ l (d + 3) mX11_isMorning [.ref 0, .int a, .int b, .int c, .int e] σ (KI fun x σ' => σ' = σ ∧ ((x = 1 ∧ ordC nS nK a b c e) ∨ (x = 0 ∧ ¬ ordC nS nK a b c e))) := by
  refine M_X11_isMorning _ _ _ _ (w_X11_isMorning_0 _ _ _ _ ?_)
  rw [s1, k1]
  refine ⟨fun ha => ⟨fun he => ⟨fun hc => ?_, fun q => KI.mk ⟨rfl, Or.inr ⟨rfl, ?_⟩⟩⟩, fun q => KI.mk ⟨rfl, Or.inr ⟨rfl, ?_⟩⟩⟩, fun q => KI.mk ⟨rfl, Or.inr ⟨rfl, fun r => q r.1⟩⟩⟩
  · obtain ⟨w, hw, rfl⟩ := rng 70 (by omega) hc
    obtain ⟨K, hK, rfl⟩ := rng 1500 (by omega) he
    rw [ge3 (by omega)]
    refine ⟨fun q => KI.mk ⟨rfl, Or.inr ⟨rfl, ?_⟩⟩, fun q => KI.mk ⟨rfl, Or.inl ⟨rfl, ha, ⟨w, hw, by omega, rfl⟩, K, hK, rfl⟩⟩⟩
    rintro ⟨-, ⟨w', hw', h3, e'⟩, -⟩
    rw [nI_inj (by omega) (by omega)] at e'
    omega
  · rintro ⟨-, ⟨w', hw', h3, rfl⟩, -⟩
    exact q (rng_lt (n := 70) hw' (by omega))
  · rintro ⟨-, -, K, hK, rfl⟩
    exact q (rng_lt (n := 1500) hK (by omega))
theorem S_isOrder {nS nK : Nat} (zS : nS ≤ 12) (zK : nK ≤ 10) (a b c e : Int32) (s2 : rd σ 59 2 = nI nS) (k2 : rd σ 59 6 = nI nK) : Meth Γ l (d + 3) mX12_isOrder [.ref 59, .int a, .int b, .int c, .int e] σ (KI fun x σ' => σ' = σ ∧ ((x = 1 ∧ ordC nS nK a b c e) ∨ (x = 0 ∧ ¬ ordC nS nK a b c e))) := by
  refine M_X12_isOrder _ _ _ _ (w_X12_isOrder_0 _ _ _ _ ?_)
  refine ⟨fun ha => ⟨fun hc => ?_, fun q => KI.mk ⟨rfl, Or.inr ⟨rfl, ?_⟩⟩⟩, fun q => KI.mk ⟨rfl, Or.inr ⟨rfl, fun r => q ⟨(cM (by omega) s2).mpr r.1.1, (cM (by omega) k2).mpr r.1.2⟩⟩⟩⟩
  · obtain ⟨w, hw, rfl⟩ := rngL 62 (by omega) hc
    rw [ge3 (by omega)]
    refine ⟨fun q => KI.mk ⟨rfl, Or.inr ⟨rfl, ?_⟩⟩, fun q => ⟨fun he => ?_, fun he => KI.mk ⟨rfl, Or.inr ⟨rfl, ?_⟩⟩⟩⟩
    · rintro ⟨-, ⟨w', hw', h3, e'⟩, -⟩
      rw [nI_inj (by omega) (by omega)] at e'
      omega
    · obtain ⟨K, hK, rfl⟩ := rngL 1499 (by omega) he
      exact KI.mk ⟨rfl, Or.inl ⟨rfl, ⟨(cM (by omega) s2).mp ha.1, (cM (by omega) k2).mp ha.2⟩, ⟨w, by omega, by omega, rfl⟩, K, by omega, rfl⟩⟩
    · rintro ⟨-, -, K, hK, rfl⟩
      exact he (rng_le (n := 1499) (by omega) (by omega))
  · rintro ⟨-, ⟨w', hw', h3, rfl⟩, -⟩
    exact q (rng_le (n := 62) (by omega) (by omega))
end MG

/-! NUMBERS: what the pairs below use again and again -/
theorem ti_sub {a b : Int32} (h1 : -2147483648 ≤ a.toInt - b.toInt) (h2 : a.toInt - b.toInt ≤ 2147483647) : (a - b).toInt = a.toInt - b.toInt := by
  rw [Int32.toInt_sub]
  exact Int.bmod_eq_of_le (by omega) (by omega)
theorem ti_add {a b : Int32} (h1 : -2147483648 ≤ a.toInt + b.toInt) (h2 : a.toInt + b.toInt ≤ 2147483647) : (a + b).toInt = a.toInt + b.toInt := by
  rw [Int32.toInt_add]
  exact Int.bmod_eq_of_le (by omega) (by omega)
theorem ti_mul {a b : Int32} (h1 : -2147483648 ≤ a.toInt * b.toInt) (h2 : a.toInt * b.toInt ≤ 2147483647) : (a * b).toInt = a.toInt * b.toInt := by
  rw [Int32.toInt_mul]
  exact Int.bmod_eq_of_le (by omega) (by omega)
theorem ti_eq {a b : Int32} (h : a.toInt = b.toInt) : a = b := Int32.toInt_inj.mp h
theorem ti_nI {n : Nat} (h : n < 2147483648) : (nI n).toInt = n := nI_toInt (by omega)
theorem ti_le {a b : Int32} : a ≤ b ↔ a.toInt ≤ b.toInt := Int32.le_iff_toInt_le
theorem ti_lt {a b : Int32} : a < b ↔ a.toInt < b.toInt := Int32.lt_iff_toInt_lt
theorem ti_rng (a : Int32) : -2147483648 ≤ a.toInt ∧ a.toInt ≤ 2147483647 := by
  have h1 := a.le_toInt
  have h2 := a.toInt_lt
  omega
theorem nI_of_ti {a : Int32} {n : Nat} (h : a.toInt = n) : a = nI n := by
  have h2 := a.toInt_lt
  exact ti_eq (by rw [ti_nI (by omega)]; exact h)
/-- a number of a range is a natural one -/
theorem rng {a : Int32} (n : Nat) (hn : n < 2147483648) (h : 0 ≤ a ∧ a < nI n) : ∃ j, j < n ∧ a = nI j := by
  obtain ⟨h1, h2⟩ := h
  rw [ti_le] at h1
  rw [ti_lt, ti_nI hn] at h2
  have e : (0 : Int32).toInt = 0 := rfl
  exact ⟨a.toInt.toNat, by omega, nI_of_ti (by omega)⟩
theorem rngL {a : Int32} (n : Nat) (hn : n < 2147483648) (h : 0 ≤ a ∧ a ≤ nI n) : ∃ j, j ≤ n ∧ a = nI j := by
  obtain ⟨h1, h2⟩ := h
  rw [ti_le] at h1
  rw [ti_le, ti_nI hn] at h2
  have e : (0 : Int32).toInt = 0 := rfl
  exact ⟨a.toInt.toNat, by omega, nI_of_ti (by omega)⟩
theorem rng_lt {j n : Nat} (h : j < n) (hn : n < 2147483648) : (0 : Int32) ≤ nI j ∧ nI j < nI n := by
  rw [ti_le, ti_lt, ti_nI hn, ti_nI (by omega)]
  have e : (0 : Int32).toInt = 0 := rfl
  omega
theorem rng_le {j n : Nat} (h : j ≤ n) (hn : n < 2147483648) : (0 : Int32) ≤ nI j ∧ nI j ≤ nI n := by
  rw [ti_le, ti_le, ti_nI hn, ti_nI (by omega)]
  have e : (0 : Int32).toInt = 0 := rfl
  omega
theorem pred_iff {a : Int32} {n : Nat} (hn : n < 2147483648) : a ≤ nI n - 1 ↔ a < nI n := by
  have e1 : (1 : Int32).toInt = 1 := rfl
  have e := ti_nI hn
  rw [ti_le, ti_lt, ti_sub (by omega) (by omega), e, e1]
  omega
theorem succ_iff {a : Int32} {n : Nat} (hn : n + 1 < 2147483648) : a < nI (n + 1) ↔ a ≤ nI n := by
  rw [ti_le, ti_lt, ti_nI hn, ti_nI (by omega)]
  omega
theorem cl {n : Nat} (h : n < 2147483648) : (nI n).toNatClampNeg = n := nI_clamp (by omega)
theorem in_nI {n N : Nat} (h : n < N) (hN : N < 2147483648) : vp_in (nI n) N := vp_in_nI h (by omega)
theorem in_nI_iff {n N : Nat} (hn : n < 2147483648) : vp_in (nI n) N ↔ n < N := by
  rw [vp_in_iff, ti_nI hn]
  omega
theorem nI_inj {a b : Nat} (ha : a < 2147483648) (hb : b < 2147483648) : nI a = nI b ↔ a = b := nI_eq (by omega) (by omega)
theorem nI_lei {a b : Nat} (ha : a < 2147483648) (hb : b < 2147483648) : nI a ≤ nI b ↔ a ≤ b := nI_leI (by omega) (by omega)
theorem nI_lti {a b : Nat} (ha : a < 2147483648) (hb : b < 2147483648) : nI a < nI b ↔ a < b := nI_ltI (by omega) (by omega)
theorem nI_addn (a b : Nat) : nI a + nI b = nI (a + b) := nI_add a b
theorem nI_muln (a b : Nat) : nI a * nI b = nI (a * b) := by
  unfold nI
  exact (Int32.ofNat_mul a b).symm
theorem nI_subn {a b : Nat} (h : b ≤ a) : nI a - nI b = nI (a - b) := by
  have h2 : nI a = nI (a - b) + nI b := by rw [nI_add]; congr 1; omega
  rw [h2, Int32.add_sub_cancel]
theorem nI_divn {a b : Nat} (ha : a < 2147483648) (hb : b < 2147483648) : nI a / nI b = nI (a / b) := by
  unfold nI
  exact (Int32.ofNat_div (by omega) (by omega)).symm
theorem nI_modn {a b : Nat} (ha : a < 2147483648) (hb : b < 2147483648) : nI a - nI a / nI b * nI b = nI (a % b) := by
  rw [nI_divn ha hb, nI_muln, nI_subn (by have := Nat.div_mul_le_self a b; omega)]
  congr 1
  have := Nat.div_add_mod a b
  rw [Nat.mul_comm] at this
  omega

/-! ANSWERS of a pair: x's call, then m's, then equal answers and the invariant -/
def PI (Γ : GG) (l : Launch) (d : Nat) (M : MD) (As : List Value) : Option Value → St → Prop := KI fun x σ1 => Meth Γ l d M As σ1 (KI fun y σ2 => y = x ∧ Inv σ2)
theorem PI.mk {Γ : GG} {l : Launch} {d : Nat} {M : MD} {As : List Value} {x : Int32} {σ : St} (h : Meth Γ l d M As σ (KI fun y σ2 => y = x ∧ Inv σ2)) : PI Γ l d M As (some (.int x)) σ := ⟨x, rfl, h⟩
theorem KI.mk {K : Int32 → St → Prop} {x : Int32} {σ : St} (h : K x σ) : KI K (some (.int x)) σ := ⟨x, rfl, h⟩

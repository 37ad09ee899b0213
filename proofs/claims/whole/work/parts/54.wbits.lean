/-! WAITING: bits and lists of the shops that were drawn -/
def bt (X i : Nat) : Nat := X / 2 ^ i % 2
set_option maxRecDepth 100000 in
theorem bt_dec : ∀ i, i < 12 → ∀ X, X < 1024 → (nI X >>> (nI i &&& 31)) &&& 1 = nI (bt X i) := by decide +kernel
set_option maxRecDepth 100000 in
theorem or_dec : ∀ a, a < 10 → ∀ X, X < 2 ^ a → ∀ e, e < 2 → nI X ||| (nI e <<< (nI a &&& 31)) = nI (X + e * 2 ^ a) := by decide +kernel
set_option maxRecDepth 100000 in
theorem com_dec : ∀ m, m < 11 → ∀ X, X < 2 ^ m → (((1 : Int32) <<< (nI m &&& 31)) - 1) &&& (nI X ^^^ (-1)) = nI (2 ^ m - 1 - X) := by decide +kernel
set_option maxRecDepth 100000 in
theorem sh_dec : ∀ m, m < 11 → (1 : Int32) <<< (nI m &&& 31) = nI (2 ^ m) := by decide +kernel
set_option maxRecDepth 100000 in
theorem cb_dec : ∀ m, m < 11 → ∀ X, X < 2 ^ m → ∀ i, i < m → bt (2 ^ m - 1 - X) i + bt X i = 1 := by decide +kernel
theorem bt_2 (X i : Nat) : bt X i = 0 ∨ bt X i = 1 := by
  unfold bt
  omega
theorem p2_lt {m : Nat} (h : m < 11) : 2 ^ m ≤ 1024 := by
  have := Nat.pow_le_pow_right (n := 2) (by omega) (show m ≤ 10 by omega)
  omega
/-- the sum of those that a number's bits name -/
def eS (E : Nat → Int32) (X : Nat) : Nat → Int32
  | 0 => 0
  | i + 1 => eS E X i + if bt X i = 1 then E i else 0
def tS (E : Nat → Int32) : Nat → Int32
  | 0 => 0
  | i + 1 => tS E i + E i
theorem bt_hi {X a i : Nat} (h : X < 2 ^ a) (hi : a ≤ i) : bt X i = 0 := by
  unfold bt
  have : 2 ^ a ≤ 2 ^ i := Nat.pow_le_pow_right (by omega) hi
  rw [Nat.div_eq_of_lt (by omega)]
theorem eS_hi {E : Nat → Int32} {X a : Nat} (h : X < 2 ^ a) : ∀ f, eS E X (a + f) = eS E X a
  | 0 => rfl
  | f + 1 => by
    show eS E X (a + f) + (if bt X (a + f) = 1 then E (a + f) else 0) = _
    rw [bt_hi h (by omega), if_neg (by omega), eS_hi h f, Int32.add_zero]
theorem eS_congr {E E' : Nat → Int32} {X X' : Nat} : ∀ m, (∀ i, i < m → E i = E' i ∧ bt X i = bt X' i) → eS E X m = eS E' X' m
  | 0, _ => rfl
  | m + 1, h => by
    show eS E X m + (if bt X m = 1 then E m else 0) = eS E' X' m + (if bt X' m = 1 then E' m else 0)
    rw [eS_congr m fun i hi => h i (by omega), (h m (by omega)).1, (h m (by omega)).2]
theorem bt_lo {X a e i : Nat} (hi : i < a) : bt (X + e * 2 ^ a) i = bt X i := by
  unfold bt
  have h1 : 2 ^ a = 2 ^ (a - i - 1) * 2 * 2 ^ i := by
    rw [← Nat.pow_succ, ← Nat.pow_add]
    congr 1
    omega
  rw [h1, ← Nat.mul_assoc, ← Nat.mul_assoc, Nat.add_mul_div_right _ _ (Nat.pow_pos (by omega)), Nat.add_mul_mod_self_right]
theorem bt_at {X a e : Nat} (h : X < 2 ^ a) (he : e ≤ 1) : bt (X + e * 2 ^ a) a = e := by
  unfold bt
  rw [Nat.add_mul_div_right _ _ (Nat.pow_pos (by omega)), Nat.div_eq_of_lt h]
  omega
theorem eS_co {E : Nat → Int32} {X m : Nat} (hm : m < 11) (h : X < 2 ^ m) : ∀ i, i ≤ m → eS E (2 ^ m - 1 - X) i + eS E X i = tS E i
  | 0, _ => rfl
  | i + 1, hi => by
    have ih := eS_co (E := E) hm h i (by omega)
    have hb := cb_dec m hm X h i (by omega)
    show eS E (2 ^ m - 1 - X) i + (if bt (2 ^ m - 1 - X) i = 1 then E i else 0) + (eS E X i + if bt X i = 1 then E i else 0) = tS E i + E i
    rw [← ih]
    rcases bt_2 X i with c | c
    · rw [if_pos (show bt (2 ^ m - 1 - X) i = 1 by omega), if_neg (show ¬ bt X i = 1 by omega)]
      grind
    · rw [if_neg (show ¬ bt (2 ^ m - 1 - X) i = 1 by omega), if_pos c]
      grind
section DR
variable (f : Nat → Bool) (D : Nat → Nat) (V : Nat → Int32)
/-- the shops that were drawn, in order -/
def dF : Nat → Nat → Nat
  | 0 => fun _ => 0
  | s + 1 => if f s = true then (fun j => if j = cntB f s then s else dF s j) else dF s
/-- the bits of the cut ones -/
def mS : Nat → Nat
  | 0 => 0
  | s + 1 => if f s = true then mS s + D s * 2 ^ cntB f s else mS s
def cS : Nat → Int32
  | 0 => 0
  | s + 1 => if f s = true then cS s + (if D s = 1 then V s else 0) else cS s
def aS : Nat → Int32
  | 0 => 0
  | s + 1 => if f s = true then aS s + V s else aS s
def yN : Nat → Nat
  | 0 => 0
  | s + 1 => if f s = true then yN s + D s else yN s
end DR
section DR2
variable {f : Nat → Bool} {D : Nat → Nat} {V : Nat → Int32}
theorem mS_lt (hD : ∀ s, D s ≤ 1) : ∀ s, mS f D s < 2 ^ cntB f s
  | 0 => Nat.one_pos
  | s + 1 => by
    have ih := mS_lt hD s
    show (if f s = true then mS f D s + D s * 2 ^ cntB f s else mS f D s) < 2 ^ (if f s = true then cntB f s + 1 else cntB f s)
    by_cases c : f s = true
    · have h1 : D s * 2 ^ cntB f s ≤ 1 * 2 ^ cntB f s := Nat.mul_le_mul_right _ (hD s)
      rw [if_pos c, if_pos c, Nat.pow_succ]
      omega
    · rw [if_neg c, if_neg c]
      exact ih
theorem yN_le (hD : ∀ s, D s ≤ 1) : ∀ s, yN f D s ≤ cntB f s
  | 0 => Nat.le_refl _
  | s + 1 => by
    have ih := yN_le hD s
    have := hD s
    unfold yN cntB
    split <;> omega
theorem dF_old {s j : Nat} (h : f s = true) (hj : j ≠ cntB f s) : dF f (s + 1) j = dF f s j := by
  show (if f s = true then (fun j => if j = cntB f s then s else dF f s j) else dF f s) j = _
  rw [if_pos h]
  exact if_neg hj
theorem dF_new {s : Nat} (h : f s = true) : dF f (s + 1) (cntB f s) = s := by
  show (if f s = true then (fun j => if j = cntB f s then s else dF f s j) else dF f s) _ = _
  rw [if_pos h]
  exact if_pos rfl
theorem dF_no {s : Nat} (h : ¬ f s = true) : dF f (s + 1) = dF f s := if_neg h
theorem mS_y {s : Nat} (h : f s = true) : mS f D (s + 1) = mS f D s + D s * 2 ^ cntB f s := if_pos h
theorem mS_n {s : Nat} (h : ¬ f s = true) : mS f D (s + 1) = mS f D s := if_neg h
theorem cS_y {s : Nat} (h : f s = true) : cS f D V (s + 1) = cS f D V s + (if D s = 1 then V s else 0) := if_pos h
theorem cS_n {s : Nat} (h : ¬ f s = true) : cS f D V (s + 1) = cS f D V s := if_neg h
theorem aS_y {s : Nat} (h : f s = true) : aS f V (s + 1) = aS f V s + V s := if_pos h
theorem aS_n {s : Nat} (h : ¬ f s = true) : aS f V (s + 1) = aS f V s := if_neg h
theorem yN_y {s : Nat} (h : f s = true) : yN f D (s + 1) = yN f D s + D s := if_pos h
theorem yN_n {s : Nat} (h : ¬ f s = true) : yN f D (s + 1) = yN f D s := if_neg h
theorem cntB_n {s : Nat} (h : ¬ f s = true) : cntB f (s + 1) = cntB f s := if_neg h
theorem eS_mS (hD : ∀ s, D s ≤ 1) {E : Nat → Int32} : ∀ s, (∀ j, j < cntB f s → E j = V (dF f s j)) → eS E (mS f D s) (cntB f s) = cS f D V s ∧ tS E (cntB f s) = aS f V s
  | 0, _ => ⟨rfl, rfl⟩
  | s + 1, h => by
    by_cases c : f s = true
    · have hc := cntB_t c
      have ih := eS_mS hD (E := E) s fun j hj => by
        rw [h j (by omega), dF_old c (by omega)]
      have e1 := h (cntB f s) (by omega)
      rw [dF_new c] at e1
      have e2 := hD s
      have e3 : eS E (mS f D s + D s * 2 ^ cntB f s) (cntB f s) = eS E (mS f D s) (cntB f s) := eS_congr _ fun i hi => ⟨rfl, bt_lo hi⟩
      rw [mS_y c, cS_y c, aS_y c, hc, ← ih.1, ← ih.2]
      constructor
      · show eS E (mS f D s + D s * 2 ^ cntB f s) (cntB f s) + (if bt (mS f D s + D s * 2 ^ cntB f s) (cntB f s) = 1 then E (cntB f s) else 0) = _
        rw [bt_at (mS_lt hD s) e2, e1, e3]
      · show tS E (cntB f s) + E (cntB f s) = _
        rw [e1]
    · have ih := eS_mS hD (E := E) s fun j hj => by
        rw [h j (by rw [cntB_n c]; exact hj), dF_no c]
      rw [mS_n c, cS_n c, aS_n c, cntB_n c]
      exact ih
theorem cS_1 (hD : ∀ s, D s ≤ 1) : ∀ s, cS f D (fun _ => 1) s = nI (yN f D s)
  | 0 => rfl
  | s + 1 => by
    have ih := cS_1 hD s
    have h1 := hD s
    by_cases c : f s = true
    · rw [cS_y c, yN_y c, ih]
      by_cases c2 : D s = 1
      · rw [if_pos c2, c2, nI_s]
      · rw [if_neg c2, show D s = 0 by omega, Int32.add_zero, Nat.add_zero]
    · rw [cS_n c, yN_n c]
      exact ih
theorem eS_1 (hD : ∀ s, D s ≤ 1) (s : Nat) : eS (fun _ => 1) (mS f D s) (cntB f s) = nI (yN f D s) := by
  rw [← cS_1 hD s]
  exact (eS_mS (V := fun _ => 1) hD s fun _ _ => rfl).1
theorem dr_stop {s : Nat} : ∀ k, cntB f (s + k) = cntB f s → mS f D (s + k) = mS f D s ∧ dF f (s + k) = dF f s
  | 0, _ => ⟨rfl, rfl⟩
  | k + 1, h => by
    have hm : ∀ a, cntB f (s + a) ≥ cntB f s := fun a => by
      induction a with
      | zero => exact Nat.le_refl _
      | succ a ih =>
        have : cntB f (s + a + 1) ≥ cntB f (s + a) := by
          show (if f (s + a) then _ else _) ≥ _
          split <;> omega
        rw [← Nat.add_assoc]
        omega
    have hk := hm k
    by_cases c : f (s + k) = true
    · have := cntB_t c
      rw [← Nat.add_assoc] at h
      omega
    · have h2 := cntB_n c
      rw [← Nat.add_assoc] at h
      have ih := dr_stop (s := s) k (by omega)
      rw [← Nat.add_assoc, mS_n c, dF_no c]
      exact ih
end DR2
/-! the number of bits -/
def bc1 (a : Int32) : Int32 := a - (((a.toUInt32 >>> ((1 : Int32).toUInt32 &&& Int32.toUInt32 31)).toInt32) &&& 1431655765)
def bc2 (x : Int32) : Int32 := (x &&& 858993459) + (((x.toUInt32 >>> ((2 : Int32).toUInt32 &&& Int32.toUInt32 31)).toInt32) &&& 858993459)
def bc3 (x : Int32) : Int32 := (x + ((x.toUInt32 >>> ((4 : Int32).toUInt32 &&& Int32.toUInt32 31)).toInt32)) &&& 252645135
def bc4 (x : Int32) : Int32 := x + ((x.toUInt32 >>> ((8 : Int32).toUInt32 &&& Int32.toUInt32 31)).toInt32)
def bc5 (x : Int32) : Int32 := x + ((x.toUInt32 >>> ((16 : Int32).toUInt32 &&& Int32.toUInt32 31)).toInt32)
set_option maxRecDepth 100000 in
theorem bc_dec : ∀ X, X < 1024 → bc5 (bc4 (bc3 (bc2 (bc1 (nI X))))) &&& 63 = eS (fun _ => 1) X 10 := by decide +kernel

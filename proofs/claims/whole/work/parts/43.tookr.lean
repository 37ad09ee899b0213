/-! what gift and buy need of numbers, of a whole and of the batches -/
def dN (a b : Nat) : Nat := (a - b) + (b - a)
theorem abI_n {a b : Nat} (ha : a < 1000000) (hb : b < 1000000) : abI (nI a - nI b) = nI (dN a b) := by
  have ea := ti_nI (n := a) (by omega)
  have eb := ti_nI (n := b) (by omega)
  have e : (nI a - nI b).toInt = (a : Int) - b := by rw [ti_sub (by omega) (by omega), ea, eb]
  have z : (0 : Int32).toInt = 0 := rfl
  have r := ti_nI (n := dN a b) (by unfold dN; omega)
  have dd : dN a b = (a - b) + (b - a) := rfl
  unfold abI
  split
  · rename_i h
    rw [ti_le, e, z] at h
    apply ti_eq
    rw [e, r]
    omega
  · rename_i h
    rw [ti_le, e, z] at h
    apply ti_eq
    rw [ti_sub (by omega) (by omega), z, e, r]
    omega
theorem offI_n {a b : Nat} (ha : a < 1000000) (hb : b < 1000000) : offI (nI a) (nI b) = nI (dN a b) := by
  have dd : dN a b = (a - b) + (b - a) := rfl
  unfold offI
  by_cases c : a < b
  · rw [if_pos ((nI_lti (by omega) (by omega)).mpr c), nI_subn (by omega)]
    congr 1
    omega
  · rw [if_neg (fun q => c ((nI_lti (by omega) (by omega)).mp q)), nI_subn (by omega)]
    congr 1
    omega
def sN (el : Nat → Bool) (sh : Nat → Nat) : Nat → Nat
  | 0 => 0
  | n + 1 => sN el sh n + if el n = true then sh n else 0
theorem sN_sum {el : Nat → Bool} {sh : Nat → Nat} : ∀ n, sumTo (fSum el sh) n = nI (sN el sh n)
  | 0 => rfl
  | n + 1 => by
    show sumTo (fSum el sh) n + fSum el sh n = nI (sN el sh n + if el n = true then sh n else 0)
    rw [sN_sum n, ← nI_addn]
    unfold fSum
    split <;> rfl
theorem sN_le {el : Nat → Bool} {sh : Nat → Nat} : ∀ n, (∀ b, b < n → sh b ≤ 999) → sN el sh n ≤ 999 * n
  | 0, _ => Nat.le_refl _
  | n + 1, h => by
    have h1 := sN_le (el := el) n fun b hb => h b (by omega)
    have h2 := h n (by omega)
    unfold sN
    split <;> omega
theorem sN_0 {el : Nat → Bool} {sh : Nat → Nat} : ∀ n, sN el sh n = 0 → ∀ b, b < n → el b = true → sh b = 0
  | n + 1, h, b, hb, e => by
    have h' : sN el sh n + (if el n = true then sh n else 0) = 0 := h
    rcases Nat.lt_or_ge b n with c | c
    · exact sN_0 n (by omega) b c e
    · have : b = n := by omega
      subst this
      rw [if_pos e] at h'
      omega
theorem sN_z {el : Nat → Bool} {sh : Nat → Nat} : ∀ n, (∀ b, b < n → ¬ el b = true) → sN el sh n = 0
  | 0, _ => rfl
  | n + 1, h => by
    unfold sN
    rw [sN_z n fun b hb => h b (by omega), if_neg (h n (by omega))]
theorem totL_up {sh ln : Nat → Nat} {most : Nat} : ∀ n, 0 < n → totL sh ln most 1 ≤ totL sh ln most n
  | 1, _ => Nat.le_refl _
  | n + 2, _ => Nat.le_trans (totL_up (n + 1) (by omega)) (totL_mono _)
/-- nothing is lined up: the sum is 0, and nothing is taken -/
theorem none_iff {τ : St} {s k u : Int32} {sh ln md : Nat → Nat} {nB n most : Nat} (hL : Line (elS τ s k u sh) md nB n ln) (hsh : ∀ b, b < nB → sh b ≤ 999) (hB : nB ≤ 200) (hm : 1 ≤ most) : (sumTo (fSum (elS τ s k u sh) sh) nB = 0 ↔ n = 0) ∧ (totL sh ln most n = 0 ↔ n = 0) := by
  have h1 := sN_le (el := elS τ s k u sh) nB hsh
  have zz : nI (sN (elS τ s k u sh) sh nB) = 0 ↔ sN (elS τ s k u sh) sh nB = 0 := by
    rw [show (0 : Int32) = nI 0 from rfl]
    exact nI_inj (by omega) (by omega)
  rw [sN_sum, zz]
  refine ⟨⟨fun h => ?_, fun h => ?_⟩, ⟨fun h => ?_, fun h => ?_⟩⟩
  · rcases Nat.eq_zero_or_pos n with c | c
    · exact c
    · have h2 := hL.2.1 0 c
      have h3 := sN_0 nB h _ h2.1 h2.2
      have h4 := (elS_iff.mp h2.2).2.2.1
      omega
  · refine sN_z nB fun b hb e => ?_
    obtain ⟨j, hj, -⟩ := hL.2.2.1 b hb e
    omega
  · rcases Nat.eq_zero_or_pos n with c | c
    · exact c
    · have h2 := hL.2.1 0 c
      have h4 := (elS_iff.mp h2.2).2.2.1
      have h5 := totL_up (sh := sh) (ln := ln) (most := most) n c
      have h6 : totL sh ln most 1 = 0 + min (most - 0) (sh (ln 0)) := rfl
      omega
  · subst h
    rfl
/-- the batches when A b pieces left the shelf of b, told in col and q0 -/
def tkR (col q0 : Nat) (A : Nat → Nat) (σ σ' : St) : Prop := ∀ q c, sBatch q c → rd σ' q c = if 142 ≤ q ∧ q < 342 ∧ c = 5 then rd σ q c - nI (A (q - 142)) else if 142 ≤ q ∧ q < 342 ∧ c = col then rd σ q c + nI (A (q - 142)) else if q = q0 ∧ c < 200 then rd σ q c + nI (A c) else rd σ q c
theorem ti_c {x : Int32} {n m : Nat} (h : x = nI n) (hn : n < 2147483648) : x + nI m = nI (x.toNatClampNeg + m) := by
  rw [h, cl hn, nI_addn]
theorem IBatch.tookR6 {h n : Nat} {σ σ' : St} {A : Nat → Nat} (h0 : IBatch h n σ) (hA : ∀ b, b < n → A b ≤ shN σ b) (hz : ∀ b, n ≤ b → A b = 0) (r : tkR 6 77 A σ σ') : IBatch h n σ' := by
  have z := h0.1
  have K : ∀ b, b < n → rd σ (b + 142) 5 = nI (shN σ b) ∧ (∃ m, m < 2147483648 ∧ rd σ (b + 142) 6 = nI m) ∧ ∃ m, m < 2147483648 ∧ rd σ 77 b = nI m := fun b hb => by
    obtain ⟨s, k, lt, md, sh, so, mo, gi, th, hh, ⟨x0, x1, x2, x3, x4, x5, x6, x7, x8, x9⟩, ⟨y0, y1, y2, y3, y4, y5, y6, y7, y8⟩, z1, z2, z3⟩ := h0.2.2.2.1 b hb
    exact ⟨by unfold shN; rw [x5, cl (by omega)], ⟨so, by omega, x6⟩, ⟨so, by omega, y5⟩⟩
  refine IBatch.took6 A h0 hA (fun b hb => ?_) (fun b hb => ?_) (fun b hb => ?_) (fun p i hs h1 h2 => ?_)
  · rw [r _ _ (by unfold sBatch; omega), if_pos ⟨by omega, by omega, rfl⟩, Nat.add_sub_cancel, (K b hb).1, cl (by have := (h0.2.2.2.1 b hb); have h9 := Int32.toNatClampNeg_lt (rd σ (b + 142) 5); unfold shN; omega)]
    exact nI_subn (hA b hb)
  · obtain ⟨m, hm, e⟩ := (K b hb).2.1
    rw [r _ _ (by unfold sBatch; omega), if_neg (by omega), if_pos ⟨by omega, by omega, rfl⟩, Nat.add_sub_cancel]
    exact ti_c e hm
  · obtain ⟨m, hm, e⟩ := (K b hb).2.2
    rw [r _ _ (by unfold sBatch; omega), if_neg (by omega), if_neg (by omega), if_pos ⟨rfl, by omega⟩]
    exact ti_c e hm
  · rw [r _ _ hs]
    by_cases c : 142 ≤ p ∧ p < 342
    · have a0 : (i = 5 ∨ i = 6) → A (p - 142) = 0 := fun hi => hz _ (by omega)
      by_cases c5 : i = 5
      · rw [if_pos ⟨c.1, c.2, c5⟩, a0 (Or.inl c5), nI_z, Int32.sub_zero]
      · by_cases c6 : i = 6
        · rw [if_neg (by omega), if_pos ⟨c.1, c.2, c6⟩, a0 (Or.inr c6), nI_z, Int32.add_zero]
        · rw [if_neg (by omega), if_neg (by omega), if_neg (by omega)]
    · rw [if_neg (by omega), if_neg (by omega)]
      by_cases c7 : p = 77 ∧ i < 200
      · rw [if_pos c7, hz i (by omega), nI_z, Int32.add_zero]
      · rw [if_neg c7]
theorem IBatch.tookR7 {h n : Nat} {σ σ' : St} {A : Nat → Nat} (h0 : IBatch h n σ) (hA : ∀ b, b < n → A b ≤ shN σ b) (hz : ∀ b, n ≤ b → A b = 0) (r : tkR 7 78 A σ σ') : IBatch h n σ' := by
  have z := h0.1
  have K : ∀ b, b < n → rd σ (b + 142) 5 = nI (shN σ b) ∧ (∃ m, m < 2147483648 ∧ rd σ (b + 142) 7 = nI m) ∧ ∃ m, m < 2147483648 ∧ rd σ 78 b = nI m := fun b hb => by
    obtain ⟨s, k, lt, md, sh, so, mo, gi, th, hh, ⟨x0, x1, x2, x3, x4, x5, x6, x7, x8, x9⟩, ⟨y0, y1, y2, y3, y4, y5, y6, y7, y8⟩, z1, z2, z3⟩ := h0.2.2.2.1 b hb
    exact ⟨by unfold shN; rw [x5, cl (by omega)], ⟨mo, by omega, x7⟩, ⟨mo, by omega, y6⟩⟩
  refine IBatch.took7 A h0 hA (fun b hb => ?_) (fun b hb => ?_) (fun b hb => ?_) (fun p i hs h1 h2 => ?_)
  · rw [r _ _ (by unfold sBatch; omega), if_pos ⟨by omega, by omega, rfl⟩, Nat.add_sub_cancel, (K b hb).1, cl (by have := (h0.2.2.2.1 b hb); have h9 := Int32.toNatClampNeg_lt (rd σ (b + 142) 5); unfold shN; omega)]
    exact nI_subn (hA b hb)
  · obtain ⟨m, hm, e⟩ := (K b hb).2.1
    rw [r _ _ (by unfold sBatch; omega), if_neg (by omega), if_pos ⟨by omega, by omega, rfl⟩, Nat.add_sub_cancel]
    exact ti_c e hm
  · obtain ⟨m, hm, e⟩ := (K b hb).2.2
    rw [r _ _ (by unfold sBatch; omega), if_neg (by omega), if_neg (by omega), if_pos ⟨rfl, by omega⟩]
    exact ti_c e hm
  · rw [r _ _ hs]
    by_cases c : 142 ≤ p ∧ p < 342
    · have a0 : (i = 5 ∨ i = 7) → A (p - 142) = 0 := fun hi => hz _ (by omega)
      by_cases c5 : i = 5
      · rw [if_pos ⟨c.1, c.2, c5⟩, a0 (Or.inl c5), nI_z, Int32.sub_zero]
      · by_cases c6 : i = 7
        · rw [if_neg (by omega), if_pos ⟨c.1, c.2, c6⟩, a0 (Or.inr c6), nI_z, Int32.add_zero]
        · rw [if_neg (by omega), if_neg (by omega), if_neg (by omega)]
    · rw [if_neg (by omega), if_neg (by omega)]
      by_cases c7 : p = 78 ∧ i < 200
      · rw [if_pos c7, hz i (by omega), nI_z, Int32.add_zero]
      · rw [if_neg c7]
theorem IBatch.tookR8 {h n : Nat} {σ σ' : St} {A : Nat → Nat} (h0 : IBatch h n σ) (hA : ∀ b, b < n → A b ≤ shN σ b) (hz : ∀ b, n ≤ b → A b = 0) (r : tkR 8 79 A σ σ') : IBatch h n σ' := by
  have z := h0.1
  have K : ∀ b, b < n → rd σ (b + 142) 5 = nI (shN σ b) ∧ (∃ m, m < 2147483648 ∧ rd σ (b + 142) 8 = nI m) ∧ ∃ m, m < 2147483648 ∧ rd σ 79 b = nI m := fun b hb => by
    obtain ⟨s, k, lt, md, sh, so, mo, gi, th, hh, ⟨x0, x1, x2, x3, x4, x5, x6, x7, x8, x9⟩, ⟨y0, y1, y2, y3, y4, y5, y6, y7, y8⟩, z1, z2, z3⟩ := h0.2.2.2.1 b hb
    exact ⟨by unfold shN; rw [x5, cl (by omega)], ⟨gi, by omega, x8⟩, ⟨gi, by omega, y7⟩⟩
  refine IBatch.took8 A h0 hA (fun b hb => ?_) (fun b hb => ?_) (fun b hb => ?_) (fun p i hs h1 h2 => ?_)
  · rw [r _ _ (by unfold sBatch; omega), if_pos ⟨by omega, by omega, rfl⟩, Nat.add_sub_cancel, (K b hb).1, cl (by have := (h0.2.2.2.1 b hb); have h9 := Int32.toNatClampNeg_lt (rd σ (b + 142) 5); unfold shN; omega)]
    exact nI_subn (hA b hb)
  · obtain ⟨m, hm, e⟩ := (K b hb).2.1
    rw [r _ _ (by unfold sBatch; omega), if_neg (by omega), if_pos ⟨by omega, by omega, rfl⟩, Nat.add_sub_cancel]
    exact ti_c e hm
  · obtain ⟨m, hm, e⟩ := (K b hb).2.2
    rw [r _ _ (by unfold sBatch; omega), if_neg (by omega), if_neg (by omega), if_pos ⟨rfl, by omega⟩]
    exact ti_c e hm
  · rw [r _ _ hs]
    by_cases c : 142 ≤ p ∧ p < 342
    · have a0 : (i = 5 ∨ i = 8) → A (p - 142) = 0 := fun hi => hz _ (by omega)
      by_cases c5 : i = 5
      · rw [if_pos ⟨c.1, c.2, c5⟩, a0 (Or.inl c5), nI_z, Int32.sub_zero]
      · by_cases c6 : i = 8
        · rw [if_neg (by omega), if_pos ⟨c.1, c.2, c6⟩, a0 (Or.inr c6), nI_z, Int32.add_zero]
        · rw [if_neg (by omega), if_neg (by omega), if_neg (by omega)]
    · rw [if_neg (by omega), if_neg (by omega)]
      by_cases c7 : p = 79 ∧ i < 200
      · rw [if_pos c7, hz i (by omega), nI_z, Int32.add_zero]
      · rw [if_neg c7]

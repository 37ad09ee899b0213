/-! CRATES: the ways, pure. n crates, crate i for shop g i; c i the shop it comes from, z none -/
def cC (c : Nat → Nat) (s : Nat) : Nat → Nat
  | 0 => 0
  | k + 1 => cC c s k + if c k = s then 1 else 0
theorem cC_mono {c : Nat → Nat} {s a : Nat} : ∀ f, cC c s a ≤ cC c s (a + f)
  | 0 => Nat.le_refl _
  | f + 1 => by
    have := cC_mono (c := c) (s := s) (a := a) f
    show _ ≤ cC c s (a + f) + _
    omega
theorem cC_congr {c c' : Nat → Nat} {s : Nat} : ∀ k, (∀ j, j < k → (c j = s ↔ c' j = s)) → cC c s k = cC c' s k
  | 0, _ => rfl
  | k + 1, h => by
    show cC c s k + (if c k = s then 1 else 0) = cC c' s k + (if c' k = s then 1 else 0)
    rw [cC_congr k fun j hj => h j (by omega)]
    by_cases e : c k = s
    · rw [if_pos e, if_pos ((h k (by omega)).mp e)]
    · rw [if_neg e, if_neg (fun q => e ((h k (by omega)).mpr q))]
theorem cC_0 {c : Nat → Nat} {s i : Nat} : ∀ k, i < k → c i = s → 0 < cC c s k
  | 0, h, _ => absurd h (by omega)
  | k + 1, h, e => by
    show 0 < cC c s k + (if c k = s then 1 else 0)
    rcases Nat.lt_or_ge i k with q | q
    · have := cC_0 k q e
      omega
    · rw [show k = i by omega, if_pos e]
      omega
theorem cC_ex {c : Nat → Nat} {s : Nat} : ∀ k, 0 < cC c s k → ∃ i, i < k ∧ c i = s
  | 0, h => absurd h (Nat.lt_irrefl _)
  | k + 1, h => by
    by_cases e : c k = s
    · exact ⟨k, by omega, e⟩
    · have h2 : 0 < cC c s k + (if c k = s then 1 else 0) := h
      rw [if_neg e] at h2
      obtain ⟨i, hi, e2⟩ := cC_ex k h2
      exact ⟨i, by omega, e2⟩
/-- c with crate i from s -/
def stC (c : Nat → Nat) (i s : Nat) : Nat → Nat := fun j => if j = i then s else c j
theorem stC_y {c : Nat → Nat} {i s : Nat} : stC c i s i = s := if_pos rfl
theorem stC_n {c : Nat → Nat} {i s j : Nat} (h : j ≠ i) : stC c i s j = c j := if_neg h
theorem cC_st {c : Nat → Nat} {i s v : Nat} (hv : v ≠ s) (hi : c i = s) : ∀ k, cC (stC c i v) s k + (if i < k then 1 else 0) = cC c s k
  | 0 => rfl
  | k + 1 => by
    have ih := cC_st hv hi k
    show cC (stC c i v) s k + (if stC c i v k = s then 1 else 0) + (if i < k + 1 then 1 else 0) = cC c s k + (if c k = s then 1 else 0)
    by_cases e : k = i
    · subst e
      rw [stC_y, if_neg hv, if_pos hi, if_pos (Nat.lt_succ_self _)]
      rw [if_neg (Nat.lt_irrefl _)] at ih
      omega
    · rw [stC_n e]
      have : (i < k + 1) = (i < k) := by
        apply propext
        omega
      simp only [this]
      omega
theorem cC_st2 {c : Nat → Nat} {i s v : Nat} (hv : v ≠ s) (hi : c i ≠ s) : ∀ k, cC (stC c i v) s k = cC c s k := fun k => cC_congr k fun j _ => by
  by_cases e : j = i
  · subst e
    rw [stC_y]
    exact ⟨fun q => absurd q hv, fun q => absurd q hi⟩
  · rw [stC_n e]
/-- sums over the crates -/
def sU (f : Nat → Nat) : Nat → Nat
  | 0 => 0
  | k + 1 => sU f k + f k
theorem sU_congr {f f' : Nat → Nat} : ∀ k, (∀ j, j < k → f j = f' j) → sU f k = sU f' k
  | 0, _ => rfl
  | k + 1, h => by
    show sU f k + f k = sU f' k + f' k
    rw [sU_congr k fun j hj => h j (by omega), h k (by omega)]
theorem sU_one {f f' : Nat → Nat} {i x : Nat} (hi : f' i + x = f i) (ho : ∀ j, j ≠ i → f' j = f j) : ∀ k, i < k → sU f' k + x = sU f k
  | 0, h => absurd h (by omega)
  | k + 1, h => by
    show sU f' k + f' k + x = sU f k + f k
    rcases Nat.lt_or_ge i k with q | q
    · have := sU_one hi ho k q
      rw [ho k (by omega)]
      omega
    · have e : k = i := by omega
      subst e
      rw [sU_congr (f := f') (f' := f) k fun j hj => ho j (by omega)]
      omega
theorem sU_add {f f' f2 : Nat → Nat} : ∀ k, (∀ j, j < k → f j + f' j = f2 j) → sU f k + sU f' k = sU f2 k
  | 0, _ => rfl
  | k + 1, h => by
    have ih := sU_add (f := f) (f' := f') (f2 := f2) k fun j hj => h j (by omega)
    have h2 := h k (by omega)
    show sU f k + f k + (sU f' k + f' k) = sU f2 k + f2 k
    omega
theorem sU_le {f : Nat → Nat} {B : Nat} : ∀ k, (∀ j, j < k → f j ≤ B) → sU f k ≤ B * k
  | 0, _ => Nat.le_refl _
  | k + 1, h => by
    have ih := sU_le (f := f) (B := B) k fun j hj => h j (by omega)
    have := h k (by omega)
    show sU f k + f k ≤ _
    rw [Nat.mul_succ]
    omega
theorem sU_mono {f : Nat → Nat} {a : Nat} : ∀ k, sU f a ≤ sU f (a + k)
  | 0 => Nat.le_refl _
  | k + 1 => by
    have := sU_mono (f := f) (a := a) k
    show _ ≤ sU f (a + k) + _
    omega
def pw : Nat → Nat
  | 0 => 1048576
  | 1 => 65536
  | 2 => 4096
  | 3 => 256
  | 4 => 16
  | _ => 1
def dgt (z v : Nat) : Nat := if v = z then 15 else v
section WP
variable (z : Nat) (g : Nat → Nat) (ml : Nat → Nat → Nat)
def lkC (c : Nat → Nat) : Nat → Nat := sU fun i => if c i = z then 1 else 0
def miC (c : Nat → Nat) : Nat → Nat := sU fun i => if c i = z then 0 else ml (c i) (g i)
def dgC (c : Nat → Nat) : Nat → Nat := sU fun i => dgt z (c i) * pw i
/-- a way's number -/
def kyC (c : Nat → Nat) : Nat → Nat := sU fun i => if c i = z then 34359738368 + 15 * pw i else ml (c i) (g i) * 16777216 + c i * pw i
def coC (c : Nat → Nat) : Nat → Nat := sU fun i => if c i = z then 0 else ml (c i) (g i) * 16777216 + c i * pw i
def pnC (X : Nat) : Nat → Nat := sU fun i => if bt X i = 1 then 0 else 34359738368 + 15 * pw i
end WP
section WQ
variable {z : Nat} {g : Nat → Nat} {ml : Nat → Nat → Nat}
theorem ky_parts {c : Nat → Nat} : ∀ k, kyC z g ml c k = lkC z c k * 34359738368 + miC z g ml c k * 16777216 + dgC z c k
  | 0 => by simp [kyC, lkC, miC, dgC, sU]
  | k + 1 => by
    have ih := ky_parts (c := c) k
    show kyC z g ml c k + (if c k = z then 34359738368 + 15 * pw k else ml (c k) (g k) * 16777216 + c k * pw k) = (lkC z c k + if c k = z then 1 else 0) * 34359738368 + (miC z g ml c k + if c k = z then 0 else ml (c k) (g k)) * 16777216 + (dgC z c k + dgt z (c k) * pw k)
    rw [ih]
    unfold dgt
    by_cases e : c k = z
    · rw [if_pos e, if_pos e, if_pos e, if_pos e]
      omega
    · rw [if_neg e, if_neg e, if_neg e, if_neg e]
      omega
theorem ky_split {c : Nat → Nat} {X n : Nat} (h : ∀ i, i < n → (bt X i = 1 ↔ c i ≠ z)) : coC z g ml c n + pnC X n = kyC z g ml c n := sU_add n fun j hj => by
  have := h j hj
  by_cases e : c j = z
  · rw [if_pos e, if_pos e, if_neg (fun q => this.mp q e), Nat.zero_add]
  · rw [if_neg e, if_neg e, if_pos (this.mpr e), Nat.add_zero]
/-- the digits, six at most -/
def dD (z n : Nat) (c : Nat → Nat) (i : Nat) : Nat := if i < n then dgt z (c i) else 0
theorem dg_6 {c : Nat → Nat} {n : Nat} (hn : n ≤ 6) : dgC z c n = dD z n c 0 * 1048576 + dD z n c 1 * 65536 + dD z n c 2 * 4096 + dD z n c 3 * 256 + dD z n c 4 * 16 + dD z n c 5 := by
  have e : n = 0 ∨ n = 1 ∨ n = 2 ∨ n = 3 ∨ n = 4 ∨ n = 5 ∨ n = 6 := by omega
  rcases e with rfl | rfl | rfl | rfl | rfl | rfl | rfl <;> simp [dgC, sU, dD, pw] <;> omega
theorem dD_lt {c : Nat → Nat} {n i : Nat} (hz : z ≤ 12) (hc : ∀ i, i < n → c i ≤ z) : dD z n c i ≤ 15 := by
  unfold dD
  split
  · rename_i h
    have := hc i h
    unfold dgt
    split <;> omega
  · omega
theorem dg_lt {c : Nat → Nat} {n : Nat} (hn : n ≤ 6) (hz : z ≤ 12) (hc : ∀ i, i < n → c i ≤ z) : dgC z c n < 16777216 := by
  have h := fun i => dD_lt (i := i) hz hc
  rw [dg_6 hn]
  have h0 := h 0
  have h1 := h 1
  have h2 := h 2
  have h3 := h 3
  have h4 := h 4
  have h5 := h 5
  omega
theorem dgt_lt {a b : Nat} (hz : z ≤ 12) (h : a < b) (hb : b ≤ z) : dgt z a < dgt z b := by
  unfold dgt
  rw [if_neg (by omega)]
  split <;> omega
theorem dgt_inj {a b : Nat} (hz : z ≤ 12) (ha : a ≤ z) (hb : b ≤ z) (h : dgt z a = dgt z b) : a = b := by
  unfold dgt at h
  split at h <;> split at h <;> omega
theorem dg_lex {b c : Nat → Nat} {n k : Nat} (hn : n ≤ 6) (hz : z ≤ 12) (hb : ∀ i, i < n → b i ≤ z) (hc : ∀ i, i < n → c i ≤ z) (hk : k < n) (he : ∀ j, j < k → b j = c j) (hlt : b k < c k) : dgC z b n < dgC z c n := by
  have B := fun i => dD_lt (i := i) hz hb
  have C := fun i => dD_lt (i := i) hz hc
  have E : ∀ j, j < k → dD z n b j = dD z n c j := fun j hj => by
    unfold dD
    rw [he j hj]
  have L : dD z n b k < dD z n c k := by
    unfold dD
    rw [if_pos hk, if_pos hk]
    exact dgt_lt hz hlt (hc k hk)
  rw [dg_6 hn, dg_6 hn]
  have b0 := B 0
  have b1 := B 1
  have b2 := B 2
  have b3 := B 3
  have b4 := B 4
  have b5 := B 5
  have e : k = 0 ∨ k = 1 ∨ k = 2 ∨ k = 3 ∨ k = 4 ∨ k = 5 := by omega
  rcases e with rfl | rfl | rfl | rfl | rfl | rfl
  · omega
  · have := E 0 (by omega)
    omega
  · have := E 0 (by omega)
    have := E 1 (by omega)
    omega
  · have := E 0 (by omega)
    have := E 1 (by omega)
    have := E 2 (by omega)
    omega
  · have := E 0 (by omega)
    have := E 1 (by omega)
    have := E 2 (by omega)
    have := E 3 (by omega)
    omega
  · have := E 0 (by omega)
    have := E 1 (by omega)
    have := E 2 (by omega)
    have := E 3 (by omega)
    have := E 4 (by omega)
    omega
theorem mi_lt {c : Nat → Nat} {n : Nat} (hn : n ≤ 6) (hml : ∀ s t, ml s t ≤ 198) : miC z g ml c n < 2048 := by
  have h1 := sU_le (f := fun i => if c i = z then 0 else ml (c i) (g i)) (B := 198) n fun j _ => by
    have := hml (c j) (g j)
    split <;> omega
  have h2 : 198 * n ≤ 198 * 6 := Nat.mul_le_mul_left _ hn
  show sU _ n < 2048
  omega
theorem lk_le {c : Nat → Nat} {n : Nat} : lkC z c n ≤ n := by
  have := sU_le (f := fun i => if c i = z then 1 else 0) (B := 1) n fun j _ => by
    split <;> omega
  show sU _ n ≤ n
  omega
theorem ky_lt {c : Nat → Nat} {n : Nat} (hn : n ≤ 6) (hz : z ≤ 12) (hml : ∀ s t, ml s t ≤ 198) (hc : ∀ i, i < n → c i ≤ z) : kyC z g ml c n < 274877906944 := by
  rw [ky_parts]
  have := mi_lt (c := c) (z := z) (g := g) hn hml
  have := dg_lt (c := c) hn hz hc
  have := lk_le (z := z) (c := c) (n := n)
  omega
/-- what a way's number tells -/
theorem ky_dig {c : Nat → Nat} {n i : Nat} (hn : n ≤ 6) (hz : z ≤ 12) (hc : ∀ i, i < n → c i ≤ z) (hi : i < n) : kyC z g ml c n / pw i % 16 = dgt z (c i) := by
  have C := fun i => dD_lt (i := i) hz hc
  have e : dD z n c i = dgt z (c i) := if_pos hi
  rw [← e, ky_parts, dg_6 hn]
  have b0 := C 0
  have b1 := C 1
  have b2 := C 2
  have b3 := C 3
  have b4 := C 4
  have b5 := C 5
  have e : i = 0 ∨ i = 1 ∨ i = 2 ∨ i = 3 ∨ i = 4 ∨ i = 5 := by omega
  rcases e with rfl | rfl | rfl | rfl | rfl | rfl
  · rw [show pw 0 = 1048576 from rfl]
    omega
  · rw [show pw 1 = 65536 from rfl]
    omega
  · rw [show pw 2 = 4096 from rfl]
    omega
  · rw [show pw 3 = 256 from rfl]
    omega
  · rw [show pw 4 = 16 from rfl]
    omega
  · rw [show pw 5 = 1 from rfl]
    omega
theorem ky_mi {c : Nat → Nat} {n : Nat} (hn : n ≤ 6) (hz : z ≤ 12) (hml : ∀ s t, ml s t ≤ 198) (hc : ∀ i, i < n → c i ≤ z) : kyC z g ml c n / 16777216 % 2048 = miC z g ml c n := by
  rw [ky_parts]
  have := mi_lt (c := c) (z := z) (g := g) hn hml
  have := dg_lt (c := c) hn hz hc
  omega
end WQ
/-- a way that may be: as the reference asks, crate by crate -/
def vld (z : Nat) (g sp c : Nat → Nat) (k : Nat) : Prop := ∀ i, i < k → c i = z ∨ (c i < z ∧ c i ≠ g i ∧ cC c (c i) (i + 1) ≤ sp (c i))
theorem vld_le {z : Nat} {g sp c : Nat → Nat} {k : Nat} (h : vld z g sp c k) : ∀ i, i < k → c i ≤ z := fun i hi => by
  rcases h i hi with q | q <;> omega
theorem vld_iff {z : Nat} {g sp c : Nat → Nat} {k : Nat} : vld z g sp c k ↔ (∀ i, i < k → c i = z ∨ (c i < z ∧ c i ≠ g i)) ∧ ∀ s, s < z → cC c s k ≤ sp s := by
  constructor
  · intro h
    refine ⟨fun i hi => ?_, fun s hs => ?_⟩
    · rcases h i hi with q | q
      · exact Or.inl q
      · exact Or.inr ⟨q.1, q.2.1⟩
    · have : ∀ m, m ≤ k → cC c s m ≤ sp s := fun m => by
        induction m with
        | zero => exact fun _ => Nat.zero_le _
        | succ m ih =>
          intro hm
          have h1 := ih (by omega)
          by_cases e : c m = s
          · rcases h m (by omega) with q | q
            · omega
            · rw [e] at q
              exact q.2.2
          · show cC c s m + (if c m = s then 1 else 0) ≤ _
            rw [if_neg e]
            exact h1
      exact this k (Nat.le_refl _)
  · rintro ⟨h1, h2⟩ i hi
    rcases h1 i hi with q | q
    · exact Or.inl q
    · have := cC_mono (c := c) (s := c i) (a := i + 1) (k - (i + 1))
      rw [show i + 1 + (k - (i + 1)) = k by omega] at this
      exact Or.inr ⟨q.1, q.2, Nat.le_trans this (h2 _ q.1)⟩
/-- any set of crates is a number's bits -/
theorem ex_bits (f : Nat → Bool) : ∀ n, ∃ X, X < 2 ^ n ∧ ∀ i, i < n → (bt X i = 1 ↔ f i = true)
  | 0 => ⟨0, by omega, fun i hi => absurd hi (by omega)⟩
  | n + 1 => by
    obtain ⟨X, h1, h2⟩ := ex_bits f n
    rcases hf : f n with _ | _
    · refine ⟨X, by rw [Nat.pow_succ]; omega, fun i hi => ?_⟩
      rcases Nat.lt_or_ge i n with c | c
      · exact h2 i c
      · rw [show i = n by omega, bt_hi h1 (Nat.le_refl _), hf]
        simp
    · refine ⟨X + 1 * 2 ^ n, by rw [Nat.pow_succ]; omega, fun i hi => ?_⟩
      rcases Nat.lt_or_ge i n with c | c
      · rw [bt_lo c]
        exact h2 i c
      · rw [show i = n by omega, bt_at h1 (by omega), hf]
        simp
set_option maxRecDepth 100000 in
theorem bx_dec : ∀ i, i < 6 → ∀ X, X < 64 → bt X i = 1 → (nI X ^^^ ((1 : Int32) <<< (nI i &&& 31)) = nI (X - 2 ^ i) ∧ 2 ^ i ≤ X ∧ ∀ j, j < 6 → bt (X - 2 ^ i) j = if j = i then 0 else bt X j) := by decide +kernel
theorem p64 {n : Nat} (h : n ≤ 6) : 2 ^ n ≤ 64 := by
  have := Nat.pow_le_pow_right (n := 2) (by omega) h
  omega
/-- one more of shop s: what best becomes at a mask -/
def inn (B : Nat → Nat) (g : Nat → Nat) (ml : Nat → Nat → Nat) (X s : Nat) : Nat → Nat
  | 0 => B X
  | k + 1 => if bt X k = 1 ∧ g k ≠ s then min (inn B g ml X s k) (B (X - 2 ^ k) + (ml s (g k) * 16777216 + s * pw k)) else inn B g ml X s k
section IV
variable {z n : Nat} {g : Nat → Nat} {ml : Nat → Nat → Nat}
theorem inn_le {B : Nat → Nat} {X s : Nat} : ∀ k, inn B g ml X s k ≤ B X ∧ ∀ i, i < k → bt X i = 1 → g i ≠ s → inn B g ml X s k ≤ B (X - 2 ^ i) + (ml s (g i) * 16777216 + s * pw i)
  | 0 => ⟨Nat.le_refl _, fun i hi => absurd hi (by omega)⟩
  | k + 1 => by
    obtain ⟨h1, h2⟩ := inn_le (B := B) (X := X) (s := s) k
    unfold inn
    split
    · refine ⟨by omega, fun i hi q1 q2 => ?_⟩
      rcases Nat.lt_or_ge i k with r | r
      · have := h2 i r q1 q2
        omega
      · rw [show i = k by omega]
        omega
    · rename_i hn
      refine ⟨h1, fun i hi q1 q2 => ?_⟩
      rcases Nat.lt_or_ge i k with r | r
      · exact h2 i r q1 q2
      · rw [show i = k by omega] at q1 q2
        exact absurd ⟨q1, q2⟩ hn
theorem inn_ex {B : Nat → Nat} {X s : Nat} : ∀ k, inn B g ml X s k = B X ∨ ∃ i, i < k ∧ bt X i = 1 ∧ g i ≠ s ∧ inn B g ml X s k = B (X - 2 ^ i) + (ml s (g i) * 16777216 + s * pw i)
  | 0 => Or.inl rfl
  | k + 1 => by
    have ih := inn_ex (B := B) (X := X) (s := s) k
    unfold inn
    split
    · rename_i hc
      rcases Nat.le_total (inn B g ml X s k) (B (X - 2 ^ k) + (ml s (g k) * 16777216 + s * pw k)) with r | r
      · rw [Nat.min_eq_left r]
        rcases ih with e | ⟨i, hi, q⟩
        · exact Or.inl e
        · exact Or.inr ⟨i, by omega, q⟩
      · rw [Nat.min_eq_right r]
        exact Or.inr ⟨k, by omega, hc.1, hc.2, rfl⟩
    · rcases ih with e | ⟨i, hi, q⟩
      · exact Or.inl e
      · exact Or.inr ⟨i, by omega, q⟩
/-- c has just the crates of X, with at most u s of each shop -/
def vU (z n : Nat) (g u c : Nat → Nat) (X : Nat) : Prop := (∀ i, i < n → (bt X i = 1 ↔ c i ≠ z)) ∧ (∀ i, i < n → c i = z ∨ (c i < z ∧ c i ≠ g i)) ∧ ∀ s, s < z → cC c s n ≤ u s
def NW : Nat := 1152921504606846976
def inv1 (z n : Nat) (g : Nat → Nat) (ml : Nat → Nat → Nat) (u B : Nat → Nat) : Prop := ∀ X, X < 2 ^ n → B X ≤ NW ∧ (B X = NW ∨ ∃ c, vU z n g u c X ∧ B X = coC z g ml c n) ∧ ∀ c, vU z n g u c X → B X ≤ coC z g ml c n
def upN (u : Nat → Nat) (s : Nat) : Nat → Nat := fun t => if t = s then u t + 1 else u t
theorem co_st {c : Nat → Nat} {i s : Nat} (hs : s ≠ z) (hi : i < n) (h : c i = s) : coC z g ml (stC c i z) n + (ml s (g i) * 16777216 + s * pw i) = coC z g ml c n := by
  refine sU_one (i := i) ?_ (fun j hj => ?_) n hi
  · rw [stC_y, if_pos rfl, h, if_neg hs, Nat.zero_add]
  · rw [stC_n hj]
theorem inv1_step {u B : Nat → Nat} {s : Nat} (hn : n ≤ 6) (hs : s < z) (h : inv1 z n g ml u B) : inv1 z n g ml (upN u s) (fun X => inn B g ml X s n) := by
  intro X hX
  have p6 := p64 hn
  obtain ⟨h1, h2, h3⟩ := h X hX
  obtain ⟨l1, l2⟩ := inn_le (g := g) (ml := ml) (B := B) (X := X) (s := s) n
  have up : ∀ t, u t ≤ upN u s t := fun t => by
    unfold upN
    split <;> omega
  have wk : ∀ c, vU z n g u c X → vU z n g (upN u s) c X := fun c hc => ⟨hc.1, hc.2.1, fun t ht => Nat.le_trans (hc.2.2 t ht) (up t)⟩
  refine ⟨Nat.le_trans l1 h1, ?_, fun c hc => ?_⟩
  · rcases inn_ex (g := g) (ml := ml) (B := B) (X := X) (s := s) n with e | ⟨i, hi, b1, b2, e⟩
    · dsimp only
      rw [e]
      rcases h2 with q | ⟨c, hc, q⟩
      · exact Or.inl q
      · exact Or.inr ⟨c, wk c hc, q⟩
    · obtain ⟨-, x2, x3⟩ := bx_dec i (by omega) X (by omega) b1
      obtain ⟨k1, k2, k3⟩ := h (X - 2 ^ i) (Nat.lt_of_le_of_lt (Nat.sub_le _ _) hX)
      rcases k2 with q | ⟨c, hc, q⟩
      · left
        dsimp only
        rw [e, q]
        rw [e, q] at l1
        omega
      · right
        have ci : c i = z := by
          by_cases r : c i = z
          · exact r
          · have := (hc.1 i hi).mpr r
            rw [x3 i (by omega), if_pos rfl] at this
            omega
        have bk : stC (stC c i s) i z = c := funext fun j => by
          by_cases r : j = i
          · subst r
            rw [stC_y, ci]
          · rw [stC_n r, stC_n r]
        refine ⟨stC c i s, ⟨fun j hj => ?_, fun j hj => ?_, fun t ht => ?_⟩, ?_⟩
        · by_cases r : j = i
          · subst r
            rw [stC_y]
            exact ⟨fun _ => by omega, fun _ => b1⟩
          · rw [stC_n r, ← hc.1 j hj, x3 j (by omega), if_neg r]
        · by_cases r : j = i
          · subst r
            rw [stC_y]
            exact Or.inr ⟨hs, fun r => b2 r.symm⟩
          · rw [stC_n r]
            exact hc.2.1 j hj
        · by_cases r : t = s
          · subst r
            have := cC_st (c := stC c i t) (i := i) (s := t) (v := z) (by omega) stC_y n
            rw [bk, if_pos hi] at this
            have := hc.2.2 t ht
            unfold upN
            rw [if_pos rfl]
            omega
          · have := cC_st2 (c := c) (i := i) (s := t) (v := s) (fun q => r q.symm) (by omega) n
            rw [this]
            exact Nat.le_trans (hc.2.2 t ht) (up t)
        · dsimp only
          rw [e, q]
          have := co_st (g := g) (ml := ml) (c := stC c i s) (n := n) (z := z) (s := s) (by omega) hi stC_y
          rw [bk] at this
          exact this
  · by_cases q : cC c s n ≤ u s
    · refine Nat.le_trans l1 (h3 c ⟨hc.1, hc.2.1, fun t ht => ?_⟩)
      by_cases r : t = s
      · subst r
        exact q
      · have := hc.2.2 t ht
        unfold upN at this
        rw [if_neg r] at this
        exact this
    · obtain ⟨i, hi, ci⟩ := cC_ex (c := c) (s := s) n (by omega)
      have b1 : bt X i = 1 := (hc.1 i hi).mpr (by omega)
      have b2 : g i ≠ s := by
        rcases hc.2.1 i hi with r | r
        · omega
        · intro e
          exact r.2 (by rw [ci, e])
      obtain ⟨-, x2, x3⟩ := bx_dec i (by omega) X (by omega) b1
      obtain ⟨k1, k2, k3⟩ := h (X - 2 ^ i) (Nat.lt_of_le_of_lt (Nat.sub_le _ _) hX)
      have l3 := l2 i hi b1 b2
      have l4 := k3 (stC c i z) ⟨fun j hj => ?_, fun j hj => ?_, fun t ht => ?_⟩
      · have l5 := co_st (g := g) (ml := ml) (c := c) (n := n) (z := z) (s := s) (by omega) hi ci
        dsimp only
        omega
      · by_cases r : j = i
        · subst r
          rw [stC_y, x3 j (by omega), if_pos rfl]
          exact ⟨fun q => absurd q (by omega), fun q => absurd rfl q⟩
        · rw [stC_n r, x3 j (by omega), if_neg r]
          exact hc.1 j hj
      · by_cases r : j = i
        · subst r
          rw [stC_y]
          exact Or.inl rfl
        · rw [stC_n r]
          exact hc.2.1 j hj
      · have h5 := hc.2.2 t ht
        unfold upN at h5
        by_cases r : t = s
        · subst r
          rw [if_pos rfl] at h5
          have := cC_st (c := c) (i := i) (s := t) (v := z) (by omega) ci n
          rw [if_pos hi] at this
          omega
        · rw [if_neg r] at h5
          rw [cC_st2 (c := c) (i := i) (s := t) (v := z) (by omega) (by rw [ci]; exact fun q => r q.symm) n]
          exact h5
theorem inv1_0 : inv1 z n g ml (fun _ => 0) (fun X => if X = 0 then 0 else NW) := by
  intro X hX
  have z0 : coC z g ml (fun _ => z) n = 0 := by
    have := sU_le (f := fun i => if (fun _ => z) i = z then 0 else ml ((fun _ => z) i) (g i) * 16777216 + (fun _ => z) i * pw i) (B := 0) n fun j _ => by
      dsimp only
      rw [if_pos rfl]
      exact Nat.le_refl _
    show sU _ n = 0
    omega
  have c0 : ∀ s, s < z → ∀ k, cC (fun _ => z) s k = 0 := fun s hs k => by
    rcases Nat.eq_zero_or_pos (cC (fun _ => z) s k) with q | q
    · exact q
    · obtain ⟨i, -, e⟩ := cC_ex k q
      omega
  have b0 : ∀ i, bt 0 i = 0 := fun i => by
    unfold bt
    rw [Nat.zero_div]
  by_cases e : X = 0
  · subst e
    dsimp only
    rw [if_pos rfl]
    refine ⟨by unfold NW; omega, Or.inr ⟨fun _ => z, ⟨fun i _ => ?_, fun i _ => Or.inl rfl, fun s hs => by rw [c0 s hs]; exact Nat.le_refl _⟩, z0.symm⟩, fun c hc => Nat.zero_le _⟩
    rw [b0]
    exact ⟨fun q => absurd q (by omega), fun q => absurd rfl q⟩
  · dsimp only
    rw [if_neg e]
    refine ⟨Nat.le_refl _, Or.inl rfl, fun c hc => ?_⟩
    exfalso
    apply e
    have all0 : ∀ i, i < n → bt X i = 0 := fun i hi => by
      rcases hc.2.1 i hi with r | r
      · rcases bt_2 X i with q | q
        · exact q
        · exact absurd r ((hc.1 i hi).mp q)
      · have h1 : cC c (c i) n ≤ 0 := hc.2.2 (c i) r.1
        have h2 := cC_0 n hi (rfl : c i = c i)
        omega
    have : ∀ m, m ≤ n → X < 2 ^ m → (∀ i, i < m → bt X i = 0) → X = 0 := fun m => by
      induction m with
      | zero => exact fun _ h _ => by omega
      | succ m ih =>
        intro hm h hb
        refine ih (by omega) ?_ (fun i hi => hb i (by omega))
        have h1 := hb m (by omega)
        unfold bt at h1
        rw [Nat.pow_succ] at h
        have h2 : X / 2 ^ m < 2 := Nat.div_lt_of_lt_mul (by omega)
        have h3 : X / 2 ^ m = 0 := by
          generalize X / 2 ^ m = y at h1 h2
          omega
        exact (Nat.div_eq_zero_iff_lt (Nat.pow_pos (by omega))).mp h3
    exact this n (Nat.le_refl _) hX all0
/-- the least over all masks -/
def bAl (B : Nat → Nat) (n : Nat) : Nat → Nat
  | 0 => NW
  | X + 1 => min (bAl B n X) (B X + pnC X n)
theorem bAl_le {B : Nat → Nat} : ∀ m X, X < m → bAl B n m ≤ B X + pnC X n
  | 0, X, h => absurd h (by omega)
  | m + 1, X, h => by
    unfold bAl
    rcases Nat.lt_or_ge X m with q | q
    · have := bAl_le (B := B) m X q
      omega
    · rw [show X = m by omega]
      omega
theorem bAl_ex {B : Nat → Nat} : ∀ m, bAl B n m = NW ∨ ∃ X, X < m ∧ bAl B n m = B X + pnC X n
  | 0 => Or.inl rfl
  | m + 1 => by
    unfold bAl
    rcases Nat.le_total (bAl B n m) (B m + pnC m n) with r | r
    · rw [Nat.min_eq_left r]
      rcases bAl_ex (B := B) m with e | ⟨X, hX, e⟩
      · exact Or.inl e
      · exact Or.inr ⟨X, by omega, e⟩
    · rw [Nat.min_eq_right r]
      exact Or.inr ⟨m, by omega, rfl⟩
theorem bAl_min {B u : Nat → Nat} (hn : n ≤ 6) (hz : z ≤ 12) (hml : ∀ s t, ml s t ≤ 198) (h : inv1 z n g ml u B) : (∃ c, vld z g u c n ∧ bAl B n (2 ^ n) = kyC z g ml c n) ∧ ∀ c, vld z g u c n → bAl B n (2 ^ n) ≤ kyC z g ml c n := by
  have lo : ∀ c, vld z g u c n → bAl B n (2 ^ n) ≤ kyC z g ml c n := fun c hc => by
    obtain ⟨v1, v2⟩ := vld_iff.mp hc
    obtain ⟨X, hX, hb⟩ := ex_bits (fun i => decide (c i ≠ z)) n
    have hb' : ∀ i, i < n → (bt X i = 1 ↔ c i ≠ z) := fun i hi => by
      rw [hb i hi]
      simp
    have h1 := (h X hX).2.2 c ⟨hb', v1, v2⟩
    have h2 := bAl_le (n := n) (B := B) (2 ^ n) X hX
    have h3 := ky_split (g := g) (ml := ml) hb'
    omega
  refine ⟨?_, lo⟩
  have vz : vld z g u (fun _ => z) n := fun i _ => Or.inl rfl
  have lz := lo _ vz
  have kz := ky_lt (g := g) hn hz hml (vld_le vz)
  rcases bAl_ex (n := n) (B := B) (2 ^ n) with e | ⟨X, hX, e⟩
  · rw [e] at lz
    unfold NW at lz
    omega
  · obtain ⟨h1, h2, h3⟩ := h X hX
    rcases h2 with q | ⟨c, hc, q⟩
    · rw [e, q] at lz
      unfold NW at lz
      omega
    · refine ⟨c, vld_iff.mpr hc.2, ?_⟩
      rw [e, q]
      exact ky_split hc.1
end IV

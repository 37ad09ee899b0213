/-! PLAN: the ways in their order -/
def triN : Nat → Nat
  | 0 => 1
  | k + 1 => triN k + (k + 2)
def tetN : Nat → Nat
  | 0 => 1
  | k + 1 => tetN k + triN (k + 1)
/-- how many ways of k hours there are from step v on -/
def nN (k : Nat) : Nat → Nat
  | 0 => tetN k
  | 1 => triN k
  | 2 => k + 1
  | _ + 3 => 1
def gN (k : Nat) : Nat → Nat
  | 0 => triN (k + 1)
  | 1 => k + 2
  | 2 => 1
  | _ + 3 => 0
theorem nN_s (k v : Nat) : nN (k + 1) v = nN k v + gN k v := by
  match v with
  | 0 => rfl
  | 1 => rfl
  | 2 => rfl
  | _ + 3 => rfl
theorem gN_n {k v : Nat} (h : v < 3) : gN k v = nN (k + 1) (v + 1) := by
  match v, h with
  | 0, _ => rfl
  | 1, _ => rfl
  | 2, _ => rfl
/-- how many ways are left, this one with them -/
def rmn (t : Nat → Nat) : Nat → Nat
  | 0 => 1
  | k + 1 => rmn t k + gN k (t (13 - k))
theorem rmn_pos {t : Nat → Nat} : ∀ k, 1 ≤ rmn t k
  | 0 => Nat.le_refl _
  | k + 1 => by
    have := rmn_pos (t := t) k
    unfold rmn
    omega
theorem rmn_c {t : Nat → Nat} {v : Nat} : ∀ k, (∀ j, j < k → t (13 - j) = v) → rmn t k = nN k v
  | 0, _ => by
    match v with
    | 0 => rfl
    | 1 => rfl
    | 2 => rfl
    | _ + 3 => rfl
  | k + 1, h => by
    rw [show rmn t (k + 1) = rmn t k + gN k (t (13 - k)) from rfl, rmn_c k fun j hj => h j (by omega), h k (by omega), nN_s]
def fnd (t : Nat → Nat) (s : Nat) : Nat → Option Nat
  | 0 => none
  | n + 1 => if t (s + n) < 3 then some (s + n) else fnd t s n
theorem fnd_some {t : Nat → Nat} {s i : Nat} : ∀ n, fnd t s n = some i → s ≤ i ∧ i < s + n ∧ t i < 3 ∧ ∀ j, i < j → j < s + n → ¬ t j < 3
  | 0, h => by simp [fnd] at h
  | n + 1, h => by
    unfold fnd at h
    by_cases c : t (s + n) < 3
    · rw [if_pos c] at h
      have e := Option.some.inj h
      subst e
      exact ⟨by omega, by omega, c, fun j h1 h2 => absurd h2 (by omega)⟩
    · rw [if_neg c] at h
      obtain ⟨h1, h2, h3, h4⟩ := fnd_some n h
      refine ⟨h1, by omega, h3, fun j q1 q2 => ?_⟩
      rcases Nat.lt_or_ge j (s + n) with r | r
      · exact h4 j q1 r
      · rw [show j = s + n by omega]
        exact c
def rais (t : Nat → Nat) (i : Nat) : Nat → Nat := fun j => if i ≤ j then t i + 1 else t j
theorem rais_rm {t : Nat → Nat} {i : Nat} (hi : i ≤ 13) (h3 : t i < 3) (ha : ∀ j, i < j → j < 14 → t j = 3) : ∀ k, 14 - i ≤ k → k ≤ 14 → rmn (rais t i) k + 1 = rmn t k
  | 0, h, _ => absurd h (by omega)
  | k + 1, h, hk => by
    rcases Nat.lt_or_ge k (14 - i) with c | c
    · have e : k = 13 - i := by omega
      subst e
      rw [rmn_c (t := rais t i) (v := t i + 1) (13 - i + 1) fun j hj => if_pos (by omega), show rmn t (13 - i + 1) = rmn t (13 - i) + gN (13 - i) (t (13 - (13 - i))) from rfl, rmn_c (t := t) (v := 3) (13 - i) fun j hj => ha _ (by omega) (by omega), show 13 - (13 - i) = i by omega, gN_n h3]
      show _ = 1 + _
      omega
    · have ih := rais_rm hi h3 ha k c (by omega)
      rw [show rmn (rais t i) (k + 1) = rmn (rais t i) k + gN k (rais t i (13 - k)) from rfl, show rmn t (k + 1) = rmn t k + gN k (t (13 - k)) from rfl, ← ih, show rais t i (13 - k) = t (13 - k) from if_neg (by omega)]
      omega
theorem nN_680 : ∀ k, k < 15 → ∀ v, v < 4 → nN k v ≤ 680 := by decide +kernel
abbrev Acc : Type := Option (Int64 × (Nat → Nat))
def upA (W : (Nat → Nat) → Int64) (t : Nat → Nat) : Acc → Acc
  | none => some (W t, t)
  | some (w, b) => if lg_cmp (W t) w ≤ 0 then some (w, b) else some (W t, t)
def run (W : (Nat → Nat) → Int64) (s n : Nat) : Nat → (Nat → Nat) → Acc → Acc
  | 0, _, a => a
  | f + 1, t, a => match fnd t s n with
    | none => upA W t a
    | some i => run W s n f (rais t i) (upA W t a)
theorem run_n {W : (Nat → Nat) → Int64} {s n f : Nat} {t : Nat → Nat} {a : Acc} (h : fnd t s n = none) : run W s n (f + 1) t a = upA W t a := by
  unfold run
  rw [h]
theorem run_s {W : (Nat → Nat) → Int64} {s n f i : Nat} {t : Nat → Nat} {a : Acc} (h : fnd t s n = some i) : run W s n (f + 1) t a = run W s n f (rais t i) (upA W t a) := by
  rw [show run W s n (f + 1) t a = match fnd t s n with
    | none => upA W t a
    | some i => run W s n f (rais t i) (upA W t a) from rfl, h]
def lfN (A : Nat → Nat → Int32) (t : Nat → Nat) (s : Nat) (stock : Int32) : Nat → Int32
  | 0 => stock
  | n + 1 => lfN A t s stock n - mnI (lfN A t s stock n) (A (s + n) (t (s + n)))
def cwN (A : Nat → Nat → Int32) (P : Nat → Int32) (t : Nat → Nat) (s : Nat) (stock : Int32) : Nat → Int64
  | 0 => 0
  | n + 1 => cwN A P t s stock n + (mnI (lfN A t s stock n) (A (s + n) (t (s + n)))).toInt64 * (P (t (s + n))).toInt64
def wPl (A : Nat → Nat → Int32) (P : Nat → Int32) (s : Nat) (stock thr : Int32) (t : Nat → Nat) : Int64 := cwN A P t s stock (14 - s) - (lfN A t s stock (14 - s)).toInt64 * thr.toInt64
section SX
variable {Γ : GG} {l : Launch} {d : Nat} {σ : St}
theorem S_unsoldBy {A : Nat → Nat → Int32} {t : Nat → Nat} {s : Nat} (hs : s ≤ 14) (stock : Int32) (hA : ∀ j p, j < 14 → p < 4 → rd σ (j + 358) p = A j p) (ht : ∀ j, s ≤ j → j < 14 → t j < 4 ∧ rd σ 47 j = nI (t j)) : Meth Γ l (d + 1) mX2_unsoldBy [.ref 44, .int (nI s), .int stock] σ (KI (Kv (lfN A t s stock (14 - s)) σ)) := by
  have loop : ∀ f n, n + f = 14 - s → J Γ l (d + 1) mX2_unsoldBy (KI (Kv (lfN A t s stock (14 - s)) σ)) 5 [(0, .ref 44), (3, .int (lfN A t s stock n)), (4, .int (nI (s + n)))] [] σ := by
    intro f
    induction f with
    | zero =>
      intro n hn
      have : n = 14 - s := by omega
      subst this
      rw [show s + (14 - s) = 14 by omega]
      exact w_X2_unsoldBy_5 _ _ ⟨fun _ => ⟨_, rfl, rfl, rfl⟩, fun q => absurd (by decide) q⟩
    | succ f ih =>
      intro n hn
      obtain ⟨t1, t2⟩ := ht (s + n) (by omega) (by omega)
      refine w_X2_unsoldBy_5 _ _ ⟨fun q => absurd ((nI_lei (a := 14) (by omega) (by omega)).mp q) (by omega), fun _ => ?_⟩
      rw [cl (n := s + n) (by omega), t2, cl (n := t (s + n)) (by omega), hA _ _ (by omega) t1]
      refine ⟨in_nI (by omega) (by omega), in_nI t1 (by omega), fun x hx y hy => ?_⟩
      rw [nI_s] at hy
      subst hx hy
      exact ih (n + 1) (by omega)
  exact M_X2_unsoldBy _ _ (w_X2_unsoldBy_0 _ _ (loop (14 - s) 0 (by omega)))
theorem S_coinsBy {A : Nat → Nat → Int32} {P : Nat → Int32} {t : Nat → Nat} {s : Nat} (hs : s ≤ 14) (stock : Int32) (hA : ∀ j p, j < 14 → p < 4 → rd σ (j + 358) p = A j p) (hP : ∀ p, p < 4 → rd σ 46 p = P p) (ht : ∀ j, s ≤ j → j < 14 → t j < 4 ∧ rd σ 47 j = nI (t j)) : Meth Γ l (d + 1) mX2_coinsBy [.ref 44, .int (nI s), .int stock] σ (KL (KvL (cwN A P t s stock (14 - s)) σ)) := by
  have loop : ∀ f n, n + f = 14 - s → J Γ l (d + 1) mX2_coinsBy (KL (KvL (cwN A P t s stock (14 - s)) σ)) 8 [(0, .ref 44), (3, .long (cwN A P t s stock n)), (5, .int (lfN A t s stock n)), (6, .int (nI (s + n)))] [] σ := by
    intro f
    induction f with
    | zero =>
      intro n hn
      have : n = 14 - s := by omega
      subst this
      rw [show s + (14 - s) = 14 by omega]
      exact w_X2_coinsBy_8 _ _ _ ⟨fun _ => ⟨_, rfl, rfl, rfl⟩, fun q => absurd (by decide) q⟩
    | succ f ih =>
      intro n hn
      obtain ⟨t1, t2⟩ := ht (s + n) (by omega) (by omega)
      refine w_X2_coinsBy_8 _ _ _ ⟨fun q => absurd ((nI_lei (a := 14) (by omega) (by omega)).mp q) (by omega), fun _ => ?_⟩
      rw [cl (n := s + n) (by omega), t2, cl (n := t (s + n)) (by omega), hA _ _ (by omega) t1, hP _ t1]
      refine ⟨in_nI (by omega) (by omega), in_nI t1 (by omega), fun x hx y hy z hz => ?_⟩
      rw [nI_s] at hz
      subst hx hy hz
      exact ih (n + 1) (by omega)
  exact M_X2_coinsBy _ _ (w_X2_coinsBy_0 _ _ (loop (14 - s) 0 (by omega)))
theorem S_raiseFrom {i : Nat} (hi : i ≤ 14) (x : Int32) : Meth Γ l d mX2_raiseFrom [.ref 44, .int (nI i), .int x] σ (KV fun σ' => ∀ q c, rd σ' q c = if q = 47 ∧ i ≤ c ∧ c < 14 then x else rd σ q c) := by
  have loop : ∀ f j σj, j + f = 14 → i ≤ j → (∀ q c, rd σj q c = if q = 47 ∧ i ≤ c ∧ c < j then x else rd σ q c) → J Γ l d mX2_raiseFrom (KV fun σ' => ∀ q c, rd σ' q c = if q = 47 ∧ i ≤ c ∧ c < 14 then x else rd σ q c) 2 [(0, .ref 44), (2, .int x), (3, .int (nI j))] [] σj := by
    intro f
    induction f with
    | zero =>
      intro j σj hj hij h1
      have : j = 14 := by omega
      subst this
      exact w_X2_raiseFrom_2 _ _ ⟨fun _ => ⟨rfl, h1⟩, fun q => absurd (by decide) q⟩
    | succ f ih =>
      intro j σj hj hij h1
      refine w_X2_raiseFrom_2 _ _ ⟨fun q => absurd ((nI_lei (a := 14) (by omega) (by omega)).mp q) (by omega), fun _ => ⟨in_nI (by omega) (by omega), fun y hy => ?_⟩⟩
      rw [nI_s] at hy
      subst hy
      rw [cl (by omega)]
      refine ih (j + 1) _ (by omega) (by omega) (fun q c => ?_)
      rw [rd_wr, h1]
      by_cases e : q = 47 ∧ c = j
      · rw [if_pos e, if_pos (by omega)]
      · rw [if_neg e]
        by_cases e2 : q = 47 ∧ i ≤ c ∧ c < j
        · rw [if_pos e2, if_pos (by omega)]
        · rw [if_neg e2, if_neg (by omega)]
  exact M_X2_raiseFrom _ _ (w_X2_raiseFrom_0 _ _ (loop (14 - i) i σ (by omega) (by omega) (fun q c => (if_neg (by omega)).symm)))
theorem S_stepOn {t : Nat → Nat} {s : Nat} (hs : s ≤ 14) (ht : ∀ j, s ≤ j → j < 14 → t j < 4 ∧ rd σ 47 j = nI (t j)) : Meth Γ l (d + 1) mX2_stepOn [.ref 44, .int (nI s)] σ (KI fun x σ' => (fnd t s (14 - s) = none ∧ x = 0 ∧ σ' = σ) ∨ ∃ i, fnd t s (14 - s) = some i ∧ x = 1 ∧ (∀ q c, q ≠ 47 → rd σ' q c = rd σ q c) ∧ ∀ j, s ≤ j → j < 14 → rd σ' 47 j = nI (rais t i j)) := by
  generalize hK : (fun (x : Int32) (σ' : St) => (fnd t s (14 - s) = none ∧ x = 0 ∧ σ' = σ) ∨ ∃ i, fnd t s (14 - s) = some i ∧ x = 1 ∧ (∀ q c, q ≠ 47 → rd σ' q c = rd σ q c) ∧ ∀ j, s ≤ j → j < 14 → rd σ' 47 j = nI (rais t i j)) = KK
  have loop : ∀ n, n ≤ 14 - s → fnd t s (14 - s) = fnd t s n → J Γ l (d + 1) mX2_stepOn (KI KK) 3 [(0, .ref 44), (1, .int (nI s)), (2, .int (nI (s + n) - 1))] [] σ := by
    intro n
    induction n with
    | zero =>
      intro hn hf
      have lt : nI (s + 0) - 1 < nI s := by
        have e1 : (1 : Int32).toInt = 1 := rfl
        have e2 := ti_nI (n := s) (by omega)
        rw [Nat.add_zero, ti_lt, ti_sub (by omega) (by omega)]
        omega
      refine w_X2_stepOn_3 _ _ ⟨fun _ => KI.mk ?_, fun q => absurd lt q⟩
      rw [← hK]
      exact Or.inl ⟨hf, rfl, rfl⟩
    | succ n ih =>
      intro hn hf
      obtain ⟨t1, t2⟩ := ht (s + n) (by omega) (by omega)
      have e0 : nI (s + (n + 1)) - 1 = nI (s + n) := nI_pr (s + n)
      have ef : fnd t s (n + 1) = if t (s + n) < 3 then some (s + n) else fnd t s n := rfl
      rw [e0]
      refine w_X2_stepOn_3 _ _ ⟨fun q => absurd ((nI_lti (by omega) (by omega)).mp q) (by omega), fun _ => ?_⟩
      rw [cl (n := s + n) (by omega), t2]
      refine ⟨in_nI (by omega) (by omega), fun q x hx => ?_, fun q => ?_⟩
      · rw [show (3 : Int32) = nI 3 from rfl, nI_lei (by omega) (by omega)] at q
        rw [nI_m] at hx
        subst hx
        rw [if_neg (by omega)] at ef
        exact ih (by omega) (hf.trans ef)
      · rw [show (3 : Int32) = nI 3 from rfl, nI_lei (by omega) (by omega)] at q
        rw [if_pos (by omega)] at ef
        rw [nI_s]
        refine (S_raiseFrom (d := d) (i := s + n) (by omega) (nI (t (s + n) + 1))).mono ?_
        rintro v σ3 ⟨rfl, h3⟩
        refine ⟨rfl, KI.mk ?_⟩
        rw [← hK]
        refine Or.inr ⟨s + n, hf.trans ef, rfl, fun q c hq => by rw [h3, if_neg (by omega)], fun j h1 h2 => ?_⟩
        rw [h3]
        show _ = nI (if s + n ≤ j then t (s + n) + 1 else t j)
        by_cases c : s + n ≤ j
        · rw [if_pos (by omega), if_pos c]
        · rw [if_neg (by omega), if_neg c]
          exact (ht j h1 h2).2
  refine M_X2_stepOn _ (w_X2_stepOn_0 _ ?_)
  have := loop (14 - s) (Nat.le_refl _) rfl
  rw [show s + (14 - s) = 14 by omega] at this
  exact this
end SX

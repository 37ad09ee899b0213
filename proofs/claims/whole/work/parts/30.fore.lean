/-! FORETOLD -/
def cntB (P : Nat → Bool) : Nat → Nat
  | 0 => 0
  | n + 1 => if P n then cntB P n + 1 else cntB P n
def sumB (P : Nat → Bool) (v : Nat → Int32) : Nat → Int32
  | 0 => 0
  | n + 1 => if P n then sumB P v n + v n else sumB P v n
theorem cntB_t {P : Nat → Bool} {i : Nat} (h : P i = true) : cntB P (i + 1) = cntB P i + 1 := by
  show (if P i then _ else _) = _
  rw [if_pos h]
theorem cntB_f {P : Nat → Bool} {i : Nat} (h : P i = false) : cntB P (i + 1) = cntB P i := by
  show (if P i then _ else _) = _
  rw [h]
  rfl
theorem sumB_t {P : Nat → Bool} {v : Nat → Int32} {i : Nat} (h : P i = true) : sumB P v (i + 1) = sumB P v i + v i := by
  show (if P i then _ else _) = _
  rw [if_pos h]
theorem sumB_f {P : Nat → Bool} {v : Nat → Int32} {i : Nat} (h : P i = false) : sumB P v (i + 1) = sumB P v i := by
  show (if P i then _ else _) = _
  rw [h]
  rfl
theorem cntB_le (P : Nat → Bool) : ∀ n, cntB P n ≤ n
  | 0 => Nat.le_refl _
  | n + 1 => by
    have := cntB_le P n
    show (if P n then _ else _) ≤ _
    split <;> omega
theorem cntB_stop {P : Nat → Bool} {i : Nat} : ∀ k, (∀ r, i ≤ r → r < i + k → P r = false) → cntB P (i + k) = cntB P i
  | 0, _ => rfl
  | k + 1, h => (cntB_f (h (i + k) (by omega) (by omega))).trans (cntB_stop k (fun r a b => h r a (by omega)))
theorem sumB_stop {P : Nat → Bool} {v : Nat → Int32} {i : Nat} : ∀ k, (∀ r, i ≤ r → r < i + k → P r = false) → sumB P v (i + k) = sumB P v i
  | 0, _ => rfl
  | k + 1, h => (sumB_f (h (i + k) (by omega) (by omega))).trans (sumB_stop k (fun r a b => h r a (by omega)))
theorem cntB_congr {P P' : Nat → Bool} : ∀ {n}, (∀ r, r < n → P r = P' r) → cntB P n = cntB P' n
  | 0, _ => rfl
  | n + 1, h => by
    have h1 := cntB_congr (fun r a => h r (by omega) : ∀ r, r < n → P r = P' r)
    show (if P n then _ else _) = (if P' n then _ else _)
    rw [h n (by omega), h1]
theorem sumB_congr {P P' : Nat → Bool} {v v' : Nat → Int32} : ∀ {n}, (∀ r, r < n → P r = P' r ∧ v r = v' r) → sumB P v n = sumB P' v' n
  | 0, _ => rfl
  | n + 1, h => by
    have h1 := sumB_congr (fun r a => h r (by omega) : ∀ r, r < n → P r = P' r ∧ v r = v' r)
    show (if P n then _ else _) = (if P' n then _ else _)
    rw [(h n (by omega)).1, (h n (by omega)).2, h1]
def meanV (s : Int32) (c : Nat) : Int32 := if c = 0 then 0 else (2 * s + nI c) / (2 * nI c)
/-- which rows count: as near as way says (columns: shop, kind, hour, step, weather) -/
def fP (σ : St) (qs qk qh qp qw : Nat) (s k h p w K : Int32) (way : Nat) (r : Nat) : Bool :=
  decide (rd σ qk r = k) && (decide (rd σ qh r - rd σ qh r / 24 * 24 = h) && (decide (rd σ qp r = p) && (decide (rd σ qh r / 24 ≤ K) && ((decide (2 ≤ way) || decide (rd σ qs r = s)) && (decide (1 ≤ way) || decide (rd σ qw r = w))))))
def foreV (P : Nat → Nat → Bool) (v : Nat → Int32) (n : Nat) : Int32 :=
  if 3 ≤ cntB (P 0) n then meanV (sumB (P 0) v n) (cntB (P 0) n)
  else if 3 ≤ cntB (P 1) n then meanV (sumB (P 1) v n) (cntB (P 1) n)
  else meanV (sumB (P 2) v n) (cntB (P 2) n)
section FO
variable {Γ : GG} {l : Launch} {d : Nat} {σ : St}
theorem two_ne {c : Nat} (h0 : c ≠ 0) (h : c ≤ 600) : ¬ (2 : Int32) * nI c = 0 := by
  rw [show (2 : Int32) = nI 2 from rfl, nI_muln]
  intro q
  have := (nI_inj (b := 0) (by omega) (by omega)).mp q
  omega
theorem S_mean {s : Int32} {c : Nat} (hc : c ≤ 600) : Meth Γ l d mX8_mean [.int s, .int (nI c)] σ (KI (Kv (meanV s c) σ)) := by
  refine M_X8_mean _ _ (w_X8_mean_0 _ _ ⟨fun q => ⟨_, rfl, rfl, ?_⟩, fun q => ?_⟩)
  · have h0 := (nI_inj (b := 0) (by omega) (by omega)).mp q
    subst h0
    rfl
  · have h0 : c ≠ 0 := fun e => q (by rw [e]; rfl)
    exact ⟨two_ne h0 hc, _, rfl, rfl, by unfold meanV; rw [if_neg h0]⟩
theorem S_foretell {n : Nat} (hn : n ≤ 600) (e : rd σ 34 7 = nI n) (hsort : ∀ r r', r < r' → r' < n → rd σ 37 r / 24 ≤ rd σ 37 r' / 24) (s k h p w K : Int32) : Meth Γ l (d + 1) mX8_foretell [.ref 34, .int s, .int k, .int h, .int p, .int w, .int K] σ (KI (Kv (foreV (fun way => fP σ 35 36 37 38 39 s k h p w K way) (rd σ 40) n) σ)) := by
  generalize hP : (fun way => fP σ 35 36 37 38 39 s k h p w K way) = P
  have P0 : ∀ r, P 0 r = (decide (rd σ 36 r = k) && (decide (rd σ 37 r - rd σ 37 r / 24 * 24 = h) && (decide (rd σ 38 r = p) && (decide (rd σ 37 r / 24 ≤ K) && (decide (rd σ 35 r = s) && decide (rd σ 39 r = w)))))) := fun r => by rw [← hP]; simp [fP]
  have P1 : ∀ r, P 1 r = (decide (rd σ 36 r = k) && (decide (rd σ 37 r - rd σ 37 r / 24 * 24 = h) && (decide (rd σ 38 r = p) && (decide (rd σ 37 r / 24 ≤ K) && decide (rd σ 35 r = s))))) := fun r => by rw [← hP]; simp [fP]
  have P2 : ∀ r, P 2 r = (decide (rd σ 36 r = k) && (decide (rd σ 37 r - rd σ 37 r / 24 * 24 = h) && (decide (rd σ 38 r = p) && decide (rd σ 37 r / 24 ≤ K)))) := fun r => by rw [← hP]; simp [fP]
  have fin : ∀ i, (∀ way, way < 3 → cntB (P way) i = cntB (P way) n ∧ sumB (P way) (rd σ 40) i = sumB (P way) (rd σ 40) n) → i ≤ n → J Γ l (d + 1) mX8_foretell (KI (Kv (foreV P (rd σ 40) n) σ)) 159 [(7, .int (nI (cntB (P 0) i))), (8, .int (sumB (P 0) (rd σ 40) i)), (9, .int (nI (cntB (P 1) i))), (10, .int (sumB (P 1) (rd σ 40) i)), (11, .int (nI (cntB (P 2) i))), (12, .int (sumB (P 2) (rd σ 40) i))] [] σ := by
    intro i hi hin
    obtain ⟨a0, b0⟩ := hi 0 (by omega)
    obtain ⟨a1, b1⟩ := hi 1 (by omega)
    obtain ⟨a2, b2⟩ := hi 2 (by omega)
    rw [a0, a1, a2, b0, b1, b2]
    have l0 := cntB_le (P 0) n
    have l1 := cntB_le (P 1) n
    have l2 := cntB_le (P 2) n
    have lt3 : ∀ c, c ≤ 600 → (nI c < 3 ↔ c < 3) := fun c hc => nI_lti (b := 3) (by omega) (by omega)
    refine w_X8_foretell_159 _ _ _ _ _ _ ⟨fun q0 => ⟨fun q1 => ?_, fun q1 => ?_⟩, fun q0 => ?_⟩
    · rw [lt3 _ (by omega)] at q0 q1
      refine (S_mean (by omega)).mono ?_
      rintro v σ' ⟨x, rfl, rfl, rfl⟩
      exact ⟨_, rfl, _, rfl, rfl, by unfold foreV; rw [if_neg (by omega), if_neg (by omega)]⟩
    · rw [lt3 _ (by omega)] at q0 q1
      refine (S_mean (by omega)).mono ?_
      rintro v σ' ⟨x, rfl, rfl, rfl⟩
      exact ⟨_, rfl, _, rfl, rfl, by unfold foreV; rw [if_neg (by omega), if_pos (by omega)]⟩
    · rw [lt3 _ (by omega)] at q0
      refine (S_mean (by omega)).mono ?_
      rintro v σ' ⟨x, rfl, rfl, rfl⟩
      exact ⟨_, rfl, _, rfl, rfl, by unfold foreV; rw [if_pos (by omega)]⟩
  have loop : ∀ m i, i + m = n → J Γ l (d + 1) mX8_foretell (KI (Kv (foreV P (rd σ 40) n) σ)) 21 [(0, .ref 34), (1, .int s), (2, .int k), (3, .int h), (4, .int p), (5, .int w), (6, .int K), (7, .int (nI (cntB (P 0) i))), (8, .int (sumB (P 0) (rd σ 40) i)), (9, .int (nI (cntB (P 1) i))), (10, .int (sumB (P 1) (rd σ 40) i)), (11, .int (nI (cntB (P 2) i))), (12, .int (sumB (P 2) (rd σ 40) i)), (13, .int (nI i))] [] σ := by
    intro m
    induction m with
    | zero =>
      intro i hi
      have : i = n := by omega
      subst this
      exact w_X8_foretell_21 _ _ _ _ _ _ _ _ _ _ _ _ _ ⟨fun _ => fin i (fun _ _ => ⟨rfl, rfl⟩) (Nat.le_refl _), fun q => absurd (yle e (Nat.le_refl _) (by omega)) q⟩
    | succ m ih =>
      intro i hi
      have ci : (nI i).toNatClampNeg = i := cl (by omega)
      have next : ∀ c0 s0 c1 s1 c2 s2 y : Int32, c0 = nI (cntB (P 0) (i + 1)) → s0 = sumB (P 0) (rd σ 40) (i + 1) → c1 = nI (cntB (P 1) (i + 1)) → s1 = sumB (P 1) (rd σ 40) (i + 1) → c2 = nI (cntB (P 2) (i + 1)) → s2 = sumB (P 2) (rd σ 40) (i + 1) → y = nI i + 1 → J Γ l (d + 1) mX8_foretell (KI (Kv (foreV P (rd σ 40) n) σ)) 21 [(0, .ref 34), (1, .int s), (2, .int k), (3, .int h), (4, .int p), (5, .int w), (6, .int K), (7, .int c0), (8, .int s0), (9, .int c1), (10, .int s1), (11, .int c2), (12, .int s2), (13, .int y)] [] σ := by
        intro c0 s0 c1 s1 c2 s2 y g1 g2 g3 g4 g5 g6 g7
        subst g1 g2 g3 g4 g5 g6
        rw [nI_s] at g7
        subst g7
        exact ih (i + 1) (by omega)
      have ff : (P 2 i = false) → P 0 i = false ∧ P 1 i = false := by
        intro q
        rw [P2] at q
        rw [P0, P1]
        simp only [Bool.and_eq_false_iff] at q
        rcases q with q | q | q | q <;> simp [q]
      have no : P 2 i = false → ∀ y : Int32, y = nI i + 1 → J Γ l (d + 1) mX8_foretell (KI (Kv (foreV P (rd σ 40) n) σ)) 21 [(0, .ref 34), (1, .int s), (2, .int k), (3, .int h), (4, .int p), (5, .int w), (6, .int K), (7, .int (nI (cntB (P 0) i))), (8, .int (sumB (P 0) (rd σ 40) i)), (9, .int (nI (cntB (P 1) i))), (10, .int (sumB (P 1) (rd σ 40) i)), (11, .int (nI (cntB (P 2) i))), (12, .int (sumB (P 2) (rd σ 40) i)), (13, .int y)] [] σ := fun q y hy => next _ _ _ _ _ _ y (by rw [cntB_f (ff q).1]) (by rw [sumB_f (ff q).1]) (by rw [cntB_f (ff q).2]) (by rw [sumB_f (ff q).2]) (by rw [cntB_f q]) (by rw [sumB_f q]) hy
      refine w_X8_foretell_21 _ _ _ _ _ _ _ _ _ _ _ _ _ ⟨fun q => absurd q (nle e (by omega) (by omega)), fun _ => ⟨in_nI (by omega) (by omega), ?_⟩⟩
      rw [ci]
      refine ⟨fun q => fin i (fun way _ => ?_) (by omega), fun qK => ⟨fun qk => ⟨fun qh => ⟨fun qp x4 h4 x5 h5 => ⟨fun qs x7 h7 x8 h8 => ⟨fun qw x10 h10 x11 h11 => ?_, fun qw => ?_⟩, fun qs => ?_⟩, fun qp => ?_⟩, fun qh => ?_⟩, fun qk => ?_⟩⟩
      · have st : ∀ r, i ≤ r → r < i + (n - i) → P way r = false := by
          intro r h1 h2
          have hk : ¬ rd σ 37 r / 24 ≤ K := by
            have h3 : rd σ 37 i / 24 ≤ rd σ 37 r / 24 := by
              rcases Nat.lt_or_ge i r with c | c
              · exact hsort i r c (by omega)
              · rw [show r = i by omega]
                exact Int32.le_refl _
            rw [ti_lt] at q
            rw [ti_le] at h3 ⊢
            omega
          rw [← hP]
          simp [fP, hk]
        have h1 := cntB_stop (n - i) st
        have h2 := sumB_stop (v := rd σ 40) (n - i) st
        rw [show i + (n - i) = n by omega] at h1 h2
        exact ⟨h1.symm, h2.symm⟩
      · have t2 : P 2 i = true := by rw [P2]; simp [qk, qh, qp, Int32.not_lt.mp qK]
        have t1 : P 1 i = true := by rw [P1]; simp [qk, qh, qp, Int32.not_lt.mp qK, qs]
        have t0 : P 0 i = true := by rw [P0]; simp [qk, qh, qp, Int32.not_lt.mp qK, qs, qw]
        exact fun y hy => next _ _ _ _ _ _ y (by rw [h10, nI_s, cntB_t t0]) (by rw [h11, sumB_t t0]) (by rw [h7, nI_s, cntB_t t1]) (by rw [h8, sumB_t t1]) (by rw [h4, nI_s, cntB_t t2]) (by rw [h5, sumB_t t2]) hy
      · have t2 : P 2 i = true := by rw [P2]; simp [qk, qh, qp, Int32.not_lt.mp qK]
        have t1 : P 1 i = true := by rw [P1]; simp [qk, qh, qp, Int32.not_lt.mp qK, qs]
        have t0 : P 0 i = false := by rw [P0]; simp [qw]
        exact fun y hy => next _ _ _ _ _ _ y (by rw [cntB_f t0]) (by rw [sumB_f t0]) (by rw [h7, nI_s, cntB_t t1]) (by rw [h8, sumB_t t1]) (by rw [h4, nI_s, cntB_t t2]) (by rw [h5, sumB_t t2]) hy
      · have t2 : P 2 i = true := by rw [P2]; simp [qk, qh, qp, Int32.not_lt.mp qK]
        have t1 : P 1 i = false := by rw [P1]; simp [qs]
        have t0 : P 0 i = false := by rw [P0]; simp [qs]
        exact fun y hy => next _ _ _ _ _ _ y (by rw [cntB_f t0]) (by rw [sumB_f t0]) (by rw [cntB_f t1]) (by rw [sumB_f t1]) (by rw [h4, nI_s, cntB_t t2]) (by rw [h5, sumB_t t2]) hy
      · exact no (by rw [P2]; simp [qp])
      · exact no (by rw [P2]; simp [qh])
      · exact no (by rw [P2]; simp [qk])
  exact M_X8_foretell _ _ _ _ _ _ (w_X8_foretell_0 _ _ _ _ _ _ (loop n 0 (by omega)))
theorem S_foretoldFor {n : Nat} (hn : n ≤ 600) (e : rd σ 59 45 = nI n) (s k h p w K : Int32) : Meth Γ l d mX12_foretoldFor [.ref 59, .int s, .int k, .int h, .int p, .int w, .int K] σ (KI (Kv (foreV (fun way => fP σ 92 93 94 95 96 s k h p w K way) (rd σ 97) n) σ)) := by
  generalize hP : (fun way => fP σ 92 93 94 95 96 s k h p w K way) = P
  have PW : ∀ way r, P way r = (decide (rd σ 93 r = k) && (decide (rd σ 94 r - rd σ 94 r / 24 * 24 = h) && (decide (rd σ 95 r = p) && (decide (rd σ 94 r / 24 ≤ K) && ((decide (2 ≤ way) || decide (rd σ 92 r = s)) && (decide (1 ≤ way) || decide (rd σ 96 r = w))))))) := fun way r => by rw [← hP]; rfl
  -- one way: the rows counted, then what is answered, or the next way
  have inner : ∀ way, way < 3 → (∀ y : Int32, y = nI way + 1 → (¬ 3 ≤ cntB (P way) n) → (way = 2 → cntB (P way) n = 0) → J Γ l d mX12_foretoldFor (KI (Kv (foreV P (rd σ 97) n) σ)) 3 [(0, .ref 59), (1, .int s), (2, .int k), (3, .int h), (4, .int p), (5, .int w), (6, .int K), (7, .int y)] [] σ) → ((3 ≤ cntB (P way) n ∨ (way = 2 ∧ cntB (P way) n ≠ 0)) → foreV P (rd σ 97) n = meanV (sumB (P way) (rd σ 97) n) (cntB (P way) n)) →
      ∀ m i, i + m = n → J Γ l d mX12_foretoldFor (KI (Kv (foreV P (rd σ 97) n) σ)) 18 [(0, .ref 59), (1, .int s), (2, .int k), (3, .int h), (4, .int p), (5, .int w), (6, .int K), (7, .int (nI way)), (8, .int (nI (cntB (P way) i))), (9, .int (sumB (P way) (rd σ 97) i)), (10, .int (nI i))] [] σ := by
    intro way hw hnext hval m
    have l0 := cntB_le (P way) n
    induction m with
    | zero =>
      intro i hi
      have hin : i = n := by omega
      subst hin
      have le3 : (3 : Int32) ≤ nI (cntB (P way) i) ↔ 3 ≤ cntB (P way) i := nI_lei (a := 3) (by omega) (by omega)
      have le0 : nI (cntB (P way) i) ≤ (0 : Int32) ↔ cntB (P way) i ≤ 0 := nI_lei (b := 0) (by omega) (by omega)
      have ew : nI way = (2 : Int32) ↔ way = 2 := nI_inj (b := 2) (by omega) (by omega)
      refine w_X12_foretoldFor_18 _ _ _ _ _ _ _ _ _ _ ⟨fun _ => ⟨fun q => ?_, fun q => ⟨fun q2 => ⟨fun q3 y hy => ?_, fun q3 => ?_⟩, fun q2 y hy => ?_⟩⟩, fun q => absurd (yle e (Nat.le_refl _) (by omega)) q⟩
      · rw [le3] at q
        refine ⟨two_ne (by omega) (by omega), _, rfl, rfl, ?_⟩
        rw [hval (Or.inl q)]
        unfold meanV
        rw [if_neg (by omega)]
      · rw [le3] at q
        rw [le0] at q3
        exact hnext y hy q (fun _ => by omega)
      · rw [le3] at q
        rw [le0] at q3
        rw [ew] at q2
        refine ⟨two_ne (by omega) (by omega), _, rfl, rfl, ?_⟩
        rw [hval (Or.inr ⟨q2, by omega⟩)]
        unfold meanV
        rw [if_neg (by omega)]
      · rw [le3] at q
        rw [ew] at q2
        exact hnext y hy q (fun c => absurd c q2)
    | succ m ih =>
      intro i hi
      have ci : (nI i).toNatClampNeg = i := cl (by omega)
      have yes : P way i = true → ∀ x : Int32, x = nI (cntB (P way) i) + 1 → ∀ z : Int32, z = sumB (P way) (rd σ 97) i + rd σ 97 i → ∀ y : Int32, y = nI i + 1 → J Γ l d mX12_foretoldFor (KI (Kv (foreV P (rd σ 97) n) σ)) 18 [(0, .ref 59), (1, .int s), (2, .int k), (3, .int h), (4, .int p), (5, .int w), (6, .int K), (7, .int (nI way)), (8, .int x), (9, .int z), (10, .int y)] [] σ := by
        intro q x hx z hz y hy
        rw [nI_s, ← cntB_t q] at hx
        rw [← sumB_t q] at hz
        rw [nI_s] at hy
        subst hx hz hy
        exact ih (i + 1) (by omega)
      have no : P way i = false → ∀ y : Int32, y = nI i + 1 → J Γ l d mX12_foretoldFor (KI (Kv (foreV P (rd σ 97) n) σ)) 18 [(0, .ref 59), (1, .int s), (2, .int k), (3, .int h), (4, .int p), (5, .int w), (6, .int K), (7, .int (nI way)), (8, .int (nI (cntB (P way) i))), (9, .int (sumB (P way) (rd σ 97) i)), (10, .int y)] [] σ := by
        intro q y hy
        rw [nI_s] at hy
        subst hy
        have := ih (i + 1) (by omega)
        rw [cntB_f q, sumB_f q] at this
        exact this
      have e0 : nI way = (0 : Int32) ↔ way = 0 := nI_inj (b := 0) (by omega) (by omega)
      have e2 : (2 : Int32) ≤ nI way ↔ 2 ≤ way := nI_lei (a := 2) (by omega) (by omega)
      have tail : decide (rd σ 93 i = k) = true → decide (rd σ 94 i - rd σ 94 i / 24 * 24 = h) = true → decide (rd σ 95 i = p) = true → decide (rd σ 94 i / 24 ≤ K) = true → (2 ≤ way ∨ rd σ 92 i = s) → J Γ l d mX12_foretoldFor (KI (Kv (foreV P (rd σ 97) n) σ)) 99 [(0, .ref 59), (1, .int s), (2, .int k), (3, .int h), (4, .int p), (5, .int w), (6, .int K), (7, .int (nI way)), (8, .int (nI (cntB (P way) i))), (9, .int (sumB (P way) (rd σ 97) i)), (10, .int (nI i))] [] σ := by
        intro a1 a2 a3 a4 a5
        have base : P way i = (decide (1 ≤ way) || decide (rd σ 96 i = w)) := by
          rw [PW, a1, a2, a3, a4]
          rcases a5 with a5 | a5 <;> simp [a5]
        refine w_X12_foretoldFor_99 _ _ _ _ _ _ _ _ _ _ ⟨fun q0 => ⟨in_nI (by omega) (by omega), ?_⟩, fun q0 x hx => ⟨in_nI (by omega) (by omega), ?_⟩⟩
        · rw [e0] at q0
          rw [ci]
          refine ⟨fun qw x hx z hz => yes (by rw [base]; simp [qw]) x hx z hz, fun qw => no (by rw [base]; simp [qw, q0])⟩
        · rw [e0] at q0
          rw [ci]
          exact yes (by rw [base]; simp; omega) x hx
      refine w_X12_foretoldFor_18 _ _ _ _ _ _ _ _ _ _ ⟨fun q => absurd q (nle e (by omega) (by omega)), fun _ => ⟨in_nI (by omega) (by omega), ?_⟩⟩
      rw [ci]
      refine ⟨fun qk => ⟨fun qh => ⟨fun qp => ⟨fun qK => ⟨fun qw => ?_, fun qw => ⟨fun qs => ?_, fun qs => ?_⟩⟩, fun qK => ?_⟩, fun qp => ?_⟩, fun qh => ?_⟩, fun qk => ?_⟩
      · exact tail (by simp [qk]) (by simp [qh]) (by simp [qp]) (by simp [qK]) (Or.inl (e2.mp qw))
      · exact tail (by simp [qk]) (by simp [qh]) (by simp [qp]) (by simp [qK]) (Or.inr qs)
      · rw [e2] at qw
        exact no (by rw [PW]; simp [qs, qw])
      · exact no (by rw [PW]; simp [qK])
      · exact no (by rw [PW]; simp [qp])
      · exact no (by rw [PW]; simp [qh])
      · exact no (by rw [PW]; simp [qk])
  refine M_X12_foretoldFor _ _ _ _ _ _ (w_X12_foretoldFor_0 _ _ _ _ _ _ ?_)
  have go : ∀ way, way < 3 → J Γ l d mX12_foretoldFor (KI (Kv (foreV P (rd σ 97) n) σ)) 18 [(0, .ref 59), (1, .int s), (2, .int k), (3, .int h), (4, .int p), (5, .int w), (6, .int K), (7, .int (nI way)), (8, .int 0), (9, .int 0), (10, .int 0)] [] σ → J Γ l d mX12_foretoldFor (KI (Kv (foreV P (rd σ 97) n) σ)) 3 [(0, .ref 59), (1, .int s), (2, .int k), (3, .int h), (4, .int p), (5, .int w), (6, .int K), (7, .int (nI way))] [] σ := by
    intro way hw hj
    refine w_X12_foretoldFor_3 _ _ _ _ _ _ _ ⟨fun q => ?_, fun _ => hj⟩
    have := (nI_lei (a := 3) (by omega) (by omega)).mp q
    omega
  refine go 0 (by omega) (inner 0 (by omega) (fun y hy c0 _ => ?_) (fun q => ?_) n 0 (by omega))
  · rw [nI_s] at hy
    subst hy
    refine go 1 (by omega) (inner 1 (by omega) (fun y hy c1 _ => ?_) (fun q => ?_) n 0 (by omega))
    · rw [nI_s] at hy
      subst hy
      refine go 2 (by omega) (inner 2 (by omega) (fun y hy c2 c3 => ?_) (fun q => ?_) n 0 (by omega))
      · rw [nI_s] at hy
        subst hy
        refine w_X12_foretoldFor_3 _ _ _ _ _ _ _ ⟨fun _ => ⟨_, rfl, rfl, ?_⟩, fun q => absurd (Int32.le_refl _) q⟩
        unfold foreV meanV
        rw [if_neg c0, if_neg c1, if_pos (c3 rfl)]
      · unfold foreV
        rw [if_neg c0, if_neg c1]
    · unfold foreV
      rw [if_neg c0, if_pos (by omega)]
  · unfold foreV
    rw [if_pos (by omega)]
theorem P_foretold (a b c e : Int32) (hI : Inv σ) : Meth Γ l (d + 3) mX11_foretold [.ref 0, .int a, .int b, .int c, .int e] σ (PI Γ l (d + 3) mX12_foretold [.ref 59, .int a, .int b, .int c, .int e]) := by
  obtain ⟨h, nS, nK, nB, i1, i2, i3, i4, i5, i6, i7, i8, i9, i10, i11, i12, i13, i14⟩ := id hI
  obtain ⟨zS, s1, s2, s3, s4, s5, s6⟩ := id i2
  obtain ⟨zK, k1, k2, k3⟩ := id i3
  obtain ⟨nR, hR, r1, r2, r3, r4⟩ := id i11
  have m10 : ∀ w : Nat, w < 2147483648 → nI w / 10 = nI (w / 10) := fun w hw => nI_divn (b := 10) hw (by omega)
  have m100 : ∀ w : Nat, w < 2147483648 → nI w / 100 = nI (w / 100) := fun w hw => nI_divn (b := 100) hw (by omega)
  have md : ∀ w : Nat, w < 2147483648 → nI w - nI w / 10 * 10 = nI (w % 10) := fun w hw => nI_modn (b := 10) hw (by omega)
  have bad : ¬ (((0 ≤ a ∧ a < nI nS) ∧ 0 ≤ b ∧ b < nI nK) ∧ (∃ w : Nat, w < 2147483648 ∧ c = nI w ∧ 600 ≤ w ∧ w / 100 ≤ 19 ∧ w / 10 % 10 < 4 ∧ w % 10 < 3) ∧ ((0 : Int32) ≤ e ∧ e < 1500)) → bad1 σ Γ l (d + 3) mX12_foretold [.ref 59, .int a, .int b, .int c, .int e] (-1) := by
    intro hn
    refine M_X12_foretold _ _ _ _ (w_X12_foretold_0 _ _ _ _ ⟨fun ha => ⟨fun hc => ⟨fun _ => KI.mk ⟨rfl, hI⟩, fun q1 => ⟨fun _ => KI.mk ⟨rfl, hI⟩, fun q2 => ⟨fun he => ?_, fun _ => KI.mk ⟨rfl, hI⟩⟩⟩⟩, fun _ => KI.mk ⟨rfl, hI⟩⟩, fun _ => KI.mk ⟨rfl, hI⟩⟩)
    refine absurd ⟨⟨(cM (by omega) s2).mp ha.1, (cM (by omega) k2).mp ha.2⟩, ?_, (cL 1499 (by omega)).mp he⟩ hn
    have h1 := hc
    rw [ti_le, ti_le] at h1
    have e6 : (600 : Int32).toInt = 600 := rfl
    have e7 : (1932 : Int32).toInt = 1932 := rfl
    obtain ⟨w, hw, rfl⟩ : ∃ w : Nat, w < 2147483648 ∧ c = nI w := ⟨c.toInt.toNat, by omega, nI_of_ti (by omega)⟩
    rw [ti_nI hw] at h1
    rw [m10 w hw, md _ (by omega)] at q1
    rw [m10 w hw] at q2
    rw [← m10 w hw, md w hw] at q2
    have q1' : ¬ 3 < w / 10 % 10 := fun q => q1 ((nI_lti (a := 3) (by omega) (by omega)).mpr q)
    have q2' : ¬ 2 < w % 10 := fun q => q2 ((nI_lti (a := 2) (by omega) (by omega)).mpr q)
    exact ⟨w, hw, rfl, by omega, by omega, by omega, by omega⟩
  refine M_X11_foretold _ _ _ _ (w_X11_foretold_0 _ _ _ _ ⟨fun ha => ⟨fun hc => PI.mk (bad ?_), fun hc => ⟨fun he x1 hx1 x2 hx2 => ⟨fun q6 => ⟨fun q4 => ⟨fun q3 => ?_, fun q3 => PI.mk (bad ?_)⟩, fun q4 => PI.mk (bad ?_)⟩, fun q6 => PI.mk (bad ?_)⟩, fun he => PI.mk (bad fun q => he q.2.2)⟩⟩, fun ha => PI.mk (bad fun q => ha ⟨(cX s1).mpr q.1.1, (cX k1).mpr q.1.2⟩)⟩)
  · rintro ⟨-, ⟨w, hw, rfl, -⟩, -⟩
    exact absurd hc (nlt0 hw)
  · have c1 := (cX s1).mp ha.1
    have c2 := (cX k1).mp ha.2
    have oM := (cM (n := nS) (by omega) s2).mpr c1
    have oK := (cM (n := nK) (by omega) k2).mpr c2
    obtain ⟨w, hw, rfl⟩ : ∃ w : Nat, w < 2147483648 ∧ c = nI w := by
      have h3 := ti_rng c
      rw [ti_lt] at hc
      have e0 : (0 : Int32).toInt = 0 := rfl
      exact ⟨c.toInt.toNat, by omega, nI_of_ti (by omega)⟩
    rw [m10 w hw, md _ (by omega)] at hx1
    rw [md w hw] at hx2
    rw [m100 w hw] at q6
    subst hx1 hx2
    have g1 : 6 ≤ w / 100 := (nI_lei (a := 6) (by omega) (by omega)).mp q6.1
    have g2 : w / 100 ≤ 19 := (nI_lei (b := 19) (by omega) (by omega)).mp q6.2
    have g3 : w / 10 % 10 < 4 := (nI_lti (b := 4) (by omega) (by omega)).mp q4.2
    have g4 : w % 10 < 3 := (nI_lti (b := 3) (by omega) (by omega)).mp q3.2
    have dv : ∀ r, r < nR → ∃ t : Nat, t < 2147483648 ∧ rd σ 37 r = nI t ∧ rd σ 37 r / 24 = nI (t / 24) := by
      intro r hr
      obtain ⟨s, k, t, st, w', a', g, ⟨-, -, ht, -⟩, ⟨-, -, x2, -⟩, -⟩ := r3 r hr
      have := i1.1
      exact ⟨t, by omega, x2, by rw [x2]; exact nI_divn (b := 24) (by omega) (by omega)⟩
    have hsort : ∀ r r', r < r' → r' < nR → rd σ 37 r / 24 ≤ rd σ 37 r' / 24 := by
      intro r r' h1 h2
      obtain ⟨t, ht, x1, x2⟩ := dv r (by omega)
      obtain ⟨t', ht', x1', x2'⟩ := dv r' h2
      have := r4 r r' h1 h2
      rw [x1, x1', cl ht, cl ht'] at this
      rw [x2, x2', nI_lei (by omega) (by omega)]
      exact Nat.div_le_div_right this
    rw [m100 w hw]
    refine (S_foretell (d := d + 1) hR r1 hsort a b (nI (w / 100)) (nI (w / 10 % 10)) (nI (w % 10)) e).mono ?_
    rintro v σ' ⟨x, rfl, rfl, rfl⟩
    refine ⟨_, rfl, PI.mk (M_X12_foretold _ _ _ _ (w_X12_foretold_0 _ _ _ _ ⟨fun _ => ⟨fun _ => ⟨fun q => ?_, fun _ => ⟨fun q => ?_, fun _ => ⟨fun _ => ?_, fun q => absurd ((cL 1499 (by omega)).mpr he) q⟩⟩⟩, fun q => absurd ?_ q⟩, fun q => absurd ⟨oM, oK⟩ q⟩))⟩
    · rw [m10 w hw, md _ (by omega)] at q
      have := (nI_lti (a := 3) (by omega) (by omega)).mp q
      omega
    · rw [md w hw] at q
      have := (nI_lti (a := 2) (by omega) (by omega)).mp q
      omega
    · rw [m100 w hw, md w hw, m10 w hw, md _ (by omega)]
      refine (S_foretoldFor hR r2 a b (nI (w / 100)) (nI (w / 10 % 10)) (nI (w % 10)) e).mono ?_
      rintro v σ' ⟨x, rfl, rfl, rfl⟩
      refine ⟨_, rfl, KI.mk ⟨?_, hI⟩⟩
      have col : ∀ r, r < nR → (rd σ 92 r = rd σ 35 r ∧ rd σ 93 r = rd σ 36 r ∧ rd σ 94 r = rd σ 37 r ∧ rd σ 95 r = rd σ 38 r ∧ rd σ 96 r = rd σ 39 r ∧ rd σ 97 r = rd σ 40 r) := by
        intro r hr
        obtain ⟨s, k, t, st, w', a', g, -, ⟨x0, x1, x2, x3, x4, x5, x6⟩, ⟨y0, y1, y2, y3, y4, y5, y6⟩⟩ := r3 r hr
        exact ⟨y0.trans x0.symm, y1.trans x1.symm, y2.trans x2.symm, y3.trans x3.symm, y4.trans x4.symm, y5.trans x5.symm⟩
      have pc : ∀ way r, r < nR → fP σ 92 93 94 95 96 a b (nI (w / 100)) (nI (w / 10 % 10)) (nI (w % 10)) e way r = fP σ 35 36 37 38 39 a b (nI (w / 100)) (nI (w / 10 % 10)) (nI (w % 10)) e way r := by
        intro way r hr
        obtain ⟨y0, y1, y2, y3, y4, y5⟩ := col r hr
        unfold fP
        rw [y0, y1, y2, y3, y4]
      unfold foreV
      rw [cntB_congr (fun r hr => pc 0 r hr), cntB_congr (fun r hr => pc 1 r hr), cntB_congr (fun r hr => pc 2 r hr), sumB_congr (fun r hr => ⟨pc 0 r hr, (col r hr).2.2.2.2.2⟩), sumB_congr (fun r hr => ⟨pc 1 r hr, (col r hr).2.2.2.2.2⟩), sumB_congr (fun r hr => ⟨pc 2 r hr, (col r hr).2.2.2.2.2⟩)]
    · exact ⟨(nI_lei (a := 600) (by omega) (by omega)).mpr (by omega), (nI_lei (b := 1932) (by omega) (by omega)).mpr (by omega)⟩
  · rintro ⟨-, ⟨w, hw, rfl, g1, g2, g3, g4⟩, -⟩
    rw [md w hw] at hx2
    subst hx2
    exact q3 (rng_lt (n := 3) (by omega) (by omega))
  · rintro ⟨-, ⟨w, hw, rfl, g1, g2, g3, g4⟩, -⟩
    rw [m10 w hw, md _ (by omega)] at hx1
    subst hx1
    exact q4 (rng_lt (n := 4) (by omega) (by omega))
  · rintro ⟨-, ⟨w, hw, rfl, g1, g2, g3, g4⟩, -⟩
    rw [m100 w hw] at q6
    exact q6 ⟨(nI_lei (a := 6) (by omega) (by omega)).mpr (by omega), (nI_lei (b := 19) (by omega) (by omega)).mpr (by omega)⟩
end FO

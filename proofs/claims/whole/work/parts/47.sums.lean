/-! SUMS by day: what order and loss are told by -/
def dayR (σ : St) (r : Nat) : Nat := (rd σ 94 r).toNatClampNeg / 24
def askR (σ : St) (r : Nat) : Nat := (rd σ 97 r).toNatClampNeg
/-- row r counts: shop, kind, weather, not after day K, of weekday wk -/
def selR (σ : St) (s k w : Int32) (wk K r : Nat) : Bool := decide (rd σ 92 r = s) && (decide (rd σ 93 r = k) && (decide (rd σ 96 r = w) && (decide (dayR σ r ≤ K) && decide (dayR σ r % 7 = wk))))
def dS (sel : Nat → Bool) (day ask : Nat → Nat) (D : Nat) : Nat → Nat
  | 0 => 0
  | n + 1 => dS sel day ask D n + if sel n = true ∧ day n = D then ask n else 0
def dH (sel : Nat → Bool) (day : Nat → Nat) (D : Nat) : Nat → Bool
  | 0 => false
  | n + 1 => dH sel day D n || (sel n && decide (day n = D))
theorem dS_le {sel : Nat → Bool} {day ask : Nat → Nat} {D : Nat} : ∀ n, (∀ r, r < n → ask r ≤ 999) → dS sel day ask D n ≤ 999 * n
  | 0, _ => Nat.le_refl _
  | n + 1, h => by
    have h1 := dS_le (sel := sel) (day := day) (D := D) n fun r hr => h r (by omega)
    have h2 := h n (by omega)
    unfold dS
    split <;> omega
theorem dH_iff {sel : Nat → Bool} {day : Nat → Nat} {D : Nat} : ∀ n, dH sel day D n = true ↔ ∃ r, r < n ∧ sel r = true ∧ day r = D
  | 0 => by
    constructor
    · intro h
      exact absurd h (by simp [dH])
    · rintro ⟨r, hr, -⟩
      omega
  | n + 1 => by
    unfold dH
    rw [Bool.or_eq_true, dH_iff n, Bool.and_eq_true, decide_eq_true_eq]
    constructor
    · rintro (⟨r, hr, q⟩ | q)
      · exact ⟨r, by omega, q⟩
      · exact ⟨n, by omega, q⟩
    · rintro ⟨r, hr, q⟩
      rcases Nat.lt_or_ge r n with c | c
      · exact Or.inl ⟨r, c, q⟩
      · have : r = n := by omega
        subst this
        exact Or.inr q
section SD
variable {Γ : GG} {l : Launch} {d : Nat} {σ : St}
theorem S_findSums {s k : Int32} {wt K h n : Nat} (hw : wt < 70) (hK : K < 1500) (hh : h < 36000) (hn : n ≤ 600) (e : rd σ 59 45 = nI n) (hR : ∀ r, r < n → IRow h r σ) : Meth Γ l d mX12_findSums [.ref 59, .int s, .int k, .int (nI wt), .int (nI K)] σ (KV fun σ' => (∀ D, D < 1500 → rd σ' 102 D = nI (dS (selR σ s k (nI (wt % 10)) (wt / 10) K) (dayR σ) (askR σ) D n) ∧ rd σ' 103 D = if dH (selR σ s k (nI (wt % 10)) (wt / 10) K) (dayR σ) D n = true then 1 else 0) ∧ ∀ q c, q ≠ 102 → q ≠ 103 → rd σ' q c = rd σ q c) := by
  have w1 : nI wt / 10 = nI (wt / 10) := nI_divn (b := 10) (by omega) (by omega)
  have w2 : nI wt - nI wt / 10 * 10 = nI (wt % 10) := nI_modn (b := 10) (by omega) (by omega)
  generalize hsel : selR σ s k (nI (wt % 10)) (wt / 10) K = sel
  have loop2 : ∀ m r σr, r + m = n → ((∀ D, D < 1500 → rd σr 102 D = nI (dS sel (dayR σ) (askR σ) D r) ∧ rd σr 103 D = if dH sel (dayR σ) D r = true then 1 else 0) ∧ ∀ q c, q ≠ 102 → q ≠ 103 → rd σr q c = rd σ q c) → J Γ l d mX12_findSums (KV fun σ' => (∀ D, D < 1500 → rd σ' 102 D = nI (dS sel (dayR σ) (askR σ) D n) ∧ rd σ' 103 D = if dH sel (dayR σ) D n = true then 1 else 0) ∧ ∀ q c, q ≠ 102 → q ≠ 103 → rd σ' q c = rd σ q c) 36 [(0, .ref 59), (1, .int s), (2, .int k), (3, .int (nI wt)), (4, .int (nI K)), (5, .int (nI r))] [] σr := by
    intro m
    induction m with
    | zero =>
      intro r σr hr hi
      have : r = n := by omega
      subst this
      have e' : rd σr 59 45 = nI r := (hi.2 59 45 (by omega) (by omega)).trans e
      exact w_X12_findSums_36 _ _ _ _ _ ⟨fun _ => ⟨rfl, hi⟩, fun q => absurd (yle e' (Nat.le_refl _) (by omega)) q⟩
    | succ m ih =>
      intro r σr hr hi
      have e' : rd σr 59 45 = nI n := (hi.2 59 45 (by omega) (by omega)).trans e
      obtain ⟨s', k', t, st, w, a, g, ⟨b1, b2, b3, b4, b5, b6, b7, b8, b9⟩, -, ⟨y0, y1, y2, y3, y4, y5, y6⟩⟩ := hR r (by omega)
      have dr : dayR σ r = t / 24 := by
        unfold dayR
        rw [y2, cl (by omega)]
      have ar : askR σ r = a := by
        unfold askR
        rw [y5, cl (by omega)]
      have sr : sel r = (decide (rd σ 92 r = s) && (decide (rd σ 93 r = k) && (decide (rd σ 96 r = nI (wt % 10)) && (decide (t / 24 ≤ K) && decide (t / 24 % 7 = wt / 10))))) := by
        rw [← hsel, ← dr]
        rfl
      have td : nI t / 24 = nI (t / 24) := nI_divn (b := 24) (by omega) (by omega)
      have t7 : nI (t / 24) - nI (t / 24) / 7 * 7 = nI (t / 24 % 7) := nI_modn (b := 7) (by omega) (by omega)
      have nx : ¬ sel r = true → ∀ x : Int32, x = nI r + 1 → J Γ l d mX12_findSums (KV fun σ' => (∀ D, D < 1500 → rd σ' 102 D = nI (dS sel (dayR σ) (askR σ) D n) ∧ rd σ' 103 D = if dH sel (dayR σ) D n = true then 1 else 0) ∧ ∀ q c, q ≠ 102 → q ≠ 103 → rd σ' q c = rd σ q c) 36 [(0, .ref 59), (1, .int s), (2, .int k), (3, .int (nI wt)), (4, .int (nI K)), (5, .int x)] [] σr := by
        intro hs x hx
        rw [nI_s] at hx
        subst hx
        refine ih (r + 1) σr (by omega) ⟨fun D hD => ?_, hi.2⟩
        have h1 : dS sel (dayR σ) (askR σ) D (r + 1) = dS sel (dayR σ) (askR σ) D r := by
          unfold dS
          rw [if_neg (fun q => hs q.1), Nat.add_zero]
          rw [← dS.eq_def]
        have h2 : dH sel (dayR σ) D (r + 1) = dH sel (dayR σ) D r := by
          show (dH sel (dayR σ) D r || (sel r && _)) = _
          simp [hs]
        rw [h1, h2]
        exact hi.1 D hD
      refine w_X12_findSums_36 _ _ _ _ _ ⟨fun q => absurd q (nle e' (by omega) (by omega)), fun _ => ⟨in_nI (by omega) (by omega), fun x2 h2 => ?_⟩⟩
      rw [cl (by omega), hi.2 94 r (by omega) (by omega), y2, td] at h2
      subst h2
      rw [cl (by omega), hi.2 92 r (by omega) (by omega), hi.2 93 r (by omega) (by omega), hi.2 96 r (by omega) (by omega), hi.2 97 r (by omega) (by omega), w2, w1, t7, nI_lti (by omega) (by omega), nI_inj (a := t / 24 % 7) (by omega) (by omega), cl (n := t / 24) (by omega)]
      refine ⟨fun c0 => ⟨fun c1 => ⟨fun c2 => ⟨fun c3 => nx ?_, fun c3 => ⟨fun c4 => ⟨in_nI (by omega) (by omega), fun x hx => ?_⟩, fun c4 => nx ?_⟩⟩, fun c2 => nx ?_⟩, fun c1 => nx ?_⟩, fun c0 => nx ?_⟩
      · rw [sr]
        simp [show ¬ t / 24 ≤ K by omega]
      · rw [nI_s] at hx
        subst hx
        have hs : sel r = true := by
          rw [sr]
          simp [c0, c1, c2, c4, show t / 24 ≤ K by omega]
        refine ih (r + 1) _ (by omega) ⟨fun D hD => ?_, fun q c h1 h2 => ?_⟩
        · obtain ⟨i1, i2⟩ := hi.1 D hD
          have h1 : dS sel (dayR σ) (askR σ) D (r + 1) = dS sel (dayR σ) (askR σ) D r + if t / 24 = D then a else 0 := by
            show _ + (if sel r = true ∧ dayR σ r = D then askR σ r else 0) = _
            rw [dr, ar]
            simp [hs]
          have h2 : dH sel (dayR σ) D (r + 1) = (dH sel (dayR σ) D r || decide (t / 24 = D)) := by
            show (dH sel (dayR σ) D r || (sel r && decide (dayR σ r = D))) = _
            rw [hs, dr]
            simp
          rw [h1, h2]
          simp only [rd_wr]
          by_cases c : D = t / 24
          · subst c
            rw [if_neg (by omega), if_pos ⟨trivial, rfl⟩, if_pos rfl, if_pos ⟨trivial, rfl⟩, i1, y5, nI_addn]
            simp
          · rw [if_neg (by omega), if_neg (by omega), if_neg (by omega), if_neg (by omega), if_neg (by omega), Nat.add_zero, i1, i2]
            simp [show ¬ t / 24 = D by omega]
        · rw [rd_wr, if_neg (by omega), rd_wr, if_neg (by omega)]
          exact hi.2 q c h1 h2
      · rw [sr]
        simp [c4]
      · rw [sr]
        simp [c2]
      · rw [sr]
        simp [c1]
      · rw [sr]
        simp [c0]
  have loop1 : ∀ m i σi, i + m = 1500 → (∀ D, D < i → rd σi 102 D = 0 ∧ rd σi 103 D = 0) → (∀ q c, q ≠ 102 → q ≠ 103 → rd σi q c = rd σ q c) → J Γ l d mX12_findSums (KV fun σ' => (∀ D, D < 1500 → rd σ' 102 D = nI (dS sel (dayR σ) (askR σ) D n) ∧ rd σ' 103 D = if dH sel (dayR σ) D n = true then 1 else 0) ∧ ∀ q c, q ≠ 102 → q ≠ 103 → rd σ' q c = rd σ q c) 3 [(0, .ref 59), (1, .int s), (2, .int k), (3, .int (nI wt)), (4, .int (nI K)), (5, .int (nI i))] [] σi := by
    intro m
    induction m with
    | zero =>
      intro i σi hi h1 h2
      have : i = 1500 := by omega
      subst this
      exact w_X12_findSums_3 _ _ _ _ _ ⟨fun _ => loop2 n 0 σi (by omega) ⟨fun D hD => ⟨(h1 D hD).1, (h1 D hD).2⟩, h2⟩, fun q => absurd (by decide) q⟩
    | succ m ih =>
      intro i σi hi h1 h2
      refine w_X12_findSums_3 _ _ _ _ _ ⟨fun q => absurd ((nI_lti (a := 1499) (by omega) (by omega)).mp q) (by omega), fun _ => ⟨in_nI (by omega) (by omega), fun x hx => ?_⟩⟩
      rw [nI_s] at hx
      subst hx
      rw [cl (by omega)]
      refine ih (i + 1) _ (by omega) (fun D hD => ?_) (fun q c a1 a2 => ?_)
      · simp only [rd_wr]
        by_cases c : D = i
        · subst c
          rw [if_neg (by omega), if_pos ⟨trivial, rfl⟩, if_pos ⟨trivial, rfl⟩]
          exact ⟨rfl, rfl⟩
        · rw [if_neg (by omega), if_neg (by omega), if_neg (by omega), if_neg (by omega)]
          exact h1 D (by omega)
      · rw [rd_wr, if_neg (by omega), rd_wr, if_neg (by omega)]
        exact h2 q c a1 a2
  exact M_X12_findSums _ _ _ _ (w_X12_findSums_0 _ _ _ _ (loop1 1500 0 σ (by omega) (fun D hD => absurd hD (by omega)) (fun _ _ _ _ => rfl)))
end SD

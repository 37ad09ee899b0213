/-! LAW: the text, read by one function that both sides follow. sy q: the byte at place q, 256 behind the end -/
def tig (s : Nat) : Nat := if s = 124 then 0 else if s = 38 then 1 else if s = 60 ∨ s = 61 ∨ s = 62 then 2 else if s = 43 ∨ s = 45 then 3 else if s = 42 ∨ s = 47 then 4 else 6
def nmN (s : Nat) : Nat := if s = 97 then 0 else if s = 107 then 1 else if s = 99 then 2 else if s = 119 then 3 else if s = 104 then 4 else if s = 112 then 5 else if s = 110 then 6 else if s = 115 then 7 else 8
abbrev Res : Type := Nat ⊕ (Nat × List (Nat × Nat))
def nDig (sy : Nat → Nat) (p : Nat) : Nat → Nat
  | 0 => 0
  | k + 1 => if 48 ≤ sy p ∧ sy p ≤ 57 then 1 + nDig sy (p + 1) k else 0
def vDig (sy : Nat → Nat) (p : Nat) : Nat → Nat
  | 0 => 0
  | n + 1 => vDig sy p n * 10 + (sy (p + n) - 48)
def lop (rec : Nat → Res) (sy : Nat → Nat) (lv : Nat) : Nat → Nat → List (Nat × Nat) → Res
  | 0, q, T => .inr (q, T)
  | n + 1, q, T => if tig (sy q) = lv then
      match rec (q + 1) with
      | .inl r => .inl r
      | .inr (r, T2) => if lv = 2 then .inr (r, T ++ (T2 ++ [(sy q, 0)])) else lop rec sy lv n r (T ++ (T2 ++ [(sy q, 0)]))
    else .inr (q, T)
def prs (sy : Nat → Nat) : Nat → Nat → Nat → Nat → Res
  | 0, _, _, p => .inl p
  | f + 1, lv, op, p =>
    if lv < 5 then
      match prs sy f (lv + 1) op p with
      | .inl q => .inl q
      | .inr (q, T) => lop (prs sy f (lv + 1) op) sy lv 161 q T
    else if nmN (sy p) < 8 then .inr (p + 1, [(1, nmN (sy p))])
    else if sy p = 33 then
      if op < 9 then
        match prs sy f 5 (op + 1) (p + 1) with
        | .inl q => .inl q
        | .inr (q, T) => .inr (q, T ++ [(4, 0)])
      else .inl p
    else if sy p = 40 then
      if op < 9 then
        match prs sy f 0 (op + 1) (p + 1) with
        | .inl q => .inl q
        | .inr (q, T) => if sy q = 41 then .inr (q + 1, T) else .inl q
      else .inl p
    else if nDig sy p 4 = 0 then .inl p
    else .inr (p + nDig sy p 4, [(0, vDig sy p (nDig sy p 4))])
section PZ
variable {sy : Nat → Nat} {L : Nat}
theorem nDig_of {k : Nat} : ∀ i p, i ≤ k → (∀ j, j < i → 48 ≤ sy (p + j) ∧ sy (p + j) ≤ 57) → (i = k ∨ ¬ (48 ≤ sy (p + i) ∧ sy (p + i) ≤ 57)) → nDig sy p k = i := by
  induction k with
  | zero =>
    intro i p h1 _ _
    show 0 = i
    omega
  | succ k ih =>
    intro i p h1 h2 h3
    unfold nDig
    by_cases c : 48 ≤ sy p ∧ sy p ≤ 57
    · rw [if_pos c]
      rcases Nat.eq_zero_or_pos i with e | e
      · subst e
        rcases h3 with h3 | h3
        · omega
        · exact absurd c h3
      · obtain ⟨i, rfl⟩ : ∃ j, i = j + 1 := ⟨i - 1, by omega⟩
        rw [ih i (p + 1) (by omega) (fun j hj => by
          have := h2 (j + 1) (by omega)
          rw [show p + (j + 1) = p + 1 + j by omega] at this
          exact this) (by
          rcases h3 with h3 | h3
          · exact Or.inl (by omega)
          · rw [show p + (i + 1) = p + 1 + i by omega] at h3
            exact Or.inr h3)]
        omega
    · rw [if_neg c]
      rcases Nat.eq_zero_or_pos i with e | e
      · exact e.symm
      · exact absurd (h2 0 e) c
theorem nDig_le : ∀ k p, nDig sy p k ≤ k ∧ ∀ j, j < nDig sy p k → 48 ≤ sy (p + j) ∧ sy (p + j) ≤ 57
  | 0, p => ⟨Nat.le_refl _, fun j hj => absurd hj (Nat.not_lt_zero _)⟩
  | k + 1, p => by
    obtain ⟨h1, h2⟩ := nDig_le k (p + 1)
    unfold nDig
    by_cases c : 48 ≤ sy p ∧ sy p ≤ 57
    · rw [if_pos c]
      refine ⟨by omega, fun j hj => ?_⟩
      rcases Nat.eq_zero_or_pos j with e | e
      · subst e
        exact c
      · have := h2 (j - 1) (by omega)
        rw [show p + 1 + (j - 1) = p + j by omega] at this
        exact this
    · rw [if_neg c]
      exact ⟨Nat.zero_le _, fun j hj => absurd hj (Nat.not_lt_zero _)⟩
theorem vDig_lt {p : Nat} : ∀ n, (∀ j, j < n → 48 ≤ sy (p + j) ∧ sy (p + j) ≤ 57) → vDig sy p n < 10 ^ n
  | 0, _ => Nat.one_pos
  | n + 1, h => by
    have h1 := vDig_lt (p := p) n fun j hj => h j (by omega)
    have h2 := h n (by omega)
    show vDig sy p n * 10 + (sy (p + n) - 48) < _
    rw [Nat.pow_succ]
    omega
theorem hgts_app : ∀ (A : List (Nat × Nat)) (B : List (Nat × Nat)) (n m : Nat), hgts n A = some m → hgts n (A ++ B) = hgts m B
  | [], B, n, m, h => by
    have e : n = m := Option.some.inj h
    rw [e]
    rfl
  | t :: A, B, n, m, h => by
    show (hgt n t).bind (fun k => hgts k (A ++ B)) = _
    have h2 : (hgt n t).bind (fun k => hgts k A) = some m := h
    rcases hk : hgt n t with _ | k
    · rw [hk] at h2
      cases h2
    · rw [hk] at h2
      exact hgts_app A B k m h2
/-- what is read: further, in the text, no more signs than bytes, one value more -/
def goodR (L p : Nat) (q : Nat) (T : List (Nat × Nat)) : Prop := p < q ∧ q ≤ L ∧ T.length ≤ q - p ∧ (∀ t ∈ T, tokOk t) ∧ ∀ n, hgts n T = some (n + 1)
theorem tig_sg {s : Nat} (h : tig s < 6) : (s = 38 ∨ s = 42 ∨ s = 43 ∨ s = 45 ∨ s = 47 ∨ s = 60 ∨ s = 61 ∨ s = 62 ∨ s = 124) := by
  unfold tig at h
  repeat' split at h
  all_goals omega
theorem sg_hgt {s n : Nat} (h : tig s < 6) : hgt (n + 2) (s, 0) = some (n + 1) := by
  rcases tig_sg h with rfl | rfl | rfl | rfl | rfl | rfl | rfl | rfl | rfl <;> simp [hgt]
theorem good_join {p q r s : Nat} {T T2 : List (Nat × Nat)} (h1 : goodR L p q T) (h2 : goodR L (q + 1) r T2) (hs : tig s < 6) : goodR L p r (T ++ (T2 ++ [(s, 0)])) := by
  obtain ⟨a1, a2, a3, a4, a5⟩ := h1
  obtain ⟨b1, b2, b3, b4, b5⟩ := h2
  refine ⟨by omega, b2, ?_, fun t ht => ?_, fun n => ?_⟩
  · rw [List.length_append, List.length_append, List.length_singleton]
    omega
  · rcases List.mem_append.mp ht with r | r
    · exact a4 t r
    · rcases List.mem_append.mp r with r | r
      · exact b4 t r
      · rw [List.mem_singleton.mp r]
        exact Or.inr (Or.inr (Or.inr ⟨tig_sg hs, rfl⟩))
  · rw [hgts_app _ _ n (n + 1) (a5 n), hgts_app _ _ (n + 1) (n + 1 + 1) (b5 (n + 1))]
    show (hgt (n + 2) (s, 0)).bind (fun k => hgts k []) = _
    rw [sg_hgt hs]
    rfl
theorem lop_good {rec : Nat → Res} {lv p : Nat} (hlv : lv < 5) (hr : ∀ p q T, rec p = .inr (q, T) → goodR L p q T) : ∀ n q T q' T', goodR L p q T → lop rec sy lv n q T = .inr (q', T') → goodR L p q' T'
  | 0, q, T, q', T', h, e => by
    have e2 : (q, T) = (q', T') := Sum.inr.inj e
    cases e2
    exact h
  | n + 1, q, T, q', T', h, e => by
    unfold lop at e
    by_cases c : tig (sy q) = lv
    · rw [if_pos c] at e
      rcases hz : rec (q + 1) with r | ⟨r, T2⟩
      · rw [hz] at e
        cases e
      · rw [hz] at e
        have g := good_join h (hr _ _ _ hz) (show tig (sy q) < 6 by omega)
        dsimp only at e
        by_cases c2 : lv = 2
        · rw [if_pos c2] at e
          have e2 := Sum.inr.inj e
          cases e2
          exact g
        · rw [if_neg c2] at e
          exact lop_good hlv hr n _ _ _ _ g e
    · rw [if_neg c] at e
      have e2 : (q, T) = (q', T') := Sum.inr.inj e
      cases e2
      exact h
theorem prs_good (hL : ∀ q, L ≤ q → sy q = 256) : ∀ f lv op p q T, prs sy f lv op p = .inr (q, T) → goodR L p q T
  | 0, lv, op, p, q, T, e => by cases e
  | f + 1, lv, op, p, q, T, e => by
    have inL : sy p ≠ 256 → p < L := fun h => by
      rcases Nat.lt_or_ge p L with c | c
      · exact c
      · exact absurd (hL p c) h
    unfold prs at e
    by_cases c5 : lv < 5
    · rw [if_pos c5] at e
      rcases hz : prs sy f (lv + 1) op p with r | ⟨r, T2⟩
      · rw [hz] at e
        cases e
      · rw [hz] at e
        exact lop_good c5 (fun p q T h => prs_good hL f _ _ p q T h) 161 r T2 q T (prs_good hL f _ _ p r T2 hz) e
    · rw [if_neg c5] at e
      by_cases cn : nmN (sy p) < 8
      · rw [if_pos cn] at e
        have e2 := Sum.inr.inj e
        cases e2
        have := inL (by
          intro h
          rw [h] at cn
          exact absurd cn (by decide))
        refine ⟨by omega, by omega, by rw [List.length_singleton]; omega, fun t ht => ?_, fun n => rfl⟩
        rw [List.mem_singleton.mp ht]
        exact Or.inr (Or.inl ⟨rfl, cn⟩)
      · rw [if_neg cn] at e
        by_cases c33 : sy p = 33
        · rw [if_pos c33] at e
          by_cases co : op < 9
          · rw [if_pos co] at e
            rcases hz : prs sy f 5 (op + 1) (p + 1) with r | ⟨r, T2⟩
            · rw [hz] at e
              cases e
            · rw [hz] at e
              have e2 := Sum.inr.inj e
              cases e2
              obtain ⟨a1, a2, a3, a4, a5⟩ := prs_good hL f _ _ _ _ _ hz
              refine ⟨by omega, a2, by rw [List.length_append, List.length_singleton]; omega, fun t ht => ?_, fun n => ?_⟩
              · rcases List.mem_append.mp ht with r | r
                · exact a4 t r
                · rw [List.mem_singleton.mp r]
                  exact Or.inr (Or.inr (Or.inl ⟨Or.inr (Or.inr rfl), rfl⟩))
              · rw [hgts_app _ _ n (n + 1) (a5 n)]
                simp [hgts, hgt]
          · rw [if_neg co] at e
            cases e
        · rw [if_neg c33] at e
          by_cases c40 : sy p = 40
          · rw [if_pos c40] at e
            by_cases co : op < 9
            · rw [if_pos co] at e
              rcases hz : prs sy f 0 (op + 1) (p + 1) with r | ⟨r, T2⟩
              · rw [hz] at e
                cases e
              · rw [hz] at e
                dsimp only at e
                by_cases c41 : sy r = 41
                · rw [if_pos c41] at e
                  have e2 := Sum.inr.inj e
                  cases e2
                  obtain ⟨a1, a2, a3, a4, a5⟩ := prs_good hL f _ _ _ _ _ hz
                  have : r < L := by
                    rcases Nat.lt_or_ge r L with c | c
                    · exact c
                    · rw [hL r c] at c41
                      omega
                  exact ⟨by omega, by omega, by omega, a4, a5⟩
                · rw [if_neg c41] at e
                  cases e
            · rw [if_neg co] at e
              cases e
          · rw [if_neg c40] at e
            by_cases cd : nDig sy p 4 = 0
            · rw [if_pos cd] at e
              cases e
            · rw [if_neg cd] at e
              have e2 := Sum.inr.inj e
              cases e2
              obtain ⟨d1, d2⟩ := nDig_le (sy := sy) 4 p
              have last := d2 (nDig sy p 4 - 1) (by omega)
              have : p + (nDig sy p 4 - 1) < L := by
                rcases Nat.lt_or_ge (p + (nDig sy p 4 - 1)) L with c | c
                · exact c
                · rw [hL _ c] at last
                  omega
              have vb := vDig_lt (p := p) (nDig sy p 4) d2
              have pb : 10 ^ nDig sy p 4 ≤ 10 ^ 4 := Nat.pow_le_pow_right (by omega) d1
              refine ⟨by omega, by omega, by rw [List.length_singleton]; omega, fun t ht => ?_, fun n => rfl⟩
              rw [List.mem_singleton.mp ht]
              exact Or.inl ⟨rfl, by omega⟩
end PZ
/-- how much fuel a level and so many open signs want -/
def need (lv op : Nat) : Nat := 6 - lv + (9 - op) * 7
/-- a clause -/
def cls (sy : Nat → Nat) (f p : Nat) : Res :=
  match prs sy f 0 0 p with
  | .inl q => .inl q
  | .inr (q, T) => if sy q = 44 then
      match prs sy f 0 0 (q + 1) with
      | .inl r => .inl r
      | .inr (r, T2) => .inr (r, T ++ ([(2, 0)] ++ (T2 ++ [(3, 0)])))
    else .inr (q, T ++ [(3, 0)])
/-- clauses, one or more; n bounds their number -/
def txt (sy : Nat → Nat) (L f : Nat) : Nat → Nat → List (Nat × Nat) → Res
  | 0, p, T => .inr (p, T)
  | n + 1, p, T =>
    match cls sy f p with
    | .inl q => .inl q
    | .inr (q, T2) => if q < L then (if sy q = 59 then txt sy L f n (q + 1) (T ++ T2) else .inl q) else .inr (q, T ++ T2)
section PY
variable {sy : Nat → Nat} {L : Nat}
def goodC (L p : Nat) (q : Nat) (T : List (Nat × Nat)) : Prop := p < q ∧ q ≤ L ∧ T.length ≤ q - p + 1 ∧ (∀ t ∈ T, tokOk t) ∧ hgts 0 T = some 0
theorem cls_good (hL : ∀ q, L ≤ q → sy q = 256) {f p q : Nat} {T : List (Nat × Nat)} (e : cls sy f p = .inr (q, T)) : goodC L p q T := by
  unfold cls at e
  rcases hz : prs sy f 0 0 p with r | ⟨r, T1⟩
  · rw [hz] at e
    cases e
  · rw [hz] at e
    dsimp only at e
    obtain ⟨a1, a2, a3, a4, a5⟩ := prs_good hL f _ _ _ _ _ hz
    have t3 : tokOk (3, 0) := Or.inr (Or.inr (Or.inl ⟨Or.inr (Or.inl rfl), rfl⟩))
    have t2 : tokOk (2, 0) := Or.inr (Or.inr (Or.inl ⟨Or.inl rfl, rfl⟩))
    by_cases c : sy r = 44
    · rw [if_pos c] at e
      rcases hz2 : prs sy f 0 0 (r + 1) with s | ⟨s, T2⟩
      · rw [hz2] at e
        cases e
      · rw [hz2] at e
        have e2 := Sum.inr.inj e
        cases e2
        obtain ⟨b1, b2, b3, b4, b5⟩ := prs_good hL f _ _ _ _ _ hz2
        refine ⟨by omega, b2, ?_, fun t ht => ?_, ?_⟩
        · simp only [List.length_append, List.length_singleton]
          omega
        · rcases List.mem_append.mp ht with r | r
          · exact a4 t r
          · rcases List.mem_append.mp r with r | r
            · rw [List.mem_singleton.mp r]
              exact t2
            · rcases List.mem_append.mp r with r | r
              · exact b4 t r
              · rw [List.mem_singleton.mp r]
                exact t3
        · rw [hgts_app _ _ 0 1 (a5 0), hgts_app _ _ 1 0 rfl, hgts_app _ _ 0 1 (b5 0)]
          rfl
    · rw [if_neg c] at e
      have e2 := Sum.inr.inj e
      cases e2
      refine ⟨a1, a2, ?_, fun t ht => ?_, ?_⟩
      · simp only [List.length_append, List.length_singleton]
        omega
      · rcases List.mem_append.mp ht with r | r
        · exact a4 t r
        · rw [List.mem_singleton.mp r]
          exact t3
      · rw [hgts_app _ _ 0 1 (a5 0)]
        rfl
end PY

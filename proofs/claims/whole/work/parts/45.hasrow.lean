/-! HAS: a row of this shop, kind and hour -/
def hasR (σ : St) (s k : Int32) (n : Nat) : Prop := ∃ r, r < n ∧ rd σ 92 r = s ∧ rd σ 93 r = k ∧ rd σ 94 r = rd σ 59 1
theorem rdn {σ : St} {q c p e : Nat} {x : Int32} (h : ¬ (q = p ∧ c = e)) : rd (wr σ p e x) q c = rd σ q c := by
  rw [rd_wr, if_neg h]
theorem rdy {σ : St} {p e : Nat} {x : Int32} : rd (wr σ p e x) p e = x := by
  rw [rd_wr, if_pos ⟨rfl, rfl⟩]
section HR
variable {Γ : GG} {l : Launch} {d : Nat} {σ : St}
theorem S_hasRow (s k : Int32) {n : Nat} (hn : n ≤ 600) (e : rd σ 59 45 = nI n) : Meth Γ l d mX12_hasRow [.ref 59, .int s, .int k] σ (KI fun x σ' => σ' = σ ∧ ((x = 1 ∧ hasR σ s k n) ∨ (x = 0 ∧ ¬ hasR σ s k n))) := by
  have loop : ∀ m i, i + m = n → (¬ hasR σ s k i) → J Γ l d mX12_hasRow (KI fun x σ' => σ' = σ ∧ ((x = 1 ∧ hasR σ s k n) ∨ (x = 0 ∧ ¬ hasR σ s k n))) 2 [(0, .ref 59), (1, .int s), (2, .int k), (3, .int (nI i))] [] σ := by
    intro m
    induction m with
    | zero =>
      intro i hi hno
      have : i = n := by omega
      subst this
      exact w_X12_hasRow_2 _ _ _ ⟨fun _ => KI.mk ⟨rfl, Or.inr ⟨rfl, hno⟩⟩, fun q => absurd (yle e (Nat.le_refl _) (by omega)) q⟩
    | succ m ih =>
      intro i hi hno
      have nx : ¬ (rd σ 92 i = s ∧ rd σ 93 i = k ∧ rd σ 94 i = rd σ 59 1) → ∀ x : Int32, x = nI i + 1 → J Γ l d mX12_hasRow (KI fun x σ' => σ' = σ ∧ ((x = 1 ∧ hasR σ s k n) ∨ (x = 0 ∧ ¬ hasR σ s k n))) 2 [(0, .ref 59), (1, .int s), (2, .int k), (3, .int x)] [] σ := by
        intro hx x ex
        rw [nI_s] at ex
        subst ex
        refine ih (i + 1) (by omega) ?_
        rintro ⟨r, hr, h3⟩
        rcases Nat.lt_or_ge r i with c | c
        · exact hno ⟨r, c, h3⟩
        · exact hx (by rw [show i = r by omega]; exact h3)
      refine w_X12_hasRow_2 _ _ _ ⟨fun q => absurd q (nle e (by omega) (by omega)), fun _ => ⟨in_nI (by omega) (by omega), ?_⟩⟩
      rw [cl (by omega)]
      exact ⟨fun c0 => ⟨fun c1 => ⟨fun c2 => KI.mk ⟨rfl, Or.inl ⟨rfl, i, by omega, c0, c1, c2⟩⟩, fun c2 => nx fun q => c2 q.2.2⟩, fun c1 => nx fun q => c1 q.2.1⟩, fun c0 => nx fun q => c0 q.1⟩
  exact M_X12_hasRow _ _ (w_X12_hasRow_0 _ _ (loop n 0 (by omega) (fun ⟨r, hr, _⟩ => absurd hr (by omega))))
theorem S_X8_has (s k : Int32) {h n : Nat} (hh : h < 36000) (g2 : rd σ 59 1 = nI h) (hn : n ≤ 600) (e : rd σ 34 7 = nI n) (hR : ∀ r, r < n → IRow h r σ) (hS : ∀ r r', r < r' → r' < n → (rd σ 37 r).toNatClampNeg ≤ (rd σ 37 r').toNatClampNeg) : Meth Γ l d mX8_has [.ref 34, .int s, .int k, .int (nI h)] σ (KI fun x σ' => σ' = σ ∧ ((x = 1 ∧ hasR σ s k n) ∨ (x = 0 ∧ ¬ hasR σ s k n))) := by
  have row : ∀ r, r < n → ∃ t, t ≤ h ∧ rd σ 37 r = nI t ∧ rd σ 94 r = nI t ∧ rd σ 92 r = rd σ 35 r ∧ rd σ 93 r = rd σ 36 r := fun r hr => by
    obtain ⟨s', k', t, st, w, a, g, ⟨-, -, ht, -⟩, ⟨x0, x1, x2, -⟩, ⟨y0, y1, y2, -⟩⟩ := hR r hr
    exact ⟨t, ht, x2, y2, by rw [x0, y0], by rw [x1, y1]⟩
  have loop : ∀ i, i ≤ n → (∀ r, i ≤ r → r < n → ¬ (rd σ 92 r = s ∧ rd σ 93 r = k ∧ rd σ 94 r = rd σ 59 1)) → J Γ l d mX8_has (KI fun x σ' => σ' = σ ∧ ((x = 1 ∧ hasR σ s k n) ∨ (x = 0 ∧ ¬ hasR σ s k n))) 8 [(0, .ref 34), (1, .int s), (2, .int k), (3, .int (nI h)), (4, .int (nI i - 1))] [] σ := by
    intro i
    induction i with
    | zero =>
      intro _ hno
      exact w_X8_has_8 _ _ _ _ ⟨fun _ => KI.mk ⟨rfl, Or.inr ⟨rfl, fun ⟨r, hr, h3⟩ => hno r (by omega) hr h3⟩⟩, fun q => absurd (by decide) q⟩
    | succ i ih =>
      intro hi hno
      rw [nI_pr]
      obtain ⟨t, ht, x2, y2, v0, v1⟩ := row i (by omega)
      have nx : ¬ (rd σ 92 i = s ∧ rd σ 93 i = k ∧ rd σ 94 i = rd σ 59 1) → ∀ x : Int32, x = nI i + -1 → J Γ l d mX8_has (KI fun x σ' => σ' = σ ∧ ((x = 1 ∧ hasR σ s k n) ∨ (x = 0 ∧ ¬ hasR σ s k n))) 8 [(0, .ref 34), (1, .int s), (2, .int k), (3, .int (nI h)), (4, .int x)] [] σ := by
        intro hx x ex
        rw [nI_m] at ex
        subst ex
        refine ih (by omega) (fun r h1 h2 => ?_)
        rcases Nat.lt_or_ge i r with c | c
        · exact hno r (by omega) h2
        · rw [show r = i by omega]
          exact hx
      refine w_X8_has_8 _ _ _ _ ⟨fun q => absurd q (nlt0 (by omega)), fun _ => ⟨in_nI (by omega) (by omega), ?_⟩⟩
      rw [cl (by omega)]
      refine ⟨fun c0 => ⟨fun c1 => ⟨fun c2 => KI.mk ⟨rfl, Or.inl ⟨rfl, i, by omega, by rw [v0]; exact c1, by rw [v1]; exact c2, by rw [y2, g2, ← x2]; exact c0⟩⟩, fun c2 => nx fun q => c2 (by rw [← v1]; exact q.2.1)⟩, fun c1 => nx fun q => c1 (by rw [← v0]; exact q.1)⟩, fun c0 => KI.mk ⟨rfl, Or.inr ⟨rfl, ?_⟩⟩⟩
      rintro ⟨r, hr, h3⟩
      rcases Nat.lt_or_ge i r with c | c
      · exact hno r (by omega) hr h3
      · obtain ⟨t', ht', x2', y2', -, -⟩ := row r hr
        have e1 := h3.2.2
        rw [y2', g2, nI_inj (by omega) (by omega)] at e1
        rw [x2, nI_inj (by omega) (by omega)] at c0
        rcases Nat.lt_or_ge r i with c' | c'
        · have e2 := hS r i c' (by omega)
          rw [x2, x2', cl (by omega), cl (by omega)] at e2
          omega
        · have : r = i := by omega
          subst this
          rw [x2, nI_inj (by omega) (by omega)] at x2'
          omega
  refine M_X8_has _ _ _ (w_X8_has_0 _ _ _ ?_)
  rw [e]
  exact loop n (Nat.le_refl _) (fun r h1 h2 => absurd h2 (by omega))
/-- an open hour at which the shop has no row of the kind yet -/
def tellR (σ : St) (s k : Int32) (h n : Nat) : Prop := (6 ≤ h % 24 ∧ h % 24 ≤ 19) ∧ ¬ hasR σ s k n
theorem S_mayTell (s k : Int32) {h n : Nat} (hh : h < 36000) (g1 : rd σ 1 2 = nI h) (g2 : rd σ 59 1 = nI h) (hn : n ≤ 600) (e : rd σ 34 7 = nI n) (hR : ∀ r, r < n → IRow h r σ) (hS : ∀ r r', r < r' → r' < n → (rd σ 37 r).toNatClampNeg ≤ (rd σ 37 r').toNatClampNeg) : Meth Γ l (d + 2) mX11_mayTell [.ref 0, .int s, .int k] σ (KI fun x σ' => σ' = σ ∧ ((x = 1 ∧ tellR σ s k h n) ∨ (x = 0 ∧ ¬ tellR σ s k h n))) := by
  have hm : nI h - nI h / 24 * 24 = nI (h % 24) := nI_modn (b := 24) (by omega) (by omega)
  have l1 : 6 ≤ nI (h % 24) ↔ 6 ≤ h % 24 := nI_lei (a := 6) (by omega) (by omega)
  have l2 : nI (h % 24) ≤ 19 ↔ h % 24 ≤ 19 := nI_lei (b := 19) (by omega) (by omega)
  refine M_X11_mayTell _ _ (w_X11_mayTell_0 _ _ ?_)
  rw [g1, hm, l1, l2]
  refine ⟨fun q => ?_, fun q => KI.mk ⟨rfl, Or.inr ⟨rfl, fun r => q r.1⟩⟩⟩
  refine (S_X8_has s k hh g2 hn e hR hS).mono ?_
  rintro v σ' ⟨x, rfl, rfl, hx⟩
  refine ⟨_, rfl, fun q0 => KI.mk ⟨rfl, Or.inl ⟨rfl, q, ?_⟩⟩, fun q0 => KI.mk ⟨rfl, Or.inr ⟨rfl, ?_⟩⟩⟩
  · rcases hx with ⟨rfl, -⟩ | ⟨-, hx⟩
    · exact absurd q0 (by decide)
    · exact hx
  · rcases hx with ⟨-, hx⟩ | ⟨rfl, -⟩
    · exact fun r => r.2 hx
    · exact absurd rfl q0
end HR

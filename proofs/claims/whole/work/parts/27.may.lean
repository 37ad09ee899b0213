/-! MAY and LETS; what is on a shelf; says -/
/-- the text of law i, read off the reference's places -/
def decT (a w : Int32) : Nat × Nat := if a = 1 then (0, w.toNatClampNeg) else if a = 2 then (1, w.toNatClampNeg) else if a = 3 then (2, 0) else if a = 4 then (3, 0) else if a = 5 then (4, 0) else (a.toNatClampNeg, 0)
def lawT (σ : St) (i : Nat) : List (Nat × Nat) := (List.range (rd σ 88 i).toNatClampNeg).map fun j => decT (rd σ 89 (170 * i + j)) (rd σ 90 (170 * i + j))
theorem decT_tok {t : Nat × Nat} {a w : Int32} (h : tokOk t) (ha : a = tokA t) (hw : t.1 ≤ 1 → w = nI t.2) : decT a w = t := by
  subst ha
  rcases tok_cases h with ⟨v, hv, rfl⟩ | ⟨k, hk, rfl⟩ | rfl | rfl | rfl | ⟨s, hsg, rfl⟩
  · rw [hw (show (0 : Nat) ≤ 1 by omega)]
    show (0, (nI v).toNatClampNeg) = (0, v)
    rw [cl (by omega)]
  · rw [hw (show (1 : Nat) ≤ 1 by omega)]
    show (1, (nI k).toNatClampNeg) = (1, k)
    rw [cl (by omega)]
  · rfl
  · rfl
  · rfl
  · rw [tokA_s hsg]
    obtain ⟨-, -, -, -, -, n1, n2, n3, n4, n5⟩ := sg_f hsg
    unfold decT
    rw [if_neg n1, if_neg n2, if_neg n3, if_neg n4, if_neg n5, cl (by rcases hsg with e | e | e | e | e | e | e | e | e <;> omega)]
theorem lawT_eq {h i : Nat} {T : List (Nat × Nat)} {σ : St} (hT : ILaw h i T σ) : lawT σ i = T := by
  obtain ⟨h1, h2, h3, h4, h5, h6, -⟩ := hT
  unfold lawT
  rw [h5, cl (by omega)]
  apply List.ext_getElem?
  intro j
  rw [List.getElem?_map]
  by_cases hj : j < T.length
  · rw [List.getElem?_range hj, List.getElem?_eq_getElem hj]
    obtain ⟨-, g2, g3⟩ := h6 j T[j] (List.getElem?_eq_getElem hj)
    exact congrArg some (decT_tok (h2 _ (List.getElem_mem hj)) g2 g3)
  · rw [List.getElem?_eq_none (by simpa using hj), List.getElem?_eq_none (by omega)]
    rfl
/-- the law of a use that is in force today: -2, or its number -/
def lawM (σ : St) (u : Int32) : Int32 := lat σ 85 86 87 u (rd σ 59 1 / 24) (rd σ 59 1 / 24) (rd σ 59 32).toNatClampNeg
def mayB (σ : St) (L : Int32) (b : Nat) : Bool := decide (L < 0) || decide (¬ runT (factM σ b) [] true (lawT σ L.toNatClampNeg) = 0)
/-- may use u take of batch b -/
def mayM (σ : St) (u : Int32) (b : Nat) : Bool := mayB σ (lawM σ u) b
def sX : P2 := fun q k => ¬ (q = 32 ∨ (q = 26 ∧ k = 7) ∨ q = 33)
theorem runT_congr {F G : Nat → Int32} (h : ∀ i, i < 8 → F i = G i) : ∀ (R : List (Nat × Nat)) (st : List Int32) (c : Bool), (∀ t ∈ R, tokOk t) → runT F st c R = runT G st c R
  | [], _, _, _ => rfl
  | t :: R, st, c, ho => by
    have ih := fun st c => runT_congr h R st c (fun t ht => ho t (List.mem_cons_of_mem _ ht))
    rcases tok_cases (ho t List.mem_cons_self) with ⟨v, hv, rfl⟩ | ⟨k, hk, rfl⟩ | rfl | rfl | rfl | ⟨s, hsg, rfl⟩
    · exact ih _ _
    · show runT F (F k :: st) c R = runT G (G k :: st) c R
      rw [h k hk]
      exact ih _ _
    · exact ih _ _
    · show (if c then st.headD 0 else runT F [] true R) = if c then st.headD 0 else runT G [] true R
      rw [ih]
    · exact ih _ _
    · rw [runT_s hsg, runT_s hsg]
      exact ih _ _
section MY
variable {Γ : GG} {l : Launch} {d : Nat} {σ : St}
/-- what a batch's facts need -/
def Bfact (σ : St) (h nB : Nat) : Prop := h < 36000 ∧ rd σ 59 1 = nI h ∧ ∀ b, b < nB → ∃ s k : Nat, s < 12 ∧ k < 10 ∧ rd σ 71 b = nI s ∧ rd σ 72 b = nI k
theorem lawM_cases {h n : Nat} (hn : n ≤ 16) (e : rd σ 59 32 = nI n) (u : Int32) : lawM σ u = -2 ∨ ∃ j, j < n ∧ lawM σ u = nI j := by
  unfold lawM
  rw [e, cl (by omega)]
  exact lat_le σ 85 86 87 u _ _ n
theorem S_may {u : Int32} {b h nB n : Nat} (hB : nB ≤ 200) (hb : b < nB) (hf : Bfact σ h nB) (hn : n ≤ 16) (e : rd σ 59 32 = nI n) (hL : ∀ i, i < n → ∃ T, ILaw h i T σ) : Meth Γ l (d + 3) mX12_may [.ref 59, .int u, .int (nI b)] σ (KI fun x σ' => x = bI (mayM σ u b) ∧ agr oM σ σ') := by
  obtain ⟨hh, h1, h2⟩ := hf
  obtain ⟨s, k, hs, hk, es, ek⟩ := h2 b hb
  refine M_X12_may _ _ (w_X12_may_0 _ _ ?_)
  refine (S_forceOn (d := d + 2) u _ _ hn e).mono ?_
  rintro v σ' ⟨x, rfl, rfl, rfl⟩
  have hlaw : lat σ 85 86 87 u (rd σ 59 1 / 24) (rd σ 59 1 / 24) n = lawM σ u := by
    unfold lawM
    rw [e, cl (by omega)]
  rw [hlaw]
  refine ⟨_, rfl, fun q => KI.mk ⟨?_, agr.rf⟩, fun q => ?_⟩
  · unfold mayM mayB
    simp [q, bI]
  · rcases lawM_cases (h := h) hn e u with hl | ⟨j, hj, hl⟩
    · rw [hl] at q
      exact absurd (by decide) q
    · obtain ⟨T, hT⟩ := hL j hj
      have hval : mayM σ u b = decide (¬ runT (factM σ b) [] true T = 0) := by
        unfold mayM mayB
        rw [hl, cl (by omega), lawT_eq hT]
        simp [nlt0 (i := j) (by omega)]
      rw [hl, hval]
      refine S_gives (h := h) (by omega) hT hh h1 (by omega) hs hk es ek (fun σ2 ha => ?_)
      refine ⟨_, rfl, fun q => KI.mk ⟨by simp [q, bI], ha⟩, fun q => KI.mk ⟨by simp [q, bI], ha⟩⟩
end MY

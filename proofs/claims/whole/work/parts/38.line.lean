/-! LINE: what a use lets go of a shop's kind, eldest first -/
theorem mayM_of {σ σ' : St} {u : Int32} {b : Nat} (g : ∀ q c, (q = 59 ∧ (c = 1 ∨ c = 32)) ∨ q = 66 ∨ q = 68 ∨ q = 69 ∨ q = 70 ∨ q = 71 ∨ q = 72 ∨ q = 74 ∨ (85 ≤ q ∧ q ≤ 90) → rd σ' q c = rd σ q c) : mayM σ' u b = mayM σ u b := by
  have G : ∀ q, (q = 66 ∨ q = 68 ∨ q = 69 ∨ q = 70 ∨ q = 71 ∨ q = 72 ∨ q = 74 ∨ (85 ≤ q ∧ q ≤ 90)) → ∀ c, rd σ' q c = rd σ q c := fun q hq c => g q c (Or.inr hq)
  have a1 := g 59 1 (by omega)
  have a2 := g 59 32 (by omega)
  have g66 := G 66 (by omega)
  have g68 := G 68 (by omega)
  have g69 := G 69 (by omega)
  have g70 := G 70 (by omega)
  have g71 := G 71 (by omega)
  have g72 := G 72 (by omega)
  have g74 := G 74 (by omega)
  have g85 := G 85 (by omega)
  have g86 := G 86 (by omega)
  have g87 := G 87 (by omega)
  have g88 := G 88 (by omega)
  have g89 := G 89 (by omega)
  have g90 := G 90 (by omega)
  have e1 : lawM σ' u = lawM σ u := by
    unfold lawM
    rw [a1, a2]
    exact lat_congr fun i _ => ⟨g85 i, g86 i, g87 i⟩
  have e2 : ∀ i, lawT σ' i = lawT σ i := fun i => by
    unfold lawT
    simp only [g88, g89, g90]
  have e3 : factM σ' b = factM σ b := by
    funext i
    unfold factM
    simp only [a1, g66, g68, g69, g70, g71, g72, g74]
  unfold mayM mayB
  rw [e1, e2, e3]
def shN (σ : St) (b : Nat) : Nat := (rd σ (b + 142) 5).toNatClampNeg
def mdN (σ : St) (b : Nat) : Nat := (rd σ (b + 142) 3).toNatClampNeg
theorem Bv {h nS nK nB b : Nat} {σ : St} (hI : Inv0 h nS nK nB σ) (hb : b < nB) : rd σ (b + 142) 0 = rd σ 71 b ∧ rd σ (b + 142) 1 = rd σ 72 b ∧ rd σ (b + 142) 5 = nI (shN σ b) ∧ shN σ b ≤ 999 ∧ rd σ (b + 142) 3 = nI (mdN σ b) ∧ mdN σ b < 1500 ∧ rd σ 74 b = nI (mdN σ b) ∧ (((rd σ 76 b - rd σ 77 b) - rd σ 78 b) - rd σ 79 b) - rd σ 80 b = nI (shN σ b) := by
  have hh := hI.1.1
  obtain ⟨s, k, lt, md, sh, so, mo, gi, th, ⟨hs, hk, hlt, hmd, hsum⟩, ⟨x0, x1, x2, x3, x4, x5, x6, x7, x8, x9⟩, ⟨y0, y1, y2, y3, y4, y5, y6, y7, y8⟩, z1, z2, z3⟩ := hI.2.2.2.2.2.1.2.2.2.1 b hb
  have e1 : shN σ b = sh := by unfold shN; rw [x5, cl (by omega)]
  have e2 : mdN σ b = md := by unfold mdN; rw [x3, cl (by omega)]
  rw [e1, e2, x0, x1, y0, y1, x5, x3, y3, y4, y5, y6, y7, y8]
  exact ⟨rfl, rfl, rfl, by omega, rfl, by omega, rfl, shelf_eq⟩
/-- line el md i n ln: ln 0 .. ln (n-1) are those of the first i that el takes, by md, then by number -/
def Line (el : Nat → Bool) (md : Nat → Nat) (i n : Nat) (ln : Nat → Nat) : Prop := n ≤ i ∧ (∀ j, j < n → ln j < i ∧ el (ln j) = true) ∧ (∀ b, b < i → el b = true → ∃ j, j < n ∧ ln j = b) ∧ ∀ j j', j < j' → j' < n → md (ln j) < md (ln j') ∨ (md (ln j) = md (ln j') ∧ ln j < ln j')
def lnAt (σ : St) (n : Nat) (ln : Nat → Nat) : Prop := rd σ 17 3 = nI n ∧ ∀ j, j < n → rd σ 19 j = nI (ln j)
theorem Line.skip {el : Nat → Bool} {md : Nat → Nat} {i n : Nat} {ln : Nat → Nat} (h : Line el md i n ln) (e : ¬ el i = true) : Line el md (i + 1) n ln := by
  obtain ⟨h0, h1, h2, h3⟩ := h
  refine ⟨by omega, fun j hj => ⟨by have := (h1 j hj).1; omega, (h1 j hj).2⟩, fun b hb eb => ?_, h3⟩
  rcases Nat.lt_or_ge b i with c | c
  · exact h2 b c eb
  · exact absurd (by rw [show i = b by omega]; exact eb) e
def insL (ln : Nat → Nat) (p b : Nat) : Nat → Nat := fun j => if j < p then ln j else if j = p then b else ln (j - 1)
theorem Line.step {el : Nat → Bool} {md : Nat → Nat} {i n p : Nat} {ln : Nat → Nat} (h : Line el md i n ln) (e : el i = true) (hp : p ≤ n) (l1 : p = 0 ∨ md (ln (p - 1)) ≤ md i) (l2 : ∀ j, p ≤ j → j < n → md i < md (ln j)) : Line el md (i + 1) (n + 1) (insL ln p i) := by
  obtain ⟨h0, h1, h2, h3⟩ := h
  have lo : ∀ j, j < p → insL ln p i j = ln j := fun j hj => if_pos hj
  have at' : insL ln p i p = i := by unfold insL; rw [if_neg (by omega), if_pos rfl]
  have hi : ∀ j, p < j → insL ln p i j = ln (j - 1) := fun j hj => by unfold insL; rw [if_neg (by omega), if_neg (by omega)]
  have le : ∀ j, j < p → md (ln j) ≤ md i := fun j hj => by
    rcases l1 with q | q
    · omega
    · rcases Nat.lt_or_ge j (p - 1) with c | c
      · have := h3 j (p - 1) c (by omega)
        omega
      · rw [show j = p - 1 by omega]
        exact q
  refine ⟨by omega, fun j hj => ?_, fun b hb eb => ?_, fun j j' hjj hj' => ?_⟩
  · rcases Nat.lt_trichotomy j p with c | c | c
    · rw [lo j c]
      have := h1 j (by omega)
      exact ⟨by omega, this.2⟩
    · subst c
      rw [at']
      exact ⟨by omega, e⟩
    · rw [hi j c]
      have := h1 (j - 1) (by omega)
      exact ⟨by omega, this.2⟩
  · rcases Nat.lt_or_ge b i with c | c
    · obtain ⟨j, hj, ej⟩ := h2 b c eb
      rcases Nat.lt_or_ge j p with q | q
      · exact ⟨j, by omega, by rw [lo j q]; exact ej⟩
      · exact ⟨j + 1, by omega, by rw [hi (j + 1) (by omega)]; exact ej⟩
    · exact ⟨p, by omega, by rw [at']; omega⟩
  · rcases Nat.lt_trichotomy j' p with c | c | c
    · rw [lo j (by omega), lo j' c]
      exact h3 j j' hjj (by omega)
    · subst c
      rw [lo j hjj, at']
      have a := le j hjj
      have b := (h1 j (by omega)).1
      omega
    · rw [hi j' c]
      rcases Nat.lt_trichotomy j p with q | q | q
      · rw [lo j q]
        exact h3 j (j' - 1) (by omega) (by omega)
      · subst q
        rw [at']
        exact Or.inl (l2 (j' - 1) (by omega) (by omega))
      · rw [hi j q]
        exact h3 (j - 1) (j' - 1) (by omega) (by omega)
section LN
variable {Γ : GG} {l : Launch} {d : Nat} {σ : St}
theorem S_addToLine {n b : Nat} {ln md : Nat → Nat} (hn : n < 200) (hb : b < 200) (hL : lnAt σ n ln) (hl : ∀ j, j < n → ln j < 200 ∧ rd σ (ln j + 142) 3 = nI (md (ln j)) ∧ md (ln j) < 1500) (h3 : rd σ (b + 142) 3 = nI (md b)) (hm : md b < 1500) : Meth Γ l d mX0_addToLine [.ref 17, .int (nI b)] σ (KV fun σ' => ∃ p, p ≤ n ∧ (p = 0 ∨ md (ln (p - 1)) ≤ md b) ∧ (∀ j, p ≤ j → j < n → md b < md (ln j)) ∧ lnAt σ' (n + 1) (insL ln p b) ∧ ∀ q c, q ≠ 19 → ¬ (q = 17 ∧ c = 3) → rd σ' q c = rd σ q c) := by
  obtain ⟨e3, eL⟩ := hL
  have cb : (nI b).toNatClampNeg = b := cl (by omega)
  have loop : ∀ p σ', p ≤ n → (∀ q c, q ≠ 19 → rd σ' q c = rd σ q c) → (∀ j, j < p → rd σ' 19 j = nI (ln j)) → (∀ j, p < j → j ≤ n → rd σ' 19 j = nI (ln (j - 1))) → (∀ j, p ≤ j → j < n → md b < md (ln j)) → J Γ l d mX0_addToLine (KV fun σ' => ∃ p, p ≤ n ∧ (p = 0 ∨ md (ln (p - 1)) ≤ md b) ∧ (∀ j, p ≤ j → j < n → md b < md (ln j)) ∧ lnAt σ' (n + 1) (insL ln p b) ∧ ∀ q c, q ≠ 19 → ¬ (q = 17 ∧ c = 3) → rd σ' q c = rd σ q c) 16 [(0, .ref 17), (1, .int (nI b)), (2, .int (nI p))] [] σ' := by
    intro p
    induction p with
    | zero =>
      intro σ' hp hA hlo hhi hgt
      refine w_X0_addToLine_16 _ _ ⟨fun _ => ?_, fun q => absurd (by decide) q⟩
      rw [hA 17 3 (by omega), e3, nI_s, show (nI 0).toNatClampNeg = 0 from rfl]
      refine ⟨in_nI (by omega) (by omega), rfl, 0, hp, Or.inl rfl, hgt, ⟨by rw [rd_wr, if_pos ⟨rfl, rfl⟩], fun j hj => ?_⟩, fun q c h1 h2 => ?_⟩
      · rw [rd_wr, if_neg (by omega), rd_wr]
        unfold insL
        rw [if_neg (by omega : ¬ j < 0)]
        by_cases c : j = 0
        · rw [if_pos ⟨rfl, c⟩, if_pos c]
        · rw [if_neg (by omega), if_neg c]
          exact hhi j (by omega) (by omega)
      · rw [rd_wr, if_neg h2, rd_wr, if_neg (by omega)]
        exact hA q c h1
    | succ p ih =>
      intro σ' hp hA hlo hhi hgt
      have cp : (nI (p + 1)).toNatClampNeg = p + 1 := cl (by omega)
      have cp' : (nI p).toNatClampNeg = p := cl (by omega)
      obtain ⟨g1, g2, g3⟩ := hl p (by omega)
      have n0 : ¬ nI (p + 1) ≤ (0 : Int32) := by
        rw [show (0 : Int32) = nI 0 from rfl, nI_lei (by omega) (by omega)]
        omega
      refine w_X0_addToLine_16 _ _ ⟨fun q => absurd q n0, fun _ => ?_⟩
      rw [nI_pr, cp', hlo p (by omega), cl (n := ln p) (by omega), cb, cp, hA _ 3 (by omega : ln p + 142 ≠ 19), hA _ 3 (by omega : b + 142 ≠ 19), g2, h3, nI_lei (by omega) (by omega)]
      refine ⟨in_nI (by omega) (by omega), in_nI g1 (by omega), in_nI hb (by omega), fun hle => ?_, fun hle => ?_⟩
      · rw [hA 17 3 (by omega), e3, nI_s]
        refine ⟨in_nI (by omega) (by omega), rfl, p + 1, hp, Or.inr hle, hgt, ⟨by rw [rd_wr, if_pos ⟨rfl, rfl⟩], fun j hj => ?_⟩, fun q c h1 h2 => ?_⟩
        · rw [rd_wr, if_neg (by omega), rd_wr]
          unfold insL
          rcases Nat.lt_trichotomy j (p + 1) with c | c | c
          · rw [if_neg (by omega), if_pos c]
            exact hlo j c
          · rw [if_pos ⟨rfl, c⟩, if_neg (by omega), if_pos c]
          · rw [if_neg (by omega), if_neg (by omega), if_neg (by omega)]
            exact hhi j c (by omega)
        · rw [rd_wr, if_neg h2, rd_wr, if_neg (by omega)]
          exact hA q c h1
      · refine ⟨in_nI (by omega) (by omega), fun x7 hx => ?_⟩
        rw [nI_p] at hx
        subst hx
        refine ih _ (by omega) (fun q c hq => ?_) (fun j hj => ?_) (fun j h1 h2 => ?_) (fun j h1 h2 => ?_)
        · rw [rd_wr, if_neg (by omega)]
          exact hA q c hq
        · rw [rd_wr, if_neg (by omega)]
          exact hlo j (by omega)
        · rw [rd_wr]
          by_cases c : j = p + 1
          · rw [if_pos ⟨rfl, c⟩, c]
            rfl
          · rw [if_neg (by omega)]
            exact hhi j (by omega) h2
        · rcases Nat.lt_or_ge p j with c | c
          · exact hgt j (by omega) h2
          · rw [show j = p by omega]
            omega
  refine M_X0_addToLine _ (w_X0_addToLine_0 _ ?_)
  rw [e3]
  refine ⟨fun _ => ?_, fun q => absurd ((nI_lti (b := 200) (by omega) (by omega)).mpr hn) q⟩
  exact loop n σ (Nat.le_refl _) (fun _ _ _ => rfl) eL (fun j h1 h2 => by omega) (fun j h1 h2 => by omega)
end LN

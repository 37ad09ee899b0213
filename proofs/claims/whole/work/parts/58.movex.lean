/-! MOVE: the class' side -/
def pcs (sh ln : Nat → Nat) : Nat → Nat
  | 0 => 0
  | j + 1 => pcs sh ln j + sh (ln j)
theorem totL_pcs {sh ln : Nat → Nat} {most : Nat} : ∀ j, totL sh ln most j = min most (pcs sh ln j)
  | 0 => by
    show 0 = min most 0
    omega
  | j + 1 => by
    show totL sh ln most j + min (most - totL sh ln most j) (sh (ln j)) = min most (pcs sh ln j + sh (ln j))
    rw [totL_pcs j]
    omega
/-- how many of a line are touched -/
def isT (sh ln : Nat → Nat) (most n T : Nat) : Prop := T ≤ n ∧ (∀ i, i < T → totL sh ln most i < most) ∧ (T < n → totL sh ln most T = most)
theorem exT (sh ln : Nat → Nat) (most : Nat) : ∀ n, ∃ T, isT sh ln most n T
  | 0 => ⟨0, Nat.le_refl _, fun i hi => absurd hi (by omega), fun h => absurd h (by omega)⟩
  | n + 1 => by
    obtain ⟨T, h1, h2, h3⟩ := exT sh ln most n
    rcases Nat.lt_or_ge T n with c | c
    · exact ⟨T, by omega, h2, fun _ => h3 c⟩
    · have : T = n := by omega
      subst this
      have le := totL_le (sh := sh) (ln := ln) (most := most) T
      rcases Nat.lt_or_ge (totL sh ln most T) most with q | q
      · refine ⟨T + 1, by omega, fun i hi => ?_, fun h => absurd h (by omega)⟩
        rcases Nat.lt_or_ge i T with r | r
        · exact h2 i r
        · rw [show i = T by omega]
          exact q
      · exact ⟨T, by omega, h2, fun _ => by omega⟩
def mvG (σ : St) (nB : Nat) (o : Int32) (sh ln : Nat → Nat) (most : Nat) : Nat → St
  | 0 => σ
  | j + 1 => mvS (mvG σ nB o sh ln most j) (nB + j) (ln j) o (min (most - totL sh ln most j) (sh (ln j)))
theorem mvG_same {σ : St} {nB : Nat} {o : Int32} {sh ln : Nat → Nat} {most n : Nat} (hl : ∀ j, j < n → ln j < nB) : ∀ j, j ≤ n → nB + j ≤ 200 → ∀ q c, ¬ (q = 17 ∧ c = 1) → ¬ (q = 59 ∧ c = 16) → ¬ (nB + 142 ≤ q ∧ q < 342) → ¬ (142 ≤ q ∧ q < nB + 142 ∧ (c = 5 ∨ c = 7)) → q ≠ 78 → ¬ (71 ≤ q ∧ q ≤ 82 ∧ nB ≤ c) → rd (mvG σ nB o sh ln most j) q c = rd σ q c
  | 0, _, _, _, _, _, _, _, _, _, _ => rfl
  | j + 1, hj, h2, q, c, a1, a2, a3, a4, a5, a6 => by
    have := hl j (by omega)
    rw [show mvG σ nB o sh ln most (j + 1) = mvS (mvG σ nB o sh ln most j) (nB + j) (ln j) o (min (most - totL sh ln most j) (sh (ln j))) from rfl, mv_old a1 a2 (by omega) (by omega) (by omega) (by omega)]
    exact mvG_same hl j (by omega) (by omega) q c a1 a2 a3 a4 a5 a6
theorem mvG_5 {σ : St} {nB : Nat} {o : Int32} {sh ln : Nat → Nat} {most n : Nat} (hl : ∀ j, j < n → ln j < nB) (hd : ∀ i j, i < j → j < n → ln i ≠ ln j) (hs : ∀ b, b < nB → rd σ (b + 142) 5 = nI (sh b)) : ∀ j, j ≤ n → nB + j ≤ 200 → ∀ b, b < nB → rd (mvG σ nB o sh ln most j) (b + 142) 5 = nI (sh b - amL sh ln most j b)
  | 0, _, _, b, hb => hs b hb
  | j + 1, hj, h2, b, hb => by
    have lj := hl j (by omega)
    have ih := mvG_5 (o := o) (most := most) hl hd hs j (by omega) (by omega) b hb
    rw [show mvG σ nB o sh ln most (j + 1) = mvS (mvG σ nB o sh ln most j) (nB + j) (ln j) o (min (most - totL sh ln most j) (sh (ln j))) from rfl, show amL sh ln most (j + 1) b = if b = ln j then min (most - totL sh ln most j) (sh (ln j)) else amL sh ln most j b from rfl]
    by_cases c : b = ln j
    · subst c
      rw [mv_5 (by omega), ih, if_pos rfl, amL_not j (ln j) fun i hi => hd i j hi (by omega), nI_subn (by omega), Nat.sub_zero]
    · rw [if_neg c, mv_old (by omega) (by omega) (by omega) (by omega) (by omega) (by omega)]
      exact ih
theorem mvG_71 {σ : St} {nB : Nat} {o : Int32} {sh ln : Nat → Nat} {most n : Nat} (hl : ∀ j, j < n → ln j < nB) : ∀ j, j ≤ n → nB + j ≤ 200 → ∀ i, i < j → rd (mvG σ nB o sh ln most j) 71 (nB + i) = o
  | 0, _, _, i, hi => absurd hi (by omega)
  | j + 1, hj, h2, i, hi => by
    rw [show mvG σ nB o sh ln most (j + 1) = mvS (mvG σ nB o sh ln most j) (nB + j) (ln j) o (min (most - totL sh ln most j) (sh (ln j))) from rfl]
    by_cases c : i = j
    · subst c
      exact mv_71.1
    · rw [mv_old (by omega) (by omega) (by omega) (by omega) (by omega) (by omega)]
      exact mvG_71 hl j (by omega) (by omega) i (by omega)
theorem mvG_inv {σ : St} {h nS nK nB o : Nat} {sh ln : Nat → Nat} {most n : Nat} (h0 : Inv0 h nS nK nB σ) (ho : o < 12) (hl : ∀ j, j < n → ln j < nB) (hd : ∀ i j, i < j → j < n → ln i ≠ ln j) (hs : ∀ b, b < nB → rd σ (b + 142) 5 = nI (sh b)) (hsh : ∀ b, b < nB → sh b ≤ 999) : ∀ j, j ≤ n → nB + j ≤ 200 → Inv0 h nS nK (nB + j) (mvG σ nB (nI o) sh ln most j)
  | 0, _, _ => h0
  | j + 1, hj, h2 => by
    have lj := hl j (by omega)
    have ih := mvG_inv (most := most) h0 ho hl hd hs hsh j (by omega) (by omega)
    refine ih.mv (by omega) (by omega) ho ?_
    have e := mvG_5 (o := nI o) (most := most) hl hd hs j (by omega) (by omega) (ln j) lj
    have := hsh _ lj
    unfold shN
    rw [e, amL_not j (ln j) fun i hi => hd i j hi (by omega), cl (by omega)]
    omega
section MX
variable {Γ : GG} {l : Launch} {d : Nat} {σ : St}
theorem S_touchedBy {n most T : Nat} {ln sh : Nat → Nat} (hm : most ≤ 999) (hn : n ≤ 200) (hL : lnAt σ n ln) (hl : ∀ j, j < n → ln j < 200 ∧ rd σ (ln j + 142) 5 = nI (sh (ln j)) ∧ sh (ln j) ≤ 999) (hT : isT sh ln most n T) : Meth Γ l d mX0_touchedBy [.ref 17, .int (nI most)] σ (KI (Kv (nI T) σ)) := by
  obtain ⟨e3, eL⟩ := hL
  obtain ⟨t1, t2, t3⟩ := hT
  have pb : ∀ j, j ≤ n → pcs sh ln j ≤ 999 * j := fun j hj => by
    induction j with
    | zero => exact Nat.le_refl _
    | succ j ih =>
      have h1 := ih (by omega)
      have h2 := (hl j (by omega)).2.2
      show pcs sh ln j + sh (ln j) ≤ _
      omega
  have loop : ∀ f j, j + f = T → J Γ l d mX0_touchedBy (KI (Kv (nI T) σ)) 4 [(0, .ref 17), (1, .int (nI most)), (2, .int (nI j)), (3, .int (nI (pcs sh ln j)))] [] σ := by
    intro f
    induction f with
    | zero =>
      intro j hj
      have : j = T := by omega
      subst this
      have p := pb j t1
      refine w_X0_touchedBy_4 _ _ _ ⟨fun _ => ⟨_, rfl, rfl, rfl⟩, fun q => ⟨fun _ => ⟨_, rfl, rfl, rfl⟩, fun q2 => ?_⟩⟩
      rw [e3, nI_lei (by omega) (by omega)] at q
      rw [nI_lei (by omega) (by omega)] at q2
      have h1 := t3 (by omega)
      rw [totL_pcs] at h1
      omega
    | succ f ih =>
      intro j hj
      have p := pb j (by omega)
      obtain ⟨g1, g2, g3⟩ := hl j (by omega)
      refine w_X0_touchedBy_4 _ _ _ ⟨fun q => absurd q (nle e3 (by omega) (by omega)), fun _ => ⟨fun q => ?_, fun _ => ?_⟩⟩
      · rw [nI_lei (by omega) (by omega)] at q
        have h1 := t2 j (by omega)
        rw [totL_pcs] at h1
        omega
      · rw [cl (n := j) (by omega), eL j (by omega), cl (n := ln j) (by omega), g2]
        refine ⟨in_nI (by omega) (by omega), in_nI g1 (by omega), fun x hx y hy => ?_⟩
        rw [nI_addn] at hx
        rw [nI_s] at hy
        subst hx hy
        exact ih (j + 1) (by omega)
  exact M_X0_touchedBy _ (w_X0_touchedBy_0 _ (loop T 0 (by omega)))
theorem S_moveFromLine {h nS nK nB n most T o : Nat} {ln : Nat → Nat} (h0 : Inv0 h nS nK nB σ) (ho : o < 12) (hm : most ≤ 999) (hn : n ≤ nB) (hL : lnAt σ n ln) (hl : ∀ j, j < n → ln j < nB) (hd : ∀ i j, i < j → j < n → ln i ≠ ln j) (hT : isT (shN σ) ln most n T) (hr : nB + T ≤ 200) : Meth Γ l (d + 1) mX0_moveFromLine [.ref 17, .int (nI most), .int (nI o)] σ (KI fun x σ' => x = nI (totL (shN σ) ln most T) ∧ (∀ q c, (q < 59 ∨ 118 ≤ q) → rd σ' q c = rd (mvG σ nB (nI o) (shN σ) ln most T) q c) ∧ ∀ q c, 59 ≤ q → q < 118 → rd σ' q c = rd σ q c) := by
  obtain ⟨e3, eL⟩ := hL
  obtain ⟨t1, t2, t3⟩ := hT
  have zB := h0.2.2.2.2.2.1.1
  have hh := h0.1.1
  have hs : ∀ b, b < nB → rd σ (b + 142) 5 = nI (shN σ b) := fun b hb => (Bv h0 hb).2.2.1
  have hsh : ∀ b, b < nB → shN σ b ≤ 999 := fun b hb => (Bv h0 hb).2.2.2.1
  generalize hsN : shN σ = sh at *
  generalize hG : mvG σ nB (nI o) sh ln most = G
  have G0 : G 0 = σ := by rw [← hG]; rfl
  have GS : ∀ j, G (j + 1) = mvS (G j) (nB + j) (ln j) (nI o) (min (most - totL sh ln most j) (sh (ln j))) := fun j => by rw [← hG]; rfl
  have Gs : ∀ j, j ≤ n → nB + j ≤ 200 → ∀ q c, ¬ (q = 17 ∧ c = 1) → ¬ (q = 59 ∧ c = 16) → ¬ (nB + 142 ≤ q ∧ q < 342) → ¬ (142 ≤ q ∧ q < nB + 142 ∧ (c = 5 ∨ c = 7)) → q ≠ 78 → ¬ (71 ≤ q ∧ q ≤ 82 ∧ nB ≤ c) → rd (G j) q c = rd σ q c := fun j h1 h2 => by rw [← hG]; exact mvG_same hl j h1 h2
  have G5 : ∀ j, j ≤ n → nB + j ≤ 200 → ∀ b, b < nB → rd (G j) (b + 142) 5 = nI (sh b - amL sh ln most j b) := fun j h1 h2 => by rw [← hG]; exact mvG_5 hl hd hs j h1 h2
  have GI : ∀ j, j ≤ n → nB + j ≤ 200 → Inv0 h nS nK (nB + j) (G j) := fun j h1 h2 => by rw [← hG]; exact mvG_inv h0 ho hl hd hs hsh j h1 h2
  have loop : ∀ f j σj, j + f = T → (∀ q c, (q < 59 ∨ 118 ≤ q) → rd σj q c = rd (G j) q c) → (∀ q c, 59 ≤ q → q < 118 → rd σj q c = rd σ q c) → J Γ l (d + 1) mX0_moveFromLine (KI fun x σ' => x = nI (totL sh ln most T) ∧ (∀ q c, (q < 59 ∨ 118 ≤ q) → rd σ' q c = rd (G T) q c) ∧ ∀ q c, 59 ≤ q → q < 118 → rd σ' q c = rd σ q c) 5 [(0, .ref 17), (1, .int (nI most)), (2, .int (nI o)), (3, .int (nI (totL sh ln most j))), (4, .int (nI j))] [] σj := by
    intro f
    induction f with
    | zero =>
      intro j σj hj hX hM
      have : j = T := by omega
      subst this
      have tl := totL_le (sh := sh) (ln := ln) (most := most) j
      have e : rd σj 17 3 = nI n := by rw [hX 17 3 (by omega), Gs j t1 hr 17 3 (by omega) (by omega) (by omega) (by omega) (by omega) (by omega)]; exact e3
      refine w_X0_moveFromLine_5 _ _ _ _ ⟨fun _ => KI.mk ⟨rfl, hX, hM⟩, fun q => ⟨fun _ => KI.mk ⟨rfl, hX, hM⟩, fun q2 => ?_⟩⟩
      rw [e, nI_lei (by omega) (by omega)] at q
      rw [nI_lei (by omega) (by omega)] at q2
      have h1 := t3 (by omega)
      omega
    | succ f ih =>
      intro j σj hj hX hM
      have hjn : j < n := by omega
      have tl := totL_le (sh := sh) (ln := ln) (most := most) j
      have tlt := t2 j (by omega)
      have lj := hl j hjn
      have S := Gs j (by omega) (by omega)
      have e : rd σj 17 3 = nI n := by rw [hX 17 3 (by omega), S 17 3 (by omega) (by omega) (by omega) (by omega) (by omega) (by omega)]; exact e3
      have e19 : rd σj 19 j = nI (ln j) := by rw [hX 19 j (by omega), S 19 j (by omega) (by omega) (by omega) (by omega) (by omega) (by omega)]; exact eL j hjn
      have a0 : amL sh ln most j (ln j) = 0 := amL_not j (ln j) fun i hi => hd i j hi hjn
      have shl := hsh _ lj
      have e5 : rd σj (ln j + 142) 5 = nI (sh (ln j)) := by rw [hX _ _ (by omega), G5 j (by omega) (by omega) _ lj, a0, Nat.sub_zero]
      obtain ⟨s, k, lt, md, sh', so, mo, gi, th, ⟨c1, c2, c3, c4, c5⟩, ⟨x0, x1, x2, x3, -⟩, -⟩ := h0.2.2.2.2.2.1.2.2.2.1 (ln j) lj
      have g1 : rd (G j) (ln j + 142) 1 = nI k := (S _ 1 (by omega) (by omega) (by omega) (by omega) (by omega) (by omega)).trans x1
      have g2 : rd (G j) (ln j + 142) 2 = nI lt := (S _ 2 (by omega) (by omega) (by omega) (by omega) (by omega) (by omega)).trans x2
      have g3 : rd (G j) (ln j + 142) 3 = nI md := (S _ 3 (by omega) (by omega) (by omega) (by omega) (by omega) (by omega)).trans x3
      have eN : rd σj 17 1 = nI (nB + j) := (hX 17 1 (by omega)).trans (GI j (by omega) (by omega)).2.2.2.2.2.1.2.1
      refine w_X0_moveFromLine_5 _ _ _ _ ⟨fun q => absurd q (nle e hjn (by omega)), fun _ => ⟨fun q => ?_, fun _ => ?_⟩⟩
      · rw [nI_lei (by omega) (by omega)] at q
        omega
      rw [cl (n := j) (by omega), e19, cl (n := ln j) (by omega), e5, hX (ln j + 142) 1 (by omega), g1, hX (ln j + 142) 2 (by omega), g2, hX (ln j + 142) 3 (by omega), g3, nI_subn tl, mnI_n (by omega) (by omega), show nI k * 100 + nI lt = nI (k * 100 + lt) by rw [show (100 : Int32) = nI 100 from rfl, nI_muln, nI_addn]]
      refine ⟨in_nI (by omega) (by omega), in_nI (by omega) (by omega), fun a ha => ?_⟩
      subst ha
      refine (S_addB (n := nB + j) (nI o) (nI (k * 100 + lt)) (nI md) _ (by omega) eN).mono ?_
      rintro v σ4 ⟨x, rfl, rfl, hA⟩
      have w1 : nI (k * 100 + lt) / 100 = nI k := by
        rw [show (100 : Int32) = nI 100 from rfl, nI_divn (by omega) (by omega)]
        congr 1
        omega
      have w2 : nI (k * 100 + lt) - nI k * 100 = nI lt := by
        rw [show (100 : Int32) = nI 100 from rfl, nI_muln, nI_subn (by omega)]
        congr 1
        omega
      rw [w1, w2] at hA
      have A : ∀ q c, q ≠ nB + j + 142 → ¬ (q = 17 ∧ c = 1) → rd σ4 q c = rd σj q c := fun q c h1 h2 => by
        rw [hA, if_neg h1, if_neg h2]
      refine ⟨_, rfl, fun _ => ?_, fun q => absurd (nI_pos' (n := nB + j) (by omega)) q⟩
      rw [cl (n := nB + j) (by omega), A 19 j (by omega) (by omega), e19]
      refine ⟨in_nI (by omega) (by omega), ?_⟩
      have r19 : ∀ v w : Int32, rd (wr (wr σ4 (nB + j + 142) 11 v) (nB + j + 142) 12 w) 19 j = nI (ln j) := fun v w => by
        rw [rdn (by omega), rdn (by omega), A 19 j (by omega) (by omega)]
        exact e19
      have r12 : ∀ v : Int32, rd (wr σ4 (nB + j + 142) 11 v) (ln j + 142) 12 = rd (G j) (ln j + 142) 12 := fun v => by
        rw [rdn (by omega), A _ _ (by omega) (by omega)]
        exact hX _ _ (by omega)
      rw [r19, r12]
      refine M_X0_take _ _ _ (w_X0_take_0 _ _ _ ⟨in_nI (by omega) (by omega), in_nI (n := 7) (by omega) (by omega), rfl, fun y hy => ?_⟩)
      rw [nI_s] at hy
      subst hy
      rw [nI_addn, cl (n := ln j) (by omega), show (7 : Int32).toNatClampNeg = 7 from rfl]
      generalize hF : rd (G j) (ln j + 142) 12 = F
      have nx := ih (j + 1)
      rw [GS] at nx
      rw [show totL sh ln most (j + 1) = totL sh ln most j + min (most - totL sh ln most j) (sh (ln j)) from rfl] at nx
      generalize min (most - totL sh ln most j) (sh (ln j)) = a at *
      refine nx _ (by omega) (fun q c hq => ?_) (fun q c h1 h2 => ?_)
      · rw [mv_rd]
        simp only [rd_wr]
        by_cases q1 : q = nB + j + 142
        · subst q1
          rw [if_neg (c := nB + j + 142 = ln j + 142 ∧ c = 7) (by omega), if_neg (c := nB + j + 142 = ln j + 142 ∧ c = 5) (by omega), if_neg (c := nB + j + 142 = 17 ∧ c = 1 ∨ nB + j + 142 = 59 ∧ c = 16) (by omega), if_pos (c := nB + j + 142 = nB + j + 142) rfl, hA, if_pos rfl, g1, g2, g3, hX _ _ (by omega)]
          by_cases c12 : c = 12
          · subst c12
            simp [hF]
          by_cases c11 : c = 11
          · subst c11
            simp
          simp [c12, c11]
        by_cases q2 : q = ln j + 142 ∧ c = 7
        · obtain ⟨rfl, rfl⟩ := q2
          rw [if_pos ⟨rfl, rfl⟩, if_neg (by omega), if_neg (by omega), if_neg (by omega), if_neg (by omega), if_neg (by omega), if_neg (by omega), if_pos (by omega), A _ _ (by omega) (by omega), hX _ _ (by omega)]
        by_cases q3 : q = ln j + 142 ∧ c = 5
        · obtain ⟨rfl, rfl⟩ := q3
          rw [if_neg (by omega), if_pos ⟨rfl, rfl⟩, if_neg (by omega), if_neg (by omega), if_neg (by omega), if_neg (by omega), if_pos ⟨rfl, rfl⟩, A _ _ (by omega) (by omega), hX _ _ (by omega)]
        by_cases q4 : q = 17 ∧ c = 1
        · obtain ⟨rfl, rfl⟩ := q4
          rw [if_neg (by omega), if_neg (by omega), if_neg (by omega), if_neg (by omega), if_pos (by omega), hA, if_neg (by omega), if_pos ⟨rfl, rfl⟩]
        · rw [if_neg (by omega), if_neg (by omega), if_neg (by omega), if_neg (by omega), if_neg (by omega), if_neg (by omega), if_neg (by omega), if_neg (by omega), if_neg (by omega), if_neg (by omega), if_neg (by omega), if_neg (by omega), if_neg (by omega), if_neg (by omega), if_neg (by omega), A q c q1 q4]
          exact hX q c hq
      · rw [rdn (by omega), rdn (by omega), rdn (by omega), rdn (by omega), A q c (by omega) (by omega)]
        exact hM q c h1 h2
  exact M_X0_moveFromLine _ _ (w_X0_moveFromLine_0 _ _ (loop T 0 σ (by omega) (fun q c _ => by rw [G0]) (fun _ _ _ _ => rfl)))
end MX

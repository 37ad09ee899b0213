/-! TAKES along a line, on both sides -/
def tkX (col : Nat) (A : Nat → Nat) (σ σ' : St) : Prop := ∀ q c, rd σ' q c = if 142 ≤ q ∧ q < 342 ∧ c = 5 then rd σ q c - nI (A (q - 142)) else if 142 ≤ q ∧ q < 342 ∧ c = col then rd σ q c + nI (A (q - 142)) else rd σ q c
def tkM (q0 : Nat) (A : Nat → Nat) (σ σ' : St) : Prop := ∀ q c, q ≠ 91 → rd σ' q c = if q = q0 ∧ c < 200 then rd σ q c + nI (A c) else rd σ q c
theorem mnI_n {a b : Nat} (ha : a < 2147483648) (hb : b < 2147483648) : mnI (nI a) (nI b) = nI (min a b) := by
  unfold mnI
  by_cases c : b < a
  · rw [if_pos ((nI_lti hb ha).mpr c), Nat.min_eq_right (by omega)]
  · rw [if_neg (fun q => c ((nI_lti hb ha).mp q)), Nat.min_eq_left (by omega)]
theorem sb1 (a b c d e x : Int32) : (((a - (b + x)) - c) - d) - e = ((((a - b) - c) - d) - e) - x := by grind
theorem sb2 (a b c d e x : Int32) : (((a - b) - (c + x)) - d) - e = ((((a - b) - c) - d) - e) - x := by grind
theorem sb3 (a b c d e x : Int32) : (((a - b) - c) - (d + x)) - e = ((((a - b) - c) - d) - e) - x := by grind
theorem nI_z : nI 0 = 0 := rfl
section TK
variable {Γ : GG} {l : Launch} {d : Nat} {σ : St}
theorem S_takeFromLine {n most col : Nat} {ln sh : Nat → Nat} (hcol : col < 14 ∧ col ≠ 5) (hm : most ≤ 999) (hn : n ≤ 200) (hL : lnAt σ n ln) (hl : ∀ j, j < n → ln j < 200 ∧ rd σ (ln j + 142) 5 = nI (sh (ln j)) ∧ sh (ln j) ≤ 999) (hd : ∀ a b, a < b → b < n → ln a ≠ ln b) : Meth Γ l (d + 1) mX0_takeFromLine [.ref 17, .int (nI most), .int (nI col)] σ (KI fun x σ' => x = nI (totL sh ln most n) ∧ tkX col (amL sh ln most n) σ σ') := by
  obtain ⟨e3, eL⟩ := hL
  have loop : ∀ m j σj, j + m = n → tkX col (amL sh ln most j) σ σj → J Γ l (d + 1) mX0_takeFromLine (KI fun x σ' => x = nI (totL sh ln most n) ∧ tkX col (amL sh ln most n) σ σ') 5 [(0, .ref 17), (1, .int (nI most)), (2, .int (nI col)), (3, .int (nI (totL sh ln most j))), (4, .int (nI j))] [] σj := by
    intro m
    induction m with
    | zero =>
      intro j σj hj ht
      have : j = n := by omega
      subst this
      have e : rd σj 17 3 = nI j := by rw [ht, if_neg (by omega), if_neg (by omega)]; exact e3
      exact w_X0_takeFromLine_5 _ _ _ _ ⟨fun _ => KI.mk ⟨rfl, ht⟩, fun q => absurd (yle e (Nat.le_refl _) (by omega)) q⟩
    | succ m ih =>
      intro j σj hj ht
      have hjn : j < n := by omega
      have e : rd σj 17 3 = nI n := by rw [ht, if_neg (by omega), if_neg (by omega)]; exact e3
      have e19 : rd σj 19 j = nI (ln j) := by rw [ht, if_neg (by omega), if_neg (by omega)]; exact eL j hjn
      obtain ⟨g1, g2, g3⟩ := hl j hjn
      have tl := totL_le (sh := sh) (ln := ln) (most := most) j
      have a0 : amL sh ln most j (ln j) = 0 := amL_not j (ln j) fun i hi => hd i j hi hjn
      have e5 : rd σj (ln j + 142) 5 = nI (sh (ln j)) := by
        rw [ht, if_pos ⟨by omega, by omega, rfl⟩, g2, Nat.add_sub_cancel, a0, nI_z, Int32.sub_zero]
      refine w_X0_takeFromLine_5 _ _ _ _ ⟨fun q => absurd q (nle e hjn (by omega)), fun _ => ⟨fun hle => ?_, fun hle => ?_⟩⟩
      · rw [nI_lei (by omega) (by omega)] at hle
        obtain ⟨h1, h2⟩ := amL_end hd (m + 1) j hj (show totL sh ln most j = most by omega)
        exact KI.mk ⟨by rw [h1]; congr 1; omega, by rw [h2]; exact ht⟩
      · rw [nI_lei (by omega) (by omega)] at hle
        rw [cl (n := j) (by omega), e19, cl (n := ln j) (by omega), e5, nI_subn tl, mnI_n (by omega) (by omega)]
        refine ⟨in_nI (by omega) (by omega), in_nI g1 (by omega), fun x3 h3 => ?_⟩
        subst h3
        refine M_X0_take _ _ _ (w_X0_take_0 _ _ _ ⟨in_nI g1 (by omega), in_nI hcol.1 (by omega), rfl, fun x5 h5 => ?_⟩)
        rw [nI_s] at h5
        subst h5
        rw [nI_addn, cl (n := ln j) (by omega), cl (n := col) (by omega)]
        refine ih (j + 1) _ (by omega) (fun q c => ?_)
        have en : ∀ b, amL sh ln most (j + 1) b = if b = ln j then min (most - totL sh ln most j) (sh (ln j)) else amL sh ln most j b := fun b => rfl
        simp only [rd_wr]
        rw [en]
        by_cases q1 : q = ln j + 142
        · subst q1
          rw [Nat.add_sub_cancel, if_pos rfl]
          by_cases c5 : c = 5
          · subst c5
            rw [if_neg (by omega), if_pos ⟨rfl, rfl⟩, if_pos ⟨by omega, by omega, rfl⟩, e5, g2]
          · by_cases cc : c = col
            · subst cc
              rw [if_pos ⟨rfl, rfl⟩, if_neg (by omega), if_neg (by omega), if_pos ⟨by omega, by omega, rfl⟩, ht, if_neg (by omega), if_pos ⟨by omega, by omega, rfl⟩, Nat.add_sub_cancel, a0, nI_z, Int32.add_zero]
            · rw [if_neg (by omega), if_neg (by omega), if_neg (by omega), if_neg (by omega), ht, if_neg (by omega), if_neg (by omega)]
        · rw [if_neg (by omega), if_neg (by omega), ht]
          by_cases r : 142 ≤ q ∧ q < 342
          · rw [if_neg (c := q - 142 = ln j) (by omega)]
          · rw [if_neg (by omega), if_neg (by omega), if_neg (by omega), if_neg (by omega)]
  refine M_X0_takeFromLine _ _ (w_X0_takeFromLine_0 _ _ (loop n 0 σ (by omega) (fun q c => ?_)))
  show _ = if _ then rd σ q c - nI 0 else if _ then rd σ q c + nI 0 else _
  rw [nI_z, Int32.sub_zero, Int32.add_zero]
  split
  · rfl
  · split <;> rfl
theorem elS_iff {τ : St} {s k u : Int32} {sh : Nat → Nat} {b : Nat} : elS τ s k u sh b = true ↔ rd τ 71 b = s ∧ rd τ 72 b = k ∧ 0 < sh b ∧ mayM τ u b = true := by
  unfold elS
  simp
theorem eldJ {τ : St} {s k u : Int32} {sh ln : Nat → Nat} {md : Nat → Nat} {nB n most j : Nat} {x : Int32} (hL : Line (elS τ s k u sh) md nB n ln) (hj : j ≤ n) (ht : totL sh ln most j < most) (hx : eldA (elS τ s k u (fun b => sh b - amL sh ln most j b)) md nB x) : (j = n ∧ x = -1) ∨ (j < n ∧ x = nI (ln j)) := by
  have hd := hL.dist
  have cand : j < n → elS τ s k u (fun b => sh b - amL sh ln most j b) (ln j) = true := fun hjn => by
    have h1 := (hL.2.1 j hjn).2
    rw [elS_iff] at h1 ⊢
    refine ⟨h1.1, h1.2.1, ?_, h1.2.2.2⟩
    rw [amL_not j (ln j) fun i hi => hd i j hi hjn]
    exact h1.2.2.1
  rcases hx with ⟨hx, hn⟩ | ⟨b, hb, hx, h1, h2⟩
  · rcases Nat.lt_or_ge j n with c | c
    · exact absurd (cand c) (hn _ (hL.2.1 j c).1)
    · exact Or.inl ⟨by omega, hx⟩
  · have h3 := h1
    rw [elS_iff] at h3
    obtain ⟨i, hi, rfl⟩ := hL.2.2.1 b hb (by rw [elS_iff]; exact ⟨h3.1, h3.2.1, by omega, h3.2.2.2⟩)
    have hij : j ≤ i := by
      rcases Nat.lt_or_ge i j with c | c
      · have := amL_all j ht i c
        omega
      · exact c
    refine Or.inr ⟨by omega, ?_⟩
    rcases Nat.lt_or_ge j i with c | c
    · have a := h2 (ln j) (hL.2.1 j (by omega)).1 (cand (by omega))
      have b := hL.2.2.2 j i c hi
      omega
    · rw [show j = i by omega]
      exact hx
theorem takeM {τ : St} {h nS nK nB : Nat} (hI : Inv0 h nS nK nB τ) (hr : agr sR τ σ) {q0 : Nat} (hq : q0 = 77 ∨ q0 = 78 ∨ q0 = 79) (s k u : Int32) {sh : Nat → Nat} (ham : ∀ b, b < nB → (((rd σ 76 b - rd σ 77 b) - rd σ 78 b) - rd σ 79 b) - rd σ 80 b = nI (sh b)) (hsh : ∀ b, b < nB → sh b ≤ 999)
    {P : Int32 → Int32 → St → Prop} {Fin : Int32 → St → Prop}
    (step : ∀ (a4 a5 : Int32) (σ : St), ((a4 ≤ (0 : Int32) → Fin a4 σ) ∧ (¬ a4 ≤ (0 : Int32) → (a5 < (0 : Int32) → Fin a4 σ) ∧ (¬ a5 < (0 : Int32) → vp_in a5 200 ∧ (a4 ≤ (((rd σ 76 a5.toNatClampNeg - rd σ 77 a5.toNatClampNeg) - rd σ 78 a5.toNatClampNeg) - rd σ 79 a5.toNatClampNeg) - rd σ 80 a5.toNatClampNeg → vp_in a5 200 ∧ Meth Γ l (d + 4) mX12_eldest [.ref 59, .int s, .int k, .int u] (wr σ q0 a5.toNatClampNeg (rd σ q0 a5.toNatClampNeg + a4)) (KI fun x4 σ3 => P (a4 - a4) x4 σ3)) ∧ (¬ a4 ≤ (((rd σ 76 a5.toNatClampNeg - rd σ 77 a5.toNatClampNeg) - rd σ 78 a5.toNatClampNeg) - rd σ 79 a5.toNatClampNeg) - rd σ 80 a5.toNatClampNeg → vp_in a5 200 ∧ ∀ x6 : Int32, x6 = (((rd σ 76 a5.toNatClampNeg - rd σ 77 a5.toNatClampNeg) - rd σ 78 a5.toNatClampNeg) - rd σ 79 a5.toNatClampNeg) - rd σ 80 a5.toNatClampNeg → vp_in a5 200 ∧ Meth Γ l (d + 4) mX12_eldest [.ref 59, .int s, .int k, .int u] (wr σ q0 a5.toNatClampNeg (rd σ q0 a5.toNatClampNeg + x6)) (KI fun x9 σ8 => P (a4 - x6) x9 σ8))))) → P a4 a5 σ)
    {n most : Nat} {ln : Nat → Nat} (hm : most ≤ 999) (hL : Line (elS τ s k u sh) (mdN τ) nB n ln)
    (hFin : ∀ σ', tkM q0 (amL sh ln most n) σ σ' → Fin (nI (most - totL sh ln most n)) σ') {x : Int32} {σ1 : St} (hx : eldA (elS τ s k u sh) (mdN τ) nB x) (ha : agr oM σ σ1) : P (nI most) x σ1 := by
  have zB := hI.2.2.2.2.2.1.1
  have hd := hL.dist
  have loop : ∀ m j σj x, j + m = n → tkM q0 (amL sh ln most j) σ σj → (totL sh ln most j < most → (j = n ∧ x = -1) ∨ (j < n ∧ x = nI (ln j))) → P (nI (most - totL sh ln most j)) x σj := by
    intro m
    induction m with
    | zero =>
      intro j σj x hj ht hx
      have : j = n := by omega
      subst this
      refine step _ _ _ ⟨fun _ => hFin _ ht, fun hpos => ⟨fun _ => hFin _ ht, fun hneg => ?_⟩⟩
      have tl := totL_le (sh := sh) (ln := ln) (most := most) j
      rw [show (0 : Int32) = nI 0 from rfl, nI_lei (by omega) (by omega)] at hpos
      rcases hx (by omega) with ⟨-, rfl⟩ | ⟨q, -⟩
      · exact absurd (by decide) hneg
      · omega
    | succ m ih =>
      intro j σj x hj ht hx
      have tl := totL_le (sh := sh) (ln := ln) (most := most) j
      refine step _ _ _ ⟨fun hz => ?_, fun hpos => ?_⟩
      · rw [show (0 : Int32) = nI 0 from rfl, nI_lei (by omega) (by omega)] at hz
        obtain ⟨h1, h2⟩ := amL_end hd (m + 1) j hj (show totL sh ln most j = most by omega)
        rw [show most - totL sh ln most j = most - totL sh ln most n by omega]
        exact hFin _ (by rw [h2]; exact ht)
      · rw [show (0 : Int32) = nI 0 from rfl, nI_lei (by omega) (by omega)] at hpos
        have hlt : totL sh ln most j < most := by omega
        rcases hx hlt with ⟨q, -⟩ | ⟨hjn, rfl⟩
        · omega
        have lj := (hL.2.1 j hjn).1
        have shj := hsh _ lj
        have cj : (nI (ln j)).toNatClampNeg = ln j := cl (by omega)
        have a0 : amL sh ln most j (ln j) = 0 := amL_not j (ln j) fun i hi => hd i j hi hjn
        -- what is on the shelves
        have gen : ∀ j' σ', tkM q0 (amL sh ln most j') σ σ' → ∀ b, b < nB → (((rd σ' 76 b - rd σ' 77 b) - rd σ' 78 b) - rd σ' 79 b) - rd σ' 80 b = nI (sh b - amL sh ln most j' b) := by
          intro j' σ' ht' b hb
          have h0 := ham b hb
          rw [ht' 76 b (by omega), ht' 77 b (by omega), ht' 78 b (by omega), ht' 79 b (by omega), ht' 80 b (by omega)]
          rw [← nI_subn (amL_le j' b), ← h0]
          rcases hq with e | e | e <;> subst e
          · rw [if_neg (by omega), if_pos ⟨rfl, by omega⟩, if_neg (by omega), if_neg (by omega), if_neg (by omega)]
            exact sb1 _ _ _ _ _ _
          · rw [if_neg (by omega), if_neg (by omega), if_pos ⟨rfl, by omega⟩, if_neg (by omega), if_neg (by omega)]
            exact sb2 _ _ _ _ _ _
          · rw [if_neg (by omega), if_neg (by omega), if_neg (by omega), if_pos ⟨rfl, by omega⟩, if_neg (by omega)]
            exact sb3 _ _ _ _ _ _
        have e5 := gen j σj ht (ln j) lj
        rw [a0, Nat.sub_zero] at e5
        -- one taking
        have one : ∀ v, v = min (most - totL sh ln most j) (sh (ln j)) → Meth Γ l (d + 4) mX12_eldest [.ref 59, .int s, .int k, .int u] (wr σj q0 (ln j) (rd σj q0 (ln j) + nI v)) (KI fun x4 σ3 => P (nI (most - totL sh ln most j) - nI v) x4 σ3) := by
          intro v hv
          have ht2 : tkM q0 (amL sh ln most (j + 1)) σ (wr σj q0 (ln j) (rd σj q0 (ln j) + nI v)) := by
            intro q c hqc
            have en : ∀ b, amL sh ln most (j + 1) b = if b = ln j then min (most - totL sh ln most j) (sh (ln j)) else amL sh ln most j b := fun b => rfl
            rw [rd_wr, en, ← hv]
            by_cases q1 : q = q0 ∧ c = ln j
            · rw [if_pos q1, if_pos ⟨q1.1, by omega⟩, if_pos q1.2, ht q0 _ (by omega), if_pos ⟨rfl, by omega⟩, a0, nI_z, Int32.add_zero, q1.1, q1.2]
            · rw [if_neg q1, ht q c hqc]
              by_cases q2 : q = q0 ∧ c < 200
              · rw [if_pos q2, if_pos q2, if_neg (by omega)]
              · rw [if_neg q2, if_neg q2]
          have hrj : agr sR τ (wr σj q0 (ln j) (rd σj q0 (ln j) + nI v)) := fun q c hqc => by
            have h1 : q ≠ 91 := by
              unfold sR sLaws at hqc
              omega
            have h2 : ¬ (q = q0 ∧ c < 200) := by
              unfold sR sLaws at hqc
              omega
            rw [ht2 q c h1, if_neg h2]
            exact hr q c hqc
          refine (S_eldest hI hrj s k u (sh := fun b => sh b - amL sh ln most (j + 1) b) (gen _ _ ht2) (fun b hb => by have := hsh b hb; omega)).mono ?_
          rintro w σ3 ⟨x4, rfl, hx4, ha3⟩
          refine ⟨_, rfl, ?_⟩
          have tn : totL sh ln most (j + 1) = totL sh ln most j + v := by
            rw [hv]
            rfl
          rw [nI_subn (by omega), show most - totL sh ln most j - v = most - totL sh ln most (j + 1) by omega]
          refine ih (j + 1) σ3 x4 (by omega) (fun q c hqc => by rw [ha3 q c hqc]; exact ht2 q c hqc) (fun hlt2 => eldJ hL (by omega) hlt2 hx4)
        refine ⟨fun q => absurd q (nlt0 (by omega)), fun _ => ?_⟩
        rw [cj, e5, nI_lei (by omega) (by omega)]
        refine ⟨in_nI (by omega) (by omega), fun hle => ⟨in_nI (by omega) (by omega), one _ (by omega)⟩, fun hle => ⟨in_nI (by omega) (by omega), fun x6 h6 => ⟨in_nI (by omega) (by omega), ?_⟩⟩⟩
        subst h6
        exact one _ (by omega)
  have := loop n 0 σ1 x (by omega) (fun q c hqc => ?_) (fun hlt => eldJ hL (by omega) hlt hx)
  · exact this
  · rw [ha q c hqc]
    show _ = if _ then rd σ q c + nI 0 else _
    rw [nI_z, Int32.add_zero]
    split <;> rfl
end TK

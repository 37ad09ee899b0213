/-! PLAN: the pair -/
theorem fore_same {σ : St} {h n : Nat} (r3 : ∀ r, r < n → IRow h r σ) (s k hh p w K : Int32) : foreV (fun way => fP σ 92 93 94 95 96 s k hh p w K way) (rd σ 97) n = foreV (fun way => fP σ 35 36 37 38 39 s k hh p w K way) (rd σ 40) n := by
  have pc : ∀ way r, r < n → fP σ 92 93 94 95 96 s k hh p w K way r = fP σ 35 36 37 38 39 s k hh p w K way r := by
    intro way r hr
    obtain ⟨y0, y1, y2, y3, y4, y5⟩ := rows_same r3 r hr
    unfold fP
    rw [y0, y1, y2, y3, y4]
  have col : ∀ r, r < n → rd σ 97 r = rd σ 40 r := fun r hr => (rows_same r3 r hr).2.2.2.2.2
  unfold foreV
  rw [cntB_congr (fun r hr => pc 0 r hr), cntB_congr (fun r hr => pc 1 r hr), cntB_congr (fun r hr => pc 2 r hr), sumB_congr (fun r hr => ⟨pc 0 r hr, col r hr⟩), sumB_congr (fun r hr => ⟨pc 1 r hr, col r hr⟩), sumB_congr (fun r hr => ⟨pc 2 r hr, col r hr⟩)]
theorem fore_at {σ σ' : St} {n q0 q1 q2 q3 q4 q5 : Nat} (g : ∀ q c, q = q0 ∨ q = q1 ∨ q = q2 ∨ q = q3 ∨ q = q4 ∨ q = q5 → rd σ' q c = rd σ q c) (s k hh p w K : Int32) : foreV (fun way => fP σ' q0 q1 q2 q3 q4 s k hh p w K way) (rd σ' q5) n = foreV (fun way => fP σ q0 q1 q2 q3 q4 s k hh p w K way) (rd σ q5) n := by
  have e1 : (fun way => fP σ' q0 q1 q2 q3 q4 s k hh p w K way) = (fun way => fP σ q0 q1 q2 q3 q4 s k hh p w K way) := funext fun way => funext fun r => by
    unfold fP
    rw [g q0 r (by simp), g q1 r (by simp), g q2 r (by simp), g q3 r (by simp), g q4 r (by simp)]
  have e2 : rd σ' q5 = rd σ q5 := funext fun r => g q5 r (by simp)
  rw [e1, e2]
section PP
variable {Γ : GG} {l : Launch} {d : Nat} {σ : St}
theorem P_plan (a b : Int32) (hI : Inv σ) : Meth Γ l (d + 6) mX11_plan [.ref 0, .int a, .int b] σ (PI Γ l (d + 5) mX12_plan [.ref 59, .int a, .int b]) := by
  have hI2 := hI
  obtain ⟨h, nS, nK, nB, h0⟩ := hI2
  obtain ⟨i1, i2, i3, i4, i5, i6, i7, i8, i9, i10, i11, -⟩ := id h0
  obtain ⟨zh, g1, g2⟩ := id i1
  obtain ⟨zS, s1, s2, s3, s4, s5, s6⟩ := id i2
  obtain ⟨zK, k1, k2, k3⟩ := id i3
  have zB := i6.1
  obtain ⟨nR, r0, r1, r2, r3, r4⟩ := id i11
  have bad : ¬ ((0 ≤ a ∧ a < nI nS) ∧ 0 ≤ b ∧ b < nI nK) → bad1 σ Γ l (d + 5) mX12_plan [.ref 59, .int a, .int b] (-2000000000) := fun hn => M_X12_plan _ _ (w_X12_plan_0 _ _ ⟨fun ha => absurd ⟨(cM (by omega) s2).mp ha.1, (cM (by omega) k2).mp ha.2⟩ hn, fun _ => KI.mk ⟨rfl, hI⟩⟩)
  refine M_X11_plan _ _ (w_X11_plan_0 _ _ ⟨fun ha => ?_, fun q => PI.mk (bad fun r => q (by rw [s1, k1]; exact r))⟩)
  have c1 := (cX s1).mp ha.1
  have c2 := (cX k1).mp ha.2
  obtain ⟨i, hi, rfl⟩ := rng nS (by omega) c1
  obtain ⟨k, hk, rfl⟩ := rng nK (by omega) c2
  have ci : (nI i).toNatClampNeg = i := cl (by omega)
  have ck : (nI k).toNatClampNeg = k := cl (by omega)
  have hm : nI h - nI h / 24 * 24 = nI (h % 24) := nI_modn (b := 24) (by omega) (by omega)
  have td : nI h / 24 = nI (h / 24) := nI_divn (b := 24) (by omega) (by omega)
  have cd : (nI (h / 24)).toNatClampNeg = h / 24 := cl (by omega)
  have l1 : 6 ≤ nI (h % 24) ↔ 6 ≤ h % 24 := nI_lei (a := 6) (by omega) (by omega)
  have l2 : nI (h % 24) ≤ 19 ↔ h % 24 ≤ 19 := nI_lei (b := 19) (by omega) (by omega)
  -- the reference up to its table
  have mm : ∀ (σ2 : St) (X : Int32), (∀ q c, 59 ≤ q → q < 118 → rd σ2 q c = rd σ q c) → (¬ tellR σ (nI i) (nI k) h nR → X = -2000000000 ∧ Inv σ2) → (tellR σ (nI i) (nI k) h nR → J Γ l (d + 5) mX12_plan (KI fun y σ3 => y = X ∧ Inv σ3) 36 [(0, .ref 59), (1, .int (nI i)), (2, .int (nI k)), (3, .int (nI (h % 24))), (4, .int (nI (h % 24)))] [] σ2) → Meth Γ l (d + 5) mX12_plan [.ref 59, .int (nI i), .int (nI k)] σ2 (KI fun y σ3 => y = X ∧ Inv σ3) := by
    intro σ2 X A h1 h2
    have hr : hasR σ2 (nI i) (nI k) nR ↔ hasR σ (nI i) (nI k) nR := by
      unfold hasR
      rw [A 59 1 (by omega) (by omega)]
      constructor
      · rintro ⟨r, hr, q⟩
        rw [A 92 r (by omega) (by omega), A 93 r (by omega) (by omega), A 94 r (by omega) (by omega)] at q
        exact ⟨r, hr, q⟩
      · rintro ⟨r, hr, q⟩
        refine ⟨r, hr, ?_⟩
        rw [A 92 r (by omega) (by omega), A 93 r (by omega) (by omega), A 94 r (by omega) (by omega)]
        exact q
    refine M_X12_plan _ _ (w_X12_plan_0 _ _ ?_)
    rw [A 59 2 (by omega) (by omega), A 59 6 (by omega) (by omega), A 59 1 (by omega) (by omega), g2, hm, l1, l2]
    refine ⟨fun _ => ⟨fun q => ?_, fun q => ?_⟩, fun q => absurd ⟨(cM (n := nS) (by omega) s2).mpr c1, (cM (n := nK) (by omega) k2).mpr c2⟩ q⟩
    · refine (S_hasRow (nI i) (nI k) r0 ((A 59 45 (by omega) (by omega)).trans r2)).mono ?_
      rintro v σ' ⟨x, rfl, rfl, hx⟩
      rw [hr] at hx
      refine ⟨_, rfl, fun q0 x3 h3 => ?_, fun q0 => ?_⟩
      · rw [A 59 1 (by omega) (by omega), g2, hm] at h3
        subst h3
        refine h2 ?_
        rcases hx with ⟨rfl, -⟩ | ⟨-, hx⟩
        · exact absurd q0 (by decide)
        · exact ⟨q, hx⟩
      · have hn : ¬ tellR σ (nI i) (nI k) h nR := by
          rcases hx with ⟨-, hx⟩ | ⟨rfl, -⟩
          · exact fun r => r.2 hx
          · exact absurd rfl q0
        obtain ⟨rfl, h5⟩ := h1 hn
        exact KI.mk ⟨rfl, h5⟩
    · obtain ⟨rfl, h5⟩ := h1 fun r => q r.1
      exact KI.mk ⟨rfl, h5⟩
  refine (S_mayTell (d := d + 3) (nI i) (nI k) zh g1 g2 r0 r1 r3 r4).mono ?_
  rintro v σ' ⟨x, rfl, rfl, hx⟩
  refine ⟨_, rfl, fun q0 => ?_, fun q0 => ?_⟩
  · have hn : ¬ tellR σ' (nI i) (nI k) h nR := by
      rcases hx with ⟨rfl, -⟩ | ⟨-, hx⟩
      · exact absurd q0 (by decide)
      · exact hx
    exact PI.mk (mm σ' (-2000000000) (fun _ _ _ _ => rfl) (fun _ => ⟨rfl, hI⟩) (fun q => absurd q hn))
  have hT : tellR σ' (nI i) (nI k) h nR := by
    rcases hx with ⟨-, hx⟩ | ⟨rfl, -⟩
    · exact hx
    · exact absurd rfl q0
  clear hx q0
  obtain ⟨s, hs, hs6⟩ : ∃ s, s < 14 ∧ h % 24 = s + 6 := ⟨h % 24 - 6, by have := hT.1; omega, by have := hT.1; omega⟩
  obtain ⟨⟨st, hst, t1, t2⟩, -⟩ := i5 i k (by omega) (by omega)
  obtain ⟨⟨w, hw, w1, w2⟩, -⟩ := i4 (h / 24) (by omega)
  obtain ⟨p, cc, gg, zz, tt, hp, -, -, -, htt, ⟨p1, -, -, -, p5⟩, ⟨u1, -, -, -, u5⟩⟩ := k3 k (by omega)
  rw [g1, td, cd, w1]
  refine ⟨in_nI (by omega) (by omega), fun x4 h4 => ?_⟩
  subst h4
  have dv : ∀ r, r < nR → ∃ t : Nat, t < 2147483648 ∧ rd σ' 37 r = nI t ∧ rd σ' 37 r / 24 = nI (t / 24) := by
    intro r hr
    obtain ⟨s, k, t, st, w', a', g, ⟨-, -, ht, -⟩, ⟨-, -, x2, -⟩, -⟩ := r3 r hr
    exact ⟨t, by omega, x2, by rw [x2]; exact nI_divn (b := 24) (by omega) (by omega)⟩
  have hsort : ∀ r r', r < r' → r' < nR → rd σ' 37 r / 24 ≤ rd σ' 37 r' / 24 := by
    intro r r' h1 h2
    obtain ⟨t, ht, x1, x2⟩ := dv r (by omega)
    obtain ⟨t', ht', x1', x2'⟩ := dv r' h2
    have := r4 r r' h1 h2
    rw [x1, x1', cl ht, cl ht'] at this
    rw [x2, x2', nI_lei (by omega) (by omega)]
    exact Nat.div_le_div_right this
  obtain ⟨A, hA⟩ : ∃ A : Nat → Nat → Int32, ∀ j q, A j q = foreV (fun way => fP σ' 35 36 37 38 39 (nI i) (nI k) (nI (j + 6)) (nI q) (nI w) (nI (h / 24)) way) (rd σ' 40) nR := ⟨fun j q => foreV (fun way => fP σ' 35 36 37 38 39 (nI i) (nI k) (nI (j + 6)) (nI q) (nI w) (nI (h / 24)) way) (rd σ' 40) nR, fun _ _ => rfl⟩
  obtain ⟨P, hP⟩ : ∃ P : Nat → Int32, ∀ q, P q = (nI p * (4 - nI q)) / 4 := ⟨fun q => (nI p * (4 - nI q)) / 4, fun _ => rfl⟩
  generalize hSt : sumTo (fSum (elB σ' (nI i) (nI k) 0) (shN σ')) nB = stock
  -- the reference from a state in which the class' plan stands
  have ref : ∀ (σ2 : St) (W : Int64) (B : Nat → Nat), run (wPl A P s stock (nI tt)) s (14 - s) (rmn (fun _ => st) (14 - s)) (fun _ => st) none = some (W, B) → (∀ q c, sL q c → q ≠ 46 → ¬ (358 ≤ q ∧ q < 372) → q ≠ 47 → q ≠ 48 → ¬ (q = 44 ∧ (c = 4 ∨ c = 5 ∨ c = 6)) → rd σ2 q c = rd σ' q c) → rd σ2 44 4 = 1 → rd σ2 44 5 = nI (s + 6) → rd σ2 44 6 = lfN A B s stock (14 - s) → (∀ j, s ≤ j → j < 14 → rd σ2 48 j = nI (B j)) → PI Γ l (d + 5) mX12_plan [.ref 59, .int (nI i), .int (nI k)] (some (.int W.toInt32)) σ2 := by
    intro σ2 W B hrun hag e4 e5 e6 e48
    have R2 : ∀ q c, 59 ≤ q → q < 118 → rd σ2 q c = rd σ' q c := fun q c q1 q2 => hag q c (by unfold sL; omega) (by omega) (by omega) (by omega) (by omega) (by omega)
    have sR2 : agr sR σ' σ2 := fun q c hq => hag q c (sR_sL hq) (by unfold sR sLaws at hq; omega) (by unfold sR sLaws at hq; omega) (by unfold sR sLaws at hq; omega) (by unfold sR sLaws at hq; omega) (by unfold sR sLaws at hq; omega)
    refine PI.mk (mm σ2 _ R2 (fun q => absurd hT q) fun _ => ?_)
    rw [hs6]
    -- the trial, then the search
    have at36 : ∀ σi, (∀ j q, s ≤ j → j < 14 → q < 4 → rd σi 101 (4 * (j + 6) + q) = A j q) → (∀ q c, q ≠ 101 → rd σi q c = rd σ2 q c) → J Γ l (d + 5) mX12_plan (KI fun y σ3 => y = W.toInt32 ∧ Inv σ3) 36 [(0, .ref 59), (1, .int (nI i)), (2, .int (nI k)), (3, .int (nI (s + 6))), (4, .int (nI 20))] [] σi := by
      intro σi hAi hi2
      have Ri : ∀ q c, 59 ≤ q → q < 118 → q ≠ 101 → rd σi q c = rd σ' q c := fun q c q1 q2 q3 => (hi2 q c q3).trans (R2 q c q1 q2)
      have sRi : agr sR σ' σi := fun q c hq => (hi2 q c (by unfold sR sLaws at hq; omega)).trans (sR2 q c hq)
      refine w_X12_plan_36 _ _ _ _ ⟨fun _ => ?_, fun q => absurd (by decide) q⟩
      refine (S_shelfOf (d := d) (sh := shN σ') h0 sRi (nI i) (nI k) 1 (fun b' hb => ?_)).mono ?_
      · rw [Ri 76 _ (by omega) (by omega) (by omega), Ri 77 _ (by omega) (by omega) (by omega), Ri 78 _ (by omega) (by omega) (by omega), Ri 79 _ (by omega) (by omega) (by omega), Ri 80 _ (by omega) (by omega) (by omega)]
        exact (Bv h0 hb).2.2.2.2.2.2.2
      rintro v σ4 ⟨x, rfl, hx, ha4⟩
      have ex : x = stock := by
        rw [hx, ← hSt]
        refine sumTo_congr fun b' _ => ?_
        unfold fSum elB
        by_cases z1 : rd σ' 71 b' = nI i <;> by_cases z2 : rd σ' 72 b' = nI k <;> by_cases z3 : mayM σ' 0 b' = true <;> rcases Nat.eq_zero_or_pos (shN σ' b') with z4 | z4 <;> simp [z1, z2, z3, z4] <;> rfl
      rw [ex]
      have R4 : ∀ q c, q ≠ 101 → q ≠ 91 → rd σ4 q c = rd σ2 q c := fun q c q1 q2 => (ha4 q c (by unfold oM; omega)).trans (hi2 q c q1)
      have e10 : (10 : Int32) * nI i + nI k = nI (10 * i + k) := by
        rw [show (10 : Int32) * nI i = nI (10 * i) from nI_muln 10 i, nI_addn]
      refine ⟨_, rfl, ?_⟩
      dsimp only
      rw [e10, cl (n := 10 * i + k) (by omega), R4 69 _ (by omega) (by omega), R2 69 _ (by omega) (by omega), t2]
      refine ⟨in_nI (by omega) (by omega), fun x5 h5 => ?_⟩
      subst h5
      have fill : ∀ m j σj, j + m = 20 → s + 6 ≤ j → (∀ q c, rd σj q c = if q = 99 ∧ s + 6 ≤ c ∧ c < j then nI st else rd σ4 q c) → J Γ l (d + 5) mX12_plan (KI fun y σ3 => y = W.toInt32 ∧ Inv σ3) 124 [(0, .ref 59), (2, .int (nI k)), (3, .int (nI (s + 6))), (4, .int stock), (5, .int (nI st)), (6, .int (nI j))] [] σj := by
        intro m
        induction m with
        | zero =>
          intro j σj hj hij hσ
          have : j = 20 := by omega
          subst this
          refine w_X12_plan_124 _ _ _ _ _ ⟨fun _ => ?_, fun q => absurd (by decide) q⟩
          have R5 : ∀ q c, q ≠ 101 → q ≠ 91 → q ≠ 99 → rd σj q c = rd σ2 q c := fun q c q1 q2 q3 => by
            rw [hσ, if_neg (by omega)]
            exact R4 q c q1 q2
          refine S_plan156 (A := A) (P := P) (t0 := fun _ => st) (fin := some (W, B)) (by omega) hs stock (nI tt) (fun j' q' q1 q2 q3 => ?_) (fun q' hq' => ?_) ?_ hrun (fun j' q1 q2 => ⟨hst, ?_⟩) (fun σf w' b' he f56 f57 f100 fag => ?_)
          · rw [hσ, if_neg (by omega), ha4 101 _ (by unfold oM; omega)]
            exact hAi j' q' q1 q2 q3
          · rw [R5 63 k (by omega) (by omega) (by omega), R2 63 k (by omega) (by omega), u1, hP]
            exact price_eq hp hq'
          · rw [R5 67 k (by omega) (by omega) (by omega), R2 67 k (by omega) (by omega)]
            exact u5
          · rw [hσ, if_pos (by omega)]
          · obtain ⟨rfl, rfl⟩ : W = w' ∧ B = b' := by
              have e := Option.some.inj he
              exact ⟨congrArg Prod.fst e, congrArg Prod.snd e⟩
            have F2 : ∀ q c, q ≠ 99 → q ≠ 100 → q ≠ 101 → q ≠ 91 → ¬ (q = 59 ∧ (c = 56 ∨ c = 57)) → rd σf q c = rd σ2 q c := fun q c q1 q2 q3 q4 q5 => (fag q c q1 q2 q5).trans (R5 q c q3 q4 q1)
            have Z : ∀ q c, sL q c → q ≠ 46 → ¬ (358 ≤ q ∧ q < 372) → q ≠ 47 → q ≠ 48 → ¬ (q = 44 ∧ (c = 4 ∨ c = 5 ∨ c = 6)) → q ≠ 99 → q ≠ 100 → q ≠ 101 → q ≠ 91 → ¬ (q = 59 ∧ (c = 56 ∨ c = 57)) → rd σf q c = rd σ' q c := fun q c q0 q1 q2 q3 q4 q5 q6 q7 q8 q9 q10 => (F2 q c q6 q7 q8 q9 q10).trans (hag q c q0 q1 q2 q3 q4 q5)
            obtain ⟨i1, i2, i3, i4, i5, i6, i7, i8, i9, i10, i11, i12, i13, i14⟩ := id h0
            have n12 : ICuts σf := Or.inr ⟨(F2 44 4 (by omega) (by omega) (by omega) (by omega) (by omega)).trans e4, s + 6, by omega, by omega, (F2 44 5 (by omega) (by omega) (by omega) (by omega) (by omega)).trans e5, f56, by rw [F2 44 6 (by omega) (by omega) (by omega) (by omega) (by omega), e6, f57], fun t q1 q2 => by
              rw [F2 48 _ (by omega) (by omega) (by omega) (by omega) (by omega), e48 (t - 6) (by omega) (by omega)]
              have := f100 (t - 6) (by omega) (by omega)
              rw [show t - 6 + 6 = t by omega] at this
              exact this.symm⟩
            refine KI.mk ⟨rfl, h, nS, nK, nB, i1.of ?_, i2.of ?_, i3.of ?_, i4.of ?_, i5.of ?_, i6.of ?_, i7.of ?_, i8.of ?_, i9.of ?_, i10.of ?_, i11.of ?_, n12, i13.of ?_, i14.of ?_⟩
            all_goals (intro q e hq; simp only [sHour, sShops, sKinds, sDays, sStep, sBatch, sSpoil, sKit, sTape, sLaws, sRows, sCuts, sBox, sCost] at hq; exact Z q e (by unfold sL; omega) (by omega) (by omega) (by omega) (by omega) (by omega) (by omega) (by omega) (by omega) (by omega) (by omega))
        | succ m ihm =>
          intro j σj hj hij hσ
          refine w_X12_plan_124 _ _ _ _ _ ⟨fun q => absurd ((nI_lti (a := 19) (by omega) (by omega)).mp q) (by omega), fun _ => ⟨in_nI (by omega) (by omega), fun y hy => ?_⟩⟩
          rw [nI_s] at hy
          subst hy
          rw [cl (n := j) (by omega)]
          refine ihm (j + 1) _ (by omega) (by omega) (fun q c => ?_)
          rw [rd_wr, hσ]
          by_cases e : q = 99 ∧ c = j
          · rw [if_pos e, if_pos (by omega)]
          · rw [if_neg e]
            by_cases e2 : q = 99 ∧ s + 6 ≤ c ∧ c < j
            · rw [if_pos e2, if_pos (by omega)]
            · rw [if_neg e2, if_neg (by omega)]
      exact fill (20 - (s + 6)) (s + 6) σ4 (by omega) (by omega) (fun q c => (if_neg (by omega)).symm)
    -- the table
    have tab : ∀ m n σi, n + m = 14 - s → (∀ j q, s ≤ j → j < s + n → q < 4 → rd σi 101 (4 * (j + 6) + q) = A j q) → (∀ q c, q ≠ 101 → rd σi q c = rd σ2 q c) → J Γ l (d + 5) mX12_plan (KI fun y σ3 => y = W.toInt32 ∧ Inv σ3) 36 [(0, .ref 59), (1, .int (nI i)), (2, .int (nI k)), (3, .int (nI (s + 6))), (4, .int (nI (s + n + 6)))] [] σi := by
      intro m
      induction m with
      | zero =>
        intro n σi hn hAi hi2
        rw [show s + n + 6 = 20 by omega]
        exact at36 σi (fun j q q1 q2 q3 => hAi j q q1 (by omega) q3) hi2
      | succ m ihm =>
        intro n σi hn hAi hi2
        have row : ∀ m' p' σj, p' + m' = 4 → (∀ j q, s ≤ j → j < s + n → q < 4 → rd σj 101 (4 * (j + 6) + q) = A j q) → (∀ q, q < p' → rd σj 101 (4 * (s + n + 6) + q) = A (s + n) q) → (∀ q c, q ≠ 101 → rd σj q c = rd σ2 q c) → J Γ l (d + 5) mX12_plan (KI fun y σ3 => y = W.toInt32 ∧ Inv σ3) 46 [(0, .ref 59), (1, .int (nI i)), (2, .int (nI k)), (3, .int (nI (s + 6))), (4, .int (nI (s + n + 6))), (5, .int (nI p'))] [] σj := by
          intro m'
          induction m' with
          | zero =>
            intro p' σj hp' hj1 hj2 hj3
            have : p' = 4 := by omega
            subst this
            refine w_X12_plan_46 _ _ _ _ _ ⟨fun _ y hy => ?_, fun q => absurd (by decide) q⟩
            rw [nI_s, show s + n + 6 + 1 = s + (n + 1) + 6 by omega] at hy
            subst hy
            refine ihm (n + 1) σj (by omega) (fun j q q1 q2 q3 => ?_) hj3
            rcases Nat.lt_or_ge j (s + n) with r | r
            · exact hj1 j q q1 r q3
            · rw [show j = s + n by omega]
              exact hj2 q q3
          | succ m' ihm' =>
            intro p' σj hp' hj1 hj2 hj3
            have Rj : ∀ q c, 59 ≤ q → q < 118 → q ≠ 101 → rd σj q c = rd σ' q c := fun q c q1 q2 q3 => (hj3 q c q3).trans (R2 q c q1 q2)
            refine w_X12_plan_46 _ _ _ _ _ ⟨fun q => absurd ((nI_lei (a := 4) (by omega) (by omega)).mp q) (by omega), fun _ => ?_⟩
            rw [Rj 59 1 (by omega) (by omega) (by omega), g2, td, cd, Rj 68 _ (by omega) (by omega) (by omega), w2]
            refine ⟨in_nI (by omega) (by omega), ?_⟩
            refine (S_foretoldFor (d := d + 4) r0 ((Rj 59 45 (by omega) (by omega) (by omega)).trans r2) (nI i) (nI k) (nI (s + n + 6)) (nI p') (nI w) (nI (h / 24))).mono ?_
            rintro v σ6 ⟨x, rfl, rfl, rfl⟩
            rw [fore_at (σ := σ') (fun q c hq => Rj q c (by omega) (by omega) (by omega)), fore_same r3, ← hA]
            have e4' : (4 : Int32) * nI (s + n + 6) + nI p' = nI (4 * (s + n + 6) + p') := by
              rw [show (4 : Int32) * nI (s + n + 6) = nI (4 * (s + n + 6)) from nI_muln 4 _, nI_addn]
            refine ⟨_, rfl, ?_⟩
            dsimp only
            rw [e4', cl (n := 4 * (s + n + 6) + p') (by omega)]
            refine ⟨in_nI (by omega) (by omega), fun y hy => ?_⟩
            rw [nI_s] at hy
            subst hy
            refine ihm' (p' + 1) _ (by omega) (fun j q q1 q2 q3 => by rw [rdn (by omega)]; exact hj1 j q q1 q2 q3) (fun q hq => ?_) (fun q c q1 => by rw [rdn (by omega)]; exact hj3 q c q1)
            by_cases cq : q = p'
            · subst cq
              exact rdy
            · rw [rdn (by omega)]
              exact hj2 q (by omega)
        refine w_X12_plan_36 _ _ _ _ ⟨fun q => absurd ((nI_lti (a := 19) (by omega) (by omega)).mp q) (by omega), fun _ => row 4 0 σi (by omega) hAi (fun q hq => absurd hq (by omega)) hi2⟩
    exact tab (14 - s) 0 σ2 (by omega) (fun j q q1 q2 => absurd q2 (by omega)) (fun _ _ _ => rfl)
  -- the class' table
  have tabX : ∀ m n σi, n + m = 4 → (∀ j q, j < 14 → q < n → rd σi (j + 358) q = A j q) → (∀ q, q < n → rd σi 46 q = P q) → (∀ q c, q ≠ 46 → ¬ (358 ≤ q ∧ q < 372) → rd σi q c = rd σ' q c) → J Γ l (d + 6) mX11_plan (PI Γ l (d + 5) mX12_plan [.ref 59, .int (nI i), .int (nI k)]) 32 [(0, .ref 0), (1, .int (nI i)), (2, .int (nI k)), (3, .int (nI w)), (4, .int (nI n))] [] σi := by
    intro m
    induction m with
    | zero =>
      intro n σi hn hAi hPi hi2
      have : n = 4 := by omega
      subst this
      refine w_X11_plan_32 _ _ _ _ ⟨fun _ => ?_, fun q => absurd (by decide) q⟩
      refine (S_lineUp (d := d) h0 (fun q c hq => hi2 q c (by
        have := hq.2
        simp only [sAll, sHour, sShops, sKinds, sDays, sStep, sBatch, sSpoil, sKit, sTape, sLaws, sRows, sCuts, sBox, sCost] at this
        omega) (by
        have := hq.2
        simp only [sAll, sHour, sShops, sKinds, sDays, sStep, sBatch, sSpoil, sKit, sTape, sLaws, sRows, sCuts, sBox, sCost] at this
        omega)) (nI i) (nI k) 0).mono ?_
      rintro v σ1 ⟨x, rfl, rfl, -, ag⟩
      rw [hSt]
      have L1 : ∀ q c, sL q c → q ≠ 46 → ¬ (358 ≤ q ∧ q < 372) → rd σ1 q c = rd σ' q c := fun q c q1 q2 q3 => (ag q c q1).trans (hi2 q c q2 q3)
      refine ⟨_, rfl, ?_⟩
      dsimp only
      rw [ci, ck, L1 1 2 (by unfold sL; omega) (by omega) (by omega), g1, hm, hs6, L1 (i + 118) k (by unfold sL; omega) (by omega) (by omega), t1, L1 16 k (by unfold sL; omega) (by omega) (by omega), p5]
      refine ⟨in_nI (by omega) (by omega), in_nI (by omega) (by omega), ?_⟩
      refine (S_search (d := d + 3) (A := A) (P := P) hs hst stock (nI tt) (fun j q q1 q2 => (ag _ _ (by unfold sL; omega)).trans (hAi j q q1 q2)) (fun q q1 => (ag _ _ (by unfold sL; omega)).trans (hPi q q1))).mono ?_
      rintro v σ5 ⟨x, rfl, ⟨W, B, hrun, rfl, e4, e6, e48⟩, e5, hag⟩
      exact ⟨_, rfl, ref σ5 W B hrun (fun q c q0 q1 q2 q3 q4 q5 => (hag q c q3 q4 q5).trans (L1 q c q0 q1 q2)) e4 e5 e6 e48⟩
    | succ m ihm =>
      intro n σi hn hAi hPi hi2
      have row : ∀ m' j' σj, j' + m' = 14 → (∀ j q, j < 14 → q < n → rd σj (j + 358) q = A j q) → (∀ q, q < n + 1 → rd σj 46 q = P q) → (∀ j, j < j' → rd σj (j + 358) n = A j n) → (∀ q c, q ≠ 46 → ¬ (358 ≤ q ∧ q < 372) → rd σj q c = rd σ' q c) → J Γ l (d + 6) mX11_plan (PI Γ l (d + 5) mX12_plan [.ref 59, .int (nI i), .int (nI k)]) 61 [(0, .ref 0), (1, .int (nI i)), (2, .int (nI k)), (3, .int (nI w)), (4, .int (nI n)), (5, .int (nI j'))] [] σj := by
        intro m'
        induction m' with
        | zero =>
          intro j' σj hj' hj1 hj2 hj3 hj4
          have : j' = 14 := by omega
          subst this
          refine w_X11_plan_61 _ _ _ _ _ ⟨fun _ y hy => ?_, fun q => absurd (by decide) q⟩
          rw [nI_s] at hy
          subst hy
          refine ihm (n + 1) σj (by omega) (fun j q q1 q2 => ?_) hj2 hj4
          rcases Nat.lt_or_ge q n with r | r
          · exact hj1 j q q1 r
          · rw [show q = n by omega]
            exact hj3 j q1
        | succ m' ihm' =>
          intro j' σj hj' hj1 hj2 hj3 hj4
          refine w_X11_plan_61 _ _ _ _ _ ⟨fun q => absurd ((nI_lei (a := 14) (by omega) (by omega)).mp q) (by omega), fun _ => ⟨in_nI (by omega) (by omega), ?_⟩⟩
          rw [hj4 1 2 (by omega) (by omega), g1, td, show (6 : Int32) + nI j' = nI (j' + 6) by rw [show (6 : Int32) = nI 6 from rfl, nI_addn, Nat.add_comm]]
          refine (S_foretell (d := d + 4) r0 ((hj4 34 7 (by omega) (by omega)).trans r1) (fun r r' q1 q2 => by rw [hj4 37 r (by omega) (by omega), hj4 37 r' (by omega) (by omega)]; exact hsort r r' q1 q2) (nI i) (nI k) (nI (j' + 6)) (nI n) (nI w) (nI (h / 24))).mono ?_
          rintro v σ6 ⟨x, rfl, rfl, rfl⟩
          rw [fore_at (σ := σ') (fun q c hq => hj4 q c (by omega) (by omega)), ← hA]
          refine ⟨_, rfl, in_nI (by omega) (by omega), fun y hy => ?_⟩
          rw [nI_s] at hy
          subst hy
          rw [cl (n := j') (by omega), cl (n := n) (by omega)]
          refine ihm' (j' + 1) _ (by omega) (fun j q q1 q2 => by rw [rdn (by omega)]; exact hj1 j q q1 q2) (fun q q1 => by rw [rdn (by omega)]; exact hj2 q q1) (fun j q1 => ?_) (fun q c q1 q2 => by rw [rdn (by omega)]; exact hj4 q c q1 q2)
          by_cases cj : j = j'
          · subst cj
            exact rdy
          · rw [rdn (by omega)]
            exact hj3 j (by omega)
      refine w_X11_plan_32 _ _ _ _ ⟨fun q => absurd ((nI_lei (a := 4) (by omega) (by omega)).mp q) (by omega), fun _ => ?_⟩
      rw [ck, cl (n := n) (by omega), hi2 12 k (by omega) (by omega), p1, ← hP]
      refine ⟨in_nI (by omega) (by omega), in_nI (by omega) (by omega), row 14 0 _ (by omega) (fun j q q1 q2 => by rw [rdn (by omega)]; exact hAi j q q1 q2) (fun q q1 => ?_) (fun j q1 => absurd q1 (by omega)) (fun q c q1 q2 => by rw [rdn (by omega)]; exact hi2 q c q1 q2)⟩
      by_cases cq : q = n
      · subst cq
        exact rdy
      · rw [rdn (by omega)]
        exact hPi q (by omega)
  exact tabX 4 0 σ' (by omega) (fun j q _ q2 => absurd q2 (by omega)) (fun q q1 => absurd q1 (by omega)) (fun _ _ _ _ => rfl)
end PP

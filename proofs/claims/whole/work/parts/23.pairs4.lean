/-! PAIRS: batch, feed, bin -/
/-- a row that is added to the class' batches -/
def isAdd (n : Nat) (s k lt m p : Int32) (σ σ' : St) : Prop := ∀ q c, rd σ' q c = if q = n + 142 then (if c = 0 then s else if c = 1 then k else if c = 2 then lt else if c = 3 then m else if c = 4 ∨ c = 5 then p else if c = 11 then -1 else if c = 12 then nI n else rd σ q c) else if q = 17 ∧ c = 1 then nI (n + 1) else rd σ q c
section P4
variable {Γ : GG} {l : Launch} {d : Nat} {σ : St}
theorem S_addB (s w m p : Int32) {n : Nat} (hn : n < 200) (e : rd σ 17 1 = nI n) : Meth Γ l d mX0_add [.ref 17, .int s, .int w, .int m, .int p] σ (KI fun x σ' => x = nI n ∧ isAdd n s (w / 100) (w - w / 100 * 100) m p σ σ') := by
  refine M_X0_add _ _ _ _ (w_X0_add_0 _ _ _ _ ⟨fun _ => ?_, fun q => absurd ?_ q⟩)
  · have hc : (nI n).toNatClampNeg = n := cl (by omega)
    have e17 : ¬ 17 = n + 142 := by omega
    simp only [rd_wr, e17, false_and, if_false, e, hc]
    refine ⟨in_nI hn (by omega), KI.mk ⟨by rw [nI_s, nI_pr], fun q c => ?_⟩⟩
    simp only [rd_wr, e17, false_and, if_false, e, nI_s]
    by_cases hq : q = n + 142
    · subst hq
      have h17 : ¬ n + 142 = 17 := by omega
      simp only [h17, false_and, if_false, true_and, if_true]
      by_cases h0 : c = 0
      · subst h0; simp
      by_cases h1 : c = 1
      · subst h1; simp
      by_cases h2 : c = 2
      · subst h2; simp
      by_cases h3 : c = 3
      · subst h3; simp
      by_cases h4 : c = 4
      · subst h4; simp
      by_cases h5 : c = 5
      · subst h5; simp
      by_cases h11 : c = 11
      · subst h11; simp
      by_cases h12 : c = 12
      · subst h12; simp
      simp [h0, h1, h2, h3, h4, h5, h11, h12]
    · simp [hq]
  · rw [e]
    exact (nI_lti (b := 200) (by omega) (by omega)).mpr hn
theorem P_batch (a b c e : Int32) (hI : Inv σ) : Meth Γ l (d + 3) mX11_batch [.ref 0, .int a, .int b, .int c, .int e] σ (PI Γ l (d + 2) mX12_batch [.ref 59, .int a, .int b, .int c, .int e]) := by
  obtain ⟨h, nS, nK, nB, i1, i2, i3, i4, i5, i6, i7, i8, i9, i10, i11, i12, i13, i14⟩ := id hI
  obtain ⟨zS, s1, s2, s3, s4, s5, s6⟩ := id i2
  obtain ⟨zK, k1, k2, k3⟩ := id i3
  obtain ⟨zB, b1, b2, b3, b4⟩ := id i6
  obtain ⟨zh, h1, h2⟩ := id i1
  have td : rd σ 1 2 / 24 = nI (h / 24) := by rw [h1]; exact nI_divn (b := 24) (by omega) (by omega)
  have tm : rd σ 59 1 / 24 = nI (h / 24) := by rw [h2]; exact nI_divn (b := 24) (by omega) (by omega)
  have tdm : ∀ c : Int32, (0 : Int32) ≤ c ∧ c ≤ 9 → (nI (h / 24) - c < 0 ↔ nI (h / 24) < c) := by
    intro c hc
    rw [ti_le, ti_le] at hc
    have e0 : (0 : Int32).toInt = 0 := rfl
    have e9 : (9 : Int32).toInt = 9 := rfl
    have et := ti_nI (n := h / 24) (by omega)
    rw [ti_lt, ti_lt, ti_sub (by omega) (by omega)]
    omega
  have bad : ¬ ((0 ≤ a ∧ a < nI nS) ∧ ¬ b < (0 : Int32) ∧ (0 ≤ b / 100 ∧ b / 100 < nI nK) ∧ ((0 : Int32) ≤ c ∧ c ≤ 9) ∧ ¬ nI (h / 24) < c ∧ ((1 : Int32) ≤ e ∧ e ≤ 999)) → bad1 σ Γ l (d + 2) mX12_batch [.ref 59, .int a, .int b, .int c, .int e] (-1) := by
    intro hn
    refine M_X12_batch _ _ _ _ (w_X12_batch_0 _ _ _ _ ⟨fun ha => ⟨fun _ => KI.mk ⟨rfl, hI⟩, fun hb => ⟨fun hk => ⟨fun hc => ⟨fun _ => KI.mk ⟨rfl, hI⟩, fun ht => ⟨fun he => ?_, fun _ => KI.mk ⟨rfl, hI⟩⟩⟩, fun _ => KI.mk ⟨rfl, hI⟩⟩, fun _ => KI.mk ⟨rfl, hI⟩⟩⟩, fun _ => KI.mk ⟨rfl, hI⟩⟩)
    rw [tm] at ht
    exact absurd ⟨(cM (by omega) s2).mp ha, hb, (cM (by omega) k2).mp hk, hc, fun q => ht ((tdm c hc).mpr q), he⟩ hn
  refine M_X11_batch _ _ _ _ (w_X11_batch_0 _ _ _ _ ⟨fun hb => PI.mk (bad fun q => q.2.1 hb), fun hb => ⟨fun ha => ⟨fun hc => ⟨fun ht => PI.mk (bad fun q => q.2.2.2.2.1 (by rw [← td]; exact ht)), fun ht => ⟨fun he => ⟨fun hf => ?_, fun hf => ?_⟩, fun q => PI.mk (bad fun r => q r.2.2.2.2.2)⟩⟩, fun q => PI.mk (bad fun r => q r.2.2.2.1)⟩, fun q => PI.mk (bad fun r => q ⟨(cX s1).mpr r.1, (cX k1).mpr r.2.2.1⟩)⟩⟩)
  all_goals
    have c1 := (cX s1).mp ha.1
    have c2 := (cX k1).mp ha.2
    have oM := (cM (n := nS) (by omega) s2).mpr c1
    have oK := (cM (n := nK) (by omega) k2).mpr c2
    rw [td] at ht
    have ot : ¬ rd σ 59 1 / 24 - c < 0 := by
      rw [tm]
      exact fun q => ht ((tdm c hc).mp q)
  · rw [b1, show (200 : Int32) = nI 200 from rfl, nI_subn zB] at hf
    have hf2 := (nI_inj (b := 0) (by omega) (by omega)).mp hf
    refine PI.mk (M_X12_batch _ _ _ _ (w_X12_batch_0 _ _ _ _ ⟨fun _ => ⟨fun q => absurd q hb, fun _ => ⟨fun _ => ⟨fun _ => ⟨fun q => absurd q ot, fun _ => ⟨fun _ => ⟨fun _ => KI.mk ⟨rfl, hI⟩, fun q => absurd ?_ q⟩, fun q => absurd he q⟩⟩, fun q => absurd hc q⟩, fun q => absurd oK q⟩⟩, fun q => absurd oM q⟩))
    rw [b2, show nB = 200 by omega]
    rfl
  · rw [b1, show (200 : Int32) = nI 200 from rfl, nI_subn zB] at hf
    have hlt : nB < 200 := by
      rcases Nat.lt_or_ge nB 200 with q | q
      · exact q
      · exact absurd (by rw [show 200 - nB = 0 by omega]; rfl) hf
    obtain ⟨s, hs, rfl⟩ := rng nS (by omega) c1
    obtain ⟨w, hw, rfl⟩ : ∃ w : Nat, w < 2147483648 ∧ b = nI w := by
      have h3 := ti_rng b
      rw [ti_lt] at hb
      have e0 : (0 : Int32).toInt = 0 := rfl
      exact ⟨b.toInt.toNat, by omega, nI_of_ti (by omega)⟩
    obtain ⟨g, hg, rfl⟩ := rngL 9 (by omega) hc
    obtain ⟨p, hp0, hp, rfl⟩ : ∃ p : Nat, 1 ≤ p ∧ p ≤ 999 ∧ e = nI p := by
      have h3 := he
      rw [ti_le, ti_le] at h3
      have e1 : (1 : Int32).toInt = 1 := rfl
      have e9 : (999 : Int32).toInt = 999 := rfl
      exact ⟨e.toInt.toNat, by omega, by omega, nI_of_ti (by omega)⟩
    have hgt : g ≤ h / 24 := by
      rcases Nat.lt_or_ge (h / 24) g with q | q
      · exact absurd ((nI_lti (by omega) (by omega)).mpr q) ht
      · exact q
    have ew : nI w / 100 = nI (w / 100) := nI_divn (b := 100) (by omega) (by omega)
    have em : nI w - nI w / 100 * 100 = nI (w % 100) := nI_modn (b := 100) (by omega) (by omega)
    have eg : nI (h / 24) - nI g = nI (h / 24 - g) := nI_subn hgt
    have hwk : w / 100 < nK := by
      rw [ew] at c2
      exact (nI_lti (by omega) (by omega)).mp c2.2
    have hcw : (nI (w / 100)).toNatClampNeg = w / 100 := cl (by omega)
    rw [td, eg]
    refine (S_addB _ _ _ _ hlt b1).mono ?_
    rintro v σ1 ⟨x, rfl, rfl, hA⟩
    rw [em, ew] at hA
    have hcn : (nI nB).toNatClampNeg = nB := cl (by omega)
    refine ⟨_, rfl, ?_⟩
    dsimp only
    rw [ew, hcw, hcn]
    refine ⟨in_nI hlt (by omega), in_nI (by omega) (by omega), PI.mk (M_X12_batch _ _ _ _ (w_X12_batch_0 _ _ _ _ ?_))⟩
    obtain ⟨p0, c0, g0, z0, t0, q1, q2, q3, q4, q5, ⟨e1, e2, e3, e4, e5⟩, ⟨f1, f2, f3, f4, f5⟩⟩ := k3 (w / 100) (by omega)
    have A : ∀ q c : Nat, q ≠ nB + 142 → ¬ (q = 17 ∧ c = 1) → rd σ1 q c = rd σ q c := fun q c hq hc => by
      rw [hA q c, if_neg hq, if_neg hc]
    have x0 : rd (wr σ1 (nB + 142) 13 (nI (h / 24))) 0 13 + nI p * rd (wr σ1 (nB + 142) 13 (nI (h / 24))) 13 (w / 100) = rd σ 0 13 + nI p * nI c0 := by
      rw [rd_wr, if_neg (by omega), rd_wr, if_neg (by omega), A _ _ (by omega) (by omega), A _ _ (by omega) (by omega), e2]
    rw [x0]
    generalize hσ2 : wr (wr σ1 (nB + 142) 13 (nI (h / 24))) 0 13 (rd σ 0 13 + nI p * nI c0) = σ2
    have B : ∀ q c : Nat, q ≠ nB + 142 → ¬ (q = 17 ∧ c = 1) → ¬ (q = 0 ∧ c = 13) → rd σ2 q c = rd σ q c := fun q c hq hc h0 => by
      rw [← hσ2, rd_wr, if_neg h0, rd_wr, if_neg (by omega), A q c hq hc]
    have B17 : rd σ2 17 1 = nI (nB + 1) := by
      rw [← hσ2, rd_wr, if_neg (by omega), rd_wr, if_neg (by omega), hA, if_neg (by omega), if_pos ⟨rfl, rfl⟩]
    have B0 : rd σ2 0 13 = rd σ 0 13 + nI p * nI c0 := by rw [← hσ2, rd_wr, if_pos ⟨rfl, rfl⟩]
    have BN : ∀ c : Nat, rd σ2 (nB + 142) c = if c = 13 then nI (h / 24) else if c = 0 then nI s else if c = 1 then nI (w / 100) else if c = 2 then nI (w % 100) else if c = 3 then nI (h / 24 - g) else if c = 4 ∨ c = 5 then nI p else if c = 11 then -1 else if c = 12 then nI nB else rd σ (nB + 142) c := fun c => by
      rw [← hσ2, rd_wr, if_neg (by omega), rd_wr]
      by_cases h13 : c = 13
      · subst h13; simp
      · rw [if_neg (by omega), hA, if_pos rfl, if_neg h13]
    have B2 : ∀ c, rd σ2 59 c = rd σ 59 c := fun c => B 59 c (by omega) (by omega) (by omega)
    refine ⟨fun _ => ⟨fun q => absurd q hb, fun _ => ⟨fun _ => ⟨fun _ => ⟨fun q => absurd q (by rw [B2]; exact ot), fun _ => ⟨fun _ => ⟨fun q => ?_, fun _ => ?_⟩, fun q => absurd he q⟩⟩, fun q => absurd hc q⟩, fun q => absurd (by rw [B2]; exact oK) q⟩⟩, fun q => absurd (by rw [B2]; exact oM) q⟩
    · rw [B2, b2] at q
      have := (nI_inj (b := 200) (by omega) (by omega)).mp q
      omega
    · refine M_X12_addBatch _ _ _ _ _ _ (w_X12_addBatch_0 _ _ _ _ _ _ ?_)
      rw [B2, B2, b2, tm, eg, em, ew, hcn, nI_s]
      refine ⟨in_nI hlt (by omega), rfl, ?_⟩
      rw [hcw]
      refine ⟨in_nI (by omega) (by omega), KI.mk ⟨?_, ?_⟩⟩
      · rw [rd_wr, if_pos ⟨rfl, rfl⟩, nI_pr]
      · have y0 : rd (wr (wr (wr (wr (wr (wr (wr (wr σ2 71 nB (nI s)) 72 nB (nI (w / 100))) 73 nB (nI (w % 100))) 74 nB (nI (h / 24 - g))) 75 nB (nI (h / 24))) 76 nB (nI p)) 82 nB (-1)) 59 16 (nI (nB + 1))) 59 15 + nI p * rd (wr (wr (wr (wr (wr (wr (wr (wr σ2 71 nB (nI s)) 72 nB (nI (w / 100))) 73 nB (nI (w % 100))) 74 nB (nI (h / 24 - g))) 75 nB (nI (h / 24))) 76 nB (nI p)) 82 nB (-1)) 59 16 (nI (nB + 1))) 64 (w / 100) = rd σ 59 15 + nI p * nI c0 := by
          simp only [rd_wr]
          simp only [show ¬ (59 = 59 ∧ 15 = 16) by omega, show ∀ z : Nat, ¬ (59 = 82 ∧ 15 = z) by omega, show ∀ z : Nat, ¬ (59 = 76 ∧ 15 = z) by omega, show ∀ z : Nat, ¬ (59 = 75 ∧ 15 = z) by omega, show ∀ z : Nat, ¬ (59 = 74 ∧ 15 = z) by omega, show ∀ z : Nat, ¬ (59 = 73 ∧ 15 = z) by omega, show ∀ z : Nat, ¬ (59 = 72 ∧ 15 = z) by omega, show ∀ z : Nat, ¬ (59 = 71 ∧ 15 = z) by omega]
          simp
          rw [B2, B 64 _ (by omega) (by omega) (by omega), f2]
        rw [y0]
        generalize hσ3 : wr (wr (wr (wr (wr (wr (wr (wr (wr σ2 71 nB (nI s)) 72 nB (nI (w / 100))) 73 nB (nI (w % 100))) 74 nB (nI (h / 24 - g))) 75 nB (nI (h / 24))) 76 nB (nI p)) 82 nB (-1)) 59 16 (nI (nB + 1))) 59 15 (rd σ 59 15 + nI p * nI c0) = σ3
        have C1 : ∀ q c : Nat, (q < 71 ∨ 82 < q ∨ (77 ≤ q ∧ q ≤ 81) ∨ c ≠ nB) → ¬ (q = 59 ∧ (c = 15 ∨ c = 16)) → rd σ3 q c = rd σ2 q c := by
          intro q c hq h59
          rw [← hσ3]
          rw [rd_wr, if_neg (by omega), rd_wr, if_neg (by omega), rd_wr, if_neg (by omega), rd_wr, if_neg (by omega), rd_wr, if_neg (by omega), rd_wr, if_neg (by omega), rd_wr, if_neg (by omega), rd_wr, if_neg (by omega), rd_wr, if_neg (by omega)]
        have C : ∀ q c : Nat, (q < 71 ∨ 82 < q ∨ (77 ≤ q ∧ q ≤ 81) ∨ c ≠ nB) → ¬ (q = 59 ∧ (c = 15 ∨ c = 16)) → q ≠ nB + 142 → ¬ (q = 17 ∧ c = 1) → ¬ (q = 0 ∧ c = 13) → rd σ3 q c = rd σ q c := fun q c a1 a2 a3 a4 a5 => (C1 q c a1 a2).trans (B q c a3 a4 a5)
        have n6 : IBatch h (nB + 1) σ3 := by
          refine ⟨by omega, by rw [C1 _ _ (by omega) (by omega), B17], by rw [← hσ3]; simp [rd_wr], fun j hj => ?_, fun j hj hj2 => ?_⟩
          · by_cases hjn : j = nB
            · subst hjn
              refine ⟨s, w / 100, w % 100, h / 24 - g, p, 0, 0, 0, 0, ⟨by omega, by omega, by omega, by omega, by omega⟩, ?_, ?_, ?_, ?_, ?_⟩
              · obtain ⟨⟨z6, z7, z8, z9, z10⟩, -⟩ := b4 j (Nat.le_refl _) hlt
                simp [C1 (j + 142) _ (by omega) (by omega), BN, z6, z7, z8, z9]
                rfl
              · obtain ⟨-, z6, z7, z8, z9, z10⟩ := b4 j (Nat.le_refl _) hlt
                rw [C 77 j (by omega) (by omega) (by omega) (by omega) (by omega), C 78 j (by omega) (by omega) (by omega) (by omega) (by omega), C 79 j (by omega) (by omega) (by omega) (by omega) (by omega), C 80 j (by omega) (by omega) (by omega) (by omega) (by omega), z6, z7, z8, z9, ← hσ3]
                simp [rd_wr]
                rfl
              · obtain ⟨⟨-, -, -, -, y10⟩, -, -, -, -, z10⟩ := b4 j (Nat.le_refl _) hlt
                rw [C1 (j + 142) 10 (by omega) (by omega), BN, C 81 j (by omega) (by omega) (by omega) (by omega) (by omega), z10]
                simp [y10]
              · rw [C1 (j + 142) 11 (by omega) (by omega), BN, ← hσ3]
                simp [rd_wr]
              · refine Or.inl ⟨by rw [← hσ3]; simp [rd_wr], by rw [C1 (j + 142) 12 (by omega) (by omega), BN]; simp, h / 24, Nat.le_refl _, by rw [C1 (j + 142) 13 (by omega) (by omega), BN]; simp, by rw [← hσ3]; simp [rd_wr]⟩
            · have hj3 : j < nB := by omega
              obtain ⟨s', k', lt', md', sh', so', mo', gi', th', x1, x2, x3, x4, x5, x6⟩ := b3 j hj3
              have G : ∀ c, rd σ3 (j + 142) c = rd σ (j + 142) c := fun c => C (j + 142) c (by omega) (by omega) (by omega) (by omega) (by omega)
              have G2 : ∀ q, 71 ≤ q → q ≤ 82 → rd σ3 q j = rd σ q j := fun q _ _ => C q j (by omega) (by omega) (by omega) (by omega) (by omega)
              refine ⟨s', k', lt', md', sh', so', mo', gi', th', x1, by simpa only [G] using x2, ?_, ?_, ?_, ?_⟩
              · simpa (disch := omega) only [G2] using x3
              · simpa (disch := omega) only [G, G2] using x4
              · simpa (disch := omega) only [G, G2] using x5
              · rcases x6 with x6 | ⟨f, hf, x7, x8⟩
                · exact Or.inl (by simpa (disch := omega) only [G, G2] using x6)
                · refine Or.inr ⟨f, hf, by simpa (disch := omega) only [G2] using x7, ?_⟩
                  rw [G, C (f + 142) 12 (by omega) (by omega) (by omega) (by omega) (by omega)]
                  exact x8
          · have x6 := b4 j (by omega) hj2
            have G : ∀ c, rd σ3 (j + 142) c = rd σ (j + 142) c := fun c => C (j + 142) c (by omega) (by omega) (by omega) (by omega) (by omega)
            have G2 : ∀ q, 71 ≤ q → q ≤ 82 → rd σ3 q j = rd σ q j := fun q _ _ => C q j (by omega) (by omega) (by omega) (by omega) (by omega)
            simpa (disch := omega) only [G, G2] using x6
        have n7 : ISpoil h (nB + 1) σ3 := by
          obtain ⟨m, g1, g2, g3, g4, g5⟩ := i7.more
          refine ⟨m, g1, by rw [C _ _ (by omega) (by omega) (by omega) (by omega) (by omega)]; exact g2, by rw [C _ _ (by omega) (by omega) (by omega) (by omega) (by omega)]; exact g3, fun i hi => ?_, fun i j hij hj => ?_⟩
          · obtain ⟨m', -, g2', -, g4', -⟩ := id i7
            have hm : m' = m ∨ True := Or.inr trivial
            obtain ⟨b', p', dy, u1, u2, u3, u4, u5, u6, u7, u8, u9⟩ := g4 i hi
            have hb' : b' < nB := by
              obtain ⟨m2, v1, v2, v3, v4, v5⟩ := id i7
              have hmm : m2 = m := by
                rw [g2] at v2
                exact ((nI_inj (by omega) (by omega)).mp v2).symm
              subst hmm
              obtain ⟨b2', p2, d2, w1, -, -, w4, -⟩ := v4 i hi
              rw [u4] at w4
              have := (nI_inj (by omega) (by omega)).mp w4
              omega
            have R : ∀ q, q = 20 ∨ q = 21 ∨ q = 22 ∨ q = 115 ∨ q = 116 ∨ q = 117 → rd σ3 q i = rd σ q i := fun q hq => C q i (by omega) (by omega) (by omega) (by omega) (by omega)
            refine ⟨b', p', dy, by omega, u2, u3, ?_, ?_, ?_, ?_, ?_, ?_⟩
            · rw [R _ (by omega)]; exact u4
            · rw [R _ (by omega), C 72 b' (by omega) (by omega) (by omega) (by omega) (by omega), C 73 b' (by omega) (by omega) (by omega) (by omega) (by omega)]; exact u5
            · rw [R _ (by omega)]; exact u6
            · rw [R _ (by omega)]; exact u7
            · rw [R _ (by omega)]; exact u8
            · rw [R _ (by omega)]; exact u9
          · rw [C 22 i (by omega) (by omega) (by omega) (by omega) (by omega), C 22 j (by omega) (by omega) (by omega) (by omega) (by omega)]
            exact g5 i j hij hj
        have n14 : ICost σ3 := by
          show rd σ3 59 15 = rd σ3 0 13
          rw [C1 0 13 (by omega) (by omega), B0, ← hσ3, rd_wr, if_pos ⟨rfl, rfl⟩, i14]
        refine ⟨h, nS, nK, nB + 1, i1.of ?_, i2.of ?_, i3.of ?_, i4.of ?_, i5.of ?_, n6, n7, i8.of ?_, i9.of ?_, i10.of ?_, i11.of ?_, i12.of ?_, i13.of ?_, n14⟩
        all_goals
          intro q c hq
          simp only [sHour, sShops, sKinds, sDays, sStep, sBatch, sSpoil, sKit, sTape, sLaws, sRows, sCuts, sBox, sCost] at hq
          exact C q c (by omega) (by omega) (by omega) (by omega) (by omega)
end P4

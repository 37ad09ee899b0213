/-! BIN, the pair -/
section BP
variable {Γ : GG} {l : Launch} {d : Nat} {σ : St}
theorem P_bin (a b c : Int32) (hI : Inv σ) : Meth Γ l (d + 2) mX11_bin [.ref 0, .int a, .int b, .int c] σ (PI Γ l (d + 2) mX12_bin [.ref 59, .int a, .int b, .int c]) := by
  have hI2 := hI
  obtain ⟨h, nS, nK, nB, h0⟩ := hI2
  obtain ⟨i1, i2, i3, i4, i5, i6, i7, -⟩ := id h0
  obtain ⟨zB, b1, b2, b3, b4⟩ := id i6
  obtain ⟨zh, h1, h2⟩ := id i1
  obtain ⟨nP, g1, g2, g3, g4, g5⟩ := id i7
  have bad : ¬ ((0 ≤ a ∧ a < nI nB) ∧ ((1 : Int32) ≤ b ∧ b ≤ 999) ∧ ((0 : Int32) ≤ c ∧ c ≤ 1)) → bad1 σ Γ l (d + 2) mX12_bin [.ref 59, .int a, .int b, .int c] (-1) := fun hn => M_X12_bin _ _ _ (w_X12_bin_0 _ _ _ ⟨fun ha => ⟨fun hb => ⟨fun hc => absurd ⟨(cM (by omega) b2).mp ha, hb, hc⟩ hn, fun _ => KI.mk ⟨rfl, hI⟩⟩, fun _ => KI.mk ⟨rfl, hI⟩⟩, fun _ => KI.mk ⟨rfl, hI⟩⟩)
  refine M_X11_bin _ _ _ (w_X11_bin_0 _ _ _ ⟨fun ha => ⟨fun hb => ⟨fun hc => ?_, fun q => PI.mk (bad fun r => q r.2.2)⟩, fun q => PI.mk (bad fun r => q r.2.1)⟩, fun q => PI.mk (bad fun r => q ((cX b1).mpr r.1))⟩)
  have c1 := (cX b1).mp ha
  have oB := (cM (n := nB) (by omega) b2).mpr c1
  obtain ⟨j, hj, rfl⟩ := rng nB (by omega) c1
  have cj : (nI j).toNatClampNeg = j := cl (by omega)
  obtain ⟨v, hv0, hv, rfl⟩ : ∃ v : Nat, 1 ≤ v ∧ v ≤ 999 ∧ b = nI v := by
    have h3 := hb
    rw [ti_le, ti_le] at h3
    have e1 : (1 : Int32).toInt = 1 := rfl
    have e9 : (999 : Int32).toInt = 999 := rfl
    exact ⟨b.toInt.toNat, by omega, by omega, nI_of_ti (by omega)⟩
  obtain ⟨s, k, lt, md, sh, so, mo, gi, th, ⟨hs, hk, hlt, hmd, hsum⟩, ⟨x0, x1, x2, x3, x4, x5, x6, x7, x8, x9⟩, ⟨y0, y1, y2, y3, y4, y5, y6, y7, y8⟩, z1, z2, z3⟩ := b3 j hj
  have csh : (nI sh).toNatClampNeg = sh := cl (by omega)
  have cth : (nI th).toNatClampNeg = th := cl (by omega)
  have shM : (((nI (sh + so + mo + gi + th) - nI so) - nI mo) - nI gi) - nI th = nI sh := shelf_eq
  have td : nI h / 24 = nI (h / 24) := nI_divn (b := 24) (by omega) (by omega)
  have le1 : nI v ≤ nI sh ↔ v ≤ sh := nI_lei (by omega) (by omega)
  have inj : vp_in (nI j) 200 := in_nI (by omega) (by omega)
  rw [cj, x5]
  refine ⟨inj, fun hvs => ?_, fun hvs => ?_⟩
  · rw [le1] at hvs
    -- both thrown, from a state with the invariant
    have toss2 : ∀ (τ : St), Inv0 h nS nK nB τ → rd τ (j + 142) 5 = nI sh → rd τ (j + 142) 9 = nI th → rd τ 72 j = nI k → rd τ 80 j = nI th → ∀ σx σm : St, (∀ q e, rd σx q e = if q = j + 142 ∧ e = 5 then nI (sh - v) else if q = j + 142 ∧ e = 9 then nI (th + v) else if q = 3 ∧ e = h / 24 then rd τ 3 (h / 24) + nI v * rd τ 14 k else rd τ q e) → (∀ q e, rd σm q e = if q = 80 ∧ e = j then nI (th + v) else if q = 83 ∧ e = h / 24 then rd σx 83 (h / 24) + nI v * rd σx 65 k else rd σx q e) → Inv0 h nS nK nB σm := by
      intro τ hτ t5 t9 t72 t80 σx σm rx rm
      refine hτ.tossed hj hk (v := v) (by rw [t5, csh]; exact hvs) (fun q e => ?_)
      rw [rm q e, t5, t9, t80, csh, cth, rx 83, rx 65, rx q e]
      by_cases q8 : q = 80 ∧ e = j
      · rw [if_pos q8, if_neg (by omega), if_neg (by omega), if_neg (by omega), if_pos q8]
      · by_cases q3 : q = 83 ∧ e = h / 24
        · rw [if_neg q8, if_pos q3, if_neg (by omega), if_neg (by omega), if_neg (by omega), if_neg (by omega), if_neg (by omega), if_neg (by omega), if_neg (by omega), if_neg (by omega), if_neg (by omega), if_neg q8, if_pos q3]
        · rw [if_neg q8, if_neg q3, if_neg q8, if_neg q3]
    refine ⟨fun hc1 => ⟨fun hlt4 => ?_, fun hlt4 => ?_⟩, fun hc1 => ?_⟩
    · rw [g2] at hlt4
      have hP4 : nP < 400 := (nI_lti (b := 400) (by omega) (by omega)).mp hlt4
      rw [h1, td]
      refine (S_note (by omega) hP4 g2 x1 x2).mono ?_
      rintro u σ1 ⟨rfl, r1⟩
      have n1 : ∀ q e, ¬ (q = j + 142 ∧ e = 10) → ¬ ((q = 20 ∨ q = 21 ∨ q = 22) ∧ e = nP) → ¬ (q = 17 ∧ e = 7) → rd σ1 q e = rd σ q e := fun q e a1 a2 a3 => by
        rw [r1, if_neg a1, if_neg (by omega), if_neg (by omega), if_neg (by omega), if_neg a3]
      refine ⟨rfl, (S_tossX (sh := sh) (th := th) zh (by omega) hk (by rw [n1 _ _ (by omega) (by omega) (by omega)]; exact h1) (by rw [n1 _ _ (by omega) (by omega) (by omega)]; exact x1) (by rw [n1 _ _ (by omega) (by omega) (by omega)]; exact x5) (by rw [n1 _ _ (by omega) (by omega) (by omega)]; exact x9) hvs).mono ?_⟩
      rintro u σ2 ⟨rfl, r2⟩
      have m2 : ∀ q e, (59 ≤ q ∧ q < 118) → rd σ2 q e = rd σ q e := fun q e hq => by
        rw [r2, if_neg (by omega), if_neg (by omega), if_neg (by omega), n1 q e (by omega) (by omega) (by omega)]
      have ans : rd σ2 (j + 142) 5 = nI (sh - v) := by rw [r2, if_pos ⟨rfl, rfl⟩]
      refine ⟨rfl, PI.mk (M_X12_bin _ _ _ (w_X12_bin_0 _ _ _ ⟨fun _ => ⟨fun _ => ⟨fun _ => ⟨inj, ?_⟩, fun q => absurd hc q⟩, fun q => absurd hb q⟩, fun q => absurd (by rw [m2 _ _ (by omega)]; exact oB) q⟩))⟩
      rw [cj, m2 76 _ (by omega), m2 77 _ (by omega), m2 78 _ (by omega), m2 79 _ (by omega), m2 80 _ (by omega), y4, y5, y6, y7, y8, shM, m2 59 74 (by omega), g3]
      refine ⟨fun _ => ⟨fun _ => ⟨fun q => ?_, fun _ => ?_⟩, fun q => absurd hc1 q⟩, fun q => absurd (le1.mpr hvs) q⟩
      · have := (nI_inj (b := 400) (by omega) (by omega)).mp q
        omega
      · refine w_X12_bin_60 _ _ _ ?_
        refine (S_tossM (b := j) (v := v) (th := th) zh (by omega) hk (by rw [m2 _ _ (by omega)]; exact h2) (by rw [m2 _ _ (by omega)]; exact y1) (by rw [m2 _ _ (by omega)]; exact y8)).mono ?_
        rintro u σ3 ⟨rfl, r3⟩
        have m3 : ∀ q e, (59 ≤ q ∧ q < 118) → q ≠ 80 → q ≠ 83 → rd σ3 q e = rd σ q e := fun q e hq a1 a2 => by
          rw [r3, if_neg (by omega), if_neg (by omega), m2 q e hq]
        have e80 : rd σ3 80 j = nI (th + v) := by rw [r3, if_pos ⟨rfl, rfl⟩]
        have cP : (nI nP).toNatClampNeg = nP := cl (by omega)
        refine ⟨rfl, fun _ => ?_, fun q => absurd hc1 q⟩
        rw [cj, m3 59 74 (by omega) (by omega) (by omega), g3, m3 59 1 (by omega) (by omega) (by omega), h2, td, cP, m3 76 _ (by omega) (by omega) (by omega), m3 77 _ (by omega) (by omega) (by omega), m3 78 _ (by omega) (by omega) (by omega), m3 79 _ (by omega) (by omega) (by omega), e80, y4, y5, y6, y7, m3 81 _ (by omega) (by omega) (by omega), nI_s]
        refine ⟨inj, in_nI hP4 (by omega), inj, KI.mk ⟨?_, h, nS, nK, nB, ?_⟩⟩
        · rw [ans]
          rw [show sh + so + mo + gi + th = (sh - v) + so + mo + gi + (th + v) by omega]
          exact shelf_eq
        · -- first the spoiled, then the thrown
          generalize hσs : wr (wr (wr (wr (wr (wr (wr (wr (wr (wr σ (j + 142) 10 (rd σ (j + 142) 10 + nI v)) 20 nP (rd σ 72 j * 100 + rd σ 73 j)) 21 nP (nI v)) 22 nP (nI (h / 24))) 17 7 (nI (nP + 1))) 81 j (rd σ 81 j + nI v)) 115 nP (nI j)) 116 nP (nI (h / 24))) 117 nP (nI v)) 59 74 (nI (nP + 1)) = σs
          have rs : ∀ q c, rd σs q c = if q = j + 142 ∧ c = 10 then rd σ (j + 142) 10 + nI v else if q = 20 ∧ c = nP then rd σ 72 j * 100 + rd σ 73 j else if q = 21 ∧ c = nP then nI v else if q = 22 ∧ c = nP then nI (h / 24) else if q = 17 ∧ c = 7 then nI (nP + 1) else if q = 81 ∧ c = j then rd σ 81 j + nI v else if q = 115 ∧ c = nP then nI j else if q = 116 ∧ c = nP then nI (h / 24) else if q = 117 ∧ c = nP then nI v else if q = 59 ∧ c = 74 then nI (nP + 1) else rd σ q c := by
            intro q c
            rw [← hσs]
            simp only [rd_wr]
            by_cases d1 : q = j + 142 ∧ c = 10
            · rw [if_neg (by omega), if_neg (by omega), if_neg (by omega), if_neg (by omega), if_neg (by omega), if_neg (by omega), if_neg (by omega), if_neg (by omega), if_neg (by omega), if_pos d1, if_pos d1]
            by_cases d2 : q = 20 ∧ c = nP
            · rw [if_neg (by omega), if_neg (by omega), if_neg (by omega), if_neg (by omega), if_neg (by omega), if_neg (by omega), if_neg (by omega), if_neg (by omega), if_pos d2, if_neg d1, if_pos d2]
            by_cases d3 : q = 21 ∧ c = nP
            · rw [if_neg (by omega), if_neg (by omega), if_neg (by omega), if_neg (by omega), if_neg (by omega), if_neg (by omega), if_neg (by omega), if_pos d3, if_neg d1, if_neg d2, if_pos d3]
            by_cases d4 : q = 22 ∧ c = nP
            · rw [if_neg (by omega), if_neg (by omega), if_neg (by omega), if_neg (by omega), if_neg (by omega), if_neg (by omega), if_pos d4, if_neg d1, if_neg d2, if_neg d3, if_pos d4]
            by_cases d5 : q = 17 ∧ c = 7
            · rw [if_neg (by omega), if_neg (by omega), if_neg (by omega), if_neg (by omega), if_neg (by omega), if_pos d5, if_neg d1, if_neg d2, if_neg d3, if_neg d4, if_pos d5]
            by_cases d6 : q = 81 ∧ c = j
            · rw [if_neg (by omega), if_neg (by omega), if_neg (by omega), if_neg (by omega), if_pos d6, if_neg d1, if_neg d2, if_neg d3, if_neg d4, if_neg d5, if_pos d6]
            by_cases d7 : q = 115 ∧ c = nP
            · rw [if_neg (by omega), if_neg (by omega), if_neg (by omega), if_pos d7, if_neg d1, if_neg d2, if_neg d3, if_neg d4, if_neg d5, if_neg d6, if_pos d7]
            by_cases d8 : q = 116 ∧ c = nP
            · rw [if_neg (by omega), if_neg (by omega), if_pos d8, if_neg d1, if_neg d2, if_neg d3, if_neg d4, if_neg d5, if_neg d6, if_neg d7, if_pos d8]
            by_cases d9 : q = 117 ∧ c = nP
            · rw [if_neg (by omega), if_pos d9, if_neg d1, if_neg d2, if_neg d3, if_neg d4, if_neg d5, if_neg d6, if_neg d7, if_neg d8, if_pos d9]
            by_cases d10 : q = 59 ∧ c = 74
            · rw [if_pos d10, if_neg d1, if_neg d2, if_neg d3, if_neg d4, if_neg d5, if_neg d6, if_neg d7, if_neg d8, if_neg d9, if_pos d10]
            rw [if_neg d10, if_neg d9, if_neg d8, if_neg d7, if_neg d6, if_neg d5, if_neg d4, if_neg d3, if_neg d2, if_neg d1, if_neg d1, if_neg d2, if_neg d3, if_neg d4, if_neg d5, if_neg d6, if_neg d7, if_neg d8, if_neg d9, if_neg d10]
          have is0 : Inv0 h nS nK nB σs := h0.spoiled hj hv hP4 g2 g3 rs
          have sn : ∀ q c, ¬ (q = j + 142 ∧ c = 10) → ¬ ((q = 20 ∨ q = 21 ∨ q = 22 ∨ q = 115 ∨ q = 116 ∨ q = 117) ∧ c = nP) → ¬ (q = 17 ∧ c = 7) → ¬ (q = 81 ∧ c = j) → ¬ (q = 59 ∧ c = 74) → rd σs q c = rd σ q c := fun q c a1 a2 a3 a4 a5 => by
            rw [rs, if_neg a1, if_neg (by omega), if_neg (by omega), if_neg (by omega), if_neg a3, if_neg a4, if_neg (by omega), if_neg (by omega), if_neg (by omega), if_neg a5]
          refine is0.tossed hj hk (v := v) (by rw [sn _ _ (by omega) (by omega) (by omega) (by omega) (by omega), x5, csh]; exact hvs) (fun q e => ?_)
          rw [sn (j + 142) 5 (by omega) (by omega) (by omega) (by omega) (by omega), sn (j + 142) 9 (by omega) (by omega) (by omega) (by omega) (by omega), sn 80 j (by omega) (by omega) (by omega) (by omega) (by omega), x5, x9, y8, csh, cth, sn 3 _ (by omega) (by omega) (by omega) (by omega) (by omega), sn 14 _ (by omega) (by omega) (by omega) (by omega) (by omega), sn 83 _ (by omega) (by omega) (by omega) (by omega) (by omega), sn 65 _ (by omega) (by omega) (by omega) (by omega) (by omega)]
          simp only [rd_wr]
          rw [r3 q e, m2 83 _ (by omega), m2 65 _ (by omega), r2 q e, n1 3 _ (by omega) (by omega) (by omega), n1 14 _ (by omega) (by omega) (by omega), r1 q e, rs q e, y1, y2]
          by_cases f1 : q = j + 142 ∧ e = 5
          · rw [if_neg (by omega), if_neg (by omega), if_neg (by omega), if_neg (by omega), if_neg (by omega), if_neg (by omega), if_neg (by omega), if_pos f1, if_pos f1]
          by_cases f2 : q = j + 142 ∧ e = 9
          · rw [if_neg (by omega), if_neg (by omega), if_neg (by omega), if_neg (by omega), if_neg (by omega), if_neg (by omega), if_neg (by omega), if_neg f1, if_pos f2, if_neg f1, if_pos f2]
          by_cases f3 : q = 3 ∧ e = h / 24
          · rw [if_neg (by omega), if_neg (by omega), if_neg (by omega), if_neg (by omega), if_neg (by omega), if_neg (by omega), if_neg (by omega), if_neg f1, if_neg f2, if_pos f3, if_neg f1, if_neg f2, if_pos f3]
          by_cases f4 : q = 80 ∧ e = j
          · rw [if_neg (by omega), if_neg (by omega), if_neg (by omega), if_neg (by omega), if_neg (by omega), if_pos f4, if_neg f1, if_neg f2, if_neg f3, if_pos f4]
          by_cases f5 : q = 83 ∧ e = h / 24
          · rw [if_neg (by omega), if_neg (by omega), if_neg (by omega), if_neg (by omega), if_neg (by omega), if_neg f4, if_pos f5, if_neg f1, if_neg f2, if_neg f3, if_neg f4, if_pos f5]
          rw [if_neg f4, if_neg f5, if_neg f1, if_neg f2, if_neg f3, if_neg f1, if_neg f2, if_neg f3, if_neg f4, if_neg f5]
          by_cases d1 : q = j + 142 ∧ e = 10
          · rw [if_neg (by omega), if_neg (by omega), if_neg (by omega), if_neg (by omega), if_neg (by omega), if_pos d1, if_pos d1]
          by_cases d2 : q = 20 ∧ e = nP
          · rw [if_neg (by omega), if_neg (by omega), if_neg (by omega), if_neg (by omega), if_neg (by omega), if_neg d1, if_pos d2, if_neg d1, if_pos d2]
          by_cases d3 : q = 21 ∧ e = nP
          · rw [if_neg (by omega), if_neg (by omega), if_neg (by omega), if_neg (by omega), if_neg (by omega), if_neg d1, if_neg d2, if_pos d3, if_neg d1, if_neg d2, if_pos d3]
          by_cases d4 : q = 22 ∧ e = nP
          · rw [if_neg (by omega), if_neg (by omega), if_neg (by omega), if_neg (by omega), if_neg (by omega), if_neg d1, if_neg d2, if_neg d3, if_pos d4, if_neg d1, if_neg d2, if_neg d3, if_pos d4]
          by_cases d5 : q = 17 ∧ e = 7
          · rw [if_neg (by omega), if_neg (by omega), if_neg (by omega), if_neg (by omega), if_neg (by omega), if_neg d1, if_neg d2, if_neg d3, if_neg d4, if_pos d5, if_neg d1, if_neg d2, if_neg d3, if_neg d4, if_pos d5]
          rw [if_neg d1, if_neg d2, if_neg d3, if_neg d4, if_neg d5, if_neg d1, if_neg d2, if_neg d3, if_neg d4, if_neg d5]
          by_cases d6 : q = 81 ∧ e = j
          · rw [if_neg (by omega), if_neg (by omega), if_neg (by omega), if_neg (by omega), if_pos d6, if_pos d6]
          by_cases d7 : q = 115 ∧ e = nP
          · rw [if_neg (by omega), if_neg (by omega), if_neg (by omega), if_pos d7, if_neg d6, if_pos d7]
          by_cases d8 : q = 116 ∧ e = nP
          · rw [if_neg (by omega), if_neg (by omega), if_pos d8, if_neg d6, if_neg d7, if_pos d8]
          by_cases d9 : q = 117 ∧ e = nP
          · rw [if_neg (by omega), if_pos d9, if_neg d6, if_neg d7, if_neg d8, if_pos d9]
          by_cases d10 : q = 59 ∧ e = 74
          · rw [if_pos d10, if_neg d6, if_neg d7, if_neg d8, if_neg d9, if_pos d10]
          rw [if_neg d10, if_neg d9, if_neg d8, if_neg d7, if_neg d6, if_neg d6, if_neg d7, if_neg d8, if_neg d9, if_neg d10]
    · rw [g2] at hlt4
      have hP4 : nP = 400 := by
        rcases Nat.lt_or_ge nP 400 with q | q
        · exact absurd ((nI_lti (b := 400) (by omega) (by omega)).mpr q) hlt4
        · omega
      refine PI.mk (M_X12_bin _ _ _ (w_X12_bin_0 _ _ _ ⟨fun _ => ⟨fun _ => ⟨fun _ => ⟨inj, ?_⟩, fun q => absurd hc q⟩, fun q => absurd hb q⟩, fun q => absurd oB q⟩))
      rw [cj, y4, y5, y6, y7, y8, shM, g3, hP4]
      exact ⟨fun _ => ⟨fun _ => ⟨fun _ => KI.mk ⟨rfl, hI⟩, fun q => absurd rfl q⟩, fun q => absurd hc1 q⟩, fun q => absurd (le1.mpr hvs) q⟩
    · refine (S_tossX (sh := sh) (th := th) zh (by omega) hk h1 x1 x5 x9 hvs).mono ?_
      rintro u σ2 ⟨rfl, r2⟩
      have m2 : ∀ q e, (59 ≤ q ∧ q < 118) → rd σ2 q e = rd σ q e := fun q e hq => by
        rw [r2, if_neg (by omega), if_neg (by omega), if_neg (by omega)]
      have ans : rd σ2 (j + 142) 5 = nI (sh - v) := by rw [r2, if_pos ⟨rfl, rfl⟩]
      refine ⟨rfl, PI.mk (M_X12_bin _ _ _ (w_X12_bin_0 _ _ _ ⟨fun _ => ⟨fun _ => ⟨fun _ => ⟨inj, ?_⟩, fun q => absurd hc q⟩, fun q => absurd hb q⟩, fun q => absurd (by rw [m2 _ _ (by omega)]; exact oB) q⟩))⟩
      rw [cj, m2 76 _ (by omega), m2 77 _ (by omega), m2 78 _ (by omega), m2 79 _ (by omega), m2 80 _ (by omega), y4, y5, y6, y7, y8, shM]
      refine ⟨fun _ => ⟨fun q => absurd q hc1, fun _ => ?_⟩, fun q => absurd (le1.mpr hvs) q⟩
      refine w_X12_bin_60 _ _ _ ?_
      refine (S_tossM (b := j) (v := v) (th := th) zh (by omega) hk (by rw [m2 _ _ (by omega)]; exact h2) (by rw [m2 _ _ (by omega)]; exact y1) (by rw [m2 _ _ (by omega)]; exact y8)).mono ?_
      rintro u σ3 ⟨rfl, r3⟩
      have m3 : ∀ q e, (59 ≤ q ∧ q < 118) → q ≠ 80 → q ≠ 83 → rd σ3 q e = rd σ q e := fun q e hq a1 a2 => by
        rw [r3, if_neg (by omega), if_neg (by omega), m2 q e hq]
      have e80 : rd σ3 80 j = nI (th + v) := by rw [r3, if_pos ⟨rfl, rfl⟩]
      refine ⟨rfl, fun q => absurd q hc1, fun _ => ?_⟩
      rw [cj, m3 76 _ (by omega) (by omega) (by omega), m3 77 _ (by omega) (by omega) (by omega), m3 78 _ (by omega) (by omega) (by omega), m3 79 _ (by omega) (by omega) (by omega), e80, y4, y5, y6, y7]
      refine ⟨inj, KI.mk ⟨?_, h, nS, nK, nB, ?_⟩⟩
      · rw [ans]
        rw [show sh + so + mo + gi + th = (sh - v) + so + mo + gi + (th + v) by omega]
        exact shelf_eq
      · exact toss2 σ h0 x5 x9 y1 y8 σ2 σ3 r2 r3
  · refine PI.mk (M_X12_bin _ _ _ (w_X12_bin_0 _ _ _ ⟨fun _ => ⟨fun _ => ⟨fun _ => ⟨inj, ?_⟩, fun q => absurd hc q⟩, fun q => absurd hb q⟩, fun q => absurd oB q⟩))
    rw [cj, y4, y5, y6, y7, y8, shM]
    exact ⟨fun q => absurd q hvs, fun _ => KI.mk ⟨rfl, hI⟩⟩
end BP

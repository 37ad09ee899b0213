/-! PAIRS: what is made: shops, kinds, kitchens, batches; what is told of a batch -/
theorem IBox.more {n : Nat} {σ : St} (h : IBox n σ) : IBox (n + 1) σ := ⟨fun i hi => ⟨(h.1 i hi).1, (h.1 i hi).2.1, fun c => (h.1 i hi).2.2 (by omega)⟩, h.2⟩
theorem ISpoil.more {h n : Nat} {σ : St} (hs : ISpoil h n σ) : ISpoil h (n + 1) σ := by
  obtain ⟨m, h1, h2, h3, h4, h5⟩ := hs
  refine ⟨m, h1, h2, h3, fun i hi => ?_, h5⟩
  obtain ⟨b, p, dy, g1, g2⟩ := h4 i hi
  exact ⟨b, p, dy, by omega, g2⟩
section P3
variable {Γ : GG} {l : Launch} {d : Nat} {σ : St}
theorem P_shop (a : Int32) (hI : Inv σ) : Meth Γ l (d + 1) mX11_shop [.ref 0, .int a] σ (PI Γ l (d + 1) mX12_shop [.ref 59, .int a]) := by
  obtain ⟨h, nS, nK, nB, i1, i2, i3, i4, i5, i6, i7, i8, i9, i10, i11, i12, i13, i14⟩ := id hI
  obtain ⟨zS, s1, s2, s3, s4, s5, s6⟩ := id i2
  refine M_X11_shop _ (w_X11_shop_0 _ ⟨fun c => ?_, fun c => PI.mk (M_X12_shop _ (w_X12_shop_0 _ ⟨fun c' => absurd ((cL 9999 (by omega)).mp c') c, fun _ => KI.mk ⟨rfl, hI⟩⟩))⟩)
  have c' := (cL 9999 (by omega)).mpr c
  obtain ⟨p, hp, rfl⟩ := rng 10000 (by omega) c
  refine M_X7_add_5 _ (w_X7_add_5_0 _ ⟨fun hf => ?_, fun hf => ?_⟩)
  · rw [s1] at hf ⊢
    have hlt : nS < 12 := (nI_lti (b := 12) (by omega) (by omega)).mp hf
    have hc : (nI nS).toNatClampNeg = nS := cl (by omega)
    refine ⟨in_nI hlt (by omega), KI.mk (PI.mk (M_X12_shop _ (w_X12_shop_0 _ ⟨fun _ => ⟨fun q => ?_, fun _ => ?_⟩, fun q => absurd c' q⟩)))⟩
    · rw [rd_wr, if_neg (by omega), rd_wr, if_neg (by omega), s2] at q
      have := (nI_inj (b := 12) (by omega) (by omega)).mp q
      omega
    · rw [rd_wr, if_neg (by omega), rd_wr, if_neg (by omega), s2, hc, nI_s]
      refine ⟨in_nI hlt (by omega), KI.mk ⟨rfl, ?_⟩⟩
      have e1 : nI p / 100 = nI (p / 100) := nI_divn (b := 100) (by omega) (by omega)
      have e2 : nI p - nI p / 100 * 100 = nI (p % 100) := nI_modn (b := 100) (by omega) (by omega)
      rw [e2, e1]
      have n2 : IShops (nS + 1) (wr (wr (wr (wr (wr (wr σ 6 nS (nI p)) 5 1 (nI (nS + 1))) 60 nS (nI (p / 100))) 61 nS (nI (p % 100))) 110 nS (-1)) 59 2 (nI (nS + 1))) := by
        refine ⟨by omega, rfl, rfl, fun i hi => ?_, s4, fun i hi => ?_, fun i hi hi2 => s6 i (by omega) hi2⟩
        · simp only [rd_wr]
          by_cases hin : i = nS
          · subst hin
            exact ⟨p, hp, by simp, by simp, by simp⟩
          · simpa [hin] using s3 i (by omega)
        · simp only [rd_wr]
          by_cases hin : i = nS
          · subst hin
            have := s6 i (by omega) (by omega)
            simp [this]
          · simpa [hin] using s5 i (by omega)
      refine ⟨h, nS + 1, nK, nB, i1.of ?_, n2, i3.of ?_, i4.of ?_, i5.of ?_, i6.of ?_, i7.of ?_, i8.of ?_, i9.of ?_, i10.of ?_, i11.of ?_, i12.of ?_, i13.more.of ?_, i14.of ?_⟩
      all_goals (repeat' (first | exact agr.rf | (refine agr.wr ?_ (by simp only [sHour, sShops, sKinds, sDays, sStep, sBatch, sSpoil, sKit, sTape, sLaws, sRows, sCuts, sBox, sCost]; omega))))
  · rw [s1] at hf
    have hge : ¬ nS < 12 := fun q => hf ((nI_lti (b := 12) (by omega) (by omega)).mpr q)
    have h12 : nS = 12 := by omega
    refine KI.mk (PI.mk (M_X12_shop _ (w_X12_shop_0 _ ⟨fun _ => ⟨fun _ => KI.mk ⟨rfl, hI⟩, fun q => absurd ?_ q⟩, fun q => absurd c' q⟩)))
    rw [s2, h12]
    rfl
theorem P_kitchen (a b : Int32) (hI : Inv σ) : Meth Γ l (d + 1) mX11_kitchen [.ref 0, .int a, .int b] σ (PI Γ l (d + 1) mX12_kitchen [.ref 59, .int a, .int b]) := by
  obtain ⟨h, nS, nK, nB, i1, i2, i3, i4, i5, i6, i7, i8, i9, i10, i11, i12, i13, i14⟩ := id hI
  obtain ⟨nH, hH, t1, t2, t3⟩ := id i8
  have bad : ¬ (((0 : Int32) ≤ a ∧ a < 10000) ∧ ((0 : Int32) ≤ b ∧ b < 24)) → bad1 σ Γ l (d + 1) mX12_kitchen [.ref 59, .int a, .int b] (-1) := fun hn => M_X12_kitchen _ _ (w_X12_kitchen_0 _ _ ⟨fun ha => ⟨fun hb => absurd ⟨(cL 9999 (by omega)).mp ha, (cL 23 (by omega)).mp hb⟩ hn, fun _ => KI.mk ⟨rfl, hI⟩⟩, fun _ => KI.mk ⟨rfl, hI⟩⟩)
  refine M_X11_kitchen _ _ (w_X11_kitchen_0 _ _ ⟨fun ha => ⟨fun hb => ?_, fun hb => PI.mk (bad fun c => hb c.2)⟩, fun ha => PI.mk (bad fun c => ha c.1)⟩)
  have oa := (cL 9999 (by omega)).mpr ha
  have ob := (cL 23 (by omega)).mpr hb
  obtain ⟨p, hp, rfl⟩ := rng 10000 (by omega) ha
  obtain ⟨v, hv, rfl⟩ := rng 24 (by omega) hb
  refine M_X7_add_55 _ (w_X7_add_55_0 _ ⟨fun hf => ?_, fun hf => ?_⟩)
  · rw [t1] at hf ⊢
    have hlt : nH < 10 := (nI_lti (b := 10) (by omega) (by omega)).mp hf
    have hc : (nI nH).toNatClampNeg = nH := cl (by omega)
    have ex : nI nH + 1 - 1 = nI nH := by rw [nI_s, nI_pr]
    refine ⟨in_nI hlt (by omega), KI.mk ⟨fun q => ?_, fun _ => ?_⟩⟩
    · rw [ex] at q
      exact absurd q (nlt0 (by omega))
    · rw [ex, hc, nI_s]
      refine ⟨in_nI hlt (by omega), PI.mk (M_X12_kitchen _ _ (w_X12_kitchen_0 _ _ ⟨fun _ => ⟨fun _ => ⟨fun q => ?_, fun _ => ?_⟩, fun q => absurd ob q⟩, fun q => absurd oa q⟩))⟩
      · rw [rd_wr, if_neg (by omega), rd_wr, if_neg (by omega), rd_wr, if_neg (by omega), t2] at q
        have := (nI_inj (b := 10) (by omega) (by omega)).mp q
        omega
      · rw [rd_wr, if_neg (by omega), rd_wr, if_neg (by omega), rd_wr, if_neg (by omega), t2, hc, ex, nI_s]
        refine ⟨in_nI hlt (by omega), KI.mk ⟨rfl, ?_⟩⟩
        have e1 : nI p / 100 = nI (p / 100) := nI_divn (b := 100) (by omega) (by omega)
        have e2 : nI p - nI p / 100 * 100 = nI (p % 100) := nI_modn (b := 100) (by omega) (by omega)
        rw [e2, e1]
        have n8 : IKit (wr (wr (wr (wr (wr (wr (wr σ 56 nH (nI p)) 55 1 (nI (nH + 1))) 57 nH (nI v)) 112 nH (nI (p / 100))) 113 nH (nI (p % 100))) 114 nH (nI v)) 59 70 (nI (nH + 1))) := by
          refine ⟨nH + 1, by omega, rfl, rfl, fun i hi => ?_⟩
          simp only [rd_wr]
          by_cases hin : i = nH
          · subst hin
            exact ⟨p, v, hp, hv, by simp, by simp, by simp, by simp, by simp⟩
          · simpa [hin] using t3 i (by omega)
        refine ⟨h, nS, nK, nB, i1.of ?_, i2.of ?_, i3.of ?_, i4.of ?_, i5.of ?_, i6.of ?_, i7.of ?_, n8, i9.of ?_, i10.of ?_, i11.of ?_, i12.of ?_, i13.of ?_, i14.of ?_⟩
        all_goals (repeat' (first | exact agr.rf | (refine agr.wr ?_ (by simp only [sHour, sShops, sKinds, sDays, sStep, sBatch, sSpoil, sKit, sTape, sLaws, sRows, sCuts, sBox, sCost]; omega))))
  · rw [t1] at hf
    have hge : ¬ nH < 10 := fun q => hf ((nI_lti (b := 10) (by omega) (by omega)).mpr q)
    have h12 : nH = 10 := by omega
    refine KI.mk ⟨fun _ => PI.mk (M_X12_kitchen _ _ (w_X12_kitchen_0 _ _ ⟨fun _ => ⟨fun _ => ⟨fun _ => KI.mk ⟨rfl, hI⟩, fun q => absurd ?_ q⟩, fun q => absurd ob q⟩, fun q => absurd oa q⟩)), fun q => absurd (by decide) q⟩
    rw [t2, h12]
    rfl
theorem P_kind (a b c e : Int32) (hI : Inv σ) : Meth Γ l (d + 1) mX11_kind [.ref 0, .int a, .int b, .int c, .int e] σ (PI Γ l (d + 1) mX12_kind [.ref 59, .int a, .int b, .int c, .int e]) := by
  obtain ⟨h, nS, nK, nB, i1, i2, i3, i4, i5, i6, i7, i8, i9, i10, i11, i12, i13, i14⟩ := id hI
  obtain ⟨zK, k1, k2, k3⟩ := id i3
  have bad : ¬ (((1 : Int32) ≤ a ∧ a ≤ 9999) ∧ ((0 : Int32) ≤ b ∧ b ≤ 9999) ∧ ((1 : Int32) ≤ c ∧ c ≤ 9999) ∧ ((0 : Int32) ≤ e ∧ e ≤ 1)) → bad1 σ Γ l (d + 1) mX12_kind [.ref 59, .int a, .int b, .int c, .int e] (-1) := fun hn => M_X12_kind _ _ _ _ (w_X12_kind_0 _ _ _ _ ⟨fun ha => ⟨fun hb => ⟨fun hc => ⟨fun he => absurd ⟨ha, hb, hc, he⟩ hn, fun _ => KI.mk ⟨rfl, hI⟩⟩, fun _ => KI.mk ⟨rfl, hI⟩⟩, fun _ => KI.mk ⟨rfl, hI⟩⟩, fun _ => KI.mk ⟨rfl, hI⟩⟩)
  refine M_X11_kind _ _ _ _ (w_X11_kind_0 _ _ _ _ ⟨fun ha => ⟨fun hb => ⟨fun hc => ⟨fun he => ?_, fun q => PI.mk (bad fun r => q r.2.2.2)⟩, fun q => PI.mk (bad fun r => q r.2.2.1)⟩, fun q => PI.mk (bad fun r => q r.2.1)⟩, fun q => PI.mk (bad fun r => q r.1)⟩)
  have up : ∀ {z : Int32}, (1 : Int32) ≤ z ∧ z ≤ 9999 → ∃ j, j ≤ 9999 ∧ z = nI j := by
    intro z hz
    refine rngL 9999 (by omega) ⟨?_, hz.2⟩
    have h1 := hz.1
    rw [ti_le] at h1 ⊢
    have e1 : (1 : Int32).toInt = 1 := rfl
    have e0 : (0 : Int32).toInt = 0 := rfl
    omega
  obtain ⟨p, hp, ep⟩ := up ha
  obtain ⟨v, hv, ev⟩ := rngL 9999 (by omega) hb
  obtain ⟨g, hg, eg⟩ := up hc
  obtain ⟨z, hz, ez⟩ := rngL 1 (by omega) he
  refine M_X5_add _ _ _ _ (w_X5_add_0 _ _ _ _ ⟨fun hf => ?_, fun hf => ?_⟩)
  · rw [k1] at hf ⊢
    have hlt : nK < 10 := (nI_lti (b := 10) (by omega) (by omega)).mp hf
    have hcl : (nI nK).toNatClampNeg = nK := cl (by omega)
    refine ⟨in_nI hlt (by omega), KI.mk (PI.mk (M_X12_kind _ _ _ _ (w_X12_kind_0 _ _ _ _ ⟨fun _ => ⟨fun _ => ⟨fun _ => ⟨fun _ => ⟨fun q => ?_, fun _ => ?_⟩, fun q => absurd he q⟩, fun q => absurd hc q⟩, fun q => absurd hb q⟩, fun q => absurd ha q⟩)))⟩
    · rw [rd_wr, if_neg (by omega), rd_wr, if_neg (by omega), rd_wr, if_neg (by omega), rd_wr, if_neg (by omega), rd_wr, if_neg (by omega), k2] at q
      have := (nI_inj (b := 10) (by omega) (by omega)).mp q
      omega
    · rw [rd_wr, if_neg (by omega), rd_wr, if_neg (by omega), rd_wr, if_neg (by omega), rd_wr, if_neg (by omega), rd_wr, if_neg (by omega), k2, hcl, nI_s]
      refine ⟨in_nI hlt (by omega), KI.mk ⟨rfl, ?_⟩⟩
      subst ep
      subst ev
      subst eg
      subst ez
      have n3 : IKinds (nK + 1) (wr (wr (wr (wr (wr (wr (wr (wr (wr (wr σ 12 nK (nI p)) 13 nK (nI v)) 14 nK (nI g)) 15 nK (nI z)) 11 5 (nI (nK + 1))) 63 nK (nI p)) 64 nK (nI v)) 65 nK (nI g)) 66 nK (nI z)) 59 6 (nI (nK + 1))) := by
        refine ⟨by omega, rfl, rfl, fun i hi => ?_⟩
        obtain ⟨p', c', g', z', t', q1, q2, q3, q4, q5, ⟨e1, e2, e3, e4, e5⟩, ⟨f1, f2, f3, f4, f5⟩⟩ := k3 i hi
        simp only [rd_wr]
        by_cases hin : i = nK
        · subst hin
          exact ⟨p, v, g, z, t', hp, hv, hg, hz, q5, by simp [e5], by simp [f5]⟩
        · exact ⟨p', c', g', z', t', q1, q2, q3, q4, q5, by simp [hin, e1, e2, e3, e4, e5], by simp [hin, f1, f2, f3, f4, f5]⟩
      refine ⟨h, nS, nK + 1, nB, i1.of ?_, i2.of ?_, n3, i4.of ?_, i5.of ?_, i6.of ?_, i7.of ?_, i8.of ?_, i9.of ?_, i10.of ?_, i11.of ?_, i12.of ?_, i13.of ?_, i14.of ?_⟩
      all_goals (repeat' (first | exact agr.rf | (refine agr.wr ?_ (by simp only [sHour, sShops, sKinds, sDays, sStep, sBatch, sSpoil, sKit, sTape, sLaws, sRows, sCuts, sBox, sCost]; omega))))
  · rw [k1] at hf
    have hge : ¬ nK < 10 := fun q => hf ((nI_lti (b := 10) (by omega) (by omega)).mpr q)
    have h12 : nK = 10 := by omega
    refine KI.mk (PI.mk (M_X12_kind _ _ _ _ (w_X12_kind_0 _ _ _ _ ⟨fun _ => ⟨fun _ => ⟨fun _ => ⟨fun _ => ⟨fun _ => KI.mk ⟨rfl, hI⟩, fun q => absurd ?_ q⟩, fun q => absurd he q⟩, fun q => absurd hc q⟩, fun q => absurd hb q⟩, fun q => absurd ha q⟩)))
    rw [k2, h12]
    rfl
/-- the first batch of a chain of moves -/
theorem S_firstOf {h : Nat} {n : Nat} (hn : n ≤ 200) (hB : ∀ b, b < n → IB h b σ) : ∀ m b, b < m → b < n → ∀ Q : Option Value → St → Prop, Q (some (.int (rd σ (b + 142) 12))) σ → J Γ l d mX12_firstOf Q 2 [(0, .ref 59), (2, .int (nI b))] [] σ := by
  intro m
  induction m with
  | zero => intro b hb; omega
  | succ m ih =>
    intro b hb hbn Q hq
    obtain ⟨s, k, lt, md, sh, so, mo, gi, th, -, -, -, -, -, h6⟩ := hB b hbn
    have hc : (nI b).toNatClampNeg = b := cl (by omega)
    refine w_X12_firstOf_2 _ ⟨in_nI (by omega) (by omega), ?_⟩
    rw [hc]
    rcases h6 with ⟨e1, e2, -⟩ | ⟨f, hf, e1, e2⟩
    · refine ⟨fun _ => ?_, fun c => absurd (by rw [e1]; decide) c⟩
      rw [e2] at hq
      exact hq
    · refine ⟨fun c => ?_, fun _ => ?_⟩
      · rw [e1] at c
        exact absurd c (nlt0 (by omega))
      · rw [e1]
        refine ih f (by omega) (by omega) Q ?_
        rw [e2] at hq
        exact hq
theorem P_ofBatch (a b : Int32) (hI : Inv σ) : Meth Γ l (d + 2) mX11_ofBatch [.ref 0, .int a, .int b] σ (PI Γ l (d + 2) mX12_ofBatch [.ref 59, .int a, .int b]) := by
  obtain ⟨h, nS, nK, nB, i1, i2, i3, i4, i5, i6, i7, i8, i9, i10, i11, i12, i13, i14⟩ := id hI
  obtain ⟨zB, b1, b2, b3, b4⟩ := id i6
  refine M_X11_ofBatch _ _ (w_X11_ofBatch_0 _ _ ⟨fun ha => ?_, fun ha => PI.mk (M_X12_ofBatch _ _ (w_X12_ofBatch_0 _ _ ⟨fun c => absurd ((cX b1).mpr ((cM (by omega) b2).mp c)) ha, fun _ => KI.mk ⟨rfl, hI⟩⟩))⟩)
  have c1 := (cX b1).mp ha
  have oM := (cM (n := nB) (by omega) b2).mpr c1
  obtain ⟨i, hi, rfl⟩ := rng nB (by omega) c1
  have hc : (nI i).toNatClampNeg = i := cl (by omega)
  obtain ⟨s, k, lt, md, sh, so, mo, gi, th, -, ⟨x0, x1, x2, x3, x4, x5, x6, x7, x8, x9⟩, ⟨y0, y1, y2, y3, y4, y5, y6, y7, y8⟩, z1, z2, z3⟩ := b3 i hi
  refine ⟨fun hb => ?_, fun hb => PI.mk (M_X12_ofBatch _ _ (w_X12_ofBatch_0 _ _ ⟨fun _ => ⟨fun p => ?_, fun p => ?_, fun p => ?_, fun p => ?_, fun p => ?_, fun p => ?_, fun p => ?_, fun p => ?_, fun p => ?_, fun p => ?_, fun p => ?_, fun p => ?_, fun p => ?_, fun _ _ _ _ _ _ _ _ _ _ _ _ _ => KI.mk ⟨rfl, hI⟩⟩, fun q => absurd oM q⟩))⟩
  · obtain ⟨v, hv, rfl⟩ := rngL 12 (by omega) hb
    refine ⟨in_nI (by omega) (by omega), in_nI (by omega) (by omega), PI.mk (M_X12_ofBatch _ _ (w_X12_ofBatch_0 _ _ ⟨fun _ => ?_, fun q => absurd oM q⟩))⟩
    have hcv : (nI v).toNatClampNeg = v := cl (by omega)
    rw [ti_nI (by omega), hc, hcv]
    have hin : vp_in (nI i) 200 := in_nI (by omega) (by omega)
    have fo : Meth Γ l (d + 1) mX12_firstOf [.ref 59, .int (nI i)] σ (KI fun x14 σ13 => (KI fun y σ2 => y = rd σ (i + 142) 12 ∧ Inv σ2) (some (.int x14)) σ13) := M_X12_firstOf _ (w_X12_firstOf_0 _ (S_firstOf zB b3 (i + 1) i (by omega) hi _ (KI.mk (KI.mk ⟨rfl, hI⟩))))
    refine ⟨fun p => ⟨hin, KI.mk ⟨?_, hI⟩⟩, fun p => ⟨hin, KI.mk ⟨?_, hI⟩⟩, fun p => ⟨hin, KI.mk ⟨?_, hI⟩⟩, fun p => ⟨hin, KI.mk ⟨?_, hI⟩⟩, fun p => ⟨hin, KI.mk ⟨?_, hI⟩⟩, fun p => ⟨hin, KI.mk ⟨?_, hI⟩⟩, fun p => ⟨hin, KI.mk ⟨?_, hI⟩⟩, fun p => ⟨hin, KI.mk ⟨?_, hI⟩⟩, fun p => ⟨hin, KI.mk ⟨?_, hI⟩⟩, fun p => ⟨hin, KI.mk ⟨?_, hI⟩⟩, fun p => ⟨hin, KI.mk ⟨?_, hI⟩⟩, fun p => ⟨hin, KI.mk ⟨?_, hI⟩⟩, fun p => ?_, fun p0 p1 p2 p3 p4 p5 p6 p7 p8 p9 p10 p11 p12 => ?_⟩
    case refine_13 =>
      have : v = 12 := by omega
      subst this
      exact fo
    case refine_14 => omega
    · obtain rfl : v = 0 := by omega
      rw [x0, y0]
    · obtain rfl : v = 1 := by omega
      rw [x1, y1]
    · obtain rfl : v = 2 := by omega
      rw [x2, y2]
    · obtain rfl : v = 3 := by omega
      rw [x3, y3]
    · obtain rfl : v = 4 := by omega
      rw [x4, y4]
    · obtain rfl : v = 5 := by omega
      rw [y4, y5, y6, y7, y8, x5]
      exact shelf_eq
    · obtain rfl : v = 6 := by omega
      rw [x6, y5]
    · obtain rfl : v = 7 := by omega
      rw [x7, y6]
    · obtain rfl : v = 8 := by omega
      rw [x8, y7]
    · obtain rfl : v = 9 := by omega
      rw [x9, y8]
    · obtain rfl : v = 10 := by omega
      exact z1.symm
    · obtain rfl : v = 11 := by omega
      exact z2.symm
  all_goals
    refine absurd ?_ hb
    rw [ti_le, ti_le, p]
    exact ⟨by decide, by decide⟩
end P3

/-! PAIRS: the simple calls -/
theorem cM {a r : Int32} {n : Nat} (hn : n < 2147483648) (e : r = nI n) : (0 ≤ a ∧ a ≤ r - 1) ↔ (0 ≤ a ∧ a < nI n) := by rw [e, pred_iff hn]
theorem cX {a r : Int32} {n : Nat} (e : r = nI n) : (0 ≤ a ∧ a < r) ↔ (0 ≤ a ∧ a < nI n) := by rw [e]
theorem cL {a : Int32} (n : Nat) (hn : n + 1 < 2147483648) : (0 ≤ a ∧ a ≤ nI n) ↔ (0 ≤ a ∧ a < nI (n + 1)) := by rw [succ_iff hn]
section PR
variable {Γ : GG} {l : Launch} {d : Nat} {σ : St}
abbrev bad1 (σ : St) (Γ : GG) (l : Launch) (d : Nat) (M : MD) (As : List Value) (r : Int32) : Prop := Meth Γ l d M As σ (KI fun y σ2 => y = r ∧ Inv σ2)
theorem P_weather (a b : Int32) (hI : Inv σ) : Meth Γ l (d + 1) mX11_weather [.ref 0, .int a, .int b] σ (PI Γ l (d + 2) mX12_weather [.ref 59, .int a, .int b]) := by
  obtain ⟨h, nS, nK, nB, i1, i2, i3, i4, i5, i6, i7, i8, i9, i10, i11, i12, i13, i14⟩ := id hI
  have bad : ¬ (((0 : Int32) ≤ a ∧ a < 1500) ∧ ((0 : Int32) ≤ b ∧ b < 3)) → bad1 σ Γ l (d + 2) mX12_weather [.ref 59, .int a, .int b] (-1) := by
    intro hn
    refine M_X12_weather _ _ (w_X12_weather_0 _ _ ?_)
    refine ⟨fun ha => ⟨fun hb => ?_, fun hb => KI.mk ⟨rfl, hI⟩⟩, fun ha => KI.mk ⟨rfl, hI⟩⟩
    exact absurd ⟨(cL 1499 (by omega)).mp ha, (cL 2 (by omega)).mp hb⟩ hn
  refine M_X11_weather _ _ (w_X11_weather_0 _ _ ⟨fun ha => ⟨fun hb => ?_, fun hb => PI.mk (bad fun c => hb c.2)⟩, fun ha => PI.mk (bad fun c => ha c.1)⟩)
  obtain ⟨i, hi, rfl⟩ := rng 1500 (by omega) ha
  obtain ⟨v, hv, rfl⟩ := rng 3 (by omega) hb
  obtain ⟨⟨w, hw, e1, e2⟩, e3⟩ := i4 i hi
  have hc : (nI i).toNatClampNeg = i := cl (by omega)
  refine ⟨in_nI hi (by omega), PI.mk (M_X12_weather _ _ (w_X12_weather_0 _ _ ⟨fun _ => ⟨fun _ => ?_, fun c => absurd (rng_le (n := 2) (by omega) (by omega)) c⟩, fun c => absurd (rng_le (n := 1499) (by omega) (by omega)) c⟩))⟩
  refine ⟨in_nI hi (by omega), KI.mk ⟨?_, ?_⟩⟩
  · rw [rd_wr, if_neg (by omega), hc, e1, e2]
  · rw [hc]
    have n4 : IDays (wr (wr σ 2 i (nI v)) 68 i (nI v)) := by
      intro j hj
      simp only [rd_wr]
      by_cases hij : j = i
      · subst hij
        exact ⟨⟨v, hv, by simp, by simp⟩, by simpa using e3⟩
      · simpa [hij] using i4 j hj
    refine ⟨h, nS, nK, nB, i1.of ?_, i2.of ?_, i3.of ?_, n4, i5.of ?_, i6.of ?_, i7.of ?_, i8.of ?_, i9.of ?_, i10.of ?_, i11.of ?_, i12.of ?_, i13.of ?_, i14.of ?_⟩
    all_goals (repeat' (first | exact agr.rf | (refine agr.wr ?_ (by simp only [sHour, sShops, sKinds, sDays, sStep, sBatch, sSpoil, sKit, sTape, sLaws, sRows, sCuts, sBox, sCost]; omega))))
theorem P_throwing (a b : Int32) (hI : Inv σ) : Meth Γ l (d + 2) mX11_throwing [.ref 0, .int a, .int b] σ (PI Γ l (d + 2) mX12_throwing [.ref 59, .int a, .int b]) := by
  obtain ⟨h, nS, nK, nB, i1, i2, i3, i4, i5, i6, i7, i8, i9, i10, i11, i12, i13, i14⟩ := id hI
  obtain ⟨zK, k1, k2, k3⟩ := id i3
  have bad : ¬ ((0 ≤ a ∧ a < nI nK) ∧ ((0 : Int32) ≤ b ∧ b ≤ 9999)) → bad1 σ Γ l (d + 2) mX12_throwing [.ref 59, .int a, .int b] (-1) := fun hn => M_X12_throwing _ _ (w_X12_throwing_0 _ _ ⟨fun ha => ⟨fun hb => absurd ⟨(cM (by omega) k2).mp ha, hb⟩ hn, fun _ => KI.mk ⟨rfl, hI⟩⟩, fun _ => KI.mk ⟨rfl, hI⟩⟩)
  refine M_X11_throwing _ _ (w_X11_throwing_0 _ _ ⟨fun ha => ⟨fun hb => ?_, fun hb => PI.mk (bad fun c => hb c.2)⟩, fun ha => PI.mk (bad fun c => ha ((cX k1).mpr c.1))⟩)
  obtain ⟨i, hi, rfl⟩ := rng nK (by omega) ((cX k1).mp ha)
  obtain ⟨v, hv, rfl⟩ := rngL 9999 (by omega) hb
  have hc : (nI i).toNatClampNeg = i := cl (by omega)
  obtain ⟨p, c, g, z, t, q1, q2, q3, q4, q5, ⟨e1, e2, e3, e4, e5⟩, ⟨f1, f2, f3, f4, f5⟩⟩ := k3 i (by omega)
  refine ⟨in_nI (by omega) (by omega), PI.mk (M_X12_throwing _ _ (w_X12_throwing_0 _ _ ⟨fun _ => ⟨fun _ => ?_, fun c => absurd hb c⟩, fun c => absurd ((cM (n := nK) (by omega) k2).mpr (rng_lt (by omega) (by omega))) c⟩))⟩
  refine ⟨in_nI (by omega) (by omega), KI.mk ⟨?_, ?_⟩⟩
  · rw [rd_wr, if_neg (by omega), hc, e5, f5]
  · rw [hc]
    have n3 : IKinds nK (wr (wr σ 16 i (nI v)) 67 i (nI v)) := by
      refine ⟨zK, k1, k2, fun j hj => ?_⟩
      simp only [rd_wr]
      by_cases hij : j = i
      · subst hij
        exact ⟨p, c, g, z, v, q1, q2, q3, q4, hv, by simp [e1, e2, e3, e4], by simp [f1, f2, f3, f4]⟩
      · simpa [hij] using k3 j hj
    refine ⟨h, nS, nK, nB, i1.of ?_, i2.of ?_, n3, i4.of ?_, i5.of ?_, i6.of ?_, i7.of ?_, i8.of ?_, i9.of ?_, i10.of ?_, i11.of ?_, i12.of ?_, i13.of ?_, i14.of ?_⟩
    all_goals (repeat' (first | exact agr.rf | (refine agr.wr ?_ (by simp only [sHour, sShops, sKinds, sDays, sStep, sBatch, sSpoil, sKit, sTape, sLaws, sRows, sCuts, sBox, sCost]; omega))))
theorem P_tossed (a : Int32) (hI : Inv σ) : Meth Γ l (d + 1) mX11_tossed [.ref 0, .int a] σ (PI Γ l (d + 2) mX12_tossed [.ref 59, .int a]) := by
  obtain ⟨h, nS, nK, nB, i1, i2, i3, i4, i5, i6, i7, i8, i9, i10, i11, i12, i13, i14⟩ := id hI
  refine M_X11_tossed _ (w_X11_tossed_0 _ ⟨fun c => ?_, fun c => PI.mk (M_X12_tossed _ (w_X12_tossed_0 _ ⟨fun c' => absurd ((cL 1499 (by omega)).mp c') c, fun _ => KI.mk ⟨rfl, hI⟩⟩))⟩)
  obtain ⟨i, hi, rfl⟩ := rng 1500 (by omega) c
  refine ⟨in_nI hi (by omega), PI.mk (M_X12_tossed _ (w_X12_tossed_0 _ ⟨fun _ => ⟨in_nI hi (by omega), KI.mk ⟨?_, hI⟩⟩, fun c' => absurd ((cL 1499 (by omega)).mpr c) c'⟩))⟩
  rw [cl (by omega)]
  exact (i4 i hi).2
theorem P_till (a : Int32) (hI : Inv σ) : Meth Γ l (d + 2) mX11_till [.ref 0, .int a] σ (PI Γ l (d + 2) mX12_till [.ref 59, .int a]) := by
  obtain ⟨h, nS, nK, nB, i1, i2, i3, i4, i5, i6, i7, i8, i9, i10, i11, i12, i13, i14⟩ := id hI
  obtain ⟨zS, s1, s2, s3, s4, s5, s6⟩ := id i2
  refine M_X11_till _ (w_X11_till_0 _ ⟨fun c => ?_, fun c => PI.mk (M_X12_till _ (w_X12_till_0 _ ⟨fun c' => absurd ((cX s1).mpr ((cM (by omega) s2).mp c')) c, fun _ => KI.mk ⟨rfl, hI⟩⟩))⟩)
  have c1 := (cX s1).mp c
  obtain ⟨i, hi, rfl⟩ := rng nS (by omega) c1
  refine ⟨in_nI (by omega) (by omega), PI.mk (M_X12_till _ (w_X12_till_0 _ ⟨fun _ => ⟨in_nI (by omega) (by omega), KI.mk ⟨?_, hI⟩⟩, fun c' => absurd ((cM (n := nS) (by omega) s2).mpr c1) c'⟩))⟩
  rw [cl (by omega)]
  exact s4 i (by omega)
theorem P_left (hI : Inv σ) : Meth Γ l d mX11_left [.ref 0] σ (PI Γ l d mX12_left [.ref 59]) := by
  obtain ⟨h, nS, nK, nB, i1, i2, i3, i4, i5, i6, i7, i8, i9, i10, i11, i12, i13, i14⟩ := id hI
  rcases id i12 with ⟨c1, c2⟩ | ⟨c1, f, c2, c3, c4, c5, c6, c7⟩
  · refine M_X11_left (w_X11_left_0 ⟨fun _ => PI.mk (M_X12_left (w_X12_left_0 ⟨fun c => ?_, fun _ => KI.mk ⟨rfl, hI⟩⟩)), fun c => absurd c1 c⟩)
    rw [c2] at c
    exact absurd c (by decide)
  · refine M_X11_left (w_X11_left_0 ⟨fun c => ?_, fun _ => PI.mk (M_X12_left (w_X12_left_0 ⟨fun _ => KI.mk ⟨c6.symm, hI⟩, fun c => absurd ?_ c⟩))⟩)
    · rw [c1] at c
      exact absurd c (by decide)
    · rw [c5]
      exact (nI_lei (b := 19) (by omega) (by omega)).mpr c3
theorem P_planned (a : Int32) (hI : Inv σ) : Meth Γ l (d + 1) mX11_planned [.ref 0, .int a] σ (PI Γ l (d + 1) mX12_planned [.ref 59, .int a]) := by
  obtain ⟨h, nS, nK, nB, i1, i2, i3, i4, i5, i6, i7, i8, i9, i10, i11, i12, i13, i14⟩ := id hI
  rcases id i12 with ⟨c1, c2⟩ | ⟨c1, f, c2, c3, c4, c5, c6, c7⟩
  · refine M_X11_planned _ (w_X11_planned_0 _ ⟨fun _ => PI.mk (M_X12_planned _ (w_X12_planned_0 _ ⟨fun c => ?_, fun _ => KI.mk ⟨rfl, hI⟩⟩)), fun c => absurd c1 c⟩)
    rw [c2, ti_le, ti_le] at c
    have e1 : (24 : Int32).toInt = 24 := rfl
    have e2 : (19 : Int32).toInt = 19 := rfl
    omega
  · refine M_X11_planned _ (w_X11_planned_0 _ ⟨fun c => ?_, fun _ => ⟨fun c => ?_, fun c => PI.mk (M_X12_planned _ (w_X12_planned_0 _ ⟨fun c' => absurd (by rw [c4]; rw [c5] at c'; exact c') c, fun _ => KI.mk ⟨rfl, hI⟩⟩))⟩⟩)
    · rw [c1] at c
      exact absurd c (by decide)
    · have c' := c
      rw [c4] at c'
      obtain ⟨t, ht, rfl⟩ : ∃ t, t ≤ 19 ∧ a = nI t := by
        refine rngL 19 (by omega) ⟨?_, c'.2⟩
        have h1 := c'.1
        rw [ti_le, ti_nI (by omega)] at h1
        rw [ti_le]
        have e1 : (0 : Int32).toInt = 0 := rfl
        omega
      have hft : f ≤ t := (nI_lei (by omega) (by omega)).mp c'.1
      have e6 : nI t - 6 = nI (t - 6) := nI_subn (a := t) (b := 6) (by omega)
      rw [e6]
      refine ⟨in_nI (by omega) (by omega), PI.mk (M_X12_planned _ (w_X12_planned_0 _ ⟨fun _ => ⟨in_nI (by omega) (by omega), KI.mk ⟨?_, hI⟩⟩, fun c => absurd (by rw [c5]; exact c') c⟩))⟩
      rw [cl (by omega), cl (by omega)]
      exact (c7 t hft ht).symm
theorem P_step (a b : Int32) (hI : Inv σ) : Meth Γ l (d + 3) mX11_step [.ref 0, .int a, .int b] σ (PI Γ l (d + 3) mX12_step [.ref 59, .int a, .int b]) := by
  obtain ⟨h, nS, nK, nB, i1, i2, i3, i4, i5, i6, i7, i8, i9, i10, i11, i12, i13, i14⟩ := id hI
  obtain ⟨zS, s1, s2, s3, s4, s5, s6⟩ := id i2
  obtain ⟨zK, k1, k2, k3⟩ := id i3
  refine M_X11_step _ _ (w_X11_step_0 _ _ ⟨fun c => ?_, fun c => PI.mk (M_X12_step _ _ (w_X12_step_0 _ _ ⟨fun c' => absurd ⟨(cX s1).mpr ((cM (by omega) s2).mp c'.1), (cX k1).mpr ((cM (by omega) k2).mp c'.2)⟩ c, fun _ => KI.mk ⟨rfl, hI⟩⟩))⟩)
  have c1 := (cX s1).mp c.1
  have c2 := (cX k1).mp c.2
  obtain ⟨i, hi, rfl⟩ := rng nS (by omega) c1
  obtain ⟨j, hj, rfl⟩ := rng nK (by omega) c2
  obtain ⟨⟨t, ht, e1, e2⟩, -⟩ := i5 i j (by omega) (by omega)
  have ex : (10 : Int32) * nI i + nI j = nI (10 * i + j) := by rw [show (10 : Int32) = nI 10 from rfl, nI_muln, nI_addn]
  refine ⟨in_nI (by omega) (by omega), in_nI (by omega) (by omega), PI.mk (M_X12_step _ _ (w_X12_step_0 _ _ ⟨fun _ => ?_, fun c' => absurd ⟨(cM (n := nS) (by omega) s2).mpr c1, (cM (n := nK) (by omega) k2).mpr c2⟩ c'⟩))⟩
  rw [ex]
  refine ⟨in_nI (by omega) (by omega), KI.mk ⟨?_, hI⟩⟩
  rw [cl (by omega), cl (by omega), cl (by omega), e1, e2]
theorem P_cut (a b v : Int32) (hI : Inv σ) : Meth Γ l (d + 3) mX11_cut [.ref 0, .int a, .int b, .int v] σ (PI Γ l (d + 3) mX12_cut [.ref 59, .int a, .int b, .int v]) := by
  obtain ⟨h, nS, nK, nB, i1, i2, i3, i4, i5, i6, i7, i8, i9, i10, i11, i12, i13, i14⟩ := id hI
  obtain ⟨zS, s1, s2, s3, s4, s5, s6⟩ := id i2
  obtain ⟨zK, k1, k2, k3⟩ := id i3
  have bad : ¬ (((0 ≤ a ∧ a < nI nS) ∧ 0 ≤ b ∧ b < nI nK) ∧ ((0 : Int32) ≤ v ∧ v < 4)) → bad1 σ Γ l (d + 3) mX12_cut [.ref 59, .int a, .int b, .int v] (-1) := fun hn => M_X12_cut _ _ _ (w_X12_cut_0 _ _ _ ⟨fun ha => ⟨fun hb => absurd ⟨⟨(cM (by omega) s2).mp ha.1, (cM (by omega) k2).mp ha.2⟩, (cL 3 (by omega)).mp hb⟩ hn, fun _ => KI.mk ⟨rfl, hI⟩⟩, fun _ => KI.mk ⟨rfl, hI⟩⟩)
  refine M_X11_cut _ _ _ (w_X11_cut_0 _ _ _ ⟨fun ha => ⟨fun hb => ?_, fun hb => PI.mk (bad fun c => hb c.2)⟩, fun ha => PI.mk (bad fun c => ha ⟨(cX s1).mpr c.1.1, (cX k1).mpr c.1.2⟩)⟩)
  have c1 := (cX s1).mp ha.1
  have c2 := (cX k1).mp ha.2
  obtain ⟨i, hi, rfl⟩ := rng nS (by omega) c1
  obtain ⟨j, hj, rfl⟩ := rng nK (by omega) c2
  obtain ⟨w, hw, rfl⟩ := rng 4 (by omega) hb
  obtain ⟨⟨t, ht, e1, e2⟩, -⟩ := i5 i j (by omega) (by omega)
  have ex : (10 : Int32) * nI i + nI j = nI (10 * i + j) := by rw [show (10 : Int32) = nI 10 from rfl, nI_muln, nI_addn]
  have ci : (nI i).toNatClampNeg = i := cl (by omega)
  have cj : (nI j).toNatClampNeg = j := cl (by omega)
  have cij : (nI (10 * i + j)).toNatClampNeg = 10 * i + j := cl (by omega)
  have oM := (cM (n := nS) (by omega) s2).mpr c1
  have oK := (cM (n := nK) (by omega) k2).mpr c2
  refine ⟨in_nI (by omega) (by omega), in_nI (by omega) (by omega), fun x hx => ?_⟩
  rw [ci, cj, e1] at hx
  subst hx
  rw [ci, cj]
  refine ⟨fun hlt => PI.mk (M_X12_cut _ _ _ (w_X12_cut_0 _ _ _ ⟨fun _ => ⟨fun _ => ?_, fun c => absurd ((cL 3 (by omega)).mpr hb) c⟩, fun c => absurd ⟨oM, oK⟩ c⟩)), fun hlt => PI.mk (M_X12_cut _ _ _ (w_X12_cut_0 _ _ _ ⟨fun _ => ⟨fun _ => ?_, fun c => absurd ((cL 3 (by omega)).mpr hb) c⟩, fun c => absurd ⟨oM, oK⟩ c⟩))⟩
  · rw [ex]
    refine ⟨in_nI (by omega) (by omega), fun x hx => ?_⟩
    rw [cij, rd_wr, if_neg (by omega), e2] at hx
    subst hx
    rw [cij]
    refine ⟨fun _ => KI.mk ⟨rfl, ?_⟩, fun c => absurd hlt c⟩
    have n5 : IStep (wr (wr σ (i + 118) j (nI w)) 69 (10 * i + j) (nI w)) := by
      intro s k hs hk
      obtain ⟨⟨t', ht', g1, g2⟩, ⟨w', hw', g3, g4⟩⟩ := i5 s k hs hk
      simp only [rd_wr]
      refine ⟨?_, w', hw', ?_, ?_⟩
      · by_cases hsk : s = i ∧ k = j
        · obtain ⟨rfl, rfl⟩ := hsk
          exact ⟨w, hw, by rw [if_neg (by omega), if_pos (by omega)], by simp⟩
        · exact ⟨t', ht', by rw [if_neg (by omega), if_neg (by omega)]; exact g1, by rw [if_neg (by omega), if_neg (by omega)]; exact g2⟩
      · rw [if_neg (by omega), if_neg (by omega)]; exact g3
      · rw [if_neg (by omega), if_neg (by omega)]; exact g4
    refine ⟨h, nS, nK, nB, i1.of ?_, i2.of ?_, i3.of ?_, i4.of ?_, n5, i6.of ?_, i7.of ?_, i8.of ?_, i9.of ?_, i10.of ?_, i11.of ?_, i12.of ?_, i13.of ?_, i14.of ?_⟩
    all_goals (repeat' (first | exact agr.rf | (refine agr.wr ?_ (by simp only [sHour, sShops, sKinds, sDays, sStep, sBatch, sSpoil, sKit, sTape, sLaws, sRows, sCuts, sBox, sCost]; omega))))
  · rw [ex]
    refine ⟨in_nI (by omega) (by omega), fun x hx => ?_⟩
    rw [cij, e2] at hx
    subst hx
    exact ⟨fun c => absurd c hlt, fun _ => KI.mk ⟨rfl, hI⟩⟩
theorem P_warm (a b v : Int32) (hI : Inv σ) : Meth Γ l (d + 3) mX11_warm [.ref 0, .int a, .int b, .int v] σ (PI Γ l (d + 3) mX12_warm [.ref 59, .int a, .int b, .int v]) := by
  obtain ⟨h, nS, nK, nB, i1, i2, i3, i4, i5, i6, i7, i8, i9, i10, i11, i12, i13, i14⟩ := id hI
  obtain ⟨zS, s1, s2, s3, s4, s5, s6⟩ := id i2
  obtain ⟨zK, k1, k2, k3⟩ := id i3
  have bad : ¬ (((0 ≤ a ∧ a < nI nS) ∧ 0 ≤ b ∧ b < nI nK) ∧ ((0 : Int32) ≤ v ∧ v ≤ 24)) → bad1 σ Γ l (d + 3) mX12_warm [.ref 59, .int a, .int b, .int v] (-1) := fun hn => M_X12_warm _ _ _ (w_X12_warm_0 _ _ _ ⟨fun ha => ⟨fun hb => absurd ⟨⟨(cM (by omega) s2).mp ha.1, (cM (by omega) k2).mp ha.2⟩, hb⟩ hn, fun _ => KI.mk ⟨rfl, hI⟩⟩, fun _ => KI.mk ⟨rfl, hI⟩⟩)
  refine M_X11_warm _ _ _ (w_X11_warm_0 _ _ _ ⟨fun ha => ⟨fun hb => ?_, fun hb => PI.mk (bad fun c => hb c.2)⟩, fun ha => PI.mk (bad fun c => ha ⟨(cX s1).mpr c.1.1, (cX k1).mpr c.1.2⟩)⟩)
  have c1 := (cX s1).mp ha.1
  have c2 := (cX k1).mp ha.2
  obtain ⟨i, hi, rfl⟩ := rng nS (by omega) c1
  obtain ⟨j, hj, rfl⟩ := rng nK (by omega) c2
  obtain ⟨w, hw, rfl⟩ := rngL 24 (by omega) hb
  obtain ⟨-, ⟨t, ht, e1, e2⟩⟩ := i5 i j (by omega) (by omega)
  have ex : (10 : Int32) * nI i + nI j = nI (10 * i + j) := by rw [show (10 : Int32) = nI 10 from rfl, nI_muln, nI_addn]
  have ci : (nI i).toNatClampNeg = i := cl (by omega)
  have cj : (nI j).toNatClampNeg = j := cl (by omega)
  have cij : (nI (10 * i + j)).toNatClampNeg = 10 * i + j := cl (by omega)
  have oM := (cM (n := nS) (by omega) s2).mpr c1
  have oK := (cM (n := nK) (by omega) k2).mpr c2
  refine ⟨in_nI (by omega) (by omega), in_nI (by omega) (by omega), fun x hx => ?_⟩
  rw [ci, cj, e1] at hx
  subst hx
  rw [ci, cj]
  refine PI.mk (M_X12_warm _ _ _ (w_X12_warm_0 _ _ _ ⟨fun _ => ⟨fun _ => ?_, fun c => absurd hb c⟩, fun c => absurd ⟨oM, oK⟩ c⟩))
  rw [ex]
  refine ⟨in_nI (by omega) (by omega), fun x hx => ?_⟩
  rw [cij, rd_wr, if_neg (by omega), e2] at hx
  subst hx
  rw [cij]
  refine KI.mk ⟨rfl, ?_⟩
  have n5 : IStep (wr (wr σ (i + 130) j (nI w)) 70 (10 * i + j) (nI w)) := by
    intro s k hs hk
    obtain ⟨⟨t', ht', g1, g2⟩, ⟨w', hw', g3, g4⟩⟩ := i5 s k hs hk
    simp only [rd_wr]
    refine ⟨⟨t', ht', ?_, ?_⟩, ?_⟩
    · rw [if_neg (by omega), if_neg (by omega)]; exact g1
    · rw [if_neg (by omega), if_neg (by omega)]; exact g2
    · by_cases hsk : s = i ∧ k = j
      · obtain ⟨rfl, rfl⟩ := hsk
        exact ⟨w, hw, by rw [if_neg (by omega), if_pos (by omega)], by simp⟩
      · exact ⟨w', hw', by rw [if_neg (by omega), if_neg (by omega)]; exact g3, by rw [if_neg (by omega), if_neg (by omega)]; exact g4⟩
  refine ⟨h, nS, nK, nB, i1.of ?_, i2.of ?_, i3.of ?_, i4.of ?_, n5, i6.of ?_, i7.of ?_, i8.of ?_, i9.of ?_, i10.of ?_, i11.of ?_, i12.of ?_, i13.of ?_, i14.of ?_⟩
  all_goals (repeat' (first | exact agr.rf | (refine agr.wr ?_ (by simp only [sHour, sShops, sKinds, sDays, sStep, sBatch, sSpoil, sKit, sTape, sLaws, sRows, sCuts, sBox, sCost]; omega))))
theorem P_drawn (a b : Int32) (hI : Inv σ) : Meth Γ l (d + 2) mX11_drawn [.ref 0, .int a, .int b] σ (PI Γ l (d + 2) mX12_drawn [.ref 59, .int a, .int b]) := by
  obtain ⟨h, nS, nK, nB, i1, i2, i3, i4, i5, i6, i7, i8, i9, i10, i11, i12, i13, i14⟩ := id hI
  obtain ⟨zS, s1, s2, s3, s4, s5, s6⟩ := id i2
  have bad : ¬ ((0 ≤ a ∧ a < nI nS) ∧ ((-1 : Int32) ≤ b ∧ b ≤ 1)) → bad1 σ Γ l (d + 2) mX12_drawn [.ref 59, .int a, .int b] (-2) := fun hn => M_X12_drawn _ _ (w_X12_drawn_0 _ _ ⟨fun ha => ⟨fun hb => absurd ⟨(cM (by omega) s2).mp ha, hb⟩ hn, fun _ => KI.mk ⟨rfl, hI⟩⟩, fun _ => KI.mk ⟨rfl, hI⟩⟩)
  refine M_X11_drawn _ _ (w_X11_drawn_0 _ _ ⟨fun ha => ⟨fun hb => ?_, fun hb => PI.mk (bad fun c => hb c.2)⟩, fun ha => PI.mk (bad fun c => ha ((cX s1).mpr c.1))⟩)
  have c1 := (cX s1).mp ha
  obtain ⟨i, hi, rfl⟩ := rng nS (by omega) c1
  have hc : (nI i).toNatClampNeg = i := cl (by omega)
  have hb3 : b = -1 ∨ b = 0 ∨ b = 1 := by
    have h1 := hb
    rw [ti_le, ti_le] at h1
    have e1 : (-1 : Int32).toInt = -1 := rfl
    have e2 : (1 : Int32).toInt = 1 := rfl
    have e3 : (0 : Int32).toInt = 0 := rfl
    rcases (show b.toInt = -1 ∨ b.toInt = 0 ∨ b.toInt = 1 by omega) with h | h | h
    · exact Or.inl (ti_eq (by omega))
    · exact Or.inr (Or.inl (ti_eq (by omega)))
    · exact Or.inr (Or.inr (ti_eq (by omega)))
  refine ⟨in_nI (by omega) (by omega), PI.mk (M_X12_drawn _ _ (w_X12_drawn_0 _ _ ⟨fun _ => ⟨fun _ => ?_, fun c => absurd hb c⟩, fun c => absurd ((cM (n := nS) (by omega) s2).mpr c1) c⟩))⟩
  refine ⟨in_nI (by omega) (by omega), KI.mk ⟨?_, ?_⟩⟩
  · rw [rd_wr, if_neg (by omega), hc]
    exact (s5 i hi).1
  · rw [hc]
    have n2 : IShops nS (wr (wr σ 8 i b) 110 i b) := by
      refine ⟨zS, s1, s2, s3, s4, fun j hj => ?_, fun j hj hj2 => ?_⟩
      · simp only [rd_wr]
        by_cases hij : j = i
        · subst hij
          simp [hb3]
        · simpa [hij] using s5 j hj
      · simp only [rd_wr]
        rw [if_neg (by omega), if_neg (by omega)]
        exact s6 j hj hj2
    refine ⟨h, nS, nK, nB, i1.of ?_, n2, i3.of ?_, i4.of ?_, i5.of ?_, i6.of ?_, i7.of ?_, i8.of ?_, i9.of ?_, i10.of ?_, i11.of ?_, i12.of ?_, i13.of ?_, i14.of ?_⟩
    all_goals (repeat' (first | exact agr.rf | (refine agr.wr ?_ (by simp only [sHour, sShops, sKinds, sDays, sStep, sBatch, sSpoil, sKit, sTape, sLaws, sRows, sCuts, sBox, sCost]; omega))))
theorem P_crates (a b v : Int32) (hI : Inv σ) : Meth Γ l (d + 2) mX11_crates [.ref 0, .int a, .int b, .int v] σ (PI Γ l (d + 2) mX12_crates [.ref 59, .int a, .int b, .int v]) := by
  obtain ⟨h, nS, nK, nB, i1, i2, i3, i4, i5, i6, i7, i8, i9, i10, i11, i12, i13, i14⟩ := id hI
  obtain ⟨zS, s1, s2, s3, s4, s5, s6⟩ := id i2
  have bad : ¬ ((0 ≤ a ∧ a < nI nS) ∧ ((0 : Int32) ≤ b ∧ b ≤ 1) ∧ ((0 : Int32) ≤ v ∧ v ≤ 3)) → bad1 σ Γ l (d + 2) mX12_crates [.ref 59, .int a, .int b, .int v] (-1) := fun hn => M_X12_crates _ _ _ (w_X12_crates_0 _ _ _ ⟨fun ha => ⟨fun hb => ⟨fun hv => absurd ⟨(cM (by omega) s2).mp ha, hb, hv⟩ hn, fun _ => KI.mk ⟨rfl, hI⟩⟩, fun _ => KI.mk ⟨rfl, hI⟩⟩, fun _ => KI.mk ⟨rfl, hI⟩⟩)
  refine M_X11_crates _ _ _ (w_X11_crates_0 _ _ _ ⟨fun ha => ⟨fun hb => ⟨fun hv => ?_, fun hv => PI.mk (bad fun c => hv c.2.2)⟩, fun hb => PI.mk (bad fun c => hb c.2.1)⟩, fun ha => PI.mk (bad fun c => ha ((cX s1).mpr c.1))⟩)
  have c1 := (cX s1).mp ha
  obtain ⟨i, hi, rfl⟩ := rng nS (by omega) c1
  obtain ⟨w, hw, rfl⟩ := rngL 3 (by omega) hv
  have hc : (nI i).toNatClampNeg = i := cl (by omega)
  have oM := (cM (n := nS) (by omega) s2).mpr c1
  obtain ⟨⟨x1, y1, e1, e2⟩, ⟨x2, y2, e3, e4⟩, -⟩ := i13.1 i (by omega)
  rw [hc]
  refine ⟨fun hz => ⟨in_nI (by omega) (by omega), PI.mk (M_X12_crates _ _ _ (w_X12_crates_0 _ _ _ ⟨fun _ => ⟨fun _ => ⟨fun _ => ⟨fun _ => ⟨in_nI (by omega) (by omega), fun _ => KI.mk ⟨?_, ?_⟩, fun c => absurd hz c⟩, fun c => absurd hz c⟩, fun c => absurd hv c⟩, fun c => absurd hb c⟩, fun c => absurd oM c⟩))⟩, fun hz => ⟨in_nI (by omega) (by omega), PI.mk (M_X12_crates _ _ _ (w_X12_crates_0 _ _ _ ⟨fun _ => ⟨fun _ => ⟨fun _ => ⟨fun c => absurd c hz, fun _ => ⟨in_nI (by omega) (by omega), fun c => absurd c hz, fun _ => KI.mk ⟨?_, ?_⟩⟩⟩, fun c => absurd hv c⟩, fun c => absurd hb c⟩, fun c => absurd oM c⟩))⟩⟩
  · rw [rd_wr, if_neg (by omega), hc, e1, e2]
  · rw [hc]
    have n13 : IBox nS (wr (wr σ 50 i (nI w)) 104 i (nI w)) := by
      refine ⟨fun j hj => ?_, i13.2⟩
      simp only [rd_wr]
      by_cases hij : j = i
      · subst hij
        exact ⟨⟨w, hw, by simp, by simp⟩, by simpa using (i13.1 j hj).2.1, fun c => absurd c (by omega)⟩
      · simpa [hij] using i13.1 j hj
    refine ⟨h, nS, nK, nB, i1.of ?_, i2.of ?_, i3.of ?_, i4.of ?_, i5.of ?_, i6.of ?_, i7.of ?_, i8.of ?_, i9.of ?_, i10.of ?_, i11.of ?_, i12.of ?_, n13, i14.of ?_⟩
    all_goals (repeat' (first | exact agr.rf | (refine agr.wr ?_ (by simp only [sHour, sShops, sKinds, sDays, sStep, sBatch, sSpoil, sKit, sTape, sLaws, sRows, sCuts, sBox, sCost]; omega))))
  · rw [rd_wr, if_neg (by omega), hc, e3, e4]
  · rw [hc]
    have n13 : IBox nS (wr (wr σ 51 i (nI w)) 105 i (nI w)) := by
      refine ⟨fun j hj => ?_, i13.2⟩
      simp only [rd_wr]
      by_cases hij : j = i
      · subst hij
        exact ⟨by simpa using (i13.1 j hj).1, ⟨w, hw, by simp, by simp⟩, fun c => absurd c (by omega)⟩
      · simpa [hij] using i13.1 j hj
    refine ⟨h, nS, nK, nB, i1.of ?_, i2.of ?_, i3.of ?_, i4.of ?_, i5.of ?_, i6.of ?_, i7.of ?_, i8.of ?_, i9.of ?_, i10.of ?_, i11.of ?_, i12.of ?_, n13, i14.of ?_⟩
    all_goals (repeat' (first | exact agr.rf | (refine agr.wr ?_ (by simp only [sHour, sShops, sKinds, sDays, sStep, sBatch, sSpoil, sKit, sTape, sLaws, sRows, sCuts, sBox, sCost]; omega))))
theorem P_comes (a : Int32) (hI : Inv σ) : Meth Γ l (d + 1) mX11_comes [.ref 0, .int a] σ (PI Γ l (d + 1) mX12_comes [.ref 59, .int a]) := by
  obtain ⟨h, nS, nK, nB, i1, i2, i3, i4, i5, i6, i7, i8, i9, i10, i11, i12, i13, i14⟩ := id hI
  rcases i13.2 with ⟨c1, c2⟩ | ⟨n, z, hn, hz, c1, c2, c3, c4⟩
  · refine M_X11_comes _ (w_X11_comes_0 _ ⟨fun c => ?_, fun _ => PI.mk (M_X12_comes _ (w_X12_comes_0 _ ⟨fun c => ?_, fun _ => KI.mk ⟨rfl, hI⟩⟩))⟩)
    · rw [c1, ti_le, ti_lt] at c
      omega
    · rw [c2, ti_le, ti_le] at c
      have e1 : (-1 - 1 : Int32).toInt = -2 := rfl
      have e2 : (0 : Int32).toInt = 0 := rfl
      omega
  · refine M_X11_comes _ (w_X11_comes_0 _ ⟨fun c => ?_, fun c => PI.mk (M_X12_comes _ (w_X12_comes_0 _ ⟨fun c' => absurd ((cX c1).mpr ((cM (by omega) c2).mp c')) c, fun _ => KI.mk ⟨rfl, hI⟩⟩))⟩)
    have c' := (cX c1).mp c
    have oM := (cM (n := n) (by omega) c2).mpr c'
    obtain ⟨i, hi, rfl⟩ := rng n (by omega) c'
    have hc : (nI i).toNatClampNeg = i := cl (by omega)
    rw [hc]
    have go : ∀ r : Int32, ((rd σ 108 i = rd σ 59 66 → r = -2) ∧ (¬ rd σ 108 i = rd σ 59 66 → r = rd σ 108 i)) → bad1 σ Γ l (d + 1) mX12_comes [.ref 59, .int (nI i)] r := fun r hr => M_X12_comes _ (w_X12_comes_0 _ ⟨fun _ => by rw [hc]; exact ⟨in_nI (by omega) (by omega), fun c => KI.mk ⟨(hr.1 c).symm, hI⟩, fun c => KI.mk ⟨(hr.2 c).symm, hI⟩⟩, fun c => absurd oM c⟩)
    rcases c4 i hi with ⟨s, hs, e1, e2⟩ | ⟨e1, e2⟩
    · refine ⟨in_nI (by omega) (by omega), fun c => ?_, fun _ => PI.mk (go _ ⟨fun c => ?_, fun _ => by rw [e1, e2]⟩)⟩
      · rw [e1] at c
        have := (nI_inj (b := 15) (by omega) (by omega)).mp c
        omega
      · rw [e2, c3] at c
        have := (nI_inj (by omega) (by omega)).mp c
        omega
    · exact ⟨in_nI (by omega) (by omega), fun _ => PI.mk (go _ ⟨fun _ => rfl, fun c => absurd (by rw [e2, c3]) c⟩), fun c => absurd e1 c⟩
theorem price_eq {p t : Nat} (hp : p ≤ 9999) (ht : t < 4) : (nI p * (100 - 25 * nI t)) / 100 = (nI p * (4 - nI t)) / 4 := by
  have e1 : (25 : Int32) * nI t = nI (25 * t) := nI_muln 25 t
  have e2 : (100 : Int32) - nI (25 * t) = nI (100 - 25 * t) := nI_subn (a := 100) (by omega)
  have e3 : (4 : Int32) - nI t = nI (4 - t) := nI_subn (a := 4) (by omega)
  have b1 : p * (100 - 25 * t) ≤ 9999 * 100 := Nat.mul_le_mul hp (by omega)
  have b2 : p * (4 - t) ≤ 9999 * 4 := Nat.mul_le_mul hp (by omega)
  rw [e1, e2, e3, nI_muln, nI_muln]
  refine (nI_divn (b := 100) (by omega) (by omega)).trans (Eq.trans ?_ (nI_divn (b := 4) (by omega) (by omega)).symm)
  congr 1
  have e4 : p * (100 - 25 * t) = 25 * (p * (4 - t)) := by
    rw [show 100 - 25 * t = 25 * (4 - t) by omega, ← Nat.mul_assoc, ← Nat.mul_assoc, Nat.mul_comm p 25]
  rw [e4]
  omega
theorem P_priceAt (a b : Int32) (hI : Inv σ) : Meth Γ l (d + 2) mX11_priceAt [.ref 0, .int a, .int b] σ (PI Γ l (d + 2) mX12_priceAt [.ref 59, .int a, .int b]) := by
  obtain ⟨h, nS, nK, nB, i1, i2, i3, i4, i5, i6, i7, i8, i9, i10, i11, i12, i13, i14⟩ := id hI
  obtain ⟨zK, k1, k2, k3⟩ := id i3
  have bad : ¬ ((0 ≤ a ∧ a < nI nK) ∧ ((0 : Int32) ≤ b ∧ b < 4)) → bad1 σ Γ l (d + 2) mX12_priceAt [.ref 59, .int a, .int b] (-1) := fun hn => M_X12_priceAt _ _ (w_X12_priceAt_0 _ _ ⟨fun ha => ⟨fun hb => absurd ⟨(cM (by omega) k2).mp ha, (cL 3 (by omega)).mp hb⟩ hn, fun _ => KI.mk ⟨rfl, hI⟩⟩, fun _ => KI.mk ⟨rfl, hI⟩⟩)
  refine M_X11_priceAt _ _ (w_X11_priceAt_0 _ _ ⟨fun ha => ⟨fun hb => ?_, fun hb => PI.mk (bad fun c => hb c.2)⟩, fun ha => PI.mk (bad fun c => ha ((cX k1).mpr c.1))⟩)
  have c1 := (cX k1).mp ha
  obtain ⟨i, hi, rfl⟩ := rng nK (by omega) c1
  obtain ⟨v, hv, rfl⟩ := rng 4 (by omega) hb
  have hc : (nI i).toNatClampNeg = i := cl (by omega)
  obtain ⟨p, c, g, z, t, q1, q2, q3, q4, q5, ⟨e1, e2, e3, e4, e5⟩, ⟨f1, f2, f3, f4, f5⟩⟩ := k3 i (by omega)
  refine ⟨in_nI (by omega) (by omega), PI.mk (M_X12_priceAt _ _ (w_X12_priceAt_0 _ _ ⟨fun _ => ⟨fun _ => ⟨in_nI (by omega) (by omega), KI.mk ⟨?_, hI⟩⟩, fun c => absurd ((cL 3 (by omega)).mpr hb) c⟩, fun c => absurd ((cM (n := nK) (by omega) k2).mpr c1) c⟩))⟩
  rw [hc, e1, f1]
  exact price_eq q1 hv
theorem P_end (a : Int32) (hI : Inv σ) : Meth Γ l (d + 1) mX11_end [.ref 0, .int a] σ (PI Γ l (d + 1) mX12_end [.ref 59, .int a]) := by
  obtain ⟨h, nS, nK, nB, i1, i2, i3, i4, i5, i6, i7, i8, i9, i10, i11, i12, i13, i14⟩ := id hI
  obtain ⟨n, hn, t1, t2, t3⟩ := id i9
  refine M_X11_end _ (w_X11_end_0 _ ⟨fun c => ?_, fun c => PI.mk (M_X12_end _ (w_X12_end_0 _ ⟨fun c' => absurd (by rw [t1]; rw [t2] at c'; exact c') c, fun _ => KI.mk ⟨rfl, hI⟩⟩))⟩)
  rw [t1] at c
  obtain ⟨i, hi, rfl⟩ := rngL n (by omega) c
  refine PI.mk (M_X12_end _ (w_X12_end_0 _ ⟨fun _ => KI.mk ⟨rfl, ?_⟩, fun c' => absurd (show (0 : Int32) ≤ nI i ∧ nI i ≤ rd σ 59 31 by rw [t2]; exact c) c'⟩))
  have n9 : ITape (wr (wr σ 23 1 (nI i)) 59 31 (nI i)) := ⟨i, by omega, rfl, rfl, fun j hj => t3 j (by omega)⟩
  refine ⟨h, nS, nK, nB, i1.of ?_, i2.of ?_, i3.of ?_, i4.of ?_, i5.of ?_, i6.of ?_, i7.of ?_, i8.of ?_, n9, i10.of ?_, i11.of ?_, i12.of ?_, i13.of ?_, i14.of ?_⟩
  all_goals (repeat' (first | exact agr.rf | (refine agr.wr ?_ (by simp only [sHour, sShops, sKinds, sDays, sStep, sBatch, sSpoil, sKit, sTape, sLaws, sRows, sCuts, sBox, sCost]; omega))))
end PR

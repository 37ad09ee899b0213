/-! EARLY -/
/-- which rows are early ones of a shop and a kind, on days a to b (columns: shop, kind, hour) -/
def eP (σ : St) (qs qk qh : Nat) (s k a b : Int32) (r : Nat) : Bool := decide (rd σ qs r = s ∧ rd σ qk r = k ∧ rd σ qh r - rd σ qh r / 24 * 24 ≤ 13 ∧ a ≤ rd σ qh r / 24 ∧ rd σ qh r / 24 ≤ b)
section ER
variable {Γ : GG} {l : Launch} {d : Nat} {σ : St}
theorem S_askedEarly {n : Nat} (hn : n ≤ 600) (e : rd σ 34 7 = nI n) (s k a b : Int32) : Meth Γ l (d + 1) mX8_askedEarly [.ref 34, .int s, .int k, .int a, .int b] σ (KI (Kv (sumB (eP σ 35 36 37 s k a b) (rd σ 40) n) σ)) := by
  generalize hP : eP σ 35 36 37 s k a b = P
  have PW : ∀ r, P r = decide (rd σ 35 r = s ∧ rd σ 36 r = k ∧ rd σ 37 r - rd σ 37 r / 24 * 24 ≤ 13 ∧ a ≤ rd σ 37 r / 24 ∧ rd σ 37 r / 24 ≤ b) := fun r => by rw [← hP]; rfl
  have loop : ∀ m i, i + m = n → J Γ l (d + 1) mX8_askedEarly (KI (Kv (sumB P (rd σ 40) n) σ)) 6 [(0, .ref 34), (1, .int s), (2, .int k), (3, .int a), (4, .int b), (5, .int (sumB P (rd σ 40) i)), (6, .int (nI i))] [] σ := by
    intro m
    induction m with
    | zero =>
      intro i hi
      have : i = n := by omega
      subst this
      exact w_X8_askedEarly_6 _ _ _ _ _ _ ⟨fun _ => ⟨_, rfl, rfl, rfl⟩, fun q => absurd (yle e (Nat.le_refl _) (by omega)) q⟩
    | succ m ih =>
      intro i hi
      have no : P i = false → ∀ y : Int32, y = nI i + 1 → J Γ l (d + 1) mX8_askedEarly (KI (Kv (sumB P (rd σ 40) n) σ)) 6 [(0, .ref 34), (1, .int s), (2, .int k), (3, .int a), (4, .int b), (5, .int (sumB P (rd σ 40) i)), (6, .int y)] [] σ := by
        intro q y hy
        rw [nI_s] at hy
        subst hy
        have := ih (i + 1) (by omega)
        rw [sumB_f q] at this
        exact this
      refine w_X8_askedEarly_6 _ _ _ _ _ _ ⟨fun q => absurd q (nle e (by omega) (by omega)), fun _ => ⟨in_nI (by omega) (by omega), ?_⟩⟩
      rw [cl (by omega)]
      refine ⟨fun q x hx => no (by rw [PW]; simp [Int32.not_le.mpr q]), fun q x hx => ⟨fun qs => ⟨fun qk => ⟨fun qd z hz y hy => ?_, fun qd => no ?_⟩, fun qk => no (by rw [PW]; simp [qk])⟩, fun qs => no (by rw [PW]; simp [qs])⟩⟩
      · have t : P i = true := by
          rw [PW]
          subst hx
          simp [qs, qk, qd, Int32.not_lt.mp q]
        rw [nI_s] at hy
        rw [← sumB_t t] at hz
        subst hy hz
        exact ih (i + 1) (by omega)
      · rw [PW]
        subst hx
        simp only [decide_eq_false_iff_not]
        exact fun c => qd c.2.2.2
  exact M_X8_askedEarly _ _ _ _ (w_X8_askedEarly_0 _ _ _ _ (loop n 0 (by omega)))
theorem S_earlyOf {n h : Nat} (hn : n ≤ 600) (e : rd σ 59 45 = nI n) (hh : h < 36000) (hr : ∀ r, r < n → ∃ t : Nat, t ≤ h ∧ 6 ≤ t % 24 ∧ rd σ 94 r = nI t) (s k a b : Int32) : Meth Γ l (d + 1) mX12_earlyOf [.ref 59, .int s, .int k, .int a, .int b] σ (KI (Kv (sumB (eP σ 92 93 94 s k a b) (rd σ 97) n) σ)) := by
  generalize hP : eP σ 92 93 94 s k a b = P
  have PW : ∀ r, P r = decide (rd σ 92 r = s ∧ rd σ 93 r = k ∧ rd σ 94 r - rd σ 94 r / 24 * 24 ≤ 13 ∧ a ≤ rd σ 94 r / 24 ∧ rd σ 94 r / 24 ≤ b) := fun r => by rw [← hP]; rfl
  have loop : ∀ m i, i + m = n → J Γ l (d + 1) mX12_earlyOf (KI (Kv (sumB P (rd σ 97) n) σ)) 6 [(0, .ref 59), (1, .int s), (2, .int k), (3, .int a), (4, .int b), (5, .int (sumB P (rd σ 97) i)), (6, .int (nI i))] [] σ := by
    intro m
    induction m with
    | zero =>
      intro i hi
      have : i = n := by omega
      subst this
      exact w_X12_earlyOf_6 _ _ _ _ _ _ ⟨fun _ => ⟨_, rfl, rfl, rfl⟩, fun q => absurd (yle e (Nat.le_refl _) (by omega)) q⟩
    | succ m ih =>
      intro i hi
      have no : P i = false → ∀ y : Int32, y = nI i + 1 → J Γ l (d + 1) mX12_earlyOf (KI (Kv (sumB P (rd σ 97) n) σ)) 6 [(0, .ref 59), (1, .int s), (2, .int k), (3, .int a), (4, .int b), (5, .int (sumB P (rd σ 97) i)), (6, .int y)] [] σ := by
        intro q y hy
        rw [nI_s] at hy
        subst hy
        have := ih (i + 1) (by omega)
        rw [sumB_f q] at this
        exact this
      refine w_X12_earlyOf_6 _ _ _ _ _ _ ⟨fun q => absurd q (nle e (by omega) (by omega)), fun _ => ⟨in_nI (by omega) (by omega), ?_⟩⟩
      rw [cl (by omega)]
      refine ⟨fun qs => ⟨fun qk => ⟨fun qe => ⟨fun qd z hz y hy => ?_, fun qd => no ?_⟩, fun qe => no ?_⟩, fun qk => no (by rw [PW]; simp [qk])⟩, fun qs => no (by rw [PW]; simp [qs])⟩
      · have t : P i = true := by
          rw [PW]
          simp [qs, qk, qd, qe.2]
        rw [nI_s] at hy
        rw [← sumB_t t] at hz
        subst hy hz
        exact ih (i + 1) (by omega)
      · rw [PW]
        simp only [decide_eq_false_iff_not]
        exact fun c => qd c.2.2.2
      · rw [PW]
        simp only [decide_eq_false_iff_not]
        refine fun c => qe ⟨?_, c.2.2.1⟩
        obtain ⟨t, ht, h6, et⟩ := hr i (by omega)
        rw [et, show (24 : Int32) = nI 24 from rfl, nI_modn (by omega) (by omega)]
        exact (nI_lei (a := 6) (by omega) (by omega)).mpr h6
  exact M_X12_earlyOf _ _ _ _ (w_X12_earlyOf_0 _ _ _ _ (loop n 0 (by omega)))
/-- the rows' columns are the same on both sides -/
theorem rows_same {h n : Nat} (r3 : ∀ r, r < n → IRow h r σ) : ∀ r, r < n → (rd σ 92 r = rd σ 35 r ∧ rd σ 93 r = rd σ 36 r ∧ rd σ 94 r = rd σ 37 r ∧ rd σ 95 r = rd σ 38 r ∧ rd σ 96 r = rd σ 39 r ∧ rd σ 97 r = rd σ 40 r) := by
  intro r hr
  obtain ⟨s, k, t, st, w', a', g, -, ⟨x0, x1, x2, x3, x4, x5, x6⟩, ⟨y0, y1, y2, y3, y4, y5, y6⟩⟩ := r3 r hr
  exact ⟨y0.trans x0.symm, y1.trans x1.symm, y2.trans x2.symm, y3.trans x3.symm, y4.trans x4.symm, y5.trans x5.symm⟩
theorem early_same {h n : Nat} (r3 : ∀ r, r < n → IRow h r σ) (s k a b : Int32) : sumB (eP σ 92 93 94 s k a b) (rd σ 97) n = sumB (eP σ 35 36 37 s k a b) (rd σ 40) n :=
  sumB_congr (fun r hr => by
    obtain ⟨y0, y1, y2, y3, y4, y5⟩ := rows_same r3 r hr
    exact ⟨by unfold eP; rw [y0, y1, y2], y5⟩)
theorem rows_hr {h n : Nat} (r3 : ∀ r, r < n → IRow h r σ) : ∀ r, r < n → ∃ t : Nat, t ≤ h ∧ 6 ≤ t % 24 ∧ rd σ 94 r = nI t := by
  intro r hr
  obtain ⟨s, k, t, st, w', a', g, ⟨-, -, ht, h6, -⟩, -, ⟨y0, y1, y2, y3, y4, y5, y6⟩⟩ := r3 r hr
  exact ⟨t, ht, h6, y2⟩
theorem daysAB {a b : Int32} : ((0 ≤ a ∧ a ≤ 1499) ∧ a ≤ b ∧ b ≤ 1499) ↔ (0 ≤ a ∧ a ≤ b ∧ b < 1500) := by
  rw [ti_le, ti_le, ti_le, ti_le, ti_lt]
  have e0 : (0 : Int32).toInt = 0 := rfl
  have e1 : (1499 : Int32).toInt = 1499 := rfl
  have e2 : (1500 : Int32).toInt = 1500 := rfl
  omega
theorem P_early (a b c e : Int32) (hI : Inv σ) : Meth Γ l (d + 3) mX11_early [.ref 0, .int a, .int b, .int c, .int e] σ (PI Γ l (d + 3) mX12_early [.ref 59, .int a, .int b, .int c, .int e]) := by
  obtain ⟨h, nS, nK, nB, i1, i2, i3, i4, i5, i6, i7, i8, i9, i10, i11, i12, i13, i14⟩ := id hI
  obtain ⟨zS, s1, s2, s3, s4, s5, s6⟩ := id i2
  obtain ⟨zK, k1, k2, k3⟩ := id i3
  obtain ⟨nR, hR, r1, r2, r3, r4⟩ := id i11
  have bad : ¬ (((0 ≤ a ∧ a < nI nS) ∧ 0 ≤ b ∧ b < nI nK) ∧ ((0 : Int32) ≤ c ∧ c ≤ e ∧ e < 1500)) → bad1 σ Γ l (d + 3) mX12_early [.ref 59, .int a, .int b, .int c, .int e] (-1) := fun hn => M_X12_early _ _ _ _ (w_X12_early_0 _ _ _ _ ⟨fun ha => ⟨fun hb => absurd ⟨⟨(cM (by omega) s2).mp ha.1, (cM (by omega) k2).mp ha.2⟩, daysAB.mp hb⟩ hn, fun _ => KI.mk ⟨rfl, hI⟩⟩, fun _ => KI.mk ⟨rfl, hI⟩⟩)
  refine M_X11_early _ _ _ _ (w_X11_early_0 _ _ _ _ ⟨fun ha => ⟨fun hd => ?_, fun hd => PI.mk (bad fun q => hd q.2)⟩, fun ha => PI.mk (bad fun q => ha ⟨(cX s1).mpr q.1.1, (cX k1).mpr q.1.2⟩)⟩)
  have oM := (cM (n := nS) (by omega) s2).mpr ((cX s1).mp ha.1)
  have oK := (cM (n := nK) (by omega) k2).mpr ((cX k1).mp ha.2)
  refine (S_askedEarly (d := d + 1) hR r1 a b c e).mono ?_
  rintro v σ' ⟨x, rfl, rfl, rfl⟩
  refine ⟨_, rfl, PI.mk (M_X12_early _ _ _ _ (w_X12_early_0 _ _ _ _ ⟨fun _ => ⟨fun _ => ?_, fun q => absurd (daysAB.mpr hd) q⟩, fun q => absurd ⟨oM, oK⟩ q⟩))⟩
  refine (S_earlyOf (d := d + 1) hR r2 i1.1 (rows_hr r3) a b c e).mono ?_
  rintro v σ' ⟨x, rfl, rfl, rfl⟩
  exact ⟨_, rfl, KI.mk ⟨early_same r3 a b c e, hI⟩⟩
end ER

/-! GIFT -/
theorem tk_R {col q0 : Nat} {A : Nat → Nat} {σ1 σ2 σ3 : St} (hq : q0 = 77 ∨ q0 = 78 ∨ q0 = 79) (h1 : tkX col A σ1 σ2) (h2 : tkM q0 A σ2 σ3) : tkR col q0 A σ1 σ3 := by
  intro q c hs
  have h91 : q ≠ 91 := by
    unfold sBatch at hs
    omega
  rw [h2 q c h91]
  by_cases d1 : 142 ≤ q ∧ q < 342 ∧ c = 5
  · rw [if_neg (by omega), if_pos d1, h1, if_pos d1]
  by_cases d2 : 142 ≤ q ∧ q < 342 ∧ c = col
  · rw [if_neg (by omega), if_neg d1, if_pos d2, h1, if_neg d1, if_pos d2]
  rw [if_neg d1, if_neg d2, h1, if_neg d1, if_neg d2]
theorem tk_rest {col q0 : Nat} {A : Nat → Nat} {σ1 σ2 σ3 : St} (h1 : tkX col A σ1 σ2) (h2 : tkM q0 A σ2 σ3) : ∀ q c, q ≠ 91 → ¬ (142 ≤ q ∧ q < 342 ∧ (c = 5 ∨ c = col)) → ¬ (q = q0 ∧ c < 200) → rd σ3 q c = rd σ1 q c := fun q c a1 a2 a3 => by
  rw [h2 q c a1, if_neg a3, h1, if_neg (by omega), if_neg (by omega)]
theorem Inv0.tk8 {h nS nK nB : Nat} {A : Nat → Nat} {σ1 σ2 σ3 : St} (hI : Inv0 h nS nK nB σ1) (hA : ∀ b, b < nB → A b ≤ shN σ1 b) (hz : ∀ b, nB ≤ b → A b = 0) (h1 : tkX 8 A σ1 σ2) (h2 : tkM 79 A σ2 σ3) : Inv0 h nS nK nB σ3 := by
  obtain ⟨i1, i2, i3, i4, i5, i6, i7, i8, i9, i10, i11, i12, i13, i14⟩ := id hI
  have n6 := i6.tookR8 hA hz (tk_R (by omega) h1 h2)
  have ag := tk_rest h1 h2
  refine ⟨i1.of ?_, i2.of ?_, i3.of ?_, i4.of ?_, i5.of ?_, n6, i7.of ?_, i8.of ?_, i9.of ?_, i10.of ?_, i11.of ?_, i12.of ?_, i13.of ?_, i14.of ?_⟩
  all_goals (intro q e hs; simp only [sHour, sShops, sKinds, sDays, sStep, sBatch, sSpoil, sKit, sTape, sLaws, sRows, sCuts, sBox, sCost] at hs; exact ag q e (by omega) (by omega) (by omega))
section GF
variable {Γ : GG} {l : Launch} {d : Nat} {σ : St}
theorem P_gift (a b c e : Int32) (hI : Inv σ) : Meth Γ l (d + 6) mX11_gift [.ref 0, .int a, .int b, .int c, .int e] σ (PI Γ l (d + 5) mX12_gift [.ref 59, .int a, .int b, .int c, .int e]) := by
  have hI2 := hI
  obtain ⟨h, nS, nK, nB, h0⟩ := hI2
  obtain ⟨i1, i2, i3, i4, i5, i6, i7, i8, -⟩ := id h0
  obtain ⟨zh, g1, g2⟩ := id i1
  obtain ⟨zS, s1, s2, s3, s4, s5, s6⟩ := id i2
  obtain ⟨zK, k1, k2, k3⟩ := id i3
  have zB := i6.1
  obtain ⟨nT, t0, t1, t2, t3⟩ := id i8
  have bad : ¬ (((0 ≤ a ∧ a < nI nS) ∧ 0 ≤ b ∧ b < nI nK) ∧ (0 ≤ c ∧ c < nI nT) ∧ ((1 : Int32) ≤ e ∧ e ≤ 999)) → bad1 σ Γ l (d + 5) mX12_gift [.ref 59, .int a, .int b, .int c, .int e] (-1) := fun hn => M_X12_gift _ _ _ _ (w_X12_gift_0 _ _ _ _ ⟨fun ha => ⟨fun hc => ⟨fun he => absurd ⟨⟨(cM (by omega) s2).mp ha.1, (cM (by omega) k2).mp ha.2⟩, (cM (by omega) t2).mp hc, he⟩ hn, fun _ => KI.mk ⟨rfl, hI⟩⟩, fun _ => KI.mk ⟨rfl, hI⟩⟩, fun _ => KI.mk ⟨rfl, hI⟩⟩)
  refine M_X11_gift _ _ _ _ (w_X11_gift_0 _ _ _ _ ⟨fun ha => ⟨fun hc => ⟨fun he => ?_, fun q => PI.mk (bad fun r => q r.2.2)⟩, fun q => PI.mk (bad fun r => q ((cX t1).mpr r.2.1))⟩, fun q => PI.mk (bad fun r => q (by rw [s1, k1]; exact r.1))⟩)
  have c1 := (cX s1).mp ha.1
  have c2 := (cX k1).mp ha.2
  have c3 := (cX t1).mp hc
  obtain ⟨i, hi, rfl⟩ := rng nS (by omega) c1
  obtain ⟨k, hk, rfl⟩ := rng nK (by omega) c2
  obtain ⟨t, ht, rfl⟩ := rng nT (by omega) c3
  obtain ⟨N, hN0, hN, rfl⟩ : ∃ N : Nat, 1 ≤ N ∧ N ≤ 999 ∧ e = nI N := by
    have h3 := he
    rw [ti_le, ti_le] at h3
    have e1 : (1 : Int32).toInt = 1 := rfl
    have e9 : (999 : Int32).toInt = 999 := rfl
    exact ⟨e.toInt.toNat, by omega, by omega, nI_of_ti (by omega)⟩
  obtain ⟨p, hp, p1, p2, p3⟩ := s3 i hi
  obtain ⟨p', tt, hp', htt, u1, u2, u3, u4, u5⟩ := t3 t ht
  obtain ⟨-, -, -, z, -, -, -, -, hz, -, ⟨-, -, -, z1, -⟩, ⟨-, -, -, z2, -⟩⟩ := k3 k (by omega)
  have ci : (nI i).toNatClampNeg = i := cl (by omega)
  have ck : (nI k).toNatClampNeg = k := cl (by omega)
  have ct : (nI t).toNatClampNeg = t := cl (by omega)
  have hm : nI h - nI h / 24 * 24 = nI (h % 24) := nI_modn (b := 24) (by omega) (by omega)
  generalize hD : dN (p / 100) (p' / 100) + dN (p % 100) (p' % 100) = D
  have hD2 : D ≤ 200 := by
    have := hD
    unfold dN at this
    omega
  generalize hw : (D + 9) / 10 = w
  have hw2 : w ≤ 30 := by omega
  have wx : (((abI (nI p / 100 - nI p' / 100) + abI (nI p - nI p / 100 * 100 - (nI p' - nI p' / 100 * 100))) + 10) - 1) / 10 = nI w := by
    rw [show nI p - nI p / 100 * 100 = nI (p % 100) from nI_modn (b := 100) (by omega) (by omega), show nI p' - nI p' / 100 * 100 = nI (p' % 100) from nI_modn (b := 100) (by omega) (by omega), show nI p / 100 = nI (p / 100) from nI_divn (b := 100) (by omega) (by omega), show nI p' / 100 = nI (p' / 100) from nI_divn (b := 100) (by omega) (by omega), abI_n (by omega) (by omega), abI_n (by omega) (by omega), nI_addn, hD, show nI D + 10 = nI (D + 10) from nI_addn D 10, show nI (D + 10) - 1 = nI (D + 10 - 1) from nI_subn (b := 1) (by omega), show nI (D + 10 - 1) / 10 = nI ((D + 10 - 1) / 10) from nI_divn (b := 10) (by omega) (by omega)]
    congr 1
  have wm : ((offI (nI (p / 100)) (nI (p' / 100)) + offI (nI (p % 100)) (nI (p' % 100))) + 9) / 10 = nI w := by
    rw [offI_n (by omega) (by omega), offI_n (by omega) (by omega), nI_addn, hD, show nI D + 9 = nI (D + 9) from nI_addn D 9, show nI (D + 9) / 10 = nI ((D + 9) / 10) from nI_divn (b := 10) (by omega) (by omega), hw]
  have le1 : nI (h % 24) + nI w ≤ nI tt ↔ h % 24 + w ≤ tt := by
    rw [nI_addn]
    exact nI_lei (by omega) (by omega)
  have lt1 : nI tt < nI (h % 24) + nI w ↔ tt < h % 24 + w := by
    rw [nI_addn]
    exact nI_lti (by omega) (by omega)
  have le2 : nI w ≤ (2 : Int32) ↔ w ≤ 2 := nI_lei (b := 2) (by omega) (by omega)
  have eq1 : nI z = (1 : Int32) ↔ z = 1 := nI_inj (b := 1) (by omega) (by omega)
  -- the reference
  have mm : ∀ (σ2 : St) (X : Int32), (∀ q c, (59 ≤ q ∧ q < 118) → rd σ2 q c = rd σ q c) → ((tt < h % 24 + w ∨ (z = 1 ∧ 2 < w)) → X = -2 ∧ Inv σ2) → (h % 24 + w ≤ tt → (z = 1 → w ≤ 2) → Meth Γ l (d + 4) mX12_eldest [.ref 59, .int (nI i), .int (nI k), .int 1] σ2 (KI fun x8 σ7 => J Γ l (d + 5) mX12_gift (KI fun y σ3 => y = X ∧ Inv σ3) 124 [(0, .ref 59), (1, .int (nI i)), (2, .int (nI k)), (4, .int (nI N)), (6, .int (nI N)), (7, .int x8)] [] σ7)) → Meth Γ l (d + 5) mX12_gift [.ref 59, .int (nI i), .int (nI k), .int (nI t), .int (nI N)] σ2 (KI fun y σ3 => y = X ∧ Inv σ3) := by
    intro σ2 X A hno hyes
    refine M_X12_gift _ _ _ _ (w_X12_gift_0 _ _ _ _ ?_)
    rw [A 59 2 (by omega), A 59 6 (by omega), A 59 70 (by omega), ci, ck, ct, A 60 _ (by omega), A 61 _ (by omega), A 112 _ (by omega), A 113 _ (by omega), A 114 _ (by omega), A 59 1 (by omega), A 66 _ (by omega), p2, p3, u2, u3, u5, g2, z2, hm, wm]
    refine ⟨fun _ => ⟨fun _ => ⟨fun _ => ⟨in_nI (by omega) (by omega), in_nI (by omega) (by omega), fun x3 h3 => ?_⟩, fun q => absurd he q⟩, fun q => absurd ((cM (n := nT) (by omega) t2).mpr c3) q⟩, fun q => absurd ⟨(cM (n := nS) (by omega) s2).mpr c1, (cM (n := nK) (by omega) k2).mpr c2⟩ q⟩
    subst h3
    rw [lt1, le2, eq1]
    refine ⟨fun q => ?_, fun q => ⟨in_nI (by omega) (by omega), fun qz => ⟨fun q2 => hyes (by omega) (fun _ => q2), fun q2 => ?_⟩, fun qz => hyes (by omega) (fun q2 => absurd q2 qz)⟩⟩
    · obtain ⟨rfl, h5⟩ := hno (Or.inl q)
      exact KI.mk ⟨rfl, h5⟩
    · obtain ⟨rfl, h5⟩ := hno (Or.inr ⟨qz, by omega⟩)
      exact KI.mk ⟨rfl, h5⟩
  have notM : (tt < h % 24 + w ∨ (z = 1 ∧ 2 < w)) → PI Γ l (d + 5) mX12_gift [.ref 59, .int (nI i), .int (nI k), .int (nI t), .int (nI N)] (some (.int (-2))) σ := fun hno => PI.mk (mm σ (-2) (fun _ _ _ => rfl) (fun _ => ⟨rfl, hI⟩) (fun q1 q2 => by
    rcases hno with q | ⟨q3, q4⟩
    · omega
    · have := q2 q3
      omega))
  -- the class, from where the gift may go
  have main : h % 24 + w ≤ tt → (z = 1 → w ≤ 2) → J Γ l (d + 6) mX11_gift (PI Γ l (d + 5) mX12_gift [.ref 59, .int (nI i), .int (nI k), .int (nI t), .int (nI N)]) 108 [(0, .ref 0), (1, .int (nI i)), (2, .int (nI k)), (4, .int (nI N))] [] σ := by
    intro ok1 ok2
    refine w_X11_gift_108 _ _ _ ((S_lineUp h0 agr.rf (nI i) (nI k) 1).mono ?_)
    rintro v σ1 ⟨x, rfl, rfl, ⟨n, ln, hL, hLA⟩, ag⟩
    have hsh : ∀ b, b < nB → shN σ b ≤ 999 := fun b hb => (Bv h0 hb).2.2.2.1
    have hL' : Line (elS σ (nI i) (nI k) 1 (shN σ)) (mdN σ) nB n ln := hL
    obtain ⟨nz1, nz2⟩ := none_iff (most := N) hL' hsh zB hN0
    have I1 : Inv0 h nS nK nB σ1 := h0.of (ag.sub fun _ _ => sL_inv)
    have s1e : ∀ b, shN σ1 b = shN σ b := fun b => by
      unfold shN
      rw [ag _ 5 (by unfold sL; omega)]
    -- the reference, from a state where the class took
    have run : ∀ (σ2 : St) (X : Int32), tkX 8 (amL (shN σ) ln N n) σ1 σ2 → (X = if totL (shN σ) ln N n = 0 then -2 else nI (totL (shN σ) ln N n)) → Meth Γ l (d + 5) mX12_gift [.ref 59, .int (nI i), .int (nI k), .int (nI t), .int (nI N)] σ2 (KI fun y σ3 => y = X ∧ Inv σ3) := by
      intro σ2 X hx hX
      have A : ∀ q c, (59 ≤ q ∧ q < 118) → rd σ2 q c = rd σ q c := fun q c hq => by
        rw [hx, if_neg (by omega), if_neg (by omega)]
        exact ag q c (by unfold sL; omega)
      have hR : agr sR σ σ2 := fun q c hq => by
        rw [hx, if_neg (by unfold sR sLaws at hq; omega), if_neg (by unfold sR sLaws at hq; omega)]
        exact ag q c (sR_sL hq)
      have ham : ∀ b, b < nB → (((rd σ2 76 b - rd σ2 77 b) - rd σ2 78 b) - rd σ2 79 b) - rd σ2 80 b = nI (shN σ b) := fun b hb => by
        rw [A 76 _ (by omega), A 77 _ (by omega), A 78 _ (by omega), A 79 _ (by omega), A 80 _ (by omega)]
        exact (Bv h0 hb).2.2.2.2.2.2.2
      refine mm σ2 X A (fun hno => ?_) (fun _ _ => ?_)
      · exfalso
        rcases hno with q | ⟨q3, q4⟩
        · omega
        · have := ok2 q3
          omega
      · refine (S_eldest h0 hR (nI i) (nI k) 1 ham hsh).mono ?_
        rintro v σ7 ⟨x8, rfl, hx8, ha7⟩
        refine ⟨_, rfl, ?_⟩
        refine takeM (P := fun a4 a5 σ => J Γ l (d + 5) mX12_gift (KI fun y σ3 => y = X ∧ Inv σ3) 124 [(0, .ref 59), (1, .int (nI i)), (2, .int (nI k)), (4, .int (nI N)), (6, .int a4), (7, .int a5)] [] σ) (Fin := fun a4 σ => (a4 = nI N → (KI fun y σ3 => y = X ∧ Inv σ3) (some (.int (-2))) σ) ∧ (¬ a4 = nI N → (KI fun y σ3 => y = X ∧ Inv σ3) (some (.int (nI N - a4))) σ)) h0 hR (q0 := 79) (by omega) (nI i) (nI k) 1 ham hsh (fun a4 a5 σ hh => w_X12_gift_124 _ _ _ _ _ hh) hN hL' (fun σ3 h3 => ?_) hx8 ha7
        have tl := totL_le (sh := shN σ) (ln := ln) (most := N) n
        have I3 : Inv σ3 := ⟨h, nS, nK, nB, I1.tk8 (fun b hb => by rw [s1e]; exact amL_le n b) (fun b hb => amL_not n b fun j hj => by have := (hL.2.1 j hj).1; omega) hx h3⟩
        rw [nI_inj (by omega) (by omega)]
        refine ⟨fun q => KI.mk ⟨?_, I3⟩, fun q => KI.mk ⟨?_, I3⟩⟩
        · rw [hX, if_pos (by omega)]
        · rw [hX, if_neg (by omega), nI_subn (by omega)]
          congr 1
          omega
    refine ⟨_, rfl, fun q => ?_, fun q => ?_⟩
    · have n0 := nz1.mp q
      refine PI.mk (run σ1 (-2) (fun q c => ?_) (by rw [if_pos (nz2.mpr n0)]))
      subst n0
      show _ = if _ then rd σ1 q c - nI 0 else if _ then rd σ1 q c + nI 0 else _
      rw [nI_z, Int32.sub_zero, Int32.add_zero]
      split
      · rfl
      · split <;> rfl
    · have n0 : n ≠ 0 := fun e => q (nz1.mpr e)
      refine (S_takeFromLine (most := N) (col := 8) (sh := shN σ) (by omega) hN (by have := hL.1; omega) hLA (fun j hj => ?_) hL.dist).mono ?_
      · have lj := (hL.2.1 j hj).1
        obtain ⟨-, -, v5, v5', -⟩ := Bv h0 lj
        exact ⟨by omega, (ag _ 5 (by unfold sL; omega)).trans v5, v5'⟩
      · rintro v σ2 ⟨x, rfl, rfl, hx⟩
        exact ⟨_, rfl, PI.mk (run σ2 _ hx (by rw [if_neg (fun e => n0 (nz2.mp e))]))⟩
  refine M_X7_milesTo_55 _ _ (w_X7_milesTo_55_0 _ _ ?_)
  rw [ci, ct, p1, u1]
  refine ⟨in_nI (by omega) (by omega), in_nI (by omega) (by omega), fun x3 h3 x4 h4 => ⟨_, rfl, fun x5 h5 => ?_⟩⟩
  subst h3
  subst h4
  rw [wx] at h5
  subst h5
  rw [g1, hm, ck, u4, z1, le1, le2, eq1]
  refine ⟨in_nI (by omega) (by omega), fun q1 => ⟨in_nI (by omega) (by omega), fun qz => ⟨fun q2 => main q1 (fun _ => q2), fun q2 => notM (Or.inr ⟨qz, by omega⟩)⟩, fun qz => main q1 (fun q2 => absurd q2 qz)⟩, fun q1 => notM (Or.inl (by omega))⟩
end GF

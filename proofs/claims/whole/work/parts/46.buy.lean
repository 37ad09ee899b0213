/-! BUY -/
section BY
variable {Γ : GG} {l : Launch} {d : Nat} {σ : St}
theorem P_buy (a b c : Int32) (hI : Inv σ) : Meth Γ l (d + 6) mX11_buy [.ref 0, .int a, .int b, .int c] σ (PI Γ l (d + 5) mX12_buy [.ref 59, .int a, .int b, .int c]) := by
  have hI2 := hI
  obtain ⟨h, nS, nK, nB, h0⟩ := hI2
  obtain ⟨i1, i2, i3, i4, i5, i6, i7, i8, i9, i10, i11, -⟩ := id h0
  obtain ⟨zh, g1, g2⟩ := id i1
  obtain ⟨zS, s1, s2, s3, s4, s5, s6⟩ := id i2
  obtain ⟨zK, k1, k2, k3⟩ := id i3
  have zB := i6.1
  obtain ⟨nR, r0, r1, r2, r3, r4⟩ := id i11
  have bad : ¬ (((0 ≤ a ∧ a < nI nS) ∧ 0 ≤ b ∧ b < nI nK) ∧ ((0 : Int32) ≤ c ∧ c ≤ 999)) → bad1 σ Γ l (d + 5) mX12_buy [.ref 59, .int a, .int b, .int c] (-1) := fun hn => M_X12_buy _ _ _ (w_X12_buy_0 _ _ _ ⟨fun ha => ⟨fun hc => absurd ⟨⟨(cM (by omega) s2).mp ha.1, (cM (by omega) k2).mp ha.2⟩, hc⟩ hn, fun _ => KI.mk ⟨rfl, hI⟩⟩, fun _ => KI.mk ⟨rfl, hI⟩⟩)
  refine M_X11_buy _ _ _ (w_X11_buy_0 _ _ _ ⟨fun ha => ⟨fun hc => ?_, fun q => PI.mk (bad fun r => q r.2)⟩, fun q => PI.mk (bad fun r => q (by rw [s1, k1]; exact r.1))⟩)
  have c1 := (cX s1).mp ha.1
  have c2 := (cX k1).mp ha.2
  obtain ⟨i, hi, rfl⟩ := rng nS (by omega) c1
  obtain ⟨k, hk, rfl⟩ := rng nK (by omega) c2
  obtain ⟨N, hN, rfl⟩ := rngL 999 (by omega) hc
  have ci : (nI i).toNatClampNeg = i := cl (by omega)
  have ck : (nI k).toNatClampNeg = k := cl (by omega)
  have cR : (nI nR).toNatClampNeg = nR := cl (by omega)
  have hm : nI h - nI h / 24 * 24 = nI (h % 24) := nI_modn (b := 24) (by omega) (by omega)
  have td : nI h / 24 = nI (h / 24) := nI_divn (b := 24) (by omega) (by omega)
  have cd : (nI (h / 24)).toNatClampNeg = h / 24 := cl (by omega)
  have l1 : 6 ≤ nI (h % 24) ↔ 6 ≤ h % 24 := nI_lei (a := 6) (by omega) (by omega)
  have l2 : nI (h % 24) ≤ 19 ↔ h % 24 ≤ 19 := nI_lei (b := 19) (by omega) (by omega)
  have lR : nI nR < (600 : Int32) ↔ nR < 600 := nI_lti (b := 600) (by omega) (by omega)
  have eR : nI nR = (600 : Int32) ↔ nR = 600 := nI_inj (b := 600) (by omega) (by omega)
  -- the reference
  have mm : ∀ (σ2 : St) (X : Int32), (∀ q c, (59 ≤ q ∧ q < 118) → rd σ2 q c = rd σ q c) → (¬ tellR σ (nI i) (nI k) h nR → X = -2 ∧ Inv σ2) → (tellR σ (nI i) (nI k) h nR → nR = 600 → X = -3 ∧ Inv σ2) → (tellR σ (nI i) (nI k) h nR → nR < 600 → Meth Γ l (d + 4) mX12_eldest [.ref 59, .int (nI i), .int (nI k), .int 0] σ2 (KI fun x4 σ3 => J Γ l (d + 5) mX12_buy (KI fun y σ3 => y = X ∧ Inv σ3) 66 [(0, .ref 59), (1, .int (nI i)), (2, .int (nI k)), (3, .int (nI N)), (4, .int (nI N)), (5, .int x4)] [] σ3)) → Meth Γ l (d + 5) mX12_buy [.ref 59, .int (nI i), .int (nI k), .int (nI N)] σ2 (KI fun y σ3 => y = X ∧ Inv σ3) := by
    intro σ2 X A h1 h2 h3
    have hr : hasR σ2 (nI i) (nI k) nR ↔ hasR σ (nI i) (nI k) nR := by
      unfold hasR
      rw [A 59 1 (by omega)]
      constructor
      · rintro ⟨r, hr, q⟩
        rw [A 92 r (by omega), A 93 r (by omega), A 94 r (by omega)] at q
        exact ⟨r, hr, q⟩
      · rintro ⟨r, hr, q⟩
        refine ⟨r, hr, ?_⟩
        rw [A 92 r (by omega), A 93 r (by omega), A 94 r (by omega)]
        exact q
    refine M_X12_buy _ _ _ (w_X12_buy_0 _ _ _ ?_)
    rw [A 59 2 (by omega), A 59 6 (by omega), A 59 1 (by omega), g2, hm, l1, l2]
    refine ⟨fun _ => ⟨fun _ => ⟨fun q => ?_, fun q => ?_⟩, fun q => absurd hc q⟩, fun q => absurd ⟨(cM (n := nS) (by omega) s2).mpr c1, (cM (n := nK) (by omega) k2).mpr c2⟩ q⟩
    · refine (S_hasRow (nI i) (nI k) r0 ((A 59 45 (by omega)).trans r2)).mono ?_
      rintro v σ' ⟨x, rfl, rfl, hx⟩
      rw [hr] at hx
      refine ⟨_, rfl, fun q0 => ?_, fun q0 => ?_⟩
      · have hn : tellR σ (nI i) (nI k) h nR := by
          rcases hx with ⟨rfl, -⟩ | ⟨-, hx⟩
          · exact absurd q0 (by decide)
          · exact ⟨q, hx⟩
        rw [A 59 45 (by omega), r2, eR]
        refine ⟨fun q6 => ?_, fun q6 => h3 hn (by omega)⟩
        obtain ⟨rfl, h5⟩ := h2 hn q6
        exact KI.mk ⟨rfl, h5⟩
      · have hn : ¬ tellR σ (nI i) (nI k) h nR := by
          rcases hx with ⟨-, hx⟩ | ⟨rfl, -⟩
          · exact fun r => r.2 hx
          · exact absurd rfl q0
        obtain ⟨rfl, h5⟩ := h1 hn
        exact KI.mk ⟨rfl, h5⟩
    · obtain ⟨rfl, h5⟩ := h1 fun r => q r.1
      exact KI.mk ⟨rfl, h5⟩
  refine (S_mayTell (d := d + 3) (nI i) (nI k) zh g1 g2 r0 r1 r3 r4).mono ?_
  rintro v σ' ⟨x, rfl, rfl, hx⟩
  refine ⟨_, rfl, fun q0 => ?_, fun q0 => ?_⟩
  · have hn : ¬ tellR σ' (nI i) (nI k) h nR := by
      rcases hx with ⟨rfl, -⟩ | ⟨-, hx⟩
      · exact absurd q0 (by decide)
      · exact hx
    exact PI.mk (mm σ' (-2) (fun _ _ _ => rfl) (fun _ => ⟨rfl, hI⟩) (fun q => absurd q hn) (fun q => absurd q hn))
  have hT : tellR σ' (nI i) (nI k) h nR := by
    rcases hx with ⟨-, hx⟩ | ⟨rfl, -⟩
    · exact hx
    · exact absurd rfl q0
  clear hx q0
  rw [r1, lR]
  refine ⟨fun q6 => ?_, fun q6 => PI.mk (mm σ' (-3) (fun _ _ _ => rfl) (fun q => absurd hT q) (fun _ _ => ⟨rfl, hI⟩) (fun _ q => absurd q q6))⟩
  refine (S_lineUp h0 agr.rf (nI i) (nI k) 0).mono ?_
  rintro v σ1 ⟨x, rfl, -, ⟨n, ln, hL, hLA⟩, ag⟩
  have hsh : ∀ b, b < nB → shN σ' b ≤ 999 := fun b hb => (Bv h0 hb).2.2.2.1
  have hL' : Line (elS σ' (nI i) (nI k) 0 (shN σ')) (mdN σ') nB n ln := hL
  have I1 : Inv0 h nS nK nB σ1 := h0.of (ag.sub fun _ _ => sL_inv)
  have s1e : ∀ b, shN σ1 b = shN σ' b := fun b => by
    unfold shN
    rw [ag _ 5 (by unfold sL; omega)]
  refine ⟨_, rfl, (S_takeFromLine (d := d + 4) (most := N) (col := 6) (sh := shN σ') (by omega) hN (by have := hL.1; omega) hLA (fun j hj => ?_) hL.dist).mono ?_⟩
  · have lj := (hL.2.1 j hj).1
    obtain ⟨-, -, v5, v5', -⟩ := Bv h0 lj
    exact ⟨by omega, (ag _ 5 (by unfold sL; omega)).trans v5, v5'⟩
  rintro v σ5 ⟨x, rfl, rfl, hx5⟩
  have tl := totL_le (sh := shN σ') (ln := ln) (most := N) n
  generalize hTt : totL (shN σ') ln N n = T at tl
  -- what the reference's places and the others hold now
  have B5 : ∀ q c, ¬ (142 ≤ q ∧ q < 342) → sL q c → rd σ5 q c = rd σ' q c := fun q c h1 h2 => by
    rw [hx5, if_neg (by omega), if_neg (by omega)]
    exact ag q c h2
  obtain ⟨⟨st, hst, t1, t2⟩, -⟩ := i5 i k (by omega) (by omega)
  obtain ⟨⟨w, hw, w1, w2⟩, -⟩ := i4 (h / 24) (by omega)
  obtain ⟨p, cc, gg, zz, tt, hp, -, -, -, -, ⟨p1, -, -, -, -⟩, ⟨p2, -, -, -, -⟩⟩ := k3 k (by omega)
  have e1 := s4 i (by omega)
  refine ⟨_, rfl, in_nI (by omega) (by omega), in_nI (by omega) (by omega), fun x9 h9 => ⟨in_nI (by omega) (by omega), ?_⟩⟩
  rw [ci, ck, B5 _ k (by omega) (by unfold sL; omega), t1] at h9
  subst h9
  rw [ci, ck, B5 1 2 (by omega) (by unfold sL; omega), g1, B5 12 k (by omega) (by unfold sL; omega), p1, B5 7 i (by omega) (by unfold sL; omega)]
  generalize hV : rd σ' 7 i + nI T * ((nI p * (4 - nI st)) / 4) = V
  have e34 : rd (wr σ5 7 i V) 34 7 = nI nR := by
    rw [rdn (by omega), B5 34 7 (by omega) (by unfold sL; omega)]
    exact r1
  refine M_X8_add _ _ _ (w_X8_add_0 _ _ _ ?_)
  rw [e34]
  refine ⟨fun q => absurd ((nI_lei (a := 600) (by omega) (by omega)).mp q) (by omega), fun _ => ⟨in_nI q6 (by omega), ?_⟩⟩
  rw [nI_s, nI_pr, cR]
  refine KI.mk ⟨in_nI q6 (by omega), ?_⟩
  simp (disch := omega) only [rdn, cR]
  rw [B5 1 2 (by omega) (by unfold sL; omega), g1, td, cd, B5 2 _ (by omega) (by unfold sL; omega), w1]
  refine ⟨in_nI (by omega) (by omega), ?_⟩
  generalize hσx : wr (wr (wr (wr (wr (wr (wr (wr (wr σ5 7 i V) 35 nR (nI i)) 36 nR (nI k)) 37 nR (nI h)) 34 7 (nI (nR + 1))) 38 nR (nI st)) 39 nR (nI w)) 40 nR (nI N)) 41 nR (nI T) = σx
  have X : ∀ q c, ¬ (q = 7 ∧ c = i) → ¬ (q = 34 ∧ c = 7) → ¬ ((35 ≤ q ∧ q ≤ 41) ∧ c = nR) → rd σx q c = rd σ5 q c := fun q c a1 a2 a3 => by
    rw [← hσx]
    simp (disch := omega) only [rdn]
  have A : ∀ q c, (59 ≤ q ∧ q < 118) → rd σx q c = rd σ' q c := fun q c hq => by
    rw [X q c (by omega) (by omega) (by omega)]
    exact B5 q c (by omega) (by unfold sL; omega)
  have hR : agr sR σ' σx := fun q c hq => by
    have h1 : ¬ (142 ≤ q ∧ q < 342) ∧ ¬ (q = 7 ∧ c = i) ∧ ¬ (q = 34 ∧ c = 7) ∧ ¬ ((35 ≤ q ∧ q ≤ 41) ∧ c = nR) := by
      unfold sR sLaws at hq
      omega
    rw [X q c h1.2.1 h1.2.2.1 h1.2.2.2]
    exact B5 q c h1.1 (sR_sL hq)
  have ham : ∀ b, b < nB → (((rd σx 76 b - rd σx 77 b) - rd σx 78 b) - rd σx 79 b) - rd σx 80 b = nI (shN σ' b) := fun b hb => by
    rw [A 76 _ (by omega), A 77 _ (by omega), A 78 _ (by omega), A 79 _ (by omega), A 80 _ (by omega)]
    exact (Bv h0 hb).2.2.2.2.2.2.2
  refine PI.mk (mm σx (nI T) A (fun q => absurd hT q) (fun _ q => absurd q (by omega)) (fun _ _ => ?_))
  refine (S_eldest h0 hR (nI i) (nI k) 0 ham hsh).mono ?_
  rintro v σ7 ⟨x8, rfl, hx8, ha7⟩
  refine ⟨_, rfl, ?_⟩
  refine takeM (P := fun a4 a5 σ => J Γ l (d + 5) mX12_buy (KI fun y σ3 => y = nI T ∧ Inv σ3) 66 [(0, .ref 59), (1, .int (nI i)), (2, .int (nI k)), (3, .int (nI N)), (4, .int a4), (5, .int a5)] [] σ) (Fin := fun a4 σ => J Γ l (d + 5) mX12_buy (KI fun y σ3 => y = nI T ∧ Inv σ3) 131 [(0, .ref 59), (1, .int (nI i)), (2, .int (nI k)), (3, .int (nI N)), (4, .int a4)] [] σ) h0 hR (q0 := 77) (by omega) (nI i) (nI k) 0 ham hsh (fun a4 a5 σ hh => w_X12_buy_66 _ _ _ _ _ hh) hN hL' (fun σ3 h3 => ?_) hx8 ha7
  rw [hTt]
  -- the last writes
  have A3 : ∀ q c, (59 ≤ q ∧ q < 118) → q ≠ 91 → q ≠ 77 → rd σ3 q c = rd σ' q c := fun q c hq h1 h2 => by
    rw [h3 q c h1, if_neg (by omega)]
    exact A q c hq
  refine w_X12_buy_131 _ _ _ _ ?_
  have e10 : (10 : Int32) * nI i + nI k = nI (10 * i + k) := by
    rw [show (10 : Int32) * nI i = nI (10 * i) from nI_muln 10 i, nI_addn]
  have sub : nI N - nI (N - T) = nI T := by
    rw [nI_subn (by omega)]
    congr 1
    omega
  rw [A3 59 45 (by omega) (by omega) (by omega), r2, cR, A3 59 1 (by omega) (by omega) (by omega), g2, td, cd, e10, cl (n := 10 * i + k) (by omega), ci, ck, A3 69 _ (by omega) (by omega) (by omega), t2, A3 68 _ (by omega) (by omega) (by omega), w2, A3 63 _ (by omega) (by omega) (by omega), p2, A3 62 _ (by omega) (by omega) (by omega), e1, sub, nI_s, price_eq hp hst, hV]
  refine ⟨in_nI q6 (by omega), in_nI (by omega) (by omega), in_nI (by omega) (by omega), in_nI (by omega) (by omega), in_nI (by omega) (by omega), KI.mk ⟨rfl, h, nS, nK, nB, ?_⟩⟩
  generalize hσf : wr (wr (wr (wr (wr (wr (wr (wr (wr σ3 92 nR (nI i)) 93 nR (nI k)) 94 nR (nI h)) 95 nR (nI st)) 96 nR (nI w)) 97 nR (nI N)) 98 nR (nI T)) 59 45 (nI (nR + 1))) 62 i V = σf
  have F : ∀ q c, ¬ (q = 62 ∧ c = i) → ¬ (q = 59 ∧ c = 45) → ¬ ((92 ≤ q ∧ q ≤ 98) ∧ c = nR) → rd σf q c = rd σ3 q c := fun q c a1 a2 a3 => by
    rw [← hσf]
    simp (disch := omega) only [rdn]
  have ZX : ∀ q c, q ≠ 91 → ¬ (q = 77 ∧ c < 200) → ¬ (q = 62 ∧ c = i) → ¬ (q = 59 ∧ c = 45) → ¬ ((92 ≤ q ∧ q ≤ 98) ∧ c = nR) → rd σf q c = rd σx q c := fun q c a1 a2 a3 a4 a5 => by
    rw [F q c a3 a4 a5, h3 q c a1, if_neg a2]
  have Z : ∀ q c, sL q c → q ≠ 91 → ¬ (q = 77 ∧ c < 200) → ¬ (q = 62 ∧ c = i) → ¬ (q = 59 ∧ c = 45) → ¬ ((92 ≤ q ∧ q ≤ 98) ∧ c = nR) → ¬ (142 ≤ q ∧ q < 342) → ¬ (q = 7 ∧ c = i) → ¬ (q = 34 ∧ c = 7) → ¬ ((35 ≤ q ∧ q ≤ 41) ∧ c = nR) → rd σf q c = rd σ' q c := fun q c a0 a1 a2 a3 a4 a5 a6 a7 a8 a9 => by
    rw [ZX q c a1 a2 a3 a4 a5, X q c a7 a8 a9]
    exact B5 q c a6 a0
  have n6 : IBatch h nB σf := by
    refine IBatch.tookR6 (A := amL (shN σ') ln N n) (I1.2.2.2.2.2.1) (fun b hb => by rw [s1e]; exact amL_le n b) (fun b hb => amL_not n b fun j hj => by have := (hL.2.1 j hj).1; omega) ?_
    intro q c hs
    have hs2 : q ≠ 91 ∧ ¬ (q = 62 ∧ c = i) ∧ ¬ (q = 59 ∧ c = 45) ∧ ¬ ((92 ≤ q ∧ q ≤ 98) ∧ c = nR) ∧ ¬ (q = 7 ∧ c = i) ∧ ¬ (q = 34 ∧ c = 7) ∧ ¬ ((35 ≤ q ∧ q ≤ 41) ∧ c = nR) := by
      unfold sBatch at hs
      omega
    rw [F q c hs2.2.1 hs2.2.2.1 hs2.2.2.2.1, h3 q c hs2.1, X q c hs2.2.2.2.2.1 hs2.2.2.2.2.2.1 hs2.2.2.2.2.2.2]
    by_cases d1 : 142 ≤ q ∧ q < 342 ∧ c = 5
    · rw [if_neg (by omega), if_pos d1, hx5, if_pos d1]
    by_cases d2 : 142 ≤ q ∧ q < 342 ∧ c = 6
    · rw [if_neg (by omega), if_neg d1, if_pos d2, hx5, if_neg d1, if_pos d2]
    rw [if_neg d1, if_neg d2, hx5, if_neg d1, if_neg d2]
  have n2 : IShops nS σf := by
    refine ⟨zS, ?_, ?_, fun j hj => ?_, fun j hj => ?_, fun j hj => ?_, fun j hj hj2 => ?_⟩
    · rw [Z 5 1 (by unfold sL; omega) (by omega) (by omega) (by omega) (by omega) (by omega) (by omega) (by omega) (by omega) (by omega)]
      exact s1
    · rw [Z 59 2 (by unfold sL; omega) (by omega) (by omega) (by omega) (by omega) (by omega) (by omega) (by omega) (by omega) (by omega)]
      exact s2
    · rw [Z 6 j (by unfold sL; omega) (by omega) (by omega) (by omega) (by omega) (by omega) (by omega) (by omega) (by omega) (by omega), Z 60 j (by unfold sL; omega) (by omega) (by omega) (by omega) (by omega) (by omega) (by omega) (by omega) (by omega) (by omega), Z 61 j (by unfold sL; omega) (by omega) (by omega) (by omega) (by omega) (by omega) (by omega) (by omega) (by omega) (by omega)]
      exact s3 j hj
    · by_cases ji : j = i
      · subst ji
        have f1 : rd σf 62 j = V := by
          rw [← hσf]
          exact rdy
        have f2 : rd σf 7 j = V := by
          rw [ZX 7 j (by omega) (by omega) (by omega) (by omega) (by omega), ← hσx]
          simp (disch := omega) only [rdn, rdy]
        rw [f1, f2]
      · rw [Z 62 j (by unfold sL; omega) (by omega) (by omega) (by omega) (by omega) (by omega) (by omega) (by omega) (by omega) (by omega), Z 7 j (by unfold sL; omega) (by omega) (by omega) (by omega) (by omega) (by omega) (by omega) (by omega) (by omega) (by omega)]
        exact s4 j hj
    · rw [Z 110 j (by unfold sL; omega) (by omega) (by omega) (by omega) (by omega) (by omega) (by omega) (by omega) (by omega) (by omega), Z 8 j (by unfold sL; omega) (by omega) (by omega) (by omega) (by omega) (by omega) (by omega) (by omega) (by omega) (by omega)]
      exact s5 j hj
    · rw [Z 8 j (by unfold sL; omega) (by omega) (by omega) (by omega) (by omega) (by omega) (by omega) (by omega) (by omega) (by omega)]
      exact s6 j hj hj2
  have x35 : rd σf 35 nR = nI i ∧ rd σf 36 nR = nI k ∧ rd σf 37 nR = nI h ∧ rd σf 38 nR = nI st ∧ rd σf 39 nR = nI w ∧ rd σf 40 nR = nI N ∧ rd σf 41 nR = nI T ∧ rd σf 34 7 = nI (nR + 1) := by
    rw [ZX 35 _ (by omega) (by omega) (by omega) (by omega) (by omega), ZX 36 _ (by omega) (by omega) (by omega) (by omega) (by omega), ZX 37 _ (by omega) (by omega) (by omega) (by omega) (by omega), ZX 38 _ (by omega) (by omega) (by omega) (by omega) (by omega), ZX 39 _ (by omega) (by omega) (by omega) (by omega) (by omega), ZX 40 _ (by omega) (by omega) (by omega) (by omega) (by omega), ZX 41 _ (by omega) (by omega) (by omega) (by omega) (by omega), ZX 34 7 (by omega) (by omega) (by omega) (by omega) (by omega), ← hσx]
    simp (disch := omega) only [rdn, rdy]
    exact ⟨trivial, trivial, trivial, trivial, trivial, trivial, trivial, trivial⟩
  have x92 : rd σf 92 nR = nI i ∧ rd σf 93 nR = nI k ∧ rd σf 94 nR = nI h ∧ rd σf 95 nR = nI st ∧ rd σf 96 nR = nI w ∧ rd σf 97 nR = nI N ∧ rd σf 98 nR = nI T ∧ rd σf 59 45 = nI (nR + 1) := by
    rw [← hσf]
    simp (disch := omega) only [rdn, rdy]
    exact ⟨trivial, trivial, trivial, trivial, trivial, trivial, trivial, trivial⟩
  have old : ∀ q, (35 ≤ q ∧ q ≤ 41) ∨ (92 ≤ q ∧ q ≤ 98) → ∀ r, r < nR → rd σf q r = rd σ' q r := fun q hq r hr => Z q r (by unfold sL; omega) (by omega) (by omega) (by omega) (by omega) (by omega) (by omega) (by omega) (by omega) (by omega)
  have n11 : IRows h σf := by
    refine ⟨nR + 1, by omega, x35.2.2.2.2.2.2.2, x92.2.2.2.2.2.2.2, fun r hr => ?_, fun r r' hrr hr' => ?_⟩
    · rcases Nat.lt_or_ge r nR with c' | c'
      · obtain ⟨s', k', t', st', w', a', g', hb, xx, yy⟩ := r3 r c'
        refine ⟨s', k', t', st', w', a', g', hb, ?_, ?_⟩
        · rw [old 35 (by omega) r c', old 36 (by omega) r c', old 37 (by omega) r c', old 38 (by omega) r c', old 39 (by omega) r c', old 40 (by omega) r c', old 41 (by omega) r c']
          exact xx
        · rw [old 92 (by omega) r c', old 93 (by omega) r c', old 94 (by omega) r c', old 95 (by omega) r c', old 96 (by omega) r c', old 97 (by omega) r c', old 98 (by omega) r c']
          exact yy
      · have : r = nR := by omega
        subst this
        obtain ⟨v1, v2, v3, v4, v5, v6, v7, -⟩ := x35
        obtain ⟨u1, u2, u3, u4, u5, u6, u7, -⟩ := x92
        exact ⟨i, k, h, st, w, N, T, ⟨by omega, by omega, by omega, hT.1.1, hT.1.2, hst, hw, hN, tl⟩, ⟨v1, v2, v3, v4, v5, v6, v7⟩, ⟨u1, u2, u3, u4, u5, u6, u7⟩⟩
    · rcases Nat.lt_or_ge r' nR with c' | c'
      · rw [old 37 (by omega) r (by omega), old 37 (by omega) r' c']
        exact r4 r r' hrr c'
      · have : r' = nR := by omega
        subst this
        obtain ⟨s', k', t', st', w', a', g', hb, ⟨-, -, xx, -⟩, -⟩ := r3 r (by omega)
        rw [old 37 (by omega) r (by omega), x35.2.2.1, xx, cl (by omega), cl (by omega)]
        exact hb.2.2.1
  obtain ⟨i1, i2, i3, i4, i5, i6, i7, i8, i9, i10, i11, i12, i13, i14⟩ := id h0
  refine ⟨i1.of ?_, n2, i3.of ?_, i4.of ?_, i5.of ?_, n6, i7.of ?_, i8.of ?_, i9.of ?_, i10.of ?_, n11, i12.of ?_, i13.of ?_, i14.of ?_⟩
  all_goals (intro q e hs; simp only [sHour, sShops, sKinds, sDays, sStep, sBatch, sSpoil, sKit, sTape, sLaws, sRows, sCuts, sBox, sCost] at hs; exact Z q e (by unfold sL; omega) (by omega) (by omega) (by omega) (by omega) (by omega) (by omega) (by omega) (by omega) (by omega))
end BY

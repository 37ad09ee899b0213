/-! CRATES: the pair -/
section WW
variable {Γ : GG} {l : Launch} {d : Nat} {σ : St}
theorem S_waysM {Q : Option Value → St → Prop} {z : Nat} {nd sp p : Nat → Nat} (hz : z ≤ 12) (h2 : rd σ 59 2 = nI z) (hnd : ∀ s, s < z → rd σ 105 s = nI (nd s) ∧ nd s ≤ 3) (hsp : ∀ s, s < z → rd σ 104 s = nI (sp s) ∧ sp s ≤ 3) (hp : ∀ s, p s < 10000) (hx : ∀ s, s < z → rd σ 60 s = nI (p s / 100) ∧ rd σ 61 s = nI (p s % 100))
    (finB : 6 < sU nd z → ∀ σ' : St, (∀ q k, q ≠ 106 → rd σ' q k = rd σ q k) → Q (some (.int (-4))) σ')
    (finG : sU nd z ≤ 6 → ∀ (σ' : St) (b : Nat → Nat), vld z (gG nd z) sp b (sU nd z) → (∀ c, vld z (gG nd z) sp c (sU nd z) → kyC z (gG nd z) (mlP p) b (sU nd z) ≤ kyC z (gG nd z) (mlP p) c (sU nd z)) → rd σ' 59 65 = nI (sU nd z) → rd σ' 59 66 = nI z → (∀ i, i < sU nd z → rd σ' 108 i = nI (b i)) → (∀ q k, q ≠ 106 → q ≠ 107 → q ≠ 108 → ¬ (q = 59 ∧ (k = 65 ∨ k = 66)) → rd σ' q k = rd σ q k) → Q (some (.int (nI (miC z (gG nd z) (mlP p) b (sU nd z))))) σ') : Meth Γ l (d + 3) mX12_ways [.ref 59] σ Q := by
  have mono : ∀ s, s ≤ z → sU nd s ≤ sU nd z := fun s hs => pre_le hs
  have tot : ∀ s, s ≤ z → sU nd s ≤ 36 := fun s hs => by
    have h1 := sU_le (f := nd) (B := 3) s fun j hj => (hnd j (by omega)).2
    omega
  have outer : ∀ f s σi, s + f = z → (∀ j, j < sU nd s → rd σi 106 j = nI (gG nd s j)) → (∀ q k, q ≠ 106 → rd σi q k = rd σ q k) → J Γ l (d + 3) mX12_ways Q 4 [(0, .ref 59), (1, .int (nI (sU nd s))), (2, .int (nI s))] [] σi := by
    intro f
    induction f with
    | zero =>
      intro s σi hs h106 ag
      have : s = z := by omega
      subst this
      have t := tot s (Nat.le_refl _)
      have e2 : rd σi 59 2 = nI s := (ag 59 2 (by omega)).trans h2
      refine w_X12_ways_4 _ _ ⟨fun _ => ?_, fun q => absurd (yle e2 (Nat.le_refl _) (by omega)) q⟩
      rw [show (6 : Int32) = nI 6 from rfl, nI_lei (by omega) (by omega), e2]
      refine ⟨fun q => ?_, fun q => finB (by omega) σi ag⟩
      have ag3 : ∀ q k, q ≠ 106 → q ≠ 107 → ¬ (q = 59 ∧ (k = 65 ∨ k = 66)) → rd (wr (wr (wr σi 59 65 (nI (sU nd s))) 59 66 (nI s)) 107 0 (-1)) q k = rd σ q k := fun q k a1 a2 a3 => by
        rw [rdn (by omega), rdn (by omega), rdn (by omega)]
        exact ag q k a1
      have e65 : rd (wr (wr (wr σi 59 65 (nI (sU nd s))) 59 66 (nI s)) 107 0 (-1)) 59 65 = nI (sU nd s) := by
        rw [rdn (by omega), rdn (by omega), rdy]
      have e66 : rd (wr (wr (wr σi 59 65 (nI (sU nd s))) 59 66 (nI s)) 107 0 (-1)) 59 66 = nI s := by
        rw [rdn (by omega), rdy]
      have e107 : rd (wr (wr (wr σi 59 65 (nI (sU nd s))) 59 66 (nI s)) 107 0 (-1)) 107 0 = -1 := rdy
      have e106 : ∀ j, j < sU nd s → rd (wr (wr (wr σi 59 65 (nI (sU nd s))) 59 66 (nI s)) 107 0 (-1)) 106 j = nI (gG nd s j) := fun j hj => by
        rw [rdn (by omega), rdn (by omega), rdn (by omega)]
        exact h106 j hj
      generalize wr (wr (wr σi 59 65 (nI (sU nd s))) 59 66 (nI s)) 107 0 (-1) = σ3 at *
      rcases Nat.eq_zero_or_pos (sU nd s) with c | c
      · have fz := finG q σ3 (fun _ => s) (fun i _ => Or.inl rfl) (fun c' _ => by rw [c]; exact Nat.le_refl _) e65 e66 (fun i hi => absurd hi (by omega)) (fun q k a1 a2 a3 a4 => ag3 q k a1 a2 a4)
        rw [c] at fz ⊢
        exact w_X12_ways_82 _ _ _ _ ⟨fun q => absurd q (by decide), fun _ => ⟨fun _ => fz, fun q => absurd (by decide) q⟩⟩
      · refine S_ways82 (g := gG nd s) (sp := sp) (p := p) q c hz ((ag3 59 2 (by omega) (by omega) (by omega)).trans h2) (fun i hi => ⟨e106 i hi, gG_lt s i hi⟩) (fun t ht => ⟨(ag3 104 t (by omega) (by omega) (by omega)).trans (hsp t ht).1, (hsp t ht).2⟩) hp (fun t ht => ⟨(ag3 60 t (by omega) (by omega) (by omega)).trans (hx t ht).1, (ag3 61 t (by omega) (by omega) (by omega)).trans (hx t ht).2⟩) (fun σ' b hb hmin h108 hag => ?_) e107
        exact finG q σ' b hb hmin ((hag 59 65 (by omega) (by omega)).trans e65) ((hag 59 66 (by omega) (by omega)).trans e66) h108 (fun q k a1 a2 a3 a4 => (hag q k a2 a3).trans (ag3 q k a1 a2 a4))
    | succ f ih =>
      intro s σi hs h106 ag
      obtain ⟨n1, n2⟩ := hnd s (by omega)
      have t1 := tot (s + 1) (by omega)
      have es : sU nd (s + 1) = sU nd s + nd s := rfl
      have e2 : rd σi 59 2 = nI z := (ag 59 2 (by omega)).trans h2
      have inner : ∀ f' k σk, k + f' = nd s → (∀ j, j < sU nd s → rd σk 106 j = nI (gG nd s j)) → (∀ j, sU nd s ≤ j → j < sU nd s + k → rd σk 106 j = nI s) → (∀ q k, q ≠ 106 → rd σk q k = rd σ q k) → J Γ l (d + 3) mX12_ways Q 14 [(0, .ref 59), (1, .int (nI (sU nd s + k))), (2, .int (nI s)), (3, .int (nI k))] [] σk := by
        intro f'
        induction f' with
        | zero =>
          intro k σk hk hj1 hj2 agk
          have : k = nd s := by omega
          subst this
          refine w_X12_ways_14 _ _ _ ⟨in_nI (by omega) (by omega), fun _ y hy => ?_, fun q => ?_⟩
          · rw [nI_s] at hy
            subst hy
            refine ih (s + 1) σk (by omega) (fun j hj => ?_) agk
            show _ = nI (if sU nd s ≤ j ∧ j < sU nd (s + 1) then s else gG nd s j)
            by_cases c : sU nd s ≤ j
            · rw [if_pos ⟨c, hj⟩]
              exact hj2 j c (by omega)
            · rw [if_neg (by omega)]
              exact hj1 j (by omega)
          · rw [cl (n := s) (by omega), agk 105 s (by omega), n1] at q
            exact absurd (Int32.le_refl _) q
        | succ f' ihk =>
          intro k σk hk hj1 hj2 agk
          refine w_X12_ways_14 _ _ _ ⟨in_nI (by omega) (by omega), fun q => ?_, fun _ => ⟨in_nI (by omega) (by omega), fun x hx y hy => ?_⟩⟩
          · rw [cl (n := s) (by omega), agk 105 s (by omega), n1, nI_lei (by omega) (by omega)] at q
            omega
          · rw [nI_s] at hx hy
            subst hx hy
            rw [cl (n := sU nd s + k) (by omega)]
            refine ihk (k + 1) _ (by omega) (fun j hj => by rw [rdn (by omega)]; exact hj1 j hj) (fun j q1 q2 => ?_) (fun q k' a1 => by rw [rdn (by omega)]; exact agk q k' a1)
            by_cases c : j = sU nd s + k
            · subst c
              exact rdy
            · rw [rdn (by omega)]
              exact hj2 j q1 (by omega)
      exact w_X12_ways_4 _ _ ⟨fun q => absurd q (nle e2 (by omega) (by omega)), fun _ => inner (nd s) 0 σi (by omega) h106 (fun j q1 q2 => absurd q2 (by omega)) ag⟩
  exact M_X12_ways (w_X12_ways_0 (outer z 0 σ (by omega) (fun j hj => absurd hj (by show ¬ j < 0; omega)) (fun _ _ _ => rfl)))
theorem P_ways (hI : Inv σ) : Meth Γ l (d + 4) mX11_ways [.ref 0] σ (PI Γ l (d + 3) mX12_ways [.ref 59]) := by
  have hI2 := hI
  obtain ⟨h, nS, nK, nB, h0⟩ := hI2
  obtain ⟨i1, i2, i3, i4, i5, i6, i7, i8, i9, i10, i11, i12, i13, i14⟩ := id h0
  obtain ⟨zS, s1, s2, s3, s4, s5, s6⟩ := id i2
  obtain ⟨x1, x2⟩ := id i13
  obtain ⟨nd, hnd⟩ : ∃ nd : Nat → Nat, (∀ s, s < 12 → rd σ 51 s = nI (nd s) ∧ rd σ 105 s = nI (nd s) ∧ nd s ≤ 3) ∧ ∀ s, nS ≤ s → nd s = 0 := by
    refine ⟨fun s => if s < 12 then (rd σ 51 s).toNatClampNeg else 0, fun s hs => ?_, fun s hs => ?_⟩
    · obtain ⟨-, ⟨c, hc, e1, e2⟩, -⟩ := x1 s hs
      dsimp only
      rw [if_pos hs, e1, cl (by omega)]
      exact ⟨rfl, e2, hc⟩
    · dsimp only
      split
      · rename_i hs2
        rw [((x1 s hs2).2.2 hs).2]
        rfl
      · rfl
  obtain ⟨sp, hsp⟩ : ∃ sp : Nat → Nat, ∀ s, s < 12 → rd σ 50 s = nI (sp s) ∧ rd σ 104 s = nI (sp s) ∧ sp s ≤ 3 := by
    refine ⟨fun s => (rd σ 50 s).toNatClampNeg, fun s hs => ?_⟩
    obtain ⟨⟨c, hc, e1, e2⟩, -⟩ := x1 s hs
    dsimp only
    rw [e1, cl (by omega)]
    exact ⟨rfl, e2, hc⟩
  obtain ⟨p, hp, hpx⟩ : ∃ p : Nat → Nat, (∀ s, p s < 10000) ∧ ∀ s, s < nS → rd σ 6 s = nI (p s) ∧ rd σ 60 s = nI (p s / 100) ∧ rd σ 61 s = nI (p s % 100) := by
    refine ⟨fun s => if s < nS then (rd σ 6 s).toNatClampNeg else 0, fun s => ?_, fun s hs => ?_⟩
    · dsimp only
      split
      · rename_i hs
        obtain ⟨p, hp, e1, -⟩ := s3 s hs
        rw [e1, cl (by omega)]
        exact hp
      · omega
    · obtain ⟨p, hp, e1, e2, e3⟩ := s3 s hs
      dsimp only
      rw [if_pos hs, e1, cl (by omega)]
      exact ⟨rfl, e2, e3⟩
  obtain ⟨u1, u2⟩ := gG_up (nd := nd) (a := nS) (12 - nS) hnd.2
  rw [show nS + (12 - nS) = 12 by omega] at u1
  have tot : sU nd nS ≤ 36 := by
    have h1 := sU_le (f := nd) (B := 3) nS fun j hj => (hnd.1 j (by omega)).2.2
    omega
  refine M_X11_ways (w_X11_ways_0 ((S_allNeed (d := d + 3) (nd := nd) fun s hs => ⟨(hnd.1 s hs).1, (hnd.1 s hs).2.2⟩).mono ?_))
  rintro v σ' ⟨x, rfl, rfl, rfl⟩
  refine ⟨_, rfl, ?_⟩
  dsimp only
  rw [u1, show (6 : Int32) = nI 6 from rfl, nI_lei (by omega) (by omega)]
  refine ⟨fun q => ?_, fun q => PI.mk ?_⟩
  · refine (S_cratesX (d := d) (z := nS) (nd := nd) (sp := sp) (p := p) zS s1 (fun s hs => ⟨(hnd.1 s hs).1, (hnd.1 s hs).2.2⟩) hnd.2 (by omega) (fun s hs => ⟨(hsp s (by omega)).1, (hsp s (by omega)).2.2⟩) hp (fun s hs => (hpx s hs).1)).mono ?_
    rintro v σ3 ⟨x, rfl, c, hc, hmin, rfl, e5, e53, hag⟩
    refine ⟨_, rfl, PI.mk ?_⟩
    have A : ∀ q k, 59 ≤ q → rd σ3 q k = rd σ q k := fun q k hq => hag q k (by omega) (by omega) (by omega)
    refine S_waysM (z := nS) (nd := nd) (sp := sp) (p := p) zS ((A 59 2 (by omega)).trans s2) (fun s hs => ⟨(A 105 s (by omega)).trans (hnd.1 s (by omega)).2.1, (hnd.1 s (by omega)).2.2⟩) (fun s hs => ⟨(A 104 s (by omega)).trans (hsp s (by omega)).2.1, (hsp s (by omega)).2.2⟩) hp (fun s hs => ⟨(A 60 s (by omega)).trans (hpx s hs).2.1, (A 61 s (by omega)).trans (hpx s hs).2.2⟩) (fun r => absurd r (by omega)) (fun _ σ4 b hb bmin b65 b66 b108 bag => ?_)
    have hml := mlP_le hp
    have hgl : ∀ i, i < sU nd nS → gG nd nS i < nS := fun i hi => gG_lt nS i hi
    have ek : kyC nS (gG nd nS) (mlP p) b (sU nd nS) = kyC nS (gG nd nS) (mlP p) c (sU nd nS) := Nat.le_antisymm (bmin c hc) (hmin b hb)
    have em : miC nS (gG nd nS) (mlP p) b (sU nd nS) = miC nS (gG nd nS) (mlP p) c (sU nd nS) := by
      rw [← ky_mi q zS hml (vld_le hb), ← ky_mi q zS hml (vld_le hc), ek]
    have eb : ∀ i, i < sU nd nS → b i = c i := fun i hi => by
      refine dgt_inj zS (vld_le hb i hi) (vld_le hc i hi) ?_
      rw [← ky_dig (g := gG nd nS) (ml := mlP p) q zS (vld_le hb) hi, ← ky_dig (g := gG nd nS) (ml := mlP p) q zS (vld_le hc) hi, ek]
    have Z : ∀ q k, ¬ (q = 49 ∧ k = 5) → q ≠ 52 → q ≠ 53 → q ≠ 106 → q ≠ 107 → q ≠ 108 → ¬ (q = 59 ∧ (k = 65 ∨ k = 66)) → rd σ4 q k = rd σ q k := fun q k a1 a2 a3 a4 a5 a6 a7 => (bag q k a4 a5 a6 a7).trans (hag q k a2 a3 a1)
    have n13 : IBox nS σ4 := by
      refine ⟨fun i hi => ?_, Or.inr ⟨sU nd nS, nS, q, zS, ?_, b65, b66, fun i hi => ?_⟩⟩
      · rw [Z 50 i (by omega) (by omega) (by omega) (by omega) (by omega) (by omega) (by omega), Z 51 i (by omega) (by omega) (by omega) (by omega) (by omega) (by omega) (by omega), Z 104 i (by omega) (by omega) (by omega) (by omega) (by omega) (by omega) (by omega), Z 105 i (by omega) (by omega) (by omega) (by omega) (by omega) (by omega) (by omega)]
        exact x1 i hi
      · exact (bag 49 5 (by omega) (by omega) (by omega) (by omega)).trans e5
      · have e1 : rd σ4 53 i = nI (dgt nS (c i)) := (bag 53 i (by omega) (by omega) (by omega) (by omega)).trans (e53 i hi)
        have e2 : rd σ4 108 i = nI (c i) := (b108 i hi).trans (by rw [eb i hi])
        have e3 := vld_le hc i hi
        unfold dgt at e1
        by_cases r : c i = nS
        · rw [if_pos r] at e1
          exact Or.inr ⟨e1, by rw [e2, r]⟩
        · rw [if_neg r] at e1
          exact Or.inl ⟨c i, by omega, e1, e2⟩
    refine KI.mk ⟨by rw [em], h, nS, nK, nB, i1.of ?_, i2.of ?_, i3.of ?_, i4.of ?_, i5.of ?_, i6.of ?_, i7.of ?_, i8.of ?_, i9.of ?_, i10.of ?_, i11.of ?_, i12.of ?_, n13, i14.of ?_⟩
    all_goals
      intro q k hq
      simp only [sHour, sShops, sKinds, sDays, sStep, sBatch, sSpoil, sKit, sTape, sLaws, sRows, sCuts, sBox, sCost] at hq
      exact Z q k (by omega) (by omega) (by omega) (by omega) (by omega) (by omega) (by omega)
  · refine S_waysM (z := nS) (nd := nd) (sp := sp) (p := p) zS s2 (fun s hs => ⟨(hnd.1 s (by omega)).2.1, (hnd.1 s (by omega)).2.2⟩) (fun s hs => ⟨(hsp s (by omega)).2.1, (hsp s (by omega)).2.2⟩) hp (fun s hs => ⟨(hpx s hs).2.1, (hpx s hs).2.2⟩) (fun _ σ2 hag => KI.mk ⟨rfl, h, nS, nK, nB, h0.of fun q k hq => ?_⟩) (fun r => absurd r (by omega))
    have hz : q ≠ 106 := by
      simp only [sAll, sHour, sShops, sKinds, sDays, sStep, sBatch, sSpoil, sKit, sTape, sLaws, sRows, sCuts, sBox, sCost] at hq
      omega
    exact hag q k hz
end WW

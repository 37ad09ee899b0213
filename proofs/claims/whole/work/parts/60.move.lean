/-! MOVE: the pair -/
section MP
variable {Γ : GG} {l : Launch} {d : Nat} {σ : St}
theorem P_move (a b c e : Int32) (hI : Inv σ) : Meth Γ l (d + 6) mX11_move [.ref 0, .int a, .int b, .int c, .int e] σ (PI Γ l (d + 5) mX12_move [.ref 59, .int a, .int b, .int c, .int e]) := by
  have hI2 := hI
  obtain ⟨h, nS, nK, nB, h0⟩ := hI2
  obtain ⟨i1, i2, i3, i4, i5, i6, i7, i8, i9, i10, i11, -⟩ := id h0
  obtain ⟨zS, s1, s2, s3, s4, s5, s6⟩ := id i2
  obtain ⟨zK, k1, k2, k3⟩ := id i3
  obtain ⟨zB, b1, b2, b3, b4⟩ := id i6
  have bad : ¬ (((0 ≤ a ∧ a < nI nS) ∧ 0 ≤ c ∧ c < nI nK) ∧ (0 ≤ b ∧ b < nI nS) ∧ ¬ a = b ∧ ((1 : Int32) ≤ e ∧ e ≤ 999)) → bad1 σ Γ l (d + 5) mX12_move [.ref 59, .int a, .int b, .int c, .int e] (-1) := fun hn => M_X12_move _ _ _ _ (w_X12_move_0 _ _ _ _ ⟨fun ha => ⟨fun hb => ⟨fun _ => KI.mk ⟨rfl, hI⟩, fun hq => ⟨fun he => absurd ⟨⟨(cM (by omega) s2).mp ha.1, (cM (by omega) k2).mp ha.2⟩, (cM (by omega) s2).mp hb, hq, he⟩ hn, fun _ => KI.mk ⟨rfl, hI⟩⟩⟩, fun _ => KI.mk ⟨rfl, hI⟩⟩, fun _ => KI.mk ⟨rfl, hI⟩⟩)
  refine M_X11_move _ _ _ _ (w_X11_move_0 _ _ _ _ ⟨fun ha => ⟨fun hb => ⟨fun q => PI.mk (bad fun r => r.2.2.1 q), fun hq => ⟨fun he => ?_, fun q => PI.mk (bad fun r => q r.2.2.2)⟩⟩, fun q => PI.mk (bad fun r => q ((cX s1).mpr r.2.1))⟩, fun q => PI.mk (bad fun r => q ⟨(cX s1).mpr r.1.1, (cX k1).mpr r.1.2⟩)⟩)
  obtain ⟨s, hs, rfl⟩ := rng nS (by omega) ((cX s1).mp ha.1)
  obtain ⟨k, hk, rfl⟩ := rng nK (by omega) ((cX k1).mp ha.2)
  obtain ⟨o, ho, rfl⟩ := rng nS (by omega) ((cX s1).mp hb)
  obtain ⟨most, hm1, hm, rfl⟩ : ∃ p : Nat, 1 ≤ p ∧ p ≤ 999 ∧ e = nI p := by
    have h3 := he
    rw [ti_le, ti_le] at h3
    have e1 : (1 : Int32).toInt = 1 := rfl
    have e9 : (999 : Int32).toInt = 999 := rfl
    exact ⟨e.toInt.toNat, by omega, by omega, nI_of_ti (by omega)⟩
  have hso : s ≠ o := fun q => hq (by rw [q])
  refine (S_lineUp h0 agr.rf (nI s) (nI k) 0).mono ?_
  rintro v σ1 ⟨x, rfl, rfl, ⟨n, ln, hL, hLA⟩, ag⟩
  have hL' : Line (elS σ (nI s) (nI k) 0 (shN σ)) (mdN σ) nB n ln := hL
  have hsh : ∀ b, b < nB → shN σ b ≤ 999 := fun b hb => (Bv h0 hb).2.2.2.1
  have z := (none_iff (most := most) hL' hsh zB hm1).1
  have I1 : Inv0 h nS nK nB σ1 := h0.of (ag.sub fun _ _ => sL_inv)
  have hsh1 : ∀ b, b < nB → shN σ1 b ≤ 999 := fun b hb => (Bv I1 hb).2.2.2.1
  have e1 : shN σ1 = shN σ := funext fun b => by
    unfold shN
    rw [ag _ 5 (by unfold sL; omega)]
  have e2 : mdN σ1 = mdN σ := funext fun b => by
    unfold mdN
    rw [ag _ 3 (by unfold sL; omega)]
  have e3 : elS σ1 (nI s) (nI k) 0 (shN σ1) = elS σ (nI s) (nI k) 0 (shN σ) := funext fun b => by
    have em : mayM σ1 0 b = mayM σ 0 b := mayM_of fun q c hq => ag q c (by unfold sL; omega)
    unfold elS
    rw [e1, em, ag 71 b (by unfold sL; omega), ag 72 b (by unfold sL; omega)]
  have L1 : Line (elS σ1 (nI s) (nI k) 0 (shN σ1)) (mdN σ1) nB n ln := by
    rw [e3, e2]
    exact hL'
  have nBn := L1.1
  obtain ⟨T, hT⟩ := exT (shN σ1) ln most n
  have hT1 := hT.1
  have mm : ∀ (σ2 : St) (X : Int32), (∀ q c, 59 ≤ q → q < 118 → rd σ2 q c = rd σ1 q c) → (∀ q c, (q < 59 ∨ 118 ≤ q) → sLaws q c → rd σ2 q c = rd σ1 q c) → (∀ y σ', mvR σ1 σ2 nB (nI o) ln most n T y σ' → y = X ∧ Inv σ') → PI Γ l (d + 5) mX12_move [.ref 59, .int (nI s), .int (nI o), .int (nI k), .int (nI most)] (some (.int X)) σ2 := by
    intro σ2 X hR hC hf
    refine PI.mk ((S_moveM I1 hs ho hk hso hm hm1 L1 hT hR hC).mono ?_)
    rintro v σ' ⟨y, rfl, hy⟩
    exact KI.mk (hf y σ' hy)
  have same : ∀ σ', (∀ q c, q ≠ 91 → q ≠ 109 → rd σ' q c = rd σ1 q c) → Inv σ' := fun σ' hA => ⟨h, nS, nK, nB, I1.of fun q c hq => by
    have hz : q ≠ 91 ∧ q ≠ 109 := by
      simp only [sAll, sHour, sShops, sKinds, sDays, sStep, sBatch, sSpoil, sKit, sTape, sLaws, sRows, sCuts, sBox, sCost] at hq
      omega
    exact hA q c hz.1 hz.2⟩
  refine ⟨_, rfl, fun q => ?_, fun q => ?_⟩
  · have n0 := z.mp q
    refine mm σ1 (-2) (fun _ _ _ _ => rfl) (fun _ _ _ _ => rfl) ?_
    rintro y σ' (⟨-, hy, hA⟩ | ⟨r, -⟩ | ⟨r, -⟩)
    · exact ⟨hy, same σ' hA⟩
    · omega
    · omega
  have n0 : 0 < n := by
    rcases Nat.eq_zero_or_pos n with r | r
    · exact absurd (z.mpr r) q
    · exact r
  have hlT : ∀ j, j < n → ln j < nB := fun j hj => (L1.2.1 j hj).1
  refine (S_touchedBy (n := n) (T := T) (sh := shN σ1) (ln := ln) hm (by omega) hLA (fun j hj => ?_) hT).mono ?_
  · have lj := hlT j hj
    exact ⟨by omega, (Bv I1 lj).2.2.1, hsh1 _ lj⟩
  rintro v σ3 ⟨x, rfl, rfl, rfl⟩
  refine ⟨_, rfl, ?_⟩
  dsimp only
  rw [show rd σ1 17 1 = nI nB from I1.2.2.2.2.2.1.2.1, show (200 : Int32) = nI 200 from rfl, nI_subn zB, nI_lei (by omega) (by omega)]
  refine ⟨fun r => ?_, fun r => ?_⟩
  · refine (S_moveFromLine (d := d + 4) I1 (show o < 12 by omega) hm nBn hLA hlT L1.dist hT (by omega)).mono ?_
    rintro v σ5 ⟨x, rfl, rfl, hX, hM⟩
    have S1 := mvG_same (σ := σ1) (o := nI o) (sh := shN σ1) (most := most) hlT T hT1 (by omega)
    have IT := mvG_inv (most := most) I1 (show o < 12 by omega) hlT L1.dist (fun b hb => (Bv I1 hb).2.2.1) hsh1 T hT1 (by omega)
    refine ⟨_, rfl, mm σ5 _ hM (fun q c r1 r2 => ?_) ?_⟩
    · rw [hX q c r1]
      refine S1 q c ?_ ?_ ?_ ?_ ?_ ?_ <;> (unfold sLaws at r2; omega)
    · rintro y σ' (⟨r, -⟩ | ⟨-, r, -⟩ | ⟨-, -, hy, hA, hB⟩)
      · omega
      · omega
      · refine ⟨hy, h, nS, nK, nB + T, IT.of fun q c hq => ?_⟩
        have hz : q ≠ 91 ∧ q ≠ 109 := by
          simp only [sAll, sHour, sShops, sKinds, sDays, sStep, sBatch, sSpoil, sKit, sTape, sLaws, sRows, sCuts, sBox, sCost] at hq
          omega
        rcases Nat.lt_or_ge q 59 with r1 | r1
        · rw [hA q c (Or.inl r1), hX q c (Or.inl r1)]
        · rcases Nat.lt_or_ge q 118 with r2 | r2
          · exact hB q c r1 r2 hz.1 hz.2
          · rw [hA q c (Or.inr r2), hX q c (Or.inr r2)]
  · refine mm σ1 (-3) (fun _ _ _ _ => rfl) (fun _ _ _ _ => rfl) ?_
    rintro y σ' (⟨q1, -⟩ | ⟨-, -, hy, hA⟩ | ⟨-, q1, -⟩)
    · omega
    · exact ⟨hy, same σ' hA⟩
    · omega
end MP

/-! SHELF, the pair -/
section SP
variable {Γ : GG} {l : Launch} {d : Nat} {σ : St}
theorem sR_sL {q c : Nat} (h : sR q c) : sL q c := by
  unfold sR sLaws at h
  unfold sL
  omega
theorem P_shelf (a b c : Int32) (hI : Inv σ) : Meth Γ l (d + 6) mX11_shelf [.ref 0, .int a, .int b, .int c] σ (PI Γ l (d + 5) mX12_shelf [.ref 59, .int a, .int b, .int c]) := by
  have hI2 := hI
  obtain ⟨h, nS, nK, nB, h0⟩ := hI2
  obtain ⟨i1, i2, i3, -⟩ := id h0
  obtain ⟨zS, s1, s2, s3, s4, s5, s6⟩ := id i2
  obtain ⟨zK, k1, k2, k3⟩ := id i3
  have bad : ¬ (((0 ≤ a ∧ a < nI nS) ∧ 0 ≤ b ∧ b < nI nK) ∧ ((0 : Int32) ≤ c ∧ c ≤ 2)) → bad1 σ Γ l (d + 5) mX12_shelf [.ref 59, .int a, .int b, .int c] (-1) := fun hn => M_X12_shelf _ _ _ (w_X12_shelf_0 _ _ _ ⟨fun ha => ⟨fun hc => absurd ⟨⟨(cM (by omega) s2).mp ha.1, (cM (by omega) k2).mp ha.2⟩, hc⟩ hn, fun _ => KI.mk ⟨rfl, hI⟩⟩, fun _ => KI.mk ⟨rfl, hI⟩⟩)
  refine M_X11_shelf _ _ _ (w_X11_shelf_0 _ _ _ ⟨fun ha => ⟨fun hc => ?_, fun q => PI.mk (bad fun r => q r.2)⟩, fun q => PI.mk (bad fun r => q (by rw [s1, k1]; exact r.1))⟩)
  have c1 := (cX s1).mp ha.1
  have c2 := (cX k1).mp ha.2
  obtain ⟨w, hw, rfl⟩ := rngL 2 (by omega) hc
  have fin : ∀ (x : Int32) (σ1 : St), agr sL σ σ1 → x = sumTo (fSum (fun b' => decide (rd σ 71 b' = a ∧ rd σ 72 b' = b ∧ (nI w = 0 ∨ mayM σ (nI w - 1) b' = true))) (shN σ)) nB → PI Γ l (d + 5) mX12_shelf [.ref 59, .int a, .int b, .int (nI w)] (some (.int x)) σ1 := by
    intro x σ1 ag hx
    have A : ∀ q e, (59 ≤ q ∧ q < 118) → rd σ1 q e = rd σ q e := fun q e hq => ag q e (by unfold sL; omega)
    refine PI.mk (M_X12_shelf _ _ _ (w_X12_shelf_0 _ _ _ ⟨fun _ => ⟨fun _ => ?_, fun q => absurd hc q⟩, fun q => absurd ?_ q⟩))
    · refine (S_shelfOf (sh := shN σ) h0 (ag.sub fun _ _ => sR_sL) a b (nI w) (fun b' hb => ?_)).mono ?_
      · obtain ⟨-, -, -, -, -, -, -, v⟩ := Bv h0 hb
        rw [A 76 _ (by omega), A 77 _ (by omega), A 78 _ (by omega), A 79 _ (by omega), A 80 _ (by omega)]
        exact v
      · rintro v σ2 ⟨y, rfl, rfl, ha2⟩
        exact ⟨_, rfl, KI.mk ⟨hx.symm, h, nS, nK, nB, (h0.of (ag.sub fun _ _ => sL_inv)).of (ha2.sub fun _ _ => oM_inv)⟩⟩
    · rw [A 59 2 (by omega), A 59 6 (by omega)]
      exact ⟨(cM (n := nS) (by omega) s2).mpr c1, (cM (n := nK) (by omega) k2).mpr c2⟩
  have same : ∀ u : Int32, nI w ≠ 0 → nI w - 1 = u → sumTo (fSum (elB σ a b u) (shN σ)) nB = sumTo (fSum (fun b' => decide (rd σ 71 b' = a ∧ rd σ 72 b' = b ∧ (nI w = 0 ∨ mayM σ (nI w - 1) b' = true))) (shN σ)) nB := by
    intro u hw0 hu
    subst hu
    refine sumTo_congr fun i hi => ?_
    unfold fSum elB
    by_cases h1 : rd σ 71 i = a <;> by_cases h2 : rd σ 72 i = b <;> by_cases h3 : mayM σ (nI w - 1) i = true <;> rcases Nat.eq_zero_or_pos (shN σ i) with h4 | h4 <;> simp [h1, h2, h3, h4, hw0] <;> rfl
  refine ⟨fun w0 => ?_, fun w0 => ⟨fun w1 => ?_, fun w1 => ?_⟩⟩
  · refine (S_onShelf h0 agr.rf a b).mono ?_
    rintro v σ' ⟨x, rfl, rfl, rfl⟩
    refine ⟨_, rfl, fin _ _ agr.rf ?_⟩
    simp [w0]
  · refine (S_lineUp h0 agr.rf a b 0).mono ?_
    rintro v σ1 ⟨x, rfl, rfl, -, ag⟩
    exact ⟨_, rfl, fin _ _ ag (same 0 w0 (by rw [w1]; rfl))⟩
  · have hw2 : w = 2 := by
      have e0 : w ≠ 0 := fun e => w0 (by rw [e]; rfl)
      have e1 : w ≠ 1 := fun e => w1 (by rw [e]; rfl)
      omega
    refine (S_lineUp h0 agr.rf a b 1).mono ?_
    rintro v σ1 ⟨x, rfl, rfl, -, ag⟩
    exact ⟨_, rfl, fin _ _ ag (same 1 w0 (by rw [hw2]; rfl))⟩
end SP

/-! The class' side: askOf, lets -/
theorem r33 {σ : St} {k q c : Nat} {x : Int32} (h : q ≠ 33) : rd (wr σ 33 k x) q c = rd σ q c := by
  rw [rd_wr, if_neg (fun e => h e.1)]
theorem alHour {q k : Nat} (h : sHour q k) : sAll q k := Or.inl h
theorem alShops {q k : Nat} (h : sShops q k) : sAll q k := Or.inr (Or.inl h)
theorem alKinds {q k : Nat} (h : sKinds q k) : sAll q k := Or.inr (Or.inr (Or.inl h))
theorem alDays {q k : Nat} (h : sDays q k) : sAll q k := Or.inr (Or.inr (Or.inr (Or.inl h)))
theorem alStep {q k : Nat} (h : sStep q k) : sAll q k := Or.inr (Or.inr (Or.inr (Or.inr (Or.inl h))))
theorem alBatch {q k : Nat} (h : sBatch q k) : sAll q k := Or.inr (Or.inr (Or.inr (Or.inr (Or.inr (Or.inl h)))))
theorem alSpoil {q k : Nat} (h : sSpoil q k) : sAll q k := Or.inr (Or.inr (Or.inr (Or.inr (Or.inr (Or.inr (Or.inl h))))))
theorem alKit {q k : Nat} (h : sKit q k) : sAll q k := Or.inr (Or.inr (Or.inr (Or.inr (Or.inr (Or.inr (Or.inr (Or.inl h)))))))
theorem alTape {q k : Nat} (h : sTape q k) : sAll q k := Or.inr (Or.inr (Or.inr (Or.inr (Or.inr (Or.inr (Or.inr (Or.inr (Or.inl h))))))))
theorem alLaws {q k : Nat} (h : sLaws q k) : sAll q k := Or.inr (Or.inr (Or.inr (Or.inr (Or.inr (Or.inr (Or.inr (Or.inr (Or.inr (Or.inl h)))))))))
theorem alRows {q k : Nat} (h : sRows q k) : sAll q k := Or.inr (Or.inr (Or.inr (Or.inr (Or.inr (Or.inr (Or.inr (Or.inr (Or.inr (Or.inr (Or.inl h))))))))))
theorem alCuts {q k : Nat} (h : sCuts q k) : sAll q k := Or.inr (Or.inr (Or.inr (Or.inr (Or.inr (Or.inr (Or.inr (Or.inr (Or.inr (Or.inr (Or.inr (Or.inl h)))))))))))
theorem alBox {q k : Nat} (h : sBox q k) : sAll q k := Or.inr (Or.inr (Or.inr (Or.inr (Or.inr (Or.inr (Or.inr (Or.inr (Or.inr (Or.inr (Or.inr (Or.inr (Or.inl h))))))))))))
theorem alCost {q k : Nat} (h : sCost q k) : sAll q k := Or.inr (Or.inr (Or.inr (Or.inr (Or.inr (Or.inr (Or.inr (Or.inr (Or.inr (Or.inr (Or.inr (Or.inr (Or.inr h))))))))))))
theorem sX_inv {q k : Nat} (h : sAll q k) : sX q k := by
  unfold sX
  simp only [sAll, sHour, sShops, sKinds, sDays, sStep, sBatch, sSpoil, sKit, sTape, sLaws, sRows, sCuts, sBox, sCost] at h
  omega
theorem oM_inv {q k : Nat} (h : sAll q k) : oM q k := by
  unfold oM
  simp only [sAll, sHour, sShops, sKinds, sDays, sStep, sBatch, sSpoil, sKit, sTape, sLaws, sRows, sCuts, sBox, sCost] at h
  omega
section LT
variable {Γ : GG} {l : Launch} {d : Nat} {σ : St}
theorem Bfact_of {h nS nK nB : Nat} (hI : Inv0 h nS nK nB σ) : Bfact σ h nB := by
  obtain ⟨i1, i2, i3, i4, i5, i6, -⟩ := hI
  refine ⟨i1.1, i1.2.2, fun b hb => ?_⟩
  obtain ⟨s, k, lt, md, sh, so, mo, gi, th, ⟨hs, hk, -⟩, -, ⟨y0, y1, -⟩, -⟩ := i6.2.2.2.1 b hb
  exact ⟨s, k, hs, hk, y0, y1⟩
/-- the class' places of the invariant -/
def sC : P2 := fun q k => (q < 59 ∨ 118 ≤ q) ∧ sAll q k
theorem S_askOf {τ : St} {h nS nK nB lw b : Nat} {T : List (Nat × Nat)} (hI : Inv0 h nS nK nB τ) (hc : agr sC τ σ) (hlw : lw < 16) (hT : ILaw h lw T τ) (hb : b < nB) : Meth Γ l (d + 3) mX11_askOf [.ref 0, .int (nI lw), .int (nI b)] σ (KI fun x σ' => x = runT (factM τ b) [] true T ∧ agr sX σ σ') := by
  obtain ⟨i1, i2, i3, i4, i5, i6, -⟩ := hI
  obtain ⟨zh, h1, h2⟩ := i1
  have zB := i6.1
  obtain ⟨s, k, lt, md, sh, so, mo, gi, th, ⟨hs, hk, -, -, -⟩, ⟨x0, x1, -, x3, -⟩, ⟨y0, y1, -, y3, -⟩, -⟩ := i6.2.2.2.1 b hb
  obtain ⟨p', c', g', z', t', q1, q2, q3, q4, q5, ⟨e1, e2, e3, e4, e5⟩, ⟨f1, f2, f3, f4, f5⟩⟩ := i3.2.2.2 k (by omega)
  obtain ⟨⟨t1, ht1, u1, u2⟩, ⟨w1, hw1, u3, u4⟩⟩ := i5 s k hs hk
  obtain ⟨⟨w2, hw2, v1, v2⟩, -⟩ := i4 (h / 24) (by omega)
  have sc : ∀ q c, (q < 59 ∨ 118 ≤ q) → sAll q c → rd σ q c = rd τ q c := fun q c a b => hc q c ⟨a, b⟩
  have x0 := (sc (b + 142) 0 (by omega) (alBatch (by unfold sBatch; omega))).trans x0
  have x1 := (sc (b + 142) 1 (by omega) (alBatch (by unfold sBatch; omega))).trans x1
  have x3 := (sc (b + 142) 3 (by omega) (alBatch (by unfold sBatch; omega))).trans x3
  have h1 := (sc 1 2 (by omega) (alHour (Or.inl ⟨rfl, rfl⟩))).trans h1
  have e4 := (sc 15 k (by omega) (alKinds (by unfold sKinds; omega))).trans e4
  have u1 := (sc (s + 118) k (by omega) (alStep (by unfold sStep; omega))).trans u1
  have u3 := (sc (s + 130) k (by omega) (alStep (by unfold sStep; omega))).trans u3
  have v1 := (sc 2 (h / 24) (by omega) (alDays (by unfold sDays; omega))).trans v1
  have cb : (nI b).toNatClampNeg = b := cl (by omega)
  have ck : (nI k).toNatClampNeg = k := cl (by omega)
  have cs : (nI s).toNatClampNeg = s := cl (by omega)
  have td : nI h / 24 = nI (h / 24) := nI_divn (b := 24) (by omega) (by omega)
  have ct : (nI (h / 24)).toNatClampNeg = h / 24 := cl (by omega)
  refine M_X11_askOf _ _ (w_X11_askOf_0 _ _ ?_)
  simp (disch := omega) only [r33, cb, x0, x1, x3, h1, td, ct, ck, cs]
  refine ⟨in_nI (by omega) (by omega), in_nI hk (by omega), in_nI (by omega) (by omega), in_nI hs (by omega), in_nI hk (by omega), ?_⟩
  try refine ⟨in_nI hs (by omega), ?_⟩
  try refine ⟨in_nI hk (by omega), ?_⟩
  generalize hσ8 : wr (wr (wr (wr (wr (wr (wr (wr σ 33 0 _) 33 1 _) 33 2 _) 33 3 _) 33 4 _) 33 5 _) 33 6 _) 33 7 _ = σ8
  have A8 : ∀ q c, q ≠ 33 → rd σ8 q c = rd σ q c := fun q c hq => by
    rw [← hσ8]
    simp (disch := omega) only [r33]
  have hT8 : ILawX lw T σ8 := hT.x.of ((A8 28 lw (by omega)).trans (sc 28 lw (by omega) (alLaws (by unfold sLaws; omega)))) (fun j => (A8 (lw + 342) j (by omega)).trans (sc (lw + 342) j (by omega) (alLaws (by unfold sLaws; omega))))
  refine S_valueOf (σ := σ8) hlw hT8 (fun σ2 ha => ?_)
  refine ⟨_, rfl, KI.mk ⟨?_, fun q c hq => ?_⟩⟩
  · refine runT_congr (fun i hi => ?_) T [] true hT.2.1
    rcases (show i = 0 ∨ i = 1 ∨ i = 2 ∨ i = 3 ∨ i = 4 ∨ i = 5 ∨ i = 6 ∨ i = 7 by omega) with e | e | e | e | e | e | e | e <;> subst e <;> rw [← hσ8]
    · show _ = rd τ 59 1 / 24 - rd τ 74 b
      rw [h2, y3, td]
      simp [rd_wr]
    · show _ = rd τ 72 b
      rw [y1]
      simp [rd_wr]
    · show _ = rd τ 66 (rd τ 72 b).toNatClampNeg
      rw [y1, ck, f4, ← e4]
      simp [rd_wr]
    · show _ = rd τ 68 (rd τ 59 1 / 24).toNatClampNeg
      rw [h2, td, ct, v2, ← v1]
      simp [rd_wr]
    · show _ = rd τ 59 1 - rd τ 59 1 / 24 * 24
      rw [h2, td]
      simp [rd_wr]
    · show _ = rd τ 69 (10 * (rd τ 71 b).toNatClampNeg + (rd τ 72 b).toNatClampNeg)
      rw [y0, y1, cs, ck, u2, ← u1]
      simp [rd_wr]
    · show _ = rd τ 70 (10 * (rd τ 71 b).toNatClampNeg + (rd τ 72 b).toNatClampNeg)
      rw [y0, y1, cs, ck, u4, ← u3]
      simp [rd_wr]
    · show _ = rd τ 71 b
      rw [y0]
      simp [rd_wr]
  · rw [ha q c (by unfold oX; unfold sX at hq; omega), A8 q c (by unfold sX at hq; omega)]
theorem lawX_eq {τ : St} {h nS nK nB n : Nat} (hI : Inv0 h nS nK nB τ) (hc : agr sC τ σ) (hn : n ≤ 16) (e : rd τ 59 32 = nI n) (hL : ∀ i, i < n → ∃ T, ILaw h i T τ) (u : Int32) : lat σ 29 31 30 u (rd σ 1 2 / 24) (rd σ 1 2 / 24) n = lawM τ u := by
  have sc : ∀ q c, (q < 59 ∨ 118 ≤ q) → sAll q c → rd σ q c = rd τ q c := fun q c a b => hc q c ⟨a, b⟩
  unfold lawM
  rw [e, cl (by omega), sc 1 2 (by omega) (alHour (Or.inl ⟨rfl, rfl⟩)), hI.1.2.1, ← hI.1.2.2]
  refine lat_congr (fun i hi => ?_)
  obtain ⟨a, b, c⟩ := laws_same hL i hi
  rw [sc 29 _ (by omega) (alLaws (by unfold sLaws; omega)), sc 31 _ (by omega) (alLaws (by unfold sLaws; omega)), sc 30 _ (by omega) (alLaws (by unfold sLaws; omega))]
  exact ⟨a.symm, b.symm, c.symm⟩
/-- lets, of the law that is in force (by the ghost τ) -/
theorem S_lets {τ : St} {h nS nK nB b : Nat} (hI : Inv0 h nS nK nB τ) (hc : agr sC τ σ) (hb : b < nB) (u : Int32) : Meth Γ l (d + 4) mX11_lets [.ref 0, .int (lawM τ u), .int (nI b)] σ (KI fun x σ' => x = bI (mayM τ u b) ∧ agr sX σ σ') := by
  obtain ⟨n, hn, t1, t2, t3⟩ := hI.2.2.2.2.2.2.2.2.2.1
  refine M_X11_lets _ _ (w_X11_lets_0 _ _ ⟨fun q => KI.mk ⟨?_, agr.rf⟩, fun q => ?_⟩)
  · unfold mayM mayB
    simp [q, bI]
  · rcases lawM_cases (h := h) hn t2 u with hl | ⟨j, hj, hl⟩
    · rw [hl] at q
      exact absurd (by decide) q
    · obtain ⟨T, hT⟩ := t3 j hj
      have hval : mayM τ u b = decide (¬ runT (factM τ b) [] true T = 0) := by
        unfold mayM mayB
        rw [hl, cl (by omega), lawT_eq hT]
        simp [nlt0 (i := j) (by omega)]
      rw [hl, hval]
      refine (S_askOf hI hc (by omega) hT hb).mono ?_
      rintro v σ2 ⟨x, rfl, rfl, ha⟩
      exact ⟨_, rfl, fun q => KI.mk ⟨by simp [q, bI], ha⟩, fun q => KI.mk ⟨by simp [q, bI], ha⟩⟩
theorem S_lawToday {τ : St} {h nS nK nB : Nat} (hI : Inv0 h nS nK nB τ) (hc : agr sC τ σ) (u : Int32) : Meth Γ l (d + 1) mX11_lawToday [.ref 0, .int u] σ (KI (Kv (lawM τ u) σ)) := by
  obtain ⟨n, hn, t1, t2, t3⟩ := hI.2.2.2.2.2.2.2.2.2.1
  have e : rd σ 26 5 = nI n := (hc 26 5 ⟨by omega, alLaws (Or.inl ⟨rfl, rfl⟩)⟩).trans t1
  refine M_X11_lawToday _ (w_X11_lawToday_0 _ ?_)
  refine (S_latest u _ _ hn e).mono ?_
  rintro v σ' ⟨x, rfl, rfl, rfl⟩
  exact ⟨_, rfl, KI.mk ⟨rfl, lawX_eq hI hc hn t2 t3 u⟩⟩
theorem P_says (a b : Int32) (hI : Inv σ) : Meth Γ l (d + 4) mX11_says [.ref 0, .int a, .int b] σ (PI Γ l (d + 3) mX12_says [.ref 59, .int a, .int b]) := by
  have hI2 := hI
  obtain ⟨h, nS, nK, nB, h0⟩ := hI2
  obtain ⟨i1, i2, i3, i4, i5, i6, i7, i8, i9, i10, -⟩ := id h0
  obtain ⟨n, hn, t1, t2, t3⟩ := id i10
  obtain ⟨zB, b1, b2, b3, b4⟩ := id i6
  have bad : ¬ ((0 ≤ a ∧ a < nI n) ∧ 0 ≤ b ∧ b < nI nB) → bad1 σ Γ l (d + 3) mX12_says [.ref 59, .int a, .int b] (-2000000000) := fun hn' => M_X12_says _ _ (w_X12_says_0 _ _ ⟨fun ha => ⟨fun hb => absurd ⟨(cM (by omega) t2).mp ha, (cM (by omega) b2).mp hb⟩ hn', fun _ => KI.mk ⟨rfl, hI⟩⟩, fun _ => KI.mk ⟨rfl, hI⟩⟩)
  refine M_X11_says _ _ (w_X11_says_0 _ _ ⟨fun ha => ⟨fun hb => ?_, fun hb => PI.mk (bad fun c => hb ((cX b1).mpr c.2))⟩, fun ha => PI.mk (bad fun c => ha ((cX t1).mpr c.1))⟩)
  have c1 := (cX t1).mp ha
  have c2 := (cX b1).mp hb
  obtain ⟨i, hi, rfl⟩ := rng n (by omega) c1
  obtain ⟨j, hj, rfl⟩ := rng nB (by omega) c2
  obtain ⟨T, hT⟩ := t3 i hi
  refine (S_askOf h0 agr.rf (by omega) hT hj).mono ?_
  rintro v σ1 ⟨x, rfl, rfl, ha1⟩
  have h1 : Inv0 h nS nK nB σ1 := h0.of (ha1.sub fun _ _ => sX_inv)
  have A : ∀ q c, (59 ≤ q ∧ q < 118) → rd σ1 q c = rd σ q c := fun q c hq => ha1 q c (by unfold sX; omega)
  refine ⟨_, rfl, PI.mk (M_X12_says _ _ (w_X12_says_0 _ _ ⟨fun _ => ⟨fun _ => ?_, fun c => absurd ?_ c⟩, fun c => absurd ?_ c⟩))⟩
  · obtain ⟨hh, e1, e2⟩ := Bfact_of h1
    obtain ⟨s, k, hs, hk, es, ek⟩ := e2 j hj
    have hT1 : ILaw h i T σ1 := hT.of (by omega) (ha1.sub fun q c hq => sX_inv (alLaws hq))
    refine S_gives (h := h) (by omega) hT1 hh e1 (by omega) hs hk es ek (fun σ2 ha2 => ?_)
    refine ⟨_, rfl, KI.mk ⟨?_, ?_⟩⟩
    · refine runT_congr (fun m hm => ?_) T [] true hT.2.1
      rcases (show m = 0 ∨ m = 1 ∨ m = 2 ∨ m = 3 ∨ m = 4 ∨ m = 5 ∨ m = 6 ∨ m = 7 by omega) with e | e | e | e | e | e | e | e <;> subst e <;> simp only [factM, A _ _ (by omega : 59 ≤ 59 ∧ 59 < 118), A _ _ (by omega : 59 ≤ 74 ∧ 74 < 118), A _ _ (by omega : 59 ≤ 72 ∧ 72 < 118), A _ _ (by omega : 59 ≤ 66 ∧ 66 < 118), A _ _ (by omega : 59 ≤ 68 ∧ 68 < 118), A _ _ (by omega : 59 ≤ 69 ∧ 69 < 118), A _ _ (by omega : 59 ≤ 70 ∧ 70 < 118), A _ _ (by omega : 59 ≤ 71 ∧ 71 < 118)]
    · exact (show Inv σ1 from ⟨h, nS, nK, nB, h1⟩).of (ha2.sub fun _ _ => oM_inv)
  · rw [A _ _ (by omega)]
    exact (cM (n := nB) (by omega) b2).mpr c2
  · rw [A _ _ (by omega)]
    exact (cM (n := n) (by omega) t2).mpr c1
end LT

/-! HOURS: one hour on both sides at once -/
def hrS (τ : St) (h : Nat) : St := (fun q c => if (q = 1 ∧ c = 2) ∨ (q = 59 ∧ c = 1) then nI h else rd τ q c, τ.2)
def clrS (τ : St) : St := (fun q c => if (118 ≤ q ∧ q < 142 ∧ c < 10) ∨ ((q = 69 ∨ q = 70) ∧ c < 120) then 0 else rd τ q c, τ.2)
def tosS (τ : St) (h b : Nat) : St := (fun q c => if q = b + 142 ∧ c = 5 then nI (shN τ b - shN τ b) else if q = b + 142 ∧ c = 9 then nI ((rd τ (b + 142) 9).toNatClampNeg + shN τ b) else if q = 3 ∧ c = h / 24 then rd τ 3 (h / 24) + nI (shN τ b) * rd τ 14 (rd τ 72 b).toNatClampNeg else if q = 80 ∧ c = b then nI ((rd τ 80 b).toNatClampNeg + shN τ b) else if q = 83 ∧ c = h / 24 then rd τ 83 (h / 24) + nI (shN τ b) * rd τ 65 (rd τ 72 b).toNatClampNeg else rd τ q c, τ.2)
def goS (τ : St) (b : Nat) : Bool := decide (0 < shN τ b) && !mayM τ 0 b
def dayS (τ : St) (h : Nat) : Nat → St
  | 0 => τ
  | b + 1 => if goS (dayS τ h b) b = true then tosS (dayS τ h b) h b else dayS τ h b
def nxtS (τ : St) (h nB : Nat) : St := if (h + 1) % 24 = 0 then dayS (clrS (hrS τ (h + 1))) (h + 1) nB else hrS τ (h + 1)
def hrsS (σ : St) (h nB : Nat) : Nat → St
  | 0 => σ
  | i + 1 => nxtS (hrsS σ h nB i) (h + i) nB
theorem hr_rd {τ : St} {h q c : Nat} : rd (hrS τ h) q c = if (q = 1 ∧ c = 2) ∨ (q = 59 ∧ c = 1) then nI h else rd τ q c := rfl
theorem clr_rd {τ : St} {q c : Nat} : rd (clrS τ) q c = if (118 ≤ q ∧ q < 142 ∧ c < 10) ∨ ((q = 69 ∨ q = 70) ∧ c < 120) then 0 else rd τ q c := rfl
theorem hr_n {τ : St} {h q c : Nat} (h1 : ¬ (q = 1 ∧ c = 2)) (h2 : ¬ (q = 59 ∧ c = 1)) : rd (hrS τ h) q c = rd τ q c := if_neg (by omega)
theorem clr_n {τ : St} {q c : Nat} (h1 : ¬ (118 ≤ q ∧ q < 142)) (h2 : q ≠ 69) (h3 : q ≠ 70) : rd (clrS τ) q c = rd τ q c := if_neg (by omega)
theorem tos_n {τ : St} {h b q c : Nat} (h1 : ¬ (q = b + 142 ∧ (c = 5 ∨ c = 9))) (h2 : q ≠ 3) (h3 : ¬ (q = 80 ∧ c = b)) (h4 : q ≠ 83) : rd (tosS τ h b) q c = rd τ q c := by
  show (if _ then _ else _) = _
  rw [if_neg (by omega), if_neg (by omega), if_neg (by omega), if_neg (by omega), if_neg (by omega)]
theorem Inv0.hr {τ : St} {h nS nK nB : Nat} (h0 : Inv0 h nS nK nB τ) (hh : h + 1 < 36000) : Inv0 (h + 1) nS nK nB (hrS τ (h + 1)) := by
  obtain ⟨i1, i2, i3, i4, i5, i6, i7, i8, i9, i10, i11, i12, i13, i14⟩ := id h0
  have dv : h / 24 ≤ (h + 1) / 24 := Nat.div_le_div_right (by omega)
  have n1 : IHour (h + 1) (hrS τ (h + 1)) := ⟨hh, hr_rd.trans (if_pos (by omega)), hr_rd.trans (if_pos (by omega))⟩
  have n6 : IBatch h nB (hrS τ (h + 1)) := i6.of fun q c hq => hr_n (by unfold sBatch at hq; omega) (by unfold sBatch at hq; omega)
  have n7 : ISpoil h nB (hrS τ (h + 1)) := i7.of fun q c hq => hr_n (by unfold sSpoil at hq; omega) (by unfold sSpoil at hq; omega)
  have n10 : ILaws h (hrS τ (h + 1)) := i10.of fun q c hq => hr_n (by unfold sLaws at hq; omega) (by unfold sLaws at hq; omega)
  have n11 : IRows h (hrS τ (h + 1)) := i11.of fun q c hq => hr_n (by unfold sRows at hq; omega) (by unfold sRows at hq; omega)
  have m6 : IBatch (h + 1) nB (hrS τ (h + 1)) := by
    obtain ⟨zB, b1, b2, b3, b4⟩ := n6
    refine ⟨zB, b1, b2, fun b hb => ?_, b4⟩
    obtain ⟨s, k, lt, md, sh, so, mo, gi, th, ⟨c1, c2, c3, c4, c5⟩, x, y, z1, z2, z3⟩ := b3 b hb
    refine ⟨s, k, lt, md, sh, so, mo, gi, th, ⟨c1, c2, c3, by omega, c5⟩, x, y, z1, z2, ?_⟩
    rcases z3 with ⟨u1, u2, c, u3, u4⟩ | z3
    · exact Or.inl ⟨u1, u2, c, by omega, u4⟩
    · exact Or.inr z3
  have m7 : ISpoil (h + 1) nB (hrS τ (h + 1)) := by
    obtain ⟨m, g1, g2, g3, g4, g5⟩ := n7
    refine ⟨m, g1, g2, g3, fun i hi => ?_, g5⟩
    obtain ⟨b', p', dy, u1, u2, u3, u4⟩ := g4 i hi
    exact ⟨b', p', dy, u1, u2, by omega, u4⟩
  have m10 : ILaws (h + 1) (hrS τ (h + 1)) := by
    obtain ⟨n, g1, g2, g3, g4⟩ := n10
    refine ⟨n, g1, g2, g3, fun i hi => ?_⟩
    obtain ⟨T, t1, t2, t3, t4, t5, t6, t7, ⟨m, hm, t8⟩, t9⟩ := g4 i hi
    exact ⟨T, t1, t2, t3, t4, t5, t6, t7, ⟨m, by omega, t8⟩, t9⟩
  have m11 : IRows (h + 1) (hrS τ (h + 1)) := by
    obtain ⟨n, g1, g2, g3, g4, g5⟩ := n11
    refine ⟨n, g1, g2, g3, fun r hr => ?_, g5⟩
    obtain ⟨s, k, t, st, w, a, g, ⟨c1, c2, c3, c4⟩, u⟩ := g4 r hr
    exact ⟨s, k, t, st, w, a, g, ⟨c1, c2, by omega, c4⟩, u⟩
  refine ⟨n1, i2.of ?_, i3.of ?_, i4.of ?_, i5.of ?_, m6, m7, i8.of ?_, i9.of ?_, m10, m11, i12.of ?_, i13.of ?_, i14.of ?_⟩
  all_goals
    intro q c hq
    simp only [sHour, sShops, sKinds, sDays, sStep, sBatch, sSpoil, sKit, sTape, sLaws, sRows, sCuts, sBox, sCost] at hq
    exact hr_n (by omega) (by omega)
theorem Inv0.clr {τ : St} {h nS nK nB : Nat} (h0 : Inv0 h nS nK nB τ) : Inv0 h nS nK nB (clrS τ) := by
  obtain ⟨i1, i2, i3, i4, i5, i6, i7, i8, i9, i10, i11, i12, i13, i14⟩ := id h0
  have n5 : IStep (clrS τ) := fun s k hs hk => ⟨⟨0, by omega, clr_rd.trans (if_pos (by omega)), clr_rd.trans (if_pos (by omega))⟩, 0, by omega, clr_rd.trans (if_pos (by omega)), clr_rd.trans (if_pos (by omega))⟩
  refine ⟨i1.of ?_, i2.of ?_, i3.of ?_, i4.of ?_, n5, i6.of ?_, i7.of ?_, i8.of ?_, i9.of ?_, i10.of ?_, i11.of ?_, i12.of ?_, i13.of ?_, i14.of ?_⟩
  all_goals
    intro q c hq
    simp only [sHour, sShops, sKinds, sDays, sStep, sBatch, sSpoil, sKit, sTape, sLaws, sRows, sCuts, sBox, sCost] at hq
    exact clr_n (by omega) (by omega) (by omega)
theorem Inv0.tos {τ : St} {h nS nK nB b : Nat} (h0 : Inv0 h nS nK nB τ) (hb : b < nB) : Inv0 h nS nK nB (tosS τ h b) := by
  obtain ⟨s, k, lt, md, sh, so, mo, gi, th, ⟨c1, c2, c3, c4, c5⟩, -, ⟨y0, y1, -⟩, -⟩ := h0.2.2.2.2.2.1.2.2.2.1 b hb
  refine h0.tossed (b := b) (k := (rd τ 72 b).toNatClampNeg) (v := shN τ b) hb (by rw [y1, cl (by omega)]; exact c2) (Nat.le_refl _) fun q c => rfl
theorem Inv0.day {τ : St} {h nS nK nB : Nat} (h0 : Inv0 h nS nK nB τ) : ∀ b, b ≤ nB → Inv0 h nS nK nB (dayS τ h b)
  | 0, _ => h0
  | b + 1, hb => by
    have ih := h0.day b (by omega)
    unfold dayS
    split
    · exact ih.tos (by omega)
    · exact ih
theorem day_n {τ : St} {h nB : Nat} : ∀ b, b ≤ nB → ∀ q c, ¬ (142 ≤ q ∧ q < nB + 142 ∧ (c = 5 ∨ c = 9)) → q ≠ 3 → q ≠ 80 → q ≠ 83 → rd (dayS τ h b) q c = rd τ q c
  | 0, _, _, _, _, _, _, _ => rfl
  | b + 1, hb, q, c, a1, a2, a3, a4 => by
    have ih := day_n (τ := τ) (h := h) b (by omega) q c a1 a2 a3 a4
    unfold dayS
    split
    · rw [tos_n (by omega) a2 (by omega) a4]
      exact ih
    · exact ih
theorem day_lawM {τ : St} {h nB b : Nat} (hb : b ≤ nB) (u : Int32) : lawM (dayS τ h b) u = lawM τ u := by
  have g : ∀ q c, (q = 59 ∧ (c = 1 ∨ c = 32)) ∨ q = 85 ∨ q = 86 ∨ q = 87 → rd (dayS τ h b) q c = rd τ q c := fun q c hq => day_n b hb q c (by omega) (by omega) (by omega) (by omega)
  unfold lawM
  rw [g 59 1 (by omega), g 59 32 (by omega)]
  exact lat_congr fun i _ => ⟨g 85 i (by omega), g 86 i (by omega), g 87 i (by omega)⟩
theorem Inv0.nxt {τ : St} {h nS nK nB : Nat} (h0 : Inv0 h nS nK nB τ) (hh : h + 1 < 36000) : Inv0 (h + 1) nS nK nB (nxtS τ h nB) := by
  unfold nxtS
  split
  · exact ((h0.hr hh).clr).day nB (Nat.le_refl _)
  · exact h0.hr hh
theorem Inv0.hrs {σ : St} {h nS nK nB : Nat} (h0 : Inv0 h nS nK nB σ) : ∀ i, h + i < 36000 → Inv0 (h + i) nS nK nB (hrsS σ h nB i)
  | 0, _ => h0
  | i + 1, hh => (h0.hrs i (by omega)).nxt (by omega)

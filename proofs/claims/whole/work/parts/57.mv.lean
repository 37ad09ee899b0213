/-! MOVE: one batch of which a pieces go to another shop, on both sides at once -/
def mvS (τ : St) (N b : Nat) (o : Int32) (a : Nat) : St :=
  (fun q c => if (q = 17 ∧ c = 1) ∨ (q = 59 ∧ c = 16) then nI (N + 1)
    else if q = N + 142 then (if c = 0 then o else if c = 1 then rd τ (b + 142) 1 else if c = 2 then rd τ (b + 142) 2 else if c = 3 then rd τ (b + 142) 3 else if c = 4 ∨ c = 5 then nI a else if c = 11 then nI b else if c = 12 then rd τ (b + 142) 12 else rd τ q c)
    else if q = b + 142 ∧ c = 5 then rd τ q c - nI a
    else if (q = b + 142 ∧ c = 7) ∨ (q = 78 ∧ c = b) then rd τ q c + nI a
    else if q = 71 ∧ c = N then o else if q = 72 ∧ c = N then rd τ 72 b else if q = 73 ∧ c = N then rd τ 73 b else if q = 74 ∧ c = N then rd τ 74 b else if q = 75 ∧ c = N then rd τ 59 1 / 24 else if q = 76 ∧ c = N then nI a else if q = 82 ∧ c = N then nI b else rd τ q c, τ.2)
section MV
variable {τ : St} {N b a : Nat} {o : Int32}
theorem mv_rd (q c : Nat) : rd (mvS τ N b o a) q c = if (q = 17 ∧ c = 1) ∨ (q = 59 ∧ c = 16) then nI (N + 1)
    else if q = N + 142 then (if c = 0 then o else if c = 1 then rd τ (b + 142) 1 else if c = 2 then rd τ (b + 142) 2 else if c = 3 then rd τ (b + 142) 3 else if c = 4 ∨ c = 5 then nI a else if c = 11 then nI b else if c = 12 then rd τ (b + 142) 12 else rd τ q c)
    else if q = b + 142 ∧ c = 5 then rd τ q c - nI a
    else if (q = b + 142 ∧ c = 7) ∨ (q = 78 ∧ c = b) then rd τ q c + nI a
    else if q = 71 ∧ c = N then o else if q = 72 ∧ c = N then rd τ 72 b else if q = 73 ∧ c = N then rd τ 73 b else if q = 74 ∧ c = N then rd τ 74 b else if q = 75 ∧ c = N then rd τ 59 1 / 24 else if q = 76 ∧ c = N then nI a else if q = 82 ∧ c = N then nI b else rd τ q c := rfl
theorem mv_old {q c : Nat} (h1 : ¬ (q = 17 ∧ c = 1)) (h2 : ¬ (q = 59 ∧ c = 16)) (h3 : q ≠ N + 142) (h4 : ¬ (q = b + 142 ∧ (c = 5 ∨ c = 7))) (h5 : ¬ (q = 78 ∧ c = b)) (h6 : ¬ ((q = 71 ∨ q = 72 ∨ q = 73 ∨ q = 74 ∨ q = 75 ∨ q = 76 ∨ q = 82) ∧ c = N)) : rd (mvS τ N b o a) q c = rd τ q c := by
  rw [mv_rd, if_neg (by omega), if_neg h3, if_neg (by omega), if_neg (by omega), if_neg (by omega), if_neg (by omega), if_neg (by omega), if_neg (by omega), if_neg (by omega), if_neg (by omega), if_neg (by omega)]
theorem mv_n (hb : b < N) (c : Nat) : rd (mvS τ N b o a) (N + 142) c = if c = 0 then o else if c = 1 then rd τ (b + 142) 1 else if c = 2 then rd τ (b + 142) 2 else if c = 3 then rd τ (b + 142) 3 else if c = 4 ∨ c = 5 then nI a else if c = 11 then nI b else if c = 12 then rd τ (b + 142) 12 else rd τ (N + 142) c := by
  rw [mv_rd, if_neg (by omega), if_pos rfl]
theorem mv_5 (hb : b < N) : rd (mvS τ N b o a) (b + 142) 5 = rd τ (b + 142) 5 - nI a := by
  rw [mv_rd, if_neg (by omega), if_neg (by omega), if_pos ⟨rfl, rfl⟩]
theorem mv_7 (hb : b < N) : rd (mvS τ N b o a) (b + 142) 7 = rd τ (b + 142) 7 + nI a := by
  rw [mv_rd, if_neg (by omega), if_neg (by omega), if_neg (by omega), if_pos (Or.inl ⟨rfl, rfl⟩)]
theorem mv_78 : rd (mvS τ N b o a) 78 b = rd τ 78 b + nI a := by
  rw [mv_rd, if_neg (by omega), if_neg (by omega), if_neg (by omega), if_pos (Or.inr ⟨rfl, rfl⟩)]
theorem mv_71 : rd (mvS τ N b o a) 71 N = o ∧ rd (mvS τ N b o a) 72 N = rd τ 72 b ∧ rd (mvS τ N b o a) 73 N = rd τ 73 b ∧ rd (mvS τ N b o a) 74 N = rd τ 74 b ∧ rd (mvS τ N b o a) 75 N = rd τ 59 1 / 24 ∧ rd (mvS τ N b o a) 76 N = nI a ∧ rd (mvS τ N b o a) 82 N = nI b := by
  refine ⟨?_, ?_, ?_, ?_, ?_, ?_, ?_⟩ <;> rw [mv_rd] <;> simp
theorem mv_17 : rd (mvS τ N b o a) 17 1 = nI (N + 1) ∧ rd (mvS τ N b o a) 59 16 = nI (N + 1) := by
  constructor <;> rw [mv_rd] <;> simp
end MV
theorem Inv0.mv {τ : St} {h nS nK N b a o : Nat} (h0 : Inv0 h nS nK N τ) (hN : N < 200) (hb : b < N) (ho : o < 12) (ha : a ≤ shN τ b) : Inv0 h nS nK (N + 1) (mvS τ N b (nI o) a) := by
  obtain ⟨i1, i2, i3, i4, i5, i6, i7, i8, i9, i10, i11, i12, i13, i14⟩ := id h0
  obtain ⟨zh, h1, h2⟩ := id i1
  obtain ⟨zB, b1, b2, b3, b4⟩ := id i6
  have td : rd τ 59 1 / 24 = nI (h / 24) := by
    rw [h2]
    exact nI_divn (b := 24) (by omega) (by omega)
  obtain ⟨n1, n2, n3, n4, n5, n6, n7⟩ := mv_71 (τ := τ) (N := N) (b := b) (a := a) (o := nI o)
  obtain ⟨s, k, lt, md, sh, so, mo, gi, th, ⟨c1, c2, c3, c4, c5⟩, ⟨x0, x1, x2, x3, x4, x5, x6, x7, x8, x9⟩, ⟨y0, y1, y2, y3, y4, y5, y6, y7, y8⟩, z1, z2, z3⟩ := id (b3 b hb)
  have esh : shN τ b = sh := by
    unfold shN
    rw [x5, cl (by omega)]
  rw [esh] at ha
  have J6 : IBatch h (N + 1) (mvS τ N b (nI o) a) := by
    refine ⟨by omega, mv_17.1, mv_17.2, fun j hj => ?_, fun j hj hj2 => ?_⟩
    · by_cases jN : j = N
      · subst jN
        obtain ⟨⟨u6, u7, u8, u9, u10⟩, ⟨w6, w7, w8, w9, w10⟩⟩ := b4 j (Nat.le_refl _) hN
        refine ⟨o, k, lt, md, a, 0, 0, 0, 0, ⟨ho, c2, c3, c4, by omega⟩, ?_, ?_, ?_, ?_, Or.inr ⟨b, hb, n7, ?_⟩⟩
        · simp only [mv_n hb]
          simp [x1, x2, x3, u6, u7, u8, u9]
          rfl
        · refine ⟨n1, n2.trans y1, n3.trans y2, n4.trans y3, n6, ?_, ?_, ?_, ?_⟩
          · rw [mv_old (by omega) (by omega) (by omega) (by omega) (by omega) (by omega), w6]
            rfl
          · rw [mv_old (by omega) (by omega) (by omega) (by omega) (by omega) (by omega), w7]
            rfl
          · rw [mv_old (by omega) (by omega) (by omega) (by omega) (by omega) (by omega), w8]
            rfl
          · rw [mv_old (by omega) (by omega) (by omega) (by omega) (by omega) (by omega), w9]
            rfl
        · rw [mv_n hb, mv_old (q := 81) (by omega) (by omega) (by omega) (by omega) (by omega) (by omega), w10]
          simp [u10]
        · rw [mv_n hb, n7]
          rfl
        · rw [mv_n hb, mv_old (q := b + 142) (by omega) (by omega) (by omega) (by omega) (by omega) (by omega)]
          rfl
      by_cases jb : j = b
      · subst jb
        have O : ∀ c, c ≠ 5 → c ≠ 7 → rd (mvS τ N j (nI o) a) (j + 142) c = rd τ (j + 142) c := fun c _ _ => mv_old (by omega) (by omega) (by omega) (by omega) (by omega) (by omega)
        have OM : ∀ q, 71 ≤ q → q ≤ 82 → q ≠ 78 → rd (mvS τ N j (nI o) a) q j = rd τ q j := fun q _ _ _ => mv_old (by omega) (by omega) (by omega) (by omega) (by omega) (by omega)
        have tot : sh + so + mo + gi + th = sh - a + so + (mo + a) + gi + th := by omega
        refine ⟨s, k, lt, md, sh - a, so, mo + a, gi, th, ⟨c1, c2, c3, c4, by omega⟩, ?_, ?_, ?_, ?_, ?_⟩
        · rw [O 0 (by omega) (by omega), O 1 (by omega) (by omega), O 2 (by omega) (by omega), O 3 (by omega) (by omega), O 4 (by omega) (by omega), O 6 (by omega) (by omega), O 8 (by omega) (by omega), O 9 (by omega) (by omega), mv_5 hb, mv_7 hb, x5, x7, nI_subn ha, nI_addn, x4, tot]
          exact ⟨x0, x1, x2, x3, rfl, rfl, x6, rfl, x8, x9⟩
        · rw [OM 71 (by omega) (by omega) (by omega), OM 72 (by omega) (by omega) (by omega), OM 73 (by omega) (by omega) (by omega), OM 74 (by omega) (by omega) (by omega), OM 76 (by omega) (by omega) (by omega), OM 77 (by omega) (by omega) (by omega), OM 79 (by omega) (by omega) (by omega), OM 80 (by omega) (by omega) (by omega), mv_78, y6, nI_addn, y4, tot]
          exact ⟨y0, y1, y2, y3, rfl, y5, rfl, y7, y8⟩
        · rw [O 10 (by omega) (by omega), OM 81 (by omega) (by omega) (by omega)]
          exact z1
        · rw [O 11 (by omega) (by omega), OM 82 (by omega) (by omega) (by omega)]
          exact z2
        · rw [O 12 (by omega) (by omega), O 13 (by omega) (by omega), OM 82 (by omega) (by omega) (by omega), OM 75 (by omega) (by omega) (by omega)]
          rcases z3 with z3 | ⟨f, hf, z4, z5⟩
          · exact Or.inl z3
          · refine Or.inr ⟨f, hf, z4, ?_⟩
            rw [mv_old (q := f + 142) (by omega) (by omega) (by omega) (by omega) (by omega) (by omega)]
            exact z5
      · clear z3
        have G : ∀ c, rd (mvS τ N b (nI o) a) (j + 142) c = rd τ (j + 142) c := fun c => mv_old (by omega) (by omega) (by omega) (by omega) (by omega) (by omega)
        have G2 : ∀ q, 71 ≤ q → q ≤ 82 → rd (mvS τ N b (nI o) a) q j = rd τ q j := fun q _ _ => mv_old (by omega) (by omega) (by omega) (by omega) (by omega) (by omega)
        obtain ⟨s', k', lt', md', sh', so', mo', gi', th', x1, x2, x3, x4, x5, x6⟩ := b3 j (by omega)
        refine ⟨s', k', lt', md', sh', so', mo', gi', th', x1, by simpa only [G] using x2, ?_, ?_, ?_, ?_⟩
        · simpa (disch := omega) only [G2] using x3
        · simpa (disch := omega) only [G, G2] using x4
        · simpa (disch := omega) only [G, G2] using x5
        · rcases x6 with x6 | ⟨f, hf, x7, x8⟩
          · exact Or.inl (by simpa (disch := omega) only [G, G2] using x6)
          · refine Or.inr ⟨f, hf, by simpa (disch := omega) only [G2] using x7, ?_⟩
            rw [G, mv_old (q := f + 142) (by omega) (by omega) (by omega) (by omega) (by omega) (by omega)]
            exact x8
    · have x6 := b4 j (by omega) hj2
      have G : ∀ c, rd (mvS τ N b (nI o) a) (j + 142) c = rd τ (j + 142) c := fun c => mv_old (by omega) (by omega) (by omega) (by omega) (by omega) (by omega)
      have G2 : ∀ q, 71 ≤ q → q ≤ 82 → rd (mvS τ N b (nI o) a) q j = rd τ q j := fun q _ _ => mv_old (by omega) (by omega) (by omega) (by omega) (by omega) (by omega)
      simpa (disch := omega) only [G, G2] using x6
  have J7 : ISpoil h (N + 1) (mvS τ N b (nI o) a) := by
    obtain ⟨m, g1, g2, g3, g4, g5⟩ := id i7
    have R : ∀ q i, q = 17 ∧ i = 7 ∨ q = 59 ∧ i = 74 ∨ q = 20 ∨ q = 21 ∨ q = 22 ∨ q = 115 ∨ q = 116 ∨ q = 117 → rd (mvS τ N b (nI o) a) q i = rd τ q i := fun q i _ => mv_old (by omega) (by omega) (by omega) (by omega) (by omega) (by omega)
    refine ⟨m, g1, (R _ _ (by omega)).trans g2, (R _ _ (by omega)).trans g3, fun i hi => ?_, fun i j hij hj => ?_⟩
    · obtain ⟨b', p', dy, u1, u2, u3, u4, u5, u6, u7, u8, u9⟩ := g4 i hi
      refine ⟨b', p', dy, by omega, u2, u3, (R _ _ (by omega)).trans u4, ?_, (R _ _ (by omega)).trans u6, (R _ _ (by omega)).trans u7, (R _ _ (by omega)).trans u8, (R _ _ (by omega)).trans u9⟩
      rw [R 20 i (by omega), mv_old (q := 72) (by omega) (by omega) (by omega) (by omega) (by omega) (by omega), mv_old (q := 73) (by omega) (by omega) (by omega) (by omega) (by omega) (by omega)]
      exact u5
    · rw [R 22 i (by omega), R 22 j (by omega)]
      exact g5 i j hij hj
  refine ⟨i1.of ?_, i2.of ?_, i3.of ?_, i4.of ?_, i5.of ?_, J6, J7, i8.of ?_, i9.of ?_, i10.of ?_, i11.of ?_, i12.of ?_, i13.of ?_, i14.of ?_⟩
  all_goals
    intro q c hq
    simp only [sHour, sShops, sKinds, sDays, sStep, sBatch, sSpoil, sKit, sTape, sLaws, sRows, sCuts, sBox, sCost] at hq
    exact mv_old (by omega) (by omega) (by omega) (by omega) (by omega) (by omega)
theorem mayM_at {σ σ' : St} {u : Int32} {b : Nat} (g : ∀ q c, (q = 59 ∧ (c = 1 ∨ c = 32)) ∨ q = 66 ∨ q = 68 ∨ q = 69 ∨ q = 70 ∨ (85 ≤ q ∧ q ≤ 90) → rd σ' q c = rd σ q c) (e71 : rd σ' 71 b = rd σ 71 b) (e72 : rd σ' 72 b = rd σ 72 b) (e74 : rd σ' 74 b = rd σ 74 b) : mayM σ' u b = mayM σ u b := by
  have G : ∀ q, (q = 66 ∨ q = 68 ∨ q = 69 ∨ q = 70 ∨ (85 ≤ q ∧ q ≤ 90)) → ∀ c, rd σ' q c = rd σ q c := fun q hq c => g q c (Or.inr hq)
  have a1 := g 59 1 (by omega)
  have a2 := g 59 32 (by omega)
  have g66 := G 66 (by omega)
  have g68 := G 68 (by omega)
  have g69 := G 69 (by omega)
  have g70 := G 70 (by omega)
  have g85 := G 85 (by omega)
  have g86 := G 86 (by omega)
  have g87 := G 87 (by omega)
  have g88 := G 88 (by omega)
  have g89 := G 89 (by omega)
  have g90 := G 90 (by omega)
  have e1 : lawM σ' u = lawM σ u := by
    unfold lawM
    rw [a1, a2]
    exact lat_congr fun i _ => ⟨g85 i, g86 i, g87 i⟩
  have e2 : ∀ i, lawT σ' i = lawT σ i := fun i => by
    unfold lawT
    simp only [g88, g89, g90]
  have e3 : factM σ' b = factM σ b := by
    funext i
    unfold factM
    simp only [a1, g66, g68, g69, g70, e71, e72, e74]
  unfold mayM mayB
  rw [e1, e2, e3]

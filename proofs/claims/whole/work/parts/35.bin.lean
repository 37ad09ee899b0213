/-! BIN -/
section BN
variable {Γ : GG} {l : Launch} {d : Nat} {σ : St}
theorem S_tossX {h b k sh th v : Nat} (hh : h < 36000) (hb : b < 200) (hk : k < 10) (h1 : rd σ 1 2 = nI h) (x1 : rd σ (b + 142) 1 = nI k) (x5 : rd σ (b + 142) 5 = nI sh) (x9 : rd σ (b + 142) 9 = nI th) (hv : v ≤ sh) : Meth Γ l (d + 1) mX11_toss [.ref 0, .int (nI b), .int (nI v)] σ (KV fun σ' => ∀ q c, rd σ' q c = if q = b + 142 ∧ c = 5 then nI (sh - v) else if q = b + 142 ∧ c = 9 then nI (th + v) else if q = 3 ∧ c = h / 24 then rd σ 3 (h / 24) + nI v * rd σ 14 k else rd σ q c) := by
  have cb : (nI b).toNatClampNeg = b := cl (by omega)
  have ck : (nI k).toNatClampNeg = k := cl (by omega)
  have td : nI h / 24 = nI (h / 24) := nI_divn (b := 24) (by omega) (by omega)
  have ct : (nI (h / 24)).toNatClampNeg = h / 24 := cl (by omega)
  refine M_X11_toss _ _ (w_X11_toss_0 _ _ ?_)
  refine M_X0_take _ _ _ (w_X0_take_0 _ _ _ ⟨in_nI hb (by omega), in_nI (n := 9) (by omega) (by omega), rfl, ?_⟩)
  rw [cb, show (9 : Int32).toNatClampNeg = 9 from rfl]
  have e1 : rd (wr (wr σ (b + 142) 5 (rd σ (b + 142) 5 - nI v)) (b + 142) 9 (rd (wr σ (b + 142) 5 (rd σ (b + 142) 5 - nI v)) (b + 142) 9 + nI v)) 1 2 = nI h := by
    rw [rd_wr, if_neg (by omega), rd_wr, if_neg (by omega)]; exact h1
  have e2 : rd (wr (wr σ (b + 142) 5 (rd σ (b + 142) 5 - nI v)) (b + 142) 9 (rd (wr σ (b + 142) 5 (rd σ (b + 142) 5 - nI v)) (b + 142) 9 + nI v)) (b + 142) 1 = nI k := by
    rw [rd_wr, if_neg (by omega), rd_wr, if_neg (by omega)]; exact x1
  dsimp only
  rw [e1, e2, td, ct, ck]
  refine ⟨in_nI (by omega) (by omega), in_nI hb (by omega), in_nI hk (by omega), rfl, fun q c => ?_⟩
  simp only [rd_wr, x5, x9]
  by_cases c5 : q = b + 142 ∧ c = 5
  · rw [if_neg (by omega), if_neg (by omega), if_pos c5, if_pos c5]
    exact nI_subn hv
  · by_cases c9 : q = b + 142 ∧ c = 9
    · rw [if_neg (by omega), if_pos c9, if_neg c5, if_pos c9, if_neg (by omega)]
      exact nI_addn th v
    · by_cases c3 : q = 3 ∧ c = h / 24
      · rw [if_pos c3, if_neg c5, if_neg c9, if_pos c3, if_neg (by omega), if_neg (by omega), if_neg (by omega), if_neg (by omega)]
      · rw [if_neg c3, if_neg c9, if_neg c5, if_neg c5, if_neg c9, if_neg c3]
theorem S_tossM {h b k th v : Nat} (hh : h < 36000) (hb : b < 200) (hk : k < 10) (h1 : rd σ 59 1 = nI h) (y1 : rd σ 72 b = nI k) (y8 : rd σ 80 b = nI th) : Meth Γ l (d + 1) mX12_toss [.ref 59, .int (nI b), .int (nI v)] σ (KV fun σ' => ∀ q c, rd σ' q c = if q = 80 ∧ c = b then nI (th + v) else if q = 83 ∧ c = h / 24 then rd σ 83 (h / 24) + nI v * rd σ 65 k else rd σ q c) := by
  have cb : (nI b).toNatClampNeg = b := cl (by omega)
  have ck : (nI k).toNatClampNeg = k := cl (by omega)
  have td : nI h / 24 = nI (h / 24) := nI_divn (b := 24) (by omega) (by omega)
  have ct : (nI (h / 24)).toNatClampNeg = h / 24 := cl (by omega)
  refine M_X12_toss _ _ (w_X12_toss_0 _ _ ?_)
  rw [cb, h1, td, ct, y1, ck, y8]
  refine ⟨in_nI hb (by omega), in_nI (by omega) (by omega), in_nI hk (by omega), rfl, fun q c => ?_⟩
  simp only [rd_wr]
  by_cases c8 : q = 80 ∧ c = b
  · rw [if_neg (by omega), if_pos c8, if_pos c8]
    exact nI_addn th v
  · by_cases c3 : q = 83 ∧ c = h / 24
    · rw [if_pos c3, if_neg c8, if_pos c3]
    · rw [if_neg c3, if_neg c8, if_neg c8, if_neg c3]
theorem S_note {b nP v : Nat} {dy kd lt : Int32} (hb : b < 200) (hP : nP < 400) (eP : rd σ 17 7 = nI nP) (x1 : rd σ (b + 142) 1 = kd) (x2 : rd σ (b + 142) 2 = lt) : Meth Γ l d mX0_noteSpoiled [.ref 17, .int (nI b), .int (nI v), .int dy] σ (KV fun σ' => ∀ q c, rd σ' q c = if q = b + 142 ∧ c = 10 then rd σ (b + 142) 10 + nI v else if q = 20 ∧ c = nP then kd * 100 + lt else if q = 21 ∧ c = nP then nI v else if q = 22 ∧ c = nP then dy else if q = 17 ∧ c = 7 then nI (nP + 1) else rd σ q c) := by
  have cb : (nI b).toNatClampNeg = b := cl (by omega)
  have cP : (nI nP).toNatClampNeg = nP := cl (by omega)
  refine M_X0_noteSpoiled _ _ _ (w_X0_noteSpoiled_0 _ _ _ ⟨fun _ => ?_, fun q => absurd ?_ q⟩)
  · have e0 : ∀ x : Int32, rd (wr σ (b + 142) 10 x) 17 7 = nI nP := fun x => by rw [rd_wr, if_neg (by omega)]; exact eP
    have e1 : ∀ x : Int32, rd (wr σ (b + 142) 10 x) (b + 142) 1 = kd := fun x => by rw [rd_wr, if_neg (by omega)]; exact x1
    have e2 : ∀ x : Int32, rd (wr σ (b + 142) 10 x) (b + 142) 2 = lt := fun x => by rw [rd_wr, if_neg (by omega)]; exact x2
    simp only [cb, e0, e1, e2, cP]
    refine ⟨in_nI hb (by omega), in_nI hP (by omega), rfl, fun q c => ?_⟩
    simp only [rd_wr]
    by_cases c1 : q = b + 142 ∧ c = 10
    · rw [if_neg (by omega), if_neg (by omega), if_neg (by omega), if_neg (by omega), if_pos c1, if_pos c1]
    · by_cases c2 : q = 20 ∧ c = nP
      · rw [if_neg (by omega), if_neg (by omega), if_neg (by omega), if_pos c2, if_neg c1, if_pos c2]
      · by_cases c3 : q = 21 ∧ c = nP
        · rw [if_neg (by omega), if_neg (by omega), if_pos c3, if_neg c1, if_neg c2, if_pos c3]
        · by_cases c4 : q = 22 ∧ c = nP
          · rw [if_neg (by omega), if_pos c4, if_neg c1, if_neg c2, if_neg c3, if_pos c4]
          · by_cases c5 : q = 17 ∧ c = 7
            · rw [if_pos c5, if_neg c1, if_neg c2, if_neg c3, if_neg c4, if_pos c5]
              exact nI_s nP
            · rw [if_neg c5, if_neg c4, if_neg c3, if_neg c2, if_neg c1, if_neg c1, if_neg c2, if_neg c3, if_neg c4, if_neg c5]
  · rw [eP]
    exact (nI_lti (b := 400) (by omega) (by omega)).mpr hP
/-- v pieces of batch b thrown on both sides -/
theorem Inv0.tossed {h nS nK nB b v k : Nat} {σ' : St} (h0 : Inv0 h nS nK nB σ) (hb : b < nB) (hk : k < 10) (hv : v ≤ (rd σ (b + 142) 5).toNatClampNeg)
    (r : ∀ q c, rd σ' q c = if q = b + 142 ∧ c = 5 then nI ((rd σ (b + 142) 5).toNatClampNeg - v) else if q = b + 142 ∧ c = 9 then nI ((rd σ (b + 142) 9).toNatClampNeg + v) else if q = 3 ∧ c = h / 24 then rd σ 3 (h / 24) + nI v * rd σ 14 k else if q = 80 ∧ c = b then nI ((rd σ 80 b).toNatClampNeg + v) else if q = 83 ∧ c = h / 24 then rd σ 83 (h / 24) + nI v * rd σ 65 k else rd σ q c) : Inv0 h nS nK nB σ' := by
  obtain ⟨i1, i2, i3, i4, i5, i6, i7, i8, i9, i10, i11, i12, i13, i14⟩ := h0
  have zB := i6.1
  have rn : ∀ q c, ¬ (q = b + 142 ∧ (c = 5 ∨ c = 9)) → ¬ (q = 3 ∧ c = h / 24) → ¬ (q = 80 ∧ c = b) → ¬ (q = 83 ∧ c = h / 24) → rd σ' q c = rd σ q c := fun q c a1 a2 a3 a4 => by
    rw [r, if_neg (by omega), if_neg (by omega), if_neg a2, if_neg a3, if_neg a4]
  have n4 : IDays σ' := by
    intro j hj
    obtain ⟨⟨w, hw, e1, e2⟩, e3⟩ := i4 j hj
    refine ⟨⟨w, hw, by rw [rn _ _ (by omega) (by omega) (by omega) (by omega)]; exact e1, by rw [rn _ _ (by omega) (by omega) (by omega) (by omega)]; exact e2⟩, ?_⟩
    by_cases hjt : j = h / 24
    · obtain ⟨p', c', g', z', t', q1, q2, q3, q4, q5, ⟨f1, f2, f3, f4, f5⟩, ⟨y1, y2, y3, y4, y5⟩⟩ := i3.2.2.2 k hk
      rw [r 83 j, r 3 j, if_neg (by omega), if_neg (by omega), if_neg (by omega), if_neg (by omega), if_pos ⟨rfl, hjt⟩, if_neg (by omega), if_neg (by omega), if_pos ⟨rfl, hjt⟩, f3, y3, ← hjt, e3]
    · rw [rn _ _ (by omega) (by omega) (by omega) (by omega), rn _ _ (by omega) (by omega) (by omega) (by omega)]
      exact e3
  have n6 : IBatch h nB σ' := by
    refine i6.took9 (fun x => if x = b then v else 0) (fun x hx => ?_) (fun x hx => ?_) (fun x hx => ?_) (fun x hx => ?_) (fun p i hs h1 h2 => ?_)
    · by_cases e : x = b
      · subst e
        simpa using hv
      · simp [e]
    · by_cases e : x = b
      · subst e
        rw [r, if_pos ⟨rfl, rfl⟩]
        simp
      · rw [rn _ _ (by omega) (by omega) (by omega) (by omega)]
        obtain ⟨s, k', lt, md, sh, so, mo, gi, th, hq, ⟨-, -, -, -, -, x5, -⟩, -⟩ := i6.2.2.2.1 x hx
        rw [x5, cl (by omega)]
        simp [e]
    · by_cases e : x = b
      · subst e
        rw [r, if_neg (by omega), if_pos ⟨rfl, rfl⟩]
        simp
      · rw [rn _ _ (by omega) (by omega) (by omega) (by omega)]
        obtain ⟨s, k', lt, md, sh, so, mo, gi, th, hq, ⟨-, -, -, -, -, -, -, -, -, x9⟩, -⟩ := i6.2.2.2.1 x hx
        rw [x9, cl (by omega)]
        simp [e]
    · by_cases e : x = b
      · subst e
        rw [r, if_neg (by omega), if_neg (by omega), if_neg (by omega), if_pos ⟨rfl, rfl⟩]
        simp
      · rw [rn _ _ (by omega) (by omega) (by omega) (by omega)]
        obtain ⟨s, k', lt, md, sh, so, mo, gi, th, hq, -, ⟨-, -, -, -, -, -, -, -, y8⟩, -⟩ := i6.2.2.2.1 x hx
        rw [y8, cl (by omega)]
        simp [e]
    · unfold sBatch at hs
      exact rn _ _ (by omega) (by omega) (by omega) (by omega)
  refine ⟨i1.of ?_, i2.of ?_, i3.of ?_, n4, i5.of ?_, n6, i7.of ?_, i8.of ?_, i9.of ?_, i10.of ?_, i11.of ?_, i12.of ?_, i13.of ?_, i14.of ?_⟩
  all_goals
    intro q c hs
    simp only [sHour, sShops, sKinds, sDays, sStep, sBatch, sSpoil, sKit, sTape, sLaws, sRows, sCuts, sBox, sCost] at hs
    exact rn _ _ (by omega) (by omega) (by omega) (by omega)
/-- v pieces of batch b told early spoiled on both sides -/
theorem Inv0.spoiled {h nS nK nB b v nP : Nat} {σ' : St} (h0 : Inv0 h nS nK nB σ) (hb : b < nB) (hv : v ≤ 999) (hP : nP < 400) (eP : rd σ 17 7 = nI nP) (e74 : rd σ 59 74 = nI nP)
    (r : ∀ q c, rd σ' q c = if q = b + 142 ∧ c = 10 then rd σ (b + 142) 10 + nI v else if q = 20 ∧ c = nP then rd σ 72 b * 100 + rd σ 73 b else if q = 21 ∧ c = nP then nI v else if q = 22 ∧ c = nP then nI (h / 24) else if q = 17 ∧ c = 7 then nI (nP + 1) else if q = 81 ∧ c = b then rd σ 81 b + nI v else if q = 115 ∧ c = nP then nI b else if q = 116 ∧ c = nP then nI (h / 24) else if q = 117 ∧ c = nP then nI v else if q = 59 ∧ c = 74 then nI (nP + 1) else rd σ q c) : Inv0 h nS nK nB σ' := by
  obtain ⟨i1, i2, i3, i4, i5, i6, i7, i8, i9, i10, i11, i12, i13, i14⟩ := h0
  have zB := i6.1
  have rn : ∀ q c, ¬ (q = b + 142 ∧ c = 10) → ¬ ((q = 20 ∨ q = 21 ∨ q = 22 ∨ q = 115 ∨ q = 116 ∨ q = 117) ∧ c = nP) → ¬ (q = 17 ∧ c = 7) → ¬ (q = 81 ∧ c = b) → ¬ (q = 59 ∧ c = 74) → rd σ' q c = rd σ q c := fun q c a1 a2 a3 a4 a5 => by
    rw [r, if_neg a1, if_neg (by omega), if_neg (by omega), if_neg (by omega), if_neg a3, if_neg a4, if_neg (by omega), if_neg (by omega), if_neg (by omega), if_neg a5]
  have n6 : IBatch h nB σ' := by
    obtain ⟨z, b1, b2, b3, b4⟩ := i6
    have G : ∀ x i, x < 200 → i ≠ 10 → rd σ' (x + 142) i = rd σ (x + 142) i := fun x i h1 h2 => rn _ _ (by omega) (by omega) (by omega) (by omega) (by omega)
    have G2 : ∀ p x, 71 ≤ p → p ≤ 82 → p ≠ 81 → rd σ' p x = rd σ p x := fun p x h1 h2 h3 => rn _ _ (by omega) (by omega) (by omega) (by omega) (by omega)
    refine ⟨z, by rw [rn _ _ (by omega) (by omega) (by omega) (by omega) (by omega)]; exact b1, by rw [rn _ _ (by omega) (by omega) (by omega) (by omega) (by omega)]; exact b2, fun x hx => ?_, fun x hx hx2 => ?_⟩
    · obtain ⟨s, k, lt, md, sh, so, mo, gi, th, hh, u1, u2, z1, z2, z3⟩ := b3 x hx
      refine ⟨s, k, lt, md, sh, so, mo, gi, th, hh, by simpa (disch := omega) only [G] using u1, by simpa (disch := omega) only [G2] using u2, ?_, by simpa (disch := omega) only [G, G2] using z2, ?_⟩
      · by_cases e : x = b
        · subst e
          rw [r, if_pos ⟨rfl, rfl⟩, r, if_neg (by omega), if_neg (by omega), if_neg (by omega), if_neg (by omega), if_neg (by omega), if_pos ⟨rfl, rfl⟩, z1]
        · rw [rn _ _ (by omega) (by omega) (by omega) (by omega) (by omega), rn 81 x (by omega) (by omega) (by omega) (by omega) (by omega)]
          exact z1
      · rcases z3 with w | ⟨f, hf, w1, w2⟩
        · exact Or.inl (by simpa (disch := omega) only [G, G2] using w)
        · exact Or.inr ⟨f, hf, by simpa (disch := omega) only [G2] using w1, by rw [G x 12 (by omega) (by omega), G f 12 (by omega) (by omega)]; exact w2⟩
    · obtain ⟨⟨a1, a2, a3, a4, a5⟩, c1, c2, c3, c4, c5⟩ := b4 x hx hx2
      refine ⟨⟨?_, ?_, ?_, ?_, ?_⟩, ?_, ?_, ?_, ?_, ?_⟩
      · rw [G x 6 hx2 (by omega)]; exact a1
      · rw [G x 7 hx2 (by omega)]; exact a2
      · rw [G x 8 hx2 (by omega)]; exact a3
      · rw [G x 9 hx2 (by omega)]; exact a4
      · rw [rn _ _ (by omega) (by omega) (by omega) (by omega) (by omega)]; exact a5
      · rw [G2 77 x (by omega) (by omega) (by omega)]; exact c1
      · rw [G2 78 x (by omega) (by omega) (by omega)]; exact c2
      · rw [G2 79 x (by omega) (by omega) (by omega)]; exact c3
      · rw [G2 80 x (by omega) (by omega) (by omega)]; exact c4
      · rw [rn _ _ (by omega) (by omega) (by omega) (by omega) (by omega)]; exact c5
  have n7 : ISpoil h nB σ' := by
    obtain ⟨m, g1, g2, g3, g4, g5⟩ := i7
    have hm : m = nP := by
      rw [g2] at eP
      exact (nI_inj (by omega) (by omega)).mp eP
    subst hm
    have K : ∀ q i, (q = 20 ∨ q = 21 ∨ q = 22 ∨ q = 115 ∨ q = 116 ∨ q = 117) → i < m → rd σ' q i = rd σ q i := fun q i hq hi => rn _ _ (by omega) (by omega) (by omega) (by omega) (by omega)
    have k7 : ∀ x, rd σ' 72 x = rd σ 72 x ∧ rd σ' 73 x = rd σ 73 x := fun x => ⟨rn _ _ (by omega) (by omega) (by omega) (by omega) (by omega), rn _ _ (by omega) (by omega) (by omega) (by omega) (by omega)⟩
    have v22 : rd σ' 22 m = nI (h / 24) := by rw [r, if_neg (by omega), if_neg (by omega), if_neg (by omega), if_pos ⟨rfl, rfl⟩]
    have zh := i1.1
    refine ⟨m + 1, by omega, ?_, ?_, fun i hi => ?_, fun i j hij hj => ?_⟩
    · rw [r, if_neg (by omega), if_neg (by omega), if_neg (by omega), if_neg (by omega), if_pos ⟨rfl, rfl⟩]
    · rw [r, if_neg (by omega), if_neg (by omega), if_neg (by omega), if_neg (by omega), if_neg (by omega), if_neg (by omega), if_neg (by omega), if_neg (by omega), if_neg (by omega), if_pos ⟨rfl, rfl⟩]
    · by_cases e : i = m
      · subst e
        refine ⟨b, v, h / 24, hb, hv, Nat.le_refl _, ?_, ?_, ?_, ?_, v22, ?_⟩
        · rw [r, if_neg (by omega), if_neg (by omega), if_neg (by omega), if_neg (by omega), if_neg (by omega), if_neg (by omega), if_pos ⟨rfl, rfl⟩]
        · rw [(k7 b).1, (k7 b).2, r, if_neg (by omega), if_pos ⟨rfl, rfl⟩]
        · rw [r, if_neg (by omega), if_neg (by omega), if_pos ⟨rfl, rfl⟩]
        · rw [r, if_neg (by omega), if_neg (by omega), if_neg (by omega), if_neg (by omega), if_neg (by omega), if_neg (by omega), if_neg (by omega), if_neg (by omega), if_pos ⟨rfl, rfl⟩]
        · rw [r, if_neg (by omega), if_neg (by omega), if_neg (by omega), if_neg (by omega), if_neg (by omega), if_neg (by omega), if_neg (by omega), if_pos ⟨rfl, rfl⟩]
      · obtain ⟨x, p, dy, u1, u2, u3, u4, u5, u6, u7, u8, u9⟩ := g4 i (by omega)
        refine ⟨x, p, dy, u1, u2, u3, ?_, ?_, ?_, ?_, ?_, ?_⟩
        · rw [K 115 i (by omega) (by omega)]; exact u4
        · rw [K 20 i (by omega) (by omega), (k7 x).1, (k7 x).2]; exact u5
        · rw [K 21 i (by omega) (by omega)]; exact u6
        · rw [K 117 i (by omega) (by omega)]; exact u7
        · rw [K 22 i (by omega) (by omega)]; exact u8
        · rw [K 116 i (by omega) (by omega)]; exact u9
    · rw [K 22 i (by omega) (by omega)]
      by_cases e : j = m
      · subst e
        obtain ⟨x, p, dy, u1, u2, u3, u4, u5, u6, u7, u8, u9⟩ := g4 i (by omega)
        rw [v22, u8, cl (by omega), cl (by omega)]
        exact u3
      · rw [K 22 j (by omega) (by omega)]
        exact g5 i j hij (by omega)
  refine ⟨i1.of ?_, i2.of ?_, i3.of ?_, i4.of ?_, i5.of ?_, n6, n7, i8.of ?_, i9.of ?_, i10.of ?_, i11.of ?_, i12.of ?_, i13.of ?_, i14.of ?_⟩
  all_goals
    intro q c hs
    simp only [sHour, sShops, sKinds, sDays, sStep, sBatch, sSpoil, sKit, sTape, sLaws, sRows, sCuts, sBox, sCost] at hs
    exact rn _ _ (by omega) (by omega) (by omega) (by omega) (by omega)
end BN

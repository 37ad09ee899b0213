/-! PIECES that leave the shelf: A b of batch b, told in column c of the class' row and in the reference's array q -/
theorem IBatch.took6 {h n : Nat} {σ σ' : St} (A : Nat → Nat) (h0 : IBatch h n σ)
    (hA : ∀ b, b < n → A b ≤ (rd σ (b + 142) 5).toNatClampNeg)
    (e5 : ∀ b, b < n → rd σ' (b + 142) 5 = nI ((rd σ (b + 142) 5).toNatClampNeg - A b))
    (ec : ∀ b, b < n → rd σ' (b + 142) 6 = nI ((rd σ (b + 142) 6).toNatClampNeg + A b))
    (eq : ∀ b, b < n → rd σ' 77 b = nI ((rd σ 77 b).toNatClampNeg + A b))
    (rest : ∀ p i, sBatch p i → ¬ (142 ≤ p ∧ p < n + 142 ∧ (i = 5 ∨ i = 6)) → ¬ (p = 77 ∧ i < n) → rd σ' p i = rd σ p i) : IBatch h n σ' := by
  obtain ⟨z, b1, b2, b3, b4⟩ := h0
  refine ⟨z, by rw [rest _ _ (by unfold sBatch; omega) (by omega) (by omega)]; exact b1, by rw [rest _ _ (by unfold sBatch; omega) (by omega) (by omega)]; exact b2, fun b hb => ?_, fun b hb hb2 => ?_⟩
  · obtain ⟨s, k, lt, md, sh, so, mo, gi, th, hh, ⟨x0, x1, x2, x3, x4, x5, x6, x7, x8, x9⟩, ⟨y0, y1, y2, y3, y4, y5, y6, y7, y8⟩, z1, z2, z3⟩ := b3 b hb
    have a1 := hA b hb
    have a2 := e5 b hb
    have a3 := ec b hb
    have a4 := eq b hb
    rw [x5, cl (by omega)] at a1 a2
    have G : ∀ i, i ≠ 5 → i ≠ 6 → rd σ' (b + 142) i = rd σ (b + 142) i := fun i h1 h2 => rest _ _ (by unfold sBatch; omega) (by omega) (by omega)
    have G2 : ∀ p, 71 ≤ p → p ≤ 82 → p ≠ 77 → rd σ' p b = rd σ p b := fun p h1 h2 h3 => rest _ _ (by unfold sBatch; omega) (by omega) (by omega)
    have z3' : (rd σ' 82 b = -1 ∧ rd σ' (b + 142) 12 = nI b ∧ ∃ c, c ≤ h / 24 ∧ rd σ' (b + 142) 13 = nI c ∧ rd σ' 75 b = nI c) ∨ ∃ f, f < b ∧ rd σ' 82 b = nI f ∧ rd σ' (b + 142) 12 = rd σ' (f + 142) 12 := by
      rw [G2 82 (by omega) (by omega) (by omega), G2 75 (by omega) (by omega) (by omega), G 12 (by omega) (by omega), G 13 (by omega) (by omega)]
      rcases z3 with w | ⟨f, hf, w1, w2⟩
      · exact Or.inl w
      · exact Or.inr ⟨f, hf, w1, by rw [rest (f + 142) 12 (by unfold sBatch; omega) (by omega) (by omega)]; exact w2⟩
    have z1' : rd σ' (b + 142) 10 = rd σ' 81 b := by rw [G 10 (by omega) (by omega), G2 81 (by omega) (by omega) (by omega)]; exact z1
    have z2' : rd σ' (b + 142) 11 = rd σ' 82 b := by rw [G 11 (by omega) (by omega), G2 82 (by omega) (by omega) (by omega)]; exact z2
    rw [x6, cl (by omega)] at a3
    rw [y5, cl (by omega)] at a4
    refine ⟨s, k, lt, md, sh - A b, so + A b, mo, gi, th, ⟨hh.1, hh.2.1, hh.2.2.1, hh.2.2.2.1, by omega⟩, ⟨?_, ?_, ?_, ?_, ?_, a2, a3, ?_, ?_, ?_⟩, ⟨?_, ?_, ?_, ?_, ?_, a4, ?_, ?_, ?_⟩, z1', z2', z3'⟩
    · rw [G 0 (by omega) (by omega)]; exact x0
    · rw [G 1 (by omega) (by omega)]; exact x1
    · rw [G 2 (by omega) (by omega)]; exact x2
    · rw [G 3 (by omega) (by omega)]; exact x3
    · rw [G 4 (by omega) (by omega), x4]; congr 1; omega
    · rw [G 7 (by omega) (by omega)]; exact x7
    · rw [G 8 (by omega) (by omega)]; exact x8
    · rw [G 9 (by omega) (by omega)]; exact x9
    · rw [G2 71 (by omega) (by omega) (by omega)]; exact y0
    · rw [G2 72 (by omega) (by omega) (by omega)]; exact y1
    · rw [G2 73 (by omega) (by omega) (by omega)]; exact y2
    · rw [G2 74 (by omega) (by omega) (by omega)]; exact y3
    · rw [G2 76 (by omega) (by omega) (by omega), y4]; congr 1; omega
    · rw [G2 78 (by omega) (by omega) (by omega)]; exact y6
    · rw [G2 79 (by omega) (by omega) (by omega)]; exact y7
    · rw [G2 80 (by omega) (by omega) (by omega)]; exact y8
  · have G : ∀ i, rd σ' (b + 142) i = rd σ (b + 142) i := fun i => rest _ _ (by unfold sBatch; omega) (by omega) (by omega)
    have G2 : ∀ p, 71 ≤ p → p ≤ 82 → rd σ' p b = rd σ p b := fun p h1 h2 => rest _ _ (by unfold sBatch; omega) (by omega) (by omega)
    have h6 := b4 b hb hb2
    simpa (disch := omega) only [G, G2] using h6
theorem IBatch.took7 {h n : Nat} {σ σ' : St} (A : Nat → Nat) (h0 : IBatch h n σ)
    (hA : ∀ b, b < n → A b ≤ (rd σ (b + 142) 5).toNatClampNeg)
    (e5 : ∀ b, b < n → rd σ' (b + 142) 5 = nI ((rd σ (b + 142) 5).toNatClampNeg - A b))
    (ec : ∀ b, b < n → rd σ' (b + 142) 7 = nI ((rd σ (b + 142) 7).toNatClampNeg + A b))
    (eq : ∀ b, b < n → rd σ' 78 b = nI ((rd σ 78 b).toNatClampNeg + A b))
    (rest : ∀ p i, sBatch p i → ¬ (142 ≤ p ∧ p < n + 142 ∧ (i = 5 ∨ i = 7)) → ¬ (p = 78 ∧ i < n) → rd σ' p i = rd σ p i) : IBatch h n σ' := by
  obtain ⟨z, b1, b2, b3, b4⟩ := h0
  refine ⟨z, by rw [rest _ _ (by unfold sBatch; omega) (by omega) (by omega)]; exact b1, by rw [rest _ _ (by unfold sBatch; omega) (by omega) (by omega)]; exact b2, fun b hb => ?_, fun b hb hb2 => ?_⟩
  · obtain ⟨s, k, lt, md, sh, so, mo, gi, th, hh, ⟨x0, x1, x2, x3, x4, x5, x6, x7, x8, x9⟩, ⟨y0, y1, y2, y3, y4, y5, y6, y7, y8⟩, z1, z2, z3⟩ := b3 b hb
    have a1 := hA b hb
    have a2 := e5 b hb
    have a3 := ec b hb
    have a4 := eq b hb
    rw [x5, cl (by omega)] at a1 a2
    have G : ∀ i, i ≠ 5 → i ≠ 7 → rd σ' (b + 142) i = rd σ (b + 142) i := fun i h1 h2 => rest _ _ (by unfold sBatch; omega) (by omega) (by omega)
    have G2 : ∀ p, 71 ≤ p → p ≤ 82 → p ≠ 78 → rd σ' p b = rd σ p b := fun p h1 h2 h3 => rest _ _ (by unfold sBatch; omega) (by omega) (by omega)
    have z3' : (rd σ' 82 b = -1 ∧ rd σ' (b + 142) 12 = nI b ∧ ∃ c, c ≤ h / 24 ∧ rd σ' (b + 142) 13 = nI c ∧ rd σ' 75 b = nI c) ∨ ∃ f, f < b ∧ rd σ' 82 b = nI f ∧ rd σ' (b + 142) 12 = rd σ' (f + 142) 12 := by
      rw [G2 82 (by omega) (by omega) (by omega), G2 75 (by omega) (by omega) (by omega), G 12 (by omega) (by omega), G 13 (by omega) (by omega)]
      rcases z3 with w | ⟨f, hf, w1, w2⟩
      · exact Or.inl w
      · exact Or.inr ⟨f, hf, w1, by rw [rest (f + 142) 12 (by unfold sBatch; omega) (by omega) (by omega)]; exact w2⟩
    have z1' : rd σ' (b + 142) 10 = rd σ' 81 b := by rw [G 10 (by omega) (by omega), G2 81 (by omega) (by omega) (by omega)]; exact z1
    have z2' : rd σ' (b + 142) 11 = rd σ' 82 b := by rw [G 11 (by omega) (by omega), G2 82 (by omega) (by omega) (by omega)]; exact z2
    rw [x7, cl (by omega)] at a3
    rw [y6, cl (by omega)] at a4
    refine ⟨s, k, lt, md, sh - A b, so, mo + A b, gi, th, ⟨hh.1, hh.2.1, hh.2.2.1, hh.2.2.2.1, by omega⟩, ⟨?_, ?_, ?_, ?_, ?_, a2, ?_, a3, ?_, ?_⟩, ⟨?_, ?_, ?_, ?_, ?_, ?_, a4, ?_, ?_⟩, z1', z2', z3'⟩
    · rw [G 0 (by omega) (by omega)]; exact x0
    · rw [G 1 (by omega) (by omega)]; exact x1
    · rw [G 2 (by omega) (by omega)]; exact x2
    · rw [G 3 (by omega) (by omega)]; exact x3
    · rw [G 4 (by omega) (by omega), x4]; congr 1; omega
    · rw [G 6 (by omega) (by omega)]; exact x6
    · rw [G 8 (by omega) (by omega)]; exact x8
    · rw [G 9 (by omega) (by omega)]; exact x9
    · rw [G2 71 (by omega) (by omega) (by omega)]; exact y0
    · rw [G2 72 (by omega) (by omega) (by omega)]; exact y1
    · rw [G2 73 (by omega) (by omega) (by omega)]; exact y2
    · rw [G2 74 (by omega) (by omega) (by omega)]; exact y3
    · rw [G2 76 (by omega) (by omega) (by omega), y4]; congr 1; omega
    · rw [G2 77 (by omega) (by omega) (by omega)]; exact y5
    · rw [G2 79 (by omega) (by omega) (by omega)]; exact y7
    · rw [G2 80 (by omega) (by omega) (by omega)]; exact y8
  · have G : ∀ i, rd σ' (b + 142) i = rd σ (b + 142) i := fun i => rest _ _ (by unfold sBatch; omega) (by omega) (by omega)
    have G2 : ∀ p, 71 ≤ p → p ≤ 82 → rd σ' p b = rd σ p b := fun p h1 h2 => rest _ _ (by unfold sBatch; omega) (by omega) (by omega)
    have h6 := b4 b hb hb2
    simpa (disch := omega) only [G, G2] using h6
theorem IBatch.took8 {h n : Nat} {σ σ' : St} (A : Nat → Nat) (h0 : IBatch h n σ)
    (hA : ∀ b, b < n → A b ≤ (rd σ (b + 142) 5).toNatClampNeg)
    (e5 : ∀ b, b < n → rd σ' (b + 142) 5 = nI ((rd σ (b + 142) 5).toNatClampNeg - A b))
    (ec : ∀ b, b < n → rd σ' (b + 142) 8 = nI ((rd σ (b + 142) 8).toNatClampNeg + A b))
    (eq : ∀ b, b < n → rd σ' 79 b = nI ((rd σ 79 b).toNatClampNeg + A b))
    (rest : ∀ p i, sBatch p i → ¬ (142 ≤ p ∧ p < n + 142 ∧ (i = 5 ∨ i = 8)) → ¬ (p = 79 ∧ i < n) → rd σ' p i = rd σ p i) : IBatch h n σ' := by
  obtain ⟨z, b1, b2, b3, b4⟩ := h0
  refine ⟨z, by rw [rest _ _ (by unfold sBatch; omega) (by omega) (by omega)]; exact b1, by rw [rest _ _ (by unfold sBatch; omega) (by omega) (by omega)]; exact b2, fun b hb => ?_, fun b hb hb2 => ?_⟩
  · obtain ⟨s, k, lt, md, sh, so, mo, gi, th, hh, ⟨x0, x1, x2, x3, x4, x5, x6, x7, x8, x9⟩, ⟨y0, y1, y2, y3, y4, y5, y6, y7, y8⟩, z1, z2, z3⟩ := b3 b hb
    have a1 := hA b hb
    have a2 := e5 b hb
    have a3 := ec b hb
    have a4 := eq b hb
    rw [x5, cl (by omega)] at a1 a2
    have G : ∀ i, i ≠ 5 → i ≠ 8 → rd σ' (b + 142) i = rd σ (b + 142) i := fun i h1 h2 => rest _ _ (by unfold sBatch; omega) (by omega) (by omega)
    have G2 : ∀ p, 71 ≤ p → p ≤ 82 → p ≠ 79 → rd σ' p b = rd σ p b := fun p h1 h2 h3 => rest _ _ (by unfold sBatch; omega) (by omega) (by omega)
    have z3' : (rd σ' 82 b = -1 ∧ rd σ' (b + 142) 12 = nI b ∧ ∃ c, c ≤ h / 24 ∧ rd σ' (b + 142) 13 = nI c ∧ rd σ' 75 b = nI c) ∨ ∃ f, f < b ∧ rd σ' 82 b = nI f ∧ rd σ' (b + 142) 12 = rd σ' (f + 142) 12 := by
      rw [G2 82 (by omega) (by omega) (by omega), G2 75 (by omega) (by omega) (by omega), G 12 (by omega) (by omega), G 13 (by omega) (by omega)]
      rcases z3 with w | ⟨f, hf, w1, w2⟩
      · exact Or.inl w
      · exact Or.inr ⟨f, hf, w1, by rw [rest (f + 142) 12 (by unfold sBatch; omega) (by omega) (by omega)]; exact w2⟩
    have z1' : rd σ' (b + 142) 10 = rd σ' 81 b := by rw [G 10 (by omega) (by omega), G2 81 (by omega) (by omega) (by omega)]; exact z1
    have z2' : rd σ' (b + 142) 11 = rd σ' 82 b := by rw [G 11 (by omega) (by omega), G2 82 (by omega) (by omega) (by omega)]; exact z2
    rw [x8, cl (by omega)] at a3
    rw [y7, cl (by omega)] at a4
    refine ⟨s, k, lt, md, sh - A b, so, mo, gi + A b, th, ⟨hh.1, hh.2.1, hh.2.2.1, hh.2.2.2.1, by omega⟩, ⟨?_, ?_, ?_, ?_, ?_, a2, ?_, ?_, a3, ?_⟩, ⟨?_, ?_, ?_, ?_, ?_, ?_, ?_, a4, ?_⟩, z1', z2', z3'⟩
    · rw [G 0 (by omega) (by omega)]; exact x0
    · rw [G 1 (by omega) (by omega)]; exact x1
    · rw [G 2 (by omega) (by omega)]; exact x2
    · rw [G 3 (by omega) (by omega)]; exact x3
    · rw [G 4 (by omega) (by omega), x4]; congr 1; omega
    · rw [G 6 (by omega) (by omega)]; exact x6
    · rw [G 7 (by omega) (by omega)]; exact x7
    · rw [G 9 (by omega) (by omega)]; exact x9
    · rw [G2 71 (by omega) (by omega) (by omega)]; exact y0
    · rw [G2 72 (by omega) (by omega) (by omega)]; exact y1
    · rw [G2 73 (by omega) (by omega) (by omega)]; exact y2
    · rw [G2 74 (by omega) (by omega) (by omega)]; exact y3
    · rw [G2 76 (by omega) (by omega) (by omega), y4]; congr 1; omega
    · rw [G2 77 (by omega) (by omega) (by omega)]; exact y5
    · rw [G2 78 (by omega) (by omega) (by omega)]; exact y6
    · rw [G2 80 (by omega) (by omega) (by omega)]; exact y8
  · have G : ∀ i, rd σ' (b + 142) i = rd σ (b + 142) i := fun i => rest _ _ (by unfold sBatch; omega) (by omega) (by omega)
    have G2 : ∀ p, 71 ≤ p → p ≤ 82 → rd σ' p b = rd σ p b := fun p h1 h2 => rest _ _ (by unfold sBatch; omega) (by omega) (by omega)
    have h6 := b4 b hb hb2
    simpa (disch := omega) only [G, G2] using h6
theorem IBatch.took9 {h n : Nat} {σ σ' : St} (A : Nat → Nat) (h0 : IBatch h n σ)
    (hA : ∀ b, b < n → A b ≤ (rd σ (b + 142) 5).toNatClampNeg)
    (e5 : ∀ b, b < n → rd σ' (b + 142) 5 = nI ((rd σ (b + 142) 5).toNatClampNeg - A b))
    (ec : ∀ b, b < n → rd σ' (b + 142) 9 = nI ((rd σ (b + 142) 9).toNatClampNeg + A b))
    (eq : ∀ b, b < n → rd σ' 80 b = nI ((rd σ 80 b).toNatClampNeg + A b))
    (rest : ∀ p i, sBatch p i → ¬ (142 ≤ p ∧ p < n + 142 ∧ (i = 5 ∨ i = 9)) → ¬ (p = 80 ∧ i < n) → rd σ' p i = rd σ p i) : IBatch h n σ' := by
  obtain ⟨z, b1, b2, b3, b4⟩ := h0
  refine ⟨z, by rw [rest _ _ (by unfold sBatch; omega) (by omega) (by omega)]; exact b1, by rw [rest _ _ (by unfold sBatch; omega) (by omega) (by omega)]; exact b2, fun b hb => ?_, fun b hb hb2 => ?_⟩
  · obtain ⟨s, k, lt, md, sh, so, mo, gi, th, hh, ⟨x0, x1, x2, x3, x4, x5, x6, x7, x8, x9⟩, ⟨y0, y1, y2, y3, y4, y5, y6, y7, y8⟩, z1, z2, z3⟩ := b3 b hb
    have a1 := hA b hb
    have a2 := e5 b hb
    have a3 := ec b hb
    have a4 := eq b hb
    rw [x5, cl (by omega)] at a1 a2
    have G : ∀ i, i ≠ 5 → i ≠ 9 → rd σ' (b + 142) i = rd σ (b + 142) i := fun i h1 h2 => rest _ _ (by unfold sBatch; omega) (by omega) (by omega)
    have G2 : ∀ p, 71 ≤ p → p ≤ 82 → p ≠ 80 → rd σ' p b = rd σ p b := fun p h1 h2 h3 => rest _ _ (by unfold sBatch; omega) (by omega) (by omega)
    have z3' : (rd σ' 82 b = -1 ∧ rd σ' (b + 142) 12 = nI b ∧ ∃ c, c ≤ h / 24 ∧ rd σ' (b + 142) 13 = nI c ∧ rd σ' 75 b = nI c) ∨ ∃ f, f < b ∧ rd σ' 82 b = nI f ∧ rd σ' (b + 142) 12 = rd σ' (f + 142) 12 := by
      rw [G2 82 (by omega) (by omega) (by omega), G2 75 (by omega) (by omega) (by omega), G 12 (by omega) (by omega), G 13 (by omega) (by omega)]
      rcases z3 with w | ⟨f, hf, w1, w2⟩
      · exact Or.inl w
      · exact Or.inr ⟨f, hf, w1, by rw [rest (f + 142) 12 (by unfold sBatch; omega) (by omega) (by omega)]; exact w2⟩
    have z1' : rd σ' (b + 142) 10 = rd σ' 81 b := by rw [G 10 (by omega) (by omega), G2 81 (by omega) (by omega) (by omega)]; exact z1
    have z2' : rd σ' (b + 142) 11 = rd σ' 82 b := by rw [G 11 (by omega) (by omega), G2 82 (by omega) (by omega) (by omega)]; exact z2
    rw [x9, cl (by omega)] at a3
    rw [y8, cl (by omega)] at a4
    refine ⟨s, k, lt, md, sh - A b, so, mo, gi, th + A b, ⟨hh.1, hh.2.1, hh.2.2.1, hh.2.2.2.1, by omega⟩, ⟨?_, ?_, ?_, ?_, ?_, a2, ?_, ?_, ?_, a3⟩, ⟨?_, ?_, ?_, ?_, ?_, ?_, ?_, ?_, a4⟩, z1', z2', z3'⟩
    · rw [G 0 (by omega) (by omega)]; exact x0
    · rw [G 1 (by omega) (by omega)]; exact x1
    · rw [G 2 (by omega) (by omega)]; exact x2
    · rw [G 3 (by omega) (by omega)]; exact x3
    · rw [G 4 (by omega) (by omega), x4]; congr 1; omega
    · rw [G 6 (by omega) (by omega)]; exact x6
    · rw [G 7 (by omega) (by omega)]; exact x7
    · rw [G 8 (by omega) (by omega)]; exact x8
    · rw [G2 71 (by omega) (by omega) (by omega)]; exact y0
    · rw [G2 72 (by omega) (by omega) (by omega)]; exact y1
    · rw [G2 73 (by omega) (by omega) (by omega)]; exact y2
    · rw [G2 74 (by omega) (by omega) (by omega)]; exact y3
    · rw [G2 76 (by omega) (by omega) (by omega), y4]; congr 1; omega
    · rw [G2 77 (by omega) (by omega) (by omega)]; exact y5
    · rw [G2 78 (by omega) (by omega) (by omega)]; exact y6
    · rw [G2 79 (by omega) (by omega) (by omega)]; exact y7
  · have G : ∀ i, rd σ' (b + 142) i = rd σ (b + 142) i := fun i => rest _ _ (by unfold sBatch; omega) (by omega) (by omega)
    have G2 : ∀ p, 71 ≤ p → p ≤ 82 → rd σ' p b = rd σ p b := fun p h1 h2 => rest _ _ (by unfold sBatch; omega) (by omega) (by omega)
    have h6 := b4 b hb hb2
    simpa (disch := omega) only [G, G2] using h6

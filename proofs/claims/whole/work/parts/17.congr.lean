/-! each part of the invariant stands while its places do -/
theorem IHour.of {h : Nat} {σ σ' : St} (g : agr sHour σ σ') (h0 : IHour h σ) : IHour h σ' := by
  unfold IHour at *
  simp (disch := (unfold sHour; omega)) only [g _ _]
  exact h0
theorem IShops.of {n : Nat} {σ σ' : St} (g : agr sShops σ σ') (h0 : IShops n σ) : IShops n σ' := by
  unfold IShops at *
  simp (disch := (unfold sShops; omega)) only [g _ _]
  exact h0
theorem IKinds.of {n : Nat} {σ σ' : St} (g : agr sKinds σ σ') (h0 : IKinds n σ) : IKinds n σ' := by
  unfold IKinds at *
  simp (disch := (unfold sKinds; omega)) only [g _ _]
  exact h0
theorem IDays.of {σ σ' : St} (g : agr sDays σ σ') (h0 : IDays σ) : IDays σ' := by
  unfold IDays at *
  simp (disch := (unfold sDays; omega)) only [g _ _]
  exact h0
theorem IStep.of {σ σ' : St} (g : agr sStep σ σ') (h0 : IStep σ) : IStep σ' := by
  intro s k hs hk
  have h1 := h0 s k hs hk
  rw [g (s + 118) k (by unfold sStep; omega), g 69 _ (by unfold sStep; omega), g (s + 130) k (by unfold sStep; omega), g 70 _ (by unfold sStep; omega)]
  exact h1
theorem IB.of {h b n : Nat} {σ σ' : St} (hb : b < n) (hn : n ≤ 200) (g : agr sBatch σ σ') (h0 : IB h b σ) : IB h b σ' := by
  obtain ⟨s, k, lt, md, sh, so, mo, gi, th, h1, h2, h3, h4, h5, h6⟩ := h0
  have gr : ∀ c, rd σ' (b + 142) c = rd σ (b + 142) c := fun c => g _ _ (by unfold sBatch; omega)
  have gm : ∀ q, 71 ≤ q → q ≤ 82 → ∀ c, rd σ' q c = rd σ q c := fun q _ _ c => g _ _ (by unfold sBatch; omega)
  refine ⟨s, k, lt, md, sh, so, mo, gi, th, h1, by simpa only [gr] using h2, ?_, ?_, ?_, ?_⟩
  · simpa (disch := omega) only [gm] using h3
  · simpa (disch := omega) only [gr, gm] using h4
  · simpa (disch := omega) only [gr, gm] using h5
  · rcases h6 with h6 | ⟨f, hf, h7, h8⟩
    · exact Or.inl (by simpa (disch := omega) only [gr, gm] using h6)
    · refine Or.inr ⟨f, hf, by simpa (disch := omega) only [gm] using h7, ?_⟩
      rw [gr, g (f + 142) 12 (by unfold sBatch; omega)]
      exact h8
theorem IBatch.of {h n : Nat} {σ σ' : St} (g : agr sBatch σ σ') (h0 : IBatch h n σ) : IBatch h n σ' := by
  obtain ⟨h1, h2, h3, h4, h5⟩ := h0
  refine ⟨h1, by rw [g _ _ (by unfold sBatch; omega)]; exact h2, by rw [g _ _ (by unfold sBatch; omega)]; exact h3, fun b hb => (h4 b hb).of hb h1 g, fun b hb hb2 => ?_⟩
  have gr : ∀ c, rd σ' (b + 142) c = rd σ (b + 142) c := fun c => g _ _ (by unfold sBatch; omega)
  have gm : ∀ q, 71 ≤ q → q ≤ 82 → ∀ c, rd σ' q c = rd σ q c := fun q _ _ c => g _ _ (by unfold sBatch; omega)
  have h6 := h5 b hb hb2
  simpa (disch := omega) only [gr, gm] using h6
theorem ISpoil.of {h n : Nat} {σ σ' : St} (g : agr sSpoil σ σ') (h0 : ISpoil h n σ) : ISpoil h n σ' := by
  unfold ISpoil at *
  simp (disch := (unfold sSpoil; omega)) only [g _ _]
  exact h0
theorem IKit.of {σ σ' : St} (g : agr sKit σ σ') (h0 : IKit σ) : IKit σ' := by
  unfold IKit at *
  simp (disch := (unfold sKit; omega)) only [g _ _]
  exact h0
theorem ITape.of {σ σ' : St} (g : agr sTape σ σ') (h0 : ITape σ) : ITape σ' := by
  unfold ITape at *
  simp (disch := (unfold sTape; omega)) only [g _ _]
  exact h0
theorem ILaw.of {h i : Nat} {T : List (Nat × Nat)} {σ σ' : St} (hi : i < 16) (g : agr sLaws σ σ') (h0 : ILaw h i T σ) : ILaw h i T σ' := by
  obtain ⟨h1, h2, h3, h4, h5, h6, h7, h8, h9⟩ := h0
  have gr : ∀ c, rd σ' (i + 342) c = rd σ (i + 342) c := fun c => g _ _ (by unfold sLaws; omega)
  have gm : ∀ q, (q = 28 ∨ q = 29 ∨ q = 30 ∨ q = 31 ∨ q = 85 ∨ q = 86 ∨ q = 87 ∨ q = 88 ∨ q = 89 ∨ q = 90) → ∀ c, rd σ' q c = rd σ q c := fun q _ c => g _ _ (by unfold sLaws; omega)
  refine ⟨h1, h2, h3, ?_, ?_, ?_, ?_, ?_, ?_⟩
  · rw [gm _ (by omega)]; exact h4
  · rw [gm _ (by omega)]; exact h5
  · intro j t ht
    rw [gr, gm 89 (by omega), gm 90 (by omega)]
    exact h6 j t ht
  · rw [gm 29 (by omega), gm 85 (by omega)]; exact h7
  · rw [gm 31 (by omega), gm 86 (by omega)]; exact h8
  · rw [gm 30 (by omega), gm 87 (by omega)]; exact h9
theorem ILaws.of {h : Nat} {σ σ' : St} (g : agr sLaws σ σ') (h0 : ILaws h σ) : ILaws h σ' := by
  obtain ⟨n, h1, h2, h3, h4⟩ := h0
  refine ⟨n, h1, by rw [g _ _ (by unfold sLaws; omega)]; exact h2, by rw [g _ _ (by unfold sLaws; omega)]; exact h3, fun i hi => ?_⟩
  obtain ⟨T, hT⟩ := h4 i hi
  exact ⟨T, hT.of (by omega) g⟩
theorem IRow.of {h r : Nat} {σ σ' : St} (g : agr sRows σ σ') (h0 : IRow h r σ) : IRow h r σ' := by
  unfold IRow at *
  simp (disch := (unfold sRows; omega)) only [g _ _]
  exact h0
theorem IRows.of {h : Nat} {σ σ' : St} (g : agr sRows σ σ') (h0 : IRows h σ) : IRows h σ' := by
  obtain ⟨n, h1, h2, h3, h4, h5⟩ := h0
  refine ⟨n, h1, by rw [g _ _ (by unfold sRows; omega)]; exact h2, by rw [g _ _ (by unfold sRows; omega)]; exact h3, fun r hr => (h4 r hr).of g, fun r r' a b => ?_⟩
  rw [g 37 _ (by unfold sRows; omega), g 37 _ (by unfold sRows; omega)]
  exact h5 r r' a b
theorem ICuts.of {σ σ' : St} (g : agr sCuts σ σ') (h0 : ICuts σ) : ICuts σ' := by
  unfold ICuts at *
  simp (disch := (unfold sCuts; omega)) only [g _ _]
  exact h0
theorem IBox.of {n : Nat} {σ σ' : St} (g : agr sBox σ σ') (h0 : IBox n σ) : IBox n σ' := by
  unfold IBox at *
  simp (disch := (unfold sBox; omega)) only [g _ _]
  exact h0
theorem ICost.of {σ σ' : St} (g : agr sCost σ σ') (h0 : ICost σ) : ICost σ' := by
  unfold ICost at *
  simp (disch := (unfold sCost; omega)) only [g _ _]
  exact h0
theorem agr.rf {S : P2} {σ : St} : agr S σ σ := fun _ _ _ => rfl
theorem agr.tr {S : P2} {a b c : St} (h1 : agr S a b) (h2 : agr S b c) : agr S a c := fun q k h => (h2 q k h).trans (h1 q k h)
theorem agr.wr {S : P2} {σ σ' : St} {q k : Nat} {x : Int32} (h : agr S σ σ') (hn : ¬ S q k) : agr S σ (wr σ' q k x) := fun a b hab => by
  rw [rd_wr, if_neg (fun e => hn (by rw [← e.1, ← e.2]; exact hab))]
  exact h a b hab
theorem agr.wl {S : P2} {σ σ' : St} {q k : Nat} {x : Int64} (h : agr S σ σ') : agr S σ (wl σ' q k x) := h
/-- the places that a part of the invariant speaks of -/
def sAll : P2 := fun q k => sHour q k ∨ sShops q k ∨ sKinds q k ∨ sDays q k ∨ sStep q k ∨ sBatch q k ∨ sSpoil q k ∨ sKit q k ∨ sTape q k ∨ sLaws q k ∨ sRows q k ∨ sCuts q k ∨ sBox q k ∨ sCost q k
theorem agr.sub {S T : P2} {σ σ' : St} (h : agr T σ σ') (hs : ∀ q k, S q k → T q k) : agr S σ σ' := fun q k hq => h q k (hs q k hq)
theorem Inv0.of {h nS nK nB : Nat} {σ σ' : St} (g : agr sAll σ σ') (h0 : Inv0 h nS nK nB σ) : Inv0 h nS nK nB σ' := by
  obtain ⟨h1, h2, h3, h4, h5, h6, h7, h8, h9, h10, h11, h12, h13, h14⟩ := h0
  unfold sAll at g
  exact ⟨h1.of (g.sub fun _ _ h => by simp [h]), h2.of (g.sub fun _ _ h => by simp [h]), h3.of (g.sub fun _ _ h => by simp [h]), h4.of (g.sub fun _ _ h => by simp [h]), h5.of (g.sub fun _ _ h => by simp [h]), h6.of (g.sub fun _ _ h => by simp [h]), h7.of (g.sub fun _ _ h => by simp [h]), h8.of (g.sub fun _ _ h => by simp [h]), h9.of (g.sub fun _ _ h => by simp [h]), h10.of (g.sub fun _ _ h => by simp [h]), h11.of (g.sub fun _ _ h => by simp [h]), h12.of (g.sub fun _ _ h => by simp [h]), h13.of (g.sub fun _ _ h => by simp [h]), h14.of (g.sub fun _ _ h => by simp [h])⟩
theorem Inv.of {σ σ' : St} (g : agr sAll σ σ') (h0 : Inv σ) : Inv σ' := by
  obtain ⟨h, a, b, c, h1⟩ := h0
  exact ⟨h, a, b, c, h1.of g⟩

/-! LINE UP, and what is on a shelf -/
def elB (τ : St) (s k u : Int32) (b : Nat) : Bool := decide (rd τ 71 b = s) && (decide (rd τ 72 b = k) && (decide (0 < shN τ b) && mayM τ u b))
def sL : P2 := fun q c => ¬ (q = 32 ∨ (q = 26 ∧ c = 7) ∨ q = 33 ∨ q = 19 ∨ (q = 17 ∧ c = 3))
theorem sL_inv {q k : Nat} (h : sAll q k) : sL q k := by
  unfold sL
  simp only [sAll, sHour, sShops, sKinds, sDays, sStep, sBatch, sSpoil, sKit, sTape, sLaws, sRows, sCuts, sBox, sCost] at h
  omega
/-- what the reference's may and its kin read -/
def sR : P2 := fun q c => sLaws q c ∨ (q = 59 ∧ (c = 1 ∨ c = 16)) ∨ q = 66 ∨ q = 68 ∨ q = 69 ∨ q = 70 ∨ q = 71 ∨ q = 72 ∨ q = 74
theorem sR_oM {q c : Nat} (h : sR q c) : oM q c := by
  unfold sR sLaws at h
  unfold oM
  omega
theorem bI_0 {b : Bool} : bI b = 0 ↔ ¬ b = true := by
  cases b <;> simp [bI]
def fSum (el : Nat → Bool) (sh : Nat → Nat) (b : Nat) : Int32 := if el b = true then nI (sh b) else 0
section SF
variable {Γ : GG} {l : Launch} {d : Nat} {σ : St}
theorem S_lineUp {τ : St} {h nS nK nB : Nat} (hI : Inv0 h nS nK nB τ) (hc : agr sC τ σ) (s k u : Int32) : Meth Γ l (d + 5) mX11_lineUp [.ref 0, .int s, .int k, .int u] σ (KI fun x σ' => x = sumTo (fSum (elB τ s k u) (shN τ)) nB ∧ (∃ n ln, Line (elB τ s k u) (mdN τ) nB n ln ∧ lnAt σ' n ln) ∧ agr sL σ σ') := by
  have zB := hI.2.2.2.2.2.1.1
  have b1 : rd σ 17 1 = nI nB := (hc 17 1 ⟨by omega, alBatch (by unfold sBatch; omega)⟩).trans hI.2.2.2.2.2.1.2.1
  have scb : ∀ b, b < nB → ∀ c, rd σ (b + 142) c = rd τ (b + 142) c := fun b hb c => hc _ c ⟨by omega, alBatch (by unfold sBatch; omega)⟩
  have loop : ∀ m i σi n ln, i + m = nB → Line (elB τ s k u) (mdN τ) i n ln → lnAt σi n ln → agr sL σ σi → J Γ l (d + 5) mX11_lineUp (KI fun x σ' => x = sumTo (fSum (elB τ s k u) (shN τ)) nB ∧ (∃ n ln, Line (elB τ s k u) (mdN τ) nB n ln ∧ lnAt σ' n ln) ∧ agr sL σ σ') 21 [(0, .ref 0), (1, .int s), (2, .int k), (4, .int (lawM τ u)), (5, .int (sumTo (fSum (elB τ s k u) (shN τ)) i)), (6, .int (nI i))] [] σi := by
    intro m
    induction m with
    | zero =>
      intro i σi n ln hi hL hA ag
      have : i = nB := by omega
      subst this
      have e : rd σi 17 1 = nI i := (ag 17 1 (by unfold sL; omega)).trans b1
      exact w_X11_lineUp_21 _ _ _ _ _ ⟨fun _ => KI.mk ⟨rfl, ⟨n, ln, hL, hA⟩, ag⟩, fun q => absurd (yle e (Nat.le_refl _) (by omega)) q⟩
    | succ m ih =>
      intro i σi n ln hi hL hA ag
      have hib : i < nB := by omega
      have e : rd σi 17 1 = nI nB := (ag 17 1 (by unfold sL; omega)).trans b1
      obtain ⟨v0, v1, v5, v5', v3, v3', -, -⟩ := Bv hI hib
      have ci : (nI i).toNatClampNeg = i := cl (by omega)
      have A : ∀ c, rd σi (i + 142) c = rd τ (i + 142) c := fun c => (ag _ c (by unfold sL; omega)).trans (scb i hib c)
      have nx : ¬ elB τ s k u i = true → ∀ σ2, lnAt σ2 n ln → agr sL σ σ2 → ∀ x : Int32, x = nI i + 1 → J Γ l (d + 5) mX11_lineUp (KI fun x σ' => x = sumTo (fSum (elB τ s k u) (shN τ)) nB ∧ (∃ n ln, Line (elB τ s k u) (mdN τ) nB n ln ∧ lnAt σ' n ln) ∧ agr sL σ σ') 21 [(0, .ref 0), (1, .int s), (2, .int k), (4, .int (lawM τ u)), (5, .int (sumTo (fSum (elB τ s k u) (shN τ)) i)), (6, .int x)] [] σ2 := by
        intro he σ2 hA2 ag2 x hx
        rw [nI_s] at hx
        subst hx
        have := ih (i + 1) σ2 n ln (by omega) (hL.skip he) hA2 ag2
        have e2 : sumTo (fSum (elB τ s k u) (shN τ)) (i + 1) = sumTo (fSum (elB τ s k u) (shN τ)) i := by
          show _ + fSum _ _ i = _
          unfold fSum
          rw [if_neg he, Int32.add_zero]
        rw [e2] at this
        exact this
      refine w_X11_lineUp_21 _ _ _ _ _ ⟨fun q => absurd q (nle e hib (by omega)), fun _ => ⟨in_nI (by omega) (by omega), ?_⟩⟩
      rw [ci, A 0, A 1, A 5, v0, v1, v5, show (0 : Int32) = nI 0 from rfl, nI_lei (by omega) (by omega)]
      refine ⟨fun c0 => ⟨fun c1 => ⟨fun c5 => ?_, fun c5 => ?_⟩, fun c1 => ?_⟩, fun c0 => ?_⟩
      · refine w_X11_lineUp_72 _ _ _ _ _ i (by omega) (nx ?_ σi hA ag)
        unfold elB
        simp [show ¬ 0 < shN τ i by omega]
      · refine (S_lets hI (fun q c hq => (ag q c (sL_inv hq.2)).trans (hc q c hq)) hib u).mono ?_
        rintro v σ2 ⟨x, rfl, rfl, ha⟩
        have ag2 : agr sL σ σ2 := agr.tr ag (ha.sub fun q c hq => by unfold sL at hq; unfold sX; omega)
        have hA2 : lnAt σ2 n ln := ⟨(ha 17 3 (by unfold sX; omega)).trans hA.1, fun j hj => (ha 19 j (by unfold sX; omega)).trans (hA.2 j hj)⟩
        refine ⟨_, rfl, fun q => ?_, fun q => ?_⟩
        · rw [show nI 0 = (0 : Int32) from rfl, bI_0] at q
          refine nx ?_ σ2 hA2 ag2
          unfold elB
          simp [q]
        · rw [show nI 0 = (0 : Int32) from rfl, bI_0, Classical.not_not] at q
          have he : elB τ s k u i = true := by
            unfold elB
            simp [c0, c1, q, show 0 < shN τ i by omega]
          have B2 : ∀ b, b < nB → ∀ c, rd σ2 (b + 142) c = rd τ (b + 142) c := fun b hb c => (ag2 _ c (by unfold sL; omega)).trans (scb b hb c)
          have hn : n < 200 := by
            have := hL.1
            omega
          refine (S_addToLine (md := mdN τ) hn (by omega) hA2 (fun j hj => ?_) ((B2 i hib 3).trans v3) v3').mono ?_
          · have lj := (hL.2.1 j hj).1
            obtain ⟨-, -, -, -, w3, w3', -, -⟩ := Bv hI (show ln j < nB by omega)
            exact ⟨by omega, (B2 _ (by omega) 3).trans w3, w3'⟩
          · rintro v σ5 ⟨rfl, p, p1, p2, p3, p4, p5⟩
            refine ⟨rfl, fun x6 h6 x7 h7 => ?_⟩
            rw [p5 _ 5 (by omega) (by omega), B2 i hib 5, v5] at h6
            rw [nI_s] at h7
            subst h6
            subst h7
            have := ih (i + 1) σ5 (n + 1) _ (by omega) (hL.step he p1 p2 p3) p4 (fun q c hq => (p5 q c (by unfold sL at hq; omega) (by unfold sL at hq; omega)).trans (ag2 q c hq))
            have e2 : sumTo (fSum (elB τ s k u) (shN τ)) (i + 1) = sumTo (fSum (elB τ s k u) (shN τ)) i + nI (shN τ i) := by
              show _ + fSum _ _ i = _
              unfold fSum
              rw [if_pos he]
            rw [e2] at this
            exact this
      · refine w_X11_lineUp_72 _ _ _ _ _ i (by omega) (nx ?_ σi hA ag)
        unfold elB
        simp [c1]
      · refine w_X11_lineUp_72 _ _ _ _ _ i (by omega) (nx ?_ σi hA ag)
        unfold elB
        simp [c0]
  refine M_X11_lineUp _ _ _ (w_X11_lineUp_0 _ _ _ ?_)
  refine (S_lawToday hI hc u).mono ?_
  rintro v σ1 ⟨x, rfl, rfl, rfl⟩
  refine ⟨_, rfl, loop nB 0 _ 0 (fun _ => 0) (by omega) ⟨by omega, fun j hj => absurd hj (by omega), fun b hb => absurd hb (by omega), fun j j' _ hj => absurd hj (by omega)⟩ ⟨by rw [rd_wr, if_pos ⟨rfl, rfl⟩]; rfl, fun j hj => absurd hj (by omega)⟩ ?_⟩
  exact agr.wr agr.rf (by unfold sL; omega)
theorem S_onShelf {τ : St} {h nS nK nB : Nat} (hI : Inv0 h nS nK nB τ) (hc : agr sC τ σ) (s k : Int32) : Meth Γ l d mX0_onShelf [.ref 17, .int s, .int k] σ (KI (Kv (sumTo (fSum (fun b => decide (rd τ 71 b = s ∧ rd τ 72 b = k)) (shN τ)) nB) σ)) := by
  have zB := hI.2.2.2.2.2.1.1
  have b1 : rd σ 17 1 = nI nB := (hc 17 1 ⟨by omega, alBatch (by unfold sBatch; omega)⟩).trans hI.2.2.2.2.2.1.2.1
  have loop : ∀ m i, i + m = nB → J Γ l d mX0_onShelf (KI (Kv (sumTo (fSum (fun b => decide (rd τ 71 b = s ∧ rd τ 72 b = k)) (shN τ)) nB) σ)) 5 [(0, .ref 17), (1, .int s), (2, .int k), (3, .int (sumTo (fSum (fun b => decide (rd τ 71 b = s ∧ rd τ 72 b = k)) (shN τ)) i)), (4, .int (nI i))] [] σ := by
    intro m
    induction m with
    | zero =>
      intro i hi
      have : i = nB := by omega
      subst this
      exact w_X0_onShelf_5 _ _ _ _ ⟨fun _ => ⟨_, rfl, rfl, rfl⟩, fun q => absurd (yle b1 (Nat.le_refl _) (by omega)) q⟩
    | succ m ih =>
      intro i hi
      have hib : i < nB := by omega
      obtain ⟨v0, v1, v5, v5', v3, v3', -, -⟩ := Bv hI hib
      have A : ∀ c, rd σ (i + 142) c = rd τ (i + 142) c := fun c => hc _ c ⟨by omega, alBatch (by unfold sBatch; omega)⟩
      have this := ih (i + 1) (by omega)
      have e2 : sumTo (fSum (fun b => decide (rd τ 71 b = s ∧ rd τ 72 b = k)) (shN τ)) (i + 1) = sumTo (fSum (fun b => decide (rd τ 71 b = s ∧ rd τ 72 b = k)) (shN τ)) i + if (rd τ 71 i = s ∧ rd τ 72 i = k) then nI (shN τ i) else 0 := by
        show _ + fSum _ _ i = _
        unfold fSum
        simp only [decide_eq_true_eq]
      rw [e2] at this
      refine w_X0_onShelf_5 _ _ _ _ ⟨fun q => absurd q (nle b1 hib (by omega)), fun _ => ⟨in_nI (by omega) (by omega), ?_⟩⟩
      rw [cl (by omega), A 0, A 1, A 5, v0, v1, v5, nI_s]
      refine ⟨fun c0 => ⟨fun c1 x hx y hy => ?_, fun c1 x hx => ?_⟩, fun c0 x hx => ?_⟩
      · rw [if_pos ⟨c0, c1⟩] at this
        subst hx
        subst hy
        exact this
      · rw [if_neg (fun q => c1 q.2), Int32.add_zero] at this
        subst hx
        exact this
      · rw [if_neg (fun q => c0 q.1), Int32.add_zero] at this
        subst hx
        exact this
  exact M_X0_onShelf _ _ (w_X0_onShelf_0 _ _ (loop nB 0 (by omega)))
theorem S_mayG {τ : St} {h nS nK nB b : Nat} (hI : Inv0 h nS nK nB τ) (hr : agr sR τ σ) (hb : b < nB) (u : Int32) : Meth Γ l (d + 3) mX12_may [.ref 59, .int u, .int (nI b)] σ (KI fun x σ' => x = bI (mayM τ u b) ∧ agr oM σ σ') := by
  have zB := hI.2.2.2.2.2.1.1
  obtain ⟨n, hn, t1, t2, t3⟩ := hI.2.2.2.2.2.2.2.2.2.1
  have lw : ∀ q c, sLaws q c → rd σ q c = rd τ q c := fun q c hq => hr q c (Or.inl hq)
  have hf : Bfact σ h nB := by
    obtain ⟨f1, f2, f3⟩ := Bfact_of hI
    refine ⟨f1, (hr 59 1 (by unfold sR; omega)).trans f2, fun b hb => ?_⟩
    rw [hr 71 b (by unfold sR; omega), hr 72 b (by unfold sR; omega)]
    exact f3 b hb
  have hL : ∀ i, i < n → ∃ T, ILaw h i T σ := fun i hi => by
    obtain ⟨T, hT⟩ := t3 i hi
    exact ⟨T, hT.of (by omega) lw⟩
  have key := S_may (Γ := Γ) (l := l) (d := d) (u := u) zB hb hf hn ((lw 59 32 (by unfold sLaws; omega)).trans t2) hL
  have e : mayM σ u b = mayM τ u b := mayM_of fun q c hq => hr q c (by unfold sR sLaws; omega)
  rw [e] at key
  exact key
theorem S_shelfOf {τ : St} {h nS nK nB : Nat} (hI : Inv0 h nS nK nB τ) (hr : agr sR τ σ) (s k w : Int32) {sh : Nat → Nat} (ham : ∀ b, b < nB → (((rd σ 76 b - rd σ 77 b) - rd σ 78 b) - rd σ 79 b) - rd σ 80 b = nI (sh b)) : Meth Γ l (d + 4) mX12_shelfOf [.ref 59, .int s, .int k, .int w] σ (KI fun x σ' => x = sumTo (fSum (fun b => decide (rd τ 71 b = s ∧ rd τ 72 b = k ∧ (w = 0 ∨ mayM τ (w - 1) b = true))) sh) nB ∧ agr oM σ σ') := by
  have zB := hI.2.2.2.2.2.1.1
  have b2 : rd τ 59 16 = nI nB := hI.2.2.2.2.2.1.2.2.1
  generalize hel : (fun b => decide (rd τ 71 b = s ∧ rd τ 72 b = k ∧ (w = 0 ∨ mayM τ (w - 1) b = true))) = el
  have loop : ∀ m i σi, i + m = nB → agr oM σ σi → J Γ l (d + 4) mX12_shelfOf (KI fun x σ' => x = sumTo (fSum el sh) nB ∧ agr oM σ σ') 6 [(0, .ref 59), (1, .int s), (2, .int k), (3, .int w), (4, .int (sumTo (fSum el sh) i)), (5, .int (nI i))] [] σi := by
    intro m
    induction m with
    | zero =>
      intro i σi hi ag
      have : i = nB := by omega
      subst this
      have e : rd σi 59 16 = nI i := (ag 59 16 (by unfold oM; omega)).trans ((hr 59 16 (by unfold sR; omega)).trans b2)
      exact w_X12_shelfOf_6 _ _ _ _ _ ⟨fun _ => KI.mk ⟨rfl, ag⟩, fun q => absurd (yle e (Nat.le_refl _) (by omega)) q⟩
    | succ m ih =>
      intro i σi hi ag
      have hib : i < nB := by omega
      have agR : agr sR τ σi := agr.tr hr (ag.sub fun _ _ => sR_oM)
      have e : rd σi 59 16 = nI nB := (agR 59 16 (by unfold sR; omega)).trans b2
      have ci : (nI i).toNatClampNeg = i := cl (by omega)
      have am : ∀ σ2, agr oM σ σ2 → (((rd σ2 76 i - rd σ2 77 i) - rd σ2 78 i) - rd σ2 79 i) - rd σ2 80 i = nI (sh i) := fun σ2 a2 => by
        rw [a2 76 i (by unfold oM; omega), a2 77 i (by unfold oM; omega), a2 78 i (by unfold oM; omega), a2 79 i (by unfold oM; omega), a2 80 i (by unfold oM; omega)]
        exact ham i hib
      have eli : el i = decide (rd τ 71 i = s ∧ rd τ 72 i = k ∧ (w = 0 ∨ mayM τ (w - 1) i = true)) := by rw [← hel]
      have nx : ¬ el i = true → ∀ σ2, agr oM σ σ2 → ∀ x : Int32, x = nI i + 1 → J Γ l (d + 4) mX12_shelfOf (KI fun x σ' => x = sumTo (fSum el sh) nB ∧ agr oM σ σ') 6 [(0, .ref 59), (1, .int s), (2, .int k), (3, .int w), (4, .int (sumTo (fSum el sh) i)), (5, .int x)] [] σ2 := by
        intro he σ2 ag2 x hx
        rw [nI_s] at hx
        subst hx
        have := ih (i + 1) σ2 (by omega) ag2
        have e2 : sumTo (fSum el sh) (i + 1) = sumTo (fSum el sh) i := by
          show _ + fSum _ _ i = _
          unfold fSum
          rw [if_neg he, Int32.add_zero]
        rw [e2] at this
        exact this
      have ys : el i = true → ∀ σ2, agr oM σ σ2 → ∀ x : Int32, x = sumTo (fSum el sh) i + nI (sh i) → ∀ y : Int32, y = nI i + 1 → J Γ l (d + 4) mX12_shelfOf (KI fun x σ' => x = sumTo (fSum el sh) nB ∧ agr oM σ σ') 6 [(0, .ref 59), (1, .int s), (2, .int k), (3, .int w), (4, .int x), (5, .int y)] [] σ2 := by
        intro he σ2 ag2 x hx y hy
        rw [nI_s] at hy
        subst hx
        subst hy
        have := ih (i + 1) σ2 (by omega) ag2
        have e2 : sumTo (fSum el sh) (i + 1) = sumTo (fSum el sh) i + nI (sh i) := by
          show _ + fSum _ _ i = _
          unfold fSum
          rw [if_pos he]
        rw [e2] at this
        exact this
      refine w_X12_shelfOf_6 _ _ _ _ _ ⟨fun q => absurd q (nle e hib (by omega)), fun _ => ⟨in_nI (by omega) (by omega), ?_⟩⟩
      rw [ci, agR 71 i (by unfold sR; omega), agR 72 i (by unfold sR; omega), am σi ag]
      refine ⟨fun c0 => ⟨fun c1 => ⟨fun cw => ⟨in_nI (by omega) (by omega), ys ?_ σi ag⟩, fun cw => ?_⟩, fun c1 => nx ?_ σi ag⟩, fun c0 => nx ?_ σi ag⟩
      · rw [eli]
        simp [c0, c1, cw]
      · refine (S_mayG hI agR hib (w - 1)).mono ?_
        rintro v σ2 ⟨x, rfl, rfl, ha⟩
        have ag2 := agr.tr ag ha
        refine ⟨_, rfl, fun q => nx ?_ σ2 ag2, fun q => ⟨in_nI (by omega) (by omega), ?_⟩⟩
        · rw [bI_0] at q
          rw [eli]
          simp [cw, q]
        · rw [bI_0, Classical.not_not] at q
          rw [am σ2 ag2]
          refine ys ?_ σ2 ag2
          rw [eli]
          simp [c0, c1, q]
      · rw [eli]
        simp [c1]
      · rw [eli]
        simp [c0]
  exact M_X12_shelfOf _ _ _ (w_X12_shelfOf_0 _ _ _ (loop nB 0 σ (by omega) agr.rf))
end SF

/-! LOSS -/
def PL (Γ : GG) (l : Launch) (d : Nat) (M : MD) (As : List Value) : Option Value → St → Prop := KL fun x σ1 => Meth Γ l d M As σ1 (KL fun y σ2 => y = x ∧ Inv σ2)
theorem PL.mk {Γ : GG} {l : Launch} {d : Nat} {M : MD} {As : List Value} {x : Int64} {σ : St} (h : Meth Γ l d M As σ (KL fun y σ2 => y = x ∧ Inv σ2)) : PL Γ l d M As (some (.long x)) σ := ⟨x, rfl, h⟩
theorem KL.mk {K : Int64 → St → Prop} {x : Int64} {σ : St} (h : K x σ) : KL K (some (.long x)) σ := ⟨x, rfl, h⟩
theorem mx_sub {p c : Nat} (hp : p ≤ 9999) (hc : c ≤ 9999) : mxI 0 (nI p - nI c) = nI (p - c) := by
  unfold mxI
  rcases Nat.lt_or_ge c p with q | q
  · rw [nI_subn (by omega)]
    exact if_pos ((nI_lti (a := 0) (by omega) (by omega)).mpr (by omega))
  · have h1 : (nI p - nI c).toInt = (p : Int) - c := by
      rw [ti_sub (by rw [ti_nI (by omega), ti_nI (by omega)]; omega) (by rw [ti_nI (by omega), ti_nI (by omega)]; omega), ti_nI (by omega), ti_nI (by omega)]
    rw [if_neg, show p - c = 0 by omega]
    · rfl
    · rw [ti_lt, h1]
      have : (0 : Int32).toInt = 0 := rfl
      omega
theorem sI_comp {G F : Nat → Nat} {dl : Nat → Nat} : ∀ m, sI (fun D => G (F D)) dl m = sI G (fun i => F (dl i)) m
  | 0 => rfl
  | m + 1 => by
    show sI (fun D => G (F D)) dl m + G (F (dl m)) = sI G (fun i => F (dl i)) m + G (F (dl m))
    rw [sI_comp m]
section LM
variable {Γ : GG} {l : Launch} {d : Nat} {σ : St}
theorem S_lossOfM {h k p c t Q : Nat} {sv : Nat → Nat} {hv : Nat → Bool} (hh : h < 36000) (hk : k < 10) (hp : p ≤ 9999) (hc : c ≤ 9999) (ht : t ≤ 9999) (hQ : Q < 1000) (g : rd σ 59 1 = nI h) (e1 : rd σ 63 k = nI p) (e2 : rd σ 64 k = nI c) (e3 : rd σ 67 k = nI t) (hs : ∀ D, D < 1500 → rd σ 102 D = nI (sv D) ∧ rd σ 103 D = if hv D = true then 1 else 0) (hb : ∀ D, sv D < 1000000) : Meth Γ l (d + 1) mX12_lossOf [.ref 59, .int (nI k), .int (nI Q)] σ (KL fun x σ' => σ' = σ ∧ x = lN (sB hv (fun D => lo (p - c) (c + t) Q (sv D)) (h / 24 + 1))) := by
  have td : nI h / 24 = nI (h / 24) := nI_divn (b := 24) (by omega) (by omega)
  have loop : ∀ f i, i + f = h / 24 + 1 → J Γ l (d + 1) mX12_lossOf (KL fun x σ' => σ' = σ ∧ x = lN (sB hv (fun D => lo (p - c) (c + t) Q (sv D)) (h / 24 + 1))) 41 [(0, .ref 59), (1, .int (nI k)), (2, .int (nI Q)), (3, .long (lN (p - c))), (5, .long (lN (sB hv (fun D => lo (p - c) (c + t) Q (sv D)) i))), (7, .int (nI i))] [] σ := by
    intro f
    induction f with
    | zero =>
      intro i hi
      have : i = h / 24 + 1 := by omega
      subst this
      refine w_X12_lossOf_41 _ _ _ _ _ ⟨fun _ => ⟨_, rfl, rfl, rfl⟩, fun q => absurd ?_ q⟩
      rw [g, td, nI_lti (by omega) (by omega)]
      omega
    | succ f ih =>
      intro i hi
      obtain ⟨h1, h2⟩ := hs i (by omega)
      have hb1 := hb i
      have st : sB hv (fun D => lo (p - c) (c + t) Q (sv D)) (i + 1) = sB hv (fun D => lo (p - c) (c + t) Q (sv D)) i + if hv i = true then lo (p - c) (c + t) Q (sv i) else 0 := rfl
      refine w_X12_lossOf_41 _ _ _ _ _ ⟨fun q => ?_, fun _ => ⟨in_nI (by omega) (by omega), ?_⟩⟩
      · rw [g, td, nI_lti (by omega) (by omega)] at q
        omega
      rw [cl (by omega), h1, h2, cl (n := k) (by omega), e2, e3, nI_addn, nI_l (n := c + t) (by omega)]
      have nx := ih (i + 1) (by omega)
      rw [st] at nx
      refine ⟨fun q x hx => ?_, fun q => ⟨fun q2 => ⟨in_nI (by omega) (by omega), fun x hx y hy => ?_⟩, fun q2 x hx y hy => ?_⟩⟩
      · rw [nI_s] at hx
        subst hx
        have hf : ¬ hv i = true := fun r => by
          rw [if_pos r] at q
          exact absurd q (by decide)
        rw [if_neg hf, Nat.add_zero] at nx
        exact nx
      · have hf : hv i = true := by
          rcases hz : hv i with _ | _
          · rw [hz] at q
            exact absurd rfl q
          · rfl
        rw [nI_lei (by omega) (by omega)] at q2
        rw [if_pos hf, ← lN_add] at nx
        unfold lo at nx
        rw [if_neg (c := Q < sv i) (by omega), Nat.mul_comm, ← lN_mul] at nx
        rw [nI_subn q2, nI_l (by omega)] at hx
        rw [nI_s] at hy
        subst hx hy
        exact nx
      · have hf : hv i = true := by
          rcases hz : hv i with _ | _
          · rw [hz] at q
            exact absurd rfl q
          · rfl
        rw [nI_lei (by omega) (by omega)] at q2
        rw [if_pos hf, ← lN_add] at nx
        unfold lo at nx
        rw [if_pos (c := Q < sv i) (by omega), Nat.mul_comm, ← lN_mul] at nx
        rw [nI_subn (by omega), nI_l (by omega)] at hx
        rw [nI_s] at hy
        subst hx hy
        exact nx
  refine M_X12_lossOf _ _ (w_X12_lossOf_0 _ _ ⟨in_nI (by omega) (by omega), ?_⟩)
  rw [cl (n := k) (by omega), e1, e2]
  refine ⟨fun q x hx => ?_, fun q => ?_⟩
  · have cp : c ≤ p := by
      rw [ti_le, ti_sub (by rw [ti_nI (by omega), ti_nI (by omega)]; omega) (by rw [ti_nI (by omega), ti_nI (by omega)]; omega), ti_nI (by omega), ti_nI (by omega)] at q
      have : (0 : Int32).toInt = 0 := rfl
      omega
    rw [nI_subn cp, nI_l (by omega)] at hx
    subst hx
    exact loop _ 0 (Nat.zero_add _)
  · have cp : p < c := by
      rw [ti_le, ti_sub (by rw [ti_nI (by omega), ti_nI (by omega)]; omega) (by rw [ti_nI (by omega), ti_nI (by omega)]; omega), ti_nI (by omega), ti_nI (by omega)] at q
      have : (0 : Int32).toInt = 0 := rfl
      omega
    have := loop _ 0 (Nat.zero_add _)
    rw [show p - c = 0 by omega] at this ⊢
    exact this
theorem S_findSums2 {s k : Int32} {wt K h n : Nat} {σ2 : St} (hw : wt < 70) (hK : K < 1500) (hh : h < 36000) (hn : n ≤ 600) (e : rd σ 59 45 = nI n) (hR : ∀ r, r < n → IRow h r σ) (A : ∀ q c, q ≠ 42 → q ≠ 43 → ¬ (q = 34 ∧ c = 9) → rd σ2 q c = rd σ q c) : Meth Γ l d mX12_findSums [.ref 59, .int s, .int k, .int (nI wt), .int (nI K)] σ2 (KV fun σ' => (∀ D, D < 1500 → rd σ' 102 D = nI (dS (selR σ s k (nI (wt % 10)) (wt / 10) K) (dayR σ) (askR σ) D n) ∧ rd σ' 103 D = if dH (selR σ s k (nI (wt % 10)) (wt / 10) K) (dayR σ) D n = true then 1 else 0) ∧ ∀ q c, q ≠ 102 → q ≠ 103 → q ≠ 42 → q ≠ 43 → ¬ (q = 34 ∧ c = 9) → rd σ' q c = rd σ q c) := by
  have d1 : dayR σ2 = dayR σ := funext fun r => by
    unfold dayR
    rw [A 94 r (by omega) (by omega) (by omega)]
  have d2 : askR σ2 = askR σ := funext fun r => by
    unfold askR
    rw [A 97 r (by omega) (by omega) (by omega)]
  have d3 : selR σ2 s k (nI (wt % 10)) (wt / 10) K = selR σ s k (nI (wt % 10)) (wt / 10) K := funext fun r => by
    unfold selR
    rw [A 92 r (by omega) (by omega) (by omega), A 93 r (by omega) (by omega) (by omega), A 96 r (by omega) (by omega) (by omega), d1]
  have h1 := S_findSums (Γ := Γ) (l := l) (d := d) (σ := σ2) (s := s) (k := k) hw hK hh hn ((A 59 45 (by omega) (by omega) (by omega)).trans e) (fun r hr => (hR r hr).of fun q c hq => A q c (by unfold sRows at hq; omega) (by unfold sRows at hq; omega) (by unfold sRows at hq; omega))
  rw [d1, d2, d3] at h1
  refine h1.mono ?_
  rintro v σ' ⟨rfl, h2, h3⟩
  exact ⟨rfl, h2, fun q c a1 a2 a3 a4 a5 => (h3 q c a1 a2).trans (A q c a3 a4 a5)⟩
theorem sums_inv {h nS nK nB : Nat} {σ' : St} (h0 : Inv0 h nS nK nB σ) (A : ∀ q c, q ≠ 102 → q ≠ 103 → q ≠ 42 → q ≠ 43 → ¬ (q = 34 ∧ c = 9) → rd σ' q c = rd σ q c) : Inv σ' := by
  refine ⟨h, nS, nK, nB, h0.of fun q c hq => ?_⟩
  have hz : q ≠ 102 ∧ q ≠ 103 ∧ q ≠ 42 ∧ q ≠ 43 ∧ ¬ (q = 34 ∧ c = 9) := by
    simp only [sAll, sHour, sShops, sKinds, sDays, sStep, sBatch, sSpoil, sKit, sTape, sLaws, sRows, sCuts, sBox, sCost] at hq
    omega
  exact A q c hz.1 hz.2.1 hz.2.2.1 hz.2.2.2.1 hz.2.2.2.2
theorem P_loss (a b c e q : Int32) (hI : Inv σ) : Meth Γ l (d + 4) mX11_loss [.ref 0, .int a, .int b, .int c, .int e, .int q] σ (PL Γ l (d + 4) mX12_loss [.ref 59, .int a, .int b, .int c, .int e, .int q]) := by
  have hI2 := hI
  obtain ⟨h, nS, nK, nB, h0⟩ := hI2
  obtain ⟨i1, i2, i3, i4, i5, i6, i7, i8, i9, i10, i11, -⟩ := id h0
  obtain ⟨zh, g1, g2⟩ := id i1
  obtain ⟨zS, s1, s2, s3, s4, s5, s6⟩ := id i2
  obtain ⟨zK, k1, k2, k3⟩ := id i3
  obtain ⟨nR, r0, r1, r2, r3, r4⟩ := id i11
  have bad : ¬ (ordC nS nK a b c e ∧ (0 : Int32) ≤ q ∧ q ≤ 999) → Meth Γ l (d + 4) mX12_loss [.ref 59, .int a, .int b, .int c, .int e, .int q] σ (KL fun y σ2 => y = -1 ∧ Inv σ2) := by
    intro hn
    refine M_X12_loss _ _ _ _ _ (w_X12_loss_0 _ _ _ _ _ ?_)
    refine (S_isOrder zS zK a b c e s2 k2).mono ?_
    rintro v σ' ⟨x, rfl, rfl, hx⟩
    refine ⟨_, rfl, fun _ => KL.mk ⟨rfl, hI⟩, fun q0 => ⟨fun q1 => ?_, fun _ => KL.mk ⟨rfl, hI⟩⟩⟩
    rcases hx with ⟨-, hx⟩ | ⟨rfl, -⟩
    · exact absurd ⟨hx, q1⟩ hn
    · exact absurd rfl q0
  refine M_X11_loss _ _ _ _ _ (w_X11_loss_0 _ _ _ _ _ ?_)
  refine (S_isMorning a b c e s1 k1).mono ?_
  rintro v σ' ⟨x, rfl, rfl, hx⟩
  refine ⟨_, rfl, fun q0 => PL.mk (bad fun r => ?_), fun q0 => ⟨fun hq => ?_, fun hq => PL.mk (bad fun r => hq r.2)⟩⟩
  · rcases hx with ⟨rfl, -⟩ | ⟨-, hx⟩
    · exact absurd q0 (by decide)
    · exact hx r.1
  have hC : ordC nS nK a b c e := by
    rcases hx with ⟨-, hx⟩ | ⟨rfl, -⟩
    · exact hx
    · exact absurd rfl q0
  obtain ⟨⟨ha, hb⟩, ⟨w, hw, hw3, rfl⟩, K, hK, rfl⟩ := id hC
  obtain ⟨i, hi, rfl⟩ := rng nS (by omega) ha
  obtain ⟨k, hk, rfl⟩ := rng nK (by omega) hb
  obtain ⟨Q, hQ, rfl⟩ := rngL 999 (by omega) hq
  obtain ⟨p, cc, gg, zz, tt, hp, hcc, -, -, htt, ⟨p1, p2, -, -, p3⟩, ⟨m1, m2, -, -, m3⟩⟩ := k3 k (by omega)
  have w1 : nI w / 10 = nI (w / 10) := nI_divn (b := 10) (by omega) (by omega)
  have w2 : nI w - nI w / 10 * 10 = nI (w % 10) := nI_modn (b := 10) (by omega) (by omega)
  rw [w2, w1]
  refine (S_sumDays hw hK zh r0 r1 r3 r4).mono ?_
  rintro v σ3 ⟨rfl, m, dl, hD, e9, e42, ag⟩
  refine ⟨rfl, in_nI (by omega) (by omega), in_nI (by omega) (by omega), ?_⟩
  rw [cl (n := k) (by omega), ag 12 k (by omega) (by omega), ag 13 k (by omega) (by omega), ag 16 k (by omega) (by omega), p1, p2, p3, mx_sub hp hcc, nI_addn]
  have ask : ∀ r, r < nR → askR σ' r ≤ 999 := fun r hr => by
    obtain ⟨s', k', t, st, w, a, g, ⟨-, -, -, -, -, -, -, b8, -⟩, -, ⟨-, -, -, -, -, y5, -⟩⟩ := r3 r hr
    unfold askR
    rw [y5, cl (by omega)]
    exact b8
  have dsb : ∀ D, dS (selR σ' (nI i) (nI k) (nI (w % 10)) (w / 10) K) (dayR σ') (askR σ') D nR < 1000000 := fun D => by
    have := dS_le (sel := selR σ' (nI i) (nI k) (nI (w % 10)) (w / 10) K) (day := dayR σ') (D := D) nR ask
    omega
  have hm := hD.1
  refine (S_lossOfX (v := fun i' => dS (selR σ' (nI i) (nI k) (nI (w % 10)) (w / 10) K) (dayR σ') (askR σ') (dl i') nR) (by omega) (by omega) (by omega) (by omega) e9 (fun i' hi' => ⟨e42 i' hi', dsb _⟩)).mono ?_
  rintro v σ4 ⟨x, rfl, rfl, rfl⟩
  refine ⟨_, rfl, PL.mk (M_X12_loss _ _ _ _ _ (w_X12_loss_0 _ _ _ _ _ ?_))⟩
  refine (S_isOrder zS zK (nI i) (nI k) (nI w) (nI K) ((ag 59 2 (by omega) (by omega)).trans s2) ((ag 59 6 (by omega) (by omega)).trans k2)).mono ?_
  rintro v σ5 ⟨x, rfl, rfl, hx5⟩
  refine ⟨_, rfl, fun q0 => ?_, fun _ => ⟨fun _ => ?_, fun q1 => absurd hq q1⟩⟩
  · rcases hx5 with ⟨rfl, -⟩ | ⟨-, hx5⟩
    · exact absurd q0 (by decide)
    · exact absurd hC hx5
  refine (S_findSums2 hw hK zh r0 r2 r3 fun q c a1 a2 a3 => ag q c a1 a3).mono ?_
  rintro v σ6 ⟨rfl, f1, f2⟩
  refine ⟨rfl, ?_⟩
  refine (S_lossOfM (sv := fun D => dS (selR σ' (nI i) (nI k) (nI (w % 10)) (w / 10) K) (dayR σ') (askR σ') D nR) (hv := fun D => dH (selR σ' (nI i) (nI k) (nI (w % 10)) (w / 10) K) (dayR σ') D nR) zh (by omega) hp hcc htt (by omega) ((f2 59 1 (by omega) (by omega) (by omega) (by omega) (by omega)).trans g2) ((f2 63 k (by omega) (by omega) (by omega) (by omega) (by omega)).trans m1) ((f2 64 k (by omega) (by omega) (by omega) (by omega) (by omega)).trans m2) ((f2 67 k (by omega) (by omega) (by omega) (by omega) (by omega)).trans m3) f1 dsb).mono ?_
  rintro v σ7 ⟨x, rfl, rfl, rfl⟩
  refine ⟨_, rfl, KL.mk ⟨?_, sums_inv h0 f2⟩⟩
  congr 1
  refine Eq.trans (sB_sI (h / 24 + 1) m (fun i' hi' => ?_) hD.2.1 (fun D _ => hD.2.2 D)) (sI_comp (G := lo (p - cc) (cc + tt) Q) (F := fun D => dS (selR σ' (nI i) (nI k) (nI (w % 10)) (w / 10) K) (dayR σ') (askR σ') D nR) (dl := dl) m)
  obtain ⟨r, hr, -, hd⟩ := (dH_iff nR).mp ((hD.2.2 (dl i')).mpr ⟨i', hi', rfl⟩)
  obtain ⟨s', k', t, st, w, a, g, ⟨-, -, b3, -⟩, -, ⟨-, -, y2, -⟩⟩ := r3 r hr
  unfold dayR at hd
  rw [y2, cl (by omega)] at hd
  omega
end LM

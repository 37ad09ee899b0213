/-! ORDER: the first q from which one more helps no longer is the least of the best -/
def cQ (v : Nat → Nat) (q : Nat) : Nat → Nat
  | 0 => 0
  | m + 1 => cQ v q m + if v m = q then 1 else 0
def cB (v : Nat → Nat) (q : Nat) : Nat → Nat
  | 0 => 0
  | m + 1 => cB v q m + if v m < q then 1 else 0
theorem cB_0 {v : Nat → Nat} : ∀ m, cB v 0 m = 0
  | 0 => rfl
  | m + 1 => by
    show cB v 0 m + (if v m < 0 then 1 else 0) = 0
    rw [cB_0 m, if_neg (by omega)]
theorem cB_s {v : Nat → Nat} {q : Nat} : ∀ m, cB v (q + 1) m = cB v q m + cQ v q m
  | 0 => rfl
  | m + 1 => by
    show cB v (q + 1) m + (if v m < q + 1 then 1 else 0) = cB v q m + (if v m < q then 1 else 0) + (cQ v q m + if v m = q then 1 else 0)
    rw [cB_s m]
    repeat' split
    all_goals omega
theorem cB_le {v : Nat → Nat} {q : Nat} : ∀ m, cB v q m ≤ m
  | 0 => Nat.le_refl _
  | m + 1 => by
    show cB v q m + (if v m < q then 1 else 0) ≤ m + 1
    have := cB_le (v := v) (q := q) m
    split <;> omega
theorem lo_up {P W q v : Nat} (h : v < q + 1) : lo P W (q + 1) v = lo P W q v + W := by
  unfold lo
  rw [if_neg (by omega), if_neg (by omega), show q + 1 - v = q - v + 1 by omega, Nat.succ_mul]
theorem lo_dn {P W q v : Nat} (h : ¬ v < q + 1) : lo P W (q + 1) v + P = lo P W q v := by
  unfold lo
  rw [if_pos (c := q < v) (by omega)]
  rcases Nat.lt_or_ge (q + 1) v with c | c
  · rw [if_pos c, show v - q = v - (q + 1) + 1 by omega, Nat.succ_mul]
  · rw [if_neg (by omega), show q + 1 - v = 0 by omega, show v - q = 1 by omega]
    omega
theorem sI_step {P W q : Nat} {v : Nat → Nat} : ∀ m, sI (lo P W (q + 1)) v m + (m - cB v (q + 1) m) * P = sI (lo P W q) v m + cB v (q + 1) m * W
  | 0 => by simp [sI, cB]
  | m + 1 => by
    have ih := sI_step (P := P) (W := W) (q := q) (v := v) m
    have hle := cB_le (v := v) (q := q + 1) m
    show sI (lo P W (q + 1)) v m + lo P W (q + 1) (v m) + (m + 1 - (cB v (q + 1) m + if v m < q + 1 then 1 else 0)) * P = sI (lo P W q) v m + lo P W q (v m) + (cB v (q + 1) m + if v m < q + 1 then 1 else 0) * W
    by_cases c : v m < q + 1
    · rw [if_pos c, lo_up c, Nat.succ_mul, show m + 1 - (cB v (q + 1) m + 1) = m - cB v (q + 1) m by omega]
      omega
    · have := lo_dn (P := P) (W := W) c
      rw [if_neg c, Nat.add_zero (cB v (q + 1) m), show m + 1 - cB v (q + 1) m = m - cB v (q + 1) m + 1 by omega, Nat.succ_mul]
      omega
def sdn (P W : Nat) (v : Nat → Nat) (m q : Nat) : Prop := cB v (q + 1) m * W < (m - cB v (q + 1) m) * P
theorem sdn_lt {P W m q : Nat} {v : Nat → Nat} (h : sdn P W v m q) : sI (lo P W (q + 1)) v m < sI (lo P W q) v m := by
  have := sI_step (P := P) (W := W) (q := q) (v := v) m
  unfold sdn at h
  omega
theorem sdn_ge {P W m q : Nat} {v : Nat → Nat} (h : ¬ sdn P W v m q) : sI (lo P W q) v m ≤ sI (lo P W (q + 1)) v m := by
  have := sI_step (P := P) (W := W) (q := q) (v := v) m
  unfold sdn at h
  omega
theorem sdn_up {P W m q : Nat} {v : Nat → Nat} (h : ¬ sdn P W v m q) : ¬ sdn P W v m (q + 1) := by
  unfold sdn at *
  have h1 : cB v (q + 1) m ≤ cB v (q + 1 + 1) m := by
    rw [cB_s (q := q + 1)]
    omega
  have h2 := Nat.mul_le_mul_right W h1
  have h3 : (m - cB v (q + 1 + 1) m) * P ≤ (m - cB v (q + 1) m) * P := Nat.mul_le_mul_right P (by omega)
  omega
theorem sdn_after {P W m q0 : Nat} {v : Nat → Nat} (h : ¬ sdn P W v m q0) : ∀ f, ¬ sdn P W v m (q0 + f) ∧ sI (lo P W q0) v m ≤ sI (lo P W (q0 + f)) v m
  | 0 => ⟨h, Nat.le_refl _⟩
  | f + 1 => by
    obtain ⟨h1, h2⟩ := sdn_after h f
    have h3 := sdn_ge h1
    exact ⟨sdn_up h1, by rw [← Nat.add_assoc]; omega⟩
theorem sI_le {g v : Nat → Nat} {B : Nat} : ∀ m, (∀ i, i < m → g (v i) ≤ B) → sI g v m ≤ m * B
  | 0, _ => Nat.zero_le _
  | m + 1, h => by
    have h1 := sI_le (g := g) (v := v) (B := B) m fun i hi => h i (by omega)
    have h2 := h m (by omega)
    show sI g v m + g (v m) ≤ _
    rw [Nat.succ_mul]
    omega
section LL
variable {Γ : GG} {l : Launch} {d : Nat} {σ : St}
theorem S_fill43 (x : Int32) : Meth Γ l d mJ7_fill_53178 [.ref 43, .int x] σ (KV fun σ' => (∀ i, i < 1000 → rd σ' 43 i = x) ∧ ∀ q c, q ≠ 43 → rd σ' q c = rd σ q c) := by
  have loop : ∀ f i σi, i + f = 1000 → (∀ j, j < i → rd σi 43 j = x) → (∀ q c, q ≠ 43 → rd σi q c = rd σ q c) → J Γ l d mJ7_fill_53178 (KV fun σ' => (∀ i, i < 1000 → rd σ' 43 i = x) ∧ ∀ q c, q ≠ 43 → rd σ' q c = rd σ q c) 5 [(0, .ref 43), (1, .int x), (2, .int (nI i)), (3, .int 1000)] [] σi := by
    intro f
    induction f with
    | zero =>
      intro i σi hi h1 h2
      have : i = 1000 := by omega
      subst this
      exact w_J7_fill_53178_43_5 _ _ _ ⟨fun _ => ⟨rfl, h1, h2⟩, fun q => absurd (by decide) q⟩
    | succ f ih =>
      intro i σi hi h1 h2
      refine w_J7_fill_53178_43_5 _ _ _ ⟨fun q => absurd ((nI_lei (a := 1000) (by omega) (by omega)).mp q) (by omega), fun _ => ⟨in_nI (by omega) (by omega), fun y hy => ?_⟩⟩
      rw [nI_s] at hy
      subst hy
      rw [cl (by omega)]
      refine ih (i + 1) _ (by omega) (fun j hj => ?_) (fun q c a1 => by rw [rdn (by omega)]; exact h2 q c a1)
      by_cases c : j = i
      · subst c
        exact rdy
      · rw [rdn (by omega)]
        exact h1 j (by omega)
  exact M_J7_fill_53178_43 _ (w_J7_fill_53178_43_0 _ (loop 1000 0 σ (by omega) (fun j hj => absurd hj (by omega)) (fun _ _ _ => rfl)))
theorem S_leastLoss {m P W : Nat} {v : Nat → Nat} (hm : m ≤ 600) (hP : P < 1000000) (hW : W < 1000000) (e : rd σ 34 9 = nI m) (hv : ∀ i, i < m → rd σ 42 i = nI (v i) ∧ v i < 1000000) : Meth Γ l (d + 1) mX8_leastLoss [.ref 34, .int (nI P), .int (nI W)] σ (KI fun x σ' => (∀ q c, q ≠ 43 → rd σ' q c = rd σ q c) ∧ ∃ q0, x = nI q0 ∧ q0 ≤ 999 ∧ (∀ q, q < q0 → sdn P W v m q) ∧ (q0 < 999 → ¬ sdn P W v m q0)) := by
  generalize hK : (fun (x : Int32) (σ' : St) => (∀ q c, q ≠ 43 → rd σ' q c = rd σ q c) ∧ ∃ q0, x = nI q0 ∧ q0 ≤ 999 ∧ (∀ q, q < q0 → sdn P W v m q) ∧ (q0 < 999 → ¬ sdn P W v m q0)) = K
  have loop2 : ∀ f q σi, q + f = 999 → (∀ j, j < 1000 → rd σi 43 j = nI (cQ v j m)) → (∀ q c, q ≠ 43 → rd σi q c = rd σ q c) → (∀ j, j < q → sdn P W v m j) → J Γ l (d + 1) mX8_leastLoss (KI K) 56 [(0, .ref 34), (1, .int (nI P)), (2, .int (nI W)), (3, .long (lN (cB v q m))), (5, .int (nI q))] [] σi := by
    intro f
    induction f with
    | zero =>
      intro q σi hq h1 h2 h3
      have : q = 999 := by omega
      subst this
      refine w_X8_leastLoss_56 _ _ _ _ ⟨fun _ => KI.mk ?_, fun r => absurd (by decide) r⟩
      rw [← hK]
      exact ⟨h2, 999, rfl, by omega, h3, fun r => absurd r (by omega)⟩
    | succ f ih =>
      intro q σi hq h1 h2 h3
      have hl := cB_le (v := v) (q := q + 1) m
      have hl2 : cQ v q m ≤ m := by
        rw [cB_s] at hl
        omega
      refine w_X8_leastLoss_56 _ _ _ _ ⟨fun r => absurd ((nI_lei (a := 999) (by omega) (by omega)).mp r) (by omega), fun _ => ⟨in_nI (by omega) (by omega), fun x hx => ?_⟩⟩
      rw [cl (by omega), h1 q (by omega), nI_l (by omega), lN_add, ← cB_s] at hx
      subst hx
      have b1 : cB v (q + 1) m * W < 2 ^ 31 := by
        have := Nat.mul_le_mul hl (Nat.le_of_lt hW)
        omega
      have b2 : (m - cB v (q + 1) m) * P < 2 ^ 31 := by
        have := Nat.mul_le_mul (Nat.sub_le m (cB v (q + 1) m)) (Nat.le_of_lt hP)
        omega
      rw [h2 34 9 (by omega), e, nI_l (n := W) (by omega), nI_l (n := P) (by omega), nI_l (n := m) (by omega), lN_sub hl, lN_mul, lN_mul, lg_cmp_lt, lN_lt b1 b2]
      refine ⟨fun r y hy => ?_, fun r => KI.mk ?_⟩
      · rw [nI_s] at hy
        subst hy
        refine ih (q + 1) σi (by omega) h1 h2 (fun j hj => ?_)
        rcases Nat.lt_or_ge j q with c | c
        · exact h3 j c
        · rw [show j = q by omega]
          exact r
      · rw [← hK]
        exact ⟨h2, q, rfl, by omega, h3, fun _ => r⟩
  have loop1 : ∀ f i σi, i + f = m → (∀ j, j < 1000 → rd σi 43 j = nI (cQ v j i)) → (∀ q c, q ≠ 43 → rd σi q c = rd σ q c) → J Γ l (d + 1) mX8_leastLoss (KI K) 10 [(0, .ref 34), (1, .int (nI P)), (2, .int (nI W)), (3, .int (nI i))] [] σi := by
    intro f
    induction f with
    | zero =>
      intro i σi hi h1 h2
      have : i = m := by omega
      subst this
      refine w_X8_leastLoss_10 _ _ _ ⟨fun _ => ?_, fun q => absurd (yle ((h2 34 9 (by omega)).trans e) (Nat.le_refl _) (by omega)) q⟩
      have := loop2 999 0 σi (by omega) h1 h2 (fun j hj => absurd hj (by omega))
      rw [cB_0] at this
      exact this
    | succ f ih =>
      intro i σi hi h1 h2
      obtain ⟨v1, v2⟩ := hv i (by omega)
      refine w_X8_leastLoss_10 _ _ _ ⟨fun q => absurd q (nle ((h2 34 9 (by omega)).trans e) (by omega) (by omega)), fun _ => ⟨in_nI (by omega) (by omega), ?_⟩⟩
      rw [cl (n := i) (by omega), h2 42 i (by omega), v1, cl (by omega)]
      refine ⟨fun q y hy => ?_, fun q => ?_⟩
      · rw [nI_s] at hy
        subst hy
        rw [show (999 : Int32) = nI 999 from rfl, nI_lti (by omega) (by omega)] at q
        refine ih (i + 1) σi (by omega) (fun j hj => ?_) h2
        show _ = nI (cQ v j i + if v i = j then 1 else 0)
        rw [if_neg (by omega), Nat.add_zero]
        exact h1 j hj
      · rw [show (999 : Int32) = nI 999 from rfl, nI_lti (by omega) (by omega)] at q
        refine ⟨in_nI (by omega) (by omega), fun y hy => ?_⟩
        rw [nI_s] at hy
        subst hy
        rw [h1 _ (by omega), nI_s]
        refine ih (i + 1) _ (by omega) (fun j hj => ?_) (fun q c a1 => by rw [rdn (by omega)]; exact h2 q c a1)
        show _ = nI (cQ v j i + if v i = j then 1 else 0)
        by_cases c : v i = j
        · subst c
          rw [rdy, if_pos rfl]
        · rw [rdn (by omega), if_neg c, Nat.add_zero]
          exact h1 j hj
  refine M_X8_leastLoss _ _ (w_X8_leastLoss_0 _ _ ?_)
  refine (S_fill43 (d := d) 0).mono ?_
  rintro v' σ1 ⟨rfl, f1, f2⟩
  exact ⟨rfl, loop1 m 0 σ1 (by omega) f1 f2⟩
theorem P_order (a b c e : Int32) (hI : Inv σ) : Meth Γ l (d + 4) mX11_order [.ref 0, .int a, .int b, .int c, .int e] σ (PI Γ l (d + 4) mX12_order [.ref 59, .int a, .int b, .int c, .int e]) := by
  have hI2 := hI
  obtain ⟨h, nS, nK, nB, h0⟩ := hI2
  obtain ⟨i1, i2, i3, i4, i5, i6, i7, i8, i9, i10, i11, -⟩ := id h0
  obtain ⟨zh, g1, g2⟩ := id i1
  obtain ⟨zS, s1, s2, s3, s4, s5, s6⟩ := id i2
  obtain ⟨zK, k1, k2, k3⟩ := id i3
  obtain ⟨nR, r0, r1, r2, r3, r4⟩ := id i11
  refine M_X11_order _ _ _ _ (w_X11_order_0 _ _ _ _ ?_)
  refine (S_isMorning (d := d) a b c e s1 k1).mono ?_
  rintro v σ' ⟨x, rfl, rfl, hx⟩
  refine ⟨_, rfl, fun q0 => PI.mk ?_, fun q0 => ?_⟩
  · refine M_X12_order _ _ _ _ (w_X12_order_0 _ _ _ _ ?_)
    refine (S_isOrder (d := d) zS zK a b c e s2 k2).mono ?_
    rintro v σ5 ⟨x', rfl, rfl, hx'⟩
    refine ⟨_, rfl, fun _ => KI.mk ⟨rfl, hI⟩, fun q1 => ?_⟩
    exfalso
    rcases hx with ⟨rfl, -⟩ | ⟨-, hx⟩
    · exact absurd q0 (by decide)
    · rcases hx' with ⟨-, hx'⟩ | ⟨rfl, -⟩
      · exact hx hx'
      · exact absurd rfl q1
  have hC : ordC nS nK a b c e := by
    rcases hx with ⟨-, hx⟩ | ⟨rfl, -⟩
    · exact hx
    · exact absurd rfl q0
  obtain ⟨⟨ha, hb⟩, ⟨w, hw, hw3, rfl⟩, K, hK, rfl⟩ := id hC
  obtain ⟨i, hi, rfl⟩ := rng nS (by omega) ha
  obtain ⟨k, hk, rfl⟩ := rng nK (by omega) hb
  obtain ⟨p, cc, gg, zz, tt, hp, hcc, -, -, htt, ⟨p1, p2, -, -, p3⟩, ⟨m1, m2, -, -, m3⟩⟩ := k3 k (by omega)
  have w1 : nI w / 10 = nI (w / 10) := nI_divn (b := 10) (by omega) (by omega)
  have w2 : nI w - nI w / 10 * 10 = nI (w % 10) := nI_modn (b := 10) (by omega) (by omega)
  rw [w2, w1]
  refine (S_sumDays hw hK zh r0 r1 r3 r4).mono ?_
  rintro v σ3 ⟨rfl, m, dl, hD, e9, e42, ag⟩
  refine ⟨rfl, in_nI (by omega) (by omega), in_nI (by omega) (by omega), ?_⟩
  rw [cl (n := k) (by omega), ag 12 k (by omega) (by omega), ag 13 k (by omega) (by omega), ag 16 k (by omega) (by omega), p1, p2, p3, mx_sub hp hcc, nI_addn]
  have ask : ∀ r, r < nR → askR σ' r ≤ 999 := fun r hr => by
    obtain ⟨s', k', t, st, w, a, g, ⟨-, -, -, -, -, -, -, b8, -⟩, -, ⟨-, -, -, -, -, y5, -⟩⟩ := r3 r hr
    unfold askR
    rw [y5, cl (by omega)]
    exact b8
  have dsb : ∀ D, dS (selR σ' (nI i) (nI k) (nI (w % 10)) (w / 10) K) (dayR σ') (askR σ') D nR < 1000000 := fun D => by
    have := dS_le (sel := selR σ' (nI i) (nI k) (nI (w % 10)) (w / 10) K) (day := dayR σ') (D := D) nR ask
    omega
  have hm := hD.1
  generalize hsel : selR σ' (nI i) (nI k) (nI (w % 10)) (w / 10) K = sel at hD e42 dsb
  have eqB : ∀ Q, sB (fun D => dH sel (dayR σ') D nR) (fun D => lo (p - cc) (cc + tt) Q (dS sel (dayR σ') (askR σ') D nR)) (h / 24 + 1) = sI (lo (p - cc) (cc + tt) Q) (fun i' => dS sel (dayR σ') (askR σ') (dl i') nR) m := fun Q => by
    refine Eq.trans (sB_sI (h / 24 + 1) m (fun i' hi' => ?_) hD.2.1 (fun D _ => hD.2.2 D)) (sI_comp (G := lo (p - cc) (cc + tt) Q) (F := fun D => dS sel (dayR σ') (askR σ') D nR) (dl := dl) m)
    obtain ⟨r, hr, -, hd⟩ := (dH_iff nR).mp ((hD.2.2 (dl i')).mpr ⟨i', hi', rfl⟩)
    obtain ⟨s', k', t, st, w, a, g, ⟨-, -, b3, -⟩, -, ⟨-, -, y2, -⟩⟩ := r3 r hr
    unfold dayR at hd
    rw [y2, cl (by omega)] at hd
    omega
  refine (S_leastLoss (d := d + 2) (v := fun i' => dS sel (dayR σ') (askR σ') (dl i') nR) (by omega) (by omega) (by omega) e9 (fun i' hi' => ⟨e42 i' hi', dsb _⟩)).mono ?_
  rintro v σ4 ⟨x, rfl, ag4, q0, rfl, q9, qd, qu⟩
  generalize hv : (fun i' => dS sel (dayR σ') (askR σ') (dl i') nR) = vv at qd qu eqB
  have vvb : ∀ i, vv i < 1000000 := fun i => by
    rw [← hv]
    exact dsb _
  have Lb : ∀ Q, Q < 1000 → sI (lo (p - cc) (cc + tt) Q) vv m < 2 ^ 63 := fun Q hQ => by
    have h1 := sI_le (g := lo (p - cc) (cc + tt) Q) (v := vv) (B := 1000000 * 20000) m (fun i' _ => by
      have h2 := vvb i'
      unfold lo
      split
      · exact Nat.mul_le_mul (by omega) (by omega)
      · exact Nat.mul_le_mul (by omega) (by omega))
    have h3 := Nat.mul_le_mul_right (1000000 * 20000) (show m ≤ 600 by omega)
    omega
  have A4 : ∀ q c, q ≠ 42 → q ≠ 43 → ¬ (q = 34 ∧ c = 9) → rd σ4 q c = rd σ' q c := fun q c a1 a2 a3 => (ag4 q c a2).trans (ag q c a1 a3)
  refine ⟨_, rfl, PI.mk (M_X12_order _ _ _ _ (w_X12_order_0 _ _ _ _ ?_))⟩
  refine (S_isOrder (d := d) zS zK (nI i) (nI k) (nI w) (nI K) ((A4 59 2 (by omega) (by omega) (by omega)).trans s2) ((A4 59 6 (by omega) (by omega) (by omega)).trans k2)).mono ?_
  rintro v σ5 ⟨x, rfl, rfl, hx5⟩
  refine ⟨_, rfl, fun q0 => ?_, fun _ => ?_⟩
  · rcases hx5 with ⟨rfl, -⟩ | ⟨-, hx5⟩
    · exact absurd q0 (by decide)
    · exact absurd hC hx5
  refine (S_findSums2 (d := d + 3) hw hK zh r0 r2 r3 A4).mono ?_
  rintro v σ6 ⟨rfl, f1, f2⟩
  rw [hsel] at f1
  have lossQ : ∀ Q, Q < 1000 → Meth Γ l (d + 3) mX12_lossOf [.ref 59, .int (nI k), .int (nI Q)] σ6 (KL fun x σ7 => σ7 = σ6 ∧ x = lN (sI (lo (p - cc) (cc + tt) Q) vv m)) := fun Q hQ => by
    have := S_lossOfM (Γ := Γ) (l := l) (d := d + 2) (σ := σ6) (sv := fun D => dS sel (dayR σ') (askR σ') D nR) (hv := fun D => dH sel (dayR σ') D nR) (Q := Q) zh (show k < 10 by omega) hp hcc htt (by omega) ((f2 59 1 (by omega) (by omega) (by omega) (by omega) (by omega)).trans g2) ((f2 63 k (by omega) (by omega) (by omega) (by omega) (by omega)).trans m1) ((f2 64 k (by omega) (by omega) (by omega) (by omega) (by omega)).trans m2) ((f2 67 k (by omega) (by omega) (by omega) (by omega) (by omega)).trans m3) f1 dsb
    rw [eqB] at this
    exact this
  have loop : ∀ f q, q + f = 1000 → 1 ≤ q → J Γ l (d + 4) mX12_order (KI fun y σ2 => y = nI q0 ∧ Inv σ2) 37 [(0, .ref 59), (2, .int (nI k)), (5, .int (nI (min (q - 1) q0))), (6, .long (lN (sI (lo (p - cc) (cc + tt) (min (q - 1) q0)) vv m))), (8, .int (nI q))] [] σ6 := by
    intro f
    induction f with
    | zero =>
      intro q hq h1
      have : q = 1000 := by omega
      subst this
      refine w_X12_order_37 _ _ _ _ ⟨fun _ => KI.mk ⟨?_, sums_inv h0 f2⟩, fun r => absurd (by decide) r⟩
      congr 1
      omega
    | succ f ih =>
      intro q hq h1
      refine w_X12_order_37 _ _ _ _ ⟨fun r => absurd ((nI_lei (a := 1000) (by omega) (by omega)).mp r) (by omega), fun _ => (lossQ q (by omega)).mono ?_⟩
      rintro v σ7 ⟨x, rfl, rfl, rfl⟩
      refine ⟨_, rfl, ?_⟩
      dsimp only
      rw [lg_cmp_lt, pk_lLT (Lb q (by omega)) (Lb (min (q - 1) q0) (by omega))]
      have nx := ih (q + 1) (by omega) (by omega)
      rw [Nat.add_sub_cancel] at nx
      rcases Nat.lt_or_ge q0 q with cq | cq
      · have e1 : min (q - 1) q0 = q0 := by omega
        have e2 : min q q0 = q0 := by omega
        rw [e1]
        rw [e2] at nx
        have h2 := (sdn_after (qu (by omega)) (q - q0)).2
        rw [show q0 + (q - q0) = q by omega] at h2
        refine ⟨fun r => absurd r (by omega), fun _ y hy => ?_⟩
        rw [nI_s] at hy
        subst hy
        exact nx
      · have e1 : min (q - 1) q0 = q - 1 := by omega
        have e2 : min q q0 = q := by omega
        rw [e1]
        rw [e2] at nx
        have h2 := sdn_lt (qd (q - 1) (by omega))
        rw [show q - 1 + 1 = q by omega] at h2
        refine ⟨fun _ y hy => ?_, fun r => absurd h2 r⟩
        rw [nI_s] at hy
        subst hy
        exact nx
  refine ⟨rfl, (lossQ 0 (by omega)).mono ?_⟩
  rintro v σ7 ⟨x, rfl, rfl, rfl⟩
  exact ⟨_, rfl, loop 999 1 (by omega) (by omega)⟩
end LL

/-! PAIRS: sums, laws in force, batches told -/
def sumTo (f : Nat → Int32) : Nat → Int32
  | 0 => 0
  | n + 1 => sumTo f n + f n
theorem sumTo_congr {f g : Nat → Int32} : ∀ {n : Nat}, (∀ i, i < n → f i = g i) → sumTo f n = sumTo g n
  | 0, _ => rfl
  | n + 1, h => by
    show sumTo f n + f n = sumTo g n + g n
    rw [sumTo_congr (fun i hi => h i (by omega)), h n (by omega)]
theorem nle {r : Int32} {n i : Nat} (e : r = nI n) (h : i < n) (hn : n < 2147483648) : ¬ r ≤ nI i := by
  rw [e, nI_lei hn (by omega)]
  omega
theorem yle {r : Int32} {n i : Nat} (e : r = nI n) (h : n ≤ i) (hi : i < 2147483648) : r ≤ nI i := by
  rw [e, nI_lei (by omega) hi]
  exact h
theorem nI_s (i : Nat) : nI i + 1 = nI (i + 1) := nI_1 i
theorem nI_p (i : Nat) : nI (i + 1) + -1 = nI i := by
  rw [← nI_1 i, Int32.add_assoc, show (1 : Int32) + -1 = 0 from rfl, Int32.add_zero]
theorem nI_pr (i : Nat) : nI (i + 1) - 1 = nI i := nI_subn (a := i + 1) (b := 1) (by omega)
theorem nI_m (i : Nat) : nI i + -1 = nI i - 1 := (Int32.sub_eq_add_neg _ _).symm
theorem nlt0 {i : Nat} (h : i < 2147483648) : ¬ nI i < (0 : Int32) := by
  rw [ti_lt, ti_nI h, show (0 : Int32).toInt = 0 from rfl]
  omega
section PS
variable {Γ : GG} {l : Launch} {d : Nat} {σ : St}
/-- the latest of n laws that is in force, by the columns u (use), m (made), f (from) -/
def lat (σ : St) (u m f : Nat) (a b c : Int32) : Nat → Int32
  | 0 => -2
  | n + 1 => if rd σ u n = a ∧ ¬ c < rd σ m n ∧ ¬ b < rd σ f n then nI n else lat σ u m f a b c n
theorem lat_le (σ : St) (u m f : Nat) (a b c : Int32) : ∀ n, lat σ u m f a b c n = -2 ∨ ∃ j, j < n ∧ lat σ u m f a b c n = nI j
  | 0 => Or.inl rfl
  | n + 1 => by
    unfold lat
    split
    · exact Or.inr ⟨n, by omega, rfl⟩
    · rcases lat_le σ u m f a b c n with h | ⟨j, hj, h⟩
      · exact Or.inl h
      · exact Or.inr ⟨j, by omega, h⟩
theorem lat_congr {σ σ' : St} {u m f u' m' f' : Nat} {a b c : Int32} : ∀ {n : Nat}, (∀ i, i < n → rd σ' u' i = rd σ u i ∧ rd σ' m' i = rd σ m i ∧ rd σ' f' i = rd σ f i) → lat σ' u' m' f' a b c n = lat σ u m f a b c n
  | 0, _ => rfl
  | n + 1, h => by
    obtain ⟨h1, h2, h3⟩ := h n (by omega)
    unfold lat
    rw [h1, h2, h3, lat_congr (fun i hi => h i (by omega))]
theorem S_latest (a b c : Int32) {n : Nat} (hn : n ≤ 16) (e : rd σ 26 5 = nI n) : Meth Γ l d mX6_latest [.ref 26, .int a, .int b, .int c] σ (KI (Kv (lat σ 29 31 30 a b c n) σ)) := by
  have loop : ∀ i, i ≤ n → (lat σ 29 31 30 a b c i = lat σ 29 31 30 a b c n) → J Γ l d mX6_latest (KI (Kv (lat σ 29 31 30 a b c n) σ)) 8 [(0, .ref 26), (1, .int a), (2, .int b), (3, .int c), (4, .int (nI i - 1))] [] σ := by
    intro i
    induction i with
    | zero =>
      intro _ h0
      exact w_X6_latest_8 _ _ _ _ ⟨fun _ => ⟨_, rfl, rfl, h0⟩, fun c => absurd (by decide) c⟩
    | succ i ih =>
      intro hi h0
      rw [nI_pr]
      have hc : (nI i).toNatClampNeg = i := cl (by omega)
      have nx : ¬ (rd σ 29 i = a ∧ ¬ c < rd σ 31 i ∧ ¬ b < rd σ 30 i) → ∀ x : Int32, x = nI i + -1 → J Γ l d mX6_latest (KI (Kv (lat σ 29 31 30 a b c n) σ)) 8 [(0, .ref 26), (1, .int a), (2, .int b), (3, .int c), (4, .int x)] [] σ := by
        intro hx x ex
        rw [nI_m] at ex
        subst ex
        refine ih (by omega) ?_
        rw [← h0]
        show _ = if _ then _ else _
        rw [if_neg hx]
      refine w_X6_latest_8 _ _ _ _ ⟨fun c => absurd c (nlt0 (by omega)), fun _ => ⟨in_nI (by omega) (by omega), ?_⟩⟩
      rw [hc]
      refine ⟨fun h1 => ⟨fun h2 => nx (fun q => q.2.1 h2), fun h2 => ⟨fun h3 => nx (fun q => q.2.2 h3), fun h3 => ⟨_, rfl, rfl, ?_⟩⟩⟩, fun h1 => nx (fun q => h1 q.1)⟩
      rw [← h0]
      show _ = if _ then _ else _
      rw [if_pos ⟨h1, h2, h3⟩]
  refine M_X6_latest _ _ _ (w_X6_latest_0 _ _ _ ?_)
  rw [e]
  exact loop n (Nat.le_refl _) rfl
theorem S_forceOn (a b c : Int32) {n : Nat} (hn : n ≤ 16) (e : rd σ 59 32 = nI n) : Meth Γ l d mX12_forceOn [.ref 59, .int a, .int b, .int c] σ (KI (Kv (lat σ 85 86 87 a b c n) σ)) := by
  have loop : ∀ i, i ≤ n → (lat σ 85 86 87 a b c i = lat σ 85 86 87 a b c n) → J Γ l d mX12_forceOn (KI (Kv (lat σ 85 86 87 a b c n) σ)) 8 [(0, .ref 59), (1, .int a), (2, .int b), (3, .int c), (4, .int (nI i - 1))] [] σ := by
    intro i
    induction i with
    | zero =>
      intro _ h0
      exact w_X12_forceOn_8 _ _ _ _ ⟨fun _ => ⟨_, rfl, rfl, h0⟩, fun c => absurd (by decide) c⟩
    | succ i ih =>
      intro hi h0
      rw [nI_pr]
      have hc : (nI i).toNatClampNeg = i := cl (by omega)
      have nx : ¬ (rd σ 85 i = a ∧ ¬ c < rd σ 86 i ∧ ¬ b < rd σ 87 i) → ∀ x : Int32, x = nI i + -1 → J Γ l d mX12_forceOn (KI (Kv (lat σ 85 86 87 a b c n) σ)) 8 [(0, .ref 59), (1, .int a), (2, .int b), (3, .int c), (4, .int x)] [] σ := by
        intro hx x ex
        rw [nI_m] at ex
        subst ex
        refine ih (by omega) ?_
        rw [← h0]
        show _ = if _ then _ else _
        rw [if_neg hx]
      refine w_X12_forceOn_8 _ _ _ _ ⟨fun c => absurd c (nlt0 (by omega)), fun _ => ⟨in_nI (by omega) (by omega), ?_⟩⟩
      rw [hc]
      refine ⟨fun h1 => ⟨fun h2 => nx (fun q => q.2.1 h2), fun h2 => ⟨fun h3 => nx (fun q => q.2.2 h3), fun h3 => ⟨_, rfl, rfl, ?_⟩⟩⟩, fun h1 => nx (fun q => h1 q.1)⟩
      rw [← h0]
      show _ = if _ then _ else _
      rw [if_pos ⟨h1, h2, h3⟩]
  refine M_X12_forceOn _ _ _ (w_X12_forceOn_0 _ _ _ ?_)
  rw [e]
  exact loop n (Nat.le_refl _) rfl
/-- the columns of the laws are the same on both sides -/
theorem laws_same {h n : Nat} (hn : ∀ i, i < n → ∃ T, ILaw h i T σ) : ∀ i, i < n → rd σ 85 i = rd σ 29 i ∧ rd σ 86 i = rd σ 31 i ∧ rd σ 87 i = rd σ 30 i := by
  intro i hi
  obtain ⟨T, -, -, -, -, -, -, ⟨u, -, a1, a2⟩, ⟨m, -, b1, b2⟩, ⟨f, -, c1, c2⟩⟩ := hn i hi
  exact ⟨a2.trans a1.symm, b2.trans b1.symm, c2.trans c1.symm⟩
theorem P_inForce (a b c : Int32) (hI : Inv σ) : Meth Γ l (d + 1) mX11_inForce [.ref 0, .int a, .int b, .int c] σ (PI Γ l (d + 2) mX12_inForce [.ref 59, .int a, .int b, .int c]) := by
  obtain ⟨h, nS, nK, nB, i1, i2, i3, i4, i5, i6, i7, i8, i9, i10, i11, i12, i13, i14⟩ := id hI
  obtain ⟨n, hn, t1, t2, t3⟩ := id i10
  have bad : ¬ (((0 : Int32) ≤ a ∧ a ≤ 1) ∧ ((0 : Int32) ≤ b ∧ b < 1500) ∧ ((0 : Int32) ≤ c ∧ c < 1500)) → bad1 σ Γ l (d + 2) mX12_inForce [.ref 59, .int a, .int b, .int c] (-1) := fun hn => M_X12_inForce _ _ _ (w_X12_inForce_0 _ _ _ ⟨fun ha => ⟨fun hb => ⟨fun hc => absurd ⟨ha, (cL 1499 (by omega)).mp hb, (cL 1499 (by omega)).mp hc⟩ hn, fun _ => KI.mk ⟨rfl, hI⟩⟩, fun _ => KI.mk ⟨rfl, hI⟩⟩, fun _ => KI.mk ⟨rfl, hI⟩⟩)
  refine M_X11_inForce _ _ _ (w_X11_inForce_0 _ _ _ ⟨fun ha => ⟨fun hb => ⟨fun hc => ?_, fun hc => PI.mk (bad fun q => hc q.2.2)⟩, fun hb => PI.mk (bad fun q => hb q.2.1)⟩, fun ha => PI.mk (bad fun q => ha q.1)⟩)
  refine (S_latest a b c hn t1).mono ?_
  rintro v σ' ⟨x, rfl, rfl, rfl⟩
  refine KI.mk (PI.mk (M_X12_inForce _ _ _ (w_X12_inForce_0 _ _ _ ⟨fun _ => ⟨fun _ => ⟨fun _ => ?_, fun q => absurd ((cL 1499 (by omega)).mpr hc) q⟩, fun q => absurd ((cL 1499 (by omega)).mpr hb) q⟩, fun q => absurd ha q⟩)))
  refine (S_forceOn a b c hn t2).mono ?_
  rintro v σ' ⟨x, rfl, rfl, rfl⟩
  exact KI.mk (KI.mk ⟨lat_congr (laws_same t3), hI⟩)
theorem S_total (c : Nat) (hc : c < 14) {n : Nat} (hn : n ≤ 200) (e : rd σ 17 1 = nI n) : Meth Γ l d mX0_total [.ref 17, .int (nI c)] σ (KI (Kv (sumTo (fun b => rd σ (b + 142) c) n) σ)) := by
  have loop : ∀ k i, i + k = n → J Γ l d mX0_total (KI (Kv (sumTo (fun b => rd σ (b + 142) c) n) σ)) 4 [(0, .ref 17), (1, .int (nI c)), (2, .int (sumTo (fun b => rd σ (b + 142) c) i)), (3, .int (nI i))] [] σ := by
    intro k
    induction k with
    | zero =>
      intro i hi
      have : i = n := by omega
      subst this
      exact w_X0_total_4 _ _ _ ⟨fun _ => ⟨_, rfl, rfl, rfl⟩, fun q => absurd (yle e (Nat.le_refl _) (by omega)) q⟩
    | succ k ih =>
      intro i hi
      refine w_X0_total_4 _ _ _ ⟨fun q => absurd q (nle e (by omega) (by omega)), fun _ => ⟨in_nI (by omega) (by omega), in_nI (by omega) (by omega), fun x hx y hy => ?_⟩⟩
      rw [cl (by omega), cl (by omega)] at hx
      rw [nI_s] at hy
      subst hx
      subst hy
      exact ih (i + 1) (by omega)
  exact M_X0_total _ (w_X0_total_0 _ (loop n 0 (by omega)))
theorem S_lackInAll {n : Nat} (hn : n ≤ 600) (e : rd σ 34 7 = nI n) : Meth Γ l d mX8_lackInAll [.ref 34] σ (KI (Kv (sumTo (fun r => rd σ 40 r - rd σ 41 r) n) σ)) := by
  have loop : ∀ k i, i + k = n → J Γ l d mX8_lackInAll (KI (Kv (sumTo (fun r => rd σ 40 r - rd σ 41 r) n) σ)) 4 [(0, .ref 34), (1, .int (sumTo (fun r => rd σ 40 r - rd σ 41 r) i)), (2, .int (nI i))] [] σ := by
    intro k
    induction k with
    | zero =>
      intro i hi
      have : i = n := by omega
      subst this
      exact w_X8_lackInAll_4 _ _ ⟨fun _ => ⟨_, rfl, rfl, rfl⟩, fun q => absurd (yle e (Nat.le_refl _) (by omega)) q⟩
    | succ k ih =>
      intro i hi
      refine w_X8_lackInAll_4 _ _ ⟨fun q => absurd q (nle e (by omega) (by omega)), fun _ => ⟨in_nI (by omega) (by omega), fun x hx y hy => ?_⟩⟩
      rw [cl (by omega)] at hx
      rw [nI_s] at hy
      subst hx
      subst hy
      exact ih (i + 1) (by omega)
  exact M_X8_lackInAll (w_X8_lackInAll_0 (loop n 0 (by omega)))
/-- m.count's loops, all of one shape -/
theorem cntL {Q : Option Value → St → Prop} {pc n N : Nat} {q : Nat} {s : Nat} (f : Nat → Int32) (hn : n ≤ N) (hN : N < 2147483648) (e : rd σ q s = nI n)
    (w : ∀ a2 a3 : Int32, ((rd σ q s ≤ a3 → Q (some (.int a2)) σ) ∧ (¬ rd σ q s ≤ a3 → vp_in a3 N ∧ ∀ x2 : Int32, x2 = a2 + f a3.toNatClampNeg → ∀ x3 : Int32, x3 = a3 + 1 → J Γ l (d + 1) mX12_count Q pc [(0, .ref 59), (2, .int x2), (3, .int x3)] [] σ)) → J Γ l (d + 1) mX12_count Q pc [(0, .ref 59), (2, .int a2), (3, .int a3)] [] σ)
    (hq : Q (some (.int (sumTo f n))) σ) : J Γ l (d + 1) mX12_count Q pc [(0, .ref 59), (2, .int 0), (3, .int 0)] [] σ := by
  have loop : ∀ k i, i + k = n → J Γ l (d + 1) mX12_count Q pc [(0, .ref 59), (2, .int (sumTo f i)), (3, .int (nI i))] [] σ := by
    intro k
    induction k with
    | zero =>
      intro i hi
      have : i = n := by omega
      subst this
      exact w _ _ ⟨fun _ => hq, fun q => absurd (yle e (Nat.le_refl _) (by omega)) q⟩
    | succ k ih =>
      intro i hi
      refine w _ _ ⟨fun q => absurd q (nle e (by omega) (by omega)), fun _ => ⟨in_nI (by omega) (by omega), fun x hx y hy => ?_⟩⟩
      rw [cl (by omega)] at hx
      rw [nI_s] at hy
      subst hx
      subst hy
      exact ih (i + 1) (by omega)
  exact loop n 0 (by omega)
theorem shelf_eq {a b c e g : Nat} : (((nI (a + b + c + e + g) - nI b) - nI c) - nI e) - nI g = nI a := by
  rw [nI_subn (by omega), nI_subn (by omega), nI_subn (by omega), nI_subn (by omega)]
  congr 1
  omega
theorem P_count (a : Int32) (hI : Inv σ) : Meth Γ l (d + 1) mX11_count [.ref 0, .int a] σ (PI Γ l (d + 1) mX12_count [.ref 59, .int a]) := by
  obtain ⟨h, nS, nK, nB, i1, i2, i3, i4, i5, i6, i7, i8, i9, i10, i11, i12, i13, i14⟩ := id hI
  obtain ⟨zS, s1, s2, s3, s4, s5, s6⟩ := id i2
  obtain ⟨zK, k1, k2, k3⟩ := id i3
  obtain ⟨zB, b1, b2, b3, b4⟩ := id i6
  obtain ⟨nR, hR, r1, r2, r3, r4⟩ := id i11
  obtain ⟨nL, hL, l1, l2, l3⟩ := id i10
  obtain ⟨nH, hH, t1, t2, t3⟩ := id i8
  obtain ⟨nT, hT, u1, u2, u3⟩ := id i9
  obtain ⟨zh, h1, h2⟩ := id i1
  have sh : ∀ b, b < nB → (((rd σ 76 b - rd σ 77 b) - rd σ 78 b) - rd σ 79 b) - rd σ 80 b = rd σ (b + 142) 5 ∧ rd σ 77 b = rd σ (b + 142) 6 ∧ rd σ 79 b = rd σ (b + 142) 8 ∧ rd σ 80 b = rd σ (b + 142) 9 := by
    intro b hb
    obtain ⟨s, k, lt, md, sh, so, mo, gi, th, -, ⟨x0, x1, x2, x3, x4, x5, x6, x7, x8, x9⟩, ⟨y0, y1, y2, y3, y4, y5, y6, y7, y8⟩, -⟩ := b3 b hb
    exact ⟨by rw [y4, y5, y6, y7, y8, x5]; exact shelf_eq, by rw [y5, x6], by rw [y7, x8], by rw [y8, x9]⟩
  have fin : ∀ {f g : Nat → Int32} {n : Nat}, (∀ i, i < n → f i = g i) → (KI fun y σ2 => y = sumTo g n ∧ Inv σ2) (some (.int (sumTo f n))) σ := fun hfg => KI.mk ⟨sumTo_congr hfg, hI⟩
  refine M_X11_count _ (w_X11_count_0 _ ⟨fun q => ?_, fun q => ?_, fun q => ?_, fun q => ?_, fun q => ?_, fun q => ?_, fun q => ?_, fun q => ?_, fun q => ?_, fun q => ?_, fun q => ?_, fun q => ?_, fun q => ?_, fun q => ?_, fun q0 q1 q2 q3 q4 q5 q6 q7 q8 q9 q10 q11 q12 q13 => ?_⟩)
  · refine PI.mk (M_X12_count _ (w_X12_count_0 _ ⟨fun _ => KI.mk ⟨s2.trans s1.symm, hI⟩, fun p => ?_, fun p => ?_, fun p => ?_, fun p => ?_, fun p => ?_, fun p => ?_, fun p => ?_, fun p => ?_, fun p => ?_, fun p => ?_, fun p => ?_, fun p => ?_, fun p => ?_, fun p => ?_⟩))
    all_goals omega
  · refine PI.mk (M_X12_count _ (w_X12_count_0 _ ⟨fun p => ?_, fun _ => KI.mk ⟨k2.trans k1.symm, hI⟩, fun p => ?_, fun p => ?_, fun p => ?_, fun p => ?_, fun p => ?_, fun p => ?_, fun p => ?_, fun p => ?_, fun p => ?_, fun p => ?_, fun p => ?_, fun p => ?_, fun _ p => ?_⟩))
    all_goals omega
  · refine PI.mk (M_X12_count _ (w_X12_count_0 _ ⟨fun p => ?_, fun p => ?_, fun _ => KI.mk ⟨b2.trans b1.symm, hI⟩, fun p => ?_, fun p => ?_, fun p => ?_, fun p => ?_, fun p => ?_, fun p => ?_, fun p => ?_, fun p => ?_, fun p => ?_, fun p => ?_, fun p => ?_, fun _ _ p => ?_⟩))
    all_goals omega
  · refine PI.mk (M_X12_count _ (w_X12_count_0 _ ⟨fun p => ?_, fun p => ?_, fun p => ?_, fun _ => KI.mk ⟨r2.trans r1.symm, hI⟩, fun p => ?_, fun p => ?_, fun p => ?_, fun p => ?_, fun p => ?_, fun p => ?_, fun p => ?_, fun p => ?_, fun p => ?_, fun p => ?_, fun _ _ _ p => ?_⟩))
    all_goals omega
  · refine PI.mk (M_X12_count _ (w_X12_count_0 _ ⟨fun p => ?_, fun p => ?_, fun p => ?_, fun p => ?_, fun _ => KI.mk ⟨l2.trans l1.symm, hI⟩, fun p => ?_, fun p => ?_, fun p => ?_, fun p => ?_, fun p => ?_, fun p => ?_, fun p => ?_, fun p => ?_, fun p => ?_, fun _ _ _ _ p => ?_⟩))
    all_goals omega
  · refine PI.mk (M_X12_count _ (w_X12_count_0 _ ⟨fun p => ?_, fun p => ?_, fun p => ?_, fun p => ?_, fun p => ?_, fun _ => KI.mk ⟨h2.trans h1.symm, hI⟩, fun p => ?_, fun p => ?_, fun p => ?_, fun p => ?_, fun p => ?_, fun p => ?_, fun p => ?_, fun p => ?_, fun _ _ _ _ _ p => ?_⟩))
    all_goals omega
  · refine PI.mk (M_X12_count _ (w_X12_count_0 _ ⟨fun p => ?_, fun p => ?_, fun p => ?_, fun p => ?_, fun p => ?_, fun p => ?_, fun _ => KI.mk ⟨t2.trans t1.symm, hI⟩, fun p => ?_, fun p => ?_, fun p => ?_, fun p => ?_, fun p => ?_, fun p => ?_, fun p => ?_, fun _ _ _ _ _ _ p => ?_⟩))
    all_goals omega
  · refine PI.mk (M_X12_count _ (w_X12_count_0 _ ⟨fun p => ?_, fun p => ?_, fun p => ?_, fun p => ?_, fun p => ?_, fun p => ?_, fun p => ?_, fun _ => KI.mk ⟨u2.trans u1.symm, hI⟩, fun p => ?_, fun p => ?_, fun p => ?_, fun p => ?_, fun p => ?_, fun p => ?_, fun _ _ _ _ _ _ _ p => ?_⟩))
    all_goals omega
  · refine PI.mk (M_X12_count _ (w_X12_count_0 _ ⟨fun p => ?_, fun p => ?_, fun p => ?_, fun p => ?_, fun p => ?_, fun p => ?_, fun p => ?_, fun p => ?_, fun _ => KI.mk ⟨i14, hI⟩, fun p => ?_, fun p => ?_, fun p => ?_, fun p => ?_, fun p => ?_, fun _ _ _ _ _ _ _ _ p => ?_⟩))
    all_goals omega
  · refine (S_total 5 (by omega) zB b1).mono ?_
    rintro v σ' ⟨x, rfl, rfl, rfl⟩
    refine KI.mk (PI.mk (M_X12_count _ (w_X12_count_0 _ ⟨fun p => ?_, fun p => ?_, fun p => ?_, fun p => ?_, fun p => ?_, fun p => ?_, fun p => ?_, fun p => ?_, fun p => ?_, fun _ => cntL _ zB (by omega) b2 w_X12_count_119 (fin fun i hi => (sh i hi).1), fun p => ?_, fun p => ?_, fun p => ?_, fun p => ?_, fun _ _ _ _ _ _ _ _ _ p => ?_⟩)))
    all_goals omega
  · refine (S_total 6 (by omega) zB b1).mono ?_
    rintro v σ' ⟨x, rfl, rfl, rfl⟩
    refine KI.mk (PI.mk (M_X12_count _ (w_X12_count_0 _ ⟨fun p => ?_, fun p => ?_, fun p => ?_, fun p => ?_, fun p => ?_, fun p => ?_, fun p => ?_, fun p => ?_, fun p => ?_, fun p => ?_, fun _ => cntL _ zB (by omega) b2 w_X12_count_145 (fin fun i hi => (sh i hi).2.1), fun p => ?_, fun p => ?_, fun p => ?_, fun _ _ _ _ _ _ _ _ _ _ p => ?_⟩)))
    all_goals omega
  · refine (S_total 8 (by omega) zB b1).mono ?_
    rintro v σ' ⟨x, rfl, rfl, rfl⟩
    refine KI.mk (PI.mk (M_X12_count _ (w_X12_count_0 _ ⟨fun p => ?_, fun p => ?_, fun p => ?_, fun p => ?_, fun p => ?_, fun p => ?_, fun p => ?_, fun p => ?_, fun p => ?_, fun p => ?_, fun p => ?_, fun _ => cntL _ zB (by omega) b2 w_X12_count_172 (fin fun i hi => (sh i hi).2.2.1), fun p => ?_, fun p => ?_, fun _ _ _ _ _ _ _ _ _ _ _ p => ?_⟩)))
    all_goals omega
  · refine (S_total 9 (by omega) zB b1).mono ?_
    rintro v σ' ⟨x, rfl, rfl, rfl⟩
    refine KI.mk (PI.mk (M_X12_count _ (w_X12_count_0 _ ⟨fun p => ?_, fun p => ?_, fun p => ?_, fun p => ?_, fun p => ?_, fun p => ?_, fun p => ?_, fun p => ?_, fun p => ?_, fun p => ?_, fun p => ?_, fun p => ?_, fun _ => cntL _ zB (by omega) b2 w_X12_count_199 (fin fun i hi => (sh i hi).2.2.2), fun p => ?_, fun _ _ _ _ _ _ _ _ _ _ _ _ p => ?_⟩)))
    all_goals omega
  · refine (S_lackInAll hR r1).mono ?_
    rintro v σ' ⟨x, rfl, rfl, rfl⟩
    refine KI.mk (PI.mk (M_X12_count _ (w_X12_count_0 _ ⟨fun p => ?_, fun p => ?_, fun p => ?_, fun p => ?_, fun p => ?_, fun p => ?_, fun p => ?_, fun p => ?_, fun p => ?_, fun p => ?_, fun p => ?_, fun p => ?_, fun p => ?_, fun _ => cntL (fun r => rd σ 97 r - rd σ 98 r) hR (by omega) r2 w_X12_count_226 (fin fun i hi => ?_), fun _ _ _ _ _ _ _ _ _ _ _ _ _ p => ?_⟩)))
    case refine_14 =>
      obtain ⟨s, k, t, st, w, a', g, -, ⟨-, -, -, -, -, x5, x6⟩, ⟨-, -, -, -, -, y5, y6⟩⟩ := r3 i hi
      rw [x5, x6, y5, y6]
    all_goals omega
  · exact PI.mk (M_X12_count _ (w_X12_count_0 _ ⟨fun p => absurd p q0, fun p => absurd p q1, fun p => absurd p q2, fun p => absurd p q3, fun p => absurd p q4, fun p => absurd p q5, fun p => absurd p q6, fun p => absurd p q7, fun p => absurd p q8, fun p => absurd p q9, fun p => absurd p q10, fun p => absurd p q11, fun p => absurd p q12, fun p => absurd p q13, fun _ _ _ _ _ _ _ _ _ _ _ _ _ _ => KI.mk ⟨rfl, hI⟩⟩))
end PS

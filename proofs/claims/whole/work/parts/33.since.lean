/-! SINCE -/
def sumN (P : Nat → Bool) (u : Nat → Nat) : Nat → Nat
  | 0 => 0
  | n + 1 => if P n then sumN P u n + u n else sumN P u n
theorem sumB_N {P : Nat → Bool} {v : Nat → Int32} {u : Nat → Nat} : ∀ {n}, (∀ i, i < n → v i = nI (u i)) → sumB P v n = nI (sumN P u n)
  | 0, _ => rfl
  | n + 1, h => by
    have h1 := sumB_N (P := P) (fun i a => h i (by omega) : ∀ i, i < n → v i = nI (u i))
    show (if P n then sumB P v n + v n else sumB P v n) = nI (if P n then sumN P u n + u n else sumN P u n)
    split
    · rw [h1, h n (by omega), nI_addn]
    · exact h1
theorem sumN_mono {P P' : Nat → Bool} {u : Nat → Nat} : ∀ {n}, (∀ i, i < n → P i = true → P' i = true) → sumN P u n ≤ sumN P' u n
  | 0, _ => Nat.le_refl _
  | n + 1, h => by
    have h1 := sumN_mono (u := u) (fun i a => h i (by omega) : ∀ i, i < n → P i = true → P' i = true)
    show (if P n then sumN P u n + u n else sumN P u n) ≤ (if P' n then sumN P' u n + u n else sumN P' u n)
    by_cases hp : P n = true
    · rw [if_pos hp, if_pos (h n (by omega) hp)]
      omega
    · rw [if_neg hp]
      split <;> omega
theorem sumN_bd {P : Nat → Bool} {u : Nat → Nat} {c : Nat} : ∀ {n}, (∀ i, i < n → u i ≤ c) → sumN P u n ≤ n * c
  | 0, _ => Nat.zero_le _
  | n + 1, h => by
    have h1 := sumN_bd (P := P) (fun i a => h i (by omega) : ∀ i, i < n → u i ≤ c)
    have h2 := h n (by omega)
    have h3 : (n + 1) * c = n * c + c := Nat.succ_mul n c
    show (if P n then sumN P u n + u n else sumN P u n) ≤ _
    split <;> omega
theorem sumN_congr {P P' : Nat → Bool} {u : Nat → Nat} : ∀ {n}, (∀ i, i < n → P i = P' i) → sumN P u n = sumN P' u n
  | 0, _ => rfl
  | n + 1, h => by
    have h1 := sumN_congr (u := u) (fun i a => h i (by omega) : ∀ i, i < n → P i = P' i)
    show (if P n then sumN P u n + u n else sumN P u n) = (if P' n then sumN P' u n + u n else sumN P' u n)
    rw [h n (by omega), h1]
/-- the first of the days e, e + 1 .. (m of them) -/
def fb (f : Nat → Bool) : Nat → Nat → Int32
  | _, 0 => -2
  | e, m + 1 => if f e then nI e else fb f (e + 1) m
theorem fb_none {f : Nat → Bool} : ∀ m e, (∀ x, e ≤ x → x < e + m → f x = false) → fb f e m = -2
  | 0, _, _ => rfl
  | m + 1, e, h => by
    show (if f e then _ else _) = _
    rw [h e (by omega) (by omega)]
    exact fb_none m (e + 1) (fun x a b => h x (by omega) (by omega))
theorem fb_at {f : Nat → Bool} {x : Nat} (hx : f x = true) : ∀ m e, e ≤ x → x < e + m → (∀ y, e ≤ y → y < x → f y = false) → fb f e m = nI x
  | 0, e, h1, h2, _ => by omega
  | m + 1, e, h1, h2, h => by
    show (if f e then _ else _) = _
    by_cases he : e = x
    · subst he
      rw [if_pos hx]
    · rw [h e (by omega) (by omega)]
      exact fb_at hx m (e + 1) (by omega) (by omega) (fun y a b => h y (by omega) b)
/-- spoiled of a lot, and came of it, by day z (which may be -1) -/
def spN (σ : St) (k l : Int32) (n : Nat) (z : Int) : Nat := sumN (fun i => decide (rd σ 72 (rd σ 115 i).toNatClampNeg = k ∧ rd σ 73 (rd σ 115 i).toNatClampNeg = l) && decide (((rd σ 116 i).toNatClampNeg : Int) ≤ z)) (fun i => (rd σ 117 i).toNatClampNeg) n
def cmN (σ : St) (k l : Int32) (n : Nat) (z : Int) : Nat := sumN (fun b => decide (rd σ 72 b = k ∧ rd σ 73 b = l ∧ ¬ (0 : Int32) ≤ rd σ 82 b) && decide (((rd σ 75 b).toNatClampNeg : Int) ≤ z)) (fun b => (rd σ 76 b).toNatClampNeg) n
section SN
variable {Γ : GG} {l : Launch} {d : Nat} {σ : St}
theorem badV_N {h nB nP : Nat} (hh : h < 36000) (hB : nB ≤ 200) (hP : nP ≤ 400) (iB : ∀ b, b < nB → IB h b σ) (g4 : ∀ i, i < nP → ∃ b p dy : Nat, b < nB ∧ p ≤ 999 ∧ dy ≤ h / 24 ∧ rd σ 115 i = nI b ∧ rd σ 20 i = rd σ 72 b * 100 + rd σ 73 b ∧ rd σ 21 i = nI p ∧ rd σ 117 i = nI p ∧ rd σ 22 i = nI dy ∧ rd σ 116 i = nI dy) (k lt : Int32) (x : Nat) (hx : x < 2147483648) :
    badV σ k lt (nI x) nB nP = decide (3 ≤ spN σ k lt nP x ∧ cmN σ k lt nB x < 10 * spN σ k lt nP x) := by
  have e1 : spV σ k lt (nI x) nP = nI (spN σ k lt nP x) := by
    unfold spV spN
    rw [sumB_N (u := fun i => (rd σ 117 i).toNatClampNeg) (fun i hi => ?_)]
    · congr 1
      refine sumN_congr (fun i hi => ?_)
      obtain ⟨b, p, dy, hb, hp, hd, u1, u2, u3, u4, u5, u6⟩ := g4 i hi
      unfold spB
      rw [u6, cl (by omega)]
      have q : nI x < nI dy ↔ x < dy := nI_lti (by omega) (by omega)
      by_cases c1 : rd σ 72 (rd σ 115 i).toNatClampNeg = k <;> by_cases c2 : rd σ 73 (rd σ 115 i).toNatClampNeg = lt <;> by_cases c3 : dy ≤ x <;> simp [c1, c2, c3, q]
    · obtain ⟨b, p, dy, hb, hp, hd, u1, u2, u3, u4, u5, u6⟩ := g4 i hi
      rw [u4, cl (by omega)]
  have e2 : cmV σ k lt (nI x) nB = nI (cmN σ k lt nB x) := by
    unfold cmV cmN
    rw [sumB_N (u := fun i => (rd σ 76 i).toNatClampNeg) (fun i hi => ?_)]
    · congr 1
      refine sumN_congr (fun i hi => ?_)
      obtain ⟨s, k', lt', md, sh, so, mo, gi, th, -, -, -, -, -, z3⟩ := iB i hi
      unfold cmB
      rcases z3 with ⟨w1, -, c, hc, w2, w3⟩ | ⟨f, hf, w1, -⟩
      · rw [w3, cl (by omega)]
        have q : nI x < nI c ↔ x < c := nI_lti (by omega) (by omega)
        by_cases c1 : rd σ 72 i = k <;> by_cases c2 : rd σ 73 i = lt <;> by_cases c3 : c ≤ x <;> by_cases c4 : (0 : Int32) ≤ rd σ 82 i <;> simp [c1, c2, c3, c4, q]
      · have hn : (0 : Int32) ≤ rd σ 82 i := by
          rw [w1]
          exact (nI_lei (a := 0) (by omega) (by omega)).mpr (by omega)
        simp [hn]
    · obtain ⟨s, k', lt', md, sh, so, mo, gi, th, ⟨-, -, -, -, hs⟩, -, ⟨-, -, -, -, y4, -⟩, -⟩ := iB i hi
      rw [y4, cl (by omega)]
  have b1 : spN σ k lt nP x ≤ nP * 999 := sumN_bd (fun i hi => by
    obtain ⟨b, p, dy, hb, hp, hd, u1, u2, u3, u4, u5, u6⟩ := g4 i hi
    rw [u4, cl (by omega)]
    exact hp)
  have b2 : cmN σ k lt nB x ≤ nB * 999 := sumN_bd (fun i hi => by
    obtain ⟨s, k', lt', md, sh, so, mo, gi, th, ⟨-, -, -, -, hs⟩, -, ⟨-, -, -, -, y4, -⟩, -⟩ := iB i hi
    rw [y4, cl (by omega)]
    exact hs)
  have b3 : nP * 999 ≤ 400 * 999 := Nat.mul_le_mul_right _ hP
  have b4 : nB * 999 ≤ 200 * 999 := Nat.mul_le_mul_right _ hB
  unfold badV
  rw [e1, e2, show (10 : Int32) = nI 10 from rfl, nI_muln]
  have q1 : nI (spN σ k lt nP x) < (3 : Int32) ↔ spN σ k lt nP x < 3 := nI_lti (b := 3) (by omega) (by omega)
  have q2 : nI (10 * spN σ k lt nP x) ≤ nI (cmN σ k lt nB x) ↔ 10 * spN σ k lt nP x ≤ cmN σ k lt nB x := nI_lei (by omega) (by omega)
  simp only [decide_eq_decide]
  rw [q1, q2]
  omega
theorem S_since {nB nP t : Nat} (hB : nB ≤ 200) (hP : nP ≤ 400) (eB : rd σ 59 16 = nI nB) (eP : rd σ 59 74 = nI nP) (hb : ∀ i, i < nP → ∃ b, b < nB ∧ rd σ 115 i = nI b) (et : rd σ 59 1 / 24 = nI t) (ht : t < 1500) (k lt : Int32) (Q : Option Value → St → Prop) (hq : Q (some (.int (fb (fun x => badV σ k lt (nI x) nB nP) 0 (t + 1)))) σ) : J Γ l (d + 3) mX12_since Q 13 [(0, .ref 59), (1, .int k), (2, .int lt), (3, .int 0)] [] σ := by
  have loop : ∀ m e, e + m = t + 1 → (∀ q, q = fb (fun x => badV σ k lt (nI x) nB nP) e m → q = fb (fun x => badV σ k lt (nI x) nB nP) 0 (t + 1)) → J Γ l (d + 3) mX12_since Q 13 [(0, .ref 59), (1, .int k), (2, .int lt), (3, .int (nI e))] [] σ := by
    intro m
    induction m with
    | zero =>
      intro e he hr
      have h2 := hr _ rfl
      refine w_X12_since_13 _ _ _ ⟨fun _ => by rw [← h2] at hq; exact hq, fun q => absurd ?_ q⟩
      rw [et]
      exact (nI_lti (by omega) (by omega)).mpr (by omega)
    | succ m ih =>
      intro e he hr
      refine w_X12_since_13 _ _ _ ⟨fun q => ?_, fun _ => ?_⟩
      · rw [et] at q
        have := (nI_lti (by omega) (by omega)).mp q
        omega
      · refine (S_isBadOn (d := d + 2) hB hP eB eP hb k lt (nI e)).mono ?_
        rintro v σ' ⟨x, rfl, rfl, rfl⟩
        have h2 := hr _ rfl
        refine ⟨_, rfl, fun q y hy => ?_, fun q => ?_⟩
        · rw [nI_s] at hy
          subst hy
          refine ih (e + 1) (by omega) (fun z hz => ?_)
          rw [hz, ← h2]
          show _ = if badV σ k lt (nI e) nB nP = true then nI e else _
          cases hv : badV σ k lt (nI e) nB nP with
          | true => rw [hv] at q; exact absurd q (by decide)
          | false => rw [if_neg (by decide)]
        · have h3 : fb (fun x => badV σ k lt (nI x) nB nP) e (m + 1) = nI e := by
            show (if badV σ k lt (nI e) nB nP = true then nI e else _) = _
            cases hv : badV σ k lt (nI e) nB nP with
            | true => rw [if_pos rfl]
            | false => rw [hv] at q; exact absurd rfl q
          rw [← h2, h3] at hq
          exact hq
  exact loop (t + 1) 0 (by omega) (fun q hq => hq)
theorem S_badSince {h nS nK nB nP : Nat} (h0 : Inv0 h nS nK nB σ) (hP : nP ≤ 400) (eP : rd σ 17 7 = nI nP) (e74 : rd σ 59 74 = nI nP) {k lt : Nat} (hk : k < 10) (hl : lt < 100) : Meth Γ l (d + 2) mX0_badSince [.ref 17, .int (nI k * 100 + nI lt)] σ (KI (Kv (fb (fun x => badV σ (nI k) (nI lt) (nI x) nB nP) 0 (h / 24 + 1)) σ)) := by
  have i1 := h0.1
  have i6 := h0.2.2.2.2.2.1
  have i7 := h0.2.2.2.2.2.2.1
  obtain ⟨zh, -, -⟩ := i1
  obtain ⟨zB, b1, b2, b3, b4⟩ := id i6
  obtain ⟨m, g1, g2, g3, g4, g5⟩ := i7
  have hm : m = nP := by
    rw [g2] at eP
    exact (nI_inj (by omega) (by omega)).mp eP
  subst hm
  generalize hf : (fun x => badV σ (nI k) (nI lt) (nI x) nB m) = f
  have fN : ∀ x, x < 2147483648 → f x = decide (3 ≤ spN σ (nI k) (nI lt) m x ∧ cmN σ (nI k) (nI lt) nB x < 10 * spN σ (nI k) (nI lt) m x) := fun x hx => by
    rw [← hf]
    exact badV_N zh zB g1 b3 g4 (nI k) (nI lt) x hx
  -- nothing spoiled between z and x: what wasn't bad at z isn't at x
  have keep : ∀ (z : Int) (x : Nat), z ≤ x → x < 2147483648 → (∀ i, i < m → rd σ 20 i = nI k * 100 + nI lt → ((rd σ 22 i).toNatClampNeg : Int) ≤ x → ((rd σ 22 i).toNatClampNeg : Int) ≤ z) → (∀ y : Nat, (y : Int) = z → f y = false) → -1 ≤ z → f x = false := by
    intro z x hzx hx hno hz hz1
    have hS : spN σ (nI k) (nI lt) m x ≤ spN σ (nI k) (nI lt) m z := by
      refine sumN_mono (fun i hi hp => ?_)
      obtain ⟨b, p, dy, hb, hp2, hd, u1, u2, u3, u4, u5, u6⟩ := g4 i hi
      obtain ⟨s, k', lt', md, sh, so, mo, gi, th, ⟨hs, hk', hl', -⟩, -, ⟨y0, y1, y2, -⟩, -⟩ := b3 b hb
      simp only [Bool.and_eq_true, decide_eq_true_eq] at hp ⊢
      refine ⟨hp.1, ?_⟩
      have h1 := hp.1
      rw [u1, cl (by omega)] at h1
      have h2 := hno i hi (by rw [u2, h1.1, h1.2]) (by rw [u5, ← u6]; exact hp.2)
      rw [u5] at h2
      rw [u6]
      exact h2
    have hA : cmN σ (nI k) (nI lt) nB z ≤ cmN σ (nI k) (nI lt) nB x := by
      refine sumN_mono (fun i hi hp => ?_)
      simp only [Bool.and_eq_true, decide_eq_true_eq] at hp ⊢
      exact ⟨hp.1, by omega⟩
    rw [fN x hx]
    simp only [decide_eq_false_iff_not]
    rintro ⟨c1, c2⟩
    rcases (show z = -1 ∨ 0 ≤ z by omega) with hz2 | hz2
    · have h0 : spN σ (nI k) (nI lt) m z = 0 := by
        have : spN σ (nI k) (nI lt) m z ≤ sumN (fun _ => false) (fun i => (rd σ 117 i).toNatClampNeg) m := by
          refine sumN_mono (fun i hi hp => ?_)
          simp only [Bool.and_eq_true, decide_eq_true_eq] at hp
          have h3 := hp.2
          rw [hz2] at h3
          omega
        have h1 : ∀ n, sumN (fun _ => false) (fun i => (rd σ 117 i).toNatClampNeg) n = 0 := by
          intro n
          induction n with
          | zero => rfl
          | succ n ih => exact ih
        rw [h1] at this
        omega
      omega
    · obtain ⟨y, rfl⟩ : ∃ y : Nat, z = y := ⟨z.toNat, by omega⟩
      have h1 := hz y rfl
      rw [fN y (by omega)] at h1
      simp only [decide_eq_false_iff_not] at h1
      exact h1 ⟨by omega, by omega⟩
  have loop : ∀ n i (z : Int) (a2 : Int32), i + n = m → -1 ≤ z → z ≤ 1499 → a2.toInt = z → (∀ y : Nat, (y : Int) ≤ z → f y = false) → (∀ j, j < i → rd σ 20 j = nI k * 100 + nI lt → ((rd σ 22 j).toNatClampNeg : Int) ≤ z) → J Γ l (d + 2) mX0_badSince (KI (Kv (fb f 0 (h / 24 + 1)) σ)) 4 [(0, .ref 17), (1, .int (nI k * 100 + nI lt)), (2, .int a2), (3, .int (nI i))] [] σ := by
    intro n
    induction n with
    | zero =>
      intro i z a2 hi hz1 hz2 ha hf1 hj
      have : i = m := by omega
      subst this
      refine w_X0_badSince_4 _ _ _ ⟨fun _ => ⟨_, rfl, rfl, ?_⟩, fun q => absurd (yle g2 (Nat.le_refl _) (by omega)) q⟩
      refine (fb_none _ _ (fun x _ hx => ?_)).symm
      rcases (show (x : Int) ≤ z ∨ z ≤ x by omega) with c | c
      · exact hf1 x c
      · exact keep z x c (by omega) (fun j hj2 hl2 _ => hj j hj2 hl2) (fun y hy => hf1 y (by omega)) hz1
    | succ n ih =>
      intro i z a2 hi hz1 hz2 ha hf1 hj
      obtain ⟨b, p, dy, hb, hp2, hd, u1, u2, u3, u4, u5, u6⟩ := g4 i (by omega)
      have cdy : (nI dy).toNatClampNeg = dy := cl (by omega)
      refine w_X0_badSince_4 _ _ _ ⟨fun q => absurd q (nle g2 (by omega) (by omega)), fun _ => ⟨in_nI (by omega) (by omega), ?_⟩⟩
      rw [cl (by omega), u5]
      have skip : (rd σ 20 i = nI k * 100 + nI lt → (dy : Int) ≤ z) → ∀ y : Int32, y = nI i + 1 → J Γ l (d + 2) mX0_badSince (KI (Kv (fb f 0 (h / 24 + 1)) σ)) 4 [(0, .ref 17), (1, .int (nI k * 100 + nI lt)), (2, .int a2), (3, .int y)] [] σ := by
        intro q y hy
        rw [nI_s] at hy
        subst hy
        refine ih (i + 1) z a2 (by omega) hz1 hz2 ha hf1 (fun j hj2 hl2 => ?_)
        by_cases hji : j = i
        · subst hji
          rw [u5, cdy]
          exact q hl2
        · exact hj j (by omega) hl2
      refine ⟨fun q1 => ⟨fun q2 => skip (fun _ => ?_), fun q2 => ?_⟩, fun q1 => skip (fun c => absurd c q1)⟩
      · rw [ti_le, ti_nI (by omega), ha] at q2
        exact q2
      · rw [ti_le, ti_nI (by omega), ha] at q2
        -- days up to dy - 1 aren't bad
        have upto : ∀ y : Nat, y < dy → f y = false := by
          intro y hy
          rcases (show (y : Int) ≤ z ∨ z ≤ y by omega) with c | c
          · exact hf1 y c
          · refine keep z y c (by omega) (fun j hj2 hl2 hle => ?_) (fun y2 hy2 => hf1 y2 (by omega)) hz1
            by_cases hji : j < i
            · exact hj j hji hl2
            · exfalso
              have h3 : (rd σ 22 i).toNatClampNeg ≤ (rd σ 22 j).toNatClampNeg := by
                rcases Nat.lt_or_ge i j with e | e
                · exact g5 i j e hj2
                · rw [show i = j by omega]
                  exact Nat.le_refl _
              rw [u5, cdy] at h3
              omega
        refine (S_isBadLot (d := d) h0 g1 g2 g3 hk hl (nI dy)).mono ?_
        rintro v σ' ⟨x, rfl, rfl, rfl⟩
        refine ⟨_, rfl, fun q y hy => ?_, fun q => ⟨_, rfl, rfl, ?_⟩⟩
        · rw [nI_s] at hy
          subst hy
          have hfd : f dy = false := by
            rw [← hf]
            show badV σ (nI k) (nI lt) (nI dy) nB m = false
            cases hv : badV σ (nI k) (nI lt) (nI dy) nB m with
            | true => rw [hv] at q; exact absurd q (by decide)
            | false => rfl
          refine ih (i + 1) dy (nI dy) (by omega) (by omega) (by omega) (ti_nI (by omega)) (fun y hy => ?_) (fun j hj2 hl2 => ?_)
          · rcases (show y < dy ∨ y = dy by omega) with c | c
            · exact upto y c
            · rw [c]
              exact hfd
          · by_cases hji : j = i
            · subst hji
              rw [u5, cdy]
              exact Int.le_refl _
            · have := hj j (by omega) hl2
              omega
        · have hfd : f dy = true := by
            rw [← hf]
            show badV σ (nI k) (nI lt) (nI dy) nB m = true
            cases hv : badV σ (nI k) (nI lt) (nI dy) nB m with
            | true => rfl
            | false => rw [hv] at q; exact absurd rfl q
          exact (fb_at hfd _ _ (Nat.zero_le _) (by omega) (fun y _ hy => upto y hy)).symm
  exact M_X0_badSince _ (w_X0_badSince_0 _ (loop m 0 (-1) (-1) (by omega) (by omega) (by omega) rfl (fun y hy => by omega) (fun j hj => by omega)))
theorem P_since (a b : Int32) (hI : Inv σ) : Meth Γ l (d + 3) mX11_since [.ref 0, .int a, .int b] σ (PI Γ l (d + 3) mX12_since [.ref 59, .int a, .int b]) := by
  have hI2 := hI
  obtain ⟨h, nS, nK, nB, h0⟩ := hI2
  obtain ⟨i1, i2, i3, i4, i5, i6, i7, -⟩ := id h0
  obtain ⟨zK, k1, k2, k3⟩ := id i3
  obtain ⟨zB, b1, b2, b3, b4⟩ := id i6
  obtain ⟨nP, g1, g2, g3, g4, g5⟩ := id i7
  have bad : ¬ ((0 ≤ a ∧ a < nI nK) ∧ ((0 : Int32) ≤ b ∧ b < 100)) → bad1 σ Γ l (d + 3) mX12_since [.ref 59, .int a, .int b] (-1) := fun hn => M_X12_since _ _ (w_X12_since_0 _ _ ⟨fun ha => absurd ⟨(cM (by omega) k2).mp ha.1, (cL 99 (by omega)).mp ha.2⟩ hn, fun _ => KI.mk ⟨rfl, hI⟩⟩)
  refine M_X11_since _ _ (w_X11_since_0 _ _ ⟨fun ha => ⟨fun hb => ?_, fun q => PI.mk (bad fun r => q r.2)⟩, fun q => PI.mk (bad fun r => q ((cX k1).mpr r.1))⟩)
  have c1 := (cX k1).mp ha
  have oK := (cM (n := nK) (by omega) k2).mpr c1
  obtain ⟨k, hk, rfl⟩ := rng nK (by omega) c1
  obtain ⟨lt, hlt, rfl⟩ := rng 100 (by omega) hb
  have zh := i1.1
  refine (S_badSince (d := d) h0 g1 g2 g3 (by omega) hlt).mono ?_
  rintro v σ' ⟨x, rfl, rfl, rfl⟩
  refine ⟨_, rfl, PI.mk (M_X12_since _ _ (w_X12_since_0 _ _ ⟨fun _ => ?_, fun q => absurd ⟨oK, (cL 99 (by omega)).mpr hb⟩ q⟩))⟩
  refine S_since zB g1 b2 g3 (fun i hi => ?_) (t := h / 24) (by rw [i1.2.2]; exact nI_divn (b := 24) (by omega) (by omega)) (by omega) (nI k) (nI lt) _ (KI.mk ⟨rfl, hI⟩)
  obtain ⟨b', p, dy, u1, u2, u3, u4, -⟩ := g4 i hi
  exact ⟨b', u1, u4⟩
end SN

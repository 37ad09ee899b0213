/-! WAITING: the pair -/
def waitR (f : Nat → Bool) (D : Nat → Nat) (V : Nat → Int32) (n : Nat) (w : Int32) : Int32 :=
  if yN f D n = 0 ∨ yN f D n = cntB f n then -1999999999 else if 10 < cntB f n then -1999999998 else if w = 0 then gapE (yN f D n) (cntB f n - yN f D n) (cS f D V n) (aS f V n) else douE (cntB (hasY (cntB f n) (yN f D n)) (2 ^ cntB f n)) (cntB (farY (fun j => V (dF f n j)) (cntB f n) (yN f D n) (cS f D V n)) (2 ^ cntB f n))
theorem cnt_1 {σ : St} : ∀ n, cntB (fun s => decide (rd σ 8 s = 1)) n = yN (fD σ) (gD σ) n
  | 0 => rfl
  | n + 1 => by
    have ih := cnt_1 (σ := σ) n
    by_cases c : rd σ 8 n = 1
    · have hf : fD σ n = true := by
        unfold fD
        rw [c]
        rfl
      rw [cntB_t (by simp [c]), yN_y hf, ih]
      unfold gD
      rw [if_pos c]
    · rw [cntB_f (by simp [c]), ih]
      by_cases hf : fD σ n = true
      · rw [yN_y hf]
        unfold gD
        rw [if_neg c, Nat.add_zero]
      · rw [yN_n hf]
theorem cnt_0 {σ : St} : ∀ n, (∀ s, s < n → rd σ 8 s = -1 ∨ rd σ 8 s = 0 ∨ rd σ 8 s = 1) → cntB (fun s => decide (rd σ 8 s = 0)) n + yN (fD σ) (gD σ) n = cntB (fD σ) n
  | 0, _ => rfl
  | n + 1, h => by
    have ih := cnt_0 (σ := σ) n fun s hs => h s (by omega)
    rcases h n (by omega) with c | c | c
    · have hf : ¬ fD σ n = true := by
        unfold fD
        simp [c]
      rw [cntB_f (by simp [c]), yN_n hf, cntB_n hf, ih]
    · have hf : fD σ n = true := by
        unfold fD
        rw [c]
        rfl
      have hg : gD σ n = 0 := by
        unfold gD
        rw [if_neg (by rw [c]; decide)]
      rw [cntB_t (by simp [c]), yN_y hf, cntB_t hf, hg]
      omega
    · have hf : fD σ n = true := by
        unfold fD
        rw [c]
        rfl
      have hg : gD σ n = 1 := by
        unfold gD
        rw [if_pos c]
      rw [cntB_f (by simp [c]), yN_y hf, cntB_t hf, hg]
      omega
section WM
variable {Γ : GG} {l : Launch} {d : Nat} {σ : St}
theorem S_wait233 {Q : Option Value → St → Prop} {m y : Nat} {c : Int32} {E : Nat → Int32} (hm : m < 11) (hE : ∀ j, j < m → rd σ 111 j = E j) (hp : 0 < cntB (hasY m y) (2 ^ m)) (hQ : Q (some (.int (douE (cntB (hasY m y) (2 ^ m)) (cntB (farY E m y c) (2 ^ m))))) σ) : J Γ l (d + 3) mX12_waiting Q 233 [(0, .ref 59), (5, .int (nI m)), (6, .int (nI y)), (7, .int c), (11, .int 0), (12, .int 0), (13, .int 0)] [] σ := by
  have p1 := p2_lt hm
  have inner : ∀ X, X < 2 ^ m → J Γ l (d + 3) mX12_waiting Q 233 [(0, .ref 59), (5, .int (nI m)), (6, .int (nI y)), (7, .int c), (11, .int (nI (cntB (hasY m y) (X + 1)))), (12, .int (nI (cntB (farY E m y c) (X + 1)))), (13, .int (nI (X + 1)))] [] σ → ∀ f i, i + f = m → J Γ l (d + 3) mX12_waiting Q 251 [(0, .ref 59), (5, .int (nI m)), (6, .int (nI y)), (7, .int c), (11, .int (nI (cntB (hasY m y) X))), (12, .int (nI (cntB (farY E m y c) X))), (13, .int (nI X)), (14, .int (eS (fun _ => 1) X i)), (15, .int (eS E X i)), (16, .int (nI i))] [] σ := by
    intro X hX nx f
    induction f with
    | zero =>
      intro i hi
      have : i = m := by omega
      subst this
      refine w_X12_waiting_251 _ _ _ _ _ _ _ _ _ ⟨fun _ => ⟨fun q x1 h1 => ⟨fun r x2 h2 => ?_, fun r x2 h2 => ?_⟩, fun q x4 h4 => ?_⟩, fun q => absurd (Int32.le_refl _) q⟩
      · rw [nI_s] at h1 h2
        subst h1 h2
        rw [cntB_t (P := hasY i y) (by unfold hasY; simp [q]), cntB_f (P := farY E i y c) (by unfold farY; simp [q, Int32.not_le.mpr r])] at nx
        rw [Int32.add_zero]
        exact nx
      · rw [nI_s] at h1 h2
        subst h1 h2
        rw [cntB_t (P := hasY i y) (by unfold hasY; simp [q]), cntB_t (P := farY E i y c) (by unfold farY; simp [q, Int32.not_lt.mp r])] at nx
        rw [nI_s]
        exact nx
      · rw [nI_s] at h4
        subst h4
        rw [cntB_f (P := hasY i y) (by unfold hasY; simp [q]), cntB_f (P := farY E i y c) (by unfold farY; simp [q])] at nx
        exact nx
    | succ f ih =>
      intro i hi
      have st : ∀ F : Nat → Int32, eS F X (i + 1) = eS F X i + if bt X i = 1 then F i else 0 := fun _ => rfl
      have n2 := ih (i + 1) (by omega)
      rw [st, st] at n2
      refine w_X12_waiting_251 _ _ _ _ _ _ _ _ _ ⟨fun q => absurd ((nI_lei (by omega) (by omega)).mp q) (by omega), fun _ => ?_⟩
      rw [bt_dec i (by omega) X (by omega), cl (n := i) (by omega), hE i (by omega)]
      rcases bt_2 X i with c | c
      · rw [c] at n2 ⊢
        refine ⟨fun _ x hx => ?_, fun q => absurd rfl q⟩
        rw [nI_s] at hx
        rw [if_neg (by omega), if_neg (by omega), Int32.add_zero, Int32.add_zero] at n2
        subst hx
        exact n2
      · rw [c] at n2 ⊢
        refine ⟨fun q => absurd q (by decide), fun _ x hx => ⟨in_nI (by omega) (by omega), fun z hz w hw => ?_⟩⟩
        rw [nI_s] at hw
        rw [if_pos rfl, if_pos rfl] at n2
        subst hx hz hw
        exact n2
  have outer : ∀ f X, X + f = 2 ^ m → J Γ l (d + 3) mX12_waiting Q 233 [(0, .ref 59), (5, .int (nI m)), (6, .int (nI y)), (7, .int c), (11, .int (nI (cntB (hasY m y) X))), (12, .int (nI (cntB (farY E m y c) X))), (13, .int (nI X))] [] σ := by
    intro f
    induction f with
    | zero =>
      intro X hX
      have : X = 2 ^ m := by omega
      subst this
      have h1 := cntB_le (hasY m y) (2 ^ m)
      refine w_X12_waiting_233 _ _ _ _ _ _ ⟨fun _ => ⟨fun q => ?_, hQ⟩, fun q => absurd ?_ q⟩
      · have h3 : nI (cntB (hasY m y) (2 ^ m)) = nI 0 := q
        rw [nI_inj (by omega) (by omega)] at h3
        omega
      · rw [sh_dec m hm]
        exact Int32.le_refl _
    | succ f ih =>
      intro X hX
      refine w_X12_waiting_233 _ _ _ _ _ _ ⟨fun q => ?_, fun _ => inner X (by omega) (ih (X + 1) (by omega)) m 0 (by omega)⟩
      rw [sh_dec m hm, nI_lei (by omega) (by omega)] at q
      omega
  exact outer (2 ^ m) 0 (by omega)
theorem S_waitM {Q : Option Value → St → Prop} {n nR h : Nat} {k a b w : Int32} {V : Nat → Int32} (hn : n ≤ 12) (s2 : rd σ 59 2 = nI n) (hR : nR ≤ 600) (r2 : rd σ 59 45 = nI nR) (hh : h < 36000) (hr : ∀ r, r < nR → ∃ t : Nat, t ≤ h ∧ 6 ≤ t % 24 ∧ rd σ 94 r = nI t) (hV : ∀ s, s < n → sumB (eP σ 92 93 94 (nI s) k a b) (rd σ 97) nR = V s) (h8 : ∀ s, s < n → rd σ 110 s = rd σ 8 s) (hdr : ∀ s, s < n → rd σ 8 s = -1 ∨ rd σ 8 s = 0 ∨ rd σ 8 s = 1) (fin : ∀ (x : Int32) (σ' : St), (∀ q c, q ≠ 111 → rd σ' q c = rd σ q c) → x = waitR (fD σ) (gD σ) V n w → Q (some (.int x)) σ') : J Γ l (d + 3) mX12_waiting Q 47 [(0, .ref 59), (1, .int k), (2, .int a), (3, .int b), (4, .int w), (5, .int 0), (6, .int 0), (7, .int 0), (8, .int 0), (10, .int 0)] [] σ := by
  have cn : ∀ i, cntB (fD σ) i ≤ i := cntB_le _
  have yn : ∀ i, yN (fD σ) (gD σ) i ≤ cntB (fD σ) i := yN_le gD_le
  have loop : ∀ f i σi, i + f = n → (∀ j, j < cntB (fD σ) i → j < 10 → rd σi 111 j = V (dF (fD σ) i j)) → (∀ q c, q ≠ 111 → rd σi q c = rd σ q c) → J Γ l (d + 3) mX12_waiting Q 47 [(0, .ref 59), (1, .int k), (2, .int a), (3, .int b), (4, .int w), (5, .int (nI (cntB (fD σ) i))), (6, .int (nI (yN (fD σ) (gD σ) i))), (7, .int (cS (fD σ) (gD σ) V i)), (8, .int (aS (fD σ) V i)), (10, .int (nI i))] [] σi := by
    intro f
    induction f with
    | zero =>
      intro i σi hi h1 h2
      have : i = n := by omega
      subst this
      have ci := cn i
      have yi := yn i
      refine w_X12_waiting_47 _ _ _ _ _ _ _ _ _ ⟨fun _ => ⟨fun q => fin _ _ h2 ?_, fun q => ⟨fun q1 => fin _ _ h2 ?_, fun q1 => ⟨fun q2 => ⟨fun q3 => ?_, fun q3 => ?_⟩, fun q2 => fin _ _ h2 ?_⟩⟩⟩, fun q => absurd (yle ((h2 59 2 (by omega)).trans s2) (Nat.le_refl _) (by omega)) q⟩
      · have q' : nI (yN (fD σ) (gD σ) i) = nI 0 := q
        rw [nI_inj (by omega) (by omega)] at q'
        unfold waitR
        rw [if_pos (Or.inl q')]
      · rw [nI_inj (by omega) (by omega)] at q1
        unfold waitR
        rw [if_pos (Or.inr q1)]
      all_goals
        have p1 : ¬ yN (fD σ) (gD σ) i = 0 := fun r => q (by rw [r]; rfl)
        have p2 : ¬ yN (fD σ) (gD σ) i = cntB (fD σ) i := fun r => q1 (by rw [r])
        have p3 : ¬ (yN (fD σ) (gD σ) i = 0 ∨ yN (fD σ) (gD σ) i = cntB (fD σ) i) := fun r => r.elim p1 p2
        rw [show (10 : Int32) = nI 10 from rfl, nI_lei (by omega) (by omega)] at q2
      · rw [nI_subn yi, nI_l (by omega), nI_l (by omega), lN_mul]
        have z1 : 0 < (cntB (fD σ) i - yN (fD σ) (gD σ) i) * yN (fD σ) (gD σ) i := Nat.mul_pos (by omega) (by omega)
        have z2 : (cntB (fD σ) i - yN (fD σ) (gD σ) i) * yN (fD σ) (gD σ) i ≤ 12 * 12 := Nat.mul_le_mul (by omega) (by omega)
        refine ⟨fun r => ?_, fin _ _ h2 ?_⟩
        · have r' : lN ((cntB (fD σ) i - yN (fD σ) (gD σ) i) * yN (fD σ) (gD σ) i) = lN 0 := r
          rw [lN_eq (by omega) (by omega)] at r'
          omega
        · unfold waitR
          rw [if_neg p3, if_neg (by omega), if_pos q3, Nat.mul_comm]
          rfl
      · refine S_wait233 (E := fun j => V (dF (fD σ) i j)) (by omega) (fun j hj => h1 j hj (by omega)) ?_ ?_
        · exact cntB_pos (P := hasY (cntB (fD σ) i) (yN (fD σ) (gD σ) i)) _ (mS_lt (f := fD σ) (D := gD σ) gD_le i) (by unfold hasY; rw [eS_1 gD_le]; simp)
        · refine fin _ _ h2 ?_
          unfold waitR
          rw [if_neg p3, if_neg (by omega), if_neg q3]
      · unfold waitR
        rw [if_neg p3, if_pos (by omega)]
    | succ f ih =>
      intro i σi hi h1 h2
      have ci := cn i
      have yi := yn i
      refine w_X12_waiting_47 _ _ _ _ _ _ _ _ _ ⟨fun q => absurd q (nle ((h2 59 2 (by omega)).trans s2) (by omega) (by omega)), fun _ => ⟨in_nI (by omega) (by omega), ?_⟩⟩
      rw [cl (n := i) (by omega), h2 110 i (by omega), h8 i (by omega)]
      by_cases hf : fD σ i = true
      · have c0 : ¬ rd σ 8 i = -1 := by
          unfold fD at hf
          simpa using hf
        have eg : rd σ 8 i = nI (gD σ i) := by
          unfold gD
          rcases hdr i (by omega) with r | r | r
          · exact absurd r c0
          · rw [r]
            rfl
          · rw [r]
            rfl
        have hg := gD_le (σ := σ) i
        have early : ∀ σj, (∀ q c, q ≠ 111 → rd σj q c = rd σ q c) → Meth Γ l (d + 2) mX12_earlyOf [.ref 59, .int (nI i), .int k, .int a, .int b] σj (KI (Kv (V i) σj)) := fun σj hj => by
          have h3 := S_earlyOf (Γ := Γ) (l := l) (d := d + 1) (σ := σj) hR ((hj 59 45 (by omega)).trans r2) hh (fun r hr' => by rw [hj 94 r (by omega)]; exact hr r hr') (nI i) k a b
          have ev : sumB (eP σj 92 93 94 (nI i) k a b) (rd σj 97) nR = V i := by
            rw [← hV i (by omega)]
            refine sumB_congr fun r _ => ⟨?_, hj 97 r (by omega)⟩
            unfold eP
            rw [hj 92 r (by omega), hj 93 r (by omega), hj 94 r (by omega)]
          rw [ev] at h3
          exact h3
        have at92 : ∀ σj, (∀ j, j < cntB (fD σ) (i + 1) → j < 10 → rd σj 111 j = V (dF (fD σ) (i + 1) j)) → (∀ q c, q ≠ 111 → rd σj q c = rd σ q c) → J Γ l (d + 3) mX12_waiting Q 92 [(0, .ref 59), (1, .int k), (2, .int a), (3, .int b), (4, .int w), (5, .int (nI (cntB (fD σ) i))), (6, .int (nI (yN (fD σ) (gD σ) i))), (7, .int (cS (fD σ) (gD σ) V i)), (8, .int (aS (fD σ) V i)), (10, .int (nI i))] [] σj := fun σj g1 g2 => by
          have nx := ih (i + 1) σj (by omega) g1 g2
          rw [cntB_t hf, yN_y hf, cS_y hf, aS_y hf] at nx
          refine w_X12_waiting_92 _ _ _ _ _ _ _ _ _ fun x1 e1 => ⟨in_nI (by omega) (by omega), fun x3 e3 => (early σj g2).mono ?_⟩
          rw [nI_s] at e1
          rw [cl (n := i) (by omega), g2 110 i (by omega), h8 i (by omega), eg, nI_addn] at e3
          subst e1 e3
          rintro v σ' ⟨x, rfl, rfl, rfl⟩
          rw [cl (n := i) (by omega)]
          refine ⟨_, rfl, ?_⟩
          dsimp only
          rw [g2 110 i (by omega), h8 i (by omega), eg]
          refine ⟨fun r y hy => ?_, fun r y hy => ?_⟩
          · rw [nI_s] at hy
            subst hy
            rw [if_pos ((nI_inj (b := 1) (by omega) (by omega)).mp r)] at nx
            exact nx
          · rw [nI_s] at hy
            subst hy
            rw [if_neg (fun q => r (by rw [q]; rfl))] at nx
            exact nx
        refine ⟨fun _ => ⟨fun q => at92 σi ?_ h2, fun q => (early σi h2).mono ?_⟩, fun q => absurd ?_ q⟩
        · rw [show (10 : Int32) = nI 10 from rfl, nI_lei (by omega) (by omega)] at q
          intro j hj hj2
          rw [dF_old hf (by omega)]
          exact h1 j (by omega) hj2
        · rintro v σ' ⟨x, rfl, rfl, rfl⟩
          refine ⟨_, rfl, in_nI (by omega) (by omega), at92 _ ?_ (fun q c a1 => by rw [rdn (by omega)]; exact h2 q c a1)⟩
          rw [cl (n := cntB (fD σ) i) (by omega)]
          intro j hj hj2
          rw [cntB_t hf] at hj
          by_cases cj : j = cntB (fD σ) i
          · subst cj
            rw [rdy, dF_new hf]
          · rw [rdn (by omega), dF_old hf cj]
            exact h1 j (by omega) hj2
        · rw [eg]
          exact (nI_lei (a := 0) (by omega) (by omega)).mpr (Nat.zero_le _)
      · have c0 : rd σ 8 i = -1 := by
          unfold fD at hf
          simpa using hf
        refine ⟨fun q => ?_, fun _ x hx => ?_⟩
        · rw [c0] at q
          exact absurd q (by decide)
        · rw [nI_s] at hx
          subst hx
          have nx := ih (i + 1) σi (by omega) (by rw [cntB_n hf, dF_no hf]; exact h1) h2
          rw [cntB_n hf, yN_n hf, cS_n hf, aS_n hf] at nx
          exact nx
  exact loop n 0 σ (by omega) (fun j hj => absurd hj (Nat.not_lt_zero _)) (fun _ _ _ => rfl)
theorem P_waiting (a b c e : Int32) (hI : Inv σ) : Meth Γ l (d + 3) mX11_waiting [.ref 0, .int a, .int b, .int c, .int e] σ (PI Γ l (d + 3) mX12_waiting [.ref 59, .int a, .int b, .int c, .int e]) := by
  have hI2 := hI
  obtain ⟨h, nS, nK, nB, h0⟩ := hI2
  obtain ⟨i1, i2, i3, i4, i5, i6, i7, i8, i9, i10, i11, -⟩ := id h0
  obtain ⟨zh, g1, g2⟩ := id i1
  obtain ⟨zS, s1, s2, s3, s4, s5, s6⟩ := id i2
  obtain ⟨zK, k1, k2, k3⟩ := id i3
  obtain ⟨nR, r0, r1, r2, r3, r4⟩ := id i11
  have bad : ¬ ((0 ≤ a ∧ a < nI nK) ∧ ((0 : Int32) ≤ b ∧ b ≤ c ∧ c < 1500) ∧ (0 : Int32) ≤ e ∧ e ≤ 1) → bad1 σ Γ l (d + 3) mX12_waiting [.ref 59, .int a, .int b, .int c, .int e] (-2000000000) := fun hn => M_X12_waiting _ _ _ _ (w_X12_waiting_0 _ _ _ _ ⟨fun ha => ⟨fun hb => ⟨fun hc => absurd ⟨(cM (by omega) k2).mp ha, daysAB.mp hb, hc⟩ hn, fun _ => KI.mk ⟨rfl, hI⟩⟩, fun _ => KI.mk ⟨rfl, hI⟩⟩, fun _ => KI.mk ⟨rfl, hI⟩⟩)
  refine M_X11_waiting _ _ _ _ (w_X11_waiting_0 _ _ _ _ ⟨fun ha => ⟨fun hb => ⟨fun hc => ?_, fun q => PI.mk (bad fun r => q r.2.2)⟩, fun q => PI.mk (bad fun r => q r.2.1)⟩, fun q => PI.mk (bad fun r => q ((cX k1).mpr r.1))⟩)
  have hdr : ∀ s, s < nS → rd σ 8 s = -1 ∨ rd σ 8 s = 0 ∨ rd σ 8 s = 1 := fun s hs => (s5 s hs).2
  have c0 := cnt_0 nS hdr
  have c1 := cnt_1 (σ := σ) nS
  have cn := cntB_le (fD σ) nS
  generalize hV : (fun s => sumB (eP σ 35 36 37 (nI s) a b c) (rd σ 40) nR) = V
  have VW : ∀ s, sumB (eP σ 35 36 37 (nI s) a b c) (rd σ 40) nR = V s := fun s => by rw [← hV]
  have mm : ∀ σ2 X, (∀ q c, q ≠ 58 → rd σ2 q c = rd σ q c) → X = waitR (fD σ) (gD σ) V nS e → PI Γ l (d + 3) mX12_waiting [.ref 59, .int a, .int b, .int c, .int e] (some (.int X)) σ2 := by
    intro σ2 X A hX
    refine PI.mk (M_X12_waiting _ _ _ _ (w_X12_waiting_0 _ _ _ _ ?_))
    rw [A 59 6 (by omega)]
    refine ⟨fun _ => ⟨fun _ => ⟨fun _ => ?_, fun q => absurd hc q⟩, fun q => absurd (daysAB.mpr hb) q⟩, fun q => absurd ((cM (n := nK) (by omega) k2).mpr ((cX k1).mp ha)) q⟩
    have e1 : fD σ2 = fD σ := funext fun s => by
      unfold fD
      rw [A 8 s (by omega)]
    have e2 : gD σ2 = gD σ := funext fun s => by
      unfold gD
      rw [A 8 s (by omega)]
    refine S_waitM (Γ := Γ) (l := l) (d := d) (σ := σ2) (n := nS) (nR := nR) (h := h) (k := a) (a := b) (b := c) (w := e) (V := V) zS ((A 59 2 (by omega)).trans s2) r0 ((A 59 45 (by omega)).trans r2) zh (fun r hr => by rw [A 94 r (by omega)]; exact rows_hr r3 r hr) (fun s _ => by
      rw [← VW s, ← early_same r3]
      refine sumB_congr fun r _ => ⟨?_, A 97 r (by omega)⟩
      unfold eP
      rw [A 92 r (by omega), A 93 r (by omega), A 94 r (by omega)]) (fun s hs => by
      rw [A 110 s (by omega), A 8 s (by omega)]
      exact (s5 s hs).1) (fun s hs => by
      rw [A 8 s (by omega)]
      exact hdr s hs) (Q := KI fun y σ2 => y = X ∧ Inv σ2) (fun x σ3 h3 hx => ?_)
    refine KI.mk ⟨by rw [hx, hX, e1, e2], h, nS, nK, nB, h0.of fun q c hq => ?_⟩
    have hz : q ≠ 111 ∧ q ≠ 58 := by
      simp only [sAll, sHour, sShops, sKinds, sDays, sStep, sBatch, sSpoil, sKit, sTape, sLaws, sRows, sCuts, sBox, sCost] at hq
      omega
    rw [h3 q c hz.1, A q c hz.2]
  refine (S_howMany zS s1 1).mono ?_
  rintro v σ' ⟨x, rfl, rfl, rfl⟩
  refine ⟨_, rfl, (S_howMany zS s1 0).mono ?_⟩
  rintro v σ' ⟨x, rfl, rfl, rfl⟩
  rw [c1]
  have yl : yN (fD σ) (gD σ) nS ≤ cntB (fD σ) nS := by omega
  generalize hz : cntB (fun s => decide (rd σ 8 s = 0)) nS = z at c0
  have z1 : nI (yN (fD σ) (gD σ) nS) = 0 ↔ yN (fD σ) (gD σ) nS = 0 := nI_inj (b := 0) (by omega) (by omega)
  have z2 : nI z = 0 ↔ z = 0 := nI_inj (b := 0) (by omega) (by omega)
  have z3 : nI (yN (fD σ) (gD σ) nS) + nI z ≤ 10 ↔ cntB (fD σ) nS ≤ 10 := by
    rw [nI_addn, show (10 : Int32) = nI 10 from rfl, nI_lei (by omega) (by omega)]
    omega
  refine ⟨_, rfl, ?_⟩
  dsimp only
  rw [z1, z2, z3, nI_addn, show yN (fD σ) (gD σ) nS + z = cntB (fD σ) nS by omega]
  refine ⟨fun q => mm _ _ (fun _ _ _ => rfl) ?_, fun q1 => ⟨fun q => mm _ _ (fun _ _ _ => rfl) ?_, fun q2 => ⟨fun q3 => ?_, fun q => mm _ _ (fun _ _ _ => rfl) ?_⟩⟩⟩
  · unfold waitR
    rw [if_pos (Or.inl q)]
  · unfold waitR
    rw [if_pos (Or.inr (by omega))]
  · refine (S_sumDrawn (d := d) zS s1 r0 r1 hdr q3).mono ?_
    rintro v σ5 ⟨x, rfl, rfl, h58, h5⟩
    have em := eS_mS (f := fD σ) (D := gD σ) (V := V) gD_le (E := fun j => V (dF (fD σ) nS j)) nS fun _ _ => rfl
    have hE : ∀ j, j < cntB (fD σ) nS → rd σ5 58 j = V (dF (fD σ) nS j) := fun j hj => (h58 j hj).trans (VW _)
    have pn : ¬ (yN (fD σ) (gD σ) nS = 0 ∨ yN (fD σ) (gD σ) nS = cntB (fD σ) nS) := by omega
    refine ⟨_, rfl, fun q => ?_, fun q => ?_⟩
    · refine (S_gapOf (d := d + 1) (E := fun j => V (dF (fD σ) nS j)) (m := cntB (fD σ) nS) (by omega) (mS_lt gD_le nS) (by omega) (by omega) (by omega) hE).mono ?_
      rintro v σ6 ⟨x, rfl, rfl, rfl⟩
      refine ⟨_, rfl, mm _ _ h5 ?_⟩
      unfold waitR
      rw [if_neg pn, if_neg (by omega), if_pos q, em.1, em.2, show cntB (fD σ) nS - yN (fD σ) (gD σ) nS = z by omega]
    · refine (S_doubtOf (d := d + 1) (E := fun j => V (dF (fD σ) nS j)) (m := cntB (fD σ) nS) (by omega) (mS_lt gD_le nS) (by omega) (eS_1 gD_le nS) hE).mono ?_
      rintro v σ6 ⟨x, rfl, rfl, rfl⟩
      refine ⟨_, rfl, mm _ _ h5 ?_⟩
      unfold waitR
      rw [if_neg pn, if_neg (by omega), if_neg q, em.1]
  · unfold waitR
    rw [if_neg (by omega), if_pos (by omega)]
end WM

/-! WAITING: the calls -/
def fD (σ : St) (s : Nat) : Bool := decide (rd σ 8 s ≠ -1)
def gD (σ : St) (s : Nat) : Nat := if rd σ 8 s = 1 then 1 else 0
theorem gD_le {σ : St} : ∀ s, gD σ s ≤ 1 := fun s => by
  unfold gD
  split <;> omega
def gapE (y z : Nat) (c a : Int32) : Int32 := (((100 : Int64) * ((a - c).toInt64 * lN y - c.toInt64 * lN z)) / lN (y * z)).toInt32
def douE (w g : Nat) : Int32 := (10000 * nI g + nI w - 1) / nI w
def hasY (m y X : Nat) : Bool := decide (eS (fun _ => 1) X m = nI y)
def farY (E : Nat → Int32) (m y : Nat) (c : Int32) (X : Nat) : Bool := decide (eS (fun _ => 1) X m = nI y) && decide (eS E X m ≤ c)
theorem farY_congr {E E' : Nat → Int32} {m y : Nat} {c : Int32} (h : ∀ i, i < m → E i = E' i) : farY E m y c = farY E' m y c := funext fun X => by
  unfold farY
  rw [eS_congr (E := E) (E' := E') m fun i hi => ⟨h i hi, rfl⟩]
theorem cntB_pos {P : Nat → Bool} {i : Nat} : ∀ n, i < n → P i = true → 0 < cntB P n
  | 0, h, _ => absurd h (by omega)
  | n + 1, h, hp => by
    rcases Nat.lt_or_ge i n with c | c
    · have := cntB_pos n c hp
      show 0 < (if P n then _ else _)
      split <;> omega
    · have : i = n := by omega
      subst this
      rw [cntB_t hp]
      omega
theorem cntB_mono {P Q : Nat → Bool} (h : ∀ i, P i = true → Q i = true) : ∀ n, cntB P n ≤ cntB Q n
  | 0 => Nat.le_refl _
  | n + 1 => by
    have ih := cntB_mono h n
    by_cases c : P n = true
    · rw [cntB_t c, cntB_t (h n c)]
      omega
    · rw [cntB_n c]
      show _ ≤ (if Q n then _ else _)
      split <;> omega
section WX
variable {Γ : GG} {l : Launch} {d : Nat} {σ : St}
theorem S_earlyM {X : Nat} (hX : X < 1024) : Meth Γ l d mX11_earlyOf [.ref 0, .int (nI X)] σ (KI (Kv (eS (rd σ 58) X 10) σ)) := by
  have loop : ∀ f i, i + f = 10 → J Γ l d mX11_earlyOf (KI (Kv (eS (rd σ 58) X 10) σ)) 4 [(0, .ref 0), (1, .int (nI X)), (2, .int (eS (rd σ 58) X i)), (3, .int (nI i))] [] σ := by
    intro f
    induction f with
    | zero =>
      intro i hi
      have : i = 10 := by omega
      subst this
      exact w_X11_earlyOf_4 _ _ _ ⟨fun _ => ⟨_, rfl, rfl, rfl⟩, fun q => absurd (by decide) q⟩
    | succ f ih =>
      intro i hi
      have st : eS (rd σ 58) X (i + 1) = eS (rd σ 58) X i + if bt X i = 1 then rd σ 58 i else 0 := rfl
      have nx := ih (i + 1) (by omega)
      rw [st] at nx
      refine w_X11_earlyOf_4 _ _ _ ⟨fun q => absurd ((nI_lei (a := 10) (by omega) (by omega)).mp q) (by omega), fun _ => ?_⟩
      rw [bt_dec i (by omega) X hX, cl (n := i) (by omega)]
      rcases bt_2 X i with c | c
      · rw [c] at nx ⊢
        refine ⟨fun q => absurd q (by decide), fun _ x hx => ?_⟩
        rw [nI_s] at hx
        rw [if_neg (by omega), Int32.add_zero] at nx
        subst hx
        exact nx
      · rw [c] at nx ⊢
        refine ⟨fun _ => ⟨in_nI (by omega) (by omega), fun x hx y hy => ?_⟩, fun q => absurd rfl q⟩
        rw [nI_s] at hy
        rw [if_pos rfl] at nx
        subst hx hy
        exact nx
  exact M_X11_earlyOf _ (w_X11_earlyOf_0 _ (loop 10 0 (by omega)))
theorem S_bitCount {X : Nat} (hX : X < 1024) : Meth Γ l d mJ6_bitCount_0f7a4 [.int (nI X)] σ (KI (Kv (eS (fun _ => 1) X 10) σ)) := by
  refine M_J6_bitCount_0f7a4 _ (w_J6_bitCount_0f7a4_0 _ fun x1 e1 x2 e2 x3 e3 x4 e4 x5 e5 => ⟨_, rfl, rfl, ?_⟩)
  rw [← bc_dec X hX]
  subst e5 e4 e3 e2 e1
  rfl
theorem S_howMany {n : Nat} (hn : n ≤ 12) (e : rd σ 5 1 = nI n) (is : Int32) : Meth Γ l d mX9_howManyDrawn [.ref 4, .int is] σ (KI (Kv (nI (cntB (fun s => decide (rd σ 8 s = is)) n)) σ)) := by
  generalize hP : (fun s => decide (rd σ 8 s = is)) = P
  have PW : ∀ s, P s = decide (rd σ 8 s = is) := fun s => by rw [← hP]
  have loop : ∀ f i, i + f = n → J Γ l d mX9_howManyDrawn (KI (Kv (nI (cntB P n)) σ)) 4 [(0, .ref 4), (1, .int is), (2, .int (nI (cntB P i))), (3, .int (nI i))] [] σ := by
    intro f
    induction f with
    | zero =>
      intro i hi
      have : i = n := by omega
      subst this
      exact w_X9_howManyDrawn_4 _ _ _ ⟨fun _ => ⟨_, rfl, rfl, rfl⟩, fun q => absurd (yle e (Nat.le_refl _) (by omega)) q⟩
    | succ f ih =>
      intro i hi
      have nx := ih (i + 1) (by omega)
      refine w_X9_howManyDrawn_4 _ _ _ ⟨fun q => absurd q (nle e (by omega) (by omega)), fun _ => ⟨in_nI (by omega) (by omega), ?_⟩⟩
      rw [cl (n := i) (by omega)]
      refine ⟨fun q x hx y hy => ?_, fun q y hy => ?_⟩
      · rw [cntB_t (by rw [PW]; simp [q])] at nx
        rw [nI_s] at hx hy
        subst hx hy
        exact nx
      · rw [cntB_f (by rw [PW]; simp [q])] at nx
        rw [nI_s] at hy
        subst hy
        exact nx
  exact M_X9_howManyDrawn _ (w_X9_howManyDrawn_0 _ (loop n 0 (by omega)))
theorem S_sumDrawn {n nR : Nat} {k a b : Int32} (hn : n ≤ 12) (e : rd σ 5 1 = nI n) (hR : nR ≤ 600) (eR : rd σ 34 7 = nI nR) (hdr : ∀ s, s < n → rd σ 8 s = -1 ∨ rd σ 8 s = 0 ∨ rd σ 8 s = 1) (hc : cntB (fD σ) n ≤ 10) : Meth Γ l (d + 2) mX11_sumDrawn [.ref 0, .int k, .int a, .int b] σ (KI fun x σ' => x = nI (mS (fD σ) (gD σ) n) ∧ (∀ j, j < cntB (fD σ) n → rd σ' 58 j = sumB (eP σ 35 36 37 (nI (dF (fD σ) n j)) k a b) (rd σ 40) nR) ∧ ∀ q c, q ≠ 58 → rd σ' q c = rd σ q c) := by
  generalize hV : (fun s => sumB (eP σ 35 36 37 (nI s) k a b) (rd σ 40) nR) = V
  have VW : ∀ s, sumB (eP σ 35 36 37 (nI s) k a b) (rd σ 40) nR = V s := fun s => by rw [← hV]
  simp only [VW]
  have cm : ∀ i, i ≤ n → cntB (fD σ) i ≤ 10 := fun i hi => by
    have h1 : ∀ k, cntB (fD σ) i ≤ cntB (fD σ) (i + k) := fun k => by
      induction k with
      | zero => exact Nat.le_refl _
      | succ k ih =>
        have : cntB (fD σ) (i + k) ≤ cntB (fD σ) (i + k + 1) := by
          show _ ≤ (if fD σ (i + k) then _ else _)
          split <;> omega
        rw [← Nat.add_assoc]
        omega
    have h2 := h1 (n - i)
    rw [show i + (n - i) = n by omega] at h2
    omega
  have cm2 : ∀ i, i ≤ n → cntB (fD σ) i = 10 → cntB (fD σ) n = cntB (fD σ) i := fun i hi hq => by
    have h1 : ∀ k, cntB (fD σ) i ≤ cntB (fD σ) (i + k) := fun k => by
      induction k with
      | zero => exact Nat.le_refl _
      | succ k ih =>
        have : cntB (fD σ) (i + k) ≤ cntB (fD σ) (i + k + 1) := by
          show _ ≤ (if fD σ (i + k) then _ else _)
          split <;> omega
        rw [← Nat.add_assoc]
        omega
    have h2 := h1 (n - i)
    rw [show i + (n - i) = n by omega] at h2
    omega
  have loop : ∀ f i σi, i + f = n → (∀ j, j < cntB (fD σ) i → rd σi 58 j = V (dF (fD σ) i j)) → (∀ q c, q ≠ 58 → rd σi q c = rd σ q c) → J Γ l (d + 2) mX11_sumDrawn (KI fun x σ' => x = nI (mS (fD σ) (gD σ) n) ∧ (∀ j, j < cntB (fD σ) n → rd σ' 58 j = V (dF (fD σ) n j)) ∧ ∀ q c, q ≠ 58 → rd σ' q c = rd σ q c) 9 [(0, .ref 0), (1, .int k), (2, .int a), (3, .int b), (4, .int (nI (mS (fD σ) (gD σ) i))), (5, .int (nI (cntB (fD σ) i))), (6, .int (nI i))] [] σi := by
    intro f
    induction f with
    | zero =>
      intro i σi hi h1 h2
      have : i = n := by omega
      subst this
      exact w_X11_sumDrawn_9 _ _ _ _ _ _ ⟨fun _ => ⟨_, rfl, rfl, h1, h2⟩, fun q => absurd (yle ((h2 5 1 (by omega)).trans e) (Nat.le_refl _) (by omega)) q⟩
    | succ f ih =>
      intro i σi hi h1 h2
      have ci := cm i (by omega)
      refine w_X11_sumDrawn_9 _ _ _ _ _ _ ⟨fun q => absurd q (nle ((h2 5 1 (by omega)).trans e) (by omega) (by omega)), fun _ => ⟨fun q => ?_, fun q => ⟨in_nI (by omega) (by omega), ?_⟩⟩⟩
      · have q2 : 10 ≤ cntB (fD σ) i := (nI_lei (a := 10) (by omega) (by omega)).mp q
        have h3 := cm2 i (by omega) (by omega)
        obtain ⟨d1, d2⟩ := dr_stop (f := fD σ) (D := gD σ) (s := i) (n - i) (by rw [show i + (n - i) = n by omega]; exact h3)
        rw [show i + (n - i) = n by omega] at d1 d2
        exact ⟨_, rfl, by rw [d1], by rw [d2, h3]; exact h1, h2⟩
      · have q2 : ¬ 10 ≤ cntB (fD σ) i := fun r => q ((nI_lei (a := 10) (by omega) (by omega)).mpr r)
        rw [cl (n := i) (by omega), h2 8 i (by omega)]
        refine ⟨fun c0 x hx => ?_, fun c0 => ?_⟩
        · have hf : ¬ fD σ i = true := by
            unfold fD
            simp [c0]
          rw [nI_s] at hx
          subst hx
          have nx := ih (i + 1) σi (by omega) (by rw [cntB_n hf, dF_no hf]; exact h1) h2
          rw [cntB_n hf, mS_n hf] at nx
          exact nx
        · have hf : fD σ i = true := by
            unfold fD
            simp [c0]
          refine (S_askedEarly (d := d) hR ((h2 34 7 (by omega)).trans eR) (nI i) k a b).mono ?_
          rintro v σ' ⟨x, rfl, rfl, rfl⟩
          refine ⟨_, rfl, in_nI (by omega) (by omega), fun y hy z hz w hw => ?_⟩
          have ev : sumB (eP σi 35 36 37 (nI i) k a b) (rd σi 40) nR = V i := by
            rw [← VW i]
            refine sumB_congr fun r _ => ⟨?_, h2 40 r (by omega)⟩
            unfold eP
            rw [h2 35 r (by omega), h2 36 r (by omega), h2 37 r (by omega)]
          rw [h2 8 i (by omega)] at hy
          have eg : rd σ 8 i = nI (gD σ i) := by
            unfold gD
            rcases hdr i (by omega) with r | r | r
            · exact absurd r c0
            · rw [r]
              rfl
            · rw [r]
              rfl
          have hg := gD_le (σ := σ) i
          rw [eg, or_dec _ (by omega) _ (mS_lt gD_le i) _ (by omega), ← mS_y hf] at hy
          rw [nI_s, ← cntB_t hf] at hz
          rw [nI_s] at hw
          subst hy hz hw
          rw [ev, cl (n := cntB (fD σ) i) (by omega)]
          refine ih (i + 1) _ (by omega) (fun j hj => ?_) (fun q c a1 => by rw [rdn (by omega)]; exact h2 q c a1)
          rw [cntB_t hf] at hj
          by_cases cj : j = cntB (fD σ) i
          · subst cj
            rw [rdy, dF_new hf]
          · rw [rdn (by omega), dF_old hf cj]
            exact h1 j (by omega)
  exact M_X11_sumDrawn _ _ _ (w_X11_sumDrawn_0 _ _ _ (loop n 0 σ (by omega) (fun j hj => absurd hj (Nat.not_lt_zero _)) (fun _ _ _ => rfl)))
theorem S_gapOf {X m y z : Nat} {E : Nat → Int32} (hm : m < 11) (hX : X < 2 ^ m) (hy : 0 < y) (hz : 0 < z) (hyz : y + z = m) (hE : ∀ j, j < m → rd σ 58 j = E j) : Meth Γ l (d + 1) mX11_gapOf [.ref 0, .int (nI X), .int (nI y), .int (nI z)] σ (KI (Kv (gapE y z (eS E X m) (tS E m)) σ)) := by
  have p1 := p2_lt hm
  have yz : y * z ≤ 11 * 11 := Nat.mul_le_mul (by omega) (by omega)
  have yz0 : 0 < y * z := Nat.mul_pos hy hz
  refine M_X11_gapOf _ _ _ (w_X11_gapOf_0 _ _ _ ?_)
  rw [nI_muln, nI_addn, hyz, com_dec m hm X hX, nI_l (n := y * z) (by omega), nI_l (n := y) (by omega), nI_l (n := z) (by omega)]
  have s10 : ∀ Y, Y < 2 ^ m → eS (rd σ 58) Y 10 = eS E Y m := fun Y hY => by
    have := eS_hi (E := rd σ 58) hY (10 - m)
    rw [show m + (10 - m) = 10 by omega] at this
    rw [this]
    exact eS_congr m fun i hi => ⟨hE i hi, rfl⟩
  refine ⟨fun _ => (S_earlyM (X := X) (by omega)).mono ?_, fun q => absurd ((nI_lti (a := 0) (by omega) (by omega)).mpr yz0) q⟩
  rintro v σ' ⟨x, rfl, rfl, rfl⟩
  refine ⟨_, rfl, (S_earlyM (X := 2 ^ m - 1 - X) (by omega)).mono ?_⟩
  rintro v σ' ⟨x, rfl, rfl, rfl⟩
  refine ⟨_, rfl, fun q => ?_, _, rfl, rfl, ?_⟩
  · have h1 : lN (y * z) = lN 0 := q
    rw [lN_eq (by omega) (by omega)] at h1
    omega
  · rw [s10 X hX, s10 (2 ^ m - 1 - X) (by omega)]
    have h1 := eS_co (E := E) hm hX m (Nat.le_refl _)
    have h2 : eS E (2 ^ m - 1 - X) m = tS E m - eS E X m := by
      rw [← h1]
      grind
    unfold gapE
    rw [h2]
theorem S_doubtOf {X m y : Nat} {E : Nat → Int32} (hm : m < 11) (hX : X < 2 ^ m) (hy : y < 2147483648) (hp : eS (fun _ => 1) X m = nI y) (hE : ∀ j, j < m → rd σ 58 j = E j) : Meth Γ l (d + 1) mX11_doubtOf [.ref 0, .int (nI X), .int (nI y), .int (nI m)] σ (KI (Kv (douE (cntB (hasY m y) (2 ^ m)) (cntB (farY E m y (eS E X m)) (2 ^ m))) σ)) := by
  have p1 := p2_lt hm
  have s10 : ∀ (F G : Nat → Int32) Y, Y < 2 ^ m → (∀ j, j < m → F j = G j) → eS F Y 10 = eS G Y m := fun F G Y hY hF => by
    have := eS_hi (E := F) hY (10 - m)
    rw [show m + (10 - m) = 10 by omega] at this
    rw [this]
    exact eS_congr m fun i hi => ⟨hF i hi, rfl⟩
  have loop : ∀ f i, i + f = 2 ^ m → J Γ l (d + 1) mX11_doubtOf (KI (Kv (douE (cntB (hasY m y) (2 ^ m)) (cntB (farY E m y (eS E X m)) (2 ^ m))) σ)) 16 [(0, .ref 0), (2, .int (nI y)), (3, .int (nI m)), (4, .int (eS E X m)), (5, .int (nI (cntB (hasY m y) i))), (6, .int (nI (cntB (farY E m y (eS E X m)) i))), (7, .int (nI i))] [] σ := by
    intro f
    induction f with
    | zero =>
      intro i hi
      have : i = 2 ^ m := by omega
      subst this
      have h1 := cntB_le (hasY m y) (2 ^ m)
      have h2 := cntB_pos (P := hasY m y) (2 ^ m) hX (by unfold hasY; simp [hp])
      refine w_X11_doubtOf_16 _ _ _ _ _ _ ⟨fun _ => ⟨fun q => ?_, fun _ => ⟨fun q => ?_, _, rfl, rfl, ?_⟩⟩, fun q => ?_⟩
      · have h3 : nI (cntB (hasY m y) (2 ^ m)) = nI 0 := q
        rw [nI_inj (by omega) (by omega)] at h3
        omega
      · have h3 : nI (cntB (hasY m y) (2 ^ m)) = nI 0 := q
        rw [nI_inj (by omega) (by omega)] at h3
        omega
      · rfl
      · rw [sh_dec m hm, nI_lei (by omega) (by omega)] at q
        omega
    | succ f ih =>
      intro i hi
      have nx := ih (i + 1) (by omega)
      refine w_X11_doubtOf_16 _ _ _ _ _ _ ⟨fun q => ?_, fun _ => (S_bitCount (X := i) (by omega)).mono ?_⟩
      · rw [sh_dec m hm, nI_lei (by omega) (by omega)] at q
        omega
      rintro v σ' ⟨x, rfl, rfl, rfl⟩
      rw [s10 _ (fun _ => 1) i (by omega) (fun _ _ => rfl)]
      refine ⟨_, rfl, fun q w hw => (S_earlyM (X := i) (by omega)).mono ?_, fun q x hx => ?_⟩
      · rintro v σ' ⟨x, rfl, rfl, rfl⟩
        rw [s10 _ E i (by omega) hE]
        rw [nI_s, ← cntB_t (P := hasY m y) (by unfold hasY; simp [q])] at hw
        subst hw
        refine ⟨_, rfl, fun r x hx => ?_, fun r z hz x hx => ?_⟩
        · rw [nI_s] at hx
          subst hx
          rw [cntB_f (P := farY E m y (eS E X m)) (by unfold farY; simp [q, Int32.not_le.mpr r])] at nx
          exact nx
        · rw [nI_s] at hx hz
          subst hx hz
          rw [cntB_t (P := farY E m y (eS E X m)) (by unfold farY; simp [q, Int32.not_lt.mp r])] at nx
          exact nx
      · rw [nI_s] at hx
        subst hx
        rw [cntB_f (P := farY E m y (eS E X m)) (by unfold farY; simp [q]), cntB_f (P := hasY m y) (by unfold hasY; simp [q])] at nx
        exact nx
  refine M_X11_doubtOf _ _ _ (w_X11_doubtOf_0 _ _ _ ((S_earlyM (X := X) (by omega)).mono ?_))
  rintro v σ' ⟨x, rfl, rfl, rfl⟩
  rw [s10 _ E X hX hE]
  exact ⟨_, rfl, loop (2 ^ m) 0 (by omega)⟩
end WX

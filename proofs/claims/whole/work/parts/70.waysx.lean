/-! CRATES: the class' side -/
theorem pf_lI {a : Nat} (h : a < 2 ^ 63) : (lN a).toInt = (a : Int) := lg_ofNat_toInt h
theorem pf_shr {a d : Nat} {D : Int64} (hD : (D.toBitVec.smod 64).toNat = d) (h : a < 2 ^ 62) : lN a >>> D = lN (a / 2 ^ d) := by
  have hd : a / 2 ^ d ≤ a := Nat.div_le_self _ _
  apply Int64.toInt_inj.mp
  have e : (lN a >>> D).toInt = (lN a).toInt >>> d := by
    rw [← hD]
    exact BitVec.toInt_sshiftRight ..
  rw [e, Int.shiftRight_eq_div_pow, pf_lI (by omega), pf_lI (by omega)]
  rfl
theorem pw_dec : ∀ i, i < 6 → ((((4 : Int32) * (5 - nI i)).toInt64 &&& 63).toBitVec.smod 64).toNat = 4 * (5 - i) ∧ 2 ^ (4 * (5 - i)) = pw i ∧ (15 : Int64) <<< (((4 : Int32) * (5 - nI i)).toInt64 &&& 63) = lN (15 * pw i) := by decide +kernel
theorem slp_dec : ∀ i, i < 6 → ∀ s, s < 16 → (nI s).toInt64 <<< (((4 : Int32) * (5 - nI i)).toInt64 &&& 63) = lN (s * pw i) := by decide +kernel
set_option maxRecDepth 100000 in
theorem sl24_dec : ∀ m, m < 400 → (nI m).toInt64 <<< ((24 : Int32).toInt64 &&& 63) = lN (m * 16777216) := by decide +kernel
theorem sr24 {K : Nat} (h : K < 2 ^ 62) : lN K >>> ((24 : Int32).toInt64 &&& 63) = lN (K / 16777216) := pf_shr (d := 24) (by decide +kernel) h
theorem and_m {y m : Nat} {M : Int32} {k : Nat} (hM : M.toBitVec.toNat = 2 ^ k - 1) (hk : 2 ^ k = m) (hd : m ∣ 4294967296) : nI y &&& M = nI (y % m) := by
  rw [pk_and _ k hM, hk]
  congr 1
  have : (nI y).toBitVec.toNat = y % 4294967296 := by
    show (BitVec.ofNat 32 y).toNat = _
    rw [BitVec.toNat_ofNat]
  rw [this, Nat.mod_mod_of_dvd _ hd]
theorem mnL_n {a b : Nat} (ha : a < 2 ^ 63) (hb : b < 2 ^ 63) : mnL (lN a) (lN b) = lN (min a b) := by
  unfold mnL
  by_cases c : b < a
  · rw [if_pos ((pk_lLT hb ha).mpr c), Nat.min_eq_right (by omega)]
  · rw [if_neg (fun q => c ((pk_lLT hb ha).mp q)), Nat.min_eq_left (by omega)]
/-- whom the crates are for: shop by shop -/
def gG (nd : Nat → Nat) : Nat → Nat → Nat
  | 0, _ => 0
  | s + 1, j => if sU nd s ≤ j ∧ j < sU nd (s + 1) then s else gG nd s j
theorem gG_lt {nd : Nat → Nat} : ∀ s j, j < sU nd s → gG nd s j < s
  | 0, j, h => absurd h (by show ¬ j < 0; omega)
  | s + 1, j, h => by
    unfold gG
    split
    · omega
    · rename_i hn
      have := gG_lt (nd := nd) s j (by omega)
      omega
theorem gG_up {nd : Nat → Nat} {a : Nat} : ∀ f, (∀ s, a ≤ s → nd s = 0) → sU nd (a + f) = sU nd a ∧ ∀ j, j < sU nd a → gG nd (a + f) j = gG nd a j
  | 0, _ => ⟨rfl, fun _ _ => rfl⟩
  | f + 1, h => by
    obtain ⟨h1, h2⟩ := gG_up f h
    have e : sU nd (a + f + 1) = sU nd (a + f) + nd (a + f) := rfl
    rw [h (a + f) (by omega), Nat.add_zero] at e
    refine ⟨e.trans h1, fun j hj => ?_⟩
    show (if sU nd (a + f) ≤ j ∧ j < sU nd (a + f + 1) then a + f else gG nd (a + f) j) = _
    rw [if_neg (by omega)]
    exact h2 j hj
theorem inn_0 {B : Nat → Nat} {g : Nat → Nat} {ml : Nat → Nat → Nat} {s : Nat} : ∀ k, inn B g ml 0 s k = B 0
  | 0 => rfl
  | k + 1 => by
    have b0 : bt 0 k = 0 := by
      unfold bt
      rw [Nat.zero_div]
    unfold inn
    rw [if_neg (by omega)]
    exact inn_0 k
section CX
variable {Γ : GG} {l : Launch} {d : Nat} {σ : St}
theorem S_allNeed {nd : Nat → Nat} (h : ∀ s, s < 12 → rd σ 51 s = nI (nd s) ∧ nd s ≤ 3) : Meth Γ l d mX1_allNeed [.ref 49] σ (KI (Kv (nI (sU nd 12)) σ)) := by
  have loop : ∀ f s, s + f = 12 → J Γ l d mX1_allNeed (KI (Kv (nI (sU nd 12)) σ)) 4 [(0, .ref 49), (1, .int (nI (sU nd s))), (2, .int (nI s))] [] σ := by
    intro f
    induction f with
    | zero =>
      intro s hs
      have : s = 12 := by omega
      subst this
      exact w_X1_allNeed_4 _ _ ⟨fun _ => ⟨_, rfl, rfl, rfl⟩, fun q => absurd (by decide) q⟩
    | succ f ih =>
      intro s hs
      refine w_X1_allNeed_4 _ _ ⟨fun q => absurd ((nI_lei (a := 12) (by omega) (by omega)).mp q) (by omega), fun _ => ⟨in_nI (by omega) (by omega), fun x hx y hy => ?_⟩⟩
      rw [cl (n := s) (by omega), (h s (by omega)).1, nI_addn] at hx
      rw [nI_s] at hy
      subst hx hy
      exact ih (s + 1) (by omega)
  exact M_X1_allNeed (w_X1_allNeed_0 (loop 12 0 (by omega)))
theorem S_listGoals {nd : Nat → Nat} (h : ∀ s, s < 12 → rd σ 51 s = nI (nd s) ∧ nd s ≤ 3) (h6 : sU nd 12 ≤ 6) : Meth Γ l d mX1_listGoals [.ref 49] σ (KV fun σ' => rd σ' 49 5 = nI (sU nd 12) ∧ (∀ j, j < sU nd 12 → rd σ' 52 j = nI (gG nd 12 j)) ∧ (∀ q c, q ≠ 52 → ¬ (q = 49 ∧ c = 5) → rd σ' q c = rd σ q c) ∧ ∀ q c, rl σ' q c = rl σ q c) := by
  generalize hK : (fun σ' : St => rd σ' 49 5 = nI (sU nd 12) ∧ (∀ j, j < sU nd 12 → rd σ' 52 j = nI (gG nd 12 j)) ∧ (∀ q c, q ≠ 52 → ¬ (q = 49 ∧ c = 5) → rd σ' q c = rd σ q c) ∧ ∀ q c, rl σ' q c = rl σ q c) = KK
  have mono : ∀ s, s ≤ 12 → sU nd s ≤ 6 := fun s hs => by
    have := sU_mono (f := nd) (a := s) (12 - s)
    rw [show s + (12 - s) = 12 by omega] at this
    omega
  have outer : ∀ f s σi, s + f = 12 → rd σi 49 5 = nI (sU nd s) → (∀ j, j < sU nd s → rd σi 52 j = nI (gG nd s j)) → (∀ q c, q ≠ 52 → ¬ (q = 49 ∧ c = 5) → rd σi q c = rd σ q c) → (∀ q c, rl σi q c = rl σ q c) → J Γ l d mX1_listGoals (KV KK) 7 [(0, .ref 49), (1, .int (nI s))] [] σi := by
    intro f
    induction f with
    | zero =>
      intro s σi hs e5 e52 ag al
      have : s = 12 := by omega
      subst this
      refine w_X1_listGoals_7 _ ⟨fun _ => ⟨rfl, ?_⟩, fun q => absurd (by decide) q⟩
      rw [← hK]
      exact ⟨e5, e52, ag, al⟩
    | succ f ih =>
      intro s σi hs e5 e52 ag al
      obtain ⟨n1, n2⟩ := h s (by omega)
      have m1 := mono (s + 1) (by omega)
      have es : sU nd (s + 1) = sU nd s + nd s := rfl
      have inner : ∀ f' k σk, k + f' = nd s → rd σk 49 5 = nI (sU nd s + k) → (∀ j, j < sU nd s → rd σk 52 j = nI (gG nd s j)) → (∀ j, sU nd s ≤ j → j < sU nd s + k → rd σk 52 j = nI s) → (∀ q c, q ≠ 52 → ¬ (q = 49 ∧ c = 5) → rd σk q c = rd σ q c) → (∀ q c, rl σk q c = rl σ q c) → J Γ l d mX1_listGoals (KV KK) 15 [(0, .ref 49), (1, .int (nI s)), (2, .int (nI k))] [] σk := by
        intro f'
        induction f' with
        | zero =>
          intro k σk hk e5 e52 e52' ag al
          have : k = nd s := by omega
          subst this
          refine w_X1_listGoals_15 _ _ ⟨in_nI (by omega) (by omega), fun _ y hy => ?_, fun q => ?_⟩
          · rw [nI_s] at hy
            subst hy
            refine ih (s + 1) σk (by omega) e5 (fun j hj => ?_) ag al
            show _ = nI (if sU nd s ≤ j ∧ j < sU nd (s + 1) then s else gG nd s j)
            by_cases c : sU nd s ≤ j
            · rw [if_pos ⟨c, hj⟩]
              exact e52' j c (by omega)
            · rw [if_neg (by omega)]
              exact e52 j (by omega)
          · rw [cl (n := s) (by omega), ag 51 s (by omega) (by omega), n1] at q
            exact absurd (Int32.le_refl _) q
        | succ f' ihk =>
          intro k σk hk e5 e52 e52' ag al
          refine w_X1_listGoals_15 _ _ ⟨in_nI (by omega) (by omega), fun q => ?_, fun _ => ⟨fun q => ?_, fun _ => ?_⟩⟩
          · rw [cl (n := s) (by omega), ag 51 s (by omega) (by omega), n1, nI_lei (by omega) (by omega)] at q
            omega
          · rw [e5, show (6 : Int32) = nI 6 from rfl, nI_lei (by omega) (by omega)] at q
            omega
          · rw [e5, cl (n := sU nd s + k) (by omega), nI_s (sU nd s + k)]
            refine ⟨in_nI (by omega) (by omega), fun y hy => ?_⟩
            rw [nI_s] at hy
            subst hy
            refine ihk (k + 1) _ (by omega) rdy (fun j hj => by rw [rdn (by omega), rdn (by omega)]; exact e52 j hj) (fun j q1 q2 => ?_) (fun q c a1 a2 => by rw [rdn (by omega), rdn (by omega)]; exact ag q c a1 a2) (fun q c => al q c)
            rw [rdn (by omega)]
            by_cases c : j = sU nd s + k
            · subst c
              exact rdy
            · rw [rdn (by omega)]
              exact e52' j q1 (by omega)
      exact w_X1_listGoals_7 _ ⟨fun q => absurd ((nI_lei (a := 12) (by omega) (by omega)).mp q) (by omega), fun _ => inner (nd s) 0 σi (by omega) e5 e52 (fun j q1 q2 => absurd q2 (by omega)) ag al⟩
  exact M_X1_listGoals (w_X1_listGoals_0 (outer 12 0 _ (by omega) rdy (fun j hj => absurd hj (by show ¬ j < 0; omega)) (fun q c _ a2 => rdn (by omega)) (fun q c => rfl)))
theorem dN_99 {a b : Nat} (ha : a ≤ 99) (hb : b ≤ 99) : dN a b ≤ 99 := by
  unfold dN
  omega
def mlP (p : Nat → Nat) (s t : Nat) : Nat := dN (p s / 100) (p t / 100) + dN (p s % 100) (p t % 100)
theorem mlP_le {p : Nat → Nat} (h : ∀ s, p s < 10000) (s t : Nat) : mlP p s t ≤ 198 := by
  have h1 := h s
  have h2 := h t
  have := dN_99 (a := p s / 100) (b := p t / 100) (by omega) (by omega)
  have := dN_99 (a := p s % 100) (b := p t % 100) (by omega) (by omega)
  unfold mlP
  omega
theorem S_milesX {p : Nat → Nat} {s t : Nat} (hs : s < 12) (ht : t < 12) (h : ∀ s, p s < 10000) (es : rd σ 6 s = nI (p s)) (et : rd σ 6 t = nI (p t)) : Meth Γ l (d + 1) mX7_milesTo [.ref 5, .int (nI s), .ref 5, .int (nI t)] σ (KI (Kv (nI (mlP p s t)) σ)) := by
  have h1 := h s
  have h2 := h t
  refine M_X7_milesTo_5 _ _ (w_X7_milesTo_5_0 _ _ ⟨in_nI hs (by omega), in_nI ht (by omega), fun x3 e3 x4 e4 => ⟨_, rfl, rfl, ?_⟩⟩)
  rw [cl (n := s) (by omega), cl (n := t) (by omega), es, et, show nI (p s) / 100 = nI (p s / 100) from nI_divn (b := 100) (by omega) (by omega), show nI (p t) / 100 = nI (p t / 100) from nI_divn (b := 100) (by omega) (by omega)] at e3
  rw [cl (n := s) (by omega), cl (n := t) (by omega), es, et, show nI (p s) - nI (p s) / 100 * 100 = nI (p s % 100) from nI_modn (b := 100) (by omega) (by omega), show nI (p t) - nI (p t) / 100 * 100 = nI (p t % 100) from nI_modn (b := 100) (by omega) (by omega)] at e4
  subst e3 e4
  rw [abI_n (by omega) (by omega), abI_n (by omega) (by omega), nI_addn]
  rfl
theorem S_sendOne {n s z : Nat} {g B : Nat → Nat} {p : Nat → Nat} (hn : n ≤ 6) (hz : z ≤ 12) (hs : s < z) (hp : ∀ s, p s < 10000) (e6 : ∀ s, s < z → rd σ 6 s = nI (p s)) (e5 : rd σ 49 5 = nI n) (eg : ∀ i, i < n → g i < z ∧ rd σ 52 i = nI (g i)) (eB : ∀ X, X < 2 ^ n → rl σ 54 X = lN (B X) ∧ B X ≤ NW) : Meth Γ l (d + 2) mX1_sendOne [.ref 49, .int (nI s), .ref 5] σ (KV fun σ' => (∀ X, X < 2 ^ n → rl σ' 54 X = lN (inn B g (mlP p) X s n)) ∧ ∀ q c, rd σ' q c = rd σ q c) := by
  have p6 := p64 hn
  have hml := mlP_le hp
  generalize hK : (fun σ' : St => (∀ X, X < 2 ^ n → rl σ' 54 X = lN (inn B g (mlP p) X s n)) ∧ ∀ q c, rd σ' q c = rd σ q c) = KK
  have innb : ∀ X, X < 2 ^ n → ∀ k, inn B g (mlP p) X s k ≤ NW := fun X hX k => Nat.le_trans (inn_le (g := g) (ml := mlP p) (B := B) (X := X) (s := s) k).1 (eB X hX).2
  have NWe : NW = 1152921504606846976 := rfl
  have loop : ∀ X σi, X < 2 ^ n → (∀ Y, Y < 2 ^ n → rl σi 54 Y = if X < Y then lN (inn B g (mlP p) Y s n) else lN (B Y)) → (∀ q c, rd σi q c = rd σ q c) → J Γ l (d + 2) mX1_sendOne (KV KK) 9 [(0, .ref 49), (1, .int (nI s)), (2, .ref 5), (3, .int (nI X))] [] σi := by
    intro X
    induction X with
    | zero =>
      intro σi hX hB hag
      refine w_X1_sendOne_9 _ _ ⟨fun _ => ⟨rfl, ?_⟩, fun q => absurd (by decide) q⟩
      rw [← hK]
      refine ⟨fun Y hY => ?_, hag⟩
      rw [hB Y hY]
      rcases Nat.eq_zero_or_pos Y with c | c
      · subst c
        rw [if_neg (by omega), inn_0]
      · rw [if_pos c]
    | succ X ih =>
      intro σi hX hB hag
      have inner : ∀ f i σk, i + f = n → (∀ Y, Y < 2 ^ n → rl σk 54 Y = if X + 1 < Y then lN (inn B g (mlP p) Y s n) else if Y = X + 1 then lN (inn B g (mlP p) Y s i) else lN (B Y)) → (∀ q c, rd σk q c = rd σ q c) → J Γ l (d + 2) mX1_sendOne (KV KK) 16 [(0, .ref 49), (1, .int (nI s)), (2, .ref 5), (3, .int (nI (X + 1))), (4, .int (nI i))] [] σk := by
        intro f
        induction f with
        | zero =>
          intro i σk hi hBk hagk
          have : i = n := by omega
          subst this
          refine w_X1_sendOne_16 _ _ _ ⟨fun _ y hy => ?_, fun q => absurd (yle ((hagk 49 5).trans e5) (Nat.le_refl _) (by omega)) q⟩
          rw [nI_p] at hy
          subst hy
          refine ih σk (by omega) (fun Y hY => ?_) hagk
          rw [hBk Y hY]
          rcases Nat.lt_trichotomy Y (X + 1) with c | c | c
          · rw [if_neg (by omega), if_neg (by omega), if_neg (by omega)]
          · rw [if_neg (by omega), if_pos c, if_pos (by omega)]
          · rw [if_pos c, if_pos (by omega)]
        | succ f ihk =>
          intro i σk hi hBk hagk
          obtain ⟨g1, g2⟩ := eg i (by omega)
          have st : inn B g (mlP p) (X + 1) s (i + 1) = if bt (X + 1) i = 1 ∧ g i ≠ s then min (inn B g (mlP p) (X + 1) s i) (B (X + 1 - 2 ^ i) + (mlP p s (g i) * 16777216 + s * pw i)) else inn B g (mlP p) (X + 1) s i := rfl
          have nx : ∀ σ2, (∀ Y, Y < 2 ^ n → rl σ2 54 Y = if X + 1 < Y then lN (inn B g (mlP p) Y s n) else if Y = X + 1 then lN (inn B g (mlP p) Y s (i + 1)) else lN (B Y)) → (∀ q c, rd σ2 q c = rd σ q c) → ∀ y : Int32, y = nI i + 1 → J Γ l (d + 2) mX1_sendOne (KV KK) 16 [(0, .ref 49), (1, .int (nI s)), (2, .ref 5), (3, .int (nI (X + 1))), (4, .int y)] [] σ2 := by
            intro σ2 q1 q2 y hy
            rw [nI_s] at hy
            subst hy
            exact ihk (i + 1) σ2 (by omega) q1 q2
          have stay : ¬ (bt (X + 1) i = 1 ∧ g i ≠ s) → ∀ Y, Y < 2 ^ n → rl σk 54 Y = if X + 1 < Y then lN (inn B g (mlP p) Y s n) else if Y = X + 1 then lN (inn B g (mlP p) Y s (i + 1)) else lN (B Y) := by
            intro hn' Y hY
            rw [hBk Y hY]
            by_cases c : Y = X + 1
            · subst c
              rw [st, if_neg hn']
            · rw [if_neg c, if_neg c]
          refine w_X1_sendOne_16 _ _ _ ⟨fun q => absurd q (nle ((hagk 49 5).trans e5) (by omega) (by omega)), fun _ => ?_⟩
          rw [bt_dec i (by omega) (X + 1) (by omega), cl (n := i) (by omega), hagk 52 i, g2]
          have pwi : pw i ≤ 1048576 := by
            have e : i = 0 ∨ i = 1 ∨ i = 2 ∨ i = 3 ∨ i = 4 ∨ i = 5 := by omega
            rcases e with rfl | rfl | rfl | rfl | rfl | rfl <;> decide
          have mor : mlP p s (g i) * 16777216 + s * pw i < 4294967296 := by
            have h1 := hml s (g i)
            have h2 : s * pw i ≤ 12 * 1048576 := Nat.mul_le_mul (by omega) pwi
            omega
          rcases bt_2 (X + 1) i with c | c
          · refine ⟨fun q => ?_, fun _ => nx σk (stay (by omega)) hagk⟩
            rw [c] at q
            exact absurd q (by decide)
          · obtain ⟨x1, x2, x3⟩ := bx_dec i (by omega) (X + 1) (by omega) c
            refine ⟨fun _ => ⟨in_nI (by omega) (by omega), fun q => nx σk (stay fun r => r.2 ((nI_inj (by omega) (by omega)).mp q)) hagk, fun q => ?_⟩, fun q => absurd (by rw [c]; rfl) q⟩
            have gs : g i ≠ s := fun r => q (by rw [r])
            refine (S_milesX (d := d) (p := p) (by omega) (by omega) hp ((hagk 6 s).trans (e6 s hs)) ((hagk 6 (g i)).trans (e6 (g i) g1))).mono ?_
            rintro v σ5 ⟨x, rfl, rfl, rfl⟩
            refine ⟨_, rfl, fun x7 h7 => ?_⟩
            rw [sl24_dec _ (by have := hml s (g i); omega), slp_dec i (by omega) s (by omega), lN_add] at h7
            subst h7
            have pos : 0 < 2 ^ i := Nat.pow_pos (by omega)
            rw [x1, cl (n := X + 1) (by omega), cl (n := X + 1 - 2 ^ i) (by omega)]
            refine ⟨in_nI (by omega) (by omega), in_nI (by omega) (by omega), nx _ (fun Y hY => ?_) (fun q c => hagk q c)⟩
            have v1 : rl σk 54 (X + 1) = lN (inn B g (mlP p) (X + 1) s i) := by
              rw [hBk _ hX, if_neg (by omega), if_pos rfl]
            have v2 : rl σk 54 (X + 1 - 2 ^ i) = lN (B (X + 1 - 2 ^ i)) := by
              rw [hBk _ (by omega), if_neg (by omega), if_neg (by omega)]
            have b1 := innb (X + 1) hX i
            have b2 := (eB (X + 1 - 2 ^ i) (by omega)).2
            rw [rl_wl, v1, v2, lN_add, mnL_n (by omega) (by omega)]
            by_cases cY : Y = X + 1
            · subst cY
              rw [if_pos ⟨rfl, rfl⟩, if_neg (by omega), if_pos rfl, st, if_pos ⟨c, gs⟩]
            · rw [if_neg (by omega), hBk Y hY, if_neg cY, if_neg cY]
      refine w_X1_sendOne_9 _ _ ⟨fun q => absurd ((nI_lei (b := 0) (by omega) (by omega)).mp q) (by omega), fun _ => inner n 0 σi (by omega) (fun Y hY => ?_) hag⟩
      rw [hB Y hY]
      by_cases cY : Y = X + 1
      · subst cY
        rw [if_neg (by omega), if_neg (by omega), if_pos rfl]
        rfl
      · by_cases c2 : X + 1 < Y
        · rw [if_pos c2, if_pos c2]
        · rw [if_neg c2, if_neg c2, if_neg cY]
  refine M_X1_sendOne _ (w_X1_sendOne_0 _ fun x hx => ?_)
  have pos : 0 < 2 ^ n := Nat.pow_pos (by omega)
  rw [e5, sh_dec n (by omega), show nI (2 ^ n) - 1 = nI (2 ^ n - 1) from nI_subn (b := 1) (by omega)] at hx
  subst hx
  exact loop (2 ^ n - 1) σ (by omega) (fun Y hY => by rw [if_neg (by omega)]; exact (eB Y hY).1) (fun _ _ => rfl)
theorem S_bestOfAll {n : Nat} {B : Nat → Nat} (hn : n ≤ 6) (e5 : rd σ 49 5 = nI n) (eB : ∀ X, X < 2 ^ n → rl σ 54 X = lN (B X) ∧ B X ≤ NW) : Meth Γ l (d + 1) mX1_bestOfAll [.ref 49] σ (KL (KvL (lN (bAl B n (2 ^ n))) σ)) := by
  have p6 := p64 hn
  have NWe : NW = 1152921504606846976 := rfl
  have pwi : ∀ i, pw i ≤ 1048576 := fun i => by
    match i with
    | 0 => decide
    | 1 => decide
    | 2 => decide
    | 3 => decide
    | 4 => decide
    | _ + 5 =>
      show 1 ≤ 1048576
      omega
  have pnb : ∀ X k, k ≤ 6 → pnC X k ≤ 240518168570 * 6 := fun X k hk => by
    have h1 := sU_le (f := fun i => if bt X i = 1 then 0 else 34359738368 + 15 * pw i) (B := 240518168570) k fun j _ => by
      have := pwi j
      split <;> omega
    have h2 : 240518168570 * k ≤ 240518168570 * 6 := Nat.mul_le_mul_left _ hk
    exact Nat.le_trans h1 h2
  have bAb : ∀ m, bAl B n m ≤ NW := fun m => by
    induction m with
    | zero => exact Nat.le_refl _
    | succ m ih =>
      unfold bAl
      omega
  have outer : ∀ f X, X + f = 2 ^ n → J Γ l (d + 1) mX1_bestOfAll (KL (KvL (lN (bAl B n (2 ^ n))) σ)) 6 [(0, .ref 49), (1, .long (lN (bAl B n X))), (3, .int (nI X))] [] σ := by
    intro f
    induction f with
    | zero =>
      intro X hX
      have : X = 2 ^ n := by omega
      subst this
      refine w_X1_bestOfAll_6 _ _ ⟨fun _ => ⟨_, rfl, rfl, rfl⟩, fun q => absurd ?_ q⟩
      rw [e5, sh_dec n (by omega)]
      exact Int32.le_refl _
    | succ f ih =>
      intro X hX
      obtain ⟨b1, b2⟩ := eB X (by omega)
      have b3 := bAb X
      have inner : ∀ f' i, i + f' = n → J Γ l (d + 1) mX1_bestOfAll (KL (KvL (lN (bAl B n (2 ^ n))) σ)) 27 [(0, .ref 49), (1, .long (lN (bAl B n X))), (3, .int (nI X)), (4, .long (lN (B X + pnC X i))), (6, .int (nI i))] [] σ := by
        intro f'
        induction f' with
        | zero =>
          intro i hi
          have : i = n := by omega
          subst this
          have b4 := pnb X i hn
          refine w_X1_bestOfAll_27 _ _ _ _ ⟨fun _ y hy => ?_, fun q => absurd (yle e5 (Nat.le_refl _) (by omega)) q⟩
          rw [nI_s] at hy
          subst hy
          rw [mnL_n (by omega) (by omega)]
          exact ih (X + 1) (by omega)
        | succ f' ihi =>
          intro i hi
          have st : pnC X (i + 1) = pnC X i + if bt X i = 1 then 0 else 34359738368 + 15 * pw i := rfl
          have nx := ihi (i + 1) (by omega)
          rw [st] at nx
          refine w_X1_bestOfAll_27 _ _ _ _ ⟨fun q => absurd q (nle e5 (by omega) (by omega)), fun _ => ?_⟩
          rw [bt_dec i (by omega) X (by omega), (pw_dec i (by omega)).2.2, show (34359738368 : Int64) = lN 34359738368 from rfl, lN_add]
          rcases bt_2 X i with c | c
          · rw [c] at nx ⊢
            refine ⟨fun _ x hx y hy => ?_, fun q => absurd rfl q⟩
            rw [lN_add] at hx
            rw [nI_s] at hy
            rw [if_neg (by omega), ← Nat.add_assoc] at nx
            subst hx hy
            exact nx
          · rw [c] at nx ⊢
            refine ⟨fun q => absurd q (by decide), fun _ y hy => ?_⟩
            rw [nI_s] at hy
            rw [if_pos rfl, Nat.add_zero] at nx
            subst hy
            exact nx
      refine w_X1_bestOfAll_6 _ _ ⟨fun q => ?_, fun _ => ⟨in_nI (by omega) (by omega), ?_⟩⟩
      · rw [e5, sh_dec n (by omega), nI_lei (by omega) (by omega)] at q
        omega
      · rw [cl (n := X) (by omega), b1]
        exact inner n 0 (by omega)
  exact M_X1_bestOfAll (w_X1_bestOfAll_0 (outer (2 ^ n) 0 (by omega)))
end CX

/-! CRATES: the class' search -/
section CY
variable {Γ : GG} {l : Launch} {d : Nat} {σ : St}
theorem S_fill54 (x : Int64) : Meth Γ l d mJ7_fill_d0a16 [.ref 54, .long x] σ (KV fun σ' => (∀ i, i < 64 → rl σ' 54 i = x) ∧ ∀ q c, rd σ' q c = rd σ q c) := by
  have loop : ∀ f i σi, i + f = 64 → (∀ j, j < i → rl σi 54 j = x) → (∀ q c, rd σi q c = rd σ q c) → J Γ l d mJ7_fill_d0a16 (KV fun σ' => (∀ i, i < 64 → rl σ' 54 i = x) ∧ ∀ q c, rd σ' q c = rd σ q c) 6 [(0, .ref 54), (1, .long x), (3, .int (nI i)), (4, .int 64)] [] σi := by
    intro f
    induction f with
    | zero =>
      intro i σi hi h1 h2
      have : i = 64 := by omega
      subst this
      exact w_J7_fill_d0a16_54_6 _ _ _ ⟨fun _ => ⟨rfl, h1, h2⟩, fun q => absurd (by decide) q⟩
    | succ f ih =>
      intro i σi hi h1 h2
      refine w_J7_fill_d0a16_54_6 _ _ _ ⟨fun q => absurd ((nI_lei (a := 64) (by omega) (by omega)).mp q) (by omega), fun _ => ⟨in_nI (by omega) (by omega), fun y hy => ?_⟩⟩
      rw [nI_s] at hy
      subst hy
      rw [cl (by omega)]
      refine ih (i + 1) _ (by omega) (fun j hj => ?_) (fun q c => h2 q c)
      rw [rl_wl]
      by_cases c : j = i
      · rw [if_pos ⟨rfl, c⟩]
      · rw [if_neg (by omega)]
        exact h1 j (by omega)
  exact M_J7_fill_d0a16_54 _ (w_J7_fill_d0a16_54_0 _ (loop 64 0 σ (by omega) (fun j hj => absurd hj (by omega)) (fun _ _ => rfl)))
theorem S_cratesX {z : Nat} {nd sp p : Nat → Nat} (hz : z ≤ 12) (h1 : rd σ 5 1 = nI z) (hnd : ∀ s, s < 12 → rd σ 51 s = nI (nd s) ∧ nd s ≤ 3) (hnz : ∀ s, z ≤ s → nd s = 0) (h6 : sU nd 12 ≤ 6) (hsp : ∀ s, s < z → rd σ 50 s = nI (sp s) ∧ sp s ≤ 3) (hp : ∀ s, p s < 10000) (e6 : ∀ s, s < z → rd σ 6 s = nI (p s)) : Meth Γ l (d + 3) mX1_search [.ref 49, .ref 5] σ (KI fun x σ' => ∃ c, vld z (gG nd z) sp c (sU nd z) ∧ (∀ c', vld z (gG nd z) sp c' (sU nd z) → kyC z (gG nd z) (mlP p) c (sU nd z) ≤ kyC z (gG nd z) (mlP p) c' (sU nd z)) ∧ x = nI (miC z (gG nd z) (mlP p) c (sU nd z)) ∧ rd σ' 49 5 = nI (sU nd z) ∧ (∀ i, i < sU nd z → rd σ' 53 i = nI (dgt z (c i))) ∧ ∀ q k, q ≠ 52 → q ≠ 53 → ¬ (q = 49 ∧ k = 5) → rd σ' q k = rd σ q k) := by
  obtain ⟨u1, u2⟩ := gG_up (nd := nd) (a := z) (12 - z) hnz
  rw [show z + (12 - z) = 12 by omega] at u1 u2
  have hml := mlP_le hp
  have NWe : NW = 1152921504606846976 := rfl
  generalize hn : sU nd z = n at *
  have hn6 : n ≤ 6 := by omega
  have p6 := p64 hn6
  have pos : 0 < 2 ^ n := Nat.pow_pos (by omega)
  have hgl : ∀ i, i < n → gG nd z i < z := fun i hi => gG_lt z i (by omega)
  generalize hg : gG nd z = g at *
  generalize hK : (fun (x : Int32) (σ' : St) => ∃ c, vld z g sp c n ∧ (∀ c', vld z g sp c' n → kyC z g (mlP p) c n ≤ kyC z g (mlP p) c' n) ∧ x = nI (miC z g (mlP p) c n) ∧ rd σ' 49 5 = nI n ∧ (∀ i, i < n → rd σ' 53 i = nI (dgt z (c i))) ∧ ∀ q k, q ≠ 52 → q ≠ 53 → ¬ (q = 49 ∧ k = 5) → rd σ' q k = rd σ q k) = KK
  refine M_X1_search (w_X1_search_0 ((S_listGoals (d := d + 2) hnd h6).mono ?_))
  rintro v σ1 ⟨rfl, l5, l52, lag, -⟩
  rw [u1] at l5 l52
  refine ⟨rfl, (S_fill54 (d := d + 2) _).mono ?_⟩
  rintro v σ2 ⟨rfl, f1, f2⟩
  refine ⟨rfl, ?_⟩
  have base5 : rd σ2 49 5 = nI n := (f2 49 5).trans l5
  have baseg : ∀ i, i < n → rd σ2 52 i = nI (g i) := fun i hi => (f2 52 i).trans ((l52 i hi).trans (by rw [u2 i hi]))
  have base : ∀ q k, q ≠ 52 → ¬ (q = 49 ∧ k = 5) → rd σ2 q k = rd σ q k := fun q k a1 a2 => (f2 q k).trans (lag q k a1 a2)
  -- the end: what the least number tells
  have endJ : ∀ σi B, inv1 z n g (mlP p) sp B → (∀ X, X < 2 ^ n → rl σi 54 X = lN (B X) ∧ B X ≤ NW) → (∀ q k, rd σi q k = rd σ2 q k) → Meth Γ l (d + 2) mX1_bestOfAll [.ref 49] σi (KL (fun x2 σ4 => J Γ l (d + 3) mX1_search (KI KK) 69 [(0, .ref 49), (2, .long x2), (4, .int 0)] [] σ4)) := by
    intro σi B hinv hB hag
    refine (S_bestOfAll (d := d + 1) hn6 ((hag 49 5).trans base5) hB).mono ?_
    rintro v σ4 ⟨x, rfl, rfl, rfl⟩
    refine ⟨_, rfl, ?_⟩
    obtain ⟨⟨c, hc, hce⟩, hmin⟩ := bAl_min (n := n) hn6 hz hml hinv
    have hcl := vld_le hc
    rw [hce]
    have kl := ky_lt (g := g) hn6 hz hml hcl
    have dec : ∀ f i σj, i + f = n → (∀ j, j < i → rd σj 53 j = nI (dgt z (c j))) → (∀ q k, q ≠ 53 → rd σj q k = rd σ2 q k) → J Γ l (d + 3) mX1_search (KI KK) 69 [(0, .ref 49), (2, .long (lN (kyC z g (mlP p) c n))), (4, .int (nI i))] [] σj := by
      intro f
      induction f with
      | zero =>
        intro i σj hi h53 hagj
        have : i = n := by omega
        subst this
        refine w_X1_search_69 _ _ ⟨fun _ => ?_, fun q => absurd (yle ((hagj 49 5 (by omega)).trans base5) (Nat.le_refl _) (by omega)) q⟩
        rw [sr24 (by omega), lN_i, and_m (m := 2048) (k := 11) (by decide +kernel) (by decide) (by decide), ky_mi hn6 hz hml hcl]
        refine KI.mk ?_
        rw [← hK]
        exact ⟨c, hc, fun c' hc' => hce ▸ hmin c' hc', rfl, (hagj 49 5 (by omega)).trans base5, h53, fun q k a1 a2 a3 => (hagj q k a2).trans (base q k a1 a3)⟩
      | succ f ih =>
        intro i σj hi h53 hagj
        obtain ⟨d1, d2, -⟩ := pw_dec i (by omega)
        refine w_X1_search_69 _ _ ⟨fun q => absurd q (nle ((hagj 49 5 (by omega)).trans base5) (by omega) (by omega)), fun _ => ⟨in_nI (by omega) (by omega), fun y hy => ?_⟩⟩
        rw [nI_s] at hy
        subst hy
        rw [pf_shr d1 (by omega), d2, lN_i, and_m (m := 16) (k := 4) (by decide +kernel) (by decide) (by decide), ky_dig hn6 hz hcl (by omega), cl (n := i) (by omega)]
        refine ih (i + 1) _ (by omega) (fun j hj => ?_) (fun q k a1 => by rw [rdn (by omega)]; exact hagj q k a1)
        by_cases e : j = i
        · subst e
          exact rdy
        · rw [rdn (by omega)]
          exact h53 j (by omega)
    exact dec n 0 σi (by omega) (fun j hj => absurd hj (by omega)) (fun q k _ => hag q k)
  -- shop by shop, crate by crate
  have outer : ∀ f s σi B, s + f = z → inv1 z n g (mlP p) (fun t => if t < s then sp t else 0) B → (∀ X, X < 2 ^ n → rl σi 54 X = lN (B X) ∧ B X ≤ NW) → (∀ q k, rd σi q k = rd σ2 q k) → J Γ l (d + 3) mX1_search (KI KK) 23 [(0, .ref 49), (1, .ref 5), (2, .int (nI s))] [] σi := by
    intro f
    induction f with
    | zero =>
      intro s σi B hs hinv hB hag
      have : s = z := by omega
      subst this
      have e1 : rd σi 5 1 = nI s := (hag 5 1).trans ((base 5 1 (by omega) (by omega)).trans h1)
      refine w_X1_search_23 _ ⟨fun _ => endJ σi B ?_ hB hag, fun q => absurd (yle e1 (Nat.le_refl _) (by omega)) q⟩
      intro X hX
      obtain ⟨k1, k2, k3⟩ := hinv X hX
      refine ⟨k1, ?_, fun c hc => k3 c ⟨hc.1, hc.2.1, fun t ht => ?_⟩⟩
      · rcases k2 with q | ⟨c, hc, q⟩
        · exact Or.inl q
        · refine Or.inr ⟨c, ⟨hc.1, hc.2.1, fun t ht => ?_⟩, q⟩
          have := hc.2.2 t ht
          dsimp only at this
          rw [if_pos ht] at this
          exact this
      · dsimp only
        rw [if_pos ht]
        exact hc.2.2 t ht
    | succ f ih =>
      intro s σi B hs hinv hB hag
      have e1 : rd σi 5 1 = nI z := (hag 5 1).trans ((base 5 1 (by omega) (by omega)).trans h1)
      obtain ⟨sp1, sp2⟩ := hsp s (by omega)
      have inner : ∀ f' i σk B, i + f' = sp s → inv1 z n g (mlP p) (fun t => if t < s then sp t else if t = s then i else 0) B → (∀ X, X < 2 ^ n → rl σk 54 X = lN (B X) ∧ B X ≤ NW) → (∀ q k, rd σk q k = rd σ2 q k) → J Γ l (d + 3) mX1_search (KI KK) 33 [(0, .ref 49), (1, .ref 5), (2, .int (nI s)), (3, .int (nI i))] [] σk := by
        intro f'
        induction f' with
        | zero =>
          intro i σk B hi hinv hB hag
          have : i = sp s := by omega
          have e50 : rd σk 50 s = nI (sp s) := (hag 50 s).trans ((base 50 s (by omega) (by omega)).trans sp1)
          refine w_X1_search_33 _ _ ⟨in_nI (by omega) (by omega), fun _ y hy => ?_, fun q => ?_⟩
          · rw [nI_s] at hy
            subst hy
            refine ih (s + 1) σk B (by omega) ?_ hB hag
            have e : (fun t => if t < s + 1 then sp t else 0) = (fun t => if t < s then sp t else if t = s then i else 0) := funext fun t => by
              rcases Nat.lt_trichotomy t s with r | r | r
              · rw [if_pos (by omega), if_pos r]
              · rw [if_pos (by omega), if_neg (by omega), if_pos r, r, this]
              · rw [if_neg (by omega), if_neg (by omega), if_neg (by omega)]
            rw [e]
            exact hinv
          · rw [cl (n := s) (by omega), e50, this] at q
            exact absurd (Int32.le_refl _) q
        | succ f' ihk =>
          intro i σk B hi hinv hB hag
          have e50 : rd σk 50 s = nI (sp s) := (hag 50 s).trans ((base 50 s (by omega) (by omega)).trans sp1)
          refine w_X1_search_33 _ _ ⟨in_nI (by omega) (by omega), fun q => ?_, fun _ => ?_⟩
          · rw [cl (n := s) (by omega), e50, nI_lei (by omega) (by omega)] at q
            omega
          · refine (S_sendOne (d := d) (n := n) (g := g) (B := B) (p := p) hn6 hz (by omega) hp (fun t ht => (hag 6 t).trans ((base 6 t (by omega) (by omega)).trans (e6 t ht))) ((hag 49 5).trans base5) (fun j hj => ⟨hgl j hj, (hag 52 j).trans (baseg j hj)⟩) hB).mono ?_
            rintro v σ3 ⟨rfl, s1, s2⟩
            refine ⟨rfl, fun y hy => ?_⟩
            rw [nI_s] at hy
            subst hy
            have st := inv1_step (s := s) hn6 (by omega) hinv
            refine ihk (i + 1) σ3 _ (by omega) ?_ (fun X hX => ⟨s1 X hX, (st X hX).1⟩) (fun q k => (s2 q k).trans (hag q k))
            have e : (fun t => if t < s then sp t else if t = s then i + 1 else 0) = upN (fun t => if t < s then sp t else if t = s then i else 0) s := funext fun t => by
              unfold upN
              rcases Nat.lt_trichotomy t s with r | r | r
              · simp [r, show ¬ t = s by omega]
              · simp [r]
              · simp [show ¬ t < s by omega, show ¬ t = s by omega]
            rw [e]
            exact st
      refine w_X1_search_23 _ ⟨fun q => absurd q (nle e1 (by omega) (by omega)), fun _ => inner (sp s) 0 σi B (by omega) ?_ hB hag⟩
      have e : (fun t => if t < s then sp t else if t = s then 0 else 0) = (fun t => if t < s then sp t else 0) := funext fun t => by
        split
        · rfl
        · split <;> rfl
      rw [e]
      exact hinv
  refine outer z 0 _ (fun X => if X = 0 then 0 else NW) (by omega) ?_ (fun X hX => ?_) (fun q k => rfl)
  · have e : (fun t => if t < 0 then sp t else 0) = (fun _ => 0) := funext fun t => if_neg (by omega)
    rw [e]
    exact inv1_0
  · rw [rl_wl]
    by_cases e : X = 0
    · rw [if_pos ⟨rfl, e⟩, if_pos e]
      exact ⟨rfl, Nat.zero_le _⟩
    · rw [if_neg (by omega), if_neg e, f1 X (by omega)]
      exact ⟨rfl, Nat.le_refl _⟩
end CY

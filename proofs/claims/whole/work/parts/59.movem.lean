/-! MOVE: the reference's side -/
def trd (ln : Nat → Nat) : Nat → Nat → Bool
  | 0, _ => false
  | j + 1, b => trd ln j b || decide (b = ln j)
theorem trd_iff {ln : Nat → Nat} {b : Nat} : ∀ j, trd ln j b = true ↔ ∃ i, i < j ∧ ln i = b
  | 0 => by
    constructor
    · intro h
      exact absurd h (by simp [trd])
    · rintro ⟨i, hi, -⟩
      omega
  | j + 1 => by
    unfold trd
    rw [Bool.or_eq_true, trd_iff j, decide_eq_true_eq]
    constructor
    · rintro (⟨i, hi, e⟩ | e)
      · exact ⟨i, by omega, e⟩
      · exact ⟨j, by omega, e.symm⟩
    · rintro ⟨i, hi, e⟩
      rcases Nat.lt_or_ge i j with c | c
      · exact Or.inl ⟨i, c, e⟩
      · rw [show i = j by omega] at e
        exact Or.inr e.symm
theorem trd_am {sh ln : Nat → Nat} {most j b : Nat} (ht : totL sh ln most j < most) : (0 < (if trd ln j b = true then 0 else sh b)) ↔ 0 < sh b - amL sh ln most j b := by
  by_cases c : trd ln j b = true
  · rw [if_pos c]
    obtain ⟨i, hi, rfl⟩ := (trd_iff j).mp c
    have := amL_all j ht i hi
    omega
  · rw [if_neg c, amL_not j b fun i hi e => c ((trd_iff j).mpr ⟨i, hi, e⟩)]
    omega
theorem elS_congr {τ : St} {s k u : Int32} {sh sh2 : Nat → Nat} (h : ∀ b, 0 < sh b ↔ 0 < sh2 b) : elS τ s k u sh = elS τ s k u sh2 := funext fun b => by
  unfold elS
  congr 2
  rw [decide_eq_decide.mpr (h b)]
section NX
variable {Γ : GG} {l : Launch} {d : Nat} {σ : St}
theorem S_nextOf {τ : St} {h nS nK nB : Nat} (hI : Inv0 h nS nK nB τ) (hr : agr sR τ σ) (s k : Int32) {sh : Nat → Nat} {tr : Nat → Bool} (ham : ∀ b, b < nB → (((rd σ 76 b - rd σ 77 b) - rd σ 78 b) - rd σ 79 b) - rd σ 80 b = nI (sh b)) (hsh : ∀ b, b < nB → sh b ≤ 999) (htr : ∀ b, b < nB → rd σ 109 b = if tr b = true then 1 else 0) : Meth Γ l (d + 4) mX12_nextOf [.ref 59, .int s, .int k] σ (KI fun x σ' => eldA (elS τ s k 0 (fun b => if tr b = true then 0 else sh b)) (mdN τ) nB x ∧ agr oM σ σ') := by
  have zB := hI.2.2.2.2.2.1.1
  have b2 : rd τ 59 16 = nI nB := hI.2.2.2.2.2.1.2.2.1
  generalize hel : elS τ s k 0 (fun b => if tr b = true then 0 else sh b) = el
  have loop : ∀ m i σi best, i + m = nB → agr oM σ σi → eldA el (mdN τ) i best → J Γ l (d + 4) mX12_nextOf (KI fun x σ' => eldA el (mdN τ) nB x ∧ agr oM σ σ') 5 [(0, .ref 59), (1, .int s), (2, .int k), (3, .int best), (4, .int (nI i))] [] σi := by
    intro m
    induction m with
    | zero =>
      intro i σi best hi ag hb
      have : i = nB := by omega
      subst this
      have e : rd σi 59 16 = nI i := (ag 59 16 (by unfold oM; omega)).trans ((hr 59 16 (by unfold sR; omega)).trans b2)
      exact w_X12_nextOf_5 _ _ _ _ ⟨fun _ => KI.mk ⟨hb, ag⟩, fun q => absurd (yle e (Nat.le_refl _) (by omega)) q⟩
    | succ m ih =>
      intro i σi best hi ag hb
      have hib : i < nB := by omega
      have agR : agr sR τ σi := agr.tr hr (ag.sub fun _ _ => sR_oM)
      have e : rd σi 59 16 = nI nB := (agR 59 16 (by unfold sR; omega)).trans b2
      have ci : (nI i).toNatClampNeg = i := cl (by omega)
      obtain ⟨-, -, -, -, -, m5, m6, -⟩ := Bv hI hib
      have shi := hsh i hib
      have e109 : rd σi 109 i = if tr i = true then 1 else 0 := (ag 109 i (by unfold oM; omega)).trans (htr i hib)
      have am : (((rd σi 76 i - rd σi 77 i) - rd σi 78 i) - rd σi 79 i) - rd σi 80 i = nI (sh i) := by
        rw [ag 76 i (by unfold oM; omega), ag 77 i (by unfold oM; omega), ag 78 i (by unfold oM; omega), ag 79 i (by unfold oM; omega), ag 80 i (by unfold oM; omega)]
        exact ham i hib
      have eli : el i = true ↔ rd τ 71 i = s ∧ rd τ 72 i = k ∧ 0 < (if tr i = true then 0 else sh i) ∧ mayM τ 0 i = true := by rw [← hel]; exact elS_iff
      have nx : ¬ el i = true → ∀ σ2, agr oM σ σ2 → ∀ x : Int32, x = nI i + 1 → J Γ l (d + 4) mX12_nextOf (KI fun x σ' => eldA el (mdN τ) nB x ∧ agr oM σ σ') 5 [(0, .ref 59), (1, .int s), (2, .int k), (3, .int best), (4, .int x)] [] σ2 := by
        intro he σ2 ag2 x hx
        rw [nI_s] at hx
        subst hx
        refine ih (i + 1) σ2 best (by omega) ag2 ?_
        rcases hb with ⟨q1, q2⟩ | ⟨b, q1, q2, q3, q4⟩
        · refine Or.inl ⟨q1, fun b hb => ?_⟩
          rcases Nat.lt_or_ge b i with c | c
          · exact q2 b c
          · rw [show b = i by omega]
            exact he
        · refine Or.inr ⟨b, by omega, q2, q3, fun c hc ec => ?_⟩
          rcases Nat.lt_or_ge c i with c' | c'
          · exact q4 c c' ec
          · rw [show c = i by omega] at ec
            exact absurd ec he
      refine w_X12_nextOf_5 _ _ _ _ ⟨fun q => absurd q (nle e hib (by omega)), fun _ => ⟨in_nI (by omega) (by omega), ?_⟩⟩
      rw [ci, agR 71 i (by unfold sR; omega), agR 72 i (by unfold sR; omega), am, e109, show nI (sh i) ≤ (0 : Int32) ↔ sh i ≤ 0 from nI_lei (b := 0) (by omega) (by omega)]
      by_cases ct : tr i = true
      · rw [if_pos ct]
        refine ⟨fun q => absurd q (by decide), fun _ => nx (fun q => ?_) σi ag⟩
        have := (eli.mp q).2.2.1
        rw [if_pos ct] at this
        omega
      rw [if_neg ct]
      rw [if_neg ct] at eli
      refine ⟨fun _ => ⟨fun c0 => ⟨fun c1 => ⟨in_nI (by omega) (by omega), fun c5 => nx (fun q => ?_) σi ag, fun c5 => ?_⟩, fun c1 => nx (fun q => c1 (eli.mp q).2.1) σi ag⟩, fun c0 => nx (fun q => c0 (eli.mp q).1) σi ag⟩, fun q => absurd rfl q⟩
      · have := (eli.mp q).2.2.1
        omega
      · refine (S_mayG hI agR hib 0).mono ?_
        rintro v σ2 ⟨x, rfl, rfl, ha⟩
        have ag2 := agr.tr ag ha
        have agR2 : agr sR τ σ2 := agr.tr hr (ag2.sub fun _ _ => sR_oM)
        refine ⟨_, rfl, fun q => nx (fun r => ?_) σ2 ag2, fun q => ?_⟩
        · rw [bI_0] at q
          exact q (eli.mp r).2.2.2
        · rw [bI_0, Classical.not_not] at q
          have he : el i = true := eli.mpr ⟨c0, c1, by omega, q⟩
          rcases hb with ⟨rfl, q2⟩ | ⟨b, q1, rfl, q3, q4⟩
          · refine ⟨fun _ x hx => ?_, fun q => absurd (by decide) q⟩
            rw [nI_s] at hx
            subst hx
            refine ih (i + 1) σ2 _ (by omega) ag2 (Or.inr ⟨i, by omega, rfl, he, fun c hc ec => ?_⟩)
            rcases Nat.lt_or_ge c i with c' | c'
            · exact absurd ec (q2 c c')
            · rw [show c = i by omega]
              omega
          · have cb : (nI b).toNatClampNeg = b := cl (by omega)
            obtain ⟨-, -, -, -, -, w5, w6, -⟩ := Bv hI (show b < nB by omega)
            refine ⟨fun q => absurd q (nlt0 (by omega)), fun _ => ?_⟩
            rw [cb, agR2 74 b (by unfold sR; omega), agR2 74 i (by unfold sR; omega), w6, m6, nI_lei (by omega) (by omega)]
            refine ⟨in_nI (by omega) (by omega), fun hle x hx => ?_, fun hle x hx => ?_⟩
            · rw [nI_s] at hx
              subst hx
              refine ih (i + 1) σ2 _ (by omega) ag2 (Or.inr ⟨b, by omega, rfl, q3, fun c hc ec => ?_⟩)
              rcases Nat.lt_or_ge c i with c' | c'
              · exact q4 c c' ec
              · rw [show c = i by omega]
                omega
            · rw [nI_s] at hx
              subst hx
              refine ih (i + 1) σ2 _ (by omega) ag2 (Or.inr ⟨i, by omega, rfl, he, fun c hc ec => ?_⟩)
              rcases Nat.lt_or_ge c i with c' | c'
              · have := q4 c c' ec
                omega
              · rw [show c = i by omega]
                omega
  exact M_X12_nextOf _ _ (w_X12_nextOf_0 _ _ (loop nB 0 σ (-1) (by omega) agr.rf (Or.inl ⟨rfl, fun b hb => absurd hb (by omega)⟩)))
/-- what the reference's move leaves -/
def mvR (τ σ : St) (nB : Nat) (o : Int32) (ln : Nat → Nat) (most n T : Nat) (y : Int32) (σ' : St) : Prop :=
  (n = 0 ∧ y = -2 ∧ ∀ q c, q ≠ 91 → q ≠ 109 → rd σ' q c = rd σ q c) ∨ (0 < n ∧ 200 < nB + T ∧ y = -3 ∧ ∀ q c, q ≠ 91 → q ≠ 109 → rd σ' q c = rd σ q c) ∨
  (0 < n ∧ nB + T ≤ 200 ∧ y = nI (totL (shN τ) ln most T) ∧ (∀ q c, (q < 59 ∨ 118 ≤ q) → rd σ' q c = rd σ q c) ∧ ∀ q c, 59 ≤ q → q < 118 → q ≠ 91 → q ≠ 109 → rd σ' q c = rd (mvG τ nB o (shN τ) ln most T) q c)
theorem S_moveM {τ : St} {h nS nK nB n most T s o k : Nat} {ln : Nat → Nat} (h0 : Inv0 h nS nK nB τ) (hs : s < nS) (ho : o < nS) (hk : k < nK) (hso : s ≠ o) (hm : most ≤ 999) (hm1 : 1 ≤ most) (hL : Line (elS τ (nI s) (nI k) 0 (shN τ)) (mdN τ) nB n ln) (hT : isT (shN τ) ln most n T) (hR : ∀ q c, 59 ≤ q → q < 118 → rd σ q c = rd τ q c) (hC : ∀ q c, (q < 59 ∨ 118 ≤ q) → sLaws q c → rd σ q c = rd τ q c) : Meth Γ l (d + 5) mX12_move [.ref 59, .int (nI s), .int (nI o), .int (nI k), .int (nI most)] σ (KI (mvR τ σ nB (nI o) ln most n T)) := by
  have zB := h0.2.2.2.2.2.1.1
  have zS := h0.2.1.1
  have zK := h0.2.2.1.1
  have b2 : rd τ 59 16 = nI nB := h0.2.2.2.2.2.1.2.2.1
  have s2 : rd τ 59 2 = nI nS := h0.2.1.2.2.1
  have k2 : rd τ 59 6 = nI nK := h0.2.2.1.2.2.1
  have hsh : ∀ b, b < nB → shN τ b ≤ 999 := fun b hb => (Bv h0 hb).2.2.2.1
  have h5 : ∀ b, b < nB → rd τ (b + 142) 5 = nI (shN τ b) := fun b hb => (Bv h0 hb).2.2.1
  have ham0 : ∀ b, b < nB → (((rd τ 76 b - rd τ 77 b) - rd τ 78 b) - rd τ 79 b) - rd τ 80 b = nI (shN τ b) := fun b hb => (Bv h0 hb).2.2.2.2.2.2.2
  have hd := hL.dist
  have hl : ∀ j, j < n → ln j < nB := fun j hj => (hL.2.1 j hj).1
  obtain ⟨t1, t2, t3⟩ := hT
  have hn := hL.1
  have agT : ∀ σ', (∀ q c, q ≠ 91 → q ≠ 109 → rd σ' q c = rd σ q c) → agr sR τ σ' := fun σ' hA q c hq => by
    have hz : q ≠ 91 ∧ q ≠ 109 ∧ (59 ≤ q ∧ q < 118 ∨ (q < 59 ∨ 118 ≤ q) ∧ sLaws q c) := by
      unfold sR at hq
      rcases hq with hq | hq
      · refine ⟨by unfold sLaws at hq; omega, by unfold sLaws at hq; omega, ?_⟩
        rcases Nat.lt_or_ge q 59 with r | r
        · exact Or.inr ⟨Or.inl r, hq⟩
        · rcases Nat.lt_or_ge q 118 with r2 | r2
          · exact Or.inl ⟨r, r2⟩
          · exact Or.inr ⟨Or.inr r2, hq⟩
      · omega
    rw [hA q c hz.1 hz.2.1]
    rcases hz.2.2 with r | r
    · exact hR q c r.1 r.2
    · exact hC q c r.1 r.2
  generalize hKK : mvR τ σ nB (nI o) ln most n T = KK
  -- the takings
  have loopT : nB + T ≤ 200 → 0 < n → ∀ f t σt, t + f = T → (∀ q c, (q < 59 ∨ 118 ≤ q) → rd σt q c = rd σ q c) → (∀ q c, 59 ≤ q → q < 118 → q ≠ 91 → q ≠ 109 → rd σt q c = rd (mvG τ nB (nI o) (shN τ) ln most t) q c) → J Γ l (d + 5) mX12_move (KI KK) 172 [(0, .ref 59), (1, .int (nI s)), (2, .int (nI o)), (3, .int (nI k)), (4, .int (nI most)), (5, .int (nI (most - totL (shN τ) ln most t))), (6, .int (nI T)), (8, .int (nI t))] [] σt := by
    intro hr hn0 f
    induction f with
    | zero =>
      intro t σt ht hX hM
      have : t = T := by omega
      subst this
      have tl := totL_le (sh := shN τ) (ln := ln) (most := most) t
      refine w_X12_move_172 _ _ _ _ _ _ _ ⟨fun _ => KI.mk ?_, fun q => absurd (Int32.le_refl _) q⟩
      rw [← hKK]
      refine Or.inr (Or.inr ⟨hn0, hr, ?_, hX, hM⟩)
      rw [nI_subn (by omega)]
      congr 1
      omega
    | succ f ih =>
      intro t σt ht hX hM
      have htn : t < n := by omega
      have tl := totL_le (sh := shN τ) (ln := ln) (most := most) t
      have tlt := t2 t (by omega)
      have lt := hl t htn
      have It := mvG_inv (most := most) h0 (show o < 12 by omega) hl hd h5 hsh t (by omega) (by omega)
      have St := mvG_same (σ := τ) (o := nI o) (sh := shN τ) (most := most) hl t (by omega) (by omega)
      have G5 := mvG_5 (σ := τ) (o := nI o) (most := most) hl hd h5 t (by omega) (by omega)
      have G71 := mvG_71 (σ := τ) (o := nI o) (sh := shN τ) (most := most) hl t (by omega) (by omega)
      have nx := ih (t + 1)
      rw [show mvG τ nB (nI o) (shN τ) ln most (t + 1) = mvS (mvG τ nB (nI o) (shN τ) ln most t) (nB + t) (ln t) (nI o) (min (most - totL (shN τ) ln most t) (shN τ (ln t))) from rfl, show totL (shN τ) ln most (t + 1) = totL (shN τ) ln most t + min (most - totL (shN τ) ln most t) (shN τ (ln t)) from rfl] at nx
      generalize hG : mvG τ nB (nI o) (shN τ) ln most t = G at *
      have agG : agr sR G σt := fun q c hq => by
        rcases Nat.lt_or_ge q 59 with r | r
        · have hq2 : sLaws q c := by
            unfold sR at hq
            rcases hq with hq | hq
            · exact hq
            · omega
          rw [hX q c (Or.inl r), hC q c (Or.inl r) hq2]
          refine (St q c ?_ ?_ ?_ ?_ ?_ ?_).symm <;> (unfold sLaws at hq2; omega)
        · rcases Nat.lt_or_ge q 118 with r2 | r2
          · exact hM q c r r2 (by unfold sR sLaws at hq; omega) (by unfold sR sLaws at hq; omega)
          · have hq2 : sLaws q c := by
              unfold sR at hq
              rcases hq with hq | hq
              · exact hq
              · omega
            rw [hX q c (Or.inr r2), hC q c (Or.inr r2) hq2]
            refine (St q c ?_ ?_ ?_ ?_ ?_ ?_).symm <;> (unfold sLaws at hq2; omega)
      have hamt : ∀ b, b < nB + t → (((rd σt 76 b - rd σt 77 b) - rd σt 78 b) - rd σt 79 b) - rd σt 80 b = nI (shN G b) := fun b hb => by
        rw [hM 76 b (by omega) (by omega) (by omega) (by omega), hM 77 b (by omega) (by omega) (by omega) (by omega), hM 78 b (by omega) (by omega) (by omega) (by omega), hM 79 b (by omega) (by omega) (by omega) (by omega), hM 80 b (by omega) (by omega) (by omega) (by omega)]
        exact (Bv It hb).2.2.2.2.2.2.2
      have shG : ∀ b, b < nB → shN G b = shN τ b - amL (shN τ) ln most t b := fun b hb => by
        have := hsh b hb
        have e := G5 b hb
        show (rd G (b + 142) 5).toNatClampNeg = _
        rw [e, cl (by omega)]
      have mdG : ∀ b, b < nB → mdN G b = mdN τ b := fun b hb => by
        unfold mdN
        rw [St (b + 142) 3 (by omega) (by omega) (by omega) (by omega) (by omega) (by omega)]
      have elG : ∀ b, b < nB + t → (elS G (nI s) (nI k) 0 (shN G) b = true ↔ b < nB ∧ elS τ (nI s) (nI k) 0 (fun b => shN τ b - amL (shN τ) ln most t b) b = true) := fun b hb => by
        rcases Nat.lt_or_ge b nB with c | c
        · have em : mayM G 0 b = mayM τ 0 b := mayM_at (fun q c hq => by
            refine St q c ?_ ?_ ?_ ?_ ?_ ?_ <;> omega) (St 71 b (by omega) (by omega) (by omega) (by omega) (by omega) (by omega)) (St 72 b (by omega) (by omega) (by omega) (by omega) (by omega) (by omega)) (St 74 b (by omega) (by omega) (by omega) (by omega) (by omega) (by omega))
          rw [elS_iff, elS_iff, St 71 b (by omega) (by omega) (by omega) (by omega) (by omega) (by omega), St 72 b (by omega) (by omega) (by omega) (by omega) (by omega) (by omega), shG b c, em]
          exact ⟨fun r => ⟨c, r⟩, fun r => r.2⟩
        · have e71 := G71 (b - nB) (by omega)
          rw [show nB + (b - nB) = b by omega] at e71
          rw [elS_iff, e71]
          refine ⟨fun r => ?_, fun r => absurd r.1 (by omega)⟩
          have := (nI_inj (by omega) (by omega)).mp r.1
          omega
      refine w_X12_move_172 _ _ _ _ _ _ _ ⟨fun q => absurd ((nI_lei (by omega) (by omega)).mp q) (by omega), fun _ => ?_⟩
      refine (S_eldest (d := d) It agG (nI s) (nI k) 0 hamt (fun b hb => (Bv It hb).2.2.2.1)).mono ?_
      rintro v σ1 ⟨x, rfl, hx, ha⟩
      have hx2 : eldA (elS τ (nI s) (nI k) 0 (fun b => shN τ b - amL (shN τ) ln most t b)) (mdN τ) nB x := by
        rcases hx with ⟨rfl, hz⟩ | ⟨b, hb, rfl, hz, hmin⟩
        · exact Or.inl ⟨rfl, fun b hb r => hz b (by omega) ((elG b (by omega)).mpr ⟨hb, r⟩)⟩
        · obtain ⟨hb2, hz2⟩ := (elG b hb).mp hz
          refine Or.inr ⟨b, hb2, rfl, hz2, fun c hc ec => ?_⟩
          have := hmin c (by omega) ((elG c (by omega)).mpr ⟨hc, ec⟩)
          rw [mdG b hb2, mdG c hc] at this
          exact this
      rcases eldJ hL (by omega) tlt hx2 with ⟨q, -⟩ | ⟨-, rfl⟩
      · omega
      have M1 : ∀ q c, 59 ≤ q → q < 118 → q ≠ 91 → q ≠ 109 → rd σ1 q c = rd G q c := fun q c r1 r2 r3 r4 => (ha q c (by unfold oM; omega)).trans (hM q c r1 r2 r3 r4)
      have X1 : ∀ q c, (q < 59 ∨ 118 ≤ q) → rd σ1 q c = rd σ q c := fun q c r => (ha q c (by unfold oM; omega)).trans (hX q c r)
      have am : (((rd σ1 76 (ln t) - rd σ1 77 (ln t)) - rd σ1 78 (ln t)) - rd σ1 79 (ln t)) - rd σ1 80 (ln t) = nI (shN τ (ln t)) := by
        have := hamt (ln t) (by omega)
        rw [shG _ lt, amL_not t (ln t) fun i hi => hd i t hi htn, Nat.sub_zero] at this
        rw [ha 76 _ (by unfold oM; omega), ha 77 _ (by unfold oM; omega), ha 78 _ (by unfold oM; omega), ha 79 _ (by unfold oM; omega), ha 80 _ (by unfold oM; omega)]
        exact this
      have shl := hsh _ lt
      have ek : rd G 72 (ln t) = nI k := by
        rw [St 72 _ (by omega) (by omega) (by omega) (by omega) (by omega) (by omega)]
        exact (elS_iff.mp (hL.2.1 t htn).2).2.1
      have eN : rd G 59 16 = nI (nB + t) := It.2.2.2.2.2.1.2.2.1
      have one : ∀ v, v = min (most - totL (shN τ) ln most t) (shN τ (ln t)) → Meth Γ l (d + 4) mX12_addBatch [.ref 59, .int (nI o), .int (nI k), .int (rd σ1 73 (ln t)), .int (rd σ1 74 (ln t)), .int (nI v), .int (nI (ln t))] (wr σ1 78 (ln t) (rd σ1 78 (ln t) + nI v)) (KV fun σ5 => ∀ x6 : Int32, x6 = nI t + 1 → J Γ l (d + 5) mX12_move (KI KK) 172 [(0, .ref 59), (1, .int (nI s)), (2, .int (nI o)), (3, .int (nI k)), (4, .int (nI most)), (5, .int (nI (most - totL (shN τ) ln most t) - nI v)), (6, .int (nI T)), (8, .int x6)] [] σ5) := by
        intro v hv
        rw [← hv] at nx
        refine M_X12_addBatch _ _ _ _ _ _ (w_X12_addBatch_0 _ _ _ _ _ _ ?_)
        rw [rdn (by omega), rdn (by omega), M1 59 16 (by omega) (by omega) (by omega) (by omega), eN, M1 59 1 (by omega) (by omega) (by omega) (by omega), cl (n := nB + t) (by omega), nI_s (nB + t)]
        refine ⟨in_nI (by omega) (by omega), rfl, fun x6 h6 => ?_⟩
        rw [nI_s] at h6
        subst h6
        rw [nI_subn (by omega), Nat.sub_sub]
        refine nx _ (by omega) (fun q c r => ?_) (fun q c r1 r2 r3 r4 => ?_)
        · rw [rdn (by omega), rdn (by omega), rdn (by omega), rdn (by omega), rdn (by omega), rdn (by omega), rdn (by omega), rdn (by omega), rdn (by omega)]
          exact X1 q c r
        · rw [mv_rd]
          simp only [rd_wr]
          rw [M1 73 _ (by omega) (by omega) (by omega) (by omega), M1 74 _ (by omega) (by omega) (by omega) (by omega), M1 78 _ (by omega) (by omega) (by omega) (by omega), ek]
          by_cases z1 : q = 59 ∧ c = 16
          · rw [if_pos z1, if_pos (Or.inr z1)]
          rw [if_neg z1, if_neg (c := q = 17 ∧ c = 1 ∨ q = 59 ∧ c = 16) (by omega), if_neg (c := q = nB + t + 142) (by omega), if_neg (c := q = ln t + 142 ∧ c = 5) (by omega)]
          by_cases z2 : q = 78 ∧ c = ln t
          · obtain ⟨rfl, rfl⟩ := z2
            rw [if_neg (by omega), if_neg (by omega), if_neg (by omega), if_neg (by omega), if_neg (by omega), if_neg (by omega), if_neg (by omega), if_pos ⟨rfl, rfl⟩, if_pos (by omega)]
          rw [if_neg (c := q = ln t + 142 ∧ c = 7 ∨ q = 78 ∧ c = ln t) (by omega), if_neg z2]
          by_cases z3 : q = 82 ∧ c = nB + t
          · obtain ⟨rfl, rfl⟩ := z3
            simp
          by_cases z4 : q = 76 ∧ c = nB + t
          · obtain ⟨rfl, rfl⟩ := z4
            simp
          by_cases z5 : q = 75 ∧ c = nB + t
          · obtain ⟨rfl, rfl⟩ := z5
            simp
          by_cases z6 : q = 74 ∧ c = nB + t
          · obtain ⟨rfl, rfl⟩ := z6
            simp
          by_cases z7 : q = 73 ∧ c = nB + t
          · obtain ⟨rfl, rfl⟩ := z7
            simp
          by_cases z8 : q = 72 ∧ c = nB + t
          · obtain ⟨rfl, rfl⟩ := z8
            simp
          by_cases z9 : q = 71 ∧ c = nB + t
          · obtain ⟨rfl, rfl⟩ := z9
            simp
          rw [if_neg z3, if_neg z4, if_neg z5, if_neg z6, if_neg z7, if_neg z8, if_neg z9, if_neg z9, if_neg z8, if_neg z7, if_neg z6, if_neg z5, if_neg z4, if_neg z3]
          exact M1 q c r1 r2 r3 r4
      refine ⟨_, rfl, in_nI (by omega) (by omega), ?_⟩
      rw [cl (n := ln t) (by omega), am, nI_lei (by omega) (by omega)]
      refine ⟨fun hle => ⟨in_nI (by omega) (by omega), one _ (by omega)⟩, fun hle => ⟨in_nI (by omega) (by omega), fun x6 h6 => ⟨in_nI (by omega) (by omega), ?_⟩⟩⟩
      subst h6
      exact one _ (by omega)
  -- behind the count
  have fin : 0 < n → ∀ σj, (∀ q c, q ≠ 91 → q ≠ 109 → rd σj q c = rd σ q c) → (rd σj 59 16 + nI T ≤ 200 → J Γ l (d + 5) mX12_move (KI KK) 172 [(0, .ref 59), (1, .int (nI s)), (2, .int (nI o)), (3, .int (nI k)), (4, .int (nI most)), (5, .int (nI most)), (6, .int (nI T)), (8, .int 0)] [] σj) ∧ (¬ rd σj 59 16 + nI T ≤ 200 → KI KK (some (.int (-3))) σj) := by
    intro hn0 σj hA
    rw [hA 59 16 (by omega) (by omega), hR 59 16 (by omega) (by omega), b2, nI_addn, show nI (nB + T) ≤ (200 : Int32) ↔ nB + T ≤ 200 from nI_lei (b := 200) (by omega) (by omega)]
    refine ⟨fun q => ?_, fun q => KI.mk ?_⟩
    · exact loopT q hn0 T 0 σj (by omega) (fun q c r => hA q c (by omega) (by omega)) (fun q c r1 r2 r3 r4 => (hA q c r3 r4).trans (hR q c r1 r2))
    · rw [← hKK]
      exact Or.inr (Or.inl ⟨hn0, by omega, rfl, hA⟩)
  have hamA : ∀ σj, (∀ q c, q ≠ 91 → q ≠ 109 → rd σj q c = rd σ q c) → ∀ b, b < nB → (((rd σj 76 b - rd σj 77 b) - rd σj 78 b) - rd σj 79 b) - rd σj 80 b = nI (shN τ b) := fun σj hA b hb => by
    rw [hA 76 b (by omega) (by omega), hA 77 b (by omega) (by omega), hA 78 b (by omega) (by omega), hA 79 b (by omega) (by omega), hA 80 b (by omega) (by omega), hR 76 b (by omega) (by omega), hR 77 b (by omega) (by omega), hR 78 b (by omega) (by omega), hR 79 b (by omega) (by omega), hR 80 b (by omega) (by omega)]
    exact ham0 b hb
  -- the count
  have loopC : 0 < n → ∀ f j σj x, j + f = T → (∀ q c, q ≠ 91 → q ≠ 109 → rd σj q c = rd σ q c) → (∀ b, b < nB → rd σj 109 b = if trd ln j b = true then 1 else 0) → (totL (shN τ) ln most j < most → (j = n ∧ x = -1) ∨ (j < n ∧ x = nI (ln j))) → J Γ l (d + 5) mX12_move (KI KK) 90 [(0, .ref 59), (1, .int (nI s)), (2, .int (nI o)), (3, .int (nI k)), (4, .int (nI most)), (5, .int (nI (most - totL (shN τ) ln most j))), (6, .int (nI j)), (7, .int x)] [] σj := by
    intro hn0 f
    induction f with
    | zero =>
      intro j σj x hj hA htr hx
      have : j = T := by omega
      subst this
      have tl := totL_le (sh := shN τ) (ln := ln) (most := most) j
      refine w_X12_move_90 _ _ _ _ _ _ _ ⟨fun _ => fin hn0 σj hA, fun q => ⟨fun _ => fin hn0 σj hA, fun q2 => ?_⟩⟩
      rw [show nI (most - totL (shN τ) ln most j) ≤ (0 : Int32) ↔ most - totL (shN τ) ln most j ≤ 0 from nI_lei (b := 0) (by omega) (by omega)] at q
      rcases hx (by omega) with ⟨-, rfl⟩ | ⟨r, -⟩
      · exact absurd (by decide) q2
      · have := t3 r
        omega
    | succ f ih =>
      intro j σj x hj hA htr hx
      have tl := totL_le (sh := shN τ) (ln := ln) (most := most) j
      have tlt := t2 j (by omega)
      rcases hx tlt with ⟨r, -⟩ | ⟨hjn, rfl⟩
      · omega
      have lj := hl j hjn
      have shl := hsh _ lj
      have nx := ih (j + 1)
      rw [show totL (shN τ) ln most (j + 1) = totL (shN τ) ln most j + min (most - totL (shN τ) ln most j) (shN τ (ln j)) from rfl] at nx
      have one : ∀ v, v = min (most - totL (shN τ) ln most j) (shN τ (ln j)) → Meth Γ l (d + 4) mX12_nextOf [.ref 59, .int (nI s), .int (nI k)] (wr σj 109 (ln j) 1) (KI fun x5 σ4 => J Γ l (d + 5) mX12_move (KI KK) 90 [(0, .ref 59), (1, .int (nI s)), (2, .int (nI o)), (3, .int (nI k)), (4, .int (nI most)), (5, .int (nI (most - totL (shN τ) ln most j) - nI v)), (6, .int (nI (j + 1))), (7, .int x5)] [] σ4) := by
        intro v hv
        rw [← hv] at nx
        have A2 : ∀ q c, q ≠ 91 → q ≠ 109 → rd (wr σj 109 (ln j) 1) q c = rd σ q c := fun q c r1 r2 => by
          rw [rdn (by omega)]
          exact hA q c r1 r2
        have tr2 : ∀ b, b < nB → rd (wr σj 109 (ln j) 1) 109 b = if trd ln (j + 1) b = true then 1 else 0 := fun b hb => by
          have e : trd ln (j + 1) b = (trd ln j b || decide (b = ln j)) := rfl
          rw [e]
          by_cases c : b = ln j
          · subst c
            rw [rdy]
            simp
          · rw [rdn (by omega), htr b hb]
            simp [c]
        refine (S_nextOf (d := d) h0 (agT _ A2) (nI s) (nI k) (hamA _ A2) hsh tr2).mono ?_
        rintro w σ4 ⟨x5, rfl, hx5, ha⟩
        refine ⟨_, rfl, ?_⟩
        rw [nI_subn (by omega), Nat.sub_sub]
        refine nx σ4 x5 (by omega) (fun q c r1 r2 => (ha q c (by unfold oM; omega)).trans (A2 q c r1 r2)) (fun b hb => (ha 109 b (by unfold oM; omega)).trans (tr2 b hb)) (fun hlt => ?_)
        have hlt2 : totL (shN τ) ln most (j + 1) < most := by
          show totL (shN τ) ln most j + min (most - totL (shN τ) ln most j) (shN τ (ln j)) < most
          omega
        rw [elS_congr fun b => trd_am hlt2] at hx5
        exact eldJ hL (by omega) hlt2 hx5
      refine w_X12_move_90 _ _ _ _ _ _ _ ⟨fun q => ?_, fun _ => ⟨fun q => absurd q (nlt0 (by omega)), fun _ => ?_⟩⟩
      · rw [show nI (most - totL (shN τ) ln most j) ≤ (0 : Int32) ↔ most - totL (shN τ) ln most j ≤ 0 from nI_lei (b := 0) (by omega) (by omega)] at q
        omega
      rw [cl (n := ln j) (by omega), hamA σj hA _ lj, nI_lei (by omega) (by omega)]
      refine ⟨in_nI (by omega) (by omega), in_nI (by omega) (by omega), fun hle x3 h3 => ?_, fun hle => ⟨in_nI (by omega) (by omega), fun x7 h7 x8 h8 => ?_⟩⟩
      · rw [nI_s] at h3
        subst h3
        exact one _ (by omega)
      · rw [nI_s] at h8
        subst h7 h8
        exact one _ (by omega)
  -- none is tried yet
  have loop0 : 0 < n → ∀ f i σi, i + f = nB → (∀ q c, q ≠ 91 → q ≠ 109 → rd σi q c = rd σ q c) → (∀ b, b < i → rd σi 109 b = 0) → J Γ l (d + 5) mX12_move (KI KK) 59 [(0, .ref 59), (1, .int (nI s)), (2, .int (nI o)), (3, .int (nI k)), (4, .int (nI most)), (5, .int (nI most)), (6, .int 0), (7, .int (nI i))] [] σi := by
    intro hn0 f
    induction f with
    | zero =>
      intro i σi hi hA h109
      have : i = nB := by omega
      subst this
      have e : rd σi 59 16 = nI i := (hA 59 16 (by omega) (by omega)).trans ((hR 59 16 (by omega) (by omega)).trans b2)
      refine w_X12_move_59 _ _ _ _ _ _ _ ⟨fun _ => ?_, fun q => absurd (yle e (Nat.le_refl _) (by omega)) q⟩
      refine (S_nextOf (d := d) (tr := trd ln 0) h0 (agT _ hA) (nI s) (nI k) (hamA _ hA) hsh (fun b hb => by rw [h109 b hb]; rfl)).mono ?_
      rintro w σ4 ⟨x5, rfl, hx5, ha⟩
      refine ⟨_, rfl, ?_⟩
      refine loopC hn0 T 0 σ4 x5 (by omega) (fun q c r1 r2 => (ha q c (by unfold oM; omega)).trans (hA q c r1 r2)) (fun b hb => (ha 109 b (by unfold oM; omega)).trans (h109 b hb)) (fun hlt => ?_)
      rw [elS_congr fun b => trd_am (j := 0) hlt] at hx5
      exact eldJ hL (by omega) hlt hx5
    | succ f ih =>
      intro i σi hi hA h109
      have e : rd σi 59 16 = nI nB := (hA 59 16 (by omega) (by omega)).trans ((hR 59 16 (by omega) (by omega)).trans b2)
      refine w_X12_move_59 _ _ _ _ _ _ _ ⟨fun q => absurd q (nle e (by omega) (by omega)), fun _ => ⟨in_nI (by omega) (by omega), fun x4 h4 => ?_⟩⟩
      rw [nI_s] at h4
      subst h4
      rw [cl (n := i) (by omega)]
      refine ih (i + 1) _ (by omega) (fun q c r1 r2 => by rw [rdn (by omega)]; exact hA q c r1 r2) (fun b hb => ?_)
      by_cases c : b = i
      · subst c
        exact rdy
      · rw [rdn (by omega)]
        exact h109 b (by omega)
  refine M_X12_move _ _ _ _ (w_X12_move_0 _ _ _ _ ?_)
  have b12 : nI s = nI o ↔ s = o := nI_inj (by omega) (by omega)
  refine ⟨fun _ => ⟨fun _ => ⟨fun q => absurd (b12.mp q) hso, fun _ => ⟨fun _ => ?_, fun q => absurd ?_ q⟩⟩, fun q => absurd ?_ q⟩, fun q => absurd ?_ q⟩
  · have hA0 : ∀ q c, q ≠ 91 → q ≠ 109 → rd σ q c = rd σ q c := fun _ _ _ _ => rfl
    refine (S_eldest (d := d) h0 (agT _ hA0) (nI s) (nI k) 0 (hamA _ hA0) hsh).mono ?_
    rintro w σ4 ⟨x5, rfl, hx5, ha⟩
    have A4 : ∀ q c, q ≠ 91 → q ≠ 109 → rd σ4 q c = rd σ q c := fun q c r1 r2 => ha q c (by unfold oM; omega)
    have z0 : totL (shN τ) ln most 0 = 0 := rfl
    refine ⟨_, rfl, fun q => ?_, fun q => ?_⟩
    · rcases eldJ (most := most) (j := 0) hL (by omega) (by omega) hx5 with ⟨r, rfl⟩ | ⟨r, rfl⟩
      · exact absurd q (by decide)
      · exact loop0 r nB 0 σ4 (by omega) A4 (fun b hb => absurd hb (by omega))
    · rcases eldJ (most := most) (j := 0) hL (by omega) (by omega) hx5 with ⟨r, rfl⟩ | ⟨r, rfl⟩
      · refine KI.mk ?_
        rw [← hKK]
        exact Or.inl ⟨r.symm, rfl, A4⟩
      · exact absurd (nI_pos' (by have := hl 0 r; omega)) q
  · exact ⟨(nI_lei (a := 1) (by omega) (by omega)).mpr hm1, (nI_lei (b := 999) (by omega) (by omega)).mpr hm⟩
  · exact (cM (n := nS) (by omega) ((hR 59 2 (by omega) (by omega)).trans s2)).mpr (rng_lt ho (by omega))
  · exact ⟨(cM (n := nS) (by omega) ((hR 59 2 (by omega) (by omega)).trans s2)).mpr (rng_lt hs (by omega)), (cM (n := nK) (by omega) ((hR 59 6 (by omega) (by omega)).trans k2)).mpr (rng_lt hk (by omega))⟩
end NX

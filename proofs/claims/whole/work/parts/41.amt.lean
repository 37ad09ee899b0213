/-! AMOUNTS taken along a line; the eldest -/
def totL (sh ln : Nat → Nat) (most : Nat) : Nat → Nat
  | 0 => 0
  | j + 1 => totL sh ln most j + min (most - totL sh ln most j) (sh (ln j))
def amL (sh ln : Nat → Nat) (most : Nat) : Nat → Nat → Nat
  | 0, _ => 0
  | j + 1, b => if b = ln j then min (most - totL sh ln most j) (sh (ln j)) else amL sh ln most j b
section AM
variable {sh ln : Nat → Nat} {most : Nat}
theorem totL_le : ∀ j, totL sh ln most j ≤ most
  | 0 => Nat.zero_le _
  | j + 1 => by
    have := totL_le j
    unfold totL
    omega
theorem totL_mono : ∀ j, totL sh ln most j ≤ totL sh ln most (j + 1) := fun j => by
  rw [show totL sh ln most (j + 1) = totL sh ln most j + min (most - totL sh ln most j) (sh (ln j)) from rfl]
  omega
theorem amL_le : ∀ j b, amL sh ln most j b ≤ sh b
  | 0, _ => Nat.zero_le _
  | j + 1, b => by
    unfold amL
    split
    · rename_i e
      subst e
      omega
    · exact amL_le j b
theorem amL_not : ∀ j b, (∀ i, i < j → ln i ≠ b) → amL sh ln most j b = 0
  | 0, _, _ => rfl
  | j + 1, b, h => by
    unfold amL
    rw [if_neg (fun e => h j (by omega) e.symm)]
    exact amL_not j b fun i hi => h i (by omega)
theorem amL_all : ∀ j, totL sh ln most j < most → ∀ i, i < j → amL sh ln most j (ln i) = sh (ln i)
  | 0, _, i, hi => absurd hi (by omega)
  | j + 1, ht, i, hi => by
    have e : totL sh ln most (j + 1) = totL sh ln most j + min (most - totL sh ln most j) (sh (ln j)) := rfl
    have le := totL_le (sh := sh) (ln := ln) (most := most) j
    unfold amL
    by_cases c : ln i = ln j
    · rw [if_pos c, c]
      omega
    · rw [if_neg c]
      rcases Nat.lt_or_ge i j with q | q
      · exact amL_all j (by omega) i q
      · exact absurd (by rw [show i = j by omega]) c
theorem amL_end {n : Nat} (hd : ∀ i j, i < j → j < n → ln i ≠ ln j) : ∀ m j, j + m = n → totL sh ln most j = most → totL sh ln most n = most ∧ amL sh ln most n = amL sh ln most j
  | 0, j, hj, ht => by
    have : j = n := by omega
    subst this
    exact ⟨ht, rfl⟩
  | m + 1, j, hj, ht => by
    have e : totL sh ln most (j + 1) = totL sh ln most j + min (most - totL sh ln most j) (sh (ln j)) := rfl
    obtain ⟨h1, h2⟩ := amL_end hd m (j + 1) (by omega) (by omega)
    refine ⟨h1, h2.trans ?_⟩
    funext b
    show (if b = ln j then min (most - totL sh ln most j) (sh (ln j)) else amL sh ln most j b) = _
    by_cases c : b = ln j
    · rw [if_pos c, c, amL_not j (ln j) fun i hi => hd i j hi (by omega)]
      omega
    · rw [if_neg c]
end AM
theorem Line.dist {el : Nat → Bool} {md : Nat → Nat} {i n : Nat} {ln : Nat → Nat} (h : Line el md i n ln) : ∀ a b, a < b → b < n → ln a ≠ ln b := fun a b h1 h2 e => by
  have := h.2.2.2 a b h1 h2
  rw [e] at this
  omega
def elS (τ : St) (s k u : Int32) (sh : Nat → Nat) (b : Nat) : Bool := decide (rd τ 71 b = s) && (decide (rd τ 72 b = k) && (decide (0 < sh b) && mayM τ u b))
theorem elS_B {τ : St} {s k u : Int32} {b : Nat} : elB τ s k u b = elS τ s k u (shN τ) b := rfl
/-- what eldest answers: -1, or the least by md and number of those that el takes -/
def eldA (el : Nat → Bool) (md : Nat → Nat) (n : Nat) (x : Int32) : Prop := (x = -1 ∧ ∀ b, b < n → ¬ el b = true) ∨ ∃ b, b < n ∧ x = nI b ∧ el b = true ∧ ∀ c, c < n → el c = true → md b < md c ∨ (md b = md c ∧ b ≤ c)
section EL
variable {Γ : GG} {l : Launch} {d : Nat} {σ : St}
theorem S_eldest {τ : St} {h nS nK nB : Nat} (hI : Inv0 h nS nK nB τ) (hr : agr sR τ σ) (s k u : Int32) {sh : Nat → Nat} (ham : ∀ b, b < nB → (((rd σ 76 b - rd σ 77 b) - rd σ 78 b) - rd σ 79 b) - rd σ 80 b = nI (sh b)) (hsh : ∀ b, b < nB → sh b ≤ 999) : Meth Γ l (d + 4) mX12_eldest [.ref 59, .int s, .int k, .int u] σ (KI fun x σ' => eldA (elS τ s k u sh) (mdN τ) nB x ∧ agr oM σ σ') := by
  have zB := hI.2.2.2.2.2.1.1
  have b2 : rd τ 59 16 = nI nB := hI.2.2.2.2.2.1.2.2.1
  generalize hel : elS τ s k u sh = el
  have loop : ∀ m i σi best, i + m = nB → agr oM σ σi → eldA el (mdN τ) i best → J Γ l (d + 4) mX12_eldest (KI fun x σ' => eldA el (mdN τ) nB x ∧ agr oM σ σ') 6 [(0, .ref 59), (1, .int s), (2, .int k), (3, .int u), (4, .int best), (5, .int (nI i))] [] σi := by
    intro m
    induction m with
    | zero =>
      intro i σi best hi ag hb
      have : i = nB := by omega
      subst this
      have e : rd σi 59 16 = nI i := (ag 59 16 (by unfold oM; omega)).trans ((hr 59 16 (by unfold sR; omega)).trans b2)
      exact w_X12_eldest_6 _ _ _ _ _ ⟨fun _ => KI.mk ⟨hb, ag⟩, fun q => absurd (yle e (Nat.le_refl _) (by omega)) q⟩
    | succ m ih =>
      intro i σi best hi ag hb
      have hib : i < nB := by omega
      have agR : agr sR τ σi := agr.tr hr (ag.sub fun _ _ => sR_oM)
      have e : rd σi 59 16 = nI nB := (agR 59 16 (by unfold sR; omega)).trans b2
      have ci : (nI i).toNatClampNeg = i := cl (by omega)
      obtain ⟨-, -, -, -, -, m5, m6, -⟩ := Bv hI hib
      have shi := hsh i hib
      have am : (((rd σi 76 i - rd σi 77 i) - rd σi 78 i) - rd σi 79 i) - rd σi 80 i = nI (sh i) := by
        rw [ag 76 i (by unfold oM; omega), ag 77 i (by unfold oM; omega), ag 78 i (by unfold oM; omega), ag 79 i (by unfold oM; omega), ag 80 i (by unfold oM; omega)]
        exact ham i hib
      have eli : el i = (decide (rd τ 71 i = s) && (decide (rd τ 72 i = k) && (decide (0 < sh i) && mayM τ u i))) := by rw [← hel]; rfl
      have nx : ¬ el i = true → ∀ σ2, agr oM σ σ2 → ∀ x : Int32, x = nI i + 1 → J Γ l (d + 4) mX12_eldest (KI fun x σ' => eldA el (mdN τ) nB x ∧ agr oM σ σ') 6 [(0, .ref 59), (1, .int s), (2, .int k), (3, .int u), (4, .int best), (5, .int x)] [] σ2 := by
        intro he σ2 ag2 x hx
        rw [nI_s] at hx
        subst hx
        refine ih (i + 1) σ2 best (by omega) ag2 ?_
        rcases hb with ⟨q1, q2⟩ | ⟨b, q1, q2, q3, q4⟩
        · refine Or.inl ⟨q1, fun b hb => ?_⟩
          rcases Nat.lt_or_ge b i with c | c
          · exact q2 b c
          · rw [show b = i by omega]
            exact he
        · refine Or.inr ⟨b, by omega, q2, q3, fun c hc ec => ?_⟩
          rcases Nat.lt_or_ge c i with c' | c'
          · exact q4 c c' ec
          · rw [show c = i by omega] at ec
            exact absurd ec he
      refine w_X12_eldest_6 _ _ _ _ _ ⟨fun q => absurd q (nle e hib (by omega)), fun _ => ⟨in_nI (by omega) (by omega), ?_⟩⟩
      rw [ci, agR 71 i (by unfold sR; omega), agR 72 i (by unfold sR; omega), am, show (0 : Int32) = nI 0 from rfl, nI_lei (by omega) (by omega)]
      refine ⟨fun c0 => ⟨fun c1 => ⟨in_nI (by omega) (by omega), fun c5 => nx ?_ σi ag, fun c5 => ?_⟩, fun c1 => nx ?_ σi ag⟩, fun c0 => nx ?_ σi ag⟩
      · rw [eli]
        simp [show ¬ 0 < sh i by omega]
      · refine (S_mayG hI agR hib u).mono ?_
        rintro v σ2 ⟨x, rfl, rfl, ha⟩
        have ag2 := agr.tr ag ha
        have agR2 : agr sR τ σ2 := agr.tr hr (ag2.sub fun _ _ => sR_oM)
        refine ⟨_, rfl, fun q => nx ?_ σ2 ag2, fun q => ?_⟩
        · rw [show nI 0 = (0 : Int32) from rfl, bI_0] at q
          rw [eli]
          simp [q]
        · rw [show nI 0 = (0 : Int32) from rfl, bI_0, Classical.not_not] at q
          have he : el i = true := by
            rw [eli]
            simp [c0, c1, q, show 0 < sh i by omega]
          rcases hb with ⟨rfl, q2⟩ | ⟨b, q1, rfl, q3, q4⟩
          · refine ⟨fun _ x hx => ?_, fun q => absurd (by decide) q⟩
            rw [nI_s] at hx
            subst hx
            refine ih (i + 1) σ2 _ (by omega) ag2 (Or.inr ⟨i, by omega, rfl, he, fun c hc ec => ?_⟩)
            rcases Nat.lt_or_ge c i with c' | c'
            · exact absurd ec (q2 c c')
            · rw [show c = i by omega]
              omega
          · have cb : (nI b).toNatClampNeg = b := cl (by omega)
            obtain ⟨-, -, -, -, -, w5, w6, -⟩ := Bv hI (show b < nB by omega)
            refine ⟨fun q => absurd q (nlt0 (by omega)), fun _ => ?_⟩
            rw [cb, agR2 74 b (by unfold sR; omega), agR2 74 i (by unfold sR; omega), w6, m6, nI_lei (by omega) (by omega)]
            refine ⟨in_nI (by omega) (by omega), fun hle x hx => ?_, fun hle x hx => ?_⟩
            · rw [nI_s] at hx
              subst hx
              refine ih (i + 1) σ2 _ (by omega) ag2 (Or.inr ⟨b, by omega, rfl, q3, fun c hc ec => ?_⟩)
              rcases Nat.lt_or_ge c i with c' | c'
              · exact q4 c c' ec
              · rw [show c = i by omega]
                omega
            · rw [nI_s] at hx
              subst hx
              refine ih (i + 1) σ2 _ (by omega) ag2 (Or.inr ⟨i, by omega, rfl, he, fun c hc ec => ?_⟩)
              rcases Nat.lt_or_ge c i with c' | c'
              · have := q4 c c' ec
                omega
              · rw [show c = i by omega]
                omega
      · rw [eli]
        simp [c1]
      · rw [eli]
        simp [c0]
  exact M_X12_eldest _ _ _ (w_X12_eldest_0 _ _ _ (loop nB 0 σ (-1) (by omega) agr.rf (Or.inl ⟨rfl, fun b hb => absurd hb (by omega)⟩)))
end EL

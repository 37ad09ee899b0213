/-! SUMS by day, the class' side: a list of days that rise -/
theorem dS_0 {sel : Nat → Bool} {day ask : Nat → Nat} {D : Nat} : ∀ n, ¬ dH sel day D n = true → dS sel day ask D n = 0
  | 0, _ => rfl
  | n + 1, h => by
    have h2 : ¬ (dH sel day D n || (sel n && decide (day n = D))) = true := h
    rw [Bool.or_eq_true, not_or] at h2
    show dS sel day ask D n + (if sel n = true ∧ day n = D then ask n else 0) = 0
    rw [dS_0 n h2.1, if_neg (fun q => h2.2 (by simp [q.1, q.2]))]
theorem dS_no {sel : Nat → Bool} {day ask : Nat → Nat} {D n : Nat} (h : ¬ (sel n = true ∧ day n = D)) : dS sel day ask D (n + 1) = dS sel day ask D n := by
  show dS sel day ask D n + (if sel n = true ∧ day n = D then ask n else 0) = _
  rw [if_neg h, Nat.add_zero]
theorem dS_yes {sel : Nat → Bool} {day ask : Nat → Nat} {D n : Nat} (h : sel n = true ∧ day n = D) : dS sel day ask D (n + 1) = dS sel day ask D n + ask n := by
  show dS sel day ask D n + (if sel n = true ∧ day n = D then ask n else 0) = _
  rw [if_pos h]
theorem dH_no {sel : Nat → Bool} {day : Nat → Nat} {D n : Nat} (h : ¬ (sel n = true ∧ day n = D)) : dH sel day D (n + 1) = true ↔ dH sel day D n = true := by
  show (dH sel day D n || (sel n && decide (day n = D))) = true ↔ _
  rw [Bool.or_eq_true, Bool.and_eq_true, decide_eq_true_eq]
  constructor
  · rintro (q | q)
    · exact q
    · exact absurd q h
  · exact Or.inl
theorem dH_yes {sel : Nat → Bool} {day : Nat → Nat} {D n : Nat} (h : sel n = true ∧ day n = D) : dH sel day D (n + 1) = true := by
  show (dH sel day D n || (sel n && decide (day n = D))) = true
  simp [h.1, h.2]
def DL (sel : Nat → Bool) (day : Nat → Nat) (m : Nat) (dl : Nat → Nat) (r : Nat) : Prop := m ≤ r ∧ (∀ i j, i < j → j < m → dl i < dl j) ∧ ∀ D, dH sel day D r = true ↔ ∃ i, i < m ∧ dl i = D
theorem DL.skip {sel : Nat → Bool} {day : Nat → Nat} {m r : Nat} {dl : Nat → Nat} (h : DL sel day m dl r) (hs : ¬ sel r = true) : DL sel day m dl (r + 1) :=
  ⟨by have := h.1; omega, h.2.1, fun D => (dH_no fun q => hs q.1).trans (h.2.2 D)⟩
theorem DL.same {sel : Nat → Bool} {day : Nat → Nat} {m r : Nat} {dl : Nat → Nat} (h : DL sel day m dl r) (hs : sel r = true) (hm : 0 < m) (hd : dl (m - 1) = day r) : DL sel day m dl (r + 1) := by
  refine ⟨by have := h.1; omega, h.2.1, fun D => ?_⟩
  by_cases c : day r = D
  · exact ⟨fun _ => ⟨m - 1, by omega, by rw [hd, c]⟩, fun _ => dH_yes ⟨hs, c⟩⟩
  · exact (dH_no fun q => c q.2).trans (h.2.2 D)
theorem DL.more {sel : Nat → Bool} {day : Nat → Nat} {m r : Nat} {dl : Nat → Nat} (h : DL sel day m dl r) (hs : sel r = true) (hlt : ∀ i, i < m → dl i < day r) : DL sel day (m + 1) (fun i => if i < m then dl i else day r) (r + 1) := by
  refine ⟨by have := h.1; omega, fun i j hij hj => ?_, fun D => ?_⟩
  · dsimp only
    rcases Nat.lt_or_ge j m with c | c
    · rw [if_pos (by omega), if_pos c]
      exact h.2.1 i j hij c
    · rw [if_pos (by omega), if_neg (by omega)]
      exact hlt i (by omega)
  · by_cases c : day r = D
    · exact ⟨fun _ => ⟨m, by omega, by dsimp only; rw [if_neg (by omega)]; exact c⟩, fun _ => dH_yes ⟨hs, c⟩⟩
    · rw [dH_no fun q => c q.2, h.2.2 D]
      constructor
      · rintro ⟨i, hi, e⟩
        exact ⟨i, by omega, by dsimp only; rw [if_pos hi]; exact e⟩
      · rintro ⟨i, hi, e⟩
        dsimp only at e
        rcases Nat.lt_or_ge i m with c' | c'
        · rw [if_pos c'] at e
          exact ⟨i, c', e⟩
        · rw [if_neg (by omega)] at e
          exact absurd e c
def latD (m : Nat) (dl : Nat → Nat) : Int32 := if m = 0 then -1 else nI (dl (m - 1))
section SY
variable {Γ : GG} {l : Launch} {d : Nat} {σ : St}
theorem S_sumDays {s k : Int32} {wt K h n : Nat} (hw : wt < 70) (hK : K < 1500) (hh : h < 36000) (hn : n ≤ 600) (e : rd σ 34 7 = nI n) (hR : ∀ r, r < n → IRow h r σ) (hS : ∀ r r', r < r' → r' < n → (rd σ 37 r).toNatClampNeg ≤ (rd σ 37 r').toNatClampNeg) : Meth Γ l d mX8_sumDays [.ref 34, .int s, .int k, .int (nI (wt / 10)), .int (nI (wt % 10)), .int (nI K)] σ (KV fun σ' => ∃ m dl, DL (selR σ s k (nI (wt % 10)) (wt / 10) K) (dayR σ) m dl n ∧ rd σ' 34 9 = nI m ∧ (∀ i, i < m → rd σ' 42 i = nI (dS (selR σ s k (nI (wt % 10)) (wt / 10) K) (dayR σ) (askR σ) (dl i) n)) ∧ ∀ q c, q ≠ 42 → ¬ (q = 34 ∧ c = 9) → rd σ' q c = rd σ q c) := by
  generalize hsel : selR σ s k (nI (wt % 10)) (wt / 10) K = sel
  have mono : ∀ r r', r ≤ r' → r' < n → dayR σ r ≤ dayR σ r' := fun r r' h1 h2 => by
    have f : ∀ x, x < n → dayR σ x = (rd σ 37 x).toNatClampNeg / 24 := fun x hx => by
      obtain ⟨s', k', t, st, w, a, g, -, ⟨x0, x1, x2, -⟩, ⟨y0, y1, y2, -⟩⟩ := hR x hx
      unfold dayR
      rw [x2, y2]
    rcases Nat.lt_or_ge r r' with c | c
    · have := hS r r' c h2
      rw [f r (by omega), f r' h2]
      omega
    · rw [show r = r' by omega]
      omega
  have late : ∀ (m r : Nat) (dl : Nat × (Nat → Nat)), r + m = n → DL sel (dayR σ) dl.1 dl.2 r → (∀ x, r ≤ x → x < n → ¬ sel x = true) → DL sel (dayR σ) dl.1 dl.2 n ∧ ∀ D, dS sel (dayR σ) (askR σ) D n = dS sel (dayR σ) (askR σ) D r := by
    intro m
    induction m with
    | zero =>
      intro r dl hr hD hx
      have : r = n := by omega
      subst this
      exact ⟨hD, fun _ => rfl⟩
    | succ m ih =>
      intro r dl hr hD hx
      have h1 := hx r (Nat.le_refl _) (by omega)
      obtain ⟨h2, h3⟩ := ih (r + 1) dl (by omega) (hD.skip h1) (fun x hx1 hx2 => hx x (by omega) hx2)
      exact ⟨h2, fun D => (h3 D).trans (dS_no fun q => h1 q.1)⟩
  generalize hQ : (fun σ' => ∃ m dl, DL sel (dayR σ) m dl n ∧ rd σ' 34 9 = nI m ∧ (∀ i, i < m → rd σ' 42 i = nI (dS sel (dayR σ) (askR σ) (dl i) n)) ∧ ∀ q c, q ≠ 42 → ¬ (q = 34 ∧ c = 9) → rd σ' q c = rd σ q c) = Qf
  have loop : ∀ f r σr m dl, r + f = n → DL sel (dayR σ) m dl r → rd σr 34 9 = nI m → (∀ i, i < m → rd σr 42 i = nI (dS sel (dayR σ) (askR σ) (dl i) r)) → (∀ q c, q ≠ 42 → ¬ (q = 34 ∧ c = 9) → rd σr q c = rd σ q c) → J Γ l d mX8_sumDays (KV Qf) 11 [(0, .ref 34), (1, .int s), (2, .int k), (3, .int (nI (wt / 10))), (4, .int (nI (wt % 10))), (5, .int (nI K)), (6, .int (latD m dl)), (7, .int (nI r))] [] σr := by
    intro f
    induction f with
    | zero =>
      intro r σr m dl hr hD h9 h42 ag
      have : r = n := by omega
      subst this
      have e' : rd σr 34 7 = nI r := (ag 34 7 (by omega) (by omega)).trans e
      refine w_X8_sumDays_11 _ _ _ _ _ _ _ ⟨fun _ => ⟨rfl, ?_⟩, fun q => absurd (yle e' (Nat.le_refl _) (by omega)) q⟩
      rw [← hQ]
      exact ⟨m, dl, hD, h9, h42, ag⟩
    | succ f ih =>
      intro r σr m dl hr hD h9 h42 ag
      have hrn : r < n := by omega
      have e' : rd σr 34 7 = nI n := (ag 34 7 (by omega) (by omega)).trans e
      obtain ⟨s', k', t, st, w, a, g, ⟨b1, b2, b3, b4, b5, b6, b7, b8, b9⟩, ⟨x0, x1, x2, x3, x4, x5, x6⟩, ⟨y0, y1, y2, y3, y4, y5, y6⟩⟩ := hR r hrn
      have dr : dayR σ r = t / 24 := by
        unfold dayR
        rw [y2, cl (by omega)]
      have ar : askR σ r = a := by
        unfold askR
        rw [y5, cl (by omega)]
      have sr : sel r = (decide (nI s' = s) && (decide (nI k' = k) && (decide (nI w = nI (wt % 10)) && (decide (t / 24 ≤ K) && decide (t / 24 % 7 = wt / 10))))) := by
        rw [← hsel, ← dr, ← y0, ← y1, ← y4]
        rfl
      have td : nI t / 24 = nI (t / 24) := nI_divn (b := 24) (by omega) (by omega)
      have t7 : nI (t / 24) - nI (t / 24) / 7 * 7 = nI (t / 24 % 7) := nI_modn (b := 7) (by omega) (by omega)
      have mr : m ≤ r := hD.1
      have dle : ∀ i, i < m → dl i ≤ t / 24 := fun i hi => by
        obtain ⟨r', hr', -, q⟩ := (dH_iff r).mp ((hD.2.2 (dl i)).mpr ⟨i, hi, rfl⟩)
        have := mono r' r (by omega) hrn
        omega
      have nx : ¬ sel r = true → ∀ x : Int32, x = nI r + 1 → J Γ l d mX8_sumDays (KV Qf) 11 [(0, .ref 34), (1, .int s), (2, .int k), (3, .int (nI (wt / 10))), (4, .int (nI (wt % 10))), (5, .int (nI K)), (6, .int (latD m dl)), (7, .int x)] [] σr := by
        intro hs x hx
        rw [nI_s] at hx
        subst hx
        exact ih (r + 1) σr m dl (by omega) (hD.skip hs) h9 (fun i hi => by rw [dS_no fun q => hs q.1]; exact h42 i hi) ag
      refine w_X8_sumDays_11 _ _ _ _ _ _ _ ⟨fun q => absurd q (nle e' hrn (by omega)), fun _ => ⟨in_nI (by omega) (by omega), ?_⟩⟩
      rw [cl (n := r) (by omega), ag 37 r (by omega) (by omega), ag 35 r (by omega) (by omega), ag 36 r (by omega) (by omega), ag 39 r (by omega) (by omega), x0, x1, x2, x4, td, nI_lti (by omega) (by omega)]
      refine ⟨fun cK => ⟨rfl, ?_⟩, fun cK x2' h2' => ?_⟩
      · obtain ⟨h1, h2⟩ := late (f + 1) r (m, dl) hr hD (fun x hx1 hx2 hs => by
          have h3 := mono r x hx1 hx2
          rw [← hsel] at hs
          unfold selR at hs
          simp only [Bool.and_eq_true, decide_eq_true_eq] at hs
          omega)
        rw [← hQ]
        exact ⟨m, dl, h1, h9, fun i hi => by rw [h2]; exact h42 i hi, ag⟩
      · subst h2'
        rw [t7, nI_inj (a := t / 24 % 7) (by omega) (by omega)]
        refine ⟨fun c0 => ⟨fun c1 => ⟨fun c2 => ⟨fun c4 => ?_, fun c4 => nx ?_⟩, fun c2 => w_X8_sumDays_85 _ _ _ _ _ _ _ _ (nx ?_)⟩, fun c1 => w_X8_sumDays_85 _ _ _ _ _ _ _ _ (nx ?_)⟩, fun c0 => w_X8_sumDays_85 _ _ _ _ _ _ _ _ (nx ?_)⟩
        · have hs : sel r = true := by
            rw [sr]
            simp [c0, c1, c2, c4, show t / 24 ≤ K by omega]
          have base : ∀ (σ2 : St) (m' : Nat) (dl' : Nat → Nat), 0 < m' → DL sel (dayR σ) m' dl' (r + 1) → dl' (m' - 1) = t / 24 → rd σ2 34 9 = nI m' → (∀ i, i < m' → rd σ2 42 i = nI (dS sel (dayR σ) (askR σ) (dl' i) r)) → (∀ q c, q ≠ 42 → ¬ (q = 34 ∧ c = 9) → rd σ2 q c = rd σ q c) → J Γ l d mX8_sumDays (KV Qf) 136 [(0, .ref 34), (1, .int s), (2, .int k), (3, .int (nI (wt / 10))), (4, .int (nI (wt % 10))), (5, .int (nI K)), (6, .int (latD m' dl')), (7, .int (nI r))] [] σ2 := by
            intro σ2 m' dl' hm' hD' hl' h9' h42' ag'
            have m1 := hD'.1
            have em : nI m' - 1 = nI (m' - 1) := nI_subn (b := 1) (by omega)
            refine w_X8_sumDays_136 _ _ _ _ _ _ _ ?_
            rw [h9', em, cl (n := m' - 1) (by omega), cl (n := r) (by omega), ag' 40 r (by omega) (by omega), x5, h42' (m' - 1) (by omega), hl', nI_addn]
            refine ⟨in_nI (by omega) (by omega), in_nI (by omega) (by omega), fun x hx => ?_⟩
            rw [nI_s] at hx
            subst hx
            refine ih (r + 1) _ m' dl' (by omega) hD' (by rw [rdn (by omega)]; exact h9') (fun i hi => ?_) (fun q c a1 a2 => by rw [rdn (by omega)]; exact ag' q c a1 a2)
            by_cases ci : i = m' - 1
            · subst ci
              rw [rdy, dS_yes ⟨hs, by rw [dr, hl']⟩, hl', ar]
            · have := hD'.2.1 i (m' - 1) (by omega) (by omega)
              rw [rdn (by omega), dS_no (fun q => by have := q.2; omega)]
              exact h42' i hi
          have l9 : nI (t / 24) = latD m dl ↔ 0 < m ∧ dl (m - 1) = t / 24 := by
            unfold latD
            by_cases c : m = 0
            · rw [if_pos c]
              constructor
              · intro q
                have h1 := ti_nI (n := t / 24) (by omega)
                rw [q] at h1
                have h2 : (-1 : Int32).toInt = -1 := rfl
                omega
              · omega
            · have := dle (m - 1) (by omega)
              rw [if_neg c, nI_inj (by omega) (by omega)]
              omega
          rw [l9]
          refine ⟨fun q => ?_, fun q => ?_⟩
          · exact base σr m dl q.1 (hD.same hs q.1 (by rw [dr]; exact q.2)) q.2 h9 h42 ag
          · have hlt : ∀ i, i < m → dl i < t / 24 := fun i hi => by
              have h1 := dle i hi
              rcases Nat.lt_or_ge i (m - 1) with c | c
              · have h2 := hD.2.1 i (m - 1) c (by omega)
                have h3 := dle (m - 1) (by omega)
                omega
              · have : i = m - 1 := by omega
                subst this
                rcases Nat.lt_or_ge (dl (m - 1)) (t / 24) with c2 | c2
                · exact c2
                · exact absurd ⟨by omega, by omega⟩ q
            rw [h9, nI_s, cl (n := m) (by omega)]
            refine ⟨in_nI (by omega) (by omega), ?_⟩
            have hb := base (wr (wr σr 42 m 0) 34 9 (nI (m + 1))) (m + 1) (fun i => if i < m then dl i else dayR σ r) (by omega) (hD.more hs (by rw [dr]; exact hlt)) (by rw [Nat.add_sub_cancel, if_neg (by omega), dr]) rdy (fun i hi => ?_) (fun q c a1 a2 => by rw [rdn (by omega), rdn (by omega)]; exact ag q c a1 a2)
            · have el : latD (m + 1) (fun i => if i < m then dl i else dayR σ r) = nI (t / 24) := by
                unfold latD
                rw [if_neg (by omega), Nat.add_sub_cancel]
                dsimp only
                rw [if_neg (by omega), dr]
              rw [el] at hb
              exact hb
            · rw [rdn (by omega)]
              by_cases c : i < m
              · rw [if_pos c, rdn (by omega)]
                exact h42 i c
              · have : i = m := by omega
                subst this
                rw [if_neg c, rdy, dr, dS_0]
                · rfl
                · rw [hD.2.2]
                  rintro ⟨j, hj, ej⟩
                  have := hlt j hj
                  omega
        · rw [sr]
          simp [c4]
        · rw [sr]
          simp [c2]
        · rw [sr]
          simp [c1]
        · rw [sr]
          simp [c0]
  refine M_X8_sumDays _ _ _ _ _ (w_X8_sumDays_0 _ _ _ _ _ ?_)
  exact loop n 0 _ 0 (fun _ => 0) (by omega) ⟨by omega, fun i j _ hj => absurd hj (by omega), fun D => by simp [dH]⟩ rdy (fun i hi => absurd hi (by omega)) (fun q c a1 a2 => rdn (by omega))
end SY

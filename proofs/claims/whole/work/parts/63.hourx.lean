/-! HOURS: the class' side -/
section HX
variable {Γ : GG} {l : Launch} {d : Nat} {σ : St}
theorem S_fill118 {i : Nat} (hi : i < 12) (x : Int32) : Meth Γ l d mJ7_fill_53178 [.ref (i + 118), .int x] σ (KV fun σ' => ∀ q c, rd σ' q c = if q = i + 118 ∧ c < 10 then x else rd σ q c) := by
  have loop : ∀ f j σj, j + f = 10 → (∀ q c, rd σj q c = if q = i + 118 ∧ c < j then x else rd σ q c) → J Γ l d mJ7_fill_53178 (KV fun σ' => ∀ q c, rd σ' q c = if q = i + 118 ∧ c < 10 then x else rd σ q c) 5 [(0, .ref (i + 118)), (1, .int x), (2, .int (nI j)), (3, .int 10)] [] σj := by
    intro f
    induction f with
    | zero =>
      intro j σj hj h1
      have : j = 10 := by omega
      subst this
      exact w_J7_fill_53178_w118_5 _ hi _ _ _ ⟨fun _ => ⟨rfl, h1⟩, fun q => absurd (by decide) q⟩
    | succ f ih =>
      intro j σj hj h1
      refine w_J7_fill_53178_w118_5 _ hi _ _ _ ⟨fun q => absurd ((nI_lei (a := 10) (by omega) (by omega)).mp q) (by omega), fun _ => ⟨in_nI (by omega) (by omega), fun y hy => ?_⟩⟩
      rw [nI_s] at hy
      subst hy
      rw [cl (by omega)]
      refine ih (j + 1) _ (by omega) (fun q c => ?_)
      rw [rd_wr, h1]
      by_cases e : q = i + 118 ∧ c = j
      · rw [if_pos e, if_pos (by omega)]
      · rw [if_neg e]
        by_cases e2 : q = i + 118 ∧ c < j
        · rw [if_pos e2, if_pos (by omega)]
        · rw [if_neg e2, if_neg (by omega)]
  refine M_J7_fill_53178_w118 _ hi _ (w_J7_fill_53178_w118_0 _ hi _ (loop 10 0 σ (by omega) (fun q c => (if_neg (by omega)).symm)))
theorem S_fill130 {i : Nat} (hi : i < 12) (x : Int32) : Meth Γ l d mJ7_fill_53178 [.ref (i + 130), .int x] σ (KV fun σ' => ∀ q c, rd σ' q c = if q = i + 130 ∧ c < 10 then x else rd σ q c) := by
  have loop : ∀ f j σj, j + f = 10 → (∀ q c, rd σj q c = if q = i + 130 ∧ c < j then x else rd σ q c) → J Γ l d mJ7_fill_53178 (KV fun σ' => ∀ q c, rd σ' q c = if q = i + 130 ∧ c < 10 then x else rd σ q c) 5 [(0, .ref (i + 130)), (1, .int x), (2, .int (nI j)), (3, .int 10)] [] σj := by
    intro f
    induction f with
    | zero =>
      intro j σj hj h1
      have : j = 10 := by omega
      subst this
      exact w_J7_fill_53178_w130_5 _ hi _ _ _ ⟨fun _ => ⟨rfl, h1⟩, fun q => absurd (by decide) q⟩
    | succ f ih =>
      intro j σj hj h1
      refine w_J7_fill_53178_w130_5 _ hi _ _ _ ⟨fun q => absurd ((nI_lei (a := 10) (by omega) (by omega)).mp q) (by omega), fun _ => ⟨in_nI (by omega) (by omega), fun y hy => ?_⟩⟩
      rw [nI_s] at hy
      subst hy
      rw [cl (by omega)]
      refine ih (j + 1) _ (by omega) (fun q c => ?_)
      rw [rd_wr, h1]
      by_cases e : q = i + 130 ∧ c = j
      · rw [if_pos e, if_pos (by omega)]
      · rw [if_neg e]
        by_cases e2 : q = i + 130 ∧ c < j
        · rw [if_pos e2, if_pos (by omega)]
        · rw [if_neg e2, if_neg (by omega)]
  refine M_J7_fill_53178_w130 _ hi _ (w_J7_fill_53178_w130_0 _ hi _ (loop 10 0 σ (by omega) (fun q c => (if_neg (by omega)).symm)))
theorem S_clearDay : Meth Γ l (d + 1) mX9_clearDay [.ref 4] σ (KV fun σ' => ∀ q c, rd σ' q c = if 118 ≤ q ∧ q < 142 ∧ c < 10 then 0 else rd σ q c) := by
  have loop : ∀ f i σi, i + f = 12 → (∀ q c, rd σi q c = if ((118 ≤ q ∧ q < i + 118) ∨ (130 ≤ q ∧ q < i + 130)) ∧ c < 10 then 0 else rd σ q c) → J Γ l (d + 1) mX9_clearDay (KV fun σ' => ∀ q c, rd σ' q c = if 118 ≤ q ∧ q < 142 ∧ c < 10 then 0 else rd σ q c) 2 [(0, .ref 4), (1, .int (nI i))] [] σi := by
    intro f
    induction f with
    | zero =>
      intro i σi hi h1
      have : i = 12 := by omega
      subst this
      refine w_X9_clearDay_2 _ ⟨fun _ => ⟨rfl, fun q c => ?_⟩, fun q => absurd (by decide) q⟩
      rw [h1]
      by_cases e : 118 ≤ q ∧ q < 142 ∧ c < 10
      · rw [if_pos e, if_pos (by omega)]
      · rw [if_neg e, if_neg (by omega)]
    | succ f ih =>
      intro i σi hi h1
      refine w_X9_clearDay_2 _ ⟨fun q => absurd ((nI_lei (a := 12) (by omega) (by omega)).mp q) (by omega), fun _ => ⟨in_nI (by omega) (by omega), ?_⟩⟩
      rw [cl (by omega)]
      refine (S_fill118 (d := d) (by omega) 0).mono ?_
      rintro v σ2 ⟨rfl, h2⟩
      refine ⟨rfl, (S_fill130 (d := d) (by omega) 0).mono ?_⟩
      rintro v σ3 ⟨rfl, h3⟩
      refine ⟨rfl, fun y hy => ?_⟩
      rw [nI_s] at hy
      subst hy
      refine ih (i + 1) σ3 (by omega) (fun q c => ?_)
      rw [h3, h2, h1]
      by_cases e : ((118 ≤ q ∧ q < i + 1 + 118) ∨ (130 ≤ q ∧ q < i + 1 + 130)) ∧ c < 10
      · rw [if_pos e]
        by_cases e1 : q = i + 130 ∧ c < 10
        · rw [if_pos e1]
        · rw [if_neg e1]
          by_cases e2 : q = i + 118 ∧ c < 10
          · rw [if_pos e2]
          · rw [if_neg e2, if_pos (by omega)]
      · rw [if_neg e, if_neg (by omega), if_neg (by omega), if_neg (by omega)]
  exact M_X9_clearDay (w_X9_clearDay_0 (loop 12 0 σ (by omega) (fun q c => (if_neg (by omega)).symm)))
theorem sC_X {q c : Nat} (h : sC q c) : sX q c := sX_inv h.2
theorem S_beginDay {τ : St} {h nS nK nB : Nat} (h0 : Inv0 h nS nK nB τ) (hc : agr sC τ σ) : Meth Γ l (d + 5) mX11_beginDay [.ref 0] σ (KV fun σ' => agr sC (dayS (clrS τ) h nB) σ' ∧ ∀ q c, 59 ≤ q → q < 118 → rd σ' q c = rd σ q c) := by
  have zB := h0.2.2.2.2.2.1.1
  have zh := h0.1.1
  have IC := h0.clr
  refine M_X11_beginDay (w_X11_beginDay_0 ?_)
  refine (S_clearDay (d := d + 3)).mono ?_
  rintro v σ1 ⟨rfl, h1⟩
  have c1 : agr sC (clrS τ) σ1 := fun q c hq => by
    rw [h1, clr_rd]
    have hz : q ≠ 69 ∧ q ≠ 70 := by
      have := hq.1
      omega
    by_cases e : 118 ≤ q ∧ q < 142 ∧ c < 10
    · rw [if_pos e, if_pos (Or.inl e)]
    · rw [if_neg e, if_neg (by omega)]
      exact hc q c hq
  have r1 : ∀ q c, 59 ≤ q → q < 118 → rd σ1 q c = rd σ q c := fun q c a1 a2 => by rw [h1, if_neg (by omega)]
  refine ⟨rfl, (S_lawToday (d := d + 3) IC c1 0).mono ?_⟩
  rintro v σ2 ⟨x, rfl, rfl, rfl⟩
  refine ⟨_, rfl, ?_⟩
  have loop : ∀ f b σb, b + f = nB → agr sC (dayS (clrS τ) h b) σb → (∀ q c, 59 ≤ q → q < 118 → rd σb q c = rd σ q c) → J Γ l (d + 5) mX11_beginDay (KV fun σ' => agr sC (dayS (clrS τ) h nB) σ' ∧ ∀ q c, 59 ≤ q → q < 118 → rd σ' q c = rd σ q c) 15 [(0, .ref 0), (1, .int (lawM (clrS τ) 0)), (2, .int (nI b))] [] σb := by
    intro f
    induction f with
    | zero =>
      intro b σb hb cb rb
      have : b = nB := by omega
      subst this
      have e : rd σb 17 1 = nI b := (cb 17 1 ⟨by omega, alBatch (by unfold sBatch; omega)⟩).trans (IC.day b (by omega)).2.2.2.2.2.1.2.1
      exact w_X11_beginDay_15 _ _ ⟨fun _ => ⟨rfl, cb, rb⟩, fun q => absurd (yle e (Nat.le_refl _) (by omega)) q⟩
    | succ f ih =>
      intro b σb hb cb rb
      have hbn : b < nB := by omega
      have ID := IC.day (h := h) b (by omega)
      have e : rd σb 17 1 = nI nB := (cb 17 1 ⟨by omega, alBatch (by unfold sBatch; omega)⟩).trans ID.2.2.2.2.2.1.2.1
      have nx := ih (b + 1)
      have eS : dayS (clrS τ) h (b + 1) = if goS (dayS (clrS τ) h b) b = true then tosS (dayS (clrS τ) h b) h b else dayS (clrS τ) h b := rfl
      have el : lawM (dayS (clrS τ) h b) 0 = lawM (clrS τ) 0 := day_lawM (nB := nB) (by omega) 0
      rw [eS] at nx
      generalize hD : dayS (clrS τ) h b = D at *
      have v5 := (Bv ID hbn).2.2.1
      have v9 := (Bv ID hbn).2.2.2.1
      have e5 : rd σb (b + 142) 5 = nI (shN D b) := (cb _ 5 ⟨by omega, alBatch (by unfold sBatch; omega)⟩).trans v5
      refine w_X11_beginDay_15 _ _ ⟨fun q => absurd q (nle e hbn (by omega)), fun _ => ⟨in_nI (by omega) (by omega), fun x2 h2 => ?_⟩⟩
      rw [cl (n := b) (by omega), e5] at h2
      subst h2
      rw [show nI (shN D b) ≤ (0 : Int32) ↔ shN D b ≤ 0 from nI_lei (b := 0) (by omega) (by omega)]
      refine ⟨fun q y hy => ?_, fun q => ?_⟩
      · rw [nI_s] at hy
        subst hy
        rw [if_neg (by unfold goS; simp [show ¬ 0 < shN D b by omega])] at nx
        exact nx σb (by omega) cb rb
      · rw [← el]
        refine (S_lets (d := d) ID cb hbn 0).mono ?_
        rintro v σ4 ⟨x, rfl, rfl, ag⟩
        have c4 : agr sC D σ4 := cb.tr (ag.sub fun _ _ => sC_X)
        have r4 : ∀ q c, 59 ≤ q → q < 118 → rd σ4 q c = rd σ q c := fun q c a1 a2 => (ag q c (by unfold sX; omega)).trans (rb q c a1 a2)
        rw [el]
        refine ⟨_, rfl, fun q0 => ?_, fun q0 y hy => ?_⟩
        · rw [bI_0] at q0
          rw [if_pos (by unfold goS; simp [show 0 < shN D b by omega, q0])] at nx
          obtain ⟨s, k, lt, md, sh, so, mo, gi, th, ⟨u1, u2, u3, u4, u5⟩, ⟨x0, x1, x2, x3, x4, x5, x6, x7, x8, x9⟩, ⟨y0, y1, -⟩, -⟩ := ID.2.2.2.2.2.1.2.2.2.1 b hbn
          have zh' := ID.1.1
          refine (S_tossX (d := d + 3) (k := k) (th := th) (sh := shN D b) (v := shN D b) zh (by omega) u2 ((c4 1 2 ⟨by omega, alHour (by unfold sHour; omega)⟩).trans ID.1.2.1) ((c4 _ 1 ⟨by omega, alBatch (by unfold sBatch; omega)⟩).trans x1) ((c4 _ 5 ⟨by omega, alBatch (by unfold sBatch; omega)⟩).trans v5) ((c4 _ 9 ⟨by omega, alBatch (by unfold sBatch; omega)⟩).trans x9) (Nat.le_refl _)).mono ?_
          rintro v σ7 ⟨rfl, h7⟩
          refine ⟨rfl, fun y hy => ?_⟩
          rw [nI_s] at hy
          subst hy
          refine nx σ7 (by omega) (fun q c hq => ?_) (fun q c a1 a2 => ?_)
          · have hz := hq.1
            rw [h7]
            show _ = if q = b + 142 ∧ c = 5 then nI (shN D b - shN D b) else if q = b + 142 ∧ c = 9 then nI ((rd D (b + 142) 9).toNatClampNeg + shN D b) else if q = 3 ∧ c = h / 24 then rd D 3 (h / 24) + nI (shN D b) * rd D 14 (rd D 72 b).toNatClampNeg else if q = 80 ∧ c = b then nI ((rd D 80 b).toNatClampNeg + shN D b) else if q = 83 ∧ c = h / 24 then rd D 83 (h / 24) + nI (shN D b) * rd D 65 (rd D 72 b).toNatClampNeg else rd D q c
            rw [if_neg (c := q = 80 ∧ c = b) (by omega), if_neg (c := q = 83 ∧ c = h / 24) (by omega), x9, cl (n := th) (by omega), y1, cl (n := k) (by omega), c4 3 _ ⟨by omega, alDays (by unfold sDays; omega)⟩, c4 14 _ ⟨by omega, alKinds (by unfold sKinds; omega)⟩, c4 q c hq]
          · rw [h7, if_neg (by omega), if_neg (by omega), if_neg (by omega)]
            exact r4 q c a1 a2
        · rw [bI_0, Classical.not_not] at q0
          rw [if_neg (by unfold goS; simp [q0])] at nx
          rw [nI_s] at hy
          subst hy
          exact nx σ4 (by omega) c4 r4
  exact loop nB 0 σ1 (by omega) c1 r1
theorem S_hoursX {h nS nK nB n : Nat} (h0 : Inv0 h nS nK nB σ) (hn1 : 1 ≤ n) (hn : n ≤ 240) (hh : h + n < 36000) : Meth Γ l (d + 6) mX11_hours [.ref 0, .int (nI n)] σ (KI fun x σ' => x = nI (h + n) ∧ agr sC (hrsS σ h nB n) σ' ∧ ∀ q c, 59 ≤ q → q < 118 → rd σ' q c = rd σ q c) := by
  have loop : ∀ f i σi, i + f = n → agr sC (hrsS σ h nB i) σi → (∀ q c, 59 ≤ q → q < 118 → rd σi q c = rd σ q c) → J Γ l (d + 6) mX11_hours (KI fun x σ' => x = nI (h + n) ∧ agr sC (hrsS σ h nB n) σ' ∧ ∀ q c, 59 ≤ q → q < 118 → rd σ' q c = rd σ q c) 29 [(0, .ref 0), (1, .int (nI n)), (2, .int (nI i))] [] σi := by
    intro f
    induction f with
    | zero =>
      intro i σi hi ci ri
      have : i = n := by omega
      subst this
      exact w_X11_hours_29 _ _ ⟨fun _ => KI.mk ⟨(ci 1 2 ⟨by omega, alHour (by unfold sHour; omega)⟩).trans (h0.hrs i hh).1.2.1, ci, ri⟩, fun q => absurd (Int32.le_refl _) q⟩
    | succ f ih =>
      intro i σi hi ci ri
      have II := h0.hrs i (by omega)
      have e12 : rd σi 1 2 = nI (h + i) := (ci 1 2 ⟨by omega, alHour (by unfold sHour; omega)⟩).trans II.1.2.1
      have nx := ih (i + 1)
      rw [show hrsS σ h nB (i + 1) = nxtS (hrsS σ h nB i) (h + i) nB from rfl] at nx
      generalize hH : hrsS σ h nB i = H at *
      have em : nI (h + i + 1) - nI (h + i + 1) / 24 * 24 = nI ((h + i + 1) % 24) := nI_modn (b := 24) (by omega) (by omega)
      have ez : nI ((h + i + 1) % 24) = 0 ↔ (h + i + 1) % 24 = 0 := nI_inj (b := 0) (by omega) (by omega)
      refine w_X11_hours_29 _ _ ⟨fun q => absurd ((nI_lei (by omega) (by omega)).mp q) (by omega), fun _ => ?_⟩
      rw [e12, nI_s, em, ez]
      have cw : agr sC (hrS H (h + i + 1)) (wr σi 1 2 (nI (h + i + 1))) := fun q c hq => by
        have hz := hq.1
        rw [rd_wr, hr_rd]
        by_cases e : q = 1 ∧ c = 2
        · rw [if_pos e, if_pos (Or.inl e)]
        · rw [if_neg e, if_neg (by omega)]
          exact ci q c hq
      have rw' : ∀ q c, 59 ≤ q → q < 118 → rd (wr σi 1 2 (nI (h + i + 1))) q c = rd σ q c := fun q c a1 a2 => by
        rw [rdn (by omega)]
        exact ri q c a1 a2
      refine ⟨fun q => ?_, fun q y hy => ?_⟩
      · refine (S_beginDay (d := d) (II.hr (by omega)) cw).mono ?_
        rintro v σ2 ⟨rfl, c2, r2⟩
        refine ⟨rfl, fun y hy => ?_⟩
        rw [nI_s] at hy
        subst hy
        refine nx σ2 (by omega) ?_ (fun q c a1 a2 => (r2 q c a1 a2).trans (rw' q c a1 a2))
        unfold nxtS
        rw [if_pos q]
        exact c2
      · rw [nI_s] at hy
        subst hy
        refine nx _ (by omega) ?_ rw'
        unfold nxtS
        rw [if_neg q]
        exact cw
  refine M_X11_hours _ (w_X11_hours_0 _ ⟨fun _ => ⟨fun _ => loop n 0 σ (by omega) agr.rf (fun _ _ _ _ => rfl), fun q => absurd ?_ q⟩, fun q => absurd ?_ q⟩)
  · rw [h0.1.2.1, show (35999 : Int32) = nI 35999 from rfl, nI_subn (by omega), nI_lei (by omega) (by omega)]
    omega
  · exact ⟨(nI_lei (a := 1) (by omega) (by omega)).mpr hn1, (nI_lei (b := 240) (by omega) (by omega)).mpr hn⟩
end HX

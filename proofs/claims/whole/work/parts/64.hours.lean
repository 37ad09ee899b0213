/-! HOURS: the reference's side, the pair -/
/-- the reference's places, and the laws' -/
def sMR : P2 := fun q c => ((59 ≤ q ∧ q < 118) ∧ sAll q c) ∨ sLaws q c
theorem sR_MR {q c : Nat} (h : sR q c) : sMR q c := by
  unfold sR at h
  rcases h with h | h
  · exact Or.inr h
  · refine Or.inl ⟨by omega, ?_⟩
    rcases h with ⟨e1, e2⟩ | h
    · rcases e2 with e2 | e2
      · exact alHour (by unfold sHour; omega)
      · exact alBatch (by unfold sBatch; omega)
    · rcases h with e | e | e | e | e
      · exact alKinds (by unfold sKinds; omega)
      · exact alDays (by unfold sDays; omega)
      · exact alStep (by unfold sStep; omega)
      · exact alStep (by unfold sStep; omega)
      · exact alBatch (by unfold sBatch; omega)
theorem sMR_91 {q c : Nat} (h : sMR q c) : q ≠ 91 := by
  unfold sMR at h
  rcases h with ⟨-, h⟩ | h
  · simp only [sAll, sHour, sShops, sKinds, sDays, sStep, sBatch, sSpoil, sKit, sTape, sLaws, sRows, sCuts, sBox, sCost] at h
    omega
  · unfold sLaws at h
    omega
section HM
variable {Γ : GG} {l : Launch} {d : Nat} {σ : St}
theorem S_hoursM {τ : St} {h nS nK nB n : Nat} (h0 : Inv0 h nS nK nB τ) (hn1 : 1 ≤ n) (hn : n ≤ 240) (hh : h + n < 36000) (hc : agr sMR τ σ) : Meth Γ l (d + 4) mX12_hours [.ref 59, .int (nI n)] σ (KI fun x σ' => x = nI (h + n) ∧ agr sMR (hrsS τ h nB n) σ' ∧ ∀ q c, (q < 59 ∨ 118 ≤ q) → rd σ' q c = rd σ q c) := by
  have zB := h0.2.2.2.2.2.1.1
  generalize hK : (fun (x : Int32) (σ' : St) => x = nI (h + n) ∧ agr sMR (hrsS τ h nB n) σ' ∧ ∀ q c, (q < 59 ∨ 118 ≤ q) → rd σ' q c = rd σ q c) = KK
  have loop : ∀ f i σi, i + f = n → agr sMR (hrsS τ h nB i) σi → (∀ q c, (q < 59 ∨ 118 ≤ q) → rd σi q c = rd σ q c) → J Γ l (d + 4) mX12_hours (KI KK) 27 [(0, .ref 59), (1, .int (nI n)), (2, .int (nI i))] [] σi := by
    intro f
    induction f with
    | zero =>
      intro i σi hi ci ri
      have : i = n := by omega
      subst this
      refine w_X12_hours_27 _ _ ⟨fun _ => KI.mk ?_, fun q => absurd (Int32.le_refl _) q⟩
      rw [← hK]
      exact ⟨(ci 59 1 (Or.inl ⟨by omega, alHour (by unfold sHour; omega)⟩)).trans (h0.hrs i hh).1.2.2, ci, ri⟩
    | succ f ih =>
      intro i σi hi ci ri
      have II := h0.hrs i (by omega)
      have e12 : rd σi 59 1 = nI (h + i) := (ci 59 1 (Or.inl ⟨by omega, alHour (by unfold sHour; omega)⟩)).trans II.1.2.2
      have nx := ih (i + 1)
      rw [show hrsS τ h nB (i + 1) = nxtS (hrsS τ h nB i) (h + i) nB from rfl] at nx
      generalize hH : hrsS τ h nB i = H at *
      have em : nI (h + i + 1) - nI (h + i + 1) / 24 * 24 = nI ((h + i + 1) % 24) := nI_modn (b := 24) (by omega) (by omega)
      have ez : nI ((h + i + 1) % 24) = 0 ↔ (h + i + 1) % 24 = 0 := nI_inj (b := 0) (by omega) (by omega)
      refine w_X12_hours_27 _ _ ⟨fun q => absurd ((nI_lei (by omega) (by omega)).mp q) (by omega), fun _ => ?_⟩
      rw [e12, nI_s, em, ez]
      have cw : agr sMR (hrS H (h + i + 1)) (wr σi 59 1 (nI (h + i + 1))) := fun q c hq => by
        rw [rd_wr, hr_rd]
        by_cases e : q = 59 ∧ c = 1
        · rw [if_pos e, if_pos (Or.inr e)]
        · by_cases e2 : q = 1 ∧ c = 2
          · unfold sMR sLaws at hq
            omega
          · rw [if_neg e, if_neg (by omega)]
            exact ci q c hq
      have rw' : ∀ q c, (q < 59 ∨ 118 ≤ q) → rd (wr σi 59 1 (nI (h + i + 1))) q c = rd σ q c := fun q c a1 => by
        rw [rdn (by omega)]
        exact ri q c a1
      refine ⟨fun q => ?_, fun q y hy => ?_⟩
      · have IH := II.hr (show h + i + 1 < 36000 by omega)
        have IC := IH.clr
        have zh := IC.1.1
        unfold nxtS at nx
        rw [if_pos q] at nx
        generalize hT : hrS H (h + i + 1) = T at *
        -- batches
        have loopB : ∀ f b σb, b + f = nB → agr sMR (dayS (clrS T) (h + i + 1) b) σb → (∀ q c, (q < 59 ∨ 118 ≤ q) → rd σb q c = rd σ q c) → J Γ l (d + 4) mX12_hours (KI KK) 85 [(0, .ref 59), (1, .int (nI n)), (2, .int (nI i)), (3, .int (nI b))] [] σb := by
          intro f
          induction f with
          | zero =>
            intro b σb hb cb rb
            have : b = nB := by omega
            subst this
            have e : rd σb 59 16 = nI b := (cb 59 16 (Or.inl ⟨by omega, alBatch (by unfold sBatch; omega)⟩)).trans (IC.day b (by omega)).2.2.2.2.2.1.2.2.1
            refine w_X12_hours_85 _ _ _ ⟨fun _ y hy => ?_, fun q => absurd (yle e (Nat.le_refl _) (by omega)) q⟩
            rw [nI_s] at hy
            subst hy
            exact nx σb (by omega) cb rb
          | succ f ihb =>
            intro b σb hb cb rb
            have hbn : b < nB := by omega
            have ID := IC.day (h := h + i + 1) b (by omega)
            have e : rd σb 59 16 = nI nB := (cb 59 16 (Or.inl ⟨by omega, alBatch (by unfold sBatch; omega)⟩)).trans ID.2.2.2.2.2.1.2.2.1
            have ny := ihb (b + 1)
            have eS : dayS (clrS T) (h + i + 1) (b + 1) = if goS (dayS (clrS T) (h + i + 1) b) b = true then tosS (dayS (clrS T) (h + i + 1) b) (h + i + 1) b else dayS (clrS T) (h + i + 1) b := rfl
            rw [eS] at ny
            generalize hD : dayS (clrS T) (h + i + 1) b = D at *
            have v9 := (Bv ID hbn).2.2.2.1
            have am : ∀ σx, agr sMR D σx → (((rd σx 76 b - rd σx 77 b) - rd σx 78 b) - rd σx 79 b) - rd σx 80 b = nI (shN D b) := fun σx hx => by
              rw [hx 76 b (Or.inl ⟨by omega, alBatch (by unfold sBatch; omega)⟩), hx 77 b (Or.inl ⟨by omega, alBatch (by unfold sBatch; omega)⟩), hx 78 b (Or.inl ⟨by omega, alBatch (by unfold sBatch; omega)⟩), hx 79 b (Or.inl ⟨by omega, alBatch (by unfold sBatch; omega)⟩), hx 80 b (Or.inl ⟨by omega, alBatch (by unfold sBatch; omega)⟩)]
              exact (Bv ID hbn).2.2.2.2.2.2.2
            refine w_X12_hours_85 _ _ _ ⟨fun q => absurd q (nle e hbn (by omega)), fun _ => ⟨in_nI (by omega) (by omega), ?_⟩⟩
            rw [cl (n := b) (by omega), am σb cb, show nI (shN D b) ≤ (0 : Int32) ↔ shN D b ≤ 0 from nI_lei (b := 0) (by omega) (by omega)]
            refine ⟨fun q y hy => ?_, fun q => ?_⟩
            · rw [nI_s] at hy
              subst hy
              rw [if_neg (by unfold goS; simp [show ¬ 0 < shN D b by omega])] at ny
              exact ny σb (by omega) cb rb
            · refine (S_mayG (d := d) ID (cb.sub fun _ _ => sR_MR) hbn 0).mono ?_
              rintro v σ4 ⟨x, rfl, rfl, ag⟩
              have c4 : agr sMR D σ4 := fun q c hq => (ag q c (by have := sMR_91 hq; unfold oM; exact this)).trans (cb q c hq)
              have r4 : ∀ q c, (q < 59 ∨ 118 ≤ q) → rd σ4 q c = rd σ q c := fun q c a1 => (ag q c (by unfold oM; omega)).trans (rb q c a1)
              refine ⟨_, rfl, fun q0 => ⟨in_nI (by omega) (by omega), ?_⟩, fun q0 y hy => ?_⟩
              · rw [bI_0] at q0
                rw [if_pos (by unfold goS; simp [show 0 < shN D b by omega, q0])] at ny
                obtain ⟨s, k, lt, md, sh, so, mo, gi, th, ⟨u1, u2, u3, u4, u5⟩, -, ⟨y0, y1, y2, y3, y4, y5, y6, y7, y8⟩, -⟩ := ID.2.2.2.2.2.1.2.2.2.1 b hbn
                rw [am σ4 c4]
                refine (S_tossM (d := d + 2) (k := k) (th := th) (v := shN D b) zh (by omega) u2 ((c4 59 1 (Or.inl ⟨by omega, alHour (by unfold sHour; omega)⟩)).trans ID.1.2.2) ((c4 72 b (Or.inl ⟨by omega, alBatch (by unfold sBatch; omega)⟩)).trans y1) ((c4 80 b (Or.inl ⟨by omega, alBatch (by unfold sBatch; omega)⟩)).trans y8)).mono ?_
                rintro v σ7 ⟨rfl, h7⟩
                refine ⟨rfl, fun y hy => ?_⟩
                rw [nI_s] at hy
                subst hy
                refine ny σ7 (by omega) (fun q c hq => ?_) (fun q c a1 => ?_)
                · rw [h7]
                  show _ = if q = b + 142 ∧ c = 5 then nI (shN D b - shN D b) else if q = b + 142 ∧ c = 9 then nI ((rd D (b + 142) 9).toNatClampNeg + shN D b) else if q = 3 ∧ c = (h + i + 1) / 24 then rd D 3 ((h + i + 1) / 24) + nI (shN D b) * rd D 14 (rd D 72 b).toNatClampNeg else if q = 80 ∧ c = b then nI ((rd D 80 b).toNatClampNeg + shN D b) else if q = 83 ∧ c = (h + i + 1) / 24 then rd D 83 ((h + i + 1) / 24) + nI (shN D b) * rd D 65 (rd D 72 b).toNatClampNeg else rd D q c
                  have hz : ¬ (q = b + 142) ∧ q ≠ 3 := by
                    unfold sMR sLaws at hq
                    omega
                  rw [if_neg (c := q = b + 142 ∧ c = 5) (by omega), if_neg (c := q = b + 142 ∧ c = 9) (by omega), if_neg (c := q = 3 ∧ c = (h + i + 1) / 24) (by omega), y8, cl (n := th) (by omega), y1, cl (n := k) (by omega), c4 83 _ (Or.inl ⟨by omega, alDays (by unfold sDays; omega)⟩), c4 65 _ (Or.inl ⟨by omega, alKinds (by unfold sKinds; omega)⟩), c4 q c hq]
                · rw [h7, if_neg (by omega), if_neg (by omega)]
                  exact r4 q c a1
              · rw [bI_0, Classical.not_not] at q0
                rw [if_neg (by unfold goS; simp [q0])] at ny
                rw [nI_s] at hy
                subst hy
                exact ny σ4 (by omega) c4 r4
        -- steps and warm hours
        have loopC : ∀ f j σj, j + f = 120 → (∀ q c, sMR q c → rd σj q c = if (q = 69 ∨ q = 70) ∧ c < j then 0 else rd T q c) → (∀ q c, (q < 59 ∨ 118 ≤ q) → rd σj q c = rd σ q c) → J Γ l (d + 4) mX12_hours (KI KK) 57 [(0, .ref 59), (1, .int (nI n)), (2, .int (nI i)), (3, .int (nI j))] [] σj := by
          intro f
          induction f with
          | zero =>
            intro j σj hj cj rj
            have : j = 120 := by omega
            subst this
            refine w_X12_hours_57 _ _ _ ⟨fun _ => loopB nB 0 σj (by omega) (fun q c hq => ?_) rj, fun q => absurd (by decide) q⟩
            show _ = rd (clrS T) q c
            rw [cj q c hq, clr_rd]
            by_cases e : (q = 69 ∨ q = 70) ∧ c < 120
            · rw [if_pos e, if_pos (Or.inr e)]
            · rw [if_neg e, if_neg]
              unfold sMR sLaws at hq
              omega
          | succ f ihc =>
            intro j σj hj cj rj
            refine w_X12_hours_57 _ _ _ ⟨fun q => absurd ((nI_lei (a := 120) (by omega) (by omega)).mp q) (by omega), fun _ => ⟨in_nI (by omega) (by omega), fun y hy => ?_⟩⟩
            rw [nI_s] at hy
            subst hy
            rw [cl (n := j) (by omega)]
            refine ihc (j + 1) _ (by omega) (fun q c hq => ?_) (fun q c a1 => by rw [rdn (by omega), rdn (by omega)]; exact rj q c a1)
            rw [rd_wr, rd_wr, cj q c hq]
            by_cases e : q = 70 ∧ c = j
            · rw [if_pos e, if_pos (by omega)]
            · rw [if_neg e]
              by_cases e2 : q = 69 ∧ c = j
              · rw [if_pos e2, if_pos (by omega)]
              · rw [if_neg e2]
                by_cases e3 : (q = 69 ∨ q = 70) ∧ c < j
                · rw [if_pos e3, if_pos (by omega)]
                · rw [if_neg e3, if_neg (by omega)]
        exact loopC 120 0 _ (by omega) (fun q c hq => by rw [if_neg (by omega)]; exact cw q c hq) rw'
      · rw [nI_s] at hy
        subst hy
        refine nx _ (by omega) ?_ rw'
        unfold nxtS
        rw [if_neg q]
        exact cw
  refine M_X12_hours _ (w_X12_hours_0 _ ⟨fun _ => ⟨fun _ => loop n 0 σ (by omega) hc (fun _ _ _ => rfl), fun q => absurd ?_ q⟩, fun q => absurd ?_ q⟩)
  · rw [(hc 59 1 (Or.inl ⟨by omega, alHour (by unfold sHour; omega)⟩)).trans h0.1.2.2, nI_addn, show (35999 : Int32) = nI 35999 from rfl, nI_lei (by omega) (by omega)]
    omega
  · exact ⟨(nI_lei (a := 1) (by omega) (by omega)).mpr hn1, (nI_lei (b := 240) (by omega) (by omega)).mpr hn⟩
theorem hrs_laws {h nB : Nat} (zB : nB ≤ 200) : ∀ i q c, sLaws q c → rd (hrsS σ h nB i) q c = rd σ q c
  | 0, _, _, _ => rfl
  | i + 1, q, c, hq => by
    have ih := hrs_laws (h := h) zB i q c hq
    rw [show hrsS σ h nB (i + 1) = nxtS (hrsS σ h nB i) (h + i) nB from rfl, ← ih]
    unfold sLaws at hq
    unfold nxtS
    split
    · rw [day_n (nB := nB) nB (Nat.le_refl _) q c (by omega) (by omega) (by omega) (by omega), clr_n (by omega) (by omega) (by omega), hr_n (by omega) (by omega)]
    · rw [hr_n (by omega) (by omega)]
theorem P_hours (a : Int32) (hI : Inv σ) : Meth Γ l (d + 6) mX11_hours [.ref 0, .int a] σ (PI Γ l (d + 4) mX12_hours [.ref 59, .int a]) := by
  have hI2 := hI
  obtain ⟨h, nS, nK, nB, h0⟩ := hI2
  have zB := h0.2.2.2.2.2.1.1
  obtain ⟨zh, g1, g2⟩ := id h0.1
  have bad : ¬ (((1 : Int32) ≤ a ∧ a ≤ 240) ∧ nI h + a ≤ 35999) → bad1 σ Γ l (d + 4) mX12_hours [.ref 59, .int a] (-1) := fun hn => M_X12_hours _ (w_X12_hours_0 _ ⟨fun ha => ⟨fun hb => absurd ⟨ha, by rw [g2] at hb; exact hb⟩ hn, fun _ => KI.mk ⟨rfl, hI⟩⟩, fun _ => KI.mk ⟨rfl, hI⟩⟩)
  by_cases ha : (1 : Int32) ≤ a ∧ a ≤ 240
  · obtain ⟨n, hn1, hn, rfl⟩ : ∃ p : Nat, 1 ≤ p ∧ p ≤ 240 ∧ a = nI p := by
      have h3 := ha
      rw [ti_le, ti_le] at h3
      have e1 : (1 : Int32).toInt = 1 := rfl
      have e9 : (240 : Int32).toInt = 240 := rfl
      exact ⟨a.toInt.toNat, by omega, by omega, nI_of_ti (by omega)⟩
    rcases Nat.lt_or_ge (h + n) 36000 with q | q
    · refine (S_hoursX h0 hn1 hn q).mono ?_
      rintro v σ2 ⟨x, rfl, rfl, c2, r2⟩
      refine PI.mk ((S_hoursM h0 hn1 hn q (fun q' c hq => ?_)).mono ?_)
      · rcases hq with hq | hq
        · exact r2 q' c hq.1.1 hq.1.2
        · rcases Nat.lt_or_ge q' 59 with e | e
          · rw [c2 q' c ⟨Or.inl e, alLaws hq⟩]
            exact hrs_laws zB n q' c hq
          · rcases Nat.lt_or_ge q' 118 with e2 | e2
            · exact r2 q' c e e2
            · rw [c2 q' c ⟨Or.inr e2, alLaws hq⟩]
              exact hrs_laws zB n q' c hq
      · rintro v σ3 ⟨x, rfl, rfl, c3, r3⟩
        refine KI.mk ⟨rfl, h + n, nS, nK, nB, (h0.hrs n q).of fun q' c hq => ?_⟩
        rcases Nat.lt_or_ge q' 59 with e | e
        · rw [r3 q' c (Or.inl e)]
          exact c2 q' c ⟨Or.inl e, hq⟩
        · rcases Nat.lt_or_ge q' 118 with e2 | e2
          · exact c3 q' c (Or.inl ⟨⟨e, e2⟩, hq⟩)
          · rw [r3 q' c (Or.inr e2)]
            exact c2 q' c ⟨Or.inr e2, hq⟩
    · refine M_X11_hours _ (w_X11_hours_0 _ ⟨fun _ => ⟨fun r => ?_, fun _ => PI.mk (bad fun r => ?_)⟩, fun r => absurd ha r⟩)
      · rw [g1, show (35999 : Int32) = nI 35999 from rfl, nI_subn (by omega), nI_lei (by omega) (by omega)] at r
        omega
      · have r2 := r.2
        rw [nI_addn, show (35999 : Int32) = nI 35999 from rfl, nI_lei (by omega) (by omega)] at r2
        omega
  · exact M_X11_hours _ (w_X11_hours_0 _ ⟨fun r => absurd r ha, fun _ => PI.mk (bad fun r => ha r.1)⟩)
end HM

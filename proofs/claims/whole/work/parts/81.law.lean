/-! LAW: the pair -/
section LW
variable {Γ : GG} {l : Launch} {σ : St} {ct L : Nat} {cb : Nat → Nat}
theorem S_lawM {Q : Option Value → St → Prop} {a b : Int32} (hL : L ≤ 160) (hb : ∀ i, i < L → cb i < 256) (hct : ct < 16) (hT : TM ct L cb σ) (h32 : rd σ 59 32 = nI ct) (h41 : rd σ 59 41 = nI 0) (h42 : rd σ 59 42 = -1) (h43 : rd σ 59 43 = nI 0) (h40 : rd σ 59 40 = nI 0)
    (hF : ∀ q (σ' : St), txt (symL L cb) L 69 161 0 [] = .inl q → frM ct σ σ' → Q (some (.int ((-100) - nI q))) (wr σ' 59 31 0))
    (hO : ∀ q T (σ' : St), txt (symL L cb) L 69 161 0 [] = .inr (q, T) → frM ct σ σ' → rowM ct 0 T σ σ' → Q (some (.int (nI ct))) (wr (wr (wr (wr (wr (wr σ' 59 31 0) 85 ct a) 86 ct (rd σ' 59 1 / 24)) 87 ct b) 88 ct (rd σ' 59 40)) 59 32 (nI (ct + 1)))) : Meth Γ l 74 mX12_clause [.ref 59] σ (KV fun σ1 => J Γ l 75 mX12_law Q 62 [(0, .ref 59), (1, .int a), (2, .int b)] [] σ1) := by
  have hsL : ∀ q, L ≤ q → symL L cb q = 256 := fun q hq => symL_L hq
  have s256 : ∀ q, symL L cb q ≤ 256 := fun q => (sy_256 hb q).1
  have cl' := fun (p w : Nat) (σ : St) hT h41 h42 h43 h40 hwp hp => S_clauseM (Γ := Γ) (l := l) (σ := σ) (ct := ct) (D := 74) (p := p) (w := w) hL hb hct (by omega) hT h41 h42 h43 h40 hwp hp
  have look := fun (p : Nat) (σ : St) hT hp h2 => S_look (Γ := Γ) (l := l) (d := 74) (σ := σ) (ct := ct) (p := p) hL hb hT hp h2
  generalize hsy : symL L cb = sy at *
  generalize hR : txt sy L 69 161 0 [] = R at *
  -- the two ends
  have bad110 : ∀ q σ', R = .inl q → q ≤ L → frM ct σ σ' → rd σ' 59 42 = nI q → J Γ l 75 mX12_law Q 110 [(0, .ref 59), (1, .int a), (2, .int b)] [] σ' := by
    intro q σ' hr hq hf e42
    refine w_X12_law_110 _ _ ⟨fun t => absurd t (by rw [e42]; exact nlt0 (by omega)), fun _ => ?_⟩
    rw [e42]
    exact hF q σ' hr hf
  have bad95 : ∀ q σ', R = .inl q → q ≤ L → frM ct σ σ' → rd σ' 59 41 = nI q → rd σ' 59 42 = nI q → J Γ l 75 mX12_law Q 95 [(0, .ref 59), (1, .int a), (2, .int b)] [] σ' := by
    intro q σ' hr hq hf e41 e42
    refine w_X12_law_95 _ _ ⟨fun _ => bad110 q σ' hr hq hf e42, fun _ => M_X12_wrong (w_X12_wrong_0 ⟨fun _ => ⟨rfl, bad110 q σ' hr hq hf e42⟩, fun t => absurd (fault_pos (q := q) (by omega) e42) t⟩)⟩
  have loop : ∀ n p T σc σi, txt sy L 69 (n + 1) p T = R → L < p + n + 1 → p ≤ L → T.length ≤ p → frM ct σ σc → rowM ct 0 T σ σc → cuM sy ct T.length σc (cls sy 69 p) σi → J Γ l 75 mX12_law Q 62 [(0, .ref 59), (1, .int a), (2, .int b)] [] σi := by
    intro n
    induction n with
    | zero =>
      intro p T σc σi hR' hn hp hTl fc rowc hcu
      obtain ⟨fi, hcu⟩ := hcu
      have fr := fc.tr fi
      have en : txt sy L 69 (0 + 1) p T = match cls sy 69 p with
          | .inl q => .inl q
          | .inr (q, T2) => if q < L then (if sy q = 59 then txt sy L 69 0 (q + 1) (T ++ T2) else .inl q) else .inr (q, T ++ T2) := rfl
      rcases hz : cls sy 69 p with q | ⟨q, T2⟩
      · rw [hz] at hcu en
        have hq := cls_le hsL hp hz
        exact w_X12_law_62 _ _ ⟨fun _ => bad95 q σi (by rw [← hR', en]) hq fr hcu.1 hcu.2, fun t => absurd (fault_pos (q := q) (by omega) hcu.2) t⟩
      · obtain ⟨a1, a2, -⟩ := cls_good hsL hz
        omega
    | succ n ih =>
      intro p T σc σi hR' hn hp hTl fc rowc hcu
      obtain ⟨fi, hcu⟩ := hcu
      have fr := fc.tr fi
      have en : txt sy L 69 (n + 1 + 1) p T = match cls sy 69 p with
          | .inl q => .inl q
          | .inr (q, T2) => if q < L then (if sy q = 59 then txt sy L 69 (n + 1) (q + 1) (T ++ T2) else .inl q) else .inr (q, T ++ T2) := rfl
      rcases hz : cls sy 69 p with q | ⟨q, T2⟩
      · rw [hz] at hcu en
        have hq := cls_le hsL hp hz
        exact w_X12_law_62 _ _ ⟨fun _ => bad95 q σi (by rw [← hR', en]) hq fr hcu.1 hcu.2, fun t => absurd (fault_pos (q := q) (by omega) hcu.2) t⟩
      · rw [hz] at hcu en
        dsimp only at en
        obtain ⟨e41, hcu⟩ := hcu
        obtain ⟨a1, a2, a3, -⟩ := cls_good hsL hz
        rcases hcu with ⟨dg, e42⟩ | ⟨e42, e43, row2⟩
        · have ql : q < L := by
            rcases Nat.lt_or_ge q L with h | h
            · exact h
            · unfold isDg at dg
              rw [hsL q h] at dg
              omega
          rw [if_pos ql, if_neg (by unfold isDg at dg; omega)] at en
          exact w_X12_law_62 _ _ ⟨fun _ => bad95 q σi (by rw [← hR', en]) a2 fr e41 e42, fun t => absurd (fault_pos (q := q) (by omega) e42) t⟩
        · have rowi : rowM ct 0 (T ++ T2) σ σi := rowM_app rowc (by rw [Nat.zero_add]; exact row2)
          have hTi := hT.fr fr
          refine w_X12_law_62 _ _ ⟨fun t => absurd t (by rw [e42]; exact neg1_n0), fun _ => (look q σi hTi a2 e41).mono ?_⟩
          rintro v σ' ⟨x, rfl, rfl, rfl⟩
          refine ⟨_, rfl, fun t => ?_, fun t => ?_⟩
          · have t' : sy q = 59 := (lkV_eq (k := 59) (s256 q) (by omega)).mp t
            have ql : q < L := by
              rcases Nat.lt_or_ge q L with h | h
              · exact h
              · rw [hsL q h] at t'
                omega
            rw [if_pos ql, if_pos t'] at en
            rw [e41, nI_s q]
            have fw : frM ct σi (wr σi 59 41 (nI (q + 1))) := frM_w (Or.inr (Or.inl rfl))
            have r40 : rd σi 59 40 = nI (T ++ T2).length := by
              have := rowi.1
              rw [Nat.zero_add] at this
              exact this
            refine (cl' (q + 1) (T ++ T2).length _ (hTi.fr fw) rdy ((rdn (by omega)).trans e42) ((rdn (by omega)).trans e43) ((rdn (by omega)).trans r40) (by rw [List.length_append]; omega) (by omega)).mono ?_
            rintro v σ3 ⟨rfl, h3⟩
            exact ⟨rfl, ih (q + 1) (T ++ T2) _ σ3 (by rw [← en]; exact hR') (by omega) (by omega) (by rw [List.length_append]; omega) (fr.tr fw) (rowM_to (Or.inl rfl) rowi) h3⟩
          · have t' : ¬ sy q = 59 := fun r => t ((lkV_eq (k := 59) (s256 q) (by omega)).mpr r)
            refine w_X12_law_95 _ _ ?_
            rw [hTi.1, e41, nI_lei (by omega) (by omega)]
            refine ⟨fun lq => ?_, fun lq => ?_⟩
            · rw [if_neg (by omega)] at en
              refine w_X12_law_110 _ _ ⟨fun _ => ?_, fun s => absurd (by rw [e42]; decide) s⟩
              have e32 : rd σi 59 32 = nI ct := (fr 59 32 (by omega) (by omega)).trans h32
              rw [e32, cl (n := ct) (by omega), nI_s, nI_pr]
              exact ⟨in_nI (by omega) (by omega), in_nI (by omega) (by omega), hO q (T ++ T2) σi (by rw [← hR', en]) fr rowi⟩
            · rw [if_pos (by omega), if_neg t'] at en
              refine (S_wrong (d := 74) e42).mono ?_
              rintro v σ1 ⟨rfl, rfl⟩
              exact ⟨rfl, bad110 q _ (by rw [← hR', en]) a2 (fr.tr (frM_w (Or.inr (Or.inr (Or.inl rfl))))) (by rw [rdy]; exact e41)⟩
  refine (cl' 0 0 σ hT h41 h42 h43 h40 (by omega) (by omega)).mono ?_
  rintro v σ1 ⟨rfl, h3⟩
  exact ⟨rfl, loop 160 0 [] σ σ1 hR (by omega) (by omega) (by show 0 ≤ 0; omega) frM.rf (rowM_0 h40) h3⟩
theorem P_law (a b : Int32) (hI : Inv σ) : Meth Γ l 145 mX11_law [.ref 0, .int a, .int b] σ (PI Γ l 75 mX12_law [.ref 59, .int a, .int b]) := by
  have hI2 := hI
  obtain ⟨h, nS, nK, nB, h0⟩ := hI2
  obtain ⟨i1, i2, i3, i4, i5, i6, i7, i8, i9, i10, i11, i12, i13, i14⟩ := id h0
  obtain ⟨zh, g1, g2⟩ := id i1
  obtain ⟨L, hL, t1, t2, t3⟩ := id i9
  obtain ⟨ct, hct, l1, l2, l3⟩ := id i10
  have bad : ¬ (((0 : Int32) ≤ a ∧ a ≤ 1) ∧ (0 : Int32) ≤ b ∧ b < 1500) → bad1 σ Γ l 75 mX12_law [.ref 59, .int a, .int b] (-1) := fun hn => M_X12_law (d := 72) _ _ (w_X12_law_0 (d := 72) _ _ ⟨fun ha => ⟨fun hb => absurd ⟨ha, (cL 1499 (by omega)).mp hb⟩ hn, fun _ => KI.mk ⟨rfl, hI⟩⟩, fun _ => KI.mk ⟨rfl, hI⟩⟩)
  refine M_X11_law (d := 141) _ _ (w_X11_law_0 (d := 141) _ _ ⟨fun ha => ⟨fun hb => ?_, fun q => PI.mk (bad fun r => q r.2)⟩, fun q => PI.mk (bad fun r => q r.1)⟩)
  have hb' : (0 : Int32) ≤ b ∧ b ≤ 1499 := (cL 1499 (by omega)).mpr hb
  obtain ⟨u, hu, rfl⟩ := rngL 1 (by omega) ha
  obtain ⟨fr, hfr, rfl⟩ := rng 1500 (by omega) hb
  have e16 : nI ct = (16 : Int32) ↔ ct = 16 := nI_inj (b := 16) (by omega) (by omega)
  rw [l1, show nI ct < (16 : Int32) ↔ ct < 16 from nI_lti (b := 16) (by omega) (by omega), cl (n := ct) (by omega)]
  refine ⟨fun c16 => ⟨in_nI (by omega) (by omega), ?_⟩, fun c16 => PI.mk (M_X12_law (d := 72) _ _ (w_X12_law_0 (d := 72) _ _ ⟨fun _ => ⟨fun _ => ?_, fun q => absurd hb' q⟩, fun q => absurd ha q⟩))⟩
  · obtain ⟨cb, hcb⟩ : ∃ cb : Nat → Nat, ∀ i, i < L → cb i < 256 ∧ rd σ 24 i = nI (cb i) ∧ rd σ 84 i = vp_nar .byte (nI (cb i)) := by
      refine ⟨fun i => (rd σ 24 i).toNatClampNeg, fun i hi => ?_⟩
      obtain ⟨c, hc, e1, e2⟩ := t3 i hi
      dsimp only
      rw [e1, cl (by omega)]
      exact ⟨hc, rfl, e2⟩
    have hcb1 : ∀ i, i < L → cb i < 256 := fun i hi => (hcb i hi).1
    have hsL : ∀ q, L ≤ q → symL L cb q = 256 := fun q hq => symL_L hq
    refine (S_readX (Γ := Γ) (l := l) hL hcb1 c16 t1 (fun i hi => (hcb i hi).2.1)).mono ?_
    rintro v σ2 ⟨x, rfl, f2, h2⟩
    -- the reference over a state in which its places stand
    have mm : ∀ (σ3 : St) (X : Int32), (∀ q c, 59 ≤ q → q < 118 → rd σ3 q c = rd σ q c) → (∀ q σ', txt (symL L cb) L 69 161 0 [] = .inl q → (∀ p c, ¬ (p = 59 ∧ (c = 31 ∨ c = 39 ∨ c = 40 ∨ c = 41 ∨ c = 42 ∨ c = 43)) → ¬ ((p = 89 ∨ p = 90) ∧ 170 * ct ≤ c ∧ c < 170 * ct + 170) → rd σ' p c = rd σ3 p c) → rd σ' 59 31 = 0 → -100 - nI q = X ∧ Inv σ') → (∀ q T σ', txt (symL L cb) L 69 161 0 [] = .inr (q, T) → (∀ p c, ¬ (p = 59 ∧ (c = 31 ∨ c = 32 ∨ c = 39 ∨ c = 40 ∨ c = 41 ∨ c = 42 ∨ c = 43)) → ¬ ((p = 89 ∨ p = 90) ∧ 170 * ct ≤ c ∧ c < 170 * ct + 170) → ¬ ((p = 85 ∨ p = 86 ∨ p = 87 ∨ p = 88) ∧ c = ct) → rd σ' p c = rd σ3 p c) → rd σ' 59 31 = 0 → rd σ' 59 32 = nI (ct + 1) → rd σ' 85 ct = nI u → rd σ' 86 ct = nI (h / 24) → rd σ' 87 ct = nI fr → rd σ' 88 ct = nI T.length → (∀ j t, T[j]? = some t → rd σ' 89 (170 * ct + j) = tokA t ∧ (t.1 ≤ 1 → rd σ' 90 (170 * ct + j) = nI t.2)) → nI ct = X ∧ Inv σ') → PI Γ l 75 mX12_law [.ref 59, .int (nI u), .int (nI fr)] (some (.int X)) σ3 := by
      intro σ3 X A3 hf ho
      refine PI.mk (M_X12_law (d := 72) _ _ (w_X12_law_0 (d := 72) _ _ ⟨fun _ => ⟨fun _ => ⟨fun q => ?_, fun _ => ?_⟩, fun q => absurd hb' q⟩, fun q => absurd ha q⟩))
      · rw [A3 59 32 (by omega) (by omega), l2, e16] at q
        omega
      · rw [A3 59 32 (by omega) (by omega), l2]
        generalize hσ : wr (wr (wr (wr (wr σ3 59 39 (nI ct)) 59 40 0) 59 41 0) 59 42 (-1)) 59 43 0 = σ4
        have base : ∀ p c, ¬ (p = 59 ∧ (c = 39 ∨ c = 40 ∨ c = 41 ∨ c = 42 ∨ c = 43)) → rd σ4 p c = rd σ3 p c := fun p c q => by
          rw [← hσ, rdn (by omega), rdn (by omega), rdn (by omega), rdn (by omega), rdn (by omega)]
        have k39 : rd σ4 59 39 = nI ct := by rw [← hσ, rdn (by omega), rdn (by omega), rdn (by omega), rdn (by omega), rdy]
        have k40 : rd σ4 59 40 = nI 0 := by
          rw [← hσ, rdn (by omega), rdn (by omega), rdn (by omega), rdy]
          rfl
        have k41 : rd σ4 59 41 = nI 0 := by
          rw [← hσ, rdn (by omega), rdn (by omega), rdy]
          rfl
        have k42 : rd σ4 59 42 = -1 := by rw [← hσ, rdn (by omega), rdy]
        have k43 : rd σ4 59 43 = nI 0 := by
          rw [← hσ, rdy]
          rfl
        have hTM : TM ct L cb σ4 := ⟨(base 59 31 (by omega)).trans ((A3 59 31 (by omega) (by omega)).trans t2), k39, fun j hj => (base 84 j (by omega)).trans ((A3 84 j (by omega) (by omega)).trans (hcb j hj).2.2)⟩
        refine S_lawM hL hcb1 c16 hTM ((base 59 32 (by omega)).trans ((A3 59 32 (by omega) (by omega)).trans l2)) k41 k42 k43 k40 (fun q σ' hr hfr' => ?_) (fun q T σ' hr hfr' hrow => ?_)
        · obtain ⟨e1, e2⟩ := hf q (wr σ' 59 31 0) hr (fun p c q1 q2 => by rw [rdn (by omega), hfr' p c (by omega) q2, base p c (by omega)]) rdy
          exact KI.mk ⟨e1, e2⟩
        · have e1 : rd σ' 59 1 / 24 = nI (h / 24) := by
            rw [hfr' 59 1 (by omega) (by omega), base 59 1 (by omega), A3 59 1 (by omega) (by omega), g2]
            exact nI_divn (b := 24) (by omega) (by omega)
          have e40 : rd σ' 59 40 = nI T.length := by
            have := hrow.1
            rw [Nat.zero_add] at this
            exact this
          rw [e1, e40]
          obtain ⟨e2, e3⟩ := ho q T (wr (wr (wr (wr (wr (wr σ' 59 31 0) 85 ct (nI u)) 86 ct (nI (h / 24))) 87 ct (nI fr)) 88 ct (nI T.length)) 59 32 (nI (ct + 1))) hr (fun p c q1 q2 q3 => by rw [rdn (by omega), rdn (by omega), rdn (by omega), rdn (by omega), rdn (by omega), rdn (by omega), hfr' p c (by omega) q2, base p c (by omega)]) (by rw [rdn (by omega), rdn (by omega), rdn (by omega), rdn (by omega), rdn (by omega), rdy]) rdy (by rw [rdn (by omega), rdn (by omega), rdn (by omega), rdn (by omega), rdy]) (by rw [rdn (by omega), rdn (by omega), rdn (by omega), rdy]) (by rw [rdn (by omega), rdn (by omega), rdy]) (by rw [rdn (by omega), rdy]) (fun j t ht => by
            have := hrow.2.2 j t ht
            rw [Nat.zero_add] at this
            rw [rdn (by omega), rdn (by omega), rdn (by omega), rdn (by omega), rdn (by omega), rdn (by omega), rdn (by omega), rdn (by omega), rdn (by omega), rdn (by omega), rdn (by omega), rdn (by omega)]
            exact this)
          exact KI.mk ⟨e2, e3⟩
    -- what the class left
    rcases hz : txt (symL L cb) L 69 161 0 [] with q | ⟨q, T⟩
    · rw [hz] at h2
      have hx : x = nI q := h2
      subst hx
      have hq := txt_le hsL 161 0 [] q (by omega) hz
      refine ⟨_, rfl, fun t => ?_, fun _ => ?_⟩
      · have h3 := congrArg Int32.toInt t
        rw [ti_nI (by omega)] at h3
        have : (-1 : Int32).toInt = -1 := rfl
        omega
      · refine mm _ _ (fun p c q1 q2 => by rw [rdn (by omega)]; exact f2 p c (by omega) (by omega)) (fun q' σ' hr hag h31 => ?_) (fun q' T' σ' hr => ?_)
        · rw [hz] at hr
          have e := Sum.inl.inj hr
          subst e
          have Z : ∀ p c, ¬ (p = 59 ∧ (c = 31 ∨ c = 39 ∨ c = 40 ∨ c = 41 ∨ c = 42 ∨ c = 43)) → ¬ ((p = 89 ∨ p = 90) ∧ 170 * ct ≤ c ∧ c < 170 * ct + 170) → ¬ (p = 23 ∧ (c = 1 ∨ c = 2 ∨ c = 3 ∨ c = 4)) → p ≠ ct + 342 → rd σ' p c = rd σ p c := fun p c q1 q2 q3 q4 => by
            rw [hag p c q1 q2, rdn (by omega)]
            exact f2 p c (by omega) q4
          have n9 : ITape σ' := ⟨0, by omega, by
            rw [hag 23 1 (by omega) (by omega)]
            exact rdy, h31, fun j hj => absurd hj (by omega)⟩
          have n10 : ILaws h σ' := by
            refine ⟨ct, hct, (Z 26 5 (by omega) (by omega) (by omega) (by omega)).trans l1, (Z 59 32 (by omega) (by omega) (by omega) (by omega)).trans l2, fun j hj => ?_⟩
            obtain ⟨T, w1, w2, w3, w4, w5, w6, w7, w8, w9⟩ := l3 j hj
            refine ⟨T, w1, w2, w3, ?_, ?_, fun k t ht => ?_, ?_, ?_, ?_⟩
            · rw [Z 28 j (by omega) (by omega) (by omega) (by omega)]
              exact w4
            · rw [Z 88 j (by omega) (by omega) (by omega) (by omega)]
              exact w5
            · have hk : k < T.length := (List.getElem?_eq_some_iff.mp ht).1
              rw [Z (j + 342) k (by omega) (by omega) (by omega) (by omega), Z 89 _ (by omega) (by omega) (by omega) (by omega), Z 90 _ (by omega) (by omega) (by omega) (by omega)]
              exact w6 k t ht
            · rw [Z 29 j (by omega) (by omega) (by omega) (by omega), Z 85 j (by omega) (by omega) (by omega) (by omega)]
              exact w7
            · rw [Z 31 j (by omega) (by omega) (by omega) (by omega), Z 86 j (by omega) (by omega) (by omega) (by omega)]
              exact w8
            · rw [Z 30 j (by omega) (by omega) (by omega) (by omega), Z 87 j (by omega) (by omega) (by omega) (by omega)]
              exact w9
          refine ⟨rfl, h, nS, nK, nB, i1.of ?_, i2.of ?_, i3.of ?_, i4.of ?_, i5.of ?_, i6.of ?_, i7.of ?_, i8.of ?_, n9, n10, i11.of ?_, i12.of ?_, i13.of ?_, i14.of ?_⟩
          all_goals
            intro p c hq
            simp only [sHour, sShops, sKinds, sDays, sStep, sBatch, sSpoil, sKit, sTape, sLaws, sRows, sCuts, sBox, sCost] at hq
            exact Z p c (by omega) (by omega) (by omega) (by omega)
        · rw [hz] at hr
          cases hr
    · rw [hz] at h2
      obtain ⟨rfl, h4, hcode⟩ := h2
      obtain ⟨T1, T2, T3⟩ := txt_good hsL 161 0 [] q T (by omega) (by omega) (by show 0 ≤ 0; omega) (fun t ht => by cases ht) rfl hz
      refine ⟨_, rfl, fun _ => ?_, fun t => absurd rfl t⟩
      have c26 : rd (wr σ2 23 1 0) 26 5 = nI ct := by
        rw [rdn (by omega), f2 26 5 (by omega) (by omega)]
        exact l1
      have td2 : rd σ2 1 2 / 24 = nI (h / 24) := by
        rw [f2 1 2 (by omega) (by omega), g1]
        exact nI_divn (b := 24) (by omega) (by omega)
      rw [h4, td2]
      refine M_X6_add _ _ _ _ (w_X6_add_0 _ _ _ _ ?_)
      rw [c26, show nI ct < (16 : Int32) ↔ ct < 16 from nI_lti (b := 16) (by omega) (by omega), cl (n := ct) (by omega), nI_s, nI_pr]
      refine ⟨fun _ => ⟨in_nI (by omega) (by omega), KI.mk ?_⟩, fun t => absurd c16 t⟩
      generalize hσ : wr (wr (wr (wr (wr (wr σ2 23 1 0) 28 ct (nI T.length)) 29 ct (nI u)) 30 ct (nI fr)) 31 ct (nI (h / 24))) 26 5 (nI (ct + 1)) = σ3
      have B : ∀ p c, ¬ (p = 23 ∧ c = 1) → ¬ ((p = 28 ∨ p = 29 ∨ p = 30 ∨ p = 31) ∧ c = ct) → ¬ (p = 26 ∧ c = 5) → rd σ3 p c = rd σ2 p c := fun p c q1 q2 q3 => by
        rw [← hσ, rdn (by omega), rdn (by omega), rdn (by omega), rdn (by omega), rdn (by omega), rdn (by omega)]
      have v23 : rd σ3 23 1 = 0 := by rw [← hσ, rdn (by omega), rdn (by omega), rdn (by omega), rdn (by omega), rdn (by omega), rdy]
      have v28 : rd σ3 28 ct = nI T.length := by rw [← hσ, rdn (by omega), rdn (by omega), rdn (by omega), rdn (by omega), rdy]
      have v29 : rd σ3 29 ct = nI u := by rw [← hσ, rdn (by omega), rdn (by omega), rdn (by omega), rdy]
      have v30 : rd σ3 30 ct = nI fr := by rw [← hσ, rdn (by omega), rdn (by omega), rdy]
      have v31 : rd σ3 31 ct = nI (h / 24) := by rw [← hσ, rdn (by omega), rdy]
      have v26 : rd σ3 26 5 = nI (ct + 1) := by rw [← hσ, rdy]
      refine mm σ3 _ (fun p c q1 q2 => (B p c (by omega) (by omega) (by omega)).trans (f2 p c (by omega) (by omega))) (fun q' σ' hr => ?_) (fun q' T' σ' hr hag h31 h32 h85 h86 h87 h88 hent => ?_)
      · rw [hz] at hr
        cases hr
      · rw [hz] at hr
        have e := Sum.inr.inj hr
        cases e
        have C : ∀ p c, p < 59 ∨ 118 ≤ p → rd σ' p c = rd σ3 p c := fun p c q1 => hag p c (by omega) (by omega) (by omega)
        have Z : ∀ p c, ¬ (p = 59 ∧ (c = 31 ∨ c = 32 ∨ c = 39 ∨ c = 40 ∨ c = 41 ∨ c = 42 ∨ c = 43)) → ¬ ((p = 89 ∨ p = 90) ∧ 170 * ct ≤ c ∧ c < 170 * ct + 170) → ¬ ((p = 85 ∨ p = 86 ∨ p = 87 ∨ p = 88) ∧ c = ct) → ¬ (p = 23 ∧ (c = 1 ∨ c = 2 ∨ c = 3 ∨ c = 4)) → p ≠ ct + 342 → ¬ ((p = 28 ∨ p = 29 ∨ p = 30 ∨ p = 31) ∧ c = ct) → ¬ (p = 26 ∧ c = 5) → rd σ' p c = rd σ p c := fun p c q1 q2 q3 q4 q5 q6 q7 => by
          rw [hag p c q1 q2 q3, B p c (by omega) q6 q7]
          exact f2 p c (by omega) q5
        have n9 : ITape σ' := ⟨0, by omega, (C 23 1 (by omega)).trans v23, h31, fun j hj => absurd hj (by omega)⟩
        have n10 : ILaws h σ' := by
          refine ⟨ct + 1, by omega, (C 26 5 (by omega)).trans v26, h32, fun j hj => ?_⟩
          by_cases jc : j = ct
          · subst jc
            refine ⟨T, by omega, T2, T3, (C 28 j (by omega)).trans v28, h88, fun k t ht => ?_, ⟨u, hu, (C 29 j (by omega)).trans v29, h85⟩, ⟨h / 24, Nat.le_refl _, (C 31 j (by omega)).trans v31, h86⟩, ⟨fr, hfr, (C 30 j (by omega)).trans v30, h87⟩⟩
            have := hent k t ht
            refine ⟨?_, this.1, this.2⟩
            rw [C (j + 342) k (by omega), B (j + 342) k (by omega) (by omega) (by omega)]
            exact hcode k t ht
          · obtain ⟨T', w1, w2, w3, w4, w5, w6, w7, w8, w9⟩ := l3 j (by omega)
            refine ⟨T', w1, w2, w3, ?_, ?_, fun k t ht => ?_, ?_, ?_, ?_⟩
            · rw [Z 28 j (by omega) (by omega) (by omega) (by omega) (by omega) (by omega) (by omega)]
              exact w4
            · rw [Z 88 j (by omega) (by omega) (by omega) (by omega) (by omega) (by omega) (by omega)]
              exact w5
            · have hk : k < T'.length := (List.getElem?_eq_some_iff.mp ht).1
              rw [Z (j + 342) k (by omega) (by omega) (by omega) (by omega) (by omega) (by omega) (by omega), Z 89 _ (by omega) (by omega) (by omega) (by omega) (by omega) (by omega) (by omega), Z 90 _ (by omega) (by omega) (by omega) (by omega) (by omega) (by omega) (by omega)]
              exact w6 k t ht
            · rw [Z 29 j (by omega) (by omega) (by omega) (by omega) (by omega) (by omega) (by omega), Z 85 j (by omega) (by omega) (by omega) (by omega) (by omega) (by omega) (by omega)]
              exact w7
            · rw [Z 31 j (by omega) (by omega) (by omega) (by omega) (by omega) (by omega) (by omega), Z 86 j (by omega) (by omega) (by omega) (by omega) (by omega) (by omega) (by omega)]
              exact w8
            · rw [Z 30 j (by omega) (by omega) (by omega) (by omega) (by omega) (by omega) (by omega), Z 87 j (by omega) (by omega) (by omega) (by omega) (by omega) (by omega) (by omega)]
              exact w9
        refine ⟨rfl, h, nS, nK, nB, i1.of ?_, i2.of ?_, i3.of ?_, i4.of ?_, i5.of ?_, i6.of ?_, i7.of ?_, i8.of ?_, n9, n10, i11.of ?_, i12.of ?_, i13.of ?_, i14.of ?_⟩
        all_goals
          intro p c hq
          simp only [sHour, sShops, sKinds, sDays, sStep, sBatch, sSpoil, sKit, sTape, sLaws, sRows, sCuts, sBox, sCost] at hq
          exact Z p c (by omega) (by omega) (by omega) (by omega) (by omega) (by omega) (by omega)
  · rw [l2, e16]
    refine ⟨fun _ => KI.mk ⟨rfl, hI⟩, fun q => absurd (by omega) q⟩
end LW

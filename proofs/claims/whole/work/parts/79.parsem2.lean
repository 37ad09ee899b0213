/-! LAW: the reference reads a text -/
section LZ
variable {Γ : GG} {l : Launch} {σ : St} {ct L : Nat} {cb : Nat → Nat}
theorem levM {H : St → Prop} {Min : MD} {lv op p w f D : Nat} (hL : L ≤ 160) (hct : ct < 16) (hlv : lv < 5) (hlv2 : lv ≠ 2) (hC : CM Γ l ct L cb f Min (lv + 1)) (hD : f + 1 ≤ D) (hop : op ≤ 9) (hn : need lv op ≤ f + 1) (hwp : w ≤ p) (hp : p ≤ L)
    (exitF : ∀ σ', (0 : Int32) ≤ rd σ' 59 42 → pM (symL L cb) ct w p op σ (prs (symL L cb) (f + 1) lv op p) σ' → H σ')
    (exitN : ∀ σ' q, TM ct L cb σ' → rd σ' 59 41 = nI q → q ≤ L → rd σ' 59 42 = -1 → tig (symL L cb q) ≠ lv → pM (symL L cb) ct w p op σ (prs (symL L cb) (f + 1) lv op p) σ' → H σ')
    (goOn : ∀ σ' q, TM ct L cb σ' → rd σ' 59 41 = nI q → q < L → rd σ' 59 42 = -1 → tig (symL L cb q) = lv → Meth Γ l D Min [.ref 59] (wr σ' 59 41 (nI (q + 1))) (KV fun σ3 => Meth Γ l D mX12_lay [.ref 59, .int (nI (symL L cb q)), .int 0] σ3 (KV H)) → H σ')
    (hT : TM ct L cb σ) (h41 : rd σ 59 41 = nI p) (h42 : rd σ 59 42 = -1) (h43 : rd σ 59 43 = nI op) (h40 : rd σ 59 40 = nI w) : Meth Γ l D Min [.ref 59] σ (KV H) := by
  have hn2 : need (lv + 1) op ≤ f := by
    unfold need at *
    omega
  have hsL : ∀ q, L ≤ q → symL L cb q = 256 := fun q hq => symL_L hq
  have e : prs (symL L cb) (f + 1) lv op p = match prs (symL L cb) f (lv + 1) op p with
      | .inl q => .inl q
      | .inr (q, T) => lop (prs (symL L cb) f (lv + 1) op) (symL L cb) lv 161 q T := by
    show (if lv < 5 then _ else _) = _
    rw [if_pos hlv]
    rfl
  refine (hC D op p w σ hD hop hn2 hT h41 h42 h43 h40 hwp hp).mono ?_
  rintro v σ1 ⟨rfl, f1, f2⟩
  refine ⟨rfl, ?_⟩
  rcases hz : prs (symL L cb) f (lv + 1) op p with q | ⟨q, T⟩
  · rw [hz] at f2 e
    have hq := prs_le hsL f _ _ _ _ hp hz
    refine exitF σ1 (fault_pos (q := q) (by omega) f2.2.1) ⟨f1, ?_⟩
    rw [e]
    exact f2
  · rw [hz] at f2 e
    have g0 := prs_good hsL f _ _ _ _ _ hz
    exact loopM (σ := σ) (R := prs (symL L cb) (f + 1) lv op p) hL hct hlv hlv2 hC hD hop hn2 hwp exitF exitN goOn hT 161 q T σ1 e.symm (by omega) g0 f1 f2.1 f2.2
theorem neg1_n0 : ¬ (0 : Int32) ≤ -1 := by decide
theorem S_prsM (hL : L ≤ 160) (hb : ∀ i, i < L → cb i < 256) (hct : ct < 16) : ∀ f, CM Γ l ct L cb f mX12_whole 0 ∧ CM Γ l ct L cb f mX12_all 1 ∧ CM Γ l ct L cb f mX12_compared 2 ∧ CM Γ l ct L cb f mX12_sum 3 ∧ CM Γ l ct L cb f mX12_product 4 ∧ CM Γ l ct L cb f mX12_operand 5 := by
  intro f
  induction f with
  | zero =>
    refine ⟨?_, ?_, ?_, ?_, ?_, ?_⟩ <;> (intro D op p w σ _ h1 h2; unfold need at h2; omega)
  | succ f ih =>
    obtain ⟨ih0, ih1, ih2, ih3, ih4, ih5⟩ := ih
    have s256 : ∀ q, symL L cb q ≤ 256 := fun q => (sy_256 hb q).1
    have hsL : ∀ q, L ≤ q → symL L cb q = 256 := fun q hq => symL_L hq
    have lk : ∀ (D p : Nat) (σ : St), TM ct L cb σ → p ≤ L → rd σ 59 41 = nI p → Meth Γ l D mX12_look [.ref 59] σ (KI (Kv (lkV (symL L cb p)) σ)) := fun D p σ hT hp h2 => S_look hL hb hT hp h2
    have tg : ∀ s, tig s = 0 ↔ s = 124 := fun s => by
      unfold tig
      repeat' split
      all_goals omega
    have tg1 : ∀ s, tig s = 1 ↔ s = 38 := fun s => by
      unfold tig
      repeat' split
      all_goals omega
    have tg2 : ∀ s, tig s = 2 ↔ s = 60 ∨ s = 61 ∨ s = 62 := fun s => by
      unfold tig
      repeat' split
      all_goals omega
    have tg3 : ∀ s, tig s = 3 ↔ s = 43 ∨ s = 45 := fun s => by
      unfold tig
      repeat' split
      all_goals omega
    have tg4 : ∀ s, tig s = 4 ↔ s = 42 ∨ s = 47 := fun s => by
      unfold tig
      repeat' split
      all_goals omega
    refine ⟨?_, ?_, ?_, ?_, ?_, ?_⟩
    · -- or
      intro D op p w σ hD hop hn hT h41 h42 h43 h40 hwp hp
      obtain ⟨D, rfl⟩ : ∃ D', D = D' + 1 := ⟨D - 1, by omega⟩
      refine M_X12_whole (w_X12_whole_0 (levM hL hct (by omega) (by omega) ih1 (by omega) hop hn hwp hp (fun σ' h1 h2 => ?_) (fun σ' q hT' e41 hq e42 ht h2 => ?_) (fun σ' q hT' e41 hq e42 ht h2 => ?_) hT h41 h42 h43 h40))
      · exact w_X12_whole_4 ⟨fun _ => ⟨rfl, h2⟩, fun r => absurd h1 r⟩
      · refine w_X12_whole_4 ⟨fun r => absurd r (by rw [e42]; exact neg1_n0), fun _ => (lk D q σ' hT' hq e41).mono ?_⟩
        rintro v σ'' ⟨x, rfl, rfl, rfl⟩
        exact ⟨_, rfl, fun r => absurd ((tg _).mpr ((lkV_eq (k := 124) (s256 q) (by omega)).mp r)) ht, fun _ => ⟨rfl, h2⟩⟩
      · refine w_X12_whole_4 ⟨fun r => absurd r (by rw [e42]; exact neg1_n0), fun _ => (lk D q σ' hT' (by omega) e41).mono ?_⟩
        rintro v σ'' ⟨x, rfl, rfl, rfl⟩
        have es := (tg _).mp ht
        refine ⟨_, rfl, fun _ => ?_, fun r => absurd ((lkV_eq (k := 124) (s256 q) (by omega)).mpr es) r⟩
        rw [e41, nI_s q]
        rw [es] at h2
        exact h2
    · -- and
      intro D op p w σ hD hop hn hT h41 h42 h43 h40 hwp hp
      obtain ⟨D, rfl⟩ : ∃ D', D = D' + 1 := ⟨D - 1, by omega⟩
      refine M_X12_all (w_X12_all_0 (levM hL hct (by omega) (by omega) ih2 (by omega) hop hn hwp hp (fun σ' h1 h2 => ?_) (fun σ' q hT' e41 hq e42 ht h2 => ?_) (fun σ' q hT' e41 hq e42 ht h2 => ?_) hT h41 h42 h43 h40))
      · exact w_X12_all_4 ⟨fun _ => ⟨rfl, h2⟩, fun r => absurd h1 r⟩
      · refine w_X12_all_4 ⟨fun r => absurd r (by rw [e42]; exact neg1_n0), fun _ => (lk D q σ' hT' hq e41).mono ?_⟩
        rintro v σ'' ⟨x, rfl, rfl, rfl⟩
        exact ⟨_, rfl, fun r => absurd ((tg1 _).mpr ((lkV_eq (k := 38) (s256 q) (by omega)).mp r)) ht, fun _ => ⟨rfl, h2⟩⟩
      · refine w_X12_all_4 ⟨fun r => absurd r (by rw [e42]; exact neg1_n0), fun _ => (lk D q σ' hT' (by omega) e41).mono ?_⟩
        rintro v σ'' ⟨x, rfl, rfl, rfl⟩
        have es := (tg1 _).mp ht
        refine ⟨_, rfl, fun _ => ?_, fun r => absurd ((lkV_eq (k := 38) (s256 q) (by omega)).mpr es) r⟩
        rw [e41, nI_s q]
        rw [es] at h2
        exact h2
    · -- compared
      intro D op p w σ hD hop hn hT h41 h42 h43 h40 hwp hp
      obtain ⟨D, rfl⟩ : ∃ D', D = D' + 1 := ⟨D - 1, by omega⟩
      have hn2 : need 3 op ≤ f := by
        unfold need at *
        omega
      have e : prs (symL L cb) (f + 1) 2 op p = match prs (symL L cb) f 3 op p with
          | .inl q => .inl q
          | .inr (q, T) => lop (prs (symL L cb) f 3 op) (symL L cb) 2 161 q T := rfl
      refine M_X12_compared (w_X12_compared_0 ((ih3 D op p w σ (by omega) hop hn2 hT h41 h42 h43 h40 hwp hp).mono ?_))
      rintro v σ1 ⟨rfl, f1, f2⟩
      have hT1 := hT.fr f1
      refine ⟨rfl, ?_⟩
      rcases hz : prs (symL L cb) f 3 op p with q | ⟨q, T⟩
      · rw [hz] at f2 e
        have hq := prs_le hsL f _ _ _ _ hp hz
        refine (lk D q σ1 hT1 hq f2.1).mono ?_
        rintro v σ' ⟨x, rfl, rfl, rfl⟩
        refine ⟨_, rfl, fun _ => ⟨rfl, f1, ?_⟩, fun r => absurd (fault_pos (q := q) (by omega) f2.2.1) r⟩
        rw [e]
        exact f2
      · rw [hz] at f2 e
        obtain ⟨e41, f2⟩ := f2
        have g0 := prs_good hsL f _ _ _ _ _ hz
        obtain ⟨a1, a2, a3, -⟩ := id g0
        refine (lk D q σ1 hT1 a2 e41).mono ?_
        rintro v σ' ⟨x, rfl, rfl, rfl⟩
        dsimp only at e
        rcases f2 with ⟨dg, e42, lb⟩ | ⟨e42, e43, hrow⟩
        · refine ⟨_, rfl, fun _ => ⟨rfl, f1, ?_⟩, fun r => absurd (fault_pos (q := q) (by omega) e42) r⟩
          rw [e, lop_dig (by omega) dg]
          exact ⟨e41, Or.inl ⟨dg, e42, lb⟩⟩
        · have en : lop (prs (symL L cb) f 3 op) (symL L cb) 2 161 q T = if tig (symL L cb q) = 2 then
              match prs (symL L cb) f 3 op (q + 1) with
              | .inl r => .inl r
              | .inr (r, T2) => if 2 = 2 then .inr (r, T ++ (T2 ++ [(symL L cb q, 0)])) else lop (prs (symL L cb) f 3 op) (symL L cb) 2 160 r (T ++ (T2 ++ [(symL L cb q, 0)]))
            else .inr (q, T) := rfl
          rw [en] at e
          have go : tig (symL L cb q) = 2 → Meth Γ l D mX12_sum [.ref 59] (wr σ1 59 41 (rd σ1 59 41 + 1)) (KV fun σ4 => Meth Γ l D mX12_lay [.ref 59, .int (lkV (symL L cb q)), .int 0] σ4 (KV fun σ5 => KV (pM (symL L cb) ct w p op σ (prs (symL L cb) (f + 1) 2 op p)) none σ5)) := by
            intro ct'
            rw [if_pos ct'] at e
            have hql : q < L := by
              rcases Nat.lt_or_ge q L with c | c
              · exact c
              · rw [hsL q c] at ct'
                exact absurd ct' (by decide)
            have lke : lkV (symL L cb q) = nI (symL L cb q) := (lkV_eq (s256 q) (by
              rcases (tg2 _).mp ct' with t | t | t <;> omega)).mpr rfl
            rw [e41, nI_s q, lke]
            have hTw := hT1.fr (frM_w (ct := ct) (v := nI (q + 1)) (Or.inr (Or.inl rfl)) : frM ct σ1 (wr σ1 59 41 (nI (q + 1))))
            refine (ih3 D op (q + 1) (w + T.length) (wr σ1 59 41 (nI (q + 1))) (by omega) hop hn2 hTw rdy ((rdn (by omega)).trans e42) ((rdn (by omega)).trans e43) ((rdn (by omega)).trans hrow.1) (by omega) (by omega)).mono ?_
            rintro v σ3 ⟨rfl, f3, p3⟩
            have fr3 : frM ct σ σ3 := (f1.tr (frM_w (Or.inr (Or.inl rfl)))).tr f3
            have hT3 := hT.fr fr3
            refine ⟨rfl, ?_⟩
            have bad : ∀ r, r ≤ L → rd σ3 59 41 = nI r → rd σ3 59 42 = nI r → lbM (w + T.length) (q + 1) r σ3 → (∀ σ4, frM ct σ σ4 → rd σ4 59 41 = nI r → rd σ4 59 42 = nI r → lbM w p r σ4 → pM (symL L cb) ct w p op σ (prs (symL L cb) (f + 1) 2 op p) σ4) → Meth Γ l D mX12_lay [.ref 59, .int (nI (symL L cb q)), .int 0] σ3 (KV fun σ5 => KV (pM (symL L cb) ct w p op σ (prs (symL L cb) (f + 1) 2 op p)) none σ5) := by
              intro r hr e41 e42 ⟨w', e40, hw'⟩ hfin
              refine (S_lay (d := D) hct hT3 (show w' < 170 by omega) e40 _ _).mono ?_
              rintro v σ4 ⟨rfl, k1, ⟨k2, k3, k4⟩, k5, -⟩
              exact ⟨rfl, rfl, hfin σ4 (fr3.tr k1) (k2.trans e41) (k3.trans e42) ⟨w' + 1, k5, by omega⟩⟩
            rcases hz2 : prs (symL L cb) f 3 op (q + 1) with r | ⟨r, T2⟩
            · rw [hz2] at p3 e
              obtain ⟨e41', e42', lb'⟩ := p3
              refine bad r (prs_le hsL f _ _ _ _ (show q + 1 ≤ L by omega) hz2) e41' e42' lb' (fun σ4 g1 g2 g3 g4 => ⟨g1, ?_⟩)
              rw [e]
              exact ⟨g2, g3, g4⟩
            · rw [hz2] at p3 e
              dsimp only at e
              rw [if_pos rfl] at e
              obtain ⟨e41', p3⟩ := p3
              obtain ⟨b1, b2, b3, -⟩ := prs_good hsL f _ _ _ _ _ hz2
              rcases p3 with ⟨dg2, e42', lb'⟩ | ⟨e42', e43', row3⟩
              · refine bad r b2 e41' e42' lb' (fun σ4 g1 g2 g3 g4 => ⟨g1, ?_⟩)
                rw [e]
                exact ⟨g2, Or.inl ⟨dg2, g3, g4⟩⟩
              · have row2 : rowM ct w (T ++ T2) σ σ3 := rowM_app hrow (rowM_fr row3)
                refine (S_lay (d := D) hct hT3 (show w + (T ++ T2).length < 170 by rw [List.length_append]; omega) row2.1 _ _).mono ?_
                rintro v σ4 ⟨rfl, k1, ⟨k2, k3, k4⟩, k5, k6⟩
                have ek : nI (symL L cb q) = tokA (symL L cb q, 0) := by
                  rcases (tg2 _).mp ct' with t | t | t <;> rw [t] <;> rfl
                have sg5 : ¬ ((symL L cb q, 0) : Nat × Nat).1 ≤ 1 := by
                  rcases (tg2 _).mp ct' with t | t | t <;> rw [t] <;> simp
                refine ⟨rfl, rfl, fr3.tr k1, ?_⟩
                rw [e]
                refine ⟨k2.trans e41', Or.inr ⟨k3.trans e42', k4.trans e43', ?_⟩⟩
                rw [← List.append_assoc]
                exact rowM_app row2 (k6 (symL L cb q, 0) ek (fun h => absurd h sg5))
          refine ⟨_, rfl, fun r => absurd r (by rw [e42]; exact neg1_n0), fun _ => ⟨fun r => go ((tg2 _).mpr (Or.inl ((lkV_eq (k := 60) (s256 q) (by omega)).mp r))), fun r1 => ⟨fun r => go ((tg2 _).mpr (Or.inr (Or.inl ((lkV_eq (k := 61) (s256 q) (by omega)).mp r)))), fun r2 => ⟨fun r => go ((tg2 _).mpr (Or.inr (Or.inr ((lkV_eq (k := 62) (s256 q) (by omega)).mp r)))), fun r3 => ⟨rfl, f1, ?_⟩⟩⟩⟩⟩
          have ct' : ¬ tig (symL L cb q) = 2 := fun t => by
            rcases (tg2 _).mp t with t | t | t
            · exact r1 ((lkV_eq (k := 60) (s256 q) (by omega)).mpr t)
            · exact r2 ((lkV_eq (k := 61) (s256 q) (by omega)).mpr t)
            · exact r3 ((lkV_eq (k := 62) (s256 q) (by omega)).mpr t)
          rw [e, if_neg ct']
          exact ⟨e41, Or.inr ⟨e42, e43, hrow⟩⟩
    · -- sum
      intro D op p w σ hD hop hn hT h41 h42 h43 h40 hwp hp
      obtain ⟨D, rfl⟩ : ∃ D', D = D' + 1 := ⟨D - 1, by omega⟩
      refine M_X12_sum (w_X12_sum_0 (levM hL hct (by omega) (by omega) ih4 (by omega) hop hn hwp hp (fun σ' h1 h2 => ?_) (fun σ' q hT' e41 hq e42 ht h2 => ?_) (fun σ' q hT' e41 hq e42 ht h2 => ?_) hT h41 h42 h43 h40))
      · exact w_X12_sum_4 ⟨fun _ => ⟨rfl, h2⟩, fun r => absurd h1 r⟩
      · refine w_X12_sum_4 ⟨fun r => absurd r (by rw [e42]; exact neg1_n0), fun _ => (lk D q σ' hT' hq e41).mono ?_⟩
        rintro v σ'' ⟨x, rfl, rfl, rfl⟩
        refine ⟨_, rfl, fun r => absurd ((tg3 _).mpr (Or.inl ((lkV_eq (k := 43) (s256 q) (by omega)).mp r))) ht, fun _ => (lk D q σ' hT' hq e41).mono ?_⟩
        rintro v σ'' ⟨x, rfl, rfl, rfl⟩
        exact ⟨_, rfl, fun r => absurd ((tg3 _).mpr (Or.inr ((lkV_eq (k := 45) (s256 q) (by omega)).mp r))) ht, fun _ => ⟨rfl, h2⟩⟩
      · have at29 : J Γ l (D + 1) mX12_sum (KV (pM (symL L cb) ct w p op σ (prs (symL L cb) (f + 1) 3 op p))) 29 [(0, .ref 59)] [] σ' := by
          refine w_X12_sum_29 ((lk D q σ' hT' (by omega) e41).mono ?_)
          rintro v σ'' ⟨x, rfl, rfl, rfl⟩
          have lke : lkV (symL L cb q) = nI (symL L cb q) := (lkV_eq (s256 q) (by
            rcases (tg3 _).mp ht with t | t <;> omega)).mpr rfl
          refine ⟨_, rfl, ?_⟩
          dsimp only
          rw [e41, nI_s q, lke]
          exact h2
        refine w_X12_sum_4 ⟨fun r => absurd r (by rw [e42]; exact neg1_n0), fun _ => (lk D q σ' hT' (by omega) e41).mono ?_⟩
        rintro v σ'' ⟨x, rfl, rfl, rfl⟩
        refine ⟨_, rfl, fun _ => at29, fun r1 => (lk D q σ' hT' (by omega) e41).mono ?_⟩
        rintro v σ'' ⟨x, rfl, rfl, rfl⟩
        refine ⟨_, rfl, fun _ => at29, fun r2 => ?_⟩
        rcases (tg3 _).mp ht with t | t
        · exact absurd ((lkV_eq (k := 43) (s256 q) (by omega)).mpr t) r1
        · exact absurd ((lkV_eq (k := 45) (s256 q) (by omega)).mpr t) r2
    · -- product
      intro D op p w σ hD hop hn hT h41 h42 h43 h40 hwp hp
      obtain ⟨D, rfl⟩ : ∃ D', D = D' + 1 := ⟨D - 1, by omega⟩
      refine M_X12_product (w_X12_product_0 (levM hL hct (by omega) (by omega) ih5 (by omega) hop hn hwp hp (fun σ' h1 h2 => ?_) (fun σ' q hT' e41 hq e42 ht h2 => ?_) (fun σ' q hT' e41 hq e42 ht h2 => ?_) hT h41 h42 h43 h40))
      · exact w_X12_product_4 ⟨fun _ => ⟨rfl, h2⟩, fun r => absurd h1 r⟩
      · refine w_X12_product_4 ⟨fun r => absurd r (by rw [e42]; exact neg1_n0), fun _ => (lk D q σ' hT' hq e41).mono ?_⟩
        rintro v σ'' ⟨x, rfl, rfl, rfl⟩
        refine ⟨_, rfl, fun r => absurd ((tg4 _).mpr (Or.inl ((lkV_eq (k := 42) (s256 q) (by omega)).mp r))) ht, fun _ => (lk D q σ' hT' hq e41).mono ?_⟩
        rintro v σ'' ⟨x, rfl, rfl, rfl⟩
        exact ⟨_, rfl, fun r => absurd ((tg4 _).mpr (Or.inr ((lkV_eq (k := 47) (s256 q) (by omega)).mp r))) ht, fun _ => ⟨rfl, h2⟩⟩
      · have at29 : J Γ l (D + 1) mX12_product (KV (pM (symL L cb) ct w p op σ (prs (symL L cb) (f + 1) 4 op p))) 29 [(0, .ref 59)] [] σ' := by
          refine w_X12_product_29 ((lk D q σ' hT' (by omega) e41).mono ?_)
          rintro v σ'' ⟨x, rfl, rfl, rfl⟩
          have lke : lkV (symL L cb q) = nI (symL L cb q) := (lkV_eq (s256 q) (by
            rcases (tg4 _).mp ht with t | t <;> omega)).mpr rfl
          refine ⟨_, rfl, ?_⟩
          dsimp only
          rw [e41, nI_s q, lke]
          exact h2
        refine w_X12_product_4 ⟨fun r => absurd r (by rw [e42]; exact neg1_n0), fun _ => (lk D q σ' hT' (by omega) e41).mono ?_⟩
        rintro v σ'' ⟨x, rfl, rfl, rfl⟩
        refine ⟨_, rfl, fun _ => at29, fun r1 => (lk D q σ' hT' (by omega) e41).mono ?_⟩
        rintro v σ'' ⟨x, rfl, rfl, rfl⟩
        refine ⟨_, rfl, fun _ => at29, fun r2 => ?_⟩
        rcases (tg4 _).mp ht with t | t
        · exact absurd ((lkV_eq (k := 42) (s256 q) (by omega)).mpr t) r1
        · exact absurd ((lkV_eq (k := 47) (s256 q) (by omega)).mpr t) r2
    · -- operand
      intro D op p w σ hD hop hn hT h41 h42 h43 h40 hwp hp
      obtain ⟨D, rfl⟩ : ∃ D', D = D' + 1 := ⟨D - 1, by omega⟩
      generalize hsy : symL L cb = sy at *
      have inL : ∀ q, sy q ≠ 256 → q < L := fun q h => by
        rcases Nat.lt_or_ge q L with c | c
        · exact c
        · exact absurd (hsL q c) h
      have hP : prs sy (f + 1) 5 op p = if nmN (sy p) < 8 then .inr (p + 1, [(1, nmN (sy p))])
          else if sy p = 33 then
            if op < 9 then
              match prs sy f 5 (op + 1) (p + 1) with
              | .inl q => .inl q
              | .inr (q, T) => .inr (q, T ++ [(4, 0)])
            else .inl p
          else if sy p = 40 then
            if op < 9 then
              match prs sy f 0 (op + 1) (p + 1) with
              | .inl q => .inl q
              | .inr (q, T) => if sy q = 41 then .inr (q + 1, T) else .inl q
            else .inl p
          else if nDig sy p 4 = 0 then .inl p
          else .inr (p + nDig sy p 4, [(0, vDig sy p (nDig sy p 4))]) := rfl
      have sgdg : ∀ s, isDg s → ¬ nmN s < 8 := fun s h => by
        unfold isDg at h
        unfold nmN
        rw [if_neg (by omega), if_neg (by omega), if_neg (by omega), if_neg (by omega), if_neg (by omega), if_neg (by omega), if_neg (by omega), if_neg (by omega)]
        omega
      have clean : ∀ s q T, rd s 59 41 = nI q → rd s 59 42 = -1 → rd s 59 43 = nI op → rowM ct w T σ s → frM ct σ s → prs sy (f + 1) 5 op p = .inr (q, T) → KV (pM sy ct w p op σ (prs sy (f + 1) 5 op p)) none s := fun s q T d2 d3 d4 d5 d6 e => ⟨rfl, d6, by rw [e]; exact ⟨d2, Or.inr ⟨d3, d4, d5⟩⟩⟩
      have fault : ∀ s q, rd s 59 41 = nI q → rd s 59 42 = nI q → lbM w p q s → frM ct σ s → prs sy (f + 1) 5 op p = .inl q → KV (pM sy ct w p op σ (prs sy (f + 1) 5 op p)) none s := fun s q d2 d3 d4 d5 e => ⟨rfl, d5, by rw [e]; exact ⟨d2, d3, d4⟩⟩
      have pend : ∀ s q T, isDg (sy q) → rd s 59 41 = nI q → rd s 59 42 = nI q → lbM w p q s → frM ct σ s → prs sy (f + 1) 5 op p = .inr (q, T) → KV (pM sy ct w p op σ (prs sy (f + 1) 5 op p)) none s := fun s q T d1 d2 d3 d4 d5 e => ⟨rfl, d5, by rw [e]; exact ⟨d2, Or.inl ⟨d1, d3, d4⟩⟩⟩
      refine M_X12_operand (w_X12_operand_0 ((lk D p σ hT hp h41).mono ?_))
      rintro v σ' ⟨x, rfl, rfl, rfl⟩
      have nm := fun s => S_nameOf (Γ := Γ) (l := l) (d := D) (σ := s) (s256 p)
      refine ⟨_, rfl, (nm σ).mono ?_⟩
      rintro v σ' ⟨x, rfl, rfl, rfl⟩
      refine ⟨_, rfl, fun r => ?_, fun r => ?_⟩
      · have n1 : ¬ nmN (sy p) < 8 := fun s => by
          rw [if_pos s] at r
          exact absurd r (nlt0 (by omega))
        -- an open sign
        have sign : (sy p = 33 ∨ sy p = 40) → J Γ l (D + 1) mX12_operand (KV (pM sy ct w p op σ (prs sy (f + 1) 5 op p))) 44 [(0, .ref 59), (1, .int (lkV (sy p)))] [] σ := by
          intro hs
          have hpl := inL p (by omega)
          have e9 : nI op = (9 : Int32) ↔ op = 9 := nI_inj (b := 9) (by omega) (by omega)
          refine w_X12_operand_44 _ ?_
          rw [h43, e9, h41, nI_s p, nI_s op]
          refine ⟨fun o => (S_wrong (d := D) h42).mono ?_, fun o => ?_⟩
          · rintro v s1 ⟨rfl, rfl⟩
            refine ⟨rfl, fault _ p ((rdn (by omega)).trans h41) (by rw [rdy]; exact h41) ⟨w, (rdn (by omega)).trans h40, by omega⟩ (frM_w (Or.inr (Or.inr (Or.inl rfl)))) ?_⟩
            rw [hP, if_neg n1]
            rcases hs with t | t
            · rw [if_pos t, if_neg (by omega)]
            · rw [if_neg (by omega), if_pos t, if_neg (by omega)]
          · have o' : op < 9 := by omega
            have fw : frM ct σ (wr (wr σ 59 43 (nI (op + 1))) 59 41 (nI (p + 1))) := (frM_w (Or.inr (Or.inr (Or.inr rfl)))).tr (frM_w (Or.inr (Or.inl rfl)))
            have hTw := hT.fr fw
            have w42 : rd (wr (wr σ 59 43 (nI (op + 1))) 59 41 (nI (p + 1))) 59 42 = -1 := by
              rw [rdn (by omega), rdn (by omega)]
              exact h42
            have w43 : rd (wr (wr σ 59 43 (nI (op + 1))) 59 41 (nI (p + 1))) 59 43 = nI (op + 1) := by
              rw [rdn (by omega), rdy]
            have w40 : rd (wr (wr σ 59 43 (nI (op + 1))) 59 41 (nI (p + 1))) 59 40 = nI w := by
              rw [rdn (by omega), rdn (by omega)]
              exact h40
            refine ⟨fun s => ?_, fun s => ?_⟩
            · have s' : sy p = 33 := (lkV_eq (k := 33) (s256 p) (by omega)).mp s
              have hn2 : need 5 (op + 1) ≤ f := by
                unfold need at *
                omega
              have e : prs sy (f + 1) 5 op p = match prs sy f 5 (op + 1) (p + 1) with
                  | .inl q => .inl q
                  | .inr (q, T) => .inr (q, T ++ [(4, 0)]) := by rw [hP, if_neg n1, if_pos s', if_pos o']
              have inner := ih5 D (op + 1) (p + 1) w _ (by omega) (by omega) hn2 hTw rdy w42 w43 w40 (by omega) (by omega)
              rw [hsy] at inner
              refine inner.mono ?_
              rintro v σ5 ⟨rfl, f5, p5⟩
              have fr5 : frM ct σ σ5 := fw.tr f5
              have hT5 := hT.fr fr5
              refine ⟨rfl, ?_⟩
              rcases hz : prs sy f 5 (op + 1) (p + 1) with q | ⟨q, T⟩
              · rw [hz] at p5 e
                obtain ⟨d1, d2, w', d3, d4⟩ := p5
                have hq := prs_le hsL f _ _ _ _ (show p + 1 ≤ L by omega) hz
                refine (S_lay (d := D) hct hT5 (show w' < 170 by omega) d3 _ _).mono ?_
                rintro v σ6 ⟨rfl, k1, ⟨k2, k3, k4⟩, k5, -⟩
                refine ⟨rfl, fault _ q ((rdn (by omega)).trans (k2.trans d1)) ((rdn (by omega)).trans (k3.trans d2)) ⟨w' + 1, (rdn (by omega)).trans k5, by omega⟩ ((fr5.tr k1).tr (frM_w (Or.inr (Or.inr (Or.inr rfl))))) e⟩
              · rw [hz] at p5 e
                obtain ⟨d1, p5⟩ := p5
                obtain ⟨b1, b2, b3, -⟩ := prs_good hsL f _ _ _ _ _ hz
                rcases p5 with ⟨dg, d2, w', d3, d4⟩ | ⟨d2, d3, row5⟩
                · refine (S_lay (d := D) hct hT5 (show w' < 170 by omega) d3 _ _).mono ?_
                  rintro v σ6 ⟨rfl, k1, ⟨k2, k3, k4⟩, k5, -⟩
                  exact ⟨rfl, pend _ q _ dg ((rdn (by omega)).trans (k2.trans d1)) ((rdn (by omega)).trans (k3.trans d2)) ⟨w' + 1, (rdn (by omega)).trans k5, by omega⟩ ((fr5.tr k1).tr (frM_w (Or.inr (Or.inr (Or.inr rfl))))) e⟩
                · refine (S_lay (d := D) hct hT5 (show w + T.length < 170 by omega) row5.1 _ _).mono ?_
                  rintro v σ6 ⟨rfl, k1, ⟨k2, k3, k4⟩, k5, k6⟩
                  have row6 := rowM_app (rowM_fr (rowM_fr row5)) (k6 (4, 0) rfl (fun h => absurd h (by decide)))
                  refine ⟨rfl, clean _ q _ ((rdn (by omega)).trans (k2.trans d1)) ((rdn (by omega)).trans (k3.trans d2)) ?_ (rowM_to (Or.inr (Or.inr rfl)) row6) ((fr5.tr k1).tr (frM_w (Or.inr (Or.inr (Or.inr rfl))))) e⟩
                  rw [rdy, k4, d3, nI_pr]
            · have s' : sy p = 40 := by
                rcases hs with t | t
                · exact absurd ((lkV_eq (k := 33) (s256 p) (by omega)).mpr t) s
                · exact t
              have hn2 : need 0 (op + 1) ≤ f := by
                unfold need at *
                omega
              have e : prs sy (f + 1) 5 op p = match prs sy f 0 (op + 1) (p + 1) with
                  | .inl q => .inl q
                  | .inr (q, T) => if sy q = 41 then .inr (q + 1, T) else .inl q := by rw [hP, if_neg n1, if_neg (by omega), if_pos s', if_pos o']
              have inner := ih0 D (op + 1) (p + 1) w _ (by omega) (by omega) hn2 hTw rdy w42 w43 w40 (by omega) (by omega)
              rw [hsy] at inner
              refine inner.mono ?_
              rintro v σ5 ⟨rfl, f5, p5⟩
              have fr5 : frM ct σ σ5 := fw.tr f5
              have hT5 := hT.fr fr5
              refine ⟨rfl, ?_⟩
              rcases hz : prs sy f 0 (op + 1) (p + 1) with q | ⟨q, T⟩
              · rw [hz] at p5 e
                obtain ⟨d1, d2, w', d3, d4⟩ := p5
                have hq := prs_le hsL f _ _ _ _ (show p + 1 ≤ L by omega) hz
                refine ⟨fun t => absurd t (by rw [d2]; exact nlt0 (by omega)), fun _ => fault _ q d1 d2 ⟨w', d3, by omega⟩ fr5 e⟩
              · rw [hz] at p5 e
                dsimp only at e
                obtain ⟨d1, p5⟩ := p5
                obtain ⟨b1, b2, b3, -⟩ := prs_good hsL f _ _ _ _ _ hz
                rcases p5 with ⟨dg, d2, w', d3, d4⟩ | ⟨d2, d3, row5⟩
                · rw [if_neg (by unfold isDg at dg; omega)] at e
                  exact ⟨fun t => absurd t (by rw [d2]; exact nlt0 (by omega)), fun _ => fault _ q d1 d2 ⟨w', d3, by omega⟩ fr5 e⟩
                · have lkq := lk D q σ5 hT5 b2 d1
                  refine ⟨fun _ => lkq.mono ?_, fun t => absurd (by rw [d2]; decide) t⟩
                  rintro v s2 ⟨x, rfl, rfl, rfl⟩
                  refine ⟨_, rfl, fun t => ?_, fun t => (S_wrong (d := D) d2).mono ?_⟩
                  · have t' : sy q = 41 := (lkV_eq (k := 41) (s256 q) (by omega)).mp t
                    rw [if_pos t'] at e
                    rw [d1, d3, nI_s q, nI_pr]
                    have ql : q < L := inL q (by omega)
                    have row6 : rowM ct w T σ (wr (wr σ5 59 41 (nI (q + 1))) 59 43 (nI op)) := rowM_to (Or.inr (Or.inr rfl)) (rowM_to (Or.inl rfl) (rowM_fr (rowM_fr row5)))
                    have fr6 : frM ct σ (wr (wr σ5 59 41 (nI (q + 1))) 59 43 (nI op)) := (fr5.tr (frM_w (Or.inr (Or.inl rfl)))).tr (frM_w (Or.inr (Or.inr (Or.inr rfl))))
                    have r41 : rd (wr (wr σ5 59 41 (nI (q + 1))) 59 43 (nI op)) 59 41 = nI (q + 1) := (rdn (by omega)).trans rdy
                    have r42 : rd (wr (wr σ5 59 41 (nI (q + 1))) 59 43 (nI op)) 59 42 = -1 := (rdn (by omega)).trans ((rdn (by omega)).trans d2)
                    exact clean _ (q + 1) T r41 r42 rdy row6 fr6 e
                  · rintro v s3 ⟨rfl, rfl⟩
                    have t' : ¬ sy q = 41 := fun r => t ((lkV_eq (k := 41) (s256 q) (by omega)).mpr r)
                    rw [if_neg t'] at e
                    exact ⟨rfl, fault _ q ((rdn (by omega)).trans d1) (by rw [rdy]; exact d1) ⟨w + T.length, (rdn (by omega)).trans row5.1, by omega⟩ (fr5.tr (frM_w (Or.inr (Or.inr (Or.inl rfl))))) e⟩
        refine ⟨fun s => sign (Or.inl ((lkV_eq (k := 33) (s256 p) (by omega)).mp s)), fun s => ⟨fun s2 => sign (Or.inr ((lkV_eq (k := 40) (s256 p) (by omega)).mp s2)), fun s2 => ?_⟩⟩
        have t1 : ¬ sy p = 33 := fun t => s ((lkV_eq (k := 33) (s256 p) (by omega)).mpr t)
        have t2 : ¬ sy p = 40 := fun t => s2 ((lkV_eq (k := 40) (s256 p) (by omega)).mpr t)
        rw [if_neg n1, if_neg t1, if_neg t2] at hP
        have frw : ∀ i, frM ct σ (wr σ 59 41 (nI i)) := fun i => frM_w (Or.inr (Or.inl rfl))
        -- behind the digits
        have endN : ∀ i, i ≤ 4 → p + i ≤ L → (∀ j, j < i → isDg (sy (p + j))) → (i = 4 ∨ ¬ isDg (sy (p + i))) → J Γ l (D + 1) mX12_operand (KV (pM sy ct w p op σ (prs sy (f + 1) 5 op p))) 196 [(0, .ref 59), (2, .int (nI i)), (3, .int (nI (vDig sy p i)))] [] (wr σ 59 41 (nI (p + i))) := by
          intro i hi hpi hd he
          have en : nDig sy p 4 = i := nDig_of i p hi hd he
          rw [en] at hP
          have w41 : rd (wr σ 59 41 (nI (p + i))) 59 41 = nI (p + i) := rdy
          have w42 : rd (wr σ 59 41 (nI (p + i))) 59 42 = -1 := (rdn (by omega)).trans h42
          have w40 : rd (wr σ 59 41 (nI (p + i))) 59 40 = nI w := (rdn (by omega)).trans h40
          refine w_X12_operand_196 _ _ ⟨fun q => (S_wrong (d := D) w42).mono ?_, fun q => (lk D (p + i) _ (hT.fr (frw _)) hpi w41).mono ?_⟩
          · rintro v s1 ⟨rfl, rfl⟩
            have i0 : i = 0 := (nI_inj (b := 0) (by omega) (by omega)).mp q
            subst i0
            rw [if_pos rfl] at hP
            exact ⟨rfl, fault _ p ((rdn (by omega)).trans w41) (by rw [rdy]; exact w41) ⟨w, (rdn (by omega)).trans w40, by omega⟩ ((frw _).tr (frM_w (Or.inr (Or.inr (Or.inl rfl))))) hP⟩
          · rintro v s1 ⟨x, rfl, rfl, rfl⟩
            have i0 : ¬ i = 0 := fun e => q (by rw [e]; rfl)
            rw [if_neg i0] at hP
            refine ⟨_, rfl, fun r => (S_wrong (d := D) w42).mono ?_, fun r => ?_⟩
            · rintro v s1 ⟨rfl, rfl⟩
              exact ⟨rfl, pend _ (p + i) _ ((lkV_dig (s256 _)).mp r) ((rdn (by omega)).trans w41) (by rw [rdy]; exact w41) ⟨w, (rdn (by omega)).trans w40, by omega⟩ ((frw _).tr (frM_w (Or.inr (Or.inr (Or.inl rfl))))) hP⟩
            · refine (S_lay (d := D) hct (hT.fr (frw _)) (show w < 170 by omega) w40 _ _).mono ?_
              rintro v s6 ⟨rfl, k1, ⟨k2, k3, k4⟩, k5, k6⟩
              exact ⟨rfl, clean _ (p + i) _ (k2.trans w41) (k3.trans w42) (k4.trans ((rdn (by omega)).trans h43)) (rowM_fr (k6 (0, vDig sy p i) rfl (fun _ => rfl))) ((frw _).tr k1) hP⟩
        have digs : ∀ m i, i + m = 4 → p + i ≤ L → (∀ j, j < i → isDg (sy (p + j))) → J Γ l (D + 1) mX12_operand (KV (pM sy ct w p op σ (prs sy (f + 1) 5 op p))) 148 [(0, .ref 59), (2, .int (nI i)), (3, .int (nI (vDig sy p i)))] [] (wr σ 59 41 (nI (p + i))) := by
          intro m
          induction m with
          | zero =>
            intro i hi hpi hd
            have : i = 4 := by omega
            subst this
            exact w_X12_operand_148 _ _ ⟨fun _ => endN 4 (by omega) hpi hd (Or.inl rfl), fun q => absurd (by decide) q⟩
          | succ m ihm =>
            intro i hi hpi hd
            have w41 : rd (wr σ 59 41 (nI (p + i))) 59 41 = nI (p + i) := rdy
            have lki := lk D (p + i) _ (hT.fr (frw (p + i))) hpi w41
            have vb := vDig_lt (p := p) i hd
            have pb : 10 ^ i ≤ 10 ^ 4 := Nat.pow_le_pow_right (by omega) (by omega)
            refine w_X12_operand_148 _ _ ⟨fun q => absurd ((nI_lei (a := 4) (by omega) (by omega)).mp q) (by omega), fun _ => lki.mono ?_⟩
            rintro v s1 ⟨x, rfl, rfl, rfl⟩
            refine ⟨_, rfl, fun q => lki.mono ?_, fun q => endN i (by omega) hpi hd (Or.inr fun r => q ((lkV_dig (s256 _)).mpr r))⟩
            rintro v s1 ⟨x, rfl, rfl, rfl⟩
            have q' := (lkV_dig (s256 (p + i))).mp q
            have lt : p + i < L := inL _ (by unfold isDg at q'; omega)
            have lke : lkV (sy (p + i)) = nI (sy (p + i)) := (lkV_eq (s256 _) (by unfold isDg at q'; omega)).mpr rfl
            refine ⟨_, rfl, fun x5 h5 x6 h6 => ?_⟩
            have e5 : (10 : Int32) * nI (vDig sy p i) + lkV (sy (p + i)) - 48 = nI (vDig sy p (i + 1)) := by
              have q2 := q'
              unfold isDg at q2
              rw [lke, show (10 : Int32) * nI (vDig sy p i) = nI (10 * vDig sy p i) from nI_muln 10 _, nI_addn, show nI (10 * vDig sy p i + sy (p + i)) - 48 = nI (10 * vDig sy p i + sy (p + i) - 48) from nI_subn (b := 48) (by omega)]
              congr 1
              show _ = vDig sy p i * 10 + (sy (p + i) - 48)
              omega
            rw [e5] at h5
            rw [nI_s] at h6
            subst h5 h6
            have e2 : wr (wr σ 59 41 (nI (p + i))) 59 41 (rd (wr σ 59 41 (nI (p + i))) 59 41 + 1) = wr σ 59 41 (nI (p + (i + 1))) := by
              rw [rdy, nI_s]
              unfold wr
              congr 1
              funext a b
              dsimp only
              split <;> rfl
            rw [e2]
            refine ihm (i + 1) (by omega) (by omega) (fun j hj => ?_)
            rcases Nat.lt_or_ge j i with c | c
            · exact hd j c
            · rw [show j = i by omega]
              exact q'
        have := digs 4 0 (by omega) (by omega) (fun j hj => absurd hj (by omega))
        have e0 : wr σ 59 41 (nI (p + 0)) = σ := by
          rw [Nat.add_zero, ← h41]
          show ((fun a b => if a = 59 ∧ b = 41 then rd σ 59 41 else σ.1 a b), σ.2) = σ
          have e : (fun a b => if a = 59 ∧ b = 41 then rd σ 59 41 else σ.1 a b) = σ.1 := by
            funext a b
            split
            · rename_i h
              rw [h.1, h.2]
              rfl
            · rfl
          rw [e]
        rw [e0] at this
        exact this
      · -- a name
        have n1 : nmN (sy p) < 8 := by
          by_cases s : nmN (sy p) < 8
          · exact s
          · rw [if_neg s] at r
            exact absurd (by decide) r
        have hpl := inL p (by
          intro h
          rw [h] at n1
          exact absurd n1 (by decide))
        rw [if_pos n1] at hP
        refine (nm σ).mono ?_
        rintro v σ' ⟨x, rfl, rfl, rfl⟩
        rw [if_pos n1]
        refine ⟨_, rfl, (S_lay (d := D) hct hT (show w < 170 by omega) h40 _ _).mono ?_⟩
        rintro v s7 ⟨rfl, k1, ⟨k2, k3, k4⟩, k5, k6⟩
        refine ⟨rfl, ?_⟩
        dsimp only
        rw [k2, h41, nI_s p]
        exact clean _ (p + 1) _ rdy ((rdn (by omega)).trans (k3.trans h42)) ((rdn (by omega)).trans (k4.trans h43)) (rowM_to (Or.inl rfl) (k6 (1, nmN (sy p)) rfl (fun _ => rfl))) (k1.tr (frM_w (Or.inr (Or.inl rfl)))) hP
end LZ

/-! CRATES: the reference's search -/
def muW (z : Nat) (t : Nat → Nat) (lv u : Nat) : Nat := sU (fun k => (z + 1 - t k) * 16 ^ (6 - k)) lv + (z + 2 - u) * 16 ^ (6 - lv)
theorem muW_s {z : Nat} {t : Nat → Nat} {lv u : Nat} (hu : u ≤ z + 1) : muW z t lv (u + 1) < muW z t lv u := by
  unfold muW
  have h1 : z + 2 - u = z + 2 - (u + 1) + 1 := by omega
  rw [h1, Nat.succ_mul]
  have : 0 < 16 ^ (6 - lv) := Nat.pow_pos (by omega)
  omega
theorem muW_pop {z : Nat} {t : Nat → Nat} {l : Nat} (ht : t l ≤ z) : muW z t l (t l + 1) < muW z t (l + 1) (z + 1) := by
  unfold muW
  have h1 : z + 2 - (t l + 1) = z + 1 - t l := by omega
  have h2 : z + 2 - (z + 1) = 1 := by omega
  rw [h1, h2, show sU (fun k => (z + 1 - t k) * 16 ^ (6 - k)) (l + 1) = sU (fun k => (z + 1 - t k) * 16 ^ (6 - k)) l + (z + 1 - t l) * 16 ^ (6 - l) from rfl]
  have : 0 < 16 ^ (6 - (l + 1)) := Nat.pow_pos (by omega)
  omega
theorem muW_push {z : Nat} {t : Nat → Nat} {lv u : Nat} (hz : z ≤ 12) (hl : lv < 6) (hu : u ≤ z) : muW z (stC t lv u) (lv + 1) 0 < muW z t lv u := by
  unfold muW
  rw [show sU (fun k => (z + 1 - stC t lv u k) * 16 ^ (6 - k)) (lv + 1) = sU (fun k => (z + 1 - stC t lv u k) * 16 ^ (6 - k)) lv + (z + 1 - stC t lv u lv) * 16 ^ (6 - lv) from rfl, stC_y, sU_congr (f := fun k => (z + 1 - stC t lv u k) * 16 ^ (6 - k)) (f' := fun k => (z + 1 - t k) * 16 ^ (6 - k)) lv fun j hj => by
    rw [stC_n (by omega)]]
  have e : 16 ^ (6 - lv) = 16 ^ (6 - (lv + 1)) * 16 := by
    rw [← Nat.pow_succ]
    congr 1
    omega
  have h1 : z + 2 - u = z + 1 - u + 1 := by omega
  rw [h1, Nat.succ_mul]
  have h2 : (z + 2 - 0) * 16 ^ (6 - (lv + 1)) ≤ 14 * 16 ^ (6 - (lv + 1)) := Nat.mul_le_mul_right _ (by omega)
  have : 0 < 16 ^ (6 - (lv + 1)) := Nat.pow_pos (by omega)
  omega
theorem nI_mp (u : Nat) : nI u - 1 + 1 = nI u := by grind
/-- what the search keeps -/
def accW (z n : Nat) (g : Nat → Nat) (ml : Nat → Nat → Nat) (a2 a3 : Int32) (σ : St) : Option (Nat → Nat) → Prop
  | none => a2 = -1
  | some b => a2 = nI (n - lkC z b n) ∧ a3 = nI (miC z g ml b n) ∧ ∀ i, i < n → rd σ 108 i = nI (b i)
section CS
variable {Γ : GG} {l : Launch} {d : Nat} {σ : St}
theorem S_ways82 {Q : Option Value → St → Prop} {z n : Nat} {g sp p : Nat → Nat} (hn : n ≤ 6) (hn0 : 0 < n) (hz : z ≤ 12) (h2 : rd σ 59 2 = nI z) (hg : ∀ i, i < n → rd σ 106 i = nI (g i) ∧ g i < z) (hsp : ∀ s, s < z → rd σ 104 s = nI (sp s) ∧ sp s ≤ 3) (hp : ∀ s, p s < 10000) (hx : ∀ s, s < z → rd σ 60 s = nI (p s / 100) ∧ rd σ 61 s = nI (p s % 100))
    (hQ : ∀ (σ' : St) (b : Nat → Nat), vld z g sp b n → (∀ c, vld z g sp c n → kyC z g (mlP p) b n ≤ kyC z g (mlP p) c n) → (∀ i, i < n → rd σ' 108 i = nI (b i)) → (∀ q k, q ≠ 107 → q ≠ 108 → rd σ' q k = rd σ q k) → Q (some (.int (nI (miC z g (mlP p) b n)))) σ') (h0 : rd σ 107 0 = -1) : J Γ l (d + 3) mX12_ways Q 82 [(0, .ref 59), (1, .int (nI n)), (2, .int (-1)), (3, .int 0), (4, .int 0)] [] σ := by
  have hml := mlP_le hp
  have loop : ∀ N t lv u a2 a3 acc σi, muW z t lv u ≤ N → lv < n → u ≤ z + 1 → (∀ k, k < lv → rd σi 107 k = nI (t k) ∧ t k ≤ z) → rd σi 107 lv = nI u - 1 → vld z g sp t lv → accW z n g (mlP p) a2 a3 σi acc → invB z n g sp (mlP p) t lv u acc → (∀ q k, q ≠ 107 → q ≠ 108 → rd σi q k = rd σ q k) → J Γ l (d + 3) mX12_ways Q 82 [(0, .ref 59), (1, .int (nI n)), (2, .int a2), (3, .int a3), (4, .int (nI lv))] [] σi := by
    intro N
    induction N with
    | zero =>
      intro t lv u a2 a3 acc σi hN hlv hu
      exfalso
      have h1 : (z + 2 - u) * 16 ^ (6 - lv) ≤ 0 := by
        unfold muW at hN
        omega
      have h3 : 0 < (z + 2 - u) * 16 ^ (6 - lv) := Nat.mul_pos (by omega) (Nat.pow_pos (by omega))
      omega
    | succ N ih =>
      intro t lv u a2 a3 acc σi hN hlv hu hmem hcur hvt hacc hinv hag
      refine w_X12_ways_82 _ _ _ _ ⟨fun q => absurd q (nlt0 (by omega)), fun _ => ⟨fun q => ?_, fun _ => ⟨in_nI (by omega) (by omega), ?_⟩⟩⟩
      · have := (nI_lei (b := 0) (by omega) (by omega)).mp q
        omega
      rw [cl (n := lv) (by omega), hcur, nI_mp, rdy, hag 59 2 (by omega) (by omega), h2, nI_lei (by omega) (by omega)]
      generalize hσ : wr σi 107 lv (nI u) = σw
      have mem : ∀ k, k ≤ lv → rd σw 107 k = nI (stC t lv u k) := fun k hk => by
        rw [← hσ]
        by_cases e : k = lv
        · subst e
          rw [rdy, stC_y]
        · rw [rdn (by omega), stC_n e]
          exact (hmem k (by omega)).1
      have agw : ∀ q k, q ≠ 107 → q ≠ 108 → rd σw q k = rd σ q k := fun q k a1 a2 => by
        rw [← hσ, rdn (by omega)]
        exact hag q k a1 a2
      have accw : ∀ σj, (∀ q k, q ≠ 107 → rd σj q k = rd σi q k) → accW z n g (mlP p) a2 a3 σj acc := fun σj hj => by
        rcases acc with _ | b
        · exact hacc
        · exact ⟨hacc.1, hacc.2.1, fun i hi => (hj 108 i (by omega)).trans (hacc.2.2 i hi)⟩
      have aw : accW z n g (mlP p) a2 a3 σw acc := accw σw fun q k a1 => by
        rw [← hσ, rdn (by omega)]
      refine ⟨fun hle => ?_, fun hgt x8 h8 => ?_⟩
      · -- a candidate
        have memz : ∀ i, i ≤ lv → rd σw 107 i = nI (stC t lv u i) ∧ stC t lv u i ≤ z := fun i hi => by
          refine ⟨mem i hi, ?_⟩
          by_cases e : i = lv
          · rw [e, stC_y]
            exact hle
          · rw [stC_n e]
            exact (hmem i (by omega)).2
        have g59 : rd σw 59 2 = nI z := (agw 59 2 (by omega) (by omega)).trans h2
        have hgw : ∀ i, i < n → rd σw 106 i = nI (g i) ∧ g i < z := fun i hi => ⟨(agw 106 i (by omega) (by omega)).trans (hg i hi).1, (hg i hi).2⟩
        have hspw : ∀ s, s < z → rd σw 104 s = nI (sp s) ∧ sp s ≤ 3 := fun s hs => ⟨(agw 104 s (by omega) (by omega)).trans (hsp s hs).1, (hsp s hs).2⟩
        have hxw : ∀ s, s < z → rd σw 60 s = nI (p s / 100) ∧ rd σw 61 s = nI (p s % 100) := fun s hs => ⟨(agw 60 s (by omega) (by omega)).trans (hx s hs).1, (agw 61 s (by omega) (by omega)).trans (hx s hs).2⟩
        -- over to the next candidate
        have skip : (∀ c, vld z g sp c n → (∀ j, j < lv → c j = t j) → c lv = u → ∃ b, acc = some b ∧ kyC z g (mlP p) b n ≤ kyC z g (mlP p) c n) → J Γ l (d + 3) mX12_ways Q 82 [(0, .ref 59), (1, .int (nI n)), (2, .int a2), (3, .int a3), (4, .int (nI lv))] [] σw := fun hs =>
          ih t lv (u + 1) a2 a3 acc σw (by have := muW_s (z := z) (t := t) (lv := lv) hu; omega) hlv (by omega) (fun k hk => ⟨by rw [mem k (by omega), stC_n (by omega)], (hmem k hk).2⟩) (by rw [mem lv (Nat.le_refl _), stC_y, nI_pr]) hvt aw (invB_skip hinv hs) agw
        refine (S_mayCome (d := d + 2) (c := stC t lv u) hn hz hlv g59 hgw hspw memz).mono ?_
        rintro v σ2 ⟨x, rfl, rfl, hx1⟩
        refine ⟨_, rfl, fun q => skip fun c hc c1 c2 => ?_, fun q => ?_⟩
        · exfalso
          have hno : ¬ (stC t lv u lv = z ∨ (stC t lv u lv < z ∧ stC t lv u lv ≠ g lv ∧ cC (stC t lv u) (stC t lv u lv) (lv + 1) ≤ sp (stC t lv u lv))) := by
            rcases hx1 with ⟨rfl, -⟩ | ⟨-, r⟩
            · exact absurd q (by decide)
            · exact r
          apply hno
          have e : ∀ j, j < lv + 1 → c j = stC t lv u j := fun j hj => by
            by_cases r : j = lv
            · rw [r, stC_y, c2]
            · rw [stC_n r, c1 j (by omega)]
          have h3 := hc lv hlv
          rw [e lv (by omega), cC_congr (c' := stC t lv u) (lv + 1) fun j hj => by rw [e j hj]] at h3
          exact h3
        have hok : stC t lv u lv = z ∨ (stC t lv u lv < z ∧ stC t lv u lv ≠ g lv ∧ cC (stC t lv u) (stC t lv u lv) (lv + 1) ≤ sp (stC t lv u lv)) := by
          rcases hx1 with ⟨-, r⟩ | ⟨rfl, -⟩
          · exact r
          · exact absurd rfl q
        have hv' : vld z g sp (stC t lv u) (lv + 1) := fun i hi => by
          rcases Nat.lt_or_ge i lv with r | r
          · exact vld_eq (c := t) (c' := stC t lv u) (fun j hj => (stC_n (by omega)).symm) hvt i r
          · rw [show i = lv by omega]
            exact hok
        -- a way further
        have on : (∀ b, acc = some b → lv + 1 = n → kyC z g (mlP p) (stC t lv u) n ≤ kyC z g (mlP p) b n) → J Γ l (d + 3) mX12_ways Q 182 [(0, .ref 59), (1, .int (nI n)), (2, .int a2), (3, .int a3), (4, .int (nI lv))] [] σ2 := by
          intro hbest
          refine w_X12_ways_182 _ _ _ _ ?_
          rw [show nI n - 1 = nI (n - 1) from nI_subn (b := 1) (by omega), nI_lei (by omega) (by omega)]
          refine ⟨fun r => ?_, fun r x5 h5 => ?_⟩
          · have elv : lv + 1 = n := by omega
            refine (S_movedTo (d := d + 2) (c := stC t lv u) hz hn g59 (fun i hi => memz i (by omega))).mono ?_
            rintro v σ3 ⟨x, rfl, rfl, rfl⟩
            refine ⟨_, rfl, (S_milesM (d := d) (k := n) (n := n) (g := g) (c := stC t lv u) (p := p) hz hn (Nat.le_refl _) g59 hgw hp hxw (fun i hi => memz i (by omega))).mono ?_⟩
            rintro v σ3 ⟨x, rfl, rfl, rfl⟩
            refine ⟨_, rfl, ?_⟩
            have copy : ∀ f i σj, i + f = n → (∀ q k, rd σj q k = if q = 108 ∧ k < i then nI (stC t lv u k) else rd σ2 q k) → J Γ l (d + 3) mX12_ways Q 219 [(0, .ref 59), (1, .int (nI n)), (2, .int (nI (mvN z (stC t lv u) n))), (3, .int (nI (miC z g (mlP p) (stC t lv u) n))), (4, .int (nI lv)), (6, .int (nI i))] [] σj := by
              intro f
              induction f with
              | zero =>
                intro i σj hi hj
                have : i = n := by omega
                subst this
                refine w_X12_ways_219 _ _ _ _ _ ⟨fun _ => ?_, fun q => absurd (Int32.le_refl _) q⟩
                have mj : ∀ k, rd σj 107 k = rd σ2 107 k := fun k => by rw [hj, if_neg (by omega)]
                refine ih t lv (u + 1) _ _ (some (stC t lv u)) σj (by have := muW_s (z := z) (t := t) (lv := lv) hu; omega) hlv (by omega) (fun k hk => ⟨by rw [mj, mem k (by omega), stC_n (by omega)], (hmem k hk).2⟩) (by rw [mj, mem lv (Nat.le_refl _), stC_y, nI_pr]) hvt ⟨?_, rfl, fun j hj2 => ?_⟩ (invB_rec elv (by rw [← elv]; exact hv') hinv (fun b hb => hbest b hb elv)) (fun q k a1 a2 => ?_)
                · have := mv_lk (z := z) (c := stC t lv u) i
                  congr 1
                  omega
                · rw [hj, if_pos ⟨rfl, hj2⟩]
                · rw [hj, if_neg (by omega)]
                  exact agw q k a1 a2
              | succ f ihc =>
                intro i σj hi hj
                refine w_X12_ways_219 _ _ _ _ _ ⟨fun q => absurd ((nI_lei (by omega) (by omega)).mp q) (by omega), fun _ => ⟨in_nI (by omega) (by omega), fun y hy => ?_⟩⟩
                rw [nI_s] at hy
                subst hy
                rw [cl (n := i) (by omega)]
                refine ihc (i + 1) _ (by omega) (fun q k => ?_)
                rw [rd_wr, hj 107 i, if_neg (c := 107 = 108 ∧ i < i) (by omega), mem i (by omega), hj]
                by_cases e : q = 108 ∧ k = i
                · rw [if_pos e, if_pos (by omega), e.2]
                · rw [if_neg e]
                  by_cases e2 : q = 108 ∧ k < i
                  · rw [if_pos e2, if_pos (by omega)]
                  · rw [if_neg e2, if_neg (by omega)]
            exact copy n 0 σ2 (by omega) (fun q k => (if_neg (by omega)).symm)
          · rw [nI_s] at h5
            subst h5
            rw [cl (n := lv + 1) (by omega)]
            refine ⟨in_nI (by omega) (by omega), ih (stC t lv u) (lv + 1) 0 a2 a3 acc _ (by have := muW_push (t := t) hz (show lv < 6 by omega) hle; omega) (by omega) (by omega) (fun k hk => ?_) ?_ hv' ?_ (invB_push hinv) (fun q k a1 a2 => ?_)⟩
            · rw [rdn (by omega)]
              exact memz k (by omega)
            · rw [rdy]
              decide
            · rcases acc with _ | b
              · exact aw
              · exact ⟨aw.1, aw.2.1, fun i hi => by rw [rdn (by omega)]; exact aw.2.2 i hi⟩
            · rw [rdn (by omega)]
              exact agw q k a1 a2
        rw [nI_s]
        refine (S_movedTo (d := d + 2) (c := stC t lv u) (k := lv + 1) hz (by omega) g59 (fun i hi => memz i (by omega))).mono ?_
        rintro v σ3 ⟨x, rfl, rfl, rfl⟩
        have ml1 := mv_lk (z := z) (c := stC t lv u) (lv + 1)
        have ecan : nI (mvN z (stC t lv u) (lv + 1)) + nI n - nI lv - 1 = nI (mvN z (stC t lv u) (lv + 1) + (n - lv - 1)) := by
          rw [nI_addn, nI_subn (by omega), show nI (mvN z (stC t lv u) (lv + 1) + n - lv) - 1 = nI (mvN z (stC t lv u) (lv + 1) + n - lv - 1) from nI_subn (b := 1) (by omega)]
          congr 1
          omega
        refine ⟨_, rfl, ?_⟩
        dsimp only
        rw [ecan]
        rcases acc with _ | b
        · have ea : a2 = -1 := hacc
          subst ea
          exact ⟨fun _ => on fun b hb => (by cases hb), fun q => absurd (by decide) q⟩
        obtain ⟨rfl, rfl, h108⟩ := hacc
        have lkb := lk_le (z := z) (c := b) (n := n)
        have pass : (mvN z (stC t lv u) (lv + 1) + (n - lv - 1) < n - lkC z b n ∨ (mvN z (stC t lv u) (lv + 1) + (n - lv - 1) = n - lkC z b n ∧ miC z g (mlP p) b n ≤ miC z g (mlP p) (stC t lv u) (lv + 1))) → ∀ c, vld z g sp c n → (∀ j, j < lv → c j = t j) → c lv = u → ∃ b', some b = some b' ∧ kyC z g (mlP p) b' n ≤ kyC z g (mlP p) c n := by
          intro hcut c hc c1 c2
          have e : ∀ j, j < lv + 1 → c j = stC t lv u j := fun j hj => by
            by_cases r : j = lv
            · rw [r, stC_y, c2]
            · rw [stC_n r, c1 j (by omega)]
          refine ⟨b, rfl, cut_le hn hz hml hinv.1 hc hlv hinv.2.1 c1 c2 ?_⟩
          have e1 : mvN z c (lv + 1) = mvN z (stC t lv u) (lv + 1) := sU_congr _ fun j hj => by rw [e j hj]
          have e2 : miC z g (mlP p) c (lv + 1) = miC z g (mlP p) (stC t lv u) (lv + 1) := sU_congr _ fun j hj => by rw [e j hj]
          rw [e1, e2]
          exact hcut
        have dgl : ∀ c, (∀ i, i < n → c i ≤ z) → dgC z c n < 16777216 := fun c hc => dg_lt hn hz hc
        refine ⟨fun q => absurd q (nlt0 (by omega)), fun _ => ?_⟩
        rw [nI_lti (by omega) (by omega), nI_inj (by omega) (by omega)]
        refine ⟨fun q => skip (pass (Or.inl q)), fun q => ⟨fun q2 => ?_, fun q2 => on fun b' hb' elv => ?_⟩⟩
        · refine (S_milesM (d := d) (k := lv + 1) (n := n) (g := g) (c := stC t lv u) (p := p) hz hn (by omega) g59 hgw hp hxw (fun i hi => memz i (by omega))).mono ?_
          rintro v σ6 ⟨x, rfl, rfl, rfl⟩
          have mb : ∀ c, miC z g (mlP p) c (lv + 1) < 2048 := fun c => mi_lt (n := lv + 1) (by omega) hml
          have mb1 := mb (stC t lv u)
          have mb2 : miC z g (mlP p) b n < 2048 := mi_lt hn hml
          refine ⟨_, rfl, ?_⟩
          dsimp only
          rw [nI_lti (by omega) (by omega)]
          refine ⟨fun q3 => on fun b' hb' elv => ?_, fun q3 => skip (pass (Or.inr ⟨q2, by omega⟩))⟩
          cases hb'
          subst elv
          have d1 := dgl _ (fun i hi => (memz i (by omega)).2)
          rw [ky_parts, ky_parts]
          omega
        · cases hb'
          subst elv
          have d1 := dgl _ (fun i hi => (memz i (by omega)).2)
          have mb2 : miC z g (mlP p) (stC t lv u) (lv + 1) < 2048 := mi_lt hn hml
          rw [ky_parts, ky_parts]
          omega
      · -- back
        have eu : u = z + 1 := by omega
        subst eu
        rcases Nat.eq_zero_or_pos lv with e | e
        · subst e
          have e8 : x8 = -1 := by
            rw [h8]
            decide
          subst e8
          refine w_X12_ways_82 _ _ _ _ ⟨fun _ => ?_, fun q => absurd (by decide) q⟩
          have all : ∀ c, vld z g sp c n → hdW t 0 (z + 1) c := fun c hc => Or.inr ⟨fun j hj => absurd hj (by omega), by have := vld_le hc 0 hlv; omega⟩
          rcases acc with _ | b
          · exact absurd (all _ (fun i _ => Or.inl rfl : vld z g sp (fun _ => z) n)) (hinv _ fun i _ => Or.inl rfl)
          · have a3e := aw.2.1
            subst a3e
            exact hQ σw b hinv.1 (fun c hc => hinv.2.2 c hc (all c hc)) aw.2.2 agw
        · obtain ⟨m, rfl⟩ : ∃ m, lv = m + 1 := ⟨lv - 1, by omega⟩
          rw [nI_p] at h8
          subst h8
          obtain ⟨m1, m2⟩ := hmem m (by omega)
          refine ih t m (t m + 1) a2 a3 acc σw (by have := muW_pop (l := m) m2; omega) (by omega) (by omega) (fun k hk => ⟨by rw [mem k (by omega), stC_n (by omega)], (hmem k (by omega)).2⟩) (by rw [mem m (by omega), stC_n (by omega), nI_pr]) (fun i hi => hvt i (by omega)) aw (invB_pop hlv hinv) agw
  refine loop _ (fun _ => 0) 0 0 (-1) 0 none σ (Nat.le_refl _) hn0 (by omega) (fun k hk => absurd hk (by omega)) (by rw [h0]; decide) (fun i hi => absurd hi (by omega)) rfl (fun c _ q => ?_) (fun _ _ _ _ => rfl)
  rcases q with ⟨k, hk, -⟩ | ⟨-, q⟩
  · omega
  · exact absurd q (Nat.not_lt_zero _)
end CS

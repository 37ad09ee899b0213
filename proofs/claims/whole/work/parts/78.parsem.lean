/-! LAW: the reference's side -/
def isDg (s : Nat) : Prop := 48 ≤ s ∧ s ≤ 57
def TM (ct L : Nat) (cb : Nat → Nat) (σ : St) : Prop := rd σ 59 31 = nI L ∧ rd σ 59 39 = nI ct ∧ ∀ i, i < L → rd σ 84 i = vp_nar .byte (nI (cb i))
def frM (ct : Nat) (σ σ' : St) : Prop := ∀ q c, ¬ (q = 59 ∧ (c = 40 ∨ c = 41 ∨ c = 42 ∨ c = 43)) → ¬ ((q = 89 ∨ q = 90) ∧ 170 * ct ≤ c ∧ c < 170 * ct + 170) → rd σ' q c = rd σ q c
def rowM (ct w : Nat) (T : List (Nat × Nat)) (σ σ' : St) : Prop := rd σ' 59 40 = nI (w + T.length) ∧ (∀ j, j < w → rd σ' 89 (170 * ct + j) = rd σ 89 (170 * ct + j) ∧ rd σ' 90 (170 * ct + j) = rd σ 90 (170 * ct + j)) ∧ ∀ j t, T[j]? = some t → rd σ' 89 (170 * ct + (w + j)) = tokA t ∧ (t.1 ≤ 1 → rd σ' 90 (170 * ct + (w + j)) = nI t.2)
/-- no more was laid than bytes were read -/
def lbM (w p q : Nat) (σ : St) : Prop := ∃ w', rd σ 59 40 = nI w' ∧ w' + p ≤ w + q
def pM (sy : Nat → Nat) (ct w p op : Nat) (σ : St) (R : Res) (σ' : St) : Prop := frM ct σ σ' ∧ match R with
  | .inl q => rd σ' 59 41 = nI q ∧ rd σ' 59 42 = nI q ∧ lbM w p q σ'
  | .inr (q, T) => rd σ' 59 41 = nI q ∧ ((isDg (sy q) ∧ rd σ' 59 42 = nI q ∧ lbM w p q σ') ∨ (rd σ' 59 42 = -1 ∧ rd σ' 59 43 = nI op ∧ rowM ct w T σ σ'))
theorem TM.fr {ct L : Nat} {cb : Nat → Nat} {σ σ' : St} (h : TM ct L cb σ) (f : frM ct σ σ') : TM ct L cb σ' := ⟨(f 59 31 (by omega) (by omega)).trans h.1, (f 59 39 (by omega) (by omega)).trans h.2.1, fun i hi => (f 84 i (by omega) (by omega)).trans (h.2.2 i hi)⟩
theorem frM.tr {ct : Nat} {a b c : St} (h1 : frM ct a b) (h2 : frM ct b c) : frM ct a c := fun q k h h' => (h2 q k h h').trans (h1 q k h h')
theorem frM.rf {ct : Nat} {a : St} : frM ct a a := fun _ _ _ _ => rfl
theorem frM_w {ct c : Nat} {σ : St} {v : Int32} (hc : c = 40 ∨ c = 41 ∨ c = 42 ∨ c = 43) : frM ct σ (wr σ 59 c v) := fun q k a1 a2 => rdn (by omega)
theorem rowM_0 {ct w : Nat} {σ : St} (h : rd σ 59 40 = nI w) : rowM ct w [] σ σ := ⟨h, fun _ _ => ⟨rfl, rfl⟩, fun j t ht => by cases ht⟩
theorem rowM_app {ct w : Nat} {T T2 : List (Nat × Nat)} {a b c : St} (h1 : rowM ct w T a b) (h2 : rowM ct (w + T.length) T2 b c) : rowM ct w (T ++ T2) a c := by
  refine ⟨?_, fun j hj => ?_, fun j t ht => ?_⟩
  · rw [List.length_append, ← Nat.add_assoc]
    exact h2.1
  · rw [(h2.2.1 j (by omega)).1, (h2.2.1 j (by omega)).2]
    exact h1.2.1 j hj
  · rcases Nat.lt_or_ge j T.length with q | q
    · rw [List.getElem?_append_left q] at ht
      rw [(h2.2.1 (w + j) (by omega)).1, (h2.2.1 (w + j) (by omega)).2]
      exact h1.2.2 j t ht
    · rw [List.getElem?_append_right q] at ht
      have := h2.2.2 (j - T.length) t ht
      rw [show w + T.length + (j - T.length) = w + j by omega] at this
      exact this
theorem rowM_to {ct w k : Nat} {T : List (Nat × Nat)} {a b : St} {v : Int32} (hk : k = 41 ∨ k = 42 ∨ k = 43) (h : rowM ct w T a b) : rowM ct w T a (wr b 59 k v) := ⟨by rw [rdn (by omega)]; exact h.1, fun j hj => by rw [rdn (by omega), rdn (by omega)]; exact h.2.1 j hj, fun j t ht => by rw [rdn (by omega), rdn (by omega)]; exact h.2.2 j t ht⟩
theorem rowM_fr {ct w k : Nat} {T : List (Nat × Nat)} {a b : St} {v : Int32} (h : rowM ct w T (wr a 59 k v) b) : rowM ct w T a b := ⟨h.1, fun j hj => by rw [(h.2.1 j hj).1, (h.2.1 j hj).2, rdn (by omega), rdn (by omega)]; exact ⟨rfl, rfl⟩, h.2.2⟩
def lkV (s : Nat) : Int32 := if s < 256 then vp_nar .byte (nI s) else -1
theorem lk_dec : ∀ s, s < 257 → (lkV s).toInt = if s < 128 then (s : Int) else if s < 256 then (s : Int) - 256 else -1 := by decide +kernel
theorem lkV_eq {s k : Nat} (hs : s ≤ 256) (hk : k < 128) : lkV s = nI k ↔ s = k := by
  have h1 := lk_dec s (by omega)
  constructor
  · intro h
    rw [h, ti_nI (by omega)] at h1
    split at h1
    · omega
    · split at h1 <;> omega
  · rintro rfl
    apply ti_eq
    rw [h1, if_pos hk, ti_nI (by omega)]
theorem lkV_dig {s : Nat} (hs : s ≤ 256) : ((48 : Int32) ≤ lkV s ∧ lkV s ≤ 57) ↔ isDg s := by
  have h1 := lk_dec s (by omega)
  have e1 : (48 : Int32).toInt = 48 := rfl
  have e2 : (57 : Int32).toInt = 57 := rfl
  unfold isDg
  rw [ti_le, ti_le, h1, e1, e2]
  split
  · omega
  · split <;> omega
theorem tig_dig {s : Nat} (h : isDg s) : tig s = 6 := by
  unfold isDg at h
  unfold tig
  rw [if_neg (by omega), if_neg (by omega), if_neg (by omega), if_neg (by omega), if_neg (by omega)]
theorem lop_dig {rec : Nat → Res} {sy : Nat → Nat} {lv q : Nat} {T : List (Nat × Nat)} (hlv : lv < 5) (h : isDg (sy q)) : ∀ n, lop rec sy lv n q T = .inr (q, T)
  | 0 => rfl
  | n + 1 => by
    unfold lop
    rw [if_neg (by rw [tig_dig h]; omega)]
theorem lop_le {rec : Nat → Res} {sy : Nat → Nat} {lv L : Nat} (hs : ∀ q, L ≤ q → sy q = 256) (hlv : lv < 5) (hr : ∀ p q, p ≤ L → rec p = .inl q → q ≤ L) (hg : ∀ p q T, rec p = .inr (q, T) → q ≤ L) : ∀ n q T r, lop rec sy lv n q T = .inl r → r ≤ L
  | 0, q, T, r, e => by cases e
  | n + 1, q, T, r, e => by
    unfold lop at e
    by_cases c : tig (sy q) = lv
    · rw [if_pos c] at e
      have ql : q < L := by
        rcases Nat.lt_or_ge q L with h | h
        · exact h
        · rw [hs q h] at c
          have : tig 256 = 6 := by decide
          omega
      rcases hz : rec (q + 1) with s | ⟨s, T2⟩
      · rw [hz] at e
        have e2 := Sum.inl.inj e
        subst e2
        exact hr _ _ (by omega) hz
      · rw [hz] at e
        dsimp only at e
        by_cases c2 : lv = 2
        · rw [if_pos c2] at e
          cases e
        · rw [if_neg c2] at e
          exact lop_le hs hlv hr hg n _ _ _ e
    · rw [if_neg c] at e
      cases e
theorem prs_le {sy : Nat → Nat} {L : Nat} (hs : ∀ q, L ≤ q → sy q = 256) : ∀ f lv op p q, p ≤ L → prs sy f lv op p = .inl q → q ≤ L
  | 0, lv, op, p, q, hp, e => by
    have e2 := Sum.inl.inj e
    omega
  | f + 1, lv, op, p, q, hp, e => by
    have inL : sy p ≠ 256 → p < L := fun h => by
      rcases Nat.lt_or_ge p L with c | c
      · exact c
      · exact absurd (hs p c) h
    unfold prs at e
    by_cases c5 : lv < 5
    · rw [if_pos c5] at e
      rcases hz : prs sy f (lv + 1) op p with r | ⟨r, T2⟩
      · rw [hz] at e
        have e2 := Sum.inl.inj e
        subst e2
        exact prs_le hs f _ _ _ _ hp hz
      · rw [hz] at e
        exact lop_le hs c5 (fun p q h1 h2 => prs_le hs f _ _ _ _ h1 h2) (fun p q T h => (prs_good hs f _ _ _ _ _ h).2.1) _ _ _ _ e
    · rw [if_neg c5] at e
      split at e
      · cases e
      · split at e
        · rename_i c33
          split at e
          · rcases hz : prs sy f 5 (op + 1) (p + 1) with r | ⟨r, T2⟩
            · rw [hz] at e
              have e2 := Sum.inl.inj e
              subst e2
              exact prs_le hs f _ _ _ _ (by have := inL (by omega); omega) hz
            · rw [hz] at e
              cases e
          · have e2 := Sum.inl.inj e
            omega
        · split at e
          · rename_i c40
            split at e
            · rcases hz : prs sy f 0 (op + 1) (p + 1) with r | ⟨r, T2⟩
              · rw [hz] at e
                have e2 := Sum.inl.inj e
                subst e2
                exact prs_le hs f _ _ _ _ (by have := inL (by omega); omega) hz
              · rw [hz] at e
                dsimp only at e
                split at e
                · cases e
                · have e2 := Sum.inl.inj e
                  subst e2
                  exact (prs_good hs f _ _ _ _ _ hz).2.1
            · have e2 := Sum.inl.inj e
              omega
          · split at e
            · have e2 := Sum.inl.inj e
              omega
            · cases e
section MZ
variable {Γ : GG} {l : Launch} {d : Nat} {σ : St} {ct L : Nat} {cb : Nat → Nat}
theorem S_look (hL : L ≤ 160) (hb : ∀ i, i < L → cb i < 256) (hT : TM ct L cb σ) {p : Nat} (hp : p ≤ L) (h2 : rd σ 59 41 = nI p) : Meth Γ l d mX12_look [.ref 59] σ (KI (Kv (lkV (symL L cb p)) σ)) := by
  refine M_X12_look (w_X12_look_0 ?_)
  rw [hT.1, h2, nI_lei (by omega) (by omega), cl (n := p) (by omega)]
  refine ⟨fun q => ⟨_, rfl, rfl, ?_⟩, fun q => ⟨in_nI (by omega) (by omega), _, rfl, rfl, ?_⟩⟩
  · unfold symL
    rw [if_neg (by omega)]
    rfl
  · have hpl : p < L := by omega
    rw [hT.2.2 p hpl]
    unfold symL
    rw [if_pos hpl]
    exact (if_pos (hb p hpl)).symm
theorem S_wrong (h : rd σ 59 42 = -1) : Meth Γ l d mX12_wrong [.ref 59] σ (KV fun σ' => σ' = wr σ 59 42 (rd σ 59 41)) := by
  refine M_X12_wrong (w_X12_wrong_0 ?_)
  rw [h]
  exact ⟨fun q => absurd q (by decide), fun _ => ⟨rfl, rfl⟩⟩
theorem S_lay (hct : ct < 16) (hT : TM ct L cb σ) {w : Nat} (hw : w < 170) (h4 : rd σ 59 40 = nI w) (a b : Int32) : Meth Γ l d mX12_lay [.ref 59, .int a, .int b] σ (KV fun σ' => frM ct σ σ' ∧ (rd σ' 59 41 = rd σ 59 41 ∧ rd σ' 59 42 = rd σ 59 42 ∧ rd σ' 59 43 = rd σ 59 43) ∧ rd σ' 59 40 = nI (w + 1) ∧ ∀ t : Nat × Nat, a = tokA t → (t.1 ≤ 1 → b = nI t.2) → rowM ct w [t] σ σ') := by
  have e : (170 : Int32) * rd σ 59 39 + rd σ 59 40 = nI (170 * ct + w) := by
    rw [hT.2.1, h4, show (170 : Int32) * nI ct = nI (170 * ct) from nI_muln 170 ct, nI_addn]
  refine M_X12_lay _ _ (w_X12_lay_0 _ _ ?_)
  rw [e, cl (n := 170 * ct + w) (by omega), h4, nI_s]
  refine ⟨in_nI (by omega) (by omega), rfl, fun q c a1 a2 => ?_, ⟨?_, ?_, ?_⟩, rdy, fun t ha hb => ⟨rdy, fun j hj => ⟨?_, ?_⟩, fun j t' ht => ?_⟩⟩
  · rw [rdn (by omega), rdn (by omega), rdn (by omega)]
  · rw [rdn (by omega), rdn (by omega), rdn (by omega)]
  · rw [rdn (by omega), rdn (by omega), rdn (by omega)]
  · rw [rdn (by omega), rdn (by omega), rdn (by omega)]
  · rw [rdn (by omega), rdn (by omega), rdn (by omega)]
  · rw [rdn (by omega), rdn (by omega), rdn (by omega)]
  · rcases Nat.eq_zero_or_pos j with e | e
    · subst e
      have e2 : t = t' := Option.some.inj ht
      subst e2
      refine ⟨?_, fun h1 => ?_⟩
      · rw [rdn (by omega), rdn (by omega), Nat.add_zero w, rdy]
        exact ha
      · rw [rdn (by omega), Nat.add_zero w, rdy]
        exact hb h1
    · rw [List.getElem?_eq_none (by rw [List.length_singleton]; omega)] at ht
      cases ht
theorem S_nameOf {s : Nat} (hs : s ≤ 256) : Meth Γ l d mX12_nameOf [.int (lkV s)] σ (KI (Kv (if nmN s < 8 then nI (nmN s) else -1) σ)) := by
  have ht := lk_dec s (by omega)
  refine M_X12_nameOf _ (w_X12_nameOf_0 _ ?_)
  have sv : ∀ k : Int, 0 ≤ k → k < 128 → ((lkV s).toInt = k ↔ (s : Int) = k) := fun k h1 h2 => by
    rw [ht]
    split
    · omega
    · split <;> omega
  rw [sv 97 (by omega) (by omega), sv 99 (by omega) (by omega), sv 104 (by omega) (by omega), sv 107 (by omega) (by omega), sv 110 (by omega) (by omega), sv 112 (by omega) (by omega), sv 115 (by omega) (by omega), sv 119 (by omega) (by omega)]
  refine ⟨fun q => ⟨_, rfl, rfl, ?_⟩, fun q => ⟨_, rfl, rfl, ?_⟩, fun q => ⟨_, rfl, rfl, ?_⟩, fun q => ⟨_, rfl, rfl, ?_⟩, fun q => ⟨_, rfl, rfl, ?_⟩, fun q => ⟨_, rfl, rfl, ?_⟩, fun q => ⟨_, rfl, rfl, ?_⟩, fun q => ⟨_, rfl, rfl, ?_⟩, fun q1 q2 q3 q4 q5 q6 q7 q8 => ⟨_, rfl, rfl, ?_⟩⟩
  · rw [show s = 97 by omega]
    rfl
  · rw [show s = 99 by omega]
    rfl
  · rw [show s = 104 by omega]
    rfl
  · rw [show s = 107 by omega]
    rfl
  · rw [show s = 110 by omega]
    rfl
  · rw [show s = 112 by omega]
    rfl
  · rw [show s = 115 by omega]
    rfl
  · rw [show s = 119 by omega]
    rfl
  · have e : nmN s = 8 := by
      unfold nmN
      rw [if_neg (by omega), if_neg (by omega), if_neg (by omega), if_neg (by omega), if_neg (by omega), if_neg (by omega), if_neg (by omega), if_neg (by omega)]
    rw [e]
    rfl
/-- what a level of the reference does -/
def CM (Γ : GG) (l : Launch) (ct L : Nat) (cb : Nat → Nat) (f : Nat) (M : MD) (lv : Nat) : Prop := ∀ (D op p w : Nat) (σ : St), f + 1 ≤ D → op ≤ 9 → need lv op ≤ f → TM ct L cb σ → rd σ 59 41 = nI p → rd σ 59 42 = -1 → rd σ 59 43 = nI op → rd σ 59 40 = nI w → w ≤ p → p ≤ L → Meth Γ l D M [.ref 59] σ (KV (pM (symL L cb) ct w p op σ (prs (symL L cb) f lv op p)))
theorem fault_pos {q : Nat} {v : Int32} (hq : q < 2147483648) (h : v = nI q) : (0 : Int32) ≤ v := by
  rw [h]
  exact nI_pos' (by omega)
theorem loopM {H : St → Prop} {Min : MD} {lv op p w f D : Nat} {R : Res} (hL : L ≤ 160) (hct : ct < 16) (hlv : lv < 5) (hlv2 : lv ≠ 2) (hC : CM Γ l ct L cb f Min (lv + 1)) (hD : f + 1 ≤ D) (hop : op ≤ 9) (hn : need (lv + 1) op ≤ f) (hwp : w ≤ p)
    (exitF : ∀ σ', (0 : Int32) ≤ rd σ' 59 42 → pM (symL L cb) ct w p op σ R σ' → H σ')
    (exitN : ∀ σ' q, TM ct L cb σ' → rd σ' 59 41 = nI q → q ≤ L → rd σ' 59 42 = -1 → tig (symL L cb q) ≠ lv → pM (symL L cb) ct w p op σ R σ' → H σ')
    (goOn : ∀ σ' q, TM ct L cb σ' → rd σ' 59 41 = nI q → q < L → rd σ' 59 42 = -1 → tig (symL L cb q) = lv → Meth Γ l D Min [.ref 59] (wr σ' 59 41 (nI (q + 1))) (KV fun σ3 => Meth Γ l D mX12_lay [.ref 59, .int (nI (symL L cb q)), .int 0] σ3 (KV H)) → H σ')
    (hT : TM ct L cb σ) : ∀ n q T σq, lop (prs (symL L cb) f (lv + 1) op) (symL L cb) lv n q T = R → L < q + n → goodR L p q T → frM ct σ σq → rd σq 59 41 = nI q → ((isDg (symL L cb q) ∧ rd σq 59 42 = nI q ∧ lbM w p q σq) ∨ (rd σq 59 42 = -1 ∧ rd σq 59 43 = nI op ∧ rowM ct w T σ σq)) → H σq := by
  generalize hsy : symL L cb = sy at *
  have hsL : ∀ q, L ≤ q → sy q = 256 := fun q hq => by
    rw [← hsy]
    exact symL_L hq
  intro n
  induction n with
  | zero =>
    intro q T σq _ hq hg
    have := hg.2.1
    omega
  | succ n ih =>
    intro q T σq hR hq hg fq h41 hs
    obtain ⟨a1, a2, a3, -⟩ := id hg
    rcases hs with ⟨dg, h42, lb⟩ | ⟨h42, h43, hrow⟩
    · refine exitF σq (fault_pos (by omega) h42) ⟨fq, ?_⟩
      rw [← hR, lop_dig hlv dg]
      exact ⟨h41, Or.inl ⟨dg, h42, lb⟩⟩
    · have hTq := hT.fr fq
      have en : lop (prs sy f (lv + 1) op) sy lv (n + 1) q T = if tig (sy q) = lv then
          match prs sy f (lv + 1) op (q + 1) with
          | .inl r => .inl r
          | .inr (r, T2) => if lv = 2 then .inr (r, T ++ (T2 ++ [(sy q, 0)])) else lop (prs sy f (lv + 1) op) sy lv n r (T ++ (T2 ++ [(sy q, 0)]))
        else .inr (q, T) := rfl
      by_cases ct' : tig (sy q) = lv
      · have hql : q < L := by
          rcases Nat.lt_or_ge q L with c | c
          · exact c
          · rw [hsL q c] at ct'
            have : tig 256 = 6 := by decide
            omega
        rw [if_pos ct'] at en
        have hTw := hTq.fr (frM_w (ct := ct) (v := nI (q + 1)) (Or.inr (Or.inl rfl)) : frM ct σq (wr σq 59 41 (nI (q + 1))))
        have inner := hC D op (q + 1) (w + T.length) (wr σq 59 41 (nI (q + 1))) hD hop hn hTw rdy ((rdn (by omega)).trans h42) ((rdn (by omega)).trans h43) ((rdn (by omega)).trans hrow.1) (by omega) (by omega)
        rw [hsy] at inner
        refine goOn σq q hTq h41 hql h42 ct' (inner.mono ?_)
        rintro v σ3 ⟨rfl, f3, p3⟩
        have fr3 : frM ct σ σ3 := (fq.tr (frM_w (Or.inr (Or.inl rfl)))).tr f3
        have hT3 := hT.fr fr3
        refine ⟨rfl, ?_⟩
        -- a fault: one sign more is laid, no more is read
        have bad : ∀ r, r ≤ L → q + 1 ≤ r ∨ True → rd σ3 59 41 = nI r → rd σ3 59 42 = nI r → lbM (w + T.length) (q + 1) r σ3 → (∀ σ4, frM ct σ σ4 → rd σ4 59 41 = nI r → rd σ4 59 42 = nI r → lbM w p r σ4 → pM sy ct w p op σ R σ4) → Meth Γ l D mX12_lay [.ref 59, .int (nI (sy q)), .int 0] σ3 (KV H) := by
          intro r hr _ e41 e42 ⟨w', e40, hw'⟩ hfin
          refine (S_lay (d := D) hct hT3 (show w' < 170 by omega) e40 _ _).mono ?_
          rintro v σ4 ⟨rfl, k1, ⟨k2, k3, k4⟩, k5, -⟩
          refine ⟨rfl, exitF σ4 (fault_pos (q := r) (by omega) (k3.trans e42)) (hfin σ4 (fr3.tr k1) (k2.trans e41) (k3.trans e42) ⟨w' + 1, k5, by omega⟩)⟩
        rcases hz : prs sy f (lv + 1) op (q + 1) with r | ⟨r, T2⟩
        · rw [hz] at p3 en
          obtain ⟨e41, e42, lb⟩ := p3
          have hr := prs_le hsL f _ _ _ _ (show q + 1 ≤ L by omega) hz
          refine bad r hr (Or.inr trivial) e41 e42 lb (fun σ4 g1 g2 g3 g4 => ⟨g1, ?_⟩)
          rw [← hR, en]
          exact ⟨g2, g3, g4⟩
        · rw [hz] at p3 en
          dsimp only at en
          rw [if_neg hlv2] at en
          obtain ⟨e41, p3⟩ := p3
          have g2 := prs_good hsL f _ _ _ _ _ hz
          have gj := good_join hg g2 (show tig (sy q) < 6 by omega)
          obtain ⟨b1, b2, b3, -⟩ := id g2
          rcases p3 with ⟨dg2, e42, lb⟩ | ⟨e42, e43, row3⟩
          · refine bad r b2 (Or.inr trivial) e41 e42 lb (fun σ4 g1 g2 g3 g4 => ⟨g1, ?_⟩)
            rw [← hR, en, lop_dig hlv dg2]
            exact ⟨g2, Or.inl ⟨dg2, g3, g4⟩⟩
          · have row2 : rowM ct w (T ++ T2) σ σ3 := rowM_app hrow (rowM_fr row3)
            refine (S_lay (d := D) hct hT3 (show w + (T ++ T2).length < 170 by rw [List.length_append]; omega) row2.1 _ _).mono ?_
            rintro v σ4 ⟨rfl, k1, ⟨k2, k3, k4⟩, k5, k6⟩
            have ek : nI (sy q) = tokA (sy q, 0) := by
              rcases tig_sg (show tig (sy q) < 6 by omega) with t | t | t | t | t | t | t | t | t <;> rw [t] <;> rfl
            have sg5 : ¬ ((sy q, 0) : Nat × Nat).1 ≤ 1 := by
              rcases tig_sg (show tig (sy q) < 6 by omega) with t | t | t | t | t | t | t | t | t <;> rw [t] <;> simp
            refine ⟨rfl, ih r _ σ4 (by rw [← en]; exact hR) (by omega) gj (fr3.tr k1) (k2.trans e41) (Or.inr ⟨k3.trans e42, k4.trans e43, ?_⟩)⟩
            rw [← List.append_assoc]
            exact rowM_app row2 (k6 (sy q, 0) ek (fun h => absurd h sg5))
      · refine exitN σq q hTq h41 a2 h42 ct' ⟨fq, ?_⟩
        rw [← hR, en, if_neg ct']
        exact ⟨h41, Or.inr ⟨h42, h43, hrow⟩⟩
end MZ

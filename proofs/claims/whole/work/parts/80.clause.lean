/-! LAW: clauses and texts -/
theorem cls_le {sy : Nat → Nat} {L f p q : Nat} (hs : ∀ q, L ≤ q → sy q = 256) (hp : p ≤ L) (e : cls sy f p = .inl q) : q ≤ L := by
  unfold cls at e
  rcases hz : prs sy f 0 0 p with r | ⟨r, T⟩
  · rw [hz] at e
    have e2 := Sum.inl.inj e
    subst e2
    exact prs_le hs f _ _ _ _ hp hz
  · rw [hz] at e
    dsimp only at e
    split at e
    · rename_i c
      have rl : r < L := by
        rcases Nat.lt_or_ge r L with h | h
        · exact h
        · rw [hs r h] at c
          omega
      rcases hz2 : prs sy f 0 0 (r + 1) with s | ⟨s, T2⟩
      · rw [hz2] at e
        have e2 := Sum.inl.inj e
        subst e2
        exact prs_le hs f _ _ _ _ (by omega) hz2
      · rw [hz2] at e
        cases e
    · cases e
theorem txt_le {sy : Nat → Nat} {L f : Nat} (hs : ∀ q, L ≤ q → sy q = 256) : ∀ n p T q, p ≤ L → txt sy L f n p T = .inl q → q ≤ L
  | 0, p, T, q, _, e => by cases e
  | n + 1, p, T, q, hp, e => by
    unfold txt at e
    rcases hz : cls sy f p with r | ⟨r, T2⟩
    · rw [hz] at e
      have e2 := Sum.inl.inj e
      subst e2
      exact cls_le hs hp hz
    · rw [hz] at e
      dsimp only at e
      split at e
      · split at e
        · exact txt_le hs n _ _ _ (by omega) e
        · have e2 := Sum.inl.inj e
          omega
      · cases e
theorem txt_good {sy : Nat → Nat} {L f : Nat} (hs : ∀ q, L ≤ q → sy q = 256) : ∀ n p T q T', L < p + n → p ≤ L → T.length ≤ p → (∀ t ∈ T, tokOk t) → hgts 0 T = some 0 → txt sy L f n p T = .inr (q, T') → T'.length ≤ L + 1 ∧ (∀ t ∈ T', tokOk t) ∧ hgts 0 T' = some 0
  | 0, p, T, q, T', h0, hp, _, _, _, e => by omega
  | n + 1, p, T, q, T', h0, hp, h1, h2, h3, e => by
    unfold txt at e
    rcases hz : cls sy f p with r | ⟨r, T2⟩
    · rw [hz] at e
      cases e
    · rw [hz] at e
      dsimp only at e
      obtain ⟨a1, a2, a3, a4, a5⟩ := cls_good hs hz
      have ok : ∀ t ∈ T ++ T2, tokOk t := fun t ht => by
        rcases List.mem_append.mp ht with r | r
        · exact h2 t r
        · exact a4 t r
      have hh : hgts 0 (T ++ T2) = some 0 := by
        rw [hgts_app _ _ 0 0 h3]
        exact a5
      split at e
      · split at e
        · exact txt_good hs n _ _ _ _ (by omega) (by omega) (by rw [List.length_append]; omega) ok hh e
        · cases e
      · have e2 := Sum.inr.inj e
        cases e2
        exact ⟨by rw [List.length_append]; omega, ok, hh⟩
section CL
variable {Γ : GG} {l : Launch} {σ : St} {ct L : Nat} {cb : Nat → Nat}
theorem S_clauseX (hL : L ≤ 160) (hb : ∀ i, i < L → cb i < 256) (hct : ct < 16) {D p w : Nat} (hD : 143 ≤ D) (hT : TX ct L cb σ) (h2 : rd σ 23 2 = nI p) (h4 : rd σ 23 4 = nI w) (hwp : w ≤ p) (hp : p ≤ L) : Meth Γ l D mX10_readClause [.ref 23] σ (KI (pX ct w σ (cls (symL L cb) 69 p))) := by
  obtain ⟨D, rfl⟩ : ∃ D', D = D' + 2 := ⟨D - 2, by omega⟩
  have hsL : ∀ q, L ≤ q → symL L cb q = 256 := fun q hq => symL_L hq
  have rj := (S_prsX (Γ := Γ) (l := l) hL hb hct 69).1
  have e : cls (symL L cb) 69 p = match prs (symL L cb) 69 0 0 p with
      | .inl q => .inl q
      | .inr (q, T) => if symL L cb q = 44 then
          match prs (symL L cb) 69 0 0 (q + 1) with
          | .inl r => .inl r
          | .inr (r, T2) => .inr (r, T ++ ([(2, 0)] ++ (T2 ++ [(3, 0)])))
        else .inr (q, T ++ [(3, 0)]) := rfl
  refine M_X10_readClause (w_X10_readClause_0 ((rj (D + 1) 0 0 p w σ (by omega) (by omega) (by omega) (by decide) hT h2 h4 hwp hp).mono ?_))
  rintro v σ1 ⟨x, rfl, f1, f2⟩
  have hT1 := hT.fr f1
  rcases hz : prs (symL L cb) 69 0 0 p with q | ⟨q, T⟩
  · rw [hz] at f2 e
    obtain ⟨rfl, f3⟩ := f2
    refine ⟨_, rfl, fun _ => KI.mk ⟨f1, ?_⟩, fun t => absurd rfl t⟩
    rw [e]
    exact ⟨rfl, f3⟩
  · rw [hz] at f2 e
    dsimp only at e
    obtain ⟨rfl, f3, f4⟩ := f2
    obtain ⟨b1, b2, b3, -⟩ := prs_good hsL 69 _ _ _ _ _ hz
    refine ⟨_, rfl, fun t => absurd t (by decide), fun _ => (S_goesOn (d := D) (k := 44) hL hb hT1 (by omega) b2 f3).mono ?_⟩
    rintro v σ3 ⟨x, rfl, ⟨c1, rfl, rfl⟩ | ⟨c1, rfl, rfl⟩⟩
    · rw [if_pos c1] at e
      have fw : frX ct σ1 (wr σ1 23 2 (nI (q + 1))) := fun a c a1 a2 => rdn (by omega)
      refine ⟨_, rfl, fun t => absurd t (by decide), fun _ => ?_⟩
      refine (S_write (d := D + 1) hct (hT1.fr fw) (show w + T.length < 161 by omega) ((rdn (by omega)).trans f4.1) (2, 0)).mono ?_
      rintro v σ6 ⟨rfl, g1, g2, g3⟩
      have fr6 : frX ct σ σ6 := (f1.tr fw).tr g1
      have row6 : rowX ct w (T ++ [(2, 0)]) σ σ6 := rowX_app f4 (rowX_fr g3)
      have e40 : rd σ6 23 4 = nI (w + (T.length + 1)) := by
        have := row6.1
        rw [List.length_append] at this
        exact this
      have ql : q < L := by
        rcases Nat.lt_or_ge q L with h | h
        · exact h
        · rw [hsL q h] at c1
          omega
      refine ⟨rfl, (rj (D + 1) 0 0 (q + 1) (w + (T.length + 1)) σ6 (by omega) (by omega) (by omega) (by decide) (hT.fr fr6) (g2.trans rdy) e40 (by omega) (by omega)).mono ?_⟩
      rintro v σ7 ⟨x, rfl, j1, j2⟩
      have fr7 := fr6.tr j1
      rcases hz2 : prs (symL L cb) 69 0 0 (q + 1) with r | ⟨r, T2⟩
      · rw [hz2] at j2 e
        obtain ⟨rfl, j3⟩ := j2
        refine ⟨_, rfl, fun _ => KI.mk ⟨fr7, ?_⟩, fun t => absurd rfl t⟩
        rw [e]
        exact ⟨rfl, j3⟩
      · rw [hz2] at j2 e
        obtain ⟨rfl, j3, j4⟩ := j2
        obtain ⟨c1', c2', c3', -⟩ := prs_good hsL 69 _ _ _ _ _ hz2
        have el : w + (T.length + 1) = w + (T ++ [((2, 0) : Nat × Nat)]).length := by rw [List.length_append, List.length_singleton]
        rw [el] at j4
        have row7 : rowX ct w ((T ++ [(2, 0)]) ++ T2) σ σ7 := rowX_app row6 j4
        refine ⟨_, rfl, fun t => absurd t (by decide), fun _ => (S_write (d := D + 1) hct (hT.fr fr7) (show w + ((T ++ [((2, 0) : Nat × Nat)]) ++ T2).length < 161 by rw [List.length_append, List.length_append, List.length_singleton]; omega) row7.1 (3, 0)).mono ?_⟩
        rintro v σ9 ⟨rfl, k1, k2, k3⟩
        refine ⟨rfl, KI.mk ⟨fr7.tr k1, ?_⟩⟩
        rw [e]
        refine ⟨rfl, k2.trans j3, ?_⟩
        have := rowX_app row7 k3
        rw [List.append_assoc, List.append_assoc] at this
        exact this
    · rw [if_neg c1] at e
      refine ⟨_, rfl, fun _ => ?_, fun t => absurd rfl t⟩
      refine (S_write (d := D + 1) hct hT1 (show w + T.length < 161 by omega) f4.1 (3, 0)).mono ?_
      rintro v σ5 ⟨rfl, g1, g2, g3⟩
      refine ⟨rfl, KI.mk ⟨f1.tr g1, ?_⟩⟩
      rw [e]
      exact ⟨rfl, g2.trans f3, rowX_app f4 g3⟩
def tX (ct : Nat) (σ : St) (R : Res) (x : Int32) (σ' : St) : Prop := (∀ q c, ¬ (q = 23 ∧ (c = 2 ∨ c = 3 ∨ c = 4)) → q ≠ ct + 342 → rd σ' q c = rd σ q c) ∧ match R with
  | .inl q => x = nI q
  | .inr (_, T) => x = -1 ∧ rd σ' 23 4 = nI T.length ∧ ∀ j t, T[j]? = some t → rd σ' (ct + 342) j = tokX t
theorem S_readX (hL : L ≤ 160) (hb : ∀ i, i < L → cb i < 256) (hct : ct < 16) (h1 : rd σ 23 1 = nI L) (h24 : ∀ i, i < L → rd σ 24 i = nI (cb i)) : Meth Γ l 144 mX10_read [.ref 23, .ref (ct + 342)] σ (KI (tX ct σ (txt (symL L cb) L 69 161 0 []))) := by
  have hsL : ∀ q, L ≤ q → symL L cb q = 256 := fun q hq => symL_L hq
  generalize hR : txt (symL L cb) L 69 161 0 [] = R
  refine M_X10_read (d := 141) _ hct (w_X10_read_0 (d := 141) _ hct ?_)
  generalize hσ0 : wr (wr (wr σ 23 3 (nI (ct + 342))) 23 4 0) 23 2 0 = σ0
  have base : ∀ q c, ¬ (q = 23 ∧ (c = 2 ∨ c = 3 ∨ c = 4)) → rd σ0 q c = rd σ q c := fun q c a1 => by
    rw [← hσ0, rdn (by omega), rdn (by omega), rdn (by omega)]
  have hT0 : TX ct L cb σ0 := ⟨(base 23 1 (by omega)).trans h1, by rw [← hσ0, rdn (by omega), rdn (by omega), rdy], fun i hi => (base 24 i (by omega)).trans (h24 i hi)⟩
  have z2 : rd σ0 23 2 = nI 0 := by
    rw [← hσ0, rdy]
    rfl
  have z4 : rd σ0 23 4 = nI 0 := by
    rw [← hσ0, rdn (by omega), rdy]
    rfl
  have loop : ∀ n i p T σi, txt (symL L cb) L 69 n p T = R → L < p + n → i ≤ p → p ≤ L → T.length ≤ p → frX ct σ0 σi → rd σi 23 2 = nI p → rowX ct 0 T σ0 σi → J Γ l 144 mX10_read (KI (tX ct σ R)) 17 [(0, .ref 23), (2, .int (nI i))] [] σi := by
    intro n
    induction n with
    | zero =>
      intro i p T σi _ h hi hp
      omega
    | succ n ih =>
      intro i p T σi hR' hn hi hp hTl fi h2 hrow
      have hTi := hT0.fr fi
      have en : txt (symL L cb) L 69 (n + 1) p T = match cls (symL L cb) 69 p with
          | .inl q => .inl q
          | .inr (q, T2) => if q < L then (if symL L cb q = 59 then txt (symL L cb) L 69 n (q + 1) (T ++ T2) else .inl q) else .inr (q, T ++ T2) := rfl
      have out : ∀ σ', frX ct σ0 σ' → ∀ q c, ¬ (q = 23 ∧ (c = 2 ∨ c = 3 ∨ c = 4)) → q ≠ ct + 342 → rd σ' q c = rd σ q c := fun σ' hf q c a1 a2 => (hf q c (by omega) a2).trans (base q c a1)
      refine w_X10_read_17 _ ⟨fun t => ?_, fun _ => ?_⟩
      · rw [hTi.1, nI_lti (by omega) (by omega)] at t
        omega
      have e40 : rd σi 23 4 = nI T.length := by
        have := hrow.1
        rw [Nat.zero_add] at this
        exact this
      refine (S_clauseX (D := 143) hL hb hct (by omega) hTi h2 e40 hTl hp).mono ?_
      rintro v σ1 ⟨x, rfl, f1, f2⟩
      have fr1 := fi.tr f1
      rcases hz : cls (symL L cb) 69 p with q | ⟨q, T2⟩
      · rw [hz] at f2 en
        obtain ⟨rfl, f3⟩ := f2
        refine ⟨_, rfl, fun _ => KI.mk ?_, fun t => absurd rfl t⟩
        rw [← hR', en]
        exact ⟨out σ1 fr1, f3⟩
      · rw [hz] at f2 en
        dsimp only at en
        obtain ⟨rfl, f3, f4⟩ := f2
        obtain ⟨a1, a2, a3, -⟩ := cls_good hsL hz
        have row1 : rowX ct 0 (T ++ T2) σ0 σ1 := rowX_app hrow (by rw [Nat.zero_add]; exact f4)
        refine ⟨_, rfl, fun t => absurd t (by decide), fun _ => ?_⟩
        rw [f3, (hT0.fr fr1).1, nI_lti (by omega) (by omega)]
        refine ⟨fun ql => ?_, fun ql => KI.mk ?_⟩
        · rw [if_pos ql] at en
          refine (S_goesOn (d := 142) (k := 59) hL hb (hT0.fr fr1) (by omega) a2 f3).mono ?_
          rintro v σ3 ⟨x, rfl, ⟨c1, rfl, rfl⟩ | ⟨c1, rfl, rfl⟩⟩
          · rw [if_pos c1] at en
            refine ⟨_, rfl, fun t => absurd t (by decide), fun _ y hy => ?_⟩
            rw [nI_s] at hy
            subst hy
            refine ih (i + 1) (q + 1) (T ++ T2) _ (by rw [← en]; exact hR') (by omega) (by omega) (by omega) (by rw [List.length_append]; omega) (fr1.tr (fun a c b1 b2 => rdn (by omega))) rdy (rowX_at row1)
          · rw [if_neg c1] at en
            refine ⟨_, rfl, fun _ => KI.mk ?_, fun t => absurd rfl t⟩
            rw [← hR', en]
            exact ⟨out _ fr1, f3⟩
        · rw [if_neg ql] at en
          rw [← hR', en]
          refine ⟨out σ1 fr1, rfl, ?_, fun j t ht => ?_⟩
          · have := row1.1
            rw [Nat.zero_add] at this
            exact this
          · have := row1.2.2 j t ht
            rw [Nat.zero_add] at this
            exact this
  exact loop 161 0 0 [] σ0 hR (by omega) (by omega) (by omega) (by show 0 ≤ 0; omega) frX.rf z2 (rowX_0 z4)
def cuM (sy : Nat → Nat) (ct w : Nat) (σ : St) (R : Res) (σ' : St) : Prop := frM ct σ σ' ∧ match R with
  | .inl q => rd σ' 59 41 = nI q ∧ rd σ' 59 42 = nI q
  | .inr (q, T) => rd σ' 59 41 = nI q ∧ ((isDg (sy q) ∧ rd σ' 59 42 = nI q) ∨ (rd σ' 59 42 = -1 ∧ rd σ' 59 43 = nI 0 ∧ rowM ct w T σ σ'))
theorem S_clauseM (hL : L ≤ 160) (hb : ∀ i, i < L → cb i < 256) (hct : ct < 16) {D p w : Nat} (hD : 72 ≤ D) (hT : TM ct L cb σ) (h41 : rd σ 59 41 = nI p) (h42 : rd σ 59 42 = -1) (h43 : rd σ 59 43 = nI 0) (h40 : rd σ 59 40 = nI w) (hwp : w ≤ p) (hp : p ≤ L) : Meth Γ l D mX12_clause [.ref 59] σ (KV (cuM (symL L cb) ct w σ (cls (symL L cb) 69 p))) := by
  obtain ⟨D, rfl⟩ : ∃ D', D = D' + 2 := ⟨D - 2, by omega⟩
  have hsL : ∀ q, L ≤ q → symL L cb q = 256 := fun q hq => symL_L hq
  have wh := (S_prsM (Γ := Γ) (l := l) hL hb hct 69).1
  have s256 : ∀ q, symL L cb q ≤ 256 := fun q => (sy_256 hb q).1
  generalize hsy : symL L cb = sy at *
  have e : cls sy 69 p = match prs sy 69 0 0 p with
      | .inl q => .inl q
      | .inr (q, T) => if sy q = 44 then
          match prs sy 69 0 0 (q + 1) with
          | .inl r => .inl r
          | .inr (r, T2) => .inr (r, T ++ ([(2, 0)] ++ (T2 ++ [(3, 0)])))
        else .inr (q, T ++ [(3, 0)]) := rfl
  have in1 := wh (D + 1) 0 p w σ (by omega) (by omega) (by decide) hT h41 h42 h43 h40 hwp hp
  rw [hsy] at in1
  refine M_X12_clause (w_X12_clause_0 (in1.mono ?_))
  rintro v σ1 ⟨rfl, f1, f2⟩
  have hT1 := hT.fr f1
  refine ⟨rfl, ?_⟩
  -- a fault: the end is laid all the same
  have bad : ∀ (σ0 : St) q w', frM ct σ σ0 → rd σ0 59 40 = nI w' → w' < 170 → rd σ0 59 41 = nI q → rd σ0 59 42 = nI q → (∀ σ', frM ct σ σ' → rd σ' 59 41 = nI q → rd σ' 59 42 = nI q → cuM sy ct w σ (cls sy 69 p) σ') → Meth Γ l (D + 1) mX12_lay [.ref 59, .int 4, .int 0] σ0 (KV fun σ2 => KV (cuM sy ct w σ (cls sy 69 p)) none σ2) := by
    intro σ0 q w' fr0 e40 hw' e41 e42 hfin
    refine (S_lay (d := D + 1) hct (hT.fr fr0) hw' e40 _ _).mono ?_
    rintro v σ2 ⟨rfl, k1, ⟨k2, k3, k4⟩, -, -⟩
    exact ⟨rfl, rfl, hfin σ2 (fr0.tr k1) (k2.trans e41) (k3.trans e42)⟩
  rcases hz : prs sy 69 0 0 p with q | ⟨q, T⟩
  · rw [hz] at f2 e
    obtain ⟨d1, d2, w', d3, d4⟩ := f2
    have hq := prs_le hsL 69 _ _ _ _ hp hz
    refine ⟨fun _ => bad σ1 q w' f1 d3 (by omega) d1 d2 fun σ' g1 g2 g3 => ⟨g1, ?_⟩, fun t => absurd (fault_pos (q := q) (by omega) d2) t⟩
    rw [e]
    exact ⟨g2, g3⟩
  · rw [hz] at f2 e
    dsimp only at e
    obtain ⟨d1, f2⟩ := f2
    obtain ⟨b1, b2, b3, -⟩ := prs_good hsL 69 _ _ _ _ _ hz
    rcases f2 with ⟨dg, d2, w', d3, d4⟩ | ⟨d2, d3, row1⟩
    · rw [if_neg (by unfold isDg at dg; omega)] at e
      refine ⟨fun _ => bad σ1 q w' f1 d3 (by omega) d1 d2 fun σ' g1 g2 g3 => ⟨g1, ?_⟩, fun t => absurd (fault_pos (q := q) (by omega) d2) t⟩
      rw [e]
      exact ⟨g2, Or.inl ⟨dg, g3⟩⟩
    · have lk := S_look (Γ := Γ) (l := l) (d := D + 1) hL hb hT1 b2 d1
      rw [hsy] at lk
      refine ⟨fun t => absurd t (by rw [d2]; exact neg1_n0), fun _ => lk.mono ?_⟩
      rintro v σ' ⟨x, rfl, rfl, rfl⟩
      refine ⟨_, rfl, fun t => ?_, fun t => ?_⟩
      · have t' : sy q = 44 := (lkV_eq (k := 44) (s256 q) (by omega)).mp t
        rw [if_pos t'] at e
        have ql : q < L := by
          rcases Nat.lt_or_ge q L with h | h
          · exact h
          · rw [hsL q h] at t'
            omega
        refine (S_lay (d := D + 1) hct hT1 (show w + T.length < 170 by omega) row1.1 _ _).mono ?_
        rintro v σ6 ⟨rfl, k1, ⟨k2, k3, k4⟩, k5, k6⟩
        have row6 : rowM ct w (T ++ [(2, 0)]) σ σ6 := rowM_app row1 (k6 (2, 0) rfl (fun h => absurd h (by decide)))
        have fr6 := f1.tr k1
        have el : w + (T ++ [((2, 0) : Nat × Nat)]).length = w + (T.length + 1) := by rw [List.length_append, List.length_singleton]
        have e40 : rd σ6 59 40 = nI (w + (T.length + 1)) := by
          rw [← el]
          exact row6.1
        refine ⟨rfl, ?_⟩
        dsimp only
        rw [k2, d1, nI_s q]
        have fw : frM ct σ6 (wr σ6 59 41 (nI (q + 1))) := frM_w (Or.inr (Or.inl rfl))
        have in2 := wh (D + 1) 0 (q + 1) (w + (T.length + 1)) (wr σ6 59 41 (nI (q + 1))) (by omega) (by omega) (by decide) ((hT.fr fr6).fr fw) rdy ((rdn (by omega)).trans (k3.trans d2)) ((rdn (by omega)).trans (k4.trans d3)) ((rdn (by omega)).trans e40) (by omega) (by omega)
        rw [hsy] at in2
        refine in2.mono ?_
        rintro v σ7 ⟨rfl, j1, j2⟩
        have fr7 := (fr6.tr fw).tr j1
        refine ⟨rfl, ?_⟩
        rcases hz2 : prs sy 69 0 0 (q + 1) with r | ⟨r, T2⟩
        · rw [hz2] at j2 e
          obtain ⟨c1, c2, w', c3, c4⟩ := j2
          have hr := prs_le hsL 69 _ _ _ _ (show q + 1 ≤ L by omega) hz2
          refine bad σ7 r w' fr7 c3 (by omega) c1 c2 fun σ' g1 g2 g3 => ⟨g1, ?_⟩
          rw [e]
          exact ⟨g2, g3⟩
        · rw [hz2] at j2 e
          obtain ⟨c1, j2⟩ := j2
          obtain ⟨p1, p2, p3, -⟩ := prs_good hsL 69 _ _ _ _ _ hz2
          rcases j2 with ⟨dg, c2, w', c3, c4⟩ | ⟨c2, c3, row7⟩
          · refine bad σ7 r w' fr7 c3 (by omega) c1 c2 fun σ' g1 g2 g3 => ⟨g1, ?_⟩
            rw [e]
            exact ⟨g2, Or.inl ⟨dg, g3⟩⟩
          · rw [← el] at row7
            have row8 : rowM ct w ((T ++ [(2, 0)]) ++ T2) σ σ7 := rowM_app row6 (rowM_fr row7)
            refine (S_lay (d := D + 1) hct (hT.fr fr7) (show w + ((T ++ [((2, 0) : Nat × Nat)]) ++ T2).length < 170 by rw [List.length_append, List.length_append, List.length_singleton]; omega) row8.1 _ _).mono ?_
            rintro v σ8 ⟨rfl, m1, ⟨m2, m3, m4⟩, m5, m6⟩
            refine ⟨rfl, rfl, fr7.tr m1, ?_⟩
            rw [e]
            refine ⟨m2.trans c1, Or.inr ⟨m3.trans c2, m4.trans c3, ?_⟩⟩
            have := rowM_app row8 (m6 (3, 0) rfl (fun h => absurd h (by decide)))
            rw [List.append_assoc, List.append_assoc] at this
            exact this
      · have t' : ¬ sy q = 44 := fun r => t ((lkV_eq (k := 44) (s256 q) (by omega)).mpr r)
        rw [if_neg t'] at e
        refine (S_lay (d := D + 1) hct hT1 (show w + T.length < 170 by omega) row1.1 _ _).mono ?_
        rintro v σ5 ⟨rfl, k1, ⟨k2, k3, k4⟩, k5, k6⟩
        refine ⟨rfl, rfl, f1.tr k1, ?_⟩
        rw [e]
        exact ⟨k2.trans d1, Or.inr ⟨k3.trans d2, k4.trans d3, rowM_app row1 (k6 (3, 0) rfl (fun h => absurd h (by decide)))⟩⟩
end CL

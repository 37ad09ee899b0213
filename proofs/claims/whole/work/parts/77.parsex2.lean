/-! LAW: the class reads a text -/
section LY
variable {Γ : GG} {l : Launch} {ct L : Nat} {cb : Nat → Nat}
theorem symL_L {q : Nat} (h : L ≤ q) : symL L cb q = 256 := if_neg (by omega)
theorem S_prsX (hL : L ≤ 160) (hb : ∀ i, i < L → cb i < 256) (hct : ct < 16) : ∀ f,
    (∀ (D lv op p w : Nat) (σ : St), 2 * f + 3 ≤ D → lv ≤ 5 → op ≤ 9 → need lv op ≤ f → TX ct L cb σ → rd σ 23 2 = nI p → rd σ 23 4 = nI w → w ≤ p → p ≤ L → Meth Γ l D mX10_readJoined [.ref 23, .int (nI lv), .int (nI op)] σ (KI (pX ct w σ (prs (symL L cb) f lv op p)))) ∧
    (∀ (D op p w : Nat) (σ : St), 2 * f + 2 ≤ D → op ≤ 9 → need 5 op ≤ f → TX ct L cb σ → rd σ 23 2 = nI p → rd σ 23 4 = nI w → w ≤ p → p ≤ L → Meth Γ l D mX10_readOperand [.ref 23, .int (nI op)] σ (KI (pX ct w σ (prs (symL L cb) f 5 op p)))) := by
  intro f
  induction f with
  | zero =>
    constructor
    · intro D lv op p w σ _ h1 _ h2
      unfold need at h2
      omega
    · intro D op p w σ _ _ h2
      unfold need at h2
      omega
  | succ f ih =>
    obtain ⟨ih1, ih2⟩ := ih
    generalize hsy : symL L cb = sy at *
    have hsL : ∀ q, L ≤ q → sy q = 256 := fun q hq => by
      rw [← hsy]
      exact symL_L hq
    have inL : ∀ q, sy q ≠ 256 → q < L := fun q h => by
      rcases Nat.lt_or_ge q L with c | c
      · exact c
      · exact absurd (hsL q c) h
    have nxt : ∀ (D' p : Nat) (σ : St), TX ct L cb σ → p ≤ L → rd σ 23 2 = nI p → Meth Γ l D' mX10_next [.ref 23] σ (KI (Kv (nxV (sy p)) σ)) := fun D' p σ hT hp h2 => by
      have := S_next (Γ := Γ) (l := l) (d := D') hL hb hT hp h2
      rw [hsy] at this
      exact this
    have frw : ∀ (σ : St) v, frX ct σ (wr σ 23 2 v) := fun σ v q c a1 a2 => rdn (by omega)
    have opr : ∀ (D op p w : Nat) (σ : St), 2 * (f + 1) + 2 ≤ D → op ≤ 9 → need 5 op ≤ f + 1 → TX ct L cb σ → rd σ 23 2 = nI p → rd σ 23 4 = nI w → w ≤ p → p ≤ L → Meth Γ l D mX10_readOperand [.ref 23, .int (nI op)] σ (KI (pX ct w σ (prs sy (f + 1) 5 op p))) := by
      intro D op p w σ hD hop hn hT h2 h4 hwp hp
      obtain ⟨D, rfl⟩ : ∃ D', D = D' + 2 := ⟨D - 2, by omega⟩
      have hP : prs sy (f + 1) 5 op p = if nmN (sy p) < 8 then .inr (p + 1, [(1, nmN (sy p))])
          else if sy p = 33 then
            if op < 9 then
              match prs sy f 5 (op + 1) (p + 1) with
              | .inl q => .inl q
              | .inr (q, T) => .inr (q, T ++ [(4, 0)])
            else .inl p
          else if sy p = 40 then
            if op < 9 then
              match prs sy f 0 (op + 1) (p + 1) with
              | .inl q => .inl q
              | .inr (q, T) => if sy q = 41 then .inr (q + 1, T) else .inl q
            else .inl p
          else if nDig sy p 4 = 0 then .inl p
          else .inr (p + nDig sy p 4, [(0, vDig sy p (nDig sy p 4))]) := rfl
      refine M_X10_readOperand _ (w_X10_readOperand_0 _ ((nxt _ p σ hT hp h2).mono ?_))
      rintro v σ' ⟨x, rfl, rfl, rfl⟩
      refine ⟨_, rfl, fun q => ?_, fun q => ?_⟩
      · -- a number
        have q' := nxV_dig.mp q
        have := inL p (by omega)
        have rn := S_readNumber (Γ := Γ) (l := l) (d := D) hL hb hct hT hp h2 (show w < 161 by omega) h4
        rw [hsy] at rn
        refine rn.mono ?_
        rintro v σ3 ⟨rfl, f1, f2, f3⟩
        refine ⟨rfl, KI.mk ⟨f1, ?_⟩⟩
        have n1 : ¬ nmN (sy p) < 8 := by
          unfold nmN
          rw [if_neg (by omega), if_neg (by omega), if_neg (by omega), if_neg (by omega), if_neg (by omega), if_neg (by omega), if_neg (by omega), if_neg (by omega)]
          omega
        have n4 : ¬ nDig sy p 4 = 0 := by
          show ¬ (if 48 ≤ sy p ∧ sy p ≤ 57 then 1 + nDig sy (p + 1) 3 else 0) = 0
          rw [if_pos q']
          omega
        rw [hP, if_neg n1, if_neg (by omega), if_neg (by omega), if_neg n4]
        exact ⟨rfl, f2, f3⟩
      · have q' : ¬ (48 ≤ sy p ∧ sy p ≤ 57) := fun r => q (nxV_dig.mpr r)
        refine S_isNm.mono ?_
        rintro v σ' ⟨x, rfl, rfl, rfl⟩
        refine ⟨_, rfl, fun r => ?_, fun r => ?_⟩
        · have n1 : ¬ nmN (sy p) < 8 := fun s => by
            rw [if_pos s] at r
            exact absurd r (by decide)
          -- an open sign
          have sign : (sy p = 33 ∨ sy p = 40) → J Γ l (D + 2) mX10_readOperand (KI (pX ct w σ (prs sy (f + 1) 5 op p))) 59 [(0, .ref 23), (1, .int (nI op)), (2, .int (nxV (sy p)))] [] σ := by
            intro hs
            have hpl := inL p (by omega)
            refine w_X10_readOperand_59 _ _ ⟨fun o => ?_, fun o => KI.mk ⟨frX.rf, ?_⟩⟩
            · have o' : op < 9 := (nI_lti (b := 9) (by omega) (by omega)).mp o
              have hTw := hT.fr (frw σ (nI (p + 1)))
              have h4w : rd (wr σ 23 2 (nI (p + 1))) 23 4 = nI w := (rdn (by omega)).trans h4
              rw [h2, nI_s p, nI_s op]
              refine ⟨fun s => ?_, fun s => ?_⟩
              · have s' : sy p = 40 := (nxV_eq (k := 40) (by omega)).mp s
                have hn2 : need 0 (op + 1) ≤ f := by
                  unfold need at *
                  omega
                refine (ih1 (D + 1) 0 (op + 1) (p + 1) w (wr σ 23 2 (nI (p + 1))) (by omega) (by omega) (by omega) hn2 hTw rdy h4w (by omega) (by omega)).mono ?_
                rintro v σ4 ⟨x, rfl, f1, f2⟩
                have e : prs sy (f + 1) 5 op p = match prs sy f 0 (op + 1) (p + 1) with
                    | .inl q => .inl q
                    | .inr (q, T) => if sy q = 41 then .inr (q + 1, T) else .inl q := by rw [hP, if_neg n1, if_neg (by omega), if_pos s', if_pos o']
                have fr4 : frX ct σ σ4 := (frw σ (nI (p + 1))).tr f1
                rcases hz : prs sy f 0 (op + 1) (p + 1) with qq | ⟨qq, T⟩
                · rw [hz] at f2 e
                  obtain ⟨rfl, f3⟩ := f2
                  refine ⟨_, rfl, fun _ => KI.mk ⟨fr4, ?_⟩, fun t => absurd rfl t⟩
                  rw [e]
                  exact ⟨rfl, f3⟩
                · rw [hz] at f2 e
                  obtain ⟨rfl, f3, f4⟩ := f2
                  obtain ⟨b1, b2, -⟩ := prs_good hsL f _ _ _ _ _ hz
                  refine ⟨_, rfl, fun t => absurd t (by decide), fun _ => ?_⟩
                  have go := S_goesOn (Γ := Γ) (l := l) (d := D) (k := 41) hL hb (hT.fr fr4) (by omega) b2 f3
                  rw [hsy] at go
                  refine go.mono ?_
                  rintro v σ6 ⟨x, rfl, ⟨c1, rfl, rfl⟩ | ⟨c1, rfl, rfl⟩⟩
                  · refine ⟨_, rfl, fun t => absurd t (by decide), fun _ => KI.mk ⟨fr4.tr (frw σ4 _), ?_⟩⟩
                    rw [e]
                    dsimp only
                    rw [if_pos c1]
                    exact ⟨rfl, rdy, rowX_at (rowX_fr f4)⟩
                  · refine ⟨_, rfl, fun _ => KI.mk ⟨fr4, ?_⟩, fun t => absurd rfl t⟩
                    rw [e]
                    dsimp only
                    rw [if_neg c1]
                    exact ⟨rfl, f3⟩
              · have s' : sy p = 33 := by
                  rcases hs with t | t
                  · exact t
                  · exact absurd ((nxV_eq (k := 40) (by omega)).mpr t) s
                have hn2 : need 5 (op + 1) ≤ f := by
                  unfold need at *
                  omega
                refine (ih2 (D + 1) (op + 1) (p + 1) w (wr σ 23 2 (nI (p + 1))) (by omega) (by omega) hn2 hTw rdy h4w (by omega) (by omega)).mono ?_
                rintro v σ1 ⟨x, rfl, f1, f2⟩
                have e : prs sy (f + 1) 5 op p = match prs sy f 5 (op + 1) (p + 1) with
                    | .inl q => .inl q
                    | .inr (q, T) => .inr (q, T ++ [(4, 0)]) := by rw [hP, if_neg n1, if_pos s', if_pos o']
                have fr4 : frX ct σ σ1 := (frw σ (nI (p + 1))).tr f1
                rcases hz : prs sy f 5 (op + 1) (p + 1) with qq | ⟨qq, T⟩
                · rw [hz] at f2 e
                  obtain ⟨rfl, f3⟩ := f2
                  refine ⟨_, rfl, fun _ => KI.mk ⟨fr4, ?_⟩, fun t => absurd rfl t⟩
                  rw [e]
                  exact ⟨rfl, f3⟩
                · rw [hz] at f2 e
                  obtain ⟨rfl, f3, f4⟩ := f2
                  obtain ⟨b1, b2, b3, -⟩ := prs_good hsL f _ _ _ _ _ hz
                  refine ⟨_, rfl, fun t => absurd t (by decide), fun _ => ?_⟩
                  have ek : -nxV (sy p) = tokX (4, 0) := by
                    rw [s']
                    decide
                  rw [ek]
                  refine (S_write (d := D + 1) hct (hT.fr fr4) (show w + T.length < 161 by omega) f4.1 (4, 0)).mono ?_
                  rintro v σ3 ⟨rfl, g1, g2, g3⟩
                  refine ⟨rfl, KI.mk ⟨fr4.tr g1, ?_⟩⟩
                  rw [e]
                  exact ⟨rfl, g2.trans f3, rowX_app (rowX_fr f4) g3⟩
            · have o' : ¬ op < 9 := fun t => o ((nI_lti (b := 9) (by omega) (by omega)).mpr t)
              rw [hP, if_neg n1]
              rcases hs with t | t
              · rw [if_pos t, if_neg o']
                exact ⟨rfl, h2⟩
              · rw [if_neg (by omega), if_pos t, if_neg o']
                exact ⟨rfl, h2⟩
          refine ⟨fun s => sign (Or.inl ((nxV_eq (k := 33) (by omega)).mp s)), fun s => ⟨fun s2 => sign (Or.inr ((nxV_eq (k := 40) (by omega)).mp s2)), fun s2 => KI.mk ⟨frX.rf, ?_⟩⟩⟩
          have t1 : ¬ sy p = 33 := fun t => s ((nxV_eq (k := 33) (by omega)).mpr t)
          have t2 : ¬ sy p = 40 := fun t => s2 ((nxV_eq (k := 40) (by omega)).mpr t)
          have t3 : nDig sy p 4 = 0 := by
            show (if 48 ≤ sy p ∧ sy p ≤ 57 then 1 + nDig sy (p + 1) 3 else 0) = 0
            rw [if_neg q']
          rw [hP, if_neg n1, if_neg t1, if_neg t2, if_pos t3]
          exact ⟨rfl, h2⟩
        · -- a name
          have n1 : nmN (sy p) < 8 := by
            by_cases s : nmN (sy p) < 8
            · exact s
            · rw [if_neg s] at r
              exact absurd rfl r
          obtain ⟨m1, m2⟩ := nmC_nm n1
          have hpl := inL p (by omega)
          have ek : -nxV (sy p) = tokX (1, nmN (sy p)) := by
            show _ = -nmC (nmN (sy p))
            rw [m1]
            congr 1
            exact if_pos (by omega)
          rw [ek]
          refine (S_write (d := D + 1) hct hT (show w < 161 by omega) h4 (1, nmN (sy p))).mono ?_
          rintro v σ6 ⟨rfl, g1, g2, g3⟩
          refine ⟨rfl, KI.mk ⟨g1.tr (frw σ6 _), ?_⟩⟩
          rw [hP, if_pos n1, g2, h2, nI_s]
          exact ⟨rfl, rdy, rowX_at g3⟩
    refine ⟨fun D lv op p w σ hD hlv hop hn hT h2 h4 hwp hp => ?_, opr⟩
    obtain ⟨D, rfl⟩ : ∃ D', D = D' + 1 := ⟨D - 1, by omega⟩
    refine M_X10_readJoined _ _ (w_X10_readJoined_0 _ _ ?_)
    rw [show nI lv < (5 : Int32) ↔ lv < 5 from nI_lti (b := 5) (by omega) (by omega), nI_s lv]
    refine ⟨fun c5 => ?_, fun c5 => ?_⟩
    · have hn2 : need (lv + 1) op ≤ f := by
        unfold need at *
        omega
      have e : prs sy (f + 1) lv op p = match prs sy f (lv + 1) op p with
          | .inl q => .inl q
          | .inr (q, T) => lop (prs sy f (lv + 1) op) sy lv 161 q T := by
        show (if lv < 5 then _ else _) = _
        rw [if_pos c5]
        rfl
      refine (ih1 D (lv + 1) op p w σ (by omega) (by omega) hop hn2 hT h2 h4 hwp hp).mono ?_
      rintro v σ1 ⟨x, rfl, f1, f2⟩
      rcases hz : prs sy f (lv + 1) op p with qq | ⟨qq, T⟩
      · rw [hz] at f2 e
        obtain ⟨rfl, f3⟩ := f2
        refine ⟨_, rfl, fun _ => KI.mk ⟨f1, ?_⟩, fun t => absurd rfl t⟩
        rw [e]
        exact ⟨rfl, f3⟩
      · rw [hz] at f2 e
        obtain ⟨rfl, f3, f4⟩ := f2
        have g0 := prs_good hsL f _ _ _ _ _ hz
        refine ⟨_, rfl, fun t => absurd t (by decide), fun _ => ?_⟩
        dsimp only at e
        rw [e]
        have loop : ∀ n q T i σq, L < q + n → i < q → goodR L p q T → frX ct σ σq → rd σq 23 2 = nI q → rowX ct w T σ σq → J Γ l (D + 1) mX10_readJoined (KI (pX ct w σ (lop (prs sy f (lv + 1) op) sy lv n q T))) 26 [(0, .ref 23), (1, .int (nI lv)), (2, .int (nI op)), (3, .int (nI i))] [] σq := by
          intro n
          induction n with
          | zero =>
            intro q T i σq hq hi hg
            have := hg.2.1
            omega
          | succ n ihn =>
            intro q T i σq hq hi hg fq h2q hrow
            obtain ⟨a1, a2, a3, -⟩ := id hg
            have hTq := hT.fr fq
            have en : lop (prs sy f (lv + 1) op) sy lv (n + 1) q T = if tig (sy q) = lv then
                match prs sy f (lv + 1) op (q + 1) with
                | .inl r => .inl r
                | .inr (r, T2) => if lv = 2 then .inr (r, T ++ (T2 ++ [(sy q, 0)])) else lop (prs sy f (lv + 1) op) sy lv n r (T ++ (T2 ++ [(sy q, 0)]))
              else .inr (q, T) := rfl
            refine w_X10_readJoined_26 _ _ _ ⟨fun t => absurd t (nle hTq.1 (by omega) (by omega)), fun _ => (nxt _ q σq hTq a2 h2q).mono ?_⟩
            rintro v σ' ⟨x, rfl, rfl, rfl⟩
            refine ⟨_, rfl, S_tight.mono ?_⟩
            rintro v σ' ⟨x, rfl, rfl, rfl⟩
            have tb : tig (sy q) ≤ 6 := by
              unfold tig
              repeat' split
              all_goals omega
            refine ⟨_, rfl, ?_⟩
            dsimp only
            rw [nI_inj (a := tig (sy q)) (by omega) (by omega)]
            refine ⟨fun ct' => ?_, fun ct' => KI.mk ⟨fq, ?_⟩⟩
            · have hql := inL q (by
                intro r
                rw [r] at ct'
                have : tig 256 = 6 := by decide
                omega)
              rw [if_pos ct'] at en
              refine (nxt _ q σq hTq a2 h2q).mono ?_
              rintro v σ' ⟨x, rfl, rfl, rfl⟩
              refine ⟨_, rfl, ?_⟩
              dsimp only
              rw [h2q, nI_s q, nI_s lv]
              refine (ih1 D (lv + 1) op (q + 1) (w + T.length) (wr σq 23 2 (nI (q + 1))) (by omega) (by omega) hop hn2 (hTq.fr (frw σq _)) rdy ((rdn (by omega)).trans hrow.1) (by omega) (by omega)).mono ?_
              rintro v σ7 ⟨x, rfl, j1, j2⟩
              have fr7 : frX ct σ σ7 := (fq.tr (frw σq _)).tr j1
              rcases hz2 : prs sy f (lv + 1) op (q + 1) with r | ⟨r, T2⟩
              · rw [hz2] at j2 en
                obtain ⟨rfl, j3⟩ := j2
                refine ⟨_, rfl, fun _ => KI.mk ⟨fr7, ?_⟩, fun t => absurd rfl t⟩
                rw [en]
                exact ⟨rfl, j3⟩
              · rw [hz2] at j2 en
                obtain ⟨rfl, j3, j4⟩ := j2
                have g2 := prs_good hsL f _ _ _ _ _ hz2
                have gj := good_join hg g2 (show tig (sy q) < 6 by omega)
                obtain ⟨b1, b2, b3, -⟩ := id g2
                refine ⟨_, rfl, fun t => absurd t (by decide), fun _ => ?_⟩
                have ek : -nxV (sy q) = tokX (sy q, 0) := by
                  rcases tig_sg (show tig (sy q) < 6 by omega) with t | t | t | t | t | t | t | t | t <;> rw [t] <;> decide
                have row2 : rowX ct w (T ++ T2) σ σ7 := rowX_app hrow (rowX_fr j4)
                rw [ek]
                have h47 : rd σ7 23 4 = nI (w + (T ++ T2).length) := row2.1
                refine (S_write (d := D) hct (hT.fr fr7) (show w + (T ++ T2).length < 161 by rw [List.length_append]; omega) h47 (sy q, 0)).mono ?_
                rintro v σ9 ⟨rfl, k1, k2, k3⟩
                have fr9 := fr7.tr k1
                have row9 : rowX ct w (T ++ (T2 ++ [(sy q, 0)])) σ σ9 := by
                  rw [← List.append_assoc]
                  exact rowX_app row2 k3
                refine ⟨rfl, ?_⟩
                rw [show nI lv = (2 : Int32) ↔ lv = 2 from nI_inj (b := 2) (by omega) (by omega)]
                dsimp only at en
                refine ⟨fun c2 => KI.mk ⟨fr9, ?_⟩, fun c2 y hy => ?_⟩
                · rw [en, if_pos c2]
                  exact ⟨rfl, k2.trans j3, row9⟩
                · rw [nI_s] at hy
                  subst hy
                  rw [en, if_neg c2]
                  exact ihn r _ (i + 1) σ9 (by omega) (by omega) gj fr9 (k2.trans j3) row9
            · rw [en, if_neg ct']
              exact ⟨rfl, h2q, hrow⟩
        exact loop 161 qq T 0 σ1 (by omega) (by have := g0.1; omega) g0 f1 f3 f4
    · have e5 : lv = 5 := by omega
      subst e5
      refine (opr D op p w σ (by omega) hop (by unfold need at *; omega) hT h2 h4 hwp hp).mono ?_
      rintro v σ3 ⟨x, rfl, f1, f2⟩
      refine ⟨_, rfl, ?_, KI.mk ⟨f1, f2⟩⟩
      rcases hz : prs sy (f + 1) 5 op p with qq | ⟨qq, T⟩
      · rw [hz] at f2
        exact Or.inl f2.1
      · rw [hz] at f2
        exact Or.inr f2.1
end LY

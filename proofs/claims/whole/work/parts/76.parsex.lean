/-! LAW: the class' side -/
def symL (L : Nat) (cb : Nat → Nat) (q : Nat) : Nat := if q < L then cb q else 256
def TX (ct L : Nat) (cb : Nat → Nat) (σ : St) : Prop := rd σ 23 1 = nI L ∧ rd σ 23 3 = nI (ct + 342) ∧ ∀ i, i < L → rd σ 24 i = nI (cb i)
def frX (ct : Nat) (σ σ' : St) : Prop := ∀ q c, ¬ (q = 23 ∧ (c = 2 ∨ c = 4)) → q ≠ ct + 342 → rd σ' q c = rd σ q c
def rowX (ct w : Nat) (T : List (Nat × Nat)) (σ σ' : St) : Prop := rd σ' 23 4 = nI (w + T.length) ∧ (∀ j, j < w → rd σ' (ct + 342) j = rd σ (ct + 342) j) ∧ ∀ j t, T[j]? = some t → rd σ' (ct + 342) (w + j) = tokX t
def pX (ct w : Nat) (σ : St) (R : Res) (x : Int32) (σ' : St) : Prop := frX ct σ σ' ∧ match R with
  | .inl q => x = 0 ∧ rd σ' 23 2 = nI q
  | .inr (q, T) => x = 1 ∧ rd σ' 23 2 = nI q ∧ rowX ct w T σ σ'
theorem TX.fr {ct L : Nat} {cb : Nat → Nat} {σ σ' : St} (h : TX ct L cb σ) (f : frX ct σ σ') : TX ct L cb σ' := ⟨(f 23 1 (by omega) (by omega)).trans h.1, (f 23 3 (by omega) (by omega)).trans h.2.1, fun i hi => (f 24 i (by omega) (by omega)).trans (h.2.2 i hi)⟩
theorem frX.tr {ct : Nat} {a b c : St} (h1 : frX ct a b) (h2 : frX ct b c) : frX ct a c := fun q k h h' => (h2 q k h h').trans (h1 q k h h')
theorem frX.rf {ct : Nat} {a : St} : frX ct a a := fun _ _ _ _ => rfl
theorem rowX_0 {ct w : Nat} {σ : St} (h : rd σ 23 4 = nI w) : rowX ct w [] σ σ := ⟨h, fun _ _ => rfl, fun j t ht => by cases ht⟩
theorem rowX_app {ct w : Nat} {T T2 : List (Nat × Nat)} {a b c : St} (h1 : rowX ct w T a b) (h2 : rowX ct (w + T.length) T2 b c) : rowX ct w (T ++ T2) a c := by
  refine ⟨?_, fun j hj => ?_, fun j t ht => ?_⟩
  · rw [List.length_append, ← Nat.add_assoc]
    exact h2.1
  · rw [h2.2.1 j (by omega)]
    exact h1.2.1 j hj
  · rcases Nat.lt_or_ge j T.length with q | q
    · rw [List.getElem?_append_left q] at ht
      rw [h2.2.1 (w + j) (by omega)]
      exact h1.2.2 j t ht
    · rw [List.getElem?_append_right q] at ht
      have := h2.2.2 (j - T.length) t ht
      rw [show w + T.length + (j - T.length) = w + j by omega] at this
      exact this
/-- the class' place may move: the row stays -/
theorem rowX_at {ct w : Nat} {T : List (Nat × Nat)} {a b : St} {v : Int32} (h : rowX ct w T a b) : rowX ct w T a (wr b 23 2 v) := ⟨by rw [rdn (by omega)]; exact h.1, fun j hj => by rw [rdn (by omega)]; exact h.2.1 j hj, fun j t ht => by rw [rdn (by omega)]; exact h.2.2 j t ht⟩
theorem rowX_fr {ct w : Nat} {T : List (Nat × Nat)} {a b : St} {v : Int32} (h : rowX ct w T (wr a 23 2 v) b) : rowX ct w T a b := ⟨h.1, fun j hj => by rw [h.2.1 j hj, rdn (by omega)], h.2.2⟩
def nxV (s : Nat) : Int32 := if s < 256 then nI s else -1
theorem nxV_ti {s : Nat} : (nxV s).toInt = if s < 256 then (s : Int) else -1 := by
  unfold nxV
  by_cases c : s < 256
  · rw [if_pos c, if_pos c, ti_nI (by omega)]
  · rw [if_neg c, if_neg c]
    rfl
theorem nxV_eq {s k : Nat} (hk : k < 256) : nxV s = nI k ↔ s = k := by
  constructor
  · intro h
    have h1 := nxV_ti (s := s)
    rw [h, ti_nI (by omega)] at h1
    split at h1 <;> omega
  · rintro rfl
    exact if_pos hk
theorem nxV_dig {s : Nat} : ((48 : Int32) ≤ nxV s ∧ nxV s ≤ 57) ↔ 48 ≤ s ∧ s ≤ 57 := by
  have e1 : (48 : Int32).toInt = 48 := rfl
  have e2 : (57 : Int32).toInt = 57 := rfl
  rw [ti_le, ti_le, nxV_ti, e1, e2]
  split <;> omega
theorem nmC_nm {s : Nat} (h : nmN s < 8) : nmC (nmN s) = nI s ∧ s < 128 := by
  unfold nmN at *
  repeat' split at h
  all_goals first | omega | (subst_vars; exact ⟨by decide, by decide⟩)
section LX
variable {Γ : GG} {l : Launch} {d : Nat} {σ : St} {ct L : Nat} {cb : Nat → Nat}
theorem sy_256 (hb : ∀ i, i < L → cb i < 256) (q : Nat) : symL L cb q ≤ 256 ∧ (symL L cb q < 256 ↔ q < L) := by
  unfold symL
  split
  · rename_i h
    have := hb q h
    omega
  · omega
theorem S_next (hL : L ≤ 160) (hb : ∀ i, i < L → cb i < 256) (hT : TX ct L cb σ) {p : Nat} (hp : p ≤ L) (h2 : rd σ 23 2 = nI p) : Meth Γ l d mX10_next [.ref 23] σ (KI (Kv (nxV (symL L cb p)) σ)) := by
  refine M_X10_next (w_X10_next_0 ?_)
  rw [hT.1, h2, nI_lei (by omega) (by omega), cl (n := p) (by omega)]
  refine ⟨fun q => ⟨_, rfl, rfl, ?_⟩, fun q => ⟨in_nI (by omega) (by omega), _, rfl, rfl, ?_⟩⟩
  · unfold symL
    rw [if_neg (by omega)]
    rfl
  · have hpl : p < L := by omega
    rw [hT.2.2 p hpl]
    unfold symL
    rw [if_pos hpl]
    exact (if_pos (hb p hpl)).symm
theorem S_write (hct : ct < 16) (hT : TX ct L cb σ) {w : Nat} (hw : w < 161) (h4 : rd σ 23 4 = nI w) (t : Nat × Nat) : Meth Γ l d mX10_write [.ref 23, .int (tokX t)] σ (KV fun σ' => frX ct σ σ' ∧ rd σ' 23 2 = rd σ 23 2 ∧ rowX ct w [t] σ σ') := by
  have e3 : (rd σ 23 3).toNatClampNeg = ct + 342 := by rw [hT.2.1, cl (by omega)]
  refine M_X10_write _ (w_X10_write_0 _ ⟨ct, ⟨e3, hct⟩, fun q => ?_, fun _ => ⟨ct, ⟨e3, hct⟩, ?_⟩⟩)
  · rw [h4, show (161 : Int32) = nI 161 from rfl, nI_lei (by omega) (by omega)] at q
    omega
  · rw [h4, cl (n := w) (by omega), rdn (p := ct + 342) (by omega), h4, nI_s]
    refine ⟨in_nI (by omega) (by omega), rfl, fun q c a1 a2 => ?_, ?_, ?_, fun j hj => ?_, fun j t' ht => ?_⟩
    · rw [rdn (by omega), rdn (by omega)]
    · rw [rdn (by omega), rdn (by omega)]
    · exact rdy
    · rw [rdn (by omega), rdn (by omega)]
    · rcases Nat.eq_zero_or_pos j with e | e
      · subst e
        have e2 : t = t' := Option.some.inj ht
        subst e2
        rw [rdn (by omega), Nat.add_zero w, rdy]
      · rw [List.getElem?_eq_none (by rw [List.length_singleton]; omega)] at ht
        cases ht
theorem S_goesOn (hL : L ≤ 160) (hb : ∀ i, i < L → cb i < 256) (hT : TX ct L cb σ) {p k : Nat} (hk : k < 256) (hp : p ≤ L) (h2 : rd σ 23 2 = nI p) : Meth Γ l (d + 1) mX10_goesOn [.ref 23, .int (nI k)] σ (KI fun x σ' => (symL L cb p = k ∧ x = 1 ∧ σ' = wr σ 23 2 (nI (p + 1))) ∨ (symL L cb p ≠ k ∧ x = 0 ∧ σ' = σ)) := by
  refine M_X10_goesOn _ (w_X10_goesOn_0 _ ((S_next (d := d) hL hb hT hp h2).mono ?_))
  rintro v σ' ⟨x, rfl, rfl, rfl⟩
  refine ⟨_, rfl, fun q => KI.mk (Or.inl ⟨(nxV_eq hk).mp q, rfl, by rw [h2, nI_s]⟩), fun q => KI.mk (Or.inr ⟨fun r => q ((nxV_eq hk).mpr r), rfl, rfl⟩)⟩
theorem S_tight {s : Nat} : Meth Γ l d mX10_tightness [.int (nxV s)] σ (KI (Kv (nI (tig s)) σ)) := by
  have ht := nxV_ti (s := s)
  refine M_X10_tightness _ (w_X10_tightness_0 _ ?_)
  have sv : ∀ k : Int, 0 ≤ k → k < 256 → ((nxV s).toInt = k ↔ (s : Int) = k) := fun k h1 h2 => by
    rw [ht]
    split <;> omega
  rw [sv 38 (by omega) (by omega), sv 42 (by omega) (by omega), sv 43 (by omega) (by omega), sv 45 (by omega) (by omega), sv 47 (by omega) (by omega), sv 60 (by omega) (by omega), sv 61 (by omega) (by omega), sv 62 (by omega) (by omega), sv 124 (by omega) (by omega)]
  refine ⟨fun q => ⟨_, rfl, rfl, ?_⟩, fun q => ⟨_, rfl, rfl, ?_⟩, fun q => ⟨_, rfl, rfl, ?_⟩, fun q => ⟨_, rfl, rfl, ?_⟩, fun q => ⟨_, rfl, rfl, ?_⟩, fun q => ⟨_, rfl, rfl, ?_⟩, fun q => ⟨_, rfl, rfl, ?_⟩, fun q => ⟨_, rfl, rfl, ?_⟩, fun q => ⟨_, rfl, rfl, ?_⟩, fun q1 q2 q3 q4 q5 q6 q7 q8 q9 => ⟨_, rfl, rfl, ?_⟩⟩
  · rw [show s = 38 by omega]
    rfl
  · rw [show s = 42 by omega]
    rfl
  · rw [show s = 43 by omega]
    rfl
  · rw [show s = 45 by omega]
    rfl
  · rw [show s = 47 by omega]
    rfl
  · rw [show s = 60 by omega]
    rfl
  · rw [show s = 61 by omega]
    rfl
  · rw [show s = 62 by omega]
    rfl
  · rw [show s = 124 by omega]
    rfl
  · have e : tig s = 6 := by
      unfold tig
      rw [if_neg (by omega), if_neg (by omega), if_neg (by omega), if_neg (by omega), if_neg (by omega)]
    rw [e]
    rfl
theorem S_isNm {s : Nat} : Meth Γ l d mX4_isName [.int (nxV s)] σ (KI (Kv (if nmN s < 8 then 1 else 0) σ)) := by
  have ht := nxV_ti (s := s)
  refine M_X4_isName _ (w_X4_isName_0 _ ?_)
  have sv : ∀ k : Int, 0 ≤ k → k < 256 → ((nxV s).toInt = k ↔ (s : Int) = k) := fun k h1 h2 => by
    rw [ht]
    split <;> omega
  rw [sv 97 (by omega) (by omega), sv 99 (by omega) (by omega), sv 104 (by omega) (by omega), sv 107 (by omega) (by omega), sv 110 (by omega) (by omega), sv 112 (by omega) (by omega), sv 115 (by omega) (by omega), sv 119 (by omega) (by omega)]
  refine ⟨fun q => ⟨_, rfl, rfl, ?_⟩, fun q => ⟨_, rfl, rfl, ?_⟩, fun q => ⟨_, rfl, rfl, ?_⟩, fun q => ⟨_, rfl, rfl, ?_⟩, fun q => ⟨_, rfl, rfl, ?_⟩, fun q => ⟨_, rfl, rfl, ?_⟩, fun q => ⟨_, rfl, rfl, ?_⟩, fun q => ⟨_, rfl, rfl, ?_⟩, fun q1 q2 q3 q4 q5 q6 q7 q8 => ⟨_, rfl, rfl, ?_⟩⟩
  · rw [show s = 97 by omega]
    rfl
  · rw [show s = 99 by omega]
    rfl
  · rw [show s = 104 by omega]
    rfl
  · rw [show s = 107 by omega]
    rfl
  · rw [show s = 110 by omega]
    rfl
  · rw [show s = 112 by omega]
    rfl
  · rw [show s = 115 by omega]
    rfl
  · rw [show s = 119 by omega]
    rfl
  · have e : nmN s = 8 := by
      unfold nmN
      rw [if_neg (by omega), if_neg (by omega), if_neg (by omega), if_neg (by omega), if_neg (by omega), if_neg (by omega), if_neg (by omega), if_neg (by omega)]
    rw [e]
    rfl
theorem S_readNumber (hL : L ≤ 160) (hb : ∀ i, i < L → cb i < 256) (hct : ct < 16) (hT : TX ct L cb σ) {p w : Nat} (hp : p ≤ L) (h2 : rd σ 23 2 = nI p) (hw : w < 161) (h4 : rd σ 23 4 = nI w) : Meth Γ l (d + 1) mX10_readNumber [.ref 23] σ (KV fun σ' => frX ct σ σ' ∧ rd σ' 23 2 = nI (p + nDig (symL L cb) p 4) ∧ rowX ct w [(0, vDig (symL L cb) p (nDig (symL L cb) p 4))] σ σ') := by
  generalize hsy : symL L cb = sy
  have endN : ∀ i, i ≤ 4 → p + i ≤ L → (∀ j, j < i → 48 ≤ sy (p + j) ∧ sy (p + j) ≤ 57) → (i = 4 ∨ ¬ (48 ≤ sy (p + i) ∧ sy (p + i) ≤ 57)) → Meth Γ l d mX10_write [.ref 23, .int (nI (vDig sy p i))] (wr σ 23 2 (nI (p + i))) (KV fun σ1 => KV (fun σ' => frX ct σ σ' ∧ rd σ' 23 2 = nI (p + nDig sy p 4) ∧ rowX ct w [(0, vDig sy p (nDig sy p 4))] σ σ') none σ1) := by
    intro i hi hpi hd he
    have en := nDig_of i p hi hd he
    rw [en]
    have fr : frX ct σ (wr σ 23 2 (nI (p + i))) := fun q c a1 a2 => rdn (by omega)
    refine (S_write (Γ := Γ) (l := l) (d := d) hct (hT.fr fr) hw ((rdn (by omega)).trans h4) (0, vDig sy p i)).mono ?_
    rintro v σ1 ⟨rfl, f1, f2, f3⟩
    exact ⟨rfl, rfl, fr.tr f1, f2.trans rdy, rowX_fr f3⟩
  have loop : ∀ f i, i + f = 4 → p + i ≤ L → (∀ j, j < i → 48 ≤ sy (p + j) ∧ sy (p + j) ≤ 57) → J Γ l (d + 1) mX10_readNumber (KV fun σ' => frX ct σ σ' ∧ rd σ' 23 2 = nI (p + nDig sy p 4) ∧ rowX ct w [(0, vDig sy p (nDig sy p 4))] σ σ') 4 [(0, .ref 23), (1, .int (nI (vDig sy p i))), (2, .int (nI i))] [] (wr σ 23 2 (nI (p + i))) := by
    intro f
    induction f with
    | zero =>
      intro i hi hpi hd
      have : i = 4 := by omega
      subst this
      exact w_X10_readNumber_4 _ _ ⟨fun _ => endN 4 (by omega) hpi hd (Or.inl rfl), fun q => absurd (by decide) q⟩
    | succ f ih =>
      intro i hi hpi hd
      have fr : frX ct σ (wr σ 23 2 (nI (p + i))) := fun q c a1 a2 => rdn (by omega)
      have nxt := S_next (Γ := Γ) (l := l) (d := d) hL hb (hT.fr fr) hpi rdy
      rw [hsy] at nxt
      have vb := vDig_lt (p := p) i hd
      have pb : 10 ^ i ≤ 10 ^ 4 := Nat.pow_le_pow_right (by omega) (by omega)
      refine w_X10_readNumber_4 _ _ ⟨fun q => absurd ((nI_lei (a := 4) (by omega) (by omega)).mp q) (by omega), fun _ => nxt.mono ?_⟩
      rintro v σ' ⟨x, rfl, rfl, rfl⟩
      refine ⟨_, rfl, fun q => nxt.mono ?_, fun q => endN i (by omega) hpi hd (Or.inr (fun r => q (nxV_dig.mpr r)))⟩
      rintro v σ' ⟨x, rfl, rfl, rfl⟩
      have q' := nxV_dig.mp q
      refine ⟨_, rfl, fun x6 h6 x7 h7 => ?_⟩
      have lt : p + i < L := by
        rcases Nat.lt_or_ge (p + i) L with c | c
        · exact c
        · have : sy (p + i) = 256 := by
            rw [← hsy]
            exact if_neg (by omega)
          omega
      have e6 : nI (vDig sy p i) * 10 + nxV (sy (p + i)) - 48 = nI (vDig sy p (i + 1)) := by
        rw [show nxV (sy (p + i)) = nI (sy (p + i)) from if_pos (by omega), show (10 : Int32) = nI 10 from rfl, nI_muln, nI_addn, show nI (vDig sy p i * 10 + sy (p + i)) - 48 = nI (vDig sy p i * 10 + sy (p + i) - 48) from nI_subn (b := 48) (by omega)]
        congr 1
        show _ = vDig sy p i * 10 + (sy (p + i) - 48)
        omega
      rw [e6] at h6
      rw [nI_s] at h7
      subst h6 h7
      have e2 : wr (wr σ 23 2 (nI (p + i))) 23 2 (rd (wr σ 23 2 (nI (p + i))) 23 2 + 1) = wr σ 23 2 (nI (p + (i + 1))) := by
        rw [rdy, nI_s]
        unfold wr
        congr 1
        funext a b
        dsimp only
        split <;> rfl
      rw [e2]
      refine ih (i + 1) (by omega) (by omega) (fun j hj => ?_)
      rcases Nat.lt_or_ge j i with c | c
      · exact hd j c
      · rw [show j = i by omega]
        exact q'
  refine M_X10_readNumber (w_X10_readNumber_0 ?_)
  have := loop 4 0 (by omega) (by omega) (fun j hj => absurd hj (by omega))
  have e : wr σ 23 2 (nI (p + 0)) = σ := by
    rw [Nat.add_zero, ← h2]
    show ((fun a b => if a = 23 ∧ b = 2 then rd σ 23 2 else σ.1 a b), σ.2) = σ
    have : (fun a b => if a = 23 ∧ b = 2 then rd σ 23 2 else σ.1 a b) = σ.1 := by
      funext a b
      split
      · rename_i h
        rw [h.1, h.2]
        rfl
      · rfl
    rw [this]
  rw [e] at this
  exact this
end LX

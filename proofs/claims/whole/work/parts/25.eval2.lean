/-! THE LOOPS of both evaluations -/
def isSg (s : Nat) : Prop := s = 38 ∨ s = 42 ∨ s = 43 ∨ s = 45 ∨ s = 47 ∨ s = 60 ∨ s = 61 ∨ s = 62 ∨ s = 124
theorem sg_f {s : Nat} (hs : isSg s) : -(nI s) < 0 ∧ -(-(nI s)) = nI s ∧ ¬ -(nI s) = -33 ∧ ¬ -(nI s) = -59 ∧ ¬ -(nI s) = -44 ∧ ¬ nI s = 1 ∧ ¬ nI s = 2 ∧ ¬ nI s = 3 ∧ ¬ nI s = 4 ∧ ¬ nI s = 5 := by
  rcases hs with e | e | e | e | e | e | e | e | e <;> subst e <;> decide
theorem tokX_s {s z : Nat} (hs : isSg s) : tokX (s, z) = -(nI s) := by rcases hs with e | e | e | e | e | e | e | e | e <;> subst e <;> rfl
theorem tokA_s {s z : Nat} (hs : isSg s) : tokA (s, z) = nI s := by rcases hs with e | e | e | e | e | e | e | e | e <;> subst e <;> rfl
theorem hgt_s {s z n : Nat} (hs : isSg s) : hgt n (s, z) = if 2 ≤ n then some (n - 1) else none := by rcases hs with e | e | e | e | e | e | e | e | e <;> subst e <;> rfl
theorem runT_s {F : Nat → Int32} {st : List Int32} {c : Bool} {s z : Nat} {r : List (Nat × Nat)} (hs : isSg s) : runT F st c ((s, z) :: r) = runT F (opT s (st.tail.headD 0) (st.headD 0) :: st.tail.tail) c r := by rcases hs with e | e | e | e | e | e | e | e | e <;> subst e <;> rfl
/-- what a token is -/
theorem tok_cases {t : Nat × Nat} (h : tokOk t) : (∃ v, v ≤ 9999 ∧ t = (0, v)) ∨ (∃ i, i < 8 ∧ t = (1, i)) ∨ t = (2, 0) ∨ t = (3, 0) ∨ t = (4, 0) ∨ ∃ s, isSg s ∧ t = (s, 0) := by
  obtain ⟨a, b⟩ := t
  rcases h with ⟨h1, h2⟩ | ⟨h1, h2⟩ | ⟨h1, h2⟩ | ⟨h1, h2⟩
  · exact Or.inl ⟨b, h2, by rw [show a = 0 from h1]⟩
  · exact Or.inr (Or.inl ⟨b, h2, by rw [show a = 1 from h1]⟩)
  · have hb : b = 0 := h2
    subst hb
    rcases h1 with h1 | h1 | h1
    · exact Or.inr (Or.inr (Or.inl (by rw [show a = 2 from h1])))
    · exact Or.inr (Or.inr (Or.inr (Or.inl (by rw [show a = 3 from h1]))))
    · exact Or.inr (Or.inr (Or.inr (Or.inr (Or.inl (by rw [show a = 4 from h1])))))
  · have hb : b = 0 := h2
    subst hb
    exact Or.inr (Or.inr (Or.inr (Or.inr (Or.inr ⟨a, h1, rfl⟩))))
def okSt (st : List Int32) (m : Nat) : Prop := st.length = m
section EV2
variable {Γ : GG} {l : Launch} {d : Nat} {σ : St}
theorem S_workN {σ' : St} (v : Nat) (hv : v ≤ 9999) {st : List Int32} (hl : st.length ≤ 100) (ht : rd σ' 26 7 = nI st.length) (hs : stk σ' 32 st) (ho : agr oX σ σ') : Meth Γ l (d + 1) mX6_work [.ref 26, .int (nI v), .ref 33] σ' (KV fun σ2 => rd σ2 26 7 = nI (nI v :: st).length ∧ stk σ2 32 (nI v :: st) ∧ agr oX σ σ2) := by
  refine M_X6_work _ (w_X6_work_0 _ ⟨fun q => absurd q (nlt0 (by omega)), fun _ => ?_⟩)
  refine (S_push (nI v) (by omega) ht hs ho).mono ?_
  rintro w σ2 ⟨rfl, h⟩
  exact ⟨rfl, rfl, h⟩
theorem S_workF {σ' : St} (i : Nat) (hi : i < 8) {st : List Int32} (hl : st.length ≤ 100) (ht : rd σ' 26 7 = nI st.length) (hs : stk σ' 32 st) (ho : agr oX σ σ') : Meth Γ l (d + 1) mX6_work [.ref 26, .int (-nmC i), .ref 33] σ' (KV fun σ2 => rd σ2 26 7 = nI (rd σ 33 i :: st).length ∧ stk σ2 32 (rd σ 33 i :: st) ∧ agr oX σ σ2) := by
  refine M_X6_work _ (w_X6_work_0 _ ⟨fun _ => ?_, fun q => absurd (nmC_v i hi).2.2.2.2 q⟩)
  rw [Int32.neg_neg]
  refine (S_isName hi).mono ?_
  rintro w σ2 ⟨x, rfl, rfl, rfl⟩
  refine ⟨_, rfl, fun q => absurd q (by decide), fun _ => ?_⟩
  refine (S_named hi).mono ?_
  rintro w σ2 ⟨x, rfl, rfl, rfl⟩
  refine ⟨_, rfl, ?_⟩
  rw [ho 33 i (by unfold oX; omega)]
  refine (S_push (rd σ 33 i) (by omega) ht hs ho).mono ?_
  rintro w σ2 ⟨rfl, h⟩
  exact ⟨rfl, rfl, h⟩
theorem S_workD {σ' : St} {v : Int32} {st : List Int32} (hl : st.length ≤ 100) (ht : rd σ' 26 7 = nI (v :: st).length) (hs : stk σ' 32 (v :: st)) (ho : agr oX σ σ') : Meth Γ l (d + 1) mX6_work [.ref 26, .int (-33), .ref 33] σ' (KV fun σ2 => rd σ2 26 7 = nI ((if v = 0 then 1 else 0) :: st).length ∧ stk σ2 32 ((if v = 0 then 1 else 0) :: st) ∧ agr oX σ σ2) := by
  refine M_X6_work _ (w_X6_work_0 _ ⟨fun _ => ?_, fun q => absurd (by decide) q⟩)
  refine (S_isName0 (s := 33) (by omega)).mono ?_
  rintro w σ2 ⟨x, rfl, rfl, rfl⟩
  refine ⟨_, rfl, fun _ => ⟨fun _ => ?_, fun q => absurd rfl q⟩, fun q => absurd rfl q⟩
  refine (S_pop (by omega) ht hs ho).mono ?_
  rintro w σ2 ⟨x, rfl, rfl, h1, h2, h3⟩
  refine ⟨_, rfl, fun q => ?_, fun q => ?_⟩
  · rw [if_pos q]
    refine (S_push 1 (by omega) h1 h2 h3).mono ?_
    rintro w σ2 ⟨rfl, h⟩
    exact ⟨rfl, rfl, h⟩
  · rw [if_neg q]
    refine (S_push 0 (by omega) h1 h2 h3).mono ?_
    rintro w σ2 ⟨rfl, h⟩
    exact ⟨rfl, rfl, h⟩
theorem S_workS {σ' : St} {s : Nat} (hsg : isSg s) {v w : Int32} {st : List Int32} (hl : st.length ≤ 100) (ht : rd σ' 26 7 = nI (v :: w :: st).length) (hs : stk σ' 32 (v :: w :: st)) (ho : agr oX σ σ') : Meth Γ l (d + 1) mX6_work [.ref 26, .int (-(nI s)), .ref 33] σ' (KV fun σ2 => rd σ2 26 7 = nI (opT s w v :: st).length ∧ stk σ2 32 (opT s w v :: st) ∧ agr oX σ σ2) := by
  obtain ⟨g1, g2, g3, -⟩ := sg_f hsg
  refine M_X6_work _ (w_X6_work_0 _ ⟨fun _ => ?_, fun q => absurd g1 q⟩)
  rw [g2]
  refine (S_isName0 (s := s) (Or.inr hsg)).mono ?_
  rintro u σ2 ⟨x, rfl, rfl, rfl⟩
  refine ⟨_, rfl, fun _ => ⟨fun q => absurd q g3, fun _ => ?_⟩, fun q => absurd rfl q⟩
  refine (S_pop (st := w :: st) (by show st.length + 1 < 160; omega) ht hs ho).mono ?_
  rintro u σ2 ⟨x, rfl, rfl, h1, h2, h3⟩
  refine ⟨_, rfl, (S_pop (by omega) h1 h2 h3).mono ?_⟩
  rintro u σ3 ⟨x, rfl, rfl, h4, h5, h6⟩
  refine ⟨_, rfl, (S_join _ _ hsg).mono ?_⟩
  rintro u σ4 ⟨x, rfl, rfl, rfl⟩
  refine ⟨_, rfl, (S_push _ (by omega) h4 h5 h6).mono ?_⟩
  rintro u σ5 ⟨rfl, h⟩
  exact ⟨rfl, rfl, h⟩
def bI (c : Bool) : Int32 := if c then 1 else 0
theorem valueOf_loop {Q : Option Value → St → Prop} {lw : Nat} (hlw : lw < 16) {T : List (Nat × Nat)} (hT : T.length ≤ 161) (hw : rd σ 28 lw = nI T.length) :
    ∀ (R : List (Nat × Nat)) (i : Nat) (st : List Int32) (c : Bool) (σ' : St), (∀ j t, R[j]? = some t → rd σ (lw + 342) (i + j) = tokX t) → (∀ t ∈ R, tokOk t) → i + R.length = T.length → st.length ≤ i → hgts st.length R = some 0 →
      rd σ' 26 7 = nI st.length → stk σ' 32 st → agr oX σ σ' → (∀ σ2, agr oX σ σ2 → Q (some (.int (runT (rd σ 33) st c R))) σ2) →
      J Γ l (d + 2) mX6_valueOf Q 10 [(0, .ref 26), (1, .int (nI lw)), (2, .ref 33), (3, .int (bI c)), (4, .int (nI i))] [] σ' := by
  intro R
  induction R with
  | nil =>
    intro i st c σ' hr ho hi hst hh ht hs hag hq
    have hi2 : i = T.length := by simpa using hi
    refine w_X6_valueOf_10 _ _ _ ⟨in_nI hlw (by omega), fun _ => hq σ' hag, fun q => absurd ?_ q⟩
    rw [cl (by omega), hag 28 lw (by unfold oX; omega)]
    exact yle hw (by omega) (by omega)
  | cons t R ih =>
    intro i st c σ' hr ho hi hst hh ht hs hag hq
    have hil : i + (R.length + 1) = T.length := hi
    obtain ⟨m, hm, hR⟩ := hgts_cons hh
    have hst2 := hgts_le _ _ hh
    have hst3 : st.length ≤ R.length + 1 := hst2
    have hcl : (nI lw).toNatClampNeg = lw := cl (by omega)
    have hci : (nI i).toNatClampNeg = i := cl (by omega)
    have hx : rd σ' (lw + 342) i = tokX t := by
      rw [hag _ _ (by unfold oX; omega)]
      exact hr 0 t rfl
    have next : ∀ (st' : List Int32) (c' : Bool) (σ2 : St), st'.length ≤ i + 1 → hgts st'.length R = some 0 → rd σ2 26 7 = nI st'.length → stk σ2 32 st' → agr oX σ σ2 → runT (rd σ 33) st' c' R = runT (rd σ 33) st c (t :: R) → J Γ l (d + 2) mX6_valueOf Q 10 [(0, .ref 26), (1, .int (nI lw)), (2, .ref 33), (3, .int (bI c')), (4, .int (nI (i + 1)))] [] σ2 := by
      intro st' c' σ2 a1 a2 a3 a4 a5 a6
      refine ih (i + 1) st' c' σ2 (fun j u hu => ?_) (fun u hu => ho u (List.mem_cons_of_mem _ hu)) (by omega) a1 a2 a3 a4 a5 (fun σ3 h3 => by rw [a6]; exact hq σ3 h3)
      have := hr (j + 1) u hu
      rw [← this]
      congr 1
      omega
    refine w_X6_valueOf_10 _ _ _ ⟨in_nI hlw (by omega), fun q => absurd q ?_, fun _ => ⟨in_nI (by omega) (by omega), fun x hx2 => ?_⟩⟩
    · rw [hcl, hag 28 lw (by unfold oX; omega)]
      exact nle hw (by omega) (by omega)
    rw [hcl, hci, hx] at hx2
    subst hx2
    rcases tok_cases (ho t List.mem_cons_self) with ⟨v, hv, rfl⟩ | ⟨k, hk, rfl⟩ | rfl | rfl | rfl | ⟨s, hsg, rfl⟩
    · -- a number
      have e0 : tokX (0, v) = nI v := rfl
      rw [e0]
      refine ⟨fun q => absurd q ?_, fun _ => ⟨fun q => absurd q ?_, fun _ => ?_⟩⟩
      · intro q
        exact absurd (show nI v < 0 by rw [q]; decide) (nlt0 (by omega))
      · intro q
        exact absurd (show nI v < 0 by rw [q]; decide) (nlt0 (by omega))
      refine (S_workN v hv (by omega) ht hs hag).mono ?_
      rintro u σ2 ⟨rfl, h1, h2, h3⟩
      refine ⟨rfl, fun y hy => ?_⟩
      rw [nI_s] at hy
      subst hy
      exact next (nI v :: st) c σ2 (by show st.length + 1 ≤ _; omega) (by cases hm; exact hR) h1 h2 h3 rfl
    · -- a name
      have e0 : tokX (1, k) = -nmC k := rfl
      obtain ⟨-, n44, n59, n33, -⟩ := nmC_v k hk
      rw [e0]
      refine ⟨fun q => absurd (Int32.neg_inj.mp q) n59, fun _ => ⟨fun q => absurd (Int32.neg_inj.mp q) n44, fun _ => ?_⟩⟩
      refine (S_workF k hk (by omega) ht hs hag).mono ?_
      rintro u σ2 ⟨rfl, h1, h2, h3⟩
      refine ⟨rfl, fun y hy => ?_⟩
      rw [nI_s] at hy
      subst hy
      exact next (rd σ 33 k :: st) c σ2 (by show st.length + 1 ≤ _; omega) (by cases hm; exact hR) h1 h2 h3 rfl
    · -- the comma
      have e0 : tokX (2, 0) = -44 := rfl
      have hm1 : (if st.length = 1 then some 0 else none : Option Nat) = some m := hm
      by_cases h1 : st.length = 1
      · rw [if_pos h1] at hm1
        cases hm1
        obtain ⟨v, rfl⟩ : ∃ v, st = [v] := by
          match st, h1 with
          | [v], _ => exact ⟨v, rfl⟩
        rw [e0]
        refine ⟨fun q => absurd q (by decide), fun _ => ⟨fun _ => ?_, fun q => absurd rfl q⟩⟩
        refine (S_pop (by decide) ht hs hag).mono ?_
        rintro u σ2 ⟨x, rfl, rfl, h1, h2, h3⟩
        refine ⟨_, rfl, fun q y hy => ?_, fun q y hy => ?_⟩
        · rw [nI_s] at hy
          subst hy
          refine next [] false σ2 (by show 0 ≤ _; omega) hR h1 h2 h3 ?_
          show _ = runT (rd σ 33) [] (decide (¬ x = 0)) R
          simp [q]
        · rw [nI_s] at hy
          subst hy
          refine next [] true σ2 (by show 0 ≤ _; omega) hR h1 h2 h3 ?_
          show _ = runT (rd σ 33) [] (decide (¬ x = 0)) R
          simp [q]
      · rw [if_neg h1] at hm1
        cases hm1
    · -- a clause's end
      have e0 : tokX (3, 0) = -59 := rfl
      have hm1 : (if st.length = 1 then some 0 else none : Option Nat) = some m := hm
      by_cases h1 : st.length = 1
      · rw [if_pos h1] at hm1
        cases hm1
        obtain ⟨v, rfl⟩ : ∃ v, st = [v] := by
          match st, h1 with
          | [v], _ => exact ⟨v, rfl⟩
        rw [e0]
        refine ⟨fun _ => ?_, fun q => absurd rfl q⟩
        refine (S_pop (by decide) ht hs hag).mono ?_
        rintro u σ2 ⟨x, rfl, rfl, h1, h2, h3⟩
        refine ⟨_, rfl, fun q y hy => ?_, fun q => ?_⟩
        · cases c with
          | true => exact absurd q (by decide)
          | false =>
            rw [nI_s] at hy
            subst hy
            exact next [] true σ2 (by show 0 ≤ _; omega) hR h1 h2 h3 rfl
        · cases c with
          | true => exact hq σ2 h3
          | false => exact absurd rfl q
      · rw [if_neg h1] at hm1
        cases hm1
    · -- a denial
      have e0 : tokX (4, 0) = -33 := rfl
      have hm1 : (if 1 ≤ st.length then some st.length else none : Option Nat) = some m := hm
      by_cases h1 : 1 ≤ st.length
      · rw [if_pos h1] at hm1
        cases hm1
        obtain ⟨v, r, rfl⟩ : ∃ v r, st = v :: r := by
          match st, h1 with
          | v :: r, _ => exact ⟨v, r, rfl⟩
        have hlr : r.length + 1 ≤ R.length + 1 := hst3
        rw [e0]
        refine ⟨fun q => absurd q (by decide), fun _ => ⟨fun q => absurd q (by decide), fun _ => ?_⟩⟩
        have hlr2 : r.length + 1 ≤ i := hst
        refine (S_workD (by omega) ht hs hag).mono ?_
        rintro u σ2 ⟨rfl, h1, h2, h3⟩
        refine ⟨rfl, fun y hy => ?_⟩
        rw [nI_s] at hy
        subst hy
        exact next ((if v = 0 then 1 else 0) :: r) c σ2 (by show r.length + 1 ≤ _; omega) hR h1 h2 h3 rfl
      · rw [if_neg h1] at hm1
        cases hm1
    · -- a sign
      rw [tokX_s hsg]
      obtain ⟨g1, g2, g3, g4, g5, -⟩ := sg_f hsg
      rw [hgt_s hsg] at hm
      by_cases h1 : 2 ≤ st.length
      · rw [if_pos h1] at hm
        cases hm
        obtain ⟨v, w, r, rfl⟩ : ∃ v w r, st = v :: w :: r := by
          match st, h1 with
          | v :: w :: r, _ => exact ⟨v, w, r, rfl⟩
        have hlr : r.length + 2 ≤ R.length + 1 := hst3
        have hlr2 : r.length + 2 ≤ i := hst
        refine ⟨fun q => absurd q g4, fun _ => ⟨fun q => absurd q g5, fun _ => ?_⟩⟩
        refine (S_workS hsg (by omega) ht hs hag).mono ?_
        rintro u σ2 ⟨rfl, h1, h2, h3⟩
        refine ⟨rfl, fun y hy => ?_⟩
        rw [nI_s] at hy
        subst hy
        exact next (opT s w v :: r) c σ2 (by show r.length + 1 ≤ _; omega) hR h1 h2 h3 (by rw [runT_s hsg]; simp only [List.tail_cons, List.headD_cons])
      · rw [if_neg h1] at hm
        cases hm
/-- the class' part of a law -/
def ILawX (i : Nat) (T : List (Nat × Nat)) (σ : St) : Prop := T.length ≤ 161 ∧ (∀ t ∈ T, tokOk t) ∧ hgts 0 T = some 0 ∧ rd σ 28 i = nI T.length ∧ ∀ j t, T[j]? = some t → rd σ (i + 342) j = tokX t
theorem ILaw.x {h i : Nat} {T : List (Nat × Nat)} (hT : ILaw h i T σ) : ILawX i T σ := ⟨hT.1, hT.2.1, hT.2.2.1, hT.2.2.2.1, fun j t ht => (hT.2.2.2.2.2.1 j t ht).1⟩
theorem ILawX.of {i : Nat} {T : List (Nat × Nat)} {σ' : St} (hT : ILawX i T σ) (h28 : rd σ' 28 i = rd σ 28 i) (hr : ∀ j, rd σ' (i + 342) j = rd σ (i + 342) j) : ILawX i T σ' := ⟨hT.1, hT.2.1, hT.2.2.1, h28.trans hT.2.2.2.1, fun j t ht => (hr j).trans (hT.2.2.2.2 j t ht)⟩
theorem S_valueOf {Q : Option Value → St → Prop} {lw : Nat} (hlw : lw < 16) {T : List (Nat × Nat)} (hT : ILawX lw T σ) (hq : ∀ σ2, agr oX σ σ2 → Q (some (.int (runT (rd σ 33) [] true T))) σ2) : Meth Γ l (d + 2) mX6_valueOf [.ref 26, .int (nI lw), .ref 33] σ Q := by
  obtain ⟨h1, h2, h3, h4, h6⟩ := hT
  refine M_X6_valueOf _ (w_X6_valueOf_0 _ ?_)
  exact valueOf_loop (σ := σ) hlw h1 h4 T 0 [] true _ (fun j t ht => by rw [Nat.zero_add]; exact h6 j t ht) h2 (by omega) (Nat.le_refl _) h3 (by rw [rd_wr, if_pos ⟨rfl, rfl⟩]; rfl) trivial (agr.rf.wr (by unfold oX; omega)) hq
end EV2

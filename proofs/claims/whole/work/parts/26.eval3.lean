/-! The reference's side: named, gives, may -/
/-- what a name of a law's text stands for, by the reference's places -/
def factM (σ : St) (b : Nat) : Nat → Int32
  | 0 => rd σ 59 1 / 24 - rd σ 74 b
  | 1 => rd σ 72 b
  | 2 => rd σ 66 (rd σ 72 b).toNatClampNeg
  | 3 => rd σ 68 (rd σ 59 1 / 24).toNatClampNeg
  | 4 => rd σ 59 1 - rd σ 59 1 / 24 * 24
  | 5 => rd σ 69 (10 * (rd σ 71 b).toNatClampNeg + (rd σ 72 b).toNatClampNeg)
  | 6 => rd σ 70 (10 * (rd σ 71 b).toNatClampNeg + (rd σ 72 b).toNatClampNeg)
  | _ => rd σ 71 b
def oM : P2 := fun q _ => ¬ q = 91
section EV3
variable {Γ : GG} {l : Launch} {d : Nat} {σ : St}
theorem S_namedM {σ' : St} {h b s k : Nat} (hh : h < 36000) (h1 : rd σ 59 1 = nI h) (hb : b < 200) (hs : s < 12) (hk : k < 10) (es : rd σ 71 b = nI s) (ek : rd σ 72 b = nI k) (hag : agr oM σ σ') {i : Nat} (hi : i < 8) : Meth Γ l (d + 1) mX12_named [.ref 59, .int (nI i), .int (nI b)] σ' (KI (Kv (factM σ b i) σ')) := by
  have A : ∀ q c, q ≠ 91 → rd σ' q c = rd σ q c := fun q c hq => hag q c hq
  have cb : (nI b).toNatClampNeg = b := cl (by omega)
  have ck : (nI k).toNatClampNeg = k := cl (by omega)
  have cs : (nI s).toNatClampNeg = s := cl (by omega)
  have td : nI h / 24 = nI (h / 24) := nI_divn (b := 24) (by omega) (by omega)
  have ct : (nI (h / 24)).toNatClampNeg = h / 24 := cl (by omega)
  have ex : (10 : Int32) * nI s + nI k = nI (10 * s + k) := by rw [show (10 : Int32) = nI 10 from rfl, nI_muln, nI_addn]
  have cx : (nI (10 * s + k)).toNatClampNeg = 10 * s + k := cl (by omega)
  refine M_X12_named _ _ (w_X12_named_0 _ _ ⟨in_nI hb (by omega), ?_⟩)
  rw [ti_nI (by omega), cb]
  refine ⟨fun p => ?_, fun p => ?_, fun p => ?_, fun p => ?_, fun p => ?_, fun p => ?_, fun p => ?_, fun p0 p1 p2 p3 p4 p5 p6 => ?_⟩
  · obtain rfl : i = 0 := by omega
    exact KI.mk ⟨rfl, by rw [A _ _ (by omega), A _ _ (by omega)]; rfl⟩
  · obtain rfl : i = 1 := by omega
    exact KI.mk ⟨rfl, by rw [A _ _ (by omega)]; rfl⟩
  · obtain rfl : i = 2 := by omega
    rw [A 72 _ (by omega), ek, ck]
    exact ⟨in_nI hk (by omega), KI.mk ⟨rfl, by rw [A _ _ (by omega)]; show _ = rd σ 66 (rd σ 72 b).toNatClampNeg; rw [ek, ck]⟩⟩
  · obtain rfl : i = 3 := by omega
    rw [A 59 _ (by omega), h1, td, ct]
    exact ⟨in_nI (by omega) (by omega), KI.mk ⟨rfl, by rw [A _ _ (by omega)]; show _ = rd σ 68 (rd σ 59 1 / 24).toNatClampNeg; rw [h1, td, ct]⟩⟩
  · obtain rfl : i = 4 := by omega
    exact KI.mk ⟨rfl, by rw [A _ _ (by omega)]; rfl⟩
  · obtain rfl : i = 5 := by omega
    rw [A 71 _ (by omega), A 72 _ (by omega), es, ek, ex, cx]
    exact ⟨in_nI (by omega) (by omega), KI.mk ⟨rfl, by rw [A _ _ (by omega)]; show _ = rd σ 69 (10 * (rd σ 71 b).toNatClampNeg + (rd σ 72 b).toNatClampNeg); rw [es, ek, cs, ck]⟩⟩
  · obtain rfl : i = 6 := by omega
    rw [A 71 _ (by omega), A 72 _ (by omega), es, ek, ex, cx]
    exact ⟨in_nI (by omega) (by omega), KI.mk ⟨rfl, by rw [A _ _ (by omega)]; show _ = rd σ 70 (10 * (rd σ 71 b).toNatClampNeg + (rd σ 72 b).toNatClampNeg); rw [es, ek, cs, ck]⟩⟩
  · obtain rfl : i = 7 := by omega
    exact KI.mk ⟨rfl, by rw [A _ _ (by omega)]; rfl⟩
theorem gives_loop {Q : Option Value → St → Prop} {lw b : Nat} (hlw : lw < 16) {T : List (Nat × Nat)} (hT : T.length ≤ 161) (hw : rd σ 88 lw = nI T.length)
    (F : Nat → Int32) (hF : ∀ σ', agr oM σ σ' → ∀ i, i < 8 → Meth Γ l (d + 1) mX12_named [.ref 59, .int (nI i), .int (nI b)] σ' (KI (Kv (F i) σ'))) :
    ∀ (R : List (Nat × Nat)) (i : Nat) (st : List Int32) (c : Bool) (σ' : St), (∀ j t, R[j]? = some t → rd σ 89 (170 * lw + (i + j)) = tokA t ∧ (t.1 ≤ 1 → rd σ 90 (170 * lw + (i + j)) = nI t.2)) → (∀ t ∈ R, tokOk t) → i + R.length = T.length → st.length ≤ i → hgts st.length R = some 0 →
      stk σ' 91 st → agr oM σ σ' → (∀ σ2, agr oM σ σ2 → Q (some (.int (runT F st c R))) σ2) →
      J Γ l (d + 2) mX12_gives Q 12 [(0, .ref 59), (1, .int (nI lw)), (2, .int (nI b)), (3, .int (nI st.length)), (4, .int (bI (!c))), (5, .int (nI (170 * lw + i)))] [] σ' := by
  have hcl : (nI lw).toNatClampNeg = lw := cl (by omega)
  have e17 : ∀ n : Nat, (170 : Int32) * nI lw + nI n = nI (170 * lw + n) := fun n => by rw [show (170 : Int32) = nI 170 from rfl, nI_muln, nI_addn]
  intro R
  induction R with
  | nil =>
    intro i st c σ' hr ho hi hst hh hs hag hq
    have hi2 : i = T.length := by simpa using hi
    refine w_X12_gives_12 _ _ _ _ _ ⟨in_nI (by omega) (by omega), fun _ => hq σ' hag, fun q => absurd ?_ q⟩
    rw [hcl, hag 88 lw (by unfold oM; omega), hw, e17]
    exact (nI_lei (by omega) (by omega)).mpr (by omega)
  | cons t R ih =>
    intro i st c σ' hr ho hi hst hh hs hag hq
    have hil : i + (R.length + 1) = T.length := hi
    obtain ⟨m, hm, hR⟩ := hgts_cons hh
    have hst3 : st.length ≤ R.length + 1 := hgts_le _ _ hh
    have hci : (nI (170 * lw + i)).toNatClampNeg = 170 * lw + i := cl (by omega)
    have hx : rd σ' 89 (170 * lw + i) = tokA t := by
      rw [hag _ _ (by unfold oM; omega)]
      exact (hr 0 t rfl).1
    have hx2 : t.1 ≤ 1 → rd σ' 90 (170 * lw + i) = nI t.2 := by
      intro h1
      rw [hag _ _ (by unfold oM; omega)]
      exact (hr 0 t rfl).2 h1
    have inx : vp_in (nI (170 * lw + i)) 2890 := in_nI (by omega) (by omega)
    have ins : vp_in (nI st.length) 180 := in_nI (by omega) (by omega)
    have nx : nI (170 * lw + i) + 1 = nI (170 * lw + (i + 1)) := by rw [nI_s]; rfl
    have next : ∀ (st' : List Int32) (c' : Bool) (σ2 : St), st'.length ≤ i + 1 → hgts st'.length R = some 0 → stk σ2 91 st' → agr oM σ σ2 → runT F st' c' R = runT F st c (t :: R) → J Γ l (d + 2) mX12_gives Q 12 [(0, .ref 59), (1, .int (nI lw)), (2, .int (nI b)), (3, .int (nI st'.length)), (4, .int (bI (!c'))), (5, .int (nI (170 * lw + (i + 1))))] [] σ2 := by
      intro st' c' σ2 a1 a2 a4 a5 a6
      refine ih (i + 1) st' c' σ2 (fun j u hu => ?_) (fun u hu => ho u (List.mem_cons_of_mem _ hu)) (by omega) a1 a2 a4 a5 (fun σ3 h3 => by rw [a6]; exact hq σ3 h3)
      have := hr (j + 1) u hu
      rw [show i + 1 + j = i + (j + 1) by omega]
      exact this
    refine w_X12_gives_12 _ _ _ _ _ ⟨in_nI (by omega) (by omega), fun q => absurd q ?_, fun _ => ⟨inx, ?_⟩⟩
    · rw [hcl, hag 88 lw (by unfold oM; omega), hw, e17, nI_lei (by omega) (by omega)]
      omega
    rw [hci, hx]
    rcases tok_cases (ho t List.mem_cons_self) with ⟨v, hv, rfl⟩ | ⟨k, hk, rfl⟩ | rfl | rfl | rfl | ⟨s, hsg, rfl⟩
    · -- a number
      have e0 : tokA (0, v) = 1 := rfl
      rw [e0]
      refine ⟨fun _ => w_X12_gives_50 _ _ _ _ _ _ ⟨fun _ => ⟨inx, ins, fun y hy z hz => ?_⟩, fun q => absurd rfl q⟩, fun q => absurd rfl q⟩
      rw [nI_s] at hy
      rw [nx] at hz
      subst hy
      subst hz
      rw [hci, hx2 (show (0 : Nat) ≤ 1 by omega), cl (by omega)]
      exact next (nI v :: st) c _ (by show st.length + 1 ≤ _; omega) (by cases hm; exact hR) (stk_push hs) (hag.wr (by unfold oM; omega)) rfl
    · -- a name
      have e0 : tokA (1, k) = 2 := rfl
      rw [e0]
      refine ⟨fun q => absurd q (by decide), fun _ => ⟨fun _ => w_X12_gives_50 _ _ _ _ _ _ ⟨fun q => absurd q (by decide), fun _ => ⟨inx, ?_⟩⟩, fun q => absurd rfl q⟩⟩
      rw [hci, hx2 (show (1 : Nat) ≤ 1 by omega)]
      refine (hF σ' hag k hk).mono ?_
      rintro u σ2 ⟨x, rfl, rfl, rfl⟩
      refine ⟨_, rfl, ins, fun y hy z hz => ?_⟩
      rw [nI_s] at hy
      rw [nx] at hz
      subst hy
      subst hz
      rw [cl (by omega)]
      exact next (F k :: st) c _ (by show st.length + 1 ≤ _; omega) (by cases hm; exact hR) (stk_push hs) (hag.wr (by unfold oM; omega)) rfl
    · -- the comma
      have e0 : tokA (2, 0) = 3 := rfl
      have hm1 : (if st.length = 1 then some 0 else none : Option Nat) = some m := hm
      by_cases h1 : st.length = 1
      · rw [if_pos h1] at hm1
        cases hm1
        obtain ⟨v, rfl⟩ : ∃ v, st = [v] := by
          match st, h1 with
          | [v], _ => exact ⟨v, rfl⟩
        have hv : rd σ' 91 0 = v := hs.1
        rw [e0]
        refine ⟨fun q => absurd q (by decide), fun _ => ⟨fun q => absurd q (by decide), fun _ => ⟨fun _ => ?_, fun q => absurd rfl q⟩⟩⟩
        rw [hv]
        refine ⟨fun q y hy => ?_, fun q y hy => ?_⟩
        · rw [nx] at hy
          subst hy
          refine next [] false σ' (by show 0 ≤ _; omega) hR trivial hag ?_
          show _ = runT F [] (decide (¬ v = 0)) R
          simp [q]
        · rw [nx] at hy
          subst hy
          refine next [] true σ' (by show 0 ≤ _; omega) hR trivial hag ?_
          show _ = runT F [] (decide (¬ v = 0)) R
          simp [q]
      · rw [if_neg h1] at hm1
        cases hm1
    · -- a clause's end
      have e0 : tokA (3, 0) = 4 := rfl
      have hm1 : (if st.length = 1 then some 0 else none : Option Nat) = some m := hm
      by_cases h1 : st.length = 1
      · rw [if_pos h1] at hm1
        cases hm1
        obtain ⟨v, rfl⟩ : ∃ v, st = [v] := by
          match st, h1 with
          | [v], _ => exact ⟨v, rfl⟩
        have hv : rd σ' 91 0 = v := hs.1
        rw [e0]
        refine ⟨fun q => absurd q (by decide), fun _ => ⟨fun q => absurd q (by decide), fun _ => ⟨fun q => absurd q (by decide), fun _ => ⟨fun _ => ?_, fun q => absurd rfl q⟩⟩⟩⟩
        rw [hv]
        refine ⟨fun q => ?_, fun q y hy => ?_⟩
        · cases c with
          | true => exact hq σ' hag
          | false => exact absurd q (by decide)
        · cases c with
          | true => exact absurd rfl q
          | false =>
            rw [nx] at hy
            subst hy
            exact next [] true σ' (by show 0 ≤ _; omega) hR trivial hag rfl
      · rw [if_neg h1] at hm1
        cases hm1
    · -- a denial
      have e0 : tokA (4, 0) = 5 := rfl
      have hm1 : (if 1 ≤ st.length then some st.length else none : Option Nat) = some m := hm
      by_cases h1 : 1 ≤ st.length
      · rw [if_pos h1] at hm1
        cases hm1
        obtain ⟨v, r, rfl⟩ : ∃ v r, st = v :: r := by
          match st, h1 with
          | v :: r, _ => exact ⟨v, r, rfl⟩
        have hlr : r.length + 1 ≤ R.length + 1 := hst3
        have hlr2 : r.length + 1 ≤ i := hst
        have hln : nI (v :: r).length - 1 = nI r.length := nI_pr r.length
        rw [e0, hln]
        refine ⟨fun q => absurd q (by decide), fun _ => ⟨fun q => absurd q (by decide), fun _ => ⟨fun q => absurd q (by decide), fun _ => ⟨fun q => absurd q (by decide), fun _ => ⟨fun _ => ⟨in_nI (by omega) (by omega), ?_⟩, fun q => absurd rfl q⟩⟩⟩⟩⟩
        rw [cl (by omega), hs.1]
        refine ⟨fun q y hy => ?_, fun q y hy => ?_⟩
        · rw [nx] at hy
          subst hy
          exact next ((1 : Int32) :: r) c _ (by show r.length + 1 ≤ _; omega) hR (stk_push hs.2) (hag.wr (by unfold oM; omega)) (by show _ = runT F ((if v = 0 then 1 else 0) :: r) c R; rw [if_pos q])
        · rw [nx] at hy
          subst hy
          exact next ((0 : Int32) :: r) c _ (by show r.length + 1 ≤ _; omega) hR (stk_push hs.2) (hag.wr (by unfold oM; omega)) (by show _ = runT F ((if v = 0 then 1 else 0) :: r) c R; rw [if_neg q])
      · rw [if_neg h1] at hm1
        cases hm1
    · -- a sign
      rw [tokA_s hsg]
      obtain ⟨g1, g2, g3, g4, g5, n1, n2, n3, n4, n5⟩ := sg_f hsg
      rw [hgt_s hsg] at hm
      by_cases h1 : 2 ≤ st.length
      · rw [if_pos h1] at hm
        cases hm
        obtain ⟨v, w, r, rfl⟩ : ∃ v w r, st = v :: w :: r := by
          match st, h1 with
          | v :: w :: r, _ => exact ⟨v, w, r, rfl⟩
        have hlr : r.length + 2 ≤ R.length + 1 := hst3
        have hlr2 : r.length + 2 ≤ i := hst
        refine ⟨fun q => absurd q n1, fun _ => ⟨fun q => absurd q n2, fun _ => ⟨fun q => absurd q n3, fun _ => ⟨fun q => absurd q n4, fun _ => ⟨fun q => absurd q n5, fun _ x hx3 => ?_⟩⟩⟩⟩⟩
        have hx4 : x = nI (r.length + 1) := hx3.trans (nI_p (r.length + 1))
        subst hx4
        rw [nI_pr, cl (by omega), cl (by omega), show rd σ' 91 r.length = w from hs.2.1, show rd σ' 91 (r.length + 1) = v from hs.1]
        refine ⟨in_nI (by omega) (by omega), in_nI (by omega) (by omega), (S_both _ _ hsg).mono ?_⟩
        rintro u σ2 ⟨x, rfl, rfl, rfl⟩
        refine ⟨_, rfl, fun y hy => ?_⟩
        rw [nx] at hy
        subst hy
        exact next (opT s w v :: r) c _ (by show r.length + 1 ≤ _; omega) hR (stk_push hs.2.2) (hag.wr (by unfold oM; omega)) (by rw [runT_s hsg]; simp only [List.tail_cons, List.headD_cons])
      · rw [if_neg h1] at hm
        cases hm
theorem S_gives {Q : Option Value → St → Prop} {h lw b s k : Nat} (hlw : lw < 16) {T : List (Nat × Nat)} (hT : ILaw h lw T σ) (hh : h < 36000) (h1 : rd σ 59 1 = nI h) (hb : b < 200) (hs : s < 12) (hk : k < 10) (es : rd σ 71 b = nI s) (ek : rd σ 72 b = nI k) (hq : ∀ σ2, agr oM σ σ2 → Q (some (.int (runT (factM σ b) [] true T))) σ2) : Meth Γ l (d + 2) mX12_gives [.ref 59, .int (nI lw), .int (nI b)] σ Q := by
  obtain ⟨g1, g2, g3, g4, g5, g6, -⟩ := hT
  refine M_X12_gives _ _ (w_X12_gives_0 _ _ ?_)
  have e17 : (170 : Int32) * nI lw = nI (170 * lw + 0) := by rw [show (170 : Int32) = nI 170 from rfl, nI_muln]; rfl
  rw [e17]
  exact gives_loop (σ := σ) hlw g1 g5 (factM σ b) (fun σ' ha i hi => S_namedM hh h1 hb hs hk es ek ha hi) T 0 [] true σ (fun j t ht => by rw [Nat.zero_add]; exact ⟨(g6 j t ht).2.1, (g6 j t ht).2.2⟩) g2 (by omega) (Nat.le_refl _) g3 trivial agr.rf hq
end EV3

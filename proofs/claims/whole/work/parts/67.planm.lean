/-! PLAN: the reference's search -/
def accM (R : (Nat → Nat) → Int32) (s : Nat) (w6 : Int64) (a8 : Int32) (σ : St) : Acc → Prop
  | none => ¬ a8 = 0
  | some (w, b) => a8 = 0 ∧ w6 = w ∧ rd σ 59 56 = nI (s + 6) ∧ rd σ 59 57 = R b ∧ ∀ j, s ≤ j → j < 14 → rd σ 100 (j + 6) = nI (b j)
section PM
variable {Γ : GG} {l : Launch} {d : Nat} {σ : St}
theorem S_plan156 {Q : Option Value → St → Prop} {A : Nat → Nat → Int32} {P : Nat → Int32} {s k : Nat} {fin : Acc} {t0 : Nat → Nat} (hk : k < 10) (hs : s < 14) (stock thr : Int32) (hA : ∀ j p, s ≤ j → j < 14 → p < 4 → rd σ 101 (4 * (j + 6) + p) = A j p) (hP : ∀ p, p < 4 → (rd σ 63 k * (100 - 25 * nI p)) / 100 = P p) (hth : rd σ 67 k = thr) (hfin : run (wPl A P s stock thr) s (14 - s) (rmn t0 (14 - s)) t0 none = fin) (ht0 : ∀ j, s ≤ j → j < 14 → t0 j < 4 ∧ rd σ 99 (j + 6) = nI (t0 j))
    (hQ : ∀ (σ' : St) (w : Int64) (b : Nat → Nat), fin = some (w, b) → rd σ' 59 56 = nI (s + 6) → rd σ' 59 57 = lfN A b s stock (14 - s) → (∀ j, s ≤ j → j < 14 → rd σ' 100 (j + 6) = nI (b j)) → (∀ q c, q ≠ 99 → q ≠ 100 → ¬ (q = 59 ∧ (c = 56 ∨ c = 57)) → rd σ' q c = rd σ q c) → Q (some (.int w.toInt32)) σ') : J Γ l (d + 5) mX12_plan Q 156 [(0, .ref 59), (2, .int (nI k)), (3, .int (nI (s + 6))), (4, .int stock), (6, .long 0), (8, .int 1), (9, .int 19)] [] σ := by
  generalize hW : wPl A P s stock thr = W at *
  have WW : ∀ t, W t = cwN A P t s stock (14 - s) - (lfN A t s stock (14 - s)).toInt64 * thr.toInt64 := fun t => by rw [← hW]; rfl
  have loop : ∀ f t w6 a8 a9 a σi, rmn t (14 - s) = f → run W s (14 - s) f t a = fin → (∀ j, s ≤ j → j < 14 → t j < 4 ∧ rd σi 99 (j + 6) = nI (t j)) → accM (fun b => lfN A b s stock (14 - s)) s w6 a8 σi a → s + 6 ≤ a9 → a9 < 20 → (∀ q c, q ≠ 99 → q ≠ 100 → ¬ (q = 59 ∧ (c = 56 ∨ c = 57)) → rd σi q c = rd σ q c) → J Γ l (d + 5) mX12_plan Q 156 [(0, .ref 59), (2, .int (nI k)), (3, .int (nI (s + 6))), (4, .int stock), (6, .long w6), (8, .int a8), (9, .int (nI a9))] [] σi := by
    intro f
    induction f with
    | zero =>
      intro t w6 a8 a9 a σi hr
      have := rmn_pos (t := t) (14 - s)
      omega
    | succ f ih =>
      intro t w6 a8 a9 a σi hr hrun ht hacc h9 h92 hag
      -- the next way
      have cont : ∀ σ' w7 b8, (∀ j, s ≤ j → j < 14 → t j < 4 ∧ rd σ' 99 (j + 6) = nI (t j)) → accM (fun b => lfN A b s stock (14 - s)) s w7 b8 σ' (upA W t a) → (∀ q c, q ≠ 99 → q ≠ 100 → ¬ (q = 59 ∧ (c = 56 ∨ c = 57)) → rd σ' q c = rd σ q c) → J Γ l (d + 5) mX12_plan Q 341 [(0, .ref 59), (2, .int (nI k)), (3, .int (nI (s + 6))), (4, .int stock), (6, .long w7), (8, .int b8), (9, .int 19)] [] σ' := by
        intro σ' w7 b8 ht' hacc' hag'
        have down : ∀ n, n ≤ 14 - s → fnd t s (14 - s) = fnd t s n → J Γ l (d + 5) mX12_plan Q 341 [(0, .ref 59), (2, .int (nI k)), (3, .int (nI (s + 6))), (4, .int stock), (6, .long w7), (8, .int b8), (9, .int (nI (s + 6 + n) - 1))] [] σ' := by
          intro n
          induction n with
          | zero =>
            intro hn hf
            have lt : nI (s + 6 + 0) - 1 < nI (s + 6) := by
              have e1 : (1 : Int32).toInt = 1 := rfl
              have e2 := ti_nI (n := s + 6) (by omega)
              rw [Nat.add_zero, ti_lt, ti_sub (by omega) (by omega)]
              omega
            have nle' : ¬ nI (s + 6) ≤ nI (s + 6 + 0) - 1 := fun q => by
              rw [ti_le] at q
              rw [ti_lt] at lt
              omega
            refine w_X12_plan_341 _ _ _ _ _ _ ⟨fun _ => ⟨fun q => absurd q nle', fun _ => ?_⟩, fun q => absurd lt q⟩
            refine w_X12_plan_156 _ _ _ _ _ _ ⟨fun _ => ?_, fun q => absurd lt q⟩
            have hf0 : fnd t s (14 - s) = none := hf
            rw [run_n hf0] at hrun
            rcases hz : upA W t a with _ | ⟨w, b⟩
            · exfalso
              rcases a with _ | ⟨w, b⟩
              · cases hz
              · unfold upA at hz
                dsimp only at hz
                split at hz <;> cases hz
            · rw [hz] at hacc' hrun
              obtain ⟨c1, c2, c3, c4, c5⟩ := hacc'
              rw [c2]
              exact hQ σ' w b hrun.symm c3 c4 c5 hag'
          | succ n ihn =>
            intro hn hf
            obtain ⟨t1, t2⟩ := ht' (s + n) (by omega) (by omega)
            have e0 : nI (s + 6 + (n + 1)) - 1 = nI (s + n + 6) := by
              rw [show s + 6 + (n + 1) = s + n + 6 + 1 by omega]
              exact nI_pr _
            have e00 : nI (s + n + 6) + -1 = nI (s + 6 + n) - 1 := by
              rw [show s + n + 6 = s + 6 + n by omega]
              exact nI_m _
            have ef : fnd t s (n + 1) = if t (s + n) < 3 then some (s + n) else fnd t s n := rfl
            rw [e0]
            refine w_X12_plan_341 _ _ _ _ _ _ ⟨fun q => absurd ((nI_lti (by omega) (by omega)).mp q) (by omega), fun _ => ?_⟩
            rw [cl (n := s + n + 6) (by omega), t2]
            refine ⟨in_nI (by omega) (by omega), fun q x hx => ?_, fun q => ⟨fun _ x hx => ?_, fun q2 => absurd ((nI_lei (by omega) (by omega)).mpr (by omega)) q2⟩⟩
            · have q3 : t (s + n) = 3 := (nI_inj (b := 3) (by omega) (by omega)).mp q
              rw [if_neg (by omega)] at ef
              rw [e00] at hx
              subst hx
              exact ihn (by omega) (hf.trans ef)
            · have q3 : ¬ t (s + n) = 3 := fun r => q (by rw [r]; rfl)
              rw [if_pos (by omega)] at ef
              have hf2 := hf.trans ef
              rw [nI_s] at hx
              subst hx
              obtain ⟨g1, g2, g3, g4⟩ := fnd_some _ hf2
              have rm := rais_rm (t := t) (i := s + n) (by omega) g3 (fun j' q1 q2 => by
                have := (ht' j' (by omega) q2).1
                have := g4 j' q1 (by omega)
                omega) (14 - s) (by omega) (by omega)
              rw [run_s hf2] at hrun
              have up : ∀ m j σj, j + m = 20 → s + n + 6 ≤ j → (∀ q c, rd σj q c = if q = 99 ∧ s + n + 6 ≤ c ∧ c < j then nI (t (s + n) + 1) else rd σ' q c) → J Γ l (d + 5) mX12_plan Q 388 [(0, .ref 59), (2, .int (nI k)), (3, .int (nI (s + 6))), (4, .int stock), (6, .long w7), (8, .int b8), (9, .int (nI (s + n + 6))), (13, .int (nI (t (s + n) + 1))), (14, .int (nI j))] [] σj := by
                intro m
                induction m with
                | zero =>
                  intro j σj hj hij hσ
                  have : j = 20 := by omega
                  subst this
                  refine w_X12_plan_388 _ _ _ _ _ _ _ _ ⟨fun _ => ?_, fun q => absurd (by decide) q⟩
                  have same : ∀ q c, q ≠ 99 → rd σj q c = rd σ' q c := fun q c hq => by rw [hσ, if_neg (by omega)]
                  refine ih (rais t (s + n)) w7 b8 (s + n + 6) (upA W t a) σj (by omega) hrun (fun j' q1 q2 => ⟨?_, ?_⟩) ?_ (by omega) (by omega) (fun q c r1 r2 r3 => (same q c r1).trans (hag' q c r1 r2 r3))
                  · show (if s + n ≤ j' then t (s + n) + 1 else t j') < 4
                    have := (ht' j' q1 q2).1
                    split <;> omega
                  · rw [hσ]
                    show _ = nI (if s + n ≤ j' then t (s + n) + 1 else t j')
                    by_cases c : s + n ≤ j'
                    · rw [if_pos (by omega), if_pos c]
                    · rw [if_neg (by omega), if_neg c]
                      exact (ht' j' q1 q2).2
                  · rcases hz : upA W t a with _ | ⟨w, b⟩
                    · rw [hz] at hacc'
                      exact hacc'
                    · rw [hz] at hacc'
                      obtain ⟨c1, c2, c3, c4, c5⟩ := hacc'
                      exact ⟨c1, c2, (same 59 56 (by omega)).trans c3, (same 59 57 (by omega)).trans c4, fun j' q1 q2 => (same 100 _ (by omega)).trans (c5 j' q1 q2)⟩
                | succ m ihm =>
                  intro j σj hj hij hσ
                  refine w_X12_plan_388 _ _ _ _ _ _ _ _ ⟨fun q => absurd ((nI_lti (a := 19) (by omega) (by omega)).mp q) (by omega), fun _ => ⟨in_nI (by omega) (by omega), fun y hy => ?_⟩⟩
                  rw [nI_s] at hy
                  subst hy
                  rw [cl (n := j) (by omega)]
                  refine ihm (j + 1) _ (by omega) (by omega) (fun q c => ?_)
                  rw [rd_wr, hσ]
                  by_cases e : q = 99 ∧ c = j
                  · rw [if_pos e, if_pos (by omega)]
                  · rw [if_neg e]
                    by_cases e2 : q = 99 ∧ s + n + 6 ≤ c ∧ c < j
                    · rw [if_pos e2, if_pos (by omega)]
                    · rw [if_neg e2, if_neg (by omega)]
              exact up (20 - (s + n + 6)) (s + n + 6) σ' (by omega) (by omega) (fun q c => (if_neg (by omega)).symm)
        have := down (14 - s) (Nat.le_refl _) rfl
        rw [show s + 6 + (14 - s) = 20 by omega] at this
        exact this
      -- a better way
      have copy : upA W t a = some (W t, t) → J Γ l (d + 5) mX12_plan Q 310 [(0, .ref 59), (2, .int (nI k)), (3, .int (nI (s + 6))), (4, .int stock), (6, .long (W t)), (8, .int 0), (13, .int (nI (s + 6)))] [] (wr (wr σi 59 56 (nI (s + 6))) 59 57 (lfN A t s stock (14 - s))) := by
        intro hu
        have lp : ∀ m j σj, j + m = 20 → s + 6 ≤ j → (∀ q c, rd σj q c = if q = 100 ∧ s + 6 ≤ c ∧ c < j then rd σi 99 c else rd (wr (wr σi 59 56 (nI (s + 6))) 59 57 (lfN A t s stock (14 - s))) q c) → J Γ l (d + 5) mX12_plan Q 310 [(0, .ref 59), (2, .int (nI k)), (3, .int (nI (s + 6))), (4, .int stock), (6, .long (W t)), (8, .int 0), (13, .int (nI j))] [] σj := by
          intro m
          induction m with
          | zero =>
            intro j σj hj hij hσ
            have : j = 20 := by omega
            subst this
            refine w_X12_plan_310 _ _ _ _ _ _ ⟨fun _ => ?_, fun q => absurd (by decide) q⟩
            refine cont σj (W t) 0 (fun j' q1 q2 => ⟨(ht j' q1 q2).1, ?_⟩) ?_ (fun q c r1 r2 r3 => ?_)
            · rw [hσ, if_neg (by omega), rdn (by omega), rdn (by omega)]
              exact (ht j' q1 q2).2
            · rw [hu]
              refine ⟨rfl, rfl, ?_, ?_, fun j' q1 q2 => ?_⟩
              · rw [hσ, if_neg (by omega), rdn (by omega), rdy]
              · rw [hσ, if_neg (by omega), rdy]
              · rw [hσ, if_pos (by omega)]
                exact (ht j' q1 q2).2
            · rw [hσ, if_neg (by omega), rdn (by omega), rdn (by omega)]
              exact hag q c r1 r2 r3
          | succ m ihm =>
            intro j σj hj hij hσ
            refine w_X12_plan_310 _ _ _ _ _ _ ⟨fun q => absurd ((nI_lti (a := 19) (by omega) (by omega)).mp q) (by omega), fun _ => ⟨in_nI (by omega) (by omega), fun y hy => ?_⟩⟩
            rw [nI_s] at hy
            subst hy
            rw [cl (n := j) (by omega)]
            refine ihm (j + 1) _ (by omega) (by omega) (fun q c => ?_)
            rw [rd_wr, hσ 99 j, if_neg (c := 99 = 100 ∧ s + 6 ≤ j ∧ j < j) (by omega), rdn (q := 99) (by omega), rdn (q := 99) (by omega), hσ]
            by_cases e : q = 100 ∧ c = j
            · rw [if_pos e, if_pos (by omega), e.2]
            · rw [if_neg e]
              by_cases e2 : q = 100 ∧ s + 6 ≤ c ∧ c < j
              · rw [if_pos e2, if_pos (by omega)]
              · rw [if_neg e2, if_neg (by omega)]
        exact lp (20 - (s + 6)) (s + 6) _ (by omega) (by omega) (fun q c => (if_neg (by omega)).symm)
      -- what the way brings
      have sell : ∀ m n, n + m = 14 - s → J Γ l (d + 5) mX12_plan Q 172 [(0, .ref 59), (2, .int (nI k)), (3, .int (nI (s + 6))), (4, .int stock), (6, .long w6), (8, .int a8), (10, .int (lfN A t s stock n)), (11, .long (cwN A P t s stock n)), (13, .int (nI (s + 6 + n)))] [] σi := by
        intro m
        induction m with
        | zero =>
          intro n hn
          have : n = 14 - s := by omega
          subst this
          rw [show s + 6 + (14 - s) = 20 by omega]
          refine w_X12_plan_172 _ _ _ _ _ _ _ _ ⟨fun _ => ⟨in_nI hk (by omega), fun x hx => ?_⟩, fun q => absurd (by decide) q⟩
          rw [cl (n := k) (by omega), hag 67 k (by omega) (by omega) (by omega), hth, ← WW] at hx
          subst hx
          rcases a with _ | ⟨w, b⟩
          · exact ⟨fun q => absurd q hacc, fun _ => copy rfl⟩
          · obtain ⟨c1, rfl, -⟩ := id hacc
            refine ⟨fun _ => ⟨fun q => cont σi w6 a8 ht ?_ hag, fun q => copy ?_⟩, fun q => absurd c1 q⟩
            · unfold upA
              dsimp only
              rw [if_pos q]
              exact hacc
            · unfold upA
              dsimp only
              rw [if_neg q]
        | succ m ihm =>
          intro n hn
          obtain ⟨t1, t2⟩ := ht (s + n) (by omega) (by omega)
          rw [show s + n + 6 = s + 6 + n by omega] at t2
          have nx := ihm (n + 1) (by omega)
          rw [show lfN A t s stock (n + 1) = lfN A t s stock n - mnI (lfN A t s stock n) (A (s + n) (t (s + n))) from rfl, show cwN A P t s stock (n + 1) = cwN A P t s stock n + (mnI (lfN A t s stock n) (A (s + n) (t (s + n)))).toInt64 * (P (t (s + n))).toInt64 from rfl] at nx
          have e4 : (4 : Int32) * nI (s + 6 + n) + nI (t (s + n)) = nI (4 * (s + n + 6) + t (s + n)) := by
            rw [show (4 : Int32) * nI (s + 6 + n) = nI (4 * (s + 6 + n)) from nI_muln 4 _, nI_addn]
            congr 1
            omega
          refine w_X12_plan_172 _ _ _ _ _ _ _ _ ⟨fun q => absurd ((nI_lti (a := 19) (by omega) (by omega)).mp q) (by omega), fun _ => ?_⟩
          rw [cl (n := s + 6 + n) (by omega), t2, e4, cl (n := 4 * (s + n + 6) + t (s + n)) (by omega), hag 101 _ (by omega) (by omega) (by omega), hA (s + n) _ (by omega) (by omega) t1, cl (n := k) (by omega), hag 63 k (by omega) (by omega) (by omega), hP _ t1]
          refine ⟨in_nI (by omega) (by omega), in_nI (by omega) (by omega), fun q => ⟨in_nI hk (by omega), fun x hx y hy => ?_⟩, fun q x hx => ⟨in_nI hk (by omega), fun y hy z hz => ?_⟩⟩
          · rw [nI_s] at hy
            have e : mnI (lfN A t s stock n) (A (s + n) (t (s + n))) = lfN A t s stock n := if_neg (Int32.not_lt.mpr q)
            rw [e] at nx
            subst hx hy
            exact nx
          · rw [nI_s] at hz
            have e : mnI (lfN A t s stock n) (A (s + n) (t (s + n))) = A (s + n) (t (s + n)) := if_pos (Int32.not_le.mp q)
            rw [e] at nx
            subst hx hy hz
            exact nx
      exact w_X12_plan_156 _ _ _ _ _ _ ⟨fun q => absurd ((nI_lti (by omega) (by omega)).mp q) (by omega), fun _ => sell (14 - s) 0 (by omega)⟩
  exact loop _ t0 0 1 19 none σ rfl hfin ht0 (by show ¬ (1 : Int32) = 0; decide) (by omega) (by omega) (fun _ _ _ _ _ => rfl)
end PM

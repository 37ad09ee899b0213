/-! PLAN: the class' search -/
def accX (R : (Nat → Nat) → Int32) (s : Nat) (w6 : Int64) (σ : St) : Acc → Prop
  | none => rd σ 44 4 = 0
  | some (w, b) => rd σ 44 4 = 1 ∧ w6 = w ∧ rd σ 44 6 = R b ∧ ∀ j, s ≤ j → j < 14 → rd σ 48 j = nI (b j)
section SS
variable {Γ : GG} {l : Launch} {d : Nat} {σ : St}
theorem S_fill47 (x : Int32) : Meth Γ l d mJ7_fill_53178 [.ref 47, .int x] σ (KV fun σ' => (∀ i, i < 14 → rd σ' 47 i = x) ∧ ∀ q c, q ≠ 47 → rd σ' q c = rd σ q c) := by
  have loop : ∀ f i σi, i + f = 14 → (∀ j, j < i → rd σi 47 j = x) → (∀ q c, q ≠ 47 → rd σi q c = rd σ q c) → J Γ l d mJ7_fill_53178 (KV fun σ' => (∀ i, i < 14 → rd σ' 47 i = x) ∧ ∀ q c, q ≠ 47 → rd σ' q c = rd σ q c) 5 [(0, .ref 47), (1, .int x), (2, .int (nI i)), (3, .int 14)] [] σi := by
    intro f
    induction f with
    | zero =>
      intro i σi hi h1 h2
      have : i = 14 := by omega
      subst this
      exact w_J7_fill_53178_47_5 _ _ _ ⟨fun _ => ⟨rfl, h1, h2⟩, fun q => absurd (by decide) q⟩
    | succ f ih =>
      intro i σi hi h1 h2
      refine w_J7_fill_53178_47_5 _ _ _ ⟨fun q => absurd ((nI_lei (a := 14) (by omega) (by omega)).mp q) (by omega), fun _ => ⟨in_nI (by omega) (by omega), fun y hy => ?_⟩⟩
      rw [nI_s] at hy
      subst hy
      rw [cl (by omega)]
      refine ih (i + 1) _ (by omega) (fun j hj => ?_) (fun q c a1 => by rw [rdn (by omega)]; exact h2 q c a1)
      by_cases c : j = i
      · subst c
        exact rdy
      · rw [rdn (by omega)]
        exact h1 j (by omega)
  exact M_J7_fill_53178_47 _ (w_J7_fill_53178_47_0 _ (loop 14 0 σ (by omega) (fun j hj => absurd hj (by omega)) (fun _ _ _ => rfl)))
theorem S_search {A : Nat → Nat → Int32} {P : Nat → Int32} {s p0 : Nat} (hs : s < 14) (hp : p0 < 4) (stock thr : Int32) (hA : ∀ j p, j < 14 → p < 4 → rd σ (j + 358) p = A j p) (hP : ∀ p, p < 4 → rd σ 46 p = P p) : Meth Γ l (d + 2) mX2_search [.ref 44, .int (nI (s + 6)), .int (nI p0), .int stock, .int thr] σ (KI fun x σ' => (∃ w b, run (wPl A P s stock thr) s (14 - s) (rmn (fun _ => p0) (14 - s)) (fun _ => p0) none = some (w, b) ∧ x = w.toInt32 ∧ rd σ' 44 4 = 1 ∧ rd σ' 44 6 = lfN A b s stock (14 - s) ∧ ∀ j, s ≤ j → j < 14 → rd σ' 48 j = nI (b j)) ∧ rd σ' 44 5 = nI (s + 6) ∧ ∀ q c, q ≠ 47 → q ≠ 48 → ¬ (q = 44 ∧ (c = 4 ∨ c = 5 ∨ c = 6)) → rd σ' q c = rd σ q c) := by
  generalize hW : wPl A P s stock thr = W
  have WW : ∀ t, W t = cwN A P t s stock (14 - s) - (lfN A t s stock (14 - s)).toInt64 * thr.toInt64 := fun t => by rw [← hW]; rfl
  generalize hfin : run W s (14 - s) (rmn (fun _ => p0) (14 - s)) (fun _ => p0) none = fin
  generalize hK : (fun (x : Int32) (σ' : St) => (∃ w b, fin = some (w, b) ∧ x = w.toInt32 ∧ rd σ' 44 4 = 1 ∧ rd σ' 44 6 = lfN A b s stock (14 - s) ∧ ∀ j, s ≤ j → j < 14 → rd σ' 48 j = nI (b j)) ∧ rd σ' 44 5 = nI (s + 6) ∧ ∀ q c, q ≠ 47 → q ≠ 48 → ¬ (q = 44 ∧ (c = 4 ∨ c = 5 ∨ c = 6)) → rd σ' q c = rd σ q c) = KK
  have loop : ∀ f t i w6 a σi, rmn t (14 - s) = f → f ≤ 680 - i → run W s (14 - s) f t a = fin → (∀ j, s ≤ j → j < 14 → t j < 4 ∧ rd σi 47 j = nI (t j)) → accX (fun b => lfN A b s stock (14 - s)) s w6 σi a → rd σi 44 5 = nI (s + 6) → (∀ q c, q ≠ 47 → q ≠ 48 → ¬ (q = 44 ∧ (c = 4 ∨ c = 5 ∨ c = 6)) → rd σi q c = rd σ q c) → J Γ l (d + 2) mX2_search (KI KK) 34 [(0, .ref 44), (3, .int stock), (4, .int thr), (5, .int (nI s)), (6, .long w6), (8, .int (nI i))] [] σi := by
    intro f
    induction f with
    | zero =>
      intro t i w6 a σi hr
      have := rmn_pos (t := t) (14 - s)
      omega
    | succ f ih =>
      intro t i w6 a σi hr hi hrun ht hacc h5 hag
      -- the end of a round, over the accumulator that the way leaves
      have cont : ∀ σ' w7, (∀ j, s ≤ j → j < 14 → t j < 4 ∧ rd σ' 47 j = nI (t j)) → accX (fun b => lfN A b s stock (14 - s)) s w7 σ' (upA W t a) → rd σ' 44 5 = nI (s + 6) → (∀ q c, q ≠ 47 → q ≠ 48 → ¬ (q = 44 ∧ (c = 4 ∨ c = 5 ∨ c = 6)) → rd σ' q c = rd σ q c) → Meth Γ l (d + 1) mX2_stepOn [.ref 44, .int (nI s)] σ' (KI fun x3 σ2 => (x3 = 0 → KI KK (some (.int w7.toInt32)) σ2) ∧ (¬ x3 = 0 → ∀ x4 : Int32, x4 = nI i + 1 → J Γ l (d + 2) mX2_search (KI KK) 34 [(0, .ref 44), (3, .int stock), (4, .int thr), (5, .int (nI s)), (6, .long w7), (8, .int x4)] [] σ2)) := by
        intro σ' w7 ht' hacc' h5' hag'
        refine (S_stepOn (d := d) (by omega) ht').mono ?_
        rintro v σ2 ⟨x, rfl, ⟨hf, rfl, rfl⟩ | ⟨j, hf, rfl, ha, hb⟩⟩
        · refine ⟨_, rfl, fun _ => KI.mk ?_, fun q => absurd rfl q⟩
          rw [run_n hf] at hrun
          rw [← hK]
          refine ⟨?_, h5', hag'⟩
          rw [← hrun]
          rcases hz : upA W t a with _ | ⟨w, b⟩
          · exfalso
            rcases a with _ | ⟨w, b⟩
            · cases hz
            · unfold upA at hz
              dsimp only at hz
              split at hz <;> cases hz
          · rw [hz] at hacc'
            obtain ⟨c1, c2, c3, c4⟩ := hacc'
            exact ⟨w, b, rfl, by rw [c2], c1, c3, c4⟩
        · obtain ⟨g1, g2, g3, g4⟩ := fnd_some _ hf
          have rm := rais_rm (t := t) (i := j) (by omega) g3 (fun j' q1 q2 => by
            have := (ht j' (by omega) q2).1
            have := g4 j' q1 (by omega)
            omega) (14 - s) (by omega) (by omega)
          rw [run_s hf] at hrun
          refine ⟨_, rfl, fun q => absurd q (by decide), fun _ y hy => ?_⟩
          rw [nI_s] at hy
          subst hy
          refine ih (rais t j) (i + 1) w7 (upA W t a) σ2 (by omega) (by omega) hrun (fun j' q1 q2 => ⟨?_, hb j' q1 q2⟩) ?_ ((ha 44 5 (by omega)).trans h5') (fun q c r1 r2 r3 => (ha q c r1).trans (hag' q c r1 r2 r3))
          · show (if j ≤ j' then t j + 1 else t j') < 4
            have := (ht j' q1 q2).1
            split <;> omega
          · rcases hz : upA W t a with _ | ⟨w, b⟩
            · rw [hz] at hacc'
              exact (ha 44 4 (by omega)).trans hacc'
            · rw [hz] at hacc'
              obtain ⟨c1, c2, c3, c4⟩ := hacc'
              exact ⟨(ha 44 4 (by omega)).trans c1, c2, (ha 44 6 (by omega)).trans c3, fun j' q1 q2 => (ha 48 j' (by omega)).trans (c4 j' q1 q2)⟩
      have eA : ∀ j p, j < 14 → p < 4 → rd σi (j + 358) p = A j p := fun j p h1 h2 => (hag _ _ (by omega) (by omega) (by omega)).trans (hA j p h1 h2)
      have eP : ∀ p, p < 4 → rd σi 46 p = P p := fun p h2 => (hag _ _ (by omega) (by omega) (by omega)).trans (hP p h2)
      -- a better way
      have at83 : upA W t a = some (W t, t) → J Γ l (d + 2) mX2_search (KI KK) 83 [(0, .ref 44), (3, .int stock), (4, .int thr), (5, .int (nI s)), (8, .int (nI i)), (9, .int (lfN A t s stock (14 - s))), (10, .long (W t))] [] σi := by
        intro hu
        refine w_X2_search_83 _ _ _ _ _ _ fun σ1 e1 => cont σ1 (W t) ?_ ?_ ?_ ?_
        · intro j q1 q2
          refine ⟨(ht j q1 q2).1, ?_⟩
          rw [e1, rd_cpy, if_neg (by omega), rdn (by omega), rdn (by omega)]
          exact (ht j q1 q2).2
        · rw [hu]
          refine ⟨?_, rfl, ?_, fun j q1 q2 => ?_⟩
          · rw [e1, rd_cpy, if_neg (by omega), rdn (by omega), rdy]
          · rw [e1, rd_cpy, if_neg (by omega), rdy]
          · rw [e1, rd_cpy, if_pos ⟨rfl, q2⟩, rdn (by omega), rdn (by omega)]
            exact (ht j q1 q2).2
        · rw [e1, rd_cpy, if_neg (by omega), rdn (by omega), rdn (by omega)]
          exact h5
        · intro q c r1 r2 r3
          rw [e1, rd_cpy, if_neg (by omega), rdn (by omega), rdn (by omega)]
          exact hag q c r1 r2 r3
      refine w_X2_search_34 _ _ _ _ _ ⟨fun q => absurd ((nI_lei (a := 680) (by omega) (by omega)).mp q) (by omega), fun _ => ?_⟩
      refine (S_unsoldBy (d := d) (t := t) (by omega) stock eA ht).mono ?_
      rintro v σ' ⟨x, rfl, rfl, rfl⟩
      refine ⟨_, rfl, (S_coinsBy (d := d) (t := t) (by omega) stock eA eP ht).mono ?_⟩
      rintro v σ' ⟨x, rfl, rfl, rfl⟩
      refine ⟨_, rfl, ?_⟩
      dsimp only
      rw [← WW]
      rcases a with _ | ⟨w, b⟩
      · exact ⟨fun _ => at83 rfl, fun q => absurd hacc q⟩
      · obtain ⟨c1, rfl, c3, c4⟩ := id hacc
        have en : ¬ rd σi 44 4 = 0 := by
          rw [c1]
          decide
        refine ⟨fun q => absurd q en, fun _ => ⟨fun q => cont σi w6 ht ?_ h5 hag, fun q => at83 ?_⟩⟩
        · unfold upA
          dsimp only
          rw [if_pos q]
          exact hacc
        · unfold upA
          dsimp only
          rw [if_neg q]
  have mx : mxI 0 (nI (s + 6) - 6) = nI s := by
    rw [show nI (s + 6) - 6 = nI s from nI_subn (a := s + 6) (b := 6) (by omega)]
    unfold mxI
    by_cases c : 0 < s
    · exact if_pos ((nI_lti (a := 0) (by omega) (by omega)).mpr c)
    · have : s = 0 := by omega
      subst this
      rfl
  refine M_X2_search _ _ _ _ (w_X2_search_0 _ _ _ _ fun x hx => ?_)
  rw [mx] at hx
  subst hx
  refine (S_fill47 (d := d + 1) (nI p0)).mono ?_
  rintro v σ2 ⟨rfl, f1, f2⟩
  refine ⟨rfl, ?_⟩
  refine loop _ (fun _ => p0) 0 0 none σ2 rfl ?_ hfin (fun j _ q2 => ⟨hp, f1 j q2⟩) ?_ ?_ (fun q c r1 r2 r3 => ?_)
  · rw [rmn_c (v := p0) _ fun _ _ => rfl]
    exact nN_680 _ (by omega) _ hp
  · show rd σ2 44 4 = 0
    rw [f2 44 4 (by omega), rdn (by omega), rdy]
  · rw [f2 44 5 (by omega), rdy]
  · rw [f2 q c r1, rdn (by omega), rdn (by omega)]
end SS

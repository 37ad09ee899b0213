/-! CRATES: the reference's side -/
/-- what has been looked at: c ahead of the place where the search stands -/
def hdW (t : Nat → Nat) (lv u : Nat) (c : Nat → Nat) : Prop := (∃ k, k < lv ∧ (∀ j, j < k → c j = t j) ∧ c k < t k) ∨ ((∀ j, j < lv → c j = t j) ∧ c lv < u)
section HW
variable {t c : Nat → Nat} {lv u : Nat}
theorem hdW_succ : hdW t lv (u + 1) c ↔ hdW t lv u c ∨ ((∀ j, j < lv → c j = t j) ∧ c lv = u) := by
  unfold hdW
  constructor
  · rintro (h | ⟨h1, h2⟩)
    · exact Or.inl (Or.inl h)
    · rcases Nat.lt_or_ge (c lv) u with q | q
      · exact Or.inl (Or.inr ⟨h1, q⟩)
      · exact Or.inr ⟨h1, by omega⟩
  · rintro ((h | ⟨h1, h2⟩) | ⟨h1, h2⟩)
    · exact Or.inl h
    · exact Or.inr ⟨h1, by omega⟩
    · exact Or.inr ⟨h1, by omega⟩
theorem hdW_push : hdW (stC t lv u) (lv + 1) 0 c ↔ hdW t lv u c := by
  unfold hdW
  constructor
  · rintro (⟨k, hk, h1, h2⟩ | ⟨-, h2⟩)
    · rcases Nat.lt_or_ge k lv with q | q
      · refine Or.inl ⟨k, q, fun j hj => ?_, ?_⟩
        · rw [h1 j hj, stC_n (by omega)]
        · rw [stC_n (by omega)] at h2
          exact h2
      · have : k = lv := by omega
        subst this
        rw [stC_y] at h2
        refine Or.inr ⟨fun j hj => ?_, h2⟩
        rw [h1 j hj, stC_n (by omega)]
    · exact absurd h2 (Nat.not_lt_zero _)
  · rintro (⟨k, hk, h1, h2⟩ | ⟨h1, h2⟩)
    · refine Or.inl ⟨k, by omega, fun j hj => ?_, ?_⟩
      · rw [h1 j hj, stC_n (by omega)]
      · rw [stC_n (by omega)]
        exact h2
    · refine Or.inl ⟨lv, by omega, fun j hj => ?_, ?_⟩
      · rw [h1 j hj, stC_n (by omega)]
      · rw [stC_y]
        exact h2
theorem hdW_pop {z : Nat} (hc : c (lv + 1) ≤ z) : hdW t (lv + 1) (z + 1) c ↔ hdW t lv (t lv + 1) c := by
  unfold hdW
  constructor
  · rintro (⟨k, hk, h1, h2⟩ | ⟨h1, h2⟩)
    · rcases Nat.lt_or_ge k lv with q | q
      · exact Or.inl ⟨k, q, h1, h2⟩
      · have : k = lv := by omega
        subst this
        exact Or.inr ⟨h1, by omega⟩
    · exact Or.inr ⟨fun j hj => h1 j (by omega), by rw [h1 lv (by omega)]; omega⟩
  · rintro (⟨k, hk, h1, h2⟩ | ⟨h1, h2⟩)
    · exact Or.inl ⟨k, by omega, h1, h2⟩
    · rcases Nat.lt_or_ge (c lv) (t lv) with q | q
      · exact Or.inl ⟨lv, by omega, h1, q⟩
      · refine Or.inr ⟨fun j hj => ?_, by omega⟩
        rcases Nat.lt_or_ge j lv with r | r
        · exact h1 j r
        · rw [show j = lv by omega]
          omega
end HW
def invB (z n : Nat) (g sp : Nat → Nat) (ml : Nat → Nat → Nat) (t : Nat → Nat) (lv u : Nat) : Option (Nat → Nat) → Prop
  | none => ∀ c, vld z g sp c n → ¬ hdW t lv u c
  | some b => vld z g sp b n ∧ hdW t lv u b ∧ ∀ c, vld z g sp c n → hdW t lv u c → kyC z g ml b n ≤ kyC z g ml c n
def mvN (z : Nat) (c : Nat → Nat) : Nat → Nat := sU fun i => if c i = z then 0 else 1
theorem mv_lk {z : Nat} {c : Nat → Nat} : ∀ k, mvN z c k + lkC z c k = k
  | 0 => rfl
  | k + 1 => by
    have ih := mv_lk (z := z) (c := c) k
    show mvN z c k + (if c k = z then 0 else 1) + (lkC z c k + if c k = z then 1 else 0) = k + 1
    split <;> omega
section IB
variable {z n : Nat} {g sp : Nat → Nat} {ml : Nat → Nat → Nat} {t : Nat → Nat} {lv u : Nat} {acc : Option (Nat → Nat)}
theorem invB_skip (h : invB z n g sp ml t lv u acc) (hs : ∀ c, vld z g sp c n → (∀ j, j < lv → c j = t j) → c lv = u → ∃ b, acc = some b ∧ kyC z g ml b n ≤ kyC z g ml c n) : invB z n g sp ml t lv (u + 1) acc := by
  rcases acc with _ | b
  · intro c hc q
    rcases hdW_succ.mp q with q | ⟨q1, q2⟩
    · exact h c hc q
    · obtain ⟨b, e, -⟩ := hs c hc q1 q2
      cases e
  · refine ⟨h.1, hdW_succ.mpr (Or.inl h.2.1), fun c hc q => ?_⟩
    rcases hdW_succ.mp q with q | ⟨q1, q2⟩
    · exact h.2.2 c hc q
    · obtain ⟨b', e, hle⟩ := hs c hc q1 q2
      cases e
      exact hle
theorem invB_push (h : invB z n g sp ml t lv u acc) : invB z n g sp ml (stC t lv u) (lv + 1) 0 acc := by
  rcases acc with _ | b
  · exact fun c hc q => h c hc (hdW_push.mp q)
  · exact ⟨h.1, hdW_push.mpr h.2.1, fun c hc q => h.2.2 c hc (hdW_push.mp q)⟩
theorem invB_pop (hlv : lv + 1 < n) (h : invB z n g sp ml t (lv + 1) (z + 1) acc) : invB z n g sp ml t lv (t lv + 1) acc := by
  rcases acc with _ | b
  · exact fun c hc q => h c hc ((hdW_pop (vld_le hc _ hlv)).mpr q)
  · exact ⟨h.1, (hdW_pop (vld_le h.1 _ hlv)).mp h.2.1, fun c hc q => h.2.2 c hc ((hdW_pop (vld_le hc _ hlv)).mpr q)⟩
theorem ky_eq {c c' : Nat → Nat} : ∀ k, (∀ j, j < k → c j = c' j) → kyC z g ml c k = kyC z g ml c' k := fun k h => sU_congr k fun j hj => by rw [h j hj]
theorem vld_eq {c c' : Nat → Nat} {k : Nat} (h : ∀ j, j < k → c j = c' j) (hv : vld z g sp c k) : vld z g sp c' k := fun i hi => by
  have e : cC c (c i) (i + 1) = cC c' (c i) (i + 1) := cC_congr _ fun j hj => by rw [h j (by omega)]
  have := hv i hi
  rw [e, h i hi] at this
  exact this
theorem invB_rec (hlv : lv + 1 = n) (hv : vld z g sp (stC t lv u) n) (h : invB z n g sp ml t lv u acc) (hb : ∀ b, acc = some b → kyC z g ml (stC t lv u) n ≤ kyC z g ml b n) : invB z n g sp ml t lv (u + 1) (some (stC t lv u)) := by
  refine ⟨hv, hdW_succ.mpr (Or.inr ⟨fun j hj => stC_n (by omega), stC_y⟩), fun c hc q => ?_⟩
  rcases hdW_succ.mp q with q | ⟨q1, q2⟩
  · rcases acc with _ | b
    · exact absurd q (h c hc)
    · exact Nat.le_trans (hb b rfl) (h.2.2 c hc q)
  · rw [ky_eq (c := c) (c' := stC t lv u) n fun j hj => by
      by_cases e : j = lv
      · rw [e, stC_y, q2]
      · rw [stC_n e, q1 j (by omega)]]
    exact Nat.le_refl _
theorem pre_le {f : Nat → Nat} {a b : Nat} (h : a ≤ b) : sU f a ≤ sU f b := by
  have := sU_mono (f := f) (a := a) (b - a)
  rw [show a + (b - a) = b by omega] at this
  exact this
/-- a way that the reference passes over is no better -/
theorem cut_le {b c : Nat → Nat} (hn : n ≤ 6) (hz : z ≤ 12) (hml : ∀ s t, ml s t ≤ 198) (hb : vld z g sp b n) (hc : vld z g sp c n) (hlv : lv < n) (hhb : hdW t lv u b) (h1 : ∀ j, j < lv → c j = t j) (h2 : c lv = u) (hcut : mvN z c (lv + 1) + (n - lv - 1) < n - lkC z b n ∨ (mvN z c (lv + 1) + (n - lv - 1) = n - lkC z b n ∧ miC z g ml b n ≤ miC z g ml c (lv + 1))) : kyC z g ml b n ≤ kyC z g ml c n := by
  have m1 := mv_lk (z := z) (c := c) (lv + 1)
  have m2 : lkC z c (lv + 1) ≤ lkC z c n := pre_le (by omega)
  have m3 : miC z g ml c (lv + 1) ≤ miC z g ml c n := pre_le (by omega)
  have m4 := lk_le (z := z) (c := b) (n := n)
  have m5 := mi_lt (c := b) (z := z) (g := g) hn hml
  have m6 := dg_lt hn hz (vld_le hb)
  rw [ky_parts, ky_parts]
  have lex : dgC z b n < dgC z c n := by
    rcases hhb with ⟨k, hk, q1, q2⟩ | ⟨q1, q2⟩
    · exact dg_lex (k := k) hn hz (vld_le hb) (vld_le hc) (by omega) (fun j hj => by rw [q1 j hj, h1 j (by omega)]) (by rw [h1 k hk]; exact q2)
    · exact dg_lex (k := lv) hn hz (vld_le hb) (vld_le hc) hlv (fun j hj => by rw [q1 j hj, h1 j hj]) (by rw [h2]; exact q2)
  rcases hcut with q | ⟨q, q2⟩ <;> omega
end IB
section CM
variable {Γ : GG} {l : Launch} {d : Nat} {σ : St}
theorem S_mayCome {z n lv : Nat} {g sp c : Nat → Nat} (hn : n ≤ 6) (hz : z ≤ 12) (hlv : lv < n) (h2 : rd σ 59 2 = nI z) (hg : ∀ i, i < n → rd σ 106 i = nI (g i) ∧ g i < z) (hsp : ∀ s, s < z → rd σ 104 s = nI (sp s) ∧ sp s ≤ 3) (hc : ∀ i, i ≤ lv → rd σ 107 i = nI (c i) ∧ c i ≤ z) : Meth Γ l d mX12_mayCome [.ref 59, .int (nI lv)] σ (KI fun x σ' => σ' = σ ∧ ((x = 1 ∧ (c lv = z ∨ (c lv < z ∧ c lv ≠ g lv ∧ cC c (c lv) (lv + 1) ≤ sp (c lv)))) ∨ (x = 0 ∧ ¬ (c lv = z ∨ (c lv < z ∧ c lv ≠ g lv ∧ cC c (c lv) (lv + 1) ≤ sp (c lv)))))) := by
  obtain ⟨c1, c2⟩ := hc lv (Nat.le_refl _)
  obtain ⟨g1, g2⟩ := hg lv hlv
  generalize hK : (fun (x : Int32) (σ' : St) => σ' = σ ∧ ((x = 1 ∧ (c lv = z ∨ (c lv < z ∧ c lv ≠ g lv ∧ cC c (c lv) (lv + 1) ≤ sp (c lv)))) ∨ (x = 0 ∧ ¬ (c lv = z ∨ (c lv < z ∧ c lv ≠ g lv ∧ cC c (c lv) (lv + 1) ≤ sp (c lv)))))) = KK
  refine M_X12_mayCome _ (w_X12_mayCome_0 _ ?_)
  rw [cl (n := lv) (by omega), c1, h2, g1, nI_inj (a := c lv) (b := z) (by omega) (by omega), nI_inj (a := c lv) (b := g lv) (by omega) (by omega)]
  refine ⟨in_nI (by omega) (by omega), fun q => KI.mk ?_, fun q => ⟨in_nI (by omega) (by omega), fun q2 => KI.mk ?_, fun q2 => ?_⟩⟩
  · rw [← hK]
    exact ⟨rfl, Or.inl ⟨rfl, Or.inl q⟩⟩
  · rw [← hK]
    refine ⟨rfl, Or.inr ⟨rfl, ?_⟩⟩
    rintro (r | r)
    · exact q r
    · exact r.2.1 q2
  · obtain ⟨p1, p2⟩ := hsp (c lv) (by omega)
    have loop : ∀ f k, k + f = lv + 1 → J Γ l d mX12_mayCome (KI KK) 34 [(0, .ref 59), (1, .int (nI lv)), (2, .int (nI (c lv))), (3, .int (nI (cC c (c lv) k))), (4, .int (nI k))] [] σ := by
      intro f
      induction f with
      | zero =>
        intro k hk
        have : k = lv + 1 := by omega
        subst this
        have cb : cC c (c lv) (lv + 1) ≤ lv + 1 := by
          have : ∀ m, cC c (c lv) m ≤ m := fun m => by
            induction m with
            | zero => exact Nat.le_refl _
            | succ m ih =>
              show cC c (c lv) m + (if c m = c lv then 1 else 0) ≤ m + 1
              split <;> omega
          exact this _
        refine w_X12_mayCome_34 _ _ _ _ ⟨fun _ => ⟨in_nI (by omega) (by omega), fun r => KI.mk ?_, fun r => KI.mk ?_⟩, fun r => absurd ((nI_lti (by omega) (by omega)).mpr (by omega)) r⟩
        · rw [cl (n := c lv) (by omega), p1, nI_lti (by omega) (by omega)] at r
          rw [← hK]
          refine ⟨rfl, Or.inr ⟨rfl, ?_⟩⟩
          rintro (r2 | r2)
          · exact q r2
          · omega
        · rw [cl (n := c lv) (by omega), p1, nI_lti (by omega) (by omega)] at r
          rw [← hK]
          exact ⟨rfl, Or.inl ⟨rfl, Or.inr ⟨by omega, q2, by omega⟩⟩⟩
      | succ f ih =>
        intro k hk
        obtain ⟨k1, k2⟩ := hc k (by omega)
        have nx := ih (k + 1) (by omega)
        rw [show cC c (c lv) (k + 1) = cC c (c lv) k + if c k = c lv then 1 else 0 from rfl] at nx
        refine w_X12_mayCome_34 _ _ _ _ ⟨fun r => absurd ((nI_lti (by omega) (by omega)).mp r) (by omega), fun _ => ⟨in_nI (by omega) (by omega), fun r y hy => ?_, fun r y hy => ?_⟩⟩
        · rw [cl (n := k) (by omega), k1, nI_inj (by omega) (by omega)] at r
          rw [nI_s] at hy
          subst hy
          rw [if_pos r] at nx
          rw [nI_s]
          exact nx
        · rw [cl (n := k) (by omega), k1, nI_inj (by omega) (by omega)] at r
          rw [nI_s] at hy
          subst hy
          rw [if_neg r, Nat.add_zero] at nx
          rw [Int32.add_zero]
          exact nx
    exact loop (lv + 1) 0 (by omega)
theorem S_movedTo {z k : Nat} {c : Nat → Nat} (hz : z ≤ 12) (hk : k ≤ 6) (h2 : rd σ 59 2 = nI z) (hc : ∀ i, i < k → rd σ 107 i = nI (c i) ∧ c i ≤ z) : Meth Γ l d mX12_movedTo [.ref 59, .int (nI k)] σ (KI (Kv (nI (mvN z c k)) σ)) := by
  have loop : ∀ f i, i + f = k → J Γ l d mX12_movedTo (KI (Kv (nI (mvN z c k)) σ)) 4 [(0, .ref 59), (1, .int (nI k)), (2, .int (nI (mvN z c i))), (3, .int (nI i))] [] σ := by
    intro f
    induction f with
    | zero =>
      intro i hi
      have : i = k := by omega
      subst this
      exact w_X12_movedTo_4 _ _ _ ⟨fun _ => ⟨_, rfl, rfl, rfl⟩, fun q => absurd (Int32.le_refl _) q⟩
    | succ f ih =>
      intro i hi
      obtain ⟨c1, c2⟩ := hc i (by omega)
      have nx := ih (i + 1) (by omega)
      rw [show mvN z c (i + 1) = mvN z c i + if c i = z then 0 else 1 from rfl] at nx
      refine w_X12_movedTo_4 _ _ _ ⟨fun q => absurd ((nI_lei (by omega) (by omega)).mp q) (by omega), fun _ => ⟨in_nI (by omega) (by omega), ?_⟩⟩
      rw [cl (n := i) (by omega), c1, h2, nI_lei (by omega) (by omega)]
      refine ⟨fun q y hy => ?_, fun q y hy => ?_⟩
      · rw [nI_s] at hy
        subst hy
        rw [if_pos (by omega), Nat.add_zero] at nx
        rw [Int32.add_zero]
        exact nx
      · rw [nI_s] at hy
        subst hy
        rw [if_neg (by omega)] at nx
        rw [nI_s]
        exact nx
  exact M_X12_movedTo _ (w_X12_movedTo_0 _ (loop k 0 (by omega)))
theorem S_milesM {z n k : Nat} {g c p : Nat → Nat} (hz : z ≤ 12) (hn : n ≤ 6) (hk : k ≤ n) (h2 : rd σ 59 2 = nI z) (hg : ∀ i, i < n → rd σ 106 i = nI (g i) ∧ g i < z) (hp : ∀ s, p s < 10000) (hx : ∀ s, s < z → rd σ 60 s = nI (p s / 100) ∧ rd σ 61 s = nI (p s % 100)) (hc : ∀ i, i < k → rd σ 107 i = nI (c i) ∧ c i ≤ z) : Meth Γ l (d + 2) mX12_milesTo [.ref 59, .int (nI k)] σ (KI (Kv (nI (miC z g (mlP p) c k)) σ)) := by
  have loop : ∀ f i, i + f = k → J Γ l (d + 2) mX12_milesTo (KI (Kv (nI (miC z g (mlP p) c k)) σ)) 4 [(0, .ref 59), (1, .int (nI k)), (2, .int (nI (miC z g (mlP p) c i))), (3, .int (nI i))] [] σ := by
    intro f
    induction f with
    | zero =>
      intro i hi
      have : i = k := by omega
      subst this
      exact w_X12_milesTo_4 _ _ _ ⟨fun _ => ⟨_, rfl, rfl, rfl⟩, fun q => absurd (Int32.le_refl _) q⟩
    | succ f ih =>
      intro i hi
      obtain ⟨c1, c2⟩ := hc i (by omega)
      obtain ⟨g1, g2⟩ := hg i (by omega)
      have nx := ih (i + 1) (by omega)
      rw [show miC z g (mlP p) c (i + 1) = miC z g (mlP p) c i + if c i = z then 0 else mlP p (c i) (g i) from rfl] at nx
      refine w_X12_milesTo_4 _ _ _ ⟨fun q => absurd ((nI_lei (by omega) (by omega)).mp q) (by omega), fun _ => ⟨in_nI (by omega) (by omega), ?_⟩⟩
      rw [cl (n := i) (by omega), c1, h2, g1, nI_lei (by omega) (by omega)]
      refine ⟨fun q y hy => ?_, fun q => ?_⟩
      · rw [nI_s] at hy
        subst hy
        rw [if_pos (by omega), Nat.add_zero] at nx
        rw [Int32.add_zero]
        exact nx
      · obtain ⟨x1, x2⟩ := hx (c i) (by omega)
        obtain ⟨y1, y2⟩ := hx (g i) g2
        have a1 := hp (c i)
        have a2 := hp (g i)
        rw [cl (n := c i) (by omega), cl (n := g i) (by omega), x1, x2, y1, y2, offI_n (by omega) (by omega), offI_n (by omega) (by omega)]
        refine ⟨in_nI (by omega) (by omega), ⟨in_nI (by omega) (by omega), in_nI (by omega) (by omega)⟩, fun x hx' y hy => ?_⟩
        rw [nI_s] at hy
        rw [nI_addn, nI_addn] at hx'
        rw [if_neg (by omega)] at nx
        subst hx' hy
        exact nx
  exact M_X12_milesTo _ (w_X12_milesTo_0 _ (loop k 0 (by omega)))
end CM

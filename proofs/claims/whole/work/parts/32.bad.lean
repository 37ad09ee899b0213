/-! LOTS that are bad -/
def cmB (σ : St) (k l dy : Int32) (b : Nat) : Bool := decide (rd σ 72 b = k ∧ rd σ 73 b = l ∧ ¬ (0 : Int32) ≤ rd σ 82 b ∧ ¬ dy < rd σ 75 b)
def spB (σ : St) (k l dy : Int32) (i : Nat) : Bool := decide (rd σ 72 (rd σ 115 i).toNatClampNeg = k ∧ rd σ 73 (rd σ 115 i).toNatClampNeg = l ∧ ¬ dy < rd σ 116 i)
/-- spoiled, and came, by a day -/
def spV (σ : St) (k l dy : Int32) (n : Nat) : Int32 := sumB (spB σ k l dy) (rd σ 117) n
def cmV (σ : St) (k l dy : Int32) (n : Nat) : Int32 := sumB (cmB σ k l dy) (rd σ 76) n
def badV (σ : St) (k l dy : Int32) (nB nP : Nat) : Bool := decide (¬ spV σ k l dy nP < 3 ∧ ¬ 10 * spV σ k l dy nP ≤ cmV σ k l dy nB)
theorem what_iff {k l k' l' : Nat} (hk : k < 10) (hk' : k' < 10) (hl : l < 100) (hl' : l' < 100) : (nI k' * 100 + nI l' = nI k * 100 + nI l) ↔ (nI k' = nI k ∧ nI l' = nI l) := by
  rw [show (100 : Int32) = nI 100 from rfl, nI_muln, nI_muln, nI_addn, nI_addn, nI_inj (by omega) (by omega), nI_inj (by omega) (by omega), nI_inj (by omega) (by omega)]
  omega
section BD
variable {Γ : GG} {l : Launch} {d : Nat} {σ : St}
theorem S_isBadOn {nB nP : Nat} (hB : nB ≤ 200) (hP : nP ≤ 400) (eB : rd σ 59 16 = nI nB) (eP : rd σ 59 74 = nI nP) (hb : ∀ i, i < nP → ∃ b, b < nB ∧ rd σ 115 i = nI b) (k lt dy : Int32) : Meth Γ l d mX12_isBadOn [.ref 59, .int k, .int lt, .int dy] σ (KI (Kv (bI (badV σ k lt dy nB nP)) σ)) := by
  have loop2 : ∀ m i, i + m = nP → J Γ l d mX12_isBadOn (KI (Kv (bI (badV σ k lt dy nB nP)) σ)) 82 [(0, .ref 59), (1, .int k), (2, .int lt), (3, .int dy), (4, .int (cmV σ k lt dy nB)), (5, .int (sumB (spB σ k lt dy) (rd σ 117) i)), (6, .int (nI i))] [] σ := by
    intro m
    induction m with
    | zero =>
      intro i hi
      have : i = nP := by omega
      subst this
      refine w_X12_isBadOn_82 _ _ _ _ _ _ ⟨fun _ => ⟨fun q => ⟨_, rfl, rfl, ?_⟩, fun q => ⟨fun q2 => ⟨_, rfl, rfl, ?_⟩, fun q2 => ⟨_, rfl, rfl, ?_⟩⟩⟩, fun q => absurd (yle eP (Nat.le_refl _) (by omega)) q⟩
      · have hz : badV σ k lt dy nB i = false := by unfold badV spV; simp [q]
        rw [hz]
        rfl
      · have hz : badV σ k lt dy nB i = false := by unfold badV; simp only [decide_eq_false_iff_not]; exact fun c => c.2 q2
        rw [hz]
        rfl
      · have hz : badV σ k lt dy nB i = true := by unfold badV; simp only [decide_eq_true_eq]; exact ⟨q, q2⟩
        rw [hz]
        rfl
    | succ m ih =>
      intro i hi
      obtain ⟨b, hbn, eb⟩ := hb i (by omega)
      have cb : (nI b).toNatClampNeg = b := cl (by omega)
      have PW : spB σ k lt dy i = decide (rd σ 72 b = k ∧ rd σ 73 b = lt ∧ ¬ dy < rd σ 116 i) := by unfold spB; rw [eb, cb]
      have no : spB σ k lt dy i = false → ∀ y : Int32, y = nI i + 1 → J Γ l d mX12_isBadOn (KI (Kv (bI (badV σ k lt dy nB nP)) σ)) 82 [(0, .ref 59), (1, .int k), (2, .int lt), (3, .int dy), (4, .int (cmV σ k lt dy nB)), (5, .int (sumB (spB σ k lt dy) (rd σ 117) i)), (6, .int y)] [] σ := by
        intro q y hy
        rw [nI_s] at hy
        subst hy
        have := ih (i + 1) (by omega)
        rw [sumB_f q] at this
        exact this
      refine w_X12_isBadOn_82 _ _ _ _ _ _ ⟨fun q => absurd q (nle eP (by omega) (by omega)), fun _ => ⟨in_nI (by omega) (by omega), ?_⟩⟩
      rw [cl (by omega), eb, cb]
      refine ⟨in_nI (by omega) (by omega), fun q1 => ⟨fun q2 => ⟨fun q3 => no (by rw [PW]; simp [q3]), fun q3 z hz y hy => ?_⟩, fun q2 => no (by rw [PW]; simp [q2])⟩, fun q1 => no (by rw [PW]; simp [q1])⟩
      have t : spB σ k lt dy i = true := by rw [PW]; simp [q1, q2, Int32.not_lt.mp q3]
      rw [nI_s] at hy
      rw [← sumB_t t] at hz
      subst hy hz
      exact ih (i + 1) (by omega)
  have loop1 : ∀ m i, i + m = nB → J Γ l d mX12_isBadOn (KI (Kv (bI (badV σ k lt dy nB nP)) σ)) 9 [(0, .ref 59), (1, .int k), (2, .int lt), (3, .int dy), (4, .int (sumB (cmB σ k lt dy) (rd σ 76) i)), (5, .int 0), (6, .int (nI i))] [] σ := by
    intro m
    induction m with
    | zero =>
      intro i hi
      have : i = nB := by omega
      subst this
      exact w_X12_isBadOn_9 _ _ _ _ _ _ ⟨fun _ => loop2 nP 0 (by omega), fun q => absurd (yle eB (Nat.le_refl _) (by omega)) q⟩
    | succ m ih =>
      intro i hi
      have PW : cmB σ k lt dy i = decide (rd σ 72 i = k ∧ rd σ 73 i = lt ∧ ¬ (0 : Int32) ≤ rd σ 82 i ∧ ¬ dy < rd σ 75 i) := rfl
      have no : cmB σ k lt dy i = false → ∀ y : Int32, y = nI i + 1 → J Γ l d mX12_isBadOn (KI (Kv (bI (badV σ k lt dy nB nP)) σ)) 9 [(0, .ref 59), (1, .int k), (2, .int lt), (3, .int dy), (4, .int (sumB (cmB σ k lt dy) (rd σ 76) i)), (5, .int 0), (6, .int y)] [] σ := by
        intro q y hy
        rw [nI_s] at hy
        subst hy
        have := ih (i + 1) (by omega)
        rw [sumB_f q] at this
        exact this
      refine w_X12_isBadOn_9 _ _ _ _ _ _ ⟨fun q => absurd q (nle eB (by omega) (by omega)), fun _ => ⟨in_nI (by omega) (by omega), ?_⟩⟩
      rw [cl (by omega)]
      refine ⟨fun q1 => ⟨fun q2 => ⟨fun q3 => no (by rw [PW]; simp [q3]), fun q3 => ⟨fun q4 => no (by rw [PW]; simp [q4]), fun q4 z hz y hy => ?_⟩⟩, fun q2 => no (by rw [PW]; simp [q2])⟩, fun q1 => no (by rw [PW]; simp [q1])⟩
      have t : cmB σ k lt dy i = true := by rw [PW]; simp only [decide_eq_true_eq]; exact ⟨q1, q2, q3, q4⟩
      rw [nI_s] at hy
      rw [← sumB_t t] at hz
      subst hy hz
      exact ih (i + 1) (by omega)
  exact M_X12_isBadOn _ _ _ (w_X12_isBadOn_0 _ _ _ (loop1 nB 0 (by omega)))
theorem S_spoiledBy {P : Nat → Bool} {v : Nat → Int32} {nP : Nat} (hP : nP ≤ 400) (eP : rd σ 17 7 = nI nP) (w dy : Int32) (hp : ∀ i, i < nP → P i = decide (rd σ 20 i = w ∧ ¬ dy < rd σ 22 i) ∧ v i = rd σ 21 i) : Meth Γ l d mX0_spoiledBy [.ref 17, .int w, .int dy] σ (KI (Kv (sumB P v nP) σ)) := by
  have loop : ∀ m i, i + m = nP → J Γ l d mX0_spoiledBy (KI (Kv (sumB P v nP) σ)) 5 [(0, .ref 17), (1, .int w), (2, .int dy), (3, .int (sumB P v i)), (4, .int (nI i))] [] σ := by
    intro m
    induction m with
    | zero =>
      intro i hi
      have : i = nP := by omega
      subst this
      exact w_X0_spoiledBy_5 _ _ _ _ ⟨fun _ => ⟨_, rfl, rfl, rfl⟩, fun q => absurd (yle eP (Nat.le_refl _) (by omega)) q⟩
    | succ m ih =>
      intro i hi
      obtain ⟨PW, vw⟩ := hp i (by omega)
      have no : P i = false → ∀ y : Int32, y = nI i + 1 → J Γ l d mX0_spoiledBy (KI (Kv (sumB P v nP) σ)) 5 [(0, .ref 17), (1, .int w), (2, .int dy), (3, .int (sumB P v i)), (4, .int y)] [] σ := by
        intro q y hy
        rw [nI_s] at hy
        subst hy
        have := ih (i + 1) (by omega)
        rw [sumB_f q] at this
        exact this
      refine w_X0_spoiledBy_5 _ _ _ _ ⟨fun q => absurd q (nle eP (by omega) (by omega)), fun _ => ⟨in_nI (by omega) (by omega), ?_⟩⟩
      rw [cl (by omega)]
      refine ⟨fun q1 => ⟨fun q2 => no (by rw [PW]; simp [q2]), fun q2 z hz y hy => ?_⟩, fun q1 => no (by rw [PW]; simp [q1])⟩
      have t : P i = true := by rw [PW]; simp only [decide_eq_true_eq]; exact ⟨q1, q2⟩
      rw [nI_s] at hy
      rw [← vw, ← sumB_t t] at hz
      subst hy hz
      exact ih (i + 1) (by omega)
  exact M_X0_spoiledBy _ _ (w_X0_spoiledBy_0 _ _ (loop nP 0 (by omega)))
theorem S_cameBy {P : Nat → Bool} {v : Nat → Int32} {nB : Nat} (hB : nB ≤ 200) (eB : rd σ 17 1 = nI nB) (w dy : Int32) (hp : ∀ b, b < nB → P b = decide (¬ (0 : Int32) ≤ rd σ (b + 142) 11 ∧ ¬ dy < rd σ (b + 142) 13 ∧ rd σ (b + 142) 1 * 100 + rd σ (b + 142) 2 = w) ∧ v b = rd σ (b + 142) 4) : Meth Γ l d mX0_cameBy [.ref 17, .int w, .int dy] σ (KI (Kv (sumB P v nB) σ)) := by
  have loop : ∀ m i, i + m = nB → J Γ l d mX0_cameBy (KI (Kv (sumB P v nB) σ)) 5 [(0, .ref 17), (1, .int w), (2, .int dy), (3, .int (sumB P v i)), (4, .int (nI i))] [] σ := by
    intro m
    induction m with
    | zero =>
      intro i hi
      have : i = nB := by omega
      subst this
      exact w_X0_cameBy_5 _ _ _ _ ⟨fun _ => ⟨_, rfl, rfl, rfl⟩, fun q => absurd (yle eB (Nat.le_refl _) (by omega)) q⟩
    | succ m ih =>
      intro i hi
      obtain ⟨PW, vw⟩ := hp i (by omega)
      have no : P i = false → ∀ y : Int32, y = nI i + 1 → J Γ l d mX0_cameBy (KI (Kv (sumB P v nB) σ)) 5 [(0, .ref 17), (1, .int w), (2, .int dy), (3, .int (sumB P v i)), (4, .int y)] [] σ := by
        intro q y hy
        rw [nI_s] at hy
        subst hy
        have := ih (i + 1) (by omega)
        rw [sumB_f q] at this
        exact this
      refine w_X0_cameBy_5 _ _ _ _ ⟨fun q => absurd q (nle eB (by omega) (by omega)), fun _ => ⟨in_nI (by omega) (by omega), ?_⟩⟩
      rw [cl (by omega)]
      refine ⟨fun q1 => w_X0_cameBy_44 _ _ _ _ _ (by omega) (no (by rw [PW]; simp [q1])), fun q1 => ⟨fun q2 => w_X0_cameBy_44 _ _ _ _ _ (by omega) (no (by rw [PW]; simp [q2])), fun q2 => ⟨fun q3 z hz y hy => ?_, fun q3 => no (by rw [PW]; simp [q3])⟩⟩⟩
      have t : P i = true := by rw [PW]; simp only [decide_eq_true_eq]; exact ⟨q1, q2, q3⟩
      rw [nI_s] at hy
      rw [← vw, ← sumB_t t] at hz
      subst hy hz
      exact ih (i + 1) (by omega)
  exact M_X0_cameBy _ _ (w_X0_cameBy_0 _ _ (loop nB 0 (by omega)))
theorem S_isBadLot {h nS nK nB nP : Nat} (h0 : Inv0 h nS nK nB σ) (hP : nP ≤ 400) (eP : rd σ 17 7 = nI nP) (e74 : rd σ 59 74 = nI nP) {k lt : Nat} (hk : k < 10) (hl : lt < 100) (dy : Int32) : Meth Γ l (d + 1) mX0_isBadLot [.ref 17, .int (nI k * 100 + nI lt), .int dy] σ (KI (Kv (bI (badV σ (nI k) (nI lt) dy nB nP)) σ)) := by
  obtain ⟨i1, i2, i3, i4, i5, i6, i7, -⟩ := h0
  obtain ⟨zB, b1, b2, b3, b4⟩ := id i6
  obtain ⟨m, g1, g2, g3, g4, g5⟩ := i7
  have hm : m = nP := by
    rw [g2] at eP
    exact (nI_inj (by omega) (by omega)).mp eP
  subst hm
  refine M_X0_isBadLot _ _ (w_X0_isBadLot_0 _ _ ?_)
  have cB : ∀ b, b < nB → cmB σ (nI k) (nI lt) dy b = decide (¬ (0 : Int32) ≤ rd σ (b + 142) 11 ∧ ¬ dy < rd σ (b + 142) 13 ∧ rd σ (b + 142) 1 * 100 + rd σ (b + 142) 2 = nI k * 100 + nI lt) ∧ rd σ 76 b = rd σ (b + 142) 4 := by
    intro b hb
    obtain ⟨s, k', lt', md, sh, so, mo, gi, th, ⟨hs, hk', hl', -⟩, ⟨x0, x1, x2, x3, x4, -⟩, ⟨y0, y1, y2, y3, y4, -⟩, -, z2, z3⟩ := b3 b hb
    refine ⟨?_, by rw [y4, x4]⟩
    unfold cmB
    rw [x1, x2, y1, y2, z2]
    rcases z3 with ⟨w1, -, c, hc, w2, w3⟩ | ⟨f, hf, w1, -⟩
    · rw [w2, w3]
      simp only [decide_eq_decide]
      rw [what_iff hk hk' hl hl']
      constructor
      · rintro ⟨a, b, c, e⟩; exact ⟨c, e, a, b⟩
      · rintro ⟨c, e, a, b⟩; exact ⟨a, b, c, e⟩
    · have hn : (0 : Int32) ≤ rd σ 82 b := by
        rw [w1]
        exact (nI_lei (a := 0) (by omega) (by omega)).mpr (by omega)
      simp [hn]
  have sB : ∀ i, i < m → spB σ (nI k) (nI lt) dy i = decide (rd σ 20 i = nI k * 100 + nI lt ∧ ¬ dy < rd σ 22 i) ∧ rd σ 117 i = rd σ 21 i := by
    intro i hi
    obtain ⟨b, p, dd, hb, hp, hd, u1, u2, u3, u4, u5, u6⟩ := g4 i hi
    obtain ⟨s, k', lt', md, sh, so, mo, gi, th, ⟨hs, hk', hl', -⟩, -, ⟨y0, y1, y2, -⟩, -⟩ := b3 b hb
    refine ⟨?_, u4.trans u3.symm⟩
    unfold spB
    rw [u1, cl (by omega), u2, y1, y2, u5, u6]
    simp only [decide_eq_decide]
    rw [what_iff hk hk' hl hl']
    constructor
    · rintro ⟨a, b, c⟩; exact ⟨⟨a, b⟩, c⟩
    · rintro ⟨⟨a, b⟩, c⟩; exact ⟨a, b, c⟩
  refine (S_spoiledBy (P := spB σ (nI k) (nI lt) dy) (v := rd σ 117) hP g2 _ dy sB).mono ?_
  rintro v σ' ⟨x, rfl, rfl, rfl⟩
  refine ⟨_, rfl, fun q => ⟨_, rfl, rfl, ?_⟩, fun q => ?_⟩
  · have hz : badV σ (nI k) (nI lt) dy nB m = false := by unfold badV spV; simp [q]
    rw [hz]
    rfl
  · refine (S_cameBy (P := cmB σ (nI k) (nI lt) dy) (v := rd σ 76) zB b1 _ dy cB).mono ?_
    rintro v σ' ⟨x, rfl, rfl, rfl⟩
    refine ⟨_, rfl, fun q2 => ⟨_, rfl, rfl, ?_⟩, fun q2 => ⟨_, rfl, rfl, ?_⟩⟩
    · rw [Int32.mul_comm] at q2
      have hz : badV σ (nI k) (nI lt) dy nB m = false := by unfold badV; simp only [decide_eq_false_iff_not]; exact fun c => c.2 q2
      rw [hz]
      rfl
    · rw [Int32.mul_comm] at q2
      have hz : badV σ (nI k) (nI lt) dy nB m = true := by unfold badV; simp only [decide_eq_true_eq]; exact ⟨q, q2⟩
      rw [hz]
      rfl
theorem P_isBad (a b c : Int32) (hI : Inv σ) : Meth Γ l (d + 2) mX11_isBad [.ref 0, .int a, .int b, .int c] σ (PI Γ l (d + 3) mX12_isBad [.ref 59, .int a, .int b, .int c]) := by
  have hI2 := hI
  obtain ⟨h, nS, nK, nB, h0⟩ := hI2
  obtain ⟨i1, i2, i3, i4, i5, i6, i7, -⟩ := id h0
  obtain ⟨zK, k1, k2, k3⟩ := id i3
  obtain ⟨zB, b1, b2, b3, b4⟩ := id i6
  obtain ⟨nP, g1, g2, g3, g4, g5⟩ := id i7
  have bad : ¬ ((0 ≤ a ∧ a < nI nK) ∧ ((0 : Int32) ≤ b ∧ b < 100) ∧ ((0 : Int32) ≤ c ∧ c < 1500)) → bad1 σ Γ l (d + 3) mX12_isBad [.ref 59, .int a, .int b, .int c] (-1) := fun hn => M_X12_isBad _ _ _ (w_X12_isBad_0 _ _ _ ⟨fun ha => ⟨fun hc => absurd ⟨(cM (by omega) k2).mp ha.1, (cL 99 (by omega)).mp ha.2, (cL 1499 (by omega)).mp hc⟩ hn, fun _ => KI.mk ⟨rfl, hI⟩⟩, fun _ => KI.mk ⟨rfl, hI⟩⟩)
  refine M_X11_isBad _ _ _ (w_X11_isBad_0 _ _ _ ⟨fun ha => ⟨fun hb => ⟨fun hc => ?_, fun q => PI.mk (bad fun r => q r.2.2)⟩, fun q => PI.mk (bad fun r => q r.2.1)⟩, fun q => PI.mk (bad fun r => q ((cX k1).mpr r.1))⟩)
  have c1 := (cX k1).mp ha
  have oK := (cM (n := nK) (by omega) k2).mpr c1
  obtain ⟨k, hk, rfl⟩ := rng nK (by omega) c1
  obtain ⟨lt, hlt, rfl⟩ := rng 100 (by omega) hb
  refine (S_isBadLot (d := d) h0 g1 g2 g3 (by omega) hlt c).mono ?_
  rintro v σ' ⟨x, rfl, rfl, rfl⟩
  have go : bad1 σ Γ l (d + 3) mX12_isBad [.ref 59, .int (nI k), .int (nI lt), .int c] (bI (badV σ (nI k) (nI lt) c nB nP)) := by
    refine M_X12_isBad _ _ _ (w_X12_isBad_0 _ _ _ ⟨fun _ => ⟨fun _ => ?_, fun q => absurd ((cL 1499 (by omega)).mpr hc) q⟩, fun q => absurd ⟨oK, (cL 99 (by omega)).mpr hb⟩ q⟩)
    refine (S_isBadOn zB g1 b2 g3 (fun i hi => ?_) (nI k) (nI lt) c).mono ?_
    · obtain ⟨b', p, dy, u1, u2, u3, u4, -⟩ := g4 i hi
      exact ⟨b', u1, u4⟩
    · rintro v σ' ⟨x, rfl, rfl, rfl⟩
      refine ⟨_, rfl, fun q => KI.mk ⟨q.symm, hI⟩, fun q => KI.mk ⟨?_, hI⟩⟩
      cases hz : badV σ (nI k) (nI lt) c nB nP with
      | true => rfl
      | false => rw [hz] at q; exact absurd rfl q
  refine ⟨_, rfl, fun q => PI.mk ?_, fun q => PI.mk ?_⟩
  · rw [← q]
    exact go
  · have e1 : bI (badV σ (nI k) (nI lt) c nB nP) = 1 := by
      cases hz : badV σ (nI k) (nI lt) c nB nP with
      | true => rfl
      | false => rw [hz] at q; exact absurd rfl q
    rw [← e1]
    exact go
end BD

/-! ROWS made for the program that lays the walks -/
section JX
variable {Γ : GG} {l : Launch} {d : Nat} {M : MD} {Q : Option Value → St → Prop} {pc : Nat} {lv : List (Nat × Value)} {st : List Value} {σ : St}
theorem vp_lt {i : Int32} {n : Nat} (h : vp_in i n) : i.toNatClampNeg < n := Nat.not_le.mp fun q => h (Or.inr q)
theorem J_getI {index q ci Nf kf : Nat} {C : String} {T : u_T} {fk : List Nat} (hw : Cond.fieldLink M.1.cls index (T kf).1 (T kf).2.1 (T kf).2.2.1 ∈ gtbl) (hus : ∀ w ∈ u_ws C T Nf, w ∈ gtbl) (hc : vwCl[ci]? = some (C, T, Nf)) (hq : q < nC) (hs : sk q = .inl (ci, fk)) (hk : kf < Nf) (hf : fk[kf]? = some 0) (hdg : decode M.2.1 pc = .ok (.getfield index, 3)) (k : J Γ l d M Q (pc + 3) lv (.int (rd σ q kf) :: st) σ) : J Γ l d M Q pc lv (.ref q :: st) σ := J_getf hw hus hc hq hs hk hf hdg k
theorem J_getR {index q ci Nf kf : Nat} (r : Nat) {C : String} {T : u_T} {fk : List Nat} (hw : Cond.fieldLink M.1.cls index (T kf).1 (T kf).2.1 (T kf).2.2.1 ∈ gtbl) (hus : ∀ w ∈ u_ws C T Nf, w ∈ gtbl) (hc : vwCl[ci]? = some (C, T, Nf)) (hq : q < nC) (hs : sk q = .inl (ci, fk)) (hk : kf < Nf) (hf : fk[kf]? = some (r + 2)) (hdg : decode M.2.1 pc = .ok (.getfield index, 3)) (k : J Γ l d M Q (pc + 3) lv (.ref r :: st) σ) : J Γ l d M Q pc lv (.ref q :: st) σ := J_getf hw hus hc hq hs hk hf hdg k
theorem J_getD {index q ci Nf kf : Nat} (r : Nat) {C : String} {T : u_T} {fk : List Nat} (hw : Cond.fieldLink M.1.cls index (T kf).1 (T kf).2.1 (T kf).2.2.1 ∈ gtbl) (hus : ∀ w ∈ u_ws C T Nf, w ∈ gtbl) (hc : vwCl[ci]? = some (C, T, Nf)) (hq : q < nC) (hs : sk q = .inl (ci, fk)) (hk : kf < Nf) (hf : fk[kf]? = some 1) (hr : (rd σ q kf).toNatClampNeg = r) (hdg : decode M.2.1 pc = .ok (.getfield index, 3)) (k : J Γ l d M Q (pc + 3) lv (.ref r :: st) σ) : J Γ l d M Q pc lv (.ref q :: st) σ := by
  subst hr
  exact J_getf hw hus hc hq hs hk hf hdg k
theorem J_ald {q n r : Nat} {i : Int32} (j : Nat) (hj : i.toNatClampNeg = j) (hq : q < nC) (hs : sk q = .inr (0, n, r)) (hin : vp_in i n) (hdg : decode M.2.1 pc = .ok (.iaload, 1)) (k : J Γ l d M Q (pc + 1) lv (.int (rd σ q j) :: st) σ) : J Γ l d M Q pc lv (.int i :: .ref q :: st) σ := by
  subst hj
  exact J_iald hq hs hin hdg k
theorem J_ast {q n r : Nat} {i x : Int32} (j : Nat) (hj : i.toNatClampNeg = j) (hq : q < nC) (hs : sk q = .inr (0, n, r)) (hin : vp_in i n) (hdg : decode M.2.1 pc = .ok (.iastore, 1)) (k : J Γ l d M Q (pc + 1) lv st (wr σ q j x)) : J Γ l d M Q pc lv (.int x :: .int i :: .ref q :: st) σ := by
  subst hj
  exact J_iast hq hs hin hdg k
theorem J_aald2 {q n r : Nat} {i : Int32} (j : Nat) (hj : i.toNatClampNeg = j) (hq : q < nC) (hs : sk q = .inr (4, n, r)) (hin : vp_in i n) (hdg : decode M.2.1 pc = .ok (.aaload, 1)) (k : J Γ l d M Q (pc + 1) lv (.ref (j + r) :: st) σ) : J Γ l d M Q pc lv (.int i :: .ref q :: st) σ := by
  subst hj
  exact J_aald hq hs hin hdg k
/-- typed ends of calls -/
def KI (K : Int32 → St → Prop) : Option Value → St → Prop := fun v σ => ∃ x : Int32, v = some (.int x) ∧ K x σ
def KL (K : Int64 → St → Prop) : Option Value → St → Prop := fun v σ => ∃ x : Int64, v = some (.long x) ∧ K x σ
def KV (K : St → Prop) : Option Value → St → Prop := fun v σ => v = none ∧ K σ
theorem KI.to {rest : List Value} {σ : St} {M2 : MD} {As : List Value} {K : Int32 → St → Prop} (h : Meth Γ l d M2 As σ (KI K)) (hk : ∀ x σ', K x σ' → J Γ l (d + 1) M Q pc lv (.int x :: rest) σ') : Meth Γ l d M2 As σ (fun v σ' => J Γ l (d + 1) M Q pc lv (v.toList ++ rest) σ') :=
  h.mono fun v σ' ⟨x, e, hx⟩ => by subst e; exact hk x σ' hx
theorem KL.to {rest : List Value} {σ : St} {M2 : MD} {As : List Value} {K : Int64 → St → Prop} (h : Meth Γ l d M2 As σ (KL K)) (hk : ∀ x σ', K x σ' → J Γ l (d + 1) M Q pc lv (.long x :: rest) σ') : Meth Γ l d M2 As σ (fun v σ' => J Γ l (d + 1) M Q pc lv (v.toList ++ rest) σ') :=
  h.mono fun v σ' ⟨x, e, hx⟩ => by subst e; exact hk x σ' hx
theorem KV.to {rest : List Value} {σ : St} {M2 : MD} {As : List Value} {K : St → Prop} (h : Meth Γ l d M2 As σ (KV K)) (hk : ∀ σ', K σ' → J Γ l (d + 1) M Q pc lv rest σ') : Meth Γ l d M2 As σ (fun v σ' => J Γ l (d + 1) M Q pc lv (v.toList ++ rest) σ') :=
  h.mono fun v σ' ⟨e, hx⟩ => by subst e; exact hk σ' hx
end JX
section JX2
variable {Γ : GG} {l : Launch} {d : Nat} {M : MD} {Q : Option Value → St → Prop} {pc : Nat} {lv : List (Nat × Value)} {st : List Value} {σ : St}
theorem J_nameI {x : Int32} (k : ∀ y, y = x → J Γ l d M Q pc lv (.int y :: st) σ) : J Γ l d M Q pc lv (.int x :: st) σ := k x rfl
theorem J_nameL {x : Int64} (k : ∀ y, y = x → J Γ l d M Q pc lv (.long y :: st) σ) : J Γ l d M Q pc lv (.long x :: st) σ := k x rfl
theorem J_eqI {x y : Int32} (h : x = y) (k : J Γ l d M Q pc lv (.int y :: st) σ) : J Γ l d M Q pc lv (.int x :: st) σ := h ▸ k
theorem J_eqL {x y : Int64} (h : x = y) (k : J Γ l d M Q pc lv (.long y :: st) σ) : J Γ l d M Q pc lv (.long x :: st) σ := h ▸ k
theorem J_bald2 {q n r : Nat} {i : Int32} (j : Nat) (hj : i.toNatClampNeg = j) (hq : q < nC) (hs : sk q = .inr (1, n, r)) (hin : vp_in i n) (hdg : decode M.2.1 pc = .ok (.baload, 1)) (k : J Γ l d M Q (pc + 1) lv (.int (rd σ q j) :: st) σ) : J Γ l d M Q pc lv (.int i :: .ref q :: st) σ := by
  subst hj
  exact J_bald hq hs hin hdg k
theorem J_zald2 {q n r : Nat} {i : Int32} (j : Nat) (hj : i.toNatClampNeg = j) (hq : q < nC) (hs : sk q = .inr (2, n, r)) (hin : vp_in i n) (hdg : decode M.2.1 pc = .ok (.baload, 1)) (k : J Γ l d M Q (pc + 1) lv (.int (rd σ q j) :: st) σ) : J Γ l d M Q pc lv (.int i :: .ref q :: st) σ := by
  subst hj
  exact J_zald hq hs hin hdg k
theorem J_lald2 {q n r : Nat} {i : Int32} (j : Nat) (hj : i.toNatClampNeg = j) (hq : q < nC) (hs : sk q = .inr (3, n, r)) (hin : vp_in i n) (hdg : decode M.2.1 pc = .ok (.laload, 1)) (k : J Γ l d M Q (pc + 1) lv (.long (rl σ q j) :: st) σ) : J Γ l d M Q pc lv (.int i :: .ref q :: st) σ := by
  subst hj
  exact J_lald hq hs hin hdg k
theorem J_bast2 {q n r : Nat} {i x : Int32} (j : Nat) (z : Int32) (hj : i.toNatClampNeg = j) (hz : vp_nar .byte x = z) (hq : q < nC) (hs : sk q = .inr (1, n, r)) (hin : vp_in i n) (hdg : decode M.2.1 pc = .ok (.bastore, 1)) (k : J Γ l d M Q (pc + 1) lv st (wr σ q j z)) : J Γ l d M Q pc lv (.int x :: .int i :: .ref q :: st) σ := by
  subst hj
  subst hz
  exact J_bast hq hs hin hdg k
theorem J_zast2 {q n r : Nat} {i x : Int32} (j : Nat) (z : Int32) (hj : i.toNatClampNeg = j) (hz : vp_nar .boolean x = z) (hq : q < nC) (hs : sk q = .inr (2, n, r)) (hin : vp_in i n) (hdg : decode M.2.1 pc = .ok (.bastore, 1)) (k : J Γ l d M Q (pc + 1) lv st (wr σ q j z)) : J Γ l d M Q pc lv (.int x :: .int i :: .ref q :: st) σ := by
  subst hj
  subst hz
  exact J_zast hq hs hin hdg k
theorem J_last2 {q n r : Nat} {i : Int32} {x : Int64} (j : Nat) (hj : i.toNatClampNeg = j) (hq : q < nC) (hs : sk q = .inr (3, n, r)) (hin : vp_in i n) (hdg : decode M.2.1 pc = .ok (.lastore, 1)) (k : J Γ l d M Q (pc + 1) lv st (wl σ q j x)) : J Γ l d M Q pc lv (.long x :: .int i :: .ref q :: st) σ := by
  subst hj
  exact J_last hq hs hin hdg k
end JX2

/-! ROWS made for the program that lays the walks -/
section JX
variable {Γ : GG} {l : Launch} {d : Nat} {M : MD} {Q : Option Value → St → Prop} {pc : Nat} {lv : List (Nat × Value)} {st : List Value} {σ : St}
theorem vp_lt {i : Int32} {n : Nat} (h : vp_in i n) : i.toNatClampNeg < n := Nat.not_le.mp fun q => h (Or.inr q)
theorem J_getI {index q ci Nf kf : Nat} {C : String} {T : u_T} {fk : List Nat} (hw : Cond.fieldLink M.1.cls index (T kf).1 (T kf).2.1 (T kf).2.2.1 ∈ gtbl) (hus : ∀ w ∈ u_ws C T Nf, w ∈ gtbl) (hc : vwCl[ci]? = some (C, T, Nf)) (hq : q < nC) (hs : sk q = .inl (ci, fk)) (hk : kf < Nf) (hf : fk[kf]? = some 0) (hdg : decode M.2.1 pc = .ok (.getfield index, 3)) (k : J Γ l d M Q (pc + 3) lv (.int (rd σ q kf) :: st) σ) : J Γ l d M Q pc lv (.ref q :: st) σ := J_getf hw hus hc hq hs hk hf hdg k
theorem J_getR {index q ci Nf kf : Nat} (r : Nat) {C : String} {T : u_T} {fk : List Nat} (hw : Cond.fieldLink M.1.cls index (T kf).1 (T kf).2.1 (T kf).2.2.1 ∈ gtbl) (hus : ∀ w ∈ u_ws C T Nf, w ∈ gtbl) (hc : vwCl[ci]? = some (C, T, Nf)) (hq : q < nC) (hs : sk q = .inl (ci, fk)) (hk : kf < Nf) (hf : fk[kf]? = some (r + 2)) (hdg : decode M.2.1 pc = .ok (.getfield index, 3)) (k : J Γ l d M Q (pc + 3) lv (.ref r :: st) σ) : J Γ l d M Q pc lv (.ref q :: st) σ := J_getf hw hus hc hq hs hk hf hdg k
theorem J_getD {index q ci Nf kf : Nat} (r : Nat) {C : String} {T : u_T} {fk : List Nat} (hw : Cond.fieldLink M.1.cls index (T kf).1 (T kf).2.1 (T kf).2.2.1 ∈ gtbl) (hus : ∀ w ∈ u_ws C T Nf, w ∈ gtbl) (hc : vwCl[ci]? = some (C, T, Nf)) (hq : q < nC) (hs : sk q = .inl (ci, fk)) (hk : kf < Nf) (hf : fk[kf]? = some 1) (hr : (rd σ q kf).toNatClampNeg = r) (hdg : decode M.2.1 pc = .ok (.getfield index, 3)) (k : J Γ l d M Q (pc + 3) lv (.ref r :: st) σ) : J Γ l d M Q pc lv (.ref q :: st) σ := by
  subst hr
  exact J_getf hw hus hc hq hs hk hf hdg k
theorem J_ald {q n r : Nat} {i : Int32} (j : Nat) (hj : i.toNatClampNeg = j) (hq : q < nC) (hs : sk q = .inr (0, n, r)) (hin : vp_in i n) (hdg : decode M.2.1 pc = .ok (.iaload, 1)) (k : J Γ l d M Q (pc + 1) lv (.int (rd σ q j) :: st) σ) : J Γ l d M Q pc lv (.int i :: .ref q :: st) σ := by
  subst hj
  exact J_iald hq hs hin hdg k
theorem J_ast {q n r : Nat} {i x : Int32} (j : Nat) (hj : i.toNatClampNeg = j) (hq : q < nC) (hs : sk q = .inr (0, n, r)) (hin : vp_in i n) (hdg : decode M.2.1 pc = .ok (.iastore, 1)) (k : J Γ l d M Q (pc + 1) lv st (wr σ q j x)) : J Γ l d M Q pc lv (.int x :: .int i :: .ref q :: st) σ := by
  subst hj
  exact J_iast hq hs hin hdg k
theorem J_aald2 {q n r : Nat} {i : Int32} (j : Nat) (hj : i.toNatClampNeg = j) (hq : q < nC) (hs : sk q = .inr (4, n, r)) (hin : vp_in i n) (hdg : decode M.2.1 pc = .ok (.aaload, 1)) (k : J Γ l d M Q (pc + 1) lv (.ref (j + r) :: st) σ) : J Γ l d M Q pc lv (.int i :: .ref q :: st) σ := by
  subst hj
  exact J_aald hq hs hin hdg k
/-- typed ends of calls -/
def KI (K : Int32 → St → Prop) : Option Value → St → Prop := fun v σ => ∃ x : Int32, v = some (.int x) ∧ K x σ
def KL (K : Int64 → St → Prop) : Option Value → St → Prop := fun v σ => ∃ x : Int64, v = some (.long x) ∧ K x σ
def KV (K : St → Prop) : Option Value → St → Prop := fun v σ => v = none ∧ K σ
theorem KI.to {rest : List Value} {σ : St} {M2 : MD} {As : List Value} {K : Int32 → St → Prop} (h : Meth Γ l d M2 As σ (KI K)) (hk : ∀ x σ', K x σ' → J Γ l (d + 1) M Q pc lv (.int x :: rest) σ') : Meth Γ l d M2 As σ (fun v σ' => J Γ l (d + 1) M Q pc lv (v.toList ++ rest) σ') :=
  h.mono fun v σ' ⟨x, e, hx⟩ => by subst e; exact hk x σ' hx
theorem KL.to {rest : List Value} {σ : St} {M2 : MD} {As : List Value} {K : Int64 → St → Prop} (h : Meth Γ l d M2 As σ (KL K)) (hk : ∀ x σ', K x σ' → J Γ l (d + 1) M Q pc lv (.long x :: rest) σ') : Meth Γ l d M2 As σ (fun v σ' => J Γ l (d + 1) M Q pc lv (v.toList ++ rest) σ') :=
  h.mono fun v σ' ⟨x, e, hx⟩ => by subst e; exact hk x σ' hx
theorem KV.to {rest : List Value} {σ : St} {M2 : MD} {As : List Value} {K : St → Prop} (h : Meth Γ l d M2 As σ (KV K)) (hk : ∀ σ', K σ' → J Γ l (d + 1) M Q pc lv rest σ') : Meth Γ l d M2 As σ (fun v σ' => J Γ l (d + 1) M Q pc lv (v.toList ++ rest) σ') :=
  h.mono fun v σ' ⟨e, hx⟩ => by subst e; exact hk σ' hx
end JX
section JX2
variable {Γ : GG} {l : Launch} {d : Nat} {M : MD} {Q : Option Value → St → Prop} {pc : Nat} {lv : List (Nat × Value)} {st : List Value} {σ : St}
theorem J_sig {σ2 : St} (h : σ2 = σ) (k : J Γ l d M Q pc lv st σ2) : J Γ l d M Q pc lv st σ := h ▸ k
theorem J_nameI {x : Int32} (k : ∀ y, y = x → J Γ l d M Q pc lv (.int y :: st) σ) : J Γ l d M Q pc lv (.int x :: st) σ := k x rfl
theorem J_nameL {x : Int64} (k : ∀ y, y = x → J Γ l d M Q pc lv (.long y :: st) σ) : J Γ l d M Q pc lv (.long x :: st) σ := k x rfl
theorem J_eqI {x y : Int32} (h : x = y) (k : J Γ l d M Q pc lv (.int y :: st) σ) : J Γ l d M Q pc lv (.int x :: st) σ := h ▸ k
theorem J_eqL {x y : Int64} (h : x = y) (k : J Γ l d M Q pc lv (.long y :: st) σ) : J Γ l d M Q pc lv (.long x :: st) σ := h ▸ k
theorem J_bald2 {q n r : Nat} {i : Int32} (j : Nat) (hj : i.toNatClampNeg = j) (hq : q < nC) (hs : sk q = .inr (1, n, r)) (hin : vp_in i n) (hdg : decode M.2.1 pc = .ok (.baload, 1)) (k : J Γ l d M Q (pc + 1) lv (.int (rd σ q j) :: st) σ) : J Γ l d M Q pc lv (.int i :: .ref q :: st) σ := by
  subst hj
  exact J_bald hq hs hin hdg k
theorem J_zald2 {q n r : Nat} {i : Int32} (j : Nat) (hj : i.toNatClampNeg = j) (hq : q < nC) (hs : sk q = .inr (2, n, r)) (hin : vp_in i n) (hdg : decode M.2.1 pc = .ok (.baload, 1)) (k : J Γ l d M Q (pc + 1) lv (.int (rd σ q j) :: st) σ) : J Γ l d M Q pc lv (.int i :: .ref q :: st) σ := by
  subst hj
  exact J_zald hq hs hin hdg k
theorem J_lald2 {q n r : Nat} {i : Int32} (j : Nat) (hj : i.toNatClampNeg = j) (hq : q < nC) (hs : sk q = .inr (3, n, r)) (hin : vp_in i n) (hdg : decode M.2.1 pc = .ok (.laload, 1)) (k : J Γ l d M Q (pc + 1) lv (.long (rl σ q j) :: st) σ) : J Γ l d M Q pc lv (.int i :: .ref q :: st) σ := by
  subst hj
  exact J_lald hq hs hin hdg k
theorem J_bast2 {q n r : Nat} {i x : Int32} (j : Nat) (z : Int32) (hj : i.toNatClampNeg = j) (hz : vp_nar .byte x = z) (hq : q < nC) (hs : sk q = .inr (1, n, r)) (hin : vp_in i n) (hdg : decode M.2.1 pc = .ok (.bastore, 1)) (k : J Γ l d M Q (pc + 1) lv st (wr σ q j z)) : J Γ l d M Q pc lv (.int x :: .int i :: .ref q :: st) σ := by
  subst hj
  subst hz
  exact J_bast hq hs hin hdg k
theorem J_zast2 {q n r : Nat} {i x : Int32} (j : Nat) (z : Int32) (hj : i.toNatClampNeg = j) (hz : vp_nar .boolean x = z) (hq : q < nC) (hs : sk q = .inr (2, n, r)) (hin : vp_in i n) (hdg : decode M.2.1 pc = .ok (.bastore, 1)) (k : J Γ l d M Q (pc + 1) lv st (wr σ q j z)) : J Γ l d M Q pc lv (.int x :: .int i :: .ref q :: st) σ := by
  subst hj
  subst hz
  exact J_zast hq hs hin hdg k
theorem J_last2 {q n r : Nat} {i : Int32} {x : Int64} (j : Nat) (hj : i.toNatClampNeg = j) (hq : q < nC) (hs : sk q = .inr (3, n, r)) (hin : vp_in i n) (hdg : decode M.2.1 pc = .ok (.lastore, 1)) (k : J Γ l d M Q (pc + 1) lv st (wl σ q j x)) : J Γ l d M Q pc lv (.long x :: .int i :: .ref q :: st) σ := by
  subst hj
  exact J_last hq hs hin hdg k
end JX2
/-! Math, System.arraycopy -/
def mxI (a b : Int32) : Int32 := if a < b then b else a
def mnI (a b : Int32) : Int32 := if b < a then b else a
def abI (a : Int32) : Int32 := if 0 ≤ a then a else 0 - a
def mnL (a b : Int64) : Int64 := if b < a then b else a
def cpy (σ : St) (q0 q1 n : Nat) : St := (fun a b => if a = q1 ∧ b < n then σ.1 q0 b else σ.1 a b, σ.2)
theorem rd_cpy (σ : St) (q0 q1 n a b : Nat) : rd (cpy σ q0 q1 n) a b = if a = q1 ∧ b < n then rd σ q0 b else rd σ a b := rfl
theorem klX2_56 : Cond.methodLink RX2 56 arraycopyName ∈ gtbl := gin 792 (by decide +kernel) rfl
theorem wMaxS : Cond.static Lib.Math.max.name ∈ gtbl := calJ9_max_7cf53.2
theorem wMinS : Cond.static Lib.Math.min.name ∈ gtbl := calJ9_min_7cf53.2
theorem wAbsS : Cond.static Lib.Math.abs.name ∈ gtbl := calJ9_abs_0f7a4.2
theorem wMinLS : Cond.static Lib.MathLoose.min_long.x ∈ gtbl := calJ9_min_f86c9.2
theorem wMaxC : Cond.code Lib.Math.max.name Lib.Math.max.code 2 (some .int) ∈ gtbl := calJ9_max_7cf53.1.1
theorem wMinC : Cond.code Lib.Math.min.name Lib.Math.min.code 2 (some .int) ∈ gtbl := calJ9_min_7cf53.1.1
theorem wAbsC : Cond.code Lib.Math.abs.name Lib.Math.abs.code 1 (some .int) ∈ gtbl := calJ9_abs_0f7a4.1.1
theorem wMinLC : Cond.code Lib.MathLoose.min_long.x Lib.MathLoose.min_long.code 4 (some .long) ∈ gtbl := calJ9_min_f86c9.1.1
theorem wMathI : Cond.initialized "java/lang/Math" ∈ gtbl := calJ9_max_7cf53.1.2.1
theorem wCopyN : Cond.native arraycopyName ∈ gtbl := gin 794 (by decide +kernel) rfl
theorem wCopyS : Cond.static arraycopyName ∈ gtbl := gin 793 (by decide +kernel) rfl
theorem wSysI : Cond.initialized "java/lang/System" ∈ gtbl := gin 90 (by decide +kernel) rfl
theorem ce_congr {Γ : GG} {σ σ' : St} {a : Nat} (h1 : σ'.1 a = σ.1 a) (h2 : σ'.2 a = σ.2 a) : ce Γ σ' a = ce Γ σ a := by
  have h3 : ∀ fk, fvs Γ.1 σ' a fk = fvs Γ.1 σ a fk := fun fk => by
    unfold fvs
    congr 1
    funext j f
    match f with
    | 0 => simp [fv, rd, h1]
    | 1 => simp [fv, rd, h1]
    | r + 2 => rfl
  unfold ce
  split <;> simp only [h1, h2, h3]
theorem ws_cpy {Γ : GG} {σ : St} {q0 q1 n1 r1 k : Nat} (hq : q1 < nC) (h : sk q1 = .inr (0, n1, r1)) : (wsG Γ σ).set q1 (Γ.1 q1, .inl (Γ.2.1 0, n1, .inl (va_cpy (σ.1 q0) (σ.1 q1) 0 0 k))) = wsG Γ (cpy σ q0 q1 k) := by
  refine ws_set hq ?_ (fun a ha => ce_congr ?_ rfl)
  · rw [ce_int h (by decide)]
    congr 3
    congr 1
    funext j
    simp [cpy, va_cpy]
  · funext b
    simp [cpy, ha]
section JX3
variable {Γ : GG} {l : Launch} {d : Nat} {M : MD} {Q : Option Value → St → Prop} {pc : Nat} {lv : List (Nat × Value)} {st : List Value} {σ : St}
theorem J_mmax {index : Nat} {x y : Int32} (hw : Cond.methodLink M.1.cls index Lib.Math.max.name ∈ gtbl) (hcat : (st.map fun v => v.category).sum ≤ 8) (hdg : decode M.2.1 pc = .ok (.invokestatic index, 3)) (k : J Γ l (d + 1) M Q (pc + 3) lv (.int (mxI x y) :: st) σ) : J Γ l (d + 1) M Q pc lv (.int y :: .int x :: st) σ := by
  intro p e s m args below meth c B H locs LS hP hS hL
  obtain ⟨hx, hb, hr, hml, hts, hown, hlocks, hK, hN, hinj⟩ := id B
  exact va_mmax hx hb (hml.trans hL.1.symm) hown (hts _ hw) (hts _ wMaxS) (hts _ wMathI) (hts _ wMaxC) (Nat.le_add_left _ _) (by rw [cat_av]; show _ ≤ 64 * (d + 1); omega) (Nat.zero_le _) (Nat.zero_le _) hdg (k p e s m args below meth c B H locs LS hP hS hL)
theorem J_mmin {index : Nat} {x y : Int32} (hw : Cond.methodLink M.1.cls index Lib.Math.min.name ∈ gtbl) (hcat : (st.map fun v => v.category).sum ≤ 8) (hdg : decode M.2.1 pc = .ok (.invokestatic index, 3)) (k : J Γ l (d + 1) M Q (pc + 3) lv (.int (mnI x y) :: st) σ) : J Γ l (d + 1) M Q pc lv (.int y :: .int x :: st) σ := by
  intro p e s m args below meth c B H locs LS hP hS hL
  obtain ⟨hx, hb, hr, hml, hts, hown, hlocks, hK, hN, hinj⟩ := id B
  exact va_mmin hx hb (hml.trans hL.1.symm) hown (hts _ hw) (hts _ wMinS) (hts _ wMathI) (hts _ wMinC) (Nat.le_add_left _ _) (by rw [cat_av]; show _ ≤ 64 * (d + 1); omega) (Nat.zero_le _) (Nat.zero_le _) hdg (k p e s m args below meth c B H locs LS hP hS hL)
theorem J_mabs {index : Nat} {x : Int32} (hw : Cond.methodLink M.1.cls index Lib.Math.abs.name ∈ gtbl) (hcat : (st.map fun v => v.category).sum ≤ 8) (hdg : decode M.2.1 pc = .ok (.invokestatic index, 3)) (k : J Γ l (d + 1) M Q (pc + 3) lv (.int (abI x) :: st) σ) : J Γ l (d + 1) M Q pc lv (.int x :: st) σ := by
  intro p e s m args below meth c B H locs LS hP hS hL
  obtain ⟨hx, hb, hr, hml, hts, hown, hlocks, hK, hN, hinj⟩ := id B
  exact va_mabs hx hb (hml.trans hL.1.symm) hown (hts _ hw) (hts _ wAbsS) (hts _ wMathI) (hts _ wAbsC) (Nat.le_add_left _ _) (by rw [cat_av]; show _ ≤ 64 * (d + 1); omega) (Nat.zero_le _) (Nat.zero_le _) hdg (k p e s m args below meth c B H locs LS hP hS hL)
theorem J_mminL {index : Nat} {x y : Int64} (hw : Cond.methodLink M.1.cls index Lib.MathLoose.min_long.x ∈ gtbl) (hcat : (st.map fun v => v.category).sum ≤ 8) (hdg : decode M.2.1 pc = .ok (.invokestatic index, 3)) (k : J Γ l (d + 1) M Q (pc + 3) lv (.long (mnL x y) :: st) σ) : J Γ l (d + 1) M Q pc lv (.long y :: .long x :: st) σ := by
  intro p e s m args below meth c B H locs LS hP hS hL
  obtain ⟨hx, hb, hr, hml, hts, hown, hlocks, hK, hN, hinj⟩ := id B
  exact va_mmin_long hx hb (hml.trans hL.1.symm) hown (hts _ hw) (hts _ wMinLS) (hts _ wMathI) (hts _ wMinLC) (Nat.le_add_left _ _) (by rw [cat_av]; show _ ≤ 64 * (d + 1); omega) (Nat.zero_le _) (Nat.zero_le _) hdg (k p e s m args below meth c B H locs LS hP hS hL)
theorem J_copy {index q0 q1 n0 n1 r0 r1 N : Nat} {n : Int32} (hw : Cond.methodLink M.1.cls index arraycopyName ∈ gtbl) (hq0 : q0 < nC) (hq1 : q1 < nC) (hs0 : sk q0 = .inr (0, n0, r0)) (hs1 : sk q1 = .inr (0, n1, r1)) (hn : n.toNatClampNeg = N) (h3 : ¬ n < 0) (h4 : N ≤ n0) (h5 : N ≤ n1) (hcat : (st.map fun v => v.category).sum ≤ 8) (hdg : decode M.2.1 pc = .ok (.invokestatic index, 3)) (k : J Γ l (d + 1) M Q (pc + 3) lv st (cpy σ q0 q1 N)) : J Γ l (d + 1) M Q pc lv (.int n :: .int 0 :: .ref q1 :: .int 0 :: .ref q0 :: st) σ := by
  intro p e s m args below meth c B H locs LS hP hS hL
  obtain ⟨hx, hb, hr, hml, hts, hown, hlocks, hK, hN, hinj⟩ := id B
  subst hn
  have hroom : ((st.map (av Γ.1)).map fun v => v.category).sum + (nativeFrameWords "java/lang/System" "arraycopy" 5 + 11) ≤ (rmD (d + 1)).locals := by
    rw [cat_av]
    have h9 : nativeFrameWords "java/lang/System" "arraycopy" 5 + 11 ≤ 50 := by decide +kernel
    show _ ≤ 64 * (d + 1)
    omega
  have z0 : (0 : Int32).toNatClampNeg = 0 := rfl
  refine va_copyi (sp := 0) (dp := 0) hx hb (hml.trans hL.1.symm) hown (hts _ hw) (hts _ wCopyN) (hts _ wCopyS) (hts _ wSysI) hK hP (ws_D hinj σ) hS q0 q1 0 0 ((ws_get hq0).trans (congrArg (fun e => some (Γ.1 q0, e)) (ce_int hs0 (by decide)))) ((ws_get hq1).trans (congrArg (fun e => some (Γ.1 q1, e)) (ce_int hs1 (by decide)))) rfl rfl rfl (by decide) (by decide) h3 (by rw [z0, Nat.zero_add]; exact h4) (by rw [z0, Nat.zero_add]; exact h5) (fun _ _ => rfl) (Nat.le_add_left _ _) hroom hdg (fun H1 locs1 hP1 _ hS1 => ?_)
  have e0 : (0 : Int32).toNatClampNeg = 0 := rfl
  rw [e0, ws_cpy hq1 hs1] at hP1
  exact k p e s m args below meth c B H1 locs1 LS hP1 hS1 hL
end JX3

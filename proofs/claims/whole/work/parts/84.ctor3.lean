/-! CONSTRUCTORS: rows over the marks of an object's fields; Arrays.fill -/
theorem dfl_of {ad : Nat → Nat} {p Nf : Nat} {ty : Nat → FieldType} {fk : List Nat} (h : (List.range Nf).map (fun j => defaultValue (ty j)) = fk.map dfv) : ∀ j, j < Nf → defaultValue (ty j) = vp_V (mixf ad p fk 0) j := by
  intro j hj
  have h2 : ((List.range Nf).map (fun j => defaultValue (ty j)))[j]? = (fk.map dfv)[j]? := by rw [h]
  rw [List.getElem?_map, List.getElem?_range hj, List.getElem?_map] at h2
  cases hf : fk[j]? with
  | none => rw [hf] at h2; cases h2
  | some f =>
    rw [hf] at h2
    have h3 : defaultValue (ty j) = dfv f := Option.some.inj h2
    unfold vp_V
    rw [List.getD_eq_getElem?_getD, mix_get hf, if_neg (Nat.not_lt_zero _), h3]
    rfl
theorem wk_done {Γ : GG} {p ci k : Nat} {fk : List Nat} {w : WK} (hk : fk.length ≤ k) (hs : sk p = .inl (ci, fk)) (hwp : w (off p) = ce Γ st0 p) : ∀ i, wk Γ p ci fk k w i = w i := by
  intro i
  unfold wk
  by_cases h : i = off p
  · subst h
    rw [put1_at, hwp, ce_obj hs, mix_all hk]
  · rw [put1_ne h]
section JKM
variable {Γ : GG} {l : Launch} {z d C S : Nat} {M : MD} {n1 : Nat} {wf : WK} {pc : Nat} {lv : List (Nat × Value)} {st : List Value} {n cells slots : Nat} {w : WK}
/-- a field set for good, behind the mark -/
theorem K_putR {index p ci Nf kf f : Nat} {v : Value} {ty : FieldType} {C' : String} {T : u_T} {ty0 : Nat → FieldType} {fk : List Nat} (hini : M.1.name = "<init>") (hw : Cond.fieldLink M.1.cls index (T kf).1 (T kf).2.1 (T kf).2.2.1 ∈ gtbl) (hus : ∀ w ∈ u_ws C' T Nf, w ∈ gtbl) (hty : ∀ k, k < Nf → parseFieldDescriptor (T k).2.2.1 = some (ty0 k)) (hnm : ∀ a, a < Nf → ∀ b, b < Nf → a ≠ b → (T a).2.1 ≠ (T b).2.1) (hc : vwCl[ci]? = some (C', T, Nf)) (hk : kf < Nf) (hdecl : (T kf).1 = M.1.cls) (hd : parseFieldDescriptor (T kf).2.2.1 = some ty) (hn : narrow ty (av Γ.1 v) = av Γ.1 v) (hfit : fits ty (av Γ.1 v) = true) (hf : fk[kf]? = some f) (hv : fv st0 p kf f = v) (hpn : off p < n) (hdg : decode M.2.1 pc = .ok (.putfield index, 3)) (k : JK Γ l z d C S M n1 wf (pc + 3) lv st n cells slots (wk Γ p ci fk (kf + 1) w)) : JK Γ l z d C S M n1 wf pc lv (v :: .ref p :: st) n cells slots (wk Γ p ci fk kf w) := by
  refine K_put (fs' := mixf Γ.1 p fk (kf + 1)) hini hw hus hty hnm hc hk hdecl hd hn hfit (by rw [mix_len]; exact (List.getElem?_eq_some_iff.mp hf).1) (by rw [← hv]; exact mix_set hf) put1_at hpn hdg ?_
  rw [show put1 (wk Γ p ci fk kf w) (off p) (.inr (ci, mixf Γ.1 p fk (kf + 1))) = wk Γ p ci fk (kf + 1) w from put1_put1]
  exact k
/-- 0 into a field that stays 0 -/
theorem K_putZ {index p ci Nf kf j : Nat} {ty : FieldType} {C' : String} {T : u_T} {ty0 : Nat → FieldType} {fk : List Nat} (hini : M.1.name = "<init>") (hw : Cond.fieldLink M.1.cls index (T kf).1 (T kf).2.1 (T kf).2.2.1 ∈ gtbl) (hus : ∀ w ∈ u_ws C' T Nf, w ∈ gtbl) (hty : ∀ k, k < Nf → parseFieldDescriptor (T k).2.2.1 = some (ty0 k)) (hnm : ∀ a, a < Nf → ∀ b, b < Nf → a ≠ b → (T a).2.1 ≠ (T b).2.1) (hc : vwCl[ci]? = some (C', T, Nf)) (hk : kf < Nf) (hdecl : (T kf).1 = M.1.cls) (hd : parseFieldDescriptor (T kf).2.2.1 = some ty) (hn : narrow ty (.int 0) = .int 0) (hfit : fits ty (.int 0) = true) (hf : fk[kf]? = some 0) (hv : rd st0 p kf = 0) (hpn : off p < n) (hdg : decode M.2.1 pc = .ok (.putfield index, 3)) (k : JK Γ l z d C S M n1 wf (pc + 3) lv st n cells slots (wk Γ p ci fk j w)) : JK Γ l z d C S M n1 wf pc lv (.int 0 :: .ref p :: st) n cells slots (wk Γ p ci fk j w) := by
  refine K_put hini hw hus hty hnm hc hk hdecl hd hn hfit (by rw [mix_len]; exact (List.getElem?_eq_some_iff.mp hf).1) (mix_same hf hv) put1_at hpn hdg ?_
  rw [show put1 (wk Γ p ci fk j w) (off p) (.inr (ci, mixf Γ.1 p fk j)) = wk Γ p ci fk j w from put1_put1]
  exact k
theorem K_skip {p ci kf : Nat} {fk : List Nat} (hf : fk[kf]? = some 0) (hv : rd st0 p kf = 0) (k : JK Γ l z d C S M n1 wf pc lv st n cells slots (wk Γ p ci fk (kf + 1) w)) : JK Γ l z d C S M n1 wf pc lv st n cells slots (wk Γ p ci fk kf w) := by
  unfold wk at k
  rw [mix_skip hf hv] at k
  exact k
theorem raI (U : State) (cA : ClassId) (h : va_RA U cA .int) : U.vm.findClass ("[" ++ FieldType.int.toString) = some cA := h
theorem raB (U : State) (cA : ClassId) (h : va_RA U cA .byte) : U.vm.findClass ("[" ++ FieldType.byte.toString) = some cA := h
theorem raZ (U : State) (cA : ClassId) (h : va_RA U cA .boolean) : U.vm.findClass ("[" ++ FieldType.boolean.toString) = some cA := h
theorem raJ (U : State) (cA : ClassId) (h : va_RA U cA .long) : U.vm.findClass ("[" ++ FieldType.long.toString) = some cA := h
theorem K_newI {N q : Nat} {x : Int32} {c' s' : Nat} {f : Nat → Int32} (hwd : Cond.arrayClass .int ∈ gtbl) (hx0 : ¬ x < 0) (hN : x.toNatClampNeg = N) (hN2 : N ≤ 100000) (hc : cells + 1 = c') (hs : slots + N = s') (hC : c' ≤ C) (hSl : s' ≤ S) (hoff : off q = n) (hw : w (off q) = .inl (Γ.2.1 0, N, .inl f)) (hz : ∀ j, f j = 0) (hdg : decode M.2.1 pc = .ok (.newarray .int, 2)) (k : JK Γ l z d C S M n1 wf (pc + 2) lv (.ref q :: st) (n + 1) c' s' w) : JK Γ l z d C S M n1 wf pc lv (.int x :: st) n cells slots w := by
  refine K_newa (t := 0) (atype := .int) hwd rfl raI hx0 hN (by show N * 4 ≤ _; omega) hc hs hC hSl hoff (by rw [← hoff]; exact hw) (fun cA => ?_) hdg k
  rw [vp_cell_i]
  exact arrV_congr fun j _ => by rw [hz]; rfl
theorem K_newB {N q : Nat} {x : Int32} {c' s' : Nat} {f : Nat → Int32} (hwd : Cond.arrayClass .byte ∈ gtbl) (hx0 : ¬ x < 0) (hN : x.toNatClampNeg = N) (hN2 : N ≤ 100000) (hc : cells + 1 = c') (hs : slots + N = s') (hC : c' ≤ C) (hSl : s' ≤ S) (hoff : off q = n) (hw : w (off q) = .inl (Γ.2.1 1, N, .inl f)) (hz : ∀ j, f j = 0) (hdg : decode M.2.1 pc = .ok (.newarray .byte, 2)) (k : JK Γ l z d C S M n1 wf (pc + 2) lv (.ref q :: st) (n + 1) c' s' w) : JK Γ l z d C S M n1 wf pc lv (.int x :: st) n cells slots w := by
  refine K_newa (t := 1) (atype := .byte) hwd rfl raB hx0 hN (by show N * 1 ≤ _; omega) hc hs hC hSl hoff (by rw [← hoff]; exact hw) (fun cA => ?_) hdg k
  rw [vp_cell_i]
  exact arrV_congr fun j _ => by rw [hz]; rfl
theorem K_newZ {N q : Nat} {x : Int32} {c' s' : Nat} {f : Nat → Int32} (hwd : Cond.arrayClass .boolean ∈ gtbl) (hx0 : ¬ x < 0) (hN : x.toNatClampNeg = N) (hN2 : N ≤ 100000) (hc : cells + 1 = c') (hs : slots + N = s') (hC : c' ≤ C) (hSl : s' ≤ S) (hoff : off q = n) (hw : w (off q) = .inl (Γ.2.1 2, N, .inl f)) (hz : ∀ j, f j = 0) (hdg : decode M.2.1 pc = .ok (.newarray .boolean, 2)) (k : JK Γ l z d C S M n1 wf (pc + 2) lv (.ref q :: st) (n + 1) c' s' w) : JK Γ l z d C S M n1 wf pc lv (.int x :: st) n cells slots w := by
  refine K_newa (t := 2) (atype := .boolean) hwd rfl raZ hx0 hN (by show N * 1 ≤ _; omega) hc hs hC hSl hoff (by rw [← hoff]; exact hw) (fun cA => ?_) hdg k
  rw [vp_cell_i]
  exact arrV_congr fun j _ => by rw [hz]; rfl
theorem K_newJ {N q : Nat} {x : Int32} {c' s' : Nat} {f : Nat → Int64} (hwd : Cond.arrayClass .long ∈ gtbl) (hx0 : ¬ x < 0) (hN : x.toNatClampNeg = N) (hN2 : N ≤ 100000) (hc : cells + 1 = c') (hs : slots + N = s') (hC : c' ≤ C) (hSl : s' ≤ S) (hoff : off q = n) (hw : w (off q) = .inl (Γ.2.1 3, N, .inr (.inl f))) (hz : ∀ j, f j = 0) (hdg : decode M.2.1 pc = .ok (.newarray .long, 2)) (k : JK Γ l z d C S M n1 wf (pc + 2) lv (.ref q :: st) (n + 1) c' s' w) : JK Γ l z d C S M n1 wf pc lv (.int x :: st) n cells slots w := by
  refine K_newa (t := 3) (atype := .long) hwd rfl raJ hx0 hN (by show N * 8 ≤ _; omega) hc hs hC hSl hoff (by rw [← hoff]; exact hw) (fun cA => ?_) hdg k
  rw [vp_cell_l]
  exact arrV_congr fun j _ => by rw [hz]; rfl
theorem K_sub (ks : List Nat) {lv' : List (Nat × Value)} (h : lv_pick lv ks = lv') (k : JK Γ l z d C S M n1 wf pc lv' st n cells slots w) : JK Γ l z d C S M n1 wf pc lv st n cells slots w := by
  intro p e s m args below meth c B H locs LS hP hS hL
  refine k p e s m args below meth c B H locs LS hP hS ⟨hL.1, hL.2.1, fun q hq => hL.2.2 q ?_⟩
  obtain ⟨y, hy, rfl⟩ := List.mem_map.mp hq
  rw [← h] at hy
  obtain ⟨i, -, hi⟩ := List.mem_filterMap.mp hy
  exact List.mem_map.mpr ⟨y, List.mem_of_getElem? hi, rfl⟩
/-- the fields of an array that is the same below its length -/
theorem K_arr {q N : Nat} {c0 : ClassId} {f g : Nat → Int32} (hw : w (off q) = .inl (c0, N, .inl f)) (h : ∀ j, j < N → f j = g j) (k : JK Γ l z d C S M n1 wf pc lv st n cells slots (put1 w (off q) (.inl (c0, N, .inl g)))) : JK Γ l z d C S M n1 wf pc lv st n cells slots w := by
  intro p e s m args below meth c B H locs LS hP hS hL
  refine k p e s m args below meth c B H locs LS ⟨hP.1, fun i hi => ?_⟩ hS hL
  by_cases hq : i = off q
  · subst hq
    have := hP.2 _ hi
    rw [hw] at this
    rw [put1_at]
    have h2 : H[z + off q]? = some (vp_cell c0 (N, .inl f)) := this
    show H[z + off q]? = some (vp_cell c0 (N, .inl g))
    rw [h2, vp_cell_i, vp_cell_i]
    exact congrArg some (arrV_congr fun j hj => by rw [h j hj])
  · rw [put1_ne hq]
    exact hP.2 _ hi
end JKM
/-! Arrays.fill over one array -/
section FIL
variable {Γ : GG} {l : Launch} {z d : Nat} {w : WK} {q N n : Nat} {v : Int32} {f : Nat → Int32}
theorem fill_loop (hN : N < 2147483648) (hq : off q < n) : ∀ (g i : Nat) (w : WK), i + g = N → w (off q) = .inl (Γ.2.1 0, N, .inl (fun j => if j < i then v else f j)) →
    JK Γ l z d 0 0 mJ7_fill_53178 n (put1 w (off q) (.inl (Γ.2.1 0, N, .inl (fun _ => v)))) 5 [(2, .int (nI i)), (3, .int (nI N)), (0, .ref q), (1, .int v)] [] n 0 0 w := by
  intro g
  induction g with
  | zero =>
    intro i w hi hw
    refine K_iload_n (kk := 0) dJ7_fill_53178_5 rfl rfl ?_
    refine K_iload_n (kk := 1) dJ7_fill_53178_6 rfl rfl ?_
    refine K_icmp_ge 20 dJ7_fill_53178_7 rfl (fun _ => ?_) (fun h => absurd (by rw [show i = N by omega]; exact Int32.le_refl _) h)
    refine K_arr (g := fun _ => v) hw (fun j hj => if_pos (by omega)) ?_
    exact K_ret rfl rfl (fun _ _ => rfl) rfl rfl dJ7_fill_53178_20
  | succ g ih =>
    intro i w hi hw
    have hci := cl (n := i) (by omega)
    refine K_iload_n (kk := 0) dJ7_fill_53178_5 rfl rfl ?_
    refine K_iload_n (kk := 1) dJ7_fill_53178_6 rfl rfl ?_
    refine K_icmp_ge 20 dJ7_fill_53178_7 rfl (fun h => absurd ((nI_lei hN (by omega)).mp h) (by omega)) (fun _ => ?_)
    refine K_aload_n (kk := 2) dJ7_fill_53178_10 rfl rfl ?_
    refine K_iload_n (kk := 0) dJ7_fill_53178_11 rfl rfl ?_
    refine K_iload_n (kk := 3) dJ7_fill_53178_12 rfl rfl ?_
    refine K_iast hq hw (in_nI (by omega) hN) dJ7_fill_53178_13 ?_
    refine K_iinc (kk := 0) (v := nI (i + 1)) dJ7_fill_53178_14 rfl (nI_addn i 1) (by decide) rfl ?_
    refine K_goto (tgt := 5) dJ7_fill_53178_17 rfl ?_
    have e : (upd (fun j => if j < i then v else f j) (nI i).toNatClampNeg v) = fun j => if j < i + 1 then v else f j := by
      rw [hci]
      funext j
      unfold upd
      by_cases h1 : j = i
      · rw [if_pos h1, if_pos (by omega)]
      · rw [if_neg h1]
        dsimp only
        by_cases h2 : j < i
        · rw [if_pos h2, if_pos (by omega)]
        · rw [if_neg h2, if_neg (by omega)]
    rw [e]
    have := ih (i + 1) (put1 w (off q) (.inl (Γ.2.1 0, N, .inl (fun j => if j < i + 1 then v else f j)))) (by omega) put1_at
    rw [put1_put1] at this
    exact this
theorem C_fill (hN : N < 2147483648) (hq : off q < n) (hw : w (off q) = .inl (Γ.2.1 0, N, .inl f)) : CtorG Γ l z d 0 0 mJ7_fill_53178 [.ref q, .int v] n w n (put1 w (off q) (.inl (Γ.2.1 0, N, .inl (fun _ => v)))) := by
  refine CtorG_of_JK (lv := [(0, .ref q), (1, .int v)]) (by decide) (fun ad => Nat.le_of_ble_eq_true rfl) (fun ad => rfl) ?_
  refine K_iconst (v := nI 0) dJ7_fill_53178_0 rfl ?_
  refine K_istore_n dJ7_fill_53178_1 rfl (by decide) rfl ?_
  refine K_aload_n (kk := 1) dJ7_fill_53178_2 rfl rfl ?_
  refine K_alen (v := nI N) hq hw rfl dJ7_fill_53178_3 ?_
  refine K_istore_n dJ7_fill_53178_4 rfl (by decide) rfl ?_
  exact K_sub [1, 0, 2, 3] rfl (fill_loop (f := f) hN hq N 0 w (by omega) (by rw [hw]; simp))
end FIL

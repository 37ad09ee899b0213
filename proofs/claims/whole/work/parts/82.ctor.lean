/-! CONSTRUCTORS: the world by addresses told outright. Cell i of the new ones lies at z + i; place q lies at z + off q. -/
def off (q : Nat) : Nat := if q < 10 then q else if q < 11 then 22 else if q < 19 then q + 24 else if q < 28 then q + 224 else if q < 46 then q + 240 else if q < 118 then q + 254 else if q < 130 then q - 108 else if q < 142 then q - 107 else if q < 342 then q - 99 else if q < 358 then q - 90 else q - 72
def pl (i : Nat) : Nat := if i < 10 then i else if i < 22 then i + 108 else if i < 23 then 10 else if i < 35 then i + 107 else if i < 43 then i - 24 else if i < 243 then i + 99 else if i < 252 then i - 224 else if i < 268 then i + 90 else if i < 286 then i - 240 else if i < 300 then i + 72 else i - 254
theorem off_pl : ∀ i, i < 372 → off (pl i) = i := by decide +kernel
theorem pl_off : ∀ q, q < 372 → pl (off q) = q := by decide +kernel
theorem off_lt : ∀ q, q < 372 → off q < 372 := by decide +kernel
/-- the first state -/
def st0 : St := (fun q k => if q = 8 then -1 else if q = 23 ∧ k = 3 then 25 else if q = 59 ∧ k = 65 then -1 else if q = 59 ∧ k = 56 then 24 else 0, fun _ _ => 0)
/-- what a field is before it is set -/
def dfv : Nat → Value
  | 0 => .int 0
  | _ + 1 => .null
/-- the fields of place p's object: those below k are set -/
def mixf (ad : Nat → Nat) (p : Nat) (fk : List Nat) (k : Nat) : List Value := fk.mapIdx (fun j f => if j < k then av ad (fv st0 p j f) else dfv f)
theorem mix_len {ad : Nat → Nat} {p k : Nat} {fk : List Nat} : (mixf ad p fk k).length = fk.length := by
  simp [mixf]
theorem mix_get {ad : Nat → Nat} {p k j f : Nat} {fk : List Nat} (h : fk[j]? = some f) : (mixf ad p fk k)[j]? = some (if j < k then av ad (fv st0 p j f) else dfv f) := by
  unfold mixf
  rw [List.getElem?_mapIdx, h]
  rfl
theorem mix_set {ad : Nat → Nat} {p k f : Nat} {fk : List Nat} (h : fk[k]? = some f) : (mixf ad p fk k).set k (av ad (fv st0 p k f)) = mixf ad p fk (k + 1) := by
  have hk : k < fk.length := (List.getElem?_eq_some_iff.mp h).1
  apply List.ext_getElem?
  intro i
  by_cases hi : i = k
  · subst hi
    rw [List.getElem?_set_self (by simpa [mixf] using hk), mix_get h, if_pos (Nat.lt_succ_self _)]
  · rw [List.getElem?_set_ne (Ne.symm hi)]
    by_cases hl : i < fk.length
    · obtain ⟨g, hg⟩ : ∃ g, fk[i]? = some g := ⟨_, List.getElem?_eq_getElem hl⟩
      rw [mix_get hg, mix_get hg]
      by_cases h2 : i < k
      · rw [if_pos h2, if_pos (by omega)]
      · rw [if_neg h2, if_neg (by omega)]
    · rw [List.getElem?_eq_none (by simpa [mixf] using hl), List.getElem?_eq_none (by simpa [mixf] using hl)]
theorem mix_skip {ad : Nat → Nat} {p k : Nat} {fk : List Nat} (h : fk[k]? = some 0) (hz : rd st0 p k = 0) : mixf ad p fk (k + 1) = mixf ad p fk k := by
  have hk : k < fk.length := (List.getElem?_eq_some_iff.mp h).1
  rw [← mix_set h]
  apply List.ext_getElem?
  intro i
  by_cases hi : i = k
  · subst hi
    rw [List.getElem?_set_self (by simpa [mixf] using hk), mix_get h, if_neg (Nat.lt_irrefl _)]
    simp [fv, hz, av, dfv]
  · rw [List.getElem?_set_ne (Ne.symm hi)]
theorem mix_same {ad : Nat → Nat} {p j k : Nat} {fk : List Nat} (h : fk[k]? = some 0) (hz : rd st0 p k = 0) : (mixf ad p fk j).set k (.int 0) = mixf ad p fk j := by
  have hk : k < fk.length := (List.getElem?_eq_some_iff.mp h).1
  apply List.ext_getElem?
  intro i
  by_cases hi : i = k
  · subst hi
    rw [List.getElem?_set_self (by simpa [mixf] using hk), mix_get h]
    split
    · simp [fv, hz, av]
    · rfl
  · rw [List.getElem?_set_ne (Ne.symm hi)]
theorem mix_all {ad : Nat → Nat} {p k : Nat} {fk : List Nat} (h : fk.length ≤ k) : mixf ad p fk k = fvs ad st0 p fk := by
  apply List.ext_getElem?
  intro i
  by_cases hl : i < fk.length
  · obtain ⟨g, hg⟩ : ∃ g, fk[i]? = some g := ⟨_, List.getElem?_eq_getElem hl⟩
    rw [mix_get hg, fvs_get hg, if_pos (by omega)]
  · rw [List.getElem?_eq_none (by simpa [mixf] using hl), List.getElem?_eq_none (by simpa [fvs] using hl)]
/-- a world of new cells -/
abbrev WK : Type := Nat → va_E
def KW (Γ : GG) (z n : Nat) (w : WK) (H : Heap) : Prop := H.size = z + n ∧ ∀ i, i < n → va_at Γ.2.2 vwCl (z + i, w i) H
def put1 (w : WK) (i : Nat) (e : va_E) : WK := fun j => if j = i then e else w j
def wk (Γ : GG) (p ci : Nat) (fk : List Nat) (k : Nat) (w : WK) : WK := put1 w (off p) (.inr (ci, mixf Γ.1 p fk k))
theorem put1_at {w : WK} {i : Nat} {e : va_E} : put1 w i e i = e := if_pos rfl
theorem put1_ne {w : WK} {i j : Nat} {e : va_E} (h : j ≠ i) : put1 w i e j = w j := if_neg h
theorem put1_put1 {w : WK} {i : Nat} {e e' : va_E} : put1 (put1 w i e) i e' = put1 w i e' := by
  funext j
  unfold put1
  split <;> rfl
theorem at_kept {D : va_G} {cl : List vw_C} {q : Nat × va_E} {H H1 : Heap} (h : va_at D cl q H) (e : H1[q.1]? = H[q.1]?) : va_at D cl q H1 := by
  obtain ⟨a, x | o⟩ := q
  · show H1[a]? = _
    rw [e]
    exact h
  · obtain ⟨r, h1, h2⟩ := h
    exact ⟨r, h1, h2.kept e⟩
theorem at_lt {D : va_G} {cl : List vw_C} {q : Nat × va_E} {H : Heap} (h : va_at D cl q H) : q.1 < H.size := by
  obtain ⟨a, x | o⟩ := q
  · exact (Array.getElem?_eq_some_iff.mp h).1
  · obtain ⟨r, h1, cell, h2, -⟩ := h
    exact (Array.getElem?_eq_some_iff.mp h2).1
theorem KW.to {Γ : GG} {z n : Nat} {w w' : WK} {H : Heap} (h : KW Γ z n w H) (e : ∀ i, i < n → w i = w' i) : KW Γ z n w' H := ⟨h.1, fun i hi => by rw [← e i hi]; exact h.2 i hi⟩
theorem KW.grow {Γ : GG} {z n k : Nat} {w w' : WK} {H H1 : Heap} (h : KW Γ z n w H) (hz : H1.size = z + (n + k)) (ho : ∀ q, q < H.size → H1[q]? = H[q]?) (hw : ∀ i, i < n → w i = w' i) (hn : ∀ i, n ≤ i → i < n + k → va_at Γ.2.2 vwCl (z + i, w' i) H1) : KW Γ z (n + k) w' H1 := by
  refine ⟨hz, fun i hi => ?_⟩
  by_cases hl : i < n
  · rw [← hw i hl]
    exact at_kept (h.2 i hl) (ho _ (by rw [h.1]; show z + i < z + n; omega))
  · exact hn i (by omega) hi
theorem KW.set {Γ : GG} {z n i : Nat} {w : WK} {e : va_E} {H H1 : Heap} (h : KW Γ z n w H) (hz : H1.size = H.size) (ho : ∀ q, q ≠ z + i → H1[q]? = H[q]?) (he : va_at Γ.2.2 vwCl (z + i, e) H1) : KW Γ z n (put1 w i e) H1 := by
  refine ⟨hz.trans h.1, fun j hj => ?_⟩
  by_cases hl : j = i
  · subst hl
    rw [put1_at]
    exact he
  · rw [put1_ne hl]
    exact at_kept (h.2 j hj) (ho _ (by show z + j ≠ z + i; omega))
theorem grow_S {A : Nat → Prop} {H0 H H1 : Heap} {locs : List Loc} (hS : va_S A H0 H locs) (hz : H.size ≤ H1.size) (o1 : ∀ q, q < H.size → H1[q]? = H[q]?) : va_S A H0 H1 locs := ⟨Nat.le_trans hS.1 hz, fun x h1 h2 => (o1 x (Nat.lt_of_lt_of_le h1 hS.1)).trans (hS.2.1 x h1 h2), hS.2.2⟩
theorem arrV_congr {c : ClassId} {N : Nat} {f g : Nat → Value} (h : ∀ j, j < N → f j = g j) : arrV c N f = arrV c N g := by
  unfold arrV
  congr 2
  funext j
  exact h _ j.isLt
/-! a field set, with the heap's size -/
section KX
variable {p : Program} {l : Launch} {e : Env} {R : Room} {s : State} {m : MethodId} {args : Array Value} {below : List Frame} {meth : Method} {c : Code} {H : Heap} {locs : List Loc} {cells slots : Nat} {Q : State → Prop} {cc : ByteArray} {pc : Nat} {ls : Array Slot} {rest : List Value} {D : va_G} {cl : List vw_C} {tys : List (ClassId × FieldType)}
theorem kx_put (hexec : p.tables.exec = Jvm.exec) (hb : c.code = cc) {own C : String} {T : u_T} {N ci index a : Nat} {Ts : List Cond} (hts : ∀ w ∈ Ts, w.before args s = true) (hin : ∀ w ∈ u_ws C T N, w ∈ Ts) (ty0 : Nat → FieldType) (hty : ∀ k, k < N → parseFieldDescriptor (T k).2.2.1 = some (ty0 k)) (hnm : ∀ a, a < N → ∀ b, b < N → a ≠ b → (T a).2.1 ≠ (T b).2.1) (hown : s.vm.findClass own = some m.cls) (hK : va_K D cl tys s) {fs : List Value} (he : va_at D cl (a, .inr (ci, fs)) H) (hc : cl[ci]? = some (C, T, N)) (k : Nat) (hk : k < N) (hlink : (Cond.fieldLink own index (T k).1 (T k).2.1 (T k).2.2.1).before args s = true) (hin2 : meth.name = "<init>") (hdecl : (T k).1 = own) {ty : FieldType} {v : Value} (hd : parseFieldDescriptor (T k).2.2.1 = some ty) (hn : narrow ty v = v) (hfit : fits ty v = true) (hl : k < fs.length) (hdg : decode cc pc = .ok (.putfield index, 3))
    (kk : ∀ (H1 : Heap) (sl : Nat), H1.size = H.size → (∀ q, q ≠ a → H1[q]? = H[q]?) → va_at D cl (a, .inr (ci, fs.set k v)) H1 → W p l e R s m args below meth c H1 (locs ++ [⟨a, sl⟩]) cells slots Q (F0 m (pc + 3) ls rest)) : W p l e R s m args below meth c H locs cells slots Q (F0 m pc ls (v :: .ref a :: rest)) := by
  have hap := va_apart (own := own) hts hin ty0 hty hnm hK hc
  obtain ⟨r, h1, cell, q1, q2, q3, q4⟩ := he
  have hr : r = (C, T, N) := Option.some.inj (h1.symm.trans hc)
  subst hr
  obtain ⟨hS, hfc, kC, hkC, hkind⟩ := hK.1 ci _ hc
  obtain ⟨cf, kf, fi, f, hi, hsl⟩ := hS k hk
  have hlay := hts _ (hin _ (u_in_lay hk))
  have hst := (u_facts hfc hkC (u_lays hts hin hk) hi).1
  have fin : ∀ H' : Heap, H'[a]? = some (cell.setSlot f.slot v) → va_at D cl (a, .inr (ci, fs.set k v)) H' := by
    intro H' e1
    rw [hsl] at e1
    exact ⟨_, hc, t_OB.to (V := updV (vp_V fs) k v) ⟨_, e1, q2, q3, t_set q4 hap hk v⟩ (fun j _ => vp_updV_set hl v j)⟩
  unfold u_lay at hlay
  by_cases hfin : (T k).2.2.2 = true
  · rw [if_pos hfin] at hlay
    have hcf : m.cls = cf := by
      obtain ⟨_, _, c', _, _, _, -, -, hf', -, -, -, hown2, -⟩ := Cond.laysFinal_spec hlay
      have e1 : c' = cf := by have := hi.symm.trans hf'; simp at this; exact this.1.symm
      rw [hdecl] at hown2
      rw [← e1]; exact Option.some.inj (hown.symm.trans hown2)
    have h6 := u_fits hfc hkC hkind (Or.inr hlay) hi hd hn hfit
    exact W.putFinK hexec hb hown hlink hi hst hcf hin2 (by rw [q2]; exact h6) q1 q3 (by rw [hsl]; exact k2_hasslot (q4 k hk)) rfl rfl hdg fun H' e1 e2 e3 => kk H' _ e2 e3 (fin H' e1)
  · rw [if_neg hfin] at hlay
    have h6 := u_store hfc hkC hkind hlay hi hd hn hfit
    exact W.putK hexec hb (f := f) ⟨hown, hlink, ⟨_, _, _, hi⟩, hst⟩ (by rw [q2]; exact h6) q1 q3 (by rw [hsl]; exact k2_hasslot (q4 k hk)) rfl rfl hdg fun H' e1 e2 e3 => kk H' _ e2 e3 (fin H' e1)
end KX
/-- what the tables say of int[][] (no word that calls carry by themselves) -/
def OV (U : State) : Prop := (Cond.arrayOver (.array .int)).before #[] U = true
/-! the judgement of a constructor's walk -/
def rmK (d C S : Nat) : Room := { frames := d, cells := C, slots := S, locals := 64 * d }
def SimK (Γ : GG) (z n : Nat) (w : WK) (U : State) : Prop := KW Γ z n w U.heap ∧ va_K Γ.2.2 vwCl (tysG Γ) U ∧ (∀ w ∈ ntbl, va_Nw w U) ∧ (∀ q, Γ.1 q = z + off q) ∧ OV U
abbrev AK (z : Nat) : Nat → Prop := fun a => z ≤ a
def QK (Γ : GG) (z n1 : Nat) (w : WK) : Array Value → State → Outcome → State → Prop := va_Qv (S := Unit) (fun _ => True) (fun _ t => KW Γ z n1 w t.heap) (AK z)
def BaseK (Γ : GG) (z : Nat) (M : MD) (p : Program) (s : State) (m : MethodId) (args : Array Value) (meth : Method) (c : Code) : Prop :=
  p.tables.exec = Jvm.exec ∧ c.code = M.2.1 ∧ meth.sig.returnType = M.2.2.2 ∧ c.maxLocals = M.2.2.1 ∧ (∀ w ∈ gtbl, w.before args s = true) ∧ s.vm.findClass M.1.cls = some m.cls ∧ meth.locks = false ∧ va_K Γ.2.2 vwCl (tysG Γ) s ∧ (∀ w ∈ ntbl, va_Nw w s) ∧ (∀ q, Γ.1 q = z + off q) ∧ meth.name = M.1.name ∧ OV s
def JK (Γ : GG) (l : Launch) (z d C S : Nat) (M : MD) (n1 : Nat) (wf : WK) (pc : Nat) (lv : List (Nat × Value)) (st : List Value) (n cells slots : Nat) (w : WK) : Prop :=
  ∀ (p : Program) (e : Env) (s : State) (m : MethodId) (args : Array Value) (below : List Frame) (meth : Method) (c : Code), BaseK Γ z M p s m args meth c →
  ∀ (H : Heap) (locs : List Loc) (LS : Array Slot), KW Γ z n w H → va_S (AK z) s.heap H locs → lv_has LS M.2.2.1 (mL Γ.1 lv) →
  W p l e (rmK d C S) s m args below meth c H locs cells slots (MQ below (QK Γ z n1 wf) args s C S (AK z)) (F0 m pc LS (st.map (av Γ.1)))
def Ctor (Γ : GG) (l : Launch) (z d C S : Nat) (M : MD) (q ci : Nat) (fk : List Nat) (xs : List Value) (n1 : Nat) (w : WK) : Prop :=
  Met l M.1 (wsM M) (rmK d C S) (va_Pc ((.ref q :: xs).map (av Γ.1)) (SimK Γ z (off q + 1) (wk Γ q ci fk 0 w))) (QK Γ z n1 w) C S (AK z)
section JKR
variable {Γ : GG} {l : Launch} {z d C S : Nat} {M : MD} {n1 : Nat} {wf : WK} {pc : Nat} {lv : List (Nat × Value)} {st : List Value} {n cells slots : Nat} {w : WK}
theorem K_to {w' : WK} (h : ∀ i, i < n → w i = w' i) (k : JK Γ l z d C S M n1 wf pc lv st n cells slots w') : JK Γ l z d C S M n1 wf pc lv st n cells slots w := by
  intro p e s m args below meth c B H locs LS hP hS hL
  exact k p e s m args below meth c B H locs LS (hP.to h) hS hL
theorem K_iconst {n' : Int} {v : Int32} (hdg : decode M.2.1 pc = .ok (.iconst n', 1)) (hv : Int32.ofInt n' = v) (k : JK Γ l z d C S M n1 wf (pc + 1) lv (.int v :: st) n cells slots w) : JK Γ l z d C S M n1 wf pc lv st n cells slots w := by
  intro p e s m args below meth c B H locs LS hP hS hL
  obtain ⟨hx, hb, hr, hml, hts, hown, hlocks, hK, hN, hinj, hnm, hov⟩ := id B
  exact lv_iconst hx hb hdg hv (k p e s m args below meth c B H locs LS hP hS hL)
theorem K_bipush {n' : Int} {v : Int32} (hdg : decode M.2.1 pc = .ok (.bipush n', 2)) (hv : (Int8.ofInt n').toInt32 = v) (k : JK Γ l z d C S M n1 wf (pc + 2) lv (.int v :: st) n cells slots w) : JK Γ l z d C S M n1 wf pc lv st n cells slots w := by
  intro p e s m args below meth c B H locs LS hP hS hL
  obtain ⟨hx, hb, hr, hml, hts, hown, hlocks, hK, hN, hinj, hnm, hov⟩ := id B
  exact lv_bipush hx hb hdg hv (k p e s m args below meth c B H locs LS hP hS hL)
theorem K_sipush {n' : Int} {v : Int32} (hdg : decode M.2.1 pc = .ok (.sipush n', 3)) (hv : (Int16.ofInt n').toInt32 = v) (k : JK Γ l z d C S M n1 wf (pc + 3) lv (.int v :: st) n cells slots w) : JK Γ l z d C S M n1 wf pc lv st n cells slots w := by
  intro p e s m args below meth c B H locs LS hP hS hL
  obtain ⟨hx, hb, hr, hml, hts, hown, hlocks, hK, hN, hinj, hnm, hov⟩ := id B
  exact lv_sipush hx hb hdg hv (k p e s m args below meth c B H locs LS hP hS hL)
theorem K_iload_n {kf : Fin 4} {i kk : Nat} {x : Int32} (hdg : decode M.2.1 pc = .ok (.iload_n kf, 1)) (hi : (kf : Nat) = i) (hl : lv[kk]? = some (i, .int x)) (k : JK Γ l z d C S M n1 wf (pc + 1) lv (.int x :: st) n cells slots w) : JK Γ l z d C S M n1 wf pc lv st n cells slots w := by
  intro p e s m args below meth c B H locs LS hP hS hL
  obtain ⟨hx, hb, hr, hml, hts, hown, hlocks, hK, hN, hinj, hnm, hov⟩ := id B
  exact lv_iload_n hx hb hdg hi (lv_at hL kk (mL_get hl)) (k p e s m args below meth c B H locs LS hP hS hL)
theorem K_aload_n {kf : Fin 4} {i kk : Nat} {x : Nat} (hdg : decode M.2.1 pc = .ok (.aload_n kf, 1)) (hi : (kf : Nat) = i) (hl : lv[kk]? = some (i, .ref x)) (k : JK Γ l z d C S M n1 wf (pc + 1) lv (.ref x :: st) n cells slots w) : JK Γ l z d C S M n1 wf pc lv st n cells slots w := by
  intro p e s m args below meth c B H locs LS hP hS hL
  obtain ⟨hx, hb, hr, hml, hts, hown, hlocks, hK, hN, hinj, hnm, hov⟩ := id B
  exact lv_aload_n hx hb hdg hi (lv_at hL kk (mL_get hl)) (k p e s m args below meth c B H locs LS hP hS hL)
theorem K_dup {va : Value} (hdg : decode M.2.1 pc = .ok (.dup, 1)) (hva : va.category = 1) (k : JK Γ l z d C S M n1 wf (pc + 1) lv (va :: va :: st) n cells slots w) : JK Γ l z d C S M n1 wf pc lv (va :: st) n cells slots w := by
  intro p e s m args below meth c B H locs LS hP hS hL
  obtain ⟨hx, hb, hr, hml, hts, hown, hlocks, hK, hN, hinj, hnm, hov⟩ := id B
  exact lv_dup hx hb hdg ((av_cat _ _).trans hva) (k p e s m args below meth c B H locs LS hP hS hL)
/-- a field set: from the object's fields fs -/
theorem K_put {index p ci Nf kf : Nat} {v : Value} {ty : FieldType} {C' : String} {T : u_T} {ty0 : Nat → FieldType} {fs fs' : List Value} (hini : M.1.name = "<init>") (hw : Cond.fieldLink M.1.cls index (T kf).1 (T kf).2.1 (T kf).2.2.1 ∈ gtbl) (hus : ∀ w ∈ u_ws C' T Nf, w ∈ gtbl) (hty : ∀ k, k < Nf → parseFieldDescriptor (T k).2.2.1 = some (ty0 k)) (hnm : ∀ a, a < Nf → ∀ b, b < Nf → a ≠ b → (T a).2.1 ≠ (T b).2.1) (hc : vwCl[ci]? = some (C', T, Nf)) (hk : kf < Nf) (hdecl : (T kf).1 = M.1.cls) (hd : parseFieldDescriptor (T kf).2.2.1 = some ty) (hn : narrow ty (av Γ.1 v) = av Γ.1 v) (hfit : fits ty (av Γ.1 v) = true) (hl : kf < fs.length) (hfs : fs.set kf (av Γ.1 v) = fs') (hwp : w (off p) = .inr (ci, fs)) (hpn : off p < n) (hdg : decode M.2.1 pc = .ok (.putfield index, 3)) (k : JK Γ l z d C S M n1 wf (pc + 3) lv st n cells slots (put1 w (off p) (.inr (ci, fs')))) : JK Γ l z d C S M n1 wf pc lv (v :: .ref p :: st) n cells slots w := by
  intro pr e s m args below meth c B H locs LS hP hS hL
  obtain ⟨hx, hb, hr, hml, hts, hown, hlocks, hK, hN, hinj, hin2, hov⟩ := id B
  have he := hP.2 (off p) hpn
  rw [hwp, ← hinj p] at he
  refine kx_put hx hb hts hus ty0 hty hnm hown hK he hc kf hk (hts _ hw) (hin2.trans hini) hdecl hd hn hfit hl hdg (fun H1 sl z1 o1 h1 => ?_)
  rw [hfs] at h1
  rw [hinj p] at h1 o1
  exact k pr e s m args below meth c B H1 _ LS (hP.set z1 o1 h1) (hS.put z1 (a := Γ.1 p) (by rw [hinj p]; exact o1) (by rw [hinj p]; exact Nat.le_add_right _ _)) hL
theorem K_getr {index p ci Nf kf : Nat} {v : Value} {C' : String} {T : u_T} {fs : List Value} (hw : Cond.fieldLink M.1.cls index (T kf).1 (T kf).2.1 (T kf).2.2.1 ∈ gtbl) (hus : ∀ w ∈ u_ws C' T Nf, w ∈ gtbl) (hc : vwCl[ci]? = some (C', T, Nf)) (hk : kf < Nf) (hwp : w (off p) = .inr (ci, fs)) (hpn : off p < n) (hv : fs[kf]? = some (av Γ.1 v)) (hdg : decode M.2.1 pc = .ok (.getfield index, 3)) (k : JK Γ l z d C S M n1 wf (pc + 3) lv (v :: st) n cells slots w) : JK Γ l z d C S M n1 wf pc lv (.ref p :: st) n cells slots w := by
  intro pr e s m args below meth c B H locs LS hP hS hL
  obtain ⟨hx, hb, hr, hml, hts, hown, hlocks, hK, hN, hinj, hin2, hov⟩ := id B
  have he := hP.2 (off p) hpn
  rw [hwp, ← hinj p] at he
  refine va_get (ws := [(Γ.1 p, .inr (ci, fs))]) hx hb hts hus hown hK (fun i q hq => ?_) 0 rfl hc kf hk (hts _ hw) (fun _ h => h) hv hdg (k pr e s m args below meth c B H locs LS hP hS hL)
  match i with
  | 0 => cases hq; exact he
  | i + 1 => cases hq
/-- a new array of numbers -/
theorem K_newa {t N q : Nat} {atype : ArrayType} {x : Int32} {a0 : vp_A} {c' s' : Nat} (hwd : Cond.arrayClass (newarray.typeOf atype) ∈ gtbl) (ht : (tysG Γ)[t]? = some (Γ.2.1 t, newarray.typeOf atype)) (hRA : ∀ (U : State) (cA : ClassId), va_RA U cA (newarray.typeOf atype) → U.vm.findClass ("[" ++ (newarray.typeOf atype).toString) = some cA) (hx0 : ¬ x < 0) (hN : x.toNatClampNeg = N) (hbytes : N * componentBytes (newarray.typeOf atype) ≤ 536870912) (hc : cells + 1 = c') (hs : slots + N = s') (hC : c' ≤ C) (hSl : s' ≤ S) (hoff : off q = n) (hw : w n = .inl (Γ.2.1 t, a0)) (ha : ∀ cA : ClassId, vp_cell cA a0 = arrV cA N (fun _ => defaultValue (newarray.typeOf atype))) (hdg : decode M.2.1 pc = .ok (.newarray atype, 2)) (k : JK Γ l z d C S M n1 wf (pc + 2) lv (.ref q :: st) (n + 1) c' s' w) : JK Γ l z d C S M n1 wf pc lv (.int x :: st) n cells slots w := by
  intro pr e s m args below meth c B H locs LS hP hS hL
  obtain ⟨hx, hb, hr, hml, hts, hown, hlocks, hK, hN', hinj, hin2, hov⟩ := id B
  subst hc
  subst hs
  refine va_newaK hx hb (hts _ hwd) rfl hdg rfl hx0 hN hbytes hC hSl hP.1 fun H1 cA e1 z1 o1 hAr hNm => ?_
  have hcA : cA = Γ.2.1 t := Option.some.inj (hNm.symm.trans (hRA _ _ (hK.2 t _ ht).2))
  have o2 : ∀ q, q < H.size → H1[q]? = H[q]? := fun q hq => o1 q (by rw [← hP.1]; exact hq)
  have hP1 : KW Γ z (n + 1) w H1 := hP.grow (k := 1) (by rw [z1]; omega) o2 (fun _ _ => rfl) (fun i h1 h2 => by
    have : i = n := by omega
    subst this
    rw [hw]
    show H1[z + i]? = some (vp_cell _ a0)
    rw [e1, ha, hcA])
  have := k pr e s m args below meth c B H1 locs LS hP1 (grow_S hS (by rw [z1, hP.1]; omega) o2) hL
  simp only [List.map_cons, av, hinj q, hoff] at this ⊢
  exact this
/-- a new object, its fields not set -/
theorem K_new {index q ci Nf : Nat} {C' : String} {T : u_T} {ty : Nat → FieldType} {fk : List Nat} {c' s' : Nat} (hus : ∀ w ∈ u_ws C' T Nf, w ∈ gtbl) (hty : ∀ k, k < Nf → parseFieldDescriptor (T k).2.2.1 = some (ty k)) (hwc : Cond.classLink M.1.cls index C' ∈ gtbl) (hwi : Cond.instantiable C' Nf ∈ gtbl) (hwn : Cond.initialized C' ∈ gtbl) (hc : vwCl[ci]? = some (C', T, Nf)) (hfs : ∀ j, j < Nf → defaultValue (ty j) = vp_V (mixf Γ.1 q fk 0) j) (hcc : cells + 1 = c') (hs : slots + Nf = s') (hC : c' ≤ C) (hSl : s' ≤ S) (hoff : off q = n) (hdg : decode M.2.1 pc = .ok (.new index, 3)) (k : JK Γ l z d C S M n1 wf (pc + 3) lv (.ref q :: st) (n + 1) c' s' (wk Γ q ci fk 0 w)) : JK Γ l z d C S M n1 wf pc lv st n cells slots w := by
  intro pr e s m args below meth c B H locs LS hP hS hL
  obtain ⟨hx, hb, hr, hml, hts, hown, hlocks, hK, hN', hinj, hin2, hov⟩ := id B
  subst hcc
  subst hs
  have hKn := hK.1 ci _ hc
  refine W.newcK hx hb hown (hts _ hwc) (hts _ hwi) (hts _ hwn) rfl hdg hC hSl hKn.2.1 hP.1 fun H1 kC hkC e1 z1 o1 => ?_
  have o2 : ∀ q, q < H.size → H1[q]? = H[q]? := fun q hq => o1 q (by rw [← hP.1]; exact hq)
  have hP1 : KW Γ z (n + 1) (wk Γ q ci fk 0 w) H1 := hP.grow (k := 1) (by rw [z1]; omega) o2 (fun i hi => by unfold wk; rw [put1_ne (by omega)]) (fun i h1 h2 => by
    have : i = n := by omega
    subst this
    unfold wk
    rw [hoff, put1_at]
    exact ⟨_, hc, (u_born ty hts hus hKn hkC e1 hty).to hfs⟩)
  have := k pr e s m args below meth c B H1 locs LS hP1 (grow_S hS (by rw [z1, hP.1]; omega) o2) hL
  simp only [List.map_cons, av, hinj q, hoff] at this
  exact this
/-- new T[N][K] -/
theorem K_mna {index N K' q r : Nat} {x y : Int32} {c' s' : Nat} (hwc : Cond.classLink M.1.cls index ("[" ++ (FieldType.array .int).toString) ∈ gtbl) (hwa : Cond.arrayClass .int ∈ gtbl) (hx0 : ¬ x < 0) (hy0 : ¬ y < 0) (hN : x.toNatClampNeg = N) (hM : y.toNatClampNeg = K') (hb1 : N * 4 ≤ 536870912) (hb2 : K' * 4 ≤ 536870912) (hcc : cells + (1 + N) = c') (hs : slots + (N + N * K') = s') (hC : c' ≤ C) (hSl : s' ≤ S) (hoff : off q = n) (hw : w n = .inl (Γ.2.1 4, N, .inr (.inr (.inr (.inr (fun i => some (Γ.1 (i + r)))))))) (hr0 : ∀ j, j < N → off (j + r) = n + 1 + j) (hwr : ∀ j, j < N → w (n + 1 + j) = .inl (Γ.2.1 0, K', .inl (fun _ => 0))) (hdg : decode M.2.1 pc = .ok (.multianewarray index 2, 4)) (k : JK Γ l z d C S M n1 wf (pc + 4) lv (.ref q :: st) (n + 1 + N) c' s' w) : JK Γ l z d C S M n1 wf pc lv (.int y :: .int x :: st) n cells slots w := by
  intro pr e s m args below meth c B H locs LS hP hS hL
  obtain ⟨hx, hb, hr, hml, hts, hown, hlocks, hK, hN', hinj, hin2, hov⟩ := id B
  subst hcc
  subst hs
  refine mu_row hx hb hown (hts _ hwc) (over_moved (Vm.Alike.refl s.vm) hov) (hts _ hwa) hx0 hy0 hN hM hb1 hb2 hC hSl hdg fun H1 cA cI fA fI z1 o1 e1 er => ?_
  have hcA : cA = Γ.2.1 4 := Option.some.inj (fA.symm.trans (hK.2 4 _ rfl).2)
  have hcI : cI = Γ.2.1 0 := Option.some.inj (fI.symm.trans (hK.2 0 _ rfl).2)
  rw [hP.1] at e1 er z1
  have hP1 : KW Γ z (n + (1 + N)) w H1 := hP.grow (k := 1 + N) (by rw [z1]; omega) o1 (fun _ _ => rfl) (fun i h1 h2 => by
    by_cases hi : i = n
    · subst hi
      rw [hw]
      show H1[z + i]? = some (vp_cell _ _)
      rw [e1, hcA, vp_cell_q]
      refine congrArg some (arrV_congr fun j hj => ?_)
      rw [if_pos hj, hinj, hr0 j hj]
      exact congrArg (fun a => va_rf (some a)) (by omega)
    · obtain ⟨j, rfl⟩ : ∃ j, i = n + 1 + j := ⟨i - (n + 1), by omega⟩
      rw [hwr j (by omega)]
      show H1[z + (n + 1 + j)]? = some (vp_cell _ _)
      rw [show z + (n + 1 + j) = z + n + 1 + j by omega, er j (by omega), hcI, vp_cell_i])
  rw [show n + (1 + N) = n + 1 + N by omega] at hP1
  have := k pr e s m args below meth c B H1 locs LS hP1 (grow_S hS (by rw [z1, hP.1]; omega) o1) hL
  simp only [List.map_cons, av, hinj q, hoff] at this
  rw [hP.1, show cells + 1 + N = cells + (1 + N) by omega, show slots + N + N * K' = slots + (N + N * K') by omega]
  exact this
theorem K_ret (hret : M.2.2.2 = none) (hn : n = n1) (hwf : ∀ i, i < n → w i = wf i) (hC : cells = C) (hS0 : slots = S) (hdg : decode M.2.1 pc = .ok (.return_, 1)) : JK Γ l z d C S M n1 wf pc lv [] n cells slots w := by
  intro pr e s m args below meth c B H locs LS hP hS hL
  obtain ⟨hx, hb, hr, hml, hts, hown, hlocks, hK, hN', hinj, hin2, hov⟩ := id B
  subst hn
  subst hC
  subst hS0
  exact W.vret hx hb (hr.trans hret) (fun t ht _ => ⟨⟨(), rfl, trivial, by show KW Γ z n wf t.heap; rw [ht]; exact hP.to hwf⟩, hS.F ht⟩) (fun q hq => hS.2.2 q hq) hdg hlocks
end JKR

/-! CONSTRUCTORS: calls, and the rows that Arrays.fill needs -/
theorem simK_blind {Γ : GG} {z n : Nat} {w : WK} {vs : List Value} : FrameBlind (va_Pc vs (SimK Γ z n w)) := by
  intro a U g mk h
  obtain ⟨h1, h2, h3, h4, h5, h6⟩ := h
  exact ⟨h1, h2, va_K.moved (u := U) (U := U.calling g mk a) (Vm.Alike.refl U.vm) h3, fun w hw => va_Nw.same (ntbl_on hw) (rfl : U.vm = (U.calling g mk a).vm) (h4 w hw), h5, over_moved (u := U) (E := U.calling g mk a) (Vm.Alike.refl U.vm) h6⟩
theorem simK_at {Γ : GG} {z n : Nat} {w : WK} {s U : State} {H : Heap} (hP : KW Γ z n w H) (hK : va_K Γ.2.2 vwCl (tysG Γ) s) (hN : ∀ w ∈ ntbl, va_Nw w s) (hI : ∀ q, Γ.1 q = z + off q) (hov : OV s) (hU : U.heap = H) (hW : s.WarmedH U.vm) : SimK Γ z n w U :=
  ⟨by rw [hU]; exact hP, va_K.moved hW.alike hK, fun w hw => ntbl_warm hw hW (hN w hw), hI, over_moved hW.alike hov⟩
def CtorG (Γ : GG) (l : Launch) (z d C S : Nat) (M : MD) (xs : List Value) (n : Nat) (w : WK) (n1 : Nat) (wf : WK) : Prop :=
  Met l M.1 (wsM M) (rmK d C S) (va_Pc (xs.map (av Γ.1)) (SimK Γ z n w)) (QK Γ z n1 wf) C S (AK z)
theorem room_K (d C S : Nat) {R : Room} {n : Nat} (hf : R.frames = d + 1) (hl : R.locals = 64 * (d + 1)) (h : n ≤ 45) : (rmK d C S).frames + 1 ≤ R.frames ∧ 8 + (n + 11) + (rmK d C S).locals ≤ R.locals := by
  rw [hf, hl]
  exact ⟨Nat.le_refl _, by show 8 + (n + 11) + 64 * d ≤ 64 * (d + 1); omega⟩
/-- a constructor out of its walk -/
theorem CtorG_of_JK {Γ : GG} {l : Launch} {z d C S : Nat} {M : MD} {xs : List Value} {n n1 : Nat} {w wf : WK} {lv : List (Nat × Value)} (hp : plainName M.1.cls = true) (hlen : ∀ ad : Nat → Nat, (lg_sl (xs.map (av ad))).length ≤ M.2.2.1) (hlv : ∀ ad : Nat → Nat, lv_args 0 (xs.map (av ad)) = mL ad lv) (k : JK Γ l z d C S M n1 wf 0 lv [] n 0 0 w) : CtorG Γ l z d C S M xs n w n1 wf := by
  refine Met.ofW (cc := M.2.1) (maxL := M.2.2.1) (ret := M.2.2.2) hp rfl ?_
  intro p e s m args below meth c s₁ B hml hv
  obtain ⟨rfl, hP, hK, hN, hI, hov⟩ := hv
  have hts := atoms_spec (ws := wsM M) B.pre
  have base : BaseK Γ z M p s m (xs.map (av Γ.1)).toArray meth c := ⟨B.exec, B.bytes, B.returns, hml, fun w hw => hts w (List.mem_cons_of_mem _ hw), findClass_of_methodNamed B.named, B.notSynchronized, hK, hN, hI, (name_of_methodNamed B.named B.method).1, hov⟩
  have hl := lv_entry (xs.map (av Γ.1)) (n := M.2.2.1) (hlen Γ.1)
  rw [lg_entry_eq]
  exact k p e s m _ below meth c base s.heap [] _ hP va_S.rf (by rw [← hlv]; exact hl)
section JKC
variable {Γ : GG} {l : Launch} {z d C S : Nat} {M : MD} {n1 : Nat} {wf : WK} {pc : Nat} {lv : List (Nat × Value)} {st : List Value} {n cells slots : Nat} {w : WK}
theorem K_objInit {idx x : Nat} (hw : Cond.methodLink M.1.cls idx Lib.objectInit ∈ gtbl) (hwi : Cond.instanceMethod Lib.objectInit ∈ gtbl) (hwc : Cond.code Lib.objectInit ⟨#[0xb1]⟩ 1 none ∈ gtbl) (hdg : decode M.2.1 pc = .ok (.invokespecial idx, 3)) (k : JK Γ l z (d + 1) C S M n1 wf (pc + 3) lv [] n cells slots w) : JK Γ l z (d + 1) C S M n1 wf pc lv [.ref x] n cells slots w := by
  intro p e s m args below meth c B H locs LS hP hS hL
  obtain ⟨hx, hb, hr, hml, hts, hown, hlocks, hK, hN, hinj, hnm, hov⟩ := id B
  exact W.objInit hx hb hown (hts _ hw) (hts _ hwi) (hts _ hwc) rfl (by rw [hml]; exact hL.1) rfl hdg (Nat.le_add_left _ _) (Nat.le_trans (Nat.le_of_ble_eq_true rfl : _ ≤ 64) (by show 64 ≤ 64 * (d + 1); omega)) (k p e s m args below meth c B H locs LS hP hS hL)
theorem K_mmax {index : Nat} {x y : Int32} (hw : Cond.methodLink M.1.cls index Lib.Math.max.name ∈ gtbl) (hcat : (st.map fun v => v.category).sum ≤ 8) (hC : cells ≤ C) (hS0 : slots ≤ S) (hdg : decode M.2.1 pc = .ok (.invokestatic index, 3)) (k : JK Γ l z (d + 1) C S M n1 wf (pc + 3) lv (.int (if x < y then y else x) :: st) n cells slots w) : JK Γ l z (d + 1) C S M n1 wf pc lv (.int y :: .int x :: st) n cells slots w := by
  intro p e s m args below meth c B H locs LS hP hS hL
  obtain ⟨hx, hb, hr, hml, hts, hown, hlocks, hK, hN, hinj, hnm, hov⟩ := id B
  exact va_mmax hx hb (hml.trans hL.1.symm) hown (hts _ hw) (hts _ wMaxS) (hts _ wMathI) (hts _ wMaxC) (Nat.le_add_left _ _) (by rw [cat_av]; show _ ≤ 64 * (d + 1); omega) hC hS0 hdg (k p e s m args below meth c B H locs LS hP hS hL)
theorem K_callI {M2 : MD} {index nA b n2 C2 S2 c' s' : Nat} {w2 : WK} (As rest : List Value) (hB : CalB M2 nA) (hret : M2.2.2.2 = none) (hnm2 : M2.1.name = "<init>") (hin : Cond.instanceMethod M2.1 ∈ gtbl) (hlink : Cond.methodLink M.1.cls index M2.1 ∈ gtbl) (hM : CtorG Γ l z d C2 S2 M2 (.ref b :: As) n w n2 w2) (hst : st = As.reverse ++ .ref b :: rest) (hn : As.length = nA) (hcat : (rest.map fun v => v.category).sum ≤ 8) (hcc : cells + C2 = c') (hss : slots + S2 = s') (hC : c' ≤ C) (hSl : s' ≤ S) (hdg : decode M.2.1 pc = .ok (.invokespecial index, 3))
    (k : JK Γ l z (d + 1) C S M n1 wf (pc + 3) lv rest n2 c' s' w2) : JK Γ l z (d + 1) C S M n1 wf pc lv st n cells slots w := by
  intro p e s m args below meth c B H locs LS hP hS hL
  obtain ⟨hx, hb, hr, hml, hts, hown, hlocks, hK, hN, hinj, hnm, hov⟩ := id B
  subst hcc
  subst hss
  refine va_callv (rest := rest.map (av Γ.1)) (A0 := AK z) (A1 := AK z) (H0 := s.heap) (va_runI (b := Γ.1 b) (As := As.map (av Γ.1)) (rest := rest.map (av Γ.1)) (rm := rmK d C2 S2) (mc := C2) (ms := S2) ⟨hx, hb, hml, hown, hts⟩ hM ⟨by rw [← hret]; exact callB_of nA hts (good_wsM hB gtbl_good) rfl rfl rfl (hts _ hB.2.1) (hts _ hlink) hB.2.2.1 (room_K d C2 S2 rfl rfl hB.2.2.2), hnm2, hts _ hin⟩ ⟨simK_blind, fun U hU hW => ⟨rfl, simK_at hP hK hN hinj hov hU hW⟩⟩ rfl (by simpa using hn) hL.1 (stack_V hst) (lv_room (by rw [cat_av]; exact hcat)) hdg ⟨hC, hSl⟩) hS (fun _ _ h => h) (fun _ h => h) (fun _ t H1 locs1 ht _ _ hB1 _ _ hS1 => ?_)
  rw [ht] at hB1
  exact k p e s m args below meth c B H1 locs1 LS hB1 hS1 hL
theorem K_callIN {M2 : MD} {host : String} {index nA b n2 C2 S2 c' s' : Nat} {w2 : WK} (As rest : List Value) (hB : CalB M2 nA) (hret : M2.2.2.2 = none) (hnm2 : M2.1.name = "<init>") (hin : Cond.instanceMethod M2.1 ∈ gtbl) (hlink : Cond.methodLinkNest M.1.cls index M2.1 host ∈ ntbl) (hM : CtorG Γ l z d C2 S2 M2 (.ref b :: As) n w n2 w2) (hst : st = As.reverse ++ .ref b :: rest) (hn : As.length = nA) (hcat : (rest.map fun v => v.category).sum ≤ 8) (hcc : cells + C2 = c') (hss : slots + S2 = s') (hC : c' ≤ C) (hSl : s' ≤ S) (hdg : decode M.2.1 pc = .ok (.invokespecial index, 3))
    (k : JK Γ l z (d + 1) C S M n1 wf (pc + 3) lv rest n2 c' s' w2) : JK Γ l z (d + 1) C S M n1 wf pc lv st n cells slots w := by
  intro p e s m args below meth c B H locs LS hP hS hL
  obtain ⟨hx, hb, hr, hml, hts, hown, hlocks, hK, hN, hinj, hnm, hov⟩ := id B
  subst hcc
  subst hss
  refine va_callv (rest := rest.map (av Γ.1)) (A0 := AK z) (A1 := AK z) (H0 := s.heap) (va_runIN (host := host) (b := Γ.1 b) (As := As.map (av Γ.1)) (rest := rest.map (av Γ.1)) (rm := rmK d C2 S2) (mc := C2) (ms := S2) ⟨hx, hb, hml, hown, hts⟩ hM ⟨by rw [← hret]; exact va_cnB nA hts (good_wsM hB gtbl_good) rfl rfl rfl (hN _ hlink) (hts _ hB.2.1) hB.2.2.1 (room_K d C2 S2 rfl rfl hB.2.2.2), hnm2, hts _ hin⟩ ⟨simK_blind, fun U hU hW => ⟨rfl, simK_at hP hK hN hinj hov hU hW⟩⟩ rfl (by simpa using hn) hL.1 (stack_V hst) (lv_room (by rw [cat_av]; exact hcat)) hdg ⟨hC, hSl⟩) hS (fun _ _ h => h) (fun _ h => h) (fun _ t H1 locs1 ht _ _ hB1 _ _ hS1 => ?_)
  rw [ht] at hB1
  exact k p e s m args below meth c B H1 locs1 LS hB1 hS1 hL
theorem K_callS {M2 : MD} {index nA n2 C2 S2 c' s' : Nat} {w2 : WK} (As rest : List Value) (hcal : CalS M2 nA) (hlink : Cond.methodLink M.1.cls index M2.1 ∈ gtbl) (hM : CtorG Γ l z d C2 S2 M2 As n w n2 w2) (hst : st = As.reverse ++ rest) (hn : As.length = nA) (hcat : (rest.map fun v => v.category).sum ≤ 8) (hcc : cells + C2 = c') (hss : slots + S2 = s') (hC : c' ≤ C) (hSl : s' ≤ S) (hdg : decode M.2.1 pc = .ok (.invokestatic index, 3))
    (k : JK Γ l z (d + 1) C S M n1 wf (pc + 3) lv rest n2 c' s' w2) : JK Γ l z (d + 1) C S M n1 wf pc lv st n cells slots w := by
  intro p e s m args below meth c B H locs LS hP hS hL
  obtain ⟨hx, hb, hr, hml, hts, hown, hlocks, hK, hN, hinj, hnm, hov⟩ := id B
  obtain ⟨hB, hst2⟩ := hcal
  subst hcc
  subst hss
  refine va_callv (rest := rest.map (av Γ.1)) (A0 := AK z) (A1 := AK z) (H0 := s.heap) (va_runS (As := As.map (av Γ.1)) (rest := rest.map (av Γ.1)) (rm := rmK d C2 S2) (mc := C2) (ms := S2) ⟨hx, hb, hml, hown, hts⟩ hM ⟨callB_of nA hts (good_wsM hB gtbl_good) rfl rfl rfl (hts _ hB.2.1) (hts _ hlink) hB.2.2.1 (room_K d C2 S2 rfl rfl hB.2.2.2), hts _ hst2⟩ ⟨simK_blind, fun U hU hW => ⟨rfl, simK_at hP hK hN hinj hov hU hW⟩⟩ rfl (by simpa using hn) hL.1 (stack_S hst) (lv_room (by rw [cat_av]; exact hcat)) hdg ⟨hC, hSl⟩) hS (fun _ _ h => h) (fun _ h => h) (fun _ t H1 locs1 ht _ _ hB1 _ _ hS1 => ?_)
  rw [ht] at hB1
  exact k p e s m args below meth c B H1 locs1 LS hB1 hS1 hL
theorem K_istore_n {kf : Fin 4} {i : Nat} {x : Int32} {lv' : List (Nat × Value)} (hdg : decode M.2.1 pc = .ok (.istore_n kf, 1)) (hi : (kf : Nat) = i) (hn : i < M.2.2.1) (hl : (i, Value.int x) :: lv.filter (fun q => !(q.1 == i) && !(q.1 + 1 == i && q.2.category == 2)) = lv') (k : JK Γ l z d C S M n1 wf (pc + 1) lv' st n cells slots w) : JK Γ l z d C S M n1 wf pc lv (.int x :: st) n cells slots w := by
  intro p e s m args below meth c B H locs LS hP hS hL
  obtain ⟨hx, hb, hr, hml, hts, hown, hlocks, hK, hN, hinj, hnm, hov⟩ := id B
  refine lv_istore_n (lv' := mL Γ.1 lv') hx hb hdg hi hL hn ?_ (fun LS1 hL1 => k p e s m args below meth c B H locs LS1 hP hS hL1)
  rw [← hl]
  show _ :: (mL Γ.1 lv).filter (fun q => !(q.1 == i) && !(q.1 + 1 == i && q.2.category == 2)) = _ :: mL Γ.1 (lv.filter (fun q => !(q.1 == i) && !(q.1 + 1 == i && q.2.category == 2)))
  rw [mL_filter lv (fun a b => !(a == i) && !(a + 1 == i && b == 2))]
  rfl
theorem K_iinc {i kk : Nat} {nn : Int} {x v : Int32} {lv' : List (Nat × Value)} (hdg : decode M.2.1 pc = .ok (.iinc i nn, 3)) (hk : lv[kk]? = some (i, .int x)) (hv : x + Int32.ofInt nn = v) (hn : i < M.2.2.1) (hl : (i, Value.int v) :: lv.filter (fun q => !(q.1 == i) && !(q.1 + 1 == i && q.2.category == 2)) = lv') (k : JK Γ l z d C S M n1 wf (pc + 3) lv' st n cells slots w) : JK Γ l z d C S M n1 wf pc lv st n cells slots w := by
  intro p e s m args below meth c B H locs LS hP hS hL
  obtain ⟨hx, hb, hr, hml, hts, hown, hlocks, hK, hN, hinj, hnm, hov⟩ := id B
  refine lv_iinc (lv' := mL Γ.1 lv') (k := kk) hx hb hdg hL (mL_get hk) hv hn ?_ (fun LS1 hL1 => k p e s m args below meth c B H locs LS1 hP hS hL1)
  rw [← hl]
  show _ :: (mL Γ.1 lv).filter (fun q => !(q.1 == i) && !(q.1 + 1 == i && q.2.category == 2)) = _ :: mL Γ.1 (lv.filter (fun q => !(q.1 == i) && !(q.1 + 1 == i && q.2.category == 2)))
  rw [mL_filter lv (fun a b => !(a == i) && !(a + 1 == i && b == 2))]
  rfl
theorem K_goto {of : Int} {tgt : Nat} (hdg : decode M.2.1 pc = .ok (.goto of, 3)) (ht : (pc : Int) + of = (tgt : Int)) (k : JK Γ l z d C S M n1 wf tgt lv st n cells slots w) : JK Γ l z d C S M n1 wf pc lv st n cells slots w := by
  intro p e s m args below meth c B H locs LS hP hS hL
  obtain ⟨hx, hb, hr, hml, hts, hown, hlocks, hK, hN, hinj, hnm, hov⟩ := id B
  exact lv_goto hx hb hdg ht (k p e s m args below meth c B H locs LS hP hS hL)
theorem K_icmp_ge {x y : Int32} {of : Int} (tgt : Nat) (hdg : decode M.2.1 pc = .ok (.if_icmp .ge of, 3)) (ht : (pc : Int) + of = (tgt : Int)) (kt : y ≤ x → JK Γ l z d C S M n1 wf tgt lv st n cells slots w) (kf : ¬ y ≤ x → JK Γ l z d C S M n1 wf (pc + 3) lv st n cells slots w) : JK Γ l z d C S M n1 wf pc lv (.int y :: .int x :: st) n cells slots w := by
  intro p e s m args below meth c B H locs LS hP hS hL
  obtain ⟨hx, hb, hr, hml, hts, hown, hlocks, hK, hN, hinj, hnm, hov⟩ := id B
  exact lv_icmp_ge hx hb hdg ht (fun h => kt h p e s m args below meth c B H locs LS hP hS hL) (fun h => kf h p e s m args below meth c B H locs LS hP hS hL)
theorem K_alen {q N : Nat} {v : Int32} {f : Nat → Int32} (hq : off q < n) (hw : w (off q) = .inl (Γ.2.1 0, N, .inl f)) (hv : Int32.ofNat N = v) (hdg : decode M.2.1 pc = .ok (.arraylength, 1)) (k : JK Γ l z d C S M n1 wf (pc + 1) lv (.int v :: st) n cells slots w) : JK Γ l z d C S M n1 wf pc lv (.ref q :: st) n cells slots w := by
  intro p e s m args below meth c B H locs LS hP hS hL
  obtain ⟨hx, hb, hr, hml, hts, hown, hlocks, hK, hN, hinj, hnm, hov⟩ := id B
  subst hv
  have he := hP.2 (off q) hq
  rw [hw, ← hinj q] at he
  exact W.alen (n := Int32.ofNat N) hx hb (show H[Γ.1 q]? = some (vp_cell (Γ.2.1 0) (N, .inl f)) from he) ((hK.2 0 _ rfl).1 N (fun j => .int (f j))) (by rw [vp_cell_i, arrV_size]) rfl rfl hdg (k p e s m args below meth c B H locs LS hP hS hL)
theorem K_iast {q N : Nat} {i x : Int32} {f : Nat → Int32} (hq : off q < n) (hw : w (off q) = .inl (Γ.2.1 0, N, .inl f)) (hin : vp_in i N) (hdg : decode M.2.1 pc = .ok (.iastore, 1)) (k : JK Γ l z d C S M n1 wf (pc + 1) lv st n cells slots (put1 w (off q) (.inl (Γ.2.1 0, N, .inl (upd f i.toNatClampNeg x))))) : JK Γ l z d C S M n1 wf pc lv (.int x :: .int i :: .ref q :: st) n cells slots w := by
  intro p e s m args below meth c B H locs LS hP hS hL
  obtain ⟨hx, hb, hr, hml, hts, hown, hlocks, hK, hN, hinj, hnm, hov⟩ := id B
  have he := hP.2 (off q) hq
  rw [hw] at he
  have he2 : H[Γ.1 q]? = some (vp_cell (Γ.2.1 0) (N, .inl f)) := by rw [hinj q]; exact he
  refine W.iast hx hb he2 ((hK.2 0 _ rfl).1 N (fun j => .int (f j))) (fun q => by cases q) (by show ¬ (i < 0 ∨ (arrV _ _ _).slots.size ≤ _); rw [arrV_size]; exact hin) rfl rfl hdg fun H1 e1 z1 o1 => ?_
  refine k p e s m args below meth c B H1 _ LS (hP.set z1 (by rw [← hinj q]; exact o1) ?_) (hS.put z1 o1 (by rw [hinj q]; exact Nat.le_add_right _ _)) hL
  show H1[z + off q]? = some (vp_cell _ _)
  rw [← hinj q, e1, vp_cell_i, vp_cell_i, arrV_store]
  congr 2
  funext j
  by_cases hj : j = i.toNatClampNeg
  · simp [updV, upd, hj]
  · simp [updV, upd, hj]
end JKC

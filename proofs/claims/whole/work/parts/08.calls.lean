/-! CALLS: contracts (Meth) used and made -/
theorem va_callG {p : Program} {l : Launch} {e : Env} {R : Room} {s : State} {m : MethodId} {args : Array Value} {below : List Frame} {meth : Method} {c : Code} {H : Heap} {locs : List Loc} {cells slots : Nat} {Z : State → Prop} {Γ : GG} {Q0 : Option Value → St → Prop} {a : Array Value} {pc : Nat} {LS : Array Slot} {st0 rest : List Value} {A0 : Nat → Prop} {H0 : Heap}
    (hr : va_Run p l e R s m args below meth c H locs cells slots 0 0 (F0 m pc LS st0) rest (QG Γ Q0 a) (AG Γ)) (hS : va_S A0 H0 H locs) (hA : ∀ q, AG Γ q → A0 q)
    (kk : ∀ (v : Option Value) (σ' : St) (H1 : Heap) (locs1 : List Loc), Q0 v σ' → va_P Γ.2.2 vwCl (wsG Γ σ') H1 → va_S A0 H0 H1 locs1 → W p l e R s m args below meth c H1 locs1 cells slots Z (F0 m (pc + 3) LS ((v.map (av Γ.1)).toList ++ rest))) : W p l e R s m args below meth c H locs cells slots Z (F0 m pc LS st0) := by
  intro T hT X
  obtain ⟨v, st₀, t, T', L, h0, X', hL, e1, e2, ⟨⟨v', σ', hv, hq, hp⟩, hz, hk⟩, st⟩ := hr T hT X
  cases hv
  rw [h0] at hz hk
  obtain ⟨t2, a1, b1⟩ := kk v' σ' T'.heap (locs ++ L) hq (by rw [e1]; exact hp)
    ⟨Nat.le_trans hS.1 (by rw [e1]; exact hz), fun q h1 h2 => by rw [e1, hk q (Nat.lt_of_lt_of_le h1 hS.1) (fun z => h2 (hA q z))]; exact hS.2.1 q h1 h2, fun q hq => by
      rcases List.mem_append.mp hq with h | h
      · exact hS.2.2 q h
      · exact hA _ (hL q h)⟩ T' rfl X'
  exact ⟨t2, st t2 a1, b1⟩
/-- what the tables say of a method that is called: its code, its class, its arguments; V: an instance's; S: static -/
def CalB (M2 : MD) (nA : Nat) : Prop := Cond.code M2.1 M2.2.1 M2.2.2.1 M2.2.2.2 ∈ gtbl ∧ Cond.initialized M2.1.cls ∈ gtbl ∧ (M2.1.cls ≠ "java/lang/invoke/MethodHandle" ∧ M2.1.cls ≠ "java/lang/invoke/VarHandle" ∧ (parseMethodDescriptor M2.1.desc).map (fun d => d.parameters.length) = some nA) ∧ M2.2.2.1 ≤ 45
def CalV (M2 : MD) (nA : Nat) : Prop := CalB M2 nA ∧ Cond.instanceMethod M2.1 ∈ gtbl ∧ Cond.selects M2.1.cls M2.1 M2.1 ∈ gtbl
def CalS (M2 : MD) (nA : Nat) : Prop := CalB M2 nA ∧ Cond.static M2.1 ∈ gtbl
theorem good_wsM {big : List Cond} {M2 : MD} {nA : Nat} (h : CalB M2 nA) (hb : GoodIn big gtbl) : GoodIn big (wsM M2) := by
  intro w hw
  rcases List.mem_cons.mp hw with rfl | h2
  · exact hb _ h.1
  · exact hb _ h2
theorem simU_blind {Γ : GG} {σ : St} {vs : List Value} : FrameBlind (va_Pc vs (SimU Γ σ)) := by
  intro a U g mk h
  obtain ⟨h1, h2, h3, h4, h5⟩ := h
  exact ⟨h1, h2, va_K.moved (u := U) (U := U.calling g mk a) (Vm.Alike.refl U.vm) h3, fun w hw => va_Nw.same (ntbl_on hw) (rfl : U.vm = (U.calling g mk a).vm) (h4 w hw), h5⟩
theorem simU_at {Γ : GG} {σ : St} {s U : State} {H : Heap} (hP : va_P Γ.2.2 vwCl (wsG Γ σ) H) (hK : va_K Γ.2.2 vwCl (tysG Γ) s) (hN : ∀ w ∈ ntbl, va_Nw w s) (hI : injG Γ) (hU : U.heap = H) (hW : s.WarmedH U.vm) : SimU Γ σ U :=
  ⟨by rw [hU]; exact hP, va_K.moved hW.alike hK, fun w hw => ntbl_warm hw hW (hN w hw), hI⟩
theorem cat_av (ad : Nat → Nat) (rest : List Value) : ((rest.map (av ad)).map fun v => v.category).sum = (rest.map fun v => v.category).sum := by
  rw [List.map_map]
  congr 1
  apply List.map_congr_left
  intro v _
  exact av_cat ad v
theorem stack_V {ad : Nat → Nat} {st As rest : List Value} {b : Nat} (h : st = As.reverse ++ .ref b :: rest) : st.map (av ad) = (As.map (av ad)).reverse ++ .ref (ad b) :: rest.map (av ad) := by
  subst h
  simp [av]
theorem stack_S {ad : Nat → Nat} {st As rest : List Value} (h : st = As.reverse ++ rest) : st.map (av ad) = (As.map (av ad)).reverse ++ rest.map (av ad) := by
  subst h
  simp
theorem room_D (d : Nat) {n : Nat} (h : n ≤ 45) : (rmD d).frames + 1 ≤ (rmD (d + 1)).frames ∧ 8 + (n + 11) + (rmD d).locals ≤ (rmD (d + 1)).locals := by
  unfold rmD
  exact ⟨Nat.le_refl _, by show 8 + (n + 11) + 64 * d ≤ 64 * (d + 1); omega⟩
theorem st_v (ad : Nat → Nat) (v : Option Value) (rest : List Value) : (v.map (av ad)).toList ++ rest.map (av ad) = (v.toList ++ rest).map (av ad) := by
  cases v <;> simp
section JC
variable {Γ : GG} {l : Launch} {d : Nat} {M : MD} {Q : Option Value → St → Prop} {pc : Nat} {lv : List (Nat × Value)} {st : List Value} {σ : St}
theorem J_callV {M2 : MD} {index nA b ci Nf : Nat} {T : u_T} {fk : List Nat} (As rest : List Value) (hcal : CalV M2 nA) (hw : Cond.methodLink M.1.cls index M2.1 ∈ gtbl) (hq : b < nC) (hs : sk b = .inl (ci, fk)) (hc : vwCl[ci]? = some (M2.1.cls, T, Nf)) (hst : st = As.reverse ++ .ref b :: rest) (hn : As.length = nA) (hcat : (rest.map fun v => v.category).sum ≤ 8) (hdg : decode M.2.1 pc = .ok (.invokevirtual index, 3))
    (k : Meth Γ l d M2 (.ref b :: As) σ (fun v σ' => J Γ l (d + 1) M Q (pc + 3) lv (v.toList ++ rest) σ')) : J Γ l (d + 1) M Q pc lv st σ := by
  intro p e s m args below meth c B H locs LS hP hS hL
  obtain ⟨hx, hb, hr, hml, hts, hown, hlocks, hK, hN, hinj⟩ := id B
  obtain ⟨Q0, hq0, hM⟩ := k
  obtain ⟨hB, hin, hse⟩ := hcal
  have hE : (wsG Γ σ)[b]? = some (Γ.1 b, .inr (ci, fvs Γ.1 σ b fk)) := (ws_get hq).trans (by rw [ce_obj hs])
  refine va_callG (rest := rest.map (av Γ.1)) (Q0 := Q0) (A0 := AG Γ) (H0 := s.heap) (va_runV (b := Γ.1 b) (As := As.map (av Γ.1)) (rest := rest.map (av Γ.1)) (rm := rmD d) (mc := 0) (ms := 0) ⟨hx, hb, hml, hown, hts⟩ hM ⟨callB_of nA hts (good_wsM hB gtbl_good) rfl rfl rfl (hts _ hB.2.1) (hts _ hw) hB.2.2.1 (room_D d hB.2.2.2), hts _ hin, hts _ hse⟩ ⟨simU_blind, va_recv hK hP hc hE, fun U hU hW => ⟨rfl, simU_at hP hK hN hinj hU hW⟩⟩ rfl (by simpa using hn) hL.1 (stack_V hst) (lv_room (by rw [cat_av]; exact hcat)) hdg ⟨Nat.zero_le _, Nat.zero_le _⟩) hS (fun _ h => h) (fun v σ' H1 locs1 hv hP1 hS1 => ?_)
  rw [st_v]
  exact hq0 v σ' hv p e s m args below meth c B H1 locs1 LS hP1 hS1 hL
theorem J_callVN {M2 : MD} {host : String} {index nA b ci Nf : Nat} {T : u_T} {fk : List Nat} (As rest : List Value) (hcal : CalV M2 nA) (hw : Cond.methodLinkNest M.1.cls index M2.1 host ∈ ntbl) (hq : b < nC) (hs : sk b = .inl (ci, fk)) (hc : vwCl[ci]? = some (M2.1.cls, T, Nf)) (hst : st = As.reverse ++ .ref b :: rest) (hn : As.length = nA) (hcat : (rest.map fun v => v.category).sum ≤ 8) (hdg : decode M.2.1 pc = .ok (.invokevirtual index, 3))
    (k : Meth Γ l d M2 (.ref b :: As) σ (fun v σ' => J Γ l (d + 1) M Q (pc + 3) lv (v.toList ++ rest) σ')) : J Γ l (d + 1) M Q pc lv st σ := by
  intro p e s m args below meth c B H locs LS hP hS hL
  obtain ⟨hx, hb, hr, hml, hts, hown, hlocks, hK, hN, hinj⟩ := id B
  obtain ⟨Q0, hq0, hM⟩ := k
  obtain ⟨hB, hin, hse⟩ := hcal
  have hE : (wsG Γ σ)[b]? = some (Γ.1 b, .inr (ci, fvs Γ.1 σ b fk)) := (ws_get hq).trans (by rw [ce_obj hs])
  refine va_callG (rest := rest.map (av Γ.1)) (Q0 := Q0) (A0 := AG Γ) (H0 := s.heap) (va_runVN (host := host) (C := M2.1.cls) (b := Γ.1 b) (As := As.map (av Γ.1)) (rest := rest.map (av Γ.1)) (rm := rmD d) (mc := 0) (ms := 0) ⟨hx, hb, hml, hown, hts⟩ hM ⟨va_cnB nA hts (good_wsM hB gtbl_good) rfl rfl rfl (hN _ hw) (hts _ hB.2.1) hB.2.2.1 (room_D d hB.2.2.2), hts _ hin, hts _ hse⟩ ⟨simU_blind, va_recv hK hP hc hE, fun U hU hW => ⟨rfl, simU_at hP hK hN hinj hU hW⟩⟩ rfl (by simpa using hn) hL.1 (stack_V hst) (lv_room (by rw [cat_av]; exact hcat)) hdg ⟨Nat.zero_le _, Nat.zero_le _⟩) hS (fun _ h => h) (fun v σ' H1 locs1 hv hP1 hS1 => ?_)
  rw [st_v]
  exact hq0 v σ' hv p e s m args below meth c B H1 locs1 LS hP1 hS1 hL
theorem J_callS {M2 : MD} {index nA : Nat} (As rest : List Value) (hcal : CalS M2 nA) (hw : Cond.methodLink M.1.cls index M2.1 ∈ gtbl) (hst : st = As.reverse ++ rest) (hn : As.length = nA) (hcat : (rest.map fun v => v.category).sum ≤ 8) (hdg : decode M.2.1 pc = .ok (.invokestatic index, 3))
    (k : Meth Γ l d M2 As σ (fun v σ' => J Γ l (d + 1) M Q (pc + 3) lv (v.toList ++ rest) σ')) : J Γ l (d + 1) M Q pc lv st σ := by
  intro p e s m args below meth c B H locs LS hP hS hL
  obtain ⟨hx, hb, hr, hml, hts, hown, hlocks, hK, hN, hinj⟩ := id B
  obtain ⟨Q0, hq0, hM⟩ := k
  obtain ⟨hB, hst2⟩ := hcal
  refine va_callG (rest := rest.map (av Γ.1)) (Q0 := Q0) (A0 := AG Γ) (H0 := s.heap) (va_runS (As := As.map (av Γ.1)) (rest := rest.map (av Γ.1)) (rm := rmD d) (mc := 0) (ms := 0) ⟨hx, hb, hml, hown, hts⟩ hM ⟨callB_of nA hts (good_wsM hB gtbl_good) rfl rfl rfl (hts _ hB.2.1) (hts _ hw) hB.2.2.1 (room_D d hB.2.2.2), hts _ hst2⟩ ⟨simU_blind, fun U hU hW => ⟨rfl, simU_at hP hK hN hinj hU hW⟩⟩ rfl (by simpa using hn) hL.1 (stack_S hst) (lv_room (by rw [cat_av]; exact hcat)) hdg ⟨Nat.zero_le _, Nat.zero_le _⟩) hS (fun _ h => h) (fun v σ' H1 locs1 hv hP1 hS1 => ?_)
  rw [st_v]
  exact hq0 v σ' hv p e s m args below meth c B H1 locs1 LS hP1 hS1 hL
theorem J_callSN {M2 : MD} {host : String} {index nA : Nat} (As rest : List Value) (hcal : CalS M2 nA) (hw : Cond.methodLinkNest M.1.cls index M2.1 host ∈ ntbl) (hst : st = As.reverse ++ rest) (hn : As.length = nA) (hcat : (rest.map fun v => v.category).sum ≤ 8) (hdg : decode M.2.1 pc = .ok (.invokestatic index, 3))
    (k : Meth Γ l d M2 As σ (fun v σ' => J Γ l (d + 1) M Q (pc + 3) lv (v.toList ++ rest) σ')) : J Γ l (d + 1) M Q pc lv st σ := by
  intro p e s m args below meth c B H locs LS hP hS hL
  obtain ⟨hx, hb, hr, hml, hts, hown, hlocks, hK, hN, hinj⟩ := id B
  obtain ⟨Q0, hq0, hM⟩ := k
  obtain ⟨hB, hst2⟩ := hcal
  refine va_callG (rest := rest.map (av Γ.1)) (Q0 := Q0) (A0 := AG Γ) (H0 := s.heap) (va_runSN (host := host) (As := As.map (av Γ.1)) (rest := rest.map (av Γ.1)) (rm := rmD d) (mc := 0) (ms := 0) ⟨hx, hb, hml, hown, hts⟩ hM ⟨va_cnB nA hts (good_wsM hB gtbl_good) rfl rfl rfl (hN _ hw) (hts _ hB.2.1) hB.2.2.1 (room_D d hB.2.2.2), hts _ hst2, trivial⟩ ⟨simU_blind, fun U hU hW => ⟨rfl, simU_at hP hK hN hinj hU hW⟩⟩ rfl (by simpa using hn) hL.1 (stack_S hst) (lv_room (by rw [cat_av]; exact hcat)) hdg ⟨Nat.zero_le _, Nat.zero_le _⟩) hS (fun _ h => h) (fun v σ' H1 locs1 hv hP1 hS1 => ?_)
  rw [st_v]
  exact hq0 v σ' hv p e s m args below meth c B H1 locs1 LS hP1 hS1 hL
/-- a contract out of a walk from the entry -/
theorem Meth_of_J {As : List Value} (hp : plainName M.1.cls = true) (hlen : ∀ ad : Nat → Nat, (lg_sl (As.map (av ad))).length ≤ M.2.2.1) (hlv : ∀ ad : Nat → Nat, lv_args 0 (As.map (av ad)) = mL ad lv) (k : J Γ l d M Q 0 lv [] σ) : Meth Γ l d M As σ Q := by
  refine ⟨Q, fun _ _ h => h, Met.ofW (cc := M.2.1) (maxL := M.2.2.1) (ret := M.2.2.2) hp rfl ?_⟩
  intro p e s m args below meth c s₁ B hml hv
  obtain ⟨rfl, hP, hK, hN, hI⟩ := hv
  have hts := atoms_spec (ws := wsM M) B.pre
  have base : Base Γ M p s m (As.map (av Γ.1)).toArray meth c := ⟨B.exec, B.bytes, B.returns, hml, fun w hw => hts w (List.mem_cons_of_mem _ hw), findClass_of_methodNamed B.named, B.notSynchronized, hK, hN, hI⟩
  have hl := lv_entry (As.map (av Γ.1)) (n := M.2.2.1) (hlen Γ.1)
  rw [lg_entry_eq]
  exact k p e s m _ below meth c base s.heap [] _ hP va_S.rf (by rw [← hlv]; exact hl)
end JC

/-! THE LAW FROM ITS ENTRY: both objects are made, the first state keeps the invariant, then the loop -/
section LE
variable {p : Program} {l : Launch} {e : Env} {R : Room} {s : State} {m : MethodId} {args : Array Value} {below : List Frame} {meth : Method} {c : Code} {H : Heap} {locs : List Loc} {cells slots : Nat} {Q : State → Prop} {cc : ByteArray} {pc : Nat} {ls : Array Slot} {rest : List Value} {Γ : GG} {z n : Nat} {w : WK}
theorem E_new (hx : p.tables.exec = Jvm.exec) (hb : c.code = cc) {own C' : String} (hown : s.vm.findClass own = some m.cls) (hts : ∀ w ∈ gtbl, w.before args s = true) (hK : va_K Γ.2.2 vwCl (tysG Γ) s) {index q ci Nf : Nat} {T : u_T} {ty : Nat → FieldType} {fk : List Nat} (hus : ∀ w ∈ u_ws C' T Nf, w ∈ gtbl) (hty : ∀ k, k < Nf → parseFieldDescriptor (T k).2.2.1 = some (ty k)) (hwc : (Cond.classLink own index C').before args s = true) (hwi : Cond.instantiable C' Nf ∈ gtbl) (hwn : Cond.initialized C' ∈ gtbl) (hc : vwCl[ci]? = some (C', T, Nf)) (hfs : ∀ j, j < Nf → defaultValue (ty j) = vp_V (mixf Γ.1 q fk 0) j) (hC : cells + 1 ≤ R.cells) (hS : slots + Nf ≤ R.slots) (hP : KW Γ z n w H) (hSt : va_S (AK z) s.heap H locs) (hoff : off q = n) (hg : ∀ q, Γ.1 q = z + off q) (hdg : decode cc pc = .ok (.new index, 3))
    (kk : ∀ H1, KW Γ z (n + 1) (wk Γ q ci fk 0 w) H1 → va_S (AK z) s.heap H1 locs → W p l e R s m args below meth c H1 locs (cells + 1) (slots + Nf) Q (F0 m (pc + 3) ls (.ref (Γ.1 q) :: rest))) : W p l e R s m args below meth c H locs cells slots Q (F0 m pc ls rest) := by
  have hKn := hK.1 ci _ hc
  refine W.newcK hx hb hown hwc (hts _ hwi) (hts _ hwn) rfl hdg hC hS hKn.2.1 hP.1 fun H1 kC hkC e1 z1 o1 => ?_
  have o2 : ∀ q, q < H.size → H1[q]? = H[q]? := fun q hq => o1 q (by rw [← hP.1]; exact hq)
  have hP1 : KW Γ z (n + 1) (wk Γ q ci fk 0 w) H1 := hP.grow (k := 1) (by rw [z1]; omega) o2 (fun i hi => by unfold wk; rw [put1_ne (by omega)]) (fun i h1 h2 => by
    have : i = n := by omega
    subst this
    unfold wk
    rw [hoff, put1_at]
    exact ⟨_, hc, (u_born ty hts hus hKn hkC e1 hty).to hfs⟩)
  have := kk H1 hP1 (grow_S hSt (by rw [z1, hP.1]; omega) o2)
  rw [hg q, hoff] at this
  exact this
theorem E_init (hx : p.tables.exec = Jvm.exec) (hb : c.code = cc) {own : String} (hown : s.vm.findClass own = some m.cls) (hts : ∀ w ∈ gtbl, w.before args s = true) (hml : c.maxLocals = ls.size) (hK : va_K Γ.2.2 vwCl (tysG Γ) s) (hN : ∀ w ∈ ntbl, va_Nw w s) (hg : ∀ q, Γ.1 q = z + off q) (hov : OV s) {M2 : MD} {index q n2 C2 S2 d : Nat} {w2 : WK} (hB : CalB M2 0) (hret : M2.2.2.2 = none) (hnm2 : M2.1.name = "<init>") (hin : Cond.instanceMethod M2.1 ∈ gtbl) (hlink : (Cond.methodLink own index M2.1).before args s = true) (hM : CtorG Γ l z d C2 S2 M2 [.ref q] n w n2 w2) (hcat : (rest.map fun v => v.category).sum ≤ 8) (hR : (rmK d C2 S2).frames + 1 ≤ R.frames ∧ 8 + (M2.2.2.1 + 11) + (rmK d C2 S2).locals ≤ R.locals) (hC : cells + C2 ≤ R.cells) (hS : slots + S2 ≤ R.slots) (hP : KW Γ z n w H) (hSt : va_S (AK z) s.heap H locs) (hdg : decode cc pc = .ok (.invokespecial index, 3))
    (kk : ∀ H1 locs1, KW Γ z n2 w2 H1 → va_S (AK z) s.heap H1 locs1 → W p l e R s m args below meth c H1 locs1 (cells + C2) (slots + S2) Q (F0 m (pc + 3) ls rest)) : W p l e R s m args below meth c H locs cells slots Q (F0 m pc ls (.ref (Γ.1 q) :: rest)) := by
  refine va_callv (rest := rest) (A0 := AK z) (A1 := AK z) (H0 := s.heap) (va_runI (b := Γ.1 q) (As := []) (rest := rest) (rm := rmK d C2 S2) (mc := C2) (ms := S2) ⟨hx, hb, hml, hown, hts⟩ hM ⟨by rw [← hret]; exact callB_of 0 hts (good_wsM hB gtbl_good) rfl rfl rfl (hts _ hB.2.1) hlink hB.2.2.1 hR, hnm2, hts _ hin⟩ ⟨simK_blind, fun U hU hW => ⟨rfl, simK_at hP hK hN hg hov hU hW⟩⟩ rfl rfl rfl rfl (lv_room hcat) hdg ⟨hC, hS⟩) hSt (fun _ _ h => h) (fun _ h => h) (fun _ t H1 locs1 ht _ _ hB1 _ _ hS1 => ?_)
  rw [ht] at hB1
  exact kk H1 locs1 hB1 hS1
end LE
theorem E_arr {args : Array Value} {s : State} {ty : FieldType} (h : (Cond.arrayClass ty).before args s = true) (hRA : ∀ cA, s.vm.findClass ("[" ++ ty.toString) = some cA → va_RA s cA ty) : ∃ cA, ArrOfT s cA ty ∧ va_RA s cA ty := by
  obtain ⟨cA, kA, comp, h1, h2, h3⟩ := Cond.arrayClass_spec h
  exact ⟨cA, fun n z => ⟨fun k h => (by cases h), kA, h2, comp, h3⟩, hRA cA h1⟩
theorem E_arrA {args : Array Value} {s : State} (h : (Cond.arrayOver (.array .int)).before args s = true) : ∃ cA, ArrOfT s cA (.array .int) ∧ va_RA s cA (.array .int) := by
  obtain ⟨comp, cA, kA, hc, hi, hk, hkind, hn⟩ := arrayOverA_spec h
  exact ⟨cA, fun n z => ⟨fun k h => (by cases h), kA, hk, comp, hkind⟩, hn⟩
theorem E_D {args : Array Value} {s : State} (hts : ∀ w ∈ gtbl, w.before args s = true) : ∃ D : va_G, ∀ (k : Nat) (q : vw_C), vwCl[k]? = some q → u_Kn s q.1 q.2.1 q.2.2 (D.1 k) (D.2 k) := by
  obtain ⟨c0, i0, h0⟩ := u_known (C := RX0) (T := TX0) (N := 8) (n := 8) hts uxX0 (hts _ winX0)
  obtain ⟨c1, i1, h1⟩ := u_known (C := RX1) (T := TX1) (N := 6) (n := 6) hts uxX1 (hts _ winX1)
  obtain ⟨c2, i2, h2⟩ := u_known (C := RX2) (T := TX2) (N := 7) (n := 7) hts uxX2 (hts _ winX2)
  obtain ⟨c3, i3, h3⟩ := u_known (C := RX3) (T := TX3) (N := 3) (n := 3) hts uxX3 (hts _ winX3)
  obtain ⟨c4, i4, h4⟩ := u_known (C := RX4) (T := TX4) (N := 8) (n := 8) hts uxX4 (hts _ winX4)
  obtain ⟨c5, i5, h5⟩ := u_known (C := RX5) (T := TX5) (N := 6) (n := 6) hts uxX5 (hts _ winX5)
  obtain ⟨c6, i6, h6⟩ := u_known (C := RX6) (T := TX6) (N := 8) (n := 8) hts uxX6 (hts _ winX6)
  obtain ⟨c7, i7, h7⟩ := u_known (C := RX7) (T := TX7) (N := 2) (n := 2) hts uxX7 (hts _ winX7)
  obtain ⟨c8, i8, h8⟩ := u_known (C := RX8) (T := TX8) (N := 11) (n := 11) hts uxX8 (hts _ winX8)
  obtain ⟨c9, i9, h9⟩ := u_known (C := RX9) (T := TX9) (N := 5) (n := 5) hts uxX9 (hts _ winX9)
  obtain ⟨c10, i10, h10⟩ := u_known (C := RX10) (T := TX10) (N := 5) (n := 5) hts uxX10 (hts _ winX10)
  obtain ⟨c11, i11, h11⟩ := u_known (C := RX11) (T := TX11) (N := 14) (n := 14) hts uxX11 (hts _ winX11)
  obtain ⟨c12, i12, h12⟩ := u_known (C := RX12) (T := TX12) (N := 78) (n := 78) hts uxX12 (hts _ winX12)
  refine ⟨(fun k => [c0, c1, c2, c3, c4, c5, c6, c7, c8, c9, c10, c11, c12].getD k c0, fun k => [i0, i1, i2, i3, i4, i5, i6, i7, i8, i9, i10, i11, i12].getD k i0), ?_⟩
  intro k q hq
  match k, hq with
  | 0, hq => cases hq; exact h0
  | 1, hq => cases hq; exact h1
  | 2, hq => cases hq; exact h2
  | 3, hq => cases hq; exact h3
  | 4, hq => cases hq; exact h4
  | 5, hq => cases hq; exact h5
  | 6, hq => cases hq; exact h6
  | 7, hq => cases hq; exact h7
  | 8, hq => cases hq; exact h8
  | 9, hq => cases hq; exact h9
  | 10, hq => cases hq; exact h10
  | 11, hq => cases hq; exact h11
  | 12, hq => cases hq; exact h12
  | k + 13, hq => cases hq
theorem E_C {args : Array Value} {s : State} (hts : ∀ w ∈ gtbl, w.before args s = true) (hov : OV s) : ∃ cA : Nat → ClassId, ∀ (k : Nat) (q : ClassId × FieldType), ([(cA 0, .int), (cA 1, .byte), (cA 2, .boolean), (cA 3, .long), (cA 4, .array .int)] : List (ClassId × FieldType))[k]? = some q → ArrOfT s q.1 q.2 ∧ va_RA s q.1 q.2 := by
  obtain ⟨c0, h0⟩ := E_arr (hts _ wArrI) (fun cA h => h)
  obtain ⟨c1, h1⟩ := E_arr (hts _ wArrB) (fun cA h => h)
  obtain ⟨c2, h2⟩ := E_arr (hts _ wArrZ) (fun cA h => h)
  obtain ⟨c3, h3⟩ := E_arr (hts _ wArrJ) (fun cA h => h)
  obtain ⟨c4, h4⟩ := E_arrA hov
  refine ⟨fun k => [c0, c1, c2, c3, c4].getD k c0, ?_⟩
  intro k q hq
  match k, hq with
  | 0, hq => cases hq; exact h0
  | 1, hq => cases hq; exact h1
  | 2, hq => cases hq; exact h2
  | 3, hq => cases hq; exact h3
  | 4, hq => cases hq; exact h4
  | k + 5, hq => cases hq
theorem lw0 : Cond.classLink R_law 7 RX11 ∈ lw_tbl := List.mem_of_getElem? (i := 92) (by decide +kernel)
theorem lw1 : Cond.methodLink R_law 9 yX11_init ∈ lw_tbl := List.mem_of_getElem? (i := 94) (by decide +kernel)
theorem lw2 : Cond.classLink R_law 10 RX12 ∈ lw_tbl := List.mem_of_getElem? (i := 1021) (by decide +kernel)
theorem lw3 : Cond.methodLink R_law 12 yX12_init ∈ lw_tbl := List.mem_of_getElem? (i := 1023) (by decide +kernel)
theorem lw4 : Cond.arrayOver (.array .int) ∈ lw_tbl := List.mem_of_getElem? (i := 146) (by decide +kernel)
theorem E_sim {Γ : GG} {z : Nat} {H : Heap} (hg : ∀ q, Γ.1 q = z + off q) (h : KW Γ z 372 (fun i => ce Γ st0 (pl i)) H) : va_P Γ.2.2 vwCl (wsG Γ st0) H := by
  intro k x hx
  obtain ⟨hk, rfl⟩ := ws_lt hx
  have h2 := h.2 (off k) (off_lt k hk)
  dsimp only at h2
  rw [pl_off k hk, ← hg k] at h2
  exact h2
theorem E_inj {Γ : GG} {z : Nat} (hg : ∀ q, Γ.1 q = z + off q) : injG Γ := by
  intro i j hi hj h
  rw [hg i, hg j] at h
  rw [← pl_off i hi, ← pl_off j hj, show off i = off j by omega]
theorem whole_start {p : Program} {e : Env} {s : State} {m : MethodId} {below : List Frame} {meth : Method} {c : Code} (l : Launch) (hflags : l.flags = flags0) {b L : Nat} {xs : Nat → Int32} (hL : L ≤ 3072) (C0 : lw_At p s m meth c b L xs) : W p l e room_1 s m #[Value.ref b] below meth c s.heap [] 0 0 (lw_Z below #[Value.ref b] s) (entryFrame m ([Value.ref b] : List Value).toArray 4) := by
  obtain ⟨hx, hb, hr, hml, hown, hts0, hX, hbl, hlocks, hgv⟩ := id C0
  have hts : ∀ w ∈ gtbl, w.before #[Value.ref b] s = true := fun w h => hts0 w (gtbl_in w h).1
  have hov : OV s := over_moved (Vm.Alike.refl s.vm) (hts0 _ lw4)
  obtain ⟨D, hKc⟩ := E_D hts
  obtain ⟨cA, hKa⟩ := E_C hts hov
  obtain ⟨Γ, hg, hK⟩ : ∃ Γ : GG, (∀ q, Γ.1 q = s.heap.size + off q) ∧ va_K Γ.2.2 vwCl (tysG Γ) s := ⟨(fun q => s.heap.size + off q, cA, D), fun _ => rfl, hKc, hKa⟩
  have hN : ∀ w ∈ ntbl, va_Nw w s := fun w h => va_Nw.of (ntbl_on h) (hts0 w (ntbl_in h))
  have hw : ∀ q, q < 372 → (fun i => ce Γ st0 (pl i)) (off q) = ce Γ st0 q := fun q h => by
    dsimp only
    rw [pl_off q h]
  have hP0 : KW Γ s.heap.size 0 (fun i => ce Γ st0 (pl i)) s.heap := ⟨rfl, fun i h => absurd h (Nat.not_lt_zero _)⟩
  have hl := lv_entry ([.ref b]) (n := 4) (Nat.le_of_ble_eq_true rfl)
  rw [lg_entry_eq]
  generalize (lg_sl ([.ref b]) ++ List.replicate (4 - (lg_sl ([.ref b])).length) Slot.unset).toArray = ls at hl ⊢
  have hl : lv_has ls 4 [(0, .ref b)] := hl
  refine E_new (q := 0) (ci := 11) (fk := [3, 6, 13, 19, 25, 28, 35, 36, 46, 51, 57, 59, 60, 0]) hx hb hown hts hK uxX11 tyX11_ok (hts0 _ lw0) winX11 winiX11 rfl (dfl_of rfl) (Nat.le_of_ble_eq_true rfl) (Nat.le_of_ble_eq_true rfl) hP0 va_S.rf rfl hg dL_law_0 (fun H1 hP1 hS1 => ?_)
  refine lv_dup hx hb dL_law_3 rfl ?_
  refine E_init (q := 0) (rest := [.ref (Γ.1 0)]) hx hb hown hts (hml.trans hl.1.symm) hK hN hg hov calX11_init rfl rfl wimX11 (hts0 _ lw1) (C_0 (d := 0) (fun q h _ _ => hw q h)) (Nat.le_of_ble_eq_true rfl) ⟨Nat.le_of_ble_eq_true rfl, Nat.le_of_ble_eq_true rfl⟩ (Nat.le_of_ble_eq_true rfl) (Nat.le_of_ble_eq_true rfl) hP1 hS1 dL_law_4 (fun H2 locs2 hP2 hS2 => ?_)
  refine lv_astore_n (lv' := [(1, .ref (Γ.1 0)), (0, .ref b)]) hx hb dL_law_7 rfl hl (by decide) rfl (fun ls hl => ?_)
  refine E_new (q := 59) (ci := 12) (fk := [0, 0, 0, 62, 63, 64, 0, 65, 66, 67, 68, 69, 70, 71, 72, 0, 0, 73, 74, 75, 76, 77, 78, 79, 80, 81, 82, 83, 84, 85, 86, 0, 0, 87, 88, 89, 90, 91, 92, 0, 0, 0, 0, 0, 93, 0, 94, 95, 96, 97, 98, 99, 100, 101, 102, 103, 0, 0, 104, 105, 106, 107, 108, 109, 110, 0, 0, 111, 112, 113, 0, 114, 115, 116, 0, 117, 118, 119]) hx hb hown hts hK uxX12 tyX12_ok (hts0 _ lw2) winX12 winiX12 rfl (dfl_of rfl) (Nat.le_of_ble_eq_true rfl) (Nat.le_of_ble_eq_true rfl) hP2 hS2 rfl hg dL_law_8 (fun H3 hP3 hS3 => ?_)
  refine lv_dup hx hb dL_law_11 rfl ?_
  refine E_init (q := 59) (rest := [.ref (Γ.1 59)]) hx hb hown hts (hml.trans hl.1.symm) hK hN hg hov calX12_init rfl rfl wimX12 (hts0 _ lw3) (C_59 (d := 0) (fun q h _ _ => hw q h)) (Nat.le_of_ble_eq_true rfl) ⟨Nat.le_of_ble_eq_true rfl, Nat.le_of_ble_eq_true rfl⟩ (Nat.le_of_ble_eq_true rfl) (Nat.le_of_ble_eq_true rfl) hP3 hS3 dL_law_12 (fun H4 locs4 hP4 hS4 => ?_)
  refine lv_astore_n (lv' := [(2, .ref (Γ.1 59)), (1, .ref (Γ.1 0)), (0, .ref b)]) hx hb dL_law_15 rfl hl (by decide) rfl (fun ls hl => ?_)
  refine lv_iconst (v := nI 0) hx hb dL_law_16 rfl ?_
  refine lv_istore_n (lv' := lvL Γ b (nI 0)) hx hb dL_law_17 rfl hl (by decide) rfl (fun ls hl => ?_)
  refine W.widen (k := 372) (n := 37678) (Nat.le_of_ble_eq_true rfl) (Nat.le_of_ble_eq_true rfl) ?_
  exact L_loop hL L 0 st0 (by omega) (Nat.zero_le _) inv_first p e s m below meth c ⟨C0, hK, hN, E_inj hg, fun q _ => hg q⟩ H4 locs4 ls (E_sim hg hP4) hS4 hl
set_option maxHeartbeats 4000000 in
theorem lw_walk (l : Launch) (hflags : l.flags = flags0) (b : Addr) (xs : List Int32) : MetFree l x (headSpec (Jvm.Cond.code x code maxLocals ret :: tables_1) room_1) (lw_P b xs) (fun _ _ _ _ _ => True) lw_Q := by
  refine MetFree.of_bodyS (code := code) (maxLocals := maxLocals) (ret := ret) (by decide) ?_ ?_
  · intro args s m h hn
    obtain ⟨meth, c, h1, h2, h3, h4, h5, h6, -, -⟩ := Cond.code_spec hn (atoms_spec (ws := Jvm.Cond.code x code maxLocals ret :: tables_1) h _ List.mem_cons_self)
    exact ⟨meth, c, h1, h2, h3, h4, h5, h6⟩
  · intro p e s m args below meth c s₁ B hml0 hP _
    obtain ⟨rfl, hx, hbd, hgv⟩ := hP
    obtain ⟨scr, harrAt, hlist, hof, hsmall⟩ := hx
    obtain ⟨hcb, hkn, -, -⟩ := State.arrayAt?_spec harrAt
    have hown : s.vm.findClass R_law = some m.cls := findClass_of_methodNamed B.named
    have hts0 : ∀ c ∈ (Jvm.Cond.code x code maxLocals ret :: tables_1), c.before #[Value.ref b] s = true := atoms_spec (ws := Jvm.Cond.code x code maxLocals ret :: tables_1) B.pre
    have hts : ∀ w ∈ lw_tbl, w.before #[Value.ref b] s = true := k2_hts_sels lw_privs (fun w hw => hts0 w (List.mem_cons_of_mem _ hw)) lw_privs_ok
    have hml : c.maxLocals = 4 := B.maxLocals_eq (hts0 _ List.mem_cons_self)
    have X₀ : Stand p l e room_1 s m #[Value.ref b] below meth c s₁ [] 0 0 := Stand.of_body B
    have hh0 : s₁.heap = s.heap := by rw [B.state]; rfl
    have hsz : scr.slots.size = xs.length := by rw [← Array.length_toList, hlist, List.length_map]
    have hval : ∀ j : Nat, j < xs.length → scr.slots[j]? = some (.int (xs.getD j 0)) := fun j hj => by
      rw [← Array.getElem?_toList, hlist]
      simp [hj]
    have hbl : b < s.heap.size := (Array.getElem?_eq_some_iff.mp hcb).1
    have hX : va_X b xs.length (fun j => xs.getD j 0) s s.heap := ⟨scr, hcb, hof, hkn, hsz, hval⟩
    have K : W p l e room_1 s m #[Value.ref b] below meth c s₁.heap [] 0 0 (lw_Z below #[Value.ref b] s) (entryFrame m ([Value.ref b] : List Value).toArray 4) := by
      rw [hh0]
      exact whole_start l hflags hbd ⟨B.exec, B.bytes, B.returns, hml, hown, hts, hX, hbl, B.notSynchronized, hgv⟩
    obtain ⟨t, a1, o, b1, b2, b3⟩ := K s₁ rfl X₀
    exact ⟨t, o, a1, b1, b2, b3⟩
theorem lw_pre_spec {args : Array Value} {s : State} (h : (Jvm.Cond.and given_1 narrow_1).before args s = true) (hr : rest_1_c.before args s = true) : ∃ (b : Addr) (xs : List Int32), lw_P b xs args s := by
  have hs := flat_of_before _ h
  have hq := flat_of_before _ hr
  have hc : (Cond.count 1).before args s = true := hs _ (by decide +kernel)
  have harr : (Cond.arrayOf (.arg 0) .int).before args s = true := hs _ (by decide +kernel)
  have hle : (Cond.le (.length (.arg 0)) (.int 3072)).before args s = true := hs _ (by decide +kernel)
  have hlen : (Cond.isInt (.length (.arg 0))).before args s = true := hq _ (by decide +kernel)
  have hall : (Cond.all (.arg 0) (.isInt (.elem (.arg 0) (.index 0)))).before args s = true := hq _ (by decide +kernel)
  obtain ⟨b, xs, hb, hx⟩ := State.ints_of_pre rfl harr hlen hall
  have hsm : xs.length < 2 ^ 31 := hx.choose_spec.2.2.2
  have hev : (Term.length (.arg 0)).eval args s none [] s = some (.int xs.length.toInt32) := hx.length_eval hb
  have hv := Cond.le_ints hev (show (Term.int 3072).eval args s none [] s = some (.int 3072) from rfl)
  have hd : xs.length.toInt32 ≤ 3072 := by
    simpa [Cond.before, Cond.holds, hv] using hle
  have hN : xs.length ≤ 3072 := (Int32.ofNat_le_ofNat hsm (by decide)).mp (show Int32.ofNat xs.length ≤ Int32.ofNat 3072 from hd)
  exact ⟨b, xs, Cond.one_arg hc (show args[0]? = some (.ref b) from hb), hx, hN, h⟩
theorem lw_comes (l : Launch) (hflags : l.flags = flags0) : Comes l x (Jvm.Cond.code x code maxLocals ret :: tables_1) room_1 (fun tb e args s => Calls_1 tb e args s ∧ rest_1 tb e args s ∧ Pre_1 tb e args s)
    (fun _ _ args s o t => lw_Q args s o t) := by
  intro p e ha hc hk s m args below hf hfit hheap happ hpre
  obtain ⟨b, xs, hP⟩ := lw_pre_spec hpre.2.2 hpre.2.1
  obtain ⟨k, o, h1, h2, h3, hQ⟩ := lw_walk l hflags b xs p e ha hc hk s m args below hf ((Spec.applies_iff_loose hf).mp happ).1 hP trivial
  exact ⟨k, o, h1, h2, h3, hQ⟩
theorem lw_frame {s t : State} {o : Outcome} {args : Array Value} (h : Framed s o t [] 600000 7302250) :
    Framed s o t (fieldLocs frame_1_writes args s ++ arrayLocs frame_1_arrays args s ++ staticLocs frame_1_statics s) 600000 7302250 := h
theorem lw_limb (L : Cond) (hL : ∀ (args : Array Value) (s t : State), L.after args s (.returned (some (.int 1))) t = true) :
    ArmFor flags0 classFile x code maxLocals ret World_1 tables_1 room_1 Calls_1 rest_1 Pre_1
      (fun tb e a s o t => postC L tb e a s o t ∧ Framed s o t (fieldLocs frame_1_writes a s ++ arrayLocs frame_1_arrays a s ++ staticLocs frame_1_statics s) 600000 7302250) := by
  intro l hflags _ _ p e ha hc hk s m args below hf hfit hheap happ hpre
  obtain ⟨k, o, h1, h2, h3, rfl, hF⟩ := lw_comes l hflags p e ha hc hk s m args below hf hfit hheap happ hpre
  exact ⟨k, _, h1, h2, h3, hL args s _, lw_frame hF⟩
theorem i_vc : Claimed_1_1 ∧ Claimed_1_2 := ⟨lw_limb limb_1_1 (fun args s t => by simp [limb_1_1, Cond.after, Cond.holds, Cond.value]), lw_limb limb_1_2 (fun args s t => Cond.after_iff.mpr (by
  first | (rw [show limb_1_2 = Cond.eq .result (.int 1) from rfl, Cond.eq_ints (x := 1) (y := 1) rfl rfl]; simp; done) | (simp [limb_1_2, Cond.value, Term.eval]; done)))⟩

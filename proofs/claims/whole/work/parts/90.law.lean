/-! THE LAW'S BODY: the judgement and its rows. b the script's cell, xs its L ints; locals: 0 the script, 1 the class' object, 2 the reference's, 3 the place i in the script -/
def lvL (Γ : GG) (b : Nat) (i : Int32) : List (Nat × Value) := [(3, .int i), (2, .ref (Γ.1 59)), (1, .ref (Γ.1 0)), (0, .ref b)]
def LC (Γ : GG) (b L : Nat) (xs : Nat → Int32) (p : Program) (s : State) (m : MethodId) (meth : Method) (c : Code) : Prop := lw_At p s m meth c b L xs ∧ va_K Γ.2.2 vwCl (tysG Γ) s ∧ (∀ w ∈ ntbl, va_Nw w s) ∧ injG Γ ∧ ∀ q, q < 372 → Γ.1 q = s.heap.size + off q
def JL (Γ : GG) (l : Launch) (b L : Nat) (xs : Nat → Int32) (pc : Nat) (i : Int32) (st : List Value) (σ : St) : Prop :=
  ∀ (p : Program) (e : Env) (s : State) (m : MethodId) (below : List Frame) (meth : Method) (c : Code), LC Γ b L xs p s m meth c →
  ∀ (H : Heap) (locs : List Loc) (LS : Array Slot), va_P Γ.2.2 vwCl (wsG Γ σ) H → va_S (AK s.heap.size) s.heap H locs → lv_has LS 4 (lvL Γ b i) →
  W p l e room_1 s m #[Value.ref b] below meth c H locs 372 37678 (lw_Z below #[Value.ref b] s) (F0 m pc LS st)
section LWR
variable {Γ : GG} {l : Launch} {b L : Nat} {xs : Nat → Int32} {pc : Nat} {i : Int32} {st : List Value} {σ : St}
theorem L_iconst {n : Int} {v : Int32} (hdg : decode code pc = .ok (.iconst n, 1)) (hv : Int32.ofInt n = v) (k : JL Γ l b L xs (pc + 1) i (.int v :: st) σ) : JL Γ l b L xs pc i st σ := by
  intro p e s m below meth c B H locs LS hP hS hL
  obtain ⟨⟨hx, hb, hr, hml, hown, hts, hX, hbl, hlocks, hgv⟩, hK, hN, hinj, hoff⟩ := id B
  exact lv_iconst hx hb hdg hv (k p e s m below meth c B H locs LS hP hS hL)
theorem L_bipush {n : Int} {v : Int32} (hdg : decode code pc = .ok (.bipush n, 2)) (hv : (Int8.ofInt n).toInt32 = v) (k : JL Γ l b L xs (pc + 2) i (.int v :: st) σ) : JL Γ l b L xs pc i st σ := by
  intro p e s m below meth c B H locs LS hP hS hL
  obtain ⟨⟨hx, hb, hr, hml, hown, hts, hX, hbl, hlocks, hgv⟩, hK, hN, hinj, hoff⟩ := id B
  exact lv_bipush hx hb hdg hv (k p e s m below meth c B H locs LS hP hS hL)
theorem L_iload (hdg : decode code pc = .ok (.iload_n 3, 1)) (k : JL Γ l b L xs (pc + 1) i (.int i :: st) σ) : JL Γ l b L xs pc i st σ := by
  intro p e s m below meth c B H locs LS hP hS hL
  obtain ⟨⟨hx, hb, hr, hml, hown, hts, hX, hbl, hlocks, hgv⟩, hK, hN, hinj, hoff⟩ := id B
  exact lv_iload_n hx hb hdg rfl (lv_at hL 0 rfl) (k p e s m below meth c B H locs LS hP hS hL)
theorem L_x (hdg : decode code pc = .ok (.aload_n 1, 1)) (k : JL Γ l b L xs (pc + 1) i (.ref (Γ.1 0) :: st) σ) : JL Γ l b L xs pc i st σ := by
  intro p e s m below meth c B H locs LS hP hS hL
  obtain ⟨⟨hx, hb, hr, hml, hown, hts, hX, hbl, hlocks, hgv⟩, hK, hN, hinj, hoff⟩ := id B
  exact lv_aload_n hx hb hdg rfl (lv_at hL 2 rfl) (k p e s m below meth c B H locs LS hP hS hL)
theorem L_m (hdg : decode code pc = .ok (.aload_n 2, 1)) (k : JL Γ l b L xs (pc + 1) i (.ref (Γ.1 59) :: st) σ) : JL Γ l b L xs pc i st σ := by
  intro p e s m below meth c B H locs LS hP hS hL
  obtain ⟨⟨hx, hb, hr, hml, hown, hts, hX, hbl, hlocks, hgv⟩, hK, hN, hinj, hoff⟩ := id B
  exact lv_aload_n hx hb hdg rfl (lv_at hL 1 rfl) (k p e s m below meth c B H locs LS hP hS hL)
theorem L_s (hdg : decode code pc = .ok (.aload_n 0, 1)) (k : JL Γ l b L xs (pc + 1) i (.ref b :: st) σ) : JL Γ l b L xs pc i st σ := by
  intro p e s m below meth c B H locs LS hP hS hL
  obtain ⟨⟨hx, hb, hr, hml, hown, hts, hX, hbl, hlocks, hgv⟩, hK, hN, hinj, hoff⟩ := id B
  exact lv_aload_n hx hb hdg rfl (lv_at hL 3 rfl) (k p e s m below meth c B H locs LS hP hS hL)
theorem L_iadd {x y v : Int32} (hdg : decode code pc = .ok (.iadd, 1)) (hv : x + y = v) (k : JL Γ l b L xs (pc + 1) i (.int v :: st) σ) : JL Γ l b L xs pc i (.int y :: .int x :: st) σ := by
  subst hv
  intro p e s m below meth c B H locs LS hP hS hL
  obtain ⟨⟨hx, hb, hr, hml, hown, hts, hX, hbl, hlocks, hgv⟩, hK, hN, hinj, hoff⟩ := id B
  exact lv_iadd hx hb hdg (k p e s m below meth c B H locs LS hP hS hL)
theorem L_isub {x y v : Int32} (hdg : decode code pc = .ok (.isub, 1)) (hv : x - y = v) (k : JL Γ l b L xs (pc + 1) i (.int v :: st) σ) : JL Γ l b L xs pc i (.int y :: .int x :: st) σ := by
  subst hv
  intro p e s m below meth c B H locs LS hP hS hL
  obtain ⟨⟨hx, hb, hr, hml, hown, hts, hX, hbl, hlocks, hgv⟩, hK, hN, hinj, hoff⟩ := id B
  exact lv_isub hx hb hdg (k p e s m below meth c B H locs LS hP hS hL)
theorem L_iand {x y v : Int32} (hdg : decode code pc = .ok (.iand, 1)) (hv : x &&& y = v) (k : JL Γ l b L xs (pc + 1) i (.int v :: st) σ) : JL Γ l b L xs pc i (.int y :: .int x :: st) σ := by
  subst hv
  intro p e s m below meth c B H locs LS hP hS hL
  obtain ⟨⟨hx, hb, hr, hml, hown, hts, hX, hbl, hlocks, hgv⟩, hK, hN, hinj, hoff⟩ := id B
  exact lv_iand hx hb hdg (k p e s m below meth c B H locs LS hP hS hL)
theorem L_lcmp {x y : Int64} (hdg : decode code pc = .ok (.lcmp, 1)) (k : JL Γ l b L xs (pc + 1) i (.int (lg_cmp x y) :: st) σ) : JL Γ l b L xs pc i (.long y :: .long x :: st) σ := by
  intro p e s m below meth c B H locs LS hP hS hL
  obtain ⟨⟨hx, hb, hr, hml, hown, hts, hX, hbl, hlocks, hgv⟩, hK, hN, hinj, hoff⟩ := id B
  exact W.lcmp hx hb hdg (k p e s m below meth c B H locs LS hP hS hL)
theorem L_iinc {n : Int} {v : Int32} (hdg : decode code pc = .ok (.iinc 3 n, 3)) (hv : i + Int32.ofInt n = v) (k : JL Γ l b L xs (pc + 3) v st σ) : JL Γ l b L xs pc i st σ := by
  intro p e s m below meth c B H locs LS hP hS hL
  obtain ⟨⟨hx, hb, hr, hml, hown, hts, hX, hbl, hlocks, hgv⟩, hK, hN, hinj, hoff⟩ := id B
  exact lv_iinc (lv' := lvL Γ b v) (k := 0) hx hb hdg hL rfl hv (by decide) rfl (fun LS1 hL1 => k p e s m below meth c B H locs LS1 hP hS hL1)
theorem L_goto {of : Int} {tgt : Nat} (hdg : decode code pc = .ok (.goto of, 3)) (ht : (pc : Int) + of = (tgt : Int)) (k : JL Γ l b L xs tgt i st σ) : JL Γ l b L xs pc i st σ := by
  intro p e s m below meth c B H locs LS hP hS hL
  obtain ⟨⟨hx, hb, hr, hml, hown, hts, hX, hbl, hlocks, hgv⟩, hK, hN, hinj, hoff⟩ := id B
  exact lv_goto hx hb hdg ht (k p e s m below meth c B H locs LS hP hS hL)
theorem L_icmp_eq {x y : Int32} {of : Int} (tgt : Nat) (hdg : decode code pc = .ok (.if_icmp .eq of, 3)) (ht : (pc : Int) + of = (tgt : Int)) (kt : x = y → JL Γ l b L xs tgt i st σ) (kf : ¬ x = y → JL Γ l b L xs (pc + 3) i st σ) : JL Γ l b L xs pc i (.int y :: .int x :: st) σ := by
  intro p e s m below meth c B H locs LS hP hS hL
  obtain ⟨⟨hx, hb, hr, hml, hown, hts, hX, hbl, hlocks, hgv⟩, hK, hN, hinj, hoff⟩ := id B
  exact lv_icmp_eq hx hb hdg ht (fun h => kt h p e s m below meth c B H locs LS hP hS hL) (fun h => kf h p e s m below meth c B H locs LS hP hS hL)
theorem L_icmp_gt {x y : Int32} {of : Int} (tgt : Nat) (hdg : decode code pc = .ok (.if_icmp .gt of, 3)) (ht : (pc : Int) + of = (tgt : Int)) (kt : y < x → JL Γ l b L xs tgt i st σ) (kf : ¬ y < x → JL Γ l b L xs (pc + 3) i st σ) : JL Γ l b L xs pc i (.int y :: .int x :: st) σ := by
  intro p e s m below meth c B H locs LS hP hS hL
  obtain ⟨⟨hx, hb, hr, hml, hown, hts, hX, hbl, hlocks, hgv⟩, hK, hN, hinj, hoff⟩ := id B
  exact lv_icmp_gt hx hb hdg ht (fun h => kt h p e s m below meth c B H locs LS hP hS hL) (fun h => kf h p e s m below meth c B H locs LS hP hS hL)
theorem L_if_eq {x : Int32} {of : Int} (tgt : Nat) (hdg : decode code pc = .ok (.ifCond .eq of, 3)) (ht : (pc : Int) + of = (tgt : Int)) (kt : x = 0 → JL Γ l b L xs tgt i st σ) (kf : ¬ x = 0 → JL Γ l b L xs (pc + 3) i st σ) : JL Γ l b L xs pc i (.int x :: st) σ := by
  intro p e s m below meth c B H locs LS hP hS hL
  obtain ⟨⟨hx, hb, hr, hml, hown, hts, hX, hbl, hlocks, hgv⟩, hK, hN, hinj, hoff⟩ := id B
  exact lv_if_eq hx hb hdg ht (fun h => kt h p e s m below meth c B H locs LS hP hS hL) (fun h => kf h p e s m below meth c B H locs LS hP hS hL)
theorem L_tableIn {dflt lo hi : Int} {offs : Array Int} {len : Nat} {x : Int32} {of : Int} (tgt : Nat) (hdg : decode code pc = .ok (.tableswitch dflt lo hi offs, len)) (h1 : ¬ x.toInt < lo) (h2 : ¬ hi < x.toInt) (ho : offs[(x.toInt - lo).toNat]? = some of) (ht : (pc : Int) + of = (tgt : Int)) (k : JL Γ l b L xs tgt i st σ) : JL Γ l b L xs pc i (.int x :: st) σ := by
  intro p e s m below meth c B H locs LS hP hS hL
  obtain ⟨⟨hx, hb, hr, hml, hown, hts, hX, hbl, hlocks, hgv⟩, hK, hN, hinj, hoff⟩ := id B
  exact lv_tableIn hx hb hdg h1 h2 ho ht (k p e s m below meth c B H locs LS hP hS hL)
theorem L_tableOut {dflt lo hi : Int} {offs : Array Int} {len : Nat} {x : Int32} (tgt : Nat) (hdg : decode code pc = .ok (.tableswitch dflt lo hi offs, len)) (h : x.toInt < lo ∨ hi < x.toInt) (ht : (pc : Int) + dflt = (tgt : Int)) (k : JL Γ l b L xs tgt i st σ) : JL Γ l b L xs pc i (.int x :: st) σ := by
  intro p e s m below meth c B H locs LS hP hS hL
  obtain ⟨⟨hx, hb, hr, hml, hown, hts, hX, hbl, hlocks, hgv⟩, hK, hN, hinj, hoff⟩ := id B
  exact lv_tableOut hx hb hdg h ht (k p e s m below meth c B H locs LS hP hS hL)
theorem L_len (hdg : decode code pc = .ok (.arraylength, 1)) (k : JL Γ l b L xs (pc + 1) i (.int (nI L) :: st) σ) : JL Γ l b L xs pc i (.ref b :: st) σ := by
  intro p e s m below meth c B H locs LS hP hS hL
  obtain ⟨⟨hx, hb, hr, hml, hown, hts, hX, hbl, hlocks, hgv⟩, hK, hN, hinj, hoff⟩ := id B
  exact va_slen hx hb hX hbl (fun h => absurd hbl (Nat.not_lt.mpr h)) hS hdg (k p e s m below meth c B H locs LS hP hS hL)
theorem L_ld {j : Nat} (hj : j < L) (hL0 : L < 2147483648) (hdg : decode code pc = .ok (.iaload, 1)) (k : JL Γ l b L xs (pc + 1) i (.int (xs j) :: st) σ) : JL Γ l b L xs pc i (.int (nI j) :: .ref b :: st) σ := by
  intro p e s m below meth c B H locs LS hP hS hL
  obtain ⟨⟨hx, hb, hr, hml, hown, hts, hX, hbl, hlocks, hgv⟩, hK, hN, hinj, hoff⟩ := id B
  have h := k p e s m below meth c B H locs LS hP hS hL
  rw [show xs j = xs (nI j).toNatClampNeg from by rw [cl (by omega)]] at h
  exact va_sld hx hb hX hbl (fun h => absurd hbl (Nat.not_lt.mpr h)) hS (in_nI hj hL0) hdg h
/-- the script's int at i + k -/
theorem L_arg {j : Nat} (kk : Nat) {n : Int} (hi : i = nI j) (hj : j + kk < L) (hL0 : L < 2147483648) (hn : Int32.ofInt n = nI kk) (d0 : decode code pc = .ok (.aload_n 0, 1)) (d1 : decode code (pc + 1) = .ok (.iload_n 3, 1)) (d2 : decode code (pc + 1 + 1) = .ok (.iconst n, 1)) (d3 : decode code (pc + 1 + 1 + 1) = .ok (.iadd, 1)) (d4 : decode code (pc + 1 + 1 + 1 + 1) = .ok (.iaload, 1)) (k : JL Γ l b L xs (pc + 1 + 1 + 1 + 1 + 1) i (.int (xs (j + kk)) :: st) σ) : JL Γ l b L xs pc i st σ :=
  L_s d0 (L_iload d1 (L_iconst d2 hn (L_iadd d3 (by rw [hi]; exact nI_addn j kk) (L_ld hj hL0 d4 k))))
theorem L_call {M2 : MD} {index nA q ci Nf d : Nat} {T : u_T} {fk : List Nat} (As rest : List Value) (hcal : CalV M2 nA) (hw : Cond.methodLink R_law index M2.1 ∈ gtbl) (hq : q < nC) (hs : sk q = .inl (ci, fk)) (hc : vwCl[ci]? = some (M2.1.cls, T, Nf)) (hAs : As.map (av Γ.1) = As) (hst : st = As.reverse ++ .ref (Γ.1 q) :: rest) (hn : As.length = nA) (hcat : (rest.map fun v => v.category).sum ≤ 8) (hd : d ≤ 1000) (hdg : decode code pc = .ok (.invokevirtual index, 3))
    (k : Meth Γ l d M2 (.ref q :: As) σ (fun v σ' => JL Γ l b L xs (pc + 3) i ((v.map (av Γ.1)).toList ++ rest) σ')) : JL Γ l b L xs pc i st σ := by
  intro p e s m below meth c B H locs LS hP hS hL
  obtain ⟨⟨hx, hb, hr, hml, hown, hts0, hX, hbl, hlocks, hgv⟩, hK, hN, hinj, hoff⟩ := id B
  have hts : ∀ w ∈ gtbl, w.before #[Value.ref b] s = true := fun w h => hts0 w (gtbl_in w h).1
  obtain ⟨Q0, hq0, hM⟩ := k
  obtain ⟨hB, hin, hse⟩ := hcal
  have hE : (wsG Γ σ)[q]? = some (Γ.1 q, .inr (ci, fvs Γ.1 σ q fk)) := (ws_get hq).trans (by rw [ce_obj hs])
  have hnL := hB.2.2.2
  have room : (rmD d).frames + 1 ≤ room_1.frames ∧ 8 + (M2.2.2.1 + 11) + (rmD d).locals ≤ room_1.locals := by
    show d + 1 ≤ 2048 ∧ 8 + (M2.2.2.1 + 11) + 64 * d ≤ 84000
    omega
  refine va_callG (rest := rest) (Q0 := Q0) (A0 := AK s.heap.size) (H0 := s.heap) (va_runV (b := Γ.1 q) (As := As) (rest := rest) (rm := rmD d) (mc := 0) (ms := 0) ⟨hx, hb, hml, hown, hts⟩ hM ⟨callB_of nA hts (good_wsM hB gtbl_good) rfl rfl rfl (hts _ hB.2.1) (hts _ hw) hB.2.2.1 room, hts _ hin, hts _ hse⟩ ⟨simU_blind, va_recv hK hP hc hE, fun U hU hW => ⟨by rw [List.map_cons, hAs]; rfl, simU_at hP hK hN hinj hU hW⟩⟩ rfl hn hL.1 hst (lv_room hcat) hdg ⟨by decide, Nat.le_of_ble_eq_true rfl⟩) hS (fun a h => ?_) (fun v σ' H1 locs1 hv hP1 hS1 => hq0 v σ' hv p e s m below meth c B H1 locs1 LS hP1 hS1 hL)
  obtain ⟨k, hk, rfl⟩ := h
  rw [hoff k hk]
  exact Nat.le_add_right _ _
theorem L_ret (hdg : decode code pc = .ok (.ireturn, 1)) : JL Γ l b L xs pc i [.int 1] σ := by
  intro p e s m below meth c B H locs LS hP hS hL
  obtain ⟨⟨hx, hb, hr, hml, hown, hts0, hX, hbl, hlocks, hgv⟩, hK, hN, hinj, hoff⟩ := id B
  exact va_forget (fun q hq => hS.2.2 q hq) (W.widen (Nat.le_of_ble_eq_true rfl) (Nat.le_of_ble_eq_true rfl) (lw_ret hx hb hr hlocks hdg))
end LWR

/-! THE ROWS OF J: an instruction a row -/
section JR
variable {Γ : GG} {l : Launch} {d : Nat} {M : MD} {Q : Option Value → St → Prop} {pc : Nat} {lv : List (Nat × Value)} {st : List Value} {σ : St}
theorem J_sub (ks : List Nat) {lv' : List (Nat × Value)} (h : lv_pick lv ks = lv') (k : J Γ l d M Q pc lv' st σ) : J Γ l d M Q pc lv st σ := by
  intro p e s m args below meth c B H locs LS hP hS hL
  refine k p e s m args below meth c B H locs LS hP hS ⟨hL.1, hL.2.1, fun q hq => hL.2.2 q ?_⟩
  obtain ⟨y, hy, rfl⟩ := List.mem_map.mp hq
  rw [← h] at hy
  obtain ⟨i, -, hi⟩ := List.mem_filterMap.mp hy
  exact List.mem_map.mpr ⟨y, List.mem_of_getElem? hi, rfl⟩
theorem J_iconst {n : Int} {v : Int32} (hdg : decode M.2.1 pc = .ok (.iconst n, 1)) (hv : Int32.ofInt n = v) (k : J Γ l d M Q (pc + 1) lv (.int v :: st) σ) : J Γ l d M Q pc lv (st) σ := by
  intro p e s m args below meth c B H locs LS hP hS hL
  obtain ⟨hx, hb, hr, hml, hts, hown, hlocks, hK, hN, hinj⟩ := id B
  exact lv_iconst hx hb hdg hv (k p e s m args below meth c B H locs LS hP hS hL)
theorem J_bipush {n : Int} {v : Int32} (hdg : decode M.2.1 pc = .ok (.bipush n, 2)) (hv : (Int8.ofInt n).toInt32 = v) (k : J Γ l d M Q (pc + 2) lv (.int v :: st) σ) : J Γ l d M Q pc lv (st) σ := by
  intro p e s m args below meth c B H locs LS hP hS hL
  obtain ⟨hx, hb, hr, hml, hts, hown, hlocks, hK, hN, hinj⟩ := id B
  exact lv_bipush hx hb hdg hv (k p e s m args below meth c B H locs LS hP hS hL)
theorem J_sipush {n : Int} {v : Int32} (hdg : decode M.2.1 pc = .ok (.sipush n, 3)) (hv : (Int16.ofInt n).toInt32 = v) (k : J Γ l d M Q (pc + 3) lv (.int v :: st) σ) : J Γ l d M Q pc lv (st) σ := by
  intro p e s m args below meth c B H locs LS hP hS hL
  obtain ⟨hx, hb, hr, hml, hts, hown, hlocks, hK, hN, hinj⟩ := id B
  exact lv_sipush hx hb hdg hv (k p e s m args below meth c B H locs LS hP hS hL)
theorem J_lconst {n : Fin 2} {v : Int64} (hdg : decode M.2.1 pc = .ok (.lconst n, 1)) (hv : Int64.ofNat (n : Nat) = v) (k : J Γ l d M Q (pc + 1) lv (.long v :: st) σ) : J Γ l d M Q pc lv (st) σ := by
  intro p e s m args below meth c B H locs LS hP hS hL
  obtain ⟨hx, hb, hr, hml, hts, hown, hlocks, hK, hN, hinj⟩ := id B
  exact lv_lconst hx hb hdg hv (k p e s m args below meth c B H locs LS hP hS hL)
theorem J_iload {i kk : Nat} {x : Int32} (hdg : decode M.2.1 pc = .ok (.iload i, 2)) (hl : lv[kk]? = some (i, .int x)) (k : J Γ l d M Q (pc + 2) lv (.int x :: st) σ) : J Γ l d M Q pc lv (st) σ := by
  intro p e s m args below meth c B H locs LS hP hS hL
  obtain ⟨hx, hb, hr, hml, hts, hown, hlocks, hK, hN, hinj⟩ := id B
  exact lv_iload hx hb hdg (lv_at hL kk (mL_get hl)) (k p e s m args below meth c B H locs LS hP hS hL)
theorem J_iload_n {kf : Fin 4} {i kk : Nat} {x : Int32} (hdg : decode M.2.1 pc = .ok (.iload_n kf, 1)) (hi : (kf : Nat) = i) (hl : lv[kk]? = some (i, .int x)) (k : J Γ l d M Q (pc + 1) lv (.int x :: st) σ) : J Γ l d M Q pc lv (st) σ := by
  intro p e s m args below meth c B H locs LS hP hS hL
  obtain ⟨hx, hb, hr, hml, hts, hown, hlocks, hK, hN, hinj⟩ := id B
  exact lv_iload_n hx hb hdg hi (lv_at hL kk (mL_get hl)) (k p e s m args below meth c B H locs LS hP hS hL)
theorem J_lload {i kk : Nat} {x : Int64} (hdg : decode M.2.1 pc = .ok (.lload i, 2)) (hl : lv[kk]? = some (i, .long x)) (k : J Γ l d M Q (pc + 2) lv (.long x :: st) σ) : J Γ l d M Q pc lv (st) σ := by
  intro p e s m args below meth c B H locs LS hP hS hL
  obtain ⟨hx, hb, hr, hml, hts, hown, hlocks, hK, hN, hinj⟩ := id B
  exact lv_lload hx hb hdg (lv_at hL kk (mL_get hl)) (k p e s m args below meth c B H locs LS hP hS hL)
theorem J_lload_n {kf : Fin 4} {i kk : Nat} {x : Int64} (hdg : decode M.2.1 pc = .ok (.lload_n kf, 1)) (hi : (kf : Nat) = i) (hl : lv[kk]? = some (i, .long x)) (k : J Γ l d M Q (pc + 1) lv (.long x :: st) σ) : J Γ l d M Q pc lv (st) σ := by
  intro p e s m args below meth c B H locs LS hP hS hL
  obtain ⟨hx, hb, hr, hml, hts, hown, hlocks, hK, hN, hinj⟩ := id B
  exact lv_lload_n hx hb hdg hi (lv_at hL kk (mL_get hl)) (k p e s m args below meth c B H locs LS hP hS hL)
theorem J_aload {i kk : Nat} {x : Nat} (hdg : decode M.2.1 pc = .ok (.aload i, 2)) (hl : lv[kk]? = some (i, .ref x)) (k : J Γ l d M Q (pc + 2) lv (.ref x :: st) σ) : J Γ l d M Q pc lv (st) σ := by
  intro p e s m args below meth c B H locs LS hP hS hL
  obtain ⟨hx, hb, hr, hml, hts, hown, hlocks, hK, hN, hinj⟩ := id B
  exact lv_aload hx hb hdg (lv_at hL kk (mL_get hl)) (k p e s m args below meth c B H locs LS hP hS hL)
theorem J_aload_n {kf : Fin 4} {i kk : Nat} {x : Nat} (hdg : decode M.2.1 pc = .ok (.aload_n kf, 1)) (hi : (kf : Nat) = i) (hl : lv[kk]? = some (i, .ref x)) (k : J Γ l d M Q (pc + 1) lv (.ref x :: st) σ) : J Γ l d M Q pc lv (st) σ := by
  intro p e s m args below meth c B H locs LS hP hS hL
  obtain ⟨hx, hb, hr, hml, hts, hown, hlocks, hK, hN, hinj⟩ := id B
  exact lv_aload_n hx hb hdg hi (lv_at hL kk (mL_get hl)) (k p e s m args below meth c B H locs LS hP hS hL)
theorem J_istore {i : Nat} {x : Int32} {lv' : List (Nat × Value)} (hdg : decode M.2.1 pc = .ok (.istore i, 2)) (hn : i < M.2.2.1) (hl : (i, Value.int x) :: lv.filter (fun q => !(q.1 == i) && !(q.1 + 1 == i && q.2.category == 2)) = lv') (k : J Γ l d M Q (pc + 2) lv' st σ) : J Γ l d M Q pc lv (.int x :: st) σ := by
  intro p e s m args below meth c B H locs LS hP hS hL
  obtain ⟨hx, hb, hr, hml, hts, hown, hlocks, hK, hN, hinj⟩ := id B
  refine lv_istore (lv' := mL Γ.1 lv') hx hb hdg  hL hn ?_ (fun LS1 hL1 => k p e s m args below meth c B H locs LS1 hP hS hL1)
  rw [← hl]
  show _ :: (mL Γ.1 lv).filter (fun q => !(q.1 == i) && !(q.1 + 1 == i && q.2.category == 2)) = _ :: mL Γ.1 (lv.filter (fun q => !(q.1 == i) && !(q.1 + 1 == i && q.2.category == 2)))
  exact congrArg _ (mL_filter lv (fun a b => !(a == i) && !(a + 1 == i && b == 2)))
theorem J_istore_n {kf : Fin 4} {i : Nat} {x : Int32} {lv' : List (Nat × Value)} (hdg : decode M.2.1 pc = .ok (.istore_n kf, 1)) (hi : (kf : Nat) = i) (hn : i < M.2.2.1) (hl : (i, Value.int x) :: lv.filter (fun q => !(q.1 == i) && !(q.1 + 1 == i && q.2.category == 2)) = lv') (k : J Γ l d M Q (pc + 1) lv' st σ) : J Γ l d M Q pc lv (.int x :: st) σ := by
  intro p e s m args below meth c B H locs LS hP hS hL
  obtain ⟨hx, hb, hr, hml, hts, hown, hlocks, hK, hN, hinj⟩ := id B
  refine lv_istore_n (lv' := mL Γ.1 lv') hx hb hdg hi hL hn ?_ (fun LS1 hL1 => k p e s m args below meth c B H locs LS1 hP hS hL1)
  rw [← hl]
  show _ :: (mL Γ.1 lv).filter (fun q => !(q.1 == i) && !(q.1 + 1 == i && q.2.category == 2)) = _ :: mL Γ.1 (lv.filter (fun q => !(q.1 == i) && !(q.1 + 1 == i && q.2.category == 2)))
  exact congrArg _ (mL_filter lv (fun a b => !(a == i) && !(a + 1 == i && b == 2)))
theorem J_astore {i : Nat} {x : Nat} {lv' : List (Nat × Value)} (hdg : decode M.2.1 pc = .ok (.astore i, 2)) (hn : i < M.2.2.1) (hl : (i, Value.ref x) :: lv.filter (fun q => !(q.1 == i) && !(q.1 + 1 == i && q.2.category == 2)) = lv') (k : J Γ l d M Q (pc + 2) lv' st σ) : J Γ l d M Q pc lv (.ref x :: st) σ := by
  intro p e s m args below meth c B H locs LS hP hS hL
  obtain ⟨hx, hb, hr, hml, hts, hown, hlocks, hK, hN, hinj⟩ := id B
  refine lv_astore (lv' := mL Γ.1 lv') hx hb hdg  hL hn ?_ (fun LS1 hL1 => k p e s m args below meth c B H locs LS1 hP hS hL1)
  rw [← hl]
  show _ :: (mL Γ.1 lv).filter (fun q => !(q.1 == i) && !(q.1 + 1 == i && q.2.category == 2)) = _ :: mL Γ.1 (lv.filter (fun q => !(q.1 == i) && !(q.1 + 1 == i && q.2.category == 2)))
  exact congrArg _ (mL_filter lv (fun a b => !(a == i) && !(a + 1 == i && b == 2)))
theorem J_astore_n {kf : Fin 4} {i : Nat} {x : Nat} {lv' : List (Nat × Value)} (hdg : decode M.2.1 pc = .ok (.astore_n kf, 1)) (hi : (kf : Nat) = i) (hn : i < M.2.2.1) (hl : (i, Value.ref x) :: lv.filter (fun q => !(q.1 == i) && !(q.1 + 1 == i && q.2.category == 2)) = lv') (k : J Γ l d M Q (pc + 1) lv' st σ) : J Γ l d M Q pc lv (.ref x :: st) σ := by
  intro p e s m args below meth c B H locs LS hP hS hL
  obtain ⟨hx, hb, hr, hml, hts, hown, hlocks, hK, hN, hinj⟩ := id B
  refine lv_astore_n (lv' := mL Γ.1 lv') hx hb hdg hi hL hn ?_ (fun LS1 hL1 => k p e s m args below meth c B H locs LS1 hP hS hL1)
  rw [← hl]
  show _ :: (mL Γ.1 lv).filter (fun q => !(q.1 == i) && !(q.1 + 1 == i && q.2.category == 2)) = _ :: mL Γ.1 (lv.filter (fun q => !(q.1 == i) && !(q.1 + 1 == i && q.2.category == 2)))
  exact congrArg _ (mL_filter lv (fun a b => !(a == i) && !(a + 1 == i && b == 2)))
theorem J_lstore {i : Nat} {x : Int64} {lv' : List (Nat × Value)} (hdg : decode M.2.1 pc = .ok (.lstore i, 2)) (hn : i + 1 < M.2.2.1) (hl : (i, Value.long x) :: lv.filter (fun q => !(q.1 == i) && (!(q.1 == i + 1) && !(q.1 + 1 == i && q.2.category == 2))) = lv') (k : J Γ l d M Q (pc + 2) lv' st σ) : J Γ l d M Q pc lv (.long x :: st) σ := by
  intro p e s m args below meth c B H locs LS hP hS hL
  obtain ⟨hx, hb, hr, hml, hts, hown, hlocks, hK, hN, hinj⟩ := id B
  refine lv_lstore (lv' := mL Γ.1 lv') hx hb hdg  hL hn ?_ (fun LS1 hL1 => k p e s m args below meth c B H locs LS1 hP hS hL1)
  rw [← hl]
  show _ :: (mL Γ.1 lv).filter (fun q => !(q.1 == i) && (!(q.1 == i + 1) && !(q.1 + 1 == i && q.2.category == 2))) = _ :: mL Γ.1 (lv.filter (fun q => !(q.1 == i) && (!(q.1 == i + 1) && !(q.1 + 1 == i && q.2.category == 2))))
  exact congrArg _ (mL_filter lv (fun a b => !(a == i) && (!(a == i + 1) && !(a + 1 == i && b == 2))))
theorem J_lstore_n {kf : Fin 4} {i : Nat} {x : Int64} {lv' : List (Nat × Value)} (hdg : decode M.2.1 pc = .ok (.lstore_n kf, 1)) (hi : (kf : Nat) = i) (hn : i + 1 < M.2.2.1) (hl : (i, Value.long x) :: lv.filter (fun q => !(q.1 == i) && (!(q.1 == i + 1) && !(q.1 + 1 == i && q.2.category == 2))) = lv') (k : J Γ l d M Q (pc + 1) lv' st σ) : J Γ l d M Q pc lv (.long x :: st) σ := by
  intro p e s m args below meth c B H locs LS hP hS hL
  obtain ⟨hx, hb, hr, hml, hts, hown, hlocks, hK, hN, hinj⟩ := id B
  refine lv_lstore_n (lv' := mL Γ.1 lv') hx hb hdg hi hL hn ?_ (fun LS1 hL1 => k p e s m args below meth c B H locs LS1 hP hS hL1)
  rw [← hl]
  show _ :: (mL Γ.1 lv).filter (fun q => !(q.1 == i) && (!(q.1 == i + 1) && !(q.1 + 1 == i && q.2.category == 2))) = _ :: mL Γ.1 (lv.filter (fun q => !(q.1 == i) && (!(q.1 == i + 1) && !(q.1 + 1 == i && q.2.category == 2))))
  exact congrArg _ (mL_filter lv (fun a b => !(a == i) && (!(a == i + 1) && !(a + 1 == i && b == 2))))
theorem J_iinc {i kk : Nat} {n : Int} {x v : Int32} {lv' : List (Nat × Value)} (hdg : decode M.2.1 pc = .ok (.iinc i n, 3)) (hk : lv[kk]? = some (i, .int x)) (hv : x + Int32.ofInt n = v) (hn : i < M.2.2.1) (hl : (i, Value.int v) :: lv.filter (fun q => !(q.1 == i) && !(q.1 + 1 == i && q.2.category == 2)) = lv') (k : J Γ l d M Q (pc + 3) lv' st σ) : J Γ l d M Q pc lv st σ := by
  intro p e s m args below meth c B H locs LS hP hS hL
  obtain ⟨hx, hb, hr, hml, hts, hown, hlocks, hK, hN, hinj⟩ := id B
  refine lv_iinc (lv' := mL Γ.1 lv') (k := kk) hx hb hdg hL (mL_get hk) hv hn ?_ (fun LS1 hL1 => k p e s m args below meth c B H locs LS1 hP hS hL1)
  rw [← hl]
  show _ :: (mL Γ.1 lv).filter (fun q => !(q.1 == i) && !(q.1 + 1 == i && q.2.category == 2)) = _ :: mL Γ.1 (lv.filter (fun q => !(q.1 == i) && !(q.1 + 1 == i && q.2.category == 2)))
  exact congrArg _ (mL_filter lv (fun a b => !(a == i) && !(a + 1 == i && b == 2)))
theorem J_iadd {x y : Int32} (hdg : decode M.2.1 pc = .ok (.iadd, 1)) (k : J Γ l d M Q (pc + 1) lv (.int (x + y) :: st) σ) : J Γ l d M Q pc lv (.int y :: .int x :: st) σ := by
  intro p e s m args below meth c B H locs LS hP hS hL
  obtain ⟨hx, hb, hr, hml, hts, hown, hlocks, hK, hN, hinj⟩ := id B
  exact lv_iadd hx hb hdg  (k p e s m args below meth c B H locs LS hP hS hL)
theorem J_isub {x y : Int32} (hdg : decode M.2.1 pc = .ok (.isub, 1)) (k : J Γ l d M Q (pc + 1) lv (.int (x - y) :: st) σ) : J Γ l d M Q pc lv (.int y :: .int x :: st) σ := by
  intro p e s m args below meth c B H locs LS hP hS hL
  obtain ⟨hx, hb, hr, hml, hts, hown, hlocks, hK, hN, hinj⟩ := id B
  exact lv_isub hx hb hdg  (k p e s m args below meth c B H locs LS hP hS hL)
theorem J_imul {x y : Int32} (hdg : decode M.2.1 pc = .ok (.imul, 1)) (k : J Γ l d M Q (pc + 1) lv (.int (x * y) :: st) σ) : J Γ l d M Q pc lv (.int y :: .int x :: st) σ := by
  intro p e s m args below meth c B H locs LS hP hS hL
  obtain ⟨hx, hb, hr, hml, hts, hown, hlocks, hK, hN, hinj⟩ := id B
  exact lv_imul hx hb hdg  (k p e s m args below meth c B H locs LS hP hS hL)
theorem J_iand {x y : Int32} (hdg : decode M.2.1 pc = .ok (.iand, 1)) (k : J Γ l d M Q (pc + 1) lv (.int (x &&& y) :: st) σ) : J Γ l d M Q pc lv (.int y :: .int x :: st) σ := by
  intro p e s m args below meth c B H locs LS hP hS hL
  obtain ⟨hx, hb, hr, hml, hts, hown, hlocks, hK, hN, hinj⟩ := id B
  exact lv_iand hx hb hdg  (k p e s m args below meth c B H locs LS hP hS hL)
theorem J_ior {x y : Int32} (hdg : decode M.2.1 pc = .ok (.ior, 1)) (k : J Γ l d M Q (pc + 1) lv (.int (x ||| y) :: st) σ) : J Γ l d M Q pc lv (.int y :: .int x :: st) σ := by
  intro p e s m args below meth c B H locs LS hP hS hL
  obtain ⟨hx, hb, hr, hml, hts, hown, hlocks, hK, hN, hinj⟩ := id B
  exact lv_ior hx hb hdg  (k p e s m args below meth c B H locs LS hP hS hL)
theorem J_ixor {x y : Int32} (hdg : decode M.2.1 pc = .ok (.ixor, 1)) (k : J Γ l d M Q (pc + 1) lv (.int (x ^^^ y) :: st) σ) : J Γ l d M Q pc lv (.int y :: .int x :: st) σ := by
  intro p e s m args below meth c B H locs LS hP hS hL
  obtain ⟨hx, hb, hr, hml, hts, hown, hlocks, hK, hN, hinj⟩ := id B
  exact lv_ixor hx hb hdg  (k p e s m args below meth c B H locs LS hP hS hL)
theorem J_idiv {x y : Int32} (hdg : decode M.2.1 pc = .ok (.idiv, 1)) (hne : ¬ y = 0) (k : J Γ l d M Q (pc + 1) lv (.int (x / y) :: st) σ) : J Γ l d M Q pc lv (.int y :: .int x :: st) σ := by
  intro p e s m args below meth c B H locs LS hP hS hL
  obtain ⟨hx, hb, hr, hml, hts, hown, hlocks, hK, hN, hinj⟩ := id B
  exact lv_idiv hx hb hdg hne (k p e s m args below meth c B H locs LS hP hS hL)
theorem J_irem {x y : Int32} (hdg : decode M.2.1 pc = .ok (.irem, 1)) (hne : ¬ y = 0) (k : J Γ l d M Q (pc + 1) lv (.int (x - x / y * y) :: st) σ) : J Γ l d M Q pc lv (.int y :: .int x :: st) σ := by
  intro p e s m args below meth c B H locs LS hP hS hL
  obtain ⟨hx, hb, hr, hml, hts, hown, hlocks, hK, hN, hinj⟩ := id B
  exact lv_irem hx hb hdg hne (k p e s m args below meth c B H locs LS hP hS hL)
theorem J_ineg {x : Int32} (hdg : decode M.2.1 pc = .ok (.ineg, 1)) (k : J Γ l d M Q (pc + 1) lv (.int (-x) :: st) σ) : J Γ l d M Q pc lv (.int x :: st) σ := by
  intro p e s m args below meth c B H locs LS hP hS hL
  obtain ⟨hx, hb, hr, hml, hts, hown, hlocks, hK, hN, hinj⟩ := id B
  exact lv_ineg hx hb hdg  (k p e s m args below meth c B H locs LS hP hS hL)
theorem J_ladd {x y : Int64} (hdg : decode M.2.1 pc = .ok (.ladd, 1)) (k : J Γ l d M Q (pc + 1) lv (.long (x + y) :: st) σ) : J Γ l d M Q pc lv (.long y :: .long x :: st) σ := by
  intro p e s m args below meth c B H locs LS hP hS hL
  obtain ⟨hx, hb, hr, hml, hts, hown, hlocks, hK, hN, hinj⟩ := id B
  exact lv_ladd hx hb hdg  (k p e s m args below meth c B H locs LS hP hS hL)
theorem J_lsub {x y : Int64} (hdg : decode M.2.1 pc = .ok (.lsub, 1)) (k : J Γ l d M Q (pc + 1) lv (.long (x - y) :: st) σ) : J Γ l d M Q pc lv (.long y :: .long x :: st) σ := by
  intro p e s m args below meth c B H locs LS hP hS hL
  obtain ⟨hx, hb, hr, hml, hts, hown, hlocks, hK, hN, hinj⟩ := id B
  exact lv_lsub hx hb hdg  (k p e s m args below meth c B H locs LS hP hS hL)
theorem J_lmul {x y : Int64} (hdg : decode M.2.1 pc = .ok (.lmul, 1)) (k : J Γ l d M Q (pc + 1) lv (.long (x * y) :: st) σ) : J Γ l d M Q pc lv (.long y :: .long x :: st) σ := by
  intro p e s m args below meth c B H locs LS hP hS hL
  obtain ⟨hx, hb, hr, hml, hts, hown, hlocks, hK, hN, hinj⟩ := id B
  exact lv_lmul hx hb hdg  (k p e s m args below meth c B H locs LS hP hS hL)
theorem J_ldiv {x y : Int64} (hdg : decode M.2.1 pc = .ok (.ldiv, 1)) (hne : ¬ y = 0) (k : J Γ l d M Q (pc + 1) lv (.long (x / y) :: st) σ) : J Γ l d M Q pc lv (.long y :: .long x :: st) σ := by
  intro p e s m args below meth c B H locs LS hP hS hL
  obtain ⟨hx, hb, hr, hml, hts, hown, hlocks, hK, hN, hinj⟩ := id B
  exact lv_ldiv hx hb hdg hne (k p e s m args below meth c B H locs LS hP hS hL)
theorem J_lneg {x : Int64} (hdg : decode M.2.1 pc = .ok (.lneg, 1)) (k : J Γ l d M Q (pc + 1) lv (.long (-x) :: st) σ) : J Γ l d M Q pc lv (.long x :: st) σ := by
  intro p e s m args below meth c B H locs LS hP hS hL
  obtain ⟨hx, hb, hr, hml, hts, hown, hlocks, hK, hN, hinj⟩ := id B
  exact lv_lneg hx hb hdg  (k p e s m args below meth c B H locs LS hP hS hL)
theorem J_ishl {x y : Int32} (hdg : decode M.2.1 pc = .ok (.ishl, 1)) (k : J Γ l d M Q (pc + 1) lv (.int (x <<< (y &&& 31)) :: st) σ) : J Γ l d M Q pc lv (.int y :: .int x :: st) σ := by
  intro p e s m args below meth c B H locs LS hP hS hL
  obtain ⟨hx, hb, hr, hml, hts, hown, hlocks, hK, hN, hinj⟩ := id B
  exact lv_ishl hx hb hdg  (k p e s m args below meth c B H locs LS hP hS hL)
theorem J_ishr {x y : Int32} (hdg : decode M.2.1 pc = .ok (.ishr, 1)) (k : J Γ l d M Q (pc + 1) lv (.int (x >>> (y &&& 31)) :: st) σ) : J Γ l d M Q pc lv (.int y :: .int x :: st) σ := by
  intro p e s m args below meth c B H locs LS hP hS hL
  obtain ⟨hx, hb, hr, hml, hts, hown, hlocks, hK, hN, hinj⟩ := id B
  exact lv_ishr hx hb hdg  (k p e s m args below meth c B H locs LS hP hS hL)
theorem J_iushr {x y : Int32} (hdg : decode M.2.1 pc = .ok (.iushr, 1)) (k : J Γ l d M Q (pc + 1) lv (.int ((x.toUInt32 >>> (y.toUInt32 &&& Int32.toUInt32 31)).toInt32) :: st) σ) : J Γ l d M Q pc lv (.int y :: .int x :: st) σ := by
  intro p e s m args below meth c B H locs LS hP hS hL
  obtain ⟨hx, hb, hr, hml, hts, hown, hlocks, hK, hN, hinj⟩ := id B
  exact lv_iushr hx hb hdg rfl (k p e s m args below meth c B H locs LS hP hS hL)
theorem J_lshl {x : Int64} {y : Int32} (hdg : decode M.2.1 pc = .ok (.lshl, 1)) (k : J Γ l d M Q (pc + 1) lv (.long (x <<< (y.toInt64 &&& 63)) :: st) σ) : J Γ l d M Q pc lv (.int y :: .long x :: st) σ := by
  intro p e s m args below meth c B H locs LS hP hS hL
  obtain ⟨hx, hb, hr, hml, hts, hown, hlocks, hK, hN, hinj⟩ := id B
  exact lv_lshl hx hb hdg rfl (k p e s m args below meth c B H locs LS hP hS hL)
theorem J_lshr {x : Int64} {y : Int32} (hdg : decode M.2.1 pc = .ok (.lshr, 1)) (k : J Γ l d M Q (pc + 1) lv (.long (x >>> (y.toInt64 &&& 63)) :: st) σ) : J Γ l d M Q pc lv (.int y :: .long x :: st) σ := by
  intro p e s m args below meth c B H locs LS hP hS hL
  obtain ⟨hx, hb, hr, hml, hts, hown, hlocks, hK, hN, hinj⟩ := id B
  exact lv_lshr hx hb hdg rfl (k p e s m args below meth c B H locs LS hP hS hL)
theorem J_i2l {x : Int32} (hdg : decode M.2.1 pc = .ok (.i2l, 1)) (k : J Γ l d M Q (pc + 1) lv (.long x.toInt64 :: st) σ) : J Γ l d M Q pc lv (.int x :: st) σ := by
  intro p e s m args below meth c B H locs LS hP hS hL
  obtain ⟨hx, hb, hr, hml, hts, hown, hlocks, hK, hN, hinj⟩ := id B
  exact lv_i2l hx hb hdg rfl (k p e s m args below meth c B H locs LS hP hS hL)
theorem J_l2i {x : Int64} (hdg : decode M.2.1 pc = .ok (.l2i, 1)) (k : J Γ l d M Q (pc + 1) lv (.int x.toInt32 :: st) σ) : J Γ l d M Q pc lv (.long x :: st) σ := by
  intro p e s m args below meth c B H locs LS hP hS hL
  obtain ⟨hx, hb, hr, hml, hts, hown, hlocks, hK, hN, hinj⟩ := id B
  exact lv_l2i hx hb hdg rfl (k p e s m args below meth c B H locs LS hP hS hL)
theorem J_i2b {x : Int32} (hdg : decode M.2.1 pc = .ok (.i2b, 1)) (k : J Γ l d M Q (pc + 1) lv (.int x.toInt8.toInt32 :: st) σ) : J Γ l d M Q pc lv (.int x :: st) σ := by
  intro p e s m args below meth c B H locs LS hP hS hL
  obtain ⟨hx, hb, hr, hml, hts, hown, hlocks, hK, hN, hinj⟩ := id B
  exact lv_i2b hx hb hdg rfl (k p e s m args below meth c B H locs LS hP hS hL)
theorem J_lcmp {x y : Int64} (hdg : decode M.2.1 pc = .ok (.lcmp, 1)) (k : J Γ l d M Q (pc + 1) lv (.int (lg_cmp x y) :: st) σ) : J Γ l d M Q pc lv (.long y :: .long x :: st) σ := by
  intro p e s m args below meth c B H locs LS hP hS hL
  obtain ⟨hx, hb, hr, hml, hts, hown, hlocks, hK, hN, hinj⟩ := id B
  exact W.lcmp hx hb hdg  (k p e s m args below meth c B H locs LS hP hS hL)
theorem J_dup {va : Value} (hdg : decode M.2.1 pc = .ok (.dup, 1)) (hva : va.category = 1) (k : J Γ l d M Q (pc + 1) lv (va :: va :: st) σ) : J Γ l d M Q pc lv (va :: st) σ := by
  intro p e s m args below meth c B H locs LS hP hS hL
  obtain ⟨hx, hb, hr, hml, hts, hown, hlocks, hK, hN, hinj⟩ := id B
  exact lv_dup hx hb hdg ((av_cat _ _).trans hva) (k p e s m args below meth c B H locs LS hP hS hL)
theorem J_pop {va : Value} (hdg : decode M.2.1 pc = .ok (.pop, 1)) (hva : va.category = 1) (k : J Γ l d M Q (pc + 1) lv (st) σ) : J Γ l d M Q pc lv (va :: st) σ := by
  intro p e s m args below meth c B H locs LS hP hS hL
  obtain ⟨hx, hb, hr, hml, hts, hown, hlocks, hK, hN, hinj⟩ := id B
  exact lv_pop hx hb hdg ((av_cat _ _).trans hva) (k p e s m args below meth c B H locs LS hP hS hL)
theorem J_dup2_11 {va vb : Value} (hdg : decode M.2.1 pc = .ok (.dup2, 1)) (hva : va.category = 1) (hvb : vb.category = 1) (k : J Γ l d M Q (pc + 1) lv (va :: vb :: va :: vb :: st) σ) : J Γ l d M Q pc lv (va :: vb :: st) σ := by
  intro p e s m args below meth c B H locs LS hP hS hL
  obtain ⟨hx, hb, hr, hml, hts, hown, hlocks, hK, hN, hinj⟩ := id B
  exact lv_dup2_11 hx hb hdg ((av_cat _ _).trans hva) ((av_cat _ _).trans hvb) (k p e s m args below meth c B H locs LS hP hS hL)
theorem J_dup2_2 {va : Value} (hdg : decode M.2.1 pc = .ok (.dup2, 1)) (hva : va.category = 2) (k : J Γ l d M Q (pc + 1) lv (va :: va :: st) σ) : J Γ l d M Q pc lv (va :: st) σ := by
  intro p e s m args below meth c B H locs LS hP hS hL
  obtain ⟨hx, hb, hr, hml, hts, hown, hlocks, hK, hN, hinj⟩ := id B
  exact lv_dup2_2 hx hb hdg ((av_cat _ _).trans hva) (k p e s m args below meth c B H locs LS hP hS hL)
theorem J_goto {off : Int} {tgt : Nat} (hdg : decode M.2.1 pc = .ok (.goto off, 3)) (ht : (pc : Int) + off = (tgt : Int)) (k : J Γ l d M Q tgt lv st σ) : J Γ l d M Q pc lv st σ := by
  intro p e s m args below meth c B H locs LS hP hS hL
  obtain ⟨hx, hb, hr, hml, hts, hown, hlocks, hK, hN, hinj⟩ := id B
  exact lv_goto hx hb hdg ht (k p e s m args below meth c B H locs LS hP hS hL)
theorem J_if_eq {x : Int32} {off : Int} (tgt : Nat) (hdg : decode M.2.1 pc = .ok (.ifCond .eq off, 3)) (ht : (pc : Int) + off = (tgt : Int)) (kt : x = 0 → J Γ l d M Q tgt lv st σ) (kf : ¬ x = 0 → J Γ l d M Q (pc + 3) lv st σ) : J Γ l d M Q pc lv (.int x :: st) σ := by
  intro p e s m args below meth c B H locs LS hP hS hL
  obtain ⟨hx, hb, hr, hml, hts, hown, hlocks, hK, hN, hinj⟩ := id B
  exact lv_if_eq hx hb hdg ht (fun h => kt h p e s m args below meth c B H locs LS hP hS hL) (fun h => kf h p e s m args below meth c B H locs LS hP hS hL)
theorem J_icmp_eq {x y : Int32} {off : Int} (tgt : Nat) (hdg : decode M.2.1 pc = .ok (.if_icmp .eq off, 3)) (ht : (pc : Int) + off = (tgt : Int)) (kt : x = y → J Γ l d M Q tgt lv st σ) (kf : ¬ x = y → J Γ l d M Q (pc + 3) lv st σ) : J Γ l d M Q pc lv (.int y :: .int x :: st) σ := by
  intro p e s m args below meth c B H locs LS hP hS hL
  obtain ⟨hx, hb, hr, hml, hts, hown, hlocks, hK, hN, hinj⟩ := id B
  exact lv_icmp_eq hx hb hdg ht (fun h => kt h p e s m args below meth c B H locs LS hP hS hL) (fun h => kf h p e s m args below meth c B H locs LS hP hS hL)
theorem J_if_ne {x : Int32} {off : Int} (tgt : Nat) (hdg : decode M.2.1 pc = .ok (.ifCond .ne off, 3)) (ht : (pc : Int) + off = (tgt : Int)) (kt : ¬ x = 0 → J Γ l d M Q tgt lv st σ) (kf : x = 0 → J Γ l d M Q (pc + 3) lv st σ) : J Γ l d M Q pc lv (.int x :: st) σ := by
  intro p e s m args below meth c B H locs LS hP hS hL
  obtain ⟨hx, hb, hr, hml, hts, hown, hlocks, hK, hN, hinj⟩ := id B
  exact lv_if_ne hx hb hdg ht (fun h => kt h p e s m args below meth c B H locs LS hP hS hL) (fun h => kf h p e s m args below meth c B H locs LS hP hS hL)
theorem J_icmp_ne {x y : Int32} {off : Int} (tgt : Nat) (hdg : decode M.2.1 pc = .ok (.if_icmp .ne off, 3)) (ht : (pc : Int) + off = (tgt : Int)) (kt : ¬ x = y → J Γ l d M Q tgt lv st σ) (kf : x = y → J Γ l d M Q (pc + 3) lv st σ) : J Γ l d M Q pc lv (.int y :: .int x :: st) σ := by
  intro p e s m args below meth c B H locs LS hP hS hL
  obtain ⟨hx, hb, hr, hml, hts, hown, hlocks, hK, hN, hinj⟩ := id B
  exact lv_icmp_ne hx hb hdg ht (fun h => kt h p e s m args below meth c B H locs LS hP hS hL) (fun h => kf h p e s m args below meth c B H locs LS hP hS hL)
theorem J_if_lt {x : Int32} {off : Int} (tgt : Nat) (hdg : decode M.2.1 pc = .ok (.ifCond .lt off, 3)) (ht : (pc : Int) + off = (tgt : Int)) (kt : x < 0 → J Γ l d M Q tgt lv st σ) (kf : ¬ x < 0 → J Γ l d M Q (pc + 3) lv st σ) : J Γ l d M Q pc lv (.int x :: st) σ := by
  intro p e s m args below meth c B H locs LS hP hS hL
  obtain ⟨hx, hb, hr, hml, hts, hown, hlocks, hK, hN, hinj⟩ := id B
  exact lv_if_lt hx hb hdg ht (fun h => kt h p e s m args below meth c B H locs LS hP hS hL) (fun h => kf h p e s m args below meth c B H locs LS hP hS hL)
theorem J_icmp_lt {x y : Int32} {off : Int} (tgt : Nat) (hdg : decode M.2.1 pc = .ok (.if_icmp .lt off, 3)) (ht : (pc : Int) + off = (tgt : Int)) (kt : x < y → J Γ l d M Q tgt lv st σ) (kf : ¬ x < y → J Γ l d M Q (pc + 3) lv st σ) : J Γ l d M Q pc lv (.int y :: .int x :: st) σ := by
  intro p e s m args below meth c B H locs LS hP hS hL
  obtain ⟨hx, hb, hr, hml, hts, hown, hlocks, hK, hN, hinj⟩ := id B
  exact lv_icmp_lt hx hb hdg ht (fun h => kt h p e s m args below meth c B H locs LS hP hS hL) (fun h => kf h p e s m args below meth c B H locs LS hP hS hL)
theorem J_if_ge {x : Int32} {off : Int} (tgt : Nat) (hdg : decode M.2.1 pc = .ok (.ifCond .ge off, 3)) (ht : (pc : Int) + off = (tgt : Int)) (kt : 0 ≤ x → J Γ l d M Q tgt lv st σ) (kf : ¬ 0 ≤ x → J Γ l d M Q (pc + 3) lv st σ) : J Γ l d M Q pc lv (.int x :: st) σ := by
  intro p e s m args below meth c B H locs LS hP hS hL
  obtain ⟨hx, hb, hr, hml, hts, hown, hlocks, hK, hN, hinj⟩ := id B
  exact lv_if_ge hx hb hdg ht (fun h => kt h p e s m args below meth c B H locs LS hP hS hL) (fun h => kf h p e s m args below meth c B H locs LS hP hS hL)
theorem J_icmp_ge {x y : Int32} {off : Int} (tgt : Nat) (hdg : decode M.2.1 pc = .ok (.if_icmp .ge off, 3)) (ht : (pc : Int) + off = (tgt : Int)) (kt : y ≤ x → J Γ l d M Q tgt lv st σ) (kf : ¬ y ≤ x → J Γ l d M Q (pc + 3) lv st σ) : J Γ l d M Q pc lv (.int y :: .int x :: st) σ := by
  intro p e s m args below meth c B H locs LS hP hS hL
  obtain ⟨hx, hb, hr, hml, hts, hown, hlocks, hK, hN, hinj⟩ := id B
  exact lv_icmp_ge hx hb hdg ht (fun h => kt h p e s m args below meth c B H locs LS hP hS hL) (fun h => kf h p e s m args below meth c B H locs LS hP hS hL)
theorem J_if_gt {x : Int32} {off : Int} (tgt : Nat) (hdg : decode M.2.1 pc = .ok (.ifCond .gt off, 3)) (ht : (pc : Int) + off = (tgt : Int)) (kt : 0 < x → J Γ l d M Q tgt lv st σ) (kf : ¬ 0 < x → J Γ l d M Q (pc + 3) lv st σ) : J Γ l d M Q pc lv (.int x :: st) σ := by
  intro p e s m args below meth c B H locs LS hP hS hL
  obtain ⟨hx, hb, hr, hml, hts, hown, hlocks, hK, hN, hinj⟩ := id B
  exact lv_if_gt hx hb hdg ht (fun h => kt h p e s m args below meth c B H locs LS hP hS hL) (fun h => kf h p e s m args below meth c B H locs LS hP hS hL)
theorem J_icmp_gt {x y : Int32} {off : Int} (tgt : Nat) (hdg : decode M.2.1 pc = .ok (.if_icmp .gt off, 3)) (ht : (pc : Int) + off = (tgt : Int)) (kt : y < x → J Γ l d M Q tgt lv st σ) (kf : ¬ y < x → J Γ l d M Q (pc + 3) lv st σ) : J Γ l d M Q pc lv (.int y :: .int x :: st) σ := by
  intro p e s m args below meth c B H locs LS hP hS hL
  obtain ⟨hx, hb, hr, hml, hts, hown, hlocks, hK, hN, hinj⟩ := id B
  exact lv_icmp_gt hx hb hdg ht (fun h => kt h p e s m args below meth c B H locs LS hP hS hL) (fun h => kf h p e s m args below meth c B H locs LS hP hS hL)
theorem J_if_le {x : Int32} {off : Int} (tgt : Nat) (hdg : decode M.2.1 pc = .ok (.ifCond .le off, 3)) (ht : (pc : Int) + off = (tgt : Int)) (kt : x ≤ 0 → J Γ l d M Q tgt lv st σ) (kf : ¬ x ≤ 0 → J Γ l d M Q (pc + 3) lv st σ) : J Γ l d M Q pc lv (.int x :: st) σ := by
  intro p e s m args below meth c B H locs LS hP hS hL
  obtain ⟨hx, hb, hr, hml, hts, hown, hlocks, hK, hN, hinj⟩ := id B
  exact lv_if_le hx hb hdg ht (fun h => kt h p e s m args below meth c B H locs LS hP hS hL) (fun h => kf h p e s m args below meth c B H locs LS hP hS hL)
theorem J_icmp_le {x y : Int32} {off : Int} (tgt : Nat) (hdg : decode M.2.1 pc = .ok (.if_icmp .le off, 3)) (ht : (pc : Int) + off = (tgt : Int)) (kt : x ≤ y → J Γ l d M Q tgt lv st σ) (kf : ¬ x ≤ y → J Γ l d M Q (pc + 3) lv st σ) : J Γ l d M Q pc lv (.int y :: .int x :: st) σ := by
  intro p e s m args below meth c B H locs LS hP hS hL
  obtain ⟨hx, hb, hr, hml, hts, hown, hlocks, hK, hN, hinj⟩ := id B
  exact lv_icmp_le hx hb hdg ht (fun h => kt h p e s m args below meth c B H locs LS hP hS hL) (fun h => kf h p e s m args below meth c B H locs LS hP hS hL)
theorem J_tableOut {dflt lo hi : Int} {offs : Array Int} {len : Nat} {x : Int32} (tgt : Nat) (hdg : decode M.2.1 pc = .ok (.tableswitch dflt lo hi offs, len)) (h : x.toInt < lo ∨ hi < x.toInt) (ht : (pc : Int) + dflt = (tgt : Int)) (k : J Γ l d M Q tgt lv st σ) : J Γ l d M Q pc lv (.int x :: st) σ := by
  intro p e s m args below meth c B H locs LS hP hS hL
  obtain ⟨hx, hb, hr, hml, hts, hown, hlocks, hK, hN, hinj⟩ := id B
  exact lv_tableOut hx hb hdg h ht (k p e s m args below meth c B H locs LS hP hS hL)
theorem J_tableIn {dflt lo hi : Int} {offs : Array Int} {len : Nat} {x : Int32} {off : Int} (tgt : Nat) (hdg : decode M.2.1 pc = .ok (.tableswitch dflt lo hi offs, len)) (h1 : ¬ x.toInt < lo) (h2 : ¬ hi < x.toInt) (ho : offs[(x.toInt - lo).toNat]? = some off) (ht : (pc : Int) + off = (tgt : Int)) (k : J Γ l d M Q tgt lv st σ) : J Γ l d M Q pc lv (.int x :: st) σ := by
  intro p e s m args below meth c B H locs LS hP hS hL
  obtain ⟨hx, hb, hr, hml, hts, hown, hlocks, hK, hN, hinj⟩ := id B
  exact lv_tableIn hx hb hdg h1 h2 ho ht (k p e s m args below meth c B H locs LS hP hS hL)
theorem J_lookup {dflt : Int} {ps : Array (Int × Int)} {len : Nat} {x : Int32} {off : Int} (tgt : Nat) (hdg : decode M.2.1 pc = .ok (.lookupswitch dflt ps, len)) (hp : (ps.toList.zip (ps.toList.drop 1)).all (fun (a, next) => a.1 < next.1) = true) (ho : Op.lookupswitch.offset ps.toList dflt x.toInt = off) (ht : (pc : Int) + off = (tgt : Int)) (k : J Γ l d M Q tgt lv st σ) : J Γ l d M Q pc lv (.int x :: st) σ := by
  intro p e s m args below meth c B H locs LS hP hS hL
  obtain ⟨hx, hb, hr, hml, hts, hown, hlocks, hK, hN, hinj⟩ := id B
  exact lv_lookup hx hb hdg hp ho ht (k p e s m args below meth c B H locs LS hP hS hL)
theorem J_ldc {index : Nat} {v : Int32} (hw : Cond.constant M.1.cls index v ∈ gtbl) (hdg : decode M.2.1 pc = .ok (.ldc index, 2)) (k : J Γ l d M Q (pc + 2) lv (.int v :: st) σ) : J Γ l d M Q pc lv st σ := by
  intro p e s m args below meth c B H locs LS hP hS hL
  obtain ⟨hx, hb, hr, hml, hts, hown, hlocks, hK, hN, hinj⟩ := id B
  exact lv_ldc hx hb hown (hts _ hw) hdg (k p e s m args below meth c B H locs LS hP hS hL)
theorem J_ldcw {index : Nat} {v : Int32} (hw : Cond.constant M.1.cls index v ∈ gtbl) (hdg : decode M.2.1 pc = .ok (.ldc_w index, 3)) (k : J Γ l d M Q (pc + 3) lv (.int v :: st) σ) : J Γ l d M Q pc lv st σ := by
  intro p e s m args below meth c B H locs LS hP hS hL
  obtain ⟨hx, hb, hr, hml, hts, hown, hlocks, hK, hN, hinj⟩ := id B
  exact lv_ldcw hx hb hown (hts _ hw) hdg (k p e s m args below meth c B H locs LS hP hS hL)
theorem J_ldc2 {index : Nat} {v : Int64} (hw : Cond.constantLong M.1.cls index v ∈ gtbl) (hdg : decode M.2.1 pc = .ok (.ldc2_w index, 3)) (k : J Γ l d M Q (pc + 3) lv (.long v :: st) σ) : J Γ l d M Q pc lv st σ := by
  intro p e s m args below meth c B H locs LS hP hS hL
  obtain ⟨hx, hb, hr, hml, hts, hown, hlocks, hK, hN, hinj⟩ := id B
  exact lv_ldc2 hx hb hown (hts _ hw) hdg (k p e s m args below meth c B H locs LS hP hS hL)
/-! fields -/
theorem J_getf {index q ci Nf kf f : Nat} {C : String} {T : u_T} {fk : List Nat} (hw : Cond.fieldLink M.1.cls index (T kf).1 (T kf).2.1 (T kf).2.2.1 ∈ gtbl) (hus : ∀ w ∈ u_ws C T Nf, w ∈ gtbl) (hc : vwCl[ci]? = some (C, T, Nf)) (hq : q < nC) (hs : sk q = .inl (ci, fk)) (hk : kf < Nf) (hf : fk[kf]? = some f) (hdg : decode M.2.1 pc = .ok (.getfield index, 3)) (k : J Γ l d M Q (pc + 3) lv (fv σ q kf f :: st) σ) : J Γ l d M Q pc lv (.ref q :: st) σ := by
  intro p e s m args below meth c B H locs LS hP hS hL
  obtain ⟨hx, hb, hr, hml, hts, hown, hlocks, hK, hN, hinj⟩ := id B
  exact va_get hx hb hts hus hown hK hP q ((ws_get hq).trans (congrArg (fun e => some (Γ.1 q, e)) (ce_obj hs))) hc kf hk (hts _ hw) (fun _ h => h) (fvs_get hf) hdg (k p e s m args below meth c B H locs LS hP hS hL)
theorem J_putf {index q ci Nf kf : Nat} {x : Int32} {ty : FieldType} {C : String} {T : u_T} {ty0 : Nat → FieldType} {fk : List Nat} (hw : Cond.fieldLink M.1.cls index (T kf).1 (T kf).2.1 (T kf).2.2.1 ∈ gtbl) (hus : ∀ w ∈ u_ws C T Nf, w ∈ gtbl) (hty : ∀ k, k < Nf → parseFieldDescriptor (T k).2.2.1 = some (ty0 k)) (hnm : ∀ a, a < Nf → ∀ b, b < Nf → a ≠ b → (T a).2.1 ≠ (T b).2.1) (hc : vwCl[ci]? = some (C, T, Nf)) (hq : q < nC) (hs : sk q = .inl (ci, fk)) (hk : kf < Nf) (hf : fk[kf]? = some 0) (hfin : (T kf).2.2.2 = false) (hd : parseFieldDescriptor (T kf).2.2.1 = some ty) (hn : narrow ty (.int x) = .int x) (hfit : fits ty (.int x) = true) (hdg : decode M.2.1 pc = .ok (.putfield index, 3)) (k : J Γ l d M Q (pc + 3) lv st (wr σ q kf x)) : J Γ l d M Q pc lv (.int x :: .ref q :: st) σ := by
  intro p e s m args below meth c B H locs LS hP hS hL
  obtain ⟨hx, hb, hr, hml, hts, hown, hlocks, hK, hN, hinj⟩ := id B
  refine va_put (v := .int x) hx hb hts hus ty0 hty hnm hown hK hP (ws_D hinj σ) hS q ((ws_get hq).trans (congrArg (fun e => some (Γ.1 q, e)) (ce_obj hs))) hc kf hk (hts _ hw) (fun _ h => h) hfin hd hn hfit (by simpa [fvs] using (List.getElem?_eq_some_iff.mp hf).1) hdg (fun H1 locs1 hP1 _ hS1 => ?_)
  have eq1 := ws_wr_obj (Γ := Γ) (σ := σ) (x := x) (v := .int x) hq hs hf (by simp [fv, rd_wr])
  rw [show (Value.int x) = av Γ.1 (.int x) from rfl, eq1] at hP1
  exact k p e s m args below meth c B H1 locs1 LS hP1 hS1 hL
theorem J_putr {index q ci Nf kf r : Nat} {x : Int32} {ty : FieldType} {C : String} {T : u_T} {ty0 : Nat → FieldType} {fk : List Nat} (hx0 : x.toNatClampNeg = r) (hw : Cond.fieldLink M.1.cls index (T kf).1 (T kf).2.1 (T kf).2.2.1 ∈ gtbl) (hus : ∀ w ∈ u_ws C T Nf, w ∈ gtbl) (hty : ∀ k, k < Nf → parseFieldDescriptor (T k).2.2.1 = some (ty0 k)) (hnm : ∀ a, a < Nf → ∀ b, b < Nf → a ≠ b → (T a).2.1 ≠ (T b).2.1) (hc : vwCl[ci]? = some (C, T, Nf)) (hq : q < nC) (hs : sk q = .inl (ci, fk)) (hk : kf < Nf) (hf : fk[kf]? = some 1) (hfin : (T kf).2.2.2 = false) (hd : parseFieldDescriptor (T kf).2.2.1 = some ty) (hn : ∀ a, narrow ty (.ref a) = .ref a) (hfit : ∀ a, fits ty (.ref a) = true) (hdg : decode M.2.1 pc = .ok (.putfield index, 3)) (k : J Γ l d M Q (pc + 3) lv st (wr σ q kf x)) : J Γ l d M Q pc lv (.ref r :: .ref q :: st) σ := by
  intro p e s m args below meth c B H locs LS hP hS hL
  obtain ⟨hx, hb, hr, hml, hts, hown, hlocks, hK, hN, hinj⟩ := id B
  refine va_put (v := .ref (Γ.1 r)) hx hb hts hus ty0 hty hnm hown hK hP (ws_D hinj σ) hS q ((ws_get hq).trans (congrArg (fun e => some (Γ.1 q, e)) (ce_obj hs))) hc kf hk (hts _ hw) (fun _ h => h) hfin hd (hn _) (hfit _) (by simpa [fvs] using (List.getElem?_eq_some_iff.mp hf).1) hdg (fun H1 locs1 hP1 _ hS1 => ?_)
  have eq1 := ws_wr_obj (Γ := Γ) (σ := σ) (x := x) (v := .ref r) hq hs hf (by simp [fv, rd_wr, hx0])
  rw [show (Value.ref (Γ.1 r)) = av Γ.1 (.ref r) from rfl, eq1] at hP1
  exact k p e s m args below meth c B H1 locs1 LS hP1 hS1 hL
/-! arrays -/
theorem J_alen {q t n r : Nat} {v : Int32} (hq : q < nC) (hs : sk q = .inr (t, n, r)) (ht : t < 3) (hv : Int32.ofNat n = v) (hdg : decode M.2.1 pc = .ok (.arraylength, 1)) (k : J Γ l d M Q (pc + 1) lv (.int v :: st) σ) : J Γ l d M Q pc lv (.ref q :: st) σ := by
  intro p e s m args below meth c B H locs LS hP hS hL
  obtain ⟨hx, hb, hr, hml, hts, hown, hlocks, hK, hN, hinj⟩ := id B
  match t, ht with
  | 0, _ => exact va_alen hx hb hK hP q 0 ((ws_get hq).trans (congrArg (fun e => some (Γ.1 q, e)) (ce_int hs (by decide)))) rfl hv hdg (k p e s m args below meth c B H locs LS hP hS hL)
  | 1, _ => exact va_alen hx hb hK hP q 1 ((ws_get hq).trans (congrArg (fun e => some (Γ.1 q, e)) (ce_int hs (by decide)))) rfl hv hdg (k p e s m args below meth c B H locs LS hP hS hL)
  | 2, _ => exact va_alen hx hb hK hP q 2 ((ws_get hq).trans (congrArg (fun e => some (Γ.1 q, e)) (ce_int hs (by decide)))) rfl hv hdg (k p e s m args below meth c B H locs LS hP hS hL)
theorem J_alenL {q n r : Nat} {v : Int32} (hq : q < nC) (hs : sk q = .inr (3, n, r)) (hv : Int32.ofNat n = v) (hdg : decode M.2.1 pc = .ok (.arraylength, 1)) (k : J Γ l d M Q (pc + 1) lv (.int v :: st) σ) : J Γ l d M Q pc lv (.ref q :: st) σ := by
  intro p e s m args below meth c B H locs LS hP hS hL
  obtain ⟨hx, hb, hr, hml, hts, hown, hlocks, hK, hN, hinj⟩ := id B
  exact va_alen hx hb hK hP q 3 ((ws_get hq).trans (congrArg (fun e => some (Γ.1 q, e)) (ce_long hs))) rfl hv hdg (k p e s m args below meth c B H locs LS hP hS hL)
theorem J_iald {q n r : Nat} {i : Int32} (hq : q < nC) (hs : sk q = .inr (0, n, r)) (hin : vp_in i n) (hdg : decode M.2.1 pc = .ok (.iaload, 1)) (k : J Γ l d M Q (pc + 1) lv (.int (rd σ q i.toNatClampNeg) :: st) σ) : J Γ l d M Q pc lv (.int i :: .ref q :: st) σ := by
  intro p e s m args below meth c B H locs LS hP hS hL
  obtain ⟨hx, hb, hr, hml, hts, hown, hlocks, hK, hN, hinj⟩ := id B
  exact va_iald hx hb hK hP q 0 ((ws_get hq).trans (congrArg (fun e => some (Γ.1 q, e)) (ce_int hs (by decide)))) rfl hin hdg (k p e s m args below meth c B H locs LS hP hS hL)
theorem J_bald {q n r : Nat} {i : Int32} (hq : q < nC) (hs : sk q = .inr (1, n, r)) (hin : vp_in i n) (hdg : decode M.2.1 pc = .ok (.baload, 1)) (k : J Γ l d M Q (pc + 1) lv (.int (rd σ q i.toNatClampNeg) :: st) σ) : J Γ l d M Q pc lv (.int i :: .ref q :: st) σ := by
  intro p e s m args below meth c B H locs LS hP hS hL
  obtain ⟨hx, hb, hr, hml, hts, hown, hlocks, hK, hN, hinj⟩ := id B
  exact va_bald hx hb hK hP q 1 ((ws_get hq).trans (congrArg (fun e => some (Γ.1 q, e)) (ce_int hs (by decide)))) rfl hin hdg (k p e s m args below meth c B H locs LS hP hS hL)
theorem J_zald {q n r : Nat} {i : Int32} (hq : q < nC) (hs : sk q = .inr (2, n, r)) (hin : vp_in i n) (hdg : decode M.2.1 pc = .ok (.baload, 1)) (k : J Γ l d M Q (pc + 1) lv (.int (rd σ q i.toNatClampNeg) :: st) σ) : J Γ l d M Q pc lv (.int i :: .ref q :: st) σ := by
  intro p e s m args below meth c B H locs LS hP hS hL
  obtain ⟨hx, hb, hr, hml, hts, hown, hlocks, hK, hN, hinj⟩ := id B
  exact va_zald hx hb hK hP q 2 ((ws_get hq).trans (congrArg (fun e => some (Γ.1 q, e)) (ce_int hs (by decide)))) rfl hin hdg (k p e s m args below meth c B H locs LS hP hS hL)
theorem J_iast {q n r : Nat} {i x : Int32} (hq : q < nC) (hs : sk q = .inr (0, n, r)) (hin : vp_in i n) (hdg : decode M.2.1 pc = .ok (.iastore, 1)) (k : J Γ l d M Q (pc + 1) lv st (wr σ q i.toNatClampNeg x)) : J Γ l d M Q pc lv (.int x :: .int i :: .ref q :: st) σ := by
  intro p e s m args below meth c B H locs LS hP hS hL
  obtain ⟨hx, hb, hr, hml, hts, hown, hlocks, hK, hN, hinj⟩ := id B
  refine va_iast hx hb hK hP (ws_D hinj σ) hS q 0 ((ws_get hq).trans (congrArg (fun e => some (Γ.1 q, e)) (ce_int hs (by decide)))) rfl hin hdg (fun H1 locs1 hP1 _ hS1 => ?_)
  rw [ws_wr_int hq hs (by decide)] at hP1
  exact k p e s m args below meth c B H1 locs1 LS hP1 hS1 hL
theorem J_bast {q n r : Nat} {i x : Int32} (hq : q < nC) (hs : sk q = .inr (1, n, r)) (hin : vp_in i n) (hdg : decode M.2.1 pc = .ok (.bastore, 1)) (k : J Γ l d M Q (pc + 1) lv st (wr σ q i.toNatClampNeg (vp_nar .byte x))) : J Γ l d M Q pc lv (.int x :: .int i :: .ref q :: st) σ := by
  intro p e s m args below meth c B H locs LS hP hS hL
  obtain ⟨hx, hb, hr, hml, hts, hown, hlocks, hK, hN, hinj⟩ := id B
  refine va_bast hx hb hK hP (ws_D hinj σ) hS q 1 ((ws_get hq).trans (congrArg (fun e => some (Γ.1 q, e)) (ce_int hs (by decide)))) rfl hin hdg (fun H1 locs1 hP1 _ hS1 => ?_)
  rw [ws_wr_int hq hs (by decide)] at hP1
  exact k p e s m args below meth c B H1 locs1 LS hP1 hS1 hL
theorem J_zast {q n r : Nat} {i x : Int32} (hq : q < nC) (hs : sk q = .inr (2, n, r)) (hin : vp_in i n) (hdg : decode M.2.1 pc = .ok (.bastore, 1)) (k : J Γ l d M Q (pc + 1) lv st (wr σ q i.toNatClampNeg (vp_nar .boolean x))) : J Γ l d M Q pc lv (.int x :: .int i :: .ref q :: st) σ := by
  intro p e s m args below meth c B H locs LS hP hS hL
  obtain ⟨hx, hb, hr, hml, hts, hown, hlocks, hK, hN, hinj⟩ := id B
  refine va_zast hx hb hK hP (ws_D hinj σ) hS q 2 ((ws_get hq).trans (congrArg (fun e => some (Γ.1 q, e)) (ce_int hs (by decide)))) rfl hin hdg (fun H1 locs1 hP1 _ hS1 => ?_)
  rw [ws_wr_int hq hs (by decide)] at hP1
  exact k p e s m args below meth c B H1 locs1 LS hP1 hS1 hL
theorem J_lald {q n r : Nat} {i : Int32} (hq : q < nC) (hs : sk q = .inr (3, n, r)) (hin : vp_in i n) (hdg : decode M.2.1 pc = .ok (.laload, 1)) (k : J Γ l d M Q (pc + 1) lv (.long (rl σ q i.toNatClampNeg) :: st) σ) : J Γ l d M Q pc lv (.int i :: .ref q :: st) σ := by
  intro p e s m args below meth c B H locs LS hP hS hL
  obtain ⟨hx, hb, hr, hml, hts, hown, hlocks, hK, hN, hinj⟩ := id B
  exact va_lald hx hb hK hP q 3 ((ws_get hq).trans (congrArg (fun e => some (Γ.1 q, e)) (ce_long hs))) rfl hin hdg (k p e s m args below meth c B H locs LS hP hS hL)
theorem J_last {q n r : Nat} {i : Int32} {x : Int64} (hq : q < nC) (hs : sk q = .inr (3, n, r)) (hin : vp_in i n) (hdg : decode M.2.1 pc = .ok (.lastore, 1)) (k : J Γ l d M Q (pc + 1) lv st (wl σ q i.toNatClampNeg x)) : J Γ l d M Q pc lv (.long x :: .int i :: .ref q :: st) σ := by
  intro p e s m args below meth c B H locs LS hP hS hL
  obtain ⟨hx, hb, hr, hml, hts, hown, hlocks, hK, hN, hinj⟩ := id B
  refine va_last hx hb hK hP (ws_D hinj σ) hS q 3 ((ws_get hq).trans (congrArg (fun e => some (Γ.1 q, e)) (ce_long hs))) rfl hin hdg (fun H1 locs1 hP1 _ hS1 => ?_)
  rw [ws_wl_long hq hs] at hP1
  exact k p e s m args below meth c B H1 locs1 LS hP1 hS1 hL
theorem J_aald {q n r : Nat} {i : Int32} (hq : q < nC) (hs : sk q = .inr (4, n, r)) (hin : vp_in i n) (hdg : decode M.2.1 pc = .ok (.aaload, 1)) (k : J Γ l d M Q (pc + 1) lv (.ref (i.toNatClampNeg + r) :: st) σ) : J Γ l d M Q pc lv (.int i :: .ref q :: st) σ := by
  intro p e s m args below meth c B H locs LS hP hS hL
  obtain ⟨hx, hb, hr, hml, hts, hown, hlocks, hK, hN, hinj⟩ := id B
  have hlt : i.toNatClampNeg < n := Nat.not_le.mp fun q => hin (Or.inr q)
  have ha : (wsG Γ σ)[q]? = some (Γ.1 q, .inl (Γ.2.1 4, n, .inr (.inr (.inr (.inr (fun i => some (Γ.1 (i + r)))))))) := (ws_get hq).trans (congrArg (fun e => some (Γ.1 q, e)) (ce_refs hs))
  refine W.aald (v := .ref (Γ.1 (i.toNatClampNeg + r))) (ty := .array .int) hx hb (hP q _ ha) ((hK.2 4 (Γ.2.1 4, .array .int) rfl).1 n (fun j => va_rf (some (Γ.1 (j + r))))) rfl (fun q => by cases q) (by show ¬ (i < 0 ∨ (arrV _ _ _).slots.size ≤ _); rw [arrV_size]; exact hin) (by show (arrV _ _ _).slots[_]? = _; rw [arrV_read _ _ hlt]; rfl) rfl rfl hdg (k p e s m args below meth c B H locs LS hP hS hL)
/-! ends -/
theorem J_iret {v : Int32} (hret : M.2.2.2 = some .int) (hdg : decode M.2.1 pc = .ok (.ireturn, 1)) (k : Q (some (.int v)) σ) : J Γ l d M Q pc lv [.int v] σ := by
  intro p e s m args below meth c B H locs LS hP hS hL
  obtain ⟨hx, hb, hr, hml, hts, hown, hlocks, hK, hN, hinj⟩ := id B
  exact W.iret hx hb (hr.trans hret) (fun t ht hW => ⟨⟨some (.int v), σ, rfl, k, by rw [ht]; exact hP⟩, hS.F ht⟩) hS.2.2 hdg
theorem J_zret {v : Int32} (hret : M.2.2.2 = some .boolean) (hv : v = 0 ∨ v = 1) (hdg : decode M.2.1 pc = .ok (.ireturn, 1)) (k : Q (some (.int v)) σ) : J Γ l d M Q pc lv [.int v] σ := by
  intro p e s m args below meth c B H locs LS hP hS hL
  obtain ⟨hx, hb, hr, hml, hts, hown, hlocks, hK, hN, hinj⟩ := id B
  exact W.zret hx hb (hr.trans hret) (by rcases hv with h | h <;> subst h <;> rfl) (fun t ht hW => ⟨⟨some (.int v), σ, rfl, k, by rw [ht]; exact hP⟩, hS.F ht⟩) hS.2.2 hdg
theorem J_lret {v : Int64} (hret : M.2.2.2 = some .long) (hdg : decode M.2.1 pc = .ok (.lreturn, 1)) (k : Q (some (.long v)) σ) : J Γ l d M Q pc lv [.long v] σ := by
  intro p e s m args below meth c B H locs LS hP hS hL
  obtain ⟨hx, hb, hr, hml, hts, hown, hlocks, hK, hN, hinj⟩ := id B
  exact W.lret hx hb (hr.trans hret) (fun t ht hW => ⟨⟨some (.long v), σ, rfl, k, by rw [ht]; exact hP⟩, hS.F ht⟩) hS.2.2 hdg
theorem J_vret (hret : M.2.2.2 = none) (hdg : decode M.2.1 pc = .ok (.return_, 1)) (k : Q none σ) : J Γ l d M Q pc lv [] σ := by
  intro p e s m args below meth c B H locs LS hP hS hL
  obtain ⟨hx, hb, hr, hml, hts, hown, hlocks, hK, hN, hinj⟩ := id B
  exact W.vret hx hb (hr.trans hret) (fun t ht hW => ⟨⟨none, σ, rfl, k, by rw [ht]; exact hP⟩, hS.F ht⟩) hS.2.2 hdg
end JR

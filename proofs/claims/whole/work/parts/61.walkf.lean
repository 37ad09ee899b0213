/-! WALKS: Arrays.fill over a row of steps, of warm hours; over the plan's trial stands in part 12 -/
set_option maxHeartbeats 4000000 in
set_option maxRecDepth 100000 in
theorem w_J7_fill_53178_w118_5 {Γ : GG} {l : Launch} {d : Nat} {Q : Option Value → St → Prop} {σ : St} (i0 : Nat) (hi0 : i0 < 12) (a1 : Int32) (a2 : Int32) (a3 : Int32) (h : (a3 ≤ a2 → Q none σ) ∧ (¬ a3 ≤ a2 → vp_in a2 10 ∧ ∀ x2 : Int32, x2 = a2 + 1 → J Γ l d mJ7_fill_53178 Q 5 [(0, .ref (i0 + 118)), (1, .int a1), (2, .int x2), (3, .int a3)] [] (wr σ (i0 + 118) (a2.toNatClampNeg) a1))) : J Γ l d mJ7_fill_53178 Q 5 [(0, .ref (i0 + 118)), (1, .int a1), (2, .int a2), (3, .int a3)] [] σ := by
  refine J_iload_n (i := 2) (kk := 2) dJ7_fill_53178_5 rfl rfl ?_
  refine J_iload_n (i := 3) (kk := 3) dJ7_fill_53178_6 rfl rfl ?_
  refine J_icmp_ge 20 dJ7_fill_53178_7 (by decide) (fun hc => ?_) (fun hc => ?_)
  · replace h := h.1 hc
    exact J_vret rfl dJ7_fill_53178_20 h
  · replace h := h.2 hc
    refine J_aload_n (i := 0) (kk := 0) dJ7_fill_53178_10 rfl rfl ?_
    refine J_iload_n (i := 2) (kk := 2) dJ7_fill_53178_11 rfl rfl ?_
    refine J_iload_n (i := 1) (kk := 1) dJ7_fill_53178_12 rfl rfl ?_
    have b1 := h.1
    replace h := h.2
    refine J_ast (a2.toNatClampNeg) rfl (nc_row118 hi0) (sk_row118 hi0) b1 dJ7_fill_53178_13 ?_
    obtain ⟨x2, ex2⟩ : ∃ y : Int32, y = a2 + 1 := ⟨_, rfl⟩
    replace h := h x2 ex2
    refine J_iinc (i := 2) (kk := 2) (v := x2) (lv' := [(2, .int x2), (0, .ref (i0 + 118)), (1, .int a1), (3, .int a3)]) dJ7_fill_53178_14 rfl (by rw [ex2]; rfl) (by decide) rfl ?_
    refine J_goto (tgt := 5) dJ7_fill_53178_17 (by decide) ?_
    refine J_sub [1, 2, 0, 3] rfl ?_
    exact h
set_option maxHeartbeats 4000000 in
set_option maxRecDepth 100000 in
theorem w_J7_fill_53178_w118_0 {Γ : GG} {l : Launch} {d : Nat} {Q : Option Value → St → Prop} {σ : St} (i0 : Nat) (hi0 : i0 < 12) (a1 : Int32) (h : J Γ l d mJ7_fill_53178 Q 5 [(0, .ref (i0 + 118)), (1, .int a1), (2, .int (0)), (3, .int (10))] [] σ) : J Γ l d mJ7_fill_53178 Q 0 [(0, .ref (i0 + 118)), (1, .int a1)] [] σ := by
  refine J_iconst (v := 0) dJ7_fill_53178_0 (by decide) ?_
  refine J_istore_n (i := 2) (lv' := [(2, .int (0)), (0, .ref (i0 + 118)), (1, .int a1)]) dJ7_fill_53178_1 rfl (by decide) rfl ?_
  refine J_aload_n (i := 0) (kk := 1) dJ7_fill_53178_2 rfl rfl ?_
  refine J_alen (v := 10) (nc_row118 hi0) (sk_row118 hi0) (by decide) (by decide) dJ7_fill_53178_3 ?_
  refine J_istore_n (i := 3) (lv' := [(3, .int (10)), (2, .int (0)), (0, .ref (i0 + 118)), (1, .int a1)]) dJ7_fill_53178_4 rfl (by decide) rfl ?_
  refine J_sub [2, 3, 1, 0] rfl ?_
  exact h
theorem M_J7_fill_53178_w118 {Γ : GG} {l : Launch} {d : Nat} {Q : Option Value → St → Prop} {σ : St} (i0 : Nat) (hi0 : i0 < 12) (a1 : Int32) (k : J Γ l d mJ7_fill_53178 Q 0 [(0, .ref (i0 + 118)), (1, .int a1)] [] σ) : Meth Γ l d mJ7_fill_53178 [.ref (i0 + 118), .int a1] σ Q := Meth_of_J (by decide +kernel) (fun _ => Nat.le_of_ble_eq_true rfl) (fun _ => rfl) k
set_option maxHeartbeats 4000000 in
set_option maxRecDepth 100000 in
theorem w_J7_fill_53178_w130_5 {Γ : GG} {l : Launch} {d : Nat} {Q : Option Value → St → Prop} {σ : St} (i0 : Nat) (hi0 : i0 < 12) (a1 : Int32) (a2 : Int32) (a3 : Int32) (h : (a3 ≤ a2 → Q none σ) ∧ (¬ a3 ≤ a2 → vp_in a2 10 ∧ ∀ x2 : Int32, x2 = a2 + 1 → J Γ l d mJ7_fill_53178 Q 5 [(0, .ref (i0 + 130)), (1, .int a1), (2, .int x2), (3, .int a3)] [] (wr σ (i0 + 130) (a2.toNatClampNeg) a1))) : J Γ l d mJ7_fill_53178 Q 5 [(0, .ref (i0 + 130)), (1, .int a1), (2, .int a2), (3, .int a3)] [] σ := by
  refine J_iload_n (i := 2) (kk := 2) dJ7_fill_53178_5 rfl rfl ?_
  refine J_iload_n (i := 3) (kk := 3) dJ7_fill_53178_6 rfl rfl ?_
  refine J_icmp_ge 20 dJ7_fill_53178_7 (by decide) (fun hc => ?_) (fun hc => ?_)
  · replace h := h.1 hc
    exact J_vret rfl dJ7_fill_53178_20 h
  · replace h := h.2 hc
    refine J_aload_n (i := 0) (kk := 0) dJ7_fill_53178_10 rfl rfl ?_
    refine J_iload_n (i := 2) (kk := 2) dJ7_fill_53178_11 rfl rfl ?_
    refine J_iload_n (i := 1) (kk := 1) dJ7_fill_53178_12 rfl rfl ?_
    have b1 := h.1
    replace h := h.2
    refine J_ast (a2.toNatClampNeg) rfl (nc_row130 hi0) (sk_row130 hi0) b1 dJ7_fill_53178_13 ?_
    obtain ⟨x2, ex2⟩ : ∃ y : Int32, y = a2 + 1 := ⟨_, rfl⟩
    replace h := h x2 ex2
    refine J_iinc (i := 2) (kk := 2) (v := x2) (lv' := [(2, .int x2), (0, .ref (i0 + 130)), (1, .int a1), (3, .int a3)]) dJ7_fill_53178_14 rfl (by rw [ex2]; rfl) (by decide) rfl ?_
    refine J_goto (tgt := 5) dJ7_fill_53178_17 (by decide) ?_
    refine J_sub [1, 2, 0, 3] rfl ?_
    exact h
set_option maxHeartbeats 4000000 in
set_option maxRecDepth 100000 in
theorem w_J7_fill_53178_w130_0 {Γ : GG} {l : Launch} {d : Nat} {Q : Option Value → St → Prop} {σ : St} (i0 : Nat) (hi0 : i0 < 12) (a1 : Int32) (h : J Γ l d mJ7_fill_53178 Q 5 [(0, .ref (i0 + 130)), (1, .int a1), (2, .int (0)), (3, .int (10))] [] σ) : J Γ l d mJ7_fill_53178 Q 0 [(0, .ref (i0 + 130)), (1, .int a1)] [] σ := by
  refine J_iconst (v := 0) dJ7_fill_53178_0 (by decide) ?_
  refine J_istore_n (i := 2) (lv' := [(2, .int (0)), (0, .ref (i0 + 130)), (1, .int a1)]) dJ7_fill_53178_1 rfl (by decide) rfl ?_
  refine J_aload_n (i := 0) (kk := 1) dJ7_fill_53178_2 rfl rfl ?_
  refine J_alen (v := 10) (nc_row130 hi0) (sk_row130 hi0) (by decide) (by decide) dJ7_fill_53178_3 ?_
  refine J_istore_n (i := 3) (lv' := [(3, .int (10)), (2, .int (0)), (0, .ref (i0 + 130)), (1, .int a1)]) dJ7_fill_53178_4 rfl (by decide) rfl ?_
  refine J_sub [2, 3, 1, 0] rfl ?_
  exact h
theorem M_J7_fill_53178_w130 {Γ : GG} {l : Launch} {d : Nat} {Q : Option Value → St → Prop} {σ : St} (i0 : Nat) (hi0 : i0 < 12) (a1 : Int32) (k : J Γ l d mJ7_fill_53178 Q 0 [(0, .ref (i0 + 130)), (1, .int a1)] [] σ) : Meth Γ l d mJ7_fill_53178 [.ref (i0 + 130), .int a1] σ Q := Meth_of_J (by decide +kernel) (fun _ => Nat.le_of_ble_eq_true rfl) (fun _ => rfl) k

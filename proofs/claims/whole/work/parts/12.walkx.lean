set_option maxHeartbeats 4000000 in
set_option maxRecDepth 100000 in
theorem w_X0_add_0 {Γ : GG} {l : Launch} {d : Nat} {Q : Option Value → St → Prop} {σ : St} (a1 : Int32) (a2 : Int32) (a3 : Int32) (a4 : Int32) (h : (rd σ 17 1 < (200 : Int32) → vp_in (rd σ 17 1) 200 ∧ Q (some (.int (((rd (wr (wr (wr (wr (wr (wr (wr (wr σ (((rd σ 17 1).toNatClampNeg) + 142) 0 a1) (((rd σ 17 1).toNatClampNeg) + 142) 1 (a2 / (100 : Int32))) (((rd σ 17 1).toNatClampNeg) + 142) 2 (a2 - a2 / (100 : Int32) * (100 : Int32))) (((rd σ 17 1).toNatClampNeg) + 142) 3 a3) (((rd σ 17 1).toNatClampNeg) + 142) 4 a4) (((rd σ 17 1).toNatClampNeg) + 142) 5 a4) (((rd σ 17 1).toNatClampNeg) + 142) 11 ((-1) : Int32)) (((rd σ 17 1).toNatClampNeg) + 142) 12 (rd (wr (wr (wr (wr (wr (wr (wr σ (((rd σ 17 1).toNatClampNeg) + 142) 0 a1) (((rd σ 17 1).toNatClampNeg) + 142) 1 (a2 / (100 : Int32))) (((rd σ 17 1).toNatClampNeg) + 142) 2 (a2 - a2 / (100 : Int32) * (100 : Int32))) (((rd σ 17 1).toNatClampNeg) + 142) 3 a3) (((rd σ 17 1).toNatClampNeg) + 142) 4 a4) (((rd σ 17 1).toNatClampNeg) + 142) 5 a4) (((rd σ 17 1).toNatClampNeg) + 142) 11 ((-1) : Int32)) 17 1)) 17 1) + (1 : Int32)) - (1 : Int32)))) (wr (wr (wr (wr (wr (wr (wr (wr (wr σ (((rd σ 17 1).toNatClampNeg) + 142) 0 a1) (((rd σ 17 1).toNatClampNeg) + 142) 1 (a2 / (100 : Int32))) (((rd σ 17 1).toNatClampNeg) + 142) 2 (a2 - a2 / (100 : Int32) * (100 : Int32))) (((rd σ 17 1).toNatClampNeg) + 142) 3 a3) (((rd σ 17 1).toNatClampNeg) + 142) 4 a4) (((rd σ 17 1).toNatClampNeg) + 142) 5 a4) (((rd σ 17 1).toNatClampNeg) + 142) 11 ((-1) : Int32)) (((rd σ 17 1).toNatClampNeg) + 142) 12 (rd (wr (wr (wr (wr (wr (wr (wr σ (((rd σ 17 1).toNatClampNeg) + 142) 0 a1) (((rd σ 17 1).toNatClampNeg) + 142) 1 (a2 / (100 : Int32))) (((rd σ 17 1).toNatClampNeg) + 142) 2 (a2 - a2 / (100 : Int32) * (100 : Int32))) (((rd σ 17 1).toNatClampNeg) + 142) 3 a3) (((rd σ 17 1).toNatClampNeg) + 142) 4 a4) (((rd σ 17 1).toNatClampNeg) + 142) 5 a4) (((rd σ 17 1).toNatClampNeg) + 142) 11 ((-1) : Int32)) 17 1)) 17 1 ((rd (wr (wr (wr (wr (wr (wr (wr (wr σ (((rd σ 17 1).toNatClampNeg) + 142) 0 a1) (((rd σ 17 1).toNatClampNeg) + 142) 1 (a2 / (100 : Int32))) (((rd σ 17 1).toNatClampNeg) + 142) 2 (a2 - a2 / (100 : Int32) * (100 : Int32))) (((rd σ 17 1).toNatClampNeg) + 142) 3 a3) (((rd σ 17 1).toNatClampNeg) + 142) 4 a4) (((rd σ 17 1).toNatClampNeg) + 142) 5 a4) (((rd σ 17 1).toNatClampNeg) + 142) 11 ((-1) : Int32)) (((rd σ 17 1).toNatClampNeg) + 142) 12 (rd (wr (wr (wr (wr (wr (wr (wr σ (((rd σ 17 1).toNatClampNeg) + 142) 0 a1) (((rd σ 17 1).toNatClampNeg) + 142) 1 (a2 / (100 : Int32))) (((rd σ 17 1).toNatClampNeg) + 142) 2 (a2 - a2 / (100 : Int32) * (100 : Int32))) (((rd σ 17 1).toNatClampNeg) + 142) 3 a3) (((rd σ 17 1).toNatClampNeg) + 142) 4 a4) (((rd σ 17 1).toNatClampNeg) + 142) 5 a4) (((rd σ 17 1).toNatClampNeg) + 142) 11 ((-1) : Int32)) 17 1)) 17 1) + (1 : Int32)))) ∧ (¬ rd σ 17 1 < (200 : Int32) → Q (some (.int ((-3)))) σ)) : J Γ l d mX0_add Q 0 [(0, .ref 17), (1, .int a1), (2, .int a2), (3, .int a3), (4, .int a4)] [] σ := by
  refine J_aload_n (i := 0) (kk := 0) dX0_add_0 rfl rfl ?_
  refine J_getI (q := 17) (ci := 0) (kf := 1) kfX0_16 uxX0 rfl (by decide) rfl (by decide) rfl dX0_add_1 ?_
  refine J_sipush (v := 200) dX0_add_4 (by decide) ?_
  refine J_icmp_lt 13 dX0_add_7 (by decide) (fun hc => ?_) (fun hc => ?_)
  · replace h := h.1 hc
    refine J_aload_n (i := 0) (kk := 0) dX0_add_13 rfl rfl ?_
    refine J_getR 18 (q := 17) (ci := 0) (kf := 0) kfX0_11 uxX0 rfl (by decide) rfl (by decide) rfl dX0_add_14 ?_
    refine J_aload_n (i := 0) (kk := 0) dX0_add_17 rfl rfl ?_
    refine J_getI (q := 17) (ci := 0) (kf := 1) kfX0_16 uxX0 rfl (by decide) rfl (by decide) rfl dX0_add_18 ?_
    have b1 := h.1
    replace h := h.2
    refine J_aald2 ((rd σ 17 1).toNatClampNeg) rfl (by decide) rfl b1 dX0_add_21 ?_
    refine J_astore (i := 5) (lv' := [(5, .ref (((rd σ 17 1).toNatClampNeg) + 142)), (0, .ref 17), (1, .int a1), (2, .int a2), (3, .int a3), (4, .int a4)]) dX0_add_22 (by decide) rfl ?_
    refine J_aload (i := 5) (kk := 0) dX0_add_24 rfl ?_
    refine J_iconst (v := 0) dX0_add_26 (by decide) ?_
    refine J_iload_n (i := 1) (kk := 2) dX0_add_27 rfl rfl ?_
    refine J_ast 0 (by decide) (nc_row142 (vp_lt b1)) (sk_row142 (vp_lt b1)) (by unfold vp_in; decide) dX0_add_28 ?_
    refine J_aload (i := 5) (kk := 0) dX0_add_29 rfl ?_
    refine J_iconst (v := 1) dX0_add_31 (by decide) ?_
    refine J_iload_n (i := 2) (kk := 3) dX0_add_32 rfl rfl ?_
    refine J_bipush (v := 100) dX0_add_33 (by decide) ?_
    refine J_idiv dX0_add_35 (by decide) ?_
    refine J_ast 1 (by decide) (nc_row142 (vp_lt b1)) (sk_row142 (vp_lt b1)) (by unfold vp_in; decide) dX0_add_36 ?_
    refine J_aload (i := 5) (kk := 0) dX0_add_37 rfl ?_
    refine J_iconst (v := 2) dX0_add_39 (by decide) ?_
    refine J_iload_n (i := 2) (kk := 3) dX0_add_40 rfl rfl ?_
    refine J_bipush (v := 100) dX0_add_41 (by decide) ?_
    refine J_irem dX0_add_43 (by decide) ?_
    refine J_ast 2 (by decide) (nc_row142 (vp_lt b1)) (sk_row142 (vp_lt b1)) (by unfold vp_in; decide) dX0_add_44 ?_
    refine J_aload (i := 5) (kk := 0) dX0_add_45 rfl ?_
    refine J_iconst (v := 3) dX0_add_47 (by decide) ?_
    refine J_iload_n (i := 3) (kk := 4) dX0_add_48 rfl rfl ?_
    refine J_ast 3 (by decide) (nc_row142 (vp_lt b1)) (sk_row142 (vp_lt b1)) (by unfold vp_in; decide) dX0_add_49 ?_
    refine J_aload (i := 5) (kk := 0) dX0_add_50 rfl ?_
    refine J_iconst (v := 4) dX0_add_52 (by decide) ?_
    refine J_iload (i := 4) (kk := 5) dX0_add_53 rfl ?_
    refine J_ast 4 (by decide) (nc_row142 (vp_lt b1)) (sk_row142 (vp_lt b1)) (by unfold vp_in; decide) dX0_add_55 ?_
    refine J_aload (i := 5) (kk := 0) dX0_add_56 rfl ?_
    refine J_iconst (v := 5) dX0_add_58 (by decide) ?_
    refine J_iload (i := 4) (kk := 5) dX0_add_59 rfl ?_
    refine J_ast 5 (by decide) (nc_row142 (vp_lt b1)) (sk_row142 (vp_lt b1)) (by unfold vp_in; decide) dX0_add_61 ?_
    refine J_aload (i := 5) (kk := 0) dX0_add_62 rfl ?_
    refine J_bipush (v := 11) dX0_add_64 (by decide) ?_
    refine J_iconst (v := (-1)) dX0_add_66 (by decide) ?_
    refine J_ast 11 (by decide) (nc_row142 (vp_lt b1)) (sk_row142 (vp_lt b1)) (by unfold vp_in; decide) dX0_add_67 ?_
    refine J_aload (i := 5) (kk := 0) dX0_add_68 rfl ?_
    refine J_bipush (v := 12) dX0_add_70 (by decide) ?_
    refine J_aload_n (i := 0) (kk := 1) dX0_add_72 rfl rfl ?_
    refine J_getI (q := 17) (ci := 0) (kf := 1) kfX0_16 uxX0 rfl (by decide) rfl (by decide) rfl dX0_add_73 ?_
    refine J_ast 12 (by decide) (nc_row142 (vp_lt b1)) (sk_row142 (vp_lt b1)) (by unfold vp_in; decide) dX0_add_76 ?_
    refine J_aload_n (i := 0) (kk := 1) dX0_add_77 rfl rfl ?_
    refine J_dup dX0_add_78 rfl ?_
    refine J_getI (q := 17) (ci := 0) (kf := 1) kfX0_16 uxX0 rfl (by decide) rfl (by decide) rfl dX0_add_79 ?_
    refine J_iconst (v := 1) dX0_add_82 (by decide) ?_
    refine J_iadd dX0_add_83 ?_
    refine J_putf (q := 17) (ci := 0) (kf := 1) (ty := .int) kfX0_16 uxX0 tyX0_ok nmX0 rfl (by decide) rfl (by decide) rfl rfl rfl rfl rfl dX0_add_84 ?_
    refine J_aload_n (i := 0) (kk := 1) dX0_add_87 rfl rfl ?_
    refine J_getI (q := 17) (ci := 0) (kf := 1) kfX0_16 uxX0 rfl (by decide) rfl (by decide) rfl dX0_add_88 ?_
    refine J_eqI (y := ((rd (wr (wr (wr (wr (wr (wr (wr (wr σ (((rd σ 17 1).toNatClampNeg) + 142) 0 a1) (((rd σ 17 1).toNatClampNeg) + 142) 1 (a2 / (100 : Int32))) (((rd σ 17 1).toNatClampNeg) + 142) 2 (a2 - a2 / (100 : Int32) * (100 : Int32))) (((rd σ 17 1).toNatClampNeg) + 142) 3 a3) (((rd σ 17 1).toNatClampNeg) + 142) 4 a4) (((rd σ 17 1).toNatClampNeg) + 142) 5 a4) (((rd σ 17 1).toNatClampNeg) + 142) 11 ((-1) : Int32)) (((rd σ 17 1).toNatClampNeg) + 142) 12 (rd (wr (wr (wr (wr (wr (wr (wr σ (((rd σ 17 1).toNatClampNeg) + 142) 0 a1) (((rd σ 17 1).toNatClampNeg) + 142) 1 (a2 / (100 : Int32))) (((rd σ 17 1).toNatClampNeg) + 142) 2 (a2 - a2 / (100 : Int32) * (100 : Int32))) (((rd σ 17 1).toNatClampNeg) + 142) 3 a3) (((rd σ 17 1).toNatClampNeg) + 142) 4 a4) (((rd σ 17 1).toNatClampNeg) + 142) 5 a4) (((rd σ 17 1).toNatClampNeg) + 142) 11 ((-1) : Int32)) 17 1)) 17 1) + (1 : Int32))) rfl ?_
    refine J_iconst (v := 1) dX0_add_91 (by decide) ?_
    refine J_isub dX0_add_92 ?_
    exact J_iret rfl dX0_add_93 h
  · replace h := h.2 hc
    refine J_bipush (v := (-3)) dX0_add_10 (by decide) ?_
    exact J_iret rfl dX0_add_12 h
theorem M_X0_add {Γ : GG} {l : Launch} {d : Nat} {Q : Option Value → St → Prop} {σ : St} (a1 : Int32) (a2 : Int32) (a3 : Int32) (a4 : Int32) (k : J Γ l d mX0_add Q 0 [(0, .ref 17), (1, .int a1), (2, .int a2), (3, .int a3), (4, .int a4)] [] σ) : Meth Γ l d mX0_add [.ref 17, .int a1, .int a2, .int a3, .int a4] σ Q := Meth_of_J (by decide +kernel) (fun _ => Nat.le_of_ble_eq_true rfl) (fun _ => rfl) k
set_option maxHeartbeats 4000000 in
set_option maxRecDepth 100000 in
theorem w_X0_take_0 {Γ : GG} {l : Launch} {d : Nat} {Q : Option Value → St → Prop} {σ : St} (a1 : Int32) (a2 : Int32) (a3 : Int32) (h : vp_in a1 200 ∧ vp_in a3 14 ∧ Q none (wr (wr σ ((a1.toNatClampNeg) + 142) 5 ((rd σ ((a1.toNatClampNeg) + 142) 5) - a2)) ((a1.toNatClampNeg) + 142) (a3.toNatClampNeg) ((rd (wr σ ((a1.toNatClampNeg) + 142) 5 ((rd σ ((a1.toNatClampNeg) + 142) 5) - a2)) ((a1.toNatClampNeg) + 142) (a3.toNatClampNeg)) + a2))) : J Γ l d mX0_take Q 0 [(0, .ref 17), (1, .int a1), (2, .int a2), (3, .int a3)] [] σ := by
  refine J_aload_n (i := 0) (kk := 0) dX0_take_0 rfl rfl ?_
  refine J_getR 18 (q := 17) (ci := 0) (kf := 0) kfX0_11 uxX0 rfl (by decide) rfl (by decide) rfl dX0_take_1 ?_
  refine J_iload_n (i := 1) (kk := 1) dX0_take_4 rfl rfl ?_
  have b1 := h.1
  replace h := h.2
  refine J_aald2 (a1.toNatClampNeg) rfl (by decide) rfl b1 dX0_take_5 ?_
  refine J_iconst (v := 5) dX0_take_6 (by decide) ?_
  refine J_dup2_11 dX0_take_7 rfl rfl ?_
  refine J_ald 5 (by decide) (nc_row142 (vp_lt b1)) (sk_row142 (vp_lt b1)) (by unfold vp_in; decide) dX0_take_8 ?_
  refine J_iload_n (i := 2) (kk := 2) dX0_take_9 rfl rfl ?_
  refine J_isub dX0_take_10 ?_
  refine J_ast 5 (by decide) (nc_row142 (vp_lt b1)) (sk_row142 (vp_lt b1)) (by unfold vp_in; decide) dX0_take_11 ?_
  refine J_aload_n (i := 0) (kk := 0) dX0_take_12 rfl rfl ?_
  refine J_getR 18 (q := 17) (ci := 0) (kf := 0) kfX0_11 uxX0 rfl (by decide) rfl (by decide) rfl dX0_take_13 ?_
  refine J_iload_n (i := 1) (kk := 1) dX0_take_16 rfl rfl ?_
  refine J_aald2 (a1.toNatClampNeg) rfl (by decide) rfl b1 dX0_take_17 ?_
  refine J_iload_n (i := 3) (kk := 3) dX0_take_18 rfl rfl ?_
  refine J_dup2_11 dX0_take_19 rfl rfl ?_
  have b2 := h.1
  replace h := h.2
  refine J_ald (a3.toNatClampNeg) rfl (nc_row142 (vp_lt b1)) (sk_row142 (vp_lt b1)) b2 dX0_take_20 ?_
  refine J_iload_n (i := 2) (kk := 2) dX0_take_21 rfl rfl ?_
  refine J_iadd dX0_take_22 ?_
  refine J_ast (a3.toNatClampNeg) rfl (nc_row142 (vp_lt b1)) (sk_row142 (vp_lt b1)) b2 dX0_take_23 ?_
  exact J_vret rfl dX0_take_24 h
theorem M_X0_take {Γ : GG} {l : Launch} {d : Nat} {Q : Option Value → St → Prop} {σ : St} (a1 : Int32) (a2 : Int32) (a3 : Int32) (k : J Γ l d mX0_take Q 0 [(0, .ref 17), (1, .int a1), (2, .int a2), (3, .int a3)] [] σ) : Meth Γ l d mX0_take [.ref 17, .int a1, .int a2, .int a3] σ Q := Meth_of_J (by decide +kernel) (fun _ => Nat.le_of_ble_eq_true rfl) (fun _ => rfl) k
set_option maxHeartbeats 4000000 in
set_option maxRecDepth 100000 in
theorem w_X0_onShelf_5 {Γ : GG} {l : Launch} {d : Nat} {Q : Option Value → St → Prop} {σ : St} (a1 : Int32) (a2 : Int32) (a3 : Int32) (a4 : Int32) (h : (rd σ 17 1 ≤ a4 → Q (some (.int a3)) σ) ∧ (¬ rd σ 17 1 ≤ a4 → vp_in a4 200 ∧ (rd σ ((a4.toNatClampNeg) + 142) 0 = a1 → (rd σ ((a4.toNatClampNeg) + 142) 1 = a2 → ∀ x4 : Int32, x4 = a3 + (rd σ ((a4.toNatClampNeg) + 142) 5) → ∀ x5 : Int32, x5 = a4 + 1 → J Γ l d mX0_onShelf Q 5 [(0, .ref 17), (1, .int a1), (2, .int a2), (3, .int x4), (4, .int x5)] [] σ) ∧ (¬ rd σ ((a4.toNatClampNeg) + 142) 1 = a2 → ∀ x3 : Int32, x3 = a4 + 1 → J Γ l d mX0_onShelf Q 5 [(0, .ref 17), (1, .int a1), (2, .int a2), (3, .int a3), (4, .int x3)] [] σ)) ∧ (¬ rd σ ((a4.toNatClampNeg) + 142) 0 = a1 → ∀ x2 : Int32, x2 = a4 + 1 → J Γ l d mX0_onShelf Q 5 [(0, .ref 17), (1, .int a1), (2, .int a2), (3, .int a3), (4, .int x2)] [] σ))) : J Γ l d mX0_onShelf Q 5 [(0, .ref 17), (1, .int a1), (2, .int a2), (3, .int a3), (4, .int a4)] [] σ := by
  refine J_iload (i := 4) (kk := 4) dX0_onShelf_5 rfl ?_
  refine J_aload_n (i := 0) (kk := 0) dX0_onShelf_7 rfl rfl ?_
  refine J_getI (q := 17) (ci := 0) (kf := 1) kfX0_16 uxX0 rfl (by decide) rfl (by decide) rfl dX0_onShelf_8 ?_
  refine J_icmp_ge 58 dX0_onShelf_11 (by decide) (fun hc => ?_) (fun hc => ?_)
  · replace h := h.1 hc
    refine J_iload_n (i := 3) (kk := 3) dX0_onShelf_58 rfl rfl ?_
    exact J_iret rfl dX0_onShelf_59 h
  · replace h := h.2 hc
    refine J_aload_n (i := 0) (kk := 0) dX0_onShelf_14 rfl rfl ?_
    refine J_getR 18 (q := 17) (ci := 0) (kf := 0) kfX0_11 uxX0 rfl (by decide) rfl (by decide) rfl dX0_onShelf_15 ?_
    refine J_iload (i := 4) (kk := 4) dX0_onShelf_18 rfl ?_
    have b1 := h.1
    replace h := h.2
    refine J_aald2 (a4.toNatClampNeg) rfl (by decide) rfl b1 dX0_onShelf_20 ?_
    refine J_iconst (v := 0) dX0_onShelf_21 (by decide) ?_
    refine J_ald 0 (by decide) (nc_row142 (vp_lt b1)) (sk_row142 (vp_lt b1)) (by unfold vp_in; decide) dX0_onShelf_22 ?_
    refine J_iload_n (i := 1) (kk := 1) dX0_onShelf_23 rfl rfl ?_
    refine J_icmp_ne 52 dX0_onShelf_24 (by decide) (fun hc => ?_) (fun hc => ?_)
    · replace h := h.2 hc
      obtain ⟨x2, ex2⟩ : ∃ y : Int32, y = a4 + 1 := ⟨_, rfl⟩
      replace h := h x2 ex2
      refine J_iinc (i := 4) (kk := 4) (v := x2) (lv' := [(4, .int x2), (0, .ref 17), (1, .int a1), (2, .int a2), (3, .int a3)]) dX0_onShelf_52 rfl (by rw [ex2]; rfl) (by decide) rfl ?_
      refine J_goto (tgt := 5) dX0_onShelf_55 (by decide) ?_
      refine J_sub [1, 2, 3, 4, 0] rfl ?_
      exact h
    · replace h := h.1 hc
      refine J_aload_n (i := 0) (kk := 0) dX0_onShelf_27 rfl rfl ?_
      refine J_getR 18 (q := 17) (ci := 0) (kf := 0) kfX0_11 uxX0 rfl (by decide) rfl (by decide) rfl dX0_onShelf_28 ?_
      refine J_iload (i := 4) (kk := 4) dX0_onShelf_31 rfl ?_
      refine J_aald2 (a4.toNatClampNeg) rfl (by decide) rfl b1 dX0_onShelf_33 ?_
      refine J_iconst (v := 1) dX0_onShelf_34 (by decide) ?_
      refine J_ald 1 (by decide) (nc_row142 (vp_lt b1)) (sk_row142 (vp_lt b1)) (by unfold vp_in; decide) dX0_onShelf_35 ?_
      refine J_iload_n (i := 2) (kk := 2) dX0_onShelf_36 rfl rfl ?_
      refine J_icmp_ne 52 dX0_onShelf_37 (by decide) (fun hc => ?_) (fun hc => ?_)
      · replace h := h.2 hc
        obtain ⟨x3, ex3⟩ : ∃ y : Int32, y = a4 + 1 := ⟨_, rfl⟩
        replace h := h x3 ex3
        refine J_iinc (i := 4) (kk := 4) (v := x3) (lv' := [(4, .int x3), (0, .ref 17), (1, .int a1), (2, .int a2), (3, .int a3)]) dX0_onShelf_52 rfl (by rw [ex3]; rfl) (by decide) rfl ?_
        refine J_goto (tgt := 5) dX0_onShelf_55 (by decide) ?_
        refine J_sub [1, 2, 3, 4, 0] rfl ?_
        exact h
      · replace h := h.1 hc
        refine J_iload_n (i := 3) (kk := 3) dX0_onShelf_40 rfl rfl ?_
        refine J_aload_n (i := 0) (kk := 0) dX0_onShelf_41 rfl rfl ?_
        refine J_getR 18 (q := 17) (ci := 0) (kf := 0) kfX0_11 uxX0 rfl (by decide) rfl (by decide) rfl dX0_onShelf_42 ?_
        refine J_iload (i := 4) (kk := 4) dX0_onShelf_45 rfl ?_
        refine J_aald2 (a4.toNatClampNeg) rfl (by decide) rfl b1 dX0_onShelf_47 ?_
        refine J_iconst (v := 5) dX0_onShelf_48 (by decide) ?_
        refine J_ald 5 (by decide) (nc_row142 (vp_lt b1)) (sk_row142 (vp_lt b1)) (by unfold vp_in; decide) dX0_onShelf_49 ?_
        refine J_iadd dX0_onShelf_50 ?_
        refine J_nameI (fun x4 ex4 => ?_)
        replace h := h x4 ex4
        refine J_istore_n (i := 3) (lv' := [(3, .int x4), (0, .ref 17), (1, .int a1), (2, .int a2), (4, .int a4)]) dX0_onShelf_51 rfl (by decide) rfl ?_
        obtain ⟨x5, ex5⟩ : ∃ y : Int32, y = a4 + 1 := ⟨_, rfl⟩
        replace h := h x5 ex5
        refine J_iinc (i := 4) (kk := 4) (v := x5) (lv' := [(4, .int x5), (3, .int x4), (0, .ref 17), (1, .int a1), (2, .int a2)]) dX0_onShelf_52 rfl (by rw [ex5]; rfl) (by decide) rfl ?_
        refine J_goto (tgt := 5) dX0_onShelf_55 (by decide) ?_
        refine J_sub [2, 3, 4, 1, 0] rfl ?_
        exact h
set_option maxHeartbeats 4000000 in
set_option maxRecDepth 100000 in
theorem w_X0_onShelf_0 {Γ : GG} {l : Launch} {d : Nat} {Q : Option Value → St → Prop} {σ : St} (a1 : Int32) (a2 : Int32) (h : J Γ l d mX0_onShelf Q 5 [(0, .ref 17), (1, .int a1), (2, .int a2), (3, .int (0)), (4, .int (0))] [] σ) : J Γ l d mX0_onShelf Q 0 [(0, .ref 17), (1, .int a1), (2, .int a2)] [] σ := by
  refine J_iconst (v := 0) dX0_onShelf_0 (by decide) ?_
  refine J_istore_n (i := 3) (lv' := [(3, .int (0)), (0, .ref 17), (1, .int a1), (2, .int a2)]) dX0_onShelf_1 rfl (by decide) rfl ?_
  refine J_iconst (v := 0) dX0_onShelf_2 (by decide) ?_
  refine J_istore (i := 4) (lv' := [(4, .int (0)), (3, .int (0)), (0, .ref 17), (1, .int a1), (2, .int a2)]) dX0_onShelf_3 (by decide) rfl ?_
  refine J_sub [2, 3, 4, 1, 0] rfl ?_
  exact h
theorem M_X0_onShelf {Γ : GG} {l : Launch} {d : Nat} {Q : Option Value → St → Prop} {σ : St} (a1 : Int32) (a2 : Int32) (k : J Γ l d mX0_onShelf Q 0 [(0, .ref 17), (1, .int a1), (2, .int a2)] [] σ) : Meth Γ l d mX0_onShelf [.ref 17, .int a1, .int a2] σ Q := Meth_of_J (by decide +kernel) (fun _ => Nat.le_of_ble_eq_true rfl) (fun _ => rfl) k
set_option maxHeartbeats 4000000 in
set_option maxRecDepth 100000 in
theorem w_X0_total_4 {Γ : GG} {l : Launch} {d : Nat} {Q : Option Value → St → Prop} {σ : St} (a1 : Int32) (a2 : Int32) (a3 : Int32) (h : (rd σ 17 1 ≤ a3 → Q (some (.int a2)) σ) ∧ (¬ rd σ 17 1 ≤ a3 → vp_in a3 200 ∧ vp_in a1 14 ∧ ∀ x3 : Int32, x3 = a2 + (rd σ ((a3.toNatClampNeg) + 142) (a1.toNatClampNeg)) → ∀ x4 : Int32, x4 = a3 + 1 → J Γ l d mX0_total Q 4 [(0, .ref 17), (1, .int a1), (2, .int x3), (3, .int x4)] [] σ)) : J Γ l d mX0_total Q 4 [(0, .ref 17), (1, .int a1), (2, .int a2), (3, .int a3)] [] σ := by
  refine J_iload_n (i := 3) (kk := 3) dX0_total_4 rfl rfl ?_
  refine J_aload_n (i := 0) (kk := 0) dX0_total_5 rfl rfl ?_
  refine J_getI (q := 17) (ci := 0) (kf := 1) kfX0_16 uxX0 rfl (by decide) rfl (by decide) rfl dX0_total_6 ?_
  refine J_icmp_ge 29 dX0_total_9 (by decide) (fun hc => ?_) (fun hc => ?_)
  · replace h := h.1 hc
    refine J_iload_n (i := 2) (kk := 2) dX0_total_29 rfl rfl ?_
    exact J_iret rfl dX0_total_30 h
  · replace h := h.2 hc
    refine J_iload_n (i := 2) (kk := 2) dX0_total_12 rfl rfl ?_
    refine J_aload_n (i := 0) (kk := 0) dX0_total_13 rfl rfl ?_
    refine J_getR 18 (q := 17) (ci := 0) (kf := 0) kfX0_11 uxX0 rfl (by decide) rfl (by decide) rfl dX0_total_14 ?_
    refine J_iload_n (i := 3) (kk := 3) dX0_total_17 rfl rfl ?_
    have b1 := h.1
    replace h := h.2
    refine J_aald2 (a3.toNatClampNeg) rfl (by decide) rfl b1 dX0_total_18 ?_
    refine J_iload_n (i := 1) (kk := 1) dX0_total_19 rfl rfl ?_
    have b2 := h.1
    replace h := h.2
    refine J_ald (a1.toNatClampNeg) rfl (nc_row142 (vp_lt b1)) (sk_row142 (vp_lt b1)) b2 dX0_total_20 ?_
    refine J_iadd dX0_total_21 ?_
    refine J_nameI (fun x3 ex3 => ?_)
    replace h := h x3 ex3
    refine J_istore_n (i := 2) (lv' := [(2, .int x3), (0, .ref 17), (1, .int a1), (3, .int a3)]) dX0_total_22 rfl (by decide) rfl ?_
    obtain ⟨x4, ex4⟩ : ∃ y : Int32, y = a3 + 1 := ⟨_, rfl⟩
    replace h := h x4 ex4
    refine J_iinc (i := 3) (kk := 3) (v := x4) (lv' := [(3, .int x4), (2, .int x3), (0, .ref 17), (1, .int a1)]) dX0_total_23 rfl (by rw [ex4]; rfl) (by decide) rfl ?_
    refine J_goto (tgt := 4) dX0_total_26 (by decide) ?_
    refine J_sub [2, 3, 1, 0] rfl ?_
    exact h
set_option maxHeartbeats 4000000 in
set_option maxRecDepth 100000 in
theorem w_X0_total_0 {Γ : GG} {l : Launch} {d : Nat} {Q : Option Value → St → Prop} {σ : St} (a1 : Int32) (h : J Γ l d mX0_total Q 4 [(0, .ref 17), (1, .int a1), (2, .int (0)), (3, .int (0))] [] σ) : J Γ l d mX0_total Q 0 [(0, .ref 17), (1, .int a1)] [] σ := by
  refine J_iconst (v := 0) dX0_total_0 (by decide) ?_
  refine J_istore_n (i := 2) (lv' := [(2, .int (0)), (0, .ref 17), (1, .int a1)]) dX0_total_1 rfl (by decide) rfl ?_
  refine J_iconst (v := 0) dX0_total_2 (by decide) ?_
  refine J_istore_n (i := 3) (lv' := [(3, .int (0)), (2, .int (0)), (0, .ref 17), (1, .int a1)]) dX0_total_3 rfl (by decide) rfl ?_
  refine J_sub [2, 3, 1, 0] rfl ?_
  exact h
theorem M_X0_total {Γ : GG} {l : Launch} {d : Nat} {Q : Option Value → St → Prop} {σ : St} (a1 : Int32) (k : J Γ l d mX0_total Q 0 [(0, .ref 17), (1, .int a1)] [] σ) : Meth Γ l d mX0_total [.ref 17, .int a1] σ Q := Meth_of_J (by decide +kernel) (fun _ => Nat.le_of_ble_eq_true rfl) (fun _ => rfl) k
set_option maxHeartbeats 4000000 in
set_option maxRecDepth 100000 in
theorem w_X0_addToLine_16 {Γ : GG} {l : Launch} {d : Nat} {Q : Option Value → St → Prop} {σ : St} (a1 : Int32) (a2 : Int32) (h : (a2 ≤ (0 : Int32) → vp_in a2 200 ∧ Q none (wr (wr σ 19 (a2.toNatClampNeg) a1) 17 3 ((rd σ 17 3) + (1 : Int32)))) ∧ (¬ a2 ≤ (0 : Int32) → vp_in (a2 - (1 : Int32)) 200 ∧ vp_in (rd σ 19 ((a2 - (1 : Int32)).toNatClampNeg)) 200 ∧ vp_in a1 200 ∧ (rd σ (((rd σ 19 ((a2 - (1 : Int32)).toNatClampNeg)).toNatClampNeg) + 142) 3 ≤ rd σ ((a1.toNatClampNeg) + 142) 3 → vp_in a2 200 ∧ Q none (wr (wr σ 19 (a2.toNatClampNeg) a1) 17 3 ((rd σ 17 3) + (1 : Int32)))) ∧ (¬ rd σ (((rd σ 19 ((a2 - (1 : Int32)).toNatClampNeg)).toNatClampNeg) + 142) 3 ≤ rd σ ((a1.toNatClampNeg) + 142) 3 → vp_in a2 200 ∧ ∀ x7 : Int32, x7 = a2 + (-1) → J Γ l d mX0_addToLine Q 16 [(0, .ref 17), (1, .int a1), (2, .int x7)] [] (wr σ 19 (a2.toNatClampNeg) (rd σ 19 ((a2 - (1 : Int32)).toNatClampNeg)))))) : J Γ l d mX0_addToLine Q 16 [(0, .ref 17), (1, .int a1), (2, .int a2)] [] σ := by
  refine J_iload_n (i := 2) (kk := 2) dX0_addToLine_16 rfl rfl ?_
  refine J_if_le 66 dX0_addToLine_17 (by decide) (fun hc => ?_) (fun hc => ?_)
  · replace h := h.1 hc
    refine J_aload_n (i := 0) (kk := 0) dX0_addToLine_66 rfl rfl ?_
    refine J_getR 19 (q := 17) (ci := 0) (kf := 2) kfX0_20 uxX0 rfl (by decide) rfl (by decide) rfl dX0_addToLine_67 ?_
    refine J_iload_n (i := 2) (kk := 2) dX0_addToLine_70 rfl rfl ?_
    refine J_iload_n (i := 1) (kk := 1) dX0_addToLine_71 rfl rfl ?_
    have b1 := h.1
    replace h := h.2
    refine J_ast (a2.toNatClampNeg) rfl (by decide) rfl b1 dX0_addToLine_72 ?_
    refine J_aload_n (i := 0) (kk := 0) dX0_addToLine_73 rfl rfl ?_
    refine J_dup dX0_addToLine_74 rfl ?_
    refine J_getI (q := 17) (ci := 0) (kf := 3) kfX0_24 uxX0 rfl (by decide) rfl (by decide) rfl dX0_addToLine_75 ?_
    refine J_eqI (y := rd σ 17 3) rfl ?_
    refine J_iconst (v := 1) dX0_addToLine_78 (by decide) ?_
    refine J_iadd dX0_addToLine_79 ?_
    refine J_putf (q := 17) (ci := 0) (kf := 3) (ty := .int) kfX0_24 uxX0 tyX0_ok nmX0 rfl (by decide) rfl (by decide) rfl rfl rfl rfl rfl dX0_addToLine_80 ?_
    exact J_vret rfl dX0_addToLine_83 h
  · replace h := h.2 hc
    refine J_aload_n (i := 0) (kk := 0) dX0_addToLine_20 rfl rfl ?_
    refine J_getR 18 (q := 17) (ci := 0) (kf := 0) kfX0_11 uxX0 rfl (by decide) rfl (by decide) rfl dX0_addToLine_21 ?_
    refine J_aload_n (i := 0) (kk := 0) dX0_addToLine_24 rfl rfl ?_
    refine J_getR 19 (q := 17) (ci := 0) (kf := 2) kfX0_20 uxX0 rfl (by decide) rfl (by decide) rfl dX0_addToLine_25 ?_
    refine J_iload_n (i := 2) (kk := 2) dX0_addToLine_28 rfl rfl ?_
    refine J_iconst (v := 1) dX0_addToLine_29 (by decide) ?_
    refine J_isub dX0_addToLine_30 ?_
    have b2 := h.1
    replace h := h.2
    refine J_ald ((a2 - (1 : Int32)).toNatClampNeg) rfl (by decide) rfl b2 dX0_addToLine_31 ?_
    have b3 := h.1
    replace h := h.2
    refine J_aald2 ((rd σ 19 ((a2 - (1 : Int32)).toNatClampNeg)).toNatClampNeg) rfl (by decide) rfl b3 dX0_addToLine_32 ?_
    refine J_iconst (v := 3) dX0_addToLine_33 (by decide) ?_
    refine J_ald 3 (by decide) (nc_row142 (vp_lt b3)) (sk_row142 (vp_lt b3)) (by unfold vp_in; decide) dX0_addToLine_34 ?_
    refine J_aload_n (i := 0) (kk := 0) dX0_addToLine_35 rfl rfl ?_
    refine J_getR 18 (q := 17) (ci := 0) (kf := 0) kfX0_11 uxX0 rfl (by decide) rfl (by decide) rfl dX0_addToLine_36 ?_
    refine J_iload_n (i := 1) (kk := 1) dX0_addToLine_39 rfl rfl ?_
    have b4 := h.1
    replace h := h.2
    refine J_aald2 (a1.toNatClampNeg) rfl (by decide) rfl b4 dX0_addToLine_40 ?_
    refine J_iconst (v := 3) dX0_addToLine_41 (by decide) ?_
    refine J_ald 3 (by decide) (nc_row142 (vp_lt b4)) (sk_row142 (vp_lt b4)) (by unfold vp_in; decide) dX0_addToLine_42 ?_
    refine J_icmp_le 66 dX0_addToLine_43 (by decide) (fun hc => ?_) (fun hc => ?_)
    · replace h := h.1 hc
      refine J_aload_n (i := 0) (kk := 0) dX0_addToLine_66 rfl rfl ?_
      refine J_getR 19 (q := 17) (ci := 0) (kf := 2) kfX0_20 uxX0 rfl (by decide) rfl (by decide) rfl dX0_addToLine_67 ?_
      refine J_iload_n (i := 2) (kk := 2) dX0_addToLine_70 rfl rfl ?_
      refine J_iload_n (i := 1) (kk := 1) dX0_addToLine_71 rfl rfl ?_
      have b5 := h.1
      replace h := h.2
      refine J_ast (a2.toNatClampNeg) rfl (by decide) rfl b5 dX0_addToLine_72 ?_
      refine J_aload_n (i := 0) (kk := 0) dX0_addToLine_73 rfl rfl ?_
      refine J_dup dX0_addToLine_74 rfl ?_
      refine J_getI (q := 17) (ci := 0) (kf := 3) kfX0_24 uxX0 rfl (by decide) rfl (by decide) rfl dX0_addToLine_75 ?_
      refine J_eqI (y := rd σ 17 3) rfl ?_
      refine J_iconst (v := 1) dX0_addToLine_78 (by decide) ?_
      refine J_iadd dX0_addToLine_79 ?_
      refine J_putf (q := 17) (ci := 0) (kf := 3) (ty := .int) kfX0_24 uxX0 tyX0_ok nmX0 rfl (by decide) rfl (by decide) rfl rfl rfl rfl rfl dX0_addToLine_80 ?_
      exact J_vret rfl dX0_addToLine_83 h
    · replace h := h.2 hc
      refine J_aload_n (i := 0) (kk := 0) dX0_addToLine_46 rfl rfl ?_
      refine J_getR 19 (q := 17) (ci := 0) (kf := 2) kfX0_20 uxX0 rfl (by decide) rfl (by decide) rfl dX0_addToLine_47 ?_
      refine J_iload_n (i := 2) (kk := 2) dX0_addToLine_50 rfl rfl ?_
      refine J_aload_n (i := 0) (kk := 0) dX0_addToLine_51 rfl rfl ?_
      refine J_getR 19 (q := 17) (ci := 0) (kf := 2) kfX0_20 uxX0 rfl (by decide) rfl (by decide) rfl dX0_addToLine_52 ?_
      refine J_iload_n (i := 2) (kk := 2) dX0_addToLine_55 rfl rfl ?_
      refine J_iconst (v := 1) dX0_addToLine_56 (by decide) ?_
      refine J_isub dX0_addToLine_57 ?_
      refine J_ald ((a2 - (1 : Int32)).toNatClampNeg) rfl (by decide) rfl b2 dX0_addToLine_58 ?_
      have b6 := h.1
      replace h := h.2
      refine J_ast (a2.toNatClampNeg) rfl (by decide) rfl b6 dX0_addToLine_59 ?_
      obtain ⟨x7, ex7⟩ : ∃ y : Int32, y = a2 + (-1) := ⟨_, rfl⟩
      replace h := h x7 ex7
      refine J_iinc (i := 2) (kk := 2) (v := x7) (lv' := [(2, .int x7), (0, .ref 17), (1, .int a1)]) dX0_addToLine_60 rfl (by rw [ex7]; rfl) (by decide) rfl ?_
      refine J_goto (tgt := 16) dX0_addToLine_63 (by decide) ?_
      refine J_sub [1, 2, 0] rfl ?_
      exact h
set_option maxHeartbeats 4000000 in
set_option maxRecDepth 100000 in
theorem w_X0_addToLine_0 {Γ : GG} {l : Launch} {d : Nat} {Q : Option Value → St → Prop} {σ : St} (a1 : Int32) (h : (rd σ 17 3 < (200 : Int32) → J Γ l d mX0_addToLine Q 16 [(0, .ref 17), (1, .int a1), (2, .int (rd σ 17 3))] [] σ) ∧ (¬ rd σ 17 3 < (200 : Int32) → Q none σ)) : J Γ l d mX0_addToLine Q 0 [(0, .ref 17), (1, .int a1)] [] σ := by
  refine J_aload_n (i := 0) (kk := 0) dX0_addToLine_0 rfl rfl ?_
  refine J_getI (q := 17) (ci := 0) (kf := 3) kfX0_24 uxX0 rfl (by decide) rfl (by decide) rfl dX0_addToLine_1 ?_
  refine J_sipush (v := 200) dX0_addToLine_4 (by decide) ?_
  refine J_icmp_lt 11 dX0_addToLine_7 (by decide) (fun hc => ?_) (fun hc => ?_)
  · replace h := h.1 hc
    refine J_aload_n (i := 0) (kk := 0) dX0_addToLine_11 rfl rfl ?_
    refine J_getI (q := 17) (ci := 0) (kf := 3) kfX0_24 uxX0 rfl (by decide) rfl (by decide) rfl dX0_addToLine_12 ?_
    refine J_istore_n (i := 2) (lv' := [(2, .int (rd σ 17 3)), (0, .ref 17), (1, .int a1)]) dX0_addToLine_15 rfl (by decide) rfl ?_
    refine J_sub [1, 2, 0] rfl ?_
    exact h
  · replace h := h.2 hc
    exact J_vret rfl dX0_addToLine_10 h
theorem M_X0_addToLine {Γ : GG} {l : Launch} {d : Nat} {Q : Option Value → St → Prop} {σ : St} (a1 : Int32) (k : J Γ l d mX0_addToLine Q 0 [(0, .ref 17), (1, .int a1)] [] σ) : Meth Γ l d mX0_addToLine [.ref 17, .int a1] σ Q := Meth_of_J (by decide +kernel) (fun _ => Nat.le_of_ble_eq_true rfl) (fun _ => rfl) k
set_option maxHeartbeats 4000000 in
set_option maxRecDepth 100000 in
theorem w_X0_takeFromLine_5 {Γ : GG} {l : Launch} {d : Nat} {Q : Option Value → St → Prop} {σ : St} (a1 : Int32) (a2 : Int32) (a3 : Int32) (a4 : Int32) (h : (rd σ 17 3 ≤ a4 → Q (some (.int a3)) σ) ∧ (¬ rd σ 17 3 ≤ a4 → (a1 ≤ a3 → Q (some (.int a3)) σ) ∧ (¬ a1 ≤ a3 → vp_in a4 200 ∧ vp_in (rd σ 19 (a4.toNatClampNeg)) 200 ∧ ∀ x3 : Int32, x3 = mnI (a1 - a3) (rd σ (((rd σ 19 (a4.toNatClampNeg)).toNatClampNeg) + 142) 5) → Meth Γ l d mX0_take [.ref 17, .int (rd σ 19 (a4.toNatClampNeg)), .int x3, .int a2] σ (KV (fun σ4 => ∀ x5 : Int32, x5 = a4 + 1 → J Γ l (d + 1) mX0_takeFromLine Q 5 [(0, .ref 17), (1, .int a1), (2, .int a2), (3, .int (a3 + x3)), (4, .int x5)] [] σ4))))) : J Γ l (d + 1) mX0_takeFromLine Q 5 [(0, .ref 17), (1, .int a1), (2, .int a2), (3, .int a3), (4, .int a4)] [] σ := by
  refine J_iload (i := 4) (kk := 4) dX0_takeFromLine_5 rfl ?_
  refine J_aload_n (i := 0) (kk := 0) dX0_takeFromLine_7 rfl rfl ?_
  refine J_getI (q := 17) (ci := 0) (kf := 3) kfX0_24 uxX0 rfl (by decide) rfl (by decide) rfl dX0_takeFromLine_8 ?_
  refine J_icmp_ge 66 dX0_takeFromLine_11 (by decide) (fun hc => ?_) (fun hc => ?_)
  · replace h := h.1 hc
    refine J_iload_n (i := 3) (kk := 3) dX0_takeFromLine_66 rfl rfl ?_
    exact J_iret rfl dX0_takeFromLine_67 h
  · replace h := h.2 hc
    refine J_iload_n (i := 3) (kk := 3) dX0_takeFromLine_14 rfl rfl ?_
    refine J_iload_n (i := 1) (kk := 1) dX0_takeFromLine_15 rfl rfl ?_
    refine J_icmp_ge 66 dX0_takeFromLine_16 (by decide) (fun hc => ?_) (fun hc => ?_)
    · replace h := h.1 hc
      refine J_iload_n (i := 3) (kk := 3) dX0_takeFromLine_66 rfl rfl ?_
      exact J_iret rfl dX0_takeFromLine_67 h
    · replace h := h.2 hc
      refine J_iload_n (i := 1) (kk := 1) dX0_takeFromLine_19 rfl rfl ?_
      refine J_iload_n (i := 3) (kk := 3) dX0_takeFromLine_20 rfl rfl ?_
      refine J_isub dX0_takeFromLine_21 ?_
      refine J_aload_n (i := 0) (kk := 0) dX0_takeFromLine_22 rfl rfl ?_
      refine J_getR 18 (q := 17) (ci := 0) (kf := 0) kfX0_11 uxX0 rfl (by decide) rfl (by decide) rfl dX0_takeFromLine_23 ?_
      refine J_aload_n (i := 0) (kk := 0) dX0_takeFromLine_26 rfl rfl ?_
      refine J_getR 19 (q := 17) (ci := 0) (kf := 2) kfX0_20 uxX0 rfl (by decide) rfl (by decide) rfl dX0_takeFromLine_27 ?_
      refine J_iload (i := 4) (kk := 4) dX0_takeFromLine_30 rfl ?_
      have b1 := h.1
      replace h := h.2
      refine J_ald (a4.toNatClampNeg) rfl (by decide) rfl b1 dX0_takeFromLine_32 ?_
      have b2 := h.1
      replace h := h.2
      refine J_aald2 ((rd σ 19 (a4.toNatClampNeg)).toNatClampNeg) rfl (by decide) rfl b2 dX0_takeFromLine_33 ?_
      refine J_iconst (v := 5) dX0_takeFromLine_34 (by decide) ?_
      refine J_ald 5 (by decide) (nc_row142 (vp_lt b2)) (sk_row142 (vp_lt b2)) (by unfold vp_in; decide) dX0_takeFromLine_35 ?_
      refine J_mmin klX0_43 (Nat.le_of_ble_eq_true rfl) dX0_takeFromLine_36 ?_
      refine J_nameI (fun x3 ex3 => ?_)
      replace h := h x3 ex3
      refine J_istore (i := 5) (lv' := [(5, .int x3), (0, .ref 17), (1, .int a1), (2, .int a2), (3, .int a3), (4, .int a4)]) dX0_takeFromLine_39 (by decide) rfl ?_
      refine J_aload_n (i := 0) (kk := 1) dX0_takeFromLine_41 rfl rfl ?_
      refine J_aload_n (i := 0) (kk := 1) dX0_takeFromLine_42 rfl rfl ?_
      refine J_getR 19 (q := 17) (ci := 0) (kf := 2) kfX0_20 uxX0 rfl (by decide) rfl (by decide) rfl dX0_takeFromLine_43 ?_
      refine J_iload (i := 4) (kk := 5) dX0_takeFromLine_46 rfl ?_
      refine J_ald (a4.toNatClampNeg) rfl (by decide) rfl b1 dX0_takeFromLine_48 ?_
      refine J_iload (i := 5) (kk := 0) dX0_takeFromLine_49 rfl ?_
      refine J_iload_n (i := 2) (kk := 3) dX0_takeFromLine_51 rfl rfl ?_
      refine J_callV [.int (rd σ 19 (a4.toNatClampNeg)), .int x3, .int a2] [] calX0_take klX0_49 (b := 17) (ci := 0) (by decide) rfl rfl rfl rfl (Nat.le_of_ble_eq_true rfl) dX0_takeFromLine_52 (KV.to h ?_)
      clear h
      intro σ4 h
      refine J_iload_n (i := 3) (kk := 4) dX0_takeFromLine_55 rfl rfl ?_
      refine J_iload (i := 5) (kk := 0) dX0_takeFromLine_56 rfl ?_
      refine J_iadd dX0_takeFromLine_58 ?_
      refine J_istore_n (i := 3) (lv' := [(3, .int (a3 + x3)), (5, .int x3), (0, .ref 17), (1, .int a1), (2, .int a2), (4, .int a4)]) dX0_takeFromLine_59 rfl (by decide) rfl ?_
      obtain ⟨x5, ex5⟩ : ∃ y : Int32, y = a4 + 1 := ⟨_, rfl⟩
      replace h := h x5 ex5
      refine J_iinc (i := 4) (kk := 5) (v := x5) (lv' := [(4, .int x5), (3, .int (a3 + x3)), (5, .int x3), (0, .ref 17), (1, .int a1), (2, .int a2)]) dX0_takeFromLine_60 rfl (by rw [ex5]; rfl) (by decide) rfl ?_
      refine J_goto (tgt := 5) dX0_takeFromLine_63 (by decide) ?_
      refine J_sub [3, 4, 5, 1, 0] rfl ?_
      exact h
set_option maxHeartbeats 4000000 in
set_option maxRecDepth 100000 in
theorem w_X0_takeFromLine_0 {Γ : GG} {l : Launch} {d : Nat} {Q : Option Value → St → Prop} {σ : St} (a1 : Int32) (a2 : Int32) (h : J Γ l (d + 1) mX0_takeFromLine Q 5 [(0, .ref 17), (1, .int a1), (2, .int a2), (3, .int (0)), (4, .int (0))] [] σ) : J Γ l (d + 1) mX0_takeFromLine Q 0 [(0, .ref 17), (1, .int a1), (2, .int a2)] [] σ := by
  refine J_iconst (v := 0) dX0_takeFromLine_0 (by decide) ?_
  refine J_istore_n (i := 3) (lv' := [(3, .int (0)), (0, .ref 17), (1, .int a1), (2, .int a2)]) dX0_takeFromLine_1 rfl (by decide) rfl ?_
  refine J_iconst (v := 0) dX0_takeFromLine_2 (by decide) ?_
  refine J_istore (i := 4) (lv' := [(4, .int (0)), (3, .int (0)), (0, .ref 17), (1, .int a1), (2, .int a2)]) dX0_takeFromLine_3 (by decide) rfl ?_
  refine J_sub [2, 3, 4, 1, 0] rfl ?_
  exact h
theorem M_X0_takeFromLine {Γ : GG} {l : Launch} {d : Nat} {Q : Option Value → St → Prop} {σ : St} (a1 : Int32) (a2 : Int32) (k : J Γ l (d + 1) mX0_takeFromLine Q 0 [(0, .ref 17), (1, .int a1), (2, .int a2)] [] σ) : Meth Γ l (d + 1) mX0_takeFromLine [.ref 17, .int a1, .int a2] σ Q := Meth_of_J (by decide +kernel) (fun _ => Nat.le_of_ble_eq_true rfl) (fun _ => rfl) k
set_option maxHeartbeats 4000000 in
set_option maxRecDepth 100000 in
theorem w_X0_touchedBy_4 {Γ : GG} {l : Launch} {d : Nat} {Q : Option Value → St → Prop} {σ : St} (a1 : Int32) (a2 : Int32) (a3 : Int32) (h : (rd σ 17 3 ≤ a2 → Q (some (.int a2)) σ) ∧ (¬ rd σ 17 3 ≤ a2 → (a1 ≤ a3 → Q (some (.int a2)) σ) ∧ (¬ a1 ≤ a3 → vp_in a2 200 ∧ vp_in (rd σ 19 (a2.toNatClampNeg)) 200 ∧ ∀ x3 : Int32, x3 = a3 + (rd σ (((rd σ 19 (a2.toNatClampNeg)).toNatClampNeg) + 142) 5) → ∀ x4 : Int32, x4 = a2 + 1 → J Γ l d mX0_touchedBy Q 4 [(0, .ref 17), (1, .int a1), (2, .int x4), (3, .int x3)] [] σ))) : J Γ l d mX0_touchedBy Q 4 [(0, .ref 17), (1, .int a1), (2, .int a2), (3, .int a3)] [] σ := by
  refine J_iload_n (i := 2) (kk := 2) dX0_touchedBy_4 rfl rfl ?_
  refine J_aload_n (i := 0) (kk := 0) dX0_touchedBy_5 rfl rfl ?_
  refine J_getI (q := 17) (ci := 0) (kf := 3) kfX0_24 uxX0 rfl (by decide) rfl (by decide) rfl dX0_touchedBy_6 ?_
  refine J_icmp_ge 39 dX0_touchedBy_9 (by decide) (fun hc => ?_) (fun hc => ?_)
  · replace h := h.1 hc
    refine J_iload_n (i := 2) (kk := 2) dX0_touchedBy_39 rfl rfl ?_
    exact J_iret rfl dX0_touchedBy_40 h
  · replace h := h.2 hc
    refine J_iload_n (i := 3) (kk := 3) dX0_touchedBy_12 rfl rfl ?_
    refine J_iload_n (i := 1) (kk := 1) dX0_touchedBy_13 rfl rfl ?_
    refine J_icmp_ge 39 dX0_touchedBy_14 (by decide) (fun hc => ?_) (fun hc => ?_)
    · replace h := h.1 hc
      refine J_iload_n (i := 2) (kk := 2) dX0_touchedBy_39 rfl rfl ?_
      exact J_iret rfl dX0_touchedBy_40 h
    · replace h := h.2 hc
      refine J_iload_n (i := 3) (kk := 3) dX0_touchedBy_17 rfl rfl ?_
      refine J_aload_n (i := 0) (kk := 0) dX0_touchedBy_18 rfl rfl ?_
      refine J_getR 18 (q := 17) (ci := 0) (kf := 0) kfX0_11 uxX0 rfl (by decide) rfl (by decide) rfl dX0_touchedBy_19 ?_
      refine J_aload_n (i := 0) (kk := 0) dX0_touchedBy_22 rfl rfl ?_
      refine J_getR 19 (q := 17) (ci := 0) (kf := 2) kfX0_20 uxX0 rfl (by decide) rfl (by decide) rfl dX0_touchedBy_23 ?_
      refine J_iload_n (i := 2) (kk := 2) dX0_touchedBy_26 rfl rfl ?_
      have b1 := h.1
      replace h := h.2
      refine J_ald (a2.toNatClampNeg) rfl (by decide) rfl b1 dX0_touchedBy_27 ?_
      have b2 := h.1
      replace h := h.2
      refine J_aald2 ((rd σ 19 (a2.toNatClampNeg)).toNatClampNeg) rfl (by decide) rfl b2 dX0_touchedBy_28 ?_
      refine J_iconst (v := 5) dX0_touchedBy_29 (by decide) ?_
      refine J_ald 5 (by decide) (nc_row142 (vp_lt b2)) (sk_row142 (vp_lt b2)) (by unfold vp_in; decide) dX0_touchedBy_30 ?_
      refine J_iadd dX0_touchedBy_31 ?_
      refine J_nameI (fun x3 ex3 => ?_)
      replace h := h x3 ex3
      refine J_istore_n (i := 3) (lv' := [(3, .int x3), (0, .ref 17), (1, .int a1), (2, .int a2)]) dX0_touchedBy_32 rfl (by decide) rfl ?_
      obtain ⟨x4, ex4⟩ : ∃ y : Int32, y = a2 + 1 := ⟨_, rfl⟩
      replace h := h x4 ex4
      refine J_iinc (i := 2) (kk := 3) (v := x4) (lv' := [(2, .int x4), (3, .int x3), (0, .ref 17), (1, .int a1)]) dX0_touchedBy_33 rfl (by rw [ex4]; rfl) (by decide) rfl ?_
      refine J_goto (tgt := 4) dX0_touchedBy_36 (by decide) ?_
      refine J_sub [2, 3, 0, 1] rfl ?_
      exact h
set_option maxHeartbeats 4000000 in
set_option maxRecDepth 100000 in
theorem w_X0_touchedBy_0 {Γ : GG} {l : Launch} {d : Nat} {Q : Option Value → St → Prop} {σ : St} (a1 : Int32) (h : J Γ l d mX0_touchedBy Q 4 [(0, .ref 17), (1, .int a1), (2, .int (0)), (3, .int (0))] [] σ) : J Γ l d mX0_touchedBy Q 0 [(0, .ref 17), (1, .int a1)] [] σ := by
  refine J_iconst (v := 0) dX0_touchedBy_0 (by decide) ?_
  refine J_istore_n (i := 2) (lv' := [(2, .int (0)), (0, .ref 17), (1, .int a1)]) dX0_touchedBy_1 rfl (by decide) rfl ?_
  refine J_iconst (v := 0) dX0_touchedBy_2 (by decide) ?_
  refine J_istore_n (i := 3) (lv' := [(3, .int (0)), (2, .int (0)), (0, .ref 17), (1, .int a1)]) dX0_touchedBy_3 rfl (by decide) rfl ?_
  refine J_sub [2, 3, 1, 0] rfl ?_
  exact h
theorem M_X0_touchedBy {Γ : GG} {l : Launch} {d : Nat} {Q : Option Value → St → Prop} {σ : St} (a1 : Int32) (k : J Γ l d mX0_touchedBy Q 0 [(0, .ref 17), (1, .int a1)] [] σ) : Meth Γ l d mX0_touchedBy [.ref 17, .int a1] σ Q := Meth_of_J (by decide +kernel) (fun _ => Nat.le_of_ble_eq_true rfl) (fun _ => rfl) k
set_option maxHeartbeats 4000000 in
set_option maxRecDepth 100000 in
theorem w_X0_moveFromLine_5 {Γ : GG} {l : Launch} {d : Nat} {Q : Option Value → St → Prop} {σ : St} (a1 : Int32) (a2 : Int32) (a3 : Int32) (a4 : Int32) (h : (rd σ 17 3 ≤ a4 → Q (some (.int a3)) σ) ∧ (¬ rd σ 17 3 ≤ a4 → (a1 ≤ a3 → Q (some (.int a3)) σ) ∧ (¬ a1 ≤ a3 → vp_in a4 200 ∧ vp_in (rd σ 19 (a4.toNatClampNeg)) 200 ∧ ∀ x3 : Int32, x3 = mnI (a1 - a3) (rd σ (((rd σ 19 (a4.toNatClampNeg)).toNatClampNeg) + 142) 5) → Meth Γ l d mX0_add [.ref 17, .int a2, .int (((rd σ (((rd σ 19 (a4.toNatClampNeg)).toNatClampNeg) + 142) 1) * (100 : Int32)) + (rd σ (((rd σ 19 (a4.toNatClampNeg)).toNatClampNeg) + 142) 2)), .int (rd σ (((rd σ 19 (a4.toNatClampNeg)).toNatClampNeg) + 142) 3), .int x3] σ (KI (fun x5 σ4 => ((0 : Int32) ≤ x5 → vp_in x5 200 ∧ Meth Γ l d mX0_take [.ref 17, .int (rd (wr (wr σ4 ((x5.toNatClampNeg) + 142) 11 (rd σ4 19 (a4.toNatClampNeg))) ((x5.toNatClampNeg) + 142) 12 (rd (wr σ4 ((x5.toNatClampNeg) + 142) 11 (rd σ4 19 (a4.toNatClampNeg))) (((rd σ 19 (a4.toNatClampNeg)).toNatClampNeg) + 142) 12)) 19 (a4.toNatClampNeg)), .int x3, .int (7)] (wr (wr σ4 ((x5.toNatClampNeg) + 142) 11 (rd σ4 19 (a4.toNatClampNeg))) ((x5.toNatClampNeg) + 142) 12 (rd (wr σ4 ((x5.toNatClampNeg) + 142) 11 (rd σ4 19 (a4.toNatClampNeg))) (((rd σ 19 (a4.toNatClampNeg)).toNatClampNeg) + 142) 12)) (KV (fun σ7 => ∀ x8 : Int32, x8 = a4 + 1 → J Γ l (d + 1) mX0_moveFromLine Q 5 [(0, .ref 17), (1, .int a1), (2, .int a2), (3, .int (a3 + x3)), (4, .int x8)] [] σ7))) ∧ (¬ (0 : Int32) ≤ x5 → Q (some (.int a3)) σ4)))))) : J Γ l (d + 1) mX0_moveFromLine Q 5 [(0, .ref 17), (1, .int a1), (2, .int a2), (3, .int a3), (4, .int a4)] [] σ := by
  refine J_iload (i := 4) (kk := 4) dX0_moveFromLine_5 rfl ?_
  refine J_aload_n (i := 0) (kk := 0) dX0_moveFromLine_7 rfl rfl ?_
  refine J_getI (q := 17) (ci := 0) (kf := 3) kfX0_24 uxX0 rfl (by decide) rfl (by decide) rfl dX0_moveFromLine_8 ?_
  refine J_icmp_ge 135 dX0_moveFromLine_11 (by decide) (fun hc => ?_) (fun hc => ?_)
  · replace h := h.1 hc
    refine J_iload_n (i := 3) (kk := 3) dX0_moveFromLine_135 rfl rfl ?_
    exact J_iret rfl dX0_moveFromLine_136 h
  · replace h := h.2 hc
    refine J_iload_n (i := 3) (kk := 3) dX0_moveFromLine_14 rfl rfl ?_
    refine J_iload_n (i := 1) (kk := 1) dX0_moveFromLine_15 rfl rfl ?_
    refine J_icmp_ge 135 dX0_moveFromLine_16 (by decide) (fun hc => ?_) (fun hc => ?_)
    · replace h := h.1 hc
      refine J_iload_n (i := 3) (kk := 3) dX0_moveFromLine_135 rfl rfl ?_
      exact J_iret rfl dX0_moveFromLine_136 h
    · replace h := h.2 hc
      refine J_aload_n (i := 0) (kk := 0) dX0_moveFromLine_19 rfl rfl ?_
      refine J_getR 18 (q := 17) (ci := 0) (kf := 0) kfX0_11 uxX0 rfl (by decide) rfl (by decide) rfl dX0_moveFromLine_20 ?_
      refine J_aload_n (i := 0) (kk := 0) dX0_moveFromLine_23 rfl rfl ?_
      refine J_getR 19 (q := 17) (ci := 0) (kf := 2) kfX0_20 uxX0 rfl (by decide) rfl (by decide) rfl dX0_moveFromLine_24 ?_
      refine J_iload (i := 4) (kk := 4) dX0_moveFromLine_27 rfl ?_
      have b1 := h.1
      replace h := h.2
      refine J_ald (a4.toNatClampNeg) rfl (by decide) rfl b1 dX0_moveFromLine_29 ?_
      have b2 := h.1
      replace h := h.2
      refine J_aald2 ((rd σ 19 (a4.toNatClampNeg)).toNatClampNeg) rfl (by decide) rfl b2 dX0_moveFromLine_30 ?_
      refine J_astore (i := 5) (lv' := [(5, .ref (((rd σ 19 (a4.toNatClampNeg)).toNatClampNeg) + 142)), (0, .ref 17), (1, .int a1), (2, .int a2), (3, .int a3), (4, .int a4)]) dX0_moveFromLine_31 (by decide) rfl ?_
      refine J_iload_n (i := 1) (kk := 2) dX0_moveFromLine_33 rfl rfl ?_
      refine J_iload_n (i := 3) (kk := 4) dX0_moveFromLine_34 rfl rfl ?_
      refine J_isub dX0_moveFromLine_35 ?_
      refine J_aload (i := 5) (kk := 0) dX0_moveFromLine_36 rfl ?_
      refine J_iconst (v := 5) dX0_moveFromLine_38 (by decide) ?_
      refine J_ald 5 (by decide) (nc_row142 (vp_lt b2)) (sk_row142 (vp_lt b2)) (by unfold vp_in; decide) dX0_moveFromLine_39 ?_
      refine J_mmin klX0_43 (Nat.le_of_ble_eq_true rfl) dX0_moveFromLine_40 ?_
      refine J_nameI (fun x3 ex3 => ?_)
      replace h := h x3 ex3
      refine J_istore (i := 6) (lv' := [(6, .int x3), (5, .ref (((rd σ 19 (a4.toNatClampNeg)).toNatClampNeg) + 142)), (0, .ref 17), (1, .int a1), (2, .int a2), (3, .int a3), (4, .int a4)]) dX0_moveFromLine_43 (by decide) rfl ?_
      refine J_aload_n (i := 0) (kk := 2) dX0_moveFromLine_45 rfl rfl ?_
      refine J_iload_n (i := 2) (kk := 4) dX0_moveFromLine_46 rfl rfl ?_
      refine J_aload (i := 5) (kk := 1) dX0_moveFromLine_47 rfl ?_
      refine J_iconst (v := 1) dX0_moveFromLine_49 (by decide) ?_
      refine J_ald 1 (by decide) (nc_row142 (vp_lt b2)) (sk_row142 (vp_lt b2)) (by unfold vp_in; decide) dX0_moveFromLine_50 ?_
      refine J_bipush (v := 100) dX0_moveFromLine_51 (by decide) ?_
      refine J_imul dX0_moveFromLine_53 ?_
      refine J_aload (i := 5) (kk := 1) dX0_moveFromLine_54 rfl ?_
      refine J_iconst (v := 2) dX0_moveFromLine_56 (by decide) ?_
      refine J_ald 2 (by decide) (nc_row142 (vp_lt b2)) (sk_row142 (vp_lt b2)) (by unfold vp_in; decide) dX0_moveFromLine_57 ?_
      refine J_iadd dX0_moveFromLine_58 ?_
      refine J_aload (i := 5) (kk := 1) dX0_moveFromLine_59 rfl ?_
      refine J_iconst (v := 3) dX0_moveFromLine_61 (by decide) ?_
      refine J_ald 3 (by decide) (nc_row142 (vp_lt b2)) (sk_row142 (vp_lt b2)) (by unfold vp_in; decide) dX0_moveFromLine_62 ?_
      refine J_iload (i := 6) (kk := 0) dX0_moveFromLine_63 rfl ?_
      refine J_callV [.int a2, .int (((rd σ (((rd σ 19 (a4.toNatClampNeg)).toNatClampNeg) + 142) 1) * (100 : Int32)) + (rd σ (((rd σ 19 (a4.toNatClampNeg)).toNatClampNeg) + 142) 2)), .int (rd σ (((rd σ 19 (a4.toNatClampNeg)).toNatClampNeg) + 142) 3), .int x3] [] calX0_add klX0_53 (b := 17) (ci := 0) (by decide) rfl rfl rfl rfl (Nat.le_of_ble_eq_true rfl) dX0_moveFromLine_65 (KI.to h ?_)
      clear h
      intro x5 σ4 h
      refine J_istore (i := 7) (lv' := [(7, .int x5), (6, .int x3), (5, .ref (((rd σ 19 (a4.toNatClampNeg)).toNatClampNeg) + 142)), (0, .ref 17), (1, .int a1), (2, .int a2), (3, .int a3), (4, .int a4)]) dX0_moveFromLine_68 (by decide) rfl ?_
      refine J_iload (i := 7) (kk := 0) dX0_moveFromLine_70 rfl ?_
      refine J_if_ge 77 dX0_moveFromLine_72 (by decide) (fun hc => ?_) (fun hc => ?_)
      · replace h := h.1 hc
        refine J_aload_n (i := 0) (kk := 3) dX0_moveFromLine_77 rfl rfl ?_
        refine J_getR 18 (q := 17) (ci := 0) (kf := 0) kfX0_11 uxX0 rfl (by decide) rfl (by decide) rfl dX0_moveFromLine_78 ?_
        refine J_iload (i := 7) (kk := 0) dX0_moveFromLine_81 rfl ?_
        have b6 := h.1
        replace h := h.2
        refine J_aald2 (x5.toNatClampNeg) rfl (by decide) rfl b6 dX0_moveFromLine_83 ?_
        refine J_bipush (v := 11) dX0_moveFromLine_84 (by decide) ?_
        refine J_aload_n (i := 0) (kk := 3) dX0_moveFromLine_86 rfl rfl ?_
        refine J_getR 19 (q := 17) (ci := 0) (kf := 2) kfX0_20 uxX0 rfl (by decide) rfl (by decide) rfl dX0_moveFromLine_87 ?_
        refine J_iload (i := 4) (kk := 7) dX0_moveFromLine_90 rfl ?_
        refine J_ald (a4.toNatClampNeg) rfl (by decide) rfl b1 dX0_moveFromLine_92 ?_
        refine J_ast 11 (by decide) (nc_row142 (vp_lt b6)) (sk_row142 (vp_lt b6)) (by unfold vp_in; decide) dX0_moveFromLine_93 ?_
        refine J_aload_n (i := 0) (kk := 3) dX0_moveFromLine_94 rfl rfl ?_
        refine J_getR 18 (q := 17) (ci := 0) (kf := 0) kfX0_11 uxX0 rfl (by decide) rfl (by decide) rfl dX0_moveFromLine_95 ?_
        refine J_iload (i := 7) (kk := 0) dX0_moveFromLine_98 rfl ?_
        refine J_aald2 (x5.toNatClampNeg) rfl (by decide) rfl b6 dX0_moveFromLine_100 ?_
        refine J_bipush (v := 12) dX0_moveFromLine_101 (by decide) ?_
        refine J_aload (i := 5) (kk := 2) dX0_moveFromLine_103 rfl ?_
        refine J_bipush (v := 12) dX0_moveFromLine_105 (by decide) ?_
        refine J_ald 12 (by decide) (nc_row142 (vp_lt b2)) (sk_row142 (vp_lt b2)) (by unfold vp_in; decide) dX0_moveFromLine_107 ?_
        refine J_ast 12 (by decide) (nc_row142 (vp_lt b6)) (sk_row142 (vp_lt b6)) (by unfold vp_in; decide) dX0_moveFromLine_108 ?_
        refine J_aload_n (i := 0) (kk := 3) dX0_moveFromLine_109 rfl rfl ?_
        refine J_aload_n (i := 0) (kk := 3) dX0_moveFromLine_110 rfl rfl ?_
        refine J_getR 19 (q := 17) (ci := 0) (kf := 2) kfX0_20 uxX0 rfl (by decide) rfl (by decide) rfl dX0_moveFromLine_111 ?_
        refine J_iload (i := 4) (kk := 7) dX0_moveFromLine_114 rfl ?_
        refine J_ald (a4.toNatClampNeg) rfl (by decide) rfl b1 dX0_moveFromLine_116 ?_
        refine J_iload (i := 6) (kk := 1) dX0_moveFromLine_117 rfl ?_
        refine J_bipush (v := 7) dX0_moveFromLine_119 (by decide) ?_
        refine J_callV [.int (rd (wr (wr σ4 ((x5.toNatClampNeg) + 142) 11 (rd σ4 19 (a4.toNatClampNeg))) ((x5.toNatClampNeg) + 142) 12 (rd (wr σ4 ((x5.toNatClampNeg) + 142) 11 (rd σ4 19 (a4.toNatClampNeg))) (((rd σ 19 (a4.toNatClampNeg)).toNatClampNeg) + 142) 12)) 19 (a4.toNatClampNeg)), .int x3, .int (7)] [] calX0_take klX0_49 (b := 17) (ci := 0) (by decide) rfl rfl rfl rfl (Nat.le_of_ble_eq_true rfl) dX0_moveFromLine_121 (KV.to h ?_)
        clear h
        intro σ7 h
        refine J_iload_n (i := 3) (kk := 6) dX0_moveFromLine_124 rfl rfl ?_
        refine J_iload (i := 6) (kk := 1) dX0_moveFromLine_125 rfl ?_
        refine J_iadd dX0_moveFromLine_127 ?_
        refine J_istore_n (i := 3) (lv' := [(3, .int (a3 + x3)), (7, .int x5), (6, .int x3), (5, .ref (((rd σ 19 (a4.toNatClampNeg)).toNatClampNeg) + 142)), (0, .ref 17), (1, .int a1), (2, .int a2), (4, .int a4)]) dX0_moveFromLine_128 rfl (by decide) rfl ?_
        obtain ⟨x8, ex8⟩ : ∃ y : Int32, y = a4 + 1 := ⟨_, rfl⟩
        replace h := h x8 ex8
        refine J_iinc (i := 4) (kk := 7) (v := x8) (lv' := [(4, .int x8), (3, .int (a3 + x3)), (7, .int x5), (6, .int x3), (5, .ref (((rd σ 19 (a4.toNatClampNeg)).toNatClampNeg) + 142)), (0, .ref 17), (1, .int a1), (2, .int a2)]) dX0_moveFromLine_129 rfl (by rw [ex8]; rfl) (by decide) rfl ?_
        refine J_goto (tgt := 5) dX0_moveFromLine_132 (by decide) ?_
        refine J_sub [5, 6, 7, 1, 0] rfl ?_
        exact h
      · replace h := h.2 hc
        refine J_iload_n (i := 3) (kk := 6) dX0_moveFromLine_75 rfl rfl ?_
        exact J_iret rfl dX0_moveFromLine_76 h
set_option maxHeartbeats 4000000 in
set_option maxRecDepth 100000 in
theorem w_X0_moveFromLine_0 {Γ : GG} {l : Launch} {d : Nat} {Q : Option Value → St → Prop} {σ : St} (a1 : Int32) (a2 : Int32) (h : J Γ l (d + 1) mX0_moveFromLine Q 5 [(0, .ref 17), (1, .int a1), (2, .int a2), (3, .int (0)), (4, .int (0))] [] σ) : J Γ l (d + 1) mX0_moveFromLine Q 0 [(0, .ref 17), (1, .int a1), (2, .int a2)] [] σ := by
  refine J_iconst (v := 0) dX0_moveFromLine_0 (by decide) ?_
  refine J_istore_n (i := 3) (lv' := [(3, .int (0)), (0, .ref 17), (1, .int a1), (2, .int a2)]) dX0_moveFromLine_1 rfl (by decide) rfl ?_
  refine J_iconst (v := 0) dX0_moveFromLine_2 (by decide) ?_
  refine J_istore (i := 4) (lv' := [(4, .int (0)), (3, .int (0)), (0, .ref 17), (1, .int a1), (2, .int a2)]) dX0_moveFromLine_3 (by decide) rfl ?_
  refine J_sub [2, 3, 4, 1, 0] rfl ?_
  exact h
theorem M_X0_moveFromLine {Γ : GG} {l : Launch} {d : Nat} {Q : Option Value → St → Prop} {σ : St} (a1 : Int32) (a2 : Int32) (k : J Γ l (d + 1) mX0_moveFromLine Q 0 [(0, .ref 17), (1, .int a1), (2, .int a2)] [] σ) : Meth Γ l (d + 1) mX0_moveFromLine [.ref 17, .int a1, .int a2] σ Q := Meth_of_J (by decide +kernel) (fun _ => Nat.le_of_ble_eq_true rfl) (fun _ => rfl) k
set_option maxHeartbeats 4000000 in
set_option maxRecDepth 100000 in
theorem w_X0_noteSpoiled_0 {Γ : GG} {l : Launch} {d : Nat} {Q : Option Value → St → Prop} {σ : St} (a1 : Int32) (a2 : Int32) (a3 : Int32) (h : (rd σ 17 7 < (400 : Int32) → vp_in a1 200 ∧ vp_in (rd (wr σ ((a1.toNatClampNeg) + 142) 10 ((rd σ ((a1.toNatClampNeg) + 142) 10) + a2)) 17 7) 400 ∧ Q none (wr (wr (wr (wr (wr σ ((a1.toNatClampNeg) + 142) 10 ((rd σ ((a1.toNatClampNeg) + 142) 10) + a2)) 20 ((rd (wr σ ((a1.toNatClampNeg) + 142) 10 ((rd σ ((a1.toNatClampNeg) + 142) 10) + a2)) 17 7).toNatClampNeg) (((rd (wr σ ((a1.toNatClampNeg) + 142) 10 ((rd σ ((a1.toNatClampNeg) + 142) 10) + a2)) ((a1.toNatClampNeg) + 142) 1) * (100 : Int32)) + (rd (wr σ ((a1.toNatClampNeg) + 142) 10 ((rd σ ((a1.toNatClampNeg) + 142) 10) + a2)) ((a1.toNatClampNeg) + 142) 2))) 21 ((rd (wr σ ((a1.toNatClampNeg) + 142) 10 ((rd σ ((a1.toNatClampNeg) + 142) 10) + a2)) 17 7).toNatClampNeg) a2) 22 ((rd (wr σ ((a1.toNatClampNeg) + 142) 10 ((rd σ ((a1.toNatClampNeg) + 142) 10) + a2)) 17 7).toNatClampNeg) a3) 17 7 ((rd (wr σ ((a1.toNatClampNeg) + 142) 10 ((rd σ ((a1.toNatClampNeg) + 142) 10) + a2)) 17 7) + (1 : Int32)))) ∧ (¬ rd σ 17 7 < (400 : Int32) → Q none σ)) : J Γ l d mX0_noteSpoiled Q 0 [(0, .ref 17), (1, .int a1), (2, .int a2), (3, .int a3)] [] σ := by
  refine J_aload_n (i := 0) (kk := 0) dX0_noteSpoiled_0 rfl rfl ?_
  refine J_getI (q := 17) (ci := 0) (kf := 7) kfX0_36 uxX0 rfl (by decide) rfl (by decide) rfl dX0_noteSpoiled_1 ?_
  refine J_sipush (v := 400) dX0_noteSpoiled_4 (by decide) ?_
  refine J_icmp_lt 11 dX0_noteSpoiled_7 (by decide) (fun hc => ?_) (fun hc => ?_)
  · replace h := h.1 hc
    refine J_aload_n (i := 0) (kk := 0) dX0_noteSpoiled_11 rfl rfl ?_
    refine J_getR 18 (q := 17) (ci := 0) (kf := 0) kfX0_11 uxX0 rfl (by decide) rfl (by decide) rfl dX0_noteSpoiled_12 ?_
    refine J_iload_n (i := 1) (kk := 1) dX0_noteSpoiled_15 rfl rfl ?_
    have b1 := h.1
    replace h := h.2
    refine J_aald2 (a1.toNatClampNeg) rfl (by decide) rfl b1 dX0_noteSpoiled_16 ?_
    refine J_bipush (v := 10) dX0_noteSpoiled_17 (by decide) ?_
    refine J_dup2_11 dX0_noteSpoiled_19 rfl rfl ?_
    refine J_ald 10 (by decide) (nc_row142 (vp_lt b1)) (sk_row142 (vp_lt b1)) (by unfold vp_in; decide) dX0_noteSpoiled_20 ?_
    refine J_iload_n (i := 2) (kk := 2) dX0_noteSpoiled_21 rfl rfl ?_
    refine J_iadd dX0_noteSpoiled_22 ?_
    refine J_ast 10 (by decide) (nc_row142 (vp_lt b1)) (sk_row142 (vp_lt b1)) (by unfold vp_in; decide) dX0_noteSpoiled_23 ?_
    refine J_aload_n (i := 0) (kk := 0) dX0_noteSpoiled_24 rfl rfl ?_
    refine J_getR 20 (q := 17) (ci := 0) (kf := 4) kfX0_27 uxX0 rfl (by decide) rfl (by decide) rfl dX0_noteSpoiled_25 ?_
    refine J_aload_n (i := 0) (kk := 0) dX0_noteSpoiled_28 rfl rfl ?_
    refine J_getI (q := 17) (ci := 0) (kf := 7) kfX0_36 uxX0 rfl (by decide) rfl (by decide) rfl dX0_noteSpoiled_29 ?_
    refine J_aload_n (i := 0) (kk := 0) dX0_noteSpoiled_32 rfl rfl ?_
    refine J_getR 18 (q := 17) (ci := 0) (kf := 0) kfX0_11 uxX0 rfl (by decide) rfl (by decide) rfl dX0_noteSpoiled_33 ?_
    refine J_iload_n (i := 1) (kk := 1) dX0_noteSpoiled_36 rfl rfl ?_
    refine J_aald2 (a1.toNatClampNeg) rfl (by decide) rfl b1 dX0_noteSpoiled_37 ?_
    refine J_iconst (v := 1) dX0_noteSpoiled_38 (by decide) ?_
    refine J_ald 1 (by decide) (nc_row142 (vp_lt b1)) (sk_row142 (vp_lt b1)) (by unfold vp_in; decide) dX0_noteSpoiled_39 ?_
    refine J_bipush (v := 100) dX0_noteSpoiled_40 (by decide) ?_
    refine J_imul dX0_noteSpoiled_42 ?_
    refine J_aload_n (i := 0) (kk := 0) dX0_noteSpoiled_43 rfl rfl ?_
    refine J_getR 18 (q := 17) (ci := 0) (kf := 0) kfX0_11 uxX0 rfl (by decide) rfl (by decide) rfl dX0_noteSpoiled_44 ?_
    refine J_iload_n (i := 1) (kk := 1) dX0_noteSpoiled_47 rfl rfl ?_
    refine J_aald2 (a1.toNatClampNeg) rfl (by decide) rfl b1 dX0_noteSpoiled_48 ?_
    refine J_iconst (v := 2) dX0_noteSpoiled_49 (by decide) ?_
    refine J_ald 2 (by decide) (nc_row142 (vp_lt b1)) (sk_row142 (vp_lt b1)) (by unfold vp_in; decide) dX0_noteSpoiled_50 ?_
    refine J_iadd dX0_noteSpoiled_51 ?_
    have b2 := h.1
    replace h := h.2
    refine J_ast ((rd (wr σ ((a1.toNatClampNeg) + 142) 10 ((rd σ ((a1.toNatClampNeg) + 142) 10) + a2)) 17 7).toNatClampNeg) rfl (by decide) rfl b2 dX0_noteSpoiled_52 ?_
    refine J_aload_n (i := 0) (kk := 0) dX0_noteSpoiled_53 rfl rfl ?_
    refine J_getR 21 (q := 17) (ci := 0) (kf := 5) kfX0_30 uxX0 rfl (by decide) rfl (by decide) rfl dX0_noteSpoiled_54 ?_
    refine J_aload_n (i := 0) (kk := 0) dX0_noteSpoiled_57 rfl rfl ?_
    refine J_getI (q := 17) (ci := 0) (kf := 7) kfX0_36 uxX0 rfl (by decide) rfl (by decide) rfl dX0_noteSpoiled_58 ?_
    refine J_eqI (y := rd (wr σ ((a1.toNatClampNeg) + 142) 10 ((rd σ ((a1.toNatClampNeg) + 142) 10) + a2)) 17 7) rfl ?_
    refine J_iload_n (i := 2) (kk := 2) dX0_noteSpoiled_61 rfl rfl ?_
    refine J_ast ((rd (wr σ ((a1.toNatClampNeg) + 142) 10 ((rd σ ((a1.toNatClampNeg) + 142) 10) + a2)) 17 7).toNatClampNeg) rfl (by decide) rfl b2 dX0_noteSpoiled_62 ?_
    refine J_aload_n (i := 0) (kk := 0) dX0_noteSpoiled_63 rfl rfl ?_
    refine J_getR 22 (q := 17) (ci := 0) (kf := 6) kfX0_33 uxX0 rfl (by decide) rfl (by decide) rfl dX0_noteSpoiled_64 ?_
    refine J_aload_n (i := 0) (kk := 0) dX0_noteSpoiled_67 rfl rfl ?_
    refine J_getI (q := 17) (ci := 0) (kf := 7) kfX0_36 uxX0 rfl (by decide) rfl (by decide) rfl dX0_noteSpoiled_68 ?_
    refine J_eqI (y := rd (wr σ ((a1.toNatClampNeg) + 142) 10 ((rd σ ((a1.toNatClampNeg) + 142) 10) + a2)) 17 7) rfl ?_
    refine J_iload_n (i := 3) (kk := 3) dX0_noteSpoiled_71 rfl rfl ?_
    refine J_ast ((rd (wr σ ((a1.toNatClampNeg) + 142) 10 ((rd σ ((a1.toNatClampNeg) + 142) 10) + a2)) 17 7).toNatClampNeg) rfl (by decide) rfl b2 dX0_noteSpoiled_72 ?_
    refine J_aload_n (i := 0) (kk := 0) dX0_noteSpoiled_73 rfl rfl ?_
    refine J_dup dX0_noteSpoiled_74 rfl ?_
    refine J_getI (q := 17) (ci := 0) (kf := 7) kfX0_36 uxX0 rfl (by decide) rfl (by decide) rfl dX0_noteSpoiled_75 ?_
    refine J_eqI (y := rd (wr σ ((a1.toNatClampNeg) + 142) 10 ((rd σ ((a1.toNatClampNeg) + 142) 10) + a2)) 17 7) rfl ?_
    refine J_iconst (v := 1) dX0_noteSpoiled_78 (by decide) ?_
    refine J_iadd dX0_noteSpoiled_79 ?_
    refine J_putf (q := 17) (ci := 0) (kf := 7) (ty := .int) kfX0_36 uxX0 tyX0_ok nmX0 rfl (by decide) rfl (by decide) rfl rfl rfl rfl rfl dX0_noteSpoiled_80 ?_
    exact J_vret rfl dX0_noteSpoiled_83 h
  · replace h := h.2 hc
    exact J_vret rfl dX0_noteSpoiled_10 h
theorem M_X0_noteSpoiled {Γ : GG} {l : Launch} {d : Nat} {Q : Option Value → St → Prop} {σ : St} (a1 : Int32) (a2 : Int32) (a3 : Int32) (k : J Γ l d mX0_noteSpoiled Q 0 [(0, .ref 17), (1, .int a1), (2, .int a2), (3, .int a3)] [] σ) : Meth Γ l d mX0_noteSpoiled [.ref 17, .int a1, .int a2, .int a3] σ Q := Meth_of_J (by decide +kernel) (fun _ => Nat.le_of_ble_eq_true rfl) (fun _ => rfl) k
set_option maxHeartbeats 4000000 in
set_option maxRecDepth 100000 in
theorem w_X0_cameBy_44 {Γ : GG} {l : Launch} {d : Nat} {Q : Option Value → St → Prop} {σ : St} (a1 : Int32) (a2 : Int32) (a3 : Int32) (a4 : Int32) (i5 : Nat) (hi5 : i5 < 200) (h : ∀ x1 : Int32, x1 = a4 + 1 → J Γ l d mX0_cameBy Q 5 [(0, .ref 17), (1, .int a1), (2, .int a2), (3, .int a3), (4, .int x1)] [] σ) : J Γ l d mX0_cameBy Q 44 [(0, .ref 17), (1, .int a1), (2, .int a2), (3, .int a3), (4, .int a4), (5, .ref (i5 + 142))] [] σ := by
  refine J_iconst (v := 0) dX0_cameBy_44 (by decide) ?_
  refine J_istore (i := 6) (lv' := [(6, .int (0)), (0, .ref 17), (1, .int a1), (2, .int a2), (3, .int a3), (4, .int a4), (5, .ref (i5 + 142))]) dX0_cameBy_45 (by decide) rfl ?_
  refine J_iload (i := 6) (kk := 0) dX0_cameBy_47 rfl ?_
  refine J_if_eq 75 dX0_cameBy_49 (by decide) (fun _ => ?_) (fun hc => absurd hc (by decide))
  obtain ⟨x1, ex1⟩ : ∃ y : Int32, y = a4 + 1 := ⟨_, rfl⟩
  replace h := h x1 ex1
  refine J_iinc (i := 4) (kk := 5) (v := x1) (lv' := [(4, .int x1), (6, .int (0)), (0, .ref 17), (1, .int a1), (2, .int a2), (3, .int a3), (5, .ref (i5 + 142))]) dX0_cameBy_75 rfl (by rw [ex1]; rfl) (by decide) rfl ?_
  refine J_goto (tgt := 5) dX0_cameBy_78 (by decide) ?_
  refine J_sub [2, 3, 4, 5, 0] rfl ?_
  exact h
set_option maxHeartbeats 4000000 in
set_option maxRecDepth 100000 in
theorem w_X0_cameBy_5 {Γ : GG} {l : Launch} {d : Nat} {Q : Option Value → St → Prop} {σ : St} (a1 : Int32) (a2 : Int32) (a3 : Int32) (a4 : Int32) (h : (rd σ 17 1 ≤ a4 → Q (some (.int a3)) σ) ∧ (¬ rd σ 17 1 ≤ a4 → vp_in a4 200 ∧ ((0 : Int32) ≤ rd σ ((a4.toNatClampNeg) + 142) 11 → J Γ l d mX0_cameBy Q 44 [(0, .ref 17), (1, .int a1), (2, .int a2), (3, .int a3), (4, .int a4), (5, .ref ((a4.toNatClampNeg) + 142))] [] σ) ∧ (¬ (0 : Int32) ≤ rd σ ((a4.toNatClampNeg) + 142) 11 → (a2 < rd σ ((a4.toNatClampNeg) + 142) 13 → J Γ l d mX0_cameBy Q 44 [(0, .ref 17), (1, .int a1), (2, .int a2), (3, .int a3), (4, .int a4), (5, .ref ((a4.toNatClampNeg) + 142))] [] σ) ∧ (¬ a2 < rd σ ((a4.toNatClampNeg) + 142) 13 → (((rd σ ((a4.toNatClampNeg) + 142) 1) * (100 : Int32)) + (rd σ ((a4.toNatClampNeg) + 142) 2) = a1 → ∀ x3 : Int32, x3 = a3 + (rd σ ((a4.toNatClampNeg) + 142) 4) → ∀ x4 : Int32, x4 = a4 + 1 → J Γ l d mX0_cameBy Q 5 [(0, .ref 17), (1, .int a1), (2, .int a2), (3, .int x3), (4, .int x4)] [] σ) ∧ (¬ ((rd σ ((a4.toNatClampNeg) + 142) 1) * (100 : Int32)) + (rd σ ((a4.toNatClampNeg) + 142) 2) = a1 → ∀ x2 : Int32, x2 = a4 + 1 → J Γ l d mX0_cameBy Q 5 [(0, .ref 17), (1, .int a1), (2, .int a2), (3, .int a3), (4, .int x2)] [] σ))))) : J Γ l d mX0_cameBy Q 5 [(0, .ref 17), (1, .int a1), (2, .int a2), (3, .int a3), (4, .int a4)] [] σ := by
  refine J_iload (i := 4) (kk := 4) dX0_cameBy_5 rfl ?_
  refine J_aload_n (i := 0) (kk := 0) dX0_cameBy_7 rfl rfl ?_
  refine J_getI (q := 17) (ci := 0) (kf := 1) kfX0_16 uxX0 rfl (by decide) rfl (by decide) rfl dX0_cameBy_8 ?_
  refine J_icmp_ge 81 dX0_cameBy_11 (by decide) (fun hc => ?_) (fun hc => ?_)
  · replace h := h.1 hc
    refine J_iload_n (i := 3) (kk := 3) dX0_cameBy_81 rfl rfl ?_
    exact J_iret rfl dX0_cameBy_82 h
  · replace h := h.2 hc
    refine J_aload_n (i := 0) (kk := 0) dX0_cameBy_14 rfl rfl ?_
    refine J_getR 18 (q := 17) (ci := 0) (kf := 0) kfX0_11 uxX0 rfl (by decide) rfl (by decide) rfl dX0_cameBy_15 ?_
    refine J_iload (i := 4) (kk := 4) dX0_cameBy_18 rfl ?_
    have b1 := h.1
    replace h := h.2
    refine J_aald2 (a4.toNatClampNeg) rfl (by decide) rfl b1 dX0_cameBy_20 ?_
    refine J_astore (i := 5) (lv' := [(5, .ref ((a4.toNatClampNeg) + 142)), (0, .ref 17), (1, .int a1), (2, .int a2), (3, .int a3), (4, .int a4)]) dX0_cameBy_21 (by decide) rfl ?_
    refine J_aload (i := 5) (kk := 0) dX0_cameBy_23 rfl ?_
    refine J_bipush (v := 11) dX0_cameBy_25 (by decide) ?_
    refine J_ald 11 (by decide) (nc_row142 (vp_lt b1)) (sk_row142 (vp_lt b1)) (by unfold vp_in; decide) dX0_cameBy_27 ?_
    refine J_if_ge 44 dX0_cameBy_28 (by decide) (fun hc => ?_) (fun hc => ?_)
    · replace h := h.1 hc
      refine J_sub [1, 2, 3, 4, 5, 0] rfl ?_
      exact h
    · replace h := h.2 hc
      refine J_aload (i := 5) (kk := 0) dX0_cameBy_31 rfl ?_
      refine J_bipush (v := 13) dX0_cameBy_33 (by decide) ?_
      refine J_ald 13 (by decide) (nc_row142 (vp_lt b1)) (sk_row142 (vp_lt b1)) (by unfold vp_in; decide) dX0_cameBy_35 ?_
      refine J_iload_n (i := 2) (kk := 3) dX0_cameBy_36 rfl rfl ?_
      refine J_icmp_gt 44 dX0_cameBy_37 (by decide) (fun hc => ?_) (fun hc => ?_)
      · replace h := h.1 hc
        refine J_sub [1, 2, 3, 4, 5, 0] rfl ?_
        exact h
      · replace h := h.2 hc
        refine J_iconst (v := 1) dX0_cameBy_40 (by decide) ?_
        refine J_goto (tgt := 45) dX0_cameBy_41 (by decide) ?_
        refine J_istore (i := 6) (lv' := [(6, .int (1)), (5, .ref ((a4.toNatClampNeg) + 142)), (0, .ref 17), (1, .int a1), (2, .int a2), (3, .int a3), (4, .int a4)]) dX0_cameBy_45 (by decide) rfl ?_
        refine J_iload (i := 6) (kk := 0) dX0_cameBy_47 rfl ?_
        refine J_if_eq 75 dX0_cameBy_49 (by decide) (fun hc => absurd hc (by decide)) (fun _ => ?_)
        refine J_aload (i := 5) (kk := 1) dX0_cameBy_52 rfl ?_
        refine J_iconst (v := 1) dX0_cameBy_54 (by decide) ?_
        refine J_ald 1 (by decide) (nc_row142 (vp_lt b1)) (sk_row142 (vp_lt b1)) (by unfold vp_in; decide) dX0_cameBy_55 ?_
        refine J_bipush (v := 100) dX0_cameBy_56 (by decide) ?_
        refine J_imul dX0_cameBy_58 ?_
        refine J_aload (i := 5) (kk := 1) dX0_cameBy_59 rfl ?_
        refine J_iconst (v := 2) dX0_cameBy_61 (by decide) ?_
        refine J_ald 2 (by decide) (nc_row142 (vp_lt b1)) (sk_row142 (vp_lt b1)) (by unfold vp_in; decide) dX0_cameBy_62 ?_
        refine J_iadd dX0_cameBy_63 ?_
        refine J_iload_n (i := 1) (kk := 3) dX0_cameBy_64 rfl rfl ?_
        refine J_icmp_ne 75 dX0_cameBy_65 (by decide) (fun hc => ?_) (fun hc => ?_)
        · replace h := h.2 hc
          obtain ⟨x2, ex2⟩ : ∃ y : Int32, y = a4 + 1 := ⟨_, rfl⟩
          replace h := h x2 ex2
          refine J_iinc (i := 4) (kk := 6) (v := x2) (lv' := [(4, .int x2), (6, .int (1)), (5, .ref ((a4.toNatClampNeg) + 142)), (0, .ref 17), (1, .int a1), (2, .int a2), (3, .int a3)]) dX0_cameBy_75 rfl (by rw [ex2]; rfl) (by decide) rfl ?_
          refine J_goto (tgt := 5) dX0_cameBy_78 (by decide) ?_
          refine J_sub [3, 4, 5, 6, 0] rfl ?_
          exact h
        · replace h := h.1 hc
          refine J_iload_n (i := 3) (kk := 5) dX0_cameBy_68 rfl rfl ?_
          refine J_aload (i := 5) (kk := 1) dX0_cameBy_69 rfl ?_
          refine J_iconst (v := 4) dX0_cameBy_71 (by decide) ?_
          refine J_ald 4 (by decide) (nc_row142 (vp_lt b1)) (sk_row142 (vp_lt b1)) (by unfold vp_in; decide) dX0_cameBy_72 ?_
          refine J_iadd dX0_cameBy_73 ?_
          refine J_nameI (fun x3 ex3 => ?_)
          replace h := h x3 ex3
          refine J_istore_n (i := 3) (lv' := [(3, .int x3), (6, .int (1)), (5, .ref ((a4.toNatClampNeg) + 142)), (0, .ref 17), (1, .int a1), (2, .int a2), (4, .int a4)]) dX0_cameBy_74 rfl (by decide) rfl ?_
          obtain ⟨x4, ex4⟩ : ∃ y : Int32, y = a4 + 1 := ⟨_, rfl⟩
          replace h := h x4 ex4
          refine J_iinc (i := 4) (kk := 6) (v := x4) (lv' := [(4, .int x4), (3, .int x3), (6, .int (1)), (5, .ref ((a4.toNatClampNeg) + 142)), (0, .ref 17), (1, .int a1), (2, .int a2)]) dX0_cameBy_75 rfl (by rw [ex4]; rfl) (by decide) rfl ?_
          refine J_goto (tgt := 5) dX0_cameBy_78 (by decide) ?_
          refine J_sub [4, 5, 6, 1, 0] rfl ?_
          exact h
set_option maxHeartbeats 4000000 in
set_option maxRecDepth 100000 in
theorem w_X0_cameBy_0 {Γ : GG} {l : Launch} {d : Nat} {Q : Option Value → St → Prop} {σ : St} (a1 : Int32) (a2 : Int32) (h : J Γ l d mX0_cameBy Q 5 [(0, .ref 17), (1, .int a1), (2, .int a2), (3, .int (0)), (4, .int (0))] [] σ) : J Γ l d mX0_cameBy Q 0 [(0, .ref 17), (1, .int a1), (2, .int a2)] [] σ := by
  refine J_iconst (v := 0) dX0_cameBy_0 (by decide) ?_
  refine J_istore_n (i := 3) (lv' := [(3, .int (0)), (0, .ref 17), (1, .int a1), (2, .int a2)]) dX0_cameBy_1 rfl (by decide) rfl ?_
  refine J_iconst (v := 0) dX0_cameBy_2 (by decide) ?_
  refine J_istore (i := 4) (lv' := [(4, .int (0)), (3, .int (0)), (0, .ref 17), (1, .int a1), (2, .int a2)]) dX0_cameBy_3 (by decide) rfl ?_
  refine J_sub [2, 3, 4, 1, 0] rfl ?_
  exact h
theorem M_X0_cameBy {Γ : GG} {l : Launch} {d : Nat} {Q : Option Value → St → Prop} {σ : St} (a1 : Int32) (a2 : Int32) (k : J Γ l d mX0_cameBy Q 0 [(0, .ref 17), (1, .int a1), (2, .int a2)] [] σ) : Meth Γ l d mX0_cameBy [.ref 17, .int a1, .int a2] σ Q := Meth_of_J (by decide +kernel) (fun _ => Nat.le_of_ble_eq_true rfl) (fun _ => rfl) k
set_option maxHeartbeats 4000000 in
set_option maxRecDepth 100000 in
theorem w_X0_spoiledBy_5 {Γ : GG} {l : Launch} {d : Nat} {Q : Option Value → St → Prop} {σ : St} (a1 : Int32) (a2 : Int32) (a3 : Int32) (a4 : Int32) (h : (rd σ 17 7 ≤ a4 → Q (some (.int a3)) σ) ∧ (¬ rd σ 17 7 ≤ a4 → vp_in a4 400 ∧ (rd σ 20 (a4.toNatClampNeg) = a1 → (a2 < rd σ 22 (a4.toNatClampNeg) → ∀ x3 : Int32, x3 = a4 + 1 → J Γ l d mX0_spoiledBy Q 5 [(0, .ref 17), (1, .int a1), (2, .int a2), (3, .int a3), (4, .int x3)] [] σ) ∧ (¬ a2 < rd σ 22 (a4.toNatClampNeg) → ∀ x4 : Int32, x4 = a3 + (rd σ 21 (a4.toNatClampNeg)) → ∀ x5 : Int32, x5 = a4 + 1 → J Γ l d mX0_spoiledBy Q 5 [(0, .ref 17), (1, .int a1), (2, .int a2), (3, .int x4), (4, .int x5)] [] σ)) ∧ (¬ rd σ 20 (a4.toNatClampNeg) = a1 → ∀ x2 : Int32, x2 = a4 + 1 → J Γ l d mX0_spoiledBy Q 5 [(0, .ref 17), (1, .int a1), (2, .int a2), (3, .int a3), (4, .int x2)] [] σ))) : J Γ l d mX0_spoiledBy Q 5 [(0, .ref 17), (1, .int a1), (2, .int a2), (3, .int a3), (4, .int a4)] [] σ := by
  refine J_iload (i := 4) (kk := 4) dX0_spoiledBy_5 rfl ?_
  refine J_aload_n (i := 0) (kk := 0) dX0_spoiledBy_7 rfl rfl ?_
  refine J_getI (q := 17) (ci := 0) (kf := 7) kfX0_36 uxX0 rfl (by decide) rfl (by decide) rfl dX0_spoiledBy_8 ?_
  refine J_icmp_ge 52 dX0_spoiledBy_11 (by decide) (fun hc => ?_) (fun hc => ?_)
  · replace h := h.1 hc
    refine J_iload_n (i := 3) (kk := 3) dX0_spoiledBy_52 rfl rfl ?_
    exact J_iret rfl dX0_spoiledBy_53 h
  · replace h := h.2 hc
    refine J_aload_n (i := 0) (kk := 0) dX0_spoiledBy_14 rfl rfl ?_
    refine J_getR 20 (q := 17) (ci := 0) (kf := 4) kfX0_27 uxX0 rfl (by decide) rfl (by decide) rfl dX0_spoiledBy_15 ?_
    refine J_iload (i := 4) (kk := 4) dX0_spoiledBy_18 rfl ?_
    have b1 := h.1
    replace h := h.2
    refine J_ald (a4.toNatClampNeg) rfl (by decide) rfl b1 dX0_spoiledBy_20 ?_
    refine J_iload_n (i := 1) (kk := 1) dX0_spoiledBy_21 rfl rfl ?_
    refine J_icmp_ne 46 dX0_spoiledBy_22 (by decide) (fun hc => ?_) (fun hc => ?_)
    · replace h := h.2 hc
      obtain ⟨x2, ex2⟩ : ∃ y : Int32, y = a4 + 1 := ⟨_, rfl⟩
      replace h := h x2 ex2
      refine J_iinc (i := 4) (kk := 4) (v := x2) (lv' := [(4, .int x2), (0, .ref 17), (1, .int a1), (2, .int a2), (3, .int a3)]) dX0_spoiledBy_46 rfl (by rw [ex2]; rfl) (by decide) rfl ?_
      refine J_goto (tgt := 5) dX0_spoiledBy_49 (by decide) ?_
      refine J_sub [1, 2, 3, 4, 0] rfl ?_
      exact h
    · replace h := h.1 hc
      refine J_aload_n (i := 0) (kk := 0) dX0_spoiledBy_25 rfl rfl ?_
      refine J_getR 22 (q := 17) (ci := 0) (kf := 6) kfX0_33 uxX0 rfl (by decide) rfl (by decide) rfl dX0_spoiledBy_26 ?_
      refine J_iload (i := 4) (kk := 4) dX0_spoiledBy_29 rfl ?_
      refine J_ald (a4.toNatClampNeg) rfl (by decide) rfl b1 dX0_spoiledBy_31 ?_
      refine J_iload_n (i := 2) (kk := 2) dX0_spoiledBy_32 rfl rfl ?_
      refine J_icmp_gt 46 dX0_spoiledBy_33 (by decide) (fun hc => ?_) (fun hc => ?_)
      · replace h := h.1 hc
        obtain ⟨x3, ex3⟩ : ∃ y : Int32, y = a4 + 1 := ⟨_, rfl⟩
        replace h := h x3 ex3
        refine J_iinc (i := 4) (kk := 4) (v := x3) (lv' := [(4, .int x3), (0, .ref 17), (1, .int a1), (2, .int a2), (3, .int a3)]) dX0_spoiledBy_46 rfl (by rw [ex3]; rfl) (by decide) rfl ?_
        refine J_goto (tgt := 5) dX0_spoiledBy_49 (by decide) ?_
        refine J_sub [1, 2, 3, 4, 0] rfl ?_
        exact h
      · replace h := h.2 hc
        refine J_iload_n (i := 3) (kk := 3) dX0_spoiledBy_36 rfl rfl ?_
        refine J_aload_n (i := 0) (kk := 0) dX0_spoiledBy_37 rfl rfl ?_
        refine J_getR 21 (q := 17) (ci := 0) (kf := 5) kfX0_30 uxX0 rfl (by decide) rfl (by decide) rfl dX0_spoiledBy_38 ?_
        refine J_iload (i := 4) (kk := 4) dX0_spoiledBy_41 rfl ?_
        refine J_ald (a4.toNatClampNeg) rfl (by decide) rfl b1 dX0_spoiledBy_43 ?_
        refine J_iadd dX0_spoiledBy_44 ?_
        refine J_nameI (fun x4 ex4 => ?_)
        replace h := h x4 ex4
        refine J_istore_n (i := 3) (lv' := [(3, .int x4), (0, .ref 17), (1, .int a1), (2, .int a2), (4, .int a4)]) dX0_spoiledBy_45 rfl (by decide) rfl ?_
        obtain ⟨x5, ex5⟩ : ∃ y : Int32, y = a4 + 1 := ⟨_, rfl⟩
        replace h := h x5 ex5
        refine J_iinc (i := 4) (kk := 4) (v := x5) (lv' := [(4, .int x5), (3, .int x4), (0, .ref 17), (1, .int a1), (2, .int a2)]) dX0_spoiledBy_46 rfl (by rw [ex5]; rfl) (by decide) rfl ?_
        refine J_goto (tgt := 5) dX0_spoiledBy_49 (by decide) ?_
        refine J_sub [2, 3, 4, 1, 0] rfl ?_
        exact h
set_option maxHeartbeats 4000000 in
set_option maxRecDepth 100000 in
theorem w_X0_spoiledBy_0 {Γ : GG} {l : Launch} {d : Nat} {Q : Option Value → St → Prop} {σ : St} (a1 : Int32) (a2 : Int32) (h : J Γ l d mX0_spoiledBy Q 5 [(0, .ref 17), (1, .int a1), (2, .int a2), (3, .int (0)), (4, .int (0))] [] σ) : J Γ l d mX0_spoiledBy Q 0 [(0, .ref 17), (1, .int a1), (2, .int a2)] [] σ := by
  refine J_iconst (v := 0) dX0_spoiledBy_0 (by decide) ?_
  refine J_istore_n (i := 3) (lv' := [(3, .int (0)), (0, .ref 17), (1, .int a1), (2, .int a2)]) dX0_spoiledBy_1 rfl (by decide) rfl ?_
  refine J_iconst (v := 0) dX0_spoiledBy_2 (by decide) ?_
  refine J_istore (i := 4) (lv' := [(4, .int (0)), (3, .int (0)), (0, .ref 17), (1, .int a1), (2, .int a2)]) dX0_spoiledBy_3 (by decide) rfl ?_
  refine J_sub [2, 3, 4, 1, 0] rfl ?_
  exact h
theorem M_X0_spoiledBy {Γ : GG} {l : Launch} {d : Nat} {Q : Option Value → St → Prop} {σ : St} (a1 : Int32) (a2 : Int32) (k : J Γ l d mX0_spoiledBy Q 0 [(0, .ref 17), (1, .int a1), (2, .int a2)] [] σ) : Meth Γ l d mX0_spoiledBy [.ref 17, .int a1, .int a2] σ Q := Meth_of_J (by decide +kernel) (fun _ => Nat.le_of_ble_eq_true rfl) (fun _ => rfl) k
set_option maxHeartbeats 4000000 in
set_option maxRecDepth 100000 in
theorem w_X0_isBadLot_0 {Γ : GG} {l : Launch} {d : Nat} {Q : Option Value → St → Prop} {σ : St} (a1 : Int32) (a2 : Int32) (h : Meth Γ l d mX0_spoiledBy [.ref 17, .int a1, .int a2] σ (KI (fun x2 σ1 => (x2 < (3 : Int32) → Q (some (.int (0))) σ1) ∧ (¬ x2 < (3 : Int32) → Meth Γ l d mX0_cameBy [.ref 17, .int a1, .int a2] σ1 (KI (fun x4 σ3 => (x2 * (10 : Int32) ≤ x4 → Q (some (.int (0))) σ3) ∧ (¬ x2 * (10 : Int32) ≤ x4 → Q (some (.int (1))) σ3))))))) : J Γ l (d + 1) mX0_isBadLot Q 0 [(0, .ref 17), (1, .int a1), (2, .int a2)] [] σ := by
  refine J_aload_n (i := 0) (kk := 0) dX0_isBadLot_0 rfl rfl ?_
  refine J_iload_n (i := 1) (kk := 1) dX0_isBadLot_1 rfl rfl ?_
  refine J_iload_n (i := 2) (kk := 2) dX0_isBadLot_2 rfl rfl ?_
  refine J_callV [.int a1, .int a2] [] calX0_spoiledBy klX0_57 (b := 17) (ci := 0) (by decide) rfl rfl rfl rfl (Nat.le_of_ble_eq_true rfl) dX0_isBadLot_3 (KI.to h ?_)
  clear h
  intro x2 σ1 h
  refine J_istore_n (i := 3) (lv' := [(3, .int x2), (0, .ref 17), (1, .int a1), (2, .int a2)]) dX0_isBadLot_6 rfl (by decide) rfl ?_
  refine J_iload_n (i := 3) (kk := 0) dX0_isBadLot_7 rfl rfl ?_
  refine J_iconst (v := 3) dX0_isBadLot_8 (by decide) ?_
  refine J_icmp_lt 29 dX0_isBadLot_9 (by decide) (fun hc => ?_) (fun hc => ?_)
  · replace h := h.1 hc
    refine J_iconst (v := 0) dX0_isBadLot_29 (by decide) ?_
    exact J_zret rfl (by decide) dX0_isBadLot_30 h
  · replace h := h.2 hc
    refine J_iload_n (i := 3) (kk := 0) dX0_isBadLot_12 rfl rfl ?_
    refine J_bipush (v := 10) dX0_isBadLot_13 (by decide) ?_
    refine J_imul dX0_isBadLot_15 ?_
    refine J_aload_n (i := 0) (kk := 1) dX0_isBadLot_16 rfl rfl ?_
    refine J_iload_n (i := 1) (kk := 2) dX0_isBadLot_17 rfl rfl ?_
    refine J_iload_n (i := 2) (kk := 3) dX0_isBadLot_18 rfl rfl ?_
    refine J_callV [.int a1, .int a2] [.int (x2 * (10 : Int32))] calX0_cameBy klX0_60 (b := 17) (ci := 0) (by decide) rfl rfl rfl rfl (Nat.le_of_ble_eq_true rfl) dX0_isBadLot_19 (KI.to h ?_)
    clear h
    intro x4 σ3 h
    refine J_icmp_le 29 dX0_isBadLot_22 (by decide) (fun hc => ?_) (fun hc => ?_)
    · replace h := h.1 hc
      refine J_iconst (v := 0) dX0_isBadLot_29 (by decide) ?_
      exact J_zret rfl (by decide) dX0_isBadLot_30 h
    · replace h := h.2 hc
      refine J_iconst (v := 1) dX0_isBadLot_25 (by decide) ?_
      refine J_goto (tgt := 30) dX0_isBadLot_26 (by decide) ?_
      exact J_zret rfl (by decide) dX0_isBadLot_30 h
theorem M_X0_isBadLot {Γ : GG} {l : Launch} {d : Nat} {Q : Option Value → St → Prop} {σ : St} (a1 : Int32) (a2 : Int32) (k : J Γ l (d + 1) mX0_isBadLot Q 0 [(0, .ref 17), (1, .int a1), (2, .int a2)] [] σ) : Meth Γ l (d + 1) mX0_isBadLot [.ref 17, .int a1, .int a2] σ Q := Meth_of_J (by decide +kernel) (fun _ => Nat.le_of_ble_eq_true rfl) (fun _ => rfl) k
set_option maxHeartbeats 4000000 in
set_option maxRecDepth 100000 in
theorem w_X0_badSince_4 {Γ : GG} {l : Launch} {d : Nat} {Q : Option Value → St → Prop} {σ : St} (a1 : Int32) (a2 : Int32) (a3 : Int32) (h : (rd σ 17 7 ≤ a3 → Q (some (.int ((-2)))) σ) ∧ (¬ rd σ 17 7 ≤ a3 → vp_in a3 400 ∧ (rd σ 20 (a3.toNatClampNeg) = a1 → (rd σ 22 (a3.toNatClampNeg) ≤ a2 → ∀ x3 : Int32, x3 = a3 + 1 → J Γ l (d + 2) mX0_badSince Q 4 [(0, .ref 17), (1, .int a1), (2, .int a2), (3, .int x3)] [] σ) ∧ (¬ rd σ 22 (a3.toNatClampNeg) ≤ a2 → Meth Γ l (d + 1) mX0_isBadLot [.ref 17, .int a1, .int (rd σ 22 (a3.toNatClampNeg))] σ (KI (fun x5 σ4 => (x5 = (0 : Int32) → ∀ x6 : Int32, x6 = a3 + 1 → J Γ l (d + 2) mX0_badSince Q 4 [(0, .ref 17), (1, .int a1), (2, .int (rd σ 22 (a3.toNatClampNeg))), (3, .int x6)] [] σ4) ∧ (¬ x5 = (0 : Int32) → Q (some (.int (rd σ 22 (a3.toNatClampNeg)))) σ4))))) ∧ (¬ rd σ 20 (a3.toNatClampNeg) = a1 → ∀ x2 : Int32, x2 = a3 + 1 → J Γ l (d + 2) mX0_badSince Q 4 [(0, .ref 17), (1, .int a1), (2, .int a2), (3, .int x2)] [] σ))) : J Γ l (d + 2) mX0_badSince Q 4 [(0, .ref 17), (1, .int a1), (2, .int a2), (3, .int a3)] [] σ := by
  refine J_iload_n (i := 3) (kk := 3) dX0_badSince_4 rfl rfl ?_
  refine J_aload_n (i := 0) (kk := 0) dX0_badSince_5 rfl rfl ?_
  refine J_getI (q := 17) (ci := 0) (kf := 7) kfX0_36 uxX0 rfl (by decide) rfl (by decide) rfl dX0_badSince_6 ?_
  refine J_icmp_ge 56 dX0_badSince_9 (by decide) (fun hc => ?_) (fun hc => ?_)
  · replace h := h.1 hc
    refine J_bipush (v := (-2)) dX0_badSince_56 (by decide) ?_
    exact J_iret rfl dX0_badSince_58 h
  · replace h := h.2 hc
    refine J_aload_n (i := 0) (kk := 0) dX0_badSince_12 rfl rfl ?_
    refine J_getR 20 (q := 17) (ci := 0) (kf := 4) kfX0_27 uxX0 rfl (by decide) rfl (by decide) rfl dX0_badSince_13 ?_
    refine J_iload_n (i := 3) (kk := 3) dX0_badSince_16 rfl rfl ?_
    have b1 := h.1
    replace h := h.2
    refine J_ald (a3.toNatClampNeg) rfl (by decide) rfl b1 dX0_badSince_17 ?_
    refine J_iload_n (i := 1) (kk := 1) dX0_badSince_18 rfl rfl ?_
    refine J_icmp_ne 50 dX0_badSince_19 (by decide) (fun hc => ?_) (fun hc => ?_)
    · replace h := h.2 hc
      obtain ⟨x2, ex2⟩ : ∃ y : Int32, y = a3 + 1 := ⟨_, rfl⟩
      replace h := h x2 ex2
      refine J_iinc (i := 3) (kk := 3) (v := x2) (lv' := [(3, .int x2), (0, .ref 17), (1, .int a1), (2, .int a2)]) dX0_badSince_50 rfl (by rw [ex2]; rfl) (by decide) rfl ?_
      refine J_goto (tgt := 4) dX0_badSince_53 (by decide) ?_
      refine J_sub [1, 2, 3, 0] rfl ?_
      exact h
    · replace h := h.1 hc
      refine J_aload_n (i := 0) (kk := 0) dX0_badSince_22 rfl rfl ?_
      refine J_getR 22 (q := 17) (ci := 0) (kf := 6) kfX0_33 uxX0 rfl (by decide) rfl (by decide) rfl dX0_badSince_23 ?_
      refine J_iload_n (i := 3) (kk := 3) dX0_badSince_26 rfl rfl ?_
      refine J_ald (a3.toNatClampNeg) rfl (by decide) rfl b1 dX0_badSince_27 ?_
      refine J_iload_n (i := 2) (kk := 2) dX0_badSince_28 rfl rfl ?_
      refine J_icmp_le 50 dX0_badSince_29 (by decide) (fun hc => ?_) (fun hc => ?_)
      · replace h := h.1 hc
        obtain ⟨x3, ex3⟩ : ∃ y : Int32, y = a3 + 1 := ⟨_, rfl⟩
        replace h := h x3 ex3
        refine J_iinc (i := 3) (kk := 3) (v := x3) (lv' := [(3, .int x3), (0, .ref 17), (1, .int a1), (2, .int a2)]) dX0_badSince_50 rfl (by rw [ex3]; rfl) (by decide) rfl ?_
        refine J_goto (tgt := 4) dX0_badSince_53 (by decide) ?_
        refine J_sub [1, 2, 3, 0] rfl ?_
        exact h
      · replace h := h.2 hc
        refine J_aload_n (i := 0) (kk := 0) dX0_badSince_32 rfl rfl ?_
        refine J_getR 22 (q := 17) (ci := 0) (kf := 6) kfX0_33 uxX0 rfl (by decide) rfl (by decide) rfl dX0_badSince_33 ?_
        refine J_iload_n (i := 3) (kk := 3) dX0_badSince_36 rfl rfl ?_
        refine J_ald (a3.toNatClampNeg) rfl (by decide) rfl b1 dX0_badSince_37 ?_
        refine J_istore_n (i := 2) (lv' := [(2, .int (rd σ 22 (a3.toNatClampNeg))), (0, .ref 17), (1, .int a1), (3, .int a3)]) dX0_badSince_38 rfl (by decide) rfl ?_
        refine J_aload_n (i := 0) (kk := 1) dX0_badSince_39 rfl rfl ?_
        refine J_iload_n (i := 1) (kk := 2) dX0_badSince_40 rfl rfl ?_
        refine J_iload_n (i := 2) (kk := 0) dX0_badSince_41 rfl rfl ?_
        refine J_callV [.int a1, .int (rd σ 22 (a3.toNatClampNeg))] [] calX0_isBadLot klX0_63 (b := 17) (ci := 0) (by decide) rfl rfl rfl rfl (Nat.le_of_ble_eq_true rfl) dX0_badSince_42 (KI.to h ?_)
        clear h
        intro x5 σ4 h
        refine J_if_eq 50 dX0_badSince_45 (by decide) (fun hc => ?_) (fun hc => ?_)
        · replace h := h.1 hc
          obtain ⟨x6, ex6⟩ : ∃ y : Int32, y = a3 + 1 := ⟨_, rfl⟩
          replace h := h x6 ex6
          refine J_iinc (i := 3) (kk := 3) (v := x6) (lv' := [(3, .int x6), (2, .int (rd σ 22 (a3.toNatClampNeg))), (0, .ref 17), (1, .int a1)]) dX0_badSince_50 rfl (by rw [ex6]; rfl) (by decide) rfl ?_
          refine J_goto (tgt := 4) dX0_badSince_53 (by decide) ?_
          refine J_sub [2, 3, 1, 0] rfl ?_
          exact h
        · replace h := h.2 hc
          refine J_iload_n (i := 2) (kk := 0) dX0_badSince_48 rfl rfl ?_
          exact J_iret rfl dX0_badSince_49 h
set_option maxHeartbeats 4000000 in
set_option maxRecDepth 100000 in
theorem w_X0_badSince_0 {Γ : GG} {l : Launch} {d : Nat} {Q : Option Value → St → Prop} {σ : St} (a1 : Int32) (h : J Γ l (d + 2) mX0_badSince Q 4 [(0, .ref 17), (1, .int a1), (2, .int ((-1))), (3, .int (0))] [] σ) : J Γ l (d + 2) mX0_badSince Q 0 [(0, .ref 17), (1, .int a1)] [] σ := by
  refine J_iconst (v := (-1)) dX0_badSince_0 (by decide) ?_
  refine J_istore_n (i := 2) (lv' := [(2, .int ((-1))), (0, .ref 17), (1, .int a1)]) dX0_badSince_1 rfl (by decide) rfl ?_
  refine J_iconst (v := 0) dX0_badSince_2 (by decide) ?_
  refine J_istore_n (i := 3) (lv' := [(3, .int (0)), (2, .int ((-1))), (0, .ref 17), (1, .int a1)]) dX0_badSince_3 rfl (by decide) rfl ?_
  refine J_sub [2, 3, 1, 0] rfl ?_
  exact h
theorem M_X0_badSince {Γ : GG} {l : Launch} {d : Nat} {Q : Option Value → St → Prop} {σ : St} (a1 : Int32) (k : J Γ l (d + 2) mX0_badSince Q 0 [(0, .ref 17), (1, .int a1)] [] σ) : Meth Γ l (d + 2) mX0_badSince [.ref 17, .int a1] σ Q := Meth_of_J (by decide +kernel) (fun _ => Nat.le_of_ble_eq_true rfl) (fun _ => rfl) k
set_option maxHeartbeats 4000000 in
set_option maxRecDepth 100000 in
theorem w_X1_allNeed_4 {Γ : GG} {l : Launch} {d : Nat} {Q : Option Value → St → Prop} {σ : St} (a1 : Int32) (a2 : Int32) (h : ((12 : Int32) ≤ a2 → Q (some (.int a1)) σ) ∧ (¬ (12 : Int32) ≤ a2 → vp_in a2 12 ∧ ∀ x2 : Int32, x2 = a1 + (rd σ 51 (a2.toNatClampNeg)) → ∀ x3 : Int32, x3 = a2 + 1 → J Γ l d mX1_allNeed Q 4 [(0, .ref 49), (1, .int x2), (2, .int x3)] [] σ)) : J Γ l d mX1_allNeed Q 4 [(0, .ref 49), (1, .int a1), (2, .int a2)] [] σ := by
  refine J_iload_n (i := 2) (kk := 2) dX1_allNeed_4 rfl rfl ?_
  refine J_bipush (v := 12) dX1_allNeed_5 (by decide) ?_
  refine J_icmp_ge 25 dX1_allNeed_7 (by decide) (fun hc => ?_) (fun hc => ?_)
  · replace h := h.1 hc
    refine J_iload_n (i := 1) (kk := 1) dX1_allNeed_25 rfl rfl ?_
    exact J_iret rfl dX1_allNeed_26 h
  · replace h := h.2 hc
    refine J_iload_n (i := 1) (kk := 1) dX1_allNeed_10 rfl rfl ?_
    refine J_aload_n (i := 0) (kk := 0) dX1_allNeed_11 rfl rfl ?_
    refine J_getR 51 (q := 49) (ci := 1) (kf := 1) kfX1_15 uxX1 rfl (by decide) rfl (by decide) rfl dX1_allNeed_12 ?_
    refine J_iload_n (i := 2) (kk := 2) dX1_allNeed_15 rfl rfl ?_
    have b1 := h.1
    replace h := h.2
    refine J_ald (a2.toNatClampNeg) rfl (by decide) rfl b1 dX1_allNeed_16 ?_
    refine J_iadd dX1_allNeed_17 ?_
    refine J_nameI (fun x2 ex2 => ?_)
    replace h := h x2 ex2
    refine J_istore_n (i := 1) (lv' := [(1, .int x2), (0, .ref 49), (2, .int a2)]) dX1_allNeed_18 rfl (by decide) rfl ?_
    obtain ⟨x3, ex3⟩ : ∃ y : Int32, y = a2 + 1 := ⟨_, rfl⟩
    replace h := h x3 ex3
    refine J_iinc (i := 2) (kk := 2) (v := x3) (lv' := [(2, .int x3), (1, .int x2), (0, .ref 49)]) dX1_allNeed_19 rfl (by rw [ex3]; rfl) (by decide) rfl ?_
    refine J_goto (tgt := 4) dX1_allNeed_22 (by decide) ?_
    refine J_sub [2, 1, 0] rfl ?_
    exact h
set_option maxHeartbeats 4000000 in
set_option maxRecDepth 100000 in
theorem w_X1_allNeed_0 {Γ : GG} {l : Launch} {d : Nat} {Q : Option Value → St → Prop} {σ : St}  (h : J Γ l d mX1_allNeed Q 4 [(0, .ref 49), (1, .int (0)), (2, .int (0))] [] σ) : J Γ l d mX1_allNeed Q 0 [(0, .ref 49)] [] σ := by
  refine J_iconst (v := 0) dX1_allNeed_0 (by decide) ?_
  refine J_istore_n (i := 1) (lv' := [(1, .int (0)), (0, .ref 49)]) dX1_allNeed_1 rfl (by decide) rfl ?_
  refine J_iconst (v := 0) dX1_allNeed_2 (by decide) ?_
  refine J_istore_n (i := 2) (lv' := [(2, .int (0)), (1, .int (0)), (0, .ref 49)]) dX1_allNeed_3 rfl (by decide) rfl ?_
  refine J_sub [2, 1, 0] rfl ?_
  exact h
theorem M_X1_allNeed {Γ : GG} {l : Launch} {d : Nat} {Q : Option Value → St → Prop} {σ : St}  (k : J Γ l d mX1_allNeed Q 0 [(0, .ref 49)] [] σ) : Meth Γ l d mX1_allNeed [.ref 49] σ Q := Meth_of_J (by decide +kernel) (fun _ => Nat.le_of_ble_eq_true rfl) (fun _ => rfl) k
set_option maxHeartbeats 4000000 in
set_option maxRecDepth 100000 in
theorem w_X1_search_69 {Γ : GG} {l : Launch} {d : Nat} {Q : Option Value → St → Prop} {σ : St} (a2 : Int64) (a4 : Int32) (h : (rd σ 49 5 ≤ a4 → Q (some (.int (((a2 >>> ((24 : Int32).toInt64 &&& 63)).toInt32) &&& (2047 : Int32)))) σ) ∧ (¬ rd σ 49 5 ≤ a4 → vp_in a4 6 ∧ ∀ x2 : Int32, x2 = a4 + 1 → J Γ l (d + 3) mX1_search Q 69 [(0, .ref 49), (2, .long a2), (4, .int x2)] [] (wr σ 53 (a4.toNatClampNeg) (((a2 >>> (((4 : Int32) * ((5 : Int32) - a4)).toInt64 &&& 63)).toInt32) &&& (15 : Int32))))) : J Γ l (d + 3) mX1_search Q 69 [(0, .ref 49), (2, .long a2), (4, .int a4)] [] σ := by
  refine J_iload (i := 4) (kk := 2) dX1_search_69 rfl ?_
  refine J_aload_n (i := 0) (kk := 0) dX1_search_71 rfl rfl ?_
  refine J_getI (q := 49) (ci := 1) (kf := 5) kfX1_28 uxX1 rfl (by decide) rfl (by decide) rfl dX1_search_72 ?_
  refine J_icmp_ge 102 dX1_search_75 (by decide) (fun hc => ?_) (fun hc => ?_)
  · replace h := h.1 hc
    refine J_lload_n (i := 2) (kk := 1) dX1_search_102 rfl rfl ?_
    refine J_bipush (v := 24) dX1_search_103 (by decide) ?_
    refine J_lshr dX1_search_105 ?_
    refine J_l2i dX1_search_106 ?_
    refine J_sipush (v := 2047) dX1_search_107 (by decide) ?_
    refine J_iand dX1_search_110 ?_
    exact J_iret rfl dX1_search_111 h
  · replace h := h.2 hc
    refine J_aload_n (i := 0) (kk := 0) dX1_search_78 rfl rfl ?_
    refine J_getR 53 (q := 49) (ci := 1) (kf := 3) kfX1_21 uxX1 rfl (by decide) rfl (by decide) rfl dX1_search_79 ?_
    refine J_iload (i := 4) (kk := 2) dX1_search_82 rfl ?_
    refine J_lload_n (i := 2) (kk := 1) dX1_search_84 rfl rfl ?_
    refine J_iload (i := 4) (kk := 2) dX1_search_85 rfl ?_
    refine J_callS [.int a4] [.long a2, .int a4, .ref 53] calX1_shiftOf klX1_54 rfl rfl (Nat.le_of_ble_eq_true rfl) dX1_search_87 (KI.to (S_X1_shiftOf a4) ?_)
    rintro x9 s9 ⟨rfl, rfl⟩
    refine J_lshr dX1_search_90 ?_
    refine J_l2i dX1_search_91 ?_
    refine J_bipush (v := 15) dX1_search_92 (by decide) ?_
    refine J_iand dX1_search_94 ?_
    have b1 := h.1
    replace h := h.2
    refine J_ast (a4.toNatClampNeg) rfl (by decide) rfl b1 dX1_search_95 ?_
    obtain ⟨x2, ex2⟩ : ∃ y : Int32, y = a4 + 1 := ⟨_, rfl⟩
    replace h := h x2 ex2
    refine J_iinc (i := 4) (kk := 2) (v := x2) (lv' := [(4, .int x2), (0, .ref 49), (2, .long a2)]) dX1_search_96 rfl (by rw [ex2]; rfl) (by decide) rfl ?_
    refine J_goto (tgt := 69) dX1_search_99 (by decide) ?_
    refine J_sub [1, 2, 0] rfl ?_
    exact h
set_option maxHeartbeats 4000000 in
set_option maxRecDepth 100000 in
theorem w_X1_search_33 {Γ : GG} {l : Launch} {d : Nat} {Q : Option Value → St → Prop} {σ : St} (a2 : Int32) (a3 : Int32) (h : vp_in a2 12 ∧ (rd σ 50 (a2.toNatClampNeg) ≤ a3 → ∀ x2 : Int32, x2 = a2 + 1 → J Γ l (d + 3) mX1_search Q 23 [(0, .ref 49), (1, .ref 5), (2, .int x2)] [] σ) ∧ (¬ rd σ 50 (a2.toNatClampNeg) ≤ a3 → Meth Γ l (d + 2) mX1_sendOne [.ref 49, .int a2, .ref 5] σ (KV (fun σ3 => ∀ x4 : Int32, x4 = a3 + 1 → J Γ l (d + 3) mX1_search Q 33 [(0, .ref 49), (1, .ref 5), (2, .int a2), (3, .int x4)] [] σ3)))) : J Γ l (d + 3) mX1_search Q 33 [(0, .ref 49), (1, .ref 5), (2, .int a2), (3, .int a3)] [] σ := by
  refine J_iload_n (i := 3) (kk := 3) dX1_search_33 rfl rfl ?_
  refine J_aload_n (i := 0) (kk := 0) dX1_search_34 rfl rfl ?_
  refine J_getR 50 (q := 49) (ci := 1) (kf := 0) kfX1_9 uxX1 rfl (by decide) rfl (by decide) rfl dX1_search_35 ?_
  refine J_iload_n (i := 2) (kk := 2) dX1_search_38 rfl rfl ?_
  have b1 := h.1
  replace h := h.2
  refine J_ald (a2.toNatClampNeg) rfl (by decide) rfl b1 dX1_search_39 ?_
  refine J_icmp_ge 55 dX1_search_40 (by decide) (fun hc => ?_) (fun hc => ?_)
  · replace h := h.1 hc
    obtain ⟨x2, ex2⟩ : ∃ y : Int32, y = a2 + 1 := ⟨_, rfl⟩
    replace h := h x2 ex2
    refine J_iinc (i := 2) (kk := 2) (v := x2) (lv' := [(2, .int x2), (0, .ref 49), (1, .ref 5), (3, .int a3)]) dX1_search_55 rfl (by rw [ex2]; rfl) (by decide) rfl ?_
    refine J_goto (tgt := 23) dX1_search_58 (by decide) ?_
    refine J_sub [1, 2, 0] rfl ?_
    exact h
  · replace h := h.2 hc
    refine J_aload_n (i := 0) (kk := 0) dX1_search_43 rfl rfl ?_
    refine J_iload_n (i := 2) (kk := 2) dX1_search_44 rfl rfl ?_
    refine J_aload_n (i := 1) (kk := 1) dX1_search_45 rfl rfl ?_
    refine J_callV [.int a2, .ref 5] [] calX1_sendOne klX1_46 (b := 49) (ci := 1) (by decide) rfl rfl rfl rfl (Nat.le_of_ble_eq_true rfl) dX1_search_46 (KV.to h ?_)
    clear h
    intro σ3 h
    obtain ⟨x4, ex4⟩ : ∃ y : Int32, y = a3 + 1 := ⟨_, rfl⟩
    replace h := h x4 ex4
    refine J_iinc (i := 3) (kk := 3) (v := x4) (lv' := [(3, .int x4), (0, .ref 49), (1, .ref 5), (2, .int a2)]) dX1_search_49 rfl (by rw [ex4]; rfl) (by decide) rfl ?_
    refine J_goto (tgt := 33) dX1_search_52 (by decide) ?_
    refine J_sub [1, 2, 3, 0] rfl ?_
    exact h
set_option maxHeartbeats 4000000 in
set_option maxRecDepth 100000 in
theorem w_X1_search_23 {Γ : GG} {l : Launch} {d : Nat} {Q : Option Value → St → Prop} {σ : St} (a2 : Int32) (h : (rd σ 5 1 ≤ a2 → Meth Γ l (d + 2) mX1_bestOfAll [.ref 49] σ (KL (fun x2 σ1 => J Γ l (d + 3) mX1_search Q 69 [(0, .ref 49), (2, .long x2), (4, .int (0))] [] σ1))) ∧ (¬ rd σ 5 1 ≤ a2 → J Γ l (d + 3) mX1_search Q 33 [(0, .ref 49), (1, .ref 5), (2, .int a2), (3, .int (0))] [] σ)) : J Γ l (d + 3) mX1_search Q 23 [(0, .ref 49), (1, .ref 5), (2, .int a2)] [] σ := by
  refine J_iload_n (i := 2) (kk := 2) dX1_search_23 rfl rfl ?_
  refine J_aload_n (i := 1) (kk := 1) dX1_search_24 rfl rfl ?_
  refine J_getI (q := 5) (ci := 7) (kf := 1) kfX1_43 uxX7 rfl (by decide) rfl (by decide) rfl dX1_search_25 ?_
  refine J_icmp_ge 61 dX1_search_28 (by decide) (fun hc => ?_) (fun hc => ?_)
  · replace h := h.1 hc
    refine J_aload_n (i := 0) (kk := 0) dX1_search_61 rfl rfl ?_
    refine J_callV [] [] calX1_bestOfAll klX1_50 (b := 49) (ci := 1) (by decide) rfl rfl rfl rfl (Nat.le_of_ble_eq_true rfl) dX1_search_62 (KL.to h ?_)
    clear h
    intro x2 σ1 h
    refine J_lstore_n (i := 2) (lv' := [(2, .long x2), (0, .ref 49), (1, .ref 5)]) dX1_search_65 rfl (by decide) rfl ?_
    refine J_iconst (v := 0) dX1_search_66 (by decide) ?_
    refine J_istore (i := 4) (lv' := [(4, .int (0)), (2, .long x2), (0, .ref 49), (1, .ref 5)]) dX1_search_67 (by decide) rfl ?_
    refine J_sub [2, 1, 0] rfl ?_
    exact h
  · replace h := h.2 hc
    refine J_iconst (v := 0) dX1_search_31 (by decide) ?_
    refine J_istore_n (i := 3) (lv' := [(3, .int (0)), (0, .ref 49), (1, .ref 5), (2, .int a2)]) dX1_search_32 rfl (by decide) rfl ?_
    refine J_sub [1, 2, 3, 0] rfl ?_
    exact h
set_option maxHeartbeats 4000000 in
set_option maxRecDepth 100000 in
theorem w_X1_search_0 {Γ : GG} {l : Launch} {d : Nat} {Q : Option Value → St → Prop} {σ : St}  (h : Meth Γ l (d + 2) mX1_listGoals [.ref 49] σ (KV (fun σ1 => Meth Γ l (d + 2) mJ7_fill_d0a16 [.ref 54, .long 1152921504606846976] σ1 (KV (fun σ2 => J Γ l (d + 3) mX1_search Q 23 [(0, .ref 49), (1, .ref 5), (2, .int (0))] [] (wl σ2 54 0 (0 : Int64))))))) : J Γ l (d + 3) mX1_search Q 0 [(0, .ref 49), (1, .ref 5)] [] σ := by
  refine J_aload_n (i := 0) (kk := 0) dX1_search_0 rfl rfl ?_
  refine J_callV [] [] calX1_listGoals klX1_32 (b := 49) (ci := 1) (by decide) rfl rfl rfl rfl (Nat.le_of_ble_eq_true rfl) dX1_search_1 (KV.to h ?_)
  clear h
  intro σ1 h
  refine J_aload_n (i := 0) (kk := 0) dX1_search_4 rfl rfl ?_
  refine J_getR 54 (q := 49) (ci := 1) (kf := 4) kfX1_24 uxX1 rfl (by decide) rfl (by decide) rfl dX1_search_5 ?_
  refine J_ldc2 (v := 1152921504606846976) kqX1_35 dX1_search_8 ?_
  refine J_callS [.ref 54, .long 1152921504606846976] [] calJ7_fill_d0a16 klX1_37 rfl rfl (Nat.le_of_ble_eq_true rfl) dX1_search_11 (KV.to h ?_)
  clear h
  intro σ2 h
  refine J_aload_n (i := 0) (kk := 0) dX1_search_14 rfl rfl ?_
  refine J_getR 54 (q := 49) (ci := 1) (kf := 4) kfX1_24 uxX1 rfl (by decide) rfl (by decide) rfl dX1_search_15 ?_
  refine J_iconst (v := 0) dX1_search_18 (by decide) ?_
  refine J_lconst (v := 0) dX1_search_19 (by decide) ?_
  refine J_last2 0 (by decide) (by decide) rfl (by unfold vp_in; decide) dX1_search_20 ?_
  refine J_iconst (v := 0) dX1_search_21 (by decide) ?_
  refine J_istore_n (i := 2) (lv' := [(2, .int (0)), (0, .ref 49), (1, .ref 5)]) dX1_search_22 rfl (by decide) rfl ?_
  refine J_sub [1, 2, 0] rfl ?_
  exact h
theorem M_X1_search {Γ : GG} {l : Launch} {d : Nat} {Q : Option Value → St → Prop} {σ : St}  (k : J Γ l (d + 3) mX1_search Q 0 [(0, .ref 49), (1, .ref 5)] [] σ) : Meth Γ l (d + 3) mX1_search [.ref 49, .ref 5] σ Q := Meth_of_J (by decide +kernel) (fun _ => Nat.le_of_ble_eq_true rfl) (fun _ => rfl) k
set_option maxHeartbeats 4000000 in
set_option maxRecDepth 100000 in
theorem w_X1_listGoals_15 {Γ : GG} {l : Launch} {d : Nat} {Q : Option Value → St → Prop} {σ : St} (a1 : Int32) (a2 : Int32) (h : vp_in a1 12 ∧ (rd σ 51 (a1.toNatClampNeg) ≤ a2 → ∀ x2 : Int32, x2 = a1 + 1 → J Γ l d mX1_listGoals Q 7 [(0, .ref 49), (1, .int x2)] [] σ) ∧ (¬ rd σ 51 (a1.toNatClampNeg) ≤ a2 → ((6 : Int32) ≤ rd σ 49 5 → ∀ x3 : Int32, x3 = a1 + 1 → J Γ l d mX1_listGoals Q 7 [(0, .ref 49), (1, .int x3)] [] σ) ∧ (¬ (6 : Int32) ≤ rd σ 49 5 → vp_in (rd σ 49 5) 6 ∧ ∀ x5 : Int32, x5 = a2 + 1 → J Γ l d mX1_listGoals Q 15 [(0, .ref 49), (1, .int a1), (2, .int x5)] [] (wr (wr σ 52 ((rd σ 49 5).toNatClampNeg) a1) 49 5 ((rd σ 49 5) + (1 : Int32)))))) : J Γ l d mX1_listGoals Q 15 [(0, .ref 49), (1, .int a1), (2, .int a2)] [] σ := by
  refine J_iload_n (i := 2) (kk := 2) dX1_listGoals_15 rfl rfl ?_
  refine J_aload_n (i := 0) (kk := 0) dX1_listGoals_16 rfl rfl ?_
  refine J_getR 51 (q := 49) (ci := 1) (kf := 1) kfX1_15 uxX1 rfl (by decide) rfl (by decide) rfl dX1_listGoals_17 ?_
  refine J_iload_n (i := 1) (kk := 1) dX1_listGoals_20 rfl rfl ?_
  have b1 := h.1
  replace h := h.2
  refine J_ald (a1.toNatClampNeg) rfl (by decide) rfl b1 dX1_listGoals_21 ?_
  refine J_icmp_ge 60 dX1_listGoals_22 (by decide) (fun hc => ?_) (fun hc => ?_)
  · replace h := h.1 hc
    obtain ⟨x2, ex2⟩ : ∃ y : Int32, y = a1 + 1 := ⟨_, rfl⟩
    replace h := h x2 ex2
    refine J_iinc (i := 1) (kk := 1) (v := x2) (lv' := [(1, .int x2), (0, .ref 49), (2, .int a2)]) dX1_listGoals_60 rfl (by rw [ex2]; rfl) (by decide) rfl ?_
    refine J_goto (tgt := 7) dX1_listGoals_63 (by decide) ?_
    refine J_sub [1, 0] rfl ?_
    exact h
  · replace h := h.2 hc
    refine J_aload_n (i := 0) (kk := 0) dX1_listGoals_25 rfl rfl ?_
    refine J_getI (q := 49) (ci := 1) (kf := 5) kfX1_28 uxX1 rfl (by decide) rfl (by decide) rfl dX1_listGoals_26 ?_
    refine J_bipush (v := 6) dX1_listGoals_29 (by decide) ?_
    refine J_icmp_ge 60 dX1_listGoals_31 (by decide) (fun hc => ?_) (fun hc => ?_)
    · replace h := h.1 hc
      obtain ⟨x3, ex3⟩ : ∃ y : Int32, y = a1 + 1 := ⟨_, rfl⟩
      replace h := h x3 ex3
      refine J_iinc (i := 1) (kk := 1) (v := x3) (lv' := [(1, .int x3), (0, .ref 49), (2, .int a2)]) dX1_listGoals_60 rfl (by rw [ex3]; rfl) (by decide) rfl ?_
      refine J_goto (tgt := 7) dX1_listGoals_63 (by decide) ?_
      refine J_sub [1, 0] rfl ?_
      exact h
    · replace h := h.2 hc
      refine J_aload_n (i := 0) (kk := 0) dX1_listGoals_34 rfl rfl ?_
      refine J_getR 52 (q := 49) (ci := 1) (kf := 2) kfX1_18 uxX1 rfl (by decide) rfl (by decide) rfl dX1_listGoals_35 ?_
      refine J_aload_n (i := 0) (kk := 0) dX1_listGoals_38 rfl rfl ?_
      refine J_getI (q := 49) (ci := 1) (kf := 5) kfX1_28 uxX1 rfl (by decide) rfl (by decide) rfl dX1_listGoals_39 ?_
      refine J_iload_n (i := 1) (kk := 1) dX1_listGoals_42 rfl rfl ?_
      have b4 := h.1
      replace h := h.2
      refine J_ast ((rd σ 49 5).toNatClampNeg) rfl (by decide) rfl b4 dX1_listGoals_43 ?_
      refine J_aload_n (i := 0) (kk := 0) dX1_listGoals_44 rfl rfl ?_
      refine J_dup dX1_listGoals_45 rfl ?_
      refine J_getI (q := 49) (ci := 1) (kf := 5) kfX1_28 uxX1 rfl (by decide) rfl (by decide) rfl dX1_listGoals_46 ?_
      refine J_eqI (y := rd σ 49 5) rfl ?_
      refine J_iconst (v := 1) dX1_listGoals_49 (by decide) ?_
      refine J_iadd dX1_listGoals_50 ?_
      refine J_putf (q := 49) (ci := 1) (kf := 5) (ty := .int) kfX1_28 uxX1 tyX1_ok nmX1 rfl (by decide) rfl (by decide) rfl rfl rfl rfl rfl dX1_listGoals_51 ?_
      obtain ⟨x5, ex5⟩ : ∃ y : Int32, y = a2 + 1 := ⟨_, rfl⟩
      replace h := h x5 ex5
      refine J_iinc (i := 2) (kk := 2) (v := x5) (lv' := [(2, .int x5), (0, .ref 49), (1, .int a1)]) dX1_listGoals_54 rfl (by rw [ex5]; rfl) (by decide) rfl ?_
      refine J_goto (tgt := 15) dX1_listGoals_57 (by decide) ?_
      refine J_sub [1, 2, 0] rfl ?_
      exact h
set_option maxHeartbeats 4000000 in
set_option maxRecDepth 100000 in
theorem w_X1_listGoals_7 {Γ : GG} {l : Launch} {d : Nat} {Q : Option Value → St → Prop} {σ : St} (a1 : Int32) (h : ((12 : Int32) ≤ a1 → Q none σ) ∧ (¬ (12 : Int32) ≤ a1 → J Γ l d mX1_listGoals Q 15 [(0, .ref 49), (1, .int a1), (2, .int (0))] [] σ)) : J Γ l d mX1_listGoals Q 7 [(0, .ref 49), (1, .int a1)] [] σ := by
  refine J_iload_n (i := 1) (kk := 1) dX1_listGoals_7 rfl rfl ?_
  refine J_bipush (v := 12) dX1_listGoals_8 (by decide) ?_
  refine J_icmp_ge 66 dX1_listGoals_10 (by decide) (fun hc => ?_) (fun hc => ?_)
  · replace h := h.1 hc
    exact J_vret rfl dX1_listGoals_66 h
  · replace h := h.2 hc
    refine J_iconst (v := 0) dX1_listGoals_13 (by decide) ?_
    refine J_istore_n (i := 2) (lv' := [(2, .int (0)), (0, .ref 49), (1, .int a1)]) dX1_listGoals_14 rfl (by decide) rfl ?_
    refine J_sub [1, 2, 0] rfl ?_
    exact h
set_option maxHeartbeats 4000000 in
set_option maxRecDepth 100000 in
theorem w_X1_listGoals_0 {Γ : GG} {l : Launch} {d : Nat} {Q : Option Value → St → Prop} {σ : St}  (h : J Γ l d mX1_listGoals Q 7 [(0, .ref 49), (1, .int (0))] [] (wr σ 49 5 (0 : Int32))) : J Γ l d mX1_listGoals Q 0 [(0, .ref 49)] [] σ := by
  refine J_aload_n (i := 0) (kk := 0) dX1_listGoals_0 rfl rfl ?_
  refine J_iconst (v := 0) dX1_listGoals_1 (by decide) ?_
  refine J_putf (q := 49) (ci := 1) (kf := 5) (ty := .int) kfX1_28 uxX1 tyX1_ok nmX1 rfl (by decide) rfl (by decide) rfl rfl rfl rfl rfl dX1_listGoals_2 ?_
  refine J_iconst (v := 0) dX1_listGoals_5 (by decide) ?_
  refine J_istore_n (i := 1) (lv' := [(1, .int (0)), (0, .ref 49)]) dX1_listGoals_6 rfl (by decide) rfl ?_
  refine J_sub [1, 0] rfl ?_
  exact h
theorem M_X1_listGoals {Γ : GG} {l : Launch} {d : Nat} {Q : Option Value → St → Prop} {σ : St}  (k : J Γ l d mX1_listGoals Q 0 [(0, .ref 49)] [] σ) : Meth Γ l d mX1_listGoals [.ref 49] σ Q := Meth_of_J (by decide +kernel) (fun _ => Nat.le_of_ble_eq_true rfl) (fun _ => rfl) k
set_option maxHeartbeats 4000000 in
set_option maxRecDepth 100000 in
theorem w_X1_sendOne_16 {Γ : GG} {l : Launch} {d : Nat} {Q : Option Value → St → Prop} {σ : St} (a1 : Int32) (a3 : Int32) (a4 : Int32) (h : (rd σ 49 5 ≤ a4 → ∀ x1 : Int32, x1 = a3 + (-1) → J Γ l (d + 2) mX1_sendOne Q 9 [(0, .ref 49), (1, .int a1), (2, .ref 5), (3, .int x1)] [] σ) ∧ (¬ rd σ 49 5 ≤ a4 → ((a3 >>> (a4 &&& 31)) &&& (1 : Int32) = (1 : Int32) → vp_in a4 6 ∧ (rd σ 52 (a4.toNatClampNeg) = a1 → ∀ x4 : Int32, x4 = a4 + 1 → J Γ l (d + 2) mX1_sendOne Q 16 [(0, .ref 49), (1, .int a1), (2, .ref 5), (3, .int a3), (4, .int x4)] [] σ) ∧ (¬ rd σ 52 (a4.toNatClampNeg) = a1 → Meth Γ l (d + 1) mX7_milesTo [.ref 5, .int a1, .ref 5, .int (rd σ 52 (a4.toNatClampNeg))] σ (KI (fun x6 σ5 => ∀ x7 : Int64, x7 = (x6.toInt64 <<< ((24 : Int32).toInt64 &&& 63)) + (a1.toInt64 <<< (((4 : Int32) * ((5 : Int32) - a4)).toInt64 &&& 63)) → vp_in a3 64 ∧ vp_in (a3 ^^^ ((1 : Int32) <<< (a4 &&& 31))) 64 ∧ ∀ x10 : Int32, x10 = a4 + 1 → J Γ l (d + 2) mX1_sendOne Q 16 [(0, .ref 49), (1, .int a1), (2, .ref 5), (3, .int a3), (4, .int x10)] [] (wl σ5 54 (a3.toNatClampNeg) (mnL (rl σ5 54 (a3.toNatClampNeg)) ((rl σ5 54 ((a3 ^^^ ((1 : Int32) <<< (a4 &&& 31))).toNatClampNeg)) + x7))))))) ∧ (¬ (a3 >>> (a4 &&& 31)) &&& (1 : Int32) = (1 : Int32) → ∀ x2 : Int32, x2 = a4 + 1 → J Γ l (d + 2) mX1_sendOne Q 16 [(0, .ref 49), (1, .int a1), (2, .ref 5), (3, .int a3), (4, .int x2)] [] σ))) : J Γ l (d + 2) mX1_sendOne Q 16 [(0, .ref 49), (1, .int a1), (2, .ref 5), (3, .int a3), (4, .int a4)] [] σ := by
  refine J_iload (i := 4) (kk := 4) dX1_sendOne_16 rfl ?_
  refine J_aload_n (i := 0) (kk := 0) dX1_sendOne_18 rfl rfl ?_
  refine J_getI (q := 49) (ci := 1) (kf := 5) kfX1_28 uxX1 rfl (by decide) rfl (by decide) rfl dX1_sendOne_19 ?_
  refine J_icmp_ge 113 dX1_sendOne_22 (by decide) (fun hc => ?_) (fun hc => ?_)
  · replace h := h.1 hc
    obtain ⟨x1, ex1⟩ : ∃ y : Int32, y = a3 + (-1) := ⟨_, rfl⟩
    replace h := h x1 ex1
    refine J_iinc (i := 3) (kk := 3) (v := x1) (lv' := [(3, .int x1), (0, .ref 49), (1, .int a1), (2, .ref 5), (4, .int a4)]) dX1_sendOne_113 rfl (by rw [ex1]; rfl) (by decide) rfl ?_
    refine J_goto (tgt := 9) dX1_sendOne_116 (by decide) ?_
    refine J_sub [1, 2, 3, 0] rfl ?_
    exact h
  · replace h := h.2 hc
    refine J_iload_n (i := 3) (kk := 3) dX1_sendOne_25 rfl rfl ?_
    refine J_iload (i := 4) (kk := 4) dX1_sendOne_26 rfl ?_
    refine J_ishr dX1_sendOne_28 ?_
    refine J_iconst (v := 1) dX1_sendOne_29 (by decide) ?_
    refine J_iand dX1_sendOne_30 ?_
    refine J_iconst (v := 1) dX1_sendOne_31 (by decide) ?_
    refine J_icmp_ne 107 dX1_sendOne_32 (by decide) (fun hc => ?_) (fun hc => ?_)
    · replace h := h.2 hc
      obtain ⟨x2, ex2⟩ : ∃ y : Int32, y = a4 + 1 := ⟨_, rfl⟩
      replace h := h x2 ex2
      refine J_iinc (i := 4) (kk := 4) (v := x2) (lv' := [(4, .int x2), (0, .ref 49), (1, .int a1), (2, .ref 5), (3, .int a3)]) dX1_sendOne_107 rfl (by rw [ex2]; rfl) (by decide) rfl ?_
      refine J_goto (tgt := 16) dX1_sendOne_110 (by decide) ?_
      refine J_sub [1, 2, 3, 4, 0] rfl ?_
      exact h
    · replace h := h.1 hc
      refine J_aload_n (i := 0) (kk := 0) dX1_sendOne_35 rfl rfl ?_
      refine J_getR 52 (q := 49) (ci := 1) (kf := 2) kfX1_18 uxX1 rfl (by decide) rfl (by decide) rfl dX1_sendOne_36 ?_
      refine J_iload (i := 4) (kk := 4) dX1_sendOne_39 rfl ?_
      have b3 := h.1
      replace h := h.2
      refine J_ald (a4.toNatClampNeg) rfl (by decide) rfl b3 dX1_sendOne_41 ?_
      refine J_iload_n (i := 1) (kk := 1) dX1_sendOne_42 rfl rfl ?_
      refine J_icmp_eq 107 dX1_sendOne_43 (by decide) (fun hc => ?_) (fun hc => ?_)
      · replace h := h.1 hc
        obtain ⟨x4, ex4⟩ : ∃ y : Int32, y = a4 + 1 := ⟨_, rfl⟩
        replace h := h x4 ex4
        refine J_iinc (i := 4) (kk := 4) (v := x4) (lv' := [(4, .int x4), (0, .ref 49), (1, .int a1), (2, .ref 5), (3, .int a3)]) dX1_sendOne_107 rfl (by rw [ex4]; rfl) (by decide) rfl ?_
        refine J_goto (tgt := 16) dX1_sendOne_110 (by decide) ?_
        refine J_sub [1, 2, 3, 4, 0] rfl ?_
        exact h
      · replace h := h.2 hc
        refine J_aload_n (i := 2) (kk := 2) dX1_sendOne_46 rfl rfl ?_
        refine J_iload_n (i := 1) (kk := 1) dX1_sendOne_47 rfl rfl ?_
        refine J_aload_n (i := 2) (kk := 2) dX1_sendOne_48 rfl rfl ?_
        refine J_aload_n (i := 0) (kk := 0) dX1_sendOne_49 rfl rfl ?_
        refine J_getR 52 (q := 49) (ci := 1) (kf := 2) kfX1_18 uxX1 rfl (by decide) rfl (by decide) rfl dX1_sendOne_50 ?_
        refine J_iload (i := 4) (kk := 4) dX1_sendOne_53 rfl ?_
        refine J_ald (a4.toNatClampNeg) rfl (by decide) rfl b3 dX1_sendOne_55 ?_
        refine J_callV [.int a1, .ref 5, .int (rd σ 52 (a4.toNatClampNeg))] [] calX7_milesTo klX1_58 (b := 5) (ci := 7) (by decide) rfl rfl rfl rfl (Nat.le_of_ble_eq_true rfl) dX1_sendOne_56 (KI.to h ?_)
        clear h
        intro x6 σ5 h
        refine J_i2l dX1_sendOne_59 ?_
        refine J_lstore (i := 5) (lv' := [(5, .long x6.toInt64), (0, .ref 49), (1, .int a1), (2, .ref 5), (3, .int a3), (4, .int a4)]) dX1_sendOne_60 (by decide) rfl ?_
        refine J_lload (i := 5) (kk := 0) dX1_sendOne_62 rfl ?_
        refine J_bipush (v := 24) dX1_sendOne_64 (by decide) ?_
        refine J_lshl dX1_sendOne_66 ?_
        refine J_iload_n (i := 1) (kk := 2) dX1_sendOne_67 rfl rfl ?_
        refine J_i2l dX1_sendOne_68 ?_
        refine J_iload (i := 4) (kk := 5) dX1_sendOne_69 rfl ?_
        refine J_callS [.int a4] [.long a1.toInt64, .long (x6.toInt64 <<< ((24 : Int32).toInt64 &&& 63))] calX1_shiftOf klX1_54 rfl rfl (Nat.le_of_ble_eq_true rfl) dX1_sendOne_71 (KI.to (S_X1_shiftOf a4) ?_)
        rintro x9 s9 ⟨rfl, rfl⟩
        refine J_lshl dX1_sendOne_74 ?_
        refine J_ladd dX1_sendOne_75 ?_
        refine J_nameL (fun x7 ex7 => ?_)
        replace h := h x7 ex7
        refine J_lstore (i := 7) (lv' := [(7, .long x7), (5, .long x6.toInt64), (0, .ref 49), (1, .int a1), (2, .ref 5), (3, .int a3), (4, .int a4)]) dX1_sendOne_76 (by decide) rfl ?_
        refine J_aload_n (i := 0) (kk := 2) dX1_sendOne_78 rfl rfl ?_
        refine J_getR 54 (q := 49) (ci := 1) (kf := 4) kfX1_24 uxX1 rfl (by decide) rfl (by decide) rfl dX1_sendOne_79 ?_
        refine J_iload_n (i := 3) (kk := 5) dX1_sendOne_82 rfl rfl ?_
        refine J_aload_n (i := 0) (kk := 2) dX1_sendOne_83 rfl rfl ?_
        refine J_getR 54 (q := 49) (ci := 1) (kf := 4) kfX1_24 uxX1 rfl (by decide) rfl (by decide) rfl dX1_sendOne_84 ?_
        refine J_iload_n (i := 3) (kk := 5) dX1_sendOne_87 rfl rfl ?_
        have b8 := h.1
        replace h := h.2
        refine J_lald2 (a3.toNatClampNeg) rfl (by decide) rfl b8 dX1_sendOne_88 ?_
        refine J_aload_n (i := 0) (kk := 2) dX1_sendOne_89 rfl rfl ?_
        refine J_getR 54 (q := 49) (ci := 1) (kf := 4) kfX1_24 uxX1 rfl (by decide) rfl (by decide) rfl dX1_sendOne_90 ?_
        refine J_iload_n (i := 3) (kk := 5) dX1_sendOne_93 rfl rfl ?_
        refine J_iconst (v := 1) dX1_sendOne_94 (by decide) ?_
        refine J_iload (i := 4) (kk := 6) dX1_sendOne_95 rfl ?_
        refine J_ishl dX1_sendOne_97 ?_
        refine J_ixor dX1_sendOne_98 ?_
        have b9 := h.1
        replace h := h.2
        refine J_lald2 ((a3 ^^^ ((1 : Int32) <<< (a4 &&& 31))).toNatClampNeg) rfl (by decide) rfl b9 dX1_sendOne_99 ?_
        refine J_lload (i := 7) (kk := 0) dX1_sendOne_100 rfl ?_
        refine J_ladd dX1_sendOne_102 ?_
        refine J_mminL klX1_62 (Nat.le_of_ble_eq_true rfl) dX1_sendOne_103 ?_
        refine J_last2 (a3.toNatClampNeg) rfl (by decide) rfl b8 dX1_sendOne_106 ?_
        obtain ⟨x10, ex10⟩ : ∃ y : Int32, y = a4 + 1 := ⟨_, rfl⟩
        replace h := h x10 ex10
        refine J_iinc (i := 4) (kk := 6) (v := x10) (lv' := [(4, .int x10), (7, .long x7), (5, .long x6.toInt64), (0, .ref 49), (1, .int a1), (2, .ref 5), (3, .int a3)]) dX1_sendOne_107 rfl (by rw [ex10]; rfl) (by decide) rfl ?_
        refine J_goto (tgt := 16) dX1_sendOne_110 (by decide) ?_
        refine J_sub [3, 4, 5, 6, 0] rfl ?_
        exact h
set_option maxHeartbeats 4000000 in
set_option maxRecDepth 100000 in
theorem w_X1_sendOne_9 {Γ : GG} {l : Launch} {d : Nat} {Q : Option Value → St → Prop} {σ : St} (a1 : Int32) (a3 : Int32) (h : (a3 ≤ (0 : Int32) → Q none σ) ∧ (¬ a3 ≤ (0 : Int32) → J Γ l (d + 2) mX1_sendOne Q 16 [(0, .ref 49), (1, .int a1), (2, .ref 5), (3, .int a3), (4, .int (0))] [] σ)) : J Γ l (d + 2) mX1_sendOne Q 9 [(0, .ref 49), (1, .int a1), (2, .ref 5), (3, .int a3)] [] σ := by
  refine J_iload_n (i := 3) (kk := 3) dX1_sendOne_9 rfl rfl ?_
  refine J_if_le 119 dX1_sendOne_10 (by decide) (fun hc => ?_) (fun hc => ?_)
  · replace h := h.1 hc
    exact J_vret rfl dX1_sendOne_119 h
  · replace h := h.2 hc
    refine J_iconst (v := 0) dX1_sendOne_13 (by decide) ?_
    refine J_istore (i := 4) (lv' := [(4, .int (0)), (0, .ref 49), (1, .int a1), (2, .ref 5), (3, .int a3)]) dX1_sendOne_14 (by decide) rfl ?_
    refine J_sub [1, 2, 3, 4, 0] rfl ?_
    exact h
set_option maxHeartbeats 4000000 in
set_option maxRecDepth 100000 in
theorem w_X1_sendOne_0 {Γ : GG} {l : Launch} {d : Nat} {Q : Option Value → St → Prop} {σ : St} (a1 : Int32) (h : ∀ x1 : Int32, x1 = ((1 : Int32) <<< (rd σ 49 5 &&& 31)) - (1 : Int32) → J Γ l (d + 2) mX1_sendOne Q 9 [(0, .ref 49), (1, .int a1), (2, .ref 5), (3, .int x1)] [] σ) : J Γ l (d + 2) mX1_sendOne Q 0 [(0, .ref 49), (1, .int a1), (2, .ref 5)] [] σ := by
  refine J_iconst (v := 1) dX1_sendOne_0 (by decide) ?_
  refine J_aload_n (i := 0) (kk := 0) dX1_sendOne_1 rfl rfl ?_
  refine J_getI (q := 49) (ci := 1) (kf := 5) kfX1_28 uxX1 rfl (by decide) rfl (by decide) rfl dX1_sendOne_2 ?_
  refine J_ishl dX1_sendOne_5 ?_
  refine J_iconst (v := 1) dX1_sendOne_6 (by decide) ?_
  refine J_isub dX1_sendOne_7 ?_
  refine J_nameI (fun x1 ex1 => ?_)
  replace h := h x1 ex1
  refine J_istore_n (i := 3) (lv' := [(3, .int x1), (0, .ref 49), (1, .int a1), (2, .ref 5)]) dX1_sendOne_8 rfl (by decide) rfl ?_
  refine J_sub [1, 2, 3, 0] rfl ?_
  exact h
theorem M_X1_sendOne {Γ : GG} {l : Launch} {d : Nat} {Q : Option Value → St → Prop} {σ : St} (a1 : Int32) (k : J Γ l (d + 2) mX1_sendOne Q 0 [(0, .ref 49), (1, .int a1), (2, .ref 5)] [] σ) : Meth Γ l (d + 2) mX1_sendOne [.ref 49, .int a1, .ref 5] σ Q := Meth_of_J (by decide +kernel) (fun _ => Nat.le_of_ble_eq_true rfl) (fun _ => rfl) k
set_option maxHeartbeats 4000000 in
set_option maxRecDepth 100000 in
theorem w_X1_bestOfAll_27 {Γ : GG} {l : Launch} {d : Nat} {Q : Option Value → St → Prop} {σ : St} (a1 : Int64) (a3 : Int32) (a4 : Int64) (a6 : Int32) (h : (rd σ 49 5 ≤ a6 → ∀ x1 : Int32, x1 = a3 + 1 → J Γ l (d + 1) mX1_bestOfAll Q 6 [(0, .ref 49), (1, .long (mnL a1 a4)), (3, .int x1)] [] σ) ∧ (¬ rd σ 49 5 ≤ a6 → ((a3 >>> (a6 &&& 31)) &&& (1 : Int32) = (0 : Int32) → ∀ x3 : Int64, x3 = a4 + ((34359738368 : Int64) + ((15 : Int64) <<< (((4 : Int32) * ((5 : Int32) - a6)).toInt64 &&& 63))) → ∀ x4 : Int32, x4 = a6 + 1 → J Γ l (d + 1) mX1_bestOfAll Q 27 [(0, .ref 49), (1, .long a1), (3, .int a3), (4, .long x3), (6, .int x4)] [] σ) ∧ (¬ (a3 >>> (a6 &&& 31)) &&& (1 : Int32) = (0 : Int32) → ∀ x2 : Int32, x2 = a6 + 1 → J Γ l (d + 1) mX1_bestOfAll Q 27 [(0, .ref 49), (1, .long a1), (3, .int a3), (4, .long a4), (6, .int x2)] [] σ))) : J Γ l (d + 1) mX1_bestOfAll Q 27 [(0, .ref 49), (1, .long a1), (3, .int a3), (4, .long a4), (6, .int a6)] [] σ := by
  refine J_iload (i := 6) (kk := 4) dX1_bestOfAll_27 rfl ?_
  refine J_aload_n (i := 0) (kk := 0) dX1_bestOfAll_29 rfl rfl ?_
  refine J_getI (q := 49) (ci := 1) (kf := 5) kfX1_28 uxX1 rfl (by decide) rfl (by decide) rfl dX1_bestOfAll_30 ?_
  refine J_icmp_ge 69 dX1_bestOfAll_33 (by decide) (fun hc => ?_) (fun hc => ?_)
  · replace h := h.1 hc
    refine J_lload_n (i := 1) (kk := 1) dX1_bestOfAll_69 rfl rfl ?_
    refine J_lload (i := 4) (kk := 3) dX1_bestOfAll_70 rfl ?_
    refine J_mminL klX1_62 (Nat.le_of_ble_eq_true rfl) dX1_bestOfAll_72 ?_
    refine J_lstore_n (i := 1) (lv' := [(1, .long (mnL a1 a4)), (0, .ref 49), (3, .int a3), (4, .long a4), (6, .int a6)]) dX1_bestOfAll_75 rfl (by decide) rfl ?_
    obtain ⟨x1, ex1⟩ : ∃ y : Int32, y = a3 + 1 := ⟨_, rfl⟩
    replace h := h x1 ex1
    refine J_iinc (i := 3) (kk := 2) (v := x1) (lv' := [(3, .int x1), (1, .long (mnL a1 a4)), (0, .ref 49), (4, .long a4), (6, .int a6)]) dX1_bestOfAll_76 rfl (by rw [ex1]; rfl) (by decide) rfl ?_
    refine J_goto (tgt := 6) dX1_bestOfAll_79 (by decide) ?_
    refine J_sub [2, 1, 0] rfl ?_
    exact h
  · replace h := h.2 hc
    refine J_iload_n (i := 3) (kk := 2) dX1_bestOfAll_36 rfl rfl ?_
    refine J_iload (i := 6) (kk := 4) dX1_bestOfAll_37 rfl ?_
    refine J_ishr dX1_bestOfAll_39 ?_
    refine J_iconst (v := 1) dX1_bestOfAll_40 (by decide) ?_
    refine J_iand dX1_bestOfAll_41 ?_
    refine J_if_ne 63 dX1_bestOfAll_42 (by decide) (fun hc => ?_) (fun hc => ?_)
    · replace h := h.2 hc
      obtain ⟨x2, ex2⟩ : ∃ y : Int32, y = a6 + 1 := ⟨_, rfl⟩
      replace h := h x2 ex2
      refine J_iinc (i := 6) (kk := 4) (v := x2) (lv' := [(6, .int x2), (0, .ref 49), (1, .long a1), (3, .int a3), (4, .long a4)]) dX1_bestOfAll_63 rfl (by rw [ex2]; rfl) (by decide) rfl ?_
      refine J_goto (tgt := 27) dX1_bestOfAll_66 (by decide) ?_
      refine J_sub [1, 2, 3, 4, 0] rfl ?_
      exact h
    · replace h := h.1 hc
      refine J_lload (i := 4) (kk := 3) dX1_bestOfAll_45 rfl ?_
      refine J_ldc2 (v := 34359738368) kqX1_68 dX1_bestOfAll_47 ?_
      refine J_ldc2 (v := 15) kqX1_70 dX1_bestOfAll_50 ?_
      refine J_iload (i := 6) (kk := 4) dX1_bestOfAll_53 rfl ?_
      refine J_callS [.int a6] [.long 15, .long 34359738368, .long a4] calX1_shiftOf klX1_54 rfl rfl (Nat.le_of_ble_eq_true rfl) dX1_bestOfAll_55 (KI.to (S_X1_shiftOf a6) ?_)
      rintro x9 s9 ⟨rfl, rfl⟩
      refine J_lshl dX1_bestOfAll_58 ?_
      refine J_ladd dX1_bestOfAll_59 ?_
      refine J_ladd dX1_bestOfAll_60 ?_
      refine J_nameL (fun x3 ex3 => ?_)
      replace h := h x3 ex3
      refine J_lstore (i := 4) (lv' := [(4, .long x3), (0, .ref 49), (1, .long a1), (3, .int a3), (6, .int a6)]) dX1_bestOfAll_61 (by decide) rfl ?_
      obtain ⟨x4, ex4⟩ : ∃ y : Int32, y = a6 + 1 := ⟨_, rfl⟩
      replace h := h x4 ex4
      refine J_iinc (i := 6) (kk := 4) (v := x4) (lv' := [(6, .int x4), (4, .long x3), (0, .ref 49), (1, .long a1), (3, .int a3)]) dX1_bestOfAll_63 rfl (by rw [ex4]; rfl) (by decide) rfl ?_
      refine J_goto (tgt := 27) dX1_bestOfAll_66 (by decide) ?_
      refine J_sub [2, 3, 4, 1, 0] rfl ?_
      exact h
set_option maxHeartbeats 4000000 in
set_option maxRecDepth 100000 in
theorem w_X1_bestOfAll_6 {Γ : GG} {l : Launch} {d : Nat} {Q : Option Value → St → Prop} {σ : St} (a1 : Int64) (a3 : Int32) (h : ((1 : Int32) <<< (rd σ 49 5 &&& 31) ≤ a3 → Q (some (.long a1)) σ) ∧ (¬ (1 : Int32) <<< (rd σ 49 5 &&& 31) ≤ a3 → vp_in a3 64 ∧ J Γ l (d + 1) mX1_bestOfAll Q 27 [(0, .ref 49), (1, .long a1), (3, .int a3), (4, .long (rl σ 54 (a3.toNatClampNeg))), (6, .int (0))] [] σ)) : J Γ l (d + 1) mX1_bestOfAll Q 6 [(0, .ref 49), (1, .long a1), (3, .int a3)] [] σ := by
  refine J_iload_n (i := 3) (kk := 2) dX1_bestOfAll_6 rfl rfl ?_
  refine J_iconst (v := 1) dX1_bestOfAll_7 (by decide) ?_
  refine J_aload_n (i := 0) (kk := 0) dX1_bestOfAll_8 rfl rfl ?_
  refine J_getI (q := 49) (ci := 1) (kf := 5) kfX1_28 uxX1 rfl (by decide) rfl (by decide) rfl dX1_bestOfAll_9 ?_
  refine J_ishl dX1_bestOfAll_12 ?_
  refine J_icmp_ge 82 dX1_bestOfAll_13 (by decide) (fun hc => ?_) (fun hc => ?_)
  · replace h := h.1 hc
    refine J_lload_n (i := 1) (kk := 1) dX1_bestOfAll_82 rfl rfl ?_
    exact J_lret rfl dX1_bestOfAll_83 h
  · replace h := h.2 hc
    refine J_aload_n (i := 0) (kk := 0) dX1_bestOfAll_16 rfl rfl ?_
    refine J_getR 54 (q := 49) (ci := 1) (kf := 4) kfX1_24 uxX1 rfl (by decide) rfl (by decide) rfl dX1_bestOfAll_17 ?_
    refine J_iload_n (i := 3) (kk := 2) dX1_bestOfAll_20 rfl rfl ?_
    have b1 := h.1
    replace h := h.2
    refine J_lald2 (a3.toNatClampNeg) rfl (by decide) rfl b1 dX1_bestOfAll_21 ?_
    refine J_lstore (i := 4) (lv' := [(4, .long (rl σ 54 (a3.toNatClampNeg))), (0, .ref 49), (1, .long a1), (3, .int a3)]) dX1_bestOfAll_22 (by decide) rfl ?_
    refine J_iconst (v := 0) dX1_bestOfAll_24 (by decide) ?_
    refine J_istore (i := 6) (lv' := [(6, .int (0)), (4, .long (rl σ 54 (a3.toNatClampNeg))), (0, .ref 49), (1, .long a1), (3, .int a3)]) dX1_bestOfAll_25 (by decide) rfl ?_
    refine J_sub [2, 3, 4, 1, 0] rfl ?_
    exact h
set_option maxHeartbeats 4000000 in
set_option maxRecDepth 100000 in
theorem w_X1_bestOfAll_0 {Γ : GG} {l : Launch} {d : Nat} {Q : Option Value → St → Prop} {σ : St}  (h : J Γ l (d + 1) mX1_bestOfAll Q 6 [(0, .ref 49), (1, .long 1152921504606846976), (3, .int (0))] [] σ) : J Γ l (d + 1) mX1_bestOfAll Q 0 [(0, .ref 49)] [] σ := by
  refine J_ldc2 (v := 1152921504606846976) kqX1_35 dX1_bestOfAll_0 ?_
  refine J_lstore_n (i := 1) (lv' := [(1, .long 1152921504606846976), (0, .ref 49)]) dX1_bestOfAll_3 rfl (by decide) rfl ?_
  refine J_iconst (v := 0) dX1_bestOfAll_4 (by decide) ?_
  refine J_istore_n (i := 3) (lv' := [(3, .int (0)), (1, .long 1152921504606846976), (0, .ref 49)]) dX1_bestOfAll_5 rfl (by decide) rfl ?_
  refine J_sub [2, 1, 0] rfl ?_
  exact h
theorem M_X1_bestOfAll {Γ : GG} {l : Launch} {d : Nat} {Q : Option Value → St → Prop} {σ : St}  (k : J Γ l (d + 1) mX1_bestOfAll Q 0 [(0, .ref 49)] [] σ) : Meth Γ l (d + 1) mX1_bestOfAll [.ref 49] σ Q := Meth_of_J (by decide +kernel) (fun _ => Nat.le_of_ble_eq_true rfl) (fun _ => rfl) k
set_option maxHeartbeats 4000000 in
set_option maxRecDepth 100000 in
theorem w_X2_search_83 {Γ : GG} {l : Launch} {d : Nat} {Q : Option Value → St → Prop} {σ : St} (a3 : Int32) (a4 : Int32) (a5 : Int32) (a8 : Int32) (a9 : Int32) (a10 : Int64) (h : ∀ σ1 : St, σ1 = cpy (wr (wr σ 44 4 (1 : Int32)) 44 6 a9) 47 48 14 → Meth Γ l (d + 1) mX2_stepOn [.ref 44, .int a5] σ1 (KI (fun x3 σ2 => (x3 = (0 : Int32) → Q (some (.int a10.toInt32)) σ2) ∧ (¬ x3 = (0 : Int32) → ∀ x4 : Int32, x4 = a8 + 1 → J Γ l (d + 2) mX2_search Q 34 [(0, .ref 44), (3, .int a3), (4, .int a4), (5, .int a5), (6, .long a10), (8, .int x4)] [] σ2)))) : J Γ l (d + 2) mX2_search Q 83 [(0, .ref 44), (3, .int a3), (4, .int a4), (5, .int a5), (8, .int a8), (9, .int a9), (10, .long a10)] [] σ := by
  refine J_aload_n (i := 0) (kk := 0) dX2_search_83 rfl rfl ?_
  refine J_iconst (v := 1) dX2_search_84 (by decide) ?_
  refine J_putf (q := 44) (ci := 2) (kf := 4) (ty := .boolean) kfX2_26 uxX2 tyX2_ok nmX2 rfl (by decide) rfl (by decide) rfl rfl rfl rfl rfl dX2_search_85 ?_
  refine J_lload (i := 10) (kk := 6) dX2_search_88 rfl ?_
  refine J_lstore (i := 6) (lv' := [(6, .long a10), (0, .ref 44), (3, .int a3), (4, .int a4), (5, .int a5), (8, .int a8), (9, .int a9), (10, .long a10)]) dX2_search_90 (by decide) rfl ?_
  refine J_aload_n (i := 0) (kk := 1) dX2_search_92 rfl rfl ?_
  refine J_iload (i := 9) (kk := 6) dX2_search_93 rfl ?_
  refine J_putf (q := 44) (ci := 2) (kf := 6) (ty := .int) kfX2_34 uxX2 tyX2_ok nmX2 rfl (by decide) rfl (by decide) rfl rfl rfl rfl rfl dX2_search_95 ?_
  refine J_aload_n (i := 0) (kk := 1) dX2_search_98 rfl rfl ?_
  refine J_getR 47 (q := 44) (ci := 2) (kf := 2) kfX2_20 uxX2 rfl (by decide) rfl (by decide) rfl dX2_search_99 ?_
  refine J_iconst (v := 0) dX2_search_102 (by decide) ?_
  refine J_aload_n (i := 0) (kk := 1) dX2_search_103 rfl rfl ?_
  refine J_getR 48 (q := 44) (ci := 2) (kf := 3) kfX2_23 uxX2 rfl (by decide) rfl (by decide) rfl dX2_search_104 ?_
  refine J_iconst (v := 0) dX2_search_107 (by decide) ?_
  refine J_bipush (v := 14) dX2_search_108 (by decide) ?_
  obtain ⟨σ1, eσ1⟩ : ∃ y : St, y = cpy (wr (wr σ 44 4 (1 : Int32)) 44 6 a9) 47 48 14 := ⟨_, rfl⟩
  replace h := h σ1 eσ1
  refine J_copy (q0 := 47) (q1 := 48) (N := 14) klX2_56 (by decide) (by decide) rfl rfl (by decide) (by decide) (by decide) (by decide) (Nat.le_of_ble_eq_true rfl) dX2_search_110 ?_
  refine J_sig eσ1 ?_
  refine J_aload_n (i := 0) (kk := 1) dX2_search_113 rfl rfl ?_
  refine J_iload (i := 5) (kk := 4) dX2_search_114 rfl ?_
  refine J_callV [.int a5] [] calX2_stepOn klX2_62 (b := 44) (ci := 2) (by decide) rfl rfl rfl rfl (Nat.le_of_ble_eq_true rfl) dX2_search_116 (KI.to h ?_)
  clear h
  intro x3 σ2 h
  refine J_if_ne 125 dX2_search_119 (by decide) (fun hc => ?_) (fun hc => ?_)
  · replace h := h.2 hc
    obtain ⟨x4, ex4⟩ : ∃ y : Int32, y = a8 + 1 := ⟨_, rfl⟩
    replace h := h x4 ex4
    refine J_iinc (i := 8) (kk := 5) (v := x4) (lv' := [(8, .int x4), (6, .long a10), (0, .ref 44), (3, .int a3), (4, .int a4), (5, .int a5), (9, .int a9), (10, .long a10)]) dX2_search_125 rfl (by rw [ex4]; rfl) (by decide) rfl ?_
    refine J_goto (tgt := 34) dX2_search_128 (by decide) ?_
    refine J_sub [2, 3, 4, 5, 1, 0] rfl ?_
    exact h
  · replace h := h.1 hc
    refine J_goto (tgt := 131) dX2_search_122 (by decide) ?_
    refine J_lload (i := 6) (kk := 0) dX2_search_131 rfl ?_
    refine J_l2i dX2_search_133 ?_
    exact J_iret rfl dX2_search_134 h
set_option maxHeartbeats 4000000 in
set_option maxRecDepth 100000 in
theorem w_X2_search_34 {Γ : GG} {l : Launch} {d : Nat} {Q : Option Value → St → Prop} {σ : St} (a3 : Int32) (a4 : Int32) (a5 : Int32) (a6 : Int64) (a8 : Int32) (h : ((680 : Int32) ≤ a8 → Q (some (.int a6.toInt32)) σ) ∧ (¬ (680 : Int32) ≤ a8 → Meth Γ l (d + 1) mX2_unsoldBy [.ref 44, .int a5, .int a3] σ (KI (fun x2 σ1 => Meth Γ l (d + 1) mX2_coinsBy [.ref 44, .int a5, .int a3] σ1 (KL (fun x4 σ3 => (rd σ3 44 4 = (0 : Int32) → J Γ l (d + 2) mX2_search Q 83 [(0, .ref 44), (3, .int a3), (4, .int a4), (5, .int a5), (8, .int a8), (9, .int x2), (10, .long (x4 - (x2.toInt64 * a4.toInt64)))] [] σ3) ∧ (¬ rd σ3 44 4 = (0 : Int32) → (lg_cmp (x4 - (x2.toInt64 * a4.toInt64)) a6 ≤ (0 : Int32) → Meth Γ l (d + 1) mX2_stepOn [.ref 44, .int a5] σ3 (KI (fun x6 σ5 => (x6 = (0 : Int32) → Q (some (.int a6.toInt32)) σ5) ∧ (¬ x6 = (0 : Int32) → ∀ x7 : Int32, x7 = a8 + 1 → J Γ l (d + 2) mX2_search Q 34 [(0, .ref 44), (3, .int a3), (4, .int a4), (5, .int a5), (6, .long a6), (8, .int x7)] [] σ5)))) ∧ (¬ lg_cmp (x4 - (x2.toInt64 * a4.toInt64)) a6 ≤ (0 : Int32) → J Γ l (d + 2) mX2_search Q 83 [(0, .ref 44), (3, .int a3), (4, .int a4), (5, .int a5), (8, .int a8), (9, .int x2), (10, .long (x4 - (x2.toInt64 * a4.toInt64)))] [] σ3)))))))) : J Γ l (d + 2) mX2_search Q 34 [(0, .ref 44), (3, .int a3), (4, .int a4), (5, .int a5), (6, .long a6), (8, .int a8)] [] σ := by
  refine J_iload (i := 8) (kk := 5) dX2_search_34 rfl ?_
  refine J_sipush (v := 680) dX2_search_36 (by decide) ?_
  refine J_icmp_ge 131 dX2_search_39 (by decide) (fun hc => ?_) (fun hc => ?_)
  · replace h := h.1 hc
    refine J_lload (i := 6) (kk := 4) dX2_search_131 rfl ?_
    refine J_l2i dX2_search_133 ?_
    exact J_iret rfl dX2_search_134 h
  · replace h := h.2 hc
    refine J_aload_n (i := 0) (kk := 0) dX2_search_42 rfl rfl ?_
    refine J_iload (i := 5) (kk := 3) dX2_search_43 rfl ?_
    refine J_iload_n (i := 3) (kk := 1) dX2_search_45 rfl rfl ?_
    refine J_callV [.int a5, .int a3] [] calX2_unsoldBy klX2_49 (b := 44) (ci := 2) (by decide) rfl rfl rfl rfl (Nat.le_of_ble_eq_true rfl) dX2_search_46 (KI.to h ?_)
    clear h
    intro x2 σ1 h
    refine J_istore (i := 9) (lv' := [(9, .int x2), (0, .ref 44), (3, .int a3), (4, .int a4), (5, .int a5), (6, .long a6), (8, .int a8)]) dX2_search_49 (by decide) rfl ?_
    refine J_aload_n (i := 0) (kk := 1) dX2_search_51 rfl rfl ?_
    refine J_iload (i := 5) (kk := 4) dX2_search_52 rfl ?_
    refine J_iload_n (i := 3) (kk := 2) dX2_search_54 rfl rfl ?_
    refine J_callV [.int a5, .int a3] [] calX2_coinsBy klX2_52 (b := 44) (ci := 2) (by decide) rfl rfl rfl rfl (Nat.le_of_ble_eq_true rfl) dX2_search_55 (KL.to h ?_)
    clear h
    intro x4 σ3 h
    refine J_iload (i := 9) (kk := 0) dX2_search_58 rfl ?_
    refine J_i2l dX2_search_60 ?_
    refine J_iload (i := 4) (kk := 3) dX2_search_61 rfl ?_
    refine J_i2l dX2_search_63 ?_
    refine J_lmul dX2_search_64 ?_
    refine J_lsub dX2_search_65 ?_
    refine J_lstore (i := 10) (lv' := [(10, .long (x4 - (x2.toInt64 * a4.toInt64))), (9, .int x2), (0, .ref 44), (3, .int a3), (4, .int a4), (5, .int a5), (6, .long a6), (8, .int a8)]) dX2_search_66 (by decide) rfl ?_
    refine J_aload_n (i := 0) (kk := 2) dX2_search_68 rfl rfl ?_
    refine J_getI (q := 44) (ci := 2) (kf := 4) kfX2_26 uxX2 rfl (by decide) rfl (by decide) rfl dX2_search_69 ?_
    refine J_if_eq 83 dX2_search_72 (by decide) (fun hc => ?_) (fun hc => ?_)
    · replace h := h.1 hc
      refine J_sub [2, 3, 4, 5, 7, 1, 0] rfl ?_
      exact h
    · replace h := h.2 hc
      refine J_lload (i := 10) (kk := 0) dX2_search_75 rfl ?_
      refine J_lload (i := 6) (kk := 6) dX2_search_77 rfl ?_
      refine J_lcmp dX2_search_79 ?_
      refine J_if_le 113 dX2_search_80 (by decide) (fun hc => ?_) (fun hc => ?_)
      · replace h := h.1 hc
        refine J_aload_n (i := 0) (kk := 2) dX2_search_113 rfl rfl ?_
        refine J_iload (i := 5) (kk := 5) dX2_search_114 rfl ?_
        refine J_callV [.int a5] [] calX2_stepOn klX2_62 (b := 44) (ci := 2) (by decide) rfl rfl rfl rfl (Nat.le_of_ble_eq_true rfl) dX2_search_116 (KI.to h ?_)
        clear h
        intro x6 σ5 h
        refine J_if_ne 125 dX2_search_119 (by decide) (fun hc => ?_) (fun hc => ?_)
        · replace h := h.2 hc
          obtain ⟨x7, ex7⟩ : ∃ y : Int32, y = a8 + 1 := ⟨_, rfl⟩
          replace h := h x7 ex7
          refine J_iinc (i := 8) (kk := 7) (v := x7) (lv' := [(8, .int x7), (10, .long (x4 - (x2.toInt64 * a4.toInt64))), (9, .int x2), (0, .ref 44), (3, .int a3), (4, .int a4), (5, .int a5), (6, .long a6)]) dX2_search_125 rfl (by rw [ex7]; rfl) (by decide) rfl ?_
          refine J_goto (tgt := 34) dX2_search_128 (by decide) ?_
          refine J_sub [3, 4, 5, 6, 7, 0] rfl ?_
          exact h
        · replace h := h.1 hc
          refine J_goto (tgt := 131) dX2_search_122 (by decide) ?_
          refine J_lload (i := 6) (kk := 6) dX2_search_131 rfl ?_
          refine J_l2i dX2_search_133 ?_
          exact J_iret rfl dX2_search_134 h
      · replace h := h.2 hc
        refine J_sub [2, 3, 4, 5, 7, 1, 0] rfl ?_
        exact h
set_option maxHeartbeats 4000000 in
set_option maxRecDepth 100000 in
theorem w_X2_search_0 {Γ : GG} {l : Launch} {d : Nat} {Q : Option Value → St → Prop} {σ : St} (a1 : Int32) (a2 : Int32) (a3 : Int32) (a4 : Int32) (h : ∀ x1 : Int32, x1 = mxI (0 : Int32) (a1 - (6 : Int32)) → Meth Γ l (d + 1) mJ7_fill_53178 [.ref 47, .int a2] (wr (wr σ 44 4 (0 : Int32)) 44 5 a1) (KV (fun σ2 => J Γ l (d + 2) mX2_search Q 34 [(0, .ref 44), (3, .int a3), (4, .int a4), (5, .int x1), (6, .long 0), (8, .int (0))] [] σ2))) : J Γ l (d + 2) mX2_search Q 0 [(0, .ref 44), (1, .int a1), (2, .int a2), (3, .int a3), (4, .int a4)] [] σ := by
  refine J_iconst (v := 0) dX2_search_0 (by decide) ?_
  refine J_iload_n (i := 1) (kk := 1) dX2_search_1 rfl rfl ?_
  refine J_bipush (v := 6) dX2_search_2 (by decide) ?_
  refine J_isub dX2_search_4 ?_
  refine J_mmax klX2_37 (Nat.le_of_ble_eq_true rfl) dX2_search_5 ?_
  refine J_nameI (fun x1 ex1 => ?_)
  replace h := h x1 ex1
  refine J_istore (i := 5) (lv' := [(5, .int x1), (0, .ref 44), (1, .int a1), (2, .int a2), (3, .int a3), (4, .int a4)]) dX2_search_8 (by decide) rfl ?_
  refine J_lconst (v := 0) dX2_search_10 (by decide) ?_
  refine J_lstore (i := 6) (lv' := [(6, .long 0), (5, .int x1), (0, .ref 44), (1, .int a1), (2, .int a2), (3, .int a3), (4, .int a4)]) dX2_search_11 (by decide) rfl ?_
  refine J_aload_n (i := 0) (kk := 2) dX2_search_13 rfl rfl ?_
  refine J_iconst (v := 0) dX2_search_14 (by decide) ?_
  refine J_putf (q := 44) (ci := 2) (kf := 4) (ty := .boolean) kfX2_26 uxX2 tyX2_ok nmX2 rfl (by decide) rfl (by decide) rfl rfl rfl rfl rfl dX2_search_15 ?_
  refine J_aload_n (i := 0) (kk := 2) dX2_search_18 rfl rfl ?_
  refine J_iload_n (i := 1) (kk := 3) dX2_search_19 rfl rfl ?_
  refine J_putf (q := 44) (ci := 2) (kf := 5) (ty := .int) kfX2_30 uxX2 tyX2_ok nmX2 rfl (by decide) rfl (by decide) rfl rfl rfl rfl rfl dX2_search_20 ?_
  refine J_aload_n (i := 0) (kk := 2) dX2_search_23 rfl rfl ?_
  refine J_getR 47 (q := 44) (ci := 2) (kf := 2) kfX2_20 uxX2 rfl (by decide) rfl (by decide) rfl dX2_search_24 ?_
  refine J_iload_n (i := 2) (kk := 4) dX2_search_27 rfl rfl ?_
  refine J_callS [.ref 47, .int a2] [] calJ7_fill_53178 klX2_43 rfl rfl (Nat.le_of_ble_eq_true rfl) dX2_search_28 (KV.to h ?_)
  clear h
  intro σ2 h
  refine J_iconst (v := 0) dX2_search_31 (by decide) ?_
  refine J_istore (i := 8) (lv' := [(8, .int (0)), (6, .long 0), (5, .int x1), (0, .ref 44), (1, .int a1), (2, .int a2), (3, .int a3), (4, .int a4)]) dX2_search_32 (by decide) rfl ?_
  refine J_sub [3, 6, 7, 2, 1, 0] rfl ?_
  exact h
theorem M_X2_search {Γ : GG} {l : Launch} {d : Nat} {Q : Option Value → St → Prop} {σ : St} (a1 : Int32) (a2 : Int32) (a3 : Int32) (a4 : Int32) (k : J Γ l (d + 2) mX2_search Q 0 [(0, .ref 44), (1, .int a1), (2, .int a2), (3, .int a3), (4, .int a4)] [] σ) : Meth Γ l (d + 2) mX2_search [.ref 44, .int a1, .int a2, .int a3, .int a4] σ Q := Meth_of_J (by decide +kernel) (fun _ => Nat.le_of_ble_eq_true rfl) (fun _ => rfl) k
set_option maxHeartbeats 4000000 in
set_option maxRecDepth 100000 in
theorem w_X2_coinsBy_8 {Γ : GG} {l : Launch} {d : Nat} {Q : Option Value → St → Prop} {σ : St} (a3 : Int64) (a5 : Int32) (a6 : Int32) (h : ((14 : Int32) ≤ a6 → Q (some (.long a3)) σ) ∧ (¬ (14 : Int32) ≤ a6 → vp_in a6 14 ∧ vp_in (rd σ 47 (a6.toNatClampNeg)) 4 ∧ ∀ x3 : Int32, x3 = mnI a5 (rd σ ((a6.toNatClampNeg) + 358) ((rd σ 47 (a6.toNatClampNeg)).toNatClampNeg)) → ∀ x4 : Int64, x4 = a3 + (x3.toInt64 * ((rd σ 46 ((rd σ 47 (a6.toNatClampNeg)).toNatClampNeg)).toInt64)) → ∀ x5 : Int32, x5 = a6 + 1 → J Γ l (d + 1) mX2_coinsBy Q 8 [(0, .ref 44), (3, .long x4), (5, .int (a5 - x3)), (6, .int x5)] [] σ)) : J Γ l (d + 1) mX2_coinsBy Q 8 [(0, .ref 44), (3, .long a3), (5, .int a5), (6, .int a6)] [] σ := by
  refine J_iload (i := 6) (kk := 3) dX2_coinsBy_8 rfl ?_
  refine J_bipush (v := 14) dX2_coinsBy_10 (by decide) ?_
  refine J_icmp_ge 70 dX2_coinsBy_12 (by decide) (fun hc => ?_) (fun hc => ?_)
  · replace h := h.1 hc
    refine J_lload_n (i := 3) (kk := 1) dX2_coinsBy_70 rfl rfl ?_
    exact J_lret rfl dX2_coinsBy_71 h
  · replace h := h.2 hc
    refine J_iload (i := 5) (kk := 2) dX2_coinsBy_15 rfl ?_
    refine J_aload_n (i := 0) (kk := 0) dX2_coinsBy_17 rfl rfl ?_
    refine J_getR 45 (q := 44) (ci := 2) (kf := 0) kfX2_11 uxX2 rfl (by decide) rfl (by decide) rfl dX2_coinsBy_18 ?_
    refine J_iload (i := 6) (kk := 3) dX2_coinsBy_21 rfl ?_
    have b1 := h.1
    replace h := h.2
    refine J_aald2 (a6.toNatClampNeg) rfl (by decide) rfl b1 dX2_coinsBy_23 ?_
    refine J_aload_n (i := 0) (kk := 0) dX2_coinsBy_24 rfl rfl ?_
    refine J_getR 47 (q := 44) (ci := 2) (kf := 2) kfX2_20 uxX2 rfl (by decide) rfl (by decide) rfl dX2_coinsBy_25 ?_
    refine J_iload (i := 6) (kk := 3) dX2_coinsBy_28 rfl ?_
    refine J_ald (a6.toNatClampNeg) rfl (by decide) rfl b1 dX2_coinsBy_30 ?_
    have b2 := h.1
    replace h := h.2
    refine J_ald ((rd σ 47 (a6.toNatClampNeg)).toNatClampNeg) rfl (nc_row358 (vp_lt b1)) (sk_row358 (vp_lt b1)) b2 dX2_coinsBy_31 ?_
    refine J_mmin klX2_66 (Nat.le_of_ble_eq_true rfl) dX2_coinsBy_32 ?_
    refine J_nameI (fun x3 ex3 => ?_)
    replace h := h x3 ex3
    refine J_istore (i := 7) (lv' := [(7, .int x3), (0, .ref 44), (3, .long a3), (5, .int a5), (6, .int a6)]) dX2_coinsBy_35 (by decide) rfl ?_
    refine J_lload_n (i := 3) (kk := 2) dX2_coinsBy_37 rfl rfl ?_
    refine J_iload (i := 7) (kk := 0) dX2_coinsBy_38 rfl ?_
    refine J_i2l dX2_coinsBy_40 ?_
    refine J_aload_n (i := 0) (kk := 1) dX2_coinsBy_41 rfl rfl ?_
    refine J_getR 46 (q := 44) (ci := 2) (kf := 1) kfX2_16 uxX2 rfl (by decide) rfl (by decide) rfl dX2_coinsBy_42 ?_
    refine J_aload_n (i := 0) (kk := 1) dX2_coinsBy_45 rfl rfl ?_
    refine J_getR 47 (q := 44) (ci := 2) (kf := 2) kfX2_20 uxX2 rfl (by decide) rfl (by decide) rfl dX2_coinsBy_46 ?_
    refine J_iload (i := 6) (kk := 4) dX2_coinsBy_49 rfl ?_
    refine J_ald (a6.toNatClampNeg) rfl (by decide) rfl b1 dX2_coinsBy_51 ?_
    refine J_ald ((rd σ 47 (a6.toNatClampNeg)).toNatClampNeg) rfl (by decide) rfl b2 dX2_coinsBy_52 ?_
    refine J_i2l dX2_coinsBy_53 ?_
    refine J_lmul dX2_coinsBy_54 ?_
    refine J_ladd dX2_coinsBy_55 ?_
    refine J_nameL (fun x4 ex4 => ?_)
    replace h := h x4 ex4
    refine J_lstore_n (i := 3) (lv' := [(3, .long x4), (7, .int x3), (0, .ref 44), (5, .int a5), (6, .int a6)]) dX2_coinsBy_56 rfl (by decide) rfl ?_
    refine J_iload (i := 5) (kk := 3) dX2_coinsBy_57 rfl ?_
    refine J_iload (i := 7) (kk := 1) dX2_coinsBy_59 rfl ?_
    refine J_isub dX2_coinsBy_61 ?_
    refine J_istore (i := 5) (lv' := [(5, .int (a5 - x3)), (3, .long x4), (7, .int x3), (0, .ref 44), (6, .int a6)]) dX2_coinsBy_62 (by decide) rfl ?_
    obtain ⟨x5, ex5⟩ : ∃ y : Int32, y = a6 + 1 := ⟨_, rfl⟩
    replace h := h x5 ex5
    refine J_iinc (i := 6) (kk := 4) (v := x5) (lv' := [(6, .int x5), (5, .int (a5 - x3)), (3, .long x4), (7, .int x3), (0, .ref 44)]) dX2_coinsBy_64 rfl (by rw [ex5]; rfl) (by decide) rfl ?_
    refine J_goto (tgt := 8) dX2_coinsBy_67 (by decide) ?_
    refine J_sub [4, 2, 1, 0] rfl ?_
    exact h
set_option maxHeartbeats 4000000 in
set_option maxRecDepth 100000 in
theorem w_X2_coinsBy_0 {Γ : GG} {l : Launch} {d : Nat} {Q : Option Value → St → Prop} {σ : St} (a1 : Int32) (a2 : Int32) (h : J Γ l (d + 1) mX2_coinsBy Q 8 [(0, .ref 44), (3, .long 0), (5, .int a2), (6, .int a1)] [] σ) : J Γ l (d + 1) mX2_coinsBy Q 0 [(0, .ref 44), (1, .int a1), (2, .int a2)] [] σ := by
  refine J_lconst (v := 0) dX2_coinsBy_0 (by decide) ?_
  refine J_lstore_n (i := 3) (lv' := [(3, .long 0), (0, .ref 44), (1, .int a1), (2, .int a2)]) dX2_coinsBy_1 rfl (by decide) rfl ?_
  refine J_iload_n (i := 2) (kk := 3) dX2_coinsBy_2 rfl rfl ?_
  refine J_istore (i := 5) (lv' := [(5, .int a2), (3, .long 0), (0, .ref 44), (1, .int a1), (2, .int a2)]) dX2_coinsBy_3 (by decide) rfl ?_
  refine J_iload_n (i := 1) (kk := 3) dX2_coinsBy_5 rfl rfl ?_
  refine J_istore (i := 6) (lv' := [(6, .int a1), (5, .int a2), (3, .long 0), (0, .ref 44), (1, .int a1), (2, .int a2)]) dX2_coinsBy_6 (by decide) rfl ?_
  refine J_sub [3, 2, 1, 0] rfl ?_
  exact h
theorem M_X2_coinsBy {Γ : GG} {l : Launch} {d : Nat} {Q : Option Value → St → Prop} {σ : St} (a1 : Int32) (a2 : Int32) (k : J Γ l (d + 1) mX2_coinsBy Q 0 [(0, .ref 44), (1, .int a1), (2, .int a2)] [] σ) : Meth Γ l (d + 1) mX2_coinsBy [.ref 44, .int a1, .int a2] σ Q := Meth_of_J (by decide +kernel) (fun _ => Nat.le_of_ble_eq_true rfl) (fun _ => rfl) k
set_option maxHeartbeats 4000000 in
set_option maxRecDepth 100000 in
theorem w_X2_unsoldBy_5 {Γ : GG} {l : Launch} {d : Nat} {Q : Option Value → St → Prop} {σ : St} (a3 : Int32) (a4 : Int32) (h : ((14 : Int32) ≤ a4 → Q (some (.int a3)) σ) ∧ (¬ (14 : Int32) ≤ a4 → vp_in a4 14 ∧ vp_in (rd σ 47 (a4.toNatClampNeg)) 4 ∧ ∀ x3 : Int32, x3 = a3 - (mnI a3 (rd σ ((a4.toNatClampNeg) + 358) ((rd σ 47 (a4.toNatClampNeg)).toNatClampNeg))) → ∀ x4 : Int32, x4 = a4 + 1 → J Γ l (d + 1) mX2_unsoldBy Q 5 [(0, .ref 44), (3, .int x3), (4, .int x4)] [] σ)) : J Γ l (d + 1) mX2_unsoldBy Q 5 [(0, .ref 44), (3, .int a3), (4, .int a4)] [] σ := by
  refine J_iload (i := 4) (kk := 2) dX2_unsoldBy_5 rfl ?_
  refine J_bipush (v := 14) dX2_unsoldBy_7 (by decide) ?_
  refine J_icmp_ge 40 dX2_unsoldBy_9 (by decide) (fun hc => ?_) (fun hc => ?_)
  · replace h := h.1 hc
    refine J_iload_n (i := 3) (kk := 1) dX2_unsoldBy_40 rfl rfl ?_
    exact J_iret rfl dX2_unsoldBy_41 h
  · replace h := h.2 hc
    refine J_iload_n (i := 3) (kk := 1) dX2_unsoldBy_12 rfl rfl ?_
    refine J_iload_n (i := 3) (kk := 1) dX2_unsoldBy_13 rfl rfl ?_
    refine J_aload_n (i := 0) (kk := 0) dX2_unsoldBy_14 rfl rfl ?_
    refine J_getR 45 (q := 44) (ci := 2) (kf := 0) kfX2_11 uxX2 rfl (by decide) rfl (by decide) rfl dX2_unsoldBy_15 ?_
    refine J_iload (i := 4) (kk := 2) dX2_unsoldBy_18 rfl ?_
    have b1 := h.1
    replace h := h.2
    refine J_aald2 (a4.toNatClampNeg) rfl (by decide) rfl b1 dX2_unsoldBy_20 ?_
    refine J_aload_n (i := 0) (kk := 0) dX2_unsoldBy_21 rfl rfl ?_
    refine J_getR 47 (q := 44) (ci := 2) (kf := 2) kfX2_20 uxX2 rfl (by decide) rfl (by decide) rfl dX2_unsoldBy_22 ?_
    refine J_iload (i := 4) (kk := 2) dX2_unsoldBy_25 rfl ?_
    refine J_ald (a4.toNatClampNeg) rfl (by decide) rfl b1 dX2_unsoldBy_27 ?_
    have b2 := h.1
    replace h := h.2
    refine J_ald ((rd σ 47 (a4.toNatClampNeg)).toNatClampNeg) rfl (nc_row358 (vp_lt b1)) (sk_row358 (vp_lt b1)) b2 dX2_unsoldBy_28 ?_
    refine J_mmin klX2_66 (Nat.le_of_ble_eq_true rfl) dX2_unsoldBy_29 ?_
    refine J_isub dX2_unsoldBy_32 ?_
    refine J_nameI (fun x3 ex3 => ?_)
    replace h := h x3 ex3
    refine J_istore_n (i := 3) (lv' := [(3, .int x3), (0, .ref 44), (4, .int a4)]) dX2_unsoldBy_33 rfl (by decide) rfl ?_
    obtain ⟨x4, ex4⟩ : ∃ y : Int32, y = a4 + 1 := ⟨_, rfl⟩
    replace h := h x4 ex4
    refine J_iinc (i := 4) (kk := 2) (v := x4) (lv' := [(4, .int x4), (3, .int x3), (0, .ref 44)]) dX2_unsoldBy_34 rfl (by rw [ex4]; rfl) (by decide) rfl ?_
    refine J_goto (tgt := 5) dX2_unsoldBy_37 (by decide) ?_
    refine J_sub [2, 1, 0] rfl ?_
    exact h
set_option maxHeartbeats 4000000 in
set_option maxRecDepth 100000 in
theorem w_X2_unsoldBy_0 {Γ : GG} {l : Launch} {d : Nat} {Q : Option Value → St → Prop} {σ : St} (a1 : Int32) (a2 : Int32) (h : J Γ l (d + 1) mX2_unsoldBy Q 5 [(0, .ref 44), (3, .int a2), (4, .int a1)] [] σ) : J Γ l (d + 1) mX2_unsoldBy Q 0 [(0, .ref 44), (1, .int a1), (2, .int a2)] [] σ := by
  refine J_iload_n (i := 2) (kk := 2) dX2_unsoldBy_0 rfl rfl ?_
  refine J_istore_n (i := 3) (lv' := [(3, .int a2), (0, .ref 44), (1, .int a1), (2, .int a2)]) dX2_unsoldBy_1 rfl (by decide) rfl ?_
  refine J_iload_n (i := 1) (kk := 2) dX2_unsoldBy_2 rfl rfl ?_
  refine J_istore (i := 4) (lv' := [(4, .int a1), (3, .int a2), (0, .ref 44), (1, .int a1), (2, .int a2)]) dX2_unsoldBy_3 (by decide) rfl ?_
  refine J_sub [2, 1, 0] rfl ?_
  exact h
theorem M_X2_unsoldBy {Γ : GG} {l : Launch} {d : Nat} {Q : Option Value → St → Prop} {σ : St} (a1 : Int32) (a2 : Int32) (k : J Γ l (d + 1) mX2_unsoldBy Q 0 [(0, .ref 44), (1, .int a1), (2, .int a2)] [] σ) : Meth Γ l (d + 1) mX2_unsoldBy [.ref 44, .int a1, .int a2] σ Q := Meth_of_J (by decide +kernel) (fun _ => Nat.le_of_ble_eq_true rfl) (fun _ => rfl) k
set_option maxHeartbeats 4000000 in
set_option maxRecDepth 100000 in
theorem w_X2_stepOn_3 {Γ : GG} {l : Launch} {d : Nat} {Q : Option Value → St → Prop} {σ : St} (a1 : Int32) (a2 : Int32) (h : (a2 < a1 → Q (some (.int (0))) σ) ∧ (¬ a2 < a1 → vp_in a2 14 ∧ ((3 : Int32) ≤ rd σ 47 (a2.toNatClampNeg) → ∀ x2 : Int32, x2 = a2 + (-1) → J Γ l (d + 1) mX2_stepOn Q 3 [(0, .ref 44), (1, .int a1), (2, .int x2)] [] σ) ∧ (¬ (3 : Int32) ≤ rd σ 47 (a2.toNatClampNeg) → Meth Γ l d mX2_raiseFrom [.ref 44, .int a2, .int ((rd σ 47 (a2.toNatClampNeg)) + (1 : Int32))] σ (KV (fun σ3 => Q (some (.int (1))) σ3))))) : J Γ l (d + 1) mX2_stepOn Q 3 [(0, .ref 44), (1, .int a1), (2, .int a2)] [] σ := by
  refine J_iload_n (i := 2) (kk := 2) dX2_stepOn_3 rfl rfl ?_
  refine J_iload_n (i := 1) (kk := 1) dX2_stepOn_4 rfl rfl ?_
  refine J_icmp_lt 39 dX2_stepOn_5 (by decide) (fun hc => ?_) (fun hc => ?_)
  · replace h := h.1 hc
    refine J_iconst (v := 0) dX2_stepOn_39 (by decide) ?_
    exact J_zret rfl (by decide) dX2_stepOn_40 h
  · replace h := h.2 hc
    refine J_aload_n (i := 0) (kk := 0) dX2_stepOn_8 rfl rfl ?_
    refine J_getR 47 (q := 44) (ci := 2) (kf := 2) kfX2_20 uxX2 rfl (by decide) rfl (by decide) rfl dX2_stepOn_9 ?_
    refine J_iload_n (i := 2) (kk := 2) dX2_stepOn_12 rfl rfl ?_
    have b1 := h.1
    replace h := h.2
    refine J_ald (a2.toNatClampNeg) rfl (by decide) rfl b1 dX2_stepOn_13 ?_
    refine J_iconst (v := 3) dX2_stepOn_14 (by decide) ?_
    refine J_icmp_ge 33 dX2_stepOn_15 (by decide) (fun hc => ?_) (fun hc => ?_)
    · replace h := h.1 hc
      obtain ⟨x2, ex2⟩ : ∃ y : Int32, y = a2 + (-1) := ⟨_, rfl⟩
      replace h := h x2 ex2
      refine J_iinc (i := 2) (kk := 2) (v := x2) (lv' := [(2, .int x2), (0, .ref 44), (1, .int a1)]) dX2_stepOn_33 rfl (by rw [ex2]; rfl) (by decide) rfl ?_
      refine J_goto (tgt := 3) dX2_stepOn_36 (by decide) ?_
      refine J_sub [1, 2, 0] rfl ?_
      exact h
    · replace h := h.2 hc
      refine J_aload_n (i := 0) (kk := 0) dX2_stepOn_18 rfl rfl ?_
      refine J_iload_n (i := 2) (kk := 2) dX2_stepOn_19 rfl rfl ?_
      refine J_aload_n (i := 0) (kk := 0) dX2_stepOn_20 rfl rfl ?_
      refine J_getR 47 (q := 44) (ci := 2) (kf := 2) kfX2_20 uxX2 rfl (by decide) rfl (by decide) rfl dX2_stepOn_21 ?_
      refine J_iload_n (i := 2) (kk := 2) dX2_stepOn_24 rfl rfl ?_
      refine J_ald (a2.toNatClampNeg) rfl (by decide) rfl b1 dX2_stepOn_25 ?_
      refine J_iconst (v := 1) dX2_stepOn_26 (by decide) ?_
      refine J_iadd dX2_stepOn_27 ?_
      refine J_callV [.int a2, .int ((rd σ 47 (a2.toNatClampNeg)) + (1 : Int32))] [] calX2_raiseFrom klX2_69 (b := 44) (ci := 2) (by decide) rfl rfl rfl rfl (Nat.le_of_ble_eq_true rfl) dX2_stepOn_28 (KV.to h ?_)
      clear h
      intro σ3 h
      refine J_iconst (v := 1) dX2_stepOn_31 (by decide) ?_
      exact J_zret rfl (by decide) dX2_stepOn_32 h
set_option maxHeartbeats 4000000 in
set_option maxRecDepth 100000 in
theorem w_X2_stepOn_0 {Γ : GG} {l : Launch} {d : Nat} {Q : Option Value → St → Prop} {σ : St} (a1 : Int32) (h : J Γ l (d + 1) mX2_stepOn Q 3 [(0, .ref 44), (1, .int a1), (2, .int (13))] [] σ) : J Γ l (d + 1) mX2_stepOn Q 0 [(0, .ref 44), (1, .int a1)] [] σ := by
  refine J_bipush (v := 13) dX2_stepOn_0 (by decide) ?_
  refine J_istore_n (i := 2) (lv' := [(2, .int (13)), (0, .ref 44), (1, .int a1)]) dX2_stepOn_2 rfl (by decide) rfl ?_
  refine J_sub [1, 2, 0] rfl ?_
  exact h
theorem M_X2_stepOn {Γ : GG} {l : Launch} {d : Nat} {Q : Option Value → St → Prop} {σ : St} (a1 : Int32) (k : J Γ l (d + 1) mX2_stepOn Q 0 [(0, .ref 44), (1, .int a1)] [] σ) : Meth Γ l (d + 1) mX2_stepOn [.ref 44, .int a1] σ Q := Meth_of_J (by decide +kernel) (fun _ => Nat.le_of_ble_eq_true rfl) (fun _ => rfl) k
set_option maxHeartbeats 4000000 in
set_option maxRecDepth 100000 in
theorem w_X2_raiseFrom_2 {Γ : GG} {l : Launch} {d : Nat} {Q : Option Value → St → Prop} {σ : St} (a2 : Int32) (a3 : Int32) (h : ((14 : Int32) ≤ a3 → Q none σ) ∧ (¬ (14 : Int32) ≤ a3 → vp_in a3 14 ∧ ∀ x2 : Int32, x2 = a3 + 1 → J Γ l d mX2_raiseFrom Q 2 [(0, .ref 44), (2, .int a2), (3, .int x2)] [] (wr σ 47 (a3.toNatClampNeg) a2))) : J Γ l d mX2_raiseFrom Q 2 [(0, .ref 44), (2, .int a2), (3, .int a3)] [] σ := by
  refine J_iload_n (i := 3) (kk := 2) dX2_raiseFrom_2 rfl rfl ?_
  refine J_bipush (v := 14) dX2_raiseFrom_3 (by decide) ?_
  refine J_icmp_ge 21 dX2_raiseFrom_5 (by decide) (fun hc => ?_) (fun hc => ?_)
  · replace h := h.1 hc
    exact J_vret rfl dX2_raiseFrom_21 h
  · replace h := h.2 hc
    refine J_aload_n (i := 0) (kk := 0) dX2_raiseFrom_8 rfl rfl ?_
    refine J_getR 47 (q := 44) (ci := 2) (kf := 2) kfX2_20 uxX2 rfl (by decide) rfl (by decide) rfl dX2_raiseFrom_9 ?_
    refine J_iload_n (i := 3) (kk := 2) dX2_raiseFrom_12 rfl rfl ?_
    refine J_iload_n (i := 2) (kk := 1) dX2_raiseFrom_13 rfl rfl ?_
    have b1 := h.1
    replace h := h.2
    refine J_ast (a3.toNatClampNeg) rfl (by decide) rfl b1 dX2_raiseFrom_14 ?_
    obtain ⟨x2, ex2⟩ : ∃ y : Int32, y = a3 + 1 := ⟨_, rfl⟩
    replace h := h x2 ex2
    refine J_iinc (i := 3) (kk := 2) (v := x2) (lv' := [(3, .int x2), (0, .ref 44), (2, .int a2)]) dX2_raiseFrom_15 rfl (by rw [ex2]; rfl) (by decide) rfl ?_
    refine J_goto (tgt := 2) dX2_raiseFrom_18 (by decide) ?_
    refine J_sub [1, 2, 0] rfl ?_
    exact h
set_option maxHeartbeats 4000000 in
set_option maxRecDepth 100000 in
theorem w_X2_raiseFrom_0 {Γ : GG} {l : Launch} {d : Nat} {Q : Option Value → St → Prop} {σ : St} (a1 : Int32) (a2 : Int32) (h : J Γ l d mX2_raiseFrom Q 2 [(0, .ref 44), (2, .int a2), (3, .int a1)] [] σ) : J Γ l d mX2_raiseFrom Q 0 [(0, .ref 44), (1, .int a1), (2, .int a2)] [] σ := by
  refine J_iload_n (i := 1) (kk := 1) dX2_raiseFrom_0 rfl rfl ?_
  refine J_istore_n (i := 3) (lv' := [(3, .int a1), (0, .ref 44), (1, .int a1), (2, .int a2)]) dX2_raiseFrom_1 rfl (by decide) rfl ?_
  refine J_sub [1, 3, 0] rfl ?_
  exact h
theorem M_X2_raiseFrom {Γ : GG} {l : Launch} {d : Nat} {Q : Option Value → St → Prop} {σ : St} (a1 : Int32) (a2 : Int32) (k : J Γ l d mX2_raiseFrom Q 0 [(0, .ref 44), (1, .int a1), (2, .int a2)] [] σ) : Meth Γ l d mX2_raiseFrom [.ref 44, .int a1, .int a2] σ Q := Meth_of_J (by decide +kernel) (fun _ => Nat.le_of_ble_eq_true rfl) (fun _ => rfl) k
set_option maxHeartbeats 4000000 in
set_option maxRecDepth 100000 in
theorem w_X4_named_0 {Γ : GG} {l : Launch} {d : Nat} {Q : Option Value → St → Prop} {σ : St} (a1 : Int32) (h : (a1.toInt = 97 → Q (some (.int (rd σ 33 0))) σ) ∧ (a1.toInt = 99 → Q (some (.int (rd σ 33 2))) σ) ∧ (a1.toInt = 104 → Q (some (.int (rd σ 33 4))) σ) ∧ (a1.toInt = 107 → Q (some (.int (rd σ 33 1))) σ) ∧ (a1.toInt = 110 → Q (some (.int (rd σ 33 6))) σ) ∧ (a1.toInt = 112 → Q (some (.int (rd σ 33 5))) σ) ∧ (a1.toInt = 115 → Q (some (.int (rd σ 33 7))) σ) ∧ (a1.toInt = 119 → Q (some (.int (rd σ 33 3))) σ) ∧ (¬ a1.toInt = 97 → ¬ a1.toInt = 99 → ¬ a1.toInt = 104 → ¬ a1.toInt = 107 → ¬ a1.toInt = 110 → ¬ a1.toInt = 112 → ¬ a1.toInt = 115 → ¬ a1.toInt = 119 → Q (some (.int (0))) σ)) : J Γ l d mX4_named Q 0 [(0, .ref 33), (1, .int a1)] [] σ := by
  refine J_iload_n (i := 1) (kk := 1) dX4_named_0 rfl rfl ?_
  by_cases hc : a1.toInt = 97
  · replace h := h.1 hc
    refine J_tableIn 108 dX4_named_1 (by omega) (by omega) (by rw [hc]; rfl) (by decide) ?_
    refine J_aload_n (i := 0) (kk := 0) dX4_named_108 rfl rfl ?_
    refine J_getI (q := 33) (ci := 4) (kf := 0) kfX4_7 uxX4 rfl (by decide) rfl (by decide) rfl dX4_named_109 ?_
    exact J_iret rfl dX4_named_112 h
  have hn97 := hc
  by_cases hc : a1.toInt = 99
  · replace h := h.2.1 hc
    refine J_tableIn 118 dX4_named_1 (by omega) (by omega) (by rw [hc]; rfl) (by decide) ?_
    refine J_aload_n (i := 0) (kk := 0) dX4_named_118 rfl rfl ?_
    refine J_getI (q := 33) (ci := 4) (kf := 2) kfX4_16 uxX4 rfl (by decide) rfl (by decide) rfl dX4_named_119 ?_
    exact J_iret rfl dX4_named_122 h
  have hn99 := hc
  by_cases hc : a1.toInt = 104
  · replace h := h.2.2.1 hc
    refine J_tableIn 128 dX4_named_1 (by omega) (by omega) (by rw [hc]; rfl) (by decide) ?_
    refine J_aload_n (i := 0) (kk := 0) dX4_named_128 rfl rfl ?_
    refine J_getI (q := 33) (ci := 4) (kf := 4) kfX4_22 uxX4 rfl (by decide) rfl (by decide) rfl dX4_named_129 ?_
    exact J_iret rfl dX4_named_132 h
  have hn104 := hc
  by_cases hc : a1.toInt = 107
  · replace h := h.2.2.2.1 hc
    refine J_tableIn 113 dX4_named_1 (by omega) (by omega) (by rw [hc]; rfl) (by decide) ?_
    refine J_aload_n (i := 0) (kk := 0) dX4_named_113 rfl rfl ?_
    refine J_getI (q := 33) (ci := 4) (kf := 1) kfX4_13 uxX4 rfl (by decide) rfl (by decide) rfl dX4_named_114 ?_
    exact J_iret rfl dX4_named_117 h
  have hn107 := hc
  by_cases hc : a1.toInt = 110
  · replace h := h.2.2.2.2.1 hc
    refine J_tableIn 138 dX4_named_1 (by omega) (by omega) (by rw [hc]; rfl) (by decide) ?_
    refine J_aload_n (i := 0) (kk := 0) dX4_named_138 rfl rfl ?_
    refine J_getI (q := 33) (ci := 4) (kf := 6) kfX4_28 uxX4 rfl (by decide) rfl (by decide) rfl dX4_named_139 ?_
    exact J_iret rfl dX4_named_142 h
  have hn110 := hc
  by_cases hc : a1.toInt = 112
  · replace h := h.2.2.2.2.2.1 hc
    refine J_tableIn 133 dX4_named_1 (by omega) (by omega) (by rw [hc]; rfl) (by decide) ?_
    refine J_aload_n (i := 0) (kk := 0) dX4_named_133 rfl rfl ?_
    refine J_getI (q := 33) (ci := 4) (kf := 5) kfX4_25 uxX4 rfl (by decide) rfl (by decide) rfl dX4_named_134 ?_
    exact J_iret rfl dX4_named_137 h
  have hn112 := hc
  by_cases hc : a1.toInt = 115
  · replace h := h.2.2.2.2.2.2.1 hc
    refine J_tableIn 143 dX4_named_1 (by omega) (by omega) (by rw [hc]; rfl) (by decide) ?_
    refine J_aload_n (i := 0) (kk := 0) dX4_named_143 rfl rfl ?_
    refine J_getI (q := 33) (ci := 4) (kf := 7) kfX4_31 uxX4 rfl (by decide) rfl (by decide) rfl dX4_named_144 ?_
    exact J_iret rfl dX4_named_147 h
  have hn115 := hc
  by_cases hc : a1.toInt = 119
  · replace h := h.2.2.2.2.2.2.2.1 hc
    refine J_tableIn 123 dX4_named_1 (by omega) (by omega) (by rw [hc]; rfl) (by decide) ?_
    refine J_aload_n (i := 0) (kk := 0) dX4_named_123 rfl rfl ?_
    refine J_getI (q := 33) (ci := 4) (kf := 3) kfX4_19 uxX4 rfl (by decide) rfl (by decide) rfl dX4_named_124 ?_
    exact J_iret rfl dX4_named_127 h
  have hn119 := hc
  replace h := h.2.2.2.2.2.2.2.2 hn97 hn99 hn104 hn107 hn110 hn112 hn115 hn119
  by_cases hc : a1.toInt = 98
  · refine J_tableIn 148 dX4_named_1 (by omega) (by omega) (by rw [hc]; rfl) (by decide) ?_
    refine J_iconst (v := 0) dX4_named_148 (by decide) ?_
    exact J_iret rfl dX4_named_149 h
  have hn98 := hc
  by_cases hc : a1.toInt = 100
  · refine J_tableIn 148 dX4_named_1 (by omega) (by omega) (by rw [hc]; rfl) (by decide) ?_
    refine J_iconst (v := 0) dX4_named_148 (by decide) ?_
    exact J_iret rfl dX4_named_149 h
  have hn100 := hc
  by_cases hc : a1.toInt = 101
  · refine J_tableIn 148 dX4_named_1 (by omega) (by omega) (by rw [hc]; rfl) (by decide) ?_
    refine J_iconst (v := 0) dX4_named_148 (by decide) ?_
    exact J_iret rfl dX4_named_149 h
  have hn101 := hc
  by_cases hc : a1.toInt = 102
  · refine J_tableIn 148 dX4_named_1 (by omega) (by omega) (by rw [hc]; rfl) (by decide) ?_
    refine J_iconst (v := 0) dX4_named_148 (by decide) ?_
    exact J_iret rfl dX4_named_149 h
  have hn102 := hc
  by_cases hc : a1.toInt = 103
  · refine J_tableIn 148 dX4_named_1 (by omega) (by omega) (by rw [hc]; rfl) (by decide) ?_
    refine J_iconst (v := 0) dX4_named_148 (by decide) ?_
    exact J_iret rfl dX4_named_149 h
  have hn103 := hc
  by_cases hc : a1.toInt = 105
  · refine J_tableIn 148 dX4_named_1 (by omega) (by omega) (by rw [hc]; rfl) (by decide) ?_
    refine J_iconst (v := 0) dX4_named_148 (by decide) ?_
    exact J_iret rfl dX4_named_149 h
  have hn105 := hc
  by_cases hc : a1.toInt = 106
  · refine J_tableIn 148 dX4_named_1 (by omega) (by omega) (by rw [hc]; rfl) (by decide) ?_
    refine J_iconst (v := 0) dX4_named_148 (by decide) ?_
    exact J_iret rfl dX4_named_149 h
  have hn106 := hc
  by_cases hc : a1.toInt = 108
  · refine J_tableIn 148 dX4_named_1 (by omega) (by omega) (by rw [hc]; rfl) (by decide) ?_
    refine J_iconst (v := 0) dX4_named_148 (by decide) ?_
    exact J_iret rfl dX4_named_149 h
  have hn108 := hc
  by_cases hc : a1.toInt = 109
  · refine J_tableIn 148 dX4_named_1 (by omega) (by omega) (by rw [hc]; rfl) (by decide) ?_
    refine J_iconst (v := 0) dX4_named_148 (by decide) ?_
    exact J_iret rfl dX4_named_149 h
  have hn109 := hc
  by_cases hc : a1.toInt = 111
  · refine J_tableIn 148 dX4_named_1 (by omega) (by omega) (by rw [hc]; rfl) (by decide) ?_
    refine J_iconst (v := 0) dX4_named_148 (by decide) ?_
    exact J_iret rfl dX4_named_149 h
  have hn111 := hc
  by_cases hc : a1.toInt = 113
  · refine J_tableIn 148 dX4_named_1 (by omega) (by omega) (by rw [hc]; rfl) (by decide) ?_
    refine J_iconst (v := 0) dX4_named_148 (by decide) ?_
    exact J_iret rfl dX4_named_149 h
  have hn113 := hc
  by_cases hc : a1.toInt = 114
  · refine J_tableIn 148 dX4_named_1 (by omega) (by omega) (by rw [hc]; rfl) (by decide) ?_
    refine J_iconst (v := 0) dX4_named_148 (by decide) ?_
    exact J_iret rfl dX4_named_149 h
  have hn114 := hc
  by_cases hc : a1.toInt = 116
  · refine J_tableIn 148 dX4_named_1 (by omega) (by omega) (by rw [hc]; rfl) (by decide) ?_
    refine J_iconst (v := 0) dX4_named_148 (by decide) ?_
    exact J_iret rfl dX4_named_149 h
  have hn116 := hc
  by_cases hc : a1.toInt = 117
  · refine J_tableIn 148 dX4_named_1 (by omega) (by omega) (by rw [hc]; rfl) (by decide) ?_
    refine J_iconst (v := 0) dX4_named_148 (by decide) ?_
    exact J_iret rfl dX4_named_149 h
  have hn117 := hc
  by_cases hc : a1.toInt = 118
  · refine J_tableIn 148 dX4_named_1 (by omega) (by omega) (by rw [hc]; rfl) (by decide) ?_
    refine J_iconst (v := 0) dX4_named_148 (by decide) ?_
    exact J_iret rfl dX4_named_149 h
  have hn118 := hc
  refine J_tableOut 148 dX4_named_1 (by omega) (by decide) ?_
  refine J_iconst (v := 0) dX4_named_148 (by decide) ?_
  exact J_iret rfl dX4_named_149 h
theorem M_X4_named {Γ : GG} {l : Launch} {d : Nat} {Q : Option Value → St → Prop} {σ : St} (a1 : Int32) (k : J Γ l d mX4_named Q 0 [(0, .ref 33), (1, .int a1)] [] σ) : Meth Γ l d mX4_named [.ref 33, .int a1] σ Q := Meth_of_J (by decide +kernel) (fun _ => Nat.le_of_ble_eq_true rfl) (fun _ => rfl) k
set_option maxHeartbeats 4000000 in
set_option maxRecDepth 100000 in
theorem w_X4_isName_0 {Γ : GG} {l : Launch} {d : Nat} {Q : Option Value → St → Prop} {σ : St} (a0 : Int32) (h : (a0.toInt = 97 → Q (some (.int (1))) σ) ∧ (a0.toInt = 99 → Q (some (.int (1))) σ) ∧ (a0.toInt = 104 → Q (some (.int (1))) σ) ∧ (a0.toInt = 107 → Q (some (.int (1))) σ) ∧ (a0.toInt = 110 → Q (some (.int (1))) σ) ∧ (a0.toInt = 112 → Q (some (.int (1))) σ) ∧ (a0.toInt = 115 → Q (some (.int (1))) σ) ∧ (a0.toInt = 119 → Q (some (.int (1))) σ) ∧ (¬ a0.toInt = 97 → ¬ a0.toInt = 99 → ¬ a0.toInt = 104 → ¬ a0.toInt = 107 → ¬ a0.toInt = 110 → ¬ a0.toInt = 112 → ¬ a0.toInt = 115 → ¬ a0.toInt = 119 → Q (some (.int (0))) σ)) : J Γ l d mX4_isName Q 0 [(0, .int a0)] [] σ := by
  refine J_iload_n (i := 0) (kk := 0) dX4_isName_0 rfl rfl ?_
  by_cases hc : a0.toInt = 97
  · replace h := h.1 hc
    refine J_tableIn 108 dX4_isName_1 (by omega) (by omega) (by rw [hc]; rfl) (by decide) ?_
    refine J_iconst (v := 1) dX4_isName_108 (by decide) ?_
    exact J_zret rfl (by decide) dX4_isName_109 h
  have hn97 := hc
  by_cases hc : a0.toInt = 99
  · replace h := h.2.1 hc
    refine J_tableIn 108 dX4_isName_1 (by omega) (by omega) (by rw [hc]; rfl) (by decide) ?_
    refine J_iconst (v := 1) dX4_isName_108 (by decide) ?_
    exact J_zret rfl (by decide) dX4_isName_109 h
  have hn99 := hc
  by_cases hc : a0.toInt = 104
  · replace h := h.2.2.1 hc
    refine J_tableIn 108 dX4_isName_1 (by omega) (by omega) (by rw [hc]; rfl) (by decide) ?_
    refine J_iconst (v := 1) dX4_isName_108 (by decide) ?_
    exact J_zret rfl (by decide) dX4_isName_109 h
  have hn104 := hc
  by_cases hc : a0.toInt = 107
  · replace h := h.2.2.2.1 hc
    refine J_tableIn 108 dX4_isName_1 (by omega) (by omega) (by rw [hc]; rfl) (by decide) ?_
    refine J_iconst (v := 1) dX4_isName_108 (by decide) ?_
    exact J_zret rfl (by decide) dX4_isName_109 h
  have hn107 := hc
  by_cases hc : a0.toInt = 110
  · replace h := h.2.2.2.2.1 hc
    refine J_tableIn 108 dX4_isName_1 (by omega) (by omega) (by rw [hc]; rfl) (by decide) ?_
    refine J_iconst (v := 1) dX4_isName_108 (by decide) ?_
    exact J_zret rfl (by decide) dX4_isName_109 h
  have hn110 := hc
  by_cases hc : a0.toInt = 112
  · replace h := h.2.2.2.2.2.1 hc
    refine J_tableIn 108 dX4_isName_1 (by omega) (by omega) (by rw [hc]; rfl) (by decide) ?_
    refine J_iconst (v := 1) dX4_isName_108 (by decide) ?_
    exact J_zret rfl (by decide) dX4_isName_109 h
  have hn112 := hc
  by_cases hc : a0.toInt = 115
  · replace h := h.2.2.2.2.2.2.1 hc
    refine J_tableIn 108 dX4_isName_1 (by omega) (by omega) (by rw [hc]; rfl) (by decide) ?_
    refine J_iconst (v := 1) dX4_isName_108 (by decide) ?_
    exact J_zret rfl (by decide) dX4_isName_109 h
  have hn115 := hc
  by_cases hc : a0.toInt = 119
  · replace h := h.2.2.2.2.2.2.2.1 hc
    refine J_tableIn 108 dX4_isName_1 (by omega) (by omega) (by rw [hc]; rfl) (by decide) ?_
    refine J_iconst (v := 1) dX4_isName_108 (by decide) ?_
    exact J_zret rfl (by decide) dX4_isName_109 h
  have hn119 := hc
  replace h := h.2.2.2.2.2.2.2.2 hn97 hn99 hn104 hn107 hn110 hn112 hn115 hn119
  by_cases hc : a0.toInt = 98
  · refine J_tableIn 110 dX4_isName_1 (by omega) (by omega) (by rw [hc]; rfl) (by decide) ?_
    refine J_iconst (v := 0) dX4_isName_110 (by decide) ?_
    exact J_zret rfl (by decide) dX4_isName_111 h
  have hn98 := hc
  by_cases hc : a0.toInt = 100
  · refine J_tableIn 110 dX4_isName_1 (by omega) (by omega) (by rw [hc]; rfl) (by decide) ?_
    refine J_iconst (v := 0) dX4_isName_110 (by decide) ?_
    exact J_zret rfl (by decide) dX4_isName_111 h
  have hn100 := hc
  by_cases hc : a0.toInt = 101
  · refine J_tableIn 110 dX4_isName_1 (by omega) (by omega) (by rw [hc]; rfl) (by decide) ?_
    refine J_iconst (v := 0) dX4_isName_110 (by decide) ?_
    exact J_zret rfl (by decide) dX4_isName_111 h
  have hn101 := hc
  by_cases hc : a0.toInt = 102
  · refine J_tableIn 110 dX4_isName_1 (by omega) (by omega) (by rw [hc]; rfl) (by decide) ?_
    refine J_iconst (v := 0) dX4_isName_110 (by decide) ?_
    exact J_zret rfl (by decide) dX4_isName_111 h
  have hn102 := hc
  by_cases hc : a0.toInt = 103
  · refine J_tableIn 110 dX4_isName_1 (by omega) (by omega) (by rw [hc]; rfl) (by decide) ?_
    refine J_iconst (v := 0) dX4_isName_110 (by decide) ?_
    exact J_zret rfl (by decide) dX4_isName_111 h
  have hn103 := hc
  by_cases hc : a0.toInt = 105
  · refine J_tableIn 110 dX4_isName_1 (by omega) (by omega) (by rw [hc]; rfl) (by decide) ?_
    refine J_iconst (v := 0) dX4_isName_110 (by decide) ?_
    exact J_zret rfl (by decide) dX4_isName_111 h
  have hn105 := hc
  by_cases hc : a0.toInt = 106
  · refine J_tableIn 110 dX4_isName_1 (by omega) (by omega) (by rw [hc]; rfl) (by decide) ?_
    refine J_iconst (v := 0) dX4_isName_110 (by decide) ?_
    exact J_zret rfl (by decide) dX4_isName_111 h
  have hn106 := hc
  by_cases hc : a0.toInt = 108
  · refine J_tableIn 110 dX4_isName_1 (by omega) (by omega) (by rw [hc]; rfl) (by decide) ?_
    refine J_iconst (v := 0) dX4_isName_110 (by decide) ?_
    exact J_zret rfl (by decide) dX4_isName_111 h
  have hn108 := hc
  by_cases hc : a0.toInt = 109
  · refine J_tableIn 110 dX4_isName_1 (by omega) (by omega) (by rw [hc]; rfl) (by decide) ?_
    refine J_iconst (v := 0) dX4_isName_110 (by decide) ?_
    exact J_zret rfl (by decide) dX4_isName_111 h
  have hn109 := hc
  by_cases hc : a0.toInt = 111
  · refine J_tableIn 110 dX4_isName_1 (by omega) (by omega) (by rw [hc]; rfl) (by decide) ?_
    refine J_iconst (v := 0) dX4_isName_110 (by decide) ?_
    exact J_zret rfl (by decide) dX4_isName_111 h
  have hn111 := hc
  by_cases hc : a0.toInt = 113
  · refine J_tableIn 110 dX4_isName_1 (by omega) (by omega) (by rw [hc]; rfl) (by decide) ?_
    refine J_iconst (v := 0) dX4_isName_110 (by decide) ?_
    exact J_zret rfl (by decide) dX4_isName_111 h
  have hn113 := hc
  by_cases hc : a0.toInt = 114
  · refine J_tableIn 110 dX4_isName_1 (by omega) (by omega) (by rw [hc]; rfl) (by decide) ?_
    refine J_iconst (v := 0) dX4_isName_110 (by decide) ?_
    exact J_zret rfl (by decide) dX4_isName_111 h
  have hn114 := hc
  by_cases hc : a0.toInt = 116
  · refine J_tableIn 110 dX4_isName_1 (by omega) (by omega) (by rw [hc]; rfl) (by decide) ?_
    refine J_iconst (v := 0) dX4_isName_110 (by decide) ?_
    exact J_zret rfl (by decide) dX4_isName_111 h
  have hn116 := hc
  by_cases hc : a0.toInt = 117
  · refine J_tableIn 110 dX4_isName_1 (by omega) (by omega) (by rw [hc]; rfl) (by decide) ?_
    refine J_iconst (v := 0) dX4_isName_110 (by decide) ?_
    exact J_zret rfl (by decide) dX4_isName_111 h
  have hn117 := hc
  by_cases hc : a0.toInt = 118
  · refine J_tableIn 110 dX4_isName_1 (by omega) (by omega) (by rw [hc]; rfl) (by decide) ?_
    refine J_iconst (v := 0) dX4_isName_110 (by decide) ?_
    exact J_zret rfl (by decide) dX4_isName_111 h
  have hn118 := hc
  refine J_tableOut 110 dX4_isName_1 (by omega) (by decide) ?_
  refine J_iconst (v := 0) dX4_isName_110 (by decide) ?_
  exact J_zret rfl (by decide) dX4_isName_111 h
theorem M_X4_isName {Γ : GG} {l : Launch} {d : Nat} {Q : Option Value → St → Prop} {σ : St} (a0 : Int32) (k : J Γ l d mX4_isName Q 0 [(0, .int a0)] [] σ) : Meth Γ l d mX4_isName [.int a0] σ Q := Meth_of_J (by decide +kernel) (fun _ => Nat.le_of_ble_eq_true rfl) (fun _ => rfl) k
set_option maxHeartbeats 4000000 in
set_option maxRecDepth 100000 in
theorem w_X5_add_0 {Γ : GG} {l : Launch} {d : Nat} {Q : Option Value → St → Prop} {σ : St} (a1 : Int32) (a2 : Int32) (a3 : Int32) (a4 : Int32) (h : (rd σ 11 5 < (10 : Int32) → vp_in (rd σ 11 5) 10 ∧ Q (some (.int (((rd σ 11 5) + (1 : Int32)) - (1 : Int32)))) (wr (wr (wr (wr (wr σ 12 ((rd σ 11 5).toNatClampNeg) a1) 13 ((rd σ 11 5).toNatClampNeg) a2) 14 ((rd σ 11 5).toNatClampNeg) a3) 15 ((rd σ 11 5).toNatClampNeg) a4) 11 5 ((rd σ 11 5) + (1 : Int32)))) ∧ (¬ rd σ 11 5 < (10 : Int32) → Q (some (.int ((-3)))) σ)) : J Γ l d mX5_add Q 0 [(0, .ref 11), (1, .int a1), (2, .int a2), (3, .int a3), (4, .int a4)] [] σ := by
  refine J_aload_n (i := 0) (kk := 0) dX5_add_0 rfl rfl ?_
  refine J_getI (q := 11) (ci := 5) (kf := 5) kfX5_27 uxX5 rfl (by decide) rfl (by decide) rfl dX5_add_1 ?_
  refine J_bipush (v := 10) dX5_add_4 (by decide) ?_
  refine J_icmp_lt 12 dX5_add_6 (by decide) (fun hc => ?_) (fun hc => ?_)
  · replace h := h.1 hc
    refine J_aload_n (i := 0) (kk := 0) dX5_add_12 rfl rfl ?_
    refine J_getR 12 (q := 11) (ci := 5) (kf := 0) kfX5_9 uxX5 rfl (by decide) rfl (by decide) rfl dX5_add_13 ?_
    refine J_aload_n (i := 0) (kk := 0) dX5_add_16 rfl rfl ?_
    refine J_getI (q := 11) (ci := 5) (kf := 5) kfX5_27 uxX5 rfl (by decide) rfl (by decide) rfl dX5_add_17 ?_
    refine J_iload_n (i := 1) (kk := 1) dX5_add_20 rfl rfl ?_
    have b1 := h.1
    replace h := h.2
    refine J_ast ((rd σ 11 5).toNatClampNeg) rfl (by decide) rfl b1 dX5_add_21 ?_
    refine J_aload_n (i := 0) (kk := 0) dX5_add_22 rfl rfl ?_
    refine J_getR 13 (q := 11) (ci := 5) (kf := 1) kfX5_15 uxX5 rfl (by decide) rfl (by decide) rfl dX5_add_23 ?_
    refine J_aload_n (i := 0) (kk := 0) dX5_add_26 rfl rfl ?_
    refine J_getI (q := 11) (ci := 5) (kf := 5) kfX5_27 uxX5 rfl (by decide) rfl (by decide) rfl dX5_add_27 ?_
    refine J_eqI (y := rd σ 11 5) rfl ?_
    refine J_iload_n (i := 2) (kk := 2) dX5_add_30 rfl rfl ?_
    refine J_ast ((rd σ 11 5).toNatClampNeg) rfl (by decide) rfl b1 dX5_add_31 ?_
    refine J_aload_n (i := 0) (kk := 0) dX5_add_32 rfl rfl ?_
    refine J_getR 14 (q := 11) (ci := 5) (kf := 2) kfX5_18 uxX5 rfl (by decide) rfl (by decide) rfl dX5_add_33 ?_
    refine J_aload_n (i := 0) (kk := 0) dX5_add_36 rfl rfl ?_
    refine J_getI (q := 11) (ci := 5) (kf := 5) kfX5_27 uxX5 rfl (by decide) rfl (by decide) rfl dX5_add_37 ?_
    refine J_eqI (y := rd σ 11 5) rfl ?_
    refine J_iload_n (i := 3) (kk := 3) dX5_add_40 rfl rfl ?_
    refine J_ast ((rd σ 11 5).toNatClampNeg) rfl (by decide) rfl b1 dX5_add_41 ?_
    refine J_aload_n (i := 0) (kk := 0) dX5_add_42 rfl rfl ?_
    refine J_getR 15 (q := 11) (ci := 5) (kf := 3) kfX5_21 uxX5 rfl (by decide) rfl (by decide) rfl dX5_add_43 ?_
    refine J_aload_n (i := 0) (kk := 0) dX5_add_46 rfl rfl ?_
    refine J_getI (q := 11) (ci := 5) (kf := 5) kfX5_27 uxX5 rfl (by decide) rfl (by decide) rfl dX5_add_47 ?_
    refine J_eqI (y := rd σ 11 5) rfl ?_
    refine J_iload (i := 4) (kk := 4) dX5_add_50 rfl ?_
    refine J_ast ((rd σ 11 5).toNatClampNeg) rfl (by decide) rfl b1 dX5_add_52 ?_
    refine J_aload_n (i := 0) (kk := 0) dX5_add_53 rfl rfl ?_
    refine J_dup dX5_add_54 rfl ?_
    refine J_getI (q := 11) (ci := 5) (kf := 5) kfX5_27 uxX5 rfl (by decide) rfl (by decide) rfl dX5_add_55 ?_
    refine J_eqI (y := rd σ 11 5) rfl ?_
    refine J_iconst (v := 1) dX5_add_58 (by decide) ?_
    refine J_iadd dX5_add_59 ?_
    refine J_putf (q := 11) (ci := 5) (kf := 5) (ty := .int) kfX5_27 uxX5 tyX5_ok nmX5 rfl (by decide) rfl (by decide) rfl rfl rfl rfl rfl dX5_add_60 ?_
    refine J_aload_n (i := 0) (kk := 0) dX5_add_63 rfl rfl ?_
    refine J_getI (q := 11) (ci := 5) (kf := 5) kfX5_27 uxX5 rfl (by decide) rfl (by decide) rfl dX5_add_64 ?_
    refine J_eqI (y := ((rd σ 11 5) + (1 : Int32))) rfl ?_
    refine J_iconst (v := 1) dX5_add_67 (by decide) ?_
    refine J_isub dX5_add_68 ?_
    exact J_iret rfl dX5_add_69 h
  · replace h := h.2 hc
    refine J_bipush (v := (-3)) dX5_add_9 (by decide) ?_
    exact J_iret rfl dX5_add_11 h
theorem M_X5_add {Γ : GG} {l : Launch} {d : Nat} {Q : Option Value → St → Prop} {σ : St} (a1 : Int32) (a2 : Int32) (a3 : Int32) (a4 : Int32) (k : J Γ l d mX5_add Q 0 [(0, .ref 11), (1, .int a1), (2, .int a2), (3, .int a3), (4, .int a4)] [] σ) : Meth Γ l d mX5_add [.ref 11, .int a1, .int a2, .int a3, .int a4] σ Q := Meth_of_J (by decide +kernel) (fun _ => Nat.le_of_ble_eq_true rfl) (fun _ => rfl) k
set_option maxHeartbeats 4000000 in
set_option maxRecDepth 100000 in
theorem w_X6_add_0 {Γ : GG} {l : Launch} {d : Nat} {Q : Option Value → St → Prop} {σ : St} (a1 : Int32) (a2 : Int32) (a3 : Int32) (a4 : Int32) (h : (rd σ 26 5 < (16 : Int32) → vp_in (rd σ 26 5) 16 ∧ Q (some (.int (((rd σ 26 5) + (1 : Int32)) - (1 : Int32)))) (wr (wr (wr (wr (wr σ 28 ((rd σ 26 5).toNatClampNeg) a1) 29 ((rd σ 26 5).toNatClampNeg) a2) 30 ((rd σ 26 5).toNatClampNeg) a3) 31 ((rd σ 26 5).toNatClampNeg) a4) 26 5 ((rd σ 26 5) + (1 : Int32)))) ∧ (¬ rd σ 26 5 < (16 : Int32) → Q (some (.int ((-3)))) σ)) : J Γ l d mX6_add Q 0 [(0, .ref 26), (1, .int a1), (2, .int a2), (3, .int a3), (4, .int a4)] [] σ := by
  refine J_aload_n (i := 0) (kk := 0) dX6_add_0 rfl rfl ?_
  refine J_getI (q := 26) (ci := 6) (kf := 5) kfX6_29 uxX6 rfl (by decide) rfl (by decide) rfl dX6_add_1 ?_
  refine J_bipush (v := 16) dX6_add_4 (by decide) ?_
  refine J_icmp_lt 12 dX6_add_6 (by decide) (fun hc => ?_) (fun hc => ?_)
  · replace h := h.1 hc
    refine J_aload_n (i := 0) (kk := 0) dX6_add_12 rfl rfl ?_
    refine J_getR 28 (q := 26) (ci := 6) (kf := 1) kfX6_16 uxX6 rfl (by decide) rfl (by decide) rfl dX6_add_13 ?_
    refine J_aload_n (i := 0) (kk := 0) dX6_add_16 rfl rfl ?_
    refine J_getI (q := 26) (ci := 6) (kf := 5) kfX6_29 uxX6 rfl (by decide) rfl (by decide) rfl dX6_add_17 ?_
    refine J_iload_n (i := 1) (kk := 1) dX6_add_20 rfl rfl ?_
    have b1 := h.1
    replace h := h.2
    refine J_ast ((rd σ 26 5).toNatClampNeg) rfl (by decide) rfl b1 dX6_add_21 ?_
    refine J_aload_n (i := 0) (kk := 0) dX6_add_22 rfl rfl ?_
    refine J_getR 29 (q := 26) (ci := 6) (kf := 2) kfX6_20 uxX6 rfl (by decide) rfl (by decide) rfl dX6_add_23 ?_
    refine J_aload_n (i := 0) (kk := 0) dX6_add_26 rfl rfl ?_
    refine J_getI (q := 26) (ci := 6) (kf := 5) kfX6_29 uxX6 rfl (by decide) rfl (by decide) rfl dX6_add_27 ?_
    refine J_eqI (y := rd σ 26 5) rfl ?_
    refine J_iload_n (i := 2) (kk := 2) dX6_add_30 rfl rfl ?_
    refine J_ast ((rd σ 26 5).toNatClampNeg) rfl (by decide) rfl b1 dX6_add_31 ?_
    refine J_aload_n (i := 0) (kk := 0) dX6_add_32 rfl rfl ?_
    refine J_getR 30 (q := 26) (ci := 6) (kf := 3) kfX6_23 uxX6 rfl (by decide) rfl (by decide) rfl dX6_add_33 ?_
    refine J_aload_n (i := 0) (kk := 0) dX6_add_36 rfl rfl ?_
    refine J_getI (q := 26) (ci := 6) (kf := 5) kfX6_29 uxX6 rfl (by decide) rfl (by decide) rfl dX6_add_37 ?_
    refine J_eqI (y := rd σ 26 5) rfl ?_
    refine J_iload_n (i := 3) (kk := 3) dX6_add_40 rfl rfl ?_
    refine J_ast ((rd σ 26 5).toNatClampNeg) rfl (by decide) rfl b1 dX6_add_41 ?_
    refine J_aload_n (i := 0) (kk := 0) dX6_add_42 rfl rfl ?_
    refine J_getR 31 (q := 26) (ci := 6) (kf := 4) kfX6_26 uxX6 rfl (by decide) rfl (by decide) rfl dX6_add_43 ?_
    refine J_aload_n (i := 0) (kk := 0) dX6_add_46 rfl rfl ?_
    refine J_getI (q := 26) (ci := 6) (kf := 5) kfX6_29 uxX6 rfl (by decide) rfl (by decide) rfl dX6_add_47 ?_
    refine J_eqI (y := rd σ 26 5) rfl ?_
    refine J_iload (i := 4) (kk := 4) dX6_add_50 rfl ?_
    refine J_ast ((rd σ 26 5).toNatClampNeg) rfl (by decide) rfl b1 dX6_add_52 ?_
    refine J_aload_n (i := 0) (kk := 0) dX6_add_53 rfl rfl ?_
    refine J_dup dX6_add_54 rfl ?_
    refine J_getI (q := 26) (ci := 6) (kf := 5) kfX6_29 uxX6 rfl (by decide) rfl (by decide) rfl dX6_add_55 ?_
    refine J_eqI (y := rd σ 26 5) rfl ?_
    refine J_iconst (v := 1) dX6_add_58 (by decide) ?_
    refine J_iadd dX6_add_59 ?_
    refine J_putf (q := 26) (ci := 6) (kf := 5) (ty := .int) kfX6_29 uxX6 tyX6_ok nmX6 rfl (by decide) rfl (by decide) rfl rfl rfl rfl rfl dX6_add_60 ?_
    refine J_aload_n (i := 0) (kk := 0) dX6_add_63 rfl rfl ?_
    refine J_getI (q := 26) (ci := 6) (kf := 5) kfX6_29 uxX6 rfl (by decide) rfl (by decide) rfl dX6_add_64 ?_
    refine J_eqI (y := ((rd σ 26 5) + (1 : Int32))) rfl ?_
    refine J_iconst (v := 1) dX6_add_67 (by decide) ?_
    refine J_isub dX6_add_68 ?_
    exact J_iret rfl dX6_add_69 h
  · replace h := h.2 hc
    refine J_bipush (v := (-3)) dX6_add_9 (by decide) ?_
    exact J_iret rfl dX6_add_11 h
theorem M_X6_add {Γ : GG} {l : Launch} {d : Nat} {Q : Option Value → St → Prop} {σ : St} (a1 : Int32) (a2 : Int32) (a3 : Int32) (a4 : Int32) (k : J Γ l d mX6_add Q 0 [(0, .ref 26), (1, .int a1), (2, .int a2), (3, .int a3), (4, .int a4)] [] σ) : Meth Γ l d mX6_add [.ref 26, .int a1, .int a2, .int a3, .int a4] σ Q := Meth_of_J (by decide +kernel) (fun _ => Nat.le_of_ble_eq_true rfl) (fun _ => rfl) k
set_option maxHeartbeats 4000000 in
set_option maxRecDepth 100000 in
theorem w_X6_latest_8 {Γ : GG} {l : Launch} {d : Nat} {Q : Option Value → St → Prop} {σ : St} (a1 : Int32) (a2 : Int32) (a3 : Int32) (a4 : Int32) (h : (a4 < (0 : Int32) → Q (some (.int ((-2)))) σ) ∧ (¬ a4 < (0 : Int32) → vp_in a4 16 ∧ (rd σ 29 (a4.toNatClampNeg) = a1 → (a3 < rd σ 31 (a4.toNatClampNeg) → ∀ x3 : Int32, x3 = a4 + (-1) → J Γ l d mX6_latest Q 8 [(0, .ref 26), (1, .int a1), (2, .int a2), (3, .int a3), (4, .int x3)] [] σ) ∧ (¬ a3 < rd σ 31 (a4.toNatClampNeg) → (a2 < rd σ 30 (a4.toNatClampNeg) → ∀ x4 : Int32, x4 = a4 + (-1) → J Γ l d mX6_latest Q 8 [(0, .ref 26), (1, .int a1), (2, .int a2), (3, .int a3), (4, .int x4)] [] σ) ∧ (¬ a2 < rd σ 30 (a4.toNatClampNeg) → Q (some (.int a4)) σ))) ∧ (¬ rd σ 29 (a4.toNatClampNeg) = a1 → ∀ x2 : Int32, x2 = a4 + (-1) → J Γ l d mX6_latest Q 8 [(0, .ref 26), (1, .int a1), (2, .int a2), (3, .int a3), (4, .int x2)] [] σ))) : J Γ l d mX6_latest Q 8 [(0, .ref 26), (1, .int a1), (2, .int a2), (3, .int a3), (4, .int a4)] [] σ := by
  refine J_iload (i := 4) (kk := 4) dX6_latest_8 rfl ?_
  refine J_if_lt 55 dX6_latest_10 (by decide) (fun hc => ?_) (fun hc => ?_)
  · replace h := h.1 hc
    refine J_bipush (v := (-2)) dX6_latest_55 (by decide) ?_
    exact J_iret rfl dX6_latest_57 h
  · replace h := h.2 hc
    refine J_aload_n (i := 0) (kk := 0) dX6_latest_13 rfl rfl ?_
    refine J_getR 29 (q := 26) (ci := 6) (kf := 2) kfX6_20 uxX6 rfl (by decide) rfl (by decide) rfl dX6_latest_14 ?_
    refine J_iload (i := 4) (kk := 4) dX6_latest_17 rfl ?_
    have b1 := h.1
    replace h := h.2
    refine J_ald (a4.toNatClampNeg) rfl (by decide) rfl b1 dX6_latest_19 ?_
    refine J_iload_n (i := 1) (kk := 1) dX6_latest_20 rfl rfl ?_
    refine J_icmp_ne 49 dX6_latest_21 (by decide) (fun hc => ?_) (fun hc => ?_)
    · replace h := h.2 hc
      obtain ⟨x2, ex2⟩ : ∃ y : Int32, y = a4 + (-1) := ⟨_, rfl⟩
      replace h := h x2 ex2
      refine J_iinc (i := 4) (kk := 4) (v := x2) (lv' := [(4, .int x2), (0, .ref 26), (1, .int a1), (2, .int a2), (3, .int a3)]) dX6_latest_49 rfl (by rw [ex2]; rfl) (by decide) rfl ?_
      refine J_goto (tgt := 8) dX6_latest_52 (by decide) ?_
      refine J_sub [1, 2, 3, 4, 0] rfl ?_
      exact h
    · replace h := h.1 hc
      refine J_aload_n (i := 0) (kk := 0) dX6_latest_24 rfl rfl ?_
      refine J_getR 31 (q := 26) (ci := 6) (kf := 4) kfX6_26 uxX6 rfl (by decide) rfl (by decide) rfl dX6_latest_25 ?_
      refine J_iload (i := 4) (kk := 4) dX6_latest_28 rfl ?_
      refine J_ald (a4.toNatClampNeg) rfl (by decide) rfl b1 dX6_latest_30 ?_
      refine J_iload_n (i := 3) (kk := 3) dX6_latest_31 rfl rfl ?_
      refine J_icmp_gt 49 dX6_latest_32 (by decide) (fun hc => ?_) (fun hc => ?_)
      · replace h := h.1 hc
        obtain ⟨x3, ex3⟩ : ∃ y : Int32, y = a4 + (-1) := ⟨_, rfl⟩
        replace h := h x3 ex3
        refine J_iinc (i := 4) (kk := 4) (v := x3) (lv' := [(4, .int x3), (0, .ref 26), (1, .int a1), (2, .int a2), (3, .int a3)]) dX6_latest_49 rfl (by rw [ex3]; rfl) (by decide) rfl ?_
        refine J_goto (tgt := 8) dX6_latest_52 (by decide) ?_
        refine J_sub [1, 2, 3, 4, 0] rfl ?_
        exact h
      · replace h := h.2 hc
        refine J_aload_n (i := 0) (kk := 0) dX6_latest_35 rfl rfl ?_
        refine J_getR 30 (q := 26) (ci := 6) (kf := 3) kfX6_23 uxX6 rfl (by decide) rfl (by decide) rfl dX6_latest_36 ?_
        refine J_iload (i := 4) (kk := 4) dX6_latest_39 rfl ?_
        refine J_ald (a4.toNatClampNeg) rfl (by decide) rfl b1 dX6_latest_41 ?_
        refine J_iload_n (i := 2) (kk := 2) dX6_latest_42 rfl rfl ?_
        refine J_icmp_gt 49 dX6_latest_43 (by decide) (fun hc => ?_) (fun hc => ?_)
        · replace h := h.1 hc
          obtain ⟨x4, ex4⟩ : ∃ y : Int32, y = a4 + (-1) := ⟨_, rfl⟩
          replace h := h x4 ex4
          refine J_iinc (i := 4) (kk := 4) (v := x4) (lv' := [(4, .int x4), (0, .ref 26), (1, .int a1), (2, .int a2), (3, .int a3)]) dX6_latest_49 rfl (by rw [ex4]; rfl) (by decide) rfl ?_
          refine J_goto (tgt := 8) dX6_latest_52 (by decide) ?_
          refine J_sub [1, 2, 3, 4, 0] rfl ?_
          exact h
        · replace h := h.2 hc
          refine J_iload (i := 4) (kk := 4) dX6_latest_46 rfl ?_
          exact J_iret rfl dX6_latest_48 h
set_option maxHeartbeats 4000000 in
set_option maxRecDepth 100000 in
theorem w_X6_latest_0 {Γ : GG} {l : Launch} {d : Nat} {Q : Option Value → St → Prop} {σ : St} (a1 : Int32) (a2 : Int32) (a3 : Int32) (h : J Γ l d mX6_latest Q 8 [(0, .ref 26), (1, .int a1), (2, .int a2), (3, .int a3), (4, .int ((rd σ 26 5) - (1 : Int32)))] [] σ) : J Γ l d mX6_latest Q 0 [(0, .ref 26), (1, .int a1), (2, .int a2), (3, .int a3)] [] σ := by
  refine J_aload_n (i := 0) (kk := 0) dX6_latest_0 rfl rfl ?_
  refine J_getI (q := 26) (ci := 6) (kf := 5) kfX6_29 uxX6 rfl (by decide) rfl (by decide) rfl dX6_latest_1 ?_
  refine J_iconst (v := 1) dX6_latest_4 (by decide) ?_
  refine J_isub dX6_latest_5 ?_
  refine J_istore (i := 4) (lv' := [(4, .int ((rd σ 26 5) - (1 : Int32))), (0, .ref 26), (1, .int a1), (2, .int a2), (3, .int a3)]) dX6_latest_6 (by decide) rfl ?_
  refine J_sub [1, 2, 3, 4, 0] rfl ?_
  exact h
theorem M_X6_latest {Γ : GG} {l : Launch} {d : Nat} {Q : Option Value → St → Prop} {σ : St} (a1 : Int32) (a2 : Int32) (a3 : Int32) (k : J Γ l d mX6_latest Q 0 [(0, .ref 26), (1, .int a1), (2, .int a2), (3, .int a3)] [] σ) : Meth Γ l d mX6_latest [.ref 26, .int a1, .int a2, .int a3] σ Q := Meth_of_J (by decide +kernel) (fun _ => Nat.le_of_ble_eq_true rfl) (fun _ => rfl) k
set_option maxHeartbeats 4000000 in
set_option maxRecDepth 100000 in
theorem w_X6_valueOf_10 {Γ : GG} {l : Launch} {d : Nat} {Q : Option Value → St → Prop} {σ : St} (a1 : Int32) (a3 : Int32) (a4 : Int32) (h : vp_in a1 16 ∧ (rd σ 28 (a1.toNatClampNeg) ≤ a4 → Q (some (.int (0))) σ) ∧ (¬ rd σ 28 (a1.toNatClampNeg) ≤ a4 → vp_in a4 161 ∧ ∀ x3 : Int32, x3 = rd σ ((a1.toNatClampNeg) + 342) (a4.toNatClampNeg) → (x3 = ((-59) : Int32) → Meth Γ l (d + 1) mX6_pop [.ref 26] σ (KI (fun x11 σ10 => (a3 = (0 : Int32) → ∀ x12 : Int32, x12 = a4 + 1 → J Γ l (d + 2) mX6_valueOf Q 10 [(0, .ref 26), (1, .int a1), (2, .ref 33), (3, .int (1)), (4, .int x12)] [] σ10) ∧ (¬ a3 = (0 : Int32) → Q (some (.int x11)) σ10)))) ∧ (¬ x3 = ((-59) : Int32) → (x3 = ((-44) : Int32) → Meth Γ l (d + 1) mX6_pop [.ref 26] σ (KI (fun x7 σ6 => (x7 = (0 : Int32) → ∀ x8 : Int32, x8 = a4 + 1 → J Γ l (d + 2) mX6_valueOf Q 10 [(0, .ref 26), (1, .int a1), (2, .ref 33), (3, .int (0)), (4, .int x8)] [] σ6) ∧ (¬ x7 = (0 : Int32) → ∀ x9 : Int32, x9 = a4 + 1 → J Γ l (d + 2) mX6_valueOf Q 10 [(0, .ref 26), (1, .int a1), (2, .ref 33), (3, .int (1)), (4, .int x9)] [] σ6)))) ∧ (¬ x3 = ((-44) : Int32) → Meth Γ l (d + 1) mX6_work [.ref 26, .int x3, .ref 33] σ (KV (fun σ4 => ∀ x5 : Int32, x5 = a4 + 1 → J Γ l (d + 2) mX6_valueOf Q 10 [(0, .ref 26), (1, .int a1), (2, .ref 33), (3, .int a3), (4, .int x5)] [] σ4)))))) : J Γ l (d + 2) mX6_valueOf Q 10 [(0, .ref 26), (1, .int a1), (2, .ref 33), (3, .int a3), (4, .int a4)] [] σ := by
  refine J_iload (i := 4) (kk := 4) dX6_valueOf_10 rfl ?_
  refine J_aload_n (i := 0) (kk := 0) dX6_valueOf_12 rfl rfl ?_
  refine J_getR 28 (q := 26) (ci := 6) (kf := 1) kfX6_16 uxX6 rfl (by decide) rfl (by decide) rfl dX6_valueOf_13 ?_
  refine J_iload_n (i := 1) (kk := 1) dX6_valueOf_16 rfl rfl ?_
  have b1 := h.1
  replace h := h.2
  refine J_ald (a1.toNatClampNeg) rfl (by decide) rfl b1 dX6_valueOf_17 ?_
  refine J_icmp_ge 93 dX6_valueOf_18 (by decide) (fun hc => ?_) (fun hc => ?_)
  · replace h := h.1 hc
    refine J_iconst (v := 0) dX6_valueOf_93 (by decide) ?_
    exact J_iret rfl dX6_valueOf_94 h
  · replace h := h.2 hc
    refine J_aload_n (i := 0) (kk := 0) dX6_valueOf_21 rfl rfl ?_
    refine J_getR 27 (q := 26) (ci := 6) (kf := 0) kfX6_11 uxX6 rfl (by decide) rfl (by decide) rfl dX6_valueOf_22 ?_
    refine J_iload_n (i := 1) (kk := 1) dX6_valueOf_25 rfl rfl ?_
    refine J_aald2 (a1.toNatClampNeg) rfl (by decide) rfl b1 dX6_valueOf_26 ?_
    refine J_iload (i := 4) (kk := 4) dX6_valueOf_27 rfl ?_
    have b2 := h.1
    replace h := h.2
    refine J_ald (a4.toNatClampNeg) rfl (nc_row342 (vp_lt b1)) (sk_row342 (vp_lt b1)) b2 dX6_valueOf_29 ?_
    refine J_nameI (fun x3 ex3 => ?_)
    replace h := h x3 ex3
    refine J_istore (i := 5) (lv' := [(5, .int x3), (0, .ref 26), (1, .int a1), (2, .ref 33), (3, .int a3), (4, .int a4)]) dX6_valueOf_30 (by decide) rfl ?_
    refine J_iload (i := 5) (kk := 0) dX6_valueOf_32 rfl ?_
    refine J_bipush (v := (-59)) dX6_valueOf_34 (by decide) ?_
    refine J_icmp_ne 57 dX6_valueOf_36 (by decide) (fun hc => ?_) (fun hc => ?_)
    · replace h := h.2 hc
      refine J_iload (i := 5) (kk := 0) dX6_valueOf_57 rfl ?_
      refine J_bipush (v := (-44)) dX6_valueOf_59 (by decide) ?_
      refine J_icmp_ne 80 dX6_valueOf_61 (by decide) (fun hc => ?_) (fun hc => ?_)
      · replace h := h.2 hc
        refine J_aload_n (i := 0) (kk := 1) dX6_valueOf_80 rfl rfl ?_
        refine J_iload (i := 5) (kk := 0) dX6_valueOf_81 rfl ?_
        refine J_aload_n (i := 2) (kk := 3) dX6_valueOf_83 rfl rfl ?_
        refine J_callV [.int x3, .ref 33] [] calX6_work klX6_43 (b := 26) (ci := 6) (by decide) rfl rfl rfl rfl (Nat.le_of_ble_eq_true rfl) dX6_valueOf_84 (KV.to h ?_)
        clear h
        intro σ4 h
        obtain ⟨x5, ex5⟩ : ∃ y : Int32, y = a4 + 1 := ⟨_, rfl⟩
        replace h := h x5 ex5
        refine J_iinc (i := 4) (kk := 5) (v := x5) (lv' := [(4, .int x5), (5, .int x3), (0, .ref 26), (1, .int a1), (2, .ref 33), (3, .int a3)]) dX6_valueOf_87 rfl (by rw [ex5]; rfl) (by decide) rfl ?_
        refine J_goto (tgt := 10) dX6_valueOf_90 (by decide) ?_
        refine J_sub [2, 3, 4, 5, 0] rfl ?_
        exact h
      · replace h := h.1 hc
        refine J_aload_n (i := 0) (kk := 1) dX6_valueOf_64 rfl rfl ?_
        refine J_callV [] [] calX6_pop klX6_39 (b := 26) (ci := 6) (by decide) rfl rfl rfl rfl (Nat.le_of_ble_eq_true rfl) dX6_valueOf_65 (KI.to h ?_)
        clear h
        intro x7 σ6 h
        refine J_if_eq 75 dX6_valueOf_68 (by decide) (fun hc => ?_) (fun hc => ?_)
        · replace h := h.1 hc
          refine J_iconst (v := 0) dX6_valueOf_75 (by decide) ?_
          refine J_istore_n (i := 3) (lv' := [(3, .int (0)), (5, .int x3), (0, .ref 26), (1, .int a1), (2, .ref 33), (4, .int a4)]) dX6_valueOf_76 rfl (by decide) rfl ?_
          refine J_goto (tgt := 87) dX6_valueOf_77 (by decide) ?_
          obtain ⟨x8, ex8⟩ : ∃ y : Int32, y = a4 + 1 := ⟨_, rfl⟩
          replace h := h x8 ex8
          refine J_iinc (i := 4) (kk := 5) (v := x8) (lv' := [(4, .int x8), (3, .int (0)), (5, .int x3), (0, .ref 26), (1, .int a1), (2, .ref 33)]) dX6_valueOf_87 rfl (by rw [ex8]; rfl) (by decide) rfl ?_
          refine J_goto (tgt := 10) dX6_valueOf_90 (by decide) ?_
          refine J_sub [3, 4, 5, 1, 0] rfl ?_
          exact h
        · replace h := h.2 hc
          refine J_iconst (v := 1) dX6_valueOf_71 (by decide) ?_
          refine J_goto (tgt := 76) dX6_valueOf_72 (by decide) ?_
          refine J_istore_n (i := 3) (lv' := [(3, .int (1)), (5, .int x3), (0, .ref 26), (1, .int a1), (2, .ref 33), (4, .int a4)]) dX6_valueOf_76 rfl (by decide) rfl ?_
          refine J_goto (tgt := 87) dX6_valueOf_77 (by decide) ?_
          obtain ⟨x9, ex9⟩ : ∃ y : Int32, y = a4 + 1 := ⟨_, rfl⟩
          replace h := h x9 ex9
          refine J_iinc (i := 4) (kk := 5) (v := x9) (lv' := [(4, .int x9), (3, .int (1)), (5, .int x3), (0, .ref 26), (1, .int a1), (2, .ref 33)]) dX6_valueOf_87 rfl (by rw [ex9]; rfl) (by decide) rfl ?_
          refine J_goto (tgt := 10) dX6_valueOf_90 (by decide) ?_
          refine J_sub [3, 4, 5, 1, 0] rfl ?_
          exact h
    · replace h := h.1 hc
      refine J_aload_n (i := 0) (kk := 1) dX6_valueOf_39 rfl rfl ?_
      refine J_callV [] [] calX6_pop klX6_39 (b := 26) (ci := 6) (by decide) rfl rfl rfl rfl (Nat.le_of_ble_eq_true rfl) dX6_valueOf_40 (KI.to h ?_)
      clear h
      intro x11 σ10 h
      refine J_istore (i := 6) (lv' := [(6, .int x11), (5, .int x3), (0, .ref 26), (1, .int a1), (2, .ref 33), (3, .int a3), (4, .int a4)]) dX6_valueOf_43 (by decide) rfl ?_
      refine J_iload_n (i := 3) (kk := 5) dX6_valueOf_45 rfl rfl ?_
      refine J_if_eq 52 dX6_valueOf_46 (by decide) (fun hc => ?_) (fun hc => ?_)
      · replace h := h.1 hc
        refine J_iconst (v := 1) dX6_valueOf_52 (by decide) ?_
        refine J_istore_n (i := 3) (lv' := [(3, .int (1)), (6, .int x11), (5, .int x3), (0, .ref 26), (1, .int a1), (2, .ref 33), (4, .int a4)]) dX6_valueOf_53 rfl (by decide) rfl ?_
        refine J_goto (tgt := 87) dX6_valueOf_54 (by decide) ?_
        obtain ⟨x12, ex12⟩ : ∃ y : Int32, y = a4 + 1 := ⟨_, rfl⟩
        replace h := h x12 ex12
        refine J_iinc (i := 4) (kk := 6) (v := x12) (lv' := [(4, .int x12), (3, .int (1)), (6, .int x11), (5, .int x3), (0, .ref 26), (1, .int a1), (2, .ref 33)]) dX6_valueOf_87 rfl (by rw [ex12]; rfl) (by decide) rfl ?_
        refine J_goto (tgt := 10) dX6_valueOf_90 (by decide) ?_
        refine J_sub [4, 5, 6, 1, 0] rfl ?_
        exact h
      · replace h := h.2 hc
        refine J_iload (i := 6) (kk := 0) dX6_valueOf_49 rfl ?_
        exact J_iret rfl dX6_valueOf_51 h
set_option maxHeartbeats 4000000 in
set_option maxRecDepth 100000 in
theorem w_X6_valueOf_0 {Γ : GG} {l : Launch} {d : Nat} {Q : Option Value → St → Prop} {σ : St} (a1 : Int32) (h : J Γ l (d + 2) mX6_valueOf Q 10 [(0, .ref 26), (1, .int a1), (2, .ref 33), (3, .int (1)), (4, .int (0))] [] (wr σ 26 7 (0 : Int32))) : J Γ l (d + 2) mX6_valueOf Q 0 [(0, .ref 26), (1, .int a1), (2, .ref 33)] [] σ := by
  refine J_iconst (v := 1) dX6_valueOf_0 (by decide) ?_
  refine J_istore_n (i := 3) (lv' := [(3, .int (1)), (0, .ref 26), (1, .int a1), (2, .ref 33)]) dX6_valueOf_1 rfl (by decide) rfl ?_
  refine J_aload_n (i := 0) (kk := 1) dX6_valueOf_2 rfl rfl ?_
  refine J_iconst (v := 0) dX6_valueOf_3 (by decide) ?_
  refine J_putf (q := 26) (ci := 6) (kf := 7) (ty := .int) kfX6_36 uxX6 tyX6_ok nmX6 rfl (by decide) rfl (by decide) rfl rfl rfl rfl rfl dX6_valueOf_4 ?_
  refine J_iconst (v := 0) dX6_valueOf_7 (by decide) ?_
  refine J_istore (i := 4) (lv' := [(4, .int (0)), (3, .int (1)), (0, .ref 26), (1, .int a1), (2, .ref 33)]) dX6_valueOf_8 (by decide) rfl ?_
  refine J_sub [2, 3, 4, 1, 0] rfl ?_
  exact h
theorem M_X6_valueOf {Γ : GG} {l : Launch} {d : Nat} {Q : Option Value → St → Prop} {σ : St} (a1 : Int32) (k : J Γ l (d + 2) mX6_valueOf Q 0 [(0, .ref 26), (1, .int a1), (2, .ref 33)] [] σ) : Meth Γ l (d + 2) mX6_valueOf [.ref 26, .int a1, .ref 33] σ Q := Meth_of_J (by decide +kernel) (fun _ => Nat.le_of_ble_eq_true rfl) (fun _ => rfl) k
set_option maxHeartbeats 4000000 in
set_option maxRecDepth 100000 in
theorem w_X6_work_0 {Γ : GG} {l : Launch} {d : Nat} {Q : Option Value → St → Prop} {σ : St} (a1 : Int32) (h : (a1 < (0 : Int32) → Meth Γ l d mX4_isName [.int (-a1)] σ (KI (fun x2 σ1 => (x2 = (0 : Int32) → (a1 = ((-33) : Int32) → Meth Γ l d mX6_pop [.ref 26] σ1 (KI (fun x11 σ10 => (x11 = (0 : Int32) → Meth Γ l d mX6_push [.ref 26, .int (1)] σ10 (KV (fun σ13 => Q none σ13))) ∧ (¬ x11 = (0 : Int32) → Meth Γ l d mX6_push [.ref 26, .int (0)] σ10 (KV (fun σ12 => Q none σ12)))))) ∧ (¬ a1 = ((-33) : Int32) → Meth Γ l d mX6_pop [.ref 26] σ1 (KI (fun x4 σ3 => Meth Γ l d mX6_pop [.ref 26] σ3 (KI (fun x6 σ5 => Meth Γ l d mX6_join [.int x6, .int (-a1), .int x4] σ5 (KI (fun x8 σ7 => Meth Γ l d mX6_push [.ref 26, .int x8] σ7 (KV (fun σ9 => Q none σ9)))))))))) ∧ (¬ x2 = (0 : Int32) → Meth Γ l d mX4_named [.ref 33, .int (-a1)] σ1 (KI (fun x15 σ14 => Meth Γ l d mX6_push [.ref 26, .int x15] σ14 (KV (fun σ16 => Q none σ16)))))))) ∧ (¬ a1 < (0 : Int32) → Meth Γ l d mX6_push [.ref 26, .int a1] σ (KV (fun σ17 => Q none σ17)))) : J Γ l (d + 1) mX6_work Q 0 [(0, .ref 26), (1, .int a1), (2, .ref 33)] [] σ := by
  refine J_iload_n (i := 1) (kk := 1) dX6_work_0 rfl rfl ?_
  refine J_if_lt 12 dX6_work_1 (by decide) (fun hc => ?_) (fun hc => ?_)
  · replace h := h.1 hc
    refine J_iload_n (i := 1) (kk := 1) dX6_work_12 rfl rfl ?_
    refine J_ineg dX6_work_13 ?_
    refine J_callS [.int (-a1)] [] calX4_isName klX6_51 rfl rfl (Nat.le_of_ble_eq_true rfl) dX6_work_14 (KI.to h ?_)
    clear h
    intro x2 σ1 h
    refine J_if_eq 33 dX6_work_17 (by decide) (fun hc => ?_) (fun hc => ?_)
    · replace h := h.1 hc
      refine J_iload_n (i := 1) (kk := 1) dX6_work_33 rfl rfl ?_
      refine J_bipush (v := (-33)) dX6_work_34 (by decide) ?_
      refine J_icmp_ne 58 dX6_work_36 (by decide) (fun hc => ?_) (fun hc => ?_)
      · replace h := h.2 hc
        refine J_aload_n (i := 0) (kk := 0) dX6_work_58 rfl rfl ?_
        refine J_callV [] [] calX6_pop klX6_39 (b := 26) (ci := 6) (by decide) rfl rfl rfl rfl (Nat.le_of_ble_eq_true rfl) dX6_work_59 (KI.to h ?_)
        clear h
        intro x4 σ3 h
        refine J_istore_n (i := 3) (lv' := [(3, .int x4), (0, .ref 26), (1, .int a1), (2, .ref 33)]) dX6_work_62 rfl (by decide) rfl ?_
        refine J_aload_n (i := 0) (kk := 1) dX6_work_63 rfl rfl ?_
        refine J_aload_n (i := 0) (kk := 1) dX6_work_64 rfl rfl ?_
        refine J_callV [] [.ref 26] calX6_pop klX6_39 (b := 26) (ci := 6) (by decide) rfl rfl rfl rfl (Nat.le_of_ble_eq_true rfl) dX6_work_65 (KI.to h ?_)
        clear h
        intro x6 σ5 h
        refine J_iload_n (i := 1) (kk := 2) dX6_work_68 rfl rfl ?_
        refine J_ineg dX6_work_69 ?_
        refine J_iload_n (i := 3) (kk := 0) dX6_work_70 rfl rfl ?_
        refine J_callS [.int x6, .int (-a1), .int x4] [.ref 26] calX6_join klX6_61 rfl rfl (Nat.le_of_ble_eq_true rfl) dX6_work_71 (KI.to h ?_)
        clear h
        intro x8 σ7 h
        refine J_callV [.int x8] [] calX6_push klX6_47 (b := 26) (ci := 6) (by decide) rfl rfl rfl rfl (Nat.le_of_ble_eq_true rfl) dX6_work_74 (KV.to h ?_)
        clear h
        intro σ9 h
        exact J_vret rfl dX6_work_77 h
      · replace h := h.1 hc
        refine J_aload_n (i := 0) (kk := 0) dX6_work_39 rfl rfl ?_
        refine J_aload_n (i := 0) (kk := 0) dX6_work_40 rfl rfl ?_
        refine J_callV [] [.ref 26] calX6_pop klX6_39 (b := 26) (ci := 6) (by decide) rfl rfl rfl rfl (Nat.le_of_ble_eq_true rfl) dX6_work_41 (KI.to h ?_)
        clear h
        intro x11 σ10 h
        refine J_if_ne 51 dX6_work_44 (by decide) (fun hc => ?_) (fun hc => ?_)
        · replace h := h.2 hc
          refine J_iconst (v := 0) dX6_work_51 (by decide) ?_
          refine J_callV [.int (0)] [] calX6_push klX6_47 (b := 26) (ci := 6) (by decide) rfl rfl rfl rfl (Nat.le_of_ble_eq_true rfl) dX6_work_52 (KV.to h ?_)
          clear h
          intro σ12 h
          refine J_goto (tgt := 77) dX6_work_55 (by decide) ?_
          exact J_vret rfl dX6_work_77 h
        · replace h := h.1 hc
          refine J_iconst (v := 1) dX6_work_47 (by decide) ?_
          refine J_goto (tgt := 52) dX6_work_48 (by decide) ?_
          refine J_callV [.int (1)] [] calX6_push klX6_47 (b := 26) (ci := 6) (by decide) rfl rfl rfl rfl (Nat.le_of_ble_eq_true rfl) dX6_work_52 (KV.to h ?_)
          clear h
          intro σ13 h
          refine J_goto (tgt := 77) dX6_work_55 (by decide) ?_
          exact J_vret rfl dX6_work_77 h
    · replace h := h.2 hc
      refine J_aload_n (i := 0) (kk := 0) dX6_work_20 rfl rfl ?_
      refine J_aload_n (i := 2) (kk := 2) dX6_work_21 rfl rfl ?_
      refine J_iload_n (i := 1) (kk := 1) dX6_work_22 rfl rfl ?_
      refine J_ineg dX6_work_23 ?_
      refine J_callV [.int (-a1)] [.ref 26] calX4_named klX6_57 (b := 33) (ci := 4) (by decide) rfl rfl rfl rfl (Nat.le_of_ble_eq_true rfl) dX6_work_24 (KI.to h ?_)
      clear h
      intro x15 σ14 h
      refine J_callV [.int x15] [] calX6_push klX6_47 (b := 26) (ci := 6) (by decide) rfl rfl rfl rfl (Nat.le_of_ble_eq_true rfl) dX6_work_27 (KV.to h ?_)
      clear h
      intro σ16 h
      refine J_goto (tgt := 77) dX6_work_30 (by decide) ?_
      exact J_vret rfl dX6_work_77 h
  · replace h := h.2 hc
    refine J_aload_n (i := 0) (kk := 0) dX6_work_4 rfl rfl ?_
    refine J_iload_n (i := 1) (kk := 1) dX6_work_5 rfl rfl ?_
    refine J_callV [.int a1] [] calX6_push klX6_47 (b := 26) (ci := 6) (by decide) rfl rfl rfl rfl (Nat.le_of_ble_eq_true rfl) dX6_work_6 (KV.to h ?_)
    clear h
    intro σ17 h
    refine J_goto (tgt := 77) dX6_work_9 (by decide) ?_
    exact J_vret rfl dX6_work_77 h
theorem M_X6_work {Γ : GG} {l : Launch} {d : Nat} {Q : Option Value → St → Prop} {σ : St} (a1 : Int32) (k : J Γ l (d + 1) mX6_work Q 0 [(0, .ref 26), (1, .int a1), (2, .ref 33)] [] σ) : Meth Γ l (d + 1) mX6_work [.ref 26, .int a1, .ref 33] σ Q := Meth_of_J (by decide +kernel) (fun _ => Nat.le_of_ble_eq_true rfl) (fun _ => rfl) k
set_option maxHeartbeats 4000000 in
set_option maxRecDepth 100000 in
theorem w_X6_push_0 {Γ : GG} {l : Launch} {d : Nat} {Q : Option Value → St → Prop} {σ : St} (a1 : Int32) (h : ((160 : Int32) ≤ rd σ 26 7 → Q none σ) ∧ (¬ (160 : Int32) ≤ rd σ 26 7 → vp_in (rd σ 26 7) 160 ∧ Q none (wr (wr σ 32 ((rd σ 26 7).toNatClampNeg) a1) 26 7 ((rd σ 26 7) + (1 : Int32))))) : J Γ l d mX6_push Q 0 [(0, .ref 26), (1, .int a1)] [] σ := by
  refine J_aload_n (i := 0) (kk := 0) dX6_push_0 rfl rfl ?_
  refine J_getI (q := 26) (ci := 6) (kf := 7) kfX6_36 uxX6 rfl (by decide) rfl (by decide) rfl dX6_push_1 ?_
  refine J_sipush (v := 160) dX6_push_4 (by decide) ?_
  refine J_icmp_ge 30 dX6_push_7 (by decide) (fun hc => ?_) (fun hc => ?_)
  · replace h := h.1 hc
    exact J_vret rfl dX6_push_30 h
  · replace h := h.2 hc
    refine J_aload_n (i := 0) (kk := 0) dX6_push_10 rfl rfl ?_
    refine J_getR 32 (q := 26) (ci := 6) (kf := 6) kfX6_33 uxX6 rfl (by decide) rfl (by decide) rfl dX6_push_11 ?_
    refine J_aload_n (i := 0) (kk := 0) dX6_push_14 rfl rfl ?_
    refine J_getI (q := 26) (ci := 6) (kf := 7) kfX6_36 uxX6 rfl (by decide) rfl (by decide) rfl dX6_push_15 ?_
    refine J_iload_n (i := 1) (kk := 1) dX6_push_18 rfl rfl ?_
    have b1 := h.1
    replace h := h.2
    refine J_ast ((rd σ 26 7).toNatClampNeg) rfl (by decide) rfl b1 dX6_push_19 ?_
    refine J_aload_n (i := 0) (kk := 0) dX6_push_20 rfl rfl ?_
    refine J_dup dX6_push_21 rfl ?_
    refine J_getI (q := 26) (ci := 6) (kf := 7) kfX6_36 uxX6 rfl (by decide) rfl (by decide) rfl dX6_push_22 ?_
    refine J_eqI (y := rd σ 26 7) rfl ?_
    refine J_iconst (v := 1) dX6_push_25 (by decide) ?_
    refine J_iadd dX6_push_26 ?_
    refine J_putf (q := 26) (ci := 6) (kf := 7) (ty := .int) kfX6_36 uxX6 tyX6_ok nmX6 rfl (by decide) rfl (by decide) rfl rfl rfl rfl rfl dX6_push_27 ?_
    exact J_vret rfl dX6_push_30 h
theorem M_X6_push {Γ : GG} {l : Launch} {d : Nat} {Q : Option Value → St → Prop} {σ : St} (a1 : Int32) (k : J Γ l d mX6_push Q 0 [(0, .ref 26), (1, .int a1)] [] σ) : Meth Γ l d mX6_push [.ref 26, .int a1] σ Q := Meth_of_J (by decide +kernel) (fun _ => Nat.le_of_ble_eq_true rfl) (fun _ => rfl) k
set_option maxHeartbeats 4000000 in
set_option maxRecDepth 100000 in
theorem w_X6_pop_0 {Γ : GG} {l : Launch} {d : Nat} {Q : Option Value → St → Prop} {σ : St}  (h : (rd σ 26 7 = (0 : Int32) → Q (some (.int (0))) σ) ∧ (¬ rd σ 26 7 = (0 : Int32) → vp_in ((rd σ 26 7) - (1 : Int32)) 160 ∧ Q (some (.int (rd σ 32 (((rd σ 26 7) - (1 : Int32)).toNatClampNeg)))) (wr σ 26 7 ((rd σ 26 7) - (1 : Int32))))) : J Γ l d mX6_pop Q 0 [(0, .ref 26)] [] σ := by
  refine J_aload_n (i := 0) (kk := 0) dX6_pop_0 rfl rfl ?_
  refine J_getI (q := 26) (ci := 6) (kf := 7) kfX6_36 uxX6 rfl (by decide) rfl (by decide) rfl dX6_pop_1 ?_
  refine J_if_ne 9 dX6_pop_4 (by decide) (fun hc => ?_) (fun hc => ?_)
  · replace h := h.2 hc
    refine J_aload_n (i := 0) (kk := 0) dX6_pop_9 rfl rfl ?_
    refine J_dup dX6_pop_10 rfl ?_
    refine J_getI (q := 26) (ci := 6) (kf := 7) kfX6_36 uxX6 rfl (by decide) rfl (by decide) rfl dX6_pop_11 ?_
    refine J_iconst (v := 1) dX6_pop_14 (by decide) ?_
    refine J_isub dX6_pop_15 ?_
    refine J_putf (q := 26) (ci := 6) (kf := 7) (ty := .int) kfX6_36 uxX6 tyX6_ok nmX6 rfl (by decide) rfl (by decide) rfl rfl rfl rfl rfl dX6_pop_16 ?_
    refine J_aload_n (i := 0) (kk := 0) dX6_pop_19 rfl rfl ?_
    refine J_getR 32 (q := 26) (ci := 6) (kf := 6) kfX6_33 uxX6 rfl (by decide) rfl (by decide) rfl dX6_pop_20 ?_
    refine J_aload_n (i := 0) (kk := 0) dX6_pop_23 rfl rfl ?_
    refine J_getI (q := 26) (ci := 6) (kf := 7) kfX6_36 uxX6 rfl (by decide) rfl (by decide) rfl dX6_pop_24 ?_
    refine J_eqI (y := ((rd σ 26 7) - (1 : Int32))) rfl ?_
    have b1 := h.1
    replace h := h.2
    refine J_ald (((rd σ 26 7) - (1 : Int32)).toNatClampNeg) rfl (by decide) rfl b1 dX6_pop_27 ?_
    refine J_eqI (y := rd σ 32 (((rd σ 26 7) - (1 : Int32)).toNatClampNeg)) rfl ?_
    exact J_iret rfl dX6_pop_28 h
  · replace h := h.1 hc
    refine J_iconst (v := 0) dX6_pop_7 (by decide) ?_
    exact J_iret rfl dX6_pop_8 h
theorem M_X6_pop {Γ : GG} {l : Launch} {d : Nat} {Q : Option Value → St → Prop} {σ : St}  (k : J Γ l d mX6_pop Q 0 [(0, .ref 26)] [] σ) : Meth Γ l d mX6_pop [.ref 26] σ Q := Meth_of_J (by decide +kernel) (fun _ => Nat.le_of_ble_eq_true rfl) (fun _ => rfl) k
set_option maxHeartbeats 4000000 in
set_option maxRecDepth 100000 in
theorem w_X6_join_0 {Γ : GG} {l : Launch} {d : Nat} {Q : Option Value → St → Prop} {σ : St} (a0 : Int32) (a1 : Int32) (a2 : Int32) (h : (a1.toInt = 38 → (a0 = (0 : Int32) → Q (some (.int (0))) σ) ∧ (¬ a0 = (0 : Int32) → (a2 = (0 : Int32) → Q (some (.int (0))) σ) ∧ (¬ a2 = (0 : Int32) → Q (some (.int (1))) σ))) ∧ (a1.toInt = 42 → Q (some (.int (a0 * a2))) σ) ∧ (a1.toInt = 43 → Q (some (.int (a0 + a2))) σ) ∧ (a1.toInt = 45 → Q (some (.int (a0 - a2))) σ) ∧ (a1.toInt = 47 → (a2 = (0 : Int32) → Q (some (.int (0))) σ) ∧ (¬ a2 = (0 : Int32) → ¬ a2 = 0 ∧ Q (some (.int (a0 / a2))) σ)) ∧ (a1.toInt = 60 → (a2 ≤ a0 → Q (some (.int (0))) σ) ∧ (¬ a2 ≤ a0 → Q (some (.int (1))) σ)) ∧ (a1.toInt = 61 → (a0 = a2 → Q (some (.int (1))) σ) ∧ (¬ a0 = a2 → Q (some (.int (0))) σ)) ∧ (a1.toInt = 62 → (a0 ≤ a2 → Q (some (.int (0))) σ) ∧ (¬ a0 ≤ a2 → Q (some (.int (1))) σ)) ∧ (a1.toInt = 124 → (a0 = (0 : Int32) → (a2 = (0 : Int32) → Q (some (.int (0))) σ) ∧ (¬ a2 = (0 : Int32) → Q (some (.int (1))) σ)) ∧ (¬ a0 = (0 : Int32) → Q (some (.int (1))) σ)) ∧ (¬ a1.toInt = 38 → ¬ a1.toInt = 42 → ¬ a1.toInt = 43 → ¬ a1.toInt = 45 → ¬ a1.toInt = 47 → ¬ a1.toInt = 60 → ¬ a1.toInt = 61 → ¬ a1.toInt = 62 → ¬ a1.toInt = 124 → Q (some (.int (0))) σ)) : J Γ l d mX6_join Q 0 [(0, .int a0), (1, .int a1), (2, .int a2)] [] σ := by
  refine J_iload_n (i := 1) (kk := 1) dX6_join_0 rfl rfl ?_
  by_cases hc : a1.toInt = 38
  · replace h := h.1 hc
    refine J_lookup (off := 97) 98 dX6_join_1 (by decide) (by rw [hc] <;> rfl) (by decide) ?_
    refine J_iload_n (i := 0) (kk := 0) dX6_join_98 rfl rfl ?_
    refine J_if_eq 110 dX6_join_99 (by decide) (fun hc => ?_) (fun hc => ?_)
    · replace h := h.1 hc
      refine J_iconst (v := 0) dX6_join_110 (by decide) ?_
      exact J_iret rfl dX6_join_111 h
    · replace h := h.2 hc
      refine J_iload_n (i := 2) (kk := 2) dX6_join_102 rfl rfl ?_
      refine J_if_eq 110 dX6_join_103 (by decide) (fun hc => ?_) (fun hc => ?_)
      · replace h := h.1 hc
        refine J_iconst (v := 0) dX6_join_110 (by decide) ?_
        exact J_iret rfl dX6_join_111 h
      · replace h := h.2 hc
        refine J_iconst (v := 1) dX6_join_106 (by decide) ?_
        refine J_goto (tgt := 111) dX6_join_107 (by decide) ?_
        exact J_iret rfl dX6_join_111 h
  have hn38 := hc
  by_cases hc : a1.toInt = 42
  · replace h := h.2.1 hc
    refine J_lookup (off := 152) 153 dX6_join_1 (by decide) (by rw [hc] <;> rfl) (by decide) ?_
    refine J_iload_n (i := 0) (kk := 0) dX6_join_153 rfl rfl ?_
    refine J_iload_n (i := 2) (kk := 2) dX6_join_154 rfl rfl ?_
    refine J_imul dX6_join_155 ?_
    exact J_iret rfl dX6_join_156 h
  have hn42 := hc
  by_cases hc : a1.toInt = 43
  · replace h := h.2.2.1 hc
    refine J_lookup (off := 144) 145 dX6_join_1 (by decide) (by rw [hc] <;> rfl) (by decide) ?_
    refine J_iload_n (i := 0) (kk := 0) dX6_join_145 rfl rfl ?_
    refine J_iload_n (i := 2) (kk := 2) dX6_join_146 rfl rfl ?_
    refine J_iadd dX6_join_147 ?_
    exact J_iret rfl dX6_join_148 h
  have hn43 := hc
  by_cases hc : a1.toInt = 45
  · replace h := h.2.2.2.1 hc
    refine J_lookup (off := 148) 149 dX6_join_1 (by decide) (by rw [hc] <;> rfl) (by decide) ?_
    refine J_iload_n (i := 0) (kk := 0) dX6_join_149 rfl rfl ?_
    refine J_iload_n (i := 2) (kk := 2) dX6_join_150 rfl rfl ?_
    refine J_isub dX6_join_151 ?_
    exact J_iret rfl dX6_join_152 h
  have hn45 := hc
  by_cases hc : a1.toInt = 47
  · replace h := h.2.2.2.2.1 hc
    refine J_lookup (off := 156) 157 dX6_join_1 (by decide) (by rw [hc] <;> rfl) (by decide) ?_
    refine J_iload_n (i := 2) (kk := 2) dX6_join_157 rfl rfl ?_
    refine J_if_ne 165 dX6_join_158 (by decide) (fun hc => ?_) (fun hc => ?_)
    · replace h := h.2 hc
      refine J_iload_n (i := 0) (kk := 0) dX6_join_165 rfl rfl ?_
      refine J_iload_n (i := 2) (kk := 2) dX6_join_166 rfl rfl ?_
      have hz := h.1
      replace h := h.2
      refine J_idiv dX6_join_167 hz ?_
      exact J_iret rfl dX6_join_168 h
    · replace h := h.1 hc
      refine J_iconst (v := 0) dX6_join_161 (by decide) ?_
      refine J_goto (tgt := 168) dX6_join_162 (by decide) ?_
      exact J_iret rfl dX6_join_168 h
  have hn47 := hc
  by_cases hc : a1.toInt = 60
  · replace h := h.2.2.2.2.2.1 hc
    refine J_lookup (off := 111) 112 dX6_join_1 (by decide) (by rw [hc] <;> rfl) (by decide) ?_
    refine J_iload_n (i := 0) (kk := 0) dX6_join_112 rfl rfl ?_
    refine J_iload_n (i := 2) (kk := 2) dX6_join_113 rfl rfl ?_
    refine J_icmp_ge 121 dX6_join_114 (by decide) (fun hc => ?_) (fun hc => ?_)
    · replace h := h.1 hc
      refine J_iconst (v := 0) dX6_join_121 (by decide) ?_
      exact J_iret rfl dX6_join_122 h
    · replace h := h.2 hc
      refine J_iconst (v := 1) dX6_join_117 (by decide) ?_
      refine J_goto (tgt := 122) dX6_join_118 (by decide) ?_
      exact J_iret rfl dX6_join_122 h
  have hn60 := hc
  by_cases hc : a1.toInt = 61
  · replace h := h.2.2.2.2.2.2.1 hc
    refine J_lookup (off := 122) 123 dX6_join_1 (by decide) (by rw [hc] <;> rfl) (by decide) ?_
    refine J_iload_n (i := 0) (kk := 0) dX6_join_123 rfl rfl ?_
    refine J_iload_n (i := 2) (kk := 2) dX6_join_124 rfl rfl ?_
    refine J_icmp_ne 132 dX6_join_125 (by decide) (fun hc => ?_) (fun hc => ?_)
    · replace h := h.2 hc
      refine J_iconst (v := 0) dX6_join_132 (by decide) ?_
      exact J_iret rfl dX6_join_133 h
    · replace h := h.1 hc
      refine J_iconst (v := 1) dX6_join_128 (by decide) ?_
      refine J_goto (tgt := 133) dX6_join_129 (by decide) ?_
      exact J_iret rfl dX6_join_133 h
  have hn61 := hc
  by_cases hc : a1.toInt = 62
  · replace h := h.2.2.2.2.2.2.2.1 hc
    refine J_lookup (off := 133) 134 dX6_join_1 (by decide) (by rw [hc] <;> rfl) (by decide) ?_
    refine J_iload_n (i := 0) (kk := 0) dX6_join_134 rfl rfl ?_
    refine J_iload_n (i := 2) (kk := 2) dX6_join_135 rfl rfl ?_
    refine J_icmp_le 143 dX6_join_136 (by decide) (fun hc => ?_) (fun hc => ?_)
    · replace h := h.1 hc
      refine J_iconst (v := 0) dX6_join_143 (by decide) ?_
      exact J_iret rfl dX6_join_144 h
    · replace h := h.2 hc
      refine J_iconst (v := 1) dX6_join_139 (by decide) ?_
      refine J_goto (tgt := 144) dX6_join_140 (by decide) ?_
      exact J_iret rfl dX6_join_144 h
  have hn62 := hc
  by_cases hc : a1.toInt = 124
  · replace h := h.2.2.2.2.2.2.2.2.1 hc
    refine J_lookup (off := 83) 84 dX6_join_1 (by decide) (by rw [hc] <;> rfl) (by decide) ?_
    refine J_iload_n (i := 0) (kk := 0) dX6_join_84 rfl rfl ?_
    refine J_if_ne 92 dX6_join_85 (by decide) (fun hc => ?_) (fun hc => ?_)
    · replace h := h.2 hc
      refine J_iconst (v := 1) dX6_join_92 (by decide) ?_
      refine J_goto (tgt := 97) dX6_join_93 (by decide) ?_
      exact J_iret rfl dX6_join_97 h
    · replace h := h.1 hc
      refine J_iload_n (i := 2) (kk := 2) dX6_join_88 rfl rfl ?_
      refine J_if_eq 96 dX6_join_89 (by decide) (fun hc => ?_) (fun hc => ?_)
      · replace h := h.1 hc
        refine J_iconst (v := 0) dX6_join_96 (by decide) ?_
        exact J_iret rfl dX6_join_97 h
      · replace h := h.2 hc
        refine J_iconst (v := 1) dX6_join_92 (by decide) ?_
        refine J_goto (tgt := 97) dX6_join_93 (by decide) ?_
        exact J_iret rfl dX6_join_97 h
  have hn124 := hc
  replace h := h.2.2.2.2.2.2.2.2.2 hn38 hn42 hn43 hn45 hn47 hn60 hn61 hn62 hn124
  refine J_lookup (off := 168) 169 dX6_join_1 (by decide) (by rw [Op.lookupswitch.offset_cons, if_neg (Ne.symm hn38), Op.lookupswitch.offset_cons, if_neg (Ne.symm hn42), Op.lookupswitch.offset_cons, if_neg (Ne.symm hn43), Op.lookupswitch.offset_cons, if_neg (Ne.symm hn45), Op.lookupswitch.offset_cons, if_neg (Ne.symm hn47), Op.lookupswitch.offset_cons, if_neg (Ne.symm hn60), Op.lookupswitch.offset_cons, if_neg (Ne.symm hn61), Op.lookupswitch.offset_cons, if_neg (Ne.symm hn62), Op.lookupswitch.offset_cons, if_neg (Ne.symm hn124)] <;> rfl) (by decide) ?_
  refine J_iconst (v := 0) dX6_join_169 (by decide) ?_
  exact J_iret rfl dX6_join_170 h
theorem M_X6_join {Γ : GG} {l : Launch} {d : Nat} {Q : Option Value → St → Prop} {σ : St} (a0 : Int32) (a1 : Int32) (a2 : Int32) (k : J Γ l d mX6_join Q 0 [(0, .int a0), (1, .int a1), (2, .int a2)] [] σ) : Meth Γ l d mX6_join [.int a0, .int a1, .int a2] σ Q := Meth_of_J (by decide +kernel) (fun _ => Nat.le_of_ble_eq_true rfl) (fun _ => rfl) k
set_option maxHeartbeats 4000000 in
set_option maxRecDepth 100000 in
theorem w_X7_add_5_0 {Γ : GG} {l : Launch} {d : Nat} {Q : Option Value → St → Prop} {σ : St} (a1 : Int32) (h : (rd σ 5 1 < (12 : Int32) → vp_in (rd σ 5 1) 12 ∧ Q (some (.int (((rd σ 5 1) + (1 : Int32)) - (1 : Int32)))) (wr (wr σ 6 ((rd σ 5 1).toNatClampNeg) a1) 5 1 ((rd σ 5 1) + (1 : Int32)))) ∧ (¬ rd σ 5 1 < (12 : Int32) → Q (some (.int ((-3)))) σ)) : J Γ l d mX7_add Q 0 [(0, .ref 5), (1, .int a1)] [] σ := by
  refine J_aload_n (i := 0) (kk := 0) dX7_add_0 rfl rfl ?_
  refine J_getI (q := 5) (ci := 7) (kf := 1) kfX7_9 uxX7 rfl (by decide) rfl (by decide) rfl dX7_add_1 ?_
  refine J_aload_n (i := 0) (kk := 0) dX7_add_4 rfl rfl ?_
  refine J_getR 6 (q := 5) (ci := 7) (kf := 0) kfX7_21 uxX7 rfl (by decide) rfl (by decide) rfl dX7_add_5 ?_
  refine J_alen (v := 12) (by decide) rfl (by decide) (by decide) dX7_add_8 ?_
  refine J_icmp_lt 15 dX7_add_9 (by decide) (fun hc => ?_) (fun hc => ?_)
  · replace h := h.1 hc
    refine J_aload_n (i := 0) (kk := 0) dX7_add_15 rfl rfl ?_
    refine J_getR 6 (q := 5) (ci := 7) (kf := 0) kfX7_21 uxX7 rfl (by decide) rfl (by decide) rfl dX7_add_16 ?_
    refine J_aload_n (i := 0) (kk := 0) dX7_add_19 rfl rfl ?_
    refine J_getI (q := 5) (ci := 7) (kf := 1) kfX7_9 uxX7 rfl (by decide) rfl (by decide) rfl dX7_add_20 ?_
    refine J_iload_n (i := 1) (kk := 1) dX7_add_23 rfl rfl ?_
    have b1 := h.1
    replace h := h.2
    refine J_ast ((rd σ 5 1).toNatClampNeg) rfl (by decide) rfl b1 dX7_add_24 ?_
    refine J_aload_n (i := 0) (kk := 0) dX7_add_25 rfl rfl ?_
    refine J_dup dX7_add_26 rfl ?_
    refine J_getI (q := 5) (ci := 7) (kf := 1) kfX7_9 uxX7 rfl (by decide) rfl (by decide) rfl dX7_add_27 ?_
    refine J_eqI (y := rd σ 5 1) rfl ?_
    refine J_iconst (v := 1) dX7_add_30 (by decide) ?_
    refine J_iadd dX7_add_31 ?_
    refine J_putf (q := 5) (ci := 7) (kf := 1) (ty := .int) kfX7_9 uxX7 tyX7_ok nmX7 rfl (by decide) rfl (by decide) rfl rfl rfl rfl rfl dX7_add_32 ?_
    refine J_aload_n (i := 0) (kk := 0) dX7_add_35 rfl rfl ?_
    refine J_getI (q := 5) (ci := 7) (kf := 1) kfX7_9 uxX7 rfl (by decide) rfl (by decide) rfl dX7_add_36 ?_
    refine J_eqI (y := ((rd σ 5 1) + (1 : Int32))) rfl ?_
    refine J_iconst (v := 1) dX7_add_39 (by decide) ?_
    refine J_isub dX7_add_40 ?_
    exact J_iret rfl dX7_add_41 h
  · replace h := h.2 hc
    refine J_bipush (v := (-3)) dX7_add_12 (by decide) ?_
    exact J_iret rfl dX7_add_14 h
theorem M_X7_add_5 {Γ : GG} {l : Launch} {d : Nat} {Q : Option Value → St → Prop} {σ : St} (a1 : Int32) (k : J Γ l d mX7_add Q 0 [(0, .ref 5), (1, .int a1)] [] σ) : Meth Γ l d mX7_add [.ref 5, .int a1] σ Q := Meth_of_J (by decide +kernel) (fun _ => Nat.le_of_ble_eq_true rfl) (fun _ => rfl) k
set_option maxHeartbeats 4000000 in
set_option maxRecDepth 100000 in
theorem w_X7_add_55_0 {Γ : GG} {l : Launch} {d : Nat} {Q : Option Value → St → Prop} {σ : St} (a1 : Int32) (h : (rd σ 55 1 < (10 : Int32) → vp_in (rd σ 55 1) 10 ∧ Q (some (.int (((rd σ 55 1) + (1 : Int32)) - (1 : Int32)))) (wr (wr σ 56 ((rd σ 55 1).toNatClampNeg) a1) 55 1 ((rd σ 55 1) + (1 : Int32)))) ∧ (¬ rd σ 55 1 < (10 : Int32) → Q (some (.int ((-3)))) σ)) : J Γ l d mX7_add Q 0 [(0, .ref 55), (1, .int a1)] [] σ := by
  refine J_aload_n (i := 0) (kk := 0) dX7_add_0 rfl rfl ?_
  refine J_getI (q := 55) (ci := 7) (kf := 1) kfX7_9 uxX7 rfl (by decide) rfl (by decide) rfl dX7_add_1 ?_
  refine J_aload_n (i := 0) (kk := 0) dX7_add_4 rfl rfl ?_
  refine J_getR 56 (q := 55) (ci := 7) (kf := 0) kfX7_21 uxX7 rfl (by decide) rfl (by decide) rfl dX7_add_5 ?_
  refine J_alen (v := 10) (by decide) rfl (by decide) (by decide) dX7_add_8 ?_
  refine J_icmp_lt 15 dX7_add_9 (by decide) (fun hc => ?_) (fun hc => ?_)
  · replace h := h.1 hc
    refine J_aload_n (i := 0) (kk := 0) dX7_add_15 rfl rfl ?_
    refine J_getR 56 (q := 55) (ci := 7) (kf := 0) kfX7_21 uxX7 rfl (by decide) rfl (by decide) rfl dX7_add_16 ?_
    refine J_aload_n (i := 0) (kk := 0) dX7_add_19 rfl rfl ?_
    refine J_getI (q := 55) (ci := 7) (kf := 1) kfX7_9 uxX7 rfl (by decide) rfl (by decide) rfl dX7_add_20 ?_
    refine J_iload_n (i := 1) (kk := 1) dX7_add_23 rfl rfl ?_
    have b1 := h.1
    replace h := h.2
    refine J_ast ((rd σ 55 1).toNatClampNeg) rfl (by decide) rfl b1 dX7_add_24 ?_
    refine J_aload_n (i := 0) (kk := 0) dX7_add_25 rfl rfl ?_
    refine J_dup dX7_add_26 rfl ?_
    refine J_getI (q := 55) (ci := 7) (kf := 1) kfX7_9 uxX7 rfl (by decide) rfl (by decide) rfl dX7_add_27 ?_
    refine J_eqI (y := rd σ 55 1) rfl ?_
    refine J_iconst (v := 1) dX7_add_30 (by decide) ?_
    refine J_iadd dX7_add_31 ?_
    refine J_putf (q := 55) (ci := 7) (kf := 1) (ty := .int) kfX7_9 uxX7 tyX7_ok nmX7 rfl (by decide) rfl (by decide) rfl rfl rfl rfl rfl dX7_add_32 ?_
    refine J_aload_n (i := 0) (kk := 0) dX7_add_35 rfl rfl ?_
    refine J_getI (q := 55) (ci := 7) (kf := 1) kfX7_9 uxX7 rfl (by decide) rfl (by decide) rfl dX7_add_36 ?_
    refine J_eqI (y := ((rd σ 55 1) + (1 : Int32))) rfl ?_
    refine J_iconst (v := 1) dX7_add_39 (by decide) ?_
    refine J_isub dX7_add_40 ?_
    exact J_iret rfl dX7_add_41 h
  · replace h := h.2 hc
    refine J_bipush (v := (-3)) dX7_add_12 (by decide) ?_
    exact J_iret rfl dX7_add_14 h
theorem M_X7_add_55 {Γ : GG} {l : Launch} {d : Nat} {Q : Option Value → St → Prop} {σ : St} (a1 : Int32) (k : J Γ l d mX7_add Q 0 [(0, .ref 55), (1, .int a1)] [] σ) : Meth Γ l d mX7_add [.ref 55, .int a1] σ Q := Meth_of_J (by decide +kernel) (fun _ => Nat.le_of_ble_eq_true rfl) (fun _ => rfl) k
set_option maxHeartbeats 4000000 in
set_option maxRecDepth 100000 in
theorem w_X7_milesTo_5_0 {Γ : GG} {l : Launch} {d : Nat} {Q : Option Value → St → Prop} {σ : St} (a1 : Int32) (a3 : Int32) (h : vp_in a1 12 ∧ vp_in a3 12 ∧ ∀ x3 : Int32, x3 = ((rd σ 6 (a1.toNatClampNeg)) / (100 : Int32)) - ((rd σ 6 (a3.toNatClampNeg)) / (100 : Int32)) → ∀ x4 : Int32, x4 = ((rd σ 6 (a1.toNatClampNeg)) - (rd σ 6 (a1.toNatClampNeg)) / (100 : Int32) * (100 : Int32)) - ((rd σ 6 (a3.toNatClampNeg)) - (rd σ 6 (a3.toNatClampNeg)) / (100 : Int32) * (100 : Int32)) → Q (some (.int ((abI x3) + (abI x4)))) σ) : J Γ l (d + 1) mX7_milesTo Q 0 [(0, .ref 5), (1, .int a1), (2, .ref 5), (3, .int a3)] [] σ := by
  refine J_aload_n (i := 0) (kk := 0) dX7_milesTo_0 rfl rfl ?_
  refine J_getR 6 (q := 5) (ci := 7) (kf := 0) kfX7_21 uxX7 rfl (by decide) rfl (by decide) rfl dX7_milesTo_1 ?_
  refine J_iload_n (i := 1) (kk := 1) dX7_milesTo_4 rfl rfl ?_
  have b1 := h.1
  replace h := h.2
  refine J_ald (a1.toNatClampNeg) rfl (by decide) rfl b1 dX7_milesTo_5 ?_
  refine J_bipush (v := 100) dX7_milesTo_6 (by decide) ?_
  refine J_idiv dX7_milesTo_8 (by decide) ?_
  refine J_aload_n (i := 2) (kk := 2) dX7_milesTo_9 rfl rfl ?_
  refine J_getR 6 (q := 5) (ci := 7) (kf := 0) kfX7_21 uxX7 rfl (by decide) rfl (by decide) rfl dX7_milesTo_10 ?_
  refine J_iload_n (i := 3) (kk := 3) dX7_milesTo_13 rfl rfl ?_
  have b2 := h.1
  replace h := h.2
  refine J_ald (a3.toNatClampNeg) rfl (by decide) rfl b2 dX7_milesTo_14 ?_
  refine J_bipush (v := 100) dX7_milesTo_15 (by decide) ?_
  refine J_idiv dX7_milesTo_17 (by decide) ?_
  refine J_isub dX7_milesTo_18 ?_
  refine J_nameI (fun x3 ex3 => ?_)
  replace h := h x3 ex3
  refine J_istore (i := 4) (lv' := [(4, .int x3), (0, .ref 5), (1, .int a1), (2, .ref 5), (3, .int a3)]) dX7_milesTo_19 (by decide) rfl ?_
  refine J_aload_n (i := 0) (kk := 1) dX7_milesTo_21 rfl rfl ?_
  refine J_getR 6 (q := 5) (ci := 7) (kf := 0) kfX7_21 uxX7 rfl (by decide) rfl (by decide) rfl dX7_milesTo_22 ?_
  refine J_iload_n (i := 1) (kk := 2) dX7_milesTo_25 rfl rfl ?_
  refine J_ald (a1.toNatClampNeg) rfl (by decide) rfl b1 dX7_milesTo_26 ?_
  refine J_bipush (v := 100) dX7_milesTo_27 (by decide) ?_
  refine J_irem dX7_milesTo_29 (by decide) ?_
  refine J_aload_n (i := 2) (kk := 3) dX7_milesTo_30 rfl rfl ?_
  refine J_getR 6 (q := 5) (ci := 7) (kf := 0) kfX7_21 uxX7 rfl (by decide) rfl (by decide) rfl dX7_milesTo_31 ?_
  refine J_iload_n (i := 3) (kk := 4) dX7_milesTo_34 rfl rfl ?_
  refine J_ald (a3.toNatClampNeg) rfl (by decide) rfl b2 dX7_milesTo_35 ?_
  refine J_bipush (v := 100) dX7_milesTo_36 (by decide) ?_
  refine J_irem dX7_milesTo_38 (by decide) ?_
  refine J_isub dX7_milesTo_39 ?_
  refine J_nameI (fun x4 ex4 => ?_)
  replace h := h x4 ex4
  refine J_istore (i := 5) (lv' := [(5, .int x4), (4, .int x3), (0, .ref 5), (1, .int a1), (2, .ref 5), (3, .int a3)]) dX7_milesTo_40 (by decide) rfl ?_
  refine J_iload (i := 4) (kk := 1) dX7_milesTo_42 rfl ?_
  refine J_mabs klX7_29 (Nat.le_of_ble_eq_true rfl) dX7_milesTo_44 ?_
  refine J_iload (i := 5) (kk := 0) dX7_milesTo_47 rfl ?_
  refine J_mabs klX7_29 (Nat.le_of_ble_eq_true rfl) dX7_milesTo_49 ?_
  refine J_iadd dX7_milesTo_52 ?_
  exact J_iret rfl dX7_milesTo_53 h
theorem M_X7_milesTo_5 {Γ : GG} {l : Launch} {d : Nat} {Q : Option Value → St → Prop} {σ : St} (a1 : Int32) (a3 : Int32) (k : J Γ l (d + 1) mX7_milesTo Q 0 [(0, .ref 5), (1, .int a1), (2, .ref 5), (3, .int a3)] [] σ) : Meth Γ l (d + 1) mX7_milesTo [.ref 5, .int a1, .ref 5, .int a3] σ Q := Meth_of_J (by decide +kernel) (fun _ => Nat.le_of_ble_eq_true rfl) (fun _ => rfl) k
set_option maxHeartbeats 4000000 in
set_option maxRecDepth 100000 in
theorem w_X7_milesTo_55_0 {Γ : GG} {l : Launch} {d : Nat} {Q : Option Value → St → Prop} {σ : St} (a1 : Int32) (a3 : Int32) (h : vp_in a1 12 ∧ vp_in a3 10 ∧ ∀ x3 : Int32, x3 = ((rd σ 6 (a1.toNatClampNeg)) / (100 : Int32)) - ((rd σ 56 (a3.toNatClampNeg)) / (100 : Int32)) → ∀ x4 : Int32, x4 = ((rd σ 6 (a1.toNatClampNeg)) - (rd σ 6 (a1.toNatClampNeg)) / (100 : Int32) * (100 : Int32)) - ((rd σ 56 (a3.toNatClampNeg)) - (rd σ 56 (a3.toNatClampNeg)) / (100 : Int32) * (100 : Int32)) → Q (some (.int ((abI x3) + (abI x4)))) σ) : J Γ l (d + 1) mX7_milesTo Q 0 [(0, .ref 5), (1, .int a1), (2, .ref 55), (3, .int a3)] [] σ := by
  refine J_aload_n (i := 0) (kk := 0) dX7_milesTo_0 rfl rfl ?_
  refine J_getR 6 (q := 5) (ci := 7) (kf := 0) kfX7_21 uxX7 rfl (by decide) rfl (by decide) rfl dX7_milesTo_1 ?_
  refine J_iload_n (i := 1) (kk := 1) dX7_milesTo_4 rfl rfl ?_
  have b1 := h.1
  replace h := h.2
  refine J_ald (a1.toNatClampNeg) rfl (by decide) rfl b1 dX7_milesTo_5 ?_
  refine J_bipush (v := 100) dX7_milesTo_6 (by decide) ?_
  refine J_idiv dX7_milesTo_8 (by decide) ?_
  refine J_aload_n (i := 2) (kk := 2) dX7_milesTo_9 rfl rfl ?_
  refine J_getR 56 (q := 55) (ci := 7) (kf := 0) kfX7_21 uxX7 rfl (by decide) rfl (by decide) rfl dX7_milesTo_10 ?_
  refine J_iload_n (i := 3) (kk := 3) dX7_milesTo_13 rfl rfl ?_
  have b2 := h.1
  replace h := h.2
  refine J_ald (a3.toNatClampNeg) rfl (by decide) rfl b2 dX7_milesTo_14 ?_
  refine J_bipush (v := 100) dX7_milesTo_15 (by decide) ?_
  refine J_idiv dX7_milesTo_17 (by decide) ?_
  refine J_isub dX7_milesTo_18 ?_
  refine J_nameI (fun x3 ex3 => ?_)
  replace h := h x3 ex3
  refine J_istore (i := 4) (lv' := [(4, .int x3), (0, .ref 5), (1, .int a1), (2, .ref 55), (3, .int a3)]) dX7_milesTo_19 (by decide) rfl ?_
  refine J_aload_n (i := 0) (kk := 1) dX7_milesTo_21 rfl rfl ?_
  refine J_getR 6 (q := 5) (ci := 7) (kf := 0) kfX7_21 uxX7 rfl (by decide) rfl (by decide) rfl dX7_milesTo_22 ?_
  refine J_iload_n (i := 1) (kk := 2) dX7_milesTo_25 rfl rfl ?_
  refine J_ald (a1.toNatClampNeg) rfl (by decide) rfl b1 dX7_milesTo_26 ?_
  refine J_bipush (v := 100) dX7_milesTo_27 (by decide) ?_
  refine J_irem dX7_milesTo_29 (by decide) ?_
  refine J_aload_n (i := 2) (kk := 3) dX7_milesTo_30 rfl rfl ?_
  refine J_getR 56 (q := 55) (ci := 7) (kf := 0) kfX7_21 uxX7 rfl (by decide) rfl (by decide) rfl dX7_milesTo_31 ?_
  refine J_iload_n (i := 3) (kk := 4) dX7_milesTo_34 rfl rfl ?_
  refine J_ald (a3.toNatClampNeg) rfl (by decide) rfl b2 dX7_milesTo_35 ?_
  refine J_bipush (v := 100) dX7_milesTo_36 (by decide) ?_
  refine J_irem dX7_milesTo_38 (by decide) ?_
  refine J_isub dX7_milesTo_39 ?_
  refine J_nameI (fun x4 ex4 => ?_)
  replace h := h x4 ex4
  refine J_istore (i := 5) (lv' := [(5, .int x4), (4, .int x3), (0, .ref 5), (1, .int a1), (2, .ref 55), (3, .int a3)]) dX7_milesTo_40 (by decide) rfl ?_
  refine J_iload (i := 4) (kk := 1) dX7_milesTo_42 rfl ?_
  refine J_mabs klX7_29 (Nat.le_of_ble_eq_true rfl) dX7_milesTo_44 ?_
  refine J_iload (i := 5) (kk := 0) dX7_milesTo_47 rfl ?_
  refine J_mabs klX7_29 (Nat.le_of_ble_eq_true rfl) dX7_milesTo_49 ?_
  refine J_iadd dX7_milesTo_52 ?_
  exact J_iret rfl dX7_milesTo_53 h
theorem M_X7_milesTo_55 {Γ : GG} {l : Launch} {d : Nat} {Q : Option Value → St → Prop} {σ : St} (a1 : Int32) (a3 : Int32) (k : J Γ l (d + 1) mX7_milesTo Q 0 [(0, .ref 5), (1, .int a1), (2, .ref 55), (3, .int a3)] [] σ) : Meth Γ l (d + 1) mX7_milesTo [.ref 5, .int a1, .ref 55, .int a3] σ Q := Meth_of_J (by decide +kernel) (fun _ => Nat.le_of_ble_eq_true rfl) (fun _ => rfl) k
set_option maxHeartbeats 4000000 in
set_option maxRecDepth 100000 in
theorem w_X8_add_0 {Γ : GG} {l : Launch} {d : Nat} {Q : Option Value → St → Prop} {σ : St} (a1 : Int32) (a2 : Int32) (a3 : Int32) (h : ((600 : Int32) ≤ rd σ 34 7 → Q (some (.int ((rd σ 34 7) - (1 : Int32)))) σ) ∧ (¬ (600 : Int32) ≤ rd σ 34 7 → vp_in (rd σ 34 7) 600 ∧ Q (some (.int (((rd σ 34 7) + (1 : Int32)) - (1 : Int32)))) (wr (wr (wr (wr σ 35 ((rd σ 34 7).toNatClampNeg) a1) 36 ((rd σ 34 7).toNatClampNeg) a2) 37 ((rd σ 34 7).toNatClampNeg) a3) 34 7 ((rd σ 34 7) + (1 : Int32))))) : J Γ l d mX8_add Q 0 [(0, .ref 34), (1, .int a1), (2, .int a2), (3, .int a3)] [] σ := by
  refine J_aload_n (i := 0) (kk := 0) dX8_add_0 rfl rfl ?_
  refine J_getI (q := 34) (ci := 8) (kf := 7) kfX8_33 uxX8 rfl (by decide) rfl (by decide) rfl dX8_add_1 ?_
  refine J_sipush (v := 600) dX8_add_4 (by decide) ?_
  refine J_icmp_ge 50 dX8_add_7 (by decide) (fun hc => ?_) (fun hc => ?_)
  · replace h := h.1 hc
    refine J_aload_n (i := 0) (kk := 0) dX8_add_50 rfl rfl ?_
    refine J_getI (q := 34) (ci := 8) (kf := 7) kfX8_33 uxX8 rfl (by decide) rfl (by decide) rfl dX8_add_51 ?_
    refine J_iconst (v := 1) dX8_add_54 (by decide) ?_
    refine J_isub dX8_add_55 ?_
    exact J_iret rfl dX8_add_56 h
  · replace h := h.2 hc
    refine J_aload_n (i := 0) (kk := 0) dX8_add_10 rfl rfl ?_
    refine J_getR 35 (q := 34) (ci := 8) (kf := 0) kfX8_9 uxX8 rfl (by decide) rfl (by decide) rfl dX8_add_11 ?_
    refine J_aload_n (i := 0) (kk := 0) dX8_add_14 rfl rfl ?_
    refine J_getI (q := 34) (ci := 8) (kf := 7) kfX8_33 uxX8 rfl (by decide) rfl (by decide) rfl dX8_add_15 ?_
    refine J_iload_n (i := 1) (kk := 1) dX8_add_18 rfl rfl ?_
    have b1 := h.1
    replace h := h.2
    refine J_ast ((rd σ 34 7).toNatClampNeg) rfl (by decide) rfl b1 dX8_add_19 ?_
    refine J_aload_n (i := 0) (kk := 0) dX8_add_20 rfl rfl ?_
    refine J_getR 36 (q := 34) (ci := 8) (kf := 1) kfX8_15 uxX8 rfl (by decide) rfl (by decide) rfl dX8_add_21 ?_
    refine J_aload_n (i := 0) (kk := 0) dX8_add_24 rfl rfl ?_
    refine J_getI (q := 34) (ci := 8) (kf := 7) kfX8_33 uxX8 rfl (by decide) rfl (by decide) rfl dX8_add_25 ?_
    refine J_eqI (y := rd σ 34 7) rfl ?_
    refine J_iload_n (i := 2) (kk := 2) dX8_add_28 rfl rfl ?_
    refine J_ast ((rd σ 34 7).toNatClampNeg) rfl (by decide) rfl b1 dX8_add_29 ?_
    refine J_aload_n (i := 0) (kk := 0) dX8_add_30 rfl rfl ?_
    refine J_getR 37 (q := 34) (ci := 8) (kf := 2) kfX8_18 uxX8 rfl (by decide) rfl (by decide) rfl dX8_add_31 ?_
    refine J_aload_n (i := 0) (kk := 0) dX8_add_34 rfl rfl ?_
    refine J_getI (q := 34) (ci := 8) (kf := 7) kfX8_33 uxX8 rfl (by decide) rfl (by decide) rfl dX8_add_35 ?_
    refine J_eqI (y := rd σ 34 7) rfl ?_
    refine J_iload_n (i := 3) (kk := 3) dX8_add_38 rfl rfl ?_
    refine J_ast ((rd σ 34 7).toNatClampNeg) rfl (by decide) rfl b1 dX8_add_39 ?_
    refine J_aload_n (i := 0) (kk := 0) dX8_add_40 rfl rfl ?_
    refine J_dup dX8_add_41 rfl ?_
    refine J_getI (q := 34) (ci := 8) (kf := 7) kfX8_33 uxX8 rfl (by decide) rfl (by decide) rfl dX8_add_42 ?_
    refine J_eqI (y := rd σ 34 7) rfl ?_
    refine J_iconst (v := 1) dX8_add_45 (by decide) ?_
    refine J_iadd dX8_add_46 ?_
    refine J_putf (q := 34) (ci := 8) (kf := 7) (ty := .int) kfX8_33 uxX8 tyX8_ok nmX8 rfl (by decide) rfl (by decide) rfl rfl rfl rfl rfl dX8_add_47 ?_
    refine J_aload_n (i := 0) (kk := 0) dX8_add_50 rfl rfl ?_
    refine J_getI (q := 34) (ci := 8) (kf := 7) kfX8_33 uxX8 rfl (by decide) rfl (by decide) rfl dX8_add_51 ?_
    refine J_eqI (y := ((rd σ 34 7) + (1 : Int32))) rfl ?_
    refine J_iconst (v := 1) dX8_add_54 (by decide) ?_
    refine J_isub dX8_add_55 ?_
    exact J_iret rfl dX8_add_56 h
theorem M_X8_add {Γ : GG} {l : Launch} {d : Nat} {Q : Option Value → St → Prop} {σ : St} (a1 : Int32) (a2 : Int32) (a3 : Int32) (k : J Γ l d mX8_add Q 0 [(0, .ref 34), (1, .int a1), (2, .int a2), (3, .int a3)] [] σ) : Meth Γ l d mX8_add [.ref 34, .int a1, .int a2, .int a3] σ Q := Meth_of_J (by decide +kernel) (fun _ => Nat.le_of_ble_eq_true rfl) (fun _ => rfl) k
set_option maxHeartbeats 4000000 in
set_option maxRecDepth 100000 in
theorem w_X8_has_8 {Γ : GG} {l : Launch} {d : Nat} {Q : Option Value → St → Prop} {σ : St} (a1 : Int32) (a2 : Int32) (a3 : Int32) (a4 : Int32) (h : (a4 < (0 : Int32) → Q (some (.int (0))) σ) ∧ (¬ a4 < (0 : Int32) → vp_in a4 600 ∧ (rd σ 37 (a4.toNatClampNeg) = a3 → (rd σ 35 (a4.toNatClampNeg) = a1 → (rd σ 36 (a4.toNatClampNeg) = a2 → Q (some (.int (1))) σ) ∧ (¬ rd σ 36 (a4.toNatClampNeg) = a2 → ∀ x3 : Int32, x3 = a4 + (-1) → J Γ l d mX8_has Q 8 [(0, .ref 34), (1, .int a1), (2, .int a2), (3, .int a3), (4, .int x3)] [] σ)) ∧ (¬ rd σ 35 (a4.toNatClampNeg) = a1 → ∀ x2 : Int32, x2 = a4 + (-1) → J Γ l d mX8_has Q 8 [(0, .ref 34), (1, .int a1), (2, .int a2), (3, .int a3), (4, .int x2)] [] σ)) ∧ (¬ rd σ 37 (a4.toNatClampNeg) = a3 → Q (some (.int (0))) σ))) : J Γ l d mX8_has Q 8 [(0, .ref 34), (1, .int a1), (2, .int a2), (3, .int a3), (4, .int a4)] [] σ := by
  refine J_iload (i := 4) (kk := 4) dX8_has_8 rfl ?_
  refine J_if_lt 54 dX8_has_10 (by decide) (fun hc => ?_) (fun hc => ?_)
  · replace h := h.1 hc
    refine J_iconst (v := 0) dX8_has_54 (by decide) ?_
    exact J_zret rfl (by decide) dX8_has_55 h
  · replace h := h.2 hc
    refine J_aload_n (i := 0) (kk := 0) dX8_has_13 rfl rfl ?_
    refine J_getR 37 (q := 34) (ci := 8) (kf := 2) kfX8_18 uxX8 rfl (by decide) rfl (by decide) rfl dX8_has_14 ?_
    refine J_iload (i := 4) (kk := 4) dX8_has_17 rfl ?_
    have b1 := h.1
    replace h := h.2
    refine J_ald (a4.toNatClampNeg) rfl (by decide) rfl b1 dX8_has_19 ?_
    refine J_iload_n (i := 3) (kk := 3) dX8_has_20 rfl rfl ?_
    refine J_icmp_ne 54 dX8_has_21 (by decide) (fun hc => ?_) (fun hc => ?_)
    · replace h := h.2 hc
      refine J_iconst (v := 0) dX8_has_54 (by decide) ?_
      exact J_zret rfl (by decide) dX8_has_55 h
    · replace h := h.1 hc
      refine J_aload_n (i := 0) (kk := 0) dX8_has_24 rfl rfl ?_
      refine J_getR 35 (q := 34) (ci := 8) (kf := 0) kfX8_9 uxX8 rfl (by decide) rfl (by decide) rfl dX8_has_25 ?_
      refine J_iload (i := 4) (kk := 4) dX8_has_28 rfl ?_
      refine J_ald (a4.toNatClampNeg) rfl (by decide) rfl b1 dX8_has_30 ?_
      refine J_iload_n (i := 1) (kk := 1) dX8_has_31 rfl rfl ?_
      refine J_icmp_ne 48 dX8_has_32 (by decide) (fun hc => ?_) (fun hc => ?_)
      · replace h := h.2 hc
        obtain ⟨x2, ex2⟩ : ∃ y : Int32, y = a4 + (-1) := ⟨_, rfl⟩
        replace h := h x2 ex2
        refine J_iinc (i := 4) (kk := 4) (v := x2) (lv' := [(4, .int x2), (0, .ref 34), (1, .int a1), (2, .int a2), (3, .int a3)]) dX8_has_48 rfl (by rw [ex2]; rfl) (by decide) rfl ?_
        refine J_goto (tgt := 8) dX8_has_51 (by decide) ?_
        refine J_sub [1, 2, 3, 4, 0] rfl ?_
        exact h
      · replace h := h.1 hc
        refine J_aload_n (i := 0) (kk := 0) dX8_has_35 rfl rfl ?_
        refine J_getR 36 (q := 34) (ci := 8) (kf := 1) kfX8_15 uxX8 rfl (by decide) rfl (by decide) rfl dX8_has_36 ?_
        refine J_iload (i := 4) (kk := 4) dX8_has_39 rfl ?_
        refine J_ald (a4.toNatClampNeg) rfl (by decide) rfl b1 dX8_has_41 ?_
        refine J_iload_n (i := 2) (kk := 2) dX8_has_42 rfl rfl ?_
        refine J_icmp_ne 48 dX8_has_43 (by decide) (fun hc => ?_) (fun hc => ?_)
        · replace h := h.2 hc
          obtain ⟨x3, ex3⟩ : ∃ y : Int32, y = a4 + (-1) := ⟨_, rfl⟩
          replace h := h x3 ex3
          refine J_iinc (i := 4) (kk := 4) (v := x3) (lv' := [(4, .int x3), (0, .ref 34), (1, .int a1), (2, .int a2), (3, .int a3)]) dX8_has_48 rfl (by rw [ex3]; rfl) (by decide) rfl ?_
          refine J_goto (tgt := 8) dX8_has_51 (by decide) ?_
          refine J_sub [1, 2, 3, 4, 0] rfl ?_
          exact h
        · replace h := h.1 hc
          refine J_iconst (v := 1) dX8_has_46 (by decide) ?_
          exact J_zret rfl (by decide) dX8_has_47 h
set_option maxHeartbeats 4000000 in
set_option maxRecDepth 100000 in
theorem w_X8_has_0 {Γ : GG} {l : Launch} {d : Nat} {Q : Option Value → St → Prop} {σ : St} (a1 : Int32) (a2 : Int32) (a3 : Int32) (h : J Γ l d mX8_has Q 8 [(0, .ref 34), (1, .int a1), (2, .int a2), (3, .int a3), (4, .int ((rd σ 34 7) - (1 : Int32)))] [] σ) : J Γ l d mX8_has Q 0 [(0, .ref 34), (1, .int a1), (2, .int a2), (3, .int a3)] [] σ := by
  refine J_aload_n (i := 0) (kk := 0) dX8_has_0 rfl rfl ?_
  refine J_getI (q := 34) (ci := 8) (kf := 7) kfX8_33 uxX8 rfl (by decide) rfl (by decide) rfl dX8_has_1 ?_
  refine J_iconst (v := 1) dX8_has_4 (by decide) ?_
  refine J_isub dX8_has_5 ?_
  refine J_istore (i := 4) (lv' := [(4, .int ((rd σ 34 7) - (1 : Int32))), (0, .ref 34), (1, .int a1), (2, .int a2), (3, .int a3)]) dX8_has_6 (by decide) rfl ?_
  refine J_sub [1, 2, 3, 4, 0] rfl ?_
  exact h
theorem M_X8_has {Γ : GG} {l : Launch} {d : Nat} {Q : Option Value → St → Prop} {σ : St} (a1 : Int32) (a2 : Int32) (a3 : Int32) (k : J Γ l d mX8_has Q 0 [(0, .ref 34), (1, .int a1), (2, .int a2), (3, .int a3)] [] σ) : Meth Γ l d mX8_has [.ref 34, .int a1, .int a2, .int a3] σ Q := Meth_of_J (by decide +kernel) (fun _ => Nat.le_of_ble_eq_true rfl) (fun _ => rfl) k
set_option maxHeartbeats 4000000 in
set_option maxRecDepth 100000 in
theorem w_X8_lackInAll_4 {Γ : GG} {l : Launch} {d : Nat} {Q : Option Value → St → Prop} {σ : St} (a1 : Int32) (a2 : Int32) (h : (rd σ 34 7 ≤ a2 → Q (some (.int a1)) σ) ∧ (¬ rd σ 34 7 ≤ a2 → vp_in a2 600 ∧ ∀ x2 : Int32, x2 = a1 + ((rd σ 40 (a2.toNatClampNeg)) - (rd σ 41 (a2.toNatClampNeg))) → ∀ x3 : Int32, x3 = a2 + 1 → J Γ l d mX8_lackInAll Q 4 [(0, .ref 34), (1, .int x2), (2, .int x3)] [] σ)) : J Γ l d mX8_lackInAll Q 4 [(0, .ref 34), (1, .int a1), (2, .int a2)] [] σ := by
  refine J_iload_n (i := 2) (kk := 2) dX8_lackInAll_4 rfl rfl ?_
  refine J_aload_n (i := 0) (kk := 0) dX8_lackInAll_5 rfl rfl ?_
  refine J_getI (q := 34) (ci := 8) (kf := 7) kfX8_33 uxX8 rfl (by decide) rfl (by decide) rfl dX8_lackInAll_6 ?_
  refine J_icmp_ge 34 dX8_lackInAll_9 (by decide) (fun hc => ?_) (fun hc => ?_)
  · replace h := h.1 hc
    refine J_iload_n (i := 1) (kk := 1) dX8_lackInAll_34 rfl rfl ?_
    exact J_iret rfl dX8_lackInAll_35 h
  · replace h := h.2 hc
    refine J_iload_n (i := 1) (kk := 1) dX8_lackInAll_12 rfl rfl ?_
    refine J_aload_n (i := 0) (kk := 0) dX8_lackInAll_13 rfl rfl ?_
    refine J_getR 40 (q := 34) (ci := 8) (kf := 5) kfX8_27 uxX8 rfl (by decide) rfl (by decide) rfl dX8_lackInAll_14 ?_
    refine J_iload_n (i := 2) (kk := 2) dX8_lackInAll_17 rfl rfl ?_
    have b1 := h.1
    replace h := h.2
    refine J_ald (a2.toNatClampNeg) rfl (by decide) rfl b1 dX8_lackInAll_18 ?_
    refine J_aload_n (i := 0) (kk := 0) dX8_lackInAll_19 rfl rfl ?_
    refine J_getR 41 (q := 34) (ci := 8) (kf := 6) kfX8_30 uxX8 rfl (by decide) rfl (by decide) rfl dX8_lackInAll_20 ?_
    refine J_iload_n (i := 2) (kk := 2) dX8_lackInAll_23 rfl rfl ?_
    refine J_ald (a2.toNatClampNeg) rfl (by decide) rfl b1 dX8_lackInAll_24 ?_
    refine J_isub dX8_lackInAll_25 ?_
    refine J_iadd dX8_lackInAll_26 ?_
    refine J_nameI (fun x2 ex2 => ?_)
    replace h := h x2 ex2
    refine J_istore_n (i := 1) (lv' := [(1, .int x2), (0, .ref 34), (2, .int a2)]) dX8_lackInAll_27 rfl (by decide) rfl ?_
    obtain ⟨x3, ex3⟩ : ∃ y : Int32, y = a2 + 1 := ⟨_, rfl⟩
    replace h := h x3 ex3
    refine J_iinc (i := 2) (kk := 2) (v := x3) (lv' := [(2, .int x3), (1, .int x2), (0, .ref 34)]) dX8_lackInAll_28 rfl (by rw [ex3]; rfl) (by decide) rfl ?_
    refine J_goto (tgt := 4) dX8_lackInAll_31 (by decide) ?_
    refine J_sub [2, 1, 0] rfl ?_
    exact h
set_option maxHeartbeats 4000000 in
set_option maxRecDepth 100000 in
theorem w_X8_lackInAll_0 {Γ : GG} {l : Launch} {d : Nat} {Q : Option Value → St → Prop} {σ : St}  (h : J Γ l d mX8_lackInAll Q 4 [(0, .ref 34), (1, .int (0)), (2, .int (0))] [] σ) : J Γ l d mX8_lackInAll Q 0 [(0, .ref 34)] [] σ := by
  refine J_iconst (v := 0) dX8_lackInAll_0 (by decide) ?_
  refine J_istore_n (i := 1) (lv' := [(1, .int (0)), (0, .ref 34)]) dX8_lackInAll_1 rfl (by decide) rfl ?_
  refine J_iconst (v := 0) dX8_lackInAll_2 (by decide) ?_
  refine J_istore_n (i := 2) (lv' := [(2, .int (0)), (1, .int (0)), (0, .ref 34)]) dX8_lackInAll_3 rfl (by decide) rfl ?_
  refine J_sub [2, 1, 0] rfl ?_
  exact h
theorem M_X8_lackInAll {Γ : GG} {l : Launch} {d : Nat} {Q : Option Value → St → Prop} {σ : St}  (k : J Γ l d mX8_lackInAll Q 0 [(0, .ref 34)] [] σ) : Meth Γ l d mX8_lackInAll [.ref 34] σ Q := Meth_of_J (by decide +kernel) (fun _ => Nat.le_of_ble_eq_true rfl) (fun _ => rfl) k
set_option maxHeartbeats 4000000 in
set_option maxRecDepth 100000 in
theorem w_X8_foretell_159 {Γ : GG} {l : Launch} {d : Nat} {Q : Option Value → St → Prop} {σ : St} (a7 : Int32) (a8 : Int32) (a9 : Int32) (a10 : Int32) (a11 : Int32) (a12 : Int32) (h : (a7 < (3 : Int32) → (a9 < (3 : Int32) → Meth Γ l d mX8_mean [.int a12, .int a11] σ (KI (fun x2 σ1 => Q (some (.int x2)) σ1))) ∧ (¬ a9 < (3 : Int32) → Meth Γ l d mX8_mean [.int a10, .int a9] σ (KI (fun x4 σ3 => Q (some (.int x4)) σ3)))) ∧ (¬ a7 < (3 : Int32) → Meth Γ l d mX8_mean [.int a8, .int a7] σ (KI (fun x6 σ5 => Q (some (.int x6)) σ5)))) : J Γ l (d + 1) mX8_foretell Q 159 [(7, .int a7), (8, .int a8), (9, .int a9), (10, .int a10), (11, .int a11), (12, .int a12)] [] σ := by
  refine J_iload (i := 7) (kk := 0) dX8_foretell_159 rfl ?_
  refine J_iconst (v := 3) dX8_foretell_161 (by decide) ?_
  refine J_icmp_lt 173 dX8_foretell_162 (by decide) (fun hc => ?_) (fun hc => ?_)
  · replace h := h.1 hc
    refine J_iload (i := 9) (kk := 2) dX8_foretell_173 rfl ?_
    refine J_iconst (v := 3) dX8_foretell_175 (by decide) ?_
    refine J_icmp_lt 189 dX8_foretell_176 (by decide) (fun hc => ?_) (fun hc => ?_)
    · replace h := h.1 hc
      refine J_iload (i := 12) (kk := 5) dX8_foretell_189 rfl ?_
      refine J_iload (i := 11) (kk := 4) dX8_foretell_191 rfl ?_
      refine J_callS [.int a12, .int a11] [] calX8_mean klX8_46 rfl rfl (Nat.le_of_ble_eq_true rfl) dX8_foretell_193 (KI.to h ?_)
      clear h
      intro x2 σ1 h
      exact J_iret rfl dX8_foretell_196 h
    · replace h := h.2 hc
      refine J_iload (i := 10) (kk := 3) dX8_foretell_179 rfl ?_
      refine J_iload (i := 9) (kk := 2) dX8_foretell_181 rfl ?_
      refine J_callS [.int a10, .int a9] [] calX8_mean klX8_46 rfl rfl (Nat.le_of_ble_eq_true rfl) dX8_foretell_183 (KI.to h ?_)
      clear h
      intro x4 σ3 h
      refine J_goto (tgt := 196) dX8_foretell_186 (by decide) ?_
      exact J_iret rfl dX8_foretell_196 h
  · replace h := h.2 hc
    refine J_iload (i := 8) (kk := 1) dX8_foretell_165 rfl ?_
    refine J_iload (i := 7) (kk := 0) dX8_foretell_167 rfl ?_
    refine J_callS [.int a8, .int a7] [] calX8_mean klX8_46 rfl rfl (Nat.le_of_ble_eq_true rfl) dX8_foretell_169 (KI.to h ?_)
    clear h
    intro x6 σ5 h
    exact J_iret rfl dX8_foretell_172 h
set_option maxHeartbeats 4000000 in
set_option maxRecDepth 100000 in
theorem w_X8_foretell_21 {Γ : GG} {l : Launch} {d : Nat} {Q : Option Value → St → Prop} {σ : St} (a1 : Int32) (a2 : Int32) (a3 : Int32) (a4 : Int32) (a5 : Int32) (a6 : Int32) (a7 : Int32) (a8 : Int32) (a9 : Int32) (a10 : Int32) (a11 : Int32) (a12 : Int32) (a13 : Int32) (h : (rd σ 34 7 ≤ a13 → J Γ l (d + 1) mX8_foretell Q 159 [(7, .int a7), (8, .int a8), (9, .int a9), (10, .int a10), (11, .int a11), (12, .int a12)] [] σ) ∧ (¬ rd σ 34 7 ≤ a13 → vp_in a13 600 ∧ (a6 < (rd σ 37 (a13.toNatClampNeg)) / (24 : Int32) → J Γ l (d + 1) mX8_foretell Q 159 [(7, .int a7), (8, .int a8), (9, .int a9), (10, .int a10), (11, .int a11), (12, .int a12)] [] σ) ∧ (¬ a6 < (rd σ 37 (a13.toNatClampNeg)) / (24 : Int32) → (rd σ 36 (a13.toNatClampNeg) = a2 → ((rd σ 37 (a13.toNatClampNeg)) - (rd σ 37 (a13.toNatClampNeg)) / (24 : Int32) * (24 : Int32) = a3 → (rd σ 38 (a13.toNatClampNeg) = a4 → ∀ x4 : Int32, x4 = a11 + 1 → ∀ x5 : Int32, x5 = a12 + (rd σ 40 (a13.toNatClampNeg)) → (rd σ 35 (a13.toNatClampNeg) = a1 → ∀ x7 : Int32, x7 = a9 + 1 → ∀ x8 : Int32, x8 = a10 + (rd σ 40 (a13.toNatClampNeg)) → (rd σ 39 (a13.toNatClampNeg) = a5 → ∀ x10 : Int32, x10 = a7 + 1 → ∀ x11 : Int32, x11 = a8 + (rd σ 40 (a13.toNatClampNeg)) → ∀ x12 : Int32, x12 = a13 + 1 → J Γ l (d + 1) mX8_foretell Q 21 [(0, .ref 34), (1, .int a1), (2, .int a2), (3, .int a3), (4, .int a4), (5, .int a5), (6, .int a6), (7, .int x10), (8, .int x11), (9, .int x7), (10, .int x8), (11, .int x4), (12, .int x5), (13, .int x12)] [] σ) ∧ (¬ rd σ 39 (a13.toNatClampNeg) = a5 → ∀ x9 : Int32, x9 = a13 + 1 → J Γ l (d + 1) mX8_foretell Q 21 [(0, .ref 34), (1, .int a1), (2, .int a2), (3, .int a3), (4, .int a4), (5, .int a5), (6, .int a6), (7, .int a7), (8, .int a8), (9, .int x7), (10, .int x8), (11, .int x4), (12, .int x5), (13, .int x9)] [] σ)) ∧ (¬ rd σ 35 (a13.toNatClampNeg) = a1 → ∀ x6 : Int32, x6 = a13 + 1 → J Γ l (d + 1) mX8_foretell Q 21 [(0, .ref 34), (1, .int a1), (2, .int a2), (3, .int a3), (4, .int a4), (5, .int a5), (6, .int a6), (7, .int a7), (8, .int a8), (9, .int a9), (10, .int a10), (11, .int x4), (12, .int x5), (13, .int x6)] [] σ)) ∧ (¬ rd σ 38 (a13.toNatClampNeg) = a4 → ∀ x13 : Int32, x13 = a13 + 1 → J Γ l (d + 1) mX8_foretell Q 21 [(0, .ref 34), (1, .int a1), (2, .int a2), (3, .int a3), (4, .int a4), (5, .int a5), (6, .int a6), (7, .int a7), (8, .int a8), (9, .int a9), (10, .int a10), (11, .int a11), (12, .int a12), (13, .int x13)] [] σ)) ∧ (¬ (rd σ 37 (a13.toNatClampNeg)) - (rd σ 37 (a13.toNatClampNeg)) / (24 : Int32) * (24 : Int32) = a3 → ∀ x3 : Int32, x3 = a13 + 1 → J Γ l (d + 1) mX8_foretell Q 21 [(0, .ref 34), (1, .int a1), (2, .int a2), (3, .int a3), (4, .int a4), (5, .int a5), (6, .int a6), (7, .int a7), (8, .int a8), (9, .int a9), (10, .int a10), (11, .int a11), (12, .int a12), (13, .int x3)] [] σ)) ∧ (¬ rd σ 36 (a13.toNatClampNeg) = a2 → ∀ x2 : Int32, x2 = a13 + 1 → J Γ l (d + 1) mX8_foretell Q 21 [(0, .ref 34), (1, .int a1), (2, .int a2), (3, .int a3), (4, .int a4), (5, .int a5), (6, .int a6), (7, .int a7), (8, .int a8), (9, .int a9), (10, .int a10), (11, .int a11), (12, .int a12), (13, .int x2)] [] σ)))) : J Γ l (d + 1) mX8_foretell Q 21 [(0, .ref 34), (1, .int a1), (2, .int a2), (3, .int a3), (4, .int a4), (5, .int a5), (6, .int a6), (7, .int a7), (8, .int a8), (9, .int a9), (10, .int a10), (11, .int a11), (12, .int a12), (13, .int a13)] [] σ := by
  refine J_iload (i := 13) (kk := 13) dX8_foretell_21 rfl ?_
  refine J_aload_n (i := 0) (kk := 0) dX8_foretell_23 rfl rfl ?_
  refine J_getI (q := 34) (ci := 8) (kf := 7) kfX8_33 uxX8 rfl (by decide) rfl (by decide) rfl dX8_foretell_24 ?_
  refine J_icmp_ge 159 dX8_foretell_27 (by decide) (fun hc => ?_) (fun hc => ?_)
  · replace h := h.1 hc
    refine J_sub [7, 8, 9, 10, 11, 12] rfl ?_
    exact h
  · replace h := h.2 hc
    refine J_aload_n (i := 0) (kk := 0) dX8_foretell_30 rfl rfl ?_
    refine J_getR 37 (q := 34) (ci := 8) (kf := 2) kfX8_18 uxX8 rfl (by decide) rfl (by decide) rfl dX8_foretell_31 ?_
    refine J_iload (i := 13) (kk := 13) dX8_foretell_34 rfl ?_
    have b1 := h.1
    replace h := h.2
    refine J_ald (a13.toNatClampNeg) rfl (by decide) rfl b1 dX8_foretell_36 ?_
    refine J_bipush (v := 24) dX8_foretell_37 (by decide) ?_
    refine J_idiv dX8_foretell_39 (by decide) ?_
    refine J_iload (i := 6) (kk := 6) dX8_foretell_40 rfl ?_
    refine J_icmp_gt 159 dX8_foretell_42 (by decide) (fun hc => ?_) (fun hc => ?_)
    · replace h := h.1 hc
      refine J_sub [7, 8, 9, 10, 11, 12] rfl ?_
      exact h
    · replace h := h.2 hc
      refine J_aload_n (i := 0) (kk := 0) dX8_foretell_45 rfl rfl ?_
      refine J_getR 36 (q := 34) (ci := 8) (kf := 1) kfX8_15 uxX8 rfl (by decide) rfl (by decide) rfl dX8_foretell_46 ?_
      refine J_iload (i := 13) (kk := 13) dX8_foretell_49 rfl ?_
      refine J_ald (a13.toNatClampNeg) rfl (by decide) rfl b1 dX8_foretell_51 ?_
      refine J_iload_n (i := 2) (kk := 2) dX8_foretell_52 rfl rfl ?_
      refine J_icmp_ne 153 dX8_foretell_53 (by decide) (fun hc => ?_) (fun hc => ?_)
      · replace h := h.2 hc
        obtain ⟨x2, ex2⟩ : ∃ y : Int32, y = a13 + 1 := ⟨_, rfl⟩
        replace h := h x2 ex2
        refine J_iinc (i := 13) (kk := 13) (v := x2) (lv' := [(13, .int x2), (0, .ref 34), (1, .int a1), (2, .int a2), (3, .int a3), (4, .int a4), (5, .int a5), (6, .int a6), (7, .int a7), (8, .int a8), (9, .int a9), (10, .int a10), (11, .int a11), (12, .int a12)]) dX8_foretell_153 rfl (by rw [ex2]; rfl) (by decide) rfl ?_
        refine J_goto (tgt := 21) dX8_foretell_156 (by decide) ?_
        refine J_sub [1, 2, 3, 4, 5, 6, 7, 8, 9, 10, 11, 12, 13, 0] rfl ?_
        exact h
      · replace h := h.1 hc
        refine J_aload_n (i := 0) (kk := 0) dX8_foretell_56 rfl rfl ?_
        refine J_getR 37 (q := 34) (ci := 8) (kf := 2) kfX8_18 uxX8 rfl (by decide) rfl (by decide) rfl dX8_foretell_57 ?_
        refine J_iload (i := 13) (kk := 13) dX8_foretell_60 rfl ?_
        refine J_ald (a13.toNatClampNeg) rfl (by decide) rfl b1 dX8_foretell_62 ?_
        refine J_bipush (v := 24) dX8_foretell_63 (by decide) ?_
        refine J_irem dX8_foretell_65 (by decide) ?_
        refine J_iload_n (i := 3) (kk := 3) dX8_foretell_66 rfl rfl ?_
        refine J_icmp_ne 153 dX8_foretell_67 (by decide) (fun hc => ?_) (fun hc => ?_)
        · replace h := h.2 hc
          obtain ⟨x3, ex3⟩ : ∃ y : Int32, y = a13 + 1 := ⟨_, rfl⟩
          replace h := h x3 ex3
          refine J_iinc (i := 13) (kk := 13) (v := x3) (lv' := [(13, .int x3), (0, .ref 34), (1, .int a1), (2, .int a2), (3, .int a3), (4, .int a4), (5, .int a5), (6, .int a6), (7, .int a7), (8, .int a8), (9, .int a9), (10, .int a10), (11, .int a11), (12, .int a12)]) dX8_foretell_153 rfl (by rw [ex3]; rfl) (by decide) rfl ?_
          refine J_goto (tgt := 21) dX8_foretell_156 (by decide) ?_
          refine J_sub [1, 2, 3, 4, 5, 6, 7, 8, 9, 10, 11, 12, 13, 0] rfl ?_
          exact h
        · replace h := h.1 hc
          refine J_aload_n (i := 0) (kk := 0) dX8_foretell_70 rfl rfl ?_
          refine J_getR 38 (q := 34) (ci := 8) (kf := 3) kfX8_21 uxX8 rfl (by decide) rfl (by decide) rfl dX8_foretell_71 ?_
          refine J_iload (i := 13) (kk := 13) dX8_foretell_74 rfl ?_
          refine J_ald (a13.toNatClampNeg) rfl (by decide) rfl b1 dX8_foretell_76 ?_
          refine J_iload (i := 4) (kk := 4) dX8_foretell_77 rfl ?_
          refine J_icmp_eq 85 dX8_foretell_79 (by decide) (fun hc => ?_) (fun hc => ?_)
          · replace h := h.1 hc
            obtain ⟨x4, ex4⟩ : ∃ y : Int32, y = a11 + 1 := ⟨_, rfl⟩
            replace h := h x4 ex4
            refine J_iinc (i := 11) (kk := 11) (v := x4) (lv' := [(11, .int x4), (0, .ref 34), (1, .int a1), (2, .int a2), (3, .int a3), (4, .int a4), (5, .int a5), (6, .int a6), (7, .int a7), (8, .int a8), (9, .int a9), (10, .int a10), (12, .int a12), (13, .int a13)]) dX8_foretell_85 rfl (by rw [ex4]; rfl) (by decide) rfl ?_
            refine J_iload (i := 12) (kk := 12) dX8_foretell_88 rfl ?_
            refine J_aload_n (i := 0) (kk := 1) dX8_foretell_90 rfl rfl ?_
            refine J_getR 40 (q := 34) (ci := 8) (kf := 5) kfX8_27 uxX8 rfl (by decide) rfl (by decide) rfl dX8_foretell_91 ?_
            refine J_iload (i := 13) (kk := 13) dX8_foretell_94 rfl ?_
            refine J_ald (a13.toNatClampNeg) rfl (by decide) rfl b1 dX8_foretell_96 ?_
            refine J_iadd dX8_foretell_97 ?_
            refine J_nameI (fun x5 ex5 => ?_)
            replace h := h x5 ex5
            refine J_istore (i := 12) (lv' := [(12, .int x5), (11, .int x4), (0, .ref 34), (1, .int a1), (2, .int a2), (3, .int a3), (4, .int a4), (5, .int a5), (6, .int a6), (7, .int a7), (8, .int a8), (9, .int a9), (10, .int a10), (13, .int a13)]) dX8_foretell_98 (by decide) rfl ?_
            refine J_aload_n (i := 0) (kk := 2) dX8_foretell_100 rfl rfl ?_
            refine J_getR 35 (q := 34) (ci := 8) (kf := 0) kfX8_9 uxX8 rfl (by decide) rfl (by decide) rfl dX8_foretell_101 ?_
            refine J_iload (i := 13) (kk := 13) dX8_foretell_104 rfl ?_
            refine J_ald (a13.toNatClampNeg) rfl (by decide) rfl b1 dX8_foretell_106 ?_
            refine J_iload_n (i := 1) (kk := 3) dX8_foretell_107 rfl rfl ?_
            refine J_icmp_ne 153 dX8_foretell_108 (by decide) (fun hc => ?_) (fun hc => ?_)
            · replace h := h.2 hc
              obtain ⟨x6, ex6⟩ : ∃ y : Int32, y = a13 + 1 := ⟨_, rfl⟩
              replace h := h x6 ex6
              refine J_iinc (i := 13) (kk := 13) (v := x6) (lv' := [(13, .int x6), (12, .int x5), (11, .int x4), (0, .ref 34), (1, .int a1), (2, .int a2), (3, .int a3), (4, .int a4), (5, .int a5), (6, .int a6), (7, .int a7), (8, .int a8), (9, .int a9), (10, .int a10)]) dX8_foretell_153 rfl (by rw [ex6]; rfl) (by decide) rfl ?_
              refine J_goto (tgt := 21) dX8_foretell_156 (by decide) ?_
              refine J_sub [3, 4, 5, 6, 7, 8, 9, 10, 11, 12, 13, 2, 1, 0] rfl ?_
              exact h
            · replace h := h.1 hc
              obtain ⟨x7, ex7⟩ : ∃ y : Int32, y = a9 + 1 := ⟨_, rfl⟩
              replace h := h x7 ex7
              refine J_iinc (i := 9) (kk := 11) (v := x7) (lv' := [(9, .int x7), (12, .int x5), (11, .int x4), (0, .ref 34), (1, .int a1), (2, .int a2), (3, .int a3), (4, .int a4), (5, .int a5), (6, .int a6), (7, .int a7), (8, .int a8), (10, .int a10), (13, .int a13)]) dX8_foretell_111 rfl (by rw [ex7]; rfl) (by decide) rfl ?_
              refine J_iload (i := 10) (kk := 12) dX8_foretell_114 rfl ?_
              refine J_aload_n (i := 0) (kk := 3) dX8_foretell_116 rfl rfl ?_
              refine J_getR 40 (q := 34) (ci := 8) (kf := 5) kfX8_27 uxX8 rfl (by decide) rfl (by decide) rfl dX8_foretell_117 ?_
              refine J_iload (i := 13) (kk := 13) dX8_foretell_120 rfl ?_
              refine J_ald (a13.toNatClampNeg) rfl (by decide) rfl b1 dX8_foretell_122 ?_
              refine J_iadd dX8_foretell_123 ?_
              refine J_nameI (fun x8 ex8 => ?_)
              replace h := h x8 ex8
              refine J_istore (i := 10) (lv' := [(10, .int x8), (9, .int x7), (12, .int x5), (11, .int x4), (0, .ref 34), (1, .int a1), (2, .int a2), (3, .int a3), (4, .int a4), (5, .int a5), (6, .int a6), (7, .int a7), (8, .int a8), (13, .int a13)]) dX8_foretell_124 (by decide) rfl ?_
              refine J_aload_n (i := 0) (kk := 4) dX8_foretell_126 rfl rfl ?_
              refine J_getR 39 (q := 34) (ci := 8) (kf := 4) kfX8_24 uxX8 rfl (by decide) rfl (by decide) rfl dX8_foretell_127 ?_
              refine J_iload (i := 13) (kk := 13) dX8_foretell_130 rfl ?_
              refine J_ald (a13.toNatClampNeg) rfl (by decide) rfl b1 dX8_foretell_132 ?_
              refine J_iload (i := 5) (kk := 9) dX8_foretell_133 rfl ?_
              refine J_icmp_ne 153 dX8_foretell_135 (by decide) (fun hc => ?_) (fun hc => ?_)
              · replace h := h.2 hc
                obtain ⟨x9, ex9⟩ : ∃ y : Int32, y = a13 + 1 := ⟨_, rfl⟩
                replace h := h x9 ex9
                refine J_iinc (i := 13) (kk := 13) (v := x9) (lv' := [(13, .int x9), (10, .int x8), (9, .int x7), (12, .int x5), (11, .int x4), (0, .ref 34), (1, .int a1), (2, .int a2), (3, .int a3), (4, .int a4), (5, .int a5), (6, .int a6), (7, .int a7), (8, .int a8)]) dX8_foretell_153 rfl (by rw [ex9]; rfl) (by decide) rfl ?_
                refine J_goto (tgt := 21) dX8_foretell_156 (by decide) ?_
                refine J_sub [5, 6, 7, 8, 9, 10, 11, 12, 13, 2, 1, 4, 3, 0] rfl ?_
                exact h
              · replace h := h.1 hc
                obtain ⟨x10, ex10⟩ : ∃ y : Int32, y = a7 + 1 := ⟨_, rfl⟩
                replace h := h x10 ex10
                refine J_iinc (i := 7) (kk := 11) (v := x10) (lv' := [(7, .int x10), (10, .int x8), (9, .int x7), (12, .int x5), (11, .int x4), (0, .ref 34), (1, .int a1), (2, .int a2), (3, .int a3), (4, .int a4), (5, .int a5), (6, .int a6), (8, .int a8), (13, .int a13)]) dX8_foretell_138 rfl (by rw [ex10]; rfl) (by decide) rfl ?_
                refine J_iload (i := 8) (kk := 12) dX8_foretell_141 rfl ?_
                refine J_aload_n (i := 0) (kk := 5) dX8_foretell_143 rfl rfl ?_
                refine J_getR 40 (q := 34) (ci := 8) (kf := 5) kfX8_27 uxX8 rfl (by decide) rfl (by decide) rfl dX8_foretell_144 ?_
                refine J_iload (i := 13) (kk := 13) dX8_foretell_147 rfl ?_
                refine J_ald (a13.toNatClampNeg) rfl (by decide) rfl b1 dX8_foretell_149 ?_
                refine J_iadd dX8_foretell_150 ?_
                refine J_nameI (fun x11 ex11 => ?_)
                replace h := h x11 ex11
                refine J_istore (i := 8) (lv' := [(8, .int x11), (7, .int x10), (10, .int x8), (9, .int x7), (12, .int x5), (11, .int x4), (0, .ref 34), (1, .int a1), (2, .int a2), (3, .int a3), (4, .int a4), (5, .int a5), (6, .int a6), (13, .int a13)]) dX8_foretell_151 (by decide) rfl ?_
                obtain ⟨x12, ex12⟩ : ∃ y : Int32, y = a13 + 1 := ⟨_, rfl⟩
                replace h := h x12 ex12
                refine J_iinc (i := 13) (kk := 13) (v := x12) (lv' := [(13, .int x12), (8, .int x11), (7, .int x10), (10, .int x8), (9, .int x7), (12, .int x5), (11, .int x4), (0, .ref 34), (1, .int a1), (2, .int a2), (3, .int a3), (4, .int a4), (5, .int a5), (6, .int a6)]) dX8_foretell_153 rfl (by rw [ex12]; rfl) (by decide) rfl ?_
                refine J_goto (tgt := 21) dX8_foretell_156 (by decide) ?_
                refine J_sub [7, 8, 9, 10, 11, 12, 13, 2, 1, 4, 3, 6, 5, 0] rfl ?_
                exact h
          · replace h := h.2 hc
            refine J_goto (tgt := 153) dX8_foretell_82 (by decide) ?_
            obtain ⟨x13, ex13⟩ : ∃ y : Int32, y = a13 + 1 := ⟨_, rfl⟩
            replace h := h x13 ex13
            refine J_iinc (i := 13) (kk := 13) (v := x13) (lv' := [(13, .int x13), (0, .ref 34), (1, .int a1), (2, .int a2), (3, .int a3), (4, .int a4), (5, .int a5), (6, .int a6), (7, .int a7), (8, .int a8), (9, .int a9), (10, .int a10), (11, .int a11), (12, .int a12)]) dX8_foretell_153 rfl (by rw [ex13]; rfl) (by decide) rfl ?_
            refine J_goto (tgt := 21) dX8_foretell_156 (by decide) ?_
            refine J_sub [1, 2, 3, 4, 5, 6, 7, 8, 9, 10, 11, 12, 13, 0] rfl ?_
            exact h
set_option maxHeartbeats 4000000 in
set_option maxRecDepth 100000 in
theorem w_X8_foretell_0 {Γ : GG} {l : Launch} {d : Nat} {Q : Option Value → St → Prop} {σ : St} (a1 : Int32) (a2 : Int32) (a3 : Int32) (a4 : Int32) (a5 : Int32) (a6 : Int32) (h : J Γ l (d + 1) mX8_foretell Q 21 [(0, .ref 34), (1, .int a1), (2, .int a2), (3, .int a3), (4, .int a4), (5, .int a5), (6, .int a6), (7, .int (0)), (8, .int (0)), (9, .int (0)), (10, .int (0)), (11, .int (0)), (12, .int (0)), (13, .int (0))] [] σ) : J Γ l (d + 1) mX8_foretell Q 0 [(0, .ref 34), (1, .int a1), (2, .int a2), (3, .int a3), (4, .int a4), (5, .int a5), (6, .int a6)] [] σ := by
  refine J_iconst (v := 0) dX8_foretell_0 (by decide) ?_
  refine J_istore (i := 7) (lv' := [(7, .int (0)), (0, .ref 34), (1, .int a1), (2, .int a2), (3, .int a3), (4, .int a4), (5, .int a5), (6, .int a6)]) dX8_foretell_1 (by decide) rfl ?_
  refine J_iconst (v := 0) dX8_foretell_3 (by decide) ?_
  refine J_istore (i := 8) (lv' := [(8, .int (0)), (7, .int (0)), (0, .ref 34), (1, .int a1), (2, .int a2), (3, .int a3), (4, .int a4), (5, .int a5), (6, .int a6)]) dX8_foretell_4 (by decide) rfl ?_
  refine J_iconst (v := 0) dX8_foretell_6 (by decide) ?_
  refine J_istore (i := 9) (lv' := [(9, .int (0)), (8, .int (0)), (7, .int (0)), (0, .ref 34), (1, .int a1), (2, .int a2), (3, .int a3), (4, .int a4), (5, .int a5), (6, .int a6)]) dX8_foretell_7 (by decide) rfl ?_
  refine J_iconst (v := 0) dX8_foretell_9 (by decide) ?_
  refine J_istore (i := 10) (lv' := [(10, .int (0)), (9, .int (0)), (8, .int (0)), (7, .int (0)), (0, .ref 34), (1, .int a1), (2, .int a2), (3, .int a3), (4, .int a4), (5, .int a5), (6, .int a6)]) dX8_foretell_10 (by decide) rfl ?_
  refine J_iconst (v := 0) dX8_foretell_12 (by decide) ?_
  refine J_istore (i := 11) (lv' := [(11, .int (0)), (10, .int (0)), (9, .int (0)), (8, .int (0)), (7, .int (0)), (0, .ref 34), (1, .int a1), (2, .int a2), (3, .int a3), (4, .int a4), (5, .int a5), (6, .int a6)]) dX8_foretell_13 (by decide) rfl ?_
  refine J_iconst (v := 0) dX8_foretell_15 (by decide) ?_
  refine J_istore (i := 12) (lv' := [(12, .int (0)), (11, .int (0)), (10, .int (0)), (9, .int (0)), (8, .int (0)), (7, .int (0)), (0, .ref 34), (1, .int a1), (2, .int a2), (3, .int a3), (4, .int a4), (5, .int a5), (6, .int a6)]) dX8_foretell_16 (by decide) rfl ?_
  refine J_iconst (v := 0) dX8_foretell_18 (by decide) ?_
  refine J_istore (i := 13) (lv' := [(13, .int (0)), (12, .int (0)), (11, .int (0)), (10, .int (0)), (9, .int (0)), (8, .int (0)), (7, .int (0)), (0, .ref 34), (1, .int a1), (2, .int a2), (3, .int a3), (4, .int a4), (5, .int a5), (6, .int a6)]) dX8_foretell_19 (by decide) rfl ?_
  refine J_sub [7, 8, 9, 10, 11, 12, 13, 6, 5, 4, 3, 2, 1, 0] rfl ?_
  exact h
theorem M_X8_foretell {Γ : GG} {l : Launch} {d : Nat} {Q : Option Value → St → Prop} {σ : St} (a1 : Int32) (a2 : Int32) (a3 : Int32) (a4 : Int32) (a5 : Int32) (a6 : Int32) (k : J Γ l (d + 1) mX8_foretell Q 0 [(0, .ref 34), (1, .int a1), (2, .int a2), (3, .int a3), (4, .int a4), (5, .int a5), (6, .int a6)] [] σ) : Meth Γ l (d + 1) mX8_foretell [.ref 34, .int a1, .int a2, .int a3, .int a4, .int a5, .int a6] σ Q := Meth_of_J (by decide +kernel) (fun _ => Nat.le_of_ble_eq_true rfl) (fun _ => rfl) k
set_option maxHeartbeats 4000000 in
set_option maxRecDepth 100000 in
theorem w_X8_mean_0 {Γ : GG} {l : Launch} {d : Nat} {Q : Option Value → St → Prop} {σ : St} (a0 : Int32) (a1 : Int32) (h : (a1 = (0 : Int32) → Q (some (.int (0))) σ) ∧ (¬ a1 = (0 : Int32) → ¬ (2 : Int32) * a1 = 0 ∧ Q (some (.int ((((2 : Int32) * a0) + a1) / ((2 : Int32) * a1)))) σ)) : J Γ l d mX8_mean Q 0 [(0, .int a0), (1, .int a1)] [] σ := by
  refine J_iload_n (i := 1) (kk := 1) dX8_mean_0 rfl rfl ?_
  refine J_if_ne 8 dX8_mean_1 (by decide) (fun hc => ?_) (fun hc => ?_)
  · replace h := h.2 hc
    refine J_iconst (v := 2) dX8_mean_8 (by decide) ?_
    refine J_iload_n (i := 0) (kk := 0) dX8_mean_9 rfl rfl ?_
    refine J_imul dX8_mean_10 ?_
    refine J_iload_n (i := 1) (kk := 1) dX8_mean_11 rfl rfl ?_
    refine J_iadd dX8_mean_12 ?_
    refine J_iconst (v := 2) dX8_mean_13 (by decide) ?_
    refine J_iload_n (i := 1) (kk := 1) dX8_mean_14 rfl rfl ?_
    refine J_imul dX8_mean_15 ?_
    have hz := h.1
    replace h := h.2
    refine J_idiv dX8_mean_16 hz ?_
    exact J_iret rfl dX8_mean_17 h
  · replace h := h.1 hc
    refine J_iconst (v := 0) dX8_mean_4 (by decide) ?_
    refine J_goto (tgt := 17) dX8_mean_5 (by decide) ?_
    exact J_iret rfl dX8_mean_17 h
theorem M_X8_mean {Γ : GG} {l : Launch} {d : Nat} {Q : Option Value → St → Prop} {σ : St} (a0 : Int32) (a1 : Int32) (k : J Γ l d mX8_mean Q 0 [(0, .int a0), (1, .int a1)] [] σ) : Meth Γ l d mX8_mean [.int a0, .int a1] σ Q := Meth_of_J (by decide +kernel) (fun _ => Nat.le_of_ble_eq_true rfl) (fun _ => rfl) k
set_option maxHeartbeats 4000000 in
set_option maxRecDepth 100000 in
theorem w_X8_askedEarly_6 {Γ : GG} {l : Launch} {d : Nat} {Q : Option Value → St → Prop} {σ : St} (a1 : Int32) (a2 : Int32) (a3 : Int32) (a4 : Int32) (a5 : Int32) (a6 : Int32) (h : (rd σ 34 7 ≤ a6 → Q (some (.int a5)) σ) ∧ (¬ rd σ 34 7 ≤ a6 → vp_in a6 600 ∧ ((13 : Int32) < (rd σ 37 (a6.toNatClampNeg)) - (rd σ 37 (a6.toNatClampNeg)) / (24 : Int32) * (24 : Int32) → ∀ x2 : Int32, x2 = (rd σ 37 (a6.toNatClampNeg)) / (24 : Int32) → ∀ x3 : Int32, x3 = a6 + 1 → J Γ l (d + 1) mX8_askedEarly Q 6 [(0, .ref 34), (1, .int a1), (2, .int a2), (3, .int a3), (4, .int a4), (5, .int a5), (6, .int x3)] [] σ) ∧ (¬ (13 : Int32) < (rd σ 37 (a6.toNatClampNeg)) - (rd σ 37 (a6.toNatClampNeg)) / (24 : Int32) * (24 : Int32) → ∀ x4 : Int32, x4 = (rd σ 37 (a6.toNatClampNeg)) / (24 : Int32) → (rd σ 35 (a6.toNatClampNeg) = a1 → (rd σ 36 (a6.toNatClampNeg) = a2 → (a3 ≤ x4 ∧ x4 ≤ a4 → ∀ x7 : Int32, x7 = a5 + (rd σ 40 (a6.toNatClampNeg)) → ∀ x8 : Int32, x8 = a6 + 1 → J Γ l (d + 1) mX8_askedEarly Q 6 [(0, .ref 34), (1, .int a1), (2, .int a2), (3, .int a3), (4, .int a4), (5, .int x7), (6, .int x8)] [] σ) ∧ (¬ (a3 ≤ x4 ∧ x4 ≤ a4) → ∀ x9 : Int32, x9 = a6 + 1 → J Γ l (d + 1) mX8_askedEarly Q 6 [(0, .ref 34), (1, .int a1), (2, .int a2), (3, .int a3), (4, .int a4), (5, .int a5), (6, .int x9)] [] σ)) ∧ (¬ rd σ 36 (a6.toNatClampNeg) = a2 → ∀ x6 : Int32, x6 = a6 + 1 → J Γ l (d + 1) mX8_askedEarly Q 6 [(0, .ref 34), (1, .int a1), (2, .int a2), (3, .int a3), (4, .int a4), (5, .int a5), (6, .int x6)] [] σ)) ∧ (¬ rd σ 35 (a6.toNatClampNeg) = a1 → ∀ x5 : Int32, x5 = a6 + 1 → J Γ l (d + 1) mX8_askedEarly Q 6 [(0, .ref 34), (1, .int a1), (2, .int a2), (3, .int a3), (4, .int a4), (5, .int a5), (6, .int x5)] [] σ)))) : J Γ l (d + 1) mX8_askedEarly Q 6 [(0, .ref 34), (1, .int a1), (2, .int a2), (3, .int a3), (4, .int a4), (5, .int a5), (6, .int a6)] [] σ := by
  refine J_iload (i := 6) (kk := 6) dX8_askedEarly_6 rfl ?_
  refine J_aload_n (i := 0) (kk := 0) dX8_askedEarly_8 rfl rfl ?_
  refine J_getI (q := 34) (ci := 8) (kf := 7) kfX8_33 uxX8 rfl (by decide) rfl (by decide) rfl dX8_askedEarly_9 ?_
  refine J_icmp_ge 105 dX8_askedEarly_12 (by decide) (fun hc => ?_) (fun hc => ?_)
  · replace h := h.1 hc
    refine J_iload (i := 5) (kk := 5) dX8_askedEarly_105 rfl ?_
    exact J_iret rfl dX8_askedEarly_107 h
  · replace h := h.2 hc
    refine J_aload_n (i := 0) (kk := 0) dX8_askedEarly_15 rfl rfl ?_
    refine J_getR 37 (q := 34) (ci := 8) (kf := 2) kfX8_18 uxX8 rfl (by decide) rfl (by decide) rfl dX8_askedEarly_16 ?_
    refine J_iload (i := 6) (kk := 6) dX8_askedEarly_19 rfl ?_
    have b1 := h.1
    replace h := h.2
    refine J_ald (a6.toNatClampNeg) rfl (by decide) rfl b1 dX8_askedEarly_21 ?_
    refine J_bipush (v := 24) dX8_askedEarly_22 (by decide) ?_
    refine J_irem dX8_askedEarly_24 (by decide) ?_
    refine J_bipush (v := 13) dX8_askedEarly_25 (by decide) ?_
    refine J_icmp_gt 34 dX8_askedEarly_27 (by decide) (fun hc => ?_) (fun hc => ?_)
    · replace h := h.1 hc
      refine J_iconst (v := 0) dX8_askedEarly_34 (by decide) ?_
      refine J_istore (i := 7) (lv' := [(7, .int (0)), (0, .ref 34), (1, .int a1), (2, .int a2), (3, .int a3), (4, .int a4), (5, .int a5), (6, .int a6)]) dX8_askedEarly_35 (by decide) rfl ?_
      refine J_aload_n (i := 0) (kk := 1) dX8_askedEarly_37 rfl rfl ?_
      refine J_getR 37 (q := 34) (ci := 8) (kf := 2) kfX8_18 uxX8 rfl (by decide) rfl (by decide) rfl dX8_askedEarly_38 ?_
      refine J_iload (i := 6) (kk := 7) dX8_askedEarly_41 rfl ?_
      refine J_ald (a6.toNatClampNeg) rfl (by decide) rfl b1 dX8_askedEarly_43 ?_
      refine J_bipush (v := 24) dX8_askedEarly_44 (by decide) ?_
      refine J_idiv dX8_askedEarly_46 (by decide) ?_
      refine J_nameI (fun x2 ex2 => ?_)
      replace h := h x2 ex2
      refine J_istore (i := 8) (lv' := [(8, .int x2), (7, .int (0)), (0, .ref 34), (1, .int a1), (2, .int a2), (3, .int a3), (4, .int a4), (5, .int a5), (6, .int a6)]) dX8_askedEarly_47 (by decide) rfl ?_
      refine J_iload (i := 7) (kk := 1) dX8_askedEarly_49 rfl ?_
      refine J_if_eq 99 dX8_askedEarly_51 (by decide) (fun _ => ?_) (fun hc => absurd hc (by decide))
      obtain ⟨x3, ex3⟩ : ∃ y : Int32, y = a6 + 1 := ⟨_, rfl⟩
      replace h := h x3 ex3
      refine J_iinc (i := 6) (kk := 8) (v := x3) (lv' := [(6, .int x3), (8, .int x2), (7, .int (0)), (0, .ref 34), (1, .int a1), (2, .int a2), (3, .int a3), (4, .int a4), (5, .int a5)]) dX8_askedEarly_99 rfl (by rw [ex3]; rfl) (by decide) rfl ?_
      refine J_goto (tgt := 6) dX8_askedEarly_102 (by decide) ?_
      refine J_sub [3, 4, 5, 6, 7, 8, 0] rfl ?_
      exact h
    · replace h := h.2 hc
      refine J_iconst (v := 1) dX8_askedEarly_30 (by decide) ?_
      refine J_goto (tgt := 35) dX8_askedEarly_31 (by decide) ?_
      refine J_istore (i := 7) (lv' := [(7, .int (1)), (0, .ref 34), (1, .int a1), (2, .int a2), (3, .int a3), (4, .int a4), (5, .int a5), (6, .int a6)]) dX8_askedEarly_35 (by decide) rfl ?_
      refine J_aload_n (i := 0) (kk := 1) dX8_askedEarly_37 rfl rfl ?_
      refine J_getR 37 (q := 34) (ci := 8) (kf := 2) kfX8_18 uxX8 rfl (by decide) rfl (by decide) rfl dX8_askedEarly_38 ?_
      refine J_iload (i := 6) (kk := 7) dX8_askedEarly_41 rfl ?_
      refine J_ald (a6.toNatClampNeg) rfl (by decide) rfl b1 dX8_askedEarly_43 ?_
      refine J_bipush (v := 24) dX8_askedEarly_44 (by decide) ?_
      refine J_idiv dX8_askedEarly_46 (by decide) ?_
      refine J_nameI (fun x4 ex4 => ?_)
      replace h := h x4 ex4
      refine J_istore (i := 8) (lv' := [(8, .int x4), (7, .int (1)), (0, .ref 34), (1, .int a1), (2, .int a2), (3, .int a3), (4, .int a4), (5, .int a5), (6, .int a6)]) dX8_askedEarly_47 (by decide) rfl ?_
      refine J_iload (i := 7) (kk := 1) dX8_askedEarly_49 rfl ?_
      refine J_if_eq 99 dX8_askedEarly_51 (by decide) (fun hc => absurd hc (by decide)) (fun _ => ?_)
      refine J_aload_n (i := 0) (kk := 2) dX8_askedEarly_54 rfl rfl ?_
      refine J_getR 35 (q := 34) (ci := 8) (kf := 0) kfX8_9 uxX8 rfl (by decide) rfl (by decide) rfl dX8_askedEarly_55 ?_
      refine J_iload (i := 6) (kk := 8) dX8_askedEarly_58 rfl ?_
      refine J_ald (a6.toNatClampNeg) rfl (by decide) rfl b1 dX8_askedEarly_60 ?_
      refine J_iload_n (i := 1) (kk := 3) dX8_askedEarly_61 rfl rfl ?_
      refine J_icmp_ne 99 dX8_askedEarly_62 (by decide) (fun hc => ?_) (fun hc => ?_)
      · replace h := h.2 hc
        obtain ⟨x5, ex5⟩ : ∃ y : Int32, y = a6 + 1 := ⟨_, rfl⟩
        replace h := h x5 ex5
        refine J_iinc (i := 6) (kk := 8) (v := x5) (lv' := [(6, .int x5), (8, .int x4), (7, .int (1)), (0, .ref 34), (1, .int a1), (2, .int a2), (3, .int a3), (4, .int a4), (5, .int a5)]) dX8_askedEarly_99 rfl (by rw [ex5]; rfl) (by decide) rfl ?_
        refine J_goto (tgt := 6) dX8_askedEarly_102 (by decide) ?_
        refine J_sub [3, 4, 5, 6, 7, 8, 0] rfl ?_
        exact h
      · replace h := h.1 hc
        refine J_aload_n (i := 0) (kk := 2) dX8_askedEarly_65 rfl rfl ?_
        refine J_getR 36 (q := 34) (ci := 8) (kf := 1) kfX8_15 uxX8 rfl (by decide) rfl (by decide) rfl dX8_askedEarly_66 ?_
        refine J_iload (i := 6) (kk := 8) dX8_askedEarly_69 rfl ?_
        refine J_ald (a6.toNatClampNeg) rfl (by decide) rfl b1 dX8_askedEarly_71 ?_
        refine J_iload_n (i := 2) (kk := 4) dX8_askedEarly_72 rfl rfl ?_
        refine J_icmp_ne 99 dX8_askedEarly_73 (by decide) (fun hc => ?_) (fun hc => ?_)
        · replace h := h.2 hc
          obtain ⟨x6, ex6⟩ : ∃ y : Int32, y = a6 + 1 := ⟨_, rfl⟩
          replace h := h x6 ex6
          refine J_iinc (i := 6) (kk := 8) (v := x6) (lv' := [(6, .int x6), (8, .int x4), (7, .int (1)), (0, .ref 34), (1, .int a1), (2, .int a2), (3, .int a3), (4, .int a4), (5, .int a5)]) dX8_askedEarly_99 rfl (by rw [ex6]; rfl) (by decide) rfl ?_
          refine J_goto (tgt := 6) dX8_askedEarly_102 (by decide) ?_
          refine J_sub [3, 4, 5, 6, 7, 8, 0] rfl ?_
          exact h
        · replace h := h.1 hc
          refine J_iload_n (i := 3) (kk := 5) dX8_askedEarly_76 rfl rfl ?_
          refine J_iload (i := 8) (kk := 0) dX8_askedEarly_77 rfl ?_
          refine J_iload (i := 4) (kk := 6) dX8_askedEarly_79 rfl ?_
          refine J_callSN [.int a3, .int x4, .int a4] [] calX11_isFrom knX8_50 rfl rfl (Nat.le_of_ble_eq_true rfl) dX8_askedEarly_81 (KI.to (S_X11_isFrom a3 x4 a4) ?_)
          rintro x9 s9 ⟨rfl, ⟨g10, rfl⟩ | ⟨g10, rfl⟩⟩
          · replace h := h.1 g10
            refine J_if_eq 99 dX8_askedEarly_84 (by decide) (fun hc => absurd hc (by decide)) (fun _ => ?_)
            refine J_iload (i := 5) (kk := 7) dX8_askedEarly_87 rfl ?_
            refine J_aload_n (i := 0) (kk := 2) dX8_askedEarly_89 rfl rfl ?_
            refine J_getR 40 (q := 34) (ci := 8) (kf := 5) kfX8_27 uxX8 rfl (by decide) rfl (by decide) rfl dX8_askedEarly_90 ?_
            refine J_iload (i := 6) (kk := 8) dX8_askedEarly_93 rfl ?_
            refine J_ald (a6.toNatClampNeg) rfl (by decide) rfl b1 dX8_askedEarly_95 ?_
            refine J_iadd dX8_askedEarly_96 ?_
            refine J_nameI (fun x7 ex7 => ?_)
            replace h := h x7 ex7
            refine J_istore (i := 5) (lv' := [(5, .int x7), (8, .int x4), (7, .int (1)), (0, .ref 34), (1, .int a1), (2, .int a2), (3, .int a3), (4, .int a4), (6, .int a6)]) dX8_askedEarly_97 (by decide) rfl ?_
            obtain ⟨x8, ex8⟩ : ∃ y : Int32, y = a6 + 1 := ⟨_, rfl⟩
            replace h := h x8 ex8
            refine J_iinc (i := 6) (kk := 8) (v := x8) (lv' := [(6, .int x8), (5, .int x7), (8, .int x4), (7, .int (1)), (0, .ref 34), (1, .int a1), (2, .int a2), (3, .int a3), (4, .int a4)]) dX8_askedEarly_99 rfl (by rw [ex8]; rfl) (by decide) rfl ?_
            refine J_goto (tgt := 6) dX8_askedEarly_102 (by decide) ?_
            refine J_sub [4, 5, 6, 7, 8, 1, 0] rfl ?_
            exact h
          · replace h := h.2 g10
            refine J_if_eq 99 dX8_askedEarly_84 (by decide) (fun _ => ?_) (fun hc => absurd hc (by decide))
            obtain ⟨x9, ex9⟩ : ∃ y : Int32, y = a6 + 1 := ⟨_, rfl⟩
            replace h := h x9 ex9
            refine J_iinc (i := 6) (kk := 8) (v := x9) (lv' := [(6, .int x9), (8, .int x4), (7, .int (1)), (0, .ref 34), (1, .int a1), (2, .int a2), (3, .int a3), (4, .int a4), (5, .int a5)]) dX8_askedEarly_99 rfl (by rw [ex9]; rfl) (by decide) rfl ?_
            refine J_goto (tgt := 6) dX8_askedEarly_102 (by decide) ?_
            refine J_sub [3, 4, 5, 6, 7, 8, 0] rfl ?_
            exact h
set_option maxHeartbeats 4000000 in
set_option maxRecDepth 100000 in
theorem w_X8_askedEarly_0 {Γ : GG} {l : Launch} {d : Nat} {Q : Option Value → St → Prop} {σ : St} (a1 : Int32) (a2 : Int32) (a3 : Int32) (a4 : Int32) (h : J Γ l (d + 1) mX8_askedEarly Q 6 [(0, .ref 34), (1, .int a1), (2, .int a2), (3, .int a3), (4, .int a4), (5, .int (0)), (6, .int (0))] [] σ) : J Γ l (d + 1) mX8_askedEarly Q 0 [(0, .ref 34), (1, .int a1), (2, .int a2), (3, .int a3), (4, .int a4)] [] σ := by
  refine J_iconst (v := 0) dX8_askedEarly_0 (by decide) ?_
  refine J_istore (i := 5) (lv' := [(5, .int (0)), (0, .ref 34), (1, .int a1), (2, .int a2), (3, .int a3), (4, .int a4)]) dX8_askedEarly_1 (by decide) rfl ?_
  refine J_iconst (v := 0) dX8_askedEarly_3 (by decide) ?_
  refine J_istore (i := 6) (lv' := [(6, .int (0)), (5, .int (0)), (0, .ref 34), (1, .int a1), (2, .int a2), (3, .int a3), (4, .int a4)]) dX8_askedEarly_4 (by decide) rfl ?_
  refine J_sub [2, 3, 4, 5, 6, 1, 0] rfl ?_
  exact h
theorem M_X8_askedEarly {Γ : GG} {l : Launch} {d : Nat} {Q : Option Value → St → Prop} {σ : St} (a1 : Int32) (a2 : Int32) (a3 : Int32) (a4 : Int32) (k : J Γ l (d + 1) mX8_askedEarly Q 0 [(0, .ref 34), (1, .int a1), (2, .int a2), (3, .int a3), (4, .int a4)] [] σ) : Meth Γ l (d + 1) mX8_askedEarly [.ref 34, .int a1, .int a2, .int a3, .int a4] σ Q := Meth_of_J (by decide +kernel) (fun _ => Nat.le_of_ble_eq_true rfl) (fun _ => rfl) k
set_option maxHeartbeats 4000000 in
set_option maxRecDepth 100000 in
theorem w_X8_sumDays_136 {Γ : GG} {l : Launch} {d : Nat} {Q : Option Value → St → Prop} {σ : St} (a1 : Int32) (a2 : Int32) (a3 : Int32) (a4 : Int32) (a5 : Int32) (a6 : Int32) (a7 : Int32) (h : vp_in ((rd σ 34 9) - (1 : Int32)) 600 ∧ vp_in a7 600 ∧ ∀ x3 : Int32, x3 = a7 + 1 → J Γ l d mX8_sumDays Q 11 [(0, .ref 34), (1, .int a1), (2, .int a2), (3, .int a3), (4, .int a4), (5, .int a5), (6, .int a6), (7, .int x3)] [] (wr σ 42 (((rd σ 34 9) - (1 : Int32)).toNatClampNeg) ((rd σ 42 (((rd σ 34 9) - (1 : Int32)).toNatClampNeg)) + (rd σ 40 (a7.toNatClampNeg))))) : J Γ l d mX8_sumDays Q 136 [(0, .ref 34), (1, .int a1), (2, .int a2), (3, .int a3), (4, .int a4), (5, .int a5), (6, .int a6), (7, .int a7)] [] σ := by
  refine J_aload_n (i := 0) (kk := 0) dX8_sumDays_136 rfl rfl ?_
  refine J_getR 42 (q := 34) (ci := 8) (kf := 8) kfX8_37 uxX8 rfl (by decide) rfl (by decide) rfl dX8_sumDays_137 ?_
  refine J_aload_n (i := 0) (kk := 0) dX8_sumDays_140 rfl rfl ?_
  refine J_getI (q := 34) (ci := 8) (kf := 9) kfX8_40 uxX8 rfl (by decide) rfl (by decide) rfl dX8_sumDays_141 ?_
  refine J_iconst (v := 1) dX8_sumDays_144 (by decide) ?_
  refine J_isub dX8_sumDays_145 ?_
  refine J_dup2_11 dX8_sumDays_146 rfl rfl ?_
  have b1 := h.1
  replace h := h.2
  refine J_ald (((rd σ 34 9) - (1 : Int32)).toNatClampNeg) rfl (by decide) rfl b1 dX8_sumDays_147 ?_
  refine J_aload_n (i := 0) (kk := 0) dX8_sumDays_148 rfl rfl ?_
  refine J_getR 40 (q := 34) (ci := 8) (kf := 5) kfX8_27 uxX8 rfl (by decide) rfl (by decide) rfl dX8_sumDays_149 ?_
  refine J_iload (i := 7) (kk := 7) dX8_sumDays_152 rfl ?_
  have b2 := h.1
  replace h := h.2
  refine J_ald (a7.toNatClampNeg) rfl (by decide) rfl b2 dX8_sumDays_154 ?_
  refine J_iadd dX8_sumDays_155 ?_
  refine J_ast (((rd σ 34 9) - (1 : Int32)).toNatClampNeg) rfl (by decide) rfl b1 dX8_sumDays_156 ?_
  obtain ⟨x3, ex3⟩ : ∃ y : Int32, y = a7 + 1 := ⟨_, rfl⟩
  replace h := h x3 ex3
  refine J_iinc (i := 7) (kk := 7) (v := x3) (lv' := [(7, .int x3), (0, .ref 34), (1, .int a1), (2, .int a2), (3, .int a3), (4, .int a4), (5, .int a5), (6, .int a6)]) dX8_sumDays_157 rfl (by rw [ex3]; rfl) (by decide) rfl ?_
  refine J_goto (tgt := 11) dX8_sumDays_160 (by decide) ?_
  refine J_sub [1, 2, 3, 4, 5, 6, 7, 0] rfl ?_
  exact h
set_option maxHeartbeats 4000000 in
set_option maxRecDepth 100000 in
theorem w_X8_sumDays_85 {Γ : GG} {l : Launch} {d : Nat} {Q : Option Value → St → Prop} {σ : St} (a1 : Int32) (a2 : Int32) (a3 : Int32) (a4 : Int32) (a5 : Int32) (a6 : Int32) (a7 : Int32) (a8 : Int32) (h : ∀ x1 : Int32, x1 = a7 + 1 → J Γ l d mX8_sumDays Q 11 [(0, .ref 34), (1, .int a1), (2, .int a2), (3, .int a3), (4, .int a4), (5, .int a5), (6, .int a6), (7, .int x1)] [] σ) : J Γ l d mX8_sumDays Q 85 [(0, .ref 34), (1, .int a1), (2, .int a2), (3, .int a3), (4, .int a4), (5, .int a5), (6, .int a6), (7, .int a7), (8, .int a8)] [] σ := by
  refine J_iconst (v := 0) dX8_sumDays_85 (by decide) ?_
  refine J_istore (i := 9) (lv' := [(9, .int (0)), (0, .ref 34), (1, .int a1), (2, .int a2), (3, .int a3), (4, .int a4), (5, .int a5), (6, .int a6), (7, .int a7), (8, .int a8)]) dX8_sumDays_86 (by decide) rfl ?_
  refine J_iload (i := 9) (kk := 0) dX8_sumDays_88 rfl ?_
  refine J_if_eq 157 dX8_sumDays_90 (by decide) (fun _ => ?_) (fun hc => absurd hc (by decide))
  obtain ⟨x1, ex1⟩ : ∃ y : Int32, y = a7 + 1 := ⟨_, rfl⟩
  replace h := h x1 ex1
  refine J_iinc (i := 7) (kk := 8) (v := x1) (lv' := [(7, .int x1), (9, .int (0)), (0, .ref 34), (1, .int a1), (2, .int a2), (3, .int a3), (4, .int a4), (5, .int a5), (6, .int a6), (8, .int a8)]) dX8_sumDays_157 rfl (by rw [ex1]; rfl) (by decide) rfl ?_
  refine J_goto (tgt := 11) dX8_sumDays_160 (by decide) ?_
  refine J_sub [2, 3, 4, 5, 6, 7, 8, 0] rfl ?_
  exact h
set_option maxHeartbeats 4000000 in
set_option maxRecDepth 100000 in
theorem w_X8_sumDays_11 {Γ : GG} {l : Launch} {d : Nat} {Q : Option Value → St → Prop} {σ : St} (a1 : Int32) (a2 : Int32) (a3 : Int32) (a4 : Int32) (a5 : Int32) (a6 : Int32) (a7 : Int32) (h : (rd σ 34 7 ≤ a7 → Q none σ) ∧ (¬ rd σ 34 7 ≤ a7 → vp_in a7 600 ∧ (a5 < (rd σ 37 (a7.toNatClampNeg)) / (24 : Int32) → Q none σ) ∧ (¬ a5 < (rd σ 37 (a7.toNatClampNeg)) / (24 : Int32) → ∀ x2 : Int32, x2 = (rd σ 37 (a7.toNatClampNeg)) / (24 : Int32) → (rd σ 35 (a7.toNatClampNeg) = a1 → (rd σ 36 (a7.toNatClampNeg) = a2 → (rd σ 39 (a7.toNatClampNeg) = a4 → (x2 - x2 / (7 : Int32) * (7 : Int32) = a3 → (x2 = a6 → J Γ l d mX8_sumDays Q 136 [(0, .ref 34), (1, .int a1), (2, .int a2), (3, .int a3), (4, .int a4), (5, .int a5), (6, .int a6), (7, .int a7)] [] σ) ∧ (¬ x2 = a6 → vp_in (rd σ 34 9) 600 ∧ J Γ l d mX8_sumDays Q 136 [(0, .ref 34), (1, .int a1), (2, .int a2), (3, .int a3), (4, .int a4), (5, .int a5), (6, .int x2), (7, .int a7)] [] (wr (wr σ 42 ((rd σ 34 9).toNatClampNeg) (0 : Int32)) 34 9 ((rd σ 34 9) + (1 : Int32))))) ∧ (¬ x2 - x2 / (7 : Int32) * (7 : Int32) = a3 → ∀ x4 : Int32, x4 = a7 + 1 → J Γ l d mX8_sumDays Q 11 [(0, .ref 34), (1, .int a1), (2, .int a2), (3, .int a3), (4, .int a4), (5, .int a5), (6, .int a6), (7, .int x4)] [] σ)) ∧ (¬ rd σ 39 (a7.toNatClampNeg) = a4 → J Γ l d mX8_sumDays Q 85 [(0, .ref 34), (1, .int a1), (2, .int a2), (3, .int a3), (4, .int a4), (5, .int a5), (6, .int a6), (7, .int a7), (8, .int x2)] [] σ)) ∧ (¬ rd σ 36 (a7.toNatClampNeg) = a2 → J Γ l d mX8_sumDays Q 85 [(0, .ref 34), (1, .int a1), (2, .int a2), (3, .int a3), (4, .int a4), (5, .int a5), (6, .int a6), (7, .int a7), (8, .int x2)] [] σ)) ∧ (¬ rd σ 35 (a7.toNatClampNeg) = a1 → J Γ l d mX8_sumDays Q 85 [(0, .ref 34), (1, .int a1), (2, .int a2), (3, .int a3), (4, .int a4), (5, .int a5), (6, .int a6), (7, .int a7), (8, .int x2)] [] σ)))) : J Γ l d mX8_sumDays Q 11 [(0, .ref 34), (1, .int a1), (2, .int a2), (3, .int a3), (4, .int a4), (5, .int a5), (6, .int a6), (7, .int a7)] [] σ := by
  refine J_iload (i := 7) (kk := 7) dX8_sumDays_11 rfl ?_
  refine J_aload_n (i := 0) (kk := 0) dX8_sumDays_13 rfl rfl ?_
  refine J_getI (q := 34) (ci := 8) (kf := 7) kfX8_33 uxX8 rfl (by decide) rfl (by decide) rfl dX8_sumDays_14 ?_
  refine J_icmp_ge 163 dX8_sumDays_17 (by decide) (fun hc => ?_) (fun hc => ?_)
  · replace h := h.1 hc
    exact J_vret rfl dX8_sumDays_163 h
  · replace h := h.2 hc
    refine J_aload_n (i := 0) (kk := 0) dX8_sumDays_20 rfl rfl ?_
    refine J_getR 37 (q := 34) (ci := 8) (kf := 2) kfX8_18 uxX8 rfl (by decide) rfl (by decide) rfl dX8_sumDays_21 ?_
    refine J_iload (i := 7) (kk := 7) dX8_sumDays_24 rfl ?_
    have b1 := h.1
    replace h := h.2
    refine J_ald (a7.toNatClampNeg) rfl (by decide) rfl b1 dX8_sumDays_26 ?_
    refine J_bipush (v := 24) dX8_sumDays_27 (by decide) ?_
    refine J_idiv dX8_sumDays_29 (by decide) ?_
    refine J_iload (i := 5) (kk := 5) dX8_sumDays_30 rfl ?_
    refine J_icmp_gt 163 dX8_sumDays_32 (by decide) (fun hc => ?_) (fun hc => ?_)
    · replace h := h.1 hc
      exact J_vret rfl dX8_sumDays_163 h
    · replace h := h.2 hc
      refine J_aload_n (i := 0) (kk := 0) dX8_sumDays_35 rfl rfl ?_
      refine J_getR 37 (q := 34) (ci := 8) (kf := 2) kfX8_18 uxX8 rfl (by decide) rfl (by decide) rfl dX8_sumDays_36 ?_
      refine J_iload (i := 7) (kk := 7) dX8_sumDays_39 rfl ?_
      refine J_ald (a7.toNatClampNeg) rfl (by decide) rfl b1 dX8_sumDays_41 ?_
      refine J_bipush (v := 24) dX8_sumDays_42 (by decide) ?_
      refine J_idiv dX8_sumDays_44 (by decide) ?_
      refine J_nameI (fun x2 ex2 => ?_)
      replace h := h x2 ex2
      refine J_istore (i := 8) (lv' := [(8, .int x2), (0, .ref 34), (1, .int a1), (2, .int a2), (3, .int a3), (4, .int a4), (5, .int a5), (6, .int a6), (7, .int a7)]) dX8_sumDays_45 (by decide) rfl ?_
      refine J_aload_n (i := 0) (kk := 1) dX8_sumDays_47 rfl rfl ?_
      refine J_getR 35 (q := 34) (ci := 8) (kf := 0) kfX8_9 uxX8 rfl (by decide) rfl (by decide) rfl dX8_sumDays_48 ?_
      refine J_iload (i := 7) (kk := 8) dX8_sumDays_51 rfl ?_
      refine J_ald (a7.toNatClampNeg) rfl (by decide) rfl b1 dX8_sumDays_53 ?_
      refine J_iload_n (i := 1) (kk := 2) dX8_sumDays_54 rfl rfl ?_
      refine J_icmp_ne 85 dX8_sumDays_55 (by decide) (fun hc => ?_) (fun hc => ?_)
      · replace h := h.2 hc
        refine J_sub [1, 2, 3, 4, 5, 6, 7, 8, 0] rfl ?_
        exact h
      · replace h := h.1 hc
        refine J_aload_n (i := 0) (kk := 1) dX8_sumDays_58 rfl rfl ?_
        refine J_getR 36 (q := 34) (ci := 8) (kf := 1) kfX8_15 uxX8 rfl (by decide) rfl (by decide) rfl dX8_sumDays_59 ?_
        refine J_iload (i := 7) (kk := 8) dX8_sumDays_62 rfl ?_
        refine J_ald (a7.toNatClampNeg) rfl (by decide) rfl b1 dX8_sumDays_64 ?_
        refine J_iload_n (i := 2) (kk := 3) dX8_sumDays_65 rfl rfl ?_
        refine J_icmp_ne 85 dX8_sumDays_66 (by decide) (fun hc => ?_) (fun hc => ?_)
        · replace h := h.2 hc
          refine J_sub [1, 2, 3, 4, 5, 6, 7, 8, 0] rfl ?_
          exact h
        · replace h := h.1 hc
          refine J_aload_n (i := 0) (kk := 1) dX8_sumDays_69 rfl rfl ?_
          refine J_getR 39 (q := 34) (ci := 8) (kf := 4) kfX8_24 uxX8 rfl (by decide) rfl (by decide) rfl dX8_sumDays_70 ?_
          refine J_iload (i := 7) (kk := 8) dX8_sumDays_73 rfl ?_
          refine J_ald (a7.toNatClampNeg) rfl (by decide) rfl b1 dX8_sumDays_75 ?_
          refine J_iload (i := 4) (kk := 5) dX8_sumDays_76 rfl ?_
          refine J_icmp_ne 85 dX8_sumDays_78 (by decide) (fun hc => ?_) (fun hc => ?_)
          · replace h := h.2 hc
            refine J_sub [1, 2, 3, 4, 5, 6, 7, 8, 0] rfl ?_
            exact h
          · replace h := h.1 hc
            refine J_iconst (v := 1) dX8_sumDays_81 (by decide) ?_
            refine J_goto (tgt := 86) dX8_sumDays_82 (by decide) ?_
            refine J_istore (i := 9) (lv' := [(9, .int (1)), (8, .int x2), (0, .ref 34), (1, .int a1), (2, .int a2), (3, .int a3), (4, .int a4), (5, .int a5), (6, .int a6), (7, .int a7)]) dX8_sumDays_86 (by decide) rfl ?_
            refine J_iload (i := 9) (kk := 0) dX8_sumDays_88 rfl ?_
            refine J_if_eq 157 dX8_sumDays_90 (by decide) (fun hc => absurd hc (by decide)) (fun _ => ?_)
            refine J_iload (i := 8) (kk := 1) dX8_sumDays_93 rfl ?_
            refine J_bipush (v := 7) dX8_sumDays_95 (by decide) ?_
            refine J_irem dX8_sumDays_97 (by decide) ?_
            refine J_iload_n (i := 3) (kk := 5) dX8_sumDays_98 rfl rfl ?_
            refine J_icmp_eq 105 dX8_sumDays_99 (by decide) (fun hc => ?_) (fun hc => ?_)
            · replace h := h.1 hc
              refine J_iload (i := 8) (kk := 1) dX8_sumDays_105 rfl ?_
              refine J_iload (i := 6) (kk := 8) dX8_sumDays_107 rfl ?_
              refine J_icmp_eq 136 dX8_sumDays_109 (by decide) (fun hc => ?_) (fun hc => ?_)
              · replace h := h.1 hc
                refine J_sub [2, 3, 4, 5, 6, 7, 8, 9] rfl ?_
                exact h
              · replace h := h.2 hc
                refine J_aload_n (i := 0) (kk := 2) dX8_sumDays_112 rfl rfl ?_
                refine J_getR 42 (q := 34) (ci := 8) (kf := 8) kfX8_37 uxX8 rfl (by decide) rfl (by decide) rfl dX8_sumDays_113 ?_
                refine J_aload_n (i := 0) (kk := 2) dX8_sumDays_116 rfl rfl ?_
                refine J_getI (q := 34) (ci := 8) (kf := 9) kfX8_40 uxX8 rfl (by decide) rfl (by decide) rfl dX8_sumDays_117 ?_
                refine J_iconst (v := 0) dX8_sumDays_120 (by decide) ?_
                have b3 := h.1
                replace h := h.2
                refine J_ast ((rd σ 34 9).toNatClampNeg) rfl (by decide) rfl b3 dX8_sumDays_121 ?_
                refine J_aload_n (i := 0) (kk := 2) dX8_sumDays_122 rfl rfl ?_
                refine J_dup dX8_sumDays_123 rfl ?_
                refine J_getI (q := 34) (ci := 8) (kf := 9) kfX8_40 uxX8 rfl (by decide) rfl (by decide) rfl dX8_sumDays_124 ?_
                refine J_eqI (y := rd σ 34 9) rfl ?_
                refine J_iconst (v := 1) dX8_sumDays_127 (by decide) ?_
                refine J_iadd dX8_sumDays_128 ?_
                refine J_putf (q := 34) (ci := 8) (kf := 9) (ty := .int) kfX8_40 uxX8 tyX8_ok nmX8 rfl (by decide) rfl (by decide) rfl rfl rfl rfl rfl dX8_sumDays_129 ?_
                refine J_iload (i := 8) (kk := 1) dX8_sumDays_132 rfl ?_
                refine J_istore (i := 6) (lv' := [(6, .int x2), (9, .int (1)), (8, .int x2), (0, .ref 34), (1, .int a1), (2, .int a2), (3, .int a3), (4, .int a4), (5, .int a5), (7, .int a7)]) dX8_sumDays_134 (by decide) rfl ?_
                refine J_sub [3, 4, 5, 6, 7, 8, 0, 9] rfl ?_
                exact h
            · replace h := h.2 hc
              refine J_goto (tgt := 157) dX8_sumDays_102 (by decide) ?_
              obtain ⟨x4, ex4⟩ : ∃ y : Int32, y = a7 + 1 := ⟨_, rfl⟩
              replace h := h x4 ex4
              refine J_iinc (i := 7) (kk := 9) (v := x4) (lv' := [(7, .int x4), (9, .int (1)), (8, .int x2), (0, .ref 34), (1, .int a1), (2, .int a2), (3, .int a3), (4, .int a4), (5, .int a5), (6, .int a6)]) dX8_sumDays_157 rfl (by rw [ex4]; rfl) (by decide) rfl ?_
              refine J_goto (tgt := 11) dX8_sumDays_160 (by decide) ?_
              refine J_sub [3, 4, 5, 6, 7, 8, 9, 0] rfl ?_
              exact h
set_option maxHeartbeats 4000000 in
set_option maxRecDepth 100000 in
theorem w_X8_sumDays_0 {Γ : GG} {l : Launch} {d : Nat} {Q : Option Value → St → Prop} {σ : St} (a1 : Int32) (a2 : Int32) (a3 : Int32) (a4 : Int32) (a5 : Int32) (h : J Γ l d mX8_sumDays Q 11 [(0, .ref 34), (1, .int a1), (2, .int a2), (3, .int a3), (4, .int a4), (5, .int a5), (6, .int ((-1))), (7, .int (0))] [] (wr σ 34 9 (0 : Int32))) : J Γ l d mX8_sumDays Q 0 [(0, .ref 34), (1, .int a1), (2, .int a2), (3, .int a3), (4, .int a4), (5, .int a5)] [] σ := by
  refine J_iconst (v := (-1)) dX8_sumDays_0 (by decide) ?_
  refine J_istore (i := 6) (lv' := [(6, .int ((-1))), (0, .ref 34), (1, .int a1), (2, .int a2), (3, .int a3), (4, .int a4), (5, .int a5)]) dX8_sumDays_1 (by decide) rfl ?_
  refine J_aload_n (i := 0) (kk := 1) dX8_sumDays_3 rfl rfl ?_
  refine J_iconst (v := 0) dX8_sumDays_4 (by decide) ?_
  refine J_putf (q := 34) (ci := 8) (kf := 9) (ty := .int) kfX8_40 uxX8 tyX8_ok nmX8 rfl (by decide) rfl (by decide) rfl rfl rfl rfl rfl dX8_sumDays_5 ?_
  refine J_iconst (v := 0) dX8_sumDays_8 (by decide) ?_
  refine J_istore (i := 7) (lv' := [(7, .int (0)), (6, .int ((-1))), (0, .ref 34), (1, .int a1), (2, .int a2), (3, .int a3), (4, .int a4), (5, .int a5)]) dX8_sumDays_9 (by decide) rfl ?_
  refine J_sub [2, 3, 4, 5, 6, 7, 1, 0] rfl ?_
  exact h
theorem M_X8_sumDays {Γ : GG} {l : Launch} {d : Nat} {Q : Option Value → St → Prop} {σ : St} (a1 : Int32) (a2 : Int32) (a3 : Int32) (a4 : Int32) (a5 : Int32) (k : J Γ l d mX8_sumDays Q 0 [(0, .ref 34), (1, .int a1), (2, .int a2), (3, .int a3), (4, .int a4), (5, .int a5)] [] σ) : Meth Γ l d mX8_sumDays [.ref 34, .int a1, .int a2, .int a3, .int a4, .int a5] σ Q := Meth_of_J (by decide +kernel) (fun _ => Nat.le_of_ble_eq_true rfl) (fun _ => rfl) k
set_option maxHeartbeats 4000000 in
set_option maxRecDepth 100000 in
theorem w_X8_lossOf_6 {Γ : GG} {l : Launch} {d : Nat} {Q : Option Value → St → Prop} {σ : St} (a1 : Int32) (a2 : Int32) (a3 : Int32) (a4 : Int64) (a6 : Int32) (h : (rd σ 34 9 ≤ a6 → Q (some (.long a4)) σ) ∧ (¬ rd σ 34 9 ≤ a6 → vp_in a6 600 ∧ ∀ x2 : Int64, x2 = ((rd σ 42 (a6.toNatClampNeg)) - a1).toInt64 → (lg_cmp x2 (0 : Int64) ≤ (0 : Int32) → ∀ x3 : Int32, x3 = a6 + 1 → J Γ l d mX8_lossOf Q 6 [(0, .ref 34), (1, .int a1), (2, .int a2), (3, .int a3), (4, .long (a4 + ((-x2) * a3.toInt64))), (6, .int x3)] [] σ) ∧ (¬ lg_cmp x2 (0 : Int64) ≤ (0 : Int32) → ∀ x4 : Int32, x4 = a6 + 1 → J Γ l d mX8_lossOf Q 6 [(0, .ref 34), (1, .int a1), (2, .int a2), (3, .int a3), (4, .long (a4 + (x2 * a2.toInt64))), (6, .int x4)] [] σ))) : J Γ l d mX8_lossOf Q 6 [(0, .ref 34), (1, .int a1), (2, .int a2), (3, .int a3), (4, .long a4), (6, .int a6)] [] σ := by
  refine J_iload (i := 6) (kk := 5) dX8_lossOf_6 rfl ?_
  refine J_aload_n (i := 0) (kk := 0) dX8_lossOf_8 rfl rfl ?_
  refine J_getI (q := 34) (ci := 8) (kf := 9) kfX8_40 uxX8 rfl (by decide) rfl (by decide) rfl dX8_lossOf_9 ?_
  refine J_icmp_ge 59 dX8_lossOf_12 (by decide) (fun hc => ?_) (fun hc => ?_)
  · replace h := h.1 hc
    refine J_lload (i := 4) (kk := 4) dX8_lossOf_59 rfl ?_
    exact J_lret rfl dX8_lossOf_61 h
  · replace h := h.2 hc
    refine J_aload_n (i := 0) (kk := 0) dX8_lossOf_15 rfl rfl ?_
    refine J_getR 42 (q := 34) (ci := 8) (kf := 8) kfX8_37 uxX8 rfl (by decide) rfl (by decide) rfl dX8_lossOf_16 ?_
    refine J_iload (i := 6) (kk := 5) dX8_lossOf_19 rfl ?_
    have b1 := h.1
    replace h := h.2
    refine J_ald (a6.toNatClampNeg) rfl (by decide) rfl b1 dX8_lossOf_21 ?_
    refine J_iload_n (i := 1) (kk := 1) dX8_lossOf_22 rfl rfl ?_
    refine J_isub dX8_lossOf_23 ?_
    refine J_i2l dX8_lossOf_24 ?_
    refine J_nameL (fun x2 ex2 => ?_)
    replace h := h x2 ex2
    refine J_lstore (i := 7) (lv' := [(7, .long x2), (0, .ref 34), (1, .int a1), (2, .int a2), (3, .int a3), (4, .long a4), (6, .int a6)]) dX8_lossOf_25 (by decide) rfl ?_
    refine J_lload (i := 4) (kk := 5) dX8_lossOf_27 rfl ?_
    refine J_lload (i := 7) (kk := 0) dX8_lossOf_29 rfl ?_
    refine J_lconst (v := 0) dX8_lossOf_31 (by decide) ?_
    refine J_lcmp dX8_lossOf_32 ?_
    refine J_if_le 44 dX8_lossOf_33 (by decide) (fun hc => ?_) (fun hc => ?_)
    · replace h := h.1 hc
      refine J_lload (i := 7) (kk := 0) dX8_lossOf_44 rfl ?_
      refine J_lneg dX8_lossOf_46 ?_
      refine J_iload_n (i := 3) (kk := 4) dX8_lossOf_47 rfl rfl ?_
      refine J_i2l dX8_lossOf_48 ?_
      refine J_lmul dX8_lossOf_49 ?_
      refine J_ladd dX8_lossOf_50 ?_
      refine J_lstore (i := 4) (lv' := [(4, .long (a4 + ((-x2) * a3.toInt64))), (7, .long x2), (0, .ref 34), (1, .int a1), (2, .int a2), (3, .int a3), (6, .int a6)]) dX8_lossOf_51 (by decide) rfl ?_
      obtain ⟨x3, ex3⟩ : ∃ y : Int32, y = a6 + 1 := ⟨_, rfl⟩
      replace h := h x3 ex3
      refine J_iinc (i := 6) (kk := 6) (v := x3) (lv' := [(6, .int x3), (4, .long (a4 + ((-x2) * a3.toInt64))), (7, .long x2), (0, .ref 34), (1, .int a1), (2, .int a2), (3, .int a3)]) dX8_lossOf_53 rfl (by rw [ex3]; rfl) (by decide) rfl ?_
      refine J_goto (tgt := 6) dX8_lossOf_56 (by decide) ?_
      refine J_sub [3, 4, 5, 6, 1, 0] rfl ?_
      exact h
    · replace h := h.2 hc
      refine J_lload (i := 7) (kk := 0) dX8_lossOf_36 rfl ?_
      refine J_iload_n (i := 2) (kk := 3) dX8_lossOf_38 rfl rfl ?_
      refine J_i2l dX8_lossOf_39 ?_
      refine J_lmul dX8_lossOf_40 ?_
      refine J_goto (tgt := 50) dX8_lossOf_41 (by decide) ?_
      refine J_ladd dX8_lossOf_50 ?_
      refine J_lstore (i := 4) (lv' := [(4, .long (a4 + (x2 * a2.toInt64))), (7, .long x2), (0, .ref 34), (1, .int a1), (2, .int a2), (3, .int a3), (6, .int a6)]) dX8_lossOf_51 (by decide) rfl ?_
      obtain ⟨x4, ex4⟩ : ∃ y : Int32, y = a6 + 1 := ⟨_, rfl⟩
      replace h := h x4 ex4
      refine J_iinc (i := 6) (kk := 6) (v := x4) (lv' := [(6, .int x4), (4, .long (a4 + (x2 * a2.toInt64))), (7, .long x2), (0, .ref 34), (1, .int a1), (2, .int a2), (3, .int a3)]) dX8_lossOf_53 rfl (by rw [ex4]; rfl) (by decide) rfl ?_
      refine J_goto (tgt := 6) dX8_lossOf_56 (by decide) ?_
      refine J_sub [3, 4, 5, 6, 1, 0] rfl ?_
      exact h
set_option maxHeartbeats 4000000 in
set_option maxRecDepth 100000 in
theorem w_X8_lossOf_0 {Γ : GG} {l : Launch} {d : Nat} {Q : Option Value → St → Prop} {σ : St} (a1 : Int32) (a2 : Int32) (a3 : Int32) (h : J Γ l d mX8_lossOf Q 6 [(0, .ref 34), (1, .int a1), (2, .int a2), (3, .int a3), (4, .long 0), (6, .int (0))] [] σ) : J Γ l d mX8_lossOf Q 0 [(0, .ref 34), (1, .int a1), (2, .int a2), (3, .int a3)] [] σ := by
  refine J_lconst (v := 0) dX8_lossOf_0 (by decide) ?_
  refine J_lstore (i := 4) (lv' := [(4, .long 0), (0, .ref 34), (1, .int a1), (2, .int a2), (3, .int a3)]) dX8_lossOf_1 (by decide) rfl ?_
  refine J_iconst (v := 0) dX8_lossOf_3 (by decide) ?_
  refine J_istore (i := 6) (lv' := [(6, .int (0)), (4, .long 0), (0, .ref 34), (1, .int a1), (2, .int a2), (3, .int a3)]) dX8_lossOf_4 (by decide) rfl ?_
  refine J_sub [2, 3, 4, 5, 1, 0] rfl ?_
  exact h
theorem M_X8_lossOf {Γ : GG} {l : Launch} {d : Nat} {Q : Option Value → St → Prop} {σ : St} (a1 : Int32) (a2 : Int32) (a3 : Int32) (k : J Γ l d mX8_lossOf Q 0 [(0, .ref 34), (1, .int a1), (2, .int a2), (3, .int a3)] [] σ) : Meth Γ l d mX8_lossOf [.ref 34, .int a1, .int a2, .int a3] σ Q := Meth_of_J (by decide +kernel) (fun _ => Nat.le_of_ble_eq_true rfl) (fun _ => rfl) k
set_option maxHeartbeats 4000000 in
set_option maxRecDepth 100000 in
theorem w_X8_leastLoss_56 {Γ : GG} {l : Launch} {d : Nat} {Q : Option Value → St → Prop} {σ : St} (a1 : Int32) (a2 : Int32) (a3 : Int64) (a5 : Int32) (h : ((999 : Int32) ≤ a5 → Q (some (.int (999))) σ) ∧ (¬ (999 : Int32) ≤ a5 → vp_in a5 1000 ∧ ∀ x2 : Int64, x2 = a3 + ((rd σ 43 (a5.toNatClampNeg)).toInt64) → (lg_cmp (x2 * a2.toInt64) ((((rd σ 34 9).toInt64) - x2) * a1.toInt64) < (0 : Int32) → ∀ x3 : Int32, x3 = a5 + 1 → J Γ l (d + 1) mX8_leastLoss Q 56 [(0, .ref 34), (1, .int a1), (2, .int a2), (3, .long x2), (5, .int x3)] [] σ) ∧ (¬ lg_cmp (x2 * a2.toInt64) ((((rd σ 34 9).toInt64) - x2) * a1.toInt64) < (0 : Int32) → Q (some (.int a5)) σ))) : J Γ l (d + 1) mX8_leastLoss Q 56 [(0, .ref 34), (1, .int a1), (2, .int a2), (3, .long a3), (5, .int a5)] [] σ := by
  refine J_iload (i := 5) (kk := 4) dX8_leastLoss_56 rfl ?_
  refine J_sipush (v := 999) dX8_leastLoss_58 (by decide) ?_
  refine J_icmp_ge 102 dX8_leastLoss_61 (by decide) (fun hc => ?_) (fun hc => ?_)
  · replace h := h.1 hc
    refine J_sipush (v := 999) dX8_leastLoss_102 (by decide) ?_
    exact J_iret rfl dX8_leastLoss_105 h
  · replace h := h.2 hc
    refine J_lload_n (i := 3) (kk := 3) dX8_leastLoss_64 rfl rfl ?_
    refine J_aload_n (i := 0) (kk := 0) dX8_leastLoss_65 rfl rfl ?_
    refine J_getR 43 (q := 34) (ci := 8) (kf := 10) kfX8_43 uxX8 rfl (by decide) rfl (by decide) rfl dX8_leastLoss_66 ?_
    refine J_iload (i := 5) (kk := 4) dX8_leastLoss_69 rfl ?_
    have b1 := h.1
    replace h := h.2
    refine J_ald (a5.toNatClampNeg) rfl (by decide) rfl b1 dX8_leastLoss_71 ?_
    refine J_i2l dX8_leastLoss_72 ?_
    refine J_ladd dX8_leastLoss_73 ?_
    refine J_nameL (fun x2 ex2 => ?_)
    replace h := h x2 ex2
    refine J_lstore_n (i := 3) (lv' := [(3, .long x2), (0, .ref 34), (1, .int a1), (2, .int a2), (5, .int a5)]) dX8_leastLoss_74 rfl (by decide) rfl ?_
    refine J_lload_n (i := 3) (kk := 0) dX8_leastLoss_75 rfl rfl ?_
    refine J_iload_n (i := 2) (kk := 3) dX8_leastLoss_76 rfl rfl ?_
    refine J_i2l dX8_leastLoss_77 ?_
    refine J_lmul dX8_leastLoss_78 ?_
    refine J_aload_n (i := 0) (kk := 1) dX8_leastLoss_79 rfl rfl ?_
    refine J_getI (q := 34) (ci := 8) (kf := 9) kfX8_40 uxX8 rfl (by decide) rfl (by decide) rfl dX8_leastLoss_80 ?_
    refine J_i2l dX8_leastLoss_83 ?_
    refine J_lload_n (i := 3) (kk := 0) dX8_leastLoss_84 rfl rfl ?_
    refine J_lsub dX8_leastLoss_85 ?_
    refine J_iload_n (i := 1) (kk := 2) dX8_leastLoss_86 rfl rfl ?_
    refine J_i2l dX8_leastLoss_87 ?_
    refine J_lmul dX8_leastLoss_88 ?_
    refine J_lcmp dX8_leastLoss_89 ?_
    refine J_if_lt 96 dX8_leastLoss_90 (by decide) (fun hc => ?_) (fun hc => ?_)
    · replace h := h.1 hc
      obtain ⟨x3, ex3⟩ : ∃ y : Int32, y = a5 + 1 := ⟨_, rfl⟩
      replace h := h x3 ex3
      refine J_iinc (i := 5) (kk := 4) (v := x3) (lv' := [(5, .int x3), (3, .long x2), (0, .ref 34), (1, .int a1), (2, .int a2)]) dX8_leastLoss_96 rfl (by rw [ex3]; rfl) (by decide) rfl ?_
      refine J_goto (tgt := 56) dX8_leastLoss_99 (by decide) ?_
      refine J_sub [2, 3, 4, 1, 0] rfl ?_
      exact h
    · replace h := h.2 hc
      refine J_iload (i := 5) (kk := 4) dX8_leastLoss_93 rfl ?_
      exact J_iret rfl dX8_leastLoss_95 h
set_option maxHeartbeats 4000000 in
set_option maxRecDepth 100000 in
theorem w_X8_leastLoss_10 {Γ : GG} {l : Launch} {d : Nat} {Q : Option Value → St → Prop} {σ : St} (a1 : Int32) (a2 : Int32) (a3 : Int32) (h : (rd σ 34 9 ≤ a3 → J Γ l (d + 1) mX8_leastLoss Q 56 [(0, .ref 34), (1, .int a1), (2, .int a2), (3, .long 0), (5, .int (0))] [] σ) ∧ (¬ rd σ 34 9 ≤ a3 → vp_in a3 600 ∧ ((999 : Int32) < rd σ 42 (a3.toNatClampNeg) → ∀ x2 : Int32, x2 = a3 + 1 → J Γ l (d + 1) mX8_leastLoss Q 10 [(0, .ref 34), (1, .int a1), (2, .int a2), (3, .int x2)] [] σ) ∧ (¬ (999 : Int32) < rd σ 42 (a3.toNatClampNeg) → vp_in (rd σ 42 (a3.toNatClampNeg)) 1000 ∧ ∀ x4 : Int32, x4 = a3 + 1 → J Γ l (d + 1) mX8_leastLoss Q 10 [(0, .ref 34), (1, .int a1), (2, .int a2), (3, .int x4)] [] (wr σ 43 ((rd σ 42 (a3.toNatClampNeg)).toNatClampNeg) ((rd σ 43 ((rd σ 42 (a3.toNatClampNeg)).toNatClampNeg)) + (1 : Int32)))))) : J Γ l (d + 1) mX8_leastLoss Q 10 [(0, .ref 34), (1, .int a1), (2, .int a2), (3, .int a3)] [] σ := by
  refine J_iload_n (i := 3) (kk := 3) dX8_leastLoss_10 rfl rfl ?_
  refine J_aload_n (i := 0) (kk := 0) dX8_leastLoss_11 rfl rfl ?_
  refine J_getI (q := 34) (ci := 8) (kf := 9) kfX8_40 uxX8 rfl (by decide) rfl (by decide) rfl dX8_leastLoss_12 ?_
  refine J_icmp_ge 51 dX8_leastLoss_15 (by decide) (fun hc => ?_) (fun hc => ?_)
  · replace h := h.1 hc
    refine J_lconst (v := 0) dX8_leastLoss_51 (by decide) ?_
    refine J_lstore_n (i := 3) (lv' := [(3, .long 0), (0, .ref 34), (1, .int a1), (2, .int a2)]) dX8_leastLoss_52 rfl (by decide) rfl ?_
    refine J_iconst (v := 0) dX8_leastLoss_53 (by decide) ?_
    refine J_istore (i := 5) (lv' := [(5, .int (0)), (3, .long 0), (0, .ref 34), (1, .int a1), (2, .int a2)]) dX8_leastLoss_54 (by decide) rfl ?_
    refine J_sub [2, 3, 4, 1, 0] rfl ?_
    exact h
  · replace h := h.2 hc
    refine J_aload_n (i := 0) (kk := 0) dX8_leastLoss_18 rfl rfl ?_
    refine J_getR 42 (q := 34) (ci := 8) (kf := 8) kfX8_37 uxX8 rfl (by decide) rfl (by decide) rfl dX8_leastLoss_19 ?_
    refine J_iload_n (i := 3) (kk := 3) dX8_leastLoss_22 rfl rfl ?_
    have b1 := h.1
    replace h := h.2
    refine J_ald (a3.toNatClampNeg) rfl (by decide) rfl b1 dX8_leastLoss_23 ?_
    refine J_sipush (v := 999) dX8_leastLoss_24 (by decide) ?_
    refine J_icmp_gt 45 dX8_leastLoss_27 (by decide) (fun hc => ?_) (fun hc => ?_)
    · replace h := h.1 hc
      obtain ⟨x2, ex2⟩ : ∃ y : Int32, y = a3 + 1 := ⟨_, rfl⟩
      replace h := h x2 ex2
      refine J_iinc (i := 3) (kk := 3) (v := x2) (lv' := [(3, .int x2), (0, .ref 34), (1, .int a1), (2, .int a2)]) dX8_leastLoss_45 rfl (by rw [ex2]; rfl) (by decide) rfl ?_
      refine J_goto (tgt := 10) dX8_leastLoss_48 (by decide) ?_
      refine J_sub [1, 2, 3, 0] rfl ?_
      exact h
    · replace h := h.2 hc
      refine J_aload_n (i := 0) (kk := 0) dX8_leastLoss_30 rfl rfl ?_
      refine J_getR 43 (q := 34) (ci := 8) (kf := 10) kfX8_43 uxX8 rfl (by decide) rfl (by decide) rfl dX8_leastLoss_31 ?_
      refine J_aload_n (i := 0) (kk := 0) dX8_leastLoss_34 rfl rfl ?_
      refine J_getR 42 (q := 34) (ci := 8) (kf := 8) kfX8_37 uxX8 rfl (by decide) rfl (by decide) rfl dX8_leastLoss_35 ?_
      refine J_iload_n (i := 3) (kk := 3) dX8_leastLoss_38 rfl rfl ?_
      refine J_ald (a3.toNatClampNeg) rfl (by decide) rfl b1 dX8_leastLoss_39 ?_
      refine J_dup2_11 dX8_leastLoss_40 rfl rfl ?_
      have b3 := h.1
      replace h := h.2
      refine J_ald ((rd σ 42 (a3.toNatClampNeg)).toNatClampNeg) rfl (by decide) rfl b3 dX8_leastLoss_41 ?_
      refine J_iconst (v := 1) dX8_leastLoss_42 (by decide) ?_
      refine J_iadd dX8_leastLoss_43 ?_
      refine J_ast ((rd σ 42 (a3.toNatClampNeg)).toNatClampNeg) rfl (by decide) rfl b3 dX8_leastLoss_44 ?_
      obtain ⟨x4, ex4⟩ : ∃ y : Int32, y = a3 + 1 := ⟨_, rfl⟩
      replace h := h x4 ex4
      refine J_iinc (i := 3) (kk := 3) (v := x4) (lv' := [(3, .int x4), (0, .ref 34), (1, .int a1), (2, .int a2)]) dX8_leastLoss_45 rfl (by rw [ex4]; rfl) (by decide) rfl ?_
      refine J_goto (tgt := 10) dX8_leastLoss_48 (by decide) ?_
      refine J_sub [1, 2, 3, 0] rfl ?_
      exact h
set_option maxHeartbeats 4000000 in
set_option maxRecDepth 100000 in
theorem w_X8_leastLoss_0 {Γ : GG} {l : Launch} {d : Nat} {Q : Option Value → St → Prop} {σ : St} (a1 : Int32) (a2 : Int32) (h : Meth Γ l d mJ7_fill_53178 [.ref 43, .int (0)] σ (KV (fun σ1 => J Γ l (d + 1) mX8_leastLoss Q 10 [(0, .ref 34), (1, .int a1), (2, .int a2), (3, .int (0))] [] σ1))) : J Γ l (d + 1) mX8_leastLoss Q 0 [(0, .ref 34), (1, .int a1), (2, .int a2)] [] σ := by
  refine J_aload_n (i := 0) (kk := 0) dX8_leastLoss_0 rfl rfl ?_
  refine J_getR 43 (q := 34) (ci := 8) (kf := 10) kfX8_43 uxX8 rfl (by decide) rfl (by decide) rfl dX8_leastLoss_1 ?_
  refine J_iconst (v := 0) dX8_leastLoss_4 (by decide) ?_
  refine J_callS [.ref 43, .int (0)] [] calJ7_fill_53178 klX8_54 rfl rfl (Nat.le_of_ble_eq_true rfl) dX8_leastLoss_5 (KV.to h ?_)
  clear h
  intro σ1 h
  refine J_iconst (v := 0) dX8_leastLoss_8 (by decide) ?_
  refine J_istore_n (i := 3) (lv' := [(3, .int (0)), (0, .ref 34), (1, .int a1), (2, .int a2)]) dX8_leastLoss_9 rfl (by decide) rfl ?_
  refine J_sub [1, 2, 3, 0] rfl ?_
  exact h
theorem M_X8_leastLoss {Γ : GG} {l : Launch} {d : Nat} {Q : Option Value → St → Prop} {σ : St} (a1 : Int32) (a2 : Int32) (k : J Γ l (d + 1) mX8_leastLoss Q 0 [(0, .ref 34), (1, .int a1), (2, .int a2)] [] σ) : Meth Γ l (d + 1) mX8_leastLoss [.ref 34, .int a1, .int a2] σ Q := Meth_of_J (by decide +kernel) (fun _ => Nat.le_of_ble_eq_true rfl) (fun _ => rfl) k
set_option maxHeartbeats 4000000 in
set_option maxRecDepth 100000 in
theorem w_X9_clearDay_2 {Γ : GG} {l : Launch} {d : Nat} {Q : Option Value → St → Prop} {σ : St} (a1 : Int32) (h : ((12 : Int32) ≤ a1 → Q none σ) ∧ (¬ (12 : Int32) ≤ a1 → vp_in a1 12 ∧ Meth Γ l d mJ7_fill_53178 [.ref ((a1.toNatClampNeg) + 118), .int (0)] σ (KV (fun σ2 => Meth Γ l d mJ7_fill_53178 [.ref ((a1.toNatClampNeg) + 130), .int (0)] σ2 (KV (fun σ3 => ∀ x4 : Int32, x4 = a1 + 1 → J Γ l (d + 1) mX9_clearDay Q 2 [(0, .ref 4), (1, .int x4)] [] σ3)))))) : J Γ l (d + 1) mX9_clearDay Q 2 [(0, .ref 4), (1, .int a1)] [] σ := by
  refine J_iload_n (i := 1) (kk := 1) dX9_clearDay_2 rfl rfl ?_
  refine J_bipush (v := 12) dX9_clearDay_3 (by decide) ?_
  refine J_icmp_ge 34 dX9_clearDay_5 (by decide) (fun hc => ?_) (fun hc => ?_)
  · replace h := h.1 hc
    exact J_vret rfl dX9_clearDay_34 h
  · replace h := h.2 hc
    refine J_aload_n (i := 0) (kk := 0) dX9_clearDay_8 rfl rfl ?_
    refine J_getR 9 (q := 4) (ci := 9) (kf := 3) kfX9_29 uxX9 rfl (by decide) rfl (by decide) rfl dX9_clearDay_9 ?_
    refine J_iload_n (i := 1) (kk := 1) dX9_clearDay_12 rfl rfl ?_
    have b1 := h.1
    replace h := h.2
    refine J_aald2 (a1.toNatClampNeg) rfl (by decide) rfl b1 dX9_clearDay_13 ?_
    refine J_iconst (v := 0) dX9_clearDay_14 (by decide) ?_
    refine J_callS [.ref ((a1.toNatClampNeg) + 118), .int (0)] [] calJ7_fill_53178 klX9_35 rfl rfl (Nat.le_of_ble_eq_true rfl) dX9_clearDay_15 (KV.to h ?_)
    clear h
    intro σ2 h
    refine J_aload_n (i := 0) (kk := 0) dX9_clearDay_18 rfl rfl ?_
    refine J_getR 10 (q := 4) (ci := 9) (kf := 4) kfX9_32 uxX9 rfl (by decide) rfl (by decide) rfl dX9_clearDay_19 ?_
    refine J_iload_n (i := 1) (kk := 1) dX9_clearDay_22 rfl rfl ?_
    refine J_aald2 (a1.toNatClampNeg) rfl (by decide) rfl b1 dX9_clearDay_23 ?_
    refine J_iconst (v := 0) dX9_clearDay_24 (by decide) ?_
    refine J_callS [.ref ((a1.toNatClampNeg) + 130), .int (0)] [] calJ7_fill_53178 klX9_35 rfl rfl (Nat.le_of_ble_eq_true rfl) dX9_clearDay_25 (KV.to h ?_)
    clear h
    intro σ3 h
    obtain ⟨x4, ex4⟩ : ∃ y : Int32, y = a1 + 1 := ⟨_, rfl⟩
    replace h := h x4 ex4
    refine J_iinc (i := 1) (kk := 1) (v := x4) (lv' := [(1, .int x4), (0, .ref 4)]) dX9_clearDay_28 rfl (by rw [ex4]; rfl) (by decide) rfl ?_
    refine J_goto (tgt := 2) dX9_clearDay_31 (by decide) ?_
    refine J_sub [1, 0] rfl ?_
    exact h
set_option maxHeartbeats 4000000 in
set_option maxRecDepth 100000 in
theorem w_X9_clearDay_0 {Γ : GG} {l : Launch} {d : Nat} {Q : Option Value → St → Prop} {σ : St}  (h : J Γ l (d + 1) mX9_clearDay Q 2 [(0, .ref 4), (1, .int (0))] [] σ) : J Γ l (d + 1) mX9_clearDay Q 0 [(0, .ref 4)] [] σ := by
  refine J_iconst (v := 0) dX9_clearDay_0 (by decide) ?_
  refine J_istore_n (i := 1) (lv' := [(1, .int (0)), (0, .ref 4)]) dX9_clearDay_1 rfl (by decide) rfl ?_
  refine J_sub [1, 0] rfl ?_
  exact h
theorem M_X9_clearDay {Γ : GG} {l : Launch} {d : Nat} {Q : Option Value → St → Prop} {σ : St}  (k : J Γ l (d + 1) mX9_clearDay Q 0 [(0, .ref 4)] [] σ) : Meth Γ l (d + 1) mX9_clearDay [.ref 4] σ Q := Meth_of_J (by decide +kernel) (fun _ => Nat.le_of_ble_eq_true rfl) (fun _ => rfl) k
set_option maxHeartbeats 4000000 in
set_option maxRecDepth 100000 in
theorem w_X9_howManyDrawn_4 {Γ : GG} {l : Launch} {d : Nat} {Q : Option Value → St → Prop} {σ : St} (a1 : Int32) (a2 : Int32) (a3 : Int32) (h : (rd σ 5 1 ≤ a3 → Q (some (.int a2)) σ) ∧ (¬ rd σ 5 1 ≤ a3 → vp_in a3 12 ∧ (rd σ 8 (a3.toNatClampNeg) = a1 → ∀ x3 : Int32, x3 = a2 + 1 → ∀ x4 : Int32, x4 = a3 + 1 → J Γ l d mX9_howManyDrawn Q 4 [(0, .ref 4), (1, .int a1), (2, .int x3), (3, .int x4)] [] σ) ∧ (¬ rd σ 8 (a3.toNatClampNeg) = a1 → ∀ x2 : Int32, x2 = a3 + 1 → J Γ l d mX9_howManyDrawn Q 4 [(0, .ref 4), (1, .int a1), (2, .int a2), (3, .int x2)] [] σ))) : J Γ l d mX9_howManyDrawn Q 4 [(0, .ref 4), (1, .int a1), (2, .int a2), (3, .int a3)] [] σ := by
  refine J_iload_n (i := 3) (kk := 3) dX9_howManyDrawn_4 rfl rfl ?_
  refine J_aload_n (i := 0) (kk := 0) dX9_howManyDrawn_5 rfl rfl ?_
  refine J_getR 5 (q := 4) (ci := 9) (kf := 0) kfX9_14 uxX9 rfl (by decide) rfl (by decide) rfl dX9_howManyDrawn_6 ?_
  refine J_getI (q := 5) (ci := 7) (kf := 1) kfX9_41 uxX7 rfl (by decide) rfl (by decide) rfl dX9_howManyDrawn_9 ?_
  refine J_icmp_ge 34 dX9_howManyDrawn_12 (by decide) (fun hc => ?_) (fun hc => ?_)
  · replace h := h.1 hc
    refine J_iload_n (i := 2) (kk := 2) dX9_howManyDrawn_34 rfl rfl ?_
    exact J_iret rfl dX9_howManyDrawn_35 h
  · replace h := h.2 hc
    refine J_aload_n (i := 0) (kk := 0) dX9_howManyDrawn_15 rfl rfl ?_
    refine J_getR 8 (q := 4) (ci := 9) (kf := 2) kfX9_24 uxX9 rfl (by decide) rfl (by decide) rfl dX9_howManyDrawn_16 ?_
    refine J_iload_n (i := 3) (kk := 3) dX9_howManyDrawn_19 rfl rfl ?_
    have b1 := h.1
    replace h := h.2
    refine J_ald (a3.toNatClampNeg) rfl (by decide) rfl b1 dX9_howManyDrawn_20 ?_
    refine J_iload_n (i := 1) (kk := 1) dX9_howManyDrawn_21 rfl rfl ?_
    refine J_icmp_ne 28 dX9_howManyDrawn_22 (by decide) (fun hc => ?_) (fun hc => ?_)
    · replace h := h.2 hc
      obtain ⟨x2, ex2⟩ : ∃ y : Int32, y = a3 + 1 := ⟨_, rfl⟩
      replace h := h x2 ex2
      refine J_iinc (i := 3) (kk := 3) (v := x2) (lv' := [(3, .int x2), (0, .ref 4), (1, .int a1), (2, .int a2)]) dX9_howManyDrawn_28 rfl (by rw [ex2]; rfl) (by decide) rfl ?_
      refine J_goto (tgt := 4) dX9_howManyDrawn_31 (by decide) ?_
      refine J_sub [1, 2, 3, 0] rfl ?_
      exact h
    · replace h := h.1 hc
      obtain ⟨x3, ex3⟩ : ∃ y : Int32, y = a2 + 1 := ⟨_, rfl⟩
      replace h := h x3 ex3
      refine J_iinc (i := 2) (kk := 2) (v := x3) (lv' := [(2, .int x3), (0, .ref 4), (1, .int a1), (3, .int a3)]) dX9_howManyDrawn_25 rfl (by rw [ex3]; rfl) (by decide) rfl ?_
      obtain ⟨x4, ex4⟩ : ∃ y : Int32, y = a3 + 1 := ⟨_, rfl⟩
      replace h := h x4 ex4
      refine J_iinc (i := 3) (kk := 3) (v := x4) (lv' := [(3, .int x4), (2, .int x3), (0, .ref 4), (1, .int a1)]) dX9_howManyDrawn_28 rfl (by rw [ex4]; rfl) (by decide) rfl ?_
      refine J_goto (tgt := 4) dX9_howManyDrawn_31 (by decide) ?_
      refine J_sub [2, 3, 1, 0] rfl ?_
      exact h
set_option maxHeartbeats 4000000 in
set_option maxRecDepth 100000 in
theorem w_X9_howManyDrawn_0 {Γ : GG} {l : Launch} {d : Nat} {Q : Option Value → St → Prop} {σ : St} (a1 : Int32) (h : J Γ l d mX9_howManyDrawn Q 4 [(0, .ref 4), (1, .int a1), (2, .int (0)), (3, .int (0))] [] σ) : J Γ l d mX9_howManyDrawn Q 0 [(0, .ref 4), (1, .int a1)] [] σ := by
  refine J_iconst (v := 0) dX9_howManyDrawn_0 (by decide) ?_
  refine J_istore_n (i := 2) (lv' := [(2, .int (0)), (0, .ref 4), (1, .int a1)]) dX9_howManyDrawn_1 rfl (by decide) rfl ?_
  refine J_iconst (v := 0) dX9_howManyDrawn_2 (by decide) ?_
  refine J_istore_n (i := 3) (lv' := [(3, .int (0)), (2, .int (0)), (0, .ref 4), (1, .int a1)]) dX9_howManyDrawn_3 rfl (by decide) rfl ?_
  refine J_sub [2, 3, 1, 0] rfl ?_
  exact h
theorem M_X9_howManyDrawn {Γ : GG} {l : Launch} {d : Nat} {Q : Option Value → St → Prop} {σ : St} (a1 : Int32) (k : J Γ l d mX9_howManyDrawn Q 0 [(0, .ref 4), (1, .int a1)] [] σ) : Meth Γ l d mX9_howManyDrawn [.ref 4, .int a1] σ Q := Meth_of_J (by decide +kernel) (fun _ => Nat.le_of_ble_eq_true rfl) (fun _ => rfl) k
set_option maxHeartbeats 4000000 in
set_option maxRecDepth 100000 in
theorem w_X10_take_3 {Γ : GG} {l : Launch} {d : Nat} {Q : Option Value → St → Prop} {σ : St} (a1 : Int32) (a2 : Int32) (h : (a2 < (0 : Int32) → Q none σ) ∧ (¬ a2 < (0 : Int32) → ((160 : Int32) ≤ rd σ 23 1 → Q none σ) ∧ (¬ (160 : Int32) ≤ rd σ 23 1 → vp_in (rd σ 23 1) 160 ∧ ∀ x2 : Int32, x2 = a2 + (-8) → J Γ l d mX10_take Q 3 [(0, .ref 23), (1, .int a1), (2, .int x2)] [] (wr (wr σ 24 ((rd σ 23 1).toNatClampNeg) (((a1.toUInt32 >>> (a2.toUInt32 &&& Int32.toUInt32 31)).toInt32) &&& (255 : Int32))) 23 1 ((rd σ 23 1) + (1 : Int32)))))) : J Γ l d mX10_take Q 3 [(0, .ref 23), (1, .int a1), (2, .int a2)] [] σ := by
  refine J_iload_n (i := 2) (kk := 2) dX10_take_3 rfl rfl ?_
  refine J_if_lt 49 dX10_take_4 (by decide) (fun hc => ?_) (fun hc => ?_)
  · replace h := h.1 hc
    exact J_vret rfl dX10_take_49 h
  · replace h := h.2 hc
    refine J_aload_n (i := 0) (kk := 0) dX10_take_7 rfl rfl ?_
    refine J_getI (q := 23) (ci := 10) (kf := 1) kfX10_15 uxX10 rfl (by decide) rfl (by decide) rfl dX10_take_8 ?_
    refine J_sipush (v := 160) dX10_take_11 (by decide) ?_
    refine J_icmp_ge 49 dX10_take_14 (by decide) (fun hc => ?_) (fun hc => ?_)
    · replace h := h.1 hc
      exact J_vret rfl dX10_take_49 h
    · replace h := h.2 hc
      refine J_aload_n (i := 0) (kk := 0) dX10_take_17 rfl rfl ?_
      refine J_getR 24 (q := 23) (ci := 10) (kf := 0) kfX10_9 uxX10 rfl (by decide) rfl (by decide) rfl dX10_take_18 ?_
      refine J_aload_n (i := 0) (kk := 0) dX10_take_21 rfl rfl ?_
      refine J_getI (q := 23) (ci := 10) (kf := 1) kfX10_15 uxX10 rfl (by decide) rfl (by decide) rfl dX10_take_22 ?_
      refine J_iload_n (i := 1) (kk := 1) dX10_take_25 rfl rfl ?_
      refine J_iload_n (i := 2) (kk := 2) dX10_take_26 rfl rfl ?_
      refine J_iushr dX10_take_27 ?_
      refine J_sipush (v := 255) dX10_take_28 (by decide) ?_
      refine J_iand dX10_take_31 ?_
      have b1 := h.1
      replace h := h.2
      refine J_ast ((rd σ 23 1).toNatClampNeg) rfl (by decide) rfl b1 dX10_take_32 ?_
      refine J_aload_n (i := 0) (kk := 0) dX10_take_33 rfl rfl ?_
      refine J_dup dX10_take_34 rfl ?_
      refine J_getI (q := 23) (ci := 10) (kf := 1) kfX10_15 uxX10 rfl (by decide) rfl (by decide) rfl dX10_take_35 ?_
      refine J_eqI (y := rd σ 23 1) rfl ?_
      refine J_iconst (v := 1) dX10_take_38 (by decide) ?_
      refine J_iadd dX10_take_39 ?_
      refine J_putf (q := 23) (ci := 10) (kf := 1) (ty := .int) kfX10_15 uxX10 tyX10_ok nmX10 rfl (by decide) rfl (by decide) rfl rfl rfl rfl rfl dX10_take_40 ?_
      obtain ⟨x2, ex2⟩ : ∃ y : Int32, y = a2 + (-8) := ⟨_, rfl⟩
      replace h := h x2 ex2
      refine J_iinc (i := 2) (kk := 2) (v := x2) (lv' := [(2, .int x2), (0, .ref 23), (1, .int a1)]) dX10_take_43 rfl (by rw [ex2]; rfl) (by decide) rfl ?_
      refine J_goto (tgt := 3) dX10_take_46 (by decide) ?_
      refine J_sub [1, 2, 0] rfl ?_
      exact h
set_option maxHeartbeats 4000000 in
set_option maxRecDepth 100000 in
theorem w_X10_take_0 {Γ : GG} {l : Launch} {d : Nat} {Q : Option Value → St → Prop} {σ : St} (a1 : Int32) (h : J Γ l d mX10_take Q 3 [(0, .ref 23), (1, .int a1), (2, .int (24))] [] σ) : J Γ l d mX10_take Q 0 [(0, .ref 23), (1, .int a1)] [] σ := by
  refine J_bipush (v := 24) dX10_take_0 (by decide) ?_
  refine J_istore_n (i := 2) (lv' := [(2, .int (24)), (0, .ref 23), (1, .int a1)]) dX10_take_2 rfl (by decide) rfl ?_
  refine J_sub [1, 2, 0] rfl ?_
  exact h
theorem M_X10_take {Γ : GG} {l : Launch} {d : Nat} {Q : Option Value → St → Prop} {σ : St} (a1 : Int32) (k : J Γ l d mX10_take Q 0 [(0, .ref 23), (1, .int a1)] [] σ) : Meth Γ l d mX10_take [.ref 23, .int a1] σ Q := Meth_of_J (by decide +kernel) (fun _ => Nat.le_of_ble_eq_true rfl) (fun _ => rfl) k
set_option maxHeartbeats 4000000 in
set_option maxRecDepth 100000 in
theorem w_X10_read_17 {Γ : GG} {l : Launch} {d : Nat} {Q : Option Value → St → Prop} {σ : St} (a2 : Int32) (h : (rd σ 23 1 < a2 → Q (some (.int (rd σ 23 2))) σ) ∧ (¬ rd σ 23 1 < a2 → Meth Γ l (d + 2) mX10_readClause [.ref 23] σ (KI (fun x2 σ1 => (x2 = (0 : Int32) → Q (some (.int (rd σ1 23 2))) σ1) ∧ (¬ x2 = (0 : Int32) → (rd σ1 23 2 < rd σ1 23 1 → Meth Γ l (d + 2) mX10_goesOn [.ref 23, .int (59)] σ1 (KI (fun x4 σ3 => (x4 = (0 : Int32) → Q (some (.int (rd σ3 23 2))) σ3) ∧ (¬ x4 = (0 : Int32) → ∀ x5 : Int32, x5 = a2 + 1 → J Γ l (d + 3) mX10_read Q 17 [(0, .ref 23), (2, .int x5)] [] σ3)))) ∧ (¬ rd σ1 23 2 < rd σ1 23 1 → Q (some (.int ((-1)))) σ1)))))) : J Γ l (d + 3) mX10_read Q 17 [(0, .ref 23), (2, .int a2)] [] σ := by
  refine J_iload_n (i := 2) (kk := 1) dX10_read_17 rfl rfl ?_
  refine J_aload_n (i := 0) (kk := 0) dX10_read_18 rfl rfl ?_
  refine J_getI (q := 23) (ci := 10) (kf := 1) kfX10_15 uxX10 rfl (by decide) rfl (by decide) rfl dX10_read_19 ?_
  refine J_icmp_gt 65 dX10_read_22 (by decide) (fun hc => ?_) (fun hc => ?_)
  · replace h := h.1 hc
    refine J_aload_n (i := 0) (kk := 0) dX10_read_65 rfl rfl ?_
    refine J_getI (q := 23) (ci := 10) (kf := 2) kfX10_19 uxX10 rfl (by decide) rfl (by decide) rfl dX10_read_66 ?_
    exact J_iret rfl dX10_read_69 h
  · replace h := h.2 hc
    refine J_aload_n (i := 0) (kk := 0) dX10_read_25 rfl rfl ?_
    refine J_callV [] [] calX10_readClause klX10_28 (b := 23) (ci := 10) (by decide) rfl rfl rfl rfl (Nat.le_of_ble_eq_true rfl) dX10_read_26 (KI.to h ?_)
    clear h
    intro x2 σ1 h
    refine J_if_eq 65 dX10_read_29 (by decide) (fun hc => ?_) (fun hc => ?_)
    · replace h := h.1 hc
      refine J_aload_n (i := 0) (kk := 0) dX10_read_65 rfl rfl ?_
      refine J_getI (q := 23) (ci := 10) (kf := 2) kfX10_19 uxX10 rfl (by decide) rfl (by decide) rfl dX10_read_66 ?_
      exact J_iret rfl dX10_read_69 h
    · replace h := h.2 hc
      refine J_aload_n (i := 0) (kk := 0) dX10_read_32 rfl rfl ?_
      refine J_getI (q := 23) (ci := 10) (kf := 2) kfX10_19 uxX10 rfl (by decide) rfl (by decide) rfl dX10_read_33 ?_
      refine J_aload_n (i := 0) (kk := 0) dX10_read_36 rfl rfl ?_
      refine J_getI (q := 23) (ci := 10) (kf := 1) kfX10_15 uxX10 rfl (by decide) rfl (by decide) rfl dX10_read_37 ?_
      refine J_icmp_lt 45 dX10_read_40 (by decide) (fun hc => ?_) (fun hc => ?_)
      · replace h := h.1 hc
        refine J_aload_n (i := 0) (kk := 0) dX10_read_45 rfl rfl ?_
        refine J_bipush (v := 59) dX10_read_46 (by decide) ?_
        refine J_callV [.int (59)] [] calX10_goesOn klX10_32 (b := 23) (ci := 10) (by decide) rfl rfl rfl rfl (Nat.le_of_ble_eq_true rfl) dX10_read_48 (KI.to h ?_)
        clear h
        intro x4 σ3 h
        refine J_if_ne 59 dX10_read_51 (by decide) (fun hc => ?_) (fun hc => ?_)
        · replace h := h.2 hc
          obtain ⟨x5, ex5⟩ : ∃ y : Int32, y = a2 + 1 := ⟨_, rfl⟩
          replace h := h x5 ex5
          refine J_iinc (i := 2) (kk := 1) (v := x5) (lv' := [(2, .int x5), (0, .ref 23)]) dX10_read_59 rfl (by rw [ex5]; rfl) (by decide) rfl ?_
          refine J_goto (tgt := 17) dX10_read_62 (by decide) ?_
          refine J_sub [1, 0] rfl ?_
          exact h
        · replace h := h.1 hc
          refine J_aload_n (i := 0) (kk := 0) dX10_read_54 rfl rfl ?_
          refine J_getI (q := 23) (ci := 10) (kf := 2) kfX10_19 uxX10 rfl (by decide) rfl (by decide) rfl dX10_read_55 ?_
          exact J_iret rfl dX10_read_58 h
      · replace h := h.2 hc
        refine J_iconst (v := (-1)) dX10_read_43 (by decide) ?_
        exact J_iret rfl dX10_read_44 h
set_option maxHeartbeats 4000000 in
set_option maxRecDepth 100000 in
theorem w_X10_read_0 {Γ : GG} {l : Launch} {d : Nat} {Q : Option Value → St → Prop} {σ : St} (i1 : Nat) (hi1 : i1 < 16) (h : J Γ l (d + 3) mX10_read Q 17 [(0, .ref 23), (2, .int (0))] [] (wr (wr (wr σ 23 3 (nI (i1 + 342))) 23 4 (0 : Int32)) 23 2 (0 : Int32))) : J Γ l (d + 3) mX10_read Q 0 [(0, .ref 23), (1, .ref (i1 + 342))] [] σ := by
  refine J_aload_n (i := 0) (kk := 0) dX10_read_0 rfl rfl ?_
  refine J_aload_n (i := 1) (kk := 1) dX10_read_1 rfl rfl ?_
  refine J_putr (q := 23) (ci := 10) (kf := 3) (x := nI (i1 + 342)) (nI_clamp (by have := hi1; omega)) kfX10_22 uxX10 tyX10_ok nmX10 rfl (by decide) rfl (by decide) rfl rfl rfl (fun _ => rfl) (fun _ => rfl) dX10_read_2 ?_
  refine J_aload_n (i := 0) (kk := 0) dX10_read_5 rfl rfl ?_
  refine J_iconst (v := 0) dX10_read_6 (by decide) ?_
  refine J_putf (q := 23) (ci := 10) (kf := 4) (ty := .int) kfX10_25 uxX10 tyX10_ok nmX10 rfl (by decide) rfl (by decide) rfl rfl rfl rfl rfl dX10_read_7 ?_
  refine J_aload_n (i := 0) (kk := 0) dX10_read_10 rfl rfl ?_
  refine J_iconst (v := 0) dX10_read_11 (by decide) ?_
  refine J_putf (q := 23) (ci := 10) (kf := 2) (ty := .int) kfX10_19 uxX10 tyX10_ok nmX10 rfl (by decide) rfl (by decide) rfl rfl rfl rfl rfl dX10_read_12 ?_
  refine J_iconst (v := 0) dX10_read_15 (by decide) ?_
  refine J_istore_n (i := 2) (lv' := [(2, .int (0)), (0, .ref 23), (1, .ref (i1 + 342))]) dX10_read_16 rfl (by decide) rfl ?_
  refine J_sub [1, 0] rfl ?_
  exact h
theorem M_X10_read {Γ : GG} {l : Launch} {d : Nat} {Q : Option Value → St → Prop} {σ : St} (i1 : Nat) (hi1 : i1 < 16) (k : J Γ l (d + 3) mX10_read Q 0 [(0, .ref 23), (1, .ref (i1 + 342))] [] σ) : Meth Γ l (d + 3) mX10_read [.ref 23, .ref (i1 + 342)] σ Q := Meth_of_J (by decide +kernel) (fun _ => Nat.le_of_ble_eq_true rfl) (fun _ => rfl) k
set_option maxHeartbeats 4000000 in
set_option maxRecDepth 100000 in
theorem w_X10_next_0 {Γ : GG} {l : Launch} {d : Nat} {Q : Option Value → St → Prop} {σ : St}  (h : (rd σ 23 1 ≤ rd σ 23 2 → Q (some (.int ((-1)))) σ) ∧ (¬ rd σ 23 1 ≤ rd σ 23 2 → vp_in (rd σ 23 2) 160 ∧ Q (some (.int (rd σ 24 ((rd σ 23 2).toNatClampNeg)))) σ)) : J Γ l d mX10_next Q 0 [(0, .ref 23)] [] σ := by
  refine J_aload_n (i := 0) (kk := 0) dX10_next_0 rfl rfl ?_
  refine J_getI (q := 23) (ci := 10) (kf := 2) kfX10_19 uxX10 rfl (by decide) rfl (by decide) rfl dX10_next_1 ?_
  refine J_aload_n (i := 0) (kk := 0) dX10_next_4 rfl rfl ?_
  refine J_getI (q := 23) (ci := 10) (kf := 1) kfX10_15 uxX10 rfl (by decide) rfl (by decide) rfl dX10_next_5 ?_
  refine J_icmp_ge 23 dX10_next_8 (by decide) (fun hc => ?_) (fun hc => ?_)
  · replace h := h.1 hc
    refine J_iconst (v := (-1)) dX10_next_23 (by decide) ?_
    exact J_iret rfl dX10_next_24 h
  · replace h := h.2 hc
    refine J_aload_n (i := 0) (kk := 0) dX10_next_11 rfl rfl ?_
    refine J_getR 24 (q := 23) (ci := 10) (kf := 0) kfX10_9 uxX10 rfl (by decide) rfl (by decide) rfl dX10_next_12 ?_
    refine J_aload_n (i := 0) (kk := 0) dX10_next_15 rfl rfl ?_
    refine J_getI (q := 23) (ci := 10) (kf := 2) kfX10_19 uxX10 rfl (by decide) rfl (by decide) rfl dX10_next_16 ?_
    have b1 := h.1
    replace h := h.2
    refine J_ald ((rd σ 23 2).toNatClampNeg) rfl (by decide) rfl b1 dX10_next_19 ?_
    refine J_goto (tgt := 24) dX10_next_20 (by decide) ?_
    exact J_iret rfl dX10_next_24 h
theorem M_X10_next {Γ : GG} {l : Launch} {d : Nat} {Q : Option Value → St → Prop} {σ : St}  (k : J Γ l d mX10_next Q 0 [(0, .ref 23)] [] σ) : Meth Γ l d mX10_next [.ref 23] σ Q := Meth_of_J (by decide +kernel) (fun _ => Nat.le_of_ble_eq_true rfl) (fun _ => rfl) k
set_option maxHeartbeats 4000000 in
set_option maxRecDepth 100000 in
theorem w_X10_goesOn_0 {Γ : GG} {l : Launch} {d : Nat} {Q : Option Value → St → Prop} {σ : St} (a1 : Int32) (h : Meth Γ l d mX10_next [.ref 23] σ (KI (fun x2 σ1 => (x2 = a1 → Q (some (.int (1))) (wr σ1 23 2 ((rd σ1 23 2) + (1 : Int32)))) ∧ (¬ x2 = a1 → Q (some (.int (0))) σ1)))) : J Γ l (d + 1) mX10_goesOn Q 0 [(0, .ref 23), (1, .int a1)] [] σ := by
  refine J_aload_n (i := 0) (kk := 0) dX10_goesOn_0 rfl rfl ?_
  refine J_callV [] [] calX10_next klX10_36 (b := 23) (ci := 10) (by decide) rfl rfl rfl rfl (Nat.le_of_ble_eq_true rfl) dX10_goesOn_1 (KI.to h ?_)
  clear h
  intro x2 σ1 h
  refine J_iload_n (i := 1) (kk := 1) dX10_goesOn_4 rfl rfl ?_
  refine J_icmp_eq 10 dX10_goesOn_5 (by decide) (fun hc => ?_) (fun hc => ?_)
  · replace h := h.1 hc
    refine J_aload_n (i := 0) (kk := 0) dX10_goesOn_10 rfl rfl ?_
    refine J_dup dX10_goesOn_11 rfl ?_
    refine J_getI (q := 23) (ci := 10) (kf := 2) kfX10_19 uxX10 rfl (by decide) rfl (by decide) rfl dX10_goesOn_12 ?_
    refine J_iconst (v := 1) dX10_goesOn_15 (by decide) ?_
    refine J_iadd dX10_goesOn_16 ?_
    refine J_putf (q := 23) (ci := 10) (kf := 2) (ty := .int) kfX10_19 uxX10 tyX10_ok nmX10 rfl (by decide) rfl (by decide) rfl rfl rfl rfl rfl dX10_goesOn_17 ?_
    refine J_iconst (v := 1) dX10_goesOn_20 (by decide) ?_
    exact J_zret rfl (by decide) dX10_goesOn_21 h
  · replace h := h.2 hc
    refine J_iconst (v := 0) dX10_goesOn_8 (by decide) ?_
    exact J_zret rfl (by decide) dX10_goesOn_9 h
theorem M_X10_goesOn {Γ : GG} {l : Launch} {d : Nat} {Q : Option Value → St → Prop} {σ : St} (a1 : Int32) (k : J Γ l (d + 1) mX10_goesOn Q 0 [(0, .ref 23), (1, .int a1)] [] σ) : Meth Γ l (d + 1) mX10_goesOn [.ref 23, .int a1] σ Q := Meth_of_J (by decide +kernel) (fun _ => Nat.le_of_ble_eq_true rfl) (fun _ => rfl) k
set_option maxHeartbeats 4000000 in
set_option maxRecDepth 100000 in
theorem w_X10_write_0 {Γ : GG} {l : Launch} {d : Nat} {Q : Option Value → St → Prop} {σ : St} (a1 : Int32) (h : ∃ c1 : Nat, ((rd σ 23 3).toNatClampNeg = c1 + 342 ∧ c1 < 16) ∧ ((161 : Int32) ≤ rd σ 23 4 → Q none σ) ∧ (¬ (161 : Int32) ≤ rd σ 23 4 → ∃ c2 : Nat, ((rd σ 23 3).toNatClampNeg = c2 + 342 ∧ c2 < 16) ∧ vp_in (rd σ 23 4) 161 ∧ Q none (wr (wr σ (c2 + 342) ((rd σ 23 4).toNatClampNeg) a1) 23 4 ((rd (wr σ (c2 + 342) ((rd σ 23 4).toNatClampNeg) a1) 23 4) + (1 : Int32))))) : J Γ l d mX10_write Q 0 [(0, .ref 23), (1, .int a1)] [] σ := by
  refine J_aload_n (i := 0) (kk := 0) dX10_write_0 rfl rfl ?_
  refine J_getI (q := 23) (ci := 10) (kf := 4) kfX10_25 uxX10 rfl (by decide) rfl (by decide) rfl dX10_write_1 ?_
  refine J_aload_n (i := 0) (kk := 0) dX10_write_4 rfl rfl ?_
  obtain ⟨c1, hc1, h⟩ := h
  refine J_getD (c1 + 342) (q := 23) (ci := 10) (kf := 3) kfX10_22 uxX10 rfl (by decide) rfl (by decide) rfl hc1.1 dX10_write_5 ?_
  refine J_alen (v := 161) (nc_row342 hc1.2) (sk_row342 hc1.2) (by decide) (by decide) dX10_write_8 ?_
  refine J_icmp_ge 32 dX10_write_9 (by decide) (fun hc => ?_) (fun hc => ?_)
  · replace h := h.1 hc
    exact J_vret rfl dX10_write_32 h
  · replace h := h.2 hc
    refine J_aload_n (i := 0) (kk := 0) dX10_write_12 rfl rfl ?_
    obtain ⟨c2, hc2, h⟩ := h
    refine J_getD (c2 + 342) (q := 23) (ci := 10) (kf := 3) kfX10_22 uxX10 rfl (by decide) rfl (by decide) rfl hc2.1 dX10_write_13 ?_
    refine J_aload_n (i := 0) (kk := 0) dX10_write_16 rfl rfl ?_
    refine J_getI (q := 23) (ci := 10) (kf := 4) kfX10_25 uxX10 rfl (by decide) rfl (by decide) rfl dX10_write_17 ?_
    refine J_iload_n (i := 1) (kk := 1) dX10_write_20 rfl rfl ?_
    have b3 := h.1
    replace h := h.2
    refine J_ast ((rd σ 23 4).toNatClampNeg) rfl (nc_row342 hc2.2) (sk_row342 hc2.2) b3 dX10_write_21 ?_
    refine J_aload_n (i := 0) (kk := 0) dX10_write_22 rfl rfl ?_
    refine J_dup dX10_write_23 rfl ?_
    refine J_getI (q := 23) (ci := 10) (kf := 4) kfX10_25 uxX10 rfl (by decide) rfl (by decide) rfl dX10_write_24 ?_
    refine J_iconst (v := 1) dX10_write_27 (by decide) ?_
    refine J_iadd dX10_write_28 ?_
    refine J_putf (q := 23) (ci := 10) (kf := 4) (ty := .int) kfX10_25 uxX10 tyX10_ok nmX10 rfl (by decide) rfl (by decide) rfl rfl rfl rfl rfl dX10_write_29 ?_
    exact J_vret rfl dX10_write_32 h
theorem M_X10_write {Γ : GG} {l : Launch} {d : Nat} {Q : Option Value → St → Prop} {σ : St} (a1 : Int32) (k : J Γ l d mX10_write Q 0 [(0, .ref 23), (1, .int a1)] [] σ) : Meth Γ l d mX10_write [.ref 23, .int a1] σ Q := Meth_of_J (by decide +kernel) (fun _ => Nat.le_of_ble_eq_true rfl) (fun _ => rfl) k
set_option maxHeartbeats 4000000 in
set_option maxRecDepth 100000 in
theorem w_X10_readClause_0 {Γ : GG} {l : Launch} {d : Nat} {Q : Option Value → St → Prop} {σ : St}  (h : Meth Γ l (d + 1) mX10_readJoined [.ref 23, .int (0), .int (0)] σ (KI (fun x2 σ1 => (x2 = (0 : Int32) → Q (some (.int (0))) σ1) ∧ (¬ x2 = (0 : Int32) → Meth Γ l (d + 1) mX10_goesOn [.ref 23, .int (44)] σ1 (KI (fun x4 σ3 => (x4 = (0 : Int32) → Meth Γ l (d + 1) mX10_write [.ref 23, .int ((-59))] σ3 (KV (fun σ5 => Q (some (.int (1))) σ5))) ∧ (¬ x4 = (0 : Int32) → Meth Γ l (d + 1) mX10_write [.ref 23, .int ((-44))] σ3 (KV (fun σ6 => Meth Γ l (d + 1) mX10_readJoined [.ref 23, .int (0), .int (0)] σ6 (KI (fun x8 σ7 => (x8 = (0 : Int32) → Q (some (.int (0))) σ7) ∧ (¬ x8 = (0 : Int32) → Meth Γ l (d + 1) mX10_write [.ref 23, .int ((-59))] σ7 (KV (fun σ9 => Q (some (.int (1))) σ9)))))))))))))) : J Γ l (d + 2) mX10_readClause Q 0 [(0, .ref 23)] [] σ := by
  refine J_aload_n (i := 0) (kk := 0) dX10_readClause_0 rfl rfl ?_
  refine J_iconst (v := 0) dX10_readClause_1 (by decide) ?_
  refine J_iconst (v := 0) dX10_readClause_2 (by decide) ?_
  refine J_callV [.int (0), .int (0)] [] calX10_readJoined klX10_40 (b := 23) (ci := 10) (by decide) rfl rfl rfl rfl (Nat.le_of_ble_eq_true rfl) dX10_readClause_3 (KI.to h ?_)
  clear h
  intro x2 σ1 h
  refine J_if_ne 11 dX10_readClause_6 (by decide) (fun hc => ?_) (fun hc => ?_)
  · replace h := h.2 hc
    refine J_aload_n (i := 0) (kk := 0) dX10_readClause_11 rfl rfl ?_
    refine J_bipush (v := 44) dX10_readClause_12 (by decide) ?_
    refine J_callV [.int (44)] [] calX10_goesOn klX10_32 (b := 23) (ci := 10) (by decide) rfl rfl rfl rfl (Nat.le_of_ble_eq_true rfl) dX10_readClause_14 (KI.to h ?_)
    clear h
    intro x4 σ3 h
    refine J_if_eq 37 dX10_readClause_17 (by decide) (fun hc => ?_) (fun hc => ?_)
    · replace h := h.1 hc
      refine J_aload_n (i := 0) (kk := 0) dX10_readClause_37 rfl rfl ?_
      refine J_bipush (v := (-59)) dX10_readClause_38 (by decide) ?_
      refine J_callV [.int ((-59))] [] calX10_write klX10_44 (b := 23) (ci := 10) (by decide) rfl rfl rfl rfl (Nat.le_of_ble_eq_true rfl) dX10_readClause_40 (KV.to h ?_)
      clear h
      intro σ5 h
      refine J_iconst (v := 1) dX10_readClause_43 (by decide) ?_
      exact J_zret rfl (by decide) dX10_readClause_44 h
    · replace h := h.2 hc
      refine J_aload_n (i := 0) (kk := 0) dX10_readClause_20 rfl rfl ?_
      refine J_bipush (v := (-44)) dX10_readClause_21 (by decide) ?_
      refine J_callV [.int ((-44))] [] calX10_write klX10_44 (b := 23) (ci := 10) (by decide) rfl rfl rfl rfl (Nat.le_of_ble_eq_true rfl) dX10_readClause_23 (KV.to h ?_)
      clear h
      intro σ6 h
      refine J_aload_n (i := 0) (kk := 0) dX10_readClause_26 rfl rfl ?_
      refine J_iconst (v := 0) dX10_readClause_27 (by decide) ?_
      refine J_iconst (v := 0) dX10_readClause_28 (by decide) ?_
      refine J_callV [.int (0), .int (0)] [] calX10_readJoined klX10_40 (b := 23) (ci := 10) (by decide) rfl rfl rfl rfl (Nat.le_of_ble_eq_true rfl) dX10_readClause_29 (KI.to h ?_)
      clear h
      intro x8 σ7 h
      refine J_if_ne 37 dX10_readClause_32 (by decide) (fun hc => ?_) (fun hc => ?_)
      · replace h := h.2 hc
        refine J_aload_n (i := 0) (kk := 0) dX10_readClause_37 rfl rfl ?_
        refine J_bipush (v := (-59)) dX10_readClause_38 (by decide) ?_
        refine J_callV [.int ((-59))] [] calX10_write klX10_44 (b := 23) (ci := 10) (by decide) rfl rfl rfl rfl (Nat.le_of_ble_eq_true rfl) dX10_readClause_40 (KV.to h ?_)
        clear h
        intro σ9 h
        refine J_iconst (v := 1) dX10_readClause_43 (by decide) ?_
        exact J_zret rfl (by decide) dX10_readClause_44 h
      · replace h := h.1 hc
        refine J_iconst (v := 0) dX10_readClause_35 (by decide) ?_
        exact J_zret rfl (by decide) dX10_readClause_36 h
  · replace h := h.1 hc
    refine J_iconst (v := 0) dX10_readClause_9 (by decide) ?_
    exact J_zret rfl (by decide) dX10_readClause_10 h
theorem M_X10_readClause {Γ : GG} {l : Launch} {d : Nat} {Q : Option Value → St → Prop} {σ : St}  (k : J Γ l (d + 2) mX10_readClause Q 0 [(0, .ref 23)] [] σ) : Meth Γ l (d + 2) mX10_readClause [.ref 23] σ Q := Meth_of_J (by decide +kernel) (fun _ => Nat.le_of_ble_eq_true rfl) (fun _ => rfl) k
set_option maxHeartbeats 4000000 in
set_option maxRecDepth 100000 in
theorem w_X10_tightness_0 {Γ : GG} {l : Launch} {d : Nat} {Q : Option Value → St → Prop} {σ : St} (a0 : Int32) (h : (a0.toInt = 38 → Q (some (.int (1))) σ) ∧ (a0.toInt = 42 → Q (some (.int (4))) σ) ∧ (a0.toInt = 43 → Q (some (.int (3))) σ) ∧ (a0.toInt = 45 → Q (some (.int (3))) σ) ∧ (a0.toInt = 47 → Q (some (.int (4))) σ) ∧ (a0.toInt = 60 → Q (some (.int (2))) σ) ∧ (a0.toInt = 61 → Q (some (.int (2))) σ) ∧ (a0.toInt = 62 → Q (some (.int (2))) σ) ∧ (a0.toInt = 124 → Q (some (.int (0))) σ) ∧ (¬ a0.toInt = 38 → ¬ a0.toInt = 42 → ¬ a0.toInt = 43 → ¬ a0.toInt = 45 → ¬ a0.toInt = 47 → ¬ a0.toInt = 60 → ¬ a0.toInt = 61 → ¬ a0.toInt = 62 → ¬ a0.toInt = 124 → Q (some (.int (6))) σ)) : J Γ l d mX10_tightness Q 0 [(0, .int a0)] [] σ := by
  refine J_iload_n (i := 0) (kk := 0) dX10_tightness_0 rfl rfl ?_
  by_cases hc : a0.toInt = 38
  · replace h := h.1 hc
    refine J_lookup (off := 85) 86 dX10_tightness_1 (by decide) (by rw [hc] <;> rfl) (by decide) ?_
    refine J_iconst (v := 1) dX10_tightness_86 (by decide) ?_
    exact J_iret rfl dX10_tightness_87 h
  have hn38 := hc
  by_cases hc : a0.toInt = 42
  · replace h := h.2.1 hc
    refine J_lookup (off := 91) 92 dX10_tightness_1 (by decide) (by rw [hc] <;> rfl) (by decide) ?_
    refine J_iconst (v := 4) dX10_tightness_92 (by decide) ?_
    exact J_iret rfl dX10_tightness_93 h
  have hn42 := hc
  by_cases hc : a0.toInt = 43
  · replace h := h.2.2.1 hc
    refine J_lookup (off := 89) 90 dX10_tightness_1 (by decide) (by rw [hc] <;> rfl) (by decide) ?_
    refine J_iconst (v := 3) dX10_tightness_90 (by decide) ?_
    exact J_iret rfl dX10_tightness_91 h
  have hn43 := hc
  by_cases hc : a0.toInt = 45
  · replace h := h.2.2.2.1 hc
    refine J_lookup (off := 89) 90 dX10_tightness_1 (by decide) (by rw [hc] <;> rfl) (by decide) ?_
    refine J_iconst (v := 3) dX10_tightness_90 (by decide) ?_
    exact J_iret rfl dX10_tightness_91 h
  have hn45 := hc
  by_cases hc : a0.toInt = 47
  · replace h := h.2.2.2.2.1 hc
    refine J_lookup (off := 91) 92 dX10_tightness_1 (by decide) (by rw [hc] <;> rfl) (by decide) ?_
    refine J_iconst (v := 4) dX10_tightness_92 (by decide) ?_
    exact J_iret rfl dX10_tightness_93 h
  have hn47 := hc
  by_cases hc : a0.toInt = 60
  · replace h := h.2.2.2.2.2.1 hc
    refine J_lookup (off := 87) 88 dX10_tightness_1 (by decide) (by rw [hc] <;> rfl) (by decide) ?_
    refine J_iconst (v := 2) dX10_tightness_88 (by decide) ?_
    exact J_iret rfl dX10_tightness_89 h
  have hn60 := hc
  by_cases hc : a0.toInt = 61
  · replace h := h.2.2.2.2.2.2.1 hc
    refine J_lookup (off := 87) 88 dX10_tightness_1 (by decide) (by rw [hc] <;> rfl) (by decide) ?_
    refine J_iconst (v := 2) dX10_tightness_88 (by decide) ?_
    exact J_iret rfl dX10_tightness_89 h
  have hn61 := hc
  by_cases hc : a0.toInt = 62
  · replace h := h.2.2.2.2.2.2.2.1 hc
    refine J_lookup (off := 87) 88 dX10_tightness_1 (by decide) (by rw [hc] <;> rfl) (by decide) ?_
    refine J_iconst (v := 2) dX10_tightness_88 (by decide) ?_
    exact J_iret rfl dX10_tightness_89 h
  have hn62 := hc
  by_cases hc : a0.toInt = 124
  · replace h := h.2.2.2.2.2.2.2.2.1 hc
    refine J_lookup (off := 83) 84 dX10_tightness_1 (by decide) (by rw [hc] <;> rfl) (by decide) ?_
    refine J_iconst (v := 0) dX10_tightness_84 (by decide) ?_
    exact J_iret rfl dX10_tightness_85 h
  have hn124 := hc
  replace h := h.2.2.2.2.2.2.2.2.2 hn38 hn42 hn43 hn45 hn47 hn60 hn61 hn62 hn124
  refine J_lookup (off := 93) 94 dX10_tightness_1 (by decide) (by rw [Op.lookupswitch.offset_cons, if_neg (Ne.symm hn38), Op.lookupswitch.offset_cons, if_neg (Ne.symm hn42), Op.lookupswitch.offset_cons, if_neg (Ne.symm hn43), Op.lookupswitch.offset_cons, if_neg (Ne.symm hn45), Op.lookupswitch.offset_cons, if_neg (Ne.symm hn47), Op.lookupswitch.offset_cons, if_neg (Ne.symm hn60), Op.lookupswitch.offset_cons, if_neg (Ne.symm hn61), Op.lookupswitch.offset_cons, if_neg (Ne.symm hn62), Op.lookupswitch.offset_cons, if_neg (Ne.symm hn124)] <;> rfl) (by decide) ?_
  refine J_bipush (v := 6) dX10_tightness_94 (by decide) ?_
  exact J_iret rfl dX10_tightness_96 h
theorem M_X10_tightness {Γ : GG} {l : Launch} {d : Nat} {Q : Option Value → St → Prop} {σ : St} (a0 : Int32) (k : J Γ l d mX10_tightness Q 0 [(0, .int a0)] [] σ) : Meth Γ l d mX10_tightness [.int a0] σ Q := Meth_of_J (by decide +kernel) (fun _ => Nat.le_of_ble_eq_true rfl) (fun _ => rfl) k
set_option maxHeartbeats 4000000 in
set_option maxRecDepth 100000 in
theorem w_X10_readJoined_26 {Γ : GG} {l : Launch} {d : Nat} {Q : Option Value → St → Prop} {σ : St} (a1 : Int32) (a2 : Int32) (a3 : Int32) (h : (rd σ 23 1 ≤ a3 → Q (some (.int (1))) σ) ∧ (¬ rd σ 23 1 ≤ a3 → Meth Γ l d mX10_next [.ref 23] σ (KI (fun x2 σ1 => Meth Γ l d mX10_tightness [.int x2] σ1 (KI (fun x4 σ3 => (x4 = a1 → Meth Γ l d mX10_next [.ref 23] σ3 (KI (fun x6 σ5 => Meth Γ l d mX10_readJoined [.ref 23, .int (a1 + (1 : Int32)), .int a2] (wr σ5 23 2 ((rd σ5 23 2) + (1 : Int32))) (KI (fun x8 σ7 => (x8 = (0 : Int32) → Q (some (.int (0))) σ7) ∧ (¬ x8 = (0 : Int32) → Meth Γ l d mX10_write [.ref 23, .int (-x6)] σ7 (KV (fun σ9 => (a1 = (2 : Int32) → Q (some (.int (1))) σ9) ∧ (¬ a1 = (2 : Int32) → ∀ x10 : Int32, x10 = a3 + 1 → J Γ l (d + 1) mX10_readJoined Q 26 [(0, .ref 23), (1, .int a1), (2, .int a2), (3, .int x10)] [] σ9))))))))) ∧ (¬ x4 = a1 → Q (some (.int (1))) σ3))))))) : J Γ l (d + 1) mX10_readJoined Q 26 [(0, .ref 23), (1, .int a1), (2, .int a2), (3, .int a3)] [] σ := by
  refine J_iload_n (i := 3) (kk := 3) dX10_readJoined_26 rfl rfl ?_
  refine J_aload_n (i := 0) (kk := 0) dX10_readJoined_27 rfl rfl ?_
  refine J_getI (q := 23) (ci := 10) (kf := 1) kfX10_15 uxX10 rfl (by decide) rfl (by decide) rfl dX10_readJoined_28 ?_
  refine J_icmp_ge 94 dX10_readJoined_31 (by decide) (fun hc => ?_) (fun hc => ?_)
  · replace h := h.1 hc
    refine J_iconst (v := 1) dX10_readJoined_94 (by decide) ?_
    exact J_zret rfl (by decide) dX10_readJoined_95 h
  · replace h := h.2 hc
    refine J_aload_n (i := 0) (kk := 0) dX10_readJoined_34 rfl rfl ?_
    refine J_callV [] [] calX10_next klX10_36 (b := 23) (ci := 10) (by decide) rfl rfl rfl rfl (Nat.le_of_ble_eq_true rfl) dX10_readJoined_35 (KI.to h ?_)
    clear h
    intro x2 σ1 h
    refine J_callS [.int x2] [] calX10_tightness klX10_51 rfl rfl (Nat.le_of_ble_eq_true rfl) dX10_readJoined_38 (KI.to h ?_)
    clear h
    intro x4 σ3 h
    refine J_iload_n (i := 1) (kk := 1) dX10_readJoined_41 rfl rfl ?_
    refine J_icmp_ne 94 dX10_readJoined_42 (by decide) (fun hc => ?_) (fun hc => ?_)
    · replace h := h.2 hc
      refine J_iconst (v := 1) dX10_readJoined_94 (by decide) ?_
      exact J_zret rfl (by decide) dX10_readJoined_95 h
    · replace h := h.1 hc
      refine J_aload_n (i := 0) (kk := 0) dX10_readJoined_45 rfl rfl ?_
      refine J_callV [] [] calX10_next klX10_36 (b := 23) (ci := 10) (by decide) rfl rfl rfl rfl (Nat.le_of_ble_eq_true rfl) dX10_readJoined_46 (KI.to h ?_)
      clear h
      intro x6 σ5 h
      refine J_istore (i := 4) (lv' := [(4, .int x6), (0, .ref 23), (1, .int a1), (2, .int a2), (3, .int a3)]) dX10_readJoined_49 (by decide) rfl ?_
      refine J_aload_n (i := 0) (kk := 1) dX10_readJoined_51 rfl rfl ?_
      refine J_dup dX10_readJoined_52 rfl ?_
      refine J_getI (q := 23) (ci := 10) (kf := 2) kfX10_19 uxX10 rfl (by decide) rfl (by decide) rfl dX10_readJoined_53 ?_
      refine J_iconst (v := 1) dX10_readJoined_56 (by decide) ?_
      refine J_iadd dX10_readJoined_57 ?_
      refine J_putf (q := 23) (ci := 10) (kf := 2) (ty := .int) kfX10_19 uxX10 tyX10_ok nmX10 rfl (by decide) rfl (by decide) rfl rfl rfl rfl rfl dX10_readJoined_58 ?_
      refine J_aload_n (i := 0) (kk := 1) dX10_readJoined_61 rfl rfl ?_
      refine J_iload_n (i := 1) (kk := 2) dX10_readJoined_62 rfl rfl ?_
      refine J_iconst (v := 1) dX10_readJoined_63 (by decide) ?_
      refine J_iadd dX10_readJoined_64 ?_
      refine J_iload_n (i := 2) (kk := 3) dX10_readJoined_65 rfl rfl ?_
      refine J_callV [.int (a1 + (1 : Int32)), .int a2] [] calX10_readJoined klX10_40 (b := 23) (ci := 10) (by decide) rfl rfl rfl rfl (Nat.le_of_ble_eq_true rfl) dX10_readJoined_66 (KI.to h ?_)
      clear h
      intro x8 σ7 h
      refine J_if_ne 74 dX10_readJoined_69 (by decide) (fun hc => ?_) (fun hc => ?_)
      · replace h := h.2 hc
        refine J_aload_n (i := 0) (kk := 1) dX10_readJoined_74 rfl rfl ?_
        refine J_iload (i := 4) (kk := 0) dX10_readJoined_75 rfl ?_
        refine J_ineg dX10_readJoined_77 ?_
        refine J_callV [.int (-x6)] [] calX10_write klX10_44 (b := 23) (ci := 10) (by decide) rfl rfl rfl rfl (Nat.le_of_ble_eq_true rfl) dX10_readJoined_78 (KV.to h ?_)
        clear h
        intro σ9 h
        refine J_iload_n (i := 1) (kk := 2) dX10_readJoined_81 rfl rfl ?_
        refine J_iconst (v := 2) dX10_readJoined_82 (by decide) ?_
        refine J_icmp_ne 88 dX10_readJoined_83 (by decide) (fun hc => ?_) (fun hc => ?_)
        · replace h := h.2 hc
          obtain ⟨x10, ex10⟩ : ∃ y : Int32, y = a3 + 1 := ⟨_, rfl⟩
          replace h := h x10 ex10
          refine J_iinc (i := 3) (kk := 4) (v := x10) (lv' := [(3, .int x10), (4, .int x6), (0, .ref 23), (1, .int a1), (2, .int a2)]) dX10_readJoined_88 rfl (by rw [ex10]; rfl) (by decide) rfl ?_
          refine J_goto (tgt := 26) dX10_readJoined_91 (by decide) ?_
          refine J_sub [2, 3, 4, 0] rfl ?_
          exact h
        · replace h := h.1 hc
          refine J_iconst (v := 1) dX10_readJoined_86 (by decide) ?_
          exact J_zret rfl (by decide) dX10_readJoined_87 h
      · replace h := h.1 hc
        refine J_iconst (v := 0) dX10_readJoined_72 (by decide) ?_
        exact J_zret rfl (by decide) dX10_readJoined_73 h
set_option maxHeartbeats 4000000 in
set_option maxRecDepth 100000 in
theorem w_X10_readJoined_0 {Γ : GG} {l : Launch} {d : Nat} {Q : Option Value → St → Prop} {σ : St} (a1 : Int32) (a2 : Int32) (h : (a1 < (5 : Int32) → Meth Γ l d mX10_readJoined [.ref 23, .int (a1 + (1 : Int32)), .int a2] σ (KI (fun x2 σ1 => (x2 = (0 : Int32) → Q (some (.int (0))) σ1) ∧ (¬ x2 = (0 : Int32) → J Γ l (d + 1) mX10_readJoined Q 26 [(0, .ref 23), (1, .int a1), (2, .int a2), (3, .int (0))] [] σ1)))) ∧ (¬ a1 < (5 : Int32) → Meth Γ l d mX10_readOperand [.ref 23, .int a2] σ (KI (fun x4 σ3 => (x4 = 0 ∨ x4 = 1) ∧ Q (some (.int x4)) σ3)))) : J Γ l (d + 1) mX10_readJoined Q 0 [(0, .ref 23), (1, .int a1), (2, .int a2)] [] σ := by
  refine J_iload_n (i := 1) (kk := 1) dX10_readJoined_0 rfl rfl ?_
  refine J_iconst (v := 5) dX10_readJoined_1 (by decide) ?_
  refine J_icmp_lt 11 dX10_readJoined_2 (by decide) (fun hc => ?_) (fun hc => ?_)
  · replace h := h.1 hc
    refine J_aload_n (i := 0) (kk := 0) dX10_readJoined_11 rfl rfl ?_
    refine J_iload_n (i := 1) (kk := 1) dX10_readJoined_12 rfl rfl ?_
    refine J_iconst (v := 1) dX10_readJoined_13 (by decide) ?_
    refine J_iadd dX10_readJoined_14 ?_
    refine J_iload_n (i := 2) (kk := 2) dX10_readJoined_15 rfl rfl ?_
    refine J_callV [.int (a1 + (1 : Int32)), .int a2] [] calX10_readJoined klX10_40 (b := 23) (ci := 10) (by decide) rfl rfl rfl rfl (Nat.le_of_ble_eq_true rfl) dX10_readJoined_16 (KI.to h ?_)
    clear h
    intro x2 σ1 h
    refine J_if_ne 24 dX10_readJoined_19 (by decide) (fun hc => ?_) (fun hc => ?_)
    · replace h := h.2 hc
      refine J_iconst (v := 0) dX10_readJoined_24 (by decide) ?_
      refine J_istore_n (i := 3) (lv' := [(3, .int (0)), (0, .ref 23), (1, .int a1), (2, .int a2)]) dX10_readJoined_25 rfl (by decide) rfl ?_
      refine J_sub [1, 2, 3, 0] rfl ?_
      exact h
    · replace h := h.1 hc
      refine J_iconst (v := 0) dX10_readJoined_22 (by decide) ?_
      exact J_zret rfl (by decide) dX10_readJoined_23 h
  · replace h := h.2 hc
    refine J_aload_n (i := 0) (kk := 0) dX10_readJoined_5 rfl rfl ?_
    refine J_iload_n (i := 2) (kk := 2) dX10_readJoined_6 rfl rfl ?_
    refine J_callV [.int a2] [] calX10_readOperand klX10_48 (b := 23) (ci := 10) (by decide) rfl rfl rfl rfl (Nat.le_of_ble_eq_true rfl) dX10_readJoined_7 (KI.to h ?_)
    clear h
    intro x4 σ3 h
    exact J_zret rfl h.1 dX10_readJoined_10 h.2
theorem M_X10_readJoined {Γ : GG} {l : Launch} {d : Nat} {Q : Option Value → St → Prop} {σ : St} (a1 : Int32) (a2 : Int32) (k : J Γ l (d + 1) mX10_readJoined Q 0 [(0, .ref 23), (1, .int a1), (2, .int a2)] [] σ) : Meth Γ l (d + 1) mX10_readJoined [.ref 23, .int a1, .int a2] σ Q := Meth_of_J (by decide +kernel) (fun _ => Nat.le_of_ble_eq_true rfl) (fun _ => rfl) k
set_option maxHeartbeats 4000000 in
set_option maxRecDepth 100000 in
theorem w_X10_readOperand_59 {Γ : GG} {l : Launch} {d : Nat} {Q : Option Value → St → Prop} {σ : St} (a1 : Int32) (a2 : Int32) (h : (a1 < (9 : Int32) → (a2 = (40 : Int32) → Meth Γ l d mX10_readJoined [.ref 23, .int (0), .int (a1 + (1 : Int32))] (wr σ 23 2 ((rd σ 23 2) + (1 : Int32))) (KI (fun x5 σ4 => (x5 = (0 : Int32) → Q (some (.int (0))) σ4) ∧ (¬ x5 = (0 : Int32) → Meth Γ l d mX10_goesOn [.ref 23, .int (41)] σ4 (KI (fun x7 σ6 => (x7 = (0 : Int32) → Q (some (.int (0))) σ6) ∧ (¬ x7 = (0 : Int32) → Q (some (.int (1))) σ6))))))) ∧ (¬ a2 = (40 : Int32) → Meth Γ l d mX10_readOperand [.ref 23, .int (a1 + (1 : Int32))] (wr σ 23 2 ((rd σ 23 2) + (1 : Int32))) (KI (fun x2 σ1 => (x2 = (0 : Int32) → Q (some (.int (0))) σ1) ∧ (¬ x2 = (0 : Int32) → Meth Γ l d mX10_write [.ref 23, .int (-a2)] σ1 (KV (fun σ3 => Q (some (.int (1))) σ3))))))) ∧ (¬ a1 < (9 : Int32) → Q (some (.int (0))) σ)) : J Γ l (d + 1) mX10_readOperand Q 59 [(0, .ref 23), (1, .int a1), (2, .int a2)] [] σ := by
  refine J_iload_n (i := 1) (kk := 1) dX10_readOperand_59 rfl rfl ?_
  refine J_bipush (v := 9) dX10_readOperand_60 (by decide) ?_
  refine J_icmp_lt 67 dX10_readOperand_62 (by decide) (fun hc => ?_) (fun hc => ?_)
  · replace h := h.1 hc
    refine J_aload_n (i := 0) (kk := 0) dX10_readOperand_67 rfl rfl ?_
    refine J_dup dX10_readOperand_68 rfl ?_
    refine J_getI (q := 23) (ci := 10) (kf := 2) kfX10_19 uxX10 rfl (by decide) rfl (by decide) rfl dX10_readOperand_69 ?_
    refine J_iconst (v := 1) dX10_readOperand_72 (by decide) ?_
    refine J_iadd dX10_readOperand_73 ?_
    refine J_putf (q := 23) (ci := 10) (kf := 2) (ty := .int) kfX10_19 uxX10 tyX10_ok nmX10 rfl (by decide) rfl (by decide) rfl rfl rfl rfl rfl dX10_readOperand_74 ?_
    refine J_iload_n (i := 2) (kk := 2) dX10_readOperand_77 rfl rfl ?_
    refine J_bipush (v := 40) dX10_readOperand_78 (by decide) ?_
    refine J_icmp_ne 109 dX10_readOperand_80 (by decide) (fun hc => ?_) (fun hc => ?_)
    · replace h := h.2 hc
      refine J_aload_n (i := 0) (kk := 0) dX10_readOperand_109 rfl rfl ?_
      refine J_iload_n (i := 1) (kk := 1) dX10_readOperand_110 rfl rfl ?_
      refine J_iconst (v := 1) dX10_readOperand_111 (by decide) ?_
      refine J_iadd dX10_readOperand_112 ?_
      refine J_callV [.int (a1 + (1 : Int32))] [] calX10_readOperand klX10_48 (b := 23) (ci := 10) (by decide) rfl rfl rfl rfl (Nat.le_of_ble_eq_true rfl) dX10_readOperand_113 (KI.to h ?_)
      clear h
      intro x2 σ1 h
      refine J_if_ne 121 dX10_readOperand_116 (by decide) (fun hc => ?_) (fun hc => ?_)
      · replace h := h.2 hc
        refine J_aload_n (i := 0) (kk := 0) dX10_readOperand_121 rfl rfl ?_
        refine J_iload_n (i := 2) (kk := 2) dX10_readOperand_122 rfl rfl ?_
        refine J_ineg dX10_readOperand_123 ?_
        refine J_callV [.int (-a2)] [] calX10_write klX10_44 (b := 23) (ci := 10) (by decide) rfl rfl rfl rfl (Nat.le_of_ble_eq_true rfl) dX10_readOperand_124 (KV.to h ?_)
        clear h
        intro σ3 h
        refine J_iconst (v := 1) dX10_readOperand_127 (by decide) ?_
        exact J_zret rfl (by decide) dX10_readOperand_128 h
      · replace h := h.1 hc
        refine J_iconst (v := 0) dX10_readOperand_119 (by decide) ?_
        exact J_zret rfl (by decide) dX10_readOperand_120 h
    · replace h := h.1 hc
      refine J_aload_n (i := 0) (kk := 0) dX10_readOperand_83 rfl rfl ?_
      refine J_iconst (v := 0) dX10_readOperand_84 (by decide) ?_
      refine J_iload_n (i := 1) (kk := 1) dX10_readOperand_85 rfl rfl ?_
      refine J_iconst (v := 1) dX10_readOperand_86 (by decide) ?_
      refine J_iadd dX10_readOperand_87 ?_
      refine J_callV [.int (0), .int (a1 + (1 : Int32))] [] calX10_readJoined klX10_40 (b := 23) (ci := 10) (by decide) rfl rfl rfl rfl (Nat.le_of_ble_eq_true rfl) dX10_readOperand_88 (KI.to h ?_)
      clear h
      intro x5 σ4 h
      refine J_if_eq 107 dX10_readOperand_91 (by decide) (fun hc => ?_) (fun hc => ?_)
      · replace h := h.1 hc
        refine J_iconst (v := 0) dX10_readOperand_107 (by decide) ?_
        exact J_zret rfl (by decide) dX10_readOperand_108 h
      · replace h := h.2 hc
        refine J_aload_n (i := 0) (kk := 0) dX10_readOperand_94 rfl rfl ?_
        refine J_bipush (v := 41) dX10_readOperand_95 (by decide) ?_
        refine J_callV [.int (41)] [] calX10_goesOn klX10_32 (b := 23) (ci := 10) (by decide) rfl rfl rfl rfl (Nat.le_of_ble_eq_true rfl) dX10_readOperand_97 (KI.to h ?_)
        clear h
        intro x7 σ6 h
        refine J_if_eq 107 dX10_readOperand_100 (by decide) (fun hc => ?_) (fun hc => ?_)
        · replace h := h.1 hc
          refine J_iconst (v := 0) dX10_readOperand_107 (by decide) ?_
          exact J_zret rfl (by decide) dX10_readOperand_108 h
        · replace h := h.2 hc
          refine J_iconst (v := 1) dX10_readOperand_103 (by decide) ?_
          refine J_goto (tgt := 108) dX10_readOperand_104 (by decide) ?_
          exact J_zret rfl (by decide) dX10_readOperand_108 h
  · replace h := h.2 hc
    refine J_iconst (v := 0) dX10_readOperand_65 (by decide) ?_
    exact J_zret rfl (by decide) dX10_readOperand_66 h
set_option maxHeartbeats 4000000 in
set_option maxRecDepth 100000 in
theorem w_X10_readOperand_0 {Γ : GG} {l : Launch} {d : Nat} {Q : Option Value → St → Prop} {σ : St} (a1 : Int32) (h : Meth Γ l d mX10_next [.ref 23] σ (KI (fun x2 σ1 => ((48 : Int32) ≤ x2 ∧ x2 ≤ (57 : Int32) → Meth Γ l d mX10_readNumber [.ref 23] σ1 (KV (fun σ3 => Q (some (.int (1))) σ3))) ∧ (¬ ((48 : Int32) ≤ x2 ∧ x2 ≤ (57 : Int32)) → Meth Γ l d mX4_isName [.int x2] σ1 (KI (fun x5 σ4 => (x5 = (0 : Int32) → (x2 = (33 : Int32) → J Γ l (d + 1) mX10_readOperand Q 59 [(0, .ref 23), (1, .int a1), (2, .int x2)] [] σ4) ∧ (¬ x2 = (33 : Int32) → (x2 = (40 : Int32) → J Γ l (d + 1) mX10_readOperand Q 59 [(0, .ref 23), (1, .int a1), (2, .int x2)] [] σ4) ∧ (¬ x2 = (40 : Int32) → Q (some (.int (0))) σ4))) ∧ (¬ x5 = (0 : Int32) → Meth Γ l d mX10_write [.ref 23, .int (-x2)] σ4 (KV (fun σ6 => Q (some (.int (1))) (wr σ6 23 2 ((rd σ6 23 2) + (1 : Int32)))))))))))) : J Γ l (d + 1) mX10_readOperand Q 0 [(0, .ref 23), (1, .int a1)] [] σ := by
  refine J_aload_n (i := 0) (kk := 0) dX10_readOperand_0 rfl rfl ?_
  refine J_callV [] [] calX10_next klX10_36 (b := 23) (ci := 10) (by decide) rfl rfl rfl rfl (Nat.le_of_ble_eq_true rfl) dX10_readOperand_1 (KI.to h ?_)
  clear h
  intro x2 σ1 h
  refine J_istore_n (i := 2) (lv' := [(2, .int x2), (0, .ref 23), (1, .int a1)]) dX10_readOperand_4 rfl (by decide) rfl ?_
  refine J_bipush (v := 48) dX10_readOperand_5 (by decide) ?_
  refine J_iload_n (i := 2) (kk := 0) dX10_readOperand_7 rfl rfl ?_
  refine J_bipush (v := 57) dX10_readOperand_8 (by decide) ?_
  refine J_callSN [.int (48), .int x2, .int (57)] [] calX11_isFrom knX10_55 rfl rfl (Nat.le_of_ble_eq_true rfl) dX10_readOperand_10 (KI.to (S_X11_isFrom (48 : Int32) x2 (57 : Int32)) ?_)
  rintro x9 s9 ⟨rfl, ⟨g7, rfl⟩ | ⟨g7, rfl⟩⟩
  · replace h := h.1 g7
    refine J_if_eq 22 dX10_readOperand_13 (by decide) (fun hc => absurd hc (by decide)) (fun _ => ?_)
    refine J_aload_n (i := 0) (kk := 1) dX10_readOperand_16 rfl rfl ?_
    refine J_callV [] [] calX10_readNumber klX10_59 (b := 23) (ci := 10) (by decide) rfl rfl rfl rfl (Nat.le_of_ble_eq_true rfl) dX10_readOperand_17 (KV.to h ?_)
    clear h
    intro σ3 h
    refine J_iconst (v := 1) dX10_readOperand_20 (by decide) ?_
    exact J_zret rfl (by decide) dX10_readOperand_21 h
  · replace h := h.2 g7
    refine J_if_eq 22 dX10_readOperand_13 (by decide) (fun _ => ?_) (fun hc => absurd hc (by decide))
    refine J_iload_n (i := 2) (kk := 0) dX10_readOperand_22 rfl rfl ?_
    refine J_callS [.int x2] [] calX4_isName klX10_62 rfl rfl (Nat.le_of_ble_eq_true rfl) dX10_readOperand_23 (KI.to h ?_)
    clear h
    intro x5 σ4 h
    refine J_if_eq 47 dX10_readOperand_26 (by decide) (fun hc => ?_) (fun hc => ?_)
    · replace h := h.1 hc
      refine J_iload_n (i := 2) (kk := 0) dX10_readOperand_47 rfl rfl ?_
      refine J_bipush (v := 33) dX10_readOperand_48 (by decide) ?_
      refine J_icmp_eq 59 dX10_readOperand_50 (by decide) (fun hc => ?_) (fun hc => ?_)
      · replace h := h.1 hc
        refine J_sub [1, 2, 0] rfl ?_
        exact h
      · replace h := h.2 hc
        refine J_iload_n (i := 2) (kk := 0) dX10_readOperand_53 rfl rfl ?_
        refine J_bipush (v := 40) dX10_readOperand_54 (by decide) ?_
        refine J_icmp_ne 65 dX10_readOperand_56 (by decide) (fun hc => ?_) (fun hc => ?_)
        · replace h := h.2 hc
          refine J_iconst (v := 0) dX10_readOperand_65 (by decide) ?_
          exact J_zret rfl (by decide) dX10_readOperand_66 h
        · replace h := h.1 hc
          refine J_sub [1, 2, 0] rfl ?_
          exact h
    · replace h := h.2 hc
      refine J_aload_n (i := 0) (kk := 1) dX10_readOperand_29 rfl rfl ?_
      refine J_iload_n (i := 2) (kk := 0) dX10_readOperand_30 rfl rfl ?_
      refine J_ineg dX10_readOperand_31 ?_
      refine J_callV [.int (-x2)] [] calX10_write klX10_44 (b := 23) (ci := 10) (by decide) rfl rfl rfl rfl (Nat.le_of_ble_eq_true rfl) dX10_readOperand_32 (KV.to h ?_)
      clear h
      intro σ6 h
      refine J_aload_n (i := 0) (kk := 1) dX10_readOperand_35 rfl rfl ?_
      refine J_dup dX10_readOperand_36 rfl ?_
      refine J_getI (q := 23) (ci := 10) (kf := 2) kfX10_19 uxX10 rfl (by decide) rfl (by decide) rfl dX10_readOperand_37 ?_
      refine J_iconst (v := 1) dX10_readOperand_40 (by decide) ?_
      refine J_iadd dX10_readOperand_41 ?_
      refine J_putf (q := 23) (ci := 10) (kf := 2) (ty := .int) kfX10_19 uxX10 tyX10_ok nmX10 rfl (by decide) rfl (by decide) rfl rfl rfl rfl rfl dX10_readOperand_42 ?_
      refine J_iconst (v := 1) dX10_readOperand_45 (by decide) ?_
      exact J_zret rfl (by decide) dX10_readOperand_46 h
theorem M_X10_readOperand {Γ : GG} {l : Launch} {d : Nat} {Q : Option Value → St → Prop} {σ : St} (a1 : Int32) (k : J Γ l (d + 1) mX10_readOperand Q 0 [(0, .ref 23), (1, .int a1)] [] σ) : Meth Γ l (d + 1) mX10_readOperand [.ref 23, .int a1] σ Q := Meth_of_J (by decide +kernel) (fun _ => Nat.le_of_ble_eq_true rfl) (fun _ => rfl) k
set_option maxHeartbeats 4000000 in
set_option maxRecDepth 100000 in
theorem w_X10_readNumber_4 {Γ : GG} {l : Launch} {d : Nat} {Q : Option Value → St → Prop} {σ : St} (a1 : Int32) (a2 : Int32) (h : ((4 : Int32) ≤ a2 → Meth Γ l d mX10_write [.ref 23, .int a1] σ (KV (fun σ1 => Q none σ1))) ∧ (¬ (4 : Int32) ≤ a2 → Meth Γ l d mX10_next [.ref 23] σ (KI (fun x3 σ2 => ((48 : Int32) ≤ x3 ∧ x3 ≤ (57 : Int32) → Meth Γ l d mX10_next [.ref 23] σ2 (KI (fun x5 σ4 => ∀ x6 : Int32, x6 = ((a1 * (10 : Int32)) + x5) - (48 : Int32) → ∀ x7 : Int32, x7 = a2 + 1 → J Γ l (d + 1) mX10_readNumber Q 4 [(0, .ref 23), (1, .int x6), (2, .int x7)] [] (wr σ4 23 2 ((rd σ4 23 2) + (1 : Int32)))))) ∧ (¬ ((48 : Int32) ≤ x3 ∧ x3 ≤ (57 : Int32)) → Meth Γ l d mX10_write [.ref 23, .int a1] σ2 (KV (fun σ8 => Q none σ8))))))) : J Γ l (d + 1) mX10_readNumber Q 4 [(0, .ref 23), (1, .int a1), (2, .int a2)] [] σ := by
  refine J_iload_n (i := 2) (kk := 2) dX10_readNumber_4 rfl rfl ?_
  refine J_iconst (v := 4) dX10_readNumber_5 (by decide) ?_
  refine J_icmp_ge 52 dX10_readNumber_6 (by decide) (fun hc => ?_) (fun hc => ?_)
  · replace h := h.1 hc
    refine J_aload_n (i := 0) (kk := 0) dX10_readNumber_52 rfl rfl ?_
    refine J_iload_n (i := 1) (kk := 1) dX10_readNumber_53 rfl rfl ?_
    refine J_callV [.int a1] [] calX10_write klX10_44 (b := 23) (ci := 10) (by decide) rfl rfl rfl rfl (Nat.le_of_ble_eq_true rfl) dX10_readNumber_54 (KV.to h ?_)
    clear h
    intro σ1 h
    exact J_vret rfl dX10_readNumber_57 h
  · replace h := h.2 hc
    refine J_bipush (v := 48) dX10_readNumber_9 (by decide) ?_
    refine J_aload_n (i := 0) (kk := 0) dX10_readNumber_11 rfl rfl ?_
    refine J_callV [] [.int (48)] calX10_next klX10_36 (b := 23) (ci := 10) (by decide) rfl rfl rfl rfl (Nat.le_of_ble_eq_true rfl) dX10_readNumber_12 (KI.to h ?_)
    clear h
    intro x3 σ2 h
    refine J_bipush (v := 57) dX10_readNumber_15 (by decide) ?_
    refine J_callSN [.int (48), .int x3, .int (57)] [] calX11_isFrom knX10_55 rfl rfl (Nat.le_of_ble_eq_true rfl) dX10_readNumber_17 (KI.to (S_X11_isFrom (48 : Int32) x3 (57 : Int32)) ?_)
    rintro x9 s9 ⟨rfl, ⟨g9, rfl⟩ | ⟨g9, rfl⟩⟩
    · replace h := h.1 g9
      refine J_if_eq 52 dX10_readNumber_20 (by decide) (fun hc => absurd hc (by decide)) (fun _ => ?_)
      refine J_iload_n (i := 1) (kk := 1) dX10_readNumber_23 rfl rfl ?_
      refine J_bipush (v := 10) dX10_readNumber_24 (by decide) ?_
      refine J_imul dX10_readNumber_26 ?_
      refine J_aload_n (i := 0) (kk := 0) dX10_readNumber_27 rfl rfl ?_
      refine J_callV [] [.int (a1 * (10 : Int32))] calX10_next klX10_36 (b := 23) (ci := 10) (by decide) rfl rfl rfl rfl (Nat.le_of_ble_eq_true rfl) dX10_readNumber_28 (KI.to h ?_)
      clear h
      intro x5 σ4 h
      refine J_iadd dX10_readNumber_31 ?_
      refine J_bipush (v := 48) dX10_readNumber_32 (by decide) ?_
      refine J_isub dX10_readNumber_34 ?_
      refine J_nameI (fun x6 ex6 => ?_)
      replace h := h x6 ex6
      refine J_istore_n (i := 1) (lv' := [(1, .int x6), (0, .ref 23), (2, .int a2)]) dX10_readNumber_35 rfl (by decide) rfl ?_
      refine J_aload_n (i := 0) (kk := 1) dX10_readNumber_36 rfl rfl ?_
      refine J_dup dX10_readNumber_37 rfl ?_
      refine J_getI (q := 23) (ci := 10) (kf := 2) kfX10_19 uxX10 rfl (by decide) rfl (by decide) rfl dX10_readNumber_38 ?_
      refine J_iconst (v := 1) dX10_readNumber_41 (by decide) ?_
      refine J_iadd dX10_readNumber_42 ?_
      refine J_putf (q := 23) (ci := 10) (kf := 2) (ty := .int) kfX10_19 uxX10 tyX10_ok nmX10 rfl (by decide) rfl (by decide) rfl rfl rfl rfl rfl dX10_readNumber_43 ?_
      obtain ⟨x7, ex7⟩ : ∃ y : Int32, y = a2 + 1 := ⟨_, rfl⟩
      replace h := h x7 ex7
      refine J_iinc (i := 2) (kk := 2) (v := x7) (lv' := [(2, .int x7), (1, .int x6), (0, .ref 23)]) dX10_readNumber_46 rfl (by rw [ex7]; rfl) (by decide) rfl ?_
      refine J_goto (tgt := 4) dX10_readNumber_49 (by decide) ?_
      refine J_sub [2, 1, 0] rfl ?_
      exact h
    · replace h := h.2 g9
      refine J_if_eq 52 dX10_readNumber_20 (by decide) (fun _ => ?_) (fun hc => absurd hc (by decide))
      refine J_aload_n (i := 0) (kk := 0) dX10_readNumber_52 rfl rfl ?_
      refine J_iload_n (i := 1) (kk := 1) dX10_readNumber_53 rfl rfl ?_
      refine J_callV [.int a1] [] calX10_write klX10_44 (b := 23) (ci := 10) (by decide) rfl rfl rfl rfl (Nat.le_of_ble_eq_true rfl) dX10_readNumber_54 (KV.to h ?_)
      clear h
      intro σ8 h
      exact J_vret rfl dX10_readNumber_57 h
set_option maxHeartbeats 4000000 in
set_option maxRecDepth 100000 in
theorem w_X10_readNumber_0 {Γ : GG} {l : Launch} {d : Nat} {Q : Option Value → St → Prop} {σ : St}  (h : J Γ l (d + 1) mX10_readNumber Q 4 [(0, .ref 23), (1, .int (0)), (2, .int (0))] [] σ) : J Γ l (d + 1) mX10_readNumber Q 0 [(0, .ref 23)] [] σ := by
  refine J_iconst (v := 0) dX10_readNumber_0 (by decide) ?_
  refine J_istore_n (i := 1) (lv' := [(1, .int (0)), (0, .ref 23)]) dX10_readNumber_1 rfl (by decide) rfl ?_
  refine J_iconst (v := 0) dX10_readNumber_2 (by decide) ?_
  refine J_istore_n (i := 2) (lv' := [(2, .int (0)), (1, .int (0)), (0, .ref 23)]) dX10_readNumber_3 rfl (by decide) rfl ?_
  refine J_sub [2, 1, 0] rfl ?_
  exact h
theorem M_X10_readNumber {Γ : GG} {l : Launch} {d : Nat} {Q : Option Value → St → Prop} {σ : St}  (k : J Γ l (d + 1) mX10_readNumber Q 0 [(0, .ref 23)] [] σ) : Meth Γ l (d + 1) mX10_readNumber [.ref 23] σ Q := Meth_of_J (by decide +kernel) (fun _ => Nat.le_of_ble_eq_true rfl) (fun _ => rfl) k
set_option maxHeartbeats 4000000 in
set_option maxRecDepth 100000 in
theorem w_J6_bitCount_0f7a4_0 {Γ : GG} {l : Launch} {d : Nat} {Q : Option Value → St → Prop} {σ : St} (a0 : Int32) (h : ∀ x1 : Int32, x1 = a0 - (((a0.toUInt32 >>> ((1 : Int32).toUInt32 &&& Int32.toUInt32 31)).toInt32) &&& (1431655765 : Int32)) → ∀ x2 : Int32, x2 = (x1 &&& (858993459 : Int32)) + (((x1.toUInt32 >>> ((2 : Int32).toUInt32 &&& Int32.toUInt32 31)).toInt32) &&& (858993459 : Int32)) → ∀ x3 : Int32, x3 = (x2 + ((x2.toUInt32 >>> ((4 : Int32).toUInt32 &&& Int32.toUInt32 31)).toInt32)) &&& (252645135 : Int32) → ∀ x4 : Int32, x4 = x3 + ((x3.toUInt32 >>> ((8 : Int32).toUInt32 &&& Int32.toUInt32 31)).toInt32) → ∀ x5 : Int32, x5 = x4 + ((x4.toUInt32 >>> ((16 : Int32).toUInt32 &&& Int32.toUInt32 31)).toInt32) → Q (some (.int (x5 &&& (63 : Int32)))) σ) : J Γ l d mJ6_bitCount_0f7a4 Q 0 [(0, .int a0)] [] σ := by
  refine J_iload_n (i := 0) (kk := 0) dJ6_bitCount_0f7a4_0 rfl rfl ?_
  refine J_iload_n (i := 0) (kk := 0) dJ6_bitCount_0f7a4_1 rfl rfl ?_
  refine J_iconst (v := 1) dJ6_bitCount_0f7a4_2 (by decide) ?_
  refine J_iushr dJ6_bitCount_0f7a4_3 ?_
  refine J_ldcw (v := 1431655765) kcJ6_265 dJ6_bitCount_0f7a4_4 ?_
  refine J_iand dJ6_bitCount_0f7a4_7 ?_
  refine J_isub dJ6_bitCount_0f7a4_8 ?_
  refine J_nameI (fun x1 ex1 => ?_)
  replace h := h x1 ex1
  refine J_istore_n (i := 0) (lv' := [(0, .int x1)]) dJ6_bitCount_0f7a4_9 rfl (by decide) rfl ?_
  refine J_iload_n (i := 0) (kk := 0) dJ6_bitCount_0f7a4_10 rfl rfl ?_
  refine J_ldcw (v := 858993459) kcJ6_266 dJ6_bitCount_0f7a4_11 ?_
  refine J_iand dJ6_bitCount_0f7a4_14 ?_
  refine J_iload_n (i := 0) (kk := 0) dJ6_bitCount_0f7a4_15 rfl rfl ?_
  refine J_iconst (v := 2) dJ6_bitCount_0f7a4_16 (by decide) ?_
  refine J_iushr dJ6_bitCount_0f7a4_17 ?_
  refine J_ldcw (v := 858993459) kcJ6_266 dJ6_bitCount_0f7a4_18 ?_
  refine J_iand dJ6_bitCount_0f7a4_21 ?_
  refine J_iadd dJ6_bitCount_0f7a4_22 ?_
  refine J_nameI (fun x2 ex2 => ?_)
  replace h := h x2 ex2
  refine J_istore_n (i := 0) (lv' := [(0, .int x2)]) dJ6_bitCount_0f7a4_23 rfl (by decide) rfl ?_
  refine J_iload_n (i := 0) (kk := 0) dJ6_bitCount_0f7a4_24 rfl rfl ?_
  refine J_iload_n (i := 0) (kk := 0) dJ6_bitCount_0f7a4_25 rfl rfl ?_
  refine J_iconst (v := 4) dJ6_bitCount_0f7a4_26 (by decide) ?_
  refine J_iushr dJ6_bitCount_0f7a4_27 ?_
  refine J_iadd dJ6_bitCount_0f7a4_28 ?_
  refine J_ldcw (v := 252645135) kcJ6_267 dJ6_bitCount_0f7a4_29 ?_
  refine J_iand dJ6_bitCount_0f7a4_32 ?_
  refine J_nameI (fun x3 ex3 => ?_)
  replace h := h x3 ex3
  refine J_istore_n (i := 0) (lv' := [(0, .int x3)]) dJ6_bitCount_0f7a4_33 rfl (by decide) rfl ?_
  refine J_iload_n (i := 0) (kk := 0) dJ6_bitCount_0f7a4_34 rfl rfl ?_
  refine J_iload_n (i := 0) (kk := 0) dJ6_bitCount_0f7a4_35 rfl rfl ?_
  refine J_bipush (v := 8) dJ6_bitCount_0f7a4_36 (by decide) ?_
  refine J_iushr dJ6_bitCount_0f7a4_38 ?_
  refine J_iadd dJ6_bitCount_0f7a4_39 ?_
  refine J_nameI (fun x4 ex4 => ?_)
  replace h := h x4 ex4
  refine J_istore_n (i := 0) (lv' := [(0, .int x4)]) dJ6_bitCount_0f7a4_40 rfl (by decide) rfl ?_
  refine J_iload_n (i := 0) (kk := 0) dJ6_bitCount_0f7a4_41 rfl rfl ?_
  refine J_iload_n (i := 0) (kk := 0) dJ6_bitCount_0f7a4_42 rfl rfl ?_
  refine J_bipush (v := 16) dJ6_bitCount_0f7a4_43 (by decide) ?_
  refine J_iushr dJ6_bitCount_0f7a4_45 ?_
  refine J_iadd dJ6_bitCount_0f7a4_46 ?_
  refine J_nameI (fun x5 ex5 => ?_)
  replace h := h x5 ex5
  refine J_istore_n (i := 0) (lv' := [(0, .int x5)]) dJ6_bitCount_0f7a4_47 rfl (by decide) rfl ?_
  refine J_iload_n (i := 0) (kk := 0) dJ6_bitCount_0f7a4_48 rfl rfl ?_
  refine J_bipush (v := 63) dJ6_bitCount_0f7a4_49 (by decide) ?_
  refine J_iand dJ6_bitCount_0f7a4_51 ?_
  exact J_iret rfl dJ6_bitCount_0f7a4_52 h
theorem M_J6_bitCount_0f7a4 {Γ : GG} {l : Launch} {d : Nat} {Q : Option Value → St → Prop} {σ : St} (a0 : Int32) (k : J Γ l d mJ6_bitCount_0f7a4 Q 0 [(0, .int a0)] [] σ) : Meth Γ l d mJ6_bitCount_0f7a4 [.int a0] σ Q := Meth_of_J (by decide +kernel) (fun _ => Nat.le_of_ble_eq_true rfl) (fun _ => rfl) k
set_option maxHeartbeats 4000000 in
set_option maxRecDepth 100000 in
theorem w_J7_fill_d0a16_54_6 {Γ : GG} {l : Launch} {d : Nat} {Q : Option Value → St → Prop} {σ : St} (a1 : Int64) (a3 : Int32) (a4 : Int32) (h : (a4 ≤ a3 → Q none σ) ∧ (¬ a4 ≤ a3 → vp_in a3 64 ∧ ∀ x2 : Int32, x2 = a3 + 1 → J Γ l d mJ7_fill_d0a16 Q 6 [(0, .ref 54), (1, .long a1), (3, .int x2), (4, .int a4)] [] (wl σ 54 (a3.toNatClampNeg) a1))) : J Γ l d mJ7_fill_d0a16 Q 6 [(0, .ref 54), (1, .long a1), (3, .int a3), (4, .int a4)] [] σ := by
  refine J_iload_n (i := 3) (kk := 2) dJ7_fill_d0a16_6 rfl rfl ?_
  refine J_iload (i := 4) (kk := 3) dJ7_fill_d0a16_7 rfl ?_
  refine J_icmp_ge 22 dJ7_fill_d0a16_9 (by decide) (fun hc => ?_) (fun hc => ?_)
  · replace h := h.1 hc
    exact J_vret rfl dJ7_fill_d0a16_22 h
  · replace h := h.2 hc
    refine J_aload_n (i := 0) (kk := 0) dJ7_fill_d0a16_12 rfl rfl ?_
    refine J_iload_n (i := 3) (kk := 2) dJ7_fill_d0a16_13 rfl rfl ?_
    refine J_lload_n (i := 1) (kk := 1) dJ7_fill_d0a16_14 rfl rfl ?_
    have b1 := h.1
    replace h := h.2
    refine J_last2 (a3.toNatClampNeg) rfl (by decide) rfl b1 dJ7_fill_d0a16_15 ?_
    obtain ⟨x2, ex2⟩ : ∃ y : Int32, y = a3 + 1 := ⟨_, rfl⟩
    replace h := h x2 ex2
    refine J_iinc (i := 3) (kk := 2) (v := x2) (lv' := [(3, .int x2), (0, .ref 54), (1, .long a1), (4, .int a4)]) dJ7_fill_d0a16_16 rfl (by rw [ex2]; rfl) (by decide) rfl ?_
    refine J_goto (tgt := 6) dJ7_fill_d0a16_19 (by decide) ?_
    refine J_sub [1, 2, 0, 3] rfl ?_
    exact h
set_option maxHeartbeats 4000000 in
set_option maxRecDepth 100000 in
theorem w_J7_fill_d0a16_54_0 {Γ : GG} {l : Launch} {d : Nat} {Q : Option Value → St → Prop} {σ : St} (a1 : Int64) (h : J Γ l d mJ7_fill_d0a16 Q 6 [(0, .ref 54), (1, .long a1), (3, .int (0)), (4, .int (64))] [] σ) : J Γ l d mJ7_fill_d0a16 Q 0 [(0, .ref 54), (1, .long a1)] [] σ := by
  refine J_iconst (v := 0) dJ7_fill_d0a16_0 (by decide) ?_
  refine J_istore_n (i := 3) (lv' := [(3, .int (0)), (0, .ref 54), (1, .long a1)]) dJ7_fill_d0a16_1 rfl (by decide) rfl ?_
  refine J_aload_n (i := 0) (kk := 1) dJ7_fill_d0a16_2 rfl rfl ?_
  refine J_alenL (v := 64) (by decide) rfl (by decide) dJ7_fill_d0a16_3 ?_
  refine J_istore (i := 4) (lv' := [(4, .int (64)), (3, .int (0)), (0, .ref 54), (1, .long a1)]) dJ7_fill_d0a16_4 (by decide) rfl ?_
  refine J_sub [2, 3, 1, 0] rfl ?_
  exact h
theorem M_J7_fill_d0a16_54 {Γ : GG} {l : Launch} {d : Nat} {Q : Option Value → St → Prop} {σ : St} (a1 : Int64) (k : J Γ l d mJ7_fill_d0a16 Q 0 [(0, .ref 54), (1, .long a1)] [] σ) : Meth Γ l d mJ7_fill_d0a16 [.ref 54, .long a1] σ Q := Meth_of_J (by decide +kernel) (fun _ => Nat.le_of_ble_eq_true rfl) (fun _ => rfl) k
set_option maxHeartbeats 4000000 in
set_option maxRecDepth 100000 in
theorem w_J7_fill_53178_43_5 {Γ : GG} {l : Launch} {d : Nat} {Q : Option Value → St → Prop} {σ : St} (a1 : Int32) (a2 : Int32) (a3 : Int32) (h : (a3 ≤ a2 → Q none σ) ∧ (¬ a3 ≤ a2 → vp_in a2 1000 ∧ ∀ x2 : Int32, x2 = a2 + 1 → J Γ l d mJ7_fill_53178 Q 5 [(0, .ref 43), (1, .int a1), (2, .int x2), (3, .int a3)] [] (wr σ 43 (a2.toNatClampNeg) a1))) : J Γ l d mJ7_fill_53178 Q 5 [(0, .ref 43), (1, .int a1), (2, .int a2), (3, .int a3)] [] σ := by
  refine J_iload_n (i := 2) (kk := 2) dJ7_fill_53178_5 rfl rfl ?_
  refine J_iload_n (i := 3) (kk := 3) dJ7_fill_53178_6 rfl rfl ?_
  refine J_icmp_ge 20 dJ7_fill_53178_7 (by decide) (fun hc => ?_) (fun hc => ?_)
  · replace h := h.1 hc
    exact J_vret rfl dJ7_fill_53178_20 h
  · replace h := h.2 hc
    refine J_aload_n (i := 0) (kk := 0) dJ7_fill_53178_10 rfl rfl ?_
    refine J_iload_n (i := 2) (kk := 2) dJ7_fill_53178_11 rfl rfl ?_
    refine J_iload_n (i := 1) (kk := 1) dJ7_fill_53178_12 rfl rfl ?_
    have b1 := h.1
    replace h := h.2
    refine J_ast (a2.toNatClampNeg) rfl (by decide) rfl b1 dJ7_fill_53178_13 ?_
    obtain ⟨x2, ex2⟩ : ∃ y : Int32, y = a2 + 1 := ⟨_, rfl⟩
    replace h := h x2 ex2
    refine J_iinc (i := 2) (kk := 2) (v := x2) (lv' := [(2, .int x2), (0, .ref 43), (1, .int a1), (3, .int a3)]) dJ7_fill_53178_14 rfl (by rw [ex2]; rfl) (by decide) rfl ?_
    refine J_goto (tgt := 5) dJ7_fill_53178_17 (by decide) ?_
    refine J_sub [1, 2, 0, 3] rfl ?_
    exact h
set_option maxHeartbeats 4000000 in
set_option maxRecDepth 100000 in
theorem w_J7_fill_53178_43_0 {Γ : GG} {l : Launch} {d : Nat} {Q : Option Value → St → Prop} {σ : St} (a1 : Int32) (h : J Γ l d mJ7_fill_53178 Q 5 [(0, .ref 43), (1, .int a1), (2, .int (0)), (3, .int (1000))] [] σ) : J Γ l d mJ7_fill_53178 Q 0 [(0, .ref 43), (1, .int a1)] [] σ := by
  refine J_iconst (v := 0) dJ7_fill_53178_0 (by decide) ?_
  refine J_istore_n (i := 2) (lv' := [(2, .int (0)), (0, .ref 43), (1, .int a1)]) dJ7_fill_53178_1 rfl (by decide) rfl ?_
  refine J_aload_n (i := 0) (kk := 1) dJ7_fill_53178_2 rfl rfl ?_
  refine J_alen (v := 1000) (by decide) rfl (by decide) (by decide) dJ7_fill_53178_3 ?_
  refine J_istore_n (i := 3) (lv' := [(3, .int (1000)), (2, .int (0)), (0, .ref 43), (1, .int a1)]) dJ7_fill_53178_4 rfl (by decide) rfl ?_
  refine J_sub [2, 3, 1, 0] rfl ?_
  exact h
theorem M_J7_fill_53178_43 {Γ : GG} {l : Launch} {d : Nat} {Q : Option Value → St → Prop} {σ : St} (a1 : Int32) (k : J Γ l d mJ7_fill_53178 Q 0 [(0, .ref 43), (1, .int a1)] [] σ) : Meth Γ l d mJ7_fill_53178 [.ref 43, .int a1] σ Q := Meth_of_J (by decide +kernel) (fun _ => Nat.le_of_ble_eq_true rfl) (fun _ => rfl) k
set_option maxHeartbeats 4000000 in
set_option maxRecDepth 100000 in
theorem w_J7_fill_53178_47_5 {Γ : GG} {l : Launch} {d : Nat} {Q : Option Value → St → Prop} {σ : St} (a1 : Int32) (a2 : Int32) (a3 : Int32) (h : (a3 ≤ a2 → Q none σ) ∧ (¬ a3 ≤ a2 → vp_in a2 14 ∧ ∀ x2 : Int32, x2 = a2 + 1 → J Γ l d mJ7_fill_53178 Q 5 [(0, .ref 47), (1, .int a1), (2, .int x2), (3, .int a3)] [] (wr σ 47 (a2.toNatClampNeg) a1))) : J Γ l d mJ7_fill_53178 Q 5 [(0, .ref 47), (1, .int a1), (2, .int a2), (3, .int a3)] [] σ := by
  refine J_iload_n (i := 2) (kk := 2) dJ7_fill_53178_5 rfl rfl ?_
  refine J_iload_n (i := 3) (kk := 3) dJ7_fill_53178_6 rfl rfl ?_
  refine J_icmp_ge 20 dJ7_fill_53178_7 (by decide) (fun hc => ?_) (fun hc => ?_)
  · replace h := h.1 hc
    exact J_vret rfl dJ7_fill_53178_20 h
  · replace h := h.2 hc
    refine J_aload_n (i := 0) (kk := 0) dJ7_fill_53178_10 rfl rfl ?_
    refine J_iload_n (i := 2) (kk := 2) dJ7_fill_53178_11 rfl rfl ?_
    refine J_iload_n (i := 1) (kk := 1) dJ7_fill_53178_12 rfl rfl ?_
    have b1 := h.1
    replace h := h.2
    refine J_ast (a2.toNatClampNeg) rfl (by decide) rfl b1 dJ7_fill_53178_13 ?_
    obtain ⟨x2, ex2⟩ : ∃ y : Int32, y = a2 + 1 := ⟨_, rfl⟩
    replace h := h x2 ex2
    refine J_iinc (i := 2) (kk := 2) (v := x2) (lv' := [(2, .int x2), (0, .ref 47), (1, .int a1), (3, .int a3)]) dJ7_fill_53178_14 rfl (by rw [ex2]; rfl) (by decide) rfl ?_
    refine J_goto (tgt := 5) dJ7_fill_53178_17 (by decide) ?_
    refine J_sub [1, 2, 0, 3] rfl ?_
    exact h
set_option maxHeartbeats 4000000 in
set_option maxRecDepth 100000 in
theorem w_J7_fill_53178_47_0 {Γ : GG} {l : Launch} {d : Nat} {Q : Option Value → St → Prop} {σ : St} (a1 : Int32) (h : J Γ l d mJ7_fill_53178 Q 5 [(0, .ref 47), (1, .int a1), (2, .int (0)), (3, .int (14))] [] σ) : J Γ l d mJ7_fill_53178 Q 0 [(0, .ref 47), (1, .int a1)] [] σ := by
  refine J_iconst (v := 0) dJ7_fill_53178_0 (by decide) ?_
  refine J_istore_n (i := 2) (lv' := [(2, .int (0)), (0, .ref 47), (1, .int a1)]) dJ7_fill_53178_1 rfl (by decide) rfl ?_
  refine J_aload_n (i := 0) (kk := 1) dJ7_fill_53178_2 rfl rfl ?_
  refine J_alen (v := 14) (by decide) rfl (by decide) (by decide) dJ7_fill_53178_3 ?_
  refine J_istore_n (i := 3) (lv' := [(3, .int (14)), (2, .int (0)), (0, .ref 47), (1, .int a1)]) dJ7_fill_53178_4 rfl (by decide) rfl ?_
  refine J_sub [2, 3, 1, 0] rfl ?_
  exact h
theorem M_J7_fill_53178_47 {Γ : GG} {l : Launch} {d : Nat} {Q : Option Value → St → Prop} {σ : St} (a1 : Int32) (k : J Γ l d mJ7_fill_53178 Q 0 [(0, .ref 47), (1, .int a1)] [] σ) : Meth Γ l d mJ7_fill_53178 [.ref 47, .int a1] σ Q := Meth_of_J (by decide +kernel) (fun _ => Nat.le_of_ble_eq_true rfl) (fun _ => rfl) k

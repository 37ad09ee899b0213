set_option maxHeartbeats 4000000 in
set_option maxRecDepth 100000 in
theorem w_X11_isFrom_0 {Γ : GG} {l : Launch} {d : Nat} {Q : Option Value → St → Prop} {σ : St} (a0 : Int32) (a1 : Int32) (a2 : Int32) (h : (a1 < a0 → Q (some (.int (0))) σ) ∧ (¬ a1 < a0 → (a2 < a1 → Q (some (.int (0))) σ) ∧ (¬ a2 < a1 → Q (some (.int (1))) σ))) : J Γ l d mX11_isFrom Q 0 [(0, .int a0), (1, .int a1), (2, .int a2)] [] σ := by
  refine J_iload_n (i := 1) (kk := 1) dX11_isFrom_0 rfl rfl ?_
  refine J_iload_n (i := 0) (kk := 0) dX11_isFrom_1 rfl rfl ?_
  refine J_icmp_lt 14 dX11_isFrom_2 (by decide) (fun hc => ?_) (fun hc => ?_)
  · replace h := h.1 hc
    refine J_iconst (v := 0) dX11_isFrom_14 (by decide) ?_
    exact J_zret rfl (by decide) dX11_isFrom_15 h
  · replace h := h.2 hc
    refine J_iload_n (i := 1) (kk := 1) dX11_isFrom_5 rfl rfl ?_
    refine J_iload_n (i := 2) (kk := 2) dX11_isFrom_6 rfl rfl ?_
    refine J_icmp_gt 14 dX11_isFrom_7 (by decide) (fun hc => ?_) (fun hc => ?_)
    · replace h := h.1 hc
      refine J_iconst (v := 0) dX11_isFrom_14 (by decide) ?_
      exact J_zret rfl (by decide) dX11_isFrom_15 h
    · replace h := h.2 hc
      refine J_iconst (v := 1) dX11_isFrom_10 (by decide) ?_
      refine J_goto (tgt := 15) dX11_isFrom_11 (by decide) ?_
      exact J_zret rfl (by decide) dX11_isFrom_15 h
theorem M_X11_isFrom {Γ : GG} {l : Launch} {d : Nat} {Q : Option Value → St → Prop} {σ : St} (a0 : Int32) (a1 : Int32) (a2 : Int32) (k : J Γ l d mX11_isFrom Q 0 [(0, .int a0), (1, .int a1), (2, .int a2)] [] σ) : Meth Γ l d mX11_isFrom [.int a0, .int a1, .int a2] σ Q := Meth_of_J (by decide +kernel) (fun _ => Nat.le_of_ble_eq_true rfl) (fun _ => rfl) k
set_option maxHeartbeats 4000000 in
set_option maxRecDepth 100000 in
theorem w_X8_has_8 {Γ : GG} {l : Launch} {d : Nat} {Q : Option Value → St → Prop} {σ : St} (a1 : Int32) (a2 : Int32) (a3 : Int32) (a4 : Int32) (h : (a4 < (0 : Int32) → Q (some (.int (0))) σ) ∧ (¬ a4 < (0 : Int32) → vp_in a4 600 ∧ (rd σ 37 (a4.toNatClampNeg) = a3 → (rd σ 35 (a4.toNatClampNeg) = a1 → (rd σ 36 (a4.toNatClampNeg) = a2 → Q (some (.int (1))) σ) ∧ (¬ rd σ 36 (a4.toNatClampNeg) = a2 → ∀ x3 : Int32, x3 = a4 + (-1) → J Γ l d mX8_has Q 8 [(0, .ref 34), (1, .int a1), (2, .int a2), (3, .int a3), (4, .int x3)] [] σ)) ∧ (¬ rd σ 35 (a4.toNatClampNeg) = a1 → ∀ x2 : Int32, x2 = a4 + (-1) → J Γ l d mX8_has Q 8 [(0, .ref 34), (1, .int a1), (2, .int a2), (3, .int a3), (4, .int x2)] [] σ)) ∧ (¬ rd σ 37 (a4.toNatClampNeg) = a3 → Q (some (.int (0))) σ))) : J Γ l d mX8_has Q 8 [(0, .ref 34), (1, .int a1), (2, .int a2), (3, .int a3), (4, .int a4)] [] σ := by
  refine J_iload (i := 4) (kk := 4) dX8_has_8 rfl ?_
  refine J_if_lt 54 dX8_has_10 (by decide) (fun hc => ?_) (fun hc => ?_)
  · replace h := h.1 hc
    refine J_iconst (v := 0) dX8_has_54 (by decide) ?_
    exact J_zret rfl (by decide) dX8_has_55 h
  · replace h := h.2 hc
    refine J_aload_n (i := 0) (kk := 0) dX8_has_13 rfl rfl ?_
    refine J_getR 37 (q := 34) (ci := 8) (kf := 2) kfX8_18 uxX8 rfl (by decide) rfl (by decide) rfl dX8_has_14 ?_
    refine J_iload (i := 4) (kk := 4) dX8_has_17 rfl ?_
    have b1 := h.1
    replace h := h.2
    refine J_ald (a4.toNatClampNeg) rfl (by decide) rfl b1 dX8_has_19 ?_
    refine J_iload_n (i := 3) (kk := 3) dX8_has_20 rfl rfl ?_
    refine J_icmp_ne 54 dX8_has_21 (by decide) (fun hc => ?_) (fun hc => ?_)
    · replace h := h.2 hc
      refine J_iconst (v := 0) dX8_has_54 (by decide) ?_
      exact J_zret rfl (by decide) dX8_has_55 h
    · replace h := h.1 hc
      refine J_aload_n (i := 0) (kk := 0) dX8_has_24 rfl rfl ?_
      refine J_getR 35 (q := 34) (ci := 8) (kf := 0) kfX8_9 uxX8 rfl (by decide) rfl (by decide) rfl dX8_has_25 ?_
      refine J_iload (i := 4) (kk := 4) dX8_has_28 rfl ?_
      refine J_ald (a4.toNatClampNeg) rfl (by decide) rfl b1 dX8_has_30 ?_
      refine J_iload_n (i := 1) (kk := 1) dX8_has_31 rfl rfl ?_
      refine J_icmp_ne 48 dX8_has_32 (by decide) (fun hc => ?_) (fun hc => ?_)
      · replace h := h.2 hc
        obtain ⟨x2, ex2⟩ : ∃ y : Int32, y = a4 + (-1) := ⟨_, rfl⟩
        replace h := h x2 ex2
        refine J_iinc (i := 4) (kk := 4) (v := x2) (lv' := [(4, .int x2), (0, .ref 34), (1, .int a1), (2, .int a2), (3, .int a3)]) dX8_has_48 rfl (by rw [ex2]; rfl) (by decide) rfl ?_
        refine J_goto (tgt := 8) dX8_has_51 (by decide) ?_
        refine J_sub [1, 2, 3, 4, 0] rfl ?_
        exact h
      · replace h := h.1 hc
        refine J_aload_n (i := 0) (kk := 0) dX8_has_35 rfl rfl ?_
        refine J_getR 36 (q := 34) (ci := 8) (kf := 1) kfX8_15 uxX8 rfl (by decide) rfl (by decide) rfl dX8_has_36 ?_
        refine J_iload (i := 4) (kk := 4) dX8_has_39 rfl ?_
        refine J_ald (a4.toNatClampNeg) rfl (by decide) rfl b1 dX8_has_41 ?_
        refine J_iload_n (i := 2) (kk := 2) dX8_has_42 rfl rfl ?_
        refine J_icmp_ne 48 dX8_has_43 (by decide) (fun hc => ?_) (fun hc => ?_)
        · replace h := h.2 hc
          obtain ⟨x3, ex3⟩ : ∃ y : Int32, y = a4 + (-1) := ⟨_, rfl⟩
          replace h := h x3 ex3
          refine J_iinc (i := 4) (kk := 4) (v := x3) (lv' := [(4, .int x3), (0, .ref 34), (1, .int a1), (2, .int a2), (3, .int a3)]) dX8_has_48 rfl (by rw [ex3]; rfl) (by decide) rfl ?_
          refine J_goto (tgt := 8) dX8_has_51 (by decide) ?_
          refine J_sub [1, 2, 3, 4, 0] rfl ?_
          exact h
        · replace h := h.1 hc
          refine J_iconst (v := 1) dX8_has_46 (by decide) ?_
          exact J_zret rfl (by decide) dX8_has_47 h
set_option maxHeartbeats 4000000 in
set_option maxRecDepth 100000 in
theorem w_X8_has_0 {Γ : GG} {l : Launch} {d : Nat} {Q : Option Value → St → Prop} {σ : St} (a1 : Int32) (a2 : Int32) (a3 : Int32) (h : J Γ l d mX8_has Q 8 [(0, .ref 34), (1, .int a1), (2, .int a2), (3, .int a3), (4, .int ((rd σ 34 7) - (1 : Int32)))] [] σ) : J Γ l d mX8_has Q 0 [(0, .ref 34), (1, .int a1), (2, .int a2), (3, .int a3)] [] σ := by
  refine J_aload_n (i := 0) (kk := 0) dX8_has_0 rfl rfl ?_
  refine J_getI (q := 34) (ci := 8) (kf := 7) kfX8_33 uxX8 rfl (by decide) rfl (by decide) rfl dX8_has_1 ?_
  refine J_iconst (v := 1) dX8_has_4 (by decide) ?_
  refine J_isub dX8_has_5 ?_
  refine J_istore (i := 4) (lv' := [(4, .int ((rd σ 34 7) - (1 : Int32))), (0, .ref 34), (1, .int a1), (2, .int a2), (3, .int a3)]) dX8_has_6 (by decide) rfl ?_
  refine J_sub [1, 2, 3, 4, 0] rfl ?_
  exact h
theorem M_X8_has {Γ : GG} {l : Launch} {d : Nat} {Q : Option Value → St → Prop} {σ : St} (a1 : Int32) (a2 : Int32) (a3 : Int32) (k : J Γ l d mX8_has Q 0 [(0, .ref 34), (1, .int a1), (2, .int a2), (3, .int a3)] [] σ) : Meth Γ l d mX8_has [.ref 34, .int a1, .int a2, .int a3] σ Q := Meth_of_J (by decide +kernel) (fun _ => Nat.le_of_ble_eq_true rfl) (fun _ => rfl) k
set_option maxHeartbeats 4000000 in
set_option maxRecDepth 100000 in
theorem w_X0_addToLine_16 {Γ : GG} {l : Launch} {d : Nat} {Q : Option Value → St → Prop} {σ : St} (a1 : Int32) (a2 : Int32) (h : (a2 ≤ (0 : Int32) → vp_in a2 200 ∧ Q none (wr (wr σ 19 (a2.toNatClampNeg) a1) 17 3 ((rd σ 17 3) + (1 : Int32)))) ∧ (¬ a2 ≤ (0 : Int32) → vp_in (a2 - (1 : Int32)) 200 ∧ vp_in (rd σ 19 ((a2 - (1 : Int32)).toNatClampNeg)) 200 ∧ vp_in a1 200 ∧ (rd σ (((rd σ 19 ((a2 - (1 : Int32)).toNatClampNeg)).toNatClampNeg) + 142) 3 ≤ rd σ ((a1.toNatClampNeg) + 142) 3 → vp_in a2 200 ∧ Q none (wr (wr σ 19 (a2.toNatClampNeg) a1) 17 3 ((rd σ 17 3) + (1 : Int32)))) ∧ (¬ rd σ (((rd σ 19 ((a2 - (1 : Int32)).toNatClampNeg)).toNatClampNeg) + 142) 3 ≤ rd σ ((a1.toNatClampNeg) + 142) 3 → vp_in a2 200 ∧ ∀ x7 : Int32, x7 = a2 + (-1) → J Γ l d mX0_addToLine Q 16 [(0, .ref 17), (1, .int a1), (2, .int x7)] [] (wr σ 19 (a2.toNatClampNeg) (rd σ 19 ((a2 - (1 : Int32)).toNatClampNeg)))))) : J Γ l d mX0_addToLine Q 16 [(0, .ref 17), (1, .int a1), (2, .int a2)] [] σ := by
  refine J_iload_n (i := 2) (kk := 2) dX0_addToLine_16 rfl rfl ?_
  refine J_if_le 66 dX0_addToLine_17 (by decide) (fun hc => ?_) (fun hc => ?_)
  · replace h := h.1 hc
    refine J_aload_n (i := 0) (kk := 0) dX0_addToLine_66 rfl rfl ?_
    refine J_getR 19 (q := 17) (ci := 0) (kf := 2) kfX0_20 uxX0 rfl (by decide) rfl (by decide) rfl dX0_addToLine_67 ?_
    refine J_iload_n (i := 2) (kk := 2) dX0_addToLine_70 rfl rfl ?_
    refine J_iload_n (i := 1) (kk := 1) dX0_addToLine_71 rfl rfl ?_
    have b1 := h.1
    replace h := h.2
    refine J_ast (a2.toNatClampNeg) rfl (by decide) rfl b1 dX0_addToLine_72 ?_
    refine J_aload_n (i := 0) (kk := 0) dX0_addToLine_73 rfl rfl ?_
    refine J_dup dX0_addToLine_74 rfl ?_
    refine J_getI (q := 17) (ci := 0) (kf := 3) kfX0_24 uxX0 rfl (by decide) rfl (by decide) rfl dX0_addToLine_75 ?_
    refine J_eqI (y := rd σ 17 3) rfl ?_
    refine J_iconst (v := 1) dX0_addToLine_78 (by decide) ?_
    refine J_iadd dX0_addToLine_79 ?_
    refine J_putf (q := 17) (ci := 0) (kf := 3) (ty := .int) kfX0_24 uxX0 tyX0_ok nmX0 rfl (by decide) rfl (by decide) rfl rfl rfl rfl rfl dX0_addToLine_80 ?_
    exact J_vret rfl dX0_addToLine_83 h
  · replace h := h.2 hc
    refine J_aload_n (i := 0) (kk := 0) dX0_addToLine_20 rfl rfl ?_
    refine J_getR 18 (q := 17) (ci := 0) (kf := 0) kfX0_11 uxX0 rfl (by decide) rfl (by decide) rfl dX0_addToLine_21 ?_
    refine J_aload_n (i := 0) (kk := 0) dX0_addToLine_24 rfl rfl ?_
    refine J_getR 19 (q := 17) (ci := 0) (kf := 2) kfX0_20 uxX0 rfl (by decide) rfl (by decide) rfl dX0_addToLine_25 ?_
    refine J_iload_n (i := 2) (kk := 2) dX0_addToLine_28 rfl rfl ?_
    refine J_iconst (v := 1) dX0_addToLine_29 (by decide) ?_
    refine J_isub dX0_addToLine_30 ?_
    have b2 := h.1
    replace h := h.2
    refine J_ald ((a2 - (1 : Int32)).toNatClampNeg) rfl (by decide) rfl b2 dX0_addToLine_31 ?_
    have b3 := h.1
    replace h := h.2
    refine J_aald2 ((rd σ 19 ((a2 - (1 : Int32)).toNatClampNeg)).toNatClampNeg) rfl (by decide) rfl b3 dX0_addToLine_32 ?_
    refine J_iconst (v := 3) dX0_addToLine_33 (by decide) ?_
    refine J_ald 3 (by decide) (nc_row142 (vp_lt b3)) (sk_row142 (vp_lt b3)) (by unfold vp_in; decide) dX0_addToLine_34 ?_
    refine J_aload_n (i := 0) (kk := 0) dX0_addToLine_35 rfl rfl ?_
    refine J_getR 18 (q := 17) (ci := 0) (kf := 0) kfX0_11 uxX0 rfl (by decide) rfl (by decide) rfl dX0_addToLine_36 ?_
    refine J_iload_n (i := 1) (kk := 1) dX0_addToLine_39 rfl rfl ?_
    have b4 := h.1
    replace h := h.2
    refine J_aald2 (a1.toNatClampNeg) rfl (by decide) rfl b4 dX0_addToLine_40 ?_
    refine J_iconst (v := 3) dX0_addToLine_41 (by decide) ?_
    refine J_ald 3 (by decide) (nc_row142 (vp_lt b4)) (sk_row142 (vp_lt b4)) (by unfold vp_in; decide) dX0_addToLine_42 ?_
    refine J_icmp_le 66 dX0_addToLine_43 (by decide) (fun hc => ?_) (fun hc => ?_)
    · replace h := h.1 hc
      refine J_aload_n (i := 0) (kk := 0) dX0_addToLine_66 rfl rfl ?_
      refine J_getR 19 (q := 17) (ci := 0) (kf := 2) kfX0_20 uxX0 rfl (by decide) rfl (by decide) rfl dX0_addToLine_67 ?_
      refine J_iload_n (i := 2) (kk := 2) dX0_addToLine_70 rfl rfl ?_
      refine J_iload_n (i := 1) (kk := 1) dX0_addToLine_71 rfl rfl ?_
      have b5 := h.1
      replace h := h.2
      refine J_ast (a2.toNatClampNeg) rfl (by decide) rfl b5 dX0_addToLine_72 ?_
      refine J_aload_n (i := 0) (kk := 0) dX0_addToLine_73 rfl rfl ?_
      refine J_dup dX0_addToLine_74 rfl ?_
      refine J_getI (q := 17) (ci := 0) (kf := 3) kfX0_24 uxX0 rfl (by decide) rfl (by decide) rfl dX0_addToLine_75 ?_
      refine J_eqI (y := rd σ 17 3) rfl ?_
      refine J_iconst (v := 1) dX0_addToLine_78 (by decide) ?_
      refine J_iadd dX0_addToLine_79 ?_
      refine J_putf (q := 17) (ci := 0) (kf := 3) (ty := .int) kfX0_24 uxX0 tyX0_ok nmX0 rfl (by decide) rfl (by decide) rfl rfl rfl rfl rfl dX0_addToLine_80 ?_
      exact J_vret rfl dX0_addToLine_83 h
    · replace h := h.2 hc
      refine J_aload_n (i := 0) (kk := 0) dX0_addToLine_46 rfl rfl ?_
      refine J_getR 19 (q := 17) (ci := 0) (kf := 2) kfX0_20 uxX0 rfl (by decide) rfl (by decide) rfl dX0_addToLine_47 ?_
      refine J_iload_n (i := 2) (kk := 2) dX0_addToLine_50 rfl rfl ?_
      refine J_aload_n (i := 0) (kk := 0) dX0_addToLine_51 rfl rfl ?_
      refine J_getR 19 (q := 17) (ci := 0) (kf := 2) kfX0_20 uxX0 rfl (by decide) rfl (by decide) rfl dX0_addToLine_52 ?_
      refine J_iload_n (i := 2) (kk := 2) dX0_addToLine_55 rfl rfl ?_
      refine J_iconst (v := 1) dX0_addToLine_56 (by decide) ?_
      refine J_isub dX0_addToLine_57 ?_
      refine J_ald ((a2 - (1 : Int32)).toNatClampNeg) rfl (by decide) rfl b2 dX0_addToLine_58 ?_
      have b6 := h.1
      replace h := h.2
      refine J_ast (a2.toNatClampNeg) rfl (by decide) rfl b6 dX0_addToLine_59 ?_
      obtain ⟨x7, ex7⟩ : ∃ y : Int32, y = a2 + (-1) := ⟨_, rfl⟩
      replace h := h x7 ex7
      refine J_iinc (i := 2) (kk := 2) (v := x7) (lv' := [(2, .int x7), (0, .ref 17), (1, .int a1)]) dX0_addToLine_60 rfl (by rw [ex7]; rfl) (by decide) rfl ?_
      refine J_goto (tgt := 16) dX0_addToLine_63 (by decide) ?_
      refine J_sub [1, 2, 0] rfl ?_
      exact h
set_option maxHeartbeats 4000000 in
set_option maxRecDepth 100000 in
theorem w_X0_addToLine_0 {Γ : GG} {l : Launch} {d : Nat} {Q : Option Value → St → Prop} {σ : St} (a1 : Int32) (h : (rd σ 17 3 < (200 : Int32) → J Γ l d mX0_addToLine Q 16 [(0, .ref 17), (1, .int a1), (2, .int (rd σ 17 3))] [] σ) ∧ (¬ rd σ 17 3 < (200 : Int32) → Q none σ)) : J Γ l d mX0_addToLine Q 0 [(0, .ref 17), (1, .int a1)] [] σ := by
  refine J_aload_n (i := 0) (kk := 0) dX0_addToLine_0 rfl rfl ?_
  refine J_getI (q := 17) (ci := 0) (kf := 3) kfX0_24 uxX0 rfl (by decide) rfl (by decide) rfl dX0_addToLine_1 ?_
  refine J_sipush (v := 200) dX0_addToLine_4 (by decide) ?_
  refine J_icmp_lt 11 dX0_addToLine_7 (by decide) (fun hc => ?_) (fun hc => ?_)
  · replace h := h.1 hc
    refine J_aload_n (i := 0) (kk := 0) dX0_addToLine_11 rfl rfl ?_
    refine J_getI (q := 17) (ci := 0) (kf := 3) kfX0_24 uxX0 rfl (by decide) rfl (by decide) rfl dX0_addToLine_12 ?_
    refine J_istore_n (i := 2) (lv' := [(2, .int (rd σ 17 3)), (0, .ref 17), (1, .int a1)]) dX0_addToLine_15 rfl (by decide) rfl ?_
    refine J_sub [1, 2, 0] rfl ?_
    exact h
  · replace h := h.2 hc
    exact J_vret rfl dX0_addToLine_10 h
theorem M_X0_addToLine {Γ : GG} {l : Launch} {d : Nat} {Q : Option Value → St → Prop} {σ : St} (a1 : Int32) (k : J Γ l d mX0_addToLine Q 0 [(0, .ref 17), (1, .int a1)] [] σ) : Meth Γ l d mX0_addToLine [.ref 17, .int a1] σ Q := Meth_of_J (by decide +kernel) (fun _ => Nat.le_of_ble_eq_true rfl) (fun _ => rfl) k
set_option maxHeartbeats 4000000 in
set_option maxRecDepth 100000 in
theorem w_X8_foretell_159 {Γ : GG} {l : Launch} {d : Nat} {Q : Option Value → St → Prop} {σ : St} (a7 : Int32) (a8 : Int32) (a9 : Int32) (a10 : Int32) (a11 : Int32) (a12 : Int32) (h : (a7 < (3 : Int32) → (a9 < (3 : Int32) → Meth Γ l d mX8_mean [.int a12, .int a11] σ (KI (fun x2 σ1 => Q (some (.int x2)) σ1))) ∧ (¬ a9 < (3 : Int32) → Meth Γ l d mX8_mean [.int a10, .int a9] σ (KI (fun x4 σ3 => Q (some (.int x4)) σ3)))) ∧ (¬ a7 < (3 : Int32) → Meth Γ l d mX8_mean [.int a8, .int a7] σ (KI (fun x6 σ5 => Q (some (.int x6)) σ5)))) : J Γ l (d + 1) mX8_foretell Q 159 [(7, .int a7), (8, .int a8), (9, .int a9), (10, .int a10), (11, .int a11), (12, .int a12)] [] σ := by
  refine J_iload (i := 7) (kk := 0) dX8_foretell_159 rfl ?_
  refine J_iconst (v := 3) dX8_foretell_161 (by decide) ?_
  refine J_icmp_lt 173 dX8_foretell_162 (by decide) (fun hc => ?_) (fun hc => ?_)
  · replace h := h.1 hc
    refine J_iload (i := 9) (kk := 2) dX8_foretell_173 rfl ?_
    refine J_iconst (v := 3) dX8_foretell_175 (by decide) ?_
    refine J_icmp_lt 189 dX8_foretell_176 (by decide) (fun hc => ?_) (fun hc => ?_)
    · replace h := h.1 hc
      refine J_iload (i := 12) (kk := 5) dX8_foretell_189 rfl ?_
      refine J_iload (i := 11) (kk := 4) dX8_foretell_191 rfl ?_
      refine J_callS [.int a12, .int a11] [] calX8_mean klX8_46 rfl rfl (Nat.le_of_ble_eq_true rfl) dX8_foretell_193 (KI.to h ?_)
      clear h
      intro x2 σ1 h
      exact J_iret rfl dX8_foretell_196 h
    · replace h := h.2 hc
      refine J_iload (i := 10) (kk := 3) dX8_foretell_179 rfl ?_
      refine J_iload (i := 9) (kk := 2) dX8_foretell_181 rfl ?_
      refine J_callS [.int a10, .int a9] [] calX8_mean klX8_46 rfl rfl (Nat.le_of_ble_eq_true rfl) dX8_foretell_183 (KI.to h ?_)
      clear h
      intro x4 σ3 h
      refine J_goto (tgt := 196) dX8_foretell_186 (by decide) ?_
      exact J_iret rfl dX8_foretell_196 h
  · replace h := h.2 hc
    refine J_iload (i := 8) (kk := 1) dX8_foretell_165 rfl ?_
    refine J_iload (i := 7) (kk := 0) dX8_foretell_167 rfl ?_
    refine J_callS [.int a8, .int a7] [] calX8_mean klX8_46 rfl rfl (Nat.le_of_ble_eq_true rfl) dX8_foretell_169 (KI.to h ?_)
    clear h
    intro x6 σ5 h
    exact J_iret rfl dX8_foretell_172 h
set_option maxHeartbeats 4000000 in
set_option maxRecDepth 100000 in
theorem w_X8_foretell_21 {Γ : GG} {l : Launch} {d : Nat} {Q : Option Value → St → Prop} {σ : St} (a1 : Int32) (a2 : Int32) (a3 : Int32) (a4 : Int32) (a5 : Int32) (a6 : Int32) (a7 : Int32) (a8 : Int32) (a9 : Int32) (a10 : Int32) (a11 : Int32) (a12 : Int32) (a13 : Int32) (h : (rd σ 34 7 ≤ a13 → J Γ l (d + 1) mX8_foretell Q 159 [(7, .int a7), (8, .int a8), (9, .int a9), (10, .int a10), (11, .int a11), (12, .int a12)] [] σ) ∧ (¬ rd σ 34 7 ≤ a13 → vp_in a13 600 ∧ (a6 < (rd σ 37 (a13.toNatClampNeg)) / (24 : Int32) → J Γ l (d + 1) mX8_foretell Q 159 [(7, .int a7), (8, .int a8), (9, .int a9), (10, .int a10), (11, .int a11), (12, .int a12)] [] σ) ∧ (¬ a6 < (rd σ 37 (a13.toNatClampNeg)) / (24 : Int32) → (rd σ 36 (a13.toNatClampNeg) = a2 → ((rd σ 37 (a13.toNatClampNeg)) - (rd σ 37 (a13.toNatClampNeg)) / (24 : Int32) * (24 : Int32) = a3 → (rd σ 38 (a13.toNatClampNeg) = a4 → ∀ x4 : Int32, x4 = a11 + 1 → ∀ x5 : Int32, x5 = a12 + (rd σ 40 (a13.toNatClampNeg)) → (rd σ 35 (a13.toNatClampNeg) = a1 → ∀ x7 : Int32, x7 = a9 + 1 → ∀ x8 : Int32, x8 = a10 + (rd σ 40 (a13.toNatClampNeg)) → (rd σ 39 (a13.toNatClampNeg) = a5 → ∀ x10 : Int32, x10 = a7 + 1 → ∀ x11 : Int32, x11 = a8 + (rd σ 40 (a13.toNatClampNeg)) → ∀ x12 : Int32, x12 = a13 + 1 → J Γ l (d + 1) mX8_foretell Q 21 [(0, .ref 34), (1, .int a1), (2, .int a2), (3, .int a3), (4, .int a4), (5, .int a5), (6, .int a6), (7, .int x10), (8, .int x11), (9, .int x7), (10, .int x8), (11, .int x4), (12, .int x5), (13, .int x12)] [] σ) ∧ (¬ rd σ 39 (a13.toNatClampNeg) = a5 → ∀ x9 : Int32, x9 = a13 + 1 → J Γ l (d + 1) mX8_foretell Q 21 [(0, .ref 34), (1, .int a1), (2, .int a2), (3, .int a3), (4, .int a4), (5, .int a5), (6, .int a6), (7, .int a7), (8, .int a8), (9, .int x7), (10, .int x8), (11, .int x4), (12, .int x5), (13, .int x9)] [] σ)) ∧ (¬ rd σ 35 (a13.toNatClampNeg) = a1 → ∀ x6 : Int32, x6 = a13 + 1 → J Γ l (d + 1) mX8_foretell Q 21 [(0, .ref 34), (1, .int a1), (2, .int a2), (3, .int a3), (4, .int a4), (5, .int a5), (6, .int a6), (7, .int a7), (8, .int a8), (9, .int a9), (10, .int a10), (11, .int x4), (12, .int x5), (13, .int x6)] [] σ)) ∧ (¬ rd σ 38 (a13.toNatClampNeg) = a4 → ∀ x13 : Int32, x13 = a13 + 1 → J Γ l (d + 1) mX8_foretell Q 21 [(0, .ref 34), (1, .int a1), (2, .int a2), (3, .int a3), (4, .int a4), (5, .int a5), (6, .int a6), (7, .int a7), (8, .int a8), (9, .int a9), (10, .int a10), (11, .int a11), (12, .int a12), (13, .int x13)] [] σ)) ∧ (¬ (rd σ 37 (a13.toNatClampNeg)) - (rd σ 37 (a13.toNatClampNeg)) / (24 : Int32) * (24 : Int32) = a3 → ∀ x3 : Int32, x3 = a13 + 1 → J Γ l (d + 1) mX8_foretell Q 21 [(0, .ref 34), (1, .int a1), (2, .int a2), (3, .int a3), (4, .int a4), (5, .int a5), (6, .int a6), (7, .int a7), (8, .int a8), (9, .int a9), (10, .int a10), (11, .int a11), (12, .int a12), (13, .int x3)] [] σ)) ∧ (¬ rd σ 36 (a13.toNatClampNeg) = a2 → ∀ x2 : Int32, x2 = a13 + 1 → J Γ l (d + 1) mX8_foretell Q 21 [(0, .ref 34), (1, .int a1), (2, .int a2), (3, .int a3), (4, .int a4), (5, .int a5), (6, .int a6), (7, .int a7), (8, .int a8), (9, .int a9), (10, .int a10), (11, .int a11), (12, .int a12), (13, .int x2)] [] σ)))) : J Γ l (d + 1) mX8_foretell Q 21 [(0, .ref 34), (1, .int a1), (2, .int a2), (3, .int a3), (4, .int a4), (5, .int a5), (6, .int a6), (7, .int a7), (8, .int a8), (9, .int a9), (10, .int a10), (11, .int a11), (12, .int a12), (13, .int a13)] [] σ := by
  refine J_iload (i := 13) (kk := 13) dX8_foretell_21 rfl ?_
  refine J_aload_n (i := 0) (kk := 0) dX8_foretell_23 rfl rfl ?_
  refine J_getI (q := 34) (ci := 8) (kf := 7) kfX8_33 uxX8 rfl (by decide) rfl (by decide) rfl dX8_foretell_24 ?_
  refine J_icmp_ge 159 dX8_foretell_27 (by decide) (fun hc => ?_) (fun hc => ?_)
  · replace h := h.1 hc
    refine J_sub [7, 8, 9, 10, 11, 12] rfl ?_
    exact h
  · replace h := h.2 hc
    refine J_aload_n (i := 0) (kk := 0) dX8_foretell_30 rfl rfl ?_
    refine J_getR 37 (q := 34) (ci := 8) (kf := 2) kfX8_18 uxX8 rfl (by decide) rfl (by decide) rfl dX8_foretell_31 ?_
    refine J_iload (i := 13) (kk := 13) dX8_foretell_34 rfl ?_
    have b1 := h.1
    replace h := h.2
    refine J_ald (a13.toNatClampNeg) rfl (by decide) rfl b1 dX8_foretell_36 ?_
    refine J_bipush (v := 24) dX8_foretell_37 (by decide) ?_
    refine J_idiv dX8_foretell_39 (by decide) ?_
    refine J_iload (i := 6) (kk := 6) dX8_foretell_40 rfl ?_
    refine J_icmp_gt 159 dX8_foretell_42 (by decide) (fun hc => ?_) (fun hc => ?_)
    · replace h := h.1 hc
      refine J_sub [7, 8, 9, 10, 11, 12] rfl ?_
      exact h
    · replace h := h.2 hc
      refine J_aload_n (i := 0) (kk := 0) dX8_foretell_45 rfl rfl ?_
      refine J_getR 36 (q := 34) (ci := 8) (kf := 1) kfX8_15 uxX8 rfl (by decide) rfl (by decide) rfl dX8_foretell_46 ?_
      refine J_iload (i := 13) (kk := 13) dX8_foretell_49 rfl ?_
      refine J_ald (a13.toNatClampNeg) rfl (by decide) rfl b1 dX8_foretell_51 ?_
      refine J_iload_n (i := 2) (kk := 2) dX8_foretell_52 rfl rfl ?_
      refine J_icmp_ne 153 dX8_foretell_53 (by decide) (fun hc => ?_) (fun hc => ?_)
      · replace h := h.2 hc
        obtain ⟨x2, ex2⟩ : ∃ y : Int32, y = a13 + 1 := ⟨_, rfl⟩
        replace h := h x2 ex2
        refine J_iinc (i := 13) (kk := 13) (v := x2) (lv' := [(13, .int x2), (0, .ref 34), (1, .int a1), (2, .int a2), (3, .int a3), (4, .int a4), (5, .int a5), (6, .int a6), (7, .int a7), (8, .int a8), (9, .int a9), (10, .int a10), (11, .int a11), (12, .int a12)]) dX8_foretell_153 rfl (by rw [ex2]; rfl) (by decide) rfl ?_
        refine J_goto (tgt := 21) dX8_foretell_156 (by decide) ?_
        refine J_sub [1, 2, 3, 4, 5, 6, 7, 8, 9, 10, 11, 12, 13, 0] rfl ?_
        exact h
      · replace h := h.1 hc
        refine J_aload_n (i := 0) (kk := 0) dX8_foretell_56 rfl rfl ?_
        refine J_getR 37 (q := 34) (ci := 8) (kf := 2) kfX8_18 uxX8 rfl (by decide) rfl (by decide) rfl dX8_foretell_57 ?_
        refine J_iload (i := 13) (kk := 13) dX8_foretell_60 rfl ?_
        refine J_ald (a13.toNatClampNeg) rfl (by decide) rfl b1 dX8_foretell_62 ?_
        refine J_bipush (v := 24) dX8_foretell_63 (by decide) ?_
        refine J_irem dX8_foretell_65 (by decide) ?_
        refine J_iload_n (i := 3) (kk := 3) dX8_foretell_66 rfl rfl ?_
        refine J_icmp_ne 153 dX8_foretell_67 (by decide) (fun hc => ?_) (fun hc => ?_)
        · replace h := h.2 hc
          obtain ⟨x3, ex3⟩ : ∃ y : Int32, y = a13 + 1 := ⟨_, rfl⟩
          replace h := h x3 ex3
          refine J_iinc (i := 13) (kk := 13) (v := x3) (lv' := [(13, .int x3), (0, .ref 34), (1, .int a1), (2, .int a2), (3, .int a3), (4, .int a4), (5, .int a5), (6, .int a6), (7, .int a7), (8, .int a8), (9, .int a9), (10, .int a10), (11, .int a11), (12, .int a12)]) dX8_foretell_153 rfl (by rw [ex3]; rfl) (by decide) rfl ?_
          refine J_goto (tgt := 21) dX8_foretell_156 (by decide) ?_
          refine J_sub [1, 2, 3, 4, 5, 6, 7, 8, 9, 10, 11, 12, 13, 0] rfl ?_
          exact h
        · replace h := h.1 hc
          refine J_aload_n (i := 0) (kk := 0) dX8_foretell_70 rfl rfl ?_
          refine J_getR 38 (q := 34) (ci := 8) (kf := 3) kfX8_21 uxX8 rfl (by decide) rfl (by decide) rfl dX8_foretell_71 ?_
          refine J_iload (i := 13) (kk := 13) dX8_foretell_74 rfl ?_
          refine J_ald (a13.toNatClampNeg) rfl (by decide) rfl b1 dX8_foretell_76 ?_
          refine J_iload (i := 4) (kk := 4) dX8_foretell_77 rfl ?_
          refine J_icmp_eq 85 dX8_foretell_79 (by decide) (fun hc => ?_) (fun hc => ?_)
          · replace h := h.1 hc
            obtain ⟨x4, ex4⟩ : ∃ y : Int32, y = a11 + 1 := ⟨_, rfl⟩
            replace h := h x4 ex4
            refine J_iinc (i := 11) (kk := 11) (v := x4) (lv' := [(11, .int x4), (0, .ref 34), (1, .int a1), (2, .int a2), (3, .int a3), (4, .int a4), (5, .int a5), (6, .int a6), (7, .int a7), (8, .int a8), (9, .int a9), (10, .int a10), (12, .int a12), (13, .int a13)]) dX8_foretell_85 rfl (by rw [ex4]; rfl) (by decide) rfl ?_
            refine J_iload (i := 12) (kk := 12) dX8_foretell_88 rfl ?_
            refine J_aload_n (i := 0) (kk := 1) dX8_foretell_90 rfl rfl ?_
            refine J_getR 40 (q := 34) (ci := 8) (kf := 5) kfX8_27 uxX8 rfl (by decide) rfl (by decide) rfl dX8_foretell_91 ?_
            refine J_iload (i := 13) (kk := 13) dX8_foretell_94 rfl ?_
            refine J_ald (a13.toNatClampNeg) rfl (by decide) rfl b1 dX8_foretell_96 ?_
            refine J_iadd dX8_foretell_97 ?_
            refine J_nameI (fun x5 ex5 => ?_)
            replace h := h x5 ex5
            refine J_istore (i := 12) (lv' := [(12, .int x5), (11, .int x4), (0, .ref 34), (1, .int a1), (2, .int a2), (3, .int a3), (4, .int a4), (5, .int a5), (6, .int a6), (7, .int a7), (8, .int a8), (9, .int a9), (10, .int a10), (13, .int a13)]) dX8_foretell_98 (by decide) rfl ?_
            refine J_aload_n (i := 0) (kk := 2) dX8_foretell_100 rfl rfl ?_
            refine J_getR 35 (q := 34) (ci := 8) (kf := 0) kfX8_9 uxX8 rfl (by decide) rfl (by decide) rfl dX8_foretell_101 ?_
            refine J_iload (i := 13) (kk := 13) dX8_foretell_104 rfl ?_
            refine J_ald (a13.toNatClampNeg) rfl (by decide) rfl b1 dX8_foretell_106 ?_
            refine J_iload_n (i := 1) (kk := 3) dX8_foretell_107 rfl rfl ?_
            refine J_icmp_ne 153 dX8_foretell_108 (by decide) (fun hc => ?_) (fun hc => ?_)
            · replace h := h.2 hc
              obtain ⟨x6, ex6⟩ : ∃ y : Int32, y = a13 + 1 := ⟨_, rfl⟩
              replace h := h x6 ex6
              refine J_iinc (i := 13) (kk := 13) (v := x6) (lv' := [(13, .int x6), (12, .int x5), (11, .int x4), (0, .ref 34), (1, .int a1), (2, .int a2), (3, .int a3), (4, .int a4), (5, .int a5), (6, .int a6), (7, .int a7), (8, .int a8), (9, .int a9), (10, .int a10)]) dX8_foretell_153 rfl (by rw [ex6]; rfl) (by decide) rfl ?_
              refine J_goto (tgt := 21) dX8_foretell_156 (by decide) ?_
              refine J_sub [3, 4, 5, 6, 7, 8, 9, 10, 11, 12, 13, 2, 1, 0] rfl ?_
              exact h
            · replace h := h.1 hc
              obtain ⟨x7, ex7⟩ : ∃ y : Int32, y = a9 + 1 := ⟨_, rfl⟩
              replace h := h x7 ex7
              refine J_iinc (i := 9) (kk := 11) (v := x7) (lv' := [(9, .int x7), (12, .int x5), (11, .int x4), (0, .ref 34), (1, .int a1), (2, .int a2), (3, .int a3), (4, .int a4), (5, .int a5), (6, .int a6), (7, .int a7), (8, .int a8), (10, .int a10), (13, .int a13)]) dX8_foretell_111 rfl (by rw [ex7]; rfl) (by decide) rfl ?_
              refine J_iload (i := 10) (kk := 12) dX8_foretell_114 rfl ?_
              refine J_aload_n (i := 0) (kk := 3) dX8_foretell_116 rfl rfl ?_
              refine J_getR 40 (q := 34) (ci := 8) (kf := 5) kfX8_27 uxX8 rfl (by decide) rfl (by decide) rfl dX8_foretell_117 ?_
              refine J_iload (i := 13) (kk := 13) dX8_foretell_120 rfl ?_
              refine J_ald (a13.toNatClampNeg) rfl (by decide) rfl b1 dX8_foretell_122 ?_
              refine J_iadd dX8_foretell_123 ?_
              refine J_nameI (fun x8 ex8 => ?_)
              replace h := h x8 ex8
              refine J_istore (i := 10) (lv' := [(10, .int x8), (9, .int x7), (12, .int x5), (11, .int x4), (0, .ref 34), (1, .int a1), (2, .int a2), (3, .int a3), (4, .int a4), (5, .int a5), (6, .int a6), (7, .int a7), (8, .int a8), (13, .int a13)]) dX8_foretell_124 (by decide) rfl ?_
              refine J_aload_n (i := 0) (kk := 4) dX8_foretell_126 rfl rfl ?_
              refine J_getR 39 (q := 34) (ci := 8) (kf := 4) kfX8_24 uxX8 rfl (by decide) rfl (by decide) rfl dX8_foretell_127 ?_
              refine J_iload (i := 13) (kk := 13) dX8_foretell_130 rfl ?_
              refine J_ald (a13.toNatClampNeg) rfl (by decide) rfl b1 dX8_foretell_132 ?_
              refine J_iload (i := 5) (kk := 9) dX8_foretell_133 rfl ?_
              refine J_icmp_ne 153 dX8_foretell_135 (by decide) (fun hc => ?_) (fun hc => ?_)
              · replace h := h.2 hc
                obtain ⟨x9, ex9⟩ : ∃ y : Int32, y = a13 + 1 := ⟨_, rfl⟩
                replace h := h x9 ex9
                refine J_iinc (i := 13) (kk := 13) (v := x9) (lv' := [(13, .int x9), (10, .int x8), (9, .int x7), (12, .int x5), (11, .int x4), (0, .ref 34), (1, .int a1), (2, .int a2), (3, .int a3), (4, .int a4), (5, .int a5), (6, .int a6), (7, .int a7), (8, .int a8)]) dX8_foretell_153 rfl (by rw [ex9]; rfl) (by decide) rfl ?_
                refine J_goto (tgt := 21) dX8_foretell_156 (by decide) ?_
                refine J_sub [5, 6, 7, 8, 9, 10, 11, 12, 13, 2, 1, 4, 3, 0] rfl ?_
                exact h
              · replace h := h.1 hc
                obtain ⟨x10, ex10⟩ : ∃ y : Int32, y = a7 + 1 := ⟨_, rfl⟩
                replace h := h x10 ex10
                refine J_iinc (i := 7) (kk := 11) (v := x10) (lv' := [(7, .int x10), (10, .int x8), (9, .int x7), (12, .int x5), (11, .int x4), (0, .ref 34), (1, .int a1), (2, .int a2), (3, .int a3), (4, .int a4), (5, .int a5), (6, .int a6), (8, .int a8), (13, .int a13)]) dX8_foretell_138 rfl (by rw [ex10]; rfl) (by decide) rfl ?_
                refine J_iload (i := 8) (kk := 12) dX8_foretell_141 rfl ?_
                refine J_aload_n (i := 0) (kk := 5) dX8_foretell_143 rfl rfl ?_
                refine J_getR 40 (q := 34) (ci := 8) (kf := 5) kfX8_27 uxX8 rfl (by decide) rfl (by decide) rfl dX8_foretell_144 ?_
                refine J_iload (i := 13) (kk := 13) dX8_foretell_147 rfl ?_
                refine J_ald (a13.toNatClampNeg) rfl (by decide) rfl b1 dX8_foretell_149 ?_
                refine J_iadd dX8_foretell_150 ?_
                refine J_nameI (fun x11 ex11 => ?_)
                replace h := h x11 ex11
                refine J_istore (i := 8) (lv' := [(8, .int x11), (7, .int x10), (10, .int x8), (9, .int x7), (12, .int x5), (11, .int x4), (0, .ref 34), (1, .int a1), (2, .int a2), (3, .int a3), (4, .int a4), (5, .int a5), (6, .int a6), (13, .int a13)]) dX8_foretell_151 (by decide) rfl ?_
                obtain ⟨x12, ex12⟩ : ∃ y : Int32, y = a13 + 1 := ⟨_, rfl⟩
                replace h := h x12 ex12
                refine J_iinc (i := 13) (kk := 13) (v := x12) (lv' := [(13, .int x12), (8, .int x11), (7, .int x10), (10, .int x8), (9, .int x7), (12, .int x5), (11, .int x4), (0, .ref 34), (1, .int a1), (2, .int a2), (3, .int a3), (4, .int a4), (5, .int a5), (6, .int a6)]) dX8_foretell_153 rfl (by rw [ex12]; rfl) (by decide) rfl ?_
                refine J_goto (tgt := 21) dX8_foretell_156 (by decide) ?_
                refine J_sub [7, 8, 9, 10, 11, 12, 13, 2, 1, 4, 3, 6, 5, 0] rfl ?_
                exact h
          · replace h := h.2 hc
            refine J_goto (tgt := 153) dX8_foretell_82 (by decide) ?_
            obtain ⟨x13, ex13⟩ : ∃ y : Int32, y = a13 + 1 := ⟨_, rfl⟩
            replace h := h x13 ex13
            refine J_iinc (i := 13) (kk := 13) (v := x13) (lv' := [(13, .int x13), (0, .ref 34), (1, .int a1), (2, .int a2), (3, .int a3), (4, .int a4), (5, .int a5), (6, .int a6), (7, .int a7), (8, .int a8), (9, .int a9), (10, .int a10), (11, .int a11), (12, .int a12)]) dX8_foretell_153 rfl (by rw [ex13]; rfl) (by decide) rfl ?_
            refine J_goto (tgt := 21) dX8_foretell_156 (by decide) ?_
            refine J_sub [1, 2, 3, 4, 5, 6, 7, 8, 9, 10, 11, 12, 13, 0] rfl ?_
            exact h
set_option maxHeartbeats 4000000 in
set_option maxRecDepth 100000 in
theorem w_X8_foretell_0 {Γ : GG} {l : Launch} {d : Nat} {Q : Option Value → St → Prop} {σ : St} (a1 : Int32) (a2 : Int32) (a3 : Int32) (a4 : Int32) (a5 : Int32) (a6 : Int32) (h : J Γ l (d + 1) mX8_foretell Q 21 [(0, .ref 34), (1, .int a1), (2, .int a2), (3, .int a3), (4, .int a4), (5, .int a5), (6, .int a6), (7, .int (0)), (8, .int (0)), (9, .int (0)), (10, .int (0)), (11, .int (0)), (12, .int (0)), (13, .int (0))] [] σ) : J Γ l (d + 1) mX8_foretell Q 0 [(0, .ref 34), (1, .int a1), (2, .int a2), (3, .int a3), (4, .int a4), (5, .int a5), (6, .int a6)] [] σ := by
  refine J_iconst (v := 0) dX8_foretell_0 (by decide) ?_
  refine J_istore (i := 7) (lv' := [(7, .int (0)), (0, .ref 34), (1, .int a1), (2, .int a2), (3, .int a3), (4, .int a4), (5, .int a5), (6, .int a6)]) dX8_foretell_1 (by decide) rfl ?_
  refine J_iconst (v := 0) dX8_foretell_3 (by decide) ?_
  refine J_istore (i := 8) (lv' := [(8, .int (0)), (7, .int (0)), (0, .ref 34), (1, .int a1), (2, .int a2), (3, .int a3), (4, .int a4), (5, .int a5), (6, .int a6)]) dX8_foretell_4 (by decide) rfl ?_
  refine J_iconst (v := 0) dX8_foretell_6 (by decide) ?_
  refine J_istore (i := 9) (lv' := [(9, .int (0)), (8, .int (0)), (7, .int (0)), (0, .ref 34), (1, .int a1), (2, .int a2), (3, .int a3), (4, .int a4), (5, .int a5), (6, .int a6)]) dX8_foretell_7 (by decide) rfl ?_
  refine J_iconst (v := 0) dX8_foretell_9 (by decide) ?_
  refine J_istore (i := 10) (lv' := [(10, .int (0)), (9, .int (0)), (8, .int (0)), (7, .int (0)), (0, .ref 34), (1, .int a1), (2, .int a2), (3, .int a3), (4, .int a4), (5, .int a5), (6, .int a6)]) dX8_foretell_10 (by decide) rfl ?_
  refine J_iconst (v := 0) dX8_foretell_12 (by decide) ?_
  refine J_istore (i := 11) (lv' := [(11, .int (0)), (10, .int (0)), (9, .int (0)), (8, .int (0)), (7, .int (0)), (0, .ref 34), (1, .int a1), (2, .int a2), (3, .int a3), (4, .int a4), (5, .int a5), (6, .int a6)]) dX8_foretell_13 (by decide) rfl ?_
  refine J_iconst (v := 0) dX8_foretell_15 (by decide) ?_
  refine J_istore (i := 12) (lv' := [(12, .int (0)), (11, .int (0)), (10, .int (0)), (9, .int (0)), (8, .int (0)), (7, .int (0)), (0, .ref 34), (1, .int a1), (2, .int a2), (3, .int a3), (4, .int a4), (5, .int a5), (6, .int a6)]) dX8_foretell_16 (by decide) rfl ?_
  refine J_iconst (v := 0) dX8_foretell_18 (by decide) ?_
  refine J_istore (i := 13) (lv' := [(13, .int (0)), (12, .int (0)), (11, .int (0)), (10, .int (0)), (9, .int (0)), (8, .int (0)), (7, .int (0)), (0, .ref 34), (1, .int a1), (2, .int a2), (3, .int a3), (4, .int a4), (5, .int a5), (6, .int a6)]) dX8_foretell_19 (by decide) rfl ?_
  refine J_sub [7, 8, 9, 10, 11, 12, 13, 6, 5, 4, 3, 2, 1, 0] rfl ?_
  exact h
theorem M_X8_foretell {Γ : GG} {l : Launch} {d : Nat} {Q : Option Value → St → Prop} {σ : St} (a1 : Int32) (a2 : Int32) (a3 : Int32) (a4 : Int32) (a5 : Int32) (a6 : Int32) (k : J Γ l (d + 1) mX8_foretell Q 0 [(0, .ref 34), (1, .int a1), (2, .int a2), (3, .int a3), (4, .int a4), (5, .int a5), (6, .int a6)] [] σ) : Meth Γ l (d + 1) mX8_foretell [.ref 34, .int a1, .int a2, .int a3, .int a4, .int a5, .int a6] σ Q := Meth_of_J (by decide +kernel) (fun _ => Nat.le_of_ble_eq_true rfl) (fun _ => rfl) k
set_option maxHeartbeats 4000000 in
set_option maxRecDepth 100000 in
theorem w_X12_foretoldFor_99 {Γ : GG} {l : Launch} {d : Nat} {Q : Option Value → St → Prop} {σ : St} (a1 : Int32) (a2 : Int32) (a3 : Int32) (a4 : Int32) (a5 : Int32) (a6 : Int32) (a7 : Int32) (a8 : Int32) (a9 : Int32) (a10 : Int32) (h : (a7 = (0 : Int32) → vp_in a10 600 ∧ (rd σ 96 (a10.toNatClampNeg) = a5 → ∀ x6 : Int32, x6 = a8 + 1 → ∀ x7 : Int32, x7 = a9 + (rd σ 97 (a10.toNatClampNeg)) → ∀ x8 : Int32, x8 = a10 + 1 → J Γ l d mX12_foretoldFor Q 18 [(0, .ref 59), (1, .int a1), (2, .int a2), (3, .int a3), (4, .int a4), (5, .int a5), (6, .int a6), (7, .int a7), (8, .int x6), (9, .int x7), (10, .int x8)] [] σ) ∧ (¬ rd σ 96 (a10.toNatClampNeg) = a5 → ∀ x9 : Int32, x9 = a10 + 1 → J Γ l d mX12_foretoldFor Q 18 [(0, .ref 59), (1, .int a1), (2, .int a2), (3, .int a3), (4, .int a4), (5, .int a5), (6, .int a6), (7, .int a7), (8, .int a8), (9, .int a9), (10, .int x9)] [] σ)) ∧ (¬ a7 = (0 : Int32) → ∀ x1 : Int32, x1 = a8 + 1 → vp_in a10 600 ∧ ∀ x3 : Int32, x3 = a9 + (rd σ 97 (a10.toNatClampNeg)) → ∀ x4 : Int32, x4 = a10 + 1 → J Γ l d mX12_foretoldFor Q 18 [(0, .ref 59), (1, .int a1), (2, .int a2), (3, .int a3), (4, .int a4), (5, .int a5), (6, .int a6), (7, .int a7), (8, .int x1), (9, .int x3), (10, .int x4)] [] σ)) : J Γ l d mX12_foretoldFor Q 99 [(0, .ref 59), (1, .int a1), (2, .int a2), (3, .int a3), (4, .int a4), (5, .int a5), (6, .int a6), (7, .int a7), (8, .int a8), (9, .int a9), (10, .int a10)] [] σ := by
  refine J_iload (i := 7) (kk := 7) dX12_foretoldFor_99 rfl ?_
  refine J_if_ne 119 dX12_foretoldFor_101 (by decide) (fun hc => ?_) (fun hc => ?_)
  · replace h := h.2 hc
    obtain ⟨x1, ex1⟩ : ∃ y : Int32, y = a8 + 1 := ⟨_, rfl⟩
    replace h := h x1 ex1
    refine J_iinc (i := 8) (kk := 8) (v := x1) (lv' := [(8, .int x1), (0, .ref 59), (1, .int a1), (2, .int a2), (3, .int a3), (4, .int a4), (5, .int a5), (6, .int a6), (7, .int a7), (9, .int a9), (10, .int a10)]) dX12_foretoldFor_119 rfl (by rw [ex1]; rfl) (by decide) rfl ?_
    refine J_iload (i := 9) (kk := 9) dX12_foretoldFor_122 rfl ?_
    refine J_aload_n (i := 0) (kk := 1) dX12_foretoldFor_124 rfl rfl ?_
    refine J_getR 97 (q := 59) (ci := 12) (kf := 51) kfX12_122 uxX12 rfl (by decide) rfl (by decide) rfl dX12_foretoldFor_125 ?_
    refine J_iload (i := 10) (kk := 10) dX12_foretoldFor_128 rfl ?_
    have b2 := h.1
    replace h := h.2
    refine J_ald (a10.toNatClampNeg) rfl (by decide) rfl b2 dX12_foretoldFor_130 ?_
    refine J_iadd dX12_foretoldFor_131 ?_
    refine J_nameI (fun x3 ex3 => ?_)
    replace h := h x3 ex3
    refine J_istore (i := 9) (lv' := [(9, .int x3), (8, .int x1), (0, .ref 59), (1, .int a1), (2, .int a2), (3, .int a3), (4, .int a4), (5, .int a5), (6, .int a6), (7, .int a7), (10, .int a10)]) dX12_foretoldFor_132 (by decide) rfl ?_
    obtain ⟨x4, ex4⟩ : ∃ y : Int32, y = a10 + 1 := ⟨_, rfl⟩
    replace h := h x4 ex4
    refine J_iinc (i := 10) (kk := 10) (v := x4) (lv' := [(10, .int x4), (9, .int x3), (8, .int x1), (0, .ref 59), (1, .int a1), (2, .int a2), (3, .int a3), (4, .int a4), (5, .int a5), (6, .int a6), (7, .int a7)]) dX12_foretoldFor_134 rfl (by rw [ex4]; rfl) (by decide) rfl ?_
    refine J_goto (tgt := 18) dX12_foretoldFor_137 (by decide) ?_
    refine J_sub [3, 4, 5, 6, 7, 8, 9, 10, 2, 1, 0] rfl ?_
    exact h
  · replace h := h.1 hc
    refine J_aload_n (i := 0) (kk := 0) dX12_foretoldFor_104 rfl rfl ?_
    refine J_getR 96 (q := 59) (ci := 12) (kf := 50) kfX12_119 uxX12 rfl (by decide) rfl (by decide) rfl dX12_foretoldFor_105 ?_
    refine J_iload (i := 10) (kk := 10) dX12_foretoldFor_108 rfl ?_
    have b5 := h.1
    replace h := h.2
    refine J_ald (a10.toNatClampNeg) rfl (by decide) rfl b5 dX12_foretoldFor_110 ?_
    refine J_iload (i := 5) (kk := 5) dX12_foretoldFor_111 rfl ?_
    refine J_icmp_eq 119 dX12_foretoldFor_113 (by decide) (fun hc => ?_) (fun hc => ?_)
    · replace h := h.1 hc
      obtain ⟨x6, ex6⟩ : ∃ y : Int32, y = a8 + 1 := ⟨_, rfl⟩
      replace h := h x6 ex6
      refine J_iinc (i := 8) (kk := 8) (v := x6) (lv' := [(8, .int x6), (0, .ref 59), (1, .int a1), (2, .int a2), (3, .int a3), (4, .int a4), (5, .int a5), (6, .int a6), (7, .int a7), (9, .int a9), (10, .int a10)]) dX12_foretoldFor_119 rfl (by rw [ex6]; rfl) (by decide) rfl ?_
      refine J_iload (i := 9) (kk := 9) dX12_foretoldFor_122 rfl ?_
      refine J_aload_n (i := 0) (kk := 1) dX12_foretoldFor_124 rfl rfl ?_
      refine J_getR 97 (q := 59) (ci := 12) (kf := 51) kfX12_122 uxX12 rfl (by decide) rfl (by decide) rfl dX12_foretoldFor_125 ?_
      refine J_iload (i := 10) (kk := 10) dX12_foretoldFor_128 rfl ?_
      refine J_ald (a10.toNatClampNeg) rfl (by decide) rfl b5 dX12_foretoldFor_130 ?_
      refine J_iadd dX12_foretoldFor_131 ?_
      refine J_nameI (fun x7 ex7 => ?_)
      replace h := h x7 ex7
      refine J_istore (i := 9) (lv' := [(9, .int x7), (8, .int x6), (0, .ref 59), (1, .int a1), (2, .int a2), (3, .int a3), (4, .int a4), (5, .int a5), (6, .int a6), (7, .int a7), (10, .int a10)]) dX12_foretoldFor_132 (by decide) rfl ?_
      obtain ⟨x8, ex8⟩ : ∃ y : Int32, y = a10 + 1 := ⟨_, rfl⟩
      replace h := h x8 ex8
      refine J_iinc (i := 10) (kk := 10) (v := x8) (lv' := [(10, .int x8), (9, .int x7), (8, .int x6), (0, .ref 59), (1, .int a1), (2, .int a2), (3, .int a3), (4, .int a4), (5, .int a5), (6, .int a6), (7, .int a7)]) dX12_foretoldFor_134 rfl (by rw [ex8]; rfl) (by decide) rfl ?_
      refine J_goto (tgt := 18) dX12_foretoldFor_137 (by decide) ?_
      refine J_sub [3, 4, 5, 6, 7, 8, 9, 10, 2, 1, 0] rfl ?_
      exact h
    · replace h := h.2 hc
      refine J_goto (tgt := 134) dX12_foretoldFor_116 (by decide) ?_
      obtain ⟨x9, ex9⟩ : ∃ y : Int32, y = a10 + 1 := ⟨_, rfl⟩
      replace h := h x9 ex9
      refine J_iinc (i := 10) (kk := 10) (v := x9) (lv' := [(10, .int x9), (0, .ref 59), (1, .int a1), (2, .int a2), (3, .int a3), (4, .int a4), (5, .int a5), (6, .int a6), (7, .int a7), (8, .int a8), (9, .int a9)]) dX12_foretoldFor_134 rfl (by rw [ex9]; rfl) (by decide) rfl ?_
      refine J_goto (tgt := 18) dX12_foretoldFor_137 (by decide) ?_
      refine J_sub [1, 2, 3, 4, 5, 6, 7, 8, 9, 10, 0] rfl ?_
      exact h
set_option maxHeartbeats 4000000 in
set_option maxRecDepth 100000 in
theorem w_X12_foretoldFor_18 {Γ : GG} {l : Launch} {d : Nat} {Q : Option Value → St → Prop} {σ : St} (a1 : Int32) (a2 : Int32) (a3 : Int32) (a4 : Int32) (a5 : Int32) (a6 : Int32) (a7 : Int32) (a8 : Int32) (a9 : Int32) (a10 : Int32) (h : (rd σ 59 45 ≤ a10 → ((3 : Int32) ≤ a8 → ¬ (2 : Int32) * a8 = 0 ∧ Q (some (.int ((((2 : Int32) * a9) + a8) / ((2 : Int32) * a8)))) σ) ∧ (¬ (3 : Int32) ≤ a8 → (a7 = (2 : Int32) → (a8 ≤ (0 : Int32) → ∀ x2 : Int32, x2 = a7 + 1 → J Γ l d mX12_foretoldFor Q 3 [(0, .ref 59), (1, .int a1), (2, .int a2), (3, .int a3), (4, .int a4), (5, .int a5), (6, .int a6), (7, .int x2)] [] σ) ∧ (¬ a8 ≤ (0 : Int32) → ¬ (2 : Int32) * a8 = 0 ∧ Q (some (.int ((((2 : Int32) * a9) + a8) / ((2 : Int32) * a8)))) σ)) ∧ (¬ a7 = (2 : Int32) → ∀ x1 : Int32, x1 = a7 + 1 → J Γ l d mX12_foretoldFor Q 3 [(0, .ref 59), (1, .int a1), (2, .int a2), (3, .int a3), (4, .int a4), (5, .int a5), (6, .int a6), (7, .int x1)] [] σ))) ∧ (¬ rd σ 59 45 ≤ a10 → vp_in a10 600 ∧ (rd σ 93 (a10.toNatClampNeg) = a2 → ((rd σ 94 (a10.toNatClampNeg)) - (rd σ 94 (a10.toNatClampNeg)) / (24 : Int32) * (24 : Int32) = a3 → (rd σ 95 (a10.toNatClampNeg) = a4 → ((rd σ 94 (a10.toNatClampNeg)) / (24 : Int32) ≤ a6 → ((2 : Int32) ≤ a7 → J Γ l d mX12_foretoldFor Q 99 [(0, .ref 59), (1, .int a1), (2, .int a2), (3, .int a3), (4, .int a4), (5, .int a5), (6, .int a6), (7, .int a7), (8, .int a8), (9, .int a9), (10, .int a10)] [] σ) ∧ (¬ (2 : Int32) ≤ a7 → (rd σ 92 (a10.toNatClampNeg) = a1 → J Γ l d mX12_foretoldFor Q 99 [(0, .ref 59), (1, .int a1), (2, .int a2), (3, .int a3), (4, .int a4), (5, .int a5), (6, .int a6), (7, .int a7), (8, .int a8), (9, .int a9), (10, .int a10)] [] σ) ∧ (¬ rd σ 92 (a10.toNatClampNeg) = a1 → ∀ x7 : Int32, x7 = a10 + 1 → J Γ l d mX12_foretoldFor Q 18 [(0, .ref 59), (1, .int a1), (2, .int a2), (3, .int a3), (4, .int a4), (5, .int a5), (6, .int a6), (7, .int a7), (8, .int a8), (9, .int a9), (10, .int x7)] [] σ))) ∧ (¬ (rd σ 94 (a10.toNatClampNeg)) / (24 : Int32) ≤ a6 → ∀ x8 : Int32, x8 = a10 + 1 → J Γ l d mX12_foretoldFor Q 18 [(0, .ref 59), (1, .int a1), (2, .int a2), (3, .int a3), (4, .int a4), (5, .int a5), (6, .int a6), (7, .int a7), (8, .int a8), (9, .int a9), (10, .int x8)] [] σ)) ∧ (¬ rd σ 95 (a10.toNatClampNeg) = a4 → ∀ x6 : Int32, x6 = a10 + 1 → J Γ l d mX12_foretoldFor Q 18 [(0, .ref 59), (1, .int a1), (2, .int a2), (3, .int a3), (4, .int a4), (5, .int a5), (6, .int a6), (7, .int a7), (8, .int a8), (9, .int a9), (10, .int x6)] [] σ)) ∧ (¬ (rd σ 94 (a10.toNatClampNeg)) - (rd σ 94 (a10.toNatClampNeg)) / (24 : Int32) * (24 : Int32) = a3 → ∀ x5 : Int32, x5 = a10 + 1 → J Γ l d mX12_foretoldFor Q 18 [(0, .ref 59), (1, .int a1), (2, .int a2), (3, .int a3), (4, .int a4), (5, .int a5), (6, .int a6), (7, .int a7), (8, .int a8), (9, .int a9), (10, .int x5)] [] σ)) ∧ (¬ rd σ 93 (a10.toNatClampNeg) = a2 → ∀ x4 : Int32, x4 = a10 + 1 → J Γ l d mX12_foretoldFor Q 18 [(0, .ref 59), (1, .int a1), (2, .int a2), (3, .int a3), (4, .int a4), (5, .int a5), (6, .int a6), (7, .int a7), (8, .int a8), (9, .int a9), (10, .int x4)] [] σ))) : J Γ l d mX12_foretoldFor Q 18 [(0, .ref 59), (1, .int a1), (2, .int a2), (3, .int a3), (4, .int a4), (5, .int a5), (6, .int a6), (7, .int a7), (8, .int a8), (9, .int a9), (10, .int a10)] [] σ := by
  refine J_iload (i := 10) (kk := 10) dX12_foretoldFor_18 rfl ?_
  refine J_aload_n (i := 0) (kk := 0) dX12_foretoldFor_20 rfl rfl ?_
  refine J_getI (q := 59) (ci := 12) (kf := 45) kfX12_337 uxX12 rfl (by decide) rfl (by decide) rfl dX12_foretoldFor_21 ?_
  refine J_icmp_ge 140 dX12_foretoldFor_24 (by decide) (fun hc => ?_) (fun hc => ?_)
  · replace h := h.1 hc
    refine J_iload (i := 8) (kk := 8) dX12_foretoldFor_140 rfl ?_
    refine J_iconst (v := 3) dX12_foretoldFor_142 (by decide) ?_
    refine J_icmp_ge 157 dX12_foretoldFor_143 (by decide) (fun hc => ?_) (fun hc => ?_)
    · replace h := h.1 hc
      refine J_iconst (v := 2) dX12_foretoldFor_157 (by decide) ?_
      refine J_iload (i := 9) (kk := 9) dX12_foretoldFor_158 rfl ?_
      refine J_imul dX12_foretoldFor_160 ?_
      refine J_iload (i := 8) (kk := 8) dX12_foretoldFor_161 rfl ?_
      refine J_iadd dX12_foretoldFor_163 ?_
      refine J_iconst (v := 2) dX12_foretoldFor_164 (by decide) ?_
      refine J_iload (i := 8) (kk := 8) dX12_foretoldFor_165 rfl ?_
      refine J_imul dX12_foretoldFor_167 ?_
      have hz := h.1
      replace h := h.2
      refine J_idiv dX12_foretoldFor_168 hz ?_
      exact J_iret rfl dX12_foretoldFor_169 h
    · replace h := h.2 hc
      refine J_iload (i := 7) (kk := 7) dX12_foretoldFor_146 rfl ?_
      refine J_iconst (v := 2) dX12_foretoldFor_148 (by decide) ?_
      refine J_icmp_ne 170 dX12_foretoldFor_149 (by decide) (fun hc => ?_) (fun hc => ?_)
      · replace h := h.2 hc
        obtain ⟨x1, ex1⟩ : ∃ y : Int32, y = a7 + 1 := ⟨_, rfl⟩
        replace h := h x1 ex1
        refine J_iinc (i := 7) (kk := 7) (v := x1) (lv' := [(7, .int x1), (0, .ref 59), (1, .int a1), (2, .int a2), (3, .int a3), (4, .int a4), (5, .int a5), (6, .int a6), (8, .int a8), (9, .int a9), (10, .int a10)]) dX12_foretoldFor_170 rfl (by rw [ex1]; rfl) (by decide) rfl ?_
        refine J_goto (tgt := 3) dX12_foretoldFor_173 (by decide) ?_
        refine J_sub [1, 2, 3, 4, 5, 6, 7, 0] rfl ?_
        exact h
      · replace h := h.1 hc
        refine J_iload (i := 8) (kk := 8) dX12_foretoldFor_152 rfl ?_
        refine J_if_le 170 dX12_foretoldFor_154 (by decide) (fun hc => ?_) (fun hc => ?_)
        · replace h := h.1 hc
          obtain ⟨x2, ex2⟩ : ∃ y : Int32, y = a7 + 1 := ⟨_, rfl⟩
          replace h := h x2 ex2
          refine J_iinc (i := 7) (kk := 7) (v := x2) (lv' := [(7, .int x2), (0, .ref 59), (1, .int a1), (2, .int a2), (3, .int a3), (4, .int a4), (5, .int a5), (6, .int a6), (8, .int a8), (9, .int a9), (10, .int a10)]) dX12_foretoldFor_170 rfl (by rw [ex2]; rfl) (by decide) rfl ?_
          refine J_goto (tgt := 3) dX12_foretoldFor_173 (by decide) ?_
          refine J_sub [1, 2, 3, 4, 5, 6, 7, 0] rfl ?_
          exact h
        · replace h := h.2 hc
          refine J_iconst (v := 2) dX12_foretoldFor_157 (by decide) ?_
          refine J_iload (i := 9) (kk := 9) dX12_foretoldFor_158 rfl ?_
          refine J_imul dX12_foretoldFor_160 ?_
          refine J_iload (i := 8) (kk := 8) dX12_foretoldFor_161 rfl ?_
          refine J_iadd dX12_foretoldFor_163 ?_
          refine J_iconst (v := 2) dX12_foretoldFor_164 (by decide) ?_
          refine J_iload (i := 8) (kk := 8) dX12_foretoldFor_165 rfl ?_
          refine J_imul dX12_foretoldFor_167 ?_
          have hz := h.1
          replace h := h.2
          refine J_idiv dX12_foretoldFor_168 hz ?_
          exact J_iret rfl dX12_foretoldFor_169 h
  · replace h := h.2 hc
    refine J_aload_n (i := 0) (kk := 0) dX12_foretoldFor_27 rfl rfl ?_
    refine J_getR 93 (q := 59) (ci := 12) (kf := 47) kfX12_110 uxX12 rfl (by decide) rfl (by decide) rfl dX12_foretoldFor_28 ?_
    refine J_iload (i := 10) (kk := 10) dX12_foretoldFor_31 rfl ?_
    have b3 := h.1
    replace h := h.2
    refine J_ald (a10.toNatClampNeg) rfl (by decide) rfl b3 dX12_foretoldFor_33 ?_
    refine J_iload_n (i := 2) (kk := 2) dX12_foretoldFor_34 rfl rfl ?_
    refine J_icmp_ne 134 dX12_foretoldFor_35 (by decide) (fun hc => ?_) (fun hc => ?_)
    · replace h := h.2 hc
      obtain ⟨x4, ex4⟩ : ∃ y : Int32, y = a10 + 1 := ⟨_, rfl⟩
      replace h := h x4 ex4
      refine J_iinc (i := 10) (kk := 10) (v := x4) (lv' := [(10, .int x4), (0, .ref 59), (1, .int a1), (2, .int a2), (3, .int a3), (4, .int a4), (5, .int a5), (6, .int a6), (7, .int a7), (8, .int a8), (9, .int a9)]) dX12_foretoldFor_134 rfl (by rw [ex4]; rfl) (by decide) rfl ?_
      refine J_goto (tgt := 18) dX12_foretoldFor_137 (by decide) ?_
      refine J_sub [1, 2, 3, 4, 5, 6, 7, 8, 9, 10, 0] rfl ?_
      exact h
    · replace h := h.1 hc
      refine J_aload_n (i := 0) (kk := 0) dX12_foretoldFor_38 rfl rfl ?_
      refine J_getR 94 (q := 59) (ci := 12) (kf := 48) kfX12_113 uxX12 rfl (by decide) rfl (by decide) rfl dX12_foretoldFor_39 ?_
      refine J_iload (i := 10) (kk := 10) dX12_foretoldFor_42 rfl ?_
      refine J_ald (a10.toNatClampNeg) rfl (by decide) rfl b3 dX12_foretoldFor_44 ?_
      refine J_bipush (v := 24) dX12_foretoldFor_45 (by decide) ?_
      refine J_irem dX12_foretoldFor_47 (by decide) ?_
      refine J_iload_n (i := 3) (kk := 3) dX12_foretoldFor_48 rfl rfl ?_
      refine J_icmp_ne 134 dX12_foretoldFor_49 (by decide) (fun hc => ?_) (fun hc => ?_)
      · replace h := h.2 hc
        obtain ⟨x5, ex5⟩ : ∃ y : Int32, y = a10 + 1 := ⟨_, rfl⟩
        replace h := h x5 ex5
        refine J_iinc (i := 10) (kk := 10) (v := x5) (lv' := [(10, .int x5), (0, .ref 59), (1, .int a1), (2, .int a2), (3, .int a3), (4, .int a4), (5, .int a5), (6, .int a6), (7, .int a7), (8, .int a8), (9, .int a9)]) dX12_foretoldFor_134 rfl (by rw [ex5]; rfl) (by decide) rfl ?_
        refine J_goto (tgt := 18) dX12_foretoldFor_137 (by decide) ?_
        refine J_sub [1, 2, 3, 4, 5, 6, 7, 8, 9, 10, 0] rfl ?_
        exact h
      · replace h := h.1 hc
        refine J_aload_n (i := 0) (kk := 0) dX12_foretoldFor_52 rfl rfl ?_
        refine J_getR 95 (q := 59) (ci := 12) (kf := 49) kfX12_116 uxX12 rfl (by decide) rfl (by decide) rfl dX12_foretoldFor_53 ?_
        refine J_iload (i := 10) (kk := 10) dX12_foretoldFor_56 rfl ?_
        refine J_ald (a10.toNatClampNeg) rfl (by decide) rfl b3 dX12_foretoldFor_58 ?_
        refine J_iload (i := 4) (kk := 4) dX12_foretoldFor_59 rfl ?_
        refine J_icmp_ne 134 dX12_foretoldFor_61 (by decide) (fun hc => ?_) (fun hc => ?_)
        · replace h := h.2 hc
          obtain ⟨x6, ex6⟩ : ∃ y : Int32, y = a10 + 1 := ⟨_, rfl⟩
          replace h := h x6 ex6
          refine J_iinc (i := 10) (kk := 10) (v := x6) (lv' := [(10, .int x6), (0, .ref 59), (1, .int a1), (2, .int a2), (3, .int a3), (4, .int a4), (5, .int a5), (6, .int a6), (7, .int a7), (8, .int a8), (9, .int a9)]) dX12_foretoldFor_134 rfl (by rw [ex6]; rfl) (by decide) rfl ?_
          refine J_goto (tgt := 18) dX12_foretoldFor_137 (by decide) ?_
          refine J_sub [1, 2, 3, 4, 5, 6, 7, 8, 9, 10, 0] rfl ?_
          exact h
        · replace h := h.1 hc
          refine J_aload_n (i := 0) (kk := 0) dX12_foretoldFor_64 rfl rfl ?_
          refine J_getR 94 (q := 59) (ci := 12) (kf := 48) kfX12_113 uxX12 rfl (by decide) rfl (by decide) rfl dX12_foretoldFor_65 ?_
          refine J_iload (i := 10) (kk := 10) dX12_foretoldFor_68 rfl ?_
          refine J_ald (a10.toNatClampNeg) rfl (by decide) rfl b3 dX12_foretoldFor_70 ?_
          refine J_bipush (v := 24) dX12_foretoldFor_71 (by decide) ?_
          refine J_idiv dX12_foretoldFor_73 (by decide) ?_
          refine J_iload (i := 6) (kk := 6) dX12_foretoldFor_74 rfl ?_
          refine J_icmp_le 82 dX12_foretoldFor_76 (by decide) (fun hc => ?_) (fun hc => ?_)
          · replace h := h.1 hc
            refine J_iload (i := 7) (kk := 7) dX12_foretoldFor_82 rfl ?_
            refine J_iconst (v := 2) dX12_foretoldFor_84 (by decide) ?_
            refine J_icmp_ge 99 dX12_foretoldFor_85 (by decide) (fun hc => ?_) (fun hc => ?_)
            · replace h := h.1 hc
              refine J_sub [0, 1, 2, 3, 4, 5, 6, 7, 8, 9, 10] rfl ?_
              exact h
            · replace h := h.2 hc
              refine J_aload_n (i := 0) (kk := 0) dX12_foretoldFor_88 rfl rfl ?_
              refine J_getR 92 (q := 59) (ci := 12) (kf := 46) kfX12_107 uxX12 rfl (by decide) rfl (by decide) rfl dX12_foretoldFor_89 ?_
              refine J_iload (i := 10) (kk := 10) dX12_foretoldFor_92 rfl ?_
              refine J_ald (a10.toNatClampNeg) rfl (by decide) rfl b3 dX12_foretoldFor_94 ?_
              refine J_iload_n (i := 1) (kk := 1) dX12_foretoldFor_95 rfl rfl ?_
              refine J_icmp_ne 134 dX12_foretoldFor_96 (by decide) (fun hc => ?_) (fun hc => ?_)
              · replace h := h.2 hc
                obtain ⟨x7, ex7⟩ : ∃ y : Int32, y = a10 + 1 := ⟨_, rfl⟩
                replace h := h x7 ex7
                refine J_iinc (i := 10) (kk := 10) (v := x7) (lv' := [(10, .int x7), (0, .ref 59), (1, .int a1), (2, .int a2), (3, .int a3), (4, .int a4), (5, .int a5), (6, .int a6), (7, .int a7), (8, .int a8), (9, .int a9)]) dX12_foretoldFor_134 rfl (by rw [ex7]; rfl) (by decide) rfl ?_
                refine J_goto (tgt := 18) dX12_foretoldFor_137 (by decide) ?_
                refine J_sub [1, 2, 3, 4, 5, 6, 7, 8, 9, 10, 0] rfl ?_
                exact h
              · replace h := h.1 hc
                refine J_sub [0, 1, 2, 3, 4, 5, 6, 7, 8, 9, 10] rfl ?_
                exact h
          · replace h := h.2 hc
            refine J_goto (tgt := 134) dX12_foretoldFor_79 (by decide) ?_
            obtain ⟨x8, ex8⟩ : ∃ y : Int32, y = a10 + 1 := ⟨_, rfl⟩
            replace h := h x8 ex8
            refine J_iinc (i := 10) (kk := 10) (v := x8) (lv' := [(10, .int x8), (0, .ref 59), (1, .int a1), (2, .int a2), (3, .int a3), (4, .int a4), (5, .int a5), (6, .int a6), (7, .int a7), (8, .int a8), (9, .int a9)]) dX12_foretoldFor_134 rfl (by rw [ex8]; rfl) (by decide) rfl ?_
            refine J_goto (tgt := 18) dX12_foretoldFor_137 (by decide) ?_
            refine J_sub [1, 2, 3, 4, 5, 6, 7, 8, 9, 10, 0] rfl ?_
            exact h
set_option maxHeartbeats 4000000 in
set_option maxRecDepth 100000 in
theorem w_X12_foretoldFor_3 {Γ : GG} {l : Launch} {d : Nat} {Q : Option Value → St → Prop} {σ : St} (a1 : Int32) (a2 : Int32) (a3 : Int32) (a4 : Int32) (a5 : Int32) (a6 : Int32) (a7 : Int32) (h : ((3 : Int32) ≤ a7 → Q (some (.int (0))) σ) ∧ (¬ (3 : Int32) ≤ a7 → J Γ l d mX12_foretoldFor Q 18 [(0, .ref 59), (1, .int a1), (2, .int a2), (3, .int a3), (4, .int a4), (5, .int a5), (6, .int a6), (7, .int a7), (8, .int (0)), (9, .int (0)), (10, .int (0))] [] σ)) : J Γ l d mX12_foretoldFor Q 3 [(0, .ref 59), (1, .int a1), (2, .int a2), (3, .int a3), (4, .int a4), (5, .int a5), (6, .int a6), (7, .int a7)] [] σ := by
  refine J_iload (i := 7) (kk := 7) dX12_foretoldFor_3 rfl ?_
  refine J_iconst (v := 3) dX12_foretoldFor_5 (by decide) ?_
  refine J_icmp_ge 176 dX12_foretoldFor_6 (by decide) (fun hc => ?_) (fun hc => ?_)
  · replace h := h.1 hc
    refine J_iconst (v := 0) dX12_foretoldFor_176 (by decide) ?_
    exact J_iret rfl dX12_foretoldFor_177 h
  · replace h := h.2 hc
    refine J_iconst (v := 0) dX12_foretoldFor_9 (by decide) ?_
    refine J_istore (i := 8) (lv' := [(8, .int (0)), (0, .ref 59), (1, .int a1), (2, .int a2), (3, .int a3), (4, .int a4), (5, .int a5), (6, .int a6), (7, .int a7)]) dX12_foretoldFor_10 (by decide) rfl ?_
    refine J_iconst (v := 0) dX12_foretoldFor_12 (by decide) ?_
    refine J_istore (i := 9) (lv' := [(9, .int (0)), (8, .int (0)), (0, .ref 59), (1, .int a1), (2, .int a2), (3, .int a3), (4, .int a4), (5, .int a5), (6, .int a6), (7, .int a7)]) dX12_foretoldFor_13 (by decide) rfl ?_
    refine J_iconst (v := 0) dX12_foretoldFor_15 (by decide) ?_
    refine J_istore (i := 10) (lv' := [(10, .int (0)), (9, .int (0)), (8, .int (0)), (0, .ref 59), (1, .int a1), (2, .int a2), (3, .int a3), (4, .int a4), (5, .int a5), (6, .int a6), (7, .int a7)]) dX12_foretoldFor_16 (by decide) rfl ?_
    refine J_sub [3, 4, 5, 6, 7, 8, 9, 10, 2, 1, 0] rfl ?_
    exact h
set_option maxHeartbeats 4000000 in
set_option maxRecDepth 100000 in
theorem w_X12_foretoldFor_0 {Γ : GG} {l : Launch} {d : Nat} {Q : Option Value → St → Prop} {σ : St} (a1 : Int32) (a2 : Int32) (a3 : Int32) (a4 : Int32) (a5 : Int32) (a6 : Int32) (h : J Γ l d mX12_foretoldFor Q 3 [(0, .ref 59), (1, .int a1), (2, .int a2), (3, .int a3), (4, .int a4), (5, .int a5), (6, .int a6), (7, .int (0))] [] σ) : J Γ l d mX12_foretoldFor Q 0 [(0, .ref 59), (1, .int a1), (2, .int a2), (3, .int a3), (4, .int a4), (5, .int a5), (6, .int a6)] [] σ := by
  refine J_iconst (v := 0) dX12_foretoldFor_0 (by decide) ?_
  refine J_istore (i := 7) (lv' := [(7, .int (0)), (0, .ref 59), (1, .int a1), (2, .int a2), (3, .int a3), (4, .int a4), (5, .int a5), (6, .int a6)]) dX12_foretoldFor_1 (by decide) rfl ?_
  refine J_sub [1, 2, 3, 4, 5, 6, 7, 0] rfl ?_
  exact h
theorem M_X12_foretoldFor {Γ : GG} {l : Launch} {d : Nat} {Q : Option Value → St → Prop} {σ : St} (a1 : Int32) (a2 : Int32) (a3 : Int32) (a4 : Int32) (a5 : Int32) (a6 : Int32) (k : J Γ l d mX12_foretoldFor Q 0 [(0, .ref 59), (1, .int a1), (2, .int a2), (3, .int a3), (4, .int a4), (5, .int a5), (6, .int a6)] [] σ) : Meth Γ l d mX12_foretoldFor [.ref 59, .int a1, .int a2, .int a3, .int a4, .int a5, .int a6] σ Q := Meth_of_J (by decide +kernel) (fun _ => Nat.le_of_ble_eq_true rfl) (fun _ => rfl) k

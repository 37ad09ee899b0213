set_option maxHeartbeats 4000000 in
set_option maxRecDepth 100000 in
theorem w_X12_shop_0 {Γ : GG} {l : Launch} {d : Nat} {Q : Option Value → St → Prop} {σ : St} (a1 : Int32) (h : ((0 : Int32) ≤ a1 ∧ a1 ≤ (9999 : Int32) → (rd σ 59 2 = (12 : Int32) → Q (some (.int ((-3)))) σ) ∧ (¬ rd σ 59 2 = (12 : Int32) → vp_in (rd σ 59 2) 12 ∧ Q (some (.int (((rd σ 59 2) + (1 : Int32)) - (1 : Int32)))) (wr (wr (wr (wr σ 60 ((rd σ 59 2).toNatClampNeg) (a1 / (100 : Int32))) 61 ((rd σ 59 2).toNatClampNeg) (a1 - a1 / (100 : Int32) * (100 : Int32))) 110 ((rd σ 59 2).toNatClampNeg) ((-1) : Int32)) 59 2 ((rd σ 59 2) + (1 : Int32))))) ∧ (¬ ((0 : Int32) ≤ a1 ∧ a1 ≤ (9999 : Int32)) → Q (some (.int ((-1)))) σ)) : J Γ l (d + 1) mX12_shop Q 0 [(0, .ref 59), (1, .int a1)] [] σ := by
  refine J_iload_n (i := 1) (kk := 1) dX12_shop_0 rfl rfl ?_
  refine J_iconst (v := 0) dX12_shop_1 (by decide) ?_
  refine J_sipush (v := 9999) dX12_shop_2 (by decide) ?_
  refine J_callS [.int a1, .int (0), .int (9999)] [] calX12_in klX12_196 rfl rfl (Nat.le_of_ble_eq_true rfl) dX12_shop_5 (KI.to (S_X12_in a1 (0 : Int32) (9999 : Int32)) ?_)
  rintro x9 s9 ⟨rfl, ⟨g2, rfl⟩ | ⟨g2, rfl⟩⟩
  · replace h := h.1 g2
    refine J_if_ne 13 dX12_shop_8 (by decide) (fun _ => ?_) (fun hc => absurd hc (by decide))
    refine J_aload_n (i := 0) (kk := 0) dX12_shop_13 rfl rfl ?_
    refine J_getI (q := 59) (ci := 12) (kf := 2) kfX12_203 uxX12 rfl (by decide) rfl (by decide) rfl dX12_shop_14 ?_
    refine J_bipush (v := 12) dX12_shop_17 (by decide) ?_
    refine J_icmp_ne 25 dX12_shop_19 (by decide) (fun hc => ?_) (fun hc => ?_)
    · replace h := h.2 hc
      refine J_aload_n (i := 0) (kk := 0) dX12_shop_25 rfl rfl ?_
      refine J_getR 60 (q := 59) (ci := 12) (kf := 3) kfX12_7 uxX12 rfl (by decide) rfl (by decide) rfl dX12_shop_26 ?_
      refine J_aload_n (i := 0) (kk := 0) dX12_shop_29 rfl rfl ?_
      refine J_getI (q := 59) (ci := 12) (kf := 2) kfX12_203 uxX12 rfl (by decide) rfl (by decide) rfl dX12_shop_30 ?_
      refine J_iload_n (i := 1) (kk := 1) dX12_shop_33 rfl rfl ?_
      refine J_bipush (v := 100) dX12_shop_34 (by decide) ?_
      refine J_idiv dX12_shop_36 (by decide) ?_
      have b1 := h.1
      replace h := h.2
      refine J_ast ((rd σ 59 2).toNatClampNeg) rfl (by decide) rfl b1 dX12_shop_37 ?_
      refine J_aload_n (i := 0) (kk := 0) dX12_shop_38 rfl rfl ?_
      refine J_getR 61 (q := 59) (ci := 12) (kf := 4) kfX12_13 uxX12 rfl (by decide) rfl (by decide) rfl dX12_shop_39 ?_
      refine J_aload_n (i := 0) (kk := 0) dX12_shop_42 rfl rfl ?_
      refine J_getI (q := 59) (ci := 12) (kf := 2) kfX12_203 uxX12 rfl (by decide) rfl (by decide) rfl dX12_shop_43 ?_
      refine J_eqI (y := rd σ 59 2) rfl ?_
      refine J_iload_n (i := 1) (kk := 1) dX12_shop_46 rfl rfl ?_
      refine J_bipush (v := 100) dX12_shop_47 (by decide) ?_
      refine J_irem dX12_shop_49 (by decide) ?_
      refine J_ast ((rd σ 59 2).toNatClampNeg) rfl (by decide) rfl b1 dX12_shop_50 ?_
      refine J_aload_n (i := 0) (kk := 0) dX12_shop_51 rfl rfl ?_
      refine J_getR 110 (q := 59) (ci := 12) (kf := 68) kfX12_169 uxX12 rfl (by decide) rfl (by decide) rfl dX12_shop_52 ?_
      refine J_aload_n (i := 0) (kk := 0) dX12_shop_55 rfl rfl ?_
      refine J_getI (q := 59) (ci := 12) (kf := 2) kfX12_203 uxX12 rfl (by decide) rfl (by decide) rfl dX12_shop_56 ?_
      refine J_eqI (y := rd σ 59 2) rfl ?_
      refine J_iconst (v := (-1)) dX12_shop_59 (by decide) ?_
      refine J_ast ((rd σ 59 2).toNatClampNeg) rfl (by decide) rfl b1 dX12_shop_60 ?_
      refine J_aload_n (i := 0) (kk := 0) dX12_shop_61 rfl rfl ?_
      refine J_dup dX12_shop_62 rfl ?_
      refine J_getI (q := 59) (ci := 12) (kf := 2) kfX12_203 uxX12 rfl (by decide) rfl (by decide) rfl dX12_shop_63 ?_
      refine J_eqI (y := rd σ 59 2) rfl ?_
      refine J_iconst (v := 1) dX12_shop_66 (by decide) ?_
      refine J_iadd dX12_shop_67 ?_
      refine J_putf (q := 59) (ci := 12) (kf := 2) (ty := .int) kfX12_203 uxX12 tyX12_ok nmX12 rfl (by decide) rfl (by decide) rfl rfl rfl rfl rfl dX12_shop_68 ?_
      refine J_aload_n (i := 0) (kk := 0) dX12_shop_71 rfl rfl ?_
      refine J_getI (q := 59) (ci := 12) (kf := 2) kfX12_203 uxX12 rfl (by decide) rfl (by decide) rfl dX12_shop_72 ?_
      refine J_eqI (y := ((rd σ 59 2) + (1 : Int32))) rfl ?_
      refine J_iconst (v := 1) dX12_shop_75 (by decide) ?_
      refine J_isub dX12_shop_76 ?_
      exact J_iret rfl dX12_shop_77 h
    · replace h := h.1 hc
      refine J_bipush (v := (-3)) dX12_shop_22 (by decide) ?_
      exact J_iret rfl dX12_shop_24 h
  · replace h := h.2 g2
    refine J_if_ne 13 dX12_shop_8 (by decide) (fun hc => absurd hc (by decide)) (fun _ => ?_)
    refine J_iconst (v := (-1)) dX12_shop_11 (by decide) ?_
    exact J_iret rfl dX12_shop_12 h
theorem M_X12_shop {Γ : GG} {l : Launch} {d : Nat} {Q : Option Value → St → Prop} {σ : St} (a1 : Int32) (k : J Γ l (d + 1) mX12_shop Q 0 [(0, .ref 59), (1, .int a1)] [] σ) : Meth Γ l (d + 1) mX12_shop [.ref 59, .int a1] σ Q := Meth_of_J (by decide +kernel) (fun _ => Nat.le_of_ble_eq_true rfl) (fun _ => rfl) k
set_option maxHeartbeats 4000000 in
set_option maxRecDepth 100000 in
theorem w_X12_kind_0 {Γ : GG} {l : Launch} {d : Nat} {Q : Option Value → St → Prop} {σ : St} (a1 : Int32) (a2 : Int32) (a3 : Int32) (a4 : Int32) (h : ((1 : Int32) ≤ a1 ∧ a1 ≤ (9999 : Int32) → ((0 : Int32) ≤ a2 ∧ a2 ≤ (9999 : Int32) → ((1 : Int32) ≤ a3 ∧ a3 ≤ (9999 : Int32) → ((0 : Int32) ≤ a4 ∧ a4 ≤ (1 : Int32) → (rd σ 59 6 = (10 : Int32) → Q (some (.int ((-3)))) σ) ∧ (¬ rd σ 59 6 = (10 : Int32) → vp_in (rd σ 59 6) 10 ∧ Q (some (.int (((rd σ 59 6) + (1 : Int32)) - (1 : Int32)))) (wr (wr (wr (wr (wr σ 63 ((rd σ 59 6).toNatClampNeg) a1) 64 ((rd σ 59 6).toNatClampNeg) a2) 65 ((rd σ 59 6).toNatClampNeg) a3) 66 ((rd σ 59 6).toNatClampNeg) a4) 59 6 ((rd σ 59 6) + (1 : Int32))))) ∧ (¬ ((0 : Int32) ≤ a4 ∧ a4 ≤ (1 : Int32)) → Q (some (.int ((-1)))) σ)) ∧ (¬ ((1 : Int32) ≤ a3 ∧ a3 ≤ (9999 : Int32)) → Q (some (.int ((-1)))) σ)) ∧ (¬ ((0 : Int32) ≤ a2 ∧ a2 ≤ (9999 : Int32)) → Q (some (.int ((-1)))) σ)) ∧ (¬ ((1 : Int32) ≤ a1 ∧ a1 ≤ (9999 : Int32)) → Q (some (.int ((-1)))) σ)) : J Γ l (d + 1) mX12_kind Q 0 [(0, .ref 59), (1, .int a1), (2, .int a2), (3, .int a3), (4, .int a4)] [] σ := by
  refine J_iload_n (i := 1) (kk := 1) dX12_kind_0 rfl rfl ?_
  refine J_iconst (v := 1) dX12_kind_1 (by decide) ?_
  refine J_sipush (v := 9999) dX12_kind_2 (by decide) ?_
  refine J_callS [.int a1, .int (1), .int (9999)] [] calX12_in klX12_196 rfl rfl (Nat.le_of_ble_eq_true rfl) dX12_kind_5 (KI.to (S_X12_in a1 (1 : Int32) (9999 : Int32)) ?_)
  rintro x9 s9 ⟨rfl, ⟨g5, rfl⟩ | ⟨g5, rfl⟩⟩
  · replace h := h.1 g5
    refine J_if_eq 43 dX12_kind_8 (by decide) (fun hc => absurd hc (by decide)) (fun _ => ?_)
    refine J_iload_n (i := 2) (kk := 2) dX12_kind_11 rfl rfl ?_
    refine J_iconst (v := 0) dX12_kind_12 (by decide) ?_
    refine J_sipush (v := 9999) dX12_kind_13 (by decide) ?_
    refine J_callS [.int a2, .int (0), .int (9999)] [] calX12_in klX12_196 rfl rfl (Nat.le_of_ble_eq_true rfl) dX12_kind_16 (KI.to (S_X12_in a2 (0 : Int32) (9999 : Int32)) ?_)
    rintro x9 s9 ⟨rfl, ⟨g4, rfl⟩ | ⟨g4, rfl⟩⟩
    · replace h := h.1 g4
      refine J_if_eq 43 dX12_kind_19 (by decide) (fun hc => absurd hc (by decide)) (fun _ => ?_)
      refine J_iload_n (i := 3) (kk := 3) dX12_kind_22 rfl rfl ?_
      refine J_iconst (v := 1) dX12_kind_23 (by decide) ?_
      refine J_sipush (v := 9999) dX12_kind_24 (by decide) ?_
      refine J_callS [.int a3, .int (1), .int (9999)] [] calX12_in klX12_196 rfl rfl (Nat.le_of_ble_eq_true rfl) dX12_kind_27 (KI.to (S_X12_in a3 (1 : Int32) (9999 : Int32)) ?_)
      rintro x9 s9 ⟨rfl, ⟨g3, rfl⟩ | ⟨g3, rfl⟩⟩
      · replace h := h.1 g3
        refine J_if_eq 43 dX12_kind_30 (by decide) (fun hc => absurd hc (by decide)) (fun _ => ?_)
        refine J_iload (i := 4) (kk := 4) dX12_kind_33 rfl ?_
        refine J_iconst (v := 0) dX12_kind_35 (by decide) ?_
        refine J_iconst (v := 1) dX12_kind_36 (by decide) ?_
        refine J_callS [.int a4, .int (0), .int (1)] [] calX12_in klX12_196 rfl rfl (Nat.le_of_ble_eq_true rfl) dX12_kind_37 (KI.to (S_X12_in a4 (0 : Int32) (1 : Int32)) ?_)
        rintro x9 s9 ⟨rfl, ⟨g2, rfl⟩ | ⟨g2, rfl⟩⟩
        · replace h := h.1 g2
          refine J_if_ne 45 dX12_kind_40 (by decide) (fun _ => ?_) (fun hc => absurd hc (by decide))
          refine J_aload_n (i := 0) (kk := 0) dX12_kind_45 rfl rfl ?_
          refine J_getI (q := 59) (ci := 12) (kf := 6) kfX12_206 uxX12 rfl (by decide) rfl (by decide) rfl dX12_kind_46 ?_
          refine J_bipush (v := 10) dX12_kind_49 (by decide) ?_
          refine J_icmp_ne 57 dX12_kind_51 (by decide) (fun hc => ?_) (fun hc => ?_)
          · replace h := h.2 hc
            refine J_aload_n (i := 0) (kk := 0) dX12_kind_57 rfl rfl ?_
            refine J_getR 63 (q := 59) (ci := 12) (kf := 7) kfX12_19 uxX12 rfl (by decide) rfl (by decide) rfl dX12_kind_58 ?_
            refine J_aload_n (i := 0) (kk := 0) dX12_kind_61 rfl rfl ?_
            refine J_getI (q := 59) (ci := 12) (kf := 6) kfX12_206 uxX12 rfl (by decide) rfl (by decide) rfl dX12_kind_62 ?_
            refine J_iload_n (i := 1) (kk := 1) dX12_kind_65 rfl rfl ?_
            have b1 := h.1
            replace h := h.2
            refine J_ast ((rd σ 59 6).toNatClampNeg) rfl (by decide) rfl b1 dX12_kind_66 ?_
            refine J_aload_n (i := 0) (kk := 0) dX12_kind_67 rfl rfl ?_
            refine J_getR 64 (q := 59) (ci := 12) (kf := 8) kfX12_22 uxX12 rfl (by decide) rfl (by decide) rfl dX12_kind_68 ?_
            refine J_aload_n (i := 0) (kk := 0) dX12_kind_71 rfl rfl ?_
            refine J_getI (q := 59) (ci := 12) (kf := 6) kfX12_206 uxX12 rfl (by decide) rfl (by decide) rfl dX12_kind_72 ?_
            refine J_eqI (y := rd σ 59 6) rfl ?_
            refine J_iload_n (i := 2) (kk := 2) dX12_kind_75 rfl rfl ?_
            refine J_ast ((rd σ 59 6).toNatClampNeg) rfl (by decide) rfl b1 dX12_kind_76 ?_
            refine J_aload_n (i := 0) (kk := 0) dX12_kind_77 rfl rfl ?_
            refine J_getR 65 (q := 59) (ci := 12) (kf := 9) kfX12_25 uxX12 rfl (by decide) rfl (by decide) rfl dX12_kind_78 ?_
            refine J_aload_n (i := 0) (kk := 0) dX12_kind_81 rfl rfl ?_
            refine J_getI (q := 59) (ci := 12) (kf := 6) kfX12_206 uxX12 rfl (by decide) rfl (by decide) rfl dX12_kind_82 ?_
            refine J_eqI (y := rd σ 59 6) rfl ?_
            refine J_iload_n (i := 3) (kk := 3) dX12_kind_85 rfl rfl ?_
            refine J_ast ((rd σ 59 6).toNatClampNeg) rfl (by decide) rfl b1 dX12_kind_86 ?_
            refine J_aload_n (i := 0) (kk := 0) dX12_kind_87 rfl rfl ?_
            refine J_getR 66 (q := 59) (ci := 12) (kf := 10) kfX12_28 uxX12 rfl (by decide) rfl (by decide) rfl dX12_kind_88 ?_
            refine J_aload_n (i := 0) (kk := 0) dX12_kind_91 rfl rfl ?_
            refine J_getI (q := 59) (ci := 12) (kf := 6) kfX12_206 uxX12 rfl (by decide) rfl (by decide) rfl dX12_kind_92 ?_
            refine J_eqI (y := rd σ 59 6) rfl ?_
            refine J_iload (i := 4) (kk := 4) dX12_kind_95 rfl ?_
            refine J_ast ((rd σ 59 6).toNatClampNeg) rfl (by decide) rfl b1 dX12_kind_97 ?_
            refine J_aload_n (i := 0) (kk := 0) dX12_kind_98 rfl rfl ?_
            refine J_dup dX12_kind_99 rfl ?_
            refine J_getI (q := 59) (ci := 12) (kf := 6) kfX12_206 uxX12 rfl (by decide) rfl (by decide) rfl dX12_kind_100 ?_
            refine J_eqI (y := rd σ 59 6) rfl ?_
            refine J_iconst (v := 1) dX12_kind_103 (by decide) ?_
            refine J_iadd dX12_kind_104 ?_
            refine J_putf (q := 59) (ci := 12) (kf := 6) (ty := .int) kfX12_206 uxX12 tyX12_ok nmX12 rfl (by decide) rfl (by decide) rfl rfl rfl rfl rfl dX12_kind_105 ?_
            refine J_aload_n (i := 0) (kk := 0) dX12_kind_108 rfl rfl ?_
            refine J_getI (q := 59) (ci := 12) (kf := 6) kfX12_206 uxX12 rfl (by decide) rfl (by decide) rfl dX12_kind_109 ?_
            refine J_eqI (y := ((rd σ 59 6) + (1 : Int32))) rfl ?_
            refine J_iconst (v := 1) dX12_kind_112 (by decide) ?_
            refine J_isub dX12_kind_113 ?_
            exact J_iret rfl dX12_kind_114 h
          · replace h := h.1 hc
            refine J_bipush (v := (-3)) dX12_kind_54 (by decide) ?_
            exact J_iret rfl dX12_kind_56 h
        · replace h := h.2 g2
          refine J_if_ne 45 dX12_kind_40 (by decide) (fun hc => absurd hc (by decide)) (fun _ => ?_)
          refine J_iconst (v := (-1)) dX12_kind_43 (by decide) ?_
          exact J_iret rfl dX12_kind_44 h
      · replace h := h.2 g3
        refine J_if_eq 43 dX12_kind_30 (by decide) (fun _ => ?_) (fun hc => absurd hc (by decide))
        refine J_iconst (v := (-1)) dX12_kind_43 (by decide) ?_
        exact J_iret rfl dX12_kind_44 h
    · replace h := h.2 g4
      refine J_if_eq 43 dX12_kind_19 (by decide) (fun _ => ?_) (fun hc => absurd hc (by decide))
      refine J_iconst (v := (-1)) dX12_kind_43 (by decide) ?_
      exact J_iret rfl dX12_kind_44 h
  · replace h := h.2 g5
    refine J_if_eq 43 dX12_kind_8 (by decide) (fun _ => ?_) (fun hc => absurd hc (by decide))
    refine J_iconst (v := (-1)) dX12_kind_43 (by decide) ?_
    exact J_iret rfl dX12_kind_44 h
theorem M_X12_kind {Γ : GG} {l : Launch} {d : Nat} {Q : Option Value → St → Prop} {σ : St} (a1 : Int32) (a2 : Int32) (a3 : Int32) (a4 : Int32) (k : J Γ l (d + 1) mX12_kind Q 0 [(0, .ref 59), (1, .int a1), (2, .int a2), (3, .int a3), (4, .int a4)] [] σ) : Meth Γ l (d + 1) mX12_kind [.ref 59, .int a1, .int a2, .int a3, .int a4] σ Q := Meth_of_J (by decide +kernel) (fun _ => Nat.le_of_ble_eq_true rfl) (fun _ => rfl) k
set_option maxHeartbeats 4000000 in
set_option maxRecDepth 100000 in
theorem w_X12_priceAt_0 {Γ : GG} {l : Launch} {d : Nat} {Q : Option Value → St → Prop} {σ : St} (a1 : Int32) (a2 : Int32) (h : (0 ≤ a1 ∧ a1 ≤ (rd σ 59 6) - (1 : Int32) → ((0 : Int32) ≤ a2 ∧ a2 ≤ (3 : Int32) → vp_in a1 10 ∧ Q (some (.int (((rd σ 63 a1.toNatClampNeg) * ((100 : Int32) - (25 : Int32) * a2)) / (100 : Int32)))) σ) ∧ (¬ ((0 : Int32) ≤ a2 ∧ a2 ≤ (3 : Int32)) → Q (some (.int ((-1)))) σ)) ∧ (¬ (0 ≤ a1 ∧ a1 ≤ (rd σ 59 6) - (1 : Int32)) → Q (some (.int ((-1)))) σ)) : J Γ l (d + 2) mX12_priceAt Q 0 [(0, .ref 59), (1, .int a1), (2, .int a2)] [] σ := by
  refine J_aload_n (i := 0) (kk := 0) dX12_priceAt_0 rfl rfl ?_
  refine J_iload_n (i := 1) (kk := 1) dX12_priceAt_1 rfl rfl ?_
  refine J_callV [.int a1] [] calX12_isKind klX12_213 (b := 59) (ci := 12) (by decide) rfl rfl rfl rfl (Nat.le_of_ble_eq_true rfl) dX12_priceAt_2 (KI.to (S_X12_isKind a1) ?_)
  rintro x9 s9 ⟨rfl, ⟨g3, rfl⟩ | ⟨g3, rfl⟩⟩
  · replace h := h.1 g3
    refine J_if_eq 26 dX12_priceAt_5 (by decide) (fun hc => absurd hc (by decide)) (fun _ => ?_)
    refine J_iload_n (i := 2) (kk := 2) dX12_priceAt_8 rfl rfl ?_
    refine J_iconst (v := 0) dX12_priceAt_9 (by decide) ?_
    refine J_iconst (v := 3) dX12_priceAt_10 (by decide) ?_
    refine J_callS [.int a2, .int (0), .int (3)] [] calX12_in klX12_196 rfl rfl (Nat.le_of_ble_eq_true rfl) dX12_priceAt_11 (KI.to (S_X12_in a2 (0 : Int32) (3 : Int32)) ?_)
    rintro x9 s9 ⟨rfl, ⟨g2, rfl⟩ | ⟨g2, rfl⟩⟩
    · replace h := h.1 g2
      refine J_if_eq 26 dX12_priceAt_14 (by decide) (fun hc => absurd hc (by decide)) (fun _ => ?_)
      refine J_aload_n (i := 0) (kk := 0) dX12_priceAt_17 rfl rfl ?_
      refine J_iload_n (i := 1) (kk := 1) dX12_priceAt_18 rfl rfl ?_
      refine J_iload_n (i := 2) (kk := 2) dX12_priceAt_19 rfl rfl ?_
      have b1 := h.1
      replace h := h.2
      refine J_callV [.int a1, .int a2] [] calX12_priceBy klX12_216 (b := 59) (ci := 12) (by decide) rfl rfl rfl rfl (Nat.le_of_ble_eq_true rfl) dX12_priceAt_20 (KI.to (S_X12_priceBy a1 a2 b1) ?_)
      rintro x9 s9 ⟨rfl, rfl⟩
      refine J_goto (tgt := 27) dX12_priceAt_23 (by decide) ?_
      exact J_iret rfl dX12_priceAt_27 h
    · replace h := h.2 g2
      refine J_if_eq 26 dX12_priceAt_14 (by decide) (fun _ => ?_) (fun hc => absurd hc (by decide))
      refine J_iconst (v := (-1)) dX12_priceAt_26 (by decide) ?_
      exact J_iret rfl dX12_priceAt_27 h
  · replace h := h.2 g3
    refine J_if_eq 26 dX12_priceAt_5 (by decide) (fun _ => ?_) (fun hc => absurd hc (by decide))
    refine J_iconst (v := (-1)) dX12_priceAt_26 (by decide) ?_
    exact J_iret rfl dX12_priceAt_27 h
theorem M_X12_priceAt {Γ : GG} {l : Launch} {d : Nat} {Q : Option Value → St → Prop} {σ : St} (a1 : Int32) (a2 : Int32) (k : J Γ l (d + 2) mX12_priceAt Q 0 [(0, .ref 59), (1, .int a1), (2, .int a2)] [] σ) : Meth Γ l (d + 2) mX12_priceAt [.ref 59, .int a1, .int a2] σ Q := Meth_of_J (by decide +kernel) (fun _ => Nat.le_of_ble_eq_true rfl) (fun _ => rfl) k
set_option maxHeartbeats 4000000 in
set_option maxRecDepth 100000 in
theorem w_X12_throwing_0 {Γ : GG} {l : Launch} {d : Nat} {Q : Option Value → St → Prop} {σ : St} (a1 : Int32) (a2 : Int32) (h : (0 ≤ a1 ∧ a1 ≤ (rd σ 59 6) - (1 : Int32) → ((0 : Int32) ≤ a2 ∧ a2 ≤ (9999 : Int32) → vp_in a1 10 ∧ Q (some (.int (rd σ 67 (a1.toNatClampNeg)))) (wr σ 67 (a1.toNatClampNeg) a2)) ∧ (¬ ((0 : Int32) ≤ a2 ∧ a2 ≤ (9999 : Int32)) → Q (some (.int ((-1)))) σ)) ∧ (¬ (0 ≤ a1 ∧ a1 ≤ (rd σ 59 6) - (1 : Int32)) → Q (some (.int ((-1)))) σ)) : J Γ l (d + 2) mX12_throwing Q 0 [(0, .ref 59), (1, .int a1), (2, .int a2)] [] σ := by
  refine J_aload_n (i := 0) (kk := 0) dX12_throwing_0 rfl rfl ?_
  refine J_iload_n (i := 1) (kk := 1) dX12_throwing_1 rfl rfl ?_
  refine J_callV [.int a1] [] calX12_isKind klX12_213 (b := 59) (ci := 12) (by decide) rfl rfl rfl rfl (Nat.le_of_ble_eq_true rfl) dX12_throwing_2 (KI.to (S_X12_isKind a1) ?_)
  rintro x9 s9 ⟨rfl, ⟨g3, rfl⟩ | ⟨g3, rfl⟩⟩
  · replace h := h.1 g3
    refine J_if_eq 19 dX12_throwing_5 (by decide) (fun hc => absurd hc (by decide)) (fun _ => ?_)
    refine J_iload_n (i := 2) (kk := 2) dX12_throwing_8 rfl rfl ?_
    refine J_iconst (v := 0) dX12_throwing_9 (by decide) ?_
    refine J_sipush (v := 9999) dX12_throwing_10 (by decide) ?_
    refine J_callS [.int a2, .int (0), .int (9999)] [] calX12_in klX12_196 rfl rfl (Nat.le_of_ble_eq_true rfl) dX12_throwing_13 (KI.to (S_X12_in a2 (0 : Int32) (9999 : Int32)) ?_)
    rintro x9 s9 ⟨rfl, ⟨g2, rfl⟩ | ⟨g2, rfl⟩⟩
    · replace h := h.1 g2
      refine J_if_ne 21 dX12_throwing_16 (by decide) (fun _ => ?_) (fun hc => absurd hc (by decide))
      refine J_aload_n (i := 0) (kk := 0) dX12_throwing_21 rfl rfl ?_
      refine J_getR 67 (q := 59) (ci := 12) (kf := 11) kfX12_31 uxX12 rfl (by decide) rfl (by decide) rfl dX12_throwing_22 ?_
      refine J_iload_n (i := 1) (kk := 1) dX12_throwing_25 rfl rfl ?_
      have b1 := h.1
      replace h := h.2
      refine J_ald (a1.toNatClampNeg) rfl (by decide) rfl b1 dX12_throwing_26 ?_
      refine J_istore_n (i := 3) (lv' := [(3, .int (rd σ 67 (a1.toNatClampNeg))), (0, .ref 59), (1, .int a1), (2, .int a2)]) dX12_throwing_27 rfl (by decide) rfl ?_
      refine J_aload_n (i := 0) (kk := 1) dX12_throwing_28 rfl rfl ?_
      refine J_getR 67 (q := 59) (ci := 12) (kf := 11) kfX12_31 uxX12 rfl (by decide) rfl (by decide) rfl dX12_throwing_29 ?_
      refine J_iload_n (i := 1) (kk := 2) dX12_throwing_32 rfl rfl ?_
      refine J_iload_n (i := 2) (kk := 3) dX12_throwing_33 rfl rfl ?_
      refine J_ast (a1.toNatClampNeg) rfl (by decide) rfl b1 dX12_throwing_34 ?_
      refine J_iload_n (i := 3) (kk := 0) dX12_throwing_35 rfl rfl ?_
      exact J_iret rfl dX12_throwing_36 h
    · replace h := h.2 g2
      refine J_if_ne 21 dX12_throwing_16 (by decide) (fun hc => absurd hc (by decide)) (fun _ => ?_)
      refine J_iconst (v := (-1)) dX12_throwing_19 (by decide) ?_
      exact J_iret rfl dX12_throwing_20 h
  · replace h := h.2 g3
    refine J_if_eq 19 dX12_throwing_5 (by decide) (fun _ => ?_) (fun hc => absurd hc (by decide))
    refine J_iconst (v := (-1)) dX12_throwing_19 (by decide) ?_
    exact J_iret rfl dX12_throwing_20 h
theorem M_X12_throwing {Γ : GG} {l : Launch} {d : Nat} {Q : Option Value → St → Prop} {σ : St} (a1 : Int32) (a2 : Int32) (k : J Γ l (d + 2) mX12_throwing Q 0 [(0, .ref 59), (1, .int a1), (2, .int a2)] [] σ) : Meth Γ l (d + 2) mX12_throwing [.ref 59, .int a1, .int a2] σ Q := Meth_of_J (by decide +kernel) (fun _ => Nat.le_of_ble_eq_true rfl) (fun _ => rfl) k
set_option maxHeartbeats 4000000 in
set_option maxRecDepth 100000 in
theorem w_X12_weather_0 {Γ : GG} {l : Launch} {d : Nat} {Q : Option Value → St → Prop} {σ : St} (a1 : Int32) (a2 : Int32) (h : (0 ≤ a1 ∧ a1 ≤ 1499 → ((0 : Int32) ≤ a2 ∧ a2 ≤ (2 : Int32) → vp_in a1 1500 ∧ Q (some (.int (rd σ 68 (a1.toNatClampNeg)))) (wr σ 68 (a1.toNatClampNeg) a2)) ∧ (¬ ((0 : Int32) ≤ a2 ∧ a2 ≤ (2 : Int32)) → Q (some (.int ((-1)))) σ)) ∧ (¬ (0 ≤ a1 ∧ a1 ≤ 1499) → Q (some (.int ((-1)))) σ)) : J Γ l (d + 2) mX12_weather Q 0 [(0, .ref 59), (1, .int a1), (2, .int a2)] [] σ := by
  refine J_iload_n (i := 1) (kk := 1) dX12_weather_0 rfl rfl ?_
  refine J_callS [.int a1] [] calX12_isDay klX12_220 rfl rfl (Nat.le_of_ble_eq_true rfl) dX12_weather_1 (KI.to (S_X12_isDay a1) ?_)
  rintro x9 s9 ⟨rfl, ⟨g3, rfl⟩ | ⟨g3, rfl⟩⟩
  · replace h := h.1 g3
    refine J_if_eq 16 dX12_weather_4 (by decide) (fun hc => absurd hc (by decide)) (fun _ => ?_)
    refine J_iload_n (i := 2) (kk := 2) dX12_weather_7 rfl rfl ?_
    refine J_iconst (v := 0) dX12_weather_8 (by decide) ?_
    refine J_iconst (v := 2) dX12_weather_9 (by decide) ?_
    refine J_callS [.int a2, .int (0), .int (2)] [] calX12_in klX12_196 rfl rfl (Nat.le_of_ble_eq_true rfl) dX12_weather_10 (KI.to (S_X12_in a2 (0 : Int32) (2 : Int32)) ?_)
    rintro x9 s9 ⟨rfl, ⟨g2, rfl⟩ | ⟨g2, rfl⟩⟩
    · replace h := h.1 g2
      refine J_if_ne 18 dX12_weather_13 (by decide) (fun _ => ?_) (fun hc => absurd hc (by decide))
      refine J_aload_n (i := 0) (kk := 0) dX12_weather_18 rfl rfl ?_
      refine J_getR 68 (q := 59) (ci := 12) (kf := 12) kfX12_34 uxX12 rfl (by decide) rfl (by decide) rfl dX12_weather_19 ?_
      refine J_iload_n (i := 1) (kk := 1) dX12_weather_22 rfl rfl ?_
      have b1 := h.1
      replace h := h.2
      refine J_ald (a1.toNatClampNeg) rfl (by decide) rfl b1 dX12_weather_23 ?_
      refine J_istore_n (i := 3) (lv' := [(3, .int (rd σ 68 (a1.toNatClampNeg))), (0, .ref 59), (1, .int a1), (2, .int a2)]) dX12_weather_24 rfl (by decide) rfl ?_
      refine J_aload_n (i := 0) (kk := 1) dX12_weather_25 rfl rfl ?_
      refine J_getR 68 (q := 59) (ci := 12) (kf := 12) kfX12_34 uxX12 rfl (by decide) rfl (by decide) rfl dX12_weather_26 ?_
      refine J_iload_n (i := 1) (kk := 2) dX12_weather_29 rfl rfl ?_
      refine J_iload_n (i := 2) (kk := 3) dX12_weather_30 rfl rfl ?_
      refine J_ast (a1.toNatClampNeg) rfl (by decide) rfl b1 dX12_weather_31 ?_
      refine J_iload_n (i := 3) (kk := 0) dX12_weather_32 rfl rfl ?_
      exact J_iret rfl dX12_weather_33 h
    · replace h := h.2 g2
      refine J_if_ne 18 dX12_weather_13 (by decide) (fun hc => absurd hc (by decide)) (fun _ => ?_)
      refine J_iconst (v := (-1)) dX12_weather_16 (by decide) ?_
      exact J_iret rfl dX12_weather_17 h
  · replace h := h.2 g3
    refine J_if_eq 16 dX12_weather_4 (by decide) (fun _ => ?_) (fun hc => absurd hc (by decide))
    refine J_iconst (v := (-1)) dX12_weather_16 (by decide) ?_
    exact J_iret rfl dX12_weather_17 h
theorem M_X12_weather {Γ : GG} {l : Launch} {d : Nat} {Q : Option Value → St → Prop} {σ : St} (a1 : Int32) (a2 : Int32) (k : J Γ l (d + 2) mX12_weather Q 0 [(0, .ref 59), (1, .int a1), (2, .int a2)] [] σ) : Meth Γ l (d + 2) mX12_weather [.ref 59, .int a1, .int a2] σ Q := Meth_of_J (by decide +kernel) (fun _ => Nat.le_of_ble_eq_true rfl) (fun _ => rfl) k
set_option maxHeartbeats 4000000 in
set_option maxRecDepth 100000 in
theorem w_X12_cut_0 {Γ : GG} {l : Launch} {d : Nat} {Q : Option Value → St → Prop} {σ : St} (a1 : Int32) (a2 : Int32) (a3 : Int32) (h : ((0 ≤ a1 ∧ a1 ≤ (rd σ 59 2) - (1 : Int32)) ∧ 0 ≤ a2 ∧ a2 ≤ (rd σ 59 6) - (1 : Int32) → ((0 : Int32) ≤ a3 ∧ a3 ≤ (3 : Int32) → vp_in (((10 : Int32) * a1) + a2) 120 ∧ ∀ x2 : Int32, x2 = rd σ 69 ((((10 : Int32) * a1) + a2).toNatClampNeg) → (x2 < a3 → Q (some (.int x2)) (wr σ 69 ((((10 : Int32) * a1) + a2).toNatClampNeg) a3)) ∧ (¬ x2 < a3 → Q (some (.int ((-2)))) σ)) ∧ (¬ ((0 : Int32) ≤ a3 ∧ a3 ≤ (3 : Int32)) → Q (some (.int ((-1)))) σ)) ∧ (¬ ((0 ≤ a1 ∧ a1 ≤ (rd σ 59 2) - (1 : Int32)) ∧ 0 ≤ a2 ∧ a2 ≤ (rd σ 59 6) - (1 : Int32)) → Q (some (.int ((-1)))) σ)) : J Γ l (d + 3) mX12_cut Q 0 [(0, .ref 59), (1, .int a1), (2, .int a2), (3, .int a3)] [] σ := by
  refine J_aload_n (i := 0) (kk := 0) dX12_cut_0 rfl rfl ?_
  refine J_iload_n (i := 1) (kk := 1) dX12_cut_1 rfl rfl ?_
  refine J_iload_n (i := 2) (kk := 2) dX12_cut_2 rfl rfl ?_
  refine J_callV [.int a1, .int a2] [] calX12_areBoth klX12_223 (b := 59) (ci := 12) (by decide) rfl rfl rfl rfl (Nat.le_of_ble_eq_true rfl) dX12_cut_3 (KI.to (S_X12_areBoth a1 a2) ?_)
  rintro x9 s9 ⟨rfl, ⟨g4, rfl⟩ | ⟨g4, rfl⟩⟩
  · replace h := h.1 g4
    refine J_if_eq 18 dX12_cut_6 (by decide) (fun hc => absurd hc (by decide)) (fun _ => ?_)
    refine J_iload_n (i := 3) (kk := 3) dX12_cut_9 rfl rfl ?_
    refine J_iconst (v := 0) dX12_cut_10 (by decide) ?_
    refine J_iconst (v := 3) dX12_cut_11 (by decide) ?_
    refine J_callS [.int a3, .int (0), .int (3)] [] calX12_in klX12_196 rfl rfl (Nat.le_of_ble_eq_true rfl) dX12_cut_12 (KI.to (S_X12_in a3 (0 : Int32) (3 : Int32)) ?_)
    rintro x9 s9 ⟨rfl, ⟨g3, rfl⟩ | ⟨g3, rfl⟩⟩
    · replace h := h.1 g3
      refine J_if_ne 20 dX12_cut_15 (by decide) (fun _ => ?_) (fun hc => absurd hc (by decide))
      refine J_aload_n (i := 0) (kk := 0) dX12_cut_20 rfl rfl ?_
      refine J_getR 69 (q := 59) (ci := 12) (kf := 13) kfX12_37 uxX12 rfl (by decide) rfl (by decide) rfl dX12_cut_21 ?_
      refine J_bipush (v := 10) dX12_cut_24 (by decide) ?_
      refine J_iload_n (i := 1) (kk := 1) dX12_cut_26 rfl rfl ?_
      refine J_imul dX12_cut_27 ?_
      refine J_iload_n (i := 2) (kk := 2) dX12_cut_28 rfl rfl ?_
      refine J_iadd dX12_cut_29 ?_
      have b1 := h.1
      replace h := h.2
      refine J_ald ((((10 : Int32) * a1) + a2).toNatClampNeg) rfl (by decide) rfl b1 dX12_cut_30 ?_
      refine J_nameI (fun x2 ex2 => ?_)
      replace h := h x2 ex2
      refine J_istore (i := 4) (lv' := [(4, .int x2), (0, .ref 59), (1, .int a1), (2, .int a2), (3, .int a3)]) dX12_cut_31 (by decide) rfl ?_
      refine J_iload_n (i := 3) (kk := 4) dX12_cut_33 rfl rfl ?_
      refine J_iload (i := 4) (kk := 0) dX12_cut_34 rfl ?_
      refine J_icmp_gt 42 dX12_cut_36 (by decide) (fun hc => ?_) (fun hc => ?_)
      · replace h := h.1 hc
        refine J_aload_n (i := 0) (kk := 1) dX12_cut_42 rfl rfl ?_
        refine J_getR 69 (q := 59) (ci := 12) (kf := 13) kfX12_37 uxX12 rfl (by decide) rfl (by decide) rfl dX12_cut_43 ?_
        refine J_bipush (v := 10) dX12_cut_46 (by decide) ?_
        refine J_iload_n (i := 1) (kk := 2) dX12_cut_48 rfl rfl ?_
        refine J_imul dX12_cut_49 ?_
        refine J_iload_n (i := 2) (kk := 3) dX12_cut_50 rfl rfl ?_
        refine J_iadd dX12_cut_51 ?_
        refine J_iload_n (i := 3) (kk := 4) dX12_cut_52 rfl rfl ?_
        refine J_ast ((((10 : Int32) * a1) + a2).toNatClampNeg) rfl (by decide) rfl b1 dX12_cut_53 ?_
        refine J_iload (i := 4) (kk := 0) dX12_cut_54 rfl ?_
        exact J_iret rfl dX12_cut_56 h
      · replace h := h.2 hc
        refine J_bipush (v := (-2)) dX12_cut_39 (by decide) ?_
        exact J_iret rfl dX12_cut_41 h
    · replace h := h.2 g3
      refine J_if_ne 20 dX12_cut_15 (by decide) (fun hc => absurd hc (by decide)) (fun _ => ?_)
      refine J_iconst (v := (-1)) dX12_cut_18 (by decide) ?_
      exact J_iret rfl dX12_cut_19 h
  · replace h := h.2 g4
    refine J_if_eq 18 dX12_cut_6 (by decide) (fun _ => ?_) (fun hc => absurd hc (by decide))
    refine J_iconst (v := (-1)) dX12_cut_18 (by decide) ?_
    exact J_iret rfl dX12_cut_19 h
theorem M_X12_cut {Γ : GG} {l : Launch} {d : Nat} {Q : Option Value → St → Prop} {σ : St} (a1 : Int32) (a2 : Int32) (a3 : Int32) (k : J Γ l (d + 3) mX12_cut Q 0 [(0, .ref 59), (1, .int a1), (2, .int a2), (3, .int a3)] [] σ) : Meth Γ l (d + 3) mX12_cut [.ref 59, .int a1, .int a2, .int a3] σ Q := Meth_of_J (by decide +kernel) (fun _ => Nat.le_of_ble_eq_true rfl) (fun _ => rfl) k
set_option maxHeartbeats 4000000 in
set_option maxRecDepth 100000 in
theorem w_X12_step_0 {Γ : GG} {l : Launch} {d : Nat} {Q : Option Value → St → Prop} {σ : St} (a1 : Int32) (a2 : Int32) (h : ((0 ≤ a1 ∧ a1 ≤ (rd σ 59 2) - (1 : Int32)) ∧ 0 ≤ a2 ∧ a2 ≤ (rd σ 59 6) - (1 : Int32) → vp_in (((10 : Int32) * a1) + a2) 120 ∧ Q (some (.int (rd σ 69 ((((10 : Int32) * a1) + a2).toNatClampNeg)))) σ) ∧ (¬ ((0 ≤ a1 ∧ a1 ≤ (rd σ 59 2) - (1 : Int32)) ∧ 0 ≤ a2 ∧ a2 ≤ (rd σ 59 6) - (1 : Int32)) → Q (some (.int ((-1)))) σ)) : J Γ l (d + 3) mX12_step Q 0 [(0, .ref 59), (1, .int a1), (2, .int a2)] [] σ := by
  refine J_aload_n (i := 0) (kk := 0) dX12_step_0 rfl rfl ?_
  refine J_iload_n (i := 1) (kk := 1) dX12_step_1 rfl rfl ?_
  refine J_iload_n (i := 2) (kk := 2) dX12_step_2 rfl rfl ?_
  refine J_callV [.int a1, .int a2] [] calX12_areBoth klX12_223 (b := 59) (ci := 12) (by decide) rfl rfl rfl rfl (Nat.le_of_ble_eq_true rfl) dX12_step_3 (KI.to (S_X12_areBoth a1 a2) ?_)
  rintro x9 s9 ⟨rfl, ⟨g2, rfl⟩ | ⟨g2, rfl⟩⟩
  · replace h := h.1 g2
    refine J_if_eq 23 dX12_step_6 (by decide) (fun hc => absurd hc (by decide)) (fun _ => ?_)
    refine J_aload_n (i := 0) (kk := 0) dX12_step_9 rfl rfl ?_
    refine J_getR 69 (q := 59) (ci := 12) (kf := 13) kfX12_37 uxX12 rfl (by decide) rfl (by decide) rfl dX12_step_10 ?_
    refine J_bipush (v := 10) dX12_step_13 (by decide) ?_
    refine J_iload_n (i := 1) (kk := 1) dX12_step_15 rfl rfl ?_
    refine J_imul dX12_step_16 ?_
    refine J_iload_n (i := 2) (kk := 2) dX12_step_17 rfl rfl ?_
    refine J_iadd dX12_step_18 ?_
    have b1 := h.1
    replace h := h.2
    refine J_ald ((((10 : Int32) * a1) + a2).toNatClampNeg) rfl (by decide) rfl b1 dX12_step_19 ?_
    refine J_goto (tgt := 24) dX12_step_20 (by decide) ?_
    exact J_iret rfl dX12_step_24 h
  · replace h := h.2 g2
    refine J_if_eq 23 dX12_step_6 (by decide) (fun _ => ?_) (fun hc => absurd hc (by decide))
    refine J_iconst (v := (-1)) dX12_step_23 (by decide) ?_
    exact J_iret rfl dX12_step_24 h
theorem M_X12_step {Γ : GG} {l : Launch} {d : Nat} {Q : Option Value → St → Prop} {σ : St} (a1 : Int32) (a2 : Int32) (k : J Γ l (d + 3) mX12_step Q 0 [(0, .ref 59), (1, .int a1), (2, .int a2)] [] σ) : Meth Γ l (d + 3) mX12_step [.ref 59, .int a1, .int a2] σ Q := Meth_of_J (by decide +kernel) (fun _ => Nat.le_of_ble_eq_true rfl) (fun _ => rfl) k
set_option maxHeartbeats 4000000 in
set_option maxRecDepth 100000 in
theorem w_X12_warm_0 {Γ : GG} {l : Launch} {d : Nat} {Q : Option Value → St → Prop} {σ : St} (a1 : Int32) (a2 : Int32) (a3 : Int32) (h : ((0 ≤ a1 ∧ a1 ≤ (rd σ 59 2) - (1 : Int32)) ∧ 0 ≤ a2 ∧ a2 ≤ (rd σ 59 6) - (1 : Int32) → ((0 : Int32) ≤ a3 ∧ a3 ≤ (24 : Int32) → vp_in (((10 : Int32) * a1) + a2) 120 ∧ ∀ x2 : Int32, x2 = rd σ 70 ((((10 : Int32) * a1) + a2).toNatClampNeg) → Q (some (.int x2)) (wr σ 70 ((((10 : Int32) * a1) + a2).toNatClampNeg) a3)) ∧ (¬ ((0 : Int32) ≤ a3 ∧ a3 ≤ (24 : Int32)) → Q (some (.int ((-1)))) σ)) ∧ (¬ ((0 ≤ a1 ∧ a1 ≤ (rd σ 59 2) - (1 : Int32)) ∧ 0 ≤ a2 ∧ a2 ≤ (rd σ 59 6) - (1 : Int32)) → Q (some (.int ((-1)))) σ)) : J Γ l (d + 3) mX12_warm Q 0 [(0, .ref 59), (1, .int a1), (2, .int a2), (3, .int a3)] [] σ := by
  refine J_aload_n (i := 0) (kk := 0) dX12_warm_0 rfl rfl ?_
  refine J_iload_n (i := 1) (kk := 1) dX12_warm_1 rfl rfl ?_
  refine J_iload_n (i := 2) (kk := 2) dX12_warm_2 rfl rfl ?_
  refine J_callV [.int a1, .int a2] [] calX12_areBoth klX12_223 (b := 59) (ci := 12) (by decide) rfl rfl rfl rfl (Nat.le_of_ble_eq_true rfl) dX12_warm_3 (KI.to (S_X12_areBoth a1 a2) ?_)
  rintro x9 s9 ⟨rfl, ⟨g4, rfl⟩ | ⟨g4, rfl⟩⟩
  · replace h := h.1 g4
    refine J_if_eq 19 dX12_warm_6 (by decide) (fun hc => absurd hc (by decide)) (fun _ => ?_)
    refine J_iload_n (i := 3) (kk := 3) dX12_warm_9 rfl rfl ?_
    refine J_iconst (v := 0) dX12_warm_10 (by decide) ?_
    refine J_bipush (v := 24) dX12_warm_11 (by decide) ?_
    refine J_callS [.int a3, .int (0), .int (24)] [] calX12_in klX12_196 rfl rfl (Nat.le_of_ble_eq_true rfl) dX12_warm_13 (KI.to (S_X12_in a3 (0 : Int32) (24 : Int32)) ?_)
    rintro x9 s9 ⟨rfl, ⟨g3, rfl⟩ | ⟨g3, rfl⟩⟩
    · replace h := h.1 g3
      refine J_if_ne 21 dX12_warm_16 (by decide) (fun _ => ?_) (fun hc => absurd hc (by decide))
      refine J_aload_n (i := 0) (kk := 0) dX12_warm_21 rfl rfl ?_
      refine J_getR 70 (q := 59) (ci := 12) (kf := 14) kfX12_40 uxX12 rfl (by decide) rfl (by decide) rfl dX12_warm_22 ?_
      refine J_bipush (v := 10) dX12_warm_25 (by decide) ?_
      refine J_iload_n (i := 1) (kk := 1) dX12_warm_27 rfl rfl ?_
      refine J_imul dX12_warm_28 ?_
      refine J_iload_n (i := 2) (kk := 2) dX12_warm_29 rfl rfl ?_
      refine J_iadd dX12_warm_30 ?_
      have b1 := h.1
      replace h := h.2
      refine J_ald ((((10 : Int32) * a1) + a2).toNatClampNeg) rfl (by decide) rfl b1 dX12_warm_31 ?_
      refine J_nameI (fun x2 ex2 => ?_)
      replace h := h x2 ex2
      refine J_istore (i := 4) (lv' := [(4, .int x2), (0, .ref 59), (1, .int a1), (2, .int a2), (3, .int a3)]) dX12_warm_32 (by decide) rfl ?_
      refine J_aload_n (i := 0) (kk := 1) dX12_warm_34 rfl rfl ?_
      refine J_getR 70 (q := 59) (ci := 12) (kf := 14) kfX12_40 uxX12 rfl (by decide) rfl (by decide) rfl dX12_warm_35 ?_
      refine J_bipush (v := 10) dX12_warm_38 (by decide) ?_
      refine J_iload_n (i := 1) (kk := 2) dX12_warm_40 rfl rfl ?_
      refine J_imul dX12_warm_41 ?_
      refine J_iload_n (i := 2) (kk := 3) dX12_warm_42 rfl rfl ?_
      refine J_iadd dX12_warm_43 ?_
      refine J_iload_n (i := 3) (kk := 4) dX12_warm_44 rfl rfl ?_
      refine J_ast ((((10 : Int32) * a1) + a2).toNatClampNeg) rfl (by decide) rfl b1 dX12_warm_45 ?_
      refine J_iload (i := 4) (kk := 0) dX12_warm_46 rfl ?_
      exact J_iret rfl dX12_warm_48 h
    · replace h := h.2 g3
      refine J_if_ne 21 dX12_warm_16 (by decide) (fun hc => absurd hc (by decide)) (fun _ => ?_)
      refine J_iconst (v := (-1)) dX12_warm_19 (by decide) ?_
      exact J_iret rfl dX12_warm_20 h
  · replace h := h.2 g4
    refine J_if_eq 19 dX12_warm_6 (by decide) (fun _ => ?_) (fun hc => absurd hc (by decide))
    refine J_iconst (v := (-1)) dX12_warm_19 (by decide) ?_
    exact J_iret rfl dX12_warm_20 h
theorem M_X12_warm {Γ : GG} {l : Launch} {d : Nat} {Q : Option Value → St → Prop} {σ : St} (a1 : Int32) (a2 : Int32) (a3 : Int32) (k : J Γ l (d + 3) mX12_warm Q 0 [(0, .ref 59), (1, .int a1), (2, .int a2), (3, .int a3)] [] σ) : Meth Γ l (d + 3) mX12_warm [.ref 59, .int a1, .int a2, .int a3] σ Q := Meth_of_J (by decide +kernel) (fun _ => Nat.le_of_ble_eq_true rfl) (fun _ => rfl) k
set_option maxHeartbeats 4000000 in
set_option maxRecDepth 100000 in
theorem w_X12_addBatch_0 {Γ : GG} {l : Launch} {d : Nat} {Q : Option Value → St → Prop} {σ : St} (a1 : Int32) (a2 : Int32) (a3 : Int32) (a4 : Int32) (a5 : Int32) (a6 : Int32) (h : vp_in (rd σ 59 16) 200 ∧ Q none (wr (wr (wr (wr (wr (wr (wr (wr σ 71 ((rd σ 59 16).toNatClampNeg) a1) 72 ((rd σ 59 16).toNatClampNeg) a2) 73 ((rd σ 59 16).toNatClampNeg) a3) 74 ((rd σ 59 16).toNatClampNeg) a4) 75 ((rd σ 59 16).toNatClampNeg) ((rd σ 59 1) / (24 : Int32))) 76 ((rd σ 59 16).toNatClampNeg) a5) 82 ((rd σ 59 16).toNatClampNeg) a6) 59 16 ((rd σ 59 16) + (1 : Int32)))) : J Γ l (d + 1) mX12_addBatch Q 0 [(0, .ref 59), (1, .int a1), (2, .int a2), (3, .int a3), (4, .int a4), (5, .int a5), (6, .int a6)] [] σ := by
  refine J_aload_n (i := 0) (kk := 0) dX12_addBatch_0 rfl rfl ?_
  refine J_getR 71 (q := 59) (ci := 12) (kf := 17) kfX12_43 uxX12 rfl (by decide) rfl (by decide) rfl dX12_addBatch_1 ?_
  refine J_aload_n (i := 0) (kk := 0) dX12_addBatch_4 rfl rfl ?_
  refine J_getI (q := 59) (ci := 12) (kf := 16) kfX12_227 uxX12 rfl (by decide) rfl (by decide) rfl dX12_addBatch_5 ?_
  refine J_iload_n (i := 1) (kk := 1) dX12_addBatch_8 rfl rfl ?_
  have b1 := h.1
  replace h := h.2
  refine J_ast ((rd σ 59 16).toNatClampNeg) rfl (by decide) rfl b1 dX12_addBatch_9 ?_
  refine J_aload_n (i := 0) (kk := 0) dX12_addBatch_10 rfl rfl ?_
  refine J_getR 72 (q := 59) (ci := 12) (kf := 18) kfX12_46 uxX12 rfl (by decide) rfl (by decide) rfl dX12_addBatch_11 ?_
  refine J_aload_n (i := 0) (kk := 0) dX12_addBatch_14 rfl rfl ?_
  refine J_getI (q := 59) (ci := 12) (kf := 16) kfX12_227 uxX12 rfl (by decide) rfl (by decide) rfl dX12_addBatch_15 ?_
  refine J_eqI (y := rd σ 59 16) rfl ?_
  refine J_iload_n (i := 2) (kk := 2) dX12_addBatch_18 rfl rfl ?_
  refine J_ast ((rd σ 59 16).toNatClampNeg) rfl (by decide) rfl b1 dX12_addBatch_19 ?_
  refine J_aload_n (i := 0) (kk := 0) dX12_addBatch_20 rfl rfl ?_
  refine J_getR 73 (q := 59) (ci := 12) (kf := 19) kfX12_49 uxX12 rfl (by decide) rfl (by decide) rfl dX12_addBatch_21 ?_
  refine J_aload_n (i := 0) (kk := 0) dX12_addBatch_24 rfl rfl ?_
  refine J_getI (q := 59) (ci := 12) (kf := 16) kfX12_227 uxX12 rfl (by decide) rfl (by decide) rfl dX12_addBatch_25 ?_
  refine J_eqI (y := rd σ 59 16) rfl ?_
  refine J_iload_n (i := 3) (kk := 3) dX12_addBatch_28 rfl rfl ?_
  refine J_ast ((rd σ 59 16).toNatClampNeg) rfl (by decide) rfl b1 dX12_addBatch_29 ?_
  refine J_aload_n (i := 0) (kk := 0) dX12_addBatch_30 rfl rfl ?_
  refine J_getR 74 (q := 59) (ci := 12) (kf := 20) kfX12_52 uxX12 rfl (by decide) rfl (by decide) rfl dX12_addBatch_31 ?_
  refine J_aload_n (i := 0) (kk := 0) dX12_addBatch_34 rfl rfl ?_
  refine J_getI (q := 59) (ci := 12) (kf := 16) kfX12_227 uxX12 rfl (by decide) rfl (by decide) rfl dX12_addBatch_35 ?_
  refine J_eqI (y := rd σ 59 16) rfl ?_
  refine J_iload (i := 4) (kk := 4) dX12_addBatch_38 rfl ?_
  refine J_ast ((rd σ 59 16).toNatClampNeg) rfl (by decide) rfl b1 dX12_addBatch_40 ?_
  refine J_aload_n (i := 0) (kk := 0) dX12_addBatch_41 rfl rfl ?_
  refine J_getR 75 (q := 59) (ci := 12) (kf := 21) kfX12_55 uxX12 rfl (by decide) rfl (by decide) rfl dX12_addBatch_42 ?_
  refine J_aload_n (i := 0) (kk := 0) dX12_addBatch_45 rfl rfl ?_
  refine J_getI (q := 59) (ci := 12) (kf := 16) kfX12_227 uxX12 rfl (by decide) rfl (by decide) rfl dX12_addBatch_46 ?_
  refine J_eqI (y := rd σ 59 16) rfl ?_
  refine J_aload_n (i := 0) (kk := 0) dX12_addBatch_49 rfl rfl ?_
  refine J_callV [] [.int (rd σ 59 16), .ref 75] calX12_today klX12_230 (b := 59) (ci := 12) (by decide) rfl rfl rfl rfl (Nat.le_of_ble_eq_true rfl) dX12_addBatch_50 (KI.to (S_X12_today) ?_)
  rintro x9 s9 ⟨rfl, rfl⟩
  refine J_eqI (y := (rd σ 59 1) / (24 : Int32)) rfl ?_
  refine J_ast ((rd σ 59 16).toNatClampNeg) rfl (by decide) rfl b1 dX12_addBatch_53 ?_
  refine J_aload_n (i := 0) (kk := 0) dX12_addBatch_54 rfl rfl ?_
  refine J_getR 76 (q := 59) (ci := 12) (kf := 22) kfX12_58 uxX12 rfl (by decide) rfl (by decide) rfl dX12_addBatch_55 ?_
  refine J_aload_n (i := 0) (kk := 0) dX12_addBatch_58 rfl rfl ?_
  refine J_getI (q := 59) (ci := 12) (kf := 16) kfX12_227 uxX12 rfl (by decide) rfl (by decide) rfl dX12_addBatch_59 ?_
  refine J_eqI (y := rd σ 59 16) rfl ?_
  refine J_iload (i := 5) (kk := 5) dX12_addBatch_62 rfl ?_
  refine J_ast ((rd σ 59 16).toNatClampNeg) rfl (by decide) rfl b1 dX12_addBatch_64 ?_
  refine J_aload_n (i := 0) (kk := 0) dX12_addBatch_65 rfl rfl ?_
  refine J_getR 82 (q := 59) (ci := 12) (kf := 28) kfX12_76 uxX12 rfl (by decide) rfl (by decide) rfl dX12_addBatch_66 ?_
  refine J_aload_n (i := 0) (kk := 0) dX12_addBatch_69 rfl rfl ?_
  refine J_getI (q := 59) (ci := 12) (kf := 16) kfX12_227 uxX12 rfl (by decide) rfl (by decide) rfl dX12_addBatch_70 ?_
  refine J_eqI (y := rd σ 59 16) rfl ?_
  refine J_iload (i := 6) (kk := 6) dX12_addBatch_73 rfl ?_
  refine J_ast ((rd σ 59 16).toNatClampNeg) rfl (by decide) rfl b1 dX12_addBatch_75 ?_
  refine J_aload_n (i := 0) (kk := 0) dX12_addBatch_76 rfl rfl ?_
  refine J_dup dX12_addBatch_77 rfl ?_
  refine J_getI (q := 59) (ci := 12) (kf := 16) kfX12_227 uxX12 rfl (by decide) rfl (by decide) rfl dX12_addBatch_78 ?_
  refine J_eqI (y := rd σ 59 16) rfl ?_
  refine J_iconst (v := 1) dX12_addBatch_81 (by decide) ?_
  refine J_iadd dX12_addBatch_82 ?_
  refine J_putf (q := 59) (ci := 12) (kf := 16) (ty := .int) kfX12_227 uxX12 tyX12_ok nmX12 rfl (by decide) rfl (by decide) rfl rfl rfl rfl rfl dX12_addBatch_83 ?_
  exact J_vret rfl dX12_addBatch_86 h
theorem M_X12_addBatch {Γ : GG} {l : Launch} {d : Nat} {Q : Option Value → St → Prop} {σ : St} (a1 : Int32) (a2 : Int32) (a3 : Int32) (a4 : Int32) (a5 : Int32) (a6 : Int32) (k : J Γ l (d + 1) mX12_addBatch Q 0 [(0, .ref 59), (1, .int a1), (2, .int a2), (3, .int a3), (4, .int a4), (5, .int a5), (6, .int a6)] [] σ) : Meth Γ l (d + 1) mX12_addBatch [.ref 59, .int a1, .int a2, .int a3, .int a4, .int a5, .int a6] σ Q := Meth_of_J (by decide +kernel) (fun _ => Nat.le_of_ble_eq_true rfl) (fun _ => rfl) k
set_option maxHeartbeats 4000000 in
set_option maxRecDepth 100000 in
theorem w_X12_batch_0 {Γ : GG} {l : Launch} {d : Nat} {Q : Option Value → St → Prop} {σ : St} (a1 : Int32) (a2 : Int32) (a3 : Int32) (a4 : Int32) (h : (0 ≤ a1 ∧ a1 ≤ (rd σ 59 2) - (1 : Int32) → (a2 < (0 : Int32) → Q (some (.int ((-1)))) σ) ∧ (¬ a2 < (0 : Int32) → (0 ≤ (a2 / (100 : Int32)) ∧ (a2 / (100 : Int32)) ≤ (rd σ 59 6) - (1 : Int32) → ((0 : Int32) ≤ a3 ∧ a3 ≤ (9 : Int32) → (((rd σ 59 1) / (24 : Int32)) - a3 < (0 : Int32) → Q (some (.int ((-1)))) σ) ∧ (¬ ((rd σ 59 1) / (24 : Int32)) - a3 < (0 : Int32) → ((1 : Int32) ≤ a4 ∧ a4 ≤ (999 : Int32) → (rd σ 59 16 = (200 : Int32) → Q (some (.int ((-3)))) σ) ∧ (¬ rd σ 59 16 = (200 : Int32) → Meth Γ l (d + 1) mX12_addBatch [.ref 59, .int a1, .int (a2 / (100 : Int32)), .int (a2 - a2 / (100 : Int32) * (100 : Int32)), .int (((rd σ 59 1) / (24 : Int32)) - a3), .int a4, .int ((-1))] σ (KV (fun σ1 => vp_in (a2 / (100 : Int32)) 10 ∧ Q (some (.int ((rd σ1 59 16) - (1 : Int32)))) (wr σ1 59 15 ((rd σ1 59 15) + (a4 * (rd σ1 64 ((a2 / (100 : Int32)).toNatClampNeg))))))))) ∧ (¬ ((1 : Int32) ≤ a4 ∧ a4 ≤ (999 : Int32)) → Q (some (.int ((-1)))) σ))) ∧ (¬ ((0 : Int32) ≤ a3 ∧ a3 ≤ (9 : Int32)) → Q (some (.int ((-1)))) σ)) ∧ (¬ (0 ≤ (a2 / (100 : Int32)) ∧ (a2 / (100 : Int32)) ≤ (rd σ 59 6) - (1 : Int32)) → Q (some (.int ((-1)))) σ))) ∧ (¬ (0 ≤ a1 ∧ a1 ≤ (rd σ 59 2) - (1 : Int32)) → Q (some (.int ((-1)))) σ)) : J Γ l (d + 2) mX12_batch Q 0 [(0, .ref 59), (1, .int a1), (2, .int a2), (3, .int a3), (4, .int a4)] [] σ := by
  refine J_aload_n (i := 0) (kk := 0) dX12_batch_0 rfl rfl ?_
  refine J_iload_n (i := 1) (kk := 1) dX12_batch_1 rfl rfl ?_
  refine J_callV [.int a1] [] calX12_isShop klX12_209 (b := 59) (ci := 12) (by decide) rfl rfl rfl rfl (Nat.le_of_ble_eq_true rfl) dX12_batch_2 (KI.to (S_X12_isShop a1) ?_)
  rintro x9 s9 ⟨rfl, ⟨g6, rfl⟩ | ⟨g6, rfl⟩⟩
  · replace h := h.1 g6
    refine J_if_eq 54 dX12_batch_5 (by decide) (fun hc => absurd hc (by decide)) (fun _ => ?_)
    refine J_iload_n (i := 2) (kk := 2) dX12_batch_8 rfl rfl ?_
    refine J_if_lt 54 dX12_batch_9 (by decide) (fun hc => ?_) (fun hc => ?_)
    · replace h := h.1 hc
      refine J_iconst (v := (-1)) dX12_batch_54 (by decide) ?_
      exact J_iret rfl dX12_batch_55 h
    · replace h := h.2 hc
      refine J_aload_n (i := 0) (kk := 0) dX12_batch_12 rfl rfl ?_
      refine J_iload_n (i := 2) (kk := 2) dX12_batch_13 rfl rfl ?_
      refine J_bipush (v := 100) dX12_batch_14 (by decide) ?_
      refine J_idiv dX12_batch_16 (by decide) ?_
      refine J_callV [.int (a2 / (100 : Int32))] [] calX12_isKind klX12_213 (b := 59) (ci := 12) (by decide) rfl rfl rfl rfl (Nat.le_of_ble_eq_true rfl) dX12_batch_17 (KI.to (S_X12_isKind (a2 / (100 : Int32))) ?_)
      rintro x9 s9 ⟨rfl, ⟨g5, rfl⟩ | ⟨g5, rfl⟩⟩
      · replace h := h.1 g5
        refine J_if_eq 54 dX12_batch_20 (by decide) (fun hc => absurd hc (by decide)) (fun _ => ?_)
        refine J_iload_n (i := 3) (kk := 3) dX12_batch_23 rfl rfl ?_
        refine J_iconst (v := 0) dX12_batch_24 (by decide) ?_
        refine J_bipush (v := 9) dX12_batch_25 (by decide) ?_
        refine J_callS [.int a3, .int (0), .int (9)] [] calX12_in klX12_196 rfl rfl (Nat.le_of_ble_eq_true rfl) dX12_batch_27 (KI.to (S_X12_in a3 (0 : Int32) (9 : Int32)) ?_)
        rintro x9 s9 ⟨rfl, ⟨g4, rfl⟩ | ⟨g4, rfl⟩⟩
        · replace h := h.1 g4
          refine J_if_eq 54 dX12_batch_30 (by decide) (fun hc => absurd hc (by decide)) (fun _ => ?_)
          refine J_aload_n (i := 0) (kk := 0) dX12_batch_33 rfl rfl ?_
          refine J_callV [] [] calX12_today klX12_230 (b := 59) (ci := 12) (by decide) rfl rfl rfl rfl (Nat.le_of_ble_eq_true rfl) dX12_batch_34 (KI.to (S_X12_today) ?_)
          rintro x9 s9 ⟨rfl, rfl⟩
          refine J_iload_n (i := 3) (kk := 3) dX12_batch_37 rfl rfl ?_
          refine J_isub dX12_batch_38 ?_
          refine J_if_lt 54 dX12_batch_39 (by decide) (fun hc => ?_) (fun hc => ?_)
          · replace h := h.1 hc
            refine J_iconst (v := (-1)) dX12_batch_54 (by decide) ?_
            exact J_iret rfl dX12_batch_55 h
          · replace h := h.2 hc
            refine J_iload (i := 4) (kk := 4) dX12_batch_42 rfl ?_
            refine J_iconst (v := 1) dX12_batch_44 (by decide) ?_
            refine J_sipush (v := 999) dX12_batch_45 (by decide) ?_
            refine J_callS [.int a4, .int (1), .int (999)] [] calX12_in klX12_196 rfl rfl (Nat.le_of_ble_eq_true rfl) dX12_batch_48 (KI.to (S_X12_in a4 (1 : Int32) (999 : Int32)) ?_)
            rintro x9 s9 ⟨rfl, ⟨g3, rfl⟩ | ⟨g3, rfl⟩⟩
            · replace h := h.1 g3
              refine J_if_ne 56 dX12_batch_51 (by decide) (fun _ => ?_) (fun hc => absurd hc (by decide))
              refine J_aload_n (i := 0) (kk := 0) dX12_batch_56 rfl rfl ?_
              refine J_getI (q := 59) (ci := 12) (kf := 16) kfX12_227 uxX12 rfl (by decide) rfl (by decide) rfl dX12_batch_57 ?_
              refine J_sipush (v := 200) dX12_batch_60 (by decide) ?_
              refine J_icmp_ne 69 dX12_batch_63 (by decide) (fun hc => ?_) (fun hc => ?_)
              · replace h := h.2 hc
                refine J_aload_n (i := 0) (kk := 0) dX12_batch_69 rfl rfl ?_
                refine J_iload_n (i := 1) (kk := 1) dX12_batch_70 rfl rfl ?_
                refine J_iload_n (i := 2) (kk := 2) dX12_batch_71 rfl rfl ?_
                refine J_bipush (v := 100) dX12_batch_72 (by decide) ?_
                refine J_idiv dX12_batch_74 (by decide) ?_
                refine J_iload_n (i := 2) (kk := 2) dX12_batch_75 rfl rfl ?_
                refine J_bipush (v := 100) dX12_batch_76 (by decide) ?_
                refine J_irem dX12_batch_78 (by decide) ?_
                refine J_aload_n (i := 0) (kk := 0) dX12_batch_79 rfl rfl ?_
                refine J_callV [] [.int (a2 - a2 / (100 : Int32) * (100 : Int32)), .int (a2 / (100 : Int32)), .int a1, .ref 59] calX12_today klX12_230 (b := 59) (ci := 12) (by decide) rfl rfl rfl rfl (Nat.le_of_ble_eq_true rfl) dX12_batch_80 (KI.to (S_X12_today) ?_)
                rintro x9 s9 ⟨rfl, rfl⟩
                refine J_iload_n (i := 3) (kk := 3) dX12_batch_83 rfl rfl ?_
                refine J_isub dX12_batch_84 ?_
                refine J_iload (i := 4) (kk := 4) dX12_batch_85 rfl ?_
                refine J_iconst (v := (-1)) dX12_batch_87 (by decide) ?_
                refine J_callV [.int a1, .int (a2 / (100 : Int32)), .int (a2 - a2 / (100 : Int32) * (100 : Int32)), .int (((rd σ 59 1) / (24 : Int32)) - a3), .int a4, .int ((-1))] [] calX12_addBatch klX12_234 (b := 59) (ci := 12) (by decide) rfl rfl rfl rfl (Nat.le_of_ble_eq_true rfl) dX12_batch_88 (KV.to h ?_)
                clear h
                intro σ1 h
                refine J_aload_n (i := 0) (kk := 0) dX12_batch_91 rfl rfl ?_
                refine J_dup dX12_batch_92 rfl ?_
                refine J_getI (q := 59) (ci := 12) (kf := 15) kfX12_238 uxX12 rfl (by decide) rfl (by decide) rfl dX12_batch_93 ?_
                refine J_iload (i := 4) (kk := 4) dX12_batch_96 rfl ?_
                refine J_aload_n (i := 0) (kk := 0) dX12_batch_98 rfl rfl ?_
                refine J_getR 64 (q := 59) (ci := 12) (kf := 8) kfX12_22 uxX12 rfl (by decide) rfl (by decide) rfl dX12_batch_99 ?_
                refine J_iload_n (i := 2) (kk := 2) dX12_batch_102 rfl rfl ?_
                refine J_bipush (v := 100) dX12_batch_103 (by decide) ?_
                refine J_idiv dX12_batch_105 (by decide) ?_
                have b2 := h.1
                replace h := h.2
                refine J_ald ((a2 / (100 : Int32)).toNatClampNeg) rfl (by decide) rfl b2 dX12_batch_106 ?_
                refine J_imul dX12_batch_107 ?_
                refine J_iadd dX12_batch_108 ?_
                refine J_putf (q := 59) (ci := 12) (kf := 15) (ty := .int) kfX12_238 uxX12 tyX12_ok nmX12 rfl (by decide) rfl (by decide) rfl rfl rfl rfl rfl dX12_batch_109 ?_
                refine J_aload_n (i := 0) (kk := 0) dX12_batch_112 rfl rfl ?_
                refine J_getI (q := 59) (ci := 12) (kf := 16) kfX12_227 uxX12 rfl (by decide) rfl (by decide) rfl dX12_batch_113 ?_
                refine J_eqI (y := rd σ1 59 16) rfl ?_
                refine J_iconst (v := 1) dX12_batch_116 (by decide) ?_
                refine J_isub dX12_batch_117 ?_
                exact J_iret rfl dX12_batch_118 h
              · replace h := h.1 hc
                refine J_bipush (v := (-3)) dX12_batch_66 (by decide) ?_
                exact J_iret rfl dX12_batch_68 h
            · replace h := h.2 g3
              refine J_if_ne 56 dX12_batch_51 (by decide) (fun hc => absurd hc (by decide)) (fun _ => ?_)
              refine J_iconst (v := (-1)) dX12_batch_54 (by decide) ?_
              exact J_iret rfl dX12_batch_55 h
        · replace h := h.2 g4
          refine J_if_eq 54 dX12_batch_30 (by decide) (fun _ => ?_) (fun hc => absurd hc (by decide))
          refine J_iconst (v := (-1)) dX12_batch_54 (by decide) ?_
          exact J_iret rfl dX12_batch_55 h
      · replace h := h.2 g5
        refine J_if_eq 54 dX12_batch_20 (by decide) (fun _ => ?_) (fun hc => absurd hc (by decide))
        refine J_iconst (v := (-1)) dX12_batch_54 (by decide) ?_
        exact J_iret rfl dX12_batch_55 h
  · replace h := h.2 g6
    refine J_if_eq 54 dX12_batch_5 (by decide) (fun _ => ?_) (fun hc => absurd hc (by decide))
    refine J_iconst (v := (-1)) dX12_batch_54 (by decide) ?_
    exact J_iret rfl dX12_batch_55 h
theorem M_X12_batch {Γ : GG} {l : Launch} {d : Nat} {Q : Option Value → St → Prop} {σ : St} (a1 : Int32) (a2 : Int32) (a3 : Int32) (a4 : Int32) (k : J Γ l (d + 2) mX12_batch Q 0 [(0, .ref 59), (1, .int a1), (2, .int a2), (3, .int a3), (4, .int a4)] [] σ) : Meth Γ l (d + 2) mX12_batch [.ref 59, .int a1, .int a2, .int a3, .int a4] σ Q := Meth_of_J (by decide +kernel) (fun _ => Nat.le_of_ble_eq_true rfl) (fun _ => rfl) k
set_option maxHeartbeats 4000000 in
set_option maxRecDepth 100000 in
theorem w_X12_firstOf_2 {Γ : GG} {l : Launch} {d : Nat} {Q : Option Value → St → Prop} {σ : St} (a2 : Int32) (h : vp_in a2 200 ∧ (rd σ 82 (a2.toNatClampNeg) < (0 : Int32) → Q (some (.int a2)) σ) ∧ (¬ rd σ 82 (a2.toNatClampNeg) < (0 : Int32) → J Γ l d mX12_firstOf Q 2 [(0, .ref 59), (2, .int (rd σ 82 (a2.toNatClampNeg)))] [] σ)) : J Γ l d mX12_firstOf Q 2 [(0, .ref 59), (2, .int a2)] [] σ := by
  refine J_aload_n (i := 0) (kk := 0) dX12_firstOf_2 rfl rfl ?_
  refine J_getR 82 (q := 59) (ci := 12) (kf := 28) kfX12_76 uxX12 rfl (by decide) rfl (by decide) rfl dX12_firstOf_3 ?_
  refine J_iload_n (i := 2) (kk := 1) dX12_firstOf_6 rfl rfl ?_
  have b1 := h.1
  replace h := h.2
  refine J_ald (a2.toNatClampNeg) rfl (by decide) rfl b1 dX12_firstOf_7 ?_
  refine J_if_lt 21 dX12_firstOf_8 (by decide) (fun hc => ?_) (fun hc => ?_)
  · replace h := h.1 hc
    refine J_iload_n (i := 2) (kk := 1) dX12_firstOf_21 rfl rfl ?_
    exact J_iret rfl dX12_firstOf_22 h
  · replace h := h.2 hc
    refine J_aload_n (i := 0) (kk := 0) dX12_firstOf_11 rfl rfl ?_
    refine J_getR 82 (q := 59) (ci := 12) (kf := 28) kfX12_76 uxX12 rfl (by decide) rfl (by decide) rfl dX12_firstOf_12 ?_
    refine J_iload_n (i := 2) (kk := 1) dX12_firstOf_15 rfl rfl ?_
    refine J_ald (a2.toNatClampNeg) rfl (by decide) rfl b1 dX12_firstOf_16 ?_
    refine J_istore_n (i := 2) (lv' := [(2, .int (rd σ 82 (a2.toNatClampNeg))), (0, .ref 59)]) dX12_firstOf_17 rfl (by decide) rfl ?_
    refine J_goto (tgt := 2) dX12_firstOf_18 (by decide) ?_
    refine J_sub [1, 0] rfl ?_
    exact h
set_option maxHeartbeats 4000000 in
set_option maxRecDepth 100000 in
theorem w_X12_firstOf_0 {Γ : GG} {l : Launch} {d : Nat} {Q : Option Value → St → Prop} {σ : St} (a1 : Int32) (h : J Γ l d mX12_firstOf Q 2 [(0, .ref 59), (2, .int a1)] [] σ) : J Γ l d mX12_firstOf Q 0 [(0, .ref 59), (1, .int a1)] [] σ := by
  refine J_iload_n (i := 1) (kk := 1) dX12_firstOf_0 rfl rfl ?_
  refine J_istore_n (i := 2) (lv' := [(2, .int a1), (0, .ref 59), (1, .int a1)]) dX12_firstOf_1 rfl (by decide) rfl ?_
  refine J_sub [1, 0] rfl ?_
  exact h
theorem M_X12_firstOf {Γ : GG} {l : Launch} {d : Nat} {Q : Option Value → St → Prop} {σ : St} (a1 : Int32) (k : J Γ l d mX12_firstOf Q 0 [(0, .ref 59), (1, .int a1)] [] σ) : Meth Γ l d mX12_firstOf [.ref 59, .int a1] σ Q := Meth_of_J (by decide +kernel) (fun _ => Nat.le_of_ble_eq_true rfl) (fun _ => rfl) k
set_option maxHeartbeats 4000000 in
set_option maxRecDepth 100000 in
theorem w_X12_ofBatch_0 {Γ : GG} {l : Launch} {d : Nat} {Q : Option Value → St → Prop} {σ : St} (a1 : Int32) (a2 : Int32) (h : (0 ≤ a1 ∧ a1 ≤ (rd σ 59 16) - (1 : Int32) → (a2.toInt = 0 → vp_in a1 200 ∧ Q (some (.int (rd σ 71 (a1.toNatClampNeg)))) σ) ∧ (a2.toInt = 1 → vp_in a1 200 ∧ Q (some (.int (rd σ 72 (a1.toNatClampNeg)))) σ) ∧ (a2.toInt = 2 → vp_in a1 200 ∧ Q (some (.int (rd σ 73 (a1.toNatClampNeg)))) σ) ∧ (a2.toInt = 3 → vp_in a1 200 ∧ Q (some (.int (rd σ 74 (a1.toNatClampNeg)))) σ) ∧ (a2.toInt = 4 → vp_in a1 200 ∧ Q (some (.int (rd σ 76 (a1.toNatClampNeg)))) σ) ∧ (a2.toInt = 5 → vp_in a1 200 ∧ Q (some (.int (((((rd σ 76 a1.toNatClampNeg) - (rd σ 77 a1.toNatClampNeg)) - (rd σ 78 a1.toNatClampNeg)) - (rd σ 79 a1.toNatClampNeg)) - (rd σ 80 a1.toNatClampNeg)))) σ) ∧ (a2.toInt = 6 → vp_in a1 200 ∧ Q (some (.int (rd σ 77 (a1.toNatClampNeg)))) σ) ∧ (a2.toInt = 7 → vp_in a1 200 ∧ Q (some (.int (rd σ 78 (a1.toNatClampNeg)))) σ) ∧ (a2.toInt = 8 → vp_in a1 200 ∧ Q (some (.int (rd σ 79 (a1.toNatClampNeg)))) σ) ∧ (a2.toInt = 9 → vp_in a1 200 ∧ Q (some (.int (rd σ 80 (a1.toNatClampNeg)))) σ) ∧ (a2.toInt = 10 → vp_in a1 200 ∧ Q (some (.int (rd σ 81 (a1.toNatClampNeg)))) σ) ∧ (a2.toInt = 11 → vp_in a1 200 ∧ Q (some (.int (rd σ 82 (a1.toNatClampNeg)))) σ) ∧ (a2.toInt = 12 → Meth Γ l (d + 1) mX12_firstOf [.ref 59, .int a1] σ (KI (fun x14 σ13 => Q (some (.int x14)) σ13))) ∧ (¬ a2.toInt = 0 → ¬ a2.toInt = 1 → ¬ a2.toInt = 2 → ¬ a2.toInt = 3 → ¬ a2.toInt = 4 → ¬ a2.toInt = 5 → ¬ a2.toInt = 6 → ¬ a2.toInt = 7 → ¬ a2.toInt = 8 → ¬ a2.toInt = 9 → ¬ a2.toInt = 10 → ¬ a2.toInt = 11 → ¬ a2.toInt = 12 → Q (some (.int ((-2000000000)))) σ)) ∧ (¬ (0 ≤ a1 ∧ a1 ≤ (rd σ 59 16) - (1 : Int32)) → Q (some (.int ((-2000000000)))) σ)) : J Γ l (d + 2) mX12_ofBatch Q 0 [(0, .ref 59), (1, .int a1), (2, .int a2)] [] σ := by
  refine J_aload_n (i := 0) (kk := 0) dX12_ofBatch_0 rfl rfl ?_
  refine J_iload_n (i := 1) (kk := 1) dX12_ofBatch_1 rfl rfl ?_
  refine J_callV [.int a1] [] calX12_isBatch klX12_241 (b := 59) (ci := 12) (by decide) rfl rfl rfl rfl (Nat.le_of_ble_eq_true rfl) dX12_ofBatch_2 (KI.to (S_X12_isBatch a1) ?_)
  rintro x9 s9 ⟨rfl, ⟨g15, rfl⟩ | ⟨g15, rfl⟩⟩
  · replace h := h.1 g15
    refine J_if_ne 11 dX12_ofBatch_5 (by decide) (fun _ => ?_) (fun hc => absurd hc (by decide))
    refine J_iload_n (i := 2) (kk := 2) dX12_ofBatch_11 rfl rfl ?_
    by_cases hc : a2.toInt = 0
    · replace h := h.1 hc
      refine J_tableIn 80 dX12_ofBatch_12 (by omega) (by omega) (by rw [hc]; rfl) (by decide) ?_
      refine J_aload_n (i := 0) (kk := 0) dX12_ofBatch_80 rfl rfl ?_
      refine J_getR 71 (q := 59) (ci := 12) (kf := 17) kfX12_43 uxX12 rfl (by decide) rfl (by decide) rfl dX12_ofBatch_81 ?_
      refine J_iload_n (i := 1) (kk := 1) dX12_ofBatch_84 rfl rfl ?_
      have b1 := h.1
      replace h := h.2
      refine J_ald (a1.toNatClampNeg) rfl (by decide) rfl b1 dX12_ofBatch_85 ?_
      exact J_iret rfl dX12_ofBatch_86 h
    have hn0 := hc
    by_cases hc : a2.toInt = 1
    · replace h := h.2.1 hc
      refine J_tableIn 87 dX12_ofBatch_12 (by omega) (by omega) (by rw [hc]; rfl) (by decide) ?_
      refine J_aload_n (i := 0) (kk := 0) dX12_ofBatch_87 rfl rfl ?_
      refine J_getR 72 (q := 59) (ci := 12) (kf := 18) kfX12_46 uxX12 rfl (by decide) rfl (by decide) rfl dX12_ofBatch_88 ?_
      refine J_iload_n (i := 1) (kk := 1) dX12_ofBatch_91 rfl rfl ?_
      have b2 := h.1
      replace h := h.2
      refine J_ald (a1.toNatClampNeg) rfl (by decide) rfl b2 dX12_ofBatch_92 ?_
      exact J_iret rfl dX12_ofBatch_93 h
    have hn1 := hc
    by_cases hc : a2.toInt = 2
    · replace h := h.2.2.1 hc
      refine J_tableIn 94 dX12_ofBatch_12 (by omega) (by omega) (by rw [hc]; rfl) (by decide) ?_
      refine J_aload_n (i := 0) (kk := 0) dX12_ofBatch_94 rfl rfl ?_
      refine J_getR 73 (q := 59) (ci := 12) (kf := 19) kfX12_49 uxX12 rfl (by decide) rfl (by decide) rfl dX12_ofBatch_95 ?_
      refine J_iload_n (i := 1) (kk := 1) dX12_ofBatch_98 rfl rfl ?_
      have b3 := h.1
      replace h := h.2
      refine J_ald (a1.toNatClampNeg) rfl (by decide) rfl b3 dX12_ofBatch_99 ?_
      exact J_iret rfl dX12_ofBatch_100 h
    have hn2 := hc
    by_cases hc : a2.toInt = 3
    · replace h := h.2.2.2.1 hc
      refine J_tableIn 101 dX12_ofBatch_12 (by omega) (by omega) (by rw [hc]; rfl) (by decide) ?_
      refine J_aload_n (i := 0) (kk := 0) dX12_ofBatch_101 rfl rfl ?_
      refine J_getR 74 (q := 59) (ci := 12) (kf := 20) kfX12_52 uxX12 rfl (by decide) rfl (by decide) rfl dX12_ofBatch_102 ?_
      refine J_iload_n (i := 1) (kk := 1) dX12_ofBatch_105 rfl rfl ?_
      have b4 := h.1
      replace h := h.2
      refine J_ald (a1.toNatClampNeg) rfl (by decide) rfl b4 dX12_ofBatch_106 ?_
      exact J_iret rfl dX12_ofBatch_107 h
    have hn3 := hc
    by_cases hc : a2.toInt = 4
    · replace h := h.2.2.2.2.1 hc
      refine J_tableIn 108 dX12_ofBatch_12 (by omega) (by omega) (by rw [hc]; rfl) (by decide) ?_
      refine J_aload_n (i := 0) (kk := 0) dX12_ofBatch_108 rfl rfl ?_
      refine J_getR 76 (q := 59) (ci := 12) (kf := 22) kfX12_58 uxX12 rfl (by decide) rfl (by decide) rfl dX12_ofBatch_109 ?_
      refine J_iload_n (i := 1) (kk := 1) dX12_ofBatch_112 rfl rfl ?_
      have b5 := h.1
      replace h := h.2
      refine J_ald (a1.toNatClampNeg) rfl (by decide) rfl b5 dX12_ofBatch_113 ?_
      exact J_iret rfl dX12_ofBatch_114 h
    have hn4 := hc
    by_cases hc : a2.toInt = 5
    · replace h := h.2.2.2.2.2.1 hc
      refine J_tableIn 115 dX12_ofBatch_12 (by omega) (by omega) (by rw [hc]; rfl) (by decide) ?_
      refine J_aload_n (i := 0) (kk := 0) dX12_ofBatch_115 rfl rfl ?_
      refine J_iload_n (i := 1) (kk := 1) dX12_ofBatch_116 rfl rfl ?_
      have b6 := h.1
      replace h := h.2
      refine J_callV [.int a1] [] calX12_onShelf klX12_245 (b := 59) (ci := 12) (by decide) rfl rfl rfl rfl (Nat.le_of_ble_eq_true rfl) dX12_ofBatch_117 (KI.to (S_X12_onShelf a1 b6) ?_)
      rintro x9 s9 ⟨rfl, rfl⟩
      exact J_iret rfl dX12_ofBatch_120 h
    have hn5 := hc
    by_cases hc : a2.toInt = 6
    · replace h := h.2.2.2.2.2.2.1 hc
      refine J_tableIn 121 dX12_ofBatch_12 (by omega) (by omega) (by rw [hc]; rfl) (by decide) ?_
      refine J_aload_n (i := 0) (kk := 0) dX12_ofBatch_121 rfl rfl ?_
      refine J_getR 77 (q := 59) (ci := 12) (kf := 23) kfX12_61 uxX12 rfl (by decide) rfl (by decide) rfl dX12_ofBatch_122 ?_
      refine J_iload_n (i := 1) (kk := 1) dX12_ofBatch_125 rfl rfl ?_
      have b7 := h.1
      replace h := h.2
      refine J_ald (a1.toNatClampNeg) rfl (by decide) rfl b7 dX12_ofBatch_126 ?_
      exact J_iret rfl dX12_ofBatch_127 h
    have hn6 := hc
    by_cases hc : a2.toInt = 7
    · replace h := h.2.2.2.2.2.2.2.1 hc
      refine J_tableIn 128 dX12_ofBatch_12 (by omega) (by omega) (by rw [hc]; rfl) (by decide) ?_
      refine J_aload_n (i := 0) (kk := 0) dX12_ofBatch_128 rfl rfl ?_
      refine J_getR 78 (q := 59) (ci := 12) (kf := 24) kfX12_64 uxX12 rfl (by decide) rfl (by decide) rfl dX12_ofBatch_129 ?_
      refine J_iload_n (i := 1) (kk := 1) dX12_ofBatch_132 rfl rfl ?_
      have b8 := h.1
      replace h := h.2
      refine J_ald (a1.toNatClampNeg) rfl (by decide) rfl b8 dX12_ofBatch_133 ?_
      exact J_iret rfl dX12_ofBatch_134 h
    have hn7 := hc
    by_cases hc : a2.toInt = 8
    · replace h := h.2.2.2.2.2.2.2.2.1 hc
      refine J_tableIn 135 dX12_ofBatch_12 (by omega) (by omega) (by rw [hc]; rfl) (by decide) ?_
      refine J_aload_n (i := 0) (kk := 0) dX12_ofBatch_135 rfl rfl ?_
      refine J_getR 79 (q := 59) (ci := 12) (kf := 25) kfX12_67 uxX12 rfl (by decide) rfl (by decide) rfl dX12_ofBatch_136 ?_
      refine J_iload_n (i := 1) (kk := 1) dX12_ofBatch_139 rfl rfl ?_
      have b9 := h.1
      replace h := h.2
      refine J_ald (a1.toNatClampNeg) rfl (by decide) rfl b9 dX12_ofBatch_140 ?_
      exact J_iret rfl dX12_ofBatch_141 h
    have hn8 := hc
    by_cases hc : a2.toInt = 9
    · replace h := h.2.2.2.2.2.2.2.2.2.1 hc
      refine J_tableIn 142 dX12_ofBatch_12 (by omega) (by omega) (by rw [hc]; rfl) (by decide) ?_
      refine J_aload_n (i := 0) (kk := 0) dX12_ofBatch_142 rfl rfl ?_
      refine J_getR 80 (q := 59) (ci := 12) (kf := 26) kfX12_70 uxX12 rfl (by decide) rfl (by decide) rfl dX12_ofBatch_143 ?_
      refine J_iload_n (i := 1) (kk := 1) dX12_ofBatch_146 rfl rfl ?_
      have b10 := h.1
      replace h := h.2
      refine J_ald (a1.toNatClampNeg) rfl (by decide) rfl b10 dX12_ofBatch_147 ?_
      exact J_iret rfl dX12_ofBatch_148 h
    have hn9 := hc
    by_cases hc : a2.toInt = 10
    · replace h := h.2.2.2.2.2.2.2.2.2.2.1 hc
      refine J_tableIn 149 dX12_ofBatch_12 (by omega) (by omega) (by rw [hc]; rfl) (by decide) ?_
      refine J_aload_n (i := 0) (kk := 0) dX12_ofBatch_149 rfl rfl ?_
      refine J_getR 81 (q := 59) (ci := 12) (kf := 27) kfX12_73 uxX12 rfl (by decide) rfl (by decide) rfl dX12_ofBatch_150 ?_
      refine J_iload_n (i := 1) (kk := 1) dX12_ofBatch_153 rfl rfl ?_
      have b11 := h.1
      replace h := h.2
      refine J_ald (a1.toNatClampNeg) rfl (by decide) rfl b11 dX12_ofBatch_154 ?_
      exact J_iret rfl dX12_ofBatch_155 h
    have hn10 := hc
    by_cases hc : a2.toInt = 11
    · replace h := h.2.2.2.2.2.2.2.2.2.2.2.1 hc
      refine J_tableIn 156 dX12_ofBatch_12 (by omega) (by omega) (by rw [hc]; rfl) (by decide) ?_
      refine J_aload_n (i := 0) (kk := 0) dX12_ofBatch_156 rfl rfl ?_
      refine J_getR 82 (q := 59) (ci := 12) (kf := 28) kfX12_76 uxX12 rfl (by decide) rfl (by decide) rfl dX12_ofBatch_157 ?_
      refine J_iload_n (i := 1) (kk := 1) dX12_ofBatch_160 rfl rfl ?_
      have b12 := h.1
      replace h := h.2
      refine J_ald (a1.toNatClampNeg) rfl (by decide) rfl b12 dX12_ofBatch_161 ?_
      exact J_iret rfl dX12_ofBatch_162 h
    have hn11 := hc
    by_cases hc : a2.toInt = 12
    · replace h := h.2.2.2.2.2.2.2.2.2.2.2.2.1 hc
      refine J_tableIn 163 dX12_ofBatch_12 (by omega) (by omega) (by rw [hc]; rfl) (by decide) ?_
      refine J_aload_n (i := 0) (kk := 0) dX12_ofBatch_163 rfl rfl ?_
      refine J_iload_n (i := 1) (kk := 1) dX12_ofBatch_164 rfl rfl ?_
      refine J_callV [.int a1] [] calX12_firstOf klX12_249 (b := 59) (ci := 12) (by decide) rfl rfl rfl rfl (Nat.le_of_ble_eq_true rfl) dX12_ofBatch_165 (KI.to h ?_)
      clear h
      intro x14 σ13 h
      exact J_iret rfl dX12_ofBatch_168 h
    have hn12 := hc
    replace h := h.2.2.2.2.2.2.2.2.2.2.2.2.2 hn0 hn1 hn2 hn3 hn4 hn5 hn6 hn7 hn8 hn9 hn10 hn11 hn12
    refine J_tableOut 169 dX12_ofBatch_12 (by omega) (by decide) ?_
    refine J_ldc (v := (-2000000000)) kcX12_244 dX12_ofBatch_169 ?_
    exact J_iret rfl dX12_ofBatch_171 h
  · replace h := h.2 g15
    refine J_if_ne 11 dX12_ofBatch_5 (by decide) (fun hc => absurd hc (by decide)) (fun _ => ?_)
    refine J_ldc (v := (-2000000000)) kcX12_244 dX12_ofBatch_8 ?_
    exact J_iret rfl dX12_ofBatch_10 h
theorem M_X12_ofBatch {Γ : GG} {l : Launch} {d : Nat} {Q : Option Value → St → Prop} {σ : St} (a1 : Int32) (a2 : Int32) (k : J Γ l (d + 2) mX12_ofBatch Q 0 [(0, .ref 59), (1, .int a1), (2, .int a2)] [] σ) : Meth Γ l (d + 2) mX12_ofBatch [.ref 59, .int a1, .int a2] σ Q := Meth_of_J (by decide +kernel) (fun _ => Nat.le_of_ble_eq_true rfl) (fun _ => rfl) k
set_option maxHeartbeats 4000000 in
set_option maxRecDepth 100000 in
theorem w_X12_feed_0 {Γ : GG} {l : Launch} {d : Nat} {Q : Option Value → St → Prop} {σ : St} (a1 : Int32) (a2 : Int32) (a3 : Int32) (a4 : Int32) (a5 : Int32) (h : ((rd σ 59 31) + (20 : Int32) ≤ (160 : Int32) → Meth Γ l d mX12_feedOne [.ref 59, .int a1] σ (KV (fun σ1 => Meth Γ l d mX12_feedOne [.ref 59, .int a2] σ1 (KV (fun σ2 => Meth Γ l d mX12_feedOne [.ref 59, .int a3] σ2 (KV (fun σ3 => Meth Γ l d mX12_feedOne [.ref 59, .int a4] σ3 (KV (fun σ4 => Meth Γ l d mX12_feedOne [.ref 59, .int a5] σ4 (KV (fun σ5 => Q (some (.int (rd σ5 59 31))) σ5))))))))))) ∧ (¬ (rd σ 59 31) + (20 : Int32) ≤ (160 : Int32) → Q (some (.int ((-3)))) σ)) : J Γ l (d + 1) mX12_feed Q 0 [(0, .ref 59), (1, .int a1), (2, .int a2), (3, .int a3), (4, .int a4), (5, .int a5)] [] σ := by
  refine J_aload_n (i := 0) (kk := 0) dX12_feed_0 rfl rfl ?_
  refine J_getI (q := 59) (ci := 12) (kf := 31) kfX12_252 uxX12 rfl (by decide) rfl (by decide) rfl dX12_feed_1 ?_
  refine J_bipush (v := 20) dX12_feed_4 (by decide) ?_
  refine J_iadd dX12_feed_6 ?_
  refine J_sipush (v := 160) dX12_feed_7 (by decide) ?_
  refine J_icmp_le 16 dX12_feed_10 (by decide) (fun hc => ?_) (fun hc => ?_)
  · replace h := h.1 hc
    refine J_aload_n (i := 0) (kk := 0) dX12_feed_16 rfl rfl ?_
    refine J_iload_n (i := 1) (kk := 1) dX12_feed_17 rfl rfl ?_
    refine J_callV [.int a1] [] calX12_feedOne klX12_255 (b := 59) (ci := 12) (by decide) rfl rfl rfl rfl (Nat.le_of_ble_eq_true rfl) dX12_feed_18 (KV.to h ?_)
    clear h
    intro σ1 h
    refine J_aload_n (i := 0) (kk := 0) dX12_feed_21 rfl rfl ?_
    refine J_iload_n (i := 2) (kk := 2) dX12_feed_22 rfl rfl ?_
    refine J_callV [.int a2] [] calX12_feedOne klX12_255 (b := 59) (ci := 12) (by decide) rfl rfl rfl rfl (Nat.le_of_ble_eq_true rfl) dX12_feed_23 (KV.to h ?_)
    clear h
    intro σ2 h
    refine J_aload_n (i := 0) (kk := 0) dX12_feed_26 rfl rfl ?_
    refine J_iload_n (i := 3) (kk := 3) dX12_feed_27 rfl rfl ?_
    refine J_callV [.int a3] [] calX12_feedOne klX12_255 (b := 59) (ci := 12) (by decide) rfl rfl rfl rfl (Nat.le_of_ble_eq_true rfl) dX12_feed_28 (KV.to h ?_)
    clear h
    intro σ3 h
    refine J_aload_n (i := 0) (kk := 0) dX12_feed_31 rfl rfl ?_
    refine J_iload (i := 4) (kk := 4) dX12_feed_32 rfl ?_
    refine J_callV [.int a4] [] calX12_feedOne klX12_255 (b := 59) (ci := 12) (by decide) rfl rfl rfl rfl (Nat.le_of_ble_eq_true rfl) dX12_feed_34 (KV.to h ?_)
    clear h
    intro σ4 h
    refine J_aload_n (i := 0) (kk := 0) dX12_feed_37 rfl rfl ?_
    refine J_iload (i := 5) (kk := 5) dX12_feed_38 rfl ?_
    refine J_callV [.int a5] [] calX12_feedOne klX12_255 (b := 59) (ci := 12) (by decide) rfl rfl rfl rfl (Nat.le_of_ble_eq_true rfl) dX12_feed_40 (KV.to h ?_)
    clear h
    intro σ5 h
    refine J_aload_n (i := 0) (kk := 0) dX12_feed_43 rfl rfl ?_
    refine J_getI (q := 59) (ci := 12) (kf := 31) kfX12_252 uxX12 rfl (by decide) rfl (by decide) rfl dX12_feed_44 ?_
    exact J_iret rfl dX12_feed_47 h
  · replace h := h.2 hc
    refine J_bipush (v := (-3)) dX12_feed_13 (by decide) ?_
    exact J_iret rfl dX12_feed_15 h
theorem M_X12_feed {Γ : GG} {l : Launch} {d : Nat} {Q : Option Value → St → Prop} {σ : St} (a1 : Int32) (a2 : Int32) (a3 : Int32) (a4 : Int32) (a5 : Int32) (k : J Γ l (d + 1) mX12_feed Q 0 [(0, .ref 59), (1, .int a1), (2, .int a2), (3, .int a3), (4, .int a4), (5, .int a5)] [] σ) : Meth Γ l (d + 1) mX12_feed [.ref 59, .int a1, .int a2, .int a3, .int a4, .int a5] σ Q := Meth_of_J (by decide +kernel) (fun _ => Nat.le_of_ble_eq_true rfl) (fun _ => rfl) k
set_option maxHeartbeats 4000000 in
set_option maxRecDepth 100000 in
theorem w_X12_feedOne_2 {Γ : GG} {l : Launch} {d : Nat} {Q : Option Value → St → Prop} {σ : St} (a1 : Int32) (a2 : Int32) (h : (a2 < (0 : Int32) → Q none σ) ∧ (¬ a2 < (0 : Int32) → vp_in (rd σ 59 31) 160 ∧ ∀ x2 : Int32, x2 = a2 + (-1) → J Γ l d mX12_feedOne Q 2 [(0, .ref 59), (1, .int a1), (2, .int x2)] [] (wr (wr σ 84 ((rd σ 59 31).toNatClampNeg) (vp_nar .byte ((a1 >>> ((8 : Int32) * a2 &&& 31)).toInt8.toInt32))) 59 31 ((rd σ 59 31) + (1 : Int32))))) : J Γ l d mX12_feedOne Q 2 [(0, .ref 59), (1, .int a1), (2, .int a2)] [] σ := by
  refine J_iload_n (i := 2) (kk := 2) dX12_feedOne_2 rfl rfl ?_
  refine J_if_lt 38 dX12_feedOne_3 (by decide) (fun hc => ?_) (fun hc => ?_)
  · replace h := h.1 hc
    exact J_vret rfl dX12_feedOne_38 h
  · replace h := h.2 hc
    refine J_aload_n (i := 0) (kk := 0) dX12_feedOne_6 rfl rfl ?_
    refine J_getR 84 (q := 59) (ci := 12) (kf := 30) kfX12_82 uxX12 rfl (by decide) rfl (by decide) rfl dX12_feedOne_7 ?_
    refine J_aload_n (i := 0) (kk := 0) dX12_feedOne_10 rfl rfl ?_
    refine J_getI (q := 59) (ci := 12) (kf := 31) kfX12_252 uxX12 rfl (by decide) rfl (by decide) rfl dX12_feedOne_11 ?_
    refine J_iload_n (i := 1) (kk := 1) dX12_feedOne_14 rfl rfl ?_
    refine J_bipush (v := 8) dX12_feedOne_15 (by decide) ?_
    refine J_iload_n (i := 2) (kk := 2) dX12_feedOne_17 rfl rfl ?_
    refine J_imul dX12_feedOne_18 ?_
    refine J_ishr dX12_feedOne_19 ?_
    refine J_i2b dX12_feedOne_20 ?_
    have b1 := h.1
    replace h := h.2
    refine J_bast2 ((rd σ 59 31).toNatClampNeg) (vp_nar .byte ((a1 >>> ((8 : Int32) * a2 &&& 31)).toInt8.toInt32)) rfl rfl (by decide) rfl b1 dX12_feedOne_21 ?_
    refine J_aload_n (i := 0) (kk := 0) dX12_feedOne_22 rfl rfl ?_
    refine J_dup dX12_feedOne_23 rfl ?_
    refine J_getI (q := 59) (ci := 12) (kf := 31) kfX12_252 uxX12 rfl (by decide) rfl (by decide) rfl dX12_feedOne_24 ?_
    refine J_eqI (y := rd σ 59 31) rfl ?_
    refine J_iconst (v := 1) dX12_feedOne_27 (by decide) ?_
    refine J_iadd dX12_feedOne_28 ?_
    refine J_putf (q := 59) (ci := 12) (kf := 31) (ty := .int) kfX12_252 uxX12 tyX12_ok nmX12 rfl (by decide) rfl (by decide) rfl rfl rfl rfl rfl dX12_feedOne_29 ?_
    obtain ⟨x2, ex2⟩ : ∃ y : Int32, y = a2 + (-1) := ⟨_, rfl⟩
    replace h := h x2 ex2
    refine J_iinc (i := 2) (kk := 2) (v := x2) (lv' := [(2, .int x2), (0, .ref 59), (1, .int a1)]) dX12_feedOne_32 rfl (by rw [ex2]; rfl) (by decide) rfl ?_
    refine J_goto (tgt := 2) dX12_feedOne_35 (by decide) ?_
    refine J_sub [1, 2, 0] rfl ?_
    exact h
set_option maxHeartbeats 4000000 in
set_option maxRecDepth 100000 in
theorem w_X12_feedOne_0 {Γ : GG} {l : Launch} {d : Nat} {Q : Option Value → St → Prop} {σ : St} (a1 : Int32) (h : J Γ l d mX12_feedOne Q 2 [(0, .ref 59), (1, .int a1), (2, .int (3))] [] σ) : J Γ l d mX12_feedOne Q 0 [(0, .ref 59), (1, .int a1)] [] σ := by
  refine J_iconst (v := 3) dX12_feedOne_0 (by decide) ?_
  refine J_istore_n (i := 2) (lv' := [(2, .int (3)), (0, .ref 59), (1, .int a1)]) dX12_feedOne_1 rfl (by decide) rfl ?_
  refine J_sub [1, 2, 0] rfl ?_
  exact h
theorem M_X12_feedOne {Γ : GG} {l : Launch} {d : Nat} {Q : Option Value → St → Prop} {σ : St} (a1 : Int32) (k : J Γ l d mX12_feedOne Q 0 [(0, .ref 59), (1, .int a1)] [] σ) : Meth Γ l d mX12_feedOne [.ref 59, .int a1] σ Q := Meth_of_J (by decide +kernel) (fun _ => Nat.le_of_ble_eq_true rfl) (fun _ => rfl) k
set_option maxHeartbeats 4000000 in
set_option maxRecDepth 100000 in
theorem w_X12_end_0 {Γ : GG} {l : Launch} {d : Nat} {Q : Option Value → St → Prop} {σ : St} (a1 : Int32) (h : ((0 : Int32) ≤ a1 ∧ a1 ≤ (rd σ 59 31) → Q (some (.int a1)) (wr σ 59 31 a1)) ∧ (¬ ((0 : Int32) ≤ a1 ∧ a1 ≤ (rd σ 59 31)) → Q (some (.int ((-1)))) σ)) : J Γ l (d + 1) mX12_end Q 0 [(0, .ref 59), (1, .int a1)] [] σ := by
  refine J_iload_n (i := 1) (kk := 1) dX12_end_0 rfl rfl ?_
  refine J_iconst (v := 0) dX12_end_1 (by decide) ?_
  refine J_aload_n (i := 0) (kk := 0) dX12_end_2 rfl rfl ?_
  refine J_getI (q := 59) (ci := 12) (kf := 31) kfX12_252 uxX12 rfl (by decide) rfl (by decide) rfl dX12_end_3 ?_
  refine J_callS [.int a1, .int (0), .int (rd σ 59 31)] [] calX12_in klX12_196 rfl rfl (Nat.le_of_ble_eq_true rfl) dX12_end_6 (KI.to (S_X12_in a1 (0 : Int32) (rd σ 59 31)) ?_)
  rintro x9 s9 ⟨rfl, ⟨g1, rfl⟩ | ⟨g1, rfl⟩⟩
  · replace h := h.1 g1
    refine J_if_ne 14 dX12_end_9 (by decide) (fun _ => ?_) (fun hc => absurd hc (by decide))
    refine J_aload_n (i := 0) (kk := 0) dX12_end_14 rfl rfl ?_
    refine J_iload_n (i := 1) (kk := 1) dX12_end_15 rfl rfl ?_
    refine J_putf (q := 59) (ci := 12) (kf := 31) (ty := .int) kfX12_252 uxX12 tyX12_ok nmX12 rfl (by decide) rfl (by decide) rfl rfl rfl rfl rfl dX12_end_16 ?_
    refine J_iload_n (i := 1) (kk := 1) dX12_end_19 rfl rfl ?_
    exact J_iret rfl dX12_end_20 h
  · replace h := h.2 g1
    refine J_if_ne 14 dX12_end_9 (by decide) (fun hc => absurd hc (by decide)) (fun _ => ?_)
    refine J_iconst (v := (-1)) dX12_end_12 (by decide) ?_
    exact J_iret rfl dX12_end_13 h
theorem M_X12_end {Γ : GG} {l : Launch} {d : Nat} {Q : Option Value → St → Prop} {σ : St} (a1 : Int32) (k : J Γ l (d + 1) mX12_end Q 0 [(0, .ref 59), (1, .int a1)] [] σ) : Meth Γ l (d + 1) mX12_end [.ref 59, .int a1] σ Q := Meth_of_J (by decide +kernel) (fun _ => Nat.le_of_ble_eq_true rfl) (fun _ => rfl) k
set_option maxHeartbeats 4000000 in
set_option maxRecDepth 100000 in
theorem w_X12_look_0 {Γ : GG} {l : Launch} {d : Nat} {Q : Option Value → St → Prop} {σ : St}  (h : (rd σ 59 31 ≤ rd σ 59 41 → Q (some (.int ((-1)))) σ) ∧ (¬ rd σ 59 31 ≤ rd σ 59 41 → vp_in (rd σ 59 41) 160 ∧ Q (some (.int (rd σ 84 ((rd σ 59 41).toNatClampNeg)))) σ)) : J Γ l d mX12_look Q 0 [(0, .ref 59)] [] σ := by
  refine J_aload_n (i := 0) (kk := 0) dX12_look_0 rfl rfl ?_
  refine J_getI (q := 59) (ci := 12) (kf := 41) kfX12_259 uxX12 rfl (by decide) rfl (by decide) rfl dX12_look_1 ?_
  refine J_aload_n (i := 0) (kk := 0) dX12_look_4 rfl rfl ?_
  refine J_getI (q := 59) (ci := 12) (kf := 31) kfX12_252 uxX12 rfl (by decide) rfl (by decide) rfl dX12_look_5 ?_
  refine J_icmp_ge 23 dX12_look_8 (by decide) (fun hc => ?_) (fun hc => ?_)
  · replace h := h.1 hc
    refine J_iconst (v := (-1)) dX12_look_23 (by decide) ?_
    exact J_iret rfl dX12_look_24 h
  · replace h := h.2 hc
    refine J_aload_n (i := 0) (kk := 0) dX12_look_11 rfl rfl ?_
    refine J_getR 84 (q := 59) (ci := 12) (kf := 30) kfX12_82 uxX12 rfl (by decide) rfl (by decide) rfl dX12_look_12 ?_
    refine J_aload_n (i := 0) (kk := 0) dX12_look_15 rfl rfl ?_
    refine J_getI (q := 59) (ci := 12) (kf := 41) kfX12_259 uxX12 rfl (by decide) rfl (by decide) rfl dX12_look_16 ?_
    have b1 := h.1
    replace h := h.2
    refine J_bald2 ((rd σ 59 41).toNatClampNeg) rfl (by decide) rfl b1 dX12_look_19 ?_
    refine J_goto (tgt := 24) dX12_look_20 (by decide) ?_
    exact J_iret rfl dX12_look_24 h
theorem M_X12_look {Γ : GG} {l : Launch} {d : Nat} {Q : Option Value → St → Prop} {σ : St}  (k : J Γ l d mX12_look Q 0 [(0, .ref 59)] [] σ) : Meth Γ l d mX12_look [.ref 59] σ Q := Meth_of_J (by decide +kernel) (fun _ => Nat.le_of_ble_eq_true rfl) (fun _ => rfl) k
set_option maxHeartbeats 4000000 in
set_option maxRecDepth 100000 in
theorem w_X12_wrong_0 {Γ : GG} {l : Launch} {d : Nat} {Q : Option Value → St → Prop} {σ : St}  (h : ((0 : Int32) ≤ rd σ 59 42 → Q none σ) ∧ (¬ (0 : Int32) ≤ rd σ 59 42 → Q none (wr σ 59 42 (rd σ 59 41)))) : J Γ l d mX12_wrong Q 0 [(0, .ref 59)] [] σ := by
  refine J_aload_n (i := 0) (kk := 0) dX12_wrong_0 rfl rfl ?_
  refine J_getI (q := 59) (ci := 12) (kf := 42) kfX12_262 uxX12 rfl (by decide) rfl (by decide) rfl dX12_wrong_1 ?_
  refine J_if_ge 15 dX12_wrong_4 (by decide) (fun hc => ?_) (fun hc => ?_)
  · replace h := h.1 hc
    exact J_vret rfl dX12_wrong_15 h
  · replace h := h.2 hc
    refine J_aload_n (i := 0) (kk := 0) dX12_wrong_7 rfl rfl ?_
    refine J_aload_n (i := 0) (kk := 0) dX12_wrong_8 rfl rfl ?_
    refine J_getI (q := 59) (ci := 12) (kf := 41) kfX12_259 uxX12 rfl (by decide) rfl (by decide) rfl dX12_wrong_9 ?_
    refine J_putf (q := 59) (ci := 12) (kf := 42) (ty := .int) kfX12_262 uxX12 tyX12_ok nmX12 rfl (by decide) rfl (by decide) rfl rfl rfl rfl rfl dX12_wrong_12 ?_
    exact J_vret rfl dX12_wrong_15 h
theorem M_X12_wrong {Γ : GG} {l : Launch} {d : Nat} {Q : Option Value → St → Prop} {σ : St}  (k : J Γ l d mX12_wrong Q 0 [(0, .ref 59)] [] σ) : Meth Γ l d mX12_wrong [.ref 59] σ Q := Meth_of_J (by decide +kernel) (fun _ => Nat.le_of_ble_eq_true rfl) (fun _ => rfl) k
set_option maxHeartbeats 4000000 in
set_option maxRecDepth 100000 in
theorem w_X12_lay_0 {Γ : GG} {l : Launch} {d : Nat} {Q : Option Value → St → Prop} {σ : St} (a1 : Int32) (a2 : Int32) (h : vp_in (((170 : Int32) * (rd σ 59 39)) + (rd σ 59 40)) 2890 ∧ Q none (wr (wr (wr σ 89 ((((170 : Int32) * (rd σ 59 39)) + (rd σ 59 40)).toNatClampNeg) a1) 90 ((((170 : Int32) * (rd σ 59 39)) + (rd σ 59 40)).toNatClampNeg) a2) 59 40 ((rd σ 59 40) + (1 : Int32)))) : J Γ l d mX12_lay Q 0 [(0, .ref 59), (1, .int a1), (2, .int a2)] [] σ := by
  refine J_aload_n (i := 0) (kk := 0) dX12_lay_0 rfl rfl ?_
  refine J_getR 89 (q := 59) (ci := 12) (kf := 37) kfX12_98 uxX12 rfl (by decide) rfl (by decide) rfl dX12_lay_1 ?_
  refine J_sipush (v := 170) dX12_lay_4 (by decide) ?_
  refine J_aload_n (i := 0) (kk := 0) dX12_lay_7 rfl rfl ?_
  refine J_getI (q := 59) (ci := 12) (kf := 39) kfX12_265 uxX12 rfl (by decide) rfl (by decide) rfl dX12_lay_8 ?_
  refine J_imul dX12_lay_11 ?_
  refine J_aload_n (i := 0) (kk := 0) dX12_lay_12 rfl rfl ?_
  refine J_getI (q := 59) (ci := 12) (kf := 40) kfX12_268 uxX12 rfl (by decide) rfl (by decide) rfl dX12_lay_13 ?_
  refine J_iadd dX12_lay_16 ?_
  refine J_iload_n (i := 1) (kk := 1) dX12_lay_17 rfl rfl ?_
  have b1 := h.1
  replace h := h.2
  refine J_ast ((((170 : Int32) * (rd σ 59 39)) + (rd σ 59 40)).toNatClampNeg) rfl (by decide) rfl b1 dX12_lay_18 ?_
  refine J_aload_n (i := 0) (kk := 0) dX12_lay_19 rfl rfl ?_
  refine J_getR 90 (q := 59) (ci := 12) (kf := 38) kfX12_101 uxX12 rfl (by decide) rfl (by decide) rfl dX12_lay_20 ?_
  refine J_sipush (v := 170) dX12_lay_23 (by decide) ?_
  refine J_aload_n (i := 0) (kk := 0) dX12_lay_26 rfl rfl ?_
  refine J_getI (q := 59) (ci := 12) (kf := 39) kfX12_265 uxX12 rfl (by decide) rfl (by decide) rfl dX12_lay_27 ?_
  refine J_eqI (y := rd σ 59 39) rfl ?_
  refine J_imul dX12_lay_30 ?_
  refine J_aload_n (i := 0) (kk := 0) dX12_lay_31 rfl rfl ?_
  refine J_getI (q := 59) (ci := 12) (kf := 40) kfX12_268 uxX12 rfl (by decide) rfl (by decide) rfl dX12_lay_32 ?_
  refine J_eqI (y := rd σ 59 40) rfl ?_
  refine J_iadd dX12_lay_35 ?_
  refine J_iload_n (i := 2) (kk := 2) dX12_lay_36 rfl rfl ?_
  refine J_ast ((((170 : Int32) * (rd σ 59 39)) + (rd σ 59 40)).toNatClampNeg) rfl (by decide) rfl b1 dX12_lay_37 ?_
  refine J_aload_n (i := 0) (kk := 0) dX12_lay_38 rfl rfl ?_
  refine J_dup dX12_lay_39 rfl ?_
  refine J_getI (q := 59) (ci := 12) (kf := 40) kfX12_268 uxX12 rfl (by decide) rfl (by decide) rfl dX12_lay_40 ?_
  refine J_eqI (y := rd σ 59 40) rfl ?_
  refine J_iconst (v := 1) dX12_lay_43 (by decide) ?_
  refine J_iadd dX12_lay_44 ?_
  refine J_putf (q := 59) (ci := 12) (kf := 40) (ty := .int) kfX12_268 uxX12 tyX12_ok nmX12 rfl (by decide) rfl (by decide) rfl rfl rfl rfl rfl dX12_lay_45 ?_
  exact J_vret rfl dX12_lay_48 h
theorem M_X12_lay {Γ : GG} {l : Launch} {d : Nat} {Q : Option Value → St → Prop} {σ : St} (a1 : Int32) (a2 : Int32) (k : J Γ l d mX12_lay Q 0 [(0, .ref 59), (1, .int a1), (2, .int a2)] [] σ) : Meth Γ l d mX12_lay [.ref 59, .int a1, .int a2] σ Q := Meth_of_J (by decide +kernel) (fun _ => Nat.le_of_ble_eq_true rfl) (fun _ => rfl) k
set_option maxHeartbeats 4000000 in
set_option maxRecDepth 100000 in
theorem w_X12_nameOf_0 {Γ : GG} {l : Launch} {d : Nat} {Q : Option Value → St → Prop} {σ : St} (a0 : Int32) (h : (a0.toInt = 97 → Q (some (.int (0))) σ) ∧ (a0.toInt = 99 → Q (some (.int (2))) σ) ∧ (a0.toInt = 104 → Q (some (.int (4))) σ) ∧ (a0.toInt = 107 → Q (some (.int (1))) σ) ∧ (a0.toInt = 110 → Q (some (.int (6))) σ) ∧ (a0.toInt = 112 → Q (some (.int (5))) σ) ∧ (a0.toInt = 115 → Q (some (.int (7))) σ) ∧ (a0.toInt = 119 → Q (some (.int (3))) σ) ∧ (¬ a0.toInt = 97 → ¬ a0.toInt = 99 → ¬ a0.toInt = 104 → ¬ a0.toInt = 107 → ¬ a0.toInt = 110 → ¬ a0.toInt = 112 → ¬ a0.toInt = 115 → ¬ a0.toInt = 119 → Q (some (.int ((-1)))) σ)) : J Γ l d mX12_nameOf Q 0 [(0, .int a0)] [] σ := by
  refine J_iload_n (i := 0) (kk := 0) dX12_nameOf_0 rfl rfl ?_
  by_cases hc : a0.toInt = 97
  · replace h := h.1 hc
    refine J_tableIn 108 dX12_nameOf_1 (by omega) (by omega) (by rw [hc]; rfl) (by decide) ?_
    refine J_iconst (v := 0) dX12_nameOf_108 (by decide) ?_
    exact J_iret rfl dX12_nameOf_109 h
  have hn97 := hc
  by_cases hc : a0.toInt = 99
  · replace h := h.2.1 hc
    refine J_tableIn 112 dX12_nameOf_1 (by omega) (by omega) (by rw [hc]; rfl) (by decide) ?_
    refine J_iconst (v := 2) dX12_nameOf_112 (by decide) ?_
    exact J_iret rfl dX12_nameOf_113 h
  have hn99 := hc
  by_cases hc : a0.toInt = 104
  · replace h := h.2.2.1 hc
    refine J_tableIn 116 dX12_nameOf_1 (by omega) (by omega) (by rw [hc]; rfl) (by decide) ?_
    refine J_iconst (v := 4) dX12_nameOf_116 (by decide) ?_
    exact J_iret rfl dX12_nameOf_117 h
  have hn104 := hc
  by_cases hc : a0.toInt = 107
  · replace h := h.2.2.2.1 hc
    refine J_tableIn 110 dX12_nameOf_1 (by omega) (by omega) (by rw [hc]; rfl) (by decide) ?_
    refine J_iconst (v := 1) dX12_nameOf_110 (by decide) ?_
    exact J_iret rfl dX12_nameOf_111 h
  have hn107 := hc
  by_cases hc : a0.toInt = 110
  · replace h := h.2.2.2.2.1 hc
    refine J_tableIn 120 dX12_nameOf_1 (by omega) (by omega) (by rw [hc]; rfl) (by decide) ?_
    refine J_bipush (v := 6) dX12_nameOf_120 (by decide) ?_
    exact J_iret rfl dX12_nameOf_122 h
  have hn110 := hc
  by_cases hc : a0.toInt = 112
  · replace h := h.2.2.2.2.2.1 hc
    refine J_tableIn 118 dX12_nameOf_1 (by omega) (by omega) (by rw [hc]; rfl) (by decide) ?_
    refine J_iconst (v := 5) dX12_nameOf_118 (by decide) ?_
    exact J_iret rfl dX12_nameOf_119 h
  have hn112 := hc
  by_cases hc : a0.toInt = 115
  · replace h := h.2.2.2.2.2.2.1 hc
    refine J_tableIn 123 dX12_nameOf_1 (by omega) (by omega) (by rw [hc]; rfl) (by decide) ?_
    refine J_bipush (v := 7) dX12_nameOf_123 (by decide) ?_
    exact J_iret rfl dX12_nameOf_125 h
  have hn115 := hc
  by_cases hc : a0.toInt = 119
  · replace h := h.2.2.2.2.2.2.2.1 hc
    refine J_tableIn 114 dX12_nameOf_1 (by omega) (by omega) (by rw [hc]; rfl) (by decide) ?_
    refine J_iconst (v := 3) dX12_nameOf_114 (by decide) ?_
    exact J_iret rfl dX12_nameOf_115 h
  have hn119 := hc
  replace h := h.2.2.2.2.2.2.2.2 hn97 hn99 hn104 hn107 hn110 hn112 hn115 hn119
  by_cases hc : a0.toInt = 98
  · refine J_tableIn 126 dX12_nameOf_1 (by omega) (by omega) (by rw [hc]; rfl) (by decide) ?_
    refine J_iconst (v := (-1)) dX12_nameOf_126 (by decide) ?_
    exact J_iret rfl dX12_nameOf_127 h
  have hn98 := hc
  by_cases hc : a0.toInt = 100
  · refine J_tableIn 126 dX12_nameOf_1 (by omega) (by omega) (by rw [hc]; rfl) (by decide) ?_
    refine J_iconst (v := (-1)) dX12_nameOf_126 (by decide) ?_
    exact J_iret rfl dX12_nameOf_127 h
  have hn100 := hc
  by_cases hc : a0.toInt = 101
  · refine J_tableIn 126 dX12_nameOf_1 (by omega) (by omega) (by rw [hc]; rfl) (by decide) ?_
    refine J_iconst (v := (-1)) dX12_nameOf_126 (by decide) ?_
    exact J_iret rfl dX12_nameOf_127 h
  have hn101 := hc
  by_cases hc : a0.toInt = 102
  · refine J_tableIn 126 dX12_nameOf_1 (by omega) (by omega) (by rw [hc]; rfl) (by decide) ?_
    refine J_iconst (v := (-1)) dX12_nameOf_126 (by decide) ?_
    exact J_iret rfl dX12_nameOf_127 h
  have hn102 := hc
  by_cases hc : a0.toInt = 103
  · refine J_tableIn 126 dX12_nameOf_1 (by omega) (by omega) (by rw [hc]; rfl) (by decide) ?_
    refine J_iconst (v := (-1)) dX12_nameOf_126 (by decide) ?_
    exact J_iret rfl dX12_nameOf_127 h
  have hn103 := hc
  by_cases hc : a0.toInt = 105
  · refine J_tableIn 126 dX12_nameOf_1 (by omega) (by omega) (by rw [hc]; rfl) (by decide) ?_
    refine J_iconst (v := (-1)) dX12_nameOf_126 (by decide) ?_
    exact J_iret rfl dX12_nameOf_127 h
  have hn105 := hc
  by_cases hc : a0.toInt = 106
  · refine J_tableIn 126 dX12_nameOf_1 (by omega) (by omega) (by rw [hc]; rfl) (by decide) ?_
    refine J_iconst (v := (-1)) dX12_nameOf_126 (by decide) ?_
    exact J_iret rfl dX12_nameOf_127 h
  have hn106 := hc
  by_cases hc : a0.toInt = 108
  · refine J_tableIn 126 dX12_nameOf_1 (by omega) (by omega) (by rw [hc]; rfl) (by decide) ?_
    refine J_iconst (v := (-1)) dX12_nameOf_126 (by decide) ?_
    exact J_iret rfl dX12_nameOf_127 h
  have hn108 := hc
  by_cases hc : a0.toInt = 109
  · refine J_tableIn 126 dX12_nameOf_1 (by omega) (by omega) (by rw [hc]; rfl) (by decide) ?_
    refine J_iconst (v := (-1)) dX12_nameOf_126 (by decide) ?_
    exact J_iret rfl dX12_nameOf_127 h
  have hn109 := hc
  by_cases hc : a0.toInt = 111
  · refine J_tableIn 126 dX12_nameOf_1 (by omega) (by omega) (by rw [hc]; rfl) (by decide) ?_
    refine J_iconst (v := (-1)) dX12_nameOf_126 (by decide) ?_
    exact J_iret rfl dX12_nameOf_127 h
  have hn111 := hc
  by_cases hc : a0.toInt = 113
  · refine J_tableIn 126 dX12_nameOf_1 (by omega) (by omega) (by rw [hc]; rfl) (by decide) ?_
    refine J_iconst (v := (-1)) dX12_nameOf_126 (by decide) ?_
    exact J_iret rfl dX12_nameOf_127 h
  have hn113 := hc
  by_cases hc : a0.toInt = 114
  · refine J_tableIn 126 dX12_nameOf_1 (by omega) (by omega) (by rw [hc]; rfl) (by decide) ?_
    refine J_iconst (v := (-1)) dX12_nameOf_126 (by decide) ?_
    exact J_iret rfl dX12_nameOf_127 h
  have hn114 := hc
  by_cases hc : a0.toInt = 116
  · refine J_tableIn 126 dX12_nameOf_1 (by omega) (by omega) (by rw [hc]; rfl) (by decide) ?_
    refine J_iconst (v := (-1)) dX12_nameOf_126 (by decide) ?_
    exact J_iret rfl dX12_nameOf_127 h
  have hn116 := hc
  by_cases hc : a0.toInt = 117
  · refine J_tableIn 126 dX12_nameOf_1 (by omega) (by omega) (by rw [hc]; rfl) (by decide) ?_
    refine J_iconst (v := (-1)) dX12_nameOf_126 (by decide) ?_
    exact J_iret rfl dX12_nameOf_127 h
  have hn117 := hc
  by_cases hc : a0.toInt = 118
  · refine J_tableIn 126 dX12_nameOf_1 (by omega) (by omega) (by rw [hc]; rfl) (by decide) ?_
    refine J_iconst (v := (-1)) dX12_nameOf_126 (by decide) ?_
    exact J_iret rfl dX12_nameOf_127 h
  have hn118 := hc
  refine J_tableOut 126 dX12_nameOf_1 (by omega) (by decide) ?_
  refine J_iconst (v := (-1)) dX12_nameOf_126 (by decide) ?_
  exact J_iret rfl dX12_nameOf_127 h
theorem M_X12_nameOf {Γ : GG} {l : Launch} {d : Nat} {Q : Option Value → St → Prop} {σ : St} (a0 : Int32) (k : J Γ l d mX12_nameOf Q 0 [(0, .int a0)] [] σ) : Meth Γ l d mX12_nameOf [.int a0] σ Q := Meth_of_J (by decide +kernel) (fun _ => Nat.le_of_ble_eq_true rfl) (fun _ => rfl) k
set_option maxHeartbeats 4000000 in
set_option maxRecDepth 100000 in
theorem w_X12_operand_196 {Γ : GG} {l : Launch} {d : Nat} {Q : Option Value → St → Prop} {σ : St} (a2 : Int32) (a3 : Int32) (h : (a2 = (0 : Int32) → Meth Γ l d mX12_wrong [.ref 59] σ (KV (fun σ1 => Q none σ1))) ∧ (¬ a2 = (0 : Int32) → Meth Γ l d mX12_look [.ref 59] σ (KI (fun x3 σ2 => ((48 : Int32) ≤ x3 ∧ x3 ≤ (57 : Int32) → Meth Γ l d mX12_wrong [.ref 59] σ2 (KV (fun σ4 => Q none σ4))) ∧ (¬ ((48 : Int32) ≤ x3 ∧ x3 ≤ (57 : Int32)) → Meth Γ l d mX12_lay [.ref 59, .int (1), .int a3] σ2 (KV (fun σ5 => Q none σ5))))))) : J Γ l (d + 1) mX12_operand Q 196 [(0, .ref 59), (2, .int a2), (3, .int a3)] [] σ := by
  refine J_iload_n (i := 2) (kk := 1) dX12_operand_196 rfl rfl ?_
  refine J_if_eq 214 dX12_operand_197 (by decide) (fun hc => ?_) (fun hc => ?_)
  · replace h := h.1 hc
    refine J_aload_n (i := 0) (kk := 0) dX12_operand_214 rfl rfl ?_
    refine J_callV [] [] calX12_wrong klX12_284 (b := 59) (ci := 12) (by decide) rfl rfl rfl rfl (Nat.le_of_ble_eq_true rfl) dX12_operand_215 (KV.to h ?_)
    clear h
    intro σ1 h
    exact J_vret rfl dX12_operand_218 h
  · replace h := h.2 hc
    refine J_aload_n (i := 0) (kk := 0) dX12_operand_200 rfl rfl ?_
    refine J_callV [] [] calX12_look klX12_271 (b := 59) (ci := 12) (by decide) rfl rfl rfl rfl (Nat.le_of_ble_eq_true rfl) dX12_operand_201 (KI.to h ?_)
    clear h
    intro x3 σ2 h
    refine J_bipush (v := 48) dX12_operand_204 (by decide) ?_
    refine J_bipush (v := 57) dX12_operand_206 (by decide) ?_
    refine J_callS [.int x3, .int (48), .int (57)] [] calX12_in klX12_196 rfl rfl (Nat.le_of_ble_eq_true rfl) dX12_operand_208 (KI.to (S_X12_in x3 (48 : Int32) (57 : Int32)) ?_)
    rintro x9 s9 ⟨rfl, ⟨g6, rfl⟩ | ⟨g6, rfl⟩⟩
    · replace h := h.1 g6
      refine J_if_eq 219 dX12_operand_211 (by decide) (fun hc => absurd hc (by decide)) (fun _ => ?_)
      refine J_aload_n (i := 0) (kk := 0) dX12_operand_214 rfl rfl ?_
      refine J_callV [] [] calX12_wrong klX12_284 (b := 59) (ci := 12) (by decide) rfl rfl rfl rfl (Nat.le_of_ble_eq_true rfl) dX12_operand_215 (KV.to h ?_)
      clear h
      intro σ4 h
      exact J_vret rfl dX12_operand_218 h
    · replace h := h.2 g6
      refine J_if_eq 219 dX12_operand_211 (by decide) (fun _ => ?_) (fun hc => absurd hc (by decide))
      refine J_aload_n (i := 0) (kk := 0) dX12_operand_219 rfl rfl ?_
      refine J_iconst (v := 1) dX12_operand_220 (by decide) ?_
      refine J_iload_n (i := 3) (kk := 2) dX12_operand_221 rfl rfl ?_
      refine J_callV [.int (1), .int a3] [] calX12_lay klX12_277 (b := 59) (ci := 12) (by decide) rfl rfl rfl rfl (Nat.le_of_ble_eq_true rfl) dX12_operand_222 (KV.to h ?_)
      clear h
      intro σ5 h
      exact J_vret rfl dX12_operand_225 h
set_option maxHeartbeats 4000000 in
set_option maxRecDepth 100000 in
theorem w_X12_operand_148 {Γ : GG} {l : Launch} {d : Nat} {Q : Option Value → St → Prop} {σ : St} (a2 : Int32) (a3 : Int32) (h : ((4 : Int32) ≤ a2 → J Γ l (d + 1) mX12_operand Q 196 [(0, .ref 59), (2, .int a2), (3, .int a3)] [] σ) ∧ (¬ (4 : Int32) ≤ a2 → Meth Γ l d mX12_look [.ref 59] σ (KI (fun x2 σ1 => ((48 : Int32) ≤ x2 ∧ x2 ≤ (57 : Int32) → Meth Γ l d mX12_look [.ref 59] σ1 (KI (fun x4 σ3 => ∀ x5 : Int32, x5 = (((10 : Int32) * a3) + x4) - (48 : Int32) → ∀ x6 : Int32, x6 = a2 + 1 → J Γ l (d + 1) mX12_operand Q 148 [(0, .ref 59), (2, .int x6), (3, .int x5)] [] (wr σ3 59 41 ((rd σ3 59 41) + (1 : Int32)))))) ∧ (¬ ((48 : Int32) ≤ x2 ∧ x2 ≤ (57 : Int32)) → J Γ l (d + 1) mX12_operand Q 196 [(0, .ref 59), (2, .int a2), (3, .int a3)] [] σ1))))) : J Γ l (d + 1) mX12_operand Q 148 [(0, .ref 59), (2, .int a2), (3, .int a3)] [] σ := by
  refine J_iload_n (i := 2) (kk := 1) dX12_operand_148 rfl rfl ?_
  refine J_iconst (v := 4) dX12_operand_149 (by decide) ?_
  refine J_icmp_ge 196 dX12_operand_150 (by decide) (fun hc => ?_) (fun hc => ?_)
  · replace h := h.1 hc
    refine J_sub [0, 1, 2] rfl ?_
    exact h
  · replace h := h.2 hc
    refine J_aload_n (i := 0) (kk := 0) dX12_operand_153 rfl rfl ?_
    refine J_callV [] [] calX12_look klX12_271 (b := 59) (ci := 12) (by decide) rfl rfl rfl rfl (Nat.le_of_ble_eq_true rfl) dX12_operand_154 (KI.to h ?_)
    clear h
    intro x2 σ1 h
    refine J_bipush (v := 48) dX12_operand_157 (by decide) ?_
    refine J_bipush (v := 57) dX12_operand_159 (by decide) ?_
    refine J_callS [.int x2, .int (48), .int (57)] [] calX12_in klX12_196 rfl rfl (Nat.le_of_ble_eq_true rfl) dX12_operand_161 (KI.to (S_X12_in x2 (48 : Int32) (57 : Int32)) ?_)
    rintro x9 s9 ⟨rfl, ⟨g7, rfl⟩ | ⟨g7, rfl⟩⟩
    · replace h := h.1 g7
      refine J_if_eq 196 dX12_operand_164 (by decide) (fun hc => absurd hc (by decide)) (fun _ => ?_)
      refine J_bipush (v := 10) dX12_operand_167 (by decide) ?_
      refine J_iload_n (i := 3) (kk := 2) dX12_operand_169 rfl rfl ?_
      refine J_imul dX12_operand_170 ?_
      refine J_aload_n (i := 0) (kk := 0) dX12_operand_171 rfl rfl ?_
      refine J_callV [] [.int ((10 : Int32) * a3)] calX12_look klX12_271 (b := 59) (ci := 12) (by decide) rfl rfl rfl rfl (Nat.le_of_ble_eq_true rfl) dX12_operand_172 (KI.to h ?_)
      clear h
      intro x4 σ3 h
      refine J_iadd dX12_operand_175 ?_
      refine J_bipush (v := 48) dX12_operand_176 (by decide) ?_
      refine J_isub dX12_operand_178 ?_
      refine J_nameI (fun x5 ex5 => ?_)
      replace h := h x5 ex5
      refine J_istore_n (i := 3) (lv' := [(3, .int x5), (0, .ref 59), (2, .int a2)]) dX12_operand_179 rfl (by decide) rfl ?_
      obtain ⟨x6, ex6⟩ : ∃ y : Int32, y = a2 + 1 := ⟨_, rfl⟩
      replace h := h x6 ex6
      refine J_iinc (i := 2) (kk := 2) (v := x6) (lv' := [(2, .int x6), (3, .int x5), (0, .ref 59)]) dX12_operand_180 rfl (by rw [ex6]; rfl) (by decide) rfl ?_
      refine J_aload_n (i := 0) (kk := 2) dX12_operand_183 rfl rfl ?_
      refine J_dup dX12_operand_184 rfl ?_
      refine J_getI (q := 59) (ci := 12) (kf := 41) kfX12_259 uxX12 rfl (by decide) rfl (by decide) rfl dX12_operand_185 ?_
      refine J_iconst (v := 1) dX12_operand_188 (by decide) ?_
      refine J_iadd dX12_operand_189 ?_
      refine J_putf (q := 59) (ci := 12) (kf := 41) (ty := .int) kfX12_259 uxX12 tyX12_ok nmX12 rfl (by decide) rfl (by decide) rfl rfl rfl rfl rfl dX12_operand_190 ?_
      refine J_goto (tgt := 148) dX12_operand_193 (by decide) ?_
      refine J_sub [2, 0, 1] rfl ?_
      exact h
    · replace h := h.2 g7
      refine J_if_eq 196 dX12_operand_164 (by decide) (fun _ => ?_) (fun hc => absurd hc (by decide))
      refine J_sub [0, 1, 2] rfl ?_
      exact h
set_option maxHeartbeats 4000000 in
set_option maxRecDepth 100000 in
theorem w_X12_operand_44 {Γ : GG} {l : Launch} {d : Nat} {Q : Option Value → St → Prop} {σ : St} (a1 : Int32) (h : (rd σ 59 43 = (9 : Int32) → Meth Γ l d mX12_wrong [.ref 59] σ (KV (fun σ7 => Q none σ7))) ∧ (¬ rd σ 59 43 = (9 : Int32) → (a1 = (33 : Int32) → Meth Γ l d mX12_operand [.ref 59] (wr (wr σ 59 43 ((rd σ 59 43) + (1 : Int32))) 59 41 ((rd σ 59 41) + (1 : Int32))) (KV (fun σ5 => Meth Γ l d mX12_lay [.ref 59, .int (5), .int (0)] σ5 (KV (fun σ6 => Q none (wr σ6 59 43 ((rd σ6 59 43) - (1 : Int32)))))))) ∧ (¬ a1 = (33 : Int32) → Meth Γ l d mX12_whole [.ref 59] (wr (wr σ 59 43 ((rd σ 59 43) + (1 : Int32))) 59 41 ((rd σ 59 41) + (1 : Int32))) (KV (fun σ1 => (rd σ1 59 42 < (0 : Int32) → Meth Γ l d mX12_look [.ref 59] σ1 (KI (fun x3 σ2 => (x3 = (41 : Int32) → Q none (wr (wr σ2 59 41 ((rd σ2 59 41) + (1 : Int32))) 59 43 ((rd σ2 59 43) - (1 : Int32)))) ∧ (¬ x3 = (41 : Int32) → Meth Γ l d mX12_wrong [.ref 59] σ2 (KV (fun σ4 => Q none σ4)))))) ∧ (¬ rd σ1 59 42 < (0 : Int32) → Q none σ1)))))) : J Γ l (d + 1) mX12_operand Q 44 [(0, .ref 59), (1, .int a1)] [] σ := by
  refine J_aload_n (i := 0) (kk := 0) dX12_operand_44 rfl rfl ?_
  refine J_getI (q := 59) (ci := 12) (kf := 43) kfX12_281 uxX12 rfl (by decide) rfl (by decide) rfl dX12_operand_45 ?_
  refine J_bipush (v := 9) dX12_operand_48 (by decide) ?_
  refine J_icmp_ne 58 dX12_operand_50 (by decide) (fun hc => ?_) (fun hc => ?_)
  · replace h := h.2 hc
    refine J_aload_n (i := 0) (kk := 0) dX12_operand_58 rfl rfl ?_
    refine J_dup dX12_operand_59 rfl ?_
    refine J_getI (q := 59) (ci := 12) (kf := 43) kfX12_281 uxX12 rfl (by decide) rfl (by decide) rfl dX12_operand_60 ?_
    refine J_iconst (v := 1) dX12_operand_63 (by decide) ?_
    refine J_iadd dX12_operand_64 ?_
    refine J_putf (q := 59) (ci := 12) (kf := 43) (ty := .int) kfX12_281 uxX12 tyX12_ok nmX12 rfl (by decide) rfl (by decide) rfl rfl rfl rfl rfl dX12_operand_65 ?_
    refine J_aload_n (i := 0) (kk := 0) dX12_operand_68 rfl rfl ?_
    refine J_dup dX12_operand_69 rfl ?_
    refine J_getI (q := 59) (ci := 12) (kf := 41) kfX12_259 uxX12 rfl (by decide) rfl (by decide) rfl dX12_operand_70 ?_
    refine J_eqI (y := rd σ 59 41) rfl ?_
    refine J_iconst (v := 1) dX12_operand_73 (by decide) ?_
    refine J_iadd dX12_operand_74 ?_
    refine J_putf (q := 59) (ci := 12) (kf := 41) (ty := .int) kfX12_259 uxX12 tyX12_ok nmX12 rfl (by decide) rfl (by decide) rfl rfl rfl rfl rfl dX12_operand_75 ?_
    refine J_iload_n (i := 1) (kk := 1) dX12_operand_78 rfl rfl ?_
    refine J_bipush (v := 33) dX12_operand_79 (by decide) ?_
    refine J_icmp_ne 97 dX12_operand_81 (by decide) (fun hc => ?_) (fun hc => ?_)
    · replace h := h.2 hc
      refine J_aload_n (i := 0) (kk := 0) dX12_operand_97 rfl rfl ?_
      refine J_callV [] [] calX12_whole klX12_290 (b := 59) (ci := 12) (by decide) rfl rfl rfl rfl (Nat.le_of_ble_eq_true rfl) dX12_operand_98 (KV.to h ?_)
      clear h
      intro σ1 h
      refine J_aload_n (i := 0) (kk := 0) dX12_operand_101 rfl rfl ?_
      refine J_getI (q := 59) (ci := 12) (kf := 42) kfX12_262 uxX12 rfl (by decide) rfl (by decide) rfl dX12_operand_102 ?_
      refine J_if_lt 109 dX12_operand_105 (by decide) (fun hc => ?_) (fun hc => ?_)
      · replace h := h.1 hc
        refine J_aload_n (i := 0) (kk := 0) dX12_operand_109 rfl rfl ?_
        refine J_callV [] [] calX12_look klX12_271 (b := 59) (ci := 12) (by decide) rfl rfl rfl rfl (Nat.le_of_ble_eq_true rfl) dX12_operand_110 (KI.to h ?_)
        clear h
        intro x3 σ2 h
        refine J_bipush (v := 41) dX12_operand_113 (by decide) ?_
        refine J_icmp_eq 123 dX12_operand_115 (by decide) (fun hc => ?_) (fun hc => ?_)
        · replace h := h.1 hc
          refine J_aload_n (i := 0) (kk := 0) dX12_operand_123 rfl rfl ?_
          refine J_dup dX12_operand_124 rfl ?_
          refine J_getI (q := 59) (ci := 12) (kf := 41) kfX12_259 uxX12 rfl (by decide) rfl (by decide) rfl dX12_operand_125 ?_
          refine J_iconst (v := 1) dX12_operand_128 (by decide) ?_
          refine J_iadd dX12_operand_129 ?_
          refine J_putf (q := 59) (ci := 12) (kf := 41) (ty := .int) kfX12_259 uxX12 tyX12_ok nmX12 rfl (by decide) rfl (by decide) rfl rfl rfl rfl rfl dX12_operand_130 ?_
          refine J_aload_n (i := 0) (kk := 0) dX12_operand_133 rfl rfl ?_
          refine J_dup dX12_operand_134 rfl ?_
          refine J_getI (q := 59) (ci := 12) (kf := 43) kfX12_281 uxX12 rfl (by decide) rfl (by decide) rfl dX12_operand_135 ?_
          refine J_eqI (y := rd σ2 59 43) rfl ?_
          refine J_iconst (v := 1) dX12_operand_138 (by decide) ?_
          refine J_isub dX12_operand_139 ?_
          refine J_putf (q := 59) (ci := 12) (kf := 43) (ty := .int) kfX12_281 uxX12 tyX12_ok nmX12 rfl (by decide) rfl (by decide) rfl rfl rfl rfl rfl dX12_operand_140 ?_
          exact J_vret rfl dX12_operand_143 h
        · replace h := h.2 hc
          refine J_aload_n (i := 0) (kk := 0) dX12_operand_118 rfl rfl ?_
          refine J_callV [] [] calX12_wrong klX12_284 (b := 59) (ci := 12) (by decide) rfl rfl rfl rfl (Nat.le_of_ble_eq_true rfl) dX12_operand_119 (KV.to h ?_)
          clear h
          intro σ4 h
          exact J_vret rfl dX12_operand_122 h
      · replace h := h.2 hc
        exact J_vret rfl dX12_operand_108 h
    · replace h := h.1 hc
      refine J_aload_n (i := 0) (kk := 0) dX12_operand_84 rfl rfl ?_
      refine J_callV [] [] calX12_operand klX12_287 (b := 59) (ci := 12) (by decide) rfl rfl rfl rfl (Nat.le_of_ble_eq_true rfl) dX12_operand_85 (KV.to h ?_)
      clear h
      intro σ5 h
      refine J_aload_n (i := 0) (kk := 0) dX12_operand_88 rfl rfl ?_
      refine J_iconst (v := 5) dX12_operand_89 (by decide) ?_
      refine J_iconst (v := 0) dX12_operand_90 (by decide) ?_
      refine J_callV [.int (5), .int (0)] [] calX12_lay klX12_277 (b := 59) (ci := 12) (by decide) rfl rfl rfl rfl (Nat.le_of_ble_eq_true rfl) dX12_operand_91 (KV.to h ?_)
      clear h
      intro σ6 h
      refine J_goto (tgt := 133) dX12_operand_94 (by decide) ?_
      refine J_aload_n (i := 0) (kk := 0) dX12_operand_133 rfl rfl ?_
      refine J_dup dX12_operand_134 rfl ?_
      refine J_getI (q := 59) (ci := 12) (kf := 43) kfX12_281 uxX12 rfl (by decide) rfl (by decide) rfl dX12_operand_135 ?_
      refine J_iconst (v := 1) dX12_operand_138 (by decide) ?_
      refine J_isub dX12_operand_139 ?_
      refine J_putf (q := 59) (ci := 12) (kf := 43) (ty := .int) kfX12_281 uxX12 tyX12_ok nmX12 rfl (by decide) rfl (by decide) rfl rfl rfl rfl rfl dX12_operand_140 ?_
      exact J_vret rfl dX12_operand_143 h
  · replace h := h.1 hc
    refine J_aload_n (i := 0) (kk := 0) dX12_operand_53 rfl rfl ?_
    refine J_callV [] [] calX12_wrong klX12_284 (b := 59) (ci := 12) (by decide) rfl rfl rfl rfl (Nat.le_of_ble_eq_true rfl) dX12_operand_54 (KV.to h ?_)
    clear h
    intro σ7 h
    exact J_vret rfl dX12_operand_57 h
set_option maxHeartbeats 4000000 in
set_option maxRecDepth 100000 in
theorem w_X12_operand_0 {Γ : GG} {l : Launch} {d : Nat} {Q : Option Value → St → Prop} {σ : St}  (h : Meth Γ l d mX12_look [.ref 59] σ (KI (fun x2 σ1 => Meth Γ l d mX12_nameOf [.int x2] σ1 (KI (fun x4 σ3 => (x4 < (0 : Int32) → (x2 = (33 : Int32) → J Γ l (d + 1) mX12_operand Q 44 [(0, .ref 59), (1, .int x2)] [] σ3) ∧ (¬ x2 = (33 : Int32) → (x2 = (40 : Int32) → J Γ l (d + 1) mX12_operand Q 44 [(0, .ref 59), (1, .int x2)] [] σ3) ∧ (¬ x2 = (40 : Int32) → J Γ l (d + 1) mX12_operand Q 148 [(0, .ref 59), (2, .int (0)), (3, .int (0))] [] σ3))) ∧ (¬ x4 < (0 : Int32) → Meth Γ l d mX12_nameOf [.int x2] σ3 (KI (fun x6 σ5 => Meth Γ l d mX12_lay [.ref 59, .int (2), .int x6] σ5 (KV (fun σ7 => Q none (wr σ7 59 41 ((rd σ7 59 41) + (1 : Int32))))))))))))) : J Γ l (d + 1) mX12_operand Q 0 [(0, .ref 59)] [] σ := by
  refine J_aload_n (i := 0) (kk := 0) dX12_operand_0 rfl rfl ?_
  refine J_callV [] [] calX12_look klX12_271 (b := 59) (ci := 12) (by decide) rfl rfl rfl rfl (Nat.le_of_ble_eq_true rfl) dX12_operand_1 (KI.to h ?_)
  clear h
  intro x2 σ1 h
  refine J_istore_n (i := 1) (lv' := [(1, .int x2), (0, .ref 59)]) dX12_operand_4 rfl (by decide) rfl ?_
  refine J_iload_n (i := 1) (kk := 0) dX12_operand_5 rfl rfl ?_
  refine J_callS [.int x2] [] calX12_nameOf klX12_274 rfl rfl (Nat.le_of_ble_eq_true rfl) dX12_operand_6 (KI.to h ?_)
  clear h
  intro x4 σ3 h
  refine J_if_lt 32 dX12_operand_9 (by decide) (fun hc => ?_) (fun hc => ?_)
  · replace h := h.1 hc
    refine J_iload_n (i := 1) (kk := 0) dX12_operand_32 rfl rfl ?_
    refine J_bipush (v := 33) dX12_operand_33 (by decide) ?_
    refine J_icmp_eq 44 dX12_operand_35 (by decide) (fun hc => ?_) (fun hc => ?_)
    · replace h := h.1 hc
      refine J_sub [1, 0] rfl ?_
      exact h
    · replace h := h.2 hc
      refine J_iload_n (i := 1) (kk := 0) dX12_operand_38 rfl rfl ?_
      refine J_bipush (v := 40) dX12_operand_39 (by decide) ?_
      refine J_icmp_ne 144 dX12_operand_41 (by decide) (fun hc => ?_) (fun hc => ?_)
      · replace h := h.2 hc
        refine J_iconst (v := 0) dX12_operand_144 (by decide) ?_
        refine J_istore_n (i := 2) (lv' := [(2, .int (0)), (1, .int x2), (0, .ref 59)]) dX12_operand_145 rfl (by decide) rfl ?_
        refine J_iconst (v := 0) dX12_operand_146 (by decide) ?_
        refine J_istore_n (i := 3) (lv' := [(3, .int (0)), (2, .int (0)), (1, .int x2), (0, .ref 59)]) dX12_operand_147 rfl (by decide) rfl ?_
        refine J_sub [3, 1, 0] rfl ?_
        exact h
      · replace h := h.1 hc
        refine J_sub [1, 0] rfl ?_
        exact h
  · replace h := h.2 hc
    refine J_aload_n (i := 0) (kk := 1) dX12_operand_12 rfl rfl ?_
    refine J_iconst (v := 2) dX12_operand_13 (by decide) ?_
    refine J_iload_n (i := 1) (kk := 0) dX12_operand_14 rfl rfl ?_
    refine J_callS [.int x2] [.int (2), .ref 59] calX12_nameOf klX12_274 rfl rfl (Nat.le_of_ble_eq_true rfl) dX12_operand_15 (KI.to h ?_)
    clear h
    intro x6 σ5 h
    refine J_callV [.int (2), .int x6] [] calX12_lay klX12_277 (b := 59) (ci := 12) (by decide) rfl rfl rfl rfl (Nat.le_of_ble_eq_true rfl) dX12_operand_18 (KV.to h ?_)
    clear h
    intro σ7 h
    refine J_aload_n (i := 0) (kk := 1) dX12_operand_21 rfl rfl ?_
    refine J_dup dX12_operand_22 rfl ?_
    refine J_getI (q := 59) (ci := 12) (kf := 41) kfX12_259 uxX12 rfl (by decide) rfl (by decide) rfl dX12_operand_23 ?_
    refine J_iconst (v := 1) dX12_operand_26 (by decide) ?_
    refine J_iadd dX12_operand_27 ?_
    refine J_putf (q := 59) (ci := 12) (kf := 41) (ty := .int) kfX12_259 uxX12 tyX12_ok nmX12 rfl (by decide) rfl (by decide) rfl rfl rfl rfl rfl dX12_operand_28 ?_
    exact J_vret rfl dX12_operand_31 h
theorem M_X12_operand {Γ : GG} {l : Launch} {d : Nat} {Q : Option Value → St → Prop} {σ : St}  (k : J Γ l (d + 1) mX12_operand Q 0 [(0, .ref 59)] [] σ) : Meth Γ l (d + 1) mX12_operand [.ref 59] σ Q := Meth_of_J (by decide +kernel) (fun _ => Nat.le_of_ble_eq_true rfl) (fun _ => rfl) k
set_option maxHeartbeats 4000000 in
set_option maxRecDepth 100000 in
theorem w_X12_product_29 {Γ : GG} {l : Launch} {d : Nat} {Q : Option Value → St → Prop} {σ : St}  (h : Meth Γ l d mX12_look [.ref 59] σ (KI (fun x2 σ1 => Meth Γ l d mX12_operand [.ref 59] (wr σ1 59 41 ((rd σ1 59 41) + (1 : Int32))) (KV (fun σ3 => Meth Γ l d mX12_lay [.ref 59, .int x2, .int (0)] σ3 (KV (fun σ4 => J Γ l (d + 1) mX12_product Q 4 [(0, .ref 59)] [] σ4))))))) : J Γ l (d + 1) mX12_product Q 29 [(0, .ref 59)] [] σ := by
  refine J_aload_n (i := 0) (kk := 0) dX12_product_29 rfl rfl ?_
  refine J_callV [] [] calX12_look klX12_271 (b := 59) (ci := 12) (by decide) rfl rfl rfl rfl (Nat.le_of_ble_eq_true rfl) dX12_product_30 (KI.to h ?_)
  clear h
  intro x2 σ1 h
  refine J_istore_n (i := 1) (lv' := [(1, .int x2), (0, .ref 59)]) dX12_product_33 rfl (by decide) rfl ?_
  refine J_aload_n (i := 0) (kk := 1) dX12_product_34 rfl rfl ?_
  refine J_dup dX12_product_35 rfl ?_
  refine J_getI (q := 59) (ci := 12) (kf := 41) kfX12_259 uxX12 rfl (by decide) rfl (by decide) rfl dX12_product_36 ?_
  refine J_iconst (v := 1) dX12_product_39 (by decide) ?_
  refine J_iadd dX12_product_40 ?_
  refine J_putf (q := 59) (ci := 12) (kf := 41) (ty := .int) kfX12_259 uxX12 tyX12_ok nmX12 rfl (by decide) rfl (by decide) rfl rfl rfl rfl rfl dX12_product_41 ?_
  refine J_aload_n (i := 0) (kk := 1) dX12_product_44 rfl rfl ?_
  refine J_callV [] [] calX12_operand klX12_287 (b := 59) (ci := 12) (by decide) rfl rfl rfl rfl (Nat.le_of_ble_eq_true rfl) dX12_product_45 (KV.to h ?_)
  clear h
  intro σ3 h
  refine J_aload_n (i := 0) (kk := 1) dX12_product_48 rfl rfl ?_
  refine J_iload_n (i := 1) (kk := 0) dX12_product_49 rfl rfl ?_
  refine J_iconst (v := 0) dX12_product_50 (by decide) ?_
  refine J_callV [.int x2, .int (0)] [] calX12_lay klX12_277 (b := 59) (ci := 12) (by decide) rfl rfl rfl rfl (Nat.le_of_ble_eq_true rfl) dX12_product_51 (KV.to h ?_)
  clear h
  intro σ4 h
  refine J_goto (tgt := 4) dX12_product_54 (by decide) ?_
  refine J_sub [1] rfl ?_
  exact h
set_option maxHeartbeats 4000000 in
set_option maxRecDepth 100000 in
theorem w_X12_product_4 {Γ : GG} {l : Launch} {d : Nat} {Q : Option Value → St → Prop} {σ : St}  (h : ((0 : Int32) ≤ rd σ 59 42 → Q none σ) ∧ (¬ (0 : Int32) ≤ rd σ 59 42 → Meth Γ l d mX12_look [.ref 59] σ (KI (fun x2 σ1 => (x2 = (42 : Int32) → J Γ l (d + 1) mX12_product Q 29 [(0, .ref 59)] [] σ1) ∧ (¬ x2 = (42 : Int32) → Meth Γ l d mX12_look [.ref 59] σ1 (KI (fun x4 σ3 => (x4 = (47 : Int32) → J Γ l (d + 1) mX12_product Q 29 [(0, .ref 59)] [] σ3) ∧ (¬ x4 = (47 : Int32) → Q none σ3)))))))) : J Γ l (d + 1) mX12_product Q 4 [(0, .ref 59)] [] σ := by
  refine J_aload_n (i := 0) (kk := 0) dX12_product_4 rfl rfl ?_
  refine J_getI (q := 59) (ci := 12) (kf := 42) kfX12_262 uxX12 rfl (by decide) rfl (by decide) rfl dX12_product_5 ?_
  refine J_if_ge 57 dX12_product_8 (by decide) (fun hc => ?_) (fun hc => ?_)
  · replace h := h.1 hc
    exact J_vret rfl dX12_product_57 h
  · replace h := h.2 hc
    refine J_aload_n (i := 0) (kk := 0) dX12_product_11 rfl rfl ?_
    refine J_callV [] [] calX12_look klX12_271 (b := 59) (ci := 12) (by decide) rfl rfl rfl rfl (Nat.le_of_ble_eq_true rfl) dX12_product_12 (KI.to h ?_)
    clear h
    intro x2 σ1 h
    refine J_bipush (v := 42) dX12_product_15 (by decide) ?_
    refine J_icmp_eq 29 dX12_product_17 (by decide) (fun hc => ?_) (fun hc => ?_)
    · replace h := h.1 hc
      refine J_sub [0] rfl ?_
      exact h
    · replace h := h.2 hc
      refine J_aload_n (i := 0) (kk := 0) dX12_product_20 rfl rfl ?_
      refine J_callV [] [] calX12_look klX12_271 (b := 59) (ci := 12) (by decide) rfl rfl rfl rfl (Nat.le_of_ble_eq_true rfl) dX12_product_21 (KI.to h ?_)
      clear h
      intro x4 σ3 h
      refine J_bipush (v := 47) dX12_product_24 (by decide) ?_
      refine J_icmp_ne 57 dX12_product_26 (by decide) (fun hc => ?_) (fun hc => ?_)
      · replace h := h.2 hc
        exact J_vret rfl dX12_product_57 h
      · replace h := h.1 hc
        refine J_sub [0] rfl ?_
        exact h
set_option maxHeartbeats 4000000 in
set_option maxRecDepth 100000 in
theorem w_X12_product_0 {Γ : GG} {l : Launch} {d : Nat} {Q : Option Value → St → Prop} {σ : St}  (h : Meth Γ l d mX12_operand [.ref 59] σ (KV (fun σ1 => J Γ l (d + 1) mX12_product Q 4 [(0, .ref 59)] [] σ1))) : J Γ l (d + 1) mX12_product Q 0 [(0, .ref 59)] [] σ := by
  refine J_aload_n (i := 0) (kk := 0) dX12_product_0 rfl rfl ?_
  refine J_callV [] [] calX12_operand klX12_287 (b := 59) (ci := 12) (by decide) rfl rfl rfl rfl (Nat.le_of_ble_eq_true rfl) dX12_product_1 (KV.to h ?_)
  clear h
  intro σ1 h
  refine J_sub [0] rfl ?_
  exact h
theorem M_X12_product {Γ : GG} {l : Launch} {d : Nat} {Q : Option Value → St → Prop} {σ : St}  (k : J Γ l (d + 1) mX12_product Q 0 [(0, .ref 59)] [] σ) : Meth Γ l (d + 1) mX12_product [.ref 59] σ Q := Meth_of_J (by decide +kernel) (fun _ => Nat.le_of_ble_eq_true rfl) (fun _ => rfl) k
set_option maxHeartbeats 4000000 in
set_option maxRecDepth 100000 in
theorem w_X12_sum_29 {Γ : GG} {l : Launch} {d : Nat} {Q : Option Value → St → Prop} {σ : St}  (h : Meth Γ l d mX12_look [.ref 59] σ (KI (fun x2 σ1 => Meth Γ l d mX12_product [.ref 59] (wr σ1 59 41 ((rd σ1 59 41) + (1 : Int32))) (KV (fun σ3 => Meth Γ l d mX12_lay [.ref 59, .int x2, .int (0)] σ3 (KV (fun σ4 => J Γ l (d + 1) mX12_sum Q 4 [(0, .ref 59)] [] σ4))))))) : J Γ l (d + 1) mX12_sum Q 29 [(0, .ref 59)] [] σ := by
  refine J_aload_n (i := 0) (kk := 0) dX12_sum_29 rfl rfl ?_
  refine J_callV [] [] calX12_look klX12_271 (b := 59) (ci := 12) (by decide) rfl rfl rfl rfl (Nat.le_of_ble_eq_true rfl) dX12_sum_30 (KI.to h ?_)
  clear h
  intro x2 σ1 h
  refine J_istore_n (i := 1) (lv' := [(1, .int x2), (0, .ref 59)]) dX12_sum_33 rfl (by decide) rfl ?_
  refine J_aload_n (i := 0) (kk := 1) dX12_sum_34 rfl rfl ?_
  refine J_dup dX12_sum_35 rfl ?_
  refine J_getI (q := 59) (ci := 12) (kf := 41) kfX12_259 uxX12 rfl (by decide) rfl (by decide) rfl dX12_sum_36 ?_
  refine J_iconst (v := 1) dX12_sum_39 (by decide) ?_
  refine J_iadd dX12_sum_40 ?_
  refine J_putf (q := 59) (ci := 12) (kf := 41) (ty := .int) kfX12_259 uxX12 tyX12_ok nmX12 rfl (by decide) rfl (by decide) rfl rfl rfl rfl rfl dX12_sum_41 ?_
  refine J_aload_n (i := 0) (kk := 1) dX12_sum_44 rfl rfl ?_
  refine J_callV [] [] calX12_product klX12_293 (b := 59) (ci := 12) (by decide) rfl rfl rfl rfl (Nat.le_of_ble_eq_true rfl) dX12_sum_45 (KV.to h ?_)
  clear h
  intro σ3 h
  refine J_aload_n (i := 0) (kk := 1) dX12_sum_48 rfl rfl ?_
  refine J_iload_n (i := 1) (kk := 0) dX12_sum_49 rfl rfl ?_
  refine J_iconst (v := 0) dX12_sum_50 (by decide) ?_
  refine J_callV [.int x2, .int (0)] [] calX12_lay klX12_277 (b := 59) (ci := 12) (by decide) rfl rfl rfl rfl (Nat.le_of_ble_eq_true rfl) dX12_sum_51 (KV.to h ?_)
  clear h
  intro σ4 h
  refine J_goto (tgt := 4) dX12_sum_54 (by decide) ?_
  refine J_sub [1] rfl ?_
  exact h
set_option maxHeartbeats 4000000 in
set_option maxRecDepth 100000 in
theorem w_X12_sum_4 {Γ : GG} {l : Launch} {d : Nat} {Q : Option Value → St → Prop} {σ : St}  (h : ((0 : Int32) ≤ rd σ 59 42 → Q none σ) ∧ (¬ (0 : Int32) ≤ rd σ 59 42 → Meth Γ l d mX12_look [.ref 59] σ (KI (fun x2 σ1 => (x2 = (43 : Int32) → J Γ l (d + 1) mX12_sum Q 29 [(0, .ref 59)] [] σ1) ∧ (¬ x2 = (43 : Int32) → Meth Γ l d mX12_look [.ref 59] σ1 (KI (fun x4 σ3 => (x4 = (45 : Int32) → J Γ l (d + 1) mX12_sum Q 29 [(0, .ref 59)] [] σ3) ∧ (¬ x4 = (45 : Int32) → Q none σ3)))))))) : J Γ l (d + 1) mX12_sum Q 4 [(0, .ref 59)] [] σ := by
  refine J_aload_n (i := 0) (kk := 0) dX12_sum_4 rfl rfl ?_
  refine J_getI (q := 59) (ci := 12) (kf := 42) kfX12_262 uxX12 rfl (by decide) rfl (by decide) rfl dX12_sum_5 ?_
  refine J_if_ge 57 dX12_sum_8 (by decide) (fun hc => ?_) (fun hc => ?_)
  · replace h := h.1 hc
    exact J_vret rfl dX12_sum_57 h
  · replace h := h.2 hc
    refine J_aload_n (i := 0) (kk := 0) dX12_sum_11 rfl rfl ?_
    refine J_callV [] [] calX12_look klX12_271 (b := 59) (ci := 12) (by decide) rfl rfl rfl rfl (Nat.le_of_ble_eq_true rfl) dX12_sum_12 (KI.to h ?_)
    clear h
    intro x2 σ1 h
    refine J_bipush (v := 43) dX12_sum_15 (by decide) ?_
    refine J_icmp_eq 29 dX12_sum_17 (by decide) (fun hc => ?_) (fun hc => ?_)
    · replace h := h.1 hc
      refine J_sub [0] rfl ?_
      exact h
    · replace h := h.2 hc
      refine J_aload_n (i := 0) (kk := 0) dX12_sum_20 rfl rfl ?_
      refine J_callV [] [] calX12_look klX12_271 (b := 59) (ci := 12) (by decide) rfl rfl rfl rfl (Nat.le_of_ble_eq_true rfl) dX12_sum_21 (KI.to h ?_)
      clear h
      intro x4 σ3 h
      refine J_bipush (v := 45) dX12_sum_24 (by decide) ?_
      refine J_icmp_ne 57 dX12_sum_26 (by decide) (fun hc => ?_) (fun hc => ?_)
      · replace h := h.2 hc
        exact J_vret rfl dX12_sum_57 h
      · replace h := h.1 hc
        refine J_sub [0] rfl ?_
        exact h
set_option maxHeartbeats 4000000 in
set_option maxRecDepth 100000 in
theorem w_X12_sum_0 {Γ : GG} {l : Launch} {d : Nat} {Q : Option Value → St → Prop} {σ : St}  (h : Meth Γ l d mX12_product [.ref 59] σ (KV (fun σ1 => J Γ l (d + 1) mX12_sum Q 4 [(0, .ref 59)] [] σ1))) : J Γ l (d + 1) mX12_sum Q 0 [(0, .ref 59)] [] σ := by
  refine J_aload_n (i := 0) (kk := 0) dX12_sum_0 rfl rfl ?_
  refine J_callV [] [] calX12_product klX12_293 (b := 59) (ci := 12) (by decide) rfl rfl rfl rfl (Nat.le_of_ble_eq_true rfl) dX12_sum_1 (KV.to h ?_)
  clear h
  intro σ1 h
  refine J_sub [0] rfl ?_
  exact h
theorem M_X12_sum {Γ : GG} {l : Launch} {d : Nat} {Q : Option Value → St → Prop} {σ : St}  (k : J Γ l (d + 1) mX12_sum Q 0 [(0, .ref 59)] [] σ) : Meth Γ l (d + 1) mX12_sum [.ref 59] σ Q := Meth_of_J (by decide +kernel) (fun _ => Nat.le_of_ble_eq_true rfl) (fun _ => rfl) k
set_option maxHeartbeats 4000000 in
set_option maxRecDepth 100000 in
theorem w_X12_compared_0 {Γ : GG} {l : Launch} {d : Nat} {Q : Option Value → St → Prop} {σ : St}  (h : Meth Γ l d mX12_sum [.ref 59] σ (KV (fun σ1 => Meth Γ l d mX12_look [.ref 59] σ1 (KI (fun x3 σ2 => ((0 : Int32) ≤ rd σ2 59 42 → Q none σ2) ∧ (¬ (0 : Int32) ≤ rd σ2 59 42 → (x3 = (60 : Int32) → Meth Γ l d mX12_sum [.ref 59] (wr σ2 59 41 ((rd σ2 59 41) + (1 : Int32))) (KV (fun σ4 => Meth Γ l d mX12_lay [.ref 59, .int x3, .int (0)] σ4 (KV (fun σ5 => Q none σ5))))) ∧ (¬ x3 = (60 : Int32) → (x3 = (61 : Int32) → Meth Γ l d mX12_sum [.ref 59] (wr σ2 59 41 ((rd σ2 59 41) + (1 : Int32))) (KV (fun σ6 => Meth Γ l d mX12_lay [.ref 59, .int x3, .int (0)] σ6 (KV (fun σ7 => Q none σ7))))) ∧ (¬ x3 = (61 : Int32) → (x3 = (62 : Int32) → Meth Γ l d mX12_sum [.ref 59] (wr σ2 59 41 ((rd σ2 59 41) + (1 : Int32))) (KV (fun σ8 => Meth Γ l d mX12_lay [.ref 59, .int x3, .int (0)] σ8 (KV (fun σ9 => Q none σ9))))) ∧ (¬ x3 = (62 : Int32) → Q none σ2))))))))) : J Γ l (d + 1) mX12_compared Q 0 [(0, .ref 59)] [] σ := by
  refine J_aload_n (i := 0) (kk := 0) dX12_compared_0 rfl rfl ?_
  refine J_callV [] [] calX12_sum klX12_296 (b := 59) (ci := 12) (by decide) rfl rfl rfl rfl (Nat.le_of_ble_eq_true rfl) dX12_compared_1 (KV.to h ?_)
  clear h
  intro σ1 h
  refine J_aload_n (i := 0) (kk := 0) dX12_compared_4 rfl rfl ?_
  refine J_callV [] [] calX12_look klX12_271 (b := 59) (ci := 12) (by decide) rfl rfl rfl rfl (Nat.le_of_ble_eq_true rfl) dX12_compared_5 (KI.to h ?_)
  clear h
  intro x3 σ2 h
  refine J_istore_n (i := 1) (lv' := [(1, .int x3), (0, .ref 59)]) dX12_compared_8 rfl (by decide) rfl ?_
  refine J_aload_n (i := 0) (kk := 1) dX12_compared_9 rfl rfl ?_
  refine J_getI (q := 59) (ci := 12) (kf := 42) kfX12_262 uxX12 rfl (by decide) rfl (by decide) rfl dX12_compared_10 ?_
  refine J_if_ge 34 dX12_compared_13 (by decide) (fun hc => ?_) (fun hc => ?_)
  · replace h := h.1 hc
    exact J_vret rfl dX12_compared_34 h
  · replace h := h.2 hc
    refine J_iload_n (i := 1) (kk := 0) dX12_compared_16 rfl rfl ?_
    refine J_bipush (v := 60) dX12_compared_17 (by decide) ?_
    refine J_icmp_eq 35 dX12_compared_19 (by decide) (fun hc => ?_) (fun hc => ?_)
    · replace h := h.1 hc
      refine J_aload_n (i := 0) (kk := 1) dX12_compared_35 rfl rfl ?_
      refine J_dup dX12_compared_36 rfl ?_
      refine J_getI (q := 59) (ci := 12) (kf := 41) kfX12_259 uxX12 rfl (by decide) rfl (by decide) rfl dX12_compared_37 ?_
      refine J_iconst (v := 1) dX12_compared_40 (by decide) ?_
      refine J_iadd dX12_compared_41 ?_
      refine J_putf (q := 59) (ci := 12) (kf := 41) (ty := .int) kfX12_259 uxX12 tyX12_ok nmX12 rfl (by decide) rfl (by decide) rfl rfl rfl rfl rfl dX12_compared_42 ?_
      refine J_aload_n (i := 0) (kk := 1) dX12_compared_45 rfl rfl ?_
      refine J_callV [] [] calX12_sum klX12_296 (b := 59) (ci := 12) (by decide) rfl rfl rfl rfl (Nat.le_of_ble_eq_true rfl) dX12_compared_46 (KV.to h ?_)
      clear h
      intro σ4 h
      refine J_aload_n (i := 0) (kk := 1) dX12_compared_49 rfl rfl ?_
      refine J_iload_n (i := 1) (kk := 0) dX12_compared_50 rfl rfl ?_
      refine J_iconst (v := 0) dX12_compared_51 (by decide) ?_
      refine J_callV [.int x3, .int (0)] [] calX12_lay klX12_277 (b := 59) (ci := 12) (by decide) rfl rfl rfl rfl (Nat.le_of_ble_eq_true rfl) dX12_compared_52 (KV.to h ?_)
      clear h
      intro σ5 h
      exact J_vret rfl dX12_compared_55 h
    · replace h := h.2 hc
      refine J_iload_n (i := 1) (kk := 0) dX12_compared_22 rfl rfl ?_
      refine J_bipush (v := 61) dX12_compared_23 (by decide) ?_
      refine J_icmp_eq 35 dX12_compared_25 (by decide) (fun hc => ?_) (fun hc => ?_)
      · replace h := h.1 hc
        refine J_aload_n (i := 0) (kk := 1) dX12_compared_35 rfl rfl ?_
        refine J_dup dX12_compared_36 rfl ?_
        refine J_getI (q := 59) (ci := 12) (kf := 41) kfX12_259 uxX12 rfl (by decide) rfl (by decide) rfl dX12_compared_37 ?_
        refine J_iconst (v := 1) dX12_compared_40 (by decide) ?_
        refine J_iadd dX12_compared_41 ?_
        refine J_putf (q := 59) (ci := 12) (kf := 41) (ty := .int) kfX12_259 uxX12 tyX12_ok nmX12 rfl (by decide) rfl (by decide) rfl rfl rfl rfl rfl dX12_compared_42 ?_
        refine J_aload_n (i := 0) (kk := 1) dX12_compared_45 rfl rfl ?_
        refine J_callV [] [] calX12_sum klX12_296 (b := 59) (ci := 12) (by decide) rfl rfl rfl rfl (Nat.le_of_ble_eq_true rfl) dX12_compared_46 (KV.to h ?_)
        clear h
        intro σ6 h
        refine J_aload_n (i := 0) (kk := 1) dX12_compared_49 rfl rfl ?_
        refine J_iload_n (i := 1) (kk := 0) dX12_compared_50 rfl rfl ?_
        refine J_iconst (v := 0) dX12_compared_51 (by decide) ?_
        refine J_callV [.int x3, .int (0)] [] calX12_lay klX12_277 (b := 59) (ci := 12) (by decide) rfl rfl rfl rfl (Nat.le_of_ble_eq_true rfl) dX12_compared_52 (KV.to h ?_)
        clear h
        intro σ7 h
        exact J_vret rfl dX12_compared_55 h
      · replace h := h.2 hc
        refine J_iload_n (i := 1) (kk := 0) dX12_compared_28 rfl rfl ?_
        refine J_bipush (v := 62) dX12_compared_29 (by decide) ?_
        refine J_icmp_eq 35 dX12_compared_31 (by decide) (fun hc => ?_) (fun hc => ?_)
        · replace h := h.1 hc
          refine J_aload_n (i := 0) (kk := 1) dX12_compared_35 rfl rfl ?_
          refine J_dup dX12_compared_36 rfl ?_
          refine J_getI (q := 59) (ci := 12) (kf := 41) kfX12_259 uxX12 rfl (by decide) rfl (by decide) rfl dX12_compared_37 ?_
          refine J_iconst (v := 1) dX12_compared_40 (by decide) ?_
          refine J_iadd dX12_compared_41 ?_
          refine J_putf (q := 59) (ci := 12) (kf := 41) (ty := .int) kfX12_259 uxX12 tyX12_ok nmX12 rfl (by decide) rfl (by decide) rfl rfl rfl rfl rfl dX12_compared_42 ?_
          refine J_aload_n (i := 0) (kk := 1) dX12_compared_45 rfl rfl ?_
          refine J_callV [] [] calX12_sum klX12_296 (b := 59) (ci := 12) (by decide) rfl rfl rfl rfl (Nat.le_of_ble_eq_true rfl) dX12_compared_46 (KV.to h ?_)
          clear h
          intro σ8 h
          refine J_aload_n (i := 0) (kk := 1) dX12_compared_49 rfl rfl ?_
          refine J_iload_n (i := 1) (kk := 0) dX12_compared_50 rfl rfl ?_
          refine J_iconst (v := 0) dX12_compared_51 (by decide) ?_
          refine J_callV [.int x3, .int (0)] [] calX12_lay klX12_277 (b := 59) (ci := 12) (by decide) rfl rfl rfl rfl (Nat.le_of_ble_eq_true rfl) dX12_compared_52 (KV.to h ?_)
          clear h
          intro σ9 h
          exact J_vret rfl dX12_compared_55 h
        · replace h := h.2 hc
          exact J_vret rfl dX12_compared_34 h
theorem M_X12_compared {Γ : GG} {l : Launch} {d : Nat} {Q : Option Value → St → Prop} {σ : St}  (k : J Γ l (d + 1) mX12_compared Q 0 [(0, .ref 59)] [] σ) : Meth Γ l (d + 1) mX12_compared [.ref 59] σ Q := Meth_of_J (by decide +kernel) (fun _ => Nat.le_of_ble_eq_true rfl) (fun _ => rfl) k
set_option maxHeartbeats 4000000 in
set_option maxRecDepth 100000 in
theorem w_X12_all_4 {Γ : GG} {l : Launch} {d : Nat} {Q : Option Value → St → Prop} {σ : St}  (h : ((0 : Int32) ≤ rd σ 59 42 → Q none σ) ∧ (¬ (0 : Int32) ≤ rd σ 59 42 → Meth Γ l d mX12_look [.ref 59] σ (KI (fun x2 σ1 => (x2 = (38 : Int32) → Meth Γ l d mX12_compared [.ref 59] (wr σ1 59 41 ((rd σ1 59 41) + (1 : Int32))) (KV (fun σ3 => Meth Γ l d mX12_lay [.ref 59, .int (38), .int (0)] σ3 (KV (fun σ4 => J Γ l (d + 1) mX12_all Q 4 [(0, .ref 59)] [] σ4))))) ∧ (¬ x2 = (38 : Int32) → Q none σ1))))) : J Γ l (d + 1) mX12_all Q 4 [(0, .ref 59)] [] σ := by
  refine J_aload_n (i := 0) (kk := 0) dX12_all_4 rfl rfl ?_
  refine J_getI (q := 59) (ci := 12) (kf := 42) kfX12_262 uxX12 rfl (by decide) rfl (by decide) rfl dX12_all_5 ?_
  refine J_if_ge 44 dX12_all_8 (by decide) (fun hc => ?_) (fun hc => ?_)
  · replace h := h.1 hc
    exact J_vret rfl dX12_all_44 h
  · replace h := h.2 hc
    refine J_aload_n (i := 0) (kk := 0) dX12_all_11 rfl rfl ?_
    refine J_callV [] [] calX12_look klX12_271 (b := 59) (ci := 12) (by decide) rfl rfl rfl rfl (Nat.le_of_ble_eq_true rfl) dX12_all_12 (KI.to h ?_)
    clear h
    intro x2 σ1 h
    refine J_bipush (v := 38) dX12_all_15 (by decide) ?_
    refine J_icmp_ne 44 dX12_all_17 (by decide) (fun hc => ?_) (fun hc => ?_)
    · replace h := h.2 hc
      exact J_vret rfl dX12_all_44 h
    · replace h := h.1 hc
      refine J_aload_n (i := 0) (kk := 0) dX12_all_20 rfl rfl ?_
      refine J_dup dX12_all_21 rfl ?_
      refine J_getI (q := 59) (ci := 12) (kf := 41) kfX12_259 uxX12 rfl (by decide) rfl (by decide) rfl dX12_all_22 ?_
      refine J_iconst (v := 1) dX12_all_25 (by decide) ?_
      refine J_iadd dX12_all_26 ?_
      refine J_putf (q := 59) (ci := 12) (kf := 41) (ty := .int) kfX12_259 uxX12 tyX12_ok nmX12 rfl (by decide) rfl (by decide) rfl rfl rfl rfl rfl dX12_all_27 ?_
      refine J_aload_n (i := 0) (kk := 0) dX12_all_30 rfl rfl ?_
      refine J_callV [] [] calX12_compared klX12_299 (b := 59) (ci := 12) (by decide) rfl rfl rfl rfl (Nat.le_of_ble_eq_true rfl) dX12_all_31 (KV.to h ?_)
      clear h
      intro σ3 h
      refine J_aload_n (i := 0) (kk := 0) dX12_all_34 rfl rfl ?_
      refine J_bipush (v := 38) dX12_all_35 (by decide) ?_
      refine J_iconst (v := 0) dX12_all_37 (by decide) ?_
      refine J_callV [.int (38), .int (0)] [] calX12_lay klX12_277 (b := 59) (ci := 12) (by decide) rfl rfl rfl rfl (Nat.le_of_ble_eq_true rfl) dX12_all_38 (KV.to h ?_)
      clear h
      intro σ4 h
      refine J_goto (tgt := 4) dX12_all_41 (by decide) ?_
      refine J_sub [0] rfl ?_
      exact h
set_option maxHeartbeats 4000000 in
set_option maxRecDepth 100000 in
theorem w_X12_all_0 {Γ : GG} {l : Launch} {d : Nat} {Q : Option Value → St → Prop} {σ : St}  (h : Meth Γ l d mX12_compared [.ref 59] σ (KV (fun σ1 => J Γ l (d + 1) mX12_all Q 4 [(0, .ref 59)] [] σ1))) : J Γ l (d + 1) mX12_all Q 0 [(0, .ref 59)] [] σ := by
  refine J_aload_n (i := 0) (kk := 0) dX12_all_0 rfl rfl ?_
  refine J_callV [] [] calX12_compared klX12_299 (b := 59) (ci := 12) (by decide) rfl rfl rfl rfl (Nat.le_of_ble_eq_true rfl) dX12_all_1 (KV.to h ?_)
  clear h
  intro σ1 h
  refine J_sub [0] rfl ?_
  exact h
theorem M_X12_all {Γ : GG} {l : Launch} {d : Nat} {Q : Option Value → St → Prop} {σ : St}  (k : J Γ l (d + 1) mX12_all Q 0 [(0, .ref 59)] [] σ) : Meth Γ l (d + 1) mX12_all [.ref 59] σ Q := Meth_of_J (by decide +kernel) (fun _ => Nat.le_of_ble_eq_true rfl) (fun _ => rfl) k
set_option maxHeartbeats 4000000 in
set_option maxRecDepth 100000 in
theorem w_X12_whole_4 {Γ : GG} {l : Launch} {d : Nat} {Q : Option Value → St → Prop} {σ : St}  (h : ((0 : Int32) ≤ rd σ 59 42 → Q none σ) ∧ (¬ (0 : Int32) ≤ rd σ 59 42 → Meth Γ l d mX12_look [.ref 59] σ (KI (fun x2 σ1 => (x2 = (124 : Int32) → Meth Γ l d mX12_all [.ref 59] (wr σ1 59 41 ((rd σ1 59 41) + (1 : Int32))) (KV (fun σ3 => Meth Γ l d mX12_lay [.ref 59, .int (124), .int (0)] σ3 (KV (fun σ4 => J Γ l (d + 1) mX12_whole Q 4 [(0, .ref 59)] [] σ4))))) ∧ (¬ x2 = (124 : Int32) → Q none σ1))))) : J Γ l (d + 1) mX12_whole Q 4 [(0, .ref 59)] [] σ := by
  refine J_aload_n (i := 0) (kk := 0) dX12_whole_4 rfl rfl ?_
  refine J_getI (q := 59) (ci := 12) (kf := 42) kfX12_262 uxX12 rfl (by decide) rfl (by decide) rfl dX12_whole_5 ?_
  refine J_if_ge 44 dX12_whole_8 (by decide) (fun hc => ?_) (fun hc => ?_)
  · replace h := h.1 hc
    exact J_vret rfl dX12_whole_44 h
  · replace h := h.2 hc
    refine J_aload_n (i := 0) (kk := 0) dX12_whole_11 rfl rfl ?_
    refine J_callV [] [] calX12_look klX12_271 (b := 59) (ci := 12) (by decide) rfl rfl rfl rfl (Nat.le_of_ble_eq_true rfl) dX12_whole_12 (KI.to h ?_)
    clear h
    intro x2 σ1 h
    refine J_bipush (v := 124) dX12_whole_15 (by decide) ?_
    refine J_icmp_ne 44 dX12_whole_17 (by decide) (fun hc => ?_) (fun hc => ?_)
    · replace h := h.2 hc
      exact J_vret rfl dX12_whole_44 h
    · replace h := h.1 hc
      refine J_aload_n (i := 0) (kk := 0) dX12_whole_20 rfl rfl ?_
      refine J_dup dX12_whole_21 rfl ?_
      refine J_getI (q := 59) (ci := 12) (kf := 41) kfX12_259 uxX12 rfl (by decide) rfl (by decide) rfl dX12_whole_22 ?_
      refine J_iconst (v := 1) dX12_whole_25 (by decide) ?_
      refine J_iadd dX12_whole_26 ?_
      refine J_putf (q := 59) (ci := 12) (kf := 41) (ty := .int) kfX12_259 uxX12 tyX12_ok nmX12 rfl (by decide) rfl (by decide) rfl rfl rfl rfl rfl dX12_whole_27 ?_
      refine J_aload_n (i := 0) (kk := 0) dX12_whole_30 rfl rfl ?_
      refine J_callV [] [] calX12_all klX12_302 (b := 59) (ci := 12) (by decide) rfl rfl rfl rfl (Nat.le_of_ble_eq_true rfl) dX12_whole_31 (KV.to h ?_)
      clear h
      intro σ3 h
      refine J_aload_n (i := 0) (kk := 0) dX12_whole_34 rfl rfl ?_
      refine J_bipush (v := 124) dX12_whole_35 (by decide) ?_
      refine J_iconst (v := 0) dX12_whole_37 (by decide) ?_
      refine J_callV [.int (124), .int (0)] [] calX12_lay klX12_277 (b := 59) (ci := 12) (by decide) rfl rfl rfl rfl (Nat.le_of_ble_eq_true rfl) dX12_whole_38 (KV.to h ?_)
      clear h
      intro σ4 h
      refine J_goto (tgt := 4) dX12_whole_41 (by decide) ?_
      refine J_sub [0] rfl ?_
      exact h
set_option maxHeartbeats 4000000 in
set_option maxRecDepth 100000 in
theorem w_X12_whole_0 {Γ : GG} {l : Launch} {d : Nat} {Q : Option Value → St → Prop} {σ : St}  (h : Meth Γ l d mX12_all [.ref 59] σ (KV (fun σ1 => J Γ l (d + 1) mX12_whole Q 4 [(0, .ref 59)] [] σ1))) : J Γ l (d + 1) mX12_whole Q 0 [(0, .ref 59)] [] σ := by
  refine J_aload_n (i := 0) (kk := 0) dX12_whole_0 rfl rfl ?_
  refine J_callV [] [] calX12_all klX12_302 (b := 59) (ci := 12) (by decide) rfl rfl rfl rfl (Nat.le_of_ble_eq_true rfl) dX12_whole_1 (KV.to h ?_)
  clear h
  intro σ1 h
  refine J_sub [0] rfl ?_
  exact h
theorem M_X12_whole {Γ : GG} {l : Launch} {d : Nat} {Q : Option Value → St → Prop} {σ : St}  (k : J Γ l (d + 1) mX12_whole Q 0 [(0, .ref 59)] [] σ) : Meth Γ l (d + 1) mX12_whole [.ref 59] σ Q := Meth_of_J (by decide +kernel) (fun _ => Nat.le_of_ble_eq_true rfl) (fun _ => rfl) k
set_option maxHeartbeats 4000000 in
set_option maxRecDepth 100000 in
theorem w_X12_clause_0 {Γ : GG} {l : Launch} {d : Nat} {Q : Option Value → St → Prop} {σ : St}  (h : Meth Γ l (d + 1) mX12_whole [.ref 59] σ (KV (fun σ1 => ((0 : Int32) ≤ rd σ1 59 42 → Meth Γ l (d + 1) mX12_lay [.ref 59, .int (4), .int (0)] σ1 (KV (fun σ2 => Q none σ2))) ∧ (¬ (0 : Int32) ≤ rd σ1 59 42 → Meth Γ l (d + 1) mX12_look [.ref 59] σ1 (KI (fun x4 σ3 => (x4 = (44 : Int32) → Meth Γ l (d + 1) mX12_lay [.ref 59, .int (3), .int (0)] σ3 (KV (fun σ6 => Meth Γ l (d + 1) mX12_whole [.ref 59] (wr σ6 59 41 ((rd σ6 59 41) + (1 : Int32))) (KV (fun σ7 => Meth Γ l (d + 1) mX12_lay [.ref 59, .int (4), .int (0)] σ7 (KV (fun σ8 => Q none σ8))))))) ∧ (¬ x4 = (44 : Int32) → Meth Γ l (d + 1) mX12_lay [.ref 59, .int (4), .int (0)] σ3 (KV (fun σ5 => Q none σ5))))))))) : J Γ l (d + 2) mX12_clause Q 0 [(0, .ref 59)] [] σ := by
  refine J_aload_n (i := 0) (kk := 0) dX12_clause_0 rfl rfl ?_
  refine J_callV [] [] calX12_whole klX12_290 (b := 59) (ci := 12) (by decide) rfl rfl rfl rfl (Nat.le_of_ble_eq_true rfl) dX12_clause_1 (KV.to h ?_)
  clear h
  intro σ1 h
  refine J_aload_n (i := 0) (kk := 0) dX12_clause_4 rfl rfl ?_
  refine J_getI (q := 59) (ci := 12) (kf := 42) kfX12_262 uxX12 rfl (by decide) rfl (by decide) rfl dX12_clause_5 ?_
  refine J_if_ge 40 dX12_clause_8 (by decide) (fun hc => ?_) (fun hc => ?_)
  · replace h := h.1 hc
    refine J_aload_n (i := 0) (kk := 0) dX12_clause_40 rfl rfl ?_
    refine J_iconst (v := 4) dX12_clause_41 (by decide) ?_
    refine J_iconst (v := 0) dX12_clause_42 (by decide) ?_
    refine J_callV [.int (4), .int (0)] [] calX12_lay klX12_277 (b := 59) (ci := 12) (by decide) rfl rfl rfl rfl (Nat.le_of_ble_eq_true rfl) dX12_clause_43 (KV.to h ?_)
    clear h
    intro σ2 h
    exact J_vret rfl dX12_clause_46 h
  · replace h := h.2 hc
    refine J_aload_n (i := 0) (kk := 0) dX12_clause_11 rfl rfl ?_
    refine J_callV [] [] calX12_look klX12_271 (b := 59) (ci := 12) (by decide) rfl rfl rfl rfl (Nat.le_of_ble_eq_true rfl) dX12_clause_12 (KI.to h ?_)
    clear h
    intro x4 σ3 h
    refine J_bipush (v := 44) dX12_clause_15 (by decide) ?_
    refine J_icmp_ne 40 dX12_clause_17 (by decide) (fun hc => ?_) (fun hc => ?_)
    · replace h := h.2 hc
      refine J_aload_n (i := 0) (kk := 0) dX12_clause_40 rfl rfl ?_
      refine J_iconst (v := 4) dX12_clause_41 (by decide) ?_
      refine J_iconst (v := 0) dX12_clause_42 (by decide) ?_
      refine J_callV [.int (4), .int (0)] [] calX12_lay klX12_277 (b := 59) (ci := 12) (by decide) rfl rfl rfl rfl (Nat.le_of_ble_eq_true rfl) dX12_clause_43 (KV.to h ?_)
      clear h
      intro σ5 h
      exact J_vret rfl dX12_clause_46 h
    · replace h := h.1 hc
      refine J_aload_n (i := 0) (kk := 0) dX12_clause_20 rfl rfl ?_
      refine J_iconst (v := 3) dX12_clause_21 (by decide) ?_
      refine J_iconst (v := 0) dX12_clause_22 (by decide) ?_
      refine J_callV [.int (3), .int (0)] [] calX12_lay klX12_277 (b := 59) (ci := 12) (by decide) rfl rfl rfl rfl (Nat.le_of_ble_eq_true rfl) dX12_clause_23 (KV.to h ?_)
      clear h
      intro σ6 h
      refine J_aload_n (i := 0) (kk := 0) dX12_clause_26 rfl rfl ?_
      refine J_dup dX12_clause_27 rfl ?_
      refine J_getI (q := 59) (ci := 12) (kf := 41) kfX12_259 uxX12 rfl (by decide) rfl (by decide) rfl dX12_clause_28 ?_
      refine J_iconst (v := 1) dX12_clause_31 (by decide) ?_
      refine J_iadd dX12_clause_32 ?_
      refine J_putf (q := 59) (ci := 12) (kf := 41) (ty := .int) kfX12_259 uxX12 tyX12_ok nmX12 rfl (by decide) rfl (by decide) rfl rfl rfl rfl rfl dX12_clause_33 ?_
      refine J_aload_n (i := 0) (kk := 0) dX12_clause_36 rfl rfl ?_
      refine J_callV [] [] calX12_whole klX12_290 (b := 59) (ci := 12) (by decide) rfl rfl rfl rfl (Nat.le_of_ble_eq_true rfl) dX12_clause_37 (KV.to h ?_)
      clear h
      intro σ7 h
      refine J_aload_n (i := 0) (kk := 0) dX12_clause_40 rfl rfl ?_
      refine J_iconst (v := 4) dX12_clause_41 (by decide) ?_
      refine J_iconst (v := 0) dX12_clause_42 (by decide) ?_
      refine J_callV [.int (4), .int (0)] [] calX12_lay klX12_277 (b := 59) (ci := 12) (by decide) rfl rfl rfl rfl (Nat.le_of_ble_eq_true rfl) dX12_clause_43 (KV.to h ?_)
      clear h
      intro σ8 h
      exact J_vret rfl dX12_clause_46 h
theorem M_X12_clause {Γ : GG} {l : Launch} {d : Nat} {Q : Option Value → St → Prop} {σ : St}  (k : J Γ l (d + 2) mX12_clause Q 0 [(0, .ref 59)] [] σ) : Meth Γ l (d + 2) mX12_clause [.ref 59] σ Q := Meth_of_J (by decide +kernel) (fun _ => Nat.le_of_ble_eq_true rfl) (fun _ => rfl) k
set_option maxHeartbeats 4000000 in
set_option maxRecDepth 100000 in
theorem w_X12_law_110 {Γ : GG} {l : Launch} {d : Nat} {Q : Option Value → St → Prop} {σ : St} (a1 : Int32) (a2 : Int32) (h : (rd σ 59 42 < (0 : Int32) → vp_in (rd σ 59 32) 16 ∧ vp_in (rd σ 59 32) 17 ∧ Q (some (.int (((rd σ 59 32) + (1 : Int32)) - (1 : Int32)))) (wr (wr (wr (wr (wr (wr σ 59 31 (0 : Int32)) 85 ((rd σ 59 32).toNatClampNeg) a1) 86 ((rd σ 59 32).toNatClampNeg) ((rd σ 59 1) / (24 : Int32))) 87 ((rd σ 59 32).toNatClampNeg) a2) 88 ((rd σ 59 32).toNatClampNeg) (rd σ 59 40)) 59 32 ((rd σ 59 32) + (1 : Int32)))) ∧ (¬ rd σ 59 42 < (0 : Int32) → Q (some (.int (((-100) : Int32) - (rd σ 59 42)))) (wr σ 59 31 (0 : Int32)))) : J Γ l (d + 3) mX12_law Q 110 [(0, .ref 59), (1, .int a1), (2, .int a2)] [] σ := by
  refine J_aload_n (i := 0) (kk := 0) dX12_law_110 rfl rfl ?_
  refine J_iconst (v := 0) dX12_law_111 (by decide) ?_
  refine J_putf (q := 59) (ci := 12) (kf := 31) (ty := .int) kfX12_252 uxX12 tyX12_ok nmX12 rfl (by decide) rfl (by decide) rfl rfl rfl rfl rfl dX12_law_112 ?_
  refine J_aload_n (i := 0) (kk := 0) dX12_law_115 rfl rfl ?_
  refine J_getI (q := 59) (ci := 12) (kf := 42) kfX12_262 uxX12 rfl (by decide) rfl (by decide) rfl dX12_law_116 ?_
  refine J_eqI (y := rd σ 59 42) rfl ?_
  refine J_if_lt 130 dX12_law_119 (by decide) (fun hc => ?_) (fun hc => ?_)
  · replace h := h.1 hc
    refine J_aload_n (i := 0) (kk := 0) dX12_law_130 rfl rfl ?_
    refine J_getR 85 (q := 59) (ci := 12) (kf := 33) kfX12_86 uxX12 rfl (by decide) rfl (by decide) rfl dX12_law_131 ?_
    refine J_aload_n (i := 0) (kk := 0) dX12_law_134 rfl rfl ?_
    refine J_getI (q := 59) (ci := 12) (kf := 32) kfX12_305 uxX12 rfl (by decide) rfl (by decide) rfl dX12_law_135 ?_
    refine J_eqI (y := rd σ 59 32) rfl ?_
    refine J_iload_n (i := 1) (kk := 1) dX12_law_138 rfl rfl ?_
    have b1 := h.1
    replace h := h.2
    refine J_ast ((rd σ 59 32).toNatClampNeg) rfl (by decide) rfl b1 dX12_law_139 ?_
    refine J_aload_n (i := 0) (kk := 0) dX12_law_140 rfl rfl ?_
    refine J_getR 86 (q := 59) (ci := 12) (kf := 34) kfX12_89 uxX12 rfl (by decide) rfl (by decide) rfl dX12_law_141 ?_
    refine J_aload_n (i := 0) (kk := 0) dX12_law_144 rfl rfl ?_
    refine J_getI (q := 59) (ci := 12) (kf := 32) kfX12_305 uxX12 rfl (by decide) rfl (by decide) rfl dX12_law_145 ?_
    refine J_eqI (y := rd σ 59 32) rfl ?_
    refine J_aload_n (i := 0) (kk := 0) dX12_law_148 rfl rfl ?_
    refine J_callV [] [.int (rd σ 59 32), .ref 86] calX12_today klX12_230 (b := 59) (ci := 12) (by decide) rfl rfl rfl rfl (Nat.le_of_ble_eq_true rfl) dX12_law_149 (KI.to (S_X12_today) ?_)
    rintro x9 s9 ⟨rfl, rfl⟩
    refine J_eqI (y := (rd σ 59 1) / (24 : Int32)) rfl ?_
    refine J_ast ((rd σ 59 32).toNatClampNeg) rfl (by decide) rfl b1 dX12_law_152 ?_
    refine J_aload_n (i := 0) (kk := 0) dX12_law_153 rfl rfl ?_
    refine J_getR 87 (q := 59) (ci := 12) (kf := 35) kfX12_92 uxX12 rfl (by decide) rfl (by decide) rfl dX12_law_154 ?_
    refine J_aload_n (i := 0) (kk := 0) dX12_law_157 rfl rfl ?_
    refine J_getI (q := 59) (ci := 12) (kf := 32) kfX12_305 uxX12 rfl (by decide) rfl (by decide) rfl dX12_law_158 ?_
    refine J_eqI (y := rd σ 59 32) rfl ?_
    refine J_iload_n (i := 2) (kk := 2) dX12_law_161 rfl rfl ?_
    refine J_ast ((rd σ 59 32).toNatClampNeg) rfl (by decide) rfl b1 dX12_law_162 ?_
    refine J_aload_n (i := 0) (kk := 0) dX12_law_163 rfl rfl ?_
    refine J_getR 88 (q := 59) (ci := 12) (kf := 36) kfX12_95 uxX12 rfl (by decide) rfl (by decide) rfl dX12_law_164 ?_
    refine J_aload_n (i := 0) (kk := 0) dX12_law_167 rfl rfl ?_
    refine J_getI (q := 59) (ci := 12) (kf := 32) kfX12_305 uxX12 rfl (by decide) rfl (by decide) rfl dX12_law_168 ?_
    refine J_eqI (y := rd σ 59 32) rfl ?_
    refine J_aload_n (i := 0) (kk := 0) dX12_law_171 rfl rfl ?_
    refine J_getI (q := 59) (ci := 12) (kf := 40) kfX12_268 uxX12 rfl (by decide) rfl (by decide) rfl dX12_law_172 ?_
    refine J_eqI (y := rd σ 59 40) rfl ?_
    have b2 := h.1
    replace h := h.2
    refine J_ast ((rd σ 59 32).toNatClampNeg) rfl (by decide) rfl b2 dX12_law_175 ?_
    refine J_aload_n (i := 0) (kk := 0) dX12_law_176 rfl rfl ?_
    refine J_dup dX12_law_177 rfl ?_
    refine J_getI (q := 59) (ci := 12) (kf := 32) kfX12_305 uxX12 rfl (by decide) rfl (by decide) rfl dX12_law_178 ?_
    refine J_eqI (y := rd σ 59 32) rfl ?_
    refine J_iconst (v := 1) dX12_law_181 (by decide) ?_
    refine J_iadd dX12_law_182 ?_
    refine J_putf (q := 59) (ci := 12) (kf := 32) (ty := .int) kfX12_305 uxX12 tyX12_ok nmX12 rfl (by decide) rfl (by decide) rfl rfl rfl rfl rfl dX12_law_183 ?_
    refine J_aload_n (i := 0) (kk := 0) dX12_law_186 rfl rfl ?_
    refine J_getI (q := 59) (ci := 12) (kf := 32) kfX12_305 uxX12 rfl (by decide) rfl (by decide) rfl dX12_law_187 ?_
    refine J_eqI (y := ((rd σ 59 32) + (1 : Int32))) rfl ?_
    refine J_iconst (v := 1) dX12_law_190 (by decide) ?_
    refine J_isub dX12_law_191 ?_
    exact J_iret rfl dX12_law_192 h
  · replace h := h.2 hc
    refine J_bipush (v := (-100)) dX12_law_122 (by decide) ?_
    refine J_aload_n (i := 0) (kk := 0) dX12_law_124 rfl rfl ?_
    refine J_getI (q := 59) (ci := 12) (kf := 42) kfX12_262 uxX12 rfl (by decide) rfl (by decide) rfl dX12_law_125 ?_
    refine J_eqI (y := rd σ 59 42) rfl ?_
    refine J_isub dX12_law_128 ?_
    exact J_iret rfl dX12_law_129 h
set_option maxHeartbeats 4000000 in
set_option maxRecDepth 100000 in
theorem w_X12_law_95 {Γ : GG} {l : Launch} {d : Nat} {Q : Option Value → St → Prop} {σ : St} (a1 : Int32) (a2 : Int32) (h : (rd σ 59 31 ≤ rd σ 59 41 → J Γ l (d + 3) mX12_law Q 110 [(0, .ref 59), (1, .int a1), (2, .int a2)] [] σ) ∧ (¬ rd σ 59 31 ≤ rd σ 59 41 → Meth Γ l (d + 2) mX12_wrong [.ref 59] σ (KV (fun σ1 => J Γ l (d + 3) mX12_law Q 110 [(0, .ref 59), (1, .int a1), (2, .int a2)] [] σ1)))) : J Γ l (d + 3) mX12_law Q 95 [(0, .ref 59), (1, .int a1), (2, .int a2)] [] σ := by
  refine J_aload_n (i := 0) (kk := 0) dX12_law_95 rfl rfl ?_
  refine J_getI (q := 59) (ci := 12) (kf := 41) kfX12_259 uxX12 rfl (by decide) rfl (by decide) rfl dX12_law_96 ?_
  refine J_aload_n (i := 0) (kk := 0) dX12_law_99 rfl rfl ?_
  refine J_getI (q := 59) (ci := 12) (kf := 31) kfX12_252 uxX12 rfl (by decide) rfl (by decide) rfl dX12_law_100 ?_
  refine J_icmp_ge 110 dX12_law_103 (by decide) (fun hc => ?_) (fun hc => ?_)
  · replace h := h.1 hc
    refine J_sub [0, 1, 2] rfl ?_
    exact h
  · replace h := h.2 hc
    refine J_aload_n (i := 0) (kk := 0) dX12_law_106 rfl rfl ?_
    refine J_callV [] [] calX12_wrong klX12_284 (b := 59) (ci := 12) (by decide) rfl rfl rfl rfl (Nat.le_of_ble_eq_true rfl) dX12_law_107 (KV.to h ?_)
    clear h
    intro σ1 h
    refine J_sub [0, 1, 2] rfl ?_
    exact h
set_option maxHeartbeats 4000000 in
set_option maxRecDepth 100000 in
theorem w_X12_law_62 {Γ : GG} {l : Launch} {d : Nat} {Q : Option Value → St → Prop} {σ : St} (a1 : Int32) (a2 : Int32) (h : ((0 : Int32) ≤ rd σ 59 42 → J Γ l (d + 3) mX12_law Q 95 [(0, .ref 59), (1, .int a1), (2, .int a2)] [] σ) ∧ (¬ (0 : Int32) ≤ rd σ 59 42 → Meth Γ l (d + 2) mX12_look [.ref 59] σ (KI (fun x2 σ1 => (x2 = (59 : Int32) → Meth Γ l (d + 2) mX12_clause [.ref 59] (wr σ1 59 41 ((rd σ1 59 41) + (1 : Int32))) (KV (fun σ3 => J Γ l (d + 3) mX12_law Q 62 [(0, .ref 59), (1, .int a1), (2, .int a2)] [] σ3))) ∧ (¬ x2 = (59 : Int32) → J Γ l (d + 3) mX12_law Q 95 [(0, .ref 59), (1, .int a1), (2, .int a2)] [] σ1))))) : J Γ l (d + 3) mX12_law Q 62 [(0, .ref 59), (1, .int a1), (2, .int a2)] [] σ := by
  refine J_aload_n (i := 0) (kk := 0) dX12_law_62 rfl rfl ?_
  refine J_getI (q := 59) (ci := 12) (kf := 42) kfX12_262 uxX12 rfl (by decide) rfl (by decide) rfl dX12_law_63 ?_
  refine J_if_ge 95 dX12_law_66 (by decide) (fun hc => ?_) (fun hc => ?_)
  · replace h := h.1 hc
    refine J_sub [0, 1, 2] rfl ?_
    exact h
  · replace h := h.2 hc
    refine J_aload_n (i := 0) (kk := 0) dX12_law_69 rfl rfl ?_
    refine J_callV [] [] calX12_look klX12_271 (b := 59) (ci := 12) (by decide) rfl rfl rfl rfl (Nat.le_of_ble_eq_true rfl) dX12_law_70 (KI.to h ?_)
    clear h
    intro x2 σ1 h
    refine J_bipush (v := 59) dX12_law_73 (by decide) ?_
    refine J_icmp_ne 95 dX12_law_75 (by decide) (fun hc => ?_) (fun hc => ?_)
    · replace h := h.2 hc
      refine J_sub [0, 1, 2] rfl ?_
      exact h
    · replace h := h.1 hc
      refine J_aload_n (i := 0) (kk := 0) dX12_law_78 rfl rfl ?_
      refine J_dup dX12_law_79 rfl ?_
      refine J_getI (q := 59) (ci := 12) (kf := 41) kfX12_259 uxX12 rfl (by decide) rfl (by decide) rfl dX12_law_80 ?_
      refine J_iconst (v := 1) dX12_law_83 (by decide) ?_
      refine J_iadd dX12_law_84 ?_
      refine J_putf (q := 59) (ci := 12) (kf := 41) (ty := .int) kfX12_259 uxX12 tyX12_ok nmX12 rfl (by decide) rfl (by decide) rfl rfl rfl rfl rfl dX12_law_85 ?_
      refine J_aload_n (i := 0) (kk := 0) dX12_law_88 rfl rfl ?_
      refine J_callV [] [] calX12_clause klX12_308 (b := 59) (ci := 12) (by decide) rfl rfl rfl rfl (Nat.le_of_ble_eq_true rfl) dX12_law_89 (KV.to h ?_)
      clear h
      intro σ3 h
      refine J_goto (tgt := 62) dX12_law_92 (by decide) ?_
      refine J_sub [0, 1, 2] rfl ?_
      exact h
set_option maxHeartbeats 4000000 in
set_option maxRecDepth 100000 in
theorem w_X12_law_0 {Γ : GG} {l : Launch} {d : Nat} {Q : Option Value → St → Prop} {σ : St} (a1 : Int32) (a2 : Int32) (h : ((0 : Int32) ≤ a1 ∧ a1 ≤ (1 : Int32) → (0 ≤ a2 ∧ a2 ≤ 1499 → (rd σ 59 32 = (16 : Int32) → Q (some (.int ((-3)))) σ) ∧ (¬ rd σ 59 32 = (16 : Int32) → Meth Γ l (d + 2) mX12_clause [.ref 59] (wr (wr (wr (wr (wr σ 59 39 (rd σ 59 32)) 59 40 (0 : Int32)) 59 41 (0 : Int32)) 59 42 ((-1) : Int32)) 59 43 (0 : Int32)) (KV (fun σ1 => J Γ l (d + 3) mX12_law Q 62 [(0, .ref 59), (1, .int a1), (2, .int a2)] [] σ1)))) ∧ (¬ (0 ≤ a2 ∧ a2 ≤ 1499) → Q (some (.int ((-1)))) σ)) ∧ (¬ ((0 : Int32) ≤ a1 ∧ a1 ≤ (1 : Int32)) → Q (some (.int ((-1)))) σ)) : J Γ l (d + 3) mX12_law Q 0 [(0, .ref 59), (1, .int a1), (2, .int a2)] [] σ := by
  refine J_iload_n (i := 1) (kk := 1) dX12_law_0 rfl rfl ?_
  refine J_iconst (v := 0) dX12_law_1 (by decide) ?_
  refine J_iconst (v := 1) dX12_law_2 (by decide) ?_
  refine J_callS [.int a1, .int (0), .int (1)] [] calX12_in klX12_196 rfl rfl (Nat.le_of_ble_eq_true rfl) dX12_law_3 (KI.to (S_X12_in a1 (0 : Int32) (1 : Int32)) ?_)
  rintro x9 s9 ⟨rfl, ⟨g3, rfl⟩ | ⟨g3, rfl⟩⟩
  · replace h := h.1 g3
    refine J_if_eq 16 dX12_law_6 (by decide) (fun hc => absurd hc (by decide)) (fun _ => ?_)
    refine J_iload_n (i := 2) (kk := 2) dX12_law_9 rfl rfl ?_
    refine J_callS [.int a2] [] calX12_isDay klX12_220 rfl rfl (Nat.le_of_ble_eq_true rfl) dX12_law_10 (KI.to (S_X12_isDay a2) ?_)
    rintro x9 s9 ⟨rfl, ⟨g2, rfl⟩ | ⟨g2, rfl⟩⟩
    · replace h := h.1 g2
      refine J_if_ne 18 dX12_law_13 (by decide) (fun _ => ?_) (fun hc => absurd hc (by decide))
      refine J_aload_n (i := 0) (kk := 0) dX12_law_18 rfl rfl ?_
      refine J_getI (q := 59) (ci := 12) (kf := 32) kfX12_305 uxX12 rfl (by decide) rfl (by decide) rfl dX12_law_19 ?_
      refine J_bipush (v := 16) dX12_law_22 (by decide) ?_
      refine J_icmp_ne 30 dX12_law_24 (by decide) (fun hc => ?_) (fun hc => ?_)
      · replace h := h.2 hc
        refine J_aload_n (i := 0) (kk := 0) dX12_law_30 rfl rfl ?_
        refine J_aload_n (i := 0) (kk := 0) dX12_law_31 rfl rfl ?_
        refine J_getI (q := 59) (ci := 12) (kf := 32) kfX12_305 uxX12 rfl (by decide) rfl (by decide) rfl dX12_law_32 ?_
        refine J_putf (q := 59) (ci := 12) (kf := 39) (ty := .int) kfX12_265 uxX12 tyX12_ok nmX12 rfl (by decide) rfl (by decide) rfl rfl rfl rfl rfl dX12_law_35 ?_
        refine J_aload_n (i := 0) (kk := 0) dX12_law_38 rfl rfl ?_
        refine J_iconst (v := 0) dX12_law_39 (by decide) ?_
        refine J_putf (q := 59) (ci := 12) (kf := 40) (ty := .int) kfX12_268 uxX12 tyX12_ok nmX12 rfl (by decide) rfl (by decide) rfl rfl rfl rfl rfl dX12_law_40 ?_
        refine J_aload_n (i := 0) (kk := 0) dX12_law_43 rfl rfl ?_
        refine J_iconst (v := 0) dX12_law_44 (by decide) ?_
        refine J_putf (q := 59) (ci := 12) (kf := 41) (ty := .int) kfX12_259 uxX12 tyX12_ok nmX12 rfl (by decide) rfl (by decide) rfl rfl rfl rfl rfl dX12_law_45 ?_
        refine J_aload_n (i := 0) (kk := 0) dX12_law_48 rfl rfl ?_
        refine J_iconst (v := (-1)) dX12_law_49 (by decide) ?_
        refine J_putf (q := 59) (ci := 12) (kf := 42) (ty := .int) kfX12_262 uxX12 tyX12_ok nmX12 rfl (by decide) rfl (by decide) rfl rfl rfl rfl rfl dX12_law_50 ?_
        refine J_aload_n (i := 0) (kk := 0) dX12_law_53 rfl rfl ?_
        refine J_iconst (v := 0) dX12_law_54 (by decide) ?_
        refine J_putf (q := 59) (ci := 12) (kf := 43) (ty := .int) kfX12_281 uxX12 tyX12_ok nmX12 rfl (by decide) rfl (by decide) rfl rfl rfl rfl rfl dX12_law_55 ?_
        refine J_aload_n (i := 0) (kk := 0) dX12_law_58 rfl rfl ?_
        refine J_callV [] [] calX12_clause klX12_308 (b := 59) (ci := 12) (by decide) rfl rfl rfl rfl (Nat.le_of_ble_eq_true rfl) dX12_law_59 (KV.to h ?_)
        clear h
        intro σ1 h
        refine J_sub [0, 1, 2] rfl ?_
        exact h
      · replace h := h.1 hc
        refine J_bipush (v := (-3)) dX12_law_27 (by decide) ?_
        exact J_iret rfl dX12_law_29 h
    · replace h := h.2 g2
      refine J_if_ne 18 dX12_law_13 (by decide) (fun hc => absurd hc (by decide)) (fun _ => ?_)
      refine J_iconst (v := (-1)) dX12_law_16 (by decide) ?_
      exact J_iret rfl dX12_law_17 h
  · replace h := h.2 g3
    refine J_if_eq 16 dX12_law_6 (by decide) (fun _ => ?_) (fun hc => absurd hc (by decide))
    refine J_iconst (v := (-1)) dX12_law_16 (by decide) ?_
    exact J_iret rfl dX12_law_17 h
theorem M_X12_law {Γ : GG} {l : Launch} {d : Nat} {Q : Option Value → St → Prop} {σ : St} (a1 : Int32) (a2 : Int32) (k : J Γ l (d + 3) mX12_law Q 0 [(0, .ref 59), (1, .int a1), (2, .int a2)] [] σ) : Meth Γ l (d + 3) mX12_law [.ref 59, .int a1, .int a2] σ Q := Meth_of_J (by decide +kernel) (fun _ => Nat.le_of_ble_eq_true rfl) (fun _ => rfl) k
set_option maxHeartbeats 4000000 in
set_option maxRecDepth 100000 in
theorem w_X12_forceOn_8 {Γ : GG} {l : Launch} {d : Nat} {Q : Option Value → St → Prop} {σ : St} (a1 : Int32) (a2 : Int32) (a3 : Int32) (a4 : Int32) (h : (a4 < (0 : Int32) → Q (some (.int ((-2)))) σ) ∧ (¬ a4 < (0 : Int32) → vp_in a4 16 ∧ (rd σ 85 (a4.toNatClampNeg) = a1 → (a3 < rd σ 86 (a4.toNatClampNeg) → ∀ x3 : Int32, x3 = a4 + (-1) → J Γ l d mX12_forceOn Q 8 [(0, .ref 59), (1, .int a1), (2, .int a2), (3, .int a3), (4, .int x3)] [] σ) ∧ (¬ a3 < rd σ 86 (a4.toNatClampNeg) → (a2 < rd σ 87 (a4.toNatClampNeg) → ∀ x4 : Int32, x4 = a4 + (-1) → J Γ l d mX12_forceOn Q 8 [(0, .ref 59), (1, .int a1), (2, .int a2), (3, .int a3), (4, .int x4)] [] σ) ∧ (¬ a2 < rd σ 87 (a4.toNatClampNeg) → Q (some (.int a4)) σ))) ∧ (¬ rd σ 85 (a4.toNatClampNeg) = a1 → ∀ x2 : Int32, x2 = a4 + (-1) → J Γ l d mX12_forceOn Q 8 [(0, .ref 59), (1, .int a1), (2, .int a2), (3, .int a3), (4, .int x2)] [] σ))) : J Γ l d mX12_forceOn Q 8 [(0, .ref 59), (1, .int a1), (2, .int a2), (3, .int a3), (4, .int a4)] [] σ := by
  refine J_iload (i := 4) (kk := 4) dX12_forceOn_8 rfl ?_
  refine J_if_lt 55 dX12_forceOn_10 (by decide) (fun hc => ?_) (fun hc => ?_)
  · replace h := h.1 hc
    refine J_bipush (v := (-2)) dX12_forceOn_55 (by decide) ?_
    exact J_iret rfl dX12_forceOn_57 h
  · replace h := h.2 hc
    refine J_aload_n (i := 0) (kk := 0) dX12_forceOn_13 rfl rfl ?_
    refine J_getR 85 (q := 59) (ci := 12) (kf := 33) kfX12_86 uxX12 rfl (by decide) rfl (by decide) rfl dX12_forceOn_14 ?_
    refine J_iload (i := 4) (kk := 4) dX12_forceOn_17 rfl ?_
    have b1 := h.1
    replace h := h.2
    refine J_ald (a4.toNatClampNeg) rfl (by decide) rfl b1 dX12_forceOn_19 ?_
    refine J_iload_n (i := 1) (kk := 1) dX12_forceOn_20 rfl rfl ?_
    refine J_icmp_ne 49 dX12_forceOn_21 (by decide) (fun hc => ?_) (fun hc => ?_)
    · replace h := h.2 hc
      obtain ⟨x2, ex2⟩ : ∃ y : Int32, y = a4 + (-1) := ⟨_, rfl⟩
      replace h := h x2 ex2
      refine J_iinc (i := 4) (kk := 4) (v := x2) (lv' := [(4, .int x2), (0, .ref 59), (1, .int a1), (2, .int a2), (3, .int a3)]) dX12_forceOn_49 rfl (by rw [ex2]; rfl) (by decide) rfl ?_
      refine J_goto (tgt := 8) dX12_forceOn_52 (by decide) ?_
      refine J_sub [1, 2, 3, 4, 0] rfl ?_
      exact h
    · replace h := h.1 hc
      refine J_aload_n (i := 0) (kk := 0) dX12_forceOn_24 rfl rfl ?_
      refine J_getR 86 (q := 59) (ci := 12) (kf := 34) kfX12_89 uxX12 rfl (by decide) rfl (by decide) rfl dX12_forceOn_25 ?_
      refine J_iload (i := 4) (kk := 4) dX12_forceOn_28 rfl ?_
      refine J_ald (a4.toNatClampNeg) rfl (by decide) rfl b1 dX12_forceOn_30 ?_
      refine J_iload_n (i := 3) (kk := 3) dX12_forceOn_31 rfl rfl ?_
      refine J_icmp_gt 49 dX12_forceOn_32 (by decide) (fun hc => ?_) (fun hc => ?_)
      · replace h := h.1 hc
        obtain ⟨x3, ex3⟩ : ∃ y : Int32, y = a4 + (-1) := ⟨_, rfl⟩
        replace h := h x3 ex3
        refine J_iinc (i := 4) (kk := 4) (v := x3) (lv' := [(4, .int x3), (0, .ref 59), (1, .int a1), (2, .int a2), (3, .int a3)]) dX12_forceOn_49 rfl (by rw [ex3]; rfl) (by decide) rfl ?_
        refine J_goto (tgt := 8) dX12_forceOn_52 (by decide) ?_
        refine J_sub [1, 2, 3, 4, 0] rfl ?_
        exact h
      · replace h := h.2 hc
        refine J_aload_n (i := 0) (kk := 0) dX12_forceOn_35 rfl rfl ?_
        refine J_getR 87 (q := 59) (ci := 12) (kf := 35) kfX12_92 uxX12 rfl (by decide) rfl (by decide) rfl dX12_forceOn_36 ?_
        refine J_iload (i := 4) (kk := 4) dX12_forceOn_39 rfl ?_
        refine J_ald (a4.toNatClampNeg) rfl (by decide) rfl b1 dX12_forceOn_41 ?_
        refine J_iload_n (i := 2) (kk := 2) dX12_forceOn_42 rfl rfl ?_
        refine J_icmp_gt 49 dX12_forceOn_43 (by decide) (fun hc => ?_) (fun hc => ?_)
        · replace h := h.1 hc
          obtain ⟨x4, ex4⟩ : ∃ y : Int32, y = a4 + (-1) := ⟨_, rfl⟩
          replace h := h x4 ex4
          refine J_iinc (i := 4) (kk := 4) (v := x4) (lv' := [(4, .int x4), (0, .ref 59), (1, .int a1), (2, .int a2), (3, .int a3)]) dX12_forceOn_49 rfl (by rw [ex4]; rfl) (by decide) rfl ?_
          refine J_goto (tgt := 8) dX12_forceOn_52 (by decide) ?_
          refine J_sub [1, 2, 3, 4, 0] rfl ?_
          exact h
        · replace h := h.2 hc
          refine J_iload (i := 4) (kk := 4) dX12_forceOn_46 rfl ?_
          exact J_iret rfl dX12_forceOn_48 h
set_option maxHeartbeats 4000000 in
set_option maxRecDepth 100000 in
theorem w_X12_forceOn_0 {Γ : GG} {l : Launch} {d : Nat} {Q : Option Value → St → Prop} {σ : St} (a1 : Int32) (a2 : Int32) (a3 : Int32) (h : J Γ l d mX12_forceOn Q 8 [(0, .ref 59), (1, .int a1), (2, .int a2), (3, .int a3), (4, .int ((rd σ 59 32) - (1 : Int32)))] [] σ) : J Γ l d mX12_forceOn Q 0 [(0, .ref 59), (1, .int a1), (2, .int a2), (3, .int a3)] [] σ := by
  refine J_aload_n (i := 0) (kk := 0) dX12_forceOn_0 rfl rfl ?_
  refine J_getI (q := 59) (ci := 12) (kf := 32) kfX12_305 uxX12 rfl (by decide) rfl (by decide) rfl dX12_forceOn_1 ?_
  refine J_iconst (v := 1) dX12_forceOn_4 (by decide) ?_
  refine J_isub dX12_forceOn_5 ?_
  refine J_istore (i := 4) (lv' := [(4, .int ((rd σ 59 32) - (1 : Int32))), (0, .ref 59), (1, .int a1), (2, .int a2), (3, .int a3)]) dX12_forceOn_6 (by decide) rfl ?_
  refine J_sub [1, 2, 3, 4, 0] rfl ?_
  exact h
theorem M_X12_forceOn {Γ : GG} {l : Launch} {d : Nat} {Q : Option Value → St → Prop} {σ : St} (a1 : Int32) (a2 : Int32) (a3 : Int32) (k : J Γ l d mX12_forceOn Q 0 [(0, .ref 59), (1, .int a1), (2, .int a2), (3, .int a3)] [] σ) : Meth Γ l d mX12_forceOn [.ref 59, .int a1, .int a2, .int a3] σ Q := Meth_of_J (by decide +kernel) (fun _ => Nat.le_of_ble_eq_true rfl) (fun _ => rfl) k
set_option maxHeartbeats 4000000 in
set_option maxRecDepth 100000 in
theorem w_X12_inForce_0 {Γ : GG} {l : Launch} {d : Nat} {Q : Option Value → St → Prop} {σ : St} (a1 : Int32) (a2 : Int32) (a3 : Int32) (h : ((0 : Int32) ≤ a1 ∧ a1 ≤ (1 : Int32) → (0 ≤ a2 ∧ a2 ≤ 1499 → (0 ≤ a3 ∧ a3 ≤ 1499 → Meth Γ l (d + 1) mX12_forceOn [.ref 59, .int a1, .int a2, .int a3] σ (KI (fun x2 σ1 => Q (some (.int x2)) σ1))) ∧ (¬ (0 ≤ a3 ∧ a3 ≤ 1499) → Q (some (.int ((-1)))) σ)) ∧ (¬ (0 ≤ a2 ∧ a2 ≤ 1499) → Q (some (.int ((-1)))) σ)) ∧ (¬ ((0 : Int32) ≤ a1 ∧ a1 ≤ (1 : Int32)) → Q (some (.int ((-1)))) σ)) : J Γ l (d + 2) mX12_inForce Q 0 [(0, .ref 59), (1, .int a1), (2, .int a2), (3, .int a3)] [] σ := by
  refine J_iload_n (i := 1) (kk := 1) dX12_inForce_0 rfl rfl ?_
  refine J_iconst (v := 0) dX12_inForce_1 (by decide) ?_
  refine J_iconst (v := 1) dX12_inForce_2 (by decide) ?_
  refine J_callS [.int a1, .int (0), .int (1)] [] calX12_in klX12_196 rfl rfl (Nat.le_of_ble_eq_true rfl) dX12_inForce_3 (KI.to (S_X12_in a1 (0 : Int32) (1 : Int32)) ?_)
  rintro x9 s9 ⟨rfl, ⟨g5, rfl⟩ | ⟨g5, rfl⟩⟩
  · replace h := h.1 g5
    refine J_if_eq 33 dX12_inForce_6 (by decide) (fun hc => absurd hc (by decide)) (fun _ => ?_)
    refine J_iload_n (i := 2) (kk := 2) dX12_inForce_9 rfl rfl ?_
    refine J_callS [.int a2] [] calX12_isDay klX12_220 rfl rfl (Nat.le_of_ble_eq_true rfl) dX12_inForce_10 (KI.to (S_X12_isDay a2) ?_)
    rintro x9 s9 ⟨rfl, ⟨g4, rfl⟩ | ⟨g4, rfl⟩⟩
    · replace h := h.1 g4
      refine J_if_eq 33 dX12_inForce_13 (by decide) (fun hc => absurd hc (by decide)) (fun _ => ?_)
      refine J_iload_n (i := 3) (kk := 3) dX12_inForce_16 rfl rfl ?_
      refine J_callS [.int a3] [] calX12_isDay klX12_220 rfl rfl (Nat.le_of_ble_eq_true rfl) dX12_inForce_17 (KI.to (S_X12_isDay a3) ?_)
      rintro x9 s9 ⟨rfl, ⟨g3, rfl⟩ | ⟨g3, rfl⟩⟩
      · replace h := h.1 g3
        refine J_if_eq 33 dX12_inForce_20 (by decide) (fun hc => absurd hc (by decide)) (fun _ => ?_)
        refine J_aload_n (i := 0) (kk := 0) dX12_inForce_23 rfl rfl ?_
        refine J_iload_n (i := 1) (kk := 1) dX12_inForce_24 rfl rfl ?_
        refine J_iload_n (i := 2) (kk := 2) dX12_inForce_25 rfl rfl ?_
        refine J_iload_n (i := 3) (kk := 3) dX12_inForce_26 rfl rfl ?_
        refine J_callV [.int a1, .int a2, .int a3] [] calX12_forceOn klX12_311 (b := 59) (ci := 12) (by decide) rfl rfl rfl rfl (Nat.le_of_ble_eq_true rfl) dX12_inForce_27 (KI.to h ?_)
        clear h
        intro x2 σ1 h
        refine J_goto (tgt := 34) dX12_inForce_30 (by decide) ?_
        exact J_iret rfl dX12_inForce_34 h
      · replace h := h.2 g3
        refine J_if_eq 33 dX12_inForce_20 (by decide) (fun _ => ?_) (fun hc => absurd hc (by decide))
        refine J_iconst (v := (-1)) dX12_inForce_33 (by decide) ?_
        exact J_iret rfl dX12_inForce_34 h
    · replace h := h.2 g4
      refine J_if_eq 33 dX12_inForce_13 (by decide) (fun _ => ?_) (fun hc => absurd hc (by decide))
      refine J_iconst (v := (-1)) dX12_inForce_33 (by decide) ?_
      exact J_iret rfl dX12_inForce_34 h
  · replace h := h.2 g5
    refine J_if_eq 33 dX12_inForce_6 (by decide) (fun _ => ?_) (fun hc => absurd hc (by decide))
    refine J_iconst (v := (-1)) dX12_inForce_33 (by decide) ?_
    exact J_iret rfl dX12_inForce_34 h
theorem M_X12_inForce {Γ : GG} {l : Launch} {d : Nat} {Q : Option Value → St → Prop} {σ : St} (a1 : Int32) (a2 : Int32) (a3 : Int32) (k : J Γ l (d + 2) mX12_inForce Q 0 [(0, .ref 59), (1, .int a1), (2, .int a2), (3, .int a3)] [] σ) : Meth Γ l (d + 2) mX12_inForce [.ref 59, .int a1, .int a2, .int a3] σ Q := Meth_of_J (by decide +kernel) (fun _ => Nat.le_of_ble_eq_true rfl) (fun _ => rfl) k
set_option maxHeartbeats 4000000 in
set_option maxRecDepth 100000 in
theorem w_X12_named_0 {Γ : GG} {l : Launch} {d : Nat} {Q : Option Value → St → Prop} {σ : St} (a1 : Int32) (a2 : Int32) (h : vp_in a2 200 ∧ (a1.toInt = 0 → Q (some (.int (((rd σ 59 1) / (24 : Int32)) - (rd σ 74 (a2.toNatClampNeg))))) σ) ∧ (a1.toInt = 1 → Q (some (.int (rd σ 72 (a2.toNatClampNeg)))) σ) ∧ (a1.toInt = 2 → vp_in (rd σ 72 (a2.toNatClampNeg)) 10 ∧ Q (some (.int (rd σ 66 ((rd σ 72 (a2.toNatClampNeg)).toNatClampNeg)))) σ) ∧ (a1.toInt = 3 → vp_in ((rd σ 59 1) / (24 : Int32)) 1500 ∧ Q (some (.int (rd σ 68 (((rd σ 59 1) / (24 : Int32)).toNatClampNeg)))) σ) ∧ (a1.toInt = 4 → Q (some (.int ((rd σ 59 1) - (rd σ 59 1) / (24 : Int32) * (24 : Int32)))) σ) ∧ (a1.toInt = 5 → vp_in (((10 : Int32) * (rd σ 71 (a2.toNatClampNeg))) + (rd σ 72 (a2.toNatClampNeg))) 120 ∧ Q (some (.int (rd σ 69 ((((10 : Int32) * (rd σ 71 (a2.toNatClampNeg))) + (rd σ 72 (a2.toNatClampNeg))).toNatClampNeg)))) σ) ∧ (a1.toInt = 6 → vp_in (((10 : Int32) * (rd σ 71 (a2.toNatClampNeg))) + (rd σ 72 (a2.toNatClampNeg))) 120 ∧ Q (some (.int (rd σ 70 ((((10 : Int32) * (rd σ 71 (a2.toNatClampNeg))) + (rd σ 72 (a2.toNatClampNeg))).toNatClampNeg)))) σ) ∧ (¬ a1.toInt = 0 → ¬ a1.toInt = 1 → ¬ a1.toInt = 2 → ¬ a1.toInt = 3 → ¬ a1.toInt = 4 → ¬ a1.toInt = 5 → ¬ a1.toInt = 6 → Q (some (.int (rd σ 71 (a2.toNatClampNeg)))) σ)) : J Γ l (d + 1) mX12_named Q 0 [(0, .ref 59), (1, .int a1), (2, .int a2)] [] σ := by
  refine J_aload_n (i := 0) (kk := 0) dX12_named_0 rfl rfl ?_
  refine J_getR 71 (q := 59) (ci := 12) (kf := 17) kfX12_43 uxX12 rfl (by decide) rfl (by decide) rfl dX12_named_1 ?_
  refine J_iload_n (i := 2) (kk := 2) dX12_named_4 rfl rfl ?_
  have b1 := h.1
  replace h := h.2
  refine J_ald (a2.toNatClampNeg) rfl (by decide) rfl b1 dX12_named_5 ?_
  refine J_istore_n (i := 3) (lv' := [(3, .int (rd σ 71 (a2.toNatClampNeg))), (0, .ref 59), (1, .int a1), (2, .int a2)]) dX12_named_6 rfl (by decide) rfl ?_
  refine J_aload_n (i := 0) (kk := 1) dX12_named_7 rfl rfl ?_
  refine J_getR 72 (q := 59) (ci := 12) (kf := 18) kfX12_46 uxX12 rfl (by decide) rfl (by decide) rfl dX12_named_8 ?_
  refine J_iload_n (i := 2) (kk := 3) dX12_named_11 rfl rfl ?_
  refine J_ald (a2.toNatClampNeg) rfl (by decide) rfl b1 dX12_named_12 ?_
  refine J_istore (i := 4) (lv' := [(4, .int (rd σ 72 (a2.toNatClampNeg))), (3, .int (rd σ 71 (a2.toNatClampNeg))), (0, .ref 59), (1, .int a1), (2, .int a2)]) dX12_named_13 (by decide) rfl ?_
  refine J_iload_n (i := 1) (kk := 3) dX12_named_15 rfl rfl ?_
  by_cases hc : a1.toInt = 0
  · replace h := h.1 hc
    refine J_tableIn 60 dX12_named_16 (by omega) (by omega) (by rw [hc]; rfl) (by decide) ?_
    refine J_aload_n (i := 0) (kk := 2) dX12_named_60 rfl rfl ?_
    refine J_callV [] [] calX12_today klX12_230 (b := 59) (ci := 12) (by decide) rfl rfl rfl rfl (Nat.le_of_ble_eq_true rfl) dX12_named_61 (KI.to (S_X12_today) ?_)
    rintro x9 s9 ⟨rfl, rfl⟩
    refine J_aload_n (i := 0) (kk := 2) dX12_named_64 rfl rfl ?_
    refine J_getR 74 (q := 59) (ci := 12) (kf := 20) kfX12_52 uxX12 rfl (by decide) rfl (by decide) rfl dX12_named_65 ?_
    refine J_iload_n (i := 2) (kk := 4) dX12_named_68 rfl rfl ?_
    refine J_ald (a2.toNatClampNeg) rfl (by decide) rfl b1 dX12_named_69 ?_
    refine J_isub dX12_named_70 ?_
    exact J_iret rfl dX12_named_71 h
  have hn0 := hc
  by_cases hc : a1.toInt = 1
  · replace h := h.2.1 hc
    refine J_tableIn 72 dX12_named_16 (by omega) (by omega) (by rw [hc]; rfl) (by decide) ?_
    refine J_iload (i := 4) (kk := 0) dX12_named_72 rfl ?_
    exact J_iret rfl dX12_named_74 h
  have hn1 := hc
  by_cases hc : a1.toInt = 2
  · replace h := h.2.2.1 hc
    refine J_tableIn 75 dX12_named_16 (by omega) (by omega) (by rw [hc]; rfl) (by decide) ?_
    refine J_aload_n (i := 0) (kk := 2) dX12_named_75 rfl rfl ?_
    refine J_getR 66 (q := 59) (ci := 12) (kf := 10) kfX12_28 uxX12 rfl (by decide) rfl (by decide) rfl dX12_named_76 ?_
    refine J_iload (i := 4) (kk := 0) dX12_named_79 rfl ?_
    have b2 := h.1
    replace h := h.2
    refine J_ald ((rd σ 72 (a2.toNatClampNeg)).toNatClampNeg) rfl (by decide) rfl b2 dX12_named_81 ?_
    exact J_iret rfl dX12_named_82 h
  have hn2 := hc
  by_cases hc : a1.toInt = 3
  · replace h := h.2.2.2.1 hc
    refine J_tableIn 83 dX12_named_16 (by omega) (by omega) (by rw [hc]; rfl) (by decide) ?_
    refine J_aload_n (i := 0) (kk := 2) dX12_named_83 rfl rfl ?_
    refine J_getR 68 (q := 59) (ci := 12) (kf := 12) kfX12_34 uxX12 rfl (by decide) rfl (by decide) rfl dX12_named_84 ?_
    refine J_aload_n (i := 0) (kk := 2) dX12_named_87 rfl rfl ?_
    refine J_callV [] [.ref 68] calX12_today klX12_230 (b := 59) (ci := 12) (by decide) rfl rfl rfl rfl (Nat.le_of_ble_eq_true rfl) dX12_named_88 (KI.to (S_X12_today) ?_)
    rintro x9 s9 ⟨rfl, rfl⟩
    have b3 := h.1
    replace h := h.2
    refine J_ald (((rd σ 59 1) / (24 : Int32)).toNatClampNeg) rfl (by decide) rfl b3 dX12_named_91 ?_
    exact J_iret rfl dX12_named_92 h
  have hn3 := hc
  by_cases hc : a1.toInt = 4
  · replace h := h.2.2.2.2.1 hc
    refine J_tableIn 93 dX12_named_16 (by omega) (by omega) (by rw [hc]; rfl) (by decide) ?_
    refine J_aload_n (i := 0) (kk := 2) dX12_named_93 rfl rfl ?_
    refine J_callV [] [] calX12_hourNow klX12_315 (b := 59) (ci := 12) (by decide) rfl rfl rfl rfl (Nat.le_of_ble_eq_true rfl) dX12_named_94 (KI.to (S_X12_hourNow) ?_)
    rintro x9 s9 ⟨rfl, rfl⟩
    exact J_iret rfl dX12_named_97 h
  have hn4 := hc
  by_cases hc : a1.toInt = 5
  · replace h := h.2.2.2.2.2.1 hc
    refine J_tableIn 98 dX12_named_16 (by omega) (by omega) (by rw [hc]; rfl) (by decide) ?_
    refine J_aload_n (i := 0) (kk := 2) dX12_named_98 rfl rfl ?_
    refine J_getR 69 (q := 59) (ci := 12) (kf := 13) kfX12_37 uxX12 rfl (by decide) rfl (by decide) rfl dX12_named_99 ?_
    refine J_bipush (v := 10) dX12_named_102 (by decide) ?_
    refine J_iload_n (i := 3) (kk := 1) dX12_named_104 rfl rfl ?_
    refine J_imul dX12_named_105 ?_
    refine J_iload (i := 4) (kk := 0) dX12_named_106 rfl ?_
    refine J_iadd dX12_named_108 ?_
    have b4 := h.1
    replace h := h.2
    refine J_ald ((((10 : Int32) * (rd σ 71 (a2.toNatClampNeg))) + (rd σ 72 (a2.toNatClampNeg))).toNatClampNeg) rfl (by decide) rfl b4 dX12_named_109 ?_
    exact J_iret rfl dX12_named_110 h
  have hn5 := hc
  by_cases hc : a1.toInt = 6
  · replace h := h.2.2.2.2.2.2.1 hc
    refine J_tableIn 111 dX12_named_16 (by omega) (by omega) (by rw [hc]; rfl) (by decide) ?_
    refine J_aload_n (i := 0) (kk := 2) dX12_named_111 rfl rfl ?_
    refine J_getR 70 (q := 59) (ci := 12) (kf := 14) kfX12_40 uxX12 rfl (by decide) rfl (by decide) rfl dX12_named_112 ?_
    refine J_bipush (v := 10) dX12_named_115 (by decide) ?_
    refine J_iload_n (i := 3) (kk := 1) dX12_named_117 rfl rfl ?_
    refine J_imul dX12_named_118 ?_
    refine J_iload (i := 4) (kk := 0) dX12_named_119 rfl ?_
    refine J_iadd dX12_named_121 ?_
    have b5 := h.1
    replace h := h.2
    refine J_ald ((((10 : Int32) * (rd σ 71 (a2.toNatClampNeg))) + (rd σ 72 (a2.toNatClampNeg))).toNatClampNeg) rfl (by decide) rfl b5 dX12_named_122 ?_
    exact J_iret rfl dX12_named_123 h
  have hn6 := hc
  replace h := h.2.2.2.2.2.2.2 hn0 hn1 hn2 hn3 hn4 hn5 hn6
  refine J_tableOut 124 dX12_named_16 (by omega) (by decide) ?_
  refine J_iload_n (i := 3) (kk := 1) dX12_named_124 rfl rfl ?_
  exact J_iret rfl dX12_named_125 h
theorem M_X12_named {Γ : GG} {l : Launch} {d : Nat} {Q : Option Value → St → Prop} {σ : St} (a1 : Int32) (a2 : Int32) (k : J Γ l (d + 1) mX12_named Q 0 [(0, .ref 59), (1, .int a1), (2, .int a2)] [] σ) : Meth Γ l (d + 1) mX12_named [.ref 59, .int a1, .int a2] σ Q := Meth_of_J (by decide +kernel) (fun _ => Nat.le_of_ble_eq_true rfl) (fun _ => rfl) k
set_option maxHeartbeats 4000000 in
set_option maxRecDepth 100000 in
theorem w_X12_both_0 {Γ : GG} {l : Launch} {d : Nat} {Q : Option Value → St → Prop} {σ : St} (a0 : Int32) (a1 : Int32) (a2 : Int32) (h : (a0.toInt = 38 → (a1 = (0 : Int32) → Q (some (.int (0))) σ) ∧ (¬ a1 = (0 : Int32) → (a2 = (0 : Int32) → Q (some (.int (0))) σ) ∧ (¬ a2 = (0 : Int32) → Q (some (.int (1))) σ))) ∧ (a0.toInt = 42 → Q (some (.int (a1 * a2))) σ) ∧ (a0.toInt = 43 → Q (some (.int (a1 + a2))) σ) ∧ (a0.toInt = 45 → Q (some (.int (a1 - a2))) σ) ∧ (a0.toInt = 47 → (a2 = (0 : Int32) → Q (some (.int (0))) σ) ∧ (¬ a2 = (0 : Int32) → (a2 = ((-1) : Int32) → Q (some (.int (-a1))) σ) ∧ (¬ a2 = ((-1) : Int32) → ¬ a2 = 0 ∧ Q (some (.int (a1 / a2))) σ))) ∧ (a0.toInt = 60 → (a2 ≤ a1 → Q (some (.int (0))) σ) ∧ (¬ a2 ≤ a1 → Q (some (.int (1))) σ)) ∧ (a0.toInt = 61 → (a1 = a2 → Q (some (.int (1))) σ) ∧ (¬ a1 = a2 → Q (some (.int (0))) σ)) ∧ (a0.toInt = 62 → (a1 ≤ a2 → Q (some (.int (0))) σ) ∧ (¬ a1 ≤ a2 → Q (some (.int (1))) σ)) ∧ (¬ a0.toInt = 38 → ¬ a0.toInt = 42 → ¬ a0.toInt = 43 → ¬ a0.toInt = 45 → ¬ a0.toInt = 47 → ¬ a0.toInt = 60 → ¬ a0.toInt = 61 → ¬ a0.toInt = 62 → (a1 = (0 : Int32) → (a2 = (0 : Int32) → Q (some (.int (0))) σ) ∧ (¬ a2 = (0 : Int32) → Q (some (.int (1))) σ)) ∧ (¬ a1 = (0 : Int32) → Q (some (.int (1))) σ))) : J Γ l d mX12_both Q 0 [(0, .int a0), (1, .int a1), (2, .int a2)] [] σ := by
  refine J_iload_n (i := 0) (kk := 0) dX12_both_0 rfl rfl ?_
  by_cases hc : a0.toInt = 38
  · replace h := h.1 hc
    refine J_tableIn 183 dX12_both_1 (by omega) (by omega) (by rw [hc]; rfl) (by decide) ?_
    refine J_iload_n (i := 1) (kk := 1) dX12_both_183 rfl rfl ?_
    refine J_if_eq 195 dX12_both_184 (by decide) (fun hc => ?_) (fun hc => ?_)
    · replace h := h.1 hc
      refine J_iconst (v := 0) dX12_both_195 (by decide) ?_
      exact J_iret rfl dX12_both_196 h
    · replace h := h.2 hc
      refine J_iload_n (i := 2) (kk := 2) dX12_both_187 rfl rfl ?_
      refine J_if_eq 195 dX12_both_188 (by decide) (fun hc => ?_) (fun hc => ?_)
      · replace h := h.1 hc
        refine J_iconst (v := 0) dX12_both_195 (by decide) ?_
        exact J_iret rfl dX12_both_196 h
      · replace h := h.2 hc
        refine J_iconst (v := 1) dX12_both_191 (by decide) ?_
        refine J_goto (tgt := 196) dX12_both_192 (by decide) ?_
        exact J_iret rfl dX12_both_196 h
  have hn38 := hc
  by_cases hc : a0.toInt = 42
  · replace h := h.2.1 hc
    refine J_tableIn 124 dX12_both_1 (by omega) (by omega) (by rw [hc]; rfl) (by decide) ?_
    refine J_iload_n (i := 1) (kk := 1) dX12_both_124 rfl rfl ?_
    refine J_iload_n (i := 2) (kk := 2) dX12_both_125 rfl rfl ?_
    refine J_imul dX12_both_126 ?_
    exact J_iret rfl dX12_both_127 h
  have hn42 := hc
  by_cases hc : a0.toInt = 43
  · replace h := h.2.2.1 hc
    refine J_tableIn 116 dX12_both_1 (by omega) (by omega) (by rw [hc]; rfl) (by decide) ?_
    refine J_iload_n (i := 1) (kk := 1) dX12_both_116 rfl rfl ?_
    refine J_iload_n (i := 2) (kk := 2) dX12_both_117 rfl rfl ?_
    refine J_iadd dX12_both_118 ?_
    exact J_iret rfl dX12_both_119 h
  have hn43 := hc
  by_cases hc : a0.toInt = 45
  · replace h := h.2.2.2.1 hc
    refine J_tableIn 120 dX12_both_1 (by omega) (by omega) (by rw [hc]; rfl) (by decide) ?_
    refine J_iload_n (i := 1) (kk := 1) dX12_both_120 rfl rfl ?_
    refine J_iload_n (i := 2) (kk := 2) dX12_both_121 rfl rfl ?_
    refine J_isub dX12_both_122 ?_
    exact J_iret rfl dX12_both_123 h
  have hn45 := hc
  by_cases hc : a0.toInt = 47
  · replace h := h.2.2.2.2.1 hc
    refine J_tableIn 128 dX12_both_1 (by omega) (by omega) (by rw [hc]; rfl) (by decide) ?_
    refine J_iload_n (i := 2) (kk := 2) dX12_both_128 rfl rfl ?_
    refine J_if_ne 136 dX12_both_129 (by decide) (fun hc => ?_) (fun hc => ?_)
    · replace h := h.2 hc
      refine J_iload_n (i := 2) (kk := 2) dX12_both_136 rfl rfl ?_
      refine J_iconst (v := (-1)) dX12_both_137 (by decide) ?_
      refine J_icmp_ne 146 dX12_both_138 (by decide) (fun hc => ?_) (fun hc => ?_)
      · replace h := h.2 hc
        refine J_iload_n (i := 1) (kk := 1) dX12_both_146 rfl rfl ?_
        refine J_iload_n (i := 2) (kk := 2) dX12_both_147 rfl rfl ?_
        have hz := h.1
        replace h := h.2
        refine J_idiv dX12_both_148 hz ?_
        exact J_iret rfl dX12_both_149 h
      · replace h := h.1 hc
        refine J_iload_n (i := 1) (kk := 1) dX12_both_141 rfl rfl ?_
        refine J_ineg dX12_both_142 ?_
        refine J_goto (tgt := 149) dX12_both_143 (by decide) ?_
        exact J_iret rfl dX12_both_149 h
    · replace h := h.1 hc
      refine J_iconst (v := 0) dX12_both_132 (by decide) ?_
      refine J_goto (tgt := 149) dX12_both_133 (by decide) ?_
      exact J_iret rfl dX12_both_149 h
  have hn47 := hc
  by_cases hc : a0.toInt = 60
  · replace h := h.2.2.2.2.2.1 hc
    refine J_tableIn 150 dX12_both_1 (by omega) (by omega) (by rw [hc]; rfl) (by decide) ?_
    refine J_iload_n (i := 1) (kk := 1) dX12_both_150 rfl rfl ?_
    refine J_iload_n (i := 2) (kk := 2) dX12_both_151 rfl rfl ?_
    refine J_icmp_ge 159 dX12_both_152 (by decide) (fun hc => ?_) (fun hc => ?_)
    · replace h := h.1 hc
      refine J_iconst (v := 0) dX12_both_159 (by decide) ?_
      exact J_iret rfl dX12_both_160 h
    · replace h := h.2 hc
      refine J_iconst (v := 1) dX12_both_155 (by decide) ?_
      refine J_goto (tgt := 160) dX12_both_156 (by decide) ?_
      exact J_iret rfl dX12_both_160 h
  have hn60 := hc
  by_cases hc : a0.toInt = 61
  · replace h := h.2.2.2.2.2.2.1 hc
    refine J_tableIn 161 dX12_both_1 (by omega) (by omega) (by rw [hc]; rfl) (by decide) ?_
    refine J_iload_n (i := 1) (kk := 1) dX12_both_161 rfl rfl ?_
    refine J_iload_n (i := 2) (kk := 2) dX12_both_162 rfl rfl ?_
    refine J_icmp_ne 170 dX12_both_163 (by decide) (fun hc => ?_) (fun hc => ?_)
    · replace h := h.2 hc
      refine J_iconst (v := 0) dX12_both_170 (by decide) ?_
      exact J_iret rfl dX12_both_171 h
    · replace h := h.1 hc
      refine J_iconst (v := 1) dX12_both_166 (by decide) ?_
      refine J_goto (tgt := 171) dX12_both_167 (by decide) ?_
      exact J_iret rfl dX12_both_171 h
  have hn61 := hc
  by_cases hc : a0.toInt = 62
  · replace h := h.2.2.2.2.2.2.2.1 hc
    refine J_tableIn 172 dX12_both_1 (by omega) (by omega) (by rw [hc]; rfl) (by decide) ?_
    refine J_iload_n (i := 1) (kk := 1) dX12_both_172 rfl rfl ?_
    refine J_iload_n (i := 2) (kk := 2) dX12_both_173 rfl rfl ?_
    refine J_icmp_le 181 dX12_both_174 (by decide) (fun hc => ?_) (fun hc => ?_)
    · replace h := h.1 hc
      refine J_iconst (v := 0) dX12_both_181 (by decide) ?_
      exact J_iret rfl dX12_both_182 h
    · replace h := h.2 hc
      refine J_iconst (v := 1) dX12_both_177 (by decide) ?_
      refine J_goto (tgt := 182) dX12_both_178 (by decide) ?_
      exact J_iret rfl dX12_both_182 h
  have hn62 := hc
  replace h := h.2.2.2.2.2.2.2.2 hn38 hn42 hn43 hn45 hn47 hn60 hn61 hn62
  by_cases hc : a0.toInt = 39
  · refine J_tableIn 197 dX12_both_1 (by omega) (by omega) (by rw [hc]; rfl) (by decide) ?_
    refine J_iload_n (i := 1) (kk := 1) dX12_both_197 rfl rfl ?_
    refine J_if_ne 205 dX12_both_198 (by decide) (fun hc => ?_) (fun hc => ?_)
    · replace h := h.2 hc
      refine J_iconst (v := 1) dX12_both_205 (by decide) ?_
      refine J_goto (tgt := 210) dX12_both_206 (by decide) ?_
      exact J_iret rfl dX12_both_210 h
    · replace h := h.1 hc
      refine J_iload_n (i := 2) (kk := 2) dX12_both_201 rfl rfl ?_
      refine J_if_eq 209 dX12_both_202 (by decide) (fun hc => ?_) (fun hc => ?_)
      · replace h := h.1 hc
        refine J_iconst (v := 0) dX12_both_209 (by decide) ?_
        exact J_iret rfl dX12_both_210 h
      · replace h := h.2 hc
        refine J_iconst (v := 1) dX12_both_205 (by decide) ?_
        refine J_goto (tgt := 210) dX12_both_206 (by decide) ?_
        exact J_iret rfl dX12_both_210 h
  have hn39 := hc
  by_cases hc : a0.toInt = 40
  · refine J_tableIn 197 dX12_both_1 (by omega) (by omega) (by rw [hc]; rfl) (by decide) ?_
    refine J_iload_n (i := 1) (kk := 1) dX12_both_197 rfl rfl ?_
    refine J_if_ne 205 dX12_both_198 (by decide) (fun hc => ?_) (fun hc => ?_)
    · replace h := h.2 hc
      refine J_iconst (v := 1) dX12_both_205 (by decide) ?_
      refine J_goto (tgt := 210) dX12_both_206 (by decide) ?_
      exact J_iret rfl dX12_both_210 h
    · replace h := h.1 hc
      refine J_iload_n (i := 2) (kk := 2) dX12_both_201 rfl rfl ?_
      refine J_if_eq 209 dX12_both_202 (by decide) (fun hc => ?_) (fun hc => ?_)
      · replace h := h.1 hc
        refine J_iconst (v := 0) dX12_both_209 (by decide) ?_
        exact J_iret rfl dX12_both_210 h
      · replace h := h.2 hc
        refine J_iconst (v := 1) dX12_both_205 (by decide) ?_
        refine J_goto (tgt := 210) dX12_both_206 (by decide) ?_
        exact J_iret rfl dX12_both_210 h
  have hn40 := hc
  by_cases hc : a0.toInt = 41
  · refine J_tableIn 197 dX12_both_1 (by omega) (by omega) (by rw [hc]; rfl) (by decide) ?_
    refine J_iload_n (i := 1) (kk := 1) dX12_both_197 rfl rfl ?_
    refine J_if_ne 205 dX12_both_198 (by decide) (fun hc => ?_) (fun hc => ?_)
    · replace h := h.2 hc
      refine J_iconst (v := 1) dX12_both_205 (by decide) ?_
      refine J_goto (tgt := 210) dX12_both_206 (by decide) ?_
      exact J_iret rfl dX12_both_210 h
    · replace h := h.1 hc
      refine J_iload_n (i := 2) (kk := 2) dX12_both_201 rfl rfl ?_
      refine J_if_eq 209 dX12_both_202 (by decide) (fun hc => ?_) (fun hc => ?_)
      · replace h := h.1 hc
        refine J_iconst (v := 0) dX12_both_209 (by decide) ?_
        exact J_iret rfl dX12_both_210 h
      · replace h := h.2 hc
        refine J_iconst (v := 1) dX12_both_205 (by decide) ?_
        refine J_goto (tgt := 210) dX12_both_206 (by decide) ?_
        exact J_iret rfl dX12_both_210 h
  have hn41 := hc
  by_cases hc : a0.toInt = 44
  · refine J_tableIn 197 dX12_both_1 (by omega) (by omega) (by rw [hc]; rfl) (by decide) ?_
    refine J_iload_n (i := 1) (kk := 1) dX12_both_197 rfl rfl ?_
    refine J_if_ne 205 dX12_both_198 (by decide) (fun hc => ?_) (fun hc => ?_)
    · replace h := h.2 hc
      refine J_iconst (v := 1) dX12_both_205 (by decide) ?_
      refine J_goto (tgt := 210) dX12_both_206 (by decide) ?_
      exact J_iret rfl dX12_both_210 h
    · replace h := h.1 hc
      refine J_iload_n (i := 2) (kk := 2) dX12_both_201 rfl rfl ?_
      refine J_if_eq 209 dX12_both_202 (by decide) (fun hc => ?_) (fun hc => ?_)
      · replace h := h.1 hc
        refine J_iconst (v := 0) dX12_both_209 (by decide) ?_
        exact J_iret rfl dX12_both_210 h
      · replace h := h.2 hc
        refine J_iconst (v := 1) dX12_both_205 (by decide) ?_
        refine J_goto (tgt := 210) dX12_both_206 (by decide) ?_
        exact J_iret rfl dX12_both_210 h
  have hn44 := hc
  by_cases hc : a0.toInt = 46
  · refine J_tableIn 197 dX12_both_1 (by omega) (by omega) (by rw [hc]; rfl) (by decide) ?_
    refine J_iload_n (i := 1) (kk := 1) dX12_both_197 rfl rfl ?_
    refine J_if_ne 205 dX12_both_198 (by decide) (fun hc => ?_) (fun hc => ?_)
    · replace h := h.2 hc
      refine J_iconst (v := 1) dX12_both_205 (by decide) ?_
      refine J_goto (tgt := 210) dX12_both_206 (by decide) ?_
      exact J_iret rfl dX12_both_210 h
    · replace h := h.1 hc
      refine J_iload_n (i := 2) (kk := 2) dX12_both_201 rfl rfl ?_
      refine J_if_eq 209 dX12_both_202 (by decide) (fun hc => ?_) (fun hc => ?_)
      · replace h := h.1 hc
        refine J_iconst (v := 0) dX12_both_209 (by decide) ?_
        exact J_iret rfl dX12_both_210 h
      · replace h := h.2 hc
        refine J_iconst (v := 1) dX12_both_205 (by decide) ?_
        refine J_goto (tgt := 210) dX12_both_206 (by decide) ?_
        exact J_iret rfl dX12_both_210 h
  have hn46 := hc
  by_cases hc : a0.toInt = 48
  · refine J_tableIn 197 dX12_both_1 (by omega) (by omega) (by rw [hc]; rfl) (by decide) ?_
    refine J_iload_n (i := 1) (kk := 1) dX12_both_197 rfl rfl ?_
    refine J_if_ne 205 dX12_both_198 (by decide) (fun hc => ?_) (fun hc => ?_)
    · replace h := h.2 hc
      refine J_iconst (v := 1) dX12_both_205 (by decide) ?_
      refine J_goto (tgt := 210) dX12_both_206 (by decide) ?_
      exact J_iret rfl dX12_both_210 h
    · replace h := h.1 hc
      refine J_iload_n (i := 2) (kk := 2) dX12_both_201 rfl rfl ?_
      refine J_if_eq 209 dX12_both_202 (by decide) (fun hc => ?_) (fun hc => ?_)
      · replace h := h.1 hc
        refine J_iconst (v := 0) dX12_both_209 (by decide) ?_
        exact J_iret rfl dX12_both_210 h
      · replace h := h.2 hc
        refine J_iconst (v := 1) dX12_both_205 (by decide) ?_
        refine J_goto (tgt := 210) dX12_both_206 (by decide) ?_
        exact J_iret rfl dX12_both_210 h
  have hn48 := hc
  by_cases hc : a0.toInt = 49
  · refine J_tableIn 197 dX12_both_1 (by omega) (by omega) (by rw [hc]; rfl) (by decide) ?_
    refine J_iload_n (i := 1) (kk := 1) dX12_both_197 rfl rfl ?_
    refine J_if_ne 205 dX12_both_198 (by decide) (fun hc => ?_) (fun hc => ?_)
    · replace h := h.2 hc
      refine J_iconst (v := 1) dX12_both_205 (by decide) ?_
      refine J_goto (tgt := 210) dX12_both_206 (by decide) ?_
      exact J_iret rfl dX12_both_210 h
    · replace h := h.1 hc
      refine J_iload_n (i := 2) (kk := 2) dX12_both_201 rfl rfl ?_
      refine J_if_eq 209 dX12_both_202 (by decide) (fun hc => ?_) (fun hc => ?_)
      · replace h := h.1 hc
        refine J_iconst (v := 0) dX12_both_209 (by decide) ?_
        exact J_iret rfl dX12_both_210 h
      · replace h := h.2 hc
        refine J_iconst (v := 1) dX12_both_205 (by decide) ?_
        refine J_goto (tgt := 210) dX12_both_206 (by decide) ?_
        exact J_iret rfl dX12_both_210 h
  have hn49 := hc
  by_cases hc : a0.toInt = 50
  · refine J_tableIn 197 dX12_both_1 (by omega) (by omega) (by rw [hc]; rfl) (by decide) ?_
    refine J_iload_n (i := 1) (kk := 1) dX12_both_197 rfl rfl ?_
    refine J_if_ne 205 dX12_both_198 (by decide) (fun hc => ?_) (fun hc => ?_)
    · replace h := h.2 hc
      refine J_iconst (v := 1) dX12_both_205 (by decide) ?_
      refine J_goto (tgt := 210) dX12_both_206 (by decide) ?_
      exact J_iret rfl dX12_both_210 h
    · replace h := h.1 hc
      refine J_iload_n (i := 2) (kk := 2) dX12_both_201 rfl rfl ?_
      refine J_if_eq 209 dX12_both_202 (by decide) (fun hc => ?_) (fun hc => ?_)
      · replace h := h.1 hc
        refine J_iconst (v := 0) dX12_both_209 (by decide) ?_
        exact J_iret rfl dX12_both_210 h
      · replace h := h.2 hc
        refine J_iconst (v := 1) dX12_both_205 (by decide) ?_
        refine J_goto (tgt := 210) dX12_both_206 (by decide) ?_
        exact J_iret rfl dX12_both_210 h
  have hn50 := hc
  by_cases hc : a0.toInt = 51
  · refine J_tableIn 197 dX12_both_1 (by omega) (by omega) (by rw [hc]; rfl) (by decide) ?_
    refine J_iload_n (i := 1) (kk := 1) dX12_both_197 rfl rfl ?_
    refine J_if_ne 205 dX12_both_198 (by decide) (fun hc => ?_) (fun hc => ?_)
    · replace h := h.2 hc
      refine J_iconst (v := 1) dX12_both_205 (by decide) ?_
      refine J_goto (tgt := 210) dX12_both_206 (by decide) ?_
      exact J_iret rfl dX12_both_210 h
    · replace h := h.1 hc
      refine J_iload_n (i := 2) (kk := 2) dX12_both_201 rfl rfl ?_
      refine J_if_eq 209 dX12_both_202 (by decide) (fun hc => ?_) (fun hc => ?_)
      · replace h := h.1 hc
        refine J_iconst (v := 0) dX12_both_209 (by decide) ?_
        exact J_iret rfl dX12_both_210 h
      · replace h := h.2 hc
        refine J_iconst (v := 1) dX12_both_205 (by decide) ?_
        refine J_goto (tgt := 210) dX12_both_206 (by decide) ?_
        exact J_iret rfl dX12_both_210 h
  have hn51 := hc
  by_cases hc : a0.toInt = 52
  · refine J_tableIn 197 dX12_both_1 (by omega) (by omega) (by rw [hc]; rfl) (by decide) ?_
    refine J_iload_n (i := 1) (kk := 1) dX12_both_197 rfl rfl ?_
    refine J_if_ne 205 dX12_both_198 (by decide) (fun hc => ?_) (fun hc => ?_)
    · replace h := h.2 hc
      refine J_iconst (v := 1) dX12_both_205 (by decide) ?_
      refine J_goto (tgt := 210) dX12_both_206 (by decide) ?_
      exact J_iret rfl dX12_both_210 h
    · replace h := h.1 hc
      refine J_iload_n (i := 2) (kk := 2) dX12_both_201 rfl rfl ?_
      refine J_if_eq 209 dX12_both_202 (by decide) (fun hc => ?_) (fun hc => ?_)
      · replace h := h.1 hc
        refine J_iconst (v := 0) dX12_both_209 (by decide) ?_
        exact J_iret rfl dX12_both_210 h
      · replace h := h.2 hc
        refine J_iconst (v := 1) dX12_both_205 (by decide) ?_
        refine J_goto (tgt := 210) dX12_both_206 (by decide) ?_
        exact J_iret rfl dX12_both_210 h
  have hn52 := hc
  by_cases hc : a0.toInt = 53
  · refine J_tableIn 197 dX12_both_1 (by omega) (by omega) (by rw [hc]; rfl) (by decide) ?_
    refine J_iload_n (i := 1) (kk := 1) dX12_both_197 rfl rfl ?_
    refine J_if_ne 205 dX12_both_198 (by decide) (fun hc => ?_) (fun hc => ?_)
    · replace h := h.2 hc
      refine J_iconst (v := 1) dX12_both_205 (by decide) ?_
      refine J_goto (tgt := 210) dX12_both_206 (by decide) ?_
      exact J_iret rfl dX12_both_210 h
    · replace h := h.1 hc
      refine J_iload_n (i := 2) (kk := 2) dX12_both_201 rfl rfl ?_
      refine J_if_eq 209 dX12_both_202 (by decide) (fun hc => ?_) (fun hc => ?_)
      · replace h := h.1 hc
        refine J_iconst (v := 0) dX12_both_209 (by decide) ?_
        exact J_iret rfl dX12_both_210 h
      · replace h := h.2 hc
        refine J_iconst (v := 1) dX12_both_205 (by decide) ?_
        refine J_goto (tgt := 210) dX12_both_206 (by decide) ?_
        exact J_iret rfl dX12_both_210 h
  have hn53 := hc
  by_cases hc : a0.toInt = 54
  · refine J_tableIn 197 dX12_both_1 (by omega) (by omega) (by rw [hc]; rfl) (by decide) ?_
    refine J_iload_n (i := 1) (kk := 1) dX12_both_197 rfl rfl ?_
    refine J_if_ne 205 dX12_both_198 (by decide) (fun hc => ?_) (fun hc => ?_)
    · replace h := h.2 hc
      refine J_iconst (v := 1) dX12_both_205 (by decide) ?_
      refine J_goto (tgt := 210) dX12_both_206 (by decide) ?_
      exact J_iret rfl dX12_both_210 h
    · replace h := h.1 hc
      refine J_iload_n (i := 2) (kk := 2) dX12_both_201 rfl rfl ?_
      refine J_if_eq 209 dX12_both_202 (by decide) (fun hc => ?_) (fun hc => ?_)
      · replace h := h.1 hc
        refine J_iconst (v := 0) dX12_both_209 (by decide) ?_
        exact J_iret rfl dX12_both_210 h
      · replace h := h.2 hc
        refine J_iconst (v := 1) dX12_both_205 (by decide) ?_
        refine J_goto (tgt := 210) dX12_both_206 (by decide) ?_
        exact J_iret rfl dX12_both_210 h
  have hn54 := hc
  by_cases hc : a0.toInt = 55
  · refine J_tableIn 197 dX12_both_1 (by omega) (by omega) (by rw [hc]; rfl) (by decide) ?_
    refine J_iload_n (i := 1) (kk := 1) dX12_both_197 rfl rfl ?_
    refine J_if_ne 205 dX12_both_198 (by decide) (fun hc => ?_) (fun hc => ?_)
    · replace h := h.2 hc
      refine J_iconst (v := 1) dX12_both_205 (by decide) ?_
      refine J_goto (tgt := 210) dX12_both_206 (by decide) ?_
      exact J_iret rfl dX12_both_210 h
    · replace h := h.1 hc
      refine J_iload_n (i := 2) (kk := 2) dX12_both_201 rfl rfl ?_
      refine J_if_eq 209 dX12_both_202 (by decide) (fun hc => ?_) (fun hc => ?_)
      · replace h := h.1 hc
        refine J_iconst (v := 0) dX12_both_209 (by decide) ?_
        exact J_iret rfl dX12_both_210 h
      · replace h := h.2 hc
        refine J_iconst (v := 1) dX12_both_205 (by decide) ?_
        refine J_goto (tgt := 210) dX12_both_206 (by decide) ?_
        exact J_iret rfl dX12_both_210 h
  have hn55 := hc
  by_cases hc : a0.toInt = 56
  · refine J_tableIn 197 dX12_both_1 (by omega) (by omega) (by rw [hc]; rfl) (by decide) ?_
    refine J_iload_n (i := 1) (kk := 1) dX12_both_197 rfl rfl ?_
    refine J_if_ne 205 dX12_both_198 (by decide) (fun hc => ?_) (fun hc => ?_)
    · replace h := h.2 hc
      refine J_iconst (v := 1) dX12_both_205 (by decide) ?_
      refine J_goto (tgt := 210) dX12_both_206 (by decide) ?_
      exact J_iret rfl dX12_both_210 h
    · replace h := h.1 hc
      refine J_iload_n (i := 2) (kk := 2) dX12_both_201 rfl rfl ?_
      refine J_if_eq 209 dX12_both_202 (by decide) (fun hc => ?_) (fun hc => ?_)
      · replace h := h.1 hc
        refine J_iconst (v := 0) dX12_both_209 (by decide) ?_
        exact J_iret rfl dX12_both_210 h
      · replace h := h.2 hc
        refine J_iconst (v := 1) dX12_both_205 (by decide) ?_
        refine J_goto (tgt := 210) dX12_both_206 (by decide) ?_
        exact J_iret rfl dX12_both_210 h
  have hn56 := hc
  by_cases hc : a0.toInt = 57
  · refine J_tableIn 197 dX12_both_1 (by omega) (by omega) (by rw [hc]; rfl) (by decide) ?_
    refine J_iload_n (i := 1) (kk := 1) dX12_both_197 rfl rfl ?_
    refine J_if_ne 205 dX12_both_198 (by decide) (fun hc => ?_) (fun hc => ?_)
    · replace h := h.2 hc
      refine J_iconst (v := 1) dX12_both_205 (by decide) ?_
      refine J_goto (tgt := 210) dX12_both_206 (by decide) ?_
      exact J_iret rfl dX12_both_210 h
    · replace h := h.1 hc
      refine J_iload_n (i := 2) (kk := 2) dX12_both_201 rfl rfl ?_
      refine J_if_eq 209 dX12_both_202 (by decide) (fun hc => ?_) (fun hc => ?_)
      · replace h := h.1 hc
        refine J_iconst (v := 0) dX12_both_209 (by decide) ?_
        exact J_iret rfl dX12_both_210 h
      · replace h := h.2 hc
        refine J_iconst (v := 1) dX12_both_205 (by decide) ?_
        refine J_goto (tgt := 210) dX12_both_206 (by decide) ?_
        exact J_iret rfl dX12_both_210 h
  have hn57 := hc
  by_cases hc : a0.toInt = 58
  · refine J_tableIn 197 dX12_both_1 (by omega) (by omega) (by rw [hc]; rfl) (by decide) ?_
    refine J_iload_n (i := 1) (kk := 1) dX12_both_197 rfl rfl ?_
    refine J_if_ne 205 dX12_both_198 (by decide) (fun hc => ?_) (fun hc => ?_)
    · replace h := h.2 hc
      refine J_iconst (v := 1) dX12_both_205 (by decide) ?_
      refine J_goto (tgt := 210) dX12_both_206 (by decide) ?_
      exact J_iret rfl dX12_both_210 h
    · replace h := h.1 hc
      refine J_iload_n (i := 2) (kk := 2) dX12_both_201 rfl rfl ?_
      refine J_if_eq 209 dX12_both_202 (by decide) (fun hc => ?_) (fun hc => ?_)
      · replace h := h.1 hc
        refine J_iconst (v := 0) dX12_both_209 (by decide) ?_
        exact J_iret rfl dX12_both_210 h
      · replace h := h.2 hc
        refine J_iconst (v := 1) dX12_both_205 (by decide) ?_
        refine J_goto (tgt := 210) dX12_both_206 (by decide) ?_
        exact J_iret rfl dX12_both_210 h
  have hn58 := hc
  by_cases hc : a0.toInt = 59
  · refine J_tableIn 197 dX12_both_1 (by omega) (by omega) (by rw [hc]; rfl) (by decide) ?_
    refine J_iload_n (i := 1) (kk := 1) dX12_both_197 rfl rfl ?_
    refine J_if_ne 205 dX12_both_198 (by decide) (fun hc => ?_) (fun hc => ?_)
    · replace h := h.2 hc
      refine J_iconst (v := 1) dX12_both_205 (by decide) ?_
      refine J_goto (tgt := 210) dX12_both_206 (by decide) ?_
      exact J_iret rfl dX12_both_210 h
    · replace h := h.1 hc
      refine J_iload_n (i := 2) (kk := 2) dX12_both_201 rfl rfl ?_
      refine J_if_eq 209 dX12_both_202 (by decide) (fun hc => ?_) (fun hc => ?_)
      · replace h := h.1 hc
        refine J_iconst (v := 0) dX12_both_209 (by decide) ?_
        exact J_iret rfl dX12_both_210 h
      · replace h := h.2 hc
        refine J_iconst (v := 1) dX12_both_205 (by decide) ?_
        refine J_goto (tgt := 210) dX12_both_206 (by decide) ?_
        exact J_iret rfl dX12_both_210 h
  have hn59 := hc
  refine J_tableOut 197 dX12_both_1 (by omega) (by decide) ?_
  refine J_iload_n (i := 1) (kk := 1) dX12_both_197 rfl rfl ?_
  refine J_if_ne 205 dX12_both_198 (by decide) (fun hc => ?_) (fun hc => ?_)
  · replace h := h.2 hc
    refine J_iconst (v := 1) dX12_both_205 (by decide) ?_
    refine J_goto (tgt := 210) dX12_both_206 (by decide) ?_
    exact J_iret rfl dX12_both_210 h
  · replace h := h.1 hc
    refine J_iload_n (i := 2) (kk := 2) dX12_both_201 rfl rfl ?_
    refine J_if_eq 209 dX12_both_202 (by decide) (fun hc => ?_) (fun hc => ?_)
    · replace h := h.1 hc
      refine J_iconst (v := 0) dX12_both_209 (by decide) ?_
      exact J_iret rfl dX12_both_210 h
    · replace h := h.2 hc
      refine J_iconst (v := 1) dX12_both_205 (by decide) ?_
      refine J_goto (tgt := 210) dX12_both_206 (by decide) ?_
      exact J_iret rfl dX12_both_210 h
theorem M_X12_both {Γ : GG} {l : Launch} {d : Nat} {Q : Option Value → St → Prop} {σ : St} (a0 : Int32) (a1 : Int32) (a2 : Int32) (k : J Γ l d mX12_both Q 0 [(0, .int a0), (1, .int a1), (2, .int a2)] [] σ) : Meth Γ l d mX12_both [.int a0, .int a1, .int a2] σ Q := Meth_of_J (by decide +kernel) (fun _ => Nat.le_of_ble_eq_true rfl) (fun _ => rfl) k
set_option maxHeartbeats 4000000 in
set_option maxRecDepth 100000 in
theorem w_X12_gives_50 {Γ : GG} {l : Launch} {d : Nat} {Q : Option Value → St → Prop} {σ : St} (a1 : Int32) (a2 : Int32) (a3 : Int32) (a4 : Int32) (a5 : Int32) (a6 : Int32) (h : (a6 = (1 : Int32) → vp_in a5 2890 ∧ vp_in a3 180 ∧ ∀ x9 : Int32, x9 = a3 + 1 → ∀ x10 : Int32, x10 = a5 + 1 → J Γ l (d + 2) mX12_gives Q 12 [(0, .ref 59), (1, .int a1), (2, .int a2), (3, .int x9), (4, .int a4), (5, .int x10)] [] (wr σ 91 (a3.toNatClampNeg) (rd σ 90 (a5.toNatClampNeg)))) ∧ (¬ a6 = (1 : Int32) → vp_in a5 2890 ∧ Meth Γ l (d + 1) mX12_named [.ref 59, .int (rd σ 90 (a5.toNatClampNeg)), .int a2] σ (KI (fun x3 σ2 => vp_in a3 180 ∧ ∀ x5 : Int32, x5 = a3 + 1 → ∀ x6 : Int32, x6 = a5 + 1 → J Γ l (d + 2) mX12_gives Q 12 [(0, .ref 59), (1, .int a1), (2, .int a2), (3, .int x5), (4, .int a4), (5, .int x6)] [] (wr σ2 91 (a3.toNatClampNeg) x3))))) : J Γ l (d + 2) mX12_gives Q 50 [(0, .ref 59), (1, .int a1), (2, .int a2), (3, .int a3), (4, .int a4), (5, .int a5), (6, .int a6)] [] σ := by
  refine J_aload_n (i := 0) (kk := 0) dX12_gives_50 rfl rfl ?_
  refine J_getR 91 (q := 59) (ci := 12) (kf := 44) kfX12_104 uxX12 rfl (by decide) rfl (by decide) rfl dX12_gives_51 ?_
  refine J_iload_n (i := 3) (kk := 3) dX12_gives_54 rfl rfl ?_
  refine J_iload (i := 6) (kk := 6) dX12_gives_55 rfl ?_
  refine J_iconst (v := 1) dX12_gives_57 (by decide) ?_
  refine J_icmp_ne 71 dX12_gives_58 (by decide) (fun hc => ?_) (fun hc => ?_)
  · replace h := h.2 hc
    refine J_aload_n (i := 0) (kk := 0) dX12_gives_71 rfl rfl ?_
    refine J_aload_n (i := 0) (kk := 0) dX12_gives_72 rfl rfl ?_
    refine J_getR 90 (q := 59) (ci := 12) (kf := 38) kfX12_101 uxX12 rfl (by decide) rfl (by decide) rfl dX12_gives_73 ?_
    refine J_iload (i := 5) (kk := 5) dX12_gives_76 rfl ?_
    have b1 := h.1
    replace h := h.2
    refine J_ald (a5.toNatClampNeg) rfl (by decide) rfl b1 dX12_gives_78 ?_
    refine J_iload_n (i := 2) (kk := 2) dX12_gives_79 rfl rfl ?_
    refine J_callV [.int (rd σ 90 (a5.toNatClampNeg)), .int a2] [.int a3, .ref 91] calX12_named klX12_318 (b := 59) (ci := 12) (by decide) rfl rfl rfl rfl (Nat.le_of_ble_eq_true rfl) dX12_gives_80 (KI.to h ?_)
    clear h
    intro x3 σ2 h
    have b4 := h.1
    replace h := h.2
    refine J_ast (a3.toNatClampNeg) rfl (by decide) rfl b4 dX12_gives_83 ?_
    obtain ⟨x5, ex5⟩ : ∃ y : Int32, y = a3 + 1 := ⟨_, rfl⟩
    replace h := h x5 ex5
    refine J_iinc (i := 3) (kk := 3) (v := x5) (lv' := [(3, .int x5), (0, .ref 59), (1, .int a1), (2, .int a2), (4, .int a4), (5, .int a5), (6, .int a6)]) dX12_gives_84 rfl (by rw [ex5]; rfl) (by decide) rfl ?_
    refine J_goto (tgt := 206) dX12_gives_87 (by decide) ?_
    obtain ⟨x6, ex6⟩ : ∃ y : Int32, y = a5 + 1 := ⟨_, rfl⟩
    replace h := h x6 ex6
    refine J_iinc (i := 5) (kk := 5) (v := x6) (lv' := [(5, .int x6), (3, .int x5), (0, .ref 59), (1, .int a1), (2, .int a2), (4, .int a4), (6, .int a6)]) dX12_gives_206 rfl (by rw [ex6]; rfl) (by decide) rfl ?_
    refine J_goto (tgt := 12) dX12_gives_209 (by decide) ?_
    refine J_sub [2, 3, 4, 1, 5, 0] rfl ?_
    exact h
  · replace h := h.1 hc
    refine J_aload_n (i := 0) (kk := 0) dX12_gives_61 rfl rfl ?_
    refine J_getR 90 (q := 59) (ci := 12) (kf := 38) kfX12_101 uxX12 rfl (by decide) rfl (by decide) rfl dX12_gives_62 ?_
    refine J_iload (i := 5) (kk := 5) dX12_gives_65 rfl ?_
    have b7 := h.1
    replace h := h.2
    refine J_ald (a5.toNatClampNeg) rfl (by decide) rfl b7 dX12_gives_67 ?_
    refine J_goto (tgt := 83) dX12_gives_68 (by decide) ?_
    have b8 := h.1
    replace h := h.2
    refine J_ast (a3.toNatClampNeg) rfl (by decide) rfl b8 dX12_gives_83 ?_
    obtain ⟨x9, ex9⟩ : ∃ y : Int32, y = a3 + 1 := ⟨_, rfl⟩
    replace h := h x9 ex9
    refine J_iinc (i := 3) (kk := 3) (v := x9) (lv' := [(3, .int x9), (0, .ref 59), (1, .int a1), (2, .int a2), (4, .int a4), (5, .int a5), (6, .int a6)]) dX12_gives_84 rfl (by rw [ex9]; rfl) (by decide) rfl ?_
    refine J_goto (tgt := 206) dX12_gives_87 (by decide) ?_
    obtain ⟨x10, ex10⟩ : ∃ y : Int32, y = a5 + 1 := ⟨_, rfl⟩
    replace h := h x10 ex10
    refine J_iinc (i := 5) (kk := 5) (v := x10) (lv' := [(5, .int x10), (3, .int x9), (0, .ref 59), (1, .int a1), (2, .int a2), (4, .int a4), (6, .int a6)]) dX12_gives_206 rfl (by rw [ex10]; rfl) (by decide) rfl ?_
    refine J_goto (tgt := 12) dX12_gives_209 (by decide) ?_
    refine J_sub [2, 3, 4, 1, 5, 0] rfl ?_
    exact h
set_option maxHeartbeats 4000000 in
set_option maxRecDepth 100000 in
theorem w_X12_gives_12 {Γ : GG} {l : Launch} {d : Nat} {Q : Option Value → St → Prop} {σ : St} (a1 : Int32) (a2 : Int32) (a3 : Int32) (a4 : Int32) (a5 : Int32) (h : vp_in a1 17 ∧ (((170 : Int32) * a1) + (rd σ 88 (a1.toNatClampNeg)) ≤ a5 → Q (some (.int (0))) σ) ∧ (¬ ((170 : Int32) * a1) + (rd σ 88 (a1.toNatClampNeg)) ≤ a5 → vp_in a5 2890 ∧ (rd σ 89 (a5.toNatClampNeg) = (1 : Int32) → J Γ l (d + 2) mX12_gives Q 50 [(0, .ref 59), (1, .int a1), (2, .int a2), (3, .int a3), (4, .int a4), (5, .int a5), (6, .int (rd σ 89 (a5.toNatClampNeg)))] [] σ) ∧ (¬ rd σ 89 (a5.toNatClampNeg) = (1 : Int32) → (rd σ 89 (a5.toNatClampNeg) = (2 : Int32) → J Γ l (d + 2) mX12_gives Q 50 [(0, .ref 59), (1, .int a1), (2, .int a2), (3, .int a3), (4, .int a4), (5, .int a5), (6, .int (rd σ 89 (a5.toNatClampNeg)))] [] σ) ∧ (¬ rd σ 89 (a5.toNatClampNeg) = (2 : Int32) → (rd σ 89 (a5.toNatClampNeg) = (3 : Int32) → (rd σ 91 0 = (0 : Int32) → ∀ x14 : Int32, x14 = a5 + 1 → J Γ l (d + 2) mX12_gives Q 12 [(0, .ref 59), (1, .int a1), (2, .int a2), (3, .int (0)), (4, .int (1)), (5, .int x14)] [] σ) ∧ (¬ rd σ 91 0 = (0 : Int32) → ∀ x13 : Int32, x13 = a5 + 1 → J Γ l (d + 2) mX12_gives Q 12 [(0, .ref 59), (1, .int a1), (2, .int a2), (3, .int (0)), (4, .int (0)), (5, .int x13)] [] σ)) ∧ (¬ rd σ 89 (a5.toNatClampNeg) = (3 : Int32) → (rd σ 89 (a5.toNatClampNeg) = (4 : Int32) → (a4 = (0 : Int32) → Q (some (.int (rd σ 91 0))) σ) ∧ (¬ a4 = (0 : Int32) → ∀ x12 : Int32, x12 = a5 + 1 → J Γ l (d + 2) mX12_gives Q 12 [(0, .ref 59), (1, .int a1), (2, .int a2), (3, .int (0)), (4, .int (0)), (5, .int x12)] [] σ)) ∧ (¬ rd σ 89 (a5.toNatClampNeg) = (4 : Int32) → (rd σ 89 (a5.toNatClampNeg) = (5 : Int32) → vp_in (a3 - (1 : Int32)) 180 ∧ (rd σ 91 ((a3 - (1 : Int32)).toNatClampNeg) = (0 : Int32) → ∀ x11 : Int32, x11 = a5 + 1 → J Γ l (d + 2) mX12_gives Q 12 [(0, .ref 59), (1, .int a1), (2, .int a2), (3, .int a3), (4, .int a4), (5, .int x11)] [] (wr σ 91 ((a3 - (1 : Int32)).toNatClampNeg) (1 : Int32))) ∧ (¬ rd σ 91 ((a3 - (1 : Int32)).toNatClampNeg) = (0 : Int32) → ∀ x10 : Int32, x10 = a5 + 1 → J Γ l (d + 2) mX12_gives Q 12 [(0, .ref 59), (1, .int a1), (2, .int a2), (3, .int a3), (4, .int a4), (5, .int x10)] [] (wr σ 91 ((a3 - (1 : Int32)).toNatClampNeg) (0 : Int32)))) ∧ (¬ rd σ 89 (a5.toNatClampNeg) = (5 : Int32) → ∀ x3 : Int32, x3 = a3 + (-1) → vp_in (x3 - (1 : Int32)) 180 ∧ vp_in x3 180 ∧ Meth Γ l (d + 1) mX12_both [.int (rd σ 89 (a5.toNatClampNeg)), .int (rd σ 91 ((x3 - (1 : Int32)).toNatClampNeg)), .int (rd σ 91 (x3.toNatClampNeg))] σ (KI (fun x7 σ6 => ∀ x8 : Int32, x8 = a5 + 1 → J Γ l (d + 2) mX12_gives Q 12 [(0, .ref 59), (1, .int a1), (2, .int a2), (3, .int x3), (4, .int a4), (5, .int x8)] [] (wr σ6 91 ((x3 - (1 : Int32)).toNatClampNeg) x7)))))))))) : J Γ l (d + 2) mX12_gives Q 12 [(0, .ref 59), (1, .int a1), (2, .int a2), (3, .int a3), (4, .int a4), (5, .int a5)] [] σ := by
  refine J_iload (i := 5) (kk := 5) dX12_gives_12 rfl ?_
  refine J_sipush (v := 170) dX12_gives_14 (by decide) ?_
  refine J_iload_n (i := 1) (kk := 1) dX12_gives_17 rfl rfl ?_
  refine J_imul dX12_gives_18 ?_
  refine J_aload_n (i := 0) (kk := 0) dX12_gives_19 rfl rfl ?_
  refine J_getR 88 (q := 59) (ci := 12) (kf := 36) kfX12_95 uxX12 rfl (by decide) rfl (by decide) rfl dX12_gives_20 ?_
  refine J_iload_n (i := 1) (kk := 1) dX12_gives_23 rfl rfl ?_
  have b1 := h.1
  replace h := h.2
  refine J_ald (a1.toNatClampNeg) rfl (by decide) rfl b1 dX12_gives_24 ?_
  refine J_iadd dX12_gives_25 ?_
  refine J_icmp_ge 212 dX12_gives_26 (by decide) (fun hc => ?_) (fun hc => ?_)
  · replace h := h.1 hc
    refine J_iconst (v := 0) dX12_gives_212 (by decide) ?_
    exact J_iret rfl dX12_gives_213 h
  · replace h := h.2 hc
    refine J_aload_n (i := 0) (kk := 0) dX12_gives_29 rfl rfl ?_
    refine J_getR 89 (q := 59) (ci := 12) (kf := 37) kfX12_98 uxX12 rfl (by decide) rfl (by decide) rfl dX12_gives_30 ?_
    refine J_iload (i := 5) (kk := 5) dX12_gives_33 rfl ?_
    have b2 := h.1
    replace h := h.2
    refine J_ald (a5.toNatClampNeg) rfl (by decide) rfl b2 dX12_gives_35 ?_
    refine J_istore (i := 6) (lv' := [(6, .int (rd σ 89 (a5.toNatClampNeg))), (0, .ref 59), (1, .int a1), (2, .int a2), (3, .int a3), (4, .int a4), (5, .int a5)]) dX12_gives_36 (by decide) rfl ?_
    refine J_iload (i := 6) (kk := 0) dX12_gives_38 rfl ?_
    refine J_iconst (v := 1) dX12_gives_40 (by decide) ?_
    refine J_icmp_eq 50 dX12_gives_41 (by decide) (fun hc => ?_) (fun hc => ?_)
    · replace h := h.1 hc
      refine J_sub [1, 2, 3, 4, 5, 6, 0] rfl ?_
      exact h
    · replace h := h.2 hc
      refine J_iload (i := 6) (kk := 0) dX12_gives_44 rfl ?_
      refine J_iconst (v := 2) dX12_gives_46 (by decide) ?_
      refine J_icmp_ne 90 dX12_gives_47 (by decide) (fun hc => ?_) (fun hc => ?_)
      · replace h := h.2 hc
        refine J_iload (i := 6) (kk := 0) dX12_gives_90 rfl ?_
        refine J_iconst (v := 3) dX12_gives_92 (by decide) ?_
        refine J_icmp_ne 117 dX12_gives_93 (by decide) (fun hc => ?_) (fun hc => ?_)
        · replace h := h.2 hc
          refine J_iload (i := 6) (kk := 0) dX12_gives_117 rfl ?_
          refine J_iconst (v := 4) dX12_gives_119 (by decide) ?_
          refine J_icmp_ne 143 dX12_gives_120 (by decide) (fun hc => ?_) (fun hc => ?_)
          · replace h := h.2 hc
            refine J_iload (i := 6) (kk := 0) dX12_gives_143 rfl ?_
            refine J_iconst (v := 5) dX12_gives_145 (by decide) ?_
            refine J_icmp_ne 176 dX12_gives_146 (by decide) (fun hc => ?_) (fun hc => ?_)
            · replace h := h.2 hc
              obtain ⟨x3, ex3⟩ : ∃ y : Int32, y = a3 + (-1) := ⟨_, rfl⟩
              replace h := h x3 ex3
              refine J_iinc (i := 3) (kk := 4) (v := x3) (lv' := [(3, .int x3), (6, .int (rd σ 89 (a5.toNatClampNeg))), (0, .ref 59), (1, .int a1), (2, .int a2), (4, .int a4), (5, .int a5)]) dX12_gives_176 rfl (by rw [ex3]; rfl) (by decide) rfl ?_
              refine J_aload_n (i := 0) (kk := 2) dX12_gives_179 rfl rfl ?_
              refine J_getR 91 (q := 59) (ci := 12) (kf := 44) kfX12_104 uxX12 rfl (by decide) rfl (by decide) rfl dX12_gives_180 ?_
              refine J_iload_n (i := 3) (kk := 0) dX12_gives_183 rfl rfl ?_
              refine J_iconst (v := 1) dX12_gives_184 (by decide) ?_
              refine J_isub dX12_gives_185 ?_
              refine J_iload (i := 6) (kk := 1) dX12_gives_186 rfl ?_
              refine J_aload_n (i := 0) (kk := 2) dX12_gives_188 rfl rfl ?_
              refine J_getR 91 (q := 59) (ci := 12) (kf := 44) kfX12_104 uxX12 rfl (by decide) rfl (by decide) rfl dX12_gives_189 ?_
              refine J_iload_n (i := 3) (kk := 0) dX12_gives_192 rfl rfl ?_
              refine J_iconst (v := 1) dX12_gives_193 (by decide) ?_
              refine J_isub dX12_gives_194 ?_
              have b4 := h.1
              replace h := h.2
              refine J_ald ((x3 - (1 : Int32)).toNatClampNeg) rfl (by decide) rfl b4 dX12_gives_195 ?_
              refine J_aload_n (i := 0) (kk := 2) dX12_gives_196 rfl rfl ?_
              refine J_getR 91 (q := 59) (ci := 12) (kf := 44) kfX12_104 uxX12 rfl (by decide) rfl (by decide) rfl dX12_gives_197 ?_
              refine J_iload_n (i := 3) (kk := 0) dX12_gives_200 rfl rfl ?_
              have b5 := h.1
              replace h := h.2
              refine J_ald (x3.toNatClampNeg) rfl (by decide) rfl b5 dX12_gives_201 ?_
              refine J_callS [.int (rd σ 89 (a5.toNatClampNeg)), .int (rd σ 91 ((x3 - (1 : Int32)).toNatClampNeg)), .int (rd σ 91 (x3.toNatClampNeg))] [.int (x3 - (1 : Int32)), .ref 91] calX12_both klX12_321 rfl rfl (Nat.le_of_ble_eq_true rfl) dX12_gives_202 (KI.to h ?_)
              clear h
              intro x7 σ6 h
              refine J_ast ((x3 - (1 : Int32)).toNatClampNeg) rfl (by decide) rfl b4 dX12_gives_205 ?_
              obtain ⟨x8, ex8⟩ : ∃ y : Int32, y = a5 + 1 := ⟨_, rfl⟩
              replace h := h x8 ex8
              refine J_iinc (i := 5) (kk := 6) (v := x8) (lv' := [(5, .int x8), (3, .int x3), (6, .int (rd σ 89 (a5.toNatClampNeg))), (0, .ref 59), (1, .int a1), (2, .int a2), (4, .int a4)]) dX12_gives_206 rfl (by rw [ex8]; rfl) (by decide) rfl ?_
              refine J_goto (tgt := 12) dX12_gives_209 (by decide) ?_
              refine J_sub [3, 4, 5, 1, 6, 0] rfl ?_
              exact h
            · replace h := h.1 hc
              refine J_aload_n (i := 0) (kk := 1) dX12_gives_149 rfl rfl ?_
              refine J_getR 91 (q := 59) (ci := 12) (kf := 44) kfX12_104 uxX12 rfl (by decide) rfl (by decide) rfl dX12_gives_150 ?_
              refine J_iload_n (i := 3) (kk := 4) dX12_gives_153 rfl rfl ?_
              refine J_iconst (v := 1) dX12_gives_154 (by decide) ?_
              refine J_isub dX12_gives_155 ?_
              refine J_aload_n (i := 0) (kk := 1) dX12_gives_156 rfl rfl ?_
              refine J_getR 91 (q := 59) (ci := 12) (kf := 44) kfX12_104 uxX12 rfl (by decide) rfl (by decide) rfl dX12_gives_157 ?_
              refine J_iload_n (i := 3) (kk := 4) dX12_gives_160 rfl rfl ?_
              refine J_iconst (v := 1) dX12_gives_161 (by decide) ?_
              refine J_isub dX12_gives_162 ?_
              have b9 := h.1
              replace h := h.2
              refine J_ald ((a3 - (1 : Int32)).toNatClampNeg) rfl (by decide) rfl b9 dX12_gives_163 ?_
              refine J_if_ne 171 dX12_gives_164 (by decide) (fun hc => ?_) (fun hc => ?_)
              · replace h := h.2 hc
                refine J_iconst (v := 0) dX12_gives_171 (by decide) ?_
                refine J_ast ((a3 - (1 : Int32)).toNatClampNeg) rfl (by decide) rfl b9 dX12_gives_172 ?_
                refine J_goto (tgt := 206) dX12_gives_173 (by decide) ?_
                obtain ⟨x10, ex10⟩ : ∃ y : Int32, y = a5 + 1 := ⟨_, rfl⟩
                replace h := h x10 ex10
                refine J_iinc (i := 5) (kk := 6) (v := x10) (lv' := [(5, .int x10), (6, .int (rd σ 89 (a5.toNatClampNeg))), (0, .ref 59), (1, .int a1), (2, .int a2), (3, .int a3), (4, .int a4)]) dX12_gives_206 rfl (by rw [ex10]; rfl) (by decide) rfl ?_
                refine J_goto (tgt := 12) dX12_gives_209 (by decide) ?_
                refine J_sub [2, 3, 4, 5, 6, 0] rfl ?_
                exact h
              · replace h := h.1 hc
                refine J_iconst (v := 1) dX12_gives_167 (by decide) ?_
                refine J_goto (tgt := 172) dX12_gives_168 (by decide) ?_
                refine J_ast ((a3 - (1 : Int32)).toNatClampNeg) rfl (by decide) rfl b9 dX12_gives_172 ?_
                refine J_goto (tgt := 206) dX12_gives_173 (by decide) ?_
                obtain ⟨x11, ex11⟩ : ∃ y : Int32, y = a5 + 1 := ⟨_, rfl⟩
                replace h := h x11 ex11
                refine J_iinc (i := 5) (kk := 6) (v := x11) (lv' := [(5, .int x11), (6, .int (rd σ 89 (a5.toNatClampNeg))), (0, .ref 59), (1, .int a1), (2, .int a2), (3, .int a3), (4, .int a4)]) dX12_gives_206 rfl (by rw [ex11]; rfl) (by decide) rfl ?_
                refine J_goto (tgt := 12) dX12_gives_209 (by decide) ?_
                refine J_sub [2, 3, 4, 5, 6, 0] rfl ?_
                exact h
          · replace h := h.1 hc
            refine J_iload (i := 4) (kk := 5) dX12_gives_123 rfl ?_
            refine J_if_ne 135 dX12_gives_125 (by decide) (fun hc => ?_) (fun hc => ?_)
            · replace h := h.2 hc
              refine J_iconst (v := 0) dX12_gives_135 (by decide) ?_
              refine J_istore (i := 4) (lv' := [(4, .int (0)), (6, .int (rd σ 89 (a5.toNatClampNeg))), (0, .ref 59), (1, .int a1), (2, .int a2), (3, .int a3), (5, .int a5)]) dX12_gives_136 (by decide) rfl ?_
              refine J_iconst (v := 0) dX12_gives_138 (by decide) ?_
              refine J_istore_n (i := 3) (lv' := [(3, .int (0)), (4, .int (0)), (6, .int (rd σ 89 (a5.toNatClampNeg))), (0, .ref 59), (1, .int a1), (2, .int a2), (5, .int a5)]) dX12_gives_139 rfl (by decide) rfl ?_
              refine J_goto (tgt := 206) dX12_gives_140 (by decide) ?_
              obtain ⟨x12, ex12⟩ : ∃ y : Int32, y = a5 + 1 := ⟨_, rfl⟩
              replace h := h x12 ex12
              refine J_iinc (i := 5) (kk := 6) (v := x12) (lv' := [(5, .int x12), (3, .int (0)), (4, .int (0)), (6, .int (rd σ 89 (a5.toNatClampNeg))), (0, .ref 59), (1, .int a1), (2, .int a2)]) dX12_gives_206 rfl (by rw [ex12]; rfl) (by decide) rfl ?_
              refine J_goto (tgt := 12) dX12_gives_209 (by decide) ?_
              refine J_sub [4, 5, 6, 1, 2, 0] rfl ?_
              exact h
            · replace h := h.1 hc
              refine J_aload_n (i := 0) (kk := 1) dX12_gives_128 rfl rfl ?_
              refine J_getR 91 (q := 59) (ci := 12) (kf := 44) kfX12_104 uxX12 rfl (by decide) rfl (by decide) rfl dX12_gives_129 ?_
              refine J_iconst (v := 0) dX12_gives_132 (by decide) ?_
              refine J_ald 0 (by decide) (by decide) rfl (by unfold vp_in; decide) dX12_gives_133 ?_
              exact J_iret rfl dX12_gives_134 h
        · replace h := h.1 hc
          refine J_aload_n (i := 0) (kk := 1) dX12_gives_96 rfl rfl ?_
          refine J_getR 91 (q := 59) (ci := 12) (kf := 44) kfX12_104 uxX12 rfl (by decide) rfl (by decide) rfl dX12_gives_97 ?_
          refine J_iconst (v := 0) dX12_gives_100 (by decide) ?_
          refine J_ald 0 (by decide) (by decide) rfl (by unfold vp_in; decide) dX12_gives_101 ?_
          refine J_if_ne 109 dX12_gives_102 (by decide) (fun hc => ?_) (fun hc => ?_)
          · replace h := h.2 hc
            refine J_iconst (v := 0) dX12_gives_109 (by decide) ?_
            refine J_istore (i := 4) (lv' := [(4, .int (0)), (6, .int (rd σ 89 (a5.toNatClampNeg))), (0, .ref 59), (1, .int a1), (2, .int a2), (3, .int a3), (5, .int a5)]) dX12_gives_110 (by decide) rfl ?_
            refine J_iconst (v := 0) dX12_gives_112 (by decide) ?_
            refine J_istore_n (i := 3) (lv' := [(3, .int (0)), (4, .int (0)), (6, .int (rd σ 89 (a5.toNatClampNeg))), (0, .ref 59), (1, .int a1), (2, .int a2), (5, .int a5)]) dX12_gives_113 rfl (by decide) rfl ?_
            refine J_goto (tgt := 206) dX12_gives_114 (by decide) ?_
            obtain ⟨x13, ex13⟩ : ∃ y : Int32, y = a5 + 1 := ⟨_, rfl⟩
            replace h := h x13 ex13
            refine J_iinc (i := 5) (kk := 6) (v := x13) (lv' := [(5, .int x13), (3, .int (0)), (4, .int (0)), (6, .int (rd σ 89 (a5.toNatClampNeg))), (0, .ref 59), (1, .int a1), (2, .int a2)]) dX12_gives_206 rfl (by rw [ex13]; rfl) (by decide) rfl ?_
            refine J_goto (tgt := 12) dX12_gives_209 (by decide) ?_
            refine J_sub [4, 5, 6, 1, 2, 0] rfl ?_
            exact h
          · replace h := h.1 hc
            refine J_iconst (v := 1) dX12_gives_105 (by decide) ?_
            refine J_goto (tgt := 110) dX12_gives_106 (by decide) ?_
            refine J_istore (i := 4) (lv' := [(4, .int (1)), (6, .int (rd σ 89 (a5.toNatClampNeg))), (0, .ref 59), (1, .int a1), (2, .int a2), (3, .int a3), (5, .int a5)]) dX12_gives_110 (by decide) rfl ?_
            refine J_iconst (v := 0) dX12_gives_112 (by decide) ?_
            refine J_istore_n (i := 3) (lv' := [(3, .int (0)), (4, .int (1)), (6, .int (rd σ 89 (a5.toNatClampNeg))), (0, .ref 59), (1, .int a1), (2, .int a2), (5, .int a5)]) dX12_gives_113 rfl (by decide) rfl ?_
            refine J_goto (tgt := 206) dX12_gives_114 (by decide) ?_
            obtain ⟨x14, ex14⟩ : ∃ y : Int32, y = a5 + 1 := ⟨_, rfl⟩
            replace h := h x14 ex14
            refine J_iinc (i := 5) (kk := 6) (v := x14) (lv' := [(5, .int x14), (3, .int (0)), (4, .int (1)), (6, .int (rd σ 89 (a5.toNatClampNeg))), (0, .ref 59), (1, .int a1), (2, .int a2)]) dX12_gives_206 rfl (by rw [ex14]; rfl) (by decide) rfl ?_
            refine J_goto (tgt := 12) dX12_gives_209 (by decide) ?_
            refine J_sub [4, 5, 6, 1, 2, 0] rfl ?_
            exact h
      · replace h := h.1 hc
        refine J_sub [1, 2, 3, 4, 5, 6, 0] rfl ?_
        exact h
set_option maxHeartbeats 4000000 in
set_option maxRecDepth 100000 in
theorem w_X12_gives_0 {Γ : GG} {l : Launch} {d : Nat} {Q : Option Value → St → Prop} {σ : St} (a1 : Int32) (a2 : Int32) (h : J Γ l (d + 2) mX12_gives Q 12 [(0, .ref 59), (1, .int a1), (2, .int a2), (3, .int (0)), (4, .int (0)), (5, .int ((170 : Int32) * a1))] [] σ) : J Γ l (d + 2) mX12_gives Q 0 [(0, .ref 59), (1, .int a1), (2, .int a2)] [] σ := by
  refine J_iconst (v := 0) dX12_gives_0 (by decide) ?_
  refine J_istore_n (i := 3) (lv' := [(3, .int (0)), (0, .ref 59), (1, .int a1), (2, .int a2)]) dX12_gives_1 rfl (by decide) rfl ?_
  refine J_iconst (v := 0) dX12_gives_2 (by decide) ?_
  refine J_istore (i := 4) (lv' := [(4, .int (0)), (3, .int (0)), (0, .ref 59), (1, .int a1), (2, .int a2)]) dX12_gives_3 (by decide) rfl ?_
  refine J_sipush (v := 170) dX12_gives_5 (by decide) ?_
  refine J_iload_n (i := 1) (kk := 3) dX12_gives_8 rfl rfl ?_
  refine J_imul dX12_gives_9 ?_
  refine J_istore (i := 5) (lv' := [(5, .int ((170 : Int32) * a1)), (4, .int (0)), (3, .int (0)), (0, .ref 59), (1, .int a1), (2, .int a2)]) dX12_gives_10 (by decide) rfl ?_
  refine J_sub [3, 4, 5, 2, 1, 0] rfl ?_
  exact h
theorem M_X12_gives {Γ : GG} {l : Launch} {d : Nat} {Q : Option Value → St → Prop} {σ : St} (a1 : Int32) (a2 : Int32) (k : J Γ l (d + 2) mX12_gives Q 0 [(0, .ref 59), (1, .int a1), (2, .int a2)] [] σ) : Meth Γ l (d + 2) mX12_gives [.ref 59, .int a1, .int a2] σ Q := Meth_of_J (by decide +kernel) (fun _ => Nat.le_of_ble_eq_true rfl) (fun _ => rfl) k
set_option maxHeartbeats 4000000 in
set_option maxRecDepth 100000 in
theorem w_X12_says_0 {Γ : GG} {l : Launch} {d : Nat} {Q : Option Value → St → Prop} {σ : St} (a1 : Int32) (a2 : Int32) (h : ((0 : Int32) ≤ a1 ∧ a1 ≤ ((rd σ 59 32) - (1 : Int32)) → (0 ≤ a2 ∧ a2 ≤ (rd σ 59 16) - (1 : Int32) → Meth Γ l (d + 2) mX12_gives [.ref 59, .int a1, .int a2] σ (KI (fun x2 σ1 => Q (some (.int x2)) σ1))) ∧ (¬ (0 ≤ a2 ∧ a2 ≤ (rd σ 59 16) - (1 : Int32)) → Q (some (.int ((-2000000000)))) σ)) ∧ (¬ ((0 : Int32) ≤ a1 ∧ a1 ≤ ((rd σ 59 32) - (1 : Int32))) → Q (some (.int ((-2000000000)))) σ)) : J Γ l (d + 3) mX12_says Q 0 [(0, .ref 59), (1, .int a1), (2, .int a2)] [] σ := by
  refine J_iload_n (i := 1) (kk := 1) dX12_says_0 rfl rfl ?_
  refine J_iconst (v := 0) dX12_says_1 (by decide) ?_
  refine J_aload_n (i := 0) (kk := 0) dX12_says_2 rfl rfl ?_
  refine J_getI (q := 59) (ci := 12) (kf := 32) kfX12_305 uxX12 rfl (by decide) rfl (by decide) rfl dX12_says_3 ?_
  refine J_iconst (v := 1) dX12_says_6 (by decide) ?_
  refine J_isub dX12_says_7 ?_
  refine J_callS [.int a1, .int (0), .int ((rd σ 59 32) - (1 : Int32))] [] calX12_in klX12_196 rfl rfl (Nat.le_of_ble_eq_true rfl) dX12_says_8 (KI.to (S_X12_in a1 (0 : Int32) ((rd σ 59 32) - (1 : Int32))) ?_)
  rintro x9 s9 ⟨rfl, ⟨g4, rfl⟩ | ⟨g4, rfl⟩⟩
  · replace h := h.1 g4
    refine J_if_eq 31 dX12_says_11 (by decide) (fun hc => absurd hc (by decide)) (fun _ => ?_)
    refine J_aload_n (i := 0) (kk := 0) dX12_says_14 rfl rfl ?_
    refine J_iload_n (i := 2) (kk := 2) dX12_says_15 rfl rfl ?_
    refine J_callV [.int a2] [] calX12_isBatch klX12_241 (b := 59) (ci := 12) (by decide) rfl rfl rfl rfl (Nat.le_of_ble_eq_true rfl) dX12_says_16 (KI.to (S_X12_isBatch a2) ?_)
    rintro x9 s9 ⟨rfl, ⟨g3, rfl⟩ | ⟨g3, rfl⟩⟩
    · replace h := h.1 g3
      refine J_if_eq 31 dX12_says_19 (by decide) (fun hc => absurd hc (by decide)) (fun _ => ?_)
      refine J_aload_n (i := 0) (kk := 0) dX12_says_22 rfl rfl ?_
      refine J_iload_n (i := 1) (kk := 1) dX12_says_23 rfl rfl ?_
      refine J_iload_n (i := 2) (kk := 2) dX12_says_24 rfl rfl ?_
      refine J_callV [.int a1, .int a2] [] calX12_gives klX12_324 (b := 59) (ci := 12) (by decide) rfl rfl rfl rfl (Nat.le_of_ble_eq_true rfl) dX12_says_25 (KI.to h ?_)
      clear h
      intro x2 σ1 h
      refine J_goto (tgt := 33) dX12_says_28 (by decide) ?_
      exact J_iret rfl dX12_says_33 h
    · replace h := h.2 g3
      refine J_if_eq 31 dX12_says_19 (by decide) (fun _ => ?_) (fun hc => absurd hc (by decide))
      refine J_ldc (v := (-2000000000)) kcX12_244 dX12_says_31 ?_
      exact J_iret rfl dX12_says_33 h
  · replace h := h.2 g4
    refine J_if_eq 31 dX12_says_11 (by decide) (fun _ => ?_) (fun hc => absurd hc (by decide))
    refine J_ldc (v := (-2000000000)) kcX12_244 dX12_says_31 ?_
    exact J_iret rfl dX12_says_33 h
theorem M_X12_says {Γ : GG} {l : Launch} {d : Nat} {Q : Option Value → St → Prop} {σ : St} (a1 : Int32) (a2 : Int32) (k : J Γ l (d + 3) mX12_says Q 0 [(0, .ref 59), (1, .int a1), (2, .int a2)] [] σ) : Meth Γ l (d + 3) mX12_says [.ref 59, .int a1, .int a2] σ Q := Meth_of_J (by decide +kernel) (fun _ => Nat.le_of_ble_eq_true rfl) (fun _ => rfl) k
set_option maxHeartbeats 4000000 in
set_option maxRecDepth 100000 in
theorem w_X12_may_0 {Γ : GG} {l : Launch} {d : Nat} {Q : Option Value → St → Prop} {σ : St} (a1 : Int32) (a2 : Int32) (h : Meth Γ l (d + 2) mX12_forceOn [.ref 59, .int a1, .int ((rd σ 59 1) / (24 : Int32)), .int ((rd σ 59 1) / (24 : Int32))] σ (KI (fun x2 σ1 => (x2 < (0 : Int32) → Q (some (.int (1))) σ1) ∧ (¬ x2 < (0 : Int32) → Meth Γ l (d + 2) mX12_gives [.ref 59, .int x2, .int a2] σ1 (KI (fun x4 σ3 => (x4 = (0 : Int32) → Q (some (.int (0))) σ3) ∧ (¬ x4 = (0 : Int32) → Q (some (.int (1))) σ3))))))) : J Γ l (d + 3) mX12_may Q 0 [(0, .ref 59), (1, .int a1), (2, .int a2)] [] σ := by
  refine J_aload_n (i := 0) (kk := 0) dX12_may_0 rfl rfl ?_
  refine J_iload_n (i := 1) (kk := 1) dX12_may_1 rfl rfl ?_
  refine J_aload_n (i := 0) (kk := 0) dX12_may_2 rfl rfl ?_
  refine J_callV [] [.int a1, .ref 59] calX12_today klX12_230 (b := 59) (ci := 12) (by decide) rfl rfl rfl rfl (Nat.le_of_ble_eq_true rfl) dX12_may_3 (KI.to (S_X12_today) ?_)
  rintro x9 s9 ⟨rfl, rfl⟩
  refine J_aload_n (i := 0) (kk := 0) dX12_may_6 rfl rfl ?_
  refine J_callV [] [.int ((rd σ 59 1) / (24 : Int32)), .int a1, .ref 59] calX12_today klX12_230 (b := 59) (ci := 12) (by decide) rfl rfl rfl rfl (Nat.le_of_ble_eq_true rfl) dX12_may_7 (KI.to (S_X12_today) ?_)
  rintro x9 s9 ⟨rfl, rfl⟩
  refine J_callV [.int a1, .int ((rd σ 59 1) / (24 : Int32)), .int ((rd σ 59 1) / (24 : Int32))] [] calX12_forceOn klX12_311 (b := 59) (ci := 12) (by decide) rfl rfl rfl rfl (Nat.le_of_ble_eq_true rfl) dX12_may_10 (KI.to h ?_)
  clear h
  intro x2 σ1 h
  refine J_istore_n (i := 3) (lv' := [(3, .int x2), (0, .ref 59), (1, .int a1), (2, .int a2)]) dX12_may_13 rfl (by decide) rfl ?_
  refine J_iload_n (i := 3) (kk := 0) dX12_may_14 rfl rfl ?_
  refine J_if_lt 27 dX12_may_15 (by decide) (fun hc => ?_) (fun hc => ?_)
  · replace h := h.1 hc
    refine J_iconst (v := 1) dX12_may_27 (by decide) ?_
    refine J_goto (tgt := 32) dX12_may_28 (by decide) ?_
    exact J_zret rfl (by decide) dX12_may_32 h
  · replace h := h.2 hc
    refine J_aload_n (i := 0) (kk := 1) dX12_may_18 rfl rfl ?_
    refine J_iload_n (i := 3) (kk := 0) dX12_may_19 rfl rfl ?_
    refine J_iload_n (i := 2) (kk := 3) dX12_may_20 rfl rfl ?_
    refine J_callV [.int x2, .int a2] [] calX12_gives klX12_324 (b := 59) (ci := 12) (by decide) rfl rfl rfl rfl (Nat.le_of_ble_eq_true rfl) dX12_may_21 (KI.to h ?_)
    clear h
    intro x4 σ3 h
    refine J_if_eq 31 dX12_may_24 (by decide) (fun hc => ?_) (fun hc => ?_)
    · replace h := h.1 hc
      refine J_iconst (v := 0) dX12_may_31 (by decide) ?_
      exact J_zret rfl (by decide) dX12_may_32 h
    · replace h := h.2 hc
      refine J_iconst (v := 1) dX12_may_27 (by decide) ?_
      refine J_goto (tgt := 32) dX12_may_28 (by decide) ?_
      exact J_zret rfl (by decide) dX12_may_32 h
theorem M_X12_may {Γ : GG} {l : Launch} {d : Nat} {Q : Option Value → St → Prop} {σ : St} (a1 : Int32) (a2 : Int32) (k : J Γ l (d + 3) mX12_may Q 0 [(0, .ref 59), (1, .int a1), (2, .int a2)] [] σ) : Meth Γ l (d + 3) mX12_may [.ref 59, .int a1, .int a2] σ Q := Meth_of_J (by decide +kernel) (fun _ => Nat.le_of_ble_eq_true rfl) (fun _ => rfl) k
set_option maxHeartbeats 4000000 in
set_option maxRecDepth 100000 in
theorem w_X12_shelfOf_6 {Γ : GG} {l : Launch} {d : Nat} {Q : Option Value → St → Prop} {σ : St} (a1 : Int32) (a2 : Int32) (a3 : Int32) (a4 : Int32) (a5 : Int32) (h : (rd σ 59 16 ≤ a5 → Q (some (.int a4)) σ) ∧ (¬ rd σ 59 16 ≤ a5 → vp_in a5 200 ∧ (rd σ 71 (a5.toNatClampNeg) = a1 → (rd σ 72 (a5.toNatClampNeg) = a2 → (a3 = (0 : Int32) → vp_in a5 200 ∧ ∀ x5 : Int32, x5 = a4 + (((((rd σ 76 a5.toNatClampNeg) - (rd σ 77 a5.toNatClampNeg)) - (rd σ 78 a5.toNatClampNeg)) - (rd σ 79 a5.toNatClampNeg)) - (rd σ 80 a5.toNatClampNeg)) → ∀ x6 : Int32, x6 = a5 + 1 → J Γ l (d + 4) mX12_shelfOf Q 6 [(0, .ref 59), (1, .int a1), (2, .int a2), (3, .int a3), (4, .int x5), (5, .int x6)] [] σ) ∧ (¬ a3 = (0 : Int32) → Meth Γ l (d + 3) mX12_may [.ref 59, .int (a3 - (1 : Int32)), .int a5] σ (KI (fun x8 σ7 => (x8 = (0 : Int32) → ∀ x9 : Int32, x9 = a5 + 1 → J Γ l (d + 4) mX12_shelfOf Q 6 [(0, .ref 59), (1, .int a1), (2, .int a2), (3, .int a3), (4, .int a4), (5, .int x9)] [] σ7) ∧ (¬ x8 = (0 : Int32) → vp_in a5 200 ∧ ∀ x11 : Int32, x11 = a4 + (((((rd σ7 76 a5.toNatClampNeg) - (rd σ7 77 a5.toNatClampNeg)) - (rd σ7 78 a5.toNatClampNeg)) - (rd σ7 79 a5.toNatClampNeg)) - (rd σ7 80 a5.toNatClampNeg)) → ∀ x12 : Int32, x12 = a5 + 1 → J Γ l (d + 4) mX12_shelfOf Q 6 [(0, .ref 59), (1, .int a1), (2, .int a2), (3, .int a3), (4, .int x11), (5, .int x12)] [] σ7))))) ∧ (¬ rd σ 72 (a5.toNatClampNeg) = a2 → ∀ x3 : Int32, x3 = a5 + 1 → J Γ l (d + 4) mX12_shelfOf Q 6 [(0, .ref 59), (1, .int a1), (2, .int a2), (3, .int a3), (4, .int a4), (5, .int x3)] [] σ)) ∧ (¬ rd σ 71 (a5.toNatClampNeg) = a1 → ∀ x2 : Int32, x2 = a5 + 1 → J Γ l (d + 4) mX12_shelfOf Q 6 [(0, .ref 59), (1, .int a1), (2, .int a2), (3, .int a3), (4, .int a4), (5, .int x2)] [] σ))) : J Γ l (d + 4) mX12_shelfOf Q 6 [(0, .ref 59), (1, .int a1), (2, .int a2), (3, .int a3), (4, .int a4), (5, .int a5)] [] σ := by
  refine J_iload (i := 5) (kk := 5) dX12_shelfOf_6 rfl ?_
  refine J_aload_n (i := 0) (kk := 0) dX12_shelfOf_8 rfl rfl ?_
  refine J_getI (q := 59) (ci := 12) (kf := 16) kfX12_227 uxX12 rfl (by decide) rfl (by decide) rfl dX12_shelfOf_9 ?_
  refine J_icmp_ge 70 dX12_shelfOf_12 (by decide) (fun hc => ?_) (fun hc => ?_)
  · replace h := h.1 hc
    refine J_iload (i := 4) (kk := 4) dX12_shelfOf_70 rfl ?_
    exact J_iret rfl dX12_shelfOf_72 h
  · replace h := h.2 hc
    refine J_aload_n (i := 0) (kk := 0) dX12_shelfOf_15 rfl rfl ?_
    refine J_getR 71 (q := 59) (ci := 12) (kf := 17) kfX12_43 uxX12 rfl (by decide) rfl (by decide) rfl dX12_shelfOf_16 ?_
    refine J_iload (i := 5) (kk := 5) dX12_shelfOf_19 rfl ?_
    have b1 := h.1
    replace h := h.2
    refine J_ald (a5.toNatClampNeg) rfl (by decide) rfl b1 dX12_shelfOf_21 ?_
    refine J_iload_n (i := 1) (kk := 1) dX12_shelfOf_22 rfl rfl ?_
    refine J_icmp_ne 64 dX12_shelfOf_23 (by decide) (fun hc => ?_) (fun hc => ?_)
    · replace h := h.2 hc
      obtain ⟨x2, ex2⟩ : ∃ y : Int32, y = a5 + 1 := ⟨_, rfl⟩
      replace h := h x2 ex2
      refine J_iinc (i := 5) (kk := 5) (v := x2) (lv' := [(5, .int x2), (0, .ref 59), (1, .int a1), (2, .int a2), (3, .int a3), (4, .int a4)]) dX12_shelfOf_64 rfl (by rw [ex2]; rfl) (by decide) rfl ?_
      refine J_goto (tgt := 6) dX12_shelfOf_67 (by decide) ?_
      refine J_sub [1, 2, 3, 4, 5, 0] rfl ?_
      exact h
    · replace h := h.1 hc
      refine J_aload_n (i := 0) (kk := 0) dX12_shelfOf_26 rfl rfl ?_
      refine J_getR 72 (q := 59) (ci := 12) (kf := 18) kfX12_46 uxX12 rfl (by decide) rfl (by decide) rfl dX12_shelfOf_27 ?_
      refine J_iload (i := 5) (kk := 5) dX12_shelfOf_30 rfl ?_
      refine J_ald (a5.toNatClampNeg) rfl (by decide) rfl b1 dX12_shelfOf_32 ?_
      refine J_iload_n (i := 2) (kk := 2) dX12_shelfOf_33 rfl rfl ?_
      refine J_icmp_ne 64 dX12_shelfOf_34 (by decide) (fun hc => ?_) (fun hc => ?_)
      · replace h := h.2 hc
        obtain ⟨x3, ex3⟩ : ∃ y : Int32, y = a5 + 1 := ⟨_, rfl⟩
        replace h := h x3 ex3
        refine J_iinc (i := 5) (kk := 5) (v := x3) (lv' := [(5, .int x3), (0, .ref 59), (1, .int a1), (2, .int a2), (3, .int a3), (4, .int a4)]) dX12_shelfOf_64 rfl (by rw [ex3]; rfl) (by decide) rfl ?_
        refine J_goto (tgt := 6) dX12_shelfOf_67 (by decide) ?_
        refine J_sub [1, 2, 3, 4, 5, 0] rfl ?_
        exact h
      · replace h := h.1 hc
        refine J_iload_n (i := 3) (kk := 3) dX12_shelfOf_37 rfl rfl ?_
        refine J_if_eq 53 dX12_shelfOf_38 (by decide) (fun hc => ?_) (fun hc => ?_)
        · replace h := h.1 hc
          refine J_iload (i := 4) (kk := 4) dX12_shelfOf_53 rfl ?_
          refine J_aload_n (i := 0) (kk := 0) dX12_shelfOf_55 rfl rfl ?_
          refine J_iload (i := 5) (kk := 5) dX12_shelfOf_56 rfl ?_
          have b4 := h.1
          replace h := h.2
          refine J_callV [.int a5] [.int a4] calX12_onShelf klX12_245 (b := 59) (ci := 12) (by decide) rfl rfl rfl rfl (Nat.le_of_ble_eq_true rfl) dX12_shelfOf_58 (KI.to (S_X12_onShelf a5 b4) ?_)
          rintro x9 s9 ⟨rfl, rfl⟩
          refine J_iadd dX12_shelfOf_61 ?_
          refine J_nameI (fun x5 ex5 => ?_)
          replace h := h x5 ex5
          refine J_istore (i := 4) (lv' := [(4, .int x5), (0, .ref 59), (1, .int a1), (2, .int a2), (3, .int a3), (5, .int a5)]) dX12_shelfOf_62 (by decide) rfl ?_
          obtain ⟨x6, ex6⟩ : ∃ y : Int32, y = a5 + 1 := ⟨_, rfl⟩
          replace h := h x6 ex6
          refine J_iinc (i := 5) (kk := 5) (v := x6) (lv' := [(5, .int x6), (4, .int x5), (0, .ref 59), (1, .int a1), (2, .int a2), (3, .int a3)]) dX12_shelfOf_64 rfl (by rw [ex6]; rfl) (by decide) rfl ?_
          refine J_goto (tgt := 6) dX12_shelfOf_67 (by decide) ?_
          refine J_sub [2, 3, 4, 5, 1, 0] rfl ?_
          exact h
        · replace h := h.2 hc
          refine J_aload_n (i := 0) (kk := 0) dX12_shelfOf_41 rfl rfl ?_
          refine J_iload_n (i := 3) (kk := 3) dX12_shelfOf_42 rfl rfl ?_
          refine J_iconst (v := 1) dX12_shelfOf_43 (by decide) ?_
          refine J_isub dX12_shelfOf_44 ?_
          refine J_iload (i := 5) (kk := 5) dX12_shelfOf_45 rfl ?_
          refine J_callV [.int (a3 - (1 : Int32)), .int a5] [] calX12_may klX12_327 (b := 59) (ci := 12) (by decide) rfl rfl rfl rfl (Nat.le_of_ble_eq_true rfl) dX12_shelfOf_47 (KI.to h ?_)
          clear h
          intro x8 σ7 h
          refine J_if_eq 64 dX12_shelfOf_50 (by decide) (fun hc => ?_) (fun hc => ?_)
          · replace h := h.1 hc
            obtain ⟨x9, ex9⟩ : ∃ y : Int32, y = a5 + 1 := ⟨_, rfl⟩
            replace h := h x9 ex9
            refine J_iinc (i := 5) (kk := 5) (v := x9) (lv' := [(5, .int x9), (0, .ref 59), (1, .int a1), (2, .int a2), (3, .int a3), (4, .int a4)]) dX12_shelfOf_64 rfl (by rw [ex9]; rfl) (by decide) rfl ?_
            refine J_goto (tgt := 6) dX12_shelfOf_67 (by decide) ?_
            refine J_sub [1, 2, 3, 4, 5, 0] rfl ?_
            exact h
          · replace h := h.2 hc
            refine J_iload (i := 4) (kk := 4) dX12_shelfOf_53 rfl ?_
            refine J_aload_n (i := 0) (kk := 0) dX12_shelfOf_55 rfl rfl ?_
            refine J_iload (i := 5) (kk := 5) dX12_shelfOf_56 rfl ?_
            have b10 := h.1
            replace h := h.2
            refine J_callV [.int a5] [.int a4] calX12_onShelf klX12_245 (b := 59) (ci := 12) (by decide) rfl rfl rfl rfl (Nat.le_of_ble_eq_true rfl) dX12_shelfOf_58 (KI.to (S_X12_onShelf a5 b10) ?_)
            rintro x9 s9 ⟨rfl, rfl⟩
            refine J_iadd dX12_shelfOf_61 ?_
            refine J_nameI (fun x11 ex11 => ?_)
            replace h := h x11 ex11
            refine J_istore (i := 4) (lv' := [(4, .int x11), (0, .ref 59), (1, .int a1), (2, .int a2), (3, .int a3), (5, .int a5)]) dX12_shelfOf_62 (by decide) rfl ?_
            obtain ⟨x12, ex12⟩ : ∃ y : Int32, y = a5 + 1 := ⟨_, rfl⟩
            replace h := h x12 ex12
            refine J_iinc (i := 5) (kk := 5) (v := x12) (lv' := [(5, .int x12), (4, .int x11), (0, .ref 59), (1, .int a1), (2, .int a2), (3, .int a3)]) dX12_shelfOf_64 rfl (by rw [ex12]; rfl) (by decide) rfl ?_
            refine J_goto (tgt := 6) dX12_shelfOf_67 (by decide) ?_
            refine J_sub [2, 3, 4, 5, 1, 0] rfl ?_
            exact h
set_option maxHeartbeats 4000000 in
set_option maxRecDepth 100000 in
theorem w_X12_shelfOf_0 {Γ : GG} {l : Launch} {d : Nat} {Q : Option Value → St → Prop} {σ : St} (a1 : Int32) (a2 : Int32) (a3 : Int32) (h : J Γ l (d + 4) mX12_shelfOf Q 6 [(0, .ref 59), (1, .int a1), (2, .int a2), (3, .int a3), (4, .int (0)), (5, .int (0))] [] σ) : J Γ l (d + 4) mX12_shelfOf Q 0 [(0, .ref 59), (1, .int a1), (2, .int a2), (3, .int a3)] [] σ := by
  refine J_iconst (v := 0) dX12_shelfOf_0 (by decide) ?_
  refine J_istore (i := 4) (lv' := [(4, .int (0)), (0, .ref 59), (1, .int a1), (2, .int a2), (3, .int a3)]) dX12_shelfOf_1 (by decide) rfl ?_
  refine J_iconst (v := 0) dX12_shelfOf_3 (by decide) ?_
  refine J_istore (i := 5) (lv' := [(5, .int (0)), (4, .int (0)), (0, .ref 59), (1, .int a1), (2, .int a2), (3, .int a3)]) dX12_shelfOf_4 (by decide) rfl ?_
  refine J_sub [2, 3, 4, 5, 1, 0] rfl ?_
  exact h
theorem M_X12_shelfOf {Γ : GG} {l : Launch} {d : Nat} {Q : Option Value → St → Prop} {σ : St} (a1 : Int32) (a2 : Int32) (a3 : Int32) (k : J Γ l (d + 4) mX12_shelfOf Q 0 [(0, .ref 59), (1, .int a1), (2, .int a2), (3, .int a3)] [] σ) : Meth Γ l (d + 4) mX12_shelfOf [.ref 59, .int a1, .int a2, .int a3] σ Q := Meth_of_J (by decide +kernel) (fun _ => Nat.le_of_ble_eq_true rfl) (fun _ => rfl) k
set_option maxHeartbeats 4000000 in
set_option maxRecDepth 100000 in
theorem w_X12_shelf_0 {Γ : GG} {l : Launch} {d : Nat} {Q : Option Value → St → Prop} {σ : St} (a1 : Int32) (a2 : Int32) (a3 : Int32) (h : ((0 ≤ a1 ∧ a1 ≤ (rd σ 59 2) - (1 : Int32)) ∧ 0 ≤ a2 ∧ a2 ≤ (rd σ 59 6) - (1 : Int32) → ((0 : Int32) ≤ a3 ∧ a3 ≤ (2 : Int32) → Meth Γ l (d + 4) mX12_shelfOf [.ref 59, .int a1, .int a2, .int a3] σ (KI (fun x2 σ1 => Q (some (.int x2)) σ1))) ∧ (¬ ((0 : Int32) ≤ a3 ∧ a3 ≤ (2 : Int32)) → Q (some (.int ((-1)))) σ)) ∧ (¬ ((0 ≤ a1 ∧ a1 ≤ (rd σ 59 2) - (1 : Int32)) ∧ 0 ≤ a2 ∧ a2 ≤ (rd σ 59 6) - (1 : Int32)) → Q (some (.int ((-1)))) σ)) : J Γ l (d + 5) mX12_shelf Q 0 [(0, .ref 59), (1, .int a1), (2, .int a2), (3, .int a3)] [] σ := by
  refine J_aload_n (i := 0) (kk := 0) dX12_shelf_0 rfl rfl ?_
  refine J_iload_n (i := 1) (kk := 1) dX12_shelf_1 rfl rfl ?_
  refine J_iload_n (i := 2) (kk := 2) dX12_shelf_2 rfl rfl ?_
  refine J_callV [.int a1, .int a2] [] calX12_areBoth klX12_223 (b := 59) (ci := 12) (by decide) rfl rfl rfl rfl (Nat.le_of_ble_eq_true rfl) dX12_shelf_3 (KI.to (S_X12_areBoth a1 a2) ?_)
  rintro x9 s9 ⟨rfl, ⟨g4, rfl⟩ | ⟨g4, rfl⟩⟩
  · replace h := h.1 g4
    refine J_if_eq 28 dX12_shelf_6 (by decide) (fun hc => absurd hc (by decide)) (fun _ => ?_)
    refine J_iload_n (i := 3) (kk := 3) dX12_shelf_9 rfl rfl ?_
    refine J_iconst (v := 0) dX12_shelf_10 (by decide) ?_
    refine J_iconst (v := 2) dX12_shelf_11 (by decide) ?_
    refine J_callS [.int a3, .int (0), .int (2)] [] calX12_in klX12_196 rfl rfl (Nat.le_of_ble_eq_true rfl) dX12_shelf_12 (KI.to (S_X12_in a3 (0 : Int32) (2 : Int32)) ?_)
    rintro x9 s9 ⟨rfl, ⟨g3, rfl⟩ | ⟨g3, rfl⟩⟩
    · replace h := h.1 g3
      refine J_if_eq 28 dX12_shelf_15 (by decide) (fun hc => absurd hc (by decide)) (fun _ => ?_)
      refine J_aload_n (i := 0) (kk := 0) dX12_shelf_18 rfl rfl ?_
      refine J_iload_n (i := 1) (kk := 1) dX12_shelf_19 rfl rfl ?_
      refine J_iload_n (i := 2) (kk := 2) dX12_shelf_20 rfl rfl ?_
      refine J_iload_n (i := 3) (kk := 3) dX12_shelf_21 rfl rfl ?_
      refine J_callV [.int a1, .int a2, .int a3] [] calX12_shelfOf klX12_330 (b := 59) (ci := 12) (by decide) rfl rfl rfl rfl (Nat.le_of_ble_eq_true rfl) dX12_shelf_22 (KI.to h ?_)
      clear h
      intro x2 σ1 h
      refine J_goto (tgt := 29) dX12_shelf_25 (by decide) ?_
      exact J_iret rfl dX12_shelf_29 h
    · replace h := h.2 g3
      refine J_if_eq 28 dX12_shelf_15 (by decide) (fun _ => ?_) (fun hc => absurd hc (by decide))
      refine J_iconst (v := (-1)) dX12_shelf_28 (by decide) ?_
      exact J_iret rfl dX12_shelf_29 h
  · replace h := h.2 g4
    refine J_if_eq 28 dX12_shelf_6 (by decide) (fun _ => ?_) (fun hc => absurd hc (by decide))
    refine J_iconst (v := (-1)) dX12_shelf_28 (by decide) ?_
    exact J_iret rfl dX12_shelf_29 h
theorem M_X12_shelf {Γ : GG} {l : Launch} {d : Nat} {Q : Option Value → St → Prop} {σ : St} (a1 : Int32) (a2 : Int32) (a3 : Int32) (k : J Γ l (d + 5) mX12_shelf Q 0 [(0, .ref 59), (1, .int a1), (2, .int a2), (3, .int a3)] [] σ) : Meth Γ l (d + 5) mX12_shelf [.ref 59, .int a1, .int a2, .int a3] σ Q := Meth_of_J (by decide +kernel) (fun _ => Nat.le_of_ble_eq_true rfl) (fun _ => rfl) k

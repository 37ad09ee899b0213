set_option maxHeartbeats 4000000 in
set_option maxRecDepth 100000 in
theorem w_X11_shop_0 {Γ : GG} {l : Launch} {d : Nat} {Q : Option Value → St → Prop} {σ : St} (a1 : Int32) (h : (0 ≤ a1 ∧ a1 < (10000 : Int32) → Meth Γ l d mX7_add [.ref 5, .int a1] σ (KI (fun x2 σ1 => Q (some (.int x2)) σ1))) ∧ (¬ (0 ≤ a1 ∧ a1 < (10000 : Int32)) → Q (some (.int ((-1)))) σ)) : J Γ l (d + 1) mX11_shop Q 0 [(0, .ref 0), (1, .int a1)] [] σ := by
  refine J_iload_n (i := 1) (kk := 1) dX11_shop_0 rfl rfl ?_
  refine J_sipush (v := 10000) dX11_shop_1 (by decide) ?_
  refine J_callS [.int a1, .int (10000)] [] calX11_isBelow klX11_99 rfl rfl (Nat.le_of_ble_eq_true rfl) dX11_shop_4 (KI.to (S_X11_isBelow a1 (10000 : Int32)) ?_)
  rintro x9 s9 ⟨rfl, ⟨g3, rfl⟩ | ⟨g3, rfl⟩⟩
  · replace h := h.1 g3
    refine J_if_ne 12 dX11_shop_7 (by decide) (fun _ => ?_) (fun hc => absurd hc (by decide))
    refine J_aload_n (i := 0) (kk := 0) dX11_shop_12 rfl rfl ?_
    refine J_getR 4 (q := 0) (ci := 11) (kf := 1) kfX11_19 uxX11 rfl (by decide) rfl (by decide) rfl dX11_shop_13 ?_
    refine J_getR 5 (q := 4) (ci := 9) (kf := 0) kfX11_103 uxX9 rfl (by decide) rfl (by decide) rfl dX11_shop_16 ?_
    refine J_iload_n (i := 1) (kk := 1) dX11_shop_19 rfl rfl ?_
    refine J_callV [.int a1] [] calX7_add klX11_106 (b := 5) (ci := 7) (by decide) rfl rfl rfl rfl (Nat.le_of_ble_eq_true rfl) dX11_shop_20 (KI.to h ?_)
    clear h
    intro x2 σ1 h
    exact J_iret rfl dX11_shop_23 h
  · replace h := h.2 g3
    refine J_if_ne 12 dX11_shop_7 (by decide) (fun hc => absurd hc (by decide)) (fun _ => ?_)
    refine J_iconst (v := (-1)) dX11_shop_10 (by decide) ?_
    exact J_iret rfl dX11_shop_11 h
theorem M_X11_shop {Γ : GG} {l : Launch} {d : Nat} {Q : Option Value → St → Prop} {σ : St} (a1 : Int32) (k : J Γ l (d + 1) mX11_shop Q 0 [(0, .ref 0), (1, .int a1)] [] σ) : Meth Γ l (d + 1) mX11_shop [.ref 0, .int a1] σ Q := Meth_of_J (by decide +kernel) (fun _ => Nat.le_of_ble_eq_true rfl) (fun _ => rfl) k
set_option maxHeartbeats 4000000 in
set_option maxRecDepth 100000 in
theorem w_X11_kind_0 {Γ : GG} {l : Launch} {d : Nat} {Q : Option Value → St → Prop} {σ : St} (a1 : Int32) (a2 : Int32) (a3 : Int32) (a4 : Int32) (h : ((1 : Int32) ≤ a1 ∧ a1 ≤ (9999 : Int32) → ((0 : Int32) ≤ a2 ∧ a2 ≤ (9999 : Int32) → ((1 : Int32) ≤ a3 ∧ a3 ≤ (9999 : Int32) → ((0 : Int32) ≤ a4 ∧ a4 ≤ (1 : Int32) → Meth Γ l d mX5_add [.ref 11, .int a1, .int a2, .int a3, .int a4] σ (KI (fun x2 σ1 => Q (some (.int x2)) σ1))) ∧ (¬ ((0 : Int32) ≤ a4 ∧ a4 ≤ (1 : Int32)) → Q (some (.int ((-1)))) σ)) ∧ (¬ ((1 : Int32) ≤ a3 ∧ a3 ≤ (9999 : Int32)) → Q (some (.int ((-1)))) σ)) ∧ (¬ ((0 : Int32) ≤ a2 ∧ a2 ≤ (9999 : Int32)) → Q (some (.int ((-1)))) σ)) ∧ (¬ ((1 : Int32) ≤ a1 ∧ a1 ≤ (9999 : Int32)) → Q (some (.int ((-1)))) σ)) : J Γ l (d + 1) mX11_kind Q 0 [(0, .ref 0), (1, .int a1), (2, .int a2), (3, .int a3), (4, .int a4)] [] σ := by
  refine J_iconst (v := 1) dX11_kind_0 (by decide) ?_
  refine J_iload_n (i := 1) (kk := 1) dX11_kind_1 rfl rfl ?_
  refine J_sipush (v := 9999) dX11_kind_2 (by decide) ?_
  refine J_callS [.int (1), .int a1, .int (9999)] [] calX11_isFrom klX11_110 rfl rfl (Nat.le_of_ble_eq_true rfl) dX11_kind_5 (KI.to (S_X11_isFrom (1 : Int32) a1 (9999 : Int32)) ?_)
  rintro x9 s9 ⟨rfl, ⟨g6, rfl⟩ | ⟨g6, rfl⟩⟩
  · replace h := h.1 g6
    refine J_if_eq 22 dX11_kind_8 (by decide) (fun hc => absurd hc (by decide)) (fun _ => ?_)
    refine J_iconst (v := 0) dX11_kind_11 (by decide) ?_
    refine J_iload_n (i := 2) (kk := 2) dX11_kind_12 rfl rfl ?_
    refine J_sipush (v := 9999) dX11_kind_13 (by decide) ?_
    refine J_callS [.int (0), .int a2, .int (9999)] [] calX11_isFrom klX11_110 rfl rfl (Nat.le_of_ble_eq_true rfl) dX11_kind_16 (KI.to (S_X11_isFrom (0 : Int32) a2 (9999 : Int32)) ?_)
    rintro x9 s9 ⟨rfl, ⟨g5, rfl⟩ | ⟨g5, rfl⟩⟩
    · replace h := h.1 g5
      refine J_if_ne 24 dX11_kind_19 (by decide) (fun _ => ?_) (fun hc => absurd hc (by decide))
      refine J_iconst (v := 1) dX11_kind_24 (by decide) ?_
      refine J_iload_n (i := 3) (kk := 3) dX11_kind_25 rfl rfl ?_
      refine J_sipush (v := 9999) dX11_kind_26 (by decide) ?_
      refine J_callS [.int (1), .int a3, .int (9999)] [] calX11_isFrom klX11_110 rfl rfl (Nat.le_of_ble_eq_true rfl) dX11_kind_29 (KI.to (S_X11_isFrom (1 : Int32) a3 (9999 : Int32)) ?_)
      rintro x9 s9 ⟨rfl, ⟨g4, rfl⟩ | ⟨g4, rfl⟩⟩
      · replace h := h.1 g4
        refine J_if_eq 45 dX11_kind_32 (by decide) (fun hc => absurd hc (by decide)) (fun _ => ?_)
        refine J_iconst (v := 0) dX11_kind_35 (by decide) ?_
        refine J_iload (i := 4) (kk := 4) dX11_kind_36 rfl ?_
        refine J_iconst (v := 1) dX11_kind_38 (by decide) ?_
        refine J_callS [.int (0), .int a4, .int (1)] [] calX11_isFrom klX11_110 rfl rfl (Nat.le_of_ble_eq_true rfl) dX11_kind_39 (KI.to (S_X11_isFrom (0 : Int32) a4 (1 : Int32)) ?_)
        rintro x9 s9 ⟨rfl, ⟨g3, rfl⟩ | ⟨g3, rfl⟩⟩
        · replace h := h.1 g3
          refine J_if_ne 47 dX11_kind_42 (by decide) (fun _ => ?_) (fun hc => absurd hc (by decide))
          refine J_aload_n (i := 0) (kk := 0) dX11_kind_47 rfl rfl ?_
          refine J_getR 11 (q := 0) (ci := 11) (kf := 2) kfX11_26 uxX11 rfl (by decide) rfl (by decide) rfl dX11_kind_48 ?_
          refine J_iload_n (i := 1) (kk := 1) dX11_kind_51 rfl rfl ?_
          refine J_iload_n (i := 2) (kk := 2) dX11_kind_52 rfl rfl ?_
          refine J_iload_n (i := 3) (kk := 3) dX11_kind_53 rfl rfl ?_
          refine J_iload (i := 4) (kk := 4) dX11_kind_54 rfl ?_
          refine J_callV [.int a1, .int a2, .int a3, .int a4] [] calX5_add klX11_114 (b := 11) (ci := 5) (by decide) rfl rfl rfl rfl (Nat.le_of_ble_eq_true rfl) dX11_kind_56 (KI.to h ?_)
          clear h
          intro x2 σ1 h
          exact J_iret rfl dX11_kind_59 h
        · replace h := h.2 g3
          refine J_if_ne 47 dX11_kind_42 (by decide) (fun hc => absurd hc (by decide)) (fun _ => ?_)
          refine J_iconst (v := (-1)) dX11_kind_45 (by decide) ?_
          exact J_iret rfl dX11_kind_46 h
      · replace h := h.2 g4
        refine J_if_eq 45 dX11_kind_32 (by decide) (fun _ => ?_) (fun hc => absurd hc (by decide))
        refine J_iconst (v := (-1)) dX11_kind_45 (by decide) ?_
        exact J_iret rfl dX11_kind_46 h
    · replace h := h.2 g5
      refine J_if_ne 24 dX11_kind_19 (by decide) (fun hc => absurd hc (by decide)) (fun _ => ?_)
      refine J_iconst (v := (-1)) dX11_kind_22 (by decide) ?_
      exact J_iret rfl dX11_kind_23 h
  · replace h := h.2 g6
    refine J_if_eq 22 dX11_kind_8 (by decide) (fun _ => ?_) (fun hc => absurd hc (by decide))
    refine J_iconst (v := (-1)) dX11_kind_22 (by decide) ?_
    exact J_iret rfl dX11_kind_23 h
theorem M_X11_kind {Γ : GG} {l : Launch} {d : Nat} {Q : Option Value → St → Prop} {σ : St} (a1 : Int32) (a2 : Int32) (a3 : Int32) (a4 : Int32) (k : J Γ l (d + 1) mX11_kind Q 0 [(0, .ref 0), (1, .int a1), (2, .int a2), (3, .int a3), (4, .int a4)] [] σ) : Meth Γ l (d + 1) mX11_kind [.ref 0, .int a1, .int a2, .int a3, .int a4] σ Q := Meth_of_J (by decide +kernel) (fun _ => Nat.le_of_ble_eq_true rfl) (fun _ => rfl) k
set_option maxHeartbeats 4000000 in
set_option maxRecDepth 100000 in
theorem w_X11_priceAt_0 {Γ : GG} {l : Launch} {d : Nat} {Q : Option Value → St → Prop} {σ : St} (a1 : Int32) (a2 : Int32) (h : (0 ≤ a1 ∧ a1 < (rd σ 11 5) → (0 ≤ a2 ∧ a2 < (4 : Int32) → vp_in a1 10 ∧ Q (some (.int (((rd σ 12 a1.toNatClampNeg) * ((4 : Int32) - a2)) / (4 : Int32)))) σ) ∧ (¬ (0 ≤ a2 ∧ a2 < (4 : Int32)) → Q (some (.int ((-1)))) σ)) ∧ (¬ (0 ≤ a1 ∧ a1 < (rd σ 11 5)) → Q (some (.int ((-1)))) σ)) : J Γ l (d + 2) mX11_priceAt Q 0 [(0, .ref 0), (1, .int a1), (2, .int a2)] [] σ := by
  refine J_aload_n (i := 0) (kk := 0) dX11_priceAt_0 rfl rfl ?_
  refine J_getR 11 (q := 0) (ci := 11) (kf := 2) kfX11_26 uxX11 rfl (by decide) rfl (by decide) rfl dX11_priceAt_1 ?_
  refine J_iload_n (i := 1) (kk := 1) dX11_priceAt_4 rfl rfl ?_
  refine J_callV [.int a1] [] calX5_has klX11_117 (b := 11) (ci := 5) (by decide) rfl rfl rfl rfl (Nat.le_of_ble_eq_true rfl) dX11_priceAt_5 (KI.to (S_X5_has a1) ?_)
  rintro x9 s9 ⟨rfl, ⟨g3, rfl⟩ | ⟨g3, rfl⟩⟩
  · replace h := h.1 g3
    refine J_if_eq 19 dX11_priceAt_8 (by decide) (fun hc => absurd hc (by decide)) (fun _ => ?_)
    refine J_iload_n (i := 2) (kk := 2) dX11_priceAt_11 rfl rfl ?_
    refine J_iconst (v := 4) dX11_priceAt_12 (by decide) ?_
    refine J_callS [.int a2, .int (4)] [] calX11_isBelow klX11_99 rfl rfl (Nat.le_of_ble_eq_true rfl) dX11_priceAt_13 (KI.to (S_X11_isBelow a2 (4 : Int32)) ?_)
    rintro x9 s9 ⟨rfl, ⟨g2, rfl⟩ | ⟨g2, rfl⟩⟩
    · replace h := h.1 g2
      refine J_if_ne 21 dX11_priceAt_16 (by decide) (fun _ => ?_) (fun hc => absurd hc (by decide))
      refine J_aload_n (i := 0) (kk := 0) dX11_priceAt_21 rfl rfl ?_
      refine J_getR 11 (q := 0) (ci := 11) (kf := 2) kfX11_26 uxX11 rfl (by decide) rfl (by decide) rfl dX11_priceAt_22 ?_
      refine J_iload_n (i := 1) (kk := 1) dX11_priceAt_25 rfl rfl ?_
      refine J_iload_n (i := 2) (kk := 2) dX11_priceAt_26 rfl rfl ?_
      have b1 := h.1
      replace h := h.2
      refine J_callV [.int a1, .int a2] [] calX5_coinsAt klX11_121 (b := 11) (ci := 5) (by decide) rfl rfl rfl rfl (Nat.le_of_ble_eq_true rfl) dX11_priceAt_27 (KI.to (S_X5_coinsAt a1 a2 b1) ?_)
      rintro x9 s9 ⟨rfl, rfl⟩
      exact J_iret rfl dX11_priceAt_30 h
    · replace h := h.2 g2
      refine J_if_ne 21 dX11_priceAt_16 (by decide) (fun hc => absurd hc (by decide)) (fun _ => ?_)
      refine J_iconst (v := (-1)) dX11_priceAt_19 (by decide) ?_
      exact J_iret rfl dX11_priceAt_20 h
  · replace h := h.2 g3
    refine J_if_eq 19 dX11_priceAt_8 (by decide) (fun _ => ?_) (fun hc => absurd hc (by decide))
    refine J_iconst (v := (-1)) dX11_priceAt_19 (by decide) ?_
    exact J_iret rfl dX11_priceAt_20 h
theorem M_X11_priceAt {Γ : GG} {l : Launch} {d : Nat} {Q : Option Value → St → Prop} {σ : St} (a1 : Int32) (a2 : Int32) (k : J Γ l (d + 2) mX11_priceAt Q 0 [(0, .ref 0), (1, .int a1), (2, .int a2)] [] σ) : Meth Γ l (d + 2) mX11_priceAt [.ref 0, .int a1, .int a2] σ Q := Meth_of_J (by decide +kernel) (fun _ => Nat.le_of_ble_eq_true rfl) (fun _ => rfl) k
set_option maxHeartbeats 4000000 in
set_option maxRecDepth 100000 in
theorem w_X11_throwing_0 {Γ : GG} {l : Launch} {d : Nat} {Q : Option Value → St → Prop} {σ : St} (a1 : Int32) (a2 : Int32) (h : (0 ≤ a1 ∧ a1 < (rd σ 11 5) → ((0 : Int32) ≤ a2 ∧ a2 ≤ (9999 : Int32) → vp_in a1 10 ∧ Q (some (.int (rd σ 16 (a1.toNatClampNeg)))) (wr σ 16 (a1.toNatClampNeg) a2)) ∧ (¬ ((0 : Int32) ≤ a2 ∧ a2 ≤ (9999 : Int32)) → Q (some (.int ((-1)))) σ)) ∧ (¬ (0 ≤ a1 ∧ a1 < (rd σ 11 5)) → Q (some (.int ((-1)))) σ)) : J Γ l (d + 2) mX11_throwing Q 0 [(0, .ref 0), (1, .int a1), (2, .int a2)] [] σ := by
  refine J_aload_n (i := 0) (kk := 0) dX11_throwing_0 rfl rfl ?_
  refine J_getR 11 (q := 0) (ci := 11) (kf := 2) kfX11_26 uxX11 rfl (by decide) rfl (by decide) rfl dX11_throwing_1 ?_
  refine J_iload_n (i := 1) (kk := 1) dX11_throwing_4 rfl rfl ?_
  refine J_callV [.int a1] [] calX5_has klX11_117 (b := 11) (ci := 5) (by decide) rfl rfl rfl rfl (Nat.le_of_ble_eq_true rfl) dX11_throwing_5 (KI.to (S_X5_has a1) ?_)
  rintro x9 s9 ⟨rfl, ⟨g3, rfl⟩ | ⟨g3, rfl⟩⟩
  · replace h := h.1 g3
    refine J_if_eq 22 dX11_throwing_8 (by decide) (fun hc => absurd hc (by decide)) (fun _ => ?_)
    refine J_iconst (v := 0) dX11_throwing_11 (by decide) ?_
    refine J_iload_n (i := 2) (kk := 2) dX11_throwing_12 rfl rfl ?_
    refine J_sipush (v := 9999) dX11_throwing_13 (by decide) ?_
    refine J_callS [.int (0), .int a2, .int (9999)] [] calX11_isFrom klX11_110 rfl rfl (Nat.le_of_ble_eq_true rfl) dX11_throwing_16 (KI.to (S_X11_isFrom (0 : Int32) a2 (9999 : Int32)) ?_)
    rintro x9 s9 ⟨rfl, ⟨g2, rfl⟩ | ⟨g2, rfl⟩⟩
    · replace h := h.1 g2
      refine J_if_ne 24 dX11_throwing_19 (by decide) (fun _ => ?_) (fun hc => absurd hc (by decide))
      refine J_aload_n (i := 0) (kk := 0) dX11_throwing_24 rfl rfl ?_
      refine J_getR 11 (q := 0) (ci := 11) (kf := 2) kfX11_26 uxX11 rfl (by decide) rfl (by decide) rfl dX11_throwing_25 ?_
      refine J_getR 16 (q := 11) (ci := 5) (kf := 4) kfX11_125 uxX5 rfl (by decide) rfl (by decide) rfl dX11_throwing_28 ?_
      refine J_iload_n (i := 1) (kk := 1) dX11_throwing_31 rfl rfl ?_
      have b1 := h.1
      replace h := h.2
      refine J_ald (a1.toNatClampNeg) rfl (by decide) rfl b1 dX11_throwing_32 ?_
      refine J_istore_n (i := 3) (lv' := [(3, .int (rd σ 16 (a1.toNatClampNeg))), (0, .ref 0), (1, .int a1), (2, .int a2)]) dX11_throwing_33 rfl (by decide) rfl ?_
      refine J_aload_n (i := 0) (kk := 1) dX11_throwing_34 rfl rfl ?_
      refine J_getR 11 (q := 0) (ci := 11) (kf := 2) kfX11_26 uxX11 rfl (by decide) rfl (by decide) rfl dX11_throwing_35 ?_
      refine J_getR 16 (q := 11) (ci := 5) (kf := 4) kfX11_125 uxX5 rfl (by decide) rfl (by decide) rfl dX11_throwing_38 ?_
      refine J_iload_n (i := 1) (kk := 2) dX11_throwing_41 rfl rfl ?_
      refine J_iload_n (i := 2) (kk := 3) dX11_throwing_42 rfl rfl ?_
      refine J_ast (a1.toNatClampNeg) rfl (by decide) rfl b1 dX11_throwing_43 ?_
      refine J_iload_n (i := 3) (kk := 0) dX11_throwing_44 rfl rfl ?_
      exact J_iret rfl dX11_throwing_45 h
    · replace h := h.2 g2
      refine J_if_ne 24 dX11_throwing_19 (by decide) (fun hc => absurd hc (by decide)) (fun _ => ?_)
      refine J_iconst (v := (-1)) dX11_throwing_22 (by decide) ?_
      exact J_iret rfl dX11_throwing_23 h
  · replace h := h.2 g3
    refine J_if_eq 22 dX11_throwing_8 (by decide) (fun _ => ?_) (fun hc => absurd hc (by decide))
    refine J_iconst (v := (-1)) dX11_throwing_22 (by decide) ?_
    exact J_iret rfl dX11_throwing_23 h
theorem M_X11_throwing {Γ : GG} {l : Launch} {d : Nat} {Q : Option Value → St → Prop} {σ : St} (a1 : Int32) (a2 : Int32) (k : J Γ l (d + 2) mX11_throwing Q 0 [(0, .ref 0), (1, .int a1), (2, .int a2)] [] σ) : Meth Γ l (d + 2) mX11_throwing [.ref 0, .int a1, .int a2] σ Q := Meth_of_J (by decide +kernel) (fun _ => Nat.le_of_ble_eq_true rfl) (fun _ => rfl) k
set_option maxHeartbeats 4000000 in
set_option maxRecDepth 100000 in
theorem w_X11_weather_0 {Γ : GG} {l : Launch} {d : Nat} {Q : Option Value → St → Prop} {σ : St} (a1 : Int32) (a2 : Int32) (h : (0 ≤ a1 ∧ a1 < (1500 : Int32) → (0 ≤ a2 ∧ a2 < (3 : Int32) → vp_in a1 1500 ∧ Q (some (.int (rd σ 2 (a1.toNatClampNeg)))) (wr σ 2 (a1.toNatClampNeg) a2)) ∧ (¬ (0 ≤ a2 ∧ a2 < (3 : Int32)) → Q (some (.int ((-1)))) σ)) ∧ (¬ (0 ≤ a1 ∧ a1 < (1500 : Int32)) → Q (some (.int ((-1)))) σ)) : J Γ l (d + 1) mX11_weather Q 0 [(0, .ref 0), (1, .int a1), (2, .int a2)] [] σ := by
  refine J_iload_n (i := 1) (kk := 1) dX11_weather_0 rfl rfl ?_
  refine J_sipush (v := 1500) dX11_weather_1 (by decide) ?_
  refine J_callS [.int a1, .int (1500)] [] calX11_isBelow klX11_99 rfl rfl (Nat.le_of_ble_eq_true rfl) dX11_weather_4 (KI.to (S_X11_isBelow a1 (1500 : Int32)) ?_)
  rintro x9 s9 ⟨rfl, ⟨g3, rfl⟩ | ⟨g3, rfl⟩⟩
  · replace h := h.1 g3
    refine J_if_eq 18 dX11_weather_7 (by decide) (fun hc => absurd hc (by decide)) (fun _ => ?_)
    refine J_iload_n (i := 2) (kk := 2) dX11_weather_10 rfl rfl ?_
    refine J_iconst (v := 3) dX11_weather_11 (by decide) ?_
    refine J_callS [.int a2, .int (3)] [] calX11_isBelow klX11_99 rfl rfl (Nat.le_of_ble_eq_true rfl) dX11_weather_12 (KI.to (S_X11_isBelow a2 (3 : Int32)) ?_)
    rintro x9 s9 ⟨rfl, ⟨g2, rfl⟩ | ⟨g2, rfl⟩⟩
    · replace h := h.1 g2
      refine J_if_ne 20 dX11_weather_15 (by decide) (fun _ => ?_) (fun hc => absurd hc (by decide))
      refine J_aload_n (i := 0) (kk := 0) dX11_weather_20 rfl rfl ?_
      refine J_getR 1 (q := 0) (ci := 11) (kf := 0) kfX11_10 uxX11 rfl (by decide) rfl (by decide) rfl dX11_weather_21 ?_
      refine J_getR 2 (q := 1) (ci := 3) (kf := 0) kfX11_128 uxX3 rfl (by decide) rfl (by decide) rfl dX11_weather_24 ?_
      refine J_iload_n (i := 1) (kk := 1) dX11_weather_27 rfl rfl ?_
      have b1 := h.1
      replace h := h.2
      refine J_ald (a1.toNatClampNeg) rfl (by decide) rfl b1 dX11_weather_28 ?_
      refine J_istore_n (i := 3) (lv' := [(3, .int (rd σ 2 (a1.toNatClampNeg))), (0, .ref 0), (1, .int a1), (2, .int a2)]) dX11_weather_29 rfl (by decide) rfl ?_
      refine J_aload_n (i := 0) (kk := 1) dX11_weather_30 rfl rfl ?_
      refine J_getR 1 (q := 0) (ci := 11) (kf := 0) kfX11_10 uxX11 rfl (by decide) rfl (by decide) rfl dX11_weather_31 ?_
      refine J_getR 2 (q := 1) (ci := 3) (kf := 0) kfX11_128 uxX3 rfl (by decide) rfl (by decide) rfl dX11_weather_34 ?_
      refine J_iload_n (i := 1) (kk := 2) dX11_weather_37 rfl rfl ?_
      refine J_iload_n (i := 2) (kk := 3) dX11_weather_38 rfl rfl ?_
      refine J_ast (a1.toNatClampNeg) rfl (by decide) rfl b1 dX11_weather_39 ?_
      refine J_iload_n (i := 3) (kk := 0) dX11_weather_40 rfl rfl ?_
      exact J_iret rfl dX11_weather_41 h
    · replace h := h.2 g2
      refine J_if_ne 20 dX11_weather_15 (by decide) (fun hc => absurd hc (by decide)) (fun _ => ?_)
      refine J_iconst (v := (-1)) dX11_weather_18 (by decide) ?_
      exact J_iret rfl dX11_weather_19 h
  · replace h := h.2 g3
    refine J_if_eq 18 dX11_weather_7 (by decide) (fun _ => ?_) (fun hc => absurd hc (by decide))
    refine J_iconst (v := (-1)) dX11_weather_18 (by decide) ?_
    exact J_iret rfl dX11_weather_19 h
theorem M_X11_weather {Γ : GG} {l : Launch} {d : Nat} {Q : Option Value → St → Prop} {σ : St} (a1 : Int32) (a2 : Int32) (k : J Γ l (d + 1) mX11_weather Q 0 [(0, .ref 0), (1, .int a1), (2, .int a2)] [] σ) : Meth Γ l (d + 1) mX11_weather [.ref 0, .int a1, .int a2] σ Q := Meth_of_J (by decide +kernel) (fun _ => Nat.le_of_ble_eq_true rfl) (fun _ => rfl) k
set_option maxHeartbeats 4000000 in
set_option maxRecDepth 100000 in
theorem w_X11_hours_29 {Γ : GG} {l : Launch} {d : Nat} {Q : Option Value → St → Prop} {σ : St} (a1 : Int32) (a2 : Int32) (h : (a1 ≤ a2 → Q (some (.int (rd σ 1 2))) σ) ∧ (¬ a1 ≤ a2 → ((((rd σ 1 2) + (1 : Int32))) - (((rd σ 1 2) + (1 : Int32))) / (24 : Int32) * (24 : Int32) = (0 : Int32) → Meth Γ l (d + 5) mX11_beginDay [.ref 0] (wr σ 1 2 ((rd σ 1 2) + (1 : Int32))) (KV (fun σ2 => ∀ x3 : Int32, x3 = a2 + 1 → J Γ l (d + 6) mX11_hours Q 29 [(0, .ref 0), (1, .int a1), (2, .int x3)] [] σ2))) ∧ (¬ (((rd σ 1 2) + (1 : Int32))) - (((rd σ 1 2) + (1 : Int32))) / (24 : Int32) * (24 : Int32) = (0 : Int32) → ∀ x1 : Int32, x1 = a2 + 1 → J Γ l (d + 6) mX11_hours Q 29 [(0, .ref 0), (1, .int a1), (2, .int x1)] [] (wr σ 1 2 ((rd σ 1 2) + (1 : Int32)))))) : J Γ l (d + 6) mX11_hours Q 29 [(0, .ref 0), (1, .int a1), (2, .int a2)] [] σ := by
  refine J_iload_n (i := 2) (kk := 2) dX11_hours_29 rfl rfl ?_
  refine J_iload_n (i := 1) (kk := 1) dX11_hours_30 rfl rfl ?_
  refine J_icmp_ge 67 dX11_hours_31 (by decide) (fun hc => ?_) (fun hc => ?_)
  · replace h := h.1 hc
    refine J_aload_n (i := 0) (kk := 0) dX11_hours_67 rfl rfl ?_
    refine J_getR 1 (q := 0) (ci := 11) (kf := 0) kfX11_10 uxX11 rfl (by decide) rfl (by decide) rfl dX11_hours_68 ?_
    refine J_getI (q := 1) (ci := 3) (kf := 2) kfX11_132 uxX3 rfl (by decide) rfl (by decide) rfl dX11_hours_71 ?_
    exact J_iret rfl dX11_hours_74 h
  · replace h := h.2 hc
    refine J_aload_n (i := 0) (kk := 0) dX11_hours_34 rfl rfl ?_
    refine J_getR 1 (q := 0) (ci := 11) (kf := 0) kfX11_10 uxX11 rfl (by decide) rfl (by decide) rfl dX11_hours_35 ?_
    refine J_dup dX11_hours_38 rfl ?_
    refine J_getI (q := 1) (ci := 3) (kf := 2) kfX11_132 uxX3 rfl (by decide) rfl (by decide) rfl dX11_hours_39 ?_
    refine J_iconst (v := 1) dX11_hours_42 (by decide) ?_
    refine J_iadd dX11_hours_43 ?_
    refine J_putf (q := 1) (ci := 3) (kf := 2) (ty := .int) kfX11_132 uxX3 tyX3_ok nmX3 rfl (by decide) rfl (by decide) rfl rfl rfl rfl rfl dX11_hours_44 ?_
    refine J_aload_n (i := 0) (kk := 0) dX11_hours_47 rfl rfl ?_
    refine J_getR 1 (q := 0) (ci := 11) (kf := 0) kfX11_10 uxX11 rfl (by decide) rfl (by decide) rfl dX11_hours_48 ?_
    refine J_callV [] [] calX3_hourOfDay klX11_135 (b := 1) (ci := 3) (by decide) rfl rfl rfl rfl (Nat.le_of_ble_eq_true rfl) dX11_hours_51 (KI.to (S_X3_hourOfDay) ?_)
    rintro x9 s9 ⟨rfl, rfl⟩
    refine J_eqI (y := (((rd σ 1 2) + (1 : Int32))) - (((rd σ 1 2) + (1 : Int32))) / (24 : Int32) * (24 : Int32)) rfl ?_
    refine J_if_ne 61 dX11_hours_54 (by decide) (fun hc => ?_) (fun hc => ?_)
    · replace h := h.2 hc
      obtain ⟨x1, ex1⟩ : ∃ y : Int32, y = a2 + 1 := ⟨_, rfl⟩
      replace h := h x1 ex1
      refine J_iinc (i := 2) (kk := 2) (v := x1) (lv' := [(2, .int x1), (0, .ref 0), (1, .int a1)]) dX11_hours_61 rfl (by rw [ex1]; rfl) (by decide) rfl ?_
      refine J_goto (tgt := 29) dX11_hours_64 (by decide) ?_
      refine J_sub [1, 2, 0] rfl ?_
      exact h
    · replace h := h.1 hc
      refine J_aload_n (i := 0) (kk := 0) dX11_hours_57 rfl rfl ?_
      refine J_callV [] [] calX11_beginDay klX11_139 (b := 0) (ci := 11) (by decide) rfl rfl rfl rfl (Nat.le_of_ble_eq_true rfl) dX11_hours_58 (KV.to h ?_)
      clear h
      intro σ2 h
      obtain ⟨x3, ex3⟩ : ∃ y : Int32, y = a2 + 1 := ⟨_, rfl⟩
      replace h := h x3 ex3
      refine J_iinc (i := 2) (kk := 2) (v := x3) (lv' := [(2, .int x3), (0, .ref 0), (1, .int a1)]) dX11_hours_61 rfl (by rw [ex3]; rfl) (by decide) rfl ?_
      refine J_goto (tgt := 29) dX11_hours_64 (by decide) ?_
      refine J_sub [1, 2, 0] rfl ?_
      exact h
set_option maxHeartbeats 4000000 in
set_option maxRecDepth 100000 in
theorem w_X11_hours_0 {Γ : GG} {l : Launch} {d : Nat} {Q : Option Value → St → Prop} {σ : St} (a1 : Int32) (h : ((1 : Int32) ≤ a1 ∧ a1 ≤ (240 : Int32) → (a1 ≤ (35999 : Int32) - (rd σ 1 2) → J Γ l (d + 6) mX11_hours Q 29 [(0, .ref 0), (1, .int a1), (2, .int (0))] [] σ) ∧ (¬ a1 ≤ (35999 : Int32) - (rd σ 1 2) → Q (some (.int ((-1)))) σ)) ∧ (¬ ((1 : Int32) ≤ a1 ∧ a1 ≤ (240 : Int32)) → Q (some (.int ((-1)))) σ)) : J Γ l (d + 6) mX11_hours Q 0 [(0, .ref 0), (1, .int a1)] [] σ := by
  refine J_iconst (v := 1) dX11_hours_0 (by decide) ?_
  refine J_iload_n (i := 1) (kk := 1) dX11_hours_1 rfl rfl ?_
  refine J_sipush (v := 240) dX11_hours_2 (by decide) ?_
  refine J_callS [.int (1), .int a1, .int (240)] [] calX11_isFrom klX11_110 rfl rfl (Nat.le_of_ble_eq_true rfl) dX11_hours_5 (KI.to (S_X11_isFrom (1 : Int32) a1 (240 : Int32)) ?_)
  rintro x9 s9 ⟨rfl, ⟨g1, rfl⟩ | ⟨g1, rfl⟩⟩
  · replace h := h.1 g1
    refine J_if_eq 25 dX11_hours_8 (by decide) (fun hc => absurd hc (by decide)) (fun _ => ?_)
    refine J_iload_n (i := 1) (kk := 1) dX11_hours_11 rfl rfl ?_
    refine J_ldc (v := 35999) kcX11_131 dX11_hours_12 ?_
    refine J_aload_n (i := 0) (kk := 0) dX11_hours_14 rfl rfl ?_
    refine J_getR 1 (q := 0) (ci := 11) (kf := 0) kfX11_10 uxX11 rfl (by decide) rfl (by decide) rfl dX11_hours_15 ?_
    refine J_getI (q := 1) (ci := 3) (kf := 2) kfX11_132 uxX3 rfl (by decide) rfl (by decide) rfl dX11_hours_18 ?_
    refine J_isub dX11_hours_21 ?_
    refine J_icmp_le 27 dX11_hours_22 (by decide) (fun hc => ?_) (fun hc => ?_)
    · replace h := h.1 hc
      refine J_iconst (v := 0) dX11_hours_27 (by decide) ?_
      refine J_istore_n (i := 2) (lv' := [(2, .int (0)), (0, .ref 0), (1, .int a1)]) dX11_hours_28 rfl (by decide) rfl ?_
      refine J_sub [1, 2, 0] rfl ?_
      exact h
    · replace h := h.2 hc
      refine J_iconst (v := (-1)) dX11_hours_25 (by decide) ?_
      exact J_iret rfl dX11_hours_26 h
  · replace h := h.2 g1
    refine J_if_eq 25 dX11_hours_8 (by decide) (fun _ => ?_) (fun hc => absurd hc (by decide))
    refine J_iconst (v := (-1)) dX11_hours_25 (by decide) ?_
    exact J_iret rfl dX11_hours_26 h
theorem M_X11_hours {Γ : GG} {l : Launch} {d : Nat} {Q : Option Value → St → Prop} {σ : St} (a1 : Int32) (k : J Γ l (d + 6) mX11_hours Q 0 [(0, .ref 0), (1, .int a1)] [] σ) : Meth Γ l (d + 6) mX11_hours [.ref 0, .int a1] σ Q := Meth_of_J (by decide +kernel) (fun _ => Nat.le_of_ble_eq_true rfl) (fun _ => rfl) k
set_option maxHeartbeats 4000000 in
set_option maxRecDepth 100000 in
theorem w_X11_cut_0 {Γ : GG} {l : Launch} {d : Nat} {Q : Option Value → St → Prop} {σ : St} (a1 : Int32) (a2 : Int32) (a3 : Int32) (h : ((0 ≤ a1 ∧ a1 < (rd σ 5 1)) ∧ 0 ≤ a2 ∧ a2 < (rd σ 11 5) → (0 ≤ a3 ∧ a3 < (4 : Int32) → vp_in a1 12 ∧ vp_in a2 10 ∧ ∀ x3 : Int32, x3 = rd σ ((a1.toNatClampNeg) + 118) (a2.toNatClampNeg) → (x3 < a3 → Q (some (.int x3)) (wr σ ((a1.toNatClampNeg) + 118) (a2.toNatClampNeg) a3)) ∧ (¬ x3 < a3 → Q (some (.int ((-2)))) σ)) ∧ (¬ (0 ≤ a3 ∧ a3 < (4 : Int32)) → Q (some (.int ((-1)))) σ)) ∧ (¬ ((0 ≤ a1 ∧ a1 < (rd σ 5 1)) ∧ 0 ≤ a2 ∧ a2 < (rd σ 11 5)) → Q (some (.int ((-1)))) σ)) : J Γ l (d + 3) mX11_cut Q 0 [(0, .ref 0), (1, .int a1), (2, .int a2), (3, .int a3)] [] σ := by
  refine J_aload_n (i := 0) (kk := 0) dX11_cut_0 rfl rfl ?_
  refine J_iload_n (i := 1) (kk := 1) dX11_cut_1 rfl rfl ?_
  refine J_iload_n (i := 2) (kk := 2) dX11_cut_2 rfl rfl ?_
  refine J_callV [.int a1, .int a2] [] calX11_hasBoth klX11_142 (b := 0) (ci := 11) (by decide) rfl rfl rfl rfl (Nat.le_of_ble_eq_true rfl) dX11_cut_3 (KI.to (S_X11_hasBoth a1 a2) ?_)
  rintro x9 s9 ⟨rfl, ⟨g5, rfl⟩ | ⟨g5, rfl⟩⟩
  · replace h := h.1 g5
    refine J_if_eq 17 dX11_cut_6 (by decide) (fun hc => absurd hc (by decide)) (fun _ => ?_)
    refine J_iload_n (i := 3) (kk := 3) dX11_cut_9 rfl rfl ?_
    refine J_iconst (v := 4) dX11_cut_10 (by decide) ?_
    refine J_callS [.int a3, .int (4)] [] calX11_isBelow klX11_99 rfl rfl (Nat.le_of_ble_eq_true rfl) dX11_cut_11 (KI.to (S_X11_isBelow a3 (4 : Int32)) ?_)
    rintro x9 s9 ⟨rfl, ⟨g4, rfl⟩ | ⟨g4, rfl⟩⟩
    · replace h := h.1 g4
      refine J_if_ne 19 dX11_cut_14 (by decide) (fun _ => ?_) (fun hc => absurd hc (by decide))
      refine J_aload_n (i := 0) (kk := 0) dX11_cut_19 rfl rfl ?_
      refine J_getR 4 (q := 0) (ci := 11) (kf := 1) kfX11_19 uxX11 rfl (by decide) rfl (by decide) rfl dX11_cut_20 ?_
      refine J_getR 9 (q := 4) (ci := 9) (kf := 3) kfX11_145 uxX9 rfl (by decide) rfl (by decide) rfl dX11_cut_23 ?_
      refine J_iload_n (i := 1) (kk := 1) dX11_cut_26 rfl rfl ?_
      have b1 := h.1
      replace h := h.2
      refine J_aald2 (a1.toNatClampNeg) rfl (by decide) rfl b1 dX11_cut_27 ?_
      refine J_iload_n (i := 2) (kk := 2) dX11_cut_28 rfl rfl ?_
      have b2 := h.1
      replace h := h.2
      refine J_ald (a2.toNatClampNeg) rfl (nc_row118 (vp_lt b1)) (sk_row118 (vp_lt b1)) b2 dX11_cut_29 ?_
      refine J_nameI (fun x3 ex3 => ?_)
      replace h := h x3 ex3
      refine J_istore (i := 4) (lv' := [(4, .int x3), (0, .ref 0), (1, .int a1), (2, .int a2), (3, .int a3)]) dX11_cut_30 (by decide) rfl ?_
      refine J_iload_n (i := 3) (kk := 4) dX11_cut_32 rfl rfl ?_
      refine J_iload (i := 4) (kk := 0) dX11_cut_33 rfl ?_
      refine J_icmp_gt 41 dX11_cut_35 (by decide) (fun hc => ?_) (fun hc => ?_)
      · replace h := h.1 hc
        refine J_aload_n (i := 0) (kk := 1) dX11_cut_41 rfl rfl ?_
        refine J_getR 4 (q := 0) (ci := 11) (kf := 1) kfX11_19 uxX11 rfl (by decide) rfl (by decide) rfl dX11_cut_42 ?_
        refine J_getR 9 (q := 4) (ci := 9) (kf := 3) kfX11_145 uxX9 rfl (by decide) rfl (by decide) rfl dX11_cut_45 ?_
        refine J_iload_n (i := 1) (kk := 2) dX11_cut_48 rfl rfl ?_
        refine J_aald2 (a1.toNatClampNeg) rfl (by decide) rfl b1 dX11_cut_49 ?_
        refine J_iload_n (i := 2) (kk := 3) dX11_cut_50 rfl rfl ?_
        refine J_iload_n (i := 3) (kk := 4) dX11_cut_51 rfl rfl ?_
        refine J_ast (a2.toNatClampNeg) rfl (nc_row118 (vp_lt b1)) (sk_row118 (vp_lt b1)) b2 dX11_cut_52 ?_
        refine J_iload (i := 4) (kk := 0) dX11_cut_53 rfl ?_
        exact J_iret rfl dX11_cut_55 h
      · replace h := h.2 hc
        refine J_bipush (v := (-2)) dX11_cut_38 (by decide) ?_
        exact J_iret rfl dX11_cut_40 h
    · replace h := h.2 g4
      refine J_if_ne 19 dX11_cut_14 (by decide) (fun hc => absurd hc (by decide)) (fun _ => ?_)
      refine J_iconst (v := (-1)) dX11_cut_17 (by decide) ?_
      exact J_iret rfl dX11_cut_18 h
  · replace h := h.2 g5
    refine J_if_eq 17 dX11_cut_6 (by decide) (fun _ => ?_) (fun hc => absurd hc (by decide))
    refine J_iconst (v := (-1)) dX11_cut_17 (by decide) ?_
    exact J_iret rfl dX11_cut_18 h
theorem M_X11_cut {Γ : GG} {l : Launch} {d : Nat} {Q : Option Value → St → Prop} {σ : St} (a1 : Int32) (a2 : Int32) (a3 : Int32) (k : J Γ l (d + 3) mX11_cut Q 0 [(0, .ref 0), (1, .int a1), (2, .int a2), (3, .int a3)] [] σ) : Meth Γ l (d + 3) mX11_cut [.ref 0, .int a1, .int a2, .int a3] σ Q := Meth_of_J (by decide +kernel) (fun _ => Nat.le_of_ble_eq_true rfl) (fun _ => rfl) k
set_option maxHeartbeats 4000000 in
set_option maxRecDepth 100000 in
theorem w_X11_step_0 {Γ : GG} {l : Launch} {d : Nat} {Q : Option Value → St → Prop} {σ : St} (a1 : Int32) (a2 : Int32) (h : ((0 ≤ a1 ∧ a1 < (rd σ 5 1)) ∧ 0 ≤ a2 ∧ a2 < (rd σ 11 5) → vp_in a1 12 ∧ vp_in a2 10 ∧ Q (some (.int (rd σ ((a1.toNatClampNeg) + 118) (a2.toNatClampNeg)))) σ) ∧ (¬ ((0 ≤ a1 ∧ a1 < (rd σ 5 1)) ∧ 0 ≤ a2 ∧ a2 < (rd σ 11 5)) → Q (some (.int ((-1)))) σ)) : J Γ l (d + 3) mX11_step Q 0 [(0, .ref 0), (1, .int a1), (2, .int a2)] [] σ := by
  refine J_aload_n (i := 0) (kk := 0) dX11_step_0 rfl rfl ?_
  refine J_iload_n (i := 1) (kk := 1) dX11_step_1 rfl rfl ?_
  refine J_iload_n (i := 2) (kk := 2) dX11_step_2 rfl rfl ?_
  refine J_callV [.int a1, .int a2] [] calX11_hasBoth klX11_142 (b := 0) (ci := 11) (by decide) rfl rfl rfl rfl (Nat.le_of_ble_eq_true rfl) dX11_step_3 (KI.to (S_X11_hasBoth a1 a2) ?_)
  rintro x9 s9 ⟨rfl, ⟨g3, rfl⟩ | ⟨g3, rfl⟩⟩
  · replace h := h.1 g3
    refine J_if_ne 11 dX11_step_6 (by decide) (fun _ => ?_) (fun hc => absurd hc (by decide))
    refine J_aload_n (i := 0) (kk := 0) dX11_step_11 rfl rfl ?_
    refine J_getR 4 (q := 0) (ci := 11) (kf := 1) kfX11_19 uxX11 rfl (by decide) rfl (by decide) rfl dX11_step_12 ?_
    refine J_getR 9 (q := 4) (ci := 9) (kf := 3) kfX11_145 uxX9 rfl (by decide) rfl (by decide) rfl dX11_step_15 ?_
    refine J_iload_n (i := 1) (kk := 1) dX11_step_18 rfl rfl ?_
    have b1 := h.1
    replace h := h.2
    refine J_aald2 (a1.toNatClampNeg) rfl (by decide) rfl b1 dX11_step_19 ?_
    refine J_iload_n (i := 2) (kk := 2) dX11_step_20 rfl rfl ?_
    have b2 := h.1
    replace h := h.2
    refine J_ald (a2.toNatClampNeg) rfl (nc_row118 (vp_lt b1)) (sk_row118 (vp_lt b1)) b2 dX11_step_21 ?_
    exact J_iret rfl dX11_step_22 h
  · replace h := h.2 g3
    refine J_if_ne 11 dX11_step_6 (by decide) (fun hc => absurd hc (by decide)) (fun _ => ?_)
    refine J_iconst (v := (-1)) dX11_step_9 (by decide) ?_
    exact J_iret rfl dX11_step_10 h
theorem M_X11_step {Γ : GG} {l : Launch} {d : Nat} {Q : Option Value → St → Prop} {σ : St} (a1 : Int32) (a2 : Int32) (k : J Γ l (d + 3) mX11_step Q 0 [(0, .ref 0), (1, .int a1), (2, .int a2)] [] σ) : Meth Γ l (d + 3) mX11_step [.ref 0, .int a1, .int a2] σ Q := Meth_of_J (by decide +kernel) (fun _ => Nat.le_of_ble_eq_true rfl) (fun _ => rfl) k
set_option maxHeartbeats 4000000 in
set_option maxRecDepth 100000 in
theorem w_X11_warm_0 {Γ : GG} {l : Launch} {d : Nat} {Q : Option Value → St → Prop} {σ : St} (a1 : Int32) (a2 : Int32) (a3 : Int32) (h : ((0 ≤ a1 ∧ a1 < (rd σ 5 1)) ∧ 0 ≤ a2 ∧ a2 < (rd σ 11 5) → ((0 : Int32) ≤ a3 ∧ a3 ≤ (24 : Int32) → vp_in a1 12 ∧ vp_in a2 10 ∧ ∀ x3 : Int32, x3 = rd σ ((a1.toNatClampNeg) + 130) (a2.toNatClampNeg) → Q (some (.int x3)) (wr σ ((a1.toNatClampNeg) + 130) (a2.toNatClampNeg) a3)) ∧ (¬ ((0 : Int32) ≤ a3 ∧ a3 ≤ (24 : Int32)) → Q (some (.int ((-1)))) σ)) ∧ (¬ ((0 ≤ a1 ∧ a1 < (rd σ 5 1)) ∧ 0 ≤ a2 ∧ a2 < (rd σ 11 5)) → Q (some (.int ((-1)))) σ)) : J Γ l (d + 3) mX11_warm Q 0 [(0, .ref 0), (1, .int a1), (2, .int a2), (3, .int a3)] [] σ := by
  refine J_aload_n (i := 0) (kk := 0) dX11_warm_0 rfl rfl ?_
  refine J_iload_n (i := 1) (kk := 1) dX11_warm_1 rfl rfl ?_
  refine J_iload_n (i := 2) (kk := 2) dX11_warm_2 rfl rfl ?_
  refine J_callV [.int a1, .int a2] [] calX11_hasBoth klX11_142 (b := 0) (ci := 11) (by decide) rfl rfl rfl rfl (Nat.le_of_ble_eq_true rfl) dX11_warm_3 (KI.to (S_X11_hasBoth a1 a2) ?_)
  rintro x9 s9 ⟨rfl, ⟨g5, rfl⟩ | ⟨g5, rfl⟩⟩
  · replace h := h.1 g5
    refine J_if_eq 19 dX11_warm_6 (by decide) (fun hc => absurd hc (by decide)) (fun _ => ?_)
    refine J_iconst (v := 0) dX11_warm_9 (by decide) ?_
    refine J_iload_n (i := 3) (kk := 3) dX11_warm_10 rfl rfl ?_
    refine J_bipush (v := 24) dX11_warm_11 (by decide) ?_
    refine J_callS [.int (0), .int a3, .int (24)] [] calX11_isFrom klX11_110 rfl rfl (Nat.le_of_ble_eq_true rfl) dX11_warm_13 (KI.to (S_X11_isFrom (0 : Int32) a3 (24 : Int32)) ?_)
    rintro x9 s9 ⟨rfl, ⟨g4, rfl⟩ | ⟨g4, rfl⟩⟩
    · replace h := h.1 g4
      refine J_if_ne 21 dX11_warm_16 (by decide) (fun _ => ?_) (fun hc => absurd hc (by decide))
      refine J_aload_n (i := 0) (kk := 0) dX11_warm_21 rfl rfl ?_
      refine J_getR 4 (q := 0) (ci := 11) (kf := 1) kfX11_19 uxX11 rfl (by decide) rfl (by decide) rfl dX11_warm_22 ?_
      refine J_getR 10 (q := 4) (ci := 9) (kf := 4) kfX11_149 uxX9 rfl (by decide) rfl (by decide) rfl dX11_warm_25 ?_
      refine J_iload_n (i := 1) (kk := 1) dX11_warm_28 rfl rfl ?_
      have b1 := h.1
      replace h := h.2
      refine J_aald2 (a1.toNatClampNeg) rfl (by decide) rfl b1 dX11_warm_29 ?_
      refine J_iload_n (i := 2) (kk := 2) dX11_warm_30 rfl rfl ?_
      have b2 := h.1
      replace h := h.2
      refine J_ald (a2.toNatClampNeg) rfl (nc_row130 (vp_lt b1)) (sk_row130 (vp_lt b1)) b2 dX11_warm_31 ?_
      refine J_nameI (fun x3 ex3 => ?_)
      replace h := h x3 ex3
      refine J_istore (i := 4) (lv' := [(4, .int x3), (0, .ref 0), (1, .int a1), (2, .int a2), (3, .int a3)]) dX11_warm_32 (by decide) rfl ?_
      refine J_aload_n (i := 0) (kk := 1) dX11_warm_34 rfl rfl ?_
      refine J_getR 4 (q := 0) (ci := 11) (kf := 1) kfX11_19 uxX11 rfl (by decide) rfl (by decide) rfl dX11_warm_35 ?_
      refine J_getR 10 (q := 4) (ci := 9) (kf := 4) kfX11_149 uxX9 rfl (by decide) rfl (by decide) rfl dX11_warm_38 ?_
      refine J_iload_n (i := 1) (kk := 2) dX11_warm_41 rfl rfl ?_
      refine J_aald2 (a1.toNatClampNeg) rfl (by decide) rfl b1 dX11_warm_42 ?_
      refine J_iload_n (i := 2) (kk := 3) dX11_warm_43 rfl rfl ?_
      refine J_iload_n (i := 3) (kk := 4) dX11_warm_44 rfl rfl ?_
      refine J_ast (a2.toNatClampNeg) rfl (nc_row130 (vp_lt b1)) (sk_row130 (vp_lt b1)) b2 dX11_warm_45 ?_
      refine J_iload (i := 4) (kk := 0) dX11_warm_46 rfl ?_
      exact J_iret rfl dX11_warm_48 h
    · replace h := h.2 g4
      refine J_if_ne 21 dX11_warm_16 (by decide) (fun hc => absurd hc (by decide)) (fun _ => ?_)
      refine J_iconst (v := (-1)) dX11_warm_19 (by decide) ?_
      exact J_iret rfl dX11_warm_20 h
  · replace h := h.2 g5
    refine J_if_eq 19 dX11_warm_6 (by decide) (fun _ => ?_) (fun hc => absurd hc (by decide))
    refine J_iconst (v := (-1)) dX11_warm_19 (by decide) ?_
    exact J_iret rfl dX11_warm_20 h
theorem M_X11_warm {Γ : GG} {l : Launch} {d : Nat} {Q : Option Value → St → Prop} {σ : St} (a1 : Int32) (a2 : Int32) (a3 : Int32) (k : J Γ l (d + 3) mX11_warm Q 0 [(0, .ref 0), (1, .int a1), (2, .int a2), (3, .int a3)] [] σ) : Meth Γ l (d + 3) mX11_warm [.ref 0, .int a1, .int a2, .int a3] σ Q := Meth_of_J (by decide +kernel) (fun _ => Nat.le_of_ble_eq_true rfl) (fun _ => rfl) k
set_option maxHeartbeats 4000000 in
set_option maxRecDepth 100000 in
theorem w_X11_batch_0 {Γ : GG} {l : Launch} {d : Nat} {Q : Option Value → St → Prop} {σ : St} (a1 : Int32) (a2 : Int32) (a3 : Int32) (a4 : Int32) (h : (a2 < (0 : Int32) → Q (some (.int ((-1)))) σ) ∧ (¬ a2 < (0 : Int32) → ((0 ≤ a1 ∧ a1 < (rd σ 5 1)) ∧ 0 ≤ (a2 / (100 : Int32)) ∧ (a2 / (100 : Int32)) < (rd σ 11 5) → ((0 : Int32) ≤ a3 ∧ a3 ≤ (9 : Int32) → ((rd σ 1 2) / (24 : Int32) < a3 → Q (some (.int ((-1)))) σ) ∧ (¬ (rd σ 1 2) / (24 : Int32) < a3 → ((1 : Int32) ≤ a4 ∧ a4 ≤ (999 : Int32) → ((200 : Int32) - (rd σ 17 1) = (0 : Int32) → Q (some (.int ((-3)))) σ) ∧ (¬ (200 : Int32) - (rd σ 17 1) = (0 : Int32) → Meth Γ l (d + 2) mX0_add [.ref 17, .int a1, .int a2, .int (((rd σ 1 2) / (24 : Int32)) - a3), .int a4] σ (KI (fun x2 σ1 => vp_in x2 200 ∧ vp_in (a2 / (100 : Int32)) 10 ∧ Q (some (.int x2)) (wr (wr σ1 ((x2.toNatClampNeg) + 142) 13 ((rd σ 1 2) / (24 : Int32))) 0 13 ((rd (wr σ1 ((x2.toNatClampNeg) + 142) 13 ((rd σ 1 2) / (24 : Int32))) 0 13) + (a4 * (rd (wr σ1 ((x2.toNatClampNeg) + 142) 13 ((rd σ 1 2) / (24 : Int32))) 13 ((a2 / (100 : Int32)).toNatClampNeg))))))))) ∧ (¬ ((1 : Int32) ≤ a4 ∧ a4 ≤ (999 : Int32)) → Q (some (.int ((-1)))) σ))) ∧ (¬ ((0 : Int32) ≤ a3 ∧ a3 ≤ (9 : Int32)) → Q (some (.int ((-1)))) σ)) ∧ (¬ ((0 ≤ a1 ∧ a1 < (rd σ 5 1)) ∧ 0 ≤ (a2 / (100 : Int32)) ∧ (a2 / (100 : Int32)) < (rd σ 11 5)) → Q (some (.int ((-1)))) σ))) : J Γ l (d + 3) mX11_batch Q 0 [(0, .ref 0), (1, .int a1), (2, .int a2), (3, .int a3), (4, .int a4)] [] σ := by
  refine J_iload_n (i := 2) (kk := 2) dX11_batch_0 rfl rfl ?_
  refine J_if_lt 16 dX11_batch_1 (by decide) (fun hc => ?_) (fun hc => ?_)
  · replace h := h.1 hc
    refine J_iconst (v := (-1)) dX11_batch_16 (by decide) ?_
    exact J_iret rfl dX11_batch_17 h
  · replace h := h.2 hc
    refine J_aload_n (i := 0) (kk := 0) dX11_batch_4 rfl rfl ?_
    refine J_iload_n (i := 1) (kk := 1) dX11_batch_5 rfl rfl ?_
    refine J_iload_n (i := 2) (kk := 2) dX11_batch_6 rfl rfl ?_
    refine J_bipush (v := 100) dX11_batch_7 (by decide) ?_
    refine J_idiv dX11_batch_9 (by decide) ?_
    refine J_callV [.int a1, .int (a2 / (100 : Int32))] [] calX11_hasBoth klX11_142 (b := 0) (ci := 11) (by decide) rfl rfl rfl rfl (Nat.le_of_ble_eq_true rfl) dX11_batch_10 (KI.to (S_X11_hasBoth a1 (a2 / (100 : Int32))) ?_)
    rintro x9 s9 ⟨rfl, ⟨g7, rfl⟩ | ⟨g7, rfl⟩⟩
    · replace h := h.1 g7
      refine J_if_ne 18 dX11_batch_13 (by decide) (fun _ => ?_) (fun hc => absurd hc (by decide))
      refine J_aload_n (i := 0) (kk := 0) dX11_batch_18 rfl rfl ?_
      refine J_getR 1 (q := 0) (ci := 11) (kf := 0) kfX11_10 uxX11 rfl (by decide) rfl (by decide) rfl dX11_batch_19 ?_
      refine J_callV [] [] calX3_today klX11_152 (b := 1) (ci := 3) (by decide) rfl rfl rfl rfl (Nat.le_of_ble_eq_true rfl) dX11_batch_22 (KI.to (S_X3_today) ?_)
      rintro x9 s9 ⟨rfl, rfl⟩
      refine J_istore (i := 5) (lv' := [(5, .int ((rd σ 1 2) / (24 : Int32))), (0, .ref 0), (1, .int a1), (2, .int a2), (3, .int a3), (4, .int a4)]) dX11_batch_25 (by decide) rfl ?_
      refine J_iconst (v := 0) dX11_batch_27 (by decide) ?_
      refine J_iload_n (i := 3) (kk := 4) dX11_batch_28 rfl rfl ?_
      refine J_bipush (v := 9) dX11_batch_29 (by decide) ?_
      refine J_callS [.int (0), .int a3, .int (9)] [] calX11_isFrom klX11_110 rfl rfl (Nat.le_of_ble_eq_true rfl) dX11_batch_31 (KI.to (S_X11_isFrom (0 : Int32) a3 (9 : Int32)) ?_)
      rintro x9 s9 ⟨rfl, ⟨g6, rfl⟩ | ⟨g6, rfl⟩⟩
      · replace h := h.1 g6
        refine J_if_eq 55 dX11_batch_34 (by decide) (fun hc => absurd hc (by decide)) (fun _ => ?_)
        refine J_iload_n (i := 3) (kk := 4) dX11_batch_37 rfl rfl ?_
        refine J_iload (i := 5) (kk := 0) dX11_batch_38 rfl ?_
        refine J_icmp_gt 55 dX11_batch_40 (by decide) (fun hc => ?_) (fun hc => ?_)
        · replace h := h.1 hc
          refine J_iconst (v := (-1)) dX11_batch_55 (by decide) ?_
          exact J_iret rfl dX11_batch_56 h
        · replace h := h.2 hc
          refine J_iconst (v := 1) dX11_batch_43 (by decide) ?_
          refine J_iload (i := 4) (kk := 5) dX11_batch_44 rfl ?_
          refine J_sipush (v := 999) dX11_batch_46 (by decide) ?_
          refine J_callS [.int (1), .int a4, .int (999)] [] calX11_isFrom klX11_110 rfl rfl (Nat.le_of_ble_eq_true rfl) dX11_batch_49 (KI.to (S_X11_isFrom (1 : Int32) a4 (999 : Int32)) ?_)
          rintro x9 s9 ⟨rfl, ⟨g5, rfl⟩ | ⟨g5, rfl⟩⟩
          · replace h := h.1 g5
            refine J_if_ne 57 dX11_batch_52 (by decide) (fun _ => ?_) (fun hc => absurd hc (by decide))
            refine J_aload_n (i := 0) (kk := 1) dX11_batch_57 rfl rfl ?_
            refine J_getR 17 (q := 0) (ci := 11) (kf := 3) kfX11_33 uxX11 rfl (by decide) rfl (by decide) rfl dX11_batch_58 ?_
            refine J_callV [] [] calX0_room klX11_155 (b := 17) (ci := 0) (by decide) rfl rfl rfl rfl (Nat.le_of_ble_eq_true rfl) dX11_batch_61 (KI.to (S_X0_room) ?_)
            rintro x9 s9 ⟨rfl, rfl⟩
            refine J_if_ne 70 dX11_batch_64 (by decide) (fun hc => ?_) (fun hc => ?_)
            · replace h := h.2 hc
              refine J_aload_n (i := 0) (kk := 1) dX11_batch_70 rfl rfl ?_
              refine J_getR 17 (q := 0) (ci := 11) (kf := 3) kfX11_33 uxX11 rfl (by decide) rfl (by decide) rfl dX11_batch_71 ?_
              refine J_iload_n (i := 1) (kk := 2) dX11_batch_74 rfl rfl ?_
              refine J_iload_n (i := 2) (kk := 3) dX11_batch_75 rfl rfl ?_
              refine J_iload (i := 5) (kk := 0) dX11_batch_76 rfl ?_
              refine J_iload_n (i := 3) (kk := 4) dX11_batch_78 rfl rfl ?_
              refine J_isub dX11_batch_79 ?_
              refine J_iload (i := 4) (kk := 5) dX11_batch_80 rfl ?_
              refine J_callV [.int a1, .int a2, .int (((rd σ 1 2) / (24 : Int32)) - a3), .int a4] [] calX0_add klX11_158 (b := 17) (ci := 0) (by decide) rfl rfl rfl rfl (Nat.le_of_ble_eq_true rfl) dX11_batch_82 (KI.to h ?_)
              clear h
              intro x2 σ1 h
              refine J_istore (i := 6) (lv' := [(6, .int x2), (5, .int ((rd σ 1 2) / (24 : Int32))), (0, .ref 0), (1, .int a1), (2, .int a2), (3, .int a3), (4, .int a4)]) dX11_batch_85 (by decide) rfl ?_
              refine J_aload_n (i := 0) (kk := 2) dX11_batch_87 rfl rfl ?_
              refine J_getR 17 (q := 0) (ci := 11) (kf := 3) kfX11_33 uxX11 rfl (by decide) rfl (by decide) rfl dX11_batch_88 ?_
              refine J_getR 18 (q := 17) (ci := 0) (kf := 0) kfX11_159 uxX0 rfl (by decide) rfl (by decide) rfl dX11_batch_91 ?_
              refine J_iload (i := 6) (kk := 0) dX11_batch_94 rfl ?_
              have b3 := h.1
              replace h := h.2
              refine J_aald2 (x2.toNatClampNeg) rfl (by decide) rfl b3 dX11_batch_96 ?_
              refine J_bipush (v := 13) dX11_batch_97 (by decide) ?_
              refine J_iload (i := 5) (kk := 1) dX11_batch_99 rfl ?_
              refine J_ast 13 (by decide) (nc_row142 (vp_lt b3)) (sk_row142 (vp_lt b3)) (by unfold vp_in; decide) dX11_batch_101 ?_
              refine J_aload_n (i := 0) (kk := 2) dX11_batch_102 rfl rfl ?_
              refine J_dup dX11_batch_103 rfl ?_
              refine J_getI (q := 0) (ci := 11) (kf := 13) kfX11_95 uxX11 rfl (by decide) rfl (by decide) rfl dX11_batch_104 ?_
              refine J_iload (i := 4) (kk := 6) dX11_batch_107 rfl ?_
              refine J_aload_n (i := 0) (kk := 2) dX11_batch_109 rfl rfl ?_
              refine J_getR 11 (q := 0) (ci := 11) (kf := 2) kfX11_26 uxX11 rfl (by decide) rfl (by decide) rfl dX11_batch_110 ?_
              refine J_getR 13 (q := 11) (ci := 5) (kf := 1) kfX11_162 uxX5 rfl (by decide) rfl (by decide) rfl dX11_batch_113 ?_
              refine J_iload_n (i := 2) (kk := 4) dX11_batch_116 rfl rfl ?_
              refine J_bipush (v := 100) dX11_batch_117 (by decide) ?_
              refine J_idiv dX11_batch_119 (by decide) ?_
              have b4 := h.1
              replace h := h.2
              refine J_ald ((a2 / (100 : Int32)).toNatClampNeg) rfl (by decide) rfl b4 dX11_batch_120 ?_
              refine J_imul dX11_batch_121 ?_
              refine J_iadd dX11_batch_122 ?_
              refine J_putf (q := 0) (ci := 11) (kf := 13) (ty := .int) kfX11_95 uxX11 tyX11_ok nmX11 rfl (by decide) rfl (by decide) rfl rfl rfl rfl rfl dX11_batch_123 ?_
              refine J_iload (i := 6) (kk := 0) dX11_batch_126 rfl ?_
              exact J_iret rfl dX11_batch_128 h
            · replace h := h.1 hc
              refine J_bipush (v := (-3)) dX11_batch_67 (by decide) ?_
              exact J_iret rfl dX11_batch_69 h
          · replace h := h.2 g5
            refine J_if_ne 57 dX11_batch_52 (by decide) (fun hc => absurd hc (by decide)) (fun _ => ?_)
            refine J_iconst (v := (-1)) dX11_batch_55 (by decide) ?_
            exact J_iret rfl dX11_batch_56 h
      · replace h := h.2 g6
        refine J_if_eq 55 dX11_batch_34 (by decide) (fun _ => ?_) (fun hc => absurd hc (by decide))
        refine J_iconst (v := (-1)) dX11_batch_55 (by decide) ?_
        exact J_iret rfl dX11_batch_56 h
    · replace h := h.2 g7
      refine J_if_ne 18 dX11_batch_13 (by decide) (fun hc => absurd hc (by decide)) (fun _ => ?_)
      refine J_iconst (v := (-1)) dX11_batch_16 (by decide) ?_
      exact J_iret rfl dX11_batch_17 h
theorem M_X11_batch {Γ : GG} {l : Launch} {d : Nat} {Q : Option Value → St → Prop} {σ : St} (a1 : Int32) (a2 : Int32) (a3 : Int32) (a4 : Int32) (k : J Γ l (d + 3) mX11_batch Q 0 [(0, .ref 0), (1, .int a1), (2, .int a2), (3, .int a3), (4, .int a4)] [] σ) : Meth Γ l (d + 3) mX11_batch [.ref 0, .int a1, .int a2, .int a3, .int a4] σ Q := Meth_of_J (by decide +kernel) (fun _ => Nat.le_of_ble_eq_true rfl) (fun _ => rfl) k
set_option maxHeartbeats 4000000 in
set_option maxRecDepth 100000 in
theorem w_X11_ofBatch_0 {Γ : GG} {l : Launch} {d : Nat} {Q : Option Value → St → Prop} {σ : St} (a1 : Int32) (a2 : Int32) (h : (0 ≤ a1 ∧ a1 < (rd σ 17 1) → ((0 : Int32) ≤ a2 ∧ a2 ≤ (12 : Int32) → vp_in a1 200 ∧ vp_in a2 14 ∧ Q (some (.int (rd σ ((a1.toNatClampNeg) + 142) (a2.toNatClampNeg)))) σ) ∧ (¬ ((0 : Int32) ≤ a2 ∧ a2 ≤ (12 : Int32)) → Q (some (.int ((-2000000000)))) σ)) ∧ (¬ (0 ≤ a1 ∧ a1 < (rd σ 17 1)) → Q (some (.int ((-2000000000)))) σ)) : J Γ l (d + 2) mX11_ofBatch Q 0 [(0, .ref 0), (1, .int a1), (2, .int a2)] [] σ := by
  refine J_aload_n (i := 0) (kk := 0) dX11_ofBatch_0 rfl rfl ?_
  refine J_getR 17 (q := 0) (ci := 11) (kf := 3) kfX11_33 uxX11 rfl (by decide) rfl (by decide) rfl dX11_ofBatch_1 ?_
  refine J_iload_n (i := 1) (kk := 1) dX11_ofBatch_4 rfl rfl ?_
  refine J_callV [.int a1] [] calX0_has klX11_165 (b := 17) (ci := 0) (by decide) rfl rfl rfl rfl (Nat.le_of_ble_eq_true rfl) dX11_ofBatch_5 (KI.to (S_X0_has a1) ?_)
  rintro x9 s9 ⟨rfl, ⟨g4, rfl⟩ | ⟨g4, rfl⟩⟩
  · replace h := h.1 g4
    refine J_if_eq 21 dX11_ofBatch_8 (by decide) (fun hc => absurd hc (by decide)) (fun _ => ?_)
    refine J_iconst (v := 0) dX11_ofBatch_11 (by decide) ?_
    refine J_iload_n (i := 2) (kk := 2) dX11_ofBatch_12 rfl rfl ?_
    refine J_bipush (v := 12) dX11_ofBatch_13 (by decide) ?_
    refine J_callS [.int (0), .int a2, .int (12)] [] calX11_isFrom klX11_110 rfl rfl (Nat.le_of_ble_eq_true rfl) dX11_ofBatch_15 (KI.to (S_X11_isFrom (0 : Int32) a2 (12 : Int32)) ?_)
    rintro x9 s9 ⟨rfl, ⟨g3, rfl⟩ | ⟨g3, rfl⟩⟩
    · replace h := h.1 g3
      refine J_if_ne 24 dX11_ofBatch_18 (by decide) (fun _ => ?_) (fun hc => absurd hc (by decide))
      refine J_aload_n (i := 0) (kk := 0) dX11_ofBatch_24 rfl rfl ?_
      refine J_getR 17 (q := 0) (ci := 11) (kf := 3) kfX11_33 uxX11 rfl (by decide) rfl (by decide) rfl dX11_ofBatch_25 ?_
      refine J_getR 18 (q := 17) (ci := 0) (kf := 0) kfX11_159 uxX0 rfl (by decide) rfl (by decide) rfl dX11_ofBatch_28 ?_
      refine J_iload_n (i := 1) (kk := 1) dX11_ofBatch_31 rfl rfl ?_
      have b1 := h.1
      replace h := h.2
      refine J_aald2 (a1.toNatClampNeg) rfl (by decide) rfl b1 dX11_ofBatch_32 ?_
      refine J_iload_n (i := 2) (kk := 2) dX11_ofBatch_33 rfl rfl ?_
      have b2 := h.1
      replace h := h.2
      refine J_ald (a2.toNatClampNeg) rfl (nc_row142 (vp_lt b1)) (sk_row142 (vp_lt b1)) b2 dX11_ofBatch_34 ?_
      exact J_iret rfl dX11_ofBatch_35 h
    · replace h := h.2 g3
      refine J_if_ne 24 dX11_ofBatch_18 (by decide) (fun hc => absurd hc (by decide)) (fun _ => ?_)
      refine J_ldc (v := (-2000000000)) kcX11_166 dX11_ofBatch_21 ?_
      exact J_iret rfl dX11_ofBatch_23 h
  · replace h := h.2 g4
    refine J_if_eq 21 dX11_ofBatch_8 (by decide) (fun _ => ?_) (fun hc => absurd hc (by decide))
    refine J_ldc (v := (-2000000000)) kcX11_166 dX11_ofBatch_21 ?_
    exact J_iret rfl dX11_ofBatch_23 h
theorem M_X11_ofBatch {Γ : GG} {l : Launch} {d : Nat} {Q : Option Value → St → Prop} {σ : St} (a1 : Int32) (a2 : Int32) (k : J Γ l (d + 2) mX11_ofBatch Q 0 [(0, .ref 0), (1, .int a1), (2, .int a2)] [] σ) : Meth Γ l (d + 2) mX11_ofBatch [.ref 0, .int a1, .int a2] σ Q := Meth_of_J (by decide +kernel) (fun _ => Nat.le_of_ble_eq_true rfl) (fun _ => rfl) k
set_option maxHeartbeats 4000000 in
set_option maxRecDepth 100000 in
theorem w_X11_shelf_0 {Γ : GG} {l : Launch} {d : Nat} {Q : Option Value → St → Prop} {σ : St} (a1 : Int32) (a2 : Int32) (a3 : Int32) (h : ((0 ≤ a1 ∧ a1 < (rd σ 5 1)) ∧ 0 ≤ a2 ∧ a2 < (rd σ 11 5) → ((0 : Int32) ≤ a3 ∧ a3 ≤ (2 : Int32) → (a3 = (0 : Int32) → Meth Γ l (d + 5) mX0_onShelf [.ref 17, .int a1, .int a2] σ (KI (fun x6 σ5 => Q (some (.int x6)) σ5))) ∧ (¬ a3 = (0 : Int32) → (a3 = (1 : Int32) → Meth Γ l (d + 5) mX11_lineUp [.ref 0, .int a1, .int a2, .int (0)] σ (KI (fun x4 σ3 => Q (some (.int x4)) σ3))) ∧ (¬ a3 = (1 : Int32) → Meth Γ l (d + 5) mX11_lineUp [.ref 0, .int a1, .int a2, .int (1)] σ (KI (fun x2 σ1 => Q (some (.int x2)) σ1))))) ∧ (¬ ((0 : Int32) ≤ a3 ∧ a3 ≤ (2 : Int32)) → Q (some (.int ((-1)))) σ)) ∧ (¬ ((0 ≤ a1 ∧ a1 < (rd σ 5 1)) ∧ 0 ≤ a2 ∧ a2 < (rd σ 11 5)) → Q (some (.int ((-1)))) σ)) : J Γ l (d + 6) mX11_shelf Q 0 [(0, .ref 0), (1, .int a1), (2, .int a2), (3, .int a3)] [] σ := by
  refine J_aload_n (i := 0) (kk := 0) dX11_shelf_0 rfl rfl ?_
  refine J_iload_n (i := 1) (kk := 1) dX11_shelf_1 rfl rfl ?_
  refine J_iload_n (i := 2) (kk := 2) dX11_shelf_2 rfl rfl ?_
  refine J_callV [.int a1, .int a2] [] calX11_hasBoth klX11_142 (b := 0) (ci := 11) (by decide) rfl rfl rfl rfl (Nat.le_of_ble_eq_true rfl) dX11_shelf_3 (KI.to (S_X11_hasBoth a1 a2) ?_)
  rintro x9 s9 ⟨rfl, ⟨g8, rfl⟩ | ⟨g8, rfl⟩⟩
  · replace h := h.1 g8
    refine J_if_eq 18 dX11_shelf_6 (by decide) (fun hc => absurd hc (by decide)) (fun _ => ?_)
    refine J_iconst (v := 0) dX11_shelf_9 (by decide) ?_
    refine J_iload_n (i := 3) (kk := 3) dX11_shelf_10 rfl rfl ?_
    refine J_iconst (v := 2) dX11_shelf_11 (by decide) ?_
    refine J_callS [.int (0), .int a3, .int (2)] [] calX11_isFrom klX11_110 rfl rfl (Nat.le_of_ble_eq_true rfl) dX11_shelf_12 (KI.to (S_X11_isFrom (0 : Int32) a3 (2 : Int32)) ?_)
    rintro x9 s9 ⟨rfl, ⟨g7, rfl⟩ | ⟨g7, rfl⟩⟩
    · replace h := h.1 g7
      refine J_if_ne 20 dX11_shelf_15 (by decide) (fun _ => ?_) (fun hc => absurd hc (by decide))
      refine J_iload_n (i := 3) (kk := 3) dX11_shelf_20 rfl rfl ?_
      refine J_if_ne 34 dX11_shelf_21 (by decide) (fun hc => ?_) (fun hc => ?_)
      · replace h := h.2 hc
        refine J_aload_n (i := 0) (kk := 0) dX11_shelf_34 rfl rfl ?_
        refine J_iload_n (i := 1) (kk := 1) dX11_shelf_35 rfl rfl ?_
        refine J_iload_n (i := 2) (kk := 2) dX11_shelf_36 rfl rfl ?_
        refine J_iload_n (i := 3) (kk := 3) dX11_shelf_37 rfl rfl ?_
        refine J_iconst (v := 1) dX11_shelf_38 (by decide) ?_
        refine J_icmp_ne 46 dX11_shelf_39 (by decide) (fun hc => ?_) (fun hc => ?_)
        · replace h := h.2 hc
          refine J_iconst (v := 1) dX11_shelf_46 (by decide) ?_
          refine J_callV [.int a1, .int a2, .int (1)] [] calX11_lineUp klX11_170 (b := 0) (ci := 11) (by decide) rfl rfl rfl rfl (Nat.le_of_ble_eq_true rfl) dX11_shelf_47 (KI.to h ?_)
          clear h
          intro x2 σ1 h
          exact J_iret rfl dX11_shelf_50 h
        · replace h := h.1 hc
          refine J_iconst (v := 0) dX11_shelf_42 (by decide) ?_
          refine J_goto (tgt := 47) dX11_shelf_43 (by decide) ?_
          refine J_callV [.int a1, .int a2, .int (0)] [] calX11_lineUp klX11_170 (b := 0) (ci := 11) (by decide) rfl rfl rfl rfl (Nat.le_of_ble_eq_true rfl) dX11_shelf_47 (KI.to h ?_)
          clear h
          intro x4 σ3 h
          exact J_iret rfl dX11_shelf_50 h
      · replace h := h.1 hc
        refine J_aload_n (i := 0) (kk := 0) dX11_shelf_24 rfl rfl ?_
        refine J_getR 17 (q := 0) (ci := 11) (kf := 3) kfX11_33 uxX11 rfl (by decide) rfl (by decide) rfl dX11_shelf_25 ?_
        refine J_iload_n (i := 1) (kk := 1) dX11_shelf_28 rfl rfl ?_
        refine J_iload_n (i := 2) (kk := 2) dX11_shelf_29 rfl rfl ?_
        refine J_callV [.int a1, .int a2] [] calX0_onShelf klX11_167 (b := 17) (ci := 0) (by decide) rfl rfl rfl rfl (Nat.le_of_ble_eq_true rfl) dX11_shelf_30 (KI.to h ?_)
        clear h
        intro x6 σ5 h
        exact J_iret rfl dX11_shelf_33 h
    · replace h := h.2 g7
      refine J_if_ne 20 dX11_shelf_15 (by decide) (fun hc => absurd hc (by decide)) (fun _ => ?_)
      refine J_iconst (v := (-1)) dX11_shelf_18 (by decide) ?_
      exact J_iret rfl dX11_shelf_19 h
  · replace h := h.2 g8
    refine J_if_eq 18 dX11_shelf_6 (by decide) (fun _ => ?_) (fun hc => absurd hc (by decide))
    refine J_iconst (v := (-1)) dX11_shelf_18 (by decide) ?_
    exact J_iret rfl dX11_shelf_19 h
theorem M_X11_shelf {Γ : GG} {l : Launch} {d : Nat} {Q : Option Value → St → Prop} {σ : St} (a1 : Int32) (a2 : Int32) (a3 : Int32) (k : J Γ l (d + 6) mX11_shelf Q 0 [(0, .ref 0), (1, .int a1), (2, .int a2), (3, .int a3)] [] σ) : Meth Γ l (d + 6) mX11_shelf [.ref 0, .int a1, .int a2, .int a3] σ Q := Meth_of_J (by decide +kernel) (fun _ => Nat.le_of_ble_eq_true rfl) (fun _ => rfl) k
set_option maxHeartbeats 4000000 in
set_option maxRecDepth 100000 in
theorem w_X11_feed_0 {Γ : GG} {l : Launch} {d : Nat} {Q : Option Value → St → Prop} {σ : St} (a1 : Int32) (a2 : Int32) (a3 : Int32) (a4 : Int32) (a5 : Int32) (h : (rd σ 23 1 ≤ (140 : Int32) → Meth Γ l d mX10_take [.ref 23, .int a1] σ (KV (fun σ1 => Meth Γ l d mX10_take [.ref 23, .int a2] σ1 (KV (fun σ2 => Meth Γ l d mX10_take [.ref 23, .int a3] σ2 (KV (fun σ3 => Meth Γ l d mX10_take [.ref 23, .int a4] σ3 (KV (fun σ4 => Meth Γ l d mX10_take [.ref 23, .int a5] σ4 (KV (fun σ5 => Q (some (.int (rd σ5 23 1))) σ5))))))))))) ∧ (¬ rd σ 23 1 ≤ (140 : Int32) → Q (some (.int ((-3)))) σ)) : J Γ l (d + 1) mX11_feed Q 0 [(0, .ref 0), (1, .int a1), (2, .int a2), (3, .int a3), (4, .int a4), (5, .int a5)] [] σ := by
  refine J_aload_n (i := 0) (kk := 0) dX11_feed_0 rfl rfl ?_
  refine J_getR 23 (q := 0) (ci := 11) (kf := 4) kfX11_40 uxX11 rfl (by decide) rfl (by decide) rfl dX11_feed_1 ?_
  refine J_getI (q := 23) (ci := 10) (kf := 1) kfX11_174 uxX10 rfl (by decide) rfl (by decide) rfl dX11_feed_4 ?_
  refine J_sipush (v := 140) dX11_feed_7 (by decide) ?_
  refine J_icmp_le 16 dX11_feed_10 (by decide) (fun hc => ?_) (fun hc => ?_)
  · replace h := h.1 hc
    refine J_aload_n (i := 0) (kk := 0) dX11_feed_16 rfl rfl ?_
    refine J_getR 23 (q := 0) (ci := 11) (kf := 4) kfX11_40 uxX11 rfl (by decide) rfl (by decide) rfl dX11_feed_17 ?_
    refine J_iload_n (i := 1) (kk := 1) dX11_feed_20 rfl rfl ?_
    refine J_callV [.int a1] [] calX10_take klX11_177 (b := 23) (ci := 10) (by decide) rfl rfl rfl rfl (Nat.le_of_ble_eq_true rfl) dX11_feed_21 (KV.to h ?_)
    clear h
    intro σ1 h
    refine J_aload_n (i := 0) (kk := 0) dX11_feed_24 rfl rfl ?_
    refine J_getR 23 (q := 0) (ci := 11) (kf := 4) kfX11_40 uxX11 rfl (by decide) rfl (by decide) rfl dX11_feed_25 ?_
    refine J_iload_n (i := 2) (kk := 2) dX11_feed_28 rfl rfl ?_
    refine J_callV [.int a2] [] calX10_take klX11_177 (b := 23) (ci := 10) (by decide) rfl rfl rfl rfl (Nat.le_of_ble_eq_true rfl) dX11_feed_29 (KV.to h ?_)
    clear h
    intro σ2 h
    refine J_aload_n (i := 0) (kk := 0) dX11_feed_32 rfl rfl ?_
    refine J_getR 23 (q := 0) (ci := 11) (kf := 4) kfX11_40 uxX11 rfl (by decide) rfl (by decide) rfl dX11_feed_33 ?_
    refine J_iload_n (i := 3) (kk := 3) dX11_feed_36 rfl rfl ?_
    refine J_callV [.int a3] [] calX10_take klX11_177 (b := 23) (ci := 10) (by decide) rfl rfl rfl rfl (Nat.le_of_ble_eq_true rfl) dX11_feed_37 (KV.to h ?_)
    clear h
    intro σ3 h
    refine J_aload_n (i := 0) (kk := 0) dX11_feed_40 rfl rfl ?_
    refine J_getR 23 (q := 0) (ci := 11) (kf := 4) kfX11_40 uxX11 rfl (by decide) rfl (by decide) rfl dX11_feed_41 ?_
    refine J_iload (i := 4) (kk := 4) dX11_feed_44 rfl ?_
    refine J_callV [.int a4] [] calX10_take klX11_177 (b := 23) (ci := 10) (by decide) rfl rfl rfl rfl (Nat.le_of_ble_eq_true rfl) dX11_feed_46 (KV.to h ?_)
    clear h
    intro σ4 h
    refine J_aload_n (i := 0) (kk := 0) dX11_feed_49 rfl rfl ?_
    refine J_getR 23 (q := 0) (ci := 11) (kf := 4) kfX11_40 uxX11 rfl (by decide) rfl (by decide) rfl dX11_feed_50 ?_
    refine J_iload (i := 5) (kk := 5) dX11_feed_53 rfl ?_
    refine J_callV [.int a5] [] calX10_take klX11_177 (b := 23) (ci := 10) (by decide) rfl rfl rfl rfl (Nat.le_of_ble_eq_true rfl) dX11_feed_55 (KV.to h ?_)
    clear h
    intro σ5 h
    refine J_aload_n (i := 0) (kk := 0) dX11_feed_58 rfl rfl ?_
    refine J_getR 23 (q := 0) (ci := 11) (kf := 4) kfX11_40 uxX11 rfl (by decide) rfl (by decide) rfl dX11_feed_59 ?_
    refine J_getI (q := 23) (ci := 10) (kf := 1) kfX11_174 uxX10 rfl (by decide) rfl (by decide) rfl dX11_feed_62 ?_
    exact J_iret rfl dX11_feed_65 h
  · replace h := h.2 hc
    refine J_bipush (v := (-3)) dX11_feed_13 (by decide) ?_
    exact J_iret rfl dX11_feed_15 h
theorem M_X11_feed {Γ : GG} {l : Launch} {d : Nat} {Q : Option Value → St → Prop} {σ : St} (a1 : Int32) (a2 : Int32) (a3 : Int32) (a4 : Int32) (a5 : Int32) (k : J Γ l (d + 1) mX11_feed Q 0 [(0, .ref 0), (1, .int a1), (2, .int a2), (3, .int a3), (4, .int a4), (5, .int a5)] [] σ) : Meth Γ l (d + 1) mX11_feed [.ref 0, .int a1, .int a2, .int a3, .int a4, .int a5] σ Q := Meth_of_J (by decide +kernel) (fun _ => Nat.le_of_ble_eq_true rfl) (fun _ => rfl) k
set_option maxHeartbeats 4000000 in
set_option maxRecDepth 100000 in
theorem w_X11_end_0 {Γ : GG} {l : Launch} {d : Nat} {Q : Option Value → St → Prop} {σ : St} (a1 : Int32) (h : ((0 : Int32) ≤ a1 ∧ a1 ≤ (rd σ 23 1) → Q (some (.int a1)) (wr σ 23 1 a1)) ∧ (¬ ((0 : Int32) ≤ a1 ∧ a1 ≤ (rd σ 23 1)) → Q (some (.int ((-1)))) σ)) : J Γ l (d + 1) mX11_end Q 0 [(0, .ref 0), (1, .int a1)] [] σ := by
  refine J_iconst (v := 0) dX11_end_0 (by decide) ?_
  refine J_iload_n (i := 1) (kk := 1) dX11_end_1 rfl rfl ?_
  refine J_aload_n (i := 0) (kk := 0) dX11_end_2 rfl rfl ?_
  refine J_getR 23 (q := 0) (ci := 11) (kf := 4) kfX11_40 uxX11 rfl (by decide) rfl (by decide) rfl dX11_end_3 ?_
  refine J_getI (q := 23) (ci := 10) (kf := 1) kfX11_174 uxX10 rfl (by decide) rfl (by decide) rfl dX11_end_6 ?_
  refine J_callS [.int (0), .int a1, .int (rd σ 23 1)] [] calX11_isFrom klX11_110 rfl rfl (Nat.le_of_ble_eq_true rfl) dX11_end_9 (KI.to (S_X11_isFrom (0 : Int32) a1 (rd σ 23 1)) ?_)
  rintro x9 s9 ⟨rfl, ⟨g1, rfl⟩ | ⟨g1, rfl⟩⟩
  · replace h := h.1 g1
    refine J_if_ne 17 dX11_end_12 (by decide) (fun _ => ?_) (fun hc => absurd hc (by decide))
    refine J_aload_n (i := 0) (kk := 0) dX11_end_17 rfl rfl ?_
    refine J_getR 23 (q := 0) (ci := 11) (kf := 4) kfX11_40 uxX11 rfl (by decide) rfl (by decide) rfl dX11_end_18 ?_
    refine J_iload_n (i := 1) (kk := 1) dX11_end_21 rfl rfl ?_
    refine J_putf (q := 23) (ci := 10) (kf := 1) (ty := .int) kfX11_174 uxX10 tyX10_ok nmX10 rfl (by decide) rfl (by decide) rfl rfl rfl rfl rfl dX11_end_22 ?_
    refine J_iload_n (i := 1) (kk := 1) dX11_end_25 rfl rfl ?_
    exact J_iret rfl dX11_end_26 h
  · replace h := h.2 g1
    refine J_if_ne 17 dX11_end_12 (by decide) (fun hc => absurd hc (by decide)) (fun _ => ?_)
    refine J_iconst (v := (-1)) dX11_end_15 (by decide) ?_
    exact J_iret rfl dX11_end_16 h
theorem M_X11_end {Γ : GG} {l : Launch} {d : Nat} {Q : Option Value → St → Prop} {σ : St} (a1 : Int32) (k : J Γ l (d + 1) mX11_end Q 0 [(0, .ref 0), (1, .int a1)] [] σ) : Meth Γ l (d + 1) mX11_end [.ref 0, .int a1] σ Q := Meth_of_J (by decide +kernel) (fun _ => Nat.le_of_ble_eq_true rfl) (fun _ => rfl) k
set_option maxHeartbeats 4000000 in
set_option maxRecDepth 100000 in
theorem w_X11_law_0 {Γ : GG} {l : Launch} {d : Nat} {Q : Option Value → St → Prop} {σ : St} (a1 : Int32) (a2 : Int32) (h : ((0 : Int32) ≤ a1 ∧ a1 ≤ (1 : Int32) → (0 ≤ a2 ∧ a2 < (1500 : Int32) → (rd σ 26 5 < (16 : Int32) → vp_in (rd σ 26 5) 16 ∧ Meth Γ l (d + 3) mX10_read [.ref 23, .ref (((rd σ 26 5).toNatClampNeg) + 342)] σ (KI (fun x3 σ2 => (x3 = ((-1) : Int32) → Meth Γ l (d + 3) mX6_add [.ref 26, .int (rd σ2 23 4), .int a1, .int a2, .int ((rd σ2 1 2) / (24 : Int32))] (wr σ2 23 1 (0 : Int32)) (KI (fun x5 σ4 => Q (some (.int x5)) σ4))) ∧ (¬ x3 = ((-1) : Int32) → Q (some (.int (((-100) : Int32) - x3))) (wr σ2 23 1 (0 : Int32)))))) ∧ (¬ rd σ 26 5 < (16 : Int32) → Q (some (.int ((-3)))) σ)) ∧ (¬ (0 ≤ a2 ∧ a2 < (1500 : Int32)) → Q (some (.int ((-1)))) σ)) ∧ (¬ ((0 : Int32) ≤ a1 ∧ a1 ≤ (1 : Int32)) → Q (some (.int ((-1)))) σ)) : J Γ l (d + 4) mX11_law Q 0 [(0, .ref 0), (1, .int a1), (2, .int a2)] [] σ := by
  refine J_iconst (v := 0) dX11_law_0 (by decide) ?_
  refine J_iload_n (i := 1) (kk := 1) dX11_law_1 rfl rfl ?_
  refine J_iconst (v := 1) dX11_law_2 (by decide) ?_
  refine J_callS [.int (0), .int a1, .int (1)] [] calX11_isFrom klX11_110 rfl rfl (Nat.le_of_ble_eq_true rfl) dX11_law_3 (KI.to (S_X11_isFrom (0 : Int32) a1 (1 : Int32)) ?_)
  rintro x9 s9 ⟨rfl, ⟨g7, rfl⟩ | ⟨g7, rfl⟩⟩
  · replace h := h.1 g7
    refine J_if_eq 19 dX11_law_6 (by decide) (fun hc => absurd hc (by decide)) (fun _ => ?_)
    refine J_iload_n (i := 2) (kk := 2) dX11_law_9 rfl rfl ?_
    refine J_sipush (v := 1500) dX11_law_10 (by decide) ?_
    refine J_callS [.int a2, .int (1500)] [] calX11_isBelow klX11_99 rfl rfl (Nat.le_of_ble_eq_true rfl) dX11_law_13 (KI.to (S_X11_isBelow a2 (1500 : Int32)) ?_)
    rintro x9 s9 ⟨rfl, ⟨g6, rfl⟩ | ⟨g6, rfl⟩⟩
    · replace h := h.1 g6
      refine J_if_ne 21 dX11_law_16 (by decide) (fun _ => ?_) (fun hc => absurd hc (by decide))
      refine J_aload_n (i := 0) (kk := 0) dX11_law_21 rfl rfl ?_
      refine J_getR 26 (q := 0) (ci := 11) (kf := 5) kfX11_47 uxX11 rfl (by decide) rfl (by decide) rfl dX11_law_22 ?_
      refine J_getI (q := 26) (ci := 6) (kf := 5) kfX11_180 uxX6 rfl (by decide) rfl (by decide) rfl dX11_law_25 ?_
      refine J_bipush (v := 16) dX11_law_28 (by decide) ?_
      refine J_icmp_lt 36 dX11_law_30 (by decide) (fun hc => ?_) (fun hc => ?_)
      · replace h := h.1 hc
        refine J_aload_n (i := 0) (kk := 0) dX11_law_36 rfl rfl ?_
        refine J_getR 23 (q := 0) (ci := 11) (kf := 4) kfX11_40 uxX11 rfl (by decide) rfl (by decide) rfl dX11_law_37 ?_
        refine J_aload_n (i := 0) (kk := 0) dX11_law_40 rfl rfl ?_
        refine J_getR 26 (q := 0) (ci := 11) (kf := 5) kfX11_47 uxX11 rfl (by decide) rfl (by decide) rfl dX11_law_41 ?_
        refine J_getR 27 (q := 26) (ci := 6) (kf := 0) kfX11_183 uxX6 rfl (by decide) rfl (by decide) rfl dX11_law_44 ?_
        refine J_aload_n (i := 0) (kk := 0) dX11_law_47 rfl rfl ?_
        refine J_getR 26 (q := 0) (ci := 11) (kf := 5) kfX11_47 uxX11 rfl (by decide) rfl (by decide) rfl dX11_law_48 ?_
        refine J_getI (q := 26) (ci := 6) (kf := 5) kfX11_180 uxX6 rfl (by decide) rfl (by decide) rfl dX11_law_51 ?_
        have b1 := h.1
        replace h := h.2
        refine J_aald2 ((rd σ 26 5).toNatClampNeg) rfl (by decide) rfl b1 dX11_law_54 ?_
        refine J_callV [.ref (((rd σ 26 5).toNatClampNeg) + 342)] [] calX10_read klX11_186 (b := 23) (ci := 10) (by decide) rfl rfl rfl rfl (Nat.le_of_ble_eq_true rfl) dX11_law_55 (KI.to h ?_)
        clear h
        intro x3 σ2 h
        refine J_istore_n (i := 3) (lv' := [(3, .int x3), (0, .ref 0), (1, .int a1), (2, .int a2)]) dX11_law_58 rfl (by decide) rfl ?_
        refine J_aload_n (i := 0) (kk := 1) dX11_law_59 rfl rfl ?_
        refine J_getR 23 (q := 0) (ci := 11) (kf := 4) kfX11_40 uxX11 rfl (by decide) rfl (by decide) rfl dX11_law_60 ?_
        refine J_iconst (v := 0) dX11_law_63 (by decide) ?_
        refine J_putf (q := 23) (ci := 10) (kf := 1) (ty := .int) kfX11_174 uxX10 tyX10_ok nmX10 rfl (by decide) rfl (by decide) rfl rfl rfl rfl rfl dX11_law_64 ?_
        refine J_iload_n (i := 3) (kk := 0) dX11_law_67 rfl rfl ?_
        refine J_iconst (v := (-1)) dX11_law_68 (by decide) ?_
        refine J_icmp_eq 77 dX11_law_69 (by decide) (fun hc => ?_) (fun hc => ?_)
        · replace h := h.1 hc
          refine J_aload_n (i := 0) (kk := 1) dX11_law_77 rfl rfl ?_
          refine J_getR 26 (q := 0) (ci := 11) (kf := 5) kfX11_47 uxX11 rfl (by decide) rfl (by decide) rfl dX11_law_78 ?_
          refine J_aload_n (i := 0) (kk := 1) dX11_law_81 rfl rfl ?_
          refine J_getR 23 (q := 0) (ci := 11) (kf := 4) kfX11_40 uxX11 rfl (by decide) rfl (by decide) rfl dX11_law_82 ?_
          refine J_getI (q := 23) (ci := 10) (kf := 4) kfX11_190 uxX10 rfl (by decide) rfl (by decide) rfl dX11_law_85 ?_
          refine J_eqI (y := rd σ2 23 4) rfl ?_
          refine J_iload_n (i := 1) (kk := 2) dX11_law_88 rfl rfl ?_
          refine J_iload_n (i := 2) (kk := 3) dX11_law_89 rfl rfl ?_
          refine J_aload_n (i := 0) (kk := 1) dX11_law_90 rfl rfl ?_
          refine J_getR 1 (q := 0) (ci := 11) (kf := 0) kfX11_10 uxX11 rfl (by decide) rfl (by decide) rfl dX11_law_91 ?_
          refine J_callV [] [.int a2, .int a1, .int (rd σ2 23 4), .ref 26] calX3_today klX11_152 (b := 1) (ci := 3) (by decide) rfl rfl rfl rfl (Nat.le_of_ble_eq_true rfl) dX11_law_94 (KI.to (S_X3_today) ?_)
          rintro x9 s9 ⟨rfl, rfl⟩
          refine J_eqI (y := (rd σ2 1 2) / (24 : Int32)) rfl ?_
          refine J_callV [.int (rd σ2 23 4), .int a1, .int a2, .int ((rd σ2 1 2) / (24 : Int32))] [] calX6_add klX11_193 (b := 26) (ci := 6) (by decide) rfl rfl rfl rfl (Nat.le_of_ble_eq_true rfl) dX11_law_97 (KI.to h ?_)
          clear h
          intro x5 σ4 h
          exact J_iret rfl dX11_law_100 h
        · replace h := h.2 hc
          refine J_bipush (v := (-100)) dX11_law_72 (by decide) ?_
          refine J_iload_n (i := 3) (kk := 0) dX11_law_74 rfl rfl ?_
          refine J_isub dX11_law_75 ?_
          exact J_iret rfl dX11_law_76 h
      · replace h := h.2 hc
        refine J_bipush (v := (-3)) dX11_law_33 (by decide) ?_
        exact J_iret rfl dX11_law_35 h
    · replace h := h.2 g6
      refine J_if_ne 21 dX11_law_16 (by decide) (fun hc => absurd hc (by decide)) (fun _ => ?_)
      refine J_iconst (v := (-1)) dX11_law_19 (by decide) ?_
      exact J_iret rfl dX11_law_20 h
  · replace h := h.2 g7
    refine J_if_eq 19 dX11_law_6 (by decide) (fun _ => ?_) (fun hc => absurd hc (by decide))
    refine J_iconst (v := (-1)) dX11_law_19 (by decide) ?_
    exact J_iret rfl dX11_law_20 h
theorem M_X11_law {Γ : GG} {l : Launch} {d : Nat} {Q : Option Value → St → Prop} {σ : St} (a1 : Int32) (a2 : Int32) (k : J Γ l (d + 4) mX11_law Q 0 [(0, .ref 0), (1, .int a1), (2, .int a2)] [] σ) : Meth Γ l (d + 4) mX11_law [.ref 0, .int a1, .int a2] σ Q := Meth_of_J (by decide +kernel) (fun _ => Nat.le_of_ble_eq_true rfl) (fun _ => rfl) k
set_option maxHeartbeats 4000000 in
set_option maxRecDepth 100000 in
theorem w_X11_inForce_0 {Γ : GG} {l : Launch} {d : Nat} {Q : Option Value → St → Prop} {σ : St} (a1 : Int32) (a2 : Int32) (a3 : Int32) (h : ((0 : Int32) ≤ a1 ∧ a1 ≤ (1 : Int32) → (0 ≤ a2 ∧ a2 < (1500 : Int32) → (0 ≤ a3 ∧ a3 < (1500 : Int32) → Meth Γ l d mX6_latest [.ref 26, .int a1, .int a2, .int a3] σ (KI (fun x2 σ1 => Q (some (.int x2)) σ1))) ∧ (¬ (0 ≤ a3 ∧ a3 < (1500 : Int32)) → Q (some (.int ((-1)))) σ)) ∧ (¬ (0 ≤ a2 ∧ a2 < (1500 : Int32)) → Q (some (.int ((-1)))) σ)) ∧ (¬ ((0 : Int32) ≤ a1 ∧ a1 ≤ (1 : Int32)) → Q (some (.int ((-1)))) σ)) : J Γ l (d + 1) mX11_inForce Q 0 [(0, .ref 0), (1, .int a1), (2, .int a2), (3, .int a3)] [] σ := by
  refine J_iconst (v := 0) dX11_inForce_0 (by decide) ?_
  refine J_iload_n (i := 1) (kk := 1) dX11_inForce_1 rfl rfl ?_
  refine J_iconst (v := 1) dX11_inForce_2 (by decide) ?_
  refine J_callS [.int (0), .int a1, .int (1)] [] calX11_isFrom klX11_110 rfl rfl (Nat.le_of_ble_eq_true rfl) dX11_inForce_3 (KI.to (S_X11_isFrom (0 : Int32) a1 (1 : Int32)) ?_)
  rintro x9 s9 ⟨rfl, ⟨g5, rfl⟩ | ⟨g5, rfl⟩⟩
  · replace h := h.1 g5
    refine J_if_eq 29 dX11_inForce_6 (by decide) (fun hc => absurd hc (by decide)) (fun _ => ?_)
    refine J_iload_n (i := 2) (kk := 2) dX11_inForce_9 rfl rfl ?_
    refine J_sipush (v := 1500) dX11_inForce_10 (by decide) ?_
    refine J_callS [.int a2, .int (1500)] [] calX11_isBelow klX11_99 rfl rfl (Nat.le_of_ble_eq_true rfl) dX11_inForce_13 (KI.to (S_X11_isBelow a2 (1500 : Int32)) ?_)
    rintro x9 s9 ⟨rfl, ⟨g4, rfl⟩ | ⟨g4, rfl⟩⟩
    · replace h := h.1 g4
      refine J_if_eq 29 dX11_inForce_16 (by decide) (fun hc => absurd hc (by decide)) (fun _ => ?_)
      refine J_iload_n (i := 3) (kk := 3) dX11_inForce_19 rfl rfl ?_
      refine J_sipush (v := 1500) dX11_inForce_20 (by decide) ?_
      refine J_callS [.int a3, .int (1500)] [] calX11_isBelow klX11_99 rfl rfl (Nat.le_of_ble_eq_true rfl) dX11_inForce_23 (KI.to (S_X11_isBelow a3 (1500 : Int32)) ?_)
      rintro x9 s9 ⟨rfl, ⟨g3, rfl⟩ | ⟨g3, rfl⟩⟩
      · replace h := h.1 g3
        refine J_if_ne 31 dX11_inForce_26 (by decide) (fun _ => ?_) (fun hc => absurd hc (by decide))
        refine J_aload_n (i := 0) (kk := 0) dX11_inForce_31 rfl rfl ?_
        refine J_getR 26 (q := 0) (ci := 11) (kf := 5) kfX11_47 uxX11 rfl (by decide) rfl (by decide) rfl dX11_inForce_32 ?_
        refine J_iload_n (i := 1) (kk := 1) dX11_inForce_35 rfl rfl ?_
        refine J_iload_n (i := 2) (kk := 2) dX11_inForce_36 rfl rfl ?_
        refine J_iload_n (i := 3) (kk := 3) dX11_inForce_37 rfl rfl ?_
        refine J_callV [.int a1, .int a2, .int a3] [] calX6_latest klX11_194 (b := 26) (ci := 6) (by decide) rfl rfl rfl rfl (Nat.le_of_ble_eq_true rfl) dX11_inForce_38 (KI.to h ?_)
        clear h
        intro x2 σ1 h
        exact J_iret rfl dX11_inForce_41 h
      · replace h := h.2 g3
        refine J_if_ne 31 dX11_inForce_26 (by decide) (fun hc => absurd hc (by decide)) (fun _ => ?_)
        refine J_iconst (v := (-1)) dX11_inForce_29 (by decide) ?_
        exact J_iret rfl dX11_inForce_30 h
    · replace h := h.2 g4
      refine J_if_eq 29 dX11_inForce_16 (by decide) (fun _ => ?_) (fun hc => absurd hc (by decide))
      refine J_iconst (v := (-1)) dX11_inForce_29 (by decide) ?_
      exact J_iret rfl dX11_inForce_30 h
  · replace h := h.2 g5
    refine J_if_eq 29 dX11_inForce_6 (by decide) (fun _ => ?_) (fun hc => absurd hc (by decide))
    refine J_iconst (v := (-1)) dX11_inForce_29 (by decide) ?_
    exact J_iret rfl dX11_inForce_30 h
theorem M_X11_inForce {Γ : GG} {l : Launch} {d : Nat} {Q : Option Value → St → Prop} {σ : St} (a1 : Int32) (a2 : Int32) (a3 : Int32) (k : J Γ l (d + 1) mX11_inForce Q 0 [(0, .ref 0), (1, .int a1), (2, .int a2), (3, .int a3)] [] σ) : Meth Γ l (d + 1) mX11_inForce [.ref 0, .int a1, .int a2, .int a3] σ Q := Meth_of_J (by decide +kernel) (fun _ => Nat.le_of_ble_eq_true rfl) (fun _ => rfl) k
set_option maxHeartbeats 4000000 in
set_option maxRecDepth 100000 in
theorem w_X11_says_0 {Γ : GG} {l : Launch} {d : Nat} {Q : Option Value → St → Prop} {σ : St} (a1 : Int32) (a2 : Int32) (h : (0 ≤ a1 ∧ a1 < (rd σ 26 5) → (0 ≤ a2 ∧ a2 < (rd σ 17 1) → Meth Γ l (d + 3) mX11_askOf [.ref 0, .int a1, .int a2] σ (KI (fun x2 σ1 => Q (some (.int x2)) σ1))) ∧ (¬ (0 ≤ a2 ∧ a2 < (rd σ 17 1)) → Q (some (.int ((-2000000000)))) σ)) ∧ (¬ (0 ≤ a1 ∧ a1 < (rd σ 26 5)) → Q (some (.int ((-2000000000)))) σ)) : J Γ l (d + 4) mX11_says Q 0 [(0, .ref 0), (1, .int a1), (2, .int a2)] [] σ := by
  refine J_iload_n (i := 1) (kk := 1) dX11_says_0 rfl rfl ?_
  refine J_aload_n (i := 0) (kk := 0) dX11_says_1 rfl rfl ?_
  refine J_getR 26 (q := 0) (ci := 11) (kf := 5) kfX11_47 uxX11 rfl (by decide) rfl (by decide) rfl dX11_says_2 ?_
  refine J_getI (q := 26) (ci := 6) (kf := 5) kfX11_180 uxX6 rfl (by decide) rfl (by decide) rfl dX11_says_5 ?_
  refine J_callS [.int a1, .int (rd σ 26 5)] [] calX11_isBelow klX11_99 rfl rfl (Nat.le_of_ble_eq_true rfl) dX11_says_8 (KI.to (S_X11_isBelow a1 (rd σ 26 5)) ?_)
  rintro x9 s9 ⟨rfl, ⟨g4, rfl⟩ | ⟨g4, rfl⟩⟩
  · replace h := h.1 g4
    refine J_if_eq 25 dX11_says_11 (by decide) (fun hc => absurd hc (by decide)) (fun _ => ?_)
    refine J_aload_n (i := 0) (kk := 0) dX11_says_14 rfl rfl ?_
    refine J_getR 17 (q := 0) (ci := 11) (kf := 3) kfX11_33 uxX11 rfl (by decide) rfl (by decide) rfl dX11_says_15 ?_
    refine J_iload_n (i := 2) (kk := 2) dX11_says_18 rfl rfl ?_
    refine J_callV [.int a2] [] calX0_has klX11_165 (b := 17) (ci := 0) (by decide) rfl rfl rfl rfl (Nat.le_of_ble_eq_true rfl) dX11_says_19 (KI.to (S_X0_has a2) ?_)
    rintro x9 s9 ⟨rfl, ⟨g3, rfl⟩ | ⟨g3, rfl⟩⟩
    · replace h := h.1 g3
      refine J_if_ne 28 dX11_says_22 (by decide) (fun _ => ?_) (fun hc => absurd hc (by decide))
      refine J_aload_n (i := 0) (kk := 0) dX11_says_28 rfl rfl ?_
      refine J_iload_n (i := 1) (kk := 1) dX11_says_29 rfl rfl ?_
      refine J_iload_n (i := 2) (kk := 2) dX11_says_30 rfl rfl ?_
      refine J_callV [.int a1, .int a2] [] calX11_askOf klX11_197 (b := 0) (ci := 11) (by decide) rfl rfl rfl rfl (Nat.le_of_ble_eq_true rfl) dX11_says_31 (KI.to h ?_)
      clear h
      intro x2 σ1 h
      exact J_iret rfl dX11_says_34 h
    · replace h := h.2 g3
      refine J_if_ne 28 dX11_says_22 (by decide) (fun hc => absurd hc (by decide)) (fun _ => ?_)
      refine J_ldc (v := (-2000000000)) kcX11_166 dX11_says_25 ?_
      exact J_iret rfl dX11_says_27 h
  · replace h := h.2 g4
    refine J_if_eq 25 dX11_says_11 (by decide) (fun _ => ?_) (fun hc => absurd hc (by decide))
    refine J_ldc (v := (-2000000000)) kcX11_166 dX11_says_25 ?_
    exact J_iret rfl dX11_says_27 h
theorem M_X11_says {Γ : GG} {l : Launch} {d : Nat} {Q : Option Value → St → Prop} {σ : St} (a1 : Int32) (a2 : Int32) (k : J Γ l (d + 4) mX11_says Q 0 [(0, .ref 0), (1, .int a1), (2, .int a2)] [] σ) : Meth Γ l (d + 4) mX11_says [.ref 0, .int a1, .int a2] σ Q := Meth_of_J (by decide +kernel) (fun _ => Nat.le_of_ble_eq_true rfl) (fun _ => rfl) k
set_option maxHeartbeats 4000000 in
set_option maxRecDepth 100000 in
theorem w_X11_buy_0 {Γ : GG} {l : Launch} {d : Nat} {Q : Option Value → St → Prop} {σ : St} (a1 : Int32) (a2 : Int32) (a3 : Int32) (h : ((0 ≤ a1 ∧ a1 < (rd σ 5 1)) ∧ 0 ≤ a2 ∧ a2 < (rd σ 11 5) → ((0 : Int32) ≤ a3 ∧ a3 ≤ (999 : Int32) → Meth Γ l (d + 5) mX11_mayTell [.ref 0, .int a1, .int a2] σ (KI (fun x2 σ1 => (x2 = (0 : Int32) → Q (some (.int ((-2)))) σ1) ∧ (¬ x2 = (0 : Int32) → (rd σ1 34 7 < (600 : Int32) → Meth Γ l (d + 5) mX11_lineUp [.ref 0, .int a1, .int a2, .int (0)] σ1 (KI (fun x4 σ3 => Meth Γ l (d + 5) mX0_takeFromLine [.ref 17, .int a3, .int (6)] σ3 (KI (fun x6 σ5 => vp_in a1 12 ∧ vp_in a2 10 ∧ ∀ x9 : Int32, x9 = rd σ5 ((a1.toNatClampNeg) + 118) (a2.toNatClampNeg) → vp_in a2 10 ∧ Meth Γ l (d + 5) mX8_add [.ref 34, .int a1, .int a2, .int (rd σ5 1 2)] (wr σ5 7 (a1.toNatClampNeg) ((rd σ5 7 (a1.toNatClampNeg)) + (x6 * (((rd σ5 12 a2.toNatClampNeg) * ((4 : Int32) - x9)) / (4 : Int32))))) (KI (fun x12 σ11 => vp_in x12 600 ∧ vp_in ((rd σ11 1 2) / (24 : Int32)) 1500 ∧ Q (some (.int x6)) (wr (wr (wr (wr σ11 38 (x12.toNatClampNeg) x9) 39 (x12.toNatClampNeg) (rd σ11 2 (((rd σ11 1 2) / (24 : Int32)).toNatClampNeg))) 40 (x12.toNatClampNeg) a3) 41 (x12.toNatClampNeg) x6)))))))) ∧ (¬ rd σ1 34 7 < (600 : Int32) → Q (some (.int ((-3)))) σ1))))) ∧ (¬ ((0 : Int32) ≤ a3 ∧ a3 ≤ (999 : Int32)) → Q (some (.int ((-1)))) σ)) ∧ (¬ ((0 ≤ a1 ∧ a1 < (rd σ 5 1)) ∧ 0 ≤ a2 ∧ a2 < (rd σ 11 5)) → Q (some (.int ((-1)))) σ)) : J Γ l (d + 6) mX11_buy Q 0 [(0, .ref 0), (1, .int a1), (2, .int a2), (3, .int a3)] [] σ := by
  refine J_aload_n (i := 0) (kk := 0) dX11_buy_0 rfl rfl ?_
  refine J_iload_n (i := 1) (kk := 1) dX11_buy_1 rfl rfl ?_
  refine J_iload_n (i := 2) (kk := 2) dX11_buy_2 rfl rfl ?_
  refine J_callV [.int a1, .int a2] [] calX11_hasBoth klX11_142 (b := 0) (ci := 11) (by decide) rfl rfl rfl rfl (Nat.le_of_ble_eq_true rfl) dX11_buy_3 (KI.to (S_X11_hasBoth a1 a2) ?_)
  rintro x9 s9 ⟨rfl, ⟨g16, rfl⟩ | ⟨g16, rfl⟩⟩
  · replace h := h.1 g16
    refine J_if_eq 20 dX11_buy_6 (by decide) (fun hc => absurd hc (by decide)) (fun _ => ?_)
    refine J_iconst (v := 0) dX11_buy_9 (by decide) ?_
    refine J_iload_n (i := 3) (kk := 3) dX11_buy_10 rfl rfl ?_
    refine J_sipush (v := 999) dX11_buy_11 (by decide) ?_
    refine J_callS [.int (0), .int a3, .int (999)] [] calX11_isFrom klX11_110 rfl rfl (Nat.le_of_ble_eq_true rfl) dX11_buy_14 (KI.to (S_X11_isFrom (0 : Int32) a3 (999 : Int32)) ?_)
    rintro x9 s9 ⟨rfl, ⟨g15, rfl⟩ | ⟨g15, rfl⟩⟩
    · replace h := h.1 g15
      refine J_if_ne 22 dX11_buy_17 (by decide) (fun _ => ?_) (fun hc => absurd hc (by decide))
      refine J_aload_n (i := 0) (kk := 0) dX11_buy_22 rfl rfl ?_
      refine J_iload_n (i := 1) (kk := 1) dX11_buy_23 rfl rfl ?_
      refine J_iload_n (i := 2) (kk := 2) dX11_buy_24 rfl rfl ?_
      refine J_callV [.int a1, .int a2] [] calX11_mayTell klX11_200 (b := 0) (ci := 11) (by decide) rfl rfl rfl rfl (Nat.le_of_ble_eq_true rfl) dX11_buy_25 (KI.to h ?_)
      clear h
      intro x2 σ1 h
      refine J_if_ne 34 dX11_buy_28 (by decide) (fun hc => ?_) (fun hc => ?_)
      · replace h := h.2 hc
        refine J_aload_n (i := 0) (kk := 0) dX11_buy_34 rfl rfl ?_
        refine J_getR 34 (q := 0) (ci := 11) (kf := 7) kfX11_61 uxX11 rfl (by decide) rfl (by decide) rfl dX11_buy_35 ?_
        refine J_getI (q := 34) (ci := 8) (kf := 7) kfX11_203 uxX8 rfl (by decide) rfl (by decide) rfl dX11_buy_38 ?_
        refine J_sipush (v := 600) dX11_buy_41 (by decide) ?_
        refine J_icmp_lt 50 dX11_buy_44 (by decide) (fun hc => ?_) (fun hc => ?_)
        · replace h := h.1 hc
          refine J_aload_n (i := 0) (kk := 0) dX11_buy_50 rfl rfl ?_
          refine J_iload_n (i := 1) (kk := 1) dX11_buy_51 rfl rfl ?_
          refine J_iload_n (i := 2) (kk := 2) dX11_buy_52 rfl rfl ?_
          refine J_iconst (v := 0) dX11_buy_53 (by decide) ?_
          refine J_callV [.int a1, .int a2, .int (0)] [] calX11_lineUp klX11_170 (b := 0) (ci := 11) (by decide) rfl rfl rfl rfl (Nat.le_of_ble_eq_true rfl) dX11_buy_54 (KI.to h ?_)
          clear h
          intro x4 σ3 h
          refine J_pop dX11_buy_57 rfl ?_
          refine J_aload_n (i := 0) (kk := 0) dX11_buy_58 rfl rfl ?_
          refine J_getR 17 (q := 0) (ci := 11) (kf := 3) kfX11_33 uxX11 rfl (by decide) rfl (by decide) rfl dX11_buy_59 ?_
          refine J_iload_n (i := 3) (kk := 3) dX11_buy_62 rfl rfl ?_
          refine J_bipush (v := 6) dX11_buy_63 (by decide) ?_
          refine J_callV [.int a3, .int (6)] [] calX0_takeFromLine klX11_204 (b := 17) (ci := 0) (by decide) rfl rfl rfl rfl (Nat.le_of_ble_eq_true rfl) dX11_buy_65 (KI.to h ?_)
          clear h
          intro x6 σ5 h
          refine J_istore (i := 4) (lv' := [(4, .int x6), (0, .ref 0), (1, .int a1), (2, .int a2), (3, .int a3)]) dX11_buy_68 (by decide) rfl ?_
          refine J_aload_n (i := 0) (kk := 1) dX11_buy_70 rfl rfl ?_
          refine J_getR 4 (q := 0) (ci := 11) (kf := 1) kfX11_19 uxX11 rfl (by decide) rfl (by decide) rfl dX11_buy_71 ?_
          refine J_getR 9 (q := 4) (ci := 9) (kf := 3) kfX11_145 uxX9 rfl (by decide) rfl (by decide) rfl dX11_buy_74 ?_
          refine J_iload_n (i := 1) (kk := 2) dX11_buy_77 rfl rfl ?_
          have b7 := h.1
          replace h := h.2
          refine J_aald2 (a1.toNatClampNeg) rfl (by decide) rfl b7 dX11_buy_78 ?_
          refine J_iload_n (i := 2) (kk := 3) dX11_buy_79 rfl rfl ?_
          have b8 := h.1
          replace h := h.2
          refine J_ald (a2.toNatClampNeg) rfl (nc_row118 (vp_lt b7)) (sk_row118 (vp_lt b7)) b8 dX11_buy_80 ?_
          refine J_nameI (fun x9 ex9 => ?_)
          replace h := h x9 ex9
          refine J_istore (i := 5) (lv' := [(5, .int x9), (4, .int x6), (0, .ref 0), (1, .int a1), (2, .int a2), (3, .int a3)]) dX11_buy_81 (by decide) rfl ?_
          refine J_aload_n (i := 0) (kk := 2) dX11_buy_83 rfl rfl ?_
          refine J_getR 4 (q := 0) (ci := 11) (kf := 1) kfX11_19 uxX11 rfl (by decide) rfl (by decide) rfl dX11_buy_84 ?_
          refine J_getR 7 (q := 4) (ci := 9) (kf := 1) kfX11_207 uxX9 rfl (by decide) rfl (by decide) rfl dX11_buy_87 ?_
          refine J_iload_n (i := 1) (kk := 3) dX11_buy_90 rfl rfl ?_
          refine J_dup2_11 dX11_buy_91 rfl rfl ?_
          refine J_ald (a1.toNatClampNeg) rfl (by decide) rfl b7 dX11_buy_92 ?_
          refine J_iload (i := 4) (kk := 1) dX11_buy_93 rfl ?_
          refine J_aload_n (i := 0) (kk := 2) dX11_buy_95 rfl rfl ?_
          refine J_getR 11 (q := 0) (ci := 11) (kf := 2) kfX11_26 uxX11 rfl (by decide) rfl (by decide) rfl dX11_buy_96 ?_
          refine J_iload_n (i := 2) (kk := 4) dX11_buy_99 rfl rfl ?_
          refine J_iload (i := 5) (kk := 0) dX11_buy_100 rfl ?_
          have b10 := h.1
          replace h := h.2
          refine J_callV [.int a2, .int x9] [.int x6, .int (rd σ5 7 (a1.toNatClampNeg)), .int a1, .ref 7] calX5_coinsAt klX11_121 (b := 11) (ci := 5) (by decide) rfl rfl rfl rfl (Nat.le_of_ble_eq_true rfl) dX11_buy_102 (KI.to (S_X5_coinsAt a2 x9 b10) ?_)
          rintro x9 s9 ⟨rfl, rfl⟩
          refine J_imul dX11_buy_105 ?_
          refine J_iadd dX11_buy_106 ?_
          refine J_ast (a1.toNatClampNeg) rfl (by decide) rfl b7 dX11_buy_107 ?_
          refine J_aload_n (i := 0) (kk := 2) dX11_buy_108 rfl rfl ?_
          refine J_getR 34 (q := 0) (ci := 11) (kf := 7) kfX11_61 uxX11 rfl (by decide) rfl (by decide) rfl dX11_buy_109 ?_
          refine J_iload_n (i := 1) (kk := 3) dX11_buy_112 rfl rfl ?_
          refine J_iload_n (i := 2) (kk := 4) dX11_buy_113 rfl rfl ?_
          refine J_aload_n (i := 0) (kk := 2) dX11_buy_114 rfl rfl ?_
          refine J_getR 1 (q := 0) (ci := 11) (kf := 0) kfX11_10 uxX11 rfl (by decide) rfl (by decide) rfl dX11_buy_115 ?_
          refine J_getI (q := 1) (ci := 3) (kf := 2) kfX11_132 uxX3 rfl (by decide) rfl (by decide) rfl dX11_buy_118 ?_
          refine J_eqI (y := rd σ5 1 2) rfl ?_
          refine J_callV [.int a1, .int a2, .int (rd σ5 1 2)] [] calX8_add klX11_210 (b := 34) (ci := 8) (by decide) rfl rfl rfl rfl (Nat.le_of_ble_eq_true rfl) dX11_buy_121 (KI.to h ?_)
          clear h
          intro x12 σ11 h
          refine J_istore (i := 6) (lv' := [(6, .int x12), (5, .int x9), (4, .int x6), (0, .ref 0), (1, .int a1), (2, .int a2), (3, .int a3)]) dX11_buy_124 (by decide) rfl ?_
          refine J_aload_n (i := 0) (kk := 3) dX11_buy_126 rfl rfl ?_
          refine J_getR 34 (q := 0) (ci := 11) (kf := 7) kfX11_61 uxX11 rfl (by decide) rfl (by decide) rfl dX11_buy_127 ?_
          refine J_getR 38 (q := 34) (ci := 8) (kf := 3) kfX11_212 uxX8 rfl (by decide) rfl (by decide) rfl dX11_buy_130 ?_
          refine J_iload (i := 6) (kk := 0) dX11_buy_133 rfl ?_
          refine J_iload (i := 5) (kk := 1) dX11_buy_135 rfl ?_
          have b13 := h.1
          replace h := h.2
          refine J_ast (x12.toNatClampNeg) rfl (by decide) rfl b13 dX11_buy_137 ?_
          refine J_aload_n (i := 0) (kk := 3) dX11_buy_138 rfl rfl ?_
          refine J_getR 34 (q := 0) (ci := 11) (kf := 7) kfX11_61 uxX11 rfl (by decide) rfl (by decide) rfl dX11_buy_139 ?_
          refine J_getR 39 (q := 34) (ci := 8) (kf := 4) kfX11_214 uxX8 rfl (by decide) rfl (by decide) rfl dX11_buy_142 ?_
          refine J_iload (i := 6) (kk := 0) dX11_buy_145 rfl ?_
          refine J_aload_n (i := 0) (kk := 3) dX11_buy_147 rfl rfl ?_
          refine J_getR 1 (q := 0) (ci := 11) (kf := 0) kfX11_10 uxX11 rfl (by decide) rfl (by decide) rfl dX11_buy_148 ?_
          have b14 := h.1
          replace h := h.2
          refine J_callV [] [.int x12, .ref 39] calX3_weatherNow klX11_215 (b := 1) (ci := 3) (by decide) rfl rfl rfl rfl (Nat.le_of_ble_eq_true rfl) dX11_buy_151 (KI.to (S_X3_weatherNow b14) ?_)
          rintro x9 s9 ⟨rfl, rfl⟩
          refine J_eqI (y := (rd σ11 2 (((rd σ11 1 2) / (24 : Int32)).toNatClampNeg))) rfl ?_
          refine J_ast (x12.toNatClampNeg) rfl (by decide) rfl b13 dX11_buy_154 ?_
          refine J_aload_n (i := 0) (kk := 3) dX11_buy_155 rfl rfl ?_
          refine J_getR 34 (q := 0) (ci := 11) (kf := 7) kfX11_61 uxX11 rfl (by decide) rfl (by decide) rfl dX11_buy_156 ?_
          refine J_getR 40 (q := 34) (ci := 8) (kf := 5) kfX11_218 uxX8 rfl (by decide) rfl (by decide) rfl dX11_buy_159 ?_
          refine J_iload (i := 6) (kk := 0) dX11_buy_162 rfl ?_
          refine J_iload_n (i := 3) (kk := 6) dX11_buy_164 rfl rfl ?_
          refine J_ast (x12.toNatClampNeg) rfl (by decide) rfl b13 dX11_buy_165 ?_
          refine J_aload_n (i := 0) (kk := 3) dX11_buy_166 rfl rfl ?_
          refine J_getR 34 (q := 0) (ci := 11) (kf := 7) kfX11_61 uxX11 rfl (by decide) rfl (by decide) rfl dX11_buy_167 ?_
          refine J_getR 41 (q := 34) (ci := 8) (kf := 6) kfX11_221 uxX8 rfl (by decide) rfl (by decide) rfl dX11_buy_170 ?_
          refine J_iload (i := 6) (kk := 0) dX11_buy_173 rfl ?_
          refine J_iload (i := 4) (kk := 2) dX11_buy_175 rfl ?_
          refine J_ast (x12.toNatClampNeg) rfl (by decide) rfl b13 dX11_buy_177 ?_
          refine J_iload (i := 4) (kk := 2) dX11_buy_178 rfl ?_
          exact J_iret rfl dX11_buy_180 h
        · replace h := h.2 hc
          refine J_bipush (v := (-3)) dX11_buy_47 (by decide) ?_
          exact J_iret rfl dX11_buy_49 h
      · replace h := h.1 hc
        refine J_bipush (v := (-2)) dX11_buy_31 (by decide) ?_
        exact J_iret rfl dX11_buy_33 h
    · replace h := h.2 g15
      refine J_if_ne 22 dX11_buy_17 (by decide) (fun hc => absurd hc (by decide)) (fun _ => ?_)
      refine J_iconst (v := (-1)) dX11_buy_20 (by decide) ?_
      exact J_iret rfl dX11_buy_21 h
  · replace h := h.2 g16
    refine J_if_eq 20 dX11_buy_6 (by decide) (fun _ => ?_) (fun hc => absurd hc (by decide))
    refine J_iconst (v := (-1)) dX11_buy_20 (by decide) ?_
    exact J_iret rfl dX11_buy_21 h
theorem M_X11_buy {Γ : GG} {l : Launch} {d : Nat} {Q : Option Value → St → Prop} {σ : St} (a1 : Int32) (a2 : Int32) (a3 : Int32) (k : J Γ l (d + 6) mX11_buy Q 0 [(0, .ref 0), (1, .int a1), (2, .int a2), (3, .int a3)] [] σ) : Meth Γ l (d + 6) mX11_buy [.ref 0, .int a1, .int a2, .int a3] σ Q := Meth_of_J (by decide +kernel) (fun _ => Nat.le_of_ble_eq_true rfl) (fun _ => rfl) k
set_option maxHeartbeats 4000000 in
set_option maxRecDepth 100000 in
theorem w_X11_foretold_0 {Γ : GG} {l : Launch} {d : Nat} {Q : Option Value → St → Prop} {σ : St} (a1 : Int32) (a2 : Int32) (a3 : Int32) (a4 : Int32) (h : ((0 ≤ a1 ∧ a1 < (rd σ 5 1)) ∧ 0 ≤ a2 ∧ a2 < (rd σ 11 5) → (a3 < (0 : Int32) → Q (some (.int ((-1)))) σ) ∧ (¬ a3 < (0 : Int32) → (0 ≤ a4 ∧ a4 < (1500 : Int32) → ∀ x1 : Int32, x1 = (a3 / (10 : Int32)) - (a3 / (10 : Int32)) / (10 : Int32) * (10 : Int32) → ∀ x2 : Int32, x2 = a3 - a3 / (10 : Int32) * (10 : Int32) → ((6 : Int32) ≤ (a3 / (100 : Int32)) ∧ (a3 / (100 : Int32)) ≤ (19 : Int32) → (0 ≤ x1 ∧ x1 < (4 : Int32) → (0 ≤ x2 ∧ x2 < (3 : Int32) → Meth Γ l (d + 2) mX8_foretell [.ref 34, .int a1, .int a2, .int (a3 / (100 : Int32)), .int x1, .int x2, .int a4] σ (KI (fun x4 σ3 => Q (some (.int x4)) σ3))) ∧ (¬ (0 ≤ x2 ∧ x2 < (3 : Int32)) → Q (some (.int ((-1)))) σ)) ∧ (¬ (0 ≤ x1 ∧ x1 < (4 : Int32)) → Q (some (.int ((-1)))) σ)) ∧ (¬ ((6 : Int32) ≤ (a3 / (100 : Int32)) ∧ (a3 / (100 : Int32)) ≤ (19 : Int32)) → Q (some (.int ((-1)))) σ)) ∧ (¬ (0 ≤ a4 ∧ a4 < (1500 : Int32)) → Q (some (.int ((-1)))) σ))) ∧ (¬ ((0 ≤ a1 ∧ a1 < (rd σ 5 1)) ∧ 0 ≤ a2 ∧ a2 < (rd σ 11 5)) → Q (some (.int ((-1)))) σ)) : J Γ l (d + 3) mX11_foretold Q 0 [(0, .ref 0), (1, .int a1), (2, .int a2), (3, .int a3), (4, .int a4)] [] σ := by
  refine J_aload_n (i := 0) (kk := 0) dX11_foretold_0 rfl rfl ?_
  refine J_iload_n (i := 1) (kk := 1) dX11_foretold_1 rfl rfl ?_
  refine J_iload_n (i := 2) (kk := 2) dX11_foretold_2 rfl rfl ?_
  refine J_callV [.int a1, .int a2] [] calX11_hasBoth klX11_142 (b := 0) (ci := 11) (by decide) rfl rfl rfl rfl (Nat.le_of_ble_eq_true rfl) dX11_foretold_3 (KI.to (S_X11_hasBoth a1 a2) ?_)
  rintro x9 s9 ⟨rfl, ⟨g9, rfl⟩ | ⟨g9, rfl⟩⟩
  · replace h := h.1 g9
    refine J_if_eq 24 dX11_foretold_6 (by decide) (fun hc => absurd hc (by decide)) (fun _ => ?_)
    refine J_iload_n (i := 3) (kk := 3) dX11_foretold_9 rfl rfl ?_
    refine J_if_lt 24 dX11_foretold_10 (by decide) (fun hc => ?_) (fun hc => ?_)
    · replace h := h.1 hc
      refine J_iconst (v := (-1)) dX11_foretold_24 (by decide) ?_
      exact J_iret rfl dX11_foretold_25 h
    · replace h := h.2 hc
      refine J_iload (i := 4) (kk := 4) dX11_foretold_13 rfl ?_
      refine J_sipush (v := 1500) dX11_foretold_15 (by decide) ?_
      refine J_callS [.int a4, .int (1500)] [] calX11_isBelow klX11_99 rfl rfl (Nat.le_of_ble_eq_true rfl) dX11_foretold_18 (KI.to (S_X11_isBelow a4 (1500 : Int32)) ?_)
      rintro x9 s9 ⟨rfl, ⟨g8, rfl⟩ | ⟨g8, rfl⟩⟩
      · replace h := h.1 g8
        refine J_if_ne 26 dX11_foretold_21 (by decide) (fun _ => ?_) (fun hc => absurd hc (by decide))
        refine J_iload_n (i := 3) (kk := 3) dX11_foretold_26 rfl rfl ?_
        refine J_bipush (v := 100) dX11_foretold_27 (by decide) ?_
        refine J_idiv dX11_foretold_29 (by decide) ?_
        refine J_istore (i := 5) (lv' := [(5, .int (a3 / (100 : Int32))), (0, .ref 0), (1, .int a1), (2, .int a2), (3, .int a3), (4, .int a4)]) dX11_foretold_30 (by decide) rfl ?_
        refine J_iload_n (i := 3) (kk := 4) dX11_foretold_32 rfl rfl ?_
        refine J_bipush (v := 10) dX11_foretold_33 (by decide) ?_
        refine J_idiv dX11_foretold_35 (by decide) ?_
        refine J_bipush (v := 10) dX11_foretold_36 (by decide) ?_
        refine J_irem dX11_foretold_38 (by decide) ?_
        refine J_nameI (fun x1 ex1 => ?_)
        replace h := h x1 ex1
        refine J_istore (i := 6) (lv' := [(6, .int x1), (5, .int (a3 / (100 : Int32))), (0, .ref 0), (1, .int a1), (2, .int a2), (3, .int a3), (4, .int a4)]) dX11_foretold_39 (by decide) rfl ?_
        refine J_iload_n (i := 3) (kk := 5) dX11_foretold_41 rfl rfl ?_
        refine J_bipush (v := 10) dX11_foretold_42 (by decide) ?_
        refine J_irem dX11_foretold_44 (by decide) ?_
        refine J_nameI (fun x2 ex2 => ?_)
        replace h := h x2 ex2
        refine J_istore (i := 7) (lv' := [(7, .int x2), (6, .int x1), (5, .int (a3 / (100 : Int32))), (0, .ref 0), (1, .int a1), (2, .int a2), (3, .int a3), (4, .int a4)]) dX11_foretold_45 (by decide) rfl ?_
        refine J_bipush (v := 6) dX11_foretold_47 (by decide) ?_
        refine J_iload (i := 5) (kk := 2) dX11_foretold_49 rfl ?_
        refine J_bipush (v := 19) dX11_foretold_51 (by decide) ?_
        refine J_callS [.int (6), .int (a3 / (100 : Int32)), .int (19)] [] calX11_isFrom klX11_110 rfl rfl (Nat.le_of_ble_eq_true rfl) dX11_foretold_53 (KI.to (S_X11_isFrom (6 : Int32) (a3 / (100 : Int32)) (19 : Int32)) ?_)
        rintro x9 s9 ⟨rfl, ⟨g7, rfl⟩ | ⟨g7, rfl⟩⟩
        · replace h := h.1 g7
          refine J_if_eq 77 dX11_foretold_56 (by decide) (fun hc => absurd hc (by decide)) (fun _ => ?_)
          refine J_iload (i := 6) (kk := 1) dX11_foretold_59 rfl ?_
          refine J_iconst (v := 4) dX11_foretold_61 (by decide) ?_
          refine J_callS [.int x1, .int (4)] [] calX11_isBelow klX11_99 rfl rfl (Nat.le_of_ble_eq_true rfl) dX11_foretold_62 (KI.to (S_X11_isBelow x1 (4 : Int32)) ?_)
          rintro x9 s9 ⟨rfl, ⟨g6, rfl⟩ | ⟨g6, rfl⟩⟩
          · replace h := h.1 g6
            refine J_if_eq 77 dX11_foretold_65 (by decide) (fun hc => absurd hc (by decide)) (fun _ => ?_)
            refine J_iload (i := 7) (kk := 0) dX11_foretold_68 rfl ?_
            refine J_iconst (v := 3) dX11_foretold_70 (by decide) ?_
            refine J_callS [.int x2, .int (3)] [] calX11_isBelow klX11_99 rfl rfl (Nat.le_of_ble_eq_true rfl) dX11_foretold_71 (KI.to (S_X11_isBelow x2 (3 : Int32)) ?_)
            rintro x9 s9 ⟨rfl, ⟨g5, rfl⟩ | ⟨g5, rfl⟩⟩
            · replace h := h.1 g5
              refine J_if_ne 79 dX11_foretold_74 (by decide) (fun _ => ?_) (fun hc => absurd hc (by decide))
              refine J_aload_n (i := 0) (kk := 3) dX11_foretold_79 rfl rfl ?_
              refine J_getR 34 (q := 0) (ci := 11) (kf := 7) kfX11_61 uxX11 rfl (by decide) rfl (by decide) rfl dX11_foretold_80 ?_
              refine J_iload_n (i := 1) (kk := 4) dX11_foretold_83 rfl rfl ?_
              refine J_iload_n (i := 2) (kk := 5) dX11_foretold_84 rfl rfl ?_
              refine J_iload (i := 5) (kk := 2) dX11_foretold_85 rfl ?_
              refine J_iload (i := 6) (kk := 1) dX11_foretold_87 rfl ?_
              refine J_iload (i := 7) (kk := 0) dX11_foretold_89 rfl ?_
              refine J_iload (i := 4) (kk := 7) dX11_foretold_91 rfl ?_
              refine J_callV [.int a1, .int a2, .int (a3 / (100 : Int32)), .int x1, .int x2, .int a4] [] calX8_foretell klX11_224 (b := 34) (ci := 8) (by decide) rfl rfl rfl rfl (Nat.le_of_ble_eq_true rfl) dX11_foretold_93 (KI.to h ?_)
              clear h
              intro x4 σ3 h
              exact J_iret rfl dX11_foretold_96 h
            · replace h := h.2 g5
              refine J_if_ne 79 dX11_foretold_74 (by decide) (fun hc => absurd hc (by decide)) (fun _ => ?_)
              refine J_iconst (v := (-1)) dX11_foretold_77 (by decide) ?_
              exact J_iret rfl dX11_foretold_78 h
          · replace h := h.2 g6
            refine J_if_eq 77 dX11_foretold_65 (by decide) (fun _ => ?_) (fun hc => absurd hc (by decide))
            refine J_iconst (v := (-1)) dX11_foretold_77 (by decide) ?_
            exact J_iret rfl dX11_foretold_78 h
        · replace h := h.2 g7
          refine J_if_eq 77 dX11_foretold_56 (by decide) (fun _ => ?_) (fun hc => absurd hc (by decide))
          refine J_iconst (v := (-1)) dX11_foretold_77 (by decide) ?_
          exact J_iret rfl dX11_foretold_78 h
      · replace h := h.2 g8
        refine J_if_ne 26 dX11_foretold_21 (by decide) (fun hc => absurd hc (by decide)) (fun _ => ?_)
        refine J_iconst (v := (-1)) dX11_foretold_24 (by decide) ?_
        exact J_iret rfl dX11_foretold_25 h
  · replace h := h.2 g9
    refine J_if_eq 24 dX11_foretold_6 (by decide) (fun _ => ?_) (fun hc => absurd hc (by decide))
    refine J_iconst (v := (-1)) dX11_foretold_24 (by decide) ?_
    exact J_iret rfl dX11_foretold_25 h
theorem M_X11_foretold {Γ : GG} {l : Launch} {d : Nat} {Q : Option Value → St → Prop} {σ : St} (a1 : Int32) (a2 : Int32) (a3 : Int32) (a4 : Int32) (k : J Γ l (d + 3) mX11_foretold Q 0 [(0, .ref 0), (1, .int a1), (2, .int a2), (3, .int a3), (4, .int a4)] [] σ) : Meth Γ l (d + 3) mX11_foretold [.ref 0, .int a1, .int a2, .int a3, .int a4] σ Q := Meth_of_J (by decide +kernel) (fun _ => Nat.le_of_ble_eq_true rfl) (fun _ => rfl) k
set_option maxHeartbeats 4000000 in
set_option maxRecDepth 100000 in
theorem w_X11_plan_61 {Γ : GG} {l : Launch} {d : Nat} {Q : Option Value → St → Prop} {σ : St} (a1 : Int32) (a2 : Int32) (a3 : Int32) (a4 : Int32) (a5 : Int32) (h : ((14 : Int32) ≤ a5 → ∀ x1 : Int32, x1 = a4 + 1 → J Γ l (d + 6) mX11_plan Q 32 [(0, .ref 0), (1, .int a1), (2, .int a2), (3, .int a3), (4, .int x1)] [] σ) ∧ (¬ (14 : Int32) ≤ a5 → vp_in a5 14 ∧ Meth Γ l (d + 5) mX8_foretell [.ref 34, .int a1, .int a2, .int ((6 : Int32) + a5), .int a4, .int a3, .int ((rd σ 1 2) / (24 : Int32))] σ (KI (fun x4 σ3 => vp_in a4 4 ∧ ∀ x6 : Int32, x6 = a5 + 1 → J Γ l (d + 6) mX11_plan Q 61 [(0, .ref 0), (1, .int a1), (2, .int a2), (3, .int a3), (4, .int a4), (5, .int x6)] [] (wr σ3 ((a5.toNatClampNeg) + 358) (a4.toNatClampNeg) x4))))) : J Γ l (d + 6) mX11_plan Q 61 [(0, .ref 0), (1, .int a1), (2, .int a2), (3, .int a3), (4, .int a4), (5, .int a5)] [] σ := by
  refine J_iload (i := 5) (kk := 5) dX11_plan_61 rfl ?_
  refine J_bipush (v := 14) dX11_plan_63 (by decide) ?_
  refine J_icmp_ge 111 dX11_plan_65 (by decide) (fun hc => ?_) (fun hc => ?_)
  · replace h := h.1 hc
    obtain ⟨x1, ex1⟩ : ∃ y : Int32, y = a4 + 1 := ⟨_, rfl⟩
    replace h := h x1 ex1
    refine J_iinc (i := 4) (kk := 4) (v := x1) (lv' := [(4, .int x1), (0, .ref 0), (1, .int a1), (2, .int a2), (3, .int a3), (5, .int a5)]) dX11_plan_111 rfl (by rw [ex1]; rfl) (by decide) rfl ?_
    refine J_goto (tgt := 32) dX11_plan_114 (by decide) ?_
    refine J_sub [1, 2, 3, 4, 0] rfl ?_
    exact h
  · replace h := h.2 hc
    refine J_aload_n (i := 0) (kk := 0) dX11_plan_68 rfl rfl ?_
    refine J_getR 44 (q := 0) (ci := 11) (kf := 8) kfX11_68 uxX11 rfl (by decide) rfl (by decide) rfl dX11_plan_69 ?_
    refine J_getR 45 (q := 44) (ci := 2) (kf := 0) kfX11_231 uxX2 rfl (by decide) rfl (by decide) rfl dX11_plan_72 ?_
    refine J_iload (i := 5) (kk := 5) dX11_plan_75 rfl ?_
    have b2 := h.1
    replace h := h.2
    refine J_aald2 (a5.toNatClampNeg) rfl (by decide) rfl b2 dX11_plan_77 ?_
    refine J_iload (i := 4) (kk := 4) dX11_plan_78 rfl ?_
    refine J_aload_n (i := 0) (kk := 0) dX11_plan_80 rfl rfl ?_
    refine J_getR 34 (q := 0) (ci := 11) (kf := 7) kfX11_61 uxX11 rfl (by decide) rfl (by decide) rfl dX11_plan_81 ?_
    refine J_iload_n (i := 1) (kk := 1) dX11_plan_84 rfl rfl ?_
    refine J_iload_n (i := 2) (kk := 2) dX11_plan_85 rfl rfl ?_
    refine J_bipush (v := 6) dX11_plan_86 (by decide) ?_
    refine J_iload (i := 5) (kk := 5) dX11_plan_88 rfl ?_
    refine J_iadd dX11_plan_90 ?_
    refine J_iload (i := 4) (kk := 4) dX11_plan_91 rfl ?_
    refine J_iload_n (i := 3) (kk := 3) dX11_plan_93 rfl rfl ?_
    refine J_aload_n (i := 0) (kk := 0) dX11_plan_94 rfl rfl ?_
    refine J_getR 1 (q := 0) (ci := 11) (kf := 0) kfX11_10 uxX11 rfl (by decide) rfl (by decide) rfl dX11_plan_95 ?_
    refine J_callV [] [.int a3, .int a4, .int ((6 : Int32) + a5), .int a2, .int a1, .ref 34, .int a4, .ref ((a5.toNatClampNeg) + 358)] calX3_today klX11_152 (b := 1) (ci := 3) (by decide) rfl rfl rfl rfl (Nat.le_of_ble_eq_true rfl) dX11_plan_98 (KI.to (S_X3_today) ?_)
    rintro x9 s9 ⟨rfl, rfl⟩
    refine J_callV [.int a1, .int a2, .int ((6 : Int32) + a5), .int a4, .int a3, .int ((rd σ 1 2) / (24 : Int32))] [.int a4, .ref ((a5.toNatClampNeg) + 358)] calX8_foretell klX11_224 (b := 34) (ci := 8) (by decide) rfl rfl rfl rfl (Nat.le_of_ble_eq_true rfl) dX11_plan_101 (KI.to h ?_)
    clear h
    intro x4 σ3 h
    have b5 := h.1
    replace h := h.2
    refine J_ast (a4.toNatClampNeg) rfl (nc_row358 (vp_lt b2)) (sk_row358 (vp_lt b2)) b5 dX11_plan_104 ?_
    obtain ⟨x6, ex6⟩ : ∃ y : Int32, y = a5 + 1 := ⟨_, rfl⟩
    replace h := h x6 ex6
    refine J_iinc (i := 5) (kk := 5) (v := x6) (lv' := [(5, .int x6), (0, .ref 0), (1, .int a1), (2, .int a2), (3, .int a3), (4, .int a4)]) dX11_plan_105 rfl (by rw [ex6]; rfl) (by decide) rfl ?_
    refine J_goto (tgt := 61) dX11_plan_108 (by decide) ?_
    refine J_sub [1, 2, 3, 4, 5, 0] rfl ?_
    exact h
set_option maxHeartbeats 4000000 in
set_option maxRecDepth 100000 in
theorem w_X11_plan_32 {Γ : GG} {l : Launch} {d : Nat} {Q : Option Value → St → Prop} {σ : St} (a1 : Int32) (a2 : Int32) (a3 : Int32) (a4 : Int32) (h : ((4 : Int32) ≤ a4 → Meth Γ l (d + 5) mX11_lineUp [.ref 0, .int a1, .int a2, .int (0)] σ (KI (fun x2 σ1 => vp_in a1 12 ∧ vp_in a2 10 ∧ Meth Γ l (d + 5) mX2_search [.ref 44, .int ((rd σ1 1 2) - (rd σ1 1 2) / (24 : Int32) * (24 : Int32)), .int (rd σ1 ((a1.toNatClampNeg) + 118) (a2.toNatClampNeg)), .int x2, .int (rd σ1 16 (a2.toNatClampNeg))] σ1 (KI (fun x6 σ5 => Q (some (.int x6)) σ5))))) ∧ (¬ (4 : Int32) ≤ a4 → vp_in a2 10 ∧ vp_in a4 4 ∧ J Γ l (d + 6) mX11_plan Q 61 [(0, .ref 0), (1, .int a1), (2, .int a2), (3, .int a3), (4, .int a4), (5, .int (0))] [] (wr σ 46 (a4.toNatClampNeg) (((rd σ 12 a2.toNatClampNeg) * ((4 : Int32) - a4)) / (4 : Int32))))) : J Γ l (d + 6) mX11_plan Q 32 [(0, .ref 0), (1, .int a1), (2, .int a2), (3, .int a3), (4, .int a4)] [] σ := by
  refine J_iload (i := 4) (kk := 4) dX11_plan_32 rfl ?_
  refine J_iconst (v := 4) dX11_plan_34 (by decide) ?_
  refine J_icmp_ge 117 dX11_plan_35 (by decide) (fun hc => ?_) (fun hc => ?_)
  · replace h := h.1 hc
    refine J_aload_n (i := 0) (kk := 0) dX11_plan_117 rfl rfl ?_
    refine J_iload_n (i := 1) (kk := 1) dX11_plan_118 rfl rfl ?_
    refine J_iload_n (i := 2) (kk := 2) dX11_plan_119 rfl rfl ?_
    refine J_iconst (v := 0) dX11_plan_120 (by decide) ?_
    refine J_callV [.int a1, .int a2, .int (0)] [] calX11_lineUp klX11_170 (b := 0) (ci := 11) (by decide) rfl rfl rfl rfl (Nat.le_of_ble_eq_true rfl) dX11_plan_121 (KI.to h ?_)
    clear h
    intro x2 σ1 h
    refine J_istore (i := 4) (lv' := [(4, .int x2), (0, .ref 0), (1, .int a1), (2, .int a2), (3, .int a3)]) dX11_plan_124 (by decide) rfl ?_
    refine J_aload_n (i := 0) (kk := 1) dX11_plan_126 rfl rfl ?_
    refine J_getR 44 (q := 0) (ci := 11) (kf := 8) kfX11_68 uxX11 rfl (by decide) rfl (by decide) rfl dX11_plan_127 ?_
    refine J_aload_n (i := 0) (kk := 1) dX11_plan_130 rfl rfl ?_
    refine J_getR 1 (q := 0) (ci := 11) (kf := 0) kfX11_10 uxX11 rfl (by decide) rfl (by decide) rfl dX11_plan_131 ?_
    refine J_callV [] [.ref 44] calX3_hourOfDay klX11_135 (b := 1) (ci := 3) (by decide) rfl rfl rfl rfl (Nat.le_of_ble_eq_true rfl) dX11_plan_134 (KI.to (S_X3_hourOfDay) ?_)
    rintro x9 s9 ⟨rfl, rfl⟩
    refine J_aload_n (i := 0) (kk := 1) dX11_plan_137 rfl rfl ?_
    refine J_getR 4 (q := 0) (ci := 11) (kf := 1) kfX11_19 uxX11 rfl (by decide) rfl (by decide) rfl dX11_plan_138 ?_
    refine J_getR 9 (q := 4) (ci := 9) (kf := 3) kfX11_145 uxX9 rfl (by decide) rfl (by decide) rfl dX11_plan_141 ?_
    refine J_iload_n (i := 1) (kk := 2) dX11_plan_144 rfl rfl ?_
    have b3 := h.1
    replace h := h.2
    refine J_aald2 (a1.toNatClampNeg) rfl (by decide) rfl b3 dX11_plan_145 ?_
    refine J_iload_n (i := 2) (kk := 3) dX11_plan_146 rfl rfl ?_
    have b4 := h.1
    replace h := h.2
    refine J_ald (a2.toNatClampNeg) rfl (nc_row118 (vp_lt b3)) (sk_row118 (vp_lt b3)) b4 dX11_plan_147 ?_
    refine J_iload (i := 4) (kk := 0) dX11_plan_148 rfl ?_
    refine J_aload_n (i := 0) (kk := 1) dX11_plan_150 rfl rfl ?_
    refine J_getR 11 (q := 0) (ci := 11) (kf := 2) kfX11_26 uxX11 rfl (by decide) rfl (by decide) rfl dX11_plan_151 ?_
    refine J_getR 16 (q := 11) (ci := 5) (kf := 4) kfX11_125 uxX5 rfl (by decide) rfl (by decide) rfl dX11_plan_154 ?_
    refine J_iload_n (i := 2) (kk := 3) dX11_plan_157 rfl rfl ?_
    refine J_ald (a2.toNatClampNeg) rfl (by decide) rfl b4 dX11_plan_158 ?_
    refine J_callV [.int ((rd σ1 1 2) - (rd σ1 1 2) / (24 : Int32) * (24 : Int32)), .int (rd σ1 ((a1.toNatClampNeg) + 118) (a2.toNatClampNeg)), .int x2, .int (rd σ1 16 (a2.toNatClampNeg))] [] calX2_search klX11_233 (b := 44) (ci := 2) (by decide) rfl rfl rfl rfl (Nat.le_of_ble_eq_true rfl) dX11_plan_159 (KI.to h ?_)
    clear h
    intro x6 σ5 h
    exact J_iret rfl dX11_plan_162 h
  · replace h := h.2 hc
    refine J_aload_n (i := 0) (kk := 0) dX11_plan_38 rfl rfl ?_
    refine J_getR 44 (q := 0) (ci := 11) (kf := 8) kfX11_68 uxX11 rfl (by decide) rfl (by decide) rfl dX11_plan_39 ?_
    refine J_getR 46 (q := 44) (ci := 2) (kf := 1) kfX11_228 uxX2 rfl (by decide) rfl (by decide) rfl dX11_plan_42 ?_
    refine J_iload (i := 4) (kk := 4) dX11_plan_45 rfl ?_
    refine J_aload_n (i := 0) (kk := 0) dX11_plan_47 rfl rfl ?_
    refine J_getR 11 (q := 0) (ci := 11) (kf := 2) kfX11_26 uxX11 rfl (by decide) rfl (by decide) rfl dX11_plan_48 ?_
    refine J_iload_n (i := 2) (kk := 2) dX11_plan_51 rfl rfl ?_
    refine J_iload (i := 4) (kk := 4) dX11_plan_52 rfl ?_
    have b7 := h.1
    replace h := h.2
    refine J_callV [.int a2, .int a4] [.int a4, .ref 46] calX5_coinsAt klX11_121 (b := 11) (ci := 5) (by decide) rfl rfl rfl rfl (Nat.le_of_ble_eq_true rfl) dX11_plan_54 (KI.to (S_X5_coinsAt a2 a4 b7) ?_)
    rintro x9 s9 ⟨rfl, rfl⟩
    have b8 := h.1
    replace h := h.2
    refine J_ast (a4.toNatClampNeg) rfl (by decide) rfl b8 dX11_plan_57 ?_
    refine J_iconst (v := 0) dX11_plan_58 (by decide) ?_
    refine J_istore (i := 5) (lv' := [(5, .int (0)), (0, .ref 0), (1, .int a1), (2, .int a2), (3, .int a3), (4, .int a4)]) dX11_plan_59 (by decide) rfl ?_
    refine J_sub [1, 2, 3, 4, 5, 0] rfl ?_
    exact h
set_option maxHeartbeats 4000000 in
set_option maxRecDepth 100000 in
theorem w_X11_plan_0 {Γ : GG} {l : Launch} {d : Nat} {Q : Option Value → St → Prop} {σ : St} (a1 : Int32) (a2 : Int32) (h : ((0 ≤ a1 ∧ a1 < (rd σ 5 1)) ∧ 0 ≤ a2 ∧ a2 < (rd σ 11 5) → Meth Γ l (d + 5) mX11_mayTell [.ref 0, .int a1, .int a2] σ (KI (fun x2 σ1 => (x2 = (0 : Int32) → Q (some (.int ((-2000000000)))) σ1) ∧ (¬ x2 = (0 : Int32) → vp_in ((rd σ1 1 2) / (24 : Int32)) 1500 ∧ ∀ x4 : Int32, x4 = (rd σ1 2 (((rd σ1 1 2) / (24 : Int32)).toNatClampNeg)) → J Γ l (d + 6) mX11_plan Q 32 [(0, .ref 0), (1, .int a1), (2, .int a2), (3, .int x4), (4, .int (0))] [] σ1)))) ∧ (¬ ((0 ≤ a1 ∧ a1 < (rd σ 5 1)) ∧ 0 ≤ a2 ∧ a2 < (rd σ 11 5)) → Q (some (.int ((-2000000000)))) σ)) : J Γ l (d + 6) mX11_plan Q 0 [(0, .ref 0), (1, .int a1), (2, .int a2)] [] σ := by
  refine J_aload_n (i := 0) (kk := 0) dX11_plan_0 rfl rfl ?_
  refine J_iload_n (i := 1) (kk := 1) dX11_plan_1 rfl rfl ?_
  refine J_iload_n (i := 2) (kk := 2) dX11_plan_2 rfl rfl ?_
  refine J_callV [.int a1, .int a2] [] calX11_hasBoth klX11_142 (b := 0) (ci := 11) (by decide) rfl rfl rfl rfl (Nat.le_of_ble_eq_true rfl) dX11_plan_3 (KI.to (S_X11_hasBoth a1 a2) ?_)
  rintro x9 s9 ⟨rfl, ⟨g5, rfl⟩ | ⟨g5, rfl⟩⟩
  · replace h := h.1 g5
    refine J_if_eq 18 dX11_plan_6 (by decide) (fun hc => absurd hc (by decide)) (fun _ => ?_)
    refine J_aload_n (i := 0) (kk := 0) dX11_plan_9 rfl rfl ?_
    refine J_iload_n (i := 1) (kk := 1) dX11_plan_10 rfl rfl ?_
    refine J_iload_n (i := 2) (kk := 2) dX11_plan_11 rfl rfl ?_
    refine J_callV [.int a1, .int a2] [] calX11_mayTell klX11_200 (b := 0) (ci := 11) (by decide) rfl rfl rfl rfl (Nat.le_of_ble_eq_true rfl) dX11_plan_12 (KI.to h ?_)
    clear h
    intro x2 σ1 h
    refine J_if_ne 21 dX11_plan_15 (by decide) (fun hc => ?_) (fun hc => ?_)
    · replace h := h.2 hc
      refine J_aload_n (i := 0) (kk := 0) dX11_plan_21 rfl rfl ?_
      refine J_getR 1 (q := 0) (ci := 11) (kf := 0) kfX11_10 uxX11 rfl (by decide) rfl (by decide) rfl dX11_plan_22 ?_
      have b3 := h.1
      replace h := h.2
      refine J_callV [] [] calX3_weatherNow klX11_215 (b := 1) (ci := 3) (by decide) rfl rfl rfl rfl (Nat.le_of_ble_eq_true rfl) dX11_plan_25 (KI.to (S_X3_weatherNow b3) ?_)
      rintro x9 s9 ⟨rfl, rfl⟩
      refine J_nameI (fun x4 ex4 => ?_)
      replace h := h x4 ex4
      refine J_istore_n (i := 3) (lv' := [(3, .int x4), (0, .ref 0), (1, .int a1), (2, .int a2)]) dX11_plan_28 rfl (by decide) rfl ?_
      refine J_iconst (v := 0) dX11_plan_29 (by decide) ?_
      refine J_istore (i := 4) (lv' := [(4, .int (0)), (3, .int x4), (0, .ref 0), (1, .int a1), (2, .int a2)]) dX11_plan_30 (by decide) rfl ?_
      refine J_sub [2, 3, 4, 1, 0] rfl ?_
      exact h
    · replace h := h.1 hc
      refine J_ldc (v := (-2000000000)) kcX11_166 dX11_plan_18 ?_
      exact J_iret rfl dX11_plan_20 h
  · replace h := h.2 g5
    refine J_if_eq 18 dX11_plan_6 (by decide) (fun _ => ?_) (fun hc => absurd hc (by decide))
    refine J_ldc (v := (-2000000000)) kcX11_166 dX11_plan_18 ?_
    exact J_iret rfl dX11_plan_20 h
theorem M_X11_plan {Γ : GG} {l : Launch} {d : Nat} {Q : Option Value → St → Prop} {σ : St} (a1 : Int32) (a2 : Int32) (k : J Γ l (d + 6) mX11_plan Q 0 [(0, .ref 0), (1, .int a1), (2, .int a2)] [] σ) : Meth Γ l (d + 6) mX11_plan [.ref 0, .int a1, .int a2] σ Q := Meth_of_J (by decide +kernel) (fun _ => Nat.le_of_ble_eq_true rfl) (fun _ => rfl) k
set_option maxHeartbeats 4000000 in
set_option maxRecDepth 100000 in
theorem w_X11_planned_0 {Γ : GG} {l : Launch} {d : Nat} {Q : Option Value → St → Prop} {σ : St} (a1 : Int32) (h : (rd σ 44 4 = (0 : Int32) → Q (some (.int ((-1)))) σ) ∧ (¬ rd σ 44 4 = (0 : Int32) → ((rd σ 44 5) ≤ a1 ∧ a1 ≤ (19 : Int32) → vp_in (a1 - (6 : Int32)) 14 ∧ Q (some (.int (rd σ 48 ((a1 - (6 : Int32)).toNatClampNeg)))) σ) ∧ (¬ ((rd σ 44 5) ≤ a1 ∧ a1 ≤ (19 : Int32)) → Q (some (.int ((-1)))) σ))) : J Γ l (d + 1) mX11_planned Q 0 [(0, .ref 0), (1, .int a1)] [] σ := by
  refine J_aload_n (i := 0) (kk := 0) dX11_planned_0 rfl rfl ?_
  refine J_getR 44 (q := 0) (ci := 11) (kf := 8) kfX11_68 uxX11 rfl (by decide) rfl (by decide) rfl dX11_planned_1 ?_
  refine J_getI (q := 44) (ci := 2) (kf := 4) kfX11_236 uxX2 rfl (by decide) rfl (by decide) rfl dX11_planned_4 ?_
  refine J_if_eq 26 dX11_planned_7 (by decide) (fun hc => ?_) (fun hc => ?_)
  · replace h := h.1 hc
    refine J_iconst (v := (-1)) dX11_planned_26 (by decide) ?_
    exact J_iret rfl dX11_planned_27 h
  · replace h := h.2 hc
    refine J_aload_n (i := 0) (kk := 0) dX11_planned_10 rfl rfl ?_
    refine J_getR 44 (q := 0) (ci := 11) (kf := 8) kfX11_68 uxX11 rfl (by decide) rfl (by decide) rfl dX11_planned_11 ?_
    refine J_getI (q := 44) (ci := 2) (kf := 5) kfX11_240 uxX2 rfl (by decide) rfl (by decide) rfl dX11_planned_14 ?_
    refine J_iload_n (i := 1) (kk := 1) dX11_planned_17 rfl rfl ?_
    refine J_bipush (v := 19) dX11_planned_18 (by decide) ?_
    refine J_callS [.int (rd σ 44 5), .int a1, .int (19)] [] calX11_isFrom klX11_110 rfl rfl (Nat.le_of_ble_eq_true rfl) dX11_planned_20 (KI.to (S_X11_isFrom (rd σ 44 5) a1 (19 : Int32)) ?_)
    rintro x9 s9 ⟨rfl, ⟨g2, rfl⟩ | ⟨g2, rfl⟩⟩
    · replace h := h.1 g2
      refine J_if_ne 28 dX11_planned_23 (by decide) (fun _ => ?_) (fun hc => absurd hc (by decide))
      refine J_aload_n (i := 0) (kk := 0) dX11_planned_28 rfl rfl ?_
      refine J_getR 44 (q := 0) (ci := 11) (kf := 8) kfX11_68 uxX11 rfl (by decide) rfl (by decide) rfl dX11_planned_29 ?_
      refine J_getR 48 (q := 44) (ci := 2) (kf := 3) kfX11_243 uxX2 rfl (by decide) rfl (by decide) rfl dX11_planned_32 ?_
      refine J_iload_n (i := 1) (kk := 1) dX11_planned_35 rfl rfl ?_
      refine J_bipush (v := 6) dX11_planned_36 (by decide) ?_
      refine J_isub dX11_planned_38 ?_
      have b1 := h.1
      replace h := h.2
      refine J_ald ((a1 - (6 : Int32)).toNatClampNeg) rfl (by decide) rfl b1 dX11_planned_39 ?_
      exact J_iret rfl dX11_planned_40 h
    · replace h := h.2 g2
      refine J_if_ne 28 dX11_planned_23 (by decide) (fun hc => absurd hc (by decide)) (fun _ => ?_)
      refine J_iconst (v := (-1)) dX11_planned_26 (by decide) ?_
      exact J_iret rfl dX11_planned_27 h
theorem M_X11_planned {Γ : GG} {l : Launch} {d : Nat} {Q : Option Value → St → Prop} {σ : St} (a1 : Int32) (k : J Γ l (d + 1) mX11_planned Q 0 [(0, .ref 0), (1, .int a1)] [] σ) : Meth Γ l (d + 1) mX11_planned [.ref 0, .int a1] σ Q := Meth_of_J (by decide +kernel) (fun _ => Nat.le_of_ble_eq_true rfl) (fun _ => rfl) k
set_option maxHeartbeats 4000000 in
set_option maxRecDepth 100000 in
theorem w_X11_left_0 {Γ : GG} {l : Launch} {d : Nat} {Q : Option Value → St → Prop} {σ : St}  (h : (rd σ 44 4 = (0 : Int32) → Q (some (.int ((-1)))) σ) ∧ (¬ rd σ 44 4 = (0 : Int32) → Q (some (.int (rd σ 44 6))) σ)) : J Γ l d mX11_left Q 0 [(0, .ref 0)] [] σ := by
  refine J_aload_n (i := 0) (kk := 0) dX11_left_0 rfl rfl ?_
  refine J_getR 44 (q := 0) (ci := 11) (kf := 8) kfX11_68 uxX11 rfl (by decide) rfl (by decide) rfl dX11_left_1 ?_
  refine J_getI (q := 44) (ci := 2) (kf := 4) kfX11_236 uxX2 rfl (by decide) rfl (by decide) rfl dX11_left_4 ?_
  refine J_if_eq 20 dX11_left_7 (by decide) (fun hc => ?_) (fun hc => ?_)
  · replace h := h.1 hc
    refine J_iconst (v := (-1)) dX11_left_20 (by decide) ?_
    exact J_iret rfl dX11_left_21 h
  · replace h := h.2 hc
    refine J_aload_n (i := 0) (kk := 0) dX11_left_10 rfl rfl ?_
    refine J_getR 44 (q := 0) (ci := 11) (kf := 8) kfX11_68 uxX11 rfl (by decide) rfl (by decide) rfl dX11_left_11 ?_
    refine J_getI (q := 44) (ci := 2) (kf := 6) kfX11_246 uxX2 rfl (by decide) rfl (by decide) rfl dX11_left_14 ?_
    refine J_goto (tgt := 21) dX11_left_17 (by decide) ?_
    exact J_iret rfl dX11_left_21 h
theorem M_X11_left {Γ : GG} {l : Launch} {d : Nat} {Q : Option Value → St → Prop} {σ : St}  (k : J Γ l d mX11_left Q 0 [(0, .ref 0)] [] σ) : Meth Γ l d mX11_left [.ref 0] σ Q := Meth_of_J (by decide +kernel) (fun _ => Nat.le_of_ble_eq_true rfl) (fun _ => rfl) k
set_option maxHeartbeats 4000000 in
set_option maxRecDepth 100000 in
theorem w_X11_order_0 {Γ : GG} {l : Launch} {d : Nat} {Q : Option Value → St → Prop} {σ : St} (a1 : Int32) (a2 : Int32) (a3 : Int32) (a4 : Int32) (h : Meth Γ l (d + 3) mX11_isMorning [.ref 0, .int a1, .int a2, .int a3, .int a4] σ (KI (fun x2 σ1 => (x2 = (0 : Int32) → Q (some (.int ((-1)))) σ1) ∧ (¬ x2 = (0 : Int32) → Meth Γ l (d + 3) mX8_sumDays [.ref 34, .int a1, .int a2, .int (a3 / (10 : Int32)), .int (a3 - a3 / (10 : Int32) * (10 : Int32)), .int a4] σ1 (KV (fun σ3 => vp_in a2 10 ∧ vp_in a2 10 ∧ Meth Γ l (d + 3) mX8_leastLoss [.ref 34, .int (mxI (0 : Int32) ((rd σ3 12 a2.toNatClampNeg) - (rd σ3 13 a2.toNatClampNeg))), .int ((rd σ3 13 a2.toNatClampNeg) + (rd σ3 16 a2.toNatClampNeg))] σ3 (KI (fun x7 σ6 => Q (some (.int x7)) σ6)))))))) : J Γ l (d + 4) mX11_order Q 0 [(0, .ref 0), (1, .int a1), (2, .int a2), (3, .int a3), (4, .int a4)] [] σ := by
  refine J_aload_n (i := 0) (kk := 0) dX11_order_0 rfl rfl ?_
  refine J_iload_n (i := 1) (kk := 1) dX11_order_1 rfl rfl ?_
  refine J_iload_n (i := 2) (kk := 2) dX11_order_2 rfl rfl ?_
  refine J_iload_n (i := 3) (kk := 3) dX11_order_3 rfl rfl ?_
  refine J_iload (i := 4) (kk := 4) dX11_order_4 rfl ?_
  refine J_callV [.int a1, .int a2, .int a3, .int a4] [] calX11_isMorning klX11_249 (b := 0) (ci := 11) (by decide) rfl rfl rfl rfl (Nat.le_of_ble_eq_true rfl) dX11_order_6 (KI.to h ?_)
  clear h
  intro x2 σ1 h
  refine J_if_ne 14 dX11_order_9 (by decide) (fun hc => ?_) (fun hc => ?_)
  · replace h := h.2 hc
    refine J_aload_n (i := 0) (kk := 0) dX11_order_14 rfl rfl ?_
    refine J_getR 34 (q := 0) (ci := 11) (kf := 7) kfX11_61 uxX11 rfl (by decide) rfl (by decide) rfl dX11_order_15 ?_
    refine J_iload_n (i := 1) (kk := 1) dX11_order_18 rfl rfl ?_
    refine J_iload_n (i := 2) (kk := 2) dX11_order_19 rfl rfl ?_
    refine J_iload_n (i := 3) (kk := 3) dX11_order_20 rfl rfl ?_
    refine J_bipush (v := 10) dX11_order_21 (by decide) ?_
    refine J_idiv dX11_order_23 (by decide) ?_
    refine J_iload_n (i := 3) (kk := 3) dX11_order_24 rfl rfl ?_
    refine J_bipush (v := 10) dX11_order_25 (by decide) ?_
    refine J_irem dX11_order_27 (by decide) ?_
    refine J_iload (i := 4) (kk := 4) dX11_order_28 rfl ?_
    refine J_callV [.int a1, .int a2, .int (a3 / (10 : Int32)), .int (a3 - a3 / (10 : Int32) * (10 : Int32)), .int a4] [] calX8_sumDays klX11_253 (b := 34) (ci := 8) (by decide) rfl rfl rfl rfl (Nat.le_of_ble_eq_true rfl) dX11_order_30 (KV.to h ?_)
    clear h
    intro σ3 h
    refine J_aload_n (i := 0) (kk := 0) dX11_order_33 rfl rfl ?_
    refine J_getR 34 (q := 0) (ci := 11) (kf := 7) kfX11_61 uxX11 rfl (by decide) rfl (by decide) rfl dX11_order_34 ?_
    refine J_aload_n (i := 0) (kk := 0) dX11_order_37 rfl rfl ?_
    refine J_getR 11 (q := 0) (ci := 11) (kf := 2) kfX11_26 uxX11 rfl (by decide) rfl (by decide) rfl dX11_order_38 ?_
    refine J_iload_n (i := 2) (kk := 2) dX11_order_41 rfl rfl ?_
    have b4 := h.1
    replace h := h.2
    refine J_callV [.int a2] [.ref 34] calX5_lackCost klX11_257 (b := 11) (ci := 5) (by decide) rfl rfl rfl rfl (Nat.le_of_ble_eq_true rfl) dX11_order_42 (KI.to (S_X5_lackCost a2 b4) ?_)
    rintro x9 s9 ⟨rfl, rfl⟩
    refine J_aload_n (i := 0) (kk := 0) dX11_order_45 rfl rfl ?_
    refine J_getR 11 (q := 0) (ci := 11) (kf := 2) kfX11_26 uxX11 rfl (by decide) rfl (by decide) rfl dX11_order_46 ?_
    refine J_iload_n (i := 2) (kk := 2) dX11_order_49 rfl rfl ?_
    have b5 := h.1
    replace h := h.2
    refine J_callV [.int a2] [.int (mxI (0 : Int32) ((rd σ3 12 a2.toNatClampNeg) - (rd σ3 13 a2.toNatClampNeg))), .ref 34] calX5_wasteCost klX11_260 (b := 11) (ci := 5) (by decide) rfl rfl rfl rfl (Nat.le_of_ble_eq_true rfl) dX11_order_50 (KI.to (S_X5_wasteCost a2 b5) ?_)
    rintro x9 s9 ⟨rfl, rfl⟩
    refine J_callV [.int (mxI (0 : Int32) ((rd σ3 12 a2.toNatClampNeg) - (rd σ3 13 a2.toNatClampNeg))), .int ((rd σ3 13 a2.toNatClampNeg) + (rd σ3 16 a2.toNatClampNeg))] [] calX8_leastLoss klX11_263 (b := 34) (ci := 8) (by decide) rfl rfl rfl rfl (Nat.le_of_ble_eq_true rfl) dX11_order_53 (KI.to h ?_)
    clear h
    intro x7 σ6 h
    exact J_iret rfl dX11_order_56 h
  · replace h := h.1 hc
    refine J_iconst (v := (-1)) dX11_order_12 (by decide) ?_
    exact J_iret rfl dX11_order_13 h
theorem M_X11_order {Γ : GG} {l : Launch} {d : Nat} {Q : Option Value → St → Prop} {σ : St} (a1 : Int32) (a2 : Int32) (a3 : Int32) (a4 : Int32) (k : J Γ l (d + 4) mX11_order Q 0 [(0, .ref 0), (1, .int a1), (2, .int a2), (3, .int a3), (4, .int a4)] [] σ) : Meth Γ l (d + 4) mX11_order [.ref 0, .int a1, .int a2, .int a3, .int a4] σ Q := Meth_of_J (by decide +kernel) (fun _ => Nat.le_of_ble_eq_true rfl) (fun _ => rfl) k
set_option maxHeartbeats 4000000 in
set_option maxRecDepth 100000 in
theorem w_X11_loss_0 {Γ : GG} {l : Launch} {d : Nat} {Q : Option Value → St → Prop} {σ : St} (a1 : Int32) (a2 : Int32) (a3 : Int32) (a4 : Int32) (a5 : Int32) (h : Meth Γ l (d + 3) mX11_isMorning [.ref 0, .int a1, .int a2, .int a3, .int a4] σ (KI (fun x2 σ1 => (x2 = (0 : Int32) → Q (some (.long (-1))) σ1) ∧ (¬ x2 = (0 : Int32) → ((0 : Int32) ≤ a5 ∧ a5 ≤ (999 : Int32) → Meth Γ l (d + 3) mX8_sumDays [.ref 34, .int a1, .int a2, .int (a3 / (10 : Int32)), .int (a3 - a3 / (10 : Int32) * (10 : Int32)), .int a4] σ1 (KV (fun σ3 => vp_in a2 10 ∧ vp_in a2 10 ∧ Meth Γ l (d + 3) mX8_lossOf [.ref 34, .int a5, .int (mxI (0 : Int32) ((rd σ3 12 a2.toNatClampNeg) - (rd σ3 13 a2.toNatClampNeg))), .int ((rd σ3 13 a2.toNatClampNeg) + (rd σ3 16 a2.toNatClampNeg))] σ3 (KL (fun x7 σ6 => Q (some (.long x7)) σ6))))) ∧ (¬ ((0 : Int32) ≤ a5 ∧ a5 ≤ (999 : Int32)) → Q (some (.long (-1))) σ1))))) : J Γ l (d + 4) mX11_loss Q 0 [(0, .ref 0), (1, .int a1), (2, .int a2), (3, .int a3), (4, .int a4), (5, .int a5)] [] σ := by
  refine J_aload_n (i := 0) (kk := 0) dX11_loss_0 rfl rfl ?_
  refine J_iload_n (i := 1) (kk := 1) dX11_loss_1 rfl rfl ?_
  refine J_iload_n (i := 2) (kk := 2) dX11_loss_2 rfl rfl ?_
  refine J_iload_n (i := 3) (kk := 3) dX11_loss_3 rfl rfl ?_
  refine J_iload (i := 4) (kk := 4) dX11_loss_4 rfl ?_
  refine J_callV [.int a1, .int a2, .int a3, .int a4] [] calX11_isMorning klX11_249 (b := 0) (ci := 11) (by decide) rfl rfl rfl rfl (Nat.le_of_ble_eq_true rfl) dX11_loss_6 (KI.to h ?_)
  clear h
  intro x2 σ1 h
  refine J_if_eq 24 dX11_loss_9 (by decide) (fun hc => ?_) (fun hc => ?_)
  · replace h := h.1 hc
    refine J_ldc2 (v := (-1)) kqX11_266 dX11_loss_24 ?_
    exact J_lret rfl dX11_loss_27 h
  · replace h := h.2 hc
    refine J_iconst (v := 0) dX11_loss_12 (by decide) ?_
    refine J_iload (i := 5) (kk := 5) dX11_loss_13 rfl ?_
    refine J_sipush (v := 999) dX11_loss_15 (by decide) ?_
    refine J_callS [.int (0), .int a5, .int (999)] [] calX11_isFrom klX11_110 rfl rfl (Nat.le_of_ble_eq_true rfl) dX11_loss_18 (KI.to (S_X11_isFrom (0 : Int32) a5 (999 : Int32)) ?_)
    rintro x9 s9 ⟨rfl, ⟨g8, rfl⟩ | ⟨g8, rfl⟩⟩
    · replace h := h.1 g8
      refine J_if_ne 28 dX11_loss_21 (by decide) (fun _ => ?_) (fun hc => absurd hc (by decide))
      refine J_aload_n (i := 0) (kk := 0) dX11_loss_28 rfl rfl ?_
      refine J_getR 34 (q := 0) (ci := 11) (kf := 7) kfX11_61 uxX11 rfl (by decide) rfl (by decide) rfl dX11_loss_29 ?_
      refine J_iload_n (i := 1) (kk := 1) dX11_loss_32 rfl rfl ?_
      refine J_iload_n (i := 2) (kk := 2) dX11_loss_33 rfl rfl ?_
      refine J_iload_n (i := 3) (kk := 3) dX11_loss_34 rfl rfl ?_
      refine J_bipush (v := 10) dX11_loss_35 (by decide) ?_
      refine J_idiv dX11_loss_37 (by decide) ?_
      refine J_iload_n (i := 3) (kk := 3) dX11_loss_38 rfl rfl ?_
      refine J_bipush (v := 10) dX11_loss_39 (by decide) ?_
      refine J_irem dX11_loss_41 (by decide) ?_
      refine J_iload (i := 4) (kk := 4) dX11_loss_42 rfl ?_
      refine J_callV [.int a1, .int a2, .int (a3 / (10 : Int32)), .int (a3 - a3 / (10 : Int32) * (10 : Int32)), .int a4] [] calX8_sumDays klX11_253 (b := 34) (ci := 8) (by decide) rfl rfl rfl rfl (Nat.le_of_ble_eq_true rfl) dX11_loss_44 (KV.to h ?_)
      clear h
      intro σ3 h
      refine J_aload_n (i := 0) (kk := 0) dX11_loss_47 rfl rfl ?_
      refine J_getR 34 (q := 0) (ci := 11) (kf := 7) kfX11_61 uxX11 rfl (by decide) rfl (by decide) rfl dX11_loss_48 ?_
      refine J_iload (i := 5) (kk := 5) dX11_loss_51 rfl ?_
      refine J_aload_n (i := 0) (kk := 0) dX11_loss_53 rfl rfl ?_
      refine J_getR 11 (q := 0) (ci := 11) (kf := 2) kfX11_26 uxX11 rfl (by decide) rfl (by decide) rfl dX11_loss_54 ?_
      refine J_iload_n (i := 2) (kk := 2) dX11_loss_57 rfl rfl ?_
      have b4 := h.1
      replace h := h.2
      refine J_callV [.int a2] [.int a5, .ref 34] calX5_lackCost klX11_257 (b := 11) (ci := 5) (by decide) rfl rfl rfl rfl (Nat.le_of_ble_eq_true rfl) dX11_loss_58 (KI.to (S_X5_lackCost a2 b4) ?_)
      rintro x9 s9 ⟨rfl, rfl⟩
      refine J_aload_n (i := 0) (kk := 0) dX11_loss_61 rfl rfl ?_
      refine J_getR 11 (q := 0) (ci := 11) (kf := 2) kfX11_26 uxX11 rfl (by decide) rfl (by decide) rfl dX11_loss_62 ?_
      refine J_iload_n (i := 2) (kk := 2) dX11_loss_65 rfl rfl ?_
      have b5 := h.1
      replace h := h.2
      refine J_callV [.int a2] [.int (mxI (0 : Int32) ((rd σ3 12 a2.toNatClampNeg) - (rd σ3 13 a2.toNatClampNeg))), .int a5, .ref 34] calX5_wasteCost klX11_260 (b := 11) (ci := 5) (by decide) rfl rfl rfl rfl (Nat.le_of_ble_eq_true rfl) dX11_loss_66 (KI.to (S_X5_wasteCost a2 b5) ?_)
      rintro x9 s9 ⟨rfl, rfl⟩
      refine J_callV [.int a5, .int (mxI (0 : Int32) ((rd σ3 12 a2.toNatClampNeg) - (rd σ3 13 a2.toNatClampNeg))), .int ((rd σ3 13 a2.toNatClampNeg) + (rd σ3 16 a2.toNatClampNeg))] [] calX8_lossOf klX11_268 (b := 34) (ci := 8) (by decide) rfl rfl rfl rfl (Nat.le_of_ble_eq_true rfl) dX11_loss_69 (KL.to h ?_)
      clear h
      intro x7 σ6 h
      exact J_lret rfl dX11_loss_72 h
    · replace h := h.2 g8
      refine J_if_ne 28 dX11_loss_21 (by decide) (fun hc => absurd hc (by decide)) (fun _ => ?_)
      refine J_ldc2 (v := (-1)) kqX11_266 dX11_loss_24 ?_
      exact J_lret rfl dX11_loss_27 h
theorem M_X11_loss {Γ : GG} {l : Launch} {d : Nat} {Q : Option Value → St → Prop} {σ : St} (a1 : Int32) (a2 : Int32) (a3 : Int32) (a4 : Int32) (a5 : Int32) (k : J Γ l (d + 4) mX11_loss Q 0 [(0, .ref 0), (1, .int a1), (2, .int a2), (3, .int a3), (4, .int a4), (5, .int a5)] [] σ) : Meth Γ l (d + 4) mX11_loss [.ref 0, .int a1, .int a2, .int a3, .int a4, .int a5] σ Q := Meth_of_J (by decide +kernel) (fun _ => Nat.le_of_ble_eq_true rfl) (fun _ => rfl) k
set_option maxHeartbeats 4000000 in
set_option maxRecDepth 100000 in
theorem w_X11_crates_0 {Γ : GG} {l : Launch} {d : Nat} {Q : Option Value → St → Prop} {σ : St} (a1 : Int32) (a2 : Int32) (a3 : Int32) (h : (0 ≤ a1 ∧ a1 < (rd σ 5 1) → ((0 : Int32) ≤ a2 ∧ a2 ≤ (1 : Int32) → ((0 : Int32) ≤ a3 ∧ a3 ≤ (3 : Int32) → (a2 = (0 : Int32) → vp_in a1 12 ∧ Q (some (.int (rd σ 50 (a1.toNatClampNeg)))) (wr σ 50 (a1.toNatClampNeg) a3)) ∧ (¬ a2 = (0 : Int32) → vp_in a1 12 ∧ Q (some (.int (rd σ 51 (a1.toNatClampNeg)))) (wr σ 51 (a1.toNatClampNeg) a3))) ∧ (¬ ((0 : Int32) ≤ a3 ∧ a3 ≤ (3 : Int32)) → Q (some (.int ((-1)))) σ)) ∧ (¬ ((0 : Int32) ≤ a2 ∧ a2 ≤ (1 : Int32)) → Q (some (.int ((-1)))) σ)) ∧ (¬ (0 ≤ a1 ∧ a1 < (rd σ 5 1)) → Q (some (.int ((-1)))) σ)) : J Γ l (d + 2) mX11_crates Q 0 [(0, .ref 0), (1, .int a1), (2, .int a2), (3, .int a3)] [] σ := by
  refine J_aload_n (i := 0) (kk := 0) dX11_crates_0 rfl rfl ?_
  refine J_getR 4 (q := 0) (ci := 11) (kf := 1) kfX11_19 uxX11 rfl (by decide) rfl (by decide) rfl dX11_crates_1 ?_
  refine J_getR 5 (q := 4) (ci := 9) (kf := 0) kfX11_103 uxX9 rfl (by decide) rfl (by decide) rfl dX11_crates_4 ?_
  refine J_iload_n (i := 1) (kk := 1) dX11_crates_7 rfl rfl ?_
  refine J_callV [.int a1] [] calX7_has klX11_272 (b := 5) (ci := 7) (by decide) rfl rfl rfl rfl (Nat.le_of_ble_eq_true rfl) dX11_crates_8 (KI.to (S_X7_has_5 a1) ?_)
  rintro x9 s9 ⟨rfl, ⟨g5, rfl⟩ | ⟨g5, rfl⟩⟩
  · replace h := h.1 g5
    refine J_if_eq 32 dX11_crates_11 (by decide) (fun hc => absurd hc (by decide)) (fun _ => ?_)
    refine J_iconst (v := 0) dX11_crates_14 (by decide) ?_
    refine J_iload_n (i := 2) (kk := 2) dX11_crates_15 rfl rfl ?_
    refine J_iconst (v := 1) dX11_crates_16 (by decide) ?_
    refine J_callS [.int (0), .int a2, .int (1)] [] calX11_isFrom klX11_110 rfl rfl (Nat.le_of_ble_eq_true rfl) dX11_crates_17 (KI.to (S_X11_isFrom (0 : Int32) a2 (1 : Int32)) ?_)
    rintro x9 s9 ⟨rfl, ⟨g4, rfl⟩ | ⟨g4, rfl⟩⟩
    · replace h := h.1 g4
      refine J_if_eq 32 dX11_crates_20 (by decide) (fun hc => absurd hc (by decide)) (fun _ => ?_)
      refine J_iconst (v := 0) dX11_crates_23 (by decide) ?_
      refine J_iload_n (i := 3) (kk := 3) dX11_crates_24 rfl rfl ?_
      refine J_iconst (v := 3) dX11_crates_25 (by decide) ?_
      refine J_callS [.int (0), .int a3, .int (3)] [] calX11_isFrom klX11_110 rfl rfl (Nat.le_of_ble_eq_true rfl) dX11_crates_26 (KI.to (S_X11_isFrom (0 : Int32) a3 (3 : Int32)) ?_)
      rintro x9 s9 ⟨rfl, ⟨g3, rfl⟩ | ⟨g3, rfl⟩⟩
      · replace h := h.1 g3
        refine J_if_ne 34 dX11_crates_29 (by decide) (fun _ => ?_) (fun hc => absurd hc (by decide))
        refine J_iload_n (i := 2) (kk := 2) dX11_crates_34 rfl rfl ?_
        refine J_if_ne 48 dX11_crates_35 (by decide) (fun hc => ?_) (fun hc => ?_)
        · replace h := h.2 hc
          refine J_aload_n (i := 0) (kk := 0) dX11_crates_48 rfl rfl ?_
          refine J_getR 49 (q := 0) (ci := 11) (kf := 9) kfX11_75 uxX11 rfl (by decide) rfl (by decide) rfl dX11_crates_49 ?_
          refine J_getR 51 (q := 49) (ci := 1) (kf := 1) kfX11_276 uxX1 rfl (by decide) rfl (by decide) rfl dX11_crates_52 ?_
          refine J_astore (i := 4) (lv' := [(4, .ref 51), (0, .ref 0), (1, .int a1), (2, .int a2), (3, .int a3)]) dX11_crates_55 (by decide) rfl ?_
          refine J_aload (i := 4) (kk := 0) dX11_crates_57 rfl ?_
          refine J_iload_n (i := 1) (kk := 2) dX11_crates_59 rfl rfl ?_
          have b1 := h.1
          replace h := h.2
          refine J_ald (a1.toNatClampNeg) rfl (by decide) rfl b1 dX11_crates_60 ?_
          refine J_istore (i := 5) (lv' := [(5, .int (rd σ 51 (a1.toNatClampNeg))), (4, .ref 51), (0, .ref 0), (1, .int a1), (2, .int a2), (3, .int a3)]) dX11_crates_61 (by decide) rfl ?_
          refine J_aload (i := 4) (kk := 1) dX11_crates_63 rfl ?_
          refine J_iload_n (i := 1) (kk := 3) dX11_crates_65 rfl rfl ?_
          refine J_iload_n (i := 3) (kk := 5) dX11_crates_66 rfl rfl ?_
          refine J_ast (a1.toNatClampNeg) rfl (by decide) rfl b1 dX11_crates_67 ?_
          refine J_iload (i := 5) (kk := 0) dX11_crates_68 rfl ?_
          exact J_iret rfl dX11_crates_70 h
        · replace h := h.1 hc
          refine J_aload_n (i := 0) (kk := 0) dX11_crates_38 rfl rfl ?_
          refine J_getR 49 (q := 0) (ci := 11) (kf := 9) kfX11_75 uxX11 rfl (by decide) rfl (by decide) rfl dX11_crates_39 ?_
          refine J_getR 50 (q := 49) (ci := 1) (kf := 0) kfX11_273 uxX1 rfl (by decide) rfl (by decide) rfl dX11_crates_42 ?_
          refine J_goto (tgt := 55) dX11_crates_45 (by decide) ?_
          refine J_astore (i := 4) (lv' := [(4, .ref 50), (0, .ref 0), (1, .int a1), (2, .int a2), (3, .int a3)]) dX11_crates_55 (by decide) rfl ?_
          refine J_aload (i := 4) (kk := 0) dX11_crates_57 rfl ?_
          refine J_iload_n (i := 1) (kk := 2) dX11_crates_59 rfl rfl ?_
          have b2 := h.1
          replace h := h.2
          refine J_ald (a1.toNatClampNeg) rfl (by decide) rfl b2 dX11_crates_60 ?_
          refine J_istore (i := 5) (lv' := [(5, .int (rd σ 50 (a1.toNatClampNeg))), (4, .ref 50), (0, .ref 0), (1, .int a1), (2, .int a2), (3, .int a3)]) dX11_crates_61 (by decide) rfl ?_
          refine J_aload (i := 4) (kk := 1) dX11_crates_63 rfl ?_
          refine J_iload_n (i := 1) (kk := 3) dX11_crates_65 rfl rfl ?_
          refine J_iload_n (i := 3) (kk := 5) dX11_crates_66 rfl rfl ?_
          refine J_ast (a1.toNatClampNeg) rfl (by decide) rfl b2 dX11_crates_67 ?_
          refine J_iload (i := 5) (kk := 0) dX11_crates_68 rfl ?_
          exact J_iret rfl dX11_crates_70 h
      · replace h := h.2 g3
        refine J_if_ne 34 dX11_crates_29 (by decide) (fun hc => absurd hc (by decide)) (fun _ => ?_)
        refine J_iconst (v := (-1)) dX11_crates_32 (by decide) ?_
        exact J_iret rfl dX11_crates_33 h
    · replace h := h.2 g4
      refine J_if_eq 32 dX11_crates_20 (by decide) (fun _ => ?_) (fun hc => absurd hc (by decide))
      refine J_iconst (v := (-1)) dX11_crates_32 (by decide) ?_
      exact J_iret rfl dX11_crates_33 h
  · replace h := h.2 g5
    refine J_if_eq 32 dX11_crates_11 (by decide) (fun _ => ?_) (fun hc => absurd hc (by decide))
    refine J_iconst (v := (-1)) dX11_crates_32 (by decide) ?_
    exact J_iret rfl dX11_crates_33 h
theorem M_X11_crates {Γ : GG} {l : Launch} {d : Nat} {Q : Option Value → St → Prop} {σ : St} (a1 : Int32) (a2 : Int32) (a3 : Int32) (k : J Γ l (d + 2) mX11_crates Q 0 [(0, .ref 0), (1, .int a1), (2, .int a2), (3, .int a3)] [] σ) : Meth Γ l (d + 2) mX11_crates [.ref 0, .int a1, .int a2, .int a3] σ Q := Meth_of_J (by decide +kernel) (fun _ => Nat.le_of_ble_eq_true rfl) (fun _ => rfl) k
set_option maxHeartbeats 4000000 in
set_option maxRecDepth 100000 in
theorem w_X11_ways_0 {Γ : GG} {l : Launch} {d : Nat} {Q : Option Value → St → Prop} {σ : St}  (h : Meth Γ l (d + 3) mX1_allNeed [.ref 49] σ (KI (fun x2 σ1 => (x2 ≤ (6 : Int32) → Meth Γ l (d + 3) mX1_search [.ref 49, .ref 5] σ1 (KI (fun x4 σ3 => Q (some (.int x4)) σ3))) ∧ (¬ x2 ≤ (6 : Int32) → Q (some (.int ((-4)))) σ1)))) : J Γ l (d + 4) mX11_ways Q 0 [(0, .ref 0)] [] σ := by
  refine J_aload_n (i := 0) (kk := 0) dX11_ways_0 rfl rfl ?_
  refine J_getR 49 (q := 0) (ci := 11) (kf := 9) kfX11_75 uxX11 rfl (by decide) rfl (by decide) rfl dX11_ways_1 ?_
  refine J_callV [] [] calX1_allNeed klX11_279 (b := 49) (ci := 1) (by decide) rfl rfl rfl rfl (Nat.le_of_ble_eq_true rfl) dX11_ways_4 (KI.to h ?_)
  clear h
  intro x2 σ1 h
  refine J_bipush (v := 6) dX11_ways_7 (by decide) ?_
  refine J_icmp_le 15 dX11_ways_9 (by decide) (fun hc => ?_) (fun hc => ?_)
  · replace h := h.1 hc
    refine J_aload_n (i := 0) (kk := 0) dX11_ways_15 rfl rfl ?_
    refine J_getR 49 (q := 0) (ci := 11) (kf := 9) kfX11_75 uxX11 rfl (by decide) rfl (by decide) rfl dX11_ways_16 ?_
    refine J_aload_n (i := 0) (kk := 0) dX11_ways_19 rfl rfl ?_
    refine J_getR 4 (q := 0) (ci := 11) (kf := 1) kfX11_19 uxX11 rfl (by decide) rfl (by decide) rfl dX11_ways_20 ?_
    refine J_getR 5 (q := 4) (ci := 9) (kf := 0) kfX11_103 uxX9 rfl (by decide) rfl (by decide) rfl dX11_ways_23 ?_
    refine J_callV [.ref 5] [] calX1_search klX11_282 (b := 49) (ci := 1) (by decide) rfl rfl rfl rfl (Nat.le_of_ble_eq_true rfl) dX11_ways_26 (KI.to h ?_)
    clear h
    intro x4 σ3 h
    exact J_iret rfl dX11_ways_29 h
  · replace h := h.2 hc
    refine J_bipush (v := (-4)) dX11_ways_12 (by decide) ?_
    exact J_iret rfl dX11_ways_14 h
theorem M_X11_ways {Γ : GG} {l : Launch} {d : Nat} {Q : Option Value → St → Prop} {σ : St}  (k : J Γ l (d + 4) mX11_ways Q 0 [(0, .ref 0)] [] σ) : Meth Γ l (d + 4) mX11_ways [.ref 0] σ Q := Meth_of_J (by decide +kernel) (fun _ => Nat.le_of_ble_eq_true rfl) (fun _ => rfl) k
set_option maxHeartbeats 4000000 in
set_option maxRecDepth 100000 in
theorem w_X11_comes_0 {Γ : GG} {l : Launch} {d : Nat} {Q : Option Value → St → Prop} {σ : St} (a1 : Int32) (h : (0 ≤ a1 ∧ a1 < (rd σ 49 5) → vp_in a1 6 ∧ (rd σ 53 (a1.toNatClampNeg) = (15 : Int32) → Q (some (.int ((-2)))) σ) ∧ (¬ rd σ 53 (a1.toNatClampNeg) = (15 : Int32) → Q (some (.int (rd σ 53 (a1.toNatClampNeg)))) σ)) ∧ (¬ (0 ≤ a1 ∧ a1 < (rd σ 49 5)) → Q (some (.int ((-1)))) σ)) : J Γ l (d + 1) mX11_comes Q 0 [(0, .ref 0), (1, .int a1)] [] σ := by
  refine J_iload_n (i := 1) (kk := 1) dX11_comes_0 rfl rfl ?_
  refine J_aload_n (i := 0) (kk := 0) dX11_comes_1 rfl rfl ?_
  refine J_getR 49 (q := 0) (ci := 11) (kf := 9) kfX11_75 uxX11 rfl (by decide) rfl (by decide) rfl dX11_comes_2 ?_
  refine J_getI (q := 49) (ci := 1) (kf := 5) kfX11_285 uxX1 rfl (by decide) rfl (by decide) rfl dX11_comes_5 ?_
  refine J_callS [.int a1, .int (rd σ 49 5)] [] calX11_isBelow klX11_99 rfl rfl (Nat.le_of_ble_eq_true rfl) dX11_comes_8 (KI.to (S_X11_isBelow a1 (rd σ 49 5)) ?_)
  rintro x9 s9 ⟨rfl, ⟨g2, rfl⟩ | ⟨g2, rfl⟩⟩
  · replace h := h.1 g2
    refine J_if_ne 16 dX11_comes_11 (by decide) (fun _ => ?_) (fun hc => absurd hc (by decide))
    refine J_aload_n (i := 0) (kk := 0) dX11_comes_16 rfl rfl ?_
    refine J_getR 49 (q := 0) (ci := 11) (kf := 9) kfX11_75 uxX11 rfl (by decide) rfl (by decide) rfl dX11_comes_17 ?_
    refine J_getR 53 (q := 49) (ci := 1) (kf := 3) kfX11_286 uxX1 rfl (by decide) rfl (by decide) rfl dX11_comes_20 ?_
    refine J_iload_n (i := 1) (kk := 1) dX11_comes_23 rfl rfl ?_
    have b1 := h.1
    replace h := h.2
    refine J_ald (a1.toNatClampNeg) rfl (by decide) rfl b1 dX11_comes_24 ?_
    refine J_bipush (v := 15) dX11_comes_25 (by decide) ?_
    refine J_icmp_ne 35 dX11_comes_27 (by decide) (fun hc => ?_) (fun hc => ?_)
    · replace h := h.2 hc
      refine J_aload_n (i := 0) (kk := 0) dX11_comes_35 rfl rfl ?_
      refine J_getR 49 (q := 0) (ci := 11) (kf := 9) kfX11_75 uxX11 rfl (by decide) rfl (by decide) rfl dX11_comes_36 ?_
      refine J_getR 53 (q := 49) (ci := 1) (kf := 3) kfX11_286 uxX1 rfl (by decide) rfl (by decide) rfl dX11_comes_39 ?_
      refine J_iload_n (i := 1) (kk := 1) dX11_comes_42 rfl rfl ?_
      refine J_ald (a1.toNatClampNeg) rfl (by decide) rfl b1 dX11_comes_43 ?_
      exact J_iret rfl dX11_comes_44 h
    · replace h := h.1 hc
      refine J_bipush (v := (-2)) dX11_comes_30 (by decide) ?_
      refine J_goto (tgt := 44) dX11_comes_32 (by decide) ?_
      exact J_iret rfl dX11_comes_44 h
  · replace h := h.2 g2
    refine J_if_ne 16 dX11_comes_11 (by decide) (fun hc => absurd hc (by decide)) (fun _ => ?_)
    refine J_iconst (v := (-1)) dX11_comes_14 (by decide) ?_
    exact J_iret rfl dX11_comes_15 h
theorem M_X11_comes {Γ : GG} {l : Launch} {d : Nat} {Q : Option Value → St → Prop} {σ : St} (a1 : Int32) (k : J Γ l (d + 1) mX11_comes Q 0 [(0, .ref 0), (1, .int a1)] [] σ) : Meth Γ l (d + 1) mX11_comes [.ref 0, .int a1] σ Q := Meth_of_J (by decide +kernel) (fun _ => Nat.le_of_ble_eq_true rfl) (fun _ => rfl) k
set_option maxHeartbeats 4000000 in
set_option maxRecDepth 100000 in
theorem w_X11_move_0 {Γ : GG} {l : Launch} {d : Nat} {Q : Option Value → St → Prop} {σ : St} (a1 : Int32) (a2 : Int32) (a3 : Int32) (a4 : Int32) (h : ((0 ≤ a1 ∧ a1 < (rd σ 5 1)) ∧ 0 ≤ a3 ∧ a3 < (rd σ 11 5) → (0 ≤ a2 ∧ a2 < (rd σ 5 1) → (a1 = a2 → Q (some (.int ((-1)))) σ) ∧ (¬ a1 = a2 → ((1 : Int32) ≤ a4 ∧ a4 ≤ (999 : Int32) → Meth Γ l (d + 5) mX11_lineUp [.ref 0, .int a1, .int a3, .int (0)] σ (KI (fun x2 σ1 => (x2 = (0 : Int32) → Q (some (.int ((-2)))) σ1) ∧ (¬ x2 = (0 : Int32) → Meth Γ l (d + 5) mX0_touchedBy [.ref 17, .int a4] σ1 (KI (fun x4 σ3 => (x4 ≤ (200 : Int32) - (rd σ3 17 1) → Meth Γ l (d + 5) mX0_moveFromLine [.ref 17, .int a4, .int a2] σ3 (KI (fun x6 σ5 => Q (some (.int x6)) σ5))) ∧ (¬ x4 ≤ (200 : Int32) - (rd σ3 17 1) → Q (some (.int ((-3)))) σ3))))))) ∧ (¬ ((1 : Int32) ≤ a4 ∧ a4 ≤ (999 : Int32)) → Q (some (.int ((-1)))) σ))) ∧ (¬ (0 ≤ a2 ∧ a2 < (rd σ 5 1)) → Q (some (.int ((-1)))) σ)) ∧ (¬ ((0 ≤ a1 ∧ a1 < (rd σ 5 1)) ∧ 0 ≤ a3 ∧ a3 < (rd σ 11 5)) → Q (some (.int ((-1)))) σ)) : J Γ l (d + 6) mX11_move Q 0 [(0, .ref 0), (1, .int a1), (2, .int a2), (3, .int a3), (4, .int a4)] [] σ := by
  refine J_aload_n (i := 0) (kk := 0) dX11_move_0 rfl rfl ?_
  refine J_iload_n (i := 1) (kk := 1) dX11_move_1 rfl rfl ?_
  refine J_iload_n (i := 3) (kk := 3) dX11_move_2 rfl rfl ?_
  refine J_callV [.int a1, .int a3] [] calX11_hasBoth klX11_142 (b := 0) (ci := 11) (by decide) rfl rfl rfl rfl (Nat.le_of_ble_eq_true rfl) dX11_move_3 (KI.to (S_X11_hasBoth a1 a3) ?_)
  rintro x9 s9 ⟨rfl, ⟨g9, rfl⟩ | ⟨g9, rfl⟩⟩
  · replace h := h.1 g9
    refine J_if_eq 28 dX11_move_6 (by decide) (fun hc => absurd hc (by decide)) (fun _ => ?_)
    refine J_aload_n (i := 0) (kk := 0) dX11_move_9 rfl rfl ?_
    refine J_getR 4 (q := 0) (ci := 11) (kf := 1) kfX11_19 uxX11 rfl (by decide) rfl (by decide) rfl dX11_move_10 ?_
    refine J_getR 5 (q := 4) (ci := 9) (kf := 0) kfX11_103 uxX9 rfl (by decide) rfl (by decide) rfl dX11_move_13 ?_
    refine J_iload_n (i := 2) (kk := 2) dX11_move_16 rfl rfl ?_
    refine J_callV [.int a2] [] calX7_has klX11_272 (b := 5) (ci := 7) (by decide) rfl rfl rfl rfl (Nat.le_of_ble_eq_true rfl) dX11_move_17 (KI.to (S_X7_has_5 a2) ?_)
    rintro x9 s9 ⟨rfl, ⟨g8, rfl⟩ | ⟨g8, rfl⟩⟩
    · replace h := h.1 g8
      refine J_if_eq 28 dX11_move_20 (by decide) (fun hc => absurd hc (by decide)) (fun _ => ?_)
      refine J_iload_n (i := 1) (kk := 1) dX11_move_23 rfl rfl ?_
      refine J_iload_n (i := 2) (kk := 2) dX11_move_24 rfl rfl ?_
      refine J_icmp_ne 30 dX11_move_25 (by decide) (fun hc => ?_) (fun hc => ?_)
      · replace h := h.2 hc
        refine J_iconst (v := 1) dX11_move_30 (by decide) ?_
        refine J_iload (i := 4) (kk := 4) dX11_move_31 rfl ?_
        refine J_sipush (v := 999) dX11_move_33 (by decide) ?_
        refine J_callS [.int (1), .int a4, .int (999)] [] calX11_isFrom klX11_110 rfl rfl (Nat.le_of_ble_eq_true rfl) dX11_move_36 (KI.to (S_X11_isFrom (1 : Int32) a4 (999 : Int32)) ?_)
        rintro x9 s9 ⟨rfl, ⟨g7, rfl⟩ | ⟨g7, rfl⟩⟩
        · replace h := h.1 g7
          refine J_if_ne 44 dX11_move_39 (by decide) (fun _ => ?_) (fun hc => absurd hc (by decide))
          refine J_aload_n (i := 0) (kk := 0) dX11_move_44 rfl rfl ?_
          refine J_iload_n (i := 1) (kk := 1) dX11_move_45 rfl rfl ?_
          refine J_iload_n (i := 3) (kk := 3) dX11_move_46 rfl rfl ?_
          refine J_iconst (v := 0) dX11_move_47 (by decide) ?_
          refine J_callV [.int a1, .int a3, .int (0)] [] calX11_lineUp klX11_170 (b := 0) (ci := 11) (by decide) rfl rfl rfl rfl (Nat.le_of_ble_eq_true rfl) dX11_move_48 (KI.to h ?_)
          clear h
          intro x2 σ1 h
          refine J_if_ne 57 dX11_move_51 (by decide) (fun hc => ?_) (fun hc => ?_)
          · replace h := h.2 hc
            refine J_aload_n (i := 0) (kk := 0) dX11_move_57 rfl rfl ?_
            refine J_getR 17 (q := 0) (ci := 11) (kf := 3) kfX11_33 uxX11 rfl (by decide) rfl (by decide) rfl dX11_move_58 ?_
            refine J_iload (i := 4) (kk := 4) dX11_move_61 rfl ?_
            refine J_callV [.int a4] [] calX0_touchedBy klX11_288 (b := 17) (ci := 0) (by decide) rfl rfl rfl rfl (Nat.le_of_ble_eq_true rfl) dX11_move_63 (KI.to h ?_)
            clear h
            intro x4 σ3 h
            refine J_aload_n (i := 0) (kk := 0) dX11_move_66 rfl rfl ?_
            refine J_getR 17 (q := 0) (ci := 11) (kf := 3) kfX11_33 uxX11 rfl (by decide) rfl (by decide) rfl dX11_move_67 ?_
            refine J_callV [] [.int x4] calX0_room klX11_155 (b := 17) (ci := 0) (by decide) rfl rfl rfl rfl (Nat.le_of_ble_eq_true rfl) dX11_move_70 (KI.to (S_X0_room) ?_)
            rintro x9 s9 ⟨rfl, rfl⟩
            refine J_icmp_le 79 dX11_move_73 (by decide) (fun hc => ?_) (fun hc => ?_)
            · replace h := h.1 hc
              refine J_aload_n (i := 0) (kk := 0) dX11_move_79 rfl rfl ?_
              refine J_getR 17 (q := 0) (ci := 11) (kf := 3) kfX11_33 uxX11 rfl (by decide) rfl (by decide) rfl dX11_move_80 ?_
              refine J_iload (i := 4) (kk := 4) dX11_move_83 rfl ?_
              refine J_iload_n (i := 2) (kk := 2) dX11_move_85 rfl rfl ?_
              refine J_callV [.int a4, .int a2] [] calX0_moveFromLine klX11_291 (b := 17) (ci := 0) (by decide) rfl rfl rfl rfl (Nat.le_of_ble_eq_true rfl) dX11_move_86 (KI.to h ?_)
              clear h
              intro x6 σ5 h
              exact J_iret rfl dX11_move_89 h
            · replace h := h.2 hc
              refine J_bipush (v := (-3)) dX11_move_76 (by decide) ?_
              exact J_iret rfl dX11_move_78 h
          · replace h := h.1 hc
            refine J_bipush (v := (-2)) dX11_move_54 (by decide) ?_
            exact J_iret rfl dX11_move_56 h
        · replace h := h.2 g7
          refine J_if_ne 44 dX11_move_39 (by decide) (fun hc => absurd hc (by decide)) (fun _ => ?_)
          refine J_iconst (v := (-1)) dX11_move_42 (by decide) ?_
          exact J_iret rfl dX11_move_43 h
      · replace h := h.1 hc
        refine J_iconst (v := (-1)) dX11_move_28 (by decide) ?_
        exact J_iret rfl dX11_move_29 h
    · replace h := h.2 g8
      refine J_if_eq 28 dX11_move_20 (by decide) (fun _ => ?_) (fun hc => absurd hc (by decide))
      refine J_iconst (v := (-1)) dX11_move_28 (by decide) ?_
      exact J_iret rfl dX11_move_29 h
  · replace h := h.2 g9
    refine J_if_eq 28 dX11_move_6 (by decide) (fun _ => ?_) (fun hc => absurd hc (by decide))
    refine J_iconst (v := (-1)) dX11_move_28 (by decide) ?_
    exact J_iret rfl dX11_move_29 h
theorem M_X11_move {Γ : GG} {l : Launch} {d : Nat} {Q : Option Value → St → Prop} {σ : St} (a1 : Int32) (a2 : Int32) (a3 : Int32) (a4 : Int32) (k : J Γ l (d + 6) mX11_move Q 0 [(0, .ref 0), (1, .int a1), (2, .int a2), (3, .int a3), (4, .int a4)] [] σ) : Meth Γ l (d + 6) mX11_move [.ref 0, .int a1, .int a2, .int a3, .int a4] σ Q := Meth_of_J (by decide +kernel) (fun _ => Nat.le_of_ble_eq_true rfl) (fun _ => rfl) k
set_option maxHeartbeats 4000000 in
set_option maxRecDepth 100000 in
theorem w_X11_drawn_0 {Γ : GG} {l : Launch} {d : Nat} {Q : Option Value → St → Prop} {σ : St} (a1 : Int32) (a2 : Int32) (h : (0 ≤ a1 ∧ a1 < (rd σ 5 1) → (((-1) : Int32) ≤ a2 ∧ a2 ≤ (1 : Int32) → vp_in a1 12 ∧ Q (some (.int (rd σ 8 (a1.toNatClampNeg)))) (wr σ 8 (a1.toNatClampNeg) a2)) ∧ (¬ (((-1) : Int32) ≤ a2 ∧ a2 ≤ (1 : Int32)) → Q (some (.int ((-2)))) σ)) ∧ (¬ (0 ≤ a1 ∧ a1 < (rd σ 5 1)) → Q (some (.int ((-2)))) σ)) : J Γ l (d + 2) mX11_drawn Q 0 [(0, .ref 0), (1, .int a1), (2, .int a2)] [] σ := by
  refine J_aload_n (i := 0) (kk := 0) dX11_drawn_0 rfl rfl ?_
  refine J_getR 4 (q := 0) (ci := 11) (kf := 1) kfX11_19 uxX11 rfl (by decide) rfl (by decide) rfl dX11_drawn_1 ?_
  refine J_getR 5 (q := 4) (ci := 9) (kf := 0) kfX11_103 uxX9 rfl (by decide) rfl (by decide) rfl dX11_drawn_4 ?_
  refine J_iload_n (i := 1) (kk := 1) dX11_drawn_7 rfl rfl ?_
  refine J_callV [.int a1] [] calX7_has klX11_272 (b := 5) (ci := 7) (by decide) rfl rfl rfl rfl (Nat.le_of_ble_eq_true rfl) dX11_drawn_8 (KI.to (S_X7_has_5 a1) ?_)
  rintro x9 s9 ⟨rfl, ⟨g3, rfl⟩ | ⟨g3, rfl⟩⟩
  · replace h := h.1 g3
    refine J_if_eq 23 dX11_drawn_11 (by decide) (fun hc => absurd hc (by decide)) (fun _ => ?_)
    refine J_iconst (v := (-1)) dX11_drawn_14 (by decide) ?_
    refine J_iload_n (i := 2) (kk := 2) dX11_drawn_15 rfl rfl ?_
    refine J_iconst (v := 1) dX11_drawn_16 (by decide) ?_
    refine J_callS [.int ((-1)), .int a2, .int (1)] [] calX11_isFrom klX11_110 rfl rfl (Nat.le_of_ble_eq_true rfl) dX11_drawn_17 (KI.to (S_X11_isFrom ((-1) : Int32) a2 (1 : Int32)) ?_)
    rintro x9 s9 ⟨rfl, ⟨g2, rfl⟩ | ⟨g2, rfl⟩⟩
    · replace h := h.1 g2
      refine J_if_ne 26 dX11_drawn_20 (by decide) (fun _ => ?_) (fun hc => absurd hc (by decide))
      refine J_aload_n (i := 0) (kk := 0) dX11_drawn_26 rfl rfl ?_
      refine J_getR 4 (q := 0) (ci := 11) (kf := 1) kfX11_19 uxX11 rfl (by decide) rfl (by decide) rfl dX11_drawn_27 ?_
      refine J_getR 8 (q := 4) (ci := 9) (kf := 2) kfX11_294 uxX9 rfl (by decide) rfl (by decide) rfl dX11_drawn_30 ?_
      refine J_iload_n (i := 1) (kk := 1) dX11_drawn_33 rfl rfl ?_
      have b1 := h.1
      replace h := h.2
      refine J_ald (a1.toNatClampNeg) rfl (by decide) rfl b1 dX11_drawn_34 ?_
      refine J_istore_n (i := 3) (lv' := [(3, .int (rd σ 8 (a1.toNatClampNeg))), (0, .ref 0), (1, .int a1), (2, .int a2)]) dX11_drawn_35 rfl (by decide) rfl ?_
      refine J_aload_n (i := 0) (kk := 1) dX11_drawn_36 rfl rfl ?_
      refine J_getR 4 (q := 0) (ci := 11) (kf := 1) kfX11_19 uxX11 rfl (by decide) rfl (by decide) rfl dX11_drawn_37 ?_
      refine J_getR 8 (q := 4) (ci := 9) (kf := 2) kfX11_294 uxX9 rfl (by decide) rfl (by decide) rfl dX11_drawn_40 ?_
      refine J_iload_n (i := 1) (kk := 2) dX11_drawn_43 rfl rfl ?_
      refine J_iload_n (i := 2) (kk := 3) dX11_drawn_44 rfl rfl ?_
      refine J_ast (a1.toNatClampNeg) rfl (by decide) rfl b1 dX11_drawn_45 ?_
      refine J_iload_n (i := 3) (kk := 0) dX11_drawn_46 rfl rfl ?_
      exact J_iret rfl dX11_drawn_47 h
    · replace h := h.2 g2
      refine J_if_ne 26 dX11_drawn_20 (by decide) (fun hc => absurd hc (by decide)) (fun _ => ?_)
      refine J_bipush (v := (-2)) dX11_drawn_23 (by decide) ?_
      exact J_iret rfl dX11_drawn_25 h
  · replace h := h.2 g3
    refine J_if_eq 23 dX11_drawn_11 (by decide) (fun _ => ?_) (fun hc => absurd hc (by decide))
    refine J_bipush (v := (-2)) dX11_drawn_23 (by decide) ?_
    exact J_iret rfl dX11_drawn_25 h
theorem M_X11_drawn {Γ : GG} {l : Launch} {d : Nat} {Q : Option Value → St → Prop} {σ : St} (a1 : Int32) (a2 : Int32) (k : J Γ l (d + 2) mX11_drawn Q 0 [(0, .ref 0), (1, .int a1), (2, .int a2)] [] σ) : Meth Γ l (d + 2) mX11_drawn [.ref 0, .int a1, .int a2] σ Q := Meth_of_J (by decide +kernel) (fun _ => Nat.le_of_ble_eq_true rfl) (fun _ => rfl) k
set_option maxHeartbeats 4000000 in
set_option maxRecDepth 100000 in
theorem w_X11_early_0 {Γ : GG} {l : Launch} {d : Nat} {Q : Option Value → St → Prop} {σ : St} (a1 : Int32) (a2 : Int32) (a3 : Int32) (a4 : Int32) (h : ((0 ≤ a1 ∧ a1 < (rd σ 5 1)) ∧ 0 ≤ a2 ∧ a2 < (rd σ 11 5) → (0 ≤ a3 ∧ a3 ≤ a4 ∧ a4 < 1500 → Meth Γ l (d + 2) mX8_askedEarly [.ref 34, .int a1, .int a2, .int a3, .int a4] σ (KI (fun x2 σ1 => Q (some (.int x2)) σ1))) ∧ (¬ (0 ≤ a3 ∧ a3 ≤ a4 ∧ a4 < 1500) → Q (some (.int ((-1)))) σ)) ∧ (¬ ((0 ≤ a1 ∧ a1 < (rd σ 5 1)) ∧ 0 ≤ a2 ∧ a2 < (rd σ 11 5)) → Q (some (.int ((-1)))) σ)) : J Γ l (d + 3) mX11_early Q 0 [(0, .ref 0), (1, .int a1), (2, .int a2), (3, .int a3), (4, .int a4)] [] σ := by
  refine J_aload_n (i := 0) (kk := 0) dX11_early_0 rfl rfl ?_
  refine J_iload_n (i := 1) (kk := 1) dX11_early_1 rfl rfl ?_
  refine J_iload_n (i := 2) (kk := 2) dX11_early_2 rfl rfl ?_
  refine J_callV [.int a1, .int a2] [] calX11_hasBoth klX11_142 (b := 0) (ci := 11) (by decide) rfl rfl rfl rfl (Nat.le_of_ble_eq_true rfl) dX11_early_3 (KI.to (S_X11_hasBoth a1 a2) ?_)
  rintro x9 s9 ⟨rfl, ⟨g4, rfl⟩ | ⟨g4, rfl⟩⟩
  · replace h := h.1 g4
    refine J_if_eq 18 dX11_early_6 (by decide) (fun hc => absurd hc (by decide)) (fun _ => ?_)
    refine J_iload_n (i := 3) (kk := 3) dX11_early_9 rfl rfl ?_
    refine J_iload (i := 4) (kk := 4) dX11_early_10 rfl ?_
    refine J_callS [.int a3, .int a4] [] calX11_areDays klX11_297 rfl rfl (Nat.le_of_ble_eq_true rfl) dX11_early_12 (KI.to (S_X11_areDays a3 a4) ?_)
    rintro x9 s9 ⟨rfl, ⟨g3, rfl⟩ | ⟨g3, rfl⟩⟩
    · replace h := h.1 g3
      refine J_if_ne 20 dX11_early_15 (by decide) (fun _ => ?_) (fun hc => absurd hc (by decide))
      refine J_aload_n (i := 0) (kk := 0) dX11_early_20 rfl rfl ?_
      refine J_getR 34 (q := 0) (ci := 11) (kf := 7) kfX11_61 uxX11 rfl (by decide) rfl (by decide) rfl dX11_early_21 ?_
      refine J_iload_n (i := 1) (kk := 1) dX11_early_24 rfl rfl ?_
      refine J_iload_n (i := 2) (kk := 2) dX11_early_25 rfl rfl ?_
      refine J_iload_n (i := 3) (kk := 3) dX11_early_26 rfl rfl ?_
      refine J_iload (i := 4) (kk := 4) dX11_early_27 rfl ?_
      refine J_callV [.int a1, .int a2, .int a3, .int a4] [] calX8_askedEarly klX11_300 (b := 34) (ci := 8) (by decide) rfl rfl rfl rfl (Nat.le_of_ble_eq_true rfl) dX11_early_29 (KI.to h ?_)
      clear h
      intro x2 σ1 h
      exact J_iret rfl dX11_early_32 h
    · replace h := h.2 g3
      refine J_if_ne 20 dX11_early_15 (by decide) (fun hc => absurd hc (by decide)) (fun _ => ?_)
      refine J_iconst (v := (-1)) dX11_early_18 (by decide) ?_
      exact J_iret rfl dX11_early_19 h
  · replace h := h.2 g4
    refine J_if_eq 18 dX11_early_6 (by decide) (fun _ => ?_) (fun hc => absurd hc (by decide))
    refine J_iconst (v := (-1)) dX11_early_18 (by decide) ?_
    exact J_iret rfl dX11_early_19 h
theorem M_X11_early {Γ : GG} {l : Launch} {d : Nat} {Q : Option Value → St → Prop} {σ : St} (a1 : Int32) (a2 : Int32) (a3 : Int32) (a4 : Int32) (k : J Γ l (d + 3) mX11_early Q 0 [(0, .ref 0), (1, .int a1), (2, .int a2), (3, .int a3), (4, .int a4)] [] σ) : Meth Γ l (d + 3) mX11_early [.ref 0, .int a1, .int a2, .int a3, .int a4] σ Q := Meth_of_J (by decide +kernel) (fun _ => Nat.le_of_ble_eq_true rfl) (fun _ => rfl) k
set_option maxHeartbeats 4000000 in
set_option maxRecDepth 100000 in
theorem w_X11_waiting_0 {Γ : GG} {l : Launch} {d : Nat} {Q : Option Value → St → Prop} {σ : St} (a1 : Int32) (a2 : Int32) (a3 : Int32) (a4 : Int32) (h : (0 ≤ a1 ∧ a1 < (rd σ 11 5) → (0 ≤ a2 ∧ a2 ≤ a3 ∧ a3 < 1500 → ((0 : Int32) ≤ a4 ∧ a4 ≤ (1 : Int32) → Meth Γ l (d + 2) mX9_howManyDrawn [.ref 4, .int (1)] σ (KI (fun x2 σ1 => Meth Γ l (d + 2) mX9_howManyDrawn [.ref 4, .int (0)] σ1 (KI (fun x4 σ3 => (x2 = (0 : Int32) → Q (some (.int ((-1999999999)))) σ3) ∧ (¬ x2 = (0 : Int32) → (x4 = (0 : Int32) → Q (some (.int ((-1999999999)))) σ3) ∧ (¬ x4 = (0 : Int32) → (x2 + x4 ≤ (10 : Int32) → Meth Γ l (d + 2) mX11_sumDrawn [.ref 0, .int a1, .int a2, .int a3] σ3 (KI (fun x6 σ5 => (a4 = (0 : Int32) → Meth Γ l (d + 2) mX11_gapOf [.ref 0, .int x6, .int x2, .int x4] σ5 (KI (fun x10 σ9 => Q (some (.int x10)) σ9))) ∧ (¬ a4 = (0 : Int32) → Meth Γ l (d + 2) mX11_doubtOf [.ref 0, .int x6, .int x2, .int (x2 + x4)] σ5 (KI (fun x8 σ7 => Q (some (.int x8)) σ7)))))) ∧ (¬ x2 + x4 ≤ (10 : Int32) → Q (some (.int ((-1999999998)))) σ3)))))))) ∧ (¬ ((0 : Int32) ≤ a4 ∧ a4 ≤ (1 : Int32)) → Q (some (.int ((-2000000000)))) σ)) ∧ (¬ (0 ≤ a2 ∧ a2 ≤ a3 ∧ a3 < 1500) → Q (some (.int ((-2000000000)))) σ)) ∧ (¬ (0 ≤ a1 ∧ a1 < (rd σ 11 5)) → Q (some (.int ((-2000000000)))) σ)) : J Γ l (d + 3) mX11_waiting Q 0 [(0, .ref 0), (1, .int a1), (2, .int a2), (3, .int a3), (4, .int a4)] [] σ := by
  refine J_aload_n (i := 0) (kk := 0) dX11_waiting_0 rfl rfl ?_
  refine J_getR 11 (q := 0) (ci := 11) (kf := 2) kfX11_26 uxX11 rfl (by decide) rfl (by decide) rfl dX11_waiting_1 ?_
  refine J_iload_n (i := 1) (kk := 1) dX11_waiting_4 rfl rfl ?_
  refine J_callV [.int a1] [] calX5_has klX11_117 (b := 11) (ci := 5) (by decide) rfl rfl rfl rfl (Nat.le_of_ble_eq_true rfl) dX11_waiting_5 (KI.to (S_X5_has a1) ?_)
  rintro x9 s9 ⟨rfl, ⟨g13, rfl⟩ | ⟨g13, rfl⟩⟩
  · replace h := h.1 g13
    refine J_if_eq 29 dX11_waiting_8 (by decide) (fun hc => absurd hc (by decide)) (fun _ => ?_)
    refine J_iload_n (i := 2) (kk := 2) dX11_waiting_11 rfl rfl ?_
    refine J_iload_n (i := 3) (kk := 3) dX11_waiting_12 rfl rfl ?_
    refine J_callS [.int a2, .int a3] [] calX11_areDays klX11_297 rfl rfl (Nat.le_of_ble_eq_true rfl) dX11_waiting_13 (KI.to (S_X11_areDays a2 a3) ?_)
    rintro x9 s9 ⟨rfl, ⟨g12, rfl⟩ | ⟨g12, rfl⟩⟩
    · replace h := h.1 g12
      refine J_if_eq 29 dX11_waiting_16 (by decide) (fun hc => absurd hc (by decide)) (fun _ => ?_)
      refine J_iconst (v := 0) dX11_waiting_19 (by decide) ?_
      refine J_iload (i := 4) (kk := 4) dX11_waiting_20 rfl ?_
      refine J_iconst (v := 1) dX11_waiting_22 (by decide) ?_
      refine J_callS [.int (0), .int a4, .int (1)] [] calX11_isFrom klX11_110 rfl rfl (Nat.le_of_ble_eq_true rfl) dX11_waiting_23 (KI.to (S_X11_isFrom (0 : Int32) a4 (1 : Int32)) ?_)
      rintro x9 s9 ⟨rfl, ⟨g11, rfl⟩ | ⟨g11, rfl⟩⟩
      · replace h := h.1 g11
        refine J_if_ne 32 dX11_waiting_26 (by decide) (fun _ => ?_) (fun hc => absurd hc (by decide))
        refine J_aload_n (i := 0) (kk := 0) dX11_waiting_32 rfl rfl ?_
        refine J_getR 4 (q := 0) (ci := 11) (kf := 1) kfX11_19 uxX11 rfl (by decide) rfl (by decide) rfl dX11_waiting_33 ?_
        refine J_iconst (v := 1) dX11_waiting_36 (by decide) ?_
        refine J_callV [.int (1)] [] calX9_howManyDrawn klX11_303 (b := 4) (ci := 9) (by decide) rfl rfl rfl rfl (Nat.le_of_ble_eq_true rfl) dX11_waiting_37 (KI.to h ?_)
        clear h
        intro x2 σ1 h
        refine J_istore (i := 5) (lv' := [(5, .int x2), (0, .ref 0), (1, .int a1), (2, .int a2), (3, .int a3), (4, .int a4)]) dX11_waiting_40 (by decide) rfl ?_
        refine J_aload_n (i := 0) (kk := 1) dX11_waiting_42 rfl rfl ?_
        refine J_getR 4 (q := 0) (ci := 11) (kf := 1) kfX11_19 uxX11 rfl (by decide) rfl (by decide) rfl dX11_waiting_43 ?_
        refine J_iconst (v := 0) dX11_waiting_46 (by decide) ?_
        refine J_callV [.int (0)] [] calX9_howManyDrawn klX11_303 (b := 4) (ci := 9) (by decide) rfl rfl rfl rfl (Nat.le_of_ble_eq_true rfl) dX11_waiting_47 (KI.to h ?_)
        clear h
        intro x4 σ3 h
        refine J_istore (i := 6) (lv' := [(6, .int x4), (5, .int x2), (0, .ref 0), (1, .int a1), (2, .int a2), (3, .int a3), (4, .int a4)]) dX11_waiting_50 (by decide) rfl ?_
        refine J_iload (i := 5) (kk := 1) dX11_waiting_52 rfl ?_
        refine J_if_eq 62 dX11_waiting_54 (by decide) (fun hc => ?_) (fun hc => ?_)
        · replace h := h.1 hc
          refine J_ldcw (v := (-1999999999)) kcX11_306 dX11_waiting_62 ?_
          exact J_iret rfl dX11_waiting_65 h
        · replace h := h.2 hc
          refine J_iload (i := 6) (kk := 0) dX11_waiting_57 rfl ?_
          refine J_if_ne 66 dX11_waiting_59 (by decide) (fun hc => ?_) (fun hc => ?_)
          · replace h := h.2 hc
            refine J_iload (i := 5) (kk := 1) dX11_waiting_66 rfl ?_
            refine J_iload (i := 6) (kk := 0) dX11_waiting_68 rfl ?_
            refine J_iadd dX11_waiting_70 ?_
            refine J_bipush (v := 10) dX11_waiting_71 (by decide) ?_
            refine J_icmp_le 80 dX11_waiting_73 (by decide) (fun hc => ?_) (fun hc => ?_)
            · replace h := h.1 hc
              refine J_aload_n (i := 0) (kk := 2) dX11_waiting_80 rfl rfl ?_
              refine J_iload_n (i := 1) (kk := 3) dX11_waiting_81 rfl rfl ?_
              refine J_iload_n (i := 2) (kk := 4) dX11_waiting_82 rfl rfl ?_
              refine J_iload_n (i := 3) (kk := 5) dX11_waiting_83 rfl rfl ?_
              refine J_callV [.int a1, .int a2, .int a3] [] calX11_sumDrawn klX11_308 (b := 0) (ci := 11) (by decide) rfl rfl rfl rfl (Nat.le_of_ble_eq_true rfl) dX11_waiting_84 (KI.to h ?_)
              clear h
              intro x6 σ5 h
              refine J_istore (i := 7) (lv' := [(7, .int x6), (6, .int x4), (5, .int x2), (0, .ref 0), (1, .int a1), (2, .int a2), (3, .int a3), (4, .int a4)]) dX11_waiting_87 (by decide) rfl ?_
              refine J_iload (i := 4) (kk := 7) dX11_waiting_89 rfl ?_
              refine J_if_ne 107 dX11_waiting_91 (by decide) (fun hc => ?_) (fun hc => ?_)
              · replace h := h.2 hc
                refine J_aload_n (i := 0) (kk := 3) dX11_waiting_107 rfl rfl ?_
                refine J_iload (i := 7) (kk := 0) dX11_waiting_108 rfl ?_
                refine J_iload (i := 5) (kk := 2) dX11_waiting_110 rfl ?_
                refine J_iload (i := 5) (kk := 2) dX11_waiting_112 rfl ?_
                refine J_iload (i := 6) (kk := 1) dX11_waiting_114 rfl ?_
                refine J_iadd dX11_waiting_116 ?_
                refine J_callV [.int x6, .int x2, .int (x2 + x4)] [] calX11_doubtOf klX11_314 (b := 0) (ci := 11) (by decide) rfl rfl rfl rfl (Nat.le_of_ble_eq_true rfl) dX11_waiting_117 (KI.to h ?_)
                clear h
                intro x8 σ7 h
                exact J_iret rfl dX11_waiting_120 h
              · replace h := h.1 hc
                refine J_aload_n (i := 0) (kk := 3) dX11_waiting_94 rfl rfl ?_
                refine J_iload (i := 7) (kk := 0) dX11_waiting_95 rfl ?_
                refine J_iload (i := 5) (kk := 2) dX11_waiting_97 rfl ?_
                refine J_iload (i := 6) (kk := 1) dX11_waiting_99 rfl ?_
                refine J_callV [.int x6, .int x2, .int x4] [] calX11_gapOf klX11_311 (b := 0) (ci := 11) (by decide) rfl rfl rfl rfl (Nat.le_of_ble_eq_true rfl) dX11_waiting_101 (KI.to h ?_)
                clear h
                intro x10 σ9 h
                refine J_goto (tgt := 120) dX11_waiting_104 (by decide) ?_
                exact J_iret rfl dX11_waiting_120 h
            · replace h := h.2 hc
              refine J_ldcw (v := (-1999999998)) kcX11_307 dX11_waiting_76 ?_
              exact J_iret rfl dX11_waiting_79 h
          · replace h := h.1 hc
            refine J_ldcw (v := (-1999999999)) kcX11_306 dX11_waiting_62 ?_
            exact J_iret rfl dX11_waiting_65 h
      · replace h := h.2 g11
        refine J_if_ne 32 dX11_waiting_26 (by decide) (fun hc => absurd hc (by decide)) (fun _ => ?_)
        refine J_ldc (v := (-2000000000)) kcX11_166 dX11_waiting_29 ?_
        exact J_iret rfl dX11_waiting_31 h
    · replace h := h.2 g12
      refine J_if_eq 29 dX11_waiting_16 (by decide) (fun _ => ?_) (fun hc => absurd hc (by decide))
      refine J_ldc (v := (-2000000000)) kcX11_166 dX11_waiting_29 ?_
      exact J_iret rfl dX11_waiting_31 h
  · replace h := h.2 g13
    refine J_if_eq 29 dX11_waiting_8 (by decide) (fun _ => ?_) (fun hc => absurd hc (by decide))
    refine J_ldc (v := (-2000000000)) kcX11_166 dX11_waiting_29 ?_
    exact J_iret rfl dX11_waiting_31 h
theorem M_X11_waiting {Γ : GG} {l : Launch} {d : Nat} {Q : Option Value → St → Prop} {σ : St} (a1 : Int32) (a2 : Int32) (a3 : Int32) (a4 : Int32) (k : J Γ l (d + 3) mX11_waiting Q 0 [(0, .ref 0), (1, .int a1), (2, .int a2), (3, .int a3), (4, .int a4)] [] σ) : Meth Γ l (d + 3) mX11_waiting [.ref 0, .int a1, .int a2, .int a3, .int a4] σ Q := Meth_of_J (by decide +kernel) (fun _ => Nat.le_of_ble_eq_true rfl) (fun _ => rfl) k
set_option maxHeartbeats 4000000 in
set_option maxRecDepth 100000 in
theorem w_X11_kitchen_0 {Γ : GG} {l : Launch} {d : Nat} {Q : Option Value → St → Prop} {σ : St} (a1 : Int32) (a2 : Int32) (h : (0 ≤ a1 ∧ a1 < (10000 : Int32) → (0 ≤ a2 ∧ a2 < (24 : Int32) → Meth Γ l d mX7_add [.ref 55, .int a1] σ (KI (fun x2 σ1 => (x2 < (0 : Int32) → Q (some (.int x2)) σ1) ∧ (¬ x2 < (0 : Int32) → vp_in x2 10 ∧ Q (some (.int x2)) (wr σ1 57 (x2.toNatClampNeg) a2))))) ∧ (¬ (0 ≤ a2 ∧ a2 < (24 : Int32)) → Q (some (.int ((-1)))) σ)) ∧ (¬ (0 ≤ a1 ∧ a1 < (10000 : Int32)) → Q (some (.int ((-1)))) σ)) : J Γ l (d + 1) mX11_kitchen Q 0 [(0, .ref 0), (1, .int a1), (2, .int a2)] [] σ := by
  refine J_iload_n (i := 1) (kk := 1) dX11_kitchen_0 rfl rfl ?_
  refine J_sipush (v := 10000) dX11_kitchen_1 (by decide) ?_
  refine J_callS [.int a1, .int (10000)] [] calX11_isBelow klX11_99 rfl rfl (Nat.le_of_ble_eq_true rfl) dX11_kitchen_4 (KI.to (S_X11_isBelow a1 (10000 : Int32)) ?_)
  rintro x9 s9 ⟨rfl, ⟨g5, rfl⟩ | ⟨g5, rfl⟩⟩
  · replace h := h.1 g5
    refine J_if_eq 19 dX11_kitchen_7 (by decide) (fun hc => absurd hc (by decide)) (fun _ => ?_)
    refine J_iload_n (i := 2) (kk := 2) dX11_kitchen_10 rfl rfl ?_
    refine J_bipush (v := 24) dX11_kitchen_11 (by decide) ?_
    refine J_callS [.int a2, .int (24)] [] calX11_isBelow klX11_99 rfl rfl (Nat.le_of_ble_eq_true rfl) dX11_kitchen_13 (KI.to (S_X11_isBelow a2 (24 : Int32)) ?_)
    rintro x9 s9 ⟨rfl, ⟨g4, rfl⟩ | ⟨g4, rfl⟩⟩
    · replace h := h.1 g4
      refine J_if_ne 21 dX11_kitchen_16 (by decide) (fun _ => ?_) (fun hc => absurd hc (by decide))
      refine J_aload_n (i := 0) (kk := 0) dX11_kitchen_21 rfl rfl ?_
      refine J_getR 55 (q := 0) (ci := 11) (kf := 10) kfX11_84 uxX11 rfl (by decide) rfl (by decide) rfl dX11_kitchen_22 ?_
      refine J_iload_n (i := 1) (kk := 1) dX11_kitchen_25 rfl rfl ?_
      refine J_callV [.int a1] [] calX7_add klX11_106 (b := 55) (ci := 7) (by decide) rfl rfl rfl rfl (Nat.le_of_ble_eq_true rfl) dX11_kitchen_26 (KI.to h ?_)
      clear h
      intro x2 σ1 h
      refine J_istore_n (i := 3) (lv' := [(3, .int x2), (0, .ref 0), (1, .int a1), (2, .int a2)]) dX11_kitchen_29 rfl (by decide) rfl ?_
      refine J_iload_n (i := 3) (kk := 0) dX11_kitchen_30 rfl rfl ?_
      refine J_if_lt 41 dX11_kitchen_31 (by decide) (fun hc => ?_) (fun hc => ?_)
      · replace h := h.1 hc
        refine J_iload_n (i := 3) (kk := 0) dX11_kitchen_41 rfl rfl ?_
        exact J_iret rfl dX11_kitchen_42 h
      · replace h := h.2 hc
        refine J_aload_n (i := 0) (kk := 1) dX11_kitchen_34 rfl rfl ?_
        refine J_getR 57 (q := 0) (ci := 11) (kf := 11) kfX11_88 uxX11 rfl (by decide) rfl (by decide) rfl dX11_kitchen_35 ?_
        refine J_iload_n (i := 3) (kk := 0) dX11_kitchen_38 rfl rfl ?_
        refine J_iload_n (i := 2) (kk := 3) dX11_kitchen_39 rfl rfl ?_
        have b3 := h.1
        replace h := h.2
        refine J_ast (x2.toNatClampNeg) rfl (by decide) rfl b3 dX11_kitchen_40 ?_
        refine J_iload_n (i := 3) (kk := 0) dX11_kitchen_41 rfl rfl ?_
        exact J_iret rfl dX11_kitchen_42 h
    · replace h := h.2 g4
      refine J_if_ne 21 dX11_kitchen_16 (by decide) (fun hc => absurd hc (by decide)) (fun _ => ?_)
      refine J_iconst (v := (-1)) dX11_kitchen_19 (by decide) ?_
      exact J_iret rfl dX11_kitchen_20 h
  · replace h := h.2 g5
    refine J_if_eq 19 dX11_kitchen_7 (by decide) (fun _ => ?_) (fun hc => absurd hc (by decide))
    refine J_iconst (v := (-1)) dX11_kitchen_19 (by decide) ?_
    exact J_iret rfl dX11_kitchen_20 h
theorem M_X11_kitchen {Γ : GG} {l : Launch} {d : Nat} {Q : Option Value → St → Prop} {σ : St} (a1 : Int32) (a2 : Int32) (k : J Γ l (d + 1) mX11_kitchen Q 0 [(0, .ref 0), (1, .int a1), (2, .int a2)] [] σ) : Meth Γ l (d + 1) mX11_kitchen [.ref 0, .int a1, .int a2] σ Q := Meth_of_J (by decide +kernel) (fun _ => Nat.le_of_ble_eq_true rfl) (fun _ => rfl) k
set_option maxHeartbeats 4000000 in
set_option maxRecDepth 100000 in
theorem w_X11_gift_108 {Γ : GG} {l : Launch} {d : Nat} {Q : Option Value → St → Prop} {σ : St} (a1 : Int32) (a2 : Int32) (a4 : Int32) (h : Meth Γ l (d + 5) mX11_lineUp [.ref 0, .int a1, .int a2, .int (1)] σ (KI (fun x2 σ1 => (x2 = (0 : Int32) → Q (some (.int ((-2)))) σ1) ∧ (¬ x2 = (0 : Int32) → Meth Γ l (d + 5) mX0_takeFromLine [.ref 17, .int a4, .int (8)] σ1 (KI (fun x4 σ3 => Q (some (.int x4)) σ3)))))) : J Γ l (d + 6) mX11_gift Q 108 [(0, .ref 0), (1, .int a1), (2, .int a2), (4, .int a4)] [] σ := by
  refine J_aload_n (i := 0) (kk := 0) dX11_gift_108 rfl rfl ?_
  refine J_iload_n (i := 1) (kk := 1) dX11_gift_109 rfl rfl ?_
  refine J_iload_n (i := 2) (kk := 2) dX11_gift_110 rfl rfl ?_
  refine J_iconst (v := 1) dX11_gift_111 (by decide) ?_
  refine J_callV [.int a1, .int a2, .int (1)] [] calX11_lineUp klX11_170 (b := 0) (ci := 11) (by decide) rfl rfl rfl rfl (Nat.le_of_ble_eq_true rfl) dX11_gift_112 (KI.to h ?_)
  clear h
  intro x2 σ1 h
  refine J_if_ne 121 dX11_gift_115 (by decide) (fun hc => ?_) (fun hc => ?_)
  · replace h := h.2 hc
    refine J_aload_n (i := 0) (kk := 0) dX11_gift_121 rfl rfl ?_
    refine J_getR 17 (q := 0) (ci := 11) (kf := 3) kfX11_33 uxX11 rfl (by decide) rfl (by decide) rfl dX11_gift_122 ?_
    refine J_iload (i := 4) (kk := 3) dX11_gift_125 rfl ?_
    refine J_bipush (v := 8) dX11_gift_127 (by decide) ?_
    refine J_callV [.int a4, .int (8)] [] calX0_takeFromLine klX11_204 (b := 17) (ci := 0) (by decide) rfl rfl rfl rfl (Nat.le_of_ble_eq_true rfl) dX11_gift_129 (KI.to h ?_)
    clear h
    intro x4 σ3 h
    exact J_iret rfl dX11_gift_132 h
  · replace h := h.1 hc
    refine J_bipush (v := (-2)) dX11_gift_118 (by decide) ?_
    exact J_iret rfl dX11_gift_120 h
set_option maxHeartbeats 4000000 in
set_option maxRecDepth 100000 in
theorem w_X11_gift_0 {Γ : GG} {l : Launch} {d : Nat} {Q : Option Value → St → Prop} {σ : St} (a1 : Int32) (a2 : Int32) (a3 : Int32) (a4 : Int32) (h : ((0 ≤ a1 ∧ a1 < (rd σ 5 1)) ∧ 0 ≤ a2 ∧ a2 < (rd σ 11 5) → (0 ≤ a3 ∧ a3 < (rd σ 55 1) → ((1 : Int32) ≤ a4 ∧ a4 ≤ (999 : Int32) → Meth Γ l (d + 5) mX7_milesTo [.ref 5, .int a1, .ref 55, .int a3] σ (KI (fun x2 σ1 => ∀ x3 : Int32, x3 = ((x2 + (10 : Int32)) - (1 : Int32)) / (10 : Int32) → vp_in a3 10 ∧ (((rd σ1 1 2) - (rd σ1 1 2) / (24 : Int32) * (24 : Int32)) + x3 ≤ rd σ1 57 (a3.toNatClampNeg) → vp_in a2 10 ∧ (rd σ1 15 (a2.toNatClampNeg) = (1 : Int32) → (x3 ≤ (2 : Int32) → J Γ l (d + 6) mX11_gift Q 108 [(0, .ref 0), (1, .int a1), (2, .int a2), (4, .int a4)] [] σ1) ∧ (¬ x3 ≤ (2 : Int32) → Q (some (.int ((-2)))) σ1)) ∧ (¬ rd σ1 15 (a2.toNatClampNeg) = (1 : Int32) → J Γ l (d + 6) mX11_gift Q 108 [(0, .ref 0), (1, .int a1), (2, .int a2), (4, .int a4)] [] σ1)) ∧ (¬ ((rd σ1 1 2) - (rd σ1 1 2) / (24 : Int32) * (24 : Int32)) + x3 ≤ rd σ1 57 (a3.toNatClampNeg) → Q (some (.int ((-2)))) σ1)))) ∧ (¬ ((1 : Int32) ≤ a4 ∧ a4 ≤ (999 : Int32)) → Q (some (.int ((-1)))) σ)) ∧ (¬ (0 ≤ a3 ∧ a3 < (rd σ 55 1)) → Q (some (.int ((-1)))) σ)) ∧ (¬ ((0 ≤ a1 ∧ a1 < (rd σ 5 1)) ∧ 0 ≤ a2 ∧ a2 < (rd σ 11 5)) → Q (some (.int ((-1)))) σ)) : J Γ l (d + 6) mX11_gift Q 0 [(0, .ref 0), (1, .int a1), (2, .int a2), (3, .int a3), (4, .int a4)] [] σ := by
  refine J_aload_n (i := 0) (kk := 0) dX11_gift_0 rfl rfl ?_
  refine J_iload_n (i := 1) (kk := 1) dX11_gift_1 rfl rfl ?_
  refine J_iload_n (i := 2) (kk := 2) dX11_gift_2 rfl rfl ?_
  refine J_callV [.int a1, .int a2] [] calX11_hasBoth klX11_142 (b := 0) (ci := 11) (by decide) rfl rfl rfl rfl (Nat.le_of_ble_eq_true rfl) dX11_gift_3 (KI.to (S_X11_hasBoth a1 a2) ?_)
  rintro x9 s9 ⟨rfl, ⟨g8, rfl⟩ | ⟨g8, rfl⟩⟩
  · replace h := h.1 g8
    refine J_if_eq 32 dX11_gift_6 (by decide) (fun hc => absurd hc (by decide)) (fun _ => ?_)
    refine J_aload_n (i := 0) (kk := 0) dX11_gift_9 rfl rfl ?_
    refine J_getR 55 (q := 0) (ci := 11) (kf := 10) kfX11_84 uxX11 rfl (by decide) rfl (by decide) rfl dX11_gift_10 ?_
    refine J_iload_n (i := 3) (kk := 3) dX11_gift_13 rfl rfl ?_
    refine J_callV [.int a3] [] calX7_has klX11_272 (b := 55) (ci := 7) (by decide) rfl rfl rfl rfl (Nat.le_of_ble_eq_true rfl) dX11_gift_14 (KI.to (S_X7_has_55 a3) ?_)
    rintro x9 s9 ⟨rfl, ⟨g7, rfl⟩ | ⟨g7, rfl⟩⟩
    · replace h := h.1 g7
      refine J_if_eq 32 dX11_gift_17 (by decide) (fun hc => absurd hc (by decide)) (fun _ => ?_)
      refine J_iconst (v := 1) dX11_gift_20 (by decide) ?_
      refine J_iload (i := 4) (kk := 4) dX11_gift_21 rfl ?_
      refine J_sipush (v := 999) dX11_gift_23 (by decide) ?_
      refine J_callS [.int (1), .int a4, .int (999)] [] calX11_isFrom klX11_110 rfl rfl (Nat.le_of_ble_eq_true rfl) dX11_gift_26 (KI.to (S_X11_isFrom (1 : Int32) a4 (999 : Int32)) ?_)
      rintro x9 s9 ⟨rfl, ⟨g6, rfl⟩ | ⟨g6, rfl⟩⟩
      · replace h := h.1 g6
        refine J_if_ne 34 dX11_gift_29 (by decide) (fun _ => ?_) (fun hc => absurd hc (by decide))
        refine J_aload_n (i := 0) (kk := 0) dX11_gift_34 rfl rfl ?_
        refine J_getR 4 (q := 0) (ci := 11) (kf := 1) kfX11_19 uxX11 rfl (by decide) rfl (by decide) rfl dX11_gift_35 ?_
        refine J_getR 5 (q := 4) (ci := 9) (kf := 0) kfX11_103 uxX9 rfl (by decide) rfl (by decide) rfl dX11_gift_38 ?_
        refine J_iload_n (i := 1) (kk := 1) dX11_gift_41 rfl rfl ?_
        refine J_aload_n (i := 0) (kk := 0) dX11_gift_42 rfl rfl ?_
        refine J_getR 55 (q := 0) (ci := 11) (kf := 10) kfX11_84 uxX11 rfl (by decide) rfl (by decide) rfl dX11_gift_43 ?_
        refine J_iload_n (i := 3) (kk := 3) dX11_gift_46 rfl rfl ?_
        refine J_callV [.int a1, .ref 55, .int a3] [] calX7_milesTo klX11_317 (b := 5) (ci := 7) (by decide) rfl rfl rfl rfl (Nat.le_of_ble_eq_true rfl) dX11_gift_47 (KI.to h ?_)
        clear h
        intro x2 σ1 h
        refine J_istore (i := 5) (lv' := [(5, .int x2), (0, .ref 0), (1, .int a1), (2, .int a2), (3, .int a3), (4, .int a4)]) dX11_gift_50 (by decide) rfl ?_
        refine J_iload (i := 5) (kk := 0) dX11_gift_52 rfl ?_
        refine J_bipush (v := 10) dX11_gift_54 (by decide) ?_
        refine J_iadd dX11_gift_56 ?_
        refine J_iconst (v := 1) dX11_gift_57 (by decide) ?_
        refine J_isub dX11_gift_58 ?_
        refine J_bipush (v := 10) dX11_gift_59 (by decide) ?_
        refine J_idiv dX11_gift_61 (by decide) ?_
        refine J_nameI (fun x3 ex3 => ?_)
        replace h := h x3 ex3
        refine J_istore (i := 6) (lv' := [(6, .int x3), (5, .int x2), (0, .ref 0), (1, .int a1), (2, .int a2), (3, .int a3), (4, .int a4)]) dX11_gift_62 (by decide) rfl ?_
        refine J_aload_n (i := 0) (kk := 2) dX11_gift_64 rfl rfl ?_
        refine J_getR 1 (q := 0) (ci := 11) (kf := 0) kfX11_10 uxX11 rfl (by decide) rfl (by decide) rfl dX11_gift_65 ?_
        refine J_callV [] [] calX3_hourOfDay klX11_135 (b := 1) (ci := 3) (by decide) rfl rfl rfl rfl (Nat.le_of_ble_eq_true rfl) dX11_gift_68 (KI.to (S_X3_hourOfDay) ?_)
        rintro x9 s9 ⟨rfl, rfl⟩
        refine J_iload (i := 6) (kk := 0) dX11_gift_71 rfl ?_
        refine J_iadd dX11_gift_73 ?_
        refine J_aload_n (i := 0) (kk := 2) dX11_gift_74 rfl rfl ?_
        refine J_getR 57 (q := 0) (ci := 11) (kf := 11) kfX11_88 uxX11 rfl (by decide) rfl (by decide) rfl dX11_gift_75 ?_
        refine J_iload_n (i := 3) (kk := 5) dX11_gift_78 rfl rfl ?_
        have b4 := h.1
        replace h := h.2
        refine J_ald (a3.toNatClampNeg) rfl (by decide) rfl b4 dX11_gift_79 ?_
        refine J_icmp_le 86 dX11_gift_80 (by decide) (fun hc => ?_) (fun hc => ?_)
        · replace h := h.1 hc
          refine J_aload_n (i := 0) (kk := 2) dX11_gift_86 rfl rfl ?_
          refine J_getR 11 (q := 0) (ci := 11) (kf := 2) kfX11_26 uxX11 rfl (by decide) rfl (by decide) rfl dX11_gift_87 ?_
          refine J_getR 15 (q := 11) (ci := 5) (kf := 3) kfX11_321 uxX5 rfl (by decide) rfl (by decide) rfl dX11_gift_90 ?_
          refine J_iload_n (i := 2) (kk := 4) dX11_gift_93 rfl rfl ?_
          have b5 := h.1
          replace h := h.2
          refine J_ald (a2.toNatClampNeg) rfl (by decide) rfl b5 dX11_gift_94 ?_
          refine J_iconst (v := 1) dX11_gift_95 (by decide) ?_
          refine J_icmp_ne 108 dX11_gift_96 (by decide) (fun hc => ?_) (fun hc => ?_)
          · replace h := h.2 hc
            refine J_sub [2, 3, 4, 6] rfl ?_
            exact h
          · replace h := h.1 hc
            refine J_iload (i := 6) (kk := 0) dX11_gift_99 rfl ?_
            refine J_iconst (v := 2) dX11_gift_101 (by decide) ?_
            refine J_icmp_le 108 dX11_gift_102 (by decide) (fun hc => ?_) (fun hc => ?_)
            · replace h := h.1 hc
              refine J_sub [2, 3, 4, 6] rfl ?_
              exact h
            · replace h := h.2 hc
              refine J_bipush (v := (-2)) dX11_gift_105 (by decide) ?_
              exact J_iret rfl dX11_gift_107 h
        · replace h := h.2 hc
          refine J_bipush (v := (-2)) dX11_gift_83 (by decide) ?_
          exact J_iret rfl dX11_gift_85 h
      · replace h := h.2 g6
        refine J_if_ne 34 dX11_gift_29 (by decide) (fun hc => absurd hc (by decide)) (fun _ => ?_)
        refine J_iconst (v := (-1)) dX11_gift_32 (by decide) ?_
        exact J_iret rfl dX11_gift_33 h
    · replace h := h.2 g7
      refine J_if_eq 32 dX11_gift_17 (by decide) (fun _ => ?_) (fun hc => absurd hc (by decide))
      refine J_iconst (v := (-1)) dX11_gift_32 (by decide) ?_
      exact J_iret rfl dX11_gift_33 h
  · replace h := h.2 g8
    refine J_if_eq 32 dX11_gift_6 (by decide) (fun _ => ?_) (fun hc => absurd hc (by decide))
    refine J_iconst (v := (-1)) dX11_gift_32 (by decide) ?_
    exact J_iret rfl dX11_gift_33 h
theorem M_X11_gift {Γ : GG} {l : Launch} {d : Nat} {Q : Option Value → St → Prop} {σ : St} (a1 : Int32) (a2 : Int32) (a3 : Int32) (a4 : Int32) (k : J Γ l (d + 6) mX11_gift Q 0 [(0, .ref 0), (1, .int a1), (2, .int a2), (3, .int a3), (4, .int a4)] [] σ) : Meth Γ l (d + 6) mX11_gift [.ref 0, .int a1, .int a2, .int a3, .int a4] σ Q := Meth_of_J (by decide +kernel) (fun _ => Nat.le_of_ble_eq_true rfl) (fun _ => rfl) k
set_option maxHeartbeats 4000000 in
set_option maxRecDepth 100000 in
theorem w_X11_bin_0 {Γ : GG} {l : Launch} {d : Nat} {Q : Option Value → St → Prop} {σ : St} (a1 : Int32) (a2 : Int32) (a3 : Int32) (h : (0 ≤ a1 ∧ a1 < (rd σ 17 1) → ((1 : Int32) ≤ a2 ∧ a2 ≤ (999 : Int32) → ((0 : Int32) ≤ a3 ∧ a3 ≤ (1 : Int32) → vp_in a1 200 ∧ (a2 ≤ rd σ ((a1.toNatClampNeg) + 142) 5 → (a3 = (1 : Int32) → (rd σ 17 7 < (400 : Int32) → Meth Γ l (d + 1) mX0_noteSpoiled [.ref 17, .int a1, .int a2, .int ((rd σ 1 2) / (24 : Int32))] σ (KV (fun σ3 => Meth Γ l (d + 1) mX11_toss [.ref 0, .int a1, .int a2] σ3 (KV (fun σ4 => Q (some (.int (rd σ4 ((a1.toNatClampNeg) + 142) 5))) σ4))))) ∧ (¬ rd σ 17 7 < (400 : Int32) → Q (some (.int ((-3)))) σ)) ∧ (¬ a3 = (1 : Int32) → Meth Γ l (d + 1) mX11_toss [.ref 0, .int a1, .int a2] σ (KV (fun σ2 => Q (some (.int (rd σ2 ((a1.toNatClampNeg) + 142) 5))) σ2)))) ∧ (¬ a2 ≤ rd σ ((a1.toNatClampNeg) + 142) 5 → Q (some (.int ((-2)))) σ)) ∧ (¬ ((0 : Int32) ≤ a3 ∧ a3 ≤ (1 : Int32)) → Q (some (.int ((-1)))) σ)) ∧ (¬ ((1 : Int32) ≤ a2 ∧ a2 ≤ (999 : Int32)) → Q (some (.int ((-1)))) σ)) ∧ (¬ (0 ≤ a1 ∧ a1 < (rd σ 17 1)) → Q (some (.int ((-1)))) σ)) : J Γ l (d + 2) mX11_bin Q 0 [(0, .ref 0), (1, .int a1), (2, .int a2), (3, .int a3)] [] σ := by
  refine J_aload_n (i := 0) (kk := 0) dX11_bin_0 rfl rfl ?_
  refine J_getR 17 (q := 0) (ci := 11) (kf := 3) kfX11_33 uxX11 rfl (by decide) rfl (by decide) rfl dX11_bin_1 ?_
  refine J_iload_n (i := 1) (kk := 1) dX11_bin_4 rfl rfl ?_
  refine J_callV [.int a1] [] calX0_has klX11_165 (b := 17) (ci := 0) (by decide) rfl rfl rfl rfl (Nat.le_of_ble_eq_true rfl) dX11_bin_5 (KI.to (S_X0_has a1) ?_)
  rintro x9 s9 ⟨rfl, ⟨g7, rfl⟩ | ⟨g7, rfl⟩⟩
  · replace h := h.1 g7
    refine J_if_eq 31 dX11_bin_8 (by decide) (fun hc => absurd hc (by decide)) (fun _ => ?_)
    refine J_iconst (v := 1) dX11_bin_11 (by decide) ?_
    refine J_iload_n (i := 2) (kk := 2) dX11_bin_12 rfl rfl ?_
    refine J_sipush (v := 999) dX11_bin_13 (by decide) ?_
    refine J_callS [.int (1), .int a2, .int (999)] [] calX11_isFrom klX11_110 rfl rfl (Nat.le_of_ble_eq_true rfl) dX11_bin_16 (KI.to (S_X11_isFrom (1 : Int32) a2 (999 : Int32)) ?_)
    rintro x9 s9 ⟨rfl, ⟨g6, rfl⟩ | ⟨g6, rfl⟩⟩
    · replace h := h.1 g6
      refine J_if_eq 31 dX11_bin_19 (by decide) (fun hc => absurd hc (by decide)) (fun _ => ?_)
      refine J_iconst (v := 0) dX11_bin_22 (by decide) ?_
      refine J_iload_n (i := 3) (kk := 3) dX11_bin_23 rfl rfl ?_
      refine J_iconst (v := 1) dX11_bin_24 (by decide) ?_
      refine J_callS [.int (0), .int a3, .int (1)] [] calX11_isFrom klX11_110 rfl rfl (Nat.le_of_ble_eq_true rfl) dX11_bin_25 (KI.to (S_X11_isFrom (0 : Int32) a3 (1 : Int32)) ?_)
      rintro x9 s9 ⟨rfl, ⟨g5, rfl⟩ | ⟨g5, rfl⟩⟩
      · replace h := h.1 g5
        refine J_if_ne 33 dX11_bin_28 (by decide) (fun _ => ?_) (fun hc => absurd hc (by decide))
        refine J_iload_n (i := 2) (kk := 2) dX11_bin_33 rfl rfl ?_
        refine J_aload_n (i := 0) (kk := 0) dX11_bin_34 rfl rfl ?_
        refine J_getR 17 (q := 0) (ci := 11) (kf := 3) kfX11_33 uxX11 rfl (by decide) rfl (by decide) rfl dX11_bin_35 ?_
        refine J_getR 18 (q := 17) (ci := 0) (kf := 0) kfX11_159 uxX0 rfl (by decide) rfl (by decide) rfl dX11_bin_38 ?_
        refine J_iload_n (i := 1) (kk := 1) dX11_bin_41 rfl rfl ?_
        have b1 := h.1
        replace h := h.2
        refine J_aald2 (a1.toNatClampNeg) rfl (by decide) rfl b1 dX11_bin_42 ?_
        refine J_iconst (v := 5) dX11_bin_43 (by decide) ?_
        refine J_ald 5 (by decide) (nc_row142 (vp_lt b1)) (sk_row142 (vp_lt b1)) (by unfold vp_in; decide) dX11_bin_44 ?_
        refine J_icmp_le 51 dX11_bin_45 (by decide) (fun hc => ?_) (fun hc => ?_)
        · replace h := h.1 hc
          refine J_iload_n (i := 3) (kk := 3) dX11_bin_51 rfl rfl ?_
          refine J_iconst (v := 1) dX11_bin_52 (by decide) ?_
          refine J_icmp_ne 88 dX11_bin_53 (by decide) (fun hc => ?_) (fun hc => ?_)
          · replace h := h.2 hc
            refine J_aload_n (i := 0) (kk := 0) dX11_bin_88 rfl rfl ?_
            refine J_iload_n (i := 1) (kk := 1) dX11_bin_89 rfl rfl ?_
            refine J_iload_n (i := 2) (kk := 2) dX11_bin_90 rfl rfl ?_
            refine J_callV [.int a1, .int a2] [] calX11_toss klX11_331 (b := 0) (ci := 11) (by decide) rfl rfl rfl rfl (Nat.le_of_ble_eq_true rfl) dX11_bin_91 (KV.to h ?_)
            clear h
            intro σ2 h
            refine J_aload_n (i := 0) (kk := 0) dX11_bin_94 rfl rfl ?_
            refine J_getR 17 (q := 0) (ci := 11) (kf := 3) kfX11_33 uxX11 rfl (by decide) rfl (by decide) rfl dX11_bin_95 ?_
            refine J_getR 18 (q := 17) (ci := 0) (kf := 0) kfX11_159 uxX0 rfl (by decide) rfl (by decide) rfl dX11_bin_98 ?_
            refine J_iload_n (i := 1) (kk := 1) dX11_bin_101 rfl rfl ?_
            refine J_aald2 (a1.toNatClampNeg) rfl (by decide) rfl b1 dX11_bin_102 ?_
            refine J_iconst (v := 5) dX11_bin_103 (by decide) ?_
            refine J_ald 5 (by decide) (nc_row142 (vp_lt b1)) (sk_row142 (vp_lt b1)) (by unfold vp_in; decide) dX11_bin_104 ?_
            exact J_iret rfl dX11_bin_105 h
          · replace h := h.1 hc
            refine J_aload_n (i := 0) (kk := 0) dX11_bin_56 rfl rfl ?_
            refine J_getR 17 (q := 0) (ci := 11) (kf := 3) kfX11_33 uxX11 rfl (by decide) rfl (by decide) rfl dX11_bin_57 ?_
            refine J_getI (q := 17) (ci := 0) (kf := 7) kfX11_324 uxX0 rfl (by decide) rfl (by decide) rfl dX11_bin_60 ?_
            refine J_sipush (v := 400) dX11_bin_63 (by decide) ?_
            refine J_icmp_lt 72 dX11_bin_66 (by decide) (fun hc => ?_) (fun hc => ?_)
            · replace h := h.1 hc
              refine J_aload_n (i := 0) (kk := 0) dX11_bin_72 rfl rfl ?_
              refine J_getR 17 (q := 0) (ci := 11) (kf := 3) kfX11_33 uxX11 rfl (by decide) rfl (by decide) rfl dX11_bin_73 ?_
              refine J_iload_n (i := 1) (kk := 1) dX11_bin_76 rfl rfl ?_
              refine J_iload_n (i := 2) (kk := 2) dX11_bin_77 rfl rfl ?_
              refine J_aload_n (i := 0) (kk := 0) dX11_bin_78 rfl rfl ?_
              refine J_getR 1 (q := 0) (ci := 11) (kf := 0) kfX11_10 uxX11 rfl (by decide) rfl (by decide) rfl dX11_bin_79 ?_
              refine J_callV [] [.int a2, .int a1, .ref 17] calX3_today klX11_152 (b := 1) (ci := 3) (by decide) rfl rfl rfl rfl (Nat.le_of_ble_eq_true rfl) dX11_bin_82 (KI.to (S_X3_today) ?_)
              rintro x9 s9 ⟨rfl, rfl⟩
              refine J_callV [.int a1, .int a2, .int ((rd σ 1 2) / (24 : Int32))] [] calX0_noteSpoiled klX11_327 (b := 17) (ci := 0) (by decide) rfl rfl rfl rfl (Nat.le_of_ble_eq_true rfl) dX11_bin_85 (KV.to h ?_)
              clear h
              intro σ3 h
              refine J_aload_n (i := 0) (kk := 0) dX11_bin_88 rfl rfl ?_
              refine J_iload_n (i := 1) (kk := 1) dX11_bin_89 rfl rfl ?_
              refine J_iload_n (i := 2) (kk := 2) dX11_bin_90 rfl rfl ?_
              refine J_callV [.int a1, .int a2] [] calX11_toss klX11_331 (b := 0) (ci := 11) (by decide) rfl rfl rfl rfl (Nat.le_of_ble_eq_true rfl) dX11_bin_91 (KV.to h ?_)
              clear h
              intro σ4 h
              refine J_aload_n (i := 0) (kk := 0) dX11_bin_94 rfl rfl ?_
              refine J_getR 17 (q := 0) (ci := 11) (kf := 3) kfX11_33 uxX11 rfl (by decide) rfl (by decide) rfl dX11_bin_95 ?_
              refine J_getR 18 (q := 17) (ci := 0) (kf := 0) kfX11_159 uxX0 rfl (by decide) rfl (by decide) rfl dX11_bin_98 ?_
              refine J_iload_n (i := 1) (kk := 1) dX11_bin_101 rfl rfl ?_
              refine J_aald2 (a1.toNatClampNeg) rfl (by decide) rfl b1 dX11_bin_102 ?_
              refine J_iconst (v := 5) dX11_bin_103 (by decide) ?_
              refine J_ald 5 (by decide) (nc_row142 (vp_lt b1)) (sk_row142 (vp_lt b1)) (by unfold vp_in; decide) dX11_bin_104 ?_
              exact J_iret rfl dX11_bin_105 h
            · replace h := h.2 hc
              refine J_bipush (v := (-3)) dX11_bin_69 (by decide) ?_
              exact J_iret rfl dX11_bin_71 h
        · replace h := h.2 hc
          refine J_bipush (v := (-2)) dX11_bin_48 (by decide) ?_
          exact J_iret rfl dX11_bin_50 h
      · replace h := h.2 g5
        refine J_if_ne 33 dX11_bin_28 (by decide) (fun hc => absurd hc (by decide)) (fun _ => ?_)
        refine J_iconst (v := (-1)) dX11_bin_31 (by decide) ?_
        exact J_iret rfl dX11_bin_32 h
    · replace h := h.2 g6
      refine J_if_eq 31 dX11_bin_19 (by decide) (fun _ => ?_) (fun hc => absurd hc (by decide))
      refine J_iconst (v := (-1)) dX11_bin_31 (by decide) ?_
      exact J_iret rfl dX11_bin_32 h
  · replace h := h.2 g7
    refine J_if_eq 31 dX11_bin_8 (by decide) (fun _ => ?_) (fun hc => absurd hc (by decide))
    refine J_iconst (v := (-1)) dX11_bin_31 (by decide) ?_
    exact J_iret rfl dX11_bin_32 h
theorem M_X11_bin {Γ : GG} {l : Launch} {d : Nat} {Q : Option Value → St → Prop} {σ : St} (a1 : Int32) (a2 : Int32) (a3 : Int32) (k : J Γ l (d + 2) mX11_bin Q 0 [(0, .ref 0), (1, .int a1), (2, .int a2), (3, .int a3)] [] σ) : Meth Γ l (d + 2) mX11_bin [.ref 0, .int a1, .int a2, .int a3] σ Q := Meth_of_J (by decide +kernel) (fun _ => Nat.le_of_ble_eq_true rfl) (fun _ => rfl) k
set_option maxHeartbeats 4000000 in
set_option maxRecDepth 100000 in
theorem w_X11_tossed_0 {Γ : GG} {l : Launch} {d : Nat} {Q : Option Value → St → Prop} {σ : St} (a1 : Int32) (h : (0 ≤ a1 ∧ a1 < (1500 : Int32) → vp_in a1 1500 ∧ Q (some (.int (rd σ 3 (a1.toNatClampNeg)))) σ) ∧ (¬ (0 ≤ a1 ∧ a1 < (1500 : Int32)) → Q (some (.int ((-1)))) σ)) : J Γ l (d + 1) mX11_tossed Q 0 [(0, .ref 0), (1, .int a1)] [] σ := by
  refine J_iload_n (i := 1) (kk := 1) dX11_tossed_0 rfl rfl ?_
  refine J_sipush (v := 1500) dX11_tossed_1 (by decide) ?_
  refine J_callS [.int a1, .int (1500)] [] calX11_isBelow klX11_99 rfl rfl (Nat.le_of_ble_eq_true rfl) dX11_tossed_4 (KI.to (S_X11_isBelow a1 (1500 : Int32)) ?_)
  rintro x9 s9 ⟨rfl, ⟨g2, rfl⟩ | ⟨g2, rfl⟩⟩
  · replace h := h.1 g2
    refine J_if_ne 12 dX11_tossed_7 (by decide) (fun _ => ?_) (fun hc => absurd hc (by decide))
    refine J_aload_n (i := 0) (kk := 0) dX11_tossed_12 rfl rfl ?_
    refine J_getR 1 (q := 0) (ci := 11) (kf := 0) kfX11_10 uxX11 rfl (by decide) rfl (by decide) rfl dX11_tossed_13 ?_
    refine J_getR 3 (q := 1) (ci := 3) (kf := 1) kfX11_335 uxX3 rfl (by decide) rfl (by decide) rfl dX11_tossed_16 ?_
    refine J_iload_n (i := 1) (kk := 1) dX11_tossed_19 rfl rfl ?_
    have b1 := h.1
    replace h := h.2
    refine J_ald (a1.toNatClampNeg) rfl (by decide) rfl b1 dX11_tossed_20 ?_
    exact J_iret rfl dX11_tossed_21 h
  · replace h := h.2 g2
    refine J_if_ne 12 dX11_tossed_7 (by decide) (fun hc => absurd hc (by decide)) (fun _ => ?_)
    refine J_iconst (v := (-1)) dX11_tossed_10 (by decide) ?_
    exact J_iret rfl dX11_tossed_11 h
theorem M_X11_tossed {Γ : GG} {l : Launch} {d : Nat} {Q : Option Value → St → Prop} {σ : St} (a1 : Int32) (k : J Γ l (d + 1) mX11_tossed Q 0 [(0, .ref 0), (1, .int a1)] [] σ) : Meth Γ l (d + 1) mX11_tossed [.ref 0, .int a1] σ Q := Meth_of_J (by decide +kernel) (fun _ => Nat.le_of_ble_eq_true rfl) (fun _ => rfl) k
set_option maxHeartbeats 4000000 in
set_option maxRecDepth 100000 in
theorem w_X11_isBad_0 {Γ : GG} {l : Launch} {d : Nat} {Q : Option Value → St → Prop} {σ : St} (a1 : Int32) (a2 : Int32) (a3 : Int32) (h : (0 ≤ a1 ∧ a1 < (rd σ 11 5) → (0 ≤ a2 ∧ a2 < (100 : Int32) → (0 ≤ a3 ∧ a3 < (1500 : Int32) → Meth Γ l (d + 1) mX0_isBadLot [.ref 17, .int ((a1 * (100 : Int32)) + a2), .int a3] σ (KI (fun x2 σ1 => (x2 = (0 : Int32) → Q (some (.int (0))) σ1) ∧ (¬ x2 = (0 : Int32) → Q (some (.int (1))) σ1)))) ∧ (¬ (0 ≤ a3 ∧ a3 < (1500 : Int32)) → Q (some (.int ((-1)))) σ)) ∧ (¬ (0 ≤ a2 ∧ a2 < (100 : Int32)) → Q (some (.int ((-1)))) σ)) ∧ (¬ (0 ≤ a1 ∧ a1 < (rd σ 11 5)) → Q (some (.int ((-1)))) σ)) : J Γ l (d + 2) mX11_isBad Q 0 [(0, .ref 0), (1, .int a1), (2, .int a2), (3, .int a3)] [] σ := by
  refine J_aload_n (i := 0) (kk := 0) dX11_isBad_0 rfl rfl ?_
  refine J_getR 11 (q := 0) (ci := 11) (kf := 2) kfX11_26 uxX11 rfl (by decide) rfl (by decide) rfl dX11_isBad_1 ?_
  refine J_iload_n (i := 1) (kk := 1) dX11_isBad_4 rfl rfl ?_
  refine J_callV [.int a1] [] calX5_has klX11_117 (b := 11) (ci := 5) (by decide) rfl rfl rfl rfl (Nat.le_of_ble_eq_true rfl) dX11_isBad_5 (KI.to (S_X5_has a1) ?_)
  rintro x9 s9 ⟨rfl, ⟨g5, rfl⟩ | ⟨g5, rfl⟩⟩
  · replace h := h.1 g5
    refine J_if_eq 30 dX11_isBad_8 (by decide) (fun hc => absurd hc (by decide)) (fun _ => ?_)
    refine J_iload_n (i := 2) (kk := 2) dX11_isBad_11 rfl rfl ?_
    refine J_bipush (v := 100) dX11_isBad_12 (by decide) ?_
    refine J_callS [.int a2, .int (100)] [] calX11_isBelow klX11_99 rfl rfl (Nat.le_of_ble_eq_true rfl) dX11_isBad_14 (KI.to (S_X11_isBelow a2 (100 : Int32)) ?_)
    rintro x9 s9 ⟨rfl, ⟨g4, rfl⟩ | ⟨g4, rfl⟩⟩
    · replace h := h.1 g4
      refine J_if_eq 30 dX11_isBad_17 (by decide) (fun hc => absurd hc (by decide)) (fun _ => ?_)
      refine J_iload_n (i := 3) (kk := 3) dX11_isBad_20 rfl rfl ?_
      refine J_sipush (v := 1500) dX11_isBad_21 (by decide) ?_
      refine J_callS [.int a3, .int (1500)] [] calX11_isBelow klX11_99 rfl rfl (Nat.le_of_ble_eq_true rfl) dX11_isBad_24 (KI.to (S_X11_isBelow a3 (1500 : Int32)) ?_)
      rintro x9 s9 ⟨rfl, ⟨g3, rfl⟩ | ⟨g3, rfl⟩⟩
      · replace h := h.1 g3
        refine J_if_ne 32 dX11_isBad_27 (by decide) (fun _ => ?_) (fun hc => absurd hc (by decide))
        refine J_aload_n (i := 0) (kk := 0) dX11_isBad_32 rfl rfl ?_
        refine J_getR 17 (q := 0) (ci := 11) (kf := 3) kfX11_33 uxX11 rfl (by decide) rfl (by decide) rfl dX11_isBad_33 ?_
        refine J_iload_n (i := 1) (kk := 1) dX11_isBad_36 rfl rfl ?_
        refine J_bipush (v := 100) dX11_isBad_37 (by decide) ?_
        refine J_imul dX11_isBad_39 ?_
        refine J_iload_n (i := 2) (kk := 2) dX11_isBad_40 rfl rfl ?_
        refine J_iadd dX11_isBad_41 ?_
        refine J_iload_n (i := 3) (kk := 3) dX11_isBad_42 rfl rfl ?_
        refine J_callV [.int ((a1 * (100 : Int32)) + a2), .int a3] [] calX0_isBadLot klX11_338 (b := 17) (ci := 0) (by decide) rfl rfl rfl rfl (Nat.le_of_ble_eq_true rfl) dX11_isBad_43 (KI.to h ?_)
        clear h
        intro x2 σ1 h
        refine J_if_eq 53 dX11_isBad_46 (by decide) (fun hc => ?_) (fun hc => ?_)
        · replace h := h.1 hc
          refine J_iconst (v := 0) dX11_isBad_53 (by decide) ?_
          exact J_iret rfl dX11_isBad_54 h
        · replace h := h.2 hc
          refine J_iconst (v := 1) dX11_isBad_49 (by decide) ?_
          refine J_goto (tgt := 54) dX11_isBad_50 (by decide) ?_
          exact J_iret rfl dX11_isBad_54 h
      · replace h := h.2 g3
        refine J_if_ne 32 dX11_isBad_27 (by decide) (fun hc => absurd hc (by decide)) (fun _ => ?_)
        refine J_iconst (v := (-1)) dX11_isBad_30 (by decide) ?_
        exact J_iret rfl dX11_isBad_31 h
    · replace h := h.2 g4
      refine J_if_eq 30 dX11_isBad_17 (by decide) (fun _ => ?_) (fun hc => absurd hc (by decide))
      refine J_iconst (v := (-1)) dX11_isBad_30 (by decide) ?_
      exact J_iret rfl dX11_isBad_31 h
  · replace h := h.2 g5
    refine J_if_eq 30 dX11_isBad_8 (by decide) (fun _ => ?_) (fun hc => absurd hc (by decide))
    refine J_iconst (v := (-1)) dX11_isBad_30 (by decide) ?_
    exact J_iret rfl dX11_isBad_31 h
theorem M_X11_isBad {Γ : GG} {l : Launch} {d : Nat} {Q : Option Value → St → Prop} {σ : St} (a1 : Int32) (a2 : Int32) (a3 : Int32) (k : J Γ l (d + 2) mX11_isBad Q 0 [(0, .ref 0), (1, .int a1), (2, .int a2), (3, .int a3)] [] σ) : Meth Γ l (d + 2) mX11_isBad [.ref 0, .int a1, .int a2, .int a3] σ Q := Meth_of_J (by decide +kernel) (fun _ => Nat.le_of_ble_eq_true rfl) (fun _ => rfl) k
set_option maxHeartbeats 4000000 in
set_option maxRecDepth 100000 in
theorem w_X11_since_0 {Γ : GG} {l : Launch} {d : Nat} {Q : Option Value → St → Prop} {σ : St} (a1 : Int32) (a2 : Int32) (h : (0 ≤ a1 ∧ a1 < (rd σ 11 5) → (0 ≤ a2 ∧ a2 < (100 : Int32) → Meth Γ l (d + 2) mX0_badSince [.ref 17, .int ((a1 * (100 : Int32)) + a2)] σ (KI (fun x2 σ1 => Q (some (.int x2)) σ1))) ∧ (¬ (0 ≤ a2 ∧ a2 < (100 : Int32)) → Q (some (.int ((-1)))) σ)) ∧ (¬ (0 ≤ a1 ∧ a1 < (rd σ 11 5)) → Q (some (.int ((-1)))) σ)) : J Γ l (d + 3) mX11_since Q 0 [(0, .ref 0), (1, .int a1), (2, .int a2)] [] σ := by
  refine J_aload_n (i := 0) (kk := 0) dX11_since_0 rfl rfl ?_
  refine J_getR 11 (q := 0) (ci := 11) (kf := 2) kfX11_26 uxX11 rfl (by decide) rfl (by decide) rfl dX11_since_1 ?_
  refine J_iload_n (i := 1) (kk := 1) dX11_since_4 rfl rfl ?_
  refine J_callV [.int a1] [] calX5_has klX11_117 (b := 11) (ci := 5) (by decide) rfl rfl rfl rfl (Nat.le_of_ble_eq_true rfl) dX11_since_5 (KI.to (S_X5_has a1) ?_)
  rintro x9 s9 ⟨rfl, ⟨g4, rfl⟩ | ⟨g4, rfl⟩⟩
  · replace h := h.1 g4
    refine J_if_eq 20 dX11_since_8 (by decide) (fun hc => absurd hc (by decide)) (fun _ => ?_)
    refine J_iload_n (i := 2) (kk := 2) dX11_since_11 rfl rfl ?_
    refine J_bipush (v := 100) dX11_since_12 (by decide) ?_
    refine J_callS [.int a2, .int (100)] [] calX11_isBelow klX11_99 rfl rfl (Nat.le_of_ble_eq_true rfl) dX11_since_14 (KI.to (S_X11_isBelow a2 (100 : Int32)) ?_)
    rintro x9 s9 ⟨rfl, ⟨g3, rfl⟩ | ⟨g3, rfl⟩⟩
    · replace h := h.1 g3
      refine J_if_ne 22 dX11_since_17 (by decide) (fun _ => ?_) (fun hc => absurd hc (by decide))
      refine J_aload_n (i := 0) (kk := 0) dX11_since_22 rfl rfl ?_
      refine J_getR 17 (q := 0) (ci := 11) (kf := 3) kfX11_33 uxX11 rfl (by decide) rfl (by decide) rfl dX11_since_23 ?_
      refine J_iload_n (i := 1) (kk := 1) dX11_since_26 rfl rfl ?_
      refine J_bipush (v := 100) dX11_since_27 (by decide) ?_
      refine J_imul dX11_since_29 ?_
      refine J_iload_n (i := 2) (kk := 2) dX11_since_30 rfl rfl ?_
      refine J_iadd dX11_since_31 ?_
      refine J_callV [.int ((a1 * (100 : Int32)) + a2)] [] calX0_badSince klX11_341 (b := 17) (ci := 0) (by decide) rfl rfl rfl rfl (Nat.le_of_ble_eq_true rfl) dX11_since_32 (KI.to h ?_)
      clear h
      intro x2 σ1 h
      exact J_iret rfl dX11_since_35 h
    · replace h := h.2 g3
      refine J_if_ne 22 dX11_since_17 (by decide) (fun hc => absurd hc (by decide)) (fun _ => ?_)
      refine J_iconst (v := (-1)) dX11_since_20 (by decide) ?_
      exact J_iret rfl dX11_since_21 h
  · replace h := h.2 g4
    refine J_if_eq 20 dX11_since_8 (by decide) (fun _ => ?_) (fun hc => absurd hc (by decide))
    refine J_iconst (v := (-1)) dX11_since_20 (by decide) ?_
    exact J_iret rfl dX11_since_21 h
theorem M_X11_since {Γ : GG} {l : Launch} {d : Nat} {Q : Option Value → St → Prop} {σ : St} (a1 : Int32) (a2 : Int32) (k : J Γ l (d + 3) mX11_since Q 0 [(0, .ref 0), (1, .int a1), (2, .int a2)] [] σ) : Meth Γ l (d + 3) mX11_since [.ref 0, .int a1, .int a2] σ Q := Meth_of_J (by decide +kernel) (fun _ => Nat.le_of_ble_eq_true rfl) (fun _ => rfl) k
set_option maxHeartbeats 4000000 in
set_option maxRecDepth 100000 in
theorem w_X11_till_0 {Γ : GG} {l : Launch} {d : Nat} {Q : Option Value → St → Prop} {σ : St} (a1 : Int32) (h : (0 ≤ a1 ∧ a1 < (rd σ 5 1) → vp_in a1 12 ∧ Q (some (.int (rd σ 7 (a1.toNatClampNeg)))) σ) ∧ (¬ (0 ≤ a1 ∧ a1 < (rd σ 5 1)) → Q (some (.int ((-1)))) σ)) : J Γ l (d + 2) mX11_till Q 0 [(0, .ref 0), (1, .int a1)] [] σ := by
  refine J_aload_n (i := 0) (kk := 0) dX11_till_0 rfl rfl ?_
  refine J_getR 4 (q := 0) (ci := 11) (kf := 1) kfX11_19 uxX11 rfl (by decide) rfl (by decide) rfl dX11_till_1 ?_
  refine J_getR 5 (q := 4) (ci := 9) (kf := 0) kfX11_103 uxX9 rfl (by decide) rfl (by decide) rfl dX11_till_4 ?_
  refine J_iload_n (i := 1) (kk := 1) dX11_till_7 rfl rfl ?_
  refine J_callV [.int a1] [] calX7_has klX11_272 (b := 5) (ci := 7) (by decide) rfl rfl rfl rfl (Nat.le_of_ble_eq_true rfl) dX11_till_8 (KI.to (S_X7_has_5 a1) ?_)
  rintro x9 s9 ⟨rfl, ⟨g2, rfl⟩ | ⟨g2, rfl⟩⟩
  · replace h := h.1 g2
    refine J_if_ne 16 dX11_till_11 (by decide) (fun _ => ?_) (fun hc => absurd hc (by decide))
    refine J_aload_n (i := 0) (kk := 0) dX11_till_16 rfl rfl ?_
    refine J_getR 4 (q := 0) (ci := 11) (kf := 1) kfX11_19 uxX11 rfl (by decide) rfl (by decide) rfl dX11_till_17 ?_
    refine J_getR 7 (q := 4) (ci := 9) (kf := 1) kfX11_207 uxX9 rfl (by decide) rfl (by decide) rfl dX11_till_20 ?_
    refine J_iload_n (i := 1) (kk := 1) dX11_till_23 rfl rfl ?_
    have b1 := h.1
    replace h := h.2
    refine J_ald (a1.toNatClampNeg) rfl (by decide) rfl b1 dX11_till_24 ?_
    exact J_iret rfl dX11_till_25 h
  · replace h := h.2 g2
    refine J_if_ne 16 dX11_till_11 (by decide) (fun hc => absurd hc (by decide)) (fun _ => ?_)
    refine J_iconst (v := (-1)) dX11_till_14 (by decide) ?_
    exact J_iret rfl dX11_till_15 h
theorem M_X11_till {Γ : GG} {l : Launch} {d : Nat} {Q : Option Value → St → Prop} {σ : St} (a1 : Int32) (k : J Γ l (d + 2) mX11_till Q 0 [(0, .ref 0), (1, .int a1)] [] σ) : Meth Γ l (d + 2) mX11_till [.ref 0, .int a1] σ Q := Meth_of_J (by decide +kernel) (fun _ => Nat.le_of_ble_eq_true rfl) (fun _ => rfl) k
set_option maxHeartbeats 4000000 in
set_option maxRecDepth 100000 in
theorem w_X11_count_0 {Γ : GG} {l : Launch} {d : Nat} {Q : Option Value → St → Prop} {σ : St} (a1 : Int32) (h : (a1.toInt = 0 → Q (some (.int (rd σ 5 1))) σ) ∧ (a1.toInt = 1 → Q (some (.int (rd σ 11 5))) σ) ∧ (a1.toInt = 2 → Q (some (.int (rd σ 17 1))) σ) ∧ (a1.toInt = 3 → Q (some (.int (rd σ 34 7))) σ) ∧ (a1.toInt = 4 → Q (some (.int (rd σ 26 5))) σ) ∧ (a1.toInt = 5 → Q (some (.int (rd σ 1 2))) σ) ∧ (a1.toInt = 6 → Q (some (.int (rd σ 55 1))) σ) ∧ (a1.toInt = 7 → Q (some (.int (rd σ 23 1))) σ) ∧ (a1.toInt = 8 → Q (some (.int (rd σ 0 13))) σ) ∧ (a1.toInt = 9 → Meth Γ l d mX0_total [.ref 17, .int (5)] σ (KI (fun x2 σ1 => Q (some (.int x2)) σ1))) ∧ (a1.toInt = 10 → Meth Γ l d mX0_total [.ref 17, .int (6)] σ (KI (fun x4 σ3 => Q (some (.int x4)) σ3))) ∧ (a1.toInt = 11 → Meth Γ l d mX0_total [.ref 17, .int (8)] σ (KI (fun x6 σ5 => Q (some (.int x6)) σ5))) ∧ (a1.toInt = 12 → Meth Γ l d mX0_total [.ref 17, .int (9)] σ (KI (fun x8 σ7 => Q (some (.int x8)) σ7))) ∧ (a1.toInt = 13 → Meth Γ l d mX8_lackInAll [.ref 34] σ (KI (fun x10 σ9 => Q (some (.int x10)) σ9))) ∧ (¬ a1.toInt = 0 → ¬ a1.toInt = 1 → ¬ a1.toInt = 2 → ¬ a1.toInt = 3 → ¬ a1.toInt = 4 → ¬ a1.toInt = 5 → ¬ a1.toInt = 6 → ¬ a1.toInt = 7 → ¬ a1.toInt = 8 → ¬ a1.toInt = 9 → ¬ a1.toInt = 10 → ¬ a1.toInt = 11 → ¬ a1.toInt = 12 → ¬ a1.toInt = 13 → Q (some (.int ((-1)))) σ)) : J Γ l (d + 1) mX11_count Q 0 [(0, .ref 0), (1, .int a1)] [] σ := by
  refine J_iload_n (i := 1) (kk := 1) dX11_count_0 rfl rfl ?_
  by_cases hc : a1.toInt = 0
  · replace h := h.1 hc
    refine J_tableIn 72 dX11_count_1 (by omega) (by omega) (by rw [hc]; rfl) (by decide) ?_
    refine J_aload_n (i := 0) (kk := 0) dX11_count_72 rfl rfl ?_
    refine J_getR 4 (q := 0) (ci := 11) (kf := 1) kfX11_19 uxX11 rfl (by decide) rfl (by decide) rfl dX11_count_73 ?_
    refine J_getR 5 (q := 4) (ci := 9) (kf := 0) kfX11_103 uxX9 rfl (by decide) rfl (by decide) rfl dX11_count_76 ?_
    refine J_getI (q := 5) (ci := 7) (kf := 1) kfX11_344 uxX7 rfl (by decide) rfl (by decide) rfl dX11_count_79 ?_
    exact J_iret rfl dX11_count_82 h
  have hn0 := hc
  by_cases hc : a1.toInt = 1
  · replace h := h.2.1 hc
    refine J_tableIn 83 dX11_count_1 (by omega) (by omega) (by rw [hc]; rfl) (by decide) ?_
    refine J_aload_n (i := 0) (kk := 0) dX11_count_83 rfl rfl ?_
    refine J_getR 11 (q := 0) (ci := 11) (kf := 2) kfX11_26 uxX11 rfl (by decide) rfl (by decide) rfl dX11_count_84 ?_
    refine J_getI (q := 11) (ci := 5) (kf := 5) kfX11_345 uxX5 rfl (by decide) rfl (by decide) rfl dX11_count_87 ?_
    exact J_iret rfl dX11_count_90 h
  have hn1 := hc
  by_cases hc : a1.toInt = 2
  · replace h := h.2.2.1 hc
    refine J_tableIn 91 dX11_count_1 (by omega) (by omega) (by rw [hc]; rfl) (by decide) ?_
    refine J_aload_n (i := 0) (kk := 0) dX11_count_91 rfl rfl ?_
    refine J_getR 17 (q := 0) (ci := 11) (kf := 3) kfX11_33 uxX11 rfl (by decide) rfl (by decide) rfl dX11_count_92 ?_
    refine J_getI (q := 17) (ci := 0) (kf := 1) kfX11_346 uxX0 rfl (by decide) rfl (by decide) rfl dX11_count_95 ?_
    exact J_iret rfl dX11_count_98 h
  have hn2 := hc
  by_cases hc : a1.toInt = 3
  · replace h := h.2.2.2.1 hc
    refine J_tableIn 99 dX11_count_1 (by omega) (by omega) (by rw [hc]; rfl) (by decide) ?_
    refine J_aload_n (i := 0) (kk := 0) dX11_count_99 rfl rfl ?_
    refine J_getR 34 (q := 0) (ci := 11) (kf := 7) kfX11_61 uxX11 rfl (by decide) rfl (by decide) rfl dX11_count_100 ?_
    refine J_getI (q := 34) (ci := 8) (kf := 7) kfX11_203 uxX8 rfl (by decide) rfl (by decide) rfl dX11_count_103 ?_
    exact J_iret rfl dX11_count_106 h
  have hn3 := hc
  by_cases hc : a1.toInt = 4
  · replace h := h.2.2.2.2.1 hc
    refine J_tableIn 107 dX11_count_1 (by omega) (by omega) (by rw [hc]; rfl) (by decide) ?_
    refine J_aload_n (i := 0) (kk := 0) dX11_count_107 rfl rfl ?_
    refine J_getR 26 (q := 0) (ci := 11) (kf := 5) kfX11_47 uxX11 rfl (by decide) rfl (by decide) rfl dX11_count_108 ?_
    refine J_getI (q := 26) (ci := 6) (kf := 5) kfX11_180 uxX6 rfl (by decide) rfl (by decide) rfl dX11_count_111 ?_
    exact J_iret rfl dX11_count_114 h
  have hn4 := hc
  by_cases hc : a1.toInt = 5
  · replace h := h.2.2.2.2.2.1 hc
    refine J_tableIn 115 dX11_count_1 (by omega) (by omega) (by rw [hc]; rfl) (by decide) ?_
    refine J_aload_n (i := 0) (kk := 0) dX11_count_115 rfl rfl ?_
    refine J_getR 1 (q := 0) (ci := 11) (kf := 0) kfX11_10 uxX11 rfl (by decide) rfl (by decide) rfl dX11_count_116 ?_
    refine J_getI (q := 1) (ci := 3) (kf := 2) kfX11_132 uxX3 rfl (by decide) rfl (by decide) rfl dX11_count_119 ?_
    exact J_iret rfl dX11_count_122 h
  have hn5 := hc
  by_cases hc : a1.toInt = 6
  · replace h := h.2.2.2.2.2.2.1 hc
    refine J_tableIn 123 dX11_count_1 (by omega) (by omega) (by rw [hc]; rfl) (by decide) ?_
    refine J_aload_n (i := 0) (kk := 0) dX11_count_123 rfl rfl ?_
    refine J_getR 55 (q := 0) (ci := 11) (kf := 10) kfX11_84 uxX11 rfl (by decide) rfl (by decide) rfl dX11_count_124 ?_
    refine J_getI (q := 55) (ci := 7) (kf := 1) kfX11_344 uxX7 rfl (by decide) rfl (by decide) rfl dX11_count_127 ?_
    exact J_iret rfl dX11_count_130 h
  have hn6 := hc
  by_cases hc : a1.toInt = 7
  · replace h := h.2.2.2.2.2.2.2.1 hc
    refine J_tableIn 131 dX11_count_1 (by omega) (by omega) (by rw [hc]; rfl) (by decide) ?_
    refine J_aload_n (i := 0) (kk := 0) dX11_count_131 rfl rfl ?_
    refine J_getR 23 (q := 0) (ci := 11) (kf := 4) kfX11_40 uxX11 rfl (by decide) rfl (by decide) rfl dX11_count_132 ?_
    refine J_getI (q := 23) (ci := 10) (kf := 1) kfX11_174 uxX10 rfl (by decide) rfl (by decide) rfl dX11_count_135 ?_
    exact J_iret rfl dX11_count_138 h
  have hn7 := hc
  by_cases hc : a1.toInt = 8
  · replace h := h.2.2.2.2.2.2.2.2.1 hc
    refine J_tableIn 139 dX11_count_1 (by omega) (by omega) (by rw [hc]; rfl) (by decide) ?_
    refine J_aload_n (i := 0) (kk := 0) dX11_count_139 rfl rfl ?_
    refine J_getI (q := 0) (ci := 11) (kf := 13) kfX11_95 uxX11 rfl (by decide) rfl (by decide) rfl dX11_count_140 ?_
    exact J_iret rfl dX11_count_143 h
  have hn8 := hc
  by_cases hc : a1.toInt = 9
  · replace h := h.2.2.2.2.2.2.2.2.2.1 hc
    refine J_tableIn 144 dX11_count_1 (by omega) (by omega) (by rw [hc]; rfl) (by decide) ?_
    refine J_aload_n (i := 0) (kk := 0) dX11_count_144 rfl rfl ?_
    refine J_getR 17 (q := 0) (ci := 11) (kf := 3) kfX11_33 uxX11 rfl (by decide) rfl (by decide) rfl dX11_count_145 ?_
    refine J_iconst (v := 5) dX11_count_148 (by decide) ?_
    refine J_callV [.int (5)] [] calX0_total klX11_347 (b := 17) (ci := 0) (by decide) rfl rfl rfl rfl (Nat.le_of_ble_eq_true rfl) dX11_count_149 (KI.to h ?_)
    clear h
    intro x2 σ1 h
    exact J_iret rfl dX11_count_152 h
  have hn9 := hc
  by_cases hc : a1.toInt = 10
  · replace h := h.2.2.2.2.2.2.2.2.2.2.1 hc
    refine J_tableIn 153 dX11_count_1 (by omega) (by omega) (by rw [hc]; rfl) (by decide) ?_
    refine J_aload_n (i := 0) (kk := 0) dX11_count_153 rfl rfl ?_
    refine J_getR 17 (q := 0) (ci := 11) (kf := 3) kfX11_33 uxX11 rfl (by decide) rfl (by decide) rfl dX11_count_154 ?_
    refine J_bipush (v := 6) dX11_count_157 (by decide) ?_
    refine J_callV [.int (6)] [] calX0_total klX11_347 (b := 17) (ci := 0) (by decide) rfl rfl rfl rfl (Nat.le_of_ble_eq_true rfl) dX11_count_159 (KI.to h ?_)
    clear h
    intro x4 σ3 h
    exact J_iret rfl dX11_count_162 h
  have hn10 := hc
  by_cases hc : a1.toInt = 11
  · replace h := h.2.2.2.2.2.2.2.2.2.2.2.1 hc
    refine J_tableIn 163 dX11_count_1 (by omega) (by omega) (by rw [hc]; rfl) (by decide) ?_
    refine J_aload_n (i := 0) (kk := 0) dX11_count_163 rfl rfl ?_
    refine J_getR 17 (q := 0) (ci := 11) (kf := 3) kfX11_33 uxX11 rfl (by decide) rfl (by decide) rfl dX11_count_164 ?_
    refine J_bipush (v := 8) dX11_count_167 (by decide) ?_
    refine J_callV [.int (8)] [] calX0_total klX11_347 (b := 17) (ci := 0) (by decide) rfl rfl rfl rfl (Nat.le_of_ble_eq_true rfl) dX11_count_169 (KI.to h ?_)
    clear h
    intro x6 σ5 h
    exact J_iret rfl dX11_count_172 h
  have hn11 := hc
  by_cases hc : a1.toInt = 12
  · replace h := h.2.2.2.2.2.2.2.2.2.2.2.2.1 hc
    refine J_tableIn 173 dX11_count_1 (by omega) (by omega) (by rw [hc]; rfl) (by decide) ?_
    refine J_aload_n (i := 0) (kk := 0) dX11_count_173 rfl rfl ?_
    refine J_getR 17 (q := 0) (ci := 11) (kf := 3) kfX11_33 uxX11 rfl (by decide) rfl (by decide) rfl dX11_count_174 ?_
    refine J_bipush (v := 9) dX11_count_177 (by decide) ?_
    refine J_callV [.int (9)] [] calX0_total klX11_347 (b := 17) (ci := 0) (by decide) rfl rfl rfl rfl (Nat.le_of_ble_eq_true rfl) dX11_count_179 (KI.to h ?_)
    clear h
    intro x8 σ7 h
    exact J_iret rfl dX11_count_182 h
  have hn12 := hc
  by_cases hc : a1.toInt = 13
  · replace h := h.2.2.2.2.2.2.2.2.2.2.2.2.2.1 hc
    refine J_tableIn 183 dX11_count_1 (by omega) (by omega) (by rw [hc]; rfl) (by decide) ?_
    refine J_aload_n (i := 0) (kk := 0) dX11_count_183 rfl rfl ?_
    refine J_getR 34 (q := 0) (ci := 11) (kf := 7) kfX11_61 uxX11 rfl (by decide) rfl (by decide) rfl dX11_count_184 ?_
    refine J_callV [] [] calX8_lackInAll klX11_350 (b := 34) (ci := 8) (by decide) rfl rfl rfl rfl (Nat.le_of_ble_eq_true rfl) dX11_count_187 (KI.to h ?_)
    clear h
    intro x10 σ9 h
    exact J_iret rfl dX11_count_190 h
  have hn13 := hc
  replace h := h.2.2.2.2.2.2.2.2.2.2.2.2.2.2 hn0 hn1 hn2 hn3 hn4 hn5 hn6 hn7 hn8 hn9 hn10 hn11 hn12 hn13
  refine J_tableOut 191 dX11_count_1 (by omega) (by decide) ?_
  refine J_iconst (v := (-1)) dX11_count_191 (by decide) ?_
  exact J_iret rfl dX11_count_192 h
theorem M_X11_count {Γ : GG} {l : Launch} {d : Nat} {Q : Option Value → St → Prop} {σ : St} (a1 : Int32) (k : J Γ l (d + 1) mX11_count Q 0 [(0, .ref 0), (1, .int a1)] [] σ) : Meth Γ l (d + 1) mX11_count [.ref 0, .int a1] σ Q := Meth_of_J (by decide +kernel) (fun _ => Nat.le_of_ble_eq_true rfl) (fun _ => rfl) k
set_option maxHeartbeats 4000000 in
set_option maxRecDepth 100000 in
theorem w_X11_mayTell_0 {Γ : GG} {l : Launch} {d : Nat} {Q : Option Value → St → Prop} {σ : St} (a1 : Int32) (a2 : Int32) (h : (6 ≤ (rd σ 1 2) - (rd σ 1 2) / (24 : Int32) * (24 : Int32) ∧ (rd σ 1 2) - (rd σ 1 2) / (24 : Int32) * (24 : Int32) ≤ 19 → Meth Γ l (d + 1) mX8_has [.ref 34, .int a1, .int a2, .int (rd σ 1 2)] σ (KI (fun x2 σ1 => (x2 = (0 : Int32) → Q (some (.int (1))) σ1) ∧ (¬ x2 = (0 : Int32) → Q (some (.int (0))) σ1)))) ∧ (¬ (6 ≤ (rd σ 1 2) - (rd σ 1 2) / (24 : Int32) * (24 : Int32) ∧ (rd σ 1 2) - (rd σ 1 2) / (24 : Int32) * (24 : Int32) ≤ 19) → Q (some (.int (0))) σ)) : J Γ l (d + 2) mX11_mayTell Q 0 [(0, .ref 0), (1, .int a1), (2, .int a2)] [] σ := by
  refine J_aload_n (i := 0) (kk := 0) dX11_mayTell_0 rfl rfl ?_
  refine J_getR 1 (q := 0) (ci := 11) (kf := 0) kfX11_10 uxX11 rfl (by decide) rfl (by decide) rfl dX11_mayTell_1 ?_
  refine J_callV [] [] calX3_isOpen klX11_353 (b := 1) (ci := 3) (by decide) rfl rfl rfl rfl (Nat.le_of_ble_eq_true rfl) dX11_mayTell_4 (KI.to (S_X3_isOpen) ?_)
  rintro x9 s9 ⟨rfl, ⟨g3, rfl⟩ | ⟨g3, rfl⟩⟩
  · replace h := h.1 g3
    refine J_if_eq 33 dX11_mayTell_7 (by decide) (fun hc => absurd hc (by decide)) (fun _ => ?_)
    refine J_aload_n (i := 0) (kk := 0) dX11_mayTell_10 rfl rfl ?_
    refine J_getR 34 (q := 0) (ci := 11) (kf := 7) kfX11_61 uxX11 rfl (by decide) rfl (by decide) rfl dX11_mayTell_11 ?_
    refine J_iload_n (i := 1) (kk := 1) dX11_mayTell_14 rfl rfl ?_
    refine J_iload_n (i := 2) (kk := 2) dX11_mayTell_15 rfl rfl ?_
    refine J_aload_n (i := 0) (kk := 0) dX11_mayTell_16 rfl rfl ?_
    refine J_getR 1 (q := 0) (ci := 11) (kf := 0) kfX11_10 uxX11 rfl (by decide) rfl (by decide) rfl dX11_mayTell_17 ?_
    refine J_getI (q := 1) (ci := 3) (kf := 2) kfX11_132 uxX3 rfl (by decide) rfl (by decide) rfl dX11_mayTell_20 ?_
    refine J_callV [.int a1, .int a2, .int (rd σ 1 2)] [] calX8_has klX11_357 (b := 34) (ci := 8) (by decide) rfl rfl rfl rfl (Nat.le_of_ble_eq_true rfl) dX11_mayTell_23 (KI.to h ?_)
    clear h
    intro x2 σ1 h
    refine J_if_ne 33 dX11_mayTell_26 (by decide) (fun hc => ?_) (fun hc => ?_)
    · replace h := h.2 hc
      refine J_iconst (v := 0) dX11_mayTell_33 (by decide) ?_
      exact J_zret rfl (by decide) dX11_mayTell_34 h
    · replace h := h.1 hc
      refine J_iconst (v := 1) dX11_mayTell_29 (by decide) ?_
      refine J_goto (tgt := 34) dX11_mayTell_30 (by decide) ?_
      exact J_zret rfl (by decide) dX11_mayTell_34 h
  · replace h := h.2 g3
    refine J_if_eq 33 dX11_mayTell_7 (by decide) (fun _ => ?_) (fun hc => absurd hc (by decide))
    refine J_iconst (v := 0) dX11_mayTell_33 (by decide) ?_
    exact J_zret rfl (by decide) dX11_mayTell_34 h
theorem M_X11_mayTell {Γ : GG} {l : Launch} {d : Nat} {Q : Option Value → St → Prop} {σ : St} (a1 : Int32) (a2 : Int32) (k : J Γ l (d + 2) mX11_mayTell Q 0 [(0, .ref 0), (1, .int a1), (2, .int a2)] [] σ) : Meth Γ l (d + 2) mX11_mayTell [.ref 0, .int a1, .int a2] σ Q := Meth_of_J (by decide +kernel) (fun _ => Nat.le_of_ble_eq_true rfl) (fun _ => rfl) k
set_option maxHeartbeats 4000000 in
set_option maxRecDepth 100000 in
theorem w_X11_isMorning_0 {Γ : GG} {l : Launch} {d : Nat} {Q : Option Value → St → Prop} {σ : St} (a1 : Int32) (a2 : Int32) (a3 : Int32) (a4 : Int32) (h : ((0 ≤ a1 ∧ a1 < (rd σ 5 1)) ∧ 0 ≤ a2 ∧ a2 < (rd σ 11 5) → (0 ≤ a4 ∧ a4 < (1500 : Int32) → (0 ≤ a3 ∧ a3 < (70 : Int32) → ((3 : Int32) ≤ a3 - a3 / (10 : Int32) * (10 : Int32) → Q (some (.int (0))) σ) ∧ (¬ (3 : Int32) ≤ a3 - a3 / (10 : Int32) * (10 : Int32) → Q (some (.int (1))) σ)) ∧ (¬ (0 ≤ a3 ∧ a3 < (70 : Int32)) → Q (some (.int (0))) σ)) ∧ (¬ (0 ≤ a4 ∧ a4 < (1500 : Int32)) → Q (some (.int (0))) σ)) ∧ (¬ ((0 ≤ a1 ∧ a1 < (rd σ 5 1)) ∧ 0 ≤ a2 ∧ a2 < (rd σ 11 5)) → Q (some (.int (0))) σ)) : J Γ l (d + 3) mX11_isMorning Q 0 [(0, .ref 0), (1, .int a1), (2, .int a2), (3, .int a3), (4, .int a4)] [] σ := by
  refine J_aload_n (i := 0) (kk := 0) dX11_isMorning_0 rfl rfl ?_
  refine J_iload_n (i := 1) (kk := 1) dX11_isMorning_1 rfl rfl ?_
  refine J_iload_n (i := 2) (kk := 2) dX11_isMorning_2 rfl rfl ?_
  refine J_callV [.int a1, .int a2] [] calX11_hasBoth klX11_142 (b := 0) (ci := 11) (by decide) rfl rfl rfl rfl (Nat.le_of_ble_eq_true rfl) dX11_isMorning_3 (KI.to (S_X11_hasBoth a1 a2) ?_)
  rintro x9 s9 ⟨rfl, ⟨g3, rfl⟩ | ⟨g3, rfl⟩⟩
  · replace h := h.1 g3
    refine J_if_eq 20 dX11_isMorning_6 (by decide) (fun hc => absurd hc (by decide)) (fun _ => ?_)
    refine J_iload (i := 4) (kk := 4) dX11_isMorning_9 rfl ?_
    refine J_sipush (v := 1500) dX11_isMorning_11 (by decide) ?_
    refine J_callS [.int a4, .int (1500)] [] calX11_isBelow klX11_99 rfl rfl (Nat.le_of_ble_eq_true rfl) dX11_isMorning_14 (KI.to (S_X11_isBelow a4 (1500 : Int32)) ?_)
    rintro x9 s9 ⟨rfl, ⟨g2, rfl⟩ | ⟨g2, rfl⟩⟩
    · replace h := h.1 g2
      refine J_if_ne 22 dX11_isMorning_17 (by decide) (fun _ => ?_) (fun hc => absurd hc (by decide))
      refine J_iload_n (i := 3) (kk := 3) dX11_isMorning_22 rfl rfl ?_
      refine J_bipush (v := 70) dX11_isMorning_23 (by decide) ?_
      refine J_callS [.int a3, .int (70)] [] calX11_isBelow klX11_99 rfl rfl (Nat.le_of_ble_eq_true rfl) dX11_isMorning_25 (KI.to (S_X11_isBelow a3 (70 : Int32)) ?_)
      rintro x9 s9 ⟨rfl, ⟨g1, rfl⟩ | ⟨g1, rfl⟩⟩
      · replace h := h.1 g1
        refine J_if_eq 43 dX11_isMorning_28 (by decide) (fun hc => absurd hc (by decide)) (fun _ => ?_)
        refine J_iload_n (i := 3) (kk := 3) dX11_isMorning_31 rfl rfl ?_
        refine J_bipush (v := 10) dX11_isMorning_32 (by decide) ?_
        refine J_irem dX11_isMorning_34 (by decide) ?_
        refine J_iconst (v := 3) dX11_isMorning_35 (by decide) ?_
        refine J_icmp_ge 43 dX11_isMorning_36 (by decide) (fun hc => ?_) (fun hc => ?_)
        · replace h := h.1 hc
          refine J_iconst (v := 0) dX11_isMorning_43 (by decide) ?_
          exact J_zret rfl (by decide) dX11_isMorning_44 h
        · replace h := h.2 hc
          refine J_iconst (v := 1) dX11_isMorning_39 (by decide) ?_
          refine J_goto (tgt := 44) dX11_isMorning_40 (by decide) ?_
          exact J_zret rfl (by decide) dX11_isMorning_44 h
      · replace h := h.2 g1
        refine J_if_eq 43 dX11_isMorning_28 (by decide) (fun _ => ?_) (fun hc => absurd hc (by decide))
        refine J_iconst (v := 0) dX11_isMorning_43 (by decide) ?_
        exact J_zret rfl (by decide) dX11_isMorning_44 h
    · replace h := h.2 g2
      refine J_if_ne 22 dX11_isMorning_17 (by decide) (fun hc => absurd hc (by decide)) (fun _ => ?_)
      refine J_iconst (v := 0) dX11_isMorning_20 (by decide) ?_
      exact J_zret rfl (by decide) dX11_isMorning_21 h
  · replace h := h.2 g3
    refine J_if_eq 20 dX11_isMorning_6 (by decide) (fun _ => ?_) (fun hc => absurd hc (by decide))
    refine J_iconst (v := 0) dX11_isMorning_20 (by decide) ?_
    exact J_zret rfl (by decide) dX11_isMorning_21 h
theorem M_X11_isMorning {Γ : GG} {l : Launch} {d : Nat} {Q : Option Value → St → Prop} {σ : St} (a1 : Int32) (a2 : Int32) (a3 : Int32) (a4 : Int32) (k : J Γ l (d + 3) mX11_isMorning Q 0 [(0, .ref 0), (1, .int a1), (2, .int a2), (3, .int a3), (4, .int a4)] [] σ) : Meth Γ l (d + 3) mX11_isMorning [.ref 0, .int a1, .int a2, .int a3, .int a4] σ Q := Meth_of_J (by decide +kernel) (fun _ => Nat.le_of_ble_eq_true rfl) (fun _ => rfl) k
set_option maxHeartbeats 4000000 in
set_option maxRecDepth 100000 in
theorem w_X11_askOf_0 {Γ : GG} {l : Launch} {d : Nat} {Q : Option Value → St → Prop} {σ : St} (a1 : Int32) (a2 : Int32) (h : vp_in a2 200 ∧ vp_in (rd (wr (wr σ 33 0 (((rd σ 1 2) / (24 : Int32)) - (rd σ ((a2.toNatClampNeg) + 142) 3))) 33 1 (rd (wr σ 33 0 (((rd σ 1 2) / (24 : Int32)) - (rd σ ((a2.toNatClampNeg) + 142) 3))) ((a2.toNatClampNeg) + 142) 1)) ((a2.toNatClampNeg) + 142) 1) 10 ∧ vp_in ((rd σ 1 2) / (24 : Int32)) 1500 ∧ vp_in (rd (wr (wr (wr (wr (wr σ 33 0 (((rd σ 1 2) / (24 : Int32)) - (rd σ ((a2.toNatClampNeg) + 142) 3))) 33 1 (rd (wr σ 33 0 (((rd σ 1 2) / (24 : Int32)) - (rd σ ((a2.toNatClampNeg) + 142) 3))) ((a2.toNatClampNeg) + 142) 1)) 33 2 (rd σ 15 ((rd (wr (wr σ 33 0 (((rd σ 1 2) / (24 : Int32)) - (rd σ ((a2.toNatClampNeg) + 142) 3))) 33 1 (rd (wr σ 33 0 (((rd σ 1 2) / (24 : Int32)) - (rd σ ((a2.toNatClampNeg) + 142) 3))) ((a2.toNatClampNeg) + 142) 1)) ((a2.toNatClampNeg) + 142) 1).toNatClampNeg))) 33 3 (rd σ 2 (((rd σ 1 2) / (24 : Int32)).toNatClampNeg))) 33 4 ((rd σ 1 2) - (rd σ 1 2) / (24 : Int32) * (24 : Int32))) ((a2.toNatClampNeg) + 142) 0) 12 ∧ vp_in (rd (wr (wr (wr (wr (wr σ 33 0 (((rd σ 1 2) / (24 : Int32)) - (rd σ ((a2.toNatClampNeg) + 142) 3))) 33 1 (rd (wr σ 33 0 (((rd σ 1 2) / (24 : Int32)) - (rd σ ((a2.toNatClampNeg) + 142) 3))) ((a2.toNatClampNeg) + 142) 1)) 33 2 (rd σ 15 ((rd (wr (wr σ 33 0 (((rd σ 1 2) / (24 : Int32)) - (rd σ ((a2.toNatClampNeg) + 142) 3))) 33 1 (rd (wr σ 33 0 (((rd σ 1 2) / (24 : Int32)) - (rd σ ((a2.toNatClampNeg) + 142) 3))) ((a2.toNatClampNeg) + 142) 1)) ((a2.toNatClampNeg) + 142) 1).toNatClampNeg))) 33 3 (rd σ 2 (((rd σ 1 2) / (24 : Int32)).toNatClampNeg))) 33 4 ((rd σ 1 2) - (rd σ 1 2) / (24 : Int32) * (24 : Int32))) ((a2.toNatClampNeg) + 142) 1) 10 ∧ vp_in (rd (wr (wr (wr (wr (wr (wr σ 33 0 (((rd σ 1 2) / (24 : Int32)) - (rd σ ((a2.toNatClampNeg) + 142) 3))) 33 1 (rd (wr σ 33 0 (((rd σ 1 2) / (24 : Int32)) - (rd σ ((a2.toNatClampNeg) + 142) 3))) ((a2.toNatClampNeg) + 142) 1)) 33 2 (rd σ 15 ((rd (wr (wr σ 33 0 (((rd σ 1 2) / (24 : Int32)) - (rd σ ((a2.toNatClampNeg) + 142) 3))) 33 1 (rd (wr σ 33 0 (((rd σ 1 2) / (24 : Int32)) - (rd σ ((a2.toNatClampNeg) + 142) 3))) ((a2.toNatClampNeg) + 142) 1)) ((a2.toNatClampNeg) + 142) 1).toNatClampNeg))) 33 3 (rd σ 2 (((rd σ 1 2) / (24 : Int32)).toNatClampNeg))) 33 4 ((rd σ 1 2) - (rd σ 1 2) / (24 : Int32) * (24 : Int32))) 33 5 (rd (wr (wr (wr (wr (wr σ 33 0 (((rd σ 1 2) / (24 : Int32)) - (rd σ ((a2.toNatClampNeg) + 142) 3))) 33 1 (rd (wr σ 33 0 (((rd σ 1 2) / (24 : Int32)) - (rd σ ((a2.toNatClampNeg) + 142) 3))) ((a2.toNatClampNeg) + 142) 1)) 33 2 (rd σ 15 ((rd (wr (wr σ 33 0 (((rd σ 1 2) / (24 : Int32)) - (rd σ ((a2.toNatClampNeg) + 142) 3))) 33 1 (rd (wr σ 33 0 (((rd σ 1 2) / (24 : Int32)) - (rd σ ((a2.toNatClampNeg) + 142) 3))) ((a2.toNatClampNeg) + 142) 1)) ((a2.toNatClampNeg) + 142) 1).toNatClampNeg))) 33 3 (rd σ 2 (((rd σ 1 2) / (24 : Int32)).toNatClampNeg))) 33 4 ((rd σ 1 2) - (rd σ 1 2) / (24 : Int32) * (24 : Int32))) (((rd (wr (wr (wr (wr (wr σ 33 0 (((rd σ 1 2) / (24 : Int32)) - (rd σ ((a2.toNatClampNeg) + 142) 3))) 33 1 (rd (wr σ 33 0 (((rd σ 1 2) / (24 : Int32)) - (rd σ ((a2.toNatClampNeg) + 142) 3))) ((a2.toNatClampNeg) + 142) 1)) 33 2 (rd σ 15 ((rd (wr (wr σ 33 0 (((rd σ 1 2) / (24 : Int32)) - (rd σ ((a2.toNatClampNeg) + 142) 3))) 33 1 (rd (wr σ 33 0 (((rd σ 1 2) / (24 : Int32)) - (rd σ ((a2.toNatClampNeg) + 142) 3))) ((a2.toNatClampNeg) + 142) 1)) ((a2.toNatClampNeg) + 142) 1).toNatClampNeg))) 33 3 (rd σ 2 (((rd σ 1 2) / (24 : Int32)).toNatClampNeg))) 33 4 ((rd σ 1 2) - (rd σ 1 2) / (24 : Int32) * (24 : Int32))) ((a2.toNatClampNeg) + 142) 0).toNatClampNeg) + 118) ((rd (wr (wr (wr (wr (wr σ 33 0 (((rd σ 1 2) / (24 : Int32)) - (rd σ ((a2.toNatClampNeg) + 142) 3))) 33 1 (rd (wr σ 33 0 (((rd σ 1 2) / (24 : Int32)) - (rd σ ((a2.toNatClampNeg) + 142) 3))) ((a2.toNatClampNeg) + 142) 1)) 33 2 (rd σ 15 ((rd (wr (wr σ 33 0 (((rd σ 1 2) / (24 : Int32)) - (rd σ ((a2.toNatClampNeg) + 142) 3))) 33 1 (rd (wr σ 33 0 (((rd σ 1 2) / (24 : Int32)) - (rd σ ((a2.toNatClampNeg) + 142) 3))) ((a2.toNatClampNeg) + 142) 1)) ((a2.toNatClampNeg) + 142) 1).toNatClampNeg))) 33 3 (rd σ 2 (((rd σ 1 2) / (24 : Int32)).toNatClampNeg))) 33 4 ((rd σ 1 2) - (rd σ 1 2) / (24 : Int32) * (24 : Int32))) ((a2.toNatClampNeg) + 142) 1).toNatClampNeg))) ((a2.toNatClampNeg) + 142) 0) 12 ∧ vp_in (rd (wr (wr (wr (wr (wr (wr σ 33 0 (((rd σ 1 2) / (24 : Int32)) - (rd σ ((a2.toNatClampNeg) + 142) 3))) 33 1 (rd (wr σ 33 0 (((rd σ 1 2) / (24 : Int32)) - (rd σ ((a2.toNatClampNeg) + 142) 3))) ((a2.toNatClampNeg) + 142) 1)) 33 2 (rd σ 15 ((rd (wr (wr σ 33 0 (((rd σ 1 2) / (24 : Int32)) - (rd σ ((a2.toNatClampNeg) + 142) 3))) 33 1 (rd (wr σ 33 0 (((rd σ 1 2) / (24 : Int32)) - (rd σ ((a2.toNatClampNeg) + 142) 3))) ((a2.toNatClampNeg) + 142) 1)) ((a2.toNatClampNeg) + 142) 1).toNatClampNeg))) 33 3 (rd σ 2 (((rd σ 1 2) / (24 : Int32)).toNatClampNeg))) 33 4 ((rd σ 1 2) - (rd σ 1 2) / (24 : Int32) * (24 : Int32))) 33 5 (rd (wr (wr (wr (wr (wr σ 33 0 (((rd σ 1 2) / (24 : Int32)) - (rd σ ((a2.toNatClampNeg) + 142) 3))) 33 1 (rd (wr σ 33 0 (((rd σ 1 2) / (24 : Int32)) - (rd σ ((a2.toNatClampNeg) + 142) 3))) ((a2.toNatClampNeg) + 142) 1)) 33 2 (rd σ 15 ((rd (wr (wr σ 33 0 (((rd σ 1 2) / (24 : Int32)) - (rd σ ((a2.toNatClampNeg) + 142) 3))) 33 1 (rd (wr σ 33 0 (((rd σ 1 2) / (24 : Int32)) - (rd σ ((a2.toNatClampNeg) + 142) 3))) ((a2.toNatClampNeg) + 142) 1)) ((a2.toNatClampNeg) + 142) 1).toNatClampNeg))) 33 3 (rd σ 2 (((rd σ 1 2) / (24 : Int32)).toNatClampNeg))) 33 4 ((rd σ 1 2) - (rd σ 1 2) / (24 : Int32) * (24 : Int32))) (((rd (wr (wr (wr (wr (wr σ 33 0 (((rd σ 1 2) / (24 : Int32)) - (rd σ ((a2.toNatClampNeg) + 142) 3))) 33 1 (rd (wr σ 33 0 (((rd σ 1 2) / (24 : Int32)) - (rd σ ((a2.toNatClampNeg) + 142) 3))) ((a2.toNatClampNeg) + 142) 1)) 33 2 (rd σ 15 ((rd (wr (wr σ 33 0 (((rd σ 1 2) / (24 : Int32)) - (rd σ ((a2.toNatClampNeg) + 142) 3))) 33 1 (rd (wr σ 33 0 (((rd σ 1 2) / (24 : Int32)) - (rd σ ((a2.toNatClampNeg) + 142) 3))) ((a2.toNatClampNeg) + 142) 1)) ((a2.toNatClampNeg) + 142) 1).toNatClampNeg))) 33 3 (rd σ 2 (((rd σ 1 2) / (24 : Int32)).toNatClampNeg))) 33 4 ((rd σ 1 2) - (rd σ 1 2) / (24 : Int32) * (24 : Int32))) ((a2.toNatClampNeg) + 142) 0).toNatClampNeg) + 118) ((rd (wr (wr (wr (wr (wr σ 33 0 (((rd σ 1 2) / (24 : Int32)) - (rd σ ((a2.toNatClampNeg) + 142) 3))) 33 1 (rd (wr σ 33 0 (((rd σ 1 2) / (24 : Int32)) - (rd σ ((a2.toNatClampNeg) + 142) 3))) ((a2.toNatClampNeg) + 142) 1)) 33 2 (rd σ 15 ((rd (wr (wr σ 33 0 (((rd σ 1 2) / (24 : Int32)) - (rd σ ((a2.toNatClampNeg) + 142) 3))) 33 1 (rd (wr σ 33 0 (((rd σ 1 2) / (24 : Int32)) - (rd σ ((a2.toNatClampNeg) + 142) 3))) ((a2.toNatClampNeg) + 142) 1)) ((a2.toNatClampNeg) + 142) 1).toNatClampNeg))) 33 3 (rd σ 2 (((rd σ 1 2) / (24 : Int32)).toNatClampNeg))) 33 4 ((rd σ 1 2) - (rd σ 1 2) / (24 : Int32) * (24 : Int32))) ((a2.toNatClampNeg) + 142) 1).toNatClampNeg))) ((a2.toNatClampNeg) + 142) 1) 10 ∧ Meth Γ l (d + 2) mX6_valueOf [.ref 26, .int a1, .ref 33] (wr (wr (wr (wr (wr (wr (wr (wr σ 33 0 (((rd σ 1 2) / (24 : Int32)) - (rd σ ((a2.toNatClampNeg) + 142) 3))) 33 1 (rd (wr σ 33 0 (((rd σ 1 2) / (24 : Int32)) - (rd σ ((a2.toNatClampNeg) + 142) 3))) ((a2.toNatClampNeg) + 142) 1)) 33 2 (rd σ 15 ((rd (wr (wr σ 33 0 (((rd σ 1 2) / (24 : Int32)) - (rd σ ((a2.toNatClampNeg) + 142) 3))) 33 1 (rd (wr σ 33 0 (((rd σ 1 2) / (24 : Int32)) - (rd σ ((a2.toNatClampNeg) + 142) 3))) ((a2.toNatClampNeg) + 142) 1)) ((a2.toNatClampNeg) + 142) 1).toNatClampNeg))) 33 3 (rd σ 2 (((rd σ 1 2) / (24 : Int32)).toNatClampNeg))) 33 4 ((rd σ 1 2) - (rd σ 1 2) / (24 : Int32) * (24 : Int32))) 33 5 (rd (wr (wr (wr (wr (wr σ 33 0 (((rd σ 1 2) / (24 : Int32)) - (rd σ ((a2.toNatClampNeg) + 142) 3))) 33 1 (rd (wr σ 33 0 (((rd σ 1 2) / (24 : Int32)) - (rd σ ((a2.toNatClampNeg) + 142) 3))) ((a2.toNatClampNeg) + 142) 1)) 33 2 (rd σ 15 ((rd (wr (wr σ 33 0 (((rd σ 1 2) / (24 : Int32)) - (rd σ ((a2.toNatClampNeg) + 142) 3))) 33 1 (rd (wr σ 33 0 (((rd σ 1 2) / (24 : Int32)) - (rd σ ((a2.toNatClampNeg) + 142) 3))) ((a2.toNatClampNeg) + 142) 1)) ((a2.toNatClampNeg) + 142) 1).toNatClampNeg))) 33 3 (rd σ 2 (((rd σ 1 2) / (24 : Int32)).toNatClampNeg))) 33 4 ((rd σ 1 2) - (rd σ 1 2) / (24 : Int32) * (24 : Int32))) (((rd (wr (wr (wr (wr (wr σ 33 0 (((rd σ 1 2) / (24 : Int32)) - (rd σ ((a2.toNatClampNeg) + 142) 3))) 33 1 (rd (wr σ 33 0 (((rd σ 1 2) / (24 : Int32)) - (rd σ ((a2.toNatClampNeg) + 142) 3))) ((a2.toNatClampNeg) + 142) 1)) 33 2 (rd σ 15 ((rd (wr (wr σ 33 0 (((rd σ 1 2) / (24 : Int32)) - (rd σ ((a2.toNatClampNeg) + 142) 3))) 33 1 (rd (wr σ 33 0 (((rd σ 1 2) / (24 : Int32)) - (rd σ ((a2.toNatClampNeg) + 142) 3))) ((a2.toNatClampNeg) + 142) 1)) ((a2.toNatClampNeg) + 142) 1).toNatClampNeg))) 33 3 (rd σ 2 (((rd σ 1 2) / (24 : Int32)).toNatClampNeg))) 33 4 ((rd σ 1 2) - (rd σ 1 2) / (24 : Int32) * (24 : Int32))) ((a2.toNatClampNeg) + 142) 0).toNatClampNeg) + 118) ((rd (wr (wr (wr (wr (wr σ 33 0 (((rd σ 1 2) / (24 : Int32)) - (rd σ ((a2.toNatClampNeg) + 142) 3))) 33 1 (rd (wr σ 33 0 (((rd σ 1 2) / (24 : Int32)) - (rd σ ((a2.toNatClampNeg) + 142) 3))) ((a2.toNatClampNeg) + 142) 1)) 33 2 (rd σ 15 ((rd (wr (wr σ 33 0 (((rd σ 1 2) / (24 : Int32)) - (rd σ ((a2.toNatClampNeg) + 142) 3))) 33 1 (rd (wr σ 33 0 (((rd σ 1 2) / (24 : Int32)) - (rd σ ((a2.toNatClampNeg) + 142) 3))) ((a2.toNatClampNeg) + 142) 1)) ((a2.toNatClampNeg) + 142) 1).toNatClampNeg))) 33 3 (rd σ 2 (((rd σ 1 2) / (24 : Int32)).toNatClampNeg))) 33 4 ((rd σ 1 2) - (rd σ 1 2) / (24 : Int32) * (24 : Int32))) ((a2.toNatClampNeg) + 142) 1).toNatClampNeg))) 33 6 (rd (wr (wr (wr (wr (wr (wr σ 33 0 (((rd σ 1 2) / (24 : Int32)) - (rd σ ((a2.toNatClampNeg) + 142) 3))) 33 1 (rd (wr σ 33 0 (((rd σ 1 2) / (24 : Int32)) - (rd σ ((a2.toNatClampNeg) + 142) 3))) ((a2.toNatClampNeg) + 142) 1)) 33 2 (rd σ 15 ((rd (wr (wr σ 33 0 (((rd σ 1 2) / (24 : Int32)) - (rd σ ((a2.toNatClampNeg) + 142) 3))) 33 1 (rd (wr σ 33 0 (((rd σ 1 2) / (24 : Int32)) - (rd σ ((a2.toNatClampNeg) + 142) 3))) ((a2.toNatClampNeg) + 142) 1)) ((a2.toNatClampNeg) + 142) 1).toNatClampNeg))) 33 3 (rd σ 2 (((rd σ 1 2) / (24 : Int32)).toNatClampNeg))) 33 4 ((rd σ 1 2) - (rd σ 1 2) / (24 : Int32) * (24 : Int32))) 33 5 (rd (wr (wr (wr (wr (wr σ 33 0 (((rd σ 1 2) / (24 : Int32)) - (rd σ ((a2.toNatClampNeg) + 142) 3))) 33 1 (rd (wr σ 33 0 (((rd σ 1 2) / (24 : Int32)) - (rd σ ((a2.toNatClampNeg) + 142) 3))) ((a2.toNatClampNeg) + 142) 1)) 33 2 (rd σ 15 ((rd (wr (wr σ 33 0 (((rd σ 1 2) / (24 : Int32)) - (rd σ ((a2.toNatClampNeg) + 142) 3))) 33 1 (rd (wr σ 33 0 (((rd σ 1 2) / (24 : Int32)) - (rd σ ((a2.toNatClampNeg) + 142) 3))) ((a2.toNatClampNeg) + 142) 1)) ((a2.toNatClampNeg) + 142) 1).toNatClampNeg))) 33 3 (rd σ 2 (((rd σ 1 2) / (24 : Int32)).toNatClampNeg))) 33 4 ((rd σ 1 2) - (rd σ 1 2) / (24 : Int32) * (24 : Int32))) (((rd (wr (wr (wr (wr (wr σ 33 0 (((rd σ 1 2) / (24 : Int32)) - (rd σ ((a2.toNatClampNeg) + 142) 3))) 33 1 (rd (wr σ 33 0 (((rd σ 1 2) / (24 : Int32)) - (rd σ ((a2.toNatClampNeg) + 142) 3))) ((a2.toNatClampNeg) + 142) 1)) 33 2 (rd σ 15 ((rd (wr (wr σ 33 0 (((rd σ 1 2) / (24 : Int32)) - (rd σ ((a2.toNatClampNeg) + 142) 3))) 33 1 (rd (wr σ 33 0 (((rd σ 1 2) / (24 : Int32)) - (rd σ ((a2.toNatClampNeg) + 142) 3))) ((a2.toNatClampNeg) + 142) 1)) ((a2.toNatClampNeg) + 142) 1).toNatClampNeg))) 33 3 (rd σ 2 (((rd σ 1 2) / (24 : Int32)).toNatClampNeg))) 33 4 ((rd σ 1 2) - (rd σ 1 2) / (24 : Int32) * (24 : Int32))) ((a2.toNatClampNeg) + 142) 0).toNatClampNeg) + 118) ((rd (wr (wr (wr (wr (wr σ 33 0 (((rd σ 1 2) / (24 : Int32)) - (rd σ ((a2.toNatClampNeg) + 142) 3))) 33 1 (rd (wr σ 33 0 (((rd σ 1 2) / (24 : Int32)) - (rd σ ((a2.toNatClampNeg) + 142) 3))) ((a2.toNatClampNeg) + 142) 1)) 33 2 (rd σ 15 ((rd (wr (wr σ 33 0 (((rd σ 1 2) / (24 : Int32)) - (rd σ ((a2.toNatClampNeg) + 142) 3))) 33 1 (rd (wr σ 33 0 (((rd σ 1 2) / (24 : Int32)) - (rd σ ((a2.toNatClampNeg) + 142) 3))) ((a2.toNatClampNeg) + 142) 1)) ((a2.toNatClampNeg) + 142) 1).toNatClampNeg))) 33 3 (rd σ 2 (((rd σ 1 2) / (24 : Int32)).toNatClampNeg))) 33 4 ((rd σ 1 2) - (rd σ 1 2) / (24 : Int32) * (24 : Int32))) ((a2.toNatClampNeg) + 142) 1).toNatClampNeg))) (((rd (wr (wr (wr (wr (wr (wr σ 33 0 (((rd σ 1 2) / (24 : Int32)) - (rd σ ((a2.toNatClampNeg) + 142) 3))) 33 1 (rd (wr σ 33 0 (((rd σ 1 2) / (24 : Int32)) - (rd σ ((a2.toNatClampNeg) + 142) 3))) ((a2.toNatClampNeg) + 142) 1)) 33 2 (rd σ 15 ((rd (wr (wr σ 33 0 (((rd σ 1 2) / (24 : Int32)) - (rd σ ((a2.toNatClampNeg) + 142) 3))) 33 1 (rd (wr σ 33 0 (((rd σ 1 2) / (24 : Int32)) - (rd σ ((a2.toNatClampNeg) + 142) 3))) ((a2.toNatClampNeg) + 142) 1)) ((a2.toNatClampNeg) + 142) 1).toNatClampNeg))) 33 3 (rd σ 2 (((rd σ 1 2) / (24 : Int32)).toNatClampNeg))) 33 4 ((rd σ 1 2) - (rd σ 1 2) / (24 : Int32) * (24 : Int32))) 33 5 (rd (wr (wr (wr (wr (wr σ 33 0 (((rd σ 1 2) / (24 : Int32)) - (rd σ ((a2.toNatClampNeg) + 142) 3))) 33 1 (rd (wr σ 33 0 (((rd σ 1 2) / (24 : Int32)) - (rd σ ((a2.toNatClampNeg) + 142) 3))) ((a2.toNatClampNeg) + 142) 1)) 33 2 (rd σ 15 ((rd (wr (wr σ 33 0 (((rd σ 1 2) / (24 : Int32)) - (rd σ ((a2.toNatClampNeg) + 142) 3))) 33 1 (rd (wr σ 33 0 (((rd σ 1 2) / (24 : Int32)) - (rd σ ((a2.toNatClampNeg) + 142) 3))) ((a2.toNatClampNeg) + 142) 1)) ((a2.toNatClampNeg) + 142) 1).toNatClampNeg))) 33 3 (rd σ 2 (((rd σ 1 2) / (24 : Int32)).toNatClampNeg))) 33 4 ((rd σ 1 2) - (rd σ 1 2) / (24 : Int32) * (24 : Int32))) (((rd (wr (wr (wr (wr (wr σ 33 0 (((rd σ 1 2) / (24 : Int32)) - (rd σ ((a2.toNatClampNeg) + 142) 3))) 33 1 (rd (wr σ 33 0 (((rd σ 1 2) / (24 : Int32)) - (rd σ ((a2.toNatClampNeg) + 142) 3))) ((a2.toNatClampNeg) + 142) 1)) 33 2 (rd σ 15 ((rd (wr (wr σ 33 0 (((rd σ 1 2) / (24 : Int32)) - (rd σ ((a2.toNatClampNeg) + 142) 3))) 33 1 (rd (wr σ 33 0 (((rd σ 1 2) / (24 : Int32)) - (rd σ ((a2.toNatClampNeg) + 142) 3))) ((a2.toNatClampNeg) + 142) 1)) ((a2.toNatClampNeg) + 142) 1).toNatClampNeg))) 33 3 (rd σ 2 (((rd σ 1 2) / (24 : Int32)).toNatClampNeg))) 33 4 ((rd σ 1 2) - (rd σ 1 2) / (24 : Int32) * (24 : Int32))) ((a2.toNatClampNeg) + 142) 0).toNatClampNeg) + 118) ((rd (wr (wr (wr (wr (wr σ 33 0 (((rd σ 1 2) / (24 : Int32)) - (rd σ ((a2.toNatClampNeg) + 142) 3))) 33 1 (rd (wr σ 33 0 (((rd σ 1 2) / (24 : Int32)) - (rd σ ((a2.toNatClampNeg) + 142) 3))) ((a2.toNatClampNeg) + 142) 1)) 33 2 (rd σ 15 ((rd (wr (wr σ 33 0 (((rd σ 1 2) / (24 : Int32)) - (rd σ ((a2.toNatClampNeg) + 142) 3))) 33 1 (rd (wr σ 33 0 (((rd σ 1 2) / (24 : Int32)) - (rd σ ((a2.toNatClampNeg) + 142) 3))) ((a2.toNatClampNeg) + 142) 1)) ((a2.toNatClampNeg) + 142) 1).toNatClampNeg))) 33 3 (rd σ 2 (((rd σ 1 2) / (24 : Int32)).toNatClampNeg))) 33 4 ((rd σ 1 2) - (rd σ 1 2) / (24 : Int32) * (24 : Int32))) ((a2.toNatClampNeg) + 142) 1).toNatClampNeg))) ((a2.toNatClampNeg) + 142) 0).toNatClampNeg) + 130) ((rd (wr (wr (wr (wr (wr (wr σ 33 0 (((rd σ 1 2) / (24 : Int32)) - (rd σ ((a2.toNatClampNeg) + 142) 3))) 33 1 (rd (wr σ 33 0 (((rd σ 1 2) / (24 : Int32)) - (rd σ ((a2.toNatClampNeg) + 142) 3))) ((a2.toNatClampNeg) + 142) 1)) 33 2 (rd σ 15 ((rd (wr (wr σ 33 0 (((rd σ 1 2) / (24 : Int32)) - (rd σ ((a2.toNatClampNeg) + 142) 3))) 33 1 (rd (wr σ 33 0 (((rd σ 1 2) / (24 : Int32)) - (rd σ ((a2.toNatClampNeg) + 142) 3))) ((a2.toNatClampNeg) + 142) 1)) ((a2.toNatClampNeg) + 142) 1).toNatClampNeg))) 33 3 (rd σ 2 (((rd σ 1 2) / (24 : Int32)).toNatClampNeg))) 33 4 ((rd σ 1 2) - (rd σ 1 2) / (24 : Int32) * (24 : Int32))) 33 5 (rd (wr (wr (wr (wr (wr σ 33 0 (((rd σ 1 2) / (24 : Int32)) - (rd σ ((a2.toNatClampNeg) + 142) 3))) 33 1 (rd (wr σ 33 0 (((rd σ 1 2) / (24 : Int32)) - (rd σ ((a2.toNatClampNeg) + 142) 3))) ((a2.toNatClampNeg) + 142) 1)) 33 2 (rd σ 15 ((rd (wr (wr σ 33 0 (((rd σ 1 2) / (24 : Int32)) - (rd σ ((a2.toNatClampNeg) + 142) 3))) 33 1 (rd (wr σ 33 0 (((rd σ 1 2) / (24 : Int32)) - (rd σ ((a2.toNatClampNeg) + 142) 3))) ((a2.toNatClampNeg) + 142) 1)) ((a2.toNatClampNeg) + 142) 1).toNatClampNeg))) 33 3 (rd σ 2 (((rd σ 1 2) / (24 : Int32)).toNatClampNeg))) 33 4 ((rd σ 1 2) - (rd σ 1 2) / (24 : Int32) * (24 : Int32))) (((rd (wr (wr (wr (wr (wr σ 33 0 (((rd σ 1 2) / (24 : Int32)) - (rd σ ((a2.toNatClampNeg) + 142) 3))) 33 1 (rd (wr σ 33 0 (((rd σ 1 2) / (24 : Int32)) - (rd σ ((a2.toNatClampNeg) + 142) 3))) ((a2.toNatClampNeg) + 142) 1)) 33 2 (rd σ 15 ((rd (wr (wr σ 33 0 (((rd σ 1 2) / (24 : Int32)) - (rd σ ((a2.toNatClampNeg) + 142) 3))) 33 1 (rd (wr σ 33 0 (((rd σ 1 2) / (24 : Int32)) - (rd σ ((a2.toNatClampNeg) + 142) 3))) ((a2.toNatClampNeg) + 142) 1)) ((a2.toNatClampNeg) + 142) 1).toNatClampNeg))) 33 3 (rd σ 2 (((rd σ 1 2) / (24 : Int32)).toNatClampNeg))) 33 4 ((rd σ 1 2) - (rd σ 1 2) / (24 : Int32) * (24 : Int32))) ((a2.toNatClampNeg) + 142) 0).toNatClampNeg) + 118) ((rd (wr (wr (wr (wr (wr σ 33 0 (((rd σ 1 2) / (24 : Int32)) - (rd σ ((a2.toNatClampNeg) + 142) 3))) 33 1 (rd (wr σ 33 0 (((rd σ 1 2) / (24 : Int32)) - (rd σ ((a2.toNatClampNeg) + 142) 3))) ((a2.toNatClampNeg) + 142) 1)) 33 2 (rd σ 15 ((rd (wr (wr σ 33 0 (((rd σ 1 2) / (24 : Int32)) - (rd σ ((a2.toNatClampNeg) + 142) 3))) 33 1 (rd (wr σ 33 0 (((rd σ 1 2) / (24 : Int32)) - (rd σ ((a2.toNatClampNeg) + 142) 3))) ((a2.toNatClampNeg) + 142) 1)) ((a2.toNatClampNeg) + 142) 1).toNatClampNeg))) 33 3 (rd σ 2 (((rd σ 1 2) / (24 : Int32)).toNatClampNeg))) 33 4 ((rd σ 1 2) - (rd σ 1 2) / (24 : Int32) * (24 : Int32))) ((a2.toNatClampNeg) + 142) 1).toNatClampNeg))) ((a2.toNatClampNeg) + 142) 1).toNatClampNeg))) 33 7 (rd (wr (wr (wr (wr (wr (wr (wr σ 33 0 (((rd σ 1 2) / (24 : Int32)) - (rd σ ((a2.toNatClampNeg) + 142) 3))) 33 1 (rd (wr σ 33 0 (((rd σ 1 2) / (24 : Int32)) - (rd σ ((a2.toNatClampNeg) + 142) 3))) ((a2.toNatClampNeg) + 142) 1)) 33 2 (rd σ 15 ((rd (wr (wr σ 33 0 (((rd σ 1 2) / (24 : Int32)) - (rd σ ((a2.toNatClampNeg) + 142) 3))) 33 1 (rd (wr σ 33 0 (((rd σ 1 2) / (24 : Int32)) - (rd σ ((a2.toNatClampNeg) + 142) 3))) ((a2.toNatClampNeg) + 142) 1)) ((a2.toNatClampNeg) + 142) 1).toNatClampNeg))) 33 3 (rd σ 2 (((rd σ 1 2) / (24 : Int32)).toNatClampNeg))) 33 4 ((rd σ 1 2) - (rd σ 1 2) / (24 : Int32) * (24 : Int32))) 33 5 (rd (wr (wr (wr (wr (wr σ 33 0 (((rd σ 1 2) / (24 : Int32)) - (rd σ ((a2.toNatClampNeg) + 142) 3))) 33 1 (rd (wr σ 33 0 (((rd σ 1 2) / (24 : Int32)) - (rd σ ((a2.toNatClampNeg) + 142) 3))) ((a2.toNatClampNeg) + 142) 1)) 33 2 (rd σ 15 ((rd (wr (wr σ 33 0 (((rd σ 1 2) / (24 : Int32)) - (rd σ ((a2.toNatClampNeg) + 142) 3))) 33 1 (rd (wr σ 33 0 (((rd σ 1 2) / (24 : Int32)) - (rd σ ((a2.toNatClampNeg) + 142) 3))) ((a2.toNatClampNeg) + 142) 1)) ((a2.toNatClampNeg) + 142) 1).toNatClampNeg))) 33 3 (rd σ 2 (((rd σ 1 2) / (24 : Int32)).toNatClampNeg))) 33 4 ((rd σ 1 2) - (rd σ 1 2) / (24 : Int32) * (24 : Int32))) (((rd (wr (wr (wr (wr (wr σ 33 0 (((rd σ 1 2) / (24 : Int32)) - (rd σ ((a2.toNatClampNeg) + 142) 3))) 33 1 (rd (wr σ 33 0 (((rd σ 1 2) / (24 : Int32)) - (rd σ ((a2.toNatClampNeg) + 142) 3))) ((a2.toNatClampNeg) + 142) 1)) 33 2 (rd σ 15 ((rd (wr (wr σ 33 0 (((rd σ 1 2) / (24 : Int32)) - (rd σ ((a2.toNatClampNeg) + 142) 3))) 33 1 (rd (wr σ 33 0 (((rd σ 1 2) / (24 : Int32)) - (rd σ ((a2.toNatClampNeg) + 142) 3))) ((a2.toNatClampNeg) + 142) 1)) ((a2.toNatClampNeg) + 142) 1).toNatClampNeg))) 33 3 (rd σ 2 (((rd σ 1 2) / (24 : Int32)).toNatClampNeg))) 33 4 ((rd σ 1 2) - (rd σ 1 2) / (24 : Int32) * (24 : Int32))) ((a2.toNatClampNeg) + 142) 0).toNatClampNeg) + 118) ((rd (wr (wr (wr (wr (wr σ 33 0 (((rd σ 1 2) / (24 : Int32)) - (rd σ ((a2.toNatClampNeg) + 142) 3))) 33 1 (rd (wr σ 33 0 (((rd σ 1 2) / (24 : Int32)) - (rd σ ((a2.toNatClampNeg) + 142) 3))) ((a2.toNatClampNeg) + 142) 1)) 33 2 (rd σ 15 ((rd (wr (wr σ 33 0 (((rd σ 1 2) / (24 : Int32)) - (rd σ ((a2.toNatClampNeg) + 142) 3))) 33 1 (rd (wr σ 33 0 (((rd σ 1 2) / (24 : Int32)) - (rd σ ((a2.toNatClampNeg) + 142) 3))) ((a2.toNatClampNeg) + 142) 1)) ((a2.toNatClampNeg) + 142) 1).toNatClampNeg))) 33 3 (rd σ 2 (((rd σ 1 2) / (24 : Int32)).toNatClampNeg))) 33 4 ((rd σ 1 2) - (rd σ 1 2) / (24 : Int32) * (24 : Int32))) ((a2.toNatClampNeg) + 142) 1).toNatClampNeg))) 33 6 (rd (wr (wr (wr (wr (wr (wr σ 33 0 (((rd σ 1 2) / (24 : Int32)) - (rd σ ((a2.toNatClampNeg) + 142) 3))) 33 1 (rd (wr σ 33 0 (((rd σ 1 2) / (24 : Int32)) - (rd σ ((a2.toNatClampNeg) + 142) 3))) ((a2.toNatClampNeg) + 142) 1)) 33 2 (rd σ 15 ((rd (wr (wr σ 33 0 (((rd σ 1 2) / (24 : Int32)) - (rd σ ((a2.toNatClampNeg) + 142) 3))) 33 1 (rd (wr σ 33 0 (((rd σ 1 2) / (24 : Int32)) - (rd σ ((a2.toNatClampNeg) + 142) 3))) ((a2.toNatClampNeg) + 142) 1)) ((a2.toNatClampNeg) + 142) 1).toNatClampNeg))) 33 3 (rd σ 2 (((rd σ 1 2) / (24 : Int32)).toNatClampNeg))) 33 4 ((rd σ 1 2) - (rd σ 1 2) / (24 : Int32) * (24 : Int32))) 33 5 (rd (wr (wr (wr (wr (wr σ 33 0 (((rd σ 1 2) / (24 : Int32)) - (rd σ ((a2.toNatClampNeg) + 142) 3))) 33 1 (rd (wr σ 33 0 (((rd σ 1 2) / (24 : Int32)) - (rd σ ((a2.toNatClampNeg) + 142) 3))) ((a2.toNatClampNeg) + 142) 1)) 33 2 (rd σ 15 ((rd (wr (wr σ 33 0 (((rd σ 1 2) / (24 : Int32)) - (rd σ ((a2.toNatClampNeg) + 142) 3))) 33 1 (rd (wr σ 33 0 (((rd σ 1 2) / (24 : Int32)) - (rd σ ((a2.toNatClampNeg) + 142) 3))) ((a2.toNatClampNeg) + 142) 1)) ((a2.toNatClampNeg) + 142) 1).toNatClampNeg))) 33 3 (rd σ 2 (((rd σ 1 2) / (24 : Int32)).toNatClampNeg))) 33 4 ((rd σ 1 2) - (rd σ 1 2) / (24 : Int32) * (24 : Int32))) (((rd (wr (wr (wr (wr (wr σ 33 0 (((rd σ 1 2) / (24 : Int32)) - (rd σ ((a2.toNatClampNeg) + 142) 3))) 33 1 (rd (wr σ 33 0 (((rd σ 1 2) / (24 : Int32)) - (rd σ ((a2.toNatClampNeg) + 142) 3))) ((a2.toNatClampNeg) + 142) 1)) 33 2 (rd σ 15 ((rd (wr (wr σ 33 0 (((rd σ 1 2) / (24 : Int32)) - (rd σ ((a2.toNatClampNeg) + 142) 3))) 33 1 (rd (wr σ 33 0 (((rd σ 1 2) / (24 : Int32)) - (rd σ ((a2.toNatClampNeg) + 142) 3))) ((a2.toNatClampNeg) + 142) 1)) ((a2.toNatClampNeg) + 142) 1).toNatClampNeg))) 33 3 (rd σ 2 (((rd σ 1 2) / (24 : Int32)).toNatClampNeg))) 33 4 ((rd σ 1 2) - (rd σ 1 2) / (24 : Int32) * (24 : Int32))) ((a2.toNatClampNeg) + 142) 0).toNatClampNeg) + 118) ((rd (wr (wr (wr (wr (wr σ 33 0 (((rd σ 1 2) / (24 : Int32)) - (rd σ ((a2.toNatClampNeg) + 142) 3))) 33 1 (rd (wr σ 33 0 (((rd σ 1 2) / (24 : Int32)) - (rd σ ((a2.toNatClampNeg) + 142) 3))) ((a2.toNatClampNeg) + 142) 1)) 33 2 (rd σ 15 ((rd (wr (wr σ 33 0 (((rd σ 1 2) / (24 : Int32)) - (rd σ ((a2.toNatClampNeg) + 142) 3))) 33 1 (rd (wr σ 33 0 (((rd σ 1 2) / (24 : Int32)) - (rd σ ((a2.toNatClampNeg) + 142) 3))) ((a2.toNatClampNeg) + 142) 1)) ((a2.toNatClampNeg) + 142) 1).toNatClampNeg))) 33 3 (rd σ 2 (((rd σ 1 2) / (24 : Int32)).toNatClampNeg))) 33 4 ((rd σ 1 2) - (rd σ 1 2) / (24 : Int32) * (24 : Int32))) ((a2.toNatClampNeg) + 142) 1).toNatClampNeg))) (((rd (wr (wr (wr (wr (wr (wr σ 33 0 (((rd σ 1 2) / (24 : Int32)) - (rd σ ((a2.toNatClampNeg) + 142) 3))) 33 1 (rd (wr σ 33 0 (((rd σ 1 2) / (24 : Int32)) - (rd σ ((a2.toNatClampNeg) + 142) 3))) ((a2.toNatClampNeg) + 142) 1)) 33 2 (rd σ 15 ((rd (wr (wr σ 33 0 (((rd σ 1 2) / (24 : Int32)) - (rd σ ((a2.toNatClampNeg) + 142) 3))) 33 1 (rd (wr σ 33 0 (((rd σ 1 2) / (24 : Int32)) - (rd σ ((a2.toNatClampNeg) + 142) 3))) ((a2.toNatClampNeg) + 142) 1)) ((a2.toNatClampNeg) + 142) 1).toNatClampNeg))) 33 3 (rd σ 2 (((rd σ 1 2) / (24 : Int32)).toNatClampNeg))) 33 4 ((rd σ 1 2) - (rd σ 1 2) / (24 : Int32) * (24 : Int32))) 33 5 (rd (wr (wr (wr (wr (wr σ 33 0 (((rd σ 1 2) / (24 : Int32)) - (rd σ ((a2.toNatClampNeg) + 142) 3))) 33 1 (rd (wr σ 33 0 (((rd σ 1 2) / (24 : Int32)) - (rd σ ((a2.toNatClampNeg) + 142) 3))) ((a2.toNatClampNeg) + 142) 1)) 33 2 (rd σ 15 ((rd (wr (wr σ 33 0 (((rd σ 1 2) / (24 : Int32)) - (rd σ ((a2.toNatClampNeg) + 142) 3))) 33 1 (rd (wr σ 33 0 (((rd σ 1 2) / (24 : Int32)) - (rd σ ((a2.toNatClampNeg) + 142) 3))) ((a2.toNatClampNeg) + 142) 1)) ((a2.toNatClampNeg) + 142) 1).toNatClampNeg))) 33 3 (rd σ 2 (((rd σ 1 2) / (24 : Int32)).toNatClampNeg))) 33 4 ((rd σ 1 2) - (rd σ 1 2) / (24 : Int32) * (24 : Int32))) (((rd (wr (wr (wr (wr (wr σ 33 0 (((rd σ 1 2) / (24 : Int32)) - (rd σ ((a2.toNatClampNeg) + 142) 3))) 33 1 (rd (wr σ 33 0 (((rd σ 1 2) / (24 : Int32)) - (rd σ ((a2.toNatClampNeg) + 142) 3))) ((a2.toNatClampNeg) + 142) 1)) 33 2 (rd σ 15 ((rd (wr (wr σ 33 0 (((rd σ 1 2) / (24 : Int32)) - (rd σ ((a2.toNatClampNeg) + 142) 3))) 33 1 (rd (wr σ 33 0 (((rd σ 1 2) / (24 : Int32)) - (rd σ ((a2.toNatClampNeg) + 142) 3))) ((a2.toNatClampNeg) + 142) 1)) ((a2.toNatClampNeg) + 142) 1).toNatClampNeg))) 33 3 (rd σ 2 (((rd σ 1 2) / (24 : Int32)).toNatClampNeg))) 33 4 ((rd σ 1 2) - (rd σ 1 2) / (24 : Int32) * (24 : Int32))) ((a2.toNatClampNeg) + 142) 0).toNatClampNeg) + 118) ((rd (wr (wr (wr (wr (wr σ 33 0 (((rd σ 1 2) / (24 : Int32)) - (rd σ ((a2.toNatClampNeg) + 142) 3))) 33 1 (rd (wr σ 33 0 (((rd σ 1 2) / (24 : Int32)) - (rd σ ((a2.toNatClampNeg) + 142) 3))) ((a2.toNatClampNeg) + 142) 1)) 33 2 (rd σ 15 ((rd (wr (wr σ 33 0 (((rd σ 1 2) / (24 : Int32)) - (rd σ ((a2.toNatClampNeg) + 142) 3))) 33 1 (rd (wr σ 33 0 (((rd σ 1 2) / (24 : Int32)) - (rd σ ((a2.toNatClampNeg) + 142) 3))) ((a2.toNatClampNeg) + 142) 1)) ((a2.toNatClampNeg) + 142) 1).toNatClampNeg))) 33 3 (rd σ 2 (((rd σ 1 2) / (24 : Int32)).toNatClampNeg))) 33 4 ((rd σ 1 2) - (rd σ 1 2) / (24 : Int32) * (24 : Int32))) ((a2.toNatClampNeg) + 142) 1).toNatClampNeg))) ((a2.toNatClampNeg) + 142) 0).toNatClampNeg) + 130) ((rd (wr (wr (wr (wr (wr (wr σ 33 0 (((rd σ 1 2) / (24 : Int32)) - (rd σ ((a2.toNatClampNeg) + 142) 3))) 33 1 (rd (wr σ 33 0 (((rd σ 1 2) / (24 : Int32)) - (rd σ ((a2.toNatClampNeg) + 142) 3))) ((a2.toNatClampNeg) + 142) 1)) 33 2 (rd σ 15 ((rd (wr (wr σ 33 0 (((rd σ 1 2) / (24 : Int32)) - (rd σ ((a2.toNatClampNeg) + 142) 3))) 33 1 (rd (wr σ 33 0 (((rd σ 1 2) / (24 : Int32)) - (rd σ ((a2.toNatClampNeg) + 142) 3))) ((a2.toNatClampNeg) + 142) 1)) ((a2.toNatClampNeg) + 142) 1).toNatClampNeg))) 33 3 (rd σ 2 (((rd σ 1 2) / (24 : Int32)).toNatClampNeg))) 33 4 ((rd σ 1 2) - (rd σ 1 2) / (24 : Int32) * (24 : Int32))) 33 5 (rd (wr (wr (wr (wr (wr σ 33 0 (((rd σ 1 2) / (24 : Int32)) - (rd σ ((a2.toNatClampNeg) + 142) 3))) 33 1 (rd (wr σ 33 0 (((rd σ 1 2) / (24 : Int32)) - (rd σ ((a2.toNatClampNeg) + 142) 3))) ((a2.toNatClampNeg) + 142) 1)) 33 2 (rd σ 15 ((rd (wr (wr σ 33 0 (((rd σ 1 2) / (24 : Int32)) - (rd σ ((a2.toNatClampNeg) + 142) 3))) 33 1 (rd (wr σ 33 0 (((rd σ 1 2) / (24 : Int32)) - (rd σ ((a2.toNatClampNeg) + 142) 3))) ((a2.toNatClampNeg) + 142) 1)) ((a2.toNatClampNeg) + 142) 1).toNatClampNeg))) 33 3 (rd σ 2 (((rd σ 1 2) / (24 : Int32)).toNatClampNeg))) 33 4 ((rd σ 1 2) - (rd σ 1 2) / (24 : Int32) * (24 : Int32))) (((rd (wr (wr (wr (wr (wr σ 33 0 (((rd σ 1 2) / (24 : Int32)) - (rd σ ((a2.toNatClampNeg) + 142) 3))) 33 1 (rd (wr σ 33 0 (((rd σ 1 2) / (24 : Int32)) - (rd σ ((a2.toNatClampNeg) + 142) 3))) ((a2.toNatClampNeg) + 142) 1)) 33 2 (rd σ 15 ((rd (wr (wr σ 33 0 (((rd σ 1 2) / (24 : Int32)) - (rd σ ((a2.toNatClampNeg) + 142) 3))) 33 1 (rd (wr σ 33 0 (((rd σ 1 2) / (24 : Int32)) - (rd σ ((a2.toNatClampNeg) + 142) 3))) ((a2.toNatClampNeg) + 142) 1)) ((a2.toNatClampNeg) + 142) 1).toNatClampNeg))) 33 3 (rd σ 2 (((rd σ 1 2) / (24 : Int32)).toNatClampNeg))) 33 4 ((rd σ 1 2) - (rd σ 1 2) / (24 : Int32) * (24 : Int32))) ((a2.toNatClampNeg) + 142) 0).toNatClampNeg) + 118) ((rd (wr (wr (wr (wr (wr σ 33 0 (((rd σ 1 2) / (24 : Int32)) - (rd σ ((a2.toNatClampNeg) + 142) 3))) 33 1 (rd (wr σ 33 0 (((rd σ 1 2) / (24 : Int32)) - (rd σ ((a2.toNatClampNeg) + 142) 3))) ((a2.toNatClampNeg) + 142) 1)) 33 2 (rd σ 15 ((rd (wr (wr σ 33 0 (((rd σ 1 2) / (24 : Int32)) - (rd σ ((a2.toNatClampNeg) + 142) 3))) 33 1 (rd (wr σ 33 0 (((rd σ 1 2) / (24 : Int32)) - (rd σ ((a2.toNatClampNeg) + 142) 3))) ((a2.toNatClampNeg) + 142) 1)) ((a2.toNatClampNeg) + 142) 1).toNatClampNeg))) 33 3 (rd σ 2 (((rd σ 1 2) / (24 : Int32)).toNatClampNeg))) 33 4 ((rd σ 1 2) - (rd σ 1 2) / (24 : Int32) * (24 : Int32))) ((a2.toNatClampNeg) + 142) 1).toNatClampNeg))) ((a2.toNatClampNeg) + 142) 1).toNatClampNeg))) ((a2.toNatClampNeg) + 142) 0)) (KI (fun x9 σ8 => Q (some (.int x9)) σ8))) : J Γ l (d + 3) mX11_askOf Q 0 [(0, .ref 0), (1, .int a1), (2, .int a2)] [] σ := by
  refine J_aload_n (i := 0) (kk := 0) dX11_askOf_0 rfl rfl ?_
  refine J_getR 17 (q := 0) (ci := 11) (kf := 3) kfX11_33 uxX11 rfl (by decide) rfl (by decide) rfl dX11_askOf_1 ?_
  refine J_getR 18 (q := 17) (ci := 0) (kf := 0) kfX11_159 uxX0 rfl (by decide) rfl (by decide) rfl dX11_askOf_4 ?_
  refine J_iload_n (i := 2) (kk := 2) dX11_askOf_7 rfl rfl ?_
  have b1 := h.1
  replace h := h.2
  refine J_aald2 (a2.toNatClampNeg) rfl (by decide) rfl b1 dX11_askOf_8 ?_
  refine J_astore_n (i := 3) (lv' := [(3, .ref ((a2.toNatClampNeg) + 142)), (0, .ref 0), (1, .int a1), (2, .int a2)]) dX11_askOf_9 rfl (by decide) rfl ?_
  refine J_aload_n (i := 0) (kk := 1) dX11_askOf_10 rfl rfl ?_
  refine J_getR 33 (q := 0) (ci := 11) (kf := 6) kfX11_54 uxX11 rfl (by decide) rfl (by decide) rfl dX11_askOf_11 ?_
  refine J_aload_n (i := 0) (kk := 1) dX11_askOf_14 rfl rfl ?_
  refine J_getR 1 (q := 0) (ci := 11) (kf := 0) kfX11_10 uxX11 rfl (by decide) rfl (by decide) rfl dX11_askOf_15 ?_
  refine J_callV [] [.ref 33] calX3_today klX11_152 (b := 1) (ci := 3) (by decide) rfl rfl rfl rfl (Nat.le_of_ble_eq_true rfl) dX11_askOf_18 (KI.to (S_X3_today) ?_)
  rintro x9 s9 ⟨rfl, rfl⟩
  refine J_aload_n (i := 3) (kk := 0) dX11_askOf_21 rfl rfl ?_
  refine J_iconst (v := 3) dX11_askOf_22 (by decide) ?_
  refine J_ald 3 (by decide) (nc_row142 (vp_lt b1)) (sk_row142 (vp_lt b1)) (by unfold vp_in; decide) dX11_askOf_23 ?_
  refine J_isub dX11_askOf_24 ?_
  refine J_putf (q := 33) (ci := 4) (kf := 0) (ty := .int) kfX11_359 uxX4 tyX4_ok nmX4 rfl (by decide) rfl (by decide) rfl rfl rfl rfl rfl dX11_askOf_25 ?_
  refine J_aload_n (i := 0) (kk := 1) dX11_askOf_28 rfl rfl ?_
  refine J_getR 33 (q := 0) (ci := 11) (kf := 6) kfX11_54 uxX11 rfl (by decide) rfl (by decide) rfl dX11_askOf_29 ?_
  refine J_aload_n (i := 3) (kk := 0) dX11_askOf_32 rfl rfl ?_
  refine J_iconst (v := 1) dX11_askOf_33 (by decide) ?_
  refine J_ald 1 (by decide) (nc_row142 (vp_lt b1)) (sk_row142 (vp_lt b1)) (by unfold vp_in; decide) dX11_askOf_34 ?_
  refine J_putf (q := 33) (ci := 4) (kf := 1) (ty := .int) kfX11_362 uxX4 tyX4_ok nmX4 rfl (by decide) rfl (by decide) rfl rfl rfl rfl rfl dX11_askOf_35 ?_
  refine J_aload_n (i := 0) (kk := 1) dX11_askOf_38 rfl rfl ?_
  refine J_getR 33 (q := 0) (ci := 11) (kf := 6) kfX11_54 uxX11 rfl (by decide) rfl (by decide) rfl dX11_askOf_39 ?_
  refine J_aload_n (i := 0) (kk := 1) dX11_askOf_42 rfl rfl ?_
  refine J_getR 11 (q := 0) (ci := 11) (kf := 2) kfX11_26 uxX11 rfl (by decide) rfl (by decide) rfl dX11_askOf_43 ?_
  refine J_getR 15 (q := 11) (ci := 5) (kf := 3) kfX11_321 uxX5 rfl (by decide) rfl (by decide) rfl dX11_askOf_46 ?_
  refine J_aload_n (i := 3) (kk := 0) dX11_askOf_49 rfl rfl ?_
  refine J_iconst (v := 1) dX11_askOf_50 (by decide) ?_
  refine J_ald 1 (by decide) (nc_row142 (vp_lt b1)) (sk_row142 (vp_lt b1)) (by unfold vp_in; decide) dX11_askOf_51 ?_
  have b2 := h.1
  replace h := h.2
  refine J_ald ((rd (wr (wr σ 33 0 (((rd σ 1 2) / (24 : Int32)) - (rd σ ((a2.toNatClampNeg) + 142) 3))) 33 1 (rd (wr σ 33 0 (((rd σ 1 2) / (24 : Int32)) - (rd σ ((a2.toNatClampNeg) + 142) 3))) ((a2.toNatClampNeg) + 142) 1)) ((a2.toNatClampNeg) + 142) 1).toNatClampNeg) rfl (by decide) rfl b2 dX11_askOf_52 ?_
  refine J_eqI (y := rd σ 15 ((rd (wr (wr σ 33 0 (((rd σ 1 2) / (24 : Int32)) - (rd σ ((a2.toNatClampNeg) + 142) 3))) 33 1 (rd (wr σ 33 0 (((rd σ 1 2) / (24 : Int32)) - (rd σ ((a2.toNatClampNeg) + 142) 3))) ((a2.toNatClampNeg) + 142) 1)) ((a2.toNatClampNeg) + 142) 1).toNatClampNeg)) rfl ?_
  refine J_putf (q := 33) (ci := 4) (kf := 2) (ty := .int) kfX11_365 uxX4 tyX4_ok nmX4 rfl (by decide) rfl (by decide) rfl rfl rfl rfl rfl dX11_askOf_53 ?_
  refine J_aload_n (i := 0) (kk := 1) dX11_askOf_56 rfl rfl ?_
  refine J_getR 33 (q := 0) (ci := 11) (kf := 6) kfX11_54 uxX11 rfl (by decide) rfl (by decide) rfl dX11_askOf_57 ?_
  refine J_aload_n (i := 0) (kk := 1) dX11_askOf_60 rfl rfl ?_
  refine J_getR 1 (q := 0) (ci := 11) (kf := 0) kfX11_10 uxX11 rfl (by decide) rfl (by decide) rfl dX11_askOf_61 ?_
  have b3 := h.1
  replace h := h.2
  refine J_callV [] [.ref 33] calX3_weatherNow klX11_215 (b := 1) (ci := 3) (by decide) rfl rfl rfl rfl (Nat.le_of_ble_eq_true rfl) dX11_askOf_64 (KI.to (S_X3_weatherNow b3) ?_)
  rintro x9 s9 ⟨rfl, rfl⟩
  refine J_eqI (y := (rd σ 2 (((rd σ 1 2) / (24 : Int32)).toNatClampNeg))) rfl ?_
  refine J_putf (q := 33) (ci := 4) (kf := 3) (ty := .int) kfX11_367 uxX4 tyX4_ok nmX4 rfl (by decide) rfl (by decide) rfl rfl rfl rfl rfl dX11_askOf_67 ?_
  refine J_aload_n (i := 0) (kk := 1) dX11_askOf_70 rfl rfl ?_
  refine J_getR 33 (q := 0) (ci := 11) (kf := 6) kfX11_54 uxX11 rfl (by decide) rfl (by decide) rfl dX11_askOf_71 ?_
  refine J_aload_n (i := 0) (kk := 1) dX11_askOf_74 rfl rfl ?_
  refine J_getR 1 (q := 0) (ci := 11) (kf := 0) kfX11_10 uxX11 rfl (by decide) rfl (by decide) rfl dX11_askOf_75 ?_
  refine J_callV [] [.ref 33] calX3_hourOfDay klX11_135 (b := 1) (ci := 3) (by decide) rfl rfl rfl rfl (Nat.le_of_ble_eq_true rfl) dX11_askOf_78 (KI.to (S_X3_hourOfDay) ?_)
  rintro x9 s9 ⟨rfl, rfl⟩
  refine J_eqI (y := (rd σ 1 2) - (rd σ 1 2) / (24 : Int32) * (24 : Int32)) rfl ?_
  refine J_putf (q := 33) (ci := 4) (kf := 4) (ty := .int) kfX11_369 uxX4 tyX4_ok nmX4 rfl (by decide) rfl (by decide) rfl rfl rfl rfl rfl dX11_askOf_81 ?_
  refine J_aload_n (i := 0) (kk := 1) dX11_askOf_84 rfl rfl ?_
  refine J_getR 33 (q := 0) (ci := 11) (kf := 6) kfX11_54 uxX11 rfl (by decide) rfl (by decide) rfl dX11_askOf_85 ?_
  refine J_aload_n (i := 0) (kk := 1) dX11_askOf_88 rfl rfl ?_
  refine J_getR 4 (q := 0) (ci := 11) (kf := 1) kfX11_19 uxX11 rfl (by decide) rfl (by decide) rfl dX11_askOf_89 ?_
  refine J_getR 9 (q := 4) (ci := 9) (kf := 3) kfX11_145 uxX9 rfl (by decide) rfl (by decide) rfl dX11_askOf_92 ?_
  refine J_aload_n (i := 3) (kk := 0) dX11_askOf_95 rfl rfl ?_
  refine J_iconst (v := 0) dX11_askOf_96 (by decide) ?_
  refine J_ald 0 (by decide) (nc_row142 (vp_lt b1)) (sk_row142 (vp_lt b1)) (by unfold vp_in; decide) dX11_askOf_97 ?_
  have b4 := h.1
  replace h := h.2
  refine J_aald2 ((rd (wr (wr (wr (wr (wr σ 33 0 (((rd σ 1 2) / (24 : Int32)) - (rd σ ((a2.toNatClampNeg) + 142) 3))) 33 1 (rd (wr σ 33 0 (((rd σ 1 2) / (24 : Int32)) - (rd σ ((a2.toNatClampNeg) + 142) 3))) ((a2.toNatClampNeg) + 142) 1)) 33 2 (rd σ 15 ((rd (wr (wr σ 33 0 (((rd σ 1 2) / (24 : Int32)) - (rd σ ((a2.toNatClampNeg) + 142) 3))) 33 1 (rd (wr σ 33 0 (((rd σ 1 2) / (24 : Int32)) - (rd σ ((a2.toNatClampNeg) + 142) 3))) ((a2.toNatClampNeg) + 142) 1)) ((a2.toNatClampNeg) + 142) 1).toNatClampNeg))) 33 3 (rd σ 2 (((rd σ 1 2) / (24 : Int32)).toNatClampNeg))) 33 4 ((rd σ 1 2) - (rd σ 1 2) / (24 : Int32) * (24 : Int32))) ((a2.toNatClampNeg) + 142) 0).toNatClampNeg) rfl (by decide) rfl b4 dX11_askOf_98 ?_
  refine J_aload_n (i := 3) (kk := 0) dX11_askOf_99 rfl rfl ?_
  refine J_iconst (v := 1) dX11_askOf_100 (by decide) ?_
  refine J_ald 1 (by decide) (nc_row142 (vp_lt b1)) (sk_row142 (vp_lt b1)) (by unfold vp_in; decide) dX11_askOf_101 ?_
  have b5 := h.1
  replace h := h.2
  refine J_ald ((rd (wr (wr (wr (wr (wr σ 33 0 (((rd σ 1 2) / (24 : Int32)) - (rd σ ((a2.toNatClampNeg) + 142) 3))) 33 1 (rd (wr σ 33 0 (((rd σ 1 2) / (24 : Int32)) - (rd σ ((a2.toNatClampNeg) + 142) 3))) ((a2.toNatClampNeg) + 142) 1)) 33 2 (rd σ 15 ((rd (wr (wr σ 33 0 (((rd σ 1 2) / (24 : Int32)) - (rd σ ((a2.toNatClampNeg) + 142) 3))) 33 1 (rd (wr σ 33 0 (((rd σ 1 2) / (24 : Int32)) - (rd σ ((a2.toNatClampNeg) + 142) 3))) ((a2.toNatClampNeg) + 142) 1)) ((a2.toNatClampNeg) + 142) 1).toNatClampNeg))) 33 3 (rd σ 2 (((rd σ 1 2) / (24 : Int32)).toNatClampNeg))) 33 4 ((rd σ 1 2) - (rd σ 1 2) / (24 : Int32) * (24 : Int32))) ((a2.toNatClampNeg) + 142) 1).toNatClampNeg) rfl (nc_row118 (vp_lt b4)) (sk_row118 (vp_lt b4)) b5 dX11_askOf_102 ?_
  refine J_putf (q := 33) (ci := 4) (kf := 5) (ty := .int) kfX11_370 uxX4 tyX4_ok nmX4 rfl (by decide) rfl (by decide) rfl rfl rfl rfl rfl dX11_askOf_103 ?_
  refine J_aload_n (i := 0) (kk := 1) dX11_askOf_106 rfl rfl ?_
  refine J_getR 33 (q := 0) (ci := 11) (kf := 6) kfX11_54 uxX11 rfl (by decide) rfl (by decide) rfl dX11_askOf_107 ?_
  refine J_aload_n (i := 0) (kk := 1) dX11_askOf_110 rfl rfl ?_
  refine J_getR 4 (q := 0) (ci := 11) (kf := 1) kfX11_19 uxX11 rfl (by decide) rfl (by decide) rfl dX11_askOf_111 ?_
  refine J_getR 10 (q := 4) (ci := 9) (kf := 4) kfX11_149 uxX9 rfl (by decide) rfl (by decide) rfl dX11_askOf_114 ?_
  refine J_aload_n (i := 3) (kk := 0) dX11_askOf_117 rfl rfl ?_
  refine J_iconst (v := 0) dX11_askOf_118 (by decide) ?_
  refine J_ald 0 (by decide) (nc_row142 (vp_lt b1)) (sk_row142 (vp_lt b1)) (by unfold vp_in; decide) dX11_askOf_119 ?_
  have b6 := h.1
  replace h := h.2
  refine J_aald2 ((rd (wr (wr (wr (wr (wr (wr σ 33 0 (((rd σ 1 2) / (24 : Int32)) - (rd σ ((a2.toNatClampNeg) + 142) 3))) 33 1 (rd (wr σ 33 0 (((rd σ 1 2) / (24 : Int32)) - (rd σ ((a2.toNatClampNeg) + 142) 3))) ((a2.toNatClampNeg) + 142) 1)) 33 2 (rd σ 15 ((rd (wr (wr σ 33 0 (((rd σ 1 2) / (24 : Int32)) - (rd σ ((a2.toNatClampNeg) + 142) 3))) 33 1 (rd (wr σ 33 0 (((rd σ 1 2) / (24 : Int32)) - (rd σ ((a2.toNatClampNeg) + 142) 3))) ((a2.toNatClampNeg) + 142) 1)) ((a2.toNatClampNeg) + 142) 1).toNatClampNeg))) 33 3 (rd σ 2 (((rd σ 1 2) / (24 : Int32)).toNatClampNeg))) 33 4 ((rd σ 1 2) - (rd σ 1 2) / (24 : Int32) * (24 : Int32))) 33 5 (rd (wr (wr (wr (wr (wr σ 33 0 (((rd σ 1 2) / (24 : Int32)) - (rd σ ((a2.toNatClampNeg) + 142) 3))) 33 1 (rd (wr σ 33 0 (((rd σ 1 2) / (24 : Int32)) - (rd σ ((a2.toNatClampNeg) + 142) 3))) ((a2.toNatClampNeg) + 142) 1)) 33 2 (rd σ 15 ((rd (wr (wr σ 33 0 (((rd σ 1 2) / (24 : Int32)) - (rd σ ((a2.toNatClampNeg) + 142) 3))) 33 1 (rd (wr σ 33 0 (((rd σ 1 2) / (24 : Int32)) - (rd σ ((a2.toNatClampNeg) + 142) 3))) ((a2.toNatClampNeg) + 142) 1)) ((a2.toNatClampNeg) + 142) 1).toNatClampNeg))) 33 3 (rd σ 2 (((rd σ 1 2) / (24 : Int32)).toNatClampNeg))) 33 4 ((rd σ 1 2) - (rd σ 1 2) / (24 : Int32) * (24 : Int32))) (((rd (wr (wr (wr (wr (wr σ 33 0 (((rd σ 1 2) / (24 : Int32)) - (rd σ ((a2.toNatClampNeg) + 142) 3))) 33 1 (rd (wr σ 33 0 (((rd σ 1 2) / (24 : Int32)) - (rd σ ((a2.toNatClampNeg) + 142) 3))) ((a2.toNatClampNeg) + 142) 1)) 33 2 (rd σ 15 ((rd (wr (wr σ 33 0 (((rd σ 1 2) / (24 : Int32)) - (rd σ ((a2.toNatClampNeg) + 142) 3))) 33 1 (rd (wr σ 33 0 (((rd σ 1 2) / (24 : Int32)) - (rd σ ((a2.toNatClampNeg) + 142) 3))) ((a2.toNatClampNeg) + 142) 1)) ((a2.toNatClampNeg) + 142) 1).toNatClampNeg))) 33 3 (rd σ 2 (((rd σ 1 2) / (24 : Int32)).toNatClampNeg))) 33 4 ((rd σ 1 2) - (rd σ 1 2) / (24 : Int32) * (24 : Int32))) ((a2.toNatClampNeg) + 142) 0).toNatClampNeg) + 118) ((rd (wr (wr (wr (wr (wr σ 33 0 (((rd σ 1 2) / (24 : Int32)) - (rd σ ((a2.toNatClampNeg) + 142) 3))) 33 1 (rd (wr σ 33 0 (((rd σ 1 2) / (24 : Int32)) - (rd σ ((a2.toNatClampNeg) + 142) 3))) ((a2.toNatClampNeg) + 142) 1)) 33 2 (rd σ 15 ((rd (wr (wr σ 33 0 (((rd σ 1 2) / (24 : Int32)) - (rd σ ((a2.toNatClampNeg) + 142) 3))) 33 1 (rd (wr σ 33 0 (((rd σ 1 2) / (24 : Int32)) - (rd σ ((a2.toNatClampNeg) + 142) 3))) ((a2.toNatClampNeg) + 142) 1)) ((a2.toNatClampNeg) + 142) 1).toNatClampNeg))) 33 3 (rd σ 2 (((rd σ 1 2) / (24 : Int32)).toNatClampNeg))) 33 4 ((rd σ 1 2) - (rd σ 1 2) / (24 : Int32) * (24 : Int32))) ((a2.toNatClampNeg) + 142) 1).toNatClampNeg))) ((a2.toNatClampNeg) + 142) 0).toNatClampNeg) rfl (by decide) rfl b6 dX11_askOf_120 ?_
  refine J_aload_n (i := 3) (kk := 0) dX11_askOf_121 rfl rfl ?_
  refine J_iconst (v := 1) dX11_askOf_122 (by decide) ?_
  refine J_ald 1 (by decide) (nc_row142 (vp_lt b1)) (sk_row142 (vp_lt b1)) (by unfold vp_in; decide) dX11_askOf_123 ?_
  have b7 := h.1
  replace h := h.2
  refine J_ald ((rd (wr (wr (wr (wr (wr (wr σ 33 0 (((rd σ 1 2) / (24 : Int32)) - (rd σ ((a2.toNatClampNeg) + 142) 3))) 33 1 (rd (wr σ 33 0 (((rd σ 1 2) / (24 : Int32)) - (rd σ ((a2.toNatClampNeg) + 142) 3))) ((a2.toNatClampNeg) + 142) 1)) 33 2 (rd σ 15 ((rd (wr (wr σ 33 0 (((rd σ 1 2) / (24 : Int32)) - (rd σ ((a2.toNatClampNeg) + 142) 3))) 33 1 (rd (wr σ 33 0 (((rd σ 1 2) / (24 : Int32)) - (rd σ ((a2.toNatClampNeg) + 142) 3))) ((a2.toNatClampNeg) + 142) 1)) ((a2.toNatClampNeg) + 142) 1).toNatClampNeg))) 33 3 (rd σ 2 (((rd σ 1 2) / (24 : Int32)).toNatClampNeg))) 33 4 ((rd σ 1 2) - (rd σ 1 2) / (24 : Int32) * (24 : Int32))) 33 5 (rd (wr (wr (wr (wr (wr σ 33 0 (((rd σ 1 2) / (24 : Int32)) - (rd σ ((a2.toNatClampNeg) + 142) 3))) 33 1 (rd (wr σ 33 0 (((rd σ 1 2) / (24 : Int32)) - (rd σ ((a2.toNatClampNeg) + 142) 3))) ((a2.toNatClampNeg) + 142) 1)) 33 2 (rd σ 15 ((rd (wr (wr σ 33 0 (((rd σ 1 2) / (24 : Int32)) - (rd σ ((a2.toNatClampNeg) + 142) 3))) 33 1 (rd (wr σ 33 0 (((rd σ 1 2) / (24 : Int32)) - (rd σ ((a2.toNatClampNeg) + 142) 3))) ((a2.toNatClampNeg) + 142) 1)) ((a2.toNatClampNeg) + 142) 1).toNatClampNeg))) 33 3 (rd σ 2 (((rd σ 1 2) / (24 : Int32)).toNatClampNeg))) 33 4 ((rd σ 1 2) - (rd σ 1 2) / (24 : Int32) * (24 : Int32))) (((rd (wr (wr (wr (wr (wr σ 33 0 (((rd σ 1 2) / (24 : Int32)) - (rd σ ((a2.toNatClampNeg) + 142) 3))) 33 1 (rd (wr σ 33 0 (((rd σ 1 2) / (24 : Int32)) - (rd σ ((a2.toNatClampNeg) + 142) 3))) ((a2.toNatClampNeg) + 142) 1)) 33 2 (rd σ 15 ((rd (wr (wr σ 33 0 (((rd σ 1 2) / (24 : Int32)) - (rd σ ((a2.toNatClampNeg) + 142) 3))) 33 1 (rd (wr σ 33 0 (((rd σ 1 2) / (24 : Int32)) - (rd σ ((a2.toNatClampNeg) + 142) 3))) ((a2.toNatClampNeg) + 142) 1)) ((a2.toNatClampNeg) + 142) 1).toNatClampNeg))) 33 3 (rd σ 2 (((rd σ 1 2) / (24 : Int32)).toNatClampNeg))) 33 4 ((rd σ 1 2) - (rd σ 1 2) / (24 : Int32) * (24 : Int32))) ((a2.toNatClampNeg) + 142) 0).toNatClampNeg) + 118) ((rd (wr (wr (wr (wr (wr σ 33 0 (((rd σ 1 2) / (24 : Int32)) - (rd σ ((a2.toNatClampNeg) + 142) 3))) 33 1 (rd (wr σ 33 0 (((rd σ 1 2) / (24 : Int32)) - (rd σ ((a2.toNatClampNeg) + 142) 3))) ((a2.toNatClampNeg) + 142) 1)) 33 2 (rd σ 15 ((rd (wr (wr σ 33 0 (((rd σ 1 2) / (24 : Int32)) - (rd σ ((a2.toNatClampNeg) + 142) 3))) 33 1 (rd (wr σ 33 0 (((rd σ 1 2) / (24 : Int32)) - (rd σ ((a2.toNatClampNeg) + 142) 3))) ((a2.toNatClampNeg) + 142) 1)) ((a2.toNatClampNeg) + 142) 1).toNatClampNeg))) 33 3 (rd σ 2 (((rd σ 1 2) / (24 : Int32)).toNatClampNeg))) 33 4 ((rd σ 1 2) - (rd σ 1 2) / (24 : Int32) * (24 : Int32))) ((a2.toNatClampNeg) + 142) 1).toNatClampNeg))) ((a2.toNatClampNeg) + 142) 1).toNatClampNeg) rfl (nc_row130 (vp_lt b6)) (sk_row130 (vp_lt b6)) b7 dX11_askOf_124 ?_
  refine J_putf (q := 33) (ci := 4) (kf := 6) (ty := .int) kfX11_372 uxX4 tyX4_ok nmX4 rfl (by decide) rfl (by decide) rfl rfl rfl rfl rfl dX11_askOf_125 ?_
  refine J_aload_n (i := 0) (kk := 1) dX11_askOf_128 rfl rfl ?_
  refine J_getR 33 (q := 0) (ci := 11) (kf := 6) kfX11_54 uxX11 rfl (by decide) rfl (by decide) rfl dX11_askOf_129 ?_
  refine J_aload_n (i := 3) (kk := 0) dX11_askOf_132 rfl rfl ?_
  refine J_iconst (v := 0) dX11_askOf_133 (by decide) ?_
  refine J_ald 0 (by decide) (nc_row142 (vp_lt b1)) (sk_row142 (vp_lt b1)) (by unfold vp_in; decide) dX11_askOf_134 ?_
  refine J_putf (q := 33) (ci := 4) (kf := 7) (ty := .int) kfX11_374 uxX4 tyX4_ok nmX4 rfl (by decide) rfl (by decide) rfl rfl rfl rfl rfl dX11_askOf_135 ?_
  refine J_aload_n (i := 0) (kk := 1) dX11_askOf_138 rfl rfl ?_
  refine J_getR 26 (q := 0) (ci := 11) (kf := 5) kfX11_47 uxX11 rfl (by decide) rfl (by decide) rfl dX11_askOf_139 ?_
  refine J_iload_n (i := 1) (kk := 2) dX11_askOf_142 rfl rfl ?_
  refine J_aload_n (i := 0) (kk := 1) dX11_askOf_143 rfl rfl ?_
  refine J_getR 33 (q := 0) (ci := 11) (kf := 6) kfX11_54 uxX11 rfl (by decide) rfl (by decide) rfl dX11_askOf_144 ?_
  refine J_callV [.int a1, .ref 33] [] calX6_valueOf klX11_377 (b := 26) (ci := 6) (by decide) rfl rfl rfl rfl (Nat.le_of_ble_eq_true rfl) dX11_askOf_147 (KI.to h ?_)
  clear h
  intro x9 σ8 h
  exact J_iret rfl dX11_askOf_150 h
theorem M_X11_askOf {Γ : GG} {l : Launch} {d : Nat} {Q : Option Value → St → Prop} {σ : St} (a1 : Int32) (a2 : Int32) (k : J Γ l (d + 3) mX11_askOf Q 0 [(0, .ref 0), (1, .int a1), (2, .int a2)] [] σ) : Meth Γ l (d + 3) mX11_askOf [.ref 0, .int a1, .int a2] σ Q := Meth_of_J (by decide +kernel) (fun _ => Nat.le_of_ble_eq_true rfl) (fun _ => rfl) k
set_option maxHeartbeats 4000000 in
set_option maxRecDepth 100000 in
theorem w_X11_lawToday_0 {Γ : GG} {l : Launch} {d : Nat} {Q : Option Value → St → Prop} {σ : St} (a1 : Int32) (h : Meth Γ l d mX6_latest [.ref 26, .int a1, .int ((rd σ 1 2) / (24 : Int32)), .int ((rd σ 1 2) / (24 : Int32))] σ (KI (fun x2 σ1 => Q (some (.int x2)) σ1))) : J Γ l (d + 1) mX11_lawToday Q 0 [(0, .ref 0), (1, .int a1)] [] σ := by
  refine J_aload_n (i := 0) (kk := 0) dX11_lawToday_0 rfl rfl ?_
  refine J_getR 26 (q := 0) (ci := 11) (kf := 5) kfX11_47 uxX11 rfl (by decide) rfl (by decide) rfl dX11_lawToday_1 ?_
  refine J_iload_n (i := 1) (kk := 1) dX11_lawToday_4 rfl rfl ?_
  refine J_aload_n (i := 0) (kk := 0) dX11_lawToday_5 rfl rfl ?_
  refine J_getR 1 (q := 0) (ci := 11) (kf := 0) kfX11_10 uxX11 rfl (by decide) rfl (by decide) rfl dX11_lawToday_6 ?_
  refine J_callV [] [.int a1, .ref 26] calX3_today klX11_152 (b := 1) (ci := 3) (by decide) rfl rfl rfl rfl (Nat.le_of_ble_eq_true rfl) dX11_lawToday_9 (KI.to (S_X3_today) ?_)
  rintro x9 s9 ⟨rfl, rfl⟩
  refine J_aload_n (i := 0) (kk := 0) dX11_lawToday_12 rfl rfl ?_
  refine J_getR 1 (q := 0) (ci := 11) (kf := 0) kfX11_10 uxX11 rfl (by decide) rfl (by decide) rfl dX11_lawToday_13 ?_
  refine J_callV [] [.int ((rd σ 1 2) / (24 : Int32)), .int a1, .ref 26] calX3_today klX11_152 (b := 1) (ci := 3) (by decide) rfl rfl rfl rfl (Nat.le_of_ble_eq_true rfl) dX11_lawToday_16 (KI.to (S_X3_today) ?_)
  rintro x9 s9 ⟨rfl, rfl⟩
  refine J_callV [.int a1, .int ((rd σ 1 2) / (24 : Int32)), .int ((rd σ 1 2) / (24 : Int32))] [] calX6_latest klX11_194 (b := 26) (ci := 6) (by decide) rfl rfl rfl rfl (Nat.le_of_ble_eq_true rfl) dX11_lawToday_19 (KI.to h ?_)
  clear h
  intro x2 σ1 h
  exact J_iret rfl dX11_lawToday_22 h
theorem M_X11_lawToday {Γ : GG} {l : Launch} {d : Nat} {Q : Option Value → St → Prop} {σ : St} (a1 : Int32) (k : J Γ l (d + 1) mX11_lawToday Q 0 [(0, .ref 0), (1, .int a1)] [] σ) : Meth Γ l (d + 1) mX11_lawToday [.ref 0, .int a1] σ Q := Meth_of_J (by decide +kernel) (fun _ => Nat.le_of_ble_eq_true rfl) (fun _ => rfl) k
set_option maxHeartbeats 4000000 in
set_option maxRecDepth 100000 in
theorem w_X11_lets_0 {Γ : GG} {l : Launch} {d : Nat} {Q : Option Value → St → Prop} {σ : St} (a1 : Int32) (a2 : Int32) (h : (a1 < (0 : Int32) → Q (some (.int (1))) σ) ∧ (¬ a1 < (0 : Int32) → Meth Γ l (d + 3) mX11_askOf [.ref 0, .int a1, .int a2] σ (KI (fun x2 σ1 => (x2 = (0 : Int32) → Q (some (.int (0))) σ1) ∧ (¬ x2 = (0 : Int32) → Q (some (.int (1))) σ1))))) : J Γ l (d + 4) mX11_lets Q 0 [(0, .ref 0), (1, .int a1), (2, .int a2)] [] σ := by
  refine J_iload_n (i := 1) (kk := 1) dX11_lets_0 rfl rfl ?_
  refine J_if_lt 13 dX11_lets_1 (by decide) (fun hc => ?_) (fun hc => ?_)
  · replace h := h.1 hc
    refine J_iconst (v := 1) dX11_lets_13 (by decide) ?_
    refine J_goto (tgt := 18) dX11_lets_14 (by decide) ?_
    exact J_zret rfl (by decide) dX11_lets_18 h
  · replace h := h.2 hc
    refine J_aload_n (i := 0) (kk := 0) dX11_lets_4 rfl rfl ?_
    refine J_iload_n (i := 1) (kk := 1) dX11_lets_5 rfl rfl ?_
    refine J_iload_n (i := 2) (kk := 2) dX11_lets_6 rfl rfl ?_
    refine J_callV [.int a1, .int a2] [] calX11_askOf klX11_197 (b := 0) (ci := 11) (by decide) rfl rfl rfl rfl (Nat.le_of_ble_eq_true rfl) dX11_lets_7 (KI.to h ?_)
    clear h
    intro x2 σ1 h
    refine J_if_eq 17 dX11_lets_10 (by decide) (fun hc => ?_) (fun hc => ?_)
    · replace h := h.1 hc
      refine J_iconst (v := 0) dX11_lets_17 (by decide) ?_
      exact J_zret rfl (by decide) dX11_lets_18 h
    · replace h := h.2 hc
      refine J_iconst (v := 1) dX11_lets_13 (by decide) ?_
      refine J_goto (tgt := 18) dX11_lets_14 (by decide) ?_
      exact J_zret rfl (by decide) dX11_lets_18 h
theorem M_X11_lets {Γ : GG} {l : Launch} {d : Nat} {Q : Option Value → St → Prop} {σ : St} (a1 : Int32) (a2 : Int32) (k : J Γ l (d + 4) mX11_lets Q 0 [(0, .ref 0), (1, .int a1), (2, .int a2)] [] σ) : Meth Γ l (d + 4) mX11_lets [.ref 0, .int a1, .int a2] σ Q := Meth_of_J (by decide +kernel) (fun _ => Nat.le_of_ble_eq_true rfl) (fun _ => rfl) k
set_option maxHeartbeats 4000000 in
set_option maxRecDepth 100000 in
theorem w_X11_lineUp_72 {Γ : GG} {l : Launch} {d : Nat} {Q : Option Value → St → Prop} {σ : St} (a1 : Int32) (a2 : Int32) (a4 : Int32) (a5 : Int32) (a6 : Int32) (i7 : Nat) (hi7 : i7 < 200) (h : ∀ x1 : Int32, x1 = a6 + 1 → J Γ l (d + 5) mX11_lineUp Q 21 [(0, .ref 0), (1, .int a1), (2, .int a2), (4, .int a4), (5, .int a5), (6, .int x1)] [] σ) : J Γ l (d + 5) mX11_lineUp Q 72 [(0, .ref 0), (1, .int a1), (2, .int a2), (4, .int a4), (5, .int a5), (6, .int a6), (7, .ref (i7 + 142))] [] σ := by
  refine J_iconst (v := 0) dX11_lineUp_72 (by decide) ?_
  refine J_istore (i := 8) (lv' := [(8, .int (0)), (0, .ref 0), (1, .int a1), (2, .int a2), (4, .int a4), (5, .int a5), (6, .int a6), (7, .ref (i7 + 142))]) dX11_lineUp_73 (by decide) rfl ?_
  refine J_iload (i := 8) (kk := 0) dX11_lineUp_75 rfl ?_
  refine J_if_eq 109 dX11_lineUp_77 (by decide) (fun _ => ?_) (fun hc => absurd hc (by decide))
  obtain ⟨x1, ex1⟩ : ∃ y : Int32, y = a6 + 1 := ⟨_, rfl⟩
  replace h := h x1 ex1
  refine J_iinc (i := 6) (kk := 6) (v := x1) (lv' := [(6, .int x1), (8, .int (0)), (0, .ref 0), (1, .int a1), (2, .int a2), (4, .int a4), (5, .int a5), (7, .ref (i7 + 142))]) dX11_lineUp_109 rfl (by rw [ex1]; rfl) (by decide) rfl ?_
  refine J_goto (tgt := 21) dX11_lineUp_112 (by decide) ?_
  refine J_sub [2, 3, 4, 5, 6, 0] rfl ?_
  exact h
set_option maxHeartbeats 4000000 in
set_option maxRecDepth 100000 in
theorem w_X11_lineUp_21 {Γ : GG} {l : Launch} {d : Nat} {Q : Option Value → St → Prop} {σ : St} (a1 : Int32) (a2 : Int32) (a4 : Int32) (a5 : Int32) (a6 : Int32) (h : (rd σ 17 1 ≤ a6 → Q (some (.int a5)) σ) ∧ (¬ rd σ 17 1 ≤ a6 → vp_in a6 200 ∧ (rd σ ((a6.toNatClampNeg) + 142) 0 = a1 → (rd σ ((a6.toNatClampNeg) + 142) 1 = a2 → (rd σ ((a6.toNatClampNeg) + 142) 5 ≤ (0 : Int32) → J Γ l (d + 5) mX11_lineUp Q 72 [(0, .ref 0), (1, .int a1), (2, .int a2), (4, .int a4), (5, .int a5), (6, .int a6), (7, .ref ((a6.toNatClampNeg) + 142))] [] σ) ∧ (¬ rd σ ((a6.toNatClampNeg) + 142) 5 ≤ (0 : Int32) → Meth Γ l (d + 4) mX11_lets [.ref 0, .int a4, .int a6] σ (KI (fun x3 σ2 => (x3 = (0 : Int32) → ∀ x4 : Int32, x4 = a6 + 1 → J Γ l (d + 5) mX11_lineUp Q 21 [(0, .ref 0), (1, .int a1), (2, .int a2), (4, .int a4), (5, .int a5), (6, .int x4)] [] σ2) ∧ (¬ x3 = (0 : Int32) → Meth Γ l (d + 4) mX0_addToLine [.ref 17, .int a6] σ2 (KV (fun σ5 => ∀ x6 : Int32, x6 = a5 + (rd σ5 ((a6.toNatClampNeg) + 142) 5) → ∀ x7 : Int32, x7 = a6 + 1 → J Γ l (d + 5) mX11_lineUp Q 21 [(0, .ref 0), (1, .int a1), (2, .int a2), (4, .int a4), (5, .int x6), (6, .int x7)] [] σ5))))))) ∧ (¬ rd σ ((a6.toNatClampNeg) + 142) 1 = a2 → J Γ l (d + 5) mX11_lineUp Q 72 [(0, .ref 0), (1, .int a1), (2, .int a2), (4, .int a4), (5, .int a5), (6, .int a6), (7, .ref ((a6.toNatClampNeg) + 142))] [] σ)) ∧ (¬ rd σ ((a6.toNatClampNeg) + 142) 0 = a1 → J Γ l (d + 5) mX11_lineUp Q 72 [(0, .ref 0), (1, .int a1), (2, .int a2), (4, .int a4), (5, .int a5), (6, .int a6), (7, .ref ((a6.toNatClampNeg) + 142))] [] σ))) : J Γ l (d + 5) mX11_lineUp Q 21 [(0, .ref 0), (1, .int a1), (2, .int a2), (4, .int a4), (5, .int a5), (6, .int a6)] [] σ := by
  refine J_iload (i := 6) (kk := 5) dX11_lineUp_21 rfl ?_
  refine J_aload_n (i := 0) (kk := 0) dX11_lineUp_23 rfl rfl ?_
  refine J_getR 17 (q := 0) (ci := 11) (kf := 3) kfX11_33 uxX11 rfl (by decide) rfl (by decide) rfl dX11_lineUp_24 ?_
  refine J_getI (q := 17) (ci := 0) (kf := 1) kfX11_346 uxX0 rfl (by decide) rfl (by decide) rfl dX11_lineUp_27 ?_
  refine J_icmp_ge 115 dX11_lineUp_30 (by decide) (fun hc => ?_) (fun hc => ?_)
  · replace h := h.1 hc
    refine J_iload (i := 5) (kk := 4) dX11_lineUp_115 rfl ?_
    exact J_iret rfl dX11_lineUp_117 h
  · replace h := h.2 hc
    refine J_aload_n (i := 0) (kk := 0) dX11_lineUp_33 rfl rfl ?_
    refine J_getR 17 (q := 0) (ci := 11) (kf := 3) kfX11_33 uxX11 rfl (by decide) rfl (by decide) rfl dX11_lineUp_34 ?_
    refine J_getR 18 (q := 17) (ci := 0) (kf := 0) kfX11_159 uxX0 rfl (by decide) rfl (by decide) rfl dX11_lineUp_37 ?_
    refine J_iload (i := 6) (kk := 5) dX11_lineUp_40 rfl ?_
    have b1 := h.1
    replace h := h.2
    refine J_aald2 (a6.toNatClampNeg) rfl (by decide) rfl b1 dX11_lineUp_42 ?_
    refine J_astore (i := 7) (lv' := [(7, .ref ((a6.toNatClampNeg) + 142)), (0, .ref 0), (1, .int a1), (2, .int a2), (4, .int a4), (5, .int a5), (6, .int a6)]) dX11_lineUp_43 (by decide) rfl ?_
    refine J_aload (i := 7) (kk := 0) dX11_lineUp_45 rfl ?_
    refine J_iconst (v := 0) dX11_lineUp_47 (by decide) ?_
    refine J_ald 0 (by decide) (nc_row142 (vp_lt b1)) (sk_row142 (vp_lt b1)) (by unfold vp_in; decide) dX11_lineUp_48 ?_
    refine J_iload_n (i := 1) (kk := 2) dX11_lineUp_49 rfl rfl ?_
    refine J_icmp_ne 72 dX11_lineUp_50 (by decide) (fun hc => ?_) (fun hc => ?_)
    · replace h := h.2 hc
      refine J_sub [1, 2, 3, 4, 5, 6, 0] rfl ?_
      exact h
    · replace h := h.1 hc
      refine J_aload (i := 7) (kk := 0) dX11_lineUp_53 rfl ?_
      refine J_iconst (v := 1) dX11_lineUp_55 (by decide) ?_
      refine J_ald 1 (by decide) (nc_row142 (vp_lt b1)) (sk_row142 (vp_lt b1)) (by unfold vp_in; decide) dX11_lineUp_56 ?_
      refine J_iload_n (i := 2) (kk := 3) dX11_lineUp_57 rfl rfl ?_
      refine J_icmp_ne 72 dX11_lineUp_58 (by decide) (fun hc => ?_) (fun hc => ?_)
      · replace h := h.2 hc
        refine J_sub [1, 2, 3, 4, 5, 6, 0] rfl ?_
        exact h
      · replace h := h.1 hc
        refine J_aload (i := 7) (kk := 0) dX11_lineUp_61 rfl ?_
        refine J_iconst (v := 5) dX11_lineUp_63 (by decide) ?_
        refine J_ald 5 (by decide) (nc_row142 (vp_lt b1)) (sk_row142 (vp_lt b1)) (by unfold vp_in; decide) dX11_lineUp_64 ?_
        refine J_if_le 72 dX11_lineUp_65 (by decide) (fun hc => ?_) (fun hc => ?_)
        · replace h := h.1 hc
          refine J_sub [1, 2, 3, 4, 5, 6, 0] rfl ?_
          exact h
        · replace h := h.2 hc
          refine J_iconst (v := 1) dX11_lineUp_68 (by decide) ?_
          refine J_goto (tgt := 73) dX11_lineUp_69 (by decide) ?_
          refine J_istore (i := 8) (lv' := [(8, .int (1)), (7, .ref ((a6.toNatClampNeg) + 142)), (0, .ref 0), (1, .int a1), (2, .int a2), (4, .int a4), (5, .int a5), (6, .int a6)]) dX11_lineUp_73 (by decide) rfl ?_
          refine J_iload (i := 8) (kk := 0) dX11_lineUp_75 rfl ?_
          refine J_if_eq 109 dX11_lineUp_77 (by decide) (fun hc => absurd hc (by decide)) (fun _ => ?_)
          refine J_aload_n (i := 0) (kk := 2) dX11_lineUp_80 rfl rfl ?_
          refine J_iload (i := 4) (kk := 5) dX11_lineUp_81 rfl ?_
          refine J_iload (i := 6) (kk := 7) dX11_lineUp_83 rfl ?_
          refine J_callV [.int a4, .int a6] [] calX11_lets klX11_387 (b := 0) (ci := 11) (by decide) rfl rfl rfl rfl (Nat.le_of_ble_eq_true rfl) dX11_lineUp_85 (KI.to h ?_)
          clear h
          intro x3 σ2 h
          refine J_if_eq 109 dX11_lineUp_88 (by decide) (fun hc => ?_) (fun hc => ?_)
          · replace h := h.1 hc
            obtain ⟨x4, ex4⟩ : ∃ y : Int32, y = a6 + 1 := ⟨_, rfl⟩
            replace h := h x4 ex4
            refine J_iinc (i := 6) (kk := 7) (v := x4) (lv' := [(6, .int x4), (8, .int (1)), (7, .ref ((a6.toNatClampNeg) + 142)), (0, .ref 0), (1, .int a1), (2, .int a2), (4, .int a4), (5, .int a5)]) dX11_lineUp_109 rfl (by rw [ex4]; rfl) (by decide) rfl ?_
            refine J_goto (tgt := 21) dX11_lineUp_112 (by decide) ?_
            refine J_sub [3, 4, 5, 6, 7, 0] rfl ?_
            exact h
          · replace h := h.2 hc
            refine J_aload_n (i := 0) (kk := 2) dX11_lineUp_91 rfl rfl ?_
            refine J_getR 17 (q := 0) (ci := 11) (kf := 3) kfX11_33 uxX11 rfl (by decide) rfl (by decide) rfl dX11_lineUp_92 ?_
            refine J_iload (i := 6) (kk := 7) dX11_lineUp_95 rfl ?_
            refine J_callV [.int a6] [] calX0_addToLine klX11_390 (b := 17) (ci := 0) (by decide) rfl rfl rfl rfl (Nat.le_of_ble_eq_true rfl) dX11_lineUp_97 (KV.to h ?_)
            clear h
            intro σ5 h
            refine J_iload (i := 5) (kk := 6) dX11_lineUp_100 rfl ?_
            refine J_aload (i := 7) (kk := 1) dX11_lineUp_102 rfl ?_
            refine J_iconst (v := 5) dX11_lineUp_104 (by decide) ?_
            refine J_ald 5 (by decide) (nc_row142 (vp_lt b1)) (sk_row142 (vp_lt b1)) (by unfold vp_in; decide) dX11_lineUp_105 ?_
            refine J_iadd dX11_lineUp_106 ?_
            refine J_nameI (fun x6 ex6 => ?_)
            replace h := h x6 ex6
            refine J_istore (i := 5) (lv' := [(5, .int x6), (8, .int (1)), (7, .ref ((a6.toNatClampNeg) + 142)), (0, .ref 0), (1, .int a1), (2, .int a2), (4, .int a4), (6, .int a6)]) dX11_lineUp_107 (by decide) rfl ?_
            obtain ⟨x7, ex7⟩ : ∃ y : Int32, y = a6 + 1 := ⟨_, rfl⟩
            replace h := h x7 ex7
            refine J_iinc (i := 6) (kk := 7) (v := x7) (lv' := [(6, .int x7), (5, .int x6), (8, .int (1)), (7, .ref ((a6.toNatClampNeg) + 142)), (0, .ref 0), (1, .int a1), (2, .int a2), (4, .int a4)]) dX11_lineUp_109 rfl (by rw [ex7]; rfl) (by decide) rfl ?_
            refine J_goto (tgt := 21) dX11_lineUp_112 (by decide) ?_
            refine J_sub [4, 5, 6, 7, 1, 0] rfl ?_
            exact h
set_option maxHeartbeats 4000000 in
set_option maxRecDepth 100000 in
theorem w_X11_lineUp_0 {Γ : GG} {l : Launch} {d : Nat} {Q : Option Value → St → Prop} {σ : St} (a1 : Int32) (a2 : Int32) (a3 : Int32) (h : Meth Γ l (d + 4) mX11_lawToday [.ref 0, .int a3] σ (KI (fun x2 σ1 => J Γ l (d + 5) mX11_lineUp Q 21 [(0, .ref 0), (1, .int a1), (2, .int a2), (4, .int x2), (5, .int (0)), (6, .int (0))] [] (wr σ1 17 3 (0 : Int32))))) : J Γ l (d + 5) mX11_lineUp Q 0 [(0, .ref 0), (1, .int a1), (2, .int a2), (3, .int a3)] [] σ := by
  refine J_aload_n (i := 0) (kk := 0) dX11_lineUp_0 rfl rfl ?_
  refine J_iload_n (i := 3) (kk := 3) dX11_lineUp_1 rfl rfl ?_
  refine J_callV [.int a3] [] calX11_lawToday klX11_381 (b := 0) (ci := 11) (by decide) rfl rfl rfl rfl (Nat.le_of_ble_eq_true rfl) dX11_lineUp_2 (KI.to h ?_)
  clear h
  intro x2 σ1 h
  refine J_istore (i := 4) (lv' := [(4, .int x2), (0, .ref 0), (1, .int a1), (2, .int a2), (3, .int a3)]) dX11_lineUp_5 (by decide) rfl ?_
  refine J_iconst (v := 0) dX11_lineUp_7 (by decide) ?_
  refine J_istore (i := 5) (lv' := [(5, .int (0)), (4, .int x2), (0, .ref 0), (1, .int a1), (2, .int a2), (3, .int a3)]) dX11_lineUp_8 (by decide) rfl ?_
  refine J_aload_n (i := 0) (kk := 2) dX11_lineUp_10 rfl rfl ?_
  refine J_getR 17 (q := 0) (ci := 11) (kf := 3) kfX11_33 uxX11 rfl (by decide) rfl (by decide) rfl dX11_lineUp_11 ?_
  refine J_iconst (v := 0) dX11_lineUp_14 (by decide) ?_
  refine J_putf (q := 17) (ci := 0) (kf := 3) (ty := .int) kfX11_384 uxX0 tyX0_ok nmX0 rfl (by decide) rfl (by decide) rfl rfl rfl rfl rfl dX11_lineUp_15 ?_
  refine J_iconst (v := 0) dX11_lineUp_18 (by decide) ?_
  refine J_istore (i := 6) (lv' := [(6, .int (0)), (5, .int (0)), (4, .int x2), (0, .ref 0), (1, .int a1), (2, .int a2), (3, .int a3)]) dX11_lineUp_19 (by decide) rfl ?_
  refine J_sub [3, 4, 5, 2, 1, 0] rfl ?_
  exact h
theorem M_X11_lineUp {Γ : GG} {l : Launch} {d : Nat} {Q : Option Value → St → Prop} {σ : St} (a1 : Int32) (a2 : Int32) (a3 : Int32) (k : J Γ l (d + 5) mX11_lineUp Q 0 [(0, .ref 0), (1, .int a1), (2, .int a2), (3, .int a3)] [] σ) : Meth Γ l (d + 5) mX11_lineUp [.ref 0, .int a1, .int a2, .int a3] σ Q := Meth_of_J (by decide +kernel) (fun _ => Nat.le_of_ble_eq_true rfl) (fun _ => rfl) k
set_option maxHeartbeats 4000000 in
set_option maxRecDepth 100000 in
theorem w_X11_beginDay_15 {Γ : GG} {l : Launch} {d : Nat} {Q : Option Value → St → Prop} {σ : St} (a1 : Int32) (a2 : Int32) (h : (rd σ 17 1 ≤ a2 → Q none σ) ∧ (¬ rd σ 17 1 ≤ a2 → vp_in a2 200 ∧ ∀ x2 : Int32, x2 = rd σ ((a2.toNatClampNeg) + 142) 5 → (x2 ≤ (0 : Int32) → ∀ x3 : Int32, x3 = a2 + 1 → J Γ l (d + 5) mX11_beginDay Q 15 [(0, .ref 0), (1, .int a1), (2, .int x3)] [] σ) ∧ (¬ x2 ≤ (0 : Int32) → Meth Γ l (d + 4) mX11_lets [.ref 0, .int a1, .int a2] σ (KI (fun x5 σ4 => (x5 = (0 : Int32) → Meth Γ l (d + 4) mX11_toss [.ref 0, .int a2, .int x2] σ4 (KV (fun σ7 => ∀ x8 : Int32, x8 = a2 + 1 → J Γ l (d + 5) mX11_beginDay Q 15 [(0, .ref 0), (1, .int a1), (2, .int x8)] [] σ7))) ∧ (¬ x5 = (0 : Int32) → ∀ x6 : Int32, x6 = a2 + 1 → J Γ l (d + 5) mX11_beginDay Q 15 [(0, .ref 0), (1, .int a1), (2, .int x6)] [] σ4)))))) : J Γ l (d + 5) mX11_beginDay Q 15 [(0, .ref 0), (1, .int a1), (2, .int a2)] [] σ := by
  refine J_iload_n (i := 2) (kk := 2) dX11_beginDay_15 rfl rfl ?_
  refine J_aload_n (i := 0) (kk := 0) dX11_beginDay_16 rfl rfl ?_
  refine J_getR 17 (q := 0) (ci := 11) (kf := 3) kfX11_33 uxX11 rfl (by decide) rfl (by decide) rfl dX11_beginDay_17 ?_
  refine J_getI (q := 17) (ci := 0) (kf := 1) kfX11_346 uxX0 rfl (by decide) rfl (by decide) rfl dX11_beginDay_20 ?_
  refine J_icmp_ge 63 dX11_beginDay_23 (by decide) (fun hc => ?_) (fun hc => ?_)
  · replace h := h.1 hc
    exact J_vret rfl dX11_beginDay_63 h
  · replace h := h.2 hc
    refine J_aload_n (i := 0) (kk := 0) dX11_beginDay_26 rfl rfl ?_
    refine J_getR 17 (q := 0) (ci := 11) (kf := 3) kfX11_33 uxX11 rfl (by decide) rfl (by decide) rfl dX11_beginDay_27 ?_
    refine J_getR 18 (q := 17) (ci := 0) (kf := 0) kfX11_159 uxX0 rfl (by decide) rfl (by decide) rfl dX11_beginDay_30 ?_
    refine J_iload_n (i := 2) (kk := 2) dX11_beginDay_33 rfl rfl ?_
    have b1 := h.1
    replace h := h.2
    refine J_aald2 (a2.toNatClampNeg) rfl (by decide) rfl b1 dX11_beginDay_34 ?_
    refine J_iconst (v := 5) dX11_beginDay_35 (by decide) ?_
    refine J_ald 5 (by decide) (nc_row142 (vp_lt b1)) (sk_row142 (vp_lt b1)) (by unfold vp_in; decide) dX11_beginDay_36 ?_
    refine J_nameI (fun x2 ex2 => ?_)
    replace h := h x2 ex2
    refine J_istore_n (i := 3) (lv' := [(3, .int x2), (0, .ref 0), (1, .int a1), (2, .int a2)]) dX11_beginDay_37 rfl (by decide) rfl ?_
    refine J_iload_n (i := 3) (kk := 0) dX11_beginDay_38 rfl rfl ?_
    refine J_if_le 57 dX11_beginDay_39 (by decide) (fun hc => ?_) (fun hc => ?_)
    · replace h := h.1 hc
      obtain ⟨x3, ex3⟩ : ∃ y : Int32, y = a2 + 1 := ⟨_, rfl⟩
      replace h := h x3 ex3
      refine J_iinc (i := 2) (kk := 3) (v := x3) (lv' := [(2, .int x3), (3, .int x2), (0, .ref 0), (1, .int a1)]) dX11_beginDay_57 rfl (by rw [ex3]; rfl) (by decide) rfl ?_
      refine J_goto (tgt := 15) dX11_beginDay_60 (by decide) ?_
      refine J_sub [2, 3, 0] rfl ?_
      exact h
    · replace h := h.2 hc
      refine J_aload_n (i := 0) (kk := 1) dX11_beginDay_42 rfl rfl ?_
      refine J_iload_n (i := 1) (kk := 2) dX11_beginDay_43 rfl rfl ?_
      refine J_iload_n (i := 2) (kk := 3) dX11_beginDay_44 rfl rfl ?_
      refine J_callV [.int a1, .int a2] [] calX11_lets klX11_387 (b := 0) (ci := 11) (by decide) rfl rfl rfl rfl (Nat.le_of_ble_eq_true rfl) dX11_beginDay_45 (KI.to h ?_)
      clear h
      intro x5 σ4 h
      refine J_if_ne 57 dX11_beginDay_48 (by decide) (fun hc => ?_) (fun hc => ?_)
      · replace h := h.2 hc
        obtain ⟨x6, ex6⟩ : ∃ y : Int32, y = a2 + 1 := ⟨_, rfl⟩
        replace h := h x6 ex6
        refine J_iinc (i := 2) (kk := 3) (v := x6) (lv' := [(2, .int x6), (3, .int x2), (0, .ref 0), (1, .int a1)]) dX11_beginDay_57 rfl (by rw [ex6]; rfl) (by decide) rfl ?_
        refine J_goto (tgt := 15) dX11_beginDay_60 (by decide) ?_
        refine J_sub [2, 3, 0] rfl ?_
        exact h
      · replace h := h.1 hc
        refine J_aload_n (i := 0) (kk := 1) dX11_beginDay_51 rfl rfl ?_
        refine J_iload_n (i := 2) (kk := 3) dX11_beginDay_52 rfl rfl ?_
        refine J_iload_n (i := 3) (kk := 0) dX11_beginDay_53 rfl rfl ?_
        refine J_callV [.int a2, .int x2] [] calX11_toss klX11_331 (b := 0) (ci := 11) (by decide) rfl rfl rfl rfl (Nat.le_of_ble_eq_true rfl) dX11_beginDay_54 (KV.to h ?_)
        clear h
        intro σ7 h
        obtain ⟨x8, ex8⟩ : ∃ y : Int32, y = a2 + 1 := ⟨_, rfl⟩
        replace h := h x8 ex8
        refine J_iinc (i := 2) (kk := 3) (v := x8) (lv' := [(2, .int x8), (3, .int x2), (0, .ref 0), (1, .int a1)]) dX11_beginDay_57 rfl (by rw [ex8]; rfl) (by decide) rfl ?_
        refine J_goto (tgt := 15) dX11_beginDay_60 (by decide) ?_
        refine J_sub [2, 3, 0] rfl ?_
        exact h
set_option maxHeartbeats 4000000 in
set_option maxRecDepth 100000 in
theorem w_X11_beginDay_0 {Γ : GG} {l : Launch} {d : Nat} {Q : Option Value → St → Prop} {σ : St}  (h : Meth Γ l (d + 4) mX9_clearDay [.ref 4] σ (KV (fun σ1 => Meth Γ l (d + 4) mX11_lawToday [.ref 0, .int (0)] σ1 (KI (fun x3 σ2 => J Γ l (d + 5) mX11_beginDay Q 15 [(0, .ref 0), (1, .int x3), (2, .int (0))] [] σ2))))) : J Γ l (d + 5) mX11_beginDay Q 0 [(0, .ref 0)] [] σ := by
  refine J_aload_n (i := 0) (kk := 0) dX11_beginDay_0 rfl rfl ?_
  refine J_getR 4 (q := 0) (ci := 11) (kf := 1) kfX11_19 uxX11 rfl (by decide) rfl (by decide) rfl dX11_beginDay_1 ?_
  refine J_callV [] [] calX9_clearDay klX11_393 (b := 4) (ci := 9) (by decide) rfl rfl rfl rfl (Nat.le_of_ble_eq_true rfl) dX11_beginDay_4 (KV.to h ?_)
  clear h
  intro σ1 h
  refine J_aload_n (i := 0) (kk := 0) dX11_beginDay_7 rfl rfl ?_
  refine J_iconst (v := 0) dX11_beginDay_8 (by decide) ?_
  refine J_callV [.int (0)] [] calX11_lawToday klX11_381 (b := 0) (ci := 11) (by decide) rfl rfl rfl rfl (Nat.le_of_ble_eq_true rfl) dX11_beginDay_9 (KI.to h ?_)
  clear h
  intro x3 σ2 h
  refine J_istore_n (i := 1) (lv' := [(1, .int x3), (0, .ref 0)]) dX11_beginDay_12 rfl (by decide) rfl ?_
  refine J_iconst (v := 0) dX11_beginDay_13 (by decide) ?_
  refine J_istore_n (i := 2) (lv' := [(2, .int (0)), (1, .int x3), (0, .ref 0)]) dX11_beginDay_14 rfl (by decide) rfl ?_
  refine J_sub [2, 1, 0] rfl ?_
  exact h
theorem M_X11_beginDay {Γ : GG} {l : Launch} {d : Nat} {Q : Option Value → St → Prop} {σ : St}  (k : J Γ l (d + 5) mX11_beginDay Q 0 [(0, .ref 0)] [] σ) : Meth Γ l (d + 5) mX11_beginDay [.ref 0] σ Q := Meth_of_J (by decide +kernel) (fun _ => Nat.le_of_ble_eq_true rfl) (fun _ => rfl) k
set_option maxHeartbeats 4000000 in
set_option maxRecDepth 100000 in
theorem w_X11_toss_0 {Γ : GG} {l : Launch} {d : Nat} {Q : Option Value → St → Prop} {σ : St} (a1 : Int32) (a2 : Int32) (h : Meth Γ l d mX0_take [.ref 17, .int a1, .int a2, .int (9)] σ (KV (fun σ1 => vp_in ((rd σ1 1 2) / (24 : Int32)) 1500 ∧ vp_in a1 200 ∧ vp_in (rd σ1 ((a1.toNatClampNeg) + 142) 1) 10 ∧ Q none (wr σ1 3 (((rd σ1 1 2) / (24 : Int32)).toNatClampNeg) ((rd σ1 3 (((rd σ1 1 2) / (24 : Int32)).toNatClampNeg)) + (a2 * (rd σ1 14 ((rd σ1 ((a1.toNatClampNeg) + 142) 1).toNatClampNeg)))))))) : J Γ l (d + 1) mX11_toss Q 0 [(0, .ref 0), (1, .int a1), (2, .int a2)] [] σ := by
  refine J_aload_n (i := 0) (kk := 0) dX11_toss_0 rfl rfl ?_
  refine J_getR 17 (q := 0) (ci := 11) (kf := 3) kfX11_33 uxX11 rfl (by decide) rfl (by decide) rfl dX11_toss_1 ?_
  refine J_iload_n (i := 1) (kk := 1) dX11_toss_4 rfl rfl ?_
  refine J_iload_n (i := 2) (kk := 2) dX11_toss_5 rfl rfl ?_
  refine J_bipush (v := 9) dX11_toss_6 (by decide) ?_
  refine J_callV [.int a1, .int a2, .int (9)] [] calX0_take klX11_396 (b := 17) (ci := 0) (by decide) rfl rfl rfl rfl (Nat.le_of_ble_eq_true rfl) dX11_toss_8 (KV.to h ?_)
  clear h
  intro σ1 h
  refine J_aload_n (i := 0) (kk := 0) dX11_toss_11 rfl rfl ?_
  refine J_getR 1 (q := 0) (ci := 11) (kf := 0) kfX11_10 uxX11 rfl (by decide) rfl (by decide) rfl dX11_toss_12 ?_
  refine J_getR 3 (q := 1) (ci := 3) (kf := 1) kfX11_335 uxX3 rfl (by decide) rfl (by decide) rfl dX11_toss_15 ?_
  refine J_aload_n (i := 0) (kk := 0) dX11_toss_18 rfl rfl ?_
  refine J_getR 1 (q := 0) (ci := 11) (kf := 0) kfX11_10 uxX11 rfl (by decide) rfl (by decide) rfl dX11_toss_19 ?_
  refine J_callV [] [.ref 3] calX3_today klX11_152 (b := 1) (ci := 3) (by decide) rfl rfl rfl rfl (Nat.le_of_ble_eq_true rfl) dX11_toss_22 (KI.to (S_X3_today) ?_)
  rintro x9 s9 ⟨rfl, rfl⟩
  refine J_dup2_11 dX11_toss_25 rfl rfl ?_
  have b2 := h.1
  replace h := h.2
  refine J_ald (((rd σ1 1 2) / (24 : Int32)).toNatClampNeg) rfl (by decide) rfl b2 dX11_toss_26 ?_
  refine J_iload_n (i := 2) (kk := 2) dX11_toss_27 rfl rfl ?_
  refine J_aload_n (i := 0) (kk := 0) dX11_toss_28 rfl rfl ?_
  refine J_getR 11 (q := 0) (ci := 11) (kf := 2) kfX11_26 uxX11 rfl (by decide) rfl (by decide) rfl dX11_toss_29 ?_
  refine J_getR 14 (q := 11) (ci := 5) (kf := 2) kfX11_398 uxX5 rfl (by decide) rfl (by decide) rfl dX11_toss_32 ?_
  refine J_aload_n (i := 0) (kk := 0) dX11_toss_35 rfl rfl ?_
  refine J_getR 17 (q := 0) (ci := 11) (kf := 3) kfX11_33 uxX11 rfl (by decide) rfl (by decide) rfl dX11_toss_36 ?_
  refine J_getR 18 (q := 17) (ci := 0) (kf := 0) kfX11_159 uxX0 rfl (by decide) rfl (by decide) rfl dX11_toss_39 ?_
  refine J_iload_n (i := 1) (kk := 1) dX11_toss_42 rfl rfl ?_
  have b3 := h.1
  replace h := h.2
  refine J_aald2 (a1.toNatClampNeg) rfl (by decide) rfl b3 dX11_toss_43 ?_
  refine J_iconst (v := 1) dX11_toss_44 (by decide) ?_
  refine J_ald 1 (by decide) (nc_row142 (vp_lt b3)) (sk_row142 (vp_lt b3)) (by unfold vp_in; decide) dX11_toss_45 ?_
  have b4 := h.1
  replace h := h.2
  refine J_ald ((rd σ1 ((a1.toNatClampNeg) + 142) 1).toNatClampNeg) rfl (by decide) rfl b4 dX11_toss_46 ?_
  refine J_imul dX11_toss_47 ?_
  refine J_iadd dX11_toss_48 ?_
  refine J_ast (((rd σ1 1 2) / (24 : Int32)).toNatClampNeg) rfl (by decide) rfl b2 dX11_toss_49 ?_
  exact J_vret rfl dX11_toss_50 h
theorem M_X11_toss {Γ : GG} {l : Launch} {d : Nat} {Q : Option Value → St → Prop} {σ : St} (a1 : Int32) (a2 : Int32) (k : J Γ l (d + 1) mX11_toss Q 0 [(0, .ref 0), (1, .int a1), (2, .int a2)] [] σ) : Meth Γ l (d + 1) mX11_toss [.ref 0, .int a1, .int a2] σ Q := Meth_of_J (by decide +kernel) (fun _ => Nat.le_of_ble_eq_true rfl) (fun _ => rfl) k
set_option maxHeartbeats 4000000 in
set_option maxRecDepth 100000 in
theorem w_X11_sumDrawn_9 {Γ : GG} {l : Launch} {d : Nat} {Q : Option Value → St → Prop} {σ : St} (a1 : Int32) (a2 : Int32) (a3 : Int32) (a4 : Int32) (a5 : Int32) (a6 : Int32) (h : (rd σ 5 1 ≤ a6 → Q (some (.int a4)) σ) ∧ (¬ rd σ 5 1 ≤ a6 → ((10 : Int32) ≤ a5 → Q (some (.int a4)) σ) ∧ (¬ (10 : Int32) ≤ a5 → vp_in a6 12 ∧ (rd σ 8 (a6.toNatClampNeg) = ((-1) : Int32) → ∀ x2 : Int32, x2 = a6 + 1 → J Γ l (d + 2) mX11_sumDrawn Q 9 [(0, .ref 0), (1, .int a1), (2, .int a2), (3, .int a3), (4, .int a4), (5, .int a5), (6, .int x2)] [] σ) ∧ (¬ rd σ 8 (a6.toNatClampNeg) = ((-1) : Int32) → Meth Γ l (d + 1) mX8_askedEarly [.ref 34, .int a6, .int a1, .int a2, .int a3] σ (KI (fun x4 σ3 => vp_in a5 10 ∧ ∀ x6 : Int32, x6 = a4 ||| ((rd σ3 8 (a6.toNatClampNeg)) <<< (a5 &&& 31)) → ∀ x7 : Int32, x7 = a5 + 1 → ∀ x8 : Int32, x8 = a6 + 1 → J Γ l (d + 2) mX11_sumDrawn Q 9 [(0, .ref 0), (1, .int a1), (2, .int a2), (3, .int a3), (4, .int x6), (5, .int x7), (6, .int x8)] [] (wr σ3 58 (a5.toNatClampNeg) x4))))))) : J Γ l (d + 2) mX11_sumDrawn Q 9 [(0, .ref 0), (1, .int a1), (2, .int a2), (3, .int a3), (4, .int a4), (5, .int a5), (6, .int a6)] [] σ := by
  refine J_iload (i := 6) (kk := 6) dX11_sumDrawn_9 rfl ?_
  refine J_aload_n (i := 0) (kk := 0) dX11_sumDrawn_11 rfl rfl ?_
  refine J_getR 4 (q := 0) (ci := 11) (kf := 1) kfX11_19 uxX11 rfl (by decide) rfl (by decide) rfl dX11_sumDrawn_12 ?_
  refine J_getR 5 (q := 4) (ci := 9) (kf := 0) kfX11_103 uxX9 rfl (by decide) rfl (by decide) rfl dX11_sumDrawn_15 ?_
  refine J_getI (q := 5) (ci := 7) (kf := 1) kfX11_344 uxX7 rfl (by decide) rfl (by decide) rfl dX11_sumDrawn_18 ?_
  refine J_icmp_ge 91 dX11_sumDrawn_21 (by decide) (fun hc => ?_) (fun hc => ?_)
  · replace h := h.1 hc
    refine J_iload (i := 4) (kk := 4) dX11_sumDrawn_91 rfl ?_
    exact J_iret rfl dX11_sumDrawn_93 h
  · replace h := h.2 hc
    refine J_iload (i := 5) (kk := 5) dX11_sumDrawn_24 rfl ?_
    refine J_bipush (v := 10) dX11_sumDrawn_26 (by decide) ?_
    refine J_icmp_ge 91 dX11_sumDrawn_28 (by decide) (fun hc => ?_) (fun hc => ?_)
    · replace h := h.1 hc
      refine J_iload (i := 4) (kk := 4) dX11_sumDrawn_91 rfl ?_
      exact J_iret rfl dX11_sumDrawn_93 h
    · replace h := h.2 hc
      refine J_aload_n (i := 0) (kk := 0) dX11_sumDrawn_31 rfl rfl ?_
      refine J_getR 4 (q := 0) (ci := 11) (kf := 1) kfX11_19 uxX11 rfl (by decide) rfl (by decide) rfl dX11_sumDrawn_32 ?_
      refine J_getR 8 (q := 4) (ci := 9) (kf := 2) kfX11_294 uxX9 rfl (by decide) rfl (by decide) rfl dX11_sumDrawn_35 ?_
      refine J_iload (i := 6) (kk := 6) dX11_sumDrawn_38 rfl ?_
      have b1 := h.1
      replace h := h.2
      refine J_ald (a6.toNatClampNeg) rfl (by decide) rfl b1 dX11_sumDrawn_40 ?_
      refine J_iconst (v := (-1)) dX11_sumDrawn_41 (by decide) ?_
      refine J_icmp_eq 85 dX11_sumDrawn_42 (by decide) (fun hc => ?_) (fun hc => ?_)
      · replace h := h.1 hc
        obtain ⟨x2, ex2⟩ : ∃ y : Int32, y = a6 + 1 := ⟨_, rfl⟩
        replace h := h x2 ex2
        refine J_iinc (i := 6) (kk := 6) (v := x2) (lv' := [(6, .int x2), (0, .ref 0), (1, .int a1), (2, .int a2), (3, .int a3), (4, .int a4), (5, .int a5)]) dX11_sumDrawn_85 rfl (by rw [ex2]; rfl) (by decide) rfl ?_
        refine J_goto (tgt := 9) dX11_sumDrawn_88 (by decide) ?_
        refine J_sub [1, 2, 3, 4, 5, 6, 0] rfl ?_
        exact h
      · replace h := h.2 hc
        refine J_aload_n (i := 0) (kk := 0) dX11_sumDrawn_45 rfl rfl ?_
        refine J_getR 58 (q := 0) (ci := 11) (kf := 12) kfX11_92 uxX11 rfl (by decide) rfl (by decide) rfl dX11_sumDrawn_46 ?_
        refine J_iload (i := 5) (kk := 5) dX11_sumDrawn_49 rfl ?_
        refine J_aload_n (i := 0) (kk := 0) dX11_sumDrawn_51 rfl rfl ?_
        refine J_getR 34 (q := 0) (ci := 11) (kf := 7) kfX11_61 uxX11 rfl (by decide) rfl (by decide) rfl dX11_sumDrawn_52 ?_
        refine J_iload (i := 6) (kk := 6) dX11_sumDrawn_55 rfl ?_
        refine J_iload_n (i := 1) (kk := 1) dX11_sumDrawn_57 rfl rfl ?_
        refine J_iload_n (i := 2) (kk := 2) dX11_sumDrawn_58 rfl rfl ?_
        refine J_iload_n (i := 3) (kk := 3) dX11_sumDrawn_59 rfl rfl ?_
        refine J_callV [.int a6, .int a1, .int a2, .int a3] [.int a5, .ref 58] calX8_askedEarly klX11_300 (b := 34) (ci := 8) (by decide) rfl rfl rfl rfl (Nat.le_of_ble_eq_true rfl) dX11_sumDrawn_60 (KI.to h ?_)
        clear h
        intro x4 σ3 h
        have b5 := h.1
        replace h := h.2
        refine J_ast (a5.toNatClampNeg) rfl (by decide) rfl b5 dX11_sumDrawn_63 ?_
        refine J_iload (i := 4) (kk := 4) dX11_sumDrawn_64 rfl ?_
        refine J_aload_n (i := 0) (kk := 0) dX11_sumDrawn_66 rfl rfl ?_
        refine J_getR 4 (q := 0) (ci := 11) (kf := 1) kfX11_19 uxX11 rfl (by decide) rfl (by decide) rfl dX11_sumDrawn_67 ?_
        refine J_getR 8 (q := 4) (ci := 9) (kf := 2) kfX11_294 uxX9 rfl (by decide) rfl (by decide) rfl dX11_sumDrawn_70 ?_
        refine J_iload (i := 6) (kk := 6) dX11_sumDrawn_73 rfl ?_
        refine J_ald (a6.toNatClampNeg) rfl (by decide) rfl b1 dX11_sumDrawn_75 ?_
        refine J_eqI (y := rd σ3 8 (a6.toNatClampNeg)) rfl ?_
        refine J_iload (i := 5) (kk := 5) dX11_sumDrawn_76 rfl ?_
        refine J_ishl dX11_sumDrawn_78 ?_
        refine J_ior dX11_sumDrawn_79 ?_
        refine J_nameI (fun x6 ex6 => ?_)
        replace h := h x6 ex6
        refine J_istore (i := 4) (lv' := [(4, .int x6), (0, .ref 0), (1, .int a1), (2, .int a2), (3, .int a3), (5, .int a5), (6, .int a6)]) dX11_sumDrawn_80 (by decide) rfl ?_
        obtain ⟨x7, ex7⟩ : ∃ y : Int32, y = a5 + 1 := ⟨_, rfl⟩
        replace h := h x7 ex7
        refine J_iinc (i := 5) (kk := 5) (v := x7) (lv' := [(5, .int x7), (4, .int x6), (0, .ref 0), (1, .int a1), (2, .int a2), (3, .int a3), (6, .int a6)]) dX11_sumDrawn_82 rfl (by rw [ex7]; rfl) (by decide) rfl ?_
        obtain ⟨x8, ex8⟩ : ∃ y : Int32, y = a6 + 1 := ⟨_, rfl⟩
        replace h := h x8 ex8
        refine J_iinc (i := 6) (kk := 6) (v := x8) (lv' := [(6, .int x8), (5, .int x7), (4, .int x6), (0, .ref 0), (1, .int a1), (2, .int a2), (3, .int a3)]) dX11_sumDrawn_85 rfl (by rw [ex8]; rfl) (by decide) rfl ?_
        refine J_goto (tgt := 9) dX11_sumDrawn_88 (by decide) ?_
        refine J_sub [3, 4, 5, 6, 2, 1, 0] rfl ?_
        exact h
set_option maxHeartbeats 4000000 in
set_option maxRecDepth 100000 in
theorem w_X11_sumDrawn_0 {Γ : GG} {l : Launch} {d : Nat} {Q : Option Value → St → Prop} {σ : St} (a1 : Int32) (a2 : Int32) (a3 : Int32) (h : J Γ l (d + 2) mX11_sumDrawn Q 9 [(0, .ref 0), (1, .int a1), (2, .int a2), (3, .int a3), (4, .int (0)), (5, .int (0)), (6, .int (0))] [] σ) : J Γ l (d + 2) mX11_sumDrawn Q 0 [(0, .ref 0), (1, .int a1), (2, .int a2), (3, .int a3)] [] σ := by
  refine J_iconst (v := 0) dX11_sumDrawn_0 (by decide) ?_
  refine J_istore (i := 4) (lv' := [(4, .int (0)), (0, .ref 0), (1, .int a1), (2, .int a2), (3, .int a3)]) dX11_sumDrawn_1 (by decide) rfl ?_
  refine J_iconst (v := 0) dX11_sumDrawn_3 (by decide) ?_
  refine J_istore (i := 5) (lv' := [(5, .int (0)), (4, .int (0)), (0, .ref 0), (1, .int a1), (2, .int a2), (3, .int a3)]) dX11_sumDrawn_4 (by decide) rfl ?_
  refine J_iconst (v := 0) dX11_sumDrawn_6 (by decide) ?_
  refine J_istore (i := 6) (lv' := [(6, .int (0)), (5, .int (0)), (4, .int (0)), (0, .ref 0), (1, .int a1), (2, .int a2), (3, .int a3)]) dX11_sumDrawn_7 (by decide) rfl ?_
  refine J_sub [3, 4, 5, 6, 2, 1, 0] rfl ?_
  exact h
theorem M_X11_sumDrawn {Γ : GG} {l : Launch} {d : Nat} {Q : Option Value → St → Prop} {σ : St} (a1 : Int32) (a2 : Int32) (a3 : Int32) (k : J Γ l (d + 2) mX11_sumDrawn Q 0 [(0, .ref 0), (1, .int a1), (2, .int a2), (3, .int a3)] [] σ) : Meth Γ l (d + 2) mX11_sumDrawn [.ref 0, .int a1, .int a2, .int a3] σ Q := Meth_of_J (by decide +kernel) (fun _ => Nat.le_of_ble_eq_true rfl) (fun _ => rfl) k
set_option maxHeartbeats 4000000 in
set_option maxRecDepth 100000 in
theorem w_X11_earlyOf_4 {Γ : GG} {l : Launch} {d : Nat} {Q : Option Value → St → Prop} {σ : St} (a1 : Int32) (a2 : Int32) (a3 : Int32) (h : ((10 : Int32) ≤ a3 → Q (some (.int a2)) σ) ∧ (¬ (10 : Int32) ≤ a3 → ((a1 >>> (a3 &&& 31)) &&& (1 : Int32) = (1 : Int32) → vp_in a3 10 ∧ ∀ x3 : Int32, x3 = a2 + (rd σ 58 (a3.toNatClampNeg)) → ∀ x4 : Int32, x4 = a3 + 1 → J Γ l d mX11_earlyOf Q 4 [(0, .ref 0), (1, .int a1), (2, .int x3), (3, .int x4)] [] σ) ∧ (¬ (a1 >>> (a3 &&& 31)) &&& (1 : Int32) = (1 : Int32) → ∀ x1 : Int32, x1 = a3 + 1 → J Γ l d mX11_earlyOf Q 4 [(0, .ref 0), (1, .int a1), (2, .int a2), (3, .int x1)] [] σ))) : J Γ l d mX11_earlyOf Q 4 [(0, .ref 0), (1, .int a1), (2, .int a2), (3, .int a3)] [] σ := by
  refine J_iload_n (i := 3) (kk := 3) dX11_earlyOf_4 rfl rfl ?_
  refine J_bipush (v := 10) dX11_earlyOf_5 (by decide) ?_
  refine J_icmp_ge 34 dX11_earlyOf_7 (by decide) (fun hc => ?_) (fun hc => ?_)
  · replace h := h.1 hc
    refine J_iload_n (i := 2) (kk := 2) dX11_earlyOf_34 rfl rfl ?_
    exact J_iret rfl dX11_earlyOf_35 h
  · replace h := h.2 hc
    refine J_iload_n (i := 1) (kk := 1) dX11_earlyOf_10 rfl rfl ?_
    refine J_iload_n (i := 3) (kk := 3) dX11_earlyOf_11 rfl rfl ?_
    refine J_ishr dX11_earlyOf_12 ?_
    refine J_iconst (v := 1) dX11_earlyOf_13 (by decide) ?_
    refine J_iand dX11_earlyOf_14 ?_
    refine J_iconst (v := 1) dX11_earlyOf_15 (by decide) ?_
    refine J_icmp_ne 28 dX11_earlyOf_16 (by decide) (fun hc => ?_) (fun hc => ?_)
    · replace h := h.2 hc
      obtain ⟨x1, ex1⟩ : ∃ y : Int32, y = a3 + 1 := ⟨_, rfl⟩
      replace h := h x1 ex1
      refine J_iinc (i := 3) (kk := 3) (v := x1) (lv' := [(3, .int x1), (0, .ref 0), (1, .int a1), (2, .int a2)]) dX11_earlyOf_28 rfl (by rw [ex1]; rfl) (by decide) rfl ?_
      refine J_goto (tgt := 4) dX11_earlyOf_31 (by decide) ?_
      refine J_sub [1, 2, 3, 0] rfl ?_
      exact h
    · replace h := h.1 hc
      refine J_iload_n (i := 2) (kk := 2) dX11_earlyOf_19 rfl rfl ?_
      refine J_aload_n (i := 0) (kk := 0) dX11_earlyOf_20 rfl rfl ?_
      refine J_getR 58 (q := 0) (ci := 11) (kf := 12) kfX11_92 uxX11 rfl (by decide) rfl (by decide) rfl dX11_earlyOf_21 ?_
      refine J_iload_n (i := 3) (kk := 3) dX11_earlyOf_24 rfl rfl ?_
      have b2 := h.1
      replace h := h.2
      refine J_ald (a3.toNatClampNeg) rfl (by decide) rfl b2 dX11_earlyOf_25 ?_
      refine J_iadd dX11_earlyOf_26 ?_
      refine J_nameI (fun x3 ex3 => ?_)
      replace h := h x3 ex3
      refine J_istore_n (i := 2) (lv' := [(2, .int x3), (0, .ref 0), (1, .int a1), (3, .int a3)]) dX11_earlyOf_27 rfl (by decide) rfl ?_
      obtain ⟨x4, ex4⟩ : ∃ y : Int32, y = a3 + 1 := ⟨_, rfl⟩
      replace h := h x4 ex4
      refine J_iinc (i := 3) (kk := 3) (v := x4) (lv' := [(3, .int x4), (2, .int x3), (0, .ref 0), (1, .int a1)]) dX11_earlyOf_28 rfl (by rw [ex4]; rfl) (by decide) rfl ?_
      refine J_goto (tgt := 4) dX11_earlyOf_31 (by decide) ?_
      refine J_sub [2, 3, 1, 0] rfl ?_
      exact h
set_option maxHeartbeats 4000000 in
set_option maxRecDepth 100000 in
theorem w_X11_earlyOf_0 {Γ : GG} {l : Launch} {d : Nat} {Q : Option Value → St → Prop} {σ : St} (a1 : Int32) (h : J Γ l d mX11_earlyOf Q 4 [(0, .ref 0), (1, .int a1), (2, .int (0)), (3, .int (0))] [] σ) : J Γ l d mX11_earlyOf Q 0 [(0, .ref 0), (1, .int a1)] [] σ := by
  refine J_iconst (v := 0) dX11_earlyOf_0 (by decide) ?_
  refine J_istore_n (i := 2) (lv' := [(2, .int (0)), (0, .ref 0), (1, .int a1)]) dX11_earlyOf_1 rfl (by decide) rfl ?_
  refine J_iconst (v := 0) dX11_earlyOf_2 (by decide) ?_
  refine J_istore_n (i := 3) (lv' := [(3, .int (0)), (2, .int (0)), (0, .ref 0), (1, .int a1)]) dX11_earlyOf_3 rfl (by decide) rfl ?_
  refine J_sub [2, 3, 1, 0] rfl ?_
  exact h
theorem M_X11_earlyOf {Γ : GG} {l : Launch} {d : Nat} {Q : Option Value → St → Prop} {σ : St} (a1 : Int32) (k : J Γ l d mX11_earlyOf Q 0 [(0, .ref 0), (1, .int a1)] [] σ) : Meth Γ l d mX11_earlyOf [.ref 0, .int a1] σ Q := Meth_of_J (by decide +kernel) (fun _ => Nat.le_of_ble_eq_true rfl) (fun _ => rfl) k
set_option maxHeartbeats 4000000 in
set_option maxRecDepth 100000 in
theorem w_X11_gapOf_0 {Γ : GG} {l : Launch} {d : Nat} {Q : Option Value → St → Prop} {σ : St} (a1 : Int32) (a2 : Int32) (a3 : Int32) (h : ((0 : Int32) < a2 * a3 → Meth Γ l d mX11_earlyOf [.ref 0, .int a1] σ (KI (fun x2 σ1 => Meth Γ l d mX11_earlyOf [.ref 0, .int ((((1 : Int32) <<< (a2 + a3 &&& 31)) - (1 : Int32)) &&& (a1 ^^^ ((-1) : Int32)))] σ1 (KI (fun x4 σ3 => ¬ (a2 * a3).toInt64 = 0 ∧ Q (some (.int ((((100 : Int64) * ((x4.toInt64 * a2.toInt64) - (x2.toInt64 * a3.toInt64))) / ((a2 * a3).toInt64)).toInt32))) σ3))))) ∧ (¬ (0 : Int32) < a2 * a3 → Q (some (.int ((-1999999999)))) σ)) : J Γ l (d + 1) mX11_gapOf Q 0 [(0, .ref 0), (1, .int a1), (2, .int a2), (3, .int a3)] [] σ := by
  refine J_iload_n (i := 2) (kk := 2) dX11_gapOf_0 rfl rfl ?_
  refine J_iload_n (i := 3) (kk := 3) dX11_gapOf_1 rfl rfl ?_
  refine J_imul dX11_gapOf_2 ?_
  refine J_istore (i := 4) (lv' := [(4, .int (a2 * a3)), (0, .ref 0), (1, .int a1), (2, .int a2), (3, .int a3)]) dX11_gapOf_3 (by decide) rfl ?_
  refine J_iload (i := 4) (kk := 0) dX11_gapOf_5 rfl ?_
  refine J_if_gt 14 dX11_gapOf_7 (by decide) (fun hc => ?_) (fun hc => ?_)
  · replace h := h.1 hc
    refine J_aload_n (i := 0) (kk := 1) dX11_gapOf_14 rfl rfl ?_
    refine J_iload_n (i := 1) (kk := 2) dX11_gapOf_15 rfl rfl ?_
    refine J_callV [.int a1] [] calX11_earlyOf klX11_399 (b := 0) (ci := 11) (by decide) rfl rfl rfl rfl (Nat.le_of_ble_eq_true rfl) dX11_gapOf_16 (KI.to h ?_)
    clear h
    intro x2 σ1 h
    refine J_i2l dX11_gapOf_19 ?_
    refine J_lstore (i := 5) (lv' := [(5, .long x2.toInt64), (4, .int (a2 * a3)), (0, .ref 0), (1, .int a1), (2, .int a2), (3, .int a3)]) dX11_gapOf_20 (by decide) rfl ?_
    refine J_aload_n (i := 0) (kk := 2) dX11_gapOf_22 rfl rfl ?_
    refine J_iconst (v := 1) dX11_gapOf_23 (by decide) ?_
    refine J_iload_n (i := 2) (kk := 4) dX11_gapOf_24 rfl rfl ?_
    refine J_iload_n (i := 3) (kk := 5) dX11_gapOf_25 rfl rfl ?_
    refine J_iadd dX11_gapOf_26 ?_
    refine J_ishl dX11_gapOf_27 ?_
    refine J_iconst (v := 1) dX11_gapOf_28 (by decide) ?_
    refine J_isub dX11_gapOf_29 ?_
    refine J_iload_n (i := 1) (kk := 3) dX11_gapOf_30 rfl rfl ?_
    refine J_iconst (v := (-1)) dX11_gapOf_31 (by decide) ?_
    refine J_ixor dX11_gapOf_32 ?_
    refine J_iand dX11_gapOf_33 ?_
    refine J_callV [.int ((((1 : Int32) <<< (a2 + a3 &&& 31)) - (1 : Int32)) &&& (a1 ^^^ ((-1) : Int32)))] [] calX11_earlyOf klX11_399 (b := 0) (ci := 11) (by decide) rfl rfl rfl rfl (Nat.le_of_ble_eq_true rfl) dX11_gapOf_34 (KI.to h ?_)
    clear h
    intro x4 σ3 h
    refine J_i2l dX11_gapOf_37 ?_
    refine J_lstore (i := 7) (lv' := [(7, .long x4.toInt64), (5, .long x2.toInt64), (4, .int (a2 * a3)), (0, .ref 0), (1, .int a1), (2, .int a2), (3, .int a3)]) dX11_gapOf_38 (by decide) rfl ?_
    refine J_ldc2 (v := 100) kqX11_402 dX11_gapOf_40 ?_
    refine J_lload (i := 7) (kk := 0) dX11_gapOf_43 rfl ?_
    refine J_iload_n (i := 2) (kk := 5) dX11_gapOf_45 rfl rfl ?_
    refine J_i2l dX11_gapOf_46 ?_
    refine J_lmul dX11_gapOf_47 ?_
    refine J_lload (i := 5) (kk := 1) dX11_gapOf_48 rfl ?_
    refine J_iload_n (i := 3) (kk := 6) dX11_gapOf_50 rfl rfl ?_
    refine J_i2l dX11_gapOf_51 ?_
    refine J_lmul dX11_gapOf_52 ?_
    refine J_lsub dX11_gapOf_53 ?_
    refine J_lmul dX11_gapOf_54 ?_
    refine J_iload (i := 4) (kk := 2) dX11_gapOf_55 rfl ?_
    refine J_i2l dX11_gapOf_57 ?_
    have hz := h.1
    replace h := h.2
    refine J_ldiv dX11_gapOf_58 hz ?_
    refine J_l2i dX11_gapOf_59 ?_
    exact J_iret rfl dX11_gapOf_60 h
  · replace h := h.2 hc
    refine J_ldcw (v := (-1999999999)) kcX11_306 dX11_gapOf_10 ?_
    exact J_iret rfl dX11_gapOf_13 h
theorem M_X11_gapOf {Γ : GG} {l : Launch} {d : Nat} {Q : Option Value → St → Prop} {σ : St} (a1 : Int32) (a2 : Int32) (a3 : Int32) (k : J Γ l (d + 1) mX11_gapOf Q 0 [(0, .ref 0), (1, .int a1), (2, .int a2), (3, .int a3)] [] σ) : Meth Γ l (d + 1) mX11_gapOf [.ref 0, .int a1, .int a2, .int a3] σ Q := Meth_of_J (by decide +kernel) (fun _ => Nat.le_of_ble_eq_true rfl) (fun _ => rfl) k
set_option maxHeartbeats 4000000 in
set_option maxRecDepth 100000 in
theorem w_X11_doubtOf_16 {Γ : GG} {l : Launch} {d : Nat} {Q : Option Value → St → Prop} {σ : St} (a2 : Int32) (a3 : Int32) (a4 : Int32) (a5 : Int32) (a6 : Int32) (a7 : Int32) (h : ((1 : Int32) <<< (a3 &&& 31) ≤ a7 → (a5 = (0 : Int32) → Q (some (.int ((-1999999999)))) σ) ∧ (¬ a5 = (0 : Int32) → ¬ a5 = 0 ∧ Q (some (.int (((((10000 : Int32) * a6) + a5) - (1 : Int32)) / a5))) σ)) ∧ (¬ (1 : Int32) <<< (a3 &&& 31) ≤ a7 → Meth Γ l d mJ6_bitCount_0f7a4 [.int a7] σ (KI (fun x2 σ1 => (x2 = a2 → ∀ x4 : Int32, x4 = a5 + 1 → Meth Γ l d mX11_earlyOf [.ref 0, .int a7] σ1 (KI (fun x6 σ5 => (a4 < x6 → ∀ x7 : Int32, x7 = a7 + 1 → J Γ l (d + 1) mX11_doubtOf Q 16 [(0, .ref 0), (2, .int a2), (3, .int a3), (4, .int a4), (5, .int x4), (6, .int a6), (7, .int x7)] [] σ5) ∧ (¬ a4 < x6 → ∀ x8 : Int32, x8 = a6 + 1 → ∀ x9 : Int32, x9 = a7 + 1 → J Γ l (d + 1) mX11_doubtOf Q 16 [(0, .ref 0), (2, .int a2), (3, .int a3), (4, .int a4), (5, .int x4), (6, .int x8), (7, .int x9)] [] σ5)))) ∧ (¬ x2 = a2 → ∀ x3 : Int32, x3 = a7 + 1 → J Γ l (d + 1) mX11_doubtOf Q 16 [(0, .ref 0), (2, .int a2), (3, .int a3), (4, .int a4), (5, .int a5), (6, .int a6), (7, .int x3)] [] σ1))))) : J Γ l (d + 1) mX11_doubtOf Q 16 [(0, .ref 0), (2, .int a2), (3, .int a3), (4, .int a4), (5, .int a5), (6, .int a6), (7, .int a7)] [] σ := by
  refine J_iload (i := 7) (kk := 6) dX11_doubtOf_16 rfl ?_
  refine J_iconst (v := 1) dX11_doubtOf_18 (by decide) ?_
  refine J_iload_n (i := 3) (kk := 2) dX11_doubtOf_19 rfl rfl ?_
  refine J_ishl dX11_doubtOf_20 ?_
  refine J_icmp_ge 56 dX11_doubtOf_21 (by decide) (fun hc => ?_) (fun hc => ?_)
  · replace h := h.1 hc
    refine J_iload (i := 5) (kk := 4) dX11_doubtOf_56 rfl ?_
    refine J_if_ne 67 dX11_doubtOf_58 (by decide) (fun hc => ?_) (fun hc => ?_)
    · replace h := h.2 hc
      refine J_sipush (v := 10000) dX11_doubtOf_67 (by decide) ?_
      refine J_iload (i := 6) (kk := 5) dX11_doubtOf_70 rfl ?_
      refine J_imul dX11_doubtOf_72 ?_
      refine J_iload (i := 5) (kk := 4) dX11_doubtOf_73 rfl ?_
      refine J_iadd dX11_doubtOf_75 ?_
      refine J_iconst (v := 1) dX11_doubtOf_76 (by decide) ?_
      refine J_isub dX11_doubtOf_77 ?_
      refine J_iload (i := 5) (kk := 4) dX11_doubtOf_78 rfl ?_
      have hz := h.1
      replace h := h.2
      refine J_idiv dX11_doubtOf_80 hz ?_
      exact J_iret rfl dX11_doubtOf_81 h
    · replace h := h.1 hc
      refine J_ldcw (v := (-1999999999)) kcX11_306 dX11_doubtOf_61 ?_
      refine J_goto (tgt := 81) dX11_doubtOf_64 (by decide) ?_
      exact J_iret rfl dX11_doubtOf_81 h
  · replace h := h.2 hc
    refine J_iload (i := 7) (kk := 6) dX11_doubtOf_24 rfl ?_
    refine J_callS [.int a7] [] calJ6_bitCount_0f7a4 klX11_404 rfl rfl (Nat.le_of_ble_eq_true rfl) dX11_doubtOf_26 (KI.to h ?_)
    clear h
    intro x2 σ1 h
    refine J_iload_n (i := 2) (kk := 1) dX11_doubtOf_29 rfl rfl ?_
    refine J_icmp_ne 50 dX11_doubtOf_30 (by decide) (fun hc => ?_) (fun hc => ?_)
    · replace h := h.2 hc
      obtain ⟨x3, ex3⟩ : ∃ y : Int32, y = a7 + 1 := ⟨_, rfl⟩
      replace h := h x3 ex3
      refine J_iinc (i := 7) (kk := 6) (v := x3) (lv' := [(7, .int x3), (0, .ref 0), (2, .int a2), (3, .int a3), (4, .int a4), (5, .int a5), (6, .int a6)]) dX11_doubtOf_50 rfl (by rw [ex3]; rfl) (by decide) rfl ?_
      refine J_goto (tgt := 16) dX11_doubtOf_53 (by decide) ?_
      refine J_sub [1, 2, 3, 4, 5, 6, 0] rfl ?_
      exact h
    · replace h := h.1 hc
      obtain ⟨x4, ex4⟩ : ∃ y : Int32, y = a5 + 1 := ⟨_, rfl⟩
      replace h := h x4 ex4
      refine J_iinc (i := 5) (kk := 4) (v := x4) (lv' := [(5, .int x4), (0, .ref 0), (2, .int a2), (3, .int a3), (4, .int a4), (6, .int a6), (7, .int a7)]) dX11_doubtOf_33 rfl (by rw [ex4]; rfl) (by decide) rfl ?_
      refine J_aload_n (i := 0) (kk := 1) dX11_doubtOf_36 rfl rfl ?_
      refine J_iload (i := 7) (kk := 6) dX11_doubtOf_37 rfl ?_
      refine J_callV [.int a7] [] calX11_earlyOf klX11_399 (b := 0) (ci := 11) (by decide) rfl rfl rfl rfl (Nat.le_of_ble_eq_true rfl) dX11_doubtOf_39 (KI.to h ?_)
      clear h
      intro x6 σ5 h
      refine J_iload (i := 4) (kk := 4) dX11_doubtOf_42 rfl ?_
      refine J_icmp_gt 50 dX11_doubtOf_44 (by decide) (fun hc => ?_) (fun hc => ?_)
      · replace h := h.1 hc
        obtain ⟨x7, ex7⟩ : ∃ y : Int32, y = a7 + 1 := ⟨_, rfl⟩
        replace h := h x7 ex7
        refine J_iinc (i := 7) (kk := 6) (v := x7) (lv' := [(7, .int x7), (5, .int x4), (0, .ref 0), (2, .int a2), (3, .int a3), (4, .int a4), (6, .int a6)]) dX11_doubtOf_50 rfl (by rw [ex7]; rfl) (by decide) rfl ?_
        refine J_goto (tgt := 16) dX11_doubtOf_53 (by decide) ?_
        refine J_sub [2, 3, 4, 5, 1, 6, 0] rfl ?_
        exact h
      · replace h := h.2 hc
        obtain ⟨x8, ex8⟩ : ∃ y : Int32, y = a6 + 1 := ⟨_, rfl⟩
        replace h := h x8 ex8
        refine J_iinc (i := 6) (kk := 5) (v := x8) (lv' := [(6, .int x8), (5, .int x4), (0, .ref 0), (2, .int a2), (3, .int a3), (4, .int a4), (7, .int a7)]) dX11_doubtOf_47 rfl (by rw [ex8]; rfl) (by decide) rfl ?_
        obtain ⟨x9, ex9⟩ : ∃ y : Int32, y = a7 + 1 := ⟨_, rfl⟩
        replace h := h x9 ex9
        refine J_iinc (i := 7) (kk := 6) (v := x9) (lv' := [(7, .int x9), (6, .int x8), (5, .int x4), (0, .ref 0), (2, .int a2), (3, .int a3), (4, .int a4)]) dX11_doubtOf_50 rfl (by rw [ex9]; rfl) (by decide) rfl ?_
        refine J_goto (tgt := 16) dX11_doubtOf_53 (by decide) ?_
        refine J_sub [3, 4, 5, 6, 2, 1, 0] rfl ?_
        exact h
set_option maxHeartbeats 4000000 in
set_option maxRecDepth 100000 in
theorem w_X11_doubtOf_0 {Γ : GG} {l : Launch} {d : Nat} {Q : Option Value → St → Prop} {σ : St} (a1 : Int32) (a2 : Int32) (a3 : Int32) (h : Meth Γ l d mX11_earlyOf [.ref 0, .int a1] σ (KI (fun x2 σ1 => J Γ l (d + 1) mX11_doubtOf Q 16 [(0, .ref 0), (2, .int a2), (3, .int a3), (4, .int x2), (5, .int (0)), (6, .int (0)), (7, .int (0))] [] σ1))) : J Γ l (d + 1) mX11_doubtOf Q 0 [(0, .ref 0), (1, .int a1), (2, .int a2), (3, .int a3)] [] σ := by
  refine J_aload_n (i := 0) (kk := 0) dX11_doubtOf_0 rfl rfl ?_
  refine J_iload_n (i := 1) (kk := 1) dX11_doubtOf_1 rfl rfl ?_
  refine J_callV [.int a1] [] calX11_earlyOf klX11_399 (b := 0) (ci := 11) (by decide) rfl rfl rfl rfl (Nat.le_of_ble_eq_true rfl) dX11_doubtOf_2 (KI.to h ?_)
  clear h
  intro x2 σ1 h
  refine J_istore (i := 4) (lv' := [(4, .int x2), (0, .ref 0), (1, .int a1), (2, .int a2), (3, .int a3)]) dX11_doubtOf_5 (by decide) rfl ?_
  refine J_iconst (v := 0) dX11_doubtOf_7 (by decide) ?_
  refine J_istore (i := 5) (lv' := [(5, .int (0)), (4, .int x2), (0, .ref 0), (1, .int a1), (2, .int a2), (3, .int a3)]) dX11_doubtOf_8 (by decide) rfl ?_
  refine J_iconst (v := 0) dX11_doubtOf_10 (by decide) ?_
  refine J_istore (i := 6) (lv' := [(6, .int (0)), (5, .int (0)), (4, .int x2), (0, .ref 0), (1, .int a1), (2, .int a2), (3, .int a3)]) dX11_doubtOf_11 (by decide) rfl ?_
  refine J_iconst (v := 0) dX11_doubtOf_13 (by decide) ?_
  refine J_istore (i := 7) (lv' := [(7, .int (0)), (6, .int (0)), (5, .int (0)), (4, .int x2), (0, .ref 0), (1, .int a1), (2, .int a2), (3, .int a3)]) dX11_doubtOf_14 (by decide) rfl ?_
  refine J_sub [4, 6, 7, 3, 2, 1, 0] rfl ?_
  exact h
theorem M_X11_doubtOf {Γ : GG} {l : Launch} {d : Nat} {Q : Option Value → St → Prop} {σ : St} (a1 : Int32) (a2 : Int32) (a3 : Int32) (k : J Γ l (d + 1) mX11_doubtOf Q 0 [(0, .ref 0), (1, .int a1), (2, .int a2), (3, .int a3)] [] σ) : Meth Γ l (d + 1) mX11_doubtOf [.ref 0, .int a1, .int a2, .int a3] σ Q := Meth_of_J (by decide +kernel) (fun _ => Nat.le_of_ble_eq_true rfl) (fun _ => rfl) k

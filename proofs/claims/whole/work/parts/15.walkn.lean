set_option maxHeartbeats 4000000 in
set_option maxRecDepth 100000 in
theorem w_X12_eldest_6 {Γ : GG} {l : Launch} {d : Nat} {Q : Option Value → St → Prop} {σ : St} (a1 : Int32) (a2 : Int32) (a3 : Int32) (a4 : Int32) (a5 : Int32) (h : (rd σ 59 16 ≤ a5 → Q (some (.int a4)) σ) ∧ (¬ rd σ 59 16 ≤ a5 → vp_in a5 200 ∧ (rd σ 71 (a5.toNatClampNeg) = a1 → (rd σ 72 (a5.toNatClampNeg) = a2 → vp_in a5 200 ∧ (((((rd σ 76 a5.toNatClampNeg) - (rd σ 77 a5.toNatClampNeg)) - (rd σ 78 a5.toNatClampNeg)) - (rd σ 79 a5.toNatClampNeg)) - (rd σ 80 a5.toNatClampNeg) ≤ (0 : Int32) → ∀ x5 : Int32, x5 = a5 + 1 → J Γ l (d + 4) mX12_eldest Q 6 [(0, .ref 59), (1, .int a1), (2, .int a2), (3, .int a3), (4, .int a4), (5, .int x5)] [] σ) ∧ (¬ ((((rd σ 76 a5.toNatClampNeg) - (rd σ 77 a5.toNatClampNeg)) - (rd σ 78 a5.toNatClampNeg)) - (rd σ 79 a5.toNatClampNeg)) - (rd σ 80 a5.toNatClampNeg) ≤ (0 : Int32) → Meth Γ l (d + 3) mX12_may [.ref 59, .int a3, .int a5] σ (KI (fun x7 σ6 => (x7 = (0 : Int32) → ∀ x8 : Int32, x8 = a5 + 1 → J Γ l (d + 4) mX12_eldest Q 6 [(0, .ref 59), (1, .int a1), (2, .int a2), (3, .int a3), (4, .int a4), (5, .int x8)] [] σ6) ∧ (¬ x7 = (0 : Int32) → (a4 < (0 : Int32) → ∀ x9 : Int32, x9 = a5 + 1 → J Γ l (d + 4) mX12_eldest Q 6 [(0, .ref 59), (1, .int a1), (2, .int a2), (3, .int a3), (4, .int a5), (5, .int x9)] [] σ6) ∧ (¬ a4 < (0 : Int32) → vp_in a4 200 ∧ (rd σ6 74 (a4.toNatClampNeg) ≤ rd σ6 74 (a5.toNatClampNeg) → ∀ x11 : Int32, x11 = a5 + 1 → J Γ l (d + 4) mX12_eldest Q 6 [(0, .ref 59), (1, .int a1), (2, .int a2), (3, .int a3), (4, .int a4), (5, .int x11)] [] σ6) ∧ (¬ rd σ6 74 (a4.toNatClampNeg) ≤ rd σ6 74 (a5.toNatClampNeg) → ∀ x12 : Int32, x12 = a5 + 1 → J Γ l (d + 4) mX12_eldest Q 6 [(0, .ref 59), (1, .int a1), (2, .int a2), (3, .int a3), (4, .int a5), (5, .int x12)] [] σ6))))))) ∧ (¬ rd σ 72 (a5.toNatClampNeg) = a2 → ∀ x3 : Int32, x3 = a5 + 1 → J Γ l (d + 4) mX12_eldest Q 6 [(0, .ref 59), (1, .int a1), (2, .int a2), (3, .int a3), (4, .int a4), (5, .int x3)] [] σ)) ∧ (¬ rd σ 71 (a5.toNatClampNeg) = a1 → ∀ x2 : Int32, x2 = a5 + 1 → J Γ l (d + 4) mX12_eldest Q 6 [(0, .ref 59), (1, .int a1), (2, .int a2), (3, .int a3), (4, .int a4), (5, .int x2)] [] σ))) : J Γ l (d + 4) mX12_eldest Q 6 [(0, .ref 59), (1, .int a1), (2, .int a2), (3, .int a3), (4, .int a4), (5, .int a5)] [] σ := by
  refine J_iload (i := 5) (kk := 5) dX12_eldest_6 rfl ?_
  refine J_aload_n (i := 0) (kk := 0) dX12_eldest_8 rfl rfl ?_
  refine J_getI (q := 59) (ci := 12) (kf := 16) kfX12_227 uxX12 rfl (by decide) rfl (by decide) rfl dX12_eldest_9 ?_
  refine J_icmp_ge 88 dX12_eldest_12 (by decide) (fun hc => ?_) (fun hc => ?_)
  · replace h := h.1 hc
    refine J_iload (i := 4) (kk := 4) dX12_eldest_88 rfl ?_
    exact J_iret rfl dX12_eldest_90 h
  · replace h := h.2 hc
    refine J_aload_n (i := 0) (kk := 0) dX12_eldest_15 rfl rfl ?_
    refine J_getR 71 (q := 59) (ci := 12) (kf := 17) kfX12_43 uxX12 rfl (by decide) rfl (by decide) rfl dX12_eldest_16 ?_
    refine J_iload (i := 5) (kk := 5) dX12_eldest_19 rfl ?_
    have b1 := h.1
    replace h := h.2
    refine J_ald (a5.toNatClampNeg) rfl (by decide) rfl b1 dX12_eldest_21 ?_
    refine J_iload_n (i := 1) (kk := 1) dX12_eldest_22 rfl rfl ?_
    refine J_icmp_ne 82 dX12_eldest_23 (by decide) (fun hc => ?_) (fun hc => ?_)
    · replace h := h.2 hc
      obtain ⟨x2, ex2⟩ : ∃ y : Int32, y = a5 + 1 := ⟨_, rfl⟩
      replace h := h x2 ex2
      refine J_iinc (i := 5) (kk := 5) (v := x2) (lv' := [(5, .int x2), (0, .ref 59), (1, .int a1), (2, .int a2), (3, .int a3), (4, .int a4)]) dX12_eldest_82 rfl (by rw [ex2]; rfl) (by decide) rfl ?_
      refine J_goto (tgt := 6) dX12_eldest_85 (by decide) ?_
      refine J_sub [1, 2, 3, 4, 5, 0] rfl ?_
      exact h
    · replace h := h.1 hc
      refine J_aload_n (i := 0) (kk := 0) dX12_eldest_26 rfl rfl ?_
      refine J_getR 72 (q := 59) (ci := 12) (kf := 18) kfX12_46 uxX12 rfl (by decide) rfl (by decide) rfl dX12_eldest_27 ?_
      refine J_iload (i := 5) (kk := 5) dX12_eldest_30 rfl ?_
      refine J_ald (a5.toNatClampNeg) rfl (by decide) rfl b1 dX12_eldest_32 ?_
      refine J_iload_n (i := 2) (kk := 2) dX12_eldest_33 rfl rfl ?_
      refine J_icmp_ne 82 dX12_eldest_34 (by decide) (fun hc => ?_) (fun hc => ?_)
      · replace h := h.2 hc
        obtain ⟨x3, ex3⟩ : ∃ y : Int32, y = a5 + 1 := ⟨_, rfl⟩
        replace h := h x3 ex3
        refine J_iinc (i := 5) (kk := 5) (v := x3) (lv' := [(5, .int x3), (0, .ref 59), (1, .int a1), (2, .int a2), (3, .int a3), (4, .int a4)]) dX12_eldest_82 rfl (by rw [ex3]; rfl) (by decide) rfl ?_
        refine J_goto (tgt := 6) dX12_eldest_85 (by decide) ?_
        refine J_sub [1, 2, 3, 4, 5, 0] rfl ?_
        exact h
      · replace h := h.1 hc
        refine J_aload_n (i := 0) (kk := 0) dX12_eldest_37 rfl rfl ?_
        refine J_iload (i := 5) (kk := 5) dX12_eldest_38 rfl ?_
        have b4 := h.1
        replace h := h.2
        refine J_callV [.int a5] [] calX12_onShelf klX12_245 (b := 59) (ci := 12) (by decide) rfl rfl rfl rfl (Nat.le_of_ble_eq_true rfl) dX12_eldest_40 (KI.to (S_X12_onShelf a5 b4) ?_)
        rintro x9 s9 ⟨rfl, rfl⟩
        refine J_if_le 82 dX12_eldest_43 (by decide) (fun hc => ?_) (fun hc => ?_)
        · replace h := h.1 hc
          obtain ⟨x5, ex5⟩ : ∃ y : Int32, y = a5 + 1 := ⟨_, rfl⟩
          replace h := h x5 ex5
          refine J_iinc (i := 5) (kk := 5) (v := x5) (lv' := [(5, .int x5), (0, .ref 59), (1, .int a1), (2, .int a2), (3, .int a3), (4, .int a4)]) dX12_eldest_82 rfl (by rw [ex5]; rfl) (by decide) rfl ?_
          refine J_goto (tgt := 6) dX12_eldest_85 (by decide) ?_
          refine J_sub [1, 2, 3, 4, 5, 0] rfl ?_
          exact h
        · replace h := h.2 hc
          refine J_aload_n (i := 0) (kk := 0) dX12_eldest_46 rfl rfl ?_
          refine J_iload_n (i := 3) (kk := 3) dX12_eldest_47 rfl rfl ?_
          refine J_iload (i := 5) (kk := 5) dX12_eldest_48 rfl ?_
          refine J_callV [.int a3, .int a5] [] calX12_may klX12_327 (b := 59) (ci := 12) (by decide) rfl rfl rfl rfl (Nat.le_of_ble_eq_true rfl) dX12_eldest_50 (KI.to h ?_)
          clear h
          intro x7 σ6 h
          refine J_if_eq 82 dX12_eldest_53 (by decide) (fun hc => ?_) (fun hc => ?_)
          · replace h := h.1 hc
            obtain ⟨x8, ex8⟩ : ∃ y : Int32, y = a5 + 1 := ⟨_, rfl⟩
            replace h := h x8 ex8
            refine J_iinc (i := 5) (kk := 5) (v := x8) (lv' := [(5, .int x8), (0, .ref 59), (1, .int a1), (2, .int a2), (3, .int a3), (4, .int a4)]) dX12_eldest_82 rfl (by rw [ex8]; rfl) (by decide) rfl ?_
            refine J_goto (tgt := 6) dX12_eldest_85 (by decide) ?_
            refine J_sub [1, 2, 3, 4, 5, 0] rfl ?_
            exact h
          · replace h := h.2 hc
            refine J_iload (i := 4) (kk := 4) dX12_eldest_56 rfl ?_
            refine J_if_lt 78 dX12_eldest_58 (by decide) (fun hc => ?_) (fun hc => ?_)
            · replace h := h.1 hc
              refine J_iload (i := 5) (kk := 5) dX12_eldest_78 rfl ?_
              refine J_istore (i := 4) (lv' := [(4, .int a5), (0, .ref 59), (1, .int a1), (2, .int a2), (3, .int a3), (5, .int a5)]) dX12_eldest_80 (by decide) rfl ?_
              obtain ⟨x9, ex9⟩ : ∃ y : Int32, y = a5 + 1 := ⟨_, rfl⟩
              replace h := h x9 ex9
              refine J_iinc (i := 5) (kk := 5) (v := x9) (lv' := [(5, .int x9), (4, .int a5), (0, .ref 59), (1, .int a1), (2, .int a2), (3, .int a3)]) dX12_eldest_82 rfl (by rw [ex9]; rfl) (by decide) rfl ?_
              refine J_goto (tgt := 6) dX12_eldest_85 (by decide) ?_
              refine J_sub [2, 3, 4, 5, 1, 0] rfl ?_
              exact h
            · replace h := h.2 hc
              refine J_aload_n (i := 0) (kk := 0) dX12_eldest_61 rfl rfl ?_
              refine J_getR 74 (q := 59) (ci := 12) (kf := 20) kfX12_52 uxX12 rfl (by decide) rfl (by decide) rfl dX12_eldest_62 ?_
              refine J_iload (i := 5) (kk := 5) dX12_eldest_65 rfl ?_
              refine J_ald (a5.toNatClampNeg) rfl (by decide) rfl b1 dX12_eldest_67 ?_
              refine J_aload_n (i := 0) (kk := 0) dX12_eldest_68 rfl rfl ?_
              refine J_getR 74 (q := 59) (ci := 12) (kf := 20) kfX12_52 uxX12 rfl (by decide) rfl (by decide) rfl dX12_eldest_69 ?_
              refine J_iload (i := 4) (kk := 4) dX12_eldest_72 rfl ?_
              have b10 := h.1
              replace h := h.2
              refine J_ald (a4.toNatClampNeg) rfl (by decide) rfl b10 dX12_eldest_74 ?_
              refine J_icmp_ge 82 dX12_eldest_75 (by decide) (fun hc => ?_) (fun hc => ?_)
              · replace h := h.1 hc
                obtain ⟨x11, ex11⟩ : ∃ y : Int32, y = a5 + 1 := ⟨_, rfl⟩
                replace h := h x11 ex11
                refine J_iinc (i := 5) (kk := 5) (v := x11) (lv' := [(5, .int x11), (0, .ref 59), (1, .int a1), (2, .int a2), (3, .int a3), (4, .int a4)]) dX12_eldest_82 rfl (by rw [ex11]; rfl) (by decide) rfl ?_
                refine J_goto (tgt := 6) dX12_eldest_85 (by decide) ?_
                refine J_sub [1, 2, 3, 4, 5, 0] rfl ?_
                exact h
              · replace h := h.2 hc
                refine J_iload (i := 5) (kk := 5) dX12_eldest_78 rfl ?_
                refine J_istore (i := 4) (lv' := [(4, .int a5), (0, .ref 59), (1, .int a1), (2, .int a2), (3, .int a3), (5, .int a5)]) dX12_eldest_80 (by decide) rfl ?_
                obtain ⟨x12, ex12⟩ : ∃ y : Int32, y = a5 + 1 := ⟨_, rfl⟩
                replace h := h x12 ex12
                refine J_iinc (i := 5) (kk := 5) (v := x12) (lv' := [(5, .int x12), (4, .int a5), (0, .ref 59), (1, .int a1), (2, .int a2), (3, .int a3)]) dX12_eldest_82 rfl (by rw [ex12]; rfl) (by decide) rfl ?_
                refine J_goto (tgt := 6) dX12_eldest_85 (by decide) ?_
                refine J_sub [2, 3, 4, 5, 1, 0] rfl ?_
                exact h
set_option maxHeartbeats 4000000 in
set_option maxRecDepth 100000 in
theorem w_X12_eldest_0 {Γ : GG} {l : Launch} {d : Nat} {Q : Option Value → St → Prop} {σ : St} (a1 : Int32) (a2 : Int32) (a3 : Int32) (h : J Γ l (d + 4) mX12_eldest Q 6 [(0, .ref 59), (1, .int a1), (2, .int a2), (3, .int a3), (4, .int ((-1))), (5, .int (0))] [] σ) : J Γ l (d + 4) mX12_eldest Q 0 [(0, .ref 59), (1, .int a1), (2, .int a2), (3, .int a3)] [] σ := by
  refine J_iconst (v := (-1)) dX12_eldest_0 (by decide) ?_
  refine J_istore (i := 4) (lv' := [(4, .int ((-1))), (0, .ref 59), (1, .int a1), (2, .int a2), (3, .int a3)]) dX12_eldest_1 (by decide) rfl ?_
  refine J_iconst (v := 0) dX12_eldest_3 (by decide) ?_
  refine J_istore (i := 5) (lv' := [(5, .int (0)), (4, .int ((-1))), (0, .ref 59), (1, .int a1), (2, .int a2), (3, .int a3)]) dX12_eldest_4 (by decide) rfl ?_
  refine J_sub [2, 3, 4, 5, 1, 0] rfl ?_
  exact h
theorem M_X12_eldest {Γ : GG} {l : Launch} {d : Nat} {Q : Option Value → St → Prop} {σ : St} (a1 : Int32) (a2 : Int32) (a3 : Int32) (k : J Γ l (d + 4) mX12_eldest Q 0 [(0, .ref 59), (1, .int a1), (2, .int a2), (3, .int a3)] [] σ) : Meth Γ l (d + 4) mX12_eldest [.ref 59, .int a1, .int a2, .int a3] σ Q := Meth_of_J (by decide +kernel) (fun _ => Nat.le_of_ble_eq_true rfl) (fun _ => rfl) k
set_option maxHeartbeats 4000000 in
set_option maxRecDepth 100000 in
theorem w_X12_toss_0 {Γ : GG} {l : Launch} {d : Nat} {Q : Option Value → St → Prop} {σ : St} (a1 : Int32) (a2 : Int32) (h : vp_in a1 200 ∧ vp_in ((rd σ 59 1) / (24 : Int32)) 1500 ∧ vp_in (rd σ 72 (a1.toNatClampNeg)) 10 ∧ Q none (wr (wr σ 80 (a1.toNatClampNeg) ((rd σ 80 (a1.toNatClampNeg)) + a2)) 83 (((rd σ 59 1) / (24 : Int32)).toNatClampNeg) ((rd σ 83 (((rd σ 59 1) / (24 : Int32)).toNatClampNeg)) + (a2 * (rd σ 65 ((rd σ 72 (a1.toNatClampNeg)).toNatClampNeg)))))) : J Γ l (d + 1) mX12_toss Q 0 [(0, .ref 59), (1, .int a1), (2, .int a2)] [] σ := by
  refine J_aload_n (i := 0) (kk := 0) dX12_toss_0 rfl rfl ?_
  refine J_getR 80 (q := 59) (ci := 12) (kf := 26) kfX12_70 uxX12 rfl (by decide) rfl (by decide) rfl dX12_toss_1 ?_
  refine J_iload_n (i := 1) (kk := 1) dX12_toss_4 rfl rfl ?_
  refine J_dup2_11 dX12_toss_5 rfl rfl ?_
  have b1 := h.1
  replace h := h.2
  refine J_ald (a1.toNatClampNeg) rfl (by decide) rfl b1 dX12_toss_6 ?_
  refine J_iload_n (i := 2) (kk := 2) dX12_toss_7 rfl rfl ?_
  refine J_iadd dX12_toss_8 ?_
  refine J_ast (a1.toNatClampNeg) rfl (by decide) rfl b1 dX12_toss_9 ?_
  refine J_aload_n (i := 0) (kk := 0) dX12_toss_10 rfl rfl ?_
  refine J_getR 83 (q := 59) (ci := 12) (kf := 29) kfX12_79 uxX12 rfl (by decide) rfl (by decide) rfl dX12_toss_11 ?_
  refine J_aload_n (i := 0) (kk := 0) dX12_toss_14 rfl rfl ?_
  refine J_callV [] [.ref 83] calX12_today klX12_230 (b := 59) (ci := 12) (by decide) rfl rfl rfl rfl (Nat.le_of_ble_eq_true rfl) dX12_toss_15 (KI.to (S_X12_today) ?_)
  rintro x9 s9 ⟨rfl, rfl⟩
  refine J_eqI (y := (rd σ 59 1) / (24 : Int32)) rfl ?_
  refine J_dup2_11 dX12_toss_18 rfl rfl ?_
  have b2 := h.1
  replace h := h.2
  refine J_ald (((rd σ 59 1) / (24 : Int32)).toNatClampNeg) rfl (by decide) rfl b2 dX12_toss_19 ?_
  refine J_eqI (y := rd σ 83 (((rd σ 59 1) / (24 : Int32)).toNatClampNeg)) rfl ?_
  refine J_iload_n (i := 2) (kk := 2) dX12_toss_20 rfl rfl ?_
  refine J_aload_n (i := 0) (kk := 0) dX12_toss_21 rfl rfl ?_
  refine J_getR 65 (q := 59) (ci := 12) (kf := 9) kfX12_25 uxX12 rfl (by decide) rfl (by decide) rfl dX12_toss_22 ?_
  refine J_aload_n (i := 0) (kk := 0) dX12_toss_25 rfl rfl ?_
  refine J_getR 72 (q := 59) (ci := 12) (kf := 18) kfX12_46 uxX12 rfl (by decide) rfl (by decide) rfl dX12_toss_26 ?_
  refine J_iload_n (i := 1) (kk := 1) dX12_toss_29 rfl rfl ?_
  refine J_ald (a1.toNatClampNeg) rfl (by decide) rfl b1 dX12_toss_30 ?_
  refine J_eqI (y := rd σ 72 (a1.toNatClampNeg)) rfl ?_
  have b3 := h.1
  replace h := h.2
  refine J_ald ((rd σ 72 (a1.toNatClampNeg)).toNatClampNeg) rfl (by decide) rfl b3 dX12_toss_31 ?_
  refine J_eqI (y := rd σ 65 ((rd σ 72 (a1.toNatClampNeg)).toNatClampNeg)) rfl ?_
  refine J_imul dX12_toss_32 ?_
  refine J_iadd dX12_toss_33 ?_
  refine J_ast (((rd σ 59 1) / (24 : Int32)).toNatClampNeg) rfl (by decide) rfl b2 dX12_toss_34 ?_
  exact J_vret rfl dX12_toss_35 h
theorem M_X12_toss {Γ : GG} {l : Launch} {d : Nat} {Q : Option Value → St → Prop} {σ : St} (a1 : Int32) (a2 : Int32) (k : J Γ l (d + 1) mX12_toss Q 0 [(0, .ref 59), (1, .int a1), (2, .int a2)] [] σ) : Meth Γ l (d + 1) mX12_toss [.ref 59, .int a1, .int a2] σ Q := Meth_of_J (by decide +kernel) (fun _ => Nat.le_of_ble_eq_true rfl) (fun _ => rfl) k
set_option maxHeartbeats 4000000 in
set_option maxRecDepth 100000 in
theorem w_X12_hours_85 {Γ : GG} {l : Launch} {d : Nat} {Q : Option Value → St → Prop} {σ : St} (a1 : Int32) (a2 : Int32) (a3 : Int32) (h : (rd σ 59 16 ≤ a3 → ∀ x1 : Int32, x1 = a2 + 1 → J Γ l (d + 4) mX12_hours Q 27 [(0, .ref 59), (1, .int a1), (2, .int x1)] [] σ) ∧ (¬ rd σ 59 16 ≤ a3 → vp_in a3 200 ∧ (((((rd σ 76 a3.toNatClampNeg) - (rd σ 77 a3.toNatClampNeg)) - (rd σ 78 a3.toNatClampNeg)) - (rd σ 79 a3.toNatClampNeg)) - (rd σ 80 a3.toNatClampNeg) ≤ (0 : Int32) → ∀ x3 : Int32, x3 = a3 + 1 → J Γ l (d + 4) mX12_hours Q 85 [(0, .ref 59), (1, .int a1), (2, .int a2), (3, .int x3)] [] σ) ∧ (¬ ((((rd σ 76 a3.toNatClampNeg) - (rd σ 77 a3.toNatClampNeg)) - (rd σ 78 a3.toNatClampNeg)) - (rd σ 79 a3.toNatClampNeg)) - (rd σ 80 a3.toNatClampNeg) ≤ (0 : Int32) → Meth Γ l (d + 3) mX12_may [.ref 59, .int (0), .int a3] σ (KI (fun x5 σ4 => (x5 = (0 : Int32) → vp_in a3 200 ∧ Meth Γ l (d + 3) mX12_toss [.ref 59, .int a3, .int (((((rd σ4 76 a3.toNatClampNeg) - (rd σ4 77 a3.toNatClampNeg)) - (rd σ4 78 a3.toNatClampNeg)) - (rd σ4 79 a3.toNatClampNeg)) - (rd σ4 80 a3.toNatClampNeg))] σ4 (KV (fun σ8 => ∀ x9 : Int32, x9 = a3 + 1 → J Γ l (d + 4) mX12_hours Q 85 [(0, .ref 59), (1, .int a1), (2, .int a2), (3, .int x9)] [] σ8))) ∧ (¬ x5 = (0 : Int32) → ∀ x6 : Int32, x6 = a3 + 1 → J Γ l (d + 4) mX12_hours Q 85 [(0, .ref 59), (1, .int a1), (2, .int a2), (3, .int x6)] [] σ4)))))) : J Γ l (d + 4) mX12_hours Q 85 [(0, .ref 59), (1, .int a1), (2, .int a2), (3, .int a3)] [] σ := by
  refine J_iload_n (i := 3) (kk := 3) dX12_hours_85 rfl rfl ?_
  refine J_aload_n (i := 0) (kk := 0) dX12_hours_86 rfl rfl ?_
  refine J_getI (q := 59) (ci := 12) (kf := 16) kfX12_227 uxX12 rfl (by decide) rfl (by decide) rfl dX12_hours_87 ?_
  refine J_icmp_ge 126 dX12_hours_90 (by decide) (fun hc => ?_) (fun hc => ?_)
  · replace h := h.1 hc
    obtain ⟨x1, ex1⟩ : ∃ y : Int32, y = a2 + 1 := ⟨_, rfl⟩
    replace h := h x1 ex1
    refine J_iinc (i := 2) (kk := 2) (v := x1) (lv' := [(2, .int x1), (0, .ref 59), (1, .int a1), (3, .int a3)]) dX12_hours_126 rfl (by rw [ex1]; rfl) (by decide) rfl ?_
    refine J_goto (tgt := 27) dX12_hours_129 (by decide) ?_
    refine J_sub [1, 2, 0] rfl ?_
    exact h
  · replace h := h.2 hc
    refine J_aload_n (i := 0) (kk := 0) dX12_hours_93 rfl rfl ?_
    refine J_iload_n (i := 3) (kk := 3) dX12_hours_94 rfl rfl ?_
    have b2 := h.1
    replace h := h.2
    refine J_callV [.int a3] [] calX12_onShelf klX12_245 (b := 59) (ci := 12) (by decide) rfl rfl rfl rfl (Nat.le_of_ble_eq_true rfl) dX12_hours_95 (KI.to (S_X12_onShelf a3 b2) ?_)
    rintro x9 s9 ⟨rfl, rfl⟩
    refine J_if_le 120 dX12_hours_98 (by decide) (fun hc => ?_) (fun hc => ?_)
    · replace h := h.1 hc
      obtain ⟨x3, ex3⟩ : ∃ y : Int32, y = a3 + 1 := ⟨_, rfl⟩
      replace h := h x3 ex3
      refine J_iinc (i := 3) (kk := 3) (v := x3) (lv' := [(3, .int x3), (0, .ref 59), (1, .int a1), (2, .int a2)]) dX12_hours_120 rfl (by rw [ex3]; rfl) (by decide) rfl ?_
      refine J_goto (tgt := 85) dX12_hours_123 (by decide) ?_
      refine J_sub [1, 2, 3, 0] rfl ?_
      exact h
    · replace h := h.2 hc
      refine J_aload_n (i := 0) (kk := 0) dX12_hours_101 rfl rfl ?_
      refine J_iconst (v := 0) dX12_hours_102 (by decide) ?_
      refine J_iload_n (i := 3) (kk := 3) dX12_hours_103 rfl rfl ?_
      refine J_callV [.int (0), .int a3] [] calX12_may klX12_327 (b := 59) (ci := 12) (by decide) rfl rfl rfl rfl (Nat.le_of_ble_eq_true rfl) dX12_hours_104 (KI.to h ?_)
      clear h
      intro x5 σ4 h
      refine J_if_ne 120 dX12_hours_107 (by decide) (fun hc => ?_) (fun hc => ?_)
      · replace h := h.2 hc
        obtain ⟨x6, ex6⟩ : ∃ y : Int32, y = a3 + 1 := ⟨_, rfl⟩
        replace h := h x6 ex6
        refine J_iinc (i := 3) (kk := 3) (v := x6) (lv' := [(3, .int x6), (0, .ref 59), (1, .int a1), (2, .int a2)]) dX12_hours_120 rfl (by rw [ex6]; rfl) (by decide) rfl ?_
        refine J_goto (tgt := 85) dX12_hours_123 (by decide) ?_
        refine J_sub [1, 2, 3, 0] rfl ?_
        exact h
      · replace h := h.1 hc
        refine J_aload_n (i := 0) (kk := 0) dX12_hours_110 rfl rfl ?_
        refine J_iload_n (i := 3) (kk := 3) dX12_hours_111 rfl rfl ?_
        refine J_aload_n (i := 0) (kk := 0) dX12_hours_112 rfl rfl ?_
        refine J_iload_n (i := 3) (kk := 3) dX12_hours_113 rfl rfl ?_
        have b7 := h.1
        replace h := h.2
        refine J_callV [.int a3] [.int a3, .ref 59] calX12_onShelf klX12_245 (b := 59) (ci := 12) (by decide) rfl rfl rfl rfl (Nat.le_of_ble_eq_true rfl) dX12_hours_114 (KI.to (S_X12_onShelf a3 b7) ?_)
        rintro x9 s9 ⟨rfl, rfl⟩
        refine J_callV [.int a3, .int (((((rd σ4 76 a3.toNatClampNeg) - (rd σ4 77 a3.toNatClampNeg)) - (rd σ4 78 a3.toNatClampNeg)) - (rd σ4 79 a3.toNatClampNeg)) - (rd σ4 80 a3.toNatClampNeg))] [] calX12_toss klX12_334 (b := 59) (ci := 12) (by decide) rfl rfl rfl rfl (Nat.le_of_ble_eq_true rfl) dX12_hours_117 (KV.to h ?_)
        clear h
        intro σ8 h
        obtain ⟨x9, ex9⟩ : ∃ y : Int32, y = a3 + 1 := ⟨_, rfl⟩
        replace h := h x9 ex9
        refine J_iinc (i := 3) (kk := 3) (v := x9) (lv' := [(3, .int x9), (0, .ref 59), (1, .int a1), (2, .int a2)]) dX12_hours_120 rfl (by rw [ex9]; rfl) (by decide) rfl ?_
        refine J_goto (tgt := 85) dX12_hours_123 (by decide) ?_
        refine J_sub [1, 2, 3, 0] rfl ?_
        exact h
set_option maxHeartbeats 4000000 in
set_option maxRecDepth 100000 in
theorem w_X12_hours_57 {Γ : GG} {l : Launch} {d : Nat} {Q : Option Value → St → Prop} {σ : St} (a1 : Int32) (a2 : Int32) (a3 : Int32) (h : ((120 : Int32) ≤ a3 → J Γ l (d + 4) mX12_hours Q 85 [(0, .ref 59), (1, .int a1), (2, .int a2), (3, .int (0))] [] σ) ∧ (¬ (120 : Int32) ≤ a3 → vp_in a3 120 ∧ ∀ x2 : Int32, x2 = a3 + 1 → J Γ l (d + 4) mX12_hours Q 57 [(0, .ref 59), (1, .int a1), (2, .int a2), (3, .int x2)] [] (wr (wr σ 69 (a3.toNatClampNeg) (0 : Int32)) 70 (a3.toNatClampNeg) (0 : Int32)))) : J Γ l (d + 4) mX12_hours Q 57 [(0, .ref 59), (1, .int a1), (2, .int a2), (3, .int a3)] [] σ := by
  refine J_iload_n (i := 3) (kk := 3) dX12_hours_57 rfl rfl ?_
  refine J_bipush (v := 120) dX12_hours_58 (by decide) ?_
  refine J_icmp_ge 83 dX12_hours_60 (by decide) (fun hc => ?_) (fun hc => ?_)
  · replace h := h.1 hc
    refine J_iconst (v := 0) dX12_hours_83 (by decide) ?_
    refine J_istore_n (i := 3) (lv' := [(3, .int (0)), (0, .ref 59), (1, .int a1), (2, .int a2)]) dX12_hours_84 rfl (by decide) rfl ?_
    refine J_sub [1, 2, 3, 0] rfl ?_
    exact h
  · replace h := h.2 hc
    refine J_aload_n (i := 0) (kk := 0) dX12_hours_63 rfl rfl ?_
    refine J_getR 69 (q := 59) (ci := 12) (kf := 13) kfX12_37 uxX12 rfl (by decide) rfl (by decide) rfl dX12_hours_64 ?_
    refine J_iload_n (i := 3) (kk := 3) dX12_hours_67 rfl rfl ?_
    refine J_iconst (v := 0) dX12_hours_68 (by decide) ?_
    have b1 := h.1
    replace h := h.2
    refine J_ast (a3.toNatClampNeg) rfl (by decide) rfl b1 dX12_hours_69 ?_
    refine J_aload_n (i := 0) (kk := 0) dX12_hours_70 rfl rfl ?_
    refine J_getR 70 (q := 59) (ci := 12) (kf := 14) kfX12_40 uxX12 rfl (by decide) rfl (by decide) rfl dX12_hours_71 ?_
    refine J_iload_n (i := 3) (kk := 3) dX12_hours_74 rfl rfl ?_
    refine J_iconst (v := 0) dX12_hours_75 (by decide) ?_
    refine J_ast (a3.toNatClampNeg) rfl (by decide) rfl b1 dX12_hours_76 ?_
    obtain ⟨x2, ex2⟩ : ∃ y : Int32, y = a3 + 1 := ⟨_, rfl⟩
    replace h := h x2 ex2
    refine J_iinc (i := 3) (kk := 3) (v := x2) (lv' := [(3, .int x2), (0, .ref 59), (1, .int a1), (2, .int a2)]) dX12_hours_77 rfl (by rw [ex2]; rfl) (by decide) rfl ?_
    refine J_goto (tgt := 57) dX12_hours_80 (by decide) ?_
    refine J_sub [1, 2, 3, 0] rfl ?_
    exact h
set_option maxHeartbeats 4000000 in
set_option maxRecDepth 100000 in
theorem w_X12_hours_27 {Γ : GG} {l : Launch} {d : Nat} {Q : Option Value → St → Prop} {σ : St} (a1 : Int32) (a2 : Int32) (h : (a1 ≤ a2 → Q (some (.int (rd σ 59 1))) σ) ∧ (¬ a1 ≤ a2 → (((rd σ 59 1) + (1 : Int32)) - ((rd σ 59 1) + (1 : Int32)) / (24 : Int32) * (24 : Int32) = (0 : Int32) → J Γ l (d + 4) mX12_hours Q 57 [(0, .ref 59), (1, .int a1), (2, .int a2), (3, .int (0))] [] (wr σ 59 1 ((rd σ 59 1) + (1 : Int32)))) ∧ (¬ ((rd σ 59 1) + (1 : Int32)) - ((rd σ 59 1) + (1 : Int32)) / (24 : Int32) * (24 : Int32) = (0 : Int32) → ∀ x1 : Int32, x1 = a2 + 1 → J Γ l (d + 4) mX12_hours Q 27 [(0, .ref 59), (1, .int a1), (2, .int x1)] [] (wr σ 59 1 ((rd σ 59 1) + (1 : Int32)))))) : J Γ l (d + 4) mX12_hours Q 27 [(0, .ref 59), (1, .int a1), (2, .int a2)] [] σ := by
  refine J_iload_n (i := 2) (kk := 2) dX12_hours_27 rfl rfl ?_
  refine J_iload_n (i := 1) (kk := 1) dX12_hours_28 rfl rfl ?_
  refine J_icmp_ge 132 dX12_hours_29 (by decide) (fun hc => ?_) (fun hc => ?_)
  · replace h := h.1 hc
    refine J_aload_n (i := 0) (kk := 0) dX12_hours_132 rfl rfl ?_
    refine J_getI (q := 59) (ci := 12) (kf := 1) kfX12_200 uxX12 rfl (by decide) rfl (by decide) rfl dX12_hours_133 ?_
    exact J_iret rfl dX12_hours_136 h
  · replace h := h.2 hc
    refine J_aload_n (i := 0) (kk := 0) dX12_hours_32 rfl rfl ?_
    refine J_dup dX12_hours_33 rfl ?_
    refine J_getI (q := 59) (ci := 12) (kf := 1) kfX12_200 uxX12 rfl (by decide) rfl (by decide) rfl dX12_hours_34 ?_
    refine J_iconst (v := 1) dX12_hours_37 (by decide) ?_
    refine J_iadd dX12_hours_38 ?_
    refine J_putf (q := 59) (ci := 12) (kf := 1) (ty := .int) kfX12_200 uxX12 tyX12_ok nmX12 rfl (by decide) rfl (by decide) rfl rfl rfl rfl rfl dX12_hours_39 ?_
    refine J_aload_n (i := 0) (kk := 0) dX12_hours_42 rfl rfl ?_
    refine J_getI (q := 59) (ci := 12) (kf := 1) kfX12_200 uxX12 rfl (by decide) rfl (by decide) rfl dX12_hours_43 ?_
    refine J_eqI (y := ((rd σ 59 1) + (1 : Int32))) rfl ?_
    refine J_bipush (v := 24) dX12_hours_46 (by decide) ?_
    refine J_irem dX12_hours_48 (by decide) ?_
    refine J_if_eq 55 dX12_hours_49 (by decide) (fun hc => ?_) (fun hc => ?_)
    · replace h := h.1 hc
      refine J_iconst (v := 0) dX12_hours_55 (by decide) ?_
      refine J_istore_n (i := 3) (lv' := [(3, .int (0)), (0, .ref 59), (1, .int a1), (2, .int a2)]) dX12_hours_56 rfl (by decide) rfl ?_
      refine J_sub [1, 2, 3, 0] rfl ?_
      exact h
    · replace h := h.2 hc
      refine J_goto (tgt := 126) dX12_hours_52 (by decide) ?_
      obtain ⟨x1, ex1⟩ : ∃ y : Int32, y = a2 + 1 := ⟨_, rfl⟩
      replace h := h x1 ex1
      refine J_iinc (i := 2) (kk := 2) (v := x1) (lv' := [(2, .int x1), (0, .ref 59), (1, .int a1)]) dX12_hours_126 rfl (by rw [ex1]; rfl) (by decide) rfl ?_
      refine J_goto (tgt := 27) dX12_hours_129 (by decide) ?_
      refine J_sub [1, 2, 0] rfl ?_
      exact h
set_option maxHeartbeats 4000000 in
set_option maxRecDepth 100000 in
theorem w_X12_hours_0 {Γ : GG} {l : Launch} {d : Nat} {Q : Option Value → St → Prop} {σ : St} (a1 : Int32) (h : ((1 : Int32) ≤ a1 ∧ a1 ≤ (240 : Int32) → ((rd σ 59 1) + a1 ≤ (35999 : Int32) → J Γ l (d + 4) mX12_hours Q 27 [(0, .ref 59), (1, .int a1), (2, .int (0))] [] σ) ∧ (¬ (rd σ 59 1) + a1 ≤ (35999 : Int32) → Q (some (.int ((-1)))) σ)) ∧ (¬ ((1 : Int32) ≤ a1 ∧ a1 ≤ (240 : Int32)) → Q (some (.int ((-1)))) σ)) : J Γ l (d + 4) mX12_hours Q 0 [(0, .ref 59), (1, .int a1)] [] σ := by
  refine J_iload_n (i := 1) (kk := 1) dX12_hours_0 rfl rfl ?_
  refine J_iconst (v := 1) dX12_hours_1 (by decide) ?_
  refine J_sipush (v := 240) dX12_hours_2 (by decide) ?_
  refine J_callS [.int a1, .int (1), .int (240)] [] calX12_in klX12_196 rfl rfl (Nat.le_of_ble_eq_true rfl) dX12_hours_5 (KI.to (S_X12_in a1 (1 : Int32) (240 : Int32)) ?_)
  rintro x9 s9 ⟨rfl, ⟨g1, rfl⟩ | ⟨g1, rfl⟩⟩
  · replace h := h.1 g1
    refine J_if_eq 23 dX12_hours_8 (by decide) (fun hc => absurd hc (by decide)) (fun _ => ?_)
    refine J_aload_n (i := 0) (kk := 0) dX12_hours_11 rfl rfl ?_
    refine J_getI (q := 59) (ci := 12) (kf := 1) kfX12_200 uxX12 rfl (by decide) rfl (by decide) rfl dX12_hours_12 ?_
    refine J_iload_n (i := 1) (kk := 1) dX12_hours_15 rfl rfl ?_
    refine J_iadd dX12_hours_16 ?_
    refine J_ldcw (v := 35999) kcX12_333 dX12_hours_17 ?_
    refine J_icmp_le 25 dX12_hours_20 (by decide) (fun hc => ?_) (fun hc => ?_)
    · replace h := h.1 hc
      refine J_iconst (v := 0) dX12_hours_25 (by decide) ?_
      refine J_istore_n (i := 2) (lv' := [(2, .int (0)), (0, .ref 59), (1, .int a1)]) dX12_hours_26 rfl (by decide) rfl ?_
      refine J_sub [1, 2, 0] rfl ?_
      exact h
    · replace h := h.2 hc
      refine J_iconst (v := (-1)) dX12_hours_23 (by decide) ?_
      exact J_iret rfl dX12_hours_24 h
  · replace h := h.2 g1
    refine J_if_eq 23 dX12_hours_8 (by decide) (fun _ => ?_) (fun hc => absurd hc (by decide))
    refine J_iconst (v := (-1)) dX12_hours_23 (by decide) ?_
    exact J_iret rfl dX12_hours_24 h
theorem M_X12_hours {Γ : GG} {l : Launch} {d : Nat} {Q : Option Value → St → Prop} {σ : St} (a1 : Int32) (k : J Γ l (d + 4) mX12_hours Q 0 [(0, .ref 59), (1, .int a1)] [] σ) : Meth Γ l (d + 4) mX12_hours [.ref 59, .int a1] σ Q := Meth_of_J (by decide +kernel) (fun _ => Nat.le_of_ble_eq_true rfl) (fun _ => rfl) k
set_option maxHeartbeats 4000000 in
set_option maxRecDepth 100000 in
theorem w_X12_hasRow_2 {Γ : GG} {l : Launch} {d : Nat} {Q : Option Value → St → Prop} {σ : St} (a1 : Int32) (a2 : Int32) (a3 : Int32) (h : (rd σ 59 45 ≤ a3 → Q (some (.int (0))) σ) ∧ (¬ rd σ 59 45 ≤ a3 → vp_in a3 600 ∧ (rd σ 92 (a3.toNatClampNeg) = a1 → (rd σ 93 (a3.toNatClampNeg) = a2 → (rd σ 94 (a3.toNatClampNeg) = rd σ 59 1 → Q (some (.int (1))) σ) ∧ (¬ rd σ 94 (a3.toNatClampNeg) = rd σ 59 1 → ∀ x4 : Int32, x4 = a3 + 1 → J Γ l d mX12_hasRow Q 2 [(0, .ref 59), (1, .int a1), (2, .int a2), (3, .int x4)] [] σ)) ∧ (¬ rd σ 93 (a3.toNatClampNeg) = a2 → ∀ x3 : Int32, x3 = a3 + 1 → J Γ l d mX12_hasRow Q 2 [(0, .ref 59), (1, .int a1), (2, .int a2), (3, .int x3)] [] σ)) ∧ (¬ rd σ 92 (a3.toNatClampNeg) = a1 → ∀ x2 : Int32, x2 = a3 + 1 → J Γ l d mX12_hasRow Q 2 [(0, .ref 59), (1, .int a1), (2, .int a2), (3, .int x2)] [] σ))) : J Γ l d mX12_hasRow Q 2 [(0, .ref 59), (1, .int a1), (2, .int a2), (3, .int a3)] [] σ := by
  refine J_iload_n (i := 3) (kk := 3) dX12_hasRow_2 rfl rfl ?_
  refine J_aload_n (i := 0) (kk := 0) dX12_hasRow_3 rfl rfl ?_
  refine J_getI (q := 59) (ci := 12) (kf := 45) kfX12_337 uxX12 rfl (by decide) rfl (by decide) rfl dX12_hasRow_4 ?_
  refine J_icmp_ge 51 dX12_hasRow_7 (by decide) (fun hc => ?_) (fun hc => ?_)
  · replace h := h.1 hc
    refine J_iconst (v := 0) dX12_hasRow_51 (by decide) ?_
    exact J_zret rfl (by decide) dX12_hasRow_52 h
  · replace h := h.2 hc
    refine J_aload_n (i := 0) (kk := 0) dX12_hasRow_10 rfl rfl ?_
    refine J_getR 92 (q := 59) (ci := 12) (kf := 46) kfX12_107 uxX12 rfl (by decide) rfl (by decide) rfl dX12_hasRow_11 ?_
    refine J_iload_n (i := 3) (kk := 3) dX12_hasRow_14 rfl rfl ?_
    have b1 := h.1
    replace h := h.2
    refine J_ald (a3.toNatClampNeg) rfl (by decide) rfl b1 dX12_hasRow_15 ?_
    refine J_iload_n (i := 1) (kk := 1) dX12_hasRow_16 rfl rfl ?_
    refine J_icmp_ne 45 dX12_hasRow_17 (by decide) (fun hc => ?_) (fun hc => ?_)
    · replace h := h.2 hc
      obtain ⟨x2, ex2⟩ : ∃ y : Int32, y = a3 + 1 := ⟨_, rfl⟩
      replace h := h x2 ex2
      refine J_iinc (i := 3) (kk := 3) (v := x2) (lv' := [(3, .int x2), (0, .ref 59), (1, .int a1), (2, .int a2)]) dX12_hasRow_45 rfl (by rw [ex2]; rfl) (by decide) rfl ?_
      refine J_goto (tgt := 2) dX12_hasRow_48 (by decide) ?_
      refine J_sub [1, 2, 3, 0] rfl ?_
      exact h
    · replace h := h.1 hc
      refine J_aload_n (i := 0) (kk := 0) dX12_hasRow_20 rfl rfl ?_
      refine J_getR 93 (q := 59) (ci := 12) (kf := 47) kfX12_110 uxX12 rfl (by decide) rfl (by decide) rfl dX12_hasRow_21 ?_
      refine J_iload_n (i := 3) (kk := 3) dX12_hasRow_24 rfl rfl ?_
      refine J_ald (a3.toNatClampNeg) rfl (by decide) rfl b1 dX12_hasRow_25 ?_
      refine J_iload_n (i := 2) (kk := 2) dX12_hasRow_26 rfl rfl ?_
      refine J_icmp_ne 45 dX12_hasRow_27 (by decide) (fun hc => ?_) (fun hc => ?_)
      · replace h := h.2 hc
        obtain ⟨x3, ex3⟩ : ∃ y : Int32, y = a3 + 1 := ⟨_, rfl⟩
        replace h := h x3 ex3
        refine J_iinc (i := 3) (kk := 3) (v := x3) (lv' := [(3, .int x3), (0, .ref 59), (1, .int a1), (2, .int a2)]) dX12_hasRow_45 rfl (by rw [ex3]; rfl) (by decide) rfl ?_
        refine J_goto (tgt := 2) dX12_hasRow_48 (by decide) ?_
        refine J_sub [1, 2, 3, 0] rfl ?_
        exact h
      · replace h := h.1 hc
        refine J_aload_n (i := 0) (kk := 0) dX12_hasRow_30 rfl rfl ?_
        refine J_getR 94 (q := 59) (ci := 12) (kf := 48) kfX12_113 uxX12 rfl (by decide) rfl (by decide) rfl dX12_hasRow_31 ?_
        refine J_iload_n (i := 3) (kk := 3) dX12_hasRow_34 rfl rfl ?_
        refine J_ald (a3.toNatClampNeg) rfl (by decide) rfl b1 dX12_hasRow_35 ?_
        refine J_aload_n (i := 0) (kk := 0) dX12_hasRow_36 rfl rfl ?_
        refine J_getI (q := 59) (ci := 12) (kf := 1) kfX12_200 uxX12 rfl (by decide) rfl (by decide) rfl dX12_hasRow_37 ?_
        refine J_icmp_ne 45 dX12_hasRow_40 (by decide) (fun hc => ?_) (fun hc => ?_)
        · replace h := h.2 hc
          obtain ⟨x4, ex4⟩ : ∃ y : Int32, y = a3 + 1 := ⟨_, rfl⟩
          replace h := h x4 ex4
          refine J_iinc (i := 3) (kk := 3) (v := x4) (lv' := [(3, .int x4), (0, .ref 59), (1, .int a1), (2, .int a2)]) dX12_hasRow_45 rfl (by rw [ex4]; rfl) (by decide) rfl ?_
          refine J_goto (tgt := 2) dX12_hasRow_48 (by decide) ?_
          refine J_sub [1, 2, 3, 0] rfl ?_
          exact h
        · replace h := h.1 hc
          refine J_iconst (v := 1) dX12_hasRow_43 (by decide) ?_
          exact J_zret rfl (by decide) dX12_hasRow_44 h
set_option maxHeartbeats 4000000 in
set_option maxRecDepth 100000 in
theorem w_X12_hasRow_0 {Γ : GG} {l : Launch} {d : Nat} {Q : Option Value → St → Prop} {σ : St} (a1 : Int32) (a2 : Int32) (h : J Γ l d mX12_hasRow Q 2 [(0, .ref 59), (1, .int a1), (2, .int a2), (3, .int (0))] [] σ) : J Γ l d mX12_hasRow Q 0 [(0, .ref 59), (1, .int a1), (2, .int a2)] [] σ := by
  refine J_iconst (v := 0) dX12_hasRow_0 (by decide) ?_
  refine J_istore_n (i := 3) (lv' := [(3, .int (0)), (0, .ref 59), (1, .int a1), (2, .int a2)]) dX12_hasRow_1 rfl (by decide) rfl ?_
  refine J_sub [1, 2, 3, 0] rfl ?_
  exact h
theorem M_X12_hasRow {Γ : GG} {l : Launch} {d : Nat} {Q : Option Value → St → Prop} {σ : St} (a1 : Int32) (a2 : Int32) (k : J Γ l d mX12_hasRow Q 0 [(0, .ref 59), (1, .int a1), (2, .int a2)] [] σ) : Meth Γ l d mX12_hasRow [.ref 59, .int a1, .int a2] σ Q := Meth_of_J (by decide +kernel) (fun _ => Nat.le_of_ble_eq_true rfl) (fun _ => rfl) k
set_option maxHeartbeats 4000000 in
set_option maxRecDepth 100000 in
theorem w_X12_buy_131 {Γ : GG} {l : Launch} {d : Nat} {Q : Option Value → St → Prop} {σ : St} (a1 : Int32) (a2 : Int32) (a3 : Int32) (a4 : Int32) (h : vp_in (rd σ 59 45) 600 ∧ vp_in (((10 : Int32) * a1) + a2) 120 ∧ vp_in ((rd σ 59 1) / (24 : Int32)) 1500 ∧ vp_in a1 12 ∧ vp_in a2 10 ∧ Q (some (.int (a3 - a4))) (wr (wr (wr (wr (wr (wr (wr (wr (wr σ 92 ((rd σ 59 45).toNatClampNeg) a1) 93 ((rd σ 59 45).toNatClampNeg) a2) 94 ((rd σ 59 45).toNatClampNeg) (rd σ 59 1)) 95 ((rd σ 59 45).toNatClampNeg) (rd σ 69 ((((10 : Int32) * a1) + a2).toNatClampNeg))) 96 ((rd σ 59 45).toNatClampNeg) (rd σ 68 (((rd σ 59 1) / (24 : Int32)).toNatClampNeg))) 97 ((rd σ 59 45).toNatClampNeg) a3) 98 ((rd σ 59 45).toNatClampNeg) (a3 - a4)) 59 45 ((rd σ 59 45) + (1 : Int32))) 62 (a1.toNatClampNeg) ((rd σ 62 (a1.toNatClampNeg)) + ((a3 - a4) * (((rd σ 63 a2.toNatClampNeg) * ((100 : Int32) - (25 : Int32) * (rd σ 69 ((((10 : Int32) * a1) + a2).toNatClampNeg)))) / (100 : Int32)))))) : J Γ l (d + 5) mX12_buy Q 131 [(0, .ref 59), (1, .int a1), (2, .int a2), (3, .int a3), (4, .int a4)] [] σ := by
  refine J_aload_n (i := 0) (kk := 0) dX12_buy_131 rfl rfl ?_
  refine J_getR 92 (q := 59) (ci := 12) (kf := 46) kfX12_107 uxX12 rfl (by decide) rfl (by decide) rfl dX12_buy_132 ?_
  refine J_aload_n (i := 0) (kk := 0) dX12_buy_135 rfl rfl ?_
  refine J_getI (q := 59) (ci := 12) (kf := 45) kfX12_337 uxX12 rfl (by decide) rfl (by decide) rfl dX12_buy_136 ?_
  refine J_iload_n (i := 1) (kk := 1) dX12_buy_139 rfl rfl ?_
  have b1 := h.1
  replace h := h.2
  refine J_ast ((rd σ 59 45).toNatClampNeg) rfl (by decide) rfl b1 dX12_buy_140 ?_
  refine J_aload_n (i := 0) (kk := 0) dX12_buy_141 rfl rfl ?_
  refine J_getR 93 (q := 59) (ci := 12) (kf := 47) kfX12_110 uxX12 rfl (by decide) rfl (by decide) rfl dX12_buy_142 ?_
  refine J_aload_n (i := 0) (kk := 0) dX12_buy_145 rfl rfl ?_
  refine J_getI (q := 59) (ci := 12) (kf := 45) kfX12_337 uxX12 rfl (by decide) rfl (by decide) rfl dX12_buy_146 ?_
  refine J_eqI (y := rd σ 59 45) rfl ?_
  refine J_iload_n (i := 2) (kk := 2) dX12_buy_149 rfl rfl ?_
  refine J_ast ((rd σ 59 45).toNatClampNeg) rfl (by decide) rfl b1 dX12_buy_150 ?_
  refine J_aload_n (i := 0) (kk := 0) dX12_buy_151 rfl rfl ?_
  refine J_getR 94 (q := 59) (ci := 12) (kf := 48) kfX12_113 uxX12 rfl (by decide) rfl (by decide) rfl dX12_buy_152 ?_
  refine J_aload_n (i := 0) (kk := 0) dX12_buy_155 rfl rfl ?_
  refine J_getI (q := 59) (ci := 12) (kf := 45) kfX12_337 uxX12 rfl (by decide) rfl (by decide) rfl dX12_buy_156 ?_
  refine J_eqI (y := rd σ 59 45) rfl ?_
  refine J_aload_n (i := 0) (kk := 0) dX12_buy_159 rfl rfl ?_
  refine J_getI (q := 59) (ci := 12) (kf := 1) kfX12_200 uxX12 rfl (by decide) rfl (by decide) rfl dX12_buy_160 ?_
  refine J_eqI (y := rd σ 59 1) rfl ?_
  refine J_ast ((rd σ 59 45).toNatClampNeg) rfl (by decide) rfl b1 dX12_buy_163 ?_
  refine J_aload_n (i := 0) (kk := 0) dX12_buy_164 rfl rfl ?_
  refine J_getR 95 (q := 59) (ci := 12) (kf := 49) kfX12_116 uxX12 rfl (by decide) rfl (by decide) rfl dX12_buy_165 ?_
  refine J_aload_n (i := 0) (kk := 0) dX12_buy_168 rfl rfl ?_
  refine J_getI (q := 59) (ci := 12) (kf := 45) kfX12_337 uxX12 rfl (by decide) rfl (by decide) rfl dX12_buy_169 ?_
  refine J_eqI (y := rd σ 59 45) rfl ?_
  refine J_aload_n (i := 0) (kk := 0) dX12_buy_172 rfl rfl ?_
  refine J_getR 69 (q := 59) (ci := 12) (kf := 13) kfX12_37 uxX12 rfl (by decide) rfl (by decide) rfl dX12_buy_173 ?_
  refine J_bipush (v := 10) dX12_buy_176 (by decide) ?_
  refine J_iload_n (i := 1) (kk := 1) dX12_buy_178 rfl rfl ?_
  refine J_imul dX12_buy_179 ?_
  refine J_iload_n (i := 2) (kk := 2) dX12_buy_180 rfl rfl ?_
  refine J_iadd dX12_buy_181 ?_
  have b2 := h.1
  replace h := h.2
  refine J_ald ((((10 : Int32) * a1) + a2).toNatClampNeg) rfl (by decide) rfl b2 dX12_buy_182 ?_
  refine J_eqI (y := rd σ 69 ((((10 : Int32) * a1) + a2).toNatClampNeg)) rfl ?_
  refine J_ast ((rd σ 59 45).toNatClampNeg) rfl (by decide) rfl b1 dX12_buy_183 ?_
  refine J_aload_n (i := 0) (kk := 0) dX12_buy_184 rfl rfl ?_
  refine J_getR 96 (q := 59) (ci := 12) (kf := 50) kfX12_119 uxX12 rfl (by decide) rfl (by decide) rfl dX12_buy_185 ?_
  refine J_aload_n (i := 0) (kk := 0) dX12_buy_188 rfl rfl ?_
  refine J_getI (q := 59) (ci := 12) (kf := 45) kfX12_337 uxX12 rfl (by decide) rfl (by decide) rfl dX12_buy_189 ?_
  refine J_eqI (y := rd σ 59 45) rfl ?_
  refine J_aload_n (i := 0) (kk := 0) dX12_buy_192 rfl rfl ?_
  refine J_getR 68 (q := 59) (ci := 12) (kf := 12) kfX12_34 uxX12 rfl (by decide) rfl (by decide) rfl dX12_buy_193 ?_
  refine J_aload_n (i := 0) (kk := 0) dX12_buy_196 rfl rfl ?_
  refine J_callV [] [.ref 68, .int (rd σ 59 45), .ref 96] calX12_today klX12_230 (b := 59) (ci := 12) (by decide) rfl rfl rfl rfl (Nat.le_of_ble_eq_true rfl) dX12_buy_197 (KI.to (S_X12_today) ?_)
  rintro x9 s9 ⟨rfl, rfl⟩
  refine J_eqI (y := (rd σ 59 1) / (24 : Int32)) rfl ?_
  have b3 := h.1
  replace h := h.2
  refine J_ald (((rd σ 59 1) / (24 : Int32)).toNatClampNeg) rfl (by decide) rfl b3 dX12_buy_200 ?_
  refine J_eqI (y := rd σ 68 (((rd σ 59 1) / (24 : Int32)).toNatClampNeg)) rfl ?_
  refine J_ast ((rd σ 59 45).toNatClampNeg) rfl (by decide) rfl b1 dX12_buy_201 ?_
  refine J_aload_n (i := 0) (kk := 0) dX12_buy_202 rfl rfl ?_
  refine J_getR 97 (q := 59) (ci := 12) (kf := 51) kfX12_122 uxX12 rfl (by decide) rfl (by decide) rfl dX12_buy_203 ?_
  refine J_aload_n (i := 0) (kk := 0) dX12_buy_206 rfl rfl ?_
  refine J_getI (q := 59) (ci := 12) (kf := 45) kfX12_337 uxX12 rfl (by decide) rfl (by decide) rfl dX12_buy_207 ?_
  refine J_eqI (y := rd σ 59 45) rfl ?_
  refine J_iload_n (i := 3) (kk := 3) dX12_buy_210 rfl rfl ?_
  refine J_ast ((rd σ 59 45).toNatClampNeg) rfl (by decide) rfl b1 dX12_buy_211 ?_
  refine J_aload_n (i := 0) (kk := 0) dX12_buy_212 rfl rfl ?_
  refine J_getR 98 (q := 59) (ci := 12) (kf := 52) kfX12_125 uxX12 rfl (by decide) rfl (by decide) rfl dX12_buy_213 ?_
  refine J_aload_n (i := 0) (kk := 0) dX12_buy_216 rfl rfl ?_
  refine J_getI (q := 59) (ci := 12) (kf := 45) kfX12_337 uxX12 rfl (by decide) rfl (by decide) rfl dX12_buy_217 ?_
  refine J_eqI (y := rd σ 59 45) rfl ?_
  refine J_iload_n (i := 3) (kk := 3) dX12_buy_220 rfl rfl ?_
  refine J_iload (i := 4) (kk := 4) dX12_buy_221 rfl ?_
  refine J_isub dX12_buy_223 ?_
  refine J_ast ((rd σ 59 45).toNatClampNeg) rfl (by decide) rfl b1 dX12_buy_224 ?_
  refine J_aload_n (i := 0) (kk := 0) dX12_buy_225 rfl rfl ?_
  refine J_dup dX12_buy_226 rfl ?_
  refine J_getI (q := 59) (ci := 12) (kf := 45) kfX12_337 uxX12 rfl (by decide) rfl (by decide) rfl dX12_buy_227 ?_
  refine J_eqI (y := rd σ 59 45) rfl ?_
  refine J_iconst (v := 1) dX12_buy_230 (by decide) ?_
  refine J_iadd dX12_buy_231 ?_
  refine J_putf (q := 59) (ci := 12) (kf := 45) (ty := .int) kfX12_337 uxX12 tyX12_ok nmX12 rfl (by decide) rfl (by decide) rfl rfl rfl rfl rfl dX12_buy_232 ?_
  refine J_aload_n (i := 0) (kk := 0) dX12_buy_235 rfl rfl ?_
  refine J_getR 62 (q := 59) (ci := 12) (kf := 5) kfX12_16 uxX12 rfl (by decide) rfl (by decide) rfl dX12_buy_236 ?_
  refine J_iload_n (i := 1) (kk := 1) dX12_buy_239 rfl rfl ?_
  refine J_dup2_11 dX12_buy_240 rfl rfl ?_
  have b4 := h.1
  replace h := h.2
  refine J_ald (a1.toNatClampNeg) rfl (by decide) rfl b4 dX12_buy_241 ?_
  refine J_eqI (y := rd σ 62 (a1.toNatClampNeg)) rfl ?_
  refine J_iload_n (i := 3) (kk := 3) dX12_buy_242 rfl rfl ?_
  refine J_iload (i := 4) (kk := 4) dX12_buy_243 rfl ?_
  refine J_isub dX12_buy_245 ?_
  refine J_aload_n (i := 0) (kk := 0) dX12_buy_246 rfl rfl ?_
  refine J_iload_n (i := 2) (kk := 2) dX12_buy_247 rfl rfl ?_
  refine J_aload_n (i := 0) (kk := 0) dX12_buy_248 rfl rfl ?_
  refine J_getR 69 (q := 59) (ci := 12) (kf := 13) kfX12_37 uxX12 rfl (by decide) rfl (by decide) rfl dX12_buy_249 ?_
  refine J_bipush (v := 10) dX12_buy_252 (by decide) ?_
  refine J_iload_n (i := 1) (kk := 1) dX12_buy_254 rfl rfl ?_
  refine J_imul dX12_buy_255 ?_
  refine J_iload_n (i := 2) (kk := 2) dX12_buy_256 rfl rfl ?_
  refine J_iadd dX12_buy_257 ?_
  refine J_ald ((((10 : Int32) * a1) + a2).toNatClampNeg) rfl (by decide) rfl b2 dX12_buy_258 ?_
  refine J_eqI (y := rd σ 69 ((((10 : Int32) * a1) + a2).toNatClampNeg)) rfl ?_
  have b5 := h.1
  replace h := h.2
  refine J_callV [.int a2, .int (rd σ 69 ((((10 : Int32) * a1) + a2).toNatClampNeg))] [.int (a3 - a4), .int (rd σ 62 (a1.toNatClampNeg)), .int a1, .ref 62] calX12_priceBy klX12_216 (b := 59) (ci := 12) (by decide) rfl rfl rfl rfl (Nat.le_of_ble_eq_true rfl) dX12_buy_259 (KI.to (S_X12_priceBy a2 (rd σ 69 ((((10 : Int32) * a1) + a2).toNatClampNeg)) b5) ?_)
  rintro x9 s9 ⟨rfl, rfl⟩
  refine J_eqI (y := ((rd σ 63 a2.toNatClampNeg) * ((100 : Int32) - (25 : Int32) * (rd σ 69 ((((10 : Int32) * a1) + a2).toNatClampNeg)))) / (100 : Int32)) rfl ?_
  refine J_imul dX12_buy_262 ?_
  refine J_iadd dX12_buy_263 ?_
  refine J_ast (a1.toNatClampNeg) rfl (by decide) rfl b4 dX12_buy_264 ?_
  refine J_iload_n (i := 3) (kk := 3) dX12_buy_265 rfl rfl ?_
  refine J_iload (i := 4) (kk := 4) dX12_buy_266 rfl ?_
  refine J_isub dX12_buy_268 ?_
  exact J_iret rfl dX12_buy_269 h
set_option maxHeartbeats 4000000 in
set_option maxRecDepth 100000 in
theorem w_X12_buy_66 {Γ : GG} {l : Launch} {d : Nat} {Q : Option Value → St → Prop} {σ : St} (a1 : Int32) (a2 : Int32) (a3 : Int32) (a4 : Int32) (a5 : Int32) (h : (a4 ≤ (0 : Int32) → J Γ l (d + 5) mX12_buy Q 131 [(0, .ref 59), (1, .int a1), (2, .int a2), (3, .int a3), (4, .int a4)] [] σ) ∧ (¬ a4 ≤ (0 : Int32) → (a5 < (0 : Int32) → J Γ l (d + 5) mX12_buy Q 131 [(0, .ref 59), (1, .int a1), (2, .int a2), (3, .int a3), (4, .int a4)] [] σ) ∧ (¬ a5 < (0 : Int32) → vp_in a5 200 ∧ (a4 ≤ ((((rd σ 76 a5.toNatClampNeg) - (rd σ 77 a5.toNatClampNeg)) - (rd σ 78 a5.toNatClampNeg)) - (rd σ 79 a5.toNatClampNeg)) - (rd σ 80 a5.toNatClampNeg) → vp_in a5 200 ∧ Meth Γ l (d + 4) mX12_eldest [.ref 59, .int a1, .int a2, .int (0)] (wr σ 77 (a5.toNatClampNeg) ((rd σ 77 (a5.toNatClampNeg)) + a4)) (KI (fun x4 σ3 => J Γ l (d + 5) mX12_buy Q 66 [(0, .ref 59), (1, .int a1), (2, .int a2), (3, .int a3), (4, .int (a4 - a4)), (5, .int x4)] [] σ3))) ∧ (¬ a4 ≤ ((((rd σ 76 a5.toNatClampNeg) - (rd σ 77 a5.toNatClampNeg)) - (rd σ 78 a5.toNatClampNeg)) - (rd σ 79 a5.toNatClampNeg)) - (rd σ 80 a5.toNatClampNeg) → vp_in a5 200 ∧ ∀ x6 : Int32, x6 = ((((rd σ 76 a5.toNatClampNeg) - (rd σ 77 a5.toNatClampNeg)) - (rd σ 78 a5.toNatClampNeg)) - (rd σ 79 a5.toNatClampNeg)) - (rd σ 80 a5.toNatClampNeg) → vp_in a5 200 ∧ Meth Γ l (d + 4) mX12_eldest [.ref 59, .int a1, .int a2, .int (0)] (wr σ 77 (a5.toNatClampNeg) ((rd σ 77 (a5.toNatClampNeg)) + x6)) (KI (fun x9 σ8 => J Γ l (d + 5) mX12_buy Q 66 [(0, .ref 59), (1, .int a1), (2, .int a2), (3, .int a3), (4, .int (a4 - x6)), (5, .int x9)] [] σ8)))))) : J Γ l (d + 5) mX12_buy Q 66 [(0, .ref 59), (1, .int a1), (2, .int a2), (3, .int a3), (4, .int a4), (5, .int a5)] [] σ := by
  refine J_iload (i := 4) (kk := 4) dX12_buy_66 rfl ?_
  refine J_if_le 131 dX12_buy_68 (by decide) (fun hc => ?_) (fun hc => ?_)
  · replace h := h.1 hc
    refine J_sub [0, 1, 2, 3, 4] rfl ?_
    exact h
  · replace h := h.2 hc
    refine J_iload (i := 5) (kk := 5) dX12_buy_71 rfl ?_
    refine J_if_lt 131 dX12_buy_73 (by decide) (fun hc => ?_) (fun hc => ?_)
    · replace h := h.1 hc
      refine J_sub [0, 1, 2, 3, 4] rfl ?_
      exact h
    · replace h := h.2 hc
      refine J_aload_n (i := 0) (kk := 0) dX12_buy_76 rfl rfl ?_
      refine J_iload (i := 5) (kk := 5) dX12_buy_77 rfl ?_
      have b1 := h.1
      replace h := h.2
      refine J_callV [.int a5] [] calX12_onShelf klX12_245 (b := 59) (ci := 12) (by decide) rfl rfl rfl rfl (Nat.le_of_ble_eq_true rfl) dX12_buy_79 (KI.to (S_X12_onShelf a5 b1) ?_)
      rintro x9 s9 ⟨rfl, rfl⟩
      refine J_iload (i := 4) (kk := 4) dX12_buy_82 rfl ?_
      refine J_icmp_ge 96 dX12_buy_84 (by decide) (fun hc => ?_) (fun hc => ?_)
      · replace h := h.1 hc
        refine J_iload (i := 4) (kk := 4) dX12_buy_96 rfl ?_
        refine J_istore (i := 6) (lv' := [(6, .int a4), (0, .ref 59), (1, .int a1), (2, .int a2), (3, .int a3), (4, .int a4), (5, .int a5)]) dX12_buy_98 (by decide) rfl ?_
        refine J_aload_n (i := 0) (kk := 1) dX12_buy_100 rfl rfl ?_
        refine J_getR 77 (q := 59) (ci := 12) (kf := 23) kfX12_61 uxX12 rfl (by decide) rfl (by decide) rfl dX12_buy_101 ?_
        refine J_iload (i := 5) (kk := 6) dX12_buy_104 rfl ?_
        refine J_dup2_11 dX12_buy_106 rfl rfl ?_
        have b2 := h.1
        replace h := h.2
        refine J_ald (a5.toNatClampNeg) rfl (by decide) rfl b2 dX12_buy_107 ?_
        refine J_iload (i := 6) (kk := 0) dX12_buy_108 rfl ?_
        refine J_iadd dX12_buy_110 ?_
        refine J_ast (a5.toNatClampNeg) rfl (by decide) rfl b2 dX12_buy_111 ?_
        refine J_iload (i := 4) (kk := 5) dX12_buy_112 rfl ?_
        refine J_iload (i := 6) (kk := 0) dX12_buy_114 rfl ?_
        refine J_isub dX12_buy_116 ?_
        refine J_istore (i := 4) (lv' := [(4, .int (a4 - a4)), (6, .int a4), (0, .ref 59), (1, .int a1), (2, .int a2), (3, .int a3), (5, .int a5)]) dX12_buy_117 (by decide) rfl ?_
        refine J_aload_n (i := 0) (kk := 2) dX12_buy_119 rfl rfl ?_
        refine J_iload_n (i := 1) (kk := 3) dX12_buy_120 rfl rfl ?_
        refine J_iload_n (i := 2) (kk := 4) dX12_buy_121 rfl rfl ?_
        refine J_iconst (v := 0) dX12_buy_122 (by decide) ?_
        refine J_callV [.int a1, .int a2, .int (0)] [] calX12_eldest klX12_347 (b := 59) (ci := 12) (by decide) rfl rfl rfl rfl (Nat.le_of_ble_eq_true rfl) dX12_buy_123 (KI.to h ?_)
        clear h
        intro x4 σ3 h
        refine J_istore (i := 5) (lv' := [(5, .int x4), (4, .int (a4 - a4)), (6, .int a4), (0, .ref 59), (1, .int a1), (2, .int a2), (3, .int a3)]) dX12_buy_126 (by decide) rfl ?_
        refine J_goto (tgt := 66) dX12_buy_128 (by decide) ?_
        refine J_sub [3, 4, 5, 6, 1, 0] rfl ?_
        exact h
      · replace h := h.2 hc
        refine J_aload_n (i := 0) (kk := 0) dX12_buy_87 rfl rfl ?_
        refine J_iload (i := 5) (kk := 5) dX12_buy_88 rfl ?_
        have b5 := h.1
        replace h := h.2
        refine J_callV [.int a5] [] calX12_onShelf klX12_245 (b := 59) (ci := 12) (by decide) rfl rfl rfl rfl (Nat.le_of_ble_eq_true rfl) dX12_buy_90 (KI.to (S_X12_onShelf a5 b5) ?_)
        rintro x9 s9 ⟨rfl, rfl⟩
        refine J_goto (tgt := 98) dX12_buy_93 (by decide) ?_
        refine J_nameI (fun x6 ex6 => ?_)
        replace h := h x6 ex6
        refine J_istore (i := 6) (lv' := [(6, .int x6), (0, .ref 59), (1, .int a1), (2, .int a2), (3, .int a3), (4, .int a4), (5, .int a5)]) dX12_buy_98 (by decide) rfl ?_
        refine J_aload_n (i := 0) (kk := 1) dX12_buy_100 rfl rfl ?_
        refine J_getR 77 (q := 59) (ci := 12) (kf := 23) kfX12_61 uxX12 rfl (by decide) rfl (by decide) rfl dX12_buy_101 ?_
        refine J_iload (i := 5) (kk := 6) dX12_buy_104 rfl ?_
        refine J_dup2_11 dX12_buy_106 rfl rfl ?_
        have b7 := h.1
        replace h := h.2
        refine J_ald (a5.toNatClampNeg) rfl (by decide) rfl b7 dX12_buy_107 ?_
        refine J_iload (i := 6) (kk := 0) dX12_buy_108 rfl ?_
        refine J_iadd dX12_buy_110 ?_
        refine J_ast (a5.toNatClampNeg) rfl (by decide) rfl b7 dX12_buy_111 ?_
        refine J_iload (i := 4) (kk := 5) dX12_buy_112 rfl ?_
        refine J_iload (i := 6) (kk := 0) dX12_buy_114 rfl ?_
        refine J_isub dX12_buy_116 ?_
        refine J_istore (i := 4) (lv' := [(4, .int (a4 - x6)), (6, .int x6), (0, .ref 59), (1, .int a1), (2, .int a2), (3, .int a3), (5, .int a5)]) dX12_buy_117 (by decide) rfl ?_
        refine J_aload_n (i := 0) (kk := 2) dX12_buy_119 rfl rfl ?_
        refine J_iload_n (i := 1) (kk := 3) dX12_buy_120 rfl rfl ?_
        refine J_iload_n (i := 2) (kk := 4) dX12_buy_121 rfl rfl ?_
        refine J_iconst (v := 0) dX12_buy_122 (by decide) ?_
        refine J_callV [.int a1, .int a2, .int (0)] [] calX12_eldest klX12_347 (b := 59) (ci := 12) (by decide) rfl rfl rfl rfl (Nat.le_of_ble_eq_true rfl) dX12_buy_123 (KI.to h ?_)
        clear h
        intro x9 σ8 h
        refine J_istore (i := 5) (lv' := [(5, .int x9), (4, .int (a4 - x6)), (6, .int x6), (0, .ref 59), (1, .int a1), (2, .int a2), (3, .int a3)]) dX12_buy_126 (by decide) rfl ?_
        refine J_goto (tgt := 66) dX12_buy_128 (by decide) ?_
        refine J_sub [3, 4, 5, 6, 1, 0] rfl ?_
        exact h
set_option maxHeartbeats 4000000 in
set_option maxRecDepth 100000 in
theorem w_X12_buy_0 {Γ : GG} {l : Launch} {d : Nat} {Q : Option Value → St → Prop} {σ : St} (a1 : Int32) (a2 : Int32) (a3 : Int32) (h : ((0 ≤ a1 ∧ a1 ≤ (rd σ 59 2) - (1 : Int32)) ∧ 0 ≤ a2 ∧ a2 ≤ (rd σ 59 6) - (1 : Int32) → ((0 : Int32) ≤ a3 ∧ a3 ≤ (999 : Int32) → (6 ≤ (rd σ 59 1) - (rd σ 59 1) / (24 : Int32) * (24 : Int32) ∧ (rd σ 59 1) - (rd σ 59 1) / (24 : Int32) * (24 : Int32) ≤ 19 → Meth Γ l (d + 4) mX12_hasRow [.ref 59, .int a1, .int a2] σ (KI (fun x2 σ1 => (x2 = (0 : Int32) → (rd σ1 59 45 = (600 : Int32) → Q (some (.int ((-3)))) σ1) ∧ (¬ rd σ1 59 45 = (600 : Int32) → Meth Γ l (d + 4) mX12_eldest [.ref 59, .int a1, .int a2, .int (0)] σ1 (KI (fun x4 σ3 => J Γ l (d + 5) mX12_buy Q 66 [(0, .ref 59), (1, .int a1), (2, .int a2), (3, .int a3), (4, .int a3), (5, .int x4)] [] σ3)))) ∧ (¬ x2 = (0 : Int32) → Q (some (.int ((-2)))) σ1)))) ∧ (¬ (6 ≤ (rd σ 59 1) - (rd σ 59 1) / (24 : Int32) * (24 : Int32) ∧ (rd σ 59 1) - (rd σ 59 1) / (24 : Int32) * (24 : Int32) ≤ 19) → Q (some (.int ((-2)))) σ)) ∧ (¬ ((0 : Int32) ≤ a3 ∧ a3 ≤ (999 : Int32)) → Q (some (.int ((-1)))) σ)) ∧ (¬ ((0 ≤ a1 ∧ a1 ≤ (rd σ 59 2) - (1 : Int32)) ∧ 0 ≤ a2 ∧ a2 ≤ (rd σ 59 6) - (1 : Int32)) → Q (some (.int ((-1)))) σ)) : J Γ l (d + 5) mX12_buy Q 0 [(0, .ref 59), (1, .int a1), (2, .int a2), (3, .int a3)] [] σ := by
  refine J_aload_n (i := 0) (kk := 0) dX12_buy_0 rfl rfl ?_
  refine J_iload_n (i := 1) (kk := 1) dX12_buy_1 rfl rfl ?_
  refine J_iload_n (i := 2) (kk := 2) dX12_buy_2 rfl rfl ?_
  refine J_callV [.int a1, .int a2] [] calX12_areBoth klX12_223 (b := 59) (ci := 12) (by decide) rfl rfl rfl rfl (Nat.le_of_ble_eq_true rfl) dX12_buy_3 (KI.to (S_X12_areBoth a1 a2) ?_)
  rintro x9 s9 ⟨rfl, ⟨g7, rfl⟩ | ⟨g7, rfl⟩⟩
  · replace h := h.1 g7
    refine J_if_eq 20 dX12_buy_6 (by decide) (fun hc => absurd hc (by decide)) (fun _ => ?_)
    refine J_iload_n (i := 3) (kk := 3) dX12_buy_9 rfl rfl ?_
    refine J_iconst (v := 0) dX12_buy_10 (by decide) ?_
    refine J_sipush (v := 999) dX12_buy_11 (by decide) ?_
    refine J_callS [.int a3, .int (0), .int (999)] [] calX12_in klX12_196 rfl rfl (Nat.le_of_ble_eq_true rfl) dX12_buy_14 (KI.to (S_X12_in a3 (0 : Int32) (999 : Int32)) ?_)
    rintro x9 s9 ⟨rfl, ⟨g6, rfl⟩ | ⟨g6, rfl⟩⟩
    · replace h := h.1 g6
      refine J_if_ne 22 dX12_buy_17 (by decide) (fun _ => ?_) (fun hc => absurd hc (by decide))
      refine J_aload_n (i := 0) (kk := 0) dX12_buy_22 rfl rfl ?_
      refine J_callV [] [] calX12_isOpen klX12_340 (b := 59) (ci := 12) (by decide) rfl rfl rfl rfl (Nat.le_of_ble_eq_true rfl) dX12_buy_23 (KI.to (S_X12_isOpen) ?_)
      rintro x9 s9 ⟨rfl, ⟨g5, rfl⟩ | ⟨g5, rfl⟩⟩
      · replace h := h.1 g5
        refine J_if_eq 38 dX12_buy_26 (by decide) (fun hc => absurd hc (by decide)) (fun _ => ?_)
        refine J_aload_n (i := 0) (kk := 0) dX12_buy_29 rfl rfl ?_
        refine J_iload_n (i := 1) (kk := 1) dX12_buy_30 rfl rfl ?_
        refine J_iload_n (i := 2) (kk := 2) dX12_buy_31 rfl rfl ?_
        refine J_callV [.int a1, .int a2] [] calX12_hasRow klX12_344 (b := 59) (ci := 12) (by decide) rfl rfl rfl rfl (Nat.le_of_ble_eq_true rfl) dX12_buy_32 (KI.to h ?_)
        clear h
        intro x2 σ1 h
        refine J_if_eq 41 dX12_buy_35 (by decide) (fun hc => ?_) (fun hc => ?_)
        · replace h := h.1 hc
          refine J_aload_n (i := 0) (kk := 0) dX12_buy_41 rfl rfl ?_
          refine J_getI (q := 59) (ci := 12) (kf := 45) kfX12_337 uxX12 rfl (by decide) rfl (by decide) rfl dX12_buy_42 ?_
          refine J_sipush (v := 600) dX12_buy_45 (by decide) ?_
          refine J_icmp_ne 54 dX12_buy_48 (by decide) (fun hc => ?_) (fun hc => ?_)
          · replace h := h.2 hc
            refine J_iload_n (i := 3) (kk := 3) dX12_buy_54 rfl rfl ?_
            refine J_istore (i := 4) (lv' := [(4, .int a3), (0, .ref 59), (1, .int a1), (2, .int a2), (3, .int a3)]) dX12_buy_55 (by decide) rfl ?_
            refine J_aload_n (i := 0) (kk := 1) dX12_buy_57 rfl rfl ?_
            refine J_iload_n (i := 1) (kk := 2) dX12_buy_58 rfl rfl ?_
            refine J_iload_n (i := 2) (kk := 3) dX12_buy_59 rfl rfl ?_
            refine J_iconst (v := 0) dX12_buy_60 (by decide) ?_
            refine J_callV [.int a1, .int a2, .int (0)] [] calX12_eldest klX12_347 (b := 59) (ci := 12) (by decide) rfl rfl rfl rfl (Nat.le_of_ble_eq_true rfl) dX12_buy_61 (KI.to h ?_)
            clear h
            intro x4 σ3 h
            refine J_istore (i := 5) (lv' := [(5, .int x4), (4, .int a3), (0, .ref 59), (1, .int a1), (2, .int a2), (3, .int a3)]) dX12_buy_64 (by decide) rfl ?_
            refine J_sub [2, 3, 4, 5, 1, 0] rfl ?_
            exact h
          · replace h := h.1 hc
            refine J_bipush (v := (-3)) dX12_buy_51 (by decide) ?_
            exact J_iret rfl dX12_buy_53 h
        · replace h := h.2 hc
          refine J_bipush (v := (-2)) dX12_buy_38 (by decide) ?_
          exact J_iret rfl dX12_buy_40 h
      · replace h := h.2 g5
        refine J_if_eq 38 dX12_buy_26 (by decide) (fun _ => ?_) (fun hc => absurd hc (by decide))
        refine J_bipush (v := (-2)) dX12_buy_38 (by decide) ?_
        exact J_iret rfl dX12_buy_40 h
    · replace h := h.2 g6
      refine J_if_ne 22 dX12_buy_17 (by decide) (fun hc => absurd hc (by decide)) (fun _ => ?_)
      refine J_iconst (v := (-1)) dX12_buy_20 (by decide) ?_
      exact J_iret rfl dX12_buy_21 h
  · replace h := h.2 g7
    refine J_if_eq 20 dX12_buy_6 (by decide) (fun _ => ?_) (fun hc => absurd hc (by decide))
    refine J_iconst (v := (-1)) dX12_buy_20 (by decide) ?_
    exact J_iret rfl dX12_buy_21 h
theorem M_X12_buy {Γ : GG} {l : Launch} {d : Nat} {Q : Option Value → St → Prop} {σ : St} (a1 : Int32) (a2 : Int32) (a3 : Int32) (k : J Γ l (d + 5) mX12_buy Q 0 [(0, .ref 59), (1, .int a1), (2, .int a2), (3, .int a3)] [] σ) : Meth Γ l (d + 5) mX12_buy [.ref 59, .int a1, .int a2, .int a3] σ Q := Meth_of_J (by decide +kernel) (fun _ => Nat.le_of_ble_eq_true rfl) (fun _ => rfl) k
set_option maxHeartbeats 4000000 in
set_option maxRecDepth 100000 in
theorem w_X12_foretoldFor_99 {Γ : GG} {l : Launch} {d : Nat} {Q : Option Value → St → Prop} {σ : St} (a1 : Int32) (a2 : Int32) (a3 : Int32) (a4 : Int32) (a5 : Int32) (a6 : Int32) (a7 : Int32) (a8 : Int32) (a9 : Int32) (a10 : Int32) (h : (a7 = (0 : Int32) → vp_in a10 600 ∧ (rd σ 96 (a10.toNatClampNeg) = a5 → ∀ x6 : Int32, x6 = a8 + 1 → ∀ x7 : Int32, x7 = a9 + (rd σ 97 (a10.toNatClampNeg)) → ∀ x8 : Int32, x8 = a10 + 1 → J Γ l d mX12_foretoldFor Q 18 [(0, .ref 59), (1, .int a1), (2, .int a2), (3, .int a3), (4, .int a4), (5, .int a5), (6, .int a6), (7, .int a7), (8, .int x6), (9, .int x7), (10, .int x8)] [] σ) ∧ (¬ rd σ 96 (a10.toNatClampNeg) = a5 → ∀ x9 : Int32, x9 = a10 + 1 → J Γ l d mX12_foretoldFor Q 18 [(0, .ref 59), (1, .int a1), (2, .int a2), (3, .int a3), (4, .int a4), (5, .int a5), (6, .int a6), (7, .int a7), (8, .int a8), (9, .int a9), (10, .int x9)] [] σ)) ∧ (¬ a7 = (0 : Int32) → ∀ x1 : Int32, x1 = a8 + 1 → vp_in a10 600 ∧ ∀ x3 : Int32, x3 = a9 + (rd σ 97 (a10.toNatClampNeg)) → ∀ x4 : Int32, x4 = a10 + 1 → J Γ l d mX12_foretoldFor Q 18 [(0, .ref 59), (1, .int a1), (2, .int a2), (3, .int a3), (4, .int a4), (5, .int a5), (6, .int a6), (7, .int a7), (8, .int x1), (9, .int x3), (10, .int x4)] [] σ)) : J Γ l d mX12_foretoldFor Q 99 [(0, .ref 59), (1, .int a1), (2, .int a2), (3, .int a3), (4, .int a4), (5, .int a5), (6, .int a6), (7, .int a7), (8, .int a8), (9, .int a9), (10, .int a10)] [] σ := by
  refine J_iload (i := 7) (kk := 7) dX12_foretoldFor_99 rfl ?_
  refine J_if_ne 119 dX12_foretoldFor_101 (by decide) (fun hc => ?_) (fun hc => ?_)
  · replace h := h.2 hc
    obtain ⟨x1, ex1⟩ : ∃ y : Int32, y = a8 + 1 := ⟨_, rfl⟩
    replace h := h x1 ex1
    refine J_iinc (i := 8) (kk := 8) (v := x1) (lv' := [(8, .int x1), (0, .ref 59), (1, .int a1), (2, .int a2), (3, .int a3), (4, .int a4), (5, .int a5), (6, .int a6), (7, .int a7), (9, .int a9), (10, .int a10)]) dX12_foretoldFor_119 rfl (by rw [ex1]; rfl) (by decide) rfl ?_
    refine J_iload (i := 9) (kk := 9) dX12_foretoldFor_122 rfl ?_
    refine J_aload_n (i := 0) (kk := 1) dX12_foretoldFor_124 rfl rfl ?_
    refine J_getR 97 (q := 59) (ci := 12) (kf := 51) kfX12_122 uxX12 rfl (by decide) rfl (by decide) rfl dX12_foretoldFor_125 ?_
    refine J_iload (i := 10) (kk := 10) dX12_foretoldFor_128 rfl ?_
    have b2 := h.1
    replace h := h.2
    refine J_ald (a10.toNatClampNeg) rfl (by decide) rfl b2 dX12_foretoldFor_130 ?_
    refine J_iadd dX12_foretoldFor_131 ?_
    refine J_nameI (fun x3 ex3 => ?_)
    replace h := h x3 ex3
    refine J_istore (i := 9) (lv' := [(9, .int x3), (8, .int x1), (0, .ref 59), (1, .int a1), (2, .int a2), (3, .int a3), (4, .int a4), (5, .int a5), (6, .int a6), (7, .int a7), (10, .int a10)]) dX12_foretoldFor_132 (by decide) rfl ?_
    obtain ⟨x4, ex4⟩ : ∃ y : Int32, y = a10 + 1 := ⟨_, rfl⟩
    replace h := h x4 ex4
    refine J_iinc (i := 10) (kk := 10) (v := x4) (lv' := [(10, .int x4), (9, .int x3), (8, .int x1), (0, .ref 59), (1, .int a1), (2, .int a2), (3, .int a3), (4, .int a4), (5, .int a5), (6, .int a6), (7, .int a7)]) dX12_foretoldFor_134 rfl (by rw [ex4]; rfl) (by decide) rfl ?_
    refine J_goto (tgt := 18) dX12_foretoldFor_137 (by decide) ?_
    refine J_sub [3, 4, 5, 6, 7, 8, 9, 10, 2, 1, 0] rfl ?_
    exact h
  · replace h := h.1 hc
    refine J_aload_n (i := 0) (kk := 0) dX12_foretoldFor_104 rfl rfl ?_
    refine J_getR 96 (q := 59) (ci := 12) (kf := 50) kfX12_119 uxX12 rfl (by decide) rfl (by decide) rfl dX12_foretoldFor_105 ?_
    refine J_iload (i := 10) (kk := 10) dX12_foretoldFor_108 rfl ?_
    have b5 := h.1
    replace h := h.2
    refine J_ald (a10.toNatClampNeg) rfl (by decide) rfl b5 dX12_foretoldFor_110 ?_
    refine J_iload (i := 5) (kk := 5) dX12_foretoldFor_111 rfl ?_
    refine J_icmp_eq 119 dX12_foretoldFor_113 (by decide) (fun hc => ?_) (fun hc => ?_)
    · replace h := h.1 hc
      obtain ⟨x6, ex6⟩ : ∃ y : Int32, y = a8 + 1 := ⟨_, rfl⟩
      replace h := h x6 ex6
      refine J_iinc (i := 8) (kk := 8) (v := x6) (lv' := [(8, .int x6), (0, .ref 59), (1, .int a1), (2, .int a2), (3, .int a3), (4, .int a4), (5, .int a5), (6, .int a6), (7, .int a7), (9, .int a9), (10, .int a10)]) dX12_foretoldFor_119 rfl (by rw [ex6]; rfl) (by decide) rfl ?_
      refine J_iload (i := 9) (kk := 9) dX12_foretoldFor_122 rfl ?_
      refine J_aload_n (i := 0) (kk := 1) dX12_foretoldFor_124 rfl rfl ?_
      refine J_getR 97 (q := 59) (ci := 12) (kf := 51) kfX12_122 uxX12 rfl (by decide) rfl (by decide) rfl dX12_foretoldFor_125 ?_
      refine J_iload (i := 10) (kk := 10) dX12_foretoldFor_128 rfl ?_
      refine J_ald (a10.toNatClampNeg) rfl (by decide) rfl b5 dX12_foretoldFor_130 ?_
      refine J_iadd dX12_foretoldFor_131 ?_
      refine J_nameI (fun x7 ex7 => ?_)
      replace h := h x7 ex7
      refine J_istore (i := 9) (lv' := [(9, .int x7), (8, .int x6), (0, .ref 59), (1, .int a1), (2, .int a2), (3, .int a3), (4, .int a4), (5, .int a5), (6, .int a6), (7, .int a7), (10, .int a10)]) dX12_foretoldFor_132 (by decide) rfl ?_
      obtain ⟨x8, ex8⟩ : ∃ y : Int32, y = a10 + 1 := ⟨_, rfl⟩
      replace h := h x8 ex8
      refine J_iinc (i := 10) (kk := 10) (v := x8) (lv' := [(10, .int x8), (9, .int x7), (8, .int x6), (0, .ref 59), (1, .int a1), (2, .int a2), (3, .int a3), (4, .int a4), (5, .int a5), (6, .int a6), (7, .int a7)]) dX12_foretoldFor_134 rfl (by rw [ex8]; rfl) (by decide) rfl ?_
      refine J_goto (tgt := 18) dX12_foretoldFor_137 (by decide) ?_
      refine J_sub [3, 4, 5, 6, 7, 8, 9, 10, 2, 1, 0] rfl ?_
      exact h
    · replace h := h.2 hc
      refine J_goto (tgt := 134) dX12_foretoldFor_116 (by decide) ?_
      obtain ⟨x9, ex9⟩ : ∃ y : Int32, y = a10 + 1 := ⟨_, rfl⟩
      replace h := h x9 ex9
      refine J_iinc (i := 10) (kk := 10) (v := x9) (lv' := [(10, .int x9), (0, .ref 59), (1, .int a1), (2, .int a2), (3, .int a3), (4, .int a4), (5, .int a5), (6, .int a6), (7, .int a7), (8, .int a8), (9, .int a9)]) dX12_foretoldFor_134 rfl (by rw [ex9]; rfl) (by decide) rfl ?_
      refine J_goto (tgt := 18) dX12_foretoldFor_137 (by decide) ?_
      refine J_sub [1, 2, 3, 4, 5, 6, 7, 8, 9, 10, 0] rfl ?_
      exact h
set_option maxHeartbeats 4000000 in
set_option maxRecDepth 100000 in
theorem w_X12_foretoldFor_18 {Γ : GG} {l : Launch} {d : Nat} {Q : Option Value → St → Prop} {σ : St} (a1 : Int32) (a2 : Int32) (a3 : Int32) (a4 : Int32) (a5 : Int32) (a6 : Int32) (a7 : Int32) (a8 : Int32) (a9 : Int32) (a10 : Int32) (h : (rd σ 59 45 ≤ a10 → ((3 : Int32) ≤ a8 → ¬ (2 : Int32) * a8 = 0 ∧ Q (some (.int ((((2 : Int32) * a9) + a8) / ((2 : Int32) * a8)))) σ) ∧ (¬ (3 : Int32) ≤ a8 → (a7 = (2 : Int32) → (a8 ≤ (0 : Int32) → ∀ x2 : Int32, x2 = a7 + 1 → J Γ l d mX12_foretoldFor Q 3 [(0, .ref 59), (1, .int a1), (2, .int a2), (3, .int a3), (4, .int a4), (5, .int a5), (6, .int a6), (7, .int x2)] [] σ) ∧ (¬ a8 ≤ (0 : Int32) → ¬ (2 : Int32) * a8 = 0 ∧ Q (some (.int ((((2 : Int32) * a9) + a8) / ((2 : Int32) * a8)))) σ)) ∧ (¬ a7 = (2 : Int32) → ∀ x1 : Int32, x1 = a7 + 1 → J Γ l d mX12_foretoldFor Q 3 [(0, .ref 59), (1, .int a1), (2, .int a2), (3, .int a3), (4, .int a4), (5, .int a5), (6, .int a6), (7, .int x1)] [] σ))) ∧ (¬ rd σ 59 45 ≤ a10 → vp_in a10 600 ∧ (rd σ 93 (a10.toNatClampNeg) = a2 → ((rd σ 94 (a10.toNatClampNeg)) - (rd σ 94 (a10.toNatClampNeg)) / (24 : Int32) * (24 : Int32) = a3 → (rd σ 95 (a10.toNatClampNeg) = a4 → ((rd σ 94 (a10.toNatClampNeg)) / (24 : Int32) ≤ a6 → ((2 : Int32) ≤ a7 → J Γ l d mX12_foretoldFor Q 99 [(0, .ref 59), (1, .int a1), (2, .int a2), (3, .int a3), (4, .int a4), (5, .int a5), (6, .int a6), (7, .int a7), (8, .int a8), (9, .int a9), (10, .int a10)] [] σ) ∧ (¬ (2 : Int32) ≤ a7 → (rd σ 92 (a10.toNatClampNeg) = a1 → J Γ l d mX12_foretoldFor Q 99 [(0, .ref 59), (1, .int a1), (2, .int a2), (3, .int a3), (4, .int a4), (5, .int a5), (6, .int a6), (7, .int a7), (8, .int a8), (9, .int a9), (10, .int a10)] [] σ) ∧ (¬ rd σ 92 (a10.toNatClampNeg) = a1 → ∀ x7 : Int32, x7 = a10 + 1 → J Γ l d mX12_foretoldFor Q 18 [(0, .ref 59), (1, .int a1), (2, .int a2), (3, .int a3), (4, .int a4), (5, .int a5), (6, .int a6), (7, .int a7), (8, .int a8), (9, .int a9), (10, .int x7)] [] σ))) ∧ (¬ (rd σ 94 (a10.toNatClampNeg)) / (24 : Int32) ≤ a6 → ∀ x8 : Int32, x8 = a10 + 1 → J Γ l d mX12_foretoldFor Q 18 [(0, .ref 59), (1, .int a1), (2, .int a2), (3, .int a3), (4, .int a4), (5, .int a5), (6, .int a6), (7, .int a7), (8, .int a8), (9, .int a9), (10, .int x8)] [] σ)) ∧ (¬ rd σ 95 (a10.toNatClampNeg) = a4 → ∀ x6 : Int32, x6 = a10 + 1 → J Γ l d mX12_foretoldFor Q 18 [(0, .ref 59), (1, .int a1), (2, .int a2), (3, .int a3), (4, .int a4), (5, .int a5), (6, .int a6), (7, .int a7), (8, .int a8), (9, .int a9), (10, .int x6)] [] σ)) ∧ (¬ (rd σ 94 (a10.toNatClampNeg)) - (rd σ 94 (a10.toNatClampNeg)) / (24 : Int32) * (24 : Int32) = a3 → ∀ x5 : Int32, x5 = a10 + 1 → J Γ l d mX12_foretoldFor Q 18 [(0, .ref 59), (1, .int a1), (2, .int a2), (3, .int a3), (4, .int a4), (5, .int a5), (6, .int a6), (7, .int a7), (8, .int a8), (9, .int a9), (10, .int x5)] [] σ)) ∧ (¬ rd σ 93 (a10.toNatClampNeg) = a2 → ∀ x4 : Int32, x4 = a10 + 1 → J Γ l d mX12_foretoldFor Q 18 [(0, .ref 59), (1, .int a1), (2, .int a2), (3, .int a3), (4, .int a4), (5, .int a5), (6, .int a6), (7, .int a7), (8, .int a8), (9, .int a9), (10, .int x4)] [] σ))) : J Γ l d mX12_foretoldFor Q 18 [(0, .ref 59), (1, .int a1), (2, .int a2), (3, .int a3), (4, .int a4), (5, .int a5), (6, .int a6), (7, .int a7), (8, .int a8), (9, .int a9), (10, .int a10)] [] σ := by
  refine J_iload (i := 10) (kk := 10) dX12_foretoldFor_18 rfl ?_
  refine J_aload_n (i := 0) (kk := 0) dX12_foretoldFor_20 rfl rfl ?_
  refine J_getI (q := 59) (ci := 12) (kf := 45) kfX12_337 uxX12 rfl (by decide) rfl (by decide) rfl dX12_foretoldFor_21 ?_
  refine J_icmp_ge 140 dX12_foretoldFor_24 (by decide) (fun hc => ?_) (fun hc => ?_)
  · replace h := h.1 hc
    refine J_iload (i := 8) (kk := 8) dX12_foretoldFor_140 rfl ?_
    refine J_iconst (v := 3) dX12_foretoldFor_142 (by decide) ?_
    refine J_icmp_ge 157 dX12_foretoldFor_143 (by decide) (fun hc => ?_) (fun hc => ?_)
    · replace h := h.1 hc
      refine J_iconst (v := 2) dX12_foretoldFor_157 (by decide) ?_
      refine J_iload (i := 9) (kk := 9) dX12_foretoldFor_158 rfl ?_
      refine J_imul dX12_foretoldFor_160 ?_
      refine J_iload (i := 8) (kk := 8) dX12_foretoldFor_161 rfl ?_
      refine J_iadd dX12_foretoldFor_163 ?_
      refine J_iconst (v := 2) dX12_foretoldFor_164 (by decide) ?_
      refine J_iload (i := 8) (kk := 8) dX12_foretoldFor_165 rfl ?_
      refine J_imul dX12_foretoldFor_167 ?_
      have hz := h.1
      replace h := h.2
      refine J_idiv dX12_foretoldFor_168 hz ?_
      exact J_iret rfl dX12_foretoldFor_169 h
    · replace h := h.2 hc
      refine J_iload (i := 7) (kk := 7) dX12_foretoldFor_146 rfl ?_
      refine J_iconst (v := 2) dX12_foretoldFor_148 (by decide) ?_
      refine J_icmp_ne 170 dX12_foretoldFor_149 (by decide) (fun hc => ?_) (fun hc => ?_)
      · replace h := h.2 hc
        obtain ⟨x1, ex1⟩ : ∃ y : Int32, y = a7 + 1 := ⟨_, rfl⟩
        replace h := h x1 ex1
        refine J_iinc (i := 7) (kk := 7) (v := x1) (lv' := [(7, .int x1), (0, .ref 59), (1, .int a1), (2, .int a2), (3, .int a3), (4, .int a4), (5, .int a5), (6, .int a6), (8, .int a8), (9, .int a9), (10, .int a10)]) dX12_foretoldFor_170 rfl (by rw [ex1]; rfl) (by decide) rfl ?_
        refine J_goto (tgt := 3) dX12_foretoldFor_173 (by decide) ?_
        refine J_sub [1, 2, 3, 4, 5, 6, 7, 0] rfl ?_
        exact h
      · replace h := h.1 hc
        refine J_iload (i := 8) (kk := 8) dX12_foretoldFor_152 rfl ?_
        refine J_if_le 170 dX12_foretoldFor_154 (by decide) (fun hc => ?_) (fun hc => ?_)
        · replace h := h.1 hc
          obtain ⟨x2, ex2⟩ : ∃ y : Int32, y = a7 + 1 := ⟨_, rfl⟩
          replace h := h x2 ex2
          refine J_iinc (i := 7) (kk := 7) (v := x2) (lv' := [(7, .int x2), (0, .ref 59), (1, .int a1), (2, .int a2), (3, .int a3), (4, .int a4), (5, .int a5), (6, .int a6), (8, .int a8), (9, .int a9), (10, .int a10)]) dX12_foretoldFor_170 rfl (by rw [ex2]; rfl) (by decide) rfl ?_
          refine J_goto (tgt := 3) dX12_foretoldFor_173 (by decide) ?_
          refine J_sub [1, 2, 3, 4, 5, 6, 7, 0] rfl ?_
          exact h
        · replace h := h.2 hc
          refine J_iconst (v := 2) dX12_foretoldFor_157 (by decide) ?_
          refine J_iload (i := 9) (kk := 9) dX12_foretoldFor_158 rfl ?_
          refine J_imul dX12_foretoldFor_160 ?_
          refine J_iload (i := 8) (kk := 8) dX12_foretoldFor_161 rfl ?_
          refine J_iadd dX12_foretoldFor_163 ?_
          refine J_iconst (v := 2) dX12_foretoldFor_164 (by decide) ?_
          refine J_iload (i := 8) (kk := 8) dX12_foretoldFor_165 rfl ?_
          refine J_imul dX12_foretoldFor_167 ?_
          have hz := h.1
          replace h := h.2
          refine J_idiv dX12_foretoldFor_168 hz ?_
          exact J_iret rfl dX12_foretoldFor_169 h
  · replace h := h.2 hc
    refine J_aload_n (i := 0) (kk := 0) dX12_foretoldFor_27 rfl rfl ?_
    refine J_getR 93 (q := 59) (ci := 12) (kf := 47) kfX12_110 uxX12 rfl (by decide) rfl (by decide) rfl dX12_foretoldFor_28 ?_
    refine J_iload (i := 10) (kk := 10) dX12_foretoldFor_31 rfl ?_
    have b3 := h.1
    replace h := h.2
    refine J_ald (a10.toNatClampNeg) rfl (by decide) rfl b3 dX12_foretoldFor_33 ?_
    refine J_iload_n (i := 2) (kk := 2) dX12_foretoldFor_34 rfl rfl ?_
    refine J_icmp_ne 134 dX12_foretoldFor_35 (by decide) (fun hc => ?_) (fun hc => ?_)
    · replace h := h.2 hc
      obtain ⟨x4, ex4⟩ : ∃ y : Int32, y = a10 + 1 := ⟨_, rfl⟩
      replace h := h x4 ex4
      refine J_iinc (i := 10) (kk := 10) (v := x4) (lv' := [(10, .int x4), (0, .ref 59), (1, .int a1), (2, .int a2), (3, .int a3), (4, .int a4), (5, .int a5), (6, .int a6), (7, .int a7), (8, .int a8), (9, .int a9)]) dX12_foretoldFor_134 rfl (by rw [ex4]; rfl) (by decide) rfl ?_
      refine J_goto (tgt := 18) dX12_foretoldFor_137 (by decide) ?_
      refine J_sub [1, 2, 3, 4, 5, 6, 7, 8, 9, 10, 0] rfl ?_
      exact h
    · replace h := h.1 hc
      refine J_aload_n (i := 0) (kk := 0) dX12_foretoldFor_38 rfl rfl ?_
      refine J_getR 94 (q := 59) (ci := 12) (kf := 48) kfX12_113 uxX12 rfl (by decide) rfl (by decide) rfl dX12_foretoldFor_39 ?_
      refine J_iload (i := 10) (kk := 10) dX12_foretoldFor_42 rfl ?_
      refine J_ald (a10.toNatClampNeg) rfl (by decide) rfl b3 dX12_foretoldFor_44 ?_
      refine J_bipush (v := 24) dX12_foretoldFor_45 (by decide) ?_
      refine J_irem dX12_foretoldFor_47 (by decide) ?_
      refine J_iload_n (i := 3) (kk := 3) dX12_foretoldFor_48 rfl rfl ?_
      refine J_icmp_ne 134 dX12_foretoldFor_49 (by decide) (fun hc => ?_) (fun hc => ?_)
      · replace h := h.2 hc
        obtain ⟨x5, ex5⟩ : ∃ y : Int32, y = a10 + 1 := ⟨_, rfl⟩
        replace h := h x5 ex5
        refine J_iinc (i := 10) (kk := 10) (v := x5) (lv' := [(10, .int x5), (0, .ref 59), (1, .int a1), (2, .int a2), (3, .int a3), (4, .int a4), (5, .int a5), (6, .int a6), (7, .int a7), (8, .int a8), (9, .int a9)]) dX12_foretoldFor_134 rfl (by rw [ex5]; rfl) (by decide) rfl ?_
        refine J_goto (tgt := 18) dX12_foretoldFor_137 (by decide) ?_
        refine J_sub [1, 2, 3, 4, 5, 6, 7, 8, 9, 10, 0] rfl ?_
        exact h
      · replace h := h.1 hc
        refine J_aload_n (i := 0) (kk := 0) dX12_foretoldFor_52 rfl rfl ?_
        refine J_getR 95 (q := 59) (ci := 12) (kf := 49) kfX12_116 uxX12 rfl (by decide) rfl (by decide) rfl dX12_foretoldFor_53 ?_
        refine J_iload (i := 10) (kk := 10) dX12_foretoldFor_56 rfl ?_
        refine J_ald (a10.toNatClampNeg) rfl (by decide) rfl b3 dX12_foretoldFor_58 ?_
        refine J_iload (i := 4) (kk := 4) dX12_foretoldFor_59 rfl ?_
        refine J_icmp_ne 134 dX12_foretoldFor_61 (by decide) (fun hc => ?_) (fun hc => ?_)
        · replace h := h.2 hc
          obtain ⟨x6, ex6⟩ : ∃ y : Int32, y = a10 + 1 := ⟨_, rfl⟩
          replace h := h x6 ex6
          refine J_iinc (i := 10) (kk := 10) (v := x6) (lv' := [(10, .int x6), (0, .ref 59), (1, .int a1), (2, .int a2), (3, .int a3), (4, .int a4), (5, .int a5), (6, .int a6), (7, .int a7), (8, .int a8), (9, .int a9)]) dX12_foretoldFor_134 rfl (by rw [ex6]; rfl) (by decide) rfl ?_
          refine J_goto (tgt := 18) dX12_foretoldFor_137 (by decide) ?_
          refine J_sub [1, 2, 3, 4, 5, 6, 7, 8, 9, 10, 0] rfl ?_
          exact h
        · replace h := h.1 hc
          refine J_aload_n (i := 0) (kk := 0) dX12_foretoldFor_64 rfl rfl ?_
          refine J_getR 94 (q := 59) (ci := 12) (kf := 48) kfX12_113 uxX12 rfl (by decide) rfl (by decide) rfl dX12_foretoldFor_65 ?_
          refine J_iload (i := 10) (kk := 10) dX12_foretoldFor_68 rfl ?_
          refine J_ald (a10.toNatClampNeg) rfl (by decide) rfl b3 dX12_foretoldFor_70 ?_
          refine J_bipush (v := 24) dX12_foretoldFor_71 (by decide) ?_
          refine J_idiv dX12_foretoldFor_73 (by decide) ?_
          refine J_iload (i := 6) (kk := 6) dX12_foretoldFor_74 rfl ?_
          refine J_icmp_le 82 dX12_foretoldFor_76 (by decide) (fun hc => ?_) (fun hc => ?_)
          · replace h := h.1 hc
            refine J_iload (i := 7) (kk := 7) dX12_foretoldFor_82 rfl ?_
            refine J_iconst (v := 2) dX12_foretoldFor_84 (by decide) ?_
            refine J_icmp_ge 99 dX12_foretoldFor_85 (by decide) (fun hc => ?_) (fun hc => ?_)
            · replace h := h.1 hc
              refine J_sub [0, 1, 2, 3, 4, 5, 6, 7, 8, 9, 10] rfl ?_
              exact h
            · replace h := h.2 hc
              refine J_aload_n (i := 0) (kk := 0) dX12_foretoldFor_88 rfl rfl ?_
              refine J_getR 92 (q := 59) (ci := 12) (kf := 46) kfX12_107 uxX12 rfl (by decide) rfl (by decide) rfl dX12_foretoldFor_89 ?_
              refine J_iload (i := 10) (kk := 10) dX12_foretoldFor_92 rfl ?_
              refine J_ald (a10.toNatClampNeg) rfl (by decide) rfl b3 dX12_foretoldFor_94 ?_
              refine J_iload_n (i := 1) (kk := 1) dX12_foretoldFor_95 rfl rfl ?_
              refine J_icmp_ne 134 dX12_foretoldFor_96 (by decide) (fun hc => ?_) (fun hc => ?_)
              · replace h := h.2 hc
                obtain ⟨x7, ex7⟩ : ∃ y : Int32, y = a10 + 1 := ⟨_, rfl⟩
                replace h := h x7 ex7
                refine J_iinc (i := 10) (kk := 10) (v := x7) (lv' := [(10, .int x7), (0, .ref 59), (1, .int a1), (2, .int a2), (3, .int a3), (4, .int a4), (5, .int a5), (6, .int a6), (7, .int a7), (8, .int a8), (9, .int a9)]) dX12_foretoldFor_134 rfl (by rw [ex7]; rfl) (by decide) rfl ?_
                refine J_goto (tgt := 18) dX12_foretoldFor_137 (by decide) ?_
                refine J_sub [1, 2, 3, 4, 5, 6, 7, 8, 9, 10, 0] rfl ?_
                exact h
              · replace h := h.1 hc
                refine J_sub [0, 1, 2, 3, 4, 5, 6, 7, 8, 9, 10] rfl ?_
                exact h
          · replace h := h.2 hc
            refine J_goto (tgt := 134) dX12_foretoldFor_79 (by decide) ?_
            obtain ⟨x8, ex8⟩ : ∃ y : Int32, y = a10 + 1 := ⟨_, rfl⟩
            replace h := h x8 ex8
            refine J_iinc (i := 10) (kk := 10) (v := x8) (lv' := [(10, .int x8), (0, .ref 59), (1, .int a1), (2, .int a2), (3, .int a3), (4, .int a4), (5, .int a5), (6, .int a6), (7, .int a7), (8, .int a8), (9, .int a9)]) dX12_foretoldFor_134 rfl (by rw [ex8]; rfl) (by decide) rfl ?_
            refine J_goto (tgt := 18) dX12_foretoldFor_137 (by decide) ?_
            refine J_sub [1, 2, 3, 4, 5, 6, 7, 8, 9, 10, 0] rfl ?_
            exact h
set_option maxHeartbeats 4000000 in
set_option maxRecDepth 100000 in
theorem w_X12_foretoldFor_3 {Γ : GG} {l : Launch} {d : Nat} {Q : Option Value → St → Prop} {σ : St} (a1 : Int32) (a2 : Int32) (a3 : Int32) (a4 : Int32) (a5 : Int32) (a6 : Int32) (a7 : Int32) (h : ((3 : Int32) ≤ a7 → Q (some (.int (0))) σ) ∧ (¬ (3 : Int32) ≤ a7 → J Γ l d mX12_foretoldFor Q 18 [(0, .ref 59), (1, .int a1), (2, .int a2), (3, .int a3), (4, .int a4), (5, .int a5), (6, .int a6), (7, .int a7), (8, .int (0)), (9, .int (0)), (10, .int (0))] [] σ)) : J Γ l d mX12_foretoldFor Q 3 [(0, .ref 59), (1, .int a1), (2, .int a2), (3, .int a3), (4, .int a4), (5, .int a5), (6, .int a6), (7, .int a7)] [] σ := by
  refine J_iload (i := 7) (kk := 7) dX12_foretoldFor_3 rfl ?_
  refine J_iconst (v := 3) dX12_foretoldFor_5 (by decide) ?_
  refine J_icmp_ge 176 dX12_foretoldFor_6 (by decide) (fun hc => ?_) (fun hc => ?_)
  · replace h := h.1 hc
    refine J_iconst (v := 0) dX12_foretoldFor_176 (by decide) ?_
    exact J_iret rfl dX12_foretoldFor_177 h
  · replace h := h.2 hc
    refine J_iconst (v := 0) dX12_foretoldFor_9 (by decide) ?_
    refine J_istore (i := 8) (lv' := [(8, .int (0)), (0, .ref 59), (1, .int a1), (2, .int a2), (3, .int a3), (4, .int a4), (5, .int a5), (6, .int a6), (7, .int a7)]) dX12_foretoldFor_10 (by decide) rfl ?_
    refine J_iconst (v := 0) dX12_foretoldFor_12 (by decide) ?_
    refine J_istore (i := 9) (lv' := [(9, .int (0)), (8, .int (0)), (0, .ref 59), (1, .int a1), (2, .int a2), (3, .int a3), (4, .int a4), (5, .int a5), (6, .int a6), (7, .int a7)]) dX12_foretoldFor_13 (by decide) rfl ?_
    refine J_iconst (v := 0) dX12_foretoldFor_15 (by decide) ?_
    refine J_istore (i := 10) (lv' := [(10, .int (0)), (9, .int (0)), (8, .int (0)), (0, .ref 59), (1, .int a1), (2, .int a2), (3, .int a3), (4, .int a4), (5, .int a5), (6, .int a6), (7, .int a7)]) dX12_foretoldFor_16 (by decide) rfl ?_
    refine J_sub [3, 4, 5, 6, 7, 8, 9, 10, 2, 1, 0] rfl ?_
    exact h
set_option maxHeartbeats 4000000 in
set_option maxRecDepth 100000 in
theorem w_X12_foretoldFor_0 {Γ : GG} {l : Launch} {d : Nat} {Q : Option Value → St → Prop} {σ : St} (a1 : Int32) (a2 : Int32) (a3 : Int32) (a4 : Int32) (a5 : Int32) (a6 : Int32) (h : J Γ l d mX12_foretoldFor Q 3 [(0, .ref 59), (1, .int a1), (2, .int a2), (3, .int a3), (4, .int a4), (5, .int a5), (6, .int a6), (7, .int (0))] [] σ) : J Γ l d mX12_foretoldFor Q 0 [(0, .ref 59), (1, .int a1), (2, .int a2), (3, .int a3), (4, .int a4), (5, .int a5), (6, .int a6)] [] σ := by
  refine J_iconst (v := 0) dX12_foretoldFor_0 (by decide) ?_
  refine J_istore (i := 7) (lv' := [(7, .int (0)), (0, .ref 59), (1, .int a1), (2, .int a2), (3, .int a3), (4, .int a4), (5, .int a5), (6, .int a6)]) dX12_foretoldFor_1 (by decide) rfl ?_
  refine J_sub [1, 2, 3, 4, 5, 6, 7, 0] rfl ?_
  exact h
theorem M_X12_foretoldFor {Γ : GG} {l : Launch} {d : Nat} {Q : Option Value → St → Prop} {σ : St} (a1 : Int32) (a2 : Int32) (a3 : Int32) (a4 : Int32) (a5 : Int32) (a6 : Int32) (k : J Γ l d mX12_foretoldFor Q 0 [(0, .ref 59), (1, .int a1), (2, .int a2), (3, .int a3), (4, .int a4), (5, .int a5), (6, .int a6)] [] σ) : Meth Γ l d mX12_foretoldFor [.ref 59, .int a1, .int a2, .int a3, .int a4, .int a5, .int a6] σ Q := Meth_of_J (by decide +kernel) (fun _ => Nat.le_of_ble_eq_true rfl) (fun _ => rfl) k
set_option maxHeartbeats 4000000 in
set_option maxRecDepth 100000 in
theorem w_X12_foretold_0 {Γ : GG} {l : Launch} {d : Nat} {Q : Option Value → St → Prop} {σ : St} (a1 : Int32) (a2 : Int32) (a3 : Int32) (a4 : Int32) (h : ((0 ≤ a1 ∧ a1 ≤ (rd σ 59 2) - (1 : Int32)) ∧ 0 ≤ a2 ∧ a2 ≤ (rd σ 59 6) - (1 : Int32) → ((600 : Int32) ≤ a3 ∧ a3 ≤ (1932 : Int32) → ((3 : Int32) < (a3 / (10 : Int32)) - (a3 / (10 : Int32)) / (10 : Int32) * (10 : Int32) → Q (some (.int ((-1)))) σ) ∧ (¬ (3 : Int32) < (a3 / (10 : Int32)) - (a3 / (10 : Int32)) / (10 : Int32) * (10 : Int32) → ((2 : Int32) < a3 - a3 / (10 : Int32) * (10 : Int32) → Q (some (.int ((-1)))) σ) ∧ (¬ (2 : Int32) < a3 - a3 / (10 : Int32) * (10 : Int32) → (0 ≤ a4 ∧ a4 ≤ 1499 → Meth Γ l (d + 2) mX12_foretoldFor [.ref 59, .int a1, .int a2, .int (a3 / (100 : Int32)), .int ((a3 / (10 : Int32)) - (a3 / (10 : Int32)) / (10 : Int32) * (10 : Int32)), .int (a3 - a3 / (10 : Int32) * (10 : Int32)), .int a4] σ (KI (fun x2 σ1 => Q (some (.int x2)) σ1))) ∧ (¬ (0 ≤ a4 ∧ a4 ≤ 1499) → Q (some (.int ((-1)))) σ)))) ∧ (¬ ((600 : Int32) ≤ a3 ∧ a3 ≤ (1932 : Int32)) → Q (some (.int ((-1)))) σ)) ∧ (¬ ((0 ≤ a1 ∧ a1 ≤ (rd σ 59 2) - (1 : Int32)) ∧ 0 ≤ a2 ∧ a2 ≤ (rd σ 59 6) - (1 : Int32)) → Q (some (.int ((-1)))) σ)) : J Γ l (d + 3) mX12_foretold Q 0 [(0, .ref 59), (1, .int a1), (2, .int a2), (3, .int a3), (4, .int a4)] [] σ := by
  refine J_aload_n (i := 0) (kk := 0) dX12_foretold_0 rfl rfl ?_
  refine J_iload_n (i := 1) (kk := 1) dX12_foretold_1 rfl rfl ?_
  refine J_iload_n (i := 2) (kk := 2) dX12_foretold_2 rfl rfl ?_
  refine J_callV [.int a1, .int a2] [] calX12_areBoth klX12_223 (b := 59) (ci := 12) (by decide) rfl rfl rfl rfl (Nat.le_of_ble_eq_true rfl) dX12_foretold_3 (KI.to (S_X12_areBoth a1 a2) ?_)
  rintro x9 s9 ⟨rfl, ⟨g5, rfl⟩ | ⟨g5, rfl⟩⟩
  · replace h := h.1 g5
    refine J_if_eq 49 dX12_foretold_6 (by decide) (fun hc => absurd hc (by decide)) (fun _ => ?_)
    refine J_iload_n (i := 3) (kk := 3) dX12_foretold_9 rfl rfl ?_
    refine J_sipush (v := 600) dX12_foretold_10 (by decide) ?_
    refine J_sipush (v := 1932) dX12_foretold_13 (by decide) ?_
    refine J_callS [.int a3, .int (600), .int (1932)] [] calX12_in klX12_196 rfl rfl (Nat.le_of_ble_eq_true rfl) dX12_foretold_16 (KI.to (S_X12_in a3 (600 : Int32) (1932 : Int32)) ?_)
    rintro x9 s9 ⟨rfl, ⟨g4, rfl⟩ | ⟨g4, rfl⟩⟩
    · replace h := h.1 g4
      refine J_if_eq 49 dX12_foretold_19 (by decide) (fun hc => absurd hc (by decide)) (fun _ => ?_)
      refine J_iload_n (i := 3) (kk := 3) dX12_foretold_22 rfl rfl ?_
      refine J_bipush (v := 10) dX12_foretold_23 (by decide) ?_
      refine J_idiv dX12_foretold_25 (by decide) ?_
      refine J_bipush (v := 10) dX12_foretold_26 (by decide) ?_
      refine J_irem dX12_foretold_28 (by decide) ?_
      refine J_iconst (v := 3) dX12_foretold_29 (by decide) ?_
      refine J_icmp_gt 49 dX12_foretold_30 (by decide) (fun hc => ?_) (fun hc => ?_)
      · replace h := h.1 hc
        refine J_iconst (v := (-1)) dX12_foretold_49 (by decide) ?_
        exact J_iret rfl dX12_foretold_50 h
      · replace h := h.2 hc
        refine J_iload_n (i := 3) (kk := 3) dX12_foretold_33 rfl rfl ?_
        refine J_bipush (v := 10) dX12_foretold_34 (by decide) ?_
        refine J_irem dX12_foretold_36 (by decide) ?_
        refine J_iconst (v := 2) dX12_foretold_37 (by decide) ?_
        refine J_icmp_gt 49 dX12_foretold_38 (by decide) (fun hc => ?_) (fun hc => ?_)
        · replace h := h.1 hc
          refine J_iconst (v := (-1)) dX12_foretold_49 (by decide) ?_
          exact J_iret rfl dX12_foretold_50 h
        · replace h := h.2 hc
          refine J_iload (i := 4) (kk := 4) dX12_foretold_41 rfl ?_
          refine J_callS [.int a4] [] calX12_isDay klX12_220 rfl rfl (Nat.le_of_ble_eq_true rfl) dX12_foretold_43 (KI.to (S_X12_isDay a4) ?_)
          rintro x9 s9 ⟨rfl, ⟨g3, rfl⟩ | ⟨g3, rfl⟩⟩
          · replace h := h.1 g3
            refine J_if_ne 51 dX12_foretold_46 (by decide) (fun _ => ?_) (fun hc => absurd hc (by decide))
            refine J_aload_n (i := 0) (kk := 0) dX12_foretold_51 rfl rfl ?_
            refine J_iload_n (i := 1) (kk := 1) dX12_foretold_52 rfl rfl ?_
            refine J_iload_n (i := 2) (kk := 2) dX12_foretold_53 rfl rfl ?_
            refine J_iload_n (i := 3) (kk := 3) dX12_foretold_54 rfl rfl ?_
            refine J_bipush (v := 100) dX12_foretold_55 (by decide) ?_
            refine J_idiv dX12_foretold_57 (by decide) ?_
            refine J_iload_n (i := 3) (kk := 3) dX12_foretold_58 rfl rfl ?_
            refine J_bipush (v := 10) dX12_foretold_59 (by decide) ?_
            refine J_idiv dX12_foretold_61 (by decide) ?_
            refine J_bipush (v := 10) dX12_foretold_62 (by decide) ?_
            refine J_irem dX12_foretold_64 (by decide) ?_
            refine J_iload_n (i := 3) (kk := 3) dX12_foretold_65 rfl rfl ?_
            refine J_bipush (v := 10) dX12_foretold_66 (by decide) ?_
            refine J_irem dX12_foretold_68 (by decide) ?_
            refine J_iload (i := 4) (kk := 4) dX12_foretold_69 rfl ?_
            refine J_callV [.int a1, .int a2, .int (a3 / (100 : Int32)), .int ((a3 / (10 : Int32)) - (a3 / (10 : Int32)) / (10 : Int32) * (10 : Int32)), .int (a3 - a3 / (10 : Int32) * (10 : Int32)), .int a4] [] calX12_foretoldFor klX12_350 (b := 59) (ci := 12) (by decide) rfl rfl rfl rfl (Nat.le_of_ble_eq_true rfl) dX12_foretold_71 (KI.to h ?_)
            clear h
            intro x2 σ1 h
            exact J_iret rfl dX12_foretold_74 h
          · replace h := h.2 g3
            refine J_if_ne 51 dX12_foretold_46 (by decide) (fun hc => absurd hc (by decide)) (fun _ => ?_)
            refine J_iconst (v := (-1)) dX12_foretold_49 (by decide) ?_
            exact J_iret rfl dX12_foretold_50 h
    · replace h := h.2 g4
      refine J_if_eq 49 dX12_foretold_19 (by decide) (fun _ => ?_) (fun hc => absurd hc (by decide))
      refine J_iconst (v := (-1)) dX12_foretold_49 (by decide) ?_
      exact J_iret rfl dX12_foretold_50 h
  · replace h := h.2 g5
    refine J_if_eq 49 dX12_foretold_6 (by decide) (fun _ => ?_) (fun hc => absurd hc (by decide))
    refine J_iconst (v := (-1)) dX12_foretold_49 (by decide) ?_
    exact J_iret rfl dX12_foretold_50 h
theorem M_X12_foretold {Γ : GG} {l : Launch} {d : Nat} {Q : Option Value → St → Prop} {σ : St} (a1 : Int32) (a2 : Int32) (a3 : Int32) (a4 : Int32) (k : J Γ l (d + 3) mX12_foretold Q 0 [(0, .ref 59), (1, .int a1), (2, .int a2), (3, .int a3), (4, .int a4)] [] σ) : Meth Γ l (d + 3) mX12_foretold [.ref 59, .int a1, .int a2, .int a3, .int a4] σ Q := Meth_of_J (by decide +kernel) (fun _ => Nat.le_of_ble_eq_true rfl) (fun _ => rfl) k
set_option maxHeartbeats 4000000 in
set_option maxRecDepth 100000 in
theorem w_X12_plan_388 {Γ : GG} {l : Launch} {d : Nat} {Q : Option Value → St → Prop} {σ : St} (a2 : Int32) (a3 : Int32) (a4 : Int32) (a6 : Int64) (a8 : Int32) (a9 : Int32) (a13 : Int32) (a14 : Int32) (h : ((19 : Int32) < a14 → J Γ l (d + 5) mX12_plan Q 156 [(0, .ref 59), (2, .int a2), (3, .int a3), (4, .int a4), (6, .long a6), (8, .int a8), (9, .int a9)] [] σ) ∧ (¬ (19 : Int32) < a14 → vp_in a14 20 ∧ ∀ x2 : Int32, x2 = a14 + 1 → J Γ l (d + 5) mX12_plan Q 388 [(0, .ref 59), (2, .int a2), (3, .int a3), (4, .int a4), (6, .long a6), (8, .int a8), (9, .int a9), (13, .int a13), (14, .int x2)] [] (wr σ 99 (a14.toNatClampNeg) a13))) : J Γ l (d + 5) mX12_plan Q 388 [(0, .ref 59), (2, .int a2), (3, .int a3), (4, .int a4), (6, .long a6), (8, .int a8), (9, .int a9), (13, .int a13), (14, .int a14)] [] σ := by
  refine J_iload (i := 14) (kk := 8) dX12_plan_388 rfl ?_
  refine J_bipush (v := 19) dX12_plan_390 (by decide) ?_
  refine J_icmp_gt 410 dX12_plan_392 (by decide) (fun hc => ?_) (fun hc => ?_)
  · replace h := h.1 hc
    refine J_goto (tgt := 156) dX12_plan_410 (by decide) ?_
    refine J_sub [0, 1, 2, 3, 4, 5, 6] rfl ?_
    exact h
  · replace h := h.2 hc
    refine J_aload_n (i := 0) (kk := 0) dX12_plan_395 rfl rfl ?_
    refine J_getR 99 (q := 59) (ci := 12) (kf := 53) kfX12_128 uxX12 rfl (by decide) rfl (by decide) rfl dX12_plan_396 ?_
    refine J_iload (i := 14) (kk := 8) dX12_plan_399 rfl ?_
    refine J_iload (i := 13) (kk := 7) dX12_plan_401 rfl ?_
    have b1 := h.1
    replace h := h.2
    refine J_ast (a14.toNatClampNeg) rfl (by decide) rfl b1 dX12_plan_403 ?_
    obtain ⟨x2, ex2⟩ : ∃ y : Int32, y = a14 + 1 := ⟨_, rfl⟩
    replace h := h x2 ex2
    refine J_iinc (i := 14) (kk := 8) (v := x2) (lv' := [(14, .int x2), (0, .ref 59), (2, .int a2), (3, .int a3), (4, .int a4), (6, .long a6), (8, .int a8), (9, .int a9), (13, .int a13)]) dX12_plan_404 rfl (by rw [ex2]; rfl) (by decide) rfl ?_
    refine J_goto (tgt := 388) dX12_plan_407 (by decide) ?_
    refine J_sub [1, 2, 3, 4, 5, 6, 7, 8, 0] rfl ?_
    exact h
set_option maxHeartbeats 4000000 in
set_option maxRecDepth 100000 in
theorem w_X12_plan_341 {Γ : GG} {l : Launch} {d : Nat} {Q : Option Value → St → Prop} {σ : St} (a2 : Int32) (a3 : Int32) (a4 : Int32) (a6 : Int64) (a8 : Int32) (a9 : Int32) (h : (a9 < a3 → (a3 ≤ a9 → vp_in a9 20 ∧ ∀ x2 : Int32, x2 = (rd σ 99 (a9.toNatClampNeg)) + (1 : Int32) → J Γ l (d + 5) mX12_plan Q 388 [(0, .ref 59), (2, .int a2), (3, .int a3), (4, .int a4), (6, .long a6), (8, .int a8), (9, .int a9), (13, .int x2), (14, .int a9)] [] σ) ∧ (¬ a3 ≤ a9 → J Γ l (d + 5) mX12_plan Q 156 [(0, .ref 59), (2, .int a2), (3, .int a3), (4, .int a4), (6, .long a6), (8, .int a8), (9, .int a9)] [] σ)) ∧ (¬ a9 < a3 → vp_in a9 20 ∧ (rd σ 99 (a9.toNatClampNeg) = (3 : Int32) → ∀ x5 : Int32, x5 = a9 + (-1) → J Γ l (d + 5) mX12_plan Q 341 [(0, .ref 59), (2, .int a2), (3, .int a3), (4, .int a4), (6, .long a6), (8, .int a8), (9, .int x5)] [] σ) ∧ (¬ rd σ 99 (a9.toNatClampNeg) = (3 : Int32) → (a3 ≤ a9 → ∀ x4 : Int32, x4 = (rd σ 99 (a9.toNatClampNeg)) + (1 : Int32) → J Γ l (d + 5) mX12_plan Q 388 [(0, .ref 59), (2, .int a2), (3, .int a3), (4, .int a4), (6, .long a6), (8, .int a8), (9, .int a9), (13, .int x4), (14, .int a9)] [] σ) ∧ (¬ a3 ≤ a9 → J Γ l (d + 5) mX12_plan Q 156 [(0, .ref 59), (2, .int a2), (3, .int a3), (4, .int a4), (6, .long a6), (8, .int a8), (9, .int a9)] [] σ)))) : J Γ l (d + 5) mX12_plan Q 341 [(0, .ref 59), (2, .int a2), (3, .int a3), (4, .int a4), (6, .long a6), (8, .int a8), (9, .int a9)] [] σ := by
  refine J_iload (i := 9) (kk := 6) dX12_plan_341 rfl ?_
  refine J_iload_n (i := 3) (kk := 2) dX12_plan_343 rfl rfl ?_
  refine J_icmp_lt 364 dX12_plan_344 (by decide) (fun hc => ?_) (fun hc => ?_)
  · replace h := h.1 hc
    refine J_iload (i := 9) (kk := 6) dX12_plan_364 rfl ?_
    refine J_iload_n (i := 3) (kk := 2) dX12_plan_366 rfl rfl ?_
    refine J_icmp_ge 373 dX12_plan_367 (by decide) (fun hc => ?_) (fun hc => ?_)
    · replace h := h.1 hc
      refine J_aload_n (i := 0) (kk := 0) dX12_plan_373 rfl rfl ?_
      refine J_getR 99 (q := 59) (ci := 12) (kf := 53) kfX12_128 uxX12 rfl (by decide) rfl (by decide) rfl dX12_plan_374 ?_
      refine J_iload (i := 9) (kk := 6) dX12_plan_377 rfl ?_
      have b1 := h.1
      replace h := h.2
      refine J_ald (a9.toNatClampNeg) rfl (by decide) rfl b1 dX12_plan_379 ?_
      refine J_iconst (v := 1) dX12_plan_380 (by decide) ?_
      refine J_iadd dX12_plan_381 ?_
      refine J_nameI (fun x2 ex2 => ?_)
      replace h := h x2 ex2
      refine J_istore (i := 13) (lv' := [(13, .int x2), (0, .ref 59), (2, .int a2), (3, .int a3), (4, .int a4), (6, .long a6), (8, .int a8), (9, .int a9)]) dX12_plan_382 (by decide) rfl ?_
      refine J_iload (i := 9) (kk := 7) dX12_plan_384 rfl ?_
      refine J_istore (i := 14) (lv' := [(14, .int a9), (13, .int x2), (0, .ref 59), (2, .int a2), (3, .int a3), (4, .int a4), (6, .long a6), (8, .int a8), (9, .int a9)]) dX12_plan_386 (by decide) rfl ?_
      refine J_sub [2, 3, 4, 5, 6, 7, 8, 1, 0] rfl ?_
      exact h
    · replace h := h.2 hc
      refine J_goto (tgt := 156) dX12_plan_370 (by decide) ?_
      refine J_sub [0, 1, 2, 3, 4, 5, 6] rfl ?_
      exact h
  · replace h := h.2 hc
    refine J_aload_n (i := 0) (kk := 0) dX12_plan_347 rfl rfl ?_
    refine J_getR 99 (q := 59) (ci := 12) (kf := 53) kfX12_128 uxX12 rfl (by decide) rfl (by decide) rfl dX12_plan_348 ?_
    refine J_iload (i := 9) (kk := 6) dX12_plan_351 rfl ?_
    have b3 := h.1
    replace h := h.2
    refine J_ald (a9.toNatClampNeg) rfl (by decide) rfl b3 dX12_plan_353 ?_
    refine J_iconst (v := 3) dX12_plan_354 (by decide) ?_
    refine J_icmp_ne 364 dX12_plan_355 (by decide) (fun hc => ?_) (fun hc => ?_)
    · replace h := h.2 hc
      refine J_iload (i := 9) (kk := 6) dX12_plan_364 rfl ?_
      refine J_iload_n (i := 3) (kk := 2) dX12_plan_366 rfl rfl ?_
      refine J_icmp_ge 373 dX12_plan_367 (by decide) (fun hc => ?_) (fun hc => ?_)
      · replace h := h.1 hc
        refine J_aload_n (i := 0) (kk := 0) dX12_plan_373 rfl rfl ?_
        refine J_getR 99 (q := 59) (ci := 12) (kf := 53) kfX12_128 uxX12 rfl (by decide) rfl (by decide) rfl dX12_plan_374 ?_
        refine J_iload (i := 9) (kk := 6) dX12_plan_377 rfl ?_
        refine J_ald (a9.toNatClampNeg) rfl (by decide) rfl b3 dX12_plan_379 ?_
        refine J_iconst (v := 1) dX12_plan_380 (by decide) ?_
        refine J_iadd dX12_plan_381 ?_
        refine J_nameI (fun x4 ex4 => ?_)
        replace h := h x4 ex4
        refine J_istore (i := 13) (lv' := [(13, .int x4), (0, .ref 59), (2, .int a2), (3, .int a3), (4, .int a4), (6, .long a6), (8, .int a8), (9, .int a9)]) dX12_plan_382 (by decide) rfl ?_
        refine J_iload (i := 9) (kk := 7) dX12_plan_384 rfl ?_
        refine J_istore (i := 14) (lv' := [(14, .int a9), (13, .int x4), (0, .ref 59), (2, .int a2), (3, .int a3), (4, .int a4), (6, .long a6), (8, .int a8), (9, .int a9)]) dX12_plan_386 (by decide) rfl ?_
        refine J_sub [2, 3, 4, 5, 6, 7, 8, 1, 0] rfl ?_
        exact h
      · replace h := h.2 hc
        refine J_goto (tgt := 156) dX12_plan_370 (by decide) ?_
        refine J_sub [0, 1, 2, 3, 4, 5, 6] rfl ?_
        exact h
    · replace h := h.1 hc
      obtain ⟨x5, ex5⟩ : ∃ y : Int32, y = a9 + (-1) := ⟨_, rfl⟩
      replace h := h x5 ex5
      refine J_iinc (i := 9) (kk := 6) (v := x5) (lv' := [(9, .int x5), (0, .ref 59), (2, .int a2), (3, .int a3), (4, .int a4), (6, .long a6), (8, .int a8)]) dX12_plan_358 rfl (by rw [ex5]; rfl) (by decide) rfl ?_
      refine J_goto (tgt := 341) dX12_plan_361 (by decide) ?_
      refine J_sub [1, 2, 3, 4, 5, 6, 0] rfl ?_
      exact h
set_option maxHeartbeats 4000000 in
set_option maxRecDepth 100000 in
theorem w_X12_plan_310 {Γ : GG} {l : Launch} {d : Nat} {Q : Option Value → St → Prop} {σ : St} (a2 : Int32) (a3 : Int32) (a4 : Int32) (a6 : Int64) (a8 : Int32) (a13 : Int32) (h : ((19 : Int32) < a13 → J Γ l (d + 5) mX12_plan Q 341 [(0, .ref 59), (2, .int a2), (3, .int a3), (4, .int a4), (6, .long a6), (8, .int a8), (9, .int (19))] [] σ) ∧ (¬ (19 : Int32) < a13 → vp_in a13 20 ∧ ∀ x2 : Int32, x2 = a13 + 1 → J Γ l (d + 5) mX12_plan Q 310 [(0, .ref 59), (2, .int a2), (3, .int a3), (4, .int a4), (6, .long a6), (8, .int a8), (13, .int x2)] [] (wr σ 100 (a13.toNatClampNeg) (rd σ 99 (a13.toNatClampNeg))))) : J Γ l (d + 5) mX12_plan Q 310 [(0, .ref 59), (2, .int a2), (3, .int a3), (4, .int a4), (6, .long a6), (8, .int a8), (13, .int a13)] [] σ := by
  refine J_iload (i := 13) (kk := 6) dX12_plan_310 rfl ?_
  refine J_bipush (v := 19) dX12_plan_312 (by decide) ?_
  refine J_icmp_gt 337 dX12_plan_314 (by decide) (fun hc => ?_) (fun hc => ?_)
  · replace h := h.1 hc
    refine J_bipush (v := 19) dX12_plan_337 (by decide) ?_
    refine J_istore (i := 9) (lv' := [(9, .int (19)), (0, .ref 59), (2, .int a2), (3, .int a3), (4, .int a4), (6, .long a6), (8, .int a8), (13, .int a13)]) dX12_plan_339 (by decide) rfl ?_
    refine J_sub [1, 2, 3, 4, 5, 6, 0] rfl ?_
    exact h
  · replace h := h.2 hc
    refine J_aload_n (i := 0) (kk := 0) dX12_plan_317 rfl rfl ?_
    refine J_getR 100 (q := 59) (ci := 12) (kf := 54) kfX12_131 uxX12 rfl (by decide) rfl (by decide) rfl dX12_plan_318 ?_
    refine J_iload (i := 13) (kk := 6) dX12_plan_321 rfl ?_
    refine J_aload_n (i := 0) (kk := 0) dX12_plan_323 rfl rfl ?_
    refine J_getR 99 (q := 59) (ci := 12) (kf := 53) kfX12_128 uxX12 rfl (by decide) rfl (by decide) rfl dX12_plan_324 ?_
    refine J_iload (i := 13) (kk := 6) dX12_plan_327 rfl ?_
    have b1 := h.1
    replace h := h.2
    refine J_ald (a13.toNatClampNeg) rfl (by decide) rfl b1 dX12_plan_329 ?_
    refine J_ast (a13.toNatClampNeg) rfl (by decide) rfl b1 dX12_plan_330 ?_
    obtain ⟨x2, ex2⟩ : ∃ y : Int32, y = a13 + 1 := ⟨_, rfl⟩
    replace h := h x2 ex2
    refine J_iinc (i := 13) (kk := 6) (v := x2) (lv' := [(13, .int x2), (0, .ref 59), (2, .int a2), (3, .int a3), (4, .int a4), (6, .long a6), (8, .int a8)]) dX12_plan_331 rfl (by rw [ex2]; rfl) (by decide) rfl ?_
    refine J_goto (tgt := 310) dX12_plan_334 (by decide) ?_
    refine J_sub [1, 2, 3, 4, 5, 6, 0] rfl ?_
    exact h
set_option maxHeartbeats 4000000 in
set_option maxRecDepth 100000 in
theorem w_X12_plan_172 {Γ : GG} {l : Launch} {d : Nat} {Q : Option Value → St → Prop} {σ : St} (a2 : Int32) (a3 : Int32) (a4 : Int32) (a6 : Int64) (a8 : Int32) (a10 : Int32) (a11 : Int64) (a13 : Int32) (h : ((19 : Int32) < a13 → vp_in a2 10 ∧ ∀ x2 : Int64, x2 = a11 - (a10.toInt64 * ((rd σ 67 (a2.toNatClampNeg)).toInt64)) → (a8 = (0 : Int32) → (lg_cmp x2 a6 ≤ (0 : Int32) → J Γ l (d + 5) mX12_plan Q 341 [(0, .ref 59), (2, .int a2), (3, .int a3), (4, .int a4), (6, .long a6), (8, .int a8), (9, .int (19))] [] σ) ∧ (¬ lg_cmp x2 a6 ≤ (0 : Int32) → J Γ l (d + 5) mX12_plan Q 310 [(0, .ref 59), (2, .int a2), (3, .int a3), (4, .int a4), (6, .long x2), (8, .int (0)), (13, .int a3)] [] (wr (wr σ 59 56 a3) 59 57 a10))) ∧ (¬ a8 = (0 : Int32) → J Γ l (d + 5) mX12_plan Q 310 [(0, .ref 59), (2, .int a2), (3, .int a3), (4, .int a4), (6, .long x2), (8, .int (0)), (13, .int a3)] [] (wr (wr σ 59 56 a3) 59 57 a10))) ∧ (¬ (19 : Int32) < a13 → vp_in a13 20 ∧ vp_in (((4 : Int32) * a13) + (rd σ 99 (a13.toNatClampNeg))) 80 ∧ (a10 ≤ rd σ 101 ((((4 : Int32) * a13) + (rd σ 99 (a13.toNatClampNeg))).toNatClampNeg) → vp_in a2 10 ∧ ∀ x6 : Int64, x6 = a11 + (a10.toInt64 * ((((rd σ 63 a2.toNatClampNeg) * ((100 : Int32) - (25 : Int32) * (rd σ 99 (a13.toNatClampNeg)))) / (100 : Int32)).toInt64)) → ∀ x7 : Int32, x7 = a13 + 1 → J Γ l (d + 5) mX12_plan Q 172 [(0, .ref 59), (2, .int a2), (3, .int a3), (4, .int a4), (6, .long a6), (8, .int a8), (10, .int (a10 - a10)), (11, .long x6), (13, .int x7)] [] σ) ∧ (¬ a10 ≤ rd σ 101 ((((4 : Int32) * a13) + (rd σ 99 (a13.toNatClampNeg))).toNatClampNeg) → ∀ x8 : Int32, x8 = rd σ 101 ((((4 : Int32) * a13) + (rd σ 99 (a13.toNatClampNeg))).toNatClampNeg) → vp_in a2 10 ∧ ∀ x10 : Int64, x10 = a11 + (x8.toInt64 * ((((rd σ 63 a2.toNatClampNeg) * ((100 : Int32) - (25 : Int32) * (rd σ 99 (a13.toNatClampNeg)))) / (100 : Int32)).toInt64)) → ∀ x11 : Int32, x11 = a13 + 1 → J Γ l (d + 5) mX12_plan Q 172 [(0, .ref 59), (2, .int a2), (3, .int a3), (4, .int a4), (6, .long a6), (8, .int a8), (10, .int (a10 - x8)), (11, .long x10), (13, .int x11)] [] σ))) : J Γ l (d + 5) mX12_plan Q 172 [(0, .ref 59), (2, .int a2), (3, .int a3), (4, .int a4), (6, .long a6), (8, .int a8), (10, .int a10), (11, .long a11), (13, .int a13)] [] σ := by
  refine J_iload (i := 13) (kk := 8) dX12_plan_172 rfl ?_
  refine J_bipush (v := 19) dX12_plan_174 (by decide) ?_
  refine J_icmp_gt 260 dX12_plan_176 (by decide) (fun hc => ?_) (fun hc => ?_)
  · replace h := h.1 hc
    refine J_lload (i := 11) (kk := 7) dX12_plan_260 rfl ?_
    refine J_iload (i := 10) (kk := 6) dX12_plan_262 rfl ?_
    refine J_i2l dX12_plan_264 ?_
    refine J_aload_n (i := 0) (kk := 0) dX12_plan_265 rfl rfl ?_
    refine J_getR 67 (q := 59) (ci := 12) (kf := 11) kfX12_31 uxX12 rfl (by decide) rfl (by decide) rfl dX12_plan_266 ?_
    refine J_iload_n (i := 2) (kk := 1) dX12_plan_269 rfl rfl ?_
    have b1 := h.1
    replace h := h.2
    refine J_ald (a2.toNatClampNeg) rfl (by decide) rfl b1 dX12_plan_270 ?_
    refine J_i2l dX12_plan_271 ?_
    refine J_lmul dX12_plan_272 ?_
    refine J_lsub dX12_plan_273 ?_
    refine J_nameL (fun x2 ex2 => ?_)
    replace h := h x2 ex2
    refine J_lstore (i := 11) (lv' := [(11, .long x2), (0, .ref 59), (2, .int a2), (3, .int a3), (4, .int a4), (6, .long a6), (8, .int a8), (10, .int a10), (13, .int a13)]) dX12_plan_274 (by decide) rfl ?_
    refine J_iload (i := 8) (kk := 6) dX12_plan_276 rfl ?_
    refine J_if_ne 289 dX12_plan_278 (by decide) (fun hc => ?_) (fun hc => ?_)
    · replace h := h.2 hc
      refine J_iconst (v := 0) dX12_plan_289 (by decide) ?_
      refine J_istore (i := 8) (lv' := [(8, .int (0)), (11, .long x2), (0, .ref 59), (2, .int a2), (3, .int a3), (4, .int a4), (6, .long a6), (10, .int a10), (13, .int a13)]) dX12_plan_290 (by decide) rfl ?_
      refine J_lload (i := 11) (kk := 1) dX12_plan_292 rfl ?_
      refine J_lstore (i := 6) (lv' := [(6, .long x2), (8, .int (0)), (11, .long x2), (0, .ref 59), (2, .int a2), (3, .int a3), (4, .int a4), (10, .int a10), (13, .int a13)]) dX12_plan_294 (by decide) rfl ?_
      refine J_aload_n (i := 0) (kk := 3) dX12_plan_296 rfl rfl ?_
      refine J_iload_n (i := 3) (kk := 5) dX12_plan_297 rfl rfl ?_
      refine J_putf (q := 59) (ci := 12) (kf := 56) (ty := .int) kfX12_137 uxX12 tyX12_ok nmX12 rfl (by decide) rfl (by decide) rfl rfl rfl rfl rfl dX12_plan_298 ?_
      refine J_aload_n (i := 0) (kk := 3) dX12_plan_301 rfl rfl ?_
      refine J_iload (i := 10) (kk := 7) dX12_plan_302 rfl ?_
      refine J_putf (q := 59) (ci := 12) (kf := 57) (ty := .int) kfX12_354 uxX12 tyX12_ok nmX12 rfl (by decide) rfl (by decide) rfl rfl rfl rfl rfl dX12_plan_304 ?_
      refine J_iload_n (i := 3) (kk := 5) dX12_plan_307 rfl rfl ?_
      refine J_istore (i := 13) (lv' := [(13, .int a3), (6, .long x2), (8, .int (0)), (11, .long x2), (0, .ref 59), (2, .int a2), (3, .int a3), (4, .int a4), (10, .int a10)]) dX12_plan_308 (by decide) rfl ?_
      refine J_sub [4, 5, 6, 7, 1, 2, 0] rfl ?_
      exact h
    · replace h := h.1 hc
      refine J_lload (i := 11) (kk := 0) dX12_plan_281 rfl ?_
      refine J_lload (i := 6) (kk := 5) dX12_plan_283 rfl ?_
      refine J_lcmp dX12_plan_285 ?_
      refine J_if_le 337 dX12_plan_286 (by decide) (fun hc => ?_) (fun hc => ?_)
      · replace h := h.1 hc
        refine J_bipush (v := 19) dX12_plan_337 (by decide) ?_
        refine J_istore (i := 9) (lv' := [(9, .int (19)), (11, .long x2), (0, .ref 59), (2, .int a2), (3, .int a3), (4, .int a4), (6, .long a6), (8, .int a8), (10, .int a10), (13, .int a13)]) dX12_plan_339 (by decide) rfl ?_
        refine J_sub [2, 3, 4, 5, 6, 7, 0] rfl ?_
        exact h
      · replace h := h.2 hc
        refine J_iconst (v := 0) dX12_plan_289 (by decide) ?_
        refine J_istore (i := 8) (lv' := [(8, .int (0)), (11, .long x2), (0, .ref 59), (2, .int a2), (3, .int a3), (4, .int a4), (6, .long a6), (10, .int a10), (13, .int a13)]) dX12_plan_290 (by decide) rfl ?_
        refine J_lload (i := 11) (kk := 1) dX12_plan_292 rfl ?_
        refine J_lstore (i := 6) (lv' := [(6, .long x2), (8, .int (0)), (11, .long x2), (0, .ref 59), (2, .int a2), (3, .int a3), (4, .int a4), (10, .int a10), (13, .int a13)]) dX12_plan_294 (by decide) rfl ?_
        refine J_aload_n (i := 0) (kk := 3) dX12_plan_296 rfl rfl ?_
        refine J_iload_n (i := 3) (kk := 5) dX12_plan_297 rfl rfl ?_
        refine J_putf (q := 59) (ci := 12) (kf := 56) (ty := .int) kfX12_137 uxX12 tyX12_ok nmX12 rfl (by decide) rfl (by decide) rfl rfl rfl rfl rfl dX12_plan_298 ?_
        refine J_aload_n (i := 0) (kk := 3) dX12_plan_301 rfl rfl ?_
        refine J_iload (i := 10) (kk := 7) dX12_plan_302 rfl ?_
        refine J_putf (q := 59) (ci := 12) (kf := 57) (ty := .int) kfX12_354 uxX12 tyX12_ok nmX12 rfl (by decide) rfl (by decide) rfl rfl rfl rfl rfl dX12_plan_304 ?_
        refine J_iload_n (i := 3) (kk := 5) dX12_plan_307 rfl rfl ?_
        refine J_istore (i := 13) (lv' := [(13, .int a3), (6, .long x2), (8, .int (0)), (11, .long x2), (0, .ref 59), (2, .int a2), (3, .int a3), (4, .int a4), (10, .int a10)]) dX12_plan_308 (by decide) rfl ?_
        refine J_sub [4, 5, 6, 7, 1, 2, 0] rfl ?_
        exact h
  · replace h := h.2 hc
    refine J_aload_n (i := 0) (kk := 0) dX12_plan_179 rfl rfl ?_
    refine J_getR 101 (q := 59) (ci := 12) (kf := 55) kfX12_134 uxX12 rfl (by decide) rfl (by decide) rfl dX12_plan_180 ?_
    refine J_iconst (v := 4) dX12_plan_183 (by decide) ?_
    refine J_iload (i := 13) (kk := 8) dX12_plan_184 rfl ?_
    refine J_imul dX12_plan_186 ?_
    refine J_aload_n (i := 0) (kk := 0) dX12_plan_187 rfl rfl ?_
    refine J_getR 99 (q := 59) (ci := 12) (kf := 53) kfX12_128 uxX12 rfl (by decide) rfl (by decide) rfl dX12_plan_188 ?_
    refine J_iload (i := 13) (kk := 8) dX12_plan_191 rfl ?_
    have b3 := h.1
    replace h := h.2
    refine J_ald (a13.toNatClampNeg) rfl (by decide) rfl b3 dX12_plan_193 ?_
    refine J_iadd dX12_plan_194 ?_
    have b4 := h.1
    replace h := h.2
    refine J_ald ((((4 : Int32) * a13) + (rd σ 99 (a13.toNatClampNeg))).toNatClampNeg) rfl (by decide) rfl b4 dX12_plan_195 ?_
    refine J_iload (i := 10) (kk := 6) dX12_plan_196 rfl ?_
    refine J_icmp_ge 221 dX12_plan_198 (by decide) (fun hc => ?_) (fun hc => ?_)
    · replace h := h.1 hc
      refine J_iload (i := 10) (kk := 6) dX12_plan_221 rfl ?_
      refine J_istore (i := 14) (lv' := [(14, .int a10), (0, .ref 59), (2, .int a2), (3, .int a3), (4, .int a4), (6, .long a6), (8, .int a8), (10, .int a10), (11, .long a11), (13, .int a13)]) dX12_plan_223 (by decide) rfl ?_
      refine J_iload (i := 10) (kk := 7) dX12_plan_225 rfl ?_
      refine J_iload (i := 14) (kk := 0) dX12_plan_227 rfl ?_
      refine J_isub dX12_plan_229 ?_
      refine J_istore (i := 10) (lv' := [(10, .int (a10 - a10)), (14, .int a10), (0, .ref 59), (2, .int a2), (3, .int a3), (4, .int a4), (6, .long a6), (8, .int a8), (11, .long a11), (13, .int a13)]) dX12_plan_230 (by decide) rfl ?_
      refine J_lload (i := 11) (kk := 8) dX12_plan_232 rfl ?_
      refine J_iload (i := 14) (kk := 1) dX12_plan_234 rfl ?_
      refine J_i2l dX12_plan_236 ?_
      refine J_aload_n (i := 0) (kk := 2) dX12_plan_237 rfl rfl ?_
      refine J_iload_n (i := 2) (kk := 3) dX12_plan_238 rfl rfl ?_
      refine J_aload_n (i := 0) (kk := 2) dX12_plan_239 rfl rfl ?_
      refine J_getR 99 (q := 59) (ci := 12) (kf := 53) kfX12_128 uxX12 rfl (by decide) rfl (by decide) rfl dX12_plan_240 ?_
      refine J_iload (i := 13) (kk := 9) dX12_plan_243 rfl ?_
      refine J_ald (a13.toNatClampNeg) rfl (by decide) rfl b3 dX12_plan_245 ?_
      have b5 := h.1
      replace h := h.2
      refine J_callV [.int a2, .int (rd σ 99 (a13.toNatClampNeg))] [.long a10.toInt64, .long a11] calX12_priceBy klX12_216 (b := 59) (ci := 12) (by decide) rfl rfl rfl rfl (Nat.le_of_ble_eq_true rfl) dX12_plan_246 (KI.to (S_X12_priceBy a2 (rd σ 99 (a13.toNatClampNeg)) b5) ?_)
      rintro x9 s9 ⟨rfl, rfl⟩
      refine J_i2l dX12_plan_249 ?_
      refine J_lmul dX12_plan_250 ?_
      refine J_ladd dX12_plan_251 ?_
      refine J_nameL (fun x6 ex6 => ?_)
      replace h := h x6 ex6
      refine J_lstore (i := 11) (lv' := [(11, .long x6), (10, .int (a10 - a10)), (14, .int a10), (0, .ref 59), (2, .int a2), (3, .int a3), (4, .int a4), (6, .long a6), (8, .int a8), (13, .int a13)]) dX12_plan_252 (by decide) rfl ?_
      obtain ⟨x7, ex7⟩ : ∃ y : Int32, y = a13 + 1 := ⟨_, rfl⟩
      replace h := h x7 ex7
      refine J_iinc (i := 13) (kk := 9) (v := x7) (lv' := [(13, .int x7), (11, .long x6), (10, .int (a10 - a10)), (14, .int a10), (0, .ref 59), (2, .int a2), (3, .int a3), (4, .int a4), (6, .long a6), (8, .int a8)]) dX12_plan_254 rfl (by rw [ex7]; rfl) (by decide) rfl ?_
      refine J_goto (tgt := 172) dX12_plan_257 (by decide) ?_
      refine J_sub [4, 5, 6, 7, 8, 9, 2, 1, 0] rfl ?_
      exact h
    · replace h := h.2 hc
      refine J_aload_n (i := 0) (kk := 0) dX12_plan_201 rfl rfl ?_
      refine J_getR 101 (q := 59) (ci := 12) (kf := 55) kfX12_134 uxX12 rfl (by decide) rfl (by decide) rfl dX12_plan_202 ?_
      refine J_iconst (v := 4) dX12_plan_205 (by decide) ?_
      refine J_iload (i := 13) (kk := 8) dX12_plan_206 rfl ?_
      refine J_imul dX12_plan_208 ?_
      refine J_aload_n (i := 0) (kk := 0) dX12_plan_209 rfl rfl ?_
      refine J_getR 99 (q := 59) (ci := 12) (kf := 53) kfX12_128 uxX12 rfl (by decide) rfl (by decide) rfl dX12_plan_210 ?_
      refine J_iload (i := 13) (kk := 8) dX12_plan_213 rfl ?_
      refine J_ald (a13.toNatClampNeg) rfl (by decide) rfl b3 dX12_plan_215 ?_
      refine J_iadd dX12_plan_216 ?_
      refine J_ald ((((4 : Int32) * a13) + (rd σ 99 (a13.toNatClampNeg))).toNatClampNeg) rfl (by decide) rfl b4 dX12_plan_217 ?_
      refine J_goto (tgt := 223) dX12_plan_218 (by decide) ?_
      refine J_nameI (fun x8 ex8 => ?_)
      replace h := h x8 ex8
      refine J_istore (i := 14) (lv' := [(14, .int x8), (0, .ref 59), (2, .int a2), (3, .int a3), (4, .int a4), (6, .long a6), (8, .int a8), (10, .int a10), (11, .long a11), (13, .int a13)]) dX12_plan_223 (by decide) rfl ?_
      refine J_iload (i := 10) (kk := 7) dX12_plan_225 rfl ?_
      refine J_iload (i := 14) (kk := 0) dX12_plan_227 rfl ?_
      refine J_isub dX12_plan_229 ?_
      refine J_istore (i := 10) (lv' := [(10, .int (a10 - x8)), (14, .int x8), (0, .ref 59), (2, .int a2), (3, .int a3), (4, .int a4), (6, .long a6), (8, .int a8), (11, .long a11), (13, .int a13)]) dX12_plan_230 (by decide) rfl ?_
      refine J_lload (i := 11) (kk := 8) dX12_plan_232 rfl ?_
      refine J_iload (i := 14) (kk := 1) dX12_plan_234 rfl ?_
      refine J_i2l dX12_plan_236 ?_
      refine J_aload_n (i := 0) (kk := 2) dX12_plan_237 rfl rfl ?_
      refine J_iload_n (i := 2) (kk := 3) dX12_plan_238 rfl rfl ?_
      refine J_aload_n (i := 0) (kk := 2) dX12_plan_239 rfl rfl ?_
      refine J_getR 99 (q := 59) (ci := 12) (kf := 53) kfX12_128 uxX12 rfl (by decide) rfl (by decide) rfl dX12_plan_240 ?_
      refine J_iload (i := 13) (kk := 9) dX12_plan_243 rfl ?_
      refine J_ald (a13.toNatClampNeg) rfl (by decide) rfl b3 dX12_plan_245 ?_
      have b9 := h.1
      replace h := h.2
      refine J_callV [.int a2, .int (rd σ 99 (a13.toNatClampNeg))] [.long x8.toInt64, .long a11] calX12_priceBy klX12_216 (b := 59) (ci := 12) (by decide) rfl rfl rfl rfl (Nat.le_of_ble_eq_true rfl) dX12_plan_246 (KI.to (S_X12_priceBy a2 (rd σ 99 (a13.toNatClampNeg)) b9) ?_)
      rintro x9 s9 ⟨rfl, rfl⟩
      refine J_i2l dX12_plan_249 ?_
      refine J_lmul dX12_plan_250 ?_
      refine J_ladd dX12_plan_251 ?_
      refine J_nameL (fun x10 ex10 => ?_)
      replace h := h x10 ex10
      refine J_lstore (i := 11) (lv' := [(11, .long x10), (10, .int (a10 - x8)), (14, .int x8), (0, .ref 59), (2, .int a2), (3, .int a3), (4, .int a4), (6, .long a6), (8, .int a8), (13, .int a13)]) dX12_plan_252 (by decide) rfl ?_
      obtain ⟨x11, ex11⟩ : ∃ y : Int32, y = a13 + 1 := ⟨_, rfl⟩
      replace h := h x11 ex11
      refine J_iinc (i := 13) (kk := 9) (v := x11) (lv' := [(13, .int x11), (11, .long x10), (10, .int (a10 - x8)), (14, .int x8), (0, .ref 59), (2, .int a2), (3, .int a3), (4, .int a4), (6, .long a6), (8, .int a8)]) dX12_plan_254 rfl (by rw [ex11]; rfl) (by decide) rfl ?_
      refine J_goto (tgt := 172) dX12_plan_257 (by decide) ?_
      refine J_sub [4, 5, 6, 7, 8, 9, 2, 1, 0] rfl ?_
      exact h
set_option maxHeartbeats 4000000 in
set_option maxRecDepth 100000 in
theorem w_X12_plan_156 {Γ : GG} {l : Launch} {d : Nat} {Q : Option Value → St → Prop} {σ : St} (a2 : Int32) (a3 : Int32) (a4 : Int32) (a6 : Int64) (a8 : Int32) (a9 : Int32) (h : (a9 < a3 → Q (some (.int a6.toInt32)) σ) ∧ (¬ a9 < a3 → J Γ l (d + 5) mX12_plan Q 172 [(0, .ref 59), (2, .int a2), (3, .int a3), (4, .int a4), (6, .long a6), (8, .int a8), (10, .int a4), (11, .long 0), (13, .int a3)] [] σ)) : J Γ l (d + 5) mX12_plan Q 156 [(0, .ref 59), (2, .int a2), (3, .int a3), (4, .int a4), (6, .long a6), (8, .int a8), (9, .int a9)] [] σ := by
  refine J_iload (i := 9) (kk := 6) dX12_plan_156 rfl ?_
  refine J_iload_n (i := 3) (kk := 2) dX12_plan_158 rfl rfl ?_
  refine J_icmp_lt 413 dX12_plan_159 (by decide) (fun hc => ?_) (fun hc => ?_)
  · replace h := h.1 hc
    refine J_lload (i := 6) (kk := 4) dX12_plan_413 rfl ?_
    refine J_l2i dX12_plan_415 ?_
    exact J_iret rfl dX12_plan_416 h
  · replace h := h.2 hc
    refine J_iload (i := 4) (kk := 3) dX12_plan_162 rfl ?_
    refine J_istore (i := 10) (lv' := [(10, .int a4), (0, .ref 59), (2, .int a2), (3, .int a3), (4, .int a4), (6, .long a6), (8, .int a8), (9, .int a9)]) dX12_plan_164 (by decide) rfl ?_
    refine J_lconst (v := 0) dX12_plan_166 (by decide) ?_
    refine J_lstore (i := 11) (lv' := [(11, .long 0), (10, .int a4), (0, .ref 59), (2, .int a2), (3, .int a3), (4, .int a4), (6, .long a6), (8, .int a8), (9, .int a9)]) dX12_plan_167 (by decide) rfl ?_
    refine J_iload_n (i := 3) (kk := 4) dX12_plan_169 rfl rfl ?_
    refine J_istore (i := 13) (lv' := [(13, .int a3), (11, .long 0), (10, .int a4), (0, .ref 59), (2, .int a2), (3, .int a3), (4, .int a4), (6, .long a6), (8, .int a8), (9, .int a9)]) dX12_plan_170 (by decide) rfl ?_
    refine J_sub [3, 4, 5, 6, 7, 8, 2, 1, 0] rfl ?_
    exact h
set_option maxHeartbeats 4000000 in
set_option maxRecDepth 100000 in
theorem w_X12_plan_124 {Γ : GG} {l : Launch} {d : Nat} {Q : Option Value → St → Prop} {σ : St} (a2 : Int32) (a3 : Int32) (a4 : Int32) (a5 : Int32) (a6 : Int32) (h : ((19 : Int32) < a6 → J Γ l (d + 5) mX12_plan Q 156 [(0, .ref 59), (2, .int a2), (3, .int a3), (4, .int a4), (6, .long 0), (8, .int (1)), (9, .int (19))] [] σ) ∧ (¬ (19 : Int32) < a6 → vp_in a6 20 ∧ ∀ x2 : Int32, x2 = a6 + 1 → J Γ l (d + 5) mX12_plan Q 124 [(0, .ref 59), (2, .int a2), (3, .int a3), (4, .int a4), (5, .int a5), (6, .int x2)] [] (wr σ 99 (a6.toNatClampNeg) a5))) : J Γ l (d + 5) mX12_plan Q 124 [(0, .ref 59), (2, .int a2), (3, .int a3), (4, .int a4), (5, .int a5), (6, .int a6)] [] σ := by
  refine J_iload (i := 6) (kk := 5) dX12_plan_124 rfl ?_
  refine J_bipush (v := 19) dX12_plan_126 (by decide) ?_
  refine J_icmp_gt 146 dX12_plan_128 (by decide) (fun hc => ?_) (fun hc => ?_)
  · replace h := h.1 hc
    refine J_lconst (v := 0) dX12_plan_146 (by decide) ?_
    refine J_lstore (i := 6) (lv' := [(6, .long 0), (0, .ref 59), (2, .int a2), (3, .int a3), (4, .int a4), (5, .int a5)]) dX12_plan_147 (by decide) rfl ?_
    refine J_iconst (v := 1) dX12_plan_149 (by decide) ?_
    refine J_istore (i := 8) (lv' := [(8, .int (1)), (6, .long 0), (0, .ref 59), (2, .int a2), (3, .int a3), (4, .int a4), (5, .int a5)]) dX12_plan_150 (by decide) rfl ?_
    refine J_bipush (v := 19) dX12_plan_152 (by decide) ?_
    refine J_istore (i := 9) (lv' := [(9, .int (19)), (8, .int (1)), (6, .long 0), (0, .ref 59), (2, .int a2), (3, .int a3), (4, .int a4), (5, .int a5)]) dX12_plan_154 (by decide) rfl ?_
    refine J_sub [3, 4, 5, 6, 2, 1, 0] rfl ?_
    exact h
  · replace h := h.2 hc
    refine J_aload_n (i := 0) (kk := 0) dX12_plan_131 rfl rfl ?_
    refine J_getR 99 (q := 59) (ci := 12) (kf := 53) kfX12_128 uxX12 rfl (by decide) rfl (by decide) rfl dX12_plan_132 ?_
    refine J_iload (i := 6) (kk := 5) dX12_plan_135 rfl ?_
    refine J_iload (i := 5) (kk := 4) dX12_plan_137 rfl ?_
    have b1 := h.1
    replace h := h.2
    refine J_ast (a6.toNatClampNeg) rfl (by decide) rfl b1 dX12_plan_139 ?_
    obtain ⟨x2, ex2⟩ : ∃ y : Int32, y = a6 + 1 := ⟨_, rfl⟩
    replace h := h x2 ex2
    refine J_iinc (i := 6) (kk := 5) (v := x2) (lv' := [(6, .int x2), (0, .ref 59), (2, .int a2), (3, .int a3), (4, .int a4), (5, .int a5)]) dX12_plan_140 rfl (by rw [ex2]; rfl) (by decide) rfl ?_
    refine J_goto (tgt := 124) dX12_plan_143 (by decide) ?_
    refine J_sub [1, 2, 3, 4, 5, 0] rfl ?_
    exact h
set_option maxHeartbeats 4000000 in
set_option maxRecDepth 100000 in
theorem w_X12_plan_46 {Γ : GG} {l : Launch} {d : Nat} {Q : Option Value → St → Prop} {σ : St} (a1 : Int32) (a2 : Int32) (a3 : Int32) (a4 : Int32) (a5 : Int32) (h : ((4 : Int32) ≤ a5 → ∀ x1 : Int32, x1 = a4 + 1 → J Γ l (d + 5) mX12_plan Q 36 [(0, .ref 59), (1, .int a1), (2, .int a2), (3, .int a3), (4, .int x1)] [] σ) ∧ (¬ (4 : Int32) ≤ a5 → vp_in ((rd σ 59 1) / (24 : Int32)) 1500 ∧ Meth Γ l (d + 4) mX12_foretoldFor [.ref 59, .int a1, .int a2, .int a4, .int a5, .int (rd σ 68 (((rd σ 59 1) / (24 : Int32)).toNatClampNeg)), .int ((rd σ 59 1) / (24 : Int32))] σ (KI (fun x4 σ3 => vp_in (((4 : Int32) * a4) + a5) 80 ∧ ∀ x6 : Int32, x6 = a5 + 1 → J Γ l (d + 5) mX12_plan Q 46 [(0, .ref 59), (1, .int a1), (2, .int a2), (3, .int a3), (4, .int a4), (5, .int x6)] [] (wr σ3 101 ((((4 : Int32) * a4) + a5).toNatClampNeg) x4))))) : J Γ l (d + 5) mX12_plan Q 46 [(0, .ref 59), (1, .int a1), (2, .int a2), (3, .int a3), (4, .int a4), (5, .int a5)] [] σ := by
  refine J_iload (i := 5) (kk := 5) dX12_plan_46 rfl ?_
  refine J_iconst (v := 4) dX12_plan_48 (by decide) ?_
  refine J_icmp_ge 93 dX12_plan_49 (by decide) (fun hc => ?_) (fun hc => ?_)
  · replace h := h.1 hc
    obtain ⟨x1, ex1⟩ : ∃ y : Int32, y = a4 + 1 := ⟨_, rfl⟩
    replace h := h x1 ex1
    refine J_iinc (i := 4) (kk := 4) (v := x1) (lv' := [(4, .int x1), (0, .ref 59), (1, .int a1), (2, .int a2), (3, .int a3), (5, .int a5)]) dX12_plan_93 rfl (by rw [ex1]; rfl) (by decide) rfl ?_
    refine J_goto (tgt := 36) dX12_plan_96 (by decide) ?_
    refine J_sub [1, 2, 3, 4, 0] rfl ?_
    exact h
  · replace h := h.2 hc
    refine J_aload_n (i := 0) (kk := 0) dX12_plan_52 rfl rfl ?_
    refine J_getR 101 (q := 59) (ci := 12) (kf := 55) kfX12_134 uxX12 rfl (by decide) rfl (by decide) rfl dX12_plan_53 ?_
    refine J_iconst (v := 4) dX12_plan_56 (by decide) ?_
    refine J_iload (i := 4) (kk := 4) dX12_plan_57 rfl ?_
    refine J_imul dX12_plan_59 ?_
    refine J_iload (i := 5) (kk := 5) dX12_plan_60 rfl ?_
    refine J_iadd dX12_plan_62 ?_
    refine J_aload_n (i := 0) (kk := 0) dX12_plan_63 rfl rfl ?_
    refine J_iload_n (i := 1) (kk := 1) dX12_plan_64 rfl rfl ?_
    refine J_iload_n (i := 2) (kk := 2) dX12_plan_65 rfl rfl ?_
    refine J_iload (i := 4) (kk := 4) dX12_plan_66 rfl ?_
    refine J_iload (i := 5) (kk := 5) dX12_plan_68 rfl ?_
    refine J_aload_n (i := 0) (kk := 0) dX12_plan_70 rfl rfl ?_
    refine J_getR 68 (q := 59) (ci := 12) (kf := 12) kfX12_34 uxX12 rfl (by decide) rfl (by decide) rfl dX12_plan_71 ?_
    refine J_aload_n (i := 0) (kk := 0) dX12_plan_74 rfl rfl ?_
    refine J_callV [] [.ref 68, .int a5, .int a4, .int a2, .int a1, .ref 59, .int (((4 : Int32) * a4) + a5), .ref 101] calX12_today klX12_230 (b := 59) (ci := 12) (by decide) rfl rfl rfl rfl (Nat.le_of_ble_eq_true rfl) dX12_plan_75 (KI.to (S_X12_today) ?_)
    rintro x9 s9 ⟨rfl, rfl⟩
    have b2 := h.1
    replace h := h.2
    refine J_ald (((rd σ 59 1) / (24 : Int32)).toNatClampNeg) rfl (by decide) rfl b2 dX12_plan_78 ?_
    refine J_aload_n (i := 0) (kk := 0) dX12_plan_79 rfl rfl ?_
    refine J_callV [] [.int (rd σ 68 (((rd σ 59 1) / (24 : Int32)).toNatClampNeg)), .int a5, .int a4, .int a2, .int a1, .ref 59, .int (((4 : Int32) * a4) + a5), .ref 101] calX12_today klX12_230 (b := 59) (ci := 12) (by decide) rfl rfl rfl rfl (Nat.le_of_ble_eq_true rfl) dX12_plan_80 (KI.to (S_X12_today) ?_)
    rintro x9 s9 ⟨rfl, rfl⟩
    refine J_callV [.int a1, .int a2, .int a4, .int a5, .int (rd σ 68 (((rd σ 59 1) / (24 : Int32)).toNatClampNeg)), .int ((rd σ 59 1) / (24 : Int32))] [.int (((4 : Int32) * a4) + a5), .ref 101] calX12_foretoldFor klX12_350 (b := 59) (ci := 12) (by decide) rfl rfl rfl rfl (Nat.le_of_ble_eq_true rfl) dX12_plan_83 (KI.to h ?_)
    clear h
    intro x4 σ3 h
    have b5 := h.1
    replace h := h.2
    refine J_ast ((((4 : Int32) * a4) + a5).toNatClampNeg) rfl (by decide) rfl b5 dX12_plan_86 ?_
    obtain ⟨x6, ex6⟩ : ∃ y : Int32, y = a5 + 1 := ⟨_, rfl⟩
    replace h := h x6 ex6
    refine J_iinc (i := 5) (kk := 5) (v := x6) (lv' := [(5, .int x6), (0, .ref 59), (1, .int a1), (2, .int a2), (3, .int a3), (4, .int a4)]) dX12_plan_87 rfl (by rw [ex6]; rfl) (by decide) rfl ?_
    refine J_goto (tgt := 46) dX12_plan_90 (by decide) ?_
    refine J_sub [1, 2, 3, 4, 5, 0] rfl ?_
    exact h
set_option maxHeartbeats 4000000 in
set_option maxRecDepth 100000 in
theorem w_X12_plan_36 {Γ : GG} {l : Launch} {d : Nat} {Q : Option Value → St → Prop} {σ : St} (a1 : Int32) (a2 : Int32) (a3 : Int32) (a4 : Int32) (h : ((19 : Int32) < a4 → Meth Γ l (d + 4) mX12_shelfOf [.ref 59, .int a1, .int a2, .int (1)] σ (KI (fun x2 σ1 => vp_in (((10 : Int32) * a1) + a2) 120 ∧ ∀ x4 : Int32, x4 = rd σ1 69 ((((10 : Int32) * a1) + a2).toNatClampNeg) → J Γ l (d + 5) mX12_plan Q 124 [(0, .ref 59), (2, .int a2), (3, .int a3), (4, .int x2), (5, .int x4), (6, .int a3)] [] σ1))) ∧ (¬ (19 : Int32) < a4 → J Γ l (d + 5) mX12_plan Q 46 [(0, .ref 59), (1, .int a1), (2, .int a2), (3, .int a3), (4, .int a4), (5, .int (0))] [] σ)) : J Γ l (d + 5) mX12_plan Q 36 [(0, .ref 59), (1, .int a1), (2, .int a2), (3, .int a3), (4, .int a4)] [] σ := by
  refine J_iload (i := 4) (kk := 4) dX12_plan_36 rfl ?_
  refine J_bipush (v := 19) dX12_plan_38 (by decide) ?_
  refine J_icmp_gt 99 dX12_plan_40 (by decide) (fun hc => ?_) (fun hc => ?_)
  · replace h := h.1 hc
    refine J_aload_n (i := 0) (kk := 0) dX12_plan_99 rfl rfl ?_
    refine J_iload_n (i := 1) (kk := 1) dX12_plan_100 rfl rfl ?_
    refine J_iload_n (i := 2) (kk := 2) dX12_plan_101 rfl rfl ?_
    refine J_iconst (v := 1) dX12_plan_102 (by decide) ?_
    refine J_callV [.int a1, .int a2, .int (1)] [] calX12_shelfOf klX12_330 (b := 59) (ci := 12) (by decide) rfl rfl rfl rfl (Nat.le_of_ble_eq_true rfl) dX12_plan_103 (KI.to h ?_)
    clear h
    intro x2 σ1 h
    refine J_istore (i := 4) (lv' := [(4, .int x2), (0, .ref 59), (1, .int a1), (2, .int a2), (3, .int a3)]) dX12_plan_106 (by decide) rfl ?_
    refine J_aload_n (i := 0) (kk := 1) dX12_plan_108 rfl rfl ?_
    refine J_getR 69 (q := 59) (ci := 12) (kf := 13) kfX12_37 uxX12 rfl (by decide) rfl (by decide) rfl dX12_plan_109 ?_
    refine J_bipush (v := 10) dX12_plan_112 (by decide) ?_
    refine J_iload_n (i := 1) (kk := 2) dX12_plan_114 rfl rfl ?_
    refine J_imul dX12_plan_115 ?_
    refine J_iload_n (i := 2) (kk := 3) dX12_plan_116 rfl rfl ?_
    refine J_iadd dX12_plan_117 ?_
    have b3 := h.1
    replace h := h.2
    refine J_ald ((((10 : Int32) * a1) + a2).toNatClampNeg) rfl (by decide) rfl b3 dX12_plan_118 ?_
    refine J_nameI (fun x4 ex4 => ?_)
    replace h := h x4 ex4
    refine J_istore (i := 5) (lv' := [(5, .int x4), (4, .int x2), (0, .ref 59), (1, .int a1), (2, .int a2), (3, .int a3)]) dX12_plan_119 (by decide) rfl ?_
    refine J_iload_n (i := 3) (kk := 5) dX12_plan_121 rfl rfl ?_
    refine J_istore (i := 6) (lv' := [(6, .int a3), (5, .int x4), (4, .int x2), (0, .ref 59), (1, .int a1), (2, .int a2), (3, .int a3)]) dX12_plan_122 (by decide) rfl ?_
    refine J_sub [3, 5, 6, 2, 1, 0] rfl ?_
    exact h
  · replace h := h.2 hc
    refine J_iconst (v := 0) dX12_plan_43 (by decide) ?_
    refine J_istore (i := 5) (lv' := [(5, .int (0)), (0, .ref 59), (1, .int a1), (2, .int a2), (3, .int a3), (4, .int a4)]) dX12_plan_44 (by decide) rfl ?_
    refine J_sub [1, 2, 3, 4, 5, 0] rfl ?_
    exact h
set_option maxHeartbeats 4000000 in
set_option maxRecDepth 100000 in
theorem w_X12_plan_0 {Γ : GG} {l : Launch} {d : Nat} {Q : Option Value → St → Prop} {σ : St} (a1 : Int32) (a2 : Int32) (h : ((0 ≤ a1 ∧ a1 ≤ (rd σ 59 2) - (1 : Int32)) ∧ 0 ≤ a2 ∧ a2 ≤ (rd σ 59 6) - (1 : Int32) → (6 ≤ (rd σ 59 1) - (rd σ 59 1) / (24 : Int32) * (24 : Int32) ∧ (rd σ 59 1) - (rd σ 59 1) / (24 : Int32) * (24 : Int32) ≤ 19 → Meth Γ l (d + 4) mX12_hasRow [.ref 59, .int a1, .int a2] σ (KI (fun x2 σ1 => (x2 = (0 : Int32) → ∀ x3 : Int32, x3 = (rd σ1 59 1) - (rd σ1 59 1) / (24 : Int32) * (24 : Int32) → J Γ l (d + 5) mX12_plan Q 36 [(0, .ref 59), (1, .int a1), (2, .int a2), (3, .int x3), (4, .int x3)] [] σ1) ∧ (¬ x2 = (0 : Int32) → Q (some (.int ((-2000000000)))) σ1)))) ∧ (¬ (6 ≤ (rd σ 59 1) - (rd σ 59 1) / (24 : Int32) * (24 : Int32) ∧ (rd σ 59 1) - (rd σ 59 1) / (24 : Int32) * (24 : Int32) ≤ 19) → Q (some (.int ((-2000000000)))) σ)) ∧ (¬ ((0 ≤ a1 ∧ a1 ≤ (rd σ 59 2) - (1 : Int32)) ∧ 0 ≤ a2 ∧ a2 ≤ (rd σ 59 6) - (1 : Int32)) → Q (some (.int ((-2000000000)))) σ)) : J Γ l (d + 5) mX12_plan Q 0 [(0, .ref 59), (1, .int a1), (2, .int a2)] [] σ := by
  refine J_aload_n (i := 0) (kk := 0) dX12_plan_0 rfl rfl ?_
  refine J_iload_n (i := 1) (kk := 1) dX12_plan_1 rfl rfl ?_
  refine J_iload_n (i := 2) (kk := 2) dX12_plan_2 rfl rfl ?_
  refine J_callV [.int a1, .int a2] [] calX12_areBoth klX12_223 (b := 59) (ci := 12) (by decide) rfl rfl rfl rfl (Nat.le_of_ble_eq_true rfl) dX12_plan_3 (KI.to (S_X12_areBoth a1 a2) ?_)
  rintro x9 s9 ⟨rfl, ⟨g5, rfl⟩ | ⟨g5, rfl⟩⟩
  · replace h := h.1 g5
    refine J_if_eq 25 dX12_plan_6 (by decide) (fun hc => absurd hc (by decide)) (fun _ => ?_)
    refine J_aload_n (i := 0) (kk := 0) dX12_plan_9 rfl rfl ?_
    refine J_callV [] [] calX12_isOpen klX12_340 (b := 59) (ci := 12) (by decide) rfl rfl rfl rfl (Nat.le_of_ble_eq_true rfl) dX12_plan_10 (KI.to (S_X12_isOpen) ?_)
    rintro x9 s9 ⟨rfl, ⟨g4, rfl⟩ | ⟨g4, rfl⟩⟩
    · replace h := h.1 g4
      refine J_if_eq 25 dX12_plan_13 (by decide) (fun hc => absurd hc (by decide)) (fun _ => ?_)
      refine J_aload_n (i := 0) (kk := 0) dX12_plan_16 rfl rfl ?_
      refine J_iload_n (i := 1) (kk := 1) dX12_plan_17 rfl rfl ?_
      refine J_iload_n (i := 2) (kk := 2) dX12_plan_18 rfl rfl ?_
      refine J_callV [.int a1, .int a2] [] calX12_hasRow klX12_344 (b := 59) (ci := 12) (by decide) rfl rfl rfl rfl (Nat.le_of_ble_eq_true rfl) dX12_plan_19 (KI.to h ?_)
      clear h
      intro x2 σ1 h
      refine J_if_eq 28 dX12_plan_22 (by decide) (fun hc => ?_) (fun hc => ?_)
      · replace h := h.1 hc
        refine J_aload_n (i := 0) (kk := 0) dX12_plan_28 rfl rfl ?_
        refine J_callV [] [] calX12_hourNow klX12_315 (b := 59) (ci := 12) (by decide) rfl rfl rfl rfl (Nat.le_of_ble_eq_true rfl) dX12_plan_29 (KI.to (S_X12_hourNow) ?_)
        rintro x9 s9 ⟨rfl, rfl⟩
        refine J_nameI (fun x3 ex3 => ?_)
        replace h := h x3 ex3
        refine J_istore_n (i := 3) (lv' := [(3, .int x3), (0, .ref 59), (1, .int a1), (2, .int a2)]) dX12_plan_32 rfl (by decide) rfl ?_
        refine J_iload_n (i := 3) (kk := 0) dX12_plan_33 rfl rfl ?_
        refine J_istore (i := 4) (lv' := [(4, .int x3), (3, .int x3), (0, .ref 59), (1, .int a1), (2, .int a2)]) dX12_plan_34 (by decide) rfl ?_
        refine J_sub [2, 3, 4, 1, 0] rfl ?_
        exact h
      · replace h := h.2 hc
        refine J_ldc (v := (-2000000000)) kcX12_244 dX12_plan_25 ?_
        exact J_iret rfl dX12_plan_27 h
    · replace h := h.2 g4
      refine J_if_eq 25 dX12_plan_13 (by decide) (fun _ => ?_) (fun hc => absurd hc (by decide))
      refine J_ldc (v := (-2000000000)) kcX12_244 dX12_plan_25 ?_
      exact J_iret rfl dX12_plan_27 h
  · replace h := h.2 g5
    refine J_if_eq 25 dX12_plan_6 (by decide) (fun _ => ?_) (fun hc => absurd hc (by decide))
    refine J_ldc (v := (-2000000000)) kcX12_244 dX12_plan_25 ?_
    exact J_iret rfl dX12_plan_27 h
theorem M_X12_plan {Γ : GG} {l : Launch} {d : Nat} {Q : Option Value → St → Prop} {σ : St} (a1 : Int32) (a2 : Int32) (k : J Γ l (d + 5) mX12_plan Q 0 [(0, .ref 59), (1, .int a1), (2, .int a2)] [] σ) : Meth Γ l (d + 5) mX12_plan [.ref 59, .int a1, .int a2] σ Q := Meth_of_J (by decide +kernel) (fun _ => Nat.le_of_ble_eq_true rfl) (fun _ => rfl) k
set_option maxHeartbeats 4000000 in
set_option maxRecDepth 100000 in
theorem w_X12_planned_0 {Γ : GG} {l : Launch} {d : Nat} {Q : Option Value → St → Prop} {σ : St} (a1 : Int32) (h : ((rd σ 59 56) ≤ a1 ∧ a1 ≤ (19 : Int32) → vp_in a1 20 ∧ Q (some (.int (rd σ 100 (a1.toNatClampNeg)))) σ) ∧ (¬ ((rd σ 59 56) ≤ a1 ∧ a1 ≤ (19 : Int32)) → Q (some (.int ((-1)))) σ)) : J Γ l (d + 1) mX12_planned Q 0 [(0, .ref 59), (1, .int a1)] [] σ := by
  refine J_iload_n (i := 1) (kk := 1) dX12_planned_0 rfl rfl ?_
  refine J_aload_n (i := 0) (kk := 0) dX12_planned_1 rfl rfl ?_
  refine J_getI (q := 59) (ci := 12) (kf := 56) kfX12_137 uxX12 rfl (by decide) rfl (by decide) rfl dX12_planned_2 ?_
  refine J_bipush (v := 19) dX12_planned_5 (by decide) ?_
  refine J_callS [.int a1, .int (rd σ 59 56), .int (19)] [] calX12_in klX12_196 rfl rfl (Nat.le_of_ble_eq_true rfl) dX12_planned_7 (KI.to (S_X12_in a1 (rd σ 59 56) (19 : Int32)) ?_)
  rintro x9 s9 ⟨rfl, ⟨g2, rfl⟩ | ⟨g2, rfl⟩⟩
  · replace h := h.1 g2
    refine J_if_eq 22 dX12_planned_10 (by decide) (fun hc => absurd hc (by decide)) (fun _ => ?_)
    refine J_aload_n (i := 0) (kk := 0) dX12_planned_13 rfl rfl ?_
    refine J_getR 100 (q := 59) (ci := 12) (kf := 54) kfX12_131 uxX12 rfl (by decide) rfl (by decide) rfl dX12_planned_14 ?_
    refine J_iload_n (i := 1) (kk := 1) dX12_planned_17 rfl rfl ?_
    have b1 := h.1
    replace h := h.2
    refine J_ald (a1.toNatClampNeg) rfl (by decide) rfl b1 dX12_planned_18 ?_
    refine J_goto (tgt := 23) dX12_planned_19 (by decide) ?_
    exact J_iret rfl dX12_planned_23 h
  · replace h := h.2 g2
    refine J_if_eq 22 dX12_planned_10 (by decide) (fun _ => ?_) (fun hc => absurd hc (by decide))
    refine J_iconst (v := (-1)) dX12_planned_22 (by decide) ?_
    exact J_iret rfl dX12_planned_23 h
theorem M_X12_planned {Γ : GG} {l : Launch} {d : Nat} {Q : Option Value → St → Prop} {σ : St} (a1 : Int32) (k : J Γ l (d + 1) mX12_planned Q 0 [(0, .ref 59), (1, .int a1)] [] σ) : Meth Γ l (d + 1) mX12_planned [.ref 59, .int a1] σ Q := Meth_of_J (by decide +kernel) (fun _ => Nat.le_of_ble_eq_true rfl) (fun _ => rfl) k
set_option maxHeartbeats 4000000 in
set_option maxRecDepth 100000 in
theorem w_X12_left_0 {Γ : GG} {l : Launch} {d : Nat} {Q : Option Value → St → Prop} {σ : St}  (h : (rd σ 59 56 ≤ (19 : Int32) → Q (some (.int (rd σ 59 57))) σ) ∧ (¬ rd σ 59 56 ≤ (19 : Int32) → Q (some (.int ((-1)))) σ)) : J Γ l d mX12_left Q 0 [(0, .ref 59)] [] σ := by
  refine J_aload_n (i := 0) (kk := 0) dX12_left_0 rfl rfl ?_
  refine J_getI (q := 59) (ci := 12) (kf := 56) kfX12_137 uxX12 rfl (by decide) rfl (by decide) rfl dX12_left_1 ?_
  refine J_bipush (v := 19) dX12_left_4 (by decide) ?_
  refine J_icmp_le 13 dX12_left_6 (by decide) (fun hc => ?_) (fun hc => ?_)
  · replace h := h.1 hc
    refine J_aload_n (i := 0) (kk := 0) dX12_left_13 rfl rfl ?_
    refine J_getI (q := 59) (ci := 12) (kf := 57) kfX12_354 uxX12 rfl (by decide) rfl (by decide) rfl dX12_left_14 ?_
    exact J_iret rfl dX12_left_17 h
  · replace h := h.2 hc
    refine J_iconst (v := (-1)) dX12_left_9 (by decide) ?_
    refine J_goto (tgt := 17) dX12_left_10 (by decide) ?_
    exact J_iret rfl dX12_left_17 h
theorem M_X12_left {Γ : GG} {l : Launch} {d : Nat} {Q : Option Value → St → Prop} {σ : St}  (k : J Γ l d mX12_left Q 0 [(0, .ref 59)] [] σ) : Meth Γ l d mX12_left [.ref 59] σ Q := Meth_of_J (by decide +kernel) (fun _ => Nat.le_of_ble_eq_true rfl) (fun _ => rfl) k
set_option maxHeartbeats 4000000 in
set_option maxRecDepth 100000 in
theorem w_X12_isOrder_0 {Γ : GG} {l : Launch} {d : Nat} {Q : Option Value → St → Prop} {σ : St} (a1 : Int32) (a2 : Int32) (a3 : Int32) (a4 : Int32) (h : ((0 ≤ a1 ∧ a1 ≤ (rd σ 59 2) - (1 : Int32)) ∧ 0 ≤ a2 ∧ a2 ≤ (rd σ 59 6) - (1 : Int32) → ((0 : Int32) ≤ a3 ∧ a3 ≤ (62 : Int32) → ((3 : Int32) ≤ a3 - a3 / (10 : Int32) * (10 : Int32) → Q (some (.int (0))) σ) ∧ (¬ (3 : Int32) ≤ a3 - a3 / (10 : Int32) * (10 : Int32) → (0 ≤ a4 ∧ a4 ≤ 1499 → Q (some (.int (1))) σ) ∧ (¬ (0 ≤ a4 ∧ a4 ≤ 1499) → Q (some (.int (0))) σ))) ∧ (¬ ((0 : Int32) ≤ a3 ∧ a3 ≤ (62 : Int32)) → Q (some (.int (0))) σ)) ∧ (¬ ((0 ≤ a1 ∧ a1 ≤ (rd σ 59 2) - (1 : Int32)) ∧ 0 ≤ a2 ∧ a2 ≤ (rd σ 59 6) - (1 : Int32)) → Q (some (.int (0))) σ)) : J Γ l (d + 3) mX12_isOrder Q 0 [(0, .ref 59), (1, .int a1), (2, .int a2), (3, .int a3), (4, .int a4)] [] σ := by
  refine J_aload_n (i := 0) (kk := 0) dX12_isOrder_0 rfl rfl ?_
  refine J_iload_n (i := 1) (kk := 1) dX12_isOrder_1 rfl rfl ?_
  refine J_iload_n (i := 2) (kk := 2) dX12_isOrder_2 rfl rfl ?_
  refine J_callV [.int a1, .int a2] [] calX12_areBoth klX12_223 (b := 59) (ci := 12) (by decide) rfl rfl rfl rfl (Nat.le_of_ble_eq_true rfl) dX12_isOrder_3 (KI.to (S_X12_areBoth a1 a2) ?_)
  rintro x9 s9 ⟨rfl, ⟨g3, rfl⟩ | ⟨g3, rfl⟩⟩
  · replace h := h.1 g3
    refine J_if_eq 39 dX12_isOrder_6 (by decide) (fun hc => absurd hc (by decide)) (fun _ => ?_)
    refine J_iload_n (i := 3) (kk := 3) dX12_isOrder_9 rfl rfl ?_
    refine J_iconst (v := 0) dX12_isOrder_10 (by decide) ?_
    refine J_bipush (v := 62) dX12_isOrder_11 (by decide) ?_
    refine J_callS [.int a3, .int (0), .int (62)] [] calX12_in klX12_196 rfl rfl (Nat.le_of_ble_eq_true rfl) dX12_isOrder_13 (KI.to (S_X12_in a3 (0 : Int32) (62 : Int32)) ?_)
    rintro x9 s9 ⟨rfl, ⟨g2, rfl⟩ | ⟨g2, rfl⟩⟩
    · replace h := h.1 g2
      refine J_if_eq 39 dX12_isOrder_16 (by decide) (fun hc => absurd hc (by decide)) (fun _ => ?_)
      refine J_iload_n (i := 3) (kk := 3) dX12_isOrder_19 rfl rfl ?_
      refine J_bipush (v := 10) dX12_isOrder_20 (by decide) ?_
      refine J_irem dX12_isOrder_22 (by decide) ?_
      refine J_iconst (v := 3) dX12_isOrder_23 (by decide) ?_
      refine J_icmp_ge 39 dX12_isOrder_24 (by decide) (fun hc => ?_) (fun hc => ?_)
      · replace h := h.1 hc
        refine J_iconst (v := 0) dX12_isOrder_39 (by decide) ?_
        exact J_zret rfl (by decide) dX12_isOrder_40 h
      · replace h := h.2 hc
        refine J_iload (i := 4) (kk := 4) dX12_isOrder_27 rfl ?_
        refine J_callS [.int a4] [] calX12_isDay klX12_220 rfl rfl (Nat.le_of_ble_eq_true rfl) dX12_isOrder_29 (KI.to (S_X12_isDay a4) ?_)
        rintro x9 s9 ⟨rfl, ⟨g1, rfl⟩ | ⟨g1, rfl⟩⟩
        · replace h := h.1 g1
          refine J_if_eq 39 dX12_isOrder_32 (by decide) (fun hc => absurd hc (by decide)) (fun _ => ?_)
          refine J_iconst (v := 1) dX12_isOrder_35 (by decide) ?_
          refine J_goto (tgt := 40) dX12_isOrder_36 (by decide) ?_
          exact J_zret rfl (by decide) dX12_isOrder_40 h
        · replace h := h.2 g1
          refine J_if_eq 39 dX12_isOrder_32 (by decide) (fun _ => ?_) (fun hc => absurd hc (by decide))
          refine J_iconst (v := 0) dX12_isOrder_39 (by decide) ?_
          exact J_zret rfl (by decide) dX12_isOrder_40 h
    · replace h := h.2 g2
      refine J_if_eq 39 dX12_isOrder_16 (by decide) (fun _ => ?_) (fun hc => absurd hc (by decide))
      refine J_iconst (v := 0) dX12_isOrder_39 (by decide) ?_
      exact J_zret rfl (by decide) dX12_isOrder_40 h
  · replace h := h.2 g3
    refine J_if_eq 39 dX12_isOrder_6 (by decide) (fun _ => ?_) (fun hc => absurd hc (by decide))
    refine J_iconst (v := 0) dX12_isOrder_39 (by decide) ?_
    exact J_zret rfl (by decide) dX12_isOrder_40 h
theorem M_X12_isOrder {Γ : GG} {l : Launch} {d : Nat} {Q : Option Value → St → Prop} {σ : St} (a1 : Int32) (a2 : Int32) (a3 : Int32) (a4 : Int32) (k : J Γ l (d + 3) mX12_isOrder Q 0 [(0, .ref 59), (1, .int a1), (2, .int a2), (3, .int a3), (4, .int a4)] [] σ) : Meth Γ l (d + 3) mX12_isOrder [.ref 59, .int a1, .int a2, .int a3, .int a4] σ Q := Meth_of_J (by decide +kernel) (fun _ => Nat.le_of_ble_eq_true rfl) (fun _ => rfl) k
set_option maxHeartbeats 4000000 in
set_option maxRecDepth 100000 in
theorem w_X12_findSums_36 {Γ : GG} {l : Launch} {d : Nat} {Q : Option Value → St → Prop} {σ : St} (a1 : Int32) (a2 : Int32) (a3 : Int32) (a4 : Int32) (a5 : Int32) (h : (rd σ 59 45 ≤ a5 → Q none σ) ∧ (¬ rd σ 59 45 ≤ a5 → vp_in a5 600 ∧ ∀ x2 : Int32, x2 = (rd σ 94 (a5.toNatClampNeg)) / (24 : Int32) → (rd σ 92 (a5.toNatClampNeg) = a1 → (rd σ 93 (a5.toNatClampNeg) = a2 → (rd σ 96 (a5.toNatClampNeg) = a3 - a3 / (10 : Int32) * (10 : Int32) → (a4 < x2 → ∀ x6 : Int32, x6 = a5 + 1 → J Γ l d mX12_findSums Q 36 [(0, .ref 59), (1, .int a1), (2, .int a2), (3, .int a3), (4, .int a4), (5, .int x6)] [] σ) ∧ (¬ a4 < x2 → (x2 - x2 / (7 : Int32) * (7 : Int32) = a3 / (10 : Int32) → vp_in x2 1500 ∧ ∀ x8 : Int32, x8 = a5 + 1 → J Γ l d mX12_findSums Q 36 [(0, .ref 59), (1, .int a1), (2, .int a2), (3, .int a3), (4, .int a4), (5, .int x8)] [] (wr (wr σ 102 (x2.toNatClampNeg) ((rd σ 102 (x2.toNatClampNeg)) + (rd σ 97 (a5.toNatClampNeg)))) 103 (x2.toNatClampNeg) (1 : Int32))) ∧ (¬ x2 - x2 / (7 : Int32) * (7 : Int32) = a3 / (10 : Int32) → ∀ x9 : Int32, x9 = a5 + 1 → J Γ l d mX12_findSums Q 36 [(0, .ref 59), (1, .int a1), (2, .int a2), (3, .int a3), (4, .int a4), (5, .int x9)] [] σ))) ∧ (¬ rd σ 96 (a5.toNatClampNeg) = a3 - a3 / (10 : Int32) * (10 : Int32) → ∀ x5 : Int32, x5 = a5 + 1 → J Γ l d mX12_findSums Q 36 [(0, .ref 59), (1, .int a1), (2, .int a2), (3, .int a3), (4, .int a4), (5, .int x5)] [] σ)) ∧ (¬ rd σ 93 (a5.toNatClampNeg) = a2 → ∀ x4 : Int32, x4 = a5 + 1 → J Γ l d mX12_findSums Q 36 [(0, .ref 59), (1, .int a1), (2, .int a2), (3, .int a3), (4, .int a4), (5, .int x4)] [] σ)) ∧ (¬ rd σ 92 (a5.toNatClampNeg) = a1 → ∀ x3 : Int32, x3 = a5 + 1 → J Γ l d mX12_findSums Q 36 [(0, .ref 59), (1, .int a1), (2, .int a2), (3, .int a3), (4, .int a4), (5, .int x3)] [] σ))) : J Γ l d mX12_findSums Q 36 [(0, .ref 59), (1, .int a1), (2, .int a2), (3, .int a3), (4, .int a4), (5, .int a5)] [] σ := by
  refine J_iload (i := 5) (kk := 5) dX12_findSums_36 rfl ?_
  refine J_aload_n (i := 0) (kk := 0) dX12_findSums_38 rfl rfl ?_
  refine J_getI (q := 59) (ci := 12) (kf := 45) kfX12_337 uxX12 rfl (by decide) rfl (by decide) rfl dX12_findSums_39 ?_
  refine J_icmp_ge 146 dX12_findSums_42 (by decide) (fun hc => ?_) (fun hc => ?_)
  · replace h := h.1 hc
    exact J_vret rfl dX12_findSums_146 h
  · replace h := h.2 hc
    refine J_aload_n (i := 0) (kk := 0) dX12_findSums_45 rfl rfl ?_
    refine J_getR 94 (q := 59) (ci := 12) (kf := 48) kfX12_113 uxX12 rfl (by decide) rfl (by decide) rfl dX12_findSums_46 ?_
    refine J_iload (i := 5) (kk := 5) dX12_findSums_49 rfl ?_
    have b1 := h.1
    replace h := h.2
    refine J_ald (a5.toNatClampNeg) rfl (by decide) rfl b1 dX12_findSums_51 ?_
    refine J_bipush (v := 24) dX12_findSums_52 (by decide) ?_
    refine J_idiv dX12_findSums_54 (by decide) ?_
    refine J_nameI (fun x2 ex2 => ?_)
    replace h := h x2 ex2
    refine J_istore (i := 6) (lv' := [(6, .int x2), (0, .ref 59), (1, .int a1), (2, .int a2), (3, .int a3), (4, .int a4), (5, .int a5)]) dX12_findSums_55 (by decide) rfl ?_
    refine J_aload_n (i := 0) (kk := 1) dX12_findSums_57 rfl rfl ?_
    refine J_getR 92 (q := 59) (ci := 12) (kf := 46) kfX12_107 uxX12 rfl (by decide) rfl (by decide) rfl dX12_findSums_58 ?_
    refine J_iload (i := 5) (kk := 6) dX12_findSums_61 rfl ?_
    refine J_ald (a5.toNatClampNeg) rfl (by decide) rfl b1 dX12_findSums_63 ?_
    refine J_iload_n (i := 1) (kk := 2) dX12_findSums_64 rfl rfl ?_
    refine J_icmp_ne 140 dX12_findSums_65 (by decide) (fun hc => ?_) (fun hc => ?_)
    · replace h := h.2 hc
      obtain ⟨x3, ex3⟩ : ∃ y : Int32, y = a5 + 1 := ⟨_, rfl⟩
      replace h := h x3 ex3
      refine J_iinc (i := 5) (kk := 6) (v := x3) (lv' := [(5, .int x3), (6, .int x2), (0, .ref 59), (1, .int a1), (2, .int a2), (3, .int a3), (4, .int a4)]) dX12_findSums_140 rfl (by rw [ex3]; rfl) (by decide) rfl ?_
      refine J_goto (tgt := 36) dX12_findSums_143 (by decide) ?_
      refine J_sub [2, 3, 4, 5, 6, 0] rfl ?_
      exact h
    · replace h := h.1 hc
      refine J_aload_n (i := 0) (kk := 1) dX12_findSums_68 rfl rfl ?_
      refine J_getR 93 (q := 59) (ci := 12) (kf := 47) kfX12_110 uxX12 rfl (by decide) rfl (by decide) rfl dX12_findSums_69 ?_
      refine J_iload (i := 5) (kk := 6) dX12_findSums_72 rfl ?_
      refine J_ald (a5.toNatClampNeg) rfl (by decide) rfl b1 dX12_findSums_74 ?_
      refine J_iload_n (i := 2) (kk := 3) dX12_findSums_75 rfl rfl ?_
      refine J_icmp_ne 140 dX12_findSums_76 (by decide) (fun hc => ?_) (fun hc => ?_)
      · replace h := h.2 hc
        obtain ⟨x4, ex4⟩ : ∃ y : Int32, y = a5 + 1 := ⟨_, rfl⟩
        replace h := h x4 ex4
        refine J_iinc (i := 5) (kk := 6) (v := x4) (lv' := [(5, .int x4), (6, .int x2), (0, .ref 59), (1, .int a1), (2, .int a2), (3, .int a3), (4, .int a4)]) dX12_findSums_140 rfl (by rw [ex4]; rfl) (by decide) rfl ?_
        refine J_goto (tgt := 36) dX12_findSums_143 (by decide) ?_
        refine J_sub [2, 3, 4, 5, 6, 0] rfl ?_
        exact h
      · replace h := h.1 hc
        refine J_aload_n (i := 0) (kk := 1) dX12_findSums_79 rfl rfl ?_
        refine J_getR 96 (q := 59) (ci := 12) (kf := 50) kfX12_119 uxX12 rfl (by decide) rfl (by decide) rfl dX12_findSums_80 ?_
        refine J_iload (i := 5) (kk := 6) dX12_findSums_83 rfl ?_
        refine J_ald (a5.toNatClampNeg) rfl (by decide) rfl b1 dX12_findSums_85 ?_
        refine J_iload_n (i := 3) (kk := 4) dX12_findSums_86 rfl rfl ?_
        refine J_bipush (v := 10) dX12_findSums_87 (by decide) ?_
        refine J_irem dX12_findSums_89 (by decide) ?_
        refine J_icmp_ne 140 dX12_findSums_90 (by decide) (fun hc => ?_) (fun hc => ?_)
        · replace h := h.2 hc
          obtain ⟨x5, ex5⟩ : ∃ y : Int32, y = a5 + 1 := ⟨_, rfl⟩
          replace h := h x5 ex5
          refine J_iinc (i := 5) (kk := 6) (v := x5) (lv' := [(5, .int x5), (6, .int x2), (0, .ref 59), (1, .int a1), (2, .int a2), (3, .int a3), (4, .int a4)]) dX12_findSums_140 rfl (by rw [ex5]; rfl) (by decide) rfl ?_
          refine J_goto (tgt := 36) dX12_findSums_143 (by decide) ?_
          refine J_sub [2, 3, 4, 5, 6, 0] rfl ?_
          exact h
        · replace h := h.1 hc
          refine J_iload (i := 6) (kk := 0) dX12_findSums_93 rfl ?_
          refine J_iload (i := 4) (kk := 5) dX12_findSums_95 rfl ?_
          refine J_icmp_gt 140 dX12_findSums_97 (by decide) (fun hc => ?_) (fun hc => ?_)
          · replace h := h.1 hc
            obtain ⟨x6, ex6⟩ : ∃ y : Int32, y = a5 + 1 := ⟨_, rfl⟩
            replace h := h x6 ex6
            refine J_iinc (i := 5) (kk := 6) (v := x6) (lv' := [(5, .int x6), (6, .int x2), (0, .ref 59), (1, .int a1), (2, .int a2), (3, .int a3), (4, .int a4)]) dX12_findSums_140 rfl (by rw [ex6]; rfl) (by decide) rfl ?_
            refine J_goto (tgt := 36) dX12_findSums_143 (by decide) ?_
            refine J_sub [2, 3, 4, 5, 6, 0] rfl ?_
            exact h
          · replace h := h.2 hc
            refine J_iload (i := 6) (kk := 0) dX12_findSums_100 rfl ?_
            refine J_bipush (v := 7) dX12_findSums_102 (by decide) ?_
            refine J_irem dX12_findSums_104 (by decide) ?_
            refine J_iload_n (i := 3) (kk := 4) dX12_findSums_105 rfl rfl ?_
            refine J_bipush (v := 10) dX12_findSums_106 (by decide) ?_
            refine J_idiv dX12_findSums_108 (by decide) ?_
            refine J_icmp_eq 115 dX12_findSums_109 (by decide) (fun hc => ?_) (fun hc => ?_)
            · replace h := h.1 hc
              refine J_aload_n (i := 0) (kk := 1) dX12_findSums_115 rfl rfl ?_
              refine J_getR 102 (q := 59) (ci := 12) (kf := 58) kfX12_141 uxX12 rfl (by decide) rfl (by decide) rfl dX12_findSums_116 ?_
              refine J_iload (i := 6) (kk := 0) dX12_findSums_119 rfl ?_
              refine J_dup2_11 dX12_findSums_121 rfl rfl ?_
              have b7 := h.1
              replace h := h.2
              refine J_ald (x2.toNatClampNeg) rfl (by decide) rfl b7 dX12_findSums_122 ?_
              refine J_aload_n (i := 0) (kk := 1) dX12_findSums_123 rfl rfl ?_
              refine J_getR 97 (q := 59) (ci := 12) (kf := 51) kfX12_122 uxX12 rfl (by decide) rfl (by decide) rfl dX12_findSums_124 ?_
              refine J_iload (i := 5) (kk := 6) dX12_findSums_127 rfl ?_
              refine J_ald (a5.toNatClampNeg) rfl (by decide) rfl b1 dX12_findSums_129 ?_
              refine J_iadd dX12_findSums_130 ?_
              refine J_ast (x2.toNatClampNeg) rfl (by decide) rfl b7 dX12_findSums_131 ?_
              refine J_aload_n (i := 0) (kk := 1) dX12_findSums_132 rfl rfl ?_
              refine J_getR 103 (q := 59) (ci := 12) (kf := 59) kfX12_144 uxX12 rfl (by decide) rfl (by decide) rfl dX12_findSums_133 ?_
              refine J_iload (i := 6) (kk := 0) dX12_findSums_136 rfl ?_
              refine J_iconst (v := 1) dX12_findSums_138 (by decide) ?_
              refine J_zast2 (x2.toNatClampNeg) (1 : Int32) rfl (by decide) (by decide) rfl b7 dX12_findSums_139 ?_
              obtain ⟨x8, ex8⟩ : ∃ y : Int32, y = a5 + 1 := ⟨_, rfl⟩
              replace h := h x8 ex8
              refine J_iinc (i := 5) (kk := 6) (v := x8) (lv' := [(5, .int x8), (6, .int x2), (0, .ref 59), (1, .int a1), (2, .int a2), (3, .int a3), (4, .int a4)]) dX12_findSums_140 rfl (by rw [ex8]; rfl) (by decide) rfl ?_
              refine J_goto (tgt := 36) dX12_findSums_143 (by decide) ?_
              refine J_sub [2, 3, 4, 5, 6, 0] rfl ?_
              exact h
            · replace h := h.2 hc
              refine J_goto (tgt := 140) dX12_findSums_112 (by decide) ?_
              obtain ⟨x9, ex9⟩ : ∃ y : Int32, y = a5 + 1 := ⟨_, rfl⟩
              replace h := h x9 ex9
              refine J_iinc (i := 5) (kk := 6) (v := x9) (lv' := [(5, .int x9), (6, .int x2), (0, .ref 59), (1, .int a1), (2, .int a2), (3, .int a3), (4, .int a4)]) dX12_findSums_140 rfl (by rw [ex9]; rfl) (by decide) rfl ?_
              refine J_goto (tgt := 36) dX12_findSums_143 (by decide) ?_
              refine J_sub [2, 3, 4, 5, 6, 0] rfl ?_
              exact h
set_option maxHeartbeats 4000000 in
set_option maxRecDepth 100000 in
theorem w_X12_findSums_3 {Γ : GG} {l : Launch} {d : Nat} {Q : Option Value → St → Prop} {σ : St} (a1 : Int32) (a2 : Int32) (a3 : Int32) (a4 : Int32) (a5 : Int32) (h : ((1499 : Int32) < a5 → J Γ l d mX12_findSums Q 36 [(0, .ref 59), (1, .int a1), (2, .int a2), (3, .int a3), (4, .int a4), (5, .int (0))] [] σ) ∧ (¬ (1499 : Int32) < a5 → vp_in a5 1500 ∧ ∀ x2 : Int32, x2 = a5 + 1 → J Γ l d mX12_findSums Q 3 [(0, .ref 59), (1, .int a1), (2, .int a2), (3, .int a3), (4, .int a4), (5, .int x2)] [] (wr (wr σ 102 (a5.toNatClampNeg) (0 : Int32)) 103 (a5.toNatClampNeg) (0 : Int32)))) : J Γ l d mX12_findSums Q 3 [(0, .ref 59), (1, .int a1), (2, .int a2), (3, .int a3), (4, .int a4), (5, .int a5)] [] σ := by
  refine J_iload (i := 5) (kk := 5) dX12_findSums_3 rfl ?_
  refine J_sipush (v := 1499) dX12_findSums_5 (by decide) ?_
  refine J_icmp_gt 33 dX12_findSums_8 (by decide) (fun hc => ?_) (fun hc => ?_)
  · replace h := h.1 hc
    refine J_iconst (v := 0) dX12_findSums_33 (by decide) ?_
    refine J_istore (i := 5) (lv' := [(5, .int (0)), (0, .ref 59), (1, .int a1), (2, .int a2), (3, .int a3), (4, .int a4)]) dX12_findSums_34 (by decide) rfl ?_
    refine J_sub [1, 2, 3, 4, 5, 0] rfl ?_
    exact h
  · replace h := h.2 hc
    refine J_aload_n (i := 0) (kk := 0) dX12_findSums_11 rfl rfl ?_
    refine J_getR 102 (q := 59) (ci := 12) (kf := 58) kfX12_141 uxX12 rfl (by decide) rfl (by decide) rfl dX12_findSums_12 ?_
    refine J_iload (i := 5) (kk := 5) dX12_findSums_15 rfl ?_
    refine J_iconst (v := 0) dX12_findSums_17 (by decide) ?_
    have b1 := h.1
    replace h := h.2
    refine J_ast (a5.toNatClampNeg) rfl (by decide) rfl b1 dX12_findSums_18 ?_
    refine J_aload_n (i := 0) (kk := 0) dX12_findSums_19 rfl rfl ?_
    refine J_getR 103 (q := 59) (ci := 12) (kf := 59) kfX12_144 uxX12 rfl (by decide) rfl (by decide) rfl dX12_findSums_20 ?_
    refine J_iload (i := 5) (kk := 5) dX12_findSums_23 rfl ?_
    refine J_iconst (v := 0) dX12_findSums_25 (by decide) ?_
    refine J_zast2 (a5.toNatClampNeg) (0 : Int32) rfl (by decide) (by decide) rfl b1 dX12_findSums_26 ?_
    obtain ⟨x2, ex2⟩ : ∃ y : Int32, y = a5 + 1 := ⟨_, rfl⟩
    replace h := h x2 ex2
    refine J_iinc (i := 5) (kk := 5) (v := x2) (lv' := [(5, .int x2), (0, .ref 59), (1, .int a1), (2, .int a2), (3, .int a3), (4, .int a4)]) dX12_findSums_27 rfl (by rw [ex2]; rfl) (by decide) rfl ?_
    refine J_goto (tgt := 3) dX12_findSums_30 (by decide) ?_
    refine J_sub [1, 2, 3, 4, 5, 0] rfl ?_
    exact h
set_option maxHeartbeats 4000000 in
set_option maxRecDepth 100000 in
theorem w_X12_findSums_0 {Γ : GG} {l : Launch} {d : Nat} {Q : Option Value → St → Prop} {σ : St} (a1 : Int32) (a2 : Int32) (a3 : Int32) (a4 : Int32) (h : J Γ l d mX12_findSums Q 3 [(0, .ref 59), (1, .int a1), (2, .int a2), (3, .int a3), (4, .int a4), (5, .int (0))] [] σ) : J Γ l d mX12_findSums Q 0 [(0, .ref 59), (1, .int a1), (2, .int a2), (3, .int a3), (4, .int a4)] [] σ := by
  refine J_iconst (v := 0) dX12_findSums_0 (by decide) ?_
  refine J_istore (i := 5) (lv' := [(5, .int (0)), (0, .ref 59), (1, .int a1), (2, .int a2), (3, .int a3), (4, .int a4)]) dX12_findSums_1 (by decide) rfl ?_
  refine J_sub [1, 2, 3, 4, 5, 0] rfl ?_
  exact h
theorem M_X12_findSums {Γ : GG} {l : Launch} {d : Nat} {Q : Option Value → St → Prop} {σ : St} (a1 : Int32) (a2 : Int32) (a3 : Int32) (a4 : Int32) (k : J Γ l d mX12_findSums Q 0 [(0, .ref 59), (1, .int a1), (2, .int a2), (3, .int a3), (4, .int a4)] [] σ) : Meth Γ l d mX12_findSums [.ref 59, .int a1, .int a2, .int a3, .int a4] σ Q := Meth_of_J (by decide +kernel) (fun _ => Nat.le_of_ble_eq_true rfl) (fun _ => rfl) k
set_option maxHeartbeats 4000000 in
set_option maxRecDepth 100000 in
theorem w_X12_lossOf_41 {Γ : GG} {l : Launch} {d : Nat} {Q : Option Value → St → Prop} {σ : St} (a1 : Int32) (a2 : Int32) (a3 : Int64) (a5 : Int64) (a7 : Int32) (h : ((rd σ 59 1) / (24 : Int32) < a7 → Q (some (.long a5)) σ) ∧ (¬ (rd σ 59 1) / (24 : Int32) < a7 → vp_in a7 1500 ∧ (rd σ 103 (a7.toNatClampNeg) = (0 : Int32) → ∀ x2 : Int32, x2 = a7 + 1 → J Γ l (d + 1) mX12_lossOf Q 41 [(0, .ref 59), (1, .int a1), (2, .int a2), (3, .long a3), (5, .long a5), (7, .int x2)] [] σ) ∧ (¬ rd σ 103 (a7.toNatClampNeg) = (0 : Int32) → (rd σ 102 (a7.toNatClampNeg) ≤ a2 → vp_in a1 10 ∧ ∀ x4 : Int64, x4 = a5 + ((((rd σ 64 (a1.toNatClampNeg)) + (rd σ 67 (a1.toNatClampNeg))).toInt64) * ((a2 - (rd σ 102 (a7.toNatClampNeg))).toInt64)) → ∀ x5 : Int32, x5 = a7 + 1 → J Γ l (d + 1) mX12_lossOf Q 41 [(0, .ref 59), (1, .int a1), (2, .int a2), (3, .long a3), (5, .long x4), (7, .int x5)] [] σ) ∧ (¬ rd σ 102 (a7.toNatClampNeg) ≤ a2 → ∀ x6 : Int64, x6 = a5 + (a3 * (((rd σ 102 (a7.toNatClampNeg)) - a2).toInt64)) → ∀ x7 : Int32, x7 = a7 + 1 → J Γ l (d + 1) mX12_lossOf Q 41 [(0, .ref 59), (1, .int a1), (2, .int a2), (3, .long a3), (5, .long x6), (7, .int x7)] [] σ)))) : J Γ l (d + 1) mX12_lossOf Q 41 [(0, .ref 59), (1, .int a1), (2, .int a2), (3, .long a3), (5, .long a5), (7, .int a7)] [] σ := by
  refine J_iload (i := 7) (kk := 5) dX12_lossOf_41 rfl ?_
  refine J_aload_n (i := 0) (kk := 0) dX12_lossOf_43 rfl rfl ?_
  refine J_callV [] [.int a7] calX12_today klX12_230 (b := 59) (ci := 12) (by decide) rfl rfl rfl rfl (Nat.le_of_ble_eq_true rfl) dX12_lossOf_44 (KI.to (S_X12_today) ?_)
  rintro x9 s9 ⟨rfl, rfl⟩
  refine J_icmp_gt 122 dX12_lossOf_47 (by decide) (fun hc => ?_) (fun hc => ?_)
  · replace h := h.1 hc
    refine J_lload (i := 5) (kk := 4) dX12_lossOf_122 rfl ?_
    exact J_lret rfl dX12_lossOf_124 h
  · replace h := h.2 hc
    refine J_aload_n (i := 0) (kk := 0) dX12_lossOf_50 rfl rfl ?_
    refine J_getR 103 (q := 59) (ci := 12) (kf := 59) kfX12_144 uxX12 rfl (by decide) rfl (by decide) rfl dX12_lossOf_51 ?_
    refine J_iload (i := 7) (kk := 5) dX12_lossOf_54 rfl ?_
    have b1 := h.1
    replace h := h.2
    refine J_zald2 (a7.toNatClampNeg) rfl (by decide) rfl b1 dX12_lossOf_56 ?_
    refine J_if_eq 116 dX12_lossOf_57 (by decide) (fun hc => ?_) (fun hc => ?_)
    · replace h := h.1 hc
      obtain ⟨x2, ex2⟩ : ∃ y : Int32, y = a7 + 1 := ⟨_, rfl⟩
      replace h := h x2 ex2
      refine J_iinc (i := 7) (kk := 5) (v := x2) (lv' := [(7, .int x2), (0, .ref 59), (1, .int a1), (2, .int a2), (3, .long a3), (5, .long a5)]) dX12_lossOf_116 rfl (by rw [ex2]; rfl) (by decide) rfl ?_
      refine J_goto (tgt := 41) dX12_lossOf_119 (by decide) ?_
      refine J_sub [1, 2, 3, 4, 5, 0] rfl ?_
      exact h
    · replace h := h.2 hc
      refine J_lload (i := 5) (kk := 4) dX12_lossOf_60 rfl ?_
      refine J_aload_n (i := 0) (kk := 0) dX12_lossOf_62 rfl rfl ?_
      refine J_getR 102 (q := 59) (ci := 12) (kf := 58) kfX12_141 uxX12 rfl (by decide) rfl (by decide) rfl dX12_lossOf_63 ?_
      refine J_iload (i := 7) (kk := 5) dX12_lossOf_66 rfl ?_
      refine J_ald (a7.toNatClampNeg) rfl (by decide) rfl b1 dX12_lossOf_68 ?_
      refine J_iload_n (i := 2) (kk := 2) dX12_lossOf_69 rfl rfl ?_
      refine J_icmp_le 88 dX12_lossOf_70 (by decide) (fun hc => ?_) (fun hc => ?_)
      · replace h := h.1 hc
        refine J_aload_n (i := 0) (kk := 0) dX12_lossOf_88 rfl rfl ?_
        refine J_getR 64 (q := 59) (ci := 12) (kf := 8) kfX12_22 uxX12 rfl (by decide) rfl (by decide) rfl dX12_lossOf_89 ?_
        refine J_iload_n (i := 1) (kk := 1) dX12_lossOf_92 rfl rfl ?_
        have b3 := h.1
        replace h := h.2
        refine J_ald (a1.toNatClampNeg) rfl (by decide) rfl b3 dX12_lossOf_93 ?_
        refine J_aload_n (i := 0) (kk := 0) dX12_lossOf_94 rfl rfl ?_
        refine J_getR 67 (q := 59) (ci := 12) (kf := 11) kfX12_31 uxX12 rfl (by decide) rfl (by decide) rfl dX12_lossOf_95 ?_
        refine J_iload_n (i := 1) (kk := 1) dX12_lossOf_98 rfl rfl ?_
        refine J_ald (a1.toNatClampNeg) rfl (by decide) rfl b3 dX12_lossOf_99 ?_
        refine J_iadd dX12_lossOf_100 ?_
        refine J_i2l dX12_lossOf_101 ?_
        refine J_iload_n (i := 2) (kk := 2) dX12_lossOf_102 rfl rfl ?_
        refine J_aload_n (i := 0) (kk := 0) dX12_lossOf_103 rfl rfl ?_
        refine J_getR 102 (q := 59) (ci := 12) (kf := 58) kfX12_141 uxX12 rfl (by decide) rfl (by decide) rfl dX12_lossOf_104 ?_
        refine J_iload (i := 7) (kk := 5) dX12_lossOf_107 rfl ?_
        refine J_ald (a7.toNatClampNeg) rfl (by decide) rfl b1 dX12_lossOf_109 ?_
        refine J_isub dX12_lossOf_110 ?_
        refine J_i2l dX12_lossOf_111 ?_
        refine J_lmul dX12_lossOf_112 ?_
        refine J_ladd dX12_lossOf_113 ?_
        refine J_nameL (fun x4 ex4 => ?_)
        replace h := h x4 ex4
        refine J_lstore (i := 5) (lv' := [(5, .long x4), (0, .ref 59), (1, .int a1), (2, .int a2), (3, .long a3), (7, .int a7)]) dX12_lossOf_114 (by decide) rfl ?_
        obtain ⟨x5, ex5⟩ : ∃ y : Int32, y = a7 + 1 := ⟨_, rfl⟩
        replace h := h x5 ex5
        refine J_iinc (i := 7) (kk := 5) (v := x5) (lv' := [(7, .int x5), (5, .long x4), (0, .ref 59), (1, .int a1), (2, .int a2), (3, .long a3)]) dX12_lossOf_116 rfl (by rw [ex5]; rfl) (by decide) rfl ?_
        refine J_goto (tgt := 41) dX12_lossOf_119 (by decide) ?_
        refine J_sub [2, 3, 4, 5, 1, 0] rfl ?_
        exact h
      · replace h := h.2 hc
        refine J_lload_n (i := 3) (kk := 3) dX12_lossOf_73 rfl rfl ?_
        refine J_aload_n (i := 0) (kk := 0) dX12_lossOf_74 rfl rfl ?_
        refine J_getR 102 (q := 59) (ci := 12) (kf := 58) kfX12_141 uxX12 rfl (by decide) rfl (by decide) rfl dX12_lossOf_75 ?_
        refine J_iload (i := 7) (kk := 5) dX12_lossOf_78 rfl ?_
        refine J_ald (a7.toNatClampNeg) rfl (by decide) rfl b1 dX12_lossOf_80 ?_
        refine J_iload_n (i := 2) (kk := 2) dX12_lossOf_81 rfl rfl ?_
        refine J_isub dX12_lossOf_82 ?_
        refine J_i2l dX12_lossOf_83 ?_
        refine J_lmul dX12_lossOf_84 ?_
        refine J_goto (tgt := 113) dX12_lossOf_85 (by decide) ?_
        refine J_ladd dX12_lossOf_113 ?_
        refine J_nameL (fun x6 ex6 => ?_)
        replace h := h x6 ex6
        refine J_lstore (i := 5) (lv' := [(5, .long x6), (0, .ref 59), (1, .int a1), (2, .int a2), (3, .long a3), (7, .int a7)]) dX12_lossOf_114 (by decide) rfl ?_
        obtain ⟨x7, ex7⟩ : ∃ y : Int32, y = a7 + 1 := ⟨_, rfl⟩
        replace h := h x7 ex7
        refine J_iinc (i := 7) (kk := 5) (v := x7) (lv' := [(7, .int x7), (5, .long x6), (0, .ref 59), (1, .int a1), (2, .int a2), (3, .long a3)]) dX12_lossOf_116 rfl (by rw [ex7]; rfl) (by decide) rfl ?_
        refine J_goto (tgt := 41) dX12_lossOf_119 (by decide) ?_
        refine J_sub [2, 3, 4, 5, 1, 0] rfl ?_
        exact h
set_option maxHeartbeats 4000000 in
set_option maxRecDepth 100000 in
theorem w_X12_lossOf_0 {Γ : GG} {l : Launch} {d : Nat} {Q : Option Value → St → Prop} {σ : St} (a1 : Int32) (a2 : Int32) (h : vp_in a1 10 ∧ ((0 : Int32) ≤ (rd σ 63 (a1.toNatClampNeg)) - (rd σ 64 (a1.toNatClampNeg)) → ∀ x2 : Int64, x2 = ((rd σ 63 (a1.toNatClampNeg)) - (rd σ 64 (a1.toNatClampNeg))).toInt64 → J Γ l (d + 1) mX12_lossOf Q 41 [(0, .ref 59), (1, .int a1), (2, .int a2), (3, .long x2), (5, .long 0), (7, .int (0))] [] σ) ∧ (¬ (0 : Int32) ≤ (rd σ 63 (a1.toNatClampNeg)) - (rd σ 64 (a1.toNatClampNeg)) → J Γ l (d + 1) mX12_lossOf Q 41 [(0, .ref 59), (1, .int a1), (2, .int a2), (3, .long 0), (5, .long 0), (7, .int (0))] [] σ)) : J Γ l (d + 1) mX12_lossOf Q 0 [(0, .ref 59), (1, .int a1), (2, .int a2)] [] σ := by
  refine J_aload_n (i := 0) (kk := 0) dX12_lossOf_0 rfl rfl ?_
  refine J_getR 63 (q := 59) (ci := 12) (kf := 7) kfX12_19 uxX12 rfl (by decide) rfl (by decide) rfl dX12_lossOf_1 ?_
  refine J_iload_n (i := 1) (kk := 1) dX12_lossOf_4 rfl rfl ?_
  have b1 := h.1
  replace h := h.2
  refine J_ald (a1.toNatClampNeg) rfl (by decide) rfl b1 dX12_lossOf_5 ?_
  refine J_aload_n (i := 0) (kk := 0) dX12_lossOf_6 rfl rfl ?_
  refine J_getR 64 (q := 59) (ci := 12) (kf := 8) kfX12_22 uxX12 rfl (by decide) rfl (by decide) rfl dX12_lossOf_7 ?_
  refine J_iload_n (i := 1) (kk := 1) dX12_lossOf_10 rfl rfl ?_
  refine J_ald (a1.toNatClampNeg) rfl (by decide) rfl b1 dX12_lossOf_11 ?_
  refine J_isub dX12_lossOf_12 ?_
  refine J_if_ge 20 dX12_lossOf_13 (by decide) (fun hc => ?_) (fun hc => ?_)
  · replace h := h.1 hc
    refine J_aload_n (i := 0) (kk := 0) dX12_lossOf_20 rfl rfl ?_
    refine J_getR 63 (q := 59) (ci := 12) (kf := 7) kfX12_19 uxX12 rfl (by decide) rfl (by decide) rfl dX12_lossOf_21 ?_
    refine J_iload_n (i := 1) (kk := 1) dX12_lossOf_24 rfl rfl ?_
    refine J_ald (a1.toNatClampNeg) rfl (by decide) rfl b1 dX12_lossOf_25 ?_
    refine J_aload_n (i := 0) (kk := 0) dX12_lossOf_26 rfl rfl ?_
    refine J_getR 64 (q := 59) (ci := 12) (kf := 8) kfX12_22 uxX12 rfl (by decide) rfl (by decide) rfl dX12_lossOf_27 ?_
    refine J_iload_n (i := 1) (kk := 1) dX12_lossOf_30 rfl rfl ?_
    refine J_ald (a1.toNatClampNeg) rfl (by decide) rfl b1 dX12_lossOf_31 ?_
    refine J_isub dX12_lossOf_32 ?_
    refine J_i2l dX12_lossOf_33 ?_
    refine J_nameL (fun x2 ex2 => ?_)
    replace h := h x2 ex2
    refine J_lstore_n (i := 3) (lv' := [(3, .long x2), (0, .ref 59), (1, .int a1), (2, .int a2)]) dX12_lossOf_34 rfl (by decide) rfl ?_
    refine J_lconst (v := 0) dX12_lossOf_35 (by decide) ?_
    refine J_lstore (i := 5) (lv' := [(5, .long 0), (3, .long x2), (0, .ref 59), (1, .int a1), (2, .int a2)]) dX12_lossOf_36 (by decide) rfl ?_
    refine J_iconst (v := 0) dX12_lossOf_38 (by decide) ?_
    refine J_istore (i := 7) (lv' := [(7, .int (0)), (5, .long 0), (3, .long x2), (0, .ref 59), (1, .int a1), (2, .int a2)]) dX12_lossOf_39 (by decide) rfl ?_
    refine J_sub [3, 4, 5, 2, 1, 0] rfl ?_
    exact h
  · replace h := h.2 hc
    refine J_lconst (v := 0) dX12_lossOf_16 (by decide) ?_
    refine J_goto (tgt := 34) dX12_lossOf_17 (by decide) ?_
    refine J_lstore_n (i := 3) (lv' := [(3, .long 0), (0, .ref 59), (1, .int a1), (2, .int a2)]) dX12_lossOf_34 rfl (by decide) rfl ?_
    refine J_lconst (v := 0) dX12_lossOf_35 (by decide) ?_
    refine J_lstore (i := 5) (lv' := [(5, .long 0), (3, .long 0), (0, .ref 59), (1, .int a1), (2, .int a2)]) dX12_lossOf_36 (by decide) rfl ?_
    refine J_iconst (v := 0) dX12_lossOf_38 (by decide) ?_
    refine J_istore (i := 7) (lv' := [(7, .int (0)), (5, .long 0), (3, .long 0), (0, .ref 59), (1, .int a1), (2, .int a2)]) dX12_lossOf_39 (by decide) rfl ?_
    refine J_sub [3, 4, 5, 2, 1, 0] rfl ?_
    exact h
theorem M_X12_lossOf {Γ : GG} {l : Launch} {d : Nat} {Q : Option Value → St → Prop} {σ : St} (a1 : Int32) (a2 : Int32) (k : J Γ l (d + 1) mX12_lossOf Q 0 [(0, .ref 59), (1, .int a1), (2, .int a2)] [] σ) : Meth Γ l (d + 1) mX12_lossOf [.ref 59, .int a1, .int a2] σ Q := Meth_of_J (by decide +kernel) (fun _ => Nat.le_of_ble_eq_true rfl) (fun _ => rfl) k
set_option maxHeartbeats 4000000 in
set_option maxRecDepth 100000 in
theorem w_X12_order_37 {Γ : GG} {l : Launch} {d : Nat} {Q : Option Value → St → Prop} {σ : St} (a2 : Int32) (a5 : Int32) (a6 : Int64) (a8 : Int32) (h : ((1000 : Int32) ≤ a8 → Q (some (.int a5)) σ) ∧ (¬ (1000 : Int32) ≤ a8 → Meth Γ l (d + 3) mX12_lossOf [.ref 59, .int a2, .int a8] σ (KL (fun x2 σ1 => (lg_cmp x2 a6 < (0 : Int32) → ∀ x3 : Int32, x3 = a8 + 1 → J Γ l (d + 4) mX12_order Q 37 [(0, .ref 59), (2, .int a2), (5, .int a8), (6, .long x2), (8, .int x3)] [] σ1) ∧ (¬ lg_cmp x2 a6 < (0 : Int32) → ∀ x4 : Int32, x4 = a8 + 1 → J Γ l (d + 4) mX12_order Q 37 [(0, .ref 59), (2, .int a2), (5, .int a5), (6, .long a6), (8, .int x4)] [] σ1))))) : J Γ l (d + 4) mX12_order Q 37 [(0, .ref 59), (2, .int a2), (5, .int a5), (6, .long a6), (8, .int a8)] [] σ := by
  refine J_iload (i := 8) (kk := 4) dX12_order_37 rfl ?_
  refine J_sipush (v := 1000) dX12_order_39 (by decide) ?_
  refine J_icmp_ge 79 dX12_order_42 (by decide) (fun hc => ?_) (fun hc => ?_)
  · replace h := h.1 hc
    refine J_iload (i := 5) (kk := 2) dX12_order_79 rfl ?_
    exact J_iret rfl dX12_order_81 h
  · replace h := h.2 hc
    refine J_aload_n (i := 0) (kk := 0) dX12_order_45 rfl rfl ?_
    refine J_iload_n (i := 2) (kk := 1) dX12_order_46 rfl rfl ?_
    refine J_iload (i := 8) (kk := 4) dX12_order_47 rfl ?_
    refine J_callV [.int a2, .int a8] [] calX12_lossOf klX12_365 (b := 59) (ci := 12) (by decide) rfl rfl rfl rfl (Nat.le_of_ble_eq_true rfl) dX12_order_49 (KL.to h ?_)
    clear h
    intro x2 σ1 h
    refine J_lstore (i := 9) (lv' := [(9, .long x2), (0, .ref 59), (2, .int a2), (5, .int a5), (6, .long a6), (8, .int a8)]) dX12_order_52 (by decide) rfl ?_
    refine J_lload (i := 9) (kk := 0) dX12_order_54 rfl ?_
    refine J_lload (i := 6) (kk := 4) dX12_order_56 rfl ?_
    refine J_lcmp dX12_order_58 ?_
    refine J_if_lt 65 dX12_order_59 (by decide) (fun hc => ?_) (fun hc => ?_)
    · replace h := h.1 hc
      refine J_lload (i := 9) (kk := 0) dX12_order_65 rfl ?_
      refine J_lstore (i := 6) (lv' := [(6, .long x2), (9, .long x2), (0, .ref 59), (2, .int a2), (5, .int a5), (8, .int a8)]) dX12_order_67 (by decide) rfl ?_
      refine J_iload (i := 8) (kk := 5) dX12_order_69 rfl ?_
      refine J_istore (i := 5) (lv' := [(5, .int a8), (6, .long x2), (9, .long x2), (0, .ref 59), (2, .int a2), (8, .int a8)]) dX12_order_71 (by decide) rfl ?_
      obtain ⟨x3, ex3⟩ : ∃ y : Int32, y = a8 + 1 := ⟨_, rfl⟩
      replace h := h x3 ex3
      refine J_iinc (i := 8) (kk := 5) (v := x3) (lv' := [(8, .int x3), (5, .int a8), (6, .long x2), (9, .long x2), (0, .ref 59), (2, .int a2)]) dX12_order_73 rfl (by rw [ex3]; rfl) (by decide) rfl ?_
      refine J_goto (tgt := 37) dX12_order_76 (by decide) ?_
      refine J_sub [4, 5, 1, 2, 0] rfl ?_
      exact h
    · replace h := h.2 hc
      refine J_goto (tgt := 73) dX12_order_62 (by decide) ?_
      obtain ⟨x4, ex4⟩ : ∃ y : Int32, y = a8 + 1 := ⟨_, rfl⟩
      replace h := h x4 ex4
      refine J_iinc (i := 8) (kk := 5) (v := x4) (lv' := [(8, .int x4), (9, .long x2), (0, .ref 59), (2, .int a2), (5, .int a5), (6, .long a6)]) dX12_order_73 rfl (by rw [ex4]; rfl) (by decide) rfl ?_
      refine J_goto (tgt := 37) dX12_order_76 (by decide) ?_
      refine J_sub [2, 3, 4, 5, 0] rfl ?_
      exact h
set_option maxHeartbeats 4000000 in
set_option maxRecDepth 100000 in
theorem w_X12_order_0 {Γ : GG} {l : Launch} {d : Nat} {Q : Option Value → St → Prop} {σ : St} (a1 : Int32) (a2 : Int32) (a3 : Int32) (a4 : Int32) (h : Meth Γ l (d + 3) mX12_isOrder [.ref 59, .int a1, .int a2, .int a3, .int a4] σ (KI (fun x2 σ1 => (x2 = (0 : Int32) → Q (some (.int ((-1)))) σ1) ∧ (¬ x2 = (0 : Int32) → Meth Γ l (d + 3) mX12_findSums [.ref 59, .int a1, .int a2, .int a3, .int a4] σ1 (KV (fun σ3 => Meth Γ l (d + 3) mX12_lossOf [.ref 59, .int a2, .int (0)] σ3 (KL (fun x5 σ4 => J Γ l (d + 4) mX12_order Q 37 [(0, .ref 59), (2, .int a2), (5, .int (0)), (6, .long x5), (8, .int (1))] [] σ4)))))))) : J Γ l (d + 4) mX12_order Q 0 [(0, .ref 59), (1, .int a1), (2, .int a2), (3, .int a3), (4, .int a4)] [] σ := by
  refine J_aload_n (i := 0) (kk := 0) dX12_order_0 rfl rfl ?_
  refine J_iload_n (i := 1) (kk := 1) dX12_order_1 rfl rfl ?_
  refine J_iload_n (i := 2) (kk := 2) dX12_order_2 rfl rfl ?_
  refine J_iload_n (i := 3) (kk := 3) dX12_order_3 rfl rfl ?_
  refine J_iload (i := 4) (kk := 4) dX12_order_4 rfl ?_
  refine J_callV [.int a1, .int a2, .int a3, .int a4] [] calX12_isOrder klX12_357 (b := 59) (ci := 12) (by decide) rfl rfl rfl rfl (Nat.le_of_ble_eq_true rfl) dX12_order_6 (KI.to h ?_)
  clear h
  intro x2 σ1 h
  refine J_if_ne 14 dX12_order_9 (by decide) (fun hc => ?_) (fun hc => ?_)
  · replace h := h.2 hc
    refine J_aload_n (i := 0) (kk := 0) dX12_order_14 rfl rfl ?_
    refine J_iload_n (i := 1) (kk := 1) dX12_order_15 rfl rfl ?_
    refine J_iload_n (i := 2) (kk := 2) dX12_order_16 rfl rfl ?_
    refine J_iload_n (i := 3) (kk := 3) dX12_order_17 rfl rfl ?_
    refine J_iload (i := 4) (kk := 4) dX12_order_18 rfl ?_
    refine J_callV [.int a1, .int a2, .int a3, .int a4] [] calX12_findSums klX12_361 (b := 59) (ci := 12) (by decide) rfl rfl rfl rfl (Nat.le_of_ble_eq_true rfl) dX12_order_20 (KV.to h ?_)
    clear h
    intro σ3 h
    refine J_iconst (v := 0) dX12_order_23 (by decide) ?_
    refine J_istore (i := 5) (lv' := [(5, .int (0)), (0, .ref 59), (1, .int a1), (2, .int a2), (3, .int a3), (4, .int a4)]) dX12_order_24 (by decide) rfl ?_
    refine J_aload_n (i := 0) (kk := 1) dX12_order_26 rfl rfl ?_
    refine J_iload_n (i := 2) (kk := 3) dX12_order_27 rfl rfl ?_
    refine J_iconst (v := 0) dX12_order_28 (by decide) ?_
    refine J_callV [.int a2, .int (0)] [] calX12_lossOf klX12_365 (b := 59) (ci := 12) (by decide) rfl rfl rfl rfl (Nat.le_of_ble_eq_true rfl) dX12_order_29 (KL.to h ?_)
    clear h
    intro x5 σ4 h
    refine J_lstore (i := 6) (lv' := [(6, .long x5), (5, .int (0)), (0, .ref 59), (1, .int a1), (2, .int a2), (3, .int a3), (4, .int a4)]) dX12_order_32 (by decide) rfl ?_
    refine J_iconst (v := 1) dX12_order_34 (by decide) ?_
    refine J_istore (i := 8) (lv' := [(8, .int (1)), (6, .long x5), (5, .int (0)), (0, .ref 59), (1, .int a1), (2, .int a2), (3, .int a3), (4, .int a4)]) dX12_order_35 (by decide) rfl ?_
    refine J_sub [3, 5, 2, 1, 0] rfl ?_
    exact h
  · replace h := h.1 hc
    refine J_iconst (v := (-1)) dX12_order_12 (by decide) ?_
    exact J_iret rfl dX12_order_13 h
theorem M_X12_order {Γ : GG} {l : Launch} {d : Nat} {Q : Option Value → St → Prop} {σ : St} (a1 : Int32) (a2 : Int32) (a3 : Int32) (a4 : Int32) (k : J Γ l (d + 4) mX12_order Q 0 [(0, .ref 59), (1, .int a1), (2, .int a2), (3, .int a3), (4, .int a4)] [] σ) : Meth Γ l (d + 4) mX12_order [.ref 59, .int a1, .int a2, .int a3, .int a4] σ Q := Meth_of_J (by decide +kernel) (fun _ => Nat.le_of_ble_eq_true rfl) (fun _ => rfl) k
set_option maxHeartbeats 4000000 in
set_option maxRecDepth 100000 in
theorem w_X12_loss_0 {Γ : GG} {l : Launch} {d : Nat} {Q : Option Value → St → Prop} {σ : St} (a1 : Int32) (a2 : Int32) (a3 : Int32) (a4 : Int32) (a5 : Int32) (h : Meth Γ l (d + 3) mX12_isOrder [.ref 59, .int a1, .int a2, .int a3, .int a4] σ (KI (fun x2 σ1 => (x2 = (0 : Int32) → Q (some (.long (-1))) σ1) ∧ (¬ x2 = (0 : Int32) → ((0 : Int32) ≤ a5 ∧ a5 ≤ (999 : Int32) → Meth Γ l (d + 3) mX12_findSums [.ref 59, .int a1, .int a2, .int a3, .int a4] σ1 (KV (fun σ3 => Meth Γ l (d + 3) mX12_lossOf [.ref 59, .int a2, .int a5] σ3 (KL (fun x5 σ4 => Q (some (.long x5)) σ4))))) ∧ (¬ ((0 : Int32) ≤ a5 ∧ a5 ≤ (999 : Int32)) → Q (some (.long (-1))) σ1))))) : J Γ l (d + 4) mX12_loss Q 0 [(0, .ref 59), (1, .int a1), (2, .int a2), (3, .int a3), (4, .int a4), (5, .int a5)] [] σ := by
  refine J_aload_n (i := 0) (kk := 0) dX12_loss_0 rfl rfl ?_
  refine J_iload_n (i := 1) (kk := 1) dX12_loss_1 rfl rfl ?_
  refine J_iload_n (i := 2) (kk := 2) dX12_loss_2 rfl rfl ?_
  refine J_iload_n (i := 3) (kk := 3) dX12_loss_3 rfl rfl ?_
  refine J_iload (i := 4) (kk := 4) dX12_loss_4 rfl ?_
  refine J_callV [.int a1, .int a2, .int a3, .int a4] [] calX12_isOrder klX12_357 (b := 59) (ci := 12) (by decide) rfl rfl rfl rfl (Nat.le_of_ble_eq_true rfl) dX12_loss_6 (KI.to h ?_)
  clear h
  intro x2 σ1 h
  refine J_if_eq 24 dX12_loss_9 (by decide) (fun hc => ?_) (fun hc => ?_)
  · replace h := h.1 hc
    refine J_ldc2 (v := (-1)) kqX12_369 dX12_loss_24 ?_
    exact J_lret rfl dX12_loss_27 h
  · replace h := h.2 hc
    refine J_iload (i := 5) (kk := 5) dX12_loss_12 rfl ?_
    refine J_iconst (v := 0) dX12_loss_14 (by decide) ?_
    refine J_sipush (v := 999) dX12_loss_15 (by decide) ?_
    refine J_callS [.int a5, .int (0), .int (999)] [] calX12_in klX12_196 rfl rfl (Nat.le_of_ble_eq_true rfl) dX12_loss_18 (KI.to (S_X12_in a5 (0 : Int32) (999 : Int32)) ?_)
    rintro x9 s9 ⟨rfl, ⟨g6, rfl⟩ | ⟨g6, rfl⟩⟩
    · replace h := h.1 g6
      refine J_if_ne 28 dX12_loss_21 (by decide) (fun _ => ?_) (fun hc => absurd hc (by decide))
      refine J_aload_n (i := 0) (kk := 0) dX12_loss_28 rfl rfl ?_
      refine J_iload_n (i := 1) (kk := 1) dX12_loss_29 rfl rfl ?_
      refine J_iload_n (i := 2) (kk := 2) dX12_loss_30 rfl rfl ?_
      refine J_iload_n (i := 3) (kk := 3) dX12_loss_31 rfl rfl ?_
      refine J_iload (i := 4) (kk := 4) dX12_loss_32 rfl ?_
      refine J_callV [.int a1, .int a2, .int a3, .int a4] [] calX12_findSums klX12_361 (b := 59) (ci := 12) (by decide) rfl rfl rfl rfl (Nat.le_of_ble_eq_true rfl) dX12_loss_34 (KV.to h ?_)
      clear h
      intro σ3 h
      refine J_aload_n (i := 0) (kk := 0) dX12_loss_37 rfl rfl ?_
      refine J_iload_n (i := 2) (kk := 2) dX12_loss_38 rfl rfl ?_
      refine J_iload (i := 5) (kk := 5) dX12_loss_39 rfl ?_
      refine J_callV [.int a2, .int a5] [] calX12_lossOf klX12_365 (b := 59) (ci := 12) (by decide) rfl rfl rfl rfl (Nat.le_of_ble_eq_true rfl) dX12_loss_41 (KL.to h ?_)
      clear h
      intro x5 σ4 h
      exact J_lret rfl dX12_loss_44 h
    · replace h := h.2 g6
      refine J_if_ne 28 dX12_loss_21 (by decide) (fun hc => absurd hc (by decide)) (fun _ => ?_)
      refine J_ldc2 (v := (-1)) kqX12_369 dX12_loss_24 ?_
      exact J_lret rfl dX12_loss_27 h
theorem M_X12_loss {Γ : GG} {l : Launch} {d : Nat} {Q : Option Value → St → Prop} {σ : St} (a1 : Int32) (a2 : Int32) (a3 : Int32) (a4 : Int32) (a5 : Int32) (k : J Γ l (d + 4) mX12_loss Q 0 [(0, .ref 59), (1, .int a1), (2, .int a2), (3, .int a3), (4, .int a4), (5, .int a5)] [] σ) : Meth Γ l (d + 4) mX12_loss [.ref 59, .int a1, .int a2, .int a3, .int a4, .int a5] σ Q := Meth_of_J (by decide +kernel) (fun _ => Nat.le_of_ble_eq_true rfl) (fun _ => rfl) k
set_option maxHeartbeats 4000000 in
set_option maxRecDepth 100000 in
theorem w_X12_crates_0 {Γ : GG} {l : Launch} {d : Nat} {Q : Option Value → St → Prop} {σ : St} (a1 : Int32) (a2 : Int32) (a3 : Int32) (h : (0 ≤ a1 ∧ a1 ≤ (rd σ 59 2) - (1 : Int32) → ((0 : Int32) ≤ a2 ∧ a2 ≤ (1 : Int32) → ((0 : Int32) ≤ a3 ∧ a3 ≤ (3 : Int32) → (a2 = (0 : Int32) → vp_in a1 12 ∧ (a2 = (0 : Int32) → Q (some (.int (rd σ 104 (a1.toNatClampNeg)))) (wr σ 104 (a1.toNatClampNeg) a3)) ∧ (¬ a2 = (0 : Int32) → Q (some (.int (rd σ 104 (a1.toNatClampNeg)))) (wr σ 105 (a1.toNatClampNeg) a3))) ∧ (¬ a2 = (0 : Int32) → vp_in a1 12 ∧ (a2 = (0 : Int32) → Q (some (.int (rd σ 105 (a1.toNatClampNeg)))) (wr σ 104 (a1.toNatClampNeg) a3)) ∧ (¬ a2 = (0 : Int32) → Q (some (.int (rd σ 105 (a1.toNatClampNeg)))) (wr σ 105 (a1.toNatClampNeg) a3)))) ∧ (¬ ((0 : Int32) ≤ a3 ∧ a3 ≤ (3 : Int32)) → Q (some (.int ((-1)))) σ)) ∧ (¬ ((0 : Int32) ≤ a2 ∧ a2 ≤ (1 : Int32)) → Q (some (.int ((-1)))) σ)) ∧ (¬ (0 ≤ a1 ∧ a1 ≤ (rd σ 59 2) - (1 : Int32)) → Q (some (.int ((-1)))) σ)) : J Γ l (d + 2) mX12_crates Q 0 [(0, .ref 59), (1, .int a1), (2, .int a2), (3, .int a3)] [] σ := by
  refine J_aload_n (i := 0) (kk := 0) dX12_crates_0 rfl rfl ?_
  refine J_iload_n (i := 1) (kk := 1) dX12_crates_1 rfl rfl ?_
  refine J_callV [.int a1] [] calX12_isShop klX12_209 (b := 59) (ci := 12) (by decide) rfl rfl rfl rfl (Nat.le_of_ble_eq_true rfl) dX12_crates_2 (KI.to (S_X12_isShop a1) ?_)
  rintro x9 s9 ⟨rfl, ⟨g5, rfl⟩ | ⟨g5, rfl⟩⟩
  · replace h := h.1 g5
    refine J_if_eq 26 dX12_crates_5 (by decide) (fun hc => absurd hc (by decide)) (fun _ => ?_)
    refine J_iload_n (i := 2) (kk := 2) dX12_crates_8 rfl rfl ?_
    refine J_iconst (v := 0) dX12_crates_9 (by decide) ?_
    refine J_iconst (v := 1) dX12_crates_10 (by decide) ?_
    refine J_callS [.int a2, .int (0), .int (1)] [] calX12_in klX12_196 rfl rfl (Nat.le_of_ble_eq_true rfl) dX12_crates_11 (KI.to (S_X12_in a2 (0 : Int32) (1 : Int32)) ?_)
    rintro x9 s9 ⟨rfl, ⟨g4, rfl⟩ | ⟨g4, rfl⟩⟩
    · replace h := h.1 g4
      refine J_if_eq 26 dX12_crates_14 (by decide) (fun hc => absurd hc (by decide)) (fun _ => ?_)
      refine J_iload_n (i := 3) (kk := 3) dX12_crates_17 rfl rfl ?_
      refine J_iconst (v := 0) dX12_crates_18 (by decide) ?_
      refine J_iconst (v := 3) dX12_crates_19 (by decide) ?_
      refine J_callS [.int a3, .int (0), .int (3)] [] calX12_in klX12_196 rfl rfl (Nat.le_of_ble_eq_true rfl) dX12_crates_20 (KI.to (S_X12_in a3 (0 : Int32) (3 : Int32)) ?_)
      rintro x9 s9 ⟨rfl, ⟨g3, rfl⟩ | ⟨g3, rfl⟩⟩
      · replace h := h.1 g3
        refine J_if_ne 28 dX12_crates_23 (by decide) (fun _ => ?_) (fun hc => absurd hc (by decide))
        refine J_iload_n (i := 2) (kk := 2) dX12_crates_28 rfl rfl ?_
        refine J_if_ne 41 dX12_crates_29 (by decide) (fun hc => ?_) (fun hc => ?_)
        · replace h := h.2 hc
          refine J_aload_n (i := 0) (kk := 0) dX12_crates_41 rfl rfl ?_
          refine J_getR 105 (q := 59) (ci := 12) (kf := 61) kfX12_151 uxX12 rfl (by decide) rfl (by decide) rfl dX12_crates_42 ?_
          refine J_iload_n (i := 1) (kk := 1) dX12_crates_45 rfl rfl ?_
          have b1 := h.1
          replace h := h.2
          refine J_ald (a1.toNatClampNeg) rfl (by decide) rfl b1 dX12_crates_46 ?_
          refine J_istore (i := 4) (lv' := [(4, .int (rd σ 105 (a1.toNatClampNeg))), (0, .ref 59), (1, .int a1), (2, .int a2), (3, .int a3)]) dX12_crates_47 (by decide) rfl ?_
          refine J_iload_n (i := 2) (kk := 3) dX12_crates_49 rfl rfl ?_
          refine J_if_ne 63 dX12_crates_50 (by decide) (fun hc => ?_) (fun hc => ?_)
          · replace h := h.2 hc
            refine J_aload_n (i := 0) (kk := 1) dX12_crates_63 rfl rfl ?_
            refine J_getR 105 (q := 59) (ci := 12) (kf := 61) kfX12_151 uxX12 rfl (by decide) rfl (by decide) rfl dX12_crates_64 ?_
            refine J_iload_n (i := 1) (kk := 2) dX12_crates_67 rfl rfl ?_
            refine J_iload_n (i := 3) (kk := 4) dX12_crates_68 rfl rfl ?_
            refine J_ast (a1.toNatClampNeg) rfl (by decide) rfl b1 dX12_crates_69 ?_
            refine J_iload (i := 4) (kk := 0) dX12_crates_70 rfl ?_
            exact J_iret rfl dX12_crates_72 h
          · replace h := h.1 hc
            refine J_aload_n (i := 0) (kk := 1) dX12_crates_53 rfl rfl ?_
            refine J_getR 104 (q := 59) (ci := 12) (kf := 60) kfX12_148 uxX12 rfl (by decide) rfl (by decide) rfl dX12_crates_54 ?_
            refine J_iload_n (i := 1) (kk := 2) dX12_crates_57 rfl rfl ?_
            refine J_iload_n (i := 3) (kk := 4) dX12_crates_58 rfl rfl ?_
            refine J_ast (a1.toNatClampNeg) rfl (by decide) rfl b1 dX12_crates_59 ?_
            refine J_goto (tgt := 70) dX12_crates_60 (by decide) ?_
            refine J_iload (i := 4) (kk := 0) dX12_crates_70 rfl ?_
            exact J_iret rfl dX12_crates_72 h
        · replace h := h.1 hc
          refine J_aload_n (i := 0) (kk := 0) dX12_crates_32 rfl rfl ?_
          refine J_getR 104 (q := 59) (ci := 12) (kf := 60) kfX12_148 uxX12 rfl (by decide) rfl (by decide) rfl dX12_crates_33 ?_
          refine J_iload_n (i := 1) (kk := 1) dX12_crates_36 rfl rfl ?_
          have b2 := h.1
          replace h := h.2
          refine J_ald (a1.toNatClampNeg) rfl (by decide) rfl b2 dX12_crates_37 ?_
          refine J_goto (tgt := 47) dX12_crates_38 (by decide) ?_
          refine J_istore (i := 4) (lv' := [(4, .int (rd σ 104 (a1.toNatClampNeg))), (0, .ref 59), (1, .int a1), (2, .int a2), (3, .int a3)]) dX12_crates_47 (by decide) rfl ?_
          refine J_iload_n (i := 2) (kk := 3) dX12_crates_49 rfl rfl ?_
          refine J_if_ne 63 dX12_crates_50 (by decide) (fun hc => ?_) (fun hc => ?_)
          · replace h := h.2 hc
            refine J_aload_n (i := 0) (kk := 1) dX12_crates_63 rfl rfl ?_
            refine J_getR 105 (q := 59) (ci := 12) (kf := 61) kfX12_151 uxX12 rfl (by decide) rfl (by decide) rfl dX12_crates_64 ?_
            refine J_iload_n (i := 1) (kk := 2) dX12_crates_67 rfl rfl ?_
            refine J_iload_n (i := 3) (kk := 4) dX12_crates_68 rfl rfl ?_
            refine J_ast (a1.toNatClampNeg) rfl (by decide) rfl b2 dX12_crates_69 ?_
            refine J_iload (i := 4) (kk := 0) dX12_crates_70 rfl ?_
            exact J_iret rfl dX12_crates_72 h
          · replace h := h.1 hc
            refine J_aload_n (i := 0) (kk := 1) dX12_crates_53 rfl rfl ?_
            refine J_getR 104 (q := 59) (ci := 12) (kf := 60) kfX12_148 uxX12 rfl (by decide) rfl (by decide) rfl dX12_crates_54 ?_
            refine J_iload_n (i := 1) (kk := 2) dX12_crates_57 rfl rfl ?_
            refine J_iload_n (i := 3) (kk := 4) dX12_crates_58 rfl rfl ?_
            refine J_ast (a1.toNatClampNeg) rfl (by decide) rfl b2 dX12_crates_59 ?_
            refine J_goto (tgt := 70) dX12_crates_60 (by decide) ?_
            refine J_iload (i := 4) (kk := 0) dX12_crates_70 rfl ?_
            exact J_iret rfl dX12_crates_72 h
      · replace h := h.2 g3
        refine J_if_ne 28 dX12_crates_23 (by decide) (fun hc => absurd hc (by decide)) (fun _ => ?_)
        refine J_iconst (v := (-1)) dX12_crates_26 (by decide) ?_
        exact J_iret rfl dX12_crates_27 h
    · replace h := h.2 g4
      refine J_if_eq 26 dX12_crates_14 (by decide) (fun _ => ?_) (fun hc => absurd hc (by decide))
      refine J_iconst (v := (-1)) dX12_crates_26 (by decide) ?_
      exact J_iret rfl dX12_crates_27 h
  · replace h := h.2 g5
    refine J_if_eq 26 dX12_crates_5 (by decide) (fun _ => ?_) (fun hc => absurd hc (by decide))
    refine J_iconst (v := (-1)) dX12_crates_26 (by decide) ?_
    exact J_iret rfl dX12_crates_27 h
theorem M_X12_crates {Γ : GG} {l : Launch} {d : Nat} {Q : Option Value → St → Prop} {σ : St} (a1 : Int32) (a2 : Int32) (a3 : Int32) (k : J Γ l (d + 2) mX12_crates Q 0 [(0, .ref 59), (1, .int a1), (2, .int a2), (3, .int a3)] [] σ) : Meth Γ l (d + 2) mX12_crates [.ref 59, .int a1, .int a2, .int a3] σ Q := Meth_of_J (by decide +kernel) (fun _ => Nat.le_of_ble_eq_true rfl) (fun _ => rfl) k
set_option maxHeartbeats 4000000 in
set_option maxRecDepth 100000 in
theorem w_X12_mayCome_34 {Γ : GG} {l : Launch} {d : Nat} {Q : Option Value → St → Prop} {σ : St} (a1 : Int32) (a2 : Int32) (a3 : Int32) (a4 : Int32) (h : (a1 < a4 → vp_in a2 12 ∧ (rd σ 104 (a2.toNatClampNeg) < a3 → Q (some (.int (0))) σ) ∧ (¬ rd σ 104 (a2.toNatClampNeg) < a3 → Q (some (.int (1))) σ)) ∧ (¬ a1 < a4 → vp_in a4 6 ∧ (rd σ 107 (a4.toNatClampNeg) = a2 → ∀ x4 : Int32, x4 = a4 + 1 → J Γ l d mX12_mayCome Q 34 [(0, .ref 59), (1, .int a1), (2, .int a2), (3, .int (a3 + (1 : Int32))), (4, .int x4)] [] σ) ∧ (¬ rd σ 107 (a4.toNatClampNeg) = a2 → ∀ x3 : Int32, x3 = a4 + 1 → J Γ l d mX12_mayCome Q 34 [(0, .ref 59), (1, .int a1), (2, .int a2), (3, .int (a3 + (0 : Int32))), (4, .int x3)] [] σ))) : J Γ l d mX12_mayCome Q 34 [(0, .ref 59), (1, .int a1), (2, .int a2), (3, .int a3), (4, .int a4)] [] σ := by
  refine J_iload (i := 4) (kk := 4) dX12_mayCome_34 rfl ?_
  refine J_iload_n (i := 1) (kk := 1) dX12_mayCome_36 rfl rfl ?_
  refine J_icmp_gt 65 dX12_mayCome_37 (by decide) (fun hc => ?_) (fun hc => ?_)
  · replace h := h.1 hc
    refine J_iload_n (i := 3) (kk := 3) dX12_mayCome_65 rfl rfl ?_
    refine J_aload_n (i := 0) (kk := 0) dX12_mayCome_66 rfl rfl ?_
    refine J_getR 104 (q := 59) (ci := 12) (kf := 60) kfX12_148 uxX12 rfl (by decide) rfl (by decide) rfl dX12_mayCome_67 ?_
    refine J_iload_n (i := 2) (kk := 2) dX12_mayCome_70 rfl rfl ?_
    have b1 := h.1
    replace h := h.2
    refine J_ald (a2.toNatClampNeg) rfl (by decide) rfl b1 dX12_mayCome_71 ?_
    refine J_icmp_gt 79 dX12_mayCome_72 (by decide) (fun hc => ?_) (fun hc => ?_)
    · replace h := h.1 hc
      refine J_iconst (v := 0) dX12_mayCome_79 (by decide) ?_
      exact J_zret rfl (by decide) dX12_mayCome_80 h
    · replace h := h.2 hc
      refine J_iconst (v := 1) dX12_mayCome_75 (by decide) ?_
      refine J_goto (tgt := 80) dX12_mayCome_76 (by decide) ?_
      exact J_zret rfl (by decide) dX12_mayCome_80 h
  · replace h := h.2 hc
    refine J_iload_n (i := 3) (kk := 3) dX12_mayCome_40 rfl rfl ?_
    refine J_aload_n (i := 0) (kk := 0) dX12_mayCome_41 rfl rfl ?_
    refine J_getR 107 (q := 59) (ci := 12) (kf := 63) kfX12_157 uxX12 rfl (by decide) rfl (by decide) rfl dX12_mayCome_42 ?_
    refine J_iload (i := 4) (kk := 4) dX12_mayCome_45 rfl ?_
    have b2 := h.1
    replace h := h.2
    refine J_ald (a4.toNatClampNeg) rfl (by decide) rfl b2 dX12_mayCome_47 ?_
    refine J_iload_n (i := 2) (kk := 2) dX12_mayCome_48 rfl rfl ?_
    refine J_icmp_ne 56 dX12_mayCome_49 (by decide) (fun hc => ?_) (fun hc => ?_)
    · replace h := h.2 hc
      refine J_iconst (v := 0) dX12_mayCome_56 (by decide) ?_
      refine J_iadd dX12_mayCome_57 ?_
      refine J_istore_n (i := 3) (lv' := [(3, .int (a3 + (0 : Int32))), (0, .ref 59), (1, .int a1), (2, .int a2), (4, .int a4)]) dX12_mayCome_58 rfl (by decide) rfl ?_
      obtain ⟨x3, ex3⟩ : ∃ y : Int32, y = a4 + 1 := ⟨_, rfl⟩
      replace h := h x3 ex3
      refine J_iinc (i := 4) (kk := 4) (v := x3) (lv' := [(4, .int x3), (3, .int (a3 + (0 : Int32))), (0, .ref 59), (1, .int a1), (2, .int a2)]) dX12_mayCome_59 rfl (by rw [ex3]; rfl) (by decide) rfl ?_
      refine J_goto (tgt := 34) dX12_mayCome_62 (by decide) ?_
      refine J_sub [2, 3, 4, 1, 0] rfl ?_
      exact h
    · replace h := h.1 hc
      refine J_iconst (v := 1) dX12_mayCome_52 (by decide) ?_
      refine J_goto (tgt := 57) dX12_mayCome_53 (by decide) ?_
      refine J_iadd dX12_mayCome_57 ?_
      refine J_istore_n (i := 3) (lv' := [(3, .int (a3 + (1 : Int32))), (0, .ref 59), (1, .int a1), (2, .int a2), (4, .int a4)]) dX12_mayCome_58 rfl (by decide) rfl ?_
      obtain ⟨x4, ex4⟩ : ∃ y : Int32, y = a4 + 1 := ⟨_, rfl⟩
      replace h := h x4 ex4
      refine J_iinc (i := 4) (kk := 4) (v := x4) (lv' := [(4, .int x4), (3, .int (a3 + (1 : Int32))), (0, .ref 59), (1, .int a1), (2, .int a2)]) dX12_mayCome_59 rfl (by rw [ex4]; rfl) (by decide) rfl ?_
      refine J_goto (tgt := 34) dX12_mayCome_62 (by decide) ?_
      refine J_sub [2, 3, 4, 1, 0] rfl ?_
      exact h
set_option maxHeartbeats 4000000 in
set_option maxRecDepth 100000 in
theorem w_X12_mayCome_0 {Γ : GG} {l : Launch} {d : Nat} {Q : Option Value → St → Prop} {σ : St} (a1 : Int32) (h : vp_in a1 6 ∧ (rd σ 107 (a1.toNatClampNeg) = rd σ 59 2 → Q (some (.int (1))) σ) ∧ (¬ rd σ 107 (a1.toNatClampNeg) = rd σ 59 2 → vp_in a1 36 ∧ (rd σ 107 (a1.toNatClampNeg) = rd σ 106 (a1.toNatClampNeg) → Q (some (.int (0))) σ) ∧ (¬ rd σ 107 (a1.toNatClampNeg) = rd σ 106 (a1.toNatClampNeg) → J Γ l d mX12_mayCome Q 34 [(0, .ref 59), (1, .int a1), (2, .int (rd σ 107 (a1.toNatClampNeg))), (3, .int (0)), (4, .int (0))] [] σ))) : J Γ l d mX12_mayCome Q 0 [(0, .ref 59), (1, .int a1)] [] σ := by
  refine J_aload_n (i := 0) (kk := 0) dX12_mayCome_0 rfl rfl ?_
  refine J_getR 107 (q := 59) (ci := 12) (kf := 63) kfX12_157 uxX12 rfl (by decide) rfl (by decide) rfl dX12_mayCome_1 ?_
  refine J_iload_n (i := 1) (kk := 1) dX12_mayCome_4 rfl rfl ?_
  have b1 := h.1
  replace h := h.2
  refine J_ald (a1.toNatClampNeg) rfl (by decide) rfl b1 dX12_mayCome_5 ?_
  refine J_istore_n (i := 2) (lv' := [(2, .int (rd σ 107 (a1.toNatClampNeg))), (0, .ref 59), (1, .int a1)]) dX12_mayCome_6 rfl (by decide) rfl ?_
  refine J_iload_n (i := 2) (kk := 0) dX12_mayCome_7 rfl rfl ?_
  refine J_aload_n (i := 0) (kk := 1) dX12_mayCome_8 rfl rfl ?_
  refine J_getI (q := 59) (ci := 12) (kf := 2) kfX12_203 uxX12 rfl (by decide) rfl (by decide) rfl dX12_mayCome_9 ?_
  refine J_icmp_ne 17 dX12_mayCome_12 (by decide) (fun hc => ?_) (fun hc => ?_)
  · replace h := h.2 hc
    refine J_iload_n (i := 2) (kk := 0) dX12_mayCome_17 rfl rfl ?_
    refine J_aload_n (i := 0) (kk := 1) dX12_mayCome_18 rfl rfl ?_
    refine J_getR 106 (q := 59) (ci := 12) (kf := 62) kfX12_154 uxX12 rfl (by decide) rfl (by decide) rfl dX12_mayCome_19 ?_
    refine J_iload_n (i := 1) (kk := 2) dX12_mayCome_22 rfl rfl ?_
    have b2 := h.1
    replace h := h.2
    refine J_ald (a1.toNatClampNeg) rfl (by decide) rfl b2 dX12_mayCome_23 ?_
    refine J_icmp_ne 29 dX12_mayCome_24 (by decide) (fun hc => ?_) (fun hc => ?_)
    · replace h := h.2 hc
      refine J_iconst (v := 0) dX12_mayCome_29 (by decide) ?_
      refine J_istore_n (i := 3) (lv' := [(3, .int (0)), (2, .int (rd σ 107 (a1.toNatClampNeg))), (0, .ref 59), (1, .int a1)]) dX12_mayCome_30 rfl (by decide) rfl ?_
      refine J_iconst (v := 0) dX12_mayCome_31 (by decide) ?_
      refine J_istore (i := 4) (lv' := [(4, .int (0)), (3, .int (0)), (2, .int (rd σ 107 (a1.toNatClampNeg))), (0, .ref 59), (1, .int a1)]) dX12_mayCome_32 (by decide) rfl ?_
      refine J_sub [3, 4, 2, 1, 0] rfl ?_
      exact h
    · replace h := h.1 hc
      refine J_iconst (v := 0) dX12_mayCome_27 (by decide) ?_
      exact J_zret rfl (by decide) dX12_mayCome_28 h
  · replace h := h.1 hc
    refine J_iconst (v := 1) dX12_mayCome_15 (by decide) ?_
    exact J_zret rfl (by decide) dX12_mayCome_16 h
theorem M_X12_mayCome {Γ : GG} {l : Launch} {d : Nat} {Q : Option Value → St → Prop} {σ : St} (a1 : Int32) (k : J Γ l d mX12_mayCome Q 0 [(0, .ref 59), (1, .int a1)] [] σ) : Meth Γ l d mX12_mayCome [.ref 59, .int a1] σ Q := Meth_of_J (by decide +kernel) (fun _ => Nat.le_of_ble_eq_true rfl) (fun _ => rfl) k
set_option maxHeartbeats 4000000 in
set_option maxRecDepth 100000 in
theorem w_X12_movedTo_4 {Γ : GG} {l : Launch} {d : Nat} {Q : Option Value → St → Prop} {σ : St} (a1 : Int32) (a2 : Int32) (a3 : Int32) (h : (a1 ≤ a3 → Q (some (.int a2)) σ) ∧ (¬ a1 ≤ a3 → vp_in a3 6 ∧ (rd σ 59 2 ≤ rd σ 107 (a3.toNatClampNeg) → ∀ x2 : Int32, x2 = a3 + 1 → J Γ l d mX12_movedTo Q 4 [(0, .ref 59), (1, .int a1), (2, .int (a2 + (0 : Int32))), (3, .int x2)] [] σ) ∧ (¬ rd σ 59 2 ≤ rd σ 107 (a3.toNatClampNeg) → ∀ x3 : Int32, x3 = a3 + 1 → J Γ l d mX12_movedTo Q 4 [(0, .ref 59), (1, .int a1), (2, .int (a2 + (1 : Int32))), (3, .int x3)] [] σ))) : J Γ l d mX12_movedTo Q 4 [(0, .ref 59), (1, .int a1), (2, .int a2), (3, .int a3)] [] σ := by
  refine J_iload_n (i := 3) (kk := 3) dX12_movedTo_4 rfl rfl ?_
  refine J_iload_n (i := 1) (kk := 1) dX12_movedTo_5 rfl rfl ?_
  refine J_icmp_ge 36 dX12_movedTo_6 (by decide) (fun hc => ?_) (fun hc => ?_)
  · replace h := h.1 hc
    refine J_iload_n (i := 2) (kk := 2) dX12_movedTo_36 rfl rfl ?_
    exact J_iret rfl dX12_movedTo_37 h
  · replace h := h.2 hc
    refine J_iload_n (i := 2) (kk := 2) dX12_movedTo_9 rfl rfl ?_
    refine J_aload_n (i := 0) (kk := 0) dX12_movedTo_10 rfl rfl ?_
    refine J_getR 107 (q := 59) (ci := 12) (kf := 63) kfX12_157 uxX12 rfl (by decide) rfl (by decide) rfl dX12_movedTo_11 ?_
    refine J_iload_n (i := 3) (kk := 3) dX12_movedTo_14 rfl rfl ?_
    have b1 := h.1
    replace h := h.2
    refine J_ald (a3.toNatClampNeg) rfl (by decide) rfl b1 dX12_movedTo_15 ?_
    refine J_aload_n (i := 0) (kk := 0) dX12_movedTo_16 rfl rfl ?_
    refine J_getI (q := 59) (ci := 12) (kf := 2) kfX12_203 uxX12 rfl (by decide) rfl (by decide) rfl dX12_movedTo_17 ?_
    refine J_icmp_ge 27 dX12_movedTo_20 (by decide) (fun hc => ?_) (fun hc => ?_)
    · replace h := h.1 hc
      refine J_iconst (v := 0) dX12_movedTo_27 (by decide) ?_
      refine J_iadd dX12_movedTo_28 ?_
      refine J_istore_n (i := 2) (lv' := [(2, .int (a2 + (0 : Int32))), (0, .ref 59), (1, .int a1), (3, .int a3)]) dX12_movedTo_29 rfl (by decide) rfl ?_
      obtain ⟨x2, ex2⟩ : ∃ y : Int32, y = a3 + 1 := ⟨_, rfl⟩
      replace h := h x2 ex2
      refine J_iinc (i := 3) (kk := 3) (v := x2) (lv' := [(3, .int x2), (2, .int (a2 + (0 : Int32))), (0, .ref 59), (1, .int a1)]) dX12_movedTo_30 rfl (by rw [ex2]; rfl) (by decide) rfl ?_
      refine J_goto (tgt := 4) dX12_movedTo_33 (by decide) ?_
      refine J_sub [2, 3, 1, 0] rfl ?_
      exact h
    · replace h := h.2 hc
      refine J_iconst (v := 1) dX12_movedTo_23 (by decide) ?_
      refine J_goto (tgt := 28) dX12_movedTo_24 (by decide) ?_
      refine J_iadd dX12_movedTo_28 ?_
      refine J_istore_n (i := 2) (lv' := [(2, .int (a2 + (1 : Int32))), (0, .ref 59), (1, .int a1), (3, .int a3)]) dX12_movedTo_29 rfl (by decide) rfl ?_
      obtain ⟨x3, ex3⟩ : ∃ y : Int32, y = a3 + 1 := ⟨_, rfl⟩
      replace h := h x3 ex3
      refine J_iinc (i := 3) (kk := 3) (v := x3) (lv' := [(3, .int x3), (2, .int (a2 + (1 : Int32))), (0, .ref 59), (1, .int a1)]) dX12_movedTo_30 rfl (by rw [ex3]; rfl) (by decide) rfl ?_
      refine J_goto (tgt := 4) dX12_movedTo_33 (by decide) ?_
      refine J_sub [2, 3, 1, 0] rfl ?_
      exact h
set_option maxHeartbeats 4000000 in
set_option maxRecDepth 100000 in
theorem w_X12_movedTo_0 {Γ : GG} {l : Launch} {d : Nat} {Q : Option Value → St → Prop} {σ : St} (a1 : Int32) (h : J Γ l d mX12_movedTo Q 4 [(0, .ref 59), (1, .int a1), (2, .int (0)), (3, .int (0))] [] σ) : J Γ l d mX12_movedTo Q 0 [(0, .ref 59), (1, .int a1)] [] σ := by
  refine J_iconst (v := 0) dX12_movedTo_0 (by decide) ?_
  refine J_istore_n (i := 2) (lv' := [(2, .int (0)), (0, .ref 59), (1, .int a1)]) dX12_movedTo_1 rfl (by decide) rfl ?_
  refine J_iconst (v := 0) dX12_movedTo_2 (by decide) ?_
  refine J_istore_n (i := 3) (lv' := [(3, .int (0)), (2, .int (0)), (0, .ref 59), (1, .int a1)]) dX12_movedTo_3 rfl (by decide) rfl ?_
  refine J_sub [2, 3, 1, 0] rfl ?_
  exact h
theorem M_X12_movedTo {Γ : GG} {l : Launch} {d : Nat} {Q : Option Value → St → Prop} {σ : St} (a1 : Int32) (k : J Γ l d mX12_movedTo Q 0 [(0, .ref 59), (1, .int a1)] [] σ) : Meth Γ l d mX12_movedTo [.ref 59, .int a1] σ Q := Meth_of_J (by decide +kernel) (fun _ => Nat.le_of_ble_eq_true rfl) (fun _ => rfl) k
set_option maxHeartbeats 4000000 in
set_option maxRecDepth 100000 in
theorem w_X12_milesTo_4 {Γ : GG} {l : Launch} {d : Nat} {Q : Option Value → St → Prop} {σ : St} (a1 : Int32) (a2 : Int32) (a3 : Int32) (h : (a1 ≤ a3 → Q (some (.int a2)) σ) ∧ (¬ a1 ≤ a3 → vp_in a3 6 ∧ (rd σ 59 2 ≤ rd σ 107 (a3.toNatClampNeg) → ∀ x2 : Int32, x2 = a3 + 1 → J Γ l (d + 2) mX12_milesTo Q 4 [(0, .ref 59), (1, .int a1), (2, .int (a2 + (0 : Int32))), (3, .int x2)] [] σ) ∧ (¬ rd σ 59 2 ≤ rd σ 107 (a3.toNatClampNeg) → vp_in a3 36 ∧ (vp_in (rd σ 107 (a3.toNatClampNeg)) 12 ∧ vp_in (rd σ 106 (a3.toNatClampNeg)) 12) ∧ ∀ x5 : Int32, x5 = a2 + (offI (rd σ 60 ((rd σ 107 (a3.toNatClampNeg)).toNatClampNeg)) (rd σ 60 ((rd σ 106 (a3.toNatClampNeg)).toNatClampNeg)) + offI (rd σ 61 ((rd σ 107 (a3.toNatClampNeg)).toNatClampNeg)) (rd σ 61 ((rd σ 106 (a3.toNatClampNeg)).toNatClampNeg))) → ∀ x6 : Int32, x6 = a3 + 1 → J Γ l (d + 2) mX12_milesTo Q 4 [(0, .ref 59), (1, .int a1), (2, .int x5), (3, .int x6)] [] σ))) : J Γ l (d + 2) mX12_milesTo Q 4 [(0, .ref 59), (1, .int a1), (2, .int a2), (3, .int a3)] [] σ := by
  refine J_iload_n (i := 3) (kk := 3) dX12_milesTo_4 rfl rfl ?_
  refine J_iload_n (i := 1) (kk := 1) dX12_milesTo_5 rfl rfl ?_
  refine J_icmp_ge 51 dX12_milesTo_6 (by decide) (fun hc => ?_) (fun hc => ?_)
  · replace h := h.1 hc
    refine J_iload_n (i := 2) (kk := 2) dX12_milesTo_51 rfl rfl ?_
    exact J_iret rfl dX12_milesTo_52 h
  · replace h := h.2 hc
    refine J_iload_n (i := 2) (kk := 2) dX12_milesTo_9 rfl rfl ?_
    refine J_aload_n (i := 0) (kk := 0) dX12_milesTo_10 rfl rfl ?_
    refine J_getR 107 (q := 59) (ci := 12) (kf := 63) kfX12_157 uxX12 rfl (by decide) rfl (by decide) rfl dX12_milesTo_11 ?_
    refine J_iload_n (i := 3) (kk := 3) dX12_milesTo_14 rfl rfl ?_
    have b1 := h.1
    replace h := h.2
    refine J_ald (a3.toNatClampNeg) rfl (by decide) rfl b1 dX12_milesTo_15 ?_
    refine J_aload_n (i := 0) (kk := 0) dX12_milesTo_16 rfl rfl ?_
    refine J_getI (q := 59) (ci := 12) (kf := 2) kfX12_203 uxX12 rfl (by decide) rfl (by decide) rfl dX12_milesTo_17 ?_
    refine J_icmp_ge 42 dX12_milesTo_20 (by decide) (fun hc => ?_) (fun hc => ?_)
    · replace h := h.1 hc
      refine J_iconst (v := 0) dX12_milesTo_42 (by decide) ?_
      refine J_iadd dX12_milesTo_43 ?_
      refine J_istore_n (i := 2) (lv' := [(2, .int (a2 + (0 : Int32))), (0, .ref 59), (1, .int a1), (3, .int a3)]) dX12_milesTo_44 rfl (by decide) rfl ?_
      obtain ⟨x2, ex2⟩ : ∃ y : Int32, y = a3 + 1 := ⟨_, rfl⟩
      replace h := h x2 ex2
      refine J_iinc (i := 3) (kk := 3) (v := x2) (lv' := [(3, .int x2), (2, .int (a2 + (0 : Int32))), (0, .ref 59), (1, .int a1)]) dX12_milesTo_45 rfl (by rw [ex2]; rfl) (by decide) rfl ?_
      refine J_goto (tgt := 4) dX12_milesTo_48 (by decide) ?_
      refine J_sub [2, 3, 1, 0] rfl ?_
      exact h
    · replace h := h.2 hc
      refine J_aload_n (i := 0) (kk := 0) dX12_milesTo_23 rfl rfl ?_
      refine J_aload_n (i := 0) (kk := 0) dX12_milesTo_24 rfl rfl ?_
      refine J_getR 107 (q := 59) (ci := 12) (kf := 63) kfX12_157 uxX12 rfl (by decide) rfl (by decide) rfl dX12_milesTo_25 ?_
      refine J_iload_n (i := 3) (kk := 3) dX12_milesTo_28 rfl rfl ?_
      refine J_ald (a3.toNatClampNeg) rfl (by decide) rfl b1 dX12_milesTo_29 ?_
      refine J_aload_n (i := 0) (kk := 0) dX12_milesTo_30 rfl rfl ?_
      refine J_getR 106 (q := 59) (ci := 12) (kf := 62) kfX12_154 uxX12 rfl (by decide) rfl (by decide) rfl dX12_milesTo_31 ?_
      refine J_iload_n (i := 3) (kk := 3) dX12_milesTo_34 rfl rfl ?_
      have b3 := h.1
      replace h := h.2
      refine J_ald (a3.toNatClampNeg) rfl (by decide) rfl b3 dX12_milesTo_35 ?_
      have b4 := h.1
      replace h := h.2
      refine J_callV [.int (rd σ 107 (a3.toNatClampNeg)), .int (rd σ 106 (a3.toNatClampNeg))] [.int a2] calX12_miles klX12_374 (b := 59) (ci := 12) (by decide) rfl rfl rfl rfl (Nat.le_of_ble_eq_true rfl) dX12_milesTo_36 (KI.to (S_X12_miles (rd σ 107 (a3.toNatClampNeg)) (rd σ 106 (a3.toNatClampNeg)) b4) ?_)
      rintro x9 s9 ⟨rfl, rfl⟩
      refine J_goto (tgt := 43) dX12_milesTo_39 (by decide) ?_
      refine J_iadd dX12_milesTo_43 ?_
      refine J_nameI (fun x5 ex5 => ?_)
      replace h := h x5 ex5
      refine J_istore_n (i := 2) (lv' := [(2, .int x5), (0, .ref 59), (1, .int a1), (3, .int a3)]) dX12_milesTo_44 rfl (by decide) rfl ?_
      obtain ⟨x6, ex6⟩ : ∃ y : Int32, y = a3 + 1 := ⟨_, rfl⟩
      replace h := h x6 ex6
      refine J_iinc (i := 3) (kk := 3) (v := x6) (lv' := [(3, .int x6), (2, .int x5), (0, .ref 59), (1, .int a1)]) dX12_milesTo_45 rfl (by rw [ex6]; rfl) (by decide) rfl ?_
      refine J_goto (tgt := 4) dX12_milesTo_48 (by decide) ?_
      refine J_sub [2, 3, 1, 0] rfl ?_
      exact h
set_option maxHeartbeats 4000000 in
set_option maxRecDepth 100000 in
theorem w_X12_milesTo_0 {Γ : GG} {l : Launch} {d : Nat} {Q : Option Value → St → Prop} {σ : St} (a1 : Int32) (h : J Γ l (d + 2) mX12_milesTo Q 4 [(0, .ref 59), (1, .int a1), (2, .int (0)), (3, .int (0))] [] σ) : J Γ l (d + 2) mX12_milesTo Q 0 [(0, .ref 59), (1, .int a1)] [] σ := by
  refine J_iconst (v := 0) dX12_milesTo_0 (by decide) ?_
  refine J_istore_n (i := 2) (lv' := [(2, .int (0)), (0, .ref 59), (1, .int a1)]) dX12_milesTo_1 rfl (by decide) rfl ?_
  refine J_iconst (v := 0) dX12_milesTo_2 (by decide) ?_
  refine J_istore_n (i := 3) (lv' := [(3, .int (0)), (2, .int (0)), (0, .ref 59), (1, .int a1)]) dX12_milesTo_3 rfl (by decide) rfl ?_
  refine J_sub [2, 3, 1, 0] rfl ?_
  exact h
theorem M_X12_milesTo {Γ : GG} {l : Launch} {d : Nat} {Q : Option Value → St → Prop} {σ : St} (a1 : Int32) (k : J Γ l (d + 2) mX12_milesTo Q 0 [(0, .ref 59), (1, .int a1)] [] σ) : Meth Γ l (d + 2) mX12_milesTo [.ref 59, .int a1] σ Q := Meth_of_J (by decide +kernel) (fun _ => Nat.le_of_ble_eq_true rfl) (fun _ => rfl) k
set_option maxHeartbeats 4000000 in
set_option maxRecDepth 100000 in
theorem w_X12_ways_219 {Γ : GG} {l : Launch} {d : Nat} {Q : Option Value → St → Prop} {σ : St} (a1 : Int32) (a2 : Int32) (a3 : Int32) (a4 : Int32) (a6 : Int32) (h : (a1 ≤ a6 → J Γ l (d + 3) mX12_ways Q 82 [(0, .ref 59), (1, .int a1), (2, .int a2), (3, .int a3), (4, .int a4)] [] σ) ∧ (¬ a1 ≤ a6 → vp_in a6 6 ∧ ∀ x2 : Int32, x2 = a6 + 1 → J Γ l (d + 3) mX12_ways Q 219 [(0, .ref 59), (1, .int a1), (2, .int a2), (3, .int a3), (4, .int a4), (6, .int x2)] [] (wr σ 108 (a6.toNatClampNeg) (rd σ 107 (a6.toNatClampNeg))))) : J Γ l (d + 3) mX12_ways Q 219 [(0, .ref 59), (1, .int a1), (2, .int a2), (3, .int a3), (4, .int a4), (6, .int a6)] [] σ := by
  refine J_iload (i := 6) (kk := 5) dX12_ways_219 rfl ?_
  refine J_iload_n (i := 1) (kk := 1) dX12_ways_221 rfl rfl ?_
  refine J_icmp_ge 245 dX12_ways_222 (by decide) (fun hc => ?_) (fun hc => ?_)
  · replace h := h.1 hc
    refine J_goto (tgt := 82) dX12_ways_245 (by decide) ?_
    refine J_sub [0, 1, 2, 3, 4] rfl ?_
    exact h
  · replace h := h.2 hc
    refine J_aload_n (i := 0) (kk := 0) dX12_ways_225 rfl rfl ?_
    refine J_getR 108 (q := 59) (ci := 12) (kf := 64) kfX12_160 uxX12 rfl (by decide) rfl (by decide) rfl dX12_ways_226 ?_
    refine J_iload (i := 6) (kk := 5) dX12_ways_229 rfl ?_
    refine J_aload_n (i := 0) (kk := 0) dX12_ways_231 rfl rfl ?_
    refine J_getR 107 (q := 59) (ci := 12) (kf := 63) kfX12_157 uxX12 rfl (by decide) rfl (by decide) rfl dX12_ways_232 ?_
    refine J_iload (i := 6) (kk := 5) dX12_ways_235 rfl ?_
    have b1 := h.1
    replace h := h.2
    refine J_ald (a6.toNatClampNeg) rfl (by decide) rfl b1 dX12_ways_237 ?_
    refine J_ast (a6.toNatClampNeg) rfl (by decide) rfl b1 dX12_ways_238 ?_
    obtain ⟨x2, ex2⟩ : ∃ y : Int32, y = a6 + 1 := ⟨_, rfl⟩
    replace h := h x2 ex2
    refine J_iinc (i := 6) (kk := 5) (v := x2) (lv' := [(6, .int x2), (0, .ref 59), (1, .int a1), (2, .int a2), (3, .int a3), (4, .int a4)]) dX12_ways_239 rfl (by rw [ex2]; rfl) (by decide) rfl ?_
    refine J_goto (tgt := 219) dX12_ways_242 (by decide) ?_
    refine J_sub [1, 2, 3, 4, 5, 0] rfl ?_
    exact h
set_option maxHeartbeats 4000000 in
set_option maxRecDepth 100000 in
theorem w_X12_ways_182 {Γ : GG} {l : Launch} {d : Nat} {Q : Option Value → St → Prop} {σ : St} (a1 : Int32) (a2 : Int32) (a3 : Int32) (a4 : Int32) (h : (a1 - (1 : Int32) ≤ a4 → Meth Γ l (d + 2) mX12_movedTo [.ref 59, .int a1] σ (KI (fun x2 σ1 => Meth Γ l (d + 2) mX12_milesTo [.ref 59, .int a1] σ1 (KI (fun x4 σ3 => J Γ l (d + 3) mX12_ways Q 219 [(0, .ref 59), (1, .int a1), (2, .int x2), (3, .int x4), (4, .int a4), (6, .int (0))] [] σ3))))) ∧ (¬ a1 - (1 : Int32) ≤ a4 → ∀ x5 : Int32, x5 = a4 + 1 → vp_in x5 6 ∧ J Γ l (d + 3) mX12_ways Q 82 [(0, .ref 59), (1, .int a1), (2, .int a2), (3, .int a3), (4, .int x5)] [] (wr σ 107 (x5.toNatClampNeg) ((-1) : Int32)))) : J Γ l (d + 3) mX12_ways Q 182 [(0, .ref 59), (1, .int a1), (2, .int a2), (3, .int a3), (4, .int a4)] [] σ := by
  refine J_iload (i := 4) (kk := 4) dX12_ways_182 rfl ?_
  refine J_iload_n (i := 1) (kk := 1) dX12_ways_184 rfl rfl ?_
  refine J_iconst (v := 1) dX12_ways_185 (by decide) ?_
  refine J_isub dX12_ways_186 ?_
  refine J_icmp_ge 204 dX12_ways_187 (by decide) (fun hc => ?_) (fun hc => ?_)
  · replace h := h.1 hc
    refine J_aload_n (i := 0) (kk := 0) dX12_ways_204 rfl rfl ?_
    refine J_iload_n (i := 1) (kk := 1) dX12_ways_205 rfl rfl ?_
    refine J_callV [.int a1] [] calX12_movedTo klX12_383 (b := 59) (ci := 12) (by decide) rfl rfl rfl rfl (Nat.le_of_ble_eq_true rfl) dX12_ways_206 (KI.to h ?_)
    clear h
    intro x2 σ1 h
    refine J_istore_n (i := 2) (lv' := [(2, .int x2), (0, .ref 59), (1, .int a1), (3, .int a3), (4, .int a4)]) dX12_ways_209 rfl (by decide) rfl ?_
    refine J_aload_n (i := 0) (kk := 1) dX12_ways_210 rfl rfl ?_
    refine J_iload_n (i := 1) (kk := 2) dX12_ways_211 rfl rfl ?_
    refine J_callV [.int a1] [] calX12_milesTo klX12_386 (b := 59) (ci := 12) (by decide) rfl rfl rfl rfl (Nat.le_of_ble_eq_true rfl) dX12_ways_212 (KI.to h ?_)
    clear h
    intro x4 σ3 h
    refine J_istore_n (i := 3) (lv' := [(3, .int x4), (2, .int x2), (0, .ref 59), (1, .int a1), (4, .int a4)]) dX12_ways_215 rfl (by decide) rfl ?_
    refine J_iconst (v := 0) dX12_ways_216 (by decide) ?_
    refine J_istore (i := 6) (lv' := [(6, .int (0)), (3, .int x4), (2, .int x2), (0, .ref 59), (1, .int a1), (4, .int a4)]) dX12_ways_217 (by decide) rfl ?_
    refine J_sub [3, 4, 2, 1, 5, 0] rfl ?_
    exact h
  · replace h := h.2 hc
    obtain ⟨x5, ex5⟩ : ∃ y : Int32, y = a4 + 1 := ⟨_, rfl⟩
    replace h := h x5 ex5
    refine J_iinc (i := 4) (kk := 4) (v := x5) (lv' := [(4, .int x5), (0, .ref 59), (1, .int a1), (2, .int a2), (3, .int a3)]) dX12_ways_190 rfl (by rw [ex5]; rfl) (by decide) rfl ?_
    refine J_aload_n (i := 0) (kk := 1) dX12_ways_193 rfl rfl ?_
    refine J_getR 107 (q := 59) (ci := 12) (kf := 63) kfX12_157 uxX12 rfl (by decide) rfl (by decide) rfl dX12_ways_194 ?_
    refine J_iload (i := 4) (kk := 0) dX12_ways_197 rfl ?_
    refine J_iconst (v := (-1)) dX12_ways_199 (by decide) ?_
    have b6 := h.1
    replace h := h.2
    refine J_ast (x5.toNatClampNeg) rfl (by decide) rfl b6 dX12_ways_200 ?_
    refine J_goto (tgt := 82) dX12_ways_201 (by decide) ?_
    refine J_sub [1, 2, 3, 4, 0] rfl ?_
    exact h
set_option maxHeartbeats 4000000 in
set_option maxRecDepth 100000 in
theorem w_X12_ways_82 {Γ : GG} {l : Launch} {d : Nat} {Q : Option Value → St → Prop} {σ : St} (a1 : Int32) (a2 : Int32) (a3 : Int32) (a4 : Int32) (h : (a4 < (0 : Int32) → Q (some (.int a3)) σ) ∧ (¬ a4 < (0 : Int32) → (a1 ≤ (0 : Int32) → Q (some (.int a3)) σ) ∧ (¬ a1 ≤ (0 : Int32) → vp_in a4 6 ∧ (rd (wr σ 107 (a4.toNatClampNeg) ((rd σ 107 (a4.toNatClampNeg)) + (1 : Int32))) 107 (a4.toNatClampNeg) ≤ rd σ 59 2 → Meth Γ l (d + 2) mX12_mayCome [.ref 59, .int a4] (wr σ 107 (a4.toNatClampNeg) ((rd σ 107 (a4.toNatClampNeg)) + (1 : Int32))) (KI (fun x3 σ2 => (x3 = (0 : Int32) → J Γ l (d + 3) mX12_ways Q 82 [(0, .ref 59), (1, .int a1), (2, .int a2), (3, .int a3), (4, .int a4)] [] σ2) ∧ (¬ x3 = (0 : Int32) → Meth Γ l (d + 2) mX12_movedTo [.ref 59, .int (a4 + (1 : Int32))] σ2 (KI (fun x5 σ4 => (a2 < (0 : Int32) → J Γ l (d + 3) mX12_ways Q 182 [(0, .ref 59), (1, .int a1), (2, .int a2), (3, .int a3), (4, .int a4)] [] σ4) ∧ (¬ a2 < (0 : Int32) → (((x5 + a1) - a4) - (1 : Int32) < a2 → J Γ l (d + 3) mX12_ways Q 82 [(0, .ref 59), (1, .int a1), (2, .int a2), (3, .int a3), (4, .int a4)] [] σ4) ∧ (¬ ((x5 + a1) - a4) - (1 : Int32) < a2 → (((x5 + a1) - a4) - (1 : Int32) = a2 → Meth Γ l (d + 2) mX12_milesTo [.ref 59, .int (a4 + (1 : Int32))] σ4 (KI (fun x7 σ6 => (x7 < a3 → J Γ l (d + 3) mX12_ways Q 182 [(0, .ref 59), (1, .int a1), (2, .int a2), (3, .int a3), (4, .int a4)] [] σ6) ∧ (¬ x7 < a3 → J Γ l (d + 3) mX12_ways Q 82 [(0, .ref 59), (1, .int a1), (2, .int a2), (3, .int a3), (4, .int a4)] [] σ6)))) ∧ (¬ ((x5 + a1) - a4) - (1 : Int32) = a2 → J Γ l (d + 3) mX12_ways Q 182 [(0, .ref 59), (1, .int a1), (2, .int a2), (3, .int a3), (4, .int a4)] [] σ4))))))))) ∧ (¬ rd (wr σ 107 (a4.toNatClampNeg) ((rd σ 107 (a4.toNatClampNeg)) + (1 : Int32))) 107 (a4.toNatClampNeg) ≤ rd σ 59 2 → ∀ x8 : Int32, x8 = a4 + (-1) → J Γ l (d + 3) mX12_ways Q 82 [(0, .ref 59), (1, .int a1), (2, .int a2), (3, .int a3), (4, .int x8)] [] (wr σ 107 (a4.toNatClampNeg) ((rd σ 107 (a4.toNatClampNeg)) + (1 : Int32))))))) : J Γ l (d + 3) mX12_ways Q 82 [(0, .ref 59), (1, .int a1), (2, .int a2), (3, .int a3), (4, .int a4)] [] σ := by
  refine J_iload (i := 4) (kk := 4) dX12_ways_82 rfl ?_
  refine J_if_lt 248 dX12_ways_84 (by decide) (fun hc => ?_) (fun hc => ?_)
  · replace h := h.1 hc
    refine J_iload_n (i := 3) (kk := 3) dX12_ways_248 rfl rfl ?_
    exact J_iret rfl dX12_ways_249 h
  · replace h := h.2 hc
    refine J_iload_n (i := 1) (kk := 1) dX12_ways_87 rfl rfl ?_
    refine J_if_le 248 dX12_ways_88 (by decide) (fun hc => ?_) (fun hc => ?_)
    · replace h := h.1 hc
      refine J_iload_n (i := 3) (kk := 3) dX12_ways_248 rfl rfl ?_
      exact J_iret rfl dX12_ways_249 h
    · replace h := h.2 hc
      refine J_aload_n (i := 0) (kk := 0) dX12_ways_91 rfl rfl ?_
      refine J_getR 107 (q := 59) (ci := 12) (kf := 63) kfX12_157 uxX12 rfl (by decide) rfl (by decide) rfl dX12_ways_92 ?_
      refine J_iload (i := 4) (kk := 4) dX12_ways_95 rfl ?_
      refine J_dup2_11 dX12_ways_97 rfl rfl ?_
      have b1 := h.1
      replace h := h.2
      refine J_ald (a4.toNatClampNeg) rfl (by decide) rfl b1 dX12_ways_98 ?_
      refine J_iconst (v := 1) dX12_ways_99 (by decide) ?_
      refine J_iadd dX12_ways_100 ?_
      refine J_ast (a4.toNatClampNeg) rfl (by decide) rfl b1 dX12_ways_101 ?_
      refine J_aload_n (i := 0) (kk := 0) dX12_ways_102 rfl rfl ?_
      refine J_getR 107 (q := 59) (ci := 12) (kf := 63) kfX12_157 uxX12 rfl (by decide) rfl (by decide) rfl dX12_ways_103 ?_
      refine J_iload (i := 4) (kk := 4) dX12_ways_106 rfl ?_
      refine J_ald (a4.toNatClampNeg) rfl (by decide) rfl b1 dX12_ways_108 ?_
      refine J_aload_n (i := 0) (kk := 0) dX12_ways_109 rfl rfl ?_
      refine J_getI (q := 59) (ci := 12) (kf := 2) kfX12_203 uxX12 rfl (by decide) rfl (by decide) rfl dX12_ways_110 ?_
      refine J_eqI (y := rd σ 59 2) rfl ?_
      refine J_icmp_le 122 dX12_ways_113 (by decide) (fun hc => ?_) (fun hc => ?_)
      · replace h := h.1 hc
        refine J_aload_n (i := 0) (kk := 0) dX12_ways_122 rfl rfl ?_
        refine J_iload (i := 4) (kk := 4) dX12_ways_123 rfl ?_
        refine J_callV [.int a4] [] calX12_mayCome klX12_380 (b := 59) (ci := 12) (by decide) rfl rfl rfl rfl (Nat.le_of_ble_eq_true rfl) dX12_ways_125 (KI.to h ?_)
        clear h
        intro x3 σ2 h
        refine J_if_ne 134 dX12_ways_128 (by decide) (fun hc => ?_) (fun hc => ?_)
        · replace h := h.2 hc
          refine J_aload_n (i := 0) (kk := 0) dX12_ways_134 rfl rfl ?_
          refine J_iload (i := 4) (kk := 4) dX12_ways_135 rfl ?_
          refine J_iconst (v := 1) dX12_ways_137 (by decide) ?_
          refine J_iadd dX12_ways_138 ?_
          refine J_callV [.int (a4 + (1 : Int32))] [] calX12_movedTo klX12_383 (b := 59) (ci := 12) (by decide) rfl rfl rfl rfl (Nat.le_of_ble_eq_true rfl) dX12_ways_139 (KI.to h ?_)
          clear h
          intro x5 σ4 h
          refine J_iload_n (i := 1) (kk := 1) dX12_ways_142 rfl rfl ?_
          refine J_iadd dX12_ways_143 ?_
          refine J_iload (i := 4) (kk := 4) dX12_ways_144 rfl ?_
          refine J_isub dX12_ways_146 ?_
          refine J_iconst (v := 1) dX12_ways_147 (by decide) ?_
          refine J_isub dX12_ways_148 ?_
          refine J_istore (i := 5) (lv' := [(5, .int (((x5 + a1) - a4) - (1 : Int32))), (0, .ref 59), (1, .int a1), (2, .int a2), (3, .int a3), (4, .int a4)]) dX12_ways_149 (by decide) rfl ?_
          refine J_iload_n (i := 2) (kk := 3) dX12_ways_151 rfl rfl ?_
          refine J_if_lt 182 dX12_ways_152 (by decide) (fun hc => ?_) (fun hc => ?_)
          · replace h := h.1 hc
            refine J_sub [1, 2, 3, 4, 5] rfl ?_
            exact h
          · replace h := h.2 hc
            refine J_iload (i := 5) (kk := 0) dX12_ways_155 rfl ?_
            refine J_iload_n (i := 2) (kk := 3) dX12_ways_157 rfl rfl ?_
            refine J_icmp_lt 82 dX12_ways_158 (by decide) (fun hc => ?_) (fun hc => ?_)
            · replace h := h.1 hc
              refine J_sub [1, 2, 3, 4, 5] rfl ?_
              exact h
            · replace h := h.2 hc
              refine J_iload (i := 5) (kk := 0) dX12_ways_161 rfl ?_
              refine J_iload_n (i := 2) (kk := 3) dX12_ways_163 rfl rfl ?_
              refine J_icmp_ne 182 dX12_ways_164 (by decide) (fun hc => ?_) (fun hc => ?_)
              · replace h := h.2 hc
                refine J_sub [1, 2, 3, 4, 5] rfl ?_
                exact h
              · replace h := h.1 hc
                refine J_aload_n (i := 0) (kk := 1) dX12_ways_167 rfl rfl ?_
                refine J_iload (i := 4) (kk := 5) dX12_ways_168 rfl ?_
                refine J_iconst (v := 1) dX12_ways_170 (by decide) ?_
                refine J_iadd dX12_ways_171 ?_
                refine J_callV [.int (a4 + (1 : Int32))] [] calX12_milesTo klX12_386 (b := 59) (ci := 12) (by decide) rfl rfl rfl rfl (Nat.le_of_ble_eq_true rfl) dX12_ways_172 (KI.to h ?_)
                clear h
                intro x7 σ6 h
                refine J_iload_n (i := 3) (kk := 4) dX12_ways_175 rfl rfl ?_
                refine J_icmp_lt 182 dX12_ways_176 (by decide) (fun hc => ?_) (fun hc => ?_)
                · replace h := h.1 hc
                  refine J_sub [1, 2, 3, 4, 5] rfl ?_
                  exact h
                · replace h := h.2 hc
                  refine J_goto (tgt := 82) dX12_ways_179 (by decide) ?_
                  refine J_sub [1, 2, 3, 4, 5] rfl ?_
                  exact h
        · replace h := h.1 hc
          refine J_goto (tgt := 82) dX12_ways_131 (by decide) ?_
          refine J_sub [0, 1, 2, 3, 4] rfl ?_
          exact h
      · replace h := h.2 hc
        obtain ⟨x8, ex8⟩ : ∃ y : Int32, y = a4 + (-1) := ⟨_, rfl⟩
        replace h := h x8 ex8
        refine J_iinc (i := 4) (kk := 4) (v := x8) (lv' := [(4, .int x8), (0, .ref 59), (1, .int a1), (2, .int a2), (3, .int a3)]) dX12_ways_116 rfl (by rw [ex8]; rfl) (by decide) rfl ?_
        refine J_goto (tgt := 82) dX12_ways_119 (by decide) ?_
        refine J_sub [1, 2, 3, 4, 0] rfl ?_
        exact h
set_option maxHeartbeats 4000000 in
set_option maxRecDepth 100000 in
theorem w_X12_ways_14 {Γ : GG} {l : Launch} {d : Nat} {Q : Option Value → St → Prop} {σ : St} (a1 : Int32) (a2 : Int32) (a3 : Int32) (h : vp_in a2 12 ∧ (rd σ 105 (a2.toNatClampNeg) ≤ a3 → ∀ x2 : Int32, x2 = a2 + 1 → J Γ l (d + 3) mX12_ways Q 4 [(0, .ref 59), (1, .int a1), (2, .int x2)] [] σ) ∧ (¬ rd σ 105 (a2.toNatClampNeg) ≤ a3 → vp_in a1 36 ∧ ∀ x4 : Int32, x4 = a1 + 1 → ∀ x5 : Int32, x5 = a3 + 1 → J Γ l (d + 3) mX12_ways Q 14 [(0, .ref 59), (1, .int x4), (2, .int a2), (3, .int x5)] [] (wr σ 106 (a1.toNatClampNeg) a2))) : J Γ l (d + 3) mX12_ways Q 14 [(0, .ref 59), (1, .int a1), (2, .int a2), (3, .int a3)] [] σ := by
  refine J_iload_n (i := 3) (kk := 3) dX12_ways_14 rfl rfl ?_
  refine J_aload_n (i := 0) (kk := 0) dX12_ways_15 rfl rfl ?_
  refine J_getR 105 (q := 59) (ci := 12) (kf := 61) kfX12_151 uxX12 rfl (by decide) rfl (by decide) rfl dX12_ways_16 ?_
  refine J_iload_n (i := 2) (kk := 2) dX12_ways_19 rfl rfl ?_
  have b1 := h.1
  replace h := h.2
  refine J_ald (a2.toNatClampNeg) rfl (by decide) rfl b1 dX12_ways_20 ?_
  refine J_icmp_ge 40 dX12_ways_21 (by decide) (fun hc => ?_) (fun hc => ?_)
  · replace h := h.1 hc
    obtain ⟨x2, ex2⟩ : ∃ y : Int32, y = a2 + 1 := ⟨_, rfl⟩
    replace h := h x2 ex2
    refine J_iinc (i := 2) (kk := 2) (v := x2) (lv' := [(2, .int x2), (0, .ref 59), (1, .int a1), (3, .int a3)]) dX12_ways_40 rfl (by rw [ex2]; rfl) (by decide) rfl ?_
    refine J_goto (tgt := 4) dX12_ways_43 (by decide) ?_
    refine J_sub [1, 2, 0] rfl ?_
    exact h
  · replace h := h.2 hc
    refine J_aload_n (i := 0) (kk := 0) dX12_ways_24 rfl rfl ?_
    refine J_getR 106 (q := 59) (ci := 12) (kf := 62) kfX12_154 uxX12 rfl (by decide) rfl (by decide) rfl dX12_ways_25 ?_
    refine J_iload_n (i := 1) (kk := 1) dX12_ways_28 rfl rfl ?_
    refine J_iload_n (i := 2) (kk := 2) dX12_ways_29 rfl rfl ?_
    have b3 := h.1
    replace h := h.2
    refine J_ast (a1.toNatClampNeg) rfl (by decide) rfl b3 dX12_ways_30 ?_
    obtain ⟨x4, ex4⟩ : ∃ y : Int32, y = a1 + 1 := ⟨_, rfl⟩
    replace h := h x4 ex4
    refine J_iinc (i := 1) (kk := 1) (v := x4) (lv' := [(1, .int x4), (0, .ref 59), (2, .int a2), (3, .int a3)]) dX12_ways_31 rfl (by rw [ex4]; rfl) (by decide) rfl ?_
    obtain ⟨x5, ex5⟩ : ∃ y : Int32, y = a3 + 1 := ⟨_, rfl⟩
    replace h := h x5 ex5
    refine J_iinc (i := 3) (kk := 3) (v := x5) (lv' := [(3, .int x5), (1, .int x4), (0, .ref 59), (2, .int a2)]) dX12_ways_34 rfl (by rw [ex5]; rfl) (by decide) rfl ?_
    refine J_goto (tgt := 14) dX12_ways_37 (by decide) ?_
    refine J_sub [2, 1, 3, 0] rfl ?_
    exact h
set_option maxHeartbeats 4000000 in
set_option maxRecDepth 100000 in
theorem w_X12_ways_4 {Γ : GG} {l : Launch} {d : Nat} {Q : Option Value → St → Prop} {σ : St} (a1 : Int32) (a2 : Int32) (h : (rd σ 59 2 ≤ a2 → (a1 ≤ (6 : Int32) → J Γ l (d + 3) mX12_ways Q 82 [(0, .ref 59), (1, .int a1), (2, .int ((-1))), (3, .int (0)), (4, .int (0))] [] (wr (wr (wr σ 59 65 a1) 59 66 (rd σ 59 2)) 107 0 ((-1) : Int32))) ∧ (¬ a1 ≤ (6 : Int32) → Q (some (.int ((-4)))) σ)) ∧ (¬ rd σ 59 2 ≤ a2 → J Γ l (d + 3) mX12_ways Q 14 [(0, .ref 59), (1, .int a1), (2, .int a2), (3, .int (0))] [] σ)) : J Γ l (d + 3) mX12_ways Q 4 [(0, .ref 59), (1, .int a1), (2, .int a2)] [] σ := by
  refine J_iload_n (i := 2) (kk := 2) dX12_ways_4 rfl rfl ?_
  refine J_aload_n (i := 0) (kk := 0) dX12_ways_5 rfl rfl ?_
  refine J_getI (q := 59) (ci := 12) (kf := 2) kfX12_203 uxX12 rfl (by decide) rfl (by decide) rfl dX12_ways_6 ?_
  refine J_icmp_ge 46 dX12_ways_9 (by decide) (fun hc => ?_) (fun hc => ?_)
  · replace h := h.1 hc
    refine J_iload_n (i := 1) (kk := 1) dX12_ways_46 rfl rfl ?_
    refine J_bipush (v := 6) dX12_ways_47 (by decide) ?_
    refine J_icmp_le 55 dX12_ways_49 (by decide) (fun hc => ?_) (fun hc => ?_)
    · replace h := h.1 hc
      refine J_aload_n (i := 0) (kk := 0) dX12_ways_55 rfl rfl ?_
      refine J_iload_n (i := 1) (kk := 1) dX12_ways_56 rfl rfl ?_
      refine J_putf (q := 59) (ci := 12) (kf := 65) (ty := .int) kfX12_163 uxX12 tyX12_ok nmX12 rfl (by decide) rfl (by decide) rfl rfl rfl rfl rfl dX12_ways_57 ?_
      refine J_aload_n (i := 0) (kk := 0) dX12_ways_60 rfl rfl ?_
      refine J_aload_n (i := 0) (kk := 0) dX12_ways_61 rfl rfl ?_
      refine J_getI (q := 59) (ci := 12) (kf := 2) kfX12_203 uxX12 rfl (by decide) rfl (by decide) rfl dX12_ways_62 ?_
      refine J_eqI (y := rd σ 59 2) rfl ?_
      refine J_putf (q := 59) (ci := 12) (kf := 66) (ty := .int) kfX12_377 uxX12 tyX12_ok nmX12 rfl (by decide) rfl (by decide) rfl rfl rfl rfl rfl dX12_ways_65 ?_
      refine J_iconst (v := (-1)) dX12_ways_68 (by decide) ?_
      refine J_istore_n (i := 2) (lv' := [(2, .int ((-1))), (0, .ref 59), (1, .int a1)]) dX12_ways_69 rfl (by decide) rfl ?_
      refine J_iconst (v := 0) dX12_ways_70 (by decide) ?_
      refine J_istore_n (i := 3) (lv' := [(3, .int (0)), (2, .int ((-1))), (0, .ref 59), (1, .int a1)]) dX12_ways_71 rfl (by decide) rfl ?_
      refine J_iconst (v := 0) dX12_ways_72 (by decide) ?_
      refine J_istore (i := 4) (lv' := [(4, .int (0)), (3, .int (0)), (2, .int ((-1))), (0, .ref 59), (1, .int a1)]) dX12_ways_73 (by decide) rfl ?_
      refine J_aload_n (i := 0) (kk := 3) dX12_ways_75 rfl rfl ?_
      refine J_getR 107 (q := 59) (ci := 12) (kf := 63) kfX12_157 uxX12 rfl (by decide) rfl (by decide) rfl dX12_ways_76 ?_
      refine J_iconst (v := 0) dX12_ways_79 (by decide) ?_
      refine J_iconst (v := (-1)) dX12_ways_80 (by decide) ?_
      refine J_ast 0 (by decide) (by decide) rfl (by unfold vp_in; decide) dX12_ways_81 ?_
      refine J_sub [3, 4, 2, 1, 0] rfl ?_
      exact h
    · replace h := h.2 hc
      refine J_bipush (v := (-4)) dX12_ways_52 (by decide) ?_
      exact J_iret rfl dX12_ways_54 h
  · replace h := h.2 hc
    refine J_iconst (v := 0) dX12_ways_12 (by decide) ?_
    refine J_istore_n (i := 3) (lv' := [(3, .int (0)), (0, .ref 59), (1, .int a1), (2, .int a2)]) dX12_ways_13 rfl (by decide) rfl ?_
    refine J_sub [1, 2, 3, 0] rfl ?_
    exact h
set_option maxHeartbeats 4000000 in
set_option maxRecDepth 100000 in
theorem w_X12_ways_0 {Γ : GG} {l : Launch} {d : Nat} {Q : Option Value → St → Prop} {σ : St}  (h : J Γ l (d + 3) mX12_ways Q 4 [(0, .ref 59), (1, .int (0)), (2, .int (0))] [] σ) : J Γ l (d + 3) mX12_ways Q 0 [(0, .ref 59)] [] σ := by
  refine J_iconst (v := 0) dX12_ways_0 (by decide) ?_
  refine J_istore_n (i := 1) (lv' := [(1, .int (0)), (0, .ref 59)]) dX12_ways_1 rfl (by decide) rfl ?_
  refine J_iconst (v := 0) dX12_ways_2 (by decide) ?_
  refine J_istore_n (i := 2) (lv' := [(2, .int (0)), (1, .int (0)), (0, .ref 59)]) dX12_ways_3 rfl (by decide) rfl ?_
  refine J_sub [2, 1, 0] rfl ?_
  exact h
theorem M_X12_ways {Γ : GG} {l : Launch} {d : Nat} {Q : Option Value → St → Prop} {σ : St}  (k : J Γ l (d + 3) mX12_ways Q 0 [(0, .ref 59)] [] σ) : Meth Γ l (d + 3) mX12_ways [.ref 59] σ Q := Meth_of_J (by decide +kernel) (fun _ => Nat.le_of_ble_eq_true rfl) (fun _ => rfl) k
set_option maxHeartbeats 4000000 in
set_option maxRecDepth 100000 in
theorem w_X12_comes_0 {Γ : GG} {l : Launch} {d : Nat} {Q : Option Value → St → Prop} {σ : St} (a1 : Int32) (h : ((0 : Int32) ≤ a1 ∧ a1 ≤ ((rd σ 59 65) - (1 : Int32)) → vp_in a1 6 ∧ (rd σ 108 (a1.toNatClampNeg) = rd σ 59 66 → Q (some (.int ((-2)))) σ) ∧ (¬ rd σ 108 (a1.toNatClampNeg) = rd σ 59 66 → Q (some (.int (rd σ 108 (a1.toNatClampNeg)))) σ)) ∧ (¬ ((0 : Int32) ≤ a1 ∧ a1 ≤ ((rd σ 59 65) - (1 : Int32))) → Q (some (.int ((-1)))) σ)) : J Γ l (d + 1) mX12_comes Q 0 [(0, .ref 59), (1, .int a1)] [] σ := by
  refine J_iload_n (i := 1) (kk := 1) dX12_comes_0 rfl rfl ?_
  refine J_iconst (v := 0) dX12_comes_1 (by decide) ?_
  refine J_aload_n (i := 0) (kk := 0) dX12_comes_2 rfl rfl ?_
  refine J_getI (q := 59) (ci := 12) (kf := 65) kfX12_163 uxX12 rfl (by decide) rfl (by decide) rfl dX12_comes_3 ?_
  refine J_iconst (v := 1) dX12_comes_6 (by decide) ?_
  refine J_isub dX12_comes_7 ?_
  refine J_callS [.int a1, .int (0), .int ((rd σ 59 65) - (1 : Int32))] [] calX12_in klX12_196 rfl rfl (Nat.le_of_ble_eq_true rfl) dX12_comes_8 (KI.to (S_X12_in a1 (0 : Int32) ((rd σ 59 65) - (1 : Int32))) ?_)
  rintro x9 s9 ⟨rfl, ⟨g2, rfl⟩ | ⟨g2, rfl⟩⟩
  · replace h := h.1 g2
    refine J_if_ne 18 dX12_comes_11 (by decide) (fun _ => ?_) (fun hc => absurd hc (by decide))
    refine J_aload_n (i := 0) (kk := 0) dX12_comes_18 rfl rfl ?_
    refine J_getR 108 (q := 59) (ci := 12) (kf := 64) kfX12_160 uxX12 rfl (by decide) rfl (by decide) rfl dX12_comes_19 ?_
    refine J_iload_n (i := 1) (kk := 1) dX12_comes_22 rfl rfl ?_
    have b1 := h.1
    replace h := h.2
    refine J_ald (a1.toNatClampNeg) rfl (by decide) rfl b1 dX12_comes_23 ?_
    refine J_aload_n (i := 0) (kk := 0) dX12_comes_24 rfl rfl ?_
    refine J_getI (q := 59) (ci := 12) (kf := 66) kfX12_377 uxX12 rfl (by decide) rfl (by decide) rfl dX12_comes_25 ?_
    refine J_icmp_ne 36 dX12_comes_28 (by decide) (fun hc => ?_) (fun hc => ?_)
    · replace h := h.2 hc
      refine J_aload_n (i := 0) (kk := 0) dX12_comes_36 rfl rfl ?_
      refine J_getR 108 (q := 59) (ci := 12) (kf := 64) kfX12_160 uxX12 rfl (by decide) rfl (by decide) rfl dX12_comes_37 ?_
      refine J_iload_n (i := 1) (kk := 1) dX12_comes_40 rfl rfl ?_
      refine J_ald (a1.toNatClampNeg) rfl (by decide) rfl b1 dX12_comes_41 ?_
      exact J_iret rfl dX12_comes_42 h
    · replace h := h.1 hc
      refine J_bipush (v := (-2)) dX12_comes_31 (by decide) ?_
      refine J_goto (tgt := 42) dX12_comes_33 (by decide) ?_
      exact J_iret rfl dX12_comes_42 h
  · replace h := h.2 g2
    refine J_if_ne 18 dX12_comes_11 (by decide) (fun hc => absurd hc (by decide)) (fun _ => ?_)
    refine J_iconst (v := (-1)) dX12_comes_14 (by decide) ?_
    refine J_goto (tgt := 42) dX12_comes_15 (by decide) ?_
    exact J_iret rfl dX12_comes_42 h
theorem M_X12_comes {Γ : GG} {l : Launch} {d : Nat} {Q : Option Value → St → Prop} {σ : St} (a1 : Int32) (k : J Γ l (d + 1) mX12_comes Q 0 [(0, .ref 59), (1, .int a1)] [] σ) : Meth Γ l (d + 1) mX12_comes [.ref 59, .int a1] σ Q := Meth_of_J (by decide +kernel) (fun _ => Nat.le_of_ble_eq_true rfl) (fun _ => rfl) k
set_option maxHeartbeats 4000000 in
set_option maxRecDepth 100000 in
theorem w_X12_move_172 {Γ : GG} {l : Launch} {d : Nat} {Q : Option Value → St → Prop} {σ : St} (a1 : Int32) (a2 : Int32) (a3 : Int32) (a4 : Int32) (a5 : Int32) (a6 : Int32) (a8 : Int32) (h : (a6 ≤ a8 → Q (some (.int (a4 - a5))) σ) ∧ (¬ a6 ≤ a8 → Meth Γ l (d + 4) mX12_eldest [.ref 59, .int a1, .int a3, .int (0)] σ (KI (fun x2 σ1 => vp_in x2 200 ∧ (a5 ≤ ((((rd σ1 76 x2.toNatClampNeg) - (rd σ1 77 x2.toNatClampNeg)) - (rd σ1 78 x2.toNatClampNeg)) - (rd σ1 79 x2.toNatClampNeg)) - (rd σ1 80 x2.toNatClampNeg) → vp_in x2 200 ∧ Meth Γ l (d + 4) mX12_addBatch [.ref 59, .int a2, .int a3, .int (rd σ1 73 (x2.toNatClampNeg)), .int (rd σ1 74 (x2.toNatClampNeg)), .int a5, .int x2] (wr σ1 78 (x2.toNatClampNeg) ((rd σ1 78 (x2.toNatClampNeg)) + a5)) (KV (fun σ5 => ∀ x6 : Int32, x6 = a8 + 1 → J Γ l (d + 5) mX12_move Q 172 [(0, .ref 59), (1, .int a1), (2, .int a2), (3, .int a3), (4, .int a4), (5, .int (a5 - a5)), (6, .int a6), (8, .int x6)] [] σ5))) ∧ (¬ a5 ≤ ((((rd σ1 76 x2.toNatClampNeg) - (rd σ1 77 x2.toNatClampNeg)) - (rd σ1 78 x2.toNatClampNeg)) - (rd σ1 79 x2.toNatClampNeg)) - (rd σ1 80 x2.toNatClampNeg) → vp_in x2 200 ∧ ∀ x8 : Int32, x8 = ((((rd σ1 76 x2.toNatClampNeg) - (rd σ1 77 x2.toNatClampNeg)) - (rd σ1 78 x2.toNatClampNeg)) - (rd σ1 79 x2.toNatClampNeg)) - (rd σ1 80 x2.toNatClampNeg) → vp_in x2 200 ∧ Meth Γ l (d + 4) mX12_addBatch [.ref 59, .int a2, .int a3, .int (rd σ1 73 (x2.toNatClampNeg)), .int (rd σ1 74 (x2.toNatClampNeg)), .int x8, .int x2] (wr σ1 78 (x2.toNatClampNeg) ((rd σ1 78 (x2.toNatClampNeg)) + x8)) (KV (fun σ10 => ∀ x11 : Int32, x11 = a8 + 1 → J Γ l (d + 5) mX12_move Q 172 [(0, .ref 59), (1, .int a1), (2, .int a2), (3, .int a3), (4, .int a4), (5, .int (a5 - x8)), (6, .int a6), (8, .int x11)] [] σ10))))))) : J Γ l (d + 5) mX12_move Q 172 [(0, .ref 59), (1, .int a1), (2, .int a2), (3, .int a3), (4, .int a4), (5, .int a5), (6, .int a6), (8, .int a8)] [] σ := by
  refine J_iload (i := 8) (kk := 7) dX12_move_172 rfl ?_
  refine J_iload (i := 6) (kk := 6) dX12_move_174 rfl ?_
  refine J_icmp_ge 261 dX12_move_176 (by decide) (fun hc => ?_) (fun hc => ?_)
  · replace h := h.1 hc
    refine J_iload (i := 4) (kk := 4) dX12_move_261 rfl ?_
    refine J_iload (i := 5) (kk := 5) dX12_move_263 rfl ?_
    refine J_isub dX12_move_265 ?_
    exact J_iret rfl dX12_move_266 h
  · replace h := h.2 hc
    refine J_aload_n (i := 0) (kk := 0) dX12_move_179 rfl rfl ?_
    refine J_iload_n (i := 1) (kk := 1) dX12_move_180 rfl rfl ?_
    refine J_iload_n (i := 3) (kk := 3) dX12_move_181 rfl rfl ?_
    refine J_iconst (v := 0) dX12_move_182 (by decide) ?_
    refine J_callV [.int a1, .int a3, .int (0)] [] calX12_eldest klX12_347 (b := 59) (ci := 12) (by decide) rfl rfl rfl rfl (Nat.le_of_ble_eq_true rfl) dX12_move_183 (KI.to h ?_)
    clear h
    intro x2 σ1 h
    refine J_istore (i := 9) (lv' := [(9, .int x2), (0, .ref 59), (1, .int a1), (2, .int a2), (3, .int a3), (4, .int a4), (5, .int a5), (6, .int a6), (8, .int a8)]) dX12_move_186 (by decide) rfl ?_
    refine J_aload_n (i := 0) (kk := 1) dX12_move_188 rfl rfl ?_
    refine J_iload (i := 9) (kk := 0) dX12_move_189 rfl ?_
    have b3 := h.1
    replace h := h.2
    refine J_callV [.int x2] [] calX12_onShelf klX12_245 (b := 59) (ci := 12) (by decide) rfl rfl rfl rfl (Nat.le_of_ble_eq_true rfl) dX12_move_191 (KI.to (S_X12_onShelf x2 b3) ?_)
    rintro x9 s9 ⟨rfl, rfl⟩
    refine J_iload (i := 5) (kk := 6) dX12_move_194 rfl ?_
    refine J_icmp_ge 208 dX12_move_196 (by decide) (fun hc => ?_) (fun hc => ?_)
    · replace h := h.1 hc
      refine J_iload (i := 5) (kk := 6) dX12_move_208 rfl ?_
      refine J_istore (i := 10) (lv' := [(10, .int a5), (9, .int x2), (0, .ref 59), (1, .int a1), (2, .int a2), (3, .int a3), (4, .int a4), (5, .int a5), (6, .int a6), (8, .int a8)]) dX12_move_210 (by decide) rfl ?_
      refine J_aload_n (i := 0) (kk := 2) dX12_move_212 rfl rfl ?_
      refine J_getR 78 (q := 59) (ci := 12) (kf := 24) kfX12_64 uxX12 rfl (by decide) rfl (by decide) rfl dX12_move_213 ?_
      refine J_iload (i := 9) (kk := 1) dX12_move_216 rfl ?_
      refine J_dup2_11 dX12_move_218 rfl rfl ?_
      have b4 := h.1
      replace h := h.2
      refine J_ald (x2.toNatClampNeg) rfl (by decide) rfl b4 dX12_move_219 ?_
      refine J_iload (i := 10) (kk := 0) dX12_move_220 rfl ?_
      refine J_iadd dX12_move_222 ?_
      refine J_ast (x2.toNatClampNeg) rfl (by decide) rfl b4 dX12_move_223 ?_
      refine J_iload (i := 5) (kk := 7) dX12_move_224 rfl ?_
      refine J_iload (i := 10) (kk := 0) dX12_move_226 rfl ?_
      refine J_isub dX12_move_228 ?_
      refine J_istore (i := 5) (lv' := [(5, .int (a5 - a5)), (10, .int a5), (9, .int x2), (0, .ref 59), (1, .int a1), (2, .int a2), (3, .int a3), (4, .int a4), (6, .int a6), (8, .int a8)]) dX12_move_229 (by decide) rfl ?_
      refine J_aload_n (i := 0) (kk := 3) dX12_move_231 rfl rfl ?_
      refine J_iload_n (i := 2) (kk := 5) dX12_move_232 rfl rfl ?_
      refine J_iload_n (i := 3) (kk := 6) dX12_move_233 rfl rfl ?_
      refine J_aload_n (i := 0) (kk := 3) dX12_move_234 rfl rfl ?_
      refine J_getR 73 (q := 59) (ci := 12) (kf := 19) kfX12_49 uxX12 rfl (by decide) rfl (by decide) rfl dX12_move_235 ?_
      refine J_iload (i := 9) (kk := 2) dX12_move_238 rfl ?_
      refine J_ald (x2.toNatClampNeg) rfl (by decide) rfl b4 dX12_move_240 ?_
      refine J_eqI (y := rd σ1 73 (x2.toNatClampNeg)) rfl ?_
      refine J_aload_n (i := 0) (kk := 3) dX12_move_241 rfl rfl ?_
      refine J_getR 74 (q := 59) (ci := 12) (kf := 20) kfX12_52 uxX12 rfl (by decide) rfl (by decide) rfl dX12_move_242 ?_
      refine J_iload (i := 9) (kk := 2) dX12_move_245 rfl ?_
      refine J_ald (x2.toNatClampNeg) rfl (by decide) rfl b4 dX12_move_247 ?_
      refine J_eqI (y := rd σ1 74 (x2.toNatClampNeg)) rfl ?_
      refine J_iload (i := 10) (kk := 1) dX12_move_248 rfl ?_
      refine J_iload (i := 9) (kk := 2) dX12_move_250 rfl ?_
      refine J_callV [.int a2, .int a3, .int (rd σ1 73 (x2.toNatClampNeg)), .int (rd σ1 74 (x2.toNatClampNeg)), .int a5, .int x2] [] calX12_addBatch klX12_234 (b := 59) (ci := 12) (by decide) rfl rfl rfl rfl (Nat.le_of_ble_eq_true rfl) dX12_move_252 (KV.to h ?_)
      clear h
      intro σ5 h
      obtain ⟨x6, ex6⟩ : ∃ y : Int32, y = a8 + 1 := ⟨_, rfl⟩
      replace h := h x6 ex6
      refine J_iinc (i := 8) (kk := 9) (v := x6) (lv' := [(8, .int x6), (5, .int (a5 - a5)), (10, .int a5), (9, .int x2), (0, .ref 59), (1, .int a1), (2, .int a2), (3, .int a3), (4, .int a4), (6, .int a6)]) dX12_move_255 rfl (by rw [ex6]; rfl) (by decide) rfl ?_
      refine J_goto (tgt := 172) dX12_move_258 (by decide) ?_
      refine J_sub [4, 5, 6, 7, 8, 1, 9, 0] rfl ?_
      exact h
    · replace h := h.2 hc
      refine J_aload_n (i := 0) (kk := 1) dX12_move_199 rfl rfl ?_
      refine J_iload (i := 9) (kk := 0) dX12_move_200 rfl ?_
      have b7 := h.1
      replace h := h.2
      refine J_callV [.int x2] [] calX12_onShelf klX12_245 (b := 59) (ci := 12) (by decide) rfl rfl rfl rfl (Nat.le_of_ble_eq_true rfl) dX12_move_202 (KI.to (S_X12_onShelf x2 b7) ?_)
      rintro x9 s9 ⟨rfl, rfl⟩
      refine J_goto (tgt := 210) dX12_move_205 (by decide) ?_
      refine J_nameI (fun x8 ex8 => ?_)
      replace h := h x8 ex8
      refine J_istore (i := 10) (lv' := [(10, .int x8), (9, .int x2), (0, .ref 59), (1, .int a1), (2, .int a2), (3, .int a3), (4, .int a4), (5, .int a5), (6, .int a6), (8, .int a8)]) dX12_move_210 (by decide) rfl ?_
      refine J_aload_n (i := 0) (kk := 2) dX12_move_212 rfl rfl ?_
      refine J_getR 78 (q := 59) (ci := 12) (kf := 24) kfX12_64 uxX12 rfl (by decide) rfl (by decide) rfl dX12_move_213 ?_
      refine J_iload (i := 9) (kk := 1) dX12_move_216 rfl ?_
      refine J_dup2_11 dX12_move_218 rfl rfl ?_
      have b9 := h.1
      replace h := h.2
      refine J_ald (x2.toNatClampNeg) rfl (by decide) rfl b9 dX12_move_219 ?_
      refine J_iload (i := 10) (kk := 0) dX12_move_220 rfl ?_
      refine J_iadd dX12_move_222 ?_
      refine J_ast (x2.toNatClampNeg) rfl (by decide) rfl b9 dX12_move_223 ?_
      refine J_iload (i := 5) (kk := 7) dX12_move_224 rfl ?_
      refine J_iload (i := 10) (kk := 0) dX12_move_226 rfl ?_
      refine J_isub dX12_move_228 ?_
      refine J_istore (i := 5) (lv' := [(5, .int (a5 - x8)), (10, .int x8), (9, .int x2), (0, .ref 59), (1, .int a1), (2, .int a2), (3, .int a3), (4, .int a4), (6, .int a6), (8, .int a8)]) dX12_move_229 (by decide) rfl ?_
      refine J_aload_n (i := 0) (kk := 3) dX12_move_231 rfl rfl ?_
      refine J_iload_n (i := 2) (kk := 5) dX12_move_232 rfl rfl ?_
      refine J_iload_n (i := 3) (kk := 6) dX12_move_233 rfl rfl ?_
      refine J_aload_n (i := 0) (kk := 3) dX12_move_234 rfl rfl ?_
      refine J_getR 73 (q := 59) (ci := 12) (kf := 19) kfX12_49 uxX12 rfl (by decide) rfl (by decide) rfl dX12_move_235 ?_
      refine J_iload (i := 9) (kk := 2) dX12_move_238 rfl ?_
      refine J_ald (x2.toNatClampNeg) rfl (by decide) rfl b9 dX12_move_240 ?_
      refine J_eqI (y := rd σ1 73 (x2.toNatClampNeg)) rfl ?_
      refine J_aload_n (i := 0) (kk := 3) dX12_move_241 rfl rfl ?_
      refine J_getR 74 (q := 59) (ci := 12) (kf := 20) kfX12_52 uxX12 rfl (by decide) rfl (by decide) rfl dX12_move_242 ?_
      refine J_iload (i := 9) (kk := 2) dX12_move_245 rfl ?_
      refine J_ald (x2.toNatClampNeg) rfl (by decide) rfl b9 dX12_move_247 ?_
      refine J_eqI (y := rd σ1 74 (x2.toNatClampNeg)) rfl ?_
      refine J_iload (i := 10) (kk := 1) dX12_move_248 rfl ?_
      refine J_iload (i := 9) (kk := 2) dX12_move_250 rfl ?_
      refine J_callV [.int a2, .int a3, .int (rd σ1 73 (x2.toNatClampNeg)), .int (rd σ1 74 (x2.toNatClampNeg)), .int x8, .int x2] [] calX12_addBatch klX12_234 (b := 59) (ci := 12) (by decide) rfl rfl rfl rfl (Nat.le_of_ble_eq_true rfl) dX12_move_252 (KV.to h ?_)
      clear h
      intro σ10 h
      obtain ⟨x11, ex11⟩ : ∃ y : Int32, y = a8 + 1 := ⟨_, rfl⟩
      replace h := h x11 ex11
      refine J_iinc (i := 8) (kk := 9) (v := x11) (lv' := [(8, .int x11), (5, .int (a5 - x8)), (10, .int x8), (9, .int x2), (0, .ref 59), (1, .int a1), (2, .int a2), (3, .int a3), (4, .int a4), (6, .int a6)]) dX12_move_255 rfl (by rw [ex11]; rfl) (by decide) rfl ?_
      refine J_goto (tgt := 172) dX12_move_258 (by decide) ?_
      refine J_sub [4, 5, 6, 7, 8, 1, 9, 0] rfl ?_
      exact h
set_option maxHeartbeats 4000000 in
set_option maxRecDepth 100000 in
theorem w_X12_move_90 {Γ : GG} {l : Launch} {d : Nat} {Q : Option Value → St → Prop} {σ : St} (a1 : Int32) (a2 : Int32) (a3 : Int32) (a4 : Int32) (a5 : Int32) (a6 : Int32) (a7 : Int32) (h : (a5 ≤ (0 : Int32) → ((rd σ 59 16) + a6 ≤ (200 : Int32) → J Γ l (d + 5) mX12_move Q 172 [(0, .ref 59), (1, .int a1), (2, .int a2), (3, .int a3), (4, .int a4), (5, .int a4), (6, .int a6), (8, .int (0))] [] σ) ∧ (¬ (rd σ 59 16) + a6 ≤ (200 : Int32) → Q (some (.int ((-3)))) σ)) ∧ (¬ a5 ≤ (0 : Int32) → (a7 < (0 : Int32) → ((rd σ 59 16) + a6 ≤ (200 : Int32) → J Γ l (d + 5) mX12_move Q 172 [(0, .ref 59), (1, .int a1), (2, .int a2), (3, .int a3), (4, .int a4), (5, .int a4), (6, .int a6), (8, .int (0))] [] σ) ∧ (¬ (rd σ 59 16) + a6 ≤ (200 : Int32) → Q (some (.int ((-3)))) σ)) ∧ (¬ a7 < (0 : Int32) → vp_in a7 200 ∧ vp_in a7 200 ∧ (a5 ≤ ((((rd σ 76 a7.toNatClampNeg) - (rd σ 77 a7.toNatClampNeg)) - (rd σ 78 a7.toNatClampNeg)) - (rd σ 79 a7.toNatClampNeg)) - (rd σ 80 a7.toNatClampNeg) → ∀ x3 : Int32, x3 = a6 + 1 → Meth Γ l (d + 4) mX12_nextOf [.ref 59, .int a1, .int a3] (wr σ 109 (a7.toNatClampNeg) (1 : Int32)) (KI (fun x5 σ4 => J Γ l (d + 5) mX12_move Q 90 [(0, .ref 59), (1, .int a1), (2, .int a2), (3, .int a3), (4, .int a4), (5, .int (a5 - a5)), (6, .int x3), (7, .int x5)] [] σ4))) ∧ (¬ a5 ≤ ((((rd σ 76 a7.toNatClampNeg) - (rd σ 77 a7.toNatClampNeg)) - (rd σ 78 a7.toNatClampNeg)) - (rd σ 79 a7.toNatClampNeg)) - (rd σ 80 a7.toNatClampNeg) → vp_in a7 200 ∧ ∀ x7 : Int32, x7 = a5 - (((((rd σ 76 a7.toNatClampNeg) - (rd σ 77 a7.toNatClampNeg)) - (rd σ 78 a7.toNatClampNeg)) - (rd σ 79 a7.toNatClampNeg)) - (rd σ 80 a7.toNatClampNeg)) → ∀ x8 : Int32, x8 = a6 + 1 → Meth Γ l (d + 4) mX12_nextOf [.ref 59, .int a1, .int a3] (wr σ 109 (a7.toNatClampNeg) (1 : Int32)) (KI (fun x10 σ9 => J Γ l (d + 5) mX12_move Q 90 [(0, .ref 59), (1, .int a1), (2, .int a2), (3, .int a3), (4, .int a4), (5, .int x7), (6, .int x8), (7, .int x10)] [] σ9)))))) : J Γ l (d + 5) mX12_move Q 90 [(0, .ref 59), (1, .int a1), (2, .int a2), (3, .int a3), (4, .int a4), (5, .int a5), (6, .int a6), (7, .int a7)] [] σ := by
  refine J_iload (i := 5) (kk := 5) dX12_move_90 rfl ?_
  refine J_if_le 149 dX12_move_92 (by decide) (fun hc => ?_) (fun hc => ?_)
  · replace h := h.1 hc
    refine J_aload_n (i := 0) (kk := 0) dX12_move_149 rfl rfl ?_
    refine J_getI (q := 59) (ci := 12) (kf := 16) kfX12_227 uxX12 rfl (by decide) rfl (by decide) rfl dX12_move_150 ?_
    refine J_iload (i := 6) (kk := 6) dX12_move_153 rfl ?_
    refine J_iadd dX12_move_155 ?_
    refine J_sipush (v := 200) dX12_move_156 (by decide) ?_
    refine J_icmp_le 165 dX12_move_159 (by decide) (fun hc => ?_) (fun hc => ?_)
    · replace h := h.1 hc
      refine J_iload (i := 4) (kk := 4) dX12_move_165 rfl ?_
      refine J_istore (i := 5) (lv' := [(5, .int a4), (0, .ref 59), (1, .int a1), (2, .int a2), (3, .int a3), (4, .int a4), (6, .int a6), (7, .int a7)]) dX12_move_167 (by decide) rfl ?_
      refine J_iconst (v := 0) dX12_move_169 (by decide) ?_
      refine J_istore (i := 8) (lv' := [(8, .int (0)), (5, .int a4), (0, .ref 59), (1, .int a1), (2, .int a2), (3, .int a3), (4, .int a4), (6, .int a6), (7, .int a7)]) dX12_move_170 (by decide) rfl ?_
      refine J_sub [2, 3, 4, 5, 6, 1, 7, 0] rfl ?_
      exact h
    · replace h := h.2 hc
      refine J_bipush (v := (-3)) dX12_move_162 (by decide) ?_
      exact J_iret rfl dX12_move_164 h
  · replace h := h.2 hc
    refine J_iload (i := 7) (kk := 7) dX12_move_95 rfl ?_
    refine J_if_lt 149 dX12_move_97 (by decide) (fun hc => ?_) (fun hc => ?_)
    · replace h := h.1 hc
      refine J_aload_n (i := 0) (kk := 0) dX12_move_149 rfl rfl ?_
      refine J_getI (q := 59) (ci := 12) (kf := 16) kfX12_227 uxX12 rfl (by decide) rfl (by decide) rfl dX12_move_150 ?_
      refine J_iload (i := 6) (kk := 6) dX12_move_153 rfl ?_
      refine J_iadd dX12_move_155 ?_
      refine J_sipush (v := 200) dX12_move_156 (by decide) ?_
      refine J_icmp_le 165 dX12_move_159 (by decide) (fun hc => ?_) (fun hc => ?_)
      · replace h := h.1 hc
        refine J_iload (i := 4) (kk := 4) dX12_move_165 rfl ?_
        refine J_istore (i := 5) (lv' := [(5, .int a4), (0, .ref 59), (1, .int a1), (2, .int a2), (3, .int a3), (4, .int a4), (6, .int a6), (7, .int a7)]) dX12_move_167 (by decide) rfl ?_
        refine J_iconst (v := 0) dX12_move_169 (by decide) ?_
        refine J_istore (i := 8) (lv' := [(8, .int (0)), (5, .int a4), (0, .ref 59), (1, .int a1), (2, .int a2), (3, .int a3), (4, .int a4), (6, .int a6), (7, .int a7)]) dX12_move_170 (by decide) rfl ?_
        refine J_sub [2, 3, 4, 5, 6, 1, 7, 0] rfl ?_
        exact h
      · replace h := h.2 hc
        refine J_bipush (v := (-3)) dX12_move_162 (by decide) ?_
        exact J_iret rfl dX12_move_164 h
    · replace h := h.2 hc
      refine J_aload_n (i := 0) (kk := 0) dX12_move_100 rfl rfl ?_
      refine J_getR 109 (q := 59) (ci := 12) (kf := 67) kfX12_166 uxX12 rfl (by decide) rfl (by decide) rfl dX12_move_101 ?_
      refine J_iload (i := 7) (kk := 7) dX12_move_104 rfl ?_
      refine J_iconst (v := 1) dX12_move_106 (by decide) ?_
      have b1 := h.1
      replace h := h.2
      refine J_zast2 (a7.toNatClampNeg) (1 : Int32) rfl (by decide) (by decide) rfl b1 dX12_move_107 ?_
      refine J_iload (i := 5) (kk := 5) dX12_move_108 rfl ?_
      refine J_aload_n (i := 0) (kk := 0) dX12_move_110 rfl rfl ?_
      refine J_iload (i := 7) (kk := 7) dX12_move_111 rfl ?_
      have b2 := h.1
      replace h := h.2
      refine J_callV [.int a7] [.int a5] calX12_onShelf klX12_245 (b := 59) (ci := 12) (by decide) rfl rfl rfl rfl (Nat.le_of_ble_eq_true rfl) dX12_move_113 (KI.to (S_X12_onShelf a7 b2) ?_)
      rintro x9 s9 ⟨rfl, rfl⟩
      refine J_eqI (y := ((((rd σ 76 a7.toNatClampNeg) - (rd σ 77 a7.toNatClampNeg)) - (rd σ 78 a7.toNatClampNeg)) - (rd σ 79 a7.toNatClampNeg)) - (rd σ 80 a7.toNatClampNeg)) rfl ?_
      refine J_iload (i := 5) (kk := 5) dX12_move_116 rfl ?_
      refine J_icmp_ge 130 dX12_move_118 (by decide) (fun hc => ?_) (fun hc => ?_)
      · replace h := h.1 hc
        refine J_iload (i := 5) (kk := 5) dX12_move_130 rfl ?_
        refine J_isub dX12_move_132 ?_
        refine J_istore (i := 5) (lv' := [(5, .int (a5 - a5)), (0, .ref 59), (1, .int a1), (2, .int a2), (3, .int a3), (4, .int a4), (6, .int a6), (7, .int a7)]) dX12_move_133 (by decide) rfl ?_
        obtain ⟨x3, ex3⟩ : ∃ y : Int32, y = a6 + 1 := ⟨_, rfl⟩
        replace h := h x3 ex3
        refine J_iinc (i := 6) (kk := 6) (v := x3) (lv' := [(6, .int x3), (5, .int (a5 - a5)), (0, .ref 59), (1, .int a1), (2, .int a2), (3, .int a3), (4, .int a4), (7, .int a7)]) dX12_move_135 rfl (by rw [ex3]; rfl) (by decide) rfl ?_
        refine J_aload_n (i := 0) (kk := 2) dX12_move_138 rfl rfl ?_
        refine J_iload_n (i := 1) (kk := 3) dX12_move_139 rfl rfl ?_
        refine J_iload_n (i := 3) (kk := 5) dX12_move_140 rfl rfl ?_
        refine J_callV [.int a1, .int a3] [] calX12_nextOf klX12_389 (b := 59) (ci := 12) (by decide) rfl rfl rfl rfl (Nat.le_of_ble_eq_true rfl) dX12_move_141 (KI.to h ?_)
        clear h
        intro x5 σ4 h
        refine J_istore (i := 7) (lv' := [(7, .int x5), (6, .int x3), (5, .int (a5 - a5)), (0, .ref 59), (1, .int a1), (2, .int a2), (3, .int a3), (4, .int a4)]) dX12_move_144 (by decide) rfl ?_
        refine J_goto (tgt := 90) dX12_move_146 (by decide) ?_
        refine J_sub [3, 4, 5, 6, 7, 2, 1, 0] rfl ?_
        exact h
      · replace h := h.2 hc
        refine J_aload_n (i := 0) (kk := 0) dX12_move_121 rfl rfl ?_
        refine J_iload (i := 7) (kk := 7) dX12_move_122 rfl ?_
        have b6 := h.1
        replace h := h.2
        refine J_callV [.int a7] [.int a5] calX12_onShelf klX12_245 (b := 59) (ci := 12) (by decide) rfl rfl rfl rfl (Nat.le_of_ble_eq_true rfl) dX12_move_124 (KI.to (S_X12_onShelf a7 b6) ?_)
        rintro x9 s9 ⟨rfl, rfl⟩
        refine J_eqI (y := ((((rd σ 76 a7.toNatClampNeg) - (rd σ 77 a7.toNatClampNeg)) - (rd σ 78 a7.toNatClampNeg)) - (rd σ 79 a7.toNatClampNeg)) - (rd σ 80 a7.toNatClampNeg)) rfl ?_
        refine J_goto (tgt := 132) dX12_move_127 (by decide) ?_
        refine J_isub dX12_move_132 ?_
        refine J_nameI (fun x7 ex7 => ?_)
        replace h := h x7 ex7
        refine J_istore (i := 5) (lv' := [(5, .int x7), (0, .ref 59), (1, .int a1), (2, .int a2), (3, .int a3), (4, .int a4), (6, .int a6), (7, .int a7)]) dX12_move_133 (by decide) rfl ?_
        obtain ⟨x8, ex8⟩ : ∃ y : Int32, y = a6 + 1 := ⟨_, rfl⟩
        replace h := h x8 ex8
        refine J_iinc (i := 6) (kk := 6) (v := x8) (lv' := [(6, .int x8), (5, .int x7), (0, .ref 59), (1, .int a1), (2, .int a2), (3, .int a3), (4, .int a4), (7, .int a7)]) dX12_move_135 rfl (by rw [ex8]; rfl) (by decide) rfl ?_
        refine J_aload_n (i := 0) (kk := 2) dX12_move_138 rfl rfl ?_
        refine J_iload_n (i := 1) (kk := 3) dX12_move_139 rfl rfl ?_
        refine J_iload_n (i := 3) (kk := 5) dX12_move_140 rfl rfl ?_
        refine J_callV [.int a1, .int a3] [] calX12_nextOf klX12_389 (b := 59) (ci := 12) (by decide) rfl rfl rfl rfl (Nat.le_of_ble_eq_true rfl) dX12_move_141 (KI.to h ?_)
        clear h
        intro x10 σ9 h
        refine J_istore (i := 7) (lv' := [(7, .int x10), (6, .int x8), (5, .int x7), (0, .ref 59), (1, .int a1), (2, .int a2), (3, .int a3), (4, .int a4)]) dX12_move_144 (by decide) rfl ?_
        refine J_goto (tgt := 90) dX12_move_146 (by decide) ?_
        refine J_sub [3, 4, 5, 6, 7, 2, 1, 0] rfl ?_
        exact h
set_option maxHeartbeats 4000000 in
set_option maxRecDepth 100000 in
theorem w_X12_move_59 {Γ : GG} {l : Launch} {d : Nat} {Q : Option Value → St → Prop} {σ : St} (a1 : Int32) (a2 : Int32) (a3 : Int32) (a4 : Int32) (a5 : Int32) (a6 : Int32) (a7 : Int32) (h : (rd σ 59 16 ≤ a7 → Meth Γ l (d + 4) mX12_nextOf [.ref 59, .int a1, .int a3] σ (KI (fun x2 σ1 => J Γ l (d + 5) mX12_move Q 90 [(0, .ref 59), (1, .int a1), (2, .int a2), (3, .int a3), (4, .int a4), (5, .int a5), (6, .int a6), (7, .int x2)] [] σ1))) ∧ (¬ rd σ 59 16 ≤ a7 → vp_in a7 200 ∧ ∀ x4 : Int32, x4 = a7 + 1 → J Γ l (d + 5) mX12_move Q 59 [(0, .ref 59), (1, .int a1), (2, .int a2), (3, .int a3), (4, .int a4), (5, .int a5), (6, .int a6), (7, .int x4)] [] (wr σ 109 (a7.toNatClampNeg) (0 : Int32)))) : J Γ l (d + 5) mX12_move Q 59 [(0, .ref 59), (1, .int a1), (2, .int a2), (3, .int a3), (4, .int a4), (5, .int a5), (6, .int a6), (7, .int a7)] [] σ := by
  refine J_iload (i := 7) (kk := 7) dX12_move_59 rfl ?_
  refine J_aload_n (i := 0) (kk := 0) dX12_move_61 rfl rfl ?_
  refine J_getI (q := 59) (ci := 12) (kf := 16) kfX12_227 uxX12 rfl (by decide) rfl (by decide) rfl dX12_move_62 ?_
  refine J_icmp_ge 82 dX12_move_65 (by decide) (fun hc => ?_) (fun hc => ?_)
  · replace h := h.1 hc
    refine J_aload_n (i := 0) (kk := 0) dX12_move_82 rfl rfl ?_
    refine J_iload_n (i := 1) (kk := 1) dX12_move_83 rfl rfl ?_
    refine J_iload_n (i := 3) (kk := 3) dX12_move_84 rfl rfl ?_
    refine J_callV [.int a1, .int a3] [] calX12_nextOf klX12_389 (b := 59) (ci := 12) (by decide) rfl rfl rfl rfl (Nat.le_of_ble_eq_true rfl) dX12_move_85 (KI.to h ?_)
    clear h
    intro x2 σ1 h
    refine J_istore (i := 7) (lv' := [(7, .int x2), (0, .ref 59), (1, .int a1), (2, .int a2), (3, .int a3), (4, .int a4), (5, .int a5), (6, .int a6)]) dX12_move_88 (by decide) rfl ?_
    refine J_sub [1, 2, 3, 4, 5, 6, 7, 0] rfl ?_
    exact h
  · replace h := h.2 hc
    refine J_aload_n (i := 0) (kk := 0) dX12_move_68 rfl rfl ?_
    refine J_getR 109 (q := 59) (ci := 12) (kf := 67) kfX12_166 uxX12 rfl (by decide) rfl (by decide) rfl dX12_move_69 ?_
    refine J_iload (i := 7) (kk := 7) dX12_move_72 rfl ?_
    refine J_iconst (v := 0) dX12_move_74 (by decide) ?_
    have b3 := h.1
    replace h := h.2
    refine J_zast2 (a7.toNatClampNeg) (0 : Int32) rfl (by decide) (by decide) rfl b3 dX12_move_75 ?_
    obtain ⟨x4, ex4⟩ : ∃ y : Int32, y = a7 + 1 := ⟨_, rfl⟩
    replace h := h x4 ex4
    refine J_iinc (i := 7) (kk := 7) (v := x4) (lv' := [(7, .int x4), (0, .ref 59), (1, .int a1), (2, .int a2), (3, .int a3), (4, .int a4), (5, .int a5), (6, .int a6)]) dX12_move_76 rfl (by rw [ex4]; rfl) (by decide) rfl ?_
    refine J_goto (tgt := 59) dX12_move_79 (by decide) ?_
    refine J_sub [1, 2, 3, 4, 5, 6, 7, 0] rfl ?_
    exact h
set_option maxHeartbeats 4000000 in
set_option maxRecDepth 100000 in
theorem w_X12_move_0 {Γ : GG} {l : Launch} {d : Nat} {Q : Option Value → St → Prop} {σ : St} (a1 : Int32) (a2 : Int32) (a3 : Int32) (a4 : Int32) (h : ((0 ≤ a1 ∧ a1 ≤ (rd σ 59 2) - (1 : Int32)) ∧ 0 ≤ a3 ∧ a3 ≤ (rd σ 59 6) - (1 : Int32) → (0 ≤ a2 ∧ a2 ≤ (rd σ 59 2) - (1 : Int32) → (a1 = a2 → Q (some (.int ((-1)))) σ) ∧ (¬ a1 = a2 → ((1 : Int32) ≤ a4 ∧ a4 ≤ (999 : Int32) → Meth Γ l (d + 4) mX12_eldest [.ref 59, .int a1, .int a3, .int (0)] σ (KI (fun x2 σ1 => ((0 : Int32) ≤ x2 → J Γ l (d + 5) mX12_move Q 59 [(0, .ref 59), (1, .int a1), (2, .int a2), (3, .int a3), (4, .int a4), (5, .int a4), (6, .int (0)), (7, .int (0))] [] σ1) ∧ (¬ (0 : Int32) ≤ x2 → Q (some (.int ((-2)))) σ1)))) ∧ (¬ ((1 : Int32) ≤ a4 ∧ a4 ≤ (999 : Int32)) → Q (some (.int ((-1)))) σ))) ∧ (¬ (0 ≤ a2 ∧ a2 ≤ (rd σ 59 2) - (1 : Int32)) → Q (some (.int ((-1)))) σ)) ∧ (¬ ((0 ≤ a1 ∧ a1 ≤ (rd σ 59 2) - (1 : Int32)) ∧ 0 ≤ a3 ∧ a3 ≤ (rd σ 59 6) - (1 : Int32)) → Q (some (.int ((-1)))) σ)) : J Γ l (d + 5) mX12_move Q 0 [(0, .ref 59), (1, .int a1), (2, .int a2), (3, .int a3), (4, .int a4)] [] σ := by
  refine J_aload_n (i := 0) (kk := 0) dX12_move_0 rfl rfl ?_
  refine J_iload_n (i := 1) (kk := 1) dX12_move_1 rfl rfl ?_
  refine J_iload_n (i := 3) (kk := 3) dX12_move_2 rfl rfl ?_
  refine J_callV [.int a1, .int a3] [] calX12_areBoth klX12_223 (b := 59) (ci := 12) (by decide) rfl rfl rfl rfl (Nat.le_of_ble_eq_true rfl) dX12_move_3 (KI.to (S_X12_areBoth a1 a3) ?_)
  rintro x9 s9 ⟨rfl, ⟨g5, rfl⟩ | ⟨g5, rfl⟩⟩
  · replace h := h.1 g5
    refine J_if_eq 34 dX12_move_6 (by decide) (fun hc => absurd hc (by decide)) (fun _ => ?_)
    refine J_aload_n (i := 0) (kk := 0) dX12_move_9 rfl rfl ?_
    refine J_iload_n (i := 2) (kk := 2) dX12_move_10 rfl rfl ?_
    refine J_callV [.int a2] [] calX12_isShop klX12_209 (b := 59) (ci := 12) (by decide) rfl rfl rfl rfl (Nat.le_of_ble_eq_true rfl) dX12_move_11 (KI.to (S_X12_isShop a2) ?_)
    rintro x9 s9 ⟨rfl, ⟨g4, rfl⟩ | ⟨g4, rfl⟩⟩
    · replace h := h.1 g4
      refine J_if_eq 34 dX12_move_14 (by decide) (fun hc => absurd hc (by decide)) (fun _ => ?_)
      refine J_iload_n (i := 1) (kk := 1) dX12_move_17 rfl rfl ?_
      refine J_iload_n (i := 2) (kk := 2) dX12_move_18 rfl rfl ?_
      refine J_icmp_eq 34 dX12_move_19 (by decide) (fun hc => ?_) (fun hc => ?_)
      · replace h := h.1 hc
        refine J_iconst (v := (-1)) dX12_move_34 (by decide) ?_
        exact J_iret rfl dX12_move_35 h
      · replace h := h.2 hc
        refine J_iload (i := 4) (kk := 4) dX12_move_22 rfl ?_
        refine J_iconst (v := 1) dX12_move_24 (by decide) ?_
        refine J_sipush (v := 999) dX12_move_25 (by decide) ?_
        refine J_callS [.int a4, .int (1), .int (999)] [] calX12_in klX12_196 rfl rfl (Nat.le_of_ble_eq_true rfl) dX12_move_28 (KI.to (S_X12_in a4 (1 : Int32) (999 : Int32)) ?_)
        rintro x9 s9 ⟨rfl, ⟨g3, rfl⟩ | ⟨g3, rfl⟩⟩
        · replace h := h.1 g3
          refine J_if_ne 36 dX12_move_31 (by decide) (fun _ => ?_) (fun hc => absurd hc (by decide))
          refine J_aload_n (i := 0) (kk := 0) dX12_move_36 rfl rfl ?_
          refine J_iload_n (i := 1) (kk := 1) dX12_move_37 rfl rfl ?_
          refine J_iload_n (i := 3) (kk := 3) dX12_move_38 rfl rfl ?_
          refine J_iconst (v := 0) dX12_move_39 (by decide) ?_
          refine J_callV [.int a1, .int a3, .int (0)] [] calX12_eldest klX12_347 (b := 59) (ci := 12) (by decide) rfl rfl rfl rfl (Nat.le_of_ble_eq_true rfl) dX12_move_40 (KI.to h ?_)
          clear h
          intro x2 σ1 h
          refine J_if_ge 49 dX12_move_43 (by decide) (fun hc => ?_) (fun hc => ?_)
          · replace h := h.1 hc
            refine J_iload (i := 4) (kk := 4) dX12_move_49 rfl ?_
            refine J_istore (i := 5) (lv' := [(5, .int a4), (0, .ref 59), (1, .int a1), (2, .int a2), (3, .int a3), (4, .int a4)]) dX12_move_51 (by decide) rfl ?_
            refine J_iconst (v := 0) dX12_move_53 (by decide) ?_
            refine J_istore (i := 6) (lv' := [(6, .int (0)), (5, .int a4), (0, .ref 59), (1, .int a1), (2, .int a2), (3, .int a3), (4, .int a4)]) dX12_move_54 (by decide) rfl ?_
            refine J_iconst (v := 0) dX12_move_56 (by decide) ?_
            refine J_istore (i := 7) (lv' := [(7, .int (0)), (6, .int (0)), (5, .int a4), (0, .ref 59), (1, .int a1), (2, .int a2), (3, .int a3), (4, .int a4)]) dX12_move_57 (by decide) rfl ?_
            refine J_sub [3, 4, 5, 6, 7, 2, 1, 0] rfl ?_
            exact h
          · replace h := h.2 hc
            refine J_bipush (v := (-2)) dX12_move_46 (by decide) ?_
            exact J_iret rfl dX12_move_48 h
        · replace h := h.2 g3
          refine J_if_ne 36 dX12_move_31 (by decide) (fun hc => absurd hc (by decide)) (fun _ => ?_)
          refine J_iconst (v := (-1)) dX12_move_34 (by decide) ?_
          exact J_iret rfl dX12_move_35 h
    · replace h := h.2 g4
      refine J_if_eq 34 dX12_move_14 (by decide) (fun _ => ?_) (fun hc => absurd hc (by decide))
      refine J_iconst (v := (-1)) dX12_move_34 (by decide) ?_
      exact J_iret rfl dX12_move_35 h
  · replace h := h.2 g5
    refine J_if_eq 34 dX12_move_6 (by decide) (fun _ => ?_) (fun hc => absurd hc (by decide))
    refine J_iconst (v := (-1)) dX12_move_34 (by decide) ?_
    exact J_iret rfl dX12_move_35 h
theorem M_X12_move {Γ : GG} {l : Launch} {d : Nat} {Q : Option Value → St → Prop} {σ : St} (a1 : Int32) (a2 : Int32) (a3 : Int32) (a4 : Int32) (k : J Γ l (d + 5) mX12_move Q 0 [(0, .ref 59), (1, .int a1), (2, .int a2), (3, .int a3), (4, .int a4)] [] σ) : Meth Γ l (d + 5) mX12_move [.ref 59, .int a1, .int a2, .int a3, .int a4] σ Q := Meth_of_J (by decide +kernel) (fun _ => Nat.le_of_ble_eq_true rfl) (fun _ => rfl) k
set_option maxHeartbeats 4000000 in
set_option maxRecDepth 100000 in
theorem w_X12_nextOf_5 {Γ : GG} {l : Launch} {d : Nat} {Q : Option Value → St → Prop} {σ : St} (a1 : Int32) (a2 : Int32) (a3 : Int32) (a4 : Int32) (h : (rd σ 59 16 ≤ a4 → Q (some (.int a3)) σ) ∧ (¬ rd σ 59 16 ≤ a4 → vp_in a4 200 ∧ (rd σ 109 (a4.toNatClampNeg) = (0 : Int32) → (rd σ 71 (a4.toNatClampNeg) = a1 → (rd σ 72 (a4.toNatClampNeg) = a2 → vp_in a4 200 ∧ (((((rd σ 76 a4.toNatClampNeg) - (rd σ 77 a4.toNatClampNeg)) - (rd σ 78 a4.toNatClampNeg)) - (rd σ 79 a4.toNatClampNeg)) - (rd σ 80 a4.toNatClampNeg) ≤ (0 : Int32) → ∀ x6 : Int32, x6 = a4 + 1 → J Γ l (d + 4) mX12_nextOf Q 5 [(0, .ref 59), (1, .int a1), (2, .int a2), (3, .int a3), (4, .int x6)] [] σ) ∧ (¬ ((((rd σ 76 a4.toNatClampNeg) - (rd σ 77 a4.toNatClampNeg)) - (rd σ 78 a4.toNatClampNeg)) - (rd σ 79 a4.toNatClampNeg)) - (rd σ 80 a4.toNatClampNeg) ≤ (0 : Int32) → Meth Γ l (d + 3) mX12_may [.ref 59, .int (0), .int a4] σ (KI (fun x8 σ7 => (x8 = (0 : Int32) → ∀ x9 : Int32, x9 = a4 + 1 → J Γ l (d + 4) mX12_nextOf Q 5 [(0, .ref 59), (1, .int a1), (2, .int a2), (3, .int a3), (4, .int x9)] [] σ7) ∧ (¬ x8 = (0 : Int32) → (a3 < (0 : Int32) → ∀ x10 : Int32, x10 = a4 + 1 → J Γ l (d + 4) mX12_nextOf Q 5 [(0, .ref 59), (1, .int a1), (2, .int a2), (3, .int a4), (4, .int x10)] [] σ7) ∧ (¬ a3 < (0 : Int32) → vp_in a3 200 ∧ (rd σ7 74 (a3.toNatClampNeg) ≤ rd σ7 74 (a4.toNatClampNeg) → ∀ x12 : Int32, x12 = a4 + 1 → J Γ l (d + 4) mX12_nextOf Q 5 [(0, .ref 59), (1, .int a1), (2, .int a2), (3, .int a3), (4, .int x12)] [] σ7) ∧ (¬ rd σ7 74 (a3.toNatClampNeg) ≤ rd σ7 74 (a4.toNatClampNeg) → ∀ x13 : Int32, x13 = a4 + 1 → J Γ l (d + 4) mX12_nextOf Q 5 [(0, .ref 59), (1, .int a1), (2, .int a2), (3, .int a4), (4, .int x13)] [] σ7))))))) ∧ (¬ rd σ 72 (a4.toNatClampNeg) = a2 → ∀ x4 : Int32, x4 = a4 + 1 → J Γ l (d + 4) mX12_nextOf Q 5 [(0, .ref 59), (1, .int a1), (2, .int a2), (3, .int a3), (4, .int x4)] [] σ)) ∧ (¬ rd σ 71 (a4.toNatClampNeg) = a1 → ∀ x3 : Int32, x3 = a4 + 1 → J Γ l (d + 4) mX12_nextOf Q 5 [(0, .ref 59), (1, .int a1), (2, .int a2), (3, .int a3), (4, .int x3)] [] σ)) ∧ (¬ rd σ 109 (a4.toNatClampNeg) = (0 : Int32) → ∀ x2 : Int32, x2 = a4 + 1 → J Γ l (d + 4) mX12_nextOf Q 5 [(0, .ref 59), (1, .int a1), (2, .int a2), (3, .int a3), (4, .int x2)] [] σ))) : J Γ l (d + 4) mX12_nextOf Q 5 [(0, .ref 59), (1, .int a1), (2, .int a2), (3, .int a3), (4, .int a4)] [] σ := by
  refine J_iload (i := 4) (kk := 4) dX12_nextOf_5 rfl ?_
  refine J_aload_n (i := 0) (kk := 0) dX12_nextOf_7 rfl rfl ?_
  refine J_getI (q := 59) (ci := 12) (kf := 16) kfX12_227 uxX12 rfl (by decide) rfl (by decide) rfl dX12_nextOf_8 ?_
  refine J_icmp_ge 94 dX12_nextOf_11 (by decide) (fun hc => ?_) (fun hc => ?_)
  · replace h := h.1 hc
    refine J_iload_n (i := 3) (kk := 3) dX12_nextOf_94 rfl rfl ?_
    exact J_iret rfl dX12_nextOf_95 h
  · replace h := h.2 hc
    refine J_aload_n (i := 0) (kk := 0) dX12_nextOf_14 rfl rfl ?_
    refine J_getR 109 (q := 59) (ci := 12) (kf := 67) kfX12_166 uxX12 rfl (by decide) rfl (by decide) rfl dX12_nextOf_15 ?_
    refine J_iload (i := 4) (kk := 4) dX12_nextOf_18 rfl ?_
    have b1 := h.1
    replace h := h.2
    refine J_zald2 (a4.toNatClampNeg) rfl (by decide) rfl b1 dX12_nextOf_20 ?_
    refine J_if_ne 88 dX12_nextOf_21 (by decide) (fun hc => ?_) (fun hc => ?_)
    · replace h := h.2 hc
      obtain ⟨x2, ex2⟩ : ∃ y : Int32, y = a4 + 1 := ⟨_, rfl⟩
      replace h := h x2 ex2
      refine J_iinc (i := 4) (kk := 4) (v := x2) (lv' := [(4, .int x2), (0, .ref 59), (1, .int a1), (2, .int a2), (3, .int a3)]) dX12_nextOf_88 rfl (by rw [ex2]; rfl) (by decide) rfl ?_
      refine J_goto (tgt := 5) dX12_nextOf_91 (by decide) ?_
      refine J_sub [1, 2, 3, 4, 0] rfl ?_
      exact h
    · replace h := h.1 hc
      refine J_aload_n (i := 0) (kk := 0) dX12_nextOf_24 rfl rfl ?_
      refine J_getR 71 (q := 59) (ci := 12) (kf := 17) kfX12_43 uxX12 rfl (by decide) rfl (by decide) rfl dX12_nextOf_25 ?_
      refine J_iload (i := 4) (kk := 4) dX12_nextOf_28 rfl ?_
      refine J_ald (a4.toNatClampNeg) rfl (by decide) rfl b1 dX12_nextOf_30 ?_
      refine J_iload_n (i := 1) (kk := 1) dX12_nextOf_31 rfl rfl ?_
      refine J_icmp_ne 88 dX12_nextOf_32 (by decide) (fun hc => ?_) (fun hc => ?_)
      · replace h := h.2 hc
        obtain ⟨x3, ex3⟩ : ∃ y : Int32, y = a4 + 1 := ⟨_, rfl⟩
        replace h := h x3 ex3
        refine J_iinc (i := 4) (kk := 4) (v := x3) (lv' := [(4, .int x3), (0, .ref 59), (1, .int a1), (2, .int a2), (3, .int a3)]) dX12_nextOf_88 rfl (by rw [ex3]; rfl) (by decide) rfl ?_
        refine J_goto (tgt := 5) dX12_nextOf_91 (by decide) ?_
        refine J_sub [1, 2, 3, 4, 0] rfl ?_
        exact h
      · replace h := h.1 hc
        refine J_aload_n (i := 0) (kk := 0) dX12_nextOf_35 rfl rfl ?_
        refine J_getR 72 (q := 59) (ci := 12) (kf := 18) kfX12_46 uxX12 rfl (by decide) rfl (by decide) rfl dX12_nextOf_36 ?_
        refine J_iload (i := 4) (kk := 4) dX12_nextOf_39 rfl ?_
        refine J_ald (a4.toNatClampNeg) rfl (by decide) rfl b1 dX12_nextOf_41 ?_
        refine J_iload_n (i := 2) (kk := 2) dX12_nextOf_42 rfl rfl ?_
        refine J_icmp_ne 88 dX12_nextOf_43 (by decide) (fun hc => ?_) (fun hc => ?_)
        · replace h := h.2 hc
          obtain ⟨x4, ex4⟩ : ∃ y : Int32, y = a4 + 1 := ⟨_, rfl⟩
          replace h := h x4 ex4
          refine J_iinc (i := 4) (kk := 4) (v := x4) (lv' := [(4, .int x4), (0, .ref 59), (1, .int a1), (2, .int a2), (3, .int a3)]) dX12_nextOf_88 rfl (by rw [ex4]; rfl) (by decide) rfl ?_
          refine J_goto (tgt := 5) dX12_nextOf_91 (by decide) ?_
          refine J_sub [1, 2, 3, 4, 0] rfl ?_
          exact h
        · replace h := h.1 hc
          refine J_aload_n (i := 0) (kk := 0) dX12_nextOf_46 rfl rfl ?_
          refine J_iload (i := 4) (kk := 4) dX12_nextOf_47 rfl ?_
          have b5 := h.1
          replace h := h.2
          refine J_callV [.int a4] [] calX12_onShelf klX12_245 (b := 59) (ci := 12) (by decide) rfl rfl rfl rfl (Nat.le_of_ble_eq_true rfl) dX12_nextOf_49 (KI.to (S_X12_onShelf a4 b5) ?_)
          rintro x9 s9 ⟨rfl, rfl⟩
          refine J_if_le 88 dX12_nextOf_52 (by decide) (fun hc => ?_) (fun hc => ?_)
          · replace h := h.1 hc
            obtain ⟨x6, ex6⟩ : ∃ y : Int32, y = a4 + 1 := ⟨_, rfl⟩
            replace h := h x6 ex6
            refine J_iinc (i := 4) (kk := 4) (v := x6) (lv' := [(4, .int x6), (0, .ref 59), (1, .int a1), (2, .int a2), (3, .int a3)]) dX12_nextOf_88 rfl (by rw [ex6]; rfl) (by decide) rfl ?_
            refine J_goto (tgt := 5) dX12_nextOf_91 (by decide) ?_
            refine J_sub [1, 2, 3, 4, 0] rfl ?_
            exact h
          · replace h := h.2 hc
            refine J_aload_n (i := 0) (kk := 0) dX12_nextOf_55 rfl rfl ?_
            refine J_iconst (v := 0) dX12_nextOf_56 (by decide) ?_
            refine J_iload (i := 4) (kk := 4) dX12_nextOf_57 rfl ?_
            refine J_callV [.int (0), .int a4] [] calX12_may klX12_327 (b := 59) (ci := 12) (by decide) rfl rfl rfl rfl (Nat.le_of_ble_eq_true rfl) dX12_nextOf_59 (KI.to h ?_)
            clear h
            intro x8 σ7 h
            refine J_if_eq 88 dX12_nextOf_62 (by decide) (fun hc => ?_) (fun hc => ?_)
            · replace h := h.1 hc
              obtain ⟨x9, ex9⟩ : ∃ y : Int32, y = a4 + 1 := ⟨_, rfl⟩
              replace h := h x9 ex9
              refine J_iinc (i := 4) (kk := 4) (v := x9) (lv' := [(4, .int x9), (0, .ref 59), (1, .int a1), (2, .int a2), (3, .int a3)]) dX12_nextOf_88 rfl (by rw [ex9]; rfl) (by decide) rfl ?_
              refine J_goto (tgt := 5) dX12_nextOf_91 (by decide) ?_
              refine J_sub [1, 2, 3, 4, 0] rfl ?_
              exact h
            · replace h := h.2 hc
              refine J_iload_n (i := 3) (kk := 3) dX12_nextOf_65 rfl rfl ?_
              refine J_if_lt 85 dX12_nextOf_66 (by decide) (fun hc => ?_) (fun hc => ?_)
              · replace h := h.1 hc
                refine J_iload (i := 4) (kk := 4) dX12_nextOf_85 rfl ?_
                refine J_istore_n (i := 3) (lv' := [(3, .int a4), (0, .ref 59), (1, .int a1), (2, .int a2), (4, .int a4)]) dX12_nextOf_87 rfl (by decide) rfl ?_
                obtain ⟨x10, ex10⟩ : ∃ y : Int32, y = a4 + 1 := ⟨_, rfl⟩
                replace h := h x10 ex10
                refine J_iinc (i := 4) (kk := 4) (v := x10) (lv' := [(4, .int x10), (3, .int a4), (0, .ref 59), (1, .int a1), (2, .int a2)]) dX12_nextOf_88 rfl (by rw [ex10]; rfl) (by decide) rfl ?_
                refine J_goto (tgt := 5) dX12_nextOf_91 (by decide) ?_
                refine J_sub [2, 3, 4, 1, 0] rfl ?_
                exact h
              · replace h := h.2 hc
                refine J_aload_n (i := 0) (kk := 0) dX12_nextOf_69 rfl rfl ?_
                refine J_getR 74 (q := 59) (ci := 12) (kf := 20) kfX12_52 uxX12 rfl (by decide) rfl (by decide) rfl dX12_nextOf_70 ?_
                refine J_iload (i := 4) (kk := 4) dX12_nextOf_73 rfl ?_
                refine J_ald (a4.toNatClampNeg) rfl (by decide) rfl b1 dX12_nextOf_75 ?_
                refine J_aload_n (i := 0) (kk := 0) dX12_nextOf_76 rfl rfl ?_
                refine J_getR 74 (q := 59) (ci := 12) (kf := 20) kfX12_52 uxX12 rfl (by decide) rfl (by decide) rfl dX12_nextOf_77 ?_
                refine J_iload_n (i := 3) (kk := 3) dX12_nextOf_80 rfl rfl ?_
                have b11 := h.1
                replace h := h.2
                refine J_ald (a3.toNatClampNeg) rfl (by decide) rfl b11 dX12_nextOf_81 ?_
                refine J_icmp_ge 88 dX12_nextOf_82 (by decide) (fun hc => ?_) (fun hc => ?_)
                · replace h := h.1 hc
                  obtain ⟨x12, ex12⟩ : ∃ y : Int32, y = a4 + 1 := ⟨_, rfl⟩
                  replace h := h x12 ex12
                  refine J_iinc (i := 4) (kk := 4) (v := x12) (lv' := [(4, .int x12), (0, .ref 59), (1, .int a1), (2, .int a2), (3, .int a3)]) dX12_nextOf_88 rfl (by rw [ex12]; rfl) (by decide) rfl ?_
                  refine J_goto (tgt := 5) dX12_nextOf_91 (by decide) ?_
                  refine J_sub [1, 2, 3, 4, 0] rfl ?_
                  exact h
                · replace h := h.2 hc
                  refine J_iload (i := 4) (kk := 4) dX12_nextOf_85 rfl ?_
                  refine J_istore_n (i := 3) (lv' := [(3, .int a4), (0, .ref 59), (1, .int a1), (2, .int a2), (4, .int a4)]) dX12_nextOf_87 rfl (by decide) rfl ?_
                  obtain ⟨x13, ex13⟩ : ∃ y : Int32, y = a4 + 1 := ⟨_, rfl⟩
                  replace h := h x13 ex13
                  refine J_iinc (i := 4) (kk := 4) (v := x13) (lv' := [(4, .int x13), (3, .int a4), (0, .ref 59), (1, .int a1), (2, .int a2)]) dX12_nextOf_88 rfl (by rw [ex13]; rfl) (by decide) rfl ?_
                  refine J_goto (tgt := 5) dX12_nextOf_91 (by decide) ?_
                  refine J_sub [2, 3, 4, 1, 0] rfl ?_
                  exact h
set_option maxHeartbeats 4000000 in
set_option maxRecDepth 100000 in
theorem w_X12_nextOf_0 {Γ : GG} {l : Launch} {d : Nat} {Q : Option Value → St → Prop} {σ : St} (a1 : Int32) (a2 : Int32) (h : J Γ l (d + 4) mX12_nextOf Q 5 [(0, .ref 59), (1, .int a1), (2, .int a2), (3, .int ((-1))), (4, .int (0))] [] σ) : J Γ l (d + 4) mX12_nextOf Q 0 [(0, .ref 59), (1, .int a1), (2, .int a2)] [] σ := by
  refine J_iconst (v := (-1)) dX12_nextOf_0 (by decide) ?_
  refine J_istore_n (i := 3) (lv' := [(3, .int ((-1))), (0, .ref 59), (1, .int a1), (2, .int a2)]) dX12_nextOf_1 rfl (by decide) rfl ?_
  refine J_iconst (v := 0) dX12_nextOf_2 (by decide) ?_
  refine J_istore (i := 4) (lv' := [(4, .int (0)), (3, .int ((-1))), (0, .ref 59), (1, .int a1), (2, .int a2)]) dX12_nextOf_3 (by decide) rfl ?_
  refine J_sub [2, 3, 4, 1, 0] rfl ?_
  exact h
theorem M_X12_nextOf {Γ : GG} {l : Launch} {d : Nat} {Q : Option Value → St → Prop} {σ : St} (a1 : Int32) (a2 : Int32) (k : J Γ l (d + 4) mX12_nextOf Q 0 [(0, .ref 59), (1, .int a1), (2, .int a2)] [] σ) : Meth Γ l (d + 4) mX12_nextOf [.ref 59, .int a1, .int a2] σ Q := Meth_of_J (by decide +kernel) (fun _ => Nat.le_of_ble_eq_true rfl) (fun _ => rfl) k
set_option maxHeartbeats 4000000 in
set_option maxRecDepth 100000 in
theorem w_X12_drawn_0 {Γ : GG} {l : Launch} {d : Nat} {Q : Option Value → St → Prop} {σ : St} (a1 : Int32) (a2 : Int32) (h : (0 ≤ a1 ∧ a1 ≤ (rd σ 59 2) - (1 : Int32) → (((-1) : Int32) ≤ a2 ∧ a2 ≤ (1 : Int32) → vp_in a1 12 ∧ Q (some (.int (rd σ 110 (a1.toNatClampNeg)))) (wr σ 110 (a1.toNatClampNeg) a2)) ∧ (¬ (((-1) : Int32) ≤ a2 ∧ a2 ≤ (1 : Int32)) → Q (some (.int ((-2)))) σ)) ∧ (¬ (0 ≤ a1 ∧ a1 ≤ (rd σ 59 2) - (1 : Int32)) → Q (some (.int ((-2)))) σ)) : J Γ l (d + 2) mX12_drawn Q 0 [(0, .ref 59), (1, .int a1), (2, .int a2)] [] σ := by
  refine J_aload_n (i := 0) (kk := 0) dX12_drawn_0 rfl rfl ?_
  refine J_iload_n (i := 1) (kk := 1) dX12_drawn_1 rfl rfl ?_
  refine J_callV [.int a1] [] calX12_isShop klX12_209 (b := 59) (ci := 12) (by decide) rfl rfl rfl rfl (Nat.le_of_ble_eq_true rfl) dX12_drawn_2 (KI.to (S_X12_isShop a1) ?_)
  rintro x9 s9 ⟨rfl, ⟨g3, rfl⟩ | ⟨g3, rfl⟩⟩
  · replace h := h.1 g3
    refine J_if_eq 17 dX12_drawn_5 (by decide) (fun hc => absurd hc (by decide)) (fun _ => ?_)
    refine J_iload_n (i := 2) (kk := 2) dX12_drawn_8 rfl rfl ?_
    refine J_iconst (v := (-1)) dX12_drawn_9 (by decide) ?_
    refine J_iconst (v := 1) dX12_drawn_10 (by decide) ?_
    refine J_callS [.int a2, .int ((-1)), .int (1)] [] calX12_in klX12_196 rfl rfl (Nat.le_of_ble_eq_true rfl) dX12_drawn_11 (KI.to (S_X12_in a2 ((-1) : Int32) (1 : Int32)) ?_)
    rintro x9 s9 ⟨rfl, ⟨g2, rfl⟩ | ⟨g2, rfl⟩⟩
    · replace h := h.1 g2
      refine J_if_ne 20 dX12_drawn_14 (by decide) (fun _ => ?_) (fun hc => absurd hc (by decide))
      refine J_aload_n (i := 0) (kk := 0) dX12_drawn_20 rfl rfl ?_
      refine J_getR 110 (q := 59) (ci := 12) (kf := 68) kfX12_169 uxX12 rfl (by decide) rfl (by decide) rfl dX12_drawn_21 ?_
      refine J_iload_n (i := 1) (kk := 1) dX12_drawn_24 rfl rfl ?_
      have b1 := h.1
      replace h := h.2
      refine J_ald (a1.toNatClampNeg) rfl (by decide) rfl b1 dX12_drawn_25 ?_
      refine J_istore_n (i := 3) (lv' := [(3, .int (rd σ 110 (a1.toNatClampNeg))), (0, .ref 59), (1, .int a1), (2, .int a2)]) dX12_drawn_26 rfl (by decide) rfl ?_
      refine J_aload_n (i := 0) (kk := 1) dX12_drawn_27 rfl rfl ?_
      refine J_getR 110 (q := 59) (ci := 12) (kf := 68) kfX12_169 uxX12 rfl (by decide) rfl (by decide) rfl dX12_drawn_28 ?_
      refine J_iload_n (i := 1) (kk := 2) dX12_drawn_31 rfl rfl ?_
      refine J_iload_n (i := 2) (kk := 3) dX12_drawn_32 rfl rfl ?_
      refine J_ast (a1.toNatClampNeg) rfl (by decide) rfl b1 dX12_drawn_33 ?_
      refine J_iload_n (i := 3) (kk := 0) dX12_drawn_34 rfl rfl ?_
      exact J_iret rfl dX12_drawn_35 h
    · replace h := h.2 g2
      refine J_if_ne 20 dX12_drawn_14 (by decide) (fun hc => absurd hc (by decide)) (fun _ => ?_)
      refine J_bipush (v := (-2)) dX12_drawn_17 (by decide) ?_
      exact J_iret rfl dX12_drawn_19 h
  · replace h := h.2 g3
    refine J_if_eq 17 dX12_drawn_5 (by decide) (fun _ => ?_) (fun hc => absurd hc (by decide))
    refine J_bipush (v := (-2)) dX12_drawn_17 (by decide) ?_
    exact J_iret rfl dX12_drawn_19 h
theorem M_X12_drawn {Γ : GG} {l : Launch} {d : Nat} {Q : Option Value → St → Prop} {σ : St} (a1 : Int32) (a2 : Int32) (k : J Γ l (d + 2) mX12_drawn Q 0 [(0, .ref 59), (1, .int a1), (2, .int a2)] [] σ) : Meth Γ l (d + 2) mX12_drawn [.ref 59, .int a1, .int a2] σ Q := Meth_of_J (by decide +kernel) (fun _ => Nat.le_of_ble_eq_true rfl) (fun _ => rfl) k
set_option maxHeartbeats 4000000 in
set_option maxRecDepth 100000 in
theorem w_X12_earlyOf_6 {Γ : GG} {l : Launch} {d : Nat} {Q : Option Value → St → Prop} {σ : St} (a1 : Int32) (a2 : Int32) (a3 : Int32) (a4 : Int32) (a5 : Int32) (a6 : Int32) (h : (rd σ 59 45 ≤ a6 → Q (some (.int a5)) σ) ∧ (¬ rd σ 59 45 ≤ a6 → vp_in a6 600 ∧ (rd σ 92 (a6.toNatClampNeg) = a1 → (rd σ 93 (a6.toNatClampNeg) = a2 → ((6 : Int32) ≤ ((rd σ 94 (a6.toNatClampNeg)) - (rd σ 94 (a6.toNatClampNeg)) / (24 : Int32) * (24 : Int32)) ∧ ((rd σ 94 (a6.toNatClampNeg)) - (rd σ 94 (a6.toNatClampNeg)) / (24 : Int32) * (24 : Int32)) ≤ (13 : Int32) → (a3 ≤ ((rd σ 94 (a6.toNatClampNeg)) / (24 : Int32)) ∧ ((rd σ 94 (a6.toNatClampNeg)) / (24 : Int32)) ≤ a4 → ∀ x4 : Int32, x4 = a5 + (rd σ 97 (a6.toNatClampNeg)) → ∀ x5 : Int32, x5 = a6 + 1 → J Γ l (d + 1) mX12_earlyOf Q 6 [(0, .ref 59), (1, .int a1), (2, .int a2), (3, .int a3), (4, .int a4), (5, .int x4), (6, .int x5)] [] σ) ∧ (¬ (a3 ≤ ((rd σ 94 (a6.toNatClampNeg)) / (24 : Int32)) ∧ ((rd σ 94 (a6.toNatClampNeg)) / (24 : Int32)) ≤ a4) → ∀ x6 : Int32, x6 = a6 + 1 → J Γ l (d + 1) mX12_earlyOf Q 6 [(0, .ref 59), (1, .int a1), (2, .int a2), (3, .int a3), (4, .int a4), (5, .int a5), (6, .int x6)] [] σ)) ∧ (¬ ((6 : Int32) ≤ ((rd σ 94 (a6.toNatClampNeg)) - (rd σ 94 (a6.toNatClampNeg)) / (24 : Int32) * (24 : Int32)) ∧ ((rd σ 94 (a6.toNatClampNeg)) - (rd σ 94 (a6.toNatClampNeg)) / (24 : Int32) * (24 : Int32)) ≤ (13 : Int32)) → ∀ x8 : Int32, x8 = a6 + 1 → J Γ l (d + 1) mX12_earlyOf Q 6 [(0, .ref 59), (1, .int a1), (2, .int a2), (3, .int a3), (4, .int a4), (5, .int a5), (6, .int x8)] [] σ)) ∧ (¬ rd σ 93 (a6.toNatClampNeg) = a2 → ∀ x3 : Int32, x3 = a6 + 1 → J Γ l (d + 1) mX12_earlyOf Q 6 [(0, .ref 59), (1, .int a1), (2, .int a2), (3, .int a3), (4, .int a4), (5, .int a5), (6, .int x3)] [] σ)) ∧ (¬ rd σ 92 (a6.toNatClampNeg) = a1 → ∀ x2 : Int32, x2 = a6 + 1 → J Γ l (d + 1) mX12_earlyOf Q 6 [(0, .ref 59), (1, .int a1), (2, .int a2), (3, .int a3), (4, .int a4), (5, .int a5), (6, .int x2)] [] σ))) : J Γ l (d + 1) mX12_earlyOf Q 6 [(0, .ref 59), (1, .int a1), (2, .int a2), (3, .int a3), (4, .int a4), (5, .int a5), (6, .int a6)] [] σ := by
  refine J_iload (i := 6) (kk := 6) dX12_earlyOf_6 rfl ?_
  refine J_aload_n (i := 0) (kk := 0) dX12_earlyOf_8 rfl rfl ?_
  refine J_getI (q := 59) (ci := 12) (kf := 45) kfX12_337 uxX12 rfl (by decide) rfl (by decide) rfl dX12_earlyOf_9 ?_
  refine J_icmp_ge 94 dX12_earlyOf_12 (by decide) (fun hc => ?_) (fun hc => ?_)
  · replace h := h.1 hc
    refine J_iload (i := 5) (kk := 5) dX12_earlyOf_94 rfl ?_
    exact J_iret rfl dX12_earlyOf_96 h
  · replace h := h.2 hc
    refine J_aload_n (i := 0) (kk := 0) dX12_earlyOf_15 rfl rfl ?_
    refine J_getR 92 (q := 59) (ci := 12) (kf := 46) kfX12_107 uxX12 rfl (by decide) rfl (by decide) rfl dX12_earlyOf_16 ?_
    refine J_iload (i := 6) (kk := 6) dX12_earlyOf_19 rfl ?_
    have b1 := h.1
    replace h := h.2
    refine J_ald (a6.toNatClampNeg) rfl (by decide) rfl b1 dX12_earlyOf_21 ?_
    refine J_iload_n (i := 1) (kk := 1) dX12_earlyOf_22 rfl rfl ?_
    refine J_icmp_ne 88 dX12_earlyOf_23 (by decide) (fun hc => ?_) (fun hc => ?_)
    · replace h := h.2 hc
      obtain ⟨x2, ex2⟩ : ∃ y : Int32, y = a6 + 1 := ⟨_, rfl⟩
      replace h := h x2 ex2
      refine J_iinc (i := 6) (kk := 6) (v := x2) (lv' := [(6, .int x2), (0, .ref 59), (1, .int a1), (2, .int a2), (3, .int a3), (4, .int a4), (5, .int a5)]) dX12_earlyOf_88 rfl (by rw [ex2]; rfl) (by decide) rfl ?_
      refine J_goto (tgt := 6) dX12_earlyOf_91 (by decide) ?_
      refine J_sub [1, 2, 3, 4, 5, 6, 0] rfl ?_
      exact h
    · replace h := h.1 hc
      refine J_aload_n (i := 0) (kk := 0) dX12_earlyOf_26 rfl rfl ?_
      refine J_getR 93 (q := 59) (ci := 12) (kf := 47) kfX12_110 uxX12 rfl (by decide) rfl (by decide) rfl dX12_earlyOf_27 ?_
      refine J_iload (i := 6) (kk := 6) dX12_earlyOf_30 rfl ?_
      refine J_ald (a6.toNatClampNeg) rfl (by decide) rfl b1 dX12_earlyOf_32 ?_
      refine J_iload_n (i := 2) (kk := 2) dX12_earlyOf_33 rfl rfl ?_
      refine J_icmp_ne 88 dX12_earlyOf_34 (by decide) (fun hc => ?_) (fun hc => ?_)
      · replace h := h.2 hc
        obtain ⟨x3, ex3⟩ : ∃ y : Int32, y = a6 + 1 := ⟨_, rfl⟩
        replace h := h x3 ex3
        refine J_iinc (i := 6) (kk := 6) (v := x3) (lv' := [(6, .int x3), (0, .ref 59), (1, .int a1), (2, .int a2), (3, .int a3), (4, .int a4), (5, .int a5)]) dX12_earlyOf_88 rfl (by rw [ex3]; rfl) (by decide) rfl ?_
        refine J_goto (tgt := 6) dX12_earlyOf_91 (by decide) ?_
        refine J_sub [1, 2, 3, 4, 5, 6, 0] rfl ?_
        exact h
      · replace h := h.1 hc
        refine J_aload_n (i := 0) (kk := 0) dX12_earlyOf_37 rfl rfl ?_
        refine J_getR 94 (q := 59) (ci := 12) (kf := 48) kfX12_113 uxX12 rfl (by decide) rfl (by decide) rfl dX12_earlyOf_38 ?_
        refine J_iload (i := 6) (kk := 6) dX12_earlyOf_41 rfl ?_
        refine J_ald (a6.toNatClampNeg) rfl (by decide) rfl b1 dX12_earlyOf_43 ?_
        refine J_bipush (v := 24) dX12_earlyOf_44 (by decide) ?_
        refine J_irem dX12_earlyOf_46 (by decide) ?_
        refine J_bipush (v := 6) dX12_earlyOf_47 (by decide) ?_
        refine J_bipush (v := 13) dX12_earlyOf_49 (by decide) ?_
        refine J_callS [.int ((rd σ 94 (a6.toNatClampNeg)) - (rd σ 94 (a6.toNatClampNeg)) / (24 : Int32) * (24 : Int32)), .int (6), .int (13)] [] calX12_in klX12_196 rfl rfl (Nat.le_of_ble_eq_true rfl) dX12_earlyOf_51 (KI.to (S_X12_in ((rd σ 94 (a6.toNatClampNeg)) - (rd σ 94 (a6.toNatClampNeg)) / (24 : Int32) * (24 : Int32)) (6 : Int32) (13 : Int32)) ?_)
        rintro x9 s9 ⟨rfl, ⟨g9, rfl⟩ | ⟨g9, rfl⟩⟩
        · replace h := h.1 g9
          refine J_if_eq 88 dX12_earlyOf_54 (by decide) (fun hc => absurd hc (by decide)) (fun _ => ?_)
          refine J_aload_n (i := 0) (kk := 0) dX12_earlyOf_57 rfl rfl ?_
          refine J_getR 94 (q := 59) (ci := 12) (kf := 48) kfX12_113 uxX12 rfl (by decide) rfl (by decide) rfl dX12_earlyOf_58 ?_
          refine J_iload (i := 6) (kk := 6) dX12_earlyOf_61 rfl ?_
          refine J_ald (a6.toNatClampNeg) rfl (by decide) rfl b1 dX12_earlyOf_63 ?_
          refine J_bipush (v := 24) dX12_earlyOf_64 (by decide) ?_
          refine J_idiv dX12_earlyOf_66 (by decide) ?_
          refine J_iload_n (i := 3) (kk := 3) dX12_earlyOf_67 rfl rfl ?_
          refine J_iload (i := 4) (kk := 4) dX12_earlyOf_68 rfl ?_
          refine J_callS [.int ((rd σ 94 (a6.toNatClampNeg)) / (24 : Int32)), .int a3, .int a4] [] calX12_in klX12_196 rfl rfl (Nat.le_of_ble_eq_true rfl) dX12_earlyOf_70 (KI.to (S_X12_in ((rd σ 94 (a6.toNatClampNeg)) / (24 : Int32)) a3 a4) ?_)
          rintro x9 s9 ⟨rfl, ⟨g7, rfl⟩ | ⟨g7, rfl⟩⟩
          · replace h := h.1 g7
            refine J_if_eq 88 dX12_earlyOf_73 (by decide) (fun hc => absurd hc (by decide)) (fun _ => ?_)
            refine J_iload (i := 5) (kk := 5) dX12_earlyOf_76 rfl ?_
            refine J_aload_n (i := 0) (kk := 0) dX12_earlyOf_78 rfl rfl ?_
            refine J_getR 97 (q := 59) (ci := 12) (kf := 51) kfX12_122 uxX12 rfl (by decide) rfl (by decide) rfl dX12_earlyOf_79 ?_
            refine J_iload (i := 6) (kk := 6) dX12_earlyOf_82 rfl ?_
            refine J_ald (a6.toNatClampNeg) rfl (by decide) rfl b1 dX12_earlyOf_84 ?_
            refine J_iadd dX12_earlyOf_85 ?_
            refine J_nameI (fun x4 ex4 => ?_)
            replace h := h x4 ex4
            refine J_istore (i := 5) (lv' := [(5, .int x4), (0, .ref 59), (1, .int a1), (2, .int a2), (3, .int a3), (4, .int a4), (6, .int a6)]) dX12_earlyOf_86 (by decide) rfl ?_
            obtain ⟨x5, ex5⟩ : ∃ y : Int32, y = a6 + 1 := ⟨_, rfl⟩
            replace h := h x5 ex5
            refine J_iinc (i := 6) (kk := 6) (v := x5) (lv' := [(6, .int x5), (5, .int x4), (0, .ref 59), (1, .int a1), (2, .int a2), (3, .int a3), (4, .int a4)]) dX12_earlyOf_88 rfl (by rw [ex5]; rfl) (by decide) rfl ?_
            refine J_goto (tgt := 6) dX12_earlyOf_91 (by decide) ?_
            refine J_sub [2, 3, 4, 5, 6, 1, 0] rfl ?_
            exact h
          · replace h := h.2 g7
            refine J_if_eq 88 dX12_earlyOf_73 (by decide) (fun _ => ?_) (fun hc => absurd hc (by decide))
            obtain ⟨x6, ex6⟩ : ∃ y : Int32, y = a6 + 1 := ⟨_, rfl⟩
            replace h := h x6 ex6
            refine J_iinc (i := 6) (kk := 6) (v := x6) (lv' := [(6, .int x6), (0, .ref 59), (1, .int a1), (2, .int a2), (3, .int a3), (4, .int a4), (5, .int a5)]) dX12_earlyOf_88 rfl (by rw [ex6]; rfl) (by decide) rfl ?_
            refine J_goto (tgt := 6) dX12_earlyOf_91 (by decide) ?_
            refine J_sub [1, 2, 3, 4, 5, 6, 0] rfl ?_
            exact h
        · replace h := h.2 g9
          refine J_if_eq 88 dX12_earlyOf_54 (by decide) (fun _ => ?_) (fun hc => absurd hc (by decide))
          obtain ⟨x8, ex8⟩ : ∃ y : Int32, y = a6 + 1 := ⟨_, rfl⟩
          replace h := h x8 ex8
          refine J_iinc (i := 6) (kk := 6) (v := x8) (lv' := [(6, .int x8), (0, .ref 59), (1, .int a1), (2, .int a2), (3, .int a3), (4, .int a4), (5, .int a5)]) dX12_earlyOf_88 rfl (by rw [ex8]; rfl) (by decide) rfl ?_
          refine J_goto (tgt := 6) dX12_earlyOf_91 (by decide) ?_
          refine J_sub [1, 2, 3, 4, 5, 6, 0] rfl ?_
          exact h
set_option maxHeartbeats 4000000 in
set_option maxRecDepth 100000 in
theorem w_X12_earlyOf_0 {Γ : GG} {l : Launch} {d : Nat} {Q : Option Value → St → Prop} {σ : St} (a1 : Int32) (a2 : Int32) (a3 : Int32) (a4 : Int32) (h : J Γ l (d + 1) mX12_earlyOf Q 6 [(0, .ref 59), (1, .int a1), (2, .int a2), (3, .int a3), (4, .int a4), (5, .int (0)), (6, .int (0))] [] σ) : J Γ l (d + 1) mX12_earlyOf Q 0 [(0, .ref 59), (1, .int a1), (2, .int a2), (3, .int a3), (4, .int a4)] [] σ := by
  refine J_iconst (v := 0) dX12_earlyOf_0 (by decide) ?_
  refine J_istore (i := 5) (lv' := [(5, .int (0)), (0, .ref 59), (1, .int a1), (2, .int a2), (3, .int a3), (4, .int a4)]) dX12_earlyOf_1 (by decide) rfl ?_
  refine J_iconst (v := 0) dX12_earlyOf_3 (by decide) ?_
  refine J_istore (i := 6) (lv' := [(6, .int (0)), (5, .int (0)), (0, .ref 59), (1, .int a1), (2, .int a2), (3, .int a3), (4, .int a4)]) dX12_earlyOf_4 (by decide) rfl ?_
  refine J_sub [2, 3, 4, 5, 6, 1, 0] rfl ?_
  exact h
theorem M_X12_earlyOf {Γ : GG} {l : Launch} {d : Nat} {Q : Option Value → St → Prop} {σ : St} (a1 : Int32) (a2 : Int32) (a3 : Int32) (a4 : Int32) (k : J Γ l (d + 1) mX12_earlyOf Q 0 [(0, .ref 59), (1, .int a1), (2, .int a2), (3, .int a3), (4, .int a4)] [] σ) : Meth Γ l (d + 1) mX12_earlyOf [.ref 59, .int a1, .int a2, .int a3, .int a4] σ Q := Meth_of_J (by decide +kernel) (fun _ => Nat.le_of_ble_eq_true rfl) (fun _ => rfl) k
set_option maxHeartbeats 4000000 in
set_option maxRecDepth 100000 in
theorem w_X12_early_0 {Γ : GG} {l : Launch} {d : Nat} {Q : Option Value → St → Prop} {σ : St} (a1 : Int32) (a2 : Int32) (a3 : Int32) (a4 : Int32) (h : ((0 ≤ a1 ∧ a1 ≤ (rd σ 59 2) - (1 : Int32)) ∧ 0 ≤ a2 ∧ a2 ≤ (rd σ 59 6) - (1 : Int32) → ((0 ≤ a3 ∧ a3 ≤ 1499) ∧ a3 ≤ a4 ∧ a4 ≤ 1499 → Meth Γ l (d + 2) mX12_earlyOf [.ref 59, .int a1, .int a2, .int a3, .int a4] σ (KI (fun x2 σ1 => Q (some (.int x2)) σ1))) ∧ (¬ ((0 ≤ a3 ∧ a3 ≤ 1499) ∧ a3 ≤ a4 ∧ a4 ≤ 1499) → Q (some (.int ((-1)))) σ)) ∧ (¬ ((0 ≤ a1 ∧ a1 ≤ (rd σ 59 2) - (1 : Int32)) ∧ 0 ≤ a2 ∧ a2 ≤ (rd σ 59 6) - (1 : Int32)) → Q (some (.int ((-1)))) σ)) : J Γ l (d + 3) mX12_early Q 0 [(0, .ref 59), (1, .int a1), (2, .int a2), (3, .int a3), (4, .int a4)] [] σ := by
  refine J_aload_n (i := 0) (kk := 0) dX12_early_0 rfl rfl ?_
  refine J_iload_n (i := 1) (kk := 1) dX12_early_1 rfl rfl ?_
  refine J_iload_n (i := 2) (kk := 2) dX12_early_2 rfl rfl ?_
  refine J_callV [.int a1, .int a2] [] calX12_areBoth klX12_223 (b := 59) (ci := 12) (by decide) rfl rfl rfl rfl (Nat.le_of_ble_eq_true rfl) dX12_early_3 (KI.to (S_X12_areBoth a1 a2) ?_)
  rintro x9 s9 ⟨rfl, ⟨g4, rfl⟩ | ⟨g4, rfl⟩⟩
  · replace h := h.1 g4
    refine J_if_eq 30 dX12_early_6 (by decide) (fun hc => absurd hc (by decide)) (fun _ => ?_)
    refine J_iload_n (i := 3) (kk := 3) dX12_early_9 rfl rfl ?_
    refine J_iload (i := 4) (kk := 4) dX12_early_10 rfl ?_
    refine J_callS [.int a3, .int a4] [] calX12_areDays klX12_392 rfl rfl (Nat.le_of_ble_eq_true rfl) dX12_early_12 (KI.to (S_X12_areDays a3 a4) ?_)
    rintro x9 s9 ⟨rfl, ⟨g3, rfl⟩ | ⟨g3, rfl⟩⟩
    · replace h := h.1 g3
      refine J_if_eq 30 dX12_early_15 (by decide) (fun hc => absurd hc (by decide)) (fun _ => ?_)
      refine J_aload_n (i := 0) (kk := 0) dX12_early_18 rfl rfl ?_
      refine J_iload_n (i := 1) (kk := 1) dX12_early_19 rfl rfl ?_
      refine J_iload_n (i := 2) (kk := 2) dX12_early_20 rfl rfl ?_
      refine J_iload_n (i := 3) (kk := 3) dX12_early_21 rfl rfl ?_
      refine J_iload (i := 4) (kk := 4) dX12_early_22 rfl ?_
      refine J_callV [.int a1, .int a2, .int a3, .int a4] [] calX12_earlyOf klX12_395 (b := 59) (ci := 12) (by decide) rfl rfl rfl rfl (Nat.le_of_ble_eq_true rfl) dX12_early_24 (KI.to h ?_)
      clear h
      intro x2 σ1 h
      refine J_goto (tgt := 31) dX12_early_27 (by decide) ?_
      exact J_iret rfl dX12_early_31 h
    · replace h := h.2 g3
      refine J_if_eq 30 dX12_early_15 (by decide) (fun _ => ?_) (fun hc => absurd hc (by decide))
      refine J_iconst (v := (-1)) dX12_early_30 (by decide) ?_
      exact J_iret rfl dX12_early_31 h
  · replace h := h.2 g4
    refine J_if_eq 30 dX12_early_6 (by decide) (fun _ => ?_) (fun hc => absurd hc (by decide))
    refine J_iconst (v := (-1)) dX12_early_30 (by decide) ?_
    exact J_iret rfl dX12_early_31 h
theorem M_X12_early {Γ : GG} {l : Launch} {d : Nat} {Q : Option Value → St → Prop} {σ : St} (a1 : Int32) (a2 : Int32) (a3 : Int32) (a4 : Int32) (k : J Γ l (d + 3) mX12_early Q 0 [(0, .ref 59), (1, .int a1), (2, .int a2), (3, .int a3), (4, .int a4)] [] σ) : Meth Γ l (d + 3) mX12_early [.ref 59, .int a1, .int a2, .int a3, .int a4] σ Q := Meth_of_J (by decide +kernel) (fun _ => Nat.le_of_ble_eq_true rfl) (fun _ => rfl) k
set_option maxHeartbeats 4000000 in
set_option maxRecDepth 100000 in
theorem w_X12_waiting_251 {Γ : GG} {l : Launch} {d : Nat} {Q : Option Value → St → Prop} {σ : St} (a5 : Int32) (a6 : Int32) (a7 : Int32) (a11 : Int32) (a12 : Int32) (a13 : Int32) (a14 : Int32) (a15 : Int32) (a16 : Int32) (h : (a5 ≤ a16 → (a14 = a6 → ∀ x1 : Int32, x1 = a11 + 1 → (a7 < a15 → ∀ x2 : Int32, x2 = a13 + 1 → J Γ l (d + 3) mX12_waiting Q 233 [(0, .ref 59), (5, .int a5), (6, .int a6), (7, .int a7), (11, .int x1), (12, .int (a12 + (0 : Int32))), (13, .int x2)] [] σ) ∧ (¬ a7 < a15 → ∀ x3 : Int32, x3 = a13 + 1 → J Γ l (d + 3) mX12_waiting Q 233 [(0, .ref 59), (5, .int a5), (6, .int a6), (7, .int a7), (11, .int x1), (12, .int (a12 + (1 : Int32))), (13, .int x3)] [] σ)) ∧ (¬ a14 = a6 → ∀ x4 : Int32, x4 = a13 + 1 → J Γ l (d + 3) mX12_waiting Q 233 [(0, .ref 59), (5, .int a5), (6, .int a6), (7, .int a7), (11, .int a11), (12, .int a12), (13, .int x4)] [] σ)) ∧ (¬ a5 ≤ a16 → ((a13 >>> (a16 &&& 31)) &&& (1 : Int32) = (0 : Int32) → ∀ x9 : Int32, x9 = a16 + 1 → J Γ l (d + 3) mX12_waiting Q 251 [(0, .ref 59), (5, .int a5), (6, .int a6), (7, .int a7), (11, .int a11), (12, .int a12), (13, .int a13), (14, .int a14), (15, .int a15), (16, .int x9)] [] σ) ∧ (¬ (a13 >>> (a16 &&& 31)) &&& (1 : Int32) = (0 : Int32) → ∀ x5 : Int32, x5 = a14 + 1 → vp_in a16 12 ∧ ∀ x7 : Int32, x7 = a15 + (rd σ 111 (a16.toNatClampNeg)) → ∀ x8 : Int32, x8 = a16 + 1 → J Γ l (d + 3) mX12_waiting Q 251 [(0, .ref 59), (5, .int a5), (6, .int a6), (7, .int a7), (11, .int a11), (12, .int a12), (13, .int a13), (14, .int x5), (15, .int x7), (16, .int x8)] [] σ))) : J Γ l (d + 3) mX12_waiting Q 251 [(0, .ref 59), (5, .int a5), (6, .int a6), (7, .int a7), (11, .int a11), (12, .int a12), (13, .int a13), (14, .int a14), (15, .int a15), (16, .int a16)] [] σ := by
  refine J_iload (i := 16) (kk := 9) dX12_waiting_251 rfl ?_
  refine J_iload (i := 5) (kk := 1) dX12_waiting_253 rfl ?_
  refine J_icmp_ge 292 dX12_waiting_255 (by decide) (fun hc => ?_) (fun hc => ?_)
  · replace h := h.1 hc
    refine J_iload (i := 14) (kk := 7) dX12_waiting_292 rfl ?_
    refine J_iload (i := 6) (kk := 2) dX12_waiting_294 rfl ?_
    refine J_icmp_eq 302 dX12_waiting_296 (by decide) (fun hc => ?_) (fun hc => ?_)
    · replace h := h.1 hc
      obtain ⟨x1, ex1⟩ : ∃ y : Int32, y = a11 + 1 := ⟨_, rfl⟩
      replace h := h x1 ex1
      refine J_iinc (i := 11) (kk := 4) (v := x1) (lv' := [(11, .int x1), (0, .ref 59), (5, .int a5), (6, .int a6), (7, .int a7), (12, .int a12), (13, .int a13), (14, .int a14), (15, .int a15), (16, .int a16)]) dX12_waiting_302 rfl (by rw [ex1]; rfl) (by decide) rfl ?_
      refine J_iload (i := 12) (kk := 5) dX12_waiting_305 rfl ?_
      refine J_iload (i := 15) (kk := 8) dX12_waiting_307 rfl ?_
      refine J_iload (i := 7) (kk := 4) dX12_waiting_309 rfl ?_
      refine J_icmp_gt 318 dX12_waiting_311 (by decide) (fun hc => ?_) (fun hc => ?_)
      · replace h := h.1 hc
        refine J_iconst (v := 0) dX12_waiting_318 (by decide) ?_
        refine J_iadd dX12_waiting_319 ?_
        refine J_istore (i := 12) (lv' := [(12, .int (a12 + (0 : Int32))), (11, .int x1), (0, .ref 59), (5, .int a5), (6, .int a6), (7, .int a7), (13, .int a13), (14, .int a14), (15, .int a15), (16, .int a16)]) dX12_waiting_320 (by decide) rfl ?_
        obtain ⟨x2, ex2⟩ : ∃ y : Int32, y = a13 + 1 := ⟨_, rfl⟩
        replace h := h x2 ex2
        refine J_iinc (i := 13) (kk := 6) (v := x2) (lv' := [(13, .int x2), (12, .int (a12 + (0 : Int32))), (11, .int x1), (0, .ref 59), (5, .int a5), (6, .int a6), (7, .int a7), (14, .int a14), (15, .int a15), (16, .int a16)]) dX12_waiting_322 rfl (by rw [ex2]; rfl) (by decide) rfl ?_
        refine J_goto (tgt := 233) dX12_waiting_325 (by decide) ?_
        refine J_sub [3, 4, 5, 6, 2, 1, 0] rfl ?_
        exact h
      · replace h := h.2 hc
        refine J_iconst (v := 1) dX12_waiting_314 (by decide) ?_
        refine J_goto (tgt := 319) dX12_waiting_315 (by decide) ?_
        refine J_iadd dX12_waiting_319 ?_
        refine J_istore (i := 12) (lv' := [(12, .int (a12 + (1 : Int32))), (11, .int x1), (0, .ref 59), (5, .int a5), (6, .int a6), (7, .int a7), (13, .int a13), (14, .int a14), (15, .int a15), (16, .int a16)]) dX12_waiting_320 (by decide) rfl ?_
        obtain ⟨x3, ex3⟩ : ∃ y : Int32, y = a13 + 1 := ⟨_, rfl⟩
        replace h := h x3 ex3
        refine J_iinc (i := 13) (kk := 6) (v := x3) (lv' := [(13, .int x3), (12, .int (a12 + (1 : Int32))), (11, .int x1), (0, .ref 59), (5, .int a5), (6, .int a6), (7, .int a7), (14, .int a14), (15, .int a15), (16, .int a16)]) dX12_waiting_322 rfl (by rw [ex3]; rfl) (by decide) rfl ?_
        refine J_goto (tgt := 233) dX12_waiting_325 (by decide) ?_
        refine J_sub [3, 4, 5, 6, 2, 1, 0] rfl ?_
        exact h
    · replace h := h.2 hc
      refine J_goto (tgt := 322) dX12_waiting_299 (by decide) ?_
      obtain ⟨x4, ex4⟩ : ∃ y : Int32, y = a13 + 1 := ⟨_, rfl⟩
      replace h := h x4 ex4
      refine J_iinc (i := 13) (kk := 6) (v := x4) (lv' := [(13, .int x4), (0, .ref 59), (5, .int a5), (6, .int a6), (7, .int a7), (11, .int a11), (12, .int a12), (14, .int a14), (15, .int a15), (16, .int a16)]) dX12_waiting_322 rfl (by rw [ex4]; rfl) (by decide) rfl ?_
      refine J_goto (tgt := 233) dX12_waiting_325 (by decide) ?_
      refine J_sub [1, 2, 3, 4, 5, 6, 0] rfl ?_
      exact h
  · replace h := h.2 hc
    refine J_iload (i := 13) (kk := 6) dX12_waiting_258 rfl ?_
    refine J_iload (i := 16) (kk := 9) dX12_waiting_260 rfl ?_
    refine J_ishr dX12_waiting_262 ?_
    refine J_iconst (v := 1) dX12_waiting_263 (by decide) ?_
    refine J_iand dX12_waiting_264 ?_
    refine J_if_ne 271 dX12_waiting_265 (by decide) (fun hc => ?_) (fun hc => ?_)
    · replace h := h.2 hc
      obtain ⟨x5, ex5⟩ : ∃ y : Int32, y = a14 + 1 := ⟨_, rfl⟩
      replace h := h x5 ex5
      refine J_iinc (i := 14) (kk := 7) (v := x5) (lv' := [(14, .int x5), (0, .ref 59), (5, .int a5), (6, .int a6), (7, .int a7), (11, .int a11), (12, .int a12), (13, .int a13), (15, .int a15), (16, .int a16)]) dX12_waiting_271 rfl (by rw [ex5]; rfl) (by decide) rfl ?_
      refine J_iload (i := 15) (kk := 8) dX12_waiting_274 rfl ?_
      refine J_aload_n (i := 0) (kk := 1) dX12_waiting_276 rfl rfl ?_
      refine J_getR 111 (q := 59) (ci := 12) (kf := 69) kfX12_172 uxX12 rfl (by decide) rfl (by decide) rfl dX12_waiting_277 ?_
      refine J_iload (i := 16) (kk := 9) dX12_waiting_280 rfl ?_
      have b6 := h.1
      replace h := h.2
      refine J_ald (a16.toNatClampNeg) rfl (by decide) rfl b6 dX12_waiting_282 ?_
      refine J_iadd dX12_waiting_283 ?_
      refine J_nameI (fun x7 ex7 => ?_)
      replace h := h x7 ex7
      refine J_istore (i := 15) (lv' := [(15, .int x7), (14, .int x5), (0, .ref 59), (5, .int a5), (6, .int a6), (7, .int a7), (11, .int a11), (12, .int a12), (13, .int a13), (16, .int a16)]) dX12_waiting_284 (by decide) rfl ?_
      obtain ⟨x8, ex8⟩ : ∃ y : Int32, y = a16 + 1 := ⟨_, rfl⟩
      replace h := h x8 ex8
      refine J_iinc (i := 16) (kk := 9) (v := x8) (lv' := [(16, .int x8), (15, .int x7), (14, .int x5), (0, .ref 59), (5, .int a5), (6, .int a6), (7, .int a7), (11, .int a11), (12, .int a12), (13, .int a13)]) dX12_waiting_286 rfl (by rw [ex8]; rfl) (by decide) rfl ?_
      refine J_goto (tgt := 251) dX12_waiting_289 (by decide) ?_
      refine J_sub [3, 4, 5, 6, 7, 8, 9, 2, 1, 0] rfl ?_
      exact h
    · replace h := h.1 hc
      refine J_goto (tgt := 286) dX12_waiting_268 (by decide) ?_
      obtain ⟨x9, ex9⟩ : ∃ y : Int32, y = a16 + 1 := ⟨_, rfl⟩
      replace h := h x9 ex9
      refine J_iinc (i := 16) (kk := 9) (v := x9) (lv' := [(16, .int x9), (0, .ref 59), (5, .int a5), (6, .int a6), (7, .int a7), (11, .int a11), (12, .int a12), (13, .int a13), (14, .int a14), (15, .int a15)]) dX12_waiting_286 rfl (by rw [ex9]; rfl) (by decide) rfl ?_
      refine J_goto (tgt := 251) dX12_waiting_289 (by decide) ?_
      refine J_sub [1, 2, 3, 4, 5, 6, 7, 8, 9, 0] rfl ?_
      exact h
set_option maxHeartbeats 4000000 in
set_option maxRecDepth 100000 in
theorem w_X12_waiting_233 {Γ : GG} {l : Launch} {d : Nat} {Q : Option Value → St → Prop} {σ : St} (a5 : Int32) (a6 : Int32) (a7 : Int32) (a11 : Int32) (a12 : Int32) (a13 : Int32) (h : ((1 : Int32) <<< (a5 &&& 31) ≤ a13 → ¬ a11 = 0 ∧ Q (some (.int (((((10000 : Int32) * a12) + a11) - (1 : Int32)) / a11))) σ) ∧ (¬ (1 : Int32) <<< (a5 &&& 31) ≤ a13 → J Γ l (d + 3) mX12_waiting Q 251 [(0, .ref 59), (5, .int a5), (6, .int a6), (7, .int a7), (11, .int a11), (12, .int a12), (13, .int a13), (14, .int (0)), (15, .int (0)), (16, .int (0))] [] σ)) : J Γ l (d + 3) mX12_waiting Q 233 [(0, .ref 59), (5, .int a5), (6, .int a6), (7, .int a7), (11, .int a11), (12, .int a12), (13, .int a13)] [] σ := by
  refine J_iload (i := 13) (kk := 6) dX12_waiting_233 rfl ?_
  refine J_iconst (v := 1) dX12_waiting_235 (by decide) ?_
  refine J_iload (i := 5) (kk := 1) dX12_waiting_236 rfl ?_
  refine J_ishl dX12_waiting_238 ?_
  refine J_icmp_ge 328 dX12_waiting_239 (by decide) (fun hc => ?_) (fun hc => ?_)
  · replace h := h.1 hc
    refine J_sipush (v := 10000) dX12_waiting_328 (by decide) ?_
    refine J_iload (i := 12) (kk := 5) dX12_waiting_331 rfl ?_
    refine J_imul dX12_waiting_333 ?_
    refine J_iload (i := 11) (kk := 4) dX12_waiting_334 rfl ?_
    refine J_iadd dX12_waiting_336 ?_
    refine J_iconst (v := 1) dX12_waiting_337 (by decide) ?_
    refine J_isub dX12_waiting_338 ?_
    refine J_iload (i := 11) (kk := 4) dX12_waiting_339 rfl ?_
    have hz := h.1
    replace h := h.2
    refine J_idiv dX12_waiting_341 hz ?_
    exact J_iret rfl dX12_waiting_342 h
  · replace h := h.2 hc
    refine J_iconst (v := 0) dX12_waiting_242 (by decide) ?_
    refine J_istore (i := 14) (lv' := [(14, .int (0)), (0, .ref 59), (5, .int a5), (6, .int a6), (7, .int a7), (11, .int a11), (12, .int a12), (13, .int a13)]) dX12_waiting_243 (by decide) rfl ?_
    refine J_iconst (v := 0) dX12_waiting_245 (by decide) ?_
    refine J_istore (i := 15) (lv' := [(15, .int (0)), (14, .int (0)), (0, .ref 59), (5, .int a5), (6, .int a6), (7, .int a7), (11, .int a11), (12, .int a12), (13, .int a13)]) dX12_waiting_246 (by decide) rfl ?_
    refine J_iconst (v := 0) dX12_waiting_248 (by decide) ?_
    refine J_istore (i := 16) (lv' := [(16, .int (0)), (15, .int (0)), (14, .int (0)), (0, .ref 59), (5, .int a5), (6, .int a6), (7, .int a7), (11, .int a11), (12, .int a12), (13, .int a13)]) dX12_waiting_249 (by decide) rfl ?_
    refine J_sub [3, 4, 5, 6, 7, 8, 9, 2, 1, 0] rfl ?_
    exact h
set_option maxHeartbeats 4000000 in
set_option maxRecDepth 100000 in
theorem w_X12_waiting_92 {Γ : GG} {l : Launch} {d : Nat} {Q : Option Value → St → Prop} {σ : St} (a1 : Int32) (a2 : Int32) (a3 : Int32) (a4 : Int32) (a5 : Int32) (a6 : Int32) (a7 : Int32) (a8 : Int32) (a10 : Int32) (h : ∀ x1 : Int32, x1 = a5 + 1 → vp_in a10 12 ∧ ∀ x3 : Int32, x3 = a6 + (rd σ 110 (a10.toNatClampNeg)) → Meth Γ l (d + 2) mX12_earlyOf [.ref 59, .int a10, .int a1, .int a2, .int a3] σ (KI (fun x5 σ4 => (rd σ4 110 (a10.toNatClampNeg) = (1 : Int32) → ∀ x7 : Int32, x7 = a10 + 1 → J Γ l (d + 3) mX12_waiting Q 47 [(0, .ref 59), (1, .int a1), (2, .int a2), (3, .int a3), (4, .int a4), (5, .int x1), (6, .int x3), (7, .int (a7 + x5)), (8, .int (a8 + x5)), (10, .int x7)] [] σ4) ∧ (¬ rd σ4 110 (a10.toNatClampNeg) = (1 : Int32) → ∀ x6 : Int32, x6 = a10 + 1 → J Γ l (d + 3) mX12_waiting Q 47 [(0, .ref 59), (1, .int a1), (2, .int a2), (3, .int a3), (4, .int a4), (5, .int x1), (6, .int x3), (7, .int (a7 + (0 : Int32))), (8, .int (a8 + x5)), (10, .int x6)] [] σ4)))) : J Γ l (d + 3) mX12_waiting Q 92 [(0, .ref 59), (1, .int a1), (2, .int a2), (3, .int a3), (4, .int a4), (5, .int a5), (6, .int a6), (7, .int a7), (8, .int a8), (10, .int a10)] [] σ := by
  obtain ⟨x1, ex1⟩ : ∃ y : Int32, y = a5 + 1 := ⟨_, rfl⟩
  replace h := h x1 ex1
  refine J_iinc (i := 5) (kk := 5) (v := x1) (lv' := [(5, .int x1), (0, .ref 59), (1, .int a1), (2, .int a2), (3, .int a3), (4, .int a4), (6, .int a6), (7, .int a7), (8, .int a8), (10, .int a10)]) dX12_waiting_92 rfl (by rw [ex1]; rfl) (by decide) rfl ?_
  refine J_iload (i := 6) (kk := 6) dX12_waiting_95 rfl ?_
  refine J_aload_n (i := 0) (kk := 1) dX12_waiting_97 rfl rfl ?_
  refine J_getR 110 (q := 59) (ci := 12) (kf := 68) kfX12_169 uxX12 rfl (by decide) rfl (by decide) rfl dX12_waiting_98 ?_
  refine J_iload (i := 10) (kk := 9) dX12_waiting_101 rfl ?_
  have b2 := h.1
  replace h := h.2
  refine J_ald (a10.toNatClampNeg) rfl (by decide) rfl b2 dX12_waiting_103 ?_
  refine J_iadd dX12_waiting_104 ?_
  refine J_nameI (fun x3 ex3 => ?_)
  replace h := h x3 ex3
  refine J_istore (i := 6) (lv' := [(6, .int x3), (5, .int x1), (0, .ref 59), (1, .int a1), (2, .int a2), (3, .int a3), (4, .int a4), (7, .int a7), (8, .int a8), (10, .int a10)]) dX12_waiting_105 (by decide) rfl ?_
  refine J_aload_n (i := 0) (kk := 2) dX12_waiting_107 rfl rfl ?_
  refine J_iload (i := 10) (kk := 9) dX12_waiting_108 rfl ?_
  refine J_iload_n (i := 1) (kk := 3) dX12_waiting_110 rfl rfl ?_
  refine J_iload_n (i := 2) (kk := 4) dX12_waiting_111 rfl rfl ?_
  refine J_iload_n (i := 3) (kk := 5) dX12_waiting_112 rfl rfl ?_
  refine J_callV [.int a10, .int a1, .int a2, .int a3] [] calX12_earlyOf klX12_395 (b := 59) (ci := 12) (by decide) rfl rfl rfl rfl (Nat.le_of_ble_eq_true rfl) dX12_waiting_113 (KI.to h ?_)
  clear h
  intro x5 σ4 h
  refine J_istore (i := 9) (lv' := [(9, .int x5), (6, .int x3), (5, .int x1), (0, .ref 59), (1, .int a1), (2, .int a2), (3, .int a3), (4, .int a4), (7, .int a7), (8, .int a8), (10, .int a10)]) dX12_waiting_116 (by decide) rfl ?_
  refine J_iload (i := 8) (kk := 9) dX12_waiting_118 rfl ?_
  refine J_iload (i := 9) (kk := 0) dX12_waiting_120 rfl ?_
  refine J_iadd dX12_waiting_122 ?_
  refine J_istore (i := 8) (lv' := [(8, .int (a8 + x5)), (9, .int x5), (6, .int x3), (5, .int x1), (0, .ref 59), (1, .int a1), (2, .int a2), (3, .int a3), (4, .int a4), (7, .int a7), (10, .int a10)]) dX12_waiting_123 (by decide) rfl ?_
  refine J_iload (i := 7) (kk := 9) dX12_waiting_125 rfl ?_
  refine J_aload_n (i := 0) (kk := 4) dX12_waiting_127 rfl rfl ?_
  refine J_getR 110 (q := 59) (ci := 12) (kf := 68) kfX12_169 uxX12 rfl (by decide) rfl (by decide) rfl dX12_waiting_128 ?_
  refine J_iload (i := 10) (kk := 10) dX12_waiting_131 rfl ?_
  refine J_ald (a10.toNatClampNeg) rfl (by decide) rfl b2 dX12_waiting_133 ?_
  refine J_iconst (v := 1) dX12_waiting_134 (by decide) ?_
  refine J_icmp_ne 143 dX12_waiting_135 (by decide) (fun hc => ?_) (fun hc => ?_)
  · replace h := h.2 hc
    refine J_iconst (v := 0) dX12_waiting_143 (by decide) ?_
    refine J_iadd dX12_waiting_144 ?_
    refine J_istore (i := 7) (lv' := [(7, .int (a7 + (0 : Int32))), (8, .int (a8 + x5)), (9, .int x5), (6, .int x3), (5, .int x1), (0, .ref 59), (1, .int a1), (2, .int a2), (3, .int a3), (4, .int a4), (10, .int a10)]) dX12_waiting_145 (by decide) rfl ?_
    obtain ⟨x6, ex6⟩ : ∃ y : Int32, y = a10 + 1 := ⟨_, rfl⟩
    replace h := h x6 ex6
    refine J_iinc (i := 10) (kk := 10) (v := x6) (lv' := [(10, .int x6), (7, .int (a7 + (0 : Int32))), (8, .int (a8 + x5)), (9, .int x5), (6, .int x3), (5, .int x1), (0, .ref 59), (1, .int a1), (2, .int a2), (3, .int a3), (4, .int a4)]) dX12_waiting_147 rfl (by rw [ex6]; rfl) (by decide) rfl ?_
    refine J_goto (tgt := 47) dX12_waiting_150 (by decide) ?_
    refine J_sub [6, 7, 8, 9, 10, 5, 4, 1, 2, 0] rfl ?_
    exact h
  · replace h := h.1 hc
    refine J_iload (i := 9) (kk := 1) dX12_waiting_138 rfl ?_
    refine J_goto (tgt := 144) dX12_waiting_140 (by decide) ?_
    refine J_iadd dX12_waiting_144 ?_
    refine J_istore (i := 7) (lv' := [(7, .int (a7 + x5)), (8, .int (a8 + x5)), (9, .int x5), (6, .int x3), (5, .int x1), (0, .ref 59), (1, .int a1), (2, .int a2), (3, .int a3), (4, .int a4), (10, .int a10)]) dX12_waiting_145 (by decide) rfl ?_
    obtain ⟨x7, ex7⟩ : ∃ y : Int32, y = a10 + 1 := ⟨_, rfl⟩
    replace h := h x7 ex7
    refine J_iinc (i := 10) (kk := 10) (v := x7) (lv' := [(10, .int x7), (7, .int (a7 + x5)), (8, .int (a8 + x5)), (9, .int x5), (6, .int x3), (5, .int x1), (0, .ref 59), (1, .int a1), (2, .int a2), (3, .int a3), (4, .int a4)]) dX12_waiting_147 rfl (by rw [ex7]; rfl) (by decide) rfl ?_
    refine J_goto (tgt := 47) dX12_waiting_150 (by decide) ?_
    refine J_sub [6, 7, 8, 9, 10, 5, 4, 1, 2, 0] rfl ?_
    exact h
set_option maxHeartbeats 4000000 in
set_option maxRecDepth 100000 in
theorem w_X12_waiting_47 {Γ : GG} {l : Launch} {d : Nat} {Q : Option Value → St → Prop} {σ : St} (a1 : Int32) (a2 : Int32) (a3 : Int32) (a4 : Int32) (a5 : Int32) (a6 : Int32) (a7 : Int32) (a8 : Int32) (a10 : Int32) (h : (rd σ 59 2 ≤ a10 → (a6 = (0 : Int32) → Q (some (.int ((-1999999999)))) σ) ∧ (¬ a6 = (0 : Int32) → (a6 = a5 → Q (some (.int ((-1999999999)))) σ) ∧ (¬ a6 = a5 → (a5 ≤ (10 : Int32) → (a4 = (0 : Int32) → ¬ ((a5 - a6).toInt64) * a6.toInt64 = 0 ∧ Q (some (.int ((((100 : Int64) * ((((a8 - a7).toInt64) * a6.toInt64) - (a7.toInt64 * ((a5 - a6).toInt64)))) / (((a5 - a6).toInt64) * a6.toInt64)).toInt32))) σ) ∧ (¬ a4 = (0 : Int32) → J Γ l (d + 3) mX12_waiting Q 233 [(0, .ref 59), (5, .int a5), (6, .int a6), (7, .int a7), (11, .int (0)), (12, .int (0)), (13, .int (0))] [] σ)) ∧ (¬ a5 ≤ (10 : Int32) → Q (some (.int ((-1999999998)))) σ)))) ∧ (¬ rd σ 59 2 ≤ a10 → vp_in a10 12 ∧ ((0 : Int32) ≤ rd σ 110 (a10.toNatClampNeg) → ((10 : Int32) ≤ a5 → J Γ l (d + 3) mX12_waiting Q 92 [(0, .ref 59), (1, .int a1), (2, .int a2), (3, .int a3), (4, .int a4), (5, .int a5), (6, .int a6), (7, .int a7), (8, .int a8), (10, .int a10)] [] σ) ∧ (¬ (10 : Int32) ≤ a5 → Meth Γ l (d + 2) mX12_earlyOf [.ref 59, .int a10, .int a1, .int a2, .int a3] σ (KI (fun x3 σ2 => vp_in a5 12 ∧ J Γ l (d + 3) mX12_waiting Q 92 [(0, .ref 59), (1, .int a1), (2, .int a2), (3, .int a3), (4, .int a4), (5, .int a5), (6, .int a6), (7, .int a7), (8, .int a8), (10, .int a10)] [] (wr σ2 111 (a5.toNatClampNeg) x3))))) ∧ (¬ (0 : Int32) ≤ rd σ 110 (a10.toNatClampNeg) → ∀ x5 : Int32, x5 = a10 + 1 → J Γ l (d + 3) mX12_waiting Q 47 [(0, .ref 59), (1, .int a1), (2, .int a2), (3, .int a3), (4, .int a4), (5, .int a5), (6, .int a6), (7, .int a7), (8, .int a8), (10, .int x5)] [] σ))) : J Γ l (d + 3) mX12_waiting Q 47 [(0, .ref 59), (1, .int a1), (2, .int a2), (3, .int a3), (4, .int a4), (5, .int a5), (6, .int a6), (7, .int a7), (8, .int a8), (10, .int a10)] [] σ := by
  refine J_iload (i := 10) (kk := 9) dX12_waiting_47 rfl ?_
  refine J_aload_n (i := 0) (kk := 0) dX12_waiting_49 rfl rfl ?_
  refine J_getI (q := 59) (ci := 12) (kf := 2) kfX12_203 uxX12 rfl (by decide) rfl (by decide) rfl dX12_waiting_50 ?_
  refine J_icmp_ge 153 dX12_waiting_53 (by decide) (fun hc => ?_) (fun hc => ?_)
  · replace h := h.1 hc
    refine J_iload (i := 6) (kk := 6) dX12_waiting_153 rfl ?_
    refine J_if_eq 165 dX12_waiting_155 (by decide) (fun hc => ?_) (fun hc => ?_)
    · replace h := h.1 hc
      refine J_ldcw (v := (-1999999999)) kcX12_399 dX12_waiting_165 ?_
      exact J_iret rfl dX12_waiting_168 h
    · replace h := h.2 hc
      refine J_iload (i := 6) (kk := 6) dX12_waiting_158 rfl ?_
      refine J_iload (i := 5) (kk := 5) dX12_waiting_160 rfl ?_
      refine J_icmp_ne 169 dX12_waiting_162 (by decide) (fun hc => ?_) (fun hc => ?_)
      · replace h := h.2 hc
        refine J_iload (i := 5) (kk := 5) dX12_waiting_169 rfl ?_
        refine J_bipush (v := 10) dX12_waiting_171 (by decide) ?_
        refine J_icmp_le 180 dX12_waiting_173 (by decide) (fun hc => ?_) (fun hc => ?_)
        · replace h := h.1 hc
          refine J_iload (i := 5) (kk := 5) dX12_waiting_180 rfl ?_
          refine J_iload (i := 6) (kk := 6) dX12_waiting_182 rfl ?_
          refine J_isub dX12_waiting_184 ?_
          refine J_istore (i := 10) (lv' := [(10, .int (a5 - a6)), (0, .ref 59), (1, .int a1), (2, .int a2), (3, .int a3), (4, .int a4), (5, .int a5), (6, .int a6), (7, .int a7), (8, .int a8)]) dX12_waiting_185 (by decide) rfl ?_
          refine J_iload (i := 4) (kk := 5) dX12_waiting_187 rfl ?_
          refine J_if_ne 224 dX12_waiting_189 (by decide) (fun hc => ?_) (fun hc => ?_)
          · replace h := h.2 hc
            refine J_iconst (v := 0) dX12_waiting_224 (by decide) ?_
            refine J_istore (i := 11) (lv' := [(11, .int (0)), (10, .int (a5 - a6)), (0, .ref 59), (1, .int a1), (2, .int a2), (3, .int a3), (4, .int a4), (5, .int a5), (6, .int a6), (7, .int a7), (8, .int a8)]) dX12_waiting_225 (by decide) rfl ?_
            refine J_iconst (v := 0) dX12_waiting_227 (by decide) ?_
            refine J_istore (i := 12) (lv' := [(12, .int (0)), (11, .int (0)), (10, .int (a5 - a6)), (0, .ref 59), (1, .int a1), (2, .int a2), (3, .int a3), (4, .int a4), (5, .int a5), (6, .int a6), (7, .int a7), (8, .int a8)]) dX12_waiting_228 (by decide) rfl ?_
            refine J_iconst (v := 0) dX12_waiting_230 (by decide) ?_
            refine J_istore (i := 13) (lv' := [(13, .int (0)), (12, .int (0)), (11, .int (0)), (10, .int (a5 - a6)), (0, .ref 59), (1, .int a1), (2, .int a2), (3, .int a3), (4, .int a4), (5, .int a5), (6, .int a6), (7, .int a7), (8, .int a8)]) dX12_waiting_231 (by decide) rfl ?_
            refine J_sub [4, 9, 10, 11, 2, 1, 0] rfl ?_
            exact h
          · replace h := h.1 hc
            refine J_ldc2 (v := 100) kqX12_401 dX12_waiting_192 ?_
            refine J_iload (i := 8) (kk := 9) dX12_waiting_195 rfl ?_
            refine J_iload (i := 7) (kk := 8) dX12_waiting_197 rfl ?_
            refine J_isub dX12_waiting_199 ?_
            refine J_i2l dX12_waiting_200 ?_
            refine J_iload (i := 6) (kk := 7) dX12_waiting_201 rfl ?_
            refine J_i2l dX12_waiting_203 ?_
            refine J_lmul dX12_waiting_204 ?_
            refine J_iload (i := 7) (kk := 8) dX12_waiting_205 rfl ?_
            refine J_i2l dX12_waiting_207 ?_
            refine J_iload (i := 10) (kk := 0) dX12_waiting_208 rfl ?_
            refine J_i2l dX12_waiting_210 ?_
            refine J_lmul dX12_waiting_211 ?_
            refine J_lsub dX12_waiting_212 ?_
            refine J_lmul dX12_waiting_213 ?_
            refine J_iload (i := 10) (kk := 0) dX12_waiting_214 rfl ?_
            refine J_i2l dX12_waiting_216 ?_
            refine J_iload (i := 6) (kk := 7) dX12_waiting_217 rfl ?_
            refine J_i2l dX12_waiting_219 ?_
            refine J_lmul dX12_waiting_220 ?_
            have hz := h.1
            replace h := h.2
            refine J_ldiv dX12_waiting_221 hz ?_
            refine J_l2i dX12_waiting_222 ?_
            exact J_iret rfl dX12_waiting_223 h
        · replace h := h.2 hc
          refine J_ldcw (v := (-1999999998)) kcX12_400 dX12_waiting_176 ?_
          exact J_iret rfl dX12_waiting_179 h
      · replace h := h.1 hc
        refine J_ldcw (v := (-1999999999)) kcX12_399 dX12_waiting_165 ?_
        exact J_iret rfl dX12_waiting_168 h
  · replace h := h.2 hc
    refine J_aload_n (i := 0) (kk := 0) dX12_waiting_56 rfl rfl ?_
    refine J_getR 110 (q := 59) (ci := 12) (kf := 68) kfX12_169 uxX12 rfl (by decide) rfl (by decide) rfl dX12_waiting_57 ?_
    refine J_iload (i := 10) (kk := 9) dX12_waiting_60 rfl ?_
    have b1 := h.1
    replace h := h.2
    refine J_ald (a10.toNatClampNeg) rfl (by decide) rfl b1 dX12_waiting_62 ?_
    refine J_if_ge 69 dX12_waiting_63 (by decide) (fun hc => ?_) (fun hc => ?_)
    · replace h := h.1 hc
      refine J_iload (i := 5) (kk := 5) dX12_waiting_69 rfl ?_
      refine J_bipush (v := 10) dX12_waiting_71 (by decide) ?_
      refine J_icmp_ge 92 dX12_waiting_73 (by decide) (fun hc => ?_) (fun hc => ?_)
      · replace h := h.1 hc
        refine J_sub [0, 1, 2, 3, 4, 5, 6, 7, 8, 9] rfl ?_
        exact h
      · replace h := h.2 hc
        refine J_aload_n (i := 0) (kk := 0) dX12_waiting_76 rfl rfl ?_
        refine J_getR 111 (q := 59) (ci := 12) (kf := 69) kfX12_172 uxX12 rfl (by decide) rfl (by decide) rfl dX12_waiting_77 ?_
        refine J_iload (i := 5) (kk := 5) dX12_waiting_80 rfl ?_
        refine J_aload_n (i := 0) (kk := 0) dX12_waiting_82 rfl rfl ?_
        refine J_iload (i := 10) (kk := 9) dX12_waiting_83 rfl ?_
        refine J_iload_n (i := 1) (kk := 1) dX12_waiting_85 rfl rfl ?_
        refine J_iload_n (i := 2) (kk := 2) dX12_waiting_86 rfl rfl ?_
        refine J_iload_n (i := 3) (kk := 3) dX12_waiting_87 rfl rfl ?_
        refine J_callV [.int a10, .int a1, .int a2, .int a3] [.int a5, .ref 111] calX12_earlyOf klX12_395 (b := 59) (ci := 12) (by decide) rfl rfl rfl rfl (Nat.le_of_ble_eq_true rfl) dX12_waiting_88 (KI.to h ?_)
        clear h
        intro x3 σ2 h
        have b4 := h.1
        replace h := h.2
        refine J_ast (a5.toNatClampNeg) rfl (by decide) rfl b4 dX12_waiting_91 ?_
        refine J_sub [0, 1, 2, 3, 4, 5, 6, 7, 8, 9] rfl ?_
        exact h
    · replace h := h.2 hc
      refine J_goto (tgt := 147) dX12_waiting_66 (by decide) ?_
      obtain ⟨x5, ex5⟩ : ∃ y : Int32, y = a10 + 1 := ⟨_, rfl⟩
      replace h := h x5 ex5
      refine J_iinc (i := 10) (kk := 9) (v := x5) (lv' := [(10, .int x5), (0, .ref 59), (1, .int a1), (2, .int a2), (3, .int a3), (4, .int a4), (5, .int a5), (6, .int a6), (7, .int a7), (8, .int a8)]) dX12_waiting_147 rfl (by rw [ex5]; rfl) (by decide) rfl ?_
      refine J_goto (tgt := 47) dX12_waiting_150 (by decide) ?_
      refine J_sub [1, 2, 3, 4, 5, 6, 7, 8, 9, 0] rfl ?_
      exact h
set_option maxHeartbeats 4000000 in
set_option maxRecDepth 100000 in
theorem w_X12_waiting_0 {Γ : GG} {l : Launch} {d : Nat} {Q : Option Value → St → Prop} {σ : St} (a1 : Int32) (a2 : Int32) (a3 : Int32) (a4 : Int32) (h : (0 ≤ a1 ∧ a1 ≤ (rd σ 59 6) - (1 : Int32) → ((0 ≤ a2 ∧ a2 ≤ 1499) ∧ a2 ≤ a3 ∧ a3 ≤ 1499 → ((0 : Int32) ≤ a4 ∧ a4 ≤ (1 : Int32) → J Γ l (d + 3) mX12_waiting Q 47 [(0, .ref 59), (1, .int a1), (2, .int a2), (3, .int a3), (4, .int a4), (5, .int (0)), (6, .int (0)), (7, .int (0)), (8, .int (0)), (10, .int (0))] [] σ) ∧ (¬ ((0 : Int32) ≤ a4 ∧ a4 ≤ (1 : Int32)) → Q (some (.int ((-2000000000)))) σ)) ∧ (¬ ((0 ≤ a2 ∧ a2 ≤ 1499) ∧ a2 ≤ a3 ∧ a3 ≤ 1499) → Q (some (.int ((-2000000000)))) σ)) ∧ (¬ (0 ≤ a1 ∧ a1 ≤ (rd σ 59 6) - (1 : Int32)) → Q (some (.int ((-2000000000)))) σ)) : J Γ l (d + 3) mX12_waiting Q 0 [(0, .ref 59), (1, .int a1), (2, .int a2), (3, .int a3), (4, .int a4)] [] σ := by
  refine J_aload_n (i := 0) (kk := 0) dX12_waiting_0 rfl rfl ?_
  refine J_iload_n (i := 1) (kk := 1) dX12_waiting_1 rfl rfl ?_
  refine J_callV [.int a1] [] calX12_isKind klX12_213 (b := 59) (ci := 12) (by decide) rfl rfl rfl rfl (Nat.le_of_ble_eq_true rfl) dX12_waiting_2 (KI.to (S_X12_isKind a1) ?_)
  rintro x9 s9 ⟨rfl, ⟨g3, rfl⟩ | ⟨g3, rfl⟩⟩
  · replace h := h.1 g3
    refine J_if_eq 26 dX12_waiting_5 (by decide) (fun hc => absurd hc (by decide)) (fun _ => ?_)
    refine J_iload_n (i := 2) (kk := 2) dX12_waiting_8 rfl rfl ?_
    refine J_iload_n (i := 3) (kk := 3) dX12_waiting_9 rfl rfl ?_
    refine J_callS [.int a2, .int a3] [] calX12_areDays klX12_392 rfl rfl (Nat.le_of_ble_eq_true rfl) dX12_waiting_10 (KI.to (S_X12_areDays a2 a3) ?_)
    rintro x9 s9 ⟨rfl, ⟨g2, rfl⟩ | ⟨g2, rfl⟩⟩
    · replace h := h.1 g2
      refine J_if_eq 26 dX12_waiting_13 (by decide) (fun hc => absurd hc (by decide)) (fun _ => ?_)
      refine J_iload (i := 4) (kk := 4) dX12_waiting_16 rfl ?_
      refine J_iconst (v := 0) dX12_waiting_18 (by decide) ?_
      refine J_iconst (v := 1) dX12_waiting_19 (by decide) ?_
      refine J_callS [.int a4, .int (0), .int (1)] [] calX12_in klX12_196 rfl rfl (Nat.le_of_ble_eq_true rfl) dX12_waiting_20 (KI.to (S_X12_in a4 (0 : Int32) (1 : Int32)) ?_)
      rintro x9 s9 ⟨rfl, ⟨g1, rfl⟩ | ⟨g1, rfl⟩⟩
      · replace h := h.1 g1
        refine J_if_ne 29 dX12_waiting_23 (by decide) (fun _ => ?_) (fun hc => absurd hc (by decide))
        refine J_iconst (v := 0) dX12_waiting_29 (by decide) ?_
        refine J_istore (i := 5) (lv' := [(5, .int (0)), (0, .ref 59), (1, .int a1), (2, .int a2), (3, .int a3), (4, .int a4)]) dX12_waiting_30 (by decide) rfl ?_
        refine J_iconst (v := 0) dX12_waiting_32 (by decide) ?_
        refine J_istore (i := 6) (lv' := [(6, .int (0)), (5, .int (0)), (0, .ref 59), (1, .int a1), (2, .int a2), (3, .int a3), (4, .int a4)]) dX12_waiting_33 (by decide) rfl ?_
        refine J_iconst (v := 0) dX12_waiting_35 (by decide) ?_
        refine J_istore (i := 7) (lv' := [(7, .int (0)), (6, .int (0)), (5, .int (0)), (0, .ref 59), (1, .int a1), (2, .int a2), (3, .int a3), (4, .int a4)]) dX12_waiting_36 (by decide) rfl ?_
        refine J_iconst (v := 0) dX12_waiting_38 (by decide) ?_
        refine J_istore (i := 8) (lv' := [(8, .int (0)), (7, .int (0)), (6, .int (0)), (5, .int (0)), (0, .ref 59), (1, .int a1), (2, .int a2), (3, .int a3), (4, .int a4)]) dX12_waiting_39 (by decide) rfl ?_
        refine J_iconst (v := 0) dX12_waiting_41 (by decide) ?_
        refine J_istore (i := 9) (lv' := [(9, .int (0)), (8, .int (0)), (7, .int (0)), (6, .int (0)), (5, .int (0)), (0, .ref 59), (1, .int a1), (2, .int a2), (3, .int a3), (4, .int a4)]) dX12_waiting_42 (by decide) rfl ?_
        refine J_iconst (v := 0) dX12_waiting_44 (by decide) ?_
        refine J_istore (i := 10) (lv' := [(10, .int (0)), (9, .int (0)), (8, .int (0)), (7, .int (0)), (6, .int (0)), (5, .int (0)), (0, .ref 59), (1, .int a1), (2, .int a2), (3, .int a3), (4, .int a4)]) dX12_waiting_45 (by decide) rfl ?_
        refine J_sub [6, 7, 8, 9, 10, 5, 4, 3, 2, 0] rfl ?_
        exact h
      · replace h := h.2 g1
        refine J_if_ne 29 dX12_waiting_23 (by decide) (fun hc => absurd hc (by decide)) (fun _ => ?_)
        refine J_ldc (v := (-2000000000)) kcX12_244 dX12_waiting_26 ?_
        exact J_iret rfl dX12_waiting_28 h
    · replace h := h.2 g2
      refine J_if_eq 26 dX12_waiting_13 (by decide) (fun _ => ?_) (fun hc => absurd hc (by decide))
      refine J_ldc (v := (-2000000000)) kcX12_244 dX12_waiting_26 ?_
      exact J_iret rfl dX12_waiting_28 h
  · replace h := h.2 g3
    refine J_if_eq 26 dX12_waiting_5 (by decide) (fun _ => ?_) (fun hc => absurd hc (by decide))
    refine J_ldc (v := (-2000000000)) kcX12_244 dX12_waiting_26 ?_
    exact J_iret rfl dX12_waiting_28 h
theorem M_X12_waiting {Γ : GG} {l : Launch} {d : Nat} {Q : Option Value → St → Prop} {σ : St} (a1 : Int32) (a2 : Int32) (a3 : Int32) (a4 : Int32) (k : J Γ l (d + 3) mX12_waiting Q 0 [(0, .ref 59), (1, .int a1), (2, .int a2), (3, .int a3), (4, .int a4)] [] σ) : Meth Γ l (d + 3) mX12_waiting [.ref 59, .int a1, .int a2, .int a3, .int a4] σ Q := Meth_of_J (by decide +kernel) (fun _ => Nat.le_of_ble_eq_true rfl) (fun _ => rfl) k
set_option maxHeartbeats 4000000 in
set_option maxRecDepth 100000 in
theorem w_X12_kitchen_0 {Γ : GG} {l : Launch} {d : Nat} {Q : Option Value → St → Prop} {σ : St} (a1 : Int32) (a2 : Int32) (h : ((0 : Int32) ≤ a1 ∧ a1 ≤ (9999 : Int32) → ((0 : Int32) ≤ a2 ∧ a2 ≤ (23 : Int32) → (rd σ 59 70 = (10 : Int32) → Q (some (.int ((-3)))) σ) ∧ (¬ rd σ 59 70 = (10 : Int32) → vp_in (rd σ 59 70) 10 ∧ Q (some (.int (((rd σ 59 70) + (1 : Int32)) - (1 : Int32)))) (wr (wr (wr (wr σ 112 ((rd σ 59 70).toNatClampNeg) (a1 / (100 : Int32))) 113 ((rd σ 59 70).toNatClampNeg) (a1 - a1 / (100 : Int32) * (100 : Int32))) 114 ((rd σ 59 70).toNatClampNeg) a2) 59 70 ((rd σ 59 70) + (1 : Int32))))) ∧ (¬ ((0 : Int32) ≤ a2 ∧ a2 ≤ (23 : Int32)) → Q (some (.int ((-1)))) σ)) ∧ (¬ ((0 : Int32) ≤ a1 ∧ a1 ≤ (9999 : Int32)) → Q (some (.int ((-1)))) σ)) : J Γ l (d + 1) mX12_kitchen Q 0 [(0, .ref 59), (1, .int a1), (2, .int a2)] [] σ := by
  refine J_iload_n (i := 1) (kk := 1) dX12_kitchen_0 rfl rfl ?_
  refine J_iconst (v := 0) dX12_kitchen_1 (by decide) ?_
  refine J_sipush (v := 9999) dX12_kitchen_2 (by decide) ?_
  refine J_callS [.int a1, .int (0), .int (9999)] [] calX12_in klX12_196 rfl rfl (Nat.le_of_ble_eq_true rfl) dX12_kitchen_5 (KI.to (S_X12_in a1 (0 : Int32) (9999 : Int32)) ?_)
  rintro x9 s9 ⟨rfl, ⟨g3, rfl⟩ | ⟨g3, rfl⟩⟩
  · replace h := h.1 g3
    refine J_if_eq 21 dX12_kitchen_8 (by decide) (fun hc => absurd hc (by decide)) (fun _ => ?_)
    refine J_iload_n (i := 2) (kk := 2) dX12_kitchen_11 rfl rfl ?_
    refine J_iconst (v := 0) dX12_kitchen_12 (by decide) ?_
    refine J_bipush (v := 23) dX12_kitchen_13 (by decide) ?_
    refine J_callS [.int a2, .int (0), .int (23)] [] calX12_in klX12_196 rfl rfl (Nat.le_of_ble_eq_true rfl) dX12_kitchen_15 (KI.to (S_X12_in a2 (0 : Int32) (23 : Int32)) ?_)
    rintro x9 s9 ⟨rfl, ⟨g2, rfl⟩ | ⟨g2, rfl⟩⟩
    · replace h := h.1 g2
      refine J_if_ne 23 dX12_kitchen_18 (by decide) (fun _ => ?_) (fun hc => absurd hc (by decide))
      refine J_aload_n (i := 0) (kk := 0) dX12_kitchen_23 rfl rfl ?_
      refine J_getI (q := 59) (ci := 12) (kf := 70) kfX12_403 uxX12 rfl (by decide) rfl (by decide) rfl dX12_kitchen_24 ?_
      refine J_bipush (v := 10) dX12_kitchen_27 (by decide) ?_
      refine J_icmp_ne 35 dX12_kitchen_29 (by decide) (fun hc => ?_) (fun hc => ?_)
      · replace h := h.2 hc
        refine J_aload_n (i := 0) (kk := 0) dX12_kitchen_35 rfl rfl ?_
        refine J_getR 112 (q := 59) (ci := 12) (kf := 71) kfX12_175 uxX12 rfl (by decide) rfl (by decide) rfl dX12_kitchen_36 ?_
        refine J_aload_n (i := 0) (kk := 0) dX12_kitchen_39 rfl rfl ?_
        refine J_getI (q := 59) (ci := 12) (kf := 70) kfX12_403 uxX12 rfl (by decide) rfl (by decide) rfl dX12_kitchen_40 ?_
        refine J_iload_n (i := 1) (kk := 1) dX12_kitchen_43 rfl rfl ?_
        refine J_bipush (v := 100) dX12_kitchen_44 (by decide) ?_
        refine J_idiv dX12_kitchen_46 (by decide) ?_
        have b1 := h.1
        replace h := h.2
        refine J_ast ((rd σ 59 70).toNatClampNeg) rfl (by decide) rfl b1 dX12_kitchen_47 ?_
        refine J_aload_n (i := 0) (kk := 0) dX12_kitchen_48 rfl rfl ?_
        refine J_getR 113 (q := 59) (ci := 12) (kf := 72) kfX12_178 uxX12 rfl (by decide) rfl (by decide) rfl dX12_kitchen_49 ?_
        refine J_aload_n (i := 0) (kk := 0) dX12_kitchen_52 rfl rfl ?_
        refine J_getI (q := 59) (ci := 12) (kf := 70) kfX12_403 uxX12 rfl (by decide) rfl (by decide) rfl dX12_kitchen_53 ?_
        refine J_eqI (y := rd σ 59 70) rfl ?_
        refine J_iload_n (i := 1) (kk := 1) dX12_kitchen_56 rfl rfl ?_
        refine J_bipush (v := 100) dX12_kitchen_57 (by decide) ?_
        refine J_irem dX12_kitchen_59 (by decide) ?_
        refine J_ast ((rd σ 59 70).toNatClampNeg) rfl (by decide) rfl b1 dX12_kitchen_60 ?_
        refine J_aload_n (i := 0) (kk := 0) dX12_kitchen_61 rfl rfl ?_
        refine J_getR 114 (q := 59) (ci := 12) (kf := 73) kfX12_181 uxX12 rfl (by decide) rfl (by decide) rfl dX12_kitchen_62 ?_
        refine J_aload_n (i := 0) (kk := 0) dX12_kitchen_65 rfl rfl ?_
        refine J_getI (q := 59) (ci := 12) (kf := 70) kfX12_403 uxX12 rfl (by decide) rfl (by decide) rfl dX12_kitchen_66 ?_
        refine J_eqI (y := rd σ 59 70) rfl ?_
        refine J_iload_n (i := 2) (kk := 2) dX12_kitchen_69 rfl rfl ?_
        refine J_ast ((rd σ 59 70).toNatClampNeg) rfl (by decide) rfl b1 dX12_kitchen_70 ?_
        refine J_aload_n (i := 0) (kk := 0) dX12_kitchen_71 rfl rfl ?_
        refine J_dup dX12_kitchen_72 rfl ?_
        refine J_getI (q := 59) (ci := 12) (kf := 70) kfX12_403 uxX12 rfl (by decide) rfl (by decide) rfl dX12_kitchen_73 ?_
        refine J_eqI (y := rd σ 59 70) rfl ?_
        refine J_iconst (v := 1) dX12_kitchen_76 (by decide) ?_
        refine J_iadd dX12_kitchen_77 ?_
        refine J_putf (q := 59) (ci := 12) (kf := 70) (ty := .int) kfX12_403 uxX12 tyX12_ok nmX12 rfl (by decide) rfl (by decide) rfl rfl rfl rfl rfl dX12_kitchen_78 ?_
        refine J_aload_n (i := 0) (kk := 0) dX12_kitchen_81 rfl rfl ?_
        refine J_getI (q := 59) (ci := 12) (kf := 70) kfX12_403 uxX12 rfl (by decide) rfl (by decide) rfl dX12_kitchen_82 ?_
        refine J_eqI (y := ((rd σ 59 70) + (1 : Int32))) rfl ?_
        refine J_iconst (v := 1) dX12_kitchen_85 (by decide) ?_
        refine J_isub dX12_kitchen_86 ?_
        exact J_iret rfl dX12_kitchen_87 h
      · replace h := h.1 hc
        refine J_bipush (v := (-3)) dX12_kitchen_32 (by decide) ?_
        exact J_iret rfl dX12_kitchen_34 h
    · replace h := h.2 g2
      refine J_if_ne 23 dX12_kitchen_18 (by decide) (fun hc => absurd hc (by decide)) (fun _ => ?_)
      refine J_iconst (v := (-1)) dX12_kitchen_21 (by decide) ?_
      exact J_iret rfl dX12_kitchen_22 h
  · replace h := h.2 g3
    refine J_if_eq 21 dX12_kitchen_8 (by decide) (fun _ => ?_) (fun hc => absurd hc (by decide))
    refine J_iconst (v := (-1)) dX12_kitchen_21 (by decide) ?_
    exact J_iret rfl dX12_kitchen_22 h
theorem M_X12_kitchen {Γ : GG} {l : Launch} {d : Nat} {Q : Option Value → St → Prop} {σ : St} (a1 : Int32) (a2 : Int32) (k : J Γ l (d + 1) mX12_kitchen Q 0 [(0, .ref 59), (1, .int a1), (2, .int a2)] [] σ) : Meth Γ l (d + 1) mX12_kitchen [.ref 59, .int a1, .int a2] σ Q := Meth_of_J (by decide +kernel) (fun _ => Nat.le_of_ble_eq_true rfl) (fun _ => rfl) k
set_option maxHeartbeats 4000000 in
set_option maxRecDepth 100000 in
theorem w_X12_gift_124 {Γ : GG} {l : Launch} {d : Nat} {Q : Option Value → St → Prop} {σ : St} (a1 : Int32) (a2 : Int32) (a4 : Int32) (a6 : Int32) (a7 : Int32) (h : (a6 ≤ (0 : Int32) → (a6 = a4 → Q (some (.int ((-2)))) σ) ∧ (¬ a6 = a4 → Q (some (.int (a4 - a6))) σ)) ∧ (¬ a6 ≤ (0 : Int32) → (a7 < (0 : Int32) → (a6 = a4 → Q (some (.int ((-2)))) σ) ∧ (¬ a6 = a4 → Q (some (.int (a4 - a6))) σ)) ∧ (¬ a7 < (0 : Int32) → vp_in a7 200 ∧ (a6 ≤ ((((rd σ 76 a7.toNatClampNeg) - (rd σ 77 a7.toNatClampNeg)) - (rd σ 78 a7.toNatClampNeg)) - (rd σ 79 a7.toNatClampNeg)) - (rd σ 80 a7.toNatClampNeg) → vp_in a7 200 ∧ Meth Γ l (d + 4) mX12_eldest [.ref 59, .int a1, .int a2, .int (1)] (wr σ 79 (a7.toNatClampNeg) ((rd σ 79 (a7.toNatClampNeg)) + a6)) (KI (fun x4 σ3 => J Γ l (d + 5) mX12_gift Q 124 [(0, .ref 59), (1, .int a1), (2, .int a2), (4, .int a4), (6, .int (a6 - a6)), (7, .int x4)] [] σ3))) ∧ (¬ a6 ≤ ((((rd σ 76 a7.toNatClampNeg) - (rd σ 77 a7.toNatClampNeg)) - (rd σ 78 a7.toNatClampNeg)) - (rd σ 79 a7.toNatClampNeg)) - (rd σ 80 a7.toNatClampNeg) → vp_in a7 200 ∧ ∀ x6 : Int32, x6 = ((((rd σ 76 a7.toNatClampNeg) - (rd σ 77 a7.toNatClampNeg)) - (rd σ 78 a7.toNatClampNeg)) - (rd σ 79 a7.toNatClampNeg)) - (rd σ 80 a7.toNatClampNeg) → vp_in a7 200 ∧ Meth Γ l (d + 4) mX12_eldest [.ref 59, .int a1, .int a2, .int (1)] (wr σ 79 (a7.toNatClampNeg) ((rd σ 79 (a7.toNatClampNeg)) + x6)) (KI (fun x9 σ8 => J Γ l (d + 5) mX12_gift Q 124 [(0, .ref 59), (1, .int a1), (2, .int a2), (4, .int a4), (6, .int (a6 - x6)), (7, .int x9)] [] σ8)))))) : J Γ l (d + 5) mX12_gift Q 124 [(0, .ref 59), (1, .int a1), (2, .int a2), (4, .int a4), (6, .int a6), (7, .int a7)] [] σ := by
  refine J_iload (i := 6) (kk := 4) dX12_gift_124 rfl ?_
  refine J_if_le 189 dX12_gift_126 (by decide) (fun hc => ?_) (fun hc => ?_)
  · replace h := h.1 hc
    refine J_iload (i := 6) (kk := 4) dX12_gift_189 rfl ?_
    refine J_iload (i := 4) (kk := 3) dX12_gift_191 rfl ?_
    refine J_icmp_ne 201 dX12_gift_193 (by decide) (fun hc => ?_) (fun hc => ?_)
    · replace h := h.2 hc
      refine J_iload (i := 4) (kk := 3) dX12_gift_201 rfl ?_
      refine J_iload (i := 6) (kk := 4) dX12_gift_203 rfl ?_
      refine J_isub dX12_gift_205 ?_
      exact J_iret rfl dX12_gift_206 h
    · replace h := h.1 hc
      refine J_bipush (v := (-2)) dX12_gift_196 (by decide) ?_
      refine J_goto (tgt := 206) dX12_gift_198 (by decide) ?_
      exact J_iret rfl dX12_gift_206 h
  · replace h := h.2 hc
    refine J_iload (i := 7) (kk := 5) dX12_gift_129 rfl ?_
    refine J_if_lt 189 dX12_gift_131 (by decide) (fun hc => ?_) (fun hc => ?_)
    · replace h := h.1 hc
      refine J_iload (i := 6) (kk := 4) dX12_gift_189 rfl ?_
      refine J_iload (i := 4) (kk := 3) dX12_gift_191 rfl ?_
      refine J_icmp_ne 201 dX12_gift_193 (by decide) (fun hc => ?_) (fun hc => ?_)
      · replace h := h.2 hc
        refine J_iload (i := 4) (kk := 3) dX12_gift_201 rfl ?_
        refine J_iload (i := 6) (kk := 4) dX12_gift_203 rfl ?_
        refine J_isub dX12_gift_205 ?_
        exact J_iret rfl dX12_gift_206 h
      · replace h := h.1 hc
        refine J_bipush (v := (-2)) dX12_gift_196 (by decide) ?_
        refine J_goto (tgt := 206) dX12_gift_198 (by decide) ?_
        exact J_iret rfl dX12_gift_206 h
    · replace h := h.2 hc
      refine J_aload_n (i := 0) (kk := 0) dX12_gift_134 rfl rfl ?_
      refine J_iload (i := 7) (kk := 5) dX12_gift_135 rfl ?_
      have b1 := h.1
      replace h := h.2
      refine J_callV [.int a7] [] calX12_onShelf klX12_245 (b := 59) (ci := 12) (by decide) rfl rfl rfl rfl (Nat.le_of_ble_eq_true rfl) dX12_gift_137 (KI.to (S_X12_onShelf a7 b1) ?_)
      rintro x9 s9 ⟨rfl, rfl⟩
      refine J_iload (i := 6) (kk := 4) dX12_gift_140 rfl ?_
      refine J_icmp_ge 154 dX12_gift_142 (by decide) (fun hc => ?_) (fun hc => ?_)
      · replace h := h.1 hc
        refine J_iload (i := 6) (kk := 4) dX12_gift_154 rfl ?_
        refine J_istore (i := 8) (lv' := [(8, .int a6), (0, .ref 59), (1, .int a1), (2, .int a2), (4, .int a4), (6, .int a6), (7, .int a7)]) dX12_gift_156 (by decide) rfl ?_
        refine J_aload_n (i := 0) (kk := 1) dX12_gift_158 rfl rfl ?_
        refine J_getR 79 (q := 59) (ci := 12) (kf := 25) kfX12_67 uxX12 rfl (by decide) rfl (by decide) rfl dX12_gift_159 ?_
        refine J_iload (i := 7) (kk := 6) dX12_gift_162 rfl ?_
        refine J_dup2_11 dX12_gift_164 rfl rfl ?_
        have b2 := h.1
        replace h := h.2
        refine J_ald (a7.toNatClampNeg) rfl (by decide) rfl b2 dX12_gift_165 ?_
        refine J_iload (i := 8) (kk := 0) dX12_gift_166 rfl ?_
        refine J_iadd dX12_gift_168 ?_
        refine J_ast (a7.toNatClampNeg) rfl (by decide) rfl b2 dX12_gift_169 ?_
        refine J_iload (i := 6) (kk := 5) dX12_gift_170 rfl ?_
        refine J_iload (i := 8) (kk := 0) dX12_gift_172 rfl ?_
        refine J_isub dX12_gift_174 ?_
        refine J_istore (i := 6) (lv' := [(6, .int (a6 - a6)), (8, .int a6), (0, .ref 59), (1, .int a1), (2, .int a2), (4, .int a4), (7, .int a7)]) dX12_gift_175 (by decide) rfl ?_
        refine J_aload_n (i := 0) (kk := 2) dX12_gift_177 rfl rfl ?_
        refine J_iload_n (i := 1) (kk := 3) dX12_gift_178 rfl rfl ?_
        refine J_iload_n (i := 2) (kk := 4) dX12_gift_179 rfl rfl ?_
        refine J_iconst (v := 1) dX12_gift_180 (by decide) ?_
        refine J_callV [.int a1, .int a2, .int (1)] [] calX12_eldest klX12_347 (b := 59) (ci := 12) (by decide) rfl rfl rfl rfl (Nat.le_of_ble_eq_true rfl) dX12_gift_181 (KI.to h ?_)
        clear h
        intro x4 σ3 h
        refine J_istore (i := 7) (lv' := [(7, .int x4), (6, .int (a6 - a6)), (8, .int a6), (0, .ref 59), (1, .int a1), (2, .int a2), (4, .int a4)]) dX12_gift_184 (by decide) rfl ?_
        refine J_goto (tgt := 124) dX12_gift_186 (by decide) ?_
        refine J_sub [3, 4, 5, 6, 1, 0] rfl ?_
        exact h
      · replace h := h.2 hc
        refine J_aload_n (i := 0) (kk := 0) dX12_gift_145 rfl rfl ?_
        refine J_iload (i := 7) (kk := 5) dX12_gift_146 rfl ?_
        have b5 := h.1
        replace h := h.2
        refine J_callV [.int a7] [] calX12_onShelf klX12_245 (b := 59) (ci := 12) (by decide) rfl rfl rfl rfl (Nat.le_of_ble_eq_true rfl) dX12_gift_148 (KI.to (S_X12_onShelf a7 b5) ?_)
        rintro x9 s9 ⟨rfl, rfl⟩
        refine J_goto (tgt := 156) dX12_gift_151 (by decide) ?_
        refine J_nameI (fun x6 ex6 => ?_)
        replace h := h x6 ex6
        refine J_istore (i := 8) (lv' := [(8, .int x6), (0, .ref 59), (1, .int a1), (2, .int a2), (4, .int a4), (6, .int a6), (7, .int a7)]) dX12_gift_156 (by decide) rfl ?_
        refine J_aload_n (i := 0) (kk := 1) dX12_gift_158 rfl rfl ?_
        refine J_getR 79 (q := 59) (ci := 12) (kf := 25) kfX12_67 uxX12 rfl (by decide) rfl (by decide) rfl dX12_gift_159 ?_
        refine J_iload (i := 7) (kk := 6) dX12_gift_162 rfl ?_
        refine J_dup2_11 dX12_gift_164 rfl rfl ?_
        have b7 := h.1
        replace h := h.2
        refine J_ald (a7.toNatClampNeg) rfl (by decide) rfl b7 dX12_gift_165 ?_
        refine J_iload (i := 8) (kk := 0) dX12_gift_166 rfl ?_
        refine J_iadd dX12_gift_168 ?_
        refine J_ast (a7.toNatClampNeg) rfl (by decide) rfl b7 dX12_gift_169 ?_
        refine J_iload (i := 6) (kk := 5) dX12_gift_170 rfl ?_
        refine J_iload (i := 8) (kk := 0) dX12_gift_172 rfl ?_
        refine J_isub dX12_gift_174 ?_
        refine J_istore (i := 6) (lv' := [(6, .int (a6 - x6)), (8, .int x6), (0, .ref 59), (1, .int a1), (2, .int a2), (4, .int a4), (7, .int a7)]) dX12_gift_175 (by decide) rfl ?_
        refine J_aload_n (i := 0) (kk := 2) dX12_gift_177 rfl rfl ?_
        refine J_iload_n (i := 1) (kk := 3) dX12_gift_178 rfl rfl ?_
        refine J_iload_n (i := 2) (kk := 4) dX12_gift_179 rfl rfl ?_
        refine J_iconst (v := 1) dX12_gift_180 (by decide) ?_
        refine J_callV [.int a1, .int a2, .int (1)] [] calX12_eldest klX12_347 (b := 59) (ci := 12) (by decide) rfl rfl rfl rfl (Nat.le_of_ble_eq_true rfl) dX12_gift_181 (KI.to h ?_)
        clear h
        intro x9 σ8 h
        refine J_istore (i := 7) (lv' := [(7, .int x9), (6, .int (a6 - x6)), (8, .int x6), (0, .ref 59), (1, .int a1), (2, .int a2), (4, .int a4)]) dX12_gift_184 (by decide) rfl ?_
        refine J_goto (tgt := 124) dX12_gift_186 (by decide) ?_
        refine J_sub [3, 4, 5, 6, 1, 0] rfl ?_
        exact h
set_option maxHeartbeats 4000000 in
set_option maxRecDepth 100000 in
theorem w_X12_gift_0 {Γ : GG} {l : Launch} {d : Nat} {Q : Option Value → St → Prop} {σ : St} (a1 : Int32) (a2 : Int32) (a3 : Int32) (a4 : Int32) (h : ((0 ≤ a1 ∧ a1 ≤ (rd σ 59 2) - (1 : Int32)) ∧ 0 ≤ a2 ∧ a2 ≤ (rd σ 59 6) - (1 : Int32) → ((0 : Int32) ≤ a3 ∧ a3 ≤ ((rd σ 59 70) - (1 : Int32)) → ((1 : Int32) ≤ a4 ∧ a4 ≤ (999 : Int32) → vp_in a1 12 ∧ vp_in a3 10 ∧ ∀ x3 : Int32, x3 = (((offI (rd σ 60 (a1.toNatClampNeg)) (rd σ 112 (a3.toNatClampNeg))) + (offI (rd σ 61 (a1.toNatClampNeg)) (rd σ 113 (a3.toNatClampNeg)))) + (9 : Int32)) / (10 : Int32) → (rd σ 114 (a3.toNatClampNeg) < ((rd σ 59 1) - (rd σ 59 1) / (24 : Int32) * (24 : Int32)) + x3 → Q (some (.int ((-2)))) σ) ∧ (¬ rd σ 114 (a3.toNatClampNeg) < ((rd σ 59 1) - (rd σ 59 1) / (24 : Int32) * (24 : Int32)) + x3 → vp_in a2 10 ∧ (rd σ 66 (a2.toNatClampNeg) = (1 : Int32) → (x3 ≤ (2 : Int32) → Meth Γ l (d + 4) mX12_eldest [.ref 59, .int a1, .int a2, .int (1)] σ (KI (fun x8 σ7 => J Γ l (d + 5) mX12_gift Q 124 [(0, .ref 59), (1, .int a1), (2, .int a2), (4, .int a4), (6, .int a4), (7, .int x8)] [] σ7))) ∧ (¬ x3 ≤ (2 : Int32) → Q (some (.int ((-2)))) σ)) ∧ (¬ rd σ 66 (a2.toNatClampNeg) = (1 : Int32) → Meth Γ l (d + 4) mX12_eldest [.ref 59, .int a1, .int a2, .int (1)] σ (KI (fun x6 σ5 => J Γ l (d + 5) mX12_gift Q 124 [(0, .ref 59), (1, .int a1), (2, .int a2), (4, .int a4), (6, .int a4), (7, .int x6)] [] σ5))))) ∧ (¬ ((1 : Int32) ≤ a4 ∧ a4 ≤ (999 : Int32)) → Q (some (.int ((-1)))) σ)) ∧ (¬ ((0 : Int32) ≤ a3 ∧ a3 ≤ ((rd σ 59 70) - (1 : Int32))) → Q (some (.int ((-1)))) σ)) ∧ (¬ ((0 ≤ a1 ∧ a1 ≤ (rd σ 59 2) - (1 : Int32)) ∧ 0 ≤ a2 ∧ a2 ≤ (rd σ 59 6) - (1 : Int32)) → Q (some (.int ((-1)))) σ)) : J Γ l (d + 5) mX12_gift Q 0 [(0, .ref 59), (1, .int a1), (2, .int a2), (3, .int a3), (4, .int a4)] [] σ := by
  refine J_aload_n (i := 0) (kk := 0) dX12_gift_0 rfl rfl ?_
  refine J_iload_n (i := 1) (kk := 1) dX12_gift_1 rfl rfl ?_
  refine J_iload_n (i := 2) (kk := 2) dX12_gift_2 rfl rfl ?_
  refine J_callV [.int a1, .int a2] [] calX12_areBoth klX12_223 (b := 59) (ci := 12) (by decide) rfl rfl rfl rfl (Nat.le_of_ble_eq_true rfl) dX12_gift_3 (KI.to (S_X12_areBoth a1 a2) ?_)
  rintro x9 s9 ⟨rfl, ⟨g11, rfl⟩ | ⟨g11, rfl⟩⟩
  · replace h := h.1 g11
    refine J_if_eq 35 dX12_gift_6 (by decide) (fun hc => absurd hc (by decide)) (fun _ => ?_)
    refine J_iload_n (i := 3) (kk := 3) dX12_gift_9 rfl rfl ?_
    refine J_iconst (v := 0) dX12_gift_10 (by decide) ?_
    refine J_aload_n (i := 0) (kk := 0) dX12_gift_11 rfl rfl ?_
    refine J_getI (q := 59) (ci := 12) (kf := 70) kfX12_403 uxX12 rfl (by decide) rfl (by decide) rfl dX12_gift_12 ?_
    refine J_iconst (v := 1) dX12_gift_15 (by decide) ?_
    refine J_isub dX12_gift_16 ?_
    refine J_callS [.int a3, .int (0), .int ((rd σ 59 70) - (1 : Int32))] [] calX12_in klX12_196 rfl rfl (Nat.le_of_ble_eq_true rfl) dX12_gift_17 (KI.to (S_X12_in a3 (0 : Int32) ((rd σ 59 70) - (1 : Int32))) ?_)
    rintro x9 s9 ⟨rfl, ⟨g10, rfl⟩ | ⟨g10, rfl⟩⟩
    · replace h := h.1 g10
      refine J_if_eq 35 dX12_gift_20 (by decide) (fun hc => absurd hc (by decide)) (fun _ => ?_)
      refine J_iload (i := 4) (kk := 4) dX12_gift_23 rfl ?_
      refine J_iconst (v := 1) dX12_gift_25 (by decide) ?_
      refine J_sipush (v := 999) dX12_gift_26 (by decide) ?_
      refine J_callS [.int a4, .int (1), .int (999)] [] calX12_in klX12_196 rfl rfl (Nat.le_of_ble_eq_true rfl) dX12_gift_29 (KI.to (S_X12_in a4 (1 : Int32) (999 : Int32)) ?_)
      rintro x9 s9 ⟨rfl, ⟨g9, rfl⟩ | ⟨g9, rfl⟩⟩
      · replace h := h.1 g9
        refine J_if_ne 37 dX12_gift_32 (by decide) (fun _ => ?_) (fun hc => absurd hc (by decide))
        refine J_aload_n (i := 0) (kk := 0) dX12_gift_37 rfl rfl ?_
        refine J_getR 60 (q := 59) (ci := 12) (kf := 3) kfX12_7 uxX12 rfl (by decide) rfl (by decide) rfl dX12_gift_38 ?_
        refine J_iload_n (i := 1) (kk := 1) dX12_gift_41 rfl rfl ?_
        have b1 := h.1
        replace h := h.2
        refine J_ald (a1.toNatClampNeg) rfl (by decide) rfl b1 dX12_gift_42 ?_
        refine J_aload_n (i := 0) (kk := 0) dX12_gift_43 rfl rfl ?_
        refine J_getR 112 (q := 59) (ci := 12) (kf := 71) kfX12_175 uxX12 rfl (by decide) rfl (by decide) rfl dX12_gift_44 ?_
        refine J_iload_n (i := 3) (kk := 3) dX12_gift_47 rfl rfl ?_
        have b2 := h.1
        replace h := h.2
        refine J_ald (a3.toNatClampNeg) rfl (by decide) rfl b2 dX12_gift_48 ?_
        refine J_callS [.int (rd σ 60 (a1.toNatClampNeg)), .int (rd σ 112 (a3.toNatClampNeg))] [] calX12_off klX12_371 rfl rfl (Nat.le_of_ble_eq_true rfl) dX12_gift_49 (KI.to (S_X12_off (rd σ 60 (a1.toNatClampNeg)) (rd σ 112 (a3.toNatClampNeg))) ?_)
        rintro x9 s9 ⟨rfl, rfl⟩
        refine J_aload_n (i := 0) (kk := 0) dX12_gift_52 rfl rfl ?_
        refine J_getR 61 (q := 59) (ci := 12) (kf := 4) kfX12_13 uxX12 rfl (by decide) rfl (by decide) rfl dX12_gift_53 ?_
        refine J_iload_n (i := 1) (kk := 1) dX12_gift_56 rfl rfl ?_
        refine J_ald (a1.toNatClampNeg) rfl (by decide) rfl b1 dX12_gift_57 ?_
        refine J_aload_n (i := 0) (kk := 0) dX12_gift_58 rfl rfl ?_
        refine J_getR 113 (q := 59) (ci := 12) (kf := 72) kfX12_178 uxX12 rfl (by decide) rfl (by decide) rfl dX12_gift_59 ?_
        refine J_iload_n (i := 3) (kk := 3) dX12_gift_62 rfl rfl ?_
        refine J_ald (a3.toNatClampNeg) rfl (by decide) rfl b2 dX12_gift_63 ?_
        refine J_callS [.int (rd σ 61 (a1.toNatClampNeg)), .int (rd σ 113 (a3.toNatClampNeg))] [.int (offI (rd σ 60 (a1.toNatClampNeg)) (rd σ 112 (a3.toNatClampNeg)))] calX12_off klX12_371 rfl rfl (Nat.le_of_ble_eq_true rfl) dX12_gift_64 (KI.to (S_X12_off (rd σ 61 (a1.toNatClampNeg)) (rd σ 113 (a3.toNatClampNeg))) ?_)
        rintro x9 s9 ⟨rfl, rfl⟩
        refine J_iadd dX12_gift_67 ?_
        refine J_bipush (v := 9) dX12_gift_68 (by decide) ?_
        refine J_iadd dX12_gift_70 ?_
        refine J_bipush (v := 10) dX12_gift_71 (by decide) ?_
        refine J_idiv dX12_gift_73 (by decide) ?_
        refine J_nameI (fun x3 ex3 => ?_)
        replace h := h x3 ex3
        refine J_istore (i := 5) (lv' := [(5, .int x3), (0, .ref 59), (1, .int a1), (2, .int a2), (3, .int a3), (4, .int a4)]) dX12_gift_74 (by decide) rfl ?_
        refine J_aload_n (i := 0) (kk := 1) dX12_gift_76 rfl rfl ?_
        refine J_callV [] [] calX12_hourNow klX12_315 (b := 59) (ci := 12) (by decide) rfl rfl rfl rfl (Nat.le_of_ble_eq_true rfl) dX12_gift_77 (KI.to (S_X12_hourNow) ?_)
        rintro x9 s9 ⟨rfl, rfl⟩
        refine J_iload (i := 5) (kk := 0) dX12_gift_80 rfl ?_
        refine J_iadd dX12_gift_82 ?_
        refine J_aload_n (i := 0) (kk := 1) dX12_gift_83 rfl rfl ?_
        refine J_getR 114 (q := 59) (ci := 12) (kf := 73) kfX12_181 uxX12 rfl (by decide) rfl (by decide) rfl dX12_gift_84 ?_
        refine J_iload_n (i := 3) (kk := 4) dX12_gift_87 rfl rfl ?_
        refine J_ald (a3.toNatClampNeg) rfl (by decide) rfl b2 dX12_gift_88 ?_
        refine J_icmp_gt 108 dX12_gift_89 (by decide) (fun hc => ?_) (fun hc => ?_)
        · replace h := h.1 hc
          refine J_bipush (v := (-2)) dX12_gift_108 (by decide) ?_
          exact J_iret rfl dX12_gift_110 h
        · replace h := h.2 hc
          refine J_aload_n (i := 0) (kk := 1) dX12_gift_92 rfl rfl ?_
          refine J_getR 66 (q := 59) (ci := 12) (kf := 10) kfX12_28 uxX12 rfl (by decide) rfl (by decide) rfl dX12_gift_93 ?_
          refine J_iload_n (i := 2) (kk := 3) dX12_gift_96 rfl rfl ?_
          have b4 := h.1
          replace h := h.2
          refine J_ald (a2.toNatClampNeg) rfl (by decide) rfl b4 dX12_gift_97 ?_
          refine J_iconst (v := 1) dX12_gift_98 (by decide) ?_
          refine J_icmp_ne 111 dX12_gift_99 (by decide) (fun hc => ?_) (fun hc => ?_)
          · replace h := h.2 hc
            refine J_iload (i := 4) (kk := 5) dX12_gift_111 rfl ?_
            refine J_istore (i := 6) (lv' := [(6, .int a4), (5, .int x3), (0, .ref 59), (1, .int a1), (2, .int a2), (3, .int a3), (4, .int a4)]) dX12_gift_113 (by decide) rfl ?_
            refine J_aload_n (i := 0) (kk := 2) dX12_gift_115 rfl rfl ?_
            refine J_iload_n (i := 1) (kk := 3) dX12_gift_116 rfl rfl ?_
            refine J_iload_n (i := 2) (kk := 4) dX12_gift_117 rfl rfl ?_
            refine J_iconst (v := 1) dX12_gift_118 (by decide) ?_
            refine J_callV [.int a1, .int a2, .int (1)] [] calX12_eldest klX12_347 (b := 59) (ci := 12) (by decide) rfl rfl rfl rfl (Nat.le_of_ble_eq_true rfl) dX12_gift_119 (KI.to h ?_)
            clear h
            intro x6 σ5 h
            refine J_istore (i := 7) (lv' := [(7, .int x6), (6, .int a4), (5, .int x3), (0, .ref 59), (1, .int a1), (2, .int a2), (3, .int a3), (4, .int a4)]) dX12_gift_122 (by decide) rfl ?_
            refine J_sub [3, 4, 5, 7, 1, 0] rfl ?_
            exact h
          · replace h := h.1 hc
            refine J_iload (i := 5) (kk := 0) dX12_gift_102 rfl ?_
            refine J_iconst (v := 2) dX12_gift_104 (by decide) ?_
            refine J_icmp_le 111 dX12_gift_105 (by decide) (fun hc => ?_) (fun hc => ?_)
            · replace h := h.1 hc
              refine J_iload (i := 4) (kk := 5) dX12_gift_111 rfl ?_
              refine J_istore (i := 6) (lv' := [(6, .int a4), (5, .int x3), (0, .ref 59), (1, .int a1), (2, .int a2), (3, .int a3), (4, .int a4)]) dX12_gift_113 (by decide) rfl ?_
              refine J_aload_n (i := 0) (kk := 2) dX12_gift_115 rfl rfl ?_
              refine J_iload_n (i := 1) (kk := 3) dX12_gift_116 rfl rfl ?_
              refine J_iload_n (i := 2) (kk := 4) dX12_gift_117 rfl rfl ?_
              refine J_iconst (v := 1) dX12_gift_118 (by decide) ?_
              refine J_callV [.int a1, .int a2, .int (1)] [] calX12_eldest klX12_347 (b := 59) (ci := 12) (by decide) rfl rfl rfl rfl (Nat.le_of_ble_eq_true rfl) dX12_gift_119 (KI.to h ?_)
              clear h
              intro x8 σ7 h
              refine J_istore (i := 7) (lv' := [(7, .int x8), (6, .int a4), (5, .int x3), (0, .ref 59), (1, .int a1), (2, .int a2), (3, .int a3), (4, .int a4)]) dX12_gift_122 (by decide) rfl ?_
              refine J_sub [3, 4, 5, 7, 1, 0] rfl ?_
              exact h
            · replace h := h.2 hc
              refine J_bipush (v := (-2)) dX12_gift_108 (by decide) ?_
              exact J_iret rfl dX12_gift_110 h
      · replace h := h.2 g9
        refine J_if_ne 37 dX12_gift_32 (by decide) (fun hc => absurd hc (by decide)) (fun _ => ?_)
        refine J_iconst (v := (-1)) dX12_gift_35 (by decide) ?_
        exact J_iret rfl dX12_gift_36 h
    · replace h := h.2 g10
      refine J_if_eq 35 dX12_gift_20 (by decide) (fun _ => ?_) (fun hc => absurd hc (by decide))
      refine J_iconst (v := (-1)) dX12_gift_35 (by decide) ?_
      exact J_iret rfl dX12_gift_36 h
  · replace h := h.2 g11
    refine J_if_eq 35 dX12_gift_6 (by decide) (fun _ => ?_) (fun hc => absurd hc (by decide))
    refine J_iconst (v := (-1)) dX12_gift_35 (by decide) ?_
    exact J_iret rfl dX12_gift_36 h
theorem M_X12_gift {Γ : GG} {l : Launch} {d : Nat} {Q : Option Value → St → Prop} {σ : St} (a1 : Int32) (a2 : Int32) (a3 : Int32) (a4 : Int32) (k : J Γ l (d + 5) mX12_gift Q 0 [(0, .ref 59), (1, .int a1), (2, .int a2), (3, .int a3), (4, .int a4)] [] σ) : Meth Γ l (d + 5) mX12_gift [.ref 59, .int a1, .int a2, .int a3, .int a4] σ Q := Meth_of_J (by decide +kernel) (fun _ => Nat.le_of_ble_eq_true rfl) (fun _ => rfl) k
set_option maxHeartbeats 4000000 in
set_option maxRecDepth 100000 in
theorem w_X12_bin_60 {Γ : GG} {l : Launch} {d : Nat} {Q : Option Value → St → Prop} {σ : St} (a1 : Int32) (a2 : Int32) (a3 : Int32) (h : Meth Γ l (d + 1) mX12_toss [.ref 59, .int a1, .int a2] σ (KV (fun σ1 => (a3 = (1 : Int32) → vp_in a1 200 ∧ vp_in (rd σ1 59 74) 400 ∧ vp_in a1 200 ∧ Q (some (.int (((((rd σ1 76 a1.toNatClampNeg) - (rd σ1 77 a1.toNatClampNeg)) - (rd σ1 78 a1.toNatClampNeg)) - (rd σ1 79 a1.toNatClampNeg)) - (rd σ1 80 a1.toNatClampNeg)))) (wr (wr (wr (wr (wr σ1 81 (a1.toNatClampNeg) ((rd σ1 81 (a1.toNatClampNeg)) + a2)) 115 ((rd σ1 59 74).toNatClampNeg) a1) 116 ((rd σ1 59 74).toNatClampNeg) ((rd σ1 59 1) / (24 : Int32))) 117 ((rd σ1 59 74).toNatClampNeg) a2) 59 74 ((rd σ1 59 74) + (1 : Int32)))) ∧ (¬ a3 = (1 : Int32) → vp_in a1 200 ∧ Q (some (.int (((((rd σ1 76 a1.toNatClampNeg) - (rd σ1 77 a1.toNatClampNeg)) - (rd σ1 78 a1.toNatClampNeg)) - (rd σ1 79 a1.toNatClampNeg)) - (rd σ1 80 a1.toNatClampNeg)))) σ1)))) : J Γ l (d + 2) mX12_bin Q 60 [(0, .ref 59), (1, .int a1), (2, .int a2), (3, .int a3)] [] σ := by
  refine J_aload_n (i := 0) (kk := 0) dX12_bin_60 rfl rfl ?_
  refine J_iload_n (i := 1) (kk := 1) dX12_bin_61 rfl rfl ?_
  refine J_iload_n (i := 2) (kk := 2) dX12_bin_62 rfl rfl ?_
  refine J_callV [.int a1, .int a2] [] calX12_toss klX12_334 (b := 59) (ci := 12) (by decide) rfl rfl rfl rfl (Nat.le_of_ble_eq_true rfl) dX12_bin_63 (KV.to h ?_)
  clear h
  intro σ1 h
  refine J_iload_n (i := 3) (kk := 3) dX12_bin_66 rfl rfl ?_
  refine J_iconst (v := 1) dX12_bin_67 (by decide) ?_
  refine J_icmp_ne 124 dX12_bin_68 (by decide) (fun hc => ?_) (fun hc => ?_)
  · replace h := h.2 hc
    refine J_aload_n (i := 0) (kk := 0) dX12_bin_124 rfl rfl ?_
    refine J_iload_n (i := 1) (kk := 1) dX12_bin_125 rfl rfl ?_
    have b2 := h.1
    replace h := h.2
    refine J_callV [.int a1] [] calX12_onShelf klX12_245 (b := 59) (ci := 12) (by decide) rfl rfl rfl rfl (Nat.le_of_ble_eq_true rfl) dX12_bin_126 (KI.to (S_X12_onShelf a1 b2) ?_)
    rintro x9 s9 ⟨rfl, rfl⟩
    exact J_iret rfl dX12_bin_129 h
  · replace h := h.1 hc
    refine J_aload_n (i := 0) (kk := 0) dX12_bin_71 rfl rfl ?_
    refine J_getR 81 (q := 59) (ci := 12) (kf := 27) kfX12_73 uxX12 rfl (by decide) rfl (by decide) rfl dX12_bin_72 ?_
    refine J_iload_n (i := 1) (kk := 1) dX12_bin_75 rfl rfl ?_
    refine J_dup2_11 dX12_bin_76 rfl rfl ?_
    have b3 := h.1
    replace h := h.2
    refine J_ald (a1.toNatClampNeg) rfl (by decide) rfl b3 dX12_bin_77 ?_
    refine J_iload_n (i := 2) (kk := 2) dX12_bin_78 rfl rfl ?_
    refine J_iadd dX12_bin_79 ?_
    refine J_ast (a1.toNatClampNeg) rfl (by decide) rfl b3 dX12_bin_80 ?_
    refine J_aload_n (i := 0) (kk := 0) dX12_bin_81 rfl rfl ?_
    refine J_getR 115 (q := 59) (ci := 12) (kf := 75) kfX12_184 uxX12 rfl (by decide) rfl (by decide) rfl dX12_bin_82 ?_
    refine J_aload_n (i := 0) (kk := 0) dX12_bin_85 rfl rfl ?_
    refine J_getI (q := 59) (ci := 12) (kf := 74) kfX12_406 uxX12 rfl (by decide) rfl (by decide) rfl dX12_bin_86 ?_
    refine J_eqI (y := rd σ1 59 74) rfl ?_
    refine J_iload_n (i := 1) (kk := 1) dX12_bin_89 rfl rfl ?_
    have b4 := h.1
    replace h := h.2
    refine J_ast ((rd σ1 59 74).toNatClampNeg) rfl (by decide) rfl b4 dX12_bin_90 ?_
    refine J_aload_n (i := 0) (kk := 0) dX12_bin_91 rfl rfl ?_
    refine J_getR 116 (q := 59) (ci := 12) (kf := 76) kfX12_187 uxX12 rfl (by decide) rfl (by decide) rfl dX12_bin_92 ?_
    refine J_aload_n (i := 0) (kk := 0) dX12_bin_95 rfl rfl ?_
    refine J_getI (q := 59) (ci := 12) (kf := 74) kfX12_406 uxX12 rfl (by decide) rfl (by decide) rfl dX12_bin_96 ?_
    refine J_eqI (y := rd σ1 59 74) rfl ?_
    refine J_aload_n (i := 0) (kk := 0) dX12_bin_99 rfl rfl ?_
    refine J_callV [] [.int (rd σ1 59 74), .ref 116] calX12_today klX12_230 (b := 59) (ci := 12) (by decide) rfl rfl rfl rfl (Nat.le_of_ble_eq_true rfl) dX12_bin_100 (KI.to (S_X12_today) ?_)
    rintro x9 s9 ⟨rfl, rfl⟩
    refine J_eqI (y := (rd σ1 59 1) / (24 : Int32)) rfl ?_
    refine J_ast ((rd σ1 59 74).toNatClampNeg) rfl (by decide) rfl b4 dX12_bin_103 ?_
    refine J_aload_n (i := 0) (kk := 0) dX12_bin_104 rfl rfl ?_
    refine J_getR 117 (q := 59) (ci := 12) (kf := 77) kfX12_190 uxX12 rfl (by decide) rfl (by decide) rfl dX12_bin_105 ?_
    refine J_aload_n (i := 0) (kk := 0) dX12_bin_108 rfl rfl ?_
    refine J_getI (q := 59) (ci := 12) (kf := 74) kfX12_406 uxX12 rfl (by decide) rfl (by decide) rfl dX12_bin_109 ?_
    refine J_eqI (y := rd σ1 59 74) rfl ?_
    refine J_iload_n (i := 2) (kk := 2) dX12_bin_112 rfl rfl ?_
    refine J_ast ((rd σ1 59 74).toNatClampNeg) rfl (by decide) rfl b4 dX12_bin_113 ?_
    refine J_aload_n (i := 0) (kk := 0) dX12_bin_114 rfl rfl ?_
    refine J_dup dX12_bin_115 rfl ?_
    refine J_getI (q := 59) (ci := 12) (kf := 74) kfX12_406 uxX12 rfl (by decide) rfl (by decide) rfl dX12_bin_116 ?_
    refine J_eqI (y := rd σ1 59 74) rfl ?_
    refine J_iconst (v := 1) dX12_bin_119 (by decide) ?_
    refine J_iadd dX12_bin_120 ?_
    refine J_putf (q := 59) (ci := 12) (kf := 74) (ty := .int) kfX12_406 uxX12 tyX12_ok nmX12 rfl (by decide) rfl (by decide) rfl rfl rfl rfl rfl dX12_bin_121 ?_
    refine J_aload_n (i := 0) (kk := 0) dX12_bin_124 rfl rfl ?_
    refine J_iload_n (i := 1) (kk := 1) dX12_bin_125 rfl rfl ?_
    have b5 := h.1
    replace h := h.2
    refine J_callV [.int a1] [] calX12_onShelf klX12_245 (b := 59) (ci := 12) (by decide) rfl rfl rfl rfl (Nat.le_of_ble_eq_true rfl) dX12_bin_126 (KI.to (S_X12_onShelf a1 b5) ?_)
    rintro x9 s9 ⟨rfl, rfl⟩
    refine J_eqI (y := ((((rd σ1 76 a1.toNatClampNeg) - (rd σ1 77 a1.toNatClampNeg)) - (rd σ1 78 a1.toNatClampNeg)) - (rd σ1 79 a1.toNatClampNeg)) - (rd σ1 80 a1.toNatClampNeg)) rfl ?_
    exact J_iret rfl dX12_bin_129 h
set_option maxHeartbeats 4000000 in
set_option maxRecDepth 100000 in
theorem w_X12_bin_0 {Γ : GG} {l : Launch} {d : Nat} {Q : Option Value → St → Prop} {σ : St} (a1 : Int32) (a2 : Int32) (a3 : Int32) (h : (0 ≤ a1 ∧ a1 ≤ (rd σ 59 16) - (1 : Int32) → ((1 : Int32) ≤ a2 ∧ a2 ≤ (999 : Int32) → ((0 : Int32) ≤ a3 ∧ a3 ≤ (1 : Int32) → vp_in a1 200 ∧ (a2 ≤ ((((rd σ 76 a1.toNatClampNeg) - (rd σ 77 a1.toNatClampNeg)) - (rd σ 78 a1.toNatClampNeg)) - (rd σ 79 a1.toNatClampNeg)) - (rd σ 80 a1.toNatClampNeg) → (a3 = (1 : Int32) → (rd σ 59 74 = (400 : Int32) → Q (some (.int ((-3)))) σ) ∧ (¬ rd σ 59 74 = (400 : Int32) → J Γ l (d + 2) mX12_bin Q 60 [(0, .ref 59), (1, .int a1), (2, .int a2), (3, .int a3)] [] σ)) ∧ (¬ a3 = (1 : Int32) → J Γ l (d + 2) mX12_bin Q 60 [(0, .ref 59), (1, .int a1), (2, .int a2), (3, .int a3)] [] σ)) ∧ (¬ a2 ≤ ((((rd σ 76 a1.toNatClampNeg) - (rd σ 77 a1.toNatClampNeg)) - (rd σ 78 a1.toNatClampNeg)) - (rd σ 79 a1.toNatClampNeg)) - (rd σ 80 a1.toNatClampNeg) → Q (some (.int ((-2)))) σ)) ∧ (¬ ((0 : Int32) ≤ a3 ∧ a3 ≤ (1 : Int32)) → Q (some (.int ((-1)))) σ)) ∧ (¬ ((1 : Int32) ≤ a2 ∧ a2 ≤ (999 : Int32)) → Q (some (.int ((-1)))) σ)) ∧ (¬ (0 ≤ a1 ∧ a1 ≤ (rd σ 59 16) - (1 : Int32)) → Q (some (.int ((-1)))) σ)) : J Γ l (d + 2) mX12_bin Q 0 [(0, .ref 59), (1, .int a1), (2, .int a2), (3, .int a3)] [] σ := by
  refine J_aload_n (i := 0) (kk := 0) dX12_bin_0 rfl rfl ?_
  refine J_iload_n (i := 1) (kk := 1) dX12_bin_1 rfl rfl ?_
  refine J_callV [.int a1] [] calX12_isBatch klX12_241 (b := 59) (ci := 12) (by decide) rfl rfl rfl rfl (Nat.le_of_ble_eq_true rfl) dX12_bin_2 (KI.to (S_X12_isBatch a1) ?_)
  rintro x9 s9 ⟨rfl, ⟨g4, rfl⟩ | ⟨g4, rfl⟩⟩
  · replace h := h.1 g4
    refine J_if_eq 28 dX12_bin_5 (by decide) (fun hc => absurd hc (by decide)) (fun _ => ?_)
    refine J_iload_n (i := 2) (kk := 2) dX12_bin_8 rfl rfl ?_
    refine J_iconst (v := 1) dX12_bin_9 (by decide) ?_
    refine J_sipush (v := 999) dX12_bin_10 (by decide) ?_
    refine J_callS [.int a2, .int (1), .int (999)] [] calX12_in klX12_196 rfl rfl (Nat.le_of_ble_eq_true rfl) dX12_bin_13 (KI.to (S_X12_in a2 (1 : Int32) (999 : Int32)) ?_)
    rintro x9 s9 ⟨rfl, ⟨g3, rfl⟩ | ⟨g3, rfl⟩⟩
    · replace h := h.1 g3
      refine J_if_eq 28 dX12_bin_16 (by decide) (fun hc => absurd hc (by decide)) (fun _ => ?_)
      refine J_iload_n (i := 3) (kk := 3) dX12_bin_19 rfl rfl ?_
      refine J_iconst (v := 0) dX12_bin_20 (by decide) ?_
      refine J_iconst (v := 1) dX12_bin_21 (by decide) ?_
      refine J_callS [.int a3, .int (0), .int (1)] [] calX12_in klX12_196 rfl rfl (Nat.le_of_ble_eq_true rfl) dX12_bin_22 (KI.to (S_X12_in a3 (0 : Int32) (1 : Int32)) ?_)
      rintro x9 s9 ⟨rfl, ⟨g2, rfl⟩ | ⟨g2, rfl⟩⟩
      · replace h := h.1 g2
        refine J_if_ne 30 dX12_bin_25 (by decide) (fun _ => ?_) (fun hc => absurd hc (by decide))
        refine J_aload_n (i := 0) (kk := 0) dX12_bin_30 rfl rfl ?_
        refine J_iload_n (i := 1) (kk := 1) dX12_bin_31 rfl rfl ?_
        have b1 := h.1
        replace h := h.2
        refine J_callV [.int a1] [] calX12_onShelf klX12_245 (b := 59) (ci := 12) (by decide) rfl rfl rfl rfl (Nat.le_of_ble_eq_true rfl) dX12_bin_32 (KI.to (S_X12_onShelf a1 b1) ?_)
        rintro x9 s9 ⟨rfl, rfl⟩
        refine J_iload_n (i := 2) (kk := 2) dX12_bin_35 rfl rfl ?_
        refine J_icmp_ge 42 dX12_bin_36 (by decide) (fun hc => ?_) (fun hc => ?_)
        · replace h := h.1 hc
          refine J_iload_n (i := 3) (kk := 3) dX12_bin_42 rfl rfl ?_
          refine J_iconst (v := 1) dX12_bin_43 (by decide) ?_
          refine J_icmp_ne 60 dX12_bin_44 (by decide) (fun hc => ?_) (fun hc => ?_)
          · replace h := h.2 hc
            refine J_sub [0, 1, 2, 3] rfl ?_
            exact h
          · replace h := h.1 hc
            refine J_aload_n (i := 0) (kk := 0) dX12_bin_47 rfl rfl ?_
            refine J_getI (q := 59) (ci := 12) (kf := 74) kfX12_406 uxX12 rfl (by decide) rfl (by decide) rfl dX12_bin_48 ?_
            refine J_sipush (v := 400) dX12_bin_51 (by decide) ?_
            refine J_icmp_ne 60 dX12_bin_54 (by decide) (fun hc => ?_) (fun hc => ?_)
            · replace h := h.2 hc
              refine J_sub [0, 1, 2, 3] rfl ?_
              exact h
            · replace h := h.1 hc
              refine J_bipush (v := (-3)) dX12_bin_57 (by decide) ?_
              exact J_iret rfl dX12_bin_59 h
        · replace h := h.2 hc
          refine J_bipush (v := (-2)) dX12_bin_39 (by decide) ?_
          exact J_iret rfl dX12_bin_41 h
      · replace h := h.2 g2
        refine J_if_ne 30 dX12_bin_25 (by decide) (fun hc => absurd hc (by decide)) (fun _ => ?_)
        refine J_iconst (v := (-1)) dX12_bin_28 (by decide) ?_
        exact J_iret rfl dX12_bin_29 h
    · replace h := h.2 g3
      refine J_if_eq 28 dX12_bin_16 (by decide) (fun _ => ?_) (fun hc => absurd hc (by decide))
      refine J_iconst (v := (-1)) dX12_bin_28 (by decide) ?_
      exact J_iret rfl dX12_bin_29 h
  · replace h := h.2 g4
    refine J_if_eq 28 dX12_bin_5 (by decide) (fun _ => ?_) (fun hc => absurd hc (by decide))
    refine J_iconst (v := (-1)) dX12_bin_28 (by decide) ?_
    exact J_iret rfl dX12_bin_29 h
theorem M_X12_bin {Γ : GG} {l : Launch} {d : Nat} {Q : Option Value → St → Prop} {σ : St} (a1 : Int32) (a2 : Int32) (a3 : Int32) (k : J Γ l (d + 2) mX12_bin Q 0 [(0, .ref 59), (1, .int a1), (2, .int a2), (3, .int a3)] [] σ) : Meth Γ l (d + 2) mX12_bin [.ref 59, .int a1, .int a2, .int a3] σ Q := Meth_of_J (by decide +kernel) (fun _ => Nat.le_of_ble_eq_true rfl) (fun _ => rfl) k
set_option maxHeartbeats 4000000 in
set_option maxRecDepth 100000 in
theorem w_X12_tossed_0 {Γ : GG} {l : Launch} {d : Nat} {Q : Option Value → St → Prop} {σ : St} (a1 : Int32) (h : (0 ≤ a1 ∧ a1 ≤ 1499 → vp_in a1 1500 ∧ Q (some (.int (rd σ 83 (a1.toNatClampNeg)))) σ) ∧ (¬ (0 ≤ a1 ∧ a1 ≤ 1499) → Q (some (.int ((-1)))) σ)) : J Γ l (d + 2) mX12_tossed Q 0 [(0, .ref 59), (1, .int a1)] [] σ := by
  refine J_iload_n (i := 1) (kk := 1) dX12_tossed_0 rfl rfl ?_
  refine J_callS [.int a1] [] calX12_isDay klX12_220 rfl rfl (Nat.le_of_ble_eq_true rfl) dX12_tossed_1 (KI.to (S_X12_isDay a1) ?_)
  rintro x9 s9 ⟨rfl, ⟨g2, rfl⟩ | ⟨g2, rfl⟩⟩
  · replace h := h.1 g2
    refine J_if_eq 16 dX12_tossed_4 (by decide) (fun hc => absurd hc (by decide)) (fun _ => ?_)
    refine J_aload_n (i := 0) (kk := 0) dX12_tossed_7 rfl rfl ?_
    refine J_getR 83 (q := 59) (ci := 12) (kf := 29) kfX12_79 uxX12 rfl (by decide) rfl (by decide) rfl dX12_tossed_8 ?_
    refine J_iload_n (i := 1) (kk := 1) dX12_tossed_11 rfl rfl ?_
    have b1 := h.1
    replace h := h.2
    refine J_ald (a1.toNatClampNeg) rfl (by decide) rfl b1 dX12_tossed_12 ?_
    refine J_goto (tgt := 17) dX12_tossed_13 (by decide) ?_
    exact J_iret rfl dX12_tossed_17 h
  · replace h := h.2 g2
    refine J_if_eq 16 dX12_tossed_4 (by decide) (fun _ => ?_) (fun hc => absurd hc (by decide))
    refine J_iconst (v := (-1)) dX12_tossed_16 (by decide) ?_
    exact J_iret rfl dX12_tossed_17 h
theorem M_X12_tossed {Γ : GG} {l : Launch} {d : Nat} {Q : Option Value → St → Prop} {σ : St} (a1 : Int32) (k : J Γ l (d + 2) mX12_tossed Q 0 [(0, .ref 59), (1, .int a1)] [] σ) : Meth Γ l (d + 2) mX12_tossed [.ref 59, .int a1] σ Q := Meth_of_J (by decide +kernel) (fun _ => Nat.le_of_ble_eq_true rfl) (fun _ => rfl) k
set_option maxHeartbeats 4000000 in
set_option maxRecDepth 100000 in
theorem w_X12_isBadOn_82 {Γ : GG} {l : Launch} {d : Nat} {Q : Option Value → St → Prop} {σ : St} (a1 : Int32) (a2 : Int32) (a3 : Int32) (a4 : Int32) (a5 : Int32) (a6 : Int32) (h : (rd σ 59 74 ≤ a6 → (a5 < (3 : Int32) → Q (some (.int (0))) σ) ∧ (¬ a5 < (3 : Int32) → ((10 : Int32) * a5 ≤ a4 → Q (some (.int (0))) σ) ∧ (¬ (10 : Int32) * a5 ≤ a4 → Q (some (.int (1))) σ))) ∧ (¬ rd σ 59 74 ≤ a6 → vp_in a6 400 ∧ vp_in (rd σ 115 (a6.toNatClampNeg)) 200 ∧ (rd σ 72 ((rd σ 115 (a6.toNatClampNeg)).toNatClampNeg) = a1 → (rd σ 73 ((rd σ 115 (a6.toNatClampNeg)).toNatClampNeg) = a2 → (a3 < rd σ 116 (a6.toNatClampNeg) → ∀ x5 : Int32, x5 = a6 + 1 → J Γ l d mX12_isBadOn Q 82 [(0, .ref 59), (1, .int a1), (2, .int a2), (3, .int a3), (4, .int a4), (5, .int a5), (6, .int x5)] [] σ) ∧ (¬ a3 < rd σ 116 (a6.toNatClampNeg) → ∀ x6 : Int32, x6 = a5 + (rd σ 117 (a6.toNatClampNeg)) → ∀ x7 : Int32, x7 = a6 + 1 → J Γ l d mX12_isBadOn Q 82 [(0, .ref 59), (1, .int a1), (2, .int a2), (3, .int a3), (4, .int a4), (5, .int x6), (6, .int x7)] [] σ)) ∧ (¬ rd σ 73 ((rd σ 115 (a6.toNatClampNeg)).toNatClampNeg) = a2 → ∀ x4 : Int32, x4 = a6 + 1 → J Γ l d mX12_isBadOn Q 82 [(0, .ref 59), (1, .int a1), (2, .int a2), (3, .int a3), (4, .int a4), (5, .int a5), (6, .int x4)] [] σ)) ∧ (¬ rd σ 72 ((rd σ 115 (a6.toNatClampNeg)).toNatClampNeg) = a1 → ∀ x3 : Int32, x3 = a6 + 1 → J Γ l d mX12_isBadOn Q 82 [(0, .ref 59), (1, .int a1), (2, .int a2), (3, .int a3), (4, .int a4), (5, .int a5), (6, .int x3)] [] σ))) : J Γ l d mX12_isBadOn Q 82 [(0, .ref 59), (1, .int a1), (2, .int a2), (3, .int a3), (4, .int a4), (5, .int a5), (6, .int a6)] [] σ := by
  refine J_iload (i := 6) (kk := 6) dX12_isBadOn_82 rfl ?_
  refine J_aload_n (i := 0) (kk := 0) dX12_isBadOn_84 rfl rfl ?_
  refine J_getI (q := 59) (ci := 12) (kf := 74) kfX12_406 uxX12 rfl (by decide) rfl (by decide) rfl dX12_isBadOn_85 ?_
  refine J_icmp_ge 152 dX12_isBadOn_88 (by decide) (fun hc => ?_) (fun hc => ?_)
  · replace h := h.1 hc
    refine J_iload (i := 5) (kk := 5) dX12_isBadOn_152 rfl ?_
    refine J_iconst (v := 3) dX12_isBadOn_154 (by decide) ?_
    refine J_icmp_lt 172 dX12_isBadOn_155 (by decide) (fun hc => ?_) (fun hc => ?_)
    · replace h := h.1 hc
      refine J_iconst (v := 0) dX12_isBadOn_172 (by decide) ?_
      exact J_zret rfl (by decide) dX12_isBadOn_173 h
    · replace h := h.2 hc
      refine J_bipush (v := 10) dX12_isBadOn_158 (by decide) ?_
      refine J_iload (i := 5) (kk := 5) dX12_isBadOn_160 rfl ?_
      refine J_imul dX12_isBadOn_162 ?_
      refine J_iload (i := 4) (kk := 4) dX12_isBadOn_163 rfl ?_
      refine J_icmp_le 172 dX12_isBadOn_165 (by decide) (fun hc => ?_) (fun hc => ?_)
      · replace h := h.1 hc
        refine J_iconst (v := 0) dX12_isBadOn_172 (by decide) ?_
        exact J_zret rfl (by decide) dX12_isBadOn_173 h
      · replace h := h.2 hc
        refine J_iconst (v := 1) dX12_isBadOn_168 (by decide) ?_
        refine J_goto (tgt := 173) dX12_isBadOn_169 (by decide) ?_
        exact J_zret rfl (by decide) dX12_isBadOn_173 h
  · replace h := h.2 hc
    refine J_aload_n (i := 0) (kk := 0) dX12_isBadOn_91 rfl rfl ?_
    refine J_getR 72 (q := 59) (ci := 12) (kf := 18) kfX12_46 uxX12 rfl (by decide) rfl (by decide) rfl dX12_isBadOn_92 ?_
    refine J_aload_n (i := 0) (kk := 0) dX12_isBadOn_95 rfl rfl ?_
    refine J_getR 115 (q := 59) (ci := 12) (kf := 75) kfX12_184 uxX12 rfl (by decide) rfl (by decide) rfl dX12_isBadOn_96 ?_
    refine J_iload (i := 6) (kk := 6) dX12_isBadOn_99 rfl ?_
    have b1 := h.1
    replace h := h.2
    refine J_ald (a6.toNatClampNeg) rfl (by decide) rfl b1 dX12_isBadOn_101 ?_
    have b2 := h.1
    replace h := h.2
    refine J_ald ((rd σ 115 (a6.toNatClampNeg)).toNatClampNeg) rfl (by decide) rfl b2 dX12_isBadOn_102 ?_
    refine J_iload_n (i := 1) (kk := 1) dX12_isBadOn_103 rfl rfl ?_
    refine J_icmp_ne 146 dX12_isBadOn_104 (by decide) (fun hc => ?_) (fun hc => ?_)
    · replace h := h.2 hc
      obtain ⟨x3, ex3⟩ : ∃ y : Int32, y = a6 + 1 := ⟨_, rfl⟩
      replace h := h x3 ex3
      refine J_iinc (i := 6) (kk := 6) (v := x3) (lv' := [(6, .int x3), (0, .ref 59), (1, .int a1), (2, .int a2), (3, .int a3), (4, .int a4), (5, .int a5)]) dX12_isBadOn_146 rfl (by rw [ex3]; rfl) (by decide) rfl ?_
      refine J_goto (tgt := 82) dX12_isBadOn_149 (by decide) ?_
      refine J_sub [1, 2, 3, 4, 5, 6, 0] rfl ?_
      exact h
    · replace h := h.1 hc
      refine J_aload_n (i := 0) (kk := 0) dX12_isBadOn_107 rfl rfl ?_
      refine J_getR 73 (q := 59) (ci := 12) (kf := 19) kfX12_49 uxX12 rfl (by decide) rfl (by decide) rfl dX12_isBadOn_108 ?_
      refine J_aload_n (i := 0) (kk := 0) dX12_isBadOn_111 rfl rfl ?_
      refine J_getR 115 (q := 59) (ci := 12) (kf := 75) kfX12_184 uxX12 rfl (by decide) rfl (by decide) rfl dX12_isBadOn_112 ?_
      refine J_iload (i := 6) (kk := 6) dX12_isBadOn_115 rfl ?_
      refine J_ald (a6.toNatClampNeg) rfl (by decide) rfl b1 dX12_isBadOn_117 ?_
      refine J_ald ((rd σ 115 (a6.toNatClampNeg)).toNatClampNeg) rfl (by decide) rfl b2 dX12_isBadOn_118 ?_
      refine J_iload_n (i := 2) (kk := 2) dX12_isBadOn_119 rfl rfl ?_
      refine J_icmp_ne 146 dX12_isBadOn_120 (by decide) (fun hc => ?_) (fun hc => ?_)
      · replace h := h.2 hc
        obtain ⟨x4, ex4⟩ : ∃ y : Int32, y = a6 + 1 := ⟨_, rfl⟩
        replace h := h x4 ex4
        refine J_iinc (i := 6) (kk := 6) (v := x4) (lv' := [(6, .int x4), (0, .ref 59), (1, .int a1), (2, .int a2), (3, .int a3), (4, .int a4), (5, .int a5)]) dX12_isBadOn_146 rfl (by rw [ex4]; rfl) (by decide) rfl ?_
        refine J_goto (tgt := 82) dX12_isBadOn_149 (by decide) ?_
        refine J_sub [1, 2, 3, 4, 5, 6, 0] rfl ?_
        exact h
      · replace h := h.1 hc
        refine J_aload_n (i := 0) (kk := 0) dX12_isBadOn_123 rfl rfl ?_
        refine J_getR 116 (q := 59) (ci := 12) (kf := 76) kfX12_187 uxX12 rfl (by decide) rfl (by decide) rfl dX12_isBadOn_124 ?_
        refine J_iload (i := 6) (kk := 6) dX12_isBadOn_127 rfl ?_
        refine J_ald (a6.toNatClampNeg) rfl (by decide) rfl b1 dX12_isBadOn_129 ?_
        refine J_iload_n (i := 3) (kk := 3) dX12_isBadOn_130 rfl rfl ?_
        refine J_icmp_gt 146 dX12_isBadOn_131 (by decide) (fun hc => ?_) (fun hc => ?_)
        · replace h := h.1 hc
          obtain ⟨x5, ex5⟩ : ∃ y : Int32, y = a6 + 1 := ⟨_, rfl⟩
          replace h := h x5 ex5
          refine J_iinc (i := 6) (kk := 6) (v := x5) (lv' := [(6, .int x5), (0, .ref 59), (1, .int a1), (2, .int a2), (3, .int a3), (4, .int a4), (5, .int a5)]) dX12_isBadOn_146 rfl (by rw [ex5]; rfl) (by decide) rfl ?_
          refine J_goto (tgt := 82) dX12_isBadOn_149 (by decide) ?_
          refine J_sub [1, 2, 3, 4, 5, 6, 0] rfl ?_
          exact h
        · replace h := h.2 hc
          refine J_iload (i := 5) (kk := 5) dX12_isBadOn_134 rfl ?_
          refine J_aload_n (i := 0) (kk := 0) dX12_isBadOn_136 rfl rfl ?_
          refine J_getR 117 (q := 59) (ci := 12) (kf := 77) kfX12_190 uxX12 rfl (by decide) rfl (by decide) rfl dX12_isBadOn_137 ?_
          refine J_iload (i := 6) (kk := 6) dX12_isBadOn_140 rfl ?_
          refine J_ald (a6.toNatClampNeg) rfl (by decide) rfl b1 dX12_isBadOn_142 ?_
          refine J_iadd dX12_isBadOn_143 ?_
          refine J_nameI (fun x6 ex6 => ?_)
          replace h := h x6 ex6
          refine J_istore (i := 5) (lv' := [(5, .int x6), (0, .ref 59), (1, .int a1), (2, .int a2), (3, .int a3), (4, .int a4), (6, .int a6)]) dX12_isBadOn_144 (by decide) rfl ?_
          obtain ⟨x7, ex7⟩ : ∃ y : Int32, y = a6 + 1 := ⟨_, rfl⟩
          replace h := h x7 ex7
          refine J_iinc (i := 6) (kk := 6) (v := x7) (lv' := [(6, .int x7), (5, .int x6), (0, .ref 59), (1, .int a1), (2, .int a2), (3, .int a3), (4, .int a4)]) dX12_isBadOn_146 rfl (by rw [ex7]; rfl) (by decide) rfl ?_
          refine J_goto (tgt := 82) dX12_isBadOn_149 (by decide) ?_
          refine J_sub [2, 3, 4, 5, 6, 1, 0] rfl ?_
          exact h
set_option maxHeartbeats 4000000 in
set_option maxRecDepth 100000 in
theorem w_X12_isBadOn_9 {Γ : GG} {l : Launch} {d : Nat} {Q : Option Value → St → Prop} {σ : St} (a1 : Int32) (a2 : Int32) (a3 : Int32) (a4 : Int32) (a5 : Int32) (a6 : Int32) (h : (rd σ 59 16 ≤ a6 → J Γ l d mX12_isBadOn Q 82 [(0, .ref 59), (1, .int a1), (2, .int a2), (3, .int a3), (4, .int a4), (5, .int a5), (6, .int (0))] [] σ) ∧ (¬ rd σ 59 16 ≤ a6 → vp_in a6 200 ∧ (rd σ 72 (a6.toNatClampNeg) = a1 → (rd σ 73 (a6.toNatClampNeg) = a2 → ((0 : Int32) ≤ rd σ 82 (a6.toNatClampNeg) → ∀ x4 : Int32, x4 = a6 + 1 → J Γ l d mX12_isBadOn Q 9 [(0, .ref 59), (1, .int a1), (2, .int a2), (3, .int a3), (4, .int a4), (5, .int a5), (6, .int x4)] [] σ) ∧ (¬ (0 : Int32) ≤ rd σ 82 (a6.toNatClampNeg) → (a3 < rd σ 75 (a6.toNatClampNeg) → ∀ x5 : Int32, x5 = a6 + 1 → J Γ l d mX12_isBadOn Q 9 [(0, .ref 59), (1, .int a1), (2, .int a2), (3, .int a3), (4, .int a4), (5, .int a5), (6, .int x5)] [] σ) ∧ (¬ a3 < rd σ 75 (a6.toNatClampNeg) → ∀ x6 : Int32, x6 = a4 + (rd σ 76 (a6.toNatClampNeg)) → ∀ x7 : Int32, x7 = a6 + 1 → J Γ l d mX12_isBadOn Q 9 [(0, .ref 59), (1, .int a1), (2, .int a2), (3, .int a3), (4, .int x6), (5, .int a5), (6, .int x7)] [] σ))) ∧ (¬ rd σ 73 (a6.toNatClampNeg) = a2 → ∀ x3 : Int32, x3 = a6 + 1 → J Γ l d mX12_isBadOn Q 9 [(0, .ref 59), (1, .int a1), (2, .int a2), (3, .int a3), (4, .int a4), (5, .int a5), (6, .int x3)] [] σ)) ∧ (¬ rd σ 72 (a6.toNatClampNeg) = a1 → ∀ x2 : Int32, x2 = a6 + 1 → J Γ l d mX12_isBadOn Q 9 [(0, .ref 59), (1, .int a1), (2, .int a2), (3, .int a3), (4, .int a4), (5, .int a5), (6, .int x2)] [] σ))) : J Γ l d mX12_isBadOn Q 9 [(0, .ref 59), (1, .int a1), (2, .int a2), (3, .int a3), (4, .int a4), (5, .int a5), (6, .int a6)] [] σ := by
  refine J_iload (i := 6) (kk := 6) dX12_isBadOn_9 rfl ?_
  refine J_aload_n (i := 0) (kk := 0) dX12_isBadOn_11 rfl rfl ?_
  refine J_getI (q := 59) (ci := 12) (kf := 16) kfX12_227 uxX12 rfl (by decide) rfl (by decide) rfl dX12_isBadOn_12 ?_
  refine J_icmp_ge 79 dX12_isBadOn_15 (by decide) (fun hc => ?_) (fun hc => ?_)
  · replace h := h.1 hc
    refine J_iconst (v := 0) dX12_isBadOn_79 (by decide) ?_
    refine J_istore (i := 6) (lv' := [(6, .int (0)), (0, .ref 59), (1, .int a1), (2, .int a2), (3, .int a3), (4, .int a4), (5, .int a5)]) dX12_isBadOn_80 (by decide) rfl ?_
    refine J_sub [1, 2, 3, 4, 5, 6, 0] rfl ?_
    exact h
  · replace h := h.2 hc
    refine J_aload_n (i := 0) (kk := 0) dX12_isBadOn_18 rfl rfl ?_
    refine J_getR 72 (q := 59) (ci := 12) (kf := 18) kfX12_46 uxX12 rfl (by decide) rfl (by decide) rfl dX12_isBadOn_19 ?_
    refine J_iload (i := 6) (kk := 6) dX12_isBadOn_22 rfl ?_
    have b1 := h.1
    replace h := h.2
    refine J_ald (a6.toNatClampNeg) rfl (by decide) rfl b1 dX12_isBadOn_24 ?_
    refine J_iload_n (i := 1) (kk := 1) dX12_isBadOn_25 rfl rfl ?_
    refine J_icmp_ne 73 dX12_isBadOn_26 (by decide) (fun hc => ?_) (fun hc => ?_)
    · replace h := h.2 hc
      obtain ⟨x2, ex2⟩ : ∃ y : Int32, y = a6 + 1 := ⟨_, rfl⟩
      replace h := h x2 ex2
      refine J_iinc (i := 6) (kk := 6) (v := x2) (lv' := [(6, .int x2), (0, .ref 59), (1, .int a1), (2, .int a2), (3, .int a3), (4, .int a4), (5, .int a5)]) dX12_isBadOn_73 rfl (by rw [ex2]; rfl) (by decide) rfl ?_
      refine J_goto (tgt := 9) dX12_isBadOn_76 (by decide) ?_
      refine J_sub [1, 2, 3, 4, 5, 6, 0] rfl ?_
      exact h
    · replace h := h.1 hc
      refine J_aload_n (i := 0) (kk := 0) dX12_isBadOn_29 rfl rfl ?_
      refine J_getR 73 (q := 59) (ci := 12) (kf := 19) kfX12_49 uxX12 rfl (by decide) rfl (by decide) rfl dX12_isBadOn_30 ?_
      refine J_iload (i := 6) (kk := 6) dX12_isBadOn_33 rfl ?_
      refine J_ald (a6.toNatClampNeg) rfl (by decide) rfl b1 dX12_isBadOn_35 ?_
      refine J_iload_n (i := 2) (kk := 2) dX12_isBadOn_36 rfl rfl ?_
      refine J_icmp_ne 73 dX12_isBadOn_37 (by decide) (fun hc => ?_) (fun hc => ?_)
      · replace h := h.2 hc
        obtain ⟨x3, ex3⟩ : ∃ y : Int32, y = a6 + 1 := ⟨_, rfl⟩
        replace h := h x3 ex3
        refine J_iinc (i := 6) (kk := 6) (v := x3) (lv' := [(6, .int x3), (0, .ref 59), (1, .int a1), (2, .int a2), (3, .int a3), (4, .int a4), (5, .int a5)]) dX12_isBadOn_73 rfl (by rw [ex3]; rfl) (by decide) rfl ?_
        refine J_goto (tgt := 9) dX12_isBadOn_76 (by decide) ?_
        refine J_sub [1, 2, 3, 4, 5, 6, 0] rfl ?_
        exact h
      · replace h := h.1 hc
        refine J_aload_n (i := 0) (kk := 0) dX12_isBadOn_40 rfl rfl ?_
        refine J_getR 82 (q := 59) (ci := 12) (kf := 28) kfX12_76 uxX12 rfl (by decide) rfl (by decide) rfl dX12_isBadOn_41 ?_
        refine J_iload (i := 6) (kk := 6) dX12_isBadOn_44 rfl ?_
        refine J_ald (a6.toNatClampNeg) rfl (by decide) rfl b1 dX12_isBadOn_46 ?_
        refine J_if_ge 73 dX12_isBadOn_47 (by decide) (fun hc => ?_) (fun hc => ?_)
        · replace h := h.1 hc
          obtain ⟨x4, ex4⟩ : ∃ y : Int32, y = a6 + 1 := ⟨_, rfl⟩
          replace h := h x4 ex4
          refine J_iinc (i := 6) (kk := 6) (v := x4) (lv' := [(6, .int x4), (0, .ref 59), (1, .int a1), (2, .int a2), (3, .int a3), (4, .int a4), (5, .int a5)]) dX12_isBadOn_73 rfl (by rw [ex4]; rfl) (by decide) rfl ?_
          refine J_goto (tgt := 9) dX12_isBadOn_76 (by decide) ?_
          refine J_sub [1, 2, 3, 4, 5, 6, 0] rfl ?_
          exact h
        · replace h := h.2 hc
          refine J_aload_n (i := 0) (kk := 0) dX12_isBadOn_50 rfl rfl ?_
          refine J_getR 75 (q := 59) (ci := 12) (kf := 21) kfX12_55 uxX12 rfl (by decide) rfl (by decide) rfl dX12_isBadOn_51 ?_
          refine J_iload (i := 6) (kk := 6) dX12_isBadOn_54 rfl ?_
          refine J_ald (a6.toNatClampNeg) rfl (by decide) rfl b1 dX12_isBadOn_56 ?_
          refine J_iload_n (i := 3) (kk := 3) dX12_isBadOn_57 rfl rfl ?_
          refine J_icmp_gt 73 dX12_isBadOn_58 (by decide) (fun hc => ?_) (fun hc => ?_)
          · replace h := h.1 hc
            obtain ⟨x5, ex5⟩ : ∃ y : Int32, y = a6 + 1 := ⟨_, rfl⟩
            replace h := h x5 ex5
            refine J_iinc (i := 6) (kk := 6) (v := x5) (lv' := [(6, .int x5), (0, .ref 59), (1, .int a1), (2, .int a2), (3, .int a3), (4, .int a4), (5, .int a5)]) dX12_isBadOn_73 rfl (by rw [ex5]; rfl) (by decide) rfl ?_
            refine J_goto (tgt := 9) dX12_isBadOn_76 (by decide) ?_
            refine J_sub [1, 2, 3, 4, 5, 6, 0] rfl ?_
            exact h
          · replace h := h.2 hc
            refine J_iload (i := 4) (kk := 4) dX12_isBadOn_61 rfl ?_
            refine J_aload_n (i := 0) (kk := 0) dX12_isBadOn_63 rfl rfl ?_
            refine J_getR 76 (q := 59) (ci := 12) (kf := 22) kfX12_58 uxX12 rfl (by decide) rfl (by decide) rfl dX12_isBadOn_64 ?_
            refine J_iload (i := 6) (kk := 6) dX12_isBadOn_67 rfl ?_
            refine J_ald (a6.toNatClampNeg) rfl (by decide) rfl b1 dX12_isBadOn_69 ?_
            refine J_iadd dX12_isBadOn_70 ?_
            refine J_nameI (fun x6 ex6 => ?_)
            replace h := h x6 ex6
            refine J_istore (i := 4) (lv' := [(4, .int x6), (0, .ref 59), (1, .int a1), (2, .int a2), (3, .int a3), (5, .int a5), (6, .int a6)]) dX12_isBadOn_71 (by decide) rfl ?_
            obtain ⟨x7, ex7⟩ : ∃ y : Int32, y = a6 + 1 := ⟨_, rfl⟩
            replace h := h x7 ex7
            refine J_iinc (i := 6) (kk := 6) (v := x7) (lv' := [(6, .int x7), (4, .int x6), (0, .ref 59), (1, .int a1), (2, .int a2), (3, .int a3), (5, .int a5)]) dX12_isBadOn_73 rfl (by rw [ex7]; rfl) (by decide) rfl ?_
            refine J_goto (tgt := 9) dX12_isBadOn_76 (by decide) ?_
            refine J_sub [2, 3, 4, 5, 1, 6, 0] rfl ?_
            exact h
set_option maxHeartbeats 4000000 in
set_option maxRecDepth 100000 in
theorem w_X12_isBadOn_0 {Γ : GG} {l : Launch} {d : Nat} {Q : Option Value → St → Prop} {σ : St} (a1 : Int32) (a2 : Int32) (a3 : Int32) (h : J Γ l d mX12_isBadOn Q 9 [(0, .ref 59), (1, .int a1), (2, .int a2), (3, .int a3), (4, .int (0)), (5, .int (0)), (6, .int (0))] [] σ) : J Γ l d mX12_isBadOn Q 0 [(0, .ref 59), (1, .int a1), (2, .int a2), (3, .int a3)] [] σ := by
  refine J_iconst (v := 0) dX12_isBadOn_0 (by decide) ?_
  refine J_istore (i := 4) (lv' := [(4, .int (0)), (0, .ref 59), (1, .int a1), (2, .int a2), (3, .int a3)]) dX12_isBadOn_1 (by decide) rfl ?_
  refine J_iconst (v := 0) dX12_isBadOn_3 (by decide) ?_
  refine J_istore (i := 5) (lv' := [(5, .int (0)), (4, .int (0)), (0, .ref 59), (1, .int a1), (2, .int a2), (3, .int a3)]) dX12_isBadOn_4 (by decide) rfl ?_
  refine J_iconst (v := 0) dX12_isBadOn_6 (by decide) ?_
  refine J_istore (i := 6) (lv' := [(6, .int (0)), (5, .int (0)), (4, .int (0)), (0, .ref 59), (1, .int a1), (2, .int a2), (3, .int a3)]) dX12_isBadOn_7 (by decide) rfl ?_
  refine J_sub [3, 4, 5, 6, 2, 1, 0] rfl ?_
  exact h
theorem M_X12_isBadOn {Γ : GG} {l : Launch} {d : Nat} {Q : Option Value → St → Prop} {σ : St} (a1 : Int32) (a2 : Int32) (a3 : Int32) (k : J Γ l d mX12_isBadOn Q 0 [(0, .ref 59), (1, .int a1), (2, .int a2), (3, .int a3)] [] σ) : Meth Γ l d mX12_isBadOn [.ref 59, .int a1, .int a2, .int a3] σ Q := Meth_of_J (by decide +kernel) (fun _ => Nat.le_of_ble_eq_true rfl) (fun _ => rfl) k
set_option maxHeartbeats 4000000 in
set_option maxRecDepth 100000 in
theorem w_X12_isBad_0 {Γ : GG} {l : Launch} {d : Nat} {Q : Option Value → St → Prop} {σ : St} (a1 : Int32) (a2 : Int32) (a3 : Int32) (h : ((0 ≤ a1 ∧ a1 ≤ (rd σ 59 6) - (1 : Int32)) ∧ 0 ≤ a2 ∧ a2 ≤ 99 → (0 ≤ a3 ∧ a3 ≤ 1499 → Meth Γ l (d + 2) mX12_isBadOn [.ref 59, .int a1, .int a2, .int a3] σ (KI (fun x2 σ1 => (x2 = (0 : Int32) → Q (some (.int (0))) σ1) ∧ (¬ x2 = (0 : Int32) → Q (some (.int (1))) σ1)))) ∧ (¬ (0 ≤ a3 ∧ a3 ≤ 1499) → Q (some (.int ((-1)))) σ)) ∧ (¬ ((0 ≤ a1 ∧ a1 ≤ (rd σ 59 6) - (1 : Int32)) ∧ 0 ≤ a2 ∧ a2 ≤ 99) → Q (some (.int ((-1)))) σ)) : J Γ l (d + 3) mX12_isBad Q 0 [(0, .ref 59), (1, .int a1), (2, .int a2), (3, .int a3)] [] σ := by
  refine J_aload_n (i := 0) (kk := 0) dX12_isBad_0 rfl rfl ?_
  refine J_iload_n (i := 1) (kk := 1) dX12_isBad_1 rfl rfl ?_
  refine J_iload_n (i := 2) (kk := 2) dX12_isBad_2 rfl rfl ?_
  refine J_callV [.int a1, .int a2] [] calX12_isLot klX12_409 (b := 59) (ci := 12) (by decide) rfl rfl rfl rfl (Nat.le_of_ble_eq_true rfl) dX12_isBad_3 (KI.to (S_X12_isLot a1 a2) ?_)
  rintro x9 s9 ⟨rfl, ⟨g4, rfl⟩ | ⟨g4, rfl⟩⟩
  · replace h := h.1 g4
    refine J_if_eq 16 dX12_isBad_6 (by decide) (fun hc => absurd hc (by decide)) (fun _ => ?_)
    refine J_iload_n (i := 3) (kk := 3) dX12_isBad_9 rfl rfl ?_
    refine J_callS [.int a3] [] calX12_isDay klX12_220 rfl rfl (Nat.le_of_ble_eq_true rfl) dX12_isBad_10 (KI.to (S_X12_isDay a3) ?_)
    rintro x9 s9 ⟨rfl, ⟨g3, rfl⟩ | ⟨g3, rfl⟩⟩
    · replace h := h.1 g3
      refine J_if_ne 20 dX12_isBad_13 (by decide) (fun _ => ?_) (fun hc => absurd hc (by decide))
      refine J_aload_n (i := 0) (kk := 0) dX12_isBad_20 rfl rfl ?_
      refine J_iload_n (i := 1) (kk := 1) dX12_isBad_21 rfl rfl ?_
      refine J_iload_n (i := 2) (kk := 2) dX12_isBad_22 rfl rfl ?_
      refine J_iload_n (i := 3) (kk := 3) dX12_isBad_23 rfl rfl ?_
      refine J_callV [.int a1, .int a2, .int a3] [] calX12_isBadOn klX12_412 (b := 59) (ci := 12) (by decide) rfl rfl rfl rfl (Nat.le_of_ble_eq_true rfl) dX12_isBad_24 (KI.to h ?_)
      clear h
      intro x2 σ1 h
      refine J_if_eq 34 dX12_isBad_27 (by decide) (fun hc => ?_) (fun hc => ?_)
      · replace h := h.1 hc
        refine J_iconst (v := 0) dX12_isBad_34 (by decide) ?_
        exact J_iret rfl dX12_isBad_35 h
      · replace h := h.2 hc
        refine J_iconst (v := 1) dX12_isBad_30 (by decide) ?_
        refine J_goto (tgt := 35) dX12_isBad_31 (by decide) ?_
        exact J_iret rfl dX12_isBad_35 h
    · replace h := h.2 g3
      refine J_if_ne 20 dX12_isBad_13 (by decide) (fun hc => absurd hc (by decide)) (fun _ => ?_)
      refine J_iconst (v := (-1)) dX12_isBad_16 (by decide) ?_
      refine J_goto (tgt := 35) dX12_isBad_17 (by decide) ?_
      exact J_iret rfl dX12_isBad_35 h
  · replace h := h.2 g4
    refine J_if_eq 16 dX12_isBad_6 (by decide) (fun _ => ?_) (fun hc => absurd hc (by decide))
    refine J_iconst (v := (-1)) dX12_isBad_16 (by decide) ?_
    refine J_goto (tgt := 35) dX12_isBad_17 (by decide) ?_
    exact J_iret rfl dX12_isBad_35 h
theorem M_X12_isBad {Γ : GG} {l : Launch} {d : Nat} {Q : Option Value → St → Prop} {σ : St} (a1 : Int32) (a2 : Int32) (a3 : Int32) (k : J Γ l (d + 3) mX12_isBad Q 0 [(0, .ref 59), (1, .int a1), (2, .int a2), (3, .int a3)] [] σ) : Meth Γ l (d + 3) mX12_isBad [.ref 59, .int a1, .int a2, .int a3] σ Q := Meth_of_J (by decide +kernel) (fun _ => Nat.le_of_ble_eq_true rfl) (fun _ => rfl) k
set_option maxHeartbeats 4000000 in
set_option maxRecDepth 100000 in
theorem w_X12_since_13 {Γ : GG} {l : Launch} {d : Nat} {Q : Option Value → St → Prop} {σ : St} (a1 : Int32) (a2 : Int32) (a3 : Int32) (h : ((rd σ 59 1) / (24 : Int32) < a3 → Q (some (.int ((-2)))) σ) ∧ (¬ (rd σ 59 1) / (24 : Int32) < a3 → Meth Γ l (d + 2) mX12_isBadOn [.ref 59, .int a1, .int a2, .int a3] σ (KI (fun x2 σ1 => (x2 = (0 : Int32) → ∀ x3 : Int32, x3 = a3 + 1 → J Γ l (d + 3) mX12_since Q 13 [(0, .ref 59), (1, .int a1), (2, .int a2), (3, .int x3)] [] σ1) ∧ (¬ x2 = (0 : Int32) → Q (some (.int a3)) σ1))))) : J Γ l (d + 3) mX12_since Q 13 [(0, .ref 59), (1, .int a1), (2, .int a2), (3, .int a3)] [] σ := by
  refine J_iload_n (i := 3) (kk := 3) dX12_since_13 rfl rfl ?_
  refine J_aload_n (i := 0) (kk := 0) dX12_since_14 rfl rfl ?_
  refine J_callV [] [.int a3] calX12_today klX12_230 (b := 59) (ci := 12) (by decide) rfl rfl rfl rfl (Nat.le_of_ble_eq_true rfl) dX12_since_15 (KI.to (S_X12_today) ?_)
  rintro x9 s9 ⟨rfl, rfl⟩
  refine J_icmp_gt 39 dX12_since_18 (by decide) (fun hc => ?_) (fun hc => ?_)
  · replace h := h.1 hc
    refine J_bipush (v := (-2)) dX12_since_39 (by decide) ?_
    exact J_iret rfl dX12_since_41 h
  · replace h := h.2 hc
    refine J_aload_n (i := 0) (kk := 0) dX12_since_21 rfl rfl ?_
    refine J_iload_n (i := 1) (kk := 1) dX12_since_22 rfl rfl ?_
    refine J_iload_n (i := 2) (kk := 2) dX12_since_23 rfl rfl ?_
    refine J_iload_n (i := 3) (kk := 3) dX12_since_24 rfl rfl ?_
    refine J_callV [.int a1, .int a2, .int a3] [] calX12_isBadOn klX12_412 (b := 59) (ci := 12) (by decide) rfl rfl rfl rfl (Nat.le_of_ble_eq_true rfl) dX12_since_25 (KI.to h ?_)
    clear h
    intro x2 σ1 h
    refine J_if_eq 33 dX12_since_28 (by decide) (fun hc => ?_) (fun hc => ?_)
    · replace h := h.1 hc
      obtain ⟨x3, ex3⟩ : ∃ y : Int32, y = a3 + 1 := ⟨_, rfl⟩
      replace h := h x3 ex3
      refine J_iinc (i := 3) (kk := 3) (v := x3) (lv' := [(3, .int x3), (0, .ref 59), (1, .int a1), (2, .int a2)]) dX12_since_33 rfl (by rw [ex3]; rfl) (by decide) rfl ?_
      refine J_goto (tgt := 13) dX12_since_36 (by decide) ?_
      refine J_sub [1, 2, 3, 0] rfl ?_
      exact h
    · replace h := h.2 hc
      refine J_iload_n (i := 3) (kk := 3) dX12_since_31 rfl rfl ?_
      exact J_iret rfl dX12_since_32 h
set_option maxHeartbeats 4000000 in
set_option maxRecDepth 100000 in
theorem w_X12_since_0 {Γ : GG} {l : Launch} {d : Nat} {Q : Option Value → St → Prop} {σ : St} (a1 : Int32) (a2 : Int32) (h : ((0 ≤ a1 ∧ a1 ≤ (rd σ 59 6) - (1 : Int32)) ∧ 0 ≤ a2 ∧ a2 ≤ 99 → J Γ l (d + 3) mX12_since Q 13 [(0, .ref 59), (1, .int a1), (2, .int a2), (3, .int (0))] [] σ) ∧ (¬ ((0 ≤ a1 ∧ a1 ≤ (rd σ 59 6) - (1 : Int32)) ∧ 0 ≤ a2 ∧ a2 ≤ 99) → Q (some (.int ((-1)))) σ)) : J Γ l (d + 3) mX12_since Q 0 [(0, .ref 59), (1, .int a1), (2, .int a2)] [] σ := by
  refine J_aload_n (i := 0) (kk := 0) dX12_since_0 rfl rfl ?_
  refine J_iload_n (i := 1) (kk := 1) dX12_since_1 rfl rfl ?_
  refine J_iload_n (i := 2) (kk := 2) dX12_since_2 rfl rfl ?_
  refine J_callV [.int a1, .int a2] [] calX12_isLot klX12_409 (b := 59) (ci := 12) (by decide) rfl rfl rfl rfl (Nat.le_of_ble_eq_true rfl) dX12_since_3 (KI.to (S_X12_isLot a1 a2) ?_)
  rintro x9 s9 ⟨rfl, ⟨g1, rfl⟩ | ⟨g1, rfl⟩⟩
  · replace h := h.1 g1
    refine J_if_ne 11 dX12_since_6 (by decide) (fun _ => ?_) (fun hc => absurd hc (by decide))
    refine J_iconst (v := 0) dX12_since_11 (by decide) ?_
    refine J_istore_n (i := 3) (lv' := [(3, .int (0)), (0, .ref 59), (1, .int a1), (2, .int a2)]) dX12_since_12 rfl (by decide) rfl ?_
    refine J_sub [1, 2, 3, 0] rfl ?_
    exact h
  · replace h := h.2 g1
    refine J_if_ne 11 dX12_since_6 (by decide) (fun hc => absurd hc (by decide)) (fun _ => ?_)
    refine J_iconst (v := (-1)) dX12_since_9 (by decide) ?_
    exact J_iret rfl dX12_since_10 h
theorem M_X12_since {Γ : GG} {l : Launch} {d : Nat} {Q : Option Value → St → Prop} {σ : St} (a1 : Int32) (a2 : Int32) (k : J Γ l (d + 3) mX12_since Q 0 [(0, .ref 59), (1, .int a1), (2, .int a2)] [] σ) : Meth Γ l (d + 3) mX12_since [.ref 59, .int a1, .int a2] σ Q := Meth_of_J (by decide +kernel) (fun _ => Nat.le_of_ble_eq_true rfl) (fun _ => rfl) k
set_option maxHeartbeats 4000000 in
set_option maxRecDepth 100000 in
theorem w_X12_till_0 {Γ : GG} {l : Launch} {d : Nat} {Q : Option Value → St → Prop} {σ : St} (a1 : Int32) (h : (0 ≤ a1 ∧ a1 ≤ (rd σ 59 2) - (1 : Int32) → vp_in a1 12 ∧ Q (some (.int (rd σ 62 (a1.toNatClampNeg)))) σ) ∧ (¬ (0 ≤ a1 ∧ a1 ≤ (rd σ 59 2) - (1 : Int32)) → Q (some (.int ((-1)))) σ)) : J Γ l (d + 2) mX12_till Q 0 [(0, .ref 59), (1, .int a1)] [] σ := by
  refine J_aload_n (i := 0) (kk := 0) dX12_till_0 rfl rfl ?_
  refine J_iload_n (i := 1) (kk := 1) dX12_till_1 rfl rfl ?_
  refine J_callV [.int a1] [] calX12_isShop klX12_209 (b := 59) (ci := 12) (by decide) rfl rfl rfl rfl (Nat.le_of_ble_eq_true rfl) dX12_till_2 (KI.to (S_X12_isShop a1) ?_)
  rintro x9 s9 ⟨rfl, ⟨g2, rfl⟩ | ⟨g2, rfl⟩⟩
  · replace h := h.1 g2
    refine J_if_eq 17 dX12_till_5 (by decide) (fun hc => absurd hc (by decide)) (fun _ => ?_)
    refine J_aload_n (i := 0) (kk := 0) dX12_till_8 rfl rfl ?_
    refine J_getR 62 (q := 59) (ci := 12) (kf := 5) kfX12_16 uxX12 rfl (by decide) rfl (by decide) rfl dX12_till_9 ?_
    refine J_iload_n (i := 1) (kk := 1) dX12_till_12 rfl rfl ?_
    have b1 := h.1
    replace h := h.2
    refine J_ald (a1.toNatClampNeg) rfl (by decide) rfl b1 dX12_till_13 ?_
    refine J_goto (tgt := 18) dX12_till_14 (by decide) ?_
    exact J_iret rfl dX12_till_18 h
  · replace h := h.2 g2
    refine J_if_eq 17 dX12_till_5 (by decide) (fun _ => ?_) (fun hc => absurd hc (by decide))
    refine J_iconst (v := (-1)) dX12_till_17 (by decide) ?_
    exact J_iret rfl dX12_till_18 h
theorem M_X12_till {Γ : GG} {l : Launch} {d : Nat} {Q : Option Value → St → Prop} {σ : St} (a1 : Int32) (k : J Γ l (d + 2) mX12_till Q 0 [(0, .ref 59), (1, .int a1)] [] σ) : Meth Γ l (d + 2) mX12_till [.ref 59, .int a1] σ Q := Meth_of_J (by decide +kernel) (fun _ => Nat.le_of_ble_eq_true rfl) (fun _ => rfl) k
set_option maxHeartbeats 4000000 in
set_option maxRecDepth 100000 in
theorem w_X12_count_226 {Γ : GG} {l : Launch} {d : Nat} {Q : Option Value → St → Prop} {σ : St} (a2 : Int32) (a3 : Int32) (h : (rd σ 59 45 ≤ a3 → Q (some (.int a2)) σ) ∧ (¬ rd σ 59 45 ≤ a3 → vp_in a3 600 ∧ ∀ x2 : Int32, x2 = a2 + ((rd σ 97 (a3.toNatClampNeg)) - (rd σ 98 (a3.toNatClampNeg))) → ∀ x3 : Int32, x3 = a3 + 1 → J Γ l (d + 1) mX12_count Q 226 [(0, .ref 59), (2, .int x2), (3, .int x3)] [] σ)) : J Γ l (d + 1) mX12_count Q 226 [(0, .ref 59), (2, .int a2), (3, .int a3)] [] σ := by
  refine J_iload_n (i := 3) (kk := 2) dX12_count_226 rfl rfl ?_
  refine J_aload_n (i := 0) (kk := 0) dX12_count_227 rfl rfl ?_
  refine J_getI (q := 59) (ci := 12) (kf := 45) kfX12_337 uxX12 rfl (by decide) rfl (by decide) rfl dX12_count_228 ?_
  refine J_icmp_ge 256 dX12_count_231 (by decide) (fun hc => ?_) (fun hc => ?_)
  · replace h := h.1 hc
    refine J_iload_n (i := 2) (kk := 1) dX12_count_256 rfl rfl ?_
    exact J_iret rfl dX12_count_257 h
  · replace h := h.2 hc
    refine J_iload_n (i := 2) (kk := 1) dX12_count_234 rfl rfl ?_
    refine J_aload_n (i := 0) (kk := 0) dX12_count_235 rfl rfl ?_
    refine J_getR 97 (q := 59) (ci := 12) (kf := 51) kfX12_122 uxX12 rfl (by decide) rfl (by decide) rfl dX12_count_236 ?_
    refine J_iload_n (i := 3) (kk := 2) dX12_count_239 rfl rfl ?_
    have b1 := h.1
    replace h := h.2
    refine J_ald (a3.toNatClampNeg) rfl (by decide) rfl b1 dX12_count_240 ?_
    refine J_aload_n (i := 0) (kk := 0) dX12_count_241 rfl rfl ?_
    refine J_getR 98 (q := 59) (ci := 12) (kf := 52) kfX12_125 uxX12 rfl (by decide) rfl (by decide) rfl dX12_count_242 ?_
    refine J_iload_n (i := 3) (kk := 2) dX12_count_245 rfl rfl ?_
    refine J_ald (a3.toNatClampNeg) rfl (by decide) rfl b1 dX12_count_246 ?_
    refine J_isub dX12_count_247 ?_
    refine J_iadd dX12_count_248 ?_
    refine J_nameI (fun x2 ex2 => ?_)
    replace h := h x2 ex2
    refine J_istore_n (i := 2) (lv' := [(2, .int x2), (0, .ref 59), (3, .int a3)]) dX12_count_249 rfl (by decide) rfl ?_
    obtain ⟨x3, ex3⟩ : ∃ y : Int32, y = a3 + 1 := ⟨_, rfl⟩
    replace h := h x3 ex3
    refine J_iinc (i := 3) (kk := 2) (v := x3) (lv' := [(3, .int x3), (2, .int x2), (0, .ref 59)]) dX12_count_250 rfl (by rw [ex3]; rfl) (by decide) rfl ?_
    refine J_goto (tgt := 226) dX12_count_253 (by decide) ?_
    refine J_sub [2, 1, 0] rfl ?_
    exact h
set_option maxHeartbeats 4000000 in
set_option maxRecDepth 100000 in
theorem w_X12_count_199 {Γ : GG} {l : Launch} {d : Nat} {Q : Option Value → St → Prop} {σ : St} (a2 : Int32) (a3 : Int32) (h : (rd σ 59 16 ≤ a3 → Q (some (.int a2)) σ) ∧ (¬ rd σ 59 16 ≤ a3 → vp_in a3 200 ∧ ∀ x2 : Int32, x2 = a2 + (rd σ 80 (a3.toNatClampNeg)) → ∀ x3 : Int32, x3 = a3 + 1 → J Γ l (d + 1) mX12_count Q 199 [(0, .ref 59), (2, .int x2), (3, .int x3)] [] σ)) : J Γ l (d + 1) mX12_count Q 199 [(0, .ref 59), (2, .int a2), (3, .int a3)] [] σ := by
  refine J_iload_n (i := 3) (kk := 2) dX12_count_199 rfl rfl ?_
  refine J_aload_n (i := 0) (kk := 0) dX12_count_200 rfl rfl ?_
  refine J_getI (q := 59) (ci := 12) (kf := 16) kfX12_227 uxX12 rfl (by decide) rfl (by decide) rfl dX12_count_201 ?_
  refine J_icmp_ge 222 dX12_count_204 (by decide) (fun hc => ?_) (fun hc => ?_)
  · replace h := h.1 hc
    refine J_iload_n (i := 2) (kk := 1) dX12_count_222 rfl rfl ?_
    exact J_iret rfl dX12_count_223 h
  · replace h := h.2 hc
    refine J_iload_n (i := 2) (kk := 1) dX12_count_207 rfl rfl ?_
    refine J_aload_n (i := 0) (kk := 0) dX12_count_208 rfl rfl ?_
    refine J_getR 80 (q := 59) (ci := 12) (kf := 26) kfX12_70 uxX12 rfl (by decide) rfl (by decide) rfl dX12_count_209 ?_
    refine J_iload_n (i := 3) (kk := 2) dX12_count_212 rfl rfl ?_
    have b1 := h.1
    replace h := h.2
    refine J_ald (a3.toNatClampNeg) rfl (by decide) rfl b1 dX12_count_213 ?_
    refine J_iadd dX12_count_214 ?_
    refine J_nameI (fun x2 ex2 => ?_)
    replace h := h x2 ex2
    refine J_istore_n (i := 2) (lv' := [(2, .int x2), (0, .ref 59), (3, .int a3)]) dX12_count_215 rfl (by decide) rfl ?_
    obtain ⟨x3, ex3⟩ : ∃ y : Int32, y = a3 + 1 := ⟨_, rfl⟩
    replace h := h x3 ex3
    refine J_iinc (i := 3) (kk := 2) (v := x3) (lv' := [(3, .int x3), (2, .int x2), (0, .ref 59)]) dX12_count_216 rfl (by rw [ex3]; rfl) (by decide) rfl ?_
    refine J_goto (tgt := 199) dX12_count_219 (by decide) ?_
    refine J_sub [2, 1, 0] rfl ?_
    exact h
set_option maxHeartbeats 4000000 in
set_option maxRecDepth 100000 in
theorem w_X12_count_172 {Γ : GG} {l : Launch} {d : Nat} {Q : Option Value → St → Prop} {σ : St} (a2 : Int32) (a3 : Int32) (h : (rd σ 59 16 ≤ a3 → Q (some (.int a2)) σ) ∧ (¬ rd σ 59 16 ≤ a3 → vp_in a3 200 ∧ ∀ x2 : Int32, x2 = a2 + (rd σ 79 (a3.toNatClampNeg)) → ∀ x3 : Int32, x3 = a3 + 1 → J Γ l (d + 1) mX12_count Q 172 [(0, .ref 59), (2, .int x2), (3, .int x3)] [] σ)) : J Γ l (d + 1) mX12_count Q 172 [(0, .ref 59), (2, .int a2), (3, .int a3)] [] σ := by
  refine J_iload_n (i := 3) (kk := 2) dX12_count_172 rfl rfl ?_
  refine J_aload_n (i := 0) (kk := 0) dX12_count_173 rfl rfl ?_
  refine J_getI (q := 59) (ci := 12) (kf := 16) kfX12_227 uxX12 rfl (by decide) rfl (by decide) rfl dX12_count_174 ?_
  refine J_icmp_ge 195 dX12_count_177 (by decide) (fun hc => ?_) (fun hc => ?_)
  · replace h := h.1 hc
    refine J_iload_n (i := 2) (kk := 1) dX12_count_195 rfl rfl ?_
    exact J_iret rfl dX12_count_196 h
  · replace h := h.2 hc
    refine J_iload_n (i := 2) (kk := 1) dX12_count_180 rfl rfl ?_
    refine J_aload_n (i := 0) (kk := 0) dX12_count_181 rfl rfl ?_
    refine J_getR 79 (q := 59) (ci := 12) (kf := 25) kfX12_67 uxX12 rfl (by decide) rfl (by decide) rfl dX12_count_182 ?_
    refine J_iload_n (i := 3) (kk := 2) dX12_count_185 rfl rfl ?_
    have b1 := h.1
    replace h := h.2
    refine J_ald (a3.toNatClampNeg) rfl (by decide) rfl b1 dX12_count_186 ?_
    refine J_iadd dX12_count_187 ?_
    refine J_nameI (fun x2 ex2 => ?_)
    replace h := h x2 ex2
    refine J_istore_n (i := 2) (lv' := [(2, .int x2), (0, .ref 59), (3, .int a3)]) dX12_count_188 rfl (by decide) rfl ?_
    obtain ⟨x3, ex3⟩ : ∃ y : Int32, y = a3 + 1 := ⟨_, rfl⟩
    replace h := h x3 ex3
    refine J_iinc (i := 3) (kk := 2) (v := x3) (lv' := [(3, .int x3), (2, .int x2), (0, .ref 59)]) dX12_count_189 rfl (by rw [ex3]; rfl) (by decide) rfl ?_
    refine J_goto (tgt := 172) dX12_count_192 (by decide) ?_
    refine J_sub [2, 1, 0] rfl ?_
    exact h
set_option maxHeartbeats 4000000 in
set_option maxRecDepth 100000 in
theorem w_X12_count_145 {Γ : GG} {l : Launch} {d : Nat} {Q : Option Value → St → Prop} {σ : St} (a2 : Int32) (a3 : Int32) (h : (rd σ 59 16 ≤ a3 → Q (some (.int a2)) σ) ∧ (¬ rd σ 59 16 ≤ a3 → vp_in a3 200 ∧ ∀ x2 : Int32, x2 = a2 + (rd σ 77 (a3.toNatClampNeg)) → ∀ x3 : Int32, x3 = a3 + 1 → J Γ l (d + 1) mX12_count Q 145 [(0, .ref 59), (2, .int x2), (3, .int x3)] [] σ)) : J Γ l (d + 1) mX12_count Q 145 [(0, .ref 59), (2, .int a2), (3, .int a3)] [] σ := by
  refine J_iload_n (i := 3) (kk := 2) dX12_count_145 rfl rfl ?_
  refine J_aload_n (i := 0) (kk := 0) dX12_count_146 rfl rfl ?_
  refine J_getI (q := 59) (ci := 12) (kf := 16) kfX12_227 uxX12 rfl (by decide) rfl (by decide) rfl dX12_count_147 ?_
  refine J_icmp_ge 168 dX12_count_150 (by decide) (fun hc => ?_) (fun hc => ?_)
  · replace h := h.1 hc
    refine J_iload_n (i := 2) (kk := 1) dX12_count_168 rfl rfl ?_
    exact J_iret rfl dX12_count_169 h
  · replace h := h.2 hc
    refine J_iload_n (i := 2) (kk := 1) dX12_count_153 rfl rfl ?_
    refine J_aload_n (i := 0) (kk := 0) dX12_count_154 rfl rfl ?_
    refine J_getR 77 (q := 59) (ci := 12) (kf := 23) kfX12_61 uxX12 rfl (by decide) rfl (by decide) rfl dX12_count_155 ?_
    refine J_iload_n (i := 3) (kk := 2) dX12_count_158 rfl rfl ?_
    have b1 := h.1
    replace h := h.2
    refine J_ald (a3.toNatClampNeg) rfl (by decide) rfl b1 dX12_count_159 ?_
    refine J_iadd dX12_count_160 ?_
    refine J_nameI (fun x2 ex2 => ?_)
    replace h := h x2 ex2
    refine J_istore_n (i := 2) (lv' := [(2, .int x2), (0, .ref 59), (3, .int a3)]) dX12_count_161 rfl (by decide) rfl ?_
    obtain ⟨x3, ex3⟩ : ∃ y : Int32, y = a3 + 1 := ⟨_, rfl⟩
    replace h := h x3 ex3
    refine J_iinc (i := 3) (kk := 2) (v := x3) (lv' := [(3, .int x3), (2, .int x2), (0, .ref 59)]) dX12_count_162 rfl (by rw [ex3]; rfl) (by decide) rfl ?_
    refine J_goto (tgt := 145) dX12_count_165 (by decide) ?_
    refine J_sub [2, 1, 0] rfl ?_
    exact h
set_option maxHeartbeats 4000000 in
set_option maxRecDepth 100000 in
theorem w_X12_count_119 {Γ : GG} {l : Launch} {d : Nat} {Q : Option Value → St → Prop} {σ : St} (a2 : Int32) (a3 : Int32) (h : (rd σ 59 16 ≤ a3 → Q (some (.int a2)) σ) ∧ (¬ rd σ 59 16 ≤ a3 → vp_in a3 200 ∧ ∀ x2 : Int32, x2 = a2 + (((((rd σ 76 a3.toNatClampNeg) - (rd σ 77 a3.toNatClampNeg)) - (rd σ 78 a3.toNatClampNeg)) - (rd σ 79 a3.toNatClampNeg)) - (rd σ 80 a3.toNatClampNeg)) → ∀ x3 : Int32, x3 = a3 + 1 → J Γ l (d + 1) mX12_count Q 119 [(0, .ref 59), (2, .int x2), (3, .int x3)] [] σ)) : J Γ l (d + 1) mX12_count Q 119 [(0, .ref 59), (2, .int a2), (3, .int a3)] [] σ := by
  refine J_iload_n (i := 3) (kk := 2) dX12_count_119 rfl rfl ?_
  refine J_aload_n (i := 0) (kk := 0) dX12_count_120 rfl rfl ?_
  refine J_getI (q := 59) (ci := 12) (kf := 16) kfX12_227 uxX12 rfl (by decide) rfl (by decide) rfl dX12_count_121 ?_
  refine J_icmp_ge 141 dX12_count_124 (by decide) (fun hc => ?_) (fun hc => ?_)
  · replace h := h.1 hc
    refine J_iload_n (i := 2) (kk := 1) dX12_count_141 rfl rfl ?_
    exact J_iret rfl dX12_count_142 h
  · replace h := h.2 hc
    refine J_iload_n (i := 2) (kk := 1) dX12_count_127 rfl rfl ?_
    refine J_aload_n (i := 0) (kk := 0) dX12_count_128 rfl rfl ?_
    refine J_iload_n (i := 3) (kk := 2) dX12_count_129 rfl rfl ?_
    have b1 := h.1
    replace h := h.2
    refine J_callV [.int a3] [.int a2] calX12_onShelf klX12_245 (b := 59) (ci := 12) (by decide) rfl rfl rfl rfl (Nat.le_of_ble_eq_true rfl) dX12_count_130 (KI.to (S_X12_onShelf a3 b1) ?_)
    rintro x9 s9 ⟨rfl, rfl⟩
    refine J_iadd dX12_count_133 ?_
    refine J_nameI (fun x2 ex2 => ?_)
    replace h := h x2 ex2
    refine J_istore_n (i := 2) (lv' := [(2, .int x2), (0, .ref 59), (3, .int a3)]) dX12_count_134 rfl (by decide) rfl ?_
    obtain ⟨x3, ex3⟩ : ∃ y : Int32, y = a3 + 1 := ⟨_, rfl⟩
    replace h := h x3 ex3
    refine J_iinc (i := 3) (kk := 2) (v := x3) (lv' := [(3, .int x3), (2, .int x2), (0, .ref 59)]) dX12_count_135 rfl (by rw [ex3]; rfl) (by decide) rfl ?_
    refine J_goto (tgt := 119) dX12_count_138 (by decide) ?_
    refine J_sub [2, 1, 0] rfl ?_
    exact h
set_option maxHeartbeats 4000000 in
set_option maxRecDepth 100000 in
theorem w_X12_count_0 {Γ : GG} {l : Launch} {d : Nat} {Q : Option Value → St → Prop} {σ : St} (a1 : Int32) (h : (a1.toInt = 0 → Q (some (.int (rd σ 59 2))) σ) ∧ (a1.toInt = 1 → Q (some (.int (rd σ 59 6))) σ) ∧ (a1.toInt = 2 → Q (some (.int (rd σ 59 16))) σ) ∧ (a1.toInt = 3 → Q (some (.int (rd σ 59 45))) σ) ∧ (a1.toInt = 4 → Q (some (.int (rd σ 59 32))) σ) ∧ (a1.toInt = 5 → Q (some (.int (rd σ 59 1))) σ) ∧ (a1.toInt = 6 → Q (some (.int (rd σ 59 70))) σ) ∧ (a1.toInt = 7 → Q (some (.int (rd σ 59 31))) σ) ∧ (a1.toInt = 8 → Q (some (.int (rd σ 59 15))) σ) ∧ (a1.toInt = 9 → J Γ l (d + 1) mX12_count Q 119 [(0, .ref 59), (2, .int (0)), (3, .int (0))] [] σ) ∧ (a1.toInt = 10 → J Γ l (d + 1) mX12_count Q 145 [(0, .ref 59), (2, .int (0)), (3, .int (0))] [] σ) ∧ (a1.toInt = 11 → J Γ l (d + 1) mX12_count Q 172 [(0, .ref 59), (2, .int (0)), (3, .int (0))] [] σ) ∧ (a1.toInt = 12 → J Γ l (d + 1) mX12_count Q 199 [(0, .ref 59), (2, .int (0)), (3, .int (0))] [] σ) ∧ (a1.toInt = 13 → J Γ l (d + 1) mX12_count Q 226 [(0, .ref 59), (2, .int (0)), (3, .int (0))] [] σ) ∧ (¬ a1.toInt = 0 → ¬ a1.toInt = 1 → ¬ a1.toInt = 2 → ¬ a1.toInt = 3 → ¬ a1.toInt = 4 → ¬ a1.toInt = 5 → ¬ a1.toInt = 6 → ¬ a1.toInt = 7 → ¬ a1.toInt = 8 → ¬ a1.toInt = 9 → ¬ a1.toInt = 10 → ¬ a1.toInt = 11 → ¬ a1.toInt = 12 → ¬ a1.toInt = 13 → Q (some (.int ((-1)))) σ)) : J Γ l (d + 1) mX12_count Q 0 [(0, .ref 59), (1, .int a1)] [] σ := by
  refine J_iconst (v := 0) dX12_count_0 (by decide) ?_
  refine J_istore_n (i := 2) (lv' := [(2, .int (0)), (0, .ref 59), (1, .int a1)]) dX12_count_1 rfl (by decide) rfl ?_
  refine J_iload_n (i := 1) (kk := 2) dX12_count_2 rfl rfl ?_
  by_cases hc : a1.toInt = 0
  · replace h := h.1 hc
    refine J_tableIn 72 dX12_count_3 (by omega) (by omega) (by rw [hc]; rfl) (by decide) ?_
    refine J_aload_n (i := 0) (kk := 1) dX12_count_72 rfl rfl ?_
    refine J_getI (q := 59) (ci := 12) (kf := 2) kfX12_203 uxX12 rfl (by decide) rfl (by decide) rfl dX12_count_73 ?_
    exact J_iret rfl dX12_count_76 h
  have hn0 := hc
  by_cases hc : a1.toInt = 1
  · replace h := h.2.1 hc
    refine J_tableIn 77 dX12_count_3 (by omega) (by omega) (by rw [hc]; rfl) (by decide) ?_
    refine J_aload_n (i := 0) (kk := 1) dX12_count_77 rfl rfl ?_
    refine J_getI (q := 59) (ci := 12) (kf := 6) kfX12_206 uxX12 rfl (by decide) rfl (by decide) rfl dX12_count_78 ?_
    exact J_iret rfl dX12_count_81 h
  have hn1 := hc
  by_cases hc : a1.toInt = 2
  · replace h := h.2.2.1 hc
    refine J_tableIn 82 dX12_count_3 (by omega) (by omega) (by rw [hc]; rfl) (by decide) ?_
    refine J_aload_n (i := 0) (kk := 1) dX12_count_82 rfl rfl ?_
    refine J_getI (q := 59) (ci := 12) (kf := 16) kfX12_227 uxX12 rfl (by decide) rfl (by decide) rfl dX12_count_83 ?_
    exact J_iret rfl dX12_count_86 h
  have hn2 := hc
  by_cases hc : a1.toInt = 3
  · replace h := h.2.2.2.1 hc
    refine J_tableIn 87 dX12_count_3 (by omega) (by omega) (by rw [hc]; rfl) (by decide) ?_
    refine J_aload_n (i := 0) (kk := 1) dX12_count_87 rfl rfl ?_
    refine J_getI (q := 59) (ci := 12) (kf := 45) kfX12_337 uxX12 rfl (by decide) rfl (by decide) rfl dX12_count_88 ?_
    exact J_iret rfl dX12_count_91 h
  have hn3 := hc
  by_cases hc : a1.toInt = 4
  · replace h := h.2.2.2.2.1 hc
    refine J_tableIn 92 dX12_count_3 (by omega) (by omega) (by rw [hc]; rfl) (by decide) ?_
    refine J_aload_n (i := 0) (kk := 1) dX12_count_92 rfl rfl ?_
    refine J_getI (q := 59) (ci := 12) (kf := 32) kfX12_305 uxX12 rfl (by decide) rfl (by decide) rfl dX12_count_93 ?_
    exact J_iret rfl dX12_count_96 h
  have hn4 := hc
  by_cases hc : a1.toInt = 5
  · replace h := h.2.2.2.2.2.1 hc
    refine J_tableIn 97 dX12_count_3 (by omega) (by omega) (by rw [hc]; rfl) (by decide) ?_
    refine J_aload_n (i := 0) (kk := 1) dX12_count_97 rfl rfl ?_
    refine J_getI (q := 59) (ci := 12) (kf := 1) kfX12_200 uxX12 rfl (by decide) rfl (by decide) rfl dX12_count_98 ?_
    exact J_iret rfl dX12_count_101 h
  have hn5 := hc
  by_cases hc : a1.toInt = 6
  · replace h := h.2.2.2.2.2.2.1 hc
    refine J_tableIn 102 dX12_count_3 (by omega) (by omega) (by rw [hc]; rfl) (by decide) ?_
    refine J_aload_n (i := 0) (kk := 1) dX12_count_102 rfl rfl ?_
    refine J_getI (q := 59) (ci := 12) (kf := 70) kfX12_403 uxX12 rfl (by decide) rfl (by decide) rfl dX12_count_103 ?_
    exact J_iret rfl dX12_count_106 h
  have hn6 := hc
  by_cases hc : a1.toInt = 7
  · replace h := h.2.2.2.2.2.2.2.1 hc
    refine J_tableIn 107 dX12_count_3 (by omega) (by omega) (by rw [hc]; rfl) (by decide) ?_
    refine J_aload_n (i := 0) (kk := 1) dX12_count_107 rfl rfl ?_
    refine J_getI (q := 59) (ci := 12) (kf := 31) kfX12_252 uxX12 rfl (by decide) rfl (by decide) rfl dX12_count_108 ?_
    exact J_iret rfl dX12_count_111 h
  have hn7 := hc
  by_cases hc : a1.toInt = 8
  · replace h := h.2.2.2.2.2.2.2.2.1 hc
    refine J_tableIn 112 dX12_count_3 (by omega) (by omega) (by rw [hc]; rfl) (by decide) ?_
    refine J_aload_n (i := 0) (kk := 1) dX12_count_112 rfl rfl ?_
    refine J_getI (q := 59) (ci := 12) (kf := 15) kfX12_238 uxX12 rfl (by decide) rfl (by decide) rfl dX12_count_113 ?_
    exact J_iret rfl dX12_count_116 h
  have hn8 := hc
  by_cases hc : a1.toInt = 9
  · replace h := h.2.2.2.2.2.2.2.2.2.1 hc
    refine J_tableIn 117 dX12_count_3 (by omega) (by omega) (by rw [hc]; rfl) (by decide) ?_
    refine J_iconst (v := 0) dX12_count_117 (by decide) ?_
    refine J_istore_n (i := 3) (lv' := [(3, .int (0)), (2, .int (0)), (0, .ref 59), (1, .int a1)]) dX12_count_118 rfl (by decide) rfl ?_
    refine J_sub [2, 1, 0] rfl ?_
    exact h
  have hn9 := hc
  by_cases hc : a1.toInt = 10
  · replace h := h.2.2.2.2.2.2.2.2.2.2.1 hc
    refine J_tableIn 143 dX12_count_3 (by omega) (by omega) (by rw [hc]; rfl) (by decide) ?_
    refine J_iconst (v := 0) dX12_count_143 (by decide) ?_
    refine J_istore_n (i := 3) (lv' := [(3, .int (0)), (2, .int (0)), (0, .ref 59), (1, .int a1)]) dX12_count_144 rfl (by decide) rfl ?_
    refine J_sub [2, 1, 0] rfl ?_
    exact h
  have hn10 := hc
  by_cases hc : a1.toInt = 11
  · replace h := h.2.2.2.2.2.2.2.2.2.2.2.1 hc
    refine J_tableIn 170 dX12_count_3 (by omega) (by omega) (by rw [hc]; rfl) (by decide) ?_
    refine J_iconst (v := 0) dX12_count_170 (by decide) ?_
    refine J_istore_n (i := 3) (lv' := [(3, .int (0)), (2, .int (0)), (0, .ref 59), (1, .int a1)]) dX12_count_171 rfl (by decide) rfl ?_
    refine J_sub [2, 1, 0] rfl ?_
    exact h
  have hn11 := hc
  by_cases hc : a1.toInt = 12
  · replace h := h.2.2.2.2.2.2.2.2.2.2.2.2.1 hc
    refine J_tableIn 197 dX12_count_3 (by omega) (by omega) (by rw [hc]; rfl) (by decide) ?_
    refine J_iconst (v := 0) dX12_count_197 (by decide) ?_
    refine J_istore_n (i := 3) (lv' := [(3, .int (0)), (2, .int (0)), (0, .ref 59), (1, .int a1)]) dX12_count_198 rfl (by decide) rfl ?_
    refine J_sub [2, 1, 0] rfl ?_
    exact h
  have hn12 := hc
  by_cases hc : a1.toInt = 13
  · replace h := h.2.2.2.2.2.2.2.2.2.2.2.2.2.1 hc
    refine J_tableIn 224 dX12_count_3 (by omega) (by omega) (by rw [hc]; rfl) (by decide) ?_
    refine J_iconst (v := 0) dX12_count_224 (by decide) ?_
    refine J_istore_n (i := 3) (lv' := [(3, .int (0)), (2, .int (0)), (0, .ref 59), (1, .int a1)]) dX12_count_225 rfl (by decide) rfl ?_
    refine J_sub [2, 1, 0] rfl ?_
    exact h
  have hn13 := hc
  replace h := h.2.2.2.2.2.2.2.2.2.2.2.2.2.2 hn0 hn1 hn2 hn3 hn4 hn5 hn6 hn7 hn8 hn9 hn10 hn11 hn12 hn13
  refine J_tableOut 258 dX12_count_3 (by omega) (by decide) ?_
  refine J_iconst (v := (-1)) dX12_count_258 (by decide) ?_
  exact J_iret rfl dX12_count_259 h
theorem M_X12_count {Γ : GG} {l : Launch} {d : Nat} {Q : Option Value → St → Prop} {σ : St} (a1 : Int32) (k : J Γ l (d + 1) mX12_count Q 0 [(0, .ref 59), (1, .int a1)] [] σ) : Meth Γ l (d + 1) mX12_count [.ref 59, .int a1] σ Q := Meth_of_J (by decide +kernel) (fun _ => Nat.le_of_ble_eq_true rfl) (fun _ => rfl) k

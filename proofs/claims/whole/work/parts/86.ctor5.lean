theorem C_0 {Γ : GG} {l : Launch} {z d : Nat} {w : WK} (hw : ∀ q, q < 372 → 0 ≤ off q → off q < 313 → w (off q) = ce Γ st0 q) : CtorG Γ l z (d + 3) 312 16829 mX11_init [.ref 0] 1 (wk Γ 0 11 [3, 6, 13, 19, 25, 28, 35, 36, 46, 51, 57, 59, 60, 0] 0 w) 313 w := by
  refine CtorG_of_JK (lv := [(0, .ref 0)]) (by decide) (fun ad => Nat.le_of_ble_eq_true rfl) (fun ad => rfl) ?_
  refine K_aload_n (kk := 0) dX11_init_0 rfl rfl ?_
  refine K_objInit wobX11 wObjI wObjC dX11_init_1 ?_
  refine K_aload_n (kk := 0) dX11_init_4 rfl rfl ?_
  refine K_new (q := 1) (ci := 3) (fk := [4, 5, 0]) (c' := 1) (s' := 3) uxX3 tyX3_ok wclX11_7 winX3 winiX3 rfl (dfl_of rfl) rfl rfl (Nat.le_of_ble_eq_true rfl) (Nat.le_of_ble_eq_true rfl) rfl dX11_init_5 ?_
  refine K_dup dX11_init_8 rfl ?_
  refine K_callIN (b := 1) (n2 := 4) (c' := 3) (s' := 3003) [] [.ref 1, .ref 0] calX3_init rfl rfl wimX3 wilX11_9 (C_1 (d := d + 1) (fun q h1 h2 h3 => (put1_ne (by rw [show off 0 = 0 from rfl]; omega)).trans ((hw q h1 (by omega) (by omega))))) rfl rfl (by decide) rfl rfl (Nat.le_of_ble_eq_true rfl) (Nat.le_of_ble_eq_true rfl) dX11_init_9 ?_
  refine K_putR (p := 0) (ci := 11) (kf := 0) (f := 3) rfl kfX11_10 uxX11 tyX11_ok nmX11 rfl (by decide) rfl (tyX11_ok 0 (by decide)) rfl rfl rfl rfl (by decide) dX11_init_12 ?_
  refine K_aload_n (kk := 0) dX11_init_15 rfl rfl ?_
  refine K_new (q := 4) (ci := 9) (fk := [7, 9, 10, 11, 12]) (c' := 4) (s' := 3008) uxX9 tyX9_ok wclX11_16 winX9 winiX9 rfl (dfl_of rfl) rfl rfl (Nat.le_of_ble_eq_true rfl) (Nat.le_of_ble_eq_true rfl) rfl dX11_init_16 ?_
  refine K_dup dX11_init_19 rfl ?_
  refine K_callI (b := 4) (n2 := 35) (c' := 34) (s' := 3310) [] [.ref 4, .ref 0] calX9_init rfl rfl wimX9 wilX11_18 (C_4 (d := d) (fun q h1 h2 h3 => (put1_ne (by rw [show off 0 = 0 from rfl]; omega)).trans ((hw q h1 (by omega) (by omega))))) rfl rfl (by decide) rfl rfl (Nat.le_of_ble_eq_true rfl) (Nat.le_of_ble_eq_true rfl) dX11_init_20 ?_
  refine K_putR (p := 0) (ci := 11) (kf := 1) (f := 6) rfl kfX11_19 uxX11 tyX11_ok nmX11 rfl (by decide) rfl (tyX11_ok 1 (by decide)) rfl rfl rfl rfl (by decide) dX11_init_23 ?_
  refine K_aload_n (kk := 0) dX11_init_26 rfl rfl ?_
  refine K_new (q := 11) (ci := 5) (fk := [14, 15, 16, 17, 18, 0]) (c' := 35) (s' := 3316) uxX5 tyX5_ok wclX11_23 winX5 winiX5 rfl (dfl_of rfl) rfl rfl (Nat.le_of_ble_eq_true rfl) (Nat.le_of_ble_eq_true rfl) rfl dX11_init_27 ?_
  refine K_dup dX11_init_30 rfl ?_
  refine K_callIN (b := 11) (n2 := 41) (c' := 40) (s' := 3366) [] [.ref 11, .ref 0] calX5_init rfl rfl wimX5 wilX11_25 (C_11 (d := d + 1) (fun q h1 h2 h3 => (put1_ne (by rw [show off 0 = 0 from rfl]; omega)).trans ((hw q h1 (by omega) (by omega))))) rfl rfl (by decide) rfl rfl (Nat.le_of_ble_eq_true rfl) (Nat.le_of_ble_eq_true rfl) dX11_init_31 ?_
  refine K_putR (p := 0) (ci := 11) (kf := 2) (f := 13) rfl kfX11_26 uxX11 tyX11_ok nmX11 rfl (by decide) rfl (tyX11_ok 2 (by decide)) rfl rfl rfl rfl (by decide) dX11_init_34 ?_
  refine K_aload_n (kk := 0) dX11_init_37 rfl rfl ?_
  refine K_new (q := 17) (ci := 0) (fk := [20, 0, 21, 0, 22, 23, 24, 0]) (c' := 41) (s' := 3374) uxX0 tyX0_ok wclX11_30 winX0 winiX0 rfl (dfl_of rfl) rfl rfl (Nat.le_of_ble_eq_true rfl) (Nat.le_of_ble_eq_true rfl) rfl dX11_init_38 ?_
  refine K_dup dX11_init_41 rfl ?_
  refine K_callIN (b := 17) (n2 := 247) (c' := 246) (s' := 7774) [] [.ref 17, .ref 0] calX0_init rfl rfl wimX0 wilX11_32 (C_17 (d := d + 1) (fun q h1 h2 h3 => (put1_ne (by rw [show off 0 = 0 from rfl]; omega)).trans ((hw q h1 (by omega) (by omega))))) rfl rfl (by decide) rfl rfl (Nat.le_of_ble_eq_true rfl) (Nat.le_of_ble_eq_true rfl) dX11_init_42 ?_
  refine K_putR (p := 0) (ci := 11) (kf := 3) (f := 19) rfl kfX11_33 uxX11 tyX11_ok nmX11 rfl (by decide) rfl (tyX11_ok 3 (by decide)) rfl rfl rfl rfl (by decide) dX11_init_45 ?_
  refine K_aload_n (kk := 0) dX11_init_48 rfl rfl ?_
  refine K_new (q := 23) (ci := 10) (fk := [26, 0, 0, 1, 0]) (c' := 247) (s' := 7779) uxX10 tyX10_ok wclX11_37 winX10 winiX10 rfl (dfl_of rfl) rfl rfl (Nat.le_of_ble_eq_true rfl) (Nat.le_of_ble_eq_true rfl) rfl dX11_init_49 ?_
  refine K_dup dX11_init_52 rfl ?_
  refine K_callIN (b := 23) (n2 := 250) (c' := 249) (s' := 7939) [] [.ref 23, .ref 0] calX10_init rfl rfl wimX10 wilX11_39 (C_23 (d := d + 1) (fun q h1 h2 h3 => (put1_ne (by rw [show off 0 = 0 from rfl]; omega)).trans ((hw q h1 (by omega) (by omega))))) rfl rfl (by decide) rfl rfl (Nat.le_of_ble_eq_true rfl) (Nat.le_of_ble_eq_true rfl) dX11_init_53 ?_
  refine K_putR (p := 0) (ci := 11) (kf := 4) (f := 25) rfl kfX11_40 uxX11 tyX11_ok nmX11 rfl (by decide) rfl (tyX11_ok 4 (by decide)) rfl rfl rfl rfl (by decide) dX11_init_56 ?_
  refine K_aload_n (kk := 0) dX11_init_59 rfl rfl ?_
  refine K_new (q := 26) (ci := 6) (fk := [29, 30, 31, 32, 33, 0, 34, 0]) (c' := 250) (s' := 7947) uxX6 tyX6_ok wclX11_44 winX6 winiX6 rfl (dfl_of rfl) rfl rfl (Nat.le_of_ble_eq_true rfl) (Nat.le_of_ble_eq_true rfl) rfl dX11_init_60 ?_
  refine K_dup dX11_init_63 rfl ?_
  refine K_callIN (b := 26) (n2 := 273) (c' := 272) (s' := 10763) [] [.ref 26, .ref 0] calX6_init rfl rfl wimX6 wilX11_46 (C_26 (d := d + 1) (fun q h1 h2 h3 => (put1_ne (by rw [show off 0 = 0 from rfl]; omega)).trans ((hw q h1 (by omega) (by omega))))) rfl rfl (by decide) rfl rfl (Nat.le_of_ble_eq_true rfl) (Nat.le_of_ble_eq_true rfl) dX11_init_64 ?_
  refine K_putR (p := 0) (ci := 11) (kf := 5) (f := 28) rfl kfX11_47 uxX11 tyX11_ok nmX11 rfl (by decide) rfl (tyX11_ok 5 (by decide)) rfl rfl rfl rfl (by decide) dX11_init_67 ?_
  refine K_aload_n (kk := 0) dX11_init_70 rfl rfl ?_
  refine K_new (q := 33) (ci := 4) (fk := [0, 0, 0, 0, 0, 0, 0, 0]) (c' := 273) (s' := 10771) uxX4 tyX4_ok wclX11_51 winX4 winiX4 rfl (dfl_of rfl) rfl rfl (Nat.le_of_ble_eq_true rfl) (Nat.le_of_ble_eq_true rfl) rfl dX11_init_71 ?_
  refine K_dup dX11_init_74 rfl ?_
  refine K_callIN (b := 33) (n2 := 274) (c' := 273) (s' := 10771) [] [.ref 33, .ref 0] calX4_init rfl rfl wimX4 wilX11_53 (C_33 (d := d + 1) (fun q h1 h2 h3 => (put1_ne (by rw [show off 0 = 0 from rfl]; omega)).trans ((hw q h1 (by omega) (by omega))))) rfl rfl (by decide) rfl rfl (Nat.le_of_ble_eq_true rfl) (Nat.le_of_ble_eq_true rfl) dX11_init_75 ?_
  refine K_putR (p := 0) (ci := 11) (kf := 6) (f := 35) rfl kfX11_54 uxX11 tyX11_ok nmX11 rfl (by decide) rfl (tyX11_ok 6 (by decide)) rfl rfl rfl rfl (by decide) dX11_init_78 ?_
  refine K_aload_n (kk := 0) dX11_init_81 rfl rfl ?_
  refine K_new (q := 34) (ci := 8) (fk := [37, 38, 39, 40, 41, 42, 43, 0, 44, 0, 45]) (c' := 274) (s' := 10782) uxX8 tyX8_ok wclX11_58 winX8 winiX8 rfl (dfl_of rfl) rfl rfl (Nat.le_of_ble_eq_true rfl) (Nat.le_of_ble_eq_true rfl) rfl dX11_init_82 ?_
  refine K_dup dX11_init_85 rfl ?_
  refine K_callIN (b := 34) (n2 := 284) (c' := 283) (s' := 16582) [] [.ref 34, .ref 0] calX8_init rfl rfl wimX8 wilX11_60 (C_34 (d := d + 1) (fun q h1 h2 h3 => (put1_ne (by rw [show off 0 = 0 from rfl]; omega)).trans ((hw q h1 (by omega) (by omega))))) rfl rfl (by decide) rfl rfl (Nat.le_of_ble_eq_true rfl) (Nat.le_of_ble_eq_true rfl) dX11_init_86 ?_
  refine K_putR (p := 0) (ci := 11) (kf := 7) (f := 36) rfl kfX11_61 uxX11 tyX11_ok nmX11 rfl (by decide) rfl (tyX11_ok 7 (by decide)) rfl rfl rfl rfl (by decide) dX11_init_89 ?_
  refine K_aload_n (kk := 0) dX11_init_92 rfl rfl ?_
  refine K_new (q := 44) (ci := 2) (fk := [47, 48, 49, 50, 0, 0, 0]) (c' := 284) (s' := 16589) uxX2 tyX2_ok wclX11_65 winX2 winiX2 rfl (dfl_of rfl) rfl rfl (Nat.le_of_ble_eq_true rfl) (Nat.le_of_ble_eq_true rfl) rfl dX11_init_93 ?_
  refine K_dup dX11_init_96 rfl ?_
  refine K_callIN (b := 44) (n2 := 303) (c' := 302) (s' := 16691) [] [.ref 44, .ref 0] calX2_init rfl rfl wimX2 wilX11_67 (C_44 (d := d + 1) (fun q h1 h2 h3 => (put1_ne (by rw [show off 0 = 0 from rfl]; omega)).trans ((hw q h1 (by omega) (by omega))))) rfl rfl (by decide) rfl rfl (Nat.le_of_ble_eq_true rfl) (Nat.le_of_ble_eq_true rfl) dX11_init_97 ?_
  refine K_putR (p := 0) (ci := 11) (kf := 8) (f := 46) rfl kfX11_68 uxX11 tyX11_ok nmX11 rfl (by decide) rfl (tyX11_ok 8 (by decide)) rfl rfl rfl rfl (by decide) dX11_init_100 ?_
  refine K_aload_n (kk := 0) dX11_init_103 rfl rfl ?_
  refine K_new (q := 49) (ci := 1) (fk := [52, 53, 54, 55, 56, 0]) (c' := 303) (s' := 16697) uxX1 tyX1_ok wclX11_72 winX1 winiX1 rfl (dfl_of rfl) rfl rfl (Nat.le_of_ble_eq_true rfl) (Nat.le_of_ble_eq_true rfl) rfl dX11_init_104 ?_
  refine K_dup dX11_init_107 rfl ?_
  refine K_callIN (b := 49) (n2 := 309) (c' := 308) (s' := 16797) [] [.ref 49, .ref 0] calX1_init rfl rfl wimX1 wilX11_74 (C_49 (d := d + 1) (fun q h1 h2 h3 => (put1_ne (by rw [show off 0 = 0 from rfl]; omega)).trans ((hw q h1 (by omega) (by omega))))) rfl rfl (by decide) rfl rfl (Nat.le_of_ble_eq_true rfl) (Nat.le_of_ble_eq_true rfl) dX11_init_108 ?_
  refine K_putR (p := 0) (ci := 11) (kf := 9) (f := 51) rfl kfX11_75 uxX11 tyX11_ok nmX11 rfl (by decide) rfl (tyX11_ok 9 (by decide)) rfl rfl rfl rfl (by decide) dX11_init_111 ?_
  refine K_aload_n (kk := 0) dX11_init_114 rfl rfl ?_
  refine K_new (q := 55) (ci := 7) (fk := [58, 0]) (c' := 309) (s' := 16799) uxX7 tyX7_ok wclX11_79 winX7 winiX7 rfl (dfl_of rfl) rfl rfl (Nat.le_of_ble_eq_true rfl) (Nat.le_of_ble_eq_true rfl) rfl dX11_init_115 ?_
  refine K_dup dX11_init_118 rfl ?_
  refine K_bipush (v := 10) dX11_init_119 rfl ?_
  refine K_callI (b := 55) (n2 := 311) (c' := 310) (s' := 16809) [.int 10] [.ref 55, .ref 0] calX7_init rfl rfl wimX7 wilX11_81 (C_55 (d := d + 1) (fun q h1 h2 h3 => (put1_ne (by rw [show off 0 = 0 from rfl]; omega)).trans ((hw q h1 (by omega) (by omega))))) rfl rfl (by decide) rfl rfl (Nat.le_of_ble_eq_true rfl) (Nat.le_of_ble_eq_true rfl) dX11_init_121 ?_
  refine K_putR (p := 0) (ci := 11) (kf := 10) (f := 57) rfl kfX11_84 uxX11 tyX11_ok nmX11 rfl (by decide) rfl (tyX11_ok 10 (by decide)) rfl rfl rfl rfl (by decide) dX11_init_124 ?_
  refine K_aload_n (kk := 0) dX11_init_127 rfl rfl ?_
  refine K_bipush (v := 10) dX11_init_128 rfl ?_
  refine K_newI (q := 57) (N := 10) (c' := 311) (s' := 16819) wArrI (by decide) rfl (by decide) rfl rfl (Nat.le_of_ble_eq_true rfl) (Nat.le_of_ble_eq_true rfl) rfl ((((put1_ne (by decide)).trans (hw 57 (by decide) (by decide) (by decide)))).trans (ce_int (r := 0) rfl (by decide))) (fun _ => rfl) dX11_init_130 ?_
  refine K_putR (p := 0) (ci := 11) (kf := 11) (f := 59) rfl kfX11_88 uxX11 tyX11_ok nmX11 rfl (by decide) rfl (tyX11_ok 11 (by decide)) rfl rfl rfl rfl (by decide) dX11_init_132 ?_
  refine K_aload_n (kk := 0) dX11_init_135 rfl rfl ?_
  refine K_bipush (v := 10) dX11_init_136 rfl ?_
  refine K_newI (q := 58) (N := 10) (c' := 312) (s' := 16829) wArrI (by decide) rfl (by decide) rfl rfl (Nat.le_of_ble_eq_true rfl) (Nat.le_of_ble_eq_true rfl) rfl ((((put1_ne (by decide)).trans (hw 58 (by decide) (by decide) (by decide)))).trans (ce_int (r := 0) rfl (by decide))) (fun _ => rfl) dX11_init_138 ?_
  refine K_putR (p := 0) (ci := 11) (kf := 12) (f := 60) rfl kfX11_92 uxX11 tyX11_ok nmX11 rfl (by decide) rfl (tyX11_ok 12 (by decide)) rfl rfl rfl rfl (by decide) dX11_init_140 ?_
  refine K_aload_n (kk := 0) dX11_init_143 rfl rfl ?_
  refine K_iconst (v := 0) dX11_init_144 rfl ?_
  refine K_putZ (p := 0) (ci := 11) (kf := 13) rfl kfX11_95 uxX11 tyX11_ok nmX11 rfl (by decide) rfl (tyX11_ok 13 (by decide)) rfl rfl rfl rfl (by decide) dX11_init_145 ?_
  refine K_skip (kf := 13) rfl rfl ?_
  exact K_ret rfl rfl (fun i _ => wk_done (by decide) rfl (hw 0 (by decide) (by decide) (by decide)) i) rfl rfl dX11_init_148
theorem C_59 {Γ : GG} {l : Launch} {z d : Nat} {w : WK} (hw : ∀ q, q < 372 → 313 ≤ off q → off q < 372 → w (off q) = ce Γ st0 q) : CtorG Γ l z (d + 1) 58 20757 mX12_init [.ref 59] 314 (wk Γ 59 12 [0, 0, 0, 62, 63, 64, 0, 65, 66, 67, 68, 69, 70, 71, 72, 0, 0, 73, 74, 75, 76, 77, 78, 79, 80, 81, 82, 83, 84, 85, 86, 0, 0, 87, 88, 89, 90, 91, 92, 0, 0, 0, 0, 0, 93, 0, 94, 95, 96, 97, 98, 99, 100, 101, 102, 103, 0, 0, 104, 105, 106, 107, 108, 109, 110, 0, 0, 111, 112, 113, 0, 114, 115, 116, 0, 117, 118, 119] 0 w) 372 w := by
  refine CtorG_of_JK (lv := [(0, .ref 59)]) (by decide) (fun ad => Nat.le_of_ble_eq_true rfl) (fun ad => rfl) ?_
  refine K_aload_n (kk := 0) dX12_init_0 rfl rfl ?_
  refine K_objInit wobX12 wObjI wObjC dX12_init_1 ?_
  refine K_aload_n (kk := 0) dX12_init_4 rfl rfl ?_
  refine K_bipush (v := 12) dX12_init_5 rfl ?_
  refine K_newI (q := 60) (N := 12) (c' := 1) (s' := 12) wArrI (by decide) rfl (by decide) rfl rfl (Nat.le_of_ble_eq_true rfl) (Nat.le_of_ble_eq_true rfl) rfl ((((put1_ne (by decide)).trans (hw 60 (by decide) (by decide) (by decide)))).trans (ce_int (r := 0) rfl (by decide))) (fun _ => rfl) dX12_init_7 ?_
  refine K_skip (kf := 0) rfl rfl ?_
  refine K_skip (kf := 1) rfl rfl ?_
  refine K_skip (kf := 2) rfl rfl ?_
  refine K_putR (p := 59) (ci := 12) (kf := 3) (f := 62) rfl kfX12_7 uxX12 tyX12_ok nmX12 rfl (by decide) rfl (tyX12_ok 3 (by decide)) rfl rfl rfl rfl (by decide) dX12_init_9 ?_
  refine K_aload_n (kk := 0) dX12_init_12 rfl rfl ?_
  refine K_bipush (v := 12) dX12_init_13 rfl ?_
  refine K_newI (q := 61) (N := 12) (c' := 2) (s' := 24) wArrI (by decide) rfl (by decide) rfl rfl (Nat.le_of_ble_eq_true rfl) (Nat.le_of_ble_eq_true rfl) rfl ((((put1_ne (by decide)).trans (hw 61 (by decide) (by decide) (by decide)))).trans (ce_int (r := 0) rfl (by decide))) (fun _ => rfl) dX12_init_15 ?_
  refine K_putR (p := 59) (ci := 12) (kf := 4) (f := 63) rfl kfX12_13 uxX12 tyX12_ok nmX12 rfl (by decide) rfl (tyX12_ok 4 (by decide)) rfl rfl rfl rfl (by decide) dX12_init_17 ?_
  refine K_aload_n (kk := 0) dX12_init_20 rfl rfl ?_
  refine K_bipush (v := 12) dX12_init_21 rfl ?_
  refine K_newI (q := 62) (N := 12) (c' := 3) (s' := 36) wArrI (by decide) rfl (by decide) rfl rfl (Nat.le_of_ble_eq_true rfl) (Nat.le_of_ble_eq_true rfl) rfl ((((put1_ne (by decide)).trans (hw 62 (by decide) (by decide) (by decide)))).trans (ce_int (r := 0) rfl (by decide))) (fun _ => rfl) dX12_init_23 ?_
  refine K_putR (p := 59) (ci := 12) (kf := 5) (f := 64) rfl kfX12_16 uxX12 tyX12_ok nmX12 rfl (by decide) rfl (tyX12_ok 5 (by decide)) rfl rfl rfl rfl (by decide) dX12_init_25 ?_
  refine K_aload_n (kk := 0) dX12_init_28 rfl rfl ?_
  refine K_bipush (v := 10) dX12_init_29 rfl ?_
  refine K_newI (q := 63) (N := 10) (c' := 4) (s' := 46) wArrI (by decide) rfl (by decide) rfl rfl (Nat.le_of_ble_eq_true rfl) (Nat.le_of_ble_eq_true rfl) rfl ((((put1_ne (by decide)).trans (hw 63 (by decide) (by decide) (by decide)))).trans (ce_int (r := 0) rfl (by decide))) (fun _ => rfl) dX12_init_31 ?_
  refine K_skip (kf := 6) rfl rfl ?_
  refine K_putR (p := 59) (ci := 12) (kf := 7) (f := 65) rfl kfX12_19 uxX12 tyX12_ok nmX12 rfl (by decide) rfl (tyX12_ok 7 (by decide)) rfl rfl rfl rfl (by decide) dX12_init_33 ?_
  refine K_aload_n (kk := 0) dX12_init_36 rfl rfl ?_
  refine K_bipush (v := 10) dX12_init_37 rfl ?_
  refine K_newI (q := 64) (N := 10) (c' := 5) (s' := 56) wArrI (by decide) rfl (by decide) rfl rfl (Nat.le_of_ble_eq_true rfl) (Nat.le_of_ble_eq_true rfl) rfl ((((put1_ne (by decide)).trans (hw 64 (by decide) (by decide) (by decide)))).trans (ce_int (r := 0) rfl (by decide))) (fun _ => rfl) dX12_init_39 ?_
  refine K_putR (p := 59) (ci := 12) (kf := 8) (f := 66) rfl kfX12_22 uxX12 tyX12_ok nmX12 rfl (by decide) rfl (tyX12_ok 8 (by decide)) rfl rfl rfl rfl (by decide) dX12_init_41 ?_
  refine K_aload_n (kk := 0) dX12_init_44 rfl rfl ?_
  refine K_bipush (v := 10) dX12_init_45 rfl ?_
  refine K_newI (q := 65) (N := 10) (c' := 6) (s' := 66) wArrI (by decide) rfl (by decide) rfl rfl (Nat.le_of_ble_eq_true rfl) (Nat.le_of_ble_eq_true rfl) rfl ((((put1_ne (by decide)).trans (hw 65 (by decide) (by decide) (by decide)))).trans (ce_int (r := 0) rfl (by decide))) (fun _ => rfl) dX12_init_47 ?_
  refine K_putR (p := 59) (ci := 12) (kf := 9) (f := 67) rfl kfX12_25 uxX12 tyX12_ok nmX12 rfl (by decide) rfl (tyX12_ok 9 (by decide)) rfl rfl rfl rfl (by decide) dX12_init_49 ?_
  refine K_aload_n (kk := 0) dX12_init_52 rfl rfl ?_
  refine K_bipush (v := 10) dX12_init_53 rfl ?_
  refine K_newI (q := 66) (N := 10) (c' := 7) (s' := 76) wArrI (by decide) rfl (by decide) rfl rfl (Nat.le_of_ble_eq_true rfl) (Nat.le_of_ble_eq_true rfl) rfl ((((put1_ne (by decide)).trans (hw 66 (by decide) (by decide) (by decide)))).trans (ce_int (r := 0) rfl (by decide))) (fun _ => rfl) dX12_init_55 ?_
  refine K_putR (p := 59) (ci := 12) (kf := 10) (f := 68) rfl kfX12_28 uxX12 tyX12_ok nmX12 rfl (by decide) rfl (tyX12_ok 10 (by decide)) rfl rfl rfl rfl (by decide) dX12_init_57 ?_
  refine K_aload_n (kk := 0) dX12_init_60 rfl rfl ?_
  refine K_bipush (v := 10) dX12_init_61 rfl ?_
  refine K_newI (q := 67) (N := 10) (c' := 8) (s' := 86) wArrI (by decide) rfl (by decide) rfl rfl (Nat.le_of_ble_eq_true rfl) (Nat.le_of_ble_eq_true rfl) rfl ((((put1_ne (by decide)).trans (hw 67 (by decide) (by decide) (by decide)))).trans (ce_int (r := 0) rfl (by decide))) (fun _ => rfl) dX12_init_63 ?_
  refine K_putR (p := 59) (ci := 12) (kf := 11) (f := 69) rfl kfX12_31 uxX12 tyX12_ok nmX12 rfl (by decide) rfl (tyX12_ok 11 (by decide)) rfl rfl rfl rfl (by decide) dX12_init_65 ?_
  refine K_aload_n (kk := 0) dX12_init_68 rfl rfl ?_
  refine K_sipush (v := 1500) dX12_init_69 rfl ?_
  refine K_newI (q := 68) (N := 1500) (c' := 9) (s' := 1586) wArrI (by decide) rfl (by decide) rfl rfl (Nat.le_of_ble_eq_true rfl) (Nat.le_of_ble_eq_true rfl) rfl ((((put1_ne (by decide)).trans (hw 68 (by decide) (by decide) (by decide)))).trans (ce_int (r := 0) rfl (by decide))) (fun _ => rfl) dX12_init_72 ?_
  refine K_putR (p := 59) (ci := 12) (kf := 12) (f := 70) rfl kfX12_34 uxX12 tyX12_ok nmX12 rfl (by decide) rfl (tyX12_ok 12 (by decide)) rfl rfl rfl rfl (by decide) dX12_init_74 ?_
  refine K_aload_n (kk := 0) dX12_init_77 rfl rfl ?_
  refine K_bipush (v := 120) dX12_init_78 rfl ?_
  refine K_newI (q := 69) (N := 120) (c' := 10) (s' := 1706) wArrI (by decide) rfl (by decide) rfl rfl (Nat.le_of_ble_eq_true rfl) (Nat.le_of_ble_eq_true rfl) rfl ((((put1_ne (by decide)).trans (hw 69 (by decide) (by decide) (by decide)))).trans (ce_int (r := 0) rfl (by decide))) (fun _ => rfl) dX12_init_80 ?_
  refine K_putR (p := 59) (ci := 12) (kf := 13) (f := 71) rfl kfX12_37 uxX12 tyX12_ok nmX12 rfl (by decide) rfl (tyX12_ok 13 (by decide)) rfl rfl rfl rfl (by decide) dX12_init_82 ?_
  refine K_aload_n (kk := 0) dX12_init_85 rfl rfl ?_
  refine K_bipush (v := 120) dX12_init_86 rfl ?_
  refine K_newI (q := 70) (N := 120) (c' := 11) (s' := 1826) wArrI (by decide) rfl (by decide) rfl rfl (Nat.le_of_ble_eq_true rfl) (Nat.le_of_ble_eq_true rfl) rfl ((((put1_ne (by decide)).trans (hw 70 (by decide) (by decide) (by decide)))).trans (ce_int (r := 0) rfl (by decide))) (fun _ => rfl) dX12_init_88 ?_
  refine K_putR (p := 59) (ci := 12) (kf := 14) (f := 72) rfl kfX12_40 uxX12 tyX12_ok nmX12 rfl (by decide) rfl (tyX12_ok 14 (by decide)) rfl rfl rfl rfl (by decide) dX12_init_90 ?_
  refine K_aload_n (kk := 0) dX12_init_93 rfl rfl ?_
  refine K_sipush (v := 200) dX12_init_94 rfl ?_
  refine K_newI (q := 71) (N := 200) (c' := 12) (s' := 2026) wArrI (by decide) rfl (by decide) rfl rfl (Nat.le_of_ble_eq_true rfl) (Nat.le_of_ble_eq_true rfl) rfl ((((put1_ne (by decide)).trans (hw 71 (by decide) (by decide) (by decide)))).trans (ce_int (r := 0) rfl (by decide))) (fun _ => rfl) dX12_init_97 ?_
  refine K_skip (kf := 15) rfl rfl ?_
  refine K_skip (kf := 16) rfl rfl ?_
  refine K_putR (p := 59) (ci := 12) (kf := 17) (f := 73) rfl kfX12_43 uxX12 tyX12_ok nmX12 rfl (by decide) rfl (tyX12_ok 17 (by decide)) rfl rfl rfl rfl (by decide) dX12_init_99 ?_
  refine K_aload_n (kk := 0) dX12_init_102 rfl rfl ?_
  refine K_sipush (v := 200) dX12_init_103 rfl ?_
  refine K_newI (q := 72) (N := 200) (c' := 13) (s' := 2226) wArrI (by decide) rfl (by decide) rfl rfl (Nat.le_of_ble_eq_true rfl) (Nat.le_of_ble_eq_true rfl) rfl ((((put1_ne (by decide)).trans (hw 72 (by decide) (by decide) (by decide)))).trans (ce_int (r := 0) rfl (by decide))) (fun _ => rfl) dX12_init_106 ?_
  refine K_putR (p := 59) (ci := 12) (kf := 18) (f := 74) rfl kfX12_46 uxX12 tyX12_ok nmX12 rfl (by decide) rfl (tyX12_ok 18 (by decide)) rfl rfl rfl rfl (by decide) dX12_init_108 ?_
  refine K_aload_n (kk := 0) dX12_init_111 rfl rfl ?_
  refine K_sipush (v := 200) dX12_init_112 rfl ?_
  refine K_newI (q := 73) (N := 200) (c' := 14) (s' := 2426) wArrI (by decide) rfl (by decide) rfl rfl (Nat.le_of_ble_eq_true rfl) (Nat.le_of_ble_eq_true rfl) rfl ((((put1_ne (by decide)).trans (hw 73 (by decide) (by decide) (by decide)))).trans (ce_int (r := 0) rfl (by decide))) (fun _ => rfl) dX12_init_115 ?_
  refine K_putR (p := 59) (ci := 12) (kf := 19) (f := 75) rfl kfX12_49 uxX12 tyX12_ok nmX12 rfl (by decide) rfl (tyX12_ok 19 (by decide)) rfl rfl rfl rfl (by decide) dX12_init_117 ?_
  refine K_aload_n (kk := 0) dX12_init_120 rfl rfl ?_
  refine K_sipush (v := 200) dX12_init_121 rfl ?_
  refine K_newI (q := 74) (N := 200) (c' := 15) (s' := 2626) wArrI (by decide) rfl (by decide) rfl rfl (Nat.le_of_ble_eq_true rfl) (Nat.le_of_ble_eq_true rfl) rfl ((((put1_ne (by decide)).trans (hw 74 (by decide) (by decide) (by decide)))).trans (ce_int (r := 0) rfl (by decide))) (fun _ => rfl) dX12_init_124 ?_
  refine K_putR (p := 59) (ci := 12) (kf := 20) (f := 76) rfl kfX12_52 uxX12 tyX12_ok nmX12 rfl (by decide) rfl (tyX12_ok 20 (by decide)) rfl rfl rfl rfl (by decide) dX12_init_126 ?_
  refine K_aload_n (kk := 0) dX12_init_129 rfl rfl ?_
  refine K_sipush (v := 200) dX12_init_130 rfl ?_
  refine K_newI (q := 75) (N := 200) (c' := 16) (s' := 2826) wArrI (by decide) rfl (by decide) rfl rfl (Nat.le_of_ble_eq_true rfl) (Nat.le_of_ble_eq_true rfl) rfl ((((put1_ne (by decide)).trans (hw 75 (by decide) (by decide) (by decide)))).trans (ce_int (r := 0) rfl (by decide))) (fun _ => rfl) dX12_init_133 ?_
  refine K_putR (p := 59) (ci := 12) (kf := 21) (f := 77) rfl kfX12_55 uxX12 tyX12_ok nmX12 rfl (by decide) rfl (tyX12_ok 21 (by decide)) rfl rfl rfl rfl (by decide) dX12_init_135 ?_
  refine K_aload_n (kk := 0) dX12_init_138 rfl rfl ?_
  refine K_sipush (v := 200) dX12_init_139 rfl ?_
  refine K_newI (q := 76) (N := 200) (c' := 17) (s' := 3026) wArrI (by decide) rfl (by decide) rfl rfl (Nat.le_of_ble_eq_true rfl) (Nat.le_of_ble_eq_true rfl) rfl ((((put1_ne (by decide)).trans (hw 76 (by decide) (by decide) (by decide)))).trans (ce_int (r := 0) rfl (by decide))) (fun _ => rfl) dX12_init_142 ?_
  refine K_putR (p := 59) (ci := 12) (kf := 22) (f := 78) rfl kfX12_58 uxX12 tyX12_ok nmX12 rfl (by decide) rfl (tyX12_ok 22 (by decide)) rfl rfl rfl rfl (by decide) dX12_init_144 ?_
  refine K_aload_n (kk := 0) dX12_init_147 rfl rfl ?_
  refine K_sipush (v := 200) dX12_init_148 rfl ?_
  refine K_newI (q := 77) (N := 200) (c' := 18) (s' := 3226) wArrI (by decide) rfl (by decide) rfl rfl (Nat.le_of_ble_eq_true rfl) (Nat.le_of_ble_eq_true rfl) rfl ((((put1_ne (by decide)).trans (hw 77 (by decide) (by decide) (by decide)))).trans (ce_int (r := 0) rfl (by decide))) (fun _ => rfl) dX12_init_151 ?_
  refine K_putR (p := 59) (ci := 12) (kf := 23) (f := 79) rfl kfX12_61 uxX12 tyX12_ok nmX12 rfl (by decide) rfl (tyX12_ok 23 (by decide)) rfl rfl rfl rfl (by decide) dX12_init_153 ?_
  refine K_aload_n (kk := 0) dX12_init_156 rfl rfl ?_
  refine K_sipush (v := 200) dX12_init_157 rfl ?_
  refine K_newI (q := 78) (N := 200) (c' := 19) (s' := 3426) wArrI (by decide) rfl (by decide) rfl rfl (Nat.le_of_ble_eq_true rfl) (Nat.le_of_ble_eq_true rfl) rfl ((((put1_ne (by decide)).trans (hw 78 (by decide) (by decide) (by decide)))).trans (ce_int (r := 0) rfl (by decide))) (fun _ => rfl) dX12_init_160 ?_
  refine K_putR (p := 59) (ci := 12) (kf := 24) (f := 80) rfl kfX12_64 uxX12 tyX12_ok nmX12 rfl (by decide) rfl (tyX12_ok 24 (by decide)) rfl rfl rfl rfl (by decide) dX12_init_162 ?_
  refine K_aload_n (kk := 0) dX12_init_165 rfl rfl ?_
  refine K_sipush (v := 200) dX12_init_166 rfl ?_
  refine K_newI (q := 79) (N := 200) (c' := 20) (s' := 3626) wArrI (by decide) rfl (by decide) rfl rfl (Nat.le_of_ble_eq_true rfl) (Nat.le_of_ble_eq_true rfl) rfl ((((put1_ne (by decide)).trans (hw 79 (by decide) (by decide) (by decide)))).trans (ce_int (r := 0) rfl (by decide))) (fun _ => rfl) dX12_init_169 ?_
  refine K_putR (p := 59) (ci := 12) (kf := 25) (f := 81) rfl kfX12_67 uxX12 tyX12_ok nmX12 rfl (by decide) rfl (tyX12_ok 25 (by decide)) rfl rfl rfl rfl (by decide) dX12_init_171 ?_
  refine K_aload_n (kk := 0) dX12_init_174 rfl rfl ?_
  refine K_sipush (v := 200) dX12_init_175 rfl ?_
  refine K_newI (q := 80) (N := 200) (c' := 21) (s' := 3826) wArrI (by decide) rfl (by decide) rfl rfl (Nat.le_of_ble_eq_true rfl) (Nat.le_of_ble_eq_true rfl) rfl ((((put1_ne (by decide)).trans (hw 80 (by decide) (by decide) (by decide)))).trans (ce_int (r := 0) rfl (by decide))) (fun _ => rfl) dX12_init_178 ?_
  refine K_putR (p := 59) (ci := 12) (kf := 26) (f := 82) rfl kfX12_70 uxX12 tyX12_ok nmX12 rfl (by decide) rfl (tyX12_ok 26 (by decide)) rfl rfl rfl rfl (by decide) dX12_init_180 ?_
  refine K_aload_n (kk := 0) dX12_init_183 rfl rfl ?_
  refine K_sipush (v := 200) dX12_init_184 rfl ?_
  refine K_newI (q := 81) (N := 200) (c' := 22) (s' := 4026) wArrI (by decide) rfl (by decide) rfl rfl (Nat.le_of_ble_eq_true rfl) (Nat.le_of_ble_eq_true rfl) rfl ((((put1_ne (by decide)).trans (hw 81 (by decide) (by decide) (by decide)))).trans (ce_int (r := 0) rfl (by decide))) (fun _ => rfl) dX12_init_187 ?_
  refine K_putR (p := 59) (ci := 12) (kf := 27) (f := 83) rfl kfX12_73 uxX12 tyX12_ok nmX12 rfl (by decide) rfl (tyX12_ok 27 (by decide)) rfl rfl rfl rfl (by decide) dX12_init_189 ?_
  refine K_aload_n (kk := 0) dX12_init_192 rfl rfl ?_
  refine K_sipush (v := 200) dX12_init_193 rfl ?_
  refine K_newI (q := 82) (N := 200) (c' := 23) (s' := 4226) wArrI (by decide) rfl (by decide) rfl rfl (Nat.le_of_ble_eq_true rfl) (Nat.le_of_ble_eq_true rfl) rfl ((((put1_ne (by decide)).trans (hw 82 (by decide) (by decide) (by decide)))).trans (ce_int (r := 0) rfl (by decide))) (fun _ => rfl) dX12_init_196 ?_
  refine K_putR (p := 59) (ci := 12) (kf := 28) (f := 84) rfl kfX12_76 uxX12 tyX12_ok nmX12 rfl (by decide) rfl (tyX12_ok 28 (by decide)) rfl rfl rfl rfl (by decide) dX12_init_198 ?_
  refine K_aload_n (kk := 0) dX12_init_201 rfl rfl ?_
  refine K_sipush (v := 1500) dX12_init_202 rfl ?_
  refine K_newI (q := 83) (N := 1500) (c' := 24) (s' := 5726) wArrI (by decide) rfl (by decide) rfl rfl (Nat.le_of_ble_eq_true rfl) (Nat.le_of_ble_eq_true rfl) rfl ((((put1_ne (by decide)).trans (hw 83 (by decide) (by decide) (by decide)))).trans (ce_int (r := 0) rfl (by decide))) (fun _ => rfl) dX12_init_205 ?_
  refine K_putR (p := 59) (ci := 12) (kf := 29) (f := 85) rfl kfX12_79 uxX12 tyX12_ok nmX12 rfl (by decide) rfl (tyX12_ok 29 (by decide)) rfl rfl rfl rfl (by decide) dX12_init_207 ?_
  refine K_aload_n (kk := 0) dX12_init_210 rfl rfl ?_
  refine K_sipush (v := 160) dX12_init_211 rfl ?_
  refine K_newB (q := 84) (N := 160) (c' := 25) (s' := 5886) wArrB (by decide) rfl (by decide) rfl rfl (Nat.le_of_ble_eq_true rfl) (Nat.le_of_ble_eq_true rfl) rfl ((((put1_ne (by decide)).trans (hw 84 (by decide) (by decide) (by decide)))).trans (ce_int (r := 0) rfl (by decide))) (fun _ => rfl) dX12_init_214 ?_
  refine K_putR (p := 59) (ci := 12) (kf := 30) (f := 86) rfl kfX12_82 uxX12 tyX12_ok nmX12 rfl (by decide) rfl (tyX12_ok 30 (by decide)) rfl rfl rfl rfl (by decide) dX12_init_216 ?_
  refine K_aload_n (kk := 0) dX12_init_219 rfl rfl ?_
  refine K_bipush (v := 16) dX12_init_220 rfl ?_
  refine K_newI (q := 85) (N := 16) (c' := 26) (s' := 5902) wArrI (by decide) rfl (by decide) rfl rfl (Nat.le_of_ble_eq_true rfl) (Nat.le_of_ble_eq_true rfl) rfl ((((put1_ne (by decide)).trans (hw 85 (by decide) (by decide) (by decide)))).trans (ce_int (r := 0) rfl (by decide))) (fun _ => rfl) dX12_init_222 ?_
  refine K_skip (kf := 31) rfl rfl ?_
  refine K_skip (kf := 32) rfl rfl ?_
  refine K_putR (p := 59) (ci := 12) (kf := 33) (f := 87) rfl kfX12_86 uxX12 tyX12_ok nmX12 rfl (by decide) rfl (tyX12_ok 33 (by decide)) rfl rfl rfl rfl (by decide) dX12_init_224 ?_
  refine K_aload_n (kk := 0) dX12_init_227 rfl rfl ?_
  refine K_bipush (v := 16) dX12_init_228 rfl ?_
  refine K_newI (q := 86) (N := 16) (c' := 27) (s' := 5918) wArrI (by decide) rfl (by decide) rfl rfl (Nat.le_of_ble_eq_true rfl) (Nat.le_of_ble_eq_true rfl) rfl ((((put1_ne (by decide)).trans (hw 86 (by decide) (by decide) (by decide)))).trans (ce_int (r := 0) rfl (by decide))) (fun _ => rfl) dX12_init_230 ?_
  refine K_putR (p := 59) (ci := 12) (kf := 34) (f := 88) rfl kfX12_89 uxX12 tyX12_ok nmX12 rfl (by decide) rfl (tyX12_ok 34 (by decide)) rfl rfl rfl rfl (by decide) dX12_init_232 ?_
  refine K_aload_n (kk := 0) dX12_init_235 rfl rfl ?_
  refine K_bipush (v := 16) dX12_init_236 rfl ?_
  refine K_newI (q := 87) (N := 16) (c' := 28) (s' := 5934) wArrI (by decide) rfl (by decide) rfl rfl (Nat.le_of_ble_eq_true rfl) (Nat.le_of_ble_eq_true rfl) rfl ((((put1_ne (by decide)).trans (hw 87 (by decide) (by decide) (by decide)))).trans (ce_int (r := 0) rfl (by decide))) (fun _ => rfl) dX12_init_238 ?_
  refine K_putR (p := 59) (ci := 12) (kf := 35) (f := 89) rfl kfX12_92 uxX12 tyX12_ok nmX12 rfl (by decide) rfl (tyX12_ok 35 (by decide)) rfl rfl rfl rfl (by decide) dX12_init_240 ?_
  refine K_aload_n (kk := 0) dX12_init_243 rfl rfl ?_
  refine K_bipush (v := 17) dX12_init_244 rfl ?_
  refine K_newI (q := 88) (N := 17) (c' := 29) (s' := 5951) wArrI (by decide) rfl (by decide) rfl rfl (Nat.le_of_ble_eq_true rfl) (Nat.le_of_ble_eq_true rfl) rfl ((((put1_ne (by decide)).trans (hw 88 (by decide) (by decide) (by decide)))).trans (ce_int (r := 0) rfl (by decide))) (fun _ => rfl) dX12_init_246 ?_
  refine K_putR (p := 59) (ci := 12) (kf := 36) (f := 90) rfl kfX12_95 uxX12 tyX12_ok nmX12 rfl (by decide) rfl (tyX12_ok 36 (by decide)) rfl rfl rfl rfl (by decide) dX12_init_248 ?_
  refine K_aload_n (kk := 0) dX12_init_251 rfl rfl ?_
  refine K_sipush (v := 2890) dX12_init_252 rfl ?_
  refine K_newI (q := 89) (N := 2890) (c' := 30) (s' := 8841) wArrI (by decide) rfl (by decide) rfl rfl (Nat.le_of_ble_eq_true rfl) (Nat.le_of_ble_eq_true rfl) rfl ((((put1_ne (by decide)).trans (hw 89 (by decide) (by decide) (by decide)))).trans (ce_int (r := 0) rfl (by decide))) (fun _ => rfl) dX12_init_255 ?_
  refine K_putR (p := 59) (ci := 12) (kf := 37) (f := 91) rfl kfX12_98 uxX12 tyX12_ok nmX12 rfl (by decide) rfl (tyX12_ok 37 (by decide)) rfl rfl rfl rfl (by decide) dX12_init_257 ?_
  refine K_aload_n (kk := 0) dX12_init_260 rfl rfl ?_
  refine K_sipush (v := 2890) dX12_init_261 rfl ?_
  refine K_newI (q := 90) (N := 2890) (c' := 31) (s' := 11731) wArrI (by decide) rfl (by decide) rfl rfl (Nat.le_of_ble_eq_true rfl) (Nat.le_of_ble_eq_true rfl) rfl ((((put1_ne (by decide)).trans (hw 90 (by decide) (by decide) (by decide)))).trans (ce_int (r := 0) rfl (by decide))) (fun _ => rfl) dX12_init_264 ?_
  refine K_putR (p := 59) (ci := 12) (kf := 38) (f := 92) rfl kfX12_101 uxX12 tyX12_ok nmX12 rfl (by decide) rfl (tyX12_ok 38 (by decide)) rfl rfl rfl rfl (by decide) dX12_init_266 ?_
  refine K_aload_n (kk := 0) dX12_init_269 rfl rfl ?_
  refine K_sipush (v := 180) dX12_init_270 rfl ?_
  refine K_newI (q := 91) (N := 180) (c' := 32) (s' := 11911) wArrI (by decide) rfl (by decide) rfl rfl (Nat.le_of_ble_eq_true rfl) (Nat.le_of_ble_eq_true rfl) rfl ((((put1_ne (by decide)).trans (hw 91 (by decide) (by decide) (by decide)))).trans (ce_int (r := 0) rfl (by decide))) (fun _ => rfl) dX12_init_273 ?_
  refine K_skip (kf := 39) rfl rfl ?_
  refine K_skip (kf := 40) rfl rfl ?_
  refine K_skip (kf := 41) rfl rfl ?_
  refine K_skip (kf := 42) rfl rfl ?_
  refine K_skip (kf := 43) rfl rfl ?_
  refine K_putR (p := 59) (ci := 12) (kf := 44) (f := 93) rfl kfX12_104 uxX12 tyX12_ok nmX12 rfl (by decide) rfl (tyX12_ok 44 (by decide)) rfl rfl rfl rfl (by decide) dX12_init_275 ?_
  refine K_aload_n (kk := 0) dX12_init_278 rfl rfl ?_
  refine K_sipush (v := 600) dX12_init_279 rfl ?_
  refine K_newI (q := 92) (N := 600) (c' := 33) (s' := 12511) wArrI (by decide) rfl (by decide) rfl rfl (Nat.le_of_ble_eq_true rfl) (Nat.le_of_ble_eq_true rfl) rfl ((((put1_ne (by decide)).trans (hw 92 (by decide) (by decide) (by decide)))).trans (ce_int (r := 0) rfl (by decide))) (fun _ => rfl) dX12_init_282 ?_
  refine K_skip (kf := 45) rfl rfl ?_
  refine K_putR (p := 59) (ci := 12) (kf := 46) (f := 94) rfl kfX12_107 uxX12 tyX12_ok nmX12 rfl (by decide) rfl (tyX12_ok 46 (by decide)) rfl rfl rfl rfl (by decide) dX12_init_284 ?_
  refine K_aload_n (kk := 0) dX12_init_287 rfl rfl ?_
  refine K_sipush (v := 600) dX12_init_288 rfl ?_
  refine K_newI (q := 93) (N := 600) (c' := 34) (s' := 13111) wArrI (by decide) rfl (by decide) rfl rfl (Nat.le_of_ble_eq_true rfl) (Nat.le_of_ble_eq_true rfl) rfl ((((put1_ne (by decide)).trans (hw 93 (by decide) (by decide) (by decide)))).trans (ce_int (r := 0) rfl (by decide))) (fun _ => rfl) dX12_init_291 ?_
  refine K_putR (p := 59) (ci := 12) (kf := 47) (f := 95) rfl kfX12_110 uxX12 tyX12_ok nmX12 rfl (by decide) rfl (tyX12_ok 47 (by decide)) rfl rfl rfl rfl (by decide) dX12_init_293 ?_
  refine K_aload_n (kk := 0) dX12_init_296 rfl rfl ?_
  refine K_sipush (v := 600) dX12_init_297 rfl ?_
  refine K_newI (q := 94) (N := 600) (c' := 35) (s' := 13711) wArrI (by decide) rfl (by decide) rfl rfl (Nat.le_of_ble_eq_true rfl) (Nat.le_of_ble_eq_true rfl) rfl ((((put1_ne (by decide)).trans (hw 94 (by decide) (by decide) (by decide)))).trans (ce_int (r := 0) rfl (by decide))) (fun _ => rfl) dX12_init_300 ?_
  refine K_putR (p := 59) (ci := 12) (kf := 48) (f := 96) rfl kfX12_113 uxX12 tyX12_ok nmX12 rfl (by decide) rfl (tyX12_ok 48 (by decide)) rfl rfl rfl rfl (by decide) dX12_init_302 ?_
  refine K_aload_n (kk := 0) dX12_init_305 rfl rfl ?_
  refine K_sipush (v := 600) dX12_init_306 rfl ?_
  refine K_newI (q := 95) (N := 600) (c' := 36) (s' := 14311) wArrI (by decide) rfl (by decide) rfl rfl (Nat.le_of_ble_eq_true rfl) (Nat.le_of_ble_eq_true rfl) rfl ((((put1_ne (by decide)).trans (hw 95 (by decide) (by decide) (by decide)))).trans (ce_int (r := 0) rfl (by decide))) (fun _ => rfl) dX12_init_309 ?_
  refine K_putR (p := 59) (ci := 12) (kf := 49) (f := 97) rfl kfX12_116 uxX12 tyX12_ok nmX12 rfl (by decide) rfl (tyX12_ok 49 (by decide)) rfl rfl rfl rfl (by decide) dX12_init_311 ?_
  refine K_aload_n (kk := 0) dX12_init_314 rfl rfl ?_
  refine K_sipush (v := 600) dX12_init_315 rfl ?_
  refine K_newI (q := 96) (N := 600) (c' := 37) (s' := 14911) wArrI (by decide) rfl (by decide) rfl rfl (Nat.le_of_ble_eq_true rfl) (Nat.le_of_ble_eq_true rfl) rfl ((((put1_ne (by decide)).trans (hw 96 (by decide) (by decide) (by decide)))).trans (ce_int (r := 0) rfl (by decide))) (fun _ => rfl) dX12_init_318 ?_
  refine K_putR (p := 59) (ci := 12) (kf := 50) (f := 98) rfl kfX12_119 uxX12 tyX12_ok nmX12 rfl (by decide) rfl (tyX12_ok 50 (by decide)) rfl rfl rfl rfl (by decide) dX12_init_320 ?_
  refine K_aload_n (kk := 0) dX12_init_323 rfl rfl ?_
  refine K_sipush (v := 600) dX12_init_324 rfl ?_
  refine K_newI (q := 97) (N := 600) (c' := 38) (s' := 15511) wArrI (by decide) rfl (by decide) rfl rfl (Nat.le_of_ble_eq_true rfl) (Nat.le_of_ble_eq_true rfl) rfl ((((put1_ne (by decide)).trans (hw 97 (by decide) (by decide) (by decide)))).trans (ce_int (r := 0) rfl (by decide))) (fun _ => rfl) dX12_init_327 ?_
  refine K_putR (p := 59) (ci := 12) (kf := 51) (f := 99) rfl kfX12_122 uxX12 tyX12_ok nmX12 rfl (by decide) rfl (tyX12_ok 51 (by decide)) rfl rfl rfl rfl (by decide) dX12_init_329 ?_
  refine K_aload_n (kk := 0) dX12_init_332 rfl rfl ?_
  refine K_sipush (v := 600) dX12_init_333 rfl ?_
  refine K_newI (q := 98) (N := 600) (c' := 39) (s' := 16111) wArrI (by decide) rfl (by decide) rfl rfl (Nat.le_of_ble_eq_true rfl) (Nat.le_of_ble_eq_true rfl) rfl ((((put1_ne (by decide)).trans (hw 98 (by decide) (by decide) (by decide)))).trans (ce_int (r := 0) rfl (by decide))) (fun _ => rfl) dX12_init_336 ?_
  refine K_putR (p := 59) (ci := 12) (kf := 52) (f := 100) rfl kfX12_125 uxX12 tyX12_ok nmX12 rfl (by decide) rfl (tyX12_ok 52 (by decide)) rfl rfl rfl rfl (by decide) dX12_init_338 ?_
  refine K_aload_n (kk := 0) dX12_init_341 rfl rfl ?_
  refine K_bipush (v := 20) dX12_init_342 rfl ?_
  refine K_newI (q := 99) (N := 20) (c' := 40) (s' := 16131) wArrI (by decide) rfl (by decide) rfl rfl (Nat.le_of_ble_eq_true rfl) (Nat.le_of_ble_eq_true rfl) rfl ((((put1_ne (by decide)).trans (hw 99 (by decide) (by decide) (by decide)))).trans (ce_int (r := 0) rfl (by decide))) (fun _ => rfl) dX12_init_344 ?_
  refine K_putR (p := 59) (ci := 12) (kf := 53) (f := 101) rfl kfX12_128 uxX12 tyX12_ok nmX12 rfl (by decide) rfl (tyX12_ok 53 (by decide)) rfl rfl rfl rfl (by decide) dX12_init_346 ?_
  refine K_aload_n (kk := 0) dX12_init_349 rfl rfl ?_
  refine K_bipush (v := 20) dX12_init_350 rfl ?_
  refine K_newI (q := 100) (N := 20) (c' := 41) (s' := 16151) wArrI (by decide) rfl (by decide) rfl rfl (Nat.le_of_ble_eq_true rfl) (Nat.le_of_ble_eq_true rfl) rfl ((((put1_ne (by decide)).trans (hw 100 (by decide) (by decide) (by decide)))).trans (ce_int (r := 0) rfl (by decide))) (fun _ => rfl) dX12_init_352 ?_
  refine K_putR (p := 59) (ci := 12) (kf := 54) (f := 102) rfl kfX12_131 uxX12 tyX12_ok nmX12 rfl (by decide) rfl (tyX12_ok 54 (by decide)) rfl rfl rfl rfl (by decide) dX12_init_354 ?_
  refine K_aload_n (kk := 0) dX12_init_357 rfl rfl ?_
  refine K_bipush (v := 80) dX12_init_358 rfl ?_
  refine K_newI (q := 101) (N := 80) (c' := 42) (s' := 16231) wArrI (by decide) rfl (by decide) rfl rfl (Nat.le_of_ble_eq_true rfl) (Nat.le_of_ble_eq_true rfl) rfl ((((put1_ne (by decide)).trans (hw 101 (by decide) (by decide) (by decide)))).trans (ce_int (r := 0) rfl (by decide))) (fun _ => rfl) dX12_init_360 ?_
  refine K_putR (p := 59) (ci := 12) (kf := 55) (f := 103) rfl kfX12_134 uxX12 tyX12_ok nmX12 rfl (by decide) rfl (tyX12_ok 55 (by decide)) rfl rfl rfl rfl (by decide) dX12_init_362 ?_
  refine K_aload_n (kk := 0) dX12_init_365 rfl rfl ?_
  refine K_bipush (v := 24) dX12_init_366 rfl ?_
  refine K_putR (p := 59) (ci := 12) (kf := 56) (f := 0) rfl kfX12_137 uxX12 tyX12_ok nmX12 rfl (by decide) rfl (tyX12_ok 56 (by decide)) rfl rfl rfl rfl (by decide) dX12_init_368 ?_
  refine K_aload_n (kk := 0) dX12_init_371 rfl rfl ?_
  refine K_sipush (v := 1500) dX12_init_372 rfl ?_
  refine K_newI (q := 102) (N := 1500) (c' := 43) (s' := 17731) wArrI (by decide) rfl (by decide) rfl rfl (Nat.le_of_ble_eq_true rfl) (Nat.le_of_ble_eq_true rfl) rfl ((((put1_ne (by decide)).trans (hw 102 (by decide) (by decide) (by decide)))).trans (ce_int (r := 0) rfl (by decide))) (fun _ => rfl) dX12_init_375 ?_
  refine K_skip (kf := 57) rfl rfl ?_
  refine K_putR (p := 59) (ci := 12) (kf := 58) (f := 104) rfl kfX12_141 uxX12 tyX12_ok nmX12 rfl (by decide) rfl (tyX12_ok 58 (by decide)) rfl rfl rfl rfl (by decide) dX12_init_377 ?_
  refine K_aload_n (kk := 0) dX12_init_380 rfl rfl ?_
  refine K_sipush (v := 1500) dX12_init_381 rfl ?_
  refine K_newZ (q := 103) (N := 1500) (c' := 44) (s' := 19231) wArrZ (by decide) rfl (by decide) rfl rfl (Nat.le_of_ble_eq_true rfl) (Nat.le_of_ble_eq_true rfl) rfl ((((put1_ne (by decide)).trans (hw 103 (by decide) (by decide) (by decide)))).trans (ce_int (r := 0) rfl (by decide))) (fun _ => rfl) dX12_init_384 ?_
  refine K_putR (p := 59) (ci := 12) (kf := 59) (f := 105) rfl kfX12_144 uxX12 tyX12_ok nmX12 rfl (by decide) rfl (tyX12_ok 59 (by decide)) rfl rfl rfl rfl (by decide) dX12_init_386 ?_
  refine K_aload_n (kk := 0) dX12_init_389 rfl rfl ?_
  refine K_bipush (v := 12) dX12_init_390 rfl ?_
  refine K_newI (q := 104) (N := 12) (c' := 45) (s' := 19243) wArrI (by decide) rfl (by decide) rfl rfl (Nat.le_of_ble_eq_true rfl) (Nat.le_of_ble_eq_true rfl) rfl ((((put1_ne (by decide)).trans (hw 104 (by decide) (by decide) (by decide)))).trans (ce_int (r := 0) rfl (by decide))) (fun _ => rfl) dX12_init_392 ?_
  refine K_putR (p := 59) (ci := 12) (kf := 60) (f := 106) rfl kfX12_148 uxX12 tyX12_ok nmX12 rfl (by decide) rfl (tyX12_ok 60 (by decide)) rfl rfl rfl rfl (by decide) dX12_init_394 ?_
  refine K_aload_n (kk := 0) dX12_init_397 rfl rfl ?_
  refine K_bipush (v := 12) dX12_init_398 rfl ?_
  refine K_newI (q := 105) (N := 12) (c' := 46) (s' := 19255) wArrI (by decide) rfl (by decide) rfl rfl (Nat.le_of_ble_eq_true rfl) (Nat.le_of_ble_eq_true rfl) rfl ((((put1_ne (by decide)).trans (hw 105 (by decide) (by decide) (by decide)))).trans (ce_int (r := 0) rfl (by decide))) (fun _ => rfl) dX12_init_400 ?_
  refine K_putR (p := 59) (ci := 12) (kf := 61) (f := 107) rfl kfX12_151 uxX12 tyX12_ok nmX12 rfl (by decide) rfl (tyX12_ok 61 (by decide)) rfl rfl rfl rfl (by decide) dX12_init_402 ?_
  refine K_aload_n (kk := 0) dX12_init_405 rfl rfl ?_
  refine K_bipush (v := 36) dX12_init_406 rfl ?_
  refine K_newI (q := 106) (N := 36) (c' := 47) (s' := 19291) wArrI (by decide) rfl (by decide) rfl rfl (Nat.le_of_ble_eq_true rfl) (Nat.le_of_ble_eq_true rfl) rfl ((((put1_ne (by decide)).trans (hw 106 (by decide) (by decide) (by decide)))).trans (ce_int (r := 0) rfl (by decide))) (fun _ => rfl) dX12_init_408 ?_
  refine K_putR (p := 59) (ci := 12) (kf := 62) (f := 108) rfl kfX12_154 uxX12 tyX12_ok nmX12 rfl (by decide) rfl (tyX12_ok 62 (by decide)) rfl rfl rfl rfl (by decide) dX12_init_410 ?_
  refine K_aload_n (kk := 0) dX12_init_413 rfl rfl ?_
  refine K_bipush (v := 6) dX12_init_414 rfl ?_
  refine K_newI (q := 107) (N := 6) (c' := 48) (s' := 19297) wArrI (by decide) rfl (by decide) rfl rfl (Nat.le_of_ble_eq_true rfl) (Nat.le_of_ble_eq_true rfl) rfl ((((put1_ne (by decide)).trans (hw 107 (by decide) (by decide) (by decide)))).trans (ce_int (r := 0) rfl (by decide))) (fun _ => rfl) dX12_init_416 ?_
  refine K_putR (p := 59) (ci := 12) (kf := 63) (f := 109) rfl kfX12_157 uxX12 tyX12_ok nmX12 rfl (by decide) rfl (tyX12_ok 63 (by decide)) rfl rfl rfl rfl (by decide) dX12_init_418 ?_
  refine K_aload_n (kk := 0) dX12_init_421 rfl rfl ?_
  refine K_bipush (v := 6) dX12_init_422 rfl ?_
  refine K_newI (q := 108) (N := 6) (c' := 49) (s' := 19303) wArrI (by decide) rfl (by decide) rfl rfl (Nat.le_of_ble_eq_true rfl) (Nat.le_of_ble_eq_true rfl) rfl ((((put1_ne (by decide)).trans (hw 108 (by decide) (by decide) (by decide)))).trans (ce_int (r := 0) rfl (by decide))) (fun _ => rfl) dX12_init_424 ?_
  refine K_putR (p := 59) (ci := 12) (kf := 64) (f := 110) rfl kfX12_160 uxX12 tyX12_ok nmX12 rfl (by decide) rfl (tyX12_ok 64 (by decide)) rfl rfl rfl rfl (by decide) dX12_init_426 ?_
  refine K_aload_n (kk := 0) dX12_init_429 rfl rfl ?_
  refine K_iconst (v := (-1)) dX12_init_430 rfl ?_
  refine K_putR (p := 59) (ci := 12) (kf := 65) (f := 0) rfl kfX12_163 uxX12 tyX12_ok nmX12 rfl (by decide) rfl (tyX12_ok 65 (by decide)) rfl rfl rfl rfl (by decide) dX12_init_431 ?_
  refine K_aload_n (kk := 0) dX12_init_434 rfl rfl ?_
  refine K_sipush (v := 200) dX12_init_435 rfl ?_
  refine K_newZ (q := 109) (N := 200) (c' := 50) (s' := 19503) wArrZ (by decide) rfl (by decide) rfl rfl (Nat.le_of_ble_eq_true rfl) (Nat.le_of_ble_eq_true rfl) rfl ((((put1_ne (by decide)).trans (hw 109 (by decide) (by decide) (by decide)))).trans (ce_int (r := 0) rfl (by decide))) (fun _ => rfl) dX12_init_438 ?_
  refine K_skip (kf := 66) rfl rfl ?_
  refine K_putR (p := 59) (ci := 12) (kf := 67) (f := 111) rfl kfX12_166 uxX12 tyX12_ok nmX12 rfl (by decide) rfl (tyX12_ok 67 (by decide)) rfl rfl rfl rfl (by decide) dX12_init_440 ?_
  refine K_aload_n (kk := 0) dX12_init_443 rfl rfl ?_
  refine K_bipush (v := 12) dX12_init_444 rfl ?_
  refine K_newI (q := 110) (N := 12) (c' := 51) (s' := 19515) wArrI (by decide) rfl (by decide) rfl rfl (Nat.le_of_ble_eq_true rfl) (Nat.le_of_ble_eq_true rfl) rfl ((((put1_ne (by decide)).trans (hw 110 (by decide) (by decide) (by decide)))).trans (ce_int (r := 0) rfl (by decide))) (fun _ => rfl) dX12_init_446 ?_
  refine K_putR (p := 59) (ci := 12) (kf := 68) (f := 112) rfl kfX12_169 uxX12 tyX12_ok nmX12 rfl (by decide) rfl (tyX12_ok 68 (by decide)) rfl rfl rfl rfl (by decide) dX12_init_448 ?_
  refine K_aload_n (kk := 0) dX12_init_451 rfl rfl ?_
  refine K_bipush (v := 12) dX12_init_452 rfl ?_
  refine K_newI (q := 111) (N := 12) (c' := 52) (s' := 19527) wArrI (by decide) rfl (by decide) rfl rfl (Nat.le_of_ble_eq_true rfl) (Nat.le_of_ble_eq_true rfl) rfl ((((put1_ne (by decide)).trans (hw 111 (by decide) (by decide) (by decide)))).trans (ce_int (r := 0) rfl (by decide))) (fun _ => rfl) dX12_init_454 ?_
  refine K_putR (p := 59) (ci := 12) (kf := 69) (f := 113) rfl kfX12_172 uxX12 tyX12_ok nmX12 rfl (by decide) rfl (tyX12_ok 69 (by decide)) rfl rfl rfl rfl (by decide) dX12_init_456 ?_
  refine K_aload_n (kk := 0) dX12_init_459 rfl rfl ?_
  refine K_bipush (v := 10) dX12_init_460 rfl ?_
  refine K_newI (q := 112) (N := 10) (c' := 53) (s' := 19537) wArrI (by decide) rfl (by decide) rfl rfl (Nat.le_of_ble_eq_true rfl) (Nat.le_of_ble_eq_true rfl) rfl ((((put1_ne (by decide)).trans (hw 112 (by decide) (by decide) (by decide)))).trans (ce_int (r := 0) rfl (by decide))) (fun _ => rfl) dX12_init_462 ?_
  refine K_skip (kf := 70) rfl rfl ?_
  refine K_putR (p := 59) (ci := 12) (kf := 71) (f := 114) rfl kfX12_175 uxX12 tyX12_ok nmX12 rfl (by decide) rfl (tyX12_ok 71 (by decide)) rfl rfl rfl rfl (by decide) dX12_init_464 ?_
  refine K_aload_n (kk := 0) dX12_init_467 rfl rfl ?_
  refine K_bipush (v := 10) dX12_init_468 rfl ?_
  refine K_newI (q := 113) (N := 10) (c' := 54) (s' := 19547) wArrI (by decide) rfl (by decide) rfl rfl (Nat.le_of_ble_eq_true rfl) (Nat.le_of_ble_eq_true rfl) rfl ((((put1_ne (by decide)).trans (hw 113 (by decide) (by decide) (by decide)))).trans (ce_int (r := 0) rfl (by decide))) (fun _ => rfl) dX12_init_470 ?_
  refine K_putR (p := 59) (ci := 12) (kf := 72) (f := 115) rfl kfX12_178 uxX12 tyX12_ok nmX12 rfl (by decide) rfl (tyX12_ok 72 (by decide)) rfl rfl rfl rfl (by decide) dX12_init_472 ?_
  refine K_aload_n (kk := 0) dX12_init_475 rfl rfl ?_
  refine K_bipush (v := 10) dX12_init_476 rfl ?_
  refine K_newI (q := 114) (N := 10) (c' := 55) (s' := 19557) wArrI (by decide) rfl (by decide) rfl rfl (Nat.le_of_ble_eq_true rfl) (Nat.le_of_ble_eq_true rfl) rfl ((((put1_ne (by decide)).trans (hw 114 (by decide) (by decide) (by decide)))).trans (ce_int (r := 0) rfl (by decide))) (fun _ => rfl) dX12_init_478 ?_
  refine K_putR (p := 59) (ci := 12) (kf := 73) (f := 116) rfl kfX12_181 uxX12 tyX12_ok nmX12 rfl (by decide) rfl (tyX12_ok 73 (by decide)) rfl rfl rfl rfl (by decide) dX12_init_480 ?_
  refine K_aload_n (kk := 0) dX12_init_483 rfl rfl ?_
  refine K_sipush (v := 400) dX12_init_484 rfl ?_
  refine K_newI (q := 115) (N := 400) (c' := 56) (s' := 19957) wArrI (by decide) rfl (by decide) rfl rfl (Nat.le_of_ble_eq_true rfl) (Nat.le_of_ble_eq_true rfl) rfl ((((put1_ne (by decide)).trans (hw 115 (by decide) (by decide) (by decide)))).trans (ce_int (r := 0) rfl (by decide))) (fun _ => rfl) dX12_init_487 ?_
  refine K_skip (kf := 74) rfl rfl ?_
  refine K_putR (p := 59) (ci := 12) (kf := 75) (f := 117) rfl kfX12_184 uxX12 tyX12_ok nmX12 rfl (by decide) rfl (tyX12_ok 75 (by decide)) rfl rfl rfl rfl (by decide) dX12_init_489 ?_
  refine K_aload_n (kk := 0) dX12_init_492 rfl rfl ?_
  refine K_sipush (v := 400) dX12_init_493 rfl ?_
  refine K_newI (q := 116) (N := 400) (c' := 57) (s' := 20357) wArrI (by decide) rfl (by decide) rfl rfl (Nat.le_of_ble_eq_true rfl) (Nat.le_of_ble_eq_true rfl) rfl ((((put1_ne (by decide)).trans (hw 116 (by decide) (by decide) (by decide)))).trans (ce_int (r := 0) rfl (by decide))) (fun _ => rfl) dX12_init_496 ?_
  refine K_putR (p := 59) (ci := 12) (kf := 76) (f := 118) rfl kfX12_187 uxX12 tyX12_ok nmX12 rfl (by decide) rfl (tyX12_ok 76 (by decide)) rfl rfl rfl rfl (by decide) dX12_init_498 ?_
  refine K_aload_n (kk := 0) dX12_init_501 rfl rfl ?_
  refine K_sipush (v := 400) dX12_init_502 rfl ?_
  refine K_newI (q := 117) (N := 400) (c' := 58) (s' := 20757) wArrI (by decide) rfl (by decide) rfl rfl (Nat.le_of_ble_eq_true rfl) (Nat.le_of_ble_eq_true rfl) rfl ((((put1_ne (by decide)).trans (hw 117 (by decide) (by decide) (by decide)))).trans (ce_int (r := 0) rfl (by decide))) (fun _ => rfl) dX12_init_505 ?_
  refine K_putR (p := 59) (ci := 12) (kf := 77) (f := 119) rfl kfX12_190 uxX12 tyX12_ok nmX12 rfl (by decide) rfl (tyX12_ok 77 (by decide)) rfl rfl rfl rfl (by decide) dX12_init_507 ?_
  exact K_ret rfl rfl (fun i _ => wk_done (by decide) rfl (hw 59 (by decide) (by decide) (by decide)) i) rfl rfl dX12_init_510

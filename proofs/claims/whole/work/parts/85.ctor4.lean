/-! CONSTRUCTORS, printed by gen/ctors.py: each <init> at its place -/
theorem wObjI : Cond.instanceMethod Lib.objectInit ∈ gtbl := gin 98 (by decide +kernel) rfl
theorem wObjC : Cond.code Lib.objectInit ⟨#[0xb1]⟩ 1 none ∈ gtbl := gin 99 (by decide +kernel) rfl
theorem wArrI : Cond.arrayClass .int ∈ gtbl := gin 119 (by decide +kernel) rfl
theorem wArrJ : Cond.arrayClass .long ∈ gtbl := gin 443 (by decide +kernel) rfl
theorem wArrB : Cond.arrayClass .byte ∈ gtbl := gin 1261 (by decide +kernel) rfl
theorem wArrZ : Cond.arrayClass .boolean ∈ gtbl := gin 1262 (by decide +kernel) rfl
theorem wobX11 : Cond.methodLink RX11 1 Lib.objectInit ∈ gtbl := gin 97 (by decide +kernel) rfl
theorem wobX3 : Cond.methodLink RX3 3 Lib.objectInit ∈ gtbl := gin 105 (by decide +kernel) rfl
theorem wobX9 : Cond.methodLink RX9 3 Lib.objectInit ∈ gtbl := gin 125 (by decide +kernel) rfl
theorem wobX7 : Cond.methodLink RX7 3 Lib.objectInit ∈ gtbl := gin 131 (by decide +kernel) rfl
theorem wobX5 : Cond.methodLink RX5 3 Lib.objectInit ∈ gtbl := gin 176 (by decide +kernel) rfl
theorem wobX0 : Cond.methodLink RX0 3 Lib.objectInit ∈ gtbl := gin 206 (by decide +kernel) rfl
theorem wobX10 : Cond.methodLink RX10 3 Lib.objectInit ∈ gtbl := gin 242 (by decide +kernel) rfl
theorem wobX6 : Cond.methodLink RX6 3 Lib.objectInit ∈ gtbl := gin 266 (by decide +kernel) rfl
theorem wobX4 : Cond.methodLink RX4 1 Lib.objectInit ∈ gtbl := gin 300 (by decide +kernel) rfl
theorem wobX8 : Cond.methodLink RX8 3 Lib.objectInit ∈ gtbl := gin 339 (by decide +kernel) rfl
theorem wobX2 : Cond.methodLink RX2 3 Lib.objectInit ∈ gtbl := gin 384 (by decide +kernel) rfl
theorem wobX1 : Cond.methodLink RX1 3 Lib.objectInit ∈ gtbl := gin 419 (by decide +kernel) rfl
theorem wobX12 : Cond.methodLink RX12 1 Lib.objectInit ∈ gtbl := gin 1026 (by decide +kernel) rfl
theorem winX11 : Cond.instantiable RX11 14 ∈ gtbl := gin 93 (by decide +kernel) rfl
theorem winiX11 : Cond.initialized RX11 ∈ gtbl := gin 75 (by decide +kernel) rfl
theorem wclX11_7 : Cond.classLink RX11 7 RX3 ∈ gtbl := gin 100 (by decide +kernel) rfl
theorem winX3 : Cond.instantiable RX3 3 ∈ gtbl := gin 101 (by decide +kernel) rfl
theorem winiX3 : Cond.initialized RX3 ∈ gtbl := gin 76 (by decide +kernel) rfl
theorem wclX11_16 : Cond.classLink RX11 16 RX9 ∈ gtbl := gin 120 (by decide +kernel) rfl
theorem winX9 : Cond.instantiable RX9 5 ∈ gtbl := gin 121 (by decide +kernel) rfl
theorem winiX9 : Cond.initialized RX9 ∈ gtbl := gin 77 (by decide +kernel) rfl
theorem wclX9_9 : Cond.classLink RX9 9 RX7 ∈ gtbl := gin 126 (by decide +kernel) rfl
theorem winX7 : Cond.instantiable RX7 2 ∈ gtbl := gin 127 (by decide +kernel) rfl
theorem winiX7 : Cond.initialized RX7 ∈ gtbl := gin 78 (by decide +kernel) rfl
theorem wclX9_27 : Cond.classLink RX9 27 ("[" ++ (FieldType.array .int).toString) ∈ gtbl := gin 145 (by decide +kernel) rfl
theorem wclX11_23 : Cond.classLink RX11 23 RX5 ∈ gtbl := gin 171 (by decide +kernel) rfl
theorem winX5 : Cond.instantiable RX5 6 ∈ gtbl := gin 172 (by decide +kernel) rfl
theorem winiX5 : Cond.initialized RX5 ∈ gtbl := gin 81 (by decide +kernel) rfl
theorem wclX11_30 : Cond.classLink RX11 30 RX0 ∈ gtbl := gin 201 (by decide +kernel) rfl
theorem winX0 : Cond.instantiable RX0 8 ∈ gtbl := gin 202 (by decide +kernel) rfl
theorem winiX0 : Cond.initialized RX0 ∈ gtbl := gin 82 (by decide +kernel) rfl
theorem wclX0_9 : Cond.classLink RX0 9 ("[" ++ (FieldType.array .int).toString) ∈ gtbl := gin 207 (by decide +kernel) rfl
theorem wclX11_37 : Cond.classLink RX11 37 RX10 ∈ gtbl := gin 237 (by decide +kernel) rfl
theorem winX10 : Cond.instantiable RX10 5 ∈ gtbl := gin 238 (by decide +kernel) rfl
theorem winiX10 : Cond.initialized RX10 ∈ gtbl := gin 83 (by decide +kernel) rfl
theorem wclX11_44 : Cond.classLink RX11 44 RX6 ∈ gtbl := gin 261 (by decide +kernel) rfl
theorem winX6 : Cond.instantiable RX6 8 ∈ gtbl := gin 262 (by decide +kernel) rfl
theorem winiX6 : Cond.initialized RX6 ∈ gtbl := gin 84 (by decide +kernel) rfl
theorem wclX6_9 : Cond.classLink RX6 9 ("[" ++ (FieldType.array .int).toString) ∈ gtbl := gin 267 (by decide +kernel) rfl
theorem wclX11_51 : Cond.classLink RX11 51 RX4 ∈ gtbl := gin 295 (by decide +kernel) rfl
theorem winX4 : Cond.instantiable RX4 8 ∈ gtbl := gin 296 (by decide +kernel) rfl
theorem winiX4 : Cond.initialized RX4 ∈ gtbl := gin 85 (by decide +kernel) rfl
theorem wclX11_58 : Cond.classLink RX11 58 RX8 ∈ gtbl := gin 334 (by decide +kernel) rfl
theorem winX8 : Cond.instantiable RX8 11 ∈ gtbl := gin 335 (by decide +kernel) rfl
theorem winiX8 : Cond.initialized RX8 ∈ gtbl := gin 86 (by decide +kernel) rfl
theorem wclX11_65 : Cond.classLink RX11 65 RX2 ∈ gtbl := gin 379 (by decide +kernel) rfl
theorem winX2 : Cond.instantiable RX2 7 ∈ gtbl := gin 380 (by decide +kernel) rfl
theorem winiX2 : Cond.initialized RX2 ∈ gtbl := gin 87 (by decide +kernel) rfl
theorem wclX2_9 : Cond.classLink RX2 9 ("[" ++ (FieldType.array .int).toString) ∈ gtbl := gin 385 (by decide +kernel) rfl
theorem wclX11_72 : Cond.classLink RX11 72 RX1 ∈ gtbl := gin 414 (by decide +kernel) rfl
theorem winX1 : Cond.instantiable RX1 6 ∈ gtbl := gin 415 (by decide +kernel) rfl
theorem winiX1 : Cond.initialized RX1 ∈ gtbl := gin 88 (by decide +kernel) rfl
theorem wclX11_79 : Cond.classLink RX11 79 RX7 ∈ gtbl := gin 444 (by decide +kernel) rfl
theorem winX12 : Cond.instantiable RX12 78 ∈ gtbl := gin 1022 (by decide +kernel) rfl
theorem winiX12 : Cond.initialized RX12 ∈ gtbl := gin 89 (by decide +kernel) rfl
theorem calX0_init : CalB mX0_init 0 := ⟨gin 205 (by decide +kernel) rfl, gin 82 (by decide +kernel) rfl, ⟨by decide +kernel, by decide +kernel, by decide +kernel⟩, by decide⟩
theorem wimX0 : Cond.instanceMethod yX0_init ∈ gtbl := gin 204 (by decide +kernel) rfl
theorem calX1_init : CalB mX1_init 0 := ⟨gin 418 (by decide +kernel) rfl, gin 88 (by decide +kernel) rfl, ⟨by decide +kernel, by decide +kernel, by decide +kernel⟩, by decide⟩
theorem wimX1 : Cond.instanceMethod yX1_init ∈ gtbl := gin 417 (by decide +kernel) rfl
theorem calX2_init : CalB mX2_init 0 := ⟨gin 383 (by decide +kernel) rfl, gin 87 (by decide +kernel) rfl, ⟨by decide +kernel, by decide +kernel, by decide +kernel⟩, by decide⟩
theorem wimX2 : Cond.instanceMethod yX2_init ∈ gtbl := gin 382 (by decide +kernel) rfl
theorem calX3_init : CalB mX3_init 0 := ⟨gin 104 (by decide +kernel) rfl, gin 76 (by decide +kernel) rfl, ⟨by decide +kernel, by decide +kernel, by decide +kernel⟩, by decide⟩
theorem wimX3 : Cond.instanceMethod yX3_init ∈ gtbl := gin 103 (by decide +kernel) rfl
theorem calX4_init : CalB mX4_init 0 := ⟨gin 299 (by decide +kernel) rfl, gin 85 (by decide +kernel) rfl, ⟨by decide +kernel, by decide +kernel, by decide +kernel⟩, by decide⟩
theorem wimX4 : Cond.instanceMethod yX4_init ∈ gtbl := gin 298 (by decide +kernel) rfl
theorem calX5_init : CalB mX5_init 0 := ⟨gin 175 (by decide +kernel) rfl, gin 81 (by decide +kernel) rfl, ⟨by decide +kernel, by decide +kernel, by decide +kernel⟩, by decide⟩
theorem wimX5 : Cond.instanceMethod yX5_init ∈ gtbl := gin 174 (by decide +kernel) rfl
theorem calX6_init : CalB mX6_init 0 := ⟨gin 265 (by decide +kernel) rfl, gin 84 (by decide +kernel) rfl, ⟨by decide +kernel, by decide +kernel, by decide +kernel⟩, by decide⟩
theorem wimX6 : Cond.instanceMethod yX6_init ∈ gtbl := gin 264 (by decide +kernel) rfl
theorem calX7_init : CalB mX7_init 1 := ⟨gin 130 (by decide +kernel) rfl, gin 78 (by decide +kernel) rfl, ⟨by decide +kernel, by decide +kernel, by decide +kernel⟩, by decide⟩
theorem wimX7 : Cond.instanceMethod yX7_init ∈ gtbl := gin 129 (by decide +kernel) rfl
theorem calX8_init : CalB mX8_init 0 := ⟨gin 338 (by decide +kernel) rfl, gin 86 (by decide +kernel) rfl, ⟨by decide +kernel, by decide +kernel, by decide +kernel⟩, by decide⟩
theorem wimX8 : Cond.instanceMethod yX8_init ∈ gtbl := gin 337 (by decide +kernel) rfl
theorem calX9_init : CalB mX9_init 0 := ⟨gin 124 (by decide +kernel) rfl, gin 77 (by decide +kernel) rfl, ⟨by decide +kernel, by decide +kernel, by decide +kernel⟩, by decide⟩
theorem wimX9 : Cond.instanceMethod yX9_init ∈ gtbl := gin 123 (by decide +kernel) rfl
theorem calX10_init : CalB mX10_init 0 := ⟨gin 241 (by decide +kernel) rfl, gin 83 (by decide +kernel) rfl, ⟨by decide +kernel, by decide +kernel, by decide +kernel⟩, by decide⟩
theorem wimX10 : Cond.instanceMethod yX10_init ∈ gtbl := gin 240 (by decide +kernel) rfl
theorem calX11_init : CalB mX11_init 0 := ⟨gin 96 (by decide +kernel) rfl, gin 75 (by decide +kernel) rfl, ⟨by decide +kernel, by decide +kernel, by decide +kernel⟩, by decide⟩
theorem wimX11 : Cond.instanceMethod yX11_init ∈ gtbl := gin 95 (by decide +kernel) rfl
theorem calX12_init : CalB mX12_init 0 := ⟨gin 1025 (by decide +kernel) rfl, gin 89 (by decide +kernel) rfl, ⟨by decide +kernel, by decide +kernel, by decide +kernel⟩, by decide⟩
theorem wimX12 : Cond.instanceMethod yX12_init ∈ gtbl := gin 1024 (by decide +kernel) rfl
theorem wilX11_18 : Cond.methodLink RX11 18 yX9_init ∈ gtbl := gin 122 (by decide +kernel) rfl
theorem wilX9_11 : Cond.methodLink RX9 11 yX7_init ∈ gtbl := gin 128 (by decide +kernel) rfl
theorem wilX11_81 : Cond.methodLink RX11 81 yX7_init ∈ gtbl := gin 445 (by decide +kernel) rfl
theorem wilX11_9 : Cond.methodLinkNest RX11 9 yX3_init "DuskShelves" ∈ ntbl := List.mem_filter.mpr ⟨List.mem_of_getElem? (i := 28) (by decide +kernel), rfl⟩
theorem wilX11_25 : Cond.methodLinkNest RX11 25 yX5_init "DuskShelves" ∈ ntbl := List.mem_filter.mpr ⟨List.mem_of_getElem? (i := 99) (by decide +kernel), rfl⟩
theorem wilX11_32 : Cond.methodLinkNest RX11 32 yX0_init "DuskShelves" ∈ ntbl := List.mem_filter.mpr ⟨List.mem_of_getElem? (i := 129) (by decide +kernel), rfl⟩
theorem wilX11_39 : Cond.methodLinkNest RX11 39 yX10_init "DuskShelves" ∈ ntbl := List.mem_filter.mpr ⟨List.mem_of_getElem? (i := 165) (by decide +kernel), rfl⟩
theorem wilX11_46 : Cond.methodLinkNest RX11 46 yX6_init "DuskShelves" ∈ ntbl := List.mem_filter.mpr ⟨List.mem_of_getElem? (i := 189) (by decide +kernel), rfl⟩
theorem wilX11_53 : Cond.methodLinkNest RX11 53 yX4_init "DuskShelves" ∈ ntbl := List.mem_filter.mpr ⟨List.mem_of_getElem? (i := 223) (by decide +kernel), rfl⟩
theorem wilX11_60 : Cond.methodLinkNest RX11 60 yX8_init "DuskShelves" ∈ ntbl := List.mem_filter.mpr ⟨List.mem_of_getElem? (i := 262) (by decide +kernel), rfl⟩
theorem wilX11_67 : Cond.methodLinkNest RX11 67 yX2_init "DuskShelves" ∈ ntbl := List.mem_filter.mpr ⟨List.mem_of_getElem? (i := 307) (by decide +kernel), rfl⟩
theorem wilX11_74 : Cond.methodLinkNest RX11 74 yX1_init "DuskShelves" ∈ ntbl := List.mem_filter.mpr ⟨List.mem_of_getElem? (i := 342) (by decide +kernel), rfl⟩
theorem offr118 : ∀ j, j < 12 → off (j + 118) = 10 + j := by decide +kernel
theorem offr130 : ∀ j, j < 12 → off (j + 130) = 23 + j := by decide +kernel
theorem offr142 : ∀ j, j < 200 → off (j + 142) = 43 + j := by decide +kernel
theorem offr342 : ∀ j, j < 16 → off (j + 342) = 252 + j := by decide +kernel
theorem offr358 : ∀ j, j < 14 → off (j + 358) = 286 + j := by decide +kernel
theorem C_1 {Γ : GG} {l : Launch} {z d : Nat} {w : WK} (hw : ∀ q, q < 372 → 1 ≤ off q → off q < 4 → w (off q) = ce Γ st0 q) : CtorG Γ l z (d + 1) 2 3000 mX3_init [.ref 1] 2 (wk Γ 1 3 [4, 5, 0] 0 w) 4 w := by
  refine CtorG_of_JK (lv := [(0, .ref 1)]) (by decide) (fun ad => Nat.le_of_ble_eq_true rfl) (fun ad => rfl) ?_
  refine K_aload_n (kk := 0) dX3_init_0 rfl rfl ?_
  refine K_objInit wobX3 wObjI wObjC dX3_init_1 ?_
  refine K_aload_n (kk := 0) dX3_init_4 rfl rfl ?_
  refine K_sipush (v := 1500) dX3_init_5 rfl ?_
  refine K_newI (q := 2) (N := 1500) (c' := 1) (s' := 1500) wArrI (by decide) rfl (by decide) rfl rfl (Nat.le_of_ble_eq_true rfl) (Nat.le_of_ble_eq_true rfl) rfl ((((put1_ne (by decide)).trans (hw 2 (by decide) (by decide) (by decide)))).trans (ce_int (r := 0) rfl (by decide))) (fun _ => rfl) dX3_init_8 ?_
  refine K_putR (p := 1) (ci := 3) (kf := 0) (f := 4) rfl kfX3_9 uxX3 tyX3_ok nmX3 rfl (by decide) rfl (tyX3_ok 0 (by decide)) rfl rfl rfl rfl (by decide) dX3_init_10 ?_
  refine K_aload_n (kk := 0) dX3_init_13 rfl rfl ?_
  refine K_sipush (v := 1500) dX3_init_14 rfl ?_
  refine K_newI (q := 3) (N := 1500) (c' := 2) (s' := 3000) wArrI (by decide) rfl (by decide) rfl rfl (Nat.le_of_ble_eq_true rfl) (Nat.le_of_ble_eq_true rfl) rfl ((((put1_ne (by decide)).trans (hw 3 (by decide) (by decide) (by decide)))).trans (ce_int (r := 0) rfl (by decide))) (fun _ => rfl) dX3_init_17 ?_
  refine K_putR (p := 1) (ci := 3) (kf := 1) (f := 5) rfl kfX3_15 uxX3 tyX3_ok nmX3 rfl (by decide) rfl (tyX3_ok 1 (by decide)) rfl rfl rfl rfl (by decide) dX3_init_19 ?_
  refine K_aload_n (kk := 0) dX3_init_22 rfl rfl ?_
  refine K_iconst (v := 0) dX3_init_23 rfl ?_
  refine K_putZ (p := 1) (ci := 3) (kf := 2) rfl kfX3_18 uxX3 tyX3_ok nmX3 rfl (by decide) rfl (tyX3_ok 2 (by decide)) rfl rfl rfl rfl (by decide) dX3_init_24 ?_
  refine K_skip (kf := 2) rfl rfl ?_
  exact K_ret rfl rfl (fun i _ => wk_done (by decide) rfl (hw 1 (by decide) (by decide) (by decide)) i) rfl rfl dX3_init_27
theorem C_5 {Γ : GG} {l : Launch} {z d : Nat} {w : WK} (hw : ∀ q, q < 372 → 5 ≤ off q → off q < 7 → w (off q) = ce Γ st0 q) : CtorG Γ l z (d + 1) 1 12 mX7_init [.ref 5, .int 12] 6 (wk Γ 5 7 [8, 0] 0 w) 7 w := by
  refine CtorG_of_JK (lv := [(0, .ref 5), (1, .int 12)]) (by decide) (fun ad => Nat.le_of_ble_eq_true rfl) (fun ad => rfl) ?_
  refine K_aload_n (kk := 0) dX7_init_0 rfl rfl ?_
  refine K_objInit wobX7 wObjI wObjC dX7_init_1 ?_
  refine K_aload_n (kk := 0) dX7_init_4 rfl rfl ?_
  refine K_iconst (v := 0) dX7_init_5 rfl ?_
  refine K_putZ (p := 5) (ci := 7) (kf := 1) rfl kfX7_9 uxX7 tyX7_ok nmX7 rfl (by decide) rfl (tyX7_ok 1 (by decide)) rfl rfl rfl rfl (by decide) dX7_init_6 ?_
  refine K_aload_n (kk := 0) dX7_init_9 rfl rfl ?_
  refine K_iconst (v := 0) dX7_init_10 rfl ?_
  refine K_iload_n (kk := 1) dX7_init_11 rfl rfl ?_
  refine K_mmax klX7_15 (by decide) (Nat.zero_le _) (Nat.zero_le _) dX7_init_12 ?_
  rw [show (if (0 : Int32) < 12 then (12 : Int32) else 0) = 12 from rfl]
  refine K_newI (q := 6) (N := 12) (c' := 1) (s' := 12) wArrI (by decide) rfl (by decide) rfl rfl (Nat.le_of_ble_eq_true rfl) (Nat.le_of_ble_eq_true rfl) rfl ((((put1_ne (by decide)).trans (hw 6 (by decide) (by decide) (by decide)))).trans (ce_int (r := 0) rfl (by decide))) (fun _ => rfl) dX7_init_15 ?_
  refine K_putR (p := 5) (ci := 7) (kf := 0) (f := 8) rfl kfX7_21 uxX7 tyX7_ok nmX7 rfl (by decide) rfl (tyX7_ok 0 (by decide)) rfl rfl rfl rfl (by decide) dX7_init_17 ?_
  refine K_skip (kf := 1) rfl rfl ?_
  exact K_ret rfl rfl (fun i _ => wk_done (by decide) rfl (hw 5 (by decide) (by decide) (by decide)) i) rfl rfl dX7_init_20
theorem C_11 {Γ : GG} {l : Launch} {z d : Nat} {w : WK} (hw : ∀ q, q < 372 → 35 ≤ off q → off q < 41 → w (off q) = ce Γ st0 q) : CtorG Γ l z (d + 1) 5 50 mX5_init [.ref 11] 36 (wk Γ 11 5 [14, 15, 16, 17, 18, 0] 0 w) 41 w := by
  refine CtorG_of_JK (lv := [(0, .ref 11)]) (by decide) (fun ad => Nat.le_of_ble_eq_true rfl) (fun ad => rfl) ?_
  refine K_aload_n (kk := 0) dX5_init_0 rfl rfl ?_
  refine K_objInit wobX5 wObjI wObjC dX5_init_1 ?_
  refine K_aload_n (kk := 0) dX5_init_4 rfl rfl ?_
  refine K_bipush (v := 10) dX5_init_5 rfl ?_
  refine K_newI (q := 12) (N := 10) (c' := 1) (s' := 10) wArrI (by decide) rfl (by decide) rfl rfl (Nat.le_of_ble_eq_true rfl) (Nat.le_of_ble_eq_true rfl) rfl ((((put1_ne (by decide)).trans (hw 12 (by decide) (by decide) (by decide)))).trans (ce_int (r := 0) rfl (by decide))) (fun _ => rfl) dX5_init_7 ?_
  refine K_putR (p := 11) (ci := 5) (kf := 0) (f := 14) rfl kfX5_9 uxX5 tyX5_ok nmX5 rfl (by decide) rfl (tyX5_ok 0 (by decide)) rfl rfl rfl rfl (by decide) dX5_init_9 ?_
  refine K_aload_n (kk := 0) dX5_init_12 rfl rfl ?_
  refine K_bipush (v := 10) dX5_init_13 rfl ?_
  refine K_newI (q := 13) (N := 10) (c' := 2) (s' := 20) wArrI (by decide) rfl (by decide) rfl rfl (Nat.le_of_ble_eq_true rfl) (Nat.le_of_ble_eq_true rfl) rfl ((((put1_ne (by decide)).trans (hw 13 (by decide) (by decide) (by decide)))).trans (ce_int (r := 0) rfl (by decide))) (fun _ => rfl) dX5_init_15 ?_
  refine K_putR (p := 11) (ci := 5) (kf := 1) (f := 15) rfl kfX5_15 uxX5 tyX5_ok nmX5 rfl (by decide) rfl (tyX5_ok 1 (by decide)) rfl rfl rfl rfl (by decide) dX5_init_17 ?_
  refine K_aload_n (kk := 0) dX5_init_20 rfl rfl ?_
  refine K_bipush (v := 10) dX5_init_21 rfl ?_
  refine K_newI (q := 14) (N := 10) (c' := 3) (s' := 30) wArrI (by decide) rfl (by decide) rfl rfl (Nat.le_of_ble_eq_true rfl) (Nat.le_of_ble_eq_true rfl) rfl ((((put1_ne (by decide)).trans (hw 14 (by decide) (by decide) (by decide)))).trans (ce_int (r := 0) rfl (by decide))) (fun _ => rfl) dX5_init_23 ?_
  refine K_putR (p := 11) (ci := 5) (kf := 2) (f := 16) rfl kfX5_18 uxX5 tyX5_ok nmX5 rfl (by decide) rfl (tyX5_ok 2 (by decide)) rfl rfl rfl rfl (by decide) dX5_init_25 ?_
  refine K_aload_n (kk := 0) dX5_init_28 rfl rfl ?_
  refine K_bipush (v := 10) dX5_init_29 rfl ?_
  refine K_newI (q := 15) (N := 10) (c' := 4) (s' := 40) wArrI (by decide) rfl (by decide) rfl rfl (Nat.le_of_ble_eq_true rfl) (Nat.le_of_ble_eq_true rfl) rfl ((((put1_ne (by decide)).trans (hw 15 (by decide) (by decide) (by decide)))).trans (ce_int (r := 0) rfl (by decide))) (fun _ => rfl) dX5_init_31 ?_
  refine K_putR (p := 11) (ci := 5) (kf := 3) (f := 17) rfl kfX5_21 uxX5 tyX5_ok nmX5 rfl (by decide) rfl (tyX5_ok 3 (by decide)) rfl rfl rfl rfl (by decide) dX5_init_33 ?_
  refine K_aload_n (kk := 0) dX5_init_36 rfl rfl ?_
  refine K_bipush (v := 10) dX5_init_37 rfl ?_
  refine K_newI (q := 16) (N := 10) (c' := 5) (s' := 50) wArrI (by decide) rfl (by decide) rfl rfl (Nat.le_of_ble_eq_true rfl) (Nat.le_of_ble_eq_true rfl) rfl ((((put1_ne (by decide)).trans (hw 16 (by decide) (by decide) (by decide)))).trans (ce_int (r := 0) rfl (by decide))) (fun _ => rfl) dX5_init_39 ?_
  refine K_putR (p := 11) (ci := 5) (kf := 4) (f := 18) rfl kfX5_24 uxX5 tyX5_ok nmX5 rfl (by decide) rfl (tyX5_ok 4 (by decide)) rfl rfl rfl rfl (by decide) dX5_init_41 ?_
  refine K_aload_n (kk := 0) dX5_init_44 rfl rfl ?_
  refine K_iconst (v := 0) dX5_init_45 rfl ?_
  refine K_putZ (p := 11) (ci := 5) (kf := 5) rfl kfX5_27 uxX5 tyX5_ok nmX5 rfl (by decide) rfl (tyX5_ok 5 (by decide)) rfl rfl rfl rfl (by decide) dX5_init_46 ?_
  refine K_skip (kf := 5) rfl rfl ?_
  exact K_ret rfl rfl (fun i _ => wk_done (by decide) rfl (hw 11 (by decide) (by decide) (by decide)) i) rfl rfl dX5_init_49
theorem C_17 {Γ : GG} {l : Launch} {z d : Nat} {w : WK} (hw : ∀ q, q < 372 → 41 ≤ off q → off q < 247 → w (off q) = ce Γ st0 q) : CtorG Γ l z (d + 1) 205 4400 mX0_init [.ref 17] 42 (wk Γ 17 0 [20, 0, 21, 0, 22, 23, 24, 0] 0 w) 247 w := by
  refine CtorG_of_JK (lv := [(0, .ref 17)]) (by decide) (fun ad => Nat.le_of_ble_eq_true rfl) (fun ad => rfl) ?_
  refine K_aload_n (kk := 0) dX0_init_0 rfl rfl ?_
  refine K_objInit wobX0 wObjI wObjC dX0_init_1 ?_
  refine K_aload_n (kk := 0) dX0_init_4 rfl rfl ?_
  refine K_sipush (v := 200) dX0_init_5 rfl ?_
  refine K_bipush (v := 14) dX0_init_8 rfl ?_
  refine K_mna (q := 18) (r := 142) (N := 200) (K' := 14) (c' := 201) (s' := 3000) wclX0_9 wArrI (by decide) (by decide) rfl rfl (by decide) (by decide) rfl rfl (Nat.le_of_ble_eq_true rfl) (Nat.le_of_ble_eq_true rfl) rfl (((put1_ne (by decide)).trans (hw 18 (by decide) (by decide) (by decide))).trans (ce_refs (r := 142) rfl)) (fun j hj => offr142 j hj) (fun j hj => ?_) dX0_init_10 ?_
  · have e := hw (j + 142) (by omega) (by rw [offr142 j hj]; omega) (by rw [offr142 j hj]; omega)
    rw [offr142 j hj, ce_int (r := 0) (sk_row142 hj) (by decide)] at e
    have z0 : st0.1 (j + 142) = fun _ => 0 := by
      funext k
      show (if j + 142 = 8 then (-1 : Int32) else if j + 142 = 23 ∧ k = 3 then 25 else if j + 142 = 59 ∧ k = 65 then -1 else if j + 142 = 59 ∧ k = 56 then 24 else 0) = 0
      rw [if_neg (by omega), if_neg (by omega), if_neg (by omega), if_neg (by omega)]
    rw [z0] at e
    exact (put1_ne (by rw [show off 17 = 41 from rfl]; omega)).trans (e)
  refine K_putR (p := 17) (ci := 0) (kf := 0) (f := 20) rfl kfX0_11 uxX0 tyX0_ok nmX0 rfl (by decide) rfl (tyX0_ok 0 (by decide)) rfl rfl rfl rfl (by decide) dX0_init_14 ?_
  refine K_aload_n (kk := 0) dX0_init_17 rfl rfl ?_
  refine K_iconst (v := 0) dX0_init_18 rfl ?_
  refine K_putZ (p := 17) (ci := 0) (kf := 1) rfl kfX0_16 uxX0 tyX0_ok nmX0 rfl (by decide) rfl (tyX0_ok 1 (by decide)) rfl rfl rfl rfl (by decide) dX0_init_19 ?_
  refine K_aload_n (kk := 0) dX0_init_22 rfl rfl ?_
  refine K_sipush (v := 200) dX0_init_23 rfl ?_
  refine K_newI (q := 19) (N := 200) (c' := 202) (s' := 3200) wArrI (by decide) rfl (by decide) rfl rfl (Nat.le_of_ble_eq_true rfl) (Nat.le_of_ble_eq_true rfl) rfl ((((put1_ne (by decide)).trans (hw 19 (by decide) (by decide) (by decide)))).trans (ce_int (r := 0) rfl (by decide))) (fun _ => rfl) dX0_init_26 ?_
  refine K_skip (kf := 1) rfl rfl ?_
  refine K_putR (p := 17) (ci := 0) (kf := 2) (f := 21) rfl kfX0_20 uxX0 tyX0_ok nmX0 rfl (by decide) rfl (tyX0_ok 2 (by decide)) rfl rfl rfl rfl (by decide) dX0_init_28 ?_
  refine K_aload_n (kk := 0) dX0_init_31 rfl rfl ?_
  refine K_iconst (v := 0) dX0_init_32 rfl ?_
  refine K_putZ (p := 17) (ci := 0) (kf := 3) rfl kfX0_24 uxX0 tyX0_ok nmX0 rfl (by decide) rfl (tyX0_ok 3 (by decide)) rfl rfl rfl rfl (by decide) dX0_init_33 ?_
  refine K_aload_n (kk := 0) dX0_init_36 rfl rfl ?_
  refine K_sipush (v := 400) dX0_init_37 rfl ?_
  refine K_newI (q := 20) (N := 400) (c' := 203) (s' := 3600) wArrI (by decide) rfl (by decide) rfl rfl (Nat.le_of_ble_eq_true rfl) (Nat.le_of_ble_eq_true rfl) rfl ((((put1_ne (by decide)).trans (hw 20 (by decide) (by decide) (by decide)))).trans (ce_int (r := 0) rfl (by decide))) (fun _ => rfl) dX0_init_40 ?_
  refine K_skip (kf := 3) rfl rfl ?_
  refine K_putR (p := 17) (ci := 0) (kf := 4) (f := 22) rfl kfX0_27 uxX0 tyX0_ok nmX0 rfl (by decide) rfl (tyX0_ok 4 (by decide)) rfl rfl rfl rfl (by decide) dX0_init_42 ?_
  refine K_aload_n (kk := 0) dX0_init_45 rfl rfl ?_
  refine K_sipush (v := 400) dX0_init_46 rfl ?_
  refine K_newI (q := 21) (N := 400) (c' := 204) (s' := 4000) wArrI (by decide) rfl (by decide) rfl rfl (Nat.le_of_ble_eq_true rfl) (Nat.le_of_ble_eq_true rfl) rfl ((((put1_ne (by decide)).trans (hw 21 (by decide) (by decide) (by decide)))).trans (ce_int (r := 0) rfl (by decide))) (fun _ => rfl) dX0_init_49 ?_
  refine K_putR (p := 17) (ci := 0) (kf := 5) (f := 23) rfl kfX0_30 uxX0 tyX0_ok nmX0 rfl (by decide) rfl (tyX0_ok 5 (by decide)) rfl rfl rfl rfl (by decide) dX0_init_51 ?_
  refine K_aload_n (kk := 0) dX0_init_54 rfl rfl ?_
  refine K_sipush (v := 400) dX0_init_55 rfl ?_
  refine K_newI (q := 22) (N := 400) (c' := 205) (s' := 4400) wArrI (by decide) rfl (by decide) rfl rfl (Nat.le_of_ble_eq_true rfl) (Nat.le_of_ble_eq_true rfl) rfl ((((put1_ne (by decide)).trans (hw 22 (by decide) (by decide) (by decide)))).trans (ce_int (r := 0) rfl (by decide))) (fun _ => rfl) dX0_init_58 ?_
  refine K_putR (p := 17) (ci := 0) (kf := 6) (f := 24) rfl kfX0_33 uxX0 tyX0_ok nmX0 rfl (by decide) rfl (tyX0_ok 6 (by decide)) rfl rfl rfl rfl (by decide) dX0_init_60 ?_
  refine K_aload_n (kk := 0) dX0_init_63 rfl rfl ?_
  refine K_iconst (v := 0) dX0_init_64 rfl ?_
  refine K_putZ (p := 17) (ci := 0) (kf := 7) rfl kfX0_36 uxX0 tyX0_ok nmX0 rfl (by decide) rfl (tyX0_ok 7 (by decide)) rfl rfl rfl rfl (by decide) dX0_init_65 ?_
  refine K_skip (kf := 7) rfl rfl ?_
  exact K_ret rfl rfl (fun i _ => wk_done (by decide) rfl (hw 17 (by decide) (by decide) (by decide)) i) rfl rfl dX0_init_68
theorem C_23 {Γ : GG} {l : Launch} {z d : Nat} {w : WK} (hw : ∀ q, q < 372 → 247 ≤ off q → off q < 250 → w (off q) = ce Γ st0 q) : CtorG Γ l z (d + 1) 2 160 mX10_init [.ref 23] 248 (wk Γ 23 10 [26, 0, 0, 1, 0] 0 w) 250 w := by
  refine CtorG_of_JK (lv := [(0, .ref 23)]) (by decide) (fun ad => Nat.le_of_ble_eq_true rfl) (fun ad => rfl) ?_
  refine K_aload_n (kk := 0) dX10_init_0 rfl rfl ?_
  refine K_objInit wobX10 wObjI wObjC dX10_init_1 ?_
  refine K_aload_n (kk := 0) dX10_init_4 rfl rfl ?_
  refine K_sipush (v := 160) dX10_init_5 rfl ?_
  refine K_newI (q := 24) (N := 160) (c' := 1) (s' := 160) wArrI (by decide) rfl (by decide) rfl rfl (Nat.le_of_ble_eq_true rfl) (Nat.le_of_ble_eq_true rfl) rfl ((((put1_ne (by decide)).trans (hw 24 (by decide) (by decide) (by decide)))).trans (ce_int (r := 0) rfl (by decide))) (fun _ => rfl) dX10_init_8 ?_
  refine K_putR (p := 23) (ci := 10) (kf := 0) (f := 26) rfl kfX10_9 uxX10 tyX10_ok nmX10 rfl (by decide) rfl (tyX10_ok 0 (by decide)) rfl rfl rfl rfl (by decide) dX10_init_10 ?_
  refine K_aload_n (kk := 0) dX10_init_13 rfl rfl ?_
  refine K_iconst (v := 0) dX10_init_14 rfl ?_
  refine K_putZ (p := 23) (ci := 10) (kf := 1) rfl kfX10_15 uxX10 tyX10_ok nmX10 rfl (by decide) rfl (tyX10_ok 1 (by decide)) rfl rfl rfl rfl (by decide) dX10_init_15 ?_
  refine K_aload_n (kk := 0) dX10_init_18 rfl rfl ?_
  refine K_iconst (v := 0) dX10_init_19 rfl ?_
  refine K_putZ (p := 23) (ci := 10) (kf := 2) rfl kfX10_19 uxX10 tyX10_ok nmX10 rfl (by decide) rfl (tyX10_ok 2 (by decide)) rfl rfl rfl rfl (by decide) dX10_init_20 ?_
  refine K_aload_n (kk := 0) dX10_init_23 rfl rfl ?_
  refine K_iconst (v := 0) dX10_init_24 rfl ?_
  refine K_newI (q := 25) (N := 0) (c' := 2) (s' := 160) wArrI (by decide) rfl (by decide) rfl rfl (Nat.le_of_ble_eq_true rfl) (Nat.le_of_ble_eq_true rfl) rfl ((((put1_ne (by decide)).trans (hw 25 (by decide) (by decide) (by decide)))).trans (ce_int (r := 0) rfl (by decide))) (fun _ => rfl) dX10_init_25 ?_
  refine K_skip (kf := 1) rfl rfl ?_
  refine K_skip (kf := 2) rfl rfl ?_
  refine K_putR (p := 23) (ci := 10) (kf := 3) (f := 1) rfl kfX10_22 uxX10 tyX10_ok nmX10 rfl (by decide) rfl (tyX10_ok 3 (by decide)) rfl rfl rfl rfl (by decide) dX10_init_27 ?_
  refine K_aload_n (kk := 0) dX10_init_30 rfl rfl ?_
  refine K_iconst (v := 0) dX10_init_31 rfl ?_
  refine K_putZ (p := 23) (ci := 10) (kf := 4) rfl kfX10_25 uxX10 tyX10_ok nmX10 rfl (by decide) rfl (tyX10_ok 4 (by decide)) rfl rfl rfl rfl (by decide) dX10_init_32 ?_
  refine K_skip (kf := 4) rfl rfl ?_
  exact K_ret rfl rfl (fun i _ => wk_done (by decide) rfl (hw 23 (by decide) (by decide) (by decide)) i) rfl rfl dX10_init_35
theorem C_26 {Γ : GG} {l : Launch} {z d : Nat} {w : WK} (hw : ∀ q, q < 372 → 250 ≤ off q → off q < 273 → w (off q) = ce Γ st0 q) : CtorG Γ l z (d + 1) 22 2816 mX6_init [.ref 26] 251 (wk Γ 26 6 [29, 30, 31, 32, 33, 0, 34, 0] 0 w) 273 w := by
  refine CtorG_of_JK (lv := [(0, .ref 26)]) (by decide) (fun ad => Nat.le_of_ble_eq_true rfl) (fun ad => rfl) ?_
  refine K_aload_n (kk := 0) dX6_init_0 rfl rfl ?_
  refine K_objInit wobX6 wObjI wObjC dX6_init_1 ?_
  refine K_aload_n (kk := 0) dX6_init_4 rfl rfl ?_
  refine K_bipush (v := 16) dX6_init_5 rfl ?_
  refine K_sipush (v := 161) dX6_init_7 rfl ?_
  refine K_mna (q := 27) (r := 342) (N := 16) (K' := 161) (c' := 17) (s' := 2592) wclX6_9 wArrI (by decide) (by decide) rfl rfl (by decide) (by decide) rfl rfl (Nat.le_of_ble_eq_true rfl) (Nat.le_of_ble_eq_true rfl) rfl (((put1_ne (by decide)).trans (hw 27 (by decide) (by decide) (by decide))).trans (ce_refs (r := 342) rfl)) (fun j hj => offr342 j hj) (fun j hj => ?_) dX6_init_10 ?_
  · have e := hw (j + 342) (by omega) (by rw [offr342 j hj]; omega) (by rw [offr342 j hj]; omega)
    rw [offr342 j hj, ce_int (r := 0) (sk_row342 hj) (by decide)] at e
    have z0 : st0.1 (j + 342) = fun _ => 0 := by
      funext k
      show (if j + 342 = 8 then (-1 : Int32) else if j + 342 = 23 ∧ k = 3 then 25 else if j + 342 = 59 ∧ k = 65 then -1 else if j + 342 = 59 ∧ k = 56 then 24 else 0) = 0
      rw [if_neg (by omega), if_neg (by omega), if_neg (by omega), if_neg (by omega)]
    rw [z0] at e
    exact (put1_ne (by rw [show off 26 = 250 from rfl]; omega)).trans (e)
  refine K_putR (p := 26) (ci := 6) (kf := 0) (f := 29) rfl kfX6_11 uxX6 tyX6_ok nmX6 rfl (by decide) rfl (tyX6_ok 0 (by decide)) rfl rfl rfl rfl (by decide) dX6_init_14 ?_
  refine K_aload_n (kk := 0) dX6_init_17 rfl rfl ?_
  refine K_bipush (v := 16) dX6_init_18 rfl ?_
  refine K_newI (q := 28) (N := 16) (c' := 18) (s' := 2608) wArrI (by decide) rfl (by decide) rfl rfl (Nat.le_of_ble_eq_true rfl) (Nat.le_of_ble_eq_true rfl) rfl ((((put1_ne (by decide)).trans (hw 28 (by decide) (by decide) (by decide)))).trans (ce_int (r := 0) rfl (by decide))) (fun _ => rfl) dX6_init_20 ?_
  refine K_putR (p := 26) (ci := 6) (kf := 1) (f := 30) rfl kfX6_16 uxX6 tyX6_ok nmX6 rfl (by decide) rfl (tyX6_ok 1 (by decide)) rfl rfl rfl rfl (by decide) dX6_init_22 ?_
  refine K_aload_n (kk := 0) dX6_init_25 rfl rfl ?_
  refine K_bipush (v := 16) dX6_init_26 rfl ?_
  refine K_newI (q := 29) (N := 16) (c' := 19) (s' := 2624) wArrI (by decide) rfl (by decide) rfl rfl (Nat.le_of_ble_eq_true rfl) (Nat.le_of_ble_eq_true rfl) rfl ((((put1_ne (by decide)).trans (hw 29 (by decide) (by decide) (by decide)))).trans (ce_int (r := 0) rfl (by decide))) (fun _ => rfl) dX6_init_28 ?_
  refine K_putR (p := 26) (ci := 6) (kf := 2) (f := 31) rfl kfX6_20 uxX6 tyX6_ok nmX6 rfl (by decide) rfl (tyX6_ok 2 (by decide)) rfl rfl rfl rfl (by decide) dX6_init_30 ?_
  refine K_aload_n (kk := 0) dX6_init_33 rfl rfl ?_
  refine K_bipush (v := 16) dX6_init_34 rfl ?_
  refine K_newI (q := 30) (N := 16) (c' := 20) (s' := 2640) wArrI (by decide) rfl (by decide) rfl rfl (Nat.le_of_ble_eq_true rfl) (Nat.le_of_ble_eq_true rfl) rfl ((((put1_ne (by decide)).trans (hw 30 (by decide) (by decide) (by decide)))).trans (ce_int (r := 0) rfl (by decide))) (fun _ => rfl) dX6_init_36 ?_
  refine K_putR (p := 26) (ci := 6) (kf := 3) (f := 32) rfl kfX6_23 uxX6 tyX6_ok nmX6 rfl (by decide) rfl (tyX6_ok 3 (by decide)) rfl rfl rfl rfl (by decide) dX6_init_38 ?_
  refine K_aload_n (kk := 0) dX6_init_41 rfl rfl ?_
  refine K_bipush (v := 16) dX6_init_42 rfl ?_
  refine K_newI (q := 31) (N := 16) (c' := 21) (s' := 2656) wArrI (by decide) rfl (by decide) rfl rfl (Nat.le_of_ble_eq_true rfl) (Nat.le_of_ble_eq_true rfl) rfl ((((put1_ne (by decide)).trans (hw 31 (by decide) (by decide) (by decide)))).trans (ce_int (r := 0) rfl (by decide))) (fun _ => rfl) dX6_init_44 ?_
  refine K_putR (p := 26) (ci := 6) (kf := 4) (f := 33) rfl kfX6_26 uxX6 tyX6_ok nmX6 rfl (by decide) rfl (tyX6_ok 4 (by decide)) rfl rfl rfl rfl (by decide) dX6_init_46 ?_
  refine K_aload_n (kk := 0) dX6_init_49 rfl rfl ?_
  refine K_iconst (v := 0) dX6_init_50 rfl ?_
  refine K_putZ (p := 26) (ci := 6) (kf := 5) rfl kfX6_29 uxX6 tyX6_ok nmX6 rfl (by decide) rfl (tyX6_ok 5 (by decide)) rfl rfl rfl rfl (by decide) dX6_init_51 ?_
  refine K_aload_n (kk := 0) dX6_init_54 rfl rfl ?_
  refine K_sipush (v := 160) dX6_init_55 rfl ?_
  refine K_newI (q := 32) (N := 160) (c' := 22) (s' := 2816) wArrI (by decide) rfl (by decide) rfl rfl (Nat.le_of_ble_eq_true rfl) (Nat.le_of_ble_eq_true rfl) rfl ((((put1_ne (by decide)).trans (hw 32 (by decide) (by decide) (by decide)))).trans (ce_int (r := 0) rfl (by decide))) (fun _ => rfl) dX6_init_58 ?_
  refine K_skip (kf := 5) rfl rfl ?_
  refine K_putR (p := 26) (ci := 6) (kf := 6) (f := 34) rfl kfX6_33 uxX6 tyX6_ok nmX6 rfl (by decide) rfl (tyX6_ok 6 (by decide)) rfl rfl rfl rfl (by decide) dX6_init_60 ?_
  refine K_aload_n (kk := 0) dX6_init_63 rfl rfl ?_
  refine K_iconst (v := 0) dX6_init_64 rfl ?_
  refine K_putZ (p := 26) (ci := 6) (kf := 7) rfl kfX6_36 uxX6 tyX6_ok nmX6 rfl (by decide) rfl (tyX6_ok 7 (by decide)) rfl rfl rfl rfl (by decide) dX6_init_65 ?_
  refine K_skip (kf := 7) rfl rfl ?_
  exact K_ret rfl rfl (fun i _ => wk_done (by decide) rfl (hw 26 (by decide) (by decide) (by decide)) i) rfl rfl dX6_init_68
theorem C_33 {Γ : GG} {l : Launch} {z d : Nat} {w : WK} (hw : ∀ q, q < 372 → 273 ≤ off q → off q < 274 → w (off q) = ce Γ st0 q) : CtorG Γ l z (d + 1) 0 0 mX4_init [.ref 33] 274 (wk Γ 33 4 [0, 0, 0, 0, 0, 0, 0, 0] 0 w) 274 w := by
  refine CtorG_of_JK (lv := [(0, .ref 33)]) (by decide) (fun ad => Nat.le_of_ble_eq_true rfl) (fun ad => rfl) ?_
  refine K_aload_n (kk := 0) dX4_init_0 rfl rfl ?_
  refine K_objInit wobX4 wObjI wObjC dX4_init_1 ?_
  refine K_aload_n (kk := 0) dX4_init_4 rfl rfl ?_
  refine K_iconst (v := 0) dX4_init_5 rfl ?_
  refine K_putZ (p := 33) (ci := 4) (kf := 0) rfl kfX4_7 uxX4 tyX4_ok nmX4 rfl (by decide) rfl (tyX4_ok 0 (by decide)) rfl rfl rfl rfl (by decide) dX4_init_6 ?_
  refine K_aload_n (kk := 0) dX4_init_9 rfl rfl ?_
  refine K_iconst (v := 0) dX4_init_10 rfl ?_
  refine K_putZ (p := 33) (ci := 4) (kf := 1) rfl kfX4_13 uxX4 tyX4_ok nmX4 rfl (by decide) rfl (tyX4_ok 1 (by decide)) rfl rfl rfl rfl (by decide) dX4_init_11 ?_
  refine K_aload_n (kk := 0) dX4_init_14 rfl rfl ?_
  refine K_iconst (v := 0) dX4_init_15 rfl ?_
  refine K_putZ (p := 33) (ci := 4) (kf := 2) rfl kfX4_16 uxX4 tyX4_ok nmX4 rfl (by decide) rfl (tyX4_ok 2 (by decide)) rfl rfl rfl rfl (by decide) dX4_init_16 ?_
  refine K_aload_n (kk := 0) dX4_init_19 rfl rfl ?_
  refine K_iconst (v := 0) dX4_init_20 rfl ?_
  refine K_putZ (p := 33) (ci := 4) (kf := 3) rfl kfX4_19 uxX4 tyX4_ok nmX4 rfl (by decide) rfl (tyX4_ok 3 (by decide)) rfl rfl rfl rfl (by decide) dX4_init_21 ?_
  refine K_aload_n (kk := 0) dX4_init_24 rfl rfl ?_
  refine K_iconst (v := 0) dX4_init_25 rfl ?_
  refine K_putZ (p := 33) (ci := 4) (kf := 4) rfl kfX4_22 uxX4 tyX4_ok nmX4 rfl (by decide) rfl (tyX4_ok 4 (by decide)) rfl rfl rfl rfl (by decide) dX4_init_26 ?_
  refine K_aload_n (kk := 0) dX4_init_29 rfl rfl ?_
  refine K_iconst (v := 0) dX4_init_30 rfl ?_
  refine K_putZ (p := 33) (ci := 4) (kf := 5) rfl kfX4_25 uxX4 tyX4_ok nmX4 rfl (by decide) rfl (tyX4_ok 5 (by decide)) rfl rfl rfl rfl (by decide) dX4_init_31 ?_
  refine K_aload_n (kk := 0) dX4_init_34 rfl rfl ?_
  refine K_iconst (v := 0) dX4_init_35 rfl ?_
  refine K_putZ (p := 33) (ci := 4) (kf := 6) rfl kfX4_28 uxX4 tyX4_ok nmX4 rfl (by decide) rfl (tyX4_ok 6 (by decide)) rfl rfl rfl rfl (by decide) dX4_init_36 ?_
  refine K_aload_n (kk := 0) dX4_init_39 rfl rfl ?_
  refine K_iconst (v := 0) dX4_init_40 rfl ?_
  refine K_putZ (p := 33) (ci := 4) (kf := 7) rfl kfX4_31 uxX4 tyX4_ok nmX4 rfl (by decide) rfl (tyX4_ok 7 (by decide)) rfl rfl rfl rfl (by decide) dX4_init_41 ?_
  refine K_skip (kf := 0) rfl rfl ?_
  refine K_skip (kf := 1) rfl rfl ?_
  refine K_skip (kf := 2) rfl rfl ?_
  refine K_skip (kf := 3) rfl rfl ?_
  refine K_skip (kf := 4) rfl rfl ?_
  refine K_skip (kf := 5) rfl rfl ?_
  refine K_skip (kf := 6) rfl rfl ?_
  refine K_skip (kf := 7) rfl rfl ?_
  exact K_ret rfl rfl (fun i _ => wk_done (by decide) rfl (hw 33 (by decide) (by decide) (by decide)) i) rfl rfl dX4_init_44
theorem C_34 {Γ : GG} {l : Launch} {z d : Nat} {w : WK} (hw : ∀ q, q < 372 → 274 ≤ off q → off q < 284 → w (off q) = ce Γ st0 q) : CtorG Γ l z (d + 1) 9 5800 mX8_init [.ref 34] 275 (wk Γ 34 8 [37, 38, 39, 40, 41, 42, 43, 0, 44, 0, 45] 0 w) 284 w := by
  refine CtorG_of_JK (lv := [(0, .ref 34)]) (by decide) (fun ad => Nat.le_of_ble_eq_true rfl) (fun ad => rfl) ?_
  refine K_aload_n (kk := 0) dX8_init_0 rfl rfl ?_
  refine K_objInit wobX8 wObjI wObjC dX8_init_1 ?_
  refine K_aload_n (kk := 0) dX8_init_4 rfl rfl ?_
  refine K_sipush (v := 600) dX8_init_5 rfl ?_
  refine K_newI (q := 35) (N := 600) (c' := 1) (s' := 600) wArrI (by decide) rfl (by decide) rfl rfl (Nat.le_of_ble_eq_true rfl) (Nat.le_of_ble_eq_true rfl) rfl ((((put1_ne (by decide)).trans (hw 35 (by decide) (by decide) (by decide)))).trans (ce_int (r := 0) rfl (by decide))) (fun _ => rfl) dX8_init_8 ?_
  refine K_putR (p := 34) (ci := 8) (kf := 0) (f := 37) rfl kfX8_9 uxX8 tyX8_ok nmX8 rfl (by decide) rfl (tyX8_ok 0 (by decide)) rfl rfl rfl rfl (by decide) dX8_init_10 ?_
  refine K_aload_n (kk := 0) dX8_init_13 rfl rfl ?_
  refine K_sipush (v := 600) dX8_init_14 rfl ?_
  refine K_newI (q := 36) (N := 600) (c' := 2) (s' := 1200) wArrI (by decide) rfl (by decide) rfl rfl (Nat.le_of_ble_eq_true rfl) (Nat.le_of_ble_eq_true rfl) rfl ((((put1_ne (by decide)).trans (hw 36 (by decide) (by decide) (by decide)))).trans (ce_int (r := 0) rfl (by decide))) (fun _ => rfl) dX8_init_17 ?_
  refine K_putR (p := 34) (ci := 8) (kf := 1) (f := 38) rfl kfX8_15 uxX8 tyX8_ok nmX8 rfl (by decide) rfl (tyX8_ok 1 (by decide)) rfl rfl rfl rfl (by decide) dX8_init_19 ?_
  refine K_aload_n (kk := 0) dX8_init_22 rfl rfl ?_
  refine K_sipush (v := 600) dX8_init_23 rfl ?_
  refine K_newI (q := 37) (N := 600) (c' := 3) (s' := 1800) wArrI (by decide) rfl (by decide) rfl rfl (Nat.le_of_ble_eq_true rfl) (Nat.le_of_ble_eq_true rfl) rfl ((((put1_ne (by decide)).trans (hw 37 (by decide) (by decide) (by decide)))).trans (ce_int (r := 0) rfl (by decide))) (fun _ => rfl) dX8_init_26 ?_
  refine K_putR (p := 34) (ci := 8) (kf := 2) (f := 39) rfl kfX8_18 uxX8 tyX8_ok nmX8 rfl (by decide) rfl (tyX8_ok 2 (by decide)) rfl rfl rfl rfl (by decide) dX8_init_28 ?_
  refine K_aload_n (kk := 0) dX8_init_31 rfl rfl ?_
  refine K_sipush (v := 600) dX8_init_32 rfl ?_
  refine K_newI (q := 38) (N := 600) (c' := 4) (s' := 2400) wArrI (by decide) rfl (by decide) rfl rfl (Nat.le_of_ble_eq_true rfl) (Nat.le_of_ble_eq_true rfl) rfl ((((put1_ne (by decide)).trans (hw 38 (by decide) (by decide) (by decide)))).trans (ce_int (r := 0) rfl (by decide))) (fun _ => rfl) dX8_init_35 ?_
  refine K_putR (p := 34) (ci := 8) (kf := 3) (f := 40) rfl kfX8_21 uxX8 tyX8_ok nmX8 rfl (by decide) rfl (tyX8_ok 3 (by decide)) rfl rfl rfl rfl (by decide) dX8_init_37 ?_
  refine K_aload_n (kk := 0) dX8_init_40 rfl rfl ?_
  refine K_sipush (v := 600) dX8_init_41 rfl ?_
  refine K_newI (q := 39) (N := 600) (c' := 5) (s' := 3000) wArrI (by decide) rfl (by decide) rfl rfl (Nat.le_of_ble_eq_true rfl) (Nat.le_of_ble_eq_true rfl) rfl ((((put1_ne (by decide)).trans (hw 39 (by decide) (by decide) (by decide)))).trans (ce_int (r := 0) rfl (by decide))) (fun _ => rfl) dX8_init_44 ?_
  refine K_putR (p := 34) (ci := 8) (kf := 4) (f := 41) rfl kfX8_24 uxX8 tyX8_ok nmX8 rfl (by decide) rfl (tyX8_ok 4 (by decide)) rfl rfl rfl rfl (by decide) dX8_init_46 ?_
  refine K_aload_n (kk := 0) dX8_init_49 rfl rfl ?_
  refine K_sipush (v := 600) dX8_init_50 rfl ?_
  refine K_newI (q := 40) (N := 600) (c' := 6) (s' := 3600) wArrI (by decide) rfl (by decide) rfl rfl (Nat.le_of_ble_eq_true rfl) (Nat.le_of_ble_eq_true rfl) rfl ((((put1_ne (by decide)).trans (hw 40 (by decide) (by decide) (by decide)))).trans (ce_int (r := 0) rfl (by decide))) (fun _ => rfl) dX8_init_53 ?_
  refine K_putR (p := 34) (ci := 8) (kf := 5) (f := 42) rfl kfX8_27 uxX8 tyX8_ok nmX8 rfl (by decide) rfl (tyX8_ok 5 (by decide)) rfl rfl rfl rfl (by decide) dX8_init_55 ?_
  refine K_aload_n (kk := 0) dX8_init_58 rfl rfl ?_
  refine K_sipush (v := 600) dX8_init_59 rfl ?_
  refine K_newI (q := 41) (N := 600) (c' := 7) (s' := 4200) wArrI (by decide) rfl (by decide) rfl rfl (Nat.le_of_ble_eq_true rfl) (Nat.le_of_ble_eq_true rfl) rfl ((((put1_ne (by decide)).trans (hw 41 (by decide) (by decide) (by decide)))).trans (ce_int (r := 0) rfl (by decide))) (fun _ => rfl) dX8_init_62 ?_
  refine K_putR (p := 34) (ci := 8) (kf := 6) (f := 43) rfl kfX8_30 uxX8 tyX8_ok nmX8 rfl (by decide) rfl (tyX8_ok 6 (by decide)) rfl rfl rfl rfl (by decide) dX8_init_64 ?_
  refine K_aload_n (kk := 0) dX8_init_67 rfl rfl ?_
  refine K_iconst (v := 0) dX8_init_68 rfl ?_
  refine K_putZ (p := 34) (ci := 8) (kf := 7) rfl kfX8_33 uxX8 tyX8_ok nmX8 rfl (by decide) rfl (tyX8_ok 7 (by decide)) rfl rfl rfl rfl (by decide) dX8_init_69 ?_
  refine K_aload_n (kk := 0) dX8_init_72 rfl rfl ?_
  refine K_sipush (v := 600) dX8_init_73 rfl ?_
  refine K_newI (q := 42) (N := 600) (c' := 8) (s' := 4800) wArrI (by decide) rfl (by decide) rfl rfl (Nat.le_of_ble_eq_true rfl) (Nat.le_of_ble_eq_true rfl) rfl ((((put1_ne (by decide)).trans (hw 42 (by decide) (by decide) (by decide)))).trans (ce_int (r := 0) rfl (by decide))) (fun _ => rfl) dX8_init_76 ?_
  refine K_skip (kf := 7) rfl rfl ?_
  refine K_putR (p := 34) (ci := 8) (kf := 8) (f := 44) rfl kfX8_37 uxX8 tyX8_ok nmX8 rfl (by decide) rfl (tyX8_ok 8 (by decide)) rfl rfl rfl rfl (by decide) dX8_init_78 ?_
  refine K_aload_n (kk := 0) dX8_init_81 rfl rfl ?_
  refine K_iconst (v := 0) dX8_init_82 rfl ?_
  refine K_putZ (p := 34) (ci := 8) (kf := 9) rfl kfX8_40 uxX8 tyX8_ok nmX8 rfl (by decide) rfl (tyX8_ok 9 (by decide)) rfl rfl rfl rfl (by decide) dX8_init_83 ?_
  refine K_aload_n (kk := 0) dX8_init_86 rfl rfl ?_
  refine K_sipush (v := 1000) dX8_init_87 rfl ?_
  refine K_newI (q := 43) (N := 1000) (c' := 9) (s' := 5800) wArrI (by decide) rfl (by decide) rfl rfl (Nat.le_of_ble_eq_true rfl) (Nat.le_of_ble_eq_true rfl) rfl ((((put1_ne (by decide)).trans (hw 43 (by decide) (by decide) (by decide)))).trans (ce_int (r := 0) rfl (by decide))) (fun _ => rfl) dX8_init_90 ?_
  refine K_skip (kf := 9) rfl rfl ?_
  refine K_putR (p := 34) (ci := 8) (kf := 10) (f := 45) rfl kfX8_43 uxX8 tyX8_ok nmX8 rfl (by decide) rfl (tyX8_ok 10 (by decide)) rfl rfl rfl rfl (by decide) dX8_init_92 ?_
  exact K_ret rfl rfl (fun i _ => wk_done (by decide) rfl (hw 34 (by decide) (by decide) (by decide)) i) rfl rfl dX8_init_95
theorem C_44 {Γ : GG} {l : Launch} {z d : Nat} {w : WK} (hw : ∀ q, q < 372 → 284 ≤ off q → off q < 303 → w (off q) = ce Γ st0 q) : CtorG Γ l z (d + 1) 18 102 mX2_init [.ref 44] 285 (wk Γ 44 2 [47, 48, 49, 50, 0, 0, 0] 0 w) 303 w := by
  refine CtorG_of_JK (lv := [(0, .ref 44)]) (by decide) (fun ad => Nat.le_of_ble_eq_true rfl) (fun ad => rfl) ?_
  refine K_aload_n (kk := 0) dX2_init_0 rfl rfl ?_
  refine K_objInit wobX2 wObjI wObjC dX2_init_1 ?_
  refine K_aload_n (kk := 0) dX2_init_4 rfl rfl ?_
  refine K_bipush (v := 14) dX2_init_5 rfl ?_
  refine K_iconst (v := 4) dX2_init_7 rfl ?_
  refine K_mna (q := 45) (r := 358) (N := 14) (K' := 4) (c' := 15) (s' := 70) wclX2_9 wArrI (by decide) (by decide) rfl rfl (by decide) (by decide) rfl rfl (Nat.le_of_ble_eq_true rfl) (Nat.le_of_ble_eq_true rfl) rfl (((put1_ne (by decide)).trans (hw 45 (by decide) (by decide) (by decide))).trans (ce_refs (r := 358) rfl)) (fun j hj => offr358 j hj) (fun j hj => ?_) dX2_init_8 ?_
  · have e := hw (j + 358) (by omega) (by rw [offr358 j hj]; omega) (by rw [offr358 j hj]; omega)
    rw [offr358 j hj, ce_int (r := 0) (sk_row358 hj) (by decide)] at e
    have z0 : st0.1 (j + 358) = fun _ => 0 := by
      funext k
      show (if j + 358 = 8 then (-1 : Int32) else if j + 358 = 23 ∧ k = 3 then 25 else if j + 358 = 59 ∧ k = 65 then -1 else if j + 358 = 59 ∧ k = 56 then 24 else 0) = 0
      rw [if_neg (by omega), if_neg (by omega), if_neg (by omega), if_neg (by omega)]
    rw [z0] at e
    exact (put1_ne (by rw [show off 44 = 284 from rfl]; omega)).trans (e)
  refine K_putR (p := 44) (ci := 2) (kf := 0) (f := 47) rfl kfX2_11 uxX2 tyX2_ok nmX2 rfl (by decide) rfl (tyX2_ok 0 (by decide)) rfl rfl rfl rfl (by decide) dX2_init_12 ?_
  refine K_aload_n (kk := 0) dX2_init_15 rfl rfl ?_
  refine K_iconst (v := 4) dX2_init_16 rfl ?_
  refine K_newI (q := 46) (N := 4) (c' := 16) (s' := 74) wArrI (by decide) rfl (by decide) rfl rfl (Nat.le_of_ble_eq_true rfl) (Nat.le_of_ble_eq_true rfl) rfl ((((put1_ne (by decide)).trans (hw 46 (by decide) (by decide) (by decide)))).trans (ce_int (r := 0) rfl (by decide))) (fun _ => rfl) dX2_init_17 ?_
  refine K_putR (p := 44) (ci := 2) (kf := 1) (f := 48) rfl kfX2_16 uxX2 tyX2_ok nmX2 rfl (by decide) rfl (tyX2_ok 1 (by decide)) rfl rfl rfl rfl (by decide) dX2_init_19 ?_
  refine K_aload_n (kk := 0) dX2_init_22 rfl rfl ?_
  refine K_bipush (v := 14) dX2_init_23 rfl ?_
  refine K_newI (q := 47) (N := 14) (c' := 17) (s' := 88) wArrI (by decide) rfl (by decide) rfl rfl (Nat.le_of_ble_eq_true rfl) (Nat.le_of_ble_eq_true rfl) rfl ((((put1_ne (by decide)).trans (hw 47 (by decide) (by decide) (by decide)))).trans (ce_int (r := 0) rfl (by decide))) (fun _ => rfl) dX2_init_25 ?_
  refine K_putR (p := 44) (ci := 2) (kf := 2) (f := 49) rfl kfX2_20 uxX2 tyX2_ok nmX2 rfl (by decide) rfl (tyX2_ok 2 (by decide)) rfl rfl rfl rfl (by decide) dX2_init_27 ?_
  refine K_aload_n (kk := 0) dX2_init_30 rfl rfl ?_
  refine K_bipush (v := 14) dX2_init_31 rfl ?_
  refine K_newI (q := 48) (N := 14) (c' := 18) (s' := 102) wArrI (by decide) rfl (by decide) rfl rfl (Nat.le_of_ble_eq_true rfl) (Nat.le_of_ble_eq_true rfl) rfl ((((put1_ne (by decide)).trans (hw 48 (by decide) (by decide) (by decide)))).trans (ce_int (r := 0) rfl (by decide))) (fun _ => rfl) dX2_init_33 ?_
  refine K_putR (p := 44) (ci := 2) (kf := 3) (f := 50) rfl kfX2_23 uxX2 tyX2_ok nmX2 rfl (by decide) rfl (tyX2_ok 3 (by decide)) rfl rfl rfl rfl (by decide) dX2_init_35 ?_
  refine K_aload_n (kk := 0) dX2_init_38 rfl rfl ?_
  refine K_iconst (v := 0) dX2_init_39 rfl ?_
  refine K_putZ (p := 44) (ci := 2) (kf := 4) rfl kfX2_26 uxX2 tyX2_ok nmX2 rfl (by decide) rfl (tyX2_ok 4 (by decide)) rfl rfl rfl rfl (by decide) dX2_init_40 ?_
  refine K_aload_n (kk := 0) dX2_init_43 rfl rfl ?_
  refine K_iconst (v := 0) dX2_init_44 rfl ?_
  refine K_putZ (p := 44) (ci := 2) (kf := 5) rfl kfX2_30 uxX2 tyX2_ok nmX2 rfl (by decide) rfl (tyX2_ok 5 (by decide)) rfl rfl rfl rfl (by decide) dX2_init_45 ?_
  refine K_aload_n (kk := 0) dX2_init_48 rfl rfl ?_
  refine K_iconst (v := 0) dX2_init_49 rfl ?_
  refine K_putZ (p := 44) (ci := 2) (kf := 6) rfl kfX2_34 uxX2 tyX2_ok nmX2 rfl (by decide) rfl (tyX2_ok 6 (by decide)) rfl rfl rfl rfl (by decide) dX2_init_50 ?_
  refine K_skip (kf := 4) rfl rfl ?_
  refine K_skip (kf := 5) rfl rfl ?_
  refine K_skip (kf := 6) rfl rfl ?_
  exact K_ret rfl rfl (fun i _ => wk_done (by decide) rfl (hw 44 (by decide) (by decide) (by decide)) i) rfl rfl dX2_init_53
theorem C_49 {Γ : GG} {l : Launch} {z d : Nat} {w : WK} (hw : ∀ q, q < 372 → 303 ≤ off q → off q < 309 → w (off q) = ce Γ st0 q) : CtorG Γ l z (d + 1) 5 100 mX1_init [.ref 49] 304 (wk Γ 49 1 [52, 53, 54, 55, 56, 0] 0 w) 309 w := by
  refine CtorG_of_JK (lv := [(0, .ref 49)]) (by decide) (fun ad => Nat.le_of_ble_eq_true rfl) (fun ad => rfl) ?_
  refine K_aload_n (kk := 0) dX1_init_0 rfl rfl ?_
  refine K_objInit wobX1 wObjI wObjC dX1_init_1 ?_
  refine K_aload_n (kk := 0) dX1_init_4 rfl rfl ?_
  refine K_bipush (v := 12) dX1_init_5 rfl ?_
  refine K_newI (q := 50) (N := 12) (c' := 1) (s' := 12) wArrI (by decide) rfl (by decide) rfl rfl (Nat.le_of_ble_eq_true rfl) (Nat.le_of_ble_eq_true rfl) rfl ((((put1_ne (by decide)).trans (hw 50 (by decide) (by decide) (by decide)))).trans (ce_int (r := 0) rfl (by decide))) (fun _ => rfl) dX1_init_7 ?_
  refine K_putR (p := 49) (ci := 1) (kf := 0) (f := 52) rfl kfX1_9 uxX1 tyX1_ok nmX1 rfl (by decide) rfl (tyX1_ok 0 (by decide)) rfl rfl rfl rfl (by decide) dX1_init_9 ?_
  refine K_aload_n (kk := 0) dX1_init_12 rfl rfl ?_
  refine K_bipush (v := 12) dX1_init_13 rfl ?_
  refine K_newI (q := 51) (N := 12) (c' := 2) (s' := 24) wArrI (by decide) rfl (by decide) rfl rfl (Nat.le_of_ble_eq_true rfl) (Nat.le_of_ble_eq_true rfl) rfl ((((put1_ne (by decide)).trans (hw 51 (by decide) (by decide) (by decide)))).trans (ce_int (r := 0) rfl (by decide))) (fun _ => rfl) dX1_init_15 ?_
  refine K_putR (p := 49) (ci := 1) (kf := 1) (f := 53) rfl kfX1_15 uxX1 tyX1_ok nmX1 rfl (by decide) rfl (tyX1_ok 1 (by decide)) rfl rfl rfl rfl (by decide) dX1_init_17 ?_
  refine K_aload_n (kk := 0) dX1_init_20 rfl rfl ?_
  refine K_bipush (v := 6) dX1_init_21 rfl ?_
  refine K_newI (q := 52) (N := 6) (c' := 3) (s' := 30) wArrI (by decide) rfl (by decide) rfl rfl (Nat.le_of_ble_eq_true rfl) (Nat.le_of_ble_eq_true rfl) rfl ((((put1_ne (by decide)).trans (hw 52 (by decide) (by decide) (by decide)))).trans (ce_int (r := 0) rfl (by decide))) (fun _ => rfl) dX1_init_23 ?_
  refine K_putR (p := 49) (ci := 1) (kf := 2) (f := 54) rfl kfX1_18 uxX1 tyX1_ok nmX1 rfl (by decide) rfl (tyX1_ok 2 (by decide)) rfl rfl rfl rfl (by decide) dX1_init_25 ?_
  refine K_aload_n (kk := 0) dX1_init_28 rfl rfl ?_
  refine K_bipush (v := 6) dX1_init_29 rfl ?_
  refine K_newI (q := 53) (N := 6) (c' := 4) (s' := 36) wArrI (by decide) rfl (by decide) rfl rfl (Nat.le_of_ble_eq_true rfl) (Nat.le_of_ble_eq_true rfl) rfl ((((put1_ne (by decide)).trans (hw 53 (by decide) (by decide) (by decide)))).trans (ce_int (r := 0) rfl (by decide))) (fun _ => rfl) dX1_init_31 ?_
  refine K_putR (p := 49) (ci := 1) (kf := 3) (f := 55) rfl kfX1_21 uxX1 tyX1_ok nmX1 rfl (by decide) rfl (tyX1_ok 3 (by decide)) rfl rfl rfl rfl (by decide) dX1_init_33 ?_
  refine K_aload_n (kk := 0) dX1_init_36 rfl rfl ?_
  refine K_bipush (v := 64) dX1_init_37 rfl ?_
  refine K_newJ (q := 54) (N := 64) (c' := 5) (s' := 100) wArrJ (by decide) rfl (by decide) rfl rfl (Nat.le_of_ble_eq_true rfl) (Nat.le_of_ble_eq_true rfl) rfl ((((put1_ne (by decide)).trans (hw 54 (by decide) (by decide) (by decide)))).trans (ce_long (r := 0) rfl)) (fun _ => rfl) dX1_init_39 ?_
  refine K_putR (p := 49) (ci := 1) (kf := 4) (f := 56) rfl kfX1_24 uxX1 tyX1_ok nmX1 rfl (by decide) rfl (tyX1_ok 4 (by decide)) rfl rfl rfl rfl (by decide) dX1_init_41 ?_
  refine K_aload_n (kk := 0) dX1_init_44 rfl rfl ?_
  refine K_iconst (v := 0) dX1_init_45 rfl ?_
  refine K_putZ (p := 49) (ci := 1) (kf := 5) rfl kfX1_28 uxX1 tyX1_ok nmX1 rfl (by decide) rfl (tyX1_ok 5 (by decide)) rfl rfl rfl rfl (by decide) dX1_init_46 ?_
  refine K_skip (kf := 5) rfl rfl ?_
  exact K_ret rfl rfl (fun i _ => wk_done (by decide) rfl (hw 49 (by decide) (by decide) (by decide)) i) rfl rfl dX1_init_49
theorem C_55 {Γ : GG} {l : Launch} {z d : Nat} {w : WK} (hw : ∀ q, q < 372 → 309 ≤ off q → off q < 311 → w (off q) = ce Γ st0 q) : CtorG Γ l z (d + 1) 1 10 mX7_init [.ref 55, .int 10] 310 (wk Γ 55 7 [58, 0] 0 w) 311 w := by
  refine CtorG_of_JK (lv := [(0, .ref 55), (1, .int 10)]) (by decide) (fun ad => Nat.le_of_ble_eq_true rfl) (fun ad => rfl) ?_
  refine K_aload_n (kk := 0) dX7_init_0 rfl rfl ?_
  refine K_objInit wobX7 wObjI wObjC dX7_init_1 ?_
  refine K_aload_n (kk := 0) dX7_init_4 rfl rfl ?_
  refine K_iconst (v := 0) dX7_init_5 rfl ?_
  refine K_putZ (p := 55) (ci := 7) (kf := 1) rfl kfX7_9 uxX7 tyX7_ok nmX7 rfl (by decide) rfl (tyX7_ok 1 (by decide)) rfl rfl rfl rfl (by decide) dX7_init_6 ?_
  refine K_aload_n (kk := 0) dX7_init_9 rfl rfl ?_
  refine K_iconst (v := 0) dX7_init_10 rfl ?_
  refine K_iload_n (kk := 1) dX7_init_11 rfl rfl ?_
  refine K_mmax klX7_15 (by decide) (Nat.zero_le _) (Nat.zero_le _) dX7_init_12 ?_
  rw [show (if (0 : Int32) < 10 then (10 : Int32) else 0) = 10 from rfl]
  refine K_newI (q := 56) (N := 10) (c' := 1) (s' := 10) wArrI (by decide) rfl (by decide) rfl rfl (Nat.le_of_ble_eq_true rfl) (Nat.le_of_ble_eq_true rfl) rfl ((((put1_ne (by decide)).trans (hw 56 (by decide) (by decide) (by decide)))).trans (ce_int (r := 0) rfl (by decide))) (fun _ => rfl) dX7_init_15 ?_
  refine K_putR (p := 55) (ci := 7) (kf := 0) (f := 58) rfl kfX7_21 uxX7 tyX7_ok nmX7 rfl (by decide) rfl (tyX7_ok 0 (by decide)) rfl rfl rfl rfl (by decide) dX7_init_17 ?_
  refine K_skip (kf := 1) rfl rfl ?_
  exact K_ret rfl rfl (fun i _ => wk_done (by decide) rfl (hw 55 (by decide) (by decide) (by decide)) i) rfl rfl dX7_init_20
theorem C_4 {Γ : GG} {l : Launch} {z d : Nat} {w : WK} (hw : ∀ q, q < 372 → 4 ≤ off q → off q < 35 → w (off q) = ce Γ st0 q) : CtorG Γ l z (d + 2) 30 302 mX9_init [.ref 4] 5 (wk Γ 4 9 [7, 9, 10, 11, 12] 0 w) 35 w := by
  refine CtorG_of_JK (lv := [(0, .ref 4)]) (by decide) (fun ad => Nat.le_of_ble_eq_true rfl) (fun ad => rfl) ?_
  refine K_to (w' := wk Γ 4 9 [7, 9, 10, 11, 12] 0 (put1 w 8 (.inl (Γ.2.1 0, 12, .inl (fun _ => 0))))) (fun i hi => ?_) ?_
  · unfold wk put1
    split
    · rfl
    · rw [if_neg (by omega)]
  refine K_aload_n (kk := 0) dX9_init_0 rfl rfl ?_
  refine K_objInit wobX9 wObjI wObjC dX9_init_1 ?_
  refine K_aload_n (kk := 0) dX9_init_4 rfl rfl ?_
  refine K_new (q := 5) (ci := 7) (fk := [8, 0]) (c' := 1) (s' := 2) uxX7 tyX7_ok wclX9_9 winX7 winiX7 rfl (dfl_of rfl) rfl rfl (Nat.le_of_ble_eq_true rfl) (Nat.le_of_ble_eq_true rfl) rfl dX9_init_5 ?_
  refine K_dup dX9_init_8 rfl ?_
  refine K_bipush (v := 12) dX9_init_9 rfl ?_
  refine K_callI (b := 5) (n2 := 7) (c' := 2) (s' := 14) [.int 12] [.ref 5, .ref 4] calX7_init rfl rfl wimX7 wilX9_11 (C_5 (d := d) (fun q h1 h2 h3 => (put1_ne (by rw [show off 4 = 4 from rfl]; omega)).trans ((put1_ne (by omega)).trans (hw q h1 (by omega) (by omega))))) rfl rfl (by decide) rfl rfl (Nat.le_of_ble_eq_true rfl) (Nat.le_of_ble_eq_true rfl) dX9_init_11 ?_
  refine K_putR (p := 4) (ci := 9) (kf := 0) (f := 7) rfl kfX9_14 uxX9 tyX9_ok nmX9 rfl (by decide) rfl (tyX9_ok 0 (by decide)) rfl rfl rfl rfl (by decide) dX9_init_14 ?_
  refine K_aload_n (kk := 0) dX9_init_17 rfl rfl ?_
  refine K_bipush (v := 12) dX9_init_18 rfl ?_
  refine K_newI (q := 7) (N := 12) (c' := 3) (s' := 26) wArrI (by decide) rfl (by decide) rfl rfl (Nat.le_of_ble_eq_true rfl) (Nat.le_of_ble_eq_true rfl) rfl ((((put1_ne (by decide)).trans ((put1_ne (by decide)).trans (hw 7 (by decide) (by decide) (by decide))))).trans (ce_int (r := 0) rfl (by decide))) (fun _ => rfl) dX9_init_20 ?_
  refine K_putR (p := 4) (ci := 9) (kf := 1) (f := 9) rfl kfX9_20 uxX9 tyX9_ok nmX9 rfl (by decide) rfl (tyX9_ok 1 (by decide)) rfl rfl rfl rfl (by decide) dX9_init_22 ?_
  refine K_aload_n (kk := 0) dX9_init_25 rfl rfl ?_
  refine K_bipush (v := 12) dX9_init_26 rfl ?_
  refine K_newI (q := 8) (N := 12) (c' := 4) (s' := 38) wArrI (by decide) rfl (by decide) rfl rfl (Nat.le_of_ble_eq_true rfl) (Nat.le_of_ble_eq_true rfl) rfl ((put1_ne (by decide)).trans put1_at) (fun _ => rfl) dX9_init_28 ?_
  refine K_putR (p := 4) (ci := 9) (kf := 2) (f := 10) rfl kfX9_24 uxX9 tyX9_ok nmX9 rfl (by decide) rfl (tyX9_ok 2 (by decide)) rfl rfl rfl rfl (by decide) dX9_init_30 ?_
  refine K_aload_n (kk := 0) dX9_init_33 rfl rfl ?_
  refine K_bipush (v := 12) dX9_init_34 rfl ?_
  refine K_bipush (v := 10) dX9_init_36 rfl ?_
  refine K_mna (q := 9) (r := 118) (N := 12) (K' := 10) (c' := 17) (s' := 170) wclX9_27 wArrI (by decide) (by decide) rfl rfl (by decide) (by decide) rfl rfl (Nat.le_of_ble_eq_true rfl) (Nat.le_of_ble_eq_true rfl) rfl (((put1_ne (by decide)).trans ((put1_ne (by decide)).trans (hw 9 (by decide) (by decide) (by decide)))).trans (ce_refs (r := 118) rfl)) (fun j hj => offr118 j hj) (fun j hj => ?_) dX9_init_38 ?_
  · have e := hw (j + 118) (by omega) (by rw [offr118 j hj]; omega) (by rw [offr118 j hj]; omega)
    rw [offr118 j hj, ce_int (r := 0) (sk_row118 hj) (by decide)] at e
    have z0 : st0.1 (j + 118) = fun _ => 0 := by
      funext k
      show (if j + 118 = 8 then (-1 : Int32) else if j + 118 = 23 ∧ k = 3 then 25 else if j + 118 = 59 ∧ k = 65 then -1 else if j + 118 = 59 ∧ k = 56 then 24 else 0) = 0
      rw [if_neg (by omega), if_neg (by omega), if_neg (by omega), if_neg (by omega)]
    rw [z0] at e
    exact (put1_ne (by rw [show off 4 = 4 from rfl]; omega)).trans ((put1_ne (by omega)).trans e)
  refine K_putR (p := 4) (ci := 9) (kf := 3) (f := 11) rfl kfX9_29 uxX9 tyX9_ok nmX9 rfl (by decide) rfl (tyX9_ok 3 (by decide)) rfl rfl rfl rfl (by decide) dX9_init_42 ?_
  refine K_aload_n (kk := 0) dX9_init_45 rfl rfl ?_
  refine K_bipush (v := 12) dX9_init_46 rfl ?_
  refine K_bipush (v := 10) dX9_init_48 rfl ?_
  refine K_mna (q := 10) (r := 130) (N := 12) (K' := 10) (c' := 30) (s' := 302) wclX9_27 wArrI (by decide) (by decide) rfl rfl (by decide) (by decide) rfl rfl (Nat.le_of_ble_eq_true rfl) (Nat.le_of_ble_eq_true rfl) rfl (((put1_ne (by decide)).trans ((put1_ne (by decide)).trans (hw 10 (by decide) (by decide) (by decide)))).trans (ce_refs (r := 130) rfl)) (fun j hj => offr130 j hj) (fun j hj => ?_) dX9_init_50 ?_
  · have e := hw (j + 130) (by omega) (by rw [offr130 j hj]; omega) (by rw [offr130 j hj]; omega)
    rw [offr130 j hj, ce_int (r := 0) (sk_row130 hj) (by decide)] at e
    have z0 : st0.1 (j + 130) = fun _ => 0 := by
      funext k
      show (if j + 130 = 8 then (-1 : Int32) else if j + 130 = 23 ∧ k = 3 then 25 else if j + 130 = 59 ∧ k = 65 then -1 else if j + 130 = 59 ∧ k = 56 then 24 else 0) = 0
      rw [if_neg (by omega), if_neg (by omega), if_neg (by omega), if_neg (by omega)]
    rw [z0] at e
    exact (put1_ne (by rw [show off 4 = 4 from rfl]; omega)).trans ((put1_ne (by omega)).trans e)
  refine K_putR (p := 4) (ci := 9) (kf := 4) (f := 12) rfl kfX9_32 uxX9 tyX9_ok nmX9 rfl (by decide) rfl (tyX9_ok 4 (by decide)) rfl rfl rfl rfl (by decide) dX9_init_54 ?_
  refine K_aload_n (kk := 0) dX9_init_57 rfl rfl ?_
  refine K_getr (p := 4) (ci := 9) (kf := 2) (v := .ref 8) kfX9_24 uxX9 rfl (by decide) put1_at (by decide) rfl dX9_init_58 ?_
  refine K_iconst (v := (-1)) dX9_init_61 rfl ?_
  refine K_callS (n2 := 35) (c' := 30) (s' := 302) [.ref 8, .int (-1)] [] calJ7_fill_53178 klX9_35 (C_fill (q := 8) (N := 12) (by decide) (by decide) ((put1_ne (by decide)).trans put1_at)) rfl rfl (by decide) rfl rfl (Nat.le_of_ble_eq_true rfl) (Nat.le_of_ble_eq_true rfl) dX9_init_62 ?_
  refine K_ret rfl rfl (fun i hi => ?_) rfl rfl dX9_init_65
  have e8 := (hw 8 (by decide) (by decide) (by decide)).trans (ce_int (n := 12) (r := 0) rfl (by decide))
  by_cases h8 : i = off 8
  · subst h8
    rw [put1_at, e8]
    rfl
  · rw [put1_ne h8]
    by_cases h4 : i = off 4
    · subst h4
      rw [show wk Γ 4 9 [7, 9, 10, 11, 12] 5 (put1 w 8 (.inl (Γ.2.1 0, 12, .inl (fun _ => 0)))) (off 4) = wk Γ 4 9 [7, 9, 10, 11, 12] 5 w (off 4) from put1_at.trans put1_at.symm]
      exact wk_done (by decide) rfl (hw 4 (by decide) (by decide) (by decide)) _
    · exact (put1_ne h4).trans (put1_ne h8)

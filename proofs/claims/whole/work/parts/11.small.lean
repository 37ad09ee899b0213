/-! SMALL METHODS: walks (w_, M_) and what they answer (S_) -/
def Kc (C : Prop) (σ : St) : Int32 → St → Prop := fun x σ' => σ = σ' ∧ ((C ∧ x = 1) ∨ (¬ C ∧ x = 0))
def Kv (e : Int32) (σ : St) : Int32 → St → Prop := fun x σ' => σ = σ' ∧ x = e
def KvL (e : Int64) (σ : St) : Int64 → St → Prop := fun x σ' => σ = σ' ∧ x = e
def offI (a b : Int32) : Int32 := if a < b then b - a else a - b
set_option maxHeartbeats 4000000 in
set_option maxRecDepth 100000 in
theorem w_X11_isFrom_0 {Γ : GG} {l : Launch} {d : Nat} {Q : Option Value → St → Prop} {σ : St} (a0 : Int32) (a1 : Int32) (a2 : Int32) (h : (a1 < a0 → Q (some (.int (0))) σ) ∧ (¬ a1 < a0 → (a2 < a1 → Q (some (.int (0))) σ) ∧ (¬ a2 < a1 → Q (some (.int (1))) σ))) : J Γ l d mX11_isFrom Q 0 [(0, .int a0), (1, .int a1), (2, .int a2)] [] σ := by
  refine J_iload_n (i := 1) (kk := 1) dX11_isFrom_0 rfl rfl ?_
  refine J_iload_n (i := 0) (kk := 0) dX11_isFrom_1 rfl rfl ?_
  refine J_icmp_lt 14 dX11_isFrom_2 (by decide) (fun hc => ?_) (fun hc => ?_)
  · replace h := h.1 hc
    refine J_iconst (v := 0) dX11_isFrom_14 (by decide) ?_
    exact J_zret rfl (by decide) dX11_isFrom_15 h
  · replace h := h.2 hc
    refine J_iload_n (i := 1) (kk := 1) dX11_isFrom_5 rfl rfl ?_
    refine J_iload_n (i := 2) (kk := 2) dX11_isFrom_6 rfl rfl ?_
    refine J_icmp_gt 14 dX11_isFrom_7 (by decide) (fun hc => ?_) (fun hc => ?_)
    · replace h := h.1 hc
      refine J_iconst (v := 0) dX11_isFrom_14 (by decide) ?_
      exact J_zret rfl (by decide) dX11_isFrom_15 h
    · replace h := h.2 hc
      refine J_iconst (v := 1) dX11_isFrom_10 (by decide) ?_
      refine J_goto (tgt := 15) dX11_isFrom_11 (by decide) ?_
      exact J_zret rfl (by decide) dX11_isFrom_15 h
theorem M_X11_isFrom {Γ : GG} {l : Launch} {d : Nat} {Q : Option Value → St → Prop} {σ : St} (a0 : Int32) (a1 : Int32) (a2 : Int32) (k : J Γ l d mX11_isFrom Q 0 [(0, .int a0), (1, .int a1), (2, .int a2)] [] σ) : Meth Γ l d mX11_isFrom [.int a0, .int a1, .int a2] σ Q := Meth_of_J (by decide +kernel) (fun _ => Nat.le_of_ble_eq_true rfl) (fun _ => rfl) k
theorem S_X11_isFrom {Γ : GG} {l : Launch} {d : Nat} {σ : St} (a0 a1 a2 : Int32) : Meth Γ l d mX11_isFrom [.int a0, .int a1, .int a2] σ (KI (Kc (a0 ≤ a1 ∧ a1 ≤ a2) σ)) := by
  refine M_X11_isFrom a0 a1 a2 (w_X11_isFrom_0 a0 a1 a2 ?_)
  repeat' (apply And.intro <;> intro)
  all_goals first | exact ⟨_, rfl, rfl, Or.inl ⟨by simp only [Int32.le_iff_toInt_le, Int32.lt_iff_toInt_lt, ← Int32.toInt_inj] at *; omega, rfl⟩⟩ | exact ⟨_, rfl, rfl, Or.inr ⟨by simp only [Int32.le_iff_toInt_le, Int32.lt_iff_toInt_lt, ← Int32.toInt_inj] at *; omega, rfl⟩⟩
set_option maxHeartbeats 4000000 in
set_option maxRecDepth 100000 in
theorem w_X11_isBelow_0 {Γ : GG} {l : Launch} {d : Nat} {Q : Option Value → St → Prop} {σ : St} (a0 : Int32) (a1 : Int32) (h : (a0 < (0 : Int32) → Q (some (.int (0))) σ) ∧ (¬ a0 < (0 : Int32) → (a1 ≤ a0 → Q (some (.int (0))) σ) ∧ (¬ a1 ≤ a0 → Q (some (.int (1))) σ))) : J Γ l d mX11_isBelow Q 0 [(0, .int a0), (1, .int a1)] [] σ := by
  refine J_iload_n (i := 0) (kk := 0) dX11_isBelow_0 rfl rfl ?_
  refine J_if_lt 13 dX11_isBelow_1 (by decide) (fun hc => ?_) (fun hc => ?_)
  · replace h := h.1 hc
    refine J_iconst (v := 0) dX11_isBelow_13 (by decide) ?_
    exact J_zret rfl (by decide) dX11_isBelow_14 h
  · replace h := h.2 hc
    refine J_iload_n (i := 0) (kk := 0) dX11_isBelow_4 rfl rfl ?_
    refine J_iload_n (i := 1) (kk := 1) dX11_isBelow_5 rfl rfl ?_
    refine J_icmp_ge 13 dX11_isBelow_6 (by decide) (fun hc => ?_) (fun hc => ?_)
    · replace h := h.1 hc
      refine J_iconst (v := 0) dX11_isBelow_13 (by decide) ?_
      exact J_zret rfl (by decide) dX11_isBelow_14 h
    · replace h := h.2 hc
      refine J_iconst (v := 1) dX11_isBelow_9 (by decide) ?_
      refine J_goto (tgt := 14) dX11_isBelow_10 (by decide) ?_
      exact J_zret rfl (by decide) dX11_isBelow_14 h
theorem M_X11_isBelow {Γ : GG} {l : Launch} {d : Nat} {Q : Option Value → St → Prop} {σ : St} (a0 : Int32) (a1 : Int32) (k : J Γ l d mX11_isBelow Q 0 [(0, .int a0), (1, .int a1)] [] σ) : Meth Γ l d mX11_isBelow [.int a0, .int a1] σ Q := Meth_of_J (by decide +kernel) (fun _ => Nat.le_of_ble_eq_true rfl) (fun _ => rfl) k
theorem S_X11_isBelow {Γ : GG} {l : Launch} {d : Nat} {σ : St} (a0 a1 : Int32) : Meth Γ l d mX11_isBelow [.int a0, .int a1] σ (KI (Kc (0 ≤ a0 ∧ a0 < a1) σ)) := by
  refine M_X11_isBelow a0 a1 (w_X11_isBelow_0 a0 a1 ?_)
  repeat' (apply And.intro <;> intro)
  all_goals first | exact ⟨_, rfl, rfl, Or.inl ⟨by simp only [Int32.le_iff_toInt_le, Int32.lt_iff_toInt_lt, ← Int32.toInt_inj] at *; omega, rfl⟩⟩ | exact ⟨_, rfl, rfl, Or.inr ⟨by simp only [Int32.le_iff_toInt_le, Int32.lt_iff_toInt_lt, ← Int32.toInt_inj] at *; omega, rfl⟩⟩
set_option maxHeartbeats 4000000 in
set_option maxRecDepth 100000 in
theorem w_X11_areDays_0 {Γ : GG} {l : Launch} {d : Nat} {Q : Option Value → St → Prop} {σ : St} (a0 : Int32) (a1 : Int32) (h : (a0 < (0 : Int32) → Q (some (.int (0))) σ) ∧ (¬ a0 < (0 : Int32) → (a1 < a0 → Q (some (.int (0))) σ) ∧ (¬ a1 < a0 → ((1500 : Int32) ≤ a1 → Q (some (.int (0))) σ) ∧ (¬ (1500 : Int32) ≤ a1 → Q (some (.int (1))) σ)))) : J Γ l d mX11_areDays Q 0 [(0, .int a0), (1, .int a1)] [] σ := by
  refine J_iload_n (i := 0) (kk := 0) dX11_areDays_0 rfl rfl ?_
  refine J_if_lt 20 dX11_areDays_1 (by decide) (fun hc => ?_) (fun hc => ?_)
  · replace h := h.1 hc
    refine J_iconst (v := 0) dX11_areDays_20 (by decide) ?_
    exact J_zret rfl (by decide) dX11_areDays_21 h
  · replace h := h.2 hc
    refine J_iload_n (i := 0) (kk := 0) dX11_areDays_4 rfl rfl ?_
    refine J_iload_n (i := 1) (kk := 1) dX11_areDays_5 rfl rfl ?_
    refine J_icmp_gt 20 dX11_areDays_6 (by decide) (fun hc => ?_) (fun hc => ?_)
    · replace h := h.1 hc
      refine J_iconst (v := 0) dX11_areDays_20 (by decide) ?_
      exact J_zret rfl (by decide) dX11_areDays_21 h
    · replace h := h.2 hc
      refine J_iload_n (i := 1) (kk := 1) dX11_areDays_9 rfl rfl ?_
      refine J_sipush (v := 1500) dX11_areDays_10 (by decide) ?_
      refine J_icmp_ge 20 dX11_areDays_13 (by decide) (fun hc => ?_) (fun hc => ?_)
      · replace h := h.1 hc
        refine J_iconst (v := 0) dX11_areDays_20 (by decide) ?_
        exact J_zret rfl (by decide) dX11_areDays_21 h
      · replace h := h.2 hc
        refine J_iconst (v := 1) dX11_areDays_16 (by decide) ?_
        refine J_goto (tgt := 21) dX11_areDays_17 (by decide) ?_
        exact J_zret rfl (by decide) dX11_areDays_21 h
theorem M_X11_areDays {Γ : GG} {l : Launch} {d : Nat} {Q : Option Value → St → Prop} {σ : St} (a0 : Int32) (a1 : Int32) (k : J Γ l d mX11_areDays Q 0 [(0, .int a0), (1, .int a1)] [] σ) : Meth Γ l d mX11_areDays [.int a0, .int a1] σ Q := Meth_of_J (by decide +kernel) (fun _ => Nat.le_of_ble_eq_true rfl) (fun _ => rfl) k
theorem S_X11_areDays {Γ : GG} {l : Launch} {d : Nat} {σ : St} (a0 a1 : Int32) : Meth Γ l d mX11_areDays [.int a0, .int a1] σ (KI (Kc (0 ≤ a0 ∧ a0 ≤ a1 ∧ a1 < 1500) σ)) := by
  refine M_X11_areDays a0 a1 (w_X11_areDays_0 a0 a1 ?_)
  repeat' (apply And.intro <;> intro)
  all_goals first | exact ⟨_, rfl, rfl, Or.inl ⟨by simp only [Int32.le_iff_toInt_le, Int32.lt_iff_toInt_lt, ← Int32.toInt_inj] at *; omega, rfl⟩⟩ | exact ⟨_, rfl, rfl, Or.inr ⟨by simp only [Int32.le_iff_toInt_le, Int32.lt_iff_toInt_lt, ← Int32.toInt_inj] at *; omega, rfl⟩⟩
set_option maxHeartbeats 4000000 in
set_option maxRecDepth 100000 in
theorem w_X3_today_0 {Γ : GG} {l : Launch} {d : Nat} {Q : Option Value → St → Prop} {σ : St}  (h : Q (some (.int ((rd σ 1 2) / (24 : Int32)))) σ) : J Γ l d mX3_today Q 0 [(0, .ref 1)] [] σ := by
  refine J_aload_n (i := 0) (kk := 0) dX3_today_0 rfl rfl ?_
  refine J_getI (q := 1) (ci := 3) (kf := 2) kfX3_18 uxX3 rfl (by decide) rfl (by decide) rfl dX3_today_1 ?_
  refine J_bipush (v := 24) dX3_today_4 (by decide) ?_
  refine J_idiv dX3_today_6 (by decide) ?_
  exact J_iret rfl dX3_today_7 h
theorem M_X3_today {Γ : GG} {l : Launch} {d : Nat} {Q : Option Value → St → Prop} {σ : St}  (k : J Γ l d mX3_today Q 0 [(0, .ref 1)] [] σ) : Meth Γ l d mX3_today [.ref 1] σ Q := Meth_of_J (by decide +kernel) (fun _ => Nat.le_of_ble_eq_true rfl) (fun _ => rfl) k
theorem S_X3_today {Γ : GG} {l : Launch} {d : Nat} {σ : St} : Meth Γ l d mX3_today [.ref 1] σ (KI (Kv ((rd σ 1 2) / (24 : Int32)) σ)) := by
  refine M_X3_today  (w_X3_today_0  ?_)
  exact ⟨_, rfl, rfl, rfl⟩
set_option maxHeartbeats 4000000 in
set_option maxRecDepth 100000 in
theorem w_X3_hourOfDay_0 {Γ : GG} {l : Launch} {d : Nat} {Q : Option Value → St → Prop} {σ : St}  (h : Q (some (.int ((rd σ 1 2) - (rd σ 1 2) / (24 : Int32) * (24 : Int32)))) σ) : J Γ l d mX3_hourOfDay Q 0 [(0, .ref 1)] [] σ := by
  refine J_aload_n (i := 0) (kk := 0) dX3_hourOfDay_0 rfl rfl ?_
  refine J_getI (q := 1) (ci := 3) (kf := 2) kfX3_18 uxX3 rfl (by decide) rfl (by decide) rfl dX3_hourOfDay_1 ?_
  refine J_bipush (v := 24) dX3_hourOfDay_4 (by decide) ?_
  refine J_irem dX3_hourOfDay_6 (by decide) ?_
  exact J_iret rfl dX3_hourOfDay_7 h
theorem M_X3_hourOfDay {Γ : GG} {l : Launch} {d : Nat} {Q : Option Value → St → Prop} {σ : St}  (k : J Γ l d mX3_hourOfDay Q 0 [(0, .ref 1)] [] σ) : Meth Γ l d mX3_hourOfDay [.ref 1] σ Q := Meth_of_J (by decide +kernel) (fun _ => Nat.le_of_ble_eq_true rfl) (fun _ => rfl) k
theorem S_X3_hourOfDay {Γ : GG} {l : Launch} {d : Nat} {σ : St} : Meth Γ l d mX3_hourOfDay [.ref 1] σ (KI (Kv ((rd σ 1 2) - (rd σ 1 2) / (24 : Int32) * (24 : Int32)) σ)) := by
  refine M_X3_hourOfDay  (w_X3_hourOfDay_0  ?_)
  exact ⟨_, rfl, rfl, rfl⟩
set_option maxHeartbeats 4000000 in
set_option maxRecDepth 100000 in
theorem w_X3_weatherNow_0 {Γ : GG} {l : Launch} {d : Nat} {Q : Option Value → St → Prop} {σ : St}  (h : vp_in ((rd σ 1 2) / (24 : Int32)) 1500 ∧ Q (some (.int (rd σ 2 (((rd σ 1 2) / (24 : Int32)).toNatClampNeg)))) σ) : J Γ l (d + 1) mX3_weatherNow Q 0 [(0, .ref 1)] [] σ := by
  refine J_aload_n (i := 0) (kk := 0) dX3_weatherNow_0 rfl rfl ?_
  refine J_getR 2 (q := 1) (ci := 3) (kf := 0) kfX3_9 uxX3 rfl (by decide) rfl (by decide) rfl dX3_weatherNow_1 ?_
  refine J_aload_n (i := 0) (kk := 0) dX3_weatherNow_4 rfl rfl ?_
  refine J_callV [] [.ref 2] calX3_today klX3_30 (b := 1) (ci := 3) (by decide) rfl rfl rfl rfl (Nat.le_of_ble_eq_true rfl) dX3_weatherNow_5 (KI.to (S_X3_today) ?_)
  rintro x9 s9 ⟨rfl, rfl⟩
  have b1 := h.1
  replace h := h.2
  refine J_ald (((rd σ 1 2) / (24 : Int32)).toNatClampNeg) rfl (by decide) rfl b1 dX3_weatherNow_8 ?_
  exact J_iret rfl dX3_weatherNow_9 h
theorem M_X3_weatherNow {Γ : GG} {l : Launch} {d : Nat} {Q : Option Value → St → Prop} {σ : St}  (k : J Γ l (d + 1) mX3_weatherNow Q 0 [(0, .ref 1)] [] σ) : Meth Γ l (d + 1) mX3_weatherNow [.ref 1] σ Q := Meth_of_J (by decide +kernel) (fun _ => Nat.le_of_ble_eq_true rfl) (fun _ => rfl) k
theorem S_X3_weatherNow {Γ : GG} {l : Launch} {d : Nat} {σ : St} (hv : vp_in ((rd σ 1 2) / (24 : Int32)) 1500) : Meth Γ l (d + 1) mX3_weatherNow [.ref 1] σ (KI (Kv ((rd σ 2 (((rd σ 1 2) / (24 : Int32)).toNatClampNeg))) σ)) := by
  refine M_X3_weatherNow  (w_X3_weatherNow_0  ?_)
  exact ⟨hv, _, rfl, rfl, rfl⟩
set_option maxHeartbeats 4000000 in
set_option maxRecDepth 100000 in
theorem w_X3_isOpen_0 {Γ : GG} {l : Launch} {d : Nat} {Q : Option Value → St → Prop} {σ : St}  (h : ((6 : Int32) ≤ ((rd σ 1 2) - (rd σ 1 2) / (24 : Int32) * (24 : Int32)) ∧ ((rd σ 1 2) - (rd σ 1 2) / (24 : Int32) * (24 : Int32)) ≤ (19 : Int32) → Q (some (.int (1))) σ) ∧ (¬ ((6 : Int32) ≤ ((rd σ 1 2) - (rd σ 1 2) / (24 : Int32) * (24 : Int32)) ∧ ((rd σ 1 2) - (rd σ 1 2) / (24 : Int32) * (24 : Int32)) ≤ (19 : Int32)) → Q (some (.int (0))) σ)) : J Γ l (d + 1) mX3_isOpen Q 0 [(0, .ref 1)] [] σ := by
  refine J_bipush (v := 6) dX3_isOpen_0 (by decide) ?_
  refine J_aload_n (i := 0) (kk := 0) dX3_isOpen_2 rfl rfl ?_
  refine J_callV [] [.int (6)] calX3_hourOfDay klX3_22 (b := 1) (ci := 3) (by decide) rfl rfl rfl rfl (Nat.le_of_ble_eq_true rfl) dX3_isOpen_3 (KI.to (S_X3_hourOfDay) ?_)
  rintro x9 s9 ⟨rfl, rfl⟩
  refine J_bipush (v := 19) dX3_isOpen_6 (by decide) ?_
  refine J_callSN [.int (6), .int ((rd σ 1 2) - (rd σ 1 2) / (24 : Int32) * (24 : Int32)), .int (19)] [] calX11_isFrom knX3_26 rfl rfl (Nat.le_of_ble_eq_true rfl) dX3_isOpen_8 (KI.to (S_X11_isFrom (6 : Int32) ((rd σ 1 2) - (rd σ 1 2) / (24 : Int32) * (24 : Int32)) (19 : Int32)) ?_)
  rintro x9 s9 ⟨rfl, ⟨g1, rfl⟩ | ⟨g1, rfl⟩⟩
  · replace h := h.1 g1
    exact J_zret rfl (by decide) dX3_isOpen_11 h
  · replace h := h.2 g1
    exact J_zret rfl (by decide) dX3_isOpen_11 h
theorem M_X3_isOpen {Γ : GG} {l : Launch} {d : Nat} {Q : Option Value → St → Prop} {σ : St}  (k : J Γ l (d + 1) mX3_isOpen Q 0 [(0, .ref 1)] [] σ) : Meth Γ l (d + 1) mX3_isOpen [.ref 1] σ Q := Meth_of_J (by decide +kernel) (fun _ => Nat.le_of_ble_eq_true rfl) (fun _ => rfl) k
theorem S_X3_isOpen {Γ : GG} {l : Launch} {d : Nat} {σ : St} : Meth Γ l (d + 1) mX3_isOpen [.ref 1] σ (KI (Kc (6 ≤ (rd σ 1 2) - (rd σ 1 2) / (24 : Int32) * (24 : Int32) ∧ (rd σ 1 2) - (rd σ 1 2) / (24 : Int32) * (24 : Int32) ≤ 19) σ)) := by
  refine M_X3_isOpen  (w_X3_isOpen_0  ?_)
  repeat' (apply And.intro <;> intro)
  all_goals first | exact ⟨_, rfl, rfl, Or.inl ⟨by simp only [Int32.le_iff_toInt_le, Int32.lt_iff_toInt_lt, ← Int32.toInt_inj] at *; omega, rfl⟩⟩ | exact ⟨_, rfl, rfl, Or.inr ⟨by simp only [Int32.le_iff_toInt_le, Int32.lt_iff_toInt_lt, ← Int32.toInt_inj] at *; omega, rfl⟩⟩
set_option maxHeartbeats 4000000 in
set_option maxRecDepth 100000 in
theorem w_X7_has_5_0 {Γ : GG} {l : Launch} {d : Nat} {Q : Option Value → St → Prop} {σ : St} (a1 : Int32) (h : (0 ≤ a1 ∧ a1 < (rd σ 5 1) → Q (some (.int (1))) σ) ∧ (¬ (0 ≤ a1 ∧ a1 < (rd σ 5 1)) → Q (some (.int (0))) σ)) : J Γ l (d + 1) mX7_has Q 0 [(0, .ref 5), (1, .int a1)] [] σ := by
  refine J_iload_n (i := 1) (kk := 1) dX7_has_0 rfl rfl ?_
  refine J_aload_n (i := 0) (kk := 0) dX7_has_1 rfl rfl ?_
  refine J_getI (q := 5) (ci := 7) (kf := 1) kfX7_9 uxX7 rfl (by decide) rfl (by decide) rfl dX7_has_2 ?_
  refine J_callSN [.int a1, .int (rd σ 5 1)] [] calX11_isBelow knX7_25 rfl rfl (Nat.le_of_ble_eq_true rfl) dX7_has_5 (KI.to (S_X11_isBelow a1 (rd σ 5 1)) ?_)
  rintro x9 s9 ⟨rfl, ⟨g1, rfl⟩ | ⟨g1, rfl⟩⟩
  · replace h := h.1 g1
    exact J_zret rfl (by decide) dX7_has_8 h
  · replace h := h.2 g1
    exact J_zret rfl (by decide) dX7_has_8 h
theorem M_X7_has_5 {Γ : GG} {l : Launch} {d : Nat} {Q : Option Value → St → Prop} {σ : St} (a1 : Int32) (k : J Γ l (d + 1) mX7_has Q 0 [(0, .ref 5), (1, .int a1)] [] σ) : Meth Γ l (d + 1) mX7_has [.ref 5, .int a1] σ Q := Meth_of_J (by decide +kernel) (fun _ => Nat.le_of_ble_eq_true rfl) (fun _ => rfl) k
theorem S_X7_has_5 {Γ : GG} {l : Launch} {d : Nat} {σ : St} (a1 : Int32) : Meth Γ l (d + 1) mX7_has [.ref 5, .int a1] σ (KI (Kc (0 ≤ a1 ∧ a1 < (rd σ 5 1)) σ)) := by
  refine M_X7_has_5 a1 (w_X7_has_5_0 a1 ?_)
  repeat' (apply And.intro <;> intro)
  all_goals first | exact ⟨_, rfl, rfl, Or.inl ⟨by simp only [Int32.le_iff_toInt_le, Int32.lt_iff_toInt_lt, ← Int32.toInt_inj] at *; omega, rfl⟩⟩ | exact ⟨_, rfl, rfl, Or.inr ⟨by simp only [Int32.le_iff_toInt_le, Int32.lt_iff_toInt_lt, ← Int32.toInt_inj] at *; omega, rfl⟩⟩
set_option maxHeartbeats 4000000 in
set_option maxRecDepth 100000 in
theorem w_X7_has_55_0 {Γ : GG} {l : Launch} {d : Nat} {Q : Option Value → St → Prop} {σ : St} (a1 : Int32) (h : (0 ≤ a1 ∧ a1 < (rd σ 55 1) → Q (some (.int (1))) σ) ∧ (¬ (0 ≤ a1 ∧ a1 < (rd σ 55 1)) → Q (some (.int (0))) σ)) : J Γ l (d + 1) mX7_has Q 0 [(0, .ref 55), (1, .int a1)] [] σ := by
  refine J_iload_n (i := 1) (kk := 1) dX7_has_0 rfl rfl ?_
  refine J_aload_n (i := 0) (kk := 0) dX7_has_1 rfl rfl ?_
  refine J_getI (q := 55) (ci := 7) (kf := 1) kfX7_9 uxX7 rfl (by decide) rfl (by decide) rfl dX7_has_2 ?_
  refine J_callSN [.int a1, .int (rd σ 55 1)] [] calX11_isBelow knX7_25 rfl rfl (Nat.le_of_ble_eq_true rfl) dX7_has_5 (KI.to (S_X11_isBelow a1 (rd σ 55 1)) ?_)
  rintro x9 s9 ⟨rfl, ⟨g1, rfl⟩ | ⟨g1, rfl⟩⟩
  · replace h := h.1 g1
    exact J_zret rfl (by decide) dX7_has_8 h
  · replace h := h.2 g1
    exact J_zret rfl (by decide) dX7_has_8 h
theorem M_X7_has_55 {Γ : GG} {l : Launch} {d : Nat} {Q : Option Value → St → Prop} {σ : St} (a1 : Int32) (k : J Γ l (d + 1) mX7_has Q 0 [(0, .ref 55), (1, .int a1)] [] σ) : Meth Γ l (d + 1) mX7_has [.ref 55, .int a1] σ Q := Meth_of_J (by decide +kernel) (fun _ => Nat.le_of_ble_eq_true rfl) (fun _ => rfl) k
theorem S_X7_has_55 {Γ : GG} {l : Launch} {d : Nat} {σ : St} (a1 : Int32) : Meth Γ l (d + 1) mX7_has [.ref 55, .int a1] σ (KI (Kc (0 ≤ a1 ∧ a1 < (rd σ 55 1)) σ)) := by
  refine M_X7_has_55 a1 (w_X7_has_55_0 a1 ?_)
  repeat' (apply And.intro <;> intro)
  all_goals first | exact ⟨_, rfl, rfl, Or.inl ⟨by simp only [Int32.le_iff_toInt_le, Int32.lt_iff_toInt_lt, ← Int32.toInt_inj] at *; omega, rfl⟩⟩ | exact ⟨_, rfl, rfl, Or.inr ⟨by simp only [Int32.le_iff_toInt_le, Int32.lt_iff_toInt_lt, ← Int32.toInt_inj] at *; omega, rfl⟩⟩
set_option maxHeartbeats 4000000 in
set_option maxRecDepth 100000 in
theorem w_X5_has_0 {Γ : GG} {l : Launch} {d : Nat} {Q : Option Value → St → Prop} {σ : St} (a1 : Int32) (h : (0 ≤ a1 ∧ a1 < (rd σ 11 5) → Q (some (.int (1))) σ) ∧ (¬ (0 ≤ a1 ∧ a1 < (rd σ 11 5)) → Q (some (.int (0))) σ)) : J Γ l (d + 1) mX5_has Q 0 [(0, .ref 11), (1, .int a1)] [] σ := by
  refine J_iload_n (i := 1) (kk := 1) dX5_has_0 rfl rfl ?_
  refine J_aload_n (i := 0) (kk := 0) dX5_has_1 rfl rfl ?_
  refine J_getI (q := 11) (ci := 5) (kf := 5) kfX5_27 uxX5 rfl (by decide) rfl (by decide) rfl dX5_has_2 ?_
  refine J_callSN [.int a1, .int (rd σ 11 5)] [] calX11_isBelow knX5_31 rfl rfl (Nat.le_of_ble_eq_true rfl) dX5_has_5 (KI.to (S_X11_isBelow a1 (rd σ 11 5)) ?_)
  rintro x9 s9 ⟨rfl, ⟨g1, rfl⟩ | ⟨g1, rfl⟩⟩
  · replace h := h.1 g1
    exact J_zret rfl (by decide) dX5_has_8 h
  · replace h := h.2 g1
    exact J_zret rfl (by decide) dX5_has_8 h
theorem M_X5_has {Γ : GG} {l : Launch} {d : Nat} {Q : Option Value → St → Prop} {σ : St} (a1 : Int32) (k : J Γ l (d + 1) mX5_has Q 0 [(0, .ref 11), (1, .int a1)] [] σ) : Meth Γ l (d + 1) mX5_has [.ref 11, .int a1] σ Q := Meth_of_J (by decide +kernel) (fun _ => Nat.le_of_ble_eq_true rfl) (fun _ => rfl) k
theorem S_X5_has {Γ : GG} {l : Launch} {d : Nat} {σ : St} (a1 : Int32) : Meth Γ l (d + 1) mX5_has [.ref 11, .int a1] σ (KI (Kc (0 ≤ a1 ∧ a1 < (rd σ 11 5)) σ)) := by
  refine M_X5_has a1 (w_X5_has_0 a1 ?_)
  repeat' (apply And.intro <;> intro)
  all_goals first | exact ⟨_, rfl, rfl, Or.inl ⟨by simp only [Int32.le_iff_toInt_le, Int32.lt_iff_toInt_lt, ← Int32.toInt_inj] at *; omega, rfl⟩⟩ | exact ⟨_, rfl, rfl, Or.inr ⟨by simp only [Int32.le_iff_toInt_le, Int32.lt_iff_toInt_lt, ← Int32.toInt_inj] at *; omega, rfl⟩⟩
set_option maxHeartbeats 4000000 in
set_option maxRecDepth 100000 in
theorem w_X0_has_0 {Γ : GG} {l : Launch} {d : Nat} {Q : Option Value → St → Prop} {σ : St} (a1 : Int32) (h : (0 ≤ a1 ∧ a1 < (rd σ 17 1) → Q (some (.int (1))) σ) ∧ (¬ (0 ≤ a1 ∧ a1 < (rd σ 17 1)) → Q (some (.int (0))) σ)) : J Γ l (d + 1) mX0_has Q 0 [(0, .ref 17), (1, .int a1)] [] σ := by
  refine J_iload_n (i := 1) (kk := 1) dX0_has_0 rfl rfl ?_
  refine J_aload_n (i := 0) (kk := 0) dX0_has_1 rfl rfl ?_
  refine J_getI (q := 17) (ci := 0) (kf := 1) kfX0_16 uxX0 rfl (by decide) rfl (by decide) rfl dX0_has_2 ?_
  refine J_callSN [.int a1, .int (rd σ 17 1)] [] calX11_isBelow knX0_39 rfl rfl (Nat.le_of_ble_eq_true rfl) dX0_has_5 (KI.to (S_X11_isBelow a1 (rd σ 17 1)) ?_)
  rintro x9 s9 ⟨rfl, ⟨g1, rfl⟩ | ⟨g1, rfl⟩⟩
  · replace h := h.1 g1
    exact J_zret rfl (by decide) dX0_has_8 h
  · replace h := h.2 g1
    exact J_zret rfl (by decide) dX0_has_8 h
theorem M_X0_has {Γ : GG} {l : Launch} {d : Nat} {Q : Option Value → St → Prop} {σ : St} (a1 : Int32) (k : J Γ l (d + 1) mX0_has Q 0 [(0, .ref 17), (1, .int a1)] [] σ) : Meth Γ l (d + 1) mX0_has [.ref 17, .int a1] σ Q := Meth_of_J (by decide +kernel) (fun _ => Nat.le_of_ble_eq_true rfl) (fun _ => rfl) k
theorem S_X0_has {Γ : GG} {l : Launch} {d : Nat} {σ : St} (a1 : Int32) : Meth Γ l (d + 1) mX0_has [.ref 17, .int a1] σ (KI (Kc (0 ≤ a1 ∧ a1 < (rd σ 17 1)) σ)) := by
  refine M_X0_has a1 (w_X0_has_0 a1 ?_)
  repeat' (apply And.intro <;> intro)
  all_goals first | exact ⟨_, rfl, rfl, Or.inl ⟨by simp only [Int32.le_iff_toInt_le, Int32.lt_iff_toInt_lt, ← Int32.toInt_inj] at *; omega, rfl⟩⟩ | exact ⟨_, rfl, rfl, Or.inr ⟨by simp only [Int32.le_iff_toInt_le, Int32.lt_iff_toInt_lt, ← Int32.toInt_inj] at *; omega, rfl⟩⟩
set_option maxHeartbeats 4000000 in
set_option maxRecDepth 100000 in
theorem w_X0_room_0 {Γ : GG} {l : Launch} {d : Nat} {Q : Option Value → St → Prop} {σ : St}  (h : Q (some (.int ((200 : Int32) - (rd σ 17 1)))) σ) : J Γ l d mX0_room Q 0 [(0, .ref 17)] [] σ := by
  refine J_sipush (v := 200) dX0_room_0 (by decide) ?_
  refine J_aload_n (i := 0) (kk := 0) dX0_room_3 rfl rfl ?_
  refine J_getI (q := 17) (ci := 0) (kf := 1) kfX0_16 uxX0 rfl (by decide) rfl (by decide) rfl dX0_room_4 ?_
  refine J_isub dX0_room_7 ?_
  exact J_iret rfl dX0_room_8 h
theorem M_X0_room {Γ : GG} {l : Launch} {d : Nat} {Q : Option Value → St → Prop} {σ : St}  (k : J Γ l d mX0_room Q 0 [(0, .ref 17)] [] σ) : Meth Γ l d mX0_room [.ref 17] σ Q := Meth_of_J (by decide +kernel) (fun _ => Nat.le_of_ble_eq_true rfl) (fun _ => rfl) k
theorem S_X0_room {Γ : GG} {l : Launch} {d : Nat} {σ : St} : Meth Γ l d mX0_room [.ref 17] σ (KI (Kv ((200 : Int32) - (rd σ 17 1)) σ)) := by
  refine M_X0_room  (w_X0_room_0  ?_)
  exact ⟨_, rfl, rfl, rfl⟩
set_option maxHeartbeats 4000000 in
set_option maxRecDepth 100000 in
theorem w_X5_coinsAt_0 {Γ : GG} {l : Launch} {d : Nat} {Q : Option Value → St → Prop} {σ : St} (a1 : Int32) (a2 : Int32) (h : vp_in a1 10 ∧ Q (some (.int (((rd σ 12 (a1.toNatClampNeg)) * ((4 : Int32) - a2)) / (4 : Int32)))) σ) : J Γ l d mX5_coinsAt Q 0 [(0, .ref 11), (1, .int a1), (2, .int a2)] [] σ := by
  refine J_aload_n (i := 0) (kk := 0) dX5_coinsAt_0 rfl rfl ?_
  refine J_getR 12 (q := 11) (ci := 5) (kf := 0) kfX5_9 uxX5 rfl (by decide) rfl (by decide) rfl dX5_coinsAt_1 ?_
  refine J_iload_n (i := 1) (kk := 1) dX5_coinsAt_4 rfl rfl ?_
  have b1 := h.1
  replace h := h.2
  refine J_ald (a1.toNatClampNeg) rfl (by decide) rfl b1 dX5_coinsAt_5 ?_
  refine J_iconst (v := 4) dX5_coinsAt_6 (by decide) ?_
  refine J_iload_n (i := 2) (kk := 2) dX5_coinsAt_7 rfl rfl ?_
  refine J_isub dX5_coinsAt_8 ?_
  refine J_imul dX5_coinsAt_9 ?_
  refine J_iconst (v := 4) dX5_coinsAt_10 (by decide) ?_
  refine J_idiv dX5_coinsAt_11 (by decide) ?_
  exact J_iret rfl dX5_coinsAt_12 h
theorem M_X5_coinsAt {Γ : GG} {l : Launch} {d : Nat} {Q : Option Value → St → Prop} {σ : St} (a1 : Int32) (a2 : Int32) (k : J Γ l d mX5_coinsAt Q 0 [(0, .ref 11), (1, .int a1), (2, .int a2)] [] σ) : Meth Γ l d mX5_coinsAt [.ref 11, .int a1, .int a2] σ Q := Meth_of_J (by decide +kernel) (fun _ => Nat.le_of_ble_eq_true rfl) (fun _ => rfl) k
theorem S_X5_coinsAt {Γ : GG} {l : Launch} {d : Nat} {σ : St} (a1 a2 : Int32) (hv : vp_in a1 10) : Meth Γ l d mX5_coinsAt [.ref 11, .int a1, .int a2] σ (KI (Kv (((rd σ 12 a1.toNatClampNeg) * ((4 : Int32) - a2)) / (4 : Int32)) σ)) := by
  refine M_X5_coinsAt a1 a2 (w_X5_coinsAt_0 a1 a2 ?_)
  exact ⟨hv, _, rfl, rfl, rfl⟩
set_option maxHeartbeats 4000000 in
set_option maxRecDepth 100000 in
theorem w_X5_wasteCost_0 {Γ : GG} {l : Launch} {d : Nat} {Q : Option Value → St → Prop} {σ : St} (a1 : Int32) (h : vp_in a1 10 ∧ Q (some (.int ((rd σ 13 (a1.toNatClampNeg)) + (rd σ 16 (a1.toNatClampNeg))))) σ) : J Γ l d mX5_wasteCost Q 0 [(0, .ref 11), (1, .int a1)] [] σ := by
  refine J_aload_n (i := 0) (kk := 0) dX5_wasteCost_0 rfl rfl ?_
  refine J_getR 13 (q := 11) (ci := 5) (kf := 1) kfX5_15 uxX5 rfl (by decide) rfl (by decide) rfl dX5_wasteCost_1 ?_
  refine J_iload_n (i := 1) (kk := 1) dX5_wasteCost_4 rfl rfl ?_
  have b1 := h.1
  replace h := h.2
  refine J_ald (a1.toNatClampNeg) rfl (by decide) rfl b1 dX5_wasteCost_5 ?_
  refine J_aload_n (i := 0) (kk := 0) dX5_wasteCost_6 rfl rfl ?_
  refine J_getR 16 (q := 11) (ci := 5) (kf := 4) kfX5_24 uxX5 rfl (by decide) rfl (by decide) rfl dX5_wasteCost_7 ?_
  refine J_iload_n (i := 1) (kk := 1) dX5_wasteCost_10 rfl rfl ?_
  refine J_ald (a1.toNatClampNeg) rfl (by decide) rfl b1 dX5_wasteCost_11 ?_
  refine J_iadd dX5_wasteCost_12 ?_
  exact J_iret rfl dX5_wasteCost_13 h
theorem M_X5_wasteCost {Γ : GG} {l : Launch} {d : Nat} {Q : Option Value → St → Prop} {σ : St} (a1 : Int32) (k : J Γ l d mX5_wasteCost Q 0 [(0, .ref 11), (1, .int a1)] [] σ) : Meth Γ l d mX5_wasteCost [.ref 11, .int a1] σ Q := Meth_of_J (by decide +kernel) (fun _ => Nat.le_of_ble_eq_true rfl) (fun _ => rfl) k
theorem S_X5_wasteCost {Γ : GG} {l : Launch} {d : Nat} {σ : St} (a1 : Int32) (hv : vp_in a1 10) : Meth Γ l d mX5_wasteCost [.ref 11, .int a1] σ (KI (Kv ((rd σ 13 a1.toNatClampNeg) + (rd σ 16 a1.toNatClampNeg)) σ)) := by
  refine M_X5_wasteCost a1 (w_X5_wasteCost_0 a1 ?_)
  exact ⟨hv, _, rfl, rfl, rfl⟩
set_option maxHeartbeats 4000000 in
set_option maxRecDepth 100000 in
theorem w_X5_lackCost_0 {Γ : GG} {l : Launch} {d : Nat} {Q : Option Value → St → Prop} {σ : St} (a1 : Int32) (h : vp_in a1 10 ∧ Q (some (.int (mxI (0 : Int32) ((rd σ 12 (a1.toNatClampNeg)) - (rd σ 13 (a1.toNatClampNeg)))))) σ) : J Γ l (d + 1) mX5_lackCost Q 0 [(0, .ref 11), (1, .int a1)] [] σ := by
  refine J_iconst (v := 0) dX5_lackCost_0 (by decide) ?_
  refine J_aload_n (i := 0) (kk := 0) dX5_lackCost_1 rfl rfl ?_
  refine J_getR 12 (q := 11) (ci := 5) (kf := 0) kfX5_9 uxX5 rfl (by decide) rfl (by decide) rfl dX5_lackCost_2 ?_
  refine J_iload_n (i := 1) (kk := 1) dX5_lackCost_5 rfl rfl ?_
  have b1 := h.1
  replace h := h.2
  refine J_ald (a1.toNatClampNeg) rfl (by decide) rfl b1 dX5_lackCost_6 ?_
  refine J_aload_n (i := 0) (kk := 0) dX5_lackCost_7 rfl rfl ?_
  refine J_getR 13 (q := 11) (ci := 5) (kf := 1) kfX5_15 uxX5 rfl (by decide) rfl (by decide) rfl dX5_lackCost_8 ?_
  refine J_iload_n (i := 1) (kk := 1) dX5_lackCost_11 rfl rfl ?_
  refine J_ald (a1.toNatClampNeg) rfl (by decide) rfl b1 dX5_lackCost_12 ?_
  refine J_isub dX5_lackCost_13 ?_
  refine J_mmax klX5_35 (Nat.le_of_ble_eq_true rfl) dX5_lackCost_14 ?_
  exact J_iret rfl dX5_lackCost_17 h
theorem M_X5_lackCost {Γ : GG} {l : Launch} {d : Nat} {Q : Option Value → St → Prop} {σ : St} (a1 : Int32) (k : J Γ l (d + 1) mX5_lackCost Q 0 [(0, .ref 11), (1, .int a1)] [] σ) : Meth Γ l (d + 1) mX5_lackCost [.ref 11, .int a1] σ Q := Meth_of_J (by decide +kernel) (fun _ => Nat.le_of_ble_eq_true rfl) (fun _ => rfl) k
theorem S_X5_lackCost {Γ : GG} {l : Launch} {d : Nat} {σ : St} (a1 : Int32) (hv : vp_in a1 10) : Meth Γ l (d + 1) mX5_lackCost [.ref 11, .int a1] σ (KI (Kv (mxI (0 : Int32) ((rd σ 12 a1.toNatClampNeg) - (rd σ 13 a1.toNatClampNeg))) σ)) := by
  refine M_X5_lackCost a1 (w_X5_lackCost_0 a1 ?_)
  exact ⟨hv, _, rfl, rfl, rfl⟩
set_option maxHeartbeats 4000000 in
set_option maxRecDepth 100000 in
theorem w_X11_hasBoth_0 {Γ : GG} {l : Launch} {d : Nat} {Q : Option Value → St → Prop} {σ : St} (a1 : Int32) (a2 : Int32) (h : (0 ≤ a1 ∧ a1 < (rd σ 5 1) → (0 ≤ a2 ∧ a2 < (rd σ 11 5) → Q (some (.int (1))) σ) ∧ (¬ (0 ≤ a2 ∧ a2 < (rd σ 11 5)) → Q (some (.int (0))) σ)) ∧ (¬ (0 ≤ a1 ∧ a1 < (rd σ 5 1)) → Q (some (.int (0))) σ)) : J Γ l (d + 2) mX11_hasBoth Q 0 [(0, .ref 0), (1, .int a1), (2, .int a2)] [] σ := by
  refine J_aload_n (i := 0) (kk := 0) dX11_hasBoth_0 rfl rfl ?_
  refine J_getR 4 (q := 0) (ci := 11) (kf := 1) kfX11_19 uxX11 rfl (by decide) rfl (by decide) rfl dX11_hasBoth_1 ?_
  refine J_getR 5 (q := 4) (ci := 9) (kf := 0) kfX11_103 uxX9 rfl (by decide) rfl (by decide) rfl dX11_hasBoth_4 ?_
  refine J_iload_n (i := 1) (kk := 1) dX11_hasBoth_7 rfl rfl ?_
  refine J_callV [.int a1] [] calX7_has klX11_272 (b := 5) (ci := 7) (by decide) rfl rfl rfl rfl (Nat.le_of_ble_eq_true rfl) dX11_hasBoth_8 (KI.to (S_X7_has_5 a1) ?_)
  rintro x9 s9 ⟨rfl, ⟨g2, rfl⟩ | ⟨g2, rfl⟩⟩
  · replace h := h.1 g2
    refine J_if_eq 29 dX11_hasBoth_11 (by decide) (fun hc => absurd hc (by decide)) (fun _ => ?_)
    refine J_aload_n (i := 0) (kk := 0) dX11_hasBoth_14 rfl rfl ?_
    refine J_getR 11 (q := 0) (ci := 11) (kf := 2) kfX11_26 uxX11 rfl (by decide) rfl (by decide) rfl dX11_hasBoth_15 ?_
    refine J_iload_n (i := 2) (kk := 2) dX11_hasBoth_18 rfl rfl ?_
    refine J_callV [.int a2] [] calX5_has klX11_117 (b := 11) (ci := 5) (by decide) rfl rfl rfl rfl (Nat.le_of_ble_eq_true rfl) dX11_hasBoth_19 (KI.to (S_X5_has a2) ?_)
    rintro x9 s9 ⟨rfl, ⟨g1, rfl⟩ | ⟨g1, rfl⟩⟩
    · replace h := h.1 g1
      refine J_if_eq 29 dX11_hasBoth_22 (by decide) (fun hc => absurd hc (by decide)) (fun _ => ?_)
      refine J_iconst (v := 1) dX11_hasBoth_25 (by decide) ?_
      refine J_goto (tgt := 30) dX11_hasBoth_26 (by decide) ?_
      exact J_zret rfl (by decide) dX11_hasBoth_30 h
    · replace h := h.2 g1
      refine J_if_eq 29 dX11_hasBoth_22 (by decide) (fun _ => ?_) (fun hc => absurd hc (by decide))
      refine J_iconst (v := 0) dX11_hasBoth_29 (by decide) ?_
      exact J_zret rfl (by decide) dX11_hasBoth_30 h
  · replace h := h.2 g2
    refine J_if_eq 29 dX11_hasBoth_11 (by decide) (fun _ => ?_) (fun hc => absurd hc (by decide))
    refine J_iconst (v := 0) dX11_hasBoth_29 (by decide) ?_
    exact J_zret rfl (by decide) dX11_hasBoth_30 h
theorem M_X11_hasBoth {Γ : GG} {l : Launch} {d : Nat} {Q : Option Value → St → Prop} {σ : St} (a1 : Int32) (a2 : Int32) (k : J Γ l (d + 2) mX11_hasBoth Q 0 [(0, .ref 0), (1, .int a1), (2, .int a2)] [] σ) : Meth Γ l (d + 2) mX11_hasBoth [.ref 0, .int a1, .int a2] σ Q := Meth_of_J (by decide +kernel) (fun _ => Nat.le_of_ble_eq_true rfl) (fun _ => rfl) k
theorem S_X11_hasBoth {Γ : GG} {l : Launch} {d : Nat} {σ : St} (a1 a2 : Int32) : Meth Γ l (d + 2) mX11_hasBoth [.ref 0, .int a1, .int a2] σ (KI (Kc ((0 ≤ a1 ∧ a1 < (rd σ 5 1)) ∧ 0 ≤ a2 ∧ a2 < (rd σ 11 5)) σ)) := by
  refine M_X11_hasBoth a1 a2 (w_X11_hasBoth_0 a1 a2 ?_)
  exact ⟨fun h1 => ⟨fun h2 => ⟨_, rfl, rfl, Or.inl ⟨⟨h1, h2⟩, rfl⟩⟩, fun h2 => ⟨_, rfl, rfl, Or.inr ⟨fun c => h2 c.2, rfl⟩⟩⟩, fun h1 => ⟨_, rfl, rfl, Or.inr ⟨fun c => h1 c.1, rfl⟩⟩⟩
set_option maxHeartbeats 4000000 in
set_option maxRecDepth 100000 in
theorem w_X1_shiftOf_0 {Γ : GG} {l : Launch} {d : Nat} {Q : Option Value → St → Prop} {σ : St} (a0 : Int32) (h : Q (some (.int ((4 : Int32) * ((5 : Int32) - a0)))) σ) : J Γ l d mX1_shiftOf Q 0 [(0, .int a0)] [] σ := by
  refine J_iconst (v := 4) dX1_shiftOf_0 (by decide) ?_
  refine J_iconst (v := 5) dX1_shiftOf_1 (by decide) ?_
  refine J_iload_n (i := 0) (kk := 0) dX1_shiftOf_2 rfl rfl ?_
  refine J_isub dX1_shiftOf_3 ?_
  refine J_imul dX1_shiftOf_4 ?_
  exact J_iret rfl dX1_shiftOf_5 h
theorem M_X1_shiftOf {Γ : GG} {l : Launch} {d : Nat} {Q : Option Value → St → Prop} {σ : St} (a0 : Int32) (k : J Γ l d mX1_shiftOf Q 0 [(0, .int a0)] [] σ) : Meth Γ l d mX1_shiftOf [.int a0] σ Q := Meth_of_J (by decide +kernel) (fun _ => Nat.le_of_ble_eq_true rfl) (fun _ => rfl) k
theorem S_X1_shiftOf {Γ : GG} {l : Launch} {d : Nat} {σ : St} (a0 : Int32) : Meth Γ l d mX1_shiftOf [.int a0] σ (KI (Kv ((4 : Int32) * ((5 : Int32) - a0)) σ)) := by
  refine M_X1_shiftOf a0 (w_X1_shiftOf_0 a0 ?_)
  exact ⟨_, rfl, rfl, rfl⟩
set_option maxHeartbeats 4000000 in
set_option maxRecDepth 100000 in
theorem w_X12_in_0 {Γ : GG} {l : Launch} {d : Nat} {Q : Option Value → St → Prop} {σ : St} (a0 : Int32) (a1 : Int32) (a2 : Int32) (h : (a0 < a1 → Q (some (.int (0))) σ) ∧ (¬ a0 < a1 → (a2 < a0 → Q (some (.int (0))) σ) ∧ (¬ a2 < a0 → Q (some (.int (1))) σ))) : J Γ l d mX12_in Q 0 [(0, .int a0), (1, .int a1), (2, .int a2)] [] σ := by
  refine J_iload_n (i := 0) (kk := 0) dX12_in_0 rfl rfl ?_
  refine J_iload_n (i := 1) (kk := 1) dX12_in_1 rfl rfl ?_
  refine J_icmp_lt 14 dX12_in_2 (by decide) (fun hc => ?_) (fun hc => ?_)
  · replace h := h.1 hc
    refine J_iconst (v := 0) dX12_in_14 (by decide) ?_
    exact J_zret rfl (by decide) dX12_in_15 h
  · replace h := h.2 hc
    refine J_iload_n (i := 0) (kk := 0) dX12_in_5 rfl rfl ?_
    refine J_iload_n (i := 2) (kk := 2) dX12_in_6 rfl rfl ?_
    refine J_icmp_gt 14 dX12_in_7 (by decide) (fun hc => ?_) (fun hc => ?_)
    · replace h := h.1 hc
      refine J_iconst (v := 0) dX12_in_14 (by decide) ?_
      exact J_zret rfl (by decide) dX12_in_15 h
    · replace h := h.2 hc
      refine J_iconst (v := 1) dX12_in_10 (by decide) ?_
      refine J_goto (tgt := 15) dX12_in_11 (by decide) ?_
      exact J_zret rfl (by decide) dX12_in_15 h
theorem M_X12_in {Γ : GG} {l : Launch} {d : Nat} {Q : Option Value → St → Prop} {σ : St} (a0 : Int32) (a1 : Int32) (a2 : Int32) (k : J Γ l d mX12_in Q 0 [(0, .int a0), (1, .int a1), (2, .int a2)] [] σ) : Meth Γ l d mX12_in [.int a0, .int a1, .int a2] σ Q := Meth_of_J (by decide +kernel) (fun _ => Nat.le_of_ble_eq_true rfl) (fun _ => rfl) k
theorem S_X12_in {Γ : GG} {l : Launch} {d : Nat} {σ : St} (a0 a1 a2 : Int32) : Meth Γ l d mX12_in [.int a0, .int a1, .int a2] σ (KI (Kc (a1 ≤ a0 ∧ a0 ≤ a2) σ)) := by
  refine M_X12_in a0 a1 a2 (w_X12_in_0 a0 a1 a2 ?_)
  repeat' (apply And.intro <;> intro)
  all_goals first | exact ⟨_, rfl, rfl, Or.inl ⟨by simp only [Int32.le_iff_toInt_le, Int32.lt_iff_toInt_lt, ← Int32.toInt_inj] at *; omega, rfl⟩⟩ | exact ⟨_, rfl, rfl, Or.inr ⟨by simp only [Int32.le_iff_toInt_le, Int32.lt_iff_toInt_lt, ← Int32.toInt_inj] at *; omega, rfl⟩⟩
set_option maxHeartbeats 4000000 in
set_option maxRecDepth 100000 in
theorem w_X12_isDay_0 {Γ : GG} {l : Launch} {d : Nat} {Q : Option Value → St → Prop} {σ : St} (a0 : Int32) (h : ((0 : Int32) ≤ a0 ∧ a0 ≤ (1499 : Int32) → Q (some (.int (1))) σ) ∧ (¬ ((0 : Int32) ≤ a0 ∧ a0 ≤ (1499 : Int32)) → Q (some (.int (0))) σ)) : J Γ l (d + 1) mX12_isDay Q 0 [(0, .int a0)] [] σ := by
  refine J_iload_n (i := 0) (kk := 0) dX12_isDay_0 rfl rfl ?_
  refine J_iconst (v := 0) dX12_isDay_1 (by decide) ?_
  refine J_sipush (v := 1499) dX12_isDay_2 (by decide) ?_
  refine J_callS [.int a0, .int (0), .int (1499)] [] calX12_in klX12_196 rfl rfl (Nat.le_of_ble_eq_true rfl) dX12_isDay_5 (KI.to (S_X12_in a0 (0 : Int32) (1499 : Int32)) ?_)
  rintro x9 s9 ⟨rfl, ⟨g1, rfl⟩ | ⟨g1, rfl⟩⟩
  · replace h := h.1 g1
    exact J_zret rfl (by decide) dX12_isDay_8 h
  · replace h := h.2 g1
    exact J_zret rfl (by decide) dX12_isDay_8 h
theorem M_X12_isDay {Γ : GG} {l : Launch} {d : Nat} {Q : Option Value → St → Prop} {σ : St} (a0 : Int32) (k : J Γ l (d + 1) mX12_isDay Q 0 [(0, .int a0)] [] σ) : Meth Γ l (d + 1) mX12_isDay [.int a0] σ Q := Meth_of_J (by decide +kernel) (fun _ => Nat.le_of_ble_eq_true rfl) (fun _ => rfl) k
theorem S_X12_isDay {Γ : GG} {l : Launch} {d : Nat} {σ : St} (a0 : Int32) : Meth Γ l (d + 1) mX12_isDay [.int a0] σ (KI (Kc (0 ≤ a0 ∧ a0 ≤ 1499) σ)) := by
  refine M_X12_isDay a0 (w_X12_isDay_0 a0 ?_)
  repeat' (apply And.intro <;> intro)
  all_goals first | exact ⟨_, rfl, rfl, Or.inl ⟨by simp only [Int32.le_iff_toInt_le, Int32.lt_iff_toInt_lt, ← Int32.toInt_inj] at *; omega, rfl⟩⟩ | exact ⟨_, rfl, rfl, Or.inr ⟨by simp only [Int32.le_iff_toInt_le, Int32.lt_iff_toInt_lt, ← Int32.toInt_inj] at *; omega, rfl⟩⟩
set_option maxHeartbeats 4000000 in
set_option maxRecDepth 100000 in
theorem w_X12_today_0 {Γ : GG} {l : Launch} {d : Nat} {Q : Option Value → St → Prop} {σ : St}  (h : Q (some (.int ((rd σ 59 1) / (24 : Int32)))) σ) : J Γ l d mX12_today Q 0 [(0, .ref 59)] [] σ := by
  refine J_aload_n (i := 0) (kk := 0) dX12_today_0 rfl rfl ?_
  refine J_getI (q := 59) (ci := 12) (kf := 1) kfX12_200 uxX12 rfl (by decide) rfl (by decide) rfl dX12_today_1 ?_
  refine J_bipush (v := 24) dX12_today_4 (by decide) ?_
  refine J_idiv dX12_today_6 (by decide) ?_
  exact J_iret rfl dX12_today_7 h
theorem M_X12_today {Γ : GG} {l : Launch} {d : Nat} {Q : Option Value → St → Prop} {σ : St}  (k : J Γ l d mX12_today Q 0 [(0, .ref 59)] [] σ) : Meth Γ l d mX12_today [.ref 59] σ Q := Meth_of_J (by decide +kernel) (fun _ => Nat.le_of_ble_eq_true rfl) (fun _ => rfl) k
theorem S_X12_today {Γ : GG} {l : Launch} {d : Nat} {σ : St} : Meth Γ l d mX12_today [.ref 59] σ (KI (Kv ((rd σ 59 1) / (24 : Int32)) σ)) := by
  refine M_X12_today  (w_X12_today_0  ?_)
  exact ⟨_, rfl, rfl, rfl⟩
set_option maxHeartbeats 4000000 in
set_option maxRecDepth 100000 in
theorem w_X12_hourNow_0 {Γ : GG} {l : Launch} {d : Nat} {Q : Option Value → St → Prop} {σ : St}  (h : Q (some (.int ((rd σ 59 1) - (rd σ 59 1) / (24 : Int32) * (24 : Int32)))) σ) : J Γ l d mX12_hourNow Q 0 [(0, .ref 59)] [] σ := by
  refine J_aload_n (i := 0) (kk := 0) dX12_hourNow_0 rfl rfl ?_
  refine J_getI (q := 59) (ci := 12) (kf := 1) kfX12_200 uxX12 rfl (by decide) rfl (by decide) rfl dX12_hourNow_1 ?_
  refine J_bipush (v := 24) dX12_hourNow_4 (by decide) ?_
  refine J_irem dX12_hourNow_6 (by decide) ?_
  exact J_iret rfl dX12_hourNow_7 h
theorem M_X12_hourNow {Γ : GG} {l : Launch} {d : Nat} {Q : Option Value → St → Prop} {σ : St}  (k : J Γ l d mX12_hourNow Q 0 [(0, .ref 59)] [] σ) : Meth Γ l d mX12_hourNow [.ref 59] σ Q := Meth_of_J (by decide +kernel) (fun _ => Nat.le_of_ble_eq_true rfl) (fun _ => rfl) k
theorem S_X12_hourNow {Γ : GG} {l : Launch} {d : Nat} {σ : St} : Meth Γ l d mX12_hourNow [.ref 59] σ (KI (Kv ((rd σ 59 1) - (rd σ 59 1) / (24 : Int32) * (24 : Int32)) σ)) := by
  refine M_X12_hourNow  (w_X12_hourNow_0  ?_)
  exact ⟨_, rfl, rfl, rfl⟩
set_option maxHeartbeats 4000000 in
set_option maxRecDepth 100000 in
theorem w_X12_isShop_0 {Γ : GG} {l : Launch} {d : Nat} {Q : Option Value → St → Prop} {σ : St} (a1 : Int32) (h : ((0 : Int32) ≤ a1 ∧ a1 ≤ ((rd σ 59 2) - (1 : Int32)) → Q (some (.int (1))) σ) ∧ (¬ ((0 : Int32) ≤ a1 ∧ a1 ≤ ((rd σ 59 2) - (1 : Int32))) → Q (some (.int (0))) σ)) : J Γ l (d + 1) mX12_isShop Q 0 [(0, .ref 59), (1, .int a1)] [] σ := by
  refine J_iload_n (i := 1) (kk := 1) dX12_isShop_0 rfl rfl ?_
  refine J_iconst (v := 0) dX12_isShop_1 (by decide) ?_
  refine J_aload_n (i := 0) (kk := 0) dX12_isShop_2 rfl rfl ?_
  refine J_getI (q := 59) (ci := 12) (kf := 2) kfX12_203 uxX12 rfl (by decide) rfl (by decide) rfl dX12_isShop_3 ?_
  refine J_iconst (v := 1) dX12_isShop_6 (by decide) ?_
  refine J_isub dX12_isShop_7 ?_
  refine J_callS [.int a1, .int (0), .int ((rd σ 59 2) - (1 : Int32))] [] calX12_in klX12_196 rfl rfl (Nat.le_of_ble_eq_true rfl) dX12_isShop_8 (KI.to (S_X12_in a1 (0 : Int32) ((rd σ 59 2) - (1 : Int32))) ?_)
  rintro x9 s9 ⟨rfl, ⟨g1, rfl⟩ | ⟨g1, rfl⟩⟩
  · replace h := h.1 g1
    exact J_zret rfl (by decide) dX12_isShop_11 h
  · replace h := h.2 g1
    exact J_zret rfl (by decide) dX12_isShop_11 h
theorem M_X12_isShop {Γ : GG} {l : Launch} {d : Nat} {Q : Option Value → St → Prop} {σ : St} (a1 : Int32) (k : J Γ l (d + 1) mX12_isShop Q 0 [(0, .ref 59), (1, .int a1)] [] σ) : Meth Γ l (d + 1) mX12_isShop [.ref 59, .int a1] σ Q := Meth_of_J (by decide +kernel) (fun _ => Nat.le_of_ble_eq_true rfl) (fun _ => rfl) k
theorem S_X12_isShop {Γ : GG} {l : Launch} {d : Nat} {σ : St} (a1 : Int32) : Meth Γ l (d + 1) mX12_isShop [.ref 59, .int a1] σ (KI (Kc (0 ≤ a1 ∧ a1 ≤ (rd σ 59 2) - (1 : Int32)) σ)) := by
  refine M_X12_isShop a1 (w_X12_isShop_0 a1 ?_)
  repeat' (apply And.intro <;> intro)
  all_goals first | exact ⟨_, rfl, rfl, Or.inl ⟨by simp only [Int32.le_iff_toInt_le, Int32.lt_iff_toInt_lt, ← Int32.toInt_inj] at *; omega, rfl⟩⟩ | exact ⟨_, rfl, rfl, Or.inr ⟨by simp only [Int32.le_iff_toInt_le, Int32.lt_iff_toInt_lt, ← Int32.toInt_inj] at *; omega, rfl⟩⟩
set_option maxHeartbeats 4000000 in
set_option maxRecDepth 100000 in
theorem w_X12_isKind_0 {Γ : GG} {l : Launch} {d : Nat} {Q : Option Value → St → Prop} {σ : St} (a1 : Int32) (h : ((0 : Int32) ≤ a1 ∧ a1 ≤ ((rd σ 59 6) - (1 : Int32)) → Q (some (.int (1))) σ) ∧ (¬ ((0 : Int32) ≤ a1 ∧ a1 ≤ ((rd σ 59 6) - (1 : Int32))) → Q (some (.int (0))) σ)) : J Γ l (d + 1) mX12_isKind Q 0 [(0, .ref 59), (1, .int a1)] [] σ := by
  refine J_iload_n (i := 1) (kk := 1) dX12_isKind_0 rfl rfl ?_
  refine J_iconst (v := 0) dX12_isKind_1 (by decide) ?_
  refine J_aload_n (i := 0) (kk := 0) dX12_isKind_2 rfl rfl ?_
  refine J_getI (q := 59) (ci := 12) (kf := 6) kfX12_206 uxX12 rfl (by decide) rfl (by decide) rfl dX12_isKind_3 ?_
  refine J_iconst (v := 1) dX12_isKind_6 (by decide) ?_
  refine J_isub dX12_isKind_7 ?_
  refine J_callS [.int a1, .int (0), .int ((rd σ 59 6) - (1 : Int32))] [] calX12_in klX12_196 rfl rfl (Nat.le_of_ble_eq_true rfl) dX12_isKind_8 (KI.to (S_X12_in a1 (0 : Int32) ((rd σ 59 6) - (1 : Int32))) ?_)
  rintro x9 s9 ⟨rfl, ⟨g1, rfl⟩ | ⟨g1, rfl⟩⟩
  · replace h := h.1 g1
    exact J_zret rfl (by decide) dX12_isKind_11 h
  · replace h := h.2 g1
    exact J_zret rfl (by decide) dX12_isKind_11 h
theorem M_X12_isKind {Γ : GG} {l : Launch} {d : Nat} {Q : Option Value → St → Prop} {σ : St} (a1 : Int32) (k : J Γ l (d + 1) mX12_isKind Q 0 [(0, .ref 59), (1, .int a1)] [] σ) : Meth Γ l (d + 1) mX12_isKind [.ref 59, .int a1] σ Q := Meth_of_J (by decide +kernel) (fun _ => Nat.le_of_ble_eq_true rfl) (fun _ => rfl) k
theorem S_X12_isKind {Γ : GG} {l : Launch} {d : Nat} {σ : St} (a1 : Int32) : Meth Γ l (d + 1) mX12_isKind [.ref 59, .int a1] σ (KI (Kc (0 ≤ a1 ∧ a1 ≤ (rd σ 59 6) - (1 : Int32)) σ)) := by
  refine M_X12_isKind a1 (w_X12_isKind_0 a1 ?_)
  repeat' (apply And.intro <;> intro)
  all_goals first | exact ⟨_, rfl, rfl, Or.inl ⟨by simp only [Int32.le_iff_toInt_le, Int32.lt_iff_toInt_lt, ← Int32.toInt_inj] at *; omega, rfl⟩⟩ | exact ⟨_, rfl, rfl, Or.inr ⟨by simp only [Int32.le_iff_toInt_le, Int32.lt_iff_toInt_lt, ← Int32.toInt_inj] at *; omega, rfl⟩⟩
set_option maxHeartbeats 4000000 in
set_option maxRecDepth 100000 in
theorem w_X12_isBatch_0 {Γ : GG} {l : Launch} {d : Nat} {Q : Option Value → St → Prop} {σ : St} (a1 : Int32) (h : ((0 : Int32) ≤ a1 ∧ a1 ≤ ((rd σ 59 16) - (1 : Int32)) → Q (some (.int (1))) σ) ∧ (¬ ((0 : Int32) ≤ a1 ∧ a1 ≤ ((rd σ 59 16) - (1 : Int32))) → Q (some (.int (0))) σ)) : J Γ l (d + 1) mX12_isBatch Q 0 [(0, .ref 59), (1, .int a1)] [] σ := by
  refine J_iload_n (i := 1) (kk := 1) dX12_isBatch_0 rfl rfl ?_
  refine J_iconst (v := 0) dX12_isBatch_1 (by decide) ?_
  refine J_aload_n (i := 0) (kk := 0) dX12_isBatch_2 rfl rfl ?_
  refine J_getI (q := 59) (ci := 12) (kf := 16) kfX12_227 uxX12 rfl (by decide) rfl (by decide) rfl dX12_isBatch_3 ?_
  refine J_iconst (v := 1) dX12_isBatch_6 (by decide) ?_
  refine J_isub dX12_isBatch_7 ?_
  refine J_callS [.int a1, .int (0), .int ((rd σ 59 16) - (1 : Int32))] [] calX12_in klX12_196 rfl rfl (Nat.le_of_ble_eq_true rfl) dX12_isBatch_8 (KI.to (S_X12_in a1 (0 : Int32) ((rd σ 59 16) - (1 : Int32))) ?_)
  rintro x9 s9 ⟨rfl, ⟨g1, rfl⟩ | ⟨g1, rfl⟩⟩
  · replace h := h.1 g1
    exact J_zret rfl (by decide) dX12_isBatch_11 h
  · replace h := h.2 g1
    exact J_zret rfl (by decide) dX12_isBatch_11 h
theorem M_X12_isBatch {Γ : GG} {l : Launch} {d : Nat} {Q : Option Value → St → Prop} {σ : St} (a1 : Int32) (k : J Γ l (d + 1) mX12_isBatch Q 0 [(0, .ref 59), (1, .int a1)] [] σ) : Meth Γ l (d + 1) mX12_isBatch [.ref 59, .int a1] σ Q := Meth_of_J (by decide +kernel) (fun _ => Nat.le_of_ble_eq_true rfl) (fun _ => rfl) k
theorem S_X12_isBatch {Γ : GG} {l : Launch} {d : Nat} {σ : St} (a1 : Int32) : Meth Γ l (d + 1) mX12_isBatch [.ref 59, .int a1] σ (KI (Kc (0 ≤ a1 ∧ a1 ≤ (rd σ 59 16) - (1 : Int32)) σ)) := by
  refine M_X12_isBatch a1 (w_X12_isBatch_0 a1 ?_)
  repeat' (apply And.intro <;> intro)
  all_goals first | exact ⟨_, rfl, rfl, Or.inl ⟨by simp only [Int32.le_iff_toInt_le, Int32.lt_iff_toInt_lt, ← Int32.toInt_inj] at *; omega, rfl⟩⟩ | exact ⟨_, rfl, rfl, Or.inr ⟨by simp only [Int32.le_iff_toInt_le, Int32.lt_iff_toInt_lt, ← Int32.toInt_inj] at *; omega, rfl⟩⟩
set_option maxHeartbeats 4000000 in
set_option maxRecDepth 100000 in
theorem w_X12_areBoth_0 {Γ : GG} {l : Launch} {d : Nat} {Q : Option Value → St → Prop} {σ : St} (a1 : Int32) (a2 : Int32) (h : (0 ≤ a1 ∧ a1 ≤ (rd σ 59 2) - (1 : Int32) → (0 ≤ a2 ∧ a2 ≤ (rd σ 59 6) - (1 : Int32) → Q (some (.int (1))) σ) ∧ (¬ (0 ≤ a2 ∧ a2 ≤ (rd σ 59 6) - (1 : Int32)) → Q (some (.int (0))) σ)) ∧ (¬ (0 ≤ a1 ∧ a1 ≤ (rd σ 59 2) - (1 : Int32)) → Q (some (.int (0))) σ)) : J Γ l (d + 2) mX12_areBoth Q 0 [(0, .ref 59), (1, .int a1), (2, .int a2)] [] σ := by
  refine J_aload_n (i := 0) (kk := 0) dX12_areBoth_0 rfl rfl ?_
  refine J_iload_n (i := 1) (kk := 1) dX12_areBoth_1 rfl rfl ?_
  refine J_callV [.int a1] [] calX12_isShop klX12_209 (b := 59) (ci := 12) (by decide) rfl rfl rfl rfl (Nat.le_of_ble_eq_true rfl) dX12_areBoth_2 (KI.to (S_X12_isShop a1) ?_)
  rintro x9 s9 ⟨rfl, ⟨g2, rfl⟩ | ⟨g2, rfl⟩⟩
  · replace h := h.1 g2
    refine J_if_eq 20 dX12_areBoth_5 (by decide) (fun hc => absurd hc (by decide)) (fun _ => ?_)
    refine J_aload_n (i := 0) (kk := 0) dX12_areBoth_8 rfl rfl ?_
    refine J_iload_n (i := 2) (kk := 2) dX12_areBoth_9 rfl rfl ?_
    refine J_callV [.int a2] [] calX12_isKind klX12_213 (b := 59) (ci := 12) (by decide) rfl rfl rfl rfl (Nat.le_of_ble_eq_true rfl) dX12_areBoth_10 (KI.to (S_X12_isKind a2) ?_)
    rintro x9 s9 ⟨rfl, ⟨g1, rfl⟩ | ⟨g1, rfl⟩⟩
    · replace h := h.1 g1
      refine J_if_eq 20 dX12_areBoth_13 (by decide) (fun hc => absurd hc (by decide)) (fun _ => ?_)
      refine J_iconst (v := 1) dX12_areBoth_16 (by decide) ?_
      refine J_goto (tgt := 21) dX12_areBoth_17 (by decide) ?_
      exact J_zret rfl (by decide) dX12_areBoth_21 h
    · replace h := h.2 g1
      refine J_if_eq 20 dX12_areBoth_13 (by decide) (fun _ => ?_) (fun hc => absurd hc (by decide))
      refine J_iconst (v := 0) dX12_areBoth_20 (by decide) ?_
      exact J_zret rfl (by decide) dX12_areBoth_21 h
  · replace h := h.2 g2
    refine J_if_eq 20 dX12_areBoth_5 (by decide) (fun _ => ?_) (fun hc => absurd hc (by decide))
    refine J_iconst (v := 0) dX12_areBoth_20 (by decide) ?_
    exact J_zret rfl (by decide) dX12_areBoth_21 h
theorem M_X12_areBoth {Γ : GG} {l : Launch} {d : Nat} {Q : Option Value → St → Prop} {σ : St} (a1 : Int32) (a2 : Int32) (k : J Γ l (d + 2) mX12_areBoth Q 0 [(0, .ref 59), (1, .int a1), (2, .int a2)] [] σ) : Meth Γ l (d + 2) mX12_areBoth [.ref 59, .int a1, .int a2] σ Q := Meth_of_J (by decide +kernel) (fun _ => Nat.le_of_ble_eq_true rfl) (fun _ => rfl) k
theorem S_X12_areBoth {Γ : GG} {l : Launch} {d : Nat} {σ : St} (a1 a2 : Int32) : Meth Γ l (d + 2) mX12_areBoth [.ref 59, .int a1, .int a2] σ (KI (Kc ((0 ≤ a1 ∧ a1 ≤ (rd σ 59 2) - (1 : Int32)) ∧ 0 ≤ a2 ∧ a2 ≤ (rd σ 59 6) - (1 : Int32)) σ)) := by
  refine M_X12_areBoth a1 a2 (w_X12_areBoth_0 a1 a2 ?_)
  exact ⟨fun h1 => ⟨fun h2 => ⟨_, rfl, rfl, Or.inl ⟨⟨h1, h2⟩, rfl⟩⟩, fun h2 => ⟨_, rfl, rfl, Or.inr ⟨fun c => h2 c.2, rfl⟩⟩⟩, fun h1 => ⟨_, rfl, rfl, Or.inr ⟨fun c => h1 c.1, rfl⟩⟩⟩
set_option maxHeartbeats 4000000 in
set_option maxRecDepth 100000 in
theorem w_X12_priceBy_0 {Γ : GG} {l : Launch} {d : Nat} {Q : Option Value → St → Prop} {σ : St} (a1 : Int32) (a2 : Int32) (h : vp_in a1 10 ∧ Q (some (.int (((rd σ 63 (a1.toNatClampNeg)) * ((100 : Int32) - ((25 : Int32) * a2))) / (100 : Int32)))) σ) : J Γ l d mX12_priceBy Q 0 [(0, .ref 59), (1, .int a1), (2, .int a2)] [] σ := by
  refine J_aload_n (i := 0) (kk := 0) dX12_priceBy_0 rfl rfl ?_
  refine J_getR 63 (q := 59) (ci := 12) (kf := 7) kfX12_19 uxX12 rfl (by decide) rfl (by decide) rfl dX12_priceBy_1 ?_
  refine J_iload_n (i := 1) (kk := 1) dX12_priceBy_4 rfl rfl ?_
  have b1 := h.1
  replace h := h.2
  refine J_ald (a1.toNatClampNeg) rfl (by decide) rfl b1 dX12_priceBy_5 ?_
  refine J_bipush (v := 100) dX12_priceBy_6 (by decide) ?_
  refine J_bipush (v := 25) dX12_priceBy_8 (by decide) ?_
  refine J_iload_n (i := 2) (kk := 2) dX12_priceBy_10 rfl rfl ?_
  refine J_imul dX12_priceBy_11 ?_
  refine J_isub dX12_priceBy_12 ?_
  refine J_imul dX12_priceBy_13 ?_
  refine J_bipush (v := 100) dX12_priceBy_14 (by decide) ?_
  refine J_idiv dX12_priceBy_16 (by decide) ?_
  exact J_iret rfl dX12_priceBy_17 h
theorem M_X12_priceBy {Γ : GG} {l : Launch} {d : Nat} {Q : Option Value → St → Prop} {σ : St} (a1 : Int32) (a2 : Int32) (k : J Γ l d mX12_priceBy Q 0 [(0, .ref 59), (1, .int a1), (2, .int a2)] [] σ) : Meth Γ l d mX12_priceBy [.ref 59, .int a1, .int a2] σ Q := Meth_of_J (by decide +kernel) (fun _ => Nat.le_of_ble_eq_true rfl) (fun _ => rfl) k
theorem S_X12_priceBy {Γ : GG} {l : Launch} {d : Nat} {σ : St} (a1 a2 : Int32) (hv : vp_in a1 10) : Meth Γ l d mX12_priceBy [.ref 59, .int a1, .int a2] σ (KI (Kv (((rd σ 63 a1.toNatClampNeg) * ((100 : Int32) - (25 : Int32) * a2)) / (100 : Int32)) σ)) := by
  refine M_X12_priceBy a1 a2 (w_X12_priceBy_0 a1 a2 ?_)
  exact ⟨hv, _, rfl, rfl, rfl⟩
set_option maxHeartbeats 4000000 in
set_option maxRecDepth 100000 in
theorem w_X12_onShelf_0 {Γ : GG} {l : Launch} {d : Nat} {Q : Option Value → St → Prop} {σ : St} (a1 : Int32) (h : vp_in a1 200 ∧ Q (some (.int (((((rd σ 76 (a1.toNatClampNeg)) - (rd σ 77 (a1.toNatClampNeg))) - (rd σ 78 (a1.toNatClampNeg))) - (rd σ 79 (a1.toNatClampNeg))) - (rd σ 80 (a1.toNatClampNeg))))) σ) : J Γ l d mX12_onShelf Q 0 [(0, .ref 59), (1, .int a1)] [] σ := by
  refine J_aload_n (i := 0) (kk := 0) dX12_onShelf_0 rfl rfl ?_
  refine J_getR 76 (q := 59) (ci := 12) (kf := 22) kfX12_58 uxX12 rfl (by decide) rfl (by decide) rfl dX12_onShelf_1 ?_
  refine J_iload_n (i := 1) (kk := 1) dX12_onShelf_4 rfl rfl ?_
  have b1 := h.1
  replace h := h.2
  refine J_ald (a1.toNatClampNeg) rfl (by decide) rfl b1 dX12_onShelf_5 ?_
  refine J_aload_n (i := 0) (kk := 0) dX12_onShelf_6 rfl rfl ?_
  refine J_getR 77 (q := 59) (ci := 12) (kf := 23) kfX12_61 uxX12 rfl (by decide) rfl (by decide) rfl dX12_onShelf_7 ?_
  refine J_iload_n (i := 1) (kk := 1) dX12_onShelf_10 rfl rfl ?_
  refine J_ald (a1.toNatClampNeg) rfl (by decide) rfl b1 dX12_onShelf_11 ?_
  refine J_isub dX12_onShelf_12 ?_
  refine J_aload_n (i := 0) (kk := 0) dX12_onShelf_13 rfl rfl ?_
  refine J_getR 78 (q := 59) (ci := 12) (kf := 24) kfX12_64 uxX12 rfl (by decide) rfl (by decide) rfl dX12_onShelf_14 ?_
  refine J_iload_n (i := 1) (kk := 1) dX12_onShelf_17 rfl rfl ?_
  refine J_ald (a1.toNatClampNeg) rfl (by decide) rfl b1 dX12_onShelf_18 ?_
  refine J_isub dX12_onShelf_19 ?_
  refine J_aload_n (i := 0) (kk := 0) dX12_onShelf_20 rfl rfl ?_
  refine J_getR 79 (q := 59) (ci := 12) (kf := 25) kfX12_67 uxX12 rfl (by decide) rfl (by decide) rfl dX12_onShelf_21 ?_
  refine J_iload_n (i := 1) (kk := 1) dX12_onShelf_24 rfl rfl ?_
  refine J_ald (a1.toNatClampNeg) rfl (by decide) rfl b1 dX12_onShelf_25 ?_
  refine J_isub dX12_onShelf_26 ?_
  refine J_aload_n (i := 0) (kk := 0) dX12_onShelf_27 rfl rfl ?_
  refine J_getR 80 (q := 59) (ci := 12) (kf := 26) kfX12_70 uxX12 rfl (by decide) rfl (by decide) rfl dX12_onShelf_28 ?_
  refine J_iload_n (i := 1) (kk := 1) dX12_onShelf_31 rfl rfl ?_
  refine J_ald (a1.toNatClampNeg) rfl (by decide) rfl b1 dX12_onShelf_32 ?_
  refine J_isub dX12_onShelf_33 ?_
  exact J_iret rfl dX12_onShelf_34 h
theorem M_X12_onShelf {Γ : GG} {l : Launch} {d : Nat} {Q : Option Value → St → Prop} {σ : St} (a1 : Int32) (k : J Γ l d mX12_onShelf Q 0 [(0, .ref 59), (1, .int a1)] [] σ) : Meth Γ l d mX12_onShelf [.ref 59, .int a1] σ Q := Meth_of_J (by decide +kernel) (fun _ => Nat.le_of_ble_eq_true rfl) (fun _ => rfl) k
theorem S_X12_onShelf {Γ : GG} {l : Launch} {d : Nat} {σ : St} (a1 : Int32) (hv : vp_in a1 200) : Meth Γ l d mX12_onShelf [.ref 59, .int a1] σ (KI (Kv (((((rd σ 76 a1.toNatClampNeg) - (rd σ 77 a1.toNatClampNeg)) - (rd σ 78 a1.toNatClampNeg)) - (rd σ 79 a1.toNatClampNeg)) - (rd σ 80 a1.toNatClampNeg)) σ)) := by
  refine M_X12_onShelf a1 (w_X12_onShelf_0 a1 ?_)
  exact ⟨hv, _, rfl, rfl, rfl⟩
set_option maxHeartbeats 4000000 in
set_option maxRecDepth 100000 in
theorem w_X12_off_0 {Γ : GG} {l : Launch} {d : Nat} {Q : Option Value → St → Prop} {σ : St} (a0 : Int32) (a1 : Int32) (h : (a1 ≤ a0 → Q (some (.int (a0 - a1))) σ) ∧ (¬ a1 ≤ a0 → Q (some (.int (a1 - a0))) σ)) : J Γ l d mX12_off Q 0 [(0, .int a0), (1, .int a1)] [] σ := by
  refine J_iload_n (i := 0) (kk := 0) dX12_off_0 rfl rfl ?_
  refine J_iload_n (i := 1) (kk := 1) dX12_off_1 rfl rfl ?_
  refine J_icmp_ge 11 dX12_off_2 (by decide) (fun hc => ?_) (fun hc => ?_)
  · replace h := h.1 hc
    refine J_iload_n (i := 0) (kk := 0) dX12_off_11 rfl rfl ?_
    refine J_iload_n (i := 1) (kk := 1) dX12_off_12 rfl rfl ?_
    refine J_isub dX12_off_13 ?_
    exact J_iret rfl dX12_off_14 h
  · replace h := h.2 hc
    refine J_iload_n (i := 1) (kk := 1) dX12_off_5 rfl rfl ?_
    refine J_iload_n (i := 0) (kk := 0) dX12_off_6 rfl rfl ?_
    refine J_isub dX12_off_7 ?_
    refine J_goto (tgt := 14) dX12_off_8 (by decide) ?_
    exact J_iret rfl dX12_off_14 h
theorem M_X12_off {Γ : GG} {l : Launch} {d : Nat} {Q : Option Value → St → Prop} {σ : St} (a0 : Int32) (a1 : Int32) (k : J Γ l d mX12_off Q 0 [(0, .int a0), (1, .int a1)] [] σ) : Meth Γ l d mX12_off [.int a0, .int a1] σ Q := Meth_of_J (by decide +kernel) (fun _ => Nat.le_of_ble_eq_true rfl) (fun _ => rfl) k
theorem S_X12_off {Γ : GG} {l : Launch} {d : Nat} {σ : St} (a0 a1 : Int32) : Meth Γ l d mX12_off [.int a0, .int a1] σ (KI (Kv (offI a0 a1) σ)) := by
  refine M_X12_off a0 a1 (w_X12_off_0 a0 a1 ?_)
  exact ⟨fun h => ⟨_, rfl, rfl, by unfold offI; rw [if_neg (Int32.not_lt.mpr h)]⟩, fun h => ⟨_, rfl, rfl, by unfold offI; rw [if_pos (Int32.not_le.mp h)]⟩⟩
set_option maxHeartbeats 4000000 in
set_option maxRecDepth 100000 in
theorem w_X12_miles_0 {Γ : GG} {l : Launch} {d : Nat} {Q : Option Value → St → Prop} {σ : St} (a1 : Int32) (a2 : Int32) (h : vp_in a1 12 ∧ vp_in a2 12 ∧ Q (some (.int ((offI (rd σ 60 (a1.toNatClampNeg)) (rd σ 60 (a2.toNatClampNeg))) + (offI (rd σ 61 (a1.toNatClampNeg)) (rd σ 61 (a2.toNatClampNeg)))))) σ) : J Γ l (d + 1) mX12_miles Q 0 [(0, .ref 59), (1, .int a1), (2, .int a2)] [] σ := by
  refine J_aload_n (i := 0) (kk := 0) dX12_miles_0 rfl rfl ?_
  refine J_getR 60 (q := 59) (ci := 12) (kf := 3) kfX12_7 uxX12 rfl (by decide) rfl (by decide) rfl dX12_miles_1 ?_
  refine J_iload_n (i := 1) (kk := 1) dX12_miles_4 rfl rfl ?_
  have b1 := h.1
  replace h := h.2
  refine J_ald (a1.toNatClampNeg) rfl (by decide) rfl b1 dX12_miles_5 ?_
  refine J_aload_n (i := 0) (kk := 0) dX12_miles_6 rfl rfl ?_
  refine J_getR 60 (q := 59) (ci := 12) (kf := 3) kfX12_7 uxX12 rfl (by decide) rfl (by decide) rfl dX12_miles_7 ?_
  refine J_iload_n (i := 2) (kk := 2) dX12_miles_10 rfl rfl ?_
  have b2 := h.1
  replace h := h.2
  refine J_ald (a2.toNatClampNeg) rfl (by decide) rfl b2 dX12_miles_11 ?_
  refine J_callS [.int (rd σ 60 (a1.toNatClampNeg)), .int (rd σ 60 (a2.toNatClampNeg))] [] calX12_off klX12_371 rfl rfl (Nat.le_of_ble_eq_true rfl) dX12_miles_12 (KI.to (S_X12_off (rd σ 60 (a1.toNatClampNeg)) (rd σ 60 (a2.toNatClampNeg))) ?_)
  rintro x9 s9 ⟨rfl, rfl⟩
  refine J_aload_n (i := 0) (kk := 0) dX12_miles_15 rfl rfl ?_
  refine J_getR 61 (q := 59) (ci := 12) (kf := 4) kfX12_13 uxX12 rfl (by decide) rfl (by decide) rfl dX12_miles_16 ?_
  refine J_iload_n (i := 1) (kk := 1) dX12_miles_19 rfl rfl ?_
  refine J_ald (a1.toNatClampNeg) rfl (by decide) rfl b1 dX12_miles_20 ?_
  refine J_aload_n (i := 0) (kk := 0) dX12_miles_21 rfl rfl ?_
  refine J_getR 61 (q := 59) (ci := 12) (kf := 4) kfX12_13 uxX12 rfl (by decide) rfl (by decide) rfl dX12_miles_22 ?_
  refine J_iload_n (i := 2) (kk := 2) dX12_miles_25 rfl rfl ?_
  refine J_ald (a2.toNatClampNeg) rfl (by decide) rfl b2 dX12_miles_26 ?_
  refine J_callS [.int (rd σ 61 (a1.toNatClampNeg)), .int (rd σ 61 (a2.toNatClampNeg))] [.int (offI (rd σ 60 (a1.toNatClampNeg)) (rd σ 60 (a2.toNatClampNeg)))] calX12_off klX12_371 rfl rfl (Nat.le_of_ble_eq_true rfl) dX12_miles_27 (KI.to (S_X12_off (rd σ 61 (a1.toNatClampNeg)) (rd σ 61 (a2.toNatClampNeg))) ?_)
  rintro x9 s9 ⟨rfl, rfl⟩
  refine J_iadd dX12_miles_30 ?_
  exact J_iret rfl dX12_miles_31 h
theorem M_X12_miles {Γ : GG} {l : Launch} {d : Nat} {Q : Option Value → St → Prop} {σ : St} (a1 : Int32) (a2 : Int32) (k : J Γ l (d + 1) mX12_miles Q 0 [(0, .ref 59), (1, .int a1), (2, .int a2)] [] σ) : Meth Γ l (d + 1) mX12_miles [.ref 59, .int a1, .int a2] σ Q := Meth_of_J (by decide +kernel) (fun _ => Nat.le_of_ble_eq_true rfl) (fun _ => rfl) k
theorem S_X12_miles {Γ : GG} {l : Launch} {d : Nat} {σ : St} (a1 a2 : Int32) (hv : vp_in a1 12 ∧ vp_in a2 12) : Meth Γ l (d + 1) mX12_miles [.ref 59, .int a1, .int a2] σ (KI (Kv (offI (rd σ 60 a1.toNatClampNeg) (rd σ 60 a2.toNatClampNeg) + offI (rd σ 61 a1.toNatClampNeg) (rd σ 61 a2.toNatClampNeg)) σ)) := by
  refine M_X12_miles a1 a2 (w_X12_miles_0 a1 a2 ?_)
  exact ⟨hv.1, hv.2, _, rfl, rfl, rfl⟩
set_option maxHeartbeats 4000000 in
set_option maxRecDepth 100000 in
theorem w_X12_isOpen_0 {Γ : GG} {l : Launch} {d : Nat} {Q : Option Value → St → Prop} {σ : St}  (h : ((6 : Int32) ≤ ((rd σ 59 1) - (rd σ 59 1) / (24 : Int32) * (24 : Int32)) ∧ ((rd σ 59 1) - (rd σ 59 1) / (24 : Int32) * (24 : Int32)) ≤ (19 : Int32) → Q (some (.int (1))) σ) ∧ (¬ ((6 : Int32) ≤ ((rd σ 59 1) - (rd σ 59 1) / (24 : Int32) * (24 : Int32)) ∧ ((rd σ 59 1) - (rd σ 59 1) / (24 : Int32) * (24 : Int32)) ≤ (19 : Int32)) → Q (some (.int (0))) σ)) : J Γ l (d + 1) mX12_isOpen Q 0 [(0, .ref 59)] [] σ := by
  refine J_aload_n (i := 0) (kk := 0) dX12_isOpen_0 rfl rfl ?_
  refine J_callV [] [] calX12_hourNow klX12_315 (b := 59) (ci := 12) (by decide) rfl rfl rfl rfl (Nat.le_of_ble_eq_true rfl) dX12_isOpen_1 (KI.to (S_X12_hourNow) ?_)
  rintro x9 s9 ⟨rfl, rfl⟩
  refine J_bipush (v := 6) dX12_isOpen_4 (by decide) ?_
  refine J_bipush (v := 19) dX12_isOpen_6 (by decide) ?_
  refine J_callS [.int ((rd σ 59 1) - (rd σ 59 1) / (24 : Int32) * (24 : Int32)), .int (6), .int (19)] [] calX12_in klX12_196 rfl rfl (Nat.le_of_ble_eq_true rfl) dX12_isOpen_8 (KI.to (S_X12_in ((rd σ 59 1) - (rd σ 59 1) / (24 : Int32) * (24 : Int32)) (6 : Int32) (19 : Int32)) ?_)
  rintro x9 s9 ⟨rfl, ⟨g1, rfl⟩ | ⟨g1, rfl⟩⟩
  · replace h := h.1 g1
    exact J_zret rfl (by decide) dX12_isOpen_11 h
  · replace h := h.2 g1
    exact J_zret rfl (by decide) dX12_isOpen_11 h
theorem M_X12_isOpen {Γ : GG} {l : Launch} {d : Nat} {Q : Option Value → St → Prop} {σ : St}  (k : J Γ l (d + 1) mX12_isOpen Q 0 [(0, .ref 59)] [] σ) : Meth Γ l (d + 1) mX12_isOpen [.ref 59] σ Q := Meth_of_J (by decide +kernel) (fun _ => Nat.le_of_ble_eq_true rfl) (fun _ => rfl) k
theorem S_X12_isOpen {Γ : GG} {l : Launch} {d : Nat} {σ : St} : Meth Γ l (d + 1) mX12_isOpen [.ref 59] σ (KI (Kc (6 ≤ (rd σ 59 1) - (rd σ 59 1) / (24 : Int32) * (24 : Int32) ∧ (rd σ 59 1) - (rd σ 59 1) / (24 : Int32) * (24 : Int32) ≤ 19) σ)) := by
  refine M_X12_isOpen  (w_X12_isOpen_0  ?_)
  repeat' (apply And.intro <;> intro)
  all_goals first | exact ⟨_, rfl, rfl, Or.inl ⟨by simp only [Int32.le_iff_toInt_le, Int32.lt_iff_toInt_lt, ← Int32.toInt_inj] at *; omega, rfl⟩⟩ | exact ⟨_, rfl, rfl, Or.inr ⟨by simp only [Int32.le_iff_toInt_le, Int32.lt_iff_toInt_lt, ← Int32.toInt_inj] at *; omega, rfl⟩⟩
set_option maxHeartbeats 4000000 in
set_option maxRecDepth 100000 in
theorem w_X12_areDays_0 {Γ : GG} {l : Launch} {d : Nat} {Q : Option Value → St → Prop} {σ : St} (a0 : Int32) (a1 : Int32) (h : (0 ≤ a0 ∧ a0 ≤ 1499 → (a0 ≤ a1 ∧ a1 ≤ (1499 : Int32) → Q (some (.int (1))) σ) ∧ (¬ (a0 ≤ a1 ∧ a1 ≤ (1499 : Int32)) → Q (some (.int (0))) σ)) ∧ (¬ (0 ≤ a0 ∧ a0 ≤ 1499) → Q (some (.int (0))) σ)) : J Γ l (d + 2) mX12_areDays Q 0 [(0, .int a0), (1, .int a1)] [] σ := by
  refine J_iload_n (i := 0) (kk := 0) dX12_areDays_0 rfl rfl ?_
  refine J_callS [.int a0] [] calX12_isDay klX12_220 rfl rfl (Nat.le_of_ble_eq_true rfl) dX12_areDays_1 (KI.to (S_X12_isDay a0) ?_)
  rintro x9 s9 ⟨rfl, ⟨g2, rfl⟩ | ⟨g2, rfl⟩⟩
  · replace h := h.1 g2
    refine J_if_eq 22 dX12_areDays_4 (by decide) (fun hc => absurd hc (by decide)) (fun _ => ?_)
    refine J_iload_n (i := 1) (kk := 1) dX12_areDays_7 rfl rfl ?_
    refine J_iload_n (i := 0) (kk := 0) dX12_areDays_8 rfl rfl ?_
    refine J_sipush (v := 1499) dX12_areDays_9 (by decide) ?_
    refine J_callS [.int a1, .int a0, .int (1499)] [] calX12_in klX12_196 rfl rfl (Nat.le_of_ble_eq_true rfl) dX12_areDays_12 (KI.to (S_X12_in a1 a0 (1499 : Int32)) ?_)
    rintro x9 s9 ⟨rfl, ⟨g1, rfl⟩ | ⟨g1, rfl⟩⟩
    · replace h := h.1 g1
      refine J_if_eq 22 dX12_areDays_15 (by decide) (fun hc => absurd hc (by decide)) (fun _ => ?_)
      refine J_iconst (v := 1) dX12_areDays_18 (by decide) ?_
      refine J_goto (tgt := 23) dX12_areDays_19 (by decide) ?_
      exact J_zret rfl (by decide) dX12_areDays_23 h
    · replace h := h.2 g1
      refine J_if_eq 22 dX12_areDays_15 (by decide) (fun _ => ?_) (fun hc => absurd hc (by decide))
      refine J_iconst (v := 0) dX12_areDays_22 (by decide) ?_
      exact J_zret rfl (by decide) dX12_areDays_23 h
  · replace h := h.2 g2
    refine J_if_eq 22 dX12_areDays_4 (by decide) (fun _ => ?_) (fun hc => absurd hc (by decide))
    refine J_iconst (v := 0) dX12_areDays_22 (by decide) ?_
    exact J_zret rfl (by decide) dX12_areDays_23 h
theorem M_X12_areDays {Γ : GG} {l : Launch} {d : Nat} {Q : Option Value → St → Prop} {σ : St} (a0 : Int32) (a1 : Int32) (k : J Γ l (d + 2) mX12_areDays Q 0 [(0, .int a0), (1, .int a1)] [] σ) : Meth Γ l (d + 2) mX12_areDays [.int a0, .int a1] σ Q := Meth_of_J (by decide +kernel) (fun _ => Nat.le_of_ble_eq_true rfl) (fun _ => rfl) k
theorem S_X12_areDays {Γ : GG} {l : Launch} {d : Nat} {σ : St} (a0 a1 : Int32) : Meth Γ l (d + 2) mX12_areDays [.int a0, .int a1] σ (KI (Kc ((0 ≤ a0 ∧ a0 ≤ 1499) ∧ a0 ≤ a1 ∧ a1 ≤ 1499) σ)) := by
  refine M_X12_areDays a0 a1 (w_X12_areDays_0 a0 a1 ?_)
  exact ⟨fun h1 => ⟨fun h2 => ⟨_, rfl, rfl, Or.inl ⟨⟨h1, h2⟩, rfl⟩⟩, fun h2 => ⟨_, rfl, rfl, Or.inr ⟨fun c => h2 c.2, rfl⟩⟩⟩, fun h1 => ⟨_, rfl, rfl, Or.inr ⟨fun c => h1 c.1, rfl⟩⟩⟩
set_option maxHeartbeats 4000000 in
set_option maxRecDepth 100000 in
theorem w_X12_isLot_0 {Γ : GG} {l : Launch} {d : Nat} {Q : Option Value → St → Prop} {σ : St} (a1 : Int32) (a2 : Int32) (h : (0 ≤ a1 ∧ a1 ≤ (rd σ 59 6) - (1 : Int32) → ((0 : Int32) ≤ a2 ∧ a2 ≤ (99 : Int32) → Q (some (.int (1))) σ) ∧ (¬ ((0 : Int32) ≤ a2 ∧ a2 ≤ (99 : Int32)) → Q (some (.int (0))) σ)) ∧ (¬ (0 ≤ a1 ∧ a1 ≤ (rd σ 59 6) - (1 : Int32)) → Q (some (.int (0))) σ)) : J Γ l (d + 2) mX12_isLot Q 0 [(0, .ref 59), (1, .int a1), (2, .int a2)] [] σ := by
  refine J_aload_n (i := 0) (kk := 0) dX12_isLot_0 rfl rfl ?_
  refine J_iload_n (i := 1) (kk := 1) dX12_isLot_1 rfl rfl ?_
  refine J_callV [.int a1] [] calX12_isKind klX12_213 (b := 59) (ci := 12) (by decide) rfl rfl rfl rfl (Nat.le_of_ble_eq_true rfl) dX12_isLot_2 (KI.to (S_X12_isKind a1) ?_)
  rintro x9 s9 ⟨rfl, ⟨g2, rfl⟩ | ⟨g2, rfl⟩⟩
  · replace h := h.1 g2
    refine J_if_eq 22 dX12_isLot_5 (by decide) (fun hc => absurd hc (by decide)) (fun _ => ?_)
    refine J_iload_n (i := 2) (kk := 2) dX12_isLot_8 rfl rfl ?_
    refine J_iconst (v := 0) dX12_isLot_9 (by decide) ?_
    refine J_bipush (v := 99) dX12_isLot_10 (by decide) ?_
    refine J_callS [.int a2, .int (0), .int (99)] [] calX12_in klX12_196 rfl rfl (Nat.le_of_ble_eq_true rfl) dX12_isLot_12 (KI.to (S_X12_in a2 (0 : Int32) (99 : Int32)) ?_)
    rintro x9 s9 ⟨rfl, ⟨g1, rfl⟩ | ⟨g1, rfl⟩⟩
    · replace h := h.1 g1
      refine J_if_eq 22 dX12_isLot_15 (by decide) (fun hc => absurd hc (by decide)) (fun _ => ?_)
      refine J_iconst (v := 1) dX12_isLot_18 (by decide) ?_
      refine J_goto (tgt := 23) dX12_isLot_19 (by decide) ?_
      exact J_zret rfl (by decide) dX12_isLot_23 h
    · replace h := h.2 g1
      refine J_if_eq 22 dX12_isLot_15 (by decide) (fun _ => ?_) (fun hc => absurd hc (by decide))
      refine J_iconst (v := 0) dX12_isLot_22 (by decide) ?_
      exact J_zret rfl (by decide) dX12_isLot_23 h
  · replace h := h.2 g2
    refine J_if_eq 22 dX12_isLot_5 (by decide) (fun _ => ?_) (fun hc => absurd hc (by decide))
    refine J_iconst (v := 0) dX12_isLot_22 (by decide) ?_
    exact J_zret rfl (by decide) dX12_isLot_23 h
theorem M_X12_isLot {Γ : GG} {l : Launch} {d : Nat} {Q : Option Value → St → Prop} {σ : St} (a1 : Int32) (a2 : Int32) (k : J Γ l (d + 2) mX12_isLot Q 0 [(0, .ref 59), (1, .int a1), (2, .int a2)] [] σ) : Meth Γ l (d + 2) mX12_isLot [.ref 59, .int a1, .int a2] σ Q := Meth_of_J (by decide +kernel) (fun _ => Nat.le_of_ble_eq_true rfl) (fun _ => rfl) k
theorem S_X12_isLot {Γ : GG} {l : Launch} {d : Nat} {σ : St} (a1 a2 : Int32) : Meth Γ l (d + 2) mX12_isLot [.ref 59, .int a1, .int a2] σ (KI (Kc ((0 ≤ a1 ∧ a1 ≤ (rd σ 59 6) - (1 : Int32)) ∧ 0 ≤ a2 ∧ a2 ≤ 99) σ)) := by
  refine M_X12_isLot a1 a2 (w_X12_isLot_0 a1 a2 ?_)
  exact ⟨fun h1 => ⟨fun h2 => ⟨_, rfl, rfl, Or.inl ⟨⟨h1, h2⟩, rfl⟩⟩, fun h2 => ⟨_, rfl, rfl, Or.inr ⟨fun c => h2 c.2, rfl⟩⟩⟩, fun h1 => ⟨_, rfl, rfl, Or.inr ⟨fun c => h1 c.1, rfl⟩⟩⟩

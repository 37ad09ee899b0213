/-! THE PURE MACHINE: a state is two functions (ints, longs) of a place and a slot; the places' shapes are fixed (sk); J is the judgement over it. -/
abbrev St : Type := (Nat → Nat → Int32) × (Nat → Nat → Int64)
def rd (σ : St) (q k : Nat) : Int32 := σ.1 q k
def rl (σ : St) (q k : Nat) : Int64 := σ.2 q k
def wr (σ : St) (q k : Nat) (x : Int32) : St := (fun a b => if a = q ∧ b = k then x else σ.1 a b, σ.2)
def wl (σ : St) (q k : Nat) (x : Int64) : St := (σ.1, fun a b => if a = q ∧ b = k then x else σ.2 a b)
theorem rd_wr (σ : St) (q k : Nat) (x : Int32) (a b : Nat) : rd (wr σ q k x) a b = if a = q ∧ b = k then x else rd σ a b := rfl
theorem rd_wl (σ : St) (q k : Nat) (x : Int64) (a b : Nat) : rd (wl σ q k x) a b = rd σ a b := rfl
theorem rl_wr (σ : St) (q k : Nat) (x : Int32) (a b : Nat) : rl (wr σ q k x) a b = rl σ a b := rfl
theorem rl_wl (σ : St) (q k : Nat) (x : Int64) (a b : Nat) : rl (wl σ q k x) a b = if a = q ∧ b = k then x else rl σ a b := rfl
abbrev SK : Type := (Nat × List Nat) ⊕ (Nat × Nat × Nat)
def nC : Nat := 372
def skT : List SK := [
.inl (11, [3, 6, 13, 19, 25, 28, 35, 36, 46, 51, 57, 59, 60, 0]),
  .inl (3, [4, 5, 0]),
  .inr (0, 1500, 0),
  .inr (0, 1500, 0),
  .inl (9, [7, 9, 10, 11, 12]),
  .inl (7, [8, 0]),
  .inr (0, 12, 0),
  .inr (0, 12, 0),
  .inr (0, 12, 0),
  .inr (4, 12, 118),
  .inr (4, 12, 130),
  .inl (5, [14, 15, 16, 17, 18, 0]),
  .inr (0, 10, 0),
  .inr (0, 10, 0),
  .inr (0, 10, 0),
  .inr (0, 10, 0),
  .inr (0, 10, 0),
  .inl (0, [20, 0, 21, 0, 22, 23, 24, 0]),
  .inr (4, 200, 142),
  .inr (0, 200, 0),
  .inr (0, 400, 0),
  .inr (0, 400, 0),
  .inr (0, 400, 0),
  .inl (10, [26, 0, 0, 1, 0]),
  .inr (0, 160, 0),
  .inr (0, 0, 0),
  .inl (6, [29, 30, 31, 32, 33, 0, 34, 0]),
  .inr (4, 16, 342),
  .inr (0, 16, 0),
  .inr (0, 16, 0),
  .inr (0, 16, 0),
  .inr (0, 16, 0),
  .inr (0, 160, 0),
  .inl (4, [0, 0, 0, 0, 0, 0, 0, 0]),
  .inl (8, [37, 38, 39, 40, 41, 42, 43, 0, 44, 0, 45]),
  .inr (0, 600, 0),
  .inr (0, 600, 0),
  .inr (0, 600, 0),
  .inr (0, 600, 0),
  .inr (0, 600, 0),
  .inr (0, 600, 0),
  .inr (0, 600, 0),
  .inr (0, 600, 0),
  .inr (0, 1000, 0),
  .inl (2, [47, 48, 49, 50, 0, 0, 0]),
  .inr (4, 14, 358),
  .inr (0, 4, 0),
  .inr (0, 14, 0),
  .inr (0, 14, 0),
  .inl (1, [52, 53, 54, 55, 56, 0]),
  .inr (0, 12, 0),
  .inr (0, 12, 0),
  .inr (0, 6, 0),
  .inr (0, 6, 0),
  .inr (3, 64, 0),
  .inl (7, [58, 0]),
  .inr (0, 10, 0),
  .inr (0, 10, 0),
  .inr (0, 10, 0),
  .inl (12, [0, 0, 0, 62, 63, 64, 0, 65, 66, 67, 68, 69, 70, 71, 72, 0, 0, 73, 74, 75, 76, 77, 78, 79, 80, 81, 82, 83, 84, 85, 86, 0, 0, 87, 88, 89, 90, 91, 92, 0, 0, 0, 0, 0, 93, 0, 94, 95, 96, 97, 98, 99, 100, 101, 102, 103, 0, 0, 104, 105, 106, 107, 108, 109, 110, 0, 0, 111, 112, 113, 0, 114, 115, 116, 0, 117, 118, 119]),
  .inr (0, 12, 0),
  .inr (0, 12, 0),
  .inr (0, 12, 0),
  .inr (0, 10, 0),
  .inr (0, 10, 0),
  .inr (0, 10, 0),
  .inr (0, 10, 0),
  .inr (0, 10, 0),
  .inr (0, 1500, 0),
  .inr (0, 120, 0),
  .inr (0, 120, 0),
  .inr (0, 200, 0),
  .inr (0, 200, 0),
  .inr (0, 200, 0),
  .inr (0, 200, 0),
  .inr (0, 200, 0),
  .inr (0, 200, 0),
  .inr (0, 200, 0),
  .inr (0, 200, 0),
  .inr (0, 200, 0),
  .inr (0, 200, 0),
  .inr (0, 200, 0),
  .inr (0, 200, 0),
  .inr (0, 1500, 0),
  .inr (1, 160, 0),
  .inr (0, 16, 0),
  .inr (0, 16, 0),
  .inr (0, 16, 0),
  .inr (0, 17, 0),
  .inr (0, 2890, 0),
  .inr (0, 2890, 0),
  .inr (0, 180, 0),
  .inr (0, 600, 0),
  .inr (0, 600, 0),
  .inr (0, 600, 0),
  .inr (0, 600, 0),
  .inr (0, 600, 0),
  .inr (0, 600, 0),
  .inr (0, 600, 0),
  .inr (0, 20, 0),
  .inr (0, 20, 0),
  .inr (0, 80, 0),
  .inr (0, 1500, 0),
  .inr (2, 1500, 0),
  .inr (0, 12, 0),
  .inr (0, 12, 0),
  .inr (0, 36, 0),
  .inr (0, 6, 0),
  .inr (0, 6, 0),
  .inr (2, 200, 0),
  .inr (0, 12, 0),
  .inr (0, 12, 0),
  .inr (0, 10, 0),
  .inr (0, 10, 0),
  .inr (0, 10, 0),
  .inr (0, 400, 0),
  .inr (0, 400, 0),
  .inr (0, 400, 0)]
def sk (q : Nat) : SK := if q < 118 then skT.getD q (.inr (0, 0, 0)) else if q < 130 then .inr (0, 10, 0) else if q < 142 then .inr (0, 10, 0) else if q < 342 then .inr (0, 14, 0) else if q < 358 then .inr (0, 161, 0) else if q < 372 then .inr (0, 4, 0) else .inr (0, 0, 0)
theorem sk_row118 {i : Nat} (h : i < 12) : sk (i + 118) = .inr (0, 10, 0) := by
  unfold sk
  repeat rw [if_neg (by omega)]
  rw [if_pos (by omega)]
theorem nc_row118 {i : Nat} (h : i < 12) : i + 118 < nC := by
  unfold nC
  omega
theorem sk_row130 {i : Nat} (h : i < 12) : sk (i + 130) = .inr (0, 10, 0) := by
  unfold sk
  repeat rw [if_neg (by omega)]
  rw [if_pos (by omega)]
theorem nc_row130 {i : Nat} (h : i < 12) : i + 130 < nC := by
  unfold nC
  omega
theorem sk_row142 {i : Nat} (h : i < 200) : sk (i + 142) = .inr (0, 14, 0) := by
  unfold sk
  repeat rw [if_neg (by omega)]
  rw [if_pos (by omega)]
theorem nc_row142 {i : Nat} (h : i < 200) : i + 142 < nC := by
  unfold nC
  omega
theorem sk_row342 {i : Nat} (h : i < 16) : sk (i + 342) = .inr (0, 161, 0) := by
  unfold sk
  repeat rw [if_neg (by omega)]
  rw [if_pos (by omega)]
theorem nc_row342 {i : Nat} (h : i < 16) : i + 342 < nC := by
  unfold nC
  omega
theorem sk_row358 {i : Nat} (h : i < 14) : sk (i + 358) = .inr (0, 4, 0) := by
  unfold sk
  repeat rw [if_neg (by omega)]
  rw [if_pos (by omega)]
theorem nc_row358 {i : Nat} (h : i < 14) : i + 358 < nC := by
  unfold nC
  omega
abbrev GG : Type := (Nat → Nat) × (Nat → ClassId) × va_G
abbrev MD : Type := MethodName × ByteArray × Nat × Option FieldType
def av (ad : Nat → Nat) : Value → Value
  | .ref r => .ref (ad r)
  | .int x => .int x
  | .long x => .long x
  | .float x => .float x
  | .double x => .double x
  | .null => .null
  | .retAddr x => .retAddr x
theorem av_cat (ad : Nat → Nat) (v : Value) : (av ad v).category = v.category := by cases v <;> rfl
/-- a field's value, in places -/
def fv (σ : St) (q k : Nat) : Nat → Value
  | 0 => .int (rd σ q k)
  | 1 => .ref (rd σ q k).toNatClampNeg
  | r + 2 => .ref r
def fvs (ad : Nat → Nat) (σ : St) (q : Nat) (fk : List Nat) : List Value := fk.mapIdx (fun k f => av ad (fv σ q k f))
def ce (Γ : GG) (σ : St) (q : Nat) : va_E := match sk q with
  | .inl (ci, fk) => .inr (ci, fvs Γ.1 σ q fk)
  | .inr (3, n, _) => .inl (Γ.2.1 3, n, .inr (.inl (σ.2 q)))
  | .inr (4, n, r) => .inl (Γ.2.1 4, n, .inr (.inr (.inr (.inr (fun i => some (Γ.1 (i + r)))))))
  | .inr (t, n, _) => .inl (Γ.2.1 t, n, .inl (σ.1 q))
def wsG (Γ : GG) (σ : St) : va_W := (List.range nC).map fun q => (Γ.1 q, ce Γ σ q)
def tysG (Γ : GG) : List (ClassId × FieldType) := [(Γ.2.1 0, .int), (Γ.2.1 1, .byte), (Γ.2.1 2, .boolean), (Γ.2.1 3, .long), (Γ.2.1 4, .array .int)]
def AG (Γ : GG) : Nat → Prop := fun a => ∃ k, k < nC ∧ a = Γ.1 k
def injG (Γ : GG) : Prop := ∀ i j, i < nC → j < nC → Γ.1 i = Γ.1 j → i = j
theorem ws_get {Γ : GG} {σ : St} {q : Nat} (h : q < nC) : (wsG Γ σ)[q]? = some (Γ.1 q, ce Γ σ q) := by
  unfold wsG
  rw [List.getElem?_map, List.getElem?_range h]
  rfl
theorem ws_lt {Γ : GG} {σ : St} {q : Nat} {x : Nat × va_E} (h : (wsG Γ σ)[q]? = some x) : q < nC ∧ x = (Γ.1 q, ce Γ σ q) := by
  have h1 : q < nC := by
    have h2 := (List.getElem?_eq_some_iff.mp h).1
    simpa [wsG] using h2
  rw [ws_get h1] at h
  exact ⟨h1, (Option.some.inj h).symm⟩
theorem ws_D {Γ : GG} (hi : injG Γ) (σ : St) : va_D (AG Γ) (wsG Γ σ) := by
  refine ⟨fun i j p q h1 h2 h3 => ?_, fun k q h => ?_⟩
  · obtain ⟨l1, rfl⟩ := ws_lt h1
    obtain ⟨l2, rfl⟩ := ws_lt h2
    exact hi i j l1 l2 h3
  · obtain ⟨l1, rfl⟩ := ws_lt h
    exact ⟨k, l1, rfl⟩
theorem ws_set {Γ : GG} {σ σ' : St} {q : Nat} {e : va_E} (hq : q < nC) (he : ce Γ σ' q = e) (ho : ∀ a, a ≠ q → ce Γ σ' a = ce Γ σ a) : (wsG Γ σ).set q (Γ.1 q, e) = wsG Γ σ' := by
  apply List.ext_getElem?
  intro i
  by_cases h : i = q
  · subst h
    rw [List.getElem?_set_self (by simpa [wsG] using hq), ws_get hq, he]
  · rw [List.getElem?_set_ne (Ne.symm h)]
    by_cases hi : i < nC
    · rw [ws_get hi, ws_get hi, ho i h]
    · rw [List.getElem?_eq_none (by simpa [wsG] using hi), List.getElem?_eq_none (by simpa [wsG] using hi)]
theorem fvs_get {ad : Nat → Nat} {σ : St} {q k f : Nat} {fk : List Nat} (h : fk[k]? = some f) : (fvs ad σ q fk)[k]? = some (av ad (fv σ q k f)) := by
  unfold fvs
  rw [List.getElem?_mapIdx, h]
  rfl
theorem fvs_other {ad : Nat → Nat} {σ : St} {q a k : Nat} {x : Int32} {fk : List Nat} (h : a ≠ q) : fvs ad (wr σ q k x) a fk = fvs ad σ a fk := by
  unfold fvs
  congr 1
  funext j f
  match f with
  | 0 => simp [fv, rd_wr, h]
  | 1 => simp [fv, rd_wr, h]
  | r + 2 => rfl
theorem fvs_set {ad : Nat → Nat} {σ : St} {q k f : Nat} {x : Int32} {fk : List Nat} {v : Value} (h : fk[k]? = some f) (hv : fv (wr σ q k x) q k f = v) : (fvs ad σ q fk).set k (av ad v) = fvs ad (wr σ q k x) q fk := by
  have hk : k < fk.length := (List.getElem?_eq_some_iff.mp h).1
  apply List.ext_getElem?
  intro i
  by_cases hi : i = k
  · subst hi
    rw [List.getElem?_set_self (by simpa [fvs] using hk), fvs_get h, hv]
  · rw [List.getElem?_set_ne (Ne.symm hi)]
    by_cases hl : i < fk.length
    · obtain ⟨g, hg⟩ : ∃ g, fk[i]? = some g := ⟨_, List.getElem?_eq_getElem hl⟩
      rw [fvs_get hg, fvs_get hg]
      match g with
      | 0 => simp [fv, rd_wr, hi]
      | 1 => simp [fv, rd_wr, hi]
      | r + 2 => rfl
    · rw [List.getElem?_eq_none (by simpa [fvs] using hl), List.getElem?_eq_none (by simpa [fvs] using hl)]
theorem ce_other {Γ : GG} {σ : St} {q k a : Nat} {x : Int32} (h : a ≠ q) : ce Γ (wr σ q k x) a = ce Γ σ a := by
  have h1 : (wr σ q k x).1 a = σ.1 a := by
    funext b
    simp [wr, h]
  have h2 : (wr σ q k x).2 = σ.2 := rfl
  unfold ce
  split <;> simp only [fvs_other h, h1, h2]
theorem ce_otherL {Γ : GG} {σ : St} {q k a : Nat} {x : Int64} (h : a ≠ q) : ce Γ (wl σ q k x) a = ce Γ σ a := by
  have h1 : (wl σ q k x).2 a = σ.2 a := by
    funext b
    simp [wl, h]
  have h2 : (wl σ q k x).1 = σ.1 := rfl
  have h3 : ∀ fk, fvs Γ.1 (wl σ q k x) a fk = fvs Γ.1 σ a fk := fun fk => by
    unfold fvs
    congr 1
  unfold ce
  split <;> simp only [h1, h2, h3]
theorem ce_obj {Γ : GG} {σ : St} {q ci : Nat} {fk : List Nat} (h : sk q = .inl (ci, fk)) : ce Γ σ q = .inr (ci, fvs Γ.1 σ q fk) := by
  unfold ce
  rw [h]
theorem ce_int {Γ : GG} {σ : St} {q t n r : Nat} (h : sk q = .inr (t, n, r)) (ht : t < 3) : ce Γ σ q = .inl (Γ.2.1 t, n, .inl (σ.1 q)) := by
  unfold ce
  rw [h]
  match t, ht with
  | 0, _ => rfl
  | 1, _ => rfl
  | 2, _ => rfl
theorem ce_long {Γ : GG} {σ : St} {q n r : Nat} (h : sk q = .inr (3, n, r)) : ce Γ σ q = .inl (Γ.2.1 3, n, .inr (.inl (σ.2 q))) := by
  unfold ce
  rw [h]
  rfl
theorem ce_refs {Γ : GG} {σ : St} {q n r : Nat} (h : sk q = .inr (4, n, r)) : ce Γ σ q = .inl (Γ.2.1 4, n, .inr (.inr (.inr (.inr (fun i => some (Γ.1 (i + r))))))) := by
  unfold ce
  rw [h]
  rfl
theorem ws_wr_int {Γ : GG} {σ : St} {q t n r k : Nat} {x : Int32} (hq : q < nC) (h : sk q = .inr (t, n, r)) (ht : t < 3) : (wsG Γ σ).set q (Γ.1 q, .inl (Γ.2.1 t, n, .inl (upd (σ.1 q) k x))) = wsG Γ (wr σ q k x) := by
  refine ws_set hq ?_ (fun a ha => ce_other ha)
  rw [ce_int h ht]
  congr 3
  congr 1
  funext j
  simp [wr, upd]
theorem ws_wl_long {Γ : GG} {σ : St} {q n r k : Nat} {x : Int64} (hq : q < nC) (h : sk q = .inr (3, n, r)) : (wsG Γ σ).set q (Γ.1 q, .inl (Γ.2.1 3, n, .inr (.inl (vp_updL (σ.2 q) k x)))) = wsG Γ (wl σ q k x) := by
  refine ws_set hq ?_ (fun a ha => ce_otherL ha)
  rw [ce_long h]
  congr 4
  congr 1
  funext j
  simp [wl, vp_updL]
theorem ws_wr_obj {Γ : GG} {σ : St} {q ci k f : Nat} {x : Int32} {fk : List Nat} {v : Value} (hq : q < nC) (h : sk q = .inl (ci, fk)) (hf : fk[k]? = some f) (hv : fv (wr σ q k x) q k f = v) : (wsG Γ σ).set q (Γ.1 q, .inr (ci, (fvs Γ.1 σ q fk).set k (av Γ.1 v))) = wsG Γ (wr σ q k x) := by
  refine ws_set hq ?_ (fun a ha => ce_other ha)
  rw [ce_obj h, fvs_set hf hv]
/-! the tables' words -/
noncomputable def gtbl : List Cond := lw_tbl.filter goodWord
noncomputable def ntbl : List Cond := tables_1.filter (fun w => match w with | .methodLinkNest .. => true | .fieldLinkNest .. => true | _ => false)
theorem gin {w : Cond} (i : Nat) (h : lw_tbl[i]? = some w) (g : goodWord w = true) : w ∈ gtbl := List.mem_filter.mpr ⟨List.mem_of_getElem? h, g⟩
theorem gtbl_good : GoodIn gtbl gtbl := fun w h => ⟨h, good_of_word (List.mem_filter.mp h).2⟩
theorem gtbl_in : GoodIn lw_tbl gtbl := fun w h => ⟨(List.mem_filter.mp h).1, good_of_word (List.mem_filter.mp h).2⟩
theorem ntbl_in {w : Cond} (h : w ∈ ntbl) : w ∈ lw_tbl := List.mem_append_right _ (List.mem_filter.mp h).1
theorem ntbl_on {w : Cond} (h : w ∈ ntbl) : w.onTables = true := by
  have h2 := (List.mem_filter.mp h).2
  cases w <;> first | rfl | cases h2
theorem ntbl_warm {w : Cond} (h : w ∈ ntbl) {s U : State} (hW : s.WarmedH U.vm) (hz : va_Nw w s) : va_Nw w U := by
  have h2 := (List.mem_filter.mp h).2
  cases w <;> first | exact va_Nw.warmM hW hz | exact va_Nw.warmF hW hz | cases h2
noncomputable def wsM (M : MD) : List Cond := .code M.1 M.2.1 M.2.2.1 M.2.2.2 :: gtbl
def rmD (d : Nat) : Room := { frames := d, cells := 0, slots := 0, locals := 64 * d }
def SimU (Γ : GG) (σ : St) (U : State) : Prop := va_P Γ.2.2 vwCl (wsG Γ σ) U.heap ∧ va_K Γ.2.2 vwCl (tysG Γ) U ∧ (∀ w ∈ ntbl, va_Nw w U) ∧ injG Γ
def QG (Γ : GG) (Q : Option Value → St → Prop) : Array Value → State → Outcome → State → Prop := fun _ st oc t => (∃ (v : Option Value) (σ' : St), oc = .returned (v.map (av Γ.1)) ∧ Q v σ' ∧ va_P Γ.2.2 vwCl (wsG Γ σ') t.heap) ∧ va_F (AG Γ) st t
def Meth (Γ : GG) (l : Launch) (d : Nat) (M : MD) (As : List Value) (σ : St) (Q : Option Value → St → Prop) : Prop := ∃ Q0 : Option Value → St → Prop, (∀ v σ', Q0 v σ' → Q v σ') ∧ Met l M.1 (wsM M) (rmD d) (va_Pc (As.map (av Γ.1)) (SimU Γ σ)) (QG Γ Q0) 0 0 (AG Γ)
theorem Meth.mono {Γ : GG} {l : Launch} {d : Nat} {M : MD} {As : List Value} {σ : St} {Q Q' : Option Value → St → Prop} (h : Meth Γ l d M As σ Q) (hq : ∀ v σ', Q v σ' → Q' v σ') : Meth Γ l d M As σ Q' := by
  obtain ⟨Q0, h1, h2⟩ := h
  exact ⟨Q0, fun v σ' h => hq v σ' (h1 v σ' h), h2⟩
def Base (Γ : GG) (M : MD) (p : Program) (s : State) (m : MethodId) (args : Array Value) (meth : Method) (c : Code) : Prop :=
  p.tables.exec = Jvm.exec ∧ c.code = M.2.1 ∧ meth.sig.returnType = M.2.2.2 ∧ c.maxLocals = M.2.2.1 ∧ (∀ w ∈ gtbl, w.before args s = true) ∧ s.vm.findClass M.1.cls = some m.cls ∧ meth.locks = false ∧ va_K Γ.2.2 vwCl (tysG Γ) s ∧ (∀ w ∈ ntbl, va_Nw w s) ∧ injG Γ
def mL (ad : Nat → Nat) (lv : List (Nat × Value)) : List (Nat × Value) := lv.map fun q => (q.1, av ad q.2)
def J (Γ : GG) (l : Launch) (d : Nat) (M : MD) (Q : Option Value → St → Prop) (pc : Nat) (lv : List (Nat × Value)) (st : List Value) (σ : St) : Prop :=
  ∀ (p : Program) (e : Env) (s : State) (m : MethodId) (args : Array Value) (below : List Frame) (meth : Method) (c : Code), Base Γ M p s m args meth c →
  ∀ (H : Heap) (locs : List Loc) (LS : Array Slot), va_P Γ.2.2 vwCl (wsG Γ σ) H → va_S (AG Γ) s.heap H locs → lv_has LS M.2.2.1 (mL Γ.1 lv) →
  W p l e (rmD d) s m args below meth c H locs 0 0 (MQ below (QG Γ Q) args s 0 0 (AG Γ)) (F0 m pc LS (st.map (av Γ.1)))
theorem mL_get {ad : Nat → Nat} {lv : List (Nat × Value)} {k i : Nat} {v : Value} (h : lv[k]? = some (i, v)) : (mL ad lv)[k]? = some (i, av ad v) := by
  unfold mL
  rw [List.getElem?_map, h]
  rfl
theorem mL_filter {ad : Nat → Nat} (lv : List (Nat × Value)) (f : Nat → Nat → Bool) : (mL ad lv).filter (fun q => f q.1 q.2.category) = mL ad (lv.filter (fun q => f q.1 q.2.category)) := by
  unfold mL
  rw [List.filter_map]
  congr 1
  apply List.filter_congr
  intro q _
  simp [Function.comp, av_cat]


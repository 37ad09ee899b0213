/-! A LAW's text worked out: runT, and both programs' walks of it -/
def opT (s : Nat) (a b : Int32) : Int32 :=
  if s = 38 then (if a = 0 then 0 else if b = 0 then 0 else 1)
  else if s = 42 then a * b
  else if s = 43 then a + b
  else if s = 45 then a - b
  else if s = 47 then (if b = 0 then 0 else a / b)
  else if s = 60 then (if b ≤ a then 0 else 1)
  else if s = 61 then (if a = b then 1 else 0)
  else if s = 62 then (if a ≤ b then 0 else 1)
  else (if a = 0 then (if b = 0 then 0 else 1) else 1)
def runT (F : Nat → Int32) : List Int32 → Bool → List (Nat × Nat) → Int32
  | _, _, [] => 0
  | st, c, t :: r => match t.1 with
    | 0 => runT F (nI t.2 :: st) c r
    | 1 => runT F (F t.2 :: st) c r
    | 2 => runT F [] (decide (¬ st.headD 0 = 0)) r
    | 3 => if c then st.headD 0 else runT F [] true r
    | 4 => runT F ((if st.headD 0 = 0 then 1 else 0) :: st.tail) c r
    | s => runT F (opT s (st.tail.headD 0) (st.headD 0) :: st.tail.tail) c r
/-- the values st lie in the array q, the last on top -/
def stk (σ : St) (q : Nat) : List Int32 → Prop
  | [] => True
  | v :: r => rd σ q r.length = v ∧ stk σ q r
theorem stk_wr {σ : St} {q k : Nat} {x : Int32} : ∀ {st : List Int32}, stk σ q st → st.length ≤ k → stk (wr σ q k x) q st
  | [], _, _ => trivial
  | v :: r, h, hk => by
    have hk2 : r.length + 1 ≤ k := hk
    exact ⟨by rw [rd_wr, if_neg (by omega)]; exact h.1, stk_wr h.2 (by omega)⟩
theorem stk_ne {σ : St} {q a k : Nat} {x : Int32} (hq : a ≠ q) : ∀ {st : List Int32}, stk σ q st → stk (wr σ a k x) q st
  | [], _ => trivial
  | v :: r, h => ⟨by rw [rd_wr, if_neg (by omega)]; exact h.1, stk_ne hq h.2⟩
theorem stk_push {σ : St} {q : Nat} {x : Int32} {st : List Int32} (h : stk σ q st) : stk (wr σ q st.length x) q (x :: st) := ⟨by rw [rd_wr, if_pos ⟨rfl, rfl⟩], stk_wr h (Nat.le_refl _)⟩
/-- no pile is higher than what is left to take it down -/
theorem hgts_le : ∀ (R : List (Nat × Nat)) (n : Nat), hgts n R = some 0 → n ≤ R.length
  | [], n, h => by
    have h2 : n = 0 := Option.some.inj h
    omega
  | t :: r, n, h => by
    have h1 : (hgt n t).bind (fun m => hgts m r) = some 0 := h
    cases hm : hgt n t with
    | none => rw [hm] at h1; cases h1
    | some m =>
      rw [hm] at h1
      have h2 := hgts_le r m h1
      have h3 : n ≤ m + 1 := by
        unfold hgt at hm
        split at hm
        · have := Option.some.inj hm; omega
        · have := Option.some.inj hm; omega
        · split at hm
          · omega
          · cases hm
        · split at hm
          · omega
          · cases hm
        · split at hm
          · have := Option.some.inj hm; omega
          · cases hm
        · split at hm
          · have := Option.some.inj hm; omega
          · cases hm
      show n ≤ r.length + 1
      omega
theorem hgts_cons {n : Nat} {t : Nat × Nat} {r : List (Nat × Nat)} (h : hgts n (t :: r) = some 0) : ∃ m, hgt n t = some m ∧ hgts m r = some 0 := by
  have h1 : (hgt n t).bind (fun m => hgts m r) = some 0 := h
  cases hm : hgt n t with
  | none => rw [hm] at h1; cases h1
  | some m => rw [hm] at h1; exact ⟨m, rfl, h1⟩
/-- what the working out may write in the class: the pile and its height -/
def oX : P2 := fun q k => ¬ (q = 32 ∨ (q = 26 ∧ k = 7))
theorem div_m1 (a : Int32) : a / -1 = -a := by
  have h1 : (-1 : Int32).toInt = -1 := rfl
  apply ti_eq
  rw [Int32.toInt_div a (-1 : Int32), h1, Int.tdiv_neg, Int.tdiv_one, Int32.toInt_neg]
section EV
variable {Γ : GG} {l : Launch} {d : Nat} {σ : St}
theorem S_push {σ' : St} (v : Int32) {st : List Int32} (hl : st.length < 160) (ht : rd σ' 26 7 = nI st.length) (hs : stk σ' 32 st) (ho : agr oX σ σ') : Meth Γ l d mX6_push [.ref 26, .int v] σ' (KV fun σ2 => rd σ2 26 7 = nI (v :: st).length ∧ stk σ2 32 (v :: st) ∧ agr oX σ σ2) := by
  refine M_X6_push _ (w_X6_push_0 _ ⟨fun q => absurd q ?_, fun _ => ?_⟩)
  · exact fun q => absurd (show rd σ' 26 7 < 160 by rw [ht]; exact (nI_lti (b := 160) (by omega) (by omega)).mpr hl) (Int32.not_lt.mpr q)
  · rw [ht, cl (by omega), nI_s]
    refine ⟨in_nI hl (by omega), rfl, ?_, stk_ne (by omega) (stk_push hs), (ho.wr (by unfold oX; omega)).wr (by unfold oX; omega)⟩
    rw [rd_wr, if_pos ⟨rfl, rfl⟩]
    rfl
theorem S_pop {σ' : St} {v : Int32} {st : List Int32} (hl : st.length < 160) (ht : rd σ' 26 7 = nI (v :: st).length) (hs : stk σ' 32 (v :: st)) (ho : agr oX σ σ') : Meth Γ l d mX6_pop [.ref 26] σ' (KI fun x σ2 => x = v ∧ rd σ2 26 7 = nI st.length ∧ stk σ2 32 st ∧ agr oX σ σ2) := by
  have ht2 : rd σ' 26 7 = nI (st.length + 1) := ht
  refine M_X6_pop (w_X6_pop_0 ⟨fun q => ?_, fun _ => ?_⟩)
  · rw [ht2] at q
    have := (nI_inj (b := 0) (by omega) (by omega)).mp q
    omega
  · rw [ht2, nI_pr, cl (by omega)]
    refine ⟨in_nI hl (by omega), KI.mk ⟨hs.1, ?_, stk_ne (by omega) hs.2, ho.wr (by unfold oX; omega)⟩⟩
    rw [rd_wr, if_pos ⟨rfl, rfl⟩]
theorem sgn_ti {s : Nat} (hs : s = 38 ∨ s = 42 ∨ s = 43 ∨ s = 45 ∨ s = 47 ∨ s = 60 ∨ s = 61 ∨ s = 62 ∨ s = 124) : (nI s).toInt = s := ti_nI (by omega)
theorem S_join {σ' : St} (a b : Int32) {s : Nat} (hs : s = 38 ∨ s = 42 ∨ s = 43 ∨ s = 45 ∨ s = 47 ∨ s = 60 ∨ s = 61 ∨ s = 62 ∨ s = 124) : Meth Γ l d mX6_join [.int a, .int (nI s), .int b] σ' (KI (Kv (opT s a b) σ')) := by
  refine M_X6_join _ _ _ (w_X6_join_0 _ _ _ ?_)
  rw [sgn_ti hs]
  unfold opT
  refine ⟨fun p => ?_, fun p => ?_, fun p => ?_, fun p => ?_, fun p => ?_, fun p => ?_, fun p => ?_, fun p => ?_, fun p => ?_, fun p0 p1 p2 p3 p4 p5 p6 p7 p8 => ?_⟩
  · obtain rfl : s = 38 := by omega
    simp only [if_true]
    refine ⟨fun q => ⟨_, rfl, rfl, by rw [if_pos q]⟩, fun q => ⟨fun r => ⟨_, rfl, rfl, by rw [if_neg q, if_pos r]⟩, fun r => ⟨_, rfl, rfl, by rw [if_neg q, if_neg r]⟩⟩⟩
  · obtain rfl : s = 42 := by omega
    exact ⟨_, rfl, rfl, by simp⟩
  · obtain rfl : s = 43 := by omega
    exact ⟨_, rfl, rfl, by simp⟩
  · obtain rfl : s = 45 := by omega
    exact ⟨_, rfl, rfl, by simp⟩
  · obtain rfl : s = 47 := by omega
    refine ⟨fun q => ⟨_, rfl, rfl, by simp [q]⟩, fun q => ⟨q, _, rfl, rfl, by simp [q]⟩⟩
  · obtain rfl : s = 60 := by omega
    refine ⟨fun q => ⟨_, rfl, rfl, by simp [q]⟩, fun q => ⟨_, rfl, rfl, by simp [q]⟩⟩
  · obtain rfl : s = 61 := by omega
    refine ⟨fun q => ⟨_, rfl, rfl, by simp [q]⟩, fun q => ⟨_, rfl, rfl, by simp [q]⟩⟩
  · obtain rfl : s = 62 := by omega
    refine ⟨fun q => ⟨_, rfl, rfl, by simp [q]⟩, fun q => ⟨_, rfl, rfl, by simp [q]⟩⟩
  · obtain rfl : s = 124 := by omega
    refine ⟨fun q => ⟨fun r => ⟨_, rfl, rfl, by simp [q, r]⟩, fun r => ⟨_, rfl, rfl, by simp [q, r]⟩⟩, fun q => ⟨_, rfl, rfl, by simp [q]⟩⟩
  · omega
theorem S_both {σ' : St} (a b : Int32) {s : Nat} (hs : s = 38 ∨ s = 42 ∨ s = 43 ∨ s = 45 ∨ s = 47 ∨ s = 60 ∨ s = 61 ∨ s = 62 ∨ s = 124) : Meth Γ l d mX12_both [.int (nI s), .int a, .int b] σ' (KI (Kv (opT s a b) σ')) := by
  refine M_X12_both _ _ _ (w_X12_both_0 _ _ _ ?_)
  rw [sgn_ti hs]
  unfold opT
  refine ⟨fun p => ?_, fun p => ?_, fun p => ?_, fun p => ?_, fun p => ?_, fun p => ?_, fun p => ?_, fun p => ?_, fun p0 p1 p2 p3 p4 p5 p6 p7 => ?_⟩
  · obtain rfl : s = 38 := by omega
    simp only [if_true]
    refine ⟨fun q => ⟨_, rfl, rfl, by rw [if_pos q]⟩, fun q => ⟨fun r => ⟨_, rfl, rfl, by rw [if_neg q, if_pos r]⟩, fun r => ⟨_, rfl, rfl, by rw [if_neg q, if_neg r]⟩⟩⟩
  · obtain rfl : s = 42 := by omega
    exact ⟨_, rfl, rfl, by simp⟩
  · obtain rfl : s = 43 := by omega
    exact ⟨_, rfl, rfl, by simp⟩
  · obtain rfl : s = 45 := by omega
    exact ⟨_, rfl, rfl, by simp⟩
  · obtain rfl : s = 47 := by omega
    refine ⟨fun q => ⟨_, rfl, rfl, by simp [q]⟩, fun q => ⟨fun r => ⟨_, rfl, rfl, ?_⟩, fun r => ⟨q, _, rfl, rfl, by simp [q]⟩⟩⟩
    subst r
    simp [div_m1]
  · obtain rfl : s = 60 := by omega
    refine ⟨fun q => ⟨_, rfl, rfl, by simp [q]⟩, fun q => ⟨_, rfl, rfl, by simp [q]⟩⟩
  · obtain rfl : s = 61 := by omega
    refine ⟨fun q => ⟨_, rfl, rfl, by simp [q]⟩, fun q => ⟨_, rfl, rfl, by simp [q]⟩⟩
  · obtain rfl : s = 62 := by omega
    refine ⟨fun q => ⟨_, rfl, rfl, by simp [q]⟩, fun q => ⟨_, rfl, rfl, by simp [q]⟩⟩
  · obtain rfl : s = 124 := by omega
    refine ⟨fun q => ⟨fun r => ⟨_, rfl, rfl, by simp [q, r]⟩, fun r => ⟨_, rfl, rfl, by simp [q, r]⟩⟩, fun q => ⟨_, rfl, rfl, by simp [q]⟩⟩
theorem nmC_v : ∀ i, i < 8 → (nmC i).toInt = (([97, 107, 99, 119, 104, 112, 110, 115] : List Int).getD i 0) ∧ nmC i ≠ 44 ∧ nmC i ≠ 59 ∧ nmC i ≠ 33 ∧ -nmC i < 0 := by decide +kernel
theorem S_isName {σ' : St} {i : Nat} (hi : i < 8) : Meth Γ l d mX4_isName [.int (nmC i)] σ' (KI (Kv 1 σ')) := by
  refine M_X4_isName _ (w_X4_isName_0 _ ?_)
  obtain ⟨h, -⟩ := nmC_v i hi
  rw [h]
  rcases (show i = 0 ∨ i = 1 ∨ i = 2 ∨ i = 3 ∨ i = 4 ∨ i = 5 ∨ i = 6 ∨ i = 7 by omega) with e | e | e | e | e | e | e | e <;> subst e <;> simp [KI, Kv]
theorem S_isName0 {σ' : St} {s : Nat} (hs : s = 33 ∨ s = 38 ∨ s = 42 ∨ s = 43 ∨ s = 45 ∨ s = 47 ∨ s = 60 ∨ s = 61 ∨ s = 62 ∨ s = 124) : Meth Γ l d mX4_isName [.int (nI s)] σ' (KI (Kv 0 σ')) := by
  refine M_X4_isName _ (w_X4_isName_0 _ ?_)
  rw [ti_nI (by omega)]
  refine ⟨fun p => ?_, fun p => ?_, fun p => ?_, fun p => ?_, fun p => ?_, fun p => ?_, fun p => ?_, fun p => ?_, fun _ _ _ _ _ _ _ _ => ⟨_, rfl, rfl, rfl⟩⟩
  all_goals omega
theorem S_named {σ' : St} {i : Nat} (hi : i < 8) : Meth Γ l d mX4_named [.ref 33, .int (nmC i)] σ' (KI (Kv (rd σ' 33 i) σ')) := by
  refine M_X4_named _ (w_X4_named_0 _ ?_)
  obtain ⟨h, -⟩ := nmC_v i hi
  rw [h]
  rcases (show i = 0 ∨ i = 1 ∨ i = 2 ∨ i = 3 ∨ i = 4 ∨ i = 5 ∨ i = 6 ∨ i = 7 by omega) with e | e | e | e | e | e | e | e <;> subst e <;> simp [KI, Kv]
end EV

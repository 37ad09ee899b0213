/-! THE INVARIANT that ties the class' places to the reference's. h the hour, nS shops, nK kinds, nB batches; each part speaks of the places of its s-predicate only. -/
abbrev P2 : Type := Nat → Nat → Prop
def agr (S : P2) (σ σ' : St) : Prop := ∀ q k, S q k → rd σ' q k = rd σ q k
def sHour : P2 := fun q k => (q = 1 ∧ k = 2) ∨ (q = 59 ∧ k = 1)
def IHour (h : Nat) (σ : St) : Prop := h < 36000 ∧ rd σ 1 2 = nI h ∧ rd σ 59 1 = nI h
def sShops : P2 := fun q k => (q = 5 ∧ k = 1) ∨ (q = 59 ∧ k = 2) ∨ q = 6 ∨ q = 60 ∨ q = 61 ∨ q = 7 ∨ q = 62 ∨ q = 8 ∨ q = 110
def IShops (n : Nat) (σ : St) : Prop := n ≤ 12 ∧ rd σ 5 1 = nI n ∧ rd σ 59 2 = nI n ∧
  (∀ i, i < n → ∃ p, p < 10000 ∧ rd σ 6 i = nI p ∧ rd σ 60 i = nI (p / 100) ∧ rd σ 61 i = nI (p % 100)) ∧
  (∀ i, i < 12 → rd σ 62 i = rd σ 7 i) ∧
  (∀ i, i < n → rd σ 110 i = rd σ 8 i ∧ (rd σ 8 i = -1 ∨ rd σ 8 i = 0 ∨ rd σ 8 i = 1)) ∧ (∀ i, n ≤ i → i < 12 → rd σ 8 i = -1)
def sKinds : P2 := fun q k => (q = 11 ∧ k = 5) ∨ (q = 59 ∧ k = 6) ∨ q = 12 ∨ q = 13 ∨ q = 14 ∨ q = 15 ∨ q = 16 ∨ q = 63 ∨ q = 64 ∨ q = 65 ∨ q = 66 ∨ q = 67
def IKinds (n : Nat) (σ : St) : Prop := n ≤ 10 ∧ rd σ 11 5 = nI n ∧ rd σ 59 6 = nI n ∧
  ∀ i, i < 10 → ∃ p c g z t : Nat, p ≤ 9999 ∧ c ≤ 9999 ∧ g ≤ 9999 ∧ z ≤ 1 ∧ t ≤ 9999 ∧
    (rd σ 12 i = nI p ∧ rd σ 13 i = nI c ∧ rd σ 14 i = nI g ∧ rd σ 15 i = nI z ∧ rd σ 16 i = nI t) ∧
    (rd σ 63 i = nI p ∧ rd σ 64 i = nI c ∧ rd σ 65 i = nI g ∧ rd σ 66 i = nI z ∧ rd σ 67 i = nI t)
def sDays : P2 := fun q _ => q = 2 ∨ q = 3 ∨ q = 68 ∨ q = 83
def IDays (σ : St) : Prop := ∀ i, i < 1500 → (∃ w, w < 3 ∧ rd σ 2 i = nI w ∧ rd σ 68 i = nI w) ∧ rd σ 83 i = rd σ 3 i
def sStep : P2 := fun q _ => (118 ≤ q ∧ q < 142) ∨ q = 69 ∨ q = 70
def IStep (σ : St) : Prop := ∀ s k, s < 12 → k < 10 → (∃ t, t < 4 ∧ rd σ (s + 118) k = nI t ∧ rd σ 69 (10 * s + k) = nI t) ∧ (∃ t, t ≤ 24 ∧ rd σ (s + 130) k = nI t ∧ rd σ 70 (10 * s + k) = nI t)
def sBatch : P2 := fun q k => (q = 17 ∧ k = 1) ∨ (q = 59 ∧ k = 16) ∨ (142 ≤ q ∧ q < 342) ∨ (71 ≤ q ∧ q ≤ 82)
/-- one batch: shop, kind, lot, day made, pieces = shelf + sold + moved + given + thrown -/
def IB (h b : Nat) (σ : St) : Prop := ∃ s k lt md sh so mo gi th : Nat, (s < 12 ∧ k < 10 ∧ lt < 100 ∧ md ≤ h / 24 ∧ sh + so + mo + gi + th ≤ 999) ∧
  (rd σ (b + 142) 0 = nI s ∧ rd σ (b + 142) 1 = nI k ∧ rd σ (b + 142) 2 = nI lt ∧ rd σ (b + 142) 3 = nI md ∧ rd σ (b + 142) 4 = nI (sh + so + mo + gi + th) ∧ rd σ (b + 142) 5 = nI sh ∧ rd σ (b + 142) 6 = nI so ∧ rd σ (b + 142) 7 = nI mo ∧ rd σ (b + 142) 8 = nI gi ∧ rd σ (b + 142) 9 = nI th) ∧
  (rd σ 71 b = nI s ∧ rd σ 72 b = nI k ∧ rd σ 73 b = nI lt ∧ rd σ 74 b = nI md ∧ rd σ 76 b = nI (sh + so + mo + gi + th) ∧ rd σ 77 b = nI so ∧ rd σ 78 b = nI mo ∧ rd σ 79 b = nI gi ∧ rd σ 80 b = nI th) ∧
  rd σ (b + 142) 10 = rd σ 81 b ∧ rd σ (b + 142) 11 = rd σ 82 b ∧
  ((rd σ 82 b = -1 ∧ rd σ (b + 142) 12 = nI b ∧ ∃ c, c ≤ h / 24 ∧ rd σ (b + 142) 13 = nI c ∧ rd σ 75 b = nI c) ∨ ∃ f, f < b ∧ rd σ 82 b = nI f ∧ rd σ (b + 142) 12 = rd σ (f + 142) 12)
def IBatch (h n : Nat) (σ : St) : Prop := n ≤ 200 ∧ rd σ 17 1 = nI n ∧ rd σ 59 16 = nI n ∧ (∀ b, b < n → IB h b σ) ∧
  ∀ b, n ≤ b → b < 200 → (rd σ (b + 142) 6 = 0 ∧ rd σ (b + 142) 7 = 0 ∧ rd σ (b + 142) 8 = 0 ∧ rd σ (b + 142) 9 = 0 ∧ rd σ (b + 142) 10 = 0) ∧ (rd σ 77 b = 0 ∧ rd σ 78 b = 0 ∧ rd σ 79 b = 0 ∧ rd σ 80 b = 0 ∧ rd σ 81 b = 0)
def sSpoil : P2 := fun q k => (q = 17 ∧ k = 7) ∨ (q = 59 ∧ k = 74) ∨ q = 20 ∨ q = 21 ∨ q = 22 ∨ q = 115 ∨ q = 116 ∨ q = 117 ∨ q = 72 ∨ q = 73
def ISpoil (h nB : Nat) (σ : St) : Prop := ∃ n, n ≤ 400 ∧ rd σ 17 7 = nI n ∧ rd σ 59 74 = nI n ∧
  (∀ i, i < n → ∃ b p dy : Nat, b < nB ∧ p ≤ 999 ∧ dy ≤ h / 24 ∧ rd σ 115 i = nI b ∧ rd σ 20 i = rd σ 72 b * 100 + rd σ 73 b ∧ rd σ 21 i = nI p ∧ rd σ 117 i = nI p ∧ rd σ 22 i = nI dy ∧ rd σ 116 i = nI dy) ∧
  ∀ i j, i < j → j < n → (rd σ 22 i).toNatClampNeg ≤ (rd σ 22 j).toNatClampNeg
def sKit : P2 := fun q k => (q = 55 ∧ k = 1) ∨ (q = 59 ∧ k = 70) ∨ q = 56 ∨ q = 57 ∨ q = 112 ∨ q = 113 ∨ q = 114
def IKit (σ : St) : Prop := ∃ n, n ≤ 10 ∧ rd σ 55 1 = nI n ∧ rd σ 59 70 = nI n ∧
  ∀ i, i < n → ∃ p t, p < 10000 ∧ t < 24 ∧ rd σ 56 i = nI p ∧ rd σ 112 i = nI (p / 100) ∧ rd σ 113 i = nI (p % 100) ∧ rd σ 57 i = nI t ∧ rd σ 114 i = nI t
def sTape : P2 := fun q k => (q = 23 ∧ k = 1) ∨ (q = 59 ∧ k = 31) ∨ q = 24 ∨ q = 84
def ITape (σ : St) : Prop := ∃ n, n ≤ 160 ∧ rd σ 23 1 = nI n ∧ rd σ 59 31 = nI n ∧ ∀ i, i < n → ∃ c, c < 256 ∧ rd σ 24 i = nI c ∧ rd σ 84 i = vp_nar .byte (nI c)
/-! a law's text as TOKENS: (0, v) a number, (1, i) a name, (2, 0) the comma, (3, 0) the clause's end, (4, 0) !, (c, 0) a sign c between two -/
def nmC (i : Nat) : Int32 := ([97, 107, 99, 119, 104, 112, 110, 115] : List Int32).getD i 0
def tokX (t : Nat × Nat) : Int32 := match t.1 with
  | 0 => nI t.2
  | 1 => -nmC t.2
  | 2 => -44
  | 3 => -59
  | 4 => -33
  | c => -(nI c)
def tokA (t : Nat × Nat) : Int32 := match t.1 with
  | 0 => 1
  | 1 => 2
  | 2 => 3
  | 3 => 4
  | 4 => 5
  | c => nI c
def tokOk (t : Nat × Nat) : Prop := (t.1 = 0 ∧ t.2 ≤ 9999) ∨ (t.1 = 1 ∧ t.2 < 8) ∨ ((t.1 = 2 ∨ t.1 = 3 ∨ t.1 = 4) ∧ t.2 = 0) ∨ ((t.1 = 38 ∨ t.1 = 42 ∨ t.1 = 43 ∨ t.1 = 45 ∨ t.1 = 47 ∨ t.1 = 60 ∨ t.1 = 61 ∨ t.1 = 62 ∨ t.1 = 124) ∧ t.2 = 0)
/-- how many values lie on the pile behind a token, none if it can't stand there; the comma and the end want one -/
def hgt (n : Nat) (t : Nat × Nat) : Option Nat := match t.1 with
  | 0 => some (n + 1)
  | 1 => some (n + 1)
  | 2 => if n = 1 then some 0 else none
  | 3 => if n = 1 then some 0 else none
  | 4 => if 1 ≤ n then some n else none
  | _ => if 2 ≤ n then some (n - 1) else none
def hgts : Nat → List (Nat × Nat) → Option Nat
  | n, [] => some n
  | n, t :: r => (hgt n t).bind fun m => hgts m r
def sLaws : P2 := fun q k => (q = 26 ∧ k = 5) ∨ (q = 59 ∧ k = 32) ∨ q = 28 ∨ q = 29 ∨ q = 30 ∨ q = 31 ∨ q = 85 ∨ q = 86 ∨ q = 87 ∨ q = 88 ∨ q = 89 ∨ q = 90 ∨ (342 ≤ q ∧ q < 358)
def ILaw (h i : Nat) (T : List (Nat × Nat)) (σ : St) : Prop := T.length ≤ 161 ∧ (∀ t ∈ T, tokOk t) ∧ hgts 0 T = some 0 ∧ rd σ 28 i = nI T.length ∧ rd σ 88 i = nI T.length ∧
  (∀ j t, T[j]? = some t → rd σ (i + 342) j = tokX t ∧ rd σ 89 (170 * i + j) = tokA t ∧ (t.1 ≤ 1 → rd σ 90 (170 * i + j) = nI t.2)) ∧
  (∃ u, u ≤ 1 ∧ rd σ 29 i = nI u ∧ rd σ 85 i = nI u) ∧ (∃ m, m ≤ h / 24 ∧ rd σ 31 i = nI m ∧ rd σ 86 i = nI m) ∧ (∃ f, f < 1500 ∧ rd σ 30 i = nI f ∧ rd σ 87 i = nI f)
def ILaws (h : Nat) (σ : St) : Prop := ∃ n, n ≤ 16 ∧ rd σ 26 5 = nI n ∧ rd σ 59 32 = nI n ∧ ∀ i, i < n → ∃ T, ILaw h i T σ
def sRows : P2 := fun q k => (q = 34 ∧ k = 7) ∨ (q = 59 ∧ k = 45) ∨ (35 ≤ q ∧ q ≤ 41) ∨ (92 ≤ q ∧ q ≤ 98)
def IRow (h r : Nat) (σ : St) : Prop := ∃ s k t st w a g : Nat, (s < 12 ∧ k < 10 ∧ t ≤ h ∧ 6 ≤ t % 24 ∧ t % 24 ≤ 19 ∧ st < 4 ∧ w < 3 ∧ a ≤ 999 ∧ g ≤ a) ∧
  (rd σ 35 r = nI s ∧ rd σ 36 r = nI k ∧ rd σ 37 r = nI t ∧ rd σ 38 r = nI st ∧ rd σ 39 r = nI w ∧ rd σ 40 r = nI a ∧ rd σ 41 r = nI g) ∧
  (rd σ 92 r = nI s ∧ rd σ 93 r = nI k ∧ rd σ 94 r = nI t ∧ rd σ 95 r = nI st ∧ rd σ 96 r = nI w ∧ rd σ 97 r = nI a ∧ rd σ 98 r = nI g)
def IRows (h : Nat) (σ : St) : Prop := ∃ n, n ≤ 600 ∧ rd σ 34 7 = nI n ∧ rd σ 59 45 = nI n ∧ (∀ r, r < n → IRow h r σ) ∧ ∀ r r', r < r' → r' < n → (rd σ 37 r).toNatClampNeg ≤ (rd σ 37 r').toNatClampNeg
def sCuts : P2 := fun q k => (q = 44 ∧ (k = 4 ∨ k = 5 ∨ k = 6)) ∨ (q = 59 ∧ (k = 56 ∨ k = 57)) ∨ q = 48 ∨ q = 100
def ICuts (σ : St) : Prop := (rd σ 44 4 = 0 ∧ rd σ 59 56 = 24) ∨ (rd σ 44 4 = 1 ∧ ∃ f, 6 ≤ f ∧ f ≤ 19 ∧ rd σ 44 5 = nI f ∧ rd σ 59 56 = nI f ∧ rd σ 44 6 = rd σ 59 57 ∧ ∀ t, f ≤ t → t ≤ 19 → rd σ 48 (t - 6) = rd σ 100 t)
def sBox : P2 := fun q k => q = 50 ∨ q = 51 ∨ q = 104 ∨ q = 105 ∨ (q = 49 ∧ k = 5) ∨ (q = 59 ∧ (k = 65 ∨ k = 66)) ∨ q = 53 ∨ q = 108
def IBox (nS : Nat) (σ : St) : Prop := (∀ i, i < 12 → (∃ c, c ≤ 3 ∧ rd σ 50 i = nI c ∧ rd σ 104 i = nI c) ∧ (∃ c, c ≤ 3 ∧ rd σ 51 i = nI c ∧ rd σ 105 i = nI c) ∧ (nS ≤ i → rd σ 50 i = 0 ∧ rd σ 51 i = 0)) ∧
  ((rd σ 49 5 = 0 ∧ rd σ 59 65 = -1) ∨ ∃ n z : Nat, n ≤ 6 ∧ z ≤ 12 ∧ rd σ 49 5 = nI n ∧ rd σ 59 65 = nI n ∧ rd σ 59 66 = nI z ∧ ∀ i, i < n → (∃ s, s < z ∧ rd σ 53 i = nI s ∧ rd σ 108 i = nI s) ∨ (rd σ 53 i = 15 ∧ rd σ 108 i = nI z))
def sCost : P2 := fun q k => (q = 0 ∧ k = 13) ∨ (q = 59 ∧ k = 15)
def ICost (σ : St) : Prop := rd σ 59 15 = rd σ 0 13
def Inv0 (h nS nK nB : Nat) (σ : St) : Prop := IHour h σ ∧ IShops nS σ ∧ IKinds nK σ ∧ IDays σ ∧ IStep σ ∧ IBatch h nB σ ∧ ISpoil h nB σ ∧ IKit σ ∧ ITape σ ∧ ILaws h σ ∧ IRows h σ ∧ ICuts σ ∧ IBox nS σ ∧ ICost σ
def Inv (σ : St) : Prop := ∃ h nS nK nB : Nat, Inv0 h nS nK nB σ

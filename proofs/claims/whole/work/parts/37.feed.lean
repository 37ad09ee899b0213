/-! FEED: a byte of a number, and twenty of them -/
theorem toBV_nI (n : Nat) : (nI n).toBitVec = BitVec.ofNat 32 n := rfl
def by8 (a : Int32) (s : Nat) : Nat := a.toBitVec.toNat / 2 ^ s % 256
theorem by8_lt (a : Int32) (s : Nat) : by8 a s < 256 := Nat.mod_lt _ (by omega)
theorem by8_x (a k : Int32) (s : Nat) (hk : ((k.toUInt32 &&& Int32.toUInt32 31) % 32).toBitVec.toNat = s) : ((a.toUInt32 >>> (k.toUInt32 &&& Int32.toUInt32 31)).toInt32) &&& (255 : Int32) = nI (by8 a s) := by
  apply Int32.toBitVec_inj.mp
  apply BitVec.eq_of_toNat_eq
  have h1 : ((a.toUInt32 >>> (k.toUInt32 &&& Int32.toUInt32 31)).toInt32).toBitVec.toNat = a.toBitVec.toNat >>> ((k.toUInt32 &&& Int32.toUInt32 31) % 32).toBitVec.toNat := rfl
  rw [Int32.toBitVec_and, BitVec.toNat_and, h1, hk, toBV_nI, BitVec.toNat_ofNat]
  have e : (255 : Int32).toBitVec.toNat = 2 ^ 8 - 1 := rfl
  rw [e, Nat.and_two_pow_sub_one_eq_mod, Nat.shiftRight_eq_div_pow]
  have := by8_lt a s
  rw [Nat.mod_eq_of_lt (a := by8 a s) (by omega)]
  rfl
theorem by8_m (a k : Int32) (s : Nat) (hs : s ≤ 24) (hk : (k.toBitVec.smod 32).toNat = s) : (a >>> k).toInt8 = (nI (by8 a s)).toInt8 := by
  apply Int8.toBitVec_inj.mp
  rw [Int32.toBitVec_toInt8, Int32.toBitVec_toInt8, Int32.toBitVec_shiftRight, toBV_nI]
  show BitVec.signExtend 8 (a.toBitVec.sshiftRight ((k.toBitVec.smod 32).toNat)) = _
  rw [hk]
  apply BitVec.eq_of_getLsbD_eq
  intro i hi
  have e : by8 a s = (a.toBitVec.toNat >>> s) % 2 ^ 8 := by rw [Nat.shiftRight_eq_div_pow]; rfl
  rw [BitVec.getLsbD_signExtend, BitVec.getLsbD_signExtend, BitVec.getLsbD_sshiftRight, BitVec.getLsbD_ofNat, e, Nat.testBit_mod_two_pow, Nat.testBit_shiftRight]
  simp only [hi, decide_true, Bool.true_and, show i < 32 by omega, show s + i < 32 by omega, if_true, BitVec.testBit_toNat]
  simp [show ¬ (32 ≤ i) by omega]
theorem by8_n (a k : Int32) (s : Nat) (hs : s ≤ 24) (hk : (k.toBitVec.smod 32).toNat = s) : vp_nar .byte ((a >>> k).toInt8.toInt32) = vp_nar .byte (nI (by8 a s)) := by
  rw [vp_nar_byte, vp_nar_byte, by8_m a k s hs hk]
  simp
def fed (F : Nat → Int32) (qa qi ci n m : Nat) (f : Nat → Nat) (σ σ' : St) : Prop := ∀ q e, rd σ' q e = if q = qa ∧ n ≤ e ∧ e < n + m then F (f e) else if q = qi ∧ e = ci then nI (n + m) else rd σ q e
theorem fed.tr {F : Nat → Int32} {qa qi ci n m k : Nat} {f g : Nat → Nat} {σ σ1 σ2 : St} (hq : qa ≠ qi) (h1 : fed F qa qi ci n m f σ σ1) (h2 : fed F qa qi ci (n + m) k g σ1 σ2) : fed F qa qi ci n (m + k) (fun e => if e < n + m then f e else g e) σ σ2 := by
  intro q e
  rw [h2 q e, h1 q e]
  dsimp only
  repeat' split
  all_goals first | rfl | (exfalso; omega) | (rw [Nat.add_assoc])
section FD
variable {Γ : GG} {l : Launch} {d : Nat} {σ : St}
theorem takeX1 {Q : Option Value → St → Prop} {n : Nat} {a a2 a3 : Int32} (s : Nat) (hn : n < 160) (h1 : rd σ 23 1 = nI n) (hc : ¬ a2 < (0 : Int32)) (hk : ((a2.toUInt32 &&& Int32.toUInt32 31) % 32).toBitVec.toNat = s) (e3 : a2 + (-8) = a3) (k : J Γ l d mX10_take Q 3 [(0, .ref 23), (1, .int a), (2, .int a3)] [] (wr (wr σ 24 n (nI (by8 a s))) 23 1 (nI (n + 1)))) : J Γ l d mX10_take Q 3 [(0, .ref 23), (1, .int a), (2, .int a2)] [] σ := by
  refine w_X10_take_3 _ _ ⟨fun q => absurd q hc, fun _ => ⟨fun q => ?_, fun _ => ?_⟩⟩
  · rw [h1] at q
    have := (nI_lei (a := 160) (b := n) (by omega) (by omega)).mp q
    omega
  · rw [h1, cl (by omega), by8_x a a2 s hk, nI_s, e3]
    exact ⟨in_nI hn (by omega), fun x2 hx => hx ▸ k⟩
theorem S_take {n : Nat} {a : Int32} (hn : n + 4 ≤ 160) (h1 : rd σ 23 1 = nI n) : Meth Γ l d mX10_take [.ref 23, .int a] σ (KV (fed nI 24 23 1 n 4 (fun e => by8 a (24 - 8 * (e - n))) σ)) := by
  refine M_X10_take _ (w_X10_take_0 _ ?_)
  refine takeX1 24 (n := n) (by omega) h1 (by decide) (by decide) rfl ?_
  refine takeX1 16 (n := n + 1) (by omega) (by rw [rd_wr, if_pos ⟨rfl, rfl⟩]) (by decide) (by decide) rfl ?_
  refine takeX1 8 (n := n + 1 + 1) (by omega) (by rw [rd_wr, if_pos ⟨rfl, rfl⟩]) (by decide) (by decide) rfl ?_
  refine takeX1 0 (n := n + 1 + 1 + 1) (by omega) (by rw [rd_wr, if_pos ⟨rfl, rfl⟩]) (by decide) (by decide) rfl ?_
  refine w_X10_take_3 _ _ ⟨fun _ => ⟨rfl, fun q e => ?_⟩, fun q => absurd (by decide) q⟩
  simp only [rd_wr]
  repeat' split
  all_goals first | rfl | (exfalso; omega) | (congr 2; omega)
theorem feedM1 {Q : Option Value → St → Prop} {n : Nat} {a a2 a3 : Int32} (s : Nat) (hs : s ≤ 24) (hn : n < 160) (h1 : rd σ 59 31 = nI n) (hc : ¬ a2 < (0 : Int32)) (hk : (((8 : Int32) * a2 &&& 31).toBitVec.smod 32).toNat = s) (e3 : a2 + (-1) = a3) (k : J Γ l d mX12_feedOne Q 2 [(0, .ref 59), (1, .int a), (2, .int a3)] [] (wr (wr σ 84 n (vp_nar .byte (nI (by8 a s)))) 59 31 (nI (n + 1)))) : J Γ l d mX12_feedOne Q 2 [(0, .ref 59), (1, .int a), (2, .int a2)] [] σ := by
  refine w_X12_feedOne_2 _ _ ⟨fun q => absurd q hc, fun _ => ?_⟩
  rw [h1, cl (by omega), by8_n a _ s hs hk, nI_s, e3]
  exact ⟨in_nI hn (by omega), fun x2 hx => hx ▸ k⟩
theorem S_feedOne {n : Nat} {a : Int32} (hn : n + 4 ≤ 160) (h1 : rd σ 59 31 = nI n) : Meth Γ l d mX12_feedOne [.ref 59, .int a] σ (KV (fed (fun c => vp_nar .byte (nI c)) 84 59 31 n 4 (fun e => by8 a (24 - 8 * (e - n))) σ)) := by
  refine M_X12_feedOne _ (w_X12_feedOne_0 _ ?_)
  refine feedM1 24 (n := n) (by omega) (by omega) h1 (by decide) (by decide) rfl ?_
  refine feedM1 16 (n := n + 1) (by omega) (by omega) (by rw [rd_wr, if_pos ⟨rfl, rfl⟩]) (by decide) (by decide) rfl ?_
  refine feedM1 8 (n := n + 1 + 1) (by omega) (by omega) (by rw [rd_wr, if_pos ⟨rfl, rfl⟩]) (by decide) (by decide) rfl ?_
  refine feedM1 0 (n := n + 1 + 1 + 1) (by omega) (by omega) (by rw [rd_wr, if_pos ⟨rfl, rfl⟩]) (by decide) (by decide) rfl ?_
  refine w_X12_feedOne_2 _ _ ⟨fun _ => ⟨rfl, fun q e => ?_⟩, fun q => absurd (by decide) q⟩
  simp only [rd_wr]
  repeat' split
  all_goals first | rfl | (exfalso; omega) | (congr 3; omega)
theorem fed.lenX {n m : Nat} {f : Nat → Nat} {σ' : St} (r : fed nI 24 23 1 n m f σ σ') : rd σ' 23 1 = nI (n + m) := by
  rw [r, if_neg (by omega), if_pos ⟨rfl, rfl⟩]
theorem fed.lenM {F : Nat → Int32} {n m : Nat} {f : Nat → Nat} {σ' : St} (r : fed F 84 59 31 n m f σ σ') : rd σ' 59 31 = nI (n + m) := by
  rw [r, if_neg (by omega), if_pos ⟨rfl, rfl⟩]
theorem P_feed (a b c e f : Int32) (hI : Inv σ) : Meth Γ l (d + 1) mX11_feed [.ref 0, .int a, .int b, .int c, .int e, .int f] σ (PI Γ l (d + 1) mX12_feed [.ref 59, .int a, .int b, .int c, .int e, .int f]) := by
  obtain ⟨h, nS, nK, nB, i1, i2, i3, i4, i5, i6, i7, i8, i9, i10, i11, i12, i13, i14⟩ := id hI
  obtain ⟨n, t1, t2, t3, t4⟩ := id i9
  have le : nI n ≤ (140 : Int32) ↔ n ≤ 140 := nI_lei (b := 140) (by omega) (by omega)
  have leM : nI n + 20 ≤ (160 : Int32) ↔ n ≤ 140 := by
    rw [show nI n + 20 = nI (n + 20) from nI_addn n 20, show (160 : Int32) = nI 160 from rfl, nI_lei (by omega) (by omega)]
    omega
  refine M_X11_feed _ _ _ _ _ (w_X11_feed_0 _ _ _ _ _ ?_)
  rw [t2, le]
  refine ⟨fun hn => ?_, fun hn => PI.mk (M_X12_feed _ _ _ _ _ (w_X12_feed_0 _ _ _ _ _ (by rw [t3, leM]; exact ⟨fun q => absurd q hn, fun _ => KI.mk ⟨rfl, hI⟩⟩)))⟩
  refine (S_take (by omega) t2).mono ?_
  rintro u σ1 ⟨rfl, r1⟩
  refine ⟨rfl, (S_take (by omega) r1.lenX).mono ?_⟩
  rintro u σ2 ⟨rfl, r2⟩
  replace r2 := fed.tr (by omega) r1 r2
  refine ⟨rfl, (S_take (by omega) r2.lenX).mono ?_⟩
  rintro u σ3 ⟨rfl, r3⟩
  replace r3 := fed.tr (by omega) r2 r3
  refine ⟨rfl, (S_take (by omega) r3.lenX).mono ?_⟩
  rintro u σ4 ⟨rfl, r4⟩
  replace r4 := fed.tr (by omega) r3 r4
  refine ⟨rfl, (S_take (by omega) r4.lenX).mono ?_⟩
  rintro u σ5 ⟨rfl, r5⟩
  replace r5 := fed.tr (by omega) r4 r5
  have t3' : rd σ5 59 31 = nI n := by rw [r5, if_neg (by omega), if_neg (by omega)]; exact t3
  refine ⟨rfl, PI.mk (M_X12_feed _ _ _ _ _ (w_X12_feed_0 _ _ _ _ _ ?_))⟩
  rw [t3', leM, r5.lenX]
  refine ⟨fun _ => ?_, fun q => absurd hn q⟩
  refine (S_feedOne (by omega) t3').mono ?_
  rintro u τ1 ⟨rfl, m1⟩
  refine ⟨rfl, (S_feedOne (by omega) m1.lenM).mono ?_⟩
  rintro u τ2 ⟨rfl, m2⟩
  replace m2 := fed.tr (by omega) m1 m2
  refine ⟨rfl, (S_feedOne (by omega) m2.lenM).mono ?_⟩
  rintro u τ3 ⟨rfl, m3⟩
  replace m3 := fed.tr (by omega) m2 m3
  refine ⟨rfl, (S_feedOne (by omega) m3.lenM).mono ?_⟩
  rintro u τ4 ⟨rfl, m4⟩
  replace m4 := fed.tr (by omega) m3 m4
  refine ⟨rfl, (S_feedOne (by omega) m4.lenM).mono ?_⟩
  rintro u τ5 ⟨rfl, m5⟩
  replace m5 := fed.tr (by omega) m4 m5
  refine ⟨rfl, KI.mk ⟨m5.lenM, ?_⟩⟩
  obtain ⟨B, lt, x5, y5⟩ : ∃ B : Nat → Nat, (∀ j, B j < 256) ∧ fed nI 24 23 1 n (4 + 4 + 4 + 4 + 4) B σ σ5 ∧ fed (fun c => vp_nar .byte (nI c)) 84 59 31 n (4 + 4 + 4 + 4 + 4) B σ5 τ5 := by
    refine ⟨_, ?_, r5, m5⟩
    intro j
    repeat' split
    all_goals exact by8_lt _ _
  have n9 : ITape τ5 := by
    refine ⟨n + 20, by omega, ?_, y5.lenM, fun i hi => ?_⟩
    · rw [y5, if_neg (by omega), if_neg (by omega)]
      exact x5.lenX
    · by_cases hi2 : i < n
      · obtain ⟨c, hc, u1, u2⟩ := t4 i hi2
        refine ⟨c, hc, ?_, ?_⟩
        · rw [y5, if_neg (by omega), if_neg (by omega), x5, if_neg (by omega), if_neg (by omega)]
          exact u1
        · rw [y5, if_neg (by omega), if_neg (by omega), x5, if_neg (by omega), if_neg (by omega)]
          exact u2
      · refine ⟨B i, lt i, ?_, ?_⟩
        · rw [y5, if_neg (by omega), if_neg (by omega), x5, if_pos ⟨rfl, by omega, by omega⟩]
        · rw [y5, if_pos ⟨rfl, by omega, by omega⟩]
  have ag : ∀ q e, ¬ q = 24 → ¬ (q = 23 ∧ e = 1) → ¬ q = 84 → ¬ (q = 59 ∧ e = 31) → rd τ5 q e = rd σ q e := fun q e a1 a2 a3 a4 => by
    rw [y5, if_neg (by omega), if_neg a4, x5, if_neg (by omega), if_neg a2]
  refine ⟨h, nS, nK, nB, i1.of ?_, i2.of ?_, i3.of ?_, i4.of ?_, i5.of ?_, i6.of ?_, i7.of ?_, i8.of ?_, n9, i10.of ?_, i11.of ?_, i12.of ?_, i13.of ?_, i14.of ?_⟩
  all_goals (intro q e hs; simp only [sHour, sShops, sKinds, sDays, sStep, sBatch, sSpoil, sKit, sTape, sLaws, sRows, sCuts, sBox, sCost] at hs; exact ag q e (by omega) (by omega) (by omega) (by omega))
end FD

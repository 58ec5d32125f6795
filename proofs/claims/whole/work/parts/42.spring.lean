/-! springs drawn: run, springs -/
def lcgN (a : Nat) : Nat := (1103515245 * a + 12345) % 2147483648
def drwN (a : Nat) : Nat := a / 65536 % 10000
def thN (W : Wd) (s k : Nat) : Nat := if s.testBit k = true then 100 * W 10 else oddsN W k
def spC (W : Wd) (a s : Nat) : Nat → Nat × Nat
  | 0 => (a, s)
  | k + 1 => (lcgN (spC W a s k).1, if drwN (lcgN (spC W a s k).1) < thN W (spC W a s k).2 k then (spC W a s k).2 ^^^ 2 ^ k else (spC W a s k).2)
def spH (W : Wd) (a : Nat) : Nat → Nat × Nat × Nat
  | 0 => (a, W 18, 0)
  | h + 1 => ((spC W (spH W a h).1 (spH W a h).2.1 (W 5)).1, (spC W (spH W a h).1 (spH W a h).2.1 (W 5)).2, if (spH W a h).2.2 = 0 ∧ ¬ enoughN W (spC W (spH W a h).1 (spH W a h).2.1 (W 5)).2 then h + 1 else (spH W a h).2.2)
theorem lcg_lt (a : Nat) : lcgN a < 2147483648 := Nat.mod_lt _ (by decide)
theorem drw_lt (a : Nat) : drwN a < 10000 := Nat.mod_lt _ (by decide)
theorem spC_lt {W : Wd} {a s : Nat} (ha : a < 4294967296) (hs : s < 2 ^ W 5) : ∀ k, k ≤ W 5 → (spC W a s k).1 < 4294967296 ∧ (spC W a s k).2 < 2 ^ W 5
  | 0, _ => ⟨ha, hs⟩
  | k + 1, hk => by
    obtain ⟨-, b⟩ := spC_lt ha hs k (by omega)
    refine ⟨Nat.lt_trans (lcg_lt _) (by decide), ?_⟩
    show (if _ then _ else _) < _
    split
    · exact Nat.xor_lt_two_pow b (Nat.pow_lt_pow_right (by decide) (by omega))
    · exact b
theorem spH_lt {W : Wd} (I : Inv W) {a : Nat} (ha : a < 4294967296) : ∀ h, (spH W a h).1 < 4294967296 ∧ (spH W a h).2.1 < 2 ^ W 5 ∧ (spH W a h).2.2 ≤ h
  | 0 => by
    obtain ⟨-, -, -, -, -, -, -, -, -, -, -, b18, b19⟩ := I.2.1
    exact ⟨ha, b18, Nat.le_refl _⟩
  | h + 1 => by
    obtain ⟨a1, a2, a3⟩ := spH_lt I ha h
    obtain ⟨b1, b2⟩ := spC_lt a1 a2 (W 5) (Nat.le_refl _)
    refine ⟨b1, b2, ?_⟩
    show (if (spH W a h).2.2 = 0 ∧ ¬ enoughN W (spC W (spH W a h).1 (spH W a h).2.1 (W 5)).2 then h + 1 else (spH W a h).2.2) ≤ h + 1
    split <;> omega
theorem lN_mask {y : Nat} (h : y < 2 ^ 64) : lN y &&& 2147483647 = lN (y % 2147483648) := by
  apply Int64.toBitVec_inj.mp
  show BitVec.ofNat 64 y &&& (2147483647 : Int64).toBitVec = BitVec.ofNat 64 (y % 2147483648)
  apply BitVec.eq_of_toNat_eq
  rw [BitVec.toNat_and, BitVec.toNat_ofNat, BitVec.toNat_ofNat, show (2147483647 : Int64).toBitVec.toNat = 2 ^ 31 - 1 by decide, Nat.mod_eq_of_lt h, Nat.and_two_pow_sub_one_eq_mod]
  have := Nat.mod_lt y (show 0 < 2147483648 by decide)
  rw [Nat.mod_eq_of_lt (a := y % 2147483648) (by omega)]
theorem lcg_c {a : Nat} (ha : a < 4294967296) : ((1103515245 * lN a) + 12345) &&& 2147483647 = lN (lcgN a) := by
  rw [show (1103515245 : Int64) = lN 1103515245 from rfl, show (12345 : Int64) = lN 12345 from rfl, lN_mul, lN_add, lN_mask (by omega)]
  rfl
theorem lcg_m {a : Nat} (ha : a < 4294967296) : ((1103515245 * lN a) + 12345) - ((1103515245 * lN a) + 12345) / 2147483648 * 2147483648 = lN (lcgN a) := by
  rw [show (1103515245 : Int64) = lN 1103515245 from rfl, show (12345 : Int64) = lN 12345 from rfl, show (2147483648 : Int64) = lN 2147483648 from rfl, lN_mul, lN_add, pk_lRem (by omega) (by decide) (by decide)]
  rfl
theorem drw_e {a : Nat} (ha : a < 4294967296) : (lN a / 65536) - (lN a / 65536) / 10000 * 10000 = lN (drwN a) := by
  rw [show (65536 : Int64) = lN 65536 from rfl, show (10000 : Int64) = lN 10000 from rfl, pk_lDiv (by omega) (by decide) (by decide), pk_lRem (by omega) (by decide) (by decide)]
  rfl
section SPRING
variable {m m' : Mem} {t : Nat} {W : Wd}
theorem th_le (I : Inv W) (s k : Nat) : thN W s k ≤ 10000 := by
  obtain ⟨-, -, -, b10, -⟩ := I.2.1
  have := odds_lt W k
  unfold thN
  split <;> omega
/-- what a spring may change of an ice -/
def SpF (t : Nat) (m m' : Mem) : Prop := (∀ a, a ≠ t → a ≠ t + 2 → m'.1 a = m.1 a) ∧ (∀ i, i ≠ 1 → m'.1 t i = m.1 t i) ∧ m'.2 = m.2
theorem SpF.refl : SpF t m m := ⟨fun _ _ _ => rfl, fun _ _ => rfl, rfl⟩
theorem SpF.trans {m'' : Mem} (h : SpF t m m') (k : SpF t m' m'') : SpF t m m'' := ⟨fun a p q => (k.1 a p q).trans (h.1 a p q), fun i p => (k.2.1 i p).trans (h.2.1 i p), k.2.2.trans h.2.2⟩
theorem KO.sp (h : KO t m m') : SpF t m m' := ⟨fun a _ q => h.1 a q, fun i _ => congrFun (h.1 t (by omega)) i, h.2⟩
theorem SpF.w (v : Int32) : SpF t m (wI m t 1 v) := ⟨fun a p _ => wI_1 m p v, fun i p => by rw [wI_at, if_neg p], rfl⟩
theorem SpF.fp (h : SpF t m m') : Fp t (t + 3) m m' := fun a q => ⟨h.1 a (by omega) (by omega), by rw [h.2.2]⟩
theorem IcA.sp (A : IcA m t W) (h : SpF t m m') : IcA m' t W := by
  obtain ⟨A0, A2, A3, Ac, As, Ag, Ah, Av, An⟩ := A
  refine ⟨?_, ?_, ?_, fun k hk => ?_, fun k hk => ?_, fun k hk => ?_, fun k hk => ?_, fun a k ha hk => ?_, fun k hk => ?_⟩
  · rw [h.2.1 0 (by decide), A0]
  · rw [h.2.1 2 (by decide), A2]
  · rw [h.2.1 3 (by decide), A3]
  · rw [h.1 _ (by omega) (by omega), Ac k hk]
  · rw [h.1 _ (by omega) (by omega), As k hk]
  · rw [h.1 _ (by omega) (by omega), Ag k hk]
  · rw [h.1 _ (by omega) (by omega), Ah k hk]
  · rw [h.1 _ (by omega) (by omega), Av a k ha hk]
  · rw [h.1 _ (by omega) (by omega), An k hk]
theorem xor_nI (s k : Nat) (hk : k ≤ 30) : nI s ^^^ ((1 : Int32) <<< (nI k &&& 31)) = nI (s ^^^ 2 ^ k) := by rw [shl1 hk, nI_xor]
theorem bit_c {s k : Nat} (hs : s < 2147483648) (hk : k < 32) : ((nI s >>> (nI k &&& 31)) &&& 1 = 1) ↔ s.testBit k = true := by
  rw [shr_and1 hs hk, ← bit_iff]
  have : s / 2 ^ k % 2 < 2 := Nat.mod_lt _ (by decide)
  exact nI_eq (b := 1) (by omega) (by decide)
theorem Ic_drawSpring_e (A : IcA m t W) (K : IcK m t W) (I : Inv W) {a n : Nat} (ha : a < 4294967296) (hn : n ≤ 99) : Ok (Ic_drawSpring t (lN a) (nI n) m) (fun r => r.1 = nI (spH W a n).2.2 ∧ SpF t m r.2 ∧ IcK r.2 t W ∧ r.2.1 t 1 = nI (spH W a n).2.1) := by
  have d := I.d
  have h7 := p2le (k := W 5) (n := 7) d.2.2.2.2.1
  have h128 : (2 : Nat) ^ 7 = 128 := by decide
  obtain ⟨-, -, -, b10, -, -, -, -, -, -, -, b18, b19⟩ := I.2.1
  unfold Ic_drawSpring
  refine Ok_lt ?_
  rw [show rI m t 2 = nI (W 18) from A.2.1]
  refine Ok_loop n (fun h x => (lN (spH W a h).1, nI (spH W a h).2.2, nI (h + 1), x)) (fun h x => SpF t m x ∧ IcK x t W ∧ x.1 t 1 = nI (spH W a h).2.1) (wI m t 1 (nI (W 18))) rfl ⟨SpF.w _, fun s hs => by rw [wI_o _ (by omega)]; exact K s hs, wI_self _ _ _ _⟩ (fun h x hh ⟨F, K2, e⟩ => ?_) (fun x ⟨F, K2, e⟩ => ?_)
  · obtain ⟨q1, q2, q3⟩ := spH_lt I ha h
    generalize hq : spH W a h = q at q1 q2 q3 e ⊢
    show Ok (Ic_drawSpring_l17 t (nI n) (lN q.1) (nI q.2.2) (nI (h + 1)) x) _
    unfold Ic_drawSpring_l17
    refine Ok_if (nI_nlt (by omega) (by omega)) ?_
    refine Ok_loop (W 5) (fun k y => (lN (spC W q.1 q.2.1 k).1, nI k, y)) (fun k y => SpF t m y ∧ IcK y t W ∧ y.1 t 1 = nI (spC W q.1 q.2.1 k).2) x rfl ⟨F, K2, e⟩ (fun k y hk ⟨F2, K3, e2⟩ => ?_) (fun y ⟨F2, K3, e2⟩ => ?_)
    · obtain ⟨c1, c2⟩ := spC_lt q1 q2 k (by omega)
      have A2 := A.sp F2
      have tl := th_le I (spC W q.1 q.2.1 k).2 k
      have dl := drw_lt (lcgN (spC W q.1 q.2.1 k).1)
      show Ok (Ic_drawSpring_l26 t (nI n) (nI q.2.2) (nI (h + 1)) (lN (spC W q.1 q.2.1 k).1) (nI k) y) _
      have hp : 2 ^ k < 2 ^ W 5 := Nat.pow_lt_pow_right (by decide) hk
      unfold Ic_drawSpring_l26
      rw [lcg_c c1, drw_e (Nat.lt_trans (lcg_lt _) (by decide)), show rI y t 0 = nI (2 ^ W 5) from A2.1, shl1 (by omega), show rI y t 1 = nI (spC W q.1 q.2.1 k).2 from e2]
      have b116 : ∀ c, c = thN W (spC W q.1 q.2.1 k).2 k → Ok (Ic_drawSpring_b116 t (nI n) (lN (lcgN (spC W q.1 q.2.1 k).1)) (nI q.2.2) (nI (h + 1)) (nI k) (lN (drwN (lcgN (spC W q.1 q.2.1 k).1))) (nI c) y) (fun r => ∃ x', r = Sum.inl (lN (spC W q.1 q.2.1 (k + 1)).1, nI (k + 1), x') ∧ SpF t m x' ∧ IcK x' t W ∧ x'.1 t 1 = nI (spC W q.1 q.2.1 (k + 1)).2) := by
        intro c hc
        unfold Ic_drawSpring_b116 Ic_drawSpring_b134
        rw [nI_l (by omega), nI_1]
        by_cases z : drwN (lcgN (spC W q.1 q.2.1 k).1) < thN W (spC W q.1 q.2.1 k).2 k
        · refine Ok_if (fun w => by have := (pk_lLE (by omega) (by omega)).mp w; omega) (Ok_lt ?_)
          rw [show rI y t 1 = nI (spC W q.1 q.2.1 k).2 from e2, xor_nI _ _ (by omega)]
          refine Ok_s ⟨_, rfl, F2.trans (SpF.w _), fun s hs => by rw [wI_o _ (by omega)]; exact K3 s hs, ?_⟩
          rw [wI_self]
          exact congrArg nI (if_pos z).symm
        · refine Ok_it ((pk_lLE (by omega) (by omega)).mpr (by omega)) (Ok_s ⟨y, rfl, F2, K3, ?_⟩)
          rw [e2]
          exact congrArg nI (if_neg z).symm
      refine Ok_if (show ¬ (7 : Int32) ≤ nI k from nI_ge (b := 7) (by omega) (by decide)) (Ok_if (nI_ge hp (by omega)) ?_)
      by_cases z : (spC W q.1 q.2.1 k).2.testBit k = true
      · refine Ok_it ((bit_c (by omega) (by omega)).mpr z) ?_
        unfold Ic_drawSpring_b90
        refine Ok_if (by decide) ?_
        rw [show rI y t 3 = nI (W 10) from A2.2.2.1, show (100 : Int32) * nI (W 10) = nI (100 * W 10) from pk_mul 100 _]
        exact b116 _ (if_pos z).symm
      · refine Ok_if (fun w => z ((bit_c (by omega) (by omega)).mp w)) ?_
        unfold Ic_drawSpring_b90
        refine Ok_it rfl (Ok_gd (in_nI (n := 7) (by omega) (by decide)) ?_)
        rw [ix_nI (by omega), show rI y (t + 3) k = nI (oddsN W k) from A2.2.2.2.1 k hk]
        exact b116 _ (if_neg z).symm
    · obtain ⟨c1, c2⟩ := spC_lt q1 q2 (W 5) (by omega)
      have A2 := A.sp F2
      show Ok (Ic_drawSpring_l26 t (nI n) (nI q.2.2) (nI (h + 1)) (lN (spC W q.1 q.2.1 (W 5)).1) (nI (W 5)) y) _
      have l26 : Ic_drawSpring_l26 t (nI n) (nI q.2.2) (nI (h + 1)) (lN (spC W q.1 q.2.1 (W 5)).1) (nI (W 5)) y = up (Ic_drawSpring_b140 t (nI n) (lN (spC W q.1 q.2.1 (W 5)).1) (nI q.2.2) (nI (h + 1)) y) := by
        unfold Ic_drawSpring_l26
        by_cases w : 7 ≤ W 5
        · rw [if_pos (show (7 : Int32) ≤ nI (W 5) from nI_le (a := 7) w (by omega))]
        · rw [if_neg (show ¬ (7 : Int32) ≤ nI (W 5) from nI_ge (b := 7) (by omega) (by decide)), show rI y t 0 = nI (2 ^ W 5) from A2.1, shl1 (by omega), if_pos (nI_le (Nat.le_refl _) (by omega))]
      rw [l26]
      have hS : spH W a (h + 1) = ((spC W q.1 q.2.1 (W 5)).1, (spC W q.1 q.2.1 (W 5)).2, if q.2.2 = 0 ∧ ¬ enoughN W (spC W q.1 q.2.1 (W 5)).2 then h + 1 else q.2.2) := by rw [← hq]; rfl
      rw [hS]
      refine Ok_up (P := fun r => ∃ x', r = Sum.inl (lN (spC W q.1 q.2.1 (W 5)).1, nI (if q.2.2 = 0 ∧ ¬ enoughN W (spC W q.1 q.2.1 (W 5)).2 then h + 1 else q.2.2), nI (h + 1 + 1), x') ∧ SpF t m x' ∧ IcK x' t W ∧ x'.1 t 1 = nI (spC W q.1 q.2.1 (W 5)).2) ?_ (fun r hr => ⟨r, rfl, hr⟩)
      unfold Ic_drawSpring_b140 Ic_drawSpring_b160
      rw [nI_1]
      by_cases z : q.2.2 = 0
      · refine Ok_it (by rw [z]; rfl) ?_
        rw [show rI y t 1 = nI (spC W q.1 q.2.1 (W 5)).2 from e2]
        refine Ok_bind (Ic_isEnough_e A2 K3 I c2) (fun r ⟨r1, k2, K4⟩ => ?_)
        have e3 : r.2.1 t 1 = nI (spC W q.1 q.2.1 (W 5)).2 := by rw [← e2]; exact congrFun (k2.1 t (by omega)) 1
        rw [r1, ite_b2]
        by_cases z2 : enoughN W (spC W q.1 q.2.1 (W 5)).2
        · refine Ok_it z2 (Ok_s ⟨r.2, ?_, F2.trans k2.sp, K4, e3⟩)
          rw [if_neg (fun w => w.2 z2)]
        · refine Ok_if z2 (Ok_s ⟨r.2, ?_, F2.trans k2.sp, K4, e3⟩)
          rw [if_pos ⟨z, z2⟩]
      · refine Ok_if (nI_ne0 (by omega) (by omega)) (Ok_s ⟨y, ?_, F2, K3, e2⟩)
        rw [if_neg (fun w => z w.1)]
  · show Ok (Ic_drawSpring_l17 t (nI n) (lN (spH W a n).1) (nI (spH W a n).2.2) (nI (n + 1)) x) _
    unfold Ic_drawSpring_l17
    rw [if_pos (nI_lt (by omega) (by omega)), up_some]
    exact Ok_s ⟨_, rfl, rfl, F, K2, e⟩
/-- what a spring may change of the reference -/
def RfF (m m' : Mem) : Prop := (∀ a, a ≠ 298 → m'.1 a = m.1 a) ∧ (∀ i, i ≠ 25 → m'.1 298 i = m.1 298 i) ∧ ∀ a, a ≠ 298 → m'.2 a = m.2 a
theorem RfF.refl : RfF m m := ⟨fun _ _ => rfl, fun _ _ => rfl, fun _ _ => rfl⟩
theorem RfF.trans {m'' : Mem} (h : RfF m m') (k : RfF m' m'') : RfF m m'' := ⟨fun a p => (k.1 a p).trans (h.1 a p), fun i p => (k.2.1 i p).trans (h.2.1 i p), fun a p => (k.2.2 a p).trans (h.2.2 a p)⟩
theorem RfF.wI (v : Int32) : RfF m (wI m 298 25 v) := ⟨fun a p => wI_1 m p v, fun i p => by rw [wI_at, if_neg p], fun _ _ => rfl⟩
theorem RfF.wL (v : Int64) (i : Nat) : RfF m (wL m 298 i v) := ⟨fun _ _ => rfl, fun _ _ => rfl, fun a p => wL_2 m p v⟩
theorem MW.rf (hW : MW m W) (h : RfF m m') : MW m' W := hW.e (h.1 299 (by decide))
theorem Mo_springsOut_e (hW : MW m W) (I : Inv W) {a n : Nat} (ha : a < 4294967296) (hn : n ≤ 99) : Ok (Mo_springsOut 298 (lN a) (nI n) m) (fun r => r.1 = nI (spH W a n).2.2 ∧ RfF m r.2 ∧ r.2.1 298 25 = nI (spH W a n).2.1) := by
  have d := I.d
  have h7 := p2le (k := W 5) (n := 7) d.2.2.2.2.1
  have h128 : (2 : Nat) ^ 7 = 128 := by decide
  obtain ⟨-, -, -, b10, -, -, -, -, -, -, -, b18, b19⟩ := I.2.1
  unfold Mo_springsOut
  refine Ok_lt (Ok_gd (by decide) ?_)
  rw [qW18 (show MW (wL m 298 24 (lN a)) W from hW)]
  refine Ok_lt ?_
  refine Ok_loop n (fun h x => (nI (spH W a h).2.2, nI (h + 1), x)) (fun h x => RfF m x ∧ x.2 298 24 = lN (spH W a h).1 ∧ x.1 298 25 = nI (spH W a h).2.1) (wI (wL m 298 24 (lN a)) 298 25 (nI (W 18))) rfl ⟨(RfF.wL _ _).trans (RfF.wI _), show (wL m 298 24 (lN a)).2 298 24 = _ from wL_self _ _ _ _, wI_self _ _ _ _⟩ (fun h x hh ⟨F, e0, e⟩ => ?_) (fun x ⟨F, e0, e⟩ => ?_)
  · obtain ⟨q1, q2, q3⟩ := spH_lt I ha h
    generalize hq : spH W a h = q at q1 q2 q3 e0 e ⊢
    show Ok (Mo_springsOut_l22 298 (nI n) (nI q.2.2) (nI (h + 1)) x) _
    unfold Mo_springsOut_l22
    refine Ok_if (nI_nlt (by omega) (by omega)) ?_
    refine Ok_loop (W 5) (fun k y => (nI k, y)) (fun k y => RfF m y ∧ y.2 298 24 = lN (spC W q.1 q.2.1 k).1 ∧ y.1 298 25 = nI (spC W q.1 q.2.1 k).2) x rfl ⟨F, e0, e⟩ (fun k y hk ⟨F2, f0, e2⟩ => ?_) (fun y ⟨F2, f0, e2⟩ => ?_)
    · obtain ⟨c1, c2⟩ := spC_lt q1 q2 k (by omega)
      have tl := th_le I (spC W q.1 q.2.1 k).2 k
      have dl := drw_lt (lcgN (spC W q.1 q.2.1 k).1)
      show Ok (Mo_springsOut_l31 298 (nI n) (nI q.2.2) (nI (h + 1)) (nI k) y) _
      have dr : Mo_draw 298 y = some (nI (drwN (lcgN (spC W q.1 q.2.1 k).1)), wL y 298 24 (lN (lcgN (spC W q.1 q.2.1 k).1))) := by
        unfold Mo_draw
        rw [show rL y 298 24 = lN (spC W q.1 q.2.1 k).1 from f0, lcg_m c1]
        show some (((rL (wL y 298 24 (lN (lcgN (spC W q.1 q.2.1 k).1))) 298 24) / 65536 - (rL (wL y 298 24 (lN (lcgN (spC W q.1 q.2.1 k).1))) 298 24) / 65536 / 10000 * 10000).toInt32, wL y 298 24 (lN (lcgN (spC W q.1 q.2.1 k).1))) = _
        rw [show rL (wL y 298 24 (lN (lcgN (spC W q.1 q.2.1 k).1))) 298 24 = lN (lcgN (spC W q.1 q.2.1 k).1) from wL_self _ _ _ _, drw_e (Nat.lt_trans (lcg_lt _) (by decide)), lN_i]
      have F3 : RfF m (wL y 298 24 (lN (lcgN (spC W q.1 q.2.1 k).1))) := F2.trans (RfF.wL _ _)
      have W3 := hW.rf F3
      generalize hz : wL y 298 24 (lN (lcgN (spC W q.1 q.2.1 k).1)) = z at dr F3 W3
      have z24 : z.2 298 24 = lN (lcgN (spC W q.1 q.2.1 k).1) := by rw [← hz]; exact wL_self _ _ _ _
      have z25 : z.1 298 25 = nI (spC W q.1 q.2.1 k).2 := by rw [← hz]; exact e2
      unfold Mo_springsOut_l31
      refine Ok_gd (by decide) ?_
      rw [qW5 (hW.rf F2), dr]
      refine Ok_if (nI_ge hk (by omega)) ?_
      show Ok ((Mo_holds (rI z 298 25) (nI k) z).bind _) _
      rw [show rI z 298 25 = nI (spC W q.1 q.2.1 k).2 from z25, Mo_holds_e z (by omega) (by omega), bind_s, ite_b2]
      have no : ¬ drwN (lcgN (spC W q.1 q.2.1 k).1) < thN W (spC W q.1 q.2.1 k).2 k → Ok (Mo_springsOut_b99 298 (nI n) (nI q.2.2) (nI (h + 1)) (nI k) 0 z) (fun r => ∃ x', r = Sum.inl (nI (k + 1), x') ∧ RfF m x' ∧ x'.2 298 24 = lN (spC W q.1 q.2.1 (k + 1)).1 ∧ x'.1 298 25 = nI (spC W q.1 q.2.1 (k + 1)).2) := by
        intro w
        unfold Mo_springsOut_b99 Mo_springsOut_b123
        refine Ok_it rfl (Ok_lt (Ok_s ⟨_, by rw [nI_1], F3.trans (RfF.wI _), z24, ?_⟩))
        rw [wI_self, show rI z 298 25 = nI (spC W q.1 q.2.1 k).2 from z25]
        exact congrArg nI (if_neg w).symm
      have yes : drwN (lcgN (spC W q.1 q.2.1 k).1) < thN W (spC W q.1 q.2.1 k).2 k → Ok (Mo_springsOut_b99 298 (nI n) (nI q.2.2) (nI (h + 1)) (nI k) 1 z) (fun r => ∃ x', r = Sum.inl (nI (k + 1), x') ∧ RfF m x' ∧ x'.2 298 24 = lN (spC W q.1 q.2.1 (k + 1)).1 ∧ x'.1 298 25 = nI (spC W q.1 q.2.1 (k + 1)).2) := by
        intro w
        unfold Mo_springsOut_b99 Mo_springsOut_b123
        refine Ok_if (by decide) (Ok_lt (Ok_s ⟨_, by rw [nI_1], F3.trans (RfF.wI _), z24, ?_⟩))
        rw [wI_self, show rI z 298 25 = nI (spC W q.1 q.2.1 k).2 from z25, xor_nI _ _ (by omega)]
        exact congrArg nI (if_pos w).symm
      by_cases w : (spC W q.1 q.2.1 k).2.testBit k = true
      · have th : thN W (spC W q.1 q.2.1 k).2 k = 100 * W 10 := if_pos w
        rw [if_pos w]
        refine Ok_gd (by decide) ?_
        rw [qW10 W3, show (100 : Int32) * nI (W 10) = nI (100 * W 10) from pk_mul 100 _]
        by_cases v : drwN (lcgN (spC W q.1 q.2.1 k).1) < 100 * W 10
        · exact Ok_if (nI_ge v (by omega)) (yes (by rw [th]; exact v))
        · exact Ok_it (nI_le (by omega) (by omega)) (no (by rw [th]; exact v))
      · have th : thN W (spC W q.1 q.2.1 k).2 k = oddsN W k := if_neg w
        rw [if_neg w]
        refine Ok_b (Mo_oddsOf_e W3 I hk) ?_
        by_cases v : drwN (lcgN (spC W q.1 q.2.1 k).1) < oddsN W k
        · exact Ok_if (nI_ge v (by omega)) (yes (by rw [th]; exact v))
        · exact Ok_it (nI_le (by omega) (by omega)) (no (by rw [th]; exact v))
    · obtain ⟨c1, c2⟩ := spC_lt q1 q2 (W 5) (by omega)
      show Ok (Mo_springsOut_l31 298 (nI n) (nI q.2.2) (nI (h + 1)) (nI (W 5)) y) _
      have hS : spH W a (h + 1) = ((spC W q.1 q.2.1 (W 5)).1, (spC W q.1 q.2.1 (W 5)).2, if q.2.2 = 0 ∧ ¬ enoughN W (spC W q.1 q.2.1 (W 5)).2 then h + 1 else q.2.2) := by rw [← hq]; rfl
      rw [hS]
      unfold Mo_springsOut_l31 Mo_springsOut_b152
      refine Ok_gd (by decide) ?_
      rw [qW5 (hW.rf F2), nI_1]
      refine Ok_it (nI_le (Nat.le_refl _) (by omega)) ?_
      by_cases z : q.2.2 = 0
      · rw [if_pos (show nI q.2.2 = 0 by rw [z]; rfl), show rI y 298 25 = nI (spC W q.1 q.2.1 (W 5)).2 from e2, Mo_isEnough_e (hW.rf F2) I (by omega), bind_s, ite_b2]
        by_cases z2 : enoughN W (spC W q.1 q.2.1 (W 5)).2
        · rw [if_pos z2, up_some, if_neg (fun w => w.2 z2)]
          exact Ok_s ⟨_, rfl, y, rfl, F2, f0, e2⟩
        · rw [if_neg z2, up_some, if_pos ⟨z, z2⟩]
          exact Ok_s ⟨_, rfl, y, rfl, F2, f0, e2⟩
      · rw [if_neg (show ¬ nI q.2.2 = 0 from nI_ne0 (by omega) (by omega)), up_some, if_neg (fun w => z w.1)]
        exact Ok_s ⟨_, rfl, y, rfl, F2, f0, e2⟩
  · show Ok (Mo_springsOut_l22 298 (nI n) (nI (spH W a n).2.2) (nI (n + 1)) x) _
    unfold Mo_springsOut_l22
    rw [if_pos (nI_lt (by omega) (by omega)), up_some]
    exact Ok_s ⟨_, rfl, rfl, F, e⟩
theorem PL_isSpring_e (m : Mem) (x y : Int32) : PL_isSpring x y m = some (b2 (inb x 2000000001 ∧ inb y 100)) := by
  unfold PL_isSpring
  rw [show (2000000000 : Int32) = nI 2000000000 from rfl, ite_rgt (by decide)]
  by_cases h : inb x 2000000001
  · rw [if_pos h, show (99 : Int32) = nI 99 from rfl, ite_rgt (by decide)]
    by_cases h2 : inb y 100
    · rw [if_pos h2, b2_t ⟨h, h2⟩]
    · rw [if_neg h2, b2_f (fun q => h2 q.2)]
  · rw [if_neg h, b2_f (fun q => h q.1)]
theorem Mo_isSeed_e (m : Mem) (x : Int32) : Mo_isSeed x m = some (b2 (inb x 2000000001)) := by
  unfold Mo_isSeed
  rw [in0 m x (n := 2000000001) (by decide) (by decide), bind_s, gd_t b2_z]
/-- the lasting places stay but for the spring's -/
theorem RR.sc {m m' : Mem} (h : RR m) (e : ∀ a, a ≠ 298 → (a < 203 ∨ (299 ≤ a ∧ a < 303) ∨ (314 ≤ a ∧ a < 317)) → m'.1 a = m.1 a ∧ m'.2 a = m.2 a) (e3 : ∀ i, i ≠ 25 → m'.1 298 i = m.1 298 i) : RR m' := by
  obtain ⟨W, ⟨⟨⟨L, l1, l2, l3⟩, tt⟩, ⟨f1, f2, f3⟩, ii, ss⟩, w, c, I⟩ := h
  refine ⟨W, ⟨⟨⟨L, l1, by rw [(e 2 (by omega) (by omega)).1, l2], by rw [e3 5 (by omega), l3]⟩, fun j hj => by rw [(e 3 (by omega) (by omega)).1, (e 302 (by omega) (by omega)).1]; exact tt j hj⟩, ⟨?_, ?_, ?_⟩, fun j hj => ?_, fun j hj => ?_⟩, w.e (e 299 (by omega) (by omega)).1, c.eq I (fun a h1 h2 => (e a (by omega) (by omega)).1), I⟩
  · rw [(e 2 (by omega) (by omega)).1, e3 12 (by omega), f1]
  · rw [(e 2 (by omega) (by omega)).1, e3 13 (by omega), f2]
  · rw [(e 1 (by omega) (by omega)).1, e3 26 (by omega), f3]
  · exact (ii j hj).e hj (by rw [(e 193 (by omega) (by omega)).1]) (by rw [(e 301 (by omega) (by omega)).1]) (e 300 (by omega) (by omega)).1 (fun a h1 h2 => (e a (by omega) (by omega)).1)
  · exact (ss j hj).e (e _ (by omega) (by omega)).1 (by rw [(e 314 (by omega) (by omega)).1]) (by rw [(e 315 (by omega) (by omega)).1]) (e _ (by omega) (by omega)).2 (fun i _ => by rw [(e 316 (by omega) (by omega)).2])
def spsN (W : Wd) (a h : Nat) : Nat → Nat
  | 0 => 0
  | i + 1 => spsN W a h i + if (spH W (a + i) h).2.2 = 0 then 0 else 1
theorem sps_le (W : Wd) (a h : Nat) : ∀ i, spsN W a h i ≤ i
  | 0 => Nat.le_refl _
  | i + 1 => by
    have := sps_le W a h i
    show spsN W a h i + (if _ then 0 else 1) ≤ _
    split <;> omega
theorem st_springs (x y z : Int32) : Same (PL_springs 1 x y z) (Mo_springs 298 x y z) := by
  rintro m h
  obtain ⟨W, p, w, c, I⟩ := id h
  have d := I.d
  by_cases h0 : 0 < W 1
  · by_cases hx : inb x 2000000001
    · by_cases hz : inb z 100
      · by_cases hy : 1 ≤ y ∧ y ≤ 60
        · obtain ⟨a, ha, rfl⟩ := in_of hx (by decide)
          obtain ⟨n, hn, rfl⟩ := in_of hz (by decide)
          obtain ⟨k, k1, k2, rfl⟩ := rg_of (a := 1) (b := 60) (by decide) (by decide) hy
          have sd : ∀ i, i < k → (nI a).toInt64 + (nI i).toInt64 = lN (a + i) := fun i hi => by rw [nI_l (by omega), nI_l (by omega), lN_add]
          have cC : Ok (PL_springs 1 (nI a) (nI k) (nI n) m) (fun r => r.1 = nI (spsN W a n k) ∧ Fp 203 220 m r.2) := by
            unfold PL_springs
            refine Ok_b (fl_there c I) ?_
            rw [ite_b2, if_pos h0]
            refine Ok_b (PL_isSpring_e m _ _) ?_
            rw [ite_b2, if_pos ⟨hx, hz⟩, ite_rab, if_pos hy]
            refine Ok_bind (Ic_look_e (t := 203) c I (by omega)) (fun m1 ⟨F, A, _, b⟩ => ?_)
            refine Ok_loop k (fun i y => (nI (spsN W a n i), nI i, y)) (fun i y => SpF 203 m1 y ∧ IcK y 203 W) m1 rfl ⟨SpF.refl, fun s hs => Or.inl (b s hs)⟩ (fun i y hi ⟨S, K⟩ => ?_) (fun y ⟨S, K⟩ => ?_)
            · show Ok (PL_springs_l52 1 (nI a) (nI k) (nI n) (nI (spsN W a n i)) (nI i) y) _
              unfold PL_springs_l52 PL_springs_b78
              rw [sd i hi]
              refine Ok_if (nI_ge hi (by omega)) (Ok_bind (Ic_drawSpring_e (t := 203) (a := a + i) (n := n) (A.sp S) K I (by omega) (by omega)) (fun r ⟨r1, S2, K2, r4⟩ => ?_))
              obtain ⟨-, -, q3⟩ := spH_lt I (a := a + i) (by omega) n
              rw [r1, nI_1, nI_1]
              by_cases e : (spH W (a + i) n).2.2 = 0
              · refine Ok_it (by rw [e]; rfl) (Ok_s ⟨r.2, ?_, S.trans S2, K2⟩)
                show _ = Sum.inl (nI (spsN W a n i + if (spH W (a + i) n).2.2 = 0 then 0 else 1), nI (i + 1), r.2)
                exact congrArg (fun z => Sum.inl (nI z, nI (i + 1), r.2)) (show spsN W a n i = spsN W a n i + if (spH W (a + i) n).2.2 = 0 then 0 else 1 by rw [if_pos e]; rfl)
              · refine Ok_if (nI_ne0 (by omega) (by omega)) (Ok_s ⟨r.2, ?_, S.trans S2, K2⟩)
                show _ = Sum.inl (nI (spsN W a n i + if (spH W (a + i) n).2.2 = 0 then 0 else 1), nI (i + 1), r.2)
                rw [if_neg e]
            · show Ok (PL_springs_l52 1 (nI a) (nI k) (nI n) (nI (spsN W a n k)) (nI k) y) _
              unfold PL_springs_l52
              rw [if_pos (nI_le (Nat.le_refl _) (by omega)), up_some]
              exact Ok_s ⟨_, rfl, rfl, F.trans (S.fp.wide (by omega) (by omega))⟩
          obtain ⟨⟨r, m1⟩, e1, r1, F1⟩ := cC
          simp only at r1 F1
          have cM : Ok (Mo_springs 298 (nI a) (nI k) (nI n) m1) (fun r => r.1 = nI (spsN W a n k) ∧ RfF m1 r.2) := by
            have w1 : MW m1 W := w.fp F1 (by omega)
            unfold Mo_springs
            refine Ok_b (Mo_isSeed_e m1 _) ?_
            rw [ite_b2, if_pos hx]
            refine Ok_b (Mo_in_g m1 _ 1 60 (by decide) (by decide)) ?_
            rw [ite_b2, if_pos hy]
            refine Ok_b (in0 m1 _ (n := 100) (by decide) (by decide)) ?_
            rw [ite_b2, if_pos hz]
            refine Ok_b (Mo_isFloe_e w1 (by omega)) ?_
            rw [ite_b2, if_pos h0]
            refine Ok_loop k (fun i y => (nI (spsN W a n i), nI i, y)) (fun i y => RfF m1 y) m1 rfl RfF.refl (fun i y hi S => ?_) (fun y S => ?_)
            · show Ok (Mo_springs_l47 298 (nI a) (nI k) (nI n) (nI (spsN W a n i)) (nI i) y) _
              unfold Mo_springs_l47 Mo_springs_b74
              rw [sd i hi]
              refine Ok_if (nI_ge hi (by omega)) (Ok_bind (Mo_springsOut_e (a := a + i) (n := n) (w1.rf S) I (by omega) (by omega)) (fun r ⟨r1, S2, r4⟩ => ?_))
              obtain ⟨-, -, q3⟩ := spH_lt I (a := a + i) (by omega) n
              rw [r1, nI_1]
              by_cases e : (spH W (a + i) n).2.2 = 0
              · refine Ok_it (by rw [e]; decide) (Ok_s ⟨r.2, ?_, S.trans S2⟩)
                show _ = Sum.inl (nI (spsN W a n i + if (spH W (a + i) n).2.2 = 0 then 0 else 1), nI (i + 1), r.2)
                rw [if_pos e, Nat.add_zero]
                rw [show (nI (spsN W a n i) + 0 : Int32) = nI (spsN W a n i + 0) from nI_add _ 0]
              · refine Ok_if (nI_nle (by omega) (by omega)) (Ok_s ⟨r.2, ?_, S.trans S2⟩)
                show _ = Sum.inl (nI (spsN W a n i + if (spH W (a + i) n).2.2 = 0 then 0 else 1), nI (i + 1), r.2)
                rw [if_neg e, nI_1]
            · show Ok (Mo_springs_l47 298 (nI a) (nI k) (nI n) (nI (spsN W a n k)) (nI k) y) _
              unfold Mo_springs_l47
              rw [if_pos (nI_le (Nat.le_refl _) (by omega)), up_some]
              exact Ok_s ⟨_, rfl, rfl, S⟩
          obtain ⟨⟨s, m2⟩, e2, s1, F2⟩ := cM
          simp only at s1 F2
          refine ⟨nI (spsN W a n k), m1, m2, by rw [e1, r1], by rw [e2, s1], h.sc (fun a h1 h2 => ?_) (fun i hi => ?_)⟩
          · rw [F2.1 a h1, F2.2.2 a h1]
            exact F1 a (by omega)
          · rw [F2.2.1 i hi, F1.a (by omega)]
        · refine ⟨-2, m, m, ?_, ?_, h⟩
          · unfold PL_springs
            rw [fl_there c I, bind_s, ite_b2, if_pos h0, PL_isSpring_e, bind_s, ite_b2, if_pos ⟨hx, hz⟩, ite_rab, if_neg hy]
          · unfold Mo_springs
            rw [Mo_isSeed_e, bind_s, ite_b2, if_pos hx, Mo_in_g m _ 1 60 (by decide) (by decide), bind_s, ite_b2, if_neg hy]
      · refine ⟨-2, m, m, ?_, ?_, h⟩
        · unfold PL_springs
          rw [fl_there c I, bind_s, ite_b2, if_pos h0, PL_isSpring_e, bind_s, ite_b2, if_neg (fun q => hz q.2)]
        · unfold Mo_springs
          rw [Mo_isSeed_e, bind_s, ite_b2, if_pos hx, Mo_in_g m _ 1 60 (by decide) (by decide), bind_s, ite_b2, in0 m z (n := 100) (by decide) (by decide), bind_s, ite_b2, if_neg hz]
          split <;> rfl
    · refine ⟨-2, m, m, ?_, ?_, h⟩
      · unfold PL_springs
        rw [fl_there c I, bind_s, ite_b2, if_pos h0, PL_isSpring_e, bind_s, ite_b2, if_neg (fun q => hx q.1)]
      · unfold Mo_springs
        rw [Mo_isSeed_e, bind_s, ite_b2, if_neg hx]
  · refine ⟨-2, m, m, ?_, ?_, h⟩
    · unfold PL_springs
      rw [fl_there c I, bind_s, ite_b2, if_neg h0]
    · unfold Mo_springs
      rw [Mo_isSeed_e, bind_s, ite_b2, Mo_in_g m _ 1 60 (by decide) (by decide), bind_s, ite_b2, in0 m z (n := 100) (by decide) (by decide), bind_s, ite_b2, Mo_isFloe_e w (by omega), bind_s, ite_b2, if_neg h0]
      split
      · split
        · split <;> rfl
        · rfl
      · rfl
theorem CR.op_w (R : CR m 28 W) (I : Inv W) (s : Nat) : CR (wI m 28 7 (nI s)) 28 (wu W 18 s) := by
  have d := I.d
  obtain ⟨k, r1, r2, r3, r4, r5, r6, r7, r8, r9, r10, r11, r12, r13⟩ := R
  have o : ∀ a i, a ≠ 28 → (wI m 28 7 (nI s)).1 a i = m.1 a i := fun a i ha => wI_o m ha i _
  have w : ∀ i, i ≠ 18 → wu W 18 s i = W i := fun i hi => wu_o W hi s
  refine ⟨k, fun j hj => ?_, ?_, ?_, ?_, fun i j hi hj => ?_, fun i j hi hj => ?_, fun i j hi hj => ?_, fun h hh => ⟨?_, ?_⟩, fun h s hh hs => ?_, fun g hg => ⟨?_, ?_, ?_⟩, ?_, ?_, fun i hi => ?_⟩
  · have := fm_lt hj
    rw [o _ _ (by omega), r1 j hj]
    exact congrArg nI (w _ (by omega)).symm
  · rw [o _ _ (by omega), r2, w 5 (by omega)]
  · rw [o _ _ (by omega), r3, w 6 (by omega)]
  · rw [o _ _ (by omega), r4, w 7 (by omega)]
  · rw [w 5 (by omega)] at hi
    rw [o _ _ (by omega), r5 i j hi hj]
    exact congrArg nI (w _ (by omega)).symm
  · rw [w 6 (by omega)] at hi
    rw [o _ _ (by omega), r6 i j hi hj]
    exact congrArg nI (w _ (by omega)).symm
  · rw [w 7 (by omega)] at hi
    rw [o _ _ (by omega), r7 i j hi hj]
    exact congrArg nI (w _ (by omega)).symm
  · rw [o _ _ (by omega), (r8 h hh).1]
    exact (hxI_eq (w _ (by omega)) (w _ (by omega))).symm
  · rw [o _ _ (by omega), (r8 h hh).2]
    exact congrArg nI (w _ (by omega)).symm
  · rw [o _ _ (by omega), r9 h _ hh hs]
    exact congrArg nI (w _ (by omega)).symm
  · rw [o _ _ (by omega), (r10 g hg).1]
    exact congrArg nI (w _ (by omega)).symm
  · rw [o _ _ (by omega), (r10 g hg).2.1]
    exact congrArg nI (w _ (by omega)).symm
  · rw [o _ _ (by omega), (r10 g hg).2.2]
    exact congrArg nI (w _ (by omega)).symm
  · rw [wI_self, wu_s]
  · rw [wI_at, if_neg (by decide), r12, w 19 (by omega)]
  · rw [o _ _ (by omega), r13 i hi]
    exact congrArg nI (w _ (by omega)).symm
theorem Inv.op (I : Inv W) {s : Nat} (hs : s < 2 ^ W 5) : Inv (wu W 18 s) := by
  have d := I.d
  obtain ⟨-, -, -, -, -, -, -, -, -, -, -, b18, b19⟩ := I.2.1
  refine I.al (fun i _ h1 _ _ => wu_o W h1 s) (by rw [wu_s]; exact hs) (by rw [wu_o W (by omega)]; exact b19) (fun c hc => ?_)
  exact Nat.le_trans (Nat.le_of_eq (wu_o W (by omega) _)) (I.C hc).2.2.2.2.2.2.2.2.2
theorem st_run (x z : Int32) : Same (PL_run 1 x z) (Mo_run 298 x z) := by
  rintro m h
  obtain ⟨W, p, w, c, I⟩ := id h
  have d := I.d
  by_cases h0 : 0 < W 1
  · by_cases hx : inb x 2000000001
    · by_cases hz : inb z 100
      · obtain ⟨a, ha, rfl⟩ := in_of hx (by decide)
        obtain ⟨n, hn, rfl⟩ := in_of hz (by decide)
        obtain ⟨-, q2, q3⟩ := spH_lt I (a := a) (by omega) n
        have sd : (nI a).toInt64 = lN a := nI_l (by omega)
        have cC : Ok (PL_run 1 (nI a) (nI n) m) (fun r => r.1 = nI (spH W a n).2.1 ∧ ∃ y, Fp 203 220 m y ∧ r.2 = wI (wI y 1 10 (nI (spH W a n).2.2)) 28 7 (nI (spH W a n).2.1)) := by
          unfold PL_run
          refine Ok_b (fl_there c I) ?_
          rw [ite_b2, if_pos h0]
          refine Ok_b (PL_isSpring_e m _ _) ?_
          rw [ite_b2, if_pos ⟨hx, hz⟩, sd]
          refine Ok_bind (Ic_look_e (t := 203) c I (by omega)) (fun m1 ⟨F, A, _, b⟩ => ?_)
          refine Ok_bind (Ic_drawSpring_e (t := 203) (a := a) (n := n) A (fun s hs => Or.inl (b s hs)) I (by omega) (by omega)) (fun r ⟨r1, S2, K2, r4⟩ => Ok_lt ?_)
          have e5 : rI (wI r.2 1 10 r.1) (1 + 202) 1 = nI (spH W a n).2.1 := by rw [← r4]; exact wI_o _ (by decide) _ _
          rw [e5, r1]
          exact Ok_lt (Ok_s ⟨show (wI (wI r.2 1 10 (nI (spH W a n).2.2)) 28 7 (nI (spH W a n).2.1)).1 28 7 = _ from wI_self _ _ _ _, r.2, F.trans (S2.fp.wide (by omega) (by omega)), rfl⟩)
        obtain ⟨⟨r, m1⟩, e1, r1, y, Fy, hy⟩ := cC
        simp only at r1 hy
        have u1 : ∀ b, b ≠ 1 → b ≠ 28 → (b < 203 ∨ 298 ≤ b) → m1.1 b = m.1 b := fun b h1 h2 h3 => by rw [hy, wI_1 _ h2, wI_1 _ h1, (Fy b (by omega)).1]
        have u2 : ∀ b, (b < 203 ∨ 298 ≤ b) → m1.2 b = m.2 b := fun b h3 => by rw [hy]; exact (Fy b (by omega)).2
        have w1 : MW m1 W := w.e (u1 299 (by omega) (by omega) (by omega))
        have cM : Ok (Mo_run 298 (nI a) (nI n) m1) (fun r => r.1 = nI (spH W a n).2.1 ∧ ∃ y, RfF m1 y ∧ y.1 298 25 = nI (spH W a n).2.1 ∧ r.2 = wI (wI y 298 26 (nI (spH W a n).2.2)) 299 18 (nI (spH W a n).2.1)) := by
          unfold Mo_run
          refine Ok_b (Mo_isSeed_e m1 _) ?_
          rw [ite_b2, if_pos hx]
          refine Ok_b (in0 m1 _ (n := 100) (by decide) (by decide)) ?_
          rw [ite_b2, if_pos hz]
          refine Ok_b (Mo_isFloe_e w1 (by omega)) ?_
          rw [ite_b2, if_pos h0, sd]
          refine Ok_bind (Mo_springsOut_e (a := a) (n := n) w1 I (by omega) (by omega)) (fun r ⟨r1, S2, r4⟩ => Ok_lt (Ok_gd (by decide) ?_))
          have e5 : rI (wI r.2 298 26 r.1) 298 25 = nI (spH W a n).2.1 := by
            rw [← r4]
            show (wI r.2 298 26 r.1).1 298 25 = _
            rw [wI_at, if_neg (by decide)]
          rw [e5, r1]
          refine Ok_lt (Ok_s ⟨?_, r.2, S2, r4, rfl⟩)
          show (wI (wI r.2 298 26 (nI (spH W a n).2.2)) (298 + 1) (ix 18) (nI (spH W a n).2.1)).1 298 25 = _
          rw [wI_o _ (by decide), wI_at, if_neg (by decide), r4]
        obtain ⟨⟨s, m2⟩, e2, s1, y2, F2, y25, hy2⟩ := cM
        simp only at s1 hy2
        have v1 : ∀ b, b ≠ 298 → b ≠ 299 → m2.1 b = m1.1 b := fun b h1 h2 => by rw [hy2, wI_1 _ h2, wI_1 _ h1, F2.1 b h1]
        have v2 : ∀ b, b ≠ 298 → m2.2 b = m1.2 b := fun b h1 => by rw [hy2]; exact F2.2.2 b h1
        have v3 : ∀ i, i ≠ 25 → i ≠ 26 → m2.1 298 i = m.1 298 i := fun i h1 h2 => by
          rw [hy2, wI_o _ (by decide), wI_at, if_neg h2, F2.2.1 i h1, u1 298 (by omega) (by omega) (by omega)]
        obtain ⟨⟨⟨L, l1, l2, l3⟩, tt⟩, ⟨f1, f2, f3⟩, ii, ss⟩ := p
        have t1 : ∀ b, b ≠ 1 → b ≠ 28 → b ≠ 298 → b ≠ 299 → (b < 203 ∨ 298 ≤ b) → m2.1 b = m.1 b := fun b h1 h2 h3 h4 h5 => (v1 b h3 h4).trans (u1 b h1 h2 h5)
        have t2 : ∀ b, b ≠ 298 → (b < 203 ∨ 298 ≤ b) → m2.2 b = m.2 b := fun b h1 h2 => (v2 b h1).trans (u2 b h2)
        refine ⟨nI (spH W a n).2.1, m1, m2, by rw [e1, r1], by rw [e2, s1], wu W 18 (spH W a n).2.1, ⟨⟨⟨L, l1, ?_, ?_⟩, fun j hj => ?_⟩, ⟨?_, ?_, ?_⟩, fun j hj => ?_, fun j hj => ?_⟩, ?_, ?_, I.op q2⟩
        · rw [t1 2 (by omega) (by omega) (by omega) (by omega) (by omega), l2]
        · rw [v3 5 (by omega) (by omega), l3]
        · rw [t1 3 (by omega) (by omega) (by omega) (by omega) (by omega), t1 302 (by omega) (by omega) (by omega) (by omega) (by omega)]
          exact tt j hj
        · rw [t1 2 (by omega) (by omega) (by omega) (by omega) (by omega), v3 12 (by omega) (by omega), f1]
        · rw [t1 2 (by omega) (by omega) (by omega) (by omega) (by omega), v3 13 (by omega) (by omega), f2]
        · rw [v1 1 (by omega) (by omega), hy, wI_o _ (by decide), wI_self, hy2, wI_o _ (by decide), wI_self]
        · exact (ii j hj).e hj (by rw [t1 193 (by omega) (by omega) (by omega) (by omega) (by omega)]) (by rw [t1 301 (by omega) (by omega) (by omega) (by omega) (by omega)]) (t1 300 (by omega) (by omega) (by omega) (by omega) (by omega)) (fun b h1 h2 => t1 b (by omega) (by omega) (by omega) (by omega) (by omega))
        · exact (ss j hj).e (t1 _ (by omega) (by omega) (by omega) (by omega) (by omega)) (by rw [t1 314 (by omega) (by omega) (by omega) (by omega) (by omega)]) (by rw [t1 315 (by omega) (by omega) (by omega) (by omega) (by omega)]) (t2 _ (by omega) (by omega)) (fun i _ => by rw [t2 316 (by omega) (by omega)])
        · rw [hy2]
          refine MW.w ?_ 18 _
          exact (w1.rf F2).e (wI_1 _ (by decide) _)
        · have cy : CR (wI y 1 10 (nI (spH W a n).2.2)) 28 W := (c.fp I Fy (by omega)).eq I (fun b h1 h2 => wI_1 _ (by omega) _)
          have := cy.op_w I (spH W a n).2.1
          rw [← hy] at this
          exact this.eq (I.op q2) (fun b h1 h2 => v1 b (by omega) (by omega))
      · refine ⟨-2, m, m, ?_, ?_, h⟩
        · unfold PL_run
          rw [fl_there c I, bind_s, ite_b2, if_pos h0, PL_isSpring_e, bind_s, ite_b2, if_neg (fun q => hz q.2)]
        · unfold Mo_run
          rw [Mo_isSeed_e, bind_s, ite_b2, if_pos hx, in0 m z (n := 100) (by decide) (by decide), bind_s, ite_b2, if_neg hz]
    · refine ⟨-2, m, m, ?_, ?_, h⟩
      · unfold PL_run
        rw [fl_there c I, bind_s, ite_b2, if_pos h0, PL_isSpring_e, bind_s, ite_b2, if_neg (fun q => hx q.1)]
      · unfold Mo_run
        rw [Mo_isSeed_e, bind_s, ite_b2, if_neg hx]
  · refine ⟨-2, m, m, ?_, ?_, h⟩
    · unfold PL_run
      rw [fl_there c I, bind_s, ite_b2, if_neg h0]
    · unfold Mo_run
      rw [Mo_isSeed_e, bind_s, ite_b2, in0 m z (n := 100) (by decide) (by decide), bind_s, ite_b2, Mo_isFloe_e w (by omega), bind_s, ite_b2, if_neg h0]
      split
      · split <;> rfl
      · rfl
end SPRING

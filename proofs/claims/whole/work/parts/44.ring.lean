/-! rings of heaps; a sort laid round a ring -/
theorem Ok_walk {S R X : Type} {b : S → Option (S ⊕ R)} {Q : R → Prop} (n : Nat) (st : Nat → X → S) (P : Nat → X → Prop)
    (hs : ∀ i x, i < n → P i x → Ok (b (st i x)) (fun r => (∃ x', r = .inl (st (i + 1) x') ∧ P (i + 1) x') ∨ ∃ y, r = .inr y ∧ Q y)) (hx : ∀ x, P n x → Ok (b (st n x)) (fun r => ∃ y, r = .inr y ∧ Q y)) (i : Nat) (x : X) (hi : i ≤ n) (p : P i x) : Ok (loop b (st i x)) Q := by
  have key : ∀ k i x, i + k = n → P i x → Ok (loop b (st i x)) Q := by
    intro k
    induction k with
    | zero =>
      intro i x hi hp
      rw [show i = n by omega] at hp ⊢
      obtain ⟨r, e, y, rfl, q⟩ := hx x hp
      exact ⟨y, loop_out e, q⟩
    | succ k ih =>
      intro i x hi hp
      obtain ⟨r, e, ⟨y, rfl, q⟩ | ⟨y, rfl, q⟩⟩ := hs i x (by omega) hp
      · rw [show loop b (st i x) = loop b (st (i + 1) y) from loop_in e]
        exact ih (i + 1) y (by omega) q
      · exact ⟨y, loop_out e, q⟩
  exact key (n - i) i x (by omega) p
def rgT (P : Nat → Bool) : Nat → List Nat
  | 0 => []
  | n + 1 => if P n = true then rgT P n ++ [n] else rgT P n
def rgS (S : Nat) : List Nat := rgT (fun h => S.testBit h) 8
def blN (L : List Nat) : Nat := L.foldl (fun a h => a ||| 2 ^ h) 0
def nxtN (S h : Nat) : Nat := fsN (fun d => S.testBit ((h + 1 + d) % 8) = true) (fun d => (h + 1 + d) % 8) 0 8 0
theorem rg_nxt : ∀ S, S < 256 → S ≠ 0 → ∀ p, p < 8 → p < (rgS S).length → nxtN S ((rgS S).getD p 0) = (rgS S).getD ((p + 1) % (rgS S).length) 0 := by decide +kernel
theorem rg_first : ∀ S, S < 256 → S ≠ 0 → nxtN S 7 = (rgS S).getD 0 0 ∧ 0 < (rgS S).length ∧ (rgS S).length ≤ 8 := by decide +kernel
theorem rg_lt : ∀ S, S < 256 → ∀ p, p < 8 → p < (rgS S).length → (rgS S).getD p 0 < 8 ∧ S.testBit ((rgS S).getD p 0) = true := by decide +kernel
theorem rg_take : ∀ S, S < 256 → ∀ n, n < 9 → rgS (blN ((rgS S).take n)) = (rgS S).take n ∧ blN ((rgS S).take n) < 256 := by decide +kernel
theorem rg_one : ∀ S, S < 256 → S ≠ 0 → 2 ^ (rgS S).getD 0 0 = blN ((rgS S).take 1) := by decide +kernel
theorem rl_l {l l' : List Nat} {i : Nat} (h : i < l.length) : (l ++ l').getD i 0 = l.getD i 0 := by
  rw [List.getD_eq_getElem?_getD, List.getElem?_append_left h, ← List.getD_eq_getElem?_getD]
theorem rl_e {l : List Nat} {a : Nat} : (l ++ [a]).getD l.length 0 = a := by
  rw [List.getD_eq_getElem?_getD, List.getElem?_append_right (Nat.le_refl _)]
  simp
theorem rgT_len (P : Nat → Bool) : ∀ n, (rgT P n).length ≤ n
  | 0 => Nat.le_refl _
  | n + 1 => by
    have := rgT_len P n
    unfold rgT
    split
    · rw [List.length_append]; simpa using this
    · omega
theorem rgT_cong {P Q : Nat → Bool} : ∀ n, (∀ i, i < n → P i = Q i) → rgT P n = rgT Q n
  | 0, _ => rfl
  | n + 1, h => by
    unfold rgT
    rw [h n (by omega), rgT_cong n (fun i hi => h i (by omega))]
theorem rgT_pre (P : Nat → Bool) (i : Nat) : ∀ j, ∃ M, rgT P (i + j) = rgT P i ++ M
  | 0 => ⟨[], by simp⟩
  | j + 1 => by
    obtain ⟨M, e⟩ := rgT_pre P i j
    show ∃ M, (if P (i + j) = true then rgT P (i + j) ++ [i + j] else rgT P (i + j)) = _
    by_cases h : P (i + j) = true
    · exact ⟨M ++ [i + j], by rw [if_pos h, e, List.append_assoc]⟩
    · exact ⟨M, by rw [if_neg h, e]⟩
section RING
variable {m : Mem} {c : Nat} {W : Wd}
def thS (W : Wd) : Nat := bsN (fun h => decide (whe W h 0 = 1)) 8
def seS (W : Wd) : Nat := bsN (fun h => decide (0 < givesN W h 2)) 8
theorem th_lt (W : Wd) : thS W < 256 := bs_lt _ 8
theorem se_lt (W : Wd) : seS W < 256 := bs_lt _ 8
theorem th_bit (W : Wd) {h : Nat} (hh : h < 8) : (thS W).testBit h = decide (whe W h 0 = 1) := by
  unfold thS
  rw [bs_bit]
  simp [hh]
theorem se_bit (W : Wd) {h : Nat} (hh : h < 8) : (seS W).testBit h = decide (0 < givesN W h 2) := by
  unfold seS
  rw [bs_bit]
  simp [hh]
theorem rg_th (W : Wd) : rgS (thS W) = rgT (fun h => decide (whe W h 0 = 1)) 8 := rgT_cong 8 (fun i hi => th_bit W hi)
theorem rg_se (W : Wd) : rgS (seS W) = rgT (fun h => decide (0 < givesN W h 2)) 8 := rgT_cong 8 (fun i hi => se_bit W hi)
theorem bs_0 {P : Nat → Bool} {n : Nat} : bsN P n = 0 ↔ ∀ h, h < n → P h = false := by
  constructor
  · intro h k hk
    have := bs_bit P k n
    rw [h] at this
    simpa [hk] using this.symm
  · intro h
    apply Nat.eq_of_testBit_eq
    intro i
    rw [bs_bit, Nat.zero_testBit]
    by_cases q : i < n
    · simp [q, h i q]
    · simp [q]
theorem th_0 (I : Inv W) : hmN W = 0 ↔ thS W = 0 := by
  unfold hmN thS
  rw [sN_z, bs_0]
  constructor
  · intro h k hk
    have := h k hk
    by_cases q : whe W k 0 = 1
    · rw [if_pos q] at this; omega
    · simpa using q
  · intro h k hk
    have := h k hk
    rw [if_neg (by simpa using this)]
/-- what the ring holds -/
def RG (m : Mem) (c : Nat) (L : List Nat) : Prop := ∀ p, p < L.length → m.1 (c + 40) p = nI (L.getD p 0)
theorem Ca_ringOfHeaps_e (R : CR m c W) (I : Inv W) {k : Nat} (hk : k ≤ 8) : Ok (Ca_ringOfHeaps c (nI k) m) (fun r => r.1 = nI ((rgS (thS W)).take k).length ∧ RG r.2 c ((rgS (thS W)).take k) ∧ Fp (c + 40) (c + 41) m r.2) := by
  rw [rg_th]
  let P : Nat → Bool := fun h => decide (whe W h 0 = 1)
  show Ok (loop (fun s : Int32 × Int32 × Mem => Ca_ringOfHeaps_l4 c (nI k) s.1 s.2.1 s.2.2) (0, 0, m)) (fun r => r.1 = nI ((rgT P 8).take k).length ∧ RG r.2 c ((rgT P 8).take k) ∧ Fp (c + 40) (c + 41) m r.2)
  refine Ok_walk 8 (fun i x => (nI (rgT P i).length, nI i, x)) (fun i x => Fp (c + 40) (c + 41) m x ∧ (rgT P i).length ≤ k ∧ RG x c (rgT P i)) (fun i x hi ⟨F, l, g⟩ => ?_) (fun x ⟨F, l, g⟩ => ?_) 0 m (by omega) ⟨Fp.refl, Nat.zero_le _, fun p hp => absurd hp (Nat.not_lt_zero _)⟩
  · have ln := rgT_len P i
    have R2 := R.fp I F (by omega)
    show Ok (Ca_ringOfHeaps_l4 c (nI k) (nI (rgT P i).length) (nI i) x) _
    unfold Ca_ringOfHeaps_l4 Ca_ringOfHeaps_b33
    refine Ok_if (show ¬ (8 : Int32) ≤ nI i from nI_ge (b := 8) hi (by decide)) ?_
    by_cases e : k ≤ (rgT P i).length
    · refine Ok_it (nI_le e (by omega)) ?_
      rw [up_some]
      refine Ok_s (Or.inr ⟨_, rfl, ?_⟩)
      obtain ⟨M, eM⟩ := rgT_pre P i (8 - i)
      rw [show i + (8 - i) = 8 by omega] at eM
      rw [eM, show k = (rgT P i).length by omega, List.take_left]
      exact ⟨rfl, g, F⟩
    · refine Ok_if (nI_ge (by omega) (by omega)) (Ok_b (Ca_hasHeap_e R2 I hi) ?_)
      rw [ite_b2, nI_1, nI_1]
      by_cases q : whe W i 0 = 1
      · have eS : rgT P (i + 1) = rgT P i ++ [i] := if_pos (show P i = true from decide_eq_true q)
        refine Ok_it q (Ok_gd (in_nI (by omega) (by decide)) (Ok_lt ?_))
        rw [ix_nI (by omega)]
        refine Ok_s (Or.inl ⟨wI x (c + 40) (rgT P i).length (nI i), ?_, F.trans (Fp.wI (by omega) (by omega) _ _), ?_, fun p hp => ?_⟩)
        · rw [eS, List.length_append]; rfl
        · rw [eS, List.length_append]
          show (rgT P i).length + 1 ≤ k
          omega
        · rw [eS, List.length_append] at hp
          have hp2 : p < (rgT P i).length + 1 := hp
          rw [eS, wI_at]
          by_cases z : p = (rgT P i).length
          · rw [if_pos z, z, rl_e]
          · rw [if_neg z, rl_l (by omega)]
            exact g p (by omega)
      · have eS : rgT P (i + 1) = rgT P i := if_neg (fun z => q (of_decide_eq_true z))
        refine Ok_if q (Ok_s (Or.inl ⟨x, ?_, F, ?_, ?_⟩))
        · rw [eS]
        · rw [eS]; exact l
        · rw [eS]; exact g
  · show Ok (Ca_ringOfHeaps_l4 c (nI k) (nI (rgT P 8).length) (nI 8) x) _
    unfold Ca_ringOfHeaps_l4
    refine Ok_it (show (8 : Int32) ≤ nI 8 by decide) ?_
    rw [up_some, List.take_of_length_le l]
    exact Ok_s ⟨_, rfl, rfl, g, F⟩
theorem Ca_ringOfSeats_e (R : CR m c W) (I : Inv W) : Ok (Ca_ringOfSeats c m) (fun r => r.1 = nI (rgS (seS W)).length ∧ RG r.2 c (rgS (seS W)) ∧ Fp (c + 40) (c + 41) m r.2) := by
  rw [rg_se]
  let P : Nat → Bool := fun h => decide (0 < givesN W h 2)
  show Ok (loop (fun s : Int32 × Int32 × Mem => Ca_ringOfSeats_l4 c s.1 s.2.1 s.2.2) (0, 0, m)) (fun r => r.1 = nI (rgT P 8).length ∧ RG r.2 c (rgT P 8) ∧ Fp (c + 40) (c + 41) m r.2)
  refine Ok_loop 8 (fun i x => (nI (rgT P i).length, nI i, x)) (fun i x => Fp (c + 40) (c + 41) m x ∧ RG x c (rgT P i)) m rfl ⟨Fp.refl, fun p hp => absurd hp (Nat.not_lt_zero _)⟩ (fun i x hi ⟨F, g⟩ => ?_) (fun x ⟨F, g⟩ => ?_)
  · have ln := rgT_len P i
    have R2 := R.fp I F (by omega)
    have gl := gives_le I hi 2
    show Ok (Ca_ringOfSeats_l4 c (nI (rgT P i).length) (nI i) x) _
    unfold Ca_ringOfSeats_l4 Ca_ringOfSeats_b29
    refine Ok_if (show ¬ (8 : Int32) ≤ nI i from nI_ge (b := 8) hi (by decide)) (Ok_b (show Ca_givenBy c (nI i) 2 x = _ from Ca_givenBy_e (k := 2) R2 I hi (by decide)) ?_)
    rw [nI_1, nI_1]
    by_cases q : 0 < givesN W i 2
    · have eS : rgT P (i + 1) = rgT P i ++ [i] := if_pos (show P i = true from decide_eq_true q)
      refine Ok_if (nI_nle q (by omega)) (Ok_gd (in_nI (by omega) (by decide)) (Ok_lt ?_))
      rw [ix_nI (by omega)]
      refine Ok_s ⟨wI x (c + 40) (rgT P i).length (nI i), ?_, F.trans (Fp.wI (by omega) (by omega) _ _), fun p hp => ?_⟩
      · rw [eS, List.length_append]; rfl
      · rw [eS, List.length_append] at hp
        have hp2 : p < (rgT P i).length + 1 := hp
        rw [eS, wI_at]
        by_cases z : p = (rgT P i).length
        · rw [if_pos z, z, rl_e]
        · rw [if_neg z, rl_l (by omega)]
          exact g p (by omega)
    · have eS : rgT P (i + 1) = rgT P i := if_neg (fun z => q (of_decide_eq_true z))
      refine Ok_it (by rw [show givesN W i 2 = 0 by omega]; decide) (Ok_s ⟨x, ?_, F, ?_⟩)
      · rw [eS]
      · rw [eS]; exact g
  · show Ok (Ca_ringOfSeats_l4 c (nI (rgT P 8).length) (nI 8) x) _
    unfold Ca_ringOfSeats_l4
    refine Ok_it (show (8 : Int32) ≤ nI 8 by decide) ?_
    rw [up_some]
    exact Ok_s ⟨_, rfl, rfl, g, F⟩
theorem Mo_round_e (m : Mem) {S h : Nat} (hS : S < 256) (h0 : S ≠ 0) (hh : h < 8) : Mo_round (nI S) (nI h) m = some (nI (nxtN S h)) := by
  have key : Ok (Mo_round (nI S) (nI h) m) (fun r => r = nI (nxtN S h)) := by
    unfold Mo_round
    rw [nI_1, show nI (h + 1) - nI (h + 1) / 8 * 8 = nI ((h + 1) % 8) from pk_rem (d := 8) (by omega) (by decide) (by decide)]
    refine Ok_walk 8 (fun i (_ : Unit) => nI ((h + 1 + i) % 8)) (fun i _ => (∀ j, j < i → ¬ S.testBit ((h + 1 + j) % 8) = true) ∧ nxtN S h = fsN (fun d => S.testBit ((h + 1 + d) % 8) = true) (fun d => (h + 1 + d) % 8) 0 (8 - i) i) (fun i _ hi ⟨a, b⟩ => ?_) (fun _ ⟨a, b⟩ => ?_) 0 () (by omega) ⟨fun j hj => by omega, rfl⟩
    · show Ok (Mo_round_l7 (nI S) (nI ((h + 1 + i) % 8)) m) _
      unfold Mo_round_l7
      refine Ok_b (Mo_holds_e m (by omega) (by omega)) ?_
      rw [ite_b2]
      rw [show 8 - i = (8 - (i + 1)) + 1 by omega] at b
      unfold fsN at b
      by_cases q : S.testBit ((h + 1 + i) % 8) = true
      · rw [if_pos q] at b ⊢
        rw [up_some]
        exact Ok_s (Or.inr ⟨_, rfl, by rw [b]⟩)
      · rw [if_neg q] at b ⊢
        refine Ok_s (Or.inl ⟨(), ?_, fun j hj => ?_, b⟩)
        · rw [nI_1, show nI ((h + 1 + i) % 8 + 1) - nI ((h + 1 + i) % 8 + 1) / 8 * 8 = nI (((h + 1 + i) % 8 + 1) % 8) from pk_rem (d := 8) (by omega) (by decide) (by decide), show ((h + 1 + i) % 8 + 1) % 8 = (h + 1 + (i + 1)) % 8 by omega]
        · by_cases e : j = i
          · rw [e]; exact q
          · exact a j (by omega)
    · exfalso
      apply h0
      apply Nat.eq_of_testBit_eq
      intro k
      rw [Nat.zero_testBit]
      by_cases q : k < 8
      · have := a ((k + 7 - h) % 8) (by omega)
        rw [show (h + 1 + (k + 7 - h) % 8) % 8 = k by omega] at this
        simpa using this
      · exact Nat.testBit_lt_two_pow (Nat.lt_of_lt_of_le hS (p2le (n := k) (k := 8) (by omega)))
  obtain ⟨r, e, rfl⟩ := key
  exact e
theorem Mo_firstOf_e (m : Mem) {S : Nat} (hS : S < 256) (h0 : S ≠ 0) : Mo_firstOf (nI S) m = some (nI ((rgS S).getD 0 0)) := by
  unfold Mo_firstOf
  rw [show Mo_round (nI S) 7 m = _ from Mo_round_e m (h := 7) hS h0 (by omega), bind_s, (rg_first S hS h0).1]
theorem Mo_thereSet_e (hW : MW m W) (I : Inv W) : Mo_thereSet 298 m = some (nI (thS W)) := by
  unfold Mo_thereSet
  refine loop_cnt 8 (fun i => (nI (bsN (fun h => decide (whe W h 0 = 1)) i), nI i)) rfl (fun i hi => ?_) ?_
  · show Mo_thereSet_l4 298 (nI (bsN (fun h => decide (whe W h 0 = 1)) i)) (nI i) m = _
    unfold Mo_thereSet_l4 Mo_thereSet_b26
    rw [if_neg (show ¬ (8 : Int32) ≤ nI i from nI_ge (b := 8) hi (by decide)), qT hW hi (I.H hi).1, bind_s, ite_b2, bsN_s, shl1 (by omega), nI_or, show nI (bsN (fun h => decide (whe W h 0 = 1)) i) ||| 0 = nI (bsN (fun h => decide (whe W h 0 = 1)) i ||| 0) from nI_or _ 0, nI_1]
    by_cases q : whe W i 0 = 1
    · rw [if_pos q, if_pos (decide_eq_true q)]
    · rw [if_neg q, if_neg (fun z => q (of_decide_eq_true z))]
  · show Mo_thereSet_l4 298 (nI (bsN (fun h => decide (whe W h 0 = 1)) 8)) (nI 8) m = _
    unfold Mo_thereSet_l4
    rw [if_pos (show (8 : Int32) ≤ nI 8 by decide), up_some]
    rfl
/-- seats in a heap, by bits -/
def sbN (W : Wd) (h v : Nat) : Nat → Nat
  | 0 => v
  | s + 1 => sbN W h v s ||| if wso W s 0 = 2 ∧ 0 < whe W h (3 + s) then 2 ^ h else 0
theorem or_or_self (v a : Nat) : (v ||| a) ||| a = v ||| a := by
  apply Nat.eq_of_testBit_eq
  intro i
  simp only [Nat.testBit_or]
  cases v.testBit i <;> cases a.testBit i <;> rfl
theorem sb_e (W : Wd) (h v : Nat) : ∀ n, sbN W h v n = v ||| if 0 < sN (fun s => if wso W s 0 = 2 ∧ 0 < whe W h (3 + s) then 1 else 0) n then 2 ^ h else 0
  | 0 => by show v = v ||| 0; rw [Nat.or_zero]
  | n + 1 => by
    show sbN W h v n ||| (if wso W n 0 = 2 ∧ 0 < whe W h (3 + n) then 2 ^ h else 0) = _
    rw [sb_e W h v n, sN_s]
    by_cases q : wso W n 0 = 2 ∧ 0 < whe W h (3 + n)
    · rw [if_pos q, if_pos q, if_pos (show 0 < sN (fun s => if wso W s 0 = 2 ∧ 0 < whe W h (3 + s) then 1 else 0) n + 1 by omega)]
      by_cases q2 : 0 < sN (fun s => if wso W s 0 = 2 ∧ 0 < whe W h (3 + s) then 1 else 0) n
      · rw [if_pos q2, or_or_self]
      · rw [if_neg q2, Nat.or_zero]
    · rw [if_neg q, if_neg q, Nat.or_zero, Nat.add_zero]
theorem sb_g (I : Inv W) (h : Nat) : (0 < sN (fun s => if wso W s 0 = 2 ∧ 0 < whe W h (3 + s) then 1 else 0) (W 6)) ↔ 0 < givesN W h 2 := by
  unfold givesN
  have z1 := @sN_z (fun s => if wso W s 0 = 2 ∧ 0 < whe W h (3 + s) then 1 else 0) (W 6)
  have z2 := @sN_z (fun s => if wso W s 0 = 2 then whe W h (3 + s) * wso W s 1 else 0) (W 6)
  rw [Nat.pos_iff_ne_zero, Nat.pos_iff_ne_zero, ne_eq, ne_eq, z1, z2]
  refine not_congr ⟨fun a s hs => ?_, fun a s hs => ?_⟩
  · have := a s hs
    by_cases q : wso W s 0 = 2
    · rw [if_pos q]
      by_cases q2 : 0 < whe W h (3 + s)
      · rw [if_pos ⟨q, q2⟩] at this; omega
      · rw [show whe W h (3 + s) = 0 by omega, Nat.zero_mul]
    · rw [if_neg q]
  · have := a s hs
    by_cases q : wso W s 0 = 2 ∧ 0 < whe W h (3 + s)
    · rw [if_pos q.1] at this
      obtain ⟨-, s1, -⟩ := I.S hs
      have := Nat.mul_pos q.2 (show 0 < wso W s 1 by omega)
      omega
    · rw [if_neg q]
def stS (W : Wd) : Nat := if seS W = 0 then thS W else seS W
theorem Mo_seatHeaps_e (hW : MW m W) (I : Inv W) : Mo_seatHeaps 298 m = some (nI (stS W)) := by
  have d := I.d
  unfold Mo_seatHeaps
  refine loop_cnt 8 (fun i => (nI (bsN (fun h => decide (0 < givesN W h 2)) i), nI i)) rfl (fun i hi => ?_) ?_
  · show Mo_seatHeaps_l4 298 (nI (bsN (fun h => decide (0 < givesN W h 2)) i)) (nI i) m = _
    unfold Mo_seatHeaps_l4
    rw [if_neg (show ¬ (8 : Int32) ≤ nI i from nI_ge (b := 8) hi (by decide))]
    have := loop_cnt (b := fun s : Int32 × Int32 => Mo_seatHeaps_l12 298 (nI i) s.1 s.2 m) (s0 := (nI (bsN (fun h => decide (0 < givesN W h 2)) i), 0)) (r := Sum.inl (nI (bsN (fun h => decide (0 < givesN W h 2)) (i + 1)), nI (i + 1))) (W 6) (fun s => (nI (sbN W i (bsN (fun h => decide (0 < givesN W h 2)) i) s), nI s)) rfl (fun s hs => ?_) ?_
    · exact this
    · have u := I.u20 hi (s := s) (by omega)
      obtain ⟨s0, -⟩ := I.S hs
      show Mo_seatHeaps_l12 298 (nI i) (nI (sbN W i (bsN (fun h => decide (0 < givesN W h 2)) i) s)) (nI s) m = some (.inl (nI (sbN W i (bsN (fun h => decide (0 < givesN W h 2)) i) s ||| if wso W s 0 = 2 ∧ 0 < whe W i (3 + s) then 2 ^ i else 0), nI (s + 1)))
      unfold Mo_seatHeaps_l12 Mo_seatHeaps_b51 Mo_seatHeaps_b52
      rw [gd_t (by decide), qW6 hW, if_neg (nI_ge hs (by omega)), qS0 hW (by omega), bind_s, qU hW hi (by omega), bind_s, shl1 (by omega), nI_or, show nI (sbN W i (bsN (fun h => decide (0 < givesN W h 2)) i) s) ||| 0 = nI (sbN W i (bsN (fun h => decide (0 < givesN W h 2)) i) s ||| 0) from nI_or _ 0, nI_1]
      by_cases q : wso W s 0 = 2
      · rw [q, if_pos (show nI 2 = 2 from rfl)]
        by_cases q2 : 0 < whe W i (3 + s)
        · rw [if_neg (nI_nle q2 (by omega)), if_pos ⟨rfl, q2⟩]
        · rw [if_pos (show nI (whe W i (3 + s)) ≤ 0 by rw [show whe W i (3 + s) = 0 by omega]; decide), if_neg (fun z => q2 z.2)]
      · rw [if_neg (show ¬ nI (wso W s 0) = 2 from fun z => q ((nI_eq (b := 2) (by omega) (by decide)).mp z)), if_neg (fun z => q z.1)]
    · show Mo_seatHeaps_l12 298 (nI i) (nI (sbN W i (bsN (fun h => decide (0 < givesN W h 2)) i) (W 6))) (nI (W 6)) m = _
      unfold Mo_seatHeaps_l12
      rw [gd_t (by decide), qW6 hW, if_pos (nI_le (Nat.le_refl _) (by omega)), up_some, nI_1, sb_e, bsN_s]
      by_cases q : 0 < givesN W i 2
      · rw [if_pos ((sb_g I i).mpr q), if_pos (decide_eq_true q)]
      · rw [if_neg (fun z => q ((sb_g I i).mp z)), if_neg (fun z => q (of_decide_eq_true z))]
  · show Mo_seatHeaps_l4 298 (nI (seS W)) (nI 8) m = _
    have sl := se_lt W
    unfold Mo_seatHeaps_l4 stS
    rw [if_pos (show (8 : Int32) ≤ nI 8 by decide)]
    by_cases q : seS W = 0
    · rw [q, if_pos (by decide), if_pos rfl, Mo_thereSet_e hW I, bind_s, up_some]
    · rw [if_neg (nI_ne0 (by omega) (by omega)), if_neg q, up_some]
end RING

/-! the reference's small questions -/
theorem wide_lt (a b : Int32) : a.toInt64 < b.toInt64 ↔ a < b := by
  rw [Int64.lt_iff_toInt_lt, Int32.lt_iff_toInt_lt, Int32.toInt_toInt64, Int32.toInt_toInt64]
theorem wide_le (a b : Int32) : a.toInt64 ≤ b.toInt64 ↔ a ≤ b := by
  rw [Int64.le_iff_toInt_le, Int32.le_iff_toInt_le, Int32.toInt_toInt64, Int32.toInt_toInt64]
/-- a truth as a number -/
def b2 (p : Prop) [Decidable p] : Int32 := if p then 1 else 0
theorem b2_t {p : Prop} [Decidable p] (h : p) : b2 p = 1 := if_pos h
theorem b2_f {p : Prop} [Decidable p] (h : ¬ p) : b2 p = 0 := if_neg h
theorem b2_z {p : Prop} [Decidable p] : isZ (b2 p) := by
  by_cases h : p
  · rw [b2_t h]; exact Or.inr rfl
  · rw [b2_f h]; exact Or.inl rfl
theorem ite_b2 {X : Type} {p : Prop} [Decidable p] (a b : X) : (if b2 p = 0 then a else b) = if p then b else a := by
  by_cases h : p
  · rw [b2_t h, if_neg (by decide), if_pos h]
  · rw [b2_f h, if_pos rfl, if_neg h]
theorem b2_cong {p q : Prop} [Decidable p] [Decidable q] (h : p ↔ q) : b2 p = b2 q := by
  by_cases hp : p
  · rw [b2_t hp, b2_t (h.mp hp)]
  · rw [b2_f hp, b2_f (fun z => hp (h.mpr z))]
theorem ite_pn {X : Type} {p : Prop} [Decidable p] (a b : X) : (if ¬ p then a else b) = if p then b else a := by
  by_cases h : p
  · rw [if_neg (fun z => z h), if_pos h]
  · rw [if_pos h, if_neg h]
/-- in range, three ways -/
theorem rng (x : Int32) {n : Nat} (hn : n < 2147483648) : (x < 0 ∧ ¬ inb x n) ∨ (¬ x < 0 ∧ nI n ≤ x ∧ ¬ inb x n) ∨ ∃ j, j < n ∧ x = nI j := by
  by_cases h0 : x < 0
  · exact Or.inl ⟨h0, fun q => q (Or.inl h0)⟩
  · obtain ⟨j, hj, rfl⟩ := nI_of h0
    by_cases h : j < n
    · exact Or.inr (Or.inr ⟨j, h, rfl⟩)
    · refine Or.inr (Or.inl ⟨h0, nI_le (by omega) (by omega), fun q => q (Or.inr ?_)⟩)
      rw [nI_clamp hj]; omega
theorem in0 (m : Mem) (x : Int32) {n : Nat} (hn : n < 2147483648) {hi : Int64} (hh : hi = (nI n - 1).toInt64) : Mo_in x.toInt64 0 hi m = some (b2 (inb x n)) := by
  unfold Mo_in
  have h0 : (x.toInt64 < 0) ↔ x < 0 := wide_lt x 0
  have h1 : (hi < x.toInt64) ↔ nI n - 1 < x := by rw [hh]; exact wide_lt _ _
  rcases rng x hn with ⟨a, b⟩ | ⟨a, b, c⟩ | ⟨j, hj, rfl⟩
  · rw [if_pos (h0.mpr a), b2_f b]
  · rw [if_neg (fun z => a (h0.mp z)), if_pos (h1.mpr ?_), b2_f c]
    cases n with
    | zero => exact Int32.lt_of_lt_of_le (show nI 0 - 1 < 0 by decide) (Int32.not_lt.mp a)
    | succ k =>
      rw [nI_pred]
      exact Int32.lt_of_lt_of_le (nI_lt (Nat.lt_succ_self k) hn) b
  · rw [if_neg (fun z => nI_pos (show j < 2 ^ 31 by omega) (h0.mp z)), if_neg (fun z => ?_), b2_t (in_nI hj hn)]
    have z2 := h1.mp z
    cases n with
    | zero => omega
    | succ k =>
      rw [nI_pred] at z2
      exact nI_nlt (show j ≤ k by omega) (by omega) z2
theorem Mo_isHeap_e (m : Mem) (x : Int32) : Mo_isHeap x m = some (b2 (inb x 8)) := by
  unfold Mo_isHeap
  rw [in0 m x (n := 8) (by decide) (by decide), bind_s, gd_t b2_z]
theorem Mo_isGroup_e (m : Mem) (x : Int32) : Mo_isGroup x m = some (b2 (inb x 4)) := by
  unfold Mo_isGroup
  rw [in0 m x (n := 4) (by decide) (by decide), bind_s, gd_t b2_z]
section MB
variable {m : Mem} {W : Wd} (hW : MW m W)
theorem Mo_isFloe_e (hW : MW m W) (h1 : W 1 < 2147483648) : Mo_isFloe 298 m = some (b2 (0 < W 1)) := by
  unfold Mo_isFloe
  rw [gd_t (by decide), show rI m (298 + 1) (ix 1) = nI (W 1) from hW 1 (by decide)]
  by_cases h : 0 < W 1
  · rw [if_neg (nI_nle h h1), b2_t h]
  · rw [if_pos (show nI (W 1) ≤ 0 from nI_le (b := 0) (by omega) (by decide)), b2_f h]
theorem Mo_isCell_e (hW : MW m W) (h1 : W 1 ≤ 12) (h2 : W 2 ≤ 12) (x y : Int32) : Mo_isCell 298 x y m = some (b2 (inb x (W 1) ∧ inb y (W 2))) := by
  unfold Mo_isCell
  rw [gd_t (by decide), show rI m (298 + 1) (ix 1) = nI (W 1) from hW 1 (by decide), in0 m x (n := W 1) (by omega) rfl, bind_s, ite_b2]
  by_cases hx : inb x (W 1)
  · rw [if_pos hx, gd_t (by decide), show rI m (298 + 1) (ix 2) = nI (W 2) from hW 2 (by decide), in0 m y (n := W 2) (by omega) rfl, bind_s, ite_b2]
    by_cases hy : inb y (W 2)
    · rw [if_pos hy, b2_t ⟨hx, hy⟩]
    · rw [if_neg hy, b2_f (fun q => hy q.2)]
  · rw [if_neg hx, b2_f (fun q => hx q.1)]
theorem Mo_isSort_e (hW : MW m W) (h6 : W 6 ≤ 6) (x : Int32) : Mo_isSort 298 x m = some (b2 (inb x (W 6))) := by
  unfold Mo_isSort
  rw [gd_t (by decide), show rI m (298 + 1) (ix 6) = nI (W 6) from hW 6 (by decide), in0 m x (n := W 6) (by omega) rfl, bind_s, gd_t b2_z]
theorem Mo_isCrack_e (hW : MW m W) (h5 : W 5 ≤ 7) (x : Int32) : Mo_isCrack 298 x m = some (b2 (inb x (W 5))) := by
  unfold Mo_isCrack
  rw [gd_t (by decide), show rI m (298 + 1) (ix 5) = nI (W 5) from hW 5 (by decide), in0 m x (n := W 5) (by omega) rfl, bind_s, gd_t b2_z]
theorem s_l : ∀ n, n < 32 → ((nI n &&& 31).toBitVec.smod 32).toNat = n := by decide +kernel
theorem shl1 {k : Nat} (h : k ≤ 30) : (1 : Int32) <<< (nI k &&& 31) = nI (2 ^ k) := by
  have hp : 2 ^ k < 2 ^ 32 := Nat.pow_lt_pow_right (by decide) (by omega)
  have := pk_shlN (n := 1) (nI k &&& 31) k (s_l k (by omega)) (by rw [Nat.one_mul]; exact hp)
  rw [Nat.one_mul] at this
  exact this
theorem Mo_sets_e (hW : MW m W) (h5 : W 5 ≤ 7) : Mo_sets 298 m = some (nI (2 ^ W 5)) := by
  unfold Mo_sets
  rw [gd_t (by decide), show rI m (298 + 1) (ix 5) = nI (W 5) from hW 5 (by decide), shl1 (by omega)]
theorem p2le {k n : Nat} (h : k ≤ n) : 2 ^ k ≤ 2 ^ n := Nat.pow_le_pow_right (by decide) h
theorem Mo_isSet_e (hW : MW m W) (h1 : W 1 < 2147483648) (h5 : W 5 ≤ 7) (x : Int32) : Mo_isSet 298 x m = some (b2 (0 < W 1 ∧ inb x (2 ^ W 5))) := by
  unfold Mo_isSet
  rw [Mo_isFloe_e hW h1, bind_s, ite_b2]
  by_cases h : 0 < W 1
  · have := p2le h5
    rw [if_pos h, Mo_sets_e hW h5, bind_s, in0 m x (n := 2 ^ W 5) (by omega) rfl, bind_s, ite_b2]
    by_cases hx : inb x (2 ^ W 5)
    · rw [if_pos hx, b2_t ⟨h, hx⟩]
    · rw [if_neg hx, b2_f (fun q => hx q.2)]
  · rw [if_neg h, b2_f (fun q => h q.1)]
theorem shr_and1 {a k : Nat} (ha : a < 2147483648) (hk : k < 32) : (nI a >>> (nI k &&& 31)) &&& 1 = nI (a / 2 ^ k % 2) := by
  rw [pk_shrN ha (nI k &&& 31) k (s_l k hk)]
  exact pk_andN (by have := Nat.div_le_self a (2 ^ k); omega) 1 (by decide)
theorem bit_iff (a k : Nat) : a / 2 ^ k % 2 = 1 ↔ a.testBit k = true := by
  rw [Nat.testBit_eq_decide_div_mod_eq]
  simp
theorem Mo_holds_e (m : Mem) {a k : Nat} (ha : a < 2147483648) (hk : k < 32) : Mo_holds (nI a) (nI k) m = some (b2 (a.testBit k = true)) := by
  unfold Mo_holds
  rw [shr_and1 ha hk]
  have hlt : a / 2 ^ k % 2 < 2 := Nat.mod_lt _ (by decide)
  by_cases h : a.testBit k = true
  · rw [(bit_iff a k).mpr h, if_pos (by decide), b2_t h]
  · have h0 : a / 2 ^ k % 2 = 0 := by
      have := mt (bit_iff a k).mp h
      omega
    rw [h0, if_neg (by decide), b2_f h]
theorem Mo_isThere_e (hW : MW m W) {h : Nat} (hh : h < 8) (hb : W (116 + 9 * h + 0) ≤ 1) : Mo_isThere 298 (nI h) m = some (b2 (W (116 + 9 * h + 0) = 1)) := by
  unfold Mo_isThere
  rw [Mo_ofHeap_l m 0 (k := 0) rfl hh (by omega), bind_s, hW _ (by omega)]
  by_cases h1 : W (116 + 9 * h + 0) = 1
  · rw [h1, if_pos (by decide), b2_t rfl]
  · rw [show W (116 + 9 * h + 0) = 0 by omega, if_neg (by decide), b2_f (by decide)]
end MB

/-! LEVEL 2: pure facts. The reference's world as whole numbers W; the class's camp at c that stands for it. -/
theorem in_nI {i n : Nat} (h : i < n) (hn : n < 2147483648) : inb (nI i) n := vp_in_nI h hn
theorem ix_nI {n : Nat} (h : n < 2147483648) : ix (nI n) = n := nI_clamp h
theorem gd_t {X : Type} {c : Prop} [Decidable c] {e : Option X} (h : c) : gd c e = e := if_pos h
theorem gd_in {X : Type} {i n : Nat} {e : Option X} (h : i < n) (hn : n < 2147483648) : gd (inb (nI i) n) e = e := if_pos (in_nI h hn)
theorem bind_s {A B : Type} (a : A) (f : A → Option B) : (some a).bind f = f a := rfl
/-- literals -/
theorem li (n : Nat) : (OfNat.ofNat n : Int32) = nI n := rfl
def sI (f : Nat → Int32) : Nat → Int32
  | 0 => 0
  | n + 1 => sI f n + f n
theorem sI_0 (f : Nat → Int32) : sI f 0 = 0 := rfl
theorem sI_s (f : Nat → Int32) (n : Nat) : sI f (n + 1) = sI f n + f n := rfl
theorem sI_cong {f g : Nat → Int32} : ∀ {n : Nat}, (∀ i, i < n → f i = g i) → sI f n = sI g n
  | 0, _ => rfl
  | n + 1, h => by rw [sI_s, sI_s, sI_cong (fun i hi => h i (by omega)), h n (by omega)]
/-- a counting loop: v goes from 0 to n by one -/
theorem loop_cnt {S R : Type} {b : S → Option (S ⊕ R)} {s0 : S} {r : R} (n : Nat) (st : Nat → S) (h0 : st 0 = s0) (hs : ∀ i, i < n → b (st i) = some (.inl (st (i + 1)))) (hx : b (st n) = some (.inr r)) : loop b s0 = some r := by
  rw [← h0]; exact loop_for n st hs hx
abbrev Wd : Type := Nat → Nat
def MW (m : Mem) (W : Wd) : Prop := ∀ i, i < 200 → m.1 299 i = nI (W i)
theorem Mo_ofCrack_e (m : Mem) {c k : Nat} (hc : c < 7) (hk : k < 8) : Mo_ofCrack 298 (nI c) (nI k) m = some (m.1 299 (24 + 8 * c + k)) := by
  unfold Mo_ofCrack
  have e : (24 + 8 * nI c + nI k : Int32) = nI (24 + 8 * c + k) := by
    rw [li 24, li 8, pk_mul, nI_add, nI_add]
  rw [e, gd_in (by omega) (by omega), ix_nI (by omega)]
theorem Mo_ofSort_e (m : Mem) {c k : Nat} (hc : c < 6) (hk : k < 4) : Mo_ofSort 298 (nI c) (nI k) m = some (m.1 299 (80 + 4 * c + k)) := by
  unfold Mo_ofSort
  have e : (80 + 4 * nI c + nI k : Int32) = nI (80 + 4 * c + k) := by
    rw [li 80, li 4, pk_mul, nI_add, nI_add]
  rw [e, gd_in (by omega) (by omega), ix_nI (by omega)]
theorem Mo_ofHeap_e (m : Mem) {c k : Nat} (hc : c < 8) (hk : k < 9) : Mo_ofHeap 298 (nI c) (nI k) m = some (m.1 299 (116 + 9 * c + k)) := by
  unfold Mo_ofHeap
  have e : (116 + 9 * nI c + nI k : Int32) = nI (116 + 9 * c + k) := by
    rw [li 116, li 9, pk_mul, nI_add, nI_add]
  rw [e, gd_in (by omega) (by omega), ix_nI (by omega)]
theorem Mo_ofGroup_e (m : Mem) {c k : Nat} (hc : c < 4) (hk : k < 3) : Mo_ofGroup 298 (nI c) (nI k) m = some (m.1 299 (188 + 3 * c + k)) := by
  unfold Mo_ofGroup
  have e : (188 + 3 * nI c + nI k : Int32) = nI (188 + 3 * c + k) := by
    rw [li 188, li 3, pk_mul, nI_add, nI_add]
  rw [e, gd_in (by omega) (by omega), ix_nI (by omega)]
theorem Mo_ofCrack_l (m : Mem) {c k : Nat} (b : Int32) (hb : b = nI k) (hc : c < 7) (hk : k < 8) : Mo_ofCrack 298 (nI c) b m = some (m.1 299 (24 + 8 * c + k)) := by
  rw [hb, Mo_ofCrack_e m hc hk]
theorem Mo_ofSort_l (m : Mem) {c k : Nat} (b : Int32) (hb : b = nI k) (hc : c < 6) (hk : k < 4) : Mo_ofSort 298 (nI c) b m = some (m.1 299 (80 + 4 * c + k)) := by
  rw [hb, Mo_ofSort_e m hc hk]
theorem Mo_ofHeap_l (m : Mem) {c k : Nat} (b : Int32) (hb : b = nI k) (hc : c < 8) (hk : k < 9) : Mo_ofHeap 298 (nI c) b m = some (m.1 299 (116 + 9 * c + k)) := by
  rw [hb, Mo_ofHeap_e m hc hk]
theorem Mo_ofGroup_l (m : Mem) {c k : Nat} (b : Int32) (hb : b = nI k) (hc : c < 4) (hk : k < 3) : Mo_ofGroup 298 (nI c) b m = some (m.1 299 (188 + 3 * c + k)) := by
  rw [hb, Mo_ofGroup_e m hc hk]
theorem Mo_tonsOf_e {m : Mem} {W : Wd} (hW : MW m W) {h : Nat} (hh : h < 8) (hs : W 6 ≤ 6) : Mo_tonsOf 298 (nI h) m = some (sI (fun s => nI (W (116 + 9 * h + 3 + s)) * nI (W (80 + 4 * s + 2))) (W 6)) := by
  unfold Mo_tonsOf
  refine loop_cnt (W 6) (fun i => (sI (fun s => nI (W (116 + 9 * h + 3 + s)) * nI (W (80 + 4 * s + 2))) i, nI i)) rfl (fun i hi => ?_) ?_
  · unfold Mo_tonsOf_l4
    rw [gd_t (by decide), show rI m (298 + 1) (ix 6) = nI (W 6) from hW 6 (by omega), if_neg (nI_ge hi (by omega)), li 3, nI_add, Mo_ofHeap_e m hh (by omega), bind_s, li 2, Mo_ofSort_e m (by omega) (by omega), bind_s, hW _ (by omega), hW _ (by omega), nI_1]
    simp only [sI_s, Nat.add_assoc]
  · unfold Mo_tonsOf_l4
    rw [gd_t (by decide), show rI m (298 + 1) (ix 6) = nI (W 6) from hW 6 (by omega), if_pos (nI_le (Nat.le_refl _) (by omega)), up_some]

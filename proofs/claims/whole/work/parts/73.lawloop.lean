/-! the law's loop -/
section LAWLOOP
variable {g : GE} {b : Nat} {m : Mem} {ls : List (Option AV)}
theorem law_end : V g Y_law 2024 ls [vi 1] m (ZL g b) := by
  intro p e s mid args below meth c H locs la hG hF hE hP hS hL
  show W p g.1 e room_1 s mid args below meth c H locs 600000 7302250 (fun t => (args = #[Value.ref b] ∧ ∀ k, 1 ≤ k → k ≤ NW → s.heap.size ≤ g.2.2.2.1 k) → lw_Z below args s t) (F0 mid 2024 la [.int 1])
  by_cases q : args = #[Value.ref b] ∧ ∀ k, 1 ≤ k → k ≤ NW → s.heap.size ≤ g.2.2.2.1 k
  · obtain ⟨rfl, hq⟩ := q
    have k : W p g.1 e room_1 s mid #[Value.ref b] below meth c H locs 600000 7302250 (lw_Z below #[Value.ref b] s) (F0 mid 2024 la [.int 1]) :=
      va_forget (fun l hl => by
        obtain ⟨k, h1, h2, h3⟩ := hS.2.2 l hl
        rw [h3]
        exact hq k h1 h2) (lw_ret hF.1 hF.2.1 hF.2.2.1 hF.2.2.2.2.2.2 dL_law_2024)
    intro T hT X
    obtain ⟨t, a1, b1⟩ := k T hT X
    exact ⟨t, a1, fun _ => b1⟩
  · intro T hT X
    exact ⟨_, Steps.refl _, fun z => absurd z q⟩
theorem and63 (v : Int32) : ∃ k, k < 64 ∧ v &&& 63 = nI k := by
  refine ⟨(v &&& 63).toBitVec.toNat, ?_, ?_⟩
  · rw [Int32.toBitVec_and, BitVec.toNat_and]
    exact Nat.lt_of_le_of_lt Nat.and_le_right (by decide)
  · apply Int32.toBitVec_inj.mp
    show _ = BitVec.ofNat 32 _
    rw [BitVec.ofNat_toNat, BitVec.setWidth_eq]
theorem nI_int {k : Nat} (h : k < 2147483648) : (nI k).toInt = k := Int32.toInt_ofNat_of_lt h
theorem lawOff : ∀ k, k < 55 → (#[235, 298, 321, 334, 357, 400, 443, 496, 519, 552, 575, 598, 641, 664, 688, 738, 761, 794, 818, 841, 864, 887, 911, 924, 947, 961, 974, 997, 1021, 1044, 1088, 1131, 1144, 1187, 1230, 1263, 1306, 1359, 1392, 1445, 1478, 1511, 1545, 1578, 1601, 1624, 1647, 1680, 1693, 1736, 1759, 1782, 1805, 1848, 1921] : Array Int)[((nI k).toInt - 0).toNat]? = some ((lwT.getD k 0 : Int) - 33) := by decide +kernel
theorem law_lt {L t : Nat} (hL : L ≤ 3072) (ht : 6 * t ≤ 3078) (h : L < 6 * t + 6) : Int32.ofNat L - 6 < nI (6 * t) := by
  rw [Int32.lt_iff_toInt_lt, nI_int (by omega), Int32.toInt_sub, show (Int32.ofNat L).toInt = (L : Int) from nI_int (by omega), show (6 : Int32).toInt = 6 from rfl, show ((L : Int) - 6).bmod (2 ^ 32) = (L : Int) - 6 from Int.bmod_eq_of_le (by omega) (by omega)]
  omega
theorem law_go (hL : g.2.2.2.2.1 ≤ 3072) : ∀ (n t : Nat) (m : Mem), g.2.2.2.2.1 ≤ 6 * t + n → 6 * t ≤ 3078 → RR m → V g Y_law 18 [some (vr 3000), some (vr 1), some (vr 298), some (vi (nI (6 * t)))] [] m (ZL g b) := by
  intro n
  induction n with
  | zero =>
    intro t m hn ht R
    refine V_iload_n (i := 3) (pc := 18) dL_law_18 rfl rfl ?_
    refine V_aload_n (i := 0) (pc := 19) dL_law_19 rfl rfl ?_
    refine V_slen (pc := 20) dL_law_20 ?_
    refine V_bipush (v := 6) (pc := 21) dL_law_21 rfl ?_
    refine V_isub (pc := 23) dL_law_23 ?_
    refine V_icmp_gt (tgt := 2023) (pc := 24) dL_law_24 rfl (fun _ => V_iconst (v := 1) (pc := 2023) dL_law_2023 rfl law_end) (fun q => absurd (law_lt hL ht (by omega)) q)
  | succ n ih =>
    intro t m hn ht R
    refine V_iload_n (i := 3) (pc := 18) dL_law_18 rfl rfl ?_
    refine V_aload_n (i := 0) (pc := 19) dL_law_19 rfl rfl ?_
    refine V_slen (pc := 20) dL_law_20 ?_
    refine V_bipush (v := 6) (pc := 21) dL_law_21 rfl ?_
    refine V_isub (pc := 23) dL_law_23 ?_
    refine V_icmp_gt (tgt := 2023) (pc := 24) dL_law_24 rfl (fun _ => V_iconst (v := 1) (pc := 2023) dL_law_2023 rfl law_end) (fun q => ?_)
    have h6 : 6 * t + 6 ≤ g.2.2.2.2.1 := by
      rcases Nat.lt_or_ge g.2.2.2.2.1 (6 * t + 6) with z | z
      · exact absurd (law_lt hL ht z) q
      · exact z
    have hi : ∀ k : Nat, k < 6 → inb (nI (6 * t) + nI k) g.2.2.2.2.1 := fun k hk => by
      rw [nI_add]
      exact in_nI (by omega) (by omega)
    refine V_aload_n (i := 0) (pc := 27) dL_law_27 rfl rfl ?_
    refine V_iload_n (i := 3) (pc := 28) dL_law_28 rfl rfl ?_
    refine V_sld (pc := 29) dL_law_29 (in_nI (by omega) (by omega)) ?_
    refine V_bipush (v := 63) (pc := 30) dL_law_30 rfl ?_
    refine V_iand (pc := 32) dL_law_32 ?_
    have kk : ∀ m2, RR m2 → V g Y_law 2017 [some (vr 3000), some (vr 1), some (vr 298), some (vi (nI (6 * t)))] [] m2 (ZL g b) := by
      intro m2 R2
      refine V_iinc (i := 3) (x := nI (6 * t)) (v := nI (6 * (t + 1))) (pc := 2017) (ls' := [some (vr 3000), some (vr 1), some (vr 298), some (vi (nI (6 * (t + 1))))]) dL_law_2017 rfl ?_ (Nat.le_of_ble_eq_true rfl) rfl ?_
      · show nI (6 * t) + nI 6 = _
        rw [nI_add]
        rfl
      · exact V_goto (tgt := 18) (pc := 2020) dL_law_2020 rfl (ih (t + 1) m2 (by omega) (by omega) R2)
    obtain ⟨k, hk, ek⟩ := and63 (g.2.2.2.2.2 (ix (nI (6 * t))))
    rw [show g.2.2.2.2.2 (ix (nI (6 * t))) &&& 63 = nI k from ek]
    have hz := nI_int (k := k) (by omega)
    by_cases k55 : k < 55
    · exact V_tableIn (tgt := lwT.getD k 0) (off := (lwT.getD k 0 : Int) - 33) (pc := 33) dL_law_33 (by rw [hz]; omega) (by rw [hz]; omega) (lawOff k k55) (by omega) (lwc hi R kk k k55)
    · exact V_tableOut (tgt := 2017) (pc := 33) dL_law_33 (Or.inr (by rw [hz]; omega)) rfl (kk m R)
end LAWLOOP

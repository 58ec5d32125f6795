/-! paste; the tape: feed, end -/
section TAPE
theorem Ro_has2 {m : Mem} {t n : Nat} (h3 : m.1 t 3 = nI n) (hn : n ≤ 60) (x y : Int32) : Ro_hasNumbers t x y m = some (b2 (¬ x < 0 ∧ ¬ y < 0 ∧ ix x + ix y ≤ n)) := by
  unfold Ro_hasNumbers
  rw [show rI m t 3 = nI n from h3]
  by_cases hx : x < 0
  · rw [if_pos hx, b2_f (fun q => q.1 hx)]
  · rw [if_neg hx]
    by_cases hy : y < 0
    · rw [if_pos hy, b2_f (fun q => q.2.1 hy)]
    · rw [if_neg hy]
      obtain ⟨a, ha, rfl⟩ := nI_of hx
      obtain ⟨b, hb, rfl⟩ := nI_of hy
      rw [ix_nI (by omega), ix_nI (by omega)]
      by_cases e : n < a
      · rw [if_pos (nI_lt e (by omega)), b2_f (fun q => by omega)]
      · rw [if_neg (nI_nlt (by omega) (by omega)), pk_sub (by omega)]
        by_cases e2 : n - a < b
        · rw [if_pos (nI_lt e2 (by omega)), b2_f (fun q => by omega)]
        · rw [if_neg (nI_nlt (by omega) (by omega)), b2_t ⟨hx, hy, by omega⟩]
theorem L_sum {a b n : Nat} (ha : a < 2147483648) (hb : b < 2147483648) (hn : n < 2147483648) : ((nI n).toInt64 < (nI a).toInt64 + (nI b).toInt64 ↔ n < a + b) ∧ ((nI a).toInt64 + (nI b).toInt64 ≤ (nI n).toInt64 ↔ a + b ≤ n) := by
  rw [nI_l (by omega), nI_l (by omega), nI_l (by omega), lN_add, pk_lLT (by omega) (by omega), pk_lLE (by omega) (by omega)]
  exact ⟨Iff.rfl, Iff.rfl⟩
theorem st_paste (x a y c n : Int32) : Same (PL_paste 1 x a y c n) (Mo_paste 298 x a y c n) := by
  rintro m h
  by_cases hx : inb x 4
  · obtain ⟨k, hk, rfl⟩ := in_of hx (by decide)
    by_cases hy : inb y 4
    · obtain ⟨l, hl, rfl⟩ := in_of hy (by decide)
      have hS : SR m k ∧ SR m l := by obtain ⟨W, p, -⟩ := h; exact ⟨p.2.2.2 k hk, p.2.2.2 l hl⟩
      have hC : PL_paste 1 (nI k) a (nI l) c n m = if rI m (195 + 2 * k) 1 = 0 then some (-6, m) else if rI m (195 + 2 * l) 1 = 0 then some (-6, m) else if rI m (195 + 2 * k) 2 = rI m (195 + 2 * l) 2 then (Ro_hasNumbers (195 + 2 * k) a n m).bind (fun r67 => if r67 = 0 then some ((-7), m) else (Ro_hasNumbers (195 + 2 * l) c n m).bind (fun r79 => if r79 = 0 then some ((-7), m) else gd (¬ a < 0 ∧ ¬ c < 0 ∧ ¬ n < 0 ∧ ix a + ix n ≤ 60 ∧ ix c + ix n ≤ 60) (lt (cpL m (195 + 2 * k + 1) (ix a) (195 + 2 * l + 1) (ix c) (ix n)) (fun m103 => some (0, m103))))) else some (-8, m) := by
        unfold PL_paste
        rw [PL_slotAt_e, bind_s, PL_slotAt_e, bind_s, if_pos hx, if_pos hy, ix_nI (by omega), ix_nI (by omega), if_neg (by omega), gd_t (slot_kd k hk), if_neg (by omega), gd_t (slot_kd l hl)]
      have hM : Mo_paste 298 (nI k) a (nI l) c n m = if rI m 314 k = -1 then some (-6, m) else if rI m 314 l = -1 then some (-6, m) else if rI m 315 k = rI m 315 l then if a < 0 then some ((-7), m) else if c < 0 then some ((-7), m) else if n < 0 then some ((-7), m) else if (rI m 314 k).toInt64 < a.toInt64 + n.toInt64 then some ((-7), m) else if c.toInt64 + n.toInt64 ≤ (rI m 314 l).toInt64 then loop (fun s : Int32 × Mem => Mo_paste_l113 298 (nI k) a (nI l) c n s.1 s.2) (0, m) else some ((-7), m) else some (-8, m) := by
        unfold Mo_paste
        rw [Mo_isSlot_e, bind_s, ite_b2, if_pos hx, Mo_isSlot_e, bind_s, ite_b2, if_pos hy, gd_t hx, gd_t hy, gd_t hx, gd_t hy, gd_t hx, gd_t hy, ix_nI (by omega), ix_nI (by omega)]
      rcases hS.1 with ⟨e1, e2⟩ | ⟨e1, N, w, n1, n2, n3, n4, n5, n6, n7⟩
      · refine ⟨-6, m, m, ?_, ?_, h⟩
        · rw [hC, if_pos (show rI m (195 + 2 * k) 1 = 0 from e1)]
        · rw [hM, if_pos (show rI m 314 k = -1 from e2)]
      · rcases hS.2 with ⟨f1, f2⟩ | ⟨f1, M, u, o1, o2, o3, o4, o5, o6, o7⟩
        · refine ⟨-6, m, m, ?_, ?_, h⟩
          · rw [hC, show rI m (195 + 2 * k) 1 = 1 from e1, if_neg (by decide), if_pos (show rI m (195 + 2 * l) 1 = 0 from f1)]
          · rw [hM, show rI m 314 k = nI N from n4, if_neg (neg1 (by omega)), if_pos (show rI m 314 l = -1 from f2)]
        · rw [show rI m (195 + 2 * k) 1 = 1 from e1, if_neg (by decide), show rI m (195 + 2 * l) 1 = 1 from f1, if_neg (by decide), show rI m (195 + 2 * k) 2 = nI w from n5, show rI m (195 + 2 * l) 2 = nI u from o5, Ro_has2 n3 n1, bind_s, ite_b2, Ro_has2 o3 o1, bind_s, ite_b2] at hC
          rw [show rI m 314 k = nI N from n4, if_neg (neg1 (by omega)), show rI m 314 l = nI M from o4, if_neg (neg1 (by omega)), show rI m 315 k = nI w from n6, show rI m 315 l = nI u from o6] at hM
          by_cases hw : nI w = nI u
          · rw [if_pos hw] at hC hM
            by_cases ha : a < 0
            · rw [if_neg (fun q => q.1 ha)] at hC
              rw [if_pos ha] at hM
              exact ⟨-7, m, m, hC, hM, h⟩
            · rw [if_neg ha] at hM
              by_cases hc : c < 0
              · rw [if_neg (fun q : ¬ c < 0 ∧ _ => q.1 hc)] at hC
                rw [if_pos hc] at hM
                refine ⟨-7, m, m, ?_, hM, h⟩
                rw [hC]
                split <;> rfl
              · rw [if_neg hc] at hM
                by_cases hn : n < 0
                · rw [if_neg (fun q => q.2.1 hn)] at hC
                  rw [if_pos hn] at hM
                  exact ⟨-7, m, m, hC, hM, h⟩
                · rw [if_neg hn] at hM
                  obtain ⟨i, hi, rfl⟩ := nI_of ha
                  obtain ⟨j, hj, rfl⟩ := nI_of hc
                  obtain ⟨q, hq, rfl⟩ := nI_of hn
                  rw [ix_nI (show i < 2147483648 by omega), ix_nI (show j < 2147483648 by omega), ix_nI (show q < 2147483648 by omega)] at hC
                  by_cases p1 : i + q ≤ N
                  · rw [if_pos ⟨ha, hn, p1⟩] at hC
                    rw [if_neg (fun z => by have := (L_sum (n := N) hi hq (by omega)).1.mp z; omega)] at hM
                    by_cases p2 : j + q ≤ M
                    · rw [if_pos ⟨hc, hn, p2⟩, gd_t ⟨ha, hc, hn, by omega, by omega⟩] at hC
                      rw [if_pos ((L_sum (n := M) hj hq (by omega)).2.mpr p2)] at hM
                      have eA : 195 + 2 * k + 1 = 196 + 2 * k := by omega
                      have eB : 195 + 2 * l + 1 = 196 + 2 * l := by omega
                      rw [eA, eB] at hC
                      let m1 : Mem := cpL m (196 + 2 * k) i (196 + 2 * l) j q
                      have hm1 : m1 = cpL m (196 + 2 * k) i (196 + 2 * l) j q := rfl
                      have c1 : m1.1 = m.1 := rfl
                      have c2 : ∀ z, z ≠ 196 + 2 * l → m1.2 z = m.2 z := fun z hz => by
                        funext r
                        exact if_neg (fun q => hz q.1)
                      have c3 : ∀ r, j ≤ r → r < j + q → m1.2 (196 + 2 * l) r = m.2 (196 + 2 * k) (i + (r - j)) := fun r h1 h2 => if_pos ⟨rfl, h1, h2⟩
                      have c4 : ∀ r, (r < j ∨ j + q ≤ r) → m1.2 (196 + 2 * l) r = m.2 (196 + 2 * l) r := fun r h1 => if_neg (fun z => by omega)
                      have hM1 : Mo_paste 298 (nI k) (nI i) (nI l) (nI j) (nI q) m1 = loop (fun s : Int32 × Mem => Mo_paste_l113 298 (nI k) (nI i) (nI l) (nI j) (nI q) s.1 s.2) (0, m1) := by
                        unfold Mo_paste
                        rw [Mo_isSlot_e, bind_s, ite_b2, if_pos hx, Mo_isSlot_e, bind_s, ite_b2, if_pos hy, gd_t hx, gd_t hy, gd_t hx, gd_t hy, gd_t hx, gd_t hy, ix_nI (by omega), ix_nI (by omega), show rI m1 (298 + 16) k = nI N from n4, if_neg (neg1 (by omega)), show rI m1 (298 + 16) l = nI M from o4, if_neg (neg1 (by omega)), show rI m1 (298 + 17) k = nI w from n6, show rI m1 (298 + 17) l = nI u from o6, if_pos hw, if_neg ha, if_neg hc, if_neg hn, if_neg (fun z => by have := (L_sum (n := N) hi hq (by omega)).1.mp z; omega), if_pos ((L_sum (n := M) hj hq (by omega)).2.mpr p2)]
                      have key : Ok (loop (fun s : Int32 × Mem => Mo_paste_l113 298 (nI k) (nI i) (nI l) (nI j) (nI q) s.1 s.2) (0, m1)) (fun r => r.1 = 0 ∧ r.2.1 = m1.1 ∧ (∀ z, z ≠ 316 → z ≠ 317 → r.2.2 z = m1.2 z) ∧ (∀ r', r' < q → r.2.2 316 (60 * l + j + r') = m1.2 316 (60 * k + i + r')) ∧ ∀ z, z < 60 * l + j ∨ 60 * l + j + q ≤ z → r.2.2 316 z = m1.2 316 z) := by
                        refine Ok_for q (fun s u => u.1 = m1.1 ∧ (∀ z, z ≠ 317 → u.2 z = m1.2 z) ∧ ∀ r, r < s → u.2 317 r = m1.2 316 (60 * k + i + r)) ⟨rfl, fun _ _ => rfl, fun r hr => by omega⟩ (fun s u hs ⟨b1, b2, b3⟩ => ?_) (fun u ⟨b1, b2, b3⟩ => ?_)
                        · show Ok (Mo_paste_l113 298 (nI k) (nI i) (nI l) (nI j) (nI q) (nI s) u) _
                          unfold Mo_paste_l113
                          rw [show (60 : Int32) * nI k + nI i + nI s = nI (60 * k + i + s) by rw [li 60, pk_mul, nI_add, nI_add]]
                          refine Ok_if (nI_ge hs (by omega)) (Ok_gd (in_nI (by omega) (by decide)) (Ok_gd (in_nI (by omega) (by decide)) (Ok_lt ?_)))
                          rw [ix_nI (by omega), ix_nI (by omega)]
                          refine Ok_s ⟨wL u 317 s (u.2 316 (60 * k + i + s)), by rw [nI_1], b1, fun z hz => by rw [wL_2 _ hz]; exact b2 z hz, fun r hr => ?_⟩
                          rw [wL_at]
                          by_cases e : r = s
                          · rw [if_pos e, e, b2 316 (by decide)]
                          · rw [if_neg e]; exact b3 r (by omega)
                        · show Ok (Mo_paste_l113 298 (nI k) (nI i) (nI l) (nI j) (nI q) (nI q) u) _
                          unfold Mo_paste_l113
                          refine Ok_it (nI_le (Nat.le_refl _) (by omega)) (Ok_up (P := fun r => r.1 = 0 ∧ r.2.1 = m1.1 ∧ (∀ z, z ≠ 316 → z ≠ 317 → r.2.2 z = m1.2 z) ∧ (∀ r', r' < q → r.2.2 316 (60 * l + j + r') = m1.2 316 (60 * k + i + r')) ∧ ∀ z, z < 60 * l + j ∨ 60 * l + j + q ≤ z → r.2.2 316 z = m1.2 316 z) ?_ (fun y hy => ⟨y, rfl, hy⟩))
                          refine Ok_for q (fun s v => v.1 = m1.1 ∧ (∀ z, z ≠ 316 → v.2 z = u.2 z) ∧ (∀ r, r < s → v.2 316 (60 * l + j + r) = m1.2 316 (60 * k + i + r)) ∧ ∀ z, z < 60 * l + j ∨ 60 * l + j + s ≤ z → v.2 316 z = m1.2 316 z) ⟨b1, fun _ _ => rfl, fun r hr => by omega, fun z _ => congrFun (b2 316 (by decide)) z⟩ (fun s v hs ⟨d1, d2, d3, d4⟩ => ?_) (fun v ⟨d1, d2, d3, d4⟩ => ?_)
                          · show Ok (Mo_paste_l150 298 (nI l) (nI j) (nI q) (nI s) v) _
                            unfold Mo_paste_l150
                            rw [show (60 : Int32) * nI l + nI j + nI s = nI (60 * l + j + s) by rw [li 60, pk_mul, nI_add, nI_add]]
                            refine Ok_if (nI_ge hs (by omega)) (Ok_gd (in_nI (by omega) (by decide)) (Ok_gd (in_nI (by omega) (by decide)) (Ok_lt ?_)))
                            rw [ix_nI (by omega), ix_nI (by omega)]
                            refine Ok_s ⟨wL v 316 (60 * l + j + s) (v.2 317 s), by rw [nI_1], d1, fun z hz => by rw [wL_2 _ hz]; exact d2 z hz, fun r hr => ?_, fun z hz => ?_⟩
                            · rw [wL_at]
                              by_cases e : 60 * l + j + r = 60 * l + j + s
                              · rw [if_pos e, d2 317 (by decide), b3 s hs, show r = s by omega]
                              · rw [if_neg e]; exact d3 r (by omega)
                            · rw [wL_at, if_neg (by omega)]; exact d4 z (by omega)
                          · show Ok (Mo_paste_l150 298 (nI l) (nI j) (nI q) (nI q) v) _
                            unfold Mo_paste_l150
                            refine Ok_it (nI_le (Nat.le_refl _) (by omega)) ?_
                            rw [up_some]
                            exact Ok_s ⟨_, rfl, rfl, d1, fun z h1 h2 => (d2 z h1).trans (b2 z h2), d3, d4⟩
                      obtain ⟨⟨r, m2⟩, e3, r0, q1, q2, q3, q4⟩ := key
                      simp only at r0 q1 q2 q3 q4
                      refine ⟨0, m1, m2, hC, ?_, h.slot hl (fun z _ _ _ => by rw [q1, c1]) (fun z z1 z2 z3 => ?_) (fun z hz => ?_) (fun z hz => ?_) (Or.inr ⟨?_, M, u, o1, o2, ?_, ?_, ?_, ?_, fun z hz => ?_⟩)⟩
                      · rw [hM1, e3, r0]
                      · rw [q2 z z2 (by omega), c2 z z1]
                      · rw [q1]; exact ⟨rfl, rfl⟩
                      · rw [q4 z (by omega), c2 316 (by omega)]
                      · rw [q1]; exact f1
                      · rw [q1]; exact o3
                      · rw [q1]; exact o4
                      · rw [q1]; exact o5
                      · rw [q1]; exact o6
                      · rw [q2 _ (by omega) (by omega)]
                        by_cases e : j ≤ z ∧ z < j + q
                        · rw [c3 z e.1 e.2, n7 _ (by omega), show 60 * l + z = 60 * l + j + (z - j) by omega, q3 _ (by omega), c2 316 (by omega), show 60 * k + (i + (z - j)) = 60 * k + i + (z - j) by omega]
                        · rw [c4 z (by omega), o7 z hz, q4 _ (by omega), c2 316 (by omega)]
                    · rw [if_neg (fun z : ¬ nI j < 0 ∧ ¬ nI q < 0 ∧ j + q ≤ M => p2 z.2.2)] at hC
                      rw [if_neg (fun z => p2 ((L_sum (n := M) hj hq (by omega)).2.mp z))] at hM
                      exact ⟨-7, m, m, hC, hM, h⟩
                  · rw [if_neg (fun z : ¬ nI i < 0 ∧ ¬ nI q < 0 ∧ i + q ≤ N => p1 z.2.2)] at hC
                    rw [if_pos ((L_sum (n := N) hi hq (by omega)).1.mpr (by omega))] at hM
                    exact ⟨-7, m, m, hC, hM, h⟩
          · rw [if_neg hw] at hC hM
            exact ⟨-8, m, m, hC, hM, h⟩
    · refine ⟨-2, m, m, ?_, ?_, h⟩
      · unfold PL_paste
        rw [PL_slotAt_e, bind_s, PL_slotAt_e, bind_s, if_pos hx, if_neg hy, ix_nI (by omega), if_neg (by omega), gd_t (slot_kd k hk), if_pos rfl]
      · unfold Mo_paste
        rw [Mo_isSlot_e, bind_s, ite_b2, if_pos hx, Mo_isSlot_e, bind_s, ite_b2, if_neg hy]
  · refine ⟨-2, m, m, ?_, ?_, h⟩
    · unfold PL_paste
      rw [PL_slotAt_e, bind_s, PL_slotAt_e, bind_s, if_neg hx, if_pos rfl]
    · unfold Mo_paste
      rw [Mo_isSlot_e, bind_s, ite_b2, if_neg hx]
/-! the tape -/
theorem RR.tp {m m' : Mem} (h : RR m) (e1 : ∀ a, a ≠ 2 → a ≠ 3 → a ≠ 298 → a ≠ 302 → (a < 303 ∨ (314 ≤ a ∧ a < 317)) → (a < 4 ∨ 28 ≤ a) → m'.1 a = m.1 a) (e2 : ∀ a, a ≠ 298 → (a < 303 ∨ (314 ≤ a ∧ a < 317)) → m'.2 a = m.2 a)
    (f1 : m'.1 2 3 = m'.1 298 12) (f2 : m'.1 2 4 = m'.1 298 13) (f3 : m'.1 298 26 = m.1 298 26) (t : TR m') : RR m' := by
  obtain ⟨W, ⟨-, ⟨-, -, g3⟩, ii, ss⟩, w, c, I⟩ := h
  refine ⟨W, ⟨t, ⟨f1, f2, ?_⟩, fun j hj => ?_, fun j hj => ?_⟩, w.e (e1 299 (by omega) (by omega) (by omega) (by omega) (by omega) (by omega)), c.eq I (fun a h1 h2 => e1 a (by omega) (by omega) (by omega) (by omega) (by omega) (by omega)), I⟩
  · rw [f3, e1 1 (by omega) (by omega) (by omega) (by omega) (by omega) (by omega), g3]
  · exact (ii j hj).e hj (by rw [e1 193 (by omega) (by omega) (by omega) (by omega) (by omega) (by omega)]) (by rw [e1 301 (by omega) (by omega) (by omega) (by omega) (by omega) (by omega)]) (e1 300 (by omega) (by omega) (by omega) (by omega) (by omega) (by omega)) (fun a h1 h2 => e1 a (by omega) (by omega) (by omega) (by omega) (by omega) (by omega))
  · exact (ss j hj).e (e1 _ (by omega) (by omega) (by omega) (by omega) (by omega) (by omega)) (by rw [e1 314 (by omega) (by omega) (by omega) (by omega) (by omega) (by omega)]) (by rw [e1 315 (by omega) (by omega) (by omega) (by omega) (by omega) (by omega)]) (e2 _ (by omega) (by omega)) (fun i _ => by rw [e2 316 (by omega) (by omega)])
def byt (v : Int32) (j : Nat) : Int32 := (v >>> (nI (24 - 8 * j) &&& 31)).toInt8.toInt32
theorem byt_r (v : Int32) (j : Nat) : -128 ≤ (byt v j).toInt ∧ (byt v j).toInt ≤ 127 := by
  unfold byt
  rw [Int8.toInt_toInt32]
  have h1 := Int8.le_toInt (v >>> (nI (24 - 8 * j) &&& 31)).toInt8
  have h2 := Int8.toInt_lt (v >>> (nI (24 - 8 * j) &&& 31)).toInt8
  omega
theorem Re_addNumber_e {m : Mem} {t L : Nat} (v : Int32) (h : m.1 t 1 = nI L) (hL : L + 4 ≤ 1600) : Ok (Re_addNumber t v m) (fun x => x.1 t 1 = nI (L + 4) ∧ (∀ i, i ≠ 1 → x.1 t i = m.1 t i) ∧ (∀ a, a ≠ t → a ≠ t + 1 → x.1 a = m.1 a) ∧ x.2 = m.2 ∧ ∀ i, x.1 (t + 1) i = if L ≤ i ∧ i < L + 4 then byt v (i - L) else m.1 (t + 1) i) := by
  unfold Re_addNumber
  refine Ok_loop 4 (fun i x => ((24 : Int32) - nI (8 * i), x)) (fun j x => x.1 t 1 = nI (L + j) ∧ (∀ i, i ≠ 1 → x.1 t i = m.1 t i) ∧ (∀ a, a ≠ t → a ≠ t + 1 → x.1 a = m.1 a) ∧ x.2 = m.2 ∧ ∀ i, x.1 (t + 1) i = if L ≤ i ∧ i < L + j then byt v (i - L) else m.1 (t + 1) i) m (by rfl) ⟨h, fun _ _ => rfl, fun _ _ _ => rfl, rfl, fun i => by rw [if_neg (by omega)]⟩ (fun j x hj ⟨a, b, c, d, e⟩ => ?_) (fun x hx => ?_)
  · show Ok (Re_addNumber_l3 t v (24 - nI (8 * j)) x) _
    have es : (24 : Int32) - nI (8 * j) = nI (24 - 8 * j) := pk_sub (a := 24) (by omega)
    unfold Re_addNumber_l3 Re_addNumber_b49
    rw [es, show rI x t 1 = nI (L + j) from a]
    refine Ok_if (nI_pos (by omega)) (Ok_if (nI_pos (by omega)) (Ok_if (show ¬ nI 1600 ≤ nI (L + j) from nI_ge (by omega) (by decide)) (Ok_gd (in_nI (by omega) (by decide)) (Ok_lt (Ok_lt ?_)))))
    rw [ix_nI (by omega), show rI (wI x (t + 1) (L + j) (vp_nar .byte ((v >>> (nI (24 - 8 * j) &&& 31)).toInt8.toInt32))) t 1 = nI (L + j) by rw [← a]; exact wI_o _ (by omega) _ _, nI_1, pk_vb]
    refine Ok_s ⟨wI (wI x (t + 1) (L + j) (byt v j)) t 1 (nI (L + j + 1)), ?_, wI_self _ _ _ _, fun i hi => ?_, fun z h1 h2 => ?_, d, fun i => ?_⟩
    · have : nI (24 - 8 * j) + -8 = (24 : Int32) - nI (8 * (j + 1)) := by
        have : j = 0 ∨ j = 1 ∨ j = 2 ∨ j = 3 := by omega
        rcases this with rfl | rfl | rfl | rfl <;> decide
      rw [this]
      rfl
    · rw [wI_at, if_neg hi, wI_o _ (by omega)]; exact b i hi
    · rw [wI_1 _ h1, wI_1 _ h2]; exact c z h1 h2
    · rw [wI_o _ (by omega), wI_at]
      by_cases q : i = L + j
      · rw [if_pos q, if_pos (by omega), show i - L = j by omega]
      · rw [if_neg q, e i]
        by_cases q2 : L ≤ i ∧ i < L + j
        · rw [if_pos q2, if_pos (by omega)]
        · rw [if_neg q2, if_neg (by omega)]
  · show Ok (Re_addNumber_l3 t v (24 - nI (8 * 4)) x) _
    unfold Re_addNumber_l3
    refine Ok_it (by decide) ?_
    rw [up_some]
    exact Ok_s ⟨_, rfl, hx⟩
def fiv (v : Nat → Int32) (i : Nat) : Int32 := byt (v (i / 4)) (i % 4)
theorem PL_feed_e {m : Mem} {L : Nat} (v : Nat → Int32) (h : m.1 2 1 = nI L) (hL : L + 20 ≤ 1600) : Ok (PL_feed 1 (v 0) (v 1) (v 2) (v 3) (v 4) m) (fun r => r.1 = nI (L + 20) ∧ r.2.1 2 1 = nI (L + 20) ∧ (∀ i, i ≠ 1 → r.2.1 2 i = m.1 2 i) ∧ (∀ a, a ≠ 2 → a ≠ 3 → r.2.1 a = m.1 a) ∧ r.2.2 = m.2 ∧ ∀ i, r.2.1 3 i = if L ≤ i ∧ i < L + 20 then fiv v (i - L) else m.1 3 i) := by
  unfold PL_feed Re_hasRoom
  rw [show rI m (1 + 1) 1 = nI L from h, show nI L + 20 = nI (L + 20) from nI_add L 20, if_neg (show ¬ (1600 : Int32) < nI (L + 20) from nI_nlt (a := 1600) hL (by decide)), bind_s, if_neg (by decide)]
  refine Ok_bind (Re_addNumber_e (t := 2) (v 0) h (by omega)) (fun m1 ⟨a1, b1, c1, d1, e1⟩ => ?_)
  refine Ok_bind (Re_addNumber_e (t := 2) (v 1) a1 (by omega)) (fun m2 ⟨a2, b2, c2, d2, e2⟩ => ?_)
  refine Ok_bind (Re_addNumber_e (t := 2) (v 2) a2 (by omega)) (fun m3 ⟨a3, b3, c3, d3, e3⟩ => ?_)
  refine Ok_bind (Re_addNumber_e (t := 2) (v 3) a3 (by omega)) (fun m4 ⟨a4, b4, c4, d4, e4⟩ => ?_)
  refine Ok_bind (Re_addNumber_e (t := 2) (v 4) a4 (by omega)) (fun m5 ⟨a5, b5, c5, d5, e5⟩ => ?_)
  have aa : m5.1 2 1 = nI (L + 20) := by rw [a5]
  refine Ok_s ⟨aa, aa, fun i hi => by rw [b5 i hi, b4 i hi, b3 i hi, b2 i hi, b1 i hi], fun a h1 h2 => by rw [c5 a h1 h2, c4 a h1 h2, c3 a h1 h2, c2 a h1 h2, c1 a h1 h2], by rw [d5, d4, d3, d2, d1], fun i => ?_⟩
  show m5.1 (2 + 1) i = _
  rw [e5 i, e4 i, e3 i, e2 i, e1 i]
  unfold fiv
  by_cases q : L ≤ i ∧ i < L + 20
  · rw [if_pos q]
    by_cases q1 : i < L + 4
    · rw [if_neg (by omega), if_neg (by omega), if_neg (by omega), if_neg (by omega), if_pos (by omega), show (i - L) / 4 = 0 by omega, show (i - L) % 4 = i - L by omega]
    · by_cases q2 : i < L + 8
      · rw [if_neg (by omega), if_neg (by omega), if_neg (by omega), if_pos (by omega), show (i - L) / 4 = 1 by omega, show (i - L) % 4 = i - (L + 4) by omega]
      · by_cases q3 : i < L + 12
        · rw [if_neg (by omega), if_neg (by omega), if_pos (by omega), show (i - L) / 4 = 2 by omega, show (i - L) % 4 = i - (L + 4 + 4) by omega]
        · by_cases q4 : i < L + 16
          · rw [if_neg (by omega), if_pos (by omega), show (i - L) / 4 = 3 by omega, show (i - L) % 4 = i - (L + 4 + 4 + 4) by omega]
          · rw [if_pos (by omega), show (i - L) / 4 = 4 by omega, show (i - L) % 4 = i - (L + 4 + 4 + 4 + 4) by omega]
  · rw [if_neg q, if_neg (by omega), if_neg (by omega), if_neg (by omega), if_neg (by omega), if_neg (by omega)]
theorem Mo_feed_e {m : Mem} {L : Nat} (v : Nat → Int32) (h : m.1 298 5 = nI L) (hL : L + 20 ≤ 1600) : Ok (Mo_feed 298 (v 0) (v 1) (v 2) (v 3) (v 4) m) (fun r => r.1 = nI (L + 20) ∧ r.2.1 298 5 = nI (L + 20) ∧ (∀ i, i ≠ 5 → r.2.1 298 i = m.1 298 i) ∧ (∀ a, a ≠ 298 → a ≠ 302 → a ≠ 303 → r.2.1 a = m.1 a) ∧ r.2.2 = m.2 ∧ ∀ i, r.2.1 302 i = if L ≤ i ∧ i < L + 20 then fiv v (i - L) else m.1 302 i) := by
  unfold Mo_feed
  rw [show rI m 298 5 = nI L from h, show nI L + 20 = nI (L + 20) from nI_add L 20, if_pos (show nI (L + 20) ≤ 1600 from nI_le (b := 1600) hL (by decide))]
  refine Ok_gd (by decide) (Ok_lt (Ok_gd (by decide) (Ok_lt (Ok_gd (by decide) (Ok_lt (Ok_gd (by decide) (Ok_lt (Ok_gd (by decide) (Ok_lt ?_)))))))))
  let m0 : Mem := wI (wI (wI (wI (wI m 303 0 (v 0)) 303 1 (v 1)) 303 2 (v 2)) 303 3 (v 3)) 303 4 (v 4)
  have f0 : ∀ q, q < 5 → m0.1 303 q = v q := by
    intro q hq
    have : q = 0 ∨ q = 1 ∨ q = 2 ∨ q = 3 ∨ q = 4 := by omega
    rcases this with rfl | rfl | rfl | rfl | rfl <;> rfl
  have g0 : ∀ a, a ≠ 303 → m0.1 a = m.1 a := fun a ha => by
    show (wI (wI (wI (wI (wI m 303 0 (v 0)) 303 1 (v 1)) 303 2 (v 2)) 303 3 (v 3)) 303 4 (v 4)).1 a = _
    rw [wI_1 _ ha, wI_1 _ ha, wI_1 _ ha, wI_1 _ ha, wI_1 _ ha]
  show Ok (loop (fun s : Int32 × Mem => Mo_feed_l55 298 s.1 s.2) (0, m0)) _
  refine Ok_for 20 (fun i x => (∀ a, a ≠ 302 → x.1 a = m0.1 a) ∧ x.2 = m.2 ∧ ∀ j, x.1 302 j = if L ≤ j ∧ j < L + i then fiv v (j - L) else m.1 302 j) ⟨fun _ _ => rfl, rfl, fun j => by rw [if_neg (by omega), g0 302 (by decide)]⟩ (fun i x hi ⟨a, b, c⟩ => ?_) (fun x ⟨a, b, c⟩ => ?_)
  · show Ok (Mo_feed_l55 298 (nI i) x) _
    unfold Mo_feed_l55
    have xL : rI x 298 5 = nI L := by rw [← h]; exact congrFun ((a 298 (by decide)).trans (g0 298 (by decide))) 5
    have x3 : rI x (298 + 5) (i / 4) = v (i / 4) := by rw [← f0 _ (by omega)]; exact congrFun (a 303 (by decide)) _
    have ed : nI i / 4 = nI (i / 4) := pk_div (d := 4) (by omega) (by decide) (by decide)
    have er : nI i - nI (i / 4) * 4 = nI (i % 4) := by
      rw [← ed]
      exact pk_rem (d := 4) (by omega) (by decide) (by decide)
    rw [xL, ed, er, nI_add, show (8 : Int32) * nI (i % 4) = nI (8 * (i % 4)) from pk_mul 8 _, show (24 : Int32) - nI (8 * (i % 4)) = nI (24 - 8 * (i % 4)) from pk_sub (a := 24) (by omega)]
    refine Ok_if (show ¬ (20 : Int32) ≤ nI i from nI_ge (b := 20) hi (by decide)) (Ok_gd (in_nI (by omega) (by decide)) (Ok_gd (in_nI (by omega) (by decide)) (Ok_lt ?_)))
    rw [ix_nI (by omega), ix_nI (by omega), x3, pk_vb]
    refine Ok_s ⟨wI x 302 (L + i) (fiv v i), by rw [nI_1]; rfl, fun z hz => by rw [wI_1 _ hz]; exact a z hz, b, fun j => ?_⟩
    rw [wI_at]
    by_cases e : j = L + i
    · rw [if_pos e, if_pos (by omega), show j - L = i by omega]
    · rw [if_neg e, c j]
      by_cases e2 : L ≤ j ∧ j < L + i
      · rw [if_pos e2, if_pos (by omega)]
      · rw [if_neg e2, if_neg (by omega)]
  · show Ok (Mo_feed_l55 298 (nI 20) x) _
    unfold Mo_feed_l55
    have xL : rI x 298 5 = nI L := by rw [← h]; exact congrFun ((a 298 (by decide)).trans (g0 298 (by decide))) 5
    rw [xL, show nI L + 20 = nI (L + 20) from nI_add L 20]
    refine Ok_it (show (20 : Int32) ≤ nI 20 by decide) ?_
    refine Ok_s ⟨(nI (L + 20), wI x 298 5 (nI (L + 20))), ?_, rfl, wI_self _ _ _ _, fun i hi => ?_, fun z h1 h2 h3 => ?_, b, fun j => ?_⟩
    · rw [show rI (wI x 298 5 (nI (L + 20))) 298 5 = nI (L + 20) from wI_self _ _ _ _]
    · show (wI x 298 5 (nI (L + 20))).1 298 i = _
      rw [wI_at, if_neg hi, a 298 (by decide), g0 298 (by decide)]
    · show (wI x 298 5 (nI (L + 20))).1 z = _
      rw [wI_1 _ h1, a z h2, g0 z h3]
    · show (wI x 298 5 (nI (L + 20))).1 302 j = _
      rw [wI_o _ (by decide), c j]
theorem st_feed (v : Nat → Int32) : Same (PL_feed 1 (v 0) (v 1) (v 2) (v 3) (v 4)) (Mo_feed 298 (v 0) (v 1) (v 2) (v 3) (v 4)) := by
  rintro m h
  obtain ⟨W, p, -⟩ := id h
  obtain ⟨⟨⟨L, l1, l2, l3⟩, tt⟩, ⟨f1, f2, f3⟩, -⟩ := p
  by_cases hL : L + 20 ≤ 1600
  · obtain ⟨⟨r, m1⟩, e1, r1, a1, b1, c1, d1, g1⟩ := PL_feed_e v l2 hL
    simp only at r1 a1 b1 c1 d1 g1
    obtain ⟨⟨s, m2⟩, e2, r2, a2, b2, c2, d2, g2⟩ := Mo_feed_e (m := m1) v (by rw [c1 298 (by decide) (by decide), l3]) hL
    simp only at r2 a2 b2 c2 d2 g2
    refine ⟨nI (L + 20), m1, m2, by rw [e1, r1], by rw [e2, r2], h.tp (fun a h1 h2 h3 h4 h5 _ => ?_) (fun a _ _ => by rw [d2, d1]) ?_ ?_ ?_ ⟨⟨L + 20, hL, ?_, a2⟩, fun i hi => ?_⟩⟩
    · rw [c2 a h3 h4 (by omega), c1 a h1 h2]
    · rw [c2 2 (by decide) (by decide) (by decide), b1 3 (by decide), b2 12 (by decide), c1 298 (by decide) (by decide), f1]
    · rw [c2 2 (by decide) (by decide) (by decide), b1 4 (by decide), b2 13 (by decide), c1 298 (by decide) (by decide), f2]
    · rw [b2 26 (by decide), c1 298 (by decide) (by decide)]
    · rw [c2 2 (by decide) (by decide) (by decide), a1]
    · rw [c2 3 (by decide) (by decide) (by decide), g1 i, g2 i, c1 302 (by decide) (by decide)]
      by_cases q : L ≤ i ∧ i < L + 20
      · rw [if_pos q, if_pos q]
        exact ⟨rfl, byt_r _ _⟩
      · rw [if_neg q, if_neg q]
        exact tt i hi
  · refine ⟨-1, m, m, ?_, ?_, h⟩
    · unfold PL_feed Re_hasRoom
      rw [show rI m (1 + 1) 1 = nI L from l2, show nI L + 20 = nI (L + 20) from nI_add L 20, if_pos (show (1600 : Int32) < nI (L + 20) from nI_lt (a := 1600) (by omega) (by omega)), bind_s, if_pos rfl]
    · unfold Mo_feed
      rw [show rI m 298 5 = nI L from l3, show nI L + 20 = nI (L + 20) from nI_add L 20, if_neg (show ¬ nI (L + 20) ≤ 1600 from nI_ge (a := 1600) (by omega) (by omega))]
theorem st_end (x : Int32) : Same (PL_end 1 x) (Mo_end 298 x) := by
  rintro m h
  obtain ⟨W, p, -⟩ := id h
  obtain ⟨⟨⟨L, l1, l2, l3⟩, tt⟩, ⟨f1, f2, f3⟩, -⟩ := p
  have hC : PL_end 1 x m = if inb x (L + 1) then some (x, wI m 2 1 x) else some (-1, m) := by
    unfold PL_end
    rw [show rI m (1 + 1) 1 = nI L from l2]
    show (if x < 0 then some (-1, m) else if x ≤ nI L then some (x, wI m 2 1 x) else some (-1, m)) = _
    exact ite_rle (by omega) _ _
  have hM : ∀ z : Mem, z.1 298 5 = nI L → Mo_end 298 x z = if inb x (L + 1) then some (x, wI z 298 5 x) else some (-1, z) := by
    intro z hz
    unfold Mo_end
    rw [show rI z 298 5 = nI L from hz, in0 z x (n := L + 1) (by omega) (by rw [nI_pred]), bind_s, ite_b2]
    rfl
  by_cases hx : inb x (L + 1)
  · obtain ⟨k, hk, rfl⟩ := in_of hx (by omega)
    rw [if_pos hx] at hC
    have hM2 := hM (wI m 2 1 (nI k)) (by rw [wI_o _ (by decide), l3])
    rw [if_pos hx] at hM2
    refine ⟨nI k, _, _, hC, hM2, h.tp (fun a h1 h2 h3 h4 h5 _ => ?_) (fun a _ _ => rfl) ?_ ?_ ?_ ⟨⟨k, by omega, ?_, wI_self _ _ _ _⟩, fun i hi => ?_⟩⟩
    · rw [wI_1 _ h3, wI_1 _ h1]
    · rw [wI_o _ (by decide), wI_at, if_neg (by decide), wI_at, if_neg (by decide), wI_o _ (by decide), f1]
    · rw [wI_o _ (by decide), wI_at, if_neg (by decide), wI_at, if_neg (by decide), wI_o _ (by decide), f2]
    · rw [wI_at, if_neg (by decide), wI_o _ (by decide)]
    · rw [wI_o _ (by decide), wI_self]
    · rw [wI_o _ (by decide), wI_o _ (by decide), wI_o _ (by decide), wI_o _ (by decide)]
      exact tt i hi
  · rw [if_neg hx] at hC
    have hM2 := hM m l3
    rw [if_neg hx] at hM2
    exact ⟨-1, m, m, hC, hM2, h⟩
end TAPE

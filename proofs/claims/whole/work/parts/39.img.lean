/-! images and rows: keep, back, row, write, paste -/
theorem IR.e2 {m m' : Mem} {k : Nat} (h : IR m k) (hk : k < 3) (e1 : m'.1 193 k = m.1 193 k) (e2 : m'.1 301 k = m.1 301 k) (e3 : ∀ i, i < 200 → m'.1 300 (200 * k + i) = m.1 300 (200 * k + i)) (e4 : ∀ a, 70 + 41 * k ≤ a → a < 70 + 41 * k + 40 → m'.1 a = m.1 a) : IR m' k := by
  refine ⟨by rw [e1, e2, h.1], fun q => ?_⟩
  obtain ⟨W, a, R, I⟩ := h.2 (by rw [← e2]; exact q)
  exact ⟨W, fun i hi => by rw [e3 i hi, a i hi], R.eq I e4, I⟩
theorem img_kd : ∀ k, k < 3 → kd (70 + 41 * k) = 1 := by decide +kernel
theorem PL_imageAt_e (m : Mem) (x : Int32) : PL_imageAt 1 x m = some (if inb x 3 then 70 + 41 * ix x else 0) := by
  unfold PL_imageAt
  rw [show (if x < 0 then some 0 else if 3 ≤ x then some 0 else gd (inb x 3) (some (1 + 68 + (1 + 41 * ix x)))) = if inb x 3 then gd (inb x 3) (some (1 + 68 + (1 + 41 * ix x))) else some 0 from ite_rng (n := 3) (by decide) x (some 0) _]
  by_cases h : inb x 3
  · rw [if_pos h, if_pos h, gd_t h, show 1 + 68 + (1 + 41 * ix x) = 70 + 41 * ix x by omega]
  · rw [if_neg h, if_neg h]
section IMG
theorem MW.e {m m' : Mem} {W : Wd} (h : MW m W) (e : m'.1 299 = m.1 299) : MW m' W := fun i hi => by rw [e, h i hi]
theorem st_keep (x : Int32) : Same (PL_keep 1 x) (Mo_keep 298 x) := by
  rintro m ⟨W, p, w, c, I⟩
  have d := I.d
  by_cases h : inb x 3
  · obtain ⟨k, hk, rfl⟩ := in_of h (by decide)
    obtain ⟨m1, e1, R1, F1⟩ := Ca_copyFrom_e (c := 70 + 41 * k) (d := 28) (by omega) (img_kd k hk) c I
    have eC : PL_keep 1 (nI k) m = some (0, wI m1 193 k 1) := by
      unfold PL_keep
      rw [PL_imageAt_e, bind_s, if_pos h, ix_nI (by omega), if_neg (by omega), gd_t (img_kd k hk), show Ca_copyFrom (70 + 41 * k) (1 + 27) m = _ from e1, bind_s, gd_t h]
      rfl
    have F2 : Fp (70 + 41 * k) (110 + 41 * k) m1 m1 := Fp.refl
    have g1 : ∀ a, (a < 70 ∨ 193 < a) → (wI m1 193 k 1).1 a = m.1 a ∧ (wI m1 193 k 1).2 a = m.2 a := fun a ha => ⟨by rw [wI_1 _ (by omega)]; exact (F1 a (by omega)).1, (F1 a (by omega)).2⟩
    have key : Ok (loop (fun s : Int32 × Mem => Mo_keep_l17 298 (nI k) s.1 s.2) (0, wI m1 193 k 1)) (fun r => r.1 = 0 ∧ (∀ a, a ≠ 300 → a ≠ 301 → r.2.1 a = (wI m1 193 k 1).1 a) ∧ r.2.2 = (wI m1 193 k 1).2 ∧ (∀ j, r.2.1 301 j = if j = k then 1 else (wI m1 193 k 1).1 301 j) ∧ (∀ j, j < 200 → r.2.1 300 (200 * k + j) = nI (W j)) ∧ ∀ q, q < 200 * k ∨ 200 * k + 200 ≤ q → r.2.1 300 q = (wI m1 193 k 1).1 300 q) := by
      refine Ok_for 200 (fun i z => (∀ a, a ≠ 300 → z.1 a = (wI m1 193 k 1).1 a) ∧ z.2 = (wI m1 193 k 1).2 ∧ (∀ j, j < i → z.1 300 (200 * k + j) = nI (W j)) ∧ ∀ q, q < 200 * k ∨ 200 * k + 200 ≤ q → z.1 300 q = (wI m1 193 k 1).1 300 q) ⟨fun _ _ => rfl, rfl, fun j hj => by omega, fun _ _ => rfl⟩ (fun i z hi ⟨a, b, r, q⟩ => ?_) (fun z ⟨a, b, r, q⟩ => ?_)
      · show Ok (Mo_keep_l17 298 (nI k) (nI i) z) _
        unfold Mo_keep_l17
        rw [show (200 : Int32) * nI k + nI i = nI (200 * k + i) by rw [li 200, pk_mul, nI_add]]
        refine Ok_if (show ¬ (200 : Int32) ≤ nI i from nI_ge (b := 200) hi (by decide)) (Ok_gd (in_nI hi (by decide)) (Ok_gd (in_nI (by omega) (by decide)) (Ok_lt ?_)))
        rw [ix_nI (by omega), ix_nI (by omega)]
        refine Ok_s ⟨wI z 300 (200 * k + i) (z.1 299 i), by rw [nI_1], fun y hy => ?_, b, fun j hj => ?_, fun y hy => ?_⟩
        · rw [wI_1 _ hy, a y hy]
        · rw [wI_at]
          by_cases e : 200 * k + j = 200 * k + i
          · rw [if_pos e, a 299 (by decide), (g1 299 (by omega)).1, show j = i by omega, w i hi]
          · rw [if_neg e]; exact r j (by omega)
        · rw [wI_at, if_neg (by omega)]; exact q y hy
      · show Ok (Mo_keep_l17 298 (nI k) (nI 200) z) _
        unfold Mo_keep_l17
        refine Ok_it (show (200 : Int32) ≤ nI 200 by decide) (Ok_up (P := fun y => y = (0, wI z 301 k 1)) (Ok_gd h (Ok_lt ?_)) (fun y hy => ⟨y, rfl, ?_⟩))
        · rw [ix_nI (by omega)]
          exact Ok_s rfl
        · rw [hy]
          refine ⟨rfl, fun s h1 h2 => ?_, b, fun j => ?_, fun j hj => ?_, fun s hs => ?_⟩
          · rw [wI_1 _ h2]; exact a s h1
          · show (wI z 301 k 1).1 301 j = _
            rw [wI_at, a 301 (by decide)]
          · rw [wI_o _ (by decide)]; exact r j hj
          · rw [wI_o _ (by decide)]; exact q s hs
    obtain ⟨⟨r, m2⟩, e2, r0, o1, o2, o3, o4, o5⟩ := key
    simp only at r0 o1 o2 o3 o4 o5
    have eM : Mo_keep 298 (nI k) (wI m1 193 k 1) = some (0, m2) := by
      unfold Mo_keep
      rw [in0 _ (nI k) (n := 3) (by decide) (by decide), bind_s, ite_b2, if_pos h, e2, r0]
    refine ⟨0, _, m2, eC, eM, W, ?_, ?_, ?_, I⟩
    · obtain ⟨⟨⟨L, l1, l2, l3⟩, tt⟩, ⟨f1, f2, f3⟩, ii, ss⟩ := p
      have u : ∀ a, (a < 70 ∨ 193 < a) → a ≠ 300 → a ≠ 301 → m2.1 a = m.1 a := fun a h1 h2 h3 => (o1 a h2 h3).trans (g1 a h1).1
      refine ⟨⟨⟨L, l1, by rw [u 2 (by omega) (by omega) (by omega), l2], by rw [u 298 (by omega) (by omega) (by omega), l3]⟩, fun j hj => by rw [u 3 (by omega) (by omega) (by omega), u 302 (by omega) (by omega) (by omega)]; exact tt j hj⟩, ⟨?_, ?_, ?_⟩, fun j hj => ?_, fun j hj => ?_⟩
      · rw [u 2 (by omega) (by omega) (by omega), u 298 (by omega) (by omega) (by omega), f1]
      · rw [u 2 (by omega) (by omega) (by omega), u 298 (by omega) (by omega) (by omega), f2]
      · rw [u 1 (by omega) (by omega) (by omega), u 298 (by omega) (by omega) (by omega), f3]
      · by_cases e : j = k
        · subst e
          refine ⟨?_, fun _ => ⟨W, o4, R1.eq I (fun a h1 h2 => ?_), I⟩⟩
          · rw [o1 193 (by omega) (by omega), wI_self, o3, if_pos rfl]
          · rw [o1 a (by omega) (by omega), wI_1 _ (by omega)]
        · refine (ii j hj).e2 hj ?_ ?_ (fun i hi => ?_) (fun a h1 h2 => ?_)
          · rw [o1 193 (by omega) (by omega), wI_at, if_neg e, F1.a (by omega)]
          · rw [o3, if_neg e]; exact congrFun (g1 301 (by omega)).1 j
          · rw [o5 _ (by omega)]; exact congrFun (g1 300 (by omega)).1 _
          · rw [o1 a (by omega) (by omega), wI_1 _ (by omega), (F1 a (by omega)).1]
      · refine (ss j hj).e (u _ (by omega) (by omega) (by omega)) (by rw [u 314 (by omega) (by omega) (by omega)]) (by rw [u 315 (by omega) (by omega) (by omega)]) ?_ (fun i _ => ?_)
        · rw [o2]; exact (g1 _ (by omega)).2
        · rw [o2]; exact congrFun (g1 316 (by omega)).2 _
    · exact w.e ((o1 299 (by omega) (by omega)).trans (g1 299 (by omega)).1)
    · exact c.eq I (fun a h1 h2 => (o1 a (by omega) (by omega)).trans (g1 a (by omega)).1)
  · refine ⟨-2, m, m, ?_, ?_, W, p, w, c, I⟩
    · unfold PL_keep
      rw [PL_imageAt_e, bind_s, if_neg h, if_pos rfl]
    · unfold Mo_keep
      rw [in0 _ x (n := 3) (by decide) (by decide), bind_s, ite_b2, if_neg h]
theorem st_back (x : Int32) : Same (PL_back 1 x) (Mo_back 298 x) := by
  rintro m ⟨W, p, w, c, I⟩
  by_cases h : inb x 3
  · obtain ⟨k, hk, rfl⟩ := in_of h (by decide)
    obtain ⟨i1, i2⟩ := p.2.2.1 k hk
    by_cases h0 : m.1 301 k = 0
    · refine ⟨-6, m, m, ?_, ?_, W, p, w, c, I⟩
      · unfold PL_back
        rw [PL_imageAt_e, bind_s, if_pos h, ix_nI (by omega), if_neg (by omega), gd_t (img_kd k hk), gd_t h, if_pos (show rI m (1 + 192) k = 0 from i1.trans h0)]
      · unfold Mo_back
        rw [in0 _ (nI k) (n := 3) (by decide) (by decide), bind_s, ite_b2, if_pos h, gd_t h, ix_nI (by omega), if_pos (show rI m (298 + 3) k = 0 from h0)]
    · obtain ⟨V, v1, R, J⟩ := i2 h0
      obtain ⟨m1, e1, R1, F1⟩ := Ca_copyFrom_e (c := 28) (d := 70 + 41 * k) (by omega) (by decide +kernel) R J
      have eC : PL_back 1 (nI k) m = some (0, m1) := by
        unfold PL_back
        rw [PL_imageAt_e, bind_s, if_pos h, ix_nI (by omega), if_neg (by omega), gd_t (img_kd k hk), gd_t h, if_neg (show ¬ rI m (1 + 192) k = 0 from fun z => h0 (i1.symm.trans z)), show Ca_copyFrom (1 + 27) (70 + 41 * k) m = _ from e1, bind_s]
      have key : Ok (loop (fun s : Int32 × Mem => Mo_back_l29 298 (nI k) s.1 s.2) (0, m1)) (fun r => r.1 = 0 ∧ Fp 299 300 m1 r.2 ∧ MW r.2 V) := by
        refine Ok_for 200 (fun i z => Fp 299 300 m1 z ∧ ∀ j, j < i → z.1 299 j = nI (V j)) ⟨Fp.refl, fun j hj => by omega⟩ (fun i z hi ⟨F, q⟩ => ?_) (fun z ⟨F, q⟩ => ?_)
        · show Ok (Mo_back_l29 298 (nI k) (nI i) z) _
          unfold Mo_back_l29
          rw [show (200 : Int32) * nI k + nI i = nI (200 * k + i) by rw [li 200, pk_mul, nI_add]]
          refine Ok_if (show ¬ (200 : Int32) ≤ nI i from nI_ge (b := 200) hi (by decide)) (Ok_gd (in_nI (by omega) (by decide)) (Ok_gd (in_nI hi (by decide)) (Ok_lt ?_)))
          rw [ix_nI (by omega), ix_nI (by omega)]
          refine Ok_s ⟨_, by rw [nI_1], F.trans (Fp.wI (by omega) (by omega) _ _), fun j hj => ?_⟩
          show (wI z 299 i (z.1 300 (200 * k + i))).1 299 j = _
          rw [wI_at]
          by_cases e : j = i
          · rw [if_pos e, e, F.a (by omega), F1.a (by omega), v1 i hi]
          · rw [if_neg e]; exact q j (by omega)
        · show Ok (Mo_back_l29 298 (nI k) (nI 200) z) _
          unfold Mo_back_l29
          refine Ok_it (show (200 : Int32) ≤ nI 200 by decide) ?_
          rw [up_some]
          exact Ok_s ⟨_, rfl, rfl, F, fun j hj => q j hj⟩
      obtain ⟨⟨r, m2⟩, e2, r0, F2, w2⟩ := key
      simp only at r0 F2 w2
      have eM : Mo_back 298 (nI k) m1 = some (0, m2) := by
        unfold Mo_back
        rw [in0 _ (nI k) (n := 3) (by decide) (by decide), bind_s, ite_b2, if_pos h, gd_t h, ix_nI (by omega), if_neg (show ¬ rI m1 (298 + 3) k = 0 from fun z => h0 (by rw [← z]; exact (F1.a (a := 301) (by omega) k).symm)), e2, r0]
      exact ⟨0, m1, m2, eC, eM, V, (p.fp F1 (by omega)).fp F2 (by omega), w2, R1.eq J (fun a h1 h2 => (F2 a (by omega)).1), J⟩
  · refine ⟨-2, m, m, ?_, ?_, W, p, w, c, I⟩
    · unfold PL_back
      rw [PL_imageAt_e, bind_s, if_neg h, if_pos rfl]
    · unfold Mo_back
      rw [in0 _ x (n := 3) (by decide) (by decide), bind_s, ite_b2, if_neg h]
/-! rows -/
/-- a slot's row told anew, the others as they were -/
theorem RR.slot {m m' : Mem} (h : RR m) {k : Nat} (hk : k < 4) (e1 : ∀ a, a ≠ 195 + 2 * k → a ≠ 314 → a ≠ 315 → m'.1 a = m.1 a) (e2 : ∀ a, a ≠ 196 + 2 * k → a ≠ 316 → a < 317 → m'.2 a = m.2 a) (e3 : ∀ j, j ≠ k → m'.1 314 j = m.1 314 j ∧ m'.1 315 j = m.1 315 j) (e4 : ∀ i, i < 60 * k ∨ 60 * k + 60 ≤ i → m'.2 316 i = m.2 316 i) (s : SR m' k) : RR m' := by
  obtain ⟨W, ⟨⟨⟨L, l1, l2, l3⟩, tt⟩, ⟨f1, f2, f3⟩, ii, ss⟩, w, c, I⟩ := h
  refine ⟨W, ⟨⟨⟨L, l1, by rw [e1 2 (by omega) (by omega) (by omega), l2], by rw [e1 298 (by omega) (by omega) (by omega), l3]⟩, fun j hj => by rw [e1 3 (by omega) (by omega) (by omega), e1 302 (by omega) (by omega) (by omega)]; exact tt j hj⟩, ⟨?_, ?_, ?_⟩, fun j hj => ?_, fun j hj => ?_⟩, w.e (e1 299 (by omega) (by omega) (by omega)), c.eq I (fun a h1 h2 => e1 a (by omega) (by omega) (by omega)), I⟩
  · rw [e1 2 (by omega) (by omega) (by omega), e1 298 (by omega) (by omega) (by omega), f1]
  · rw [e1 2 (by omega) (by omega) (by omega), e1 298 (by omega) (by omega) (by omega), f2]
  · rw [e1 1 (by omega) (by omega) (by omega), e1 298 (by omega) (by omega) (by omega), f3]
  · exact (ii j hj).e hj (by rw [e1 193 (by omega) (by omega) (by omega)]) (by rw [e1 301 (by omega) (by omega) (by omega)]) (e1 300 (by omega) (by omega) (by omega)) (fun a h1 h2 => e1 a (by omega) (by omega) (by omega))
  · by_cases e : j = k
    · rw [e]; exact s
    · exact (ss j hj).e (e1 _ (by omega) (by omega) (by omega)) (e3 j e).1 (e3 j e).2 (e2 _ (by omega) (by omega) (by omega)) (fun i hi => e4 _ (by omega))
theorem Ro_begin_e (m : Mem) {t n w : Nat} (hn : n ≤ 60) : Ok (Ro_begin t (nI w) (nI n) m) (fun x => (∀ a, a ≠ t → x.1 a = m.1 a) ∧ (∀ a, a ≠ t + 1 → x.2 a = m.2 a) ∧ x.1 t 1 = 1 ∧ x.1 t 2 = nI w ∧ x.1 t 3 = nI n ∧ ∀ i, i < 60 → x.2 (t + 1) i = 0) := by
  unfold Ro_begin
  refine Ok_lt (Ok_lt (Ok_lt ?_))
  have e : jmax 0 (jmin (nI n) 60) = nI n := by
    rw [show (60 : Int32) = nI 60 from rfl, jmin_nI (by omega) (by decide), show min n 60 = n by omega]
    have := jmax_nI (a := 0) (b := n) (by decide) (by omega)
    rwa [Nat.max_eq_right (by omega)] at this
  rw [e]
  refine Ok_for 60 (fun i x => (∀ a, a ≠ t → x.1 a = m.1 a) ∧ (∀ a, a ≠ t + 1 → x.2 a = m.2 a) ∧ x.1 t 1 = 1 ∧ x.1 t 2 = nI w ∧ x.1 t 3 = nI n ∧ ∀ j, j < i → x.2 (t + 1) j = 0) ⟨fun a ha => by rw [wI_1 _ ha, wI_1 _ ha, wI_1 _ ha], fun a ha => rfl, ?_, ?_, ?_, fun j hj => by omega⟩ (fun i x hi ⟨a, b, c, d, f, g⟩ => ?_) (fun x hx => ?_)
  · rw [wI_at, if_neg (by decide), wI_at, if_neg (by decide), wI_self]
  · rw [wI_at, if_neg (by decide), wI_self]
  · rw [wI_self]
  · show Ok (Ro_begin_l26 t (nI i) x) _
    unfold Ro_begin_l26
    refine Ok_if (show ¬ (60 : Int32) ≤ nI i from nI_ge (b := 60) hi (by decide)) (Ok_gd (in_nI hi (by decide)) (Ok_lt ?_))
    rw [ix_nI (by omega)]
    refine Ok_s ⟨wL x (t + 1) i 0, by rw [nI_1], a, fun z hz => by rw [wL_2 _ hz]; exact b z hz, c, d, f, fun j hj => ?_⟩
    rw [wL_at]
    by_cases q : j = i
    · rw [if_pos q]
    · rw [if_neg q]; exact g j (by omega)
  · show Ok (Ro_begin_l26 t (nI 60) x) _
    unfold Ro_begin_l26
    refine Ok_it (show (60 : Int32) ≤ nI 60 by decide) ?_
    rw [up_some]
    exact Ok_s ⟨_, rfl, hx⟩
theorem st_row (x y z : Int32) : Same (PL_row 1 x y z) (Mo_row 298 x y z) := by
  rintro m h
  by_cases hx : inb x 4
  · obtain ⟨k, hk, rfl⟩ := in_of hx (by decide)
    by_cases hy : inb y 4
    · obtain ⟨w, hw, rfl⟩ := in_of hy (by decide)
      by_cases hz : z ≤ 60
      · by_cases h0 : 0 ≤ z
        · obtain ⟨n, hn, rfl⟩ := nI_of (Int32.not_lt.mpr h0)
          have hn2 : n ≤ 60 := (nI_leI (b := 60) hn (by decide)).mp hz
          obtain ⟨m1, e1, o1, o2, c1, c2, c3, c4⟩ := Ro_begin_e m (t := 195 + 2 * k) (n := n) (w := w) hn2
          have eC : PL_row 1 (nI k) (nI w) (nI n) m = some (0, m1) := by
            unfold PL_row
            rw [PL_slotAt_e, bind_s, if_pos hx, ix_nI (by omega), if_neg (by omega), gd_t (slot_kd k hk), if_neg (nI_pos (by omega)), if_neg (show ¬ (4 : Int32) ≤ nI w from nI_ge (b := 4) hw (by decide)), if_pos hz, if_pos h0, e1, bind_s]
          have key : Ok (loop (fun s : Int32 × Mem => Mo_row_l52 298 (nI k) s.1 s.2) (0, wI (wI m1 314 k (nI n)) 315 k (nI w))) (fun r => r.1 = 0 ∧ r.2.1 = (wI (wI m1 314 k (nI n)) 315 k (nI w)).1 ∧ (∀ a, a ≠ 316 → r.2.2 a = m1.2 a) ∧ (∀ i, i < 60 → r.2.2 316 (60 * k + i) = 0) ∧ ∀ i, i < 60 * k ∨ 60 * k + 60 ≤ i → r.2.2 316 i = m1.2 316 i) := by
            refine Ok_for 60 (fun i u => u.1 = (wI (wI m1 314 k (nI n)) 315 k (nI w)).1 ∧ (∀ a, a ≠ 316 → u.2 a = m1.2 a) ∧ (∀ j, j < i → u.2 316 (60 * k + j) = 0) ∧ ∀ i, i < 60 * k ∨ 60 * k + 60 ≤ i → u.2 316 i = m1.2 316 i) ⟨rfl, fun _ _ => rfl, fun j hj => by omega, fun _ _ => rfl⟩ (fun i u hi ⟨a, b, c, d⟩ => ?_) (fun u hu => ?_)
            · show Ok (Mo_row_l52 298 (nI k) (nI i) u) _
              unfold Mo_row_l52
              rw [show (60 : Int32) * nI k + nI i = nI (60 * k + i) by rw [li 60, pk_mul, nI_add]]
              refine Ok_if (show ¬ (60 : Int32) ≤ nI i from nI_ge (b := 60) hi (by decide)) (Ok_gd (in_nI (by omega) (by decide)) (Ok_lt ?_))
              rw [ix_nI (by omega)]
              refine Ok_s ⟨wL u 316 (60 * k + i) 0, by rw [nI_1], a, fun s hs => by rw [wL_2 _ hs]; exact b s hs, fun j hj => ?_, fun j hj => ?_⟩
              · rw [wL_at]
                by_cases e : 60 * k + j = 60 * k + i
                · rw [if_pos e]
                · rw [if_neg e]; exact c j (by omega)
              · rw [wL_at, if_neg (by omega)]; exact d j hj
            · show Ok (Mo_row_l52 298 (nI k) (nI 60) u) _
              unfold Mo_row_l52
              refine Ok_it (show (60 : Int32) ≤ nI 60 by decide) ?_
              rw [up_some]
              exact Ok_s ⟨_, rfl, rfl, hu⟩
          obtain ⟨⟨r, m2⟩, e2, r0, p1, p2, p3, p4⟩ := key
          simp only at r0 p1 p2 p3 p4
          have eM : Mo_row 298 (nI k) (nI w) (nI n) m1 = some (0, m2) := by
            unfold Mo_row
            rw [Mo_isSlot_e, bind_s, ite_b2, if_pos hx, in0 _ (nI w) (n := 4) (by decide) (by decide), bind_s, ite_b2, if_pos hy, if_pos hz, if_pos h0, gd_t hx]
            show gd _ _ = _
            rw [gd_t hx, ix_nI (by omega)]
            show loop _ _ = _
            rw [e2, r0]
          refine ⟨0, m1, m2, eC, eM, h.slot hk (fun a a1 a2 a3 => ?_) (fun a a1 a2 a3 => ?_) (fun j hj => ?_) (fun i hi => ?_) (Or.inr ⟨?_, n, w, hn2, hw, ?_, ?_, ?_, ?_, fun i hi => ?_⟩)⟩
          · rw [p1, wI_1 _ a3, wI_1 _ a2, o1 a a1]
          · rw [p2 a a2, o2 a (by omega)]
          · rw [p1, wI_o _ (by omega), wI_at, if_neg hj, wI_at, if_neg hj, wI_o _ (by omega), o1 _ (by omega), o1 _ (by omega)]
            exact ⟨rfl, rfl⟩
          · rw [p4 i hi, o2 _ (by omega)]
          · rw [p1, wI_o _ (by omega), wI_o _ (by omega), c1]
          · rw [p1, wI_o _ (by omega), wI_o _ (by omega), c3]
          · rw [p1, wI_o _ (by omega), wI_self]
          · rw [p1, wI_o _ (by omega), wI_o _ (by omega), c2]
          · rw [p1, wI_self]
          · rw [p3 i hi, p2 _ (by omega), show 196 + 2 * k = 195 + 2 * k + 1 by omega, c4 i hi]
        · refine ⟨-3, m, m, ?_, ?_, h⟩
          · unfold PL_row
            rw [PL_slotAt_e, bind_s, if_pos hx, ix_nI (by omega), if_neg (by omega), gd_t (slot_kd k hk), if_neg (nI_pos (by omega)), if_neg (show ¬ (4 : Int32) ≤ nI w from nI_ge (b := 4) hw (by decide)), if_pos hz, if_neg h0]
          · unfold Mo_row
            rw [Mo_isSlot_e, bind_s, ite_b2, if_pos hx, in0 _ (nI w) (n := 4) (by decide) (by decide), bind_s, ite_b2, if_pos hy, if_pos hz, if_neg h0]
      · refine ⟨-2, m, m, ?_, ?_, h⟩
        · unfold PL_row
          rw [PL_slotAt_e, bind_s, if_pos hx, ix_nI (by omega), if_neg (by omega), gd_t (slot_kd k hk), if_neg (nI_pos (by omega)), if_neg (show ¬ (4 : Int32) ≤ nI w from nI_ge (b := 4) hw (by decide)), if_neg hz]
        · unfold Mo_row
          rw [Mo_isSlot_e, bind_s, ite_b2, if_pos hx, in0 _ (nI w) (n := 4) (by decide) (by decide), bind_s, ite_b2, if_pos hy, if_neg hz]
    · refine ⟨-2, m, m, ?_, ?_, h⟩
      · unfold PL_row
        rw [PL_slotAt_e, bind_s, if_pos hx, ix_nI (by omega), if_neg (by omega), gd_t (slot_kd k hk)]
        rcases rng y (n := 4) (by decide) with ⟨a, b⟩ | ⟨a, b, c⟩ | ⟨j, hj, rfl⟩
        · rw [if_pos a]
        · rw [if_neg a, if_pos (show (4 : Int32) ≤ y from b)]
        · exact absurd (in_nI hj (by decide)) hy
      · unfold Mo_row
        rw [Mo_isSlot_e, bind_s, ite_b2, if_pos hx, in0 _ y (n := 4) (by decide) (by decide), bind_s, ite_b2, if_neg hy]
  · refine ⟨-2, m, m, ?_, ?_, h⟩
    · unfold PL_row
      rw [PL_slotAt_e, bind_s, if_neg hx, if_pos rfl]
    · unfold Mo_row
      rw [Mo_isSlot_e, bind_s, ite_b2, if_neg hx]
/-! cut to a width -/
theorem cut_g (v y : Int64) (k : Nat) (hy : (y.toBitVec.smod 64).toNat = k) : ((v <<< y) >>> y).toInt = (v.toBitVec.toNat <<< k : Int).bmod (2 ^ 64) / (2 : Int) ^ k := by
  show (BitVec.sshiftRight' (v.toBitVec <<< (y.toBitVec.smod 64)) (y.toBitVec.smod 64)).toInt = _
  rw [BitVec.toInt_sshiftRight', BitVec.shiftLeft_eq', hy, BitVec.toInt_shiftLeft, Int.shiftRight_eq_div_pow]
  norm_cast
theorem cut_n (v : Int64) : v.toInt = if 2 * v.toBitVec.toNat < 18446744073709551616 then (v.toBitVec.toNat : Int) else (v.toBitVec.toNat : Int) - 18446744073709551616 := BitVec.toInt_eq_toNat_cond v.toBitVec
theorem cut_0 (v y : Int64) (hy : (y.toBitVec.smod 64).toNat = 56) : (v <<< y) >>> y = v.toInt32.toInt8.toInt32.toInt64 := by
  apply Int64.toInt_inj.mp
  rw [cut_g v y 56 hy, Int32.toInt_toInt64, Int8.toInt_toInt32, Int32.toInt_toInt8, Int64.toInt_toInt32, cut_n]
  have := v.toBitVec.isLt
  rw [Nat.shiftLeft_eq]
  simp only [Int.bmod, Nat.reducePow, Int.reducePow]
  split <;> split <;> split <;> split <;> omega
theorem cut_1 (v y : Int64) (hy : (y.toBitVec.smod 64).toNat = 48) : (v <<< y) >>> y = v.toInt32.toInt16.toInt32.toInt64 := by
  apply Int64.toInt_inj.mp
  rw [cut_g v y 48 hy, Int32.toInt_toInt64, Int16.toInt_toInt32, Int32.toInt_toInt16, Int64.toInt_toInt32, cut_n]
  have := v.toBitVec.isLt
  rw [Nat.shiftLeft_eq]
  simp only [Int.bmod, Nat.reducePow, Int.reducePow]
  split <;> split <;> split <;> split <;> omega
theorem cut_2 (v y : Int64) (hy : (y.toBitVec.smod 64).toNat = 32) : (v <<< y) >>> y = v.toInt32.toInt64 := by
  apply Int64.toInt_inj.mp
  rw [cut_g v y 32 hy, Int32.toInt_toInt64, Int64.toInt_toInt32, cut_n]
  have := v.toBitVec.isLt
  rw [Nat.shiftLeft_eq]
  simp only [Int.bmod, Nat.reducePow, Int.reducePow]
  split <;> split <;> split <;> omega
theorem cut_3 (v y : Int64) (hy : (y.toBitVec.smod 64).toNat = 0) : (v <<< y) >>> y = v := by
  apply Int64.toInt_inj.mp
  rw [cut_g v y 0 hy, cut_n]
  have := v.toBitVec.isLt
  rw [Nat.shiftLeft_eq]
  simp only [Int.bmod, Nat.reducePow, Int.reducePow]
  split <;> split <;> omega
def cutV (w : Nat) (v : Int64) : Int64 := if w = 0 then v.toInt32.toInt8.toInt32.toInt64 else if w = 1 then v.toInt32.toInt16.toInt32.toInt64 else if w = 2 then v.toInt32.toInt64 else v
theorem Ro_cut_e {m : Mem} {t w : Nat} (h : m.1 t 2 = nI w) (hw : w < 4) (v : Int64) : Ro_cut t v m = some (cutV w v) := by
  unfold Ro_cut cutV
  rw [show rI m t 2 = nI w from h]
  have : w = 0 ∨ w = 1 ∨ w = 2 ∨ w = 3 := by omega
  rcases this with rfl | rfl | rfl | rfl <;> rfl
theorem Mo_cut_e (m : Mem) {w : Nat} (hw : w < 4) (v : Int64) : Mo_cut v (nI w) m = some (cutV w v) := by
  unfold Mo_cut cutV
  have : w = 0 ∨ w = 1 ∨ w = 2 ∨ w = 3 := by omega
  rcases this with rfl | rfl | rfl | rfl
  · exact congrArg some (cut_0 v _ (by decide))
  · exact congrArg some (cut_1 v _ (by decide))
  · exact congrArg some (cut_2 v _ (by decide))
  · exact congrArg some (cut_3 v _ (by decide))
theorem Ro_has_e {m : Mem} {t n : Nat} (h3 : m.1 t 3 = nI n) (hn : n ≤ 60) (x : Int32) : Ro_hasNumbers t x 1 m = some (b2 (inb x n)) := by
  unfold Ro_hasNumbers
  rw [show rI m t 3 = nI n from h3]
  rcases rng x (n := n) (by omega) with ⟨a, b⟩ | ⟨a, b, c⟩ | ⟨j, hj, rfl⟩
  · rw [if_pos a, b2_f b]
  · rw [if_neg a, if_neg (by decide), b2_f c]
    by_cases e : nI n < x
    · rw [if_pos e]
    · have : x = nI n := Int32.le_antisymm (Int32.not_lt.mp e) b
      rw [if_neg e, this, pk_sub (Nat.le_refl _), Nat.sub_self, if_pos (by decide)]
  · rw [if_neg (nI_pos (by omega)), if_neg (by decide), if_neg (nI_nlt (by omega) (by omega)), pk_sub (by omega), if_neg (show ¬ nI (n - j) < 1 from nI_nlt (b := 1) (by omega) (by omega)), b2_t (in_nI hj (by omega))]
theorem st_write (x y : Int32) (v : Int64) : Same (PL_write 1 x y v) (Mo_write 298 x y v) := by
  rintro m h
  by_cases hx : inb x 4
  · obtain ⟨k, hk, rfl⟩ := in_of hx (by decide)
    have hS : SR m k := by obtain ⟨W, p, -⟩ := h; exact p.2.2.2 k hk
    rcases hS with ⟨e1, e2⟩ | ⟨e1, n, w, n1, n2, n3, n4, n5, n6, n7⟩
    · refine ⟨-6, m, m, ?_, ?_, h⟩
      · unfold PL_write
        rw [PL_slotAt_e, bind_s, if_pos hx, ix_nI (by omega), if_neg (by omega), gd_t (slot_kd k hk), if_pos (show rI m (195 + 2 * k) 1 = 0 from e1)]
      · unfold Mo_write
        rw [Mo_isSlot_e, bind_s, ite_b2, if_pos hx, gd_t hx, ix_nI (by omega), if_pos (show rI m (298 + 16) k = -1 from e2)]
    · have hC : PL_write 1 (nI k) y v m = if inb y n then some (0, wL m (195 + 2 * k + 1) (ix y) (cutV w v)) else some (-7, m) := by
        unfold PL_write
        rw [PL_slotAt_e, bind_s, if_pos hx, ix_nI (by omega), if_neg (by omega), gd_t (slot_kd k hk), show rI m (195 + 2 * k) 1 = 1 from e1, if_neg (by decide), Ro_has_e n3 n1, bind_s, ite_b2]
        by_cases hy : inb y n
        · rw [if_pos hy, if_pos hy]
          unfold Ro_putNumber
          rw [Ro_has_e n3 n1, bind_s, ite_b2, if_pos hy, Ro_cut_e n5 n2, bind_s]
          obtain ⟨j, hj, rfl⟩ := in_of hy (by omega)
          rw [gd_t (in_nI (by omega) (by decide))]
          rfl
        · rw [if_neg hy, if_neg hy]
      have hM : ∀ z : Mem, z.1 = m.1 → Mo_write 298 (nI k) y v z = if inb y n then some (0, wL z 316 (60 * k + ix y) (cutV w v)) else some (-7, z) := by
        intro z hz
        unfold Mo_write
        rw [Mo_isSlot_e, bind_s, ite_b2, if_pos hx, gd_t hx, ix_nI (by omega), show rI z (298 + 16) k = nI n by show z.1 314 k = _; rw [hz, n4], if_neg (neg1 (by omega)), gd_t hx, in0 _ y (n := n) (by omega) rfl, bind_s, ite_b2]
        by_cases hy : inb y n
        · rw [if_pos hy, if_pos hy, gd_t hx, show rI z (298 + 17) k = nI w by show z.1 315 k = _; rw [hz, n6], Mo_cut_e z n2, bind_s]
          obtain ⟨j, hj, rfl⟩ := in_of hy (by omega)
          rw [show (60 : Int32) * nI k + nI j = nI (60 * k + j) by rw [li 60, pk_mul, nI_add], gd_t (in_nI (by omega) (by decide)), ix_nI (by omega), ix_nI (by omega)]
          rfl
        · rw [if_neg hy, if_neg hy]
      by_cases hy : inb y n
      · obtain ⟨j, hj, rfl⟩ := in_of hy (by omega)
        rw [if_pos hy, ix_nI (by omega)] at hC
        have hM2 := hM (wL m (195 + 2 * k + 1) j (cutV w v)) rfl
        rw [if_pos hy, ix_nI (by omega)] at hM2
        refine ⟨0, _, _, hC, hM2, h.slot hk (fun a _ _ _ => rfl) (fun a a1 a2 _ => ?_) (fun _ _ => ⟨rfl, rfl⟩) (fun i hi => ?_) (Or.inr ⟨e1, n, w, n1, n2, n3, n4, n5, n6, fun i hi => ?_⟩)⟩
        · rw [wL_2 _ a2, wL_2 _ (by omega)]
        · rw [wL_at, if_neg (by omega), wL_o _ (by omega)]
        · rw [show 196 + 2 * k = 195 + 2 * k + 1 by omega, wL_o _ (by omega), wL_at, wL_at]
          by_cases e : i = j
          · rw [if_pos e, if_pos (by omega)]
          · rw [if_neg e, if_neg (by omega), wL_o _ (by omega), ← n7 i hi, show 195 + 2 * k + 1 = 196 + 2 * k by omega]
      · rw [if_neg hy] at hC
        have hM2 := hM m rfl
        rw [if_neg hy] at hM2
        exact ⟨-7, m, m, hC, hM2, h⟩
  · refine ⟨-2, m, m, ?_, ?_, h⟩
    · unfold PL_write
      rw [PL_slotAt_e, bind_s, if_neg hx, if_pos rfl]
    · unfold Mo_write
      rw [Mo_isSlot_e, bind_s, ite_b2, if_neg hx]
end IMG

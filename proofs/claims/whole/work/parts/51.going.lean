/-! alive, go, leave -/
section GOING
variable {m : Mem} {c t : Nat} {W : Wd}
def bkN (W : Wd) (f : Nat) : Nat := if f = 0 then W 16 else wot W (f - 1) 2
def bkL (W : Wd) (f : Nat) : Int64 := (10000 - nI (bkN W f)).toInt64
def crL (W : Wd) : Int64 := (10000 - nI (W 17)).toInt64
abbrev GoT : Type := Nat → Nat → Int64
def wgL (W : Wd) (N : GoT) (on to s : Nat) : Int64 := if to = on then N to s * bkL W to / 10000 else N to s * bkL W to / 10000 * crL W / 10000
def bfN (W : Wd) (N : GoT) (on s : Nat) : Nat → Nat × Int64
  | 0 => (on, wgL W N on on s)
  | k + 1 => if k + 1 = on then bfN W N on s k else if s.testBit k = true then if (bfN W N on s k).2 < wgL W N on (k + 1) s then (k + 1, wgL W N on (k + 1) s) else bfN W N on s k else bfN W N on s k
def evL (W : Wd) (N : GoT) (on s : Nat) : Int64 := wgL W N on (bfN W N on s (W 7)).1 s
def mixL (W : Wd) (day o : Nat) (f : Nat → Int64) : Nat → Int64 := fun s => if day < wot W o 0 then f s else if s.testBit o = true then f s else (lN (wot W o 1) * f (s ||| 2 ^ o) + lN (100 - wot W o 1) * f s) / 100
def mxL (W : Wd) (day : Nat) (f : Nat → Int64) : Nat → Nat → Int64
  | 0 => f
  | j + 1 => mixL W day (W 7 - 1 - j) (mxL W day f j)
def dyM (W : Wd) (N : GoT) (day : Nat) : GoT := fun on => mxL W day (evL W N on) (W 7)
def mrM (W : Wd) : Nat → GoT
  | 0 => fun _ _ => 1000000000000
  | j + 1 => dyM W (mrM W j) (W 4 - j)
theorem bf_le (W : Wd) (N : GoT) {on s n : Nat} (h : on ≤ n) : ∀ k, k ≤ n → (bfN W N on s k).1 ≤ n
  | 0, _ => h
  | k + 1, hk => by
    have := bf_le W N (s := s) h k (by omega)
    unfold bfN
    split
    · exact this
    · split
      · split
        · exact hk
        · exact this
      · exact this
theorem bf_bit (W : Wd) (N : GoT) (on s : Nat) : ∀ k, (bfN W N on s k).1 = on ∨ (0 < (bfN W N on s k).1 ∧ s.testBit ((bfN W N on s k).1 - 1) = true)
  | 0 => Or.inl rfl
  | k + 1 => by
    have := bf_bit W N on s k
    unfold bfN
    split
    · exact this
    · split
      · rename_i q
        split
        · exact Or.inr ⟨Nat.succ_pos _, q⟩
        · exact this
      · exact this
theorem mix_e {o : Nat} (h : o ≤ 100) : (100 : Int64) - (nI o).toInt64 = lN (100 - o) ∧ ((100 : Int32) - nI o).toInt64 = lN (100 - o) := by
  constructor
  · rw [nI_l (by omega), show (100 : Int64) = lN 100 from rfl, lN_sub h]
  · rw [show (100 : Int32) - nI o = nI (100 - o) from pk_sub (a := 100) h, nI_l (by omega)]
theorem lt_or {s o : Nat} (h : ¬ s.testBit o = true) : s < s ||| 2 ^ o := by
  have h1 : s ≤ s ||| 2 ^ o := Nat.left_le_or
  have h2 : s ||| 2 ^ o ≠ s := fun z => h (or_is.mp z)
  omega
theorem Go_begin_e : Ok (Go_begin t m) (fun x => (∀ on s, on < 5 → s < 16 → x.2 (t + 2 + on) s = 1000000000000) ∧ Fp (t + 2) (t + 7) m x) := by
  unfold Go_begin
  refine Ok_for 5 (fun i x => (∀ on s, on < i → s < 16 → x.2 (t + 2 + on) s = 1000000000000) ∧ Fp (t + 2) (t + 7) m x) ⟨fun on s h => by omega, Fp.refl⟩ (fun i x hi ⟨a, F⟩ => ?_) (fun x ⟨a, F⟩ => ?_)
  · show Ok (Go_begin_l2 t (nI i) x) _
    unfold Go_begin_l2
    refine Ok_if (show ¬ (4 : Int32) < nI i from nI_nlt (a := 4) (by omega) (by decide)) ?_
    refine Ok_for 16 (fun j y => (∀ on s, on < i → s < 16 → y.2 (t + 2 + on) s = 1000000000000) ∧ (∀ s, s < j → y.2 (t + 2 + i) s = 1000000000000) ∧ Fp (t + 2) (t + 7) m y) ⟨a, fun s h => by omega, F⟩ (fun j y hj ⟨p, q, G⟩ => ?_) (fun y ⟨p, q, G⟩ => ?_)
    · show Ok (Go_begin_l9 t (nI i) (nI j) y) _
      unfold Go_begin_l9
      refine Ok_if (show ¬ (16 : Int32) ≤ nI j from nI_ge (b := 16) hj (by decide)) (Ok_gd (in_nI hi (by decide)) (Ok_gd (in_nI hj (by decide)) (Ok_lt ?_)))
      rw [ix_nI (by omega), ix_nI (by omega), show t + 1 + (1 + i) = t + 2 + i by omega]
      refine Ok_s ⟨_, by rw [nI_1], fun on s h1 h2 => ?_, fun s hs => ?_, G.trans (Fp.wL (by omega) (by omega) _ _)⟩
      · rw [wL_o _ (by omega)]; exact p on s h1 h2
      · rw [wL_at]
        by_cases e : s = j
        · rw [if_pos e]
        · rw [if_neg e]; exact q s (by omega)
    · show Ok (Go_begin_l9 t (nI i) (nI 16) y) _
      unfold Go_begin_l9
      refine Ok_it (show (16 : Int32) ≤ nI 16 by decide) ?_
      rw [up_some]
      refine Ok_s ⟨_, rfl, y, by rw [nI_1], fun on s h1 h2 => ?_, G⟩
      by_cases e : on = i
      · rw [e]; exact q s h2
      · exact p on s (by omega) h2
  · show Ok (Go_begin_l2 t (nI 5) x) _
    unfold Go_begin_l2
    refine Ok_it (show (4 : Int32) < nI 5 by decide) ?_
    rw [up_some]
    exact Ok_s ⟨_, rfl, a, F⟩
theorem Go_worthOf_e (m : Mem) {on s : Nat} (h : on < 5) (hs : s < 16) : Go_worthOf t (nI on) (nI s) m = some (m.2 (t + 2 + on) s) := by
  unfold Go_worthOf
  rw [if_neg (nI_pos (by omega)), if_neg (show ¬ Int32.ofNat 5 ≤ nI on from nI_ge h (by decide)), if_neg (nI_pos (by omega)), gd_in h (by decide), if_pos (show nI s < Int32.ofNat 16 from nI_lt hs (by decide)), gd_in h (by decide), gd_in hs (by decide), ix_nI (by omega), ix_nI (by omega), show t + 1 + (1 + on) = t + 2 + on by omega]
/-- worth as the class has it -/
def GoR (m : Mem) (t : Nat) (W : Wd) (N : GoT) : Prop := ∀ on s, on ≤ W 7 → s < 2 ^ W 7 → m.2 (t + 2 + on) s = N on s
theorem p16 (I : Inv W) : 2 ^ W 7 ≤ 16 := by
  have := p2le (k := W 7) (n := 4) I.d.2.2.2.2.2.2
  have h : (2 : Nat) ^ 4 = 16 := by decide
  omega
theorem Go_worthOfGoing_e {N : GoT} (R : CR m c W) (I : Inv W) (G : GoR m t W N) {on to s : Nat} (h1 : on ≤ W 7) (h2 : to ≤ W 7) (hs : s < 2 ^ W 7) : Go_worthOfGoing t (c + 1) (nI on) (nI to) (nI s) m = some (wgL W N on to s) := by
  have d := I.d
  have := p16 I
  have key : ∀ k, k = bkN W to → Go_worthOfGoing_b22 t (c + 1) (nI on) (nI to) (nI s) (nI k) m = some (wgL W N on to s) := by
    intro k hk
    unfold Go_worthOfGoing_b22 wgL
    rw [Go_worthOf_e m (by omega) (by omega), bind_s, G to s h2 hs, cf14 R, hk]
    by_cases e : to = on
    · rw [if_pos (congrArg nI e), if_pos e]; rfl
    · rw [if_neg (fun z => e ((nI_eq (by omega) (by omega)).mp z)), if_neg e]; rfl
  unfold Go_worthOfGoing
  by_cases e : to = 0
  · rw [if_pos (by rw [e]; rfl), cf13 R]
    exact key _ (if_pos e).symm
  · rw [if_neg (nI_ne0 (by omega) (by omega)), nI_p1 (by omega), tO2 R I (by omega), bind_s]
    exact key _ (if_neg e).symm
theorem Go_isNear_e (m : Mem) {k s : Nat} (hs : s < 2147483648) (hk : k < 31) : Go_isNear (nI (k + 1)) (nI s) m = some (b2 (s.testBit k = true)) := by
  unfold Go_isNear
  rw [if_neg (nI_nle (by omega) (by omega)), nI_pred]
  by_cases h : s.testBit k = true
  · rw [if_pos ((bit_c hs (by omega)).mpr h), b2_t h]
  · rw [if_neg (fun z => h ((bit_c hs (by omega)).mp z)), b2_f h]
theorem Go_bestFrom_e {N : GoT} (R : CR m c W) (I : Inv W) (G : GoR m t W N) {on s : Nat} (h1 : on ≤ W 7) (hs : s < 2 ^ W 7) : Go_bestFrom t (c + 1) (nI on) (nI s) m = some (nI (bfN W N on s (W 7)).1) := by
  have d := I.d
  have := p16 I
  unfold Go_bestFrom
  rw [Go_worthOfGoing_e R I G h1 h1 hs, bind_s]
  refine loop_cnt (W 7) (fun k => (nI (bfN W N on s k).1, (bfN W N on s k).2, nI (k + 1))) rfl (fun k hk => ?_) ?_
  · show Go_bestFrom_l16 t (c + 1) (nI on) (nI s) (nI (bfN W N on s k).1) (bfN W N on s k).2 (nI (k + 1)) m = _
    unfold Go_bestFrom_l16 Go_bestFrom_b73
    rw [cnO R, if_neg (nI_nlt (by omega) (by omega)), Go_isNear_e m (by omega) (by omega), bind_s, ite_b2, Go_worthOfGoing_e R I G h1 (show k + 1 ≤ W 7 by omega) hs, bind_s, bind_s, nI_1]
    show _ = some (Sum.inl (nI (if k + 1 = on then bfN W N on s k else if s.testBit k = true then if (bfN W N on s k).2 < wgL W N on (k + 1) s then (k + 1, wgL W N on (k + 1) s) else bfN W N on s k else bfN W N on s k).1, (if k + 1 = on then bfN W N on s k else if s.testBit k = true then if (bfN W N on s k).2 < wgL W N on (k + 1) s then (k + 1, wgL W N on (k + 1) s) else bfN W N on s k else bfN W N on s k).2, nI (k + 1 + 1)))
    by_cases e : k + 1 = on
    · rw [if_pos (congrArg nI e)]
      simp only [if_pos e]
    · rw [if_neg (fun z => e ((nI_eq (by omega) (by omega)).mp z))]
      simp only [if_neg e]
      by_cases q : s.testBit k = true
      · simp only [if_pos q]
        by_cases w : (bfN W N on s k).2 < wgL W N on (k + 1) s
        · rw [if_neg (Int64.not_le.mpr w)]
          simp only [if_pos w]
        · rw [if_pos (Int64.not_lt.mp w)]
          simp only [if_neg w]
      · simp only [if_neg q]
  · show Go_bestFrom_l16 t (c + 1) (nI on) (nI s) (nI (bfN W N on s (W 7)).1) (bfN W N on s (W 7)).2 (nI (W 7 + 1)) m = _
    unfold Go_bestFrom_l16
    rw [cnO R, if_pos (nI_lt (by omega) (by omega)), up_some]
theorem Go_mixComing_e (I : Inv W) {on o : Nat} (hon : on < 5) (ho : o < W 7) {f : Nat → Int64} (h : ∀ s, s < 2 ^ W 7 → m.2 (t + 8 + on) s = f s) {day : Nat} (hd : ¬ day < wot W o 0) : Ok (Go_mixComing t (nI on) (nI o) (nI (wot W o 1)).toInt64 m) (fun x => (∀ s, s < 2 ^ W 7 → x.2 (t + 8 + on) s = mixL W day o f s) ∧ Fp (t + 8 + on) (t + 9 + on) m x) := by
  have d := I.d
  have p := p16 I
  obtain ⟨-, -, o1, -⟩ := I.O ho
  unfold Go_mixComing
  refine Ok_if (nI_pos (by omega)) (Ok_it (show nI on < nI 5 from nI_lt hon (by decide)) ?_)
  refine Ok_for 16 (fun i x => (∀ s, s < 2 ^ W 7 → x.2 (t + 8 + on) s = if s < i then mixL W day o f s else f s) ∧ Fp (t + 8 + on) (t + 9 + on) m x) ⟨fun s hs => by rw [if_neg (by omega), h s hs], Fp.refl⟩ (fun i x hi ⟨a, F⟩ => ?_) (fun x ⟨a, F⟩ => ?_)
  · have ht : i ||| 2 ^ o < 16 := Nat.or_lt_two_pow (n := 4) hi (Nat.pow_lt_pow_right (by decide) (by omega))
    show Ok (Go_mixComing_l17 t (nI on) (nI o) (nI (wot W o 1)).toInt64 (nI i) x) _
    unfold Go_mixComing_l17 Go_mixComing_b96
    rw [shl1 (by omega), nI_or, (mix_e o1).1, nI_l (show wot W o 1 < 2147483648 by omega), nI_1]
    refine Ok_gd (in_nI hon (by decide)) (Ok_if (show ¬ nI 16 ≤ nI i from nI_ge hi (by decide)) ?_)
    by_cases q : i.testBit o = true
    · refine Ok_it (by rw [or_is.mpr q]) (Ok_s ⟨x, rfl, fun s hs => ?_, F⟩)
      rw [a s hs]
      by_cases e : s = i
      · rw [if_neg (by omega), if_pos (by omega), e]
        unfold mixL
        rw [if_neg hd, if_pos q]
      · by_cases e2 : s < i
        · rw [if_pos e2, if_pos (by omega)]
        · rw [if_neg e2, if_neg (by omega)]
    · have gt := lt_or q
      refine Ok_if (fun z => q (or_is.mp ((nI_eq (by omega) (by omega)).mp z))) (Ok_gd (in_nI hon (by decide)) (Ok_if (show ¬ nI 16 ≤ nI (i ||| 2 ^ o) from nI_ge ht (by decide)) (Ok_gd (in_nI hon (by decide)) (Ok_gd (in_nI hon (by decide)) (Ok_gd (in_nI ht (by decide)) (Ok_gd (in_nI hon (by decide)) (Ok_gd (in_nI hi (by decide)) (Ok_gd (in_nI hi (by decide)) (Ok_lt ?_)))))))))
      rw [ix_nI (by omega), ix_nI (by omega), ix_nI (by omega), show t + 7 + (1 + on) = t + 8 + on by omega]
      refine Ok_s ⟨_, rfl, fun s hs => ?_, F.trans (Fp.wL (by omega) (by omega) _ _)⟩
      rw [wL_at]
      by_cases e : s = i
      · have ht2 := or_lt (s := i) (k := o) (n := W 7) (by omega) ho
        rw [if_pos e, e, if_pos (by omega), show rL x (t + 8 + on) (i ||| 2 ^ o) = f (i ||| 2 ^ o) by rw [show rL x (t + 8 + on) (i ||| 2 ^ o) = _ from a _ ht2, if_neg (by omega)], show rL x (t + 8 + on) i = f i by rw [show rL x (t + 8 + on) i = _ from a i (by omega), if_neg (by omega)]]
        unfold mixL
        rw [if_neg hd, if_neg q]
      · rw [if_neg e, a s hs]
        by_cases e2 : s < i
        · rw [if_pos e2, if_pos (by omega)]
        · rw [if_neg e2, if_neg (by omega)]
  · show Ok (Go_mixComing_l17 t (nI on) (nI o) (nI (wot W o 1)).toInt64 (nI 16) x) _
    unfold Go_mixComing_l17
    refine Ok_gd (in_nI hon (by decide)) ?_
    rw [if_pos (show Int32.ofNat 16 ≤ nI 16 by decide), up_some]
    exact Ok_s ⟨_, rfl, fun s hs => by rw [a s hs, if_pos (by omega)], F⟩
theorem Go_day71 (R : CR m c W) (I : Inv W) (hc : c + 40 ≤ t) {on day : Nat} (hon : on ≤ W 7) (hday : day ≤ 60) {f : Nat → Int64} (h : ∀ s, s < 2 ^ W 7 → m.2 (t + 8 + on) s = f s) : Ok (loop (fun s : Int32 × Mem => Go_workDay_l71 t (c + 1) (nI day) (nI (W 7)) (nI on) s.1 s.2) (nI (W 7) - 1, m)) (fun r => ∃ x, r = Sum.inl (nI (on + 1), x) ∧ (∀ s, s < 2 ^ W 7 → x.2 (t + 8 + on) s = mxL W day f (W 7) s) ∧ Fp (t + 8 + on) (t + 9 + on) m x) := by
  have d := I.d
  refine Ok_loop (W 7) (fun j x => (nI (W 7 - j) - 1, x)) (fun j x => (∀ s, s < 2 ^ W 7 → x.2 (t + 8 + on) s = mxL W day f j s) ∧ Fp (t + 8 + on) (t + 9 + on) m x) m rfl ⟨h, Fp.refl⟩ (fun j x hj ⟨a, F⟩ => ?_) (fun x ⟨a, F⟩ => ?_)
  · have Rx := R.fp I F (by omega)
    obtain ⟨oo, o0, o1, -⟩ := I.O (show W 7 - 1 - j < W 7 by omega)
    have e1 : nI (W 7 - j) - 1 = nI (W 7 - 1 - j) := by rw [nI_p1 (by omega), show W 7 - j - 1 = W 7 - 1 - j by omega]
    have e2 : nI (W 7 - 1 - j) + -1 = nI (W 7 - (j + 1)) - 1 := by rw [Int32.sub_eq_add_neg, show W 7 - 1 - j = W 7 - (j + 1) by omega]
    show Ok (Go_workDay_l71 t (c + 1) (nI day) (nI (W 7)) (nI on) (nI (W 7 - j) - 1) x) _
    unfold Go_workDay_l71 Go_workDay_b109
    rw [e1, e2]
    refine Ok_if (nI_pos (by omega)) (Ok_b (tO0 Rx I (by omega)) ?_)
    by_cases q : day < wot W (W 7 - 1 - j) 0
    · refine Ok_it (nI_lt q (by omega)) (Ok_s ⟨x, rfl, fun s hs => ?_, F⟩)
      rw [a s hs]
      exact (if_pos q).symm
    · refine Ok_if (nI_nlt (by omega) (by omega)) (Ok_b (tO1 Rx I (by omega)) (Ok_bind (Go_mixComing_e I (by omega) (by omega) a q) (fun y ⟨b, F2⟩ => Ok_s ⟨y, rfl, b, F.trans F2⟩)))
  · show Ok (Go_workDay_l71 t (c + 1) (nI day) (nI (W 7)) (nI on) (nI (W 7 - W 7) - 1) x) _
    unfold Go_workDay_l71
    rw [Nat.sub_self]
    refine Ok_it (by decide) ?_
    rw [up_some, nI_1]
    exact Ok_s ⟨_, rfl, x, rfl, a, F⟩
theorem Go_workDay_e {N : GoT} (R : CR m c W) (I : Inv W) (hc : c + 40 ≤ t) (G : GoR m t W N) {day : Nat} (hday : day ≤ 60) : Ok (Go_workDay t (c + 1) (nI day) m) (fun x => GoR x t W (dyM W N day) ∧ Fp (t + 2) (t + 13) m x) := by
  have d := I.d
  have p := p16 I
  unfold Go_workDay
  have e0 : jmin (rI m (c + 1 + 18) 1) 4 = nI (W 7) := by
    rw [cnO R, show (4 : Int32) = nI 4 from rfl, jmin_nI (by omega) (by decide), show min (W 7) 4 = W 7 by omega]
  rw [e0]
  refine Ok_for (W 7 + 1) (fun i x => (∀ on s, on < i → s < 2 ^ W 7 → x.2 (t + 8 + on) s = dyM W N day on s) ∧ Fp (t + 8) (t + 13) m x) ⟨fun on s h => by omega, Fp.refl⟩ (fun i x hi ⟨a, F⟩ => ?_) (fun x ⟨a, F⟩ => ?_)
  · have Rx := R.fp I F (by omega)
    have Gx : GoR x t W N := fun on s h1 h2 => by rw [F.b (by omega), G on s h1 h2]
    show Ok (Go_workDay_l15 t (c + 1) (nI day) (nI (W 7)) (nI i) x) _
    unfold Go_workDay_l15
    refine Ok_if (nI_nlt (by omega) (by omega)) ?_
    refine Ok_for (2 ^ W 7) (fun j y => (∀ s, s < j → y.2 (t + 8 + i) s = evL W N i s) ∧ Fp (t + 8 + i) (t + 9 + i) x y) ⟨fun s h => by omega, Fp.refl⟩ (fun j y hj ⟨b, F2⟩ => ?_) (fun y ⟨b, F2⟩ => ?_)
    · have Ry := Rx.fp I F2 (by omega)
      have Gy : GoR y t W N := fun on s h1 h2 => by rw [F2.b (by omega), Gx on s h1 h2]
      show Ok (Go_workDay_l24 t (c + 1) (nI day) (nI (W 7)) (nI i) (nI j) y) _
      unfold Go_workDay_l24
      rw [shl1 (by omega)]
      refine Ok_if (nI_ge hj (by omega)) (Ok_gd (in_nI (by omega) (by decide)) (Ok_b (Go_bestFrom_e Ry I Gy (by omega) hj) (Ok_b (Go_worthOfGoing_e Ry I Gy (by omega) (bf_le W N (by omega) (W 7) (Nat.le_refl _)) hj) (Ok_gd (in_nI (by omega) (by decide)) (Ok_lt ?_)))))
      rw [ix_nI (by omega), ix_nI (by omega), show t + 7 + (1 + i) = t + 8 + i by omega]
      refine Ok_s ⟨_, by rw [nI_1], fun s hs => ?_, F2.trans (Fp.wL (by omega) (by omega) _ _)⟩
      rw [wL_at]
      by_cases e : s = j
      · rw [if_pos e, e]; rfl
      · rw [if_neg e]; exact b s (by omega)
    · have Ry := Rx.fp I F2 (by omega)
      show Ok (Go_workDay_l24 t (c + 1) (nI day) (nI (W 7)) (nI i) (nI (2 ^ W 7)) y) _
      unfold Go_workDay_l24
      rw [shl1 (by omega)]
      refine Ok_it (nI_le (Nat.le_refl _) (by omega)) (Ok_up (Go_day71 Ry I hc (by omega) hday b) (fun r ⟨z, e, q, F3⟩ => ⟨r, rfl, z, e, fun on s h1 h2 => ?_, ?_⟩))
      · by_cases e2 : on = i
        · rw [e2]; exact q s h2
        · rw [F3.b (by omega), F2.b (by omega)]
          exact a on s (by omega) h2
      · exact (F.trans (F2.wide (by omega) (by omega))).trans (F3.wide (by omega) (by omega))
  · show Ok (Go_workDay_l15 t (c + 1) (nI day) (nI (W 7)) (nI (W 7 + 1)) x) _
    unfold Go_workDay_l15
    refine Ok_it (nI_lt (by omega) (by omega)) (Ok_up (P := fun y => GoR y t W (dyM W N day) ∧ Fp (t + 2) (t + 13) m y) ?_ (fun y hy => ⟨y, rfl, hy⟩))
    refine Ok_for (W 7 + 1) (fun i y => (∀ on s, on < i → s < 2 ^ W 7 → y.2 (t + 2 + on) s = dyM W N day on s) ∧ Fp (t + 2) (t + 7) x y) ⟨fun on s h => by omega, Fp.refl⟩ (fun i y hi ⟨b, F2⟩ => ?_) (fun y ⟨b, F2⟩ => ?_)
    · show Ok (Go_workDay_l124 t (c + 1) (nI (W 7)) (nI i) y) _
      unfold Go_workDay_l124
      refine Ok_if (nI_nlt (by omega) (by omega)) ?_
      refine Ok_for (2 ^ W 7) (fun j z => (∀ on s, on < i → s < 2 ^ W 7 → z.2 (t + 2 + on) s = dyM W N day on s) ∧ (∀ s, s < j → z.2 (t + 2 + i) s = dyM W N day i s) ∧ Fp (t + 2) (t + 7) x z) ⟨b, fun s h => by omega, F2⟩ (fun j z hj ⟨q1, q2, F3⟩ => ?_) (fun z ⟨q1, q2, F3⟩ => ?_)
      · show Ok (Go_workDay_l133 t (c + 1) (nI (W 7)) (nI i) (nI j) z) _
        unfold Go_workDay_l133
        rw [shl1 (by omega)]
        refine Ok_if (nI_ge hj (by omega)) (Ok_gd (in_nI (by omega) (by decide)) (Ok_gd (in_nI (by omega) (by decide)) (Ok_gd (in_nI (by omega) (by decide)) (Ok_gd (in_nI (by omega) (by decide)) (Ok_lt ?_)))))
        rw [ix_nI (by omega), ix_nI (by omega), show t + 1 + (1 + i) = t + 2 + i by omega, show t + 7 + (1 + i) = t + 8 + i by omega]
        refine Ok_s ⟨_, by rw [nI_1], fun on s h1 h2 => ?_, fun s hs => ?_, F3.trans (Fp.wL (by omega) (by omega) _ _)⟩
        · rw [wL_o _ (by omega)]; exact q1 on s h1 h2
        · rw [wL_at]
          by_cases e : s = j
          · rw [if_pos e, e, show rL z (t + 8 + i) j = dyM W N day i j by rw [← a i j (by omega) hj]; exact F3.b (by omega) _]
          · rw [if_neg e]; exact q2 s (by omega)
      · show Ok (Go_workDay_l133 t (c + 1) (nI (W 7)) (nI i) (nI (2 ^ W 7)) z) _
        unfold Go_workDay_l133
        rw [shl1 (by omega), if_pos (nI_le (Nat.le_refl _) (by omega)), up_some, nI_1]
        refine Ok_s ⟨_, rfl, z, rfl, fun on s h1 h2 => ?_, F3⟩
        by_cases e : on = i
        · rw [e]; exact q2 s h2
        · exact q1 on s (by omega) h2
    · show Ok (Go_workDay_l124 t (c + 1) (nI (W 7)) (nI (W 7 + 1)) y) _
      unfold Go_workDay_l124
      rw [if_pos (nI_lt (by omega) (by omega)), up_some]
      exact Ok_s ⟨_, rfl, fun on s h1 h2 => b on s (by omega) h2, (F.wide (by omega) (by omega)).trans (F2.wide (by omega) (by omega))⟩
theorem Go_workBackTo_e (R : CR m c W) (I : Inv W) (hc : c + 40 ≤ t) {day : Nat} (h1 : 1 ≤ day) (h2 : day ≤ W 4 + 1) : Ok (Go_workBackTo t (c + 1) (nI day) m) (fun x => GoR x t W (mrM W (W 4 + 1 - day)) ∧ Fp (t + 2) (t + 13) m x) := by
  have d := I.d
  have p := p16 I
  unfold Go_workBackTo
  refine Ok_bind Go_begin_e (fun m1 ⟨a, F⟩ => ?_)
  rw [cf3 (R.fp I F (by omega))]
  refine Ok_loop (W 4 + 1 - day) (fun j x => (nI (W 4 - j), x)) (fun j x => GoR x t W (mrM W j) ∧ Fp (t + 2) (t + 13) m x) m1 rfl ⟨fun on s q1 q2 => a on s (by omega) (by omega), F.wide (by omega) (by omega)⟩ (fun j x hj ⟨G, F2⟩ => ?_) (fun x ⟨G, F2⟩ => ?_)
  · show Ok (Go_workBackTo_l9 t (c + 1) (nI day) (nI (W 4 - j)) x) _
    unfold Go_workBackTo_l9
    refine Ok_if (nI_nlt (by omega) (by omega)) (Ok_if (nI_nle (by omega) (by omega)) (Ok_bind (Go_workDay_e (R.fp I F2 (by omega)) I hc G (by omega)) (fun y ⟨G2, F3⟩ => Ok_s ⟨y, ?_, G2, F2.trans F3⟩)))
    rw [show W 4 - (j + 1) = W 4 - j - 1 by omega, ← nI_p1 (show 1 ≤ W 4 - j by omega), Int32.sub_eq_add_neg]
  · show Ok (Go_workBackTo_l9 t (c + 1) (nI day) (nI (W 4 - (W 4 + 1 - day))) x) _
    unfold Go_workBackTo_l9
    by_cases q : day ≤ W 4
    · rw [if_pos (nI_lt (by omega) (by omega)), up_some]
      exact Ok_s ⟨_, rfl, G, F2⟩
    · rw [if_pos (nI_lt (by omega) (by omega)), up_some]
      exact Ok_s ⟨_, rfl, G, F2⟩
/-! the reference -/
def vlP (on s : Nat) : Prop := on = 0 ∨ s.testBit (on - 1) = true
def MoR (m : Mem) (W : Wd) (day : Nat) (N : GoT) : Prop := ∀ on s, on ≤ W 7 → s < 2 ^ W 7 → vlP on s → m.2 308 (80 * day + 16 * on + s) = N on s
theorem Mo_spot_e (m : Mem) (a b e : Nat) : Mo_spot (nI a) (nI b) (nI e) m = some (nI (80 * a + 16 * b + e)) := by
  unfold Mo_spot
  rw [li 80, li 16, pk_mul, pk_mul, nI_add, nI_add]
theorem Mo_staysOn_e {N : GoT} (hW : MW m W) (I : Inv W) {day : Nat} (hd : day ≤ 60) (G : MoR m W (day + 1) N) {f s : Nat} (hf : f ≤ W 7) (hs : s < 2 ^ W 7) (hv : vlP f s) : Mo_staysOn 298 (nI day) (nI f) (nI s) m = some (N f s * bkL W f / 10000) := by
  have d := I.d
  have p := p16 I
  unfold Mo_staysOn Mo_breaksOf
  rw [nI_1, Mo_spot_e, bind_s, gd_in (by omega) (by decide), ix_nI (by omega), show rL m (298 + 10) (80 * (day + 1) + 16 * f + s) = N f s from G f s hf hs hv]
  by_cases e : f = 0
  · rw [if_pos (show nI f = 0 by rw [e]; rfl), gd_t (by decide), qW16 hW, bind_s, show nI (W 16) = nI (bkN W f) from congrArg nI (if_pos e).symm]
    rfl
  · rw [if_neg (nI_ne0 (by omega) (by omega)), nI_p1 (by omega), qO2 hW (by omega), bind_s, bind_s, show nI (wot W (f - 1) 2) = nI (bkN W f) from congrArg nI (if_neg e).symm]
    rfl
theorem Mo_isNear_e (m : Mem) {f s : Nat} (hf : f ≤ 30) (hs : s < 2147483648) : (vlP f s → Mo_isNear 298 (nI f) (nI s) m = some 1) ∧ (¬ vlP f s → Mo_isNear 298 (nI f) (nI s) m = some 0) := by
  unfold Mo_isNear Mo_isNear_b14 vlP
  by_cases e : f = 0
  · rw [if_pos (show nI f = 0 by rw [e]; rfl)]
    exact ⟨fun _ => rfl, fun z => absurd (Or.inl e) z⟩
  · rw [if_neg (nI_ne0 (by omega) (by omega)), nI_p1 (by omega), Mo_holds_e m hs (by omega), bind_s, ite_b2]
    constructor
    · intro z
      rw [if_pos (z.resolve_left e)]
    · intro z
      rw [if_neg (fun w => z (Or.inr w))]
theorem Mo_goesTo_e {N : GoT} (hW : MW m W) (I : Inv W) {day : Nat} (hd : day ≤ 60) (G : MoR m W (day + 1) N) {on s : Nat} (hon : on ≤ W 7) (hs : s < 2 ^ W 7) (hv : vlP on s) : Mo_goesTo 298 (nI day) (nI on) (nI s) m = some (nI (bfN W N on s (W 7)).1) := by
  have d := I.d
  have p := p16 I
  unfold Mo_goesTo
  rw [Mo_staysOn_e hW I hd G hon hs hv, bind_s]
  refine loop_cnt (W 7) (fun k => (nI (bfN W N on s k).1, (bfN W N on s k).2, nI (k + 1))) ?_ (fun k hk => ?_) ?_
  · show (nI on, wgL W N on on s, nI 1) = _
    unfold wgL
    rw [if_pos rfl]
    rfl
  · show Mo_goesTo_l15 298 (nI day) (nI on) (nI s) (nI (bfN W N on s k).1) (bfN W N on s k).2 (nI (k + 1)) m = _
    unfold Mo_goesTo_l15 Mo_goesTo_b92
    have hn := Mo_isNear_e m (f := k + 1) (s := s) (by omega) (by omega)
    rw [gd_t (by decide), qW7 hW, if_neg (nI_nlt (by omega) (by omega)), nI_1]
    show _ = some (Sum.inl (nI (if k + 1 = on then bfN W N on s k else if s.testBit k = true then if (bfN W N on s k).2 < wgL W N on (k + 1) s then (k + 1, wgL W N on (k + 1) s) else bfN W N on s k else bfN W N on s k).1, (if k + 1 = on then bfN W N on s k else if s.testBit k = true then if (bfN W N on s k).2 < wgL W N on (k + 1) s then (k + 1, wgL W N on (k + 1) s) else bfN W N on s k else bfN W N on s k).2, nI (k + 1 + 1)))
    by_cases e : k + 1 = on
    · rw [if_pos (congrArg nI e)]
      simp only [if_pos e]
    · rw [if_neg (fun z => e ((nI_eq (by omega) (by omega)).mp z))]
      simp only [if_neg e]
      by_cases q : s.testBit k = true
      · have hv2 : vlP (k + 1) s := Or.inr q
        have ew : wgL W N on (k + 1) s = N (k + 1) s * bkL W (k + 1) / 10000 * crL W / 10000 := if_neg e
        rw [hn.1 hv2, bind_s, if_neg (by decide), Mo_staysOn_e hW I hd G (by omega) hs hv2, bind_s, gd_t (by decide), qW17 hW, show N (k + 1) s * bkL W (k + 1) / 10000 * (10000 - nI (W 17)).toInt64 / 10000 = wgL W N on (k + 1) s from ew.symm]
        simp only [if_pos q]
        by_cases w : (bfN W N on s k).2 < wgL W N on (k + 1) s
        · simp only [if_pos w]
        · simp only [if_neg w]
      · rw [hn.2 (fun z => z.elim (fun y => by omega) (fun y => q y)), bind_s, if_pos rfl]
        simp only [if_neg q]
  · show Mo_goesTo_l15 298 (nI day) (nI on) (nI s) (nI (bfN W N on s (W 7)).1) (bfN W N on s (W 7)).2 (nI (W 7 + 1)) m = _
    unfold Mo_goesTo_l15
    rw [gd_t (by decide), qW7 hW, if_pos (nI_lt (by omega) (by omega)), up_some]
theorem Mo_endOf_e {N : GoT} (hW : MW m W) (I : Inv W) {day : Nat} (hd : day ≤ 60) (G : MoR m W (day + 1) N) {on s : Nat} (hon : on ≤ W 7) (hs : s < 2 ^ W 7) (hv : vlP on s) : Mo_endOf 298 (nI day) (nI on) (nI s) m = some (evL W N on s) := by
  have d := I.d
  have bl := bf_le W N (s := s) hon (W 7) (Nat.le_refl _)
  have bb := bf_bit W N on s (W 7)
  unfold Mo_endOf evL wgL
  rw [Mo_goesTo_e hW I hd G hon hs hv, bind_s]
  by_cases e : (bfN W N on s (W 7)).1 = on
  · rw [if_pos (congrArg nI e), if_pos e, Mo_staysOn_e hW I hd G hon hs hv, bind_s, e]
  · have hv2 : vlP (bfN W N on s (W 7)).1 s := Or.inr (bb.resolve_left e).2
    rw [if_neg (fun z => e ((nI_eq (by omega) (by omega)).mp z)), if_neg e, Mo_staysOn_e hW I hd G bl hs hv2, bind_s, gd_t (by decide), qW17 hW]
    rfl
/-- a row of the reference's coming, on the sets that can be -/
def CoR (m : Mem) (W : Wd) (on : Nat) (f : Nat → Int64) : Prop := ∀ s, s < 2 ^ W 7 → vlP on s → m.2 309 s = f s
theorem vl_or {on s o : Nat} (h : vlP on s) : vlP on (s ||| 2 ^ o) := by
  rcases h with h | h
  · exact Or.inl h
  · refine Or.inr ?_
    rw [Nat.testBit_or, h]
    rfl
theorem Mo_mix (hW : MW m W) (I : Inv W) {on o day : Nat} (ho : o < W 7) (hd : day ≤ 60) {f : Nat → Int64} (C : CoR m W on f) : Ok (loop (fun s : Int32 × Mem => Mo_goesThrough_l133 298 (nI (2 ^ W 7)) (nI day) (nI on) (nI o) s.1 s.2) (0, m)) (fun r => ∃ x, r = Sum.inl (nI o + -1, x) ∧ CoR x W on (mixL W day o f) ∧ Fp 309 310 m x) := by
  have d := I.d
  have p := p16 I
  obtain ⟨oo, o0, o1, -⟩ := I.O ho
  refine Ok_for (2 ^ W 7) (fun i x => (∀ s, s < 2 ^ W 7 → vlP on s → x.2 309 s = if s < i then mixL W day o f s else f s) ∧ Fp 309 310 m x) ⟨fun s hs hv => by rw [if_neg (by omega), C s hs hv], Fp.refl⟩ (fun i x hi ⟨a, F⟩ => ?_) (fun x ⟨a, F⟩ => ?_)
  · have ht : i ||| 2 ^ o < 16 := Nat.or_lt_two_pow (n := 4) (by omega) (Nat.pow_lt_pow_right (by decide) (by omega))
    have Wx := hW.fp F (by omega)
    show Ok (Mo_goesThrough_l133 298 (nI (2 ^ W 7)) (nI day) (nI on) (nI o) (nI i) x) _
    unfold Mo_goesThrough_l133 Mo_goesThrough_b215
    rw [nI_1]
    refine Ok_if (nI_ge hi (by omega)) (Ok_b (Mo_holds_e x (by omega) (by omega)) ?_)
    rw [ite_b2]
    have keep : (day < wot W o 0 ∨ i.testBit o = true) → ∀ s, s < 2 ^ W 7 → vlP on s → x.2 309 s = if s < i + 1 then mixL W day o f s else f s := by
      intro hk s hs hv
      rw [a s hs hv]
      by_cases e : s = i
      · rw [if_neg (by omega), if_pos (by omega), e]
        unfold mixL
        rcases hk with z | z
        · rw [if_pos z]
        · rw [if_pos z]
          split <;> rfl
      · by_cases e2 : s < i
        · rw [if_pos e2, if_pos (by omega)]
        · rw [if_neg e2, if_neg (by omega)]
    by_cases q : i.testBit o = true
    · rw [if_pos q]
      exact Ok_s ⟨x, rfl, keep (Or.inr q), F⟩
    · rw [if_neg q]
      refine Ok_b (qO0 Wx (by omega)) ?_
      by_cases w : day < wot W o 0
      · exact Ok_if (nI_ge w (by omega)) (Ok_s ⟨x, rfl, keep (Or.inl w), F⟩)
      · refine Ok_it (nI_le (by omega) (by omega)) (Ok_b (qO1 Wx (by omega)) ?_)
        rw [shl1 (by omega), nI_or]
        refine Ok_gd (in_nI ht (by decide)) (Ok_b (qO1 Wx (by omega)) (Ok_gd (in_nI (by omega) (by decide)) (Ok_gd (in_nI (by omega) (by decide)) (Ok_lt ?_))))
        rw [ix_nI (by omega), ix_nI (by omega), (mix_e o1).2, nI_l (show wot W o 1 < 2147483648 by omega)]
        refine Ok_s ⟨_, rfl, fun s hs hv => ?_, F.trans (Fp.wL (a := 309) (by omega) (by omega) _ _)⟩
        rw [wL_at]
        have gt := lt_or q
        by_cases e : s = i
        · have ht2 := or_lt (s := i) (k := o) (n := W 7) (by omega) ho
          rw [e] at hv
          rw [if_pos e, e, if_pos (by omega), show rL x (298 + 11) (i ||| 2 ^ o) = f (i ||| 2 ^ o) by rw [show rL x (298 + 11) (i ||| 2 ^ o) = _ from a _ ht2 (vl_or hv), if_neg (by omega)], show rL x (298 + 11) i = f i by rw [show rL x (298 + 11) i = _ from a i (by omega) hv, if_neg (by omega)]]
          unfold mixL
          rw [if_neg w, if_neg q]
        · rw [if_neg e, a s hs hv]
          by_cases e2 : s < i
          · rw [if_pos e2, if_pos (by omega)]
          · rw [if_neg e2, if_neg (by omega)]
  · show Ok (Mo_goesThrough_l133 298 (nI (2 ^ W 7)) (nI day) (nI on) (nI o) (nI (2 ^ W 7)) x) _
    unfold Mo_goesThrough_l133
    rw [if_pos (nI_le (Nat.le_refl _) (by omega)), up_some]
    exact Ok_s ⟨_, rfl, x, rfl, fun s hs hv => by rw [a s hs hv, if_pos hs], F⟩
theorem Mo_day (hW : MW m W) (I : Inv W) {N : GoT} {day : Nat} (h1 : 1 ≤ day) (hd : day ≤ 60) (G : MoR m W (day + 1) N) {on : Nat} (hon : on ≤ W 7) : Ok (loop (fun s : Int32 × Mem => Mo_goesThrough_l73 298 (nI (2 ^ W 7)) (nI day) (nI on) s.1 s.2) (0, m)) (fun r => ∃ x, r = Sum.inl (nI (on + 1), x) ∧ (∀ s, s < 2 ^ W 7 → vlP on s → x.2 308 (80 * day + 16 * on + s) = dyM W N day on s) ∧ (∀ i, (i < 80 * day + 16 * on ∨ 80 * day + 16 * on + 16 ≤ i) → x.2 308 i = m.2 308 i) ∧ Fp 308 310 m x) := by
  have d := I.d
  have p := p16 I
  refine Ok_for (2 ^ W 7) (fun j y => (∀ s, s < j → vlP on s → y.2 309 s = evL W N on s) ∧ Fp 309 310 m y) ⟨fun s h => by omega, Fp.refl⟩ (fun j y hj ⟨b, F⟩ => ?_) (fun y ⟨b, F⟩ => ?_)
  · have Wy := hW.fp F (by omega)
    have Gy : MoR y W (day + 1) N := fun o s a1 a2 a3 => by rw [F.b (by omega), G o s a1 a2 a3]
    have nr := Mo_isNear_e y (f := on) (s := j) (by omega) (by omega)
    have fin : ∀ v : Int64, (vlP on j → v = evL W N on j) → Ok (Mo_goesThrough_b107 298 (nI (2 ^ W 7)) (nI day) (nI on) (nI j) (nI j) v y) (fun r => ∃ m', r = Sum.inl (nI (j + 1), m') ∧ (∀ s, s < j + 1 → vlP on s → m'.2 309 s = evL W N on s) ∧ Fp 309 310 m m') := by
      intro v hv
      unfold Mo_goesThrough_b107
      refine Ok_gd (in_nI (by omega) (by decide)) (Ok_lt ?_)
      rw [ix_nI (by omega)]
      refine Ok_s ⟨_, by rw [nI_1], fun s hs hvs => ?_, F.trans (Fp.wL (a := 309) (by omega) (by omega) _ _)⟩
      rw [wL_at]
      by_cases e : s = j
      · rw [if_pos e, e]
        exact hv (by rw [← e]; exact hvs)
      · rw [if_neg e]; exact b s (by omega) hvs
    show Ok (Mo_goesThrough_l73 298 (nI (2 ^ W 7)) (nI day) (nI on) (nI j) y) _
    unfold Mo_goesThrough_l73
    refine Ok_if (nI_ge hj (by omega)) ?_
    by_cases q : vlP on j
    · refine Ok_b (nr.1 q) (Ok_if (by decide) (Ok_b (Mo_endOf_e Wy I hd Gy hon hj q) (fin _ (fun _ => rfl))))
    · exact Ok_b (nr.2 q) (Ok_it rfl (fin 0 (fun z => absurd z q)))
  · have Wy := hW.fp F (by omega)
    show Ok (Mo_goesThrough_l73 298 (nI (2 ^ W 7)) (nI day) (nI on) (nI (2 ^ W 7)) y) _
    unfold Mo_goesThrough_l73
    refine Ok_it (nI_le (Nat.le_refl _) (by omega)) (Ok_up (P := fun r => ∃ x, r = Sum.inl (nI (on + 1), x) ∧ (∀ s, s < 2 ^ W 7 → vlP on s → x.2 308 (80 * day + 16 * on + s) = dyM W N day on s) ∧ (∀ i, (i < 80 * day + 16 * on ∨ 80 * day + 16 * on + 16 ≤ i) → x.2 308 i = m.2 308 i) ∧ Fp 308 310 m x) (Ok_gd (by decide) ?_) (fun r hr => ⟨r, rfl, hr⟩))
    rw [qW7 Wy]
    refine Ok_loop (W 7) (fun j z => (nI (W 7 - j) - 1, z)) (fun j z => CoR z W on (mxL W day (evL W N on) j) ∧ Fp 309 310 m z) y rfl ⟨b, F⟩ (fun j z hj ⟨C, F2⟩ => ?_) (fun z ⟨C, F2⟩ => ?_)
    · have e1 : nI (W 7 - j) - 1 = nI (W 7 - 1 - j) := by rw [nI_p1 (by omega), show W 7 - j - 1 = W 7 - 1 - j by omega]
      have e2 : nI (W 7 - 1 - j) + -1 = nI (W 7 - (j + 1)) - 1 := by rw [Int32.sub_eq_add_neg, show W 7 - 1 - j = W 7 - (j + 1) by omega]
      show Ok (Mo_goesThrough_l125 298 (nI (2 ^ W 7)) (nI day) (nI on) (nI (W 7 - j) - 1) z) _
      unfold Mo_goesThrough_l125
      rw [e1]
      refine Ok_if (nI_pos (by omega)) (Ok_mono (Mo_mix (hW.fp F2 (by omega)) I (by omega) hd C) (fun r ⟨x, e, C2, F3⟩ => ⟨x, by rw [e, e2], C2, F2.trans F3⟩))
    · show Ok (Mo_goesThrough_l125 298 (nI (2 ^ W 7)) (nI day) (nI on) (nI (W 7 - W 7) - 1) z) _
      unfold Mo_goesThrough_l125
      rw [Nat.sub_self]
      refine Ok_it (by decide) (Ok_up (P := fun r => ∃ x, r = Sum.inl (nI (on + 1), x) ∧ (∀ s, s < 2 ^ W 7 → vlP on s → x.2 308 (80 * day + 16 * on + s) = dyM W N day on s) ∧ (∀ i, (i < 80 * day + 16 * on ∨ 80 * day + 16 * on + 16 ≤ i) → x.2 308 i = m.2 308 i) ∧ Fp 308 310 m x) ?_ (fun r hr => ⟨r, rfl, hr⟩))
      refine Ok_for (2 ^ W 7) (fun j u => (∀ s, s < j → vlP on s → u.2 308 (80 * day + 16 * on + s) = dyM W N day on s) ∧ (∀ i, (i < 80 * day + 16 * on ∨ 80 * day + 16 * on + 16 ≤ i) → u.2 308 i = m.2 308 i) ∧ u.2 309 = z.2 309 ∧ Fp 308 310 m u) ⟨fun s h => by omega, fun i _ => F2.b (by omega) i, rfl, F2.wide (by omega) (by omega)⟩ (fun j u hj ⟨g1, g2, g3, F3⟩ => ?_) (fun u ⟨g1, g2, g3, F3⟩ => ?_)
      · show Ok (Mo_goesThrough_l230 298 (nI (2 ^ W 7)) (nI day) (nI on) (nI j) u) _
        unfold Mo_goesThrough_l230
        refine Ok_if (nI_ge hj (by omega)) (Ok_b (Mo_spot_e u _ _ _) (Ok_gd (in_nI (by omega) (by decide)) (Ok_gd (in_nI (by omega) (by decide)) (Ok_lt ?_))))
        rw [ix_nI (by omega), ix_nI (by omega)]
        refine Ok_s ⟨_, by rw [nI_1], fun s hs hv => ?_, fun i hi => ?_, ?_, F3.trans (Fp.wL (a := 308) (by omega) (by omega) _ _)⟩
        · rw [wL_at]
          by_cases e : s = j
          · rw [if_pos (by omega), e, show rL u (298 + 11) j = z.2 309 j by rw [← g3]]
            exact C j hj (by rw [← e]; exact hv)
          · rw [if_neg (by omega)]; exact g1 s (by omega) hv
        · rw [wL_at, if_neg (by omega)]; exact g2 i hi
        · rw [wL_2 _ (by decide)]; exact g3
      · show Ok (Mo_goesThrough_l230 298 (nI (2 ^ W 7)) (nI day) (nI on) (nI (2 ^ W 7)) u) _
        unfold Mo_goesThrough_l230
        rw [if_pos (nI_le (Nat.le_refl _) (by omega)), up_some, nI_1]
        exact Ok_s ⟨_, rfl, u, rfl, g1, g2, F3⟩
theorem Mo_goesThrough_e (hW : MW m W) (I : Inv W) : Ok (Mo_goesThrough 298 m) (fun x => (∀ k, 1 ≤ k → k ≤ W 4 + 1 → MoR x W k (mrM W (W 4 + 1 - k))) ∧ Fp 308 310 m x) := by
  have d := I.d
  have p := p16 I
  unfold Mo_goesThrough
  refine Ok_gd (by decide) ?_
  rw [qW7 hW, shl1 (by omega)]
  refine Ok_for 80 (fun i x => (∀ k, k < i → x.2 308 (80 * (W 4 + 1) + k) = 1000000000000) ∧ Fp 308 310 m x) ⟨fun k hk => by omega, Fp.refl⟩ (fun i x hi ⟨a, F⟩ => ?_) (fun x ⟨a, F⟩ => ?_)
  · have Wx := hW.fp F (by omega)
    show Ok (Mo_goesThrough_l12 298 (nI (2 ^ W 7)) (nI i) x) _
    unfold Mo_goesThrough_l12
    refine Ok_if (show ¬ (80 : Int32) ≤ nI i from nI_ge (b := 80) hi (by decide)) (Ok_gd (by decide) ?_)
    rw [qW4 Wx, show (80 : Int32) * (nI (W 4) + 1) + nI i = nI (80 * (W 4 + 1) + i) by rw [nI_1, li 80, pk_mul, nI_add], nI_1]
    refine Ok_gd (in_nI (by omega) (by decide)) (Ok_lt ?_)
    rw [ix_nI (by omega)]
    refine Ok_s ⟨_, rfl, fun k hk => ?_, F.trans (Fp.wL (a := 308) (by omega) (by omega) _ _)⟩
    rw [wL_at]
    by_cases e : k = i
    · rw [if_pos (by omega)]
    · rw [if_neg (by omega)]; exact a k (by omega)
  · have Wx := hW.fp F (by omega)
    show Ok (Mo_goesThrough_l12 298 (nI (2 ^ W 7)) (nI 80) x) _
    unfold Mo_goesThrough_l12
    refine Ok_it (show (80 : Int32) ≤ nI 80 by decide) (Ok_up (P := fun x => (∀ k, 1 ≤ k → k ≤ W 4 + 1 → MoR x W k (mrM W (W 4 + 1 - k))) ∧ Fp 308 310 m x) (Ok_gd (by decide) ?_) (fun y hy => ⟨y, rfl, hy⟩))
    rw [qW4 Wx]
    refine Ok_loop (W 4) (fun j y => (nI (W 4 - j), y)) (fun j y => (∀ k, W 4 - j < k → k ≤ W 4 + 1 → MoR y W k (mrM W (W 4 + 1 - k))) ∧ Fp 308 310 m y) x rfl ⟨fun k h1 h2 on s g1 g2 g3 => ?_, F⟩ (fun j y hj ⟨G, F2⟩ => ?_) (fun y ⟨G, F2⟩ => ?_)
    · rw [show k = W 4 + 1 by omega, Nat.sub_self, show 80 * (W 4 + 1) + 16 * on + s = 80 * (W 4 + 1) + (16 * on + s) by omega, a _ (by omega)]
      rfl
    · show Ok (Mo_goesThrough_l52 298 (nI (2 ^ W 7)) (nI (W 4 - j)) y) _
      unfold Mo_goesThrough_l52
      refine Ok_if (show ¬ nI (W 4 - j) < 1 from nI_nlt (b := 1) (by omega) (by omega)) ?_
      have em : mrM W (W 4 + 1 - (W 4 - j)) = dyM W (mrM W (W 4 + 1 - (W 4 - j + 1))) (W 4 - j) := by
        rw [show W 4 + 1 - (W 4 - j) = j + 1 by omega, show W 4 + 1 - (W 4 - j + 1) = j by omega]
        rfl
      refine Ok_for (W 7 + 1) (fun i z => (∀ k, W 4 - j < k → k ≤ W 4 + 1 → MoR z W k (mrM W (W 4 + 1 - k))) ∧ (∀ on s, on < i → s < 2 ^ W 7 → vlP on s → z.2 308 (80 * (W 4 - j) + 16 * on + s) = mrM W (W 4 + 1 - (W 4 - j)) on s) ∧ Fp 308 310 m z) ⟨G, fun on s h => by omega, F2⟩ (fun i z hi ⟨g1, g2, F3⟩ => ?_) (fun z ⟨g1, g2, F3⟩ => ?_)
      · have Wz := hW.fp F3 (by omega)
        show Ok (Mo_goesThrough_l59 298 (nI (2 ^ W 7)) (nI (W 4 - j)) (nI i) z) _
        unfold Mo_goesThrough_l59
        refine Ok_gd (by decide) ?_
        rw [qW7 Wz]
        refine Ok_if (nI_nlt (by omega) (by omega)) (Ok_mono (Mo_day Wz I (by omega) (by omega) (g1 (W 4 - j + 1) (by omega) (by omega)) (show i ≤ W 7 by omega)) (fun r ⟨u, e, q1, q2, F4⟩ => ⟨u, e, fun k h1 h2 on s a1 a2 a3 => ?_, fun on s h1 h2 h3 => ?_, F3.trans F4⟩))
        · rw [q2 _ (by omega)]
          exact g1 k h1 h2 on s a1 a2 a3
        · by_cases e2 : on = i
          · rw [e2, em]
            exact q1 s h2 (by rw [← e2]; exact h3)
          · rw [q2 _ (by omega)]
            exact g2 on s (by omega) h2 h3
      · have Wz := hW.fp F3 (by omega)
        show Ok (Mo_goesThrough_l59 298 (nI (2 ^ W 7)) (nI (W 4 - j)) (nI (W 7 + 1)) z) _
        unfold Mo_goesThrough_l59
        refine Ok_gd (by decide) ?_
        rw [qW7 Wz, if_pos (nI_lt (by omega) (by omega)), up_some]
        refine Ok_s ⟨_, rfl, z, ?_, fun k h1 h2 => ?_, F3⟩
        · rw [show W 4 - (j + 1) = W 4 - j - 1 by omega, ← nI_p1 (show 1 ≤ W 4 - j by omega), Int32.sub_eq_add_neg]
        · by_cases e : k = W 4 - j
          · rw [e]
            exact fun on s a1 a2 a3 => g2 on s (by omega) a2 a3
          · exact g1 k (by omega) h2
    · show Ok (Mo_goesThrough_l52 298 (nI (2 ^ W 7)) (nI (W 4 - W 4)) y) _
      unfold Mo_goesThrough_l52
      rw [Nat.sub_self] at G ⊢
      refine Ok_it (by decide) ?_
      rw [up_some]
      exact Ok_s ⟨_, rfl, fun k h1 h2 => G k (by omega) h2, F2⟩
/-! the calls -/
def gpP (W : Wd) (d on s : Int32) : Prop := (1 ≤ d ∧ d ≤ nI (W 4)) ∧ inb on (W 7 + 1) ∧ inb s (2 ^ W 7) ∧ vlP (ix on) (ix s)
theorem Go_canBe_e (R : CR m c W) (I : Inv W) (d on s : Int32) : (gpP W d on s → Go_canBe (c + 1) d on s m = some 1) ∧ (¬ gpP W d on s → Go_canBe (c + 1) d on s m = some 0) := by
  have dd := I.d
  have p := p16 I
  unfold Go_canBe Go_canBe_b59
  rw [cf3 R, cnO R, shl1 (by omega)]
  by_cases h1 : d < 1
  · rw [if_pos h1]
    exact ⟨fun z => absurd h1 (Int32.not_lt.mpr z.1.1), fun _ => rfl⟩
  · rw [if_neg h1]
    by_cases h2 : nI (W 4) < d
    · rw [if_pos h2]
      exact ⟨fun z => absurd h2 (Int32.not_lt.mpr z.1.2), fun _ => rfl⟩
    · rw [if_neg h2, ite_rle (by omega)]
      by_cases h3 : inb on (W 7 + 1)
      · rw [if_pos h3, ite_rng (by omega)]
        by_cases h4 : inb s (2 ^ W 7)
        · rw [if_pos h4]
          obtain ⟨a, ha, rfl⟩ := in_of h3 (by omega)
          obtain ⟨b, hb, rfl⟩ := in_of h4 (by omega)
          have hd : 1 ≤ d ∧ d ≤ nI (W 4) := ⟨Int32.not_lt.mp h1, Int32.not_lt.mp h2⟩
          unfold gpP vlP
          rw [ix_nI (by omega), ix_nI (by omega)]
          by_cases e : a = 0
          · rw [if_pos (show nI a = 0 by rw [e]; rfl)]
            exact ⟨fun _ => rfl, fun z => absurd ⟨hd, h3, h4, Or.inl e⟩ z⟩
          · have nr := Go_isNear_e m (k := a - 1) (s := b) (by omega) (by omega)
            rw [show a - 1 + 1 = a by omega] at nr
            rw [if_neg (nI_ne0 (by omega) (by omega)), nr, bind_s, ite_b2]
            by_cases q : b.testBit (a - 1) = true
            · rw [if_pos q]
              exact ⟨fun _ => rfl, fun z => absurd ⟨hd, h3, h4, Or.inr q⟩ z⟩
            · rw [if_neg q]
              exact ⟨fun z => absurd (z.2.2.2.resolve_left e) q, fun _ => rfl⟩
        · rw [if_neg h4]
          exact ⟨fun z => absurd z.2.2.1 h4, fun _ => rfl⟩
      · rw [if_neg h3]
        exact ⟨fun z => absurd z.2.1 h3, fun _ => rfl⟩
theorem Mo_isMorning_e (hW : MW m W) (I : Inv W) (d on s : Int32) : (gpP W d on s → Mo_isMorning 298 d on s m = some 1) ∧ (¬ gpP W d on s → Mo_isMorning 298 d on s m = some 0) := by
  have dd := I.d
  have p := p16 I
  have pp := Nat.two_pow_pos (W 7)
  unfold Mo_isMorning
  rw [Mo_isFloe_e hW (by omega), bind_s, ite_b2]
  by_cases h0 : 0 < W 1
  · rw [if_pos h0, gd_t (by decide), qW4 hW, Mo_in_g m d 1 (nI (W 4)) (by decide) rfl, bind_s, ite_b2]
    by_cases h1 : 1 ≤ d ∧ d ≤ nI (W 4)
    · rw [if_pos h1, gd_t (by decide), qW7 hW, in0 m on (n := W 7 + 1) (by omega) (by rw [nI_pred]), bind_s, ite_b2]
      by_cases h3 : inb on (W 7 + 1)
      · rw [if_pos h3, gd_t (by decide), shl1 (by omega), in0 m s (n := 2 ^ W 7) (by omega) rfl, bind_s, ite_b2]
        by_cases h4 : inb s (2 ^ W 7)
        · rw [if_pos h4]
          obtain ⟨a, ha, rfl⟩ := in_of h3 (by omega)
          obtain ⟨b, hb, rfl⟩ := in_of h4 (by omega)
          have nr := Mo_isNear_e m (f := a) (s := b) (by omega) (by omega)
          unfold gpP
          rw [ix_nI (by omega), ix_nI (by omega)]
          constructor
          · intro z
            rw [nr.1 z.2.2.2, bind_s, if_neg (by decide)]
          · intro z
            rw [nr.2 (fun w => z ⟨h1, h3, h4, w⟩), bind_s, if_pos rfl]
        · rw [if_neg h4]
          exact ⟨fun z => absurd z.2.2.1 h4, fun _ => rfl⟩
      · rw [if_neg h3]
        exact ⟨fun z => absurd z.2.1 h3, fun _ => rfl⟩
    · rw [if_neg h1]
      exact ⟨fun z => absurd z.1 h1, fun _ => rfl⟩
  · rw [if_neg h0]
    refine ⟨fun z => ?_, fun _ => rfl⟩
    have w4 : W 4 = 0 := by rcases I.1 with q | q <;> omega
    have := z.1
    rw [w4] at this
    exact absurd (Int32.le_trans this.1 this.2) (by decide)
def aliveV (W : Wd) (d on s : Int32) : Int64 := mrM W (W 4 + 1 - ix d) (ix on) (ix s)
theorem st_alive (d on s : Int32) : Same (PL_alive 1 d on s) (Mo_alive 298 d on s) := by
  rintro m h
  obtain ⟨W, p, w, R, I⟩ := id h
  have dd := I.d
  have p16' := p16 I
  by_cases q : gpP W d on s
  · obtain ⟨d', d1, d2, rfl⟩ := rg_of (a := 1) (b := W 4) (by decide) (by omega) q.1
    obtain ⟨a, ha, rfl⟩ := in_of q.2.1 (by omega)
    obtain ⟨b, hb, rfl⟩ := in_of q.2.2.1 (by omega)
    have qv := q.2.2.2
    rw [ix_nI (by omega), ix_nI (by omega)] at qv
    have cC : Ok (PL_alive 1 (nI d') (nI a) (nI b) m) (fun r => r.1 = mrM W (W 4 + 1 - d') a b ∧ Fp 203 298 m r.2) := by
      unfold PL_alive
      refine Ok_b (show Go_canBe (1 + 28) (nI d') (nI a) (nI b) m = _ from (Go_canBe_e (c := 28) R I _ _ _).1 q) (Ok_if (by decide) ?_)
      refine Ok_bind (show Ok (Go_workBackTo (1 + 281) (1 + 28) (nI d') m) _ from Go_workBackTo_e (c := 28) (t := 282) R I (by omega) d1 (by omega)) (fun m1 ⟨G, F⟩ => ?_)
      refine Ok_b (show Go_worthOf (1 + 281) (nI a) (nI b) m1 = _ from Go_worthOf_e (t := 282) m1 (by omega) (by omega)) (Ok_s ⟨G a b (by omega) hb, F.wide (by omega) (by omega)⟩)
    obtain ⟨⟨r, m1⟩, e1, r1, F1⟩ := cC
    simp only at r1 F1
    have cM : Ok (Mo_alive 298 (nI d') (nI a) (nI b) m1) (fun r => r.1 = mrM W (W 4 + 1 - d') a b ∧ Fp 303 314 m1 r.2) := by
      have w1 := w.fp F1 (by omega)
      unfold Mo_alive
      refine Ok_b ((Mo_isMorning_e w1 I _ _ _).1 q) (Ok_if (by decide) (Ok_bind (Mo_goesThrough_e w1 I) (fun m2 ⟨G, F⟩ => Ok_b (Mo_spot_e m2 _ _ _) ?_)))
      refine Ok_gd (in_nI (by omega) (by decide)) ?_
      rw [ix_nI (by omega)]
      exact Ok_s ⟨G d' d1 (by omega) a b (by omega) hb qv, F.wide (by omega) (by omega)⟩
    obtain ⟨⟨u, m2⟩, e2, u1, F2⟩ := cM
    simp only at u1 F2
    exact ⟨r, m1, m2, e1, by rw [e2, u1, r1], W, (p.fp F1 (by omega)).fp F2 (by omega), (w.fp F1 (by omega)).fp F2 (by omega), (R.fp I F1 (by omega)).fp I F2 (by omega), I⟩
  · refine ⟨-2, m, m, ?_, ?_, h⟩
    · unfold PL_alive
      rw [show Go_canBe (1 + 28) d on s m = _ from (Go_canBe_e (c := 28) R I _ _ _).2 q, bind_s, if_pos rfl]
    · unfold Mo_alive
      rw [(Mo_isMorning_e w I _ _ _).2 q, bind_s, if_pos rfl]
theorem st_go (d on s : Int32) : Same (PL_go 1 d on s) (Mo_go 298 d on s) := by
  rintro m h
  obtain ⟨W, p, w, R, I⟩ := id h
  have dd := I.d
  have p16' := p16 I
  by_cases q : gpP W d on s
  · obtain ⟨d', d1, d2, rfl⟩ := rg_of (a := 1) (b := W 4) (by decide) (by omega) q.1
    obtain ⟨a, ha, rfl⟩ := in_of q.2.1 (by omega)
    obtain ⟨b, hb, rfl⟩ := in_of q.2.2.1 (by omega)
    have qv := q.2.2.2
    rw [ix_nI (by omega), ix_nI (by omega)] at qv
    have cC : Ok (PL_go 1 (nI d') (nI a) (nI b) m) (fun r => r.1 = nI (bfN W (mrM W (W 4 + 1 - (d' + 1))) a b (W 7)).1 ∧ Fp 203 298 m r.2) := by
      unfold PL_go
      rw [nI_1]
      refine Ok_b (show Go_canBe (1 + 28) (nI d') (nI a) (nI b) m = _ from (Go_canBe_e (c := 28) R I _ _ _).1 q) (Ok_if (by decide) ?_)
      refine Ok_bind (show Ok (Go_workBackTo (1 + 281) (1 + 28) (nI (d' + 1)) m) _ from Go_workBackTo_e (c := 28) (t := 282) R I (by omega) (by omega) (by omega)) (fun m1 ⟨G, F⟩ => ?_)
      exact Ok_b (show Go_bestFrom (1 + 281) (1 + 28) (nI a) (nI b) m1 = _ from Go_bestFrom_e (c := 28) (t := 282) (R.fp I F (by omega)) I G (by omega) hb) (Ok_s ⟨rfl, F.wide (by omega) (by omega)⟩)
    obtain ⟨⟨r, m1⟩, e1, r1, F1⟩ := cC
    simp only at r1 F1
    have cM : Ok (Mo_go 298 (nI d') (nI a) (nI b) m1) (fun r => r.1 = nI (bfN W (mrM W (W 4 + 1 - (d' + 1))) a b (W 7)).1 ∧ Fp 303 314 m1 r.2) := by
      have w1 := w.fp F1 (by omega)
      unfold Mo_go
      refine Ok_b ((Mo_isMorning_e w1 I _ _ _).1 q) (Ok_if (by decide) (Ok_bind (Mo_goesThrough_e w1 I) (fun m2 ⟨G, F⟩ => ?_)))
      exact Ok_b (Mo_goesTo_e (w1.fp F (by omega)) I (by omega) (G (d' + 1) (by omega) (by omega)) (by omega) hb qv) (Ok_s ⟨rfl, F.wide (by omega) (by omega)⟩)
    obtain ⟨⟨u, m2⟩, e2, u1, F2⟩ := cM
    simp only at u1 F2
    exact ⟨r, m1, m2, e1, by rw [e2, u1, r1], W, (p.fp F1 (by omega)).fp F2 (by omega), (w.fp F1 (by omega)).fp F2 (by omega), (R.fp I F1 (by omega)).fp I F2 (by omega), I⟩
  · refine ⟨-2, m, m, ?_, ?_, h⟩
    · unfold PL_go
      rw [show Go_canBe (1 + 28) d on s m = _ from (Go_canBe_e (c := 28) R I _ _ _).2 q, bind_s, if_pos rfl]
    · unfold Mo_go
      rw [(Mo_isMorning_e w I _ _ _).2 q, bind_s, if_pos rfl]
/-! leave -/
def dueN (W : Wd) (d : Nat) : Nat := bsN (fun o => decide (wot W o 0 ≤ d)) (W 7)
def lvQ (W : Wd) (d : Nat) : Prop := (bfN W (mrM W (W 4 - d)) 0 (dueN W d) (W 7)).1 ≠ 0
theorem fs_shift {R : Type} (Q : Nat → Prop) [DecidablePred Q] (r : Nat → R) (z : R) : ∀ k i, fsN (fun i => Q (i + 1)) (fun i => r (i + 1)) z k i = fsN Q r z k (i + 1)
  | 0, _ => rfl
  | k + 1, i => by
    unfold fsN
    rw [fs_shift Q r z k (i + 1)]
theorem Go_dueBy_e (R : CR m c W) (I : Inv W) {d : Nat} (hd : d ≤ 60) : Go_dueBy (c + 1) (nI d) m = some (nI (dueN W d)) := by
  have dd := I.d
  unfold Go_dueBy
  refine loop_cnt (W 7) (fun i => (nI (bsN (fun o => decide (wot W o 0 ≤ d)) i), nI i)) rfl (fun k hk => ?_) ?_
  · obtain ⟨oo, o0, -⟩ := I.O hk
    show Go_dueBy_l4 (c + 1) (nI d) (nI (bsN (fun o => decide (wot W o 0 ≤ d)) k)) (nI k) m = _
    unfold Go_dueBy_l4 Go_dueBy_b34
    rw [cnO R, if_neg (nI_ge hk (by omega)), tO0 R I hk, bind_s, shl1 (by omega), nI_or, nI_1, bsN_s]
    by_cases q : wot W k 0 ≤ d
    · rw [if_neg (nI_nlt q (by omega)), if_pos (decide_eq_true q)]
    · rw [if_pos (nI_lt (by omega) (by omega)), if_neg (fun z => q (of_decide_eq_true z)), Nat.or_zero]
  · show Go_dueBy_l4 (c + 1) (nI d) (nI (bsN (fun o => decide (wot W o 0 ≤ d)) (W 7))) (nI (W 7)) m = _
    unfold Go_dueBy_l4
    rw [cnO R, if_pos (nI_le (Nat.le_refl _) (by omega)), up_some]
    rfl
theorem st_leave : Same (PL_leave 1) (Mo_leave 298) := by
  refine Same_q (fun W _ => if 0 < W 1 then @fsN Int32 (lvQ W) (fun _ => Classical.propDecidable _) (fun d => nI d) (-1) (W 4) 1 else -2) (fun m W p R I => ?_) (fun m W p hW I => ?_) (fun m m' W F => rfl)
  · have dd := I.d
    have p16' := p16 I
    unfold PL_leave
    refine Ok_b (fl_there R I) ?_
    rw [ite_b2]
    by_cases h : 0 < W 1
    · rw [if_pos h, if_pos h]
      have key : Ok (Go_firstDayToGo (1 + 281) (1 + 28) m) (fun r => r.1 = @fsN Int32 (lvQ W) (fun _ => Classical.propDecidable _) (fun d => nI d) (-1) (W 4) 1 ∧ Fp 203 298 m r.2) := by
        unfold Go_firstDayToGo
        refine Ok_bind (show Ok (Go_begin (1 + 281) m) _ from Go_begin_e (t := 282)) (fun m1 ⟨a, F⟩ => ?_)
        rw [show rI m1 (1 + 28) 3 = nI (W 4) from cf3 (R.fp I F (by omega))]
        refine Ok_loop (W 4) (fun j x => (@fsN Int32 (lvQ W) (fun _ => Classical.propDecidable _) (fun d => nI d) (-1) j (W 4 - j + 1), nI (W 4 - j), x)) (fun j x => GoR x 282 W (mrM W j) ∧ Fp 284 295 m x) m1 rfl ⟨fun on s q1 q2 => a on s (by omega) (by omega), F.wide (by omega) (by omega)⟩ (fun j x hj ⟨G, F2⟩ => ?_) (fun x ⟨G, F2⟩ => ?_)
        · have Rx := R.fp I F2 (by omega)
          have dl : dueN W (W 4 - j) < 2 ^ W 7 := bs_lt _ _
          show Ok (Go_firstDayToGo_l11 (1 + 281) (1 + 28) (@fsN Int32 (lvQ W) (fun _ => Classical.propDecidable _) (fun d => nI d) (-1) j (W 4 - j + 1)) (nI (W 4 - j)) x) _
          unfold Go_firstDayToGo_l11
          refine Ok_if (nI_nle (by omega) (by omega)) (Ok_b (show Go_dueBy (1 + 28) (nI (W 4 - j)) x = _ from Go_dueBy_e (c := 28) Rx I (by omega)) (Ok_b (show Go_bestFrom (1 + 281) (1 + 28) 0 (nI (dueN W (W 4 - j))) x = _ from Go_bestFrom_e (c := 28) (t := 282) (on := 0) Rx I G (by omega) dl) ?_))
          have bl := bf_le W (mrM W j) (s := dueN W (W 4 - j)) (on := 0) (n := W 7) (by omega) (W 7) (Nat.le_refl _)
          have b31 : ∀ v, v = @fsN Int32 (lvQ W) (fun _ => Classical.propDecidable _) (fun d => nI d) (-1) (j + 1) (W 4 - (j + 1) + 1) → Ok (Go_firstDayToGo_b31 (1 + 281) (1 + 28) v (nI (W 4 - j)) x) (fun r => ∃ x', r = Sum.inl (@fsN Int32 (lvQ W) (fun _ => Classical.propDecidable _) (fun d => nI d) (-1) (j + 1) (W 4 - (j + 1) + 1), nI (W 4 - (j + 1)), x') ∧ GoR x' 282 W (mrM W (j + 1)) ∧ Fp 284 295 m x') := by
            intro v hv
            unfold Go_firstDayToGo_b31
            refine Ok_bind (show Ok (Go_workDay (1 + 281) (1 + 28) (nI (W 4 - j)) x) _ from Go_workDay_e (c := 28) (t := 282) Rx I (by omega) G (by omega)) (fun y ⟨G2, F3⟩ => Ok_s ⟨y, ?_, G2, F2.trans F3⟩)
            rw [hv, show nI (W 4 - j) + -1 = nI (W 4 - (j + 1)) by rw [show W 4 - (j + 1) = W 4 - j - 1 by omega, ← nI_p1 (show 1 ≤ W 4 - j by omega), Int32.sub_eq_add_neg]]
          have eu : @fsN Int32 (lvQ W) (fun _ => Classical.propDecidable _) (fun d => nI d) (-1) (j + 1) (W 4 - (j + 1) + 1) = @ite Int32 (lvQ W (W 4 - j)) (Classical.propDecidable _) (nI (W 4 - j)) (@fsN Int32 (lvQ W) (fun _ => Classical.propDecidable _) (fun d => nI d) (-1) j (W 4 - j + 1)) := by
            rw [show W 4 - (j + 1) + 1 = W 4 - j by omega]
            rfl
          have ej : W 4 - (W 4 - j) = j := by omega
          by_cases q : (bfN W (mrM W j) 0 (dueN W (W 4 - j)) (W 7)).1 = 0
          · refine Ok_it (by rw [q]; rfl) (b31 _ ?_)
            rw [eu]
            refine (@if_neg _ (Classical.propDecidable _) (fun z => ?_) _ _ _).symm
            unfold lvQ at z
            rw [ej] at z
            exact z q
          · refine Ok_if (nI_ne0 (by omega) (by omega)) (b31 _ ?_)
            rw [eu]
            refine (@if_pos _ (Classical.propDecidable _) ?_ _ _ _).symm
            unfold lvQ
            rw [ej]
            exact q
        · show Ok (Go_firstDayToGo_l11 (1 + 281) (1 + 28) (@fsN Int32 (lvQ W) (fun _ => Classical.propDecidable _) (fun d => nI d) (-1) (W 4) (W 4 - W 4 + 1)) (nI (W 4 - W 4)) x) _
          unfold Go_firstDayToGo_l11
          rw [Nat.sub_self]
          refine Ok_it (by decide) ?_
          rw [up_some]
          exact Ok_s ⟨_, rfl, rfl, F2.wide (by omega) (by omega)⟩
      exact Ok_bind key (fun r hr => Ok_s hr)
    · rw [if_neg h, if_neg h]
      exact Ok_s ⟨rfl, Fp.refl⟩
  · have dd := I.d
    have p16' := p16 I
    unfold Mo_leave
    refine Ok_b (Mo_isFloe_e hW (by omega)) ?_
    rw [ite_b2]
    by_cases h : 0 < W 1
    · rw [if_pos h, if_pos h]
      refine Ok_bind (Mo_goesThrough_e hW I) (fun m1 ⟨G, F⟩ => ?_)
      have W1 := hW.fp F (by omega)
      have inner : ∀ i, i < W 4 → loop (fun s : Int32 × Int32 => Mo_leave_l30 298 (nI (i + 1)) s.1 s.2 m1) (0, 0) = if (bfN W (mrM W (W 4 - (i + 1))) 0 (dueN W (i + 1)) (W 7)).1 = 0 then some (Sum.inl (nI (i + 1 + 1))) else some (Sum.inr (nI (i + 1), m1)) := by
        intro i hi
        have dl : dueN W (i + 1) < 2 ^ W 7 := bs_lt _ _
        have ed : Mo_leave_l30 298 (nI (i + 1)) (nI (dueN W (i + 1))) (nI (W 7)) m1 = some (.inr (if (bfN W (mrM W (W 4 - (i + 1))) 0 (dueN W (i + 1)) (W 7)).1 = 0 then Sum.inl (nI (i + 1 + 1)) else Sum.inr (nI (i + 1), m1))) := by
          have gt := Mo_goesTo_e (on := 0) W1 I (day := i + 1) (by omega) (G (i + 1 + 1) (by omega) (by omega)) (by omega) dl (Or.inl rfl)
          have bl := bf_le W (mrM W (W 4 + 1 - (i + 1 + 1))) (s := dueN W (i + 1)) (on := 0) (n := W 7) (by omega) (W 7) (Nat.le_refl _)
          unfold Mo_leave_l30
          rw [gd_t (by decide), qW7 W1, if_pos (nI_le (Nat.le_refl _) (by omega)), show Mo_goesTo 298 (nI (i + 1)) 0 (nI (dueN W (i + 1))) m1 = _ from gt, bind_s, nI_1]
          rw [show W 4 + 1 - (i + 1 + 1) = W 4 - (i + 1) by omega] at bl ⊢
          by_cases q : (bfN W (mrM W (W 4 - (i + 1))) 0 (dueN W (i + 1)) (W 7)).1 = 0
          · rw [if_pos q, q, if_pos (by decide), up_some]
          · rw [if_neg q, if_neg (nI_ne0 (by omega) (by omega)), up_some, up_some]
        have st : ∀ k, k < W 7 → Mo_leave_l30 298 (nI (i + 1)) (nI (bsN (fun o => decide (wot W o 0 ≤ i + 1)) k)) (nI k) m1 = some (.inl (nI (bsN (fun o => decide (wot W o 0 ≤ i + 1)) (k + 1)), nI (k + 1))) := by
          intro k hk
          obtain ⟨oo, o0, -⟩ := I.O hk
          unfold Mo_leave_l30 Mo_leave_b59
          rw [gd_t (by decide), qW7 W1, if_neg (nI_ge hk (by omega)), qO0 W1 (by omega), bind_s, shl1 (by omega), nI_or, nI_1, bsN_s]
          by_cases q : wot W k 0 ≤ i + 1
          · rw [if_neg (nI_nlt q (by omega)), if_pos (decide_eq_true q)]
          · rw [if_pos (nI_lt (by omega) (by omega)), if_neg (fun z => q (of_decide_eq_true z)), Nat.or_zero, show nI (bsN (fun o => decide (wot W o 0 ≤ i + 1)) k) ||| 0 = nI (bsN (fun o => decide (wot W o 0 ≤ i + 1)) k ||| 0) from nI_or _ 0, Nat.or_zero]
        have hh := loop_cnt (b := fun s : Int32 × Int32 => Mo_leave_l30 298 (nI (i + 1)) s.1 s.2 m1) (s0 := (0, 0)) (W 7) (fun k => (nI (bsN (fun o => decide (wot W o 0 ≤ i + 1)) k), nI k)) rfl (fun k hk => st k hk) ed
        rw [hh]
        split <;> rfl
      have hl : loop (fun s : Int32 => Mo_leave_l16 298 s m1) 1 = some (@fsN Int32 (lvQ W) (fun _ => Classical.propDecidable _) (fun d => nI d) (-1) (W 4) 1, m1) := by
        have ef : @fsN (Int32 × Mem) (lvQ W) (fun _ => Classical.propDecidable _) (fun d => (nI d, m1)) (-1, m1) (W 4) 1 = (@fsN Int32 (lvQ W) (fun _ => Classical.propDecidable _) (fun d => nI d) (-1) (W 4) 1, m1) := by
          have : ∀ k i, @fsN (Int32 × Mem) (lvQ W) (fun _ => Classical.propDecidable _) (fun d => (nI d, m1)) (-1, m1) k i = (@fsN Int32 (lvQ W) (fun _ => Classical.propDecidable _) (fun d => nI d) (-1) k i, m1) := by
            intro k
            induction k with
            | zero => intro i; rfl
            | succ k ih =>
              intro i
              unfold fsN
              rw [ih]
              split <;> rfl
          exact this _ _
        rw [← ef, ← fs_shift]
        refine @loop_first _ _ (fun s : Int32 => Mo_leave_l16 298 s m1) (W 4) (fun i => nI (i + 1)) (fun i => lvQ W (i + 1)) (fun i => Classical.propDecidable _) (fun i => (nI (i + 1), m1)) (-1, m1) _ rfl (fun i hi hp => ?_) (fun i hi hp => ?_) ?_
        · show Mo_leave_l16 298 (nI (i + 1)) m1 = _
          unfold Mo_leave_l16
          rw [gd_t (by decide), qW4 W1, if_neg (nI_nlt (by omega) (by omega)), inner i hi, if_neg hp]
        · show Mo_leave_l16 298 (nI (i + 1)) m1 = _
          unfold Mo_leave_l16
          rw [gd_t (by decide), qW4 W1, if_neg (nI_nlt (by omega) (by omega)), inner i hi, if_pos (Classical.byContradiction (fun z => hp z))]
        · show Mo_leave_l16 298 (nI (W 4 + 1)) m1 = _
          unfold Mo_leave_l16
          rw [gd_t (by decide), qW4 W1, if_pos (nI_lt (by omega) (by omega)), up_some]
      exact Ok_e hl ⟨rfl, F.wide (by omega) (by omega)⟩
    · rw [if_neg h, if_neg h]
      exact Ok_s ⟨rfl, Fp.refl⟩
end GOING

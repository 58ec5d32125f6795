/-! fault, struck, count; part, with, enough, lacks, lost, safe, judge -/
section QC
variable {m : Mem} {W : Wd}
theorem st_fault (x : Int32) : Same (rd (PL_fault 1 x)) (rd (Mo_fault 298 x)) := by
  refine Same_q (fun _ m => if x = 0 then m.1 298 12 else if x = 1 then m.1 298 13 else -1) (fun m W p R I => Ok_rd ?_) (fun m W p hW I => Ok_rd ?_) (fun m m' W F => ?_)
  · obtain ⟨-, ⟨f1, f2, -⟩, -, -⟩ := p
    unfold PL_fault
    rw [show rI m (1 + 1) 3 = m.1 298 12 from f1, show rI m (1 + 1) 4 = m.1 298 13 from f2]
    split
    · rfl
    · split <;> rfl
  · unfold Mo_fault
    split
    · rfl
    · split <;> rfl
  · rw [F.a (by omega), F.a (by omega)]
theorem st_struck : Same (rd (PL_struck 1)) (rd (Mo_struck 298)) := by
  refine Same_q (fun _ m => m.1 298 26) (fun m W p R I => Ok_rd ?_) (fun m W p hW I => Ok_rd rfl) (fun m m' W F => F.a (by omega) _)
  obtain ⟨-, ⟨-, -, f3⟩, -, -⟩ := p
  exact congrArg some f3
def hmN (W : Wd) : Nat := sN (fun h => if whe W h 0 = 1 then 1 else 0) 8
theorem Ca_heapsThere_e {c : Nat} (R : CR m c W) (I : Inv W) : Ca_heapsThere c m = some (nI (hmN W)) := by
  unfold Ca_heapsThere
  refine loop_sum 8 (fun h => if whe W h 0 = 1 then 1 else 0) (fun a => nI a) (fun h a hh ha => ?_) (fun a ha => ?_)
  · unfold Ca_heapsThere_l4 Ca_heapsThere_b21
    rw [if_neg (show ¬ (8 : Int32) ≤ nI h from nI_ge (b := 8) hh (by decide)), Ca_hasHeap_e R I hh, bind_s, ite_b2, nI_1, nI_1]
    by_cases q : whe W h 0 = 1
    · simp only [q, if_true]
    · simp only [q, if_false]; rfl
  · unfold Ca_heapsThere_l4
    rw [if_pos (show (8 : Int32) ≤ nI 8 from by decide), up_some]
theorem Mo_heapMany_e (hW : MW m W) (I : Inv W) : Mo_heapMany 298 m = some (nI (hmN W)) := by
  unfold Mo_heapMany
  refine loop_sum 8 (fun h => if whe W h 0 = 1 then 1 else 0) (fun a => nI a) (fun h a hh ha => ?_) (fun a ha => ?_)
  · unfold Mo_heapMany_l4 Mo_heapMany_b24
    rw [if_neg (show ¬ (8 : Int32) ≤ nI h from nI_ge (b := 8) hh (by decide)), qT hW hh (I.H hh).1, bind_s, ite_b2, nI_1, nI_1, show nI a + 0 = nI (a + 0) from nI_add a 0]
    by_cases q : whe W h 0 = 1
    · simp only [q, if_true]
    · simp only [q, if_false]
  · unfold Mo_heapMany_l4
    rw [if_pos (show (8 : Int32) ≤ nI 8 from by decide), up_some]
theorem Ca_sleepers_e {c : Nat} (R : CR m c W) : Ca_sleepers c m = some (nI (sN (fun g => wgr W g 2) 4)) := by
  unfold Ca_sleepers
  refine loop_sum 4 (fun g => wgr W g 2) (fun a => nI a) (fun g a hg ha => ?_) (fun a ha => ?_)
  · unfold Ca_sleepers_l4
    rw [if_neg (show ¬ (4 : Int32) ≤ nI g from nI_ge (b := 4) hg (by decide)), gd_in hg (by decide), ix_nI (by omega), show rI m (c + 38) g = nI (wgr W g 2) from R.g2 hg, nI_add, nI_1]
  · unfold Ca_sleepers_l4
    rw [if_pos (show (4 : Int32) ≤ nI 4 from by decide), up_some]
theorem slot_kd : ∀ k, k < 4 → kd (195 + 2 * k) = 7 := by decide +kernel
theorem PL_slotAt_e (m : Mem) (x : Int32) : PL_slotAt 1 x m = some (if inb x 4 then 195 + 2 * ix x else 0) := by
  unfold PL_slotAt
  rw [show (if x < 0 then some 0 else if 4 ≤ x then some 0 else gd (inb x 4) (some (1 + 193 + (1 + 2 * ix x)))) = if inb x 4 then gd (inb x 4) (some (1 + 193 + (1 + 2 * ix x))) else some 0 from ite_rng (n := 4) (by decide) x (some 0) _]
  by_cases h : inb x 4
  · rw [if_pos h, if_pos h, gd_t h, show 1 + 193 + (1 + 2 * ix x) = 195 + 2 * ix x by omega]
  · rw [if_neg h, if_neg h]
theorem neg1 {n : Nat} (h : n < 2147483648) : nI n ≠ -1 := by
  intro z
  have e : (nI n).toInt = (-1 : Int32).toInt := by rw [z]
  rw [nI_toInt h] at e
  simp at e
def rwN (m : Mem) : Nat := sN (fun k => if m.1 314 k = -1 then 0 else 1) 4
theorem PL_rowsThere_e (p : PR m) : PL_rowsThere 1 m = some (nI (rwN m)) := by
  unfold PL_rowsThere
  refine loop_sum 4 (fun k => if m.1 314 k = -1 then 0 else 1) (fun a => nI a) (fun k a hk ha => ?_) (fun a ha => ?_)
  · unfold PL_rowsThere_l4 PL_rowsThere_b29
    rw [if_neg (show ¬ (4 : Int32) ≤ nI k from nI_ge (b := 4) hk (by decide)), PL_slotAt_e, bind_s, if_pos (in_nI hk (by decide)), ix_nI (by omega), if_neg (by omega), gd_t (slot_kd k hk), nI_1, nI_1]
    rcases p.2.2.2 k hk with ⟨e1, e2⟩ | ⟨e1, n, w, h1, h2, h3, h4, -⟩
    · rw [if_pos (show rI m (195 + 2 * k) 1 = 0 from e1)]
      simp only [e2, if_true]
      rfl
    · rw [show rI m (195 + 2 * k) 1 = 1 from e1, if_neg (by decide)]
      have : m.1 314 k ≠ -1 := by rw [h4]; exact neg1 (by omega)
      simp only [this, if_false]
  · unfold PL_rowsThere_l4
    rw [if_pos (show (4 : Int32) ≤ nI 4 from by decide), up_some]
theorem Mo_rows_e (m : Mem) : loop (fun s : Int32 × Int32 => Mo_count_l163 298 s.1 s.2 m) (0, 0) = some (nI (rwN m)) := by
  refine loop_sum 4 (fun k => if m.1 314 k = -1 then 0 else 1) (fun a => nI a) (fun k a hk ha => ?_) (fun a ha => ?_)
  · unfold Mo_count_l163 Mo_count_b184
    rw [if_neg (show ¬ (4 : Int32) ≤ nI k from nI_ge (b := 4) hk (by decide)), gd_in hk (by decide), ix_nI (by omega), nI_1, nI_1, show nI a + 0 = nI (a + 0) from nI_add a 0]
    by_cases e : m.1 314 k = -1
    · rw [if_pos (show rI m (298 + 16) k = -1 from e)]
      simp only [e, if_true]
    · rw [if_neg (show ¬ rI m (298 + 16) k = -1 from e)]
      simp only [e, if_false]
  · unfold Mo_count_l163
    rw [if_pos (show (4 : Int32) ≤ nI 4 from by decide), up_some]
def vCount (W : Wd) (m : Mem) (x : Int32) : Int32 :=
  if x = 0 then nI (W 1) else if x = 1 then nI (W 2) else if x = 2 then nI (W 3) else if x = 3 then nI (W 4) else if x = 4 then nI (W 5) else if x = 5 then nI (W 6) else if x = 6 then nI (W 7) else if x = 7 then nI (hmN W) else if x = 8 then nI (W 18) else if x = 9 then nI (W 0)
  else if x = 10 then m.1 298 5 else if x = 11 then nI (W 19) else if x = 12 then nI (sN (fun g => wgr W g 2) 4) else if x = 13 then nI (rwN m) else -1
theorem some_ite {X : Type} {c : Prop} [Decidable c] (a b : X) : (if c then some a else some b) = some (if c then a else b) := by
  split <;> rfl
theorem st_count (x : Int32) : Same (rd (PL_count 1 x)) (rd (Mo_count 298 x)) := by
  refine Same_q (fun W m => vCount W m x) (fun m W p R I => Ok_rd ?_) (fun m W p hW I => Ok_rd ?_) (fun m m' W F => ?_)
  · unfold PL_count vCount
    obtain ⟨⟨⟨L, l1, l2, l3⟩, -⟩, -⟩ := id p
    rw [show rI m (1 + 28) 0 = nI (W 1) from cf0 R, show rI m (1 + 28) 1 = nI (W 2) from cf1 R, show rI m (1 + 28) 2 = nI (W 3) from cf2 R, show rI m (1 + 28) 3 = nI (W 4) from cf3 R, show rI m (1 + 29) 1 = nI (W 5) from R.nC, show rI m (1 + 38) 1 = nI (W 6) from R.nS, show rI m (1 + 46) 1 = nI (W 7) from R.nO, show Ca_heapsThere (1 + 27) m = _ from Ca_heapsThere_e R I, show rI m (1 + 27) 7 = nI (W 18) from R.op, show rI m (1 + 28) 4 = nI (W 0) from cf4 R, show rI m (1 + 1) 1 = m.1 298 5 from l2.trans l3.symm, show rI m (1 + 27) 9 = nI (W 19) from R.wa, show Ca_sleepers (1 + 27) m = _ from Ca_sleepers_e R, PL_rowsThere_e p]
    simp only [bind_s, some_ite]
  · unfold Mo_count vCount
    rw [qW0 hW, qW1 hW, qW2 hW, qW3 hW, qW4 hW, qW5 hW, qW6 hW, qW7 hW, Mo_heapMany_e hW I, qW18 hW, qW19 hW, Mo_sleepers_e hW, Mo_rows_e]
    simp only [bind_s, gd_t (show inb 0 200 by decide), gd_t (show inb 1 200 by decide), gd_t (show inb 2 200 by decide), gd_t (show inb 3 200 by decide), gd_t (show inb 4 200 by decide), gd_t (show inb 5 200 by decide), gd_t (show inb 6 200 by decide), gd_t (show inb 7 200 by decide), gd_t (show inb 18 200 by decide), gd_t (show inb 19 200 by decide), some_ite]
  · unfold vCount rwN
    rw [F.a (by omega)]
    simp only [F.a (show (314 : Nat) < 203 ∨ 298 ≤ 314 by omega)]
/-! what is worked out by hours -/
theorem Ic_partsOf_e {t : Nat} (A : IcA m t W) (I : Inv W) {s : Nat} (hs : s < 2 ^ W 5) : Ic_partsOf t (nI s) m = some (m.2 (t + 1) s) := by
  have h7 := p2le (k := W 5) (n := 7) I.d.2.2.2.2.1
  have h128 : (2 : Nat) ^ 7 = 128 := by decide
  unfold Ic_partsOf
  rw [if_neg (nI_pos (by omega)), show rI m t 0 = nI (2 ^ W 5) from A.1, if_neg (nI_ge hs (by omega)), gd_in (n := 128) (by omega) (by decide), ix_nI (by omega)]
def vPart (W : Wd) (x : Int32) : Int64 := if 0 < W 1 ∧ inb x (2 ^ W 5) then hrC W (openL W) (W 5) (ix x) else -2
theorem st_part (x : Int32) : Same (PL_part 1 x) (Mo_part 298 x) := by
  refine Same_q (fun W _ => vPart W x) (fun m W p R I => ?_) (fun m W p hW I => ?_) (fun m m' W F => rfl)
  · have h7 := p2le (k := W 5) (n := 7) I.d.2.2.2.2.1
    have h128 : (2 : Nat) ^ 7 = 128 := by decide
    unfold PL_part vPart
    refine Ok_b (fl_hasSet R I x) ?_
    rw [ite_b2]
    by_cases h : 0 < W 1 ∧ inb x (2 ^ W 5)
    · obtain ⟨s, hs, rfl⟩ := in_of h.2 (by omega)
      rw [if_pos h, if_pos h, ix_nI (by omega)]
      refine Ok_bind (Ic_look_e (t := 203) R I (by omega)) (fun m1 ⟨F, A, a, b⟩ => ?_)
      refine Ok_bind (Ic_passHour_e A I a) (fun m2 ⟨L, q⟩ => ?_)
      refine Ok_b (Ic_partsOf_e (A.tk L.tk) I hs) (Ok_s ⟨q s hs, F.wide (by omega) (by omega) |>.trans (L.fp.wide (by omega) (by omega))⟩)
    · rw [if_neg h, if_neg h]
      exact Ok_s ⟨rfl, Fp.refl⟩
  · have h7 := p2le (k := W 5) (n := 7) I.d.2.2.2.2.1
    have h128 : (2 : Nat) ^ 7 = 128 := by decide
    have d := I.d
    unfold Mo_part vPart
    refine Ok_b (Mo_isSet_e hW (by omega) (by omega) x) ?_
    rw [ite_b2]
    by_cases h : 0 < W 1 ∧ inb x (2 ^ W 5)
    · obtain ⟨s, hs, rfl⟩ := in_of h.2 (by omega)
      rw [if_pos h, if_pos h, ix_nI (by omega)]
      refine Ok_bind (Mo_begin_e hW I) (fun m1 ⟨F, A, a⟩ => ?_)
      refine Ok_bind (Mo_hour_e (hW.fp F (by omega)) A I a) (fun m2 ⟨L, q⟩ => ?_)
      exact Ok_gd (in_nI (n := 128) (by omega) (by decide)) (Ok_s ⟨q s hs, F.wide (by omega) (by omega) |>.trans (L.fp.wide (by omega) (by omega))⟩)
    · rw [if_neg h, if_neg h]
      exact Ok_s ⟨rfl, Fp.refl⟩
/-- sums over sets of n cracks, all or those that are not enough -/
def wiL (W : Wd) (p : Nat → Int64) (n : Nat) (l : Int32) : Nat → Int64
  | 0 => 0
  | s + 1 => wiL W p n l s + if popN 7 s = n ∧ (l = 0 ∨ ¬ enoughN W s) then p s else 0
def vWith (W : Wd) (x l : Int32) : Int64 := if 0 < W 1 then if inb x (W 5 + 1) then wiL W (hrC W (openL W) (W 5)) (ix x) l (2 ^ W 5) else -2 else -2
theorem pop_le (n s : Nat) : popN n s ≤ n := by
  have := sN_le (f := fun k => if s.testBit k = true then 1 else 0) (c := 1) (n := n) (fun k _ => by split <;> omega)
  unfold popN
  omega
theorem wi_s (W : Wd) (p : Nat → Int64) (n : Nat) (l : Int32) (s : Nat) : wiL W p n l (s + 1) = if popN 7 s = n ∧ (l = 0 ∨ ¬ enoughN W s) then wiL W p n l s + p s else wiL W p n l s := by
  show wiL W p n l s + (if popN 7 s = n ∧ (l = 0 ∨ ¬ enoughN W s) then p s else 0) = _
  split
  · rfl
  · rw [Int64.add_zero]
theorem st_with (x l : Int32) : Same (PL_with 1 x l) (Mo_with 298 x l) := by
  refine Same_q (fun W _ => vWith W x l) (fun m W p R I => ?_) (fun m W p hW I => ?_) (fun m m' W F => rfl)
  · have h7 := p2le (k := W 5) (n := 7) I.d.2.2.2.2.1
    have h128 : (2 : Nat) ^ 7 = 128 := by decide
    have d := I.d
    unfold PL_with vWith
    refine Ok_b (fl_there R I) ?_
    rw [ite_b2]
    by_cases h : 0 < W 1
    · rw [if_pos h, if_pos h, show rI m (1 + 29) 1 = nI (W 5) from R.nC, ite_rle (by omega)]
      by_cases h2 : inb x (W 5 + 1)
      · obtain ⟨n, hn, rfl⟩ := in_of h2 (by omega)
        rw [if_pos h2, if_pos h2, ix_nI (by omega)]
        refine Ok_bind (Ic_look_e (t := 203) R I (by omega)) (fun m1 ⟨F, A, a, b⟩ => ?_)
        refine Ok_bind (Ic_passHour_e A I a) (fun m2 ⟨L, q⟩ => ?_)
        have K2 : IcK m2 203 W := fun s hs => Or.inl (by rw [L.1]; exact b s hs)
        refine Ok_loop (2 ^ W 5) (fun i y => (wiL W (hrC W (openL W) (W 5)) n l i, nI i, y)) (fun i y => KO 203 m2 y ∧ IcK y 203 W) m2 rfl ⟨KO.refl, K2⟩ (fun i y hi ⟨k, K⟩ => ?_) (fun y ⟨k, K⟩ => ?_)
        · have A2 : IcA y 203 W := (A.tk L.tk).ko k
          have pl := pop_le 7 i
          have part : ∀ z : Mem, z.2 = m2.2 → IcA z 203 W → PL_with_b98 1 (nI n) l (wiL W (hrC W (openL W) (W 5)) n l i) (nI i) z = some (.inl (wiL W (hrC W (openL W) (W 5)) n l i + hrC W (openL W) (W 5) i, nI (i + 1), z)) := by
            intro z hz hA
            unfold PL_with_b98 PL_with_b110
            rw [show Ic_partsOf (1 + 202) (nI i) z = _ from Ic_partsOf_e (t := 203) hA I hi, bind_s, hz, q i hi, nI_1]
          show Ok (PL_with_l61 1 (nI n) l (wiL W (hrC W (openL W) (W 5)) n l i) (nI i) y) _
          unfold PL_with_l61
          rw [show rI y (1 + 202) 0 = nI (2 ^ W 5) from A2.1, if_neg (nI_ge hi (by omega)), bitCount_7 y (by omega), bind_s]
          by_cases e : popN 7 i = n
          · refine Ok_it (congrArg nI e) ?_
            by_cases e2 : l = 0
            · refine Ok_it e2 ?_
              rw [part y k.2 A2]
              refine Ok_s ⟨y, ?_, k, K⟩
              rw [wi_s, if_pos ⟨e, Or.inl e2⟩]
            · refine Ok_if e2 (Ok_bind (Ic_isEnough_e (t := 203) A2 K I hi) ?_)
              rintro ⟨r, z⟩ ⟨hr, k2, K2⟩
              simp only at hr k2 K2 ⊢
              rw [hr, ite_b2]
              by_cases e3 : enoughN W i
              · rw [if_pos e3]
                unfold PL_with_b110
                refine Ok_s ⟨z, ?_, k.trans k2, K2⟩
                rw [wi_s, if_neg (fun w => w.2.elim e2 (fun g => g e3)), nI_1]
              · rw [if_neg e3, part z (k2.2.trans k.2) (A2.ko k2)]
                refine Ok_s ⟨z, ?_, k.trans k2, K2⟩
                rw [wi_s, if_pos ⟨e, Or.inr e3⟩]
          · refine Ok_if (fun w => e ((nI_eq (by omega) (by omega)).mp w)) ?_
            unfold PL_with_b110
            refine Ok_s ⟨y, ?_, k, K⟩
            rw [wi_s, if_neg (fun w => e w.1), nI_1]
        · have A2 : IcA y 203 W := (A.tk L.tk).ko k
          show Ok (PL_with_l61 1 (nI n) l (wiL W (hrC W (openL W) (W 5)) n l (2 ^ W 5)) (nI (2 ^ W 5)) y) _
          unfold PL_with_l61
          rw [show rI y (1 + 202) 0 = nI (2 ^ W 5) from A2.1, if_pos (nI_le (Nat.le_refl _) (by omega)), up_some]
          exact Ok_s ⟨_, rfl, rfl, ((F.wide (by omega) (by omega)).trans (L.fp.wide (by omega) (by omega))).trans (k.fp.wide (by omega) (by omega))⟩
      · rw [if_neg h2, if_neg h2]
        exact Ok_s ⟨rfl, Fp.refl⟩
    · rw [if_neg h, if_neg h]
      exact Ok_s ⟨rfl, Fp.refl⟩
  · have h7 := p2le (k := W 5) (n := 7) I.d.2.2.2.2.1
    have h128 : (2 : Nat) ^ 7 = 128 := by decide
    have d := I.d
    unfold Mo_with vWith
    refine Ok_b (Mo_isFloe_e hW (by omega)) ?_
    rw [ite_b2]
    by_cases h : 0 < W 1
    · rw [if_pos h, if_pos h]
      refine Ok_gd (by decide) ?_
      refine Ok_b (in0 m x (n := W 5 + 1) (by omega) ?_) ?_
      · rw [qW5 hW, nI_pred]
      rw [ite_b2]
      by_cases h2 : inb x (W 5 + 1)
      · obtain ⟨n, hn, rfl⟩ := in_of h2 (by omega)
        rw [if_pos h2, if_pos h2, ix_nI (by omega)]
        refine Ok_bind (Mo_begin_e hW I) (fun m1 ⟨F, A, a⟩ => ?_)
        refine Ok_bind (Mo_hour_e (hW.fp F (by omega)) A I a) (fun m2 ⟨L, q⟩ => ?_)
        have hW2 := (hW.fp F (by omega)).fp L.fp (by omega)
        refine Ok_e (x := (wiL W (hrC W (openL W) (W 5)) n l (2 ^ W 5), m2)) (loop_cnt (2 ^ W 5) (fun i => (wiL W (hrC W (openL W) (W 5)) n l i, nI i)) rfl (fun i hi => ?_) ?_) ⟨rfl, (F.wide (by omega) (by omega)).trans (L.fp.wide (by omega) (by omega))⟩
        · have pl := pop_le 7 i
          show Mo_with_l40 298 (nI n) l (wiL W (hrC W (openL W) (W 5)) n l i) (nI i) m2 = _
          unfold Mo_with_l40 Mo_with_b71 Mo_with_b81
          rw [Mo_sets_e hW2 (by omega), bind_s, if_neg (nI_ge hi (by omega)), Mo_ones_e m2 (by omega), bind_s, gd_in (n := 128) (by omega) (by decide), ix_nI (by omega), show rL m2 (298 + 7) i = _ from q i hi, nI_1, wi_s]
          by_cases e : popN 7 i = n
          · rw [if_pos (congrArg nI e)]
            by_cases e2 : l = 0
            · rw [if_pos e2, if_pos ⟨e, Or.inl e2⟩]
            · rw [if_neg e2, Mo_isEnough_e hW2 I (by omega), bind_s, ite_b2]
              by_cases e3 : enoughN W i
              · rw [if_pos e3, if_neg (fun w => w.2.elim e2 (fun g => g e3))]
              · rw [if_neg e3, if_pos ⟨e, Or.inr e3⟩]
          · rw [if_neg (fun w => e ((nI_eq (by omega) (by omega)).mp w)), if_neg (fun w => e w.1)]
        · show Mo_with_l40 298 (nI n) l (wiL W (hrC W (openL W) (W 5)) n l (2 ^ W 5)) (nI (2 ^ W 5)) m2 = _
          unfold Mo_with_l40
          rw [Mo_sets_e hW2 (by omega), bind_s, if_pos (nI_le (Nat.le_refl _) (by omega)), up_some]
      · rw [if_neg h2, if_neg h2]
        exact Ok_s ⟨rfl, Fp.refl⟩
    · rw [if_neg h, if_neg h]
      exact Ok_s ⟨rfl, Fp.refl⟩
def vEnough (W : Wd) (x : Int32) : Int32 := if 0 < W 1 ∧ inb x (2 ^ W 5) then if enoughN W (ix x) then 1 else 0 else -2
theorem st_enough (x : Int32) : Same (PL_enough 1 x) (rd (Mo_enough 298 x)) := by
  refine Same_q (fun W _ => vEnough W x) (fun m W p R I => ?_) (fun m W p hW I => Ok_rd ?_) (fun m m' W F => rfl)
  · have h7 := p2le (k := W 5) (n := 7) I.d.2.2.2.2.1
    have h128 : (2 : Nat) ^ 7 = 128 := by decide
    unfold PL_enough vEnough
    refine Ok_b (fl_hasSet R I x) ?_
    rw [ite_b2]
    by_cases h : 0 < W 1 ∧ inb x (2 ^ W 5)
    · obtain ⟨s, hs, rfl⟩ := in_of h.2 (by omega)
      rw [if_pos h, if_pos h, ix_nI (by omega)]
      refine Ok_bind (Ic_look_e (t := 203) R I (by omega)) (fun m1 ⟨F, A, a, b⟩ => ?_)
      refine Ok_bind (Ic_isEnough_e A (fun s hs => Or.inl (b s hs)) I hs) ?_
      rintro ⟨r, z⟩ ⟨hr, k2, K2⟩
      simp only at hr k2 K2 ⊢
      rw [hr, ite_b2]
      by_cases e : enoughN W s
      · rw [if_pos e, if_pos e]
        exact Ok_s ⟨rfl, (F.wide (by omega) (by omega)).trans (k2.fp.wide (by omega) (by omega))⟩
      · rw [if_neg e, if_neg e]
        exact Ok_s ⟨rfl, (F.wide (by omega) (by omega)).trans (k2.fp.wide (by omega) (by omega))⟩
    · rw [if_neg h, if_neg h]
      exact Ok_s ⟨rfl, Fp.refl⟩
  · have h7 := p2le (k := W 5) (n := 7) I.d.2.2.2.2.1
    have h128 : (2 : Nat) ^ 7 = 128 := by decide
    have d := I.d
    unfold Mo_enough vEnough
    rw [Mo_isSet_e hW (by omega) (by omega) x, bind_s, ite_b2]
    by_cases h : 0 < W 1 ∧ inb x (2 ^ W 5)
    · obtain ⟨s, hs, rfl⟩ := in_of h.2 (by omega)
      rw [if_pos h, if_pos h, ix_nI (by omega), Mo_isEnough_e hW I (by omega), bind_s, ite_b2]
      split <;> rfl
    · rw [if_neg h, if_neg h]
def vLacks (W : Wd) (x k : Int32) : Int32 := if 0 < W 1 ∧ inb x (2 ^ W 5) then if inb k 4 then nI (lacksN W (ix x) (ix k)) else -2 else -2
theorem st_lacks (x k : Int32) : Same (PL_lacks 1 x k) (rd (Mo_lacks 298 x k)) := by
  refine Same_q (fun W _ => vLacks W x k) (fun m W p R I => ?_) (fun m W p hW I => Ok_rd ?_) (fun m m' W F => rfl)
  · have h7 := p2le (k := W 5) (n := 7) I.d.2.2.2.2.1
    have h128 : (2 : Nat) ^ 7 = 128 := by decide
    unfold PL_lacks vLacks
    refine Ok_b (fl_hasSet R I x) ?_
    rw [ite_b2]
    by_cases h : 0 < W 1 ∧ inb x (2 ^ W 5)
    · obtain ⟨s, hs, rfl⟩ := in_of h.2 (by omega)
      rw [if_pos h, if_pos h, ix_nI (by omega), show (4 : Int32) = nI 4 from rfl, ite_rlt (by decide)]
      by_cases h2 : inb k 4
      · obtain ⟨j, hj, rfl⟩ := in_of h2 (by decide)
        rw [if_pos h2, if_pos h2, ix_nI (by omega)]
        refine Ok_bind (Ic_look_e (t := 203) R I (by omega)) (fun m1 ⟨F, A, a, b⟩ => ?_)
        exact Ok_b (Ic_lacking_e (t := 203) A I hs hj) (Ok_s ⟨rfl, F.wide (by omega) (by omega)⟩)
      · rw [if_neg h2, if_neg h2]
        exact Ok_s ⟨rfl, Fp.refl⟩
    · rw [if_neg h, if_neg h]
      exact Ok_s ⟨rfl, Fp.refl⟩
  · have h7 := p2le (k := W 5) (n := 7) I.d.2.2.2.2.1
    have h128 : (2 : Nat) ^ 7 = 128 := by decide
    have d := I.d
    unfold Mo_lacks vLacks
    rw [Mo_isSet_e hW (by omega) (by omega) x, bind_s, ite_b2]
    by_cases h : 0 < W 1 ∧ inb x (2 ^ W 5)
    · obtain ⟨s, hs, rfl⟩ := in_of h.2 (by omega)
      rw [if_pos h, if_pos h, ix_nI (by omega), in0 m k (n := 4) (by decide) (by decide), bind_s, ite_b2]
      by_cases h2 : inb k 4
      · obtain ⟨j, hj, rfl⟩ := in_of h2 (by decide)
        rw [if_pos h2, if_pos h2, ix_nI (by omega), Mo_lacksOf_e hW I (by omega) (by omega), bind_s]
      · rw [if_neg h2, if_neg h2]
    · rw [if_neg h, if_neg h]
end QC

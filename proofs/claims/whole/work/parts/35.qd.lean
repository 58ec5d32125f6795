/-! lost, safe, judge -/
theorem ite_rab {X : Type} (x a b : Int32) (p q : X) : (if x < a then p else if x ≤ b then q else p) = if a ≤ x ∧ x ≤ b then q else p := by
  by_cases h : x < a
  · rw [if_pos h, if_neg (fun z => Int32.not_lt.mpr z.1 h)]
  · rw [if_neg h]
    by_cases k : x ≤ b
    · rw [if_pos k, if_pos ⟨Int32.not_lt.mp h, k⟩]
    · rw [if_neg k, if_neg (fun z => k z.2)]
theorem Mo_in_g (m : Mem) (x a b : Int32) {lo hi : Int64} (h1 : lo = a.toInt64) (h2 : hi = b.toInt64) : Mo_in x.toInt64 lo hi m = some (b2 (a ≤ x ∧ x ≤ b)) := by
  unfold Mo_in
  by_cases h : x < a
  · rw [if_pos (by rw [h1]; exact (wide_lt _ _).mpr h), b2_f (fun z => Int32.not_lt.mpr z.1 h)]
  · rw [if_neg (by rw [h1]; exact fun z => h ((wide_lt _ _).mp z))]
    by_cases k : b < x
    · rw [if_pos (by rw [h2]; exact (wide_lt _ _).mpr k), b2_f (fun z => Int32.not_lt.mpr z.2 k)]
    · rw [if_neg (by rw [h2]; exact fun z => k ((wide_lt _ _).mp z)), b2_t ⟨Int32.not_lt.mp h, Int32.not_lt.mp k⟩]
theorem rg_of {x : Int32} {a b : Nat} (ha : a < 2147483648) (hb : b < 2147483648) (h : nI a ≤ x ∧ x ≤ nI b) : ∃ j, a ≤ j ∧ j ≤ b ∧ x = nI j := by
  have h0 : ¬ x < 0 := fun z => nI_pos (show a < 2147483648 by omega) (Int32.lt_of_le_of_lt h.1 z)
  obtain ⟨j, hj, rfl⟩ := nI_of h0
  exact ⟨j, (nI_leI ha hj).mp h.1, (nI_leI hj hb).mp h.2, rfl⟩
/-- a counting loop that may leave early, with something carried along -/
theorem Ok_first {S R X V : Type} {b : S → Option (S ⊕ R)} {s0 : S} (p : R → V) (F : R → Prop) (g : Nat → V) (z : V) (n : Nat) (st : Nat → X → S) (J : Nat → X → Prop) (P : Nat → Prop) [DecidablePred P] (x0 : X) (h0 : st 0 x0 = s0) (p0 : J 0 x0)
    (hp : ∀ i x, i < n → J i x → P i → Ok (b (st i x)) (fun r => ∃ y, r = .inr y ∧ p y = g i ∧ F y))
    (hn : ∀ i x, i < n → J i x → ¬ P i → Ok (b (st i x)) (fun r => ∃ x', r = .inl (st (i + 1) x') ∧ J (i + 1) x'))
    (hx : ∀ x, J n x → Ok (b (st n x)) (fun r => ∃ y, r = .inr y ∧ p y = z ∧ F y)) : Ok (loop b s0) (fun r => p r = fsN P g z n 0 ∧ F r) := by
  subst h0
  have key : ∀ k i x, i + k = n → J i x → Ok (loop b (st i x)) (fun r => p r = fsN P g z k i ∧ F r) := by
    intro k
    induction k with
    | zero =>
      intro i x hi hj
      rw [show i = n by omega] at hj ⊢
      obtain ⟨r, e, y, rfl, q⟩ := hx x hj
      exact ⟨y, loop_out e, q⟩
    | succ k ih =>
      intro i x hi hj
      unfold fsN
      by_cases hP : P i
      · obtain ⟨r, e, y, rfl, q⟩ := hp i x (by omega) hj hP
        exact ⟨y, loop_out e, by rw [if_pos hP]; exact q⟩
      · obtain ⟨r, e, y, rfl, q⟩ := hn i x (by omega) hj hP
        rw [show loop b (st i x) = loop b (st (i + 1) y) from loop_in e, if_neg hP]
        exact ih (i + 1) y (by omega) q
  exact key n 0 x0 (by omega) p0
theorem L_ge {N : Nat} (h : 1 ≤ N) (hN : N < 2147483648) (v : Int64) : ((nI N - 1).toInt64 < v) ↔ (nI N).toInt64 ≤ v := by
  rw [nI_p1 h, Int64.lt_iff_toInt_lt, Int64.le_iff_toInt_le, Int32.toInt_toInt64, Int32.toInt_toInt64, nI_toInt (by omega), nI_toInt (by omega)]
  omega
theorem L_of {N : Nat} (hN : N < 2147483648) {v : Int64} (h0 : ¬ v < 0) (h1 : ¬ (nI N).toInt64 ≤ v) : ∃ s, s < N ∧ v = (nI s).toInt64 := by
  rw [Int64.lt_iff_toInt_lt] at h0
  rw [Int64.le_iff_toInt_le, Int32.toInt_toInt64, nI_toInt (by omega)] at h1
  have h2 : (0 : Int64).toInt = 0 := rfl
  refine ⟨v.toInt.toNat, by omega, ?_⟩
  apply Int64.toInt_inj.mp
  rw [Int32.toInt_toInt64, nI_toInt (by omega)]
  omega
section QD
variable {m : Mem} {W : Wd}
def vLost (W : Wd) (x : Int32) : Int64 := if 0 < W 1 then if 1 ≤ x ∧ x ≤ 48 then lostL W (openL W) (ix x) else -2 else -2
theorem st_lost (x : Int32) : Same (PL_lost 1 x) (Mo_lost 298 x) := by
  refine Same_q (fun W _ => vLost W x) (fun m W p R I => ?_) (fun m W p hW I => ?_) (fun m m' W F => rfl)
  · unfold PL_lost vLost
    refine Ok_b (fl_there R I) ?_
    rw [ite_b2]
    by_cases h : 0 < W 1
    · rw [if_pos h, if_pos h, ite_rab]
      by_cases h2 : 1 ≤ x ∧ x ≤ 48
      · obtain ⟨j, h3, h4, rfl⟩ := rg_of (a := 1) (b := 48) (by decide) (by decide) h2
        rw [if_pos h2, if_pos h2, ix_nI (by omega)]
        exact Ok_bind (Ic_lostIn_e (t := 203) R I (by omega) (by omega)) (fun r ⟨a, F⟩ => Ok_s ⟨a, F.wide (by omega) (by omega)⟩)
      · rw [if_neg h2, if_neg h2]
        exact Ok_s ⟨rfl, Fp.refl⟩
    · rw [if_neg h, if_neg h]
      exact Ok_s ⟨rfl, Fp.refl⟩
  · have d := I.d
    unfold Mo_lost vLost
    refine Ok_b (Mo_isFloe_e hW (by omega)) ?_
    rw [ite_b2]
    by_cases h : 0 < W 1
    · rw [if_pos h, if_pos h]
      refine Ok_b (Mo_in_g m x 1 48 (by decide) (by decide)) ?_
      rw [ite_b2]
      by_cases h2 : 1 ≤ x ∧ x ≤ 48
      · obtain ⟨j, h3, h4, rfl⟩ := rg_of (a := 1) (b := 48) (by decide) (by decide) h2
        rw [if_pos h2, if_pos h2, ix_nI (by omega)]
        exact Ok_bind (Mo_lostIn_e hW I (by omega)) (fun r ⟨a, F⟩ => Ok_s ⟨a, F.wide (by omega) (by omega)⟩)
      · rw [if_neg h2, if_neg h2]
        exact Ok_s ⟨rfl, Fp.refl⟩
    · rw [if_neg h, if_neg h]
      exact Ok_s ⟨rfl, Fp.refl⟩
def vSafe (W : Wd) (x : Int32) : Int32 := if 0 < W 1 then if inb x 1001 then fsN (fun i => ¬ lostL W (openL W) (i + 1) ≤ x.toInt64 * 1000000000) (fun i => nI i) 48 48 0 else -2 else -2
theorem st_safe (x : Int32) : Same (PL_safe 1 x) (Mo_safe 298 x) := by
  refine Same_q (fun W _ => vSafe W x) (fun m W p R I => ?_) (fun m W p hW I => ?_) (fun m m' W F => rfl)
  · unfold PL_safe vSafe
    refine Ok_b (fl_there R I) ?_
    rw [ite_b2]
    by_cases h : 0 < W 1
    · rw [if_pos h, if_pos h]
      refine Ok_b (PL_isThousandths_e m x) ?_
      rw [ite_b2]
      by_cases h2 : inb x 1001
      · rw [if_pos h2, if_pos h2]
        refine Ok_bind (Ic_look_e (t := 203) R I (by omega)) (fun m1 ⟨F, A, a, b⟩ => ?_)
        refine Ok_first (fun r : Int32 × Mem => r.1) (fun r => Fp 203 298 m r.2) (fun i => nI i) 48 48 (fun i y => (lostL W (openL W) i, nI (i + 1), y)) (fun i y => TK 203 m1 y ∧ IcK y 203 W ∧ ∀ s, s < 2 ^ W 5 → y.2 204 s = pHr W (openL W) i s) (fun i => ¬ lostL W (openL W) (i + 1) ≤ x.toInt64 * 1000000000) m1 rfl ⟨TK.refl, fun s hs => Or.inl (b s hs), a⟩ (fun i y hi ⟨T, K, q⟩ hp => ?_) (fun i y hi ⟨T, K, q⟩ hp => ?_) (fun y ⟨T, K, q⟩ => ?_)
        · show Ok (PL_safe_l39 1 x (lostL W (openL W) i) (nI (i + 1)) y) _
          unfold PL_safe_l39
          refine Ok_if (show ¬ (48 : Int32) < nI (i + 1) from nI_nlt (a := 48) (by omega) (by decide)) ?_
          refine Ok_bind (Ic_passHour_e (t := 203) (A.tk T) I q) (fun z ⟨L, q2⟩ => ?_)
          refine Ok_bind (Ic_takeOut_e (t := 203) ((A.tk T).tk L.tk) (K.lo L) I q2) (fun r ⟨r1, T2, K2, q3⟩ => ?_)
          rw [r1]
          refine Ok_if hp ?_
          rw [up_some]
          exact Ok_s ⟨_, rfl, nI_pred i, (F.trans (((T.trans L.tk).trans T2).fp.wide (by omega) (by omega))).wide (by omega) (by omega)⟩
        · show Ok (PL_safe_l39 1 x (lostL W (openL W) i) (nI (i + 1)) y) _
          unfold PL_safe_l39
          refine Ok_if (show ¬ (48 : Int32) < nI (i + 1) from nI_nlt (a := 48) (by omega) (by decide)) ?_
          refine Ok_bind (Ic_passHour_e (t := 203) (A.tk T) I q) (fun z ⟨L, q2⟩ => ?_)
          refine Ok_bind (Ic_takeOut_e (t := 203) ((A.tk T).tk L.tk) (K.lo L) I q2) (fun r ⟨r1, T2, K2, q3⟩ => ?_)
          rw [r1]
          refine Ok_it (Classical.byContradiction hp) ?_
          exact Ok_s ⟨_, by rw [nI_1]; rfl, (T.trans L.tk).trans T2, K2, q3⟩
        · show Ok (PL_safe_l39 1 x (lostL W (openL W) 48) (nI (48 + 1)) y) _
          unfold PL_safe_l39
          refine Ok_it (show (48 : Int32) < nI (48 + 1) by decide) ?_
          rw [up_some]
          exact Ok_s ⟨_, rfl, rfl, (F.trans (T.fp.wide (by omega) (by omega))).wide (by omega) (by omega)⟩
      · rw [if_neg h2, if_neg h2]
        exact Ok_s ⟨rfl, Fp.refl⟩
    · rw [if_neg h, if_neg h]
      exact Ok_s ⟨rfl, Fp.refl⟩
  · have d := I.d
    unfold Mo_safe vSafe
    refine Ok_b (Mo_isFloe_e hW (by omega)) ?_
    rw [ite_b2]
    by_cases h : 0 < W 1
    · rw [if_pos h, if_pos h]
      refine Ok_b (in0 m x (n := 1001) (by decide) (by decide)) ?_
      rw [ite_b2]
      by_cases h2 : inb x 1001
      · rw [if_pos h2, if_pos h2]
        refine Ok_bind (Mo_begin_e hW I) (fun m1 ⟨F, A, a⟩ => ?_)
        have hW1 := hW.fp F (by omega)
        refine Ok_first (fun r : Int32 × Mem => r.1) (fun r => Fp 303 314 m r.2) (fun i => nI i) 48 48 (fun i y => (lostL W (openL W) i, nI (i + 1), y)) (fun i y => LO 305 m1 y ∧ ∀ s, s < 2 ^ W 5 → y.2 305 s = pHr W (openL W) i s) (fun i => ¬ lostL W (openL W) (i + 1) ≤ x.toInt64 * 1000000000) m1 rfl ⟨LO.refl, a⟩ (fun i y hi ⟨T, q⟩ hp => ?_) (fun i y hi ⟨T, q⟩ hp => ?_) (fun y ⟨T, q⟩ => ?_)
        · show Ok (Mo_safe_l31 298 x (lostL W (openL W) i) (nI (i + 1)) y) _
          unfold Mo_safe_l31
          refine Ok_if (show ¬ (48 : Int32) < nI (i + 1) from nI_nlt (a := 48) (by omega) (by decide)) ?_
          refine Ok_bind (Mo_loses_e (hW1.fp T.fp (by omega)) (A.e (by rw [T.1])) I q) (fun r ⟨r1, L, q2⟩ => ?_)
          rw [r1]
          refine Ok_if hp ?_
          rw [up_some]
          exact Ok_s ⟨_, rfl, nI_pred i, (F.trans ((T.trans L).fp.wide (by omega) (by omega))).wide (by omega) (by omega)⟩
        · show Ok (Mo_safe_l31 298 x (lostL W (openL W) i) (nI (i + 1)) y) _
          unfold Mo_safe_l31
          refine Ok_if (show ¬ (48 : Int32) < nI (i + 1) from nI_nlt (a := 48) (by omega) (by decide)) ?_
          refine Ok_bind (Mo_loses_e (hW1.fp T.fp (by omega)) (A.e (by rw [T.1])) I q) (fun r ⟨r1, L, q2⟩ => ?_)
          rw [r1]
          refine Ok_it (Classical.byContradiction hp) ?_
          exact Ok_s ⟨_, by rw [nI_1]; rfl, T.trans L, q2⟩
        · show Ok (Mo_safe_l31 298 x (lostL W (openL W) 48) (nI (48 + 1)) y) _
          unfold Mo_safe_l31
          refine Ok_it (show (48 : Int32) < nI (48 + 1) by decide) ?_
          rw [up_some]
          exact Ok_s ⟨_, rfl, rfl, (F.trans (T.fp.wide (by omega) (by omega))).wide (by omega) (by omega)⟩
      · rw [if_neg h2, if_neg h2]
        exact Ok_s ⟨rfl, Fp.refl⟩
    · rw [if_neg h, if_neg h]
      exact Ok_s ⟨rfl, Fp.refl⟩
abbrev jgP (W : Wd) (v : Int64) : Prop := v < 0 ∨ (nI (2 ^ W 5)).toInt64 ≤ v ∨ ¬ enoughN W (ix v.toInt32)
def vJudge (W : Wd) (m : Mem) (x : Int32) : Int32 := if inb x 4 then if 0 < W 1 then if m.1 314 (ix x) = -1 then -6 else fsN (fun i => jgP W (m.2 316 (60 * ix x + i))) (fun i => nI i) (m.1 314 (ix x)) (ix (m.1 314 (ix x))) 0 else -2 else -2
theorem Mo_isSlot_e (m : Mem) (x : Int32) : Mo_isSlot x m = some (b2 (inb x 4)) := by
  unfold Mo_isSlot
  rw [in0 m x (n := 4) (by decide) (by decide), bind_s, gd_t b2_z]
theorem Ro_numberAt_e {t n i : Nat} (h3 : m.1 t 3 = nI n) (hn : n ≤ 60) (hi : i < n) : Ro_numberAt t (nI i) m = some (m.2 (t + 1) i) := by
  unfold Ro_numberAt Ro_hasNumbers
  rw [if_neg (nI_pos (by omega)), if_neg (by decide), show rI m t 3 = nI n from h3, if_neg (nI_nlt (by omega) (by omega)), pk_sub (by omega), if_neg (show ¬ nI (n - i) < 1 from nI_nlt (b := 1) (by omega) (by omega)), bind_s, if_neg (by decide), gd_in (by omega) (by decide), ix_nI (by omega)]
theorem L_back (s : Nat) : (nI s).toInt64.toInt32 = nI s := by simp
theorem st_judge (x : Int32) : Same (PL_judge 1 x) (rd (Mo_judge 298 x)) := by
  refine Same_q (fun W m => vJudge W m x) (fun m W p R I => ?_) (fun m W p hW I => Ok_rd ?_) (fun m m' W F => ?_)
  · have h7 := p2le (k := W 5) (n := 7) I.d.2.2.2.2.1
    have h128 : (2 : Nat) ^ 7 = 128 := by decide
    unfold PL_judge vJudge
    refine Ok_b (PL_slotAt_e m x) ?_
    by_cases h : inb x 4
    · obtain ⟨k, hk, rfl⟩ := in_of h (by decide)
      rw [if_pos h, if_pos h, ix_nI (by omega), if_neg (by omega)]
      refine Ok_gd (slot_kd k hk) (Ok_b (fl_there R I) ?_)
      rw [ite_b2]
      by_cases h1 : 0 < W 1
      · rw [if_pos h1, if_pos h1]
        rcases p.2.2.2 k hk with ⟨e1, e2⟩ | ⟨e1, n, w, n1, n2, n3, n4, n5, n6, n7⟩
        · rw [e2, if_pos (show rI m (195 + 2 * k) 1 = 0 from e1), if_pos rfl]
          exact Ok_s ⟨rfl, Fp.refl⟩
        · rw [show rI m (195 + 2 * k) 1 = 1 from e1, if_neg (by decide), n4, if_neg (neg1 (by omega)), ix_nI (by omega)]
          refine Ok_bind (Ic_look_e (t := 203) R I (by omega)) (fun m1 ⟨F, A, a, b⟩ => ?_)
          have s3 : m1.1 (195 + 2 * k) 3 = nI n := by rw [F.a (by omega), n3]
          refine Ok_first (fun r : Int32 × Mem => r.1) (fun r => Fp 203 298 m r.2) (fun i => nI i) (nI n) n (fun i y => (nI i, y)) (fun i y => KO 203 m1 y ∧ IcK y 203 W) (fun i => jgP W (m.2 316 (60 * k + i))) m1 rfl ⟨KO.refl, fun s hs => Or.inl (b s hs)⟩ (fun i y hi ⟨T, K⟩ hp => ?_) (fun i y hi ⟨T, K⟩ hp => ?_) (fun y ⟨T, K⟩ => ?_)
          · have y3 : y.1 (195 + 2 * k) 3 = nI n := by rw [T.1 _ (by omega), s3]
            have FF : Fp 203 298 m y := (F.trans (T.fp.wide (by omega) (by omega))).wide (by omega) (by omega)
            have y4 : y.2 (195 + 2 * k + 1) i = m.2 316 (60 * k + i) := by rw [T.2, show 195 + 2 * k + 1 = 196 + 2 * k by omega, F.b (by omega), n7 i (by omega)]
            show Ok (PL_judge_l49 1 (195 + 2 * k) (nI i) y) _
            unfold PL_judge_l49
            rw [show rI y (195 + 2 * k) 3 = nI n from y3]
            refine Ok_if (nI_ge hi (by omega)) (Ok_b (Ro_numberAt_e y3 (by omega) hi) ?_)
            rw [y4]
            by_cases q1 : m.2 316 (60 * k + i) < 0
            · refine Ok_it q1 ?_
              rw [up_some]
              exact Ok_s ⟨_, rfl, rfl, FF⟩
            · refine Ok_if q1 ?_
              rw [show rI y (1 + 202) 0 = nI (2 ^ W 5) from (A.ko T).1]
              by_cases q2 : (nI (2 ^ W 5)).toInt64 ≤ m.2 316 (60 * k + i)
              · refine Ok_it q2 ?_
                rw [up_some]
                exact Ok_s ⟨_, rfl, rfl, FF⟩
              · refine Ok_if q2 ?_
                have q3 : ¬ enoughN W (ix (m.2 316 (60 * k + i)).toInt32) := (hp.resolve_left q1).resolve_left q2
                obtain ⟨s, hs, e⟩ := L_of (by omega) q1 q2
                rw [e, L_back] at q3 ⊢
                rw [ix_nI (by omega)] at q3
                refine Ok_bind (Ic_isEnough_e (t := 203) (A.ko T) K I hs) (fun r ⟨r1, k2, K2⟩ => ?_)
                rw [r1, b2_f q3]
                refine Ok_it rfl ?_
                rw [up_some]
                exact Ok_s ⟨_, rfl, rfl, FF.trans (k2.fp.wide (by omega) (by omega))⟩
          · have y3 : y.1 (195 + 2 * k) 3 = nI n := by rw [T.1 _ (by omega), s3]
            have y4 : y.2 (195 + 2 * k + 1) i = m.2 316 (60 * k + i) := by rw [T.2, show 195 + 2 * k + 1 = 196 + 2 * k by omega, F.b (by omega), n7 i (by omega)]
            show Ok (PL_judge_l49 1 (195 + 2 * k) (nI i) y) _
            unfold PL_judge_l49
            rw [show rI y (195 + 2 * k) 3 = nI n from y3]
            refine Ok_if (nI_ge hi (by omega)) (Ok_b (Ro_numberAt_e y3 (by omega) hi) ?_)
            rw [y4]
            have q1 : ¬ m.2 316 (60 * k + i) < 0 := fun z => hp (Or.inl z)
            have q2 : ¬ (nI (2 ^ W 5)).toInt64 ≤ m.2 316 (60 * k + i) := fun z => hp (Or.inr (Or.inl z))
            have q3 : enoughN W (ix (m.2 316 (60 * k + i)).toInt32) := Classical.byContradiction (fun z => hp (Or.inr (Or.inr z)))
            refine Ok_if q1 ?_
            rw [show rI y (1 + 202) 0 = nI (2 ^ W 5) from (A.ko T).1]
            refine Ok_if q2 ?_
            obtain ⟨s, hs, e⟩ := L_of (by omega) q1 q2
            rw [e, L_back] at q3 ⊢
            rw [ix_nI (by omega)] at q3
            refine Ok_bind (Ic_isEnough_e (t := 203) (A.ko T) K I hs) (fun r ⟨r1, k2, K2⟩ => ?_)
            rw [r1, b2_t q3]
            refine Ok_if (by decide) ?_
            exact Ok_s ⟨_, by rw [nI_1], T.trans k2, K2⟩
          · show Ok (PL_judge_l49 1 (195 + 2 * k) (nI n) y) _
            unfold PL_judge_l49
            rw [show rI y (195 + 2 * k) 3 = nI n by rw [← s3]; exact congrFun (T.1 _ (by omega)) 3, if_pos (nI_le (Nat.le_refl _) (by omega)), up_some]
            exact Ok_s ⟨_, rfl, rfl, (F.trans (T.fp.wide (by omega) (by omega))).wide (by omega) (by omega)⟩
      · rw [if_neg h1, if_neg h1]
        exact Ok_s ⟨rfl, Fp.refl⟩
    · rw [if_neg h, if_neg h, if_pos rfl]
      exact Ok_s ⟨rfl, Fp.refl⟩
  · have h7 := p2le (k := W 5) (n := 7) I.d.2.2.2.2.1
    have h128 : (2 : Nat) ^ 7 = 128 := by decide
    have d := I.d
    have hN := Nat.two_pow_pos (W 5)
    unfold Mo_judge vJudge
    rw [Mo_isSlot_e, bind_s, ite_b2]
    by_cases h : inb x 4
    · obtain ⟨k, hk, rfl⟩ := in_of h (by decide)
      rw [if_pos h, if_pos h, ix_nI (by omega), Mo_isFloe_e hW (by omega), bind_s, ite_b2]
      by_cases h1 : 0 < W 1
      · rw [if_pos h1, if_pos h1, gd_t h]
        rcases p.2.2.2 k hk with ⟨e1, e2⟩ | ⟨e1, n, w, n1, n2, n3, n4, n5, n6, n7⟩
        · rw [e2, if_pos (show rI m (298 + 16) k = -1 from e2), if_pos rfl]
        · have n8 : rI m (298 + 16) k = nI n := n4
          rw [n4, n8, if_neg (neg1 (by omega)), if_neg (neg1 (by omega)), ix_nI (by omega)]
          have pre : ∀ i, i < n → Mo_judge_l32 298 (nI k) (nI i) m = if jgP W (m.2 316 (60 * k + i)) then some (.inr (nI i)) else some (.inl (nI (i + 1))) := by
            intro i hi
            unfold Mo_judge_l32
            rw [gd_t h, ix_nI (by omega), n8, if_neg (nI_ge hi (by omega)), show (60 : Int32) = nI 60 from rfl, pk_mul, nI_add, gd_in (n := 240) (by omega) (by decide), Mo_sets_e hW (by omega), bind_s, ix_nI (by omega)]
            unfold Mo_in
            rw [show rL m (298 + 18) (60 * k + i) = m.2 316 (60 * k + i) from rfl]
            by_cases q1 : m.2 316 (60 * k + i) < 0
            · rw [if_pos q1, bind_s, if_pos rfl, up_some, if_pos (Or.inl q1)]
            · rw [if_neg q1]
              by_cases q2 : (nI (2 ^ W 5)).toInt64 ≤ m.2 316 (60 * k + i)
              · rw [if_pos ((L_ge (by omega) (by omega) _).mpr q2), bind_s, if_pos rfl, up_some, if_pos (Or.inr (Or.inl q2))]
              · rw [if_neg (fun z => q2 ((L_ge (by omega) (by omega) _).mp z)), bind_s, if_neg (by decide), gd_in (n := 240) (by omega) (by decide)]
                obtain ⟨s, hs, e⟩ := L_of (by omega) q1 q2
                have q4 : jgP W (nI s).toInt64 ↔ ¬ enoughN W s := by
                  rw [← e]
                  constructor
                  · intro z
                    have := (z.resolve_left q1).resolve_left q2
                    rwa [e, L_back, ix_nI (by omega)] at this
                  · intro z
                    refine Or.inr (Or.inr ?_)
                    rwa [e, L_back, ix_nI (by omega)]
                have e5 : Mo_isEnough 298 (m.2 316 (60 * k + i)).toInt32 m = some (b2 (enoughN W s)) := by
                  rw [e, L_back]
                  exact Mo_isEnough_e hW I (by omega)
                have q5 : jgP W (m.2 316 (60 * k + i)) ↔ ¬ enoughN W s := by
                  rw [e]
                  exact q4
                rw [e5, bind_s, ite_b2]
                by_cases q3 : enoughN W s
                · rw [if_pos q3, if_neg (fun z => q5.mp z q3), nI_1]
                · rw [if_neg q3, if_pos (q5.mpr q3), up_some]
          refine loop_first n (fun i => nI i) _ _ _ rfl (fun i hi hp => ?_) (fun i hi hp => ?_) ?_
          · show Mo_judge_l32 298 (nI k) (nI i) m = _
            rw [pre i hi, if_pos hp]
          · show Mo_judge_l32 298 (nI k) (nI i) m = _
            rw [pre i hi, if_neg hp]
          · show Mo_judge_l32 298 (nI k) (nI n) m = _
            unfold Mo_judge_l32
            rw [gd_t h, ix_nI (by omega), n8, if_pos (nI_le (Nat.le_refl _) (by omega)), up_some]
      · rw [if_neg h1, if_neg h1]
    · rw [if_neg h, if_neg h]
  · unfold vJudge
    rw [F.a (by omega), show m'.2 316 = m.2 316 from (F 316 (by omega)).2]
end QD

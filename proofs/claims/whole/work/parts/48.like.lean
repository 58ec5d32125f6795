/-! what is lost, when a heap or a group lies elsewhere but alike -/
section LIKE
variable {m : Mem} {c : Nat} {W V : Wd}
theorem hrS_cong {od sh : Int64} {k n : Nat} {p q : Nat → Int64} (hk : k < n) (h : ∀ j, j < 2 ^ n → p j = q j) : ∀ i, i ≤ 2 ^ n → ∀ j, j < 2 ^ n → hrS od sh k p i j = hrS od sh k q i j
  | 0, _, j, hj => h j hj
  | i + 1, hi, j, hj => by
    have ih := hrS_cong (od := od) (sh := sh) hk h i (by omega)
    have ho := or_lt (s := i) (k := k) (n := n) (by omega) hk
    show stH od sh k (hrS od sh k p i) i j = stH od sh k (hrS od sh k q i) i j
    unfold stH
    by_cases b : i.testBit k = true
    · rw [if_pos b, if_pos b]; exact ih j hj
    · rw [if_neg b, if_neg b, ih _ ho, ih i (by omega), ih j hj]
theorem hrC_cong {p q : Nat → Int64} (e5 : V 5 = W 5) (e10 : V 10 = W 10) (ho : ∀ k, k < W 5 → oddsN V k = oddsN W k) (h : ∀ j, j < 2 ^ W 5 → p j = q j) : ∀ i, i ≤ W 5 → ∀ j, j < 2 ^ W 5 → hrC V p i j = hrC W q i j
  | 0, _, j, hj => h j hj
  | i + 1, hi, j, hj => by
    have ih := hrC_cong e5 e10 ho h i (by omega)
    show hrS (nI (oddsN V i)).toInt64 (nI (V 10)).toInt64 i (hrC V p i) (2 ^ V 5) j = hrS (nI (oddsN W i)).toInt64 (nI (W 10)).toInt64 i (hrC W q i) (2 ^ W 5) j
    rw [e5, e10, ho i (by omega)]
    exact hrS_cong (n := W 5) (by omega) ih _ (Nat.le_refl _) j hj
theorem lossL_cong {p q : Nat → Int64} {N : Nat} (he : ∀ s, s < N → (enoughN V s ↔ enoughN W s)) (h : ∀ j, j < N → p j = q j) : ∀ n, n ≤ N → lossL V p n = lossL W q n
  | 0, _ => rfl
  | n + 1, hn => by
    show lossL V p n + (if enoughN V n then 0 else p n) = lossL W q n + (if enoughN W n then 0 else q n)
    rw [lossL_cong he h n (by omega), h n (by omega)]
    by_cases e : enoughN W n
    · rw [if_pos e, if_pos ((he n (by omega)).mpr e)]
    · rw [if_neg e, if_neg (fun z => e ((he n (by omega)).mp z))]
theorem pHr_cong {p q : Nat → Int64} (e5 : V 5 = W 5) (e10 : V 10 = W 10) (ho : ∀ k, k < W 5 → oddsN V k = oddsN W k) (he : ∀ s, s < 2 ^ W 5 → (enoughN V s ↔ enoughN W s)) (h : ∀ j, j < 2 ^ W 5 → p j = q j) : ∀ n, ∀ j, j < 2 ^ W 5 → pHr V p n j = pHr W q n j
  | 0, j, hj => h j hj
  | n + 1, j, hj => by
    have ih := pHr_cong e5 e10 ho he h n
    show outL V (hrC V (pHr V p n) (V 5)) j = outL W (hrC W (pHr W q n) (W 5)) j
    unfold outL
    rw [e5, hrC_cong e5 e10 ho ih (W 5) (Nat.le_refl _) j hj]
    by_cases e : enoughN W j
    · rw [if_pos e, if_pos ((he j hj).mpr e)]
    · rw [if_neg e, if_neg (fun z => e ((he j hj).mp z))]
theorem lost_cong (e5 : V 5 = W 5) (e10 : V 10 = W 10) (e18 : V 18 = W 18) (ho : ∀ k, k < W 5 → oddsN V k = oddsN W k) (he : ∀ s, s < 2 ^ W 5 → (enoughN V s ↔ enoughN W s)) : ∀ n, lostL V (openL V) n = lostL W (openL W) n
  | 0 => rfl
  | n + 1 => by
    have e0 : ∀ j, j < 2 ^ W 5 → openL V j = openL W j := fun j _ => by unfold openL; rw [e18]
    have ih := lost_cong e5 e10 e18 ho he n
    show lostL V (openL V) n + lossL V (hrC V (pHr V (openL V) n) (V 5)) (2 ^ V 5) = lostL W (openL W) n + lossL W (hrC W (pHr W (openL W) n) (W 5)) (2 ^ W 5)
    rw [ih, e5, lossL_cong he (hrC_cong e5 e10 ho (pHr_cong e5 e10 ho he e0 n) (W 5) (Nat.le_refl _)) _ (Nat.le_refl _)]
/-- two places alike -/
abbrev nrP (W : Wd) (k x y : Nat) : Prop := sdN W k x y = wcr W k 1 ∨ sdN W k x y + 1 = wcr W k 1
def lkP (W : Wd) (x y x2 y2 : Nat) : Prop := ∀ k, k < W 5 → ((wcr W k 1 ≤ sdN W k x y ↔ wcr W k 1 ≤ sdN W k x2 y2) ∧ (nrP W k x y ↔ nrP W k x2 y2))
/-- the cracks are the same -/
def CrE (W V : Wd) : Prop := V 5 = W 5 ∧ ∀ k j, k < 7 → j < 7 → wcr V k j = wcr W k j
theorem piece_cr (h : CrE W V) (d5 : W 5 ≤ 7) (s x y : Nat) : pieceN V s x y = pieceN W s x y := by
  unfold pieceN
  rw [h.1]
  refine sN_cong (fun k hk => ?_)
  unfold sdN
  rw [h.2 k 0 (by omega) (by omega), h.2 k 1 (by omega) (by omega)]
theorem odds_cr (h : CrE W V) (e8 : V 8 = W 8) (e9 : V 9 = W 9) {k : Nat} (hk : k < 7) (hn : nearN V k = nearN W k) : oddsN V k = oddsN W k := by
  unfold oddsN oddsByN rawN
  rw [hn, e8, e9, h.2 k 2 hk (by omega), h.2 k 3 hk (by omega), h.2 k 4 hk (by omega), h.2 k 5 hk (by omega), h.2 k 6 hk (by omega)]
theorem gives_t0 (I : Inv W) {h : Nat} (e : tonsN W h = 0) (k : Nat) : givesN W h k = 0 := by
  refine sN_0 (fun s hs => ?_)
  have z := (sN_z (f := fun s => whe W h (3 + s) * wso W s 2)).mp e s hs
  obtain ⟨-, -, -, s3, -⟩ := I.S hs
  have u0 : whe W h (3 + s) = 0 := by
    rcases Nat.mul_eq_zero.mp z with q | q
    · exact q
    · omega
  simp only [u0, Nat.zero_mul, ite_self]
theorem move_eq (J : Inv W) (J' : Inv V) {h : Nat} (hh : h < 8) (E : ∀ i, i < 200 → i ≠ 116 + 9 * h + 1 → i ≠ 116 + 9 * h + 2 → V i = W i) (Q : tonsN W h = 0 ∨ lkP W (whe W h 1) (whe W h 2) (whe V h 1) (whe V h 2)) (n : Nat) : lostL V (openL V) n = lostL W (openL W) n := by
  have d := J.d
  have cr : CrE W V := ⟨E 5 (by omega) (by omega) (by omega), fun k j hk hj => E _ (by omega) (by omega) (by omega)⟩
  have e6 : V 6 = W 6 := E 6 (by omega) (by omega) (by omega)
  have eso : ∀ s k, s < 6 → k < 4 → wso V s k = wso W s k := fun s k hs hk => E _ (by omega) (by omega) (by omega)
  have eu : ∀ i s, i < 8 → s < 6 → whe V i (3 + s) = whe W i (3 + s) := fun i s hi hs => E _ (by omega) (by omega) (by omega)
  have e0 : ∀ i, i < 8 → whe V i 0 = whe W i 0 := fun i hi => E _ (by omega) (by omega) (by omega)
  have et : ∀ i, i < 8 → tonsN V i = tonsN W i := fun i hi => by
    unfold tonsN
    rw [e6]
    exact sN_cong (fun s hs => by rw [eu i s hi (by omega), eso s 2 (by omega) (by omega)])
  have eg : ∀ i k, i < 8 → givesN V i k = givesN W i k := fun i k hi => by
    unfold givesN
    rw [e6]
    exact sN_cong (fun s hs => by rw [eu i s hi (by omega), eso s 1 (by omega) (by omega), eso s 0 (by omega) (by omega)])
  have egr : ∀ g k, g < 4 → k < 3 → wgr V g k = wgr W g k := fun g k hg hk => E _ (by omega) (by omega) (by omega)
  have epos : ∀ i, i < 8 → i ≠ h → whe V i 1 = whe W i 1 ∧ whe V i 2 = whe W i 2 := fun i hi hn => ⟨E _ (by omega) (by omega) (by omega), E _ (by omega) (by omega) (by omega)⟩
  refine lost_cong cr.1 (E 10 (by omega) (by omega) (by omega)) (E 18 (by omega) (by omega) (by omega)) (fun k hk => ?_) (fun s hs => ?_) n
  · refine odds_cr cr (E 8 (by omega) (by omega) (by omega)) (E 9 (by omega) (by omega) (by omega)) (by omega) ?_
    unfold nearN
    refine sN_cong (fun i hi => ?_)
    have c0 := cr.2 k 0 (by omega) (by omega)
    have c1 := cr.2 k 1 (by omega) (by omega)
    by_cases e : i = h
    · subst e
      rcases Q with q | q
      · rw [et i hi, q, ite_self, ite_self]
      · rw [et i hi]
        have := (q k hk).2
        unfold nrP at this
        unfold nearP hsd sdN
        rw [e0 i hi, c0, c1]
        simp only [← this]
    · unfold nearP hsd sdN
      rw [et i hi, e0 i hi, c0, c1, (epos i hi e).1, (epos i hi e).2]
  · rw [enough_iff J' s, enough_iff J s]
    have egp : ∀ g, g < 4 → gpN V s g = gpN W s g := fun g hg => by
      unfold gpN
      rw [piece_cr cr (by omega), egr g 0 hg (by omega), egr g 1 hg (by omega)]
    have ep : ∀ p, peopleOnN V s p = peopleOnN W s p := fun p => by
      unfold peopleOnN
      exact sN_cong (fun g hg => by rw [egp g hg, egr g 2 hg (by omega)])
    have end_ : ∀ k, ndN V k = ndN W k := fun k => by
      unfold ndN toldN tlN
      rw [e6, E 4 (by omega) (by omega) (by omega)]
      rw [sN_cong (f := fun s => if wso V s 0 = k then 1 else 0) (g := fun s => if wso W s 0 = k then 1 else 0) (fun s hs => by rw [eso s 0 (by omega) (by omega)])]
    have egv : ∀ p k, givenN V s p k = givenN W s p k := fun p k => by
      unfold givenN
      refine sN_cong (fun i hi => ?_)
      by_cases e : i = h
      · subst e
        rcases Q with q | q
        · rw [eg i k hi, gives_t0 J q k, ite_self, ite_self]
        · have : hpN V s i = hpN W s i := by
            unfold hpN
            rw [piece_cr cr (by omega)]
            exact ((piece_iff J s _ _ _ _).mpr (fun k hk _ => (q k hk).1)).symm
          rw [eg i k hi, e0 i hi, this]
      · have : hpN V s i = hpN W s i := by
          unfold hpN
          rw [piece_cr cr (by omega), (epos i hi e).1, (epos i hi e).2]
        rw [eg i k hi, e0 i hi, this]
    constructor
    · intro a g hg h0 k hk
      have := a g hg (by rw [egr g 2 hg (by omega)]; exact h0) k hk
      rwa [egp g hg, ep, end_, egv] at this
    · intro a g hg h0 k hk
      have := a g hg (by rw [← egr g 2 hg (by omega)]; exact h0) k hk
      rwa [egp g hg, ep, end_, egv]
/-- a group elsewhere -/
theorem gmove_eq (J : Inv W) (J' : Inv V) {h : Nat} (hh : h < 4) (E : ∀ i, i < 200 → i ≠ 188 + 3 * h → i ≠ 188 + 3 * h + 1 → V i = W i) (Q : lkP W (wgr W h 0) (wgr W h 1) (wgr V h 0) (wgr V h 1)) (n : Nat) : lostL V (openL V) n = lostL W (openL W) n := by
  have d := J.d
  have cr : CrE W V := ⟨E 5 (by omega) (by omega) (by omega), fun k j hk hj => E _ (by omega) (by omega) (by omega)⟩
  have e6 : V 6 = W 6 := E 6 (by omega) (by omega) (by omega)
  have eso : ∀ s k, s < 6 → k < 4 → wso V s k = wso W s k := fun s k hs hk => E _ (by omega) (by omega) (by omega)
  have ehe : ∀ i k, i < 8 → k < 9 → whe V i k = whe W i k := fun i k hi hk => E _ (by omega) (by omega) (by omega)
  have et : ∀ i, i < 8 → tonsN V i = tonsN W i := fun i hi => by
    unfold tonsN
    rw [e6]
    exact sN_cong (fun s hs => by rw [ehe i (3 + s) hi (by omega), eso s 2 (by omega) (by omega)])
  have eg : ∀ i k, i < 8 → givesN V i k = givesN W i k := fun i k hi => by
    unfold givesN
    rw [e6]
    exact sN_cong (fun s hs => by rw [ehe i (3 + s) hi (by omega), eso s 1 (by omega) (by omega), eso s 0 (by omega) (by omega)])
  have e2 : ∀ g, g < 4 → wgr V g 2 = wgr W g 2 := fun g hg => E _ (by omega) (by omega) (by omega)
  refine lost_cong cr.1 (E 10 (by omega) (by omega) (by omega)) (E 18 (by omega) (by omega) (by omega)) (fun k hk => ?_) (fun s hs => ?_) n
  · refine odds_cr cr (E 8 (by omega) (by omega) (by omega)) (E 9 (by omega) (by omega) (by omega)) (by omega) ?_
    unfold nearN
    refine sN_cong (fun i hi => ?_)
    unfold nearP hsd sdN
    rw [et i hi, ehe i 0 hi (by omega), ehe i 1 hi (by omega), ehe i 2 hi (by omega), cr.2 k 0 (by omega) (by omega), cr.2 k 1 (by omega) (by omega)]
  · rw [enough_iff J' s, enough_iff J s]
    have egp : ∀ g, g < 4 → gpN V s g = gpN W s g := fun g hg => by
      unfold gpN
      rw [piece_cr cr (by omega)]
      by_cases e : g = h
      · subst e
        exact ((piece_iff J s _ _ _ _).mpr (fun k hk _ => (Q k hk).1)).symm
      · rw [show wgr V g 0 = wgr W g 0 from E _ (by omega) (by omega) (by omega), show wgr V g 1 = wgr W g 1 from E _ (by omega) (by omega) (by omega)]
    have ep : ∀ p, peopleOnN V s p = peopleOnN W s p := fun p => by
      unfold peopleOnN
      exact sN_cong (fun g hg => by rw [egp g hg, e2 g hg])
    have end_ : ∀ k, ndN V k = ndN W k := fun k => by
      unfold ndN toldN tlN
      rw [e6, E 4 (by omega) (by omega) (by omega)]
      rw [sN_cong (f := fun s => if wso V s 0 = k then 1 else 0) (g := fun s => if wso W s 0 = k then 1 else 0) (fun s hs => by rw [eso s 0 (by omega) (by omega)])]
    have egv : ∀ p k, givenN V s p k = givenN W s p k := fun p k => by
      unfold givenN
      refine sN_cong (fun i hi => ?_)
      unfold hpN
      rw [eg i k hi, ehe i 0 hi (by omega), piece_cr cr (by omega), ehe i 1 hi (by omega), ehe i 2 hi (by omega)]
    constructor
    · intro a g hg h0 k hk
      have := a g hg (by rw [e2 g hg]; exact h0) k hk
      rwa [egp g hg, ep, end_, egv] at this
    · intro a g hg h0 k hk
      have := a g hg (by rw [← e2 g hg]; exact h0) k hk
      rwa [egp g hg, ep, end_, egv]
/-! the class asks whether a cell is like its neighbour -/
theorem by_eq (I : Inv W) {x y x2 y2 : Nat} (hx : x < 2147483648) (hy : y < 2147483648) (hx2 : x2 < 2147483648) (hy2 : y2 < 2147483648) : byN W (nI x) (nI y) = byN W (nI x2) (nI y2) ↔ ∀ k, k < W 5 → (wcr W k 1 ≤ sdN W k x y ↔ wcr W k 1 ≤ sdN W k x2 y2) := by
  have b : ∀ a b, a < 2147483648 → b < 2147483648 → ∀ k, k < W 5 → ((byN W (nI a) (nI b)).testBit k = true ↔ wcr W k 1 ≤ sdN W k a b) := by
    intro a b ha hb k hk
    unfold byN
    rw [bs_bit, byB_n I hk ha hb]
    simp [hk]
  constructor
  · intro e k hk
    rw [← b x y hx hy k hk, ← b x2 y2 hx2 hy2 k hk, e]
  · intro h
    apply Nat.eq_of_testBit_eq
    intro k
    by_cases hk : k < W 5
    · have := (b x y hx hy k hk).trans ((h k hk).trans (b x2 y2 hx2 hy2 k hk).symm)
      cases q1 : (byN W (nI x) (nI y)).testBit k <;> cases q2 : (byN W (nI x2) (nI y2)).testBit k <;> simp_all
    · unfold byN
      rw [bs_bit, bs_bit]
      simp [hk]
theorem cb_lt (I : Inv W) {k x y : Nat} (hk : k < W 5) (hx : x < 1073741824) (hy : y < 1073741824) : cbN W k x y < 2147483648 := by
  obtain ⟨c0, c1, c2, c3, -⟩ := I.C hk
  have d := I.d
  unfold cbN sdN
  split <;> split <;> omega
theorem Fl_isLike_e (R : CR m c W) (I : Inv W) {x y x2 y2 : Nat} (hx : x < 12) (hy : y < 12) (hx2 : x2 < 12) (hy2 : y2 < 12) : Ok (Fl_isLike (c + 1) (nI x) (nI y) (nI x2) (nI y2) m) (fun r => (r = 1 ∧ lkP W x y x2 y2) ∨ (r = 0 ∧ ¬ lkP W x y x2 y2)) := by
  have d := I.d
  unfold Fl_isLike
  refine Ok_b (Fl_beyond_e R I _ _) (Ok_b (Fl_beyond_e R I _ _) ?_)
  have be := by_eq I (x := x) (y := y) (x2 := x2) (y2 := y2) (by omega) (by omega) (by omega) (by omega)
  have l1 := by_lt I (nI x) (nI y)
  have l2 := by_lt I (nI x2) (nI y2)
  by_cases h : byN W (nI x) (nI y) = byN W (nI x2) (nI y2)
  · refine Ok_it (congrArg nI h) ?_
    have step : ∀ k, k < W 5 → Fl_isLike_l21 (c + 1) (nI x) (nI y) (nI x2) (nI y2) (nI k) m = if ¬ (nrP W k x y ↔ nrP W k x2 y2) then some (.inr 0) else some (.inl (nI (k + 1))) := by
      intro k hk
      have a1 := cb_0 I (x := x) (y := y) hk
      have a2 := cb_0 I (x := x2) (y := y2) hk
      have b1 := cb_lt I (x := x) (y := y) hk (by omega) (by omega)
      have b2' := cb_lt I (x := x2) (y := y2) hk (by omega) (by omega)
      unfold Fl_isLike_l21
      rw [cnC R, if_neg (nI_ge hk (by omega)), Fl_cellsBetween_e R I hk (by omega) (by omega), bind_s]
      by_cases q1 : cbN W k x y = 0
      · rw [q1, if_pos (by decide)]
        unfold Fl_isLike_b49 Fl_isLike_b66
        rw [Fl_cellsBetween_e R I hk (by omega) (by omega), bind_s]
        by_cases q2 : cbN W k x2 y2 = 0
        · rw [q2, if_pos (by decide), if_pos rfl, if_neg (fun z => z ⟨fun _ => a2.mp q2, fun _ => a1.mp q1⟩), nI_1]
        · rw [if_neg (nI_ne0 (by omega) (by omega)), if_neg (by decide), if_pos (fun z => q2 (a2.mpr (z.mp (a1.mp q1)))), up_some]
      · rw [if_neg (nI_ne0 (by omega) (by omega))]
        unfold Fl_isLike_b49 Fl_isLike_b66
        rw [Fl_cellsBetween_e R I hk (by omega) (by omega), bind_s]
        by_cases q2 : cbN W k x2 y2 = 0
        · rw [q2, if_pos (by decide), if_neg (by decide), if_pos (fun z => q1 (a1.mpr (z.mpr (a2.mp q2)))), up_some]
        · rw [if_neg (nI_ne0 (by omega) (by omega)), if_pos rfl, if_neg (fun z => z ⟨fun w => absurd (a1.mpr w) q1, fun w => absurd (a2.mpr w) q2⟩), nI_1]
    have key := loop_find (b := fun s : Int32 => Fl_isLike_l21 (c + 1) (nI x) (nI y) (nI x2) (nI y2) s m) (W 5) (fun i => nI i) (fun k => ¬ (nrP W k x y ↔ nrP W k x2 y2)) (0 : Int32) (1 : Int32) rfl (fun k hk hp => ?_) (fun k hk hp => ?_) ?_
    · by_cases q : ∃ k, k < W 5 ∧ ¬ (nrP W k x y ↔ nrP W k x2 y2)
      · refine Ok_e (key.1 q) (Or.inr ⟨rfl, fun z => ?_⟩)
        obtain ⟨k, hk, w⟩ := q
        exact w (z k hk).2
      · refine Ok_e (key.2 q) (Or.inl ⟨rfl, fun k hk => ⟨be.mp h k hk, ?_⟩⟩)
        exact Classical.byContradiction (fun w => q ⟨k, hk, w⟩)
    · show Fl_isLike_l21 (c + 1) (nI x) (nI y) (nI x2) (nI y2) (nI k) m = _
      rw [step k hk, if_pos hp]
    · show Fl_isLike_l21 (c + 1) (nI x) (nI y) (nI x2) (nI y2) (nI k) m = _
      rw [step k hk, if_neg hp]
    · show Fl_isLike_l21 (c + 1) (nI x) (nI y) (nI x2) (nI y2) (nI (W 5)) m = _
      unfold Fl_isLike_l21
      rw [cnC R, if_pos (nI_le (Nat.le_refl _) (by omega)), up_some]
  · refine Ok_if (fun z => h ((nI_eq (by omega) (by omega)).mp z)) (Ok_s (Or.inr ⟨rfl, fun z => h (be.mpr (fun k hk => (z k hk).1))⟩))
def lnP (W : Wd) (x y : Nat) : Prop := (0 < x ∧ lkP W x y (x - 1) y) ∨ (0 < y ∧ lkP W x y x (y - 1))
theorem Fl_isLikeN_e (R : CR m c W) (I : Inv W) {x y : Nat} (hx : x < 12) (hy : y < 12) : Ok (Fl_isLikeNeighbour (c + 1) (nI x) (nI y) m) (fun r => (r = 1 ∧ lnP W x y) ∨ (r = 0 ∧ ¬ lnP W x y)) := by
  have b17 : ¬ (0 < x ∧ lkP W x y (x - 1) y) → Ok (Fl_isLikeNeighbour_b17 (c + 1) (nI x) (nI y) m) (fun r => (r = 1 ∧ lnP W x y) ∨ (r = 0 ∧ ¬ lnP W x y)) := by
    intro hn
    unfold Fl_isLikeNeighbour_b17 Fl_isLikeNeighbour_b34
    by_cases q : 0 < y
    · refine Ok_if (nI_nle q (by omega)) ?_
      rw [nI_p1 q]
      refine Ok_bind (Fl_isLike_e R I hx hy hx (y2 := y - 1) (by omega)) (fun r hr => ?_)
      rcases hr with ⟨rfl, h⟩ | ⟨rfl, h⟩
      · exact Ok_if (by decide) (Ok_s (Or.inl ⟨rfl, Or.inr ⟨q, h⟩⟩))
      · exact Ok_it rfl (Ok_s (Or.inr ⟨rfl, fun z => z.elim hn (fun w => h w.2)⟩))
    · refine Ok_it (by rw [show y = 0 by omega]; decide) (Ok_s (Or.inr ⟨rfl, fun z => z.elim hn (fun w => q w.1)⟩))
  unfold Fl_isLikeNeighbour Fl_isLikeNeighbour_b34
  by_cases q : 0 < x
  · refine Ok_if (nI_nle q (by omega)) ?_
    rw [nI_p1 q]
    refine Ok_bind (Fl_isLike_e R I hx hy (x2 := x - 1) (by omega) hy) (fun r hr => ?_)
    rcases hr with ⟨rfl, h⟩ | ⟨rfl, h⟩
    · exact Ok_if (by decide) (Ok_s (Or.inl ⟨rfl, Or.inl ⟨q, h⟩⟩))
    · exact Ok_it rfl (b17 (fun z => h z.2))
  · exact Ok_it (by rw [show x = 0 by omega]; decide) (b17 (fun z => q z.1))
end LIKE

/-! the reference's hours; what lacks -/
section ML
variable {m m' : Mem} {c t : Nat} {W : Wd}
def RfA (m : Mem) (W : Wd) : Prop := ∀ k, k < W 5 → m.1 306 k = nI (oddsN W k)
theorem Mo_begin_e (hW : MW m W) (I : Inv W) : Ok (Mo_beginParts 298 m) (fun x => Fp 305 307 m x ∧ RfA x W ∧ ∀ s, s < 2 ^ W 5 → x.2 305 s = openL W s) := by
  have d := I.d
  obtain ⟨-, -, -, -, -, -, -, -, -, -, -, b18, -⟩ := I.2.1
  have h7 := p2le (k := W 5) (n := 7) (by omega)
  have h128 : (2 : Nat) ^ 7 = 128 := by decide
  unfold Mo_beginParts
  refine Ok_for 128 (fun i x => Fp 305 307 m x ∧ ∀ s, s < i → x.2 305 s = 0) ⟨Fp.refl, fun s hs => by omega⟩ (fun i x hi ⟨F, q⟩ => ?_) (fun x ⟨F, q⟩ => ?_)
  · show Ok (Mo_beginParts_l2 298 (nI i) x) _
    unfold Mo_beginParts_l2
    rw [if_neg (show ¬ (128 : Int32) ≤ nI i from nI_ge (b := 128) hi (by decide)), ix_nI (by omega)]
    exact Ok_gd (in_nI hi (by decide)) (Ok_lt (Ok_s ⟨_, by rw [nI_1], F.trans (Fp.wL (a := 305) (by omega) (by omega) _ _), fillL (f := fun _ => 0) q rfl⟩))
  · have hW2 := hW.fp F (by omega)
    show Ok (Mo_beginParts_l2 298 (nI 128) x) _
    unfold Mo_beginParts_l2
    rw [if_pos (show (128 : Int32) ≤ nI 128 from by decide), show rI x (298 + 1) (ix 18) = nI (W 18) from qW18 hW2, ix_nI (by omega)]
    refine Ok_up (P := fun x => Fp 305 307 m x ∧ RfA x W ∧ ∀ s, s < 2 ^ W 5 → x.2 305 s = openL W s) (Ok_gd (by decide) (Ok_gd (in_nI (n := 128) (by omega) (by decide)) (Ok_lt ?_))) (fun r hr => ⟨r, rfl, hr⟩)
    have F1 : Fp 305 307 x (wL x (298 + 7) (W 18) 1000000000000) := Fp.wL (by omega) (by omega) _ _
    refine Ok_for (W 5) (fun i y => Fp 305 307 x y ∧ (∀ k, k < i → y.1 306 k = nI (oddsN W k)) ∧ y.2 = (wL x (298 + 7) (W 18) 1000000000000).2) ⟨F1, fun k hk => by omega, rfl⟩ (fun i y hi ⟨F2, a, e⟩ => ?_) (fun y ⟨F2, a, e⟩ => ?_)
    · have hW3 := hW2.fp F2 (by omega)
      show Ok (Mo_beginParts_l39 298 (nI i) y) _
      unfold Mo_beginParts_l39
      rw [show rI y (298 + 1) (ix 5) = nI (W 5) from qW5 hW3, if_neg (nI_ge hi (by omega)), Mo_oddsOf_e hW3 I hi, bind_s, ix_nI (by omega)]
      exact Ok_gd (by decide) (Ok_gd (in_nI (n := 7) (by omega) (by decide)) (Ok_lt (Ok_s ⟨_, by rw [nI_1], F2.trans (Fp.wI (a := 306) (by omega) (by omega) _ _), fillI a rfl, e⟩)))
    · have hW3 := hW2.fp F2 (by omega)
      show Ok (Mo_beginParts_l39 298 (nI (W 5)) y) _
      unfold Mo_beginParts_l39
      rw [show rI y (298 + 1) (ix 5) = nI (W 5) from qW5 hW3, if_pos (nI_le (Nat.le_refl _) (by omega)), up_some]
      refine Ok_gd (by decide) (Ok_s ⟨_, rfl, F.trans F2, a, fun s hs => ?_⟩)
      rw [e]
      show (wL x 305 (W 18) 1000000000000).2 305 s = _
      rw [wL_at]
      unfold openL
      by_cases z : s = W 18
      · rw [if_pos z, if_pos z]
      · rw [if_neg z, if_neg z, q s (by omega)]
theorem RfA.e (A : RfA m W) (h : m'.1 306 = m.1 306) : RfA m' W := fun k hk => by rw [h, A k hk]
theorem Mo_hour_e (hW : MW m W) (A : RfA m W) (I : Inv W) {p : Nat → Int64} (hp : ∀ s, s < 2 ^ W 5 → m.2 305 s = p s) : Ok (Mo_hour 298 m) (fun x => LO 305 m x ∧ ∀ s, s < 2 ^ W 5 → x.2 305 s = hrC W p (W 5) s) := by
  have d := I.d
  have h7 := p2le (k := W 5) (n := 7) (by omega)
  have h128 : (2 : Nat) ^ 7 = 128 := by decide
  unfold Mo_hour
  refine Ok_for (W 5) (fun k x => LO 305 m x ∧ ∀ s, s < 2 ^ W 5 → x.2 305 s = hrC W p k s) ⟨LO.refl, hp⟩ (fun k x hk ⟨L, q⟩ => ?_) (fun x ⟨L, q⟩ => ?_)
  · have hk2 : 2 ^ k < 2 ^ W 5 := Nat.pow_lt_pow_right (by decide) hk
    have hW2 := hW.fp L.fp (by omega)
    show Ok (Mo_hour_l2 298 (nI k) x) _
    unfold Mo_hour_l2
    rw [show rI x (298 + 1) (ix 5) = nI (W 5) from qW5 hW2, if_neg (nI_ge hk (by omega))]
    refine Ok_gd (by decide) ?_
    refine Ok_for (2 ^ W 5) (fun i y => LO 305 m y ∧ ∀ s, s < 2 ^ W 5 → y.2 305 s = hrS (nI (oddsN W k)).toInt64 (nI (W 10)).toInt64 k (hrC W p k) i s) ⟨L, q⟩ (fun i y hi ⟨L2, q2⟩ => ?_) (fun y ⟨L2, q2⟩ => ?_)
    · have A3 : RfA y W := A.e (by rw [L2.1])
      have hW3 := hW.fp L2.fp (by omega)
      have hw := or_lt hi hk
      show Ok (Mo_hour_l14 298 (nI k) (nI i) y) _
      unfold Mo_hour_l14 Mo_hour_b108
      rw [Mo_sets_e hW3 (by omega), bind_s, if_neg (nI_ge hi (by omega)), Mo_holds_e _ (by omega) (by omega), bind_s, ite_b2]
      by_cases hb : i.testBit k = true
      · refine Ok_it hb (Ok_s ⟨_, by rw [nI_1], L2, fun s hs => ?_⟩)
        rw [q2 s hs]
        show _ = stH _ _ _ _ _ _
        unfold stH
        rw [if_pos hb]
      · refine Ok_if hb ?_
        rw [shl1 (by omega), nI_or]
        refine Ok_gd (in_nI (n := 128) (by omega) (by decide)) (Ok_gd (in_nI (n := 7) (by omega) (by decide)) (Ok_gd (in_nI (n := 128) (by omega) (by decide)) (Ok_gd (by decide) (Ok_gd (in_nI (n := 128) (by omega) (by decide)) (Ok_gd (in_nI (n := 128) (by omega) (by decide)) (Ok_lt (Ok_gd (in_nI (n := 128) (by omega) (by decide)) (Ok_gd (in_nI (n := 128) (by omega) (by decide)) (Ok_lt (Ok_s ⟨_, by rw [nI_1], (L2.trans (LO.w _ _)).trans (LO.w _ _), ?_⟩))))))))))
        rw [ix_nI (by omega), ix_nI (by omega), ix_nI (by omega), show rI y (298 + 1) (ix 10) = nI (W 10) from qW10 hW3, show rI y (298 + 8) k = nI (oddsN W k) from A3 k hk]
        exact stH_w q2 hi hw hb
    · have hW3 := hW.fp L2.fp (by omega)
      show Ok (Mo_hour_l14 298 (nI k) (nI (2 ^ W 5)) y) _
      unfold Mo_hour_l14
      rw [Mo_sets_e hW3 (by omega), bind_s, if_pos (nI_le (Nat.le_refl _) (by omega)), up_some]
      exact Ok_s ⟨_, rfl, _, by rw [nI_1], L2, q2⟩
  · have hW2 := hW.fp L.fp (by omega)
    show Ok (Mo_hour_l2 298 (nI (W 5)) x) _
    unfold Mo_hour_l2
    rw [show rI x (298 + 1) (ix 5) = nI (W 5) from qW5 hW2, if_pos (nI_le (Nat.le_refl _) (by omega)), up_some]
    exact Ok_gd (by decide) (Ok_s ⟨_, rfl, L, q⟩)
theorem Mo_loses_e (hW : MW m W) (A : RfA m W) (I : Inv W) {p : Nat → Int64} (hp : ∀ s, s < 2 ^ W 5 → m.2 305 s = p s) : Ok (Mo_loses 298 m) (fun r => r.1 = lossL W (hrC W p (W 5)) (2 ^ W 5) ∧ LO 305 m r.2 ∧ ∀ s, s < 2 ^ W 5 → r.2.2 305 s = outL W (hrC W p (W 5)) s) := by
  have d := I.d
  have h7 := p2le (k := W 5) (n := 7) (by omega)
  have h128 : (2 : Nat) ^ 7 = 128 := by decide
  unfold Mo_loses
  refine Ok_bind (Mo_hour_e hW A I hp) (fun x0 ⟨L0, q0⟩ => ?_)
  revert q0
  generalize hrC W p (W 5) = p
  intro q0
  refine Ok_loop (2 ^ W 5) (fun i x => (lossL W p i, nI i, x)) (fun i x => LO 305 m x ∧ ∀ s, s < 2 ^ W 5 → x.2 305 s = if s < i then outL W p s else p s) x0 rfl ⟨L0, fun s hs => by rw [if_neg (by omega), q0 s hs]⟩ (fun i x hi ⟨T, q⟩ => ?_) (fun x ⟨T, q⟩ => ?_)
  · have hW2 := hW.fp T.fp (by omega)
    have qi : x.2 305 i = p i := by rw [q i hi, if_neg (by omega)]
    show Ok (Mo_loses_l8 298 (lossL W p i) (nI i) x) _
    unfold Mo_loses_l8 Mo_loses_b54
    rw [Mo_sets_e hW2 (by omega), bind_s, if_neg (nI_ge hi (by omega)), ix_nI (by omega), show rL x (298 + 7) i = p i from qi]
    refine Ok_gd (in_nI (n := 128) (by omega) (by decide)) ?_
    have keep : (p i = 0 ∨ enoughN W i) → lossL W p (i + 1) = lossL W p i ∧ ∀ s, s < 2 ^ W 5 → x.2 305 s = if s < i + 1 then outL W p s else p s := by
      intro w
      refine ⟨?_, fun s hs => ?_⟩
      · show lossL W p i + (if enoughN W i then 0 else p i) = _
        by_cases e : enoughN W i
        · rw [if_pos e, Int64.add_zero]
        · rw [if_neg e, w.resolve_right e, Int64.add_zero]
      · rw [q s hs]
        rcases Nat.lt_trichotomy s i with z | z | z
        · rw [if_pos z, if_pos (by omega)]
        · subst z
          rw [if_neg (by omega), if_pos (by omega)]
          unfold outL
          by_cases e : enoughN W s
          · rw [if_pos e]
          · rw [if_neg e, w.resolve_right e]
        · rw [if_neg (by omega), if_neg (by omega)]
    by_cases e0 : p i = 0
    · obtain ⟨k1, k2⟩ := keep (Or.inl e0)
      exact Ok_it e0 (Ok_s ⟨x, by rw [k1, nI_1], T, k2⟩)
    · refine Ok_if e0 ?_
      rw [Mo_isEnough_e hW2 I (by omega), bind_s, ite_b2]
      by_cases e : enoughN W i
      · obtain ⟨k1, k2⟩ := keep (Or.inr e)
        rw [if_pos e]
        exact Ok_s ⟨x, by rw [k1, nI_1], T, k2⟩
      · rw [if_neg e]
        refine Ok_gd (in_nI (n := 128) (by omega) (by decide)) (Ok_gd (in_nI (n := 128) (by omega) (by decide)) (Ok_lt (Ok_s ⟨wL x 305 i 0, ?_, T.trans (LO.w _ _), fun s hs => ?_⟩)))
        · rw [nI_1]
          show _ = Sum.inl (lossL W p i + (if enoughN W i then 0 else p i), _, _)
          rw [if_neg e]
        · rw [wL_at]
          by_cases z : s = i
          · rw [if_pos z, if_pos (by omega), z]
            unfold outL
            rw [if_neg e]
          · rw [if_neg z, q s hs]
            rcases Nat.lt_or_ge s i with w | w
            · rw [if_pos w, if_pos (by omega)]
            · rw [if_neg (by omega), if_neg (by omega)]
  · have hW2 := hW.fp T.fp (by omega)
    show Ok (Mo_loses_l8 298 (lossL W p (2 ^ W 5)) (nI (2 ^ W 5)) x) _
    unfold Mo_loses_l8
    rw [Mo_sets_e hW2 (by omega), bind_s, if_pos (nI_le (Nat.le_refl _) (by omega)), up_some]
    exact Ok_s ⟨_, rfl, rfl, T, fun s hs => by rw [q s hs, if_pos hs]⟩
theorem Mo_lostIn_e (hW : MW m W) (I : Inv W) {n : Nat} (hn : n < 2147483648) : Ok (Mo_lostIn 298 (nI n) m) (fun r => r.1 = lostL W (openL W) n ∧ Fp 305 307 m r.2) := by
  unfold Mo_lostIn
  refine Ok_bind (Mo_begin_e hW I) (fun x ⟨F, A, hp⟩ => ?_)
  have hW1 := hW.fp F (by omega)
  refine Ok_loop n (fun i x => (lostL W (openL W) i, nI i, x)) (fun i y => LO 305 x y ∧ ∀ s, s < 2 ^ W 5 → y.2 305 s = pHr W (openL W) i s) x rfl ⟨LO.refl, hp⟩ (fun i y hi ⟨T, q⟩ => ?_) (fun y ⟨T, q⟩ => ?_)
  · show Ok (Mo_lostIn_l9 298 (nI n) (lostL W (openL W) i) (nI i) y) _
    unfold Mo_lostIn_l9
    rw [if_neg (nI_ge hi hn)]
    refine Ok_bind (Mo_loses_e (hW1.fp T.fp (by omega)) (A.e (by rw [T.1])) I q) (fun r ⟨r1, T2, q3⟩ => ?_)
    refine Ok_s ⟨r.2, ?_, T.trans T2, q3⟩
    rw [r1, nI_1]
    rfl
  · show Ok (Mo_lostIn_l9 298 (nI n) (lostL W (openL W) n) (nI n) y) _
    unfold Mo_lostIn_l9
    rw [if_pos (nI_le (Nat.le_refl _) hn), up_some]
    exact Ok_s ⟨_, rfl, rfl, F.trans (T.fp.wide (by omega) (by omega))⟩
theorem Mo_ones_e (m : Mem) {s : Nat} (hs : s < 128) : Mo_ones (nI s) m = some (nI (popN 7 s)) := by
  unfold Mo_ones
  refine loop_sum 7 (fun k => if s.testBit k = true then 1 else 0) (fun a => nI a) (fun k a hk ha => ?_) (fun a ha => ?_)
  · unfold Mo_ones_l4
    rw [if_neg (show ¬ (7 : Int32) ≤ nI k from nI_ge (b := 7) hk (by decide)), shr_and1 (by omega) (by omega), nI_add, nI_1]
    have hlt : s / 2 ^ k % 2 < 2 := Nat.mod_lt _ (by decide)
    have hb := bit_iff s k
    by_cases h : s.testBit k = true
    · rw [hb.mpr h]; simp only [h, if_true]
    · rw [show s / 2 ^ k % 2 = 0 by have := mt hb.mp h; omega]; simp only [h]; rfl
  · unfold Mo_ones_l4
    rw [if_pos (show (7 : Int32) ≤ nI 7 from by decide), up_some]
theorem bitCount_7 (m : Mem) {s : Nat} (hs : s < 128) : In_bitCount (nI s) m = some (nI (popN 7 s)) := by
  rw [In_bitCount_n (by omega), pop_ext (n := 7) (a := s) hs 5]
/-- what lacks, as the class works it out -/
theorem jmaxS (I : Inv W) (s g k : Nat) : jmax 0 (shI W s g k) = nI (peopleOnN W s (gpN W s g) * ndN W k - givenN W s (gpN W s g) k) := by
  have := short_b I s g k
  exact jmax0 (by omega) (by omega)
theorem Ic_lacking_e (A : IcA m t W) (I : Inv W) {s k : Nat} (hs : s < 2 ^ W 5) (hk : k < 4) : Ic_lacking t (nI s) (nI k) m = some (nI (lacksN W s k)) := by
  unfold Ic_lacking
  have A0 := A
  obtain ⟨-, -, -, -, As, Ag, -, -, -⟩ := A0
  rw [show lacksN W s k = sN (fun g => if 0 < wgr W g 2 ∧ ¬ 0 < fstN W s g then peopleOnN W s (gpN W s g) * ndN W k - givenN W s (gpN W s g) k else 0) 4 from ?_]
  · refine loop_sum 4 _ (fun a => nI a) (fun g a hg ha => ?_) (fun a ha => ?_)
    · obtain ⟨-, g0, g1, g2⟩ := I.G hg
      have xg := I.gxy hg
      show Ic_lacking_l5 t (nI s) (nI k) (nI a) (nI g) m = _
      have inner : ∀ (b : Bool), b = decide (0 < wgr W g 2) → Ic_lacking_b26 t (nI s) (nI k) (nI a) (nI g) (if b = true then 1 else 0) m = some (.inl (nI (a + if 0 < wgr W g 2 ∧ ¬ 0 < fstN W s g then peopleOnN W s (gpN W s g) * ndN W k - givenN W s (gpN W s g) k else 0), nI (g + 1))) := by
        intro b hb
        unfold Ic_lacking_b26
        refine loop_cnt g (fun i => ((if (b = true ∧ ¬ ∃ j, j < i ∧ (gpN W s j = gpN W s g ∧ 0 < wgr W j 2)) then 1 else 0 : Int32), nI i)) ?_ (fun i hi => ?_) ?_
        · refine Prod.ext ?_ rfl
          show (if _ then (1 : Int32) else 0) = if _ then 1 else 0
          congr 1
          simp
        · have xj := I.gxy (g := i) (by omega)
          obtain ⟨-, -, -, i2⟩ := I.G (g := i) (by omega)
          show Ic_lacking_l31 t (nI s) (nI k) (nI a) (nI g) _ (nI i) m = _
          unfold Ic_lacking_l31 Ic_lacking_b72
          rw [if_neg (nI_ge hi (by omega)), gd_in (n := 4) (by omega) (by decide), ix_nI (by omega), show rI m (t + 4) i = nI (wgr W i 2) from As i (by omega), ix_nI (by omega), show rI m (t + 5) i = nI (gbN W i) from Ag i (by omega), show rI m (t + 5) g = nI (gbN W g) from Ag g hg, gd_in (n := 4) (by omega) (by decide), gd_in (n := 4) (by omega) (by decide), Ic_isOnePiece_e, bind_s, ite_b2, nI_1]
          have same : ¬ (gpN W s i = gpN W s g ∧ 0 < wgr W i 2) → ((∃ j, j < i ∧ (gpN W s j = gpN W s g ∧ 0 < wgr W j 2)) ↔ (∃ j, j < i + 1 ∧ (gpN W s j = gpN W s g ∧ 0 < wgr W j 2))) := by
            intro w
            constructor
            · rintro ⟨j, a1, a2⟩; exact ⟨j, by omega, a2⟩
            · rintro ⟨j, a1, a2⟩
              refine ⟨j, ?_, a2⟩
              rcases Nat.lt_or_ge j i with z | z
              · exact z
              · exact absurd (by rw [show i = j by omega]; exact a2) w
          by_cases hz : 0 < wgr W i 2
          · rw [if_neg (nI_nle hz (by omega))]
            by_cases e : gpN W s i = gpN W s g
            · rw [if_pos ((one_piece I hs xj.1 xj.2 xg.1 xg.2).mpr e)]
              refine congrArg some (congrArg Sum.inl (Prod.ext ?_ rfl))
              rw [if_neg (fun w => w.2 ⟨i, by omega, e, hz⟩)]
            · rw [if_neg (fun q => e ((one_piece I hs xj.1 xj.2 xg.1 xg.2).mp q))]
              refine congrArg some (congrArg Sum.inl (Prod.ext ?_ rfl))
              simp only [same (fun w => e w.1)]
          · rw [if_pos (show nI (wgr W i 2) ≤ 0 from nI_le (b := 0) (by omega) (by decide))]
            refine congrArg some (congrArg Sum.inl (Prod.ext ?_ rfl))
            simp only [same (fun w => hz w.2)]
        · show Ic_lacking_l31 t (nI s) (nI k) (nI a) (nI g) _ (nI g) m = _
          unfold Ic_lacking_l31 Ic_lacking_b98
          have zi : (b = true ∧ ¬ ∃ j, j < g ∧ (gpN W s j = gpN W s g ∧ 0 < wgr W j 2)) ↔ (0 < wgr W g 2 ∧ ¬ 0 < fstN W s g) := by
            rw [hb, fstN_iff]
            simp
          rw [if_pos (nI_le (Nat.le_refl _) (by omega))]
          by_cases z : 0 < wgr W g 2 ∧ ¬ 0 < fstN W s g
          · rw [if_pos (zi.mpr z), if_neg (show ¬ ((1 : Int32) = 0) by decide), Ic_shortOf_e A I hs hg hk, bind_s, jmaxS I, nI_add, up_some, nI_1, if_pos z]
          · rw [if_neg (fun w => z (zi.mp w)), if_pos (show ((0 : Int32) = 0) from rfl), up_some, nI_1, if_neg z]
            rfl
      unfold Ic_lacking_l5
      rw [if_neg (show ¬ (4 : Int32) ≤ nI g from nI_ge (b := 4) hg (by decide)), gd_in hg (by decide), ix_nI (by omega), show rI m (t + 4) g = nI (wgr W g 2) from As g hg]
      by_cases hz : 0 < wgr W g 2
      · rw [if_neg (nI_nle hz (by omega))]
        exact inner true (by simpa using hz)
      · rw [if_pos (show nI (wgr W g 2) ≤ 0 from nI_le (b := 0) (by omega) (by decide))]
        exact inner false (by simpa using hz)
    · show Ic_lacking_l5 t (nI s) (nI k) (nI a) (nI 4) m = _
      unfold Ic_lacking_l5
      rw [if_pos (show (4 : Int32) ≤ nI 4 from by decide), up_some]
  · unfold lacksN
    by_cases ht : toldN W k
    · rw [if_pos ht]
      refine sN_cong (fun g hg => ?_)
      have p0 := people_one W s hg
      have e1 : peopleOnN W s (gpN W s g) * ndN W k = needN (W 4) (peopleOnN W s (gpN W s g)) k := by
        unfold ndN
        rw [if_pos ht, need1]
      by_cases z : 0 < wgr W g 2
      · rw [if_pos z]
        unfold lackAtN lackP
        by_cases f : 0 < fstN W s g
        · rw [if_pos f, if_neg (fun q => q.2 f)]
        · rw [if_neg f, if_neg (by omega), if_pos ⟨z, f⟩, e1]
      · rw [if_neg z, if_neg (fun q => z q.1)]
    · rw [if_neg ht]
      refine (sN_0 (fun g hg => ?_)).symm
      have : ndN W k = 0 := by unfold ndN; rw [if_neg ht]
      rw [this, Nat.mul_zero, Nat.zero_sub, ite_self]
end ML

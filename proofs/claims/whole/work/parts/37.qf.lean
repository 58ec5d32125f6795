/-! sleep, heap, put -/
theorem sN_cut {f : Nat → Nat} {h : Nat} : ∀ {n : Nat}, h < n → sN f n = sN (fun i => if i = h then 0 else f i) n + f h
  | n + 1, hn => by
    rw [sN_s, sN_s]
    by_cases e : h = n
    · subst e
      rw [if_pos rfl, sN_cong (f := fun i => if i = h then 0 else f i) (g := f) (fun i hi => if_neg (by omega))]
      rfl
    · rw [if_neg (fun z => e z.symm), sN_cut (f := f) (show h < n by omega)]
      omega
section QF
variable {m : Mem} {c : Nat} {W : Wd}
def slpW (W : Wd) (g x y n : Nat) : Wd := fun j => if j = 188 + 3 * g then x else if j = 188 + 3 * g + 1 then y else if j = 188 + 3 * g + 2 then n else W j
theorem slp_o (W : Wd) {g x y n j : Nat} (h : j < 188 + 3 * g ∨ 188 + 3 * g + 2 < j) : slpW W g x y n j = W j := by
  unfold slpW
  rw [if_neg (by omega), if_neg (by omega), if_neg (by omega)]
theorem slp_0 (W : Wd) (g x y n : Nat) : wgr (slpW W g x y n) g 0 = x := if_pos rfl
theorem slp_1 (W : Wd) (g x y n : Nat) : wgr (slpW W g x y n) g 1 = y := by
  unfold wgr slpW
  rw [if_neg (by omega), if_pos rfl]
theorem slp_2 (W : Wd) (g x y n : Nat) : wgr (slpW W g x y n) g 2 = n := by
  unfold wgr slpW
  rw [if_neg (by omega), if_neg (by omega), if_pos rfl]
theorem slp_n (W : Wd) {g x y n g' k : Nat} (h : g' ≠ g) (hk : k < 3) : wgr (slpW W g x y n) g' k = wgr W g' k := slp_o W (by omega)
abbrev slN (W : Wd) : Nat := sN (fun g => wgr W g 2) 4
theorem slp_sum (W : Wd) {g : Nat} (x y n : Nat) (hg : g < 4) : slN (slpW W g x y n) = slN W - wgr W g 2 + n ∧ wgr W g 2 ≤ slN W := by
  have e1 := sN_cut (f := fun k => wgr (slpW W g x y n) k 2) hg
  have e2 := sN_cut (f := fun k => wgr W k 2) hg
  have e3 : sN (fun i => if i = g then 0 else wgr (slpW W g x y n) i 2) 4 = sN (fun i => if i = g then 0 else wgr W i 2) 4 := sN_cong (fun i hi => by
    by_cases q : i = g
    · rw [if_pos q, if_pos q]
    · rw [if_neg q, if_neg q, slp_n W q (by omega)])
  rw [slp_2] at e1
  unfold slN
  omega
theorem Ca_placeGroup_e {g : Nat} (hg : g < 4) (x y : Int32) : Ca_placeGroup c (nI g) x y m = some (wI (wI m (c + 36) g x) (c + 37) g y) := by
  unfold Ca_placeGroup
  rw [PL_isGroup_e, bind_s, ite_b2, if_pos (in_nI hg (by decide)), gd_in hg (by decide)]
  show gd _ _ = _
  rw [gd_in hg (by decide), ix_nI (by omega)]
  rfl
theorem Ca_placeHeap_e {h : Nat} (hh : h < 8) (x y : Int32) : Ca_placeHeap c (nI h) x y m = some (wI (wI m (c + 25) h x) (c + 26) h y) := by
  unfold Ca_placeHeap
  rw [PL_isHeap_e, bind_s, ite_b2, if_pos (in_nI hh (by decide)), gd_in hh (by decide)]
  show gd _ _ = _
  rw [gd_in hh (by decide), ix_nI (by omega)]
  rfl
theorem CR.slp (R : CR m c W) (I : Inv W) {g : Nat} (x y n : Nat) (hg : g < 4) : CR (wI (wI (wI m (c + 36) g (nI x)) (c + 37) g (nI y)) (c + 38) g (nI n)) c (slpW W g x y n) := by
  refine R.gs I (fun i hi => slp_o W (by omega)) (fun a _ _ ha => ?_) (fun k hk => ?_)
  · rw [wI_1 _ (by omega), wI_1 _ (by omega), wI_1 _ (by omega)]
  · by_cases e : k = g
    · subst e
      rw [slp_0, slp_1, slp_2, wI_o _ (by omega), wI_o _ (by omega), wI_self, wI_o _ (by omega), wI_self, wI_self]
      exact ⟨rfl, rfl, rfl⟩
    · rw [slp_n W e (by omega), slp_n W e (by omega), slp_n W e (by omega), wI_o _ (by omega), wI_o _ (by omega), wI_at, if_neg e, wI_o _ (by omega), wI_at, if_neg e, wI_o _ (by omega), wI_at, if_neg e, wI_o _ (by omega), wI_o _ (by omega), R.g0 hk, R.g1 hk, R.g2 hk]
      exact ⟨rfl, rfl, rfl⟩
theorem Inv.slp (I : Inv W) {g x y n : Nat} (hg : g < 4) (hx : x < W 1) (hy : y < W 2) (hn : n ≤ 28) (hs : slN W - wgr W g 2 + n ≤ W 3) : Inv (slpW W g x y n) := by
  have d := I.d
  refine I.gs (fun i hi => slp_o W (by omega)) (fun k hk => ?_) (by rw [show sN (fun g_1 => wgr (slpW W g x y n) g_1 2) 4 = slN (slpW W g x y n) from rfl, (slp_sum W x y n hg).1]; exact hs)
  by_cases e : k = g
  · subst e
    unfold IvG
    rw [slp_0, slp_1, slp_2, slp_o W (by omega), slp_o W (by omega)]
    exact ⟨fun _ => ⟨hx, hy⟩, by omega, by omega, hn⟩
  · exact (I.G hk).al (slp_o W (by omega)) (slp_o W (by omega)) (fun j hj => slp_n W e hj)
def vSleep (W : Wd) (g x y n : Int32) : Int32 := if inb g 4 then if inb x (W 1) ∧ inb y (W 2) then if inb n 29 then if slN W - wgr W (ix g) 2 + ix n ≤ W 3 then nI (slN W - wgr W (ix g) 2 + ix n) else -3 else -2 else -2 else -2
def uSleep (g x y n : Int32) (W : Wd) : Wd := if inb g 4 then if inb x (W 1) ∧ inb y (W 2) then if inb n 29 then if slN W - wgr W (ix g) 2 + ix n ≤ W 3 then slpW W (ix g) (ix x) (ix y) (ix n) else W else W else W else W
theorem slN_le (I : Inv W) : slN W ≤ 28 := by
  have := I.2.2.2.2.2.2.2
  have d := I.d
  unfold slN
  omega
theorem st_sleep (g x y n : Int32) : Same (PL_sleep 1 g x y n) (Mo_sleep 298 g x y n) := by
  refine Same_w (fun W => vSleep W g x y n) (uSleep g x y n) (fun W I => ?_) (fun m W R I => ?_) (fun m W hW I => ?_)
  · have d := I.d
    unfold uSleep
    by_cases h : inb g 4
    · obtain ⟨a, ha, rfl⟩ := in_of h (by omega)
      rw [if_pos h]
      by_cases h1 : inb x (W 1) ∧ inb y (W 2)
      · obtain ⟨b, hb, rfl⟩ := in_of h1.1 (by omega)
        obtain ⟨e, he, rfl⟩ := in_of h1.2 (by omega)
        rw [if_pos h1]
        by_cases h2 : inb n 29
        · obtain ⟨f, hf, rfl⟩ := in_of h2 (by omega)
          rw [if_pos h2, ix_nI (by omega), ix_nI (by omega), ix_nI (by omega), ix_nI (by omega)]
          by_cases h3 : slN W - wgr W a 2 + f ≤ W 3
          · rw [if_pos h3]
            exact I.slp ha hb he (by omega) h3
          · rw [if_neg h3]; exact I
        · rw [if_neg h2]; exact I
      · rw [if_neg h1]; exact I
    · rw [if_neg h]; exact I
  · have d := I.d
    have sl := slN_le I
    unfold PL_sleep vSleep uSleep
    refine Ok_b (PL_isGroup_e m g) ?_
    rw [ite_b2]
    by_cases h : inb g 4
    · obtain ⟨a, ha, rfl⟩ := in_of h (by omega)
      simp only [if_pos h]
      refine Ok_b (fl_hasCell R I x y) ?_
      rw [ite_b2]
      by_cases h1 : inb x (W 1) ∧ inb y (W 2)
      · obtain ⟨b, hb, rfl⟩ := in_of h1.1 (by omega)
        obtain ⟨e, he, rfl⟩ := in_of h1.2 (by omega)
        simp only [if_pos h1]
        rw [show (28 : Int32) = nI 28 from rfl, ite_rle (by decide)]
        by_cases h2 : inb n 29
        · obtain ⟨f, hf, rfl⟩ := in_of h2 (by omega)
          simp only [if_pos h2, ix_nI (show a < 2147483648 by omega), ix_nI (show b < 2147483648 by omega), ix_nI (show e < 2147483648 by omega), ix_nI (show f < 2147483648 by omega)]
          have le := (slp_sum W b e f ha).2
          refine Ok_b (show Ca_sleepers (1 + 27) m = some (nI (slN W)) from Ca_sleepers_e R) ?_
          refine Ok_gd h ?_
          rw [show rI m (1 + 65) a = nI (wgr W a 2) from R.g2 ha, show rI m (1 + 28) 2 = nI (W 3) from cf2 R, pk_sub le, nI_add]
          by_cases h3 : slN W - wgr W a 2 + f ≤ W 3
          · simp only [if_pos h3]
            refine Ok_it (nI_le h3 (by omega)) (Ok_b (Ca_placeGroup_e ha _ _) (Ok_gd h (Ok_lt (Ok_s ⟨rfl, R.slp I b e f ha, ?_⟩))))
            exact (((Fp.wI (lo := 64) (hi := 67) (by omega) (by omega) _ _).trans (Fp.wI (by omega) (by omega) _ _)).trans (Fp.wI (by omega) (by omega) _ _)).C (by omega)
          · simp only [if_neg h3]
            exact Ok_if (nI_ge (by omega) (by omega)) (Ok_s ⟨rfl, R, FpC.refl⟩)
        · simp only [if_neg h2]
          exact Ok_s ⟨rfl, R, FpC.refl⟩
      · simp only [if_neg h1]
        exact Ok_s ⟨rfl, R, FpC.refl⟩
    · simp only [if_neg h]
      exact Ok_s ⟨rfl, R, FpC.refl⟩
  · have d := I.d
    have sl := slN_le I
    unfold Mo_sleep vSleep uSleep
    refine Ok_b (Mo_isGroup_e m g) ?_
    rw [ite_b2]
    by_cases h : inb g 4
    · obtain ⟨a, ha, rfl⟩ := in_of h (by omega)
      simp only [if_pos h]
      refine Ok_b (Mo_isCell_e hW (by omega) (by omega) x y) ?_
      rw [ite_b2]
      by_cases h1 : inb x (W 1) ∧ inb y (W 2)
      · obtain ⟨b, hb, rfl⟩ := in_of h1.1 (by omega)
        obtain ⟨e, he, rfl⟩ := in_of h1.2 (by omega)
        simp only [if_pos h1]
        refine Ok_b (in0 m n (n := 29) (by decide) (by decide)) ?_
        rw [ite_b2]
        by_cases h2 : inb n 29
        · obtain ⟨f, hf, rfl⟩ := in_of h2 (by omega)
          simp only [if_pos h2, ix_nI (show a < 2147483648 by omega), ix_nI (show b < 2147483648 by omega), ix_nI (show e < 2147483648 by omega), ix_nI (show f < 2147483648 by omega)]
          have le := (slp_sum W b e f ha).2
          refine Ok_b (show Mo_sleepers 298 m = some (nI (slN W)) from Mo_sleepers_e hW) ?_
          refine Ok_b (qG2 hW ha) (Ok_gd (by decide) ?_)
          rw [qW3 hW, pk_sub le, nI_add]
          by_cases h3 : slN W - wgr W a 2 + f ≤ W 3
          · simp only [if_pos h3]
            have e0 : (188 + 3 * nI a : Int32) = nI (188 + 3 * a) := by rw [li 188, li 3, pk_mul, nI_add]
            have e1 : (nI (188 + 3 * a) + 1 : Int32) = nI (188 + 3 * a + 1) := nI_1 _
            have e2 : (nI (188 + 3 * a) + 2 : Int32) = nI (188 + 3 * a + 2) := nI_add _ 2
            have hW2 : MW (wI (wI (wI m 299 (188 + 3 * a) (nI b)) 299 (188 + 3 * a + 1) (nI e)) 299 (188 + 3 * a + 2) (nI f)) (slpW W a b e f) := by
              intro j hj
              rw [wI_at, wI_at, wI_at]
              unfold slpW
              by_cases q2 : j = 188 + 3 * a + 2
              · rw [if_pos q2, if_neg (by omega), if_neg (by omega), if_pos q2]
              · rw [if_neg q2]
                by_cases q1 : j = 188 + 3 * a + 1
                · rw [if_pos q1, if_neg (by omega), if_pos q1]
                · rw [if_neg q1]
                  by_cases q0 : j = 188 + 3 * a
                  · rw [if_pos q0, if_pos q0]
                  · rw [if_neg q0, if_neg q0, if_neg q1, if_neg q2, hW j hj]
            rw [e0, e1, e2, ix_nI (by omega), ix_nI (by omega), ix_nI (by omega)]
            refine Ok_it (nI_le h3 (by omega)) (Ok_gd (in_nI (by omega) (by decide)) (Ok_lt (Ok_gd (in_nI (by omega) (by decide)) (Ok_lt (Ok_gd (in_nI (by omega) (by decide)) (Ok_lt ?_))))))
            refine Ok_b (Mo_sleepers_e hW2) (Ok_s ⟨?_, hW2, ?_⟩)
            · exact congrArg nI (slp_sum W b e f ha).1
            · exact (((Fp.wI (lo := 299) (hi := 300) (by omega) (by omega) _ _).trans (Fp.wI (by omega) (by omega) _ _)).trans (Fp.wI (by omega) (by omega) _ _)).M (by omega)
          · simp only [if_neg h3]
            exact Ok_if (nI_ge (by omega) (by omega)) (Ok_s ⟨rfl, hW, FpM.refl⟩)
        · simp only [if_neg h2]
          exact Ok_s ⟨rfl, hW, FpM.refl⟩
      · simp only [if_neg h1]
        exact Ok_s ⟨rfl, hW, FpM.refl⟩
    · simp only [if_neg h]
      exact Ok_s ⟨rfl, hW, FpM.refl⟩
/-! heap -/
def clrW (W : Wd) (h : Nat) : Wd := fun j => if 116 + 9 * h ≤ j ∧ j < 116 + 9 * h + 9 then 0 else W j
theorem clr_o (W : Wd) {h j : Nat} (q : j < 116 + 9 * h ∨ 116 + 9 * h + 9 ≤ j) : clrW W h j = W j := if_neg (by omega)
theorem clr_s (W : Wd) (h : Nat) {k : Nat} (hk : k < 9) : whe (clrW W h) h k = 0 := if_pos ⟨by omega, by omega⟩
theorem clr_n (W : Wd) {h h' k : Nat} (q : h' ≠ h) (hk : k < 9) : whe (clrW W h) h' k = whe W h' k := clr_o W (by omega)
def plcW (W : Wd) (h x y : Nat) : Wd := fun j => if j = 116 + 9 * h then 1 else if j = 116 + 9 * h + 1 then x else if j = 116 + 9 * h + 2 then y else W j
theorem plc_o (W : Wd) {h x y j : Nat} (q : j < 116 + 9 * h ∨ 116 + 9 * h + 3 ≤ j) : plcW W h x y j = W j := by
  unfold plcW
  rw [if_neg (by omega), if_neg (by omega), if_neg (by omega)]
theorem plc_0 (W : Wd) (h x y : Nat) : whe (plcW W h x y) h 0 = 1 := if_pos rfl
theorem plc_1 (W : Wd) (h x y : Nat) : whe (plcW W h x y) h 1 = x := by
  unfold whe plcW
  rw [if_neg (by omega), if_pos rfl]
theorem plc_2 (W : Wd) (h x y : Nat) : whe (plcW W h x y) h 2 = y := by
  unfold whe plcW
  rw [if_neg (by omega), if_neg (by omega), if_pos rfl]
theorem plc_n (W : Wd) {h x y h' k : Nat} (q : h' ≠ h) (hk : k < 9) : whe (plcW W h x y) h' k = whe W h' k := plc_o W (by omega)
theorem plc_u (W : Wd) {h x y h' k : Nat} (hk : 3 ≤ k) (hk2 : k < 9) : whe (plcW W h x y) h' k = whe W h' k := plc_o W (by omega)
theorem Inv.clr (I : Inv W) {h : Nat} (hh : h < 8) : Inv (clrW W h) := by
  refine I.hs (fun i hi => clr_o W (by omega)) (fun s hs => Nat.le_trans (sN_mono (fun k hk => ?_)) (I.sum hs)) (fun k hk => ?_)
  · have d := I.d
    by_cases e : k = h
    · subst e
      simp only [clr_s W k (show 3 + s < 9 by omega)]
      omega
    · simp only [clr_n W e (show 3 + s < 9 by omega)]
      omega
  · by_cases e : k = h
    · subst e
      unfold IvH
      rw [clr_s W k (by omega), clr_s W k (by omega), clr_s W k (by omega)]
      exact ⟨by omega, fun q => absurd q (by decide), fun _ => ⟨rfl, rfl, fun s hs => clr_s W k (by omega)⟩, fun s _ hs => clr_s W k (by omega)⟩
    · exact (I.H hk).al (clr_o W (by omega)) (clr_o W (by omega)) (clr_o W (by omega)) (fun j hj => clr_n W e hj)
theorem Inv.plc (I : Inv W) {h x y : Nat} (hh : h < 8) (hx : x < W 1) (hy : y < W 2) : Inv (plcW W h x y) := by
  refine I.hs (fun i hi => plc_o W (by omega)) (fun s hs => ?_) (fun k hk => ?_)
  · have d := I.d
    rw [sN_cong (f := fun k => whe (plcW W h x y) k (3 + s)) (g := fun k => whe W k (3 + s)) (fun k hk => plc_u W (by omega) (by omega))]
    exact I.sum hs
  · by_cases e : k = h
    · subst e
      obtain ⟨a, b, c, d⟩ := I.H hk
      unfold IvH
      rw [plc_0, plc_1, plc_2, plc_o W (show 1 < _ ∨ _ by omega), plc_o W (show 2 < _ ∨ _ by omega), plc_o W (show 6 < _ ∨ _ by omega)]
      refine ⟨by omega, fun _ => ⟨hx, hy⟩, fun q => absurd q (by decide), fun s h1 h2 => ?_⟩
      rw [plc_u W (by omega) (by omega)]
      exact d s h1 h2
    · exact (I.H hk).al (plc_o W (by omega)) (plc_o W (by omega)) (plc_o W (by omega)) (fun j hj => plc_n W e hj)
theorem CR.plc (R : CR m c W) (I : Inv W) {h x y : Nat} (hh : h < 8) : CR (wI (wI m (c + 25) h (nI x)) (c + 26) h (nI y)) c (plcW W h x y) := by
  refine R.hs I (fun i hi => plc_o W (by omega)) (fun a _ _ ha => ?_) (fun k hk => ?_) (fun k s hk hs => ?_)
  · rw [wI_1 _ (by omega), wI_1 _ (by omega)]
  · by_cases e : k = h
    · subst e
      unfold hxI
      rw [plc_0, plc_1, plc_2, if_pos rfl, wI_o _ (by omega), wI_self, wI_self]
      exact ⟨rfl, rfl⟩
    · unfold hxI
      rw [plc_n W e (by omega), plc_n W e (by omega), plc_n W e (by omega), wI_o _ (by omega), wI_at, if_neg e, wI_at, if_neg e, wI_o _ (by omega)]
      exact ⟨R.hx hk, R.hy hk⟩
  · rw [wI_o _ (by omega), wI_o _ (by omega), plc_u W (by omega) (by omega), R.un hk hs]
theorem Ca_takeAway_e {h : Nat} (hh : h < 8) : Ok (Ca_takeAway c (nI h) m) (fun x => (∀ a, a ≠ c + 25 → a ≠ c + 26 → a ≠ c + 28 + h → x.1 a = m.1 a) ∧ x.2 = m.2 ∧ (∀ i, x.1 (c + 25) i = if i = h then -1 else m.1 (c + 25) i) ∧ (∀ i, x.1 (c + 26) i = if i = h then 0 else m.1 (c + 26) i) ∧ ∀ s, s < 6 → x.1 (c + 28 + h) s = 0) := by
  unfold Ca_takeAway
  refine Ok_b (Ca_placeHeap_e hh _ _) ?_
  refine Ok_for 6 (fun i x => (∀ a, a ≠ c + 25 → a ≠ c + 26 → a ≠ c + 28 + h → x.1 a = m.1 a) ∧ x.2 = m.2 ∧ (∀ i, x.1 (c + 25) i = if i = h then -1 else m.1 (c + 25) i) ∧ (∀ i, x.1 (c + 26) i = if i = h then 0 else m.1 (c + 26) i) ∧ ∀ s, s < i → x.1 (c + 28 + h) s = 0) ⟨fun a h1 h2 h3 => ?_, rfl, fun i => ?_, fun i => ?_, fun s hs => by omega⟩ (fun i x hi ⟨a, b, p, q, r⟩ => ?_) (fun x hx => ?_)
  · rw [wI_1 _ h2, wI_1 _ h1]
  · rw [wI_o _ (by omega), wI_at]
  · rw [wI_at, wI_o _ (by omega)]
  · show Ok (Ca_takeAway_l9 c (nI h) (nI i) x) _
    unfold Ca_takeAway_l9
    refine Ok_if (show ¬ (6 : Int32) ≤ nI i from nI_ge (b := 6) hi (by decide)) (Ok_b (PL_isHeap_n x hh) (Ok_if (by decide) (Ok_gd (in_nI hh (by decide)) (Ok_gd (in_nI hi (by decide)) (Ok_lt ?_)))))
    rw [ix_nI (by omega), ix_nI (by omega), show c + 27 + (1 + h) = c + 28 + h by omega]
    refine Ok_s ⟨wI x (c + 28 + h) i 0, by rw [nI_1], fun z h1 h2 h3 => ?_, b, fun j => ?_, fun j => ?_, fun s hs => ?_⟩
    · rw [wI_1 _ h3]; exact a z h1 h2 h3
    · rw [wI_o _ (by omega)]; exact p j
    · rw [wI_o _ (by omega)]; exact q j
    · by_cases e : s = i
      · rw [e, wI_self]
      · rw [wI_at, if_neg e]; exact r s (by omega)
  · show Ok (Ca_takeAway_l9 c (nI h) (nI 6) x) _
    unfold Ca_takeAway_l9
    refine Ok_it (show (6 : Int32) ≤ nI 6 by decide) ?_
    rw [up_some]
    exact Ok_s ⟨_, rfl, hx⟩
theorem CR.clr (R : CR m c W) (I : Inv W) {h : Nat} (hh : h < 8) {x : Mem} (a : ∀ a, a ≠ c + 25 → a ≠ c + 26 → a ≠ c + 28 + h → x.1 a = m.1 a) (p : ∀ i, x.1 (c + 25) i = if i = h then -1 else m.1 (c + 25) i) (q : ∀ i, x.1 (c + 26) i = if i = h then 0 else m.1 (c + 26) i) (r : ∀ s, s < 6 → x.1 (c + 28 + h) s = 0) : CR x c (clrW W h) := by
  refine R.hs I (fun i hi => clr_o W (by omega)) (fun z _ _ ha => a z (by omega) (by omega) (by omega)) (fun k hk => ?_) (fun k s hk hs => ?_)
  · rw [p, q]
    unfold hxI
    by_cases e : k = h
    · subst e
      rw [clr_s W k (k := 0) (by omega), clr_s W k (k := 2) (by omega), if_pos rfl, if_neg (by decide), if_pos rfl]
      exact ⟨rfl, rfl⟩
    · rw [clr_n W e (by omega), clr_n W e (by omega), clr_n W e (by omega), if_neg e, if_neg e]
      exact ⟨R.hx hk, R.hy hk⟩
  · by_cases e : k = h
    · subst e
      rw [clr_s W k (by omega), r s hs]
      rfl
    · rw [clr_n W e (by omega), a _ (by omega) (by omega) (by omega), R.un hk hs]
theorem Mo_setHeap_e (m : Mem) {h k : Nat} (hh : h < 8) (hk : k < 9) (v : Int32) : Mo_setHeap 298 (nI h) (nI k) v m = some (wI m 299 (116 + 9 * h + k) v) := by
  unfold Mo_setHeap
  have e : (116 + 9 * nI h + nI k : Int32) = nI (116 + 9 * h + k) := by rw [li 116, li 9, pk_mul, nI_add, nI_add]
  rw [e, gd_in (by omega) (by decide), ix_nI (by omega)]
  rfl
theorem whe0 (W : Wd) (I : Inv W) {h : Nat} (hh : h < 8) : (if whe W h 0 = 1 then (1 : Int32) else 0) = nI (whe W h 0) := by
  have := (I.H hh).1
  by_cases e : whe W h 0 = 1
  · rw [if_pos e, e]; rfl
  · rw [if_neg e, show whe W h 0 = 0 by omega]; rfl
def vHeap (W : Wd) (h x y : Int32) : Int32 := if inb h 8 then if x = -1 then nI (whe W (ix h) 0) else if inb x (W 1) ∧ inb y (W 2) then nI (whe W (ix h) 0) else -2 else -2
def uHeap (h x y : Int32) (W : Wd) : Wd := if inb h 8 then if x = -1 then clrW W (ix h) else if inb x (W 1) ∧ inb y (W 2) then plcW W (ix h) (ix x) (ix y) else W else W
theorem st_heap (h x y : Int32) : Same (PL_heap 1 h x y) (Mo_heap 298 h x y) := by
  refine Same_w (fun W => vHeap W h x y) (uHeap h x y) (fun W I => ?_) (fun m W R I => ?_) (fun m W hW I => ?_)
  · have d := I.d
    unfold uHeap
    by_cases hh : inb h 8
    · obtain ⟨a, ha, rfl⟩ := in_of hh (by omega)
      rw [if_pos hh, ix_nI (by omega)]
      by_cases h1 : x = -1
      · rw [if_pos h1]; exact I.clr ha
      · rw [if_neg h1]
        by_cases h2 : inb x (W 1) ∧ inb y (W 2)
        · obtain ⟨b, hb, rfl⟩ := in_of h2.1 (by omega)
          obtain ⟨e, he, rfl⟩ := in_of h2.2 (by omega)
          rw [if_pos h2, ix_nI (by omega), ix_nI (by omega)]
          exact I.plc ha hb he
        · rw [if_neg h2]; exact I
    · rw [if_neg hh]; exact I
  · have d := I.d
    unfold PL_heap vHeap uHeap
    refine Ok_b (PL_isHeap_e m h) ?_
    rw [ite_b2]
    by_cases hh : inb h 8
    · obtain ⟨a, ha, rfl⟩ := in_of hh (by omega)
      simp only [if_pos hh, ix_nI (show a < 2147483648 by omega)]
      have b30 : PL_heap_b30 1 (nI a) x y m = PL_heap_b46 1 (nI a) x y (nI (whe W a 0)) m := by
        unfold PL_heap_b30
        rw [show Ca_hasHeap (1 + 27) (nI a) m = _ from Ca_hasHeap_e R I ha, bind_s, ite_b2, ← whe0 W I ha]
        by_cases e : whe W a 0 = 1
        · rw [if_pos e, if_pos e]
        · rw [if_neg e, if_neg e]
      by_cases h1 : x = -1
      · simp only [if_pos h1]
        rw [b30]
        unfold PL_heap_b46
        refine Ok_it h1 (Ok_bind (Ca_takeAway_e ha) (fun z ⟨p1, p2, p3, p4, p5⟩ => Ok_s ⟨rfl, R.clr I ha p1 p3 p4 p5, fun b hb => ⟨p1 b (by omega) (by omega) (by omega), by rw [p2]⟩⟩))
      · simp only [if_neg h1]
        refine Ok_b (fl_hasCell R I x y) ?_
        rw [ite_b2]
        by_cases h2 : inb x (W 1) ∧ inb y (W 2)
        · obtain ⟨b, hb, rfl⟩ := in_of h2.1 (by omega)
          obtain ⟨e, he, rfl⟩ := in_of h2.2 (by omega)
          simp only [if_pos h2, ix_nI (show b < 2147483648 by omega), ix_nI (show e < 2147483648 by omega)]
          rw [b30]
          unfold PL_heap_b46
          refine Ok_if h1 (Ok_b (Ca_placeHeap_e ha _ _) (Ok_s ⟨rfl, R.plc I ha, ?_⟩))
          exact ((Fp.wI (lo := 53) (hi := 55) (by omega) (by omega) _ _).trans (Fp.wI (by omega) (by omega) _ _)).C (by omega)
        · simp only [if_neg h2]
          exact Ok_s ⟨rfl, R, FpC.refl⟩
    · simp only [if_neg hh]
      exact Ok_s ⟨rfl, R, FpC.refl⟩
  · have d := I.d
    unfold Mo_heap vHeap uHeap
    refine Ok_b (Mo_isHeap_e m h) ?_
    rw [ite_b2]
    by_cases hh : inb h 8
    · obtain ⟨a, ha, rfl⟩ := in_of hh (by omega)
      simp only [if_pos hh, ix_nI (show a < 2147483648 by omega)]
      by_cases h1 : x = -1
      · simp only [if_pos h1]
        unfold Mo_heap_b24
        refine Ok_b (qH0 hW ha) (Ok_it h1 ?_)
        refine Ok_for 9 (fun i z => (∀ j, j < 200 → z.1 299 j = if 116 + 9 * a ≤ j ∧ j < 116 + 9 * a + i then 0 else m.1 299 j) ∧ Fp 299 300 m z) ⟨fun j hj => by rw [if_neg (by omega)], Fp.refl⟩ (fun i z hi ⟨p, F⟩ => ?_) (fun z ⟨p, F⟩ => ?_)
        · show Ok (Mo_heap_l40 298 (nI a) (nI (whe W a 0)) (nI i) z) _
          unfold Mo_heap_l40
          refine Ok_if (show ¬ (9 : Int32) ≤ nI i from nI_ge (b := 9) hi (by decide)) (Ok_b (Mo_setHeap_e z ha hi 0) (Ok_s ⟨_, by rw [nI_1], fun j hj => ?_, F.trans (Fp.wI (by omega) (by omega) _ _)⟩))
          rw [wI_at]
          by_cases e : j = 116 + 9 * a + i
          · rw [if_pos e, if_pos (by omega)]
          · rw [if_neg e, p j hj]
            by_cases e2 : 116 + 9 * a ≤ j ∧ j < 116 + 9 * a + i
            · rw [if_pos e2, if_pos (by omega)]
            · rw [if_neg e2, if_neg (by omega)]
        · show Ok (Mo_heap_l40 298 (nI a) (nI (whe W a 0)) (nI 9) z) _
          unfold Mo_heap_l40
          refine Ok_it (show (9 : Int32) ≤ nI 9 by decide) ?_
          rw [up_some]
          refine Ok_s ⟨_, rfl, rfl, fun j hj => ?_, F.M (by omega)⟩
          rw [p j hj]
          unfold clrW
          by_cases e : 116 + 9 * a ≤ j ∧ j < 116 + 9 * a + 9
          · rw [if_pos e, if_pos e]; rfl
          · rw [if_neg e, if_neg e, hW j hj]
      · simp only [if_neg h1]
        refine Ok_b (Mo_isCell_e hW (by omega) (by omega) x y) ?_
        rw [ite_b2]
        by_cases h2 : inb x (W 1) ∧ inb y (W 2)
        · obtain ⟨b, hb, rfl⟩ := in_of h2.1 (by omega)
          obtain ⟨e, he, rfl⟩ := in_of h2.2 (by omega)
          simp only [if_pos h2, ix_nI (show b < 2147483648 by omega), ix_nI (show e < 2147483648 by omega)]
          unfold Mo_heap_b24
          refine Ok_b (qH0 hW ha) (Ok_if h1 (Ok_b (Mo_setHeap_e _ (k := 0) ha (by omega) 1) (Ok_b (Mo_setHeap_e _ (k := 1) ha (by omega) _) (Ok_b (Mo_setHeap_e _ (k := 2) ha (by omega) _) (Ok_s ⟨rfl, fun j hj => ?_, ?_⟩)))))
          · rw [wI_at, wI_at, wI_at]
            unfold plcW
            by_cases q2 : j = 116 + 9 * a + 2
            · rw [if_pos q2, if_neg (by omega), if_neg (by omega), if_pos q2]
            · rw [if_neg q2]
              by_cases q1 : j = 116 + 9 * a + 1
              · rw [if_pos q1, if_neg (by omega), if_pos q1]
              · rw [if_neg q1]
                by_cases q0 : j = 116 + 9 * a
                · rw [if_pos (by omega), if_pos q0]; rfl
                · rw [if_neg (by omega), if_neg q0, if_neg q1, if_neg q2, hW j hj]
          · exact (((Fp.wI (lo := 299) (hi := 300) (by omega) (by omega) _ _).trans (Fp.wI (by omega) (by omega) _ _)).trans (Fp.wI (by omega) (by omega) _ _)).M (by omega)
        · simp only [if_neg h2]
          exact Ok_s ⟨rfl, hW, FpM.refl⟩
    · simp only [if_neg hh]
      exact Ok_s ⟨rfl, hW, FpM.refl⟩
/-! put -/
abbrev putW (W : Wd) (h s n : Nat) : Wd := wu W (116 + 9 * h + (3 + s)) n
abbrev unN (W : Wd) (s : Nat) : Nat := sN (fun h => whe W h (3 + s)) 8
theorem put_n (W : Wd) {h s n h' k : Nat} (q : h' ≠ h ∨ k ≠ 3 + s) (hk : k < 9) (hs : s < 6) : whe (putW W h s n) h' k = whe W h' k := wu_o W (by omega) n
theorem put_s (W : Wd) (h s n : Nat) : whe (putW W h s n) h (3 + s) = n := wu_s W _ n
theorem put_sum (W : Wd) {h s : Nat} (n : Nat) (hh : h < 8) (hs : s < 6) : unN (putW W h s n) s = unN W s - whe W h (3 + s) + n ∧ whe W h (3 + s) ≤ unN W s ∧ sN (fun i => if i = h then 0 else whe W i (3 + s)) 8 = unN W s - whe W h (3 + s) := by
  have e1 := sN_cut (f := fun k => whe (putW W h s n) k (3 + s)) hh
  have e2 := sN_cut (f := fun k => whe W k (3 + s)) hh
  have e3 : sN (fun i => if i = h then 0 else whe (putW W h s n) i (3 + s)) 8 = sN (fun i => if i = h then 0 else whe W i (3 + s)) 8 := sN_cong (fun i hi => by
    by_cases q : i = h
    · rw [if_pos q, if_pos q]
    · rw [if_neg q, if_neg q, put_n W (Or.inl q) (by omega) hs])
  rw [put_s] at e1
  unfold unN
  omega
theorem Inv.put (I : Inv W) {h s n : Nat} (hh : h < 8) (ht : whe W h 0 = 1) (hs : s < W 6) (hn : unN W s - whe W h (3 + s) + n ≤ wso W s 3) : Inv (putW W h s n) := by
  have d := I.d
  refine I.hs (fun i hi => wu_o W (by omega) n) (fun z hz => ?_) (fun k hk => ?_)
  · by_cases e : z = s
    · subst e
      exact Nat.le_trans (Nat.le_of_eq (put_sum W (s := z) n hh (by omega)).1) hn
    · rw [sN_cong (g := fun h => whe W h (3 + z)) (fun k hk => put_n W (Or.inr (by omega)) (by omega) (by omega))]
      exact I.sum hz
  · by_cases e : k = h
    · subst e
      obtain ⟨a, b, c, q⟩ := I.H hk
      have e1 : putW W k s n 1 = W 1 := wu_o W (by omega) n
      have e2 : putW W k s n 2 = W 2 := wu_o W (by omega) n
      have e6 : putW W k s n 6 = W 6 := wu_o W (by omega) n
      unfold IvH
      rw [put_n W (Or.inr (by omega)) (by omega) (by omega), put_n W (Or.inr (by omega)) (by omega) (by omega), put_n W (Or.inr (by omega)) (by omega) (by omega), e1, e2, e6]
      refine ⟨a, b, fun z => by omega, fun z h1 h2 => ?_⟩
      rw [put_n W (Or.inr (by omega)) (by omega) (by omega)]
      exact q z h1 h2
    · exact (I.H hk).al (wu_o W (by omega) n) (wu_o W (by omega) n) (wu_o W (by omega) n) (fun j hj => put_n W (Or.inl e) hj (by omega))
theorem CR.put (R : CR m c W) (I : Inv W) {h s : Nat} (n : Nat) (hh : h < 8) (hs : s < 6) : CR (wI m (c + 28 + h) s (nI n)) c (putW W h s n) := by
  refine R.hs I (fun i hi => wu_o W (by omega) n) (fun a _ _ ha => ?_) (fun k hk => ?_) (fun k z hk hz => ?_)
  · rw [wI_1 _ (by omega)]
  · unfold hxI
    rw [wI_o _ (by omega), wI_o _ (by omega), put_n W (Or.inr (by omega)) (by omega) hs, put_n W (Or.inr (by omega)) (by omega) hs, put_n W (Or.inr (by omega)) (by omega) hs]
    exact ⟨R.hx hk, R.hy hk⟩
  · by_cases e : k = h
    · subst e
      rw [wI_at]
      by_cases e2 : z = s
      · subst e2
        rw [if_pos rfl, put_s]
      · rw [if_neg e2, put_n W (Or.inr (by omega)) (by omega) hs, R.un hk hz]
    · rw [wI_o _ (by omega), put_n W (Or.inl e) (by omega) hs, R.un hk hz]
theorem Ca_hasHeap_x (R : CR m c W) (I : Inv W) (x : Int32) : Ca_hasHeap c x m = some (b2 (inb x 8 ∧ whe W (ix x) 0 = 1)) := by
  rcases rng x (n := 8) (by decide) with ⟨p, q⟩ | ⟨p, q, r⟩ | ⟨j, hj, rfl⟩
  · unfold Ca_hasHeap
    rw [if_pos p, b2_f (fun z => q z.1)]
  · unfold Ca_hasHeap
    rw [if_neg p, if_pos (show (8 : Int32) ≤ x from q), b2_f (fun z => r z.1)]
  · rw [Ca_hasHeap_e R I hj, ix_nI (by omega)]
    exact congrArg some (b2_cong ⟨fun z => ⟨in_nI hj (by decide), z⟩, fun z => z.2⟩)
theorem Ca_laidElsewhere_e (R : CR m c W) {h s : Nat} (hh : h < 8) (hs : s < 6) : Ca_laidElsewhere c (nI h) (nI s) m = some (nI (unN W s - whe W h (3 + s))) := by
  rw [← (put_sum W 0 hh hs).2.2]
  unfold Ca_laidElsewhere
  refine loop_sum 8 (fun i => if i = h then 0 else whe W i (3 + s)) (fun a => nI a) (fun i a hi ha => ?_) (fun a ha => ?_)
  · unfold Ca_laidElsewhere_l5 Ca_laidElsewhere_b28
    rw [if_neg (show ¬ (8 : Int32) ≤ nI i from nI_ge (b := 8) hi (by decide)), Ca_unitsIn_e R hi hs, bind_s, nI_add, nI_1]
    by_cases e : i = h
    · rw [if_pos (congrArg nI e), if_pos e]; rfl
    · rw [if_neg (fun z => e ((nI_eq (by omega) (by omega)).mp z)), if_neg e]
  · unfold Ca_laidElsewhere_l5
    rw [if_pos (show (8 : Int32) ≤ nI 8 from by decide), up_some]
def vPut (W : Wd) (h s n : Int32) : Int32 := if inb h 8 ∧ whe W (ix h) 0 = 1 then if inb s (W 6) then if 0 ≤ n then if unN W (ix s) - whe W (ix h) (3 + ix s) + ix n ≤ wso W (ix s) 3 then nI (wso W (ix s) 3 - (unN W (ix s) - whe W (ix h) (3 + ix s) + ix n)) else -3 else -2 else -2 else -2
def uPut (h s n : Int32) (W : Wd) : Wd := if inb h 8 ∧ whe W (ix h) 0 = 1 then if inb s (W 6) then if 0 ≤ n then if unN W (ix s) - whe W (ix h) (3 + ix s) + ix n ≤ wso W (ix s) 3 then putW W (ix h) (ix s) (ix n) else W else W else W else W
theorem st_put (h s n : Int32) : Same (PL_put 1 h s n) (Mo_put 298 h s n) := by
  refine Same_w (fun W => vPut W h s n) (uPut h s n) (fun W I => ?_) (fun m W R I => ?_) (fun m W hW I => ?_)
  · have d := I.d
    unfold uPut
    by_cases hh : inb h 8 ∧ whe W (ix h) 0 = 1
    · rw [if_pos hh]
      by_cases h1 : inb s (W 6)
      · rw [if_pos h1]
        by_cases h2 : 0 ≤ n
        · rw [if_pos h2]
          by_cases h3 : unN W (ix s) - whe W (ix h) (3 + ix s) + ix n ≤ wso W (ix s) 3
          · obtain ⟨a, ha, rfl⟩ := in_of hh.1 (by omega)
            obtain ⟨b, hb, rfl⟩ := in_of h1 (by omega)
            rw [if_pos h3]
            have h4 := hh.2
            rw [ix_nI (by omega)] at h3 h4 ⊢
            rw [ix_nI (by omega)] at h3 ⊢
            exact I.put ha h4 hb h3
          · rw [if_neg h3]; exact I
        · rw [if_neg h2]; exact I
      · rw [if_neg h1]; exact I
    · rw [if_neg hh]; exact I
  · have d := I.d
    unfold PL_put vPut uPut
    refine Ok_b (show Ca_hasHeap (1 + 27) h m = _ from Ca_hasHeap_x R I h) ?_
    rw [ite_b2]
    by_cases hh : inb h 8 ∧ whe W (ix h) 0 = 1
    · obtain ⟨a, ha, rfl⟩ := in_of hh.1 (by omega)
      simp only [if_pos hh]
      refine Ok_b (show Ta_has (1 + 38) s m = _ from Ta_has_e m R.nS (by omega) s) ?_
      rw [ite_b2]
      by_cases h1 : inb s (W 6)
      · obtain ⟨b, hb, rfl⟩ := in_of h1 (by omega)
        simp only [if_pos h1]
        by_cases h2 : 0 ≤ n
        · simp only [if_pos h2]
          obtain ⟨j, hj, rfl⟩ := nI_of (Int32.not_lt.mpr h2)
          simp only [ix_nI (show a < 2147483648 by omega), ix_nI (show b < 2147483648 by omega), ix_nI (show j < 2147483648 by omega)]
          obtain ⟨p1, p2, p3⟩ := put_sum W j ha (show b < 6 by omega)
          have sm : unN W b ≤ wso W b 3 := I.sum hb
          obtain ⟨-, -, -, -, -, s3, -⟩ := I.S hb
          refine Ok_b (show Ta_at (1 + 38) (nI b) 3 m = _ from tS3 R I hb) (Ok_b (show Ca_laidElsewhere (1 + 27) (nI a) (nI b) m = _ from Ca_laidElsewhere_e R ha (by omega)) ?_)
          rw [pk_sub (by omega)]
          by_cases h3 : unN W b - whe W a (3 + b) + j ≤ wso W b 3
          · simp only [if_pos h3]
            refine Ok_it (nI_le (by omega) (by omega)) (Ok_gd (in_nI ha (by decide)) (Ok_gd (in_nI (n := 6) (by omega) (by decide)) (Ok_lt (Ok_s ⟨?_, ?_, ?_⟩))))
            · show nI (wso W b 3 - (unN W b - whe W a (3 + b))) - nI j = _
              rw [pk_sub (by omega), show wso W b 3 - (unN W b - whe W a (3 + b)) - j = wso W b 3 - (unN W b - whe W a (3 + b) + j) by omega]
            · rw [show 1 + 54 + (1 + a) = 28 + 28 + a by omega]
              exact R.put I j ha (by omega)
            · exact (Fp.wI (lo := 56) (hi := 64) (by omega) (by omega) _ _).C (by omega)
          · simp only [if_neg h3]
            exact Ok_if (nI_ge (by omega) (by omega)) (Ok_s ⟨rfl, R, FpC.refl⟩)
        · simp only [if_neg h2]
          exact Ok_s ⟨rfl, R, FpC.refl⟩
      · simp only [if_neg h1]
        exact Ok_s ⟨rfl, R, FpC.refl⟩
    · simp only [if_neg hh]
      exact Ok_s ⟨rfl, R, FpC.refl⟩
  · have d := I.d
    unfold Mo_put vPut uPut
    refine Ok_b (Mo_isHeap_e m h) ?_
    rw [ite_b2]
    by_cases hi : inb h 8
    · obtain ⟨a, ha, rfl⟩ := in_of hi (by omega)
      rw [if_pos hi]
      refine Ok_b (qT hW ha (I.H ha).1) ?_
      rw [ite_b2]
      by_cases ht : whe W a 0 = 1
      · have hh : inb (nI a) 8 ∧ whe W (ix (nI a)) 0 = 1 := ⟨hi, by rw [ix_nI (by omega)]; exact ht⟩
        simp only [if_pos hh]
        rw [if_pos ht]
        refine Ok_b (Mo_isSort_e hW (by omega) s) ?_
        rw [ite_b2]
        by_cases h1 : inb s (W 6)
        · obtain ⟨b, hb, rfl⟩ := in_of h1 (by omega)
          simp only [if_pos h1]
          by_cases h2 : 0 ≤ n
          · simp only [if_pos h2]
            obtain ⟨j, hj, rfl⟩ := nI_of (Int32.not_lt.mpr h2)
            simp only [ix_nI (show a < 2147483648 by omega), ix_nI (show b < 2147483648 by omega), ix_nI (show j < 2147483648 by omega)]
            obtain ⟨p1, p2, p3⟩ := put_sum W j ha (show b < 6 by omega)
            have sm : unN W b ≤ wso W b 3 := I.sum hb
            obtain ⟨-, -, -, -, -, s3, -⟩ := I.S hb
            refine Ok_b (Mo_inHeaps_e hW (by omega)) (Ok_b (qU hW ha (by omega)) (Ok_b (qS3 hW (by omega)) ?_))
            rw [pk_sub p2]
            have key : ((nI (unN W b - whe W a (3 + b))).toInt64 + (nI j).toInt64 ≤ (nI (wso W b 3)).toInt64) ↔ unN W b - whe W a (3 + b) + j ≤ wso W b 3 := by
              rw [nI_l (by omega), nI_l (by omega), nI_l (by omega), show lN (unN W b - whe W a (3 + b)) + lN j = lN (unN W b - whe W a (3 + b) + j) from (Int64.ofNat_add _ _).symm, pk_lLE (by omega) (by omega)]
            by_cases h3 : unN W b - whe W a (3 + b) + j ≤ wso W b 3
            · simp only [if_pos h3]
              refine Ok_it (key.mpr h3) ?_
              rw [show (3 + nI b : Int32) = nI (3 + b) from nI_add 3 b]
              have hW2 := hW.w (116 + 9 * a + (3 + b)) j
              refine Ok_b (Mo_setHeap_e _ ha (by omega) _) (Ok_b (qS3 hW2 (by omega)) (Ok_b (Mo_inHeaps_e hW2 (by omega)) (Ok_s ⟨?_, hW2, (Fp.wI (lo := 299) (hi := 300) (by omega) (by omega) _ _).M (by omega)⟩)))
              show nI (wso (putW W a b j) b 3) - nI (unN (putW W a b j) b) = _
              rw [p1, show wso (putW W a b j) b 3 = wso W b 3 from wu_o W (by omega) j, pk_sub h3]
            · simp only [if_neg h3]
              exact Ok_if (fun z => h3 (key.mp z)) (Ok_s ⟨rfl, hW, FpM.refl⟩)
          · simp only [if_neg h2]
            exact Ok_s ⟨rfl, hW, FpM.refl⟩
        · simp only [if_neg h1]
          exact Ok_s ⟨rfl, hW, FpM.refl⟩
      · have hh : ¬ (inb (nI a) 8 ∧ whe W (ix (nI a)) 0 = 1) := fun z => ht (by have := z.2; rwa [ix_nI (by omega)] at this)
        simp only [if_neg hh]
        rw [if_neg ht]
        exact Ok_s ⟨rfl, hW, FpM.refl⟩
    · have hh : ¬ (inb h 8 ∧ whe W (ix h) 0 = 1) := fun z => hi z.1
      simp only [if_neg hh]
      rw [if_neg hi]
      exact Ok_s ⟨rfl, hW, FpM.refl⟩
end QF

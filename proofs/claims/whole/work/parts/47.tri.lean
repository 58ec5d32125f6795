/-! lay, trial, best, heaps -/
theorem rg_up : ∀ S, S < 256 → ∀ n, n < 8 → n < (rgS S).length → blN ((rgS S).take (n + 1)) = blN ((rgS S).take n) ||| 2 ^ (rgS S).getD n 0 ∧ blN ((rgS S).take (n + 1)) ≠ 0 := by decide +kernel
theorem rg_bl : ∀ S, S < 256 → blN ((rgS S).take 0) = 0 ∧ ∀ n, n < 9 → ((rgS S).take n).length = min n (rgS S).length := by decide +kernel
theorem rgT_cnt (P : Nat → Bool) : ∀ n, (rgT P n).length = sN (fun i => if P i = true then 1 else 0) n
  | 0 => rfl
  | n + 1 => by
    show (if P n = true then rgT P n ++ [n] else rgT P n).length = _
    rw [sN_s, ← rgT_cnt P n]
    by_cases h : P n = true
    · rw [if_pos h, if_pos h, List.length_append]; rfl
    · rw [if_neg h, if_neg h]; rfl
section TRI
variable {m : Mem} {c : Nat} {W : Wd}
theorem hm_len (W : Wd) : (rgS (thS W)).length = hmN W := by
  rw [rg_th, rgT_cnt]
  unfold hmN
  exact sN_cong (fun i _ => by simp)
theorem th_rg (h0 : thS W ≠ 0) : RgO W (rgS (thS W)) := by
  have tl := th_lt W
  obtain ⟨-, a, b⟩ := rg_first _ tl h0
  refine ⟨a, b, fun p hp => ?_⟩
  obtain ⟨e, f⟩ := rg_lt _ tl p (by omega) hp
  rw [th_bit W e] at f
  exact ⟨e, of_decide_eq_true f⟩
theorem RgO.take {L : List Nat} (h : RgO W L) {k : Nat} (hk : 1 ≤ k) : RgO W (L.take k) := by
  refine ⟨?_, ?_, fun p hp => ?_⟩
  · rw [List.length_take]; have := h.1; omega
  · rw [List.length_take]; have := h.2.1; omega
  · rw [List.length_take] at hp
    rw [List.getD_eq_getElem?_getD, List.getElem?_take, if_pos (by omega), ← List.getD_eq_getElem?_getD]
    exact h.2.2 p (by omega)
def tlL (W : Wd) (T l : Nat) : Int64 := lostL (layW W T l) (openL (layW W T l)) 1
theorem Tr_lostIfLaid_e (R : CR m 28 W) (I : Inv W) (h0 : thS W ≠ 0) {l k T : Nat} (hl : l < 4) (hk : 1 ≤ k) (hk8 : k ≤ 8) (hT : T < 256) (hT0 : T ≠ 0) (hr : rgS T = (rgS (thS W)).take k) (h3 : l = 3 → k = 8) : Ok (Tr_lostIfLaid 220 28 (nI l) (nI k) m) (fun r => r.1 = tlL W T l ∧ Fp 221 279 m r.2) := by
  have hL : RgO W (rgS T) := by rw [hr]; exact (th_rg h0).take hk
  obtain ⟨J, AL⟩ := layW_ok I h0 hT hT0 hL l
  unfold Tr_lostIfLaid
  refine Ok_bind (Ca_copyFrom_e (c := 221) (d := 28) (by omega) (by decide +kernel) R I) (fun m1 ⟨R1, F1⟩ => ?_)
  refine Ok_bind (Ca_layAll_e (c := 221) R1 I h0 hl hk hk8 hT hT0 hr h3) (fun m2 ⟨R2, F2⟩ => ?_)
  refine Ok_bind (Ic_lostIn_e (t := 262) (c := 221) (n := 1) R2 J (by omega) (by omega)) (fun r ⟨r1, F3⟩ => Ok_s ⟨r1, ?_⟩)
  exact ((F1.wide (by omega) (by omega)).trans (F2.wide (by omega) (by omega))).trans (F3.wide (by omega) (by omega))
theorem Mo_keepsHeaps_e (hW : MW m W) : Ok (Mo_keepsHeaps 298 m) (fun x => (∀ k, k < 72 → x.1 307 k = nI (W (116 + k))) ∧ Fp 307 308 m x) := by
  unfold Mo_keepsHeaps
  refine Ok_for 72 (fun i x => (∀ k, k < i → x.1 307 k = nI (W (116 + k))) ∧ Fp 307 308 m x) ⟨fun k hk => by omega, Fp.refl⟩ (fun i x hi ⟨a, F⟩ => ?_) (fun x ⟨a, F⟩ => ?_)
  · show Ok (Mo_keepsHeaps_l2 298 (nI i) x) _
    unfold Mo_keepsHeaps_l2
    rw [show (116 + nI i : Int32) = nI (116 + i) from nI_add 116 i]
    refine Ok_if (show ¬ (72 : Int32) ≤ nI i from nI_ge (b := 72) hi (by decide)) (Ok_gd (in_nI (by omega) (by decide)) (Ok_gd (in_nI hi (by decide)) (Ok_lt ?_)))
    rw [ix_nI (by omega), ix_nI (by omega), show rI x (298 + 1) (116 + i) = nI (W (116 + i)) from (hW.fp F (by omega)) _ (by omega)]
    refine Ok_s ⟨_, by rw [nI_1], fun k hk => ?_, F.trans (Fp.wI (a := 307) (by omega) (by omega) _ _)⟩
    rw [wI_at]
    by_cases e : k = i
    · rw [if_pos e, e]
    · rw [if_neg e]; exact a k (by omega)
  · show Ok (Mo_keepsHeaps_l2 298 (nI 72) x) _
    unfold Mo_keepsHeaps_l2
    refine Ok_it (show (72 : Int32) ≤ nI 72 by decide) ?_
    rw [up_some]
    exact Ok_s ⟨_, rfl, a, F⟩
theorem Mo_givesBack_e {V : Wd} (hV : MW m V) (h : ∀ k, k < 72 → m.1 307 k = nI (W (116 + k))) (E : ∀ i, i < 116 ∨ 188 ≤ i → V i = W i) : Ok (Mo_givesBack 298 m) (fun x => MW x W ∧ Fp 299 300 m x) := by
  unfold Mo_givesBack
  refine Ok_for 72 (fun i x => (∀ j, j < 200 → x.1 299 j = if 116 ≤ j ∧ j < 116 + i then nI (W j) else nI (V j)) ∧ Fp 299 300 m x) ⟨fun j hj => by rw [if_neg (by omega), hV j hj], Fp.refl⟩ (fun i x hi ⟨a, F⟩ => ?_) (fun x ⟨a, F⟩ => ?_)
  · show Ok (Mo_givesBack_l2 298 (nI i) x) _
    unfold Mo_givesBack_l2
    rw [show (116 + nI i : Int32) = nI (116 + i) from nI_add 116 i]
    refine Ok_if (show ¬ (72 : Int32) ≤ nI i from nI_ge (b := 72) hi (by decide)) (Ok_gd (in_nI hi (by decide)) (Ok_gd (in_nI (by omega) (by decide)) (Ok_lt ?_)))
    rw [ix_nI (by omega), ix_nI (by omega), show rI x (298 + 9) i = nI (W (116 + i)) by rw [← h i hi]; exact F.a (by omega) _]
    refine Ok_s ⟨_, by rw [nI_1], fun j hj => ?_, F.trans (Fp.wI (a := 299) (by omega) (by omega) _ _)⟩
    rw [wI_at]
    by_cases e : j = 116 + i
    · rw [if_pos e, if_pos (by omega), e]
    · rw [if_neg e, a j hj]
      by_cases q : 116 ≤ j ∧ j < 116 + i
      · rw [if_pos q, if_pos (by omega)]
      · rw [if_neg q, if_neg (by omega)]
  · show Ok (Mo_givesBack_l2 298 (nI 72) x) _
    unfold Mo_givesBack_l2
    refine Ok_it (show (72 : Int32) ≤ nI 72 by decide) ?_
    rw [up_some]
    refine Ok_s ⟨_, rfl, fun j hj => ?_, F⟩
    rw [a j hj]
    by_cases q : 116 ≤ j ∧ j < 116 + 72
    · rw [if_pos q]
    · rw [if_neg q, E j (by omega)]
theorem Mo_trialOf_e (hW : MW m W) (I : Inv W) (h0 : thS W ≠ 0) {l T : Nat} (hl : l < 4) (hT : T < 256) (hT0 : T ≠ 0) (hL : RgO W (rgS T)) : Ok (Mo_trialOf 298 (nI l) (nI T) m) (fun r => r.1 = tlL W T l ∧ MW r.2 W ∧ FpM m r.2) := by
  obtain ⟨J, AL⟩ := layW_ok I h0 hT hT0 hL l
  unfold Mo_trialOf
  refine Ok_bind (Mo_keepsHeaps_e hW) (fun m1 ⟨k1, F1⟩ => ?_)
  refine Ok_bind (Mo_lays_e (hW.fp F1 (by omega)) I h0 hT hT0 hL hl) (fun m2 ⟨V2, F2⟩ => ?_)
  refine Ok_bind (Mo_lostIn_e (n := 1) V2 J (by omega)) (fun r ⟨r1, F3⟩ => ?_)
  refine Ok_bind (Mo_givesBack_e (W := W) (V2.fp F3 (by omega)) (fun k hk => by rw [F3.a (by omega), F2.a (by omega), k1 k hk]) AL.1) (fun m4 ⟨W4, F4⟩ => Ok_s ⟨r1, W4, ?_⟩)
  exact ((F1.M (by omega)).trans (F2.M (by omega))).trans ((F3.M (by omega)).trans (F4.M (by omega)))
def clV (W : Wd) (x : Int32) : Int32 := if 0 < W 1 then if inb x 4 then if hmN W = 0 then -5 else 0 else -2 else -2
theorem PL_cannotLay_e (R : CR m 28 W) (I : Inv W) (x : Int32) : PL_cannotLay 1 x m = some (clV W x) := by
  have hm := sN_le (f := fun h => if whe W h 0 = 1 then 1 else 0) (c := 1) (n := 8) (fun h _ => by split <;> omega)
  have hm2 : hmN W ≤ 8 := hm
  unfold PL_cannotLay clV
  rw [fl_there R I, bind_s, ite_b2]
  by_cases h : 0 < W 1
  · rw [if_pos h, if_pos h, show (4 : Int32) = nI 4 from rfl, ite_rlt (by decide)]
    by_cases h2 : inb x 4
    · rw [if_pos h2, if_pos h2, show Ca_heapsThere (1 + 27) m = _ from Ca_heapsThere_e R I, bind_s]
      by_cases e : hmN W = 0
      · rw [e, if_pos (by decide), if_pos rfl]
      · rw [if_neg (nI_ne0 (by omega) (by omega)), if_neg e]
    · rw [if_neg h2, if_neg h2]
  · rw [if_neg h, if_neg h]
theorem hm_le (W : Wd) : hmN W ≤ 8 := sN_le (f := fun h => if whe W h 0 = 1 then 1 else 0) (c := 1) (n := 8) (fun h _ => by split <;> omega)
def fwN (W : Wd) : Nat := sN (fun h => if 0 < tonsN W h then 1 else 0) 8
theorem Ca_heapsWith_e (R : CR m c W) (I : Inv W) : Ca_heapsWithSomething c m = some (nI (fwN W)) := by
  unfold Ca_heapsWithSomething
  refine loop_sum 8 (fun h => if 0 < tonsN W h then 1 else 0) (fun a => nI a) (fun h a hh ha => ?_) (fun a ha => ?_)
  · have tl := tons_le I hh
    unfold Ca_heapsWithSomething_l4 Ca_heapsWithSomething_b21
    rw [if_neg (show ¬ (8 : Int32) ≤ nI h from nI_ge (b := 8) hh (by decide)), Ca_tonsOf_e R I hh, bind_s, nI_1, nI_1]
    by_cases q : 0 < tonsN W h
    · rw [if_neg (nI_nle q (by omega)), if_pos q]
    · rw [if_pos (show nI (tonsN W h) ≤ 0 by rw [show tonsN W h = 0 by omega]; decide), if_neg q]
      rfl
  · unfold Ca_heapsWithSomething_l4
    rw [if_pos (show (8 : Int32) ≤ nI 8 from by decide), up_some]
theorem tons_un (I : Inv W) {h : Nat} (hh : h < 8) : 0 < tonsN W h ↔ 0 < sN (fun s => whe W h (3 + s)) 6 := by
  have d := I.d
  have z1 := @sN_z (fun s => whe W h (3 + s) * wso W s 2) (W 6)
  have z2 := @sN_z (fun s => whe W h (3 + s)) 6
  unfold tonsN
  rw [Nat.pos_iff_ne_zero, Nat.pos_iff_ne_zero, ne_eq, ne_eq, z1, z2]
  refine not_congr ⟨fun a s hs => ?_, fun a s hs => ?_⟩
  · rcases Nat.lt_or_ge s (W 6) with q | q
    · have := a s q
      obtain ⟨-, -, -, s3, -⟩ := I.S q
      rcases Nat.mul_eq_zero.mp this with z | z
      · exact z
      · omega
    · exact (I.H hh).2.2.2 s q hs
  · rw [a s (by omega), Nat.zero_mul]
def uLay (x : Int32) (W : Wd) : Wd := if 0 < W 1 then if inb x 4 then if hmN W = 0 then W else layW W (thS W) (ix x) else W else W
def vLay (W : Wd) (x : Int32) : Int32 := if 0 < W 1 then if inb x 4 then if hmN W = 0 then -5 else nI (fwN (layW W (thS W) (ix x))) else -2 else -2
theorem st_lay (x : Int32) : Same (PL_lay 1 x) (Mo_lay 298 x) := by
  refine Same_w (fun W => vLay W x) (uLay x) (fun W I => ?_) (fun m W R I => ?_) (fun m W hW I => ?_)
  · unfold uLay
    by_cases h : 0 < W 1
    · rw [if_pos h]
      by_cases h2 : inb x 4
      · rw [if_pos h2]
        by_cases h3 : hmN W = 0
        · rw [if_pos h3]; exact I
        · have h0 : thS W ≠ 0 := fun z => h3 ((th_0 I).mpr z)
          rw [if_neg h3]
          exact (layW_ok I h0 (th_lt W) h0 (th_rg h0) _).1
      · rw [if_neg h2]; exact I
    · rw [if_neg h]; exact I
  · unfold PL_lay vLay uLay
    refine Ok_b (PL_cannotLay_e R I x) ?_
    unfold clV
    by_cases h : 0 < W 1
    · simp only [if_pos h]
      by_cases h2 : inb x 4
      · simp only [if_pos h2]
        by_cases h3 : hmN W = 0
        · simp only [if_pos h3]
          exact Ok_if (by decide) (Ok_s ⟨rfl, R, FpC.refl⟩)
        · have h0 : thS W ≠ 0 := fun z => h3 ((th_0 I).mpr z)
          obtain ⟨l, hl, rfl⟩ := in_of h2 (by decide)
          simp only [if_neg h3, ix_nI (show l < 2147483648 by omega)]
          obtain ⟨J, AL⟩ := layW_ok I h0 (th_lt W) h0 (th_rg h0) l
          refine Ok_it (by trivial) (Ok_bind (show Ok (Ca_layAll (1 + 27) (nI l) 8 m) _ from Ca_layAll_e (c := 28) (k := 8) R I h0 hl (by omega) (by omega) (th_lt W) h0 (rg_all _ (th_lt W)).symm (fun _ => rfl)) (fun m1 ⟨R1, F1⟩ => ?_))
          exact Ok_b (show Ca_heapsWithSomething (1 + 27) m1 = _ from Ca_heapsWith_e R1 J) (Ok_s ⟨rfl, R1, F1.C (by omega)⟩)
      · simp only [if_neg h2]
        exact Ok_if (by decide) (Ok_s ⟨rfl, R, FpC.refl⟩)
    · simp only [if_neg h]
      exact Ok_if (by decide) (Ok_s ⟨rfl, R, FpC.refl⟩)
  · have d := I.d
    have hm := hm_le W
    unfold Mo_lay vLay uLay
    refine Ok_b (Mo_isFloe_e hW (by omega)) ?_
    rw [ite_b2]
    by_cases h : 0 < W 1
    · simp only [if_pos h]
      refine Ok_b (in0 m x (n := 4) (by decide) (by decide)) ?_
      rw [ite_b2]
      by_cases h2 : inb x 4
      · simp only [if_pos h2]
        refine Ok_b (Mo_heapMany_e hW I) ?_
        by_cases h3 : hmN W = 0
        · simp only [if_pos h3]
          rw [h3]
          exact Ok_it (by decide) (Ok_s ⟨rfl, hW, FpM.refl⟩)
        · have h0 : thS W ≠ 0 := fun z => h3 ((th_0 I).mpr z)
          obtain ⟨l, hl, rfl⟩ := in_of h2 (by decide)
          simp only [if_neg h3, ix_nI (show l < 2147483648 by omega)]
          obtain ⟨J, AL⟩ := layW_ok I h0 (th_lt W) h0 (th_rg h0) l
          refine Ok_if (nI_ne0 (by omega) (by omega)) (Ok_b (Mo_thereSet_e hW I) (Ok_bind (Mo_lays_e hW I h0 (th_lt W) h0 (th_rg h0) hl) (fun m1 ⟨V1, F1⟩ => ?_)))
          refine Ok_e (x := (nI (fwN (layW W (thS W) l)), m1)) (loop_cnt 8 (fun h => (nI (sN (fun h => if 0 < tonsN (layW W (thS W) l) h then 1 else 0) h), nI h)) rfl (fun h hh => ?_) ?_) ⟨rfl, V1, F1.M (by omega)⟩
          · show Mo_lay_l45 298 (nI (sN (fun h => if 0 < tonsN (layW W (thS W) l) h then 1 else 0) h)) (nI h) m1 = _
            unfold Mo_lay_l45
            rw [if_neg (show ¬ (8 : Int32) ≤ nI h from nI_ge (b := 8) hh (by decide))]
            refine loop_sum (b := fun s : Int32 × Int32 => Mo_lay_l57 298 (nI (sN (fun h => if 0 < tonsN (layW W (thS W) l) h then 1 else 0) h)) (nI h) s.1 s.2 m1) 6 (fun s => whe (layW W (thS W) l) h (3 + s)) (fun _ => Sum.inl (nI (sN (fun h => if 0 < tonsN (layW W (thS W) l) h then 1 else 0) (h + 1)), nI (h + 1))) (fun s a hs ha => ?_) (fun a ha => ?_)
            · show Mo_lay_l57 298 _ (nI h) (nI a) (nI s) m1 = _
              unfold Mo_lay_l57
              rw [if_neg (show ¬ (6 : Int32) ≤ nI s from nI_ge (b := 6) hs (by decide)), qU V1 hh hs, bind_s, nI_add, nI_1]
            · have tu := tons_un J hh
              have ub := sN_le (f := fun s => whe (layW W (thS W) l) h (3 + s)) (c := 20) (n := 6) (fun s hs => J.u20 hh hs)
              show Mo_lay_l57 298 _ (nI h) (nI a) (nI 6) m1 = _
              unfold Mo_lay_l57 Mo_lay_b95
              rw [if_pos (show (6 : Int32) ≤ nI 6 by decide), nI_1, nI_1, sN_s, show nI (sN (fun h => if 0 < tonsN (layW W (thS W) l) h then 1 else 0) h) + 0 = nI (sN (fun h => if 0 < tonsN (layW W (thS W) l) h then 1 else 0) h + 0) from nI_add _ 0]
              by_cases q : 0 < tonsN (layW W (thS W) l) h
              · rw [if_pos q, if_neg (nI_nle (by rw [ha]; exact tu.mp q) (by rw [ha]; omega)), up_some]
              · rw [if_neg q, if_pos (show nI a ≤ 0 by rw [show a = 0 by rw [ha]; have := mt tu.mpr q; omega]; decide), up_some]
          · show Mo_lay_l45 298 (nI (sN (fun h => if 0 < tonsN (layW W (thS W) l) h then 1 else 0) 8)) (nI 8) m1 = _
            unfold Mo_lay_l45
            rw [if_pos (show (8 : Int32) ≤ nI 8 by decide), up_some]
            rfl
      · simp only [if_neg h2]
        exact Ok_s ⟨rfl, hW, FpM.refl⟩
    · simp only [if_neg h]
      exact Ok_s ⟨rfl, hW, FpM.refl⟩
def vTrial (W : Wd) (x : Int32) : Int64 := if 0 < W 1 then if inb x 4 then if hmN W = 0 then -5 else tlL W (thS W) (ix x) else -2 else -2
theorem st_trial (x : Int32) : Same (PL_trial 1 x) (Mo_trial 298 x) := by
  refine Same_w (fun W => vTrial W x) (fun W => W) (fun W I => I) (fun m W R I => ?_) (fun m W hW I => ?_)
  · unfold PL_trial vTrial
    refine Ok_b (PL_cannotLay_e R I x) ?_
    unfold clV
    by_cases h : 0 < W 1
    · simp only [if_pos h]
      by_cases h2 : inb x 4
      · simp only [if_pos h2]
        by_cases h3 : hmN W = 0
        · simp only [if_pos h3]
          exact Ok_if (by decide) (Ok_s ⟨show (-5 : Int32).toInt64 = -5 by decide, R, FpC.refl⟩)
        · have h0 : thS W ≠ 0 := fun z => h3 ((th_0 I).mpr z)
          obtain ⟨l, hl, rfl⟩ := in_of h2 (by decide)
          simp only [if_neg h3, ix_nI (show l < 2147483648 by omega)]
          refine Ok_it (by trivial) (Ok_bind (show Ok (Tr_lostIfLaid (1 + 219) (1 + 27) (nI l) 8 m) _ from Tr_lostIfLaid_e (k := 8) R I h0 hl (by omega) (by omega) (th_lt W) h0 (rg_all _ (th_lt W)).symm (fun _ => rfl)) (fun r ⟨r1, F⟩ => Ok_s ⟨r1, R.fp I F (by omega), F.C (by omega)⟩))
      · simp only [if_neg h2]
        exact Ok_if (by decide) (Ok_s ⟨show (-2 : Int32).toInt64 = -2 by decide, R, FpC.refl⟩)
    · simp only [if_neg h]
      exact Ok_if (by decide) (Ok_s ⟨show (-2 : Int32).toInt64 = -2 by decide, R, FpC.refl⟩)
  · have d := I.d
    have hm := hm_le W
    unfold Mo_trial vTrial
    refine Ok_b (Mo_isFloe_e hW (by omega)) ?_
    rw [ite_b2]
    by_cases h : 0 < W 1
    · simp only [if_pos h]
      refine Ok_b (in0 m x (n := 4) (by decide) (by decide)) ?_
      rw [ite_b2]
      by_cases h2 : inb x 4
      · simp only [if_pos h2]
        refine Ok_b (Mo_heapMany_e hW I) ?_
        by_cases h3 : hmN W = 0
        · simp only [if_pos h3]
          rw [h3]
          exact Ok_it (by decide) (Ok_s ⟨rfl, hW, FpM.refl⟩)
        · have h0 : thS W ≠ 0 := fun z => h3 ((th_0 I).mpr z)
          obtain ⟨l, hl, rfl⟩ := in_of h2 (by decide)
          simp only [if_neg h3, ix_nI (show l < 2147483648 by omega)]
          exact Ok_if (nI_ne0 (by omega) (by omega)) (Ok_b (Mo_thereSet_e hW I) (Ok_bind (Mo_trialOf_e hW I h0 hl (th_lt W) h0 (th_rg h0)) (fun r ⟨r1, V, F⟩ => Ok_s ⟨r1, V, F⟩)))
      · simp only [if_neg h2]
        exact Ok_s ⟨rfl, hW, FpM.refl⟩
    · simp only [if_neg h]
      exact Ok_s ⟨rfl, hW, FpM.refl⟩
/-- the least, the first of several -/
def bsF (f : Nat → Int64) (a : Nat) : Nat → Nat × Int64
  | 0 => (a, f a)
  | k + 1 => if f (a + k + 1) < (bsF f a k).2 then (a + k + 1, f (a + k + 1)) else bsF f a k
theorem bsF_le (f : Nat → Int64) (a : Nat) : ∀ k, (bsF f a k).1 ≤ a + k
  | 0 => Nat.le_refl _
  | k + 1 => by
    have := bsF_le f a k
    unfold bsF
    split
    · exact Nat.le_refl _
    · omega
def vBest (W : Wd) : Int32 := if 0 < W 1 then if hmN W = 0 then -5 else nI (bsF (fun l => tlL W (thS W) l) 0 3).1 else -2
theorem st_best : Same (PL_best 1) (Mo_best 298) := by
  refine Same_w vBest (fun W => W) (fun W I => I) (fun m W R I => ?_) (fun m W hW I => ?_)
  · unfold PL_best vBest
    refine Ok_b (PL_cannotLay_e R I 0) ?_
    unfold clV
    by_cases h : 0 < W 1
    · simp only [if_pos h, if_pos (show inb 0 4 by decide)]
      by_cases h3 : hmN W = 0
      · simp only [if_pos h3]
        exact Ok_if (by decide) (Ok_s ⟨rfl, R, FpC.refl⟩)
      · have h0 : thS W ≠ 0 := fun z => h3 ((th_0 I).mpr z)
        simp only [if_neg h3]
        refine Ok_it (by trivial) ?_
        have tr : ∀ (z : Mem) (l : Nat), CR z 28 W → l < 4 → Ok (Tr_lostIfLaid (1 + 219) (1 + 27) (nI l) 8 z) (fun r => r.1 = tlL W (thS W) l ∧ Fp 221 279 z r.2) := fun z l Rz hl => Tr_lostIfLaid_e (k := 8) Rz I h0 hl (by omega) (by omega) (th_lt W) h0 (rg_all _ (th_lt W)).symm (fun _ => rfl)
        have key : Ok (Tr_bestLaying (1 + 219) (1 + 27) m) (fun r => r.1 = nI (bsF (fun l => tlL W (thS W) l) 0 3).1 ∧ Fp 221 279 m r.2) := by
          unfold Tr_bestLaying
          refine Ok_bind (tr m 0 R (by omega)) (fun r ⟨r1, F⟩ => ?_)
          rw [r1]
          refine Ok_loop 3 (fun i x => (nI (bsF (fun l => tlL W (thS W) l) 0 i).1, (bsF (fun l => tlL W (thS W) l) 0 i).2, nI (i + 1), x)) (fun i x => Fp 221 279 m x) r.2 rfl F (fun i x hi F2 => ?_) (fun x F2 => ?_)
          · show Ok (Tr_bestLaying_l14 (1 + 219) (1 + 27) (nI (bsF (fun l => tlL W (thS W) l) 0 i).1) (bsF (fun l => tlL W (thS W) l) 0 i).2 (nI (i + 1)) x) _
            unfold Tr_bestLaying_l14 Tr_bestLaying_b44
            refine Ok_if (show ¬ (4 : Int32) ≤ nI (i + 1) from nI_ge (b := 4) (by omega) (by decide)) (Ok_bind (tr x (i + 1) (R.fp I F2 (by omega)) (by omega)) (fun q ⟨q1, F3⟩ => ?_))
            rw [q1, nI_1]
            by_cases z : tlL W (thS W) (i + 1) < (bsF (fun l => tlL W (thS W) l) 0 i).2
            · have e : bsF (fun l => tlL W (thS W) l) 0 (i + 1) = (i + 1, tlL W (thS W) (i + 1)) := by
                show (if tlL W (thS W) (0 + i + 1) < _ then _ else _) = _
                rw [Nat.zero_add, if_pos z]
              rw [e]
              exact Ok_if (Int64.not_le.mpr z) (Ok_s ⟨q.2, rfl, F2.trans F3⟩)
            · have e : bsF (fun l => tlL W (thS W) l) 0 (i + 1) = bsF (fun l => tlL W (thS W) l) 0 i := by
                show (if tlL W (thS W) (0 + i + 1) < _ then _ else _) = _
                rw [Nat.zero_add, if_neg z]
              rw [e]
              exact Ok_it (Int64.not_lt.mp z) (Ok_s ⟨q.2, rfl, F2.trans F3⟩)
          · show Ok (Tr_bestLaying_l14 (1 + 219) (1 + 27) (nI (bsF (fun l => tlL W (thS W) l) 0 3).1) (bsF (fun l => tlL W (thS W) l) 0 3).2 (nI (3 + 1)) x) _
            unfold Tr_bestLaying_l14
            refine Ok_it (show (4 : Int32) ≤ nI (3 + 1) by decide) ?_
            rw [up_some]
            exact Ok_s ⟨_, rfl, rfl, F2⟩
        exact Ok_bind key (fun r ⟨r1, F⟩ => Ok_s ⟨r1, R.fp I F (by omega), F.C (by omega)⟩)
    · simp only [if_neg h]
      exact Ok_if (by decide) (Ok_s ⟨rfl, R, FpC.refl⟩)
  · have d := I.d
    have hm := hm_le W
    unfold Mo_best vBest
    refine Ok_b (Mo_isFloe_e hW (by omega)) ?_
    rw [ite_b2]
    by_cases h : 0 < W 1
    · simp only [if_pos h]
      refine Ok_b (Mo_heapMany_e hW I) ?_
      by_cases h3 : hmN W = 0
      · simp only [if_pos h3]
        rw [h3]
        exact Ok_it (by decide) (Ok_s ⟨rfl, hW, FpM.refl⟩)
      · have h0 : thS W ≠ 0 := fun z => h3 ((th_0 I).mpr z)
        simp only [if_neg h3]
        have tr : ∀ (z : Mem) (l : Nat), MW z W → l < 4 → Ok (Mo_trialOf 298 (nI l) (nI (thS W)) z) (fun r => r.1 = tlL W (thS W) l ∧ MW r.2 W ∧ FpM z r.2) := fun z l Wz hl => Mo_trialOf_e Wz I h0 hl (th_lt W) h0 (th_rg h0)
        refine Ok_if (nI_ne0 (by omega) (by omega)) (Ok_b (Mo_thereSet_e hW I) (Ok_bind (tr m 0 hW (by omega)) (fun r ⟨r1, V, F⟩ => ?_)))
        rw [r1]
        refine Ok_loop 3 (fun i x => (nI (bsF (fun l => tlL W (thS W) l) 0 i).1, (bsF (fun l => tlL W (thS W) l) 0 i).2, nI (i + 1), x)) (fun i x => MW x W ∧ FpM m x) r.2 rfl ⟨V, F⟩ (fun i x hi ⟨V2, F2⟩ => ?_) (fun x ⟨V2, F2⟩ => ?_)
        · show Ok (Mo_best_l35 298 (nI (bsF (fun l => tlL W (thS W) l) 0 i).1) (bsF (fun l => tlL W (thS W) l) 0 i).2 (nI (i + 1)) x) _
          unfold Mo_best_l35 Mo_best_b69
          refine Ok_if (show ¬ (4 : Int32) ≤ nI (i + 1) from nI_ge (b := 4) (by omega) (by decide)) (Ok_b (Mo_thereSet_e V2 I) (Ok_bind (tr x (i + 1) V2 (by omega)) (fun q ⟨q1, V3, F3⟩ => ?_)))
          rw [q1, nI_1]
          by_cases z : tlL W (thS W) (i + 1) < (bsF (fun l => tlL W (thS W) l) 0 i).2
          · have e : bsF (fun l => tlL W (thS W) l) 0 (i + 1) = (i + 1, tlL W (thS W) (i + 1)) := by
              show (if tlL W (thS W) (0 + i + 1) < _ then _ else _) = _
              rw [Nat.zero_add, if_pos z]
            rw [e]
            exact Ok_it z (Ok_s ⟨q.2, rfl, V3, F2.trans F3⟩)
          · have e : bsF (fun l => tlL W (thS W) l) 0 (i + 1) = bsF (fun l => tlL W (thS W) l) 0 i := by
              show (if tlL W (thS W) (0 + i + 1) < _ then _ else _) = _
              rw [Nat.zero_add, if_neg z]
            rw [e]
            exact Ok_if z (Ok_s ⟨q.2, rfl, V3, F2.trans F3⟩)
        · show Ok (Mo_best_l35 298 (nI (bsF (fun l => tlL W (thS W) l) 0 3).1) (bsF (fun l => tlL W (thS W) l) 0 3).2 (nI (3 + 1)) x) _
          unfold Mo_best_l35
          refine Ok_it (show (4 : Int32) ≤ nI (3 + 1) by decide) ?_
          rw [up_some]
          exact Ok_s ⟨_, rfl, rfl, V2, F2⟩
    · simp only [if_neg h]
      exact Ok_s ⟨rfl, hW, FpM.refl⟩
/-! in how many heaps -/
def tkS (W : Wd) (n : Nat) : Nat := blN ((rgS (thS W)).take n)
theorem tkS_ok (h0 : thS W ≠ 0) {n : Nat} (h1 : 1 ≤ n) (hn : n ≤ hmN W) : tkS W n < 256 ∧ tkS W n ≠ 0 ∧ rgS (tkS W n) = (rgS (thS W)).take n ∧ RgO W (rgS (tkS W n)) := by
  have hm := hm_le W
  have hl := hm_len W
  obtain ⟨a, b⟩ := rg_take _ (th_lt W) n (by omega)
  obtain ⟨-, e⟩ := rg_up _ (th_lt W) (n - 1) (by omega) (by omega)
  rw [show n - 1 + 1 = n by omega] at e
  refine ⟨b, e, a, ?_⟩
  show RgO W (rgS (blN ((rgS (thS W)).take n)))
  rw [a]
  exact (th_rg h0).take h1
def hpX (W : Wd) (k : Nat) : Nat := if k = 0 then 7 else (rgS (thS W)).getD (k - 1) 0
def vHeaps (W : Wd) : Int32 := if 0 < W 1 then if hmN W = 0 then -5 else nI (bsF (fun n => tlL W (tkS W n) 1) 1 (hmN W - 1)).1 else -2
theorem st_heaps : Same (PL_heaps 1) (Mo_heaps 298) := by
  refine Same_w vHeaps (fun W => W) (fun W I => I) (fun m W R I => ?_) (fun m W hW I => ?_)
  · have hm := hm_le W
    unfold PL_heaps vHeaps
    refine Ok_b (PL_cannotLay_e R I 0) ?_
    unfold clV
    by_cases h : 0 < W 1
    · simp only [if_pos h, if_pos (show inb 0 4 by decide)]
      by_cases h3 : hmN W = 0
      · simp only [if_pos h3]
        exact Ok_if (by decide) (Ok_s ⟨rfl, R, FpC.refl⟩)
      · have h0 : thS W ≠ 0 := fun z => h3 ((th_0 I).mpr z)
        simp only [if_neg h3]
        refine Ok_it (by trivial) ?_
        have tr : ∀ (z : Mem) (n : Nat), CR z 28 W → 1 ≤ n → n ≤ hmN W → Ok (Tr_lostIfLaid (1 + 219) (1 + 27) 1 (nI n) z) (fun r => r.1 = tlL W (tkS W n) 1 ∧ Fp 221 279 z r.2) := fun z n Rz h1 hn => by
          obtain ⟨a, b, e, f⟩ := tkS_ok h0 h1 hn
          exact Tr_lostIfLaid_e (l := 1) (k := n) Rz I h0 (by omega) h1 (by omega) a b e (fun q => by omega)
        have key : Ok (Tr_bestHeaps (1 + 219) (1 + 27) m) (fun r => r.1 = nI (bsF (fun n => tlL W (tkS W n) 1) 1 (hmN W - 1)).1 ∧ Fp 221 279 m r.2) := by
          unfold Tr_bestHeaps
          refine Ok_bind (tr m 1 R (by omega) (by omega)) (fun r ⟨r1, F⟩ => ?_)
          rw [r1]
          refine Ok_loop (hmN W - 1) (fun i x => (nI (bsF (fun n => tlL W (tkS W n) 1) 1 i).1, (bsF (fun n => tlL W (tkS W n) 1) 1 i).2, nI (i + 2), x)) (fun i x => Fp 221 279 m x) r.2 rfl F (fun i x hi F2 => ?_) (fun x F2 => ?_)
          · have Rx := R.fp I F2 (by omega)
            show Ok (Tr_bestHeaps_l13 (1 + 219) (1 + 27) (nI (bsF (fun n => tlL W (tkS W n) 1) 1 i).1) (bsF (fun n => tlL W (tkS W n) 1) 1 i).2 (nI (i + 2)) x) _
            unfold Tr_bestHeaps_l13 Tr_bestHeaps_b52
            refine Ok_b (show Ca_heapsThere (1 + 27) x = _ from Ca_heapsThere_e Rx I) (Ok_if (nI_nlt (by omega) (by omega)) (Ok_if (show ¬ (8 : Int32) < nI (i + 2) from nI_nlt (a := 8) (by omega) (by decide)) (Ok_bind (tr x (i + 2) Rx (by omega) (by omega)) (fun q ⟨q1, F3⟩ => ?_))))
            rw [q1, nI_1]
            by_cases z : tlL W (tkS W (i + 2)) 1 < (bsF (fun n => tlL W (tkS W n) 1) 1 i).2
            · have e : bsF (fun n => tlL W (tkS W n) 1) 1 (i + 1) = (i + 2, tlL W (tkS W (i + 2)) 1) := by
                show (if tlL W (tkS W (1 + i + 1)) 1 < _ then (1 + i + 1, _) else _) = _
                rw [show 1 + i + 1 = i + 2 by omega, if_pos z]
              rw [e]
              exact Ok_if (Int64.not_le.mpr z) (Ok_s ⟨q.2, rfl, F2.trans F3⟩)
            · have e : bsF (fun n => tlL W (tkS W n) 1) 1 (i + 1) = bsF (fun n => tlL W (tkS W n) 1) 1 i := by
                show (if tlL W (tkS W (1 + i + 1)) 1 < _ then _ else _) = _
                rw [show 1 + i + 1 = i + 2 by omega, if_neg z]
              rw [e]
              exact Ok_it (Int64.not_lt.mp z) (Ok_s ⟨q.2, rfl, F2.trans F3⟩)
          · have Rx := R.fp I F2 (by omega)
            show Ok (Tr_bestHeaps_l13 (1 + 219) (1 + 27) (nI (bsF (fun n => tlL W (tkS W n) 1) 1 (hmN W - 1)).1) (bsF (fun n => tlL W (tkS W n) 1) 1 (hmN W - 1)).2 (nI (hmN W - 1 + 2)) x) _
            unfold Tr_bestHeaps_l13
            refine Ok_b (show Ca_heapsThere (1 + 27) x = _ from Ca_heapsThere_e Rx I) (Ok_it (nI_lt (by omega) (by omega)) ?_)
            rw [up_some]
            exact Ok_s ⟨_, rfl, rfl, F2⟩
        exact Ok_bind key (fun r ⟨r1, F⟩ => Ok_s ⟨r1, R.fp I F (by omega), F.C (by omega)⟩)
    · simp only [if_neg h]
      exact Ok_if (by decide) (Ok_s ⟨rfl, R, FpC.refl⟩)
  · have d := I.d
    have hm := hm_le W
    have hl := hm_len W
    unfold Mo_heaps vHeaps
    refine Ok_b (Mo_isFloe_e hW (by omega)) ?_
    rw [ite_b2]
    by_cases h : 0 < W 1
    · simp only [if_pos h]
      refine Ok_b (Mo_heapMany_e hW I) ?_
      by_cases h3 : hmN W = 0
      · simp only [if_pos h3]
        rw [h3]
        exact Ok_it (by decide) (Ok_s ⟨rfl, hW, FpM.refl⟩)
      · have h0 : thS W ≠ 0 := fun z => h3 ((th_0 I).mpr z)
        simp only [if_neg h3]
        have tr : ∀ (z : Mem) (n : Nat), MW z W → 1 ≤ n → n ≤ hmN W → Ok (Mo_trialOf 298 1 (nI (tkS W n)) z) (fun r => r.1 = tlL W (tkS W n) 1 ∧ MW r.2 W ∧ FpM z r.2) := fun z n Wz h1 hn => by
          obtain ⟨a, b, e, f⟩ := tkS_ok h0 h1 hn
          exact Mo_trialOf_e (l := 1) Wz I h0 (by omega) a b f
        let B : Nat → Nat × Int64 := fun k => if k = 0 then (0, 0) else bsF (fun n => tlL W (tkS W n) 1) 1 (k - 1)
        have B1 : ∀ k, (B k).1 ≤ k ∧ (1 ≤ k → 1 ≤ (B k).1) := by
          intro k
          show (if k = 0 then _ else _ : Nat × Int64).1 ≤ k ∧ (1 ≤ k → 1 ≤ (if k = 0 then _ else _ : Nat × Int64).1)
          by_cases z : k = 0
          · rw [if_pos z, z]
            exact ⟨Nat.le_refl _, fun q => by omega⟩
          · rw [if_neg z]
            have a := bsF_le (fun n => tlL W (tkS W n) 1) 1 (k - 1)
            refine ⟨by omega, fun _ => ?_⟩
            have : ∀ j, 1 ≤ (bsF (fun n => tlL W (tkS W n) 1) 1 j).1 := by
              intro j
              induction j with
              | zero => exact Nat.le_refl _
              | succ j ih =>
                unfold bsF
                split
                · show 1 ≤ 1 + j + 1; omega
                · exact ih
            exact this _
        refine Ok_if (nI_ne0 (by omega) (by omega)) ?_
        refine Ok_loop (hmN W) (fun k x => (nI (B k).1, (B k).2, nI (tkS W k), nI (hpX W k), nI (k + 1), x)) (fun k x => MW x W ∧ FpM m x) m ?_ ⟨hW, FpM.refl⟩ (fun k x hk ⟨V2, F2⟩ => ?_) (fun x ⟨V2, F2⟩ => ?_)
        · show (nI 0, (0 : Int64), nI (tkS W 0), nI 7, nI (0 + 1), m) = _
          rw [show tkS W 0 = 0 from (rg_bl _ (th_lt W)).1]
          rfl
        · show Ok (Mo_heaps_l34 298 (nI (B k).1) (B k).2 (nI (tkS W k)) (nI (hpX W k)) (nI (k + 1)) x) _
          have hH1 : hpX W (k + 1) = (rgS (thS W)).getD k 0 := if_neg (by omega)
          have hH : hpX W k < 8 := by
            by_cases z : k = 0
            · rw [show hpX W k = 7 from if_pos z]; omega
            · rw [show hpX W k = (rgS (thS W)).getD (k - 1) 0 from if_neg z]
              exact (rg_lt _ (th_lt W) (k - 1) (by omega) (by omega)).1
          have hN : nxtN (thS W) (hpX W k) = hpX W (k + 1) := by
            rw [hH1]
            by_cases z : k = 0
            · rw [show hpX W k = 7 from if_pos z, z]
              exact (rg_first _ (th_lt W) h0).1
            · rw [show hpX W k = (rgS (thS W)).getD (k - 1) 0 from if_neg z, rg_nxt _ (th_lt W) h0 (k - 1) (by omega) (by omega), Nat.mod_eq_of_lt (by omega), show k - 1 + 1 = k by omega]
          have hH8 : hpX W (k + 1) < 8 := by rw [hH1]; exact (rg_lt _ (th_lt W) k (by omega) (by omega)).1
          have hT : tkS W k ||| 2 ^ hpX W (k + 1) = tkS W (k + 1) := by
            rw [hH1]
            exact (rg_up _ (th_lt W) k (by omega) (by omega)).1.symm
          unfold Mo_heaps_l34 Mo_heaps_b86 Mo_heaps_b92
          refine Ok_b (Mo_heapMany_e V2 I) (Ok_if (nI_nlt (by omega) (by omega)) (Ok_b (Mo_thereSet_e V2 I) (Ok_b (Mo_round_e x (th_lt W) h0 hH) ?_)))
          rw [hN, shl1 (by omega), nI_or, hT]
          refine Ok_bind (tr x (k + 1) V2 (by omega) (by omega)) (fun q ⟨q1, V3, F3⟩ => ?_)
          rw [q1, nI_1]
          have fin : ∀ z : Nat × Int64, z = B (k + 1) → Ok (some (Sum.inl (nI z.1, z.2, nI (tkS W (k + 1)), nI (hpX W (k + 1)), nI (k + 1 + 1), q.2)) : Option ((Int32 × Int64 × Int32 × Int32 × Int32 × Mem) ⊕ (Int32 × Mem))) (fun r => ∃ x', r = Sum.inl (nI (B (k + 1)).1, (B (k + 1)).2, nI (tkS W (k + 1)), nI (hpX W (k + 1)), nI (k + 1 + 1), x') ∧ MW x' W ∧ FpM m x') := by
            intro z hz
            rw [hz]
            exact Ok_s ⟨q.2, rfl, V3, F2.trans F3⟩
          have bk := B1 k
          by_cases z : k = 0
          · have e : (B k).1 = 0 := by have := bk.1; omega
            refine Ok_it (by rw [e]; decide) (fin (k + 1, tlL W (tkS W (k + 1)) 1) ?_)
            rw [z]
            rfl
          · refine Ok_if (nI_nle (bk.2 (by omega)) (by omega)) ?_
            have eB : B k = bsF (fun n => tlL W (tkS W n) 1) 1 (k - 1) := if_neg z
            have eB1 : B (k + 1) = bsF (fun n => tlL W (tkS W n) 1) 1 (k - 1 + 1) := by
              rw [show k - 1 + 1 = k by omega]
              exact if_neg (by omega)
            by_cases y : tlL W (tkS W (k + 1)) 1 < (B k).2
            · refine Ok_it y (fin (k + 1, tlL W (tkS W (k + 1)) 1) ?_)
              rw [eB1]
              show _ = if tlL W (tkS W (1 + (k - 1) + 1)) 1 < _ then (1 + (k - 1) + 1, tlL W (tkS W (1 + (k - 1) + 1)) 1) else _
              rw [show 1 + (k - 1) + 1 = k + 1 by omega, ← eB, if_pos y]
            · refine Ok_if y (fin (B k) ?_)
              rw [eB1]
              show _ = if tlL W (tkS W (1 + (k - 1) + 1)) 1 < _ then _ else _
              rw [show 1 + (k - 1) + 1 = k + 1 by omega, ← eB, if_neg y]
        · show Ok (Mo_heaps_l34 298 (nI (B (hmN W)).1) (B (hmN W)).2 (nI (tkS W (hmN W))) (nI (hpX W (hmN W))) (nI (hmN W + 1)) x) _
          unfold Mo_heaps_l34
          refine Ok_b (Mo_heapMany_e V2 I) (Ok_it (nI_lt (by omega) (by omega)) ?_)
          rw [up_some]
          refine Ok_s ⟨_, rfl, ?_, V2, F2⟩
          show nI (B (hmN W)).1 = _
          have : B (hmN W) = bsF (fun n => tlL W (tkS W n) 1) 1 (hmN W - 1) := if_neg h3
          rw [this]
    · simp only [if_neg h]
      exact Ok_s ⟨rfl, hW, FpM.refl⟩
end TRI

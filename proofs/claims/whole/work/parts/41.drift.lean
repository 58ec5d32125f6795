/-! miles, boats -/
def updL (f : Nat → Int64) (a : Nat) (v : Int64) : Nat → Int64 := fun j => if j = a then v else f j
def mvL (dr : Int64) (p : Nat → Int64) : Nat → Nat → Int64
  | 0 => fun j => if j = 0 then p 0 else 0
  | k + 1 => updL (updL (mvL dr p k) (k + 1 - 2) (mvL dr p k (k + 1 - 2) + p (k + 1) * dr / 100)) (min 99 (k + 2)) (updL (mvL dr p k) (k + 1 - 2) (mvL dr p k (k + 1 - 2) + p (k + 1) * dr / 100) (min 99 (k + 2)) + (p (k + 1) - p (k + 1) * dr / 100))
def dyL (W : Wd) : Nat → Nat → Int64
  | 0 => fun i => if i = W 15 then 1000000000000 else 0
  | k + 1 => mvL (nI (W 14)).toInt64 (dyL W k) 99
theorem wL_u {m : Mem} {t N : Nat} {f : Nat → Int64} (h : ∀ i, i < N → m.2 t i = f i) (a : Nat) (v : Int64) : ∀ i, i < N → (wL m t a v).2 t i = updL f a v i := by
  intro i hi
  rw [wL_at]
  unfold updL
  by_cases e : i = a
  · rw [if_pos e, if_pos e]
  · rw [if_neg e, if_neg e, h i hi]
section DRIFT
variable {m : Mem} {W : Wd}
theorem Dr_copy {t : Nat} {p : Nat → Int64} (h : ∀ i, i < 100 → m.2 (t + 2) i = p i) : Ok (loop (fun s : Int32 × Mem => Dr_passDay_l104 t s.1 s.2) (0, m)) (fun x => (∀ i, i < 100 → x.2 (t + 1) i = p i) ∧ Fp (t + 1) (t + 3) m x) := by
  refine Ok_for 100 (fun i x => (∀ j, j < i → x.2 (t + 1) j = p j) ∧ (∀ j, j < 100 → x.2 (t + 2) j = p j) ∧ Fp (t + 1) (t + 3) m x) ⟨fun j hj => by omega, h, Fp.refl⟩ (fun i x hi ⟨a, b, F⟩ => ?_) (fun x ⟨a, b, F⟩ => ?_)
  · show Ok (Dr_passDay_l104 t (nI i) x) _
    unfold Dr_passDay_l104
    refine Ok_if (show ¬ (99 : Int32) < nI i from nI_nlt (a := 99) (by omega) (by decide)) (Ok_gd (in_nI hi (by decide)) (Ok_gd (in_nI hi (by decide)) (Ok_lt ?_)))
    rw [ix_nI (by omega)]
    refine Ok_s ⟨wL x (t + 1) i (x.2 (t + 2) i), by rw [nI_1], fun j hj => ?_, fun j hj => ?_, F.trans (Fp.wL (by omega) (by omega) _ _)⟩
    · rw [wL_at]
      by_cases e : j = i
      · rw [if_pos e, e, b i hi]
      · rw [if_neg e]; exact a j (by omega)
    · rw [wL_o _ (by omega)]; exact b j hj
  · show Ok (Dr_passDay_l104 t (nI 100) x) _
    unfold Dr_passDay_l104
    refine Ok_it (show (99 : Int32) < nI 100 by decide) ?_
    rw [up_some]
    exact Ok_s ⟨_, rfl, a, F⟩
theorem Dr_move {t : Nat} {p : Nat → Int64} (dr : Int32) (h1 : ∀ i, i < 100 → m.2 (t + 1) i = p i) (h2 : ∀ i, i < 100 → m.2 (t + 2) i = if i = 0 then p 0 else 0) : Ok (loop (fun s : Int32 × Mem => Dr_passDay_l36 t dr s.1 s.2) (1, m)) (fun x => (∀ i, i < 100 → x.2 (t + 1) i = mvL dr.toInt64 p 99 i) ∧ Fp (t + 1) (t + 3) m x) := by
  refine Ok_loop 99 (fun i x => (nI (i + 1), x)) (fun i x => (∀ j, j < 100 → x.2 (t + 1) j = p j) ∧ (∀ j, j < 100 → x.2 (t + 2) j = mvL dr.toInt64 p i j) ∧ Fp (t + 1) (t + 3) m x) m rfl ⟨h1, h2, Fp.refl⟩ (fun i x hi ⟨a, b, F⟩ => ?_) (fun x ⟨a, b, F⟩ => ?_)
  · show Ok (Dr_passDay_l36 t dr (nI (i + 1)) x) _
    have e1 : jmax 0 (nI (i + 1) - 2) = nI (i + 1 - 2) := jmax0 (a := i + 1) (b := 2) (by omega) (by decide)
    have e2 : jmin 99 (nI (i + 1) + 1) = nI (min 99 (i + 2)) := by
      rw [nI_1]
      exact jmin_nI (a := 99) (by decide) (by omega)
    unfold Dr_passDay_l36
    rw [e1, e2, ix_nI (show i + 1 < 2147483648 by omega), ix_nI (show i + 1 - 2 < 2147483648 by omega), ix_nI (show min 99 (i + 2) < 2147483648 by omega)]
    refine Ok_if (show ¬ (99 : Int32) < nI (i + 1) from nI_nlt (a := 99) (by omega) (by decide)) (Ok_gd (in_nI (by omega) (by decide)) (Ok_gd (in_nI (by omega) (by decide)) (Ok_gd (in_nI (by omega) (by decide)) (Ok_lt (Ok_gd (in_nI (by omega) (by decide)) (Ok_gd (in_nI (by omega) (by decide)) (Ok_gd (in_nI (by omega) (by decide)) (Ok_lt ?_))))))))
    rw [show rL x (t + 1) (i + 1) = p (i + 1) from a _ (by omega), show rL x (t + 2) (i + 1 - 2) = mvL dr.toInt64 p i (i + 1 - 2) from b _ (by omega)]
    have b1 := wL_u b (i + 1 - 2) (mvL dr.toInt64 p i (i + 1 - 2) + p (i + 1) * dr.toInt64 / 100)
    rw [show rL (wL x (t + 2) (i + 1 - 2) (mvL dr.toInt64 p i (i + 1 - 2) + p (i + 1) * dr.toInt64 / 100)) (t + 2) (min 99 (i + 2)) = _ from b1 _ (by omega), show rL (wL x (t + 2) (i + 1 - 2) (mvL dr.toInt64 p i (i + 1 - 2) + p (i + 1) * dr.toInt64 / 100)) (t + 1) (i + 1) = p (i + 1) by rw [← a (i + 1) (by omega)]; exact wL_o _ (by omega) _ _]
    refine Ok_s ⟨_, by rw [nI_1], fun j hj => ?_, fun j hj => ?_, F.trans ((Fp.wL (a := t + 2) (by omega) (by omega) _ _).trans (Fp.wL (a := t + 2) (by omega) (by omega) _ _))⟩
    · rw [wL_o _ (by omega), wL_o _ (by omega), a j hj]
    · rw [wL_u b1 _ _ j hj]
      rfl
  · show Ok (Dr_passDay_l36 t dr (nI (99 + 1)) x) _
    unfold Dr_passDay_l36
    refine Ok_it (show (99 : Int32) < nI (99 + 1) by decide) (Ok_up (Dr_copy b) (fun y ⟨q, F2⟩ => ⟨y, rfl, q, F.trans F2⟩))
theorem Dr_passDay_e {t : Nat} {p : Nat → Int64} (dr : Int32) (h : ∀ i, i < 100 → m.2 (t + 1) i = p i) : Ok (Dr_passDay t dr m) (fun x => (∀ i, i < 100 → x.2 (t + 1) i = mvL dr.toInt64 p 99 i) ∧ Fp (t + 1) (t + 3) m x) := by
  unfold Dr_passDay
  refine Ok_for 100 (fun i x => (∀ j, j < 100 → x.2 (t + 1) j = p j) ∧ (∀ j, j < i → x.2 (t + 2) j = if j = 0 then p 0 else 0) ∧ Fp (t + 1) (t + 3) m x) ⟨h, fun j hj => by omega, Fp.refl⟩ (fun i x hi ⟨a, b, F⟩ => ?_) (fun x ⟨a, b, F⟩ => ?_)
  · have key : ∀ v : Int64, v = (if i = 0 then p 0 else 0) → Ok (Dr_passDay_b27 t dr (nI i) (nI i) v x) (fun r => ∃ m', r = Sum.inl (nI (i + 1), m') ∧ (∀ j, j < 100 → m'.2 (t + 1) j = p j) ∧ (∀ j, j < i + 1 → m'.2 (t + 2) j = if j = 0 then p 0 else 0) ∧ Fp (t + 1) (t + 3) m m') := by
      intro v hv
      unfold Dr_passDay_b27
      refine Ok_gd (in_nI hi (by decide)) (Ok_lt ?_)
      rw [ix_nI (by omega)]
      refine Ok_s ⟨wL x (t + 2) i v, by rw [nI_1], fun j hj => ?_, fun j hj => ?_, F.trans (Fp.wL (by omega) (by omega) _ _)⟩
      · rw [wL_o _ (by omega), a j hj]
      · rw [wL_at]
        by_cases e : j = i
        · rw [if_pos e, e, hv]
        · rw [if_neg e]; exact b j (by omega)
    show Ok (Dr_passDay_l2 t dr (nI i) x) _
    unfold Dr_passDay_l2
    refine Ok_if (show ¬ (99 : Int32) < nI i from nI_nlt (a := 99) (by omega) (by decide)) ?_
    by_cases e : i = 0
    · subst e
      refine Ok_it rfl (Ok_gd (by decide) (key _ ?_))
      rw [if_pos rfl]
      exact a 0 (by omega)
    · refine Ok_if (nI_ne0 (by omega) (by omega)) (key _ ?_)
      rw [if_neg e]
  · show Ok (Dr_passDay_l2 t dr (nI 100) x) _
    unfold Dr_passDay_l2
    exact Ok_it (show (99 : Int32) < nI 100 by decide) (Ok_up (Dr_move dr a b) (fun y ⟨q, F2⟩ => ⟨y, rfl, q, F.trans F2⟩))
theorem Dr_begin_e {t : Nat} (hl : W 15 < 2147483648) : Ok (Dr_begin t (nI (W 15)) m) (fun x => (∀ i, i < 100 → x.2 (t + 1) i = dyL W 0 i) ∧ Fp (t + 1) (t + 3) m x) := by
  unfold Dr_begin
  refine Ok_for 100 (fun i x => (∀ j, j < i → x.2 (t + 1) j = dyL W 0 j) ∧ Fp (t + 1) (t + 3) m x) ⟨fun j hj => by omega, Fp.refl⟩ (fun i x hi ⟨a, F⟩ => ?_) (fun x ⟨a, F⟩ => ?_)
  · have key : ∀ v : Int64, v = dyL W 0 i → Ok (Dr_begin_b25 t (nI (W 15)) (nI i) (nI i) v x) (fun r => ∃ m', r = Sum.inl (nI (i + 1), m') ∧ (∀ j, j < i + 1 → m'.2 (t + 1) j = dyL W 0 j) ∧ Fp (t + 1) (t + 3) m m') := by
      intro v hv
      unfold Dr_begin_b25
      refine Ok_gd (in_nI hi (by decide)) (Ok_lt ?_)
      rw [ix_nI (by omega)]
      refine Ok_s ⟨wL x (t + 1) i v, by rw [nI_1], fun j hj => ?_, F.trans (Fp.wL (by omega) (by omega) _ _)⟩
      rw [wL_at]
      by_cases e : j = i
      · rw [if_pos e, e, hv]
      · rw [if_neg e]; exact a j (by omega)
    show Ok (Dr_begin_l2 t (nI (W 15)) (nI i) x) _
    unfold Dr_begin_l2
    refine Ok_if (show ¬ (99 : Int32) < nI i from nI_nlt (a := 99) (by omega) (by decide)) ?_
    by_cases e : i = W 15
    · exact Ok_it (congrArg nI e) (key _ (if_pos e).symm)
    · exact Ok_if (fun z => e ((nI_eq (by omega) hl).mp z)) (key _ (if_neg e).symm)
  · show Ok (Dr_begin_l2 t (nI (W 15)) (nI 100) x) _
    unfold Dr_begin_l2
    refine Ok_it (show (99 : Int32) < nI 100 by decide) ?_
    rw [up_some]
    exact Ok_s ⟨_, rfl, a, F⟩
theorem Mo_drifts_e {p : Nat → Int64} (hW : MW m W) (h : ∀ i, i < 100 → m.2 312 i = p i) : Ok (Mo_drifts 298 m) (fun x => (∀ i, i < 100 → x.2 312 i = mvL (nI (W 14)).toInt64 p 99 i) ∧ Fp 312 314 m x) := by
  unfold Mo_drifts
  refine Ok_for 100 (fun i x => (∀ j, j < i → x.2 313 j = 0) ∧ Fp 313 314 m x) ⟨fun j hj => by omega, Fp.refl⟩ (fun i x hi ⟨a, F⟩ => ?_) (fun x ⟨a, F⟩ => ?_)
  · show Ok (Mo_drifts_l2 298 (nI i) x) _
    unfold Mo_drifts_l2
    refine Ok_if (show ¬ (100 : Int32) ≤ nI i from nI_ge (b := 100) hi (by decide)) (Ok_gd (in_nI hi (by decide)) (Ok_lt ?_))
    rw [ix_nI (by omega)]
    refine Ok_s ⟨wL x 313 i 0, by rw [nI_1], fun j hj => ?_, F.trans (Fp.wL (by omega) (by omega) _ _)⟩
    rw [wL_at]
    by_cases e : j = i
    · rw [if_pos e]
    · rw [if_neg e]; exact a j (by omega)
  · show Ok (Mo_drifts_l2 298 (nI 100) x) _
    unfold Mo_drifts_l2
    refine Ok_it (show (100 : Int32) ≤ nI 100 by decide) (Ok_up (P := fun y => (∀ i, i < 100 → y.2 312 i = mvL (nI (W 14)).toInt64 p 99 i) ∧ Fp 312 314 m y) (Ok_gd (by decide) (Ok_gd (by decide) (Ok_lt ?_))) (fun y hy => ⟨y, rfl, hy⟩))
    have a0 : ∀ j, j < 100 → (wL x 313 0 (x.2 312 0)).2 313 j = mvL (nI (W 14)).toInt64 p 0 j := by
      intro j hj
      rw [wL_at]
      show _ = if j = 0 then p 0 else 0
      by_cases e : j = 0
      · rw [if_pos e, if_pos e, F.b (by omega), h 0 (by omega)]
      · rw [if_neg e, if_neg e, a j hj]
    have F0 : Fp 313 314 m (wL x 313 0 (x.2 312 0)) := F.trans (Fp.wL (by omega) (by omega) _ _)
    show Ok (loop (fun s : Int32 × Mem => Mo_drifts_l35 298 s.1 s.2) (1, wL x 313 0 (x.2 312 0))) _
    refine Ok_loop 99 (fun i y => (nI (i + 1), y)) (fun i y => (∀ j, j < 100 → y.2 313 j = mvL (nI (W 14)).toInt64 p i j) ∧ Fp 313 314 m y) _ rfl ⟨a0, F0⟩ (fun i y hi ⟨b, F2⟩ => ?_) (fun y ⟨b, F2⟩ => ?_)
    · show Ok (Mo_drifts_l35 298 (nI (i + 1)) y) _
      have e1 : jmax 0 (nI (i + 1) - 2) = nI (i + 1 - 2) := jmax0 (a := i + 1) (b := 2) (by omega) (by decide)
      have e2 : jmin 99 (nI (i + 1) + 1) = nI (min 99 (i + 2)) := by
        rw [nI_1]
        exact jmin_nI (a := 99) (by decide) (by omega)
      have hp : ∀ j, j < 100 → y.2 312 j = p j := fun j hj => by rw [F2.b (by omega), h j hj]
      have hW2 : MW y W := hW.fp F2 (by omega)
      unfold Mo_drifts_l35
      rw [e1, e2, ix_nI (show i + 1 < 2147483648 by omega), ix_nI (show i + 1 - 2 < 2147483648 by omega), ix_nI (show min 99 (i + 2) < 2147483648 by omega), qW14 hW2]
      refine Ok_if (show ¬ (100 : Int32) ≤ nI (i + 1) from nI_ge (b := 100) (by omega) (by decide)) (Ok_gd (in_nI (by omega) (by decide)) (Ok_gd (by decide) (Ok_gd (in_nI (by omega) (by decide)) (Ok_gd (in_nI (by omega) (by decide)) (Ok_lt (Ok_gd (in_nI (by omega) (by decide)) (Ok_gd (in_nI (by omega) (by decide)) (Ok_gd (in_nI (by omega) (by decide)) (Ok_lt ?_)))))))))
      rw [show rL y (298 + 14) (i + 1) = p (i + 1) from hp _ (by omega), show rL y (298 + 15) (i + 1 - 2) = mvL (nI (W 14)).toInt64 p i (i + 1 - 2) from b _ (by omega)]
      have b1 := wL_u b (i + 1 - 2) (mvL (nI (W 14)).toInt64 p i (i + 1 - 2) + p (i + 1) * (nI (W 14)).toInt64 / 100)
      rw [show rL (wL y (298 + 15) (i + 1 - 2) (mvL (nI (W 14)).toInt64 p i (i + 1 - 2) + p (i + 1) * (nI (W 14)).toInt64 / 100)) (298 + 15) (min 99 (i + 2)) = _ from b1 _ (by omega), show rL (wL y (298 + 15) (i + 1 - 2) (mvL (nI (W 14)).toInt64 p i (i + 1 - 2) + p (i + 1) * (nI (W 14)).toInt64 / 100)) (298 + 14) (i + 1) = p (i + 1) by rw [← hp (i + 1) (by omega)]; exact wL_o _ (by decide) _ _]
      refine Ok_s ⟨_, by rw [nI_1], fun j hj => ?_, F2.trans ((Fp.wL (a := 313) (by omega) (by omega) _ _).trans (Fp.wL (a := 313) (by omega) (by omega) _ _))⟩
      exact (wL_u b1 _ _ j hj)
    · show Ok (Mo_drifts_l35 298 (nI (99 + 1)) y) _
      unfold Mo_drifts_l35
      refine Ok_it (show (100 : Int32) ≤ nI (99 + 1) by decide) (Ok_up (P := fun z => (∀ i, i < 100 → z.2 312 i = mvL (nI (W 14)).toInt64 p 99 i) ∧ Fp 312 314 m z) ?_ (fun z hz => ⟨z, rfl, hz⟩))
      refine Ok_for 100 (fun i z => (∀ j, j < i → z.2 312 j = mvL (nI (W 14)).toInt64 p 99 j) ∧ (∀ j, j < 100 → z.2 313 j = mvL (nI (W 14)).toInt64 p 99 j) ∧ Fp 312 314 m z) ⟨fun j hj => by omega, b, F2.wide (by omega) (by omega)⟩ (fun i z hi ⟨c1, c2, F3⟩ => ?_) (fun z ⟨c1, c2, F3⟩ => ?_)
      · show Ok (Mo_drifts_l109 298 (nI i) z) _
        unfold Mo_drifts_l109
        refine Ok_if (show ¬ (100 : Int32) ≤ nI i from nI_ge (b := 100) hi (by decide)) (Ok_gd (in_nI hi (by decide)) (Ok_gd (in_nI hi (by decide)) (Ok_lt ?_)))
        rw [ix_nI (by omega)]
        refine Ok_s ⟨wL z 312 i (z.2 313 i), by rw [nI_1], fun j hj => ?_, fun j hj => ?_, F3.trans (Fp.wL (by omega) (by omega) _ _)⟩
        · rw [wL_at]
          by_cases e : j = i
          · rw [if_pos e, e, c2 i hi]
          · rw [if_neg e]; exact c1 j (by omega)
        · rw [wL_o _ (by omega)]; exact c2 j hj
      · show Ok (Mo_drifts_l109 298 (nI 100) z) _
        unfold Mo_drifts_l109
        refine Ok_it (show (100 : Int32) ≤ nI 100 by decide) ?_
        rw [up_some]
        exact Ok_s ⟨_, rfl, c1, F3⟩
theorem Mo_beginMiles_e (hW : MW m W) (hl : W 15 < 2147483648) : Ok (Mo_beginMiles 298 m) (fun x => (∀ i, i < 100 → x.2 312 i = dyL W 0 i) ∧ Fp 312 314 m x) := by
  unfold Mo_beginMiles
  refine Ok_for 100 (fun i x => (∀ j, j < i → x.2 312 j = dyL W 0 j) ∧ Fp 312 314 m x) ⟨fun j hj => by omega, Fp.refl⟩ (fun i x hi ⟨a, F⟩ => ?_) (fun x ⟨a, F⟩ => ?_)
  · have key : ∀ v : Int64, v = dyL W 0 i → Ok (Mo_beginMiles_b31 298 (nI i) (nI i) v x) (fun r => ∃ m', r = Sum.inl (nI (i + 1), m') ∧ (∀ j, j < i + 1 → m'.2 312 j = dyL W 0 j) ∧ Fp 312 314 m m') := by
      intro v hv
      unfold Mo_beginMiles_b31
      refine Ok_gd (in_nI hi (by decide)) (Ok_lt ?_)
      rw [ix_nI (by omega)]
      refine Ok_s ⟨wL x 312 i v, by rw [nI_1], fun j hj => ?_, F.trans (Fp.wL (by omega) (by omega) _ _)⟩
      rw [wL_at]
      by_cases e : j = i
      · rw [if_pos e, e, hv]
      · rw [if_neg e]; exact a j (by omega)
    show Ok (Mo_beginMiles_l2 298 (nI i) x) _
    unfold Mo_beginMiles_l2
    refine Ok_if (show ¬ (100 : Int32) ≤ nI i from nI_ge (b := 100) hi (by decide)) (Ok_gd (by decide) ?_)
    rw [qW15 (hW.fp F (by omega))]
    by_cases e : i = W 15
    · exact Ok_it (congrArg nI e) (key _ (if_pos e).symm)
    · exact Ok_if (fun z => e ((nI_eq (by omega) hl).mp z)) (key _ (if_neg e).symm)
  · show Ok (Mo_beginMiles_l2 298 (nI 100) x) _
    unfold Mo_beginMiles_l2
    refine Ok_it (show (100 : Int32) ≤ nI 100 by decide) ?_
    rw [up_some]
    exact Ok_s ⟨_, rfl, a, F⟩
def vMiles (W : Wd) (x y : Int32) : Int64 := if 0 < W 1 then if inb x 61 then if inb y 100 then dyL W (ix x) (ix y) else -2 else -2 else -2
theorem st_miles (x y : Int32) : Same (PL_miles 1 x y) (Mo_miles 298 x y) := by
  refine Same_q (fun W _ => vMiles W x y) (fun m W p R I => ?_) (fun m W p hW I => ?_) (fun m m' W F => rfl)
  · obtain ⟨-, -, -, -, -, -, -, -, b15, -⟩ := I.2.1
    unfold PL_miles vMiles
    refine Ok_b (fl_there R I) ?_
    rw [ite_b2]
    by_cases h : 0 < W 1
    · rw [if_pos h, if_pos h, show (60 : Int32) = nI 60 from rfl, ite_rgt (by decide)]
      by_cases h1 : inb x 61
      · obtain ⟨d, hd, rfl⟩ := in_of h1 (by decide)
        rw [if_pos h1, if_pos h1, show (99 : Int32) = nI 99 from rfl, ite_rle (by decide)]
        by_cases h2 : inb y 100
        · obtain ⟨k, hk, rfl⟩ := in_of h2 (by decide)
          rw [if_pos h2, if_pos h2, ix_nI (by omega), ix_nI (by omega), show rI m (1 + 28) 12 = nI (W 15) from cf12 R]
          refine Ok_bind (Dr_begin_e (t := 295) (by omega)) (fun m1 ⟨q, F⟩ => ?_)
          refine Ok_for d (fun i z => (∀ j, j < 100 → z.2 296 j = dyL W i j) ∧ Fp 296 298 m z) ⟨q, F⟩ (fun i z hi ⟨a, F2⟩ => ?_) (fun z ⟨a, F2⟩ => ?_)
          · show Ok (PL_miles_l56 1 (nI d) (nI k) (nI i) z) _
            unfold PL_miles_l56
            rw [show rI z (1 + 28) 11 = nI (W 14) by rw [show rI z (1 + 28) 11 = m.1 29 11 from F2.a (by omega) _]; exact cf11 R]
            refine Ok_if (nI_ge hi (by omega)) (Ok_bind (Dr_passDay_e (t := 295) _ a) (fun y ⟨b, F3⟩ => Ok_s ⟨y, by rw [nI_1], b, F2.trans F3⟩))
          · show Ok (PL_miles_l56 1 (nI d) (nI k) (nI d) z) _
            unfold PL_miles_l56 Dr_partsAt
            rw [if_pos (nI_le (Nat.le_refl _) (by omega)), if_neg (nI_pos (by omega)), if_neg (show ¬ (99 : Int32) < nI k from nI_nlt (a := 99) (by omega) (by decide)), gd_in hk (by decide), ix_nI (by omega), bind_s, up_some]
            exact Ok_s ⟨_, rfl, a k hk, F2.wide (by omega) (by omega)⟩
        · rw [if_neg h2, if_neg h2]
          exact Ok_s ⟨rfl, Fp.refl⟩
      · rw [if_neg h1, if_neg h1]
        exact Ok_s ⟨rfl, Fp.refl⟩
    · rw [if_neg h, if_neg h]
      exact Ok_s ⟨rfl, Fp.refl⟩
  · obtain ⟨-, -, -, -, -, -, -, -, b15, -⟩ := I.2.1
    have dd := I.d
    unfold Mo_miles vMiles
    refine Ok_b (Mo_isFloe_e hW (by omega)) ?_
    rw [ite_b2]
    by_cases h : 0 < W 1
    · rw [if_pos h, if_pos h]
      refine Ok_b (in0 m x (n := 61) (by decide) (by decide)) ?_
      rw [ite_b2]
      by_cases h1 : inb x 61
      · obtain ⟨d, hd, rfl⟩ := in_of h1 (by decide)
        rw [if_pos h1, if_pos h1]
        refine Ok_b (in0 m y (n := 100) (by decide) (by decide)) ?_
        rw [ite_b2]
        by_cases h2 : inb y 100
        · obtain ⟨k, hk, rfl⟩ := in_of h2 (by decide)
          rw [if_pos h2, if_pos h2, ix_nI (by omega), ix_nI (by omega)]
          refine Ok_bind (Mo_beginMiles_e hW (by omega)) (fun m1 ⟨q, F⟩ => ?_)
          refine Ok_for d (fun i z => (∀ j, j < 100 → z.2 312 j = dyL W i j) ∧ Fp 312 314 m z) ⟨q, F⟩ (fun i z hi ⟨a, F2⟩ => ?_) (fun z ⟨a, F2⟩ => ?_)
          · show Ok (Mo_miles_l41 298 (nI d) (nI k) (nI i) z) _
            unfold Mo_miles_l41
            refine Ok_if (nI_ge hi (by omega)) (Ok_bind (Mo_drifts_e (hW.fp F2 (by omega)) a) (fun y ⟨b, F3⟩ => Ok_s ⟨y, by rw [nI_1], b, F2.trans F3⟩))
          · show Ok (Mo_miles_l41 298 (nI d) (nI k) (nI d) z) _
            unfold Mo_miles_l41
            rw [if_pos (nI_le (Nat.le_refl _) (by omega)), gd_in hk (by decide), ix_nI (by omega), up_some]
            exact Ok_s ⟨_, rfl, a k hk, F2.wide (by omega) (by omega)⟩
        · rw [if_neg h2, if_neg h2]
          exact Ok_s ⟨rfl, Fp.refl⟩
      · rw [if_neg h1, if_neg h1]
        exact Ok_s ⟨rfl, Fp.refl⟩
    · rw [if_neg h, if_neg h]
      exact Ok_s ⟨rfl, Fp.refl⟩
def smL (f : Nat → Int64) : Nat → Int64
  | 0 => 0
  | k + 1 => smL f k + f k
def vBoats (W : Wd) (x y : Int32) : Int32 := if 0 < W 1 then if inb x 100 then if 1 ≤ y ∧ y ≤ 1000 then fsN (fun d => ¬ smL (dyL W d) (ix x + 1) < y.toInt64 * 1000000000) (fun d => nI d) (-1) 61 0 else -2 else -2 else -2
theorem st_boats (x y : Int32) : Same (PL_boats 1 x y) (Mo_boats 298 x y) := by
  refine Same_q (fun W _ => vBoats W x y) (fun m W p R I => ?_) (fun m W p hW I => ?_) (fun m m' W F => rfl)
  · obtain ⟨-, -, -, -, -, -, -, -, b15, -⟩ := I.2.1
    unfold PL_boats vBoats
    refine Ok_b (fl_there R I) ?_
    rw [ite_b2]
    by_cases h : 0 < W 1
    · rw [if_pos h, if_pos h, show (99 : Int32) = nI 99 from rfl, ite_rgt (by decide)]
      by_cases h1 : inb x 100
      · obtain ⟨k, hk, rfl⟩ := in_of h1 (by decide)
        rw [if_pos h1, if_pos h1, ix_nI (by omega)]
        refine Ok_b (PL_isThousandths_e m y) ?_
        rw [ite_b2]
        by_cases h2 : 1 ≤ y ∧ y ≤ 1000
        · obtain ⟨j, j1, j2, rfl⟩ := rg_of (a := 1) (b := 1000) (by decide) (by decide) h2
          rw [if_pos (in_nI (by omega) (by decide)), if_pos h2, show rI m (1 + 28) 12 = nI (W 15) from cf12 R]
          refine Ok_if (nI_ne0 (by omega) (by omega)) (Ok_bind (Dr_begin_e (t := 295) (by omega)) (fun m1 ⟨q, F⟩ => ?_))
          have ps : ∀ z : Mem, ∀ d, (∀ j, j < 100 → z.2 296 j = dyL W d j) → Dr_partsWithin (1 + 294) (nI k) z = some (smL (dyL W d) (k + 1)) := by
            intro z d hz
            unfold Dr_partsWithin
            refine loop_cnt (k + 1) (fun i => (smL (dyL W d) i, nI i)) rfl (fun i hi => ?_) ?_
            · show Dr_partsWithin_l5 (1 + 294) (nI k) (smL (dyL W d) i) (nI i) z = _
              unfold Dr_partsWithin_l5
              rw [if_neg (nI_nlt (by omega) (by omega)), if_neg (show ¬ (99 : Int32) < nI i from nI_nlt (a := 99) (by omega) (by decide)), gd_in (by omega) (by decide), ix_nI (by omega), show rL z (1 + 294 + 1) i = dyL W d i from hz i (by omega), nI_1]
              rfl
            · show Dr_partsWithin_l5 (1 + 294) (nI k) (smL (dyL W d) (k + 1)) (nI (k + 1)) z = _
              unfold Dr_partsWithin_l5
              rw [if_pos (nI_lt (by omega) (by omega)), up_some]
          refine Ok_first (fun r : Int32 × Mem => r.1) (fun r => Fp 203 298 m r.2) (fun d => nI d) (-1) 61 (fun i z => (nI i, z)) (fun i z => (∀ j, j < 100 → z.2 296 j = dyL W i j) ∧ Fp 296 298 m z) (fun d => ¬ smL (dyL W d) (k + 1) < (nI j).toInt64 * 1000000000) m1 rfl ⟨q, F⟩ (fun i z hi ⟨a, F2⟩ hp => ?_) (fun i z hi ⟨a, F2⟩ hp => ?_) (fun z ⟨a, F2⟩ => ?_)
          · show Ok (PL_boats_l56 1 (nI k) (nI j) (nI i) z) _
            unfold PL_boats_l56
            rw [ps z i a]
            refine Ok_if (show ¬ (60 : Int32) < nI i from nI_nlt (a := 60) (by omega) (by decide)) ?_
            rw [bind_s, if_neg hp, up_some]
            exact Ok_s ⟨_, rfl, rfl, F2.wide (by omega) (by omega)⟩
          · show Ok (PL_boats_l56 1 (nI k) (nI j) (nI i) z) _
            unfold PL_boats_l56
            rw [ps z i a, show rI z (1 + 28) 11 = nI (W 14) by rw [show rI z (1 + 28) 11 = m.1 29 11 from F2.a (by omega) _]; exact cf11 R]
            refine Ok_if (show ¬ (60 : Int32) < nI i from nI_nlt (a := 60) (by omega) (by decide)) ?_
            rw [bind_s, if_pos (Classical.byContradiction hp)]
            exact Ok_bind (Dr_passDay_e (t := 295) _ a) (fun y ⟨b, F3⟩ => Ok_s ⟨y, by rw [nI_1], b, F2.trans F3⟩)
          · show Ok (PL_boats_l56 1 (nI k) (nI j) (nI 61) z) _
            unfold PL_boats_l56
            refine Ok_it (show (60 : Int32) < nI 61 by decide) ?_
            rw [up_some]
            exact Ok_s ⟨_, rfl, rfl, F2.wide (by omega) (by omega)⟩
        · rw [if_neg h2]
          by_cases h3 : inb y 1001
          · obtain ⟨j, hj, rfl⟩ := in_of h3 (by decide)
            have : j = 0 := by
              apply Classical.byContradiction
              intro z
              exact h2 ⟨nI_le (a := 1) (by omega) (by omega), nI_le (b := 1000) (by omega) (by decide)⟩
            subst this
            rw [if_pos h3]
            exact Ok_it rfl (Ok_s ⟨rfl, Fp.refl⟩)
          · rw [if_neg h3]
            exact Ok_s ⟨rfl, Fp.refl⟩
      · rw [if_neg h1, if_neg h1]
        exact Ok_s ⟨rfl, Fp.refl⟩
    · rw [if_neg h, if_neg h]
      exact Ok_s ⟨rfl, Fp.refl⟩
  · obtain ⟨-, -, -, -, -, -, -, -, b15, -⟩ := I.2.1
    have dd := I.d
    unfold Mo_boats vBoats
    refine Ok_b (Mo_isFloe_e hW (by omega)) ?_
    rw [ite_b2]
    by_cases h : 0 < W 1
    · rw [if_pos h, if_pos h]
      refine Ok_b (in0 m x (n := 100) (by decide) (by decide)) ?_
      rw [ite_b2]
      by_cases h1 : inb x 100
      · obtain ⟨k, hk, rfl⟩ := in_of h1 (by decide)
        rw [if_pos h1, if_pos h1, ix_nI (by omega)]
        refine Ok_b (Mo_in_g m y 1 1000 (by decide) (by decide)) ?_
        rw [ite_b2]
        by_cases h2 : 1 ≤ y ∧ y ≤ 1000
        · rw [if_pos h2, if_pos h2]
          refine Ok_bind (Mo_beginMiles_e hW (by omega)) (fun m1 ⟨q, F⟩ => ?_)
          have inner : ∀ z : Mem, ∀ d, (∀ j, j < 100 → z.2 312 j = dyL W d j) → loop (fun s : Int64 × Int32 => Mo_boats_l52 298 (nI k) y (nI d) s.1 s.2 z) (0, 0) = (if smL (dyL W d) (k + 1) < y.toInt64 * 1000000000 then (Mo_drifts 298 z).bind (fun m91 => some (Sum.inl (nI d + 1, m91))) else (up (some (nI d, z)) : Option ((Int32 × Mem) ⊕ (Int32 × Mem)))) := by
            intro z d hz
            have st : ∀ i, i < k + 1 → Mo_boats_l52 298 (nI k) y (nI d) (smL (dyL W d) i) (nI i) z = some (.inl (smL (dyL W d) (i + 1), nI (i + 1))) := by
              intro i hi
              unfold Mo_boats_l52
              rw [if_neg (nI_nlt (by omega) (by omega)), gd_in (by omega) (by decide), ix_nI (by omega), show rL z (298 + 14) i = dyL W d i from hz i (by omega), nI_1]
              rfl
            have ed : Mo_boats_l52 298 (nI k) y (nI d) (smL (dyL W d) (k + 1)) (nI (k + 1)) z = up (if smL (dyL W d) (k + 1) < y.toInt64 * 1000000000 then (Mo_drifts 298 z).bind (fun m91 => some (Sum.inl (nI d + 1, m91))) else (up (some (nI d, z)) : Option ((Int32 × Mem) ⊕ (Int32 × Mem)))) := by
              unfold Mo_boats_l52
              rw [if_pos (nI_lt (by omega) (by omega))]
            generalize (if smL (dyL W d) (k + 1) < y.toInt64 * 1000000000 then (Mo_drifts 298 z).bind (fun m91 => some (Sum.inl (nI d + 1, m91))) else (up (some (nI d, z)) : Option ((Int32 × Mem) ⊕ (Int32 × Mem)))) = E at ed
            cases E with
            | some r => exact loop_cnt (k + 1) (fun i => (smL (dyL W d) i, nI i)) rfl (fun i hi => st i hi) ed
            | none =>
              have walk : ∀ n i, i + n = k + 1 → loop (fun s : Int64 × Int32 => Mo_boats_l52 298 (nI k) y (nI d) s.1 s.2 z) (smL (dyL W d) i, nI i) = none := by
                intro n
                induction n with
                | zero =>
                  intro i hi
                  rw [show i = k + 1 by omega]
                  cases hq : loop (fun s : Int64 × Int32 => Mo_boats_l52 298 (nI k) y (nI d) s.1 s.2 z) (smL (dyL W d) (k + 1), nI (k + 1)) with
                  | none => rfl
                  | some r =>
                    obtain ⟨n, hn⟩ := loop_to hq
                    cases n with
                    | zero => cases hn
                    | succ n =>
                      unfold loopN at hn
                      rw [show (fun s : Int64 × Int32 => Mo_boats_l52 298 (nI k) y (nI d) s.1 s.2 z) (smL (dyL W d) (k + 1), nI (k + 1)) = none from ed] at hn
                      cases hn
                | succ n ih =>
                  intro i hi
                  rw [show loop (fun s : Int64 × Int32 => Mo_boats_l52 298 (nI k) y (nI d) s.1 s.2 z) (smL (dyL W d) i, nI i) = _ from loop_in (st i (by omega))]
                  exact ih (i + 1) (by omega)
              exact walk (k + 1) 0 (by omega)
          refine Ok_first (fun r : Int32 × Mem => r.1) (fun r => Fp 303 314 m r.2) (fun d => nI d) (-1) 61 (fun i z => (nI i, z)) (fun i z => (∀ j, j < 100 → z.2 312 j = dyL W i j) ∧ Fp 312 314 m z) (fun d => ¬ smL (dyL W d) (k + 1) < y.toInt64 * 1000000000) m1 rfl ⟨q, F⟩ (fun i z hi ⟨a, F2⟩ hp => ?_) (fun i z hi ⟨a, F2⟩ hp => ?_) (fun z ⟨a, F2⟩ => ?_)
          · show Ok (Mo_boats_l40 298 (nI k) y (nI i) z) _
            unfold Mo_boats_l40
            rw [inner z i a, if_neg hp, up_some]
            exact Ok_if (show ¬ (60 : Int32) < nI i from nI_nlt (a := 60) (by omega) (by decide)) (Ok_s ⟨_, rfl, rfl, F2.wide (by omega) (by omega)⟩)
          · show Ok (Mo_boats_l40 298 (nI k) y (nI i) z) _
            unfold Mo_boats_l40
            rw [inner z i a, if_pos (Classical.byContradiction hp)]
            exact Ok_if (show ¬ (60 : Int32) < nI i from nI_nlt (a := 60) (by omega) (by decide)) (Ok_bind (Mo_drifts_e (hW.fp F2 (by omega)) a) (fun y ⟨b, F3⟩ => Ok_s ⟨y, by rw [nI_1], b, F2.trans F3⟩))
          · show Ok (Mo_boats_l40 298 (nI k) y (nI 61) z) _
            unfold Mo_boats_l40
            refine Ok_it (show (60 : Int32) < nI 61 by decide) ?_
            rw [up_some]
            exact Ok_s ⟨_, rfl, rfl, F2.wide (by omega) (by omega)⟩
        · rw [if_neg h2, if_neg h2]
          exact Ok_s ⟨rfl, Fp.refl⟩
      · rw [if_neg h1, if_neg h1]
        exact Ok_s ⟨rfl, Fp.refl⟩
    · rw [if_neg h, if_neg h]
      exact Ok_s ⟨rfl, Fp.refl⟩
end DRIFT

/-! floe: how the reference ends -/
section FLOE
variable {y : Mem}
theorem b60_e (m : Mem) : Ok (Mo_floe_b60 298 m) (fun r => (m.1 298 12 ≠ 0 → r = (-4, m)) ∧ (m.1 298 12 = 0 → r.1 = m.1 304 0 ∧ (∀ i, i < 200 → r.2.1 299 i = if i = 190 then m.1 304 3 else m.1 304 i) ∧ (∀ j, r.2.1 298 j = if j = 26 then 0 else m.1 298 j) ∧ r.2.2 = m.2 ∧ ∀ a, a ≠ 298 → a ≠ 299 → r.2.1 a = m.1 a)) := by
  unfold Mo_floe_b60 Mo_good
  by_cases h : rI m 298 12 = 0
  · rw [if_pos h, bind_s, if_neg (by decide)]
    refine Ok_mono (P := fun r => r.1 = m.1 304 0 ∧ (∀ i, i < 200 → r.2.1 299 i = if i = 190 then m.1 304 3 else m.1 304 i) ∧ (∀ j, r.2.1 298 j = if j = 26 then 0 else m.1 298 j) ∧ r.2.2 = m.2 ∧ ∀ a, a ≠ 298 → a ≠ 299 → r.2.1 a = m.1 a) ?_ (fun r hr => ⟨fun z => absurd h z, fun _ => hr⟩)
    refine Ok_for 200 (fun i x => (∀ k, k < i → x.1 299 k = m.1 304 k) ∧ x.2 = m.2 ∧ ∀ a, a ≠ 299 → x.1 a = m.1 a) ⟨fun k hk => by omega, rfl, fun _ _ => rfl⟩ (fun i x hi ⟨a, b, c⟩ => ?_) (fun x ⟨a, b, c⟩ => ?_)
    · show Ok (Mo_floe_l72 298 (nI i) x) _
      unfold Mo_floe_l72
      refine Ok_if (show ¬ (200 : Int32) ≤ nI i from nI_ge (b := 200) hi (by decide)) (Ok_gd (in_nI hi (by decide)) (Ok_gd (in_nI hi (by decide)) (Ok_lt ?_)))
      rw [ix_nI (by omega)]
      refine Ok_s ⟨wI x (298 + 1) i (rI x (298 + 6) i), by rw [nI_1], fun k hk => ?_, b, fun q hq => ?_⟩
      · rw [show 298 + 1 = 299 from rfl, wI_at]
        by_cases z : k = i
        · rw [if_pos z, z]
          show x.1 304 i = _
          rw [c 304 (by decide)]
        · rw [if_neg z]
          exact a k (by omega)
      · rw [show 298 + 1 = 299 from rfl, wI_1 x hq, c q hq]
    · show Ok (Mo_floe_l72 298 (nI 200) x) _
      unfold Mo_floe_l72
      refine Ok_it (show (200 : Int32) ≤ nI 200 by decide) (Ok_up (P := fun r => r = (x.1 299 0, wI (wI x 299 190 (x.1 299 3)) 298 26 0)) (Ok_gd (by decide) (Ok_gd (by decide) (Ok_lt (Ok_lt (Ok_gd (by decide) (Ok_s ?_)))))) (fun r hr => ⟨r, rfl, ?_⟩))
      · refine Prod.ext ?_ rfl
        show (wI (wI x 299 190 (x.1 299 3)) 298 26 0).1 299 0 = _
        rw [wI_o _ (by decide), wI_at, if_neg (by decide)]
      · rw [hr]
        refine ⟨a 0 (by decide), fun i hi => ?_, fun j => ?_, b, fun q h1 h2 => ?_⟩
        · show (wI (wI x 299 190 (x.1 299 3)) 298 26 0).1 299 i = _
          rw [wI_o _ (by decide), wI_at, a 3 (by decide)]
          by_cases z : i = 190
          · rw [if_pos z, if_pos z]
          · rw [if_neg z, if_neg z, a i hi]
        · show (wI (wI x 299 190 (x.1 299 3)) 298 26 0).1 298 j = _
          rw [wI_at, wI_o _ (by decide), c 298 (by decide)]
        · show (wI (wI x 299 190 (x.1 299 3)) 298 26 0).1 q = _
          rw [wI_1 _ h1, wI_1 _ h2, c q h2]
  · rw [if_neg h, bind_s, if_pos rfl]
    exact Ok_s ⟨fun _ => rfl, fun z => absurd z h⟩
theorem b60_v (m : Mem) : ∃ v, Mo_floe_b60 298 m = some v := by
  obtain ⟨v, e, -⟩ := b60_e m
  exact ⟨v, e⟩
end FLOE
/-! the start on both sides -/
section START
variable {x y : Mem}
theorem Fl_clear_e (x : Mem) : Ok (Fl_clear 4 x) (fun x' => FD x' z0W 0 0 0 ∧ x'.2 = x.2 ∧ ∀ a, a ≠ 4 → a ≠ 5 → a ≠ 14 → a ≠ 22 → x'.1 a = x.1 a) := by
  refine Ok_s (x := wI (wI (wI (wI (wI (wI (wI (wI (wI (wI (wI (wI (wI (wI (wI (wI (wI (wI x 4 0 0) 4 1 0) 4 2 0) 4 3 0) 4 4 0) 4 5 0) 4 6 0) 4 7 0) 4 8 1) 4 9 5) 4 10 50) 4 11 50) 4 12 20) 4 13 0) 4 14 0) 5 1 0) 14 1 0) 22 1 0) ⟨⟨fun j hj => ?_, ?_, ?_, ?_, fun i j h => ?_, fun i j h => ?_, fun i j h => ?_⟩, rfl, fun a h1 h2 h3 h4 => ?_⟩
  · rw [wI_o _ (by decide), wI_o _ (by decide), wI_o _ (by decide)]
    have e : ∀ j, j < 15 → (wI (wI (wI (wI (wI (wI (wI (wI (wI (wI (wI (wI (wI (wI (wI x 4 0 0) 4 1 0) 4 2 0) 4 3 0) 4 4 0) 4 5 0) 4 6 0) 4 7 0) 4 8 1) 4 9 5) 4 10 50) 4 11 50) 4 12 20) 4 13 0) 4 14 0).1 4 j = nI (z0W (fmap j)) := by
      intro j hj
      have : j = 0 ∨ j = 1 ∨ j = 2 ∨ j = 3 ∨ j = 4 ∨ j = 5 ∨ j = 6 ∨ j = 7 ∨ j = 8 ∨ j = 9 ∨ j = 10 ∨ j = 11 ∨ j = 12 ∨ j = 13 ∨ j = 14 := by omega
      rcases this with rfl | rfl | rfl | rfl | rfl | rfl | rfl | rfl | rfl | rfl | rfl | rfl | rfl | rfl | rfl <;> rfl
    exact e j hj
  · rfl
  · rfl
  · rfl
  · rcases h with ⟨h, -⟩ | ⟨-, h⟩
    · exact absurd h (Nat.not_lt_zero _)
    · exact absurd h (Nat.not_lt_zero _)
  · rcases h with ⟨h, -⟩ | ⟨-, h⟩
    · exact absurd h (Nat.not_lt_zero _)
    · exact absurd h (Nat.not_lt_zero _)
  · rcases h with ⟨h, -⟩ | ⟨-, h⟩
    · exact absurd h (Nat.not_lt_zero _)
    · exact absurd h (Nat.not_lt_zero _)
  · rw [wI_1 _ h4, wI_1 _ h3, wI_1 _ h2, wI_1 _ h1, wI_1 _ h1, wI_1 _ h1, wI_1 _ h1, wI_1 _ h1, wI_1 _ h1, wI_1 _ h1, wI_1 _ h1, wI_1 _ h1, wI_1 _ h1, wI_1 _ h1, wI_1 _ h1, wI_1 _ h1, wI_1 _ h1, wI_1 _ h1]
theorem Mo_empties_e (y : Mem) : Ok (Mo_empties 304 y) (fun y' => FM y' z0W ∧ y'.1 304 20 = 0 ∧ y'.2 = y.2 ∧ ∀ a, a ≠ 304 → y'.1 a = y.1 a) := by
  unfold Mo_empties
  have al304 : al 304 = 200 := by decide +kernel
  refine Ok_for 200 (fun i x => (∀ k, k < i → x.1 304 k = 0) ∧ x.2 = y.2 ∧ ∀ a, a ≠ 304 → x.1 a = y.1 a) ⟨fun k hk => by omega, rfl, fun _ _ => rfl⟩ (fun i x hi ⟨a, b, c⟩ => ?_) (fun x ⟨a, b, c⟩ => ?_)
  · show Ok (Mo_empties_l2 304 (nI i) x) _
    unfold Mo_empties_l2
    rw [al304]
    refine Ok_if (show ¬ (200 : Int32) ≤ nI i from nI_ge (b := 200) hi (by decide)) (Ok_gd (in_nI hi (by decide)) (Ok_lt ?_))
    rw [ix_nI (by omega)]
    refine Ok_s ⟨wI x 304 i 0, by rw [nI_1], fun k hk => ?_, b, fun q hq => by rw [wI_1 x hq, c q hq]⟩
    rw [wI_at]
    by_cases z : k = i
    · rw [if_pos z]
    · rw [if_neg z]
      exact a k (by omega)
  · show Ok (Mo_empties_l2 304 (nI 200) x) _
    unfold Mo_empties_l2
    rw [al304]
    have v : ∀ i, i < 200 → (wI (wI (wI (wI (wI x 304 11 1) 304 12 5) 304 13 50) 304 14 50) 304 15 20).1 304 i = nI (z0W i) := by
      intro i hi
      rw [wI_at, wI_at, wI_at, wI_at, wI_at, a i hi]
      unfold z0W
      by_cases h1 : i = 15
      · subst h1; rfl
      · by_cases h2 : i = 14
        · subst h2; rfl
        · by_cases h3 : i = 13
          · subst h3; rfl
          · by_cases h4 : i = 12
            · subst h4; rfl
            · by_cases h5 : i = 11
              · subst h5; rfl
              · rw [if_neg h1, if_neg h2, if_neg h3, if_neg h4, if_neg h5, if_neg h5, if_neg h4, if_neg h3, if_neg h2, if_neg h1]
                rfl
    refine Ok_it (show (200 : Int32) ≤ nI 200 by decide) (Ok_up (P := fun r => r = wI (wI (wI (wI (wI x 304 11 1) 304 12 5) 304 13 50) 304 14 50) 304 15 20) (Ok_gd (by decide) (Ok_lt (Ok_gd (by decide) (Ok_lt (Ok_gd (by decide) (Ok_lt (Ok_gd (by decide) (Ok_lt (Ok_gd (by decide) (Ok_lt (Ok_s rfl))))))))))) (fun r hr => ⟨r, rfl, ?_⟩))
    rw [hr]
    refine ⟨fun i hi _ => v i hi, v 20 (by decide), b, fun q hq => ?_⟩
    rw [wI_1 _ hq, wI_1 _ hq, wI_1 _ hq, wI_1 _ hq, wI_1 _ hq, c q hq]
end START

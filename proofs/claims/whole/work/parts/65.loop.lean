/-! all the lines -/
section LOOP
theorem Ok2_loop {A A' R R' : Type} {b : A → Option (A ⊕ R)} {b' : A' → Option (A' ⊕ R')} (n : Nat) (P : Nat → A → A' → Prop) (Q : R → R' → Prop)
    (hs : ∀ i s s', i < n → P i s s' → Ok2 (b s) (b' s') (fun r r' => (∃ t t', r = .inl t ∧ r' = .inl t' ∧ P (i + 1) t t') ∨ ∃ u u', r = .inr u ∧ r' = .inr u' ∧ Q u u'))
    (hx : ∀ s s', P n s s' → Ok2 (b s) (b' s') (fun r r' => ∃ u u', r = .inr u ∧ r' = .inr u' ∧ Q u u')) (i : Nat) (s : A) (s' : A') (hi : i ≤ n) (p : P i s s') : Ok2 (loop b s) (loop b' s') Q := by
  have key : ∀ k i s s', i + k = n → P i s s' → Ok2 (loop b s) (loop b' s') Q := by
    intro k
    induction k with
    | zero =>
      intro i s s' hi p
      rw [show i = n by omega] at p
      obtain ⟨r, r', e, e', u, u', rfl, rfl, q⟩ := hx s s' p
      exact ⟨u, u', loop_out e, loop_out e', q⟩
    | succ k ih =>
      intro i s s' hi p
      obtain ⟨r, r', e, e', ⟨t, t', rfl, rfl, q⟩ | ⟨u, u', rfl, rfl, q⟩⟩ := hs i s s' (by omega) p
      · rw [loop_in e, loop_in e']
        exact ih (i + 1) t t' (by omega) q
      · exact ⟨u, u', loop_out e, loop_out e', q⟩
  exact key (n - i) i s s' (by omega) p
section LP
variable {L lb : Nat} {T : Nat → Int32} {x y x0 y0 x' y' : Mem} {kc ks ko lo hi : Nat} {Q : Wd → Nat → Prop} {W W' : Wd}
/-- how a reading ends on both -/
def RQ (L : Nat) (T : Nat → Int32) (x0 y0 : Mem) (u : Mem) (v : Int32 × Mem) : Prop := ∃ xe ye i, u = wI xe 2 1 0 ∧ Mo_floe_b60 298 ye = some v ∧ SW L T i x0 y0 0 0 0 (fun W' _ => LQ i W') xe ye
theorem stepEnd (hT : TB L T) {i : Nat} {e : Option Mem} {f : Option Mem} (h : Ok2 e f (SW L T i x0 y0 0 0 0 (fun W' _ => BW W' ∧ W' 0 = i))) :
    Ok2 (e.bind (fun m => Re_read_b123 2 (nI i) m)) ((f.bind (fun m => Mo_readLine_b20 298 m)).bind (fun m54 => (some (Sum.inl m54) : Option (Mem ⊕ (Int32 × Mem))))) (fun r r' => ∃ t t', r = .inl t ∧ r' = .inl t' ∧ t.1 = nI (i + 1) ∧ SW L T (i + 1) x0 y0 0 0 0 (fun W' _ => LQ (i + 1) W') t.2 t') := by
  obtain ⟨u, v, e1, f1, S⟩ := h
  rw [e1, f1, bind_s, bind_s]
  obtain ⟨x2, y2, e2, f2, S2⟩ := endLine hT S
  unfold Re_read_b123
  rw [e2, f2, bind_s, bind_s, nI_1]
  refine Ok2_s ⟨_, _, rfl, rfl, rfl, S2.mono ?_⟩
  rintro W' o ⟨W, ⟨B, h0⟩, rfl⟩
  refine ⟨?_, Or.inr ⟨by omega, B.up⟩⟩
  rw [wu_s, h0]
theorem step33 (hT : TB L T) {i : Nat} (hi : i < L + 1) (S : SW L T i x0 y0 0 0 0 (fun W' _ => LQ i W') x y) (hb : ∀ m, ∃ v, Mo_floe_b60 298 m = some v) :
    Ok2 (Re_read_l33 2 (nI i) x) (Mo_floe_l39 298 y) (fun r r' => (∃ t t', r = .inl t ∧ r' = .inl t' ∧ t.1 = nI (i + 1) ∧ SW L T (i + 1) x0 y0 0 0 0 (fun W' _ => LQ (i + 1) W') t.2 t') ∨ ∃ u u', r = .inr u ∧ r' = .inr u' ∧ RQ L T x0 y0 u u') := by
  have hL := hT.1
  have one : ¬ (1 : Int32) = 0 := by decide
  have z : (0 : Int32) = 0 := rfl
  obtain ⟨v, hv⟩ := hb y
  have ex : Ok2 (up (Re_read_b133 2 x) : Option ((Int32 × Mem) ⊕ Mem)) (up (Mo_floe_b60 298 y) : Option (Mem ⊕ (Int32 × Mem))) (fun r r' => (∃ t t', r = .inl t ∧ r' = .inl t' ∧ t.1 = nI (i + 1) ∧ SW L T (i + 1) x0 y0 0 0 0 (fun W' _ => LQ (i + 1) W') t.2 t') ∨ ∃ u u', r = .inr u ∧ r' = .inr u' ∧ RQ L T x0 y0 u u') := by
    rw [hv, up_some]
    exact Ok2_e (u := .inr (wI x 2 1 0)) (v := .inr v) rfl rfl (Or.inr ⟨_, _, rfl, rfl, x, y, i, rfl, hv, S⟩)
  unfold Re_read_l33 Mo_floe_l39
  rw [if_neg (show ¬ (1600 : Int32) < nI i from nI_nlt (show i ≤ 1600 by omega) (by decide))]
  rcases id S.2.2.2.2 with ⟨G, -⟩ | Bd
  · obtain ⟨W, o, q, ol, f, g, o1, o2⟩ := S.good G
    obtain ⟨g1, g2, g3, g4, a, -, -, -, -, -, g7, g10, -⟩ := id G
    have e73 : rI y 298 10 = rI x 2 7 := g10.trans g7.symm
    rw [if_pos (show rI x 2 3 = 0 from G.1), Mo_good_g G, bind_s, if_neg one, e73]
    by_cases t0 : rI x 2 7 = 0
    · rw [if_pos t0, if_pos t0]
      exact ex
    · rw [if_neg t0, if_neg t0]
      have f0 : rI x (2 + 2) 4 = nI i := (f.1 4 (by decide)).trans (congrArg nI q.1)
      have y0' : rI y (298 + 6) (ix 0) = nI i := (g 0 (by decide) (by decide)).trans (congrArg nI q.1)
      unfold Mo_readLine
      rw [f0, y0', gd_t (by decide)]
      have fin : ∀ {e : Option Mem} {k : Option Mem}, Ok2 e k (SW L T i x0 y0 0 0 0 (fun W' _ => BW W' ∧ W' 0 = i)) → Ok2 (e.bind (fun m => Re_read_b123 2 (nI i) m)) ((k.bind (fun m => Mo_readLine_b20 298 m)).bind (fun m54 => (some (Sum.inl m54) : Option (Mem ⊕ (Int32 × Mem))))) (fun r r' => (∃ t t', r = .inl t ∧ r' = .inl t' ∧ t.1 = nI (i + 1) ∧ SW L T (i + 1) x0 y0 0 0 0 (fun W' _ => LQ (i + 1) W') t.2 t') ∨ ∃ u u', r = .inr u ∧ r' = .inr u' ∧ RQ L T x0 y0 u u') := fun h => Ok2_mono (stepEnd hT h) (fun _ _ h => Or.inl h)
      by_cases i0 : i = 0
      · rw [if_pos (show nI i = 0 by rw [i0]; rfl), if_pos (show nI i = 0 by rw [i0]; rfl)]
        refine fin (Ok2_mono (readFloe2 hT S) (fun x1 y1 S1 => S1.mono ?_))
        rintro W' o' ⟨W1, a, b, c, d, ⟨w0, wq⟩, h1, h2, h3, h4, rfl⟩
        rcases wq with ⟨-, rfl⟩ | ⟨h, -⟩
        · exact ⟨BW.first h1 h2 h3 h4, by rw [i0]; rfl⟩
        · omega
      · have B : BW W := by
          rcases q.2 with ⟨h, -⟩ | ⟨-, h⟩
          · exact absurd h i0
          · exact h
        have SS : SW L T i x0 y0 0 0 0 (fun W' _ => W' = W) x y := ⟨S.1, S.2.1, S.2.2.1, S.2.2.2.1, Or.inl ⟨G, W, o, rfl, ol, f, g, o1, o2⟩⟩
        have to : ∀ {e k : Option Mem}, Ok2 e k (SW L T i x0 y0 0 0 0 (fun W' _ => BW W' ∧ W' 0 = W 0)) → Ok2 e k (SW L T i x0 y0 0 0 0 (fun W' _ => BW W' ∧ W' 0 = i)) := fun h => Ok2_mono h (fun _ _ S1 => S1.mono (fun W' o' p => ⟨p.1, p.2.trans q.1⟩))
        obtain ⟨wc, hw⟩ := word2 hT S.1 S.2.1 G
        rw [if_neg (nI_ne0 (by omega) (by omega)), if_neg (nI_ne0 (by omega) (by omega)), show Re_is 2 1029 x = _ from hw.c 29 (by decide), bind_s]
        by_cases w29 : 29 = wc
        · rw [if_pos w29, if_neg one]
          subst w29
          exact fin (to (crackLine hT SS G B hw))
        · rw [if_neg w29, if_pos z, show Re_is 2 1030 x = _ from hw.c 30 (by decide), bind_s]
          by_cases w30 : 30 = wc
          · rw [if_pos w30, if_neg one]
            subst w30
            exact fin (to (sortLine hT SS G B hw))
          · rw [if_neg w30, if_pos z, show Re_is 2 1031 x = _ from hw.c 31 (by decide), bind_s]
            by_cases w31 : 31 = wc
            · rw [if_pos w31, if_neg one]
              subst w31
              exact fin (to (otherLine hT SS G B hw))
            · rw [if_neg w31, if_pos z]
              refine fin (to (singleLine hT SS G B hw (fun k a b e => ?_)))
              have : k = 29 ∨ k = 30 ∨ k = 31 := by omega
              rcases this with rfl | rfl | rfl
              · exact w29 e
              · exact w30 e
              · exact w31 e
  · rw [if_neg (show ¬ rI x 2 3 = 0 from Bd.1), Mo_good_b Bd, bind_s, if_pos z]
    exact ex
theorem readAll (hT : TB L T) (S : SW L T 0 x0 y0 0 0 0 (fun W' _ => LQ 0 W') x y) (hb : ∀ m, ∃ v, Mo_floe_b60 298 m = some v) : Ok2 (loop (fun s : Int32 × Mem => Re_read_l33 2 s.1 s.2) (0, x)) (loop (fun s : Mem => Mo_floe_l39 298 s) y) (RQ L T x0 y0) := by
  have hL := hT.1
  refine Ok2_loop (L + 1) (fun i s s' => s.1 = nI i ∧ SW L T i x0 y0 0 0 0 (fun W' _ => LQ i W') s.2 s') (RQ L T x0 y0) (fun i s s' hi p => ?_) (fun s s' p => ?_) 0 (0, x) y (by omega) ⟨rfl, S⟩
  · obtain ⟨p1, p2⟩ := p
    show Ok2 (Re_read_l33 2 s.1 s.2) _ _
    rw [p1]
    exact Ok2_mono (step33 hT hi p2 hb) (fun r r' h => h.imp (fun ⟨t, t', a, b, c, d⟩ => ⟨t, t', a, b, c, d⟩) id)
  · obtain ⟨p1, p2⟩ := p
    have Bd : BS s.2 s' := by
      rcases p2.2.2.2.2 with ⟨G, -⟩ | Bd
      · obtain ⟨-, -, -, -, a, ⟨h1, h2⟩, -⟩ := G
        omega
      · exact Bd
    obtain ⟨v, hv⟩ := hb s'
    show Ok2 (Re_read_l33 2 s.1 s.2) (Mo_floe_l39 298 s') _
    unfold Re_read_l33 Mo_floe_l39
    rw [p1, Mo_good_b Bd, bind_s, if_pos (show (0 : Int32) = 0 from rfl), hv, up_some, if_neg (show ¬ rI s.2 2 3 = 0 from Bd.1), ite_self]
    exact Ok2_e (u := .inr (wI s.2 2 1 0)) (v := .inr v) rfl rfl ⟨_, _, rfl, rfl, s.2, s', L + 1, rfl, hv, p2⟩
end LP
end LOOP

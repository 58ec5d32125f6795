/-! floe on both sides -/
section FLOES
variable {L lb : Nat} {T : Nat → Int32} {x y x0 y0 x' y' m : Mem} {W : Wd}
theorem Re_read_start (hT : TB L T) (K : CK L T x) : ∃ x3, Re_read 2 x = loop (fun s : Int32 × Mem => Re_read_l33 2 s.1 s.2) (0, x3) ∧ CK L T x3 ∧ CFr x x3 ∧ FD x3 z0W 0 0 0 ∧ x3.1 2 9 = 0 ∧ x3.1 2 3 = 0 ∧ x3.1 2 4 = -1 ∧ x3.1 2 5 = nI (tkE L T (tkA L T 0)) ∧ x3.1 2 6 = nI (tkA L T 0) ∧ x3.1 2 7 = nI (tkT L T (tkA L T 0)) ∧ (tkT L T (tkA L T 0) = 2 → x3.1 2 8 = nI (nmN L T 1000000 (tkA L T 0) (tkE L T (tkA L T 0) - tkA L T 0))) := by
  obtain ⟨x1, e1, f1, g1, h1⟩ := Fl_clear_e x
  have c1 : CFr x x1 := ⟨fun a q => ⟨h1 a (by omega) (by omega) (by omega) (by omega), by rw [g1]⟩, by rw [h1 2 (by decide) (by decide) (by decide) (by decide)]⟩
  have c2 : CFr x1 (wI (wI (wI (wI x1 2 3 0) 2 4 (-1)) 2 5 0) 2 9 0) := ⟨fun a q => ⟨by rw [wI_1 _ (by omega), wI_1 _ (by omega), wI_1 _ (by omega), wI_1 _ (by omega)], rfl⟩, by rw [wI_at, if_neg (by decide), wI_at, if_neg (by decide), wI_at, if_neg (by decide), wI_at, if_neg (by decide)]⟩
  have c := c1.trans c2
  have K2 := K.cf c
  obtain ⟨x3, e3, p1, p2, p3, p4, n⟩ := Re_next_e (b := 0) hT K2 (by rw [wI_at, if_neg (by decide), wI_self]; rfl) (Nat.zero_le _)
  refine ⟨x3, ?_, K2.nx n, c.trans n.f.c, (f1.eq (fun a ha => ?_)).nf n.f, ?_, ?_, ?_, p1, p2, p3, p4⟩
  · unfold Re_read
    rw [show Fl_clear (2 + 2) x = some x1 from e1, bind_s]
    show (Re_next 2 (wI (wI (wI (wI x1 2 3 0) 2 4 (-1)) 2 5 0) 2 9 0)).bind _ = _
    rw [e3, bind_s]
  · rw [wI_1 _ (by omega), wI_1 _ (by omega), wI_1 _ (by omega), wI_1 _ (by omega)]
  · rw [n.1 9 (by omega), wI_self]
  · rw [n.1 3 (by omega), wI_at, if_neg (by decide), wI_at, if_neg (by decide), wI_at, if_neg (by decide), wI_self]
  · rw [n.1 4 (by omega), wI_at, if_neg (by decide), wI_at, if_neg (by decide), wI_self]
theorem Mo_floe_start (hT : TB L T) (h5 : y.1 298 5 = nI L) (ht : ∀ i, i < 1600 → y.1 302 i = T i) : ∃ y3, Mo_floe 298 y = loop (fun s : Mem => Mo_floe_l39 298 s) y3 ∧ MK L T y3 ∧ MFr (wI (wI y 298 7 (nI L)) 298 5 0) y3 ∧ FM y3 z0W ∧ y3.1 304 20 = 0 ∧ y3.1 298 12 = 0 ∧ y3.1 298 13 = -1 ∧ y3.1 298 8 = nI (tkE L T (tkA L T 0)) ∧ y3.1 298 9 = nI (tkA L T 0) ∧ y3.1 298 10 = nI (tkT L T (tkA L T 0)) ∧ (tkT L T (tkA L T 0) = 2 → y3.1 298 11 = nI (nmN L T 99999 (tkA L T 0) (tkE L T (tkA L T 0) - tkA L T 0))) := by
  obtain ⟨y2, e2, f2, g2, h2, k2⟩ := Mo_empties_e (wI (wI (wI (wI (wI y 298 7 (nI L)) 298 5 0) 298 8 0) 298 12 0) 298 13 (-1))
  have m1 : MFr (wI (wI y 298 7 (nI L)) 298 5 0) (wI (wI (wI (wI (wI y 298 7 (nI L)) 298 5 0) 298 8 0) 298 12 0) 298 13 (-1)) := ⟨fun a q _ => ⟨by rw [wI_1 _ q, wI_1 _ q, wI_1 _ q], rfl⟩, fun j hj => by rw [wI_at, if_neg (by omega), wI_at, if_neg (by omega), wI_at, if_neg (by omega)], rfl⟩
  have m2 : MFr (wI (wI (wI (wI (wI y 298 7 (nI L)) 298 5 0) 298 8 0) 298 12 0) 298 13 (-1)) y2 := ⟨fun a _ q => ⟨k2 a q, by rw [h2]⟩, fun j _ => by rw [k2 298 (by decide)], by rw [h2]⟩
  have e8 : ∀ j, y2.1 298 j = _ := fun j => congrFun (k2 298 (by decide)) j
  have M0 : MK L T (wI (wI y 298 7 (nI L)) 298 5 0) := ⟨by rw [wI_at, if_neg (by decide), wI_self], fun i hi => by rw [wI_o _ (by decide), wI_o _ (by decide)]; exact ht i hi⟩
  have mm := m1.trans m2
  have M2 := M0.mf mm
  obtain ⟨y3, e3, p1, p2, p3, p4, n⟩ := Mo_advance_e (b := 0) hT M2 (by rw [e8, wI_at, if_neg (by decide), wI_at, if_neg (by decide), wI_self]; rfl) (Nat.zero_le _)
  refine ⟨y3, ?_, M2.ax n, mm.trans n.f.m, f2.af n.f, ?_, ?_, ?_, p1, p2, p3, p4⟩
  · unfold Mo_floe
    rw [show rI y 298 5 = nI L from h5]
    show (Mo_empties 304 (wI (wI (wI (wI (wI y 298 7 (nI L)) 298 5 0) 298 8 0) 298 12 0) 298 13 (-1))).bind _ = _
    rw [e2, bind_s, e3, bind_s]
  · rw [(n.2.2 304 (by decide)).1, g2]
  · rw [n.1 12 (by omega), e8, wI_at, if_neg (by decide), wI_self]
  · rw [n.1 13 (by omega), e8, wI_self]
theorem read2 (hT : TB L T) (K : CK L T x) (h5 : y.1 298 5 = nI L) (ht : ∀ i, i < 1600 → y.1 302 i = T i) : Ok2 (Re_read 2 x) (Mo_floe 298 y) (RQ L T x (wI (wI y 298 7 (nI L)) 298 5 0)) := by
  obtain ⟨x3, ex, K3, c3, f3, x9, xf, xg, a1, a2, a3, a4⟩ := Re_read_start hT K
  obtain ⟨y3, ey, M3, d3, g3, y20, yf, yg, b1, b2, b3, b4⟩ := Mo_floe_start hT h5 ht
  rw [ex, ey]
  have ab := tkA_le (L := L) (T := T) (b := 0) (Nat.zero_le _)
  refine readAll hT ⟨K3, M3, c3, d3, Or.inl ⟨⟨xf, yf, xg, yg, tkA L T 0, ⟨ab.2, Nat.zero_le _⟩, a1, b1, a2, b2, a3, b3, fun z => ⟨a4 z, b4 z⟩⟩, z0W, 0, ⟨rfl, Or.inl ⟨rfl, rfl⟩⟩, by decide, f3, g3, x9, y20⟩⟩ b60_v
theorem pl_good {i o : Nat} (e : Re_read 2 m = some (wI x 2 1 0)) (g : x.1 2 3 = 0) (f : FD x W 0 0 0) (q : LQ i W) (hi : i ≤ 1601) (c : CFr m x) : Ok (PL_floe 1 m) (fun r => r.1 = nI (W 0) ∧ CR r.2 28 (bgW W o) ∧ r.2.1 1 10 = 0 ∧ (∀ j, r.2.1 2 j = (wI x 2 1 0).1 2 j) ∧ ∀ a, a = 3 ∨ 69 ≤ a → r.2.1 a = m.1 a ∧ r.2.2 a = m.2 a) := by
  unfold PL_floe
  have I := q.inv hi o
  refine Ok_b (show Re_read (1 + 1) m = _ from e) (Ok_it (show (wI x 2 1 0).1 2 3 = 0 by rw [wI_at, if_neg (by decide), g]) (Ok_bind (Ca_begin_e (f.eq (fun a ha => wI_1 _ (by omega) _)) q.nz o) (fun x1 ⟨R, F⟩ => Ok_lt (Ok_s ⟨?_, ?_, wI_self _ _ _ _, fun j => ?_, fun a ha => ⟨?_, ?_⟩⟩))))
  · show (wI x1 1 10 0).1 29 4 = _
    rw [wI_o _ (by decide)]
    refine (R.fl (j := 4) (by decide)).trans (congrArg nI ?_)
    exact bg_o W o (by decide) (by decide)
  · exact R.fp I (lo := 1) (hi := 2) (Fp.wI (by decide) (by decide) _ _) (by omega)
  · show (wI x1 1 10 0).1 2 j = _
    rw [wI_o _ (by decide), F.a (by omega)]
  · show (wI x1 1 10 0).1 a = _
    rw [wI_1 _ (by omega), (F a (by omega)).1, wI_1 _ (by omega), (c.1 a (by omega)).1]
  · show x1.2 a = _
    rw [(F a (by omega)).2]
    exact (c.1 a (by omega)).2
theorem pl_bad (e : Re_read 2 m = some (wI x 2 1 0)) (g : x.1 2 3 ≠ 0) : PL_floe 1 m = some (-4, wI x 2 1 0) := by
  unfold PL_floe
  rw [show Re_read (1 + 1) m = _ from e, bind_s]
  refine if_neg (show ¬ (wI x 2 1 0).1 2 3 = 0 from ?_)
  rw [wI_at, if_neg (by decide)]
  exact g
theorem RR_new {m m' : Mem} {W : Wd} (h : RR m) (e : ∀ a, (69 ≤ a ∧ a < 203) ∨ (300 ≤ a ∧ a ≤ 301) ∨ (314 ≤ a ∧ a ≤ 316) → m'.1 a = m.1 a ∧ m'.2 a = m.2 a) (t : TR m') (f : FR m') (w : MW m' W) (c : CR m' 28 W) (I : Inv W) : RR m' := by
  obtain ⟨-, ⟨-, -, ii, ss⟩, -, -, -⟩ := h
  refine ⟨W, ⟨t, f, fun k hk => ?_, fun k hk => ?_⟩, w, c, I⟩
  · exact (ii k hk).e hk (by rw [(e 193 (by omega)).1]) (by rw [(e 301 (by omega)).1]) (e 300 (by omega)).1 (fun a h1 h2 => (e a (by omega)).1)
  · exact (ss k hk).e (e _ (by omega)).1 (by rw [(e 314 (by omega)).1]) (by rw [(e 315 (by omega)).1]) (e _ (by omega)).2 (fun i _ => by rw [(e 316 (by omega)).2])
theorem SW.le {i : Nat} {Q : Wd → Nat → Prop} (S : SW L T i x0 y0 0 0 0 Q x y) (G : GS L T i x y) : i ≤ L := by
  obtain ⟨-, -, -, -, a, ⟨h1, h2⟩, -⟩ := G
  omega
theorem st_floe : Same (PL_floe 1) (Mo_floe 298) := by
  intro m h
  obtain ⟨W0, ⟨⟨⟨L, l1, l2, l3⟩, t⟩, ⟨f1, f2, f3⟩, -, -⟩, w, c, I⟩ := id h
  have hT : TB L (m.1 302) := ⟨l1, fun i hi => (t i hi).2⟩
  have K : CK L (m.1 302) m := ⟨l2, fun i hi => (t i hi).1⟩
  have ex : ∃ r m1, PL_floe 1 m = some (r, m1) ∧ ∀ a, a = 3 ∨ 69 ≤ a → m1.1 a = m.1 a ∧ m1.2 a = m.2 a := by
    obtain ⟨u, v, e1, -, xe, ye, i, rfl, -, S⟩ := read2 hT K l3 (fun _ _ => rfl)
    rcases id S.2.2.2.2 with ⟨G, -⟩ | B
    · obtain ⟨W, o, q, ol, f, g, -, -⟩ := S.good G
      have := S.le G
      obtain ⟨⟨r, m1⟩, e, -, -, -, -, k⟩ := pl_good (o := o) e1 G.1 f q (by omega) S.2.2.1
      exact ⟨r, m1, e, k⟩
    · refine ⟨_, _, pl_bad e1 B.1, fun a ha => ⟨?_, ?_⟩⟩
      · rw [wI_1 _ (by omega), (S.2.2.1.1 a (by omega)).1]
      · exact (S.2.2.1.1 a (by omega)).2
  obtain ⟨r, m1, e, k⟩ := ex
  obtain ⟨u, v, e1, e2, xe, ye, i, rfl, e3, S⟩ := read2 (y := m1) hT K (by rw [(k 298 (by omega)).1]; exact l3) (fun i _ => by rw [(k 302 (by omega)).1])
  obtain ⟨v', e4, vb, vg⟩ := b60_e ye
  rw [e4] at e3
  cases e3
  obtain ⟨MF1, MF2, MF3⟩ := S.2.2.2.1
  have ya : ∀ a, a ≠ 298 → a ≠ 304 → ye.1 a = m1.1 a ∧ ye.2 a = m1.2 a := fun a h1 h2 => ⟨(MF1 a h1 h2).1.trans (by rw [wI_1 _ h1, wI_1 _ h1]), (MF1 a h1 h2).2⟩
  have y5 : ye.1 298 5 = 0 := by rw [MF2 5 (by omega), wI_self]
  have y26 : ye.1 298 26 = m.1 298 26 := by rw [MF2 26 (by omega), wI_at, if_neg (by decide), wI_at, if_neg (by decide), (k 298 (by omega)).1]
  rcases id S.2.2.2.2 with ⟨G, -⟩ | B
  · obtain ⟨W, o, q, ol, f, g, -, g20⟩ := S.good G
    have hi := S.le G
    have I' := q.inv (show i ≤ 1601 by omega) o
    obtain ⟨⟨r', m1'⟩, e', p1, p2, p3, p4, p5⟩ := pl_good (o := o) e1 G.1 f q (by omega) S.2.2.1
    rw [e] at e'
    cases e'
    obtain ⟨v1, v2, v3, v4, v5⟩ := vg G.2.1
    have va : ∀ a, a ≠ 298 → a ≠ 299 → a ≠ 304 → v.2.1 a = m1.1 a := fun a h1 h2 h3 => (v5 a h1 h2).trans (ya a h1 h3).1
    refine ⟨_, _, v.2, e, ?_, RR_new (W := bgW W o) h (fun a ha => ⟨?_, ?_⟩) ⟨⟨0, by decide, ?_, ?_⟩, fun j hj => ?_⟩ ⟨?_, ?_, ?_⟩ (fun j hj => ?_) (p2.eq I' (fun a h1 h2 => va a (by omega) (by omega) (by omega))) I'⟩
    · rw [e2]
      refine congrArg some (Prod.ext ?_ rfl)
      rw [v1, g 0 (by decide) (by decide)]
      exact p1.symm
    · rw [va a (by omega) (by omega) (by omega), (k a (by omega)).1]
    · rw [v4, (ya a (by omega) (by omega)).2, (k a (by omega)).2]
    · rw [va 2 (by decide) (by decide) (by decide), p4, wI_self]
      rfl
    · rw [v3, if_neg (by decide), y5]
      rfl
    · rw [va 3 (by decide) (by decide) (by decide), va 302 (by decide) (by decide) (by decide), (k 3 (by omega)).1, (k 302 (by omega)).1]
      exact t j hj
    · rw [va 2 (by decide) (by decide) (by decide), p4, wI_at, if_neg (by decide), v3, if_neg (by decide), G.1, G.2.1]
    · rw [va 2 (by decide) (by decide) (by decide), p4, wI_at, if_neg (by decide), v3, if_neg (by decide), G.2.2.1, G.2.2.2.1]
    · rw [va 1 (by decide) (by decide) (by decide), p3, v3, if_pos rfl]
    · rw [v2 j hj]
      by_cases j1 : j = 190
      · rw [if_pos j1, j1, bg_p, g 3 (by decide) (by decide)]
      · rw [if_neg j1]
        by_cases j2 : j = 20
        · rw [j2, bg_20, g20]
        · rw [bg_o W o j2 j1, g j hj j2]
  · have eb := pl_bad e1 B.1
    rw [e] at eb
    cases eb
    have vb' := vb B.nz
    have ca := S.2.2.1.1
    have c3 : ∀ a, a ≠ 2 → a < 2 ∨ a = 3 ∨ 28 ≤ a → (wI xe 2 1 0).1 a = m.1 a := fun a h1 h2 => (wI_1 _ h1 _).trans (ca a h2).1
    refine ⟨_, _, ye, e, ?_, RR_new (W := W0) h (fun a ha => ⟨?_, ?_⟩) ⟨⟨0, by decide, ?_, ?_⟩, fun j hj => ?_⟩ ⟨?_, ?_, ?_⟩ (fun j hj => ?_) (c.eq I (fun a h1 h2 => ?_)) I⟩
    · rw [e2, vb']
    · rw [(ya a (by omega) (by omega)).1, (k a (by omega)).1]
    · rw [(ya a (by omega) (by omega)).2, (k a (by omega)).2]
    · rw [(ya 2 (by decide) (by decide)).1, wI_self]
      rfl
    · rw [y5]
      rfl
    · rw [(ya 3 (by decide) (by decide)).1, (ya 302 (by decide) (by decide)).1, (k 3 (by omega)).1, (k 302 (by omega)).1]
      exact t j hj
    · rw [(ya 2 (by decide) (by decide)).1, wI_at, if_neg (by decide), B.2.1]
    · rw [(ya 2 (by decide) (by decide)).1, wI_at, if_neg (by decide), B.2.2]
    · rw [(ya 1 (by decide) (by decide)).1, c3 1 (by decide) (by omega), y26]
      exact f3
    · rw [(ya 299 (by decide) (by decide)).1, (k 299 (by omega)).1]
      exact w j hj
    · rw [(ya a (by omega) (by omega)).1, c3 a (by omega) (by omega)]
end FLOES

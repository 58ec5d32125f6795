/-! the two sides stand for the same; what a call must keep -/
def TR (m : Mem) : Prop := (∃ L, L ≤ 1600 ∧ m.1 2 1 = nI L ∧ m.1 298 5 = nI L) ∧ ∀ i, i < 1600 → m.1 3 i = m.1 302 i ∧ -128 ≤ (m.1 302 i).toInt ∧ (m.1 302 i).toInt ≤ 127
def FR (m : Mem) : Prop := m.1 2 3 = m.1 298 12 ∧ m.1 2 4 = m.1 298 13 ∧ m.1 1 10 = m.1 298 26
def IR (m : Mem) (k : Nat) : Prop := m.1 193 k = m.1 301 k ∧ (m.1 301 k ≠ 0 → ∃ W, (∀ i, i < 200 → m.1 300 (200 * k + i) = nI (W i)) ∧ CR m (70 + 41 * k) W ∧ Inv W)
def SR (m : Mem) (k : Nat) : Prop := (m.1 (195 + 2 * k) 1 = 0 ∧ m.1 314 k = -1) ∨ (m.1 (195 + 2 * k) 1 = 1 ∧ ∃ n w, n ≤ 60 ∧ w < 4 ∧ m.1 (195 + 2 * k) 3 = nI n ∧ m.1 314 k = nI n ∧ m.1 (195 + 2 * k) 2 = nI w ∧ m.1 315 k = nI w ∧ ∀ i, i < 60 → m.2 (196 + 2 * k) i = m.2 316 (60 * k + i))
def PR (m : Mem) : Prop := TR m ∧ FR m ∧ (∀ k, k < 3 → IR m k) ∧ ∀ k, k < 4 → SR m k
def RR (m : Mem) : Prop := ∃ W, PR m ∧ MW m W ∧ CR m 28 W ∧ Inv W
/-- alike at the places that last -/
theorem IR.e {m m' : Mem} {k : Nat} (h : IR m k) (hk : k < 3) (e1 : m'.1 193 k = m.1 193 k) (e2 : m'.1 301 k = m.1 301 k) (e3 : m'.1 300 = m.1 300) (e4 : ∀ a, 70 + 41 * k ≤ a → a < 70 + 41 * k + 40 → m'.1 a = m.1 a) : IR m' k := by
  refine ⟨by rw [e1, e2, h.1], fun q => ?_⟩
  obtain ⟨W, a, R, I⟩ := h.2 (by rw [← e2]; exact q)
  refine ⟨W, fun i hi => by rw [e3, a i hi], ?_, I⟩
  have d := I.d
  obtain ⟨k, r1, r2, r3, r4, r5, r6, r7, r8, r9, r10, r11, r12, r13⟩ := R
  refine ⟨k, fun j hj => ?_, ?_, ?_, ?_, fun i j hi hj => ?_, fun i j hi hj => ?_, fun i j hi hj => ?_, fun h hh => ⟨?_, ?_⟩, fun h s hh hs => ?_, fun g hg => ⟨?_, ?_, ?_⟩, ?_, ?_, fun i hi => ?_⟩
  · rw [e4 _ (by omega) (by omega), r1 j hj]
  · rw [e4 _ (by omega) (by omega), r2]
  · rw [e4 _ (by omega) (by omega), r3]
  · rw [e4 _ (by omega) (by omega), r4]
  · rw [e4 _ (by omega) (by omega), r5 i j hi hj]
  · rw [e4 _ (by omega) (by omega), r6 i j hi hj]
  · rw [e4 _ (by omega) (by omega), r7 i j hi hj]
  · rw [e4 _ (by omega) (by omega), (r8 h hh).1]
  · rw [e4 _ (by omega) (by omega), (r8 h hh).2]
  · rw [e4 _ (by omega) (by omega), r9 h s hh hs]
  · rw [e4 _ (by omega) (by omega), (r10 g hg).1]
  · rw [e4 _ (by omega) (by omega), (r10 g hg).2.1]
  · rw [e4 _ (by omega) (by omega), (r10 g hg).2.2]
  · rw [e4 _ (by omega) (by omega), r11]
  · rw [e4 _ (by omega) (by omega), r12]
  · rw [e4 _ (by omega) (by omega), r13 i hi]
theorem SR.e {m m' : Mem} {k : Nat} (h : SR m k) (e1 : m'.1 (195 + 2 * k) = m.1 (195 + 2 * k)) (e2 : m'.1 314 k = m.1 314 k) (e3 : m'.1 315 k = m.1 315 k) (e4 : m'.2 (196 + 2 * k) = m.2 (196 + 2 * k)) (e5 : ∀ i, i < 60 → m'.2 316 (60 * k + i) = m.2 316 (60 * k + i)) : SR m' k := by
  unfold SR
  rw [e1, e2, e3, e4]
  rcases h with a | ⟨a, n, w, h1, h2, h3, h4, h5, h6, h7⟩
  · exact Or.inl a
  · exact Or.inr ⟨a, n, w, h1, h2, h3, h4, h5, h6, fun i hi => by rw [e5 i hi, h7 i hi]⟩
theorem PR.e {m m' : Mem} (h : PR m) (e : ∀ a, (1 ≤ a ∧ a ≤ 27) ∨ (70 ≤ a ∧ a < 203) ∨ a = 298 ∨ (300 ≤ a ∧ a ≤ 302) ∨ (314 ≤ a ∧ a ≤ 316) → m'.1 a = m.1 a ∧ m'.2 a = m.2 a) : PR m' := by
  obtain ⟨⟨⟨L, l1, l2, l3⟩, t⟩, ⟨f1, f2, f3⟩, i, s⟩ := h
  refine ⟨⟨⟨L, l1, by rw [(e 2 (by omega)).1, l2], by rw [(e 298 (by omega)).1, l3]⟩, fun j hj => by rw [(e 3 (by omega)).1, (e 302 (by omega)).1]; exact t j hj⟩, ⟨?_, ?_, ?_⟩, fun k hk => ?_, fun k hk => ?_⟩
  · rw [(e 2 (by omega)).1, (e 298 (by omega)).1, f1]
  · rw [(e 2 (by omega)).1, (e 298 (by omega)).1, f2]
  · rw [(e 1 (by omega)).1, (e 298 (by omega)).1, f3]
  · exact (i k hk).e hk (by rw [(e 193 (by omega)).1]) (by rw [(e 301 (by omega)).1]) (e 300 (by omega)).1 (fun a h1 h2 => (e a (by omega)).1)
  · exact (s k hk).e (e _ (by omega)).1 (by rw [(e 314 (by omega)).1]) (by rw [(e 315 (by omega)).1]) (e _ (by omega)).2 (fun i _ => by rw [(e 316 (by omega)).2])
theorem PR.fp {m m' : Mem} (h : PR m) {lo hi : Nat} (F : Fp lo hi m m') (q : (28 ≤ lo ∧ hi ≤ 70) ∨ (203 ≤ lo ∧ hi ≤ 298) ∨ (299 ≤ lo ∧ hi ≤ 300) ∨ (303 ≤ lo ∧ hi ≤ 314) ∨ 317 ≤ lo) : PR m' :=
  h.e (fun a ha => F a (by omega))
/-- a call on each side: the same answer, and they stand for the same again -/
def Same {X : Type} (e f : Mem → Option (X × Mem)) : Prop := ∀ m, RR m → ∃ r m1 m2, e m = some (r, m1) ∧ f m1 = some (r, m2) ∧ RR m2
def rd {X : Type} (e : Mem → Option X) (m : Mem) : Option (X × Mem) := (e m).bind (fun x => some (x, m))
theorem rd_e {X : Type} {e : Mem → Option X} {m : Mem} {x : X} (h : e m = some x) : rd e m = some (x, m) := by
  unfold rd
  rw [h]
  rfl
theorem Ok_rd {X : Type} {e : Mem → Option X} {m : Mem} {x : X} {lo hi : Nat} (h : e m = some x) : Ok (rd e m) (fun r => r.1 = x ∧ Fp lo hi m r.2) := ⟨_, rd_e h, rfl, Fp.refl⟩
/-- a question: what lasts stays on both sides -/
theorem Same_q {X : Type} {e f : Mem → Option (X × Mem)} (v : Wd → Mem → X) (hc : ∀ m W, PR m → CR m 28 W → Inv W → Ok (e m) (fun r => r.1 = v W m ∧ Fp 203 298 m r.2)) (hm : ∀ m W, PR m → MW m W → Inv W → Ok (f m) (fun r => r.1 = v W m ∧ Fp 303 314 m r.2))
    (hv : ∀ m m' W, Fp 203 298 m m' → v W m' = v W m) : Same e f := by
  rintro m ⟨W, p, w, c, i⟩
  obtain ⟨⟨r, m1⟩, e1, a1, F1⟩ := hc m W p c i
  simp only at a1 F1
  have p1 := p.fp F1 (by omega)
  have w1 := w.fp F1 (by omega)
  have c1 := c.fp i F1 (by omega)
  obtain ⟨⟨r2, m2⟩, e2, a2, F2⟩ := hm m1 W p1 w1 i
  simp only at a2 F2
  refine ⟨r, m1, m2, e1, ?_, W, p1.fp F2 (by omega), w1.fp F2 (by omega), c1.fp i F2 (by omega), i⟩
  rw [e2, a1, a2, hv m m1 W F1]
/-- ranges, asked otherwise -/
theorem inb_le {x : Int32} {n : Nat} (hn : n + 1 < 2147483648) (h0 : ¬ x < 0) : x ≤ nI n ↔ inb x (n + 1) := by
  rcases rng x hn with ⟨p, q⟩ | ⟨p, q, r⟩ | ⟨j, hj, rfl⟩
  · exact absurd p h0
  · constructor
    · intro z
      exact absurd (Int32.lt_of_lt_of_le (nI_lt (Nat.lt_succ_self n) hn) (Int32.le_trans q z)) (by exact Int32.lt_irrefl)
    · intro z; exact absurd z r
  · exact ⟨fun _ => in_nI hj hn, fun _ => nI_le (by omega) (by omega)⟩
theorem ite_rle {X : Type} {x : Int32} {n : Nat} (hn : n + 1 < 2147483648) (a b : X) : (if x < 0 then a else if x ≤ nI n then b else a) = if inb x (n + 1) then b else a := by
  by_cases h0 : x < 0
  · rw [if_pos h0, if_neg (fun q => q (Or.inl h0))]
  · rw [if_neg h0]
    by_cases h : inb x (n + 1)
    · rw [if_pos ((inb_le hn h0).mpr h), if_pos h]
    · rw [if_neg (fun q => h ((inb_le hn h0).mp q)), if_neg h]
theorem ite_rgt {X : Type} {x : Int32} {n : Nat} (hn : n + 1 < 2147483648) (a b : X) : (if x < 0 then a else if nI n < x then a else b) = if inb x (n + 1) then b else a := by
  by_cases h0 : x < 0
  · rw [if_pos h0, if_neg (fun q => q (Or.inl h0))]
  · rw [if_neg h0]
    by_cases h : inb x (n + 1)
    · rw [if_neg (Int32.not_lt.mpr ((inb_le hn h0).mpr h)), if_pos h]
    · rw [if_pos (Int32.not_le.mp (fun q => h ((inb_le hn h0).mp q))), if_neg h]
theorem ite_rlt {X : Type} {x : Int32} {n : Nat} (hn : n < 2147483648) (a b : X) : (if x < 0 then a else if x < nI n then b else a) = if inb x n then b else a := by
  rcases rng x hn with ⟨p, q⟩ | ⟨p, q, r⟩ | ⟨j, hj, rfl⟩
  · rw [if_pos p, if_neg q]
  · rw [if_neg p, if_neg (Int32.not_lt.mpr q), if_neg r]
  · rw [if_neg (nI_pos (by omega)), if_pos (nI_lt hj hn), if_pos (in_nI hj hn)]
theorem in_of {x : Int32} {n : Nat} (h : inb x n) (hn : n < 2147483648) : ∃ j, j < n ∧ x = nI j := vp_in_of h hn

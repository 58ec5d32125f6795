/-! what is enough, as the class works it out; the hours, in 64 bits, as both work them out -/
section HR
variable {m m' : Mem} {c t : Nat} {W : Wd}
theorem gives_0 (I : Inv W) {h : Nat} (hh : h < 8) (k : Nat) (e : ¬ whe W h 0 = 1) : givesN W h k = 0 := by
  have iH := I.H hh
  have d := I.d
  refine sN_0 (fun s hs => ?_)
  have := (iH.2.2.1 (by have := iH.1; omega)).2.2 s (by omega)
  rw [this]
  split <;> simp
theorem tons_0 (I : Inv W) {h : Nat} (hh : h < 8) (e : ¬ whe W h 0 = 1) : tonsN W h = 0 := by
  have iH := I.H hh
  have d := I.d
  refine sN_0 (fun s hs => ?_)
  have := (iH.2.2.1 (by have := iH.1; omega)).2.2 s (by omega)
  rw [this, Nat.zero_mul]
theorem Inv.gxy (I : Inv W) {g : Nat} (h : g < 4) : wgr W g 0 < 2147483648 ∧ wgr W g 1 < 2147483648 := by
  obtain ⟨-, a, b, -⟩ := I.G h
  omega
theorem le0 {a b : Nat} (ha : a < 1073741824) (hb : b < 1073741824) : (nI a - nI b ≤ 0) ↔ a ≤ b := by
  rw [Int32.le_iff_toInt_le, pk_sub_toInt ha hb]
  show (a : Int) - b ≤ 0 ↔ _
  omega
theorem nd_le (I : Inv W) (k : Nat) : ndN W k ≤ 60 := by
  have d := I.d
  unfold ndN needN
  split
  · split <;> omega
  · omega
theorem PL_isGroup_n (m : Mem) {g : Nat} (hg : g < 4) : PL_isGroup (nI g) m = some 1 := by
  rw [PL_isGroup_e, b2_t (in_nI hg (by decide))]
theorem PL_isHeap_n (m : Mem) {g : Nat} (hg : g < 8) : PL_isHeap (nI g) m = some 1 := by
  rw [PL_isHeap_e, b2_t (in_nI hg (by decide))]
def shI (W : Wd) (s g k : Nat) : Int32 := nI (peopleOnN W s (gpN W s g) * ndN W k) - nI (givenN W s (gpN W s g) k)
theorem Ic_shortOf_e (A : IcA m t W) (I : Inv W) {s g k : Nat} (hs : s < 2 ^ W 5) (hg : g < 4) (hk : k < 4) : Ic_shortOf t (nI s) (nI g) (nI k) m = some (shI W s g k) := by
  obtain ⟨A0, A2, A3, Ac, As, Ag, Ah, Av, An⟩ := A
  unfold Ic_shortOf
  rw [PL_isGroup_n m hg, bind_s, if_neg (show ¬ ((1 : Int32) = 0) by decide), if_neg (nI_pos (by omega)), if_pos (show nI k < 4 from nI_lt (b := 4) hk (by decide))]
  refine loop_sum 4 (fun j => if gpN W s j = gpN W s g then wgr W j 2 else 0) (fun a => nI (a * ndN W k) - nI (givenN W s (gpN W s g) k)) (fun j a hj ha => ?_) (fun a ha => ?_)
  · have xj := I.gxy hj
    have xg := I.gxy hg
    show Ic_shortOf_l24 t (nI s) (nI g) (nI k) (nI a) (nI j) m = _
    unfold Ic_shortOf_l24 Ic_shortOf_b62
    rw [if_neg (show ¬ (4 : Int32) ≤ nI j from nI_ge (b := 4) hj (by decide)), gd_in hj (by decide), gd_in hg (by decide), ix_nI (by omega), ix_nI (by omega), show rI m (t + 5) j = nI (gbN W j) from Ag j hj, show rI m (t + 5) g = nI (gbN W g) from Ag g hg, Ic_isOnePiece_e, bind_s, ite_b2]
    by_cases e : gpN W s j = gpN W s g
    · rw [if_pos ((one_piece I hs xj.1 xj.2 xg.1 xg.2).mpr e), gd_in hj (by decide), show rI m (t + 4) j = nI (wgr W j 2) from As j hj, nI_add, nI_1]
      simp only [e, if_true]
    · rw [if_neg (fun q => e ((one_piece I hs xj.1 xj.2 xg.1 xg.2).mp q)), nI_1]
      simp only [e, if_false]
      rfl
  · show Ic_shortOf_l24 t (nI s) (nI g) (nI k) (nI a) (nI 4) m = _
    unfold Ic_shortOf_l24
    rw [if_pos (show (4 : Int32) ≤ nI 4 from by decide)]
    have key : loop (fun s' : Int32 × Int32 => Ic_shortOf_l74 t (nI s) (nI g) (nI k) (nI a) s'.1 s'.2 m) (0, 0) = some (nI (a * ndN W k) - nI (givenN W s (gpN W s g) k)) := by
      refine loop_sum 8 (fun h => if whe W h 0 = 1 ∧ hpN W s h = gpN W s g then givesN W h k else 0) (fun b => nI (a * ndN W k) - nI b) (fun h b hh hb => ?_) (fun b hb => ?_)
      · have xh := I.xy hh
        have xg := I.gxy hg
        show Ic_shortOf_l74 t (nI s) (nI g) (nI k) (nI a) (nI b) (nI h) m = _
        unfold Ic_shortOf_l74 Ic_shortOf_b115
        rw [if_neg (show ¬ (8 : Int32) ≤ nI h from nI_ge (b := 8) hh (by decide)), gd_in hh (by decide), gd_in hg (by decide), ix_nI (by omega), ix_nI (by omega), ix_nI (by omega), show rI m (t + 6) h = nI (hbN W h) from Ah h hh, show rI m (t + 5) g = nI (gbN W g) from Ag g hg, Ic_isOnePiece_e, bind_s, ite_b2, gd_in hh (by decide), gd_in hk (by decide), show t + 7 + (1 + h) = t + 8 + h by omega, show rI m (t + 8 + h) k = nI (givesN W h k) from Av h k hh hk]
        by_cases q : whe W h 0 = 1
        · have eb : hbN W h = byN W (nI (whe W h 1)) (nI (whe W h 2)) := by
            unfold hbN hxI
            rw [if_pos q]
          rw [eb]
          by_cases e : hpN W s h = gpN W s g
          · rw [if_pos ((one_piece I hs (by omega) (by omega) xg.1 xg.2).mpr e), nI_add, nI_1]
            simp only [q, e, and_self, if_true]
          · rw [if_neg (fun w => e ((one_piece I hs (by omega) (by omega) xg.1 xg.2).mp w)), nI_1]
            simp only [e, and_false, if_false]
            rfl
        · rw [gives_0 I hh k q, nI_add, nI_1]
          simp only [ite_self, Nat.add_zero]
      · show Ic_shortOf_l74 t (nI s) (nI g) (nI k) (nI a) (nI b) (nI 8) m = _
        unfold Ic_shortOf_l74
        rw [if_pos (show (8 : Int32) ≤ nI 8 from by decide), gd_in hk (by decide), ix_nI (by omega), show rI m (t + 16) k = nI (ndN W k) from An k hk, pk_mul, up_some]
    rw [key, up_some]
theorem need1 (d p k : Nat) : p * needN d 1 k = needN d p k := by
  unfold needN
  split
  · rw [Nat.one_mul]
  · rw [Nat.mul_one]
theorem short_b (I : Inv W) (s g k : Nat) : peopleOnN W s (gpN W s g) * ndN W k ≤ 6720 ∧ givenN W s (gpN W s g) k ≤ 95040 :=
  ⟨Nat.le_trans (Nat.mul_le_mul (people_le I s (gpN W s g)) (nd_le I k)) (by decide), given_le I s _ k⟩
theorem people_one (W : Wd) (s : Nat) {g : Nat} (hg : g < 4) : wgr W g 2 ≤ peopleOnN W s (gpN W s g) := by
  have := sN_one (f := fun j => if gpN W s j = gpN W s g then wgr W j 2 else 0) hg
  simp only [if_true] at this
  exact this
/-- the two ways of asking what is enough -/
theorem enough_iff (I : Inv W) (s : Nat) : enoughN W s ↔ ∀ g, g < 4 → 0 < wgr W g 2 → ∀ k, k < 4 → peopleOnN W s (gpN W s g) * ndN W k ≤ givenN W s (gpN W s g) k := by
  constructor
  · intro h g hg hp k hk
    by_cases ht : toldN W k
    · have h1 := sN_z.mp h k hk
      unfold lacksN at h1
      rw [if_pos ht] at h1
      obtain ⟨g0, ⟨a1, a2, a3⟩, a4⟩ := pk_least (fun j => j < 4 ∧ gpN W s j = gpN W s g ∧ 0 < wgr W j 2) ⟨g, hg, rfl, hp⟩
      have h2 := sN_z.mp h1 g0 a1
      simp only [a3, if_true] at h2
      unfold lackAtN at h2
      have f0 : ¬ 0 < fstN W s g0 := by
        intro q
        obtain ⟨j, b1, b2, b3⟩ := fstN_iff.mp q
        exact a4 j b1 ⟨by omega, b2.trans a2, b3⟩
      have p0 := people_one W s a1
      rw [if_neg f0, if_neg (by omega)] at h2
      unfold lackP at h2
      rw [a2] at h2
      unfold ndN
      rw [if_pos ht, need1]
      omega
    · unfold ndN
      rw [if_neg ht]
      simp
  · intro h
    refine sN_0 (fun k hk => ?_)
    unfold lacksN
    by_cases ht : toldN W k
    · rw [if_pos ht]
      refine sN_0 (fun g hg => ?_)
      by_cases hp : 0 < wgr W g 2
      · simp only [hp, if_true]
        have := h g hg hp k hk
        unfold ndN at this
        rw [if_pos ht, need1] at this
        unfold lackAtN lackP
        split
        · rfl
        · split
          · rfl
          · omega
      · simp only [hp, if_false]
    · rw [if_neg ht]
def KV (P : Prop) (v : Int32) : Prop := (P ∧ v = 1) ∨ (¬ P ∧ v = 2)
theorem KV.cong {P Q : Prop} {v : Int32} (h : KV P v) (e : P ↔ Q) : KV Q v := by
  rcases h with ⟨a, b⟩ | ⟨a, b⟩
  · exact Or.inl ⟨e.mp a, b⟩
  · exact Or.inr ⟨fun q => a (e.mpr q), b⟩
def IcK (m : Mem) (t : Nat) (W : Wd) : Prop := ∀ s, s < 2 ^ W 5 → m.1 (t + 2) s = 0 ∨ m.1 (t + 2) s = if enoughN W s then 1 else 2
/-- nothing but the answers that are known is changed -/
def KO (t : Nat) (m m' : Mem) : Prop := (∀ a, a ≠ t + 2 → m'.1 a = m.1 a) ∧ m'.2 = m.2
theorem KO.refl : KO t m m := ⟨fun _ _ => rfl, rfl⟩
theorem KO.trans {m'' : Mem} (h : KO t m m') (k : KO t m' m'') : KO t m m'' := ⟨fun a q => (k.1 a q).trans (h.1 a q), k.2.trans h.2⟩
theorem KO.fp (h : KO t m m') : Fp (t + 2) (t + 3) m m' := fun a q => ⟨h.1 a (by omega), by rw [h.2]⟩
theorem IcA.ko (A : IcA m t W) (h : KO t m m') : IcA m' t W := by
  obtain ⟨A0, A2, A3, Ac, As, Ag, Ah, Av, An⟩ := A
  refine ⟨?_, ?_, ?_, fun k hk => ?_, fun k hk => ?_, fun k hk => ?_, fun k hk => ?_, fun a k ha hk => ?_, fun k hk => ?_⟩
  · rw [h.1 _ (by omega), A0]
  · rw [h.1 _ (by omega), A2]
  · rw [h.1 _ (by omega), A3]
  · rw [h.1 _ (by omega), Ac k hk]
  · rw [h.1 _ (by omega), As k hk]
  · rw [h.1 _ (by omega), Ag k hk]
  · rw [h.1 _ (by omega), Ah k hk]
  · rw [h.1 _ (by omega), Av a k ha hk]
  · rw [h.1 _ (by omega), An k hk]
theorem KO.w (s : Nat) (v : Int32) : KO t m (wI m (t + 2) s v) := ⟨fun a q => wI_1 m q v, rfl⟩
theorem Ic_isEnough_b82_e (K : IcK m t W) (I : Inv W) {s : Nat} (hs : s < 2 ^ W 5) (h0 : m.1 (t + 2) s ≠ 0) : Ic_isEnough_b82 t (nI s) m = some (b2 (enoughN W s), m) := by
  have h1 := set_lt I hs
  unfold Ic_isEnough_b82
  rw [gd_in (n := 128) (by omega) (by decide), ix_nI (by omega)]
  rcases K s hs with q | q
  · exact absurd q h0
  · rw [show rI m (t + 2) s = _ from q]
    by_cases e : enoughN W s
    · rw [if_pos e, if_pos rfl, b2_t e]
    · rw [if_neg e, if_neg (by decide), b2_f e]
theorem Ic_isEnough_e (A : IcA m t W) (K : IcK m t W) (I : Inv W) {s : Nat} (hs : s < 2 ^ W 5) : Ok (Ic_isEnough t (nI s) m) (fun r => r.1 = b2 (enoughN W s) ∧ KO t m r.2 ∧ IcK r.2 t W) := by
  have h1 := set_lt I hs
  have hp := p2le (k := W 5) (n := 7) I.d.2.2.2.2.1
  unfold Ic_isEnough
  rw [if_neg (nI_pos (by omega)), show rI m t 0 = nI (2 ^ W 5) from A.1, if_pos (nI_lt hs (by omega)), ix_nI (by omega)]
  refine Ok_gd (in_nI (n := 128) (by omega) (by decide)) ?_
  by_cases e0 : rI m (t + 2) s = 0
  · refine Ok_it e0 (Ok_gd (in_nI (n := 128) (by omega) (by decide)) (Ok_lt ?_))
    have others : ∀ x : Mem, (∀ j, j ≠ s → x.1 (t + 2) j = m.1 (t + 2) j) → (x.1 (t + 2) s = if enoughN W s then 1 else 2) → IcK x t W := by
      intro x h1 h2 j hj
      by_cases q : j = s
      · rw [q, h2]; exact Or.inr rfl
      · rw [h1 j q]; exact K j hj
    refine Ok_for 4 (fun i x => KO t m x ∧ (∀ j, j ≠ s → x.1 (t + 2) j = m.1 (t + 2) j) ∧ KV (∀ g, g < i → 0 < wgr W g 2 → ∀ k, k < 4 → peopleOnN W s (gpN W s g) * ndN W k ≤ givenN W s (gpN W s g) k) (x.1 (t + 2) s)) ⟨KO.w _ _, fun j hj => ?_, ?_⟩ (fun g x hg ⟨F, p, q⟩ => ?_) (fun x ⟨F, p, q⟩ => ?_)
    · rw [wI_at, if_neg hj]
    · rw [wI_self]
      exact Or.inl ⟨fun g hg => by omega, rfl⟩
    · obtain ⟨-, g0, g1, g2⟩ := I.G hg
      show Ok (Ic_isEnough_l32 t (nI s) (nI g) x) _
      unfold Ic_isEnough_l32
      rw [if_neg (show ¬ (4 : Int32) ≤ nI g from nI_ge (b := 4) hg (by decide))]
      by_cases hz : 0 < wgr W g 2
      · refine Ok_for 4 (fun i y => KO t m y ∧ (∀ j, j ≠ s → y.1 (t + 2) j = m.1 (t + 2) j) ∧ KV ((∀ g', g' < g → 0 < wgr W g' 2 → ∀ k, k < 4 → peopleOnN W s (gpN W s g') * ndN W k ≤ givenN W s (gpN W s g') k) ∧ (∀ k, k < i → peopleOnN W s (gpN W s g) * ndN W k ≤ givenN W s (gpN W s g) k)) (y.1 (t + 2) s)) ⟨F, p, ?_⟩ (fun k y hk ⟨F2, p2, q2⟩ => ?_) (fun y ⟨F2, p2, q2⟩ => ?_)
        · exact q.cong ⟨fun a => ⟨a, fun k hk => by omega⟩, fun a => a.1⟩
        · have A2 := A.ko F2
          have sb := short_b I s g k
          show Ok (Ic_isEnough_l39 t (nI s) (nI g) (nI k) y) _
          unfold Ic_isEnough_l39 Ic_isEnough_b70
          rw [if_neg (show ¬ (4 : Int32) ≤ nI k from nI_ge (b := 4) hk (by decide)), ix_nI (by omega), ix_nI (by omega), show rI y (t + 4) g = nI (wgr W g 2) from A2.2.2.2.2.1 g hg, if_neg (nI_nle hz (by omega)), Ic_shortOf_e A2 I hs hg hk, bind_s]
          refine Ok_gd (in_nI hg (by decide)) ?_
          unfold shI
          by_cases e : peopleOnN W s (gpN W s g) * ndN W k ≤ givenN W s (gpN W s g) k
          · refine Ok_it ((le0 (by omega) (by omega)).mpr e) (Ok_s ⟨_, by rw [nI_1], F2, p2, ?_⟩)
            refine q2.cong (and_congr Iff.rfl ⟨fun h j hj => ?_, fun h j hj => h j (by omega)⟩)
            rcases Nat.lt_or_ge j k with w | w
            · exact h j w
            · rw [show j = k by omega]; exact e
          · refine Ok_if (fun w => e ((le0 (by omega) (by omega)).mp w)) (Ok_gd (in_nI (n := 128) (by omega) (by decide)) (Ok_lt (Ok_s ⟨_, by rw [nI_1], F2.trans (KO.w _ _), fun j hj => ?_, ?_⟩)))
            · rw [wI_at, if_neg hj, p2 j hj]
            · rw [wI_self]
              exact Or.inr ⟨fun w => e (w.2 k (by omega)), rfl⟩
        · show Ok (Ic_isEnough_l39 t (nI s) (nI g) (nI 4) y) _
          unfold Ic_isEnough_l39 Ic_isEnough_b76
          rw [if_pos (show (4 : Int32) ≤ nI 4 from by decide), up_some]
          refine Ok_s ⟨_, rfl, _, by rw [nI_1], F2, p2, ?_⟩
          refine q2.cong ?_
          constructor
          · intro h j hj hp2
            rcases Nat.lt_or_ge j g with w | w
            · exact h.1 j w hp2
            · rw [show j = g by omega]; exact h.2
          · intro h
            exact ⟨fun j hj hp2 => h j (by omega) hp2, h g (by omega) hz⟩
      · have A2 := A.ko F
        refine Ok_e (x := .inl (nI (g + 1), x)) (loop_out ?_) ⟨_, rfl, F, p, ?_⟩
        · show Ic_isEnough_l39 t (nI s) (nI g) (nI 0) x = _
          unfold Ic_isEnough_l39 Ic_isEnough_b76
          rw [if_neg (show ¬ (4 : Int32) ≤ nI 0 by decide), gd_in hg (by decide), ix_nI (by omega), show rI x (t + 4) g = nI (wgr W g 2) from A2.2.2.2.2.1 g hg, if_pos (show nI (wgr W g 2) ≤ 0 from nI_le (b := 0) (by omega) (by decide)), up_some, nI_1]
        · refine q.cong ?_
          constructor
          · intro h j hj hp2
            rcases Nat.lt_or_ge j g with w | w
            · exact h j w hp2
            · exact absurd hp2 (by rw [show j = g by omega]; exact hz)
          · intro h j hj
            exact h j (by omega)
    · have q := q.cong (enough_iff I s).symm
      have K2 : IcK x t W := others x p (by
        rcases q with ⟨a, b⟩ | ⟨a, b⟩
        · rw [b, if_pos a]
        · rw [b, if_neg a])
      show Ok (Ic_isEnough_l32 t (nI s) (nI 4) x) _
      unfold Ic_isEnough_l32
      rw [if_pos (show (4 : Int32) ≤ nI 4 from by decide), Ic_isEnough_b82_e K2 I hs (by rcases q with ⟨a, b⟩ | ⟨a, b⟩ <;> rw [b] <;> decide), up_some]
      exact Ok_s ⟨_, rfl, rfl, F, K2⟩
  · refine Ok_if e0 ?_
    rw [Ic_isEnough_b82_e K I hs e0]
    exact Ok_s ⟨rfl, KO.refl, K⟩
end HR

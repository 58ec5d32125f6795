/-! the hours -/
theorem or_is {s k : Nat} : s ||| 2 ^ k = s ↔ s.testBit k = true := by
  constructor
  · intro h
    have := congrArg (fun z => z.testBit k) h
    simpa [Nat.testBit_or, Nat.testBit_two_pow_self] using this.symm
  · intro h
    apply Nat.eq_of_testBit_eq
    intro j
    rw [Nat.testBit_or, Nat.testBit_two_pow]
    by_cases q : k = j
    · subst q; simp [h]
    · simp [q]
theorem or_lt {s k n : Nat} (h : s < 2 ^ n) (hk : k < n) : s ||| 2 ^ k < 2 ^ n := Nat.or_lt_two_pow h (Nat.pow_lt_pow_right (by decide) hk)
/-- one crack, one set -/
def stH (od sh : Int64) (k : Nat) (p : Nat → Int64) (s : Nat) : Nat → Int64 := if s.testBit k = true then p else fun j =>
  if j = s ||| 2 ^ k then p (s ||| 2 ^ k) + (p s * od / 10000 - p (s ||| 2 ^ k) * sh / 100) else if j = s then p s + (p (s ||| 2 ^ k) * sh / 100 - p s * od / 10000) else p j
def hrS (od sh : Int64) (k : Nat) (p : Nat → Int64) : Nat → Nat → Int64
  | 0 => p
  | n + 1 => stH od sh k (hrS od sh k p n) n
def hrC (W : Wd) (p : Nat → Int64) : Nat → Nat → Int64
  | 0 => p
  | k + 1 => hrS (nI (oddsN W k)).toInt64 (nI (W 10)).toInt64 k (hrC W p k) (2 ^ W 5)
def outL (W : Wd) (p : Nat → Int64) (s : Nat) : Int64 := if enoughN W s then p s else 0
def lossL (W : Wd) (p : Nat → Int64) : Nat → Int64
  | 0 => 0
  | n + 1 => lossL W p n + if enoughN W n then 0 else p n
def pHr (W : Wd) (p : Nat → Int64) : Nat → Nat → Int64
  | 0 => p
  | n + 1 => outL W (hrC W (pHr W p n) (W 5))
def lostL (W : Wd) (p : Nat → Int64) : Nat → Int64
  | 0 => 0
  | n + 1 => lostL W p n + lossL W (hrC W (pHr W p n) (W 5)) (2 ^ W 5)
/-- of the long numbers of one place alone -/
def LO (t : Nat) (m m' : Mem) : Prop := m'.1 = m.1 ∧ ∀ a, a ≠ t → m'.2 a = m.2 a
theorem LO.refl {t : Nat} {m : Mem} : LO t m m := ⟨rfl, fun _ _ => rfl⟩
theorem LO.trans {t : Nat} {m m' m'' : Mem} (h : LO t m m') (k : LO t m' m'') : LO t m m'' := ⟨k.1.trans h.1, fun a q => (k.2 a q).trans (h.2 a q)⟩
theorem LO.w {t : Nat} {m : Mem} (s : Nat) (v : Int64) : LO t m (wL m t s v) := ⟨rfl, fun a q => wL_2 m q v⟩
theorem LO.fp {t : Nat} {m m' : Mem} (h : LO t m m') : Fp t (t + 1) m m' := fun a q => ⟨by rw [h.1], h.2 a (by omega)⟩
theorem stH_w {m : Mem} {P N : Nat} {p : Nat → Int64} {s k : Nat} {od sh : Int64} (h : ∀ j, j < N → m.2 P j = p j) (hs : s < N) (hw : s ||| 2 ^ k < N) (hb : ¬ s.testBit k = true) :
    ∀ j, j < N → (wL (wL m P s (m.2 P s + (m.2 P (s ||| 2 ^ k) * sh / 100 - m.2 P s * od / 10000))) P (s ||| 2 ^ k) ((wL m P s (m.2 P s + (m.2 P (s ||| 2 ^ k) * sh / 100 - m.2 P s * od / 10000))).2 P (s ||| 2 ^ k) + (m.2 P s * od / 10000 - m.2 P (s ||| 2 ^ k) * sh / 100))).2 P j = stH od sh k p s j := by
  intro j hj
  have hne : s ||| 2 ^ k ≠ s := fun q => hb (or_is.mp q)
  unfold stH
  rw [if_neg hb, wL_at, wL_at, wL_at, if_neg hne, h _ hs, h _ hw]
  by_cases e : j = s ||| 2 ^ k
  · rw [if_pos e, if_pos e]
  · rw [if_neg e, if_neg e]
    by_cases e2 : j = s
    · rw [if_pos e2, if_pos e2]
    · rw [if_neg e2, if_neg e2, h j hj]
section LS
variable {m m' : Mem} {c t : Nat} {W : Wd}
theorem IcA.fp (A : IcA m t W) (h : ∀ a, t ≤ a → a < t + 17 → a ≠ t + 1 → a ≠ t + 2 → m'.1 a = m.1 a) : IcA m' t W := by
  obtain ⟨A0, A2, A3, Ac, As, Ag, Ah, Av, An⟩ := A
  refine ⟨?_, ?_, ?_, fun k hk => ?_, fun k hk => ?_, fun k hk => ?_, fun k hk => ?_, fun a k ha hk => ?_, fun k hk => ?_⟩
  · rw [h _ (by omega) (by omega) (by omega) (by omega), A0]
  · rw [h _ (by omega) (by omega) (by omega) (by omega), A2]
  · rw [h _ (by omega) (by omega) (by omega) (by omega), A3]
  · rw [h _ (by omega) (by omega) (by omega) (by omega), Ac k hk]
  · rw [h _ (by omega) (by omega) (by omega) (by omega), As k hk]
  · rw [h _ (by omega) (by omega) (by omega) (by omega), Ag k hk]
  · rw [h _ (by omega) (by omega) (by omega) (by omega), Ah k hk]
  · rw [h _ (by omega) (by omega) (by omega) (by omega), Av a k ha hk]
  · rw [h _ (by omega) (by omega) (by omega) (by omega), An k hk]
theorem MW.fp (hW : MW m W) {lo hi : Nat} (F : Fp lo hi m m') (q : 299 < lo ∨ hi ≤ 299) : MW m' W := fun i hi => by rw [F.a (by omega), hW i hi]
theorem Ic_passHour_e (A : IcA m t W) (I : Inv W) {p : Nat → Int64} (hp : ∀ s, s < 2 ^ W 5 → m.2 (t + 1) s = p s) : Ok (Ic_passHour t m) (fun x => LO (t + 1) m x ∧ ∀ s, s < 2 ^ W 5 → x.2 (t + 1) s = hrC W p (W 5) s) := by
  have d := I.d
  have h7 := p2le (k := W 5) (n := 7) (by omega)
  have h128 : (2 : Nat) ^ 7 = 128 := by decide
  unfold Ic_passHour
  refine Ok_for (W 5) (fun k x => LO (t + 1) m x ∧ ∀ s, s < 2 ^ W 5 → x.2 (t + 1) s = hrC W p k s) ⟨LO.refl, hp⟩ (fun k x hk ⟨L, q⟩ => ?_) (fun x ⟨L, q⟩ => ?_)
  · have hk2 : 2 ^ k < 2 ^ W 5 := Nat.pow_lt_pow_right (by decide) hk
    have A2 : IcA x t W := A.fp (fun a _ _ _ _ => by rw [L.1])
    show Ok (Ic_passHour_l2 t (nI k) x) _
    unfold Ic_passHour_l2
    rw [if_neg (show ¬ (7 : Int32) ≤ nI k from nI_ge (b := 7) (by omega) (by decide)), show rI x t 0 = nI (2 ^ W 5) from A2.1, shl1 (by omega), if_neg (nI_ge hk2 (by omega))]
    refine Ok_for (2 ^ W 5) (fun i y => LO (t + 1) m y ∧ ∀ s, s < 2 ^ W 5 → y.2 (t + 1) s = hrS (nI (oddsN W k)).toInt64 (nI (W 10)).toInt64 k (hrC W p k) i s) ⟨L, q⟩ (fun i y hi ⟨L2, q2⟩ => ?_) (fun y ⟨L2, q2⟩ => ?_)
    · have A3 : IcA y t W := A.fp (fun a _ _ _ _ => by rw [L2.1])
      have hw := or_lt hi hk
      show Ok (Ic_passHour_l20 t (nI k) (nI i) y) _
      unfold Ic_passHour_l20 Ic_passHour_b113
      rw [show rI y t 0 = nI (2 ^ W 5) from A3.1, if_neg (nI_ge hi (by omega)), shl1 (by omega), nI_or]
      by_cases hb : i.testBit k = true
      · refine Ok_it (congrArg nI (or_is.mpr hb)) (Ok_s ⟨_, by rw [nI_1], L2, fun s hs => ?_⟩)
        rw [q2 s hs]
        show _ = stH _ _ _ _ _ _
        unfold stH
        rw [if_pos hb]
      · refine Ok_if (fun z => hb (or_is.mp ((nI_eq (by omega) (by omega)).mp z))) (Ok_if (nI_ge hw (by omega)) (Ok_gd (in_nI (n := 128) (by omega) (by decide)) (Ok_gd (in_nI (n := 7) (by omega) (by decide)) (Ok_gd (in_nI (n := 128) (by omega) (by decide)) (Ok_gd (in_nI (n := 128) (by omega) (by decide)) (Ok_gd (in_nI (n := 128) (by omega) (by decide)) (Ok_lt (Ok_gd (in_nI (n := 128) (by omega) (by decide)) (Ok_gd (in_nI (n := 128) (by omega) (by decide)) (Ok_lt (Ok_s ⟨_, by rw [nI_1], (L2.trans (LO.w _ _)).trans (LO.w _ _), ?_⟩)))))))))))
        rw [ix_nI (by omega), ix_nI (by omega), ix_nI (by omega), show rI y t 3 = nI (W 10) from A3.2.2.1, show rI y (t + 3) k = nI (oddsN W k) from A3.2.2.2.1 k hk]
        exact stH_w q2 hi hw hb
    · have A3 : IcA y t W := A.fp (fun a _ _ _ _ => by rw [L2.1])
      show Ok (Ic_passHour_l20 t (nI k) (nI (2 ^ W 5)) y) _
      unfold Ic_passHour_l20
      rw [show rI y t 0 = nI (2 ^ W 5) from A3.1, if_pos (nI_le (Nat.le_refl _) (by omega)), up_some]
      exact Ok_s ⟨_, rfl, _, by rw [nI_1], L2, q2⟩
  · have A2 : IcA x t W := A.fp (fun a _ _ _ _ => by rw [L.1])
    show Ok (Ic_passHour_l2 t (nI (W 5)) x) _
    unfold Ic_passHour_l2
    rw [show rI x t 0 = nI (2 ^ W 5) from A2.1]
    by_cases h : W 5 = 7
    · rw [if_pos (show (7 : Int32) ≤ nI (W 5) from nI_le (a := 7) (by omega) (by omega)), up_some]
      exact Ok_s ⟨_, rfl, L, q⟩
    · rw [if_neg (show ¬ (7 : Int32) ≤ nI (W 5) from nI_ge (b := 7) (by omega) (by decide)), shl1 (by omega), if_pos (nI_le (Nat.le_refl _) (by omega)), up_some]
      exact Ok_s ⟨_, rfl, L, q⟩
/-- parts and known answers alone -/
def TK (t : Nat) (m m' : Mem) : Prop := (∀ a, a ≠ t + 2 → m'.1 a = m.1 a) ∧ ∀ a, a ≠ t + 1 → m'.2 a = m.2 a
theorem TK.refl : TK t m m := ⟨fun _ _ => rfl, fun _ _ => rfl⟩
theorem TK.trans {m'' : Mem} (h : TK t m m') (k : TK t m' m'') : TK t m m'' := ⟨fun a q => (k.1 a q).trans (h.1 a q), fun a q => (k.2 a q).trans (h.2 a q)⟩
theorem TK.fp (h : TK t m m') : Fp (t + 1) (t + 3) m m' := fun a q => ⟨h.1 a (by omega), h.2 a (by omega)⟩
theorem KO.tk (h : KO t m m') : TK t m m' := ⟨h.1, fun a _ => by rw [h.2]⟩
theorem LO.tk (h : LO (t + 1) m m') : TK t m m' := ⟨fun a _ => by rw [h.1], h.2⟩
theorem IcA.tk (A : IcA m t W) (h : TK t m m') : IcA m' t W := A.fp (fun a _ _ _ q => h.1 a q)
theorem IcK.lo (K : IcK m t W) (h : LO (t + 1) m m') : IcK m' t W := fun s hs => by rw [h.1]; exact K s hs
theorem Ic_takeOut_e (A : IcA m t W) (K : IcK m t W) (I : Inv W) {p : Nat → Int64} (hp : ∀ s, s < 2 ^ W 5 → m.2 (t + 1) s = p s) : Ok (Ic_takeOutLost t m) (fun r => r.1 = lossL W p (2 ^ W 5) ∧ TK t m r.2 ∧ IcK r.2 t W ∧ ∀ s, s < 2 ^ W 5 → r.2.2 (t + 1) s = outL W p s) := by
  have d := I.d
  have h7 := p2le (k := W 5) (n := 7) (by omega)
  have h128 : (2 : Nat) ^ 7 = 128 := by decide
  unfold Ic_takeOutLost
  refine Ok_loop (2 ^ W 5) (fun i x => (lossL W p i, nI i, x)) (fun i x => TK t m x ∧ IcK x t W ∧ ∀ s, s < 2 ^ W 5 → x.2 (t + 1) s = if s < i then outL W p s else p s) m rfl ⟨TK.refl, K, fun s hs => by rw [if_neg (by omega), hp s hs]⟩ (fun i x hi ⟨T, K, q⟩ => ?_) (fun x ⟨T, K, q⟩ => ?_)
  · have A2 := A.tk T
    have qi : x.2 (t + 1) i = p i := by rw [q i hi, if_neg (by omega)]
    show Ok (Ic_takeOutLost_l4 t (lossL W p i) (nI i) x) _
    unfold Ic_takeOutLost_l4 Ic_takeOutLost_b47
    rw [show rI x t 0 = nI (2 ^ W 5) from A2.1, if_neg (nI_ge hi (by omega)), ix_nI (by omega), show rL x (t + 1) i = p i from qi]
    refine Ok_gd (in_nI (n := 128) (by omega) (by decide)) ?_
    have keep : (p i = 0 ∨ enoughN W i) → lossL W p (i + 1) = lossL W p i ∧ ∀ y : Mem, y.2 = x.2 → ∀ s, s < 2 ^ W 5 → y.2 (t + 1) s = if s < i + 1 then outL W p s else p s := by
      intro w
      refine ⟨?_, fun y hy s hs => ?_⟩
      · show lossL W p i + (if enoughN W i then 0 else p i) = _
        by_cases e : enoughN W i
        · rw [if_pos e, Int64.add_zero]
        · rw [if_neg e, w.resolve_right e, Int64.add_zero]
      · rw [hy, q s hs]
        rcases Nat.lt_trichotomy s i with z | z | z
        · rw [if_pos z, if_pos (by omega)]
        · subst z
          rw [if_neg (by omega), if_pos (by omega)]
          unfold outL
          by_cases e : enoughN W s
          · rw [if_pos e]
          · rw [if_neg e, w.resolve_right e]
        · rw [if_neg (by omega), if_neg (by omega)]
    by_cases e0 : p i = 0
    · obtain ⟨k1, k2⟩ := keep (Or.inl e0)
      refine Ok_it e0 (Ok_s ⟨x, by rw [k1, nI_1], T, K, k2 x rfl⟩)
    · refine Ok_if e0 (Ok_bind (Ic_isEnough_e A2 K I hi) ?_)
      rintro ⟨r, y⟩ ⟨hr, k, K2⟩
      simp only at hr k K2 ⊢
      rw [hr, ite_b2]
      by_cases e : enoughN W i
      · obtain ⟨k1, k2⟩ := keep (Or.inr e)
        rw [if_pos e]
        exact Ok_s ⟨y, by rw [k1, nI_1], T.trans k.tk, K2, k2 y k.2⟩
      · rw [if_neg e]
        refine Ok_gd (in_nI (n := 128) (by omega) (by decide)) (Ok_gd (in_nI (n := 128) (by omega) (by decide)) (Ok_lt (Ok_s ⟨wL y (t + 1) i 0, ?_, (T.trans k.tk).trans (LO.w _ _).tk, K2.lo (LO.w _ _), fun s hs => ?_⟩)))
        · have : rL y (t + 1) i = p i := by rw [show rL y (t + 1) i = rL x (t + 1) i by rw [show rL y (t + 1) i = y.2 (t + 1) i from rfl, k.2]]; exact qi
          rw [this, nI_1]
          show _ = Sum.inl (lossL W p i + (if enoughN W i then 0 else p i), _, _)
          rw [if_neg e]
        · rw [wL_at]
          by_cases z : s = i
          · rw [if_pos z, if_pos (by omega), z]
            unfold outL
            rw [if_neg e]
          · rw [if_neg z, k.2, q s hs]
            rcases Nat.lt_or_ge s i with w | w
            · rw [if_pos w, if_pos (by omega)]
            · rw [if_neg (by omega), if_neg (by omega)]
  · have A2 := A.tk T
    show Ok (Ic_takeOutLost_l4 t (lossL W p (2 ^ W 5)) (nI (2 ^ W 5)) x) _
    unfold Ic_takeOutLost_l4
    rw [show rI x t 0 = nI (2 ^ W 5) from A2.1, if_pos (nI_le (Nat.le_refl _) (by omega)), up_some]
    exact Ok_s ⟨_, rfl, rfl, T, K, fun s hs => by rw [q s hs, if_pos hs]⟩
theorem Ic_lostIn_e (R : CR m c W) (I : Inv W) (ht : c + 40 ≤ t ∨ t + 17 ≤ c) {n : Nat} (hn : n < 2147483648) : Ok (Ic_lostIn t c (nI n) m) (fun r => r.1 = lostL W (openL W) n ∧ Fp t (t + 17) m r.2) := by
  unfold Ic_lostIn
  refine Ok_bind (Ic_look_e R I ht) (fun x ⟨F, A, hp, hk⟩ => ?_)
  refine Ok_loop n (fun i x => (lostL W (openL W) i, nI i, x)) (fun i y => TK t x y ∧ IcK y t W ∧ ∀ s, s < 2 ^ W 5 → y.2 (t + 1) s = pHr W (openL W) i s) x rfl ⟨TK.refl, fun s hs => Or.inl (hk s hs), hp⟩ (fun i y hi ⟨T, K, q⟩ => ?_) (fun y ⟨T, K, q⟩ => ?_)
  · show Ok (Ic_lostIn_l10 t c (nI n) (lostL W (openL W) i) (nI i) y) _
    unfold Ic_lostIn_l10
    rw [if_neg (nI_ge hi hn)]
    have A2 := A.tk T
    refine Ok_bind (Ic_passHour_e A2 I q) (fun z ⟨L, q2⟩ => ?_)
    refine Ok_bind (Ic_takeOut_e (A2.tk L.tk) (K.lo L) I q2) (fun r ⟨r1, T2, K2, q3⟩ => ?_)
    refine Ok_s ⟨r.2, ?_, (T.trans L.tk).trans T2, K2, q3⟩
    rw [r1, nI_1]
    rfl
  · show Ok (Ic_lostIn_l10 t c (nI n) (lostL W (openL W) n) (nI n) y) _
    unfold Ic_lostIn_l10
    rw [if_pos (nI_le (Nat.le_refl _) hn), up_some]
    exact Ok_s ⟨_, rfl, rfl, F.trans (T.fp.wide (by omega) (by omega))⟩
end LS

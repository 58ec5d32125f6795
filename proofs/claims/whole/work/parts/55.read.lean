/-! reading a tape: the next token, on both sides -/
section READ
theorem b255 (v : Int32) : ∃ c, c < 256 ∧ v &&& 255 = nI c := by
  refine ⟨(v.toBitVec &&& 255#32).toNat, ?_, ?_⟩
  · rw [BitVec.toNat_and]
    have : v.toBitVec.toNat &&& (255#32 : BitVec 32).toNat ≤ (255#32 : BitVec 32).toNat := Nat.and_le_right
    have e : (255#32 : BitVec 32).toNat = 255 := by decide
    omega
  · apply Int32.toBitVec_inj.mp
    show v.toBitVec &&& 255#32 = BitVec.ofNat 32 (v.toBitVec &&& 255#32).toNat
    rw [BitVec.ofNat_toNat, BitVec.setWidth_eq]
/-- the byte at a place; behind the end there is none -/
def bt (L : Nat) (T : Nat → Int32) (i : Nat) : Int32 := if i < L then T i &&& 255 else -1
def kdB (v : Int32) : Nat := if v = -1 then 0 else if 97 ≤ v ∧ v ≤ 122 then 1 else if 48 ≤ v ∧ v ≤ 57 then 2 else if v = 59 then 3 else 4
def cnN (P : Nat → Prop) [DecidablePred P] : Nat → Nat → Nat
  | 0, _ => 0
  | k + 1, i => if P i then cnN P k (i + 1) + 1 else 0
theorem cn_le {P : Nat → Prop} [DecidablePred P] : ∀ k i, cnN P k i ≤ k
  | 0, _ => Nat.le_refl _
  | k + 1, i => by
    have := cn_le (P := P) k (i + 1)
    unfold cnN
    split <;> omega
theorem cn_in {P : Nat → Prop} [DecidablePred P] : ∀ k i j, j < cnN P k i → P (i + j)
  | 0, _, j, h => absurd h (Nat.not_lt_zero _)
  | k + 1, i, j, h => by
    unfold cnN at h
    by_cases q : P i
    · rw [if_pos q] at h
      by_cases z : j = 0
      · rw [z]; exact q
      · have := cn_in (P := P) k (i + 1) (j - 1) (by omega)
        rw [show i + 1 + (j - 1) = i + j by omega] at this
        exact this
    · rw [if_neg q] at h
      omega
theorem cn_out {P : Nat → Prop} [DecidablePred P] : ∀ k i, (∀ j, i + k ≤ j → ¬ P j) → ¬ P (i + cnN P k i)
  | 0, i, h => h _ (Nat.le_refl _)
  | k + 1, i, h => by
    unfold cnN
    by_cases q : P i
    · rw [if_pos q]
      have := cn_out k (i + 1) (fun j hj => h j (by omega))
      rw [show i + (cnN P k (i + 1) + 1) = i + 1 + cnN P k (i + 1) by omega]
      exact this
    · rw [if_neg q]
      exact q
section TK
variable {L : Nat} {T : Nat → Int32}
theorem bt_o {i : Nat} (h : L ≤ i) : bt L T i = -1 := if_neg (by omega)
theorem bt_i {i : Nat} (h : i < L) : bt L T i = T i &&& 255 := if_pos h
theorem bt_n {i : Nat} (h : i < L) : ∃ c, c < 256 ∧ bt L T i = nI c := by
  rw [bt_i h]
  exact b255 _
theorem m1_ne {c : Nat} (h : c < 2147483648) : nI c ≠ -1 := fun z => nI_pos h (by rw [z]; decide)
theorem bt_m {i : Nat} : bt L T i = -1 ↔ L ≤ i := by
  constructor
  · intro h
    apply Classical.byContradiction
    intro q
    obtain ⟨c, hc, e⟩ := bt_n (L := L) (T := T) (i := i) (by omega)
    rw [e] at h
    exact m1_ne (by omega) h
  · exact bt_o
abbrev blkP (L : Nat) (T : Nat → Int32) (i : Nat) : Prop := bt L T i = 32 ∨ bt L T i = 10
abbrev tkA (L : Nat) (T : Nat → Int32) (b : Nat) : Nat := b + cnN (blkP L T) (L - b) b
abbrev tkT (L : Nat) (T : Nat → Int32) (a : Nat) : Nat := kdB (bt L T a)
def tkR (L : Nat) (T : Nat → Int32) (a : Nat) : Nat := cnN (fun i => tkT L T i = tkT L T a) (L - a) a
def tkE (L : Nat) (T : Nat → Int32) (a : Nat) : Nat := if tkT L T a = 0 then a else if tkT L T a = 1 ∨ tkT L T a = 2 then a + tkR L T a else a + 1
def nmN (L : Nat) (T : Nat → Int32) (C a : Nat) : Nat → Nat
  | 0 => 0
  | j + 1 => min C (10 * nmN L T C a j + (ix (bt L T (a + j)) - 48))
theorem nm_le (L : Nat) (T : Nat → Int32) (C a : Nat) : ∀ j, nmN L T C a j ≤ C
  | 0 => Nat.zero_le _
  | j + 1 => Nat.min_le_left _ _
/-- the two clips -/
theorem nm_two (L : Nat) (T : Nat → Int32) (a : Nat) : ∀ j, nmN L T 99999 a j = min 99999 (nmN L T 1000000 a j)
  | 0 => rfl
  | j + 1 => by
    have := nm_two L T a j
    show min 99999 (10 * nmN L T 99999 a j + _) = min 99999 (min 1000000 (10 * nmN L T 1000000 a j + _))
    omega
theorem kd_0 {v : Int32} (h : kdB v = 0) : v = -1 := by
  unfold kdB at h
  by_cases q : v = -1
  · exact q
  · rw [if_neg q] at h
    split at h
    · omega
    · split at h
      · omega
      · split at h <;> omega
theorem kd_1 {v : Int32} : kdB v = 1 ↔ 97 ≤ v ∧ v ≤ 122 := by
  constructor
  · intro h
    unfold kdB at h
    split at h
    · omega
    · split at h
      · assumption
      · split at h
        · omega
        · split at h <;> omega
  · intro h
    unfold kdB
    rw [if_neg (fun z => by rw [z] at h; exact absurd h.1 (by decide)), if_pos h]
theorem kd_2 {v : Int32} : kdB v = 2 ↔ 48 ≤ v ∧ v ≤ 57 := by
  constructor
  · intro h
    unfold kdB at h
    split at h
    · omega
    · split at h
      · omega
      · split at h
        · assumption
        · split at h <;> omega
  · intro h
    unfold kdB
    rw [if_neg (fun z => by rw [z] at h; exact absurd h.1 (by decide)), if_neg (fun z => absurd (Int32.le_trans z.1 h.2) (by decide)), if_pos h]
theorem Re_tokenOf_e (v : Int32) (m : Mem) : Re_tokenOf v m = some (nI (kdB v)) := by
  have b35 : Re_tokenOf_b35 v m = some (nI (if v = 59 then 3 else 4)) := by
    unfold Re_tokenOf_b35
    split <;> rfl
  have b21 : Re_tokenOf_b21 v m = some (nI (if 48 ≤ v ∧ v ≤ 57 then 2 else if v = 59 then 3 else 4)) := by
    unfold Re_tokenOf_b21
    rw [b35]
    by_cases h : v < 48
    · rw [if_pos h, if_neg (show ¬ (48 ≤ v ∧ v ≤ 57) from fun z => Int32.not_lt.mpr z.1 h)]
    · rw [if_neg h]
      by_cases k : 57 < v
      · rw [if_pos k, if_neg (show ¬ (48 ≤ v ∧ v ≤ 57) from fun z => Int32.not_lt.mpr z.2 k)]
      · rw [if_neg k, if_pos ⟨Int32.not_lt.mp h, Int32.not_lt.mp k⟩]
        rfl
  unfold Re_tokenOf kdB
  rw [b21]
  by_cases q : v = -1
  · rw [if_pos q, if_pos q]
    rfl
  · rw [if_neg q, if_neg q]
    by_cases h : v < 97
    · rw [if_pos h, if_neg (show ¬ (97 ≤ v ∧ v ≤ 122) from fun z => Int32.not_lt.mpr z.1 h)]
    · rw [if_neg h]
      by_cases k : 122 < v
      · rw [if_pos k, if_neg (show ¬ (97 ≤ v ∧ v ≤ 122) from fun z => Int32.not_lt.mpr z.2 k)]
      · rw [if_neg k, if_pos ⟨Int32.not_lt.mp h, Int32.not_lt.mp k⟩]
        rfl
theorem dg_e {i : Nat} (h : tkT L T i = 2) : i < L ∧ bt L T i = nI (48 + (ix (bt L T i) - 48)) ∧ ix (bt L T i) - 48 ≤ 9 := by
  have k := kd_2.mp h
  have hi : i < L := by
    apply Classical.byContradiction
    intro q
    rw [bt_o (by omega)] at k
    exact absurd k.1 (by decide)
  obtain ⟨c, hc, e⟩ := bt_n (T := T) hi
  rw [e] at k ⊢
  have k1 := (nI_leI (a := 48) (by decide) (by omega)).mp k.1
  have k2 := (nI_leI (b := 57) (by omega) (by decide)).mp k.2
  rw [ix_nI (by omega)]
  refine ⟨hi, ?_, by omega⟩
  rw [show 48 + (c - 48) = c by omega]
theorem lt_in {i : Nat} (h : tkT L T i ≠ 0) : i < L := by
  apply Classical.byContradiction
  intro q
  apply h
  unfold tkT
  rw [bt_o (by omega)]
  rfl
theorem tkR_le (L : Nat) (T : Nat → Int32) (a : Nat) : tkR L T a ≤ L - a := cn_le _ _
theorem tkR_in {a j : Nat} (h : j < tkR L T a) : tkT L T (a + j) = tkT L T a := cn_in (P := fun i => tkT L T i = tkT L T a) _ _ _ h
theorem tkR_out {a : Nat} (h : tkT L T a ≠ 0) (ha : a ≤ L) : tkT L T (a + tkR L T a) ≠ tkT L T a := cn_out (P := fun i => tkT L T i = tkT L T a) (L - a) a (fun j hj z => h (z ▸ by
  unfold tkT
  rw [bt_o (by omega)]
  rfl))
theorem tkA_le {b : Nat} (hb : b ≤ L) : b ≤ tkA L T b ∧ tkA L T b ≤ L := by
  have := cn_le (P := blkP L T) (L - b) b
  unfold tkA
  omega
theorem tkA_in {b i : Nat} (h : i < cnN (blkP L T) (L - b) b) : blkP L T (b + i) := cn_in _ _ _ h
theorem tkA_out {b : Nat} (hb : b ≤ L) : ¬ blkP L T (tkA L T b) := cn_out (P := blkP L T) (L - b) b (fun j hj z => by
  unfold blkP at z
  rw [bt_o (by omega)] at z
  exact absurd z (by decide))
theorem tkE_le {a : Nat} (ha : a ≤ L) : a ≤ tkE L T a ∧ tkE L T a ≤ L := by
  have r := tkR_le L T a
  unfold tkE
  by_cases h : tkT L T a = 0
  · rw [if_pos h]; omega
  · have := lt_in h
    rw [if_neg h]
    split <;> omega
end TK
/-! the class's reader -/
def TB (L : Nat) (T : Nat → Int32) : Prop := L ≤ 1600 ∧ ∀ i, i < 1600 → -128 ≤ (T i).toInt ∧ (T i).toInt ≤ 127
def CK (L : Nat) (T : Nat → Int32) (x : Mem) : Prop := x.1 2 1 = nI L ∧ ∀ i, i < 1600 → x.1 3 i = T i
def MK (L : Nat) (T : Nat → Int32) (y : Mem) : Prop := y.1 298 7 = nI L ∧ ∀ i, i < 1600 → y.1 302 i = T i
section RE
variable {L : Nat} {T : Nat → Int32} {x y : Mem} {a b : Nat}
theorem Re_byteAt_e (hT : TB L T) (K : CK L T x) {i : Nat} (hi : i < 2147483648) : Re_byteAt 2 (nI i) x = some (bt L T i) := by
  have h0 := hT.1
  unfold Re_byteAt
  rw [if_neg (nI_pos hi), show rI x 2 1 = nI L from K.1]
  by_cases h : i < L
  · rw [if_neg (nI_ge h (by omega)), if_neg (show ¬ Int32.ofNat 1600 ≤ nI i from nI_ge (b := 1600) (by omega) (by decide)), gd_in (by omega) (by decide), ix_nI hi, bt_i h]
    exact congrArg (fun v => some (v &&& 255)) (K.2 i (by omega))
  · rw [if_pos (nI_le (by omega) hi), bt_o (by omega)]
def NX (x x' : Mem) : Prop := (∀ j, j < 5 ∨ 8 < j → x'.1 2 j = x.1 2 j) ∧ Fp 2 3 x x'
theorem NX.refl : NX x x := ⟨fun _ _ => rfl, Fp.refl⟩
theorem NX.trans {x' x'' : Mem} (h : NX x x') (k : NX x' x'') : NX x x'' := ⟨fun j hj => (k.1 j hj).trans (h.1 j hj), h.2.trans k.2⟩
theorem NX.w {i : Nat} (h1 : 5 ≤ i) (h2 : i ≤ 8) (v : Int32) : NX x (wI x 2 i v) := ⟨fun j hj => by rw [wI_at, if_neg (by omega)], Fp.wI (by omega) (by omega) _ _⟩
theorem CK.nx (K : CK L T x) {x' : Mem} (h : NX x x') : CK L T x' := ⟨by rw [h.1 1 (by omega), K.1], fun i hi => by rw [(h.2 3 (by omega)).1, K.2 i hi]⟩
theorem Re_tok (hT : TB L T) (K : CK L T x) (h5 : x.1 2 5 = nI a) (h7 : x.1 2 7 = nI (tkT L T a)) (h8 : x.1 2 8 = nI 0) (ha : a ≤ L) :
    Ok (loop (fun s : Mem => Re_next_l86 2 s) x) (fun x' => x'.1 2 5 = nI (tkE L T a) ∧ x'.1 2 6 = x.1 2 6 ∧ x'.1 2 7 = nI (tkT L T a) ∧ (tkT L T a = 2 → x'.1 2 8 = nI (nmN L T 1000000 a (tkE L T a - a))) ∧ NX x x') := by
  have hL := hT.1
  have step : ∀ i z, a + i < L → tkT L T (a + i) = tkT L T a → CK L T z → z.1 2 5 = nI (a + i) → z.1 2 7 = nI (tkT L T a) → (tkT L T a = 2 → z.1 2 8 = nI (nmN L T 1000000 a i)) →
      ∃ z', Re_next_l86 2 z = (if tkT L T a = 1 ∨ tkT L T a = 2 then some (Sum.inl z') else some (Sum.inr z')) ∧ z'.1 2 5 = nI (a + (i + 1)) ∧ z'.1 2 6 = z.1 2 6 ∧ z'.1 2 7 = nI (tkT L T a) ∧ (tkT L T a = 2 → z'.1 2 8 = nI (nmN L T 1000000 a (i + 1))) ∧ NX z z' := by
    intro i z hi ht K5 h5 h7 h8
    have t4 : tkT L T a ≤ 4 := by
      unfold tkT kdB
      split
      · omega
      · split
        · omega
        · split
          · omega
          · split <;> omega
    have b151 : ∀ w, NX z w → w.1 2 5 = nI (a + i) → w.1 2 6 = z.1 2 6 → w.1 2 7 = nI (tkT L T a) → (tkT L T a = 2 → w.1 2 8 = nI (nmN L T 1000000 a (i + 1))) → ∃ z', Re_next_b151 2 w = (if tkT L T a = 1 ∨ tkT L T a = 2 then some (Sum.inl z') else some (Sum.inr z')) ∧ z'.1 2 5 = nI (a + (i + 1)) ∧ z'.1 2 6 = z.1 2 6 ∧ z'.1 2 7 = nI (tkT L T a) ∧ (tkT L T a = 2 → z'.1 2 8 = nI (nmN L T 1000000 a (i + 1))) ∧ NX z z' := by
      intro w n w5 w6 w7 w8
      have e7 : rI (wI w 2 5 (rI w 2 5 + 1)) 2 7 = nI (tkT L T a) := by
        show (wI w 2 5 (rI w 2 5 + 1)).1 2 7 = _
        rw [wI_at, if_neg (by decide), w7]
      refine ⟨wI w 2 5 (rI w 2 5 + 1), ?_, ?_, ?_, e7, fun q => ?_, n.trans (NX.w (by omega) (by omega) _)⟩
      · unfold Re_next_b151 lt
        dsimp only
        rw [e7]
        by_cases q1 : tkT L T a = 1
        · rw [if_pos (by rw [q1]; rfl), if_pos (Or.inl q1)]
        · rw [if_neg (show ¬ nI (tkT L T a) = (1 : Int32) from fun v => q1 ((nI_eq (b := 1) (by omega) (by decide)).mp v))]
          by_cases q2 : tkT L T a = 2
          · rw [if_pos (by rw [q2]; rfl), if_pos (Or.inr q2)]
          · rw [if_neg (show ¬ nI (tkT L T a) = (2 : Int32) from fun v => q2 ((nI_eq (b := 2) (by omega) (by decide)).mp v)), if_neg (by omega), up_some]
      · rw [wI_self, show rI w 2 5 = nI (a + i) from w5, nI_1, Nat.add_assoc]
      · rw [wI_at, if_neg (by decide), w6]
      · rw [wI_at, if_neg (by decide), w8 q]
    unfold Re_next_l86
    rw [show rI z 2 1 = nI L from K5.1, show rI z 2 5 = nI (a + i) from h5, if_neg (nI_ge hi (by omega)), Re_byteAt_e hT K5 (by omega), bind_s, Re_tokenOf_e, bind_s, show rI z 2 7 = nI (tkT L T a) from h7, if_pos (congrArg nI ht)]
    by_cases q : tkT L T a = 2
    · rw [if_pos (by rw [q]; rfl), bind_s]
      obtain ⟨-, d1, d2⟩ := dg_e (ht.trans q)
      have nl := nm_le L T 1000000 a i
      have e8 : jmin 1000000 (((10 : Int32) * rI z 2 8 + bt L T (a + i)) - 48) = nI (nmN L T 1000000 a (i + 1)) := by
        rw [show rI z 2 8 = nI (nmN L T 1000000 a i) from h8 q, d1, show (10 : Int32) = nI 10 from rfl, pk_mul, nI_add, show (48 : Int32) = nI 48 from rfl, pk_sub (by omega), show (1000000 : Int32) = nI 1000000 from rfl, jmin_nI (by decide) (by omega)]
        show _ = nI (min 1000000 (10 * nmN L T 1000000 a i + (ix (bt L T (a + i)) - 48)))
        congr 1
        omega
      unfold lt
      dsimp only
      rw [e8]
      refine b151 _ (NX.w (by omega) (by omega) _) ?_ ?_ ?_ (fun _ => wI_self _ _ _ _)
      · rw [wI_at, if_neg (by decide), h5]
      · rw [wI_at, if_neg (by decide)]
      · rw [wI_at, if_neg (by decide), h7]
    · rw [if_neg (show ¬ nI (tkT L T a) = (2 : Int32) from fun v => q ((nI_eq (b := 2) (by omega) (by decide)).mp v))]
      exact b151 z NX.refl h5 rfl h7 (fun v => absurd v q)
  by_cases t0 : tkT L T a = 0
  · have e : tkE L T a = a := if_pos t0
    have la := bt_m.mp (kd_0 t0)
    rw [e]
    refine Ok_e (loop_out (r := x) ?_) ⟨h5, rfl, h7, fun q => by omega, NX.refl⟩
    show Re_next_l86 2 x = _
    unfold Re_next_l86
    rw [show rI x 2 1 = nI L from K.1, show rI x 2 5 = nI a from h5, if_pos (nI_le la (by omega)), up_some]
  · by_cases t12 : tkT L T a = 1 ∨ tkT L T a = 2
    · have e : tkE L T a = a + tkR L T a := by unfold tkE; rw [if_neg t0, if_pos t12]
      have rl := tkR_le L T a
      rw [e, show a + tkR L T a - a = tkR L T a by omega]
      refine Ok_loop (tkR L T a) (fun _ z => z) (fun i z => z.1 2 5 = nI (a + i) ∧ z.1 2 6 = x.1 2 6 ∧ z.1 2 7 = nI (tkT L T a) ∧ (tkT L T a = 2 → z.1 2 8 = nI (nmN L T 1000000 a i)) ∧ NX x z) x rfl ⟨h5, rfl, h7, fun _ => h8, NX.refl⟩ (fun i z hi ⟨p1, p2, p3, p4, p5⟩ => ?_) (fun z ⟨p1, p2, p3, p4, p5⟩ => ?_)
      · obtain ⟨z', s1, s2, s3, s4, s5, s6⟩ := step i z (by omega) (tkR_in hi) (K.nx p5) p1 p3 p4
        rw [if_pos t12] at s1
        exact Ok_e s1 ⟨z', rfl, s2, s3.trans p2, s4, s5, p5.trans s6⟩
      · refine Ok_e (x := Sum.inr z) ?_ ⟨z, rfl, p1, p2, p3, p4, p5⟩
        have K5 := K.nx p5
        show Re_next_l86 2 z = _
        unfold Re_next_l86
        rw [show rI z 2 1 = nI L from K5.1, show rI z 2 5 = nI (a + tkR L T a) from p1]
        by_cases hl : a + tkR L T a < L
        · rw [if_neg (nI_ge hl (by omega)), Re_byteAt_e hT K5 (by omega), bind_s, Re_tokenOf_e, bind_s, show rI z 2 7 = nI (tkT L T a) from p3]
          have o := tkR_out t0 ha
          have k1 : ∀ v, kdB v ≤ 4 := by
            intro v
            unfold kdB
            split
            · omega
            · split
              · omega
              · split
                · omega
                · split <;> omega
          have k2 : tkT L T (a + tkR L T a) ≤ 4 := k1 _
          have k3 : tkT L T a ≤ 4 := k1 _
          rw [if_neg (fun v => o ((nI_eq (by omega) (by omega)).mp v)), up_some]
        · rw [if_pos (nI_le (by omega) (by omega)), up_some]
    · have e : tkE L T a = a + 1 := by unfold tkE; rw [if_neg t0, if_neg t12]
      rw [e]
      obtain ⟨z', s1, s2, s3, s4, s5, s6⟩ := step 0 x (by have := lt_in t0; omega) rfl K h5 h7 (fun _ => h8)
      rw [if_neg t12] at s1
      exact Ok_e (loop_out s1) ⟨s2, s3, s4, fun q => absurd (Or.inr q) t12, s6⟩
theorem Re_next_e (hT : TB L T) (K : CK L T x) (h5 : x.1 2 5 = nI b) (hb : b ≤ L) :
    Ok (Re_next 2 x) (fun x' => x'.1 2 5 = nI (tkE L T (tkA L T b)) ∧ x'.1 2 6 = nI (tkA L T b) ∧ x'.1 2 7 = nI (tkT L T (tkA L T b)) ∧ (tkT L T (tkA L T b) = 2 → x'.1 2 8 = nI (nmN L T 1000000 (tkA L T b) (tkE L T (tkA L T b) - tkA L T b))) ∧ NX x x') := by
  have hL := hT.1
  have ab := tkA_le (T := T) hb
  unfold Re_next
  refine Ok_lt ?_
  rw [show rI x 2 5 = nI b from h5]
  have b58 : ∀ z, CK L T z → z.1 2 6 = nI (tkA L T b) → NX x z → Ok (Re_next_b58 2 z) (fun x' => x'.1 2 5 = nI (tkE L T (tkA L T b)) ∧ x'.1 2 6 = nI (tkA L T b) ∧ x'.1 2 7 = nI (tkT L T (tkA L T b)) ∧ (tkT L T (tkA L T b) = 2 → x'.1 2 8 = nI (nmN L T 1000000 (tkA L T b) (tkE L T (tkA L T b) - tkA L T b))) ∧ NX x x') := by
    intro z Kz z6 nz
    unfold Re_next_b58
    refine Ok_lt ?_
    have n1 : NX z (wI z 2 5 (rI z 2 6)) := NX.w (by omega) (by omega) _
    rw [show rI (wI z 2 5 (rI z 2 6)) 2 6 = nI (tkA L T b) from (by rw [show rI (wI z 2 5 (rI z 2 6)) 2 6 = (wI z 2 5 (rI z 2 6)).1 2 6 from rfl, wI_at, if_neg (by decide), z6])]
    refine Ok_b (Re_byteAt_e hT (Kz.nx n1) (by omega)) (Ok_b (Re_tokenOf_e _ _) (Ok_lt (Ok_lt ?_)))
    have n3 : NX z (wI (wI (wI z 2 5 (rI z 2 6)) 2 7 (nI (kdB (bt L T (tkA L T b))))) 2 8 0) := (n1.trans (NX.w (by omega) (by omega) _)).trans (NX.w (by omega) (by omega) _)
    refine Ok_mono (Re_tok (a := tkA L T b) hT (Kz.nx n3) ?_ ?_ (wI_self _ _ _ _) ab.2) (fun x' ⟨q1, q2, q3, q4, q5⟩ => ⟨q1, q2.trans ?_, q3, q4, (nz.trans n3).trans q5⟩)
    · rw [wI_at, if_neg (by decide), wI_at, if_neg (by decide), wI_self]
      exact z6
    · rw [wI_at, if_neg (by decide), wI_self]
    · rw [wI_at, if_neg (by decide), wI_at, if_neg (by decide), wI_at, if_neg (by decide), z6]
  refine Ok_loop (cnN (blkP L T) (L - b) b) (fun _ z => z) (fun i z => z.1 2 6 = nI (b + i) ∧ NX x z) _ rfl ⟨wI_self _ _ _ _, NX.w (by omega) (by omega) _⟩ (fun i z hi ⟨p1, p2⟩ => ?_) (fun z ⟨p1, p2⟩ => ?_)
  · have P := tkA_in hi
    have il : b + i < L := by
      have := cn_le (P := blkP L T) (L - b) b
      omega
    have Kz := K.nx p2
    have b45 : Ok (Re_next_b45 2 z) (fun r => ∃ x', r = Sum.inl x' ∧ x'.1 2 6 = nI (b + (i + 1)) ∧ NX x x') := by
      unfold Re_next_b45
      refine Ok_lt (Ok_s ⟨_, rfl, ?_, p2.trans (NX.w (by omega) (by omega) _)⟩)
      rw [wI_self, show rI z 2 6 = nI (b + i) from p1, nI_1, Nat.add_assoc]
    show Ok (Re_next_l8 2 z) _
    unfold Re_next_l8
    rw [show rI z 2 1 = nI L from Kz.1, show rI z 2 6 = nI (b + i) from p1]
    refine Ok_if (nI_ge il (by omega)) (Ok_b (Re_byteAt_e hT Kz (by omega)) ?_)
    by_cases q : bt L T (b + i) = 32
    · exact Ok_it q b45
    · exact Ok_if q (Ok_b (Re_byteAt_e hT Kz (by omega)) (Ok_it (P.resolve_left q) b45))
  · have o := tkA_out (T := T) hb
    have Kz := K.nx p2
    have fin := b58 z Kz p1 p2
    have fin2 := Ok_up (Q := fun r : Mem ⊕ Mem => ∃ y, r = Sum.inr y ∧ y.1 2 5 = nI (tkE L T (tkA L T b)) ∧ y.1 2 6 = nI (tkA L T b) ∧ y.1 2 7 = nI (tkT L T (tkA L T b)) ∧ (tkT L T (tkA L T b) = 2 → y.1 2 8 = nI (nmN L T 1000000 (tkA L T b) (tkE L T (tkA L T b) - tkA L T b))) ∧ NX x y) fin (fun r hr => ⟨r, rfl, hr⟩)
    show Ok (Re_next_l8 2 z) _
    unfold Re_next_l8
    rw [show rI z 2 1 = nI L from Kz.1, show rI z 2 6 = nI (tkA L T b) from p1]
    by_cases hl : tkA L T b < L
    · exact Ok_if (nI_ge hl (by omega)) (Ok_b (Re_byteAt_e hT Kz (by omega)) (Ok_if (fun v => o (Or.inl v)) (Ok_b (Re_byteAt_e hT Kz (by omega)) (Ok_if (fun v => o (Or.inr v)) fin2))))
    · exact Ok_it (nI_le (by omega) (by omega)) fin2
/-! the reference's -/
def AX (y y' : Mem) : Prop := (∀ j, j < 8 ∨ 11 < j → y'.1 298 j = y.1 298 j) ∧ y'.2 298 = y.2 298 ∧ Fp 298 299 y y'
theorem AX.refl : AX y y := ⟨fun _ _ => rfl, rfl, Fp.refl⟩
theorem AX.trans {y' y'' : Mem} (h : AX y y') (k : AX y' y'') : AX y y'' := ⟨fun j hj => (k.1 j hj).trans (h.1 j hj), k.2.1.trans h.2.1, h.2.2.trans k.2.2⟩
theorem AX.w {i : Nat} (h1 : 8 ≤ i) (h2 : i ≤ 11) (v : Int32) : AX y (wI y 298 i v) := ⟨fun j hj => by rw [wI_at, if_neg (by omega)], rfl, Fp.wI (by omega) (by omega) _ _⟩
theorem MK.ax (K : MK L T y) {y' : Mem} (h : AX y y') : MK L T y' := ⟨by rw [h.1 7 (by omega), K.1], fun i hi => by rw [(h.2.2 302 (by omega)).1, K.2 i hi]⟩
theorem Mo_see_e (hT : TB L T) (K : MK L T y) {i : Nat} (hi : i < 2147483648) : Mo_see 298 (nI i) y = some (bt L T i) := by
  have h0 := hT.1
  unfold Mo_see
  rw [show rI y 298 7 = nI L from K.1]
  by_cases h : i < L
  · rw [if_neg (nI_ge h (by omega)), gd_in (by omega) (by decide), ix_nI hi, bt_i h]
    exact congrArg (fun v => some (v &&& 255)) (K.2 i (by omega))
  · rw [if_pos (nI_le (by omega) hi), bt_o (by omega)]
theorem Mo_letter (m : Mem) (v : Int32) : Mo_in v.toInt64 97 122 m = some (b2 (kdB v = 1)) := by
  rw [Mo_in_g m v 97 122 (by decide) (by decide)]
  exact congrArg some (b2_cong kd_1.symm)
theorem Mo_digit (m : Mem) (v : Int32) : Mo_in v.toInt64 48 57 m = some (b2 (kdB v = 2)) := by
  rw [Mo_in_g m v 48 57 (by decide) (by decide)]
  exact congrArg some (b2_cong kd_2.symm)
theorem Mo_advance_e (hT : TB L T) (K : MK L T y) (h8 : y.1 298 8 = nI b) (hb : b ≤ L) :
    Ok (Mo_advance 298 y) (fun y' => y'.1 298 8 = nI (tkE L T (tkA L T b)) ∧ y'.1 298 9 = nI (tkA L T b) ∧ y'.1 298 10 = nI (tkT L T (tkA L T b)) ∧ (tkT L T (tkA L T b) = 2 → y'.1 298 11 = nI (nmN L T 99999 (tkA L T b) (tkE L T (tkA L T b) - tkA L T b))) ∧ AX y y') := by
  have hL := hT.1
  have ab := tkA_le (T := T) hb
  unfold Mo_advance
  refine Ok_loop (cnN (blkP L T) (L - b) b) (fun _ z => z) (fun i z => z.1 298 8 = nI (b + i) ∧ AX y z) y rfl ⟨h8, AX.refl⟩ (fun i z hi ⟨p1, p2⟩ => ?_) (fun z ⟨p1, p2⟩ => ?_)
  · have P := tkA_in hi
    have il : b + i < L := by
      have := cn_le (P := blkP L T) (L - b) b
      omega
    have Kz := K.ax p2
    have b26 : Ok (Mo_advance_b26 298 z) (fun r => ∃ x', r = Sum.inl x' ∧ x'.1 298 8 = nI (b + (i + 1)) ∧ AX y x') := by
      unfold Mo_advance_b26
      refine Ok_lt (Ok_s ⟨_, rfl, ?_, p2.trans (AX.w (by omega) (by omega) _)⟩)
      rw [wI_self, show rI z 298 8 = nI (b + i) from p1, nI_1, Nat.add_assoc]
    show Ok (Mo_advance_l0 298 z) _
    unfold Mo_advance_l0
    rw [show rI z 298 8 = nI (b + i) from p1]
    refine Ok_b (Mo_see_e hT Kz (by omega)) ?_
    by_cases q : bt L T (b + i) = 32
    · exact Ok_it q b26
    · exact Ok_if q (Ok_b (Mo_see_e hT Kz (by omega)) (Ok_it (P.resolve_left q) b26))
  · have o := tkA_out (T := T) hb
    have Kz := K.ax p2
    have a2 : tkA L T b < 2147483648 := by omega
    have p3 : z.1 298 8 = nI (tkA L T b) := p1
    show Ok (Mo_advance_l0 298 z) _
    unfold Mo_advance_l0
    rw [show rI z 298 8 = nI (tkA L T b) from p1]
    refine Ok_b (Mo_see_e hT Kz a2) (Ok_if (fun v => o (Or.inl v)) (Ok_b (Mo_see_e hT Kz a2) (Ok_if (fun v => o (Or.inr v)) ?_)))
    clear p1
    generalize tkA L T b = a at *
    refine Ok_up (P := fun y' => y'.1 298 8 = nI (tkE L T a) ∧ y'.1 298 9 = nI a ∧ y'.1 298 10 = nI (tkT L T a) ∧ (tkT L T a = 2 → y'.1 298 11 = nI (nmN L T 99999 a (tkE L T a - a))) ∧ AX y y') ?_ (fun r hr => ⟨r, rfl, hr⟩)
    refine Ok_lt ?_
    have n9 : AX z (wI z 298 9 (nI a)) := AX.w (by omega) (by omega) _
    have K9 := Kz.ax n9
    have e8 : rI (wI z 298 9 (nI a)) 298 8 = nI a := by
      show (wI z 298 9 (nI a)).1 298 8 = nI a
      rw [wI_at, if_neg (by decide), p3]
    have e9 : (wI z 298 9 (nI a)).1 298 9 = nI a := wI_self _ _ _ _
    rw [e8]
    refine Ok_b (Mo_see_e hT K9 a2) ?_
    by_cases t0 : tkT L T a = 0
    · have e : tkE L T a = a := if_pos t0
      refine Ok_it (kd_0 t0) (Ok_lt (Ok_s ⟨?_, ?_, ?_, fun q => by omega, p2.trans (n9.trans (AX.w (by omega) (by omega) _))⟩))
      · rw [wI_at, if_neg (by decide), e]; exact e8
      · rw [wI_at, if_neg (by decide), e9]
      · rw [wI_self, t0]; rfl
    · have la := lt_in t0
      have rl := tkR_le L T a
      refine Ok_if (fun v => t0 (by unfold tkT; rw [v]; rfl)) (Ok_b (Mo_letter _ _) ?_)
      rw [ite_b2]
      by_cases t1 : tkT L T a = 1
      · have e : tkE L T a = a + tkR L T a := by unfold tkE; rw [if_neg t0, if_pos (Or.inl t1)]
        rw [if_pos (show kdB (bt L T a) = 1 from t1), e]
        refine Ok_loop (tkR L T a) (fun _ w => w) (fun i w => w.1 298 8 = nI (a + i) ∧ w.1 298 9 = nI a ∧ AX y w) _ rfl ⟨e8, e9, p2.trans n9⟩ (fun i w hi ⟨q1, q2, q3⟩ => ?_) (fun w ⟨q1, q2, q3⟩ => ?_)
        · show Ok (Mo_advance_l83 298 w) _
          unfold Mo_advance_l83
          rw [show rI w 298 8 = nI (a + i) from q1]
          refine Ok_b (Mo_see_e hT (K.ax q3) (by omega)) (Ok_b (Mo_letter _ _) ?_)
          rw [ite_b2, if_pos (show kdB (bt L T (a + i)) = 1 from (tkR_in hi).trans t1)]
          refine Ok_lt (Ok_s ⟨_, rfl, ?_, ?_, q3.trans (AX.w (by omega) (by omega) _)⟩)
          · rw [wI_self, nI_1, Nat.add_assoc]
          · rw [wI_at, if_neg (by decide), q2]
        · show Ok (Mo_advance_l83 298 w) _
          unfold Mo_advance_l83
          rw [show rI w 298 8 = nI (a + tkR L T a) from q1]
          refine Ok_b (Mo_see_e hT (K.ax q3) (by omega)) (Ok_b (Mo_letter _ _) ?_)
          rw [ite_b2, if_neg (show ¬ kdB (bt L T (a + tkR L T a)) = 1 from fun v => tkR_out t0 (by omega) (v.trans t1.symm))]
          refine Ok_up (P := fun w' => w' = wI w 298 10 1) (Ok_lt (Ok_s rfl)) (fun r hr => ⟨r, rfl, ?_⟩)
          rw [hr]
          refine ⟨?_, ?_, ?_, fun v => by omega, q3.trans (AX.w (by omega) (by omega) _)⟩
          · rw [wI_at, if_neg (by decide), q1]
          · rw [wI_at, if_neg (by decide), q2]
          · rw [wI_self, t1]; rfl
      · rw [if_neg (show ¬ kdB (bt L T a) = 1 from t1)]
        refine Ok_b (Mo_digit _ _) ?_
        rw [ite_b2]
        by_cases t2 : tkT L T a = 2
        · have e : tkE L T a = a + tkR L T a := by unfold tkE; rw [if_neg t0, if_pos (Or.inr t2)]
          rw [if_pos (show kdB (bt L T a) = 2 from t2), e, show a + tkR L T a - a = tkR L T a by omega]
          refine Ok_lt ?_
          have n11 := n9.trans (AX.w (y := wI z 298 9 (nI a)) (i := 11) (by omega) (by omega) 0)
          refine Ok_loop (tkR L T a) (fun _ w => w) (fun i w => w.1 298 8 = nI (a + i) ∧ w.1 298 9 = nI a ∧ w.1 298 11 = nI (nmN L T 99999 a i) ∧ AX y w) _ rfl ⟨by rw [wI_at, if_neg (by decide)]; exact e8, by rw [wI_at, if_neg (by decide), e9], wI_self _ _ _ _, p2.trans n11⟩ (fun i w hi ⟨q1, q2, q3, q4⟩ => ?_) (fun w ⟨q1, q2, q3, q4⟩ => ?_)
          · obtain ⟨-, d1, d2⟩ := dg_e (L := L) (T := T) ((tkR_in hi).trans t2)
            have nl := nm_le L T 99999 a i
            have e11 : jmin 99999 (((10 : Int32) * rI w 298 11 + bt L T (a + i)) - 48) = nI (nmN L T 99999 a (i + 1)) := by
              rw [show rI w 298 11 = nI (nmN L T 99999 a i) from q3, d1, show (10 : Int32) = nI 10 from rfl, pk_mul, nI_add, show (48 : Int32) = nI 48 from rfl, pk_sub (by omega), show (99999 : Int32) = nI 99999 from rfl, jmin_nI (by decide) (by omega)]
              show _ = nI (min 99999 (10 * nmN L T 99999 a i + (ix (bt L T (a + i)) - 48)))
              congr 1
              omega
            show Ok (Mo_advance_l144 298 w) _
            unfold Mo_advance_l144
            rw [show rI w 298 8 = nI (a + i) from q1]
            refine Ok_b (Mo_see_e hT (K.ax q4) (by omega)) (Ok_b (Mo_digit _ _) ?_)
            rw [ite_b2, if_pos (show kdB (bt L T (a + i)) = 2 from (tkR_in hi).trans t2)]
            refine Ok_b (Mo_see_e hT (K.ax q4) (by omega)) (Ok_lt (Ok_lt (Ok_s ⟨_, rfl, ?_, ?_, ?_, (q4.trans (AX.w (i := 11) (by omega) (by omega) _)).trans (AX.w (by omega) (by omega) _)⟩)))
            · rw [wI_self]
              show (wI w 298 11 _).1 298 8 + 1 = _
              rw [wI_at, if_neg (by decide), q1, nI_1, Nat.add_assoc]
            · rw [wI_at, if_neg (by decide), wI_at, if_neg (by decide), q2]
            · rw [wI_at, if_neg (by decide), wI_self, e11]
          · show Ok (Mo_advance_l144 298 w) _
            unfold Mo_advance_l144
            rw [show rI w 298 8 = nI (a + tkR L T a) from q1]
            refine Ok_b (Mo_see_e hT (K.ax q4) (by omega)) (Ok_b (Mo_digit _ _) ?_)
            rw [ite_b2, if_neg (show ¬ kdB (bt L T (a + tkR L T a)) = 2 from fun v => tkR_out t0 (by omega) (v.trans t2.symm))]
            refine Ok_up (P := fun w' => w' = wI w 298 10 2) (Ok_lt (Ok_s rfl)) (fun r hr => ⟨r, rfl, ?_⟩)
            rw [hr]
            refine ⟨?_, ?_, ?_, fun _ => ?_, q4.trans (AX.w (by omega) (by omega) _)⟩
            · rw [wI_at, if_neg (by decide), q1]
            · rw [wI_at, if_neg (by decide), q2]
            · rw [wI_self, t2]; rfl
            · rw [wI_at, if_neg (by decide), q3]
        · have e : tkE L T a = a + 1 := by unfold tkE; rw [if_neg t0, if_neg (fun v => v.elim t1 t2)]
          rw [if_neg (show ¬ kdB (bt L T a) = 2 from t2), e]
          have b226 : ∀ k, nI (tkT L T a) = k → Ok (Mo_advance_b226 298 k (wI z 298 9 (nI a))) (fun y' => y'.1 298 8 = nI (a + 1) ∧ y'.1 298 9 = nI a ∧ y'.1 298 10 = nI (tkT L T a) ∧ (tkT L T a = 2 → y'.1 298 11 = nI (nmN L T 99999 a (a + 1 - a))) ∧ AX y y') := by
            intro k hk
            unfold Mo_advance_b226
            refine Ok_lt (Ok_lt (Ok_s ⟨?_, ?_, ?_, fun v => absurd v t2, ((p2.trans n9).trans (AX.w (i := 10) (by omega) (by omega) _)).trans (AX.w (by omega) (by omega) _)⟩))
            · rw [wI_self]
              show (wI (wI z 298 9 (nI a)) 298 10 k).1 298 8 + 1 = _
              rw [wI_at, if_neg (by decide), show (wI z 298 9 (nI a)).1 298 8 = nI a from e8, nI_1]
            · rw [wI_at, if_neg (by decide), wI_at, if_neg (by decide), e9]
            · rw [wI_at, if_neg (by decide), wI_self, hk]
          by_cases q : bt L T a = 59
          · refine Ok_it q (b226 3 ?_)
            unfold tkT
            rw [q]
            rfl
          · refine Ok_if q (b226 4 ?_)
            have k1 : ¬ (97 ≤ bt L T a ∧ bt L T a ≤ 122) := fun v => t1 (kd_1.mpr v)
            have k2 : ¬ (48 ≤ bt L T a ∧ bt L T a ≤ 57) := fun v => t2 (kd_2.mpr v)
            have k0 : bt L T a ≠ -1 := fun v => by
              have := bt_m.mp v
              omega
            unfold tkT kdB
            rw [if_neg k0, if_neg k1, if_neg k2, if_neg q]
            rfl
end RE
end READ

/-! rules for what may fail and for loops; footprints; bits -/
def Ok {X : Type} (e : Option X) (Q : X → Prop) : Prop := ∃ x, e = some x ∧ Q x
theorem Ok_s {X : Type} {x : X} {Q : X → Prop} (h : Q x) : Ok (some x) Q := ⟨x, rfl, h⟩
theorem Ok_e {X : Type} {e : Option X} {x : X} {Q : X → Prop} (h : e = some x) (q : Q x) : Ok e Q := ⟨x, h, q⟩
theorem Ok_mono {X : Type} {e : Option X} {P Q : X → Prop} (h : Ok e P) (f : ∀ x, P x → Q x) : Ok e Q := by
  obtain ⟨x, a, b⟩ := h
  exact ⟨x, a, f x b⟩
theorem Ok_bind {A X : Type} {e : Option A} {P : A → Prop} {f : A → Option X} {Q : X → Prop} (h : Ok e P) (k : ∀ a, P a → Ok (f a) Q) : Ok (e.bind f) Q := by
  obtain ⟨a, rfl, b⟩ := h
  exact k a b
theorem Ok_b {A X : Type} {e : Option A} {a : A} {f : A → Option X} {Q : X → Prop} (h : e = some a) (k : Ok (f a) Q) : Ok (e.bind f) Q := by
  rw [h]; exact k
theorem Ok_gd {X : Type} {c : Prop} [Decidable c] {e : Option X} {Q : X → Prop} (h : c) (k : Ok e Q) : Ok (gd c e) Q := by
  rw [gd_t h]; exact k
theorem Ok_lt {A X : Type} {a : A} {f : A → Option X} {Q : X → Prop} (k : Ok (f a) Q) : Ok (lt a f) Q := k
theorem Ok_up {S R : Type} {e : Option R} {P : R → Prop} {Q : S ⊕ R → Prop} (h : Ok e P) (k : ∀ r, P r → Q (.inr r)) : Ok (up e) Q := by
  obtain ⟨x, rfl, b⟩ := h
  exact ⟨_, rfl, k x b⟩
theorem Ok_it {X : Type} {c : Prop} [Decidable c] {a b : Option X} {Q : X → Prop} (h : c) (k : Ok a Q) : Ok (if c then a else b) Q := by
  rw [if_pos h]; exact k
theorem Ok_if {X : Type} {c : Prop} [Decidable c] {a b : Option X} {Q : X → Prop} (h : ¬ c) (k : Ok b Q) : Ok (if c then a else b) Q := by
  rw [if_neg h]; exact k
/-- a counting loop with something carried along -/
theorem Ok_loop {S R X : Type} {b : S → Option (S ⊕ R)} {s0 : S} {Q : R → Prop} (n : Nat) (st : Nat → X → S) (P : Nat → X → Prop) (x0 : X) (h0 : st 0 x0 = s0) (p0 : P 0 x0)
    (hs : ∀ i x, i < n → P i x → Ok (b (st i x)) (fun r => ∃ x', r = .inl (st (i + 1) x') ∧ P (i + 1) x')) (hx : ∀ x, P n x → Ok (b (st n x)) (fun r => ∃ y, r = .inr y ∧ Q y)) : Ok (loop b s0) Q := by
  subst h0
  have key : ∀ k i x, i + k = n → P i x → Ok (loop b (st i x)) Q := by
    intro k
    induction k with
    | zero =>
      intro i x hi hp
      rw [show i = n by omega] at hp ⊢
      obtain ⟨r, e, y, rfl, q⟩ := hx x hp
      exact ⟨y, loop_out e, q⟩
    | succ k ih =>
      intro i x hi hp
      obtain ⟨r, e, y, rfl, q⟩ := hs i x (by omega) hp
      rw [show loop b (st i x) = loop b (st (i + 1) y) from loop_in e]
      exact ih (i + 1) y (by omega) q
  exact key n 0 x0 (by omega) p0
/-- what a counting loop over the memory does -/
theorem Ok_for {R : Type} {b : Int32 × Mem → Option ((Int32 × Mem) ⊕ R)} {m0 : Mem} {Q : R → Prop} (n : Nat) (P : Nat → Mem → Prop) (p0 : P 0 m0)
    (hs : ∀ i m, i < n → P i m → Ok (b (nI i, m)) (fun r => ∃ m', r = .inl (nI (i + 1), m') ∧ P (i + 1) m')) (hx : ∀ m, P n m → Ok (b (nI n, m)) (fun r => ∃ y, r = .inr y ∧ Q y)) : Ok (loop b (0, m0)) Q :=
  Ok_loop n (fun i m => (nI i, m)) P m0 rfl p0 hs hx
/-- nothing but the places of [lo, hi) is changed -/
def Fp (lo hi : Nat) (m m' : Mem) : Prop := ∀ a, a < lo ∨ hi ≤ a → m'.1 a = m.1 a ∧ m'.2 a = m.2 a
theorem Fp.refl {lo hi : Nat} {m : Mem} : Fp lo hi m m := fun _ _ => ⟨rfl, rfl⟩
theorem Fp.trans {lo hi : Nat} {m m' m'' : Mem} (h : Fp lo hi m m') (k : Fp lo hi m' m'') : Fp lo hi m m'' := fun a q => ⟨(k a q).1.trans (h a q).1, (k a q).2.trans (h a q).2⟩
theorem Fp.wide {lo hi lo' hi' : Nat} {m m' : Mem} (h : Fp lo hi m m') (h1 : lo' ≤ lo) (h2 : hi ≤ hi') : Fp lo' hi' m m' := fun a q => h a (by omega)
theorem Fp.wI {lo hi : Nat} {m : Mem} {a : Nat} (h1 : lo ≤ a) (h2 : a < hi) (i : Nat) (v : Int32) : Fp lo hi m (wI m a i v) := fun b q => ⟨wI_1 m (by omega) v, rfl⟩
theorem Fp.wL {lo hi : Nat} {m : Mem} {a : Nat} (h1 : lo ≤ a) (h2 : a < hi) (i : Nat) (v : Int64) : Fp lo hi m (wL m a i v) := fun b q => ⟨rfl, wL_2 m (by omega) v⟩
theorem Fp.a {lo hi : Nat} {m m' : Mem} (h : Fp lo hi m m') {a : Nat} (q : a < lo ∨ hi ≤ a) (i : Nat) : m'.1 a i = m.1 a i := by rw [(h a q).1]
theorem Fp.b {lo hi : Nat} {m m' : Mem} (h : Fp lo hi m m') {a : Nat} (q : a < lo ∨ hi ≤ a) (i : Nat) : m'.2 a i = m.2 a i := by rw [(h a q).2]
theorem wI_at (m : Mem) (a i j : Nat) (v : Int32) : (wI m a i v).1 a j = if j = i then v else m.1 a j := by
  show (if a = a ∧ j = i then v else m.1 a j) = _
  by_cases h : j = i
  · rw [if_pos ⟨rfl, h⟩, if_pos h]
  · rw [if_neg (fun q => h q.2), if_neg h]
theorem wL_at (m : Mem) (a i j : Nat) (v : Int64) : (wL m a i v).2 a j = if j = i then v else m.2 a j := by
  show (if a = a ∧ j = i then v else m.2 a j) = _
  by_cases h : j = i
  · rw [if_pos ⟨rfl, h⟩, if_pos h]
  · rw [if_neg (fun q => h q.2), if_neg h]
theorem wI_self (m : Mem) (a i : Nat) (v : Int32) : (wI m a i v).1 a i = v := by rw [wI_at, if_pos rfl]
theorem wL_self (m : Mem) (a i : Nat) (v : Int64) : (wL m a i v).2 a i = v := by rw [wL_at, if_pos rfl]
theorem wI_o (m : Mem) {a b i : Nat} (h : b ≠ a) (j : Nat) (v : Int32) : (wI m a i v).1 b j = m.1 b j := by rw [wI_1 m h]
theorem wL_o (m : Mem) {a b i : Nat} (h : b ≠ a) (j : Nat) (v : Int64) : (wL m a i v).2 b j = m.2 b j := by rw [wL_2 m h]
theorem wI_b (m : Mem) (a i : Nat) (v : Int32) (b j : Nat) : (wI m a i v).2 b j = m.2 b j := rfl
theorem wL_a (m : Mem) (a i : Nat) (v : Int64) (b j : Nat) : (wL m a i v).1 b j = m.1 b j := rfl
/-! bits -/
theorem nI_or (a b : Nat) : nI a ||| nI b = nI (a ||| b) := by
  apply Int32.toBitVec_inj.mp
  show (BitVec.ofNat 32 a ||| BitVec.ofNat 32 b) = BitVec.ofNat 32 (a ||| b)
  rw [BitVec.ofNat_or]
theorem nI_and (a b : Nat) : nI a &&& nI b = nI (a &&& b) := by
  apply Int32.toBitVec_inj.mp
  show (BitVec.ofNat 32 a &&& BitVec.ofNat 32 b) = BitVec.ofNat 32 (a &&& b)
  rw [BitVec.ofNat_and]
theorem nI_xor (a b : Nat) : nI a ^^^ nI b = nI (a ^^^ b) := by
  apply Int32.toBitVec_inj.mp
  show (BitVec.ofNat 32 a ^^^ BitVec.ofNat 32 b) = BitVec.ofNat 32 (a ^^^ b)
  rw [BitVec.ofNat_xor]
/-- the bits below n for which P holds -/
def bsN (P : Nat → Bool) : Nat → Nat
  | 0 => 0
  | n + 1 => bsN P n ||| (if P n = true then 2 ^ n else 0)
theorem bsN_s (P : Nat → Bool) (n : Nat) : bsN P (n + 1) = bsN P n ||| (if P n = true then 2 ^ n else 0) := rfl
theorem bs_lt (P : Nat → Bool) : ∀ n, bsN P n < 2 ^ n
  | 0 => Nat.one_pos
  | n + 1 => by
    have := bs_lt P n
    have h2 : 2 ^ n < 2 ^ (n + 1) := Nat.pow_lt_pow_right (by decide) (by omega)
    rw [bsN_s]
    refine Nat.or_lt_two_pow (by omega) ?_
    split <;> omega
theorem bs_bit (P : Nat → Bool) (k : Nat) : ∀ n, (bsN P n).testBit k = (decide (k < n) && P k)
  | 0 => by simp [bsN]
  | n + 1 => by
    rw [bsN_s, Nat.testBit_or, bs_bit P k n]
    by_cases h : k = n
    · subst h
      by_cases q : P k = true
      · rw [if_pos q]; simp [q, Nat.testBit_two_pow_self]
      · rw [if_neg q]; simp [q]
    · have : ((if P n = true then 2 ^ n else 0 : Nat)).testBit k = false := by
        split
        · rw [Nat.testBit_two_pow]; simp; omega
        · simp
      rw [this]
      have e : decide (k < n) = decide (k < n + 1) := by
        by_cases z : k < n
        · simp [z]; omega
        · simp [z]; omega
      rw [e]
      simp
/-- how many bits -/
def popN (n a : Nat) : Nat := sN (fun k => if a.testBit k = true then 1 else 0) n
def bc1 (v : Int32) : Int32 := v - ((v.toUInt32 >>> ((1 : Int32).toUInt32 &&& Int32.toUInt32 31)).toInt32 &&& 1431655765)
def bc2 (v : Int32) : Int32 := (v &&& 858993459) + ((v.toUInt32 >>> ((2 : Int32).toUInt32 &&& Int32.toUInt32 31)).toInt32 &&& 858993459)
def bc3 (v : Int32) : Int32 := (v + (v.toUInt32 >>> ((4 : Int32).toUInt32 &&& Int32.toUInt32 31)).toInt32) &&& 252645135
def bc4 (v : Int32) : Int32 := v + (v.toUInt32 >>> ((8 : Int32).toUInt32 &&& Int32.toUInt32 31)).toInt32
def bc5 (v : Int32) : Int32 := v + (v.toUInt32 >>> ((16 : Int32).toUInt32 &&& Int32.toUInt32 31)).toInt32
def bcI (v : Int32) : Int32 := bc5 (bc4 (bc3 (bc2 (bc1 v)))) &&& 63
theorem In_bitCount_e (v : Int32) (m : Mem) : In_bitCount v m = some (bcI v) := rfl
theorem bc_t : ∀ a, a < 64 → ∀ b, b < 64 → bcI (nI (64 * a + b)) = nI (popN 12 (64 * a + b)) := by decide +kernel
theorem bc_e {n : Nat} (h : n < 4096) : bcI (nI n) = nI (popN 12 n) := by
  have := bc_t (n / 64) (by omega) (n % 64) (by omega)
  rwa [Nat.div_add_mod] at this
theorem In_bitCount_n {n : Nat} (h : n < 4096) (m : Mem) : In_bitCount (nI n) m = some (nI (popN 12 n)) := by rw [In_bitCount_e, bc_e h]
theorem pop_ext {a : Nat} {n : Nat} (h : a < 2 ^ n) : ∀ k, popN (n + k) a = popN n a
  | 0 => rfl
  | k + 1 => by
    show popN (n + k) a + (if a.testBit (n + k) = true then 1 else 0) = _
    rw [pop_ext h k, Nat.testBit_lt_two_pow (Nat.lt_of_lt_of_le h (p2le (by omega)))]
    rfl

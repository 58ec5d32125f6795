/-! the least to take: tables of costs, told once for both sides -/
section KNAP
def enc (v : Nat) : Int32 := if v < 1000000000 then nI v else -1
theorem enc_t {v : Nat} (h : v < 1000000000) : enc v = nI v := if_pos h
theorem enc_m {v : Nat} : enc v = -1 ↔ ¬ v < 1000000000 := by
  unfold enc
  by_cases h : v < 1000000000
  · rw [if_pos h]
    exact ⟨fun z => absurd (show nI v < 0 by rw [z]; decide) (nI_pos (by omega)), fun z => absurd h z⟩
  · rw [if_neg h]
    exact ⟨fun _ => h, fun _ => rfl⟩
def bsT (T : Nat → Nat) (p w k : Nat) : Nat → Nat
  | 0 => T k
  | u + 1 => min (bsT T p w k u) ((u + 1) * w + T (k - (u + 1) * p))
def usT (T : Nat → Nat) (p w k : Nat) : Nat → Nat
  | 0 => 0
  | u + 1 => if (u + 1) * w + T (k - (u + 1) * p) < bsT T p w k u then u + 1 else usT T p w k u
section BS
variable {T : Nat → Nat} {p w k : Nat}
theorem bs_y {u : Nat} (h : (u + 1) * w + T (k - (u + 1) * p) < bsT T p w k u) : bsT T p w k (u + 1) = (u + 1) * w + T (k - (u + 1) * p) ∧ usT T p w k (u + 1) = u + 1 :=
  ⟨Nat.min_eq_right (Nat.le_of_lt h), if_pos h⟩
theorem bs_n {u : Nat} (h : ¬ (u + 1) * w + T (k - (u + 1) * p) < bsT T p w k u) : bsT T p w k (u + 1) = bsT T p w k u ∧ usT T p w k (u + 1) = usT T p w k u :=
  ⟨Nat.min_eq_left (Nat.not_lt.mp h), if_neg h⟩
theorem bs_le : ∀ n, bsT T p w k n ≤ T k
  | 0 => Nat.le_refl _
  | n + 1 => Nat.le_trans (Nat.min_le_left _ _) (bs_le n)
theorem bs_us : ∀ n, bsT T p w k n = usT T p w k n * w + T (k - usT T p w k n * p) ∧ usT T p w k n ≤ n
  | 0 => by
    constructor
    · show T k = 0 * w + T (k - 0 * p)
      rw [Nat.zero_mul, Nat.zero_mul, Nat.zero_add, Nat.sub_zero]
    · exact Nat.le_refl _
  | n + 1 => by
    obtain ⟨a, b⟩ := bs_us n
    by_cases h : (n + 1) * w + T (k - (n + 1) * p) < bsT T p w k n
    · rw [(bs_y h).1, (bs_y h).2]
      exact ⟨rfl, Nat.le_refl _⟩
    · rw [(bs_n h).1, (bs_n h).2]
      exact ⟨a, by omega⟩
theorem bs_all : ∀ n u, u ≤ n → bsT T p w k n ≤ u * w + T (k - u * p)
  | 0, u, h => by
    rw [show u = 0 by omega, Nat.zero_mul, Nat.zero_mul, Nat.zero_add, Nat.sub_zero]
    exact Nat.le_refl _
  | n + 1, u, h => by
    by_cases e : u = n + 1
    · rw [e]
      exact Nat.min_le_right _ _
    · exact Nat.le_trans (Nat.min_le_left _ _) (bs_all n u (by omega))
theorem bs_first : ∀ n u, u < usT T p w k n → bsT T p w k n < u * w + T (k - u * p)
  | 0, u, h => absurd h (Nat.not_lt_zero _)
  | n + 1, u, h => by
    by_cases q : (n + 1) * w + T (k - (n + 1) * p) < bsT T p w k n
    · rw [(bs_y q).2] at h
      rw [(bs_y q).1]
      exact Nat.lt_of_lt_of_le q (bs_all n u (by omega))
    · rw [(bs_n q).2] at h
      rw [(bs_n q).1]
      exact bs_first n u h
theorem bs_bd {B n : Nat} (hb : ∀ k, T k ≤ B ∨ T k = 1000000000) : bsT T p w k n ≤ B + n * w ∨ bsT T p w k n = 1000000000 := by
  obtain ⟨a, b⟩ := bs_us (T := T) (p := p) (w := w) (k := k) n
  have c := Nat.mul_le_mul_right w b
  have d := bs_le (T := T) (p := p) (w := w) (k := k) n
  by_cases q : bsT T p w k n = 1000000000
  · exact Or.inr q
  · refine Or.inl ?_
    rcases hb (k - usT T p w k n * p) with e | e
    · rw [a]; omega
    · rcases hb k with f | f
      · omega
      · rw [e] at a
        omega
theorem bst_0 (h : T 0 = 0) (n : Nat) : bsT T p w 0 n = 0 ∧ usT T p w 0 n = 0 := by
  have a := bs_le (T := T) (p := p) (w := w) (k := 0) n
  refine ⟨by omega, ?_⟩
  apply Classical.byContradiction
  intro q
  have := bs_first (T := T) (p := p) (w := w) (k := 0) n 0 (by omega)
  rw [Nat.zero_mul, Nat.zero_mul, h] at this
  omega
end BS
/-- things that may be taken: whether, how many, what one gives, what one costs -/
abbrev Ki : Type := Nat → Bool × Nat × Nat × Nat
def knT (it : Ki) (N : Nat) : Nat → Nat → Nat
  | 0 => fun k => if k = 0 then 0 else 1000000000
  | j + 1 => if (it (N - 1 - j)).1 = true then fun k => bsT (knT it N j) (it (N - 1 - j)).2.2.1 (it (N - 1 - j)).2.2.2 k (it (N - 1 - j)).2.1 else knT it N j
def knA (it : Ki) (q : Nat → Bool) (N : Nat) : Nat → Nat → Nat
  | 0 => fun _ => 0
  | j + 1 => if (it (N - 1 - j)).1 = true then fun k => if q (N - 1 - j) = true then usT (knT it N j) (it (N - 1 - j)).2.2.1 (it (N - 1 - j)).2.2.2 k (it (N - 1 - j)).2.1 else knA it q N j (k - usT (knT it N j) (it (N - 1 - j)).2.2.1 (it (N - 1 - j)).2.2.2 k (it (N - 1 - j)).2.1 * (it (N - 1 - j)).2.2.1) else knA it q N j
section KN
variable {it : Ki} {q : Nat → Bool} {N B : Nat}
def KB (it : Ki) (N B : Nat) : Prop := ∀ i, i < N → (it i).1 = true → (it i).2.1 ≤ 20 ∧ (it i).2.2.1 ≤ 99 ∧ (it i).2.1 * (it i).2.2.2 ≤ B
theorem kn_y {j : Nat} (h : (it (N - 1 - j)).1 = true) : knT it N (j + 1) = fun k => bsT (knT it N j) (it (N - 1 - j)).2.2.1 (it (N - 1 - j)).2.2.2 k (it (N - 1 - j)).2.1 := if_pos h
theorem kn_n {j : Nat} (h : ¬ (it (N - 1 - j)).1 = true) : knT it N (j + 1) = knT it N j := if_neg h
theorem ka_y {j : Nat} (h : (it (N - 1 - j)).1 = true) : knA it q N (j + 1) = fun k => if q (N - 1 - j) = true then usT (knT it N j) (it (N - 1 - j)).2.2.1 (it (N - 1 - j)).2.2.2 k (it (N - 1 - j)).2.1 else knA it q N j (k - usT (knT it N j) (it (N - 1 - j)).2.2.1 (it (N - 1 - j)).2.2.2 k (it (N - 1 - j)).2.1 * (it (N - 1 - j)).2.2.1) := if_pos h
theorem ka_n {j : Nat} (h : ¬ (it (N - 1 - j)).1 = true) : knA it q N (j + 1) = knA it q N j := if_neg h
theorem kn_0 : ∀ j, knT it N j 0 = 0
  | 0 => rfl
  | j + 1 => by
    by_cases h : (it (N - 1 - j)).1 = true
    · rw [kn_y h]
      exact (bst_0 (kn_0 j) _).1
    · rw [kn_n h]
      exact kn_0 j
theorem ka_0 : ∀ j, knA it q N j 0 = 0
  | 0 => rfl
  | j + 1 => by
    by_cases h : (it (N - 1 - j)).1 = true
    · rw [ka_y h]
      show (if q (N - 1 - j) = true then usT (knT it N j) (it (N - 1 - j)).2.2.1 (it (N - 1 - j)).2.2.2 0 (it (N - 1 - j)).2.1 else knA it q N j (0 - usT (knT it N j) (it (N - 1 - j)).2.2.1 (it (N - 1 - j)).2.2.2 0 (it (N - 1 - j)).2.1 * (it (N - 1 - j)).2.2.1)) = 0
      rw [Nat.zero_sub, ka_0 j, (bst_0 (kn_0 j) _).2]
      split <;> rfl
    · rw [ka_n h]
      exact ka_0 j
theorem kn_b (K : KB it N B) : ∀ j, j ≤ N → ∀ k, knT it N j k ≤ j * B ∨ knT it N j k = 1000000000
  | 0, _, k => by
    show (if k = 0 then 0 else 1000000000) ≤ 0 * B ∨ (if k = 0 then 0 else 1000000000) = 1000000000
    split
    · exact Or.inl (Nat.zero_le _)
    · exact Or.inr rfl
  | j + 1, hj, k => by
    have ih := kn_b K j (by omega)
    by_cases h : (it (N - 1 - j)).1 = true
    · have b := (K (N - 1 - j) (by omega) h).2.2
      rw [kn_y h]
      rcases bs_bd (T := knT it N j) (p := (it (N - 1 - j)).2.2.1) (w := (it (N - 1 - j)).2.2.2) (k := k) (n := (it (N - 1 - j)).2.1) ih with a | a
      · refine Or.inl (Nat.le_trans a ?_)
        rw [Nat.succ_mul]
        omega
      · exact Or.inr a
    · rw [kn_n h]
      rcases ih k with a | a
      · refine Or.inl (Nat.le_trans a ?_)
        rw [Nat.succ_mul]
        omega
      · exact Or.inr a
theorem kn_le (K : KB it N B) (hB : N * B ≤ 500000000) {j : Nat} (hj : j ≤ N) (k : Nat) : knT it N j k ≤ 1000000000 := by
  have := Nat.mul_le_mul_right B hj
  rcases kn_b K j hj k with a | a <;> omega
end KN
section ST
variable {m : Mem} {t K B n p w : Nat} {T A : Nat → Nat}
def SP (m : Mem) (t K : Nat) (T A : Nat → Nat) : Prop := m.1 t 2 = nI K ∧ (∀ k, k ≤ K → m.1 (t + 1) k = enc (T k)) ∧ ∀ k, k ≤ K → m.1 (t + 2) k = nI (A k)
theorem SP.eq {m' : Mem} (S : SP m t K T A) (e : ∀ a, t ≤ a → a < t + 3 → m'.1 a = m.1 a) : SP m' t K T A := by
  obtain ⟨a, b, c⟩ := S
  exact ⟨by rw [e t (by omega) (by omega), a], fun k hk => by rw [e _ (by omega) (by omega), b k hk], fun k hk => by rw [e _ (by omega) (by omega), c k hk]⟩
theorem St_begin_g {K : Nat} {v : Int32} (hK : K ≤ 1680) (e : jmax 0 (jmin v ((Int32.ofNat 1681) - 1)) = nI K) : Ok (St_begin t v m) (fun x => SP x t K (fun k => if k = 0 then 0 else 1000000000) (fun _ => 0) ∧ Fp t (t + 3) m x) := by
  unfold St_begin
  rw [e]
  refine Ok_lt ?_
  refine Ok_for (K + 1) (fun i x => x.1 t 2 = nI K ∧ (∀ k, k < i → x.1 (t + 1) k = enc (if k = 0 then 0 else 1000000000)) ∧ (∀ k, k < i → x.1 (t + 2) k = nI 0) ∧ Fp t (t + 3) m x) ⟨wI_self _ _ _ _, fun k h => by omega, fun k h => by omega, Fp.wI (by omega) (by omega) _ _⟩ (fun i x hi ⟨a, b, d, F⟩ => ?_) (fun x ⟨a, b, d, F⟩ => ?_)
  · have b43 : ∀ v, v = enc (if i = 0 then 0 else 1000000000) → Ok (St_begin_b43 t (nI i) (nI i) v x) (fun r => ∃ m', r = Sum.inl (nI (i + 1), m') ∧ m'.1 t 2 = nI K ∧ (∀ k, k < i + 1 → m'.1 (t + 1) k = enc (if k = 0 then 0 else 1000000000)) ∧ (∀ k, k < i + 1 → m'.1 (t + 2) k = nI 0) ∧ Fp t (t + 3) m m') := by
      intro v hv
      unfold St_begin_b43
      refine Ok_gd (in_nI (by omega) (by decide)) (Ok_lt (Ok_gd (in_nI (by omega) (by decide)) (Ok_lt ?_)))
      rw [ix_nI (by omega)]
      refine Ok_s ⟨_, by rw [nI_1], ?_, fun k hk => ?_, fun k hk => ?_, (F.trans (Fp.wI (by omega) (by omega) _ _)).trans (Fp.wI (by omega) (by omega) _ _)⟩
      · rw [wI_o _ (by omega), wI_o _ (by omega), a]
      · rw [wI_o _ (by omega), wI_at]
        by_cases z : k = i
        · rw [if_pos z, hv, z]
        · rw [if_neg z]; exact b k (by omega)
      · rw [wI_at]
        by_cases z : k = i
        · rw [if_pos z]; rfl
        · rw [if_neg z, wI_o _ (by omega)]; exact d k (by omega)
    show Ok (St_begin_l21 t (nI i) x) _
    unfold St_begin_l21
    rw [show rI x t 2 = nI K from a]
    refine Ok_if (nI_nlt (by omega) (by omega)) ?_
    by_cases z : i = 0
    · exact Ok_it (by rw [z]; rfl) (b43 0 (by rw [if_pos z]; rfl))
    · exact Ok_if (nI_ne0 (by omega) (by omega)) (b43 (-1) (by rw [if_neg z]; rfl))
  · show Ok (St_begin_l21 t (nI (K + 1)) x) _
    unfold St_begin_l21
    rw [show rI x t 2 = nI K from a]
    refine Ok_it (nI_lt (by omega) (by omega)) ?_
    rw [up_some]
    exact Ok_s ⟨_, rfl, ⟨a, fun k hk => b k (by omega), fun k hk => d k (by omega)⟩, F⟩
theorem St_begin_e {K : Nat} (hK : K ≤ 1680) : Ok (St_begin t (nI K) m) (fun x => SP x t K (fun k => if k = 0 then 0 else 1000000000) (fun _ => 0) ∧ Fp t (t + 3) m x) := by
  refine St_begin_g hK ?_
  rw [show (Int32.ofNat 1681) - 1 = nI 1680 from rfl, jmin_nI (by omega) (by decide), show min K 1680 = K by omega, show (0 : Int32) = nI 0 from rfl, jmax_nI (by decide) (by omega), show max 0 K = K by omega]
theorem St_costOf_e (S : SP m t K T A) (hK : K ≤ 1680) {k : Nat} (hk : k ≤ K) : St_costOf t (nI k) m = some (enc (T k)) := by
  unfold St_costOf
  rw [if_neg (nI_pos (by omega)), show rI m t 2 = nI K from S.1, if_neg (nI_nlt hk (by omega)), if_neg (show ¬ Int32.ofNat 1681 ≤ nI k from nI_ge (b := 1681) (by omega) (by decide)), gd_in (by omega) (by decide), ix_nI (by omega)]
  exact congrArg some (S.2.1 k hk)
theorem St_askedUnits_e (S : SP m t K T A) (hK : K ≤ 1680) : St_askedUnits t m = some (nI (A K)) := by
  unfold St_askedUnits
  rw [show rI m t 2 = nI K from S.1, if_neg (nI_pos (by omega)), if_neg (show ¬ Int32.ofNat 1681 ≤ nI K from nI_ge (b := 1681) (by omega) (by decide)), gd_in (by omega) (by decide), ix_nI (by omega)]
  exact congrArg some (S.2.2 K (Nat.le_refl _))
theorem St_off30 {k i : Nat} (hk : k ≤ 1680) (h1 : ∀ r, r ≤ k → m.1 (t + 1) r = enc (T r)) (hb : ∀ k, T k ≤ B ∨ T k = 1000000000) (hB : B + n * w < 1000000000) (hn : n ≤ 20) (hp : p ≤ 99) (f : Int32) (hi : i < n) :
    St_offer_l30 t (nI n) (nI p) (nI w) f (nI k) (nI (usT T p w k i)) (nI (k - usT T p w k i * p)) (enc (bsT T p w k i)) (nI (i + 1)) m = some (.inl (nI (usT T p w k (i + 1)), nI (k - usT T p w k (i + 1) * p), enc (bsT T p w k (i + 1)), nI (i + 1 + 1))) := by
  have c1 : (i + 1) * p ≤ 20 * 99 := Nat.mul_le_mul (by omega) hp
  have c2 : (i + 1) * w ≤ n * w := Nat.mul_le_mul_right w (by omega)
  have r : jmax 0 (nI k - nI (i + 1) * nI p) = nI (k - (i + 1) * p) := by rw [pk_mul, jmax0 (by omega) (by omega)]
  have bl : bsT T p w k i ≤ 1000000000 := by
    have := bs_le (T := T) (p := p) (w := w) (k := k) i
    rcases hb k with z | z <;> omega
  have br := hb (k - (i + 1) * p)
  unfold St_offer_l30 St_offer_b83 St_offer_b105
  rw [if_neg (nI_nlt (by omega) (by omega)), r, gd_in (by omega) (by decide), ix_nI (by omega), show rI m (t + 1) (k - (i + 1) * p) = _ from h1 _ (by omega)]
  by_cases q : T (k - (i + 1) * p) < 1000000000
  · have cb : (i + 1) * w + T (k - (i + 1) * p) < 1000000000 := by rcases br with z | z <;> omega
    rw [if_neg (fun z => enc_m.mp z q), enc_t q, show nI (T (k - (i + 1) * p)) + nI (i + 1) * nI w = nI ((i + 1) * w + T (k - (i + 1) * p)) by rw [pk_mul, nI_add, Nat.add_comm], gd_in (by omega) (by decide), gd_in (by omega) (by decide)]
    by_cases q2 : bsT T p w k i < 1000000000
    · rw [if_neg (fun z => enc_m.mp z q2)]
      by_cases q3 : (i + 1) * w + T (k - (i + 1) * p) < bsT T p w k i
      · rw [enc_t q2, if_neg (nI_ge q3 (by omega)), (bs_y q3).1, (bs_y q3).2, enc_t cb, nI_1]
      · rw [(bs_n q3).1, (bs_n q3).2, enc_t q2, if_pos (nI_le (by omega) (by omega)), nI_1]
    · have q3 : (i + 1) * w + T (k - (i + 1) * p) < bsT T p w k i := by omega
      rw [if_pos (enc_m.mpr q2), (bs_y q3).1, (bs_y q3).2, enc_t cb, nI_1]
  · have q3 : ¬ (i + 1) * w + T (k - (i + 1) * p) < bsT T p w k i := by omega
    rw [if_pos (enc_m.mpr q), (bs_n q3).1, (bs_n q3).2, nI_1]
theorem St_off6 {k : Nat} (hk : k ≤ 1680) (k1 : 1 ≤ k) (h1 : ∀ r, r ≤ k → m.1 (t + 1) r = enc (T r)) (h2 : ∀ r, r ≤ k → m.1 (t + 2) r = nI (A r)) (hb : ∀ k, T k ≤ B ∨ T k = 1000000000) (hB : B + n * w < 1000000000) (hn : n ≤ 20) (hp : p ≤ 99) (f : Int32) :
    St_offer_l6 t (nI n) (nI p) (nI w) f (nI k) m = some (.inl (nI k + -1, wI (wI m (t + 1) k (enc (bsT T p w k n))) (t + 2) k (nI (if f = 0 then A (k - usT T p w k n * p) else usT T p w k n)))) := by
  unfold St_offer_l6
  rw [if_neg (nI_nle (by omega) (by omega)), gd_in (by omega) (by decide), ix_nI (by omega), show rI m (t + 1) k = _ from h1 k (Nat.le_refl _)]
  refine loop_cnt n (fun i => (nI (usT T p w k i), nI (k - usT T p w k i * p), enc (bsT T p w k i), nI (i + 1))) ?_ (fun i hi => St_off30 hk h1 hb hB hn hp f hi) ?_
  · show (nI 0, nI (k - 0 * p), enc (T k), nI (0 + 1)) = _
    rw [Nat.zero_mul, Nat.sub_zero]
    rfl
  · show St_offer_l30 t (nI n) (nI p) (nI w) f (nI k) (nI (usT T p w k n)) (nI (k - usT T p w k n * p)) (enc (bsT T p w k n)) (nI (n + 1)) m = _
    unfold St_offer_l30 St_offer_b143
    rw [if_pos (nI_lt (by omega) (by omega)), gd_in (by omega) (by decide), ix_nI (by omega)]
    unfold lt
    dsimp only
    rw [ix_nI (by omega), show rI (wI m (t + 1) k (enc (bsT T p w k n))) (t + 2) (k - usT T p w k n * p) = nI (A (k - usT T p w k n * p)) from (wI_o m (by omega) _ _).trans (h2 _ (by omega))]
    by_cases z : f = 0
    · rw [if_pos z, if_pos z, gd_in (by omega) (by decide), gd_in (by omega) (by decide)]
      rfl
    · rw [if_neg z, if_neg z, gd_in (by omega) (by decide)]
      rfl
theorem St_offer_e (S : SP m t K T A) (hK : K ≤ 1680) (h0 : T 0 = 0) (a0 : A 0 = 0) (hb : ∀ k, T k ≤ B ∨ T k = 1000000000) (hB : B + n * w < 1000000000) (hn : n ≤ 20) (hp : p ≤ 99) (f : Int32) :
    Ok (St_offer t (nI n) (nI p) (nI w) f m) (fun x => SP x t K (fun k => bsT T p w k n) (fun k => if f = 0 then A (k - usT T p w k n * p) else usT T p w k n) ∧ Fp (t + 1) (t + 3) m x) := by
  unfold St_offer
  rw [show rI m t 2 = nI K from S.1]
  refine Ok_loop K (fun j x => (nI (K - j), x)) (fun j x => x.1 t 2 = nI K ∧ (∀ k, k ≤ K → x.1 (t + 1) k = enc (if K - j < k then bsT T p w k n else T k)) ∧ (∀ k, k ≤ K → x.1 (t + 2) k = nI (if K - j < k then (if f = 0 then A (k - usT T p w k n * p) else usT T p w k n) else A k)) ∧ Fp (t + 1) (t + 3) m x) m rfl ⟨S.1, fun k hk => by rw [if_neg (by omega)]; exact S.2.1 k hk, fun k hk => by rw [if_neg (by omega)]; exact S.2.2 k hk, Fp.refl⟩ (fun j x hj ⟨a, b, d, F⟩ => ?_) (fun x ⟨a, b, d, F⟩ => ?_)
  · refine Ok_e (St_off6 (T := T) (A := A) (B := B) (by omega) (by omega) (fun r hr => by rw [b r (by omega), if_neg (by omega)]) (fun r hr => by rw [d r (by omega), if_neg (by omega)]) hb hB hn hp f) ⟨_, by rw [show nI (K - j) + -1 = nI (K - (j + 1)) by rw [show K - (j + 1) = K - j - 1 by omega, ← nI_p1 (show 1 ≤ K - j by omega), Int32.sub_eq_add_neg]], ?_, fun k hk => ?_, fun k hk => ?_, (F.trans (Fp.wI (by omega) (by omega) _ _)).trans (Fp.wI (by omega) (by omega) _ _)⟩
    · rw [wI_o _ (by omega), wI_o _ (by omega), a]
    · rw [wI_o _ (by omega), wI_at]
      by_cases z : k = K - j
      · rw [if_pos z, if_pos (by omega), z]
      · rw [if_neg z, b k hk]
        by_cases y : K - j < k
        · rw [if_pos y, if_pos (by omega)]
        · rw [if_neg y, if_neg (by omega)]
    · rw [wI_at]
      by_cases z : k = K - j
      · rw [if_pos z, if_pos (show K - (j + 1) < k by omega), z]
      · rw [if_neg z, wI_o _ (by omega), d k hk]
        by_cases y : K - j < k
        · rw [if_pos y, if_pos (show K - (j + 1) < k by omega)]
        · rw [if_neg y, if_neg (show ¬ K - (j + 1) < k by omega)]
  · show Ok (St_offer_l6 t (nI n) (nI p) (nI w) f (nI (K - K)) x) _
    unfold St_offer_l6
    rw [Nat.sub_self]
    refine Ok_it (by decide) ?_
    rw [up_some]
    refine Ok_s ⟨_, rfl, ⟨a, fun k hk => ?_, fun k hk => ?_⟩, F⟩
    · rw [b k hk]
      by_cases z : k = 0
      · rw [if_neg (by omega), z, h0]
        show enc 0 = enc (bsT T p w 0 n)
        rw [(bst_0 h0 n).1]
      · rw [if_pos (by omega)]
    · rw [d k hk]
      by_cases z : k = 0
      · rw [if_neg (by omega), z, a0]
        show nI 0 = nI (if f = 0 then A (0 - usT T p w 0 n * p) else usT T p w 0 n)
        rw [Nat.zero_sub, a0, (bst_0 h0 n).2]
        split <;> rfl
      · rw [if_pos (by omega)]
end ST
end KNAP

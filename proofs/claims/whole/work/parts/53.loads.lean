/-! least, load, lasts -/
section LOADS
variable {m : Mem} {c t : Nat} {W : Wd}
def ldI (W : Wd) (kd : Nat) : Ki := fun s => (decide (wso W s 0 = kd), wso W s 3, wso W s 1, wso W s 2)
abbrev ldT (W : Wd) (kd j : Nat) : Nat → Nat := knT (ldI W kd) (W 6) j
abbrev ldA (W : Wd) (kd : Nat) (a : Int32) (j : Nat) : Nat → Nat := knA (ldI W kd) (fun s => decide (nI s = a)) (W 6) j
theorem ld_KB (I : Inv W) (kd : Nat) : KB (ldI W kd) (W 6) 1980 := fun s hs _ => by
  obtain ⟨-, -, a, -, b, d, -⟩ := I.S hs
  exact ⟨d, a, Nat.le_trans (Nat.mul_le_mul d b) (by decide)⟩
theorem ld_N (I : Inv W) : W 6 * 1980 ≤ 11880 := Nat.le_trans (Nat.mul_le_mul_right 1980 I.d.2.2.2.2.2.1) (by decide)
theorem ld_le (I : Inv W) (kd : Nat) {j : Nat} (hj : j ≤ W 6) (k : Nat) : ldT W kd j k ≤ 11880 ∨ ldT W kd j k = 1000000000 := by
  have a := ld_N I
  have b := Nat.mul_le_mul_right 1980 hj
  rcases kn_b (ld_KB I kd) j hj k with h | h
  · exact Or.inl (Nat.le_trans h (Nat.le_trans b a))
  · exact Or.inr h
theorem ld_f (I : Inv W) (kd : Nat) {j : Nat} (hj : j ≤ W 6) (k : Nat) : ldT W kd j k ≤ 1000000000 := by
  rcases ld_le I kd hj k with h | h <;> omega
theorem SP.to {K : Nat} {T A T' A' : Nat → Nat} (S : SP m t K T A) (h1 : T = T') (h2 : A = A') : SP m t K T' A' := by
  rw [← h1, ← h2]
  exact S
theorem St_loadOf_e (R : CR m c W) (I : Inv W) (hct : c + 40 ≤ t) {kd K : Nat} (hkd : kd ≤ 3) (hK : K ≤ 1680) (a : Int32) :
    Ok (St_loadOf t (c + 1) (nI kd) (nI K) a m) (fun r => r.1 = (if toldN W kd then enc (ldT W kd (W 6) K) else 0) ∧ (toldN W kd → SP r.2 t K (ldT W kd (W 6)) (ldA W kd a (W 6))) ∧ Fp t (t + 3) m r.2) := by
  have d := I.d
  unfold St_loadOf
  rw [Fl_tells_e R I hkd, bind_s, ite_b2]
  by_cases ht : toldN W kd
  · rw [if_pos ht]
    refine Ok_bind (St_begin_e hK) (fun m1 ⟨S1, F1⟩ => ?_)
    rw [show rI m1 (c + 1 + 10) 1 = nI (W 6) from cnS (R.fp I F1 (by omega))]
    refine Ok_loop (W 6) (fun j x => (nI (W 6 - j) - 1, x)) (fun j x => SP x t K (ldT W kd j) (ldA W kd a j) ∧ Fp t (t + 3) m x) m1 rfl ⟨S1, F1⟩ (fun j x hj ⟨S, F⟩ => ?_) (fun x ⟨S, F⟩ => ?_)
    · have Rx := R.fp I F (by omega)
      have e1 : nI (W 6 - j) - 1 = nI (W 6 - 1 - j) := by rw [nI_p1 (by omega), show W 6 - j - 1 = W 6 - 1 - j by omega]
      have e2 : nI (W 6 - 1 - j) + -1 = nI (W 6 - (j + 1)) - 1 := by rw [Int32.sub_eq_add_neg, show W 6 - 1 - j = W 6 - (j + 1) by omega]
      have b := (I.S (show W 6 - 1 - j < W 6 by omega)).1
      show Ok (St_loadOf_l26 t (c + 1) (nI kd) a (nI (W 6 - j) - 1) x) _
      unfold St_loadOf_l26 St_loadOf_b88 St_loadOf_b91
      rw [e1, e2]
      refine Ok_if (nI_pos (by omega)) (Ok_b (tS0 Rx I (by omega)) ?_)
      by_cases q : wso W (W 6 - 1 - j) 0 = kd
      · have q' : (ldI W kd (W 6 - 1 - j)).1 = true := decide_eq_true q
        have kb := ld_KB I kd (W 6 - 1 - j) (by omega) q'
        have N1 := ld_N I
        have N2 := Nat.mul_le_mul_right 1980 (show j ≤ W 6 by omega)
        refine Ok_it (congrArg nI q) (Ok_b (tS3 Rx I (by omega)) (Ok_b (tS1 Rx I (by omega)) (Ok_b (tS2 Rx I (by omega)) ?_)))
        have of := St_offer_e S hK (kn_0 j) (ka_0 j) (kn_b (ld_KB I kd) j (by omega)) (n := wso W (W 6 - 1 - j) 3) (p := wso W (W 6 - 1 - j) 1) (w := wso W (W 6 - 1 - j) 2) (by have := kb.2.2; unfold ldI at this; simp only at this; omega) kb.1 kb.2.1
        by_cases z : nI (W 6 - 1 - j) = a
        · refine Ok_it z (Ok_bind (of 1) (fun y ⟨S2, F2⟩ => Ok_s ⟨y, rfl, S2.to (kn_y q').symm ?_, F.trans (F2.wide (by omega) (by omega))⟩))
          refine Eq.trans ?_ (ka_y q').symm
          funext k
          show _ = (if decide (nI (W 6 - 1 - j) = a) = true then _ else _)
          rw [if_pos (decide_eq_true z), if_neg (by decide)]
          rfl
        · refine Ok_if z (Ok_bind (of 0) (fun y ⟨S2, F2⟩ => Ok_s ⟨y, rfl, S2.to (kn_y q').symm ?_, F.trans (F2.wide (by omega) (by omega))⟩))
          refine Eq.trans ?_ (ka_y q').symm
          funext k
          show _ = (if decide (nI (W 6 - 1 - j) = a) = true then _ else _)
          rw [if_neg (fun h => z (of_decide_eq_true h)), if_pos rfl]
          rfl
      · have q' : ¬ (ldI W kd (W 6 - 1 - j)).1 = true := fun h => q (of_decide_eq_true h)
        exact Ok_if (fun z => q ((nI_eq (by omega) (by omega)).mp z)) (Ok_s ⟨x, rfl, S.to (kn_n q').symm (ka_n q').symm, F⟩)
    · show Ok (St_loadOf_l26 t (c + 1) (nI kd) a (nI (W 6 - W 6) - 1) x) _
      unfold St_loadOf_l26
      rw [Nat.sub_self, show rI x t 2 = nI K from S.1, St_costOf_e S hK (Nat.le_refl K), bind_s]
      refine Ok_it (by decide) ?_
      rw [up_some]
      exact Ok_s ⟨_, rfl, (if_pos ht).symm, fun _ => S, F⟩
  · rw [if_neg ht]
    exact Ok_s ⟨(if_neg ht).symm, fun h => absurd h ht, Fp.refl⟩
/-! the reference's rows -/
def LR (m : Mem) (W : Wd) (kd K lo : Nat) : Prop := ∀ j, j ≤ lo → ∀ k, k ≤ K → m.1 310 (1681 * (W 6 - j) + k) = nI (ldT W kd j k)
theorem LR.w {kd K lo a : Nat} (L : LR m W kd K lo) (v : Int32) (h : ∀ j, j ≤ lo → ∀ k, k ≤ K → 1681 * (W 6 - j) + k ≠ a) : LR (wI m 310 a v) W kd K lo := fun j hj k hk => by
  rw [wI_at, if_neg (h j hj k hk)]
  exact L j hj k hk
theorem ix_row {s k : Nat} (hs : s ≤ 6) (hk : k ≤ 1680) : (1681 : Int32) * nI s + nI k = nI (1681 * s + k) ∧ 1681 * s + k < 11767 := by
  refine ⟨?_, by omega⟩
  rw [show (1681 : Int32) = nI 1681 from rfl, pk_mul, nI_add]
theorem Mo_lrow (hW : MW m W) (I : Inv W) {kd K j k : Nat} (hkd : kd ≤ 3) (hK : K ≤ 1680) (hj : j < W 6) (hk : k ≤ K) (L : LR m W kd K j) :
    Mo_loads_l61 298 (nI kd) (nI K) (nI (W 6 - 1 - j)) (nI k) m = some (.inl (nI (k + 1), wI m 310 (1681 * (W 6 - 1 - j) + k) (nI (ldT W kd (j + 1) k)))) := by
  have d := I.d
  obtain ⟨b0, b1, b2, b3, b4, b5, -⟩ := I.S (show W 6 - 1 - j < W 6 by omega)
  have row : ∀ k, k ≤ K → (gd (inb ((1681 : Int32) * (nI (W 6 - 1 - j) + 1) + nI k) 11767) (some (0 : Int32)) = some 0) ∧ rI m (298 + 12) (ix ((1681 : Int32) * (nI (W 6 - 1 - j) + 1) + nI k)) = nI (ldT W kd j k) := by
    intro k hk
    have e := ix_row (s := W 6 - 1 - j + 1) (k := k) (by omega) (by omega)
    rw [nI_1, e.1, ix_nI (by omega)]
    refine ⟨gd_in e.2 (by decide), ?_⟩
    rw [show W 6 - 1 - j + 1 = W 6 - j by omega]
    exact L j (Nat.le_refl _) k hk
  have inr : ∀ k, k ≤ K → inb ((1681 : Int32) * (nI (W 6 - 1 - j) + 1) + nI k) 11767 := by
    intro k hk
    have e := ix_row (s := W 6 - 1 - j + 1) (k := k) (by omega) (by omega)
    rw [nI_1, e.1]
    exact in_nI e.2 (by decide)
  have lf := ld_f I kd (j := j + 1) (by omega) k
  have ex : ∀ r, r = ldT W kd (j + 1) k → Mo_loads_b166 298 (nI kd) (nI K) (nI (W 6 - 1 - j)) (nI k) (nI r) m = some (.inl (nI (k + 1), wI m 310 (1681 * (W 6 - 1 - j) + k) (nI (ldT W kd (j + 1) k)))) := by
    intro r hr
    have e := ix_row (s := W 6 - 1 - j) (k := k) (by omega) (by omega)
    unfold Mo_loads_b166
    rw [e.1, gd_in e.2 (by decide), ix_nI (by omega), hr, show (1000000000 : Int32) = nI 1000000000 from rfl, jmin_nI (by decide) (by omega), Nat.min_eq_right lf, nI_1]
    rfl
  unfold Mo_loads_l61
  rw [if_neg (nI_nlt (by omega) (by omega)), gd_t (inr k hk), (row k hk).2]
  by_cases q : wso W (W 6 - 1 - j) 0 = kd
  · have q' : (ldI W kd (W 6 - 1 - j)).1 = true := decide_eq_true q
    have ev : ldT W kd (j + 1) k = bsT (ldT W kd j) (wso W (W 6 - 1 - j) 1) (wso W (W 6 - 1 - j) 2) k (wso W (W 6 - 1 - j) 3) := by
      show knT (ldI W kd) (W 6) (j + 1) k = _
      rw [kn_y q']
      rfl
    refine loop_cnt (wso W (W 6 - 1 - j) 3) (fun i => (nI (bsT (ldT W kd j) (wso W (W 6 - 1 - j) 1) (wso W (W 6 - 1 - j) 2) k i), nI (i + 1))) rfl (fun i hi => ?_) ?_
    · have c1 : (i + 1) * wso W (W 6 - 1 - j) 1 ≤ 20 * 99 := Nat.mul_le_mul (by omega) b2
      have c2 : (i + 1) * wso W (W 6 - 1 - j) 2 ≤ 20 * 99 := Nat.mul_le_mul (by omega) b4
      have l1 := ld_f I kd (j := j) (by omega) k
      have l2 := ld_f I kd (j := j) (by omega) (k - (i + 1) * wso W (W 6 - 1 - j) 1)
      have l3 := bs_le (T := ldT W kd j) (p := wso W (W 6 - 1 - j) 1) (w := wso W (W 6 - 1 - j) 2) (k := k) i
      show Mo_loads_l88 298 (nI kd) (nI K) (nI (W 6 - 1 - j)) (nI k) (nI (bsT (ldT W kd j) (wso W (W 6 - 1 - j) 1) (wso W (W 6 - 1 - j) 2) k i)) (nI (i + 1)) m = _
      unfold Mo_loads_l88
      rw [qS3 hW (by omega), bind_s, if_neg (nI_nlt (by omega) (by omega)), qS0 hW (by omega), bind_s, if_pos (congrArg nI q), qS2 hW (by omega), bind_s, qS1 hW (by omega), bind_s]
      rw [show jmax 0 (nI k - nI (i + 1) * nI (wso W (W 6 - 1 - j) 1)) = nI (k - (i + 1) * wso W (W 6 - 1 - j) 1) by rw [pk_mul, jmax0 (by omega) (by omega)]]
      rw [gd_t (inr _ (by omega)), (row _ (by omega)).2, pk_mul, nI_add, jmin_nI (by omega) (by omega), nI_1]
      rfl
    · show Mo_loads_l88 298 (nI kd) (nI K) (nI (W 6 - 1 - j)) (nI k) (nI (bsT (ldT W kd j) (wso W (W 6 - 1 - j) 1) (wso W (W 6 - 1 - j) 2) k (wso W (W 6 - 1 - j) 3))) (nI (wso W (W 6 - 1 - j) 3 + 1)) m = _
      unfold Mo_loads_l88
      rw [qS3 hW (by omega), bind_s, if_pos (nI_lt (by omega) (by omega)), ex _ ev.symm]
      rfl
  · have q' : ¬ (ldI W kd (W 6 - 1 - j)).1 = true := fun h => q (of_decide_eq_true h)
    have ev : ldT W kd (j + 1) k = ldT W kd j k := by
      show knT (ldI W kd) (W 6) (j + 1) k = _
      rw [kn_n q']
    refine loop_out ?_
    show Mo_loads_l88 298 (nI kd) (nI K) (nI (W 6 - 1 - j)) (nI k) (nI (ldT W kd j k)) 1 m = _
    unfold Mo_loads_l88
    rw [qS3 hW (by omega), bind_s, qS0 hW (by omega), bind_s, if_neg (fun z => q ((nI_eq (by omega) (by omega)).mp z)), ex _ ev.symm]
    split <;> rfl
theorem Mo_loads_e (hW : MW m W) (I : Inv W) {kd K : Nat} (hkd : kd ≤ 3) (hK : K ≤ 1680) : Ok (Mo_loads 298 (nI kd) (nI K) m) (fun x => LR x W kd K (W 6) ∧ Fp 310 311 m x) := by
  have d := I.d
  unfold Mo_loads
  rw [gd_t (by decide), qW6 hW]
  refine Ok_for (K + 1) (fun i x => (∀ k, k < i → x.1 310 (1681 * W 6 + k) = nI (if k = 0 then 0 else 1000000000)) ∧ Fp 310 311 m x) ⟨fun k h => by omega, Fp.refl⟩ (fun i x hi ⟨a, F⟩ => ?_) (fun x ⟨a, F⟩ => ?_)
  · have e := ix_row (s := W 6) (k := i) (by omega) (by omega)
    have b41 : ∀ v, v = nI (if i = 0 then 0 else 1000000000) → Ok (Mo_loads_b41 298 (nI kd) (nI K) (nI (W 6)) (nI i) (nI (1681 * W 6 + i)) v x) (fun r => ∃ m', r = Sum.inl (nI (i + 1), m') ∧ (∀ k, k < i + 1 → m'.1 310 (1681 * W 6 + k) = nI (if k = 0 then 0 else 1000000000)) ∧ Fp 310 311 m m') := by
      intro v hv
      unfold Mo_loads_b41
      refine Ok_gd (in_nI e.2 (by decide)) (Ok_lt ?_)
      rw [ix_nI (by omega)]
      refine Ok_s ⟨_, by rw [nI_1], fun k hk => ?_, F.trans (Fp.wI (by omega) (by omega) _ _)⟩
      rw [show 298 + 12 = 310 from rfl, wI_at]
      by_cases z : k = i
      · rw [if_pos (by omega), hv, z]
      · rw [if_neg (by omega)]; exact a k (by omega)
    show Ok (Mo_loads_l11 298 (nI kd) (nI K) (nI (W 6)) (nI i) x) _
    unfold Mo_loads_l11
    rw [e.1]
    refine Ok_if (nI_nlt (by omega) (by omega)) ?_
    by_cases z : i = 0
    · exact Ok_it (by rw [z]; rfl) (b41 0 (by rw [if_pos z]; rfl))
    · exact Ok_if (nI_ne0 (by omega) (by omega)) (b41 1000000000 (by rw [if_neg z]; rfl))
  · show Ok (Mo_loads_l11 298 (nI kd) (nI K) (nI (W 6)) (nI (K + 1)) x) _
    unfold Mo_loads_l11
    refine Ok_it (nI_lt (by omega) (by omega)) (Ok_up (P := fun y => LR y W kd K (W 6) ∧ Fp 310 311 m y) ?_ (fun r hr => ⟨_, rfl, hr⟩))
    refine Ok_loop (W 6) (fun j x => (nI (W 6 - j) - 1, x)) (fun j x => LR x W kd K j ∧ Fp 310 311 m x) x rfl ⟨fun j hj k hk => ?_, F⟩ (fun j y hj ⟨L, G⟩ => ?_) (fun y ⟨L, G⟩ => ?_)
    · rw [show j = 0 by omega]
      exact a k (by omega)
    · have e1 : nI (W 6 - j) - 1 = nI (W 6 - 1 - j) := by rw [nI_p1 (by omega), show W 6 - j - 1 = W 6 - 1 - j by omega]
      have e2 : nI (W 6 - 1 - j) + -1 = nI (W 6 - (j + 1)) - 1 := by rw [Int32.sub_eq_add_neg, show W 6 - 1 - j = W 6 - (j + 1) by omega]
      show Ok (Mo_loads_l53 298 (nI kd) (nI K) (nI (W 6 - j) - 1) y) _
      unfold Mo_loads_l53
      rw [e1]
      refine Ok_if (nI_pos (by omega)) ?_
      refine Ok_for (K + 1) (fun i z => LR z W kd K j ∧ (∀ k, k < i → z.1 310 (1681 * (W 6 - 1 - j) + k) = nI (ldT W kd (j + 1) k)) ∧ Fp 310 311 m z) ⟨L, fun k h => by omega, G⟩ (fun i z hi ⟨L2, b, G2⟩ => ?_) (fun z ⟨L2, b, G2⟩ => ?_)
      · refine Ok_e (Mo_lrow (hW.fp G2 (by omega)) I hkd hK hj (by omega) L2) ⟨_, rfl, L2.w _ (fun j' hj' k hk => by omega), fun k hk => ?_, G2.trans (Fp.wI (by omega) (by omega) _ _)⟩
        rw [wI_at]
        by_cases q : k = i
        · rw [if_pos (by omega), q]
        · rw [if_neg (by omega)]; exact b k (by omega)
      · show Ok (Mo_loads_l61 298 (nI kd) (nI K) (nI (W 6 - 1 - j)) (nI (K + 1)) z) _
        unfold Mo_loads_l61
        refine Ok_it (nI_lt (by omega) (by omega)) ?_
        rw [up_some, e2]
        refine Ok_s ⟨_, rfl, z, rfl, fun j' hj' k hk => ?_, G2⟩
        by_cases q : j' = j + 1
        · rw [q, show W 6 - (j + 1) = W 6 - 1 - j by omega]
          exact b k (by omega)
        · exact L2 j' (by omega) k hk
    · show Ok (Mo_loads_l53 298 (nI kd) (nI K) (nI (W 6 - W 6) - 1) y) _
      unfold Mo_loads_l53
      rw [Nat.sub_self]
      refine Ok_it (by decide) ?_
      rw [up_some]
      exact Ok_s ⟨_, rfl, L, G⟩
def ldV (W : Wd) (p d kd : Nat) : Nat := if toldN W kd then ldT W kd (W 6) (needN d p kd) else 0
theorem ldV_le (I : Inv W) (p d kd : Nat) : ldV W p d kd ≤ 11880 ∨ ldV W p d kd = 1000000000 := by
  unfold ldV
  split
  · exact ld_le I kd (Nat.le_refl _) _
  · exact Or.inl (by omega)
theorem ndK {p d : Nat} (hp : p ≤ 28) (hd : d ≤ 60) (kd : Nat) : needN d p kd ≤ 1680 := by
  have : p * d ≤ 28 * 60 := Nat.mul_le_mul hp hd
  unfold needN
  split <;> omega
theorem Mo_loadOf_e (hW : MW m W) (I : Inv W) {p d kd : Nat} (hp : p ≤ 28) (hd : d ≤ 60) (hkd : kd ≤ 3) :
    Ok (Mo_loadOf 298 (nI p) (nI d) (nI kd) m) (fun r => r.1 = enc (ldV W p d kd) ∧ (toldN W kd → LR r.2 W kd (needN d p kd) (W 6)) ∧ Fp 310 311 m r.2) := by
  have K := ndK hp hd kd
  unfold Mo_loadOf ldV
  rw [Mo_isTold_e hW I hkd, bind_s, ite_b2]
  by_cases ht : toldN W kd
  · rw [if_pos ht, if_pos ht, Mo_needOf_e m p d kd hkd, bind_s]
    refine Ok_bind (Mo_loads_e hW I hkd K) (fun x ⟨L, F⟩ => ?_)
    have e : rI x (298 + 12) (ix (nI (needN d p kd))) = nI (ldT W kd (W 6) (needN d p kd)) := by
      rw [ix_nI (by omega)]
      have := L (W 6) (Nat.le_refl _) _ (Nat.le_refl _)
      rw [Nat.sub_self, Nat.mul_zero, Nat.zero_add] at this
      exact this
    have lf := ld_f I kd (Nat.le_refl _) (needN d p kd)
    rw [e, gd_in (by omega) (by decide), gd_in (by omega) (by decide)]
    by_cases q : ldT W kd (W 6) (needN d p kd) < 1000000000
    · exact Ok_it (show _ < nI 1000000000 from nI_lt q (by decide)) (Ok_s ⟨(enc_t q).symm, fun _ => L, F⟩)
    · exact Ok_if (show ¬ _ < nI 1000000000 from nI_nlt (by omega) (by omega)) (Ok_s ⟨(if_neg q).symm, fun _ => L, F⟩)
  · rw [if_neg ht, if_neg ht]
    exact Ok_s ⟨rfl, fun h => absurd h ht, Fp.refl⟩
theorem St_loadV_e (R : CR m c W) (I : Inv W) (hct : c + 40 ≤ t) {p d kd : Nat} (hp : p ≤ 28) (hd : d ≤ 60) (hkd : kd ≤ 3) (a : Int32) :
    Ok (St_loadOf t (c + 1) (nI kd) (nI (needN d p kd)) a m) (fun r => r.1 = enc (ldV W p d kd) ∧ (toldN W kd → SP r.2 t (needN d p kd) (ldT W kd (W 6)) (ldA W kd a (W 6))) ∧ Fp t (t + 3) m r.2) :=
  Ok_mono (St_loadOf_e R I hct hkd (ndK hp hd kd) a) (fun r ⟨h1, h2, h3⟩ => ⟨by rw [h1]; unfold ldV; split <;> rfl, h2, h3⟩)
/-! all kinds -/
def alI (f : Nat → Int32) : Nat → Nat → Int32 → Int32
  | 0, _, a => a
  | n + 1, k, a => if f k = -1 then -1 else alI f n (k + 1) (a + f k)
theorem Ok_all {m0 : Mem} {b : Int32 × Int32 × Mem → Option ((Int32 × Int32 × Mem) ⊕ (Int32 × Mem))} (lo hi : Nat) (f : Nat → Int32) (hs : ∀ k a x, k < 4 → Fp lo hi m0 x → Ok (b (a, nI k, x)) (fun r => ∃ x', Fp lo hi m0 x' ∧ r = if f k = -1 then .inr (-1, x') else .inl (a + f k, nI (k + 1), x')))
    (hx : ∀ a x, b (a, nI 4, x) = some (.inr (a, x))) : ∀ n k a x, k + n = 4 → Fp lo hi m0 x → Ok (loop b (a, nI k, x)) (fun r => r.1 = alI f n k a ∧ Fp lo hi m0 r.2)
  | 0, k, a, x, h, F => by
    rw [show k = 4 by omega]
    exact Ok_e (loop_out (hx a x)) ⟨rfl, F⟩
  | n + 1, k, a, x, h, F => by
    obtain ⟨r, e, y, G, hr⟩ := hs k a x (by omega) F
    unfold alI
    by_cases q : f k = -1
    · rw [if_pos q] at hr ⊢
      exact Ok_e (loop_out (e.trans (congrArg some hr))) ⟨rfl, G⟩
    · rw [if_neg q] at hr ⊢
      rw [show loop b (a, nI k, x) = loop b (a + f k, nI (k + 1), y) from loop_in (e.trans (congrArg some hr))]
      exact Ok_all lo hi f hs hx n (k + 1) (a + f k) y (by omega) G
theorem Mo_loadOfAll_e (hW : MW m W) (I : Inv W) {p d : Nat} (hp : p ≤ 28) (hd : d ≤ 60) : Ok (Mo_loadOfAll 298 (nI p) (nI d) m) (fun r => r.1 = alI (fun k => enc (ldV W p d k)) 4 0 0 ∧ Fp 310 311 m r.2) := by
  unfold Mo_loadOfAll
  refine Ok_all 310 311 (fun k => enc (ldV W p d k)) (fun k a x hk F => ?_) (fun a x => ?_) 4 0 0 m rfl Fp.refl
  · show Ok (Mo_loadOfAll_l5 298 (nI p) (nI d) a (nI k) x) _
    unfold Mo_loadOfAll_l5
    refine Ok_if (show ¬ nI 4 ≤ nI k from nI_ge hk (by decide)) (Ok_bind (Mo_loadOf_e (hW.fp F (by omega)) I hp hd (show k ≤ 3 by omega)) (fun r ⟨h1, _, h3⟩ => ?_))
    rw [h1]
    by_cases q : enc (ldV W p d k) = -1
    · refine Ok_it q ?_
      rw [up_some]
      exact Ok_s ⟨_, F.trans h3, by rw [if_pos q]⟩
    · exact Ok_if q (Ok_s ⟨_, F.trans h3, by rw [if_neg q, nI_1]⟩)
  · show Mo_loadOfAll_l5 298 (nI p) (nI d) a (nI 4) x = _
    unfold Mo_loadOfAll_l5
    rw [if_pos (show (4 : Int32) ≤ nI 4 by decide), up_some]
theorem St_loadOfKinds_e (R : CR m c W) (I : Inv W) (hct : c + 40 ≤ t) {p d v : Nat} (hp : p ≤ 28) (hd : d ≤ 60) (hv : v ≤ 4) : Ok (St_loadOfKinds t (c + 1) (nI v) (nI p) (nI d) m) (fun r => r.1 = alI (fun k => enc (ldV W p d k)) (4 - v) v 0 ∧ Fp t (t + 3) m r.2) := by
  unfold St_loadOfKinds
  refine Ok_all t (t + 3) (fun k => enc (ldV W p d k)) (fun k a x hk F => ?_) (fun a x => ?_) (4 - v) v 0 m (by omega) Fp.refl
  · show Ok (St_loadOfKinds_l6 t (c + 1) (nI p) (nI d) a (nI k) x) _
    unfold St_loadOfKinds_l6
    refine Ok_if (show ¬ nI 4 ≤ nI k from nI_ge hk (by decide)) (Ok_b (PL_neededOf_e x (show k ≤ 3 by omega)) (Ok_bind (St_loadV_e (R.fp I F (by omega)) I hct hp hd (show k ≤ 3 by omega) (-1)) (fun r ⟨h1, _, h3⟩ => ?_)))
    rw [h1]
    by_cases q : enc (ldV W p d k) = -1
    · refine Ok_it q ?_
      rw [up_some]
      exact Ok_s ⟨_, F.trans h3, by rw [if_pos q]⟩
    · exact Ok_if q (Ok_s ⟨_, F.trans h3, by rw [if_neg q, nI_1]⟩)
  · show St_loadOfKinds_l6 t (c + 1) (nI p) (nI d) a (nI 4) x = _
    unfold St_loadOfKinds_l6
    rw [if_pos (show (4 : Int32) ≤ nI 4 by decide), up_some]
theorem PL_isCrew_e (m : Mem) (x y : Int32) : PL_isCrew x y m = some (b2 (inb x 29 ∧ inb y 61)) := by
  unfold PL_isCrew
  rw [show (28 : Int32) = nI 28 from rfl, show (60 : Int32) = nI 60 from rfl, ite_rgt (by decide), ite_rgt (by decide)]
  by_cases h : inb x 29
  · rw [if_pos h]
    by_cases k : inb y 61
    · rw [if_pos k, b2_t ⟨h, k⟩]
    · rw [if_neg k, b2_f (fun z => k z.2)]
  · rw [if_neg h, b2_f (fun z => h z.1)]
theorem Mo_isLoad_e (m : Mem) (x y : Int32) : Mo_isLoad x y m = some (b2 (inb x 29 ∧ inb y 61)) := by
  unfold Mo_isLoad
  rw [in0 m x (n := 29) (by decide) (by decide), bind_s, ite_b2]
  by_cases h : inb x 29
  · rw [if_pos h, in0 m y (n := 61) (by decide) (by decide), bind_s, ite_b2]
    by_cases k : inb y 61
    · rw [if_pos k, b2_t ⟨h, k⟩]
    · rw [if_neg k, b2_f (fun z => k z.2)]
  · rw [if_neg h, b2_f (fun z => h z.1)]
theorem ite_r4 {X : Type} (x : Int32) (p q : X) : (if x < -1 then p else if x < 4 then q else p) = if -1 ≤ x ∧ x ≤ 3 then q else p := by
  have h : (x < 4) = (x ≤ 3) := by
    rw [Int32.lt_iff_toInt_lt, Int32.le_iff_toInt_le, show (4 : Int32).toInt = 4 from rfl, show (3 : Int32).toInt = 3 from rfl]
    exact propext ⟨fun z => by omega, fun z => by omega⟩
  rw [← ite_rab]
  simp only [h]
theorem r4_of {x : Int32} (h : -1 ≤ x ∧ x ≤ 3) : x = -1 ∨ ∃ k, k ≤ 3 ∧ x = nI k ∧ x ≠ -1 := by
  rcases rng x (n := 4) (by decide) with ⟨p, -⟩ | ⟨p, q, -⟩ | ⟨j, hj, rfl⟩
  · refine Or.inl (Int32.toInt_inj.mp ?_)
    have a := Int32.le_iff_toInt_le.mp h.1
    have b := Int32.lt_iff_toInt_lt.mp p
    rw [show (-1 : Int32).toInt = -1 from rfl] at a ⊢
    rw [show (0 : Int32).toInt = 0 from rfl] at b
    omega
  · exact absurd (Int32.le_trans q h.2) (by decide)
  · exact Or.inr ⟨j, by omega, rfl, fun z => nI_pos (show j < 2147483648 by omega) (by rw [z]; decide)⟩
def vLeast (W : Wd) (x y z : Int32) : Int32 := if inb x 29 ∧ inb y 61 then if -1 ≤ z ∧ z ≤ 3 then if z = -1 then alI (fun k => enc (ldV W (ix x) (ix y) k)) 4 0 0 else enc (ldV W (ix x) (ix y) (ix z)) else -2 else -2
theorem st_least (x y z : Int32) : Same (PL_least 1 x y z) (Mo_least 298 x y z) := by
  refine Same_q (fun W _ => vLeast W x y z) (fun m W p R I => ?_) (fun m W p hW I => ?_) (fun m m' W F => rfl)
  · unfold PL_least vLeast
    rw [PL_isCrew_e, bind_s, ite_b2]
    by_cases h : inb x 29 ∧ inb y 61
    · obtain ⟨a, ha, rfl⟩ := in_of h.1 (by decide)
      obtain ⟨b, hb, rfl⟩ := in_of h.2 (by decide)
      rw [if_pos h, if_pos h, ite_r4, ix_nI (by omega), ix_nI (by omega)]
      by_cases q : -1 ≤ z ∧ z ≤ 3
      · rw [if_pos q, if_pos q]
        rcases r4_of q with e | ⟨k, hk, e, ne⟩
        · rw [if_pos e, if_pos e]
          exact Ok_bind (show Ok (St_loadOfKinds (1 + 278) (1 + 28) (nI 0) (nI a) (nI b) m) _ from St_loadOfKinds_e (c := 28) (t := 279) R I (by omega) (by omega) (by omega) (by omega)) (fun r ⟨h1, h2⟩ => Ok_s ⟨h1, h2.wide (by omega) (by omega)⟩)
        · rw [if_neg ne, if_neg ne, e, ix_nI (by omega)]
          exact Ok_b (PL_neededOf_e m hk) (Ok_bind (show Ok (St_loadOf (1 + 278) (1 + 28) (nI k) (nI (needN b a k)) (-1) m) _ from St_loadV_e (c := 28) (t := 279) R I (by omega) (by omega) (by omega) hk (-1)) (fun r ⟨h1, _, h2⟩ => Ok_s ⟨h1, h2.wide (by omega) (by omega)⟩))
      · rw [if_neg q, if_neg q]
        exact Ok_s ⟨rfl, Fp.refl⟩
    · rw [if_neg h, if_neg h]
      exact Ok_s ⟨rfl, Fp.refl⟩
  · unfold Mo_least vLeast
    rw [Mo_isLoad_e, bind_s, ite_b2]
    by_cases h : inb x 29 ∧ inb y 61
    · obtain ⟨a, ha, rfl⟩ := in_of h.1 (by decide)
      obtain ⟨b, hb, rfl⟩ := in_of h.2 (by decide)
      rw [if_pos h, if_pos h, Mo_in_g m z (-1) 3 (by decide) (by decide), bind_s, ite_b2, ix_nI (by omega), ix_nI (by omega)]
      by_cases q : -1 ≤ z ∧ z ≤ 3
      · rw [if_pos q, if_pos q]
        rcases r4_of q with e | ⟨k, hk, e, ne⟩
        · rw [if_pos e, if_pos e]
          exact Ok_bind (Mo_loadOfAll_e hW I (by omega) (by omega)) (fun r ⟨h1, h2⟩ => Ok_s ⟨h1, h2.wide (by omega) (by omega)⟩)
        · rw [if_neg ne, if_neg ne, e, ix_nI (by omega)]
          exact Ok_bind (Mo_loadOf_e hW I (by omega) (by omega) hk) (fun r ⟨h1, _, h2⟩ => Ok_s ⟨h1, h2.wide (by omega) (by omega)⟩)
      · rw [if_neg q, if_neg q]
        exact Ok_s ⟨rfl, Fp.refl⟩
    · rw [if_neg h, if_neg h]
      exact Ok_s ⟨rfl, Fp.refl⟩
/-! load -/
theorem Mo_lin (hW : MW m W) (I : Inv W) {kd K i k s0 : Nat} (hK : K ≤ 1680) (hi : i < W 6) (h0 : s0 < W 6) (hk : k ≤ K) (q : wso W i 0 = kd) (L : LR m W kd K (W 6)) :
    loop (fun v : Int32 => Mo_load_l77 298 (nI s0) (nI kd) (nI k) (nI i) v m) 0 = some (if i = s0 then .inr (nI (usT (ldT W kd (W 6 - 1 - i)) (wso W i 1) (wso W i 2) k (wso W i 3)), m) else .inl (nI (k - usT (ldT W kd (W 6 - 1 - i)) (wso W i 1) (wso W i 2) k (wso W i 3) * wso W i 1), nI (i + 1))) := by
  have d := I.d
  obtain ⟨b0, b1, b2, b3, b4, b5, -⟩ := I.S hi
  have ei : W 6 - 1 - (W 6 - 1 - i) = i := by omega
  have q' : (ldI W kd (W 6 - 1 - (W 6 - 1 - i))).1 = true := by rw [ei]; exact decide_eq_true q
  have ev : ldT W kd (W 6 - i) k = bsT (ldT W kd (W 6 - 1 - i)) (wso W i 1) (wso W i 2) k (wso W i 3) := by
    rw [show W 6 - i = W 6 - 1 - i + 1 by omega]
    show knT (ldI W kd) (W 6) (W 6 - 1 - i + 1) k = _
    rw [kn_y q', ei]
    rfl
  have row0 : inb ((1681 : Int32) * nI i + nI k) 11767 ∧ rI m (298 + 12) (ix ((1681 : Int32) * nI i + nI k)) = nI (ldT W kd (W 6 - i) k) := by
    have e := ix_row (s := i) (k := k) (by omega) (by omega)
    rw [e.1, ix_nI (by omega)]
    refine ⟨in_nI e.2 (by decide), ?_⟩
    have := L (W 6 - i) (by omega) k hk
    rw [show W 6 - (W 6 - i) = i by omega] at this
    exact this
  have row1 : ∀ k, k ≤ K → inb ((1681 : Int32) * (nI i + 1) + nI k) 11767 ∧ rI m (298 + 12) (ix ((1681 : Int32) * (nI i + 1) + nI k)) = nI (ldT W kd (W 6 - 1 - i) k) := by
    intro k hk
    have e := ix_row (s := i + 1) (k := k) (by omega) (by omega)
    rw [nI_1, e.1, ix_nI (by omega)]
    refine ⟨in_nI e.2 (by decide), ?_⟩
    have := L (W 6 - 1 - i) (by omega) k hk
    rw [show W 6 - (W 6 - 1 - i) = i + 1 by omega] at this
    exact this
  have lf := ld_f I kd (j := W 6 - i) (by omega) k
  have us := bs_us (T := ldT W kd (W 6 - 1 - i)) (p := wso W i 1) (w := wso W i 2) (k := k) (wso W i 3)
  have cmp : ∀ u, u ≤ wso W i 3 → u * wso W i 1 ≤ 20 * 99 ∧ u * wso W i 2 ≤ 20 * 99 ∧ ldT W kd (W 6 - 1 - i) (k - u * wso W i 1) ≤ 1000000000 := fun u hu =>
    ⟨Nat.mul_le_mul (by omega) b2, Nat.mul_le_mul (by omega) b4, ld_f I kd (by omega) _⟩
  refine loop_cnt (usT (ldT W kd (W 6 - 1 - i)) (wso W i 1) (wso W i 2) k (wso W i 3)) (fun u => nI u) rfl (fun u hu => ?_) ?_
  · obtain ⟨c1, c2, c3⟩ := cmp u (by omega)
    have lt := bs_first (T := ldT W kd (W 6 - 1 - i)) (p := wso W i 1) (w := wso W i 2) (k := k) (wso W i 3) u hu
    show Mo_load_l77 298 (nI s0) (nI kd) (nI k) (nI i) (nI u) m = _
    unfold Mo_load_l77
    rw [qS2 hW (by omega), bind_s, qS1 hW (by omega), bind_s, show jmax 0 (nI k - nI u * nI (wso W i 1)) = nI (k - u * wso W i 1) by rw [pk_mul, jmax0 (by omega) (by omega)]]
    rw [gd_t (row1 _ (by omega)).1, gd_t row0.1, (row1 _ (by omega)).2, row0.2, pk_mul, nI_add, ev]
    rw [if_neg (fun z => by have := (nI_eq (by omega) (by rw [← ev]; omega)).mp z; omega), nI_1]
  · obtain ⟨c1, c2, c3⟩ := cmp _ us.2
    show Mo_load_l77 298 (nI s0) (nI kd) (nI k) (nI i) (nI (usT (ldT W kd (W 6 - 1 - i)) (wso W i 1) (wso W i 2) k (wso W i 3))) m = _
    unfold Mo_load_l77 Mo_load_b170
    rw [qS2 hW (by omega), bind_s, qS1 hW (by omega), bind_s, show jmax 0 (nI k - nI (usT (ldT W kd (W 6 - 1 - i)) (wso W i 1) (wso W i 2) k (wso W i 3)) * nI (wso W i 1)) = nI (k - usT (ldT W kd (W 6 - 1 - i)) (wso W i 1) (wso W i 2) k (wso W i 3) * wso W i 1) by rw [pk_mul, jmax0 (by omega) (by omega)]]
    rw [gd_t (row1 _ (by omega)).1, gd_t row0.1, (row1 _ (by omega)).2, row0.2, pk_mul, nI_add, ev, if_pos (congrArg nI us.1.symm), bind_s, nI_1]
    by_cases z : i = s0
    · rw [if_pos (congrArg nI z), if_pos z]
      rfl
    · rw [if_neg (fun y => z ((nI_eq (by omega) (by omega)).mp y)), if_neg z, pk_mul, jmax0 (by omega) (by omega), up_some]
theorem Mo_lwalk (hW : MW m W) (I : Inv W) {kd K s0 : Nat} (hK : K ≤ 1680) (h0 : s0 < W 6) (q0 : wso W s0 0 = kd) (L : LR m W kd K (W 6)) :
    Ok (loop (fun s : Int32 × Int32 => Mo_load_l53 298 (nI s0) (nI kd) s.1 s.2 m) (nI K, 0)) (fun r => r = (nI (ldA W kd (nI s0) (W 6) K), m)) := by
  have d := I.d
  have st : ∀ i k, i < W 6 → i ≤ s0 → k ≤ K → ldA W kd (nI s0) (W 6 - i) k = ldA W kd (nI s0) (W 6) K → wso W i 0 = kd → (i = s0 → usT (ldT W kd (W 6 - 1 - i)) (wso W i 1) (wso W i 2) k (wso W i 3) = ldA W kd (nI s0) (W 6) K) ∧ (i ≠ s0 → ldA W kd (nI s0) (W 6 - 1 - i) (k - usT (ldT W kd (W 6 - 1 - i)) (wso W i 1) (wso W i 2) k (wso W i 3) * wso W i 1) = ldA W kd (nI s0) (W 6) K) := by
    intro i k hi _ _ ha q
    have ei : W 6 - 1 - (W 6 - 1 - i) = i := by omega
    have q' : (ldI W kd (W 6 - 1 - (W 6 - 1 - i))).1 = true := by rw [ei]; exact decide_eq_true q
    have ev : ldA W kd (nI s0) (W 6 - i) k = if decide (nI i = nI s0) = true then usT (ldT W kd (W 6 - 1 - i)) (wso W i 1) (wso W i 2) k (wso W i 3) else ldA W kd (nI s0) (W 6 - 1 - i) (k - usT (ldT W kd (W 6 - 1 - i)) (wso W i 1) (wso W i 2) k (wso W i 3) * wso W i 1) := by
      rw [show W 6 - i = W 6 - 1 - i + 1 by omega]
      show knA (ldI W kd) (fun s => decide (nI s = nI s0)) (W 6) (W 6 - 1 - i + 1) k = _
      rw [ka_y q', ei]
      rfl
    rw [ev] at ha
    constructor
    · intro z
      rw [if_pos (decide_eq_true (congrArg nI z))] at ha
      exact ha
    · intro z
      rw [if_neg (fun y => z ((nI_eq (by omega) (by omega)).mp (of_decide_eq_true y)))] at ha
      exact ha
  refine Ok_walk s0 (fun i (k : Nat) => (nI k, nI i)) (fun i k => k ≤ K ∧ ldA W kd (nI s0) (W 6 - i) k = ldA W kd (nI s0) (W 6) K) (fun i k hi ⟨hk, ha⟩ => ?_) (fun k ⟨hk, ha⟩ => ?_) 0 K (by omega) ⟨Nat.le_refl _, by rw [Nat.sub_zero]⟩
  · show Ok (Mo_load_l53 298 (nI s0) (nI kd) (nI k) (nI i) m) _
    unfold Mo_load_l53
    have b := (I.S (show i < W 6 by omega)).1
    have b' := (I.S h0).1
    refine Ok_if (nI_nlt (by omega) (by omega)) (Ok_b (qS0 hW (by omega)) ?_)
    by_cases q : wso W i 0 = kd
    · refine Ok_it (congrArg nI q) (Ok_e (Mo_lin hW I hK (by omega) h0 hk q L) ?_)
      rw [if_neg (show ¬ i = s0 by omega)]
      refine Or.inl ⟨_, rfl, by omega, ?_⟩
      rw [show W 6 - (i + 1) = W 6 - 1 - i by omega]
      exact (st i k (by omega) (by omega) hk ha q).2 (by omega)
    · refine Ok_if (fun z => q ((nI_eq (by omega) (by omega)).mp z)) ?_
      unfold Mo_load_b170
      refine Ok_s (Or.inl ⟨k, by rw [nI_1], hk, ?_⟩)
      have ei : W 6 - 1 - (W 6 - 1 - i) = i := by omega
      have q' : ¬ (ldI W kd (W 6 - 1 - (W 6 - 1 - i))).1 = true := by rw [ei]; exact fun h => q (of_decide_eq_true h)
      rw [show W 6 - i = W 6 - 1 - i + 1 by omega] at ha
      rw [show W 6 - (i + 1) = W 6 - 1 - i by omega, ← ha]
      exact congrFun (ka_n q').symm k
  · show Ok (Mo_load_l53 298 (nI s0) (nI kd) (nI k) (nI s0) m) _
    unfold Mo_load_l53
    refine Ok_if (nI_nlt (by omega) (by omega)) (Ok_b (qS0 hW (by omega)) (Ok_it (congrArg nI q0) (Ok_e (Mo_lin hW I hK h0 h0 hk q0 L) ?_)))
    rw [if_pos rfl]
    exact ⟨_, rfl, by rw [(st s0 k h0 (Nat.le_refl _) hk ha q0).1 rfl]⟩
def vLoad (W : Wd) (x y z : Int32) : Int32 := if inb x 29 ∧ inb y 61 then if inb z (W 6) then if enc (ldV W (ix x) (ix y) (wso W (ix z) 0)) = -1 then -1 else nI (ldA W (wso W (ix z) 0) z (W 6) (needN (ix y) (ix x) (wso W (ix z) 0))) else -2 else -2
theorem st_load (x y z : Int32) : Same (PL_load 1 x y z) (Mo_load 298 x y z) := by
  refine Same_q (fun W _ => vLoad W x y z) (fun m W p R I => ?_) (fun m W p hW I => ?_) (fun m m' W F => rfl)
  · have dd := I.d
    unfold PL_load vLoad
    rw [PL_isCrew_e, bind_s, ite_b2]
    by_cases h : inb x 29 ∧ inb y 61
    · obtain ⟨a, ha, rfl⟩ := in_of h.1 (by decide)
      obtain ⟨b, hb, rfl⟩ := in_of h.2 (by decide)
      rw [if_pos h, if_pos h, show Ta_has (1 + 38) z m = _ from Ta_has_e m R.nS (by omega) z, bind_s, ite_b2, ix_nI (by omega), ix_nI (by omega)]
      by_cases q : inb z (W 6)
      · obtain ⟨s, hs, rfl⟩ := in_of q (by omega)
        have k3 := (I.S hs).1
        rw [if_pos q, if_pos q, ix_nI (by omega)]
        refine Ok_b (show Ta_at (1 + 38) (nI s) 0 m = _ from tS0 (c := 28) R I hs) (Ok_b (PL_neededOf_e m k3) (Ok_bind (show Ok (St_loadOf (1 + 278) (1 + 28) (nI (wso W s 0)) (nI (needN b a (wso W s 0))) (nI s) m) _ from St_loadV_e (c := 28) (t := 279) R I (by omega) (by omega) (by omega) k3 (nI s)) (fun r ⟨h1, h2, h3⟩ => ?_)))
        rw [h1]
        by_cases e : enc (ldV W a b (wso W s 0)) = -1
        · rw [if_pos e, if_pos e]
          exact Ok_s ⟨rfl, h3.wide (by omega) (by omega)⟩
        · rw [if_neg e, if_neg e]
          exact Ok_b (show St_askedUnits (1 + 278) r.2 = _ from St_askedUnits_e (h2 (toldN_iff.mpr ⟨s, hs, rfl⟩)) (ndK (by omega) (by omega) _)) (Ok_s ⟨rfl, h3.wide (by omega) (by omega)⟩)
      · rw [if_neg q, if_neg q]
        exact Ok_s ⟨rfl, Fp.refl⟩
    · rw [if_neg h, if_neg h]
      exact Ok_s ⟨rfl, Fp.refl⟩
  · have dd := I.d
    unfold Mo_load vLoad
    rw [Mo_isLoad_e, bind_s, ite_b2]
    by_cases h : inb x 29 ∧ inb y 61
    · obtain ⟨a, ha, rfl⟩ := in_of h.1 (by decide)
      obtain ⟨b, hb, rfl⟩ := in_of h.2 (by decide)
      rw [if_pos h, if_pos h, Mo_isSort_e hW (by omega), bind_s, ite_b2, ix_nI (by omega), ix_nI (by omega)]
      by_cases q : inb z (W 6)
      · obtain ⟨s, hs, rfl⟩ := in_of q (by omega)
        have k3 := (I.S hs).1
        rw [if_pos q, if_pos q, ix_nI (by omega)]
        refine Ok_b (qS0 hW (by omega)) (Ok_bind (Mo_loadOf_e hW I (p := a) (d := b) (by omega) (by omega) k3) (fun r ⟨h1, h2, h3⟩ => ?_))
        rw [h1]
        by_cases e : enc (ldV W a b (wso W s 0)) = -1
        · rw [if_pos e, if_pos e]
          exact Ok_s ⟨rfl, h3.wide (by omega) (by omega)⟩
        · rw [if_neg e, if_neg e]
          refine Ok_b (Mo_needOf_e r.2 a b _ k3) ?_
          refine Ok_mono (Mo_lwalk (hW.fp h3 (by omega)) I (ndK (by omega) (by omega) _) hs rfl (h2 (toldN_iff.mpr ⟨s, hs, rfl⟩))) (fun y hy => ?_)
          rw [hy]
          exact ⟨rfl, h3.wide (by omega) (by omega)⟩
      · rw [if_neg q, if_neg q]
        exact Ok_s ⟨rfl, Fp.refl⟩
    · rw [if_neg h, if_neg h]
      exact Ok_s ⟨rfl, Fp.refl⟩
/-! lasts -/
abbrev lsI (W : Wd) (p d : Nat) : Int32 := alI (fun k => enc (ldV W p d k)) 4 0 0
abbrev lsQ (W : Wd) (p : Nat) (y : Int32) (d : Nat) : Prop := ¬ lsI W p d = -1 ∧ ¬ y < lsI W p d
theorem al3 {g : Nat → Nat} (h : ∀ k, g k ≤ 11880 ∨ g k = 1000000000) (a : Nat) : alI (fun k => enc (g k)) 3 1 (nI a) = if g 1 < 1000000000 ∧ g 2 < 1000000000 ∧ g 3 < 1000000000 then nI (a + g 1 + g 2 + g 3) else -1 := by
  show (if enc (g 1) = -1 then -1 else if enc (g 2) = -1 then -1 else if enc (g 3) = -1 then -1 else nI a + enc (g 1) + enc (g 2) + enc (g 3)) = _
  by_cases h1 : g 1 < 1000000000
  · rw [if_neg (fun z => enc_m.mp z h1)]
    by_cases h2 : g 2 < 1000000000
    · rw [if_neg (fun z => enc_m.mp z h2)]
      by_cases h3 : g 3 < 1000000000
      · rw [if_neg (fun z => enc_m.mp z h3), if_pos ⟨h1, h2, h3⟩, enc_t h1, enc_t h2, enc_t h3, nI_add, nI_add, nI_add]
      · rw [if_pos (enc_m.mpr h3), if_neg (fun z => h3 z.2.2)]
    · rw [if_pos (enc_m.mpr h2), if_neg (fun z => h2 z.2.1)]
  · rw [if_pos (enc_m.mpr h1), if_neg (fun z => h1 z.1)]
theorem ld_d (W : Wd) (p d : Nat) {k : Nat} (hk : k ≠ 0) : ldV W p d k = ldV W p 0 k := by
  unfold ldV needN
  rw [if_neg hk, if_neg hk]
theorem ls_e (I : Inv W) (p d : Nat) : lsI W p d = if ldV W p d 0 < 1000000000 then (if alI (fun k => enc (ldV W p 0 k)) 3 1 0 = -1 then -1 else enc (ldV W p d 0) + alI (fun k => enc (ldV W p 0 k)) 3 1 0) else -1 := by
  have e0 := al3 (g := fun k => ldV W p 0 k) (fun k => ldV_le I p 0 k) 0
  have e1 := al3 (g := fun k => ldV W p d k) (fun k => ldV_le I p d k) (ldV W p d 0)
  rw [ld_d W p d (k := 1) (by decide), ld_d W p d (k := 2) (by decide), ld_d W p d (k := 3) (by decide)] at e1
  have h1 := ldV_le I p 0 1
  have h2 := ldV_le I p 0 2
  have h3 := ldV_le I p 0 3
  rw [show alI (fun k => enc (ldV W p 0 k)) 3 1 0 = _ from e0]
  show (if enc (ldV W p d 0) = -1 then -1 else alI (fun k => enc (ldV W p d k)) 3 1 (0 + enc (ldV W p d 0))) = _
  by_cases h : ldV W p d 0 < 1000000000
  · rw [if_neg (fun z => enc_m.mp z h), if_pos h, enc_t h, show (0 : Int32) + nI (ldV W p d 0) = nI (ldV W p d 0) by rw [show (0 : Int32) = nI 0 from rfl, nI_add, Nat.zero_add], e1]
    by_cases q : ldV W p 0 1 < 1000000000 ∧ ldV W p 0 2 < 1000000000 ∧ ldV W p 0 3 < 1000000000
    · rw [if_pos q, if_pos q, if_neg (fun z => nI_pos (show 0 + ldV W p 0 1 + ldV W p 0 2 + ldV W p 0 3 < 2147483648 by omega) (by rw [z]; decide)), nI_add, Nat.zero_add, ← Nat.add_assoc, ← Nat.add_assoc]
    · rw [if_neg q, if_neg q, if_pos rfl]
  · rw [if_pos (enc_m.mpr h), if_neg h]
theorem fs_none {R : Type} {P : Nat → Prop} [DecidablePred P] {r : Nat → R} {z : R} : ∀ k i, (∀ j, i ≤ j → j < i + k → ¬ P j) → fsN P r z k i = z
  | 0, i, _ => rfl
  | k + 1, i, h => by
    unfold fsN
    rw [if_neg (h i (Nat.le_refl _) (by omega))]
    exact fs_none k (i + 1) (fun j h1 h2 => h j (by omega) (by omega))
def vLasts (W : Wd) (x y : Int32) : Int32 := if inb x 29 then if inb y 10000 then fsN (fun i => lsQ W (ix x) y (60 - i)) (fun i => nI (60 - i)) (-1) 61 0 else -2 else -2
theorem st_i {i : Nat} (h : i < 61) : nI (61 - i) - 1 = nI (60 - i) ∧ nI (60 - i) + -1 = nI (61 - (i + 1)) - 1 := by
  constructor
  · rw [nI_p1 (by omega), show 61 - i - 1 = 60 - i by omega]
  · rw [Int32.sub_eq_add_neg, show 61 - (i + 1) = 60 - i by omega]
theorem st_lasts (x y : Int32) : Same (PL_lasts 1 x y) (Mo_lasts 298 x y) := by
  refine Same_q (fun W _ => vLasts W x y) (fun m W p R I => ?_) (fun m W p hW I => ?_) (fun m m' W F => rfl)
  · unfold PL_lasts vLasts
    rw [PL_isCrew_e, bind_s, ite_b2]
    by_cases h : inb x 29
    · obtain ⟨a, ha, rfl⟩ := in_of h (by decide)
      rw [if_pos (show inb (nI a) 29 ∧ inb 0 61 from ⟨h, by decide⟩), if_pos h, show (9999 : Int32) = nI 9999 from rfl, ite_rle (by decide), ix_nI (by omega)]
      by_cases q : inb y 10000
      · rw [if_pos q, if_pos q]
        refine Ok_bind (show Ok (St_loadOfKinds (1 + 278) (1 + 28) (nI 1) (nI a) (nI 0) m) _ from St_loadOfKinds_e (c := 28) (t := 279) R I (by omega) (by omega) (by omega) (by omega)) (fun r ⟨h1, F1⟩ => ?_)
        rw [show alI (fun k => enc (ldV W a 0 k)) (4 - 1) 1 0 = alI (fun k => enc (ldV W a 0 k)) 3 1 0 from rfl] at h1
        rw [h1]
        by_cases z : alI (fun k => enc (ldV W a 0 k)) 3 1 0 = -1
        · rw [if_pos z]
          refine Ok_s ⟨(fs_none 61 0 (fun j _ _ hq => hq.1 ?_)).symm, F1.wide (by omega) (by omega)⟩
          rw [ls_e I, if_pos z]
          split <;> rfl
        · rw [if_neg z]
          have Rr := R.fp I F1 (by omega)
          refine Ok_b (show Fl_tells (1 + 28) (nI 0) r.2 = _ from Fl_tells_e (c := 28) Rr I (by omega)) ?_
          have e60 : nI a * 60 = nI (needN 60 a 0) := by rw [show (60 : Int32) = nI 60 from rfl, pk_mul]; rfl
          rw [e60]
          refine Ok_bind (show Ok (St_loadOf (1 + 278) (1 + 28) (nI 0) (nI (needN 60 a 0)) (-1) r.2) _ from St_loadV_e (c := 28) (t := 279) Rr I (by omega) (by omega) (by omega) (by omega) (-1)) (fun r2 ⟨_, S, F2⟩ => ?_)
          have FF : Fp 203 298 m r2.2 := (F1.trans F2).wide (by omega) (by omega)
          have l85 : ∀ i, i < 61 → PL_lasts_l85 1 (nI a) y (alI (fun k => enc (ldV W a 0 k)) 3 1 0) (b2 (toldN W 0)) (nI (61 - i) - 1) r2.2 = PL_lasts_b110 1 (nI a) y (alI (fun k => enc (ldV W a 0 k)) 3 1 0) (b2 (toldN W 0)) (nI (60 - i)) (enc (ldV W a (60 - i) 0)) r2.2 := by
            intro i hi
            unfold PL_lasts_l85
            rw [(st_i hi).1, if_neg (nI_pos (by omega)), ite_b2]
            by_cases ht : toldN W 0
            · have mm : a * (60 - i) ≤ a * 60 := Nat.mul_le_mul_left a (by omega)
              rw [if_pos ht, pk_mul, show St_costOf (1 + 278) (nI (a * (60 - i))) r2.2 = _ from St_costOf_e (S ht) (ndK (by omega) (by omega) 0) (k := a * (60 - i)) mm, bind_s]
              unfold ldV
              rw [if_pos ht]
              rfl
            · rw [if_neg ht]
              unfold ldV
              rw [if_neg ht]
              rfl
          refine Ok_first (fun r : Int32 × Mem => r.1) (fun r => Fp 203 298 m r.2) _ _ 61 (fun i (_ : Unit) => nI (61 - i) - 1) (fun _ _ => True) (fun i => lsQ W a y (60 - i)) () rfl trivial (fun i _ hi _ hq => ?_) (fun i _ hi _ hq => ?_) (fun _ _ => ?_)
          · show Ok (PL_lasts_l85 1 (nI a) y (alI (fun k => enc (ldV W a 0 k)) 3 1 0) (b2 (toldN W 0)) (nI (61 - i) - 1) r2.2) _
            rw [l85 i hi]
            unfold lsQ at hq
            rw [ls_e I, if_neg z] at hq
            by_cases g : ldV W a (60 - i) 0 < 1000000000
            · rw [if_pos g] at hq
              unfold PL_lasts_b110
              refine Ok_if (fun w => enc_m.mp w g) (Ok_if hq.2 ?_)
              rw [up_some]
              exact Ok_s ⟨_, rfl, rfl, FF⟩
            · rw [if_neg g] at hq
              exact absurd rfl hq.1
          · show Ok (PL_lasts_l85 1 (nI a) y (alI (fun k => enc (ldV W a 0 k)) 3 1 0) (b2 (toldN W 0)) (nI (61 - i) - 1) r2.2) _
            rw [l85 i hi]
            unfold PL_lasts_b110 PL_lasts_b129
            rw [(st_i hi).2]
            by_cases g : ldV W a (60 - i) 0 < 1000000000
            · refine Ok_if (fun w => enc_m.mp w g) (Ok_it ?_ (Ok_s ⟨(), rfl, trivial⟩))
              refine Classical.byContradiction (fun w => hq ?_)
              unfold lsQ
              rw [ls_e I, if_neg z, if_pos g]
              have s0 := al3 (g := fun k => ldV W a 0 k) (fun k => ldV_le I a 0 k) 0
              have s1 := ldV_le I a 0 1
              have s2 := ldV_le I a 0 2
              have s3 := ldV_le I a 0 3
              refine ⟨fun v => ?_, w⟩
              rw [show alI (fun k => enc (ldV W a 0 k)) 3 1 0 = _ from s0] at v z
              by_cases q2 : ldV W a 0 1 < 1000000000 ∧ ldV W a 0 2 < 1000000000 ∧ ldV W a 0 3 < 1000000000
              · have s4 := ldV_le I a (60 - i) 0
                rw [if_pos q2, enc_t g, nI_add] at v
                exact nI_pos (show ldV W a (60 - i) 0 + (0 + ldV W a 0 1 + ldV W a 0 2 + ldV W a 0 3) < 2147483648 by omega) (by rw [v]; decide)
              · rw [if_neg q2] at z
                exact z rfl
            · exact Ok_it (enc_m.mpr g) (Ok_s ⟨(), rfl, trivial⟩)
          · show Ok (PL_lasts_l85 1 (nI a) y (alI (fun k => enc (ldV W a 0 k)) 3 1 0) (b2 (toldN W 0)) (nI (61 - 61) - 1) r2.2) _
            unfold PL_lasts_l85
            refine Ok_it (by decide) ?_
            rw [up_some]
            exact Ok_s ⟨_, rfl, rfl, FF⟩
      · rw [if_neg q, if_neg q]
        exact Ok_s ⟨rfl, Fp.refl⟩
    · rw [if_neg (fun w => h w.1), if_neg h]
      exact Ok_s ⟨rfl, Fp.refl⟩
  · unfold Mo_lasts vLasts
    rw [Mo_isLoad_e, bind_s, ite_b2]
    by_cases h : inb x 29
    · obtain ⟨a, ha, rfl⟩ := in_of h (by decide)
      rw [if_pos (show inb (nI a) 29 ∧ inb 0 61 from ⟨h, by decide⟩), if_pos h, in0 m y (n := 10000) (by decide) (by decide), bind_s, ite_b2, ix_nI (by omega)]
      by_cases q : inb y 10000
      · rw [if_pos q, if_pos q]
        refine Ok_mono (P := fun r => r.1 = _ ∧ Fp 310 311 m r.2) (Ok_first (fun r : Int32 × Mem => r.1) (fun r => Fp 310 311 m r.2) _ _ 61 (fun i x => (nI (61 - i) - 1, x)) (fun _ x => Fp 310 311 m x) (fun i => lsQ W a y (60 - i)) m rfl Fp.refl (fun i x hi F hq => ?_) (fun i x hi F hq => ?_) (fun x F => ?_)) (fun r ⟨h1, h2⟩ => ⟨h1, h2.wide (by omega) (by omega)⟩)
        · show Ok (Mo_lasts_l26 298 (nI a) y (nI (61 - i) - 1) x) _
          unfold Mo_lasts_l26
          rw [(st_i hi).1]
          refine Ok_if (nI_pos (by omega)) (Ok_bind (Mo_loadOfAll_e (hW.fp F (by omega)) I (by omega) (by omega)) (fun r ⟨h1, F1⟩ => ?_))
          rw [h1]
          refine Ok_if hq.1 (Ok_if hq.2 ?_)
          rw [up_some]
          exact Ok_s ⟨_, rfl, rfl, F.trans F1⟩
        · show Ok (Mo_lasts_l26 298 (nI a) y (nI (61 - i) - 1) x) _
          unfold Mo_lasts_l26 Mo_lasts_b52
          rw [(st_i hi).1, (st_i hi).2]
          refine Ok_if (nI_pos (by omega)) (Ok_bind (Mo_loadOfAll_e (hW.fp F (by omega)) I (by omega) (by omega)) (fun r ⟨h1, F1⟩ => ?_))
          rw [h1]
          by_cases z : lsI W a (60 - i) = -1
          · exact Ok_it z (Ok_s ⟨_, rfl, F.trans F1⟩)
          · refine Ok_if z (Ok_it ?_ (Ok_s ⟨_, rfl, F.trans F1⟩))
            exact Classical.byContradiction (fun w => hq ⟨z, w⟩)
        · show Ok (Mo_lasts_l26 298 (nI a) y (nI (61 - 61) - 1) x) _
          unfold Mo_lasts_l26
          refine Ok_it (by decide) ?_
          rw [up_some]
          exact Ok_s ⟨_, rfl, rfl, F⟩
      · rw [if_neg q, if_neg q]
        exact Ok_s ⟨rfl, Fp.refl⟩
    · rw [if_neg (fun w => h w.1), if_neg h]
      exact Ok_s ⟨rfl, Fp.refl⟩
end LOADS

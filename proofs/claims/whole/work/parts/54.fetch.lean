/-! fetch, fetched -/
section FETCH
variable {m : Mem} {c t : Nat} {W : Wd}
theorem d6 : ∀ i, i < 48 → nI i / 6 = nI (i / 6) ∧ nI i - nI i / 6 * 6 = nI (i % 6) := by decide +kernel
abbrev feP (W : Wd) (s g kd i : Nat) : Prop := i % 6 < W 6 ∧ whe W (i / 6) 0 = 1 ∧ wso W (i % 6) 0 = kd ∧ ¬ hpN W s (i / 6) = gpN W s g
def feI (W : Wd) (s g kd : Nat) : Ki := fun i => (decide (feP W s g kd i), whe W (i / 6) (3 + i % 6), wso W (i % 6) 1, minN W s (i / 6) (i % 6) g)
abbrev feQ (a b : Int32) : Nat → Bool := fun i => decide (nI (i / 6) = a ∧ nI (i % 6) = b)
abbrev feT (W : Wd) (s g kd j : Nat) : Nat → Nat := knT (feI W s g kd) 48 j
abbrev feA (W : Wd) (s g kd : Nat) (a b : Int32) (j : Nat) : Nat → Nat := knA (feI W s g kd) (feQ a b) 48 j
def shN (W : Wd) (s g k : Nat) : Nat := peopleOnN W s (gpN W s g) * ndN W k - givenN W s (gpN W s g) k
theorem min_b (I : Inv W) {s h o g : Nat} (hh : h < 8) (ho : o < W 6) (hg : g < 4) : minN W s h o g ≤ 131100 := by
  have d := I.d
  have xy := I.xy hh
  obtain ⟨-, g0, g1, -⟩ := I.G hg
  obtain ⟨-, -, -, -, o2, -, -⟩ := I.S ho
  obtain ⟨-, -, -, -, w11, w12, -⟩ := I.2.1
  have a := ac_le W s h g
  have st : stpN W h g ≤ 22 := by unfold stpN; omega
  have e1 : wso W o 2 * stpN W h g ≤ 99 * 22 := Nat.mul_le_mul o2 st
  have e2 : wso W o 2 * stpN W h g * W 11 ≤ 99 * 22 * 60 := Nat.mul_le_mul e1 w11
  have e3 : acN W s h g * W 12 ≤ 7 * 60 := Nat.mul_le_mul (by omega) w12
  unfold minN
  omega
theorem fe_KB (I : Inv W) (s kd : Nat) {g : Nat} (hg : g < 4) : KB (feI W s g kd) 48 2622000 := fun i hi h => by
  have hP : feP W s g kd i := of_decide_eq_true h
  have d := I.d
  obtain ⟨-, -, a, -⟩ := I.S hP.1
  have u := I.u20 (h := i / 6) (s := i % 6) (by omega) (by omega)
  exact ⟨u, a, Nat.le_trans (Nat.mul_le_mul u (min_b I (by omega) hP.1 hg)) (by decide)⟩
theorem fe_b (I : Inv W) (s kd : Nat) {g j : Nat} (hg : g < 4) (hj : j ≤ 48) (k : Nat) : feT W s g kd j k ≤ 125856000 ∨ feT W s g kd j k = 1000000000 := by
  have b := Nat.mul_le_mul_right 2622000 hj
  rcases kn_b (fe_KB I s kd hg) j hj k with h | h
  · exact Or.inl (Nat.le_trans h b)
  · exact Or.inr h
theorem fe_f (I : Inv W) (s kd : Nat) {g j : Nat} (hg : g < 4) (hj : j ≤ 48) (k : Nat) : feT W s g kd j k ≤ 1000000000 := by
  rcases fe_b I s kd hg hj k with h | h <;> omega
theorem people_s (W : Wd) (s p : Nat) : peopleOnN W s p ≤ slN W := sN_mono (fun g _ => by
  show (if gpN W s g = p then wgr W g 2 else 0) ≤ wgr W g 2
  split <;> omega)
theorem sh_b (I : Inv W) (s g k : Nat) : peopleOnN W s (gpN W s g) * ndN W k ≤ 1680 :=
  Nat.mul_le_mul (Nat.le_trans (people_s W s _) (slN_le I)) (nd_le I k)
theorem sh_le (I : Inv W) (s g k : Nat) : shN W s g k ≤ 1680 := Nat.le_trans (Nat.sub_le _ _) (sh_b I s g k)
theorem sh_j (I : Inv W) (s g k : Nat) : jmax 0 (jmin (shI W s g k) ((Int32.ofNat 1681) - 1)) = nI (shN W s g k) := by
  have a := sh_b I s g k
  have b := (short_b I s g k).2
  have e := jmaxS I s g k
  rw [show (Int32.ofNat 1681) - 1 = nI 1680 from rfl]
  by_cases h : givenN W s (gpN W s g) k ≤ peopleOnN W s (gpN W s g) * ndN W k
  · have e2 : shI W s g k = nI (shN W s g k) := pk_sub h
    have l := sh_le I s g k
    rw [e2, jmin_nI (by omega) (by decide), Nat.min_eq_left l]
    rw [e2] at e
    exact e
  · have e2 : shI W s g k ≤ 0 := (le0 (by omega) (by omega)).mpr (by omega)
    have e3 : jmin (shI W s g k) (nI 1680) = shI W s g k := if_neg (Int32.not_lt.mpr (Int32.le_trans e2 (by decide)))
    rw [e3]
    exact e
theorem sh_n {kd : Nat} (h : ¬ toldN W kd) (s g : Nat) : shN W s g kd = 0 := by
  unfold shN ndN
  rw [if_neg h, Nat.mul_zero, Nat.zero_sub]
/-! nothing taken from i on -/
theorem kn_skip {it : Ki} {q : Nat → Bool} {N a : Nat} : ∀ n, (∀ e, e < n → ¬ (it (N - 1 - (a + e))).1 = true) → knT it N (a + n) = knT it N a ∧ knA it q N (a + n) = knA it q N a
  | 0, _ => ⟨rfl, rfl⟩
  | n + 1, h => by
    obtain ⟨e1, e2⟩ := kn_skip (q := q) n (fun e he => h e (by omega))
    exact ⟨(kn_n (h n (by omega))).trans e1, (ka_n (h n (by omega))).trans e2⟩
theorem ka_z {it : Ki} {q : Nat → Bool} {N : Nat} : ∀ j, (∀ e, e < j → ¬ q (N - 1 - e) = true) → ∀ k, knA it q N j k = 0
  | 0, _, _ => rfl
  | j + 1, h, k => by
    have ih := ka_z (it := it) j (fun e he => h e (by omega))
    by_cases z : (it (N - 1 - j)).1 = true
    · rw [ka_y z]
      show (if q (N - 1 - j) = true then _ else _) = 0
      rw [if_neg (h j (by omega))]
      exact ih _
    · rw [ka_n z]
      exact ih k
theorem St_fetchOf_e (R : CR m c W) (I : Inv W) (ti : Nat) (A : IcA m ti W) (h1 : c + 40 ≤ t) (h2 : ti + 17 ≤ t) {s g kd : Nat} (hs : s < 2 ^ W 5) (hg : g < 4) (hkd : kd ≤ 3) (va vb : Int32) :
    Ok (St_fetchOf t ti c (nI s) (nI g) (nI kd) va vb m) (fun r => r.1 = enc (feT W s g kd 48 (shN W s g kd)) ∧ SP r.2 t (shN W s g kd) (feT W s g kd 48) (feA W s g kd va vb 48) ∧ Fp t (t + 3) m r.2) := by
  have d := I.d
  have KL := sh_le I s g kd
  unfold St_fetchOf
  rw [Ic_shortOf_e A I hs hg (by omega), bind_s]
  refine Ok_bind (St_begin_g KL (sh_j I s g kd)) (fun m1 ⟨S1, F1⟩ => ?_)
  refine Ok_loop 8 (fun j x => (nI (8 - j) - 1, x)) (fun j x => SP x t (shN W s g kd) (feT W s g kd (6 * j)) (feA W s g kd va vb (6 * j)) ∧ Fp t (t + 3) m x) m1 rfl ⟨S1, F1⟩ (fun j x hj ⟨S, F⟩ => ?_) (fun x ⟨S, F⟩ => ?_)
  · have Rx := R.fp I F (by omega)
    have Ax : IcA x ti W := A.fp (fun a _ _ _ _ => (F a (by omega)).1)
    have e1 : nI (8 - j) - 1 = nI (7 - j) := by rw [nI_p1 (by omega), show 8 - j - 1 = 7 - j by omega]
    have e2 : nI (7 - j) + -1 = nI (8 - (j + 1)) - 1 := by rw [Int32.sub_eq_add_neg, show 7 - j = 8 - (j + 1) by omega]
    have hh : 7 - j < 8 := by omega
    have none : ¬ (whe W (7 - j) 0 = 1 ∧ ¬ hpN W s (7 - j) = gpN W s g) → Ok (St_fetchOf_b57 t ti c (nI s) (nI g) (nI kd) va vb (nI (7 - j)) 0 x) (fun r => ∃ x', r = .inl (nI (8 - (j + 1)) - 1, x') ∧ SP x' t (shN W s g kd) (feT W s g kd (6 * (j + 1))) (feA W s g kd va vb (6 * (j + 1))) ∧ Fp t (t + 3) m x') := by
      intro hn
      have sk := kn_skip (it := feI W s g kd) (q := feQ va vb) (N := 48) (a := 6 * j) 6 (fun e he z => by
        have hP : feP W s g kd (48 - 1 - (6 * j + e)) := of_decide_eq_true z
        have ed : (48 - 1 - (6 * j + e)) / 6 = 7 - j := by omega
        unfold feP at hP
        rw [ed] at hP
        exact hn ⟨hP.2.1, hP.2.2.2⟩)
      unfold St_fetchOf_b57
      rw [show rI x (c + 11) 1 = nI (W 6) from cnS Rx]
      have lp : St_fetchOf_l68 t ti c (nI s) (nI g) (nI kd) va vb (nI (7 - j)) 0 (nI (W 6) - 1) x = some (.inr (.inl (nI (8 - (j + 1)) - 1, x))) := by
        unfold St_fetchOf_l68 St_fetchOf_b147
        rw [if_pos (show (0 : Int32) = 0 from rfl), up_some, ite_self, e2]
      exact Ok_e (loop_out lp) ⟨x, rfl, S.to sk.1.symm sk.2.symm, F⟩
    show Ok (St_fetchOf_l26 t ti c (nI s) (nI g) (nI kd) va vb (nI (8 - j) - 1) x) _
    unfold St_fetchOf_l26 St_fetchOf_b56
    rw [e1]
    refine Ok_if (nI_pos (by omega)) (Ok_b (Ca_hasHeap_x Rx I (nI (7 - j))) ?_)
    rw [ite_b2, ix_nI (by omega)]
    by_cases ht : whe W (7 - j) 0 = 1
    · rw [if_pos ⟨in_nI hh (by decide), ht⟩]
      have hw : Ic_isHeapWith ti (nI s) (nI (7 - j)) (nI g) x = some (b2 (hpN W s (7 - j) = gpN W s g)) := by
        obtain ⟨A0, A2, A3, Ac, As, Ag, Ah, Av, An⟩ := Ax
        have xg := I.gxy hg
        have xh := I.xy hh
        unfold Ic_isHeapWith
        rw [PL_isHeap_n x hh, bind_s, if_neg (by decide), PL_isGroup_n x hg, bind_s, if_neg (by decide), gd_in hh (by decide), gd_in hg (by decide), ix_nI (by omega), ix_nI (by omega), show rI x (ti + 6) (7 - j) = nI (hbN W (7 - j)) from Ah _ hh, show rI x (ti + 5) g = nI (gbN W g) from Ag g hg, Ic_isOnePiece_e, bind_s, ite_b2]
        have eb : hbN W (7 - j) = byN W (nI (whe W (7 - j) 1)) (nI (whe W (7 - j) 2)) := by
          unfold hbN hxI
          rw [if_pos ht]
        rw [eb]
        by_cases z : hpN W s (7 - j) = gpN W s g
        · rw [if_pos ((one_piece I hs (by omega) (by omega) xg.1 xg.2).mpr z), b2_t z]
        · rw [if_neg (fun w => z ((one_piece I hs (by omega) (by omega) xg.1 xg.2).mp w)), b2_f z]
      refine Ok_b hw ?_
      rw [ite_b2]
      by_cases z : hpN W s (7 - j) = gpN W s g
      · rw [if_pos z]
        exact none (fun w => w.2 z)
      · rw [if_neg z]
        unfold St_fetchOf_b57
        rw [show rI x (c + 11) 1 = nI (W 6) from cnS Rx]
        have sk := kn_skip (it := feI W s g kd) (q := feQ va vb) (N := 48) (a := 6 * j) (6 - W 6) (fun e he z => by
          have hP : feP W s g kd (48 - 1 - (6 * j + e)) := of_decide_eq_true z
          have := hP.1
          omega)
        refine Ok_loop (W 6) (fun e x => (nI (W 6 - e) - 1, x)) (fun e x => SP x t (shN W s g kd) (feT W s g kd (6 * j + (6 - W 6) + e)) (feA W s g kd va vb (6 * j + (6 - W 6) + e)) ∧ Fp t (t + 3) m x) x rfl ⟨S.to sk.1.symm sk.2.symm, F⟩ (fun e y he ⟨S2, F2⟩ => ?_) (fun y ⟨S2, F2⟩ => ?_)
        · have Ry := R.fp I F2 (by omega)
          have f1 : nI (W 6 - e) - 1 = nI (W 6 - 1 - e) := by rw [nI_p1 (by omega), show W 6 - e - 1 = W 6 - 1 - e by omega]
          have f2 : nI (W 6 - 1 - e) + -1 = nI (W 6 - (e + 1)) - 1 := by rw [Int32.sub_eq_add_neg, show W 6 - 1 - e = W 6 - (e + 1) by omega]
          have b := (I.S (show W 6 - 1 - e < W 6 by omega)).1
          have ed : (48 - 1 - (6 * j + (6 - W 6) + e)) / 6 = 7 - j := by omega
          have em : (48 - 1 - (6 * j + (6 - W 6) + e)) % 6 = W 6 - 1 - e := by omega
          have eP : feI W s g kd (48 - 1 - (6 * j + (6 - W 6) + e)) = (decide (wso W (W 6 - 1 - e) 0 = kd), whe W (7 - j) (3 + (W 6 - 1 - e)), wso W (W 6 - 1 - e) 1, minN W s (7 - j) (W 6 - 1 - e) g) := by
            unfold feI feP
            rw [ed, em]
            have : (W 6 - 1 - e < W 6 ∧ whe W (7 - j) 0 = 1 ∧ wso W (W 6 - 1 - e) 0 = kd ∧ ¬ hpN W s (7 - j) = gpN W s g) ↔ wso W (W 6 - 1 - e) 0 = kd := ⟨fun w => w.2.2.1, fun w => ⟨by omega, ht, w, z⟩⟩
            simp only [this]
          have eQ : feQ va vb (48 - 1 - (6 * j + (6 - W 6) + e)) = decide (nI (7 - j) = va ∧ nI (W 6 - 1 - e) = vb) := by
            unfold feQ
            rw [ed, em]
          show Ok (St_fetchOf_l68 t ti c (nI s) (nI g) (nI kd) va vb (nI (7 - j)) 1 (nI (W 6 - e) - 1) y) _
          unfold St_fetchOf_l68 St_fetchOf_b137 St_fetchOf_b138 St_fetchOf_b141
          rw [f1, f2]
          refine Ok_if (nI_pos (by omega)) (Ok_if (by decide) (Ok_b (tS0 Ry I (by omega)) ?_))
          by_cases q : wso W (W 6 - 1 - e) 0 = kd
          · have q' : (feI W s g kd (48 - 1 - (6 * j + (6 - W 6) + e))).1 = true := by rw [eP]; exact decide_eq_true q
            have kb := fe_KB I s kd hg _ (by omega) q'
            have N2 := Nat.mul_le_mul_right 2622000 (show 6 * j + (6 - W 6) + e ≤ 48 by omega)
            rw [eP] at kb
            simp only at kb
            have of := St_offer_e S2 KL (kn_0 _) (ka_0 _) (kn_b (fe_KB I s kd hg) _ (by omega)) (n := whe W (7 - j) (3 + (W 6 - 1 - e))) (p := wso W (W 6 - 1 - e) 1) (w := minN W s (7 - j) (W 6 - 1 - e) g) (by have := kb.2.2; omega) kb.1 kb.2.1
            have eT : feT W s g kd (6 * j + (6 - W 6) + (e + 1)) = fun k => bsT (feT W s g kd (6 * j + (6 - W 6) + e)) (wso W (W 6 - 1 - e) 1) (minN W s (7 - j) (W 6 - 1 - e) g) k (whe W (7 - j) (3 + (W 6 - 1 - e))) := by
              refine (kn_y q').trans ?_
              rw [eP]
            have eA : feA W s g kd va vb (6 * j + (6 - W 6) + (e + 1)) = fun k => if decide (nI (7 - j) = va ∧ nI (W 6 - 1 - e) = vb) = true then usT (feT W s g kd (6 * j + (6 - W 6) + e)) (wso W (W 6 - 1 - e) 1) (minN W s (7 - j) (W 6 - 1 - e) g) k (whe W (7 - j) (3 + (W 6 - 1 - e))) else feA W s g kd va vb (6 * j + (6 - W 6) + e) (k - usT (feT W s g kd (6 * j + (6 - W 6) + e)) (wso W (W 6 - 1 - e) 1) (minN W s (7 - j) (W 6 - 1 - e) g) k (whe W (7 - j) (3 + (W 6 - 1 - e))) * wso W (W 6 - 1 - e) 1) := by
              refine (ka_y q').trans ?_
              rw [eP, eQ]
            refine Ok_it (congrArg nI q) (Ok_b (Ca_unitsIn_e Ry hh (by omega)) (Ok_b (tS1 Ry I (by omega)) (Ok_b (Ca_minutesOf_e Ry I hs hh ht (by omega) hg) ?_)))
            have no : ¬ (nI (7 - j) = va ∧ nI (W 6 - 1 - e) = vb) → Ok ((St_offer t (nI (whe W (7 - j) (3 + (W 6 - 1 - e)))) (nI (wso W (W 6 - 1 - e) 1)) (nI (minN W s (7 - j) (W 6 - 1 - e) g)) 0 y).bind (fun m138 => (some (Sum.inl (nI (W 6 - (e + 1)) - 1, m138)) : Option ((Int32 × Mem) ⊕ ((Int32 × Mem) ⊕ (Int32 × Mem)))))) (fun r => ∃ x', r = .inl (nI (W 6 - (e + 1)) - 1, x') ∧ SP x' t (shN W s g kd) (feT W s g kd (6 * j + (6 - W 6) + (e + 1))) (feA W s g kd va vb (6 * j + (6 - W 6) + (e + 1))) ∧ Fp t (t + 3) m x') := by
              intro hz
              refine Ok_bind (of 0) (fun w ⟨S3, F3⟩ => Ok_s ⟨w, rfl, S3.to eT.symm ?_, F2.trans (F3.wide (by omega) (by omega))⟩)
              rw [eA]
              funext k
              rw [if_neg (fun h => hz (of_decide_eq_true h)), if_pos rfl]
            by_cases y1 : nI (7 - j) = va
            · by_cases y2 : nI (W 6 - 1 - e) = vb
              · refine Ok_it y1 (Ok_it y2 (Ok_bind (of 1) (fun w ⟨S3, F3⟩ => Ok_s ⟨w, rfl, S3.to eT.symm ?_, F2.trans (F3.wide (by omega) (by omega))⟩)))
                rw [eA]
                funext k
                rw [if_pos (decide_eq_true ⟨y1, y2⟩), if_neg (by decide)]
              · exact Ok_it y1 (Ok_if y2 (no (fun w => y2 w.2)))
            · exact Ok_if y1 (no (fun w => y1 w.1))
          · have q' : ¬ (feI W s g kd (48 - 1 - (6 * j + (6 - W 6) + e))).1 = true := by rw [eP]; exact fun h => q (of_decide_eq_true h)
            exact Ok_if (fun z => q ((nI_eq (by omega) (by omega)).mp z)) (Ok_s ⟨y, rfl, S2.to (kn_n q').symm (ka_n q').symm, F2⟩)
        · show Ok (St_fetchOf_l68 t ti c (nI s) (nI g) (nI kd) va vb (nI (7 - j)) 1 (nI (W 6 - W 6) - 1) y) _
          unfold St_fetchOf_l68 St_fetchOf_b147
          rw [Nat.sub_self]
          refine Ok_it (by decide) ?_
          rw [up_some, e2]
          rw [show 6 * j + (6 - W 6) + W 6 = 6 * (j + 1) by omega] at S2
          exact Ok_s ⟨_, rfl, y, rfl, S2, F2⟩
    · rw [if_neg (fun w => ht w.2)]
      exact none (fun w => ht w.1)
  · show Ok (St_fetchOf_l26 t ti c (nI s) (nI g) (nI kd) va vb (nI (8 - 8) - 1) x) _
    unfold St_fetchOf_l26
    refine Ok_it (by decide) ?_
    rw [show rI x t 2 = nI (shN W s g kd) from S.1, St_costOf_e S KL (Nat.le_refl _), bind_s, up_some]
    exact Ok_s ⟨_, rfl, rfl, S, F⟩
/-! the reference's rows -/
def FR1 (m : Mem) (W : Wd) (s g kd K lo : Nat) : Prop := ∀ j, j ≤ lo → ∀ k, k ≤ K → m.1 311 (1681 * (48 - j) + k) = nI (feT W s g kd j k)
theorem FR1.w {s g kd K lo a : Nat} (L : FR1 m W s g kd K lo) (v : Int32) (h : ∀ j, j ≤ lo → ∀ k, k ≤ K → 1681 * (48 - j) + k ≠ a) : FR1 (wI m 311 a v) W s g kd K lo := fun j hj k hk => by
  rw [wI_at, if_neg (h j hj k hk)]
  exact L j hj k hk
theorem ix_row2 {s k : Nat} (hs : s ≤ 48) (hk : k ≤ 1680) : (1681 : Int32) * nI s + nI k = nI (1681 * s + k) ∧ 1681 * s + k < 82369 := by
  refine ⟨?_, by omega⟩
  rw [show (1681 : Int32) = nI 1681 from rfl, pk_mul, nI_add]
def fuN (W : Wd) (s g kd i : Nat) : Nat := if feP W s g kd i then whe W (i / 6) (3 + i % 6) else 0
theorem s31 (I : Inv W) {s : Nat} (hs : s < 2 ^ W 5) : s < 2147483648 := by
  have hp := p2le (k := W 5) (n := 7) I.d.2.2.2.2.1
  have h128 : (2 : Nat) ^ 7 = 128 := by decide
  omega
theorem Mo_pieceOfGroup_e (hW : MW m W) (I : Inv W) {s g : Nat} (hs : s < 2147483648) (hg : g < 4) : Mo_pieceOfGroup 298 (nI s) (nI g) m = some (nI (gpN W s g)) := by
  obtain ⟨x0, x1⟩ := I.gxy hg
  unfold Mo_pieceOfGroup
  rw [qG0 hW hg, bind_s, qG1 hW hg, bind_s, Mo_pieceOf_e hW I hs x0 x1, bind_s]
theorem Mo_fetchable_e (hW : MW m W) (I : Inv W) {s g kd i : Nat} (hs : s < 2147483648) (hg : g < 4) (hkd : kd ≤ 3) (hi : i < 48) : Mo_fetchable 298 (nI s) (nI g) (nI i) (nI kd) m = some (nI (fuN W s g kd i)) := by
  have d := I.d
  have hh : i / 6 < 8 := by omega
  have xy := I.xy hh
  unfold Mo_fetchable Mo_fetchable_b74 Mo_fetchable_b75 fuN
  rw [(d6 i hi).2, (d6 i hi).1, if_pos (show (0 : Int32) = 0 from rfl), Mo_isSort_e hW (by omega), bind_s, ite_b2]
  by_cases h1 : i % 6 < W 6
  · have b := (I.S h1).1
    rw [if_pos (in_nI h1 (by omega)), qT hW hh (I.H hh).1, bind_s, ite_b2]
    by_cases h2 : whe W (i / 6) 0 = 1
    · rw [if_pos h2, qS0 hW (by omega), bind_s]
      by_cases h3 : wso W (i % 6) 0 = kd
      · have p1 : hpN W s (i / 6) ≤ 56 := piece_le I s _ _
        have p2 : gpN W s g ≤ 56 := piece_le I s _ _
        rw [if_pos (congrArg nI h3), qH1 hW hh, bind_s, qH2 hW hh, bind_s, Mo_pieceOf_e hW I hs (by omega) (by omega), bind_s, Mo_pieceOfGroup_e hW I hs hg, bind_s]
        by_cases h4 : hpN W s (i / 6) = gpN W s g
        · rw [if_pos (congrArg nI h4), if_neg (fun z => z.2.2.2 h4)]
          rfl
        · rw [if_neg (fun z => h4 ((nI_eq (by omega) (by omega)).mp z)), if_neg (by decide), qU hW hh (by omega), bind_s, if_pos ⟨h1, h2, h3, h4⟩]
      · rw [if_neg (fun z => h3 ((nI_eq (by omega) (by omega)).mp z)), if_neg (fun z => h3 z.2.2.1)]
        rfl
    · rw [if_neg h2, if_neg (fun z => h2 z.2.1)]
      rfl
  · rw [if_neg (fun z => by
      obtain ⟨j, hj, e⟩ := in_of z (by omega)
      have := (nI_eq (by omega) (by omega)).mp e
      omega), if_neg (fun z => h1 z.1)]
    rfl
theorem Mo_needFor_e (hW : MW m W) (I : Inv W) {s g kd : Nat} (hs : s < 2147483648) (hg : g < 4) (hkd : kd ≤ 3) (ht : toldN W kd) : Mo_needFor 298 (nI s) (nI g) (nI kd) m = some (nI (shN W s g kd)) := by
  have p2 : gpN W s g ≤ 56 := piece_le I s _ _
  have a := short_b I s g kd
  unfold Mo_needFor
  rw [Mo_pieceOfGroup_e hW I hs hg, bind_s, Mo_peopleOn_e hW I hs p2, bind_s, gd_t (by decide), qW4 hW, Mo_needOf_e m _ _ _ hkd, bind_s, Mo_givenOn_e hW I hs p2 hkd, bind_s]
  have e : needN (W 4) (peopleOnN W s (gpN W s g)) kd = peopleOnN W s (gpN W s g) * ndN W kd := by
    unfold ndN
    rw [if_pos ht, need1]
  rw [e, jmax0 (by omega) (by omega)]
  rfl
theorem fe_row (W : Wd) (s g kd : Nat) {i : Nat} (hi : i < 48) (k : Nat) : feT W s g kd (48 - i) k = bsT (feT W s g kd (47 - i)) (wso W (i % 6) 1) (minN W s (i / 6) (i % 6) g) k (fuN W s g kd i) := by
  have e : 48 - i = 47 - i + 1 := by omega
  have e2 : 48 - 1 - (47 - i) = i := by omega
  rw [e]
  unfold fuN
  by_cases h : feP W s g kd i
  · rw [if_pos h]
    have q : (feI W s g kd (48 - 1 - (47 - i))).1 = true := by rw [e2]; exact decide_eq_true h
    refine (congrFun (kn_y q) k).trans ?_
    rw [e2]
    rfl
  · rw [if_neg h]
    have q : ¬ (feI W s g kd (48 - 1 - (47 - i))).1 = true := by rw [e2]; exact fun z => h (of_decide_eq_true z)
    exact congrFun (kn_n q) k
theorem Mo_fmin (hW : MW m W) (I : Inv W) {s g i : Nat} (hs : s < 2 ^ W 5) (hg : g < 4) (hi : i < 48) : Mo_minutesOf 298 (nI s) (nI i / 6) (nI i - nI i / 6 * 6) (nI g) m = some (nI (minN W s (i / 6) (i % 6) g)) := by
  rw [(d6 i hi).2, (d6 i hi).1]
  exact Mo_minutesOf_e hW I hs (by omega) (by omega) hg
theorem fu_P {s g kd i : Nat} (h : 0 < fuN W s g kd i) : feP W s g kd i := by
  unfold fuN at h
  by_cases q : feP W s g kd i
  · exact q
  · rw [if_neg q] at h
    omega
theorem Mo_frow (hW : MW m W) (I : Inv W) {s g kd K i k : Nat} (hs : s < 2 ^ W 5) (hg : g < 4) (hK : K ≤ 1680) (hi : i < 48) (hk : k ≤ K) (L : FR1 m W s g kd K (47 - i)) :
    Mo_fetches_l83 298 (nI s) (nI g) (nI kd) (nI K) (nI i) (nI (fuN W s g kd i)) (nI k) m = some (.inl (nI (k + 1), wI m 311 (1681 * i + k) (nI (feT W s g kd (48 - i) k)))) := by
  have d := I.d
  have u20 : fuN W s g kd i ≤ 20 := by
    unfold fuN
    split
    · exact I.u20 (h := i / 6) (s := i % 6) (by omega) (by omega)
    · omega
  have row : ∀ k, k ≤ K → inb ((1681 : Int32) * (nI i + 1) + nI k) 82369 ∧ rI m (298 + 13) (ix ((1681 : Int32) * (nI i + 1) + nI k)) = nI (feT W s g kd (47 - i) k) := by
    intro k hk
    have e := ix_row2 (s := i + 1) (k := k) (by omega) (by omega)
    rw [nI_1, e.1, ix_nI (by omega)]
    refine ⟨in_nI e.2 (by decide), ?_⟩
    have := L (47 - i) (Nat.le_refl _) k hk
    rw [show 48 - (47 - i) = i + 1 by omega] at this
    exact this
  have lf := fe_f I s kd hg (j := 48 - i) (by omega) k
  have ev := fe_row W s g kd hi k
  unfold Mo_fetches_l83
  rw [if_neg (nI_nlt (by omega) (by omega)), gd_t (row k hk).1, (row k hk).2]
  refine loop_cnt (fuN W s g kd i) (fun u => (nI (bsT (feT W s g kd (47 - i)) (wso W (i % 6) 1) (minN W s (i / 6) (i % 6) g) k u), nI (u + 1))) rfl (fun u hu => ?_) ?_
  · have hP := fu_P (show 0 < fuN W s g kd i by omega)
    obtain ⟨b0, b1, b2, b3, b4, b5, -⟩ := I.S hP.1
    have c1 : (u + 1) * wso W (i % 6) 1 ≤ 20 * 99 := Nat.mul_le_mul (by omega) b2
    have c2 : (u + 1) * minN W s (i / 6) (i % 6) g ≤ 20 * 131100 := Nat.mul_le_mul (by omega) (min_b I (by omega) hP.1 hg)
    have l1 := fe_f I s kd hg (j := 47 - i) (by omega) k
    have l2 := fe_f I s kd hg (j := 47 - i) (by omega) (k - (u + 1) * wso W (i % 6) 1)
    have l3 := bs_le (T := feT W s g kd (47 - i)) (p := wso W (i % 6) 1) (w := minN W s (i / 6) (i % 6) g) (k := k) u
    show Mo_fetches_l111 298 (nI s) (nI g) (nI kd) (nI K) (nI i) (nI (fuN W s g kd i)) (nI k) (nI (bsT (feT W s g kd (47 - i)) (wso W (i % 6) 1) (minN W s (i / 6) (i % 6) g) k u)) (nI (u + 1)) m = _
    unfold Mo_fetches_l111
    rw [if_neg (nI_nlt (by omega) (by omega)), Mo_fmin hW I hs hg hi, bind_s, (d6 i hi).2, qS1 hW (by omega), bind_s, show jmax 0 (nI k - nI (u + 1) * nI (wso W (i % 6) 1)) = nI (k - (u + 1) * wso W (i % 6) 1) by rw [pk_mul, jmax0 (by omega) (by omega)]]
    rw [gd_t (row _ (by omega)).1, (row _ (by omega)).2, pk_mul, nI_add, jmin_nI (by omega) (by omega), nI_1]
    rfl
  · have e := ix_row2 (s := i) (k := k) (by omega) (by omega)
    show Mo_fetches_l111 298 (nI s) (nI g) (nI kd) (nI K) (nI i) (nI (fuN W s g kd i)) (nI k) (nI (bsT (feT W s g kd (47 - i)) (wso W (i % 6) 1) (minN W s (i / 6) (i % 6) g) k (fuN W s g kd i))) (nI (fuN W s g kd i + 1)) m = _
    unfold Mo_fetches_l111
    rw [if_pos (nI_lt (by omega) (by omega)), ← ev, e.1, gd_in e.2 (by decide), ix_nI (by omega), show (1000000000 : Int32) = nI 1000000000 from rfl, jmin_nI (by decide) (by omega), Nat.min_eq_right lf, nI_1]
    rfl
theorem Mo_fetches19_e (hW : MW m W) (I : Inv W) {s g kd K : Nat} (hs : s < 2 ^ W 5) (hg : g < 4) (hkd : kd ≤ 3) (hK : K ≤ 1680) : Ok (Mo_fetches_b19 298 (nI s) (nI g) (nI kd) (nI K) m) (fun r => r.1 = enc (feT W s g kd 48 K) ∧ FR1 r.2 W s g kd K 48 ∧ Fp 311 312 m r.2) := by
  have d := I.d
  have s1 := s31 I hs
  unfold Mo_fetches_b19
  refine Ok_for (K + 1) (fun i x => (∀ k, k < i → x.1 311 (80688 + k) = nI (if k = 0 then 0 else 1000000000)) ∧ Fp 311 312 m x) ⟨fun k h => by omega, Fp.refl⟩ (fun i x hi ⟨a, F⟩ => ?_) (fun x ⟨a, F⟩ => ?_)
  · have e : (80688 : Int32) + nI i = nI (80688 + i) := by rw [show (80688 : Int32) = nI 80688 from rfl, nI_add]
    have b53 : ∀ v, v = nI (if i = 0 then 0 else 1000000000) → Ok (Mo_fetches_b53 298 (nI s) (nI g) (nI kd) (nI K) (nI i) (nI (80688 + i)) v x) (fun r => ∃ m', r = Sum.inl (nI (i + 1), m') ∧ (∀ k, k < i + 1 → m'.1 311 (80688 + k) = nI (if k = 0 then 0 else 1000000000)) ∧ Fp 311 312 m m') := by
      intro v hv
      unfold Mo_fetches_b53
      refine Ok_gd (in_nI (by omega) (by decide)) (Ok_lt ?_)
      rw [ix_nI (by omega)]
      refine Ok_s ⟨_, by rw [nI_1], fun k hk => ?_, F.trans (Fp.wI (by omega) (by omega) _ _)⟩
      rw [show 298 + 13 = 311 from rfl, wI_at]
      by_cases z : k = i
      · rw [if_pos (by omega), hv, z]
      · rw [if_neg (by omega)]; exact a k (by omega)
    show Ok (Mo_fetches_l24 298 (nI s) (nI g) (nI kd) (nI K) (nI i) x) _
    unfold Mo_fetches_l24
    rw [e]
    refine Ok_if (nI_nlt (by omega) (by omega)) ?_
    by_cases z : i = 0
    · exact Ok_it (by rw [z]; rfl) (b53 0 (by rw [if_pos z]; rfl))
    · exact Ok_if (nI_ne0 (by omega) (by omega)) (b53 1000000000 (by rw [if_neg z]; rfl))
  · show Ok (Mo_fetches_l24 298 (nI s) (nI g) (nI kd) (nI K) (nI (K + 1)) x) _
    unfold Mo_fetches_l24
    refine Ok_it (nI_lt (by omega) (by omega)) (Ok_up (P := fun r => r.1 = enc (feT W s g kd 48 K) ∧ FR1 r.2 W s g kd K 48 ∧ Fp 311 312 m r.2) ?_ (fun r hr => ⟨_, rfl, hr⟩))
    refine Ok_loop 48 (fun j x => (nI (48 - j) - 1, x)) (fun j x => FR1 x W s g kd K j ∧ Fp 311 312 m x) x rfl ⟨fun j hj k hk => ?_, F⟩ (fun j y hj ⟨L, G⟩ => ?_) (fun y ⟨L, G⟩ => ?_)
    · rw [show j = 0 by omega]
      exact a k (by omega)
    · have Wy := hW.fp G (by omega)
      have e1 : nI (48 - j) - 1 = nI (47 - j) := by rw [nI_p1 (by omega), show 48 - j - 1 = 47 - j by omega]
      have e2 : nI (47 - j) + -1 = nI (48 - (j + 1)) - 1 := by rw [Int32.sub_eq_add_neg, show 47 - j = 48 - (j + 1) by omega]
      show Ok (Mo_fetches_l64 298 (nI s) (nI g) (nI kd) (nI K) (nI (48 - j) - 1) y) _
      unfold Mo_fetches_l64
      rw [e1]
      refine Ok_if (nI_pos (by omega)) (Ok_b (Mo_fetchable_e Wy I s1 hg hkd (by omega)) ?_)
      refine Ok_for (K + 1) (fun i z => FR1 z W s g kd K j ∧ (∀ k, k < i → z.1 311 (1681 * (47 - j) + k) = nI (feT W s g kd (j + 1) k)) ∧ Fp 311 312 m z) ⟨L, fun k h => by omega, G⟩ (fun i z hi ⟨L2, b, G2⟩ => ?_) (fun z ⟨L2, b, G2⟩ => ?_)
      · refine Ok_e (Mo_frow (hW.fp G2 (by omega)) I hs hg hK (i := 47 - j) (by omega) (show i ≤ K by omega) (by rw [show 47 - (47 - j) = j by omega]; exact L2)) ⟨_, rfl, L2.w _ (fun j' hj' k hk => by omega), fun k hk => ?_, G2.trans (Fp.wI (by omega) (by omega) _ _)⟩
        rw [wI_at]
        by_cases q : k = i
        · rw [if_pos (by omega), q, show 48 - (47 - j) = j + 1 by omega]
        · rw [if_neg (by omega)]; exact b k (by omega)
      · show Ok (Mo_fetches_l83 298 (nI s) (nI g) (nI kd) (nI K) (nI (47 - j)) (nI (fuN W s g kd (47 - j))) (nI (K + 1)) z) _
        unfold Mo_fetches_l83
        refine Ok_it (nI_lt (by omega) (by omega)) ?_
        rw [up_some, e2]
        refine Ok_s ⟨_, rfl, z, rfl, fun j' hj' k hk => ?_, G2⟩
        by_cases q : j' = j + 1
        · rw [q, show 48 - (j + 1) = 47 - j by omega]
          exact b k (by omega)
        · exact L2 j' (by omega) k hk
    · show Ok (Mo_fetches_l64 298 (nI s) (nI g) (nI kd) (nI K) (nI (48 - 48) - 1) y) _
      unfold Mo_fetches_l64
      have lf := fe_f I s kd hg (j := 48) (Nat.le_refl _) K
      have e : rI y (298 + 13) (ix (nI K)) = nI (feT W s g kd 48 K) := by
        rw [ix_nI (by omega)]
        have := L 48 (Nat.le_refl _) K (Nat.le_refl _)
        rw [show 1681 * (48 - 48) + K = K by omega] at this
        exact this
      refine Ok_it (by decide) ?_
      rw [e, gd_in (by omega) (by decide), gd_in (by omega) (by decide)]
      by_cases q : feT W s g kd 48 K < 1000000000
      · rw [if_pos (show nI (feT W s g kd 48 K) < (1000000000 : Int32) from nI_lt (b := 1000000000) q (by decide)), up_some]
        exact Ok_s ⟨_, rfl, (enc_t q).symm, L, G⟩
      · rw [if_neg (show ¬ nI (feT W s g kd 48 K) < (1000000000 : Int32) from nI_nlt (show 1000000000 ≤ feT W s g kd 48 K by omega) (by omega)), up_some]
        exact Ok_s ⟨_, rfl, (if_neg q).symm, L, G⟩
theorem Mo_fetches_e (hW : MW m W) (I : Inv W) {s g kd : Nat} (hs : s < 2 ^ W 5) (hg : g < 4) (hkd : kd ≤ 3) : Ok (Mo_fetches 298 (nI s) (nI g) (nI kd) m) (fun r => r.1 = enc (feT W s g kd 48 (shN W s g kd)) ∧ FR1 r.2 W s g kd (shN W s g kd) 48 ∧ Fp 311 312 m r.2) := by
  unfold Mo_fetches
  rw [Mo_isTold_e hW I hkd, bind_s, ite_b2]
  by_cases ht : toldN W kd
  · rw [if_pos ht, Mo_needFor_e hW I (s31 I hs) hg hkd ht, bind_s]
    exact Mo_fetches19_e hW I hs hg hkd (sh_le I s g kd)
  · rw [if_neg ht, sh_n ht]
    exact Mo_fetches19_e hW I hs hg hkd (Nat.zero_le _)
abbrev feV (W : Wd) (s g k : Nat) : Int32 := enc (feT W s g k 48 (shN W s g k))
def vFetch (W : Wd) (x y : Int32) : Int32 := if 0 < W 1 ∧ inb x (2 ^ W 5) then if inb y 4 then alI (fun k => feV W (ix x) (ix y) k) 4 0 0 else -2 else -2
theorem st_fetch (x y : Int32) : Same (PL_fetch 1 x y) (Mo_fetch 298 x y) := by
  refine Same_q (fun W _ => vFetch W x y) (fun m W p R I => ?_) (fun m W p hW I => ?_) (fun m m' W F => rfl)
  · unfold PL_fetch vFetch
    rw [fl_hasSet R I, bind_s, ite_b2, PL_isGroup_e, bind_s, ite_b2]
    by_cases h : 0 < W 1 ∧ inb x (2 ^ W 5)
    · rw [if_pos h, if_pos h]
      by_cases q : inb y 4
      · rw [if_pos q, if_pos q]
        have p7 := s31 I (s := 2 ^ W 5 - 1) (by have := Nat.two_pow_pos (W 5); omega)
        obtain ⟨s, hs, rfl⟩ := in_of h.2 (by
          have := Nat.two_pow_pos (W 5)
          have hp := p2le (k := W 5) (n := 7) I.d.2.2.2.2.1
          have h128 : (2 : Nat) ^ 7 = 128 := by decide
          omega)
        obtain ⟨g, hg, rfl⟩ := in_of q (by decide)
        have := s31 I hs
        rw [ix_nI (by omega), ix_nI (by omega)]
        refine Ok_bind (Ic_look_e (t := 203) R I (by omega)) (fun m1 ⟨F1, A, _, _⟩ => ?_)
        have R1 := R.fp I F1 (by omega)
        refine Ok_mono (Ok_all (m0 := m1) 279 282 (fun k => feV W s g k) (fun k a x hk F => ?_) (fun a x => ?_) 4 0 0 m1 rfl Fp.refl) (fun r ⟨h1, h2⟩ => ⟨h1, (F1.wide (by omega) (by omega)).trans (h2.wide (by omega) (by omega))⟩)
        · show Ok (PL_fetch_l40 1 (nI s) (nI g) a (nI k) x) _
          unfold PL_fetch_l40
          refine Ok_if (show ¬ nI 4 ≤ nI k from nI_ge hk (by decide)) (Ok_bind (show Ok (St_fetchOf (1 + 278) (1 + 202) (1 + 27) (nI s) (nI g) (nI k) (-1) (-1) x) _ from St_fetchOf_e (c := 28) (t := 279) (R1.fp I F (by omega)) I 203 (A.fp (fun a _ _ _ _ => (F a (by omega)).1)) (by omega) (by omega) hs hg (show k ≤ 3 by omega) (-1) (-1)) (fun r ⟨r1, _, F3⟩ => ?_))
          rw [r1]
          by_cases z : feV W s g k = -1
          · refine Ok_it z ?_
            rw [up_some]
            exact Ok_s ⟨_, F.trans F3, by rw [if_pos z]⟩
          · exact Ok_if z (Ok_s ⟨_, F.trans F3, by rw [if_neg z, nI_1]⟩)
        · show PL_fetch_l40 1 (nI s) (nI g) a (nI 4) x = _
          unfold PL_fetch_l40
          rw [if_pos (show (4 : Int32) ≤ nI 4 by decide), up_some]
      · rw [if_neg q, if_neg q]
        exact Ok_s ⟨rfl, Fp.refl⟩
    · rw [if_neg h, if_neg h]
      exact Ok_s ⟨rfl, Fp.refl⟩
  · have d := I.d
    unfold Mo_fetch vFetch
    rw [Mo_isSet_e hW (by omega) (by omega), bind_s, ite_b2, Mo_isGroup_e, bind_s, ite_b2]
    by_cases h : 0 < W 1 ∧ inb x (2 ^ W 5)
    · rw [if_pos h, if_pos h]
      by_cases q : inb y 4
      · rw [if_pos q, if_pos q]
        obtain ⟨s, hs, rfl⟩ := in_of h.2 (by
          have hp := p2le (k := W 5) (n := 7) I.d.2.2.2.2.1
          have h128 : (2 : Nat) ^ 7 = 128 := by decide
          omega)
        obtain ⟨g, hg, rfl⟩ := in_of q (by decide)
        have := s31 I hs
        rw [ix_nI (by omega), ix_nI (by omega)]
        refine Ok_mono (Ok_all (m0 := m) 311 312 (fun k => feV W s g k) (fun k a x hk F => ?_) (fun a x => ?_) 4 0 0 m rfl Fp.refl) (fun r ⟨h1, h2⟩ => ⟨h1, h2.wide (by omega) (by omega)⟩)
        · show Ok (Mo_fetch_l23 298 (nI s) (nI g) a (nI k) x) _
          unfold Mo_fetch_l23
          refine Ok_if (show ¬ nI 4 ≤ nI k from nI_ge hk (by decide)) (Ok_bind (Mo_fetches_e (hW.fp F (by omega)) I hs hg (show k ≤ 3 by omega)) (fun r ⟨r1, _, F3⟩ => ?_))
          rw [r1]
          by_cases z : feV W s g k = -1
          · refine Ok_it z ?_
            rw [up_some]
            exact Ok_s ⟨_, F.trans F3, by rw [if_pos z]⟩
          · exact Ok_if z (Ok_s ⟨_, F.trans F3, by rw [if_neg z, nI_1]⟩)
        · show Mo_fetch_l23 298 (nI s) (nI g) a (nI 4) x = _
          unfold Mo_fetch_l23
          rw [if_pos (show (4 : Int32) ≤ nI 4 by decide), up_some]
      · rw [if_neg q, if_neg q]
        exact Ok_s ⟨rfl, Fp.refl⟩
    · rw [if_neg h, if_neg h]
      exact Ok_s ⟨rfl, Fp.refl⟩
/-! fetched -/
theorem Mo_fin (hW : MW m W) (I : Inv W) {s g kd K i k h0 s0 : Nat} (hs : s < 2 ^ W 5) (hg : g < 4) (hK : K ≤ 1680) (hi : i < 48) (hh : h0 < 8) (hs0 : s0 < 6) (hk : k ≤ K) (hP : feP W s g kd i) (L : FR1 m W s g kd K 48) :
    loop (fun v : Int32 => Mo_fetched_l117 298 (nI s) (nI g) (nI h0) (nI s0) (nI kd) (nI k) (nI i) (nI (wso W (i % 6) 1)) v m) 0 = some (if i = 6 * h0 + s0 then .inr (nI (usT (feT W s g kd (47 - i)) (wso W (i % 6) 1) (minN W s (i / 6) (i % 6) g) k (fuN W s g kd i)), m) else .inl (nI (k - usT (feT W s g kd (47 - i)) (wso W (i % 6) 1) (minN W s (i / 6) (i % 6) g) k (fuN W s g kd i) * wso W (i % 6) 1), nI (i + 1))) := by
  have d := I.d
  obtain ⟨b0, b1, b2, b3, b4, b5, -⟩ := I.S hP.1
  have u20 : fuN W s g kd i ≤ 20 := by
    unfold fuN
    split
    · exact I.u20 (h := i / 6) (s := i % 6) (by omega) (by omega)
    · omega
  have ev := fe_row W s g kd hi k
  have row0 : inb ((1681 : Int32) * nI i + nI k) 82369 ∧ rI m (298 + 13) (ix ((1681 : Int32) * nI i + nI k)) = nI (feT W s g kd (48 - i) k) := by
    have e := ix_row2 (s := i) (k := k) (by omega) (by omega)
    rw [e.1, ix_nI (by omega)]
    refine ⟨in_nI e.2 (by decide), ?_⟩
    have := L (48 - i) (by omega) k hk
    rw [show 48 - (48 - i) = i by omega] at this
    exact this
  have row1 : ∀ k, k ≤ K → inb ((1681 : Int32) * (nI i + 1) + nI k) 82369 ∧ rI m (298 + 13) (ix ((1681 : Int32) * (nI i + 1) + nI k)) = nI (feT W s g kd (47 - i) k) := by
    intro k hk
    have e := ix_row2 (s := i + 1) (k := k) (by omega) (by omega)
    rw [nI_1, e.1, ix_nI (by omega)]
    refine ⟨in_nI e.2 (by decide), ?_⟩
    have := L (47 - i) (by omega) k hk
    rw [show 48 - (47 - i) = i + 1 by omega] at this
    exact this
  have lf := fe_f I s kd hg (j := 48 - i) (by omega) k
  have us := bs_us (T := feT W s g kd (47 - i)) (p := wso W (i % 6) 1) (w := minN W s (i / 6) (i % 6) g) (k := k) (fuN W s g kd i)
  have mb := min_b I (s := s) (h := i / 6) (by omega) hP.1 hg
  have cmp : ∀ u, u ≤ fuN W s g kd i → u * wso W (i % 6) 1 ≤ 20 * 99 ∧ u * minN W s (i / 6) (i % 6) g ≤ 20 * 131100 ∧ feT W s g kd (47 - i) (k - u * wso W (i % 6) 1) ≤ 1000000000 := fun u hu =>
    ⟨Nat.mul_le_mul (by omega) b2, Nat.mul_le_mul (by omega) mb, fe_f I s kd hg (by omega) _⟩
  have ea : (6 : Int32) * nI h0 + nI s0 = nI (6 * h0 + s0) := by rw [show (6 : Int32) = nI 6 from rfl, pk_mul, nI_add]
  refine loop_cnt (usT (feT W s g kd (47 - i)) (wso W (i % 6) 1) (minN W s (i / 6) (i % 6) g) k (fuN W s g kd i)) (fun u => nI u) rfl (fun u hu => ?_) ?_
  · obtain ⟨c1, c2, c3⟩ := cmp u (by omega)
    have lt := bs_first (T := feT W s g kd (47 - i)) (p := wso W (i % 6) 1) (w := minN W s (i / 6) (i % 6) g) (k := k) (fuN W s g kd i) u hu
    show Mo_fetched_l117 298 (nI s) (nI g) (nI h0) (nI s0) (nI kd) (nI k) (nI i) (nI (wso W (i % 6) 1)) (nI u) m = _
    unfold Mo_fetched_l117
    rw [Mo_fmin hW I hs hg hi, bind_s, show jmax 0 (nI k - nI u * nI (wso W (i % 6) 1)) = nI (k - u * wso W (i % 6) 1) by rw [pk_mul, jmax0 (by omega) (by omega)]]
    rw [gd_t (row1 _ (by omega)).1, gd_t row0.1, (row1 _ (by omega)).2, row0.2, pk_mul, nI_add, ev]
    rw [if_neg (fun z => by have := (nI_eq (by omega) (by rw [← ev]; omega)).mp z; omega), nI_1]
  · obtain ⟨c1, c2, c3⟩ := cmp _ us.2
    show Mo_fetched_l117 298 (nI s) (nI g) (nI h0) (nI s0) (nI kd) (nI k) (nI i) (nI (wso W (i % 6) 1)) (nI (usT (feT W s g kd (47 - i)) (wso W (i % 6) 1) (minN W s (i / 6) (i % 6) g) k (fuN W s g kd i))) m = _
    unfold Mo_fetched_l117 Mo_fetched_b215
    rw [Mo_fmin hW I hs hg hi, bind_s, show jmax 0 (nI k - nI (usT (feT W s g kd (47 - i)) (wso W (i % 6) 1) (minN W s (i / 6) (i % 6) g) k (fuN W s g kd i)) * nI (wso W (i % 6) 1)) = nI (k - usT (feT W s g kd (47 - i)) (wso W (i % 6) 1) (minN W s (i / 6) (i % 6) g) k (fuN W s g kd i) * wso W (i % 6) 1) by rw [pk_mul, jmax0 (by omega) (by omega)]]
    rw [gd_t (row1 _ (by omega)).1, gd_t row0.1, (row1 _ (by omega)).2, row0.2, pk_mul, nI_add, ev, if_pos (congrArg nI us.1.symm), ea, nI_1]
    by_cases z : i = 6 * h0 + s0
    · rw [if_pos (congrArg nI z), if_pos z]
      rfl
    · rw [if_neg (fun y => z ((nI_eq (by omega) (by omega)).mp y)), if_neg z, up_some]
theorem fq_iff {h0 s0 i : Nat} (hh : h0 < 8) (hs0 : s0 < 6) (hi : i < 48) : feQ (nI h0) (nI s0) i = true ↔ i = 6 * h0 + s0 := by
  unfold feQ
  constructor
  · intro h
    obtain ⟨a, b⟩ := of_decide_eq_true h
    have a' := (nI_eq (by omega) (by omega)).mp a
    have b' := (nI_eq (by omega) (by omega)).mp b
    omega
  · intro h
    exact decide_eq_true ⟨by rw [h, show (6 * h0 + s0) / 6 = h0 by omega], by rw [h, show (6 * h0 + s0) % 6 = s0 by omega]⟩
theorem fa_row (W : Wd) (s g kd : Nat) (a b : Int32) {i : Nat} (hi : i < 48) (k : Nat) : (feP W s g kd i → feA W s g kd a b (48 - i) k = if feQ a b i = true then usT (feT W s g kd (47 - i)) (wso W (i % 6) 1) (minN W s (i / 6) (i % 6) g) k (fuN W s g kd i) else feA W s g kd a b (47 - i) (k - usT (feT W s g kd (47 - i)) (wso W (i % 6) 1) (minN W s (i / 6) (i % 6) g) k (fuN W s g kd i) * wso W (i % 6) 1)) ∧ (¬ feP W s g kd i → feA W s g kd a b (48 - i) k = feA W s g kd a b (47 - i) k) := by
  have e : 48 - i = 47 - i + 1 := by omega
  have e2 : 48 - 1 - (47 - i) = i := by omega
  rw [e]
  unfold fuN
  constructor
  · intro h
    have q : (feI W s g kd (48 - 1 - (47 - i))).1 = true := by rw [e2]; exact decide_eq_true h
    rw [if_pos h]
    refine (congrFun (ka_y q) k).trans ?_
    rw [e2]
    rfl
  · intro h
    have q : ¬ (feI W s g kd (48 - 1 - (47 - i))).1 = true := by rw [e2]; exact fun z => h (of_decide_eq_true z)
    exact congrFun (ka_n q) k
theorem Mo_fwalk (hW : MW m W) (I : Inv W) {s g kd K h0 s0 : Nat} (hs : s < 2 ^ W 5) (hg : g < 4) (hkd : kd ≤ 3) (hK : K ≤ 1680) (hh : h0 < 8) (hs0 : s0 < 6) (L : FR1 m W s g kd K 48) :
    Ok (loop (fun x : Int32 × Int32 => Mo_fetched_l70 298 (nI s) (nI g) (nI h0) (nI s0) (nI kd) x.1 x.2 m) (nI K, 0)) (fun r => r = (nI (feA W s g kd (nI h0) (nI s0) 48 K), m)) := by
  have d := I.d
  have ea : (6 : Int32) * nI h0 + nI s0 = nI (6 * h0 + s0) := by rw [show (6 : Int32) = nI 6 from rfl, pk_mul, nI_add]
  have zz : ∀ i k, 6 * h0 + s0 < i → i ≤ 48 → feA W s g kd (nI h0) (nI s0) (48 - i) k = 0 := fun i k h1 h2 => ka_z (48 - i) (fun e he z => by
    have := (fq_iff hh hs0 (by omega)).mp z
    omega) k
  refine Ok_walk (6 * h0 + s0 + 1) (fun i (k : Nat) => (nI k, nI i)) (fun i k => k ≤ K ∧ feA W s g kd (nI h0) (nI s0) (48 - i) k = feA W s g kd (nI h0) (nI s0) 48 K) (fun i k hi ⟨hk, ha⟩ => ?_) (fun k ⟨hk, ha⟩ => ?_) 0 K (by omega) ⟨Nat.le_refl _, rfl⟩
  · obtain ⟨r1, r2⟩ := fa_row W s g kd (nI h0) (nI s0) (show i < 48 by omega) k
    show Ok (Mo_fetched_l70 298 (nI s) (nI g) (nI h0) (nI s0) (nI kd) (nI k) (nI i) m) _
    unfold Mo_fetched_l70
    rw [ea]
    refine Ok_if (nI_nlt (by omega) (by omega)) (Ok_b (Mo_fetchable_e hW I (s31 I hs) hg hkd (by omega)) ?_)
    by_cases q : 0 < fuN W s g kd i
    · have hP := fu_P q
      have u20 : fuN W s g kd i ≤ 20 := by
        unfold fuN
        split
        · exact I.u20 (h := i / 6) (s := i % 6) (by omega) (by omega)
        · omega
      refine Ok_if (nI_ne0 q (by omega)) ?_
      rw [(d6 i (by omega)).2, qS1 hW (by omega), bind_s]
      refine Ok_e (Mo_fin hW I hs hg hK (by omega) hh hs0 hk hP L) ?_
      have e1 := r1 hP
      rw [ha] at e1
      by_cases z : i = 6 * h0 + s0
      · rw [if_pos ((fq_iff hh hs0 (by omega)).mpr z)] at e1
        rw [if_pos z]
        exact Or.inr ⟨_, rfl, by rw [e1]⟩
      · rw [if_neg (fun w => z ((fq_iff hh hs0 (by omega)).mp w))] at e1
        rw [if_neg z]
        refine Or.inl ⟨_, rfl, by omega, ?_⟩
        rw [show 48 - (i + 1) = 47 - i by omega]
        exact e1.symm
    · have q0 : fuN W s g kd i = 0 := by omega
      unfold Mo_fetched_b215
      refine Ok_it (by rw [q0]; rfl) (Ok_s (Or.inl ⟨k, by rw [nI_1], hk, ?_⟩))
      rw [show 48 - (i + 1) = 47 - i by omega]
      by_cases hP : feP W s g kd i
      · have e1 := r1 hP
        rw [ha, q0] at e1
        rw [show usT (feT W s g kd (47 - i)) (wso W (i % 6) 1) (minN W s (i / 6) (i % 6) g) k 0 = 0 from rfl, Nat.zero_mul, Nat.sub_zero] at e1
        by_cases z : i = 6 * h0 + s0
        · rw [if_pos ((fq_iff hh hs0 (by omega)).mpr z)] at e1
          have := zz (i + 1) k (by omega) (by omega)
          rw [show 48 - (i + 1) = 47 - i by omega] at this
          rw [this, e1]
        · rw [if_neg (fun w => z ((fq_iff hh hs0 (by omega)).mp w))] at e1
          exact e1.symm
      · rw [← r2 hP]
        exact ha
  · show Ok (Mo_fetched_l70 298 (nI s) (nI g) (nI h0) (nI s0) (nI kd) (nI k) (nI (6 * h0 + s0 + 1)) m) _
    unfold Mo_fetched_l70
    rw [ea]
    refine Ok_it (nI_lt (by omega) (by omega)) ?_
    rw [up_some]
    refine Ok_s ⟨_, rfl, ?_⟩
    rw [← ha, zz (6 * h0 + s0 + 1) k (by omega) (by omega)]
    rfl
def vFetched (W : Wd) (x y h o : Int32) : Int32 := if 0 < W 1 ∧ inb x (2 ^ W 5) then if inb y 4 then if inb h 8 then if inb o (W 6) then if feV W (ix x) (ix y) (wso W (ix o) 0) = -1 then -1 else nI (feA W (ix x) (ix y) (wso W (ix o) 0) h o 48 (shN W (ix x) (ix y) (wso W (ix o) 0))) else -2 else -2 else -2 else -2
theorem st_fetched (x y h o : Int32) : Same (PL_fetched 1 x y h o) (Mo_fetched 298 x y h o) := by
  refine Same_q (fun W _ => vFetched W x y h o) (fun m W p R I => ?_) (fun m W p hW I => ?_) (fun m m' W F => rfl)
  · have d := I.d
    have hp := p2le (k := W 5) (n := 7) I.d.2.2.2.2.1
    have h128 : (2 : Nat) ^ 7 = 128 := by decide
    unfold PL_fetched vFetched
    rw [fl_hasSet R I, bind_s, ite_b2, PL_isGroup_e, bind_s, ite_b2, PL_isHeap_e, bind_s, ite_b2, show Ta_has (1 + 38) o m = _ from Ta_has_e m R.nS (by omega) o, bind_s, ite_b2]
    by_cases hx : 0 < W 1 ∧ inb x (2 ^ W 5)
    · rw [if_pos hx, if_pos hx]
      by_cases q : inb y 4
      · rw [if_pos q, if_pos q]
        by_cases hh : inb h 8
        · rw [if_pos hh, if_pos hh]
          by_cases ho : inb o (W 6)
          · rw [if_pos ho, if_pos ho]
            obtain ⟨s, hs, rfl⟩ := in_of hx.2 (by omega)
            obtain ⟨g, hg, rfl⟩ := in_of q (by decide)
            obtain ⟨a, ha, rfl⟩ := in_of hh (by decide)
            obtain ⟨b, hb, rfl⟩ := in_of ho (by omega)
            have k3 := (I.S hb).1
            rw [ix_nI (by omega), ix_nI (by omega), ix_nI (by omega)]
            refine Ok_bind (Ic_look_e (t := 203) R I (by omega)) (fun m1 ⟨F1, A, _, _⟩ => ?_)
            have R1 := R.fp I F1 (by omega)
            refine Ok_b (show Ta_at (1 + 38) (nI b) 0 m1 = _ from tS0 (c := 28) R1 I hb) (Ok_bind (show Ok (St_fetchOf (1 + 278) (1 + 202) (1 + 27) (nI s) (nI g) (nI (wso W b 0)) (nI a) (nI b) m1) _ from St_fetchOf_e (c := 28) (t := 279) R1 I 203 A (by omega) (by omega) hs hg k3 (nI a) (nI b)) (fun r ⟨r1, S, F3⟩ => ?_))
            rw [r1]
            by_cases z : feV W s g (wso W b 0) = -1
            · rw [if_pos z, if_pos z]
              exact Ok_s ⟨rfl, (F1.wide (by omega) (by omega)).trans (F3.wide (by omega) (by omega))⟩
            · rw [if_neg z, if_neg z]
              exact Ok_b (show St_askedUnits (1 + 278) r.2 = _ from St_askedUnits_e S (sh_le I s g _)) (Ok_s ⟨rfl, (F1.wide (by omega) (by omega)).trans (F3.wide (by omega) (by omega))⟩)
          · rw [if_neg ho, if_neg ho]
            exact Ok_s ⟨rfl, Fp.refl⟩
        · rw [if_neg hh, if_neg hh]
          exact Ok_s ⟨rfl, Fp.refl⟩
      · rw [if_neg q, if_neg q]
        exact Ok_s ⟨rfl, Fp.refl⟩
    · rw [if_neg hx, if_neg hx]
      exact Ok_s ⟨rfl, Fp.refl⟩
  · have d := I.d
    have hp := p2le (k := W 5) (n := 7) I.d.2.2.2.2.1
    have h128 : (2 : Nat) ^ 7 = 128 := by decide
    unfold Mo_fetched vFetched
    rw [Mo_isSet_e hW (by omega) (by omega), bind_s, ite_b2, Mo_isGroup_e, bind_s, ite_b2, Mo_isHeap_e, bind_s, ite_b2, Mo_isSort_e hW (by omega), bind_s, ite_b2]
    by_cases hx : 0 < W 1 ∧ inb x (2 ^ W 5)
    · rw [if_pos hx, if_pos hx]
      by_cases q : inb y 4
      · rw [if_pos q, if_pos q]
        by_cases hh : inb h 8
        · rw [if_pos hh, if_pos hh]
          by_cases ho : inb o (W 6)
          · rw [if_pos ho, if_pos ho]
            obtain ⟨s, hs, rfl⟩ := in_of hx.2 (by omega)
            obtain ⟨g, hg, rfl⟩ := in_of q (by decide)
            obtain ⟨a, ha, rfl⟩ := in_of hh (by decide)
            obtain ⟨b, hb, rfl⟩ := in_of ho (by omega)
            have k3 := (I.S hb).1
            rw [ix_nI (by omega), ix_nI (by omega), ix_nI (by omega)]
            refine Ok_b (qS0 hW (by omega)) (Ok_bind (Mo_fetches_e hW I hs hg k3) (fun r ⟨r1, L, F3⟩ => ?_))
            rw [r1]
            by_cases z : feV W s g (wso W b 0) = -1
            · rw [if_pos z, if_pos z]
              exact Ok_s ⟨rfl, F3.wide (by omega) (by omega)⟩
            · rw [if_neg z, if_neg z]
              have Wr := hW.fp F3 (by omega)
              refine Ok_b (Mo_needFor_e Wr I (s31 I hs) hg k3 (toldN_iff.mpr ⟨b, hb, rfl⟩)) ?_
              refine Ok_mono (Mo_fwalk Wr I hs hg k3 (sh_le I s g _) ha (by omega) L) (fun y hy => ?_)
              rw [hy]
              exact ⟨rfl, F3.wide (by omega) (by omega)⟩
          · rw [if_neg ho, if_neg ho]
            exact Ok_s ⟨rfl, Fp.refl⟩
        · rw [if_neg hh, if_neg hh]
          exact Ok_s ⟨rfl, Fp.refl⟩
      · rw [if_neg q, if_neg q]
        exact Ok_s ⟨rfl, Fp.refl⟩
    · rw [if_neg hx, if_neg hx]
      exact Ok_s ⟨rfl, Fp.refl⟩
end FETCH

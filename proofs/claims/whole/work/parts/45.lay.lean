/-! layings -/
section LAY
variable {m : Mem} {c : Nat} {W : Wd}
abbrev incW (W : Wd) (h s : Nat) : Wd := putW W h s (whe W h (3 + s) + 1)
def goW (L : List Nat) (s : Nat) (x : Wd × Nat) : Nat → Wd × Nat
  | 0 => x
  | k + 1 => (incW (goW L s x k).1 (L.getD (goW L s x k).2 0) s, ((goW L s x k).2 + 1) % L.length)
/-- alike but for the units -/
def AlU (W W' : Wd) : Prop := (∀ i, i < 116 ∨ 188 ≤ i → W' i = W i) ∧ ∀ h k, h < 8 → k < 3 → whe W' h k = whe W h k
theorem AlU.refl : AlU W W := ⟨fun _ _ => rfl, fun _ _ _ _ => rfl⟩
theorem AlU.trans {W' W'' : Wd} (h : AlU W W') (k : AlU W' W'') : AlU W W'' := ⟨fun i q => (k.1 i q).trans (h.1 i q), fun a b p q => (k.2 a b p q).trans (h.2 a b p q)⟩
theorem AlU.put (W : Wd) {h s : Nat} (n : Nat) (hh : h < 8) (hs : s < 6) : AlU W (putW W h s n) := ⟨fun i q => wu_o W (by omega) n, fun a k ha hk => put_n W (Or.inr (by omega)) (by omega) hs⟩
/-- a ring of heaps that are there -/
def RgO (W : Wd) (L : List Nat) : Prop := 0 < L.length ∧ L.length ≤ 8 ∧ ∀ p, p < L.length → L.getD p 0 < 8 ∧ whe W (L.getD p 0) 0 = 1
theorem RgO.al {W' : Wd} {L : List Nat} (h : RgO W L) (k : AlU W W') : RgO W' L := ⟨h.1, h.2.1, fun p hp => ⟨(h.2.2 p hp).1, by rw [k.2 _ 0 (h.2.2 p hp).1 (by omega)]; exact (h.2.2 p hp).2⟩⟩
theorem AlU.so {W' : Wd} (h : AlU W W') {s k : Nat} (hs : s < 6) (hk : k < 4) : wso W' s k = wso W s k := h.1 _ (by omega)
theorem goW_ok (I : Inv W) {L : List Nat} (hL : RgO W L) {s p : Nat} (hs : s < W 6) (hp : p < L.length) : ∀ k, unN W s + k ≤ wso W s 3 → Inv (goW L s (W, p) k).1 ∧ AlU W (goW L s (W, p) k).1 ∧ (goW L s (W, p) k).2 < L.length ∧ unN (goW L s (W, p) k).1 s = unN W s + k ∧ ∀ s' h, s' ≠ s → s' < 6 → h < 8 → whe (goW L s (W, p) k).1 h (3 + s') = whe W h (3 + s')
  | 0, _ => ⟨I, AlU.refl, hp, rfl, fun _ _ _ _ _ => rfl⟩
  | k + 1, hk => by
    have d := I.d
    obtain ⟨a, b, e, f, g⟩ := goW_ok I hL hs hp k (by omega)
    obtain ⟨l1, l2⟩ := (hL.al b).2.2 _ e
    obtain ⟨p1, p2, p3⟩ := put_sum (goW L s (W, p) k).1 (s := s) (whe (goW L s (W, p) k).1 (L.getD (goW L s (W, p) k).2 0) (3 + s) + 1) l1 (by omega)
    have e6 : (goW L s (W, p) k).1 6 = W 6 := b.1 6 (by omega)
    have e3 : wso (goW L s (W, p) k).1 s 3 = wso W s 3 := b.so (by omega) (by omega)
    refine ⟨a.put l1 l2 (by omega) (by omega), b.trans (AlU.put _ _ l1 (by omega)), Nat.mod_lt _ hL.1, ?_, fun s' h h1 h2 h3 => ?_⟩
    · show unN (putW _ _ _ _) s = _
      rw [p1]; omega
    · show whe (putW (goW L s (W, p) k).1 _ s _) h (3 + s') = _
      rw [put_n _ (Or.inr (by omega)) (by omega) (by omega), g s' h h1 h2 h3]
theorem RG.fp {m m' : Mem} {L : List Nat} (h : RG m c L) (e : m'.1 (c + 40) = m.1 (c + 40)) : RG m' c L := fun p hp => by rw [e, h p hp]
theorem Ca_laySort_e (R : CR m c W) (I : Inv W) {L : List Nat} (hL : RgO W L) (g : RG m c L) {s a : Nat} (hs : s < W 6) (ha : a ≤ L.length) (hu : unN W s = 0) :
    Ok (Ca_laySort c (nI s) (nI L.length) (nI a) m) (fun r => ∃ a', a' ≤ L.length ∧ r.1 = nI a' ∧ a' % L.length = (goW L s (W, a % L.length) (wso W s 3)).2 ∧ CR r.2 c (goW L s (W, a % L.length) (wso W s 3)).1 ∧ Fp (c + 28) (c + 36) m r.2) := by
  have d := I.d
  obtain ⟨-, -, -, -, -, s20, -⟩ := I.S hs
  have hp : a % L.length < L.length := Nat.mod_lt _ hL.1
  have l8 := hL.2.1
  have l0 := hL.1
  unfold Ca_laySort
  refine Ok_loop (wso W s 3) (fun u (x : Nat × Mem) => (nI x.1, nI u, x.2)) (fun u x => x.1 ≤ L.length ∧ x.1 % L.length = (goW L s (W, a % L.length) u).2 ∧ CR x.2 c (goW L s (W, a % L.length) u).1 ∧ Fp (c + 28) (c + 36) m x.2) (a, m) rfl ⟨ha, rfl, R, Fp.refl⟩ (fun u x hu2 ⟨x1, x2, x3, F⟩ => ?_) (fun x ⟨x1, x2, x3, F⟩ => ?_)
  · obtain ⟨b1, b2, b3, b4, b5⟩ := goW_ok I hL hs hp u (by omega)
    obtain ⟨l1, l2⟩ := (hL.al b2).2.2 _ b3
    have e6 : (goW L s (W, a % L.length) u).1 6 = W 6 := b2.1 6 (by omega)
    have e3 : wso (goW L s (W, a % L.length) u).1 s 3 = wso W s 3 := b2.so (by omega) (by omega)
    have gx : RG x.2 c L := g.fp (F _ (by omega)).1
    show Ok (Ca_laySort_l6 c (nI s) (nI L.length) (nI x.1) (nI u) x.2) _
    have b51 : ∀ v, v = (goW L s (W, a % L.length) u).2 → Ok (Ca_laySort_b51 c (nI s) (nI L.length) (nI v) (nI u) x.2) (fun r => ∃ x' : Nat × Mem, r = Sum.inl (nI x'.1, nI (u + 1), x'.2) ∧ x'.1 ≤ L.length ∧ x'.1 % L.length = (goW L s (W, a % L.length) (u + 1)).2 ∧ CR x'.2 c (goW L s (W, a % L.length) (u + 1)).1 ∧ Fp (c + 28) (c + 36) m x'.2) := by
      intro v hv
      have hr : rI x.2 (c + 40) v = nI (L.getD v 0) := gx v (by omega)
      rw [← hv] at l1 l2
      unfold Ca_laySort_b51 Ca_laySort_b92
      refine Ok_gd (in_nI (by omega) (by decide)) ?_
      rw [ix_nI (by omega), hr]
      refine Ok_b (PL_isHeap_n x.2 l1) (Ok_if (by decide) (Ok_if (nI_pos (by omega)) (Ok_if (show ¬ (6 : Int32) ≤ nI s from nI_ge (b := 6) (by omega) (by decide)) (Ok_gd (in_nI (by omega) (by decide)) (Ok_gd (in_nI l1 (by decide)) (Ok_gd (in_nI (by omega) (by decide)) (Ok_gd (in_nI (by omega) (by decide)) (Ok_lt ?_))))))))
      rw [ix_nI (by omega), ix_nI (by omega), show c + 27 + (1 + L.getD v 0) = c + 28 + L.getD v 0 by omega, show rI x.2 (c + 28 + L.getD v 0) s = nI (whe (goW L s (W, a % L.length) u).1 (L.getD v 0) (3 + s)) from x3.un l1 (by omega), nI_1, nI_1, nI_1]
      refine Ok_s ⟨(v + 1, wI x.2 (c + 28 + L.getD v 0) s (nI (whe (goW L s (W, a % L.length) u).1 (L.getD v 0) (3 + s) + 1))), rfl, by show v + 1 ≤ _; omega, ?_, ?_, F.trans (Fp.wI (by omega) (by omega) _ _)⟩
      · show (v + 1) % L.length = ((goW L s (W, a % L.length) u).2 + 1) % L.length
        rw [hv]
      · show CR _ c (incW (goW L s (W, a % L.length) u).1 (L.getD (goW L s (W, a % L.length) u).2 0) s)
        rw [← hv]
        exact x3.put b1 _ l1 (by omega)
    unfold Ca_laySort_l6 Ca_laySort_b48
    refine Ok_b (tS3 x3 b1 (by omega)) ?_
    rw [show wso (goW L s (W, a % L.length) u).1 s 3 = wso W s 3 from e3]
    refine Ok_if (nI_ge hu2 (by omega)) (Ok_if (nI_nle l0 (by omega)) (Ok_if (nI_pos (by omega)) ?_))
    by_cases q : x.1 = L.length
    · refine Ok_it (nI_le (by omega) (by omega)) (b51 0 ?_)
      rw [← x2, q, Nat.mod_self]
    · refine Ok_if (nI_ge (by omega) (by omega)) (Ok_it (show nI x.1 < nI 8 from nI_lt (by omega) (by decide)) (b51 x.1 ?_))
      rw [← x2, Nat.mod_eq_of_lt (by omega)]
  · obtain ⟨b1, b2, b3, b4, b5⟩ := goW_ok I hL hs hp (wso W s 3) (by omega)
    have e6 : (goW L s (W, a % L.length) (wso W s 3)).1 6 = W 6 := b2.1 6 (by omega)
    have e3 : wso (goW L s (W, a % L.length) (wso W s 3)).1 s 3 = wso W s 3 := b2.so (by omega) (by omega)
    show Ok (Ca_laySort_l6 c (nI s) (nI L.length) (nI x.1) (nI (wso W s 3)) x.2) _
    unfold Ca_laySort_l6
    refine Ok_b (tS3 x3 b1 (by omega)) ?_
    rw [show wso (goW L s (W, a % L.length) (wso W s 3)).1 s 3 = wso W s 3 from e3, if_pos (nI_le (Nat.le_refl _) (by omega)), up_some]
    exact Ok_s ⟨_, rfl, x.1, x1, rfl, x2, x3, F⟩
theorem Mo_goesRound_e (hW : MW m W) (I : Inv W) {T : Nat} (hT : T < 256) (h0 : T ≠ 0) (hL : RgO W (rgS T)) {s p : Nat} (hs : s < W 6) (hp : p < (rgS T).length) (hu : unN W s = 0) :
    Ok (Mo_goesRound 298 (nI s) (nI T) (nI ((rgS T).getD p 0)) m) (fun r => r.1 = nI ((rgS T).getD (goW (rgS T) s (W, p) (wso W s 3)).2 0) ∧ MW r.2 (goW (rgS T) s (W, p) (wso W s 3)).1 ∧ Fp 299 300 m r.2) := by
  have d := I.d
  obtain ⟨-, -, -, -, -, s20, -⟩ := I.S hs
  have l8 := hL.2.1
  unfold Mo_goesRound
  refine Ok_loop (wso W s 3) (fun u x => (nI ((rgS T).getD (goW (rgS T) s (W, p) u).2 0), nI u, x)) (fun u x => MW x (goW (rgS T) s (W, p) u).1 ∧ Fp 299 300 m x) m rfl ⟨hW, Fp.refl⟩ (fun u x hu2 ⟨x1, F⟩ => ?_) (fun x ⟨x1, F⟩ => ?_)
  · obtain ⟨b1, b2, b3, b4, b5⟩ := goW_ok I hL hs hp u (by omega)
    obtain ⟨l1, l2⟩ := (hL.al b2).2.2 _ b3
    have e3 : wso (goW (rgS T) s (W, p) u).1 s 3 = wso W s 3 := b2.so (by omega) (by omega)
    show Ok (Mo_goesRound_l6 298 (nI s) (nI T) (nI ((rgS T).getD (goW (rgS T) s (W, p) u).2 0)) (nI u) x) _
    unfold Mo_goesRound_l6
    refine Ok_b (qS3 x1 (by omega)) ?_
    rw [show wso (goW (rgS T) s (W, p) u).1 s 3 = wso W s 3 from e3]
    refine Ok_if (nI_ge hu2 (by omega)) (Ok_b (qU x1 l1 (by omega)) ?_)
    rw [nI_1, show (3 + nI s : Int32) = nI (3 + s) from nI_add 3 s]
    refine Ok_b (Mo_setHeap_e _ l1 (by omega) _) (Ok_b (Mo_round_e _ hT h0 l1) (Ok_s ⟨_, ?_, x1.w _ _, F.trans (Fp.wI (by omega) (by omega) _ _)⟩))
    rw [rg_nxt T hT h0 _ (by omega) b3, nI_1]
    rfl
  · obtain ⟨b1, b2, b3, b4, b5⟩ := goW_ok I hL hs hp (wso W s 3) (by omega)
    have e3 : wso (goW (rgS T) s (W, p) (wso W s 3)).1 s 3 = wso W s 3 := b2.so (by omega) (by omega)
    show Ok (Mo_goesRound_l6 298 (nI s) (nI T) (nI ((rgS T).getD (goW (rgS T) s (W, p) (wso W s 3)).2 0)) (nI (wso W s 3)) x) _
    unfold Mo_goesRound_l6
    refine Ok_b (qS3 x1 (by omega)) ?_
    rw [show wso (goW (rgS T) s (W, p) (wso W s 3)).1 s 3 = wso W s 3 from e3, if_pos (nI_le (Nat.le_refl _) (by omega)), up_some]
    exact Ok_s ⟨_, rfl, rfl, x1, F⟩
/-- sort by sort, those that f takes; from the first heap on again, if r -/
def lyG (L : List Nat) (f : Nat → Bool) (r : Bool) (W0 : Wd) : Nat → Wd × Nat
  | 0 => (W0, 0)
  | s + 1 => if f s = true then goW L s ((lyG L f r W0 s).1, if r = true then 0 else (lyG L f r W0 s).2) (wso W0 s 3) else lyG L f r W0 s
theorem lyG_ok (I : Inv W) {L : List Nat} (hL : RgO W L) {f : Nat → Bool} {r : Bool} (hu : ∀ s, s < W 6 → f s = true → unN W s = 0) : ∀ n, n ≤ W 6 → Inv (lyG L f r W n).1 ∧ AlU W (lyG L f r W n).1 ∧ (lyG L f r W n).2 < L.length ∧ ∀ s h, (n ≤ s ∨ f s = false) → s < 6 → h < 8 → whe (lyG L f r W n).1 h (3 + s) = whe W h (3 + s)
  | 0, _ => ⟨I, AlU.refl, hL.1, fun _ _ _ _ _ => rfl⟩
  | n + 1, hn => by
    have d := I.d
    obtain ⟨a, b, e, g⟩ := lyG_ok I hL hu n (by omega)
    show Inv (if f n = true then _ else _ : Wd × Nat).1 ∧ _
    by_cases q : f n = true
    · have hst : lyG L f r W (n + 1) = goW L n ((lyG L f r W n).1, if r = true then 0 else (lyG L f r W n).2) (wso W n 3) := if_pos q
      have e6 : (lyG L f r W n).1 6 = W 6 := b.1 6 (by omega)
      have e3 : wso (lyG L f r W n).1 n 3 = wso W n 3 := b.so (by omega) (by omega)
      have u0 : unN (lyG L f r W n).1 n = 0 := by
        rw [← hu n (by omega) q]
        exact sN_cong (fun h hh => g n h (Or.inl (Nat.le_refl _)) (by omega) hh)
      have hp : (if r = true then 0 else (lyG L f r W n).2) < L.length := by
        split
        · exact hL.1
        · exact e
      obtain ⟨a1, a2, a3, a4, a5⟩ := goW_ok a (hL.al b) (s := n) (p := if r = true then 0 else (lyG L f r W n).2) (by omega) hp (wso W n 3) (by omega)
      rw [hst]
      refine ⟨by rw [if_pos q]; exact a1, b.trans a2, a3, fun s h h1 h2 h3 => ?_⟩
      have hne : s ≠ n := by
        rcases h1 with z | z
        · omega
        · intro w
          rw [w, q] at z
          cases z
      rw [a5 s h hne h2 h3]
      refine g s h ?_ h2 h3
      rcases h1 with z | z
      · exact Or.inl (by omega)
      · exact Or.inr z
    · have hst : lyG L f r W (n + 1) = lyG L f r W n := if_neg q
      rw [hst]
      refine ⟨by rw [if_neg q]; exact a, b, e, fun s h h1 h2 h3 => ?_⟩
      by_cases z : s = n
      · refine g s h (Or.inr ?_) h2 h3
        rw [z]; simpa using q
      · refine g s h ?_ h2 h3
        rcases h1 with y | y
        · exact Or.inl (by omega)
        · exact Or.inr y
/-- all units taken up -/
def tkW (W : Wd) : Wd := fun j => if 116 ≤ j ∧ j < 188 ∧ 3 ≤ (j - 116) % 9 then 0 else W j
theorem tk_u (W : Wd) {h s : Nat} (hh : h < 8) (hs : s < 6) : whe (tkW W) h (3 + s) = 0 := if_pos ⟨by omega, by omega, by omega⟩
theorem tk_al (W : Wd) : AlU W (tkW W) := ⟨fun i q => if_neg (by omega), fun h k hh hk => if_neg (by omega)⟩
theorem tk_un (W : Wd) {s : Nat} (hs : s < 6) : unN (tkW W) s = 0 := sN_0 (fun h hh => tk_u W hh hs)
theorem Inv.tk (I : Inv W) : Inv (tkW W) := by
  have d := I.d
  refine I.hs (fun i hi => (tk_al W).1 i hi) (fun s hs => ?_) (fun h hh => ?_)
  · rw [show sN (fun h => whe (tkW W) h (3 + s)) 8 = 0 from tk_un W (by omega)]
    omega
  · obtain ⟨a, b, e, f⟩ := I.H hh
    have E := fun k hk => (tk_al W).2 h k hh hk
    unfold IvH
    rw [E 0 (by omega), E 1 (by omega), E 2 (by omega), (tk_al W).1 1 (by omega), (tk_al W).1 2 (by omega), (tk_al W).1 6 (by omega)]
    exact ⟨a, b, fun q => ⟨(e q).1, (e q).2.1, fun s hs => tk_u W hh hs⟩, fun s _ hs => tk_u W hh hs⟩
theorem Ca_takeUpAll_e (R : CR m c W) (I : Inv W) : Ok (Ca_takeUpAll c m) (fun x => CR x c (tkW W) ∧ Fp (c + 28) (c + 36) m x) := by
  unfold Ca_takeUpAll
  refine Ok_for 8 (fun i x => (∀ h s, h < i → s < 6 → x.1 (c + 28 + h) s = 0) ∧ Fp (c + 28) (c + 36) m x) ⟨fun h s hh => by omega, Fp.refl⟩ (fun i x hi ⟨a, F⟩ => ?_) (fun x ⟨a, F⟩ => ?_)
  · show Ok (Ca_takeUpAll_l2 c (nI i) x) _
    unfold Ca_takeUpAll_l2
    refine Ok_if (show ¬ (8 : Int32) ≤ nI i from nI_ge (b := 8) hi (by decide)) ?_
    refine Ok_for 6 (fun j y => (∀ h s, h < i → s < 6 → y.1 (c + 28 + h) s = 0) ∧ (∀ s, s < j → y.1 (c + 28 + i) s = 0) ∧ Fp (c + 28) (c + 36) m y) ⟨a, fun s hs => by omega, F⟩ (fun j y hj ⟨p, q, G⟩ => ?_) (fun y ⟨p, q, G⟩ => ?_)
    · show Ok (Ca_takeUpAll_l10 c (nI i) (nI j) y) _
      unfold Ca_takeUpAll_l10
      refine Ok_if (show ¬ (6 : Int32) ≤ nI j from nI_ge (b := 6) hj (by decide)) (Ok_gd (in_nI hi (by decide)) (Ok_gd (in_nI hj (by decide)) (Ok_lt ?_)))
      rw [ix_nI (by omega), ix_nI (by omega), show c + 27 + (1 + i) = c + 28 + i by omega]
      refine Ok_s ⟨_, by rw [nI_1], fun h s hh hs => ?_, fun s hs => ?_, G.trans (Fp.wI (by omega) (by omega) _ _)⟩
      · rw [wI_o _ (by omega)]; exact p h s hh hs
      · rw [wI_at]
        by_cases e : s = j
        · rw [if_pos e]
        · rw [if_neg e]; exact q s (by omega)
    · show Ok (Ca_takeUpAll_l10 c (nI i) (nI 6) y) _
      unfold Ca_takeUpAll_l10
      refine Ok_it (show (6 : Int32) ≤ nI 6 by decide) ?_
      rw [up_some]
      refine Ok_s ⟨_, rfl, y, by rw [nI_1], fun h s hh hs => ?_, G⟩
      by_cases e : h = i
      · rw [e]; exact q s hs
      · exact p h s (by omega) hs
  · show Ok (Ca_takeUpAll_l2 c (nI 8) x) _
    unfold Ca_takeUpAll_l2
    refine Ok_it (show (8 : Int32) ≤ nI 8 by decide) ?_
    rw [up_some]
    refine Ok_s ⟨_, rfl, R.hs I (fun i hi => (tk_al W).1 i hi) (fun b h1 h2 h3 => (F b (by omega)).1) (fun h hh => ?_) (fun h s hh hs => ?_), F⟩
    · have E := fun k hk => (tk_al W).2 h k hh hk
      rw [F.a (by omega), F.a (by omega), hxI_eq (E 0 (by omega)) (E 1 (by omega)), E 2 (by omega), R.hx hh, R.hy hh]
      exact ⟨rfl, rfl⟩
    · rw [a h s hh hs, tk_u W hh hs]; rfl
theorem Mo_takeUp_e (hW : MW m W) : Ok (Mo_takeUp 298 m) (fun x => MW x (tkW W) ∧ Fp 299 300 m x) := by
  unfold Mo_takeUp
  refine Ok_for 8 (fun i x => (∀ j, j < 200 → x.1 299 j = if 116 ≤ j ∧ j < 116 + 9 * i ∧ 3 ≤ (j - 116) % 9 then 0 else m.1 299 j) ∧ Fp 299 300 m x) ⟨fun j hj => by rw [if_neg (by omega)], Fp.refl⟩ (fun i x hi ⟨a, F⟩ => ?_) (fun x ⟨a, F⟩ => ?_)
  · show Ok (Mo_takeUp_l2 298 (nI i) x) _
    unfold Mo_takeUp_l2
    refine Ok_if (show ¬ (8 : Int32) ≤ nI i from nI_ge (b := 8) hi (by decide)) ?_
    refine Ok_for 6 (fun k y => (∀ j, j < 200 → y.1 299 j = if (116 ≤ j ∧ j < 116 + 9 * i ∧ 3 ≤ (j - 116) % 9) ∨ (116 + 9 * i + 3 ≤ j ∧ j < 116 + 9 * i + 3 + k) then 0 else m.1 299 j) ∧ Fp 299 300 m y) ⟨fun j hj => ?_, F⟩ (fun k y hk ⟨p, G⟩ => ?_) (fun y ⟨p, G⟩ => ?_)
    · rw [a j hj]
      by_cases q : 116 ≤ j ∧ j < 116 + 9 * i ∧ 3 ≤ (j - 116) % 9
      · rw [if_pos q, if_pos (Or.inl q)]
      · rw [if_neg q, if_neg (fun z => z.elim q (fun w => by omega))]
    · show Ok (Mo_takeUp_l10 298 (nI i) (nI k) y) _
      unfold Mo_takeUp_l10
      refine Ok_if (show ¬ (6 : Int32) ≤ nI k from nI_ge (b := 6) hk (by decide)) ?_
      rw [show (3 + nI k : Int32) = nI (3 + k) from nI_add 3 k]
      refine Ok_b (Mo_setHeap_e _ hi (by omega) _) (Ok_s ⟨_, by rw [nI_1], fun j hj => ?_, G.trans (Fp.wI (by omega) (by omega) _ _)⟩)
      rw [wI_at]
      by_cases e : j = 116 + 9 * i + (3 + k)
      · rw [if_pos e, if_pos (Or.inr (by omega))]
      · rw [if_neg e, p j hj]
        by_cases q : (116 ≤ j ∧ j < 116 + 9 * i ∧ 3 ≤ (j - 116) % 9) ∨ (116 + 9 * i + 3 ≤ j ∧ j < 116 + 9 * i + 3 + k)
        · rw [if_pos q, if_pos (by omega)]
        · rw [if_neg q, if_neg (by omega)]
    · show Ok (Mo_takeUp_l10 298 (nI i) (nI 6) y) _
      unfold Mo_takeUp_l10
      refine Ok_it (show (6 : Int32) ≤ nI 6 by decide) ?_
      rw [up_some]
      refine Ok_s ⟨_, rfl, y, by rw [nI_1], fun j hj => ?_, G⟩
      rw [p j hj]
      by_cases q : (116 ≤ j ∧ j < 116 + 9 * i ∧ 3 ≤ (j - 116) % 9) ∨ (116 + 9 * i + 3 ≤ j ∧ j < 116 + 9 * i + 3 + 6)
      · rw [if_pos q, if_pos (by omega)]
      · rw [if_neg q, if_neg (by omega)]
  · show Ok (Mo_takeUp_l2 298 (nI 8) x) _
    unfold Mo_takeUp_l2
    refine Ok_it (show (8 : Int32) ≤ nI 8 by decide) ?_
    rw [up_some]
    refine Ok_s ⟨_, rfl, fun j hj => ?_, F⟩
    rw [a j hj]
    unfold tkW
    by_cases q : 116 ≤ j ∧ j < 188 ∧ 3 ≤ (j - 116) % 9
    · rw [if_pos q, if_pos (by omega)]; rfl
    · rw [if_neg q, if_neg (by omega), hW j hj]
end LAY

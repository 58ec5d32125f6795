/-! length() and charAt(int) of the pool's strings, over the JDK's own code -/
abbrev Y_S_coder : MI := (yJ0_coder_7d493, cJ0_coder_7d493, 1, (some .byte), RJ0, 0, 0)
abbrev Y_S_isLatin1 : MI := (yJ0_isLatin1_aae02, cJ0_isLatin1_aae02, 1, (some .boolean), RJ0, 0, 0)
abbrev Y_S_check : MI := (yJ0_checkIndex_df160, cJ0_checkIndex_df160, 2, none, RJ0, 1, 22)
abbrev Y_S_pcheck : MI := (yJ3_checkIndex_8e157, cJ3_checkIndex_8e157, 3, (some .int), RJ3, 0, 0)
abbrev Y_S_lchar : MI := (yJ1_charAt_3b067, cJ1_charAt_3b067, 2, (some .char), RJ1, 2, 43)
theorem iv_S_335 : IV RJ0 335 Y_S_coder 0 := ⟨(awi3 23 (by decide +kernel) rfl), (awi3 20 (by decide +kernel) rfl), (awi3 21 (by decide +kernel) rfl), (awi3 22 (by decide +kernel) rfl), (awi1 14 (by decide +kernel) rfl), by decide +kernel, by decide +kernel, by decide +kernel⟩
theorem iv_S_492 : IV RJ0 492 Y_S_isLatin1 0 := ⟨(awi3 33 (by decide +kernel) rfl), (awi3 30 (by decide +kernel) rfl), (awi3 31 (by decide +kernel) rfl), (awi3 32 (by decide +kernel) rfl), (awi1 14 (by decide +kernel) rfl), by decide +kernel, by decide +kernel, by decide +kernel⟩
theorem is_S_495 : IS RJ0 495 Y_S_lchar 2 := ⟨(awi3 36 (by decide +kernel) rfl), (awi3 34 (by decide +kernel) rfl), (awi3 35 (by decide +kernel) rfl), (awi1 15 (by decide +kernel) rfl), by decide +kernel, by decide +kernel, by decide +kernel⟩
theorem is_S_9 : IS RJ1 9 Y_S_check 2 := ⟨(awi3 39 (by decide +kernel) rfl), (awi3 37 (by decide +kernel) rfl), (awi3 38 (by decide +kernel) rfl), (awi1 14 (by decide +kernel) rfl), by decide +kernel, by decide +kernel, by decide +kernel⟩
theorem is_S_1059 : IS RJ0 1059 Y_S_pcheck 3 := ⟨(awi3 44 (by decide +kernel) rfl), (awi3 42 (by decide +kernel) rfl), (awi3 43 (by decide +kernel) rfl), (awi1 16 (by decide +kernel) rfl), by decide +kernel, by decide +kernel, by decide +kernel⟩
theorem fs_9 : Cond.fieldLink RJ0 9 "java/lang/String" "value" "[B" ∈ AW := (awi9 130 (by decide +kernel) rfl)
theorem fs_15 : Cond.fieldLink RJ0 15 "java/lang/String" "coder" "B" ∈ AW := (awi9 131 (by decide +kernel) rfl)
theorem fs_38 : Cond.fieldLink RJ0 38 "java/lang/String" "COMPACT_STRINGS" "Z" ∈ AW := (awi3 24 (by decide +kernel) rfl)
theorem fs_1053 : Cond.fieldLink RJ0 1053 "jdk/internal/util/Preconditions" "SIOOBE_FORMATTER" "Ljava/util/function/BiFunction;" ∈ AW := (awi3 40 (by decide +kernel) rfl)
theorem sCh_255 (w i : Nat) : sCh w i &&& 255 = sCh w i := by
  have h : bytS.all (fun l => l.all (fun b => decide (b &&& 255 = b))) = true := by decide +kernel
  unfold sCh
  rcases Nat.lt_or_ge (w - 1000) bytS.length with q | q
  · rw [List.getD_eq_getElem?_getD (l := bytS), List.getElem?_eq_getElem q]
    have h2 := List.all_eq_true.mp h _ (List.getElem_mem q)
    rcases Nat.lt_or_ge i (bytS[w - 1000]).length with r | r
    · rw [Option.getD_some, List.getD_eq_getElem?_getD, List.getElem?_eq_getElem r]
      simpa using List.all_eq_true.mp h2 _ (List.getElem_mem r)
    · rw [Option.getD_some, List.getD_eq_getElem?_getD, List.getElem?_eq_none r]
      decide
  · rw [List.getD_eq_getElem?_getD (l := bytS), List.getElem?_eq_none q]
    simp
section STRR
variable {g : GE} {Y : MI} {pc : Nat} {ls : List (Option AV)} {st : List AV} {m : Mem} {Z : Post}
theorem V_sval {w idx : Nat} (hd : decode (yC Y) pc = .ok (.getfield idx, 3)) (hl : Cond.fieldLink (yO Y) idx "java/lang/String" "value" "[B" ∈ AW) (hs : isS w) (h : V g Y (pc + 3) ls (vr (w + 1000) :: st) m Z) : V g Y pc ls (vr w :: st) m Z := by
  intro p e s mid args below meth c H locs la hG hF hE hP hS hL
  have h3 := h p e s mid args below meth c H locs la hG hF hE hP hS hL
  have hw : w ≠ 0 := by have := hs.1; omega
  rw [List.map_cons, tr_r g (by omega)] at h3
  rw [List.map_cons, tr_r g hw]
  obtain ⟨-, -, hv, -⟩ := hE.2.2.2.1.1.1 (w - 1000) (by have := hs.2; have := hs.1; omega)
  have e1 : 1000 + (w - 1000) = w := by have := hs.1; omega
  have e2 : 2000 + (w - 1000) = w + 1000 := by have := hs.1; omega
  simp only [e1, e2] at hv
  exact vk_getf hF.1 hF.2.1 hv hS hF.2.2.2.2.1 (hF.AW hl) (fun _ q => q) hd h3
theorem V_scod {w idx : Nat} (hd : decode (yC Y) pc = .ok (.getfield idx, 3)) (hl : Cond.fieldLink (yO Y) idx "java/lang/String" "coder" "B" ∈ AW) (hs : isS w) (h : V g Y (pc + 3) ls (vi 0 :: st) m Z) : V g Y pc ls (vr w :: st) m Z := by
  intro p e s mid args below meth c H locs la hG hF hE hP hS hL
  have h3 := h p e s mid args below meth c H locs la hG hF hE hP hS hL
  have hw : w ≠ 0 := by have := hs.1; omega
  rw [List.map_cons, tr_r g hw]
  obtain ⟨-, hv, -, -⟩ := hE.2.2.2.1.1.1 (w - 1000) (by have := hs.2; have := hs.1; omega)
  have e1 : 1000 + (w - 1000) = w := by have := hs.1; omega
  simp only [e1] at hv
  exact vk_getf hF.1 hF.2.1 hv hS hF.2.2.2.2.1 (hF.AW hl) (fun _ q => q) hd h3
theorem sT {s : State} {H : Heap} (hE : SE g s H) {w : Nat} (hs : isS w) : va_T .byte (g.2.2.2.1 (w + 1000)) (sLen w) (fun j => .int (sCh w j)) (AA g) s H := by
  obtain ⟨-, -, -, hv⟩ := hE.2.2.2.1.1.1 (w - 1000) (by have := hs.2; have := hs.1; omega)
  have e2 : 2000 + (w - 1000) = w + 1000 := by have := hs.1; omega
  simp only [e2] at hv
  exact hv
theorem V_slenB {w : Nat} (hd : decode (yC Y) pc = .ok (.arraylength, 1)) (hs : isS w) (h : V g Y (pc + 1) ls (vi (nI (sLen w)) :: st) m Z) : V g Y pc ls (vr (w + 1000) :: st) m Z := by
  intro p e s mid args below meth c H locs la hG hF hE hP hS hL
  have h3 := h p e s mid args below meth c H locs la hG hF hE hP hS hL
  rw [List.map_cons, tr_r g (by omega)]
  exact va_tlen hF.1 hF.2.1 (sT hE hs) hS rfl hd h3
theorem V_sbald {w : Nat} {i : Int32} (hd : decode (yC Y) pc = .ok (.baload, 1)) (hs : isS w) (hin : inb i (sLen w)) (h : V g Y (pc + 1) ls (vi (sCh w (ix i)) :: st) m Z) : V g Y pc ls (vi i :: vr (w + 1000) :: st) m Z := by
  intro p e s mid args below meth c H locs la hG hF hE hP hS hL
  have h3 := h p e s mid args below meth c H locs la hG hF hE hP hS hL
  rw [List.map_cons, List.map_cons, tr_r g (by omega)]
  exact va_tb hF.1 hF.2.1 (sT hE hs) hS hin rfl hd h3
theorem V_compact {idx : Nat} (hd : decode (yC Y) pc = .ok (.getstatic idx, 3)) (hl : Cond.fieldLink (yO Y) idx "java/lang/String" "COMPACT_STRINGS" "Z" ∈ AW) (h : V g Y (pc + 3) ls (vi 1 :: st) m Z) : V g Y pc ls st m Z := by
  intro p e s mid args below meth c H locs la hG hF hE hP hS hL
  have h3 := h p e s mid args below meth c H locs la hG hF hE hP hS hL
  exact va_gets hF.1 hF.2.1 hE.2.2.2.1.2.1 hS hF.2.2.2.2.1 (hF.AW hl) (fun _ q => q) hd h3
theorem V_fmt {idx : Nat} (hd : decode (yC Y) pc = .ok (.getstatic idx, 3)) (hl : Cond.fieldLink (yO Y) idx "jdk/internal/util/Preconditions" "SIOOBE_FORMATTER" "Ljava/util/function/BiFunction;" ∈ AW) (h : ∀ k : Nat, V g Y (pc + 3) ls (vr k :: st) m Z) : V g Y pc ls st m Z := by
  intro p e s mid args below meth c H locs la hG hF hE hP hS hL
  obtain ⟨k, hk⟩ := hE.2.2.2.1.2.2
  have h3 := h k p e s mid args below meth c H locs la hG hF hE hP hS hL
  exact va_gets hF.1 hF.2.1 hk hS hF.2.2.2.2.1 (hF.AW hl) (fun _ q => q) hd h3
theorem V_invStr {Q : MI} {as S : List AV} {w n idx : Nat} {v : AV} {m1 : Mem} (hd : decode (yC Y) pc = .ok (.invokevirtual idx, 3)) (hev : Ev g Q (vr w :: as) m (some v) m1) (hw : IV (yO Y) idx Q n) (hR : RM Z Q) (hn : as.length = n)
    (hs : isS w) (hC : (yN Q).cls = "java/lang/String") (hst : catS st ≤ 8) (hss : as.reverse ++ vr w :: st = S) (h : V g Y (pc + 3) ls (v :: st) m1 Z) : V g Y pc ls S m Z := by
  intro p e s mid args below meth cc H locs la hG hF hE hP hS hL
  obtain ⟨w1, w2, w3, w4, w5, w6, w7, w8⟩ := hw
  subst hss
  have hM := hev hG
  have hwz : w ≠ 0 := by have := hs.1; omega
  have hrest : (as.reverse ++ vr w :: st).map (tr g) = (as.map (tr g)).reverse ++ .ref (g.2.2.2.1 w) :: st.map (tr g) := by
    rw [stk_eq, List.map_cons, tr_r g hwz]
  have hgood : GoodIn AW (wsV (yO Y) idx (yN Q).cls (yN Q) (wsM Q)) := by
    refine goodIn_app2 (fun w hw => ?_) (goodM w1)
    have hwA : w ∈ AW := by
      simp only [List.mem_cons, List.not_mem_nil, or_false] at hw
      rcases hw with rfl | rfl | rfl | rfl <;> assumption
    exact ⟨hwA, good_of_word (AW_ok hwA).2⟩
  have hmap : (vr w :: as).map (tr g) = .ref (g.2.2.2.1 w) :: as.map (tr g) := by rw [List.map_cons, tr_r g hwz]
  have hrc := vk_recv hE.2.2.2.1.1 (i := w - 1000) (by have := hs.2; have := hs.1; omega) hS
  have e1 : 1000 + (w - 1000) = w := by have := hs.1; omega
  simp only [e1] at hrc
  rw [hrest]
  exact W_call (va_runV (As := as.map (tr g)) (rest := st.map (tr g)) (C := (yN Q).cls) ⟨hF.1, hF.2.1, hF.2.2.2.1, hF.2.2.2.2.1, hF.2.2.2.2.2.1⟩ hM (cwV n hF.2.2.2.2.2.1 hgood rfl rfl rfl ⟨rfl, w6, w7, w8⟩ hR.1) ⟨blindM g m _, by rw [hC]; exact hrc, fun U hU hW => ⟨by rw [hmap], hE.warm hW (by rw [hU]; exact hS), by rw [hU]; exact hP⟩⟩ rfl (by rw [List.length_map]; exact hn) hL.1 rfl (lv_room (by rw [catS_eq]; exact hst)) hd hR.2) hS (fun H1 locs1 hP1 hS1 => h p e s mid args below meth cc H1 locs1 la hG hF hE hP1 hS1 hL)
end STRR
section STRM
variable {g : GE} {m : Mem}
theorem rm_S (R : Nat × Nat) {Y Q : MI} (r : Option AV) (m' : Mem) (h1 : yF Q + 1 ≤ yF Y) (h2 : 8 + (yL Q + 11) + yQ Q ≤ yQ Y) : RM (PM g Y r m') Q := ⟨⟨h1, h2⟩, Nat.le_refl _, Nat.le_refl _⟩
theorem e_S_coder {w : Nat} (hs : isS w) : Ev g Y_S_coder [vr w] m (some (vi 0)) m := by
  refine Ev_of (ls := [some (vr w)]) 0 (by decide +kernel) rfl (Nat.le_of_ble_eq_true rfl) rfl ?_
  refine V_compact (pc := 0) dJ0_coder_7d493_0 fs_38 ?_
  refine V_if_eq (pc := 3) (tgt := 13) dJ0_coder_7d493_3 rfl (fun q => absurd q (by decide)) (fun _ => ?_)
  refine V_aload_n (i := 0) (pc := 6) dJ0_coder_7d493_6 rfl rfl ?_
  refine V_scod (pc := 7) dJ0_coder_7d493_7 fs_15 hs ?_
  refine V_goto (pc := 10) (tgt := 14) dJ0_coder_7d493_10 rfl ?_
  exact E_z (pc := 14) dJ0_coder_7d493_14 rfl rfl ⟨rfl, rfl⟩
theorem e_S_isLatin1 {w : Nat} (hs : isS w) : Ev g Y_S_isLatin1 [vr w] m (some (vi 1)) m := by
  refine Ev_of (ls := [some (vr w)]) 0 (by decide +kernel) rfl (Nat.le_of_ble_eq_true rfl) rfl ?_
  refine V_compact (pc := 0) dJ0_isLatin1_aae02_0 fs_38 ?_
  refine V_if_eq (pc := 3) (tgt := 17) dJ0_isLatin1_aae02_3 rfl (fun q => absurd q (by decide)) (fun _ => ?_)
  refine V_aload_n (i := 0) (pc := 6) dJ0_isLatin1_aae02_6 rfl rfl ?_
  refine V_scod (pc := 7) dJ0_isLatin1_aae02_7 fs_15 hs ?_
  refine V_if_ne (pc := 10) (tgt := 17) dJ0_isLatin1_aae02_10 rfl (fun q => absurd rfl q) (fun _ => ?_)
  refine V_iconst (v := 1) (pc := 13) dJ0_isLatin1_aae02_13 rfl ?_
  refine V_goto (pc := 14) (tgt := 18) dJ0_isLatin1_aae02_14 rfl ?_
  exact E_z (pc := 18) dJ0_isLatin1_aae02_18 rfl rfl ⟨rfl, rfl⟩
theorem shr_0 (n : Nat) (h : n < 2 ^ 31) : nI n >>> ((0 : Int32) &&& 31) = nI n := sc_shr0 h
theorem sLen_lt {w : Nat} : sLen w < 2 ^ 31 := by
  have h : lenS.all (fun n => decide (n < 100)) = true := by decide +kernel
  unfold sLen
  rcases Nat.lt_or_ge (w - 1000) lenS.length with q | q
  · rw [List.getD_eq_getElem?_getD, List.getElem?_eq_getElem q]
    have h2 := List.all_eq_true.mp h _ (List.getElem_mem q)
    simp at h2
    simp
    omega
  · rw [List.getD_eq_getElem?_getD, List.getElem?_eq_none q]
    decide
theorem e_S_length {w : Nat} {x : Int32} (hs : isS w) (h : S_length w m = some x) : Ev g Y_S_length [vr w] m (some (vi x)) m := by
  obtain rfl := Option.some.inj h
  refine Ev_of (ls := [some (vr w)]) 0 (by decide +kernel) rfl (Nat.le_of_ble_eq_true rfl) rfl ?_
  refine V_aload_n (i := 0) (pc := 0) dJ0_length_8abf5_0 rfl rfl ?_
  refine V_sval (pc := 1) dJ0_length_8abf5_1 fs_9 hs ?_
  refine V_slenB (pc := 4) dJ0_length_8abf5_4 hs ?_
  refine V_aload_n (i := 0) (pc := 5) dJ0_length_8abf5_5 rfl rfl ?_
  refine V_invStr (pc := 6) dJ0_length_8abf5_6 (e_S_coder hs) iv_S_335 (rm_S (0, 0) _ _ (Nat.le_of_ble_eq_true rfl) (Nat.le_of_ble_eq_true rfl)) rfl hs rfl (Nat.le_of_ble_eq_true rfl) rfl ?_
  refine V_ishr (pc := 9) dJ0_length_8abf5_9 ?_
  exact E_i (pc := 10) dJ0_length_8abf5_10 rfl ⟨by rw [shr_0 _ sLen_lt], rfl⟩
theorem e_S_pcheck {i n : Int32} {k : Nat} (h0 : ¬ i < 0) (h1 : i < n) : Ev g Y_S_pcheck [vi i, vi n, vr k] m (some (vi i)) m := by
  refine Ev_of (ls := [some (vi i), some (vi n), some (vr k)]) 0 (by decide +kernel) rfl (Nat.le_of_ble_eq_true rfl) rfl ?_
  refine V_iload_n (i := 0) (pc := 0) dJ3_checkIndex_8e157_0 rfl rfl ?_
  refine V_if_lt (pc := 1) (tgt := 9) dJ3_checkIndex_8e157_1 rfl (fun q => absurd q h0) (fun _ => ?_)
  refine V_iload_n (i := 0) (pc := 4) dJ3_checkIndex_8e157_4 rfl rfl ?_
  refine V_iload_n (i := 1) (pc := 5) dJ3_checkIndex_8e157_5 rfl rfl ?_
  refine V_icmp_lt (pc := 6) (tgt := 16) dJ3_checkIndex_8e157_6 rfl (fun _ => ?_) (fun q => absurd h1 q)
  refine V_iload_n (i := 0) (pc := 16) dJ3_checkIndex_8e157_16 rfl rfl ?_
  exact E_i (pc := 17) dJ3_checkIndex_8e157_17 rfl ⟨rfl, rfl⟩
theorem e_S_check {i n : Int32} (h0 : ¬ i < 0) (h1 : i < n) : Ev g Y_S_check [vi i, vi n] m none m := by
  refine Ev_of (ls := [some (vi i), some (vi n)]) 0 (by decide +kernel) rfl (Nat.le_of_ble_eq_true rfl) rfl ?_
  refine V_iload_n (i := 0) (pc := 0) dJ0_checkIndex_df160_0 rfl rfl ?_
  refine V_iload_n (i := 1) (pc := 1) dJ0_checkIndex_df160_1 rfl rfl ?_
  refine V_fmt (pc := 2) dJ0_checkIndex_df160_2 fs_1053 (fun k => ?_)
  refine V_invS1 (pc := 5) dJ0_checkIndex_df160_5 (e_S_pcheck (k := k) h0 h1) is_S_1059 (rm_S (0, 0) _ _ (Nat.le_of_ble_eq_true rfl) (Nat.le_of_ble_eq_true rfl)) rfl (Nat.le_of_ble_eq_true rfl) rfl ?_
  refine V_popi (pc := 8) dJ0_checkIndex_df160_8 ?_
  exact E_v (pc := 9) dJ0_checkIndex_df160_9 rfl ⟨rfl, rfl⟩
theorem e_S_lchar {w : Nat} {i : Int32} (hs : isS w) (hin : inb i (sLen w)) : Ev g Y_S_lchar [vr (w + 1000), vi i] m (some (vi (sCh w (ix i)))) m := by
  have h0 : ¬ i < 0 := fun q => hin (Or.inl q)
  have h1 : i < nI (sLen w) := by
    obtain ⟨j, hj, rfl⟩ := vp_in_of hin sLen_lt
    exact nI_lt hj sLen_lt
  refine Ev_of (ls := [some (vr (w + 1000)), some (vi i)]) 0 (by decide +kernel) rfl (Nat.le_of_ble_eq_true rfl) rfl ?_
  refine V_iload_n (i := 1) (pc := 0) dJ1_charAt_3b067_0 rfl rfl ?_
  refine V_aload_n (i := 0) (pc := 1) dJ1_charAt_3b067_1 rfl rfl ?_
  refine V_slenB (pc := 2) dJ1_charAt_3b067_2 hs ?_
  refine V_invS0 (pc := 3) dJ1_charAt_3b067_3 (e_S_check h0 h1) is_S_9 (rm_S (0, 0) _ _ (Nat.le_of_ble_eq_true rfl) (Nat.le_of_ble_eq_true rfl)) rfl (Nat.le_of_ble_eq_true rfl) rfl ?_
  refine V_aload_n (i := 0) (pc := 6) dJ1_charAt_3b067_6 rfl rfl ?_
  refine V_iload_n (i := 1) (pc := 7) dJ1_charAt_3b067_7 rfl rfl ?_
  refine V_sbald (pc := 8) dJ1_charAt_3b067_8 hs hin ?_
  refine V_sipush (v := 255) (pc := 9) dJ1_charAt_3b067_9 rfl ?_
  refine V_iand (pc := 12) dJ1_charAt_3b067_12 ?_
  refine V_i2c (pc := 13) dJ1_charAt_3b067_13 ?_
  have e := sc_c2 (sCh w (ix i))
  rw [sCh_255] at e
  rw [sCh_255, e]
  have hn := sc_nar (sCh w (ix i))
  rw [sCh_255] at hn
  exact E_z (pc := 14) dJ1_charAt_3b067_14 rfl hn ⟨rfl, rfl⟩
theorem e_S_charAt {w : Nat} {i x : Int32} (hs : isS w) (h : S_charAt w i m = some x) : Ev g Y_S_charAt [vr w, vi i] m (some (vi x)) m := by
  obtain ⟨hin, h⟩ := gd_e h
  obtain rfl := Option.some.inj h
  refine Ev_of (ls := [some (vr w), some (vi i)]) 0 (by decide +kernel) rfl (Nat.le_of_ble_eq_true rfl) rfl ?_
  refine V_aload_n (i := 0) (pc := 0) dJ0_charAt_5068e_0 rfl rfl ?_
  refine V_invStr (pc := 1) dJ0_charAt_5068e_1 (e_S_isLatin1 hs) iv_S_492 (rm_S (0, 0) _ _ (Nat.le_of_ble_eq_true rfl) (Nat.le_of_ble_eq_true rfl)) rfl hs rfl (Nat.le_of_ble_eq_true rfl) rfl ?_
  refine V_if_eq (pc := 4) (tgt := 16) dJ0_charAt_5068e_4 rfl (fun q => absurd q (by decide)) (fun _ => ?_)
  refine V_aload_n (i := 0) (pc := 7) dJ0_charAt_5068e_7 rfl rfl ?_
  refine V_sval (pc := 8) dJ0_charAt_5068e_8 fs_9 hs ?_
  refine V_iload_n (i := 1) (pc := 11) dJ0_charAt_5068e_11 rfl rfl ?_
  refine V_invS1 (pc := 12) dJ0_charAt_5068e_12 (e_S_lchar hs hin) is_S_495 (rm_S (0, 0) _ _ (Nat.le_of_ble_eq_true rfl) (Nat.le_of_ble_eq_true rfl)) rfl (Nat.le_of_ble_eq_true rfl) rfl ?_
  have hn := sc_nar (sCh w (ix i))
  rw [sCh_255] at hn
  exact E_z (pc := 15) dJ0_charAt_5068e_15 rfl hn ⟨rfl, rfl⟩
end STRM
/-- the switches' ways out -/
theorem lk_out_2 {x : Int32} (h0 : ¬ x = 0) (h1 : ¬ x = 1) : Op.lookupswitch.offset [(0, 27), (1, 35)] 43 x.toInt = 43 := by
  have a : x.toInt ≠ 0 := fun q => h0 (Int32.toInt_inj.mp q)
  have b : x.toInt ≠ 1 := fun q => h1 (Int32.toInt_inj.mp q)
  simp [Op.lookupswitch.offset, a, b, Ne.symm a, Ne.symm b]
theorem ts_out_0_2 {x : Int32} (h0 : ¬ x = 0) (h1 : ¬ x = 1) (h2 : ¬ x = 2) : x.toInt < 0 ∨ 2 < x.toInt := by
  have a0 : x.toInt ≠ 0 := fun q => h0 (Int32.toInt_inj.mp q)
  have a1 : x.toInt ≠ 1 := fun q => h1 (Int32.toInt_inj.mp q)
  have a2 : x.toInt ≠ 2 := fun q => h2 (Int32.toInt_inj.mp q)
  omega
theorem ts_out_0_13 {x : Int32} (h0 : ¬ x = 0) (h1 : ¬ x = 1) (h2 : ¬ x = 2) (h3 : ¬ x = 3) (h4 : ¬ x = 4) (h5 : ¬ x = 5) (h6 : ¬ x = 6) (h7 : ¬ x = 7) (h8 : ¬ x = 8) (h9 : ¬ x = 9) (h10 : ¬ x = 10) (h11 : ¬ x = 11) (h12 : ¬ x = 12) (h13 : ¬ x = 13) : x.toInt < 0 ∨ 13 < x.toInt := by
  have a0 : x.toInt ≠ 0 := fun q => h0 (Int32.toInt_inj.mp q)
  have a1 : x.toInt ≠ 1 := fun q => h1 (Int32.toInt_inj.mp q)
  have a2 : x.toInt ≠ 2 := fun q => h2 (Int32.toInt_inj.mp q)
  have a3 : x.toInt ≠ 3 := fun q => h3 (Int32.toInt_inj.mp q)
  have a4 : x.toInt ≠ 4 := fun q => h4 (Int32.toInt_inj.mp q)
  have a5 : x.toInt ≠ 5 := fun q => h5 (Int32.toInt_inj.mp q)
  have a6 : x.toInt ≠ 6 := fun q => h6 (Int32.toInt_inj.mp q)
  have a7 : x.toInt ≠ 7 := fun q => h7 (Int32.toInt_inj.mp q)
  have a8 : x.toInt ≠ 8 := fun q => h8 (Int32.toInt_inj.mp q)
  have a9 : x.toInt ≠ 9 := fun q => h9 (Int32.toInt_inj.mp q)
  have a10 : x.toInt ≠ 10 := fun q => h10 (Int32.toInt_inj.mp q)
  have a11 : x.toInt ≠ 11 := fun q => h11 (Int32.toInt_inj.mp q)
  have a12 : x.toInt ≠ 12 := fun q => h12 (Int32.toInt_inj.mp q)
  have a13 : x.toInt ≠ 13 := fun q => h13 (Int32.toInt_inj.mp q)
  omega

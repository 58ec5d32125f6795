/-! rows with what they leave behind named; calls with and without an answer; strings -/
section LTS
variable {g : GE} {Y : MI} {pc : Nat} {ls : List (Option AV)} {st : List AV} {m : Mem} {Z : Post} {X : Type} {y : X}
theorem V_putI_lt {a c j idx : Nat} {ty : FieldType} {x : Int32} {f : Mem → Option X} (hd : decode (yC Y) pc = .ok (.putfield idx, 3)) (hf : FP (yO Y) idx c j ty) (hk : kd a = c + 1) (ht : (ftL.getD c []).getD j 0 = 0) (hnar : narrow ty (.int x) = .int x) (hfit : fits ty (.int x) = true) (h : lt (wI m a j x) f = some y) (kk : ∀ m1, f m1 = some y → V g Y (pc + 3) ls st m1 Z) : V g Y pc ls (vi x :: vr a :: st) m Z :=
  V_putI hd hf hk ht hnar hfit (kk _ h)
theorem V_putL_lt {a c j idx : Nat} {x : Int64} {f : Mem → Option X} (hd : decode (yC Y) pc = .ok (.putfield idx, 3)) (hf : FP (yO Y) idx c j .long) (hk : kd a = c + 1) (ht : (ftL.getD c []).getD j 0 = 1) (h : lt (wL m a j x) f = some y) (kk : ∀ m1, f m1 = some y → V g Y (pc + 3) ls st m1 Z) : V g Y pc ls (vl x :: vr a :: st) m Z :=
  V_putL hd hf hk ht (kk _ h)
theorem V_iast_lt {a n : Nat} {i : Int32} {x : Int32} {f : Mem → Option X} (hd : decode (yC Y) pc = .ok (.iastore, 1)) (hk : kd a = 20) (hn : al a = n) (hin : inb i n) (h : lt (wI m a (ix i) x) f = some y) (kk : ∀ m1, f m1 = some y → V g Y (pc + 1) ls st m1 Z) : V g Y pc ls (vi x :: vi i :: vr a :: st) m Z :=
  V_iast hd hk hn hin (kk _ h)
theorem V_last_lt {a n : Nat} {i : Int32} {x : Int64} {f : Mem → Option X} (hd : decode (yC Y) pc = .ok (.lastore, 1)) (hk : kd a = 21) (hn : al a = n) (hin : inb i n) (h : lt (wL m a (ix i) x) f = some y) (kk : ∀ m1, f m1 = some y → V g Y (pc + 1) ls st m1 Z) : V g Y pc ls (vl x :: vi i :: vr a :: st) m Z :=
  V_last hd hk hn hin (kk _ h)
theorem V_bast_lt {a n : Nat} {i : Int32} {x : Int32} {f : Mem → Option X} (hd : decode (yC Y) pc = .ok (.bastore, 1)) (hk : kd a = 22) (hn : al a = n) (hin : inb i n) (h : lt (wI m a (ix i) (vp_nar .byte x)) f = some y) (kk : ∀ m1, f m1 = some y → V g Y (pc + 1) ls st m1 Z) : V g Y pc ls (vi x :: vi i :: vr a :: st) m Z :=
  V_bast hd hk hn hin (kk _ h)
theorem V_zast_lt {a n : Nat} {i : Int32} {x : Int32} {f : Mem → Option X} (hd : decode (yC Y) pc = .ok (.bastore, 1)) (hk : kd a = 23) (hn : al a = n) (hin : inb i n) (h : lt (wI m a (ix i) (vp_nar .boolean x)) f = some y) (kk : ∀ m1, f m1 = some y → V g Y (pc + 1) ls st m1 Z) : V g Y pc ls (vi x :: vi i :: vr a :: st) m Z :=
  V_zast hd hk hn hin (kk _ h)
theorem V_copyl_lt {a b idx na nb : Nat} {i j n : Int32} {f : Mem → Option X} (hd : decode (yC Y) pc = .ok (.invokestatic idx, 3)) (hl : Cond.methodLink (yO Y) idx arraycopyName ∈ AW) (hnat : Cond.native arraycopyName ∈ AW) (hstat : Cond.static arraycopyName ∈ AW) (hini : Cond.initialized "java/lang/System" ∈ AW)
    (hka : kd a = 21) (hkb : kd b = 21) (hna : al a = na) (hnb : al b = nb) (h1 : ¬ i < 0) (h2 : ¬ j < 0) (h3 : ¬ n < 0) (h4 : ix i + ix n ≤ na) (h5 : ix j + ix n ≤ nb) (hfr : 1 ≤ Z.1.frames) (hlo : catS st + (nativeFrameWords "java/lang/System" "arraycopy" 5 + 11) ≤ Z.1.locals)
    (h : lt (cpL m a (ix i) b (ix j) (ix n)) f = some y) (kk : ∀ m1, f m1 = some y → V g Y (pc + 3) ls st m1 Z) : V g Y pc ls (vi n :: vi j :: vr b :: vi i :: vr a :: st) m Z :=
  V_copyl hd hl hnat hstat hini hka hkb hna hnb h1 h2 h3 h4 h5 hfr hlo (kk _ h)
theorem V_invV1 {Q : MI} {as S : List AV} {a c n idx : Nat} {v : AV} {m1 : Mem} {q : vw_C} (hd : decode (yC Y) pc = .ok (.invokevirtual idx, 3)) (hev : Ev g Q (vr a :: as) m (some v) m1) (hw : IV (yO Y) idx Q n) (hR : RM Z Q) (hn : as.length = n)
    (hk : kd a = c + 1) (hc : CF c q) (hC : q.1 = (yN Q).cls) (hst : catS st ≤ 8) (hss : as.reverse ++ vr a :: st = S) (h : V g Y (pc + 3) ls (v :: st) m1 Z) : V g Y pc ls S m Z :=
  V_invV hd hev hw hR hn hk hc hC hst hss h
theorem V_invS1 {Q : MI} {as S : List AV} {n idx : Nat} {v : AV} {m1 : Mem} (hd : decode (yC Y) pc = .ok (.invokestatic idx, 3)) (hev : Ev g Q as m (some v) m1) (hw : IS (yO Y) idx Q n) (hR : RM Z Q) (hn : as.length = n)
    (hst : catS st ≤ 8) (hss : as.reverse ++ st = S) (h : V g Y (pc + 3) ls (v :: st) m1 Z) : V g Y pc ls S m Z :=
  V_invS hd hev hw hR hn hst hss h
theorem V_invSN1 {Q : MI} {as S : List AV} {n idx : Nat} {host : String} {v : AV} {m1 : Mem} (hd : decode (yC Y) pc = .ok (.invokestatic idx, 3)) (hev : Ev g Q as m (some v) m1) (hw : ISN (yO Y) idx Q n host) (hR : RM Z Q) (hn : as.length = n)
    (hst : catS st ≤ 8) (hss : as.reverse ++ st = S) (h : V g Y (pc + 3) ls (v :: st) m1 Z) : V g Y pc ls S m Z :=
  V_invSN hd hev hw hR hn hst hss h
theorem V_invV0 {Q : MI} {as S : List AV} {a c n idx : Nat} {m1 : Mem} {q : vw_C} (hd : decode (yC Y) pc = .ok (.invokevirtual idx, 3)) (hev : Ev g Q (vr a :: as) m none m1) (hw : IV (yO Y) idx Q n) (hR : RM Z Q) (hn : as.length = n)
    (hk : kd a = c + 1) (hc : CF c q) (hC : q.1 = (yN Q).cls) (hst : catS st ≤ 8) (hss : as.reverse ++ vr a :: st = S) (h : V g Y (pc + 3) ls (st) m1 Z) : V g Y pc ls S m Z :=
  V_invV hd hev hw hR hn hk hc hC hst hss h
theorem V_invS0 {Q : MI} {as S : List AV} {n idx : Nat} {m1 : Mem} (hd : decode (yC Y) pc = .ok (.invokestatic idx, 3)) (hev : Ev g Q as m none m1) (hw : IS (yO Y) idx Q n) (hR : RM Z Q) (hn : as.length = n)
    (hst : catS st ≤ 8) (hss : as.reverse ++ st = S) (h : V g Y (pc + 3) ls (st) m1 Z) : V g Y pc ls S m Z :=
  V_invS hd hev hw hR hn hst hss h
theorem V_invSN0 {Q : MI} {as S : List AV} {n idx : Nat} {host : String} {m1 : Mem} (hd : decode (yC Y) pc = .ok (.invokestatic idx, 3)) (hev : Ev g Q as m none m1) (hw : ISN (yO Y) idx Q n host) (hR : RM Z Q) (hn : as.length = n)
    (hst : catS st ≤ 8) (hss : as.reverse ++ st = S) (h : V g Y (pc + 3) ls (st) m1 Z) : V g Y pc ls S m Z :=
  V_invSN hd hev hw hR hn hst hss h
end LTS
/-- a string of the pool -/
abbrev isS (w : Nat) : Prop := 1000 ≤ w ∧ w < 1000 + nS
theorem isS_lit (j : Nat) (h : j < nS) : isS (1000 + j) := ⟨by omega, by omega⟩
abbrev sLen (w : Nat) : Nat := lenS.getD (w - 1000) 0
abbrev sCh (w i : Nat) : Int32 := (bytS.getD (w - 1000) []).getD i 0
def S_length (w : Nat) (_ : Mem) : Option Int32 := some (nI (sLen w))
def S_charAt (w : Nat) (i : Int32) (_ : Mem) : Option Int32 := gd (inb i (sLen w)) (some (sCh w (ix i)))

-- 3 longestGap
abbrev rm3_longestGap : Room := { frames := 2, cells := 0, slots := 0, locals := 44 }
def f3_longestGap_13 (K : Int32 → Int32 → Option (Int32)) (S : TS) (P : TP) (c0 : Nat) : Nat → Int32 → Int32 → Option Nat → Option (Int32)
  | 0, _, _, _ => none
  | n + 1, y3, y4, y5 =>
    y5.elim (K y3 y4)
    (fun (t3 : Nat) => lt (if y3 < ((S 410 t3) - y4) then ((S 410 t3) - y4) else y3) fun (x4 : Int32) =>
    lt (P 415 t3 0) fun (r5 : Option Nat) =>
    f3_longestGap_13 K S P c0 n x4 ((S 410 t3) + (S 402 t3)) r5)

def f3_longestGap (S : TS) (P : TP) (me : Nat) (a1 : Int32) (a2 : Int32) : Option (Int32) :=
  (f3_nearestBow S P me a1 a2).bind fun (r1 : Option Nat) =>
  f3_longestGap_13 (fun (w6 : Int32) (w7 : Int32) =>
  lt (if w6 < ((S 303 me) - w7) then ((S 303 me) - w7) else w6) fun (x8 : Int32) =>
  some x8) S P me FU (0 : Int32) (0 : Int32) r1
set_option maxRecDepth 20000 in
theorem hi3_longestGap_3 : ∀ w ∈ u_ws RX3 TX3 8, w ∈ wsX3_longestGap := by decide +kernel
set_option maxRecDepth 20000 in
theorem hi3_longestGap_4 : ∀ w ∈ u_ws RX4 TX4 16, w ∈ wsX3_longestGap := by decide +kernel
set_option maxHeartbeats 4000000 in
set_option maxRecDepth 100000 in
theorem w3_longestGap_13 {p : Program} {l : Launch} {e : Env} {s : State} {m : MethodId} {args : Array Value} {below : List Frame} {meth : Method} {c : Code} (C : MC p s m args meth c cX3_longestGap (some .int) 6 RX3 wsX3_longestGap) {D : va_G} {cA : Nat → ClassId} {z : Nat} {ad : Nat → Nat → Nat} {N : TN} (hK : va_K D vwCl (tysW cA) s) (hN : NW s) {M : TS} {S : TS} {P : TP} (c0 : Nat) (hc0 : c0 < N 3) {v : Int32} {K : Int32 → Int32 → Option (Int32)}
    (hE : ∀ (e3 : Int32) (e4 : Int32) (H : Heap) (locs : List Loc) (ls : Array Slot), K e3 e4 = some v → Wd D cA z ad N S P M H → va_S (fun q => z ≤ q) s.heap H locs → lv_has ls 6 [(0, .ref (ad 3 c0)), (3, .int e3), (4, .int e4)] → W p l e rm3_longestGap s m args below meth c H locs 0 0 (MQ below (Qi D cA z v (ad, N, S, P, M)) args s 0 0 (fun q => z ≤ q)) (F0 m 54 ls [])) :
    ∀ (n : Nat) (y3 : Int32) (y4 : Int32) (y5 : Option Nat) (H : Heap) (locs : List Loc) (ls : Array Slot), (∀ y, y5 = some y → y < N 4) → f3_longestGap_13 K S P c0 n y3 y4 y5 = some v → Wd D cA z ad N S P M H → va_S (fun q => z ≤ q) s.heap H locs → lv_has ls 6 [(0, .ref (ad 3 c0)), (3, .int y3), (4, .int y4), (5, va_rf (y5.map (ad 4)))] → W p l e rm3_longestGap s m args below meth c H locs 0 0 (MQ below (Qi D cA z v (ad, N, S, P, M)) args s 0 0 (fun q => z ≤ q)) (F0 m 13 ls []) := by
  obtain ⟨hx, hb, hr, hml, hown, hts, hlk⟩ := id C
  intro n
  induction n with
  | zero => intro y3 y4 y5 H locs ls hy5 hF; cases hF
  | succ n ih =>
    intro y3 y4 y5 H locs ls hy5 hF hW hS hl
    rw [f3_longestGap_13] at hF
    refine q_aload hx hb dX3_longestGap_13 (lv_at hl 3 rfl) ?_
    refine q_ifnull (tgt := 54) hx hb dX3_longestGap_15 (by decide) (fun hc => ?_) (fun t3 hc => ?_)
    · subst hc
      replace hF := el_n hF
      replace hl : lv_has ls 6 [(0, .ref (ad 3 c0)), (3, .int y3), (4, .int y4), (5, .null)] := hl
      exact hE y3 y4 _ _ _ hF hW hS (lv_sub hl [0, 1, 2] rfl)
    · subst hc
      replace hF := el_s hF
      have ht3 := hy5 t3 rfl
      replace hl : lv_has ls 6 [(0, .ref (ad 3 c0)), (3, .int y3), (4, .int y4), (5, .ref (ad 4 t3))] := hl
      refine lv_iload_n hx hb dX3_longestGap_18 rfl (lv_at hl 1 rfl) ?_
      refine lv_aload hx hb dX3_longestGap_19 (lv_at hl 3 rfl) ?_
      refine gn4_10 hx hb hts hi3_longestGap_4 hown hK hW ht3 (nf_32 hN) dX3_longestGap_21 ?_
      refine lv_iload hx hb dX3_longestGap_24 (lv_at hl 2 rfl) ?_
      refine lv_isub hx hb dX3_longestGap_26 ?_
      replace hF := lt_ex hF
      obtain ⟨x4, ex4, hF⟩ := hF
      refine va_mmax hx hb (hml.trans hl.1.symm) hown (hts (.methodLink RX3 50 Lib.Math.max.name) (by decide +kernel)) (hts (.static Lib.Math.max.name) (by decide +kernel)) (hts (.initialized "java/lang/Math") (by decide +kernel)) (hts (.code Lib.Math.max.name Lib.Math.max.code 2 (some .int)) (by decide +kernel)) (Nat.le_of_ble_eq_true rfl) (Nat.le_of_ble_eq_true rfl) (Nat.le_of_ble_eq_true rfl) (Nat.le_of_ble_eq_true rfl) dX3_longestGap_27 ?_
      rw [← ex4]
      refine lv_istore_n (lv' := [(3, .int x4), (0, .ref (ad 3 c0)), (4, .int y4), (5, .ref (ad 4 t3))]) hx hb dX3_longestGap_30 rfl hl (by decide) rfl ?_
      clear hl; intro ls hl
      refine lv_aload hx hb dX3_longestGap_31 (lv_at hl 3 rfl) ?_
      refine gn4_10 hx hb hts hi3_longestGap_4 hown hK hW ht3 (nf_32 hN) dX3_longestGap_33 ?_
      refine lv_aload hx hb dX3_longestGap_36 (lv_at hl 3 rfl) ?_
      refine gn4_2 hx hb hts hi3_longestGap_4 hown hK hW ht3 (nf_23 hN) dX3_longestGap_38 ?_
      refine lv_iadd hx hb dX3_longestGap_41 ?_
      refine lv_istore (lv' := [(4, .int ((S 410 t3) + (S 402 t3))), (3, .int x4), (0, .ref (ad 3 c0)), (5, .ref (ad 4 t3))]) hx hb dX3_longestGap_42 hl (by decide) rfl ?_
      clear hl; intro ls hl
      refine lv_aload hx hb dX3_longestGap_44 (lv_at hl 3 rfl) ?_
      replace hF := lt_ex hF
      obtain ⟨r5, er5, hF⟩ := hF
      have hr5 : ∀ y, r5 = some y → y < N 4 := hW.v er5
      refine gn4_15 hx hb hts hi3_longestGap_4 hown hK hW ht3 er5 (nf_38 hN) dX3_longestGap_46 ?_
      refine q_astore (lv' := [(5, va_rf (r5.map (ad 4))), (4, .int ((S 410 t3) + (S 402 t3))), (3, .int x4), (0, .ref (ad 3 c0))]) hx hb dX3_longestGap_49 hl (by decide) rfl ?_
      clear hl; intro ls hl
      refine lv_goto (tgt := 13) hx hb dX3_longestGap_51 (by decide) ?_
      exact ih x4 ((S 410 t3) + (S 402 t3)) r5 _ _ _ hr5 hF hW hS (lv_sub hl [3, 2, 1, 0] rfl)

set_option maxHeartbeats 4000000 in
set_option maxRecDepth 100000 in
theorem w3_longestGap {p : Program} {l : Launch} {e : Env} {s : State} {m : MethodId} {args : Array Value} {below : List Frame} {meth : Method} {c : Code} (C : MC p s m args meth c cX3_longestGap (some .int) 6 RX3 wsX3_longestGap) {D : va_G} {cA : Nat → ClassId} {z : Nat} {ad : Nat → Nat → Nat} {N : TN} (hK : va_K D vwCl (tysW cA) s) (hN : NW s) {S : TS} {P : TP} {M : TS} (me : Nat) (a1 : Int32) (a2 : Int32) (hme : me < N 3) {v : Int32} (hF : f3_longestGap S P me a1 a2 = some v)
    {H : Heap} {ls : Array Slot} (hW : Wd D cA z ad N S P M H) {locs : List Loc} (hS : va_S (fun q => z ≤ q) s.heap H locs) (hl : lv_has ls 6 [(0, .ref (ad 3 me)), (1, .int a1), (2, .int a2)]) : W p l e rm3_longestGap s m args below meth c H locs 0 0 (MQ below (Qi D cA z v (ad, N, S, P, M)) args s 0 0 (fun q => z ≤ q)) (F0 m 0 ls []) := by
  obtain ⟨hx, hb, hr, hml, hown, hts, hlk⟩ := id C
  unfold f3_longestGap at hF
  refine lv_iconst (v := (0 : Int32)) hx hb dX3_longestGap_0 (by decide) ?_
  refine lv_istore_n (lv' := [(3, .int (0 : Int32)), (0, .ref (ad 3 me)), (1, .int a1), (2, .int a2)]) hx hb dX3_longestGap_1 rfl hl (by decide) rfl ?_
  clear hl; intro ls hl
  refine lv_iconst (v := (0 : Int32)) hx hb dX3_longestGap_2 (by decide) ?_
  refine lv_istore (lv' := [(4, .int (0 : Int32)), (3, .int (0 : Int32)), (0, .ref (ad 3 me)), (1, .int a1), (2, .int a2)]) hx hb dX3_longestGap_3 hl (by decide) rfl ?_
  clear hl; intro ls hl
  refine lv_aload_n hx hb dX3_longestGap_5 rfl (lv_at hl 2 rfl) ?_
  refine lv_iload_n hx hb dX3_longestGap_6 rfl (lv_at hl 3 rfl) ?_
  refine lv_iload_n hx hb dX3_longestGap_7 rfl (lv_at hl 4 rfl) ?_
  replace hF := ob hF
  obtain ⟨r1, q2, hF⟩ := hF
  refine k_q (va_runV (As := [.int a1, .int a2]) (rest := []) ⟨hx, hb, hml, hown, hts⟩ (c3_nearestBow l me a1 a2 hme q2) (cwV 2 hts gX3_longestGap_X3_nearestBow rfl rfl rfl (by decide +kernel) ⟨Nat.le_of_ble_eq_true rfl, Nat.le_of_ble_eq_true rfl⟩) (k_preV hW hK hN hme (EE_3 cA ad S P M me) rfl) rfl rfl hl.1 rfl (lv_room (Nat.le_of_ble_eq_true rfl)) dX3_longestGap_8 ⟨Nat.le_of_ble_eq_true rfl, Nat.le_of_ble_eq_true rfl⟩) hS (fun H locs hW hS hr1 => ?_)
  refine q_astore (lv' := [(5, va_rf (r1.map (ad 4))), (4, .int (0 : Int32)), (3, .int (0 : Int32)), (0, .ref (ad 3 me)), (1, .int a1), (2, .int a2)]) hx hb dX3_longestGap_11 hl (by decide) rfl ?_
  clear hl; intro ls hl
  refine w3_longestGap_13 C hK hN me hme (hE := ?_) FU (0 : Int32) (0 : Int32) r1 _ _ _ hr1 hF hW hS (lv_sub hl [3, 2, 1, 0] rfl)
  intro w6 w7 H locs ls hF hW hS hl
  refine lv_iload_n hx hb dX3_longestGap_54 rfl (lv_at hl 1 rfl) ?_
  refine lv_aload_n hx hb dX3_longestGap_55 rfl (lv_at hl 0 rfl) ?_
  refine g3_3 hx hb hts hi3_longestGap_3 hown hK hW hme (hts (.fieldLink RX3 21 RX3 "length" "I") (by decide +kernel)) dX3_longestGap_56 ?_
  refine lv_iload hx hb dX3_longestGap_59 (lv_at hl 2 rfl) ?_
  refine lv_isub hx hb dX3_longestGap_61 ?_
  replace hF := lt_ex hF
  obtain ⟨x8, ex8, hF⟩ := hF
  refine va_mmax hx hb (hml.trans hl.1.symm) hown (hts (.methodLink RX3 50 Lib.Math.max.name) (by decide +kernel)) (hts (.static Lib.Math.max.name) (by decide +kernel)) (hts (.initialized "java/lang/Math") (by decide +kernel)) (hts (.code Lib.Math.max.name Lib.Math.max.code 2 (some .int)) (by decide +kernel)) (Nat.le_of_ble_eq_true rfl) (Nat.le_of_ble_eq_true rfl) (Nat.le_of_ble_eq_true rfl) (Nat.le_of_ble_eq_true rfl) dX3_longestGap_62 ?_
  rw [← ex8]
  have hq1 := Option.some.inj hF
  subst hq1
  exact e_i hx hb hr hlk hK hN hW hS dX3_longestGap_65

set_option maxHeartbeats 4000000 in
set_option maxRecDepth 100000 in
theorem c3_longestGap (l : Launch) {D : va_G} {cA : Nat → ClassId} {z : Nat} {ad : Nat → Nat → Nat} {N : TN} {S : TS} {P : TP} {M : TS} (me : Nat) (a1 : Int32) (a2 : Int32) (hme : me < N 3) {v : Int32} (hF : f3_longestGap S P me a1 a2 = some v) : Met l yX3_longestGap wsX3_longestGap rm3_longestGap (va_Pc [.ref (ad 3 me), .int a1, .int a2] (Wl D cA z (ad, N, S, P, M))) (Qi D cA z v (ad, N, S, P, M)) 0 0 (fun q => z ≤ q) := by
  refine Met.ofW (cc := cX3_longestGap) (maxL := 6) (ret := (some .int)) (by decide) rfl ?_
  intro p e s m args below meth c s₁ B hml hv
  obtain ⟨rfl, hW, hK, hN⟩ := hv
  have hl := lv_entry ([.ref (ad 3 me), .int a1, .int a2]) (n := 6) (Nat.le_of_ble_eq_true rfl)
  rw [lg_entry_eq]
  generalize (lg_sl ([.ref (ad 3 me), .int a1, .int a2]) ++ List.replicate (6 - (lg_sl ([.ref (ad 3 me), .int a1, .int a2])).length) Slot.unset).toArray = ls at hl ⊢
  exact w3_longestGap ⟨B.exec, B.bytes, B.returns, hml, findClass_of_methodNamed B.named, atoms_spec (ws := wsX3_longestGap) B.pre, B.notSynchronized⟩ hK hN me a1 a2 hme hF hW va_S.rf hl

-- 3 tallStandsUnder
abbrev rm3_tallStandsUnder : Room := { frames := 2, cells := 0, slots := 0, locals := 44 }
def f3_tallStandsUnder_14 (K : Option (Int32)) (S : TS) (P : TP) (c0 : Nat) (c1 : Int32) : Nat → Option Nat → Option (Int32)
  | 0, _ => none
  | n + 1, y2 =>
    y2.elim (K)
    (fun (t3 : Nat) => if (S 403 t3) = (2 : Int32) then
    (some (1 : Int32))
    else
    (lt (P 415 t3 0) fun (r4 : Option Nat) =>
    f3_tallStandsUnder_14 K S P c0 c1 n r4))

def f3_tallStandsUnder_2 (K : Option (Int32)) (S : TS) (P : TP) (c0 : Nat) : Nat → Int32 → Option (Int32)
  | 0, _ => none
  | n + 1, y1 =>
    if (2 : Int32) ≤ y1 then
    (K)
    else
    ((f3_nearestBow S P c0 (0 : Int32) y1).bind fun (r1 : Option Nat) =>
    f3_tallStandsUnder_14 (f3_tallStandsUnder_2 K S P c0 n (y1 + 1)) S P c0 y1 FU r1)

def f3_tallStandsUnder (S : TS) (P : TP) (me : Nat) : Option (Int32) :=
  f3_tallStandsUnder_2 (some (0 : Int32)) S P me FU (0 : Int32)
set_option maxRecDepth 20000 in
theorem hi3_tallStandsUnder_4 : ∀ w ∈ u_ws RX4 TX4 16, w ∈ wsX3_tallStandsUnder := by decide +kernel
set_option maxHeartbeats 4000000 in
set_option maxRecDepth 100000 in
theorem w3_tallStandsUnder_14 {p : Program} {l : Launch} {e : Env} {s : State} {m : MethodId} {args : Array Value} {below : List Frame} {meth : Method} {c : Code} (C : MC p s m args meth c cX3_tallStandsUnder (some .boolean) 3 RX3 wsX3_tallStandsUnder) {D : va_G} {cA : Nat → ClassId} {z : Nat} {ad : Nat → Nat → Nat} {N : TN} (hK : va_K D vwCl (tysW cA) s) (hN : NW s) {M : TS} {S : TS} {P : TP} (c0 : Nat) (c1 : Int32) (hc0 : c0 < N 3) {v : Int32} {K : Option (Int32)}
    (hE : ∀ (H : Heap) (locs : List Loc) (ls : Array Slot), K = some v → Wd D cA z ad N S P M H → va_S (fun q => z ≤ q) s.heap H locs → lv_has ls 3 [(0, .ref (ad 3 c0)), (1, .int c1)] → W p l e rm3_tallStandsUnder s m args below meth c H locs 0 0 (MQ below (Qi D cA z v (ad, N, S, P, M)) args s 0 0 (fun q => z ≤ q)) (F0 m 36 ls [])) :
    ∀ (n : Nat) (y2 : Option Nat) (H : Heap) (locs : List Loc) (ls : Array Slot), (∀ y, y2 = some y → y < N 4) → f3_tallStandsUnder_14 K S P c0 c1 n y2 = some v → Wd D cA z ad N S P M H → va_S (fun q => z ≤ q) s.heap H locs → lv_has ls 3 [(0, .ref (ad 3 c0)), (1, .int c1), (2, va_rf (y2.map (ad 4)))] → W p l e rm3_tallStandsUnder s m args below meth c H locs 0 0 (MQ below (Qi D cA z v (ad, N, S, P, M)) args s 0 0 (fun q => z ≤ q)) (F0 m 14 ls []) := by
  obtain ⟨hx, hb, hr, hml, hown, hts, hlk⟩ := id C
  intro n
  induction n with
  | zero => intro y2 H locs ls hy2 hF; cases hF
  | succ n ih =>
    intro y2 H locs ls hy2 hF hW hS hl
    rw [f3_tallStandsUnder_14] at hF
    refine q_aload_n hx hb dX3_tallStandsUnder_14 rfl (lv_at hl 2 rfl) ?_
    refine q_ifnull (tgt := 36) hx hb dX3_tallStandsUnder_15 (by decide) (fun hc => ?_) (fun t3 hc => ?_)
    · subst hc
      replace hF := el_n hF
      replace hl : lv_has ls 3 [(0, .ref (ad 3 c0)), (1, .int c1), (2, .null)] := hl
      exact hE _ _ _ hF hW hS (lv_sub hl [0, 1] rfl)
    · subst hc
      replace hF := el_s hF
      have ht3 := hy2 t3 rfl
      replace hl : lv_has ls 3 [(0, .ref (ad 3 c0)), (1, .int c1), (2, .ref (ad 4 t3))] := hl
      refine lv_aload_n hx hb dX3_tallStandsUnder_18 rfl (lv_at hl 2 rfl) ?_
      refine gn4_3 hx hb hts hi3_tallStandsUnder_4 hown hK hW ht3 (nf_25 hN) dX3_tallStandsUnder_19 ?_
      refine lv_iconst (v := (2 : Int32)) hx hb dX3_tallStandsUnder_22 (by decide) ?_
      refine lv_icmp_ne (tgt := 28) hx hb dX3_tallStandsUnder_23 (by decide) (fun hc => ?_) (fun hc => ?_)
      · replace hF := it_f hF hc
        refine lv_aload_n hx hb dX3_tallStandsUnder_28 rfl (lv_at hl 2 rfl) ?_
        replace hF := lt_ex hF
        obtain ⟨r4, er4, hF⟩ := hF
        have hr4 : ∀ y, r4 = some y → y < N 4 := hW.v er4
        refine gn4_15 hx hb hts hi3_tallStandsUnder_4 hown hK hW ht3 er4 (nf_38 hN) dX3_tallStandsUnder_29 ?_
        refine q_astore_n (lv' := [(2, va_rf (r4.map (ad 4))), (0, .ref (ad 3 c0)), (1, .int c1)]) hx hb dX3_tallStandsUnder_32 rfl hl (by decide) rfl ?_
        clear hl; intro ls hl
        refine lv_goto (tgt := 14) hx hb dX3_tallStandsUnder_33 (by decide) ?_
        exact ih r4 _ _ _ hr4 hF hW hS (lv_sub hl [1, 2, 0] rfl)
      · replace hF := it_t hF hc
        refine lv_iconst (v := (1 : Int32)) hx hb dX3_tallStandsUnder_26 (by decide) ?_
        have hq1 := Option.some.inj hF
        subst hq1
        exact e_z hx hb hr hlk hK hN hW hS (by decide) dX3_tallStandsUnder_27

set_option maxHeartbeats 4000000 in
set_option maxRecDepth 100000 in
theorem w3_tallStandsUnder_2 {p : Program} {l : Launch} {e : Env} {s : State} {m : MethodId} {args : Array Value} {below : List Frame} {meth : Method} {c : Code} (C : MC p s m args meth c cX3_tallStandsUnder (some .boolean) 3 RX3 wsX3_tallStandsUnder) {D : va_G} {cA : Nat → ClassId} {z : Nat} {ad : Nat → Nat → Nat} {N : TN} (hK : va_K D vwCl (tysW cA) s) (hN : NW s) {M : TS} {S : TS} {P : TP} (c0 : Nat) (hc0 : c0 < N 3) {v : Int32} {K : Option (Int32)}
    (hE : ∀ (H : Heap) (locs : List Loc) (ls : Array Slot), K = some v → Wd D cA z ad N S P M H → va_S (fun q => z ≤ q) s.heap H locs → lv_has ls 3 [] → W p l e rm3_tallStandsUnder s m args below meth c H locs 0 0 (MQ below (Qi D cA z v (ad, N, S, P, M)) args s 0 0 (fun q => z ≤ q)) (F0 m 42 ls [])) :
    ∀ (n : Nat) (y1 : Int32) (H : Heap) (locs : List Loc) (ls : Array Slot), f3_tallStandsUnder_2 K S P c0 n y1 = some v → Wd D cA z ad N S P M H → va_S (fun q => z ≤ q) s.heap H locs → lv_has ls 3 [(0, .ref (ad 3 c0)), (1, .int y1)] → W p l e rm3_tallStandsUnder s m args below meth c H locs 0 0 (MQ below (Qi D cA z v (ad, N, S, P, M)) args s 0 0 (fun q => z ≤ q)) (F0 m 2 ls []) := by
  obtain ⟨hx, hb, hr, hml, hown, hts, hlk⟩ := id C
  intro n
  induction n with
  | zero => intro y1 H locs ls hF; cases hF
  | succ n ih =>
    intro y1 H locs ls hF hW hS hl
    rw [f3_tallStandsUnder_2] at hF
    refine lv_iload_n hx hb dX3_tallStandsUnder_2 rfl (lv_at hl 1 rfl) ?_
    refine lv_iconst (v := (2 : Int32)) hx hb dX3_tallStandsUnder_3 (by decide) ?_
    refine lv_icmp_ge (tgt := 42) hx hb dX3_tallStandsUnder_4 (by decide) (fun hc => ?_) (fun hc => ?_)
    · replace hF := it_t hF hc
      exact hE _ _ _ hF hW hS (lv_sub hl [] rfl)
    · replace hF := it_f hF hc
      refine lv_aload_n hx hb dX3_tallStandsUnder_7 rfl (lv_at hl 0 rfl) ?_
      refine lv_iconst (v := (0 : Int32)) hx hb dX3_tallStandsUnder_8 (by decide) ?_
      refine lv_iload_n hx hb dX3_tallStandsUnder_9 rfl (lv_at hl 1 rfl) ?_
      replace hF := ob hF
      obtain ⟨r1, q2, hF⟩ := hF
      refine k_q (va_runV (As := [.int (0 : Int32), .int y1]) (rest := []) ⟨hx, hb, hml, hown, hts⟩ (c3_nearestBow l c0 (0 : Int32) y1 hc0 q2) (cwV 2 hts gX3_tallStandsUnder_X3_nearestBow rfl rfl rfl (by decide +kernel) ⟨Nat.le_of_ble_eq_true rfl, Nat.le_of_ble_eq_true rfl⟩) (k_preV hW hK hN hc0 (EE_3 cA ad S P M c0) rfl) rfl rfl hl.1 rfl (lv_room (Nat.le_of_ble_eq_true rfl)) dX3_tallStandsUnder_10 ⟨Nat.le_of_ble_eq_true rfl, Nat.le_of_ble_eq_true rfl⟩) hS (fun H locs hW hS hr1 => ?_)
      refine q_astore_n (lv' := [(2, va_rf (r1.map (ad 4))), (0, .ref (ad 3 c0)), (1, .int y1)]) hx hb dX3_tallStandsUnder_13 rfl hl (by decide) rfl ?_
      clear hl; intro ls hl
      refine w3_tallStandsUnder_14 C hK hN c0 y1 hc0 (hE := ?_) FU r1 _ _ _ hr1 hF hW hS (lv_sub hl [1, 2, 0] rfl)
      intro  H locs ls hF hW hS hl
      refine lv_iinc (v := y1 + 1) (lv' := [(1, .int (y1 + 1)), (0, .ref (ad 3 c0))]) hx hb dX3_tallStandsUnder_36 hl (k := 1) rfl rfl (by decide) rfl ?_
      clear hl; intro ls hl
      refine lv_goto (tgt := 2) hx hb dX3_tallStandsUnder_39 (by decide) ?_
      exact ih (y1 + 1) _ _ _ hF hW hS (lv_sub hl [1, 0] rfl)

set_option maxHeartbeats 4000000 in
set_option maxRecDepth 100000 in
theorem w3_tallStandsUnder {p : Program} {l : Launch} {e : Env} {s : State} {m : MethodId} {args : Array Value} {below : List Frame} {meth : Method} {c : Code} (C : MC p s m args meth c cX3_tallStandsUnder (some .boolean) 3 RX3 wsX3_tallStandsUnder) {D : va_G} {cA : Nat → ClassId} {z : Nat} {ad : Nat → Nat → Nat} {N : TN} (hK : va_K D vwCl (tysW cA) s) (hN : NW s) {S : TS} {P : TP} {M : TS} (me : Nat) (hme : me < N 3) {v : Int32} (hF : f3_tallStandsUnder S P me = some v)
    {H : Heap} {ls : Array Slot} (hW : Wd D cA z ad N S P M H) {locs : List Loc} (hS : va_S (fun q => z ≤ q) s.heap H locs) (hl : lv_has ls 3 [(0, .ref (ad 3 me))]) : W p l e rm3_tallStandsUnder s m args below meth c H locs 0 0 (MQ below (Qi D cA z v (ad, N, S, P, M)) args s 0 0 (fun q => z ≤ q)) (F0 m 0 ls []) := by
  obtain ⟨hx, hb, hr, hml, hown, hts, hlk⟩ := id C
  unfold f3_tallStandsUnder at hF
  refine lv_iconst (v := (0 : Int32)) hx hb dX3_tallStandsUnder_0 (by decide) ?_
  refine lv_istore_n (lv' := [(1, .int (0 : Int32)), (0, .ref (ad 3 me))]) hx hb dX3_tallStandsUnder_1 rfl hl (by decide) rfl ?_
  clear hl; intro ls hl
  refine w3_tallStandsUnder_2 C hK hN me hme (hE := ?_) FU (0 : Int32) _ _ _ hF hW hS (lv_sub hl [1, 0] rfl)
  intro  H locs ls hF hW hS hl
  refine lv_iconst (v := (0 : Int32)) hx hb dX3_tallStandsUnder_42 (by decide) ?_
  have hq1 := Option.some.inj hF
  subst hq1
  exact e_z hx hb hr hlk hK hN hW hS (by decide) dX3_tallStandsUnder_43

set_option maxHeartbeats 4000000 in
set_option maxRecDepth 100000 in
theorem c3_tallStandsUnder (l : Launch) {D : va_G} {cA : Nat → ClassId} {z : Nat} {ad : Nat → Nat → Nat} {N : TN} {S : TS} {P : TP} {M : TS} (me : Nat) (hme : me < N 3) {v : Int32} (hF : f3_tallStandsUnder S P me = some v) : Met l yX3_tallStandsUnder wsX3_tallStandsUnder rm3_tallStandsUnder (va_Pc [.ref (ad 3 me)] (Wl D cA z (ad, N, S, P, M))) (Qi D cA z v (ad, N, S, P, M)) 0 0 (fun q => z ≤ q) := by
  refine Met.ofW (cc := cX3_tallStandsUnder) (maxL := 3) (ret := (some .boolean)) (by decide) rfl ?_
  intro p e s m args below meth c s₁ B hml hv
  obtain ⟨rfl, hW, hK, hN⟩ := hv
  have hl := lv_entry ([.ref (ad 3 me)]) (n := 3) (Nat.le_of_ble_eq_true rfl)
  rw [lg_entry_eq]
  generalize (lg_sl ([.ref (ad 3 me)]) ++ List.replicate (3 - (lg_sl ([.ref (ad 3 me)])).length) Slot.unset).toArray = ls at hl ⊢
  exact w3_tallStandsUnder ⟨B.exec, B.bytes, B.returns, hml, findClass_of_methodNamed B.named, atoms_spec (ws := wsX3_tallStandsUnder) B.pre, B.notSynchronized⟩ hK hN me hme hF hW va_S.rf hl

-- 3 somethingOnDeckOne
abbrev rm3_somethingOnDeckOne : Room := { frames := 2, cells := 0, slots := 0, locals := 44 }
def f3_somethingOnDeckOne_2 (K : Option (Int32)) (S : TS) (P : TP) (c0 : Nat) : Nat → Int32 → Option (Int32)
  | 0, _ => none
  | n + 1, y1 =>
    if (S 302 c0) ≤ y1 then
    (K)
    else
    ((f3_nearestBow S P c0 (1 : Int32) y1).bind fun (r1 : Option Nat) =>
    r1.elim (f3_somethingOnDeckOne_2 K S P c0 n (y1 + 1))
    (fun (t3 : Nat) => some (1 : Int32)))

def f3_somethingOnDeckOne (S : TS) (P : TP) (me : Nat) : Option (Int32) :=
  f3_somethingOnDeckOne_2 (some (0 : Int32)) S P me FU (0 : Int32)
set_option maxRecDepth 20000 in
theorem hi3_somethingOnDeckOne_3 : ∀ w ∈ u_ws RX3 TX3 8, w ∈ wsX3_somethingOnDeckOne := by decide +kernel
set_option maxHeartbeats 4000000 in
set_option maxRecDepth 100000 in
theorem w3_somethingOnDeckOne_2 {p : Program} {l : Launch} {e : Env} {s : State} {m : MethodId} {args : Array Value} {below : List Frame} {meth : Method} {c : Code} (C : MC p s m args meth c cX3_somethingOnDeckOne (some .boolean) 2 RX3 wsX3_somethingOnDeckOne) {D : va_G} {cA : Nat → ClassId} {z : Nat} {ad : Nat → Nat → Nat} {N : TN} (hK : va_K D vwCl (tysW cA) s) (hN : NW s) {M : TS} {S : TS} {P : TP} (c0 : Nat) (hc0 : c0 < N 3) {v : Int32} {K : Option (Int32)}
    (hE : ∀ (H : Heap) (locs : List Loc) (ls : Array Slot), K = some v → Wd D cA z ad N S P M H → va_S (fun q => z ≤ q) s.heap H locs → lv_has ls 2 [] → W p l e rm3_somethingOnDeckOne s m args below meth c H locs 0 0 (MQ below (Qi D cA z v (ad, N, S, P, M)) args s 0 0 (fun q => z ≤ q)) (F0 m 27 ls [])) :
    ∀ (n : Nat) (y1 : Int32) (H : Heap) (locs : List Loc) (ls : Array Slot), f3_somethingOnDeckOne_2 K S P c0 n y1 = some v → Wd D cA z ad N S P M H → va_S (fun q => z ≤ q) s.heap H locs → lv_has ls 2 [(0, .ref (ad 3 c0)), (1, .int y1)] → W p l e rm3_somethingOnDeckOne s m args below meth c H locs 0 0 (MQ below (Qi D cA z v (ad, N, S, P, M)) args s 0 0 (fun q => z ≤ q)) (F0 m 2 ls []) := by
  obtain ⟨hx, hb, hr, hml, hown, hts, hlk⟩ := id C
  intro n
  induction n with
  | zero => intro y1 H locs ls hF; cases hF
  | succ n ih =>
    intro y1 H locs ls hF hW hS hl
    rw [f3_somethingOnDeckOne_2] at hF
    refine lv_iload_n hx hb dX3_somethingOnDeckOne_2 rfl (lv_at hl 1 rfl) ?_
    refine lv_aload_n hx hb dX3_somethingOnDeckOne_3 rfl (lv_at hl 0 rfl) ?_
    refine g3_2 hx hb hts hi3_somethingOnDeckOne_3 hown hK hW hc0 (hts (.fieldLink RX3 18 RX3 "lanes" "I") (by decide +kernel)) dX3_somethingOnDeckOne_4 ?_
    refine lv_icmp_ge (tgt := 27) hx hb dX3_somethingOnDeckOne_7 (by decide) (fun hc => ?_) (fun hc => ?_)
    · replace hF := it_t hF hc
      exact hE _ _ _ hF hW hS (lv_sub hl [] rfl)
    · replace hF := it_f hF hc
      refine lv_aload_n hx hb dX3_somethingOnDeckOne_10 rfl (lv_at hl 0 rfl) ?_
      refine lv_iconst (v := (1 : Int32)) hx hb dX3_somethingOnDeckOne_11 (by decide) ?_
      refine lv_iload_n hx hb dX3_somethingOnDeckOne_12 rfl (lv_at hl 1 rfl) ?_
      replace hF := ob hF
      obtain ⟨r1, q2, hF⟩ := hF
      refine k_q (va_runV (As := [.int (1 : Int32), .int y1]) (rest := []) ⟨hx, hb, hml, hown, hts⟩ (c3_nearestBow l c0 (1 : Int32) y1 hc0 q2) (cwV 2 hts gX3_somethingOnDeckOne_X3_nearestBow rfl rfl rfl (by decide +kernel) ⟨Nat.le_of_ble_eq_true rfl, Nat.le_of_ble_eq_true rfl⟩) (k_preV hW hK hN hc0 (EE_3 cA ad S P M c0) rfl) rfl rfl hl.1 rfl (lv_room (Nat.le_of_ble_eq_true rfl)) dX3_somethingOnDeckOne_13 ⟨Nat.le_of_ble_eq_true rfl, Nat.le_of_ble_eq_true rfl⟩) hS (fun H locs hW hS hr1 => ?_)
      refine q_ifnull (tgt := 21) hx hb dX3_somethingOnDeckOne_16 (by decide) (fun hc => ?_) (fun t3 hc => ?_)
      · subst hc
        replace hF := el_n hF
        refine lv_iinc (v := y1 + 1) (lv' := [(1, .int (y1 + 1)), (0, .ref (ad 3 c0))]) hx hb dX3_somethingOnDeckOne_21 hl (k := 1) rfl rfl (by decide) rfl ?_
        clear hl; intro ls hl
        refine lv_goto (tgt := 2) hx hb dX3_somethingOnDeckOne_24 (by decide) ?_
        exact ih (y1 + 1) _ _ _ hF hW hS (lv_sub hl [1, 0] rfl)
      · subst hc
        replace hF := el_s hF
        have ht3 := hr1 t3 rfl
        refine lv_iconst (v := (1 : Int32)) hx hb dX3_somethingOnDeckOne_19 (by decide) ?_
        have hq1 := Option.some.inj hF
        subst hq1
        exact e_z hx hb hr hlk hK hN hW hS (by decide) dX3_somethingOnDeckOne_20

set_option maxHeartbeats 4000000 in
set_option maxRecDepth 100000 in
theorem w3_somethingOnDeckOne {p : Program} {l : Launch} {e : Env} {s : State} {m : MethodId} {args : Array Value} {below : List Frame} {meth : Method} {c : Code} (C : MC p s m args meth c cX3_somethingOnDeckOne (some .boolean) 2 RX3 wsX3_somethingOnDeckOne) {D : va_G} {cA : Nat → ClassId} {z : Nat} {ad : Nat → Nat → Nat} {N : TN} (hK : va_K D vwCl (tysW cA) s) (hN : NW s) {S : TS} {P : TP} {M : TS} (me : Nat) (hme : me < N 3) {v : Int32} (hF : f3_somethingOnDeckOne S P me = some v)
    {H : Heap} {ls : Array Slot} (hW : Wd D cA z ad N S P M H) {locs : List Loc} (hS : va_S (fun q => z ≤ q) s.heap H locs) (hl : lv_has ls 2 [(0, .ref (ad 3 me))]) : W p l e rm3_somethingOnDeckOne s m args below meth c H locs 0 0 (MQ below (Qi D cA z v (ad, N, S, P, M)) args s 0 0 (fun q => z ≤ q)) (F0 m 0 ls []) := by
  obtain ⟨hx, hb, hr, hml, hown, hts, hlk⟩ := id C
  unfold f3_somethingOnDeckOne at hF
  refine lv_iconst (v := (0 : Int32)) hx hb dX3_somethingOnDeckOne_0 (by decide) ?_
  refine lv_istore_n (lv' := [(1, .int (0 : Int32)), (0, .ref (ad 3 me))]) hx hb dX3_somethingOnDeckOne_1 rfl hl (by decide) rfl ?_
  clear hl; intro ls hl
  refine w3_somethingOnDeckOne_2 C hK hN me hme (hE := ?_) FU (0 : Int32) _ _ _ hF hW hS (lv_sub hl [1, 0] rfl)
  intro  H locs ls hF hW hS hl
  refine lv_iconst (v := (0 : Int32)) hx hb dX3_somethingOnDeckOne_27 (by decide) ?_
  have hq1 := Option.some.inj hF
  subst hq1
  exact e_z hx hb hr hlk hK hN hW hS (by decide) dX3_somethingOnDeckOne_28

set_option maxHeartbeats 4000000 in
set_option maxRecDepth 100000 in
theorem c3_somethingOnDeckOne (l : Launch) {D : va_G} {cA : Nat → ClassId} {z : Nat} {ad : Nat → Nat → Nat} {N : TN} {S : TS} {P : TP} {M : TS} (me : Nat) (hme : me < N 3) {v : Int32} (hF : f3_somethingOnDeckOne S P me = some v) : Met l yX3_somethingOnDeckOne wsX3_somethingOnDeckOne rm3_somethingOnDeckOne (va_Pc [.ref (ad 3 me)] (Wl D cA z (ad, N, S, P, M))) (Qi D cA z v (ad, N, S, P, M)) 0 0 (fun q => z ≤ q) := by
  refine Met.ofW (cc := cX3_somethingOnDeckOne) (maxL := 2) (ret := (some .boolean)) (by decide) rfl ?_
  intro p e s m args below meth c s₁ B hml hv
  obtain ⟨rfl, hW, hK, hN⟩ := hv
  have hl := lv_entry ([.ref (ad 3 me)]) (n := 2) (Nat.le_of_ble_eq_true rfl)
  rw [lg_entry_eq]
  generalize (lg_sl ([.ref (ad 3 me)]) ++ List.replicate (2 - (lg_sl ([.ref (ad 3 me)])).length) Slot.unset).toArray = ls at hl ⊢
  exact w3_somethingOnDeckOne ⟨B.exec, B.bytes, B.returns, hml, findClass_of_methodNamed B.named, atoms_spec (ws := wsX3_somethingOnDeckOne) B.pre, B.notSynchronized⟩ hK hN me hme hF hW va_S.rf hl

-- 3 mayStand
abbrev rm3_mayStand : Room := { frames := 3, cells := 0, slots := 0, locals := 66 }
def f3_mayStand (S : TS) (P : TP) (me : Nat) (a1 : Int32) (a2 : Int32) (a3 : Int32) : Option (Int32) :=
  lt (lt (if (S 304 me) = 0 then
  (some (1 : Int32))
  else
  (if a1 = (1 : Int32) then
  ((f3_tallStandsUnder S P me).bind fun (v4 : Int32) =>
  if v4 = 0 then
  (some (1 : Int32))
  else
  (some (0 : Int32)))
  else
  (lt (fun (k1 : Int32) => (if k1 = 0 then
  (some (1 : Int32))
  else
  ((f3_somethingOnDeckOne S P me).bind fun (v2 : Int32) =>
  if v2 = 0 then
  (some (1 : Int32))
  else
  (some (0 : Int32))))) fun (K67 : Int32 → Option (Int32)) =>
  if a1 = 0 then
  (if (2 : Int32) ≤ a2 then
  (K67 (0 : Int32))
  else
  (if a3 = (2 : Int32) then
  (K67 (1 : Int32))
  else
  (K67 (0 : Int32))))
  else
  (K67 (0 : Int32))))) fun (K21 : Option (Int32)) =>
  if a3 = (1 : Int32) then
  (if a1 ≤ (1 : Int32) then
  (K21)
  else
  (some (0 : Int32)))
  else
  (K21)) fun (K9 : Option (Int32)) =>
  if a3 = (2 : Int32) then
  (if 0 < a1 then
  (some (0 : Int32))
  else
  (K9))
  else
  (K9)
set_option maxRecDepth 20000 in
theorem hi3_mayStand_3 : ∀ w ∈ u_ws RX3 TX3 8, w ∈ wsX3_mayStand := by decide +kernel
set_option maxHeartbeats 4000000 in
set_option maxRecDepth 100000 in
theorem w3_mayStand {p : Program} {l : Launch} {e : Env} {s : State} {m : MethodId} {args : Array Value} {below : List Frame} {meth : Method} {c : Code} (C : MC p s m args meth c cX3_mayStand (some .boolean) 5 RX3 wsX3_mayStand) {D : va_G} {cA : Nat → ClassId} {z : Nat} {ad : Nat → Nat → Nat} {N : TN} (hK : va_K D vwCl (tysW cA) s) (hN : NW s) {S : TS} {P : TP} {M : TS} (me : Nat) (a1 : Int32) (a2 : Int32) (a3 : Int32) (hme : me < N 3) {v : Int32} (hF : f3_mayStand S P me a1 a2 a3 = some v)
    {H : Heap} {ls : Array Slot} (hW : Wd D cA z ad N S P M H) {locs : List Loc} (hS : va_S (fun q => z ≤ q) s.heap H locs) (hl : lv_has ls 5 [(0, .ref (ad 3 me)), (1, .int a1), (2, .int a2), (3, .int a3)]) : W p l e rm3_mayStand s m args below meth c H locs 0 0 (MQ below (Qi D cA z v (ad, N, S, P, M)) args s 0 0 (fun q => z ≤ q)) (F0 m 0 ls []) := by
  obtain ⟨hx, hb, hr, hml, hown, hts, hlk⟩ := id C
  unfold f3_mayStand at hF
  refine lv_iload_n hx hb dX3_mayStand_0 rfl (lv_at hl 3 rfl) ?_
  refine lv_iconst (v := (2 : Int32)) hx hb dX3_mayStand_1 (by decide) ?_
  replace hF := lt_ex hF
  obtain ⟨K9, eK9, hF⟩ := hF
  have hK9 : ∀ (H : Heap) (locs : List Loc) (ls : Array Slot), K9 = some v → Wd D cA z ad N S P M H → va_S (fun q => z ≤ q) s.heap H locs → lv_has ls 5 [(0, .ref (ad 3 me)), (1, .int a1), (2, .int a2), (3, .int a3)] → W p l e rm3_mayStand s m args below meth c H locs 0 0 (MQ below (Qi D cA z v (ad, N, S, P, M)) args s 0 0 (fun q => z ≤ q)) (F0 m 9 ls []) := by
    intro H locs ls hF hW hS hl
    subst eK9
    refine lv_iload_n hx hb dX3_mayStand_9 rfl (lv_at hl 3 rfl) ?_
    refine lv_iconst (v := (1 : Int32)) hx hb dX3_mayStand_10 (by decide) ?_
    replace hF := lt_ex hF
    obtain ⟨K21, eK21, hF⟩ := hF
    have hK21 : ∀ (H : Heap) (locs : List Loc) (ls : Array Slot), K21 = some v → Wd D cA z ad N S P M H → va_S (fun q => z ≤ q) s.heap H locs → lv_has ls 5 [(0, .ref (ad 3 me)), (1, .int a1), (2, .int a2), (3, .int a3)] → W p l e rm3_mayStand s m args below meth c H locs 0 0 (MQ below (Qi D cA z v (ad, N, S, P, M)) args s 0 0 (fun q => z ≤ q)) (F0 m 21 ls []) := by
      intro H locs ls hF hW hS hl
      subst eK21
      refine lv_aload_n hx hb dX3_mayStand_21 rfl (lv_at hl 0 rfl) ?_
      refine g3_4 hx hb hts hi3_mayStand_3 hown hK hW hme (hts (.fieldLink RX3 24 RX3 "half" "Z") (by decide +kernel)) dX3_mayStand_22 ?_
      refine lv_if_ne (tgt := 30) hx hb dX3_mayStand_25 (by decide) (fun hc => ?_) (fun hc => ?_)
      · replace hF := it_f hF hc
        refine lv_iload_n hx hb dX3_mayStand_30 rfl (lv_at hl 1 rfl) ?_
        refine lv_iconst (v := (1 : Int32)) hx hb dX3_mayStand_31 (by decide) ?_
        refine lv_icmp_ne (tgt := 48) hx hb dX3_mayStand_32 (by decide) (fun hc => ?_) (fun hc => ?_)
        · replace hF := it_f hF hc
          refine lv_iload_n hx hb dX3_mayStand_48 rfl (lv_at hl 1 rfl) ?_
          replace hF := lt_ex hF
          obtain ⟨K67, eK67, hF⟩ := hF
          have hK67 : ∀ (k1 : Int32) (H : Heap) (locs : List Loc) (ls : Array Slot), K67 k1 = some v → Wd D cA z ad N S P M H → va_S (fun q => z ≤ q) s.heap H locs → lv_has ls 5 [(0, .ref (ad 3 me))] → W p l e rm3_mayStand s m args below meth c H locs 0 0 (MQ below (Qi D cA z v (ad, N, S, P, M)) args s 0 0 (fun q => z ≤ q)) (F0 m 67 ls [.int k1]) := by
            intro k1 H locs ls hF hW hS hl
            subst eK67
            refine lv_istore (lv' := [(4, .int k1), (0, .ref (ad 3 me))]) hx hb dX3_mayStand_67 hl (by decide) rfl ?_
            clear hl; intro ls hl
            refine lv_iload hx hb dX3_mayStand_69 (lv_at hl 0 rfl) ?_
            refine lv_if_eq (tgt := 81) hx hb dX3_mayStand_71 (by decide) (fun hc => ?_) (fun hc => ?_)
            · replace hF := it_t hF hc
              refine lv_iconst (v := (1 : Int32)) hx hb dX3_mayStand_81 (by decide) ?_
              refine lv_goto (tgt := 86) hx hb dX3_mayStand_82 (by decide) ?_
              have hq1 := Option.some.inj hF
              subst hq1
              exact e_z hx hb hr hlk hK hN hW hS (by decide) dX3_mayStand_86
            · replace hF := it_f hF hc
              refine lv_aload_n hx hb dX3_mayStand_74 rfl (lv_at hl 1 rfl) ?_
              replace hF := ob hF
              obtain ⟨v2, q3, hF⟩ := hF
              refine k_i (va_runV (As := []) (rest := []) ⟨hx, hb, hml, hown, hts⟩ (c3_somethingOnDeckOne l me hme q3) (cwV 0 hts gX3_mayStand_X3_somethingOnDeckOne rfl rfl rfl (by decide +kernel) ⟨Nat.le_of_ble_eq_true rfl, Nat.le_of_ble_eq_true rfl⟩) (k_preV hW hK hN hme (EE_3 cA ad S P M me) rfl) rfl rfl hl.1 rfl (lv_room (Nat.le_of_ble_eq_true rfl)) dX3_mayStand_75 ⟨Nat.le_of_ble_eq_true rfl, Nat.le_of_ble_eq_true rfl⟩) hS ?_
              clear hW hS; intro H locs hW hS
              refine lv_if_ne (tgt := 85) hx hb dX3_mayStand_78 (by decide) (fun hc => ?_) (fun hc => ?_)
              · replace hF := it_f hF hc
                refine lv_iconst (v := (0 : Int32)) hx hb dX3_mayStand_85 (by decide) ?_
                have hq1 := Option.some.inj hF
                subst hq1
                exact e_z hx hb hr hlk hK hN hW hS (by decide) dX3_mayStand_86
              · replace hF := it_t hF hc
                refine lv_iconst (v := (1 : Int32)) hx hb dX3_mayStand_81 (by decide) ?_
                refine lv_goto (tgt := 86) hx hb dX3_mayStand_82 (by decide) ?_
                have hq1 := Option.some.inj hF
                subst hq1
                exact e_z hx hb hr hlk hK hN hW hS (by decide) dX3_mayStand_86
          clear eK67
          refine lv_if_ne (tgt := 66) hx hb dX3_mayStand_49 (by decide) (fun hc => ?_) (fun hc => ?_)
          · replace hF := it_f hF hc
            refine lv_iconst (v := (0 : Int32)) hx hb dX3_mayStand_66 (by decide) ?_
            exact hK67 (0 : Int32) _ _ _ hF hW hS (lv_sub hl [0] rfl)
          · replace hF := it_t hF hc
            refine lv_iload_n hx hb dX3_mayStand_52 rfl (lv_at hl 2 rfl) ?_
            refine lv_iconst (v := (2 : Int32)) hx hb dX3_mayStand_53 (by decide) ?_
            refine lv_icmp_ge (tgt := 66) hx hb dX3_mayStand_54 (by decide) (fun hc => ?_) (fun hc => ?_)
            · replace hF := it_t hF hc
              refine lv_iconst (v := (0 : Int32)) hx hb dX3_mayStand_66 (by decide) ?_
              exact hK67 (0 : Int32) _ _ _ hF hW hS (lv_sub hl [0] rfl)
            · replace hF := it_f hF hc
              refine lv_iload_n hx hb dX3_mayStand_57 rfl (lv_at hl 3 rfl) ?_
              refine lv_iconst (v := (2 : Int32)) hx hb dX3_mayStand_58 (by decide) ?_
              refine lv_icmp_ne (tgt := 66) hx hb dX3_mayStand_59 (by decide) (fun hc => ?_) (fun hc => ?_)
              · replace hF := it_f hF hc
                refine lv_iconst (v := (0 : Int32)) hx hb dX3_mayStand_66 (by decide) ?_
                exact hK67 (0 : Int32) _ _ _ hF hW hS (lv_sub hl [0] rfl)
              · replace hF := it_t hF hc
                refine lv_iconst (v := (1 : Int32)) hx hb dX3_mayStand_62 (by decide) ?_
                refine lv_goto (tgt := 67) hx hb dX3_mayStand_63 (by decide) ?_
                exact hK67 (1 : Int32) _ _ _ hF hW hS (lv_sub hl [0] rfl)
        · replace hF := it_t hF hc
          refine lv_aload_n hx hb dX3_mayStand_35 rfl (lv_at hl 0 rfl) ?_
          replace hF := ob hF
          obtain ⟨v4, q5, hF⟩ := hF
          refine k_i (va_runV (As := []) (rest := []) ⟨hx, hb, hml, hown, hts⟩ (c3_tallStandsUnder l me hme q5) (cwV 0 hts gX3_mayStand_X3_tallStandsUnder rfl rfl rfl (by decide +kernel) ⟨Nat.le_of_ble_eq_true rfl, Nat.le_of_ble_eq_true rfl⟩) (k_preV hW hK hN hme (EE_3 cA ad S P M me) rfl) rfl rfl hl.1 rfl (lv_room (Nat.le_of_ble_eq_true rfl)) dX3_mayStand_36 ⟨Nat.le_of_ble_eq_true rfl, Nat.le_of_ble_eq_true rfl⟩) hS ?_
          clear hW hS; intro H locs hW hS
          refine lv_if_ne (tgt := 46) hx hb dX3_mayStand_39 (by decide) (fun hc => ?_) (fun hc => ?_)
          · replace hF := it_f hF hc
            refine lv_iconst (v := (0 : Int32)) hx hb dX3_mayStand_46 (by decide) ?_
            have hq1 := Option.some.inj hF
            subst hq1
            exact e_z hx hb hr hlk hK hN hW hS (by decide) dX3_mayStand_47
          · replace hF := it_t hF hc
            refine lv_iconst (v := (1 : Int32)) hx hb dX3_mayStand_42 (by decide) ?_
            refine lv_goto (tgt := 47) hx hb dX3_mayStand_43 (by decide) ?_
            have hq1 := Option.some.inj hF
            subst hq1
            exact e_z hx hb hr hlk hK hN hW hS (by decide) dX3_mayStand_47
      · replace hF := it_t hF hc
        refine lv_iconst (v := (1 : Int32)) hx hb dX3_mayStand_28 (by decide) ?_
        have hq1 := Option.some.inj hF
        subst hq1
        exact e_z hx hb hr hlk hK hN hW hS (by decide) dX3_mayStand_29
    clear eK21
    refine lv_icmp_ne (tgt := 21) hx hb dX3_mayStand_11 (by decide) (fun hc => ?_) (fun hc => ?_)
    · replace hF := it_f hF hc
      exact hK21 _ _ _ hF hW hS (lv_sub hl [0, 1, 2, 3] rfl)
    · replace hF := it_t hF hc
      refine lv_iload_n hx hb dX3_mayStand_14 rfl (lv_at hl 1 rfl) ?_
      refine lv_iconst (v := (1 : Int32)) hx hb dX3_mayStand_15 (by decide) ?_
      refine lv_icmp_le (tgt := 21) hx hb dX3_mayStand_16 (by decide) (fun hc => ?_) (fun hc => ?_)
      · replace hF := it_t hF hc
        exact hK21 _ _ _ hF hW hS (lv_sub hl [0, 1, 2, 3] rfl)
      · replace hF := it_f hF hc
        refine lv_iconst (v := (0 : Int32)) hx hb dX3_mayStand_19 (by decide) ?_
        have hq1 := Option.some.inj hF
        subst hq1
        exact e_z hx hb hr hlk hK hN hW hS (by decide) dX3_mayStand_20
  clear eK9
  refine lv_icmp_ne (tgt := 9) hx hb dX3_mayStand_2 (by decide) (fun hc => ?_) (fun hc => ?_)
  · replace hF := it_f hF hc
    exact hK9 _ _ _ hF hW hS (lv_sub hl [0, 1, 2, 3] rfl)
  · replace hF := it_t hF hc
    refine lv_iload_n hx hb dX3_mayStand_5 rfl (lv_at hl 1 rfl) ?_
    refine lv_if_gt (tgt := 19) hx hb dX3_mayStand_6 (by decide) (fun hc => ?_) (fun hc => ?_)
    · replace hF := it_t hF hc
      refine lv_iconst (v := (0 : Int32)) hx hb dX3_mayStand_19 (by decide) ?_
      have hq1 := Option.some.inj hF
      subst hq1
      exact e_z hx hb hr hlk hK hN hW hS (by decide) dX3_mayStand_20
    · replace hF := it_f hF hc
      exact hK9 _ _ _ hF hW hS (lv_sub hl [0, 1, 2, 3] rfl)

set_option maxHeartbeats 4000000 in
set_option maxRecDepth 100000 in
theorem c3_mayStand (l : Launch) {D : va_G} {cA : Nat → ClassId} {z : Nat} {ad : Nat → Nat → Nat} {N : TN} {S : TS} {P : TP} {M : TS} (me : Nat) (a1 : Int32) (a2 : Int32) (a3 : Int32) (hme : me < N 3) {v : Int32} (hF : f3_mayStand S P me a1 a2 a3 = some v) : Met l yX3_mayStand wsX3_mayStand rm3_mayStand (va_Pc [.ref (ad 3 me), .int a1, .int a2, .int a3] (Wl D cA z (ad, N, S, P, M))) (Qi D cA z v (ad, N, S, P, M)) 0 0 (fun q => z ≤ q) := by
  refine Met.ofW (cc := cX3_mayStand) (maxL := 5) (ret := (some .boolean)) (by decide) rfl ?_
  intro p e s m args below meth c s₁ B hml hv
  obtain ⟨rfl, hW, hK, hN⟩ := hv
  have hl := lv_entry ([.ref (ad 3 me), .int a1, .int a2, .int a3]) (n := 5) (Nat.le_of_ble_eq_true rfl)
  rw [lg_entry_eq]
  generalize (lg_sl ([.ref (ad 3 me), .int a1, .int a2, .int a3]) ++ List.replicate (5 - (lg_sl ([.ref (ad 3 me), .int a1, .int a2, .int a3])).length) Slot.unset).toArray = ls at hl ⊢
  exact w3_mayStand ⟨B.exec, B.bytes, B.returns, hml, findClass_of_methodNamed B.named, atoms_spec (ws := wsX3_mayStand) B.pre, B.notSynchronized⟩ hK hN me a1 a2 a3 hme hF hW va_S.rf hl

-- 3 putInPlace
abbrev rm3_putInPlace : Room := { frames := 3, cells := 0, slots := 0, locals := 67 }
def f3_putInPlace (S : TS) (P : TP) (me : Nat) (a1 : Nat) (a2 : Int32) (a3 : Int32) (a4 : Int32) : Option (TS × TP) :=
  lt (up S 408 a1 a2) fun (S1 : TS) =>
  lt (up S1 409 a1 a3) fun (S2 : TS) =>
  lt (up S2 410 a1 a4) fun (S3 : TS) =>
  (f3_nextAhead S3 P me a1).bind fun (r4 : Option Nat) =>
  lt (fun (k6 : Option Nat) => (lt (up3 P 415 a1 0 k6) fun (P7 : TP) =>
  b2 (f3_chain S3 P7 me a1 r4 (some a1)) fun (S8 : TS) (P9 : TP) =>
  lt (up S8 306 me ((S8 306 me) + (1 : Int32))) fun (S11 : TS) =>
  some (S11, P9))) fun (K43 : Option Nat → Option (TS × TP)) =>
  r4.elim ((f3_nearestBow S3 P me a2 a3).bind fun (r13 : Option Nat) =>
  K43 r13)
  (fun (t12 : Nat) => lt (P 415 t12 0) fun (r15 : Option Nat) =>
  K43 r15)
set_option maxRecDepth 20000 in
theorem hi3_putInPlace_3 : ∀ w ∈ u_ws RX3 TX3 8, w ∈ wsX3_putInPlace := by decide +kernel
set_option maxRecDepth 20000 in
theorem hi3_putInPlace_4 : ∀ w ∈ u_ws RX4 TX4 16, w ∈ wsX3_putInPlace := by decide +kernel
set_option maxHeartbeats 4000000 in
set_option maxRecDepth 100000 in
theorem w3_putInPlace {p : Program} {l : Launch} {e : Env} {s : State} {m : MethodId} {args : Array Value} {below : List Frame} {meth : Method} {c : Code} (C : MC p s m args meth c cX3_putInPlace none 6 RX3 wsX3_putInPlace) {D : va_G} {cA : Nat → ClassId} {z : Nat} {ad : Nat → Nat → Nat} {N : TN} (hK : va_K D vwCl (tysW cA) s) (hN : NW s) {S : TS} {P : TP} {M : TS} (me : Nat) (a1 : Nat) (a2 : Int32) (a3 : Int32) (a4 : Int32) (hme : me < N 3) (ha1 : a1 < N 4) {S' : TS} {P' : TP} (hF : f3_putInPlace S P me a1 a2 a3 a4 = some (S', P'))
    {H : Heap} {ls : Array Slot} (hW : Wd D cA z ad N S P M H) {locs : List Loc} (hS : va_S (fun q => z ≤ q) s.heap H locs) (hl : lv_has ls 6 [(0, .ref (ad 3 me)), (1, .ref (ad 4 a1)), (2, .int a2), (3, .int a3), (4, .int a4)]) : W p l e rm3_putInPlace s m args below meth c H locs 0 0 (MQ below (Qv D cA z (ad, N, S', P', M)) args s 0 0 (fun q => z ≤ q)) (F0 m 0 ls []) := by
  obtain ⟨hx, hb, hr, hml, hown, hts, hlk⟩ := id C
  unfold f3_putInPlace at hF
  refine lv_aload_n hx hb dX3_putInPlace_0 rfl (lv_at hl 1 rfl) ?_
  refine lv_iload_n hx hb dX3_putInPlace_1 rfl (lv_at hl 2 rfl) ?_
  replace hF := lt_ex hF
  obtain ⟨S1, eS1, hF⟩ := hF
  refine pn4_8 hx hb hts hi3_putInPlace_4 hown hK hW hS ha1 eS1 (nf_30 hN) dX3_putInPlace_2 ?_
  clear hW hS; intro H locs hW hS
  refine lv_aload_n hx hb dX3_putInPlace_5 rfl (lv_at hl 1 rfl) ?_
  refine lv_iload_n hx hb dX3_putInPlace_6 rfl (lv_at hl 3 rfl) ?_
  replace hF := lt_ex hF
  obtain ⟨S2, eS2, hF⟩ := hF
  refine pn4_9 hx hb hts hi3_putInPlace_4 hown hK hW hS ha1 eS2 (nf_31 hN) dX3_putInPlace_7 ?_
  clear hW hS; intro H locs hW hS
  refine lv_aload_n hx hb dX3_putInPlace_10 rfl (lv_at hl 1 rfl) ?_
  refine lv_iload hx hb dX3_putInPlace_11 (lv_at hl 4 rfl) ?_
  replace hF := lt_ex hF
  obtain ⟨S3, eS3, hF⟩ := hF
  refine pn4_10 hx hb hts hi3_putInPlace_4 hown hK hW hS ha1 eS3 (nf_32 hN) dX3_putInPlace_13 ?_
  clear hW hS; intro H locs hW hS
  refine lv_aload_n hx hb dX3_putInPlace_16 rfl (lv_at hl 0 rfl) ?_
  refine lv_aload_n hx hb dX3_putInPlace_17 rfl (lv_at hl 1 rfl) ?_
  replace hF := ob hF
  obtain ⟨r4, q5, hF⟩ := hF
  refine k_q (va_runV (As := [.ref (ad 4 a1)]) (rest := []) ⟨hx, hb, hml, hown, hts⟩ (c3_nextAhead l me a1 hme ha1 q5) (cwV 1 hts gX3_putInPlace_X3_nextAhead rfl rfl rfl (by decide +kernel) ⟨Nat.le_of_ble_eq_true rfl, Nat.le_of_ble_eq_true rfl⟩) (k_preV hW hK hN hme (EE_3 cA ad S3 P M me) rfl) rfl rfl hl.1 rfl (lv_room (Nat.le_of_ble_eq_true rfl)) dX3_putInPlace_18 ⟨Nat.le_of_ble_eq_true rfl, Nat.le_of_ble_eq_true rfl⟩) hS (fun H locs hW hS hr4 => ?_)
  refine q_astore (lv' := [(5, va_rf (r4.map (ad 4))), (0, .ref (ad 3 me)), (1, .ref (ad 4 a1)), (2, .int a2), (3, .int a3), (4, .int a4)]) hx hb dX3_putInPlace_21 hl (by decide) rfl ?_
  clear hl; intro ls hl
  refine lv_aload_n hx hb dX3_putInPlace_23 rfl (lv_at hl 2 rfl) ?_
  refine q_aload hx hb dX3_putInPlace_24 (lv_at hl 0 rfl) ?_
  replace hF := lt_ex hF
  obtain ⟨K43, eK43, hF⟩ := hF
  have hK43 : ∀ (k6 : Option Nat) (H : Heap) (locs : List Loc) (ls : Array Slot), K43 k6 = some (S', P') → (∀ y, k6 = some y → y < N 4) → Wd D cA z ad N S3 P M H → va_S (fun q => z ≤ q) s.heap H locs → lv_has ls 6 [(0, .ref (ad 3 me)), (1, .ref (ad 4 a1)), (5, va_rf (r4.map (ad 4)))] → W p l e rm3_putInPlace s m args below meth c H locs 0 0 (MQ below (Qv D cA z (ad, N, S', P', M)) args s 0 0 (fun q => z ≤ q)) (F0 m 43 ls [va_rf (k6.map (ad 4)), .ref (ad 4 a1)]) := by
    intro k6 H locs ls hF hk6 hW hS hl
    subst eK43
    replace hF := lt_ex hF
    obtain ⟨P7, eP7, hF⟩ := hF
    refine pn4_15 (r := k6) hx hb hts hi3_putInPlace_4 hown hK hW hS ha1 hk6 eP7 (nf_38 hN) dX3_putInPlace_43 ?_
    clear hW hS; intro H locs hW hS
    refine lv_aload_n hx hb dX3_putInPlace_46 rfl (lv_at hl 0 rfl) ?_
    refine lv_aload_n hx hb dX3_putInPlace_47 rfl (lv_at hl 1 rfl) ?_
    refine q_aload hx hb dX3_putInPlace_48 (lv_at hl 2 rfl) ?_
    refine lv_aload_n hx hb dX3_putInPlace_50 rfl (lv_at hl 1 rfl) ?_
    replace hF := ob2 hF
    obtain ⟨S8, P9, q10, hF⟩ := hF
    refine k_v (va_runV (As := [.ref (ad 4 a1), va_rf (r4.map (ad 4)), va_rf ((some a1).map (ad 4))]) (rest := []) ⟨hx, hb, hml, hown, hts⟩ (c3_chain l me a1 r4 (some a1) hme ha1 hr4 (q_some ha1) q10) (cwV 3 hts gX3_putInPlace_X3_chain rfl rfl rfl (by decide +kernel) ⟨Nat.le_of_ble_eq_true rfl, Nat.le_of_ble_eq_true rfl⟩) (k_preV hW hK hN hme (EE_3 cA ad S3 P7 M me) rfl) rfl rfl hl.1 rfl (lv_room (Nat.le_of_ble_eq_true rfl)) dX3_putInPlace_51 ⟨Nat.le_of_ble_eq_true rfl, Nat.le_of_ble_eq_true rfl⟩) hS ?_
    clear hW hS; intro H locs hW hS
    refine lv_aload_n hx hb dX3_putInPlace_54 rfl (lv_at hl 0 rfl) ?_
    refine lv_dup hx hb dX3_putInPlace_55 rfl ?_
    refine g3_6 hx hb hts hi3_putInPlace_3 hown hK hW hme (hts (.fieldLink RX3 95 RX3 "standing" "I") (by decide +kernel)) dX3_putInPlace_56 ?_
    refine lv_iconst (v := (1 : Int32)) hx hb dX3_putInPlace_59 (by decide) ?_
    refine lv_iadd hx hb dX3_putInPlace_60 ?_
    replace hF := lt_ex hF
    obtain ⟨S11, eS11, hF⟩ := hF
    refine p3_6 hx hb hts hi3_putInPlace_3 hown hK hW hS hme eS11 (hts (.fieldLink RX3 95 RX3 "standing" "I") (by decide +kernel)) dX3_putInPlace_61 ?_
    clear hW hS; intro H locs hW hS
    obtain ⟨hq1, hq2⟩ := Prod.mk.inj (Option.some.inj hF)
    subst hq1
    subst hq2
    exact e_v hx hb hr hlk hK hN hW hS dX3_putInPlace_64
  clear eK43
  refine q_ifnonnull (tgt := 38) hx hb dX3_putInPlace_26 (by decide) (fun t12 hc => ?_) (fun hc => ?_)
  · subst hc
    replace hF := el_s hF
    have ht12 := hr4 t12 rfl
    replace hl : lv_has ls 6 [(5, .ref (ad 4 t12)), (0, .ref (ad 3 me)), (1, .ref (ad 4 a1)), (2, .int a2), (3, .int a3), (4, .int a4)] := hl
    refine lv_aload hx hb dX3_putInPlace_38 (lv_at hl 0 rfl) ?_
    replace hF := lt_ex hF
    obtain ⟨r15, er15, hF⟩ := hF
    have hr15 : ∀ y, r15 = some y → y < N 4 := hW.v er15
    refine gn4_15 hx hb hts hi3_putInPlace_4 hown hK hW ht12 er15 (nf_38 hN) dX3_putInPlace_40 ?_
    exact hK43 r15 _ _ _ hF hr15 hW hS (lv_sub hl [1, 2, 0] rfl)
  · subst hc
    replace hF := el_n hF
    replace hl : lv_has ls 6 [(5, .null), (0, .ref (ad 3 me)), (1, .ref (ad 4 a1)), (2, .int a2), (3, .int a3), (4, .int a4)] := hl
    refine lv_aload_n hx hb dX3_putInPlace_29 rfl (lv_at hl 1 rfl) ?_
    refine lv_iload_n hx hb dX3_putInPlace_30 rfl (lv_at hl 3 rfl) ?_
    refine lv_iload_n hx hb dX3_putInPlace_31 rfl (lv_at hl 4 rfl) ?_
    replace hF := ob hF
    obtain ⟨r13, q14, hF⟩ := hF
    refine k_q (va_runV (As := [.int a2, .int a3]) (rest := [.ref (ad 4 a1)]) ⟨hx, hb, hml, hown, hts⟩ (c3_nearestBow l me a2 a3 hme q14) (cwV 2 hts gX3_putInPlace_X3_nearestBow rfl rfl rfl (by decide +kernel) ⟨Nat.le_of_ble_eq_true rfl, Nat.le_of_ble_eq_true rfl⟩) (k_preV hW hK hN hme (EE_3 cA ad S3 P M me) rfl) rfl rfl hl.1 rfl (lv_room (Nat.le_of_ble_eq_true rfl)) dX3_putInPlace_32 ⟨Nat.le_of_ble_eq_true rfl, Nat.le_of_ble_eq_true rfl⟩) hS (fun H locs hW hS hr13 => ?_)
    refine lv_goto (tgt := 43) hx hb dX3_putInPlace_35 (by decide) ?_
    exact hK43 r13 _ _ _ hF hr13 hW hS (lv_sub hl [1, 2, 0] rfl)

set_option maxHeartbeats 4000000 in
set_option maxRecDepth 100000 in
theorem c3_putInPlace (l : Launch) {D : va_G} {cA : Nat → ClassId} {z : Nat} {ad : Nat → Nat → Nat} {N : TN} {S : TS} {P : TP} {M : TS} (me : Nat) (a1 : Nat) (a2 : Int32) (a3 : Int32) (a4 : Int32) (hme : me < N 3) (ha1 : a1 < N 4) {S' : TS} {P' : TP} (hF : f3_putInPlace S P me a1 a2 a3 a4 = some (S', P')) : Met l yX3_putInPlace wsX3_putInPlace rm3_putInPlace (va_Pc [.ref (ad 3 me), .ref (ad 4 a1), .int a2, .int a3, .int a4] (Wl D cA z (ad, N, S, P, M))) (Qv D cA z (ad, N, S', P', M)) 0 0 (fun q => z ≤ q) := by
  refine Met.ofW (cc := cX3_putInPlace) (maxL := 6) (ret := none) (by decide) rfl ?_
  intro p e s m args below meth c s₁ B hml hv
  obtain ⟨rfl, hW, hK, hN⟩ := hv
  have hl := lv_entry ([.ref (ad 3 me), .ref (ad 4 a1), .int a2, .int a3, .int a4]) (n := 6) (Nat.le_of_ble_eq_true rfl)
  rw [lg_entry_eq]
  generalize (lg_sl ([.ref (ad 3 me), .ref (ad 4 a1), .int a2, .int a3, .int a4]) ++ List.replicate (6 - (lg_sl ([.ref (ad 3 me), .ref (ad 4 a1), .int a2, .int a3, .int a4])).length) Slot.unset).toArray = ls at hl ⊢
  exact w3_putInPlace ⟨B.exec, B.bytes, B.returns, hml, findClass_of_methodNamed B.named, atoms_spec (ws := wsX3_putInPlace) B.pre, B.notSynchronized⟩ hK hN me a1 a2 a3 a4 hme ha1 hF hW va_S.rf hl

-- 3 placeByDeckRule
abbrev rm3_placeByDeckRule : Room := { frames := 4, cells := 0, slots := 0, locals := 92 }
def f3_placeByDeckRule_22 (K : Int32 → Int32 → Int32 → Option (Int32 × TS × TP)) (S : TS) (P : TP) (c0 : Nat) (c1 : Nat) (c5 : Int32) : Nat → Int32 → Int32 → Int32 → Int32 → Option (Int32 × TS × TP)
  | 0, _, _, _, _ => none
  | n + 1, y2, y3, y4, y6 =>
    if (S 302 c0) ≤ y6 then
    (K y2 y3 y4)
    else
    ((f3_freePlaces S P c0 c5 y6).bind fun (v1 : Int32) =>
    lt (fun (k3 : Int32) (k4 : Int32) => ((f3_mayStand S P c0 c5 k3 (S 403 c1)).bind fun (v5 : Int32) =>
    if v5 = 0 then
    (f3_placeByDeckRule_22 K S P c0 c1 c5 n y2 y3 y4 (k3 + 1))
    else
    ((f3_firstGap S P c0 c5 k3 (S 402 c1)).bind fun (v7 : Int32) =>
    if v7 = (-1 : Int32) then
    (f3_placeByDeckRule_22 K S P c0 c1 c5 n y2 y3 y4 (k3 + 1))
    else
    (f3_placeByDeckRule_22 K S P c0 c1 c5 n c5 k3 k4 (k3 + 1))))) fun (K53 : Int32 → Int32 → Option (Int32 × TS × TP)) =>
    if y2 = (-1 : Int32) then
    (K53 y6 v1)
    else
    (if y4 ≤ v1 then
    (f3_placeByDeckRule_22 K S P c0 c1 c5 n y2 y3 y4 (y6 + 1))
    else
    (K53 y6 v1)))

def f3_placeByDeckRule_10 (K : Int32 → Int32 → Option (Int32 × TS × TP)) (S : TS) (P : TP) (c0 : Nat) (c1 : Nat) : Nat → Int32 → Int32 → Int32 → Int32 → Option (Int32 × TS × TP)
  | 0, _, _, _, _ => none
  | n + 1, y2, y3, y4, y5 =>
    if (S 301 c0) ≤ y5 then
    (K y2 y3)
    else
    (f3_placeByDeckRule_22 (fun (w9 : Int32) (w10 : Int32) (w11 : Int32) =>
    f3_placeByDeckRule_10 K S P c0 c1 n w9 w10 w11 (y5 + 1)) S P c0 c1 y5 FU y2 y3 y4 (0 : Int32))

def f3_placeByDeckRule (S : TS) (P : TP) (me : Nat) (a1 : Nat) : Option (Int32 × TS × TP) :=
  f3_placeByDeckRule_10 (fun (w12 : Int32) (w13 : Int32) =>
  if w12 = (-1 : Int32) then
  (some ((0 : Int32), S, P))
  else
  ((f3_firstGap S P me w12 w13 (S 402 a1)).bind fun (v14 : Int32) =>
  b2 (f3_putInPlace S P me a1 w12 w13 v14) fun (S16 : TS) (P17 : TP) =>
  some ((1 : Int32), S16, P17))) S P me a1 FU (-1 : Int32) (-1 : Int32) (0 : Int32) (0 : Int32)
set_option maxRecDepth 20000 in
theorem hi3_placeByDeckRule_3 : ∀ w ∈ u_ws RX3 TX3 8, w ∈ wsX3_placeByDeckRule := by decide +kernel
set_option maxRecDepth 20000 in
theorem hi3_placeByDeckRule_4 : ∀ w ∈ u_ws RX4 TX4 16, w ∈ wsX3_placeByDeckRule := by decide +kernel
set_option maxHeartbeats 4000000 in
set_option maxRecDepth 100000 in
theorem w3_placeByDeckRule_22 {p : Program} {l : Launch} {e : Env} {s : State} {m : MethodId} {args : Array Value} {below : List Frame} {meth : Method} {c : Code} (C : MC p s m args meth c cX3_placeByDeckRule (some .boolean) 8 RX3 wsX3_placeByDeckRule) {D : va_G} {cA : Nat → ClassId} {z : Nat} {ad : Nat → Nat → Nat} {N : TN} (hK : va_K D vwCl (tysW cA) s) (hN : NW s) {M : TS} {S : TS} {P : TP} (c0 : Nat) (c1 : Nat) (c5 : Int32) (hc0 : c0 < N 3) (hc1 : c1 < N 4) {v : Int32} {S' : TS} {P' : TP} {K : Int32 → Int32 → Int32 → Option (Int32 × TS × TP)}
    (hE : ∀ (e2 : Int32) (e3 : Int32) (e4 : Int32) (H : Heap) (locs : List Loc) (ls : Array Slot), K e2 e3 e4 = some (v, S', P') → Wd D cA z ad N S P M H → va_S (fun q => z ≤ q) s.heap H locs → lv_has ls 8 [(0, .ref (ad 3 c0)), (1, .ref (ad 4 c1)), (2, .int e2), (3, .int e3), (4, .int e4), (5, .int c5)] → W p l e rm3_placeByDeckRule s m args below meth c H locs 0 0 (MQ below (Qi D cA z v (ad, N, S', P', M)) args s 0 0 (fun q => z ≤ q)) (F0 m 100 ls [])) :
    ∀ (n : Nat) (y2 : Int32) (y3 : Int32) (y4 : Int32) (y6 : Int32) (H : Heap) (locs : List Loc) (ls : Array Slot), f3_placeByDeckRule_22 K S P c0 c1 c5 n y2 y3 y4 y6 = some (v, S', P') → Wd D cA z ad N S P M H → va_S (fun q => z ≤ q) s.heap H locs → lv_has ls 8 [(0, .ref (ad 3 c0)), (1, .ref (ad 4 c1)), (2, .int y2), (3, .int y3), (4, .int y4), (5, .int c5), (6, .int y6)] → W p l e rm3_placeByDeckRule s m args below meth c H locs 0 0 (MQ below (Qi D cA z v (ad, N, S', P', M)) args s 0 0 (fun q => z ≤ q)) (F0 m 22 ls []) := by
  obtain ⟨hx, hb, hr, hml, hown, hts, hlk⟩ := id C
  intro n
  induction n with
  | zero => intro y2 y3 y4 y6 H locs ls hF; cases hF
  | succ n ih =>
    intro y2 y3 y4 y6 H locs ls hF hW hS hl
    rw [f3_placeByDeckRule_22] at hF
    refine lv_iload hx hb dX3_placeByDeckRule_22 (lv_at hl 6 rfl) ?_
    refine lv_aload_n hx hb dX3_placeByDeckRule_24 rfl (lv_at hl 0 rfl) ?_
    refine g3_2 hx hb hts hi3_placeByDeckRule_3 hown hK hW hc0 (hts (.fieldLink RX3 18 RX3 "lanes" "I") (by decide +kernel)) dX3_placeByDeckRule_25 ?_
    refine lv_icmp_ge (tgt := 100) hx hb dX3_placeByDeckRule_28 (by decide) (fun hc => ?_) (fun hc => ?_)
    · replace hF := it_t hF hc
      exact hE y2 y3 y4 _ _ _ hF hW hS (lv_sub hl [0, 1, 2, 3, 4, 5] rfl)
    · replace hF := it_f hF hc
      refine lv_aload_n hx hb dX3_placeByDeckRule_31 rfl (lv_at hl 0 rfl) ?_
      refine lv_iload hx hb dX3_placeByDeckRule_32 (lv_at hl 5 rfl) ?_
      refine lv_iload hx hb dX3_placeByDeckRule_34 (lv_at hl 6 rfl) ?_
      replace hF := ob hF
      obtain ⟨v1, q2, hF⟩ := hF
      refine k_i (va_runV (As := [.int c5, .int y6]) (rest := []) ⟨hx, hb, hml, hown, hts⟩ (c3_freePlaces l c0 c5 y6 hc0 q2) (cwV 2 hts gX3_placeByDeckRule_X3_freePlaces rfl rfl rfl (by decide +kernel) ⟨Nat.le_of_ble_eq_true rfl, Nat.le_of_ble_eq_true rfl⟩) (k_preV hW hK hN hc0 (EE_3 cA ad S P M c0) rfl) rfl rfl hl.1 rfl (lv_room (Nat.le_of_ble_eq_true rfl)) dX3_placeByDeckRule_36 ⟨Nat.le_of_ble_eq_true rfl, Nat.le_of_ble_eq_true rfl⟩) hS ?_
      clear hW hS; intro H locs hW hS
      refine lv_istore (lv' := [(7, .int v1), (0, .ref (ad 3 c0)), (1, .ref (ad 4 c1)), (2, .int y2), (3, .int y3), (4, .int y4), (5, .int c5), (6, .int y6)]) hx hb dX3_placeByDeckRule_39 hl (by decide) rfl ?_
      clear hl; intro ls hl
      refine lv_iload_n hx hb dX3_placeByDeckRule_41 rfl (lv_at hl 3 rfl) ?_
      refine lv_iconst (v := (-1 : Int32)) hx hb dX3_placeByDeckRule_42 (by decide) ?_
      replace hF := lt_ex hF
      obtain ⟨K53, eK53, hF⟩ := hF
      have hK53 : ∀ (k3 : Int32) (k4 : Int32) (H : Heap) (locs : List Loc) (ls : Array Slot), K53 k3 k4 = some (v, S', P') → Wd D cA z ad N S P M H → va_S (fun q => z ≤ q) s.heap H locs → lv_has ls 8 [(0, .ref (ad 3 c0)), (1, .ref (ad 4 c1)), (2, .int y2), (3, .int y3), (4, .int y4), (5, .int c5), (6, .int k3), (7, .int k4)] → W p l e rm3_placeByDeckRule s m args below meth c H locs 0 0 (MQ below (Qi D cA z v (ad, N, S', P', M)) args s 0 0 (fun q => z ≤ q)) (F0 m 53 ls []) := by
        intro k3 k4 H locs ls hF hW hS hl
        subst eK53
        refine lv_aload_n hx hb dX3_placeByDeckRule_53 rfl (lv_at hl 0 rfl) ?_
        refine lv_iload hx hb dX3_placeByDeckRule_54 (lv_at hl 5 rfl) ?_
        refine lv_iload hx hb dX3_placeByDeckRule_56 (lv_at hl 6 rfl) ?_
        refine lv_aload_n hx hb dX3_placeByDeckRule_58 rfl (lv_at hl 1 rfl) ?_
        refine gn4_3 hx hb hts hi3_placeByDeckRule_4 hown hK hW hc1 (nf_25 hN) dX3_placeByDeckRule_59 ?_
        replace hF := ob hF
        obtain ⟨v5, q6, hF⟩ := hF
        refine k_i (va_runV (As := [.int c5, .int k3, .int (S 403 c1)]) (rest := []) ⟨hx, hb, hml, hown, hts⟩ (c3_mayStand l c0 c5 k3 (S 403 c1) hc0 q6) (cwV 3 hts gX3_placeByDeckRule_X3_mayStand rfl rfl rfl (by decide +kernel) ⟨Nat.le_of_ble_eq_true rfl, Nat.le_of_ble_eq_true rfl⟩) (k_preV hW hK hN hc0 (EE_3 cA ad S P M c0) rfl) rfl rfl hl.1 rfl (lv_room (Nat.le_of_ble_eq_true rfl)) dX3_placeByDeckRule_62 ⟨Nat.le_of_ble_eq_true rfl, Nat.le_of_ble_eq_true rfl⟩) hS ?_
        clear hW hS; intro H locs hW hS
        refine lv_if_eq (tgt := 94) hx hb dX3_placeByDeckRule_65 (by decide) (fun hc => ?_) (fun hc => ?_)
        · replace hF := it_t hF hc
          refine lv_iinc (v := k3 + 1) (lv' := [(6, .int (k3 + 1)), (0, .ref (ad 3 c0)), (1, .ref (ad 4 c1)), (2, .int y2), (3, .int y3), (4, .int y4), (5, .int c5), (7, .int k4)]) hx hb dX3_placeByDeckRule_94 hl (k := 6) rfl rfl (by decide) rfl ?_
          clear hl; intro ls hl
          refine lv_goto (tgt := 22) hx hb dX3_placeByDeckRule_97 (by decide) ?_
          exact ih y2 y3 y4 (k3 + 1) _ _ _ hF hW hS (lv_sub hl [1, 2, 3, 4, 5, 6, 0] rfl)
        · replace hF := it_f hF hc
          refine lv_aload_n hx hb dX3_placeByDeckRule_68 rfl (lv_at hl 0 rfl) ?_
          refine lv_iload hx hb dX3_placeByDeckRule_69 (lv_at hl 5 rfl) ?_
          refine lv_iload hx hb dX3_placeByDeckRule_71 (lv_at hl 6 rfl) ?_
          refine lv_aload_n hx hb dX3_placeByDeckRule_73 rfl (lv_at hl 1 rfl) ?_
          refine gn4_2 hx hb hts hi3_placeByDeckRule_4 hown hK hW hc1 (nf_23 hN) dX3_placeByDeckRule_74 ?_
          replace hF := ob hF
          obtain ⟨v7, q8, hF⟩ := hF
          refine k_i (va_runV (As := [.int c5, .int k3, .int (S 402 c1)]) (rest := []) ⟨hx, hb, hml, hown, hts⟩ (c3_firstGap l c0 c5 k3 (S 402 c1) hc0 q8) (cwV 3 hts gX3_placeByDeckRule_X3_firstGap rfl rfl rfl (by decide +kernel) ⟨Nat.le_of_ble_eq_true rfl, Nat.le_of_ble_eq_true rfl⟩) (k_preV hW hK hN hc0 (EE_3 cA ad S P M c0) rfl) rfl rfl hl.1 rfl (lv_room (Nat.le_of_ble_eq_true rfl)) dX3_placeByDeckRule_77 ⟨Nat.le_of_ble_eq_true rfl, Nat.le_of_ble_eq_true rfl⟩) hS ?_
          clear hW hS; intro H locs hW hS
          refine lv_iconst (v := (-1 : Int32)) hx hb dX3_placeByDeckRule_80 (by decide) ?_
          refine lv_icmp_eq (tgt := 94) hx hb dX3_placeByDeckRule_81 (by decide) (fun hc => ?_) (fun hc => ?_)
          · replace hF := it_t hF hc
            refine lv_iinc (v := k3 + 1) (lv' := [(6, .int (k3 + 1)), (0, .ref (ad 3 c0)), (1, .ref (ad 4 c1)), (2, .int y2), (3, .int y3), (4, .int y4), (5, .int c5), (7, .int k4)]) hx hb dX3_placeByDeckRule_94 hl (k := 6) rfl rfl (by decide) rfl ?_
            clear hl; intro ls hl
            refine lv_goto (tgt := 22) hx hb dX3_placeByDeckRule_97 (by decide) ?_
            exact ih y2 y3 y4 (k3 + 1) _ _ _ hF hW hS (lv_sub hl [1, 2, 3, 4, 5, 6, 0] rfl)
          · replace hF := it_f hF hc
            refine lv_iload hx hb dX3_placeByDeckRule_84 (lv_at hl 5 rfl) ?_
            refine lv_istore_n (lv' := [(2, .int c5), (0, .ref (ad 3 c0)), (1, .ref (ad 4 c1)), (3, .int y3), (4, .int y4), (5, .int c5), (6, .int k3), (7, .int k4)]) hx hb dX3_placeByDeckRule_86 rfl hl (by decide) rfl ?_
            clear hl; intro ls hl
            refine lv_iload hx hb dX3_placeByDeckRule_87 (lv_at hl 6 rfl) ?_
            refine lv_istore_n (lv' := [(3, .int k3), (2, .int c5), (0, .ref (ad 3 c0)), (1, .ref (ad 4 c1)), (4, .int y4), (5, .int c5), (6, .int k3), (7, .int k4)]) hx hb dX3_placeByDeckRule_89 rfl hl (by decide) rfl ?_
            clear hl; intro ls hl
            refine lv_iload hx hb dX3_placeByDeckRule_90 (lv_at hl 7 rfl) ?_
            refine lv_istore (lv' := [(4, .int k4), (3, .int k3), (2, .int c5), (0, .ref (ad 3 c0)), (1, .ref (ad 4 c1)), (5, .int c5), (6, .int k3), (7, .int k4)]) hx hb dX3_placeByDeckRule_92 hl (by decide) rfl ?_
            clear hl; intro ls hl
            refine lv_iinc (v := k3 + 1) (lv' := [(6, .int (k3 + 1)), (4, .int k4), (3, .int k3), (2, .int c5), (0, .ref (ad 3 c0)), (1, .ref (ad 4 c1)), (5, .int c5), (7, .int k4)]) hx hb dX3_placeByDeckRule_94 hl (k := 6) rfl rfl (by decide) rfl ?_
            clear hl; intro ls hl
            refine lv_goto (tgt := 22) hx hb dX3_placeByDeckRule_97 (by decide) ?_
            exact ih c5 k3 k4 (k3 + 1) _ _ _ hF hW hS (lv_sub hl [4, 5, 3, 2, 1, 6, 0] rfl)
      clear eK53
      refine lv_icmp_eq (tgt := 53) hx hb dX3_placeByDeckRule_43 (by decide) (fun hc => ?_) (fun hc => ?_)
      · replace hF := it_t hF hc
        exact hK53 y6 v1 _ _ _ hF hW hS (lv_sub hl [1, 2, 3, 4, 5, 6, 7, 0] rfl)
      · replace hF := it_f hF hc
        refine lv_iload hx hb dX3_placeByDeckRule_46 (lv_at hl 0 rfl) ?_
        refine lv_iload hx hb dX3_placeByDeckRule_48 (lv_at hl 5 rfl) ?_
        refine lv_icmp_ge (tgt := 94) hx hb dX3_placeByDeckRule_50 (by decide) (fun hc => ?_) (fun hc => ?_)
        · replace hF := it_t hF hc
          refine lv_iinc (v := y6 + 1) (lv' := [(6, .int (y6 + 1)), (7, .int v1), (0, .ref (ad 3 c0)), (1, .ref (ad 4 c1)), (2, .int y2), (3, .int y3), (4, .int y4), (5, .int c5)]) hx hb dX3_placeByDeckRule_94 hl (k := 7) rfl rfl (by decide) rfl ?_
          clear hl; intro ls hl
          refine lv_goto (tgt := 22) hx hb dX3_placeByDeckRule_97 (by decide) ?_
          exact ih y2 y3 y4 (y6 + 1) _ _ _ hF hW hS (lv_sub hl [2, 3, 4, 5, 6, 7, 0] rfl)
        · replace hF := it_f hF hc
          exact hK53 y6 v1 _ _ _ hF hW hS (lv_sub hl [1, 2, 3, 4, 5, 6, 7, 0] rfl)

set_option maxHeartbeats 4000000 in
set_option maxRecDepth 100000 in
theorem w3_placeByDeckRule_10 {p : Program} {l : Launch} {e : Env} {s : State} {m : MethodId} {args : Array Value} {below : List Frame} {meth : Method} {c : Code} (C : MC p s m args meth c cX3_placeByDeckRule (some .boolean) 8 RX3 wsX3_placeByDeckRule) {D : va_G} {cA : Nat → ClassId} {z : Nat} {ad : Nat → Nat → Nat} {N : TN} (hK : va_K D vwCl (tysW cA) s) (hN : NW s) {M : TS} {S : TS} {P : TP} (c0 : Nat) (c1 : Nat) (hc0 : c0 < N 3) (hc1 : c1 < N 4) {v : Int32} {S' : TS} {P' : TP} {K : Int32 → Int32 → Option (Int32 × TS × TP)}
    (hE : ∀ (e2 : Int32) (e3 : Int32) (H : Heap) (locs : List Loc) (ls : Array Slot), K e2 e3 = some (v, S', P') → Wd D cA z ad N S P M H → va_S (fun q => z ≤ q) s.heap H locs → lv_has ls 8 [(0, .ref (ad 3 c0)), (1, .ref (ad 4 c1)), (2, .int e2), (3, .int e3)] → W p l e rm3_placeByDeckRule s m args below meth c H locs 0 0 (MQ below (Qi D cA z v (ad, N, S', P', M)) args s 0 0 (fun q => z ≤ q)) (F0 m 106 ls [])) :
    ∀ (n : Nat) (y2 : Int32) (y3 : Int32) (y4 : Int32) (y5 : Int32) (H : Heap) (locs : List Loc) (ls : Array Slot), f3_placeByDeckRule_10 K S P c0 c1 n y2 y3 y4 y5 = some (v, S', P') → Wd D cA z ad N S P M H → va_S (fun q => z ≤ q) s.heap H locs → lv_has ls 8 [(0, .ref (ad 3 c0)), (1, .ref (ad 4 c1)), (2, .int y2), (3, .int y3), (4, .int y4), (5, .int y5)] → W p l e rm3_placeByDeckRule s m args below meth c H locs 0 0 (MQ below (Qi D cA z v (ad, N, S', P', M)) args s 0 0 (fun q => z ≤ q)) (F0 m 10 ls []) := by
  obtain ⟨hx, hb, hr, hml, hown, hts, hlk⟩ := id C
  intro n
  induction n with
  | zero => intro y2 y3 y4 y5 H locs ls hF; cases hF
  | succ n ih =>
    intro y2 y3 y4 y5 H locs ls hF hW hS hl
    rw [f3_placeByDeckRule_10] at hF
    refine lv_iload hx hb dX3_placeByDeckRule_10 (lv_at hl 5 rfl) ?_
    refine lv_aload_n hx hb dX3_placeByDeckRule_12 rfl (lv_at hl 0 rfl) ?_
    refine g3_1 hx hb hts hi3_placeByDeckRule_3 hown hK hW hc0 (hts (.fieldLink RX3 15 RX3 "decks" "I") (by decide +kernel)) dX3_placeByDeckRule_13 ?_
    refine lv_icmp_ge (tgt := 106) hx hb dX3_placeByDeckRule_16 (by decide) (fun hc => ?_) (fun hc => ?_)
    · replace hF := it_t hF hc
      exact hE y2 y3 _ _ _ hF hW hS (lv_sub hl [0, 1, 2, 3] rfl)
    · replace hF := it_f hF hc
      refine lv_iconst (v := (0 : Int32)) hx hb dX3_placeByDeckRule_19 (by decide) ?_
      refine lv_istore (lv' := [(6, .int (0 : Int32)), (0, .ref (ad 3 c0)), (1, .ref (ad 4 c1)), (2, .int y2), (3, .int y3), (4, .int y4), (5, .int y5)]) hx hb dX3_placeByDeckRule_20 hl (by decide) rfl ?_
      clear hl; intro ls hl
      refine w3_placeByDeckRule_22 C hK hN c0 c1 y5 hc0 hc1 (hE := ?_) FU y2 y3 y4 (0 : Int32) _ _ _ hF hW hS (lv_sub hl [1, 2, 3, 4, 5, 6, 0] rfl)
      intro w9 w10 w11 H locs ls hF hW hS hl
      refine lv_iinc (v := y5 + 1) (lv' := [(5, .int (y5 + 1)), (0, .ref (ad 3 c0)), (1, .ref (ad 4 c1)), (2, .int w9), (3, .int w10), (4, .int w11)]) hx hb dX3_placeByDeckRule_100 hl (k := 5) rfl rfl (by decide) rfl ?_
      clear hl; intro ls hl
      refine lv_goto (tgt := 10) hx hb dX3_placeByDeckRule_103 (by decide) ?_
      exact ih w9 w10 w11 (y5 + 1) _ _ _ hF hW hS (lv_sub hl [1, 2, 3, 4, 5, 0] rfl)

set_option maxHeartbeats 4000000 in
set_option maxRecDepth 100000 in
theorem w3_placeByDeckRule {p : Program} {l : Launch} {e : Env} {s : State} {m : MethodId} {args : Array Value} {below : List Frame} {meth : Method} {c : Code} (C : MC p s m args meth c cX3_placeByDeckRule (some .boolean) 8 RX3 wsX3_placeByDeckRule) {D : va_G} {cA : Nat → ClassId} {z : Nat} {ad : Nat → Nat → Nat} {N : TN} (hK : va_K D vwCl (tysW cA) s) (hN : NW s) {S : TS} {P : TP} {M : TS} (me : Nat) (a1 : Nat) (hme : me < N 3) (ha1 : a1 < N 4) {v : Int32} {S' : TS} {P' : TP} (hF : f3_placeByDeckRule S P me a1 = some (v, S', P'))
    {H : Heap} {ls : Array Slot} (hW : Wd D cA z ad N S P M H) {locs : List Loc} (hS : va_S (fun q => z ≤ q) s.heap H locs) (hl : lv_has ls 8 [(0, .ref (ad 3 me)), (1, .ref (ad 4 a1))]) : W p l e rm3_placeByDeckRule s m args below meth c H locs 0 0 (MQ below (Qi D cA z v (ad, N, S', P', M)) args s 0 0 (fun q => z ≤ q)) (F0 m 0 ls []) := by
  obtain ⟨hx, hb, hr, hml, hown, hts, hlk⟩ := id C
  unfold f3_placeByDeckRule at hF
  refine lv_iconst (v := (-1 : Int32)) hx hb dX3_placeByDeckRule_0 (by decide) ?_
  refine lv_istore_n (lv' := [(2, .int (-1 : Int32)), (0, .ref (ad 3 me)), (1, .ref (ad 4 a1))]) hx hb dX3_placeByDeckRule_1 rfl hl (by decide) rfl ?_
  clear hl; intro ls hl
  refine lv_iconst (v := (-1 : Int32)) hx hb dX3_placeByDeckRule_2 (by decide) ?_
  refine lv_istore_n (lv' := [(3, .int (-1 : Int32)), (2, .int (-1 : Int32)), (0, .ref (ad 3 me)), (1, .ref (ad 4 a1))]) hx hb dX3_placeByDeckRule_3 rfl hl (by decide) rfl ?_
  clear hl; intro ls hl
  refine lv_iconst (v := (0 : Int32)) hx hb dX3_placeByDeckRule_4 (by decide) ?_
  refine lv_istore (lv' := [(4, .int (0 : Int32)), (3, .int (-1 : Int32)), (2, .int (-1 : Int32)), (0, .ref (ad 3 me)), (1, .ref (ad 4 a1))]) hx hb dX3_placeByDeckRule_5 hl (by decide) rfl ?_
  clear hl; intro ls hl
  refine lv_iconst (v := (0 : Int32)) hx hb dX3_placeByDeckRule_7 (by decide) ?_
  refine lv_istore (lv' := [(5, .int (0 : Int32)), (4, .int (0 : Int32)), (3, .int (-1 : Int32)), (2, .int (-1 : Int32)), (0, .ref (ad 3 me)), (1, .ref (ad 4 a1))]) hx hb dX3_placeByDeckRule_8 hl (by decide) rfl ?_
  clear hl; intro ls hl
  refine w3_placeByDeckRule_10 C hK hN me a1 hme ha1 (hE := ?_) FU (-1 : Int32) (-1 : Int32) (0 : Int32) (0 : Int32) _ _ _ hF hW hS (lv_sub hl [4, 5, 3, 2, 1, 0] rfl)
  intro w12 w13 H locs ls hF hW hS hl
  refine lv_iload_n hx hb dX3_placeByDeckRule_106 rfl (lv_at hl 2 rfl) ?_
  refine lv_iconst (v := (-1 : Int32)) hx hb dX3_placeByDeckRule_107 (by decide) ?_
  refine lv_icmp_ne (tgt := 113) hx hb dX3_placeByDeckRule_108 (by decide) (fun hc => ?_) (fun hc => ?_)
  · replace hF := it_f hF hc
    refine lv_aload_n hx hb dX3_placeByDeckRule_113 rfl (lv_at hl 0 rfl) ?_
    refine lv_aload_n hx hb dX3_placeByDeckRule_114 rfl (lv_at hl 1 rfl) ?_
    refine lv_iload_n hx hb dX3_placeByDeckRule_115 rfl (lv_at hl 2 rfl) ?_
    refine lv_iload_n hx hb dX3_placeByDeckRule_116 rfl (lv_at hl 3 rfl) ?_
    refine lv_aload_n hx hb dX3_placeByDeckRule_117 rfl (lv_at hl 0 rfl) ?_
    refine lv_iload_n hx hb dX3_placeByDeckRule_118 rfl (lv_at hl 2 rfl) ?_
    refine lv_iload_n hx hb dX3_placeByDeckRule_119 rfl (lv_at hl 3 rfl) ?_
    refine lv_aload_n hx hb dX3_placeByDeckRule_120 rfl (lv_at hl 1 rfl) ?_
    refine gn4_2 hx hb hts hi3_placeByDeckRule_4 hown hK hW ha1 (nf_23 hN) dX3_placeByDeckRule_121 ?_
    replace hF := ob hF
    obtain ⟨v14, q15, hF⟩ := hF
    refine k_i (va_runV (As := [.int w12, .int w13, .int (S 402 a1)]) (rest := [.int w13, .int w12, .ref (ad 4 a1), .ref (ad 3 me)]) ⟨hx, hb, hml, hown, hts⟩ (c3_firstGap l me w12 w13 (S 402 a1) hme q15) (cwV 3 hts gX3_placeByDeckRule_X3_firstGap rfl rfl rfl (by decide +kernel) ⟨Nat.le_of_ble_eq_true rfl, Nat.le_of_ble_eq_true rfl⟩) (k_preV hW hK hN hme (EE_3 cA ad S P M me) rfl) rfl rfl hl.1 rfl (lv_room (Nat.le_of_ble_eq_true rfl)) dX3_placeByDeckRule_124 ⟨Nat.le_of_ble_eq_true rfl, Nat.le_of_ble_eq_true rfl⟩) hS ?_
    clear hW hS; intro H locs hW hS
    replace hF := ob2 hF
    obtain ⟨S16, P17, q18, hF⟩ := hF
    refine k_v (va_runV (As := [.ref (ad 4 a1), .int w12, .int w13, .int v14]) (rest := []) ⟨hx, hb, hml, hown, hts⟩ (c3_putInPlace l me a1 w12 w13 v14 hme ha1 q18) (cwV 4 hts gX3_placeByDeckRule_X3_putInPlace rfl rfl rfl (by decide +kernel) ⟨Nat.le_of_ble_eq_true rfl, Nat.le_of_ble_eq_true rfl⟩) (k_preV hW hK hN hme (EE_3 cA ad S P M me) rfl) rfl rfl hl.1 rfl (lv_room (Nat.le_of_ble_eq_true rfl)) dX3_placeByDeckRule_127 ⟨Nat.le_of_ble_eq_true rfl, Nat.le_of_ble_eq_true rfl⟩) hS ?_
    clear hW hS; intro H locs hW hS
    refine lv_iconst (v := (1 : Int32)) hx hb dX3_placeByDeckRule_130 (by decide) ?_
    obtain ⟨hq1, hq2⟩ := Prod.mk.inj (Option.some.inj hF)
    obtain ⟨hq2, hq3⟩ := Prod.mk.inj hq2
    subst hq1
    subst hq2
    subst hq3
    exact e_z hx hb hr hlk hK hN hW hS (by decide) dX3_placeByDeckRule_131
  · replace hF := it_t hF hc
    refine lv_iconst (v := (0 : Int32)) hx hb dX3_placeByDeckRule_111 (by decide) ?_
    obtain ⟨hq1, hq2⟩ := Prod.mk.inj (Option.some.inj hF)
    obtain ⟨hq2, hq3⟩ := Prod.mk.inj hq2
    subst hq1
    subst hq2
    subst hq3
    exact e_z hx hb hr hlk hK hN hW hS (by decide) dX3_placeByDeckRule_112

set_option maxHeartbeats 4000000 in
set_option maxRecDepth 100000 in
theorem c3_placeByDeckRule (l : Launch) {D : va_G} {cA : Nat → ClassId} {z : Nat} {ad : Nat → Nat → Nat} {N : TN} {S : TS} {P : TP} {M : TS} (me : Nat) (a1 : Nat) (hme : me < N 3) (ha1 : a1 < N 4) {v : Int32} {S' : TS} {P' : TP} (hF : f3_placeByDeckRule S P me a1 = some (v, S', P')) : Met l yX3_placeByDeckRule wsX3_placeByDeckRule rm3_placeByDeckRule (va_Pc [.ref (ad 3 me), .ref (ad 4 a1)] (Wl D cA z (ad, N, S, P, M))) (Qi D cA z v (ad, N, S', P', M)) 0 0 (fun q => z ≤ q) := by
  refine Met.ofW (cc := cX3_placeByDeckRule) (maxL := 8) (ret := (some .boolean)) (by decide) rfl ?_
  intro p e s m args below meth c s₁ B hml hv
  obtain ⟨rfl, hW, hK, hN⟩ := hv
  have hl := lv_entry ([.ref (ad 3 me), .ref (ad 4 a1)]) (n := 8) (Nat.le_of_ble_eq_true rfl)
  rw [lg_entry_eq]
  generalize (lg_sl ([.ref (ad 3 me), .ref (ad 4 a1)]) ++ List.replicate (8 - (lg_sl ([.ref (ad 3 me), .ref (ad 4 a1)])).length) Slot.unset).toArray = ls at hl ⊢
  exact w3_placeByDeckRule ⟨B.exec, B.bytes, B.returns, hml, findClass_of_methodNamed B.named, atoms_spec (ws := wsX3_placeByDeckRule) B.pre, B.notSynchronized⟩ hK hN me a1 hme ha1 hF hW va_S.rf hl

-- 4 isLate
abbrev rm4_isLate : Room := { frames := 0, cells := 0, slots := 0, locals := 0 }
def f4_isLate (S : TS) (P : TP) (me : Nat) : Option (Int32) :=
  lt (P 401 me 0) fun (r1 : Option Nat) =>
  r1.bind fun (t2 : Nat) =>
  if (S 407 me) ≤ ((S 202 t2) - (30 : Int32)) then
  (some (0 : Int32))
  else
  (some (1 : Int32))
set_option maxRecDepth 20000 in
theorem hi4_isLate_2 : ∀ w ∈ u_ws RX2 TX2 9, w ∈ wsX4_isLate := by decide +kernel
set_option maxRecDepth 20000 in
theorem hi4_isLate_4 : ∀ w ∈ u_ws RX4 TX4 16, w ∈ wsX4_isLate := by decide +kernel
set_option maxHeartbeats 4000000 in
set_option maxRecDepth 100000 in
theorem w4_isLate {p : Program} {l : Launch} {e : Env} {s : State} {m : MethodId} {args : Array Value} {below : List Frame} {meth : Method} {c : Code} (C : MC p s m args meth c cX4_isLate (some .boolean) 1 RX4 wsX4_isLate) {D : va_G} {cA : Nat → ClassId} {z : Nat} {ad : Nat → Nat → Nat} {N : TN} (hK : va_K D vwCl (tysW cA) s) (hN : NW s) {S : TS} {P : TP} {M : TS} (me : Nat) (hme : me < N 4) {v : Int32} (hF : f4_isLate S P me = some v)
    {H : Heap} {ls : Array Slot} (hW : Wd D cA z ad N S P M H) {locs : List Loc} (hS : va_S (fun q => z ≤ q) s.heap H locs) (hl : lv_has ls 1 [(0, .ref (ad 4 me))]) : W p l e rm4_isLate s m args below meth c H locs 0 0 (MQ below (Qi D cA z v (ad, N, S, P, M)) args s 0 0 (fun q => z ≤ q)) (F0 m 0 ls []) := by
  obtain ⟨hx, hb, hr, hml, hown, hts, hlk⟩ := id C
  unfold f4_isLate at hF
  refine lv_aload_n hx hb dX4_isLate_0 rfl (lv_at hl 0 rfl) ?_
  refine g4_7 hx hb hts hi4_isLate_4 hown hK hW hme (hts (.fieldLink RX4 15 RX4 "minute" "I") (by decide +kernel)) dX4_isLate_1 ?_
  refine lv_aload_n hx hb dX4_isLate_4 rfl (lv_at hl 0 rfl) ?_
  replace hF := lt_ex hF
  obtain ⟨r1, er1, hF⟩ := hF
  have hr1 : ∀ y, r1 = some y → y < N 2 := hW.v er1
  refine g4_1 hx hb hts hi4_isLate_4 hown hK hW hme er1 (hts (.fieldLink RX4 33 RX4 "trip" "LFerryTerminal$Sailing;") (by decide +kernel)) dX4_isLate_5 ?_
  replace hF := ob hF
  obtain ⟨t2, et2, hF⟩ := hF
  subst et2
  have ht2 := hr1 t2 rfl
  refine gn2_2 hx hb hts hi4_isLate_2 hown hK hW ht2 (nf_13 hN) dX4_isLate_8 ?_
  refine lv_bipush (v := (30 : Int32)) hx hb dX4_isLate_11 (by decide) ?_
  refine lv_isub hx hb dX4_isLate_13 ?_
  refine lv_icmp_le (tgt := 21) hx hb dX4_isLate_14 (by decide) (fun hc => ?_) (fun hc => ?_)
  · replace hF := it_t hF hc
    refine lv_iconst (v := (0 : Int32)) hx hb dX4_isLate_21 (by decide) ?_
    have hq1 := Option.some.inj hF
    subst hq1
    exact e_z hx hb hr hlk hK hN hW hS (by decide) dX4_isLate_22
  · replace hF := it_f hF hc
    refine lv_iconst (v := (1 : Int32)) hx hb dX4_isLate_17 (by decide) ?_
    refine lv_goto (tgt := 22) hx hb dX4_isLate_18 (by decide) ?_
    have hq1 := Option.some.inj hF
    subst hq1
    exact e_z hx hb hr hlk hK hN hW hS (by decide) dX4_isLate_22

set_option maxHeartbeats 4000000 in
set_option maxRecDepth 100000 in
theorem c4_isLate (l : Launch) {D : va_G} {cA : Nat → ClassId} {z : Nat} {ad : Nat → Nat → Nat} {N : TN} {S : TS} {P : TP} {M : TS} (me : Nat) (hme : me < N 4) {v : Int32} (hF : f4_isLate S P me = some v) : Met l yX4_isLate wsX4_isLate rm4_isLate (va_Pc [.ref (ad 4 me)] (Wl D cA z (ad, N, S, P, M))) (Qi D cA z v (ad, N, S, P, M)) 0 0 (fun q => z ≤ q) := by
  refine Met.ofW (cc := cX4_isLate) (maxL := 1) (ret := (some .boolean)) (by decide) rfl ?_
  intro p e s m args below meth c s₁ B hml hv
  obtain ⟨rfl, hW, hK, hN⟩ := hv
  have hl := lv_entry ([.ref (ad 4 me)]) (n := 1) (Nat.le_of_ble_eq_true rfl)
  rw [lg_entry_eq]
  generalize (lg_sl ([.ref (ad 4 me)]) ++ List.replicate (1 - (lg_sl ([.ref (ad 4 me)])).length) Slot.unset).toArray = ls at hl ⊢
  exact w4_isLate ⟨B.exec, B.bytes, B.returns, hml, findClass_of_methodNamed B.named, atoms_spec (ws := wsX4_isLate) B.pre, B.notSynchronized⟩ hK hN me hme hF hW va_S.rf hl

-- 4 boardsAheadOf
abbrev rm4_boardsAheadOf : Room := { frames := 1, cells := 0, slots := 0, locals := 20 }
def f4_boardsAheadOf (S : TS) (P : TP) (me : Nat) (a1 : Nat) : Option (Int32) :=
  (f4_isLate S P me).bind fun (v1 : Int32) =>
  (f4_isLate S P a1).bind fun (v3 : Int32) =>
  if v1 = v3 then
  (if (S 403 me) = (S 403 a1) then
  (if (S 400 a1) ≤ (S 400 me) then
  (some (0 : Int32))
  else
  (some (1 : Int32)))
  else
  (if (S 403 me) ≤ (S 403 a1) then
  (some (0 : Int32))
  else
  (some (1 : Int32))))
  else
  ((f4_isLate S P a1).bind fun (v5 : Int32) =>
  if v5 = 0 ∨ v5 = 1 then some v5 else none)
set_option maxRecDepth 20000 in
theorem hi4_boardsAheadOf_4 : ∀ w ∈ u_ws RX4 TX4 16, w ∈ wsX4_boardsAheadOf := by decide +kernel
set_option maxHeartbeats 4000000 in
set_option maxRecDepth 100000 in
theorem w4_boardsAheadOf {p : Program} {l : Launch} {e : Env} {s : State} {m : MethodId} {args : Array Value} {below : List Frame} {meth : Method} {c : Code} (C : MC p s m args meth c cX4_boardsAheadOf (some .boolean) 2 RX4 wsX4_boardsAheadOf) {D : va_G} {cA : Nat → ClassId} {z : Nat} {ad : Nat → Nat → Nat} {N : TN} (hK : va_K D vwCl (tysW cA) s) (hN : NW s) {S : TS} {P : TP} {M : TS} (me : Nat) (a1 : Nat) (hme : me < N 4) (ha1 : a1 < N 4) {v : Int32} (hF : f4_boardsAheadOf S P me a1 = some v)
    {H : Heap} {ls : Array Slot} (hW : Wd D cA z ad N S P M H) {locs : List Loc} (hS : va_S (fun q => z ≤ q) s.heap H locs) (hl : lv_has ls 2 [(0, .ref (ad 4 me)), (1, .ref (ad 4 a1))]) : W p l e rm4_boardsAheadOf s m args below meth c H locs 0 0 (MQ below (Qi D cA z v (ad, N, S, P, M)) args s 0 0 (fun q => z ≤ q)) (F0 m 0 ls []) := by
  obtain ⟨hx, hb, hr, hml, hown, hts, hlk⟩ := id C
  unfold f4_boardsAheadOf at hF
  refine lv_aload_n hx hb dX4_boardsAheadOf_0 rfl (lv_at hl 0 rfl) ?_
  replace hF := ob hF
  obtain ⟨v1, q2, hF⟩ := hF
  refine k_i (va_runV (As := []) (rest := []) ⟨hx, hb, hml, hown, hts⟩ (c4_isLate l me hme q2) (cwV 0 hts gX4_boardsAheadOf_X4_isLate rfl rfl rfl (by decide +kernel) ⟨Nat.le_of_ble_eq_true rfl, Nat.le_of_ble_eq_true rfl⟩) (k_preV hW hK hN hme (EE_4 cA ad S P M me) rfl) rfl rfl hl.1 rfl (lv_room (Nat.le_of_ble_eq_true rfl)) dX4_boardsAheadOf_1 ⟨Nat.le_of_ble_eq_true rfl, Nat.le_of_ble_eq_true rfl⟩) hS ?_
  clear hW hS; intro H locs hW hS
  refine lv_aload_n hx hb dX4_boardsAheadOf_4 rfl (lv_at hl 1 rfl) ?_
  replace hF := ob hF
  obtain ⟨v3, q4, hF⟩ := hF
  refine k_i (va_runV (As := []) (rest := [.int v1]) ⟨hx, hb, hml, hown, hts⟩ (c4_isLate l a1 ha1 q4) (cwV 0 hts gX4_boardsAheadOf_X4_isLate rfl rfl rfl (by decide +kernel) ⟨Nat.le_of_ble_eq_true rfl, Nat.le_of_ble_eq_true rfl⟩) (k_preV hW hK hN ha1 (EE_4 cA ad S P M a1) rfl) rfl rfl hl.1 rfl (lv_room (Nat.le_of_ble_eq_true rfl)) dX4_boardsAheadOf_5 ⟨Nat.le_of_ble_eq_true rfl, Nat.le_of_ble_eq_true rfl⟩) hS ?_
  clear hW hS; intro H locs hW hS
  refine lv_icmp_eq (tgt := 16) hx hb dX4_boardsAheadOf_8 (by decide) (fun hc => ?_) (fun hc => ?_)
  · replace hF := it_t hF hc
    refine lv_aload_n hx hb dX4_boardsAheadOf_16 rfl (lv_at hl 0 rfl) ?_
    refine g4_3 hx hb hts hi4_boardsAheadOf_4 hown hK hW hme (hts (.fieldLink RX4 40 RX4 "height" "I") (by decide +kernel)) dX4_boardsAheadOf_17 ?_
    refine lv_aload_n hx hb dX4_boardsAheadOf_20 rfl (lv_at hl 1 rfl) ?_
    refine g4_3 hx hb hts hi4_boardsAheadOf_4 hown hK hW ha1 (hts (.fieldLink RX4 40 RX4 "height" "I") (by decide +kernel)) dX4_boardsAheadOf_21 ?_
    refine lv_icmp_ne (tgt := 46) hx hb dX4_boardsAheadOf_24 (by decide) (fun hc => ?_) (fun hc => ?_)
    · replace hF := it_f hF hc
      refine lv_aload_n hx hb dX4_boardsAheadOf_46 rfl (lv_at hl 0 rfl) ?_
      refine g4_3 hx hb hts hi4_boardsAheadOf_4 hown hK hW hme (hts (.fieldLink RX4 40 RX4 "height" "I") (by decide +kernel)) dX4_boardsAheadOf_47 ?_
      refine lv_aload_n hx hb dX4_boardsAheadOf_50 rfl (lv_at hl 1 rfl) ?_
      refine g4_3 hx hb hts hi4_boardsAheadOf_4 hown hK hW ha1 (hts (.fieldLink RX4 40 RX4 "height" "I") (by decide +kernel)) dX4_boardsAheadOf_51 ?_
      refine lv_icmp_le (tgt := 61) hx hb dX4_boardsAheadOf_54 (by decide) (fun hc => ?_) (fun hc => ?_)
      · replace hF := it_t hF hc
        refine lv_iconst (v := (0 : Int32)) hx hb dX4_boardsAheadOf_61 (by decide) ?_
        have hq1 := Option.some.inj hF
        subst hq1
        exact e_z hx hb hr hlk hK hN hW hS (by decide) dX4_boardsAheadOf_62
      · replace hF := it_f hF hc
        refine lv_iconst (v := (1 : Int32)) hx hb dX4_boardsAheadOf_57 (by decide) ?_
        refine lv_goto (tgt := 62) hx hb dX4_boardsAheadOf_58 (by decide) ?_
        have hq1 := Option.some.inj hF
        subst hq1
        exact e_z hx hb hr hlk hK hN hW hS (by decide) dX4_boardsAheadOf_62
    · replace hF := it_t hF hc
      refine lv_aload_n hx hb dX4_boardsAheadOf_27 rfl (lv_at hl 0 rfl) ?_
      refine g4_0 hx hb hts hi4_boardsAheadOf_4 hown hK hW hme (hts (.fieldLink RX4 30 RX4 "number" "I") (by decide +kernel)) dX4_boardsAheadOf_28 ?_
      refine lv_aload_n hx hb dX4_boardsAheadOf_31 rfl (lv_at hl 1 rfl) ?_
      refine g4_0 hx hb hts hi4_boardsAheadOf_4 hown hK hW ha1 (hts (.fieldLink RX4 30 RX4 "number" "I") (by decide +kernel)) dX4_boardsAheadOf_32 ?_
      refine lv_icmp_ge (tgt := 42) hx hb dX4_boardsAheadOf_35 (by decide) (fun hc => ?_) (fun hc => ?_)
      · replace hF := it_t hF hc
        refine lv_iconst (v := (0 : Int32)) hx hb dX4_boardsAheadOf_42 (by decide) ?_
        refine lv_goto (tgt := 62) hx hb dX4_boardsAheadOf_43 (by decide) ?_
        have hq1 := Option.some.inj hF
        subst hq1
        exact e_z hx hb hr hlk hK hN hW hS (by decide) dX4_boardsAheadOf_62
      · replace hF := it_f hF hc
        refine lv_iconst (v := (1 : Int32)) hx hb dX4_boardsAheadOf_38 (by decide) ?_
        refine lv_goto (tgt := 62) hx hb dX4_boardsAheadOf_39 (by decide) ?_
        have hq1 := Option.some.inj hF
        subst hq1
        exact e_z hx hb hr hlk hK hN hW hS (by decide) dX4_boardsAheadOf_62
  · replace hF := it_f hF hc
    refine lv_aload_n hx hb dX4_boardsAheadOf_11 rfl (lv_at hl 1 rfl) ?_
    replace hF := ob hF
    obtain ⟨v5, q6, hF⟩ := hF
    refine k_i (va_runV (As := []) (rest := []) ⟨hx, hb, hml, hown, hts⟩ (c4_isLate l a1 ha1 q6) (cwV 0 hts gX4_boardsAheadOf_X4_isLate rfl rfl rfl (by decide +kernel) ⟨Nat.le_of_ble_eq_true rfl, Nat.le_of_ble_eq_true rfl⟩) (k_preV hW hK hN ha1 (EE_4 cA ad S P M a1) rfl) rfl rfl hl.1 rfl (lv_room (Nat.le_of_ble_eq_true rfl)) dX4_boardsAheadOf_12 ⟨Nat.le_of_ble_eq_true rfl, Nat.le_of_ble_eq_true rfl⟩) hS ?_
    clear hW hS; intro H locs hW hS
    replace hF := it_ok hF
    obtain ⟨hz7, hF⟩ := hF
    have hq1 := Option.some.inj hF
    subst hq1
    exact e_z hx hb hr hlk hK hN hW hS hz7 dX4_boardsAheadOf_15

set_option maxHeartbeats 4000000 in
set_option maxRecDepth 100000 in
theorem c4_boardsAheadOf (l : Launch) {D : va_G} {cA : Nat → ClassId} {z : Nat} {ad : Nat → Nat → Nat} {N : TN} {S : TS} {P : TP} {M : TS} (me : Nat) (a1 : Nat) (hme : me < N 4) (ha1 : a1 < N 4) {v : Int32} (hF : f4_boardsAheadOf S P me a1 = some v) : Met l yX4_boardsAheadOf wsX4_boardsAheadOf rm4_boardsAheadOf (va_Pc [.ref (ad 4 me), .ref (ad 4 a1)] (Wl D cA z (ad, N, S, P, M))) (Qi D cA z v (ad, N, S, P, M)) 0 0 (fun q => z ≤ q) := by
  refine Met.ofW (cc := cX4_boardsAheadOf) (maxL := 2) (ret := (some .boolean)) (by decide) rfl ?_
  intro p e s m args below meth c s₁ B hml hv
  obtain ⟨rfl, hW, hK, hN⟩ := hv
  have hl := lv_entry ([.ref (ad 4 me), .ref (ad 4 a1)]) (n := 2) (Nat.le_of_ble_eq_true rfl)
  rw [lg_entry_eq]
  generalize (lg_sl ([.ref (ad 4 me), .ref (ad 4 a1)]) ++ List.replicate (2 - (lg_sl ([.ref (ad 4 me), .ref (ad 4 a1)])).length) Slot.unset).toArray = ls at hl ⊢
  exact w4_boardsAheadOf ⟨B.exec, B.bytes, B.returns, hml, findClass_of_methodNamed B.named, atoms_spec (ws := wsX4_boardsAheadOf) B.pre, B.notSynchronized⟩ hK hN me a1 hme ha1 hF hW va_S.rf hl

-- 4 init
abbrev rm4_init : Room := { frames := 1, cells := 0, slots := 0, locals := 20 }
def f4_init (S : TS) (P : TP) (me : Nat) (a1 : Int32) (a2 : Nat) (a3 : Int32) (a4 : Int32) (a5 : Int32) (a6 : Int32) : Option (TS × TP) :=
  lt (up S 406 me (0 : Int32)) fun (S1 : TS) =>
  lt (up S1 407 me (-1 : Int32)) fun (S2 : TS) =>
  lt (up S2 408 me (-1 : Int32)) fun (S3 : TS) =>
  lt (up S3 409 me (-1 : Int32)) fun (S4 : TS) =>
  lt (up S4 410 me (-1 : Int32)) fun (S5 : TS) =>
  lt (up S5 411 me (-1 : Int32)) fun (S6 : TS) =>
  lt (up S6 400 me a1) fun (S7 : TS) =>
  lt (up3 P 401 me 0 (some a2)) fun (P8 : TP) =>
  lt (up S7 402 me a3) fun (S9 : TS) =>
  lt (up S9 403 me a4) fun (S10 : TS) =>
  lt (up S10 404 me a5) fun (S11 : TS) =>
  lt (up S11 405 me a6) fun (S12 : TS) =>
  some (S12, P8)
set_option maxRecDepth 20000 in
theorem hi4_init_4 : ∀ w ∈ u_ws RX4 TX4 16, w ∈ wsX4_init := by decide +kernel
set_option maxHeartbeats 4000000 in
set_option maxRecDepth 100000 in
theorem w4_init {p : Program} {l : Launch} {e : Env} {s : State} {m : MethodId} {args : Array Value} {below : List Frame} {meth : Method} {c : Code} (C : MC p s m args meth c cX4_init none 7 RX4 wsX4_init) {D : va_G} {cA : Nat → ClassId} {z : Nat} {ad : Nat → Nat → Nat} {N : TN} (hK : va_K D vwCl (tysW cA) s) (hN : NW s) {S : TS} {P : TP} {M : TS} (me : Nat) (a1 : Int32) (a2 : Nat) (a3 : Int32) (a4 : Int32) (a5 : Int32) (a6 : Int32) (hme : me < N 4) (ha2 : a2 < N 2) {S' : TS} {P' : TP} (hini : meth.name = "<init>") (hF : f4_init S P me a1 a2 a3 a4 a5 a6 = some (S', P'))
    {H : Heap} {ls : Array Slot} (hW : Wd D cA z ad N S P M H) {locs : List Loc} (hS : va_S (fun q => z ≤ q) s.heap H locs) (hl : lv_has ls 7 [(0, .ref (ad 4 me)), (1, .int a1), (2, .ref (ad 2 a2)), (3, .int a3), (4, .int a4), (5, .int a5), (6, .int a6)]) : W p l e rm4_init s m args below meth c H locs 0 0 (MQ below (Qv D cA z (ad, N, S', P', M)) args s 0 0 (fun q => z ≤ q)) (F0 m 0 ls []) := by
  obtain ⟨hx, hb, hr, hml, hown, hts, hlk⟩ := id C
  unfold f4_init at hF
  refine lv_aload_n hx hb dX4_init_0 rfl (lv_at hl 0 rfl) ?_
  refine W.objInit hx hb hown (hts (.methodLink RX4 3 objectInit) (by decide +kernel)) (hts (.instanceMethod objectInit) (by decide +kernel)) (hts (.code objectInit ⟨#[0xb1]⟩ 1 none) (by decide +kernel)) rfl (by rw [hml]; exact hl.1) rfl dX4_init_1 (Nat.le_of_ble_eq_true rfl) (Nat.le_of_ble_eq_true rfl) ?_
  refine W.eq (g2 := F0 m 4 ls []) rfl ?_
  refine lv_aload_n hx hb dX4_init_4 rfl (lv_at hl 0 rfl) ?_
  refine lv_iconst (v := (0 : Int32)) hx hb dX4_init_5 (by decide) ?_
  replace hF := lt_ex hF
  obtain ⟨S1, eS1, hF⟩ := hF
  refine p4_6 hx hb hts hi4_init_4 hown hK hW hS hme eS1 (hts (.fieldLink RX4 9 RX4 "how" "I") (by decide +kernel)) dX4_init_6 ?_
  clear hW hS; intro H locs hW hS
  refine lv_aload_n hx hb dX4_init_9 rfl (lv_at hl 0 rfl) ?_
  refine lv_iconst (v := (-1 : Int32)) hx hb dX4_init_10 (by decide) ?_
  replace hF := lt_ex hF
  obtain ⟨S2, eS2, hF⟩ := hF
  refine p4_7 hx hb hts hi4_init_4 hown hK hW hS hme eS2 (hts (.fieldLink RX4 15 RX4 "minute" "I") (by decide +kernel)) dX4_init_11 ?_
  clear hW hS; intro H locs hW hS
  refine lv_aload_n hx hb dX4_init_14 rfl (lv_at hl 0 rfl) ?_
  refine lv_iconst (v := (-1 : Int32)) hx hb dX4_init_15 (by decide) ?_
  replace hF := lt_ex hF
  obtain ⟨S3, eS3, hF⟩ := hF
  refine p4_8 hx hb hts hi4_init_4 hown hK hW hS hme eS3 (hts (.fieldLink RX4 18 RX4 "deck" "I") (by decide +kernel)) dX4_init_16 ?_
  clear hW hS; intro H locs hW hS
  refine lv_aload_n hx hb dX4_init_19 rfl (lv_at hl 0 rfl) ?_
  refine lv_iconst (v := (-1 : Int32)) hx hb dX4_init_20 (by decide) ?_
  replace hF := lt_ex hF
  obtain ⟨S4, eS4, hF⟩ := hF
  refine p4_9 hx hb hts hi4_init_4 hown hK hW hS hme eS4 (hts (.fieldLink RX4 21 RX4 "lane" "I") (by decide +kernel)) dX4_init_21 ?_
  clear hW hS; intro H locs hW hS
  refine lv_aload_n hx hb dX4_init_24 rfl (lv_at hl 0 rfl) ?_
  refine lv_iconst (v := (-1 : Int32)) hx hb dX4_init_25 (by decide) ?_
  replace hF := lt_ex hF
  obtain ⟨S5, eS5, hF⟩ := hF
  refine p4_10 hx hb hts hi4_init_4 hown hK hW hS hme eS5 (hts (.fieldLink RX4 24 RX4 "place" "I") (by decide +kernel)) dX4_init_26 ?_
  clear hW hS; intro H locs hW hS
  refine lv_aload_n hx hb dX4_init_29 rfl (lv_at hl 0 rfl) ?_
  refine lv_iconst (v := (-1 : Int32)) hx hb dX4_init_30 (by decide) ?_
  replace hF := lt_ex hF
  obtain ⟨S6, eS6, hF⟩ := hF
  refine p4_11 hx hb hts hi4_init_4 hown hK hW hS hme eS6 (hts (.fieldLink RX4 27 RX4 "cabin" "I") (by decide +kernel)) dX4_init_31 ?_
  clear hW hS; intro H locs hW hS
  refine lv_aload_n hx hb dX4_init_34 rfl (lv_at hl 0 rfl) ?_
  refine lv_iload_n hx hb dX4_init_35 rfl (lv_at hl 1 rfl) ?_
  replace hF := lt_ex hF
  obtain ⟨S7, eS7, hF⟩ := hF
  refine p4_0 hx hb hts hi4_init_4 hown hK hW hS hme eS7 hini (hts (.fieldLink RX4 30 RX4 "number" "I") (by decide +kernel)) dX4_init_36 ?_
  clear hW hS; intro H locs hW hS
  refine lv_aload_n hx hb dX4_init_39 rfl (lv_at hl 0 rfl) ?_
  refine lv_aload_n hx hb dX4_init_40 rfl (lv_at hl 2 rfl) ?_
  replace hF := lt_ex hF
  obtain ⟨P8, eP8, hF⟩ := hF
  refine p4_1 (r := (some a2)) hx hb hts hi4_init_4 hown hK hW hS hme (q_some ha2) eP8 (hts (.fieldLink RX4 33 RX4 "trip" "LFerryTerminal$Sailing;") (by decide +kernel)) dX4_init_41 ?_
  clear hW hS; intro H locs hW hS
  refine lv_aload_n hx hb dX4_init_44 rfl (lv_at hl 0 rfl) ?_
  refine lv_iload_n hx hb dX4_init_45 rfl (lv_at hl 3 rfl) ?_
  replace hF := lt_ex hF
  obtain ⟨S9, eS9, hF⟩ := hF
  refine p4_2 hx hb hts hi4_init_4 hown hK hW hS hme eS9 hini (hts (.fieldLink RX4 37 RX4 "length" "I") (by decide +kernel)) dX4_init_46 ?_
  clear hW hS; intro H locs hW hS
  refine lv_aload_n hx hb dX4_init_49 rfl (lv_at hl 0 rfl) ?_
  refine lv_iload hx hb dX4_init_50 (lv_at hl 4 rfl) ?_
  replace hF := lt_ex hF
  obtain ⟨S10, eS10, hF⟩ := hF
  refine p4_3 hx hb hts hi4_init_4 hown hK hW hS hme eS10 hini (hts (.fieldLink RX4 40 RX4 "height" "I") (by decide +kernel)) dX4_init_52 ?_
  clear hW hS; intro H locs hW hS
  refine lv_aload_n hx hb dX4_init_55 rfl (lv_at hl 0 rfl) ?_
  refine lv_iload hx hb dX4_init_56 (lv_at hl 5 rfl) ?_
  replace hF := lt_ex hF
  obtain ⟨S11, eS11, hF⟩ := hF
  refine p4_4 hx hb hts hi4_init_4 hown hK hW hS hme eS11 hini (hts (.fieldLink RX4 43 RX4 "wish" "I") (by decide +kernel)) dX4_init_58 ?_
  clear hW hS; intro H locs hW hS
  refine lv_aload_n hx hb dX4_init_61 rfl (lv_at hl 0 rfl) ?_
  refine lv_iload hx hb dX4_init_62 (lv_at hl 6 rfl) ?_
  replace hF := lt_ex hF
  obtain ⟨S12, eS12, hF⟩ := hF
  refine p4_5 hx hb hts hi4_init_4 hown hK hW hS hme eS12 hini (hts (.fieldLink RX4 46 RX4 "paid" "I") (by decide +kernel)) dX4_init_64 ?_
  clear hW hS; intro H locs hW hS
  obtain ⟨hq1, hq2⟩ := Prod.mk.inj (Option.some.inj hF)
  subst hq1
  subst hq2
  exact e_v hx hb hr hlk hK hN hW hS dX4_init_67

set_option maxHeartbeats 4000000 in
set_option maxRecDepth 100000 in
theorem c4_init (l : Launch) {D : va_G} {cA : Nat → ClassId} {z : Nat} {ad : Nat → Nat → Nat} {N : TN} {S : TS} {P : TP} {M : TS} (me : Nat) (a1 : Int32) (a2 : Nat) (a3 : Int32) (a4 : Int32) (a5 : Int32) (a6 : Int32) (hme : me < N 4) (ha2 : a2 < N 2) {S' : TS} {P' : TP} (hF : f4_init S P me a1 a2 a3 a4 a5 a6 = some (S', P')) : Met l yX4_init wsX4_init rm4_init (va_Pc [.ref (ad 4 me), .int a1, .ref (ad 2 a2), .int a3, .int a4, .int a5, .int a6] (Wl D cA z (ad, N, S, P, M))) (Qv D cA z (ad, N, S', P', M)) 0 0 (fun q => z ≤ q) := by
  refine Met.ofW (cc := cX4_init) (maxL := 7) (ret := none) (by decide) rfl ?_
  intro p e s m args below meth c s₁ B hml hv
  obtain ⟨rfl, hW, hK, hN⟩ := hv
  have hl := lv_entry ([.ref (ad 4 me), .int a1, .ref (ad 2 a2), .int a3, .int a4, .int a5, .int a6]) (n := 7) (Nat.le_of_ble_eq_true rfl)
  rw [lg_entry_eq]
  generalize (lg_sl ([.ref (ad 4 me), .int a1, .ref (ad 2 a2), .int a3, .int a4, .int a5, .int a6]) ++ List.replicate (7 - (lg_sl ([.ref (ad 4 me), .int a1, .ref (ad 2 a2), .int a3, .int a4, .int a5, .int a6])).length) Slot.unset).toArray = ls at hl ⊢
  have hini : meth.name = "<init>" := (name_of_methodNamed B.named B.method).1
  exact w4_init ⟨B.exec, B.bytes, B.returns, hml, findClass_of_methodNamed B.named, atoms_spec (ws := wsX4_init) B.pre, B.notSynchronized⟩ hK hN me a1 a2 a3 a4 a5 a6 hme ha2 hini hF hW va_S.rf hl

-- 5 within
abbrev rm5_within : Room := { frames := 0, cells := 0, slots := 0, locals := 0 }
def f5_within (a0 : Int32) (a1 : Int32) (a2 : Int32) : Option (Int32) :=
  if a0 < a1 then
  (some (0 : Int32))
  else
  (if a2 < a0 then
  (some (0 : Int32))
  else
  (some (1 : Int32)))
set_option maxHeartbeats 4000000 in
set_option maxRecDepth 100000 in
theorem w5_within {p : Program} {l : Launch} {e : Env} {s : State} {m : MethodId} {args : Array Value} {below : List Frame} {meth : Method} {c : Code} (C : MC p s m args meth c cX5_within (some .boolean) 3 RX5 wsX5_within) {D : va_G} {cA : Nat → ClassId} {z : Nat} {ad : Nat → Nat → Nat} {N : TN} (hK : va_K D vwCl (tysW cA) s) (hN : NW s) {S : TS} {P : TP} {M : TS} (a0 : Int32) (a1 : Int32) (a2 : Int32) {v : Int32} (hF : f5_within a0 a1 a2 = some v)
    {H : Heap} {ls : Array Slot} (hW : Wd D cA z ad N S P M H) {locs : List Loc} (hS : va_S (fun q => z ≤ q) s.heap H locs) (hl : lv_has ls 3 [(0, .int a0), (1, .int a1), (2, .int a2)]) : W p l e rm5_within s m args below meth c H locs 0 0 (MQ below (Qi D cA z v (ad, N, S, P, M)) args s 0 0 (fun q => z ≤ q)) (F0 m 0 ls []) := by
  obtain ⟨hx, hb, hr, hml, hown, hts, hlk⟩ := id C
  unfold f5_within at hF
  refine lv_iload_n hx hb dX5_within_0 rfl (lv_at hl 0 rfl) ?_
  refine lv_iload_n hx hb dX5_within_1 rfl (lv_at hl 1 rfl) ?_
  refine lv_icmp_lt (tgt := 14) hx hb dX5_within_2 (by decide) (fun hc => ?_) (fun hc => ?_)
  · replace hF := it_t hF hc
    refine lv_iconst (v := (0 : Int32)) hx hb dX5_within_14 (by decide) ?_
    have hq1 := Option.some.inj hF
    subst hq1
    exact e_z hx hb hr hlk hK hN hW hS (by decide) dX5_within_15
  · replace hF := it_f hF hc
    refine lv_iload_n hx hb dX5_within_5 rfl (lv_at hl 0 rfl) ?_
    refine lv_iload_n hx hb dX5_within_6 rfl (lv_at hl 2 rfl) ?_
    refine lv_icmp_gt (tgt := 14) hx hb dX5_within_7 (by decide) (fun hc => ?_) (fun hc => ?_)
    · replace hF := it_t hF hc
      refine lv_iconst (v := (0 : Int32)) hx hb dX5_within_14 (by decide) ?_
      have hq1 := Option.some.inj hF
      subst hq1
      exact e_z hx hb hr hlk hK hN hW hS (by decide) dX5_within_15
    · replace hF := it_f hF hc
      refine lv_iconst (v := (1 : Int32)) hx hb dX5_within_10 (by decide) ?_
      refine lv_goto (tgt := 15) hx hb dX5_within_11 (by decide) ?_
      have hq1 := Option.some.inj hF
      subst hq1
      exact e_z hx hb hr hlk hK hN hW hS (by decide) dX5_within_15

set_option maxHeartbeats 4000000 in
set_option maxRecDepth 100000 in
theorem c5_within (l : Launch) {D : va_G} {cA : Nat → ClassId} {z : Nat} {ad : Nat → Nat → Nat} {N : TN} {S : TS} {P : TP} {M : TS} (a0 : Int32) (a1 : Int32) (a2 : Int32) {v : Int32} (hF : f5_within a0 a1 a2 = some v) : Met l yX5_within wsX5_within rm5_within (va_Pc [.int a0, .int a1, .int a2] (Wl D cA z (ad, N, S, P, M))) (Qi D cA z v (ad, N, S, P, M)) 0 0 (fun q => z ≤ q) := by
  refine Met.ofW (cc := cX5_within) (maxL := 3) (ret := (some .boolean)) (by decide) rfl ?_
  intro p e s m args below meth c s₁ B hml hv
  obtain ⟨rfl, hW, hK, hN⟩ := hv
  have hl := lv_entry ([.int a0, .int a1, .int a2]) (n := 3) (Nat.le_of_ble_eq_true rfl)
  rw [lg_entry_eq]
  generalize (lg_sl ([.int a0, .int a1, .int a2]) ++ List.replicate (3 - (lg_sl ([.int a0, .int a1, .int a2])).length) Slot.unset).toArray = ls at hl ⊢
  exact w5_within ⟨B.exec, B.bytes, B.returns, hml, findClass_of_methodNamed B.named, atoms_spec (ws := wsX5_within) B.pre, B.notSynchronized⟩ hK hN a0 a1 a2 hF hW va_S.rf hl

-- 5 ticketNumbered
abbrev rm5_ticketNumbered : Room := { frames := 1, cells := 0, slots := 0, locals := 22 }
def f5_ticketNumbered (S : TS) (P : TP) (a1 : Int32) : Option (Option Nat) :=
  (f5_within a1 (0 : Int32) ((S 507 0) - (1 : Int32))).bind fun (v1 : Int32) =>
  if v1 = 0 then
  (some none)
  else
  ((ix a1 400).bind fun (j3 : Nat) =>
  lt (P 1000 0 j3) fun (r4 : Option Nat) =>
  some r4)
set_option maxRecDepth 20000 in
theorem hi5_ticketNumbered_5 : ∀ w ∈ u_ws RX5 TX5 12, w ∈ wsX5_ticketNumbered := by decide +kernel
set_option maxHeartbeats 4000000 in
set_option maxRecDepth 100000 in
theorem w5_ticketNumbered {p : Program} {l : Launch} {e : Env} {s : State} {m : MethodId} {args : Array Value} {below : List Frame} {meth : Method} {c : Code} (C : MC p s m args meth c cX5_ticketNumbered (some (.object "FerryTerminal$Ticket")) 2 RX5 wsX5_ticketNumbered) {D : va_G} {cA : Nat → ClassId} {z : Nat} {ad : Nat → Nat → Nat} {N : TN} (hK : va_K D vwCl (tysW cA) s) (hN : NW s) {S : TS} {P : TP} {M : TS} (a1 : Int32) {v : Option Nat} (hF : f5_ticketNumbered S P a1 = some v)
    {H : Heap} {ls : Array Slot} (hW : Wd D cA z ad N S P M H) {locs : List Loc} (hS : va_S (fun q => z ≤ q) s.heap H locs) (hl : lv_has ls 2 [(0, .ref (ad 5 0)), (1, .int a1)]) : W p l e rm5_ticketNumbered s m args below meth c H locs 0 0 (MQ below (Qq D cA z 4 v (ad, N, S, P, M)) args s 0 0 (fun q => z ≤ q)) (F0 m 0 ls []) := by
  obtain ⟨hx, hb, hr, hml, hown, hts, hlk⟩ := id C
  unfold f5_ticketNumbered at hF
  refine lv_iload_n hx hb dX5_ticketNumbered_0 rfl (lv_at hl 1 rfl) ?_
  refine lv_iconst (v := (0 : Int32)) hx hb dX5_ticketNumbered_1 (by decide) ?_
  refine lv_aload_n hx hb dX5_ticketNumbered_2 rfl (lv_at hl 0 rfl) ?_
  refine g5_7 hx hb hts hi5_ticketNumbered_5 hown hK hW (hts (.fieldLink RX5 100 RX5 "ticketCount" "I") (by decide +kernel)) dX5_ticketNumbered_3 ?_
  refine lv_iconst (v := (1 : Int32)) hx hb dX5_ticketNumbered_6 (by decide) ?_
  refine lv_isub hx hb dX5_ticketNumbered_7 ?_
  replace hF := ob hF
  obtain ⟨v1, q2, hF⟩ := hF
  refine k_i (va_runS (As := [.int a1, .int (0 : Int32), .int ((S 507 0) - (1 : Int32))]) (rest := []) ⟨hx, hb, hml, hown, hts⟩ (c5_within l a1 (0 : Int32) ((S 507 0) - (1 : Int32)) q2) (va_cwS 3 hts gX5_ticketNumbered_X5_within rfl rfl rfl (by decide +kernel) ⟨Nat.le_of_ble_eq_true rfl, Nat.le_of_ble_eq_true rfl⟩) (k_preS hW hK hN) rfl rfl hl.1 rfl (lv_room (Nat.le_of_ble_eq_true rfl)) dX5_ticketNumbered_8 ⟨Nat.le_of_ble_eq_true rfl, Nat.le_of_ble_eq_true rfl⟩) hS ?_
  clear hW hS; intro H locs hW hS
  refine lv_if_eq (tgt := 23) hx hb dX5_ticketNumbered_11 (by decide) (fun hc => ?_) (fun hc => ?_)
  · replace hF := it_t hF hc
    refine lv_null hx hb dX5_ticketNumbered_23 ?_
    have hq1 := Option.some.inj hF
    subst hq1
    exact e_q (v := none) hx hb hr hlk hK hN hW hS q_none dX5_ticketNumbered_24
  · replace hF := it_f hF hc
    refine lv_aload_n hx hb dX5_ticketNumbered_14 rfl (lv_at hl 0 rfl) ?_
    refine g5_6 hx hb hts hi5_ticketNumbered_5 hown hK hW (hts (.fieldLink RX5 29 RX5 "tickets" "[LFerryTerminal$Ticket;") (by decide +kernel)) dX5_ticketNumbered_15 ?_
    refine lv_iload_n hx hb dX5_ticketNumbered_18 rfl (lv_at hl 1 rfl) ?_
    replace hF := ob hF
    obtain ⟨j3, ej3, hF⟩ := hF
    replace hF := lt_ex hF
    obtain ⟨r4, er4, hF⟩ := hF
    have hr4 : ∀ y, r4 = some y → y < N 4 := hW.v er4
    refine l10 hx hb hK hW ej3 er4 dX5_ticketNumbered_19 ?_
    refine lv_goto (tgt := 24) hx hb dX5_ticketNumbered_20 (by decide) ?_
    have hq1 := Option.some.inj hF
    subst hq1
    exact e_q (v := r4) hx hb hr hlk hK hN hW hS hr4 dX5_ticketNumbered_24

set_option maxHeartbeats 4000000 in
set_option maxRecDepth 100000 in
theorem c5_ticketNumbered (l : Launch) {D : va_G} {cA : Nat → ClassId} {z : Nat} {ad : Nat → Nat → Nat} {N : TN} {S : TS} {P : TP} {M : TS} (a1 : Int32) {v : Option Nat} (hF : f5_ticketNumbered S P a1 = some v) : Met l yX5_ticketNumbered wsX5_ticketNumbered rm5_ticketNumbered (va_Pc [.ref (ad 5 0), .int a1] (Wl D cA z (ad, N, S, P, M))) (Qq D cA z 4 v (ad, N, S, P, M)) 0 0 (fun q => z ≤ q) := by
  refine Met.ofW (cc := cX5_ticketNumbered) (maxL := 2) (ret := (some (.object "FerryTerminal$Ticket"))) (by decide) rfl ?_
  intro p e s m args below meth c s₁ B hml hv
  obtain ⟨rfl, hW, hK, hN⟩ := hv
  have hl := lv_entry ([.ref (ad 5 0), .int a1]) (n := 2) (Nat.le_of_ble_eq_true rfl)
  rw [lg_entry_eq]
  generalize (lg_sl ([.ref (ad 5 0), .int a1]) ++ List.replicate (2 - (lg_sl ([.ref (ad 5 0), .int a1])).length) Slot.unset).toArray = ls at hl ⊢
  exact w5_ticketNumbered ⟨B.exec, B.bytes, B.returns, hml, findClass_of_methodNamed B.named, atoms_spec (ws := wsX5_ticketNumbered) B.pre, B.notSynchronized⟩ hK hN a1 hF hW va_S.rf hl

-- 5 arrive
abbrev rm5_arrive : Room := { frames := 2, cells := 0, slots := 0, locals := 43 }
def f5_arrive (S : TS) (P : TP) (a1 : Int32) (a2 : Int32) : Option (Int32 × TS × TP) :=
  (f5_ticketNumbered S P a1).bind fun (r1 : Option Nat) =>
  r1.elim (some ((0 : Int32), S, P))
  (fun (t3 : Nat) => if (S 406 t3) = 0 then
  ((f5_within a2 (0 : Int32) (200000 : Int32)).bind fun (v4 : Int32) =>
  if v4 = 0 then
  (some ((0 : Int32), S, P))
  else
  (lt (P 401 t3 0) fun (r6 : Option Nat) =>
  r6.bind fun (t7 : Nat) =>
  (f2_isPlannedOrOpen S P t7).bind fun (v8 : Int32) =>
  if v8 = 0 then
  (some ((0 : Int32), S, P))
  else
  (lt (up S 406 t3 (1 : Int32)) fun (S10 : TS) =>
  lt (up S10 407 t3 a2) fun (S11 : TS) =>
  some ((1 : Int32), S11, P))))
  else
  (some ((0 : Int32), S, P)))
set_option maxRecDepth 20000 in
theorem hi5_arrive_4 : ∀ w ∈ u_ws RX4 TX4 16, w ∈ wsX5_arrive := by decide +kernel
set_option maxHeartbeats 4000000 in
set_option maxRecDepth 100000 in
theorem w5_arrive {p : Program} {l : Launch} {e : Env} {s : State} {m : MethodId} {args : Array Value} {below : List Frame} {meth : Method} {c : Code} (C : MC p s m args meth c cX5_arrive (some .boolean) 4 RX5 wsX5_arrive) {D : va_G} {cA : Nat → ClassId} {z : Nat} {ad : Nat → Nat → Nat} {N : TN} (hK : va_K D vwCl (tysW cA) s) (hN : NW s) {S : TS} {P : TP} {M : TS} (a1 : Int32) (a2 : Int32) {v : Int32} {S' : TS} {P' : TP} (hF : f5_arrive S P a1 a2 = some (v, S', P'))
    {H : Heap} {ls : Array Slot} (hW : Wd D cA z ad N S P M H) {locs : List Loc} (hS : va_S (fun q => z ≤ q) s.heap H locs) (hl : lv_has ls 4 [(0, .ref (ad 5 0)), (1, .int a1), (2, .int a2)]) : W p l e rm5_arrive s m args below meth c H locs 0 0 (MQ below (Qi D cA z v (ad, N, S', P', M)) args s 0 0 (fun q => z ≤ q)) (F0 m 0 ls []) := by
  obtain ⟨hx, hb, hr, hml, hown, hts, hlk⟩ := id C
  unfold f5_arrive at hF
  refine lv_aload_n hx hb dX5_arrive_0 rfl (lv_at hl 0 rfl) ?_
  refine lv_iload_n hx hb dX5_arrive_1 rfl (lv_at hl 1 rfl) ?_
  replace hF := ob hF
  obtain ⟨r1, q2, hF⟩ := hF
  refine k_q (va_runV (As := [.int a1]) (rest := []) ⟨hx, hb, hml, hown, hts⟩ (c5_ticketNumbered l a1 q2) (cwV 1 hts gX5_arrive_X5_ticketNumbered rfl rfl rfl (by decide +kernel) ⟨Nat.le_of_ble_eq_true rfl, Nat.le_of_ble_eq_true rfl⟩) (k_preV hW hK hN (hW.fx 5 rfl) (EE_5 cA ad S P M 0) rfl) rfl rfl hl.1 rfl (lv_room (Nat.le_of_ble_eq_true rfl)) dX5_arrive_2 ⟨Nat.le_of_ble_eq_true rfl, Nat.le_of_ble_eq_true rfl⟩) hS (fun H locs hW hS hr1 => ?_)
  refine q_astore_n (lv' := [(3, va_rf (r1.map (ad 4))), (0, .ref (ad 5 0)), (1, .int a1), (2, .int a2)]) hx hb dX5_arrive_5 rfl hl (by decide) rfl ?_
  clear hl; intro ls hl
  refine q_aload_n hx hb dX5_arrive_6 rfl (lv_at hl 0 rfl) ?_
  refine q_ifnull (tgt := 37) hx hb dX5_arrive_7 (by decide) (fun hc => ?_) (fun t3 hc => ?_)
  · subst hc
    replace hF := el_n hF
    replace hl : lv_has ls 4 [(3, .null), (0, .ref (ad 5 0)), (1, .int a1), (2, .int a2)] := hl
    refine lv_iconst (v := (0 : Int32)) hx hb dX5_arrive_37 (by decide) ?_
    obtain ⟨hq1, hq2⟩ := Prod.mk.inj (Option.some.inj hF)
    obtain ⟨hq2, hq3⟩ := Prod.mk.inj hq2
    subst hq1
    subst hq2
    subst hq3
    exact e_z hx hb hr hlk hK hN hW hS (by decide) dX5_arrive_38
  · subst hc
    replace hF := el_s hF
    have ht3 := hr1 t3 rfl
    replace hl : lv_has ls 4 [(3, .ref (ad 4 t3)), (0, .ref (ad 5 0)), (1, .int a1), (2, .int a2)] := hl
    refine lv_aload_n hx hb dX5_arrive_10 rfl (lv_at hl 0 rfl) ?_
    refine gn4_6 hx hb hts hi5_arrive_4 hown hK hW ht3 (nf_28 hN) dX5_arrive_11 ?_
    refine lv_if_ne (tgt := 37) hx hb dX5_arrive_14 (by decide) (fun hc => ?_) (fun hc => ?_)
    · replace hF := it_f hF hc
      refine lv_iconst (v := (0 : Int32)) hx hb dX5_arrive_37 (by decide) ?_
      obtain ⟨hq1, hq2⟩ := Prod.mk.inj (Option.some.inj hF)
      obtain ⟨hq2, hq3⟩ := Prod.mk.inj hq2
      subst hq1
      subst hq2
      subst hq3
      exact e_z hx hb hr hlk hK hN hW hS (by decide) dX5_arrive_38
    · replace hF := it_t hF hc
      refine lv_iload_n hx hb dX5_arrive_17 rfl (lv_at hl 3 rfl) ?_
      refine lv_iconst (v := (0 : Int32)) hx hb dX5_arrive_18 (by decide) ?_
      refine lv_ldc (v := (200000 : Int32)) hx hb hown (hts (.constant RX5 121 (200000)) (by decide +kernel)) dX5_arrive_19 ?_
      replace hF := ob hF
      obtain ⟨v4, q5, hF⟩ := hF
      refine k_i (va_runS (As := [.int a2, .int (0 : Int32), .int (200000 : Int32)]) (rest := []) ⟨hx, hb, hml, hown, hts⟩ (c5_within l a2 (0 : Int32) (200000 : Int32) q5) (va_cwS 3 hts gX5_arrive_X5_within rfl rfl rfl (by decide +kernel) ⟨Nat.le_of_ble_eq_true rfl, Nat.le_of_ble_eq_true rfl⟩) (k_preS hW hK hN) rfl rfl hl.1 rfl (lv_room (Nat.le_of_ble_eq_true rfl)) dX5_arrive_21 ⟨Nat.le_of_ble_eq_true rfl, Nat.le_of_ble_eq_true rfl⟩) hS ?_
      clear hW hS; intro H locs hW hS
      refine lv_if_eq (tgt := 37) hx hb dX5_arrive_24 (by decide) (fun hc => ?_) (fun hc => ?_)
      · replace hF := it_t hF hc
        refine lv_iconst (v := (0 : Int32)) hx hb dX5_arrive_37 (by decide) ?_
        obtain ⟨hq1, hq2⟩ := Prod.mk.inj (Option.some.inj hF)
        obtain ⟨hq2, hq3⟩ := Prod.mk.inj hq2
        subst hq1
        subst hq2
        subst hq3
        exact e_z hx hb hr hlk hK hN hW hS (by decide) dX5_arrive_38
      · replace hF := it_f hF hc
        refine lv_aload_n hx hb dX5_arrive_27 rfl (lv_at hl 0 rfl) ?_
        replace hF := lt_ex hF
        obtain ⟨r6, er6, hF⟩ := hF
        have hr6 : ∀ y, r6 = some y → y < N 2 := hW.v er6
        refine gn4_1 hx hb hts hi5_arrive_4 hown hK hW ht3 er6 (nf_22 hN) dX5_arrive_28 ?_
        replace hF := ob hF
        obtain ⟨t7, et7, hF⟩ := hF
        subst et7
        have ht7 := hr6 t7 rfl
        replace hF := ob hF
        obtain ⟨v8, q9, hF⟩ := hF
        refine k_i (va_runVN (C := RX2) (As := []) (rest := []) ⟨hx, hb, hml, hown, hts⟩ (c2_isPlannedOrOpen l t7 ht7 q9) ⟨va_cnB 0 hts gX5_arrive_X2_isPlannedOrOpen_n126 rfl rfl rfl (nm_5 hN) (hts (.initialized RX2) (by decide +kernel)) (by decide +kernel) ⟨Nat.le_of_ble_eq_true rfl, Nat.le_of_ble_eq_true rfl⟩, hts (.instanceMethod yX2_isPlannedOrOpen) (by decide +kernel), hts (.selects RX2 yX2_isPlannedOrOpen yX2_isPlannedOrOpen) (by decide +kernel)⟩ (k_preV hW hK hN ht7 (EE_2 cA ad S P M t7) rfl) rfl rfl hl.1 rfl (lv_room (Nat.le_of_ble_eq_true rfl)) dX5_arrive_31 ⟨Nat.le_of_ble_eq_true rfl, Nat.le_of_ble_eq_true rfl⟩) hS ?_
        clear hW hS; intro H locs hW hS
        refine lv_if_ne (tgt := 39) hx hb dX5_arrive_34 (by decide) (fun hc => ?_) (fun hc => ?_)
        · replace hF := it_f hF hc
          refine lv_aload_n hx hb dX5_arrive_39 rfl (lv_at hl 0 rfl) ?_
          refine lv_iconst (v := (1 : Int32)) hx hb dX5_arrive_40 (by decide) ?_
          replace hF := lt_ex hF
          obtain ⟨S10, eS10, hF⟩ := hF
          refine pn4_6 hx hb hts hi5_arrive_4 hown hK hW hS ht3 eS10 (nf_28 hN) dX5_arrive_41 ?_
          clear hW hS; intro H locs hW hS
          refine lv_aload_n hx hb dX5_arrive_44 rfl (lv_at hl 0 rfl) ?_
          refine lv_iload_n hx hb dX5_arrive_45 rfl (lv_at hl 3 rfl) ?_
          replace hF := lt_ex hF
          obtain ⟨S11, eS11, hF⟩ := hF
          refine pn4_7 hx hb hts hi5_arrive_4 hown hK hW hS ht3 eS11 (nf_29 hN) dX5_arrive_46 ?_
          clear hW hS; intro H locs hW hS
          refine lv_iconst (v := (1 : Int32)) hx hb dX5_arrive_49 (by decide) ?_
          obtain ⟨hq1, hq2⟩ := Prod.mk.inj (Option.some.inj hF)
          obtain ⟨hq2, hq3⟩ := Prod.mk.inj hq2
          subst hq1
          subst hq2
          subst hq3
          exact e_z hx hb hr hlk hK hN hW hS (by decide) dX5_arrive_50
        · replace hF := it_t hF hc
          refine lv_iconst (v := (0 : Int32)) hx hb dX5_arrive_37 (by decide) ?_
          obtain ⟨hq1, hq2⟩ := Prod.mk.inj (Option.some.inj hF)
          obtain ⟨hq2, hq3⟩ := Prod.mk.inj hq2
          subst hq1
          subst hq2
          subst hq3
          exact e_z hx hb hr hlk hK hN hW hS (by decide) dX5_arrive_38

set_option maxHeartbeats 4000000 in
set_option maxRecDepth 100000 in
theorem c5_arrive (l : Launch) {D : va_G} {cA : Nat → ClassId} {z : Nat} {ad : Nat → Nat → Nat} {N : TN} {S : TS} {P : TP} {M : TS} (a1 : Int32) (a2 : Int32) {v : Int32} {S' : TS} {P' : TP} (hF : f5_arrive S P a1 a2 = some (v, S', P')) : Met l yX5_arrive wsX5_arrive rm5_arrive (va_Pc [.ref (ad 5 0), .int a1, .int a2] (Wl D cA z (ad, N, S, P, M))) (Qi D cA z v (ad, N, S', P', M)) 0 0 (fun q => z ≤ q) := by
  refine Met.ofW (cc := cX5_arrive) (maxL := 4) (ret := (some .boolean)) (by decide) rfl ?_
  intro p e s m args below meth c s₁ B hml hv
  obtain ⟨rfl, hW, hK, hN⟩ := hv
  have hl := lv_entry ([.ref (ad 5 0), .int a1, .int a2]) (n := 4) (Nat.le_of_ble_eq_true rfl)
  rw [lg_entry_eq]
  generalize (lg_sl ([.ref (ad 5 0), .int a1, .int a2]) ++ List.replicate (4 - (lg_sl ([.ref (ad 5 0), .int a1, .int a2])).length) Slot.unset).toArray = ls at hl ⊢
  exact w5_arrive ⟨B.exec, B.bytes, B.returns, hml, findClass_of_methodNamed B.named, atoms_spec (ws := wsX5_arrive) B.pre, B.notSynchronized⟩ hK hN a1 a2 hF hW va_S.rf hl


-- 6 cabinFor
abbrev rm6_cabinFor : Room := { frames := 2, cells := 0, slots := 0, locals := 44 }
def f6_cabinFor_50 (K : Int32 → Option (Int32)) (M : TS) (c1 : Int32) (c2 : Int32) (c3 : Int32) : Nat → Int32 → Int32 → Option (Int32)
  | 0, _, _ => none
  | n + 1, y4, y5 =>
    if (M 623 0) ≤ y5 then
    (K y4)
    else
    (if y4 = 0 then
    (K y4)
    else
    ((f6_isAboard M y5 c2).bind fun (v4 : Int32) =>
    lt (fun (k6 : Int32) => (f6_cabinFor_50 K M c1 c2 c3 n (1 : Int32) (k6 + 1))) fun (K86 : Int32 → Option (Int32)) =>
    if v4 = 0 then
    (K86 y5)
    else
    ((f6_of M y5 (9 : Int32)).bind fun (v7 : Int32) =>
    if v7 = c3 then
    (f6_cabinFor_50 K M c1 c2 c3 n (0 : Int32) (y5 + 1))
    else
    (K86 y5))))

def f6_cabinFor_2 (K : Option (Int32)) (M : TS) (c1 : Int32) (c2 : Int32) : Nat → Int32 → Option (Int32)
  | 0, _ => none
  | n + 1, y3 =>
    if (M 621 0) ≤ y3 then
    (K)
    else
    ((ix y3 120).bind fun (j1 : Nat) =>
    (ix c2 60).bind fun (j2 : Nat) =>
    lt (fun (k3 : Int32) => (f6_cabinFor_50 (fun (w9 : Int32) =>
    if w9 = 0 then
    (f6_cabinFor_2 K M c1 c2 n (y3 + 1))
    else
    (some y3)) M c1 c2 y3 FU k3 (0 : Int32))) fun (K45 : Int32 → Option (Int32)) =>
    if (M 2400 j1) = (M 2600 j2) then
    ((ix y3 120).bind fun (j10 : Nat) =>
    (f6_of M c1 (3 : Int32)).bind fun (v11 : Int32) =>
    if (M 2500 j10) < v11 then
    (K45 (0 : Int32))
    else
    (K45 (1 : Int32)))
    else
    (K45 (0 : Int32)))

def f6_cabinFor (M : TS) (a1 : Int32) (a2 : Int32) : Option (Int32) :=
  f6_cabinFor_2 (some (-1 : Int32)) M a1 a2 FU (0 : Int32)
set_option maxRecDepth 20000 in
theorem hi6_cabinFor_6 : ∀ w ∈ u_ws RX6 TX6 31, w ∈ wsX6_cabinFor := by decide +kernel
set_option maxHeartbeats 4000000 in
set_option maxRecDepth 100000 in
theorem w6_cabinFor_50 {p : Program} {l : Launch} {e : Env} {s : State} {m : MethodId} {args : Array Value} {below : List Frame} {meth : Method} {c : Code} (C : MC p s m args meth c cX6_cabinFor (some .int) 6 RX6 wsX6_cabinFor) {D : va_G} {cA : Nat → ClassId} {z : Nat} {ad : Nat → Nat → Nat} {N : TN} (hK : va_K D vwCl (tysW cA) s) (hN : NW s) {S : TS} {P : TP} {M : TS} (c1 : Int32) (c2 : Int32) (c3 : Int32) {v : Int32} {K : Int32 → Option (Int32)}
    (hE : ∀ (e4 : Int32) (H : Heap) (locs : List Loc) (ls : Array Slot), K e4 = some v → Wd D cA z ad N S P M H → va_S (fun q => z ≤ q) s.heap H locs → lv_has ls 6 [(0, .ref (ad 6 0)), (1, .int c1), (2, .int c2), (3, .int c3), (4, .int e4)] → W p l e rm6_cabinFor s m args below meth c H locs 0 0 (MQ below (Qi D cA z v (ad, N, S, P, M)) args s 0 0 (fun q => z ≤ q)) (F0 m 99 ls [])) :
    ∀ (n : Nat) (y4 : Int32) (y5 : Int32) (H : Heap) (locs : List Loc) (ls : Array Slot), f6_cabinFor_50 K M c1 c2 c3 n y4 y5 = some v → Wd D cA z ad N S P M H → va_S (fun q => z ≤ q) s.heap H locs → lv_has ls 6 [(0, .ref (ad 6 0)), (1, .int c1), (2, .int c2), (3, .int c3), (4, .int y4), (5, .int y5)] → W p l e rm6_cabinFor s m args below meth c H locs 0 0 (MQ below (Qi D cA z v (ad, N, S, P, M)) args s 0 0 (fun q => z ≤ q)) (F0 m 50 ls []) := by
  obtain ⟨hx, hb, hr, hml, hown, hts, hlk⟩ := id C
  intro n
  induction n with
  | zero => intro y4 y5 H locs ls hF; cases hF
  | succ n ih =>
    intro y4 y5 H locs ls hF hW hS hl
    rw [f6_cabinFor_50] at hF
    refine lv_iload hx hb dX6_cabinFor_50 (lv_at hl 5 rfl) ?_
    refine lv_aload_n hx hb dX6_cabinFor_52 rfl (lv_at hl 0 rfl) ?_
    refine g6_23 hx hb hts hi6_cabinFor_6 hown hK hW (hts (.fieldLink RX6 74 RX6 "tickets" "I") (by decide +kernel)) dX6_cabinFor_53 ?_
    refine lv_icmp_ge (tgt := 99) hx hb dX6_cabinFor_56 (by decide) (fun hc => ?_) (fun hc => ?_)
    · replace hF := it_t hF hc
      exact hE y4 _ _ _ hF hW hS (lv_sub hl [0, 1, 2, 3, 4] rfl)
    · replace hF := it_f hF hc
      refine lv_iload hx hb dX6_cabinFor_59 (lv_at hl 4 rfl) ?_
      refine lv_if_eq (tgt := 99) hx hb dX6_cabinFor_61 (by decide) (fun hc => ?_) (fun hc => ?_)
      · replace hF := it_t hF hc
        exact hE y4 _ _ _ hF hW hS (lv_sub hl [0, 1, 2, 3, 4] rfl)
      · replace hF := it_f hF hc
        refine lv_aload_n hx hb dX6_cabinFor_64 rfl (lv_at hl 0 rfl) ?_
        refine lv_iload hx hb dX6_cabinFor_65 (lv_at hl 5 rfl) ?_
        refine lv_iload_n hx hb dX6_cabinFor_67 rfl (lv_at hl 2 rfl) ?_
        replace hF := ob hF
        obtain ⟨v4, q5, hF⟩ := hF
        refine k_i (va_runV (As := [.int y5, .int c2]) (rest := []) ⟨hx, hb, hml, hown, hts⟩ (c6_isAboard l y5 c2 q5) (cwV 2 hts gX6_cabinFor_X6_isAboard rfl rfl rfl (by decide +kernel) ⟨Nat.le_of_ble_eq_true rfl, Nat.le_of_ble_eq_true rfl⟩) (k_preV hW hK hN (hW.fx 6 rfl) (EE_6 cA ad S P M 0) rfl) rfl rfl hl.1 rfl (lv_room (Nat.le_of_ble_eq_true rfl)) dX6_cabinFor_68 ⟨Nat.le_of_ble_eq_true rfl, Nat.le_of_ble_eq_true rfl⟩) hS ?_
        clear hW hS; intro H locs hW hS
        replace hF := lt_ex hF
        obtain ⟨K86, eK86, hF⟩ := hF
        have hK86 : ∀ (k6 : Int32) (H : Heap) (locs : List Loc) (ls : Array Slot), K86 k6 = some v → Wd D cA z ad N S P M H → va_S (fun q => z ≤ q) s.heap H locs → lv_has ls 6 [(0, .ref (ad 6 0)), (1, .int c1), (2, .int c2), (3, .int c3), (5, .int k6)] → W p l e rm6_cabinFor s m args below meth c H locs 0 0 (MQ below (Qi D cA z v (ad, N, S, P, M)) args s 0 0 (fun q => z ≤ q)) (F0 m 86 ls []) := by
          intro k6 H locs ls hF hW hS hl
          subst eK86
          refine lv_iconst (v := (1 : Int32)) hx hb dX6_cabinFor_86 (by decide) ?_
          refine lv_goto (tgt := 91) hx hb dX6_cabinFor_87 (by decide) ?_
          refine lv_istore (lv' := [(4, .int (1 : Int32)), (0, .ref (ad 6 0)), (1, .int c1), (2, .int c2), (3, .int c3), (5, .int k6)]) hx hb dX6_cabinFor_91 hl (by decide) rfl ?_
          clear hl; intro ls hl
          refine lv_iinc (v := k6 + 1) (lv' := [(5, .int (k6 + 1)), (4, .int (1 : Int32)), (0, .ref (ad 6 0)), (1, .int c1), (2, .int c2), (3, .int c3)]) hx hb dX6_cabinFor_93 hl (k := 5) rfl rfl (by decide) rfl ?_
          clear hl; intro ls hl
          refine lv_goto (tgt := 50) hx hb dX6_cabinFor_96 (by decide) ?_
          exact ih (1 : Int32) (k6 + 1) _ _ _ hF hW hS (lv_sub hl [2, 3, 4, 5, 1, 0] rfl)
        clear eK86
        refine lv_if_eq (tgt := 86) hx hb dX6_cabinFor_71 (by decide) (fun hc => ?_) (fun hc => ?_)
        · replace hF := it_t hF hc
          exact hK86 y5 _ _ _ hF hW hS (lv_sub hl [0, 1, 2, 3, 5] rfl)
        · replace hF := it_f hF hc
          refine lv_aload_n hx hb dX6_cabinFor_74 rfl (lv_at hl 0 rfl) ?_
          refine lv_iload hx hb dX6_cabinFor_75 (lv_at hl 5 rfl) ?_
          refine lv_bipush (v := (9 : Int32)) hx hb dX6_cabinFor_77 (by decide) ?_
          replace hF := ob hF
          obtain ⟨v7, q8, hF⟩ := hF
          refine k_i (va_runV (As := [.int y5, .int (9 : Int32)]) (rest := []) ⟨hx, hb, hml, hown, hts⟩ (c6_of l y5 (9 : Int32) q8) (cwV 2 hts gX6_cabinFor_X6_of rfl rfl rfl (by decide +kernel) ⟨Nat.le_of_ble_eq_true rfl, Nat.le_of_ble_eq_true rfl⟩) (k_preV hW hK hN (hW.fx 6 rfl) (EE_6 cA ad S P M 0) rfl) rfl rfl hl.1 rfl (lv_room (Nat.le_of_ble_eq_true rfl)) dX6_cabinFor_79 ⟨Nat.le_of_ble_eq_true rfl, Nat.le_of_ble_eq_true rfl⟩) hS ?_
          clear hW hS; intro H locs hW hS
          refine lv_iload_n hx hb dX6_cabinFor_82 rfl (lv_at hl 3 rfl) ?_
          refine lv_icmp_eq (tgt := 90) hx hb dX6_cabinFor_83 (by decide) (fun hc => ?_) (fun hc => ?_)
          · replace hF := it_t hF hc
            refine lv_iconst (v := (0 : Int32)) hx hb dX6_cabinFor_90 (by decide) ?_
            refine lv_istore (lv' := [(4, .int (0 : Int32)), (0, .ref (ad 6 0)), (1, .int c1), (2, .int c2), (3, .int c3), (5, .int y5)]) hx hb dX6_cabinFor_91 hl (by decide) rfl ?_
            clear hl; intro ls hl
            refine lv_iinc (v := y5 + 1) (lv' := [(5, .int (y5 + 1)), (4, .int (0 : Int32)), (0, .ref (ad 6 0)), (1, .int c1), (2, .int c2), (3, .int c3)]) hx hb dX6_cabinFor_93 hl (k := 5) rfl rfl (by decide) rfl ?_
            clear hl; intro ls hl
            refine lv_goto (tgt := 50) hx hb dX6_cabinFor_96 (by decide) ?_
            exact ih (0 : Int32) (y5 + 1) _ _ _ hF hW hS (lv_sub hl [2, 3, 4, 5, 1, 0] rfl)
          · replace hF := it_f hF hc
            exact hK86 y5 _ _ _ hF hW hS (lv_sub hl [0, 1, 2, 3, 5] rfl)

set_option maxHeartbeats 4000000 in
set_option maxRecDepth 100000 in
theorem w6_cabinFor_2 {p : Program} {l : Launch} {e : Env} {s : State} {m : MethodId} {args : Array Value} {below : List Frame} {meth : Method} {c : Code} (C : MC p s m args meth c cX6_cabinFor (some .int) 6 RX6 wsX6_cabinFor) {D : va_G} {cA : Nat → ClassId} {z : Nat} {ad : Nat → Nat → Nat} {N : TN} (hK : va_K D vwCl (tysW cA) s) (hN : NW s) {S : TS} {P : TP} {M : TS} (c1 : Int32) (c2 : Int32) {v : Int32} {K : Option (Int32)}
    (hE : ∀ (H : Heap) (locs : List Loc) (ls : Array Slot), K = some v → Wd D cA z ad N S P M H → va_S (fun q => z ≤ q) s.heap H locs → lv_has ls 6 [] → W p l e rm6_cabinFor s m args below meth c H locs 0 0 (MQ below (Qi D cA z v (ad, N, S, P, M)) args s 0 0 (fun q => z ≤ q)) (F0 m 112 ls [])) :
    ∀ (n : Nat) (y3 : Int32) (H : Heap) (locs : List Loc) (ls : Array Slot), f6_cabinFor_2 K M c1 c2 n y3 = some v → Wd D cA z ad N S P M H → va_S (fun q => z ≤ q) s.heap H locs → lv_has ls 6 [(0, .ref (ad 6 0)), (1, .int c1), (2, .int c2), (3, .int y3)] → W p l e rm6_cabinFor s m args below meth c H locs 0 0 (MQ below (Qi D cA z v (ad, N, S, P, M)) args s 0 0 (fun q => z ≤ q)) (F0 m 2 ls []) := by
  obtain ⟨hx, hb, hr, hml, hown, hts, hlk⟩ := id C
  intro n
  induction n with
  | zero => intro y3 H locs ls hF; cases hF
  | succ n ih =>
    intro y3 H locs ls hF hW hS hl
    rw [f6_cabinFor_2] at hF
    refine lv_iload_n hx hb dX6_cabinFor_2 rfl (lv_at hl 3 rfl) ?_
    refine lv_aload_n hx hb dX6_cabinFor_3 rfl (lv_at hl 0 rfl) ?_
    refine g6_21 hx hb hts hi6_cabinFor_6 hown hK hW (hts (.fieldLink RX6 92 RX6 "cabins" "I") (by decide +kernel)) dX6_cabinFor_4 ?_
    refine lv_icmp_ge (tgt := 112) hx hb dX6_cabinFor_7 (by decide) (fun hc => ?_) (fun hc => ?_)
    · replace hF := it_t hF hc
      exact hE _ _ _ hF hW hS (lv_sub hl [] rfl)
    · replace hF := it_f hF hc
      refine lv_aload_n hx hb dX6_cabinFor_10 rfl (lv_at hl 0 rfl) ?_
      refine g6_4 hx hb hts hi6_cabinFor_6 hown hK hW (hts (.fieldLink RX6 23 RX6 "cabinShip" "[I") (by decide +kernel)) dX6_cabinFor_11 ?_
      refine lv_iload_n hx hb dX6_cabinFor_14 rfl (lv_at hl 3 rfl) ?_
      replace hF := ob hF
      obtain ⟨j1, ej1, hF⟩ := hF
      refine l24 hx hb hK hW ej1 dX6_cabinFor_15 ?_
      refine lv_aload_n hx hb dX6_cabinFor_16 rfl (lv_at hl 0 rfl) ?_
      refine g6_6 hx hb hts hi6_cabinFor_6 hown hK hW (hts (.fieldLink RX6 29 RX6 "ship" "[I") (by decide +kernel)) dX6_cabinFor_17 ?_
      refine lv_iload_n hx hb dX6_cabinFor_20 rfl (lv_at hl 2 rfl) ?_
      replace hF := ob hF
      obtain ⟨j2, ej2, hF⟩ := hF
      refine l26 hx hb hK hW ej2 dX6_cabinFor_21 ?_
      replace hF := lt_ex hF
      obtain ⟨K45, eK45, hF⟩ := hF
      have hK45 : ∀ (k3 : Int32) (H : Heap) (locs : List Loc) (ls : Array Slot), K45 k3 = some v → Wd D cA z ad N S P M H → va_S (fun q => z ≤ q) s.heap H locs → lv_has ls 6 [(0, .ref (ad 6 0)), (1, .int c1), (2, .int c2), (3, .int y3)] → W p l e rm6_cabinFor s m args below meth c H locs 0 0 (MQ below (Qi D cA z v (ad, N, S, P, M)) args s 0 0 (fun q => z ≤ q)) (F0 m 45 ls [.int k3]) := by
        intro k3 H locs ls hF hW hS hl
        subst eK45
        refine lv_istore (lv' := [(4, .int k3), (0, .ref (ad 6 0)), (1, .int c1), (2, .int c2), (3, .int y3)]) hx hb dX6_cabinFor_45 hl (by decide) rfl ?_
        clear hl; intro ls hl
        refine lv_iconst (v := (0 : Int32)) hx hb dX6_cabinFor_47 (by decide) ?_
        refine lv_istore (lv' := [(5, .int (0 : Int32)), (4, .int k3), (0, .ref (ad 6 0)), (1, .int c1), (2, .int c2), (3, .int y3)]) hx hb dX6_cabinFor_48 hl (by decide) rfl ?_
        clear hl; intro ls hl
        refine w6_cabinFor_50 C hK hN c1 c2 y3 (hE := ?_) FU k3 (0 : Int32) _ _ _ hF hW hS (lv_sub hl [2, 3, 4, 5, 1, 0] rfl)
        intro w9 H locs ls hF hW hS hl
        refine lv_iload hx hb dX6_cabinFor_99 (lv_at hl 4 rfl) ?_
        refine lv_if_eq (tgt := 106) hx hb dX6_cabinFor_101 (by decide) (fun hc => ?_) (fun hc => ?_)
        · replace hF := it_t hF hc
          refine lv_iinc (v := y3 + 1) (lv' := [(3, .int (y3 + 1)), (0, .ref (ad 6 0)), (1, .int c1), (2, .int c2), (4, .int w9)]) hx hb dX6_cabinFor_106 hl (k := 3) rfl rfl (by decide) rfl ?_
          clear hl; intro ls hl
          refine lv_goto (tgt := 2) hx hb dX6_cabinFor_109 (by decide) ?_
          exact ih (y3 + 1) _ _ _ hF hW hS (lv_sub hl [1, 2, 3, 0] rfl)
        · replace hF := it_f hF hc
          refine lv_iload_n hx hb dX6_cabinFor_104 rfl (lv_at hl 3 rfl) ?_
          have hq1 := Option.some.inj hF
          subst hq1
          exact e_i hx hb hr hlk hK hN hW hS dX6_cabinFor_105
      clear eK45
      refine lv_icmp_ne (tgt := 44) hx hb dX6_cabinFor_22 (by decide) (fun hc => ?_) (fun hc => ?_)
      · replace hF := it_f hF hc
        refine lv_iconst (v := (0 : Int32)) hx hb dX6_cabinFor_44 (by decide) ?_
        exact hK45 (0 : Int32) _ _ _ hF hW hS (lv_sub hl [0, 1, 2, 3] rfl)
      · replace hF := it_t hF hc
        refine lv_aload_n hx hb dX6_cabinFor_25 rfl (lv_at hl 0 rfl) ?_
        refine g6_5 hx hb hts hi6_cabinFor_6 hown hK hW (hts (.fieldLink RX6 26 RX6 "beds" "[I") (by decide +kernel)) dX6_cabinFor_26 ?_
        refine lv_iload_n hx hb dX6_cabinFor_29 rfl (lv_at hl 3 rfl) ?_
        replace hF := ob hF
        obtain ⟨j10, ej10, hF⟩ := hF
        refine l25 hx hb hK hW ej10 dX6_cabinFor_30 ?_
        refine lv_aload_n hx hb dX6_cabinFor_31 rfl (lv_at hl 0 rfl) ?_
        refine lv_iload_n hx hb dX6_cabinFor_32 rfl (lv_at hl 1 rfl) ?_
        refine lv_iconst (v := (3 : Int32)) hx hb dX6_cabinFor_33 (by decide) ?_
        replace hF := ob hF
        obtain ⟨v11, q12, hF⟩ := hF
        refine k_i (va_runV (As := [.int c1, .int (3 : Int32)]) (rest := [.int (M 2500 j10)]) ⟨hx, hb, hml, hown, hts⟩ (c6_of l c1 (3 : Int32) q12) (cwV 2 hts gX6_cabinFor_X6_of rfl rfl rfl (by decide +kernel) ⟨Nat.le_of_ble_eq_true rfl, Nat.le_of_ble_eq_true rfl⟩) (k_preV hW hK hN (hW.fx 6 rfl) (EE_6 cA ad S P M 0) rfl) rfl rfl hl.1 rfl (lv_room (Nat.le_of_ble_eq_true rfl)) dX6_cabinFor_34 ⟨Nat.le_of_ble_eq_true rfl, Nat.le_of_ble_eq_true rfl⟩) hS ?_
        clear hW hS; intro H locs hW hS
        refine lv_icmp_lt (tgt := 44) hx hb dX6_cabinFor_37 (by decide) (fun hc => ?_) (fun hc => ?_)
        · replace hF := it_t hF hc
          refine lv_iconst (v := (0 : Int32)) hx hb dX6_cabinFor_44 (by decide) ?_
          exact hK45 (0 : Int32) _ _ _ hF hW hS (lv_sub hl [0, 1, 2, 3] rfl)
        · replace hF := it_f hF hc
          refine lv_iconst (v := (1 : Int32)) hx hb dX6_cabinFor_40 (by decide) ?_
          refine lv_goto (tgt := 45) hx hb dX6_cabinFor_41 (by decide) ?_
          exact hK45 (1 : Int32) _ _ _ hF hW hS (lv_sub hl [0, 1, 2, 3] rfl)

set_option maxHeartbeats 4000000 in
set_option maxRecDepth 100000 in
theorem w6_cabinFor {p : Program} {l : Launch} {e : Env} {s : State} {m : MethodId} {args : Array Value} {below : List Frame} {meth : Method} {c : Code} (C : MC p s m args meth c cX6_cabinFor (some .int) 6 RX6 wsX6_cabinFor) {D : va_G} {cA : Nat → ClassId} {z : Nat} {ad : Nat → Nat → Nat} {N : TN} (hK : va_K D vwCl (tysW cA) s) (hN : NW s) {S : TS} {P : TP} {M : TS} (a1 : Int32) (a2 : Int32) {v : Int32} (hF : f6_cabinFor M a1 a2 = some v)
    {H : Heap} {ls : Array Slot} (hW : Wd D cA z ad N S P M H) {locs : List Loc} (hS : va_S (fun q => z ≤ q) s.heap H locs) (hl : lv_has ls 6 [(0, .ref (ad 6 0)), (1, .int a1), (2, .int a2)]) : W p l e rm6_cabinFor s m args below meth c H locs 0 0 (MQ below (Qi D cA z v (ad, N, S, P, M)) args s 0 0 (fun q => z ≤ q)) (F0 m 0 ls []) := by
  obtain ⟨hx, hb, hr, hml, hown, hts, hlk⟩ := id C
  unfold f6_cabinFor at hF
  refine lv_iconst (v := (0 : Int32)) hx hb dX6_cabinFor_0 (by decide) ?_
  refine lv_istore_n (lv' := [(3, .int (0 : Int32)), (0, .ref (ad 6 0)), (1, .int a1), (2, .int a2)]) hx hb dX6_cabinFor_1 rfl hl (by decide) rfl ?_
  clear hl; intro ls hl
  refine w6_cabinFor_2 C hK hN a1 a2 (hE := ?_) FU (0 : Int32) _ _ _ hF hW hS (lv_sub hl [1, 2, 3, 0] rfl)
  intro  H locs ls hF hW hS hl
  refine lv_iconst (v := (-1 : Int32)) hx hb dX6_cabinFor_112 (by decide) ?_
  have hq1 := Option.some.inj hF
  subst hq1
  exact e_i hx hb hr hlk hK hN hW hS dX6_cabinFor_113

set_option maxHeartbeats 4000000 in
set_option maxRecDepth 100000 in
theorem c6_cabinFor (l : Launch) {D : va_G} {cA : Nat → ClassId} {z : Nat} {ad : Nat → Nat → Nat} {N : TN} {S : TS} {P : TP} {M : TS} (a1 : Int32) (a2 : Int32) {v : Int32} (hF : f6_cabinFor M a1 a2 = some v) : Met l yX6_cabinFor wsX6_cabinFor rm6_cabinFor (va_Pc [.ref (ad 6 0), .int a1, .int a2] (Wl D cA z (ad, N, S, P, M))) (Qi D cA z v (ad, N, S, P, M)) 0 0 (fun q => z ≤ q) := by
  refine Met.ofW (cc := cX6_cabinFor) (maxL := 6) (ret := (some .int)) (by decide) rfl ?_
  intro p e s m args below meth c s₁ B hml hv
  obtain ⟨rfl, hW, hK, hN⟩ := hv
  have hl := lv_entry ([.ref (ad 6 0), .int a1, .int a2]) (n := 6) (Nat.le_of_ble_eq_true rfl)
  rw [lg_entry_eq]
  generalize (lg_sl ([.ref (ad 6 0), .int a1, .int a2]) ++ List.replicate (6 - (lg_sl ([.ref (ad 6 0), .int a1, .int a2])).length) Slot.unset).toArray = ls at hl ⊢
  exact w6_cabinFor ⟨B.exec, B.bytes, B.returns, hml, findClass_of_methodNamed B.named, atoms_spec (ws := wsX6_cabinFor) B.pre, B.notSynchronized⟩ hK hN a1 a2 hF hW va_S.rf hl

-- 6 comesOff
abbrev rm6_comesOff : Room := { frames := 1, cells := 0, slots := 0, locals := 23 }
def f6_comesOff (M : TS) (a1 : Int32) : Option (TS) :=
  (f6_put M a1 (4 : Int32) (2 : Int32)).bind fun (M1 : TS) =>
  (f6_put M1 a1 (6 : Int32) (-1 : Int32)).bind fun (M3 : TS) =>
  (f6_put M3 a1 (7 : Int32) (-1 : Int32)).bind fun (M5 : TS) =>
  (f6_put M5 a1 (8 : Int32) (-1 : Int32)).bind fun (M7 : TS) =>
  (f6_put M7 a1 (9 : Int32) (-1 : Int32)).bind fun (M9 : TS) =>
  some M9
set_option maxHeartbeats 4000000 in
set_option maxRecDepth 100000 in
theorem w6_comesOff {p : Program} {l : Launch} {e : Env} {s : State} {m : MethodId} {args : Array Value} {below : List Frame} {meth : Method} {c : Code} (C : MC p s m args meth c cX6_comesOff none 2 RX6 wsX6_comesOff) {D : va_G} {cA : Nat → ClassId} {z : Nat} {ad : Nat → Nat → Nat} {N : TN} (hK : va_K D vwCl (tysW cA) s) (hN : NW s) {S : TS} {P : TP} {M : TS} (a1 : Int32) {M' : TS} (hF : f6_comesOff M a1 = some M')
    {H : Heap} {ls : Array Slot} (hW : Wd D cA z ad N S P M H) {locs : List Loc} (hS : va_S (fun q => z ≤ q) s.heap H locs) (hl : lv_has ls 2 [(0, .ref (ad 6 0)), (1, .int a1)]) : W p l e rm6_comesOff s m args below meth c H locs 0 0 (MQ below (Qv D cA z (ad, N, S, P, M')) args s 0 0 (fun q => z ≤ q)) (F0 m 0 ls []) := by
  obtain ⟨hx, hb, hr, hml, hown, hts, hlk⟩ := id C
  unfold f6_comesOff at hF
  refine lv_aload_n hx hb dX6_comesOff_0 rfl (lv_at hl 0 rfl) ?_
  refine lv_iload_n hx hb dX6_comesOff_1 rfl (lv_at hl 1 rfl) ?_
  refine lv_iconst (v := (4 : Int32)) hx hb dX6_comesOff_2 (by decide) ?_
  refine lv_iconst (v := (2 : Int32)) hx hb dX6_comesOff_3 (by decide) ?_
  replace hF := ob hF
  obtain ⟨M1, q2, hF⟩ := hF
  refine k_v (va_runV (As := [.int a1, .int (4 : Int32), .int (2 : Int32)]) (rest := []) ⟨hx, hb, hml, hown, hts⟩ (c6_put l a1 (4 : Int32) (2 : Int32) q2) (cwV 3 hts gX6_comesOff_X6_put rfl rfl rfl (by decide +kernel) ⟨Nat.le_of_ble_eq_true rfl, Nat.le_of_ble_eq_true rfl⟩) (k_preV hW hK hN (hW.fx 6 rfl) (EE_6 cA ad S P M 0) rfl) rfl rfl hl.1 rfl (lv_room (Nat.le_of_ble_eq_true rfl)) dX6_comesOff_4 ⟨Nat.le_of_ble_eq_true rfl, Nat.le_of_ble_eq_true rfl⟩) hS ?_
  clear hW hS; intro H locs hW hS
  refine lv_aload_n hx hb dX6_comesOff_7 rfl (lv_at hl 0 rfl) ?_
  refine lv_iload_n hx hb dX6_comesOff_8 rfl (lv_at hl 1 rfl) ?_
  refine lv_bipush (v := (6 : Int32)) hx hb dX6_comesOff_9 (by decide) ?_
  refine lv_iconst (v := (-1 : Int32)) hx hb dX6_comesOff_11 (by decide) ?_
  replace hF := ob hF
  obtain ⟨M3, q4, hF⟩ := hF
  refine k_v (va_runV (As := [.int a1, .int (6 : Int32), .int (-1 : Int32)]) (rest := []) ⟨hx, hb, hml, hown, hts⟩ (c6_put l a1 (6 : Int32) (-1 : Int32) q4) (cwV 3 hts gX6_comesOff_X6_put rfl rfl rfl (by decide +kernel) ⟨Nat.le_of_ble_eq_true rfl, Nat.le_of_ble_eq_true rfl⟩) (k_preV hW hK hN (hW.fx 6 rfl) (EE_6 cA ad S P M1 0) rfl) rfl rfl hl.1 rfl (lv_room (Nat.le_of_ble_eq_true rfl)) dX6_comesOff_12 ⟨Nat.le_of_ble_eq_true rfl, Nat.le_of_ble_eq_true rfl⟩) hS ?_
  clear hW hS; intro H locs hW hS
  refine lv_aload_n hx hb dX6_comesOff_15 rfl (lv_at hl 0 rfl) ?_
  refine lv_iload_n hx hb dX6_comesOff_16 rfl (lv_at hl 1 rfl) ?_
  refine lv_bipush (v := (7 : Int32)) hx hb dX6_comesOff_17 (by decide) ?_
  refine lv_iconst (v := (-1 : Int32)) hx hb dX6_comesOff_19 (by decide) ?_
  replace hF := ob hF
  obtain ⟨M5, q6, hF⟩ := hF
  refine k_v (va_runV (As := [.int a1, .int (7 : Int32), .int (-1 : Int32)]) (rest := []) ⟨hx, hb, hml, hown, hts⟩ (c6_put l a1 (7 : Int32) (-1 : Int32) q6) (cwV 3 hts gX6_comesOff_X6_put rfl rfl rfl (by decide +kernel) ⟨Nat.le_of_ble_eq_true rfl, Nat.le_of_ble_eq_true rfl⟩) (k_preV hW hK hN (hW.fx 6 rfl) (EE_6 cA ad S P M3 0) rfl) rfl rfl hl.1 rfl (lv_room (Nat.le_of_ble_eq_true rfl)) dX6_comesOff_20 ⟨Nat.le_of_ble_eq_true rfl, Nat.le_of_ble_eq_true rfl⟩) hS ?_
  clear hW hS; intro H locs hW hS
  refine lv_aload_n hx hb dX6_comesOff_23 rfl (lv_at hl 0 rfl) ?_
  refine lv_iload_n hx hb dX6_comesOff_24 rfl (lv_at hl 1 rfl) ?_
  refine lv_bipush (v := (8 : Int32)) hx hb dX6_comesOff_25 (by decide) ?_
  refine lv_iconst (v := (-1 : Int32)) hx hb dX6_comesOff_27 (by decide) ?_
  replace hF := ob hF
  obtain ⟨M7, q8, hF⟩ := hF
  refine k_v (va_runV (As := [.int a1, .int (8 : Int32), .int (-1 : Int32)]) (rest := []) ⟨hx, hb, hml, hown, hts⟩ (c6_put l a1 (8 : Int32) (-1 : Int32) q8) (cwV 3 hts gX6_comesOff_X6_put rfl rfl rfl (by decide +kernel) ⟨Nat.le_of_ble_eq_true rfl, Nat.le_of_ble_eq_true rfl⟩) (k_preV hW hK hN (hW.fx 6 rfl) (EE_6 cA ad S P M5 0) rfl) rfl rfl hl.1 rfl (lv_room (Nat.le_of_ble_eq_true rfl)) dX6_comesOff_28 ⟨Nat.le_of_ble_eq_true rfl, Nat.le_of_ble_eq_true rfl⟩) hS ?_
  clear hW hS; intro H locs hW hS
  refine lv_aload_n hx hb dX6_comesOff_31 rfl (lv_at hl 0 rfl) ?_
  refine lv_iload_n hx hb dX6_comesOff_32 rfl (lv_at hl 1 rfl) ?_
  refine lv_bipush (v := (9 : Int32)) hx hb dX6_comesOff_33 (by decide) ?_
  refine lv_iconst (v := (-1 : Int32)) hx hb dX6_comesOff_35 (by decide) ?_
  replace hF := ob hF
  obtain ⟨M9, q10, hF⟩ := hF
  refine k_v (va_runV (As := [.int a1, .int (9 : Int32), .int (-1 : Int32)]) (rest := []) ⟨hx, hb, hml, hown, hts⟩ (c6_put l a1 (9 : Int32) (-1 : Int32) q10) (cwV 3 hts gX6_comesOff_X6_put rfl rfl rfl (by decide +kernel) ⟨Nat.le_of_ble_eq_true rfl, Nat.le_of_ble_eq_true rfl⟩) (k_preV hW hK hN (hW.fx 6 rfl) (EE_6 cA ad S P M7 0) rfl) rfl rfl hl.1 rfl (lv_room (Nat.le_of_ble_eq_true rfl)) dX6_comesOff_36 ⟨Nat.le_of_ble_eq_true rfl, Nat.le_of_ble_eq_true rfl⟩) hS ?_
  clear hW hS; intro H locs hW hS
  have hq1 := Option.some.inj hF
  subst hq1
  exact e_v hx hb hr hlk hK hN hW hS dX6_comesOff_39

set_option maxHeartbeats 4000000 in
set_option maxRecDepth 100000 in
theorem c6_comesOff (l : Launch) {D : va_G} {cA : Nat → ClassId} {z : Nat} {ad : Nat → Nat → Nat} {N : TN} {S : TS} {P : TP} {M : TS} (a1 : Int32) {M' : TS} (hF : f6_comesOff M a1 = some M') : Met l yX6_comesOff wsX6_comesOff rm6_comesOff (va_Pc [.ref (ad 6 0), .int a1] (Wl D cA z (ad, N, S, P, M))) (Qv D cA z (ad, N, S, P, M')) 0 0 (fun q => z ≤ q) := by
  refine Met.ofW (cc := cX6_comesOff) (maxL := 2) (ret := none) (by decide) rfl ?_
  intro p e s m args below meth c s₁ B hml hv
  obtain ⟨rfl, hW, hK, hN⟩ := hv
  have hl := lv_entry ([.ref (ad 6 0), .int a1]) (n := 2) (Nat.le_of_ble_eq_true rfl)
  rw [lg_entry_eq]
  generalize (lg_sl ([.ref (ad 6 0), .int a1]) ++ List.replicate (2 - (lg_sl ([.ref (ad 6 0), .int a1])).length) Slot.unset).toArray = ls at hl ⊢
  exact w6_comesOff ⟨B.exec, B.bytes, B.returns, hml, findClass_of_methodNamed B.named, atoms_spec (ws := wsX6_comesOff) B.pre, B.notSynchronized⟩ hK hN a1 hF hW va_S.rf hl

-- 6 count
abbrev rm6_count : Room := { frames := 0, cells := 0, slots := 0, locals := 0 }
def f6_count (M : TS) (a1 : Int32) : Option (Int32) :=
  if a1 = 0 then
  (some (M 620 0))
  else
  (if a1 = 1 then
  (some (M 621 0))
  else
  (if a1 = 2 then
  (some (M 622 0))
  else
  (if a1 = 3 then
  (some (M 623 0))
  else
  (if a1 = 4 then
  (some (M 624 0))
  else
  (some (-1 : Int32))))))
set_option maxRecDepth 20000 in
theorem hi6_count_6 : ∀ w ∈ u_ws RX6 TX6 31, w ∈ wsX6_count := by decide +kernel
set_option maxHeartbeats 4000000 in
set_option maxRecDepth 100000 in
theorem w6_count {p : Program} {l : Launch} {e : Env} {s : State} {m : MethodId} {args : Array Value} {below : List Frame} {meth : Method} {c : Code} (C : MC p s m args meth c cX6_count (some .int) 2 RX6 wsX6_count) {D : va_G} {cA : Nat → ClassId} {z : Nat} {ad : Nat → Nat → Nat} {N : TN} (hK : va_K D vwCl (tysW cA) s) (hN : NW s) {S : TS} {P : TP} {M : TS} (a1 : Int32) {v : Int32} (hF : f6_count M a1 = some v)
    {H : Heap} {ls : Array Slot} (hW : Wd D cA z ad N S P M H) {locs : List Loc} (hS : va_S (fun q => z ≤ q) s.heap H locs) (hl : lv_has ls 2 [(0, .ref (ad 6 0)), (1, .int a1)]) : W p l e rm6_count s m args below meth c H locs 0 0 (MQ below (Qi D cA z v (ad, N, S, P, M)) args s 0 0 (fun q => z ≤ q)) (F0 m 0 ls []) := by
  obtain ⟨hx, hb, hr, hml, hown, hts, hlk⟩ := id C
  unfold f6_count at hF
  refine lv_iload_n hx hb dX6_count_0 rfl (lv_at hl 1 rfl) ?_
  by_cases hn0 : a1 = 0
  · replace hF := it_t hF hn0
    refine lv_tableIn (off := 35) (tgt := 36) hx hb dX6_count_1 (by rw [hn0]; decide) (by rw [hn0]; decide) (by rw [hn0]; rfl) (by decide) ?_
    refine lv_aload_n hx hb dX6_count_36 rfl (lv_at hl 0 rfl) ?_
    refine g6_20 hx hb hts hi6_count_6 hown hK hW (hts (.fieldLink RX6 81 RX6 "ships" "I") (by decide +kernel)) dX6_count_37 ?_
    have hq1 := Option.some.inj hF
    subst hq1
    exact e_i hx hb hr hlk hK hN hW hS dX6_count_40
  · replace hF := it_f hF hn0
    by_cases hn1 : a1 = 1
    · replace hF := it_t hF hn1
      refine lv_tableIn (off := 40) (tgt := 41) hx hb dX6_count_1 (by rw [hn1]; decide) (by rw [hn1]; decide) (by rw [hn1]; rfl) (by decide) ?_
      refine lv_aload_n hx hb dX6_count_41 rfl (lv_at hl 0 rfl) ?_
      refine g6_21 hx hb hts hi6_count_6 hown hK hW (hts (.fieldLink RX6 92 RX6 "cabins" "I") (by decide +kernel)) dX6_count_42 ?_
      have hq1 := Option.some.inj hF
      subst hq1
      exact e_i hx hb hr hlk hK hN hW hS dX6_count_45
    · replace hF := it_f hF hn1
      by_cases hn2 : a1 = 2
      · replace hF := it_t hF hn2
        refine lv_tableIn (off := 45) (tgt := 46) hx hb dX6_count_1 (by rw [hn2]; decide) (by rw [hn2]; decide) (by rw [hn2]; rfl) (by decide) ?_
        refine lv_aload_n hx hb dX6_count_46 rfl (lv_at hl 0 rfl) ?_
        refine g6_22 hx hb hts hi6_count_6 hown hK hW (hts (.fieldLink RX6 78 RX6 "sailings" "I") (by decide +kernel)) dX6_count_47 ?_
        have hq1 := Option.some.inj hF
        subst hq1
        exact e_i hx hb hr hlk hK hN hW hS dX6_count_50
      · replace hF := it_f hF hn2
        by_cases hn3 : a1 = 3
        · replace hF := it_t hF hn3
          refine lv_tableIn (off := 50) (tgt := 51) hx hb dX6_count_1 (by rw [hn3]; decide) (by rw [hn3]; decide) (by rw [hn3]; rfl) (by decide) ?_
          refine lv_aload_n hx hb dX6_count_51 rfl (lv_at hl 0 rfl) ?_
          refine g6_23 hx hb hts hi6_count_6 hown hK hW (hts (.fieldLink RX6 74 RX6 "tickets" "I") (by decide +kernel)) dX6_count_52 ?_
          have hq1 := Option.some.inj hF
          subst hq1
          exact e_i hx hb hr hlk hK hN hW hS dX6_count_55
        · replace hF := it_f hF hn3
          by_cases hn4 : a1 = 4
          · replace hF := it_t hF hn4
            refine lv_tableIn (off := 55) (tgt := 56) hx hb dX6_count_1 (by rw [hn4]; decide) (by rw [hn4]; decide) (by rw [hn4]; rfl) (by decide) ?_
            refine lv_aload_n hx hb dX6_count_56 rfl (lv_at hl 0 rfl) ?_
            refine g6_24 hx hb hts hi6_count_6 hown hK hW (hts (.fieldLink RX6 172 RX6 "turns" "I") (by decide +kernel)) dX6_count_57 ?_
            have hq1 := Option.some.inj hF
            subst hq1
            exact e_i hx hb hr hlk hK hN hW hS dX6_count_60
          · replace hF := it_f hF hn4
            have hq0 := sw_ne hn0 (n := 0) (by decide)
            have hq1 := sw_ne hn1 (n := 1) (by decide)
            have hq2 := sw_ne hn2 (n := 2) (by decide)
            have hq3 := sw_ne hn3 (n := 3) (by decide)
            have hq4 := sw_ne hn4 (n := 4) (by decide)
            refine lv_tableOut (tgt := 61) hx hb dX6_count_1 (by omega) (by decide) ?_
            refine lv_iconst (v := (-1 : Int32)) hx hb dX6_count_61 (by decide) ?_
            have hq1 := Option.some.inj hF
            subst hq1
            exact e_i hx hb hr hlk hK hN hW hS dX6_count_62

set_option maxHeartbeats 4000000 in
set_option maxRecDepth 100000 in
theorem c6_count (l : Launch) {D : va_G} {cA : Nat → ClassId} {z : Nat} {ad : Nat → Nat → Nat} {N : TN} {S : TS} {P : TP} {M : TS} (a1 : Int32) {v : Int32} (hF : f6_count M a1 = some v) : Met l yX6_count wsX6_count rm6_count (va_Pc [.ref (ad 6 0), .int a1] (Wl D cA z (ad, N, S, P, M))) (Qi D cA z v (ad, N, S, P, M)) 0 0 (fun q => z ≤ q) := by
  refine Met.ofW (cc := cX6_count) (maxL := 2) (ret := (some .int)) (by decide) rfl ?_
  intro p e s m args below meth c s₁ B hml hv
  obtain ⟨rfl, hW, hK, hN⟩ := hv
  have hl := lv_entry ([.ref (ad 6 0), .int a1]) (n := 2) (Nat.le_of_ble_eq_true rfl)
  rw [lg_entry_eq]
  generalize (lg_sl ([.ref (ad 6 0), .int a1]) ++ List.replicate (2 - (lg_sl ([.ref (ad 6 0), .int a1])).length) Slot.unset).toArray = ls at hl ⊢
  exact w6_count ⟨B.exec, B.bytes, B.returns, hml, findClass_of_methodNamed B.named, atoms_spec (ws := wsX6_count) B.pre, B.notSynchronized⟩ hK hN a1 hF hW va_S.rf hl

-- 6 recallTurn
abbrev rm6_recallTurn : Room := { frames := 2, cells := 0, slots := 0, locals := 44 }
def f6_recallTurn_2 (K : TS → Option (Int32 × TS)) (c1 : Int32) : Nat → TS → Int32 → Option (Int32 × TS)
  | 0, _, _ => none
  | n + 1, M, y2 =>
    if (M 623 0) ≤ y2 then
    (K M)
    else
    ((f6_isAboard M y2 c1).bind fun (v1 : Int32) =>
    if v1 = 0 then
    (f6_recallTurn_2 K c1 n M (y2 + 1))
    else
    (lt (lt (up M 630 0 y2) fun (M3 : TS) =>
    f6_recallTurn_2 K c1 n M3 (y2 + 1)) fun (K45 : Option (Int32 × TS)) =>
    if (M 630 0) = (-1 : Int32) then
    (K45)
    else
    ((ix y2 400).bind fun (j4 : Nat) =>
    (ix (M 630 0) 400).bind fun (j5 : Nat) =>
    if (M 3600 j4) ≤ (M 3600 j5) then
    (f6_recallTurn_2 K c1 n M (y2 + 1))
    else
    (K45))))

def f6_recallTurn_73 (K : TS → Option (Int32 × TS)) (c1 : Int32) : Nat → TS → Int32 → Option (Int32 × TS)
  | 0, _, _ => none
  | n + 1, M, y2 =>
    if y2 < 0 then
    (K M)
    else
    ((f6_of M y2 (4 : Int32)).bind fun (v7 : Int32) =>
    (f6_of M y2 (0 : Int32)).bind fun (v9 : Int32) =>
    if v9 = c1 then
    (lt (lt (up M 630 0 y2) fun (M11 : TS) =>
    f6_recallTurn_73 K c1 n M11 (y2 + (-1))) fun (K113 : Option (Int32 × TS)) =>
    if v7 = 0 then
    (K113)
    else
    (if v7 = (1 : Int32) then
    (K113)
    else
    (if v7 = (2 : Int32) then
    (K113)
    else
    (if v7 = (4 : Int32) then
    (K113)
    else
    (f6_recallTurn_73 K c1 n M (y2 + (-1)))))))
    else
    (f6_recallTurn_73 K c1 n M (y2 + (-1))))

def f6_recallTurn (M : TS) (a1 : Int32) : Option (Int32 × TS) :=
  f6_recallTurn_2 (fun (M6 : TS) =>
  if (M6 630 0) = (-1 : Int32) then
  (f6_recallTurn_73 (fun (M12 : TS) =>
  if (M12 630 0) = (-1 : Int32) then
  (some ((0 : Int32), M12))
  else
  (some ((5 : Int32), M12))) a1 FU M6 ((M6 623 0) - (1 : Int32)))
  else
  (some ((4 : Int32), M6))) a1 FU M (0 : Int32)
set_option maxRecDepth 20000 in
theorem hi6_recallTurn_6 : ∀ w ∈ u_ws RX6 TX6 31, w ∈ wsX6_recallTurn := by decide +kernel
set_option maxHeartbeats 4000000 in
set_option maxRecDepth 100000 in
theorem w6_recallTurn_2 {p : Program} {l : Launch} {e : Env} {s : State} {m : MethodId} {args : Array Value} {below : List Frame} {meth : Method} {c : Code} (C : MC p s m args meth c cX6_recallTurn (some .int) 4 RX6 wsX6_recallTurn) {D : va_G} {cA : Nat → ClassId} {z : Nat} {ad : Nat → Nat → Nat} {N : TN} (hK : va_K D vwCl (tysW cA) s) (hN : NW s) {S : TS} {P : TP} (c1 : Int32) {v : Int32} {M' : TS} {K : TS → Option (Int32 × TS)}
    (hE : ∀ (M : TS) (H : Heap) (locs : List Loc) (ls : Array Slot), K M = some (v, M') → Wd D cA z ad N S P M H → va_S (fun q => z ≤ q) s.heap H locs → lv_has ls 4 [(0, .ref (ad 6 0)), (1, .int c1)] → W p l e rm6_recallTurn s m args below meth c H locs 0 0 (MQ below (Qi D cA z v (ad, N, S, P, M')) args s 0 0 (fun q => z ≤ q)) (F0 m 56 ls [])) :
    ∀ (n : Nat) (M : TS) (y2 : Int32) (H : Heap) (locs : List Loc) (ls : Array Slot), f6_recallTurn_2 K c1 n M y2 = some (v, M') → Wd D cA z ad N S P M H → va_S (fun q => z ≤ q) s.heap H locs → lv_has ls 4 [(0, .ref (ad 6 0)), (1, .int c1), (2, .int y2)] → W p l e rm6_recallTurn s m args below meth c H locs 0 0 (MQ below (Qi D cA z v (ad, N, S, P, M')) args s 0 0 (fun q => z ≤ q)) (F0 m 2 ls []) := by
  obtain ⟨hx, hb, hr, hml, hown, hts, hlk⟩ := id C
  intro n
  induction n with
  | zero => intro M y2 H locs ls hF; cases hF
  | succ n ih =>
    intro M y2 H locs ls hF hW hS hl
    rw [f6_recallTurn_2] at hF
    refine lv_iload_n hx hb dX6_recallTurn_2 rfl (lv_at hl 2 rfl) ?_
    refine lv_aload_n hx hb dX6_recallTurn_3 rfl (lv_at hl 0 rfl) ?_
    refine g6_23 hx hb hts hi6_recallTurn_6 hown hK hW (hts (.fieldLink RX6 74 RX6 "tickets" "I") (by decide +kernel)) dX6_recallTurn_4 ?_
    refine lv_icmp_ge (tgt := 56) hx hb dX6_recallTurn_7 (by decide) (fun hc => ?_) (fun hc => ?_)
    · replace hF := it_t hF hc
      exact hE M _ _ _ hF hW hS (lv_sub hl [0, 1] rfl)
    · replace hF := it_f hF hc
      refine lv_aload_n hx hb dX6_recallTurn_10 rfl (lv_at hl 0 rfl) ?_
      refine lv_iload_n hx hb dX6_recallTurn_11 rfl (lv_at hl 2 rfl) ?_
      refine lv_iload_n hx hb dX6_recallTurn_12 rfl (lv_at hl 1 rfl) ?_
      replace hF := ob hF
      obtain ⟨v1, q2, hF⟩ := hF
      refine k_i (va_runV (As := [.int y2, .int c1]) (rest := []) ⟨hx, hb, hml, hown, hts⟩ (c6_isAboard l y2 c1 q2) (cwV 2 hts gX6_recallTurn_X6_isAboard rfl rfl rfl (by decide +kernel) ⟨Nat.le_of_ble_eq_true rfl, Nat.le_of_ble_eq_true rfl⟩) (k_preV hW hK hN (hW.fx 6 rfl) (EE_6 cA ad S P M 0) rfl) rfl rfl hl.1 rfl (lv_room (Nat.le_of_ble_eq_true rfl)) dX6_recallTurn_13 ⟨Nat.le_of_ble_eq_true rfl, Nat.le_of_ble_eq_true rfl⟩) hS ?_
      clear hW hS; intro H locs hW hS
      refine lv_if_eq (tgt := 50) hx hb dX6_recallTurn_16 (by decide) (fun hc => ?_) (fun hc => ?_)
      · replace hF := it_t hF hc
        refine lv_iinc (v := y2 + 1) (lv' := [(2, .int (y2 + 1)), (0, .ref (ad 6 0)), (1, .int c1)]) hx hb dX6_recallTurn_50 hl (k := 2) rfl rfl (by decide) rfl ?_
        clear hl; intro ls hl
        refine lv_goto (tgt := 2) hx hb dX6_recallTurn_53 (by decide) ?_
        exact ih M (y2 + 1) _ _ _ hF hW hS (lv_sub hl [1, 2, 0] rfl)
      · replace hF := it_f hF hc
        refine lv_aload_n hx hb dX6_recallTurn_19 rfl (lv_at hl 0 rfl) ?_
        refine g6_30 hx hb hts hi6_recallTurn_6 hown hK hW (hts (.fieldLink RX6 157 RX6 "about" "I") (by decide +kernel)) dX6_recallTurn_20 ?_
        refine lv_iconst (v := (-1 : Int32)) hx hb dX6_recallTurn_23 (by decide) ?_
        replace hF := lt_ex hF
        obtain ⟨K45, eK45, hF⟩ := hF
        have hK45 : ∀ (H : Heap) (locs : List Loc) (ls : Array Slot), K45 = some (v, M') → Wd D cA z ad N S P M H → va_S (fun q => z ≤ q) s.heap H locs → lv_has ls 4 [(0, .ref (ad 6 0)), (1, .int c1), (2, .int y2)] → W p l e rm6_recallTurn s m args below meth c H locs 0 0 (MQ below (Qi D cA z v (ad, N, S, P, M')) args s 0 0 (fun q => z ≤ q)) (F0 m 45 ls []) := by
          intro H locs ls hF hW hS hl
          subst eK45
          refine lv_aload_n hx hb dX6_recallTurn_45 rfl (lv_at hl 0 rfl) ?_
          refine lv_iload_n hx hb dX6_recallTurn_46 rfl (lv_at hl 2 rfl) ?_
          replace hF := lt_ex hF
          obtain ⟨M3, eM3, hF⟩ := hF
          refine p6_30 hx hb hts hi6_recallTurn_6 hown hK hW hS eM3 (hts (.fieldLink RX6 157 RX6 "about" "I") (by decide +kernel)) dX6_recallTurn_47 ?_
          clear hW hS; intro H locs hW hS
          refine lv_iinc (v := y2 + 1) (lv' := [(2, .int (y2 + 1)), (0, .ref (ad 6 0)), (1, .int c1)]) hx hb dX6_recallTurn_50 hl (k := 2) rfl rfl (by decide) rfl ?_
          clear hl; intro ls hl
          refine lv_goto (tgt := 2) hx hb dX6_recallTurn_53 (by decide) ?_
          exact ih M3 (y2 + 1) _ _ _ hF hW hS (lv_sub hl [1, 2, 0] rfl)
        clear eK45
        refine lv_icmp_eq (tgt := 45) hx hb dX6_recallTurn_24 (by decide) (fun hc => ?_) (fun hc => ?_)
        · replace hF := it_t hF hc
          exact hK45 _ _ _ hF hW hS (lv_sub hl [0, 1, 2] rfl)
        · replace hF := it_f hF hc
          refine lv_aload_n hx hb dX6_recallTurn_27 rfl (lv_at hl 0 rfl) ?_
          refine g6_16 hx hb hts hi6_recallTurn_6 hown hK hW (hts (.fieldLink RX6 59 RX6 "boarded" "[I") (by decide +kernel)) dX6_recallTurn_28 ?_
          refine lv_iload_n hx hb dX6_recallTurn_31 rfl (lv_at hl 2 rfl) ?_
          replace hF := ob hF
          obtain ⟨j4, ej4, hF⟩ := hF
          refine l36 hx hb hK hW ej4 dX6_recallTurn_32 ?_
          refine lv_aload_n hx hb dX6_recallTurn_33 rfl (lv_at hl 0 rfl) ?_
          refine g6_16 hx hb hts hi6_recallTurn_6 hown hK hW (hts (.fieldLink RX6 59 RX6 "boarded" "[I") (by decide +kernel)) dX6_recallTurn_34 ?_
          refine lv_aload_n hx hb dX6_recallTurn_37 rfl (lv_at hl 0 rfl) ?_
          refine g6_30 hx hb hts hi6_recallTurn_6 hown hK hW (hts (.fieldLink RX6 157 RX6 "about" "I") (by decide +kernel)) dX6_recallTurn_38 ?_
          replace hF := ob hF
          obtain ⟨j5, ej5, hF⟩ := hF
          refine l36 hx hb hK hW ej5 dX6_recallTurn_41 ?_
          refine lv_icmp_le (tgt := 50) hx hb dX6_recallTurn_42 (by decide) (fun hc => ?_) (fun hc => ?_)
          · replace hF := it_t hF hc
            refine lv_iinc (v := y2 + 1) (lv' := [(2, .int (y2 + 1)), (0, .ref (ad 6 0)), (1, .int c1)]) hx hb dX6_recallTurn_50 hl (k := 2) rfl rfl (by decide) rfl ?_
            clear hl; intro ls hl
            refine lv_goto (tgt := 2) hx hb dX6_recallTurn_53 (by decide) ?_
            exact ih M (y2 + 1) _ _ _ hF hW hS (lv_sub hl [1, 2, 0] rfl)
          · replace hF := it_f hF hc
            exact hK45 _ _ _ hF hW hS (lv_sub hl [0, 1, 2] rfl)

set_option maxHeartbeats 4000000 in
set_option maxRecDepth 100000 in
theorem w6_recallTurn_73 {p : Program} {l : Launch} {e : Env} {s : State} {m : MethodId} {args : Array Value} {below : List Frame} {meth : Method} {c : Code} (C : MC p s m args meth c cX6_recallTurn (some .int) 4 RX6 wsX6_recallTurn) {D : va_G} {cA : Nat → ClassId} {z : Nat} {ad : Nat → Nat → Nat} {N : TN} (hK : va_K D vwCl (tysW cA) s) (hN : NW s) {S : TS} {P : TP} (c1 : Int32) {v : Int32} {M' : TS} {K : TS → Option (Int32 × TS)}
    (hE : ∀ (M : TS) (H : Heap) (locs : List Loc) (ls : Array Slot), K M = some (v, M') → Wd D cA z ad N S P M H → va_S (fun q => z ≤ q) s.heap H locs → lv_has ls 4 [(0, .ref (ad 6 0))] → W p l e rm6_recallTurn s m args below meth c H locs 0 0 (MQ below (Qi D cA z v (ad, N, S, P, M')) args s 0 0 (fun q => z ≤ q)) (F0 m 124 ls [])) :
    ∀ (n : Nat) (M : TS) (y2 : Int32) (H : Heap) (locs : List Loc) (ls : Array Slot), f6_recallTurn_73 K c1 n M y2 = some (v, M') → Wd D cA z ad N S P M H → va_S (fun q => z ≤ q) s.heap H locs → lv_has ls 4 [(0, .ref (ad 6 0)), (1, .int c1), (2, .int y2)] → W p l e rm6_recallTurn s m args below meth c H locs 0 0 (MQ below (Qi D cA z v (ad, N, S, P, M')) args s 0 0 (fun q => z ≤ q)) (F0 m 73 ls []) := by
  obtain ⟨hx, hb, hr, hml, hown, hts, hlk⟩ := id C
  intro n
  induction n with
  | zero => intro M y2 H locs ls hF; cases hF
  | succ n ih =>
    intro M y2 H locs ls hF hW hS hl
    rw [f6_recallTurn_73] at hF
    refine lv_iload_n hx hb dX6_recallTurn_73 rfl (lv_at hl 2 rfl) ?_
    refine lv_if_lt (tgt := 124) hx hb dX6_recallTurn_74 (by decide) (fun hc => ?_) (fun hc => ?_)
    · replace hF := it_t hF hc
      exact hE M _ _ _ hF hW hS (lv_sub hl [0] rfl)
    · replace hF := it_f hF hc
      refine lv_aload_n hx hb dX6_recallTurn_77 rfl (lv_at hl 0 rfl) ?_
      refine lv_iload_n hx hb dX6_recallTurn_78 rfl (lv_at hl 2 rfl) ?_
      refine lv_iconst (v := (4 : Int32)) hx hb dX6_recallTurn_79 (by decide) ?_
      replace hF := ob hF
      obtain ⟨v7, q8, hF⟩ := hF
      refine k_i (va_runV (As := [.int y2, .int (4 : Int32)]) (rest := []) ⟨hx, hb, hml, hown, hts⟩ (c6_of l y2 (4 : Int32) q8) (cwV 2 hts gX6_recallTurn_X6_of rfl rfl rfl (by decide +kernel) ⟨Nat.le_of_ble_eq_true rfl, Nat.le_of_ble_eq_true rfl⟩) (k_preV hW hK hN (hW.fx 6 rfl) (EE_6 cA ad S P M 0) rfl) rfl rfl hl.1 rfl (lv_room (Nat.le_of_ble_eq_true rfl)) dX6_recallTurn_80 ⟨Nat.le_of_ble_eq_true rfl, Nat.le_of_ble_eq_true rfl⟩) hS ?_
      clear hW hS; intro H locs hW hS
      refine lv_istore_n (lv' := [(3, .int v7), (0, .ref (ad 6 0)), (1, .int c1), (2, .int y2)]) hx hb dX6_recallTurn_83 rfl hl (by decide) rfl ?_
      clear hl; intro ls hl
      refine lv_aload_n hx hb dX6_recallTurn_84 rfl (lv_at hl 1 rfl) ?_
      refine lv_iload_n hx hb dX6_recallTurn_85 rfl (lv_at hl 3 rfl) ?_
      refine lv_iconst (v := (0 : Int32)) hx hb dX6_recallTurn_86 (by decide) ?_
      replace hF := ob hF
      obtain ⟨v9, q10, hF⟩ := hF
      refine k_i (va_runV (As := [.int y2, .int (0 : Int32)]) (rest := []) ⟨hx, hb, hml, hown, hts⟩ (c6_of l y2 (0 : Int32) q10) (cwV 2 hts gX6_recallTurn_X6_of rfl rfl rfl (by decide +kernel) ⟨Nat.le_of_ble_eq_true rfl, Nat.le_of_ble_eq_true rfl⟩) (k_preV hW hK hN (hW.fx 6 rfl) (EE_6 cA ad S P M 0) rfl) rfl rfl hl.1 rfl (lv_room (Nat.le_of_ble_eq_true rfl)) dX6_recallTurn_87 ⟨Nat.le_of_ble_eq_true rfl, Nat.le_of_ble_eq_true rfl⟩) hS ?_
      clear hW hS; intro H locs hW hS
      refine lv_iload_n hx hb dX6_recallTurn_90 rfl (lv_at hl 2 rfl) ?_
      refine lv_icmp_ne (tgt := 118) hx hb dX6_recallTurn_91 (by decide) (fun hc => ?_) (fun hc => ?_)
      · replace hF := it_f hF hc
        refine lv_iinc (v := y2 + (-1)) (lv' := [(2, .int (y2 + (-1))), (3, .int v7), (0, .ref (ad 6 0)), (1, .int c1)]) hx hb dX6_recallTurn_118 hl (k := 3) rfl rfl (by decide) rfl ?_
        clear hl; intro ls hl
        refine lv_goto (tgt := 73) hx hb dX6_recallTurn_121 (by decide) ?_
        exact ih M (y2 + (-1)) _ _ _ hF hW hS (lv_sub hl [2, 3, 0] rfl)
      · replace hF := it_t hF hc
        refine lv_iload_n hx hb dX6_recallTurn_94 rfl (lv_at hl 0 rfl) ?_
        replace hF := lt_ex hF
        obtain ⟨K113, eK113, hF⟩ := hF
        have hK113 : ∀ (H : Heap) (locs : List Loc) (ls : Array Slot), K113 = some (v, M') → Wd D cA z ad N S P M H → va_S (fun q => z ≤ q) s.heap H locs → lv_has ls 4 [(0, .ref (ad 6 0)), (1, .int c1), (2, .int y2)] → W p l e rm6_recallTurn s m args below meth c H locs 0 0 (MQ below (Qi D cA z v (ad, N, S, P, M')) args s 0 0 (fun q => z ≤ q)) (F0 m 113 ls []) := by
          intro H locs ls hF hW hS hl
          subst eK113
          refine lv_aload_n hx hb dX6_recallTurn_113 rfl (lv_at hl 0 rfl) ?_
          refine lv_iload_n hx hb dX6_recallTurn_114 rfl (lv_at hl 2 rfl) ?_
          replace hF := lt_ex hF
          obtain ⟨M11, eM11, hF⟩ := hF
          refine p6_30 hx hb hts hi6_recallTurn_6 hown hK hW hS eM11 (hts (.fieldLink RX6 157 RX6 "about" "I") (by decide +kernel)) dX6_recallTurn_115 ?_
          clear hW hS; intro H locs hW hS
          refine lv_iinc (v := y2 + (-1)) (lv' := [(2, .int (y2 + (-1))), (0, .ref (ad 6 0)), (1, .int c1)]) hx hb dX6_recallTurn_118 hl (k := 2) rfl rfl (by decide) rfl ?_
          clear hl; intro ls hl
          refine lv_goto (tgt := 73) hx hb dX6_recallTurn_121 (by decide) ?_
          exact ih M11 (y2 + (-1)) _ _ _ hF hW hS (lv_sub hl [1, 2, 0] rfl)
        clear eK113
        refine lv_if_eq (tgt := 113) hx hb dX6_recallTurn_95 (by decide) (fun hc => ?_) (fun hc => ?_)
        · replace hF := it_t hF hc
          exact hK113 _ _ _ hF hW hS (lv_sub hl [1, 2, 3] rfl)
        · replace hF := it_f hF hc
          refine lv_iload_n hx hb dX6_recallTurn_98 rfl (lv_at hl 0 rfl) ?_
          refine lv_iconst (v := (1 : Int32)) hx hb dX6_recallTurn_99 (by decide) ?_
          refine lv_icmp_eq (tgt := 113) hx hb dX6_recallTurn_100 (by decide) (fun hc => ?_) (fun hc => ?_)
          · replace hF := it_t hF hc
            exact hK113 _ _ _ hF hW hS (lv_sub hl [1, 2, 3] rfl)
          · replace hF := it_f hF hc
            refine lv_iload_n hx hb dX6_recallTurn_103 rfl (lv_at hl 0 rfl) ?_
            refine lv_iconst (v := (2 : Int32)) hx hb dX6_recallTurn_104 (by decide) ?_
            refine lv_icmp_eq (tgt := 113) hx hb dX6_recallTurn_105 (by decide) (fun hc => ?_) (fun hc => ?_)
            · replace hF := it_t hF hc
              exact hK113 _ _ _ hF hW hS (lv_sub hl [1, 2, 3] rfl)
            · replace hF := it_f hF hc
              refine lv_iload_n hx hb dX6_recallTurn_108 rfl (lv_at hl 0 rfl) ?_
              refine lv_iconst (v := (4 : Int32)) hx hb dX6_recallTurn_109 (by decide) ?_
              refine lv_icmp_ne (tgt := 118) hx hb dX6_recallTurn_110 (by decide) (fun hc => ?_) (fun hc => ?_)
              · replace hF := it_f hF hc
                refine lv_iinc (v := y2 + (-1)) (lv' := [(2, .int (y2 + (-1))), (3, .int v7), (0, .ref (ad 6 0)), (1, .int c1)]) hx hb dX6_recallTurn_118 hl (k := 3) rfl rfl (by decide) rfl ?_
                clear hl; intro ls hl
                refine lv_goto (tgt := 73) hx hb dX6_recallTurn_121 (by decide) ?_
                exact ih M (y2 + (-1)) _ _ _ hF hW hS (lv_sub hl [2, 3, 0] rfl)
              · replace hF := it_t hF hc
                exact hK113 _ _ _ hF hW hS (lv_sub hl [1, 2, 3] rfl)

set_option maxHeartbeats 4000000 in
set_option maxRecDepth 100000 in
theorem w6_recallTurn {p : Program} {l : Launch} {e : Env} {s : State} {m : MethodId} {args : Array Value} {below : List Frame} {meth : Method} {c : Code} (C : MC p s m args meth c cX6_recallTurn (some .int) 4 RX6 wsX6_recallTurn) {D : va_G} {cA : Nat → ClassId} {z : Nat} {ad : Nat → Nat → Nat} {N : TN} (hK : va_K D vwCl (tysW cA) s) (hN : NW s) {S : TS} {P : TP} {M : TS} (a1 : Int32) {v : Int32} {M' : TS} (hF : f6_recallTurn M a1 = some (v, M'))
    {H : Heap} {ls : Array Slot} (hW : Wd D cA z ad N S P M H) {locs : List Loc} (hS : va_S (fun q => z ≤ q) s.heap H locs) (hl : lv_has ls 4 [(0, .ref (ad 6 0)), (1, .int a1)]) : W p l e rm6_recallTurn s m args below meth c H locs 0 0 (MQ below (Qi D cA z v (ad, N, S, P, M')) args s 0 0 (fun q => z ≤ q)) (F0 m 0 ls []) := by
  obtain ⟨hx, hb, hr, hml, hown, hts, hlk⟩ := id C
  unfold f6_recallTurn at hF
  refine lv_iconst (v := (0 : Int32)) hx hb dX6_recallTurn_0 (by decide) ?_
  refine lv_istore_n (lv' := [(2, .int (0 : Int32)), (0, .ref (ad 6 0)), (1, .int a1)]) hx hb dX6_recallTurn_1 rfl hl (by decide) rfl ?_
  clear hl; intro ls hl
  refine w6_recallTurn_2 C hK hN a1 (hE := ?_) FU M (0 : Int32) _ _ _ hF hW hS (lv_sub hl [1, 2, 0] rfl)
  intro M6 H locs ls hF hW hS hl
  refine lv_aload_n hx hb dX6_recallTurn_56 rfl (lv_at hl 0 rfl) ?_
  refine g6_30 hx hb hts hi6_recallTurn_6 hown hK hW (hts (.fieldLink RX6 157 RX6 "about" "I") (by decide +kernel)) dX6_recallTurn_57 ?_
  refine lv_iconst (v := (-1 : Int32)) hx hb dX6_recallTurn_60 (by decide) ?_
  refine lv_icmp_eq (tgt := 66) hx hb dX6_recallTurn_61 (by decide) (fun hc => ?_) (fun hc => ?_)
  · replace hF := it_t hF hc
    refine lv_aload_n hx hb dX6_recallTurn_66 rfl (lv_at hl 0 rfl) ?_
    refine g6_23 hx hb hts hi6_recallTurn_6 hown hK hW (hts (.fieldLink RX6 74 RX6 "tickets" "I") (by decide +kernel)) dX6_recallTurn_67 ?_
    refine lv_iconst (v := (1 : Int32)) hx hb dX6_recallTurn_70 (by decide) ?_
    refine lv_isub hx hb dX6_recallTurn_71 ?_
    refine lv_istore_n (lv' := [(2, .int ((M6 623 0) - (1 : Int32))), (0, .ref (ad 6 0)), (1, .int a1)]) hx hb dX6_recallTurn_72 rfl hl (by decide) rfl ?_
    clear hl; intro ls hl
    refine w6_recallTurn_73 C hK hN a1 (hE := ?_) FU M6 ((M6 623 0) - (1 : Int32)) _ _ _ hF hW hS (lv_sub hl [1, 2, 0] rfl)
    intro M12 H locs ls hF hW hS hl
    refine lv_aload_n hx hb dX6_recallTurn_124 rfl (lv_at hl 0 rfl) ?_
    refine g6_30 hx hb hts hi6_recallTurn_6 hown hK hW (hts (.fieldLink RX6 157 RX6 "about" "I") (by decide +kernel)) dX6_recallTurn_125 ?_
    refine lv_iconst (v := (-1 : Int32)) hx hb dX6_recallTurn_128 (by decide) ?_
    refine lv_icmp_ne (tgt := 136) hx hb dX6_recallTurn_129 (by decide) (fun hc => ?_) (fun hc => ?_)
    · replace hF := it_f hF hc
      refine lv_iconst (v := (5 : Int32)) hx hb dX6_recallTurn_136 (by decide) ?_
      obtain ⟨hq1, hq2⟩ := Prod.mk.inj (Option.some.inj hF)
      subst hq1
      subst hq2
      exact e_i hx hb hr hlk hK hN hW hS dX6_recallTurn_137
    · replace hF := it_t hF hc
      refine lv_iconst (v := (0 : Int32)) hx hb dX6_recallTurn_132 (by decide) ?_
      refine lv_goto (tgt := 137) hx hb dX6_recallTurn_133 (by decide) ?_
      obtain ⟨hq1, hq2⟩ := Prod.mk.inj (Option.some.inj hF)
      subst hq1
      subst hq2
      exact e_i hx hb hr hlk hK hN hW hS dX6_recallTurn_137
  · replace hF := it_f hF hc
    refine lv_iconst (v := (4 : Int32)) hx hb dX6_recallTurn_64 (by decide) ?_
    obtain ⟨hq1, hq2⟩ := Prod.mk.inj (Option.some.inj hF)
    subst hq1
    subst hq2
    exact e_i hx hb hr hlk hK hN hW hS dX6_recallTurn_65

set_option maxHeartbeats 4000000 in
set_option maxRecDepth 100000 in
theorem c6_recallTurn (l : Launch) {D : va_G} {cA : Nat → ClassId} {z : Nat} {ad : Nat → Nat → Nat} {N : TN} {S : TS} {P : TP} {M : TS} (a1 : Int32) {v : Int32} {M' : TS} (hF : f6_recallTurn M a1 = some (v, M')) : Met l yX6_recallTurn wsX6_recallTurn rm6_recallTurn (va_Pc [.ref (ad 6 0), .int a1] (Wl D cA z (ad, N, S, P, M))) (Qi D cA z v (ad, N, S, P, M')) 0 0 (fun q => z ≤ q) := by
  refine Met.ofW (cc := cX6_recallTurn) (maxL := 4) (ret := (some .int)) (by decide) rfl ?_
  intro p e s m args below meth c s₁ B hml hv
  obtain ⟨rfl, hW, hK, hN⟩ := hv
  have hl := lv_entry ([.ref (ad 6 0), .int a1]) (n := 4) (Nat.le_of_ble_eq_true rfl)
  rw [lg_entry_eq]
  generalize (lg_sl ([.ref (ad 6 0), .int a1]) ++ List.replicate (4 - (lg_sl ([.ref (ad 6 0), .int a1])).length) Slot.unset).toArray = ls at hl ⊢
  exact w6_recallTurn ⟨B.exec, B.bytes, B.returns, hml, findClass_of_methodNamed B.named, atoms_spec (ws := wsX6_recallTurn) B.pre, B.notSynchronized⟩ hK hN a1 hF hW va_S.rf hl

-- 6 isLate
abbrev rm6_isLate : Room := { frames := 1, cells := 0, slots := 0, locals := 22 }
def f6_isLate (M : TS) (a1 : Int32) (a2 : Int32) : Option (Int32) :=
  (f6_of M a1 (5 : Int32)).bind fun (v1 : Int32) =>
  (ix a2 60).bind fun (j3 : Nat) =>
  if v1 ≤ ((M 2700 j3) - (30 : Int32)) then
  (some (0 : Int32))
  else
  (some (1 : Int32))
set_option maxRecDepth 20000 in
theorem hi6_isLate_6 : ∀ w ∈ u_ws RX6 TX6 31, w ∈ wsX6_isLate := by decide +kernel
set_option maxHeartbeats 4000000 in
set_option maxRecDepth 100000 in
theorem w6_isLate {p : Program} {l : Launch} {e : Env} {s : State} {m : MethodId} {args : Array Value} {below : List Frame} {meth : Method} {c : Code} (C : MC p s m args meth c cX6_isLate (some .boolean) 3 RX6 wsX6_isLate) {D : va_G} {cA : Nat → ClassId} {z : Nat} {ad : Nat → Nat → Nat} {N : TN} (hK : va_K D vwCl (tysW cA) s) (hN : NW s) {S : TS} {P : TP} {M : TS} (a1 : Int32) (a2 : Int32) {v : Int32} (hF : f6_isLate M a1 a2 = some v)
    {H : Heap} {ls : Array Slot} (hW : Wd D cA z ad N S P M H) {locs : List Loc} (hS : va_S (fun q => z ≤ q) s.heap H locs) (hl : lv_has ls 3 [(0, .ref (ad 6 0)), (1, .int a1), (2, .int a2)]) : W p l e rm6_isLate s m args below meth c H locs 0 0 (MQ below (Qi D cA z v (ad, N, S, P, M)) args s 0 0 (fun q => z ≤ q)) (F0 m 0 ls []) := by
  obtain ⟨hx, hb, hr, hml, hown, hts, hlk⟩ := id C
  unfold f6_isLate at hF
  refine lv_aload_n hx hb dX6_isLate_0 rfl (lv_at hl 0 rfl) ?_
  refine lv_iload_n hx hb dX6_isLate_1 rfl (lv_at hl 1 rfl) ?_
  refine lv_iconst (v := (5 : Int32)) hx hb dX6_isLate_2 (by decide) ?_
  replace hF := ob hF
  obtain ⟨v1, q2, hF⟩ := hF
  refine k_i (va_runV (As := [.int a1, .int (5 : Int32)]) (rest := []) ⟨hx, hb, hml, hown, hts⟩ (c6_of l a1 (5 : Int32) q2) (cwV 2 hts gX6_isLate_X6_of rfl rfl rfl (by decide +kernel) ⟨Nat.le_of_ble_eq_true rfl, Nat.le_of_ble_eq_true rfl⟩) (k_preV hW hK hN (hW.fx 6 rfl) (EE_6 cA ad S P M 0) rfl) rfl rfl hl.1 rfl (lv_room (Nat.le_of_ble_eq_true rfl)) dX6_isLate_3 ⟨Nat.le_of_ble_eq_true rfl, Nat.le_of_ble_eq_true rfl⟩) hS ?_
  clear hW hS; intro H locs hW hS
  refine lv_aload_n hx hb dX6_isLate_6 rfl (lv_at hl 0 rfl) ?_
  refine g6_7 hx hb hts hi6_isLate_6 hown hK hW (hts (.fieldLink RX6 32 RX6 "minute" "[I") (by decide +kernel)) dX6_isLate_7 ?_
  refine lv_iload_n hx hb dX6_isLate_10 rfl (lv_at hl 2 rfl) ?_
  replace hF := ob hF
  obtain ⟨j3, ej3, hF⟩ := hF
  refine l27 hx hb hK hW ej3 dX6_isLate_11 ?_
  refine lv_bipush (v := (30 : Int32)) hx hb dX6_isLate_12 (by decide) ?_
  refine lv_isub hx hb dX6_isLate_14 ?_
  refine lv_icmp_le (tgt := 22) hx hb dX6_isLate_15 (by decide) (fun hc => ?_) (fun hc => ?_)
  · replace hF := it_t hF hc
    refine lv_iconst (v := (0 : Int32)) hx hb dX6_isLate_22 (by decide) ?_
    have hq1 := Option.some.inj hF
    subst hq1
    exact e_z hx hb hr hlk hK hN hW hS (by decide) dX6_isLate_23
  · replace hF := it_f hF hc
    refine lv_iconst (v := (1 : Int32)) hx hb dX6_isLate_18 (by decide) ?_
    refine lv_goto (tgt := 23) hx hb dX6_isLate_19 (by decide) ?_
    have hq1 := Option.some.inj hF
    subst hq1
    exact e_z hx hb hr hlk hK hN hW hS (by decide) dX6_isLate_23

set_option maxHeartbeats 4000000 in
set_option maxRecDepth 100000 in
theorem c6_isLate (l : Launch) {D : va_G} {cA : Nat → ClassId} {z : Nat} {ad : Nat → Nat → Nat} {N : TN} {S : TS} {P : TP} {M : TS} (a1 : Int32) (a2 : Int32) {v : Int32} (hF : f6_isLate M a1 a2 = some v) : Met l yX6_isLate wsX6_isLate rm6_isLate (va_Pc [.ref (ad 6 0), .int a1, .int a2] (Wl D cA z (ad, N, S, P, M))) (Qi D cA z v (ad, N, S, P, M)) 0 0 (fun q => z ≤ q) := by
  refine Met.ofW (cc := cX6_isLate) (maxL := 3) (ret := (some .boolean)) (by decide) rfl ?_
  intro p e s m args below meth c s₁ B hml hv
  obtain ⟨rfl, hW, hK, hN⟩ := hv
  have hl := lv_entry ([.ref (ad 6 0), .int a1, .int a2]) (n := 3) (Nat.le_of_ble_eq_true rfl)
  rw [lg_entry_eq]
  generalize (lg_sl ([.ref (ad 6 0), .int a1, .int a2]) ++ List.replicate (3 - (lg_sl ([.ref (ad 6 0), .int a1, .int a2])).length) Slot.unset).toArray = ls at hl ⊢
  exact w6_isLate ⟨B.exec, B.bytes, B.returns, hml, findClass_of_methodNamed B.named, atoms_spec (ws := wsX6_isLate) B.pre, B.notSynchronized⟩ hK hN a1 a2 hF hW va_S.rf hl

-- 6 isAhead
abbrev rm6_isAhead : Room := { frames := 2, cells := 0, slots := 0, locals := 44 }
def f6_isAhead (M : TS) (a1 : Int32) (a2 : Int32) (a3 : Int32) : Option (Int32) :=
  (f6_isLate M a1 a3).bind fun (v1 : Int32) =>
  (f6_isLate M a2 a3).bind fun (v3 : Int32) =>
  if v1 = v3 then
  ((f6_of M a1 (2 : Int32)).bind fun (v5 : Int32) =>
  (f6_of M a2 (2 : Int32)).bind fun (v7 : Int32) =>
  if v5 ≤ v7 then
  (some (0 : Int32))
  else
  (some (1 : Int32)))
  else
  ((f6_isLate M a2 a3).bind fun (v9 : Int32) =>
  if v9 = 0 ∨ v9 = 1 then some v9 else none)
set_option maxHeartbeats 4000000 in
set_option maxRecDepth 100000 in
theorem w6_isAhead {p : Program} {l : Launch} {e : Env} {s : State} {m : MethodId} {args : Array Value} {below : List Frame} {meth : Method} {c : Code} (C : MC p s m args meth c cX6_isAhead (some .boolean) 4 RX6 wsX6_isAhead) {D : va_G} {cA : Nat → ClassId} {z : Nat} {ad : Nat → Nat → Nat} {N : TN} (hK : va_K D vwCl (tysW cA) s) (hN : NW s) {S : TS} {P : TP} {M : TS} (a1 : Int32) (a2 : Int32) (a3 : Int32) {v : Int32} (hF : f6_isAhead M a1 a2 a3 = some v)
    {H : Heap} {ls : Array Slot} (hW : Wd D cA z ad N S P M H) {locs : List Loc} (hS : va_S (fun q => z ≤ q) s.heap H locs) (hl : lv_has ls 4 [(0, .ref (ad 6 0)), (1, .int a1), (2, .int a2), (3, .int a3)]) : W p l e rm6_isAhead s m args below meth c H locs 0 0 (MQ below (Qi D cA z v (ad, N, S, P, M)) args s 0 0 (fun q => z ≤ q)) (F0 m 0 ls []) := by
  obtain ⟨hx, hb, hr, hml, hown, hts, hlk⟩ := id C
  unfold f6_isAhead at hF
  refine lv_aload_n hx hb dX6_isAhead_0 rfl (lv_at hl 0 rfl) ?_
  refine lv_iload_n hx hb dX6_isAhead_1 rfl (lv_at hl 1 rfl) ?_
  refine lv_iload_n hx hb dX6_isAhead_2 rfl (lv_at hl 3 rfl) ?_
  replace hF := ob hF
  obtain ⟨v1, q2, hF⟩ := hF
  refine k_i (va_runV (As := [.int a1, .int a3]) (rest := []) ⟨hx, hb, hml, hown, hts⟩ (c6_isLate l a1 a3 q2) (cwV 2 hts gX6_isAhead_X6_isLate rfl rfl rfl (by decide +kernel) ⟨Nat.le_of_ble_eq_true rfl, Nat.le_of_ble_eq_true rfl⟩) (k_preV hW hK hN (hW.fx 6 rfl) (EE_6 cA ad S P M 0) rfl) rfl rfl hl.1 rfl (lv_room (Nat.le_of_ble_eq_true rfl)) dX6_isAhead_3 ⟨Nat.le_of_ble_eq_true rfl, Nat.le_of_ble_eq_true rfl⟩) hS ?_
  clear hW hS; intro H locs hW hS
  refine lv_aload_n hx hb dX6_isAhead_6 rfl (lv_at hl 0 rfl) ?_
  refine lv_iload_n hx hb dX6_isAhead_7 rfl (lv_at hl 2 rfl) ?_
  refine lv_iload_n hx hb dX6_isAhead_8 rfl (lv_at hl 3 rfl) ?_
  replace hF := ob hF
  obtain ⟨v3, q4, hF⟩ := hF
  refine k_i (va_runV (As := [.int a2, .int a3]) (rest := [.int v1]) ⟨hx, hb, hml, hown, hts⟩ (c6_isLate l a2 a3 q4) (cwV 2 hts gX6_isAhead_X6_isLate rfl rfl rfl (by decide +kernel) ⟨Nat.le_of_ble_eq_true rfl, Nat.le_of_ble_eq_true rfl⟩) (k_preV hW hK hN (hW.fx 6 rfl) (EE_6 cA ad S P M 0) rfl) rfl rfl hl.1 rfl (lv_room (Nat.le_of_ble_eq_true rfl)) dX6_isAhead_9 ⟨Nat.le_of_ble_eq_true rfl, Nat.le_of_ble_eq_true rfl⟩) hS ?_
  clear hW hS; intro H locs hW hS
  refine lv_icmp_eq (tgt := 22) hx hb dX6_isAhead_12 (by decide) (fun hc => ?_) (fun hc => ?_)
  · replace hF := it_t hF hc
    refine lv_aload_n hx hb dX6_isAhead_22 rfl (lv_at hl 0 rfl) ?_
    refine lv_iload_n hx hb dX6_isAhead_23 rfl (lv_at hl 1 rfl) ?_
    refine lv_iconst (v := (2 : Int32)) hx hb dX6_isAhead_24 (by decide) ?_
    replace hF := ob hF
    obtain ⟨v5, q6, hF⟩ := hF
    refine k_i (va_runV (As := [.int a1, .int (2 : Int32)]) (rest := []) ⟨hx, hb, hml, hown, hts⟩ (c6_of l a1 (2 : Int32) q6) (cwV 2 hts gX6_isAhead_X6_of rfl rfl rfl (by decide +kernel) ⟨Nat.le_of_ble_eq_true rfl, Nat.le_of_ble_eq_true rfl⟩) (k_preV hW hK hN (hW.fx 6 rfl) (EE_6 cA ad S P M 0) rfl) rfl rfl hl.1 rfl (lv_room (Nat.le_of_ble_eq_true rfl)) dX6_isAhead_25 ⟨Nat.le_of_ble_eq_true rfl, Nat.le_of_ble_eq_true rfl⟩) hS ?_
    clear hW hS; intro H locs hW hS
    refine lv_aload_n hx hb dX6_isAhead_28 rfl (lv_at hl 0 rfl) ?_
    refine lv_iload_n hx hb dX6_isAhead_29 rfl (lv_at hl 2 rfl) ?_
    refine lv_iconst (v := (2 : Int32)) hx hb dX6_isAhead_30 (by decide) ?_
    replace hF := ob hF
    obtain ⟨v7, q8, hF⟩ := hF
    refine k_i (va_runV (As := [.int a2, .int (2 : Int32)]) (rest := [.int v5]) ⟨hx, hb, hml, hown, hts⟩ (c6_of l a2 (2 : Int32) q8) (cwV 2 hts gX6_isAhead_X6_of rfl rfl rfl (by decide +kernel) ⟨Nat.le_of_ble_eq_true rfl, Nat.le_of_ble_eq_true rfl⟩) (k_preV hW hK hN (hW.fx 6 rfl) (EE_6 cA ad S P M 0) rfl) rfl rfl hl.1 rfl (lv_room (Nat.le_of_ble_eq_true rfl)) dX6_isAhead_31 ⟨Nat.le_of_ble_eq_true rfl, Nat.le_of_ble_eq_true rfl⟩) hS ?_
    clear hW hS; intro H locs hW hS
    refine lv_icmp_le (tgt := 41) hx hb dX6_isAhead_34 (by decide) (fun hc => ?_) (fun hc => ?_)
    · replace hF := it_t hF hc
      refine lv_iconst (v := (0 : Int32)) hx hb dX6_isAhead_41 (by decide) ?_
      have hq1 := Option.some.inj hF
      subst hq1
      exact e_z hx hb hr hlk hK hN hW hS (by decide) dX6_isAhead_42
    · replace hF := it_f hF hc
      refine lv_iconst (v := (1 : Int32)) hx hb dX6_isAhead_37 (by decide) ?_
      refine lv_goto (tgt := 42) hx hb dX6_isAhead_38 (by decide) ?_
      have hq1 := Option.some.inj hF
      subst hq1
      exact e_z hx hb hr hlk hK hN hW hS (by decide) dX6_isAhead_42
  · replace hF := it_f hF hc
    refine lv_aload_n hx hb dX6_isAhead_15 rfl (lv_at hl 0 rfl) ?_
    refine lv_iload_n hx hb dX6_isAhead_16 rfl (lv_at hl 2 rfl) ?_
    refine lv_iload_n hx hb dX6_isAhead_17 rfl (lv_at hl 3 rfl) ?_
    replace hF := ob hF
    obtain ⟨v9, q10, hF⟩ := hF
    refine k_i (va_runV (As := [.int a2, .int a3]) (rest := []) ⟨hx, hb, hml, hown, hts⟩ (c6_isLate l a2 a3 q10) (cwV 2 hts gX6_isAhead_X6_isLate rfl rfl rfl (by decide +kernel) ⟨Nat.le_of_ble_eq_true rfl, Nat.le_of_ble_eq_true rfl⟩) (k_preV hW hK hN (hW.fx 6 rfl) (EE_6 cA ad S P M 0) rfl) rfl rfl hl.1 rfl (lv_room (Nat.le_of_ble_eq_true rfl)) dX6_isAhead_18 ⟨Nat.le_of_ble_eq_true rfl, Nat.le_of_ble_eq_true rfl⟩) hS ?_
    clear hW hS; intro H locs hW hS
    replace hF := it_ok hF
    obtain ⟨hz11, hF⟩ := hF
    have hq1 := Option.some.inj hF
    subst hq1
    exact e_z hx hb hr hlk hK hN hW hS hz11 dX6_isAhead_21

set_option maxHeartbeats 4000000 in
set_option maxRecDepth 100000 in
theorem c6_isAhead (l : Launch) {D : va_G} {cA : Nat → ClassId} {z : Nat} {ad : Nat → Nat → Nat} {N : TN} {S : TS} {P : TP} {M : TS} (a1 : Int32) (a2 : Int32) (a3 : Int32) {v : Int32} (hF : f6_isAhead M a1 a2 a3 = some v) : Met l yX6_isAhead wsX6_isAhead rm6_isAhead (va_Pc [.ref (ad 6 0), .int a1, .int a2, .int a3] (Wl D cA z (ad, N, S, P, M))) (Qi D cA z v (ad, N, S, P, M)) 0 0 (fun q => z ≤ q) := by
  refine Met.ofW (cc := cX6_isAhead) (maxL := 4) (ret := (some .boolean)) (by decide) rfl ?_
  intro p e s m args below meth c s₁ B hml hv
  obtain ⟨rfl, hW, hK, hN⟩ := hv
  have hl := lv_entry ([.ref (ad 6 0), .int a1, .int a2, .int a3]) (n := 4) (Nat.le_of_ble_eq_true rfl)
  rw [lg_entry_eq]
  generalize (lg_sl ([.ref (ad 6 0), .int a1, .int a2, .int a3]) ++ List.replicate (4 - (lg_sl ([.ref (ad 6 0), .int a1, .int a2, .int a3])).length) Slot.unset).toArray = ls at hl ⊢
  exact w6_isAhead ⟨B.exec, B.bytes, B.returns, hml, findClass_of_methodNamed B.named, atoms_spec (ws := wsX6_isAhead) B.pre, B.notSynchronized⟩ hK hN a1 a2 a3 hF hW va_S.rf hl

-- 6 nextTurn
abbrev rm6_nextTurn : Room := { frames := 3, cells := 0, slots := 0, locals := 67 }
def f6_nextTurn_34 (K : TS → Option (Int32 × TS)) (c1 : Int32) : Nat → TS → Int32 → Option (Int32 × TS)
  | 0, _, _ => none
  | n + 1, M, y2 =>
    if (M 623 0) ≤ y2 then
    (K M)
    else
    ((f6_of M y2 (0 : Int32)).bind fun (v4 : Int32) =>
    if v4 = c1 then
    ((f6_of M y2 (4 : Int32)).bind fun (v6 : Int32) =>
    if v6 = (1 : Int32) then
    (lt (lt (up M 630 0 y2) fun (M8 : TS) =>
    f6_nextTurn_34 K c1 n M8 (y2 + 1)) fun (K88 : Option (Int32 × TS)) =>
    if (M 630 0) = (-1 : Int32) then
    (K88)
    else
    ((f6_of M y2 (5 : Int32)).bind fun (v9 : Int32) =>
    (f6_of M (M 630 0) (5 : Int32)).bind fun (v11 : Int32) =>
    if v11 ≤ v9 then
    (f6_nextTurn_34 K c1 n M (y2 + 1))
    else
    (K88)))
    else
    (f6_nextTurn_34 K c1 n M (y2 + 1)))
    else
    (f6_nextTurn_34 K c1 n M (y2 + 1)))

def f6_nextTurn_133 (K : TS → Option (Int32 × TS)) (c1 : Int32) : Nat → TS → Int32 → Option (Int32 × TS)
  | 0, _, _ => none
  | n + 1, M, y2 =>
    if (M 623 0) ≤ y2 then
    (K M)
    else
    ((f6_of M y2 (0 : Int32)).bind fun (v15 : Int32) =>
    if v15 = c1 then
    ((f6_of M y2 (4 : Int32)).bind fun (v17 : Int32) =>
    if v17 = (2 : Int32) then
    (lt (lt (up M 630 0 y2) fun (M19 : TS) =>
    f6_nextTurn_133 K c1 n M19 (y2 + 1)) fun (K182 : Option (Int32 × TS)) =>
    if (M 630 0) = (-1 : Int32) then
    (K182)
    else
    ((f6_isAhead M y2 (M 630 0) c1).bind fun (v20 : Int32) =>
    if v20 = 0 then
    (f6_nextTurn_133 K c1 n M (y2 + 1))
    else
    (K182)))
    else
    (f6_nextTurn_133 K c1 n M (y2 + 1)))
    else
    (f6_nextTurn_133 K c1 n M (y2 + 1)))

def f6_nextTurn (M : TS) (a1 : Int32) : Option (Int32 × TS) :=
  lt (up M 630 0 (-1 : Int32)) fun (M1 : TS) =>
  (ix a1 60).bind fun (j2 : Nat) =>
  if (M1 2900 j2) = (1 : Int32) then
  ((ix a1 60).bind fun (j3 : Nat) =>
  if (M1 3400 j3) = 0 then
  (f6_nextTurn_34 (fun (M13 : TS) =>
  if (M13 630 0) = (-1 : Int32) then
  ((ix a1 60).bind fun (j14 : Nat) =>
  if (M13 3200 j14) = (-1 : Int32) then
  (f6_nextTurn_133 (fun (M22 : TS) =>
  if (M22 630 0) = (-1 : Int32) then
  (some ((0 : Int32), M22))
  else
  (some ((3 : Int32), M22))) a1 FU M13 (0 : Int32))
  else
  ((ix a1 60).bind fun (j23 : Nat) =>
  lt (up M13 630 0 (M13 3200 j23)) fun (M24 : TS) =>
  some ((2 : Int32), M24)))
  else
  (some ((1 : Int32), M13))) a1 FU M1 (0 : Int32))
  else
  (b2 (f6_recallTurn M1 a1) fun (v25 : Int32) (M26 : TS) =>
  some (v25, M26)))
  else
  (some ((0 : Int32), M1))
set_option maxRecDepth 20000 in
theorem hi6_nextTurn_6 : ∀ w ∈ u_ws RX6 TX6 31, w ∈ wsX6_nextTurn := by decide +kernel
set_option maxHeartbeats 4000000 in
set_option maxRecDepth 100000 in
theorem w6_nextTurn_34 {p : Program} {l : Launch} {e : Env} {s : State} {m : MethodId} {args : Array Value} {below : List Frame} {meth : Method} {c : Code} (C : MC p s m args meth c cX6_nextTurn (some .int) 3 RX6 wsX6_nextTurn) {D : va_G} {cA : Nat → ClassId} {z : Nat} {ad : Nat → Nat → Nat} {N : TN} (hK : va_K D vwCl (tysW cA) s) (hN : NW s) {S : TS} {P : TP} (c1 : Int32) {v : Int32} {M' : TS} {K : TS → Option (Int32 × TS)}
    (hE : ∀ (M : TS) (H : Heap) (locs : List Loc) (ls : Array Slot), K M = some (v, M') → Wd D cA z ad N S P M H → va_S (fun q => z ≤ q) s.heap H locs → lv_has ls 3 [(0, .ref (ad 6 0)), (1, .int c1)] → W p l e rm6_nextTurn s m args below meth c H locs 0 0 (MQ below (Qi D cA z v (ad, N, S, P, M')) args s 0 0 (fun q => z ≤ q)) (F0 m 99 ls [])) :
    ∀ (n : Nat) (M : TS) (y2 : Int32) (H : Heap) (locs : List Loc) (ls : Array Slot), f6_nextTurn_34 K c1 n M y2 = some (v, M') → Wd D cA z ad N S P M H → va_S (fun q => z ≤ q) s.heap H locs → lv_has ls 3 [(0, .ref (ad 6 0)), (1, .int c1), (2, .int y2)] → W p l e rm6_nextTurn s m args below meth c H locs 0 0 (MQ below (Qi D cA z v (ad, N, S, P, M')) args s 0 0 (fun q => z ≤ q)) (F0 m 34 ls []) := by
  obtain ⟨hx, hb, hr, hml, hown, hts, hlk⟩ := id C
  intro n
  induction n with
  | zero => intro M y2 H locs ls hF; cases hF
  | succ n ih =>
    intro M y2 H locs ls hF hW hS hl
    rw [f6_nextTurn_34] at hF
    refine lv_iload_n hx hb dX6_nextTurn_34 rfl (lv_at hl 2 rfl) ?_
    refine lv_aload_n hx hb dX6_nextTurn_35 rfl (lv_at hl 0 rfl) ?_
    refine g6_23 hx hb hts hi6_nextTurn_6 hown hK hW (hts (.fieldLink RX6 74 RX6 "tickets" "I") (by decide +kernel)) dX6_nextTurn_36 ?_
    refine lv_icmp_ge (tgt := 99) hx hb dX6_nextTurn_39 (by decide) (fun hc => ?_) (fun hc => ?_)
    · replace hF := it_t hF hc
      exact hE M _ _ _ hF hW hS (lv_sub hl [0, 1] rfl)
    · replace hF := it_f hF hc
      refine lv_aload_n hx hb dX6_nextTurn_42 rfl (lv_at hl 0 rfl) ?_
      refine lv_iload_n hx hb dX6_nextTurn_43 rfl (lv_at hl 2 rfl) ?_
      refine lv_iconst (v := (0 : Int32)) hx hb dX6_nextTurn_44 (by decide) ?_
      replace hF := ob hF
      obtain ⟨v4, q5, hF⟩ := hF
      refine k_i (va_runV (As := [.int y2, .int (0 : Int32)]) (rest := []) ⟨hx, hb, hml, hown, hts⟩ (c6_of l y2 (0 : Int32) q5) (cwV 2 hts gX6_nextTurn_X6_of rfl rfl rfl (by decide +kernel) ⟨Nat.le_of_ble_eq_true rfl, Nat.le_of_ble_eq_true rfl⟩) (k_preV hW hK hN (hW.fx 6 rfl) (EE_6 cA ad S P M 0) rfl) rfl rfl hl.1 rfl (lv_room (Nat.le_of_ble_eq_true rfl)) dX6_nextTurn_45 ⟨Nat.le_of_ble_eq_true rfl, Nat.le_of_ble_eq_true rfl⟩) hS ?_
      clear hW hS; intro H locs hW hS
      refine lv_iload_n hx hb dX6_nextTurn_48 rfl (lv_at hl 1 rfl) ?_
      refine lv_icmp_ne (tgt := 93) hx hb dX6_nextTurn_49 (by decide) (fun hc => ?_) (fun hc => ?_)
      · replace hF := it_f hF hc
        refine lv_iinc (v := y2 + 1) (lv' := [(2, .int (y2 + 1)), (0, .ref (ad 6 0)), (1, .int c1)]) hx hb dX6_nextTurn_93 hl (k := 2) rfl rfl (by decide) rfl ?_
        clear hl; intro ls hl
        refine lv_goto (tgt := 34) hx hb dX6_nextTurn_96 (by decide) ?_
        exact ih M (y2 + 1) _ _ _ hF hW hS (lv_sub hl [1, 2, 0] rfl)
      · replace hF := it_t hF hc
        refine lv_aload_n hx hb dX6_nextTurn_52 rfl (lv_at hl 0 rfl) ?_
        refine lv_iload_n hx hb dX6_nextTurn_53 rfl (lv_at hl 2 rfl) ?_
        refine lv_iconst (v := (4 : Int32)) hx hb dX6_nextTurn_54 (by decide) ?_
        replace hF := ob hF
        obtain ⟨v6, q7, hF⟩ := hF
        refine k_i (va_runV (As := [.int y2, .int (4 : Int32)]) (rest := []) ⟨hx, hb, hml, hown, hts⟩ (c6_of l y2 (4 : Int32) q7) (cwV 2 hts gX6_nextTurn_X6_of rfl rfl rfl (by decide +kernel) ⟨Nat.le_of_ble_eq_true rfl, Nat.le_of_ble_eq_true rfl⟩) (k_preV hW hK hN (hW.fx 6 rfl) (EE_6 cA ad S P M 0) rfl) rfl rfl hl.1 rfl (lv_room (Nat.le_of_ble_eq_true rfl)) dX6_nextTurn_55 ⟨Nat.le_of_ble_eq_true rfl, Nat.le_of_ble_eq_true rfl⟩) hS ?_
        clear hW hS; intro H locs hW hS
        refine lv_iconst (v := (1 : Int32)) hx hb dX6_nextTurn_58 (by decide) ?_
        refine lv_icmp_ne (tgt := 93) hx hb dX6_nextTurn_59 (by decide) (fun hc => ?_) (fun hc => ?_)
        · replace hF := it_f hF hc
          refine lv_iinc (v := y2 + 1) (lv' := [(2, .int (y2 + 1)), (0, .ref (ad 6 0)), (1, .int c1)]) hx hb dX6_nextTurn_93 hl (k := 2) rfl rfl (by decide) rfl ?_
          clear hl; intro ls hl
          refine lv_goto (tgt := 34) hx hb dX6_nextTurn_96 (by decide) ?_
          exact ih M (y2 + 1) _ _ _ hF hW hS (lv_sub hl [1, 2, 0] rfl)
        · replace hF := it_t hF hc
          refine lv_aload_n hx hb dX6_nextTurn_62 rfl (lv_at hl 0 rfl) ?_
          refine g6_30 hx hb hts hi6_nextTurn_6 hown hK hW (hts (.fieldLink RX6 157 RX6 "about" "I") (by decide +kernel)) dX6_nextTurn_63 ?_
          refine lv_iconst (v := (-1 : Int32)) hx hb dX6_nextTurn_66 (by decide) ?_
          replace hF := lt_ex hF
          obtain ⟨K88, eK88, hF⟩ := hF
          have hK88 : ∀ (H : Heap) (locs : List Loc) (ls : Array Slot), K88 = some (v, M') → Wd D cA z ad N S P M H → va_S (fun q => z ≤ q) s.heap H locs → lv_has ls 3 [(0, .ref (ad 6 0)), (1, .int c1), (2, .int y2)] → W p l e rm6_nextTurn s m args below meth c H locs 0 0 (MQ below (Qi D cA z v (ad, N, S, P, M')) args s 0 0 (fun q => z ≤ q)) (F0 m 88 ls []) := by
            intro H locs ls hF hW hS hl
            subst eK88
            refine lv_aload_n hx hb dX6_nextTurn_88 rfl (lv_at hl 0 rfl) ?_
            refine lv_iload_n hx hb dX6_nextTurn_89 rfl (lv_at hl 2 rfl) ?_
            replace hF := lt_ex hF
            obtain ⟨M8, eM8, hF⟩ := hF
            refine p6_30 hx hb hts hi6_nextTurn_6 hown hK hW hS eM8 (hts (.fieldLink RX6 157 RX6 "about" "I") (by decide +kernel)) dX6_nextTurn_90 ?_
            clear hW hS; intro H locs hW hS
            refine lv_iinc (v := y2 + 1) (lv' := [(2, .int (y2 + 1)), (0, .ref (ad 6 0)), (1, .int c1)]) hx hb dX6_nextTurn_93 hl (k := 2) rfl rfl (by decide) rfl ?_
            clear hl; intro ls hl
            refine lv_goto (tgt := 34) hx hb dX6_nextTurn_96 (by decide) ?_
            exact ih M8 (y2 + 1) _ _ _ hF hW hS (lv_sub hl [1, 2, 0] rfl)
          clear eK88
          refine lv_icmp_eq (tgt := 88) hx hb dX6_nextTurn_67 (by decide) (fun hc => ?_) (fun hc => ?_)
          · replace hF := it_t hF hc
            exact hK88 _ _ _ hF hW hS (lv_sub hl [0, 1, 2] rfl)
          · replace hF := it_f hF hc
            refine lv_aload_n hx hb dX6_nextTurn_70 rfl (lv_at hl 0 rfl) ?_
            refine lv_iload_n hx hb dX6_nextTurn_71 rfl (lv_at hl 2 rfl) ?_
            refine lv_iconst (v := (5 : Int32)) hx hb dX6_nextTurn_72 (by decide) ?_
            replace hF := ob hF
            obtain ⟨v9, q10, hF⟩ := hF
            refine k_i (va_runV (As := [.int y2, .int (5 : Int32)]) (rest := []) ⟨hx, hb, hml, hown, hts⟩ (c6_of l y2 (5 : Int32) q10) (cwV 2 hts gX6_nextTurn_X6_of rfl rfl rfl (by decide +kernel) ⟨Nat.le_of_ble_eq_true rfl, Nat.le_of_ble_eq_true rfl⟩) (k_preV hW hK hN (hW.fx 6 rfl) (EE_6 cA ad S P M 0) rfl) rfl rfl hl.1 rfl (lv_room (Nat.le_of_ble_eq_true rfl)) dX6_nextTurn_73 ⟨Nat.le_of_ble_eq_true rfl, Nat.le_of_ble_eq_true rfl⟩) hS ?_
            clear hW hS; intro H locs hW hS
            refine lv_aload_n hx hb dX6_nextTurn_76 rfl (lv_at hl 0 rfl) ?_
            refine lv_aload_n hx hb dX6_nextTurn_77 rfl (lv_at hl 0 rfl) ?_
            refine g6_30 hx hb hts hi6_nextTurn_6 hown hK hW (hts (.fieldLink RX6 157 RX6 "about" "I") (by decide +kernel)) dX6_nextTurn_78 ?_
            refine lv_iconst (v := (5 : Int32)) hx hb dX6_nextTurn_81 (by decide) ?_
            replace hF := ob hF
            obtain ⟨v11, q12, hF⟩ := hF
            refine k_i (va_runV (As := [.int (M 630 0), .int (5 : Int32)]) (rest := [.int v9]) ⟨hx, hb, hml, hown, hts⟩ (c6_of l (M 630 0) (5 : Int32) q12) (cwV 2 hts gX6_nextTurn_X6_of rfl rfl rfl (by decide +kernel) ⟨Nat.le_of_ble_eq_true rfl, Nat.le_of_ble_eq_true rfl⟩) (k_preV hW hK hN (hW.fx 6 rfl) (EE_6 cA ad S P M 0) rfl) rfl rfl hl.1 rfl (lv_room (Nat.le_of_ble_eq_true rfl)) dX6_nextTurn_82 ⟨Nat.le_of_ble_eq_true rfl, Nat.le_of_ble_eq_true rfl⟩) hS ?_
            clear hW hS; intro H locs hW hS
            refine lv_icmp_ge (tgt := 93) hx hb dX6_nextTurn_85 (by decide) (fun hc => ?_) (fun hc => ?_)
            · replace hF := it_t hF hc
              refine lv_iinc (v := y2 + 1) (lv' := [(2, .int (y2 + 1)), (0, .ref (ad 6 0)), (1, .int c1)]) hx hb dX6_nextTurn_93 hl (k := 2) rfl rfl (by decide) rfl ?_
              clear hl; intro ls hl
              refine lv_goto (tgt := 34) hx hb dX6_nextTurn_96 (by decide) ?_
              exact ih M (y2 + 1) _ _ _ hF hW hS (lv_sub hl [1, 2, 0] rfl)
            · replace hF := it_f hF hc
              exact hK88 _ _ _ hF hW hS (lv_sub hl [0, 1, 2] rfl)

set_option maxHeartbeats 4000000 in
set_option maxRecDepth 100000 in
theorem w6_nextTurn_133 {p : Program} {l : Launch} {e : Env} {s : State} {m : MethodId} {args : Array Value} {below : List Frame} {meth : Method} {c : Code} (C : MC p s m args meth c cX6_nextTurn (some .int) 3 RX6 wsX6_nextTurn) {D : va_G} {cA : Nat → ClassId} {z : Nat} {ad : Nat → Nat → Nat} {N : TN} (hK : va_K D vwCl (tysW cA) s) (hN : NW s) {S : TS} {P : TP} (c1 : Int32) {v : Int32} {M' : TS} {K : TS → Option (Int32 × TS)}
    (hE : ∀ (M : TS) (H : Heap) (locs : List Loc) (ls : Array Slot), K M = some (v, M') → Wd D cA z ad N S P M H → va_S (fun q => z ≤ q) s.heap H locs → lv_has ls 3 [(0, .ref (ad 6 0))] → W p l e rm6_nextTurn s m args below meth c H locs 0 0 (MQ below (Qi D cA z v (ad, N, S, P, M')) args s 0 0 (fun q => z ≤ q)) (F0 m 193 ls [])) :
    ∀ (n : Nat) (M : TS) (y2 : Int32) (H : Heap) (locs : List Loc) (ls : Array Slot), f6_nextTurn_133 K c1 n M y2 = some (v, M') → Wd D cA z ad N S P M H → va_S (fun q => z ≤ q) s.heap H locs → lv_has ls 3 [(0, .ref (ad 6 0)), (1, .int c1), (2, .int y2)] → W p l e rm6_nextTurn s m args below meth c H locs 0 0 (MQ below (Qi D cA z v (ad, N, S, P, M')) args s 0 0 (fun q => z ≤ q)) (F0 m 133 ls []) := by
  obtain ⟨hx, hb, hr, hml, hown, hts, hlk⟩ := id C
  intro n
  induction n with
  | zero => intro M y2 H locs ls hF; cases hF
  | succ n ih =>
    intro M y2 H locs ls hF hW hS hl
    rw [f6_nextTurn_133] at hF
    refine lv_iload_n hx hb dX6_nextTurn_133 rfl (lv_at hl 2 rfl) ?_
    refine lv_aload_n hx hb dX6_nextTurn_134 rfl (lv_at hl 0 rfl) ?_
    refine g6_23 hx hb hts hi6_nextTurn_6 hown hK hW (hts (.fieldLink RX6 74 RX6 "tickets" "I") (by decide +kernel)) dX6_nextTurn_135 ?_
    refine lv_icmp_ge (tgt := 193) hx hb dX6_nextTurn_138 (by decide) (fun hc => ?_) (fun hc => ?_)
    · replace hF := it_t hF hc
      exact hE M _ _ _ hF hW hS (lv_sub hl [0] rfl)
    · replace hF := it_f hF hc
      refine lv_aload_n hx hb dX6_nextTurn_141 rfl (lv_at hl 0 rfl) ?_
      refine lv_iload_n hx hb dX6_nextTurn_142 rfl (lv_at hl 2 rfl) ?_
      refine lv_iconst (v := (0 : Int32)) hx hb dX6_nextTurn_143 (by decide) ?_
      replace hF := ob hF
      obtain ⟨v15, q16, hF⟩ := hF
      refine k_i (va_runV (As := [.int y2, .int (0 : Int32)]) (rest := []) ⟨hx, hb, hml, hown, hts⟩ (c6_of l y2 (0 : Int32) q16) (cwV 2 hts gX6_nextTurn_X6_of rfl rfl rfl (by decide +kernel) ⟨Nat.le_of_ble_eq_true rfl, Nat.le_of_ble_eq_true rfl⟩) (k_preV hW hK hN (hW.fx 6 rfl) (EE_6 cA ad S P M 0) rfl) rfl rfl hl.1 rfl (lv_room (Nat.le_of_ble_eq_true rfl)) dX6_nextTurn_144 ⟨Nat.le_of_ble_eq_true rfl, Nat.le_of_ble_eq_true rfl⟩) hS ?_
      clear hW hS; intro H locs hW hS
      refine lv_iload_n hx hb dX6_nextTurn_147 rfl (lv_at hl 1 rfl) ?_
      refine lv_icmp_ne (tgt := 187) hx hb dX6_nextTurn_148 (by decide) (fun hc => ?_) (fun hc => ?_)
      · replace hF := it_f hF hc
        refine lv_iinc (v := y2 + 1) (lv' := [(2, .int (y2 + 1)), (0, .ref (ad 6 0)), (1, .int c1)]) hx hb dX6_nextTurn_187 hl (k := 2) rfl rfl (by decide) rfl ?_
        clear hl; intro ls hl
        refine lv_goto (tgt := 133) hx hb dX6_nextTurn_190 (by decide) ?_
        exact ih M (y2 + 1) _ _ _ hF hW hS (lv_sub hl [1, 2, 0] rfl)
      · replace hF := it_t hF hc
        refine lv_aload_n hx hb dX6_nextTurn_151 rfl (lv_at hl 0 rfl) ?_
        refine lv_iload_n hx hb dX6_nextTurn_152 rfl (lv_at hl 2 rfl) ?_
        refine lv_iconst (v := (4 : Int32)) hx hb dX6_nextTurn_153 (by decide) ?_
        replace hF := ob hF
        obtain ⟨v17, q18, hF⟩ := hF
        refine k_i (va_runV (As := [.int y2, .int (4 : Int32)]) (rest := []) ⟨hx, hb, hml, hown, hts⟩ (c6_of l y2 (4 : Int32) q18) (cwV 2 hts gX6_nextTurn_X6_of rfl rfl rfl (by decide +kernel) ⟨Nat.le_of_ble_eq_true rfl, Nat.le_of_ble_eq_true rfl⟩) (k_preV hW hK hN (hW.fx 6 rfl) (EE_6 cA ad S P M 0) rfl) rfl rfl hl.1 rfl (lv_room (Nat.le_of_ble_eq_true rfl)) dX6_nextTurn_154 ⟨Nat.le_of_ble_eq_true rfl, Nat.le_of_ble_eq_true rfl⟩) hS ?_
        clear hW hS; intro H locs hW hS
        refine lv_iconst (v := (2 : Int32)) hx hb dX6_nextTurn_157 (by decide) ?_
        refine lv_icmp_ne (tgt := 187) hx hb dX6_nextTurn_158 (by decide) (fun hc => ?_) (fun hc => ?_)
        · replace hF := it_f hF hc
          refine lv_iinc (v := y2 + 1) (lv' := [(2, .int (y2 + 1)), (0, .ref (ad 6 0)), (1, .int c1)]) hx hb dX6_nextTurn_187 hl (k := 2) rfl rfl (by decide) rfl ?_
          clear hl; intro ls hl
          refine lv_goto (tgt := 133) hx hb dX6_nextTurn_190 (by decide) ?_
          exact ih M (y2 + 1) _ _ _ hF hW hS (lv_sub hl [1, 2, 0] rfl)
        · replace hF := it_t hF hc
          refine lv_aload_n hx hb dX6_nextTurn_161 rfl (lv_at hl 0 rfl) ?_
          refine g6_30 hx hb hts hi6_nextTurn_6 hown hK hW (hts (.fieldLink RX6 157 RX6 "about" "I") (by decide +kernel)) dX6_nextTurn_162 ?_
          refine lv_iconst (v := (-1 : Int32)) hx hb dX6_nextTurn_165 (by decide) ?_
          replace hF := lt_ex hF
          obtain ⟨K182, eK182, hF⟩ := hF
          have hK182 : ∀ (H : Heap) (locs : List Loc) (ls : Array Slot), K182 = some (v, M') → Wd D cA z ad N S P M H → va_S (fun q => z ≤ q) s.heap H locs → lv_has ls 3 [(0, .ref (ad 6 0)), (1, .int c1), (2, .int y2)] → W p l e rm6_nextTurn s m args below meth c H locs 0 0 (MQ below (Qi D cA z v (ad, N, S, P, M')) args s 0 0 (fun q => z ≤ q)) (F0 m 182 ls []) := by
            intro H locs ls hF hW hS hl
            subst eK182
            refine lv_aload_n hx hb dX6_nextTurn_182 rfl (lv_at hl 0 rfl) ?_
            refine lv_iload_n hx hb dX6_nextTurn_183 rfl (lv_at hl 2 rfl) ?_
            replace hF := lt_ex hF
            obtain ⟨M19, eM19, hF⟩ := hF
            refine p6_30 hx hb hts hi6_nextTurn_6 hown hK hW hS eM19 (hts (.fieldLink RX6 157 RX6 "about" "I") (by decide +kernel)) dX6_nextTurn_184 ?_
            clear hW hS; intro H locs hW hS
            refine lv_iinc (v := y2 + 1) (lv' := [(2, .int (y2 + 1)), (0, .ref (ad 6 0)), (1, .int c1)]) hx hb dX6_nextTurn_187 hl (k := 2) rfl rfl (by decide) rfl ?_
            clear hl; intro ls hl
            refine lv_goto (tgt := 133) hx hb dX6_nextTurn_190 (by decide) ?_
            exact ih M19 (y2 + 1) _ _ _ hF hW hS (lv_sub hl [1, 2, 0] rfl)
          clear eK182
          refine lv_icmp_eq (tgt := 182) hx hb dX6_nextTurn_166 (by decide) (fun hc => ?_) (fun hc => ?_)
          · replace hF := it_t hF hc
            exact hK182 _ _ _ hF hW hS (lv_sub hl [0, 1, 2] rfl)
          · replace hF := it_f hF hc
            refine lv_aload_n hx hb dX6_nextTurn_169 rfl (lv_at hl 0 rfl) ?_
            refine lv_iload_n hx hb dX6_nextTurn_170 rfl (lv_at hl 2 rfl) ?_
            refine lv_aload_n hx hb dX6_nextTurn_171 rfl (lv_at hl 0 rfl) ?_
            refine g6_30 hx hb hts hi6_nextTurn_6 hown hK hW (hts (.fieldLink RX6 157 RX6 "about" "I") (by decide +kernel)) dX6_nextTurn_172 ?_
            refine lv_iload_n hx hb dX6_nextTurn_175 rfl (lv_at hl 1 rfl) ?_
            replace hF := ob hF
            obtain ⟨v20, q21, hF⟩ := hF
            refine k_i (va_runV (As := [.int y2, .int (M 630 0), .int c1]) (rest := []) ⟨hx, hb, hml, hown, hts⟩ (c6_isAhead l y2 (M 630 0) c1 q21) (cwV 3 hts gX6_nextTurn_X6_isAhead rfl rfl rfl (by decide +kernel) ⟨Nat.le_of_ble_eq_true rfl, Nat.le_of_ble_eq_true rfl⟩) (k_preV hW hK hN (hW.fx 6 rfl) (EE_6 cA ad S P M 0) rfl) rfl rfl hl.1 rfl (lv_room (Nat.le_of_ble_eq_true rfl)) dX6_nextTurn_176 ⟨Nat.le_of_ble_eq_true rfl, Nat.le_of_ble_eq_true rfl⟩) hS ?_
            clear hW hS; intro H locs hW hS
            refine lv_if_eq (tgt := 187) hx hb dX6_nextTurn_179 (by decide) (fun hc => ?_) (fun hc => ?_)
            · replace hF := it_t hF hc
              refine lv_iinc (v := y2 + 1) (lv' := [(2, .int (y2 + 1)), (0, .ref (ad 6 0)), (1, .int c1)]) hx hb dX6_nextTurn_187 hl (k := 2) rfl rfl (by decide) rfl ?_
              clear hl; intro ls hl
              refine lv_goto (tgt := 133) hx hb dX6_nextTurn_190 (by decide) ?_
              exact ih M (y2 + 1) _ _ _ hF hW hS (lv_sub hl [1, 2, 0] rfl)
            · replace hF := it_f hF hc
              exact hK182 _ _ _ hF hW hS (lv_sub hl [0, 1, 2] rfl)

set_option maxHeartbeats 4000000 in
set_option maxRecDepth 100000 in
theorem w6_nextTurn {p : Program} {l : Launch} {e : Env} {s : State} {m : MethodId} {args : Array Value} {below : List Frame} {meth : Method} {c : Code} (C : MC p s m args meth c cX6_nextTurn (some .int) 3 RX6 wsX6_nextTurn) {D : va_G} {cA : Nat → ClassId} {z : Nat} {ad : Nat → Nat → Nat} {N : TN} (hK : va_K D vwCl (tysW cA) s) (hN : NW s) {S : TS} {P : TP} {M : TS} (a1 : Int32) {v : Int32} {M' : TS} (hF : f6_nextTurn M a1 = some (v, M'))
    {H : Heap} {ls : Array Slot} (hW : Wd D cA z ad N S P M H) {locs : List Loc} (hS : va_S (fun q => z ≤ q) s.heap H locs) (hl : lv_has ls 3 [(0, .ref (ad 6 0)), (1, .int a1)]) : W p l e rm6_nextTurn s m args below meth c H locs 0 0 (MQ below (Qi D cA z v (ad, N, S, P, M')) args s 0 0 (fun q => z ≤ q)) (F0 m 0 ls []) := by
  obtain ⟨hx, hb, hr, hml, hown, hts, hlk⟩ := id C
  unfold f6_nextTurn at hF
  refine lv_aload_n hx hb dX6_nextTurn_0 rfl (lv_at hl 0 rfl) ?_
  refine lv_iconst (v := (-1 : Int32)) hx hb dX6_nextTurn_1 (by decide) ?_
  replace hF := lt_ex hF
  obtain ⟨M1, eM1, hF⟩ := hF
  refine p6_30 hx hb hts hi6_nextTurn_6 hown hK hW hS eM1 (hts (.fieldLink RX6 157 RX6 "about" "I") (by decide +kernel)) dX6_nextTurn_2 ?_
  clear hW hS; intro H locs hW hS
  refine lv_aload_n hx hb dX6_nextTurn_5 rfl (lv_at hl 0 rfl) ?_
  refine g6_9 hx hb hts hi6_nextTurn_6 hown hK hW (hts (.fieldLink RX6 38 RX6 "how" "[I") (by decide +kernel)) dX6_nextTurn_6 ?_
  refine lv_iload_n hx hb dX6_nextTurn_9 rfl (lv_at hl 1 rfl) ?_
  replace hF := ob hF
  obtain ⟨j2, ej2, hF⟩ := hF
  refine l29 hx hb hK hW ej2 dX6_nextTurn_10 ?_
  refine lv_iconst (v := (1 : Int32)) hx hb dX6_nextTurn_11 (by decide) ?_
  refine lv_icmp_eq (tgt := 17) hx hb dX6_nextTurn_12 (by decide) (fun hc => ?_) (fun hc => ?_)
  · replace hF := it_t hF hc
    refine lv_aload_n hx hb dX6_nextTurn_17 rfl (lv_at hl 0 rfl) ?_
    refine g6_14 hx hb hts hi6_nextTurn_6 hown hK hW (hts (.fieldLink RX6 53 RX6 "isOff" "[Z") (by decide +kernel)) dX6_nextTurn_18 ?_
    refine lv_iload_n hx hb dX6_nextTurn_21 rfl (lv_at hl 1 rfl) ?_
    replace hF := ob hF
    obtain ⟨j3, ej3, hF⟩ := hF
    refine l34 hx hb hK hW ej3 dX6_nextTurn_22 ?_
    refine lv_if_eq (tgt := 32) hx hb dX6_nextTurn_23 (by decide) (fun hc => ?_) (fun hc => ?_)
    · replace hF := it_t hF hc
      refine lv_iconst (v := (0 : Int32)) hx hb dX6_nextTurn_32 (by decide) ?_
      refine lv_istore_n (lv' := [(2, .int (0 : Int32)), (0, .ref (ad 6 0)), (1, .int a1)]) hx hb dX6_nextTurn_33 rfl hl (by decide) rfl ?_
      clear hl; intro ls hl
      refine w6_nextTurn_34 C hK hN a1 (hE := ?_) FU M1 (0 : Int32) _ _ _ hF hW hS (lv_sub hl [1, 2, 0] rfl)
      intro M13 H locs ls hF hW hS hl
      refine lv_aload_n hx hb dX6_nextTurn_99 rfl (lv_at hl 0 rfl) ?_
      refine g6_30 hx hb hts hi6_nextTurn_6 hown hK hW (hts (.fieldLink RX6 157 RX6 "about" "I") (by decide +kernel)) dX6_nextTurn_100 ?_
      refine lv_iconst (v := (-1 : Int32)) hx hb dX6_nextTurn_103 (by decide) ?_
      refine lv_icmp_eq (tgt := 109) hx hb dX6_nextTurn_104 (by decide) (fun hc => ?_) (fun hc => ?_)
      · replace hF := it_t hF hc
        refine lv_aload_n hx hb dX6_nextTurn_109 rfl (lv_at hl 0 rfl) ?_
        refine g6_12 hx hb hts hi6_nextTurn_6 hown hK hW (hts (.fieldLink RX6 47 RX6 "begun" "[I") (by decide +kernel)) dX6_nextTurn_110 ?_
        refine lv_iload_n hx hb dX6_nextTurn_113 rfl (lv_at hl 1 rfl) ?_
        replace hF := ob hF
        obtain ⟨j14, ej14, hF⟩ := hF
        refine l32 hx hb hK hW ej14 dX6_nextTurn_114 ?_
        refine lv_iconst (v := (-1 : Int32)) hx hb dX6_nextTurn_115 (by decide) ?_
        refine lv_icmp_eq (tgt := 131) hx hb dX6_nextTurn_116 (by decide) (fun hc => ?_) (fun hc => ?_)
        · replace hF := it_t hF hc
          refine lv_iconst (v := (0 : Int32)) hx hb dX6_nextTurn_131 (by decide) ?_
          refine lv_istore_n (lv' := [(2, .int (0 : Int32)), (0, .ref (ad 6 0)), (1, .int a1)]) hx hb dX6_nextTurn_132 rfl hl (by decide) rfl ?_
          clear hl; intro ls hl
          refine w6_nextTurn_133 C hK hN a1 (hE := ?_) FU M13 (0 : Int32) _ _ _ hF hW hS (lv_sub hl [1, 2, 0] rfl)
          intro M22 H locs ls hF hW hS hl
          refine lv_aload_n hx hb dX6_nextTurn_193 rfl (lv_at hl 0 rfl) ?_
          refine g6_30 hx hb hts hi6_nextTurn_6 hown hK hW (hts (.fieldLink RX6 157 RX6 "about" "I") (by decide +kernel)) dX6_nextTurn_194 ?_
          refine lv_iconst (v := (-1 : Int32)) hx hb dX6_nextTurn_197 (by decide) ?_
          refine lv_icmp_ne (tgt := 205) hx hb dX6_nextTurn_198 (by decide) (fun hc => ?_) (fun hc => ?_)
          · replace hF := it_f hF hc
            refine lv_iconst (v := (3 : Int32)) hx hb dX6_nextTurn_205 (by decide) ?_
            obtain ⟨hq1, hq2⟩ := Prod.mk.inj (Option.some.inj hF)
            subst hq1
            subst hq2
            exact e_i hx hb hr hlk hK hN hW hS dX6_nextTurn_206
          · replace hF := it_t hF hc
            refine lv_iconst (v := (0 : Int32)) hx hb dX6_nextTurn_201 (by decide) ?_
            refine lv_goto (tgt := 206) hx hb dX6_nextTurn_202 (by decide) ?_
            obtain ⟨hq1, hq2⟩ := Prod.mk.inj (Option.some.inj hF)
            subst hq1
            subst hq2
            exact e_i hx hb hr hlk hK hN hW hS dX6_nextTurn_206
        · replace hF := it_f hF hc
          refine lv_aload_n hx hb dX6_nextTurn_119 rfl (lv_at hl 0 rfl) ?_
          refine lv_aload_n hx hb dX6_nextTurn_120 rfl (lv_at hl 0 rfl) ?_
          refine g6_12 hx hb hts hi6_nextTurn_6 hown hK hW (hts (.fieldLink RX6 47 RX6 "begun" "[I") (by decide +kernel)) dX6_nextTurn_121 ?_
          refine lv_iload_n hx hb dX6_nextTurn_124 rfl (lv_at hl 1 rfl) ?_
          replace hF := ob hF
          obtain ⟨j23, ej23, hF⟩ := hF
          refine l32 hx hb hK hW ej23 dX6_nextTurn_125 ?_
          replace hF := lt_ex hF
          obtain ⟨M24, eM24, hF⟩ := hF
          refine p6_30 hx hb hts hi6_nextTurn_6 hown hK hW hS eM24 (hts (.fieldLink RX6 157 RX6 "about" "I") (by decide +kernel)) dX6_nextTurn_126 ?_
          clear hW hS; intro H locs hW hS
          refine lv_iconst (v := (2 : Int32)) hx hb dX6_nextTurn_129 (by decide) ?_
          obtain ⟨hq1, hq2⟩ := Prod.mk.inj (Option.some.inj hF)
          subst hq1
          subst hq2
          exact e_i hx hb hr hlk hK hN hW hS dX6_nextTurn_130
      · replace hF := it_f hF hc
        refine lv_iconst (v := (1 : Int32)) hx hb dX6_nextTurn_107 (by decide) ?_
        obtain ⟨hq1, hq2⟩ := Prod.mk.inj (Option.some.inj hF)
        subst hq1
        subst hq2
        exact e_i hx hb hr hlk hK hN hW hS dX6_nextTurn_108
    · replace hF := it_f hF hc
      refine lv_aload_n hx hb dX6_nextTurn_26 rfl (lv_at hl 0 rfl) ?_
      refine lv_iload_n hx hb dX6_nextTurn_27 rfl (lv_at hl 1 rfl) ?_
      replace hF := ob2 hF
      obtain ⟨v25, M26, q27, hF⟩ := hF
      refine k_i (va_runV (As := [.int a1]) (rest := []) ⟨hx, hb, hml, hown, hts⟩ (c6_recallTurn l a1 q27) (cwV 1 hts gX6_nextTurn_X6_recallTurn rfl rfl rfl (by decide +kernel) ⟨Nat.le_of_ble_eq_true rfl, Nat.le_of_ble_eq_true rfl⟩) (k_preV hW hK hN (hW.fx 6 rfl) (EE_6 cA ad S P M1 0) rfl) rfl rfl hl.1 rfl (lv_room (Nat.le_of_ble_eq_true rfl)) dX6_nextTurn_28 ⟨Nat.le_of_ble_eq_true rfl, Nat.le_of_ble_eq_true rfl⟩) hS ?_
      clear hW hS; intro H locs hW hS
      obtain ⟨hq1, hq2⟩ := Prod.mk.inj (Option.some.inj hF)
      subst hq1
      subst hq2
      exact e_i hx hb hr hlk hK hN hW hS dX6_nextTurn_31
  · replace hF := it_f hF hc
    refine lv_iconst (v := (0 : Int32)) hx hb dX6_nextTurn_15 (by decide) ?_
    obtain ⟨hq1, hq2⟩ := Prod.mk.inj (Option.some.inj hF)
    subst hq1
    subst hq2
    exact e_i hx hb hr hlk hK hN hW hS dX6_nextTurn_16

set_option maxHeartbeats 4000000 in
set_option maxRecDepth 100000 in
theorem c6_nextTurn (l : Launch) {D : va_G} {cA : Nat → ClassId} {z : Nat} {ad : Nat → Nat → Nat} {N : TN} {S : TS} {P : TP} {M : TS} (a1 : Int32) {v : Int32} {M' : TS} (hF : f6_nextTurn M a1 = some (v, M')) : Met l yX6_nextTurn wsX6_nextTurn rm6_nextTurn (va_Pc [.ref (ad 6 0), .int a1] (Wl D cA z (ad, N, S, P, M))) (Qi D cA z v (ad, N, S, P, M')) 0 0 (fun q => z ≤ q) := by
  refine Met.ofW (cc := cX6_nextTurn) (maxL := 3) (ret := (some .int)) (by decide) rfl ?_
  intro p e s m args below meth c s₁ B hml hv
  obtain ⟨rfl, hW, hK, hN⟩ := hv
  have hl := lv_entry ([.ref (ad 6 0), .int a1]) (n := 3) (Nat.le_of_ble_eq_true rfl)
  rw [lg_entry_eq]
  generalize (lg_sl ([.ref (ad 6 0), .int a1]) ++ List.replicate (3 - (lg_sl ([.ref (ad 6 0), .int a1])).length) Slot.unset).toArray = ls at hl ⊢
  exact w6_nextTurn ⟨B.exec, B.bytes, B.returns, hml, findClass_of_methodNamed B.named, atoms_spec (ws := wsX6_nextTurn) B.pre, B.notSynchronized⟩ hK hN a1 hF hW va_S.rf hl

-- 6 hasTurn
abbrev rm6_hasTurn : Room := { frames := 4, cells := 0, slots := 0, locals := 89 }
def f6_hasTurn (M : TS) (a1 : Int32) : Option (Int32 × TS) :=
  b2 (f6_nextTurn M a1) fun (v1 : Int32) (M2 : TS) =>
  if v1 = 0 then
  (some ((0 : Int32), M2))
  else
  (some ((1 : Int32), M2))
set_option maxHeartbeats 4000000 in
set_option maxRecDepth 100000 in
theorem w6_hasTurn {p : Program} {l : Launch} {e : Env} {s : State} {m : MethodId} {args : Array Value} {below : List Frame} {meth : Method} {c : Code} (C : MC p s m args meth c cX6_hasTurn (some .boolean) 2 RX6 wsX6_hasTurn) {D : va_G} {cA : Nat → ClassId} {z : Nat} {ad : Nat → Nat → Nat} {N : TN} (hK : va_K D vwCl (tysW cA) s) (hN : NW s) {S : TS} {P : TP} {M : TS} (a1 : Int32) {v : Int32} {M' : TS} (hF : f6_hasTurn M a1 = some (v, M'))
    {H : Heap} {ls : Array Slot} (hW : Wd D cA z ad N S P M H) {locs : List Loc} (hS : va_S (fun q => z ≤ q) s.heap H locs) (hl : lv_has ls 2 [(0, .ref (ad 6 0)), (1, .int a1)]) : W p l e rm6_hasTurn s m args below meth c H locs 0 0 (MQ below (Qi D cA z v (ad, N, S, P, M')) args s 0 0 (fun q => z ≤ q)) (F0 m 0 ls []) := by
  obtain ⟨hx, hb, hr, hml, hown, hts, hlk⟩ := id C
  unfold f6_hasTurn at hF
  refine lv_aload_n hx hb dX6_hasTurn_0 rfl (lv_at hl 0 rfl) ?_
  refine lv_iload_n hx hb dX6_hasTurn_1 rfl (lv_at hl 1 rfl) ?_
  replace hF := ob2 hF
  obtain ⟨v1, M2, q3, hF⟩ := hF
  refine k_i (va_runV (As := [.int a1]) (rest := []) ⟨hx, hb, hml, hown, hts⟩ (c6_nextTurn l a1 q3) (cwV 1 hts gX6_hasTurn_X6_nextTurn rfl rfl rfl (by decide +kernel) ⟨Nat.le_of_ble_eq_true rfl, Nat.le_of_ble_eq_true rfl⟩) (k_preV hW hK hN (hW.fx 6 rfl) (EE_6 cA ad S P M 0) rfl) rfl rfl hl.1 rfl (lv_room (Nat.le_of_ble_eq_true rfl)) dX6_hasTurn_2 ⟨Nat.le_of_ble_eq_true rfl, Nat.le_of_ble_eq_true rfl⟩) hS ?_
  clear hW hS; intro H locs hW hS
  refine lv_if_eq (tgt := 12) hx hb dX6_hasTurn_5 (by decide) (fun hc => ?_) (fun hc => ?_)
  · replace hF := it_t hF hc
    refine lv_iconst (v := (0 : Int32)) hx hb dX6_hasTurn_12 (by decide) ?_
    obtain ⟨hq1, hq2⟩ := Prod.mk.inj (Option.some.inj hF)
    subst hq1
    subst hq2
    exact e_z hx hb hr hlk hK hN hW hS (by decide) dX6_hasTurn_13
  · replace hF := it_f hF hc
    refine lv_iconst (v := (1 : Int32)) hx hb dX6_hasTurn_8 (by decide) ?_
    refine lv_goto (tgt := 13) hx hb dX6_hasTurn_9 (by decide) ?_
    obtain ⟨hq1, hq2⟩ := Prod.mk.inj (Option.some.inj hF)
    subst hq1
    subst hq2
    exact e_z hx hb hr hlk hK hN hW hS (by decide) dX6_hasTurn_13

set_option maxHeartbeats 4000000 in
set_option maxRecDepth 100000 in
theorem c6_hasTurn (l : Launch) {D : va_G} {cA : Nat → ClassId} {z : Nat} {ad : Nat → Nat → Nat} {N : TN} {S : TS} {P : TP} {M : TS} (a1 : Int32) {v : Int32} {M' : TS} (hF : f6_hasTurn M a1 = some (v, M')) : Met l yX6_hasTurn wsX6_hasTurn rm6_hasTurn (va_Pc [.ref (ad 6 0), .int a1] (Wl D cA z (ad, N, S, P, M))) (Qi D cA z v (ad, N, S, P, M')) 0 0 (fun q => z ≤ q) := by
  refine Met.ofW (cc := cX6_hasTurn) (maxL := 2) (ret := (some .boolean)) (by decide) rfl ?_
  intro p e s m args below meth c s₁ B hml hv
  obtain ⟨rfl, hW, hK, hN⟩ := hv
  have hl := lv_entry ([.ref (ad 6 0), .int a1]) (n := 2) (Nat.le_of_ble_eq_true rfl)
  rw [lg_entry_eq]
  generalize (lg_sl ([.ref (ad 6 0), .int a1]) ++ List.replicate (2 - (lg_sl ([.ref (ad 6 0), .int a1])).length) Slot.unset).toArray = ls at hl ⊢
  exact w6_hasTurn ⟨B.exec, B.bytes, B.returns, hml, findClass_of_methodNamed B.named, atoms_spec (ws := wsX6_hasTurn) B.pre, B.notSynchronized⟩ hK hN a1 hF hW va_S.rf hl


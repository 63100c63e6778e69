-- 6 measure
abbrev rm6_measure : Room := { frames := 2, cells := 0, slots := 0, locals := 44 }
def f6_measure_11 (K : TS → Option (TS)) (c1 : Int32) (c3 : Int32) (c4 : Int32) (c5 : Int32) (c6 : Int32) : Nat → TS → Int32 → Option (TS)
  | 0, _, _ => none
  | n + 1, M, y7 =>
    if c6 ≤ y7 then
    (K M)
    else
    ((ix y7 2000).bind fun (j2 : Nat) =>
    lt (up M 4600 j2 (0 : Int32)) fun (M3 : TS) =>
    f6_measure_11 K c1 c3 c4 c5 c6 n M3 (y7 + 1))

def f6_measure_115 (K : TS → Option (TS)) (c1 : Int32) (c3 : Int32) (c4 : Int32) (c5 : Int32) (c6 : Int32) (c7 : Int32) (c8 : Int32) : Nat → TS → Int32 → Option (TS)
  | 0, _, _ => none
  | n + 1, M, y9 =>
    if c8 ≤ y9 then
    (K M)
    else
    ((ix y9 2000).bind fun (j17 : Nat) =>
    lt (up M 4600 j17 (1 : Int32)) fun (M18 : TS) =>
    f6_measure_115 K c1 c3 c4 c5 c6 c7 c8 n M18 (y9 + 1))

def f6_measure_35 (K : TS → Option (TS)) (c1 : Int32) (c3 : Int32) (c4 : Int32) (c5 : Int32) (c6 : Int32) : Nat → TS → Int32 → Option (TS)
  | 0, _, _ => none
  | n + 1, M, y7 =>
    if (M 623 0) ≤ y7 then
    (K M)
    else
    (if c1 = (-1 : Int32) then
    (K M)
    else
    ((f6_isAboard M y7 c1).bind fun (v5 : Int32) =>
    if v5 = 0 then
    (f6_measure_35 K c1 c3 c4 c5 c6 n M (y7 + 1))
    else
    ((f6_of M y7 (6 : Int32)).bind fun (v7 : Int32) =>
    if v7 = c3 then
    ((f6_of M y7 (7 : Int32)).bind fun (v9 : Int32) =>
    if v9 = c4 then
    ((f6_of M y7 (8 : Int32)).bind fun (v11 : Int32) =>
    (f6_of M y7 (1 : Int32)).bind fun (v13 : Int32) =>
    (f6_of M y7 (8 : Int32)).bind fun (v15 : Int32) =>
    f6_measure_115 (fun (M19 : TS) =>
    f6_measure_35 K c1 c3 c4 c5 c6 n M19 (y7 + 1)) c1 c3 c4 c5 c6 y7 (v11 + v13) FU M v15)
    else
    (f6_measure_35 K c1 c3 c4 c5 c6 n M (y7 + 1)))
    else
    (f6_measure_35 K c1 c3 c4 c5 c6 n M (y7 + 1)))))

def f6_measure_163 (K : TS → Option (TS)) (c5 : Int32) (c6 : Int32) : Nat → TS → Int32 → Int32 → Option (TS)
  | 0, _, _, _ => none
  | n + 1, M, y7, y8 =>
    if c6 ≤ y8 then
    (K M)
    else
    ((ix y8 2000).bind fun (j24 : Nat) =>
    lt (if (M 4600 j24) = 0 then y7 + (1 : Int32) else (0 : Int32)) fun (x25 : Int32) =>
    (ix y8 2000).bind fun (j26 : Nat) =>
    lt (if (M 4600 j26) = 0 then (1 : Int32) else (0 : Int32)) fun (x27 : Int32) =>
    lt (up M 627 0 ((M 627 0) + x27)) fun (M28 : TS) =>
    lt (if (M28 628 0) < x25 then x25 else (M28 628 0)) fun (x29 : Int32) =>
    lt (up M28 628 0 x29) fun (M30 : TS) =>
    if x25 = c5 then
    (if (M30 629 0) = (-1 : Int32) then
    (lt (up M30 629 0 ((y8 - c5) + (1 : Int32))) fun (M31 : TS) =>
    f6_measure_163 K c5 c6 n M31 x25 (y8 + 1))
    else
    (f6_measure_163 K c5 c6 n M30 x25 (y8 + 1)))
    else
    (f6_measure_163 K c5 c6 n M30 x25 (y8 + 1)))

def f6_measure (M : TS) (a1 : Int32) (a2 : Int32) (a3 : Int32) (a4 : Int32) (a5 : Int32) : Option (TS) :=
  (ix a2 12).bind fun (j1 : Nat) =>
  f6_measure_11 (fun (M4 : TS) =>
  f6_measure_35 (fun (M20 : TS) =>
  lt (up M20 627 0 (0 : Int32)) fun (M21 : TS) =>
  lt (up M21 628 0 (0 : Int32)) fun (M22 : TS) =>
  lt (up M22 629 0 (-1 : Int32)) fun (M23 : TS) =>
  f6_measure_163 (fun (M32 : TS) =>
  some M32) a5 (M 2200 j1) FU M23 (0 : Int32) (0 : Int32)) a1 a3 a4 a5 (M 2200 j1) FU M4 (0 : Int32)) a1 a3 a4 a5 (M 2200 j1) FU M (0 : Int32)
set_option maxRecDepth 20000 in
theorem hi6_measure_6 : ∀ w ∈ u_ws RX6 TX6 31, w ∈ wsX6_measure := by decide +kernel
set_option maxHeartbeats 4000000 in
set_option maxRecDepth 100000 in
theorem w6_measure_11 {p : Program} {l : Launch} {e : Env} {s : State} {m : MethodId} {args : Array Value} {below : List Frame} {meth : Method} {c : Code} (C : MC p s m args meth c cX6_measure none 10 RX6 wsX6_measure) {D : va_G} {cA : Nat → ClassId} {z : Nat} {ad : Nat → Nat → Nat} {N : TN} (hK : va_K D vwCl (tysW cA) s) (hN : NW s) {S : TS} {P : TP} (c1 : Int32) (c3 : Int32) (c4 : Int32) (c5 : Int32) (c6 : Int32) {M' : TS} {K : TS → Option (TS)}
    (hE : ∀ (M : TS) (H : Heap) (locs : List Loc) (ls : Array Slot), K M = some M' → Wd D cA z ad N S P M H → va_S (fun q => z ≤ q) s.heap H locs → lv_has ls 10 [(0, .ref (ad 6 0)), (1, .int c1), (3, .int c3), (4, .int c4), (5, .int c5), (6, .int c6)] → W p l e rm6_measure s m args below meth c H locs 0 0 (MQ below (Qv D cA z (ad, N, S, P, M')) args s 0 0 (fun q => z ≤ q)) (F0 m 32 ls [])) :
    ∀ (n : Nat) (M : TS) (y7 : Int32) (H : Heap) (locs : List Loc) (ls : Array Slot), f6_measure_11 K c1 c3 c4 c5 c6 n M y7 = some M' → Wd D cA z ad N S P M H → va_S (fun q => z ≤ q) s.heap H locs → lv_has ls 10 [(0, .ref (ad 6 0)), (1, .int c1), (3, .int c3), (4, .int c4), (5, .int c5), (6, .int c6), (7, .int y7)] → W p l e rm6_measure s m args below meth c H locs 0 0 (MQ below (Qv D cA z (ad, N, S, P, M')) args s 0 0 (fun q => z ≤ q)) (F0 m 11 ls []) := by
  obtain ⟨hx, hb, hr, hml, hown, hts, hlk⟩ := id C
  intro n
  induction n with
  | zero => intro M y7 H locs ls hF; cases hF
  | succ n ih =>
    intro M y7 H locs ls hF hW hS hl
    rw [f6_measure_11] at hF
    refine lv_iload hx hb dX6_measure_11 (lv_at hl 6 rfl) ?_
    refine lv_iload hx hb dX6_measure_13 (lv_at hl 5 rfl) ?_
    refine lv_icmp_ge (tgt := 32) hx hb dX6_measure_15 (by decide) (fun hc => ?_) (fun hc => ?_)
    · replace hF := it_t hF hc
      exact hE M _ _ _ hF hW hS (lv_sub hl [0, 1, 2, 3, 4, 5] rfl)
    · replace hF := it_f hF hc
      refine lv_aload_n hx hb dX6_measure_18 rfl (lv_at hl 0 rfl) ?_
      refine g6_26 hx hb hts hi6_measure_6 hown hK hW (hts (.fieldLink RX6 71 RX6 "covered" "[Z") (by decide +kernel)) dX6_measure_19 ?_
      refine lv_iload hx hb dX6_measure_22 (lv_at hl 6 rfl) ?_
      refine lv_iconst (v := (0 : Int32)) hx hb dX6_measure_24 (by decide) ?_
      replace hF := ob hF
      obtain ⟨j2, ej2, hF⟩ := hF
      replace hF := lt_ex hF
      obtain ⟨M3, eM3, hF⟩ := hF
      refine t46 hx hb hK hW hS ej2 (by decide) eM3 dX6_measure_25 ?_
      clear hW hS; intro H locs hW hS
      refine lv_iinc (v := y7 + 1) (lv' := [(7, .int (y7 + 1)), (0, .ref (ad 6 0)), (1, .int c1), (3, .int c3), (4, .int c4), (5, .int c5), (6, .int c6)]) hx hb dX6_measure_26 hl (k := 6) rfl rfl (by decide) rfl ?_
      clear hl; intro ls hl
      refine lv_goto (tgt := 11) hx hb dX6_measure_29 (by decide) ?_
      exact ih M3 (y7 + 1) _ _ _ hF hW hS (lv_sub hl [1, 2, 3, 4, 5, 6, 0] rfl)

set_option maxHeartbeats 4000000 in
set_option maxRecDepth 100000 in
theorem w6_measure_115 {p : Program} {l : Launch} {e : Env} {s : State} {m : MethodId} {args : Array Value} {below : List Frame} {meth : Method} {c : Code} (C : MC p s m args meth c cX6_measure none 10 RX6 wsX6_measure) {D : va_G} {cA : Nat → ClassId} {z : Nat} {ad : Nat → Nat → Nat} {N : TN} (hK : va_K D vwCl (tysW cA) s) (hN : NW s) {S : TS} {P : TP} (c1 : Int32) (c3 : Int32) (c4 : Int32) (c5 : Int32) (c6 : Int32) (c7 : Int32) (c8 : Int32) {M' : TS} {K : TS → Option (TS)}
    (hE : ∀ (M : TS) (H : Heap) (locs : List Loc) (ls : Array Slot), K M = some M' → Wd D cA z ad N S P M H → va_S (fun q => z ≤ q) s.heap H locs → lv_has ls 10 [(0, .ref (ad 6 0)), (1, .int c1), (3, .int c3), (4, .int c4), (5, .int c5), (6, .int c6), (7, .int c7)] → W p l e rm6_measure s m args below meth c H locs 0 0 (MQ below (Qv D cA z (ad, N, S, P, M')) args s 0 0 (fun q => z ≤ q)) (F0 m 136 ls [])) :
    ∀ (n : Nat) (M : TS) (y9 : Int32) (H : Heap) (locs : List Loc) (ls : Array Slot), f6_measure_115 K c1 c3 c4 c5 c6 c7 c8 n M y9 = some M' → Wd D cA z ad N S P M H → va_S (fun q => z ≤ q) s.heap H locs → lv_has ls 10 [(0, .ref (ad 6 0)), (1, .int c1), (3, .int c3), (4, .int c4), (5, .int c5), (6, .int c6), (7, .int c7), (8, .int c8), (9, .int y9)] → W p l e rm6_measure s m args below meth c H locs 0 0 (MQ below (Qv D cA z (ad, N, S, P, M')) args s 0 0 (fun q => z ≤ q)) (F0 m 115 ls []) := by
  obtain ⟨hx, hb, hr, hml, hown, hts, hlk⟩ := id C
  intro n
  induction n with
  | zero => intro M y9 H locs ls hF; cases hF
  | succ n ih =>
    intro M y9 H locs ls hF hW hS hl
    rw [f6_measure_115] at hF
    refine lv_iload hx hb dX6_measure_115 (lv_at hl 8 rfl) ?_
    refine lv_iload hx hb dX6_measure_117 (lv_at hl 7 rfl) ?_
    refine lv_icmp_ge (tgt := 136) hx hb dX6_measure_119 (by decide) (fun hc => ?_) (fun hc => ?_)
    · replace hF := it_t hF hc
      exact hE M _ _ _ hF hW hS (lv_sub hl [0, 1, 2, 3, 4, 5, 6] rfl)
    · replace hF := it_f hF hc
      refine lv_aload_n hx hb dX6_measure_122 rfl (lv_at hl 0 rfl) ?_
      refine g6_26 hx hb hts hi6_measure_6 hown hK hW (hts (.fieldLink RX6 71 RX6 "covered" "[Z") (by decide +kernel)) dX6_measure_123 ?_
      refine lv_iload hx hb dX6_measure_126 (lv_at hl 8 rfl) ?_
      refine lv_iconst (v := (1 : Int32)) hx hb dX6_measure_128 (by decide) ?_
      replace hF := ob hF
      obtain ⟨j17, ej17, hF⟩ := hF
      replace hF := lt_ex hF
      obtain ⟨M18, eM18, hF⟩ := hF
      refine t46 hx hb hK hW hS ej17 (by decide) eM18 dX6_measure_129 ?_
      clear hW hS; intro H locs hW hS
      refine lv_iinc (v := y9 + 1) (lv' := [(9, .int (y9 + 1)), (0, .ref (ad 6 0)), (1, .int c1), (3, .int c3), (4, .int c4), (5, .int c5), (6, .int c6), (7, .int c7), (8, .int c8)]) hx hb dX6_measure_130 hl (k := 8) rfl rfl (by decide) rfl ?_
      clear hl; intro ls hl
      refine lv_goto (tgt := 115) hx hb dX6_measure_133 (by decide) ?_
      exact ih M18 (y9 + 1) _ _ _ hF hW hS (lv_sub hl [1, 2, 3, 4, 5, 6, 7, 8, 0] rfl)

set_option maxHeartbeats 4000000 in
set_option maxRecDepth 100000 in
theorem w6_measure_35 {p : Program} {l : Launch} {e : Env} {s : State} {m : MethodId} {args : Array Value} {below : List Frame} {meth : Method} {c : Code} (C : MC p s m args meth c cX6_measure none 10 RX6 wsX6_measure) {D : va_G} {cA : Nat → ClassId} {z : Nat} {ad : Nat → Nat → Nat} {N : TN} (hK : va_K D vwCl (tysW cA) s) (hN : NW s) {S : TS} {P : TP} (c1 : Int32) (c3 : Int32) (c4 : Int32) (c5 : Int32) (c6 : Int32) {M' : TS} {K : TS → Option (TS)}
    (hE : ∀ (M : TS) (H : Heap) (locs : List Loc) (ls : Array Slot), K M = some M' → Wd D cA z ad N S P M H → va_S (fun q => z ≤ q) s.heap H locs → lv_has ls 10 [(0, .ref (ad 6 0)), (5, .int c5), (6, .int c6)] → W p l e rm6_measure s m args below meth c H locs 0 0 (MQ below (Qv D cA z (ad, N, S, P, M')) args s 0 0 (fun q => z ≤ q)) (F0 m 142 ls [])) :
    ∀ (n : Nat) (M : TS) (y7 : Int32) (H : Heap) (locs : List Loc) (ls : Array Slot), f6_measure_35 K c1 c3 c4 c5 c6 n M y7 = some M' → Wd D cA z ad N S P M H → va_S (fun q => z ≤ q) s.heap H locs → lv_has ls 10 [(0, .ref (ad 6 0)), (1, .int c1), (3, .int c3), (4, .int c4), (5, .int c5), (6, .int c6), (7, .int y7)] → W p l e rm6_measure s m args below meth c H locs 0 0 (MQ below (Qv D cA z (ad, N, S, P, M')) args s 0 0 (fun q => z ≤ q)) (F0 m 35 ls []) := by
  obtain ⟨hx, hb, hr, hml, hown, hts, hlk⟩ := id C
  intro n
  induction n with
  | zero => intro M y7 H locs ls hF; cases hF
  | succ n ih =>
    intro M y7 H locs ls hF hW hS hl
    rw [f6_measure_35] at hF
    refine lv_iload hx hb dX6_measure_35 (lv_at hl 6 rfl) ?_
    refine lv_aload_n hx hb dX6_measure_37 rfl (lv_at hl 0 rfl) ?_
    refine g6_23 hx hb hts hi6_measure_6 hown hK hW (hts (.fieldLink RX6 74 RX6 "tickets" "I") (by decide +kernel)) dX6_measure_38 ?_
    refine lv_icmp_ge (tgt := 142) hx hb dX6_measure_41 (by decide) (fun hc => ?_) (fun hc => ?_)
    · replace hF := it_t hF hc
      exact hE M _ _ _ hF hW hS (lv_sub hl [0, 4, 5] rfl)
    · replace hF := it_f hF hc
      refine lv_iload_n hx hb dX6_measure_44 rfl (lv_at hl 1 rfl) ?_
      refine lv_iconst (v := (-1 : Int32)) hx hb dX6_measure_45 (by decide) ?_
      refine lv_icmp_eq (tgt := 142) hx hb dX6_measure_46 (by decide) (fun hc => ?_) (fun hc => ?_)
      · replace hF := it_t hF hc
        exact hE M _ _ _ hF hW hS (lv_sub hl [0, 4, 5] rfl)
      · replace hF := it_f hF hc
        refine lv_aload_n hx hb dX6_measure_49 rfl (lv_at hl 0 rfl) ?_
        refine lv_iload hx hb dX6_measure_50 (lv_at hl 6 rfl) ?_
        refine lv_iload_n hx hb dX6_measure_52 rfl (lv_at hl 1 rfl) ?_
        replace hF := ob hF
        obtain ⟨v5, q6, hF⟩ := hF
        refine k_i (va_runV (As := [.int y7, .int c1]) (rest := []) ⟨hx, hb, hml, hown, hts⟩ (c6_isAboard l y7 c1 q6) (cwV 2 hts gX6_measure_X6_isAboard rfl rfl rfl (by decide +kernel) ⟨Nat.le_of_ble_eq_true rfl, Nat.le_of_ble_eq_true rfl⟩) (k_preV hW hK hN (hW.fx 6 rfl) (EE_6 cA ad S P M 0) rfl) rfl rfl hl.1 rfl (lv_room (Nat.le_of_ble_eq_true rfl)) dX6_measure_53 ⟨Nat.le_of_ble_eq_true rfl, Nat.le_of_ble_eq_true rfl⟩) hS ?_
        clear hW hS; intro H locs hW hS
        refine lv_if_eq (tgt := 136) hx hb dX6_measure_56 (by decide) (fun hc => ?_) (fun hc => ?_)
        · replace hF := it_t hF hc
          refine lv_iinc (v := y7 + 1) (lv' := [(7, .int (y7 + 1)), (0, .ref (ad 6 0)), (1, .int c1), (3, .int c3), (4, .int c4), (5, .int c5), (6, .int c6)]) hx hb dX6_measure_136 hl (k := 6) rfl rfl (by decide) rfl ?_
          clear hl; intro ls hl
          refine lv_goto (tgt := 35) hx hb dX6_measure_139 (by decide) ?_
          exact ih M (y7 + 1) _ _ _ hF hW hS (lv_sub hl [1, 2, 3, 4, 5, 6, 0] rfl)
        · replace hF := it_f hF hc
          refine lv_aload_n hx hb dX6_measure_59 rfl (lv_at hl 0 rfl) ?_
          refine lv_iload hx hb dX6_measure_60 (lv_at hl 6 rfl) ?_
          refine lv_bipush (v := (6 : Int32)) hx hb dX6_measure_62 (by decide) ?_
          replace hF := ob hF
          obtain ⟨v7, q8, hF⟩ := hF
          refine k_i (va_runV (As := [.int y7, .int (6 : Int32)]) (rest := []) ⟨hx, hb, hml, hown, hts⟩ (c6_of l y7 (6 : Int32) q8) (cwV 2 hts gX6_measure_X6_of rfl rfl rfl (by decide +kernel) ⟨Nat.le_of_ble_eq_true rfl, Nat.le_of_ble_eq_true rfl⟩) (k_preV hW hK hN (hW.fx 6 rfl) (EE_6 cA ad S P M 0) rfl) rfl rfl hl.1 rfl (lv_room (Nat.le_of_ble_eq_true rfl)) dX6_measure_64 ⟨Nat.le_of_ble_eq_true rfl, Nat.le_of_ble_eq_true rfl⟩) hS ?_
          clear hW hS; intro H locs hW hS
          refine lv_iload_n hx hb dX6_measure_67 rfl (lv_at hl 2 rfl) ?_
          refine lv_icmp_ne (tgt := 136) hx hb dX6_measure_68 (by decide) (fun hc => ?_) (fun hc => ?_)
          · replace hF := it_f hF hc
            refine lv_iinc (v := y7 + 1) (lv' := [(7, .int (y7 + 1)), (0, .ref (ad 6 0)), (1, .int c1), (3, .int c3), (4, .int c4), (5, .int c5), (6, .int c6)]) hx hb dX6_measure_136 hl (k := 6) rfl rfl (by decide) rfl ?_
            clear hl; intro ls hl
            refine lv_goto (tgt := 35) hx hb dX6_measure_139 (by decide) ?_
            exact ih M (y7 + 1) _ _ _ hF hW hS (lv_sub hl [1, 2, 3, 4, 5, 6, 0] rfl)
          · replace hF := it_t hF hc
            refine lv_aload_n hx hb dX6_measure_71 rfl (lv_at hl 0 rfl) ?_
            refine lv_iload hx hb dX6_measure_72 (lv_at hl 6 rfl) ?_
            refine lv_bipush (v := (7 : Int32)) hx hb dX6_measure_74 (by decide) ?_
            replace hF := ob hF
            obtain ⟨v9, q10, hF⟩ := hF
            refine k_i (va_runV (As := [.int y7, .int (7 : Int32)]) (rest := []) ⟨hx, hb, hml, hown, hts⟩ (c6_of l y7 (7 : Int32) q10) (cwV 2 hts gX6_measure_X6_of rfl rfl rfl (by decide +kernel) ⟨Nat.le_of_ble_eq_true rfl, Nat.le_of_ble_eq_true rfl⟩) (k_preV hW hK hN (hW.fx 6 rfl) (EE_6 cA ad S P M 0) rfl) rfl rfl hl.1 rfl (lv_room (Nat.le_of_ble_eq_true rfl)) dX6_measure_76 ⟨Nat.le_of_ble_eq_true rfl, Nat.le_of_ble_eq_true rfl⟩) hS ?_
            clear hW hS; intro H locs hW hS
            refine lv_iload hx hb dX6_measure_79 (lv_at hl 3 rfl) ?_
            refine lv_icmp_eq (tgt := 87) hx hb dX6_measure_81 (by decide) (fun hc => ?_) (fun hc => ?_)
            · replace hF := it_t hF hc
              refine lv_aload_n hx hb dX6_measure_87 rfl (lv_at hl 0 rfl) ?_
              refine lv_iload hx hb dX6_measure_88 (lv_at hl 6 rfl) ?_
              refine lv_bipush (v := (8 : Int32)) hx hb dX6_measure_90 (by decide) ?_
              replace hF := ob hF
              obtain ⟨v11, q12, hF⟩ := hF
              refine k_i (va_runV (As := [.int y7, .int (8 : Int32)]) (rest := []) ⟨hx, hb, hml, hown, hts⟩ (c6_of l y7 (8 : Int32) q12) (cwV 2 hts gX6_measure_X6_of rfl rfl rfl (by decide +kernel) ⟨Nat.le_of_ble_eq_true rfl, Nat.le_of_ble_eq_true rfl⟩) (k_preV hW hK hN (hW.fx 6 rfl) (EE_6 cA ad S P M 0) rfl) rfl rfl hl.1 rfl (lv_room (Nat.le_of_ble_eq_true rfl)) dX6_measure_92 ⟨Nat.le_of_ble_eq_true rfl, Nat.le_of_ble_eq_true rfl⟩) hS ?_
              clear hW hS; intro H locs hW hS
              refine lv_aload_n hx hb dX6_measure_95 rfl (lv_at hl 0 rfl) ?_
              refine lv_iload hx hb dX6_measure_96 (lv_at hl 6 rfl) ?_
              refine lv_iconst (v := (1 : Int32)) hx hb dX6_measure_98 (by decide) ?_
              replace hF := ob hF
              obtain ⟨v13, q14, hF⟩ := hF
              refine k_i (va_runV (As := [.int y7, .int (1 : Int32)]) (rest := [.int v11]) ⟨hx, hb, hml, hown, hts⟩ (c6_of l y7 (1 : Int32) q14) (cwV 2 hts gX6_measure_X6_of rfl rfl rfl (by decide +kernel) ⟨Nat.le_of_ble_eq_true rfl, Nat.le_of_ble_eq_true rfl⟩) (k_preV hW hK hN (hW.fx 6 rfl) (EE_6 cA ad S P M 0) rfl) rfl rfl hl.1 rfl (lv_room (Nat.le_of_ble_eq_true rfl)) dX6_measure_99 ⟨Nat.le_of_ble_eq_true rfl, Nat.le_of_ble_eq_true rfl⟩) hS ?_
              clear hW hS; intro H locs hW hS
              refine lv_iadd hx hb dX6_measure_102 ?_
              refine lv_istore (lv' := [(8, .int (v11 + v13)), (0, .ref (ad 6 0)), (1, .int c1), (3, .int c3), (4, .int c4), (5, .int c5), (6, .int c6), (7, .int y7)]) hx hb dX6_measure_103 hl (by decide) rfl ?_
              clear hl; intro ls hl
              refine lv_aload_n hx hb dX6_measure_105 rfl (lv_at hl 1 rfl) ?_
              refine lv_iload hx hb dX6_measure_106 (lv_at hl 7 rfl) ?_
              refine lv_bipush (v := (8 : Int32)) hx hb dX6_measure_108 (by decide) ?_
              replace hF := ob hF
              obtain ⟨v15, q16, hF⟩ := hF
              refine k_i (va_runV (As := [.int y7, .int (8 : Int32)]) (rest := []) ⟨hx, hb, hml, hown, hts⟩ (c6_of l y7 (8 : Int32) q16) (cwV 2 hts gX6_measure_X6_of rfl rfl rfl (by decide +kernel) ⟨Nat.le_of_ble_eq_true rfl, Nat.le_of_ble_eq_true rfl⟩) (k_preV hW hK hN (hW.fx 6 rfl) (EE_6 cA ad S P M 0) rfl) rfl rfl hl.1 rfl (lv_room (Nat.le_of_ble_eq_true rfl)) dX6_measure_110 ⟨Nat.le_of_ble_eq_true rfl, Nat.le_of_ble_eq_true rfl⟩) hS ?_
              clear hW hS; intro H locs hW hS
              refine lv_istore (lv' := [(9, .int v15), (8, .int (v11 + v13)), (0, .ref (ad 6 0)), (1, .int c1), (3, .int c3), (4, .int c4), (5, .int c5), (6, .int c6), (7, .int y7)]) hx hb dX6_measure_113 hl (by decide) rfl ?_
              clear hl; intro ls hl
              refine w6_measure_115 C hK hN c1 c3 c4 c5 c6 y7 (v11 + v13) (hE := ?_) FU M v15 _ _ _ hF hW hS (lv_sub hl [2, 3, 4, 5, 6, 7, 8, 1, 0] rfl)
              intro M19 H locs ls hF hW hS hl
              refine lv_iinc (v := y7 + 1) (lv' := [(7, .int (y7 + 1)), (0, .ref (ad 6 0)), (1, .int c1), (3, .int c3), (4, .int c4), (5, .int c5), (6, .int c6)]) hx hb dX6_measure_136 hl (k := 6) rfl rfl (by decide) rfl ?_
              clear hl; intro ls hl
              refine lv_goto (tgt := 35) hx hb dX6_measure_139 (by decide) ?_
              exact ih M19 (y7 + 1) _ _ _ hF hW hS (lv_sub hl [1, 2, 3, 4, 5, 6, 0] rfl)
            · replace hF := it_f hF hc
              refine lv_goto (tgt := 136) hx hb dX6_measure_84 (by decide) ?_
              refine lv_iinc (v := y7 + 1) (lv' := [(7, .int (y7 + 1)), (0, .ref (ad 6 0)), (1, .int c1), (3, .int c3), (4, .int c4), (5, .int c5), (6, .int c6)]) hx hb dX6_measure_136 hl (k := 6) rfl rfl (by decide) rfl ?_
              clear hl; intro ls hl
              refine lv_goto (tgt := 35) hx hb dX6_measure_139 (by decide) ?_
              exact ih M (y7 + 1) _ _ _ hF hW hS (lv_sub hl [1, 2, 3, 4, 5, 6, 0] rfl)

set_option maxHeartbeats 4000000 in
set_option maxRecDepth 100000 in
theorem w6_measure_163 {p : Program} {l : Launch} {e : Env} {s : State} {m : MethodId} {args : Array Value} {below : List Frame} {meth : Method} {c : Code} (C : MC p s m args meth c cX6_measure none 10 RX6 wsX6_measure) {D : va_G} {cA : Nat → ClassId} {z : Nat} {ad : Nat → Nat → Nat} {N : TN} (hK : va_K D vwCl (tysW cA) s) (hN : NW s) {S : TS} {P : TP} (c5 : Int32) (c6 : Int32) {M' : TS} {K : TS → Option (TS)}
    (hE : ∀ (M : TS) (H : Heap) (locs : List Loc) (ls : Array Slot), K M = some M' → Wd D cA z ad N S P M H → va_S (fun q => z ≤ q) s.heap H locs → lv_has ls 10 [] → W p l e rm6_measure s m args below meth c H locs 0 0 (MQ below (Qv D cA z (ad, N, S, P, M')) args s 0 0 (fun q => z ≤ q)) (F0 m 259 ls [])) :
    ∀ (n : Nat) (M : TS) (y7 : Int32) (y8 : Int32) (H : Heap) (locs : List Loc) (ls : Array Slot), f6_measure_163 K c5 c6 n M y7 y8 = some M' → Wd D cA z ad N S P M H → va_S (fun q => z ≤ q) s.heap H locs → lv_has ls 10 [(0, .ref (ad 6 0)), (5, .int c5), (6, .int c6), (7, .int y7), (8, .int y8)] → W p l e rm6_measure s m args below meth c H locs 0 0 (MQ below (Qv D cA z (ad, N, S, P, M')) args s 0 0 (fun q => z ≤ q)) (F0 m 163 ls []) := by
  obtain ⟨hx, hb, hr, hml, hown, hts, hlk⟩ := id C
  intro n
  induction n with
  | zero => intro M y7 y8 H locs ls hF; cases hF
  | succ n ih =>
    intro M y7 y8 H locs ls hF hW hS hl
    rw [f6_measure_163] at hF
    refine lv_iload hx hb dX6_measure_163 (lv_at hl 4 rfl) ?_
    refine lv_iload hx hb dX6_measure_165 (lv_at hl 2 rfl) ?_
    refine lv_icmp_ge (tgt := 259) hx hb dX6_measure_167 (by decide) (fun hc => ?_) (fun hc => ?_)
    · replace hF := it_t hF hc
      exact hE M _ _ _ hF hW hS (lv_sub hl [] rfl)
    · replace hF := it_f hF hc
      refine lv_aload_n hx hb dX6_measure_170 rfl (lv_at hl 0 rfl) ?_
      refine g6_26 hx hb hts hi6_measure_6 hown hK hW (hts (.fieldLink RX6 71 RX6 "covered" "[Z") (by decide +kernel)) dX6_measure_171 ?_
      refine lv_iload hx hb dX6_measure_174 (lv_at hl 4 rfl) ?_
      replace hF := ob hF
      obtain ⟨j24, ej24, hF⟩ := hF
      refine l46 hx hb hK hW ej24 dX6_measure_176 ?_
      replace hF := lt_ex hF
      obtain ⟨x25, ex25, hF⟩ := hF
      have hJ : W p l e rm6_measure s m args below meth c H locs 0 0 (MQ below (Qv D cA z (ad, N, S, P, M')) args s 0 0 (fun q => z ≤ q)) (F0 m 188 ls [.int x25]) := by
        refine lv_istore (lv' := [(7, .int x25), (0, .ref (ad 6 0)), (5, .int c5), (6, .int c6), (8, .int y8)]) hx hb dX6_measure_188 hl (by decide) rfl ?_
        clear hl; intro ls hl
        refine lv_aload_n hx hb dX6_measure_190 rfl (lv_at hl 1 rfl) ?_
        refine lv_dup hx hb dX6_measure_191 rfl ?_
        refine g6_27 hx hb hts hi6_measure_6 hown hK hW (hts (.fieldLink RX6 134 RX6 "free" "I") (by decide +kernel)) dX6_measure_192 ?_
        refine lv_aload_n hx hb dX6_measure_195 rfl (lv_at hl 1 rfl) ?_
        refine g6_26 hx hb hts hi6_measure_6 hown hK hW (hts (.fieldLink RX6 71 RX6 "covered" "[Z") (by decide +kernel)) dX6_measure_196 ?_
        refine lv_iload hx hb dX6_measure_199 (lv_at hl 4 rfl) ?_
        replace hF := ob hF
        obtain ⟨j26, ej26, hF⟩ := hF
        refine l46 hx hb hK hW ej26 dX6_measure_201 ?_
        replace hF := lt_ex hF
        obtain ⟨x27, ex27, hF⟩ := hF
        have hJ : W p l e rm6_measure s m args below meth c H locs 0 0 (MQ below (Qv D cA z (ad, N, S, P, M')) args s 0 0 (fun q => z ≤ q)) (F0 m 210 ls [.int x27, .int (M 627 0), .ref (ad 6 0)]) := by
          refine lv_iadd hx hb dX6_measure_210 ?_
          replace hF := lt_ex hF
          obtain ⟨M28, eM28, hF⟩ := hF
          refine p6_27 hx hb hts hi6_measure_6 hown hK hW hS eM28 (hts (.fieldLink RX6 134 RX6 "free" "I") (by decide +kernel)) dX6_measure_211 ?_
          clear hW hS; intro H locs hW hS
          refine lv_aload_n hx hb dX6_measure_214 rfl (lv_at hl 1 rfl) ?_
          refine lv_aload_n hx hb dX6_measure_215 rfl (lv_at hl 1 rfl) ?_
          refine g6_28 hx hb hts hi6_measure_6 hown hK hW (hts (.fieldLink RX6 137 RX6 "longest" "I") (by decide +kernel)) dX6_measure_216 ?_
          refine lv_iload hx hb dX6_measure_219 (lv_at hl 0 rfl) ?_
          replace hF := lt_ex hF
          obtain ⟨x29, ex29, hF⟩ := hF
          refine va_mmax hx hb (hml.trans hl.1.symm) hown (hts (.methodLink RX6 143 Lib.Math.max.name) (by decide +kernel)) (hts (.static Lib.Math.max.name) (by decide +kernel)) (hts (.initialized "java/lang/Math") (by decide +kernel)) (hts (.code Lib.Math.max.name Lib.Math.max.code 2 (some .int)) (by decide +kernel)) (Nat.le_of_ble_eq_true rfl) (Nat.le_of_ble_eq_true rfl) (Nat.le_of_ble_eq_true rfl) (Nat.le_of_ble_eq_true rfl) dX6_measure_221 ?_
          rw [← ex29]
          replace hF := lt_ex hF
          obtain ⟨M30, eM30, hF⟩ := hF
          refine p6_28 hx hb hts hi6_measure_6 hown hK hW hS eM30 (hts (.fieldLink RX6 137 RX6 "longest" "I") (by decide +kernel)) dX6_measure_224 ?_
          clear hW hS; intro H locs hW hS
          refine lv_iload hx hb dX6_measure_227 (lv_at hl 0 rfl) ?_
          refine lv_iload hx hb dX6_measure_229 (lv_at hl 2 rfl) ?_
          refine lv_icmp_ne (tgt := 253) hx hb dX6_measure_231 (by decide) (fun hc => ?_) (fun hc => ?_)
          · replace hF := it_f hF hc
            refine lv_iinc (v := y8 + 1) (lv' := [(8, .int (y8 + 1)), (7, .int x25), (0, .ref (ad 6 0)), (5, .int c5), (6, .int c6)]) hx hb dX6_measure_253 hl (k := 4) rfl rfl (by decide) rfl ?_
            clear hl; intro ls hl
            refine lv_goto (tgt := 163) hx hb dX6_measure_256 (by decide) ?_
            exact ih M30 x25 (y8 + 1) _ _ _ hF hW hS (lv_sub hl [2, 3, 4, 1, 0] rfl)
          · replace hF := it_t hF hc
            refine lv_aload_n hx hb dX6_measure_234 rfl (lv_at hl 1 rfl) ?_
            refine g6_29 hx hb hts hi6_measure_6 hown hK hW (hts (.fieldLink RX6 140 RX6 "firstGap" "I") (by decide +kernel)) dX6_measure_235 ?_
            refine lv_iconst (v := (-1 : Int32)) hx hb dX6_measure_238 (by decide) ?_
            refine lv_icmp_ne (tgt := 253) hx hb dX6_measure_239 (by decide) (fun hc => ?_) (fun hc => ?_)
            · replace hF := it_f hF hc
              refine lv_iinc (v := y8 + 1) (lv' := [(8, .int (y8 + 1)), (7, .int x25), (0, .ref (ad 6 0)), (5, .int c5), (6, .int c6)]) hx hb dX6_measure_253 hl (k := 4) rfl rfl (by decide) rfl ?_
              clear hl; intro ls hl
              refine lv_goto (tgt := 163) hx hb dX6_measure_256 (by decide) ?_
              exact ih M30 x25 (y8 + 1) _ _ _ hF hW hS (lv_sub hl [2, 3, 4, 1, 0] rfl)
            · replace hF := it_t hF hc
              refine lv_aload_n hx hb dX6_measure_242 rfl (lv_at hl 1 rfl) ?_
              refine lv_iload hx hb dX6_measure_243 (lv_at hl 4 rfl) ?_
              refine lv_iload hx hb dX6_measure_245 (lv_at hl 2 rfl) ?_
              refine lv_isub hx hb dX6_measure_247 ?_
              refine lv_iconst (v := (1 : Int32)) hx hb dX6_measure_248 (by decide) ?_
              refine lv_iadd hx hb dX6_measure_249 ?_
              replace hF := lt_ex hF
              obtain ⟨M31, eM31, hF⟩ := hF
              refine p6_29 hx hb hts hi6_measure_6 hown hK hW hS eM31 (hts (.fieldLink RX6 140 RX6 "firstGap" "I") (by decide +kernel)) dX6_measure_250 ?_
              clear hW hS; intro H locs hW hS
              refine lv_iinc (v := y8 + 1) (lv' := [(8, .int (y8 + 1)), (7, .int x25), (0, .ref (ad 6 0)), (5, .int c5), (6, .int c6)]) hx hb dX6_measure_253 hl (k := 4) rfl rfl (by decide) rfl ?_
              clear hl; intro ls hl
              refine lv_goto (tgt := 163) hx hb dX6_measure_256 (by decide) ?_
              exact ih M31 x25 (y8 + 1) _ _ _ hF hW hS (lv_sub hl [2, 3, 4, 1, 0] rfl)
        refine lv_if_eq (tgt := 209) hx hb dX6_measure_202 (by decide) (fun hc => ?_) (fun hc => ?_)
        · refine lv_iconst (v := (1 : Int32)) hx hb dX6_measure_209 (by decide) ?_
          exact W.eq (by rw [ex27, if_pos hc]) hJ
        · refine lv_iconst (v := (0 : Int32)) hx hb dX6_measure_205 (by decide) ?_
          refine lv_goto (tgt := 210) hx hb dX6_measure_206 (by decide) ?_
          exact W.eq (by rw [ex27, if_neg hc]) hJ
      refine lv_if_eq (tgt := 184) hx hb dX6_measure_177 (by decide) (fun hc => ?_) (fun hc => ?_)
      · refine lv_iload hx hb dX6_measure_184 (lv_at hl 3 rfl) ?_
        refine lv_iconst (v := (1 : Int32)) hx hb dX6_measure_186 (by decide) ?_
        refine lv_iadd hx hb dX6_measure_187 ?_
        exact W.eq (by rw [ex25, if_pos hc]) hJ
      · refine lv_iconst (v := (0 : Int32)) hx hb dX6_measure_180 (by decide) ?_
        refine lv_goto (tgt := 188) hx hb dX6_measure_181 (by decide) ?_
        exact W.eq (by rw [ex25, if_neg hc]) hJ

set_option maxHeartbeats 4000000 in
set_option maxRecDepth 100000 in
theorem w6_measure {p : Program} {l : Launch} {e : Env} {s : State} {m : MethodId} {args : Array Value} {below : List Frame} {meth : Method} {c : Code} (C : MC p s m args meth c cX6_measure none 10 RX6 wsX6_measure) {D : va_G} {cA : Nat → ClassId} {z : Nat} {ad : Nat → Nat → Nat} {N : TN} (hK : va_K D vwCl (tysW cA) s) (hN : NW s) {S : TS} {P : TP} {M : TS} (a1 : Int32) (a2 : Int32) (a3 : Int32) (a4 : Int32) (a5 : Int32) {M' : TS} (hF : f6_measure M a1 a2 a3 a4 a5 = some M')
    {H : Heap} {ls : Array Slot} (hW : Wd D cA z ad N S P M H) {locs : List Loc} (hS : va_S (fun q => z ≤ q) s.heap H locs) (hl : lv_has ls 10 [(0, .ref (ad 6 0)), (1, .int a1), (2, .int a2), (3, .int a3), (4, .int a4), (5, .int a5)]) : W p l e rm6_measure s m args below meth c H locs 0 0 (MQ below (Qv D cA z (ad, N, S, P, M')) args s 0 0 (fun q => z ≤ q)) (F0 m 0 ls []) := by
  obtain ⟨hx, hb, hr, hml, hown, hts, hlk⟩ := id C
  unfold f6_measure at hF
  refine lv_aload_n hx hb dX6_measure_0 rfl (lv_at hl 0 rfl) ?_
  refine g6_2 hx hb hts hi6_measure_6 hown hK hW (hts (.fieldLink RX6 16 RX6 "lengths" "[I") (by decide +kernel)) dX6_measure_1 ?_
  refine lv_iload_n hx hb dX6_measure_4 rfl (lv_at hl 2 rfl) ?_
  replace hF := ob hF
  obtain ⟨j1, ej1, hF⟩ := hF
  refine l22 hx hb hK hW ej1 dX6_measure_5 ?_
  refine lv_istore (lv' := [(6, .int (M 2200 j1)), (0, .ref (ad 6 0)), (1, .int a1), (2, .int a2), (3, .int a3), (4, .int a4), (5, .int a5)]) hx hb dX6_measure_6 hl (by decide) rfl ?_
  clear hl; intro ls hl
  refine lv_iconst (v := (0 : Int32)) hx hb dX6_measure_8 (by decide) ?_
  refine lv_istore (lv' := [(7, .int (0 : Int32)), (6, .int (M 2200 j1)), (0, .ref (ad 6 0)), (1, .int a1), (2, .int a2), (3, .int a3), (4, .int a4), (5, .int a5)]) hx hb dX6_measure_9 hl (by decide) rfl ?_
  clear hl; intro ls hl
  refine w6_measure_11 C hK hN a1 a3 a4 a5 (M 2200 j1) (hE := ?_) FU M (0 : Int32) _ _ _ hF hW hS (lv_sub hl [2, 3, 5, 6, 7, 1, 0] rfl)
  intro M4 H locs ls hF hW hS hl
  refine lv_iconst (v := (0 : Int32)) hx hb dX6_measure_32 (by decide) ?_
  refine lv_istore (lv' := [(7, .int (0 : Int32)), (0, .ref (ad 6 0)), (1, .int a1), (3, .int a3), (4, .int a4), (5, .int a5), (6, .int (M 2200 j1))]) hx hb dX6_measure_33 hl (by decide) rfl ?_
  clear hl; intro ls hl
  refine w6_measure_35 C hK hN a1 a3 a4 a5 (M 2200 j1) (hE := ?_) FU M4 (0 : Int32) _ _ _ hF hW hS (lv_sub hl [1, 2, 3, 4, 5, 6, 0] rfl)
  intro M20 H locs ls hF hW hS hl
  refine lv_aload_n hx hb dX6_measure_142 rfl (lv_at hl 0 rfl) ?_
  refine lv_iconst (v := (0 : Int32)) hx hb dX6_measure_143 (by decide) ?_
  replace hF := lt_ex hF
  obtain ⟨M21, eM21, hF⟩ := hF
  refine p6_27 hx hb hts hi6_measure_6 hown hK hW hS eM21 (hts (.fieldLink RX6 134 RX6 "free" "I") (by decide +kernel)) dX6_measure_144 ?_
  clear hW hS; intro H locs hW hS
  refine lv_aload_n hx hb dX6_measure_147 rfl (lv_at hl 0 rfl) ?_
  refine lv_iconst (v := (0 : Int32)) hx hb dX6_measure_148 (by decide) ?_
  replace hF := lt_ex hF
  obtain ⟨M22, eM22, hF⟩ := hF
  refine p6_28 hx hb hts hi6_measure_6 hown hK hW hS eM22 (hts (.fieldLink RX6 137 RX6 "longest" "I") (by decide +kernel)) dX6_measure_149 ?_
  clear hW hS; intro H locs hW hS
  refine lv_aload_n hx hb dX6_measure_152 rfl (lv_at hl 0 rfl) ?_
  refine lv_iconst (v := (-1 : Int32)) hx hb dX6_measure_153 (by decide) ?_
  replace hF := lt_ex hF
  obtain ⟨M23, eM23, hF⟩ := hF
  refine p6_29 hx hb hts hi6_measure_6 hown hK hW hS eM23 (hts (.fieldLink RX6 140 RX6 "firstGap" "I") (by decide +kernel)) dX6_measure_154 ?_
  clear hW hS; intro H locs hW hS
  refine lv_iconst (v := (0 : Int32)) hx hb dX6_measure_157 (by decide) ?_
  refine lv_istore (lv' := [(7, .int (0 : Int32)), (0, .ref (ad 6 0)), (5, .int a5), (6, .int (M 2200 j1))]) hx hb dX6_measure_158 hl (by decide) rfl ?_
  clear hl; intro ls hl
  refine lv_iconst (v := (0 : Int32)) hx hb dX6_measure_160 (by decide) ?_
  refine lv_istore (lv' := [(8, .int (0 : Int32)), (7, .int (0 : Int32)), (0, .ref (ad 6 0)), (5, .int a5), (6, .int (M 2200 j1))]) hx hb dX6_measure_161 hl (by decide) rfl ?_
  clear hl; intro ls hl
  refine w6_measure_163 C hK hN a5 (M 2200 j1) (hE := ?_) FU M23 (0 : Int32) (0 : Int32) _ _ _ hF hW hS (lv_sub hl [2, 3, 4, 1, 0] rfl)
  intro M32 H locs ls hF hW hS hl
  have hq1 := Option.some.inj hF
  subst hq1
  exact e_v hx hb hr hlk hK hN hW hS dX6_measure_259

set_option maxHeartbeats 4000000 in
set_option maxRecDepth 100000 in
theorem c6_measure (l : Launch) {D : va_G} {cA : Nat → ClassId} {z : Nat} {ad : Nat → Nat → Nat} {N : TN} {S : TS} {P : TP} {M : TS} (a1 : Int32) (a2 : Int32) (a3 : Int32) (a4 : Int32) (a5 : Int32) {M' : TS} (hF : f6_measure M a1 a2 a3 a4 a5 = some M') : Met l yX6_measure wsX6_measure rm6_measure (va_Pc [.ref (ad 6 0), .int a1, .int a2, .int a3, .int a4, .int a5] (Wl D cA z (ad, N, S, P, M))) (Qv D cA z (ad, N, S, P, M')) 0 0 (fun q => z ≤ q) := by
  refine Met.ofW (cc := cX6_measure) (maxL := 10) (ret := none) (by decide) rfl ?_
  intro p e s m args below meth c s₁ B hml hv
  obtain ⟨rfl, hW, hK, hN⟩ := hv
  have hl := lv_entry ([.ref (ad 6 0), .int a1, .int a2, .int a3, .int a4, .int a5]) (n := 10) (Nat.le_of_ble_eq_true rfl)
  rw [lg_entry_eq]
  generalize (lg_sl ([.ref (ad 6 0), .int a1, .int a2, .int a3, .int a4, .int a5]) ++ List.replicate (10 - (lg_sl ([.ref (ad 6 0), .int a1, .int a2, .int a3, .int a4, .int a5])).length) Slot.unset).toArray = ls at hl ⊢
  exact w6_measure ⟨B.exec, B.bytes, B.returns, hml, findClass_of_methodNamed B.named, atoms_spec (ws := wsX6_measure) B.pre, B.notSynchronized⟩ hK hN a1 a2 a3 a4 a5 hF hW va_S.rf hl

-- 6 boards
abbrev rm6_boards : Room := { frames := 3, cells := 0, slots := 0, locals := 73 }
def f6_boards_19 (K : TS → Int32 → Int32 → Option (Int32 × TS)) (c1 : Int32) (c2 : Int32) (c3 : Int32) : Nat → TS → Int32 → Int32 → Int32 → Int32 → Option (Int32 × TS)
  | 0, _, _, _, _, _ => none
  | n + 1, M, y4, y5, y6, y7 =>
    (ix c3 12).bind fun (j2 : Nat) =>
    (ix c3 12).bind fun (j3 : Nat) =>
    if ((M 2000 j2) * (M 2100 j3)) ≤ y7 then
    (K M y4 y6)
    else
    ((ix c3 12).bind fun (j4 : Nat) =>
    if (M 2100 j4) = 0 then none else
    (ix c3 12).bind fun (j5 : Nat) =>
    if (M 2100 j5) = 0 then none else
    (f6_of M c1 (2 : Int32)).bind fun (v6 : Int32) =>
    (f6_mayStand M c2 c3 (y7 / (M 2100 j4)) (y7 - y7 / (M 2100 j5) * (M 2100 j5)) v6).bind fun (v8 : Int32) =>
    if v8 = 0 then
    (f6_boards_19 K c1 c2 c3 n M y4 y5 y6 (y7 + 1))
    else
    ((f6_of M c1 (1 : Int32)).bind fun (v10 : Int32) =>
    (f6_measure M c2 c3 (y7 / (M 2100 j4)) (y7 - y7 / (M 2100 j5) * (M 2100 j5)) v10).bind fun (M12 : TS) =>
    if (M12 629 0) = (-1 : Int32) then
    (f6_boards_19 K c1 c2 c3 n M12 y4 y5 y6 (y7 + 1))
    else
    (lt (fun (M14 : TS) => (f6_boards_19 K c1 c2 c3 n M14 y7 (M14 627 0) (M14 629 0) (y7 + 1))) fun (K123 : TS → Option (Int32 × TS)) =>
    if y4 = (-1 : Int32) then
    (K123 M12)
    else
    (if (M12 627 0) < y5 then
    (K123 M12)
    else
    (f6_boards_19 K c1 c2 c3 n M12 y4 y5 y6 (y7 + 1))))))

def f6_boards (M : TS) (a1 : Int32) (a2 : Int32) : Option (Int32 × TS) :=
  (ix a2 60).bind fun (j1 : Nat) =>
  f6_boards_19 (fun (M15 : TS) (w16 : Int32) (w17 : Int32) =>
  if w16 = (-1 : Int32) then
  (some ((0 : Int32), M15))
  else
  ((f6_put M15 a1 (4 : Int32) (3 : Int32)).bind fun (M18 : TS) =>
  (ix (M 2600 j1) 12).bind fun (j20 : Nat) =>
  if (M18 2100 j20) = 0 then none else
  (f6_put M18 a1 (6 : Int32) (w16 / (M18 2100 j20))).bind fun (M21 : TS) =>
  (ix (M 2600 j1) 12).bind fun (j23 : Nat) =>
  if (M21 2100 j23) = 0 then none else
  (f6_put M21 a1 (7 : Int32) (w16 - w16 / (M21 2100 j23) * (M21 2100 j23))).bind fun (M24 : TS) =>
  (f6_put M24 a1 (8 : Int32) w17).bind fun (M26 : TS) =>
  (ix a1 400).bind fun (j28 : Nat) =>
  lt (up M26 3600 j28 (M26 625 0)) fun (M29 : TS) =>
  lt (up M29 625 0 ((M29 625 0) + (1 : Int32))) fun (M30 : TS) =>
  some ((1 : Int32), M30))) a1 a2 (M 2600 j1) FU M (-1 : Int32) (0 : Int32) (0 : Int32) (0 : Int32)
set_option maxRecDepth 20000 in
theorem hi6_boards_6 : ∀ w ∈ u_ws RX6 TX6 31, w ∈ wsX6_boards := by decide +kernel
set_option maxHeartbeats 4000000 in
set_option maxRecDepth 100000 in
theorem w6_boards_19 {p : Program} {l : Launch} {e : Env} {s : State} {m : MethodId} {args : Array Value} {below : List Frame} {meth : Method} {c : Code} (C : MC p s m args meth c cX6_boards (some .boolean) 10 RX6 wsX6_boards) {D : va_G} {cA : Nat → ClassId} {z : Nat} {ad : Nat → Nat → Nat} {N : TN} (hK : va_K D vwCl (tysW cA) s) (hN : NW s) {S : TS} {P : TP} (c1 : Int32) (c2 : Int32) (c3 : Int32) {v : Int32} {M' : TS} {K : TS → Int32 → Int32 → Option (Int32 × TS)}
    (hE : ∀ (M : TS) (e4 : Int32) (e6 : Int32) (H : Heap) (locs : List Loc) (ls : Array Slot), K M e4 e6 = some (v, M') → Wd D cA z ad N S P M H → va_S (fun q => z ≤ q) s.heap H locs → lv_has ls 10 [(0, .ref (ad 6 0)), (1, .int c1), (3, .int c3), (4, .int e4), (6, .int e6)] → W p l e rm6_boards s m args below meth c H locs 0 0 (MQ below (Qi D cA z v (ad, N, S, P, M')) args s 0 0 (fun q => z ≤ q)) (F0 m 145 ls [])) :
    ∀ (n : Nat) (M : TS) (y4 : Int32) (y5 : Int32) (y6 : Int32) (y7 : Int32) (H : Heap) (locs : List Loc) (ls : Array Slot), f6_boards_19 K c1 c2 c3 n M y4 y5 y6 y7 = some (v, M') → Wd D cA z ad N S P M H → va_S (fun q => z ≤ q) s.heap H locs → lv_has ls 10 [(0, .ref (ad 6 0)), (1, .int c1), (2, .int c2), (3, .int c3), (4, .int y4), (5, .int y5), (6, .int y6), (7, .int y7)] → W p l e rm6_boards s m args below meth c H locs 0 0 (MQ below (Qi D cA z v (ad, N, S, P, M')) args s 0 0 (fun q => z ≤ q)) (F0 m 19 ls []) := by
  obtain ⟨hx, hb, hr, hml, hown, hts, hlk⟩ := id C
  intro n
  induction n with
  | zero => intro M y4 y5 y6 y7 H locs ls hF; cases hF
  | succ n ih =>
    intro M y4 y5 y6 y7 H locs ls hF hW hS hl
    rw [f6_boards_19] at hF
    refine lv_iload hx hb dX6_boards_19 (lv_at hl 7 rfl) ?_
    refine lv_aload_n hx hb dX6_boards_21 rfl (lv_at hl 0 rfl) ?_
    refine g6_0 hx hb hts hi6_boards_6 hown hK hW (hts (.fieldLink RX6 7 RX6 "decks" "[I") (by decide +kernel)) dX6_boards_22 ?_
    refine lv_iload_n hx hb dX6_boards_25 rfl (lv_at hl 3 rfl) ?_
    replace hF := ob hF
    obtain ⟨j2, ej2, hF⟩ := hF
    refine l20 hx hb hK hW ej2 dX6_boards_26 ?_
    refine lv_aload_n hx hb dX6_boards_27 rfl (lv_at hl 0 rfl) ?_
    refine g6_1 hx hb hts hi6_boards_6 hown hK hW (hts (.fieldLink RX6 13 RX6 "lanes" "[I") (by decide +kernel)) dX6_boards_28 ?_
    refine lv_iload_n hx hb dX6_boards_31 rfl (lv_at hl 3 rfl) ?_
    replace hF := ob hF
    obtain ⟨j3, ej3, hF⟩ := hF
    refine l21 hx hb hK hW ej3 dX6_boards_32 ?_
    refine lv_imul hx hb dX6_boards_33 ?_
    refine lv_icmp_ge (tgt := 145) hx hb dX6_boards_34 (by decide) (fun hc => ?_) (fun hc => ?_)
    · replace hF := it_t hF hc
      exact hE M y4 y6 _ _ _ hF hW hS (lv_sub hl [0, 1, 3, 4, 6] rfl)
    · replace hF := it_f hF hc
      refine lv_iload hx hb dX6_boards_37 (lv_at hl 7 rfl) ?_
      refine lv_aload_n hx hb dX6_boards_39 rfl (lv_at hl 0 rfl) ?_
      refine g6_1 hx hb hts hi6_boards_6 hown hK hW (hts (.fieldLink RX6 13 RX6 "lanes" "[I") (by decide +kernel)) dX6_boards_40 ?_
      refine lv_iload_n hx hb dX6_boards_43 rfl (lv_at hl 3 rfl) ?_
      replace hF := ob hF
      obtain ⟨j4, ej4, hF⟩ := hF
      refine l21 hx hb hK hW ej4 dX6_boards_44 ?_
      replace hF := it_no hF
      obtain ⟨hnz, hF⟩ := hF
      refine lv_idiv hx hb dX6_boards_45 hnz ?_
      refine lv_istore (lv' := [(8, .int (y7 / (M 2100 j4))), (0, .ref (ad 6 0)), (1, .int c1), (2, .int c2), (3, .int c3), (4, .int y4), (5, .int y5), (6, .int y6), (7, .int y7)]) hx hb dX6_boards_46 hl (by decide) rfl ?_
      clear hl; intro ls hl
      refine lv_iload hx hb dX6_boards_48 (lv_at hl 8 rfl) ?_
      refine lv_aload_n hx hb dX6_boards_50 rfl (lv_at hl 1 rfl) ?_
      refine g6_1 hx hb hts hi6_boards_6 hown hK hW (hts (.fieldLink RX6 13 RX6 "lanes" "[I") (by decide +kernel)) dX6_boards_51 ?_
      refine lv_iload_n hx hb dX6_boards_54 rfl (lv_at hl 4 rfl) ?_
      replace hF := ob hF
      obtain ⟨j5, ej5, hF⟩ := hF
      refine l21 hx hb hK hW ej5 dX6_boards_55 ?_
      replace hF := it_no hF
      obtain ⟨hnz, hF⟩ := hF
      refine lv_irem hx hb dX6_boards_56 hnz ?_
      refine lv_istore (lv' := [(9, .int (y7 - y7 / (M 2100 j5) * (M 2100 j5))), (8, .int (y7 / (M 2100 j4))), (0, .ref (ad 6 0)), (1, .int c1), (2, .int c2), (3, .int c3), (4, .int y4), (5, .int y5), (6, .int y6), (7, .int y7)]) hx hb dX6_boards_57 hl (by decide) rfl ?_
      clear hl; intro ls hl
      refine lv_aload_n hx hb dX6_boards_59 rfl (lv_at hl 2 rfl) ?_
      refine lv_iload_n hx hb dX6_boards_60 rfl (lv_at hl 4 rfl) ?_
      refine lv_iload_n hx hb dX6_boards_61 rfl (lv_at hl 5 rfl) ?_
      refine lv_iload hx hb dX6_boards_62 (lv_at hl 1 rfl) ?_
      refine lv_iload hx hb dX6_boards_64 (lv_at hl 0 rfl) ?_
      refine lv_aload_n hx hb dX6_boards_66 rfl (lv_at hl 2 rfl) ?_
      refine lv_iload_n hx hb dX6_boards_67 rfl (lv_at hl 3 rfl) ?_
      refine lv_iconst (v := (2 : Int32)) hx hb dX6_boards_68 (by decide) ?_
      replace hF := ob hF
      obtain ⟨v6, q7, hF⟩ := hF
      refine k_i (va_runV (As := [.int c1, .int (2 : Int32)]) (rest := [.int (y7 - y7 / (M 2100 j5) * (M 2100 j5)), .int (y7 / (M 2100 j4)), .int c3, .int c2, .ref (ad 6 0)]) ⟨hx, hb, hml, hown, hts⟩ (c6_of l c1 (2 : Int32) q7) (cwV 2 hts gX6_boards_X6_of rfl rfl rfl (by decide +kernel) ⟨Nat.le_of_ble_eq_true rfl, Nat.le_of_ble_eq_true rfl⟩) (k_preV hW hK hN (hW.fx 6 rfl) (EE_6 cA ad S P M 0) rfl) rfl rfl hl.1 rfl (lv_room (Nat.le_of_ble_eq_true rfl)) dX6_boards_69 ⟨Nat.le_of_ble_eq_true rfl, Nat.le_of_ble_eq_true rfl⟩) hS ?_
      clear hW hS; intro H locs hW hS
      replace hF := ob hF
      obtain ⟨v8, q9, hF⟩ := hF
      refine k_i (va_runV (As := [.int c2, .int c3, .int (y7 / (M 2100 j4)), .int (y7 - y7 / (M 2100 j5) * (M 2100 j5)), .int v6]) (rest := []) ⟨hx, hb, hml, hown, hts⟩ (c6_mayStand l c2 c3 (y7 / (M 2100 j4)) (y7 - y7 / (M 2100 j5) * (M 2100 j5)) v6 q9) (cwV 5 hts gX6_boards_X6_mayStand rfl rfl rfl (by decide +kernel) ⟨Nat.le_of_ble_eq_true rfl, Nat.le_of_ble_eq_true rfl⟩) (k_preV hW hK hN (hW.fx 6 rfl) (EE_6 cA ad S P M 0) rfl) rfl rfl hl.1 rfl (lv_room (Nat.le_of_ble_eq_true rfl)) dX6_boards_72 ⟨Nat.le_of_ble_eq_true rfl, Nat.le_of_ble_eq_true rfl⟩) hS ?_
      clear hW hS; intro H locs hW hS
      refine lv_if_ne (tgt := 81) hx hb dX6_boards_75 (by decide) (fun hc => ?_) (fun hc => ?_)
      · replace hF := it_f hF hc
        refine lv_aload_n hx hb dX6_boards_81 rfl (lv_at hl 2 rfl) ?_
        refine lv_iload_n hx hb dX6_boards_82 rfl (lv_at hl 4 rfl) ?_
        refine lv_iload_n hx hb dX6_boards_83 rfl (lv_at hl 5 rfl) ?_
        refine lv_iload hx hb dX6_boards_84 (lv_at hl 1 rfl) ?_
        refine lv_iload hx hb dX6_boards_86 (lv_at hl 0 rfl) ?_
        refine lv_aload_n hx hb dX6_boards_88 rfl (lv_at hl 2 rfl) ?_
        refine lv_iload_n hx hb dX6_boards_89 rfl (lv_at hl 3 rfl) ?_
        refine lv_iconst (v := (1 : Int32)) hx hb dX6_boards_90 (by decide) ?_
        replace hF := ob hF
        obtain ⟨v10, q11, hF⟩ := hF
        refine k_i (va_runV (As := [.int c1, .int (1 : Int32)]) (rest := [.int (y7 - y7 / (M 2100 j5) * (M 2100 j5)), .int (y7 / (M 2100 j4)), .int c3, .int c2, .ref (ad 6 0)]) ⟨hx, hb, hml, hown, hts⟩ (c6_of l c1 (1 : Int32) q11) (cwV 2 hts gX6_boards_X6_of rfl rfl rfl (by decide +kernel) ⟨Nat.le_of_ble_eq_true rfl, Nat.le_of_ble_eq_true rfl⟩) (k_preV hW hK hN (hW.fx 6 rfl) (EE_6 cA ad S P M 0) rfl) rfl rfl hl.1 rfl (lv_room (Nat.le_of_ble_eq_true rfl)) dX6_boards_91 ⟨Nat.le_of_ble_eq_true rfl, Nat.le_of_ble_eq_true rfl⟩) hS ?_
        clear hW hS; intro H locs hW hS
        replace hF := ob hF
        obtain ⟨M12, q13, hF⟩ := hF
        refine k_v (va_runV (As := [.int c2, .int c3, .int (y7 / (M 2100 j4)), .int (y7 - y7 / (M 2100 j5) * (M 2100 j5)), .int v10]) (rest := []) ⟨hx, hb, hml, hown, hts⟩ (c6_measure l c2 c3 (y7 / (M 2100 j4)) (y7 - y7 / (M 2100 j5) * (M 2100 j5)) v10 q13) (cwV 5 hts gX6_boards_X6_measure rfl rfl rfl (by decide +kernel) ⟨Nat.le_of_ble_eq_true rfl, Nat.le_of_ble_eq_true rfl⟩) (k_preV hW hK hN (hW.fx 6 rfl) (EE_6 cA ad S P M 0) rfl) rfl rfl hl.1 rfl (lv_room (Nat.le_of_ble_eq_true rfl)) dX6_boards_94 ⟨Nat.le_of_ble_eq_true rfl, Nat.le_of_ble_eq_true rfl⟩) hS ?_
        clear hW hS; intro H locs hW hS
        refine lv_aload_n hx hb dX6_boards_97 rfl (lv_at hl 2 rfl) ?_
        refine g6_29 hx hb hts hi6_boards_6 hown hK hW (hts (.fieldLink RX6 140 RX6 "firstGap" "I") (by decide +kernel)) dX6_boards_98 ?_
        refine lv_iconst (v := (-1 : Int32)) hx hb dX6_boards_101 (by decide) ?_
        refine lv_icmp_eq (tgt := 139) hx hb dX6_boards_102 (by decide) (fun hc => ?_) (fun hc => ?_)
        · replace hF := it_t hF hc
          refine lv_iinc (v := y7 + 1) (lv' := [(7, .int (y7 + 1)), (9, .int (y7 - y7 / (M 2100 j5) * (M 2100 j5))), (8, .int (y7 / (M 2100 j4))), (0, .ref (ad 6 0)), (1, .int c1), (2, .int c2), (3, .int c3), (4, .int y4), (5, .int y5), (6, .int y6)]) hx hb dX6_boards_139 hl (k := 9) rfl rfl (by decide) rfl ?_
          clear hl; intro ls hl
          refine lv_goto (tgt := 19) hx hb dX6_boards_142 (by decide) ?_
          exact ih M12 y4 y5 y6 (y7 + 1) _ _ _ hF hW hS (lv_sub hl [3, 4, 5, 6, 7, 8, 9, 0] rfl)
        · replace hF := it_f hF hc
          refine lv_iload hx hb dX6_boards_105 (lv_at hl 6 rfl) ?_
          refine lv_iconst (v := (-1 : Int32)) hx hb dX6_boards_107 (by decide) ?_
          replace hF := lt_ex hF
          obtain ⟨K123, eK123, hF⟩ := hF
          have hK123 : ∀ (M14 : TS) (H : Heap) (locs : List Loc) (ls : Array Slot), K123 M14 = some (v, M') → Wd D cA z ad N S P M14 H → va_S (fun q => z ≤ q) s.heap H locs → lv_has ls 10 [(0, .ref (ad 6 0)), (1, .int c1), (2, .int c2), (3, .int c3), (7, .int y7)] → W p l e rm6_boards s m args below meth c H locs 0 0 (MQ below (Qi D cA z v (ad, N, S, P, M')) args s 0 0 (fun q => z ≤ q)) (F0 m 123 ls []) := by
            intro M14 H locs ls hF hW hS hl
            subst eK123
            refine lv_iload hx hb dX6_boards_123 (lv_at hl 4 rfl) ?_
            refine lv_istore (lv' := [(4, .int y7), (0, .ref (ad 6 0)), (1, .int c1), (2, .int c2), (3, .int c3), (7, .int y7)]) hx hb dX6_boards_125 hl (by decide) rfl ?_
            clear hl; intro ls hl
            refine lv_aload_n hx hb dX6_boards_127 rfl (lv_at hl 1 rfl) ?_
            refine g6_27 hx hb hts hi6_boards_6 hown hK hW (hts (.fieldLink RX6 134 RX6 "free" "I") (by decide +kernel)) dX6_boards_128 ?_
            refine lv_istore (lv' := [(5, .int (M14 627 0)), (4, .int y7), (0, .ref (ad 6 0)), (1, .int c1), (2, .int c2), (3, .int c3), (7, .int y7)]) hx hb dX6_boards_131 hl (by decide) rfl ?_
            clear hl; intro ls hl
            refine lv_aload_n hx hb dX6_boards_133 rfl (lv_at hl 2 rfl) ?_
            refine g6_29 hx hb hts hi6_boards_6 hown hK hW (hts (.fieldLink RX6 140 RX6 "firstGap" "I") (by decide +kernel)) dX6_boards_134 ?_
            refine lv_istore (lv' := [(6, .int (M14 629 0)), (5, .int (M14 627 0)), (4, .int y7), (0, .ref (ad 6 0)), (1, .int c1), (2, .int c2), (3, .int c3), (7, .int y7)]) hx hb dX6_boards_137 hl (by decide) rfl ?_
            clear hl; intro ls hl
            refine lv_iinc (v := y7 + 1) (lv' := [(7, .int (y7 + 1)), (6, .int (M14 629 0)), (5, .int (M14 627 0)), (4, .int y7), (0, .ref (ad 6 0)), (1, .int c1), (2, .int c2), (3, .int c3)]) hx hb dX6_boards_139 hl (k := 7) rfl rfl (by decide) rfl ?_
            clear hl; intro ls hl
            refine lv_goto (tgt := 19) hx hb dX6_boards_142 (by decide) ?_
            exact ih M14 y7 (M14 627 0) (M14 629 0) (y7 + 1) _ _ _ hF hW hS (lv_sub hl [4, 5, 6, 7, 3, 2, 1, 0] rfl)
          clear eK123
          refine lv_icmp_eq (tgt := 123) hx hb dX6_boards_108 (by decide) (fun hc => ?_) (fun hc => ?_)
          · replace hF := it_t hF hc
            exact hK123 M12 _ _ _ hF hW hS (lv_sub hl [2, 3, 4, 5, 9] rfl)
          · replace hF := it_f hF hc
            refine lv_aload_n hx hb dX6_boards_111 rfl (lv_at hl 2 rfl) ?_
            refine g6_27 hx hb hts hi6_boards_6 hown hK hW (hts (.fieldLink RX6 134 RX6 "free" "I") (by decide +kernel)) dX6_boards_112 ?_
            refine lv_iload hx hb dX6_boards_115 (lv_at hl 7 rfl) ?_
            refine lv_icmp_lt (tgt := 123) hx hb dX6_boards_117 (by decide) (fun hc => ?_) (fun hc => ?_)
            · replace hF := it_t hF hc
              exact hK123 M12 _ _ _ hF hW hS (lv_sub hl [2, 3, 4, 5, 9] rfl)
            · replace hF := it_f hF hc
              refine lv_goto (tgt := 139) hx hb dX6_boards_120 (by decide) ?_
              refine lv_iinc (v := y7 + 1) (lv' := [(7, .int (y7 + 1)), (9, .int (y7 - y7 / (M 2100 j5) * (M 2100 j5))), (8, .int (y7 / (M 2100 j4))), (0, .ref (ad 6 0)), (1, .int c1), (2, .int c2), (3, .int c3), (4, .int y4), (5, .int y5), (6, .int y6)]) hx hb dX6_boards_139 hl (k := 9) rfl rfl (by decide) rfl ?_
              clear hl; intro ls hl
              refine lv_goto (tgt := 19) hx hb dX6_boards_142 (by decide) ?_
              exact ih M12 y4 y5 y6 (y7 + 1) _ _ _ hF hW hS (lv_sub hl [3, 4, 5, 6, 7, 8, 9, 0] rfl)
      · replace hF := it_t hF hc
        refine lv_goto (tgt := 139) hx hb dX6_boards_78 (by decide) ?_
        refine lv_iinc (v := y7 + 1) (lv' := [(7, .int (y7 + 1)), (9, .int (y7 - y7 / (M 2100 j5) * (M 2100 j5))), (8, .int (y7 / (M 2100 j4))), (0, .ref (ad 6 0)), (1, .int c1), (2, .int c2), (3, .int c3), (4, .int y4), (5, .int y5), (6, .int y6)]) hx hb dX6_boards_139 hl (k := 9) rfl rfl (by decide) rfl ?_
        clear hl; intro ls hl
        refine lv_goto (tgt := 19) hx hb dX6_boards_142 (by decide) ?_
        exact ih M y4 y5 y6 (y7 + 1) _ _ _ hF hW hS (lv_sub hl [3, 4, 5, 6, 7, 8, 9, 0] rfl)

set_option maxHeartbeats 4000000 in
set_option maxRecDepth 100000 in
theorem w6_boards {p : Program} {l : Launch} {e : Env} {s : State} {m : MethodId} {args : Array Value} {below : List Frame} {meth : Method} {c : Code} (C : MC p s m args meth c cX6_boards (some .boolean) 10 RX6 wsX6_boards) {D : va_G} {cA : Nat → ClassId} {z : Nat} {ad : Nat → Nat → Nat} {N : TN} (hK : va_K D vwCl (tysW cA) s) (hN : NW s) {S : TS} {P : TP} {M : TS} (a1 : Int32) (a2 : Int32) {v : Int32} {M' : TS} (hF : f6_boards M a1 a2 = some (v, M'))
    {H : Heap} {ls : Array Slot} (hW : Wd D cA z ad N S P M H) {locs : List Loc} (hS : va_S (fun q => z ≤ q) s.heap H locs) (hl : lv_has ls 10 [(0, .ref (ad 6 0)), (1, .int a1), (2, .int a2)]) : W p l e rm6_boards s m args below meth c H locs 0 0 (MQ below (Qi D cA z v (ad, N, S, P, M')) args s 0 0 (fun q => z ≤ q)) (F0 m 0 ls []) := by
  obtain ⟨hx, hb, hr, hml, hown, hts, hlk⟩ := id C
  unfold f6_boards at hF
  refine lv_aload_n hx hb dX6_boards_0 rfl (lv_at hl 0 rfl) ?_
  refine g6_6 hx hb hts hi6_boards_6 hown hK hW (hts (.fieldLink RX6 29 RX6 "ship" "[I") (by decide +kernel)) dX6_boards_1 ?_
  refine lv_iload_n hx hb dX6_boards_4 rfl (lv_at hl 2 rfl) ?_
  replace hF := ob hF
  obtain ⟨j1, ej1, hF⟩ := hF
  refine l26 hx hb hK hW ej1 dX6_boards_5 ?_
  refine lv_istore_n (lv' := [(3, .int (M 2600 j1)), (0, .ref (ad 6 0)), (1, .int a1), (2, .int a2)]) hx hb dX6_boards_6 rfl hl (by decide) rfl ?_
  clear hl; intro ls hl
  refine lv_iconst (v := (-1 : Int32)) hx hb dX6_boards_7 (by decide) ?_
  refine lv_istore (lv' := [(4, .int (-1 : Int32)), (3, .int (M 2600 j1)), (0, .ref (ad 6 0)), (1, .int a1), (2, .int a2)]) hx hb dX6_boards_8 hl (by decide) rfl ?_
  clear hl; intro ls hl
  refine lv_iconst (v := (0 : Int32)) hx hb dX6_boards_10 (by decide) ?_
  refine lv_istore (lv' := [(5, .int (0 : Int32)), (4, .int (-1 : Int32)), (3, .int (M 2600 j1)), (0, .ref (ad 6 0)), (1, .int a1), (2, .int a2)]) hx hb dX6_boards_11 hl (by decide) rfl ?_
  clear hl; intro ls hl
  refine lv_iconst (v := (0 : Int32)) hx hb dX6_boards_13 (by decide) ?_
  refine lv_istore (lv' := [(6, .int (0 : Int32)), (5, .int (0 : Int32)), (4, .int (-1 : Int32)), (3, .int (M 2600 j1)), (0, .ref (ad 6 0)), (1, .int a1), (2, .int a2)]) hx hb dX6_boards_14 hl (by decide) rfl ?_
  clear hl; intro ls hl
  refine lv_iconst (v := (0 : Int32)) hx hb dX6_boards_16 (by decide) ?_
  refine lv_istore (lv' := [(7, .int (0 : Int32)), (6, .int (0 : Int32)), (5, .int (0 : Int32)), (4, .int (-1 : Int32)), (3, .int (M 2600 j1)), (0, .ref (ad 6 0)), (1, .int a1), (2, .int a2)]) hx hb dX6_boards_17 hl (by decide) rfl ?_
  clear hl; intro ls hl
  refine w6_boards_19 C hK hN a1 a2 (M 2600 j1) (hE := ?_) FU M (-1 : Int32) (0 : Int32) (0 : Int32) (0 : Int32) _ _ _ hF hW hS (lv_sub hl [5, 6, 7, 4, 3, 2, 1, 0] rfl)
  intro M15 w16 w17 H locs ls hF hW hS hl
  refine lv_iload hx hb dX6_boards_145 (lv_at hl 3 rfl) ?_
  refine lv_iconst (v := (-1 : Int32)) hx hb dX6_boards_147 (by decide) ?_
  refine lv_icmp_ne (tgt := 153) hx hb dX6_boards_148 (by decide) (fun hc => ?_) (fun hc => ?_)
  · replace hF := it_f hF hc
    refine lv_aload_n hx hb dX6_boards_153 rfl (lv_at hl 0 rfl) ?_
    refine lv_iload_n hx hb dX6_boards_154 rfl (lv_at hl 1 rfl) ?_
    refine lv_iconst (v := (4 : Int32)) hx hb dX6_boards_155 (by decide) ?_
    refine lv_iconst (v := (3 : Int32)) hx hb dX6_boards_156 (by decide) ?_
    replace hF := ob hF
    obtain ⟨M18, q19, hF⟩ := hF
    refine k_v (va_runV (As := [.int a1, .int (4 : Int32), .int (3 : Int32)]) (rest := []) ⟨hx, hb, hml, hown, hts⟩ (c6_put l a1 (4 : Int32) (3 : Int32) q19) (cwV 3 hts gX6_boards_X6_put rfl rfl rfl (by decide +kernel) ⟨Nat.le_of_ble_eq_true rfl, Nat.le_of_ble_eq_true rfl⟩) (k_preV hW hK hN (hW.fx 6 rfl) (EE_6 cA ad S P M15 0) rfl) rfl rfl hl.1 rfl (lv_room (Nat.le_of_ble_eq_true rfl)) dX6_boards_157 ⟨Nat.le_of_ble_eq_true rfl, Nat.le_of_ble_eq_true rfl⟩) hS ?_
    clear hW hS; intro H locs hW hS
    refine lv_aload_n hx hb dX6_boards_160 rfl (lv_at hl 0 rfl) ?_
    refine lv_iload_n hx hb dX6_boards_161 rfl (lv_at hl 1 rfl) ?_
    refine lv_bipush (v := (6 : Int32)) hx hb dX6_boards_162 (by decide) ?_
    refine lv_iload hx hb dX6_boards_164 (lv_at hl 3 rfl) ?_
    refine lv_aload_n hx hb dX6_boards_166 rfl (lv_at hl 0 rfl) ?_
    refine g6_1 hx hb hts hi6_boards_6 hown hK hW (hts (.fieldLink RX6 13 RX6 "lanes" "[I") (by decide +kernel)) dX6_boards_167 ?_
    refine lv_iload_n hx hb dX6_boards_170 rfl (lv_at hl 2 rfl) ?_
    replace hF := ob hF
    obtain ⟨j20, ej20, hF⟩ := hF
    refine l21 hx hb hK hW ej20 dX6_boards_171 ?_
    replace hF := it_no hF
    obtain ⟨hnz, hF⟩ := hF
    refine lv_idiv hx hb dX6_boards_172 hnz ?_
    replace hF := ob hF
    obtain ⟨M21, q22, hF⟩ := hF
    refine k_v (va_runV (As := [.int a1, .int (6 : Int32), .int (w16 / (M18 2100 j20))]) (rest := []) ⟨hx, hb, hml, hown, hts⟩ (c6_put l a1 (6 : Int32) (w16 / (M18 2100 j20)) q22) (cwV 3 hts gX6_boards_X6_put rfl rfl rfl (by decide +kernel) ⟨Nat.le_of_ble_eq_true rfl, Nat.le_of_ble_eq_true rfl⟩) (k_preV hW hK hN (hW.fx 6 rfl) (EE_6 cA ad S P M18 0) rfl) rfl rfl hl.1 rfl (lv_room (Nat.le_of_ble_eq_true rfl)) dX6_boards_173 ⟨Nat.le_of_ble_eq_true rfl, Nat.le_of_ble_eq_true rfl⟩) hS ?_
    clear hW hS; intro H locs hW hS
    refine lv_aload_n hx hb dX6_boards_176 rfl (lv_at hl 0 rfl) ?_
    refine lv_iload_n hx hb dX6_boards_177 rfl (lv_at hl 1 rfl) ?_
    refine lv_bipush (v := (7 : Int32)) hx hb dX6_boards_178 (by decide) ?_
    refine lv_iload hx hb dX6_boards_180 (lv_at hl 3 rfl) ?_
    refine lv_aload_n hx hb dX6_boards_182 rfl (lv_at hl 0 rfl) ?_
    refine g6_1 hx hb hts hi6_boards_6 hown hK hW (hts (.fieldLink RX6 13 RX6 "lanes" "[I") (by decide +kernel)) dX6_boards_183 ?_
    refine lv_iload_n hx hb dX6_boards_186 rfl (lv_at hl 2 rfl) ?_
    replace hF := ob hF
    obtain ⟨j23, ej23, hF⟩ := hF
    refine l21 hx hb hK hW ej23 dX6_boards_187 ?_
    replace hF := it_no hF
    obtain ⟨hnz, hF⟩ := hF
    refine lv_irem hx hb dX6_boards_188 hnz ?_
    replace hF := ob hF
    obtain ⟨M24, q25, hF⟩ := hF
    refine k_v (va_runV (As := [.int a1, .int (7 : Int32), .int (w16 - w16 / (M21 2100 j23) * (M21 2100 j23))]) (rest := []) ⟨hx, hb, hml, hown, hts⟩ (c6_put l a1 (7 : Int32) (w16 - w16 / (M21 2100 j23) * (M21 2100 j23)) q25) (cwV 3 hts gX6_boards_X6_put rfl rfl rfl (by decide +kernel) ⟨Nat.le_of_ble_eq_true rfl, Nat.le_of_ble_eq_true rfl⟩) (k_preV hW hK hN (hW.fx 6 rfl) (EE_6 cA ad S P M21 0) rfl) rfl rfl hl.1 rfl (lv_room (Nat.le_of_ble_eq_true rfl)) dX6_boards_189 ⟨Nat.le_of_ble_eq_true rfl, Nat.le_of_ble_eq_true rfl⟩) hS ?_
    clear hW hS; intro H locs hW hS
    refine lv_aload_n hx hb dX6_boards_192 rfl (lv_at hl 0 rfl) ?_
    refine lv_iload_n hx hb dX6_boards_193 rfl (lv_at hl 1 rfl) ?_
    refine lv_bipush (v := (8 : Int32)) hx hb dX6_boards_194 (by decide) ?_
    refine lv_iload hx hb dX6_boards_196 (lv_at hl 4 rfl) ?_
    replace hF := ob hF
    obtain ⟨M26, q27, hF⟩ := hF
    refine k_v (va_runV (As := [.int a1, .int (8 : Int32), .int w17]) (rest := []) ⟨hx, hb, hml, hown, hts⟩ (c6_put l a1 (8 : Int32) w17 q27) (cwV 3 hts gX6_boards_X6_put rfl rfl rfl (by decide +kernel) ⟨Nat.le_of_ble_eq_true rfl, Nat.le_of_ble_eq_true rfl⟩) (k_preV hW hK hN (hW.fx 6 rfl) (EE_6 cA ad S P M24 0) rfl) rfl rfl hl.1 rfl (lv_room (Nat.le_of_ble_eq_true rfl)) dX6_boards_198 ⟨Nat.le_of_ble_eq_true rfl, Nat.le_of_ble_eq_true rfl⟩) hS ?_
    clear hW hS; intro H locs hW hS
    refine lv_aload_n hx hb dX6_boards_201 rfl (lv_at hl 0 rfl) ?_
    refine g6_16 hx hb hts hi6_boards_6 hown hK hW (hts (.fieldLink RX6 59 RX6 "boarded" "[I") (by decide +kernel)) dX6_boards_202 ?_
    refine lv_iload_n hx hb dX6_boards_205 rfl (lv_at hl 1 rfl) ?_
    refine lv_aload_n hx hb dX6_boards_206 rfl (lv_at hl 0 rfl) ?_
    refine g6_25 hx hb hts hi6_boards_6 hown hK hW (hts (.fieldLink RX6 154 RX6 "boardings" "I") (by decide +kernel)) dX6_boards_207 ?_
    replace hF := ob hF
    obtain ⟨j28, ej28, hF⟩ := hF
    replace hF := lt_ex hF
    obtain ⟨M29, eM29, hF⟩ := hF
    refine t36 hx hb hK hW hS ej28 eM29 dX6_boards_210 ?_
    clear hW hS; intro H locs hW hS
    refine lv_aload_n hx hb dX6_boards_211 rfl (lv_at hl 0 rfl) ?_
    refine lv_dup hx hb dX6_boards_212 rfl ?_
    refine g6_25 hx hb hts hi6_boards_6 hown hK hW (hts (.fieldLink RX6 154 RX6 "boardings" "I") (by decide +kernel)) dX6_boards_213 ?_
    refine lv_iconst (v := (1 : Int32)) hx hb dX6_boards_216 (by decide) ?_
    refine lv_iadd hx hb dX6_boards_217 ?_
    replace hF := lt_ex hF
    obtain ⟨M30, eM30, hF⟩ := hF
    refine p6_25 hx hb hts hi6_boards_6 hown hK hW hS eM30 (hts (.fieldLink RX6 154 RX6 "boardings" "I") (by decide +kernel)) dX6_boards_218 ?_
    clear hW hS; intro H locs hW hS
    refine lv_iconst (v := (1 : Int32)) hx hb dX6_boards_221 (by decide) ?_
    obtain ⟨hq1, hq2⟩ := Prod.mk.inj (Option.some.inj hF)
    subst hq1
    subst hq2
    exact e_z hx hb hr hlk hK hN hW hS (by decide) dX6_boards_222
  · replace hF := it_t hF hc
    refine lv_iconst (v := (0 : Int32)) hx hb dX6_boards_151 (by decide) ?_
    obtain ⟨hq1, hq2⟩ := Prod.mk.inj (Option.some.inj hF)
    subst hq1
    subst hq2
    exact e_z hx hb hr hlk hK hN hW hS (by decide) dX6_boards_152

set_option maxHeartbeats 4000000 in
set_option maxRecDepth 100000 in
theorem c6_boards (l : Launch) {D : va_G} {cA : Nat → ClassId} {z : Nat} {ad : Nat → Nat → Nat} {N : TN} {S : TS} {P : TP} {M : TS} (a1 : Int32) (a2 : Int32) {v : Int32} {M' : TS} (hF : f6_boards M a1 a2 = some (v, M')) : Met l yX6_boards wsX6_boards rm6_boards (va_Pc [.ref (ad 6 0), .int a1, .int a2] (Wl D cA z (ad, N, S, P, M))) (Qi D cA z v (ad, N, S, P, M')) 0 0 (fun q => z ≤ q) := by
  refine Met.ofW (cc := cX6_boards) (maxL := 10) (ret := (some .boolean)) (by decide) rfl ?_
  intro p e s m args below meth c s₁ B hml hv
  obtain ⟨rfl, hW, hK, hN⟩ := hv
  have hl := lv_entry ([.ref (ad 6 0), .int a1, .int a2]) (n := 10) (Nat.le_of_ble_eq_true rfl)
  rw [lg_entry_eq]
  generalize (lg_sl ([.ref (ad 6 0), .int a1, .int a2]) ++ List.replicate (10 - (lg_sl ([.ref (ad 6 0), .int a1, .int a2])).length) Slot.unset).toArray = ls at hl ⊢
  exact w6_boards ⟨B.exec, B.bytes, B.returns, hml, findClass_of_methodNamed B.named, atoms_spec (ws := wsX6_boards) B.pre, B.notSynchronized⟩ hK hN a1 a2 hF hW va_S.rf hl

-- 6 isSailing
abbrev rm6_isSailing : Room := { frames := 0, cells := 0, slots := 0, locals := 0 }
def f6_isSailing (M : TS) (a1 : Int32) : Option (Int32) :=
  if a1 < 0 then
  (some (0 : Int32))
  else
  (if (M 622 0) ≤ a1 then
  (some (0 : Int32))
  else
  (some (1 : Int32)))
set_option maxRecDepth 20000 in
theorem hi6_isSailing_6 : ∀ w ∈ u_ws RX6 TX6 31, w ∈ wsX6_isSailing := by decide +kernel
set_option maxHeartbeats 4000000 in
set_option maxRecDepth 100000 in
theorem w6_isSailing {p : Program} {l : Launch} {e : Env} {s : State} {m : MethodId} {args : Array Value} {below : List Frame} {meth : Method} {c : Code} (C : MC p s m args meth c cX6_isSailing (some .boolean) 2 RX6 wsX6_isSailing) {D : va_G} {cA : Nat → ClassId} {z : Nat} {ad : Nat → Nat → Nat} {N : TN} (hK : va_K D vwCl (tysW cA) s) (hN : NW s) {S : TS} {P : TP} {M : TS} (a1 : Int32) {v : Int32} (hF : f6_isSailing M a1 = some v)
    {H : Heap} {ls : Array Slot} (hW : Wd D cA z ad N S P M H) {locs : List Loc} (hS : va_S (fun q => z ≤ q) s.heap H locs) (hl : lv_has ls 2 [(0, .ref (ad 6 0)), (1, .int a1)]) : W p l e rm6_isSailing s m args below meth c H locs 0 0 (MQ below (Qi D cA z v (ad, N, S, P, M)) args s 0 0 (fun q => z ≤ q)) (F0 m 0 ls []) := by
  obtain ⟨hx, hb, hr, hml, hown, hts, hlk⟩ := id C
  unfold f6_isSailing at hF
  refine lv_iload_n hx hb dX6_isSailing_0 rfl (lv_at hl 1 rfl) ?_
  refine lv_if_lt (tgt := 16) hx hb dX6_isSailing_1 (by decide) (fun hc => ?_) (fun hc => ?_)
  · replace hF := it_t hF hc
    refine lv_iconst (v := (0 : Int32)) hx hb dX6_isSailing_16 (by decide) ?_
    have hq1 := Option.some.inj hF
    subst hq1
    exact e_z hx hb hr hlk hK hN hW hS (by decide) dX6_isSailing_17
  · replace hF := it_f hF hc
    refine lv_iload_n hx hb dX6_isSailing_4 rfl (lv_at hl 1 rfl) ?_
    refine lv_aload_n hx hb dX6_isSailing_5 rfl (lv_at hl 0 rfl) ?_
    refine g6_22 hx hb hts hi6_isSailing_6 hown hK hW (hts (.fieldLink RX6 78 RX6 "sailings" "I") (by decide +kernel)) dX6_isSailing_6 ?_
    refine lv_icmp_ge (tgt := 16) hx hb dX6_isSailing_9 (by decide) (fun hc => ?_) (fun hc => ?_)
    · replace hF := it_t hF hc
      refine lv_iconst (v := (0 : Int32)) hx hb dX6_isSailing_16 (by decide) ?_
      have hq1 := Option.some.inj hF
      subst hq1
      exact e_z hx hb hr hlk hK hN hW hS (by decide) dX6_isSailing_17
    · replace hF := it_f hF hc
      refine lv_iconst (v := (1 : Int32)) hx hb dX6_isSailing_12 (by decide) ?_
      refine lv_goto (tgt := 17) hx hb dX6_isSailing_13 (by decide) ?_
      have hq1 := Option.some.inj hF
      subst hq1
      exact e_z hx hb hr hlk hK hN hW hS (by decide) dX6_isSailing_17

set_option maxHeartbeats 4000000 in
set_option maxRecDepth 100000 in
theorem c6_isSailing (l : Launch) {D : va_G} {cA : Nat → ClassId} {z : Nat} {ad : Nat → Nat → Nat} {N : TN} {S : TS} {P : TP} {M : TS} (a1 : Int32) {v : Int32} (hF : f6_isSailing M a1 = some v) : Met l yX6_isSailing wsX6_isSailing rm6_isSailing (va_Pc [.ref (ad 6 0), .int a1] (Wl D cA z (ad, N, S, P, M))) (Qi D cA z v (ad, N, S, P, M)) 0 0 (fun q => z ≤ q) := by
  refine Met.ofW (cc := cX6_isSailing) (maxL := 2) (ret := (some .boolean)) (by decide) rfl ?_
  intro p e s m args below meth c s₁ B hml hv
  obtain ⟨rfl, hW, hK, hN⟩ := hv
  have hl := lv_entry ([.ref (ad 6 0), .int a1]) (n := 2) (Nat.le_of_ble_eq_true rfl)
  rw [lg_entry_eq]
  generalize (lg_sl ([.ref (ad 6 0), .int a1]) ++ List.replicate (2 - (lg_sl ([.ref (ad 6 0), .int a1])).length) Slot.unset).toArray = ls at hl ⊢
  exact w6_isSailing ⟨B.exec, B.bytes, B.returns, hml, findClass_of_methodNamed B.named, atoms_spec (ws := wsX6_isSailing) B.pre, B.notSynchronized⟩ hK hN a1 hF hW va_S.rf hl

-- 6 book
abbrev rm6_book : Room := { frames := 1, cells := 0, slots := 0, locals := 23 }
def f6_book_126 (K : TS → Option (Int32 × TS)) (c1 : Int32) (c2 : Int32) (c3 : Int32) (c4 : Int32) (c5 : Int32) (c6 : Int32) : Nat → TS → Int32 → Option (Int32 × TS)
  | 0, _, _ => none
  | n + 1, M, y7 =>
    if (13 : Int32) ≤ y7 then
    (K M)
    else
    (lt (fun (k15 : Int32) => ((f6_put M c5 y7 k15).bind fun (M16 : TS) =>
    f6_book_126 K c1 c2 c3 c4 c5 c6 n M16 (y7 + 1))) fun (K156 : Int32 → Option (Int32 × TS)) =>
    if y7 < (5 : Int32) then
    (K156 (0 : Int32))
    else
    (if (9 : Int32) < y7 then
    (K156 (0 : Int32))
    else
    (K156 (-1 : Int32))))

def f6_book (M : TS) (a1 : Int32) (a2 : Int32) (a3 : Int32) (a4 : Int32) : Option (Int32 × TS) :=
  (f6_isSailing M a1).bind fun (v1 : Int32) =>
  if v1 = 0 then
  (some ((-1 : Int32), M))
  else
  ((f6_isIn a2 (20 : Int32) (250 : Int32)).bind fun (v3 : Int32) =>
  if v3 = 0 then
  (some ((-1 : Int32), M))
  else
  ((f6_isIn a3 (0 : Int32) (2 : Int32)).bind fun (v5 : Int32) =>
  if v5 = 0 then
  (some ((-1 : Int32), M))
  else
  ((f6_isIn a4 (0 : Int32) (6 : Int32)).bind fun (v7 : Int32) =>
  if v7 = 0 then
  (some ((-1 : Int32), M))
  else
  ((f6_isToGo M a1).bind fun (v9 : Int32) =>
  if v9 = 0 then
  (some ((-1 : Int32), M))
  else
  ((ix a1 60).bind fun (j11 : Nat) =>
  if (M 3100 j11) = (-1 : Int32) then
  ((ix a1 60).bind fun (j12 : Nat) =>
  (ix (M 2600 j12) 12).bind fun (j13 : Nat) =>
  if (M 2200 j13) < a2 then
  (some ((-1 : Int32), M))
  else
  (if (M 623 0) = (400 : Int32) then
  (some ((-1 : Int32), M))
  else
  (lt (up M 623 0 ((M 623 0) + (1 : Int32))) fun (M14 : TS) =>
  f6_book_126 (fun (M18 : TS) =>
  (f6_put M18 (M 623 0) (0 : Int32) a1).bind fun (M19 : TS) =>
  (f6_put M19 (M 623 0) (1 : Int32) a2).bind fun (M21 : TS) =>
  (f6_put M21 (M 623 0) (2 : Int32) a3).bind fun (M23 : TS) =>
  (f6_put M23 (M 623 0) (3 : Int32) a4).bind fun (M25 : TS) =>
  (ix a1 60).bind fun (j27 : Nat) =>
  (f6_put M25 (M 623 0) (10 : Int32) (((((((500 : Int32) + ((3 : Int32) * a2)) + ((700 : Int32) * a3)) + ((1500 : Int32) * a4)) * ((100 : Int32) + ((5 : Int32) * (M25 2800 j27)))) + (50 : Int32)) / (100 : Int32))).bind fun (M28 : TS) =>
  some ((M 623 0), M28)) a1 a2 a3 a4 (M 623 0) ((((500 : Int32) + ((3 : Int32) * a2)) + ((700 : Int32) * a3)) + ((1500 : Int32) * a4)) FU M14 (0 : Int32))))
  else
  (some ((-1 : Int32), M)))))))
set_option maxRecDepth 20000 in
theorem hi6_book_6 : ∀ w ∈ u_ws RX6 TX6 31, w ∈ wsX6_book := by decide +kernel
set_option maxHeartbeats 4000000 in
set_option maxRecDepth 100000 in
theorem w6_book_126 {p : Program} {l : Launch} {e : Env} {s : State} {m : MethodId} {args : Array Value} {below : List Frame} {meth : Method} {c : Code} (C : MC p s m args meth c cX6_book (some .int) 8 RX6 wsX6_book) {D : va_G} {cA : Nat → ClassId} {z : Nat} {ad : Nat → Nat → Nat} {N : TN} (hK : va_K D vwCl (tysW cA) s) (hN : NW s) {S : TS} {P : TP} (c1 : Int32) (c2 : Int32) (c3 : Int32) (c4 : Int32) (c5 : Int32) (c6 : Int32) {v : Int32} {M' : TS} {K : TS → Option (Int32 × TS)}
    (hE : ∀ (M : TS) (H : Heap) (locs : List Loc) (ls : Array Slot), K M = some (v, M') → Wd D cA z ad N S P M H → va_S (fun q => z ≤ q) s.heap H locs → lv_has ls 8 [(0, .ref (ad 6 0)), (1, .int c1), (2, .int c2), (3, .int c3), (4, .int c4), (5, .int c5), (6, .int c6)] → W p l e rm6_book s m args below meth c H locs 0 0 (MQ below (Qi D cA z v (ad, N, S, P, M')) args s 0 0 (fun q => z ≤ q)) (F0 m 165 ls [])) :
    ∀ (n : Nat) (M : TS) (y7 : Int32) (H : Heap) (locs : List Loc) (ls : Array Slot), f6_book_126 K c1 c2 c3 c4 c5 c6 n M y7 = some (v, M') → Wd D cA z ad N S P M H → va_S (fun q => z ≤ q) s.heap H locs → lv_has ls 8 [(0, .ref (ad 6 0)), (1, .int c1), (2, .int c2), (3, .int c3), (4, .int c4), (5, .int c5), (6, .int c6), (7, .int y7)] → W p l e rm6_book s m args below meth c H locs 0 0 (MQ below (Qi D cA z v (ad, N, S, P, M')) args s 0 0 (fun q => z ≤ q)) (F0 m 126 ls []) := by
  obtain ⟨hx, hb, hr, hml, hown, hts, hlk⟩ := id C
  intro n
  induction n with
  | zero => intro M y7 H locs ls hF; cases hF
  | succ n ih =>
    intro M y7 H locs ls hF hW hS hl
    rw [f6_book_126] at hF
    refine lv_iload hx hb dX6_book_126 (lv_at hl 7 rfl) ?_
    refine lv_bipush (v := (13 : Int32)) hx hb dX6_book_128 (by decide) ?_
    refine lv_icmp_ge (tgt := 165) hx hb dX6_book_130 (by decide) (fun hc => ?_) (fun hc => ?_)
    · replace hF := it_t hF hc
      exact hE M _ _ _ hF hW hS (lv_sub hl [0, 1, 2, 3, 4, 5, 6] rfl)
    · replace hF := it_f hF hc
      refine lv_aload_n hx hb dX6_book_133 rfl (lv_at hl 0 rfl) ?_
      refine lv_iload hx hb dX6_book_134 (lv_at hl 5 rfl) ?_
      refine lv_iload hx hb dX6_book_136 (lv_at hl 7 rfl) ?_
      refine lv_iload hx hb dX6_book_138 (lv_at hl 7 rfl) ?_
      refine lv_iconst (v := (5 : Int32)) hx hb dX6_book_140 (by decide) ?_
      replace hF := lt_ex hF
      obtain ⟨K156, eK156, hF⟩ := hF
      have hK156 : ∀ (k15 : Int32) (H : Heap) (locs : List Loc) (ls : Array Slot), K156 k15 = some (v, M') → Wd D cA z ad N S P M H → va_S (fun q => z ≤ q) s.heap H locs → lv_has ls 8 [(0, .ref (ad 6 0)), (1, .int c1), (2, .int c2), (3, .int c3), (4, .int c4), (5, .int c5), (6, .int c6), (7, .int y7)] → W p l e rm6_book s m args below meth c H locs 0 0 (MQ below (Qi D cA z v (ad, N, S, P, M')) args s 0 0 (fun q => z ≤ q)) (F0 m 156 ls [.int k15, .int y7, .int c5, .ref (ad 6 0)]) := by
        intro k15 H locs ls hF hW hS hl
        subst eK156
        replace hF := ob hF
        obtain ⟨M16, q17, hF⟩ := hF
        refine k_v (va_runV (As := [.int c5, .int y7, .int k15]) (rest := []) ⟨hx, hb, hml, hown, hts⟩ (c6_put l c5 y7 k15 q17) (cwV 3 hts gX6_book_X6_put rfl rfl rfl (by decide +kernel) ⟨Nat.le_of_ble_eq_true rfl, Nat.le_of_ble_eq_true rfl⟩) (k_preV hW hK hN (hW.fx 6 rfl) (EE_6 cA ad S P M 0) rfl) rfl rfl hl.1 rfl (lv_room (Nat.le_of_ble_eq_true rfl)) dX6_book_156 ⟨Nat.le_of_ble_eq_true rfl, Nat.le_of_ble_eq_true rfl⟩) hS ?_
        clear hW hS; intro H locs hW hS
        refine lv_iinc (v := y7 + 1) (lv' := [(7, .int (y7 + 1)), (0, .ref (ad 6 0)), (1, .int c1), (2, .int c2), (3, .int c3), (4, .int c4), (5, .int c5), (6, .int c6)]) hx hb dX6_book_159 hl (k := 7) rfl rfl (by decide) rfl ?_
        clear hl; intro ls hl
        refine lv_goto (tgt := 126) hx hb dX6_book_162 (by decide) ?_
        exact ih M16 (y7 + 1) _ _ _ hF hW hS (lv_sub hl [1, 2, 3, 4, 5, 6, 7, 0] rfl)
      clear eK156
      refine lv_icmp_lt (tgt := 155) hx hb dX6_book_141 (by decide) (fun hc => ?_) (fun hc => ?_)
      · replace hF := it_t hF hc
        refine lv_iconst (v := (0 : Int32)) hx hb dX6_book_155 (by decide) ?_
        exact hK156 (0 : Int32) _ _ _ hF hW hS (lv_sub hl [0, 1, 2, 3, 4, 5, 6, 7] rfl)
      · replace hF := it_f hF hc
        refine lv_iload hx hb dX6_book_144 (lv_at hl 7 rfl) ?_
        refine lv_bipush (v := (9 : Int32)) hx hb dX6_book_146 (by decide) ?_
        refine lv_icmp_gt (tgt := 155) hx hb dX6_book_148 (by decide) (fun hc => ?_) (fun hc => ?_)
        · replace hF := it_t hF hc
          refine lv_iconst (v := (0 : Int32)) hx hb dX6_book_155 (by decide) ?_
          exact hK156 (0 : Int32) _ _ _ hF hW hS (lv_sub hl [0, 1, 2, 3, 4, 5, 6, 7] rfl)
        · replace hF := it_f hF hc
          refine lv_iconst (v := (-1 : Int32)) hx hb dX6_book_151 (by decide) ?_
          refine lv_goto (tgt := 156) hx hb dX6_book_152 (by decide) ?_
          exact hK156 (-1 : Int32) _ _ _ hF hW hS (lv_sub hl [0, 1, 2, 3, 4, 5, 6, 7] rfl)

set_option maxHeartbeats 4000000 in
set_option maxRecDepth 100000 in
theorem w6_book {p : Program} {l : Launch} {e : Env} {s : State} {m : MethodId} {args : Array Value} {below : List Frame} {meth : Method} {c : Code} (C : MC p s m args meth c cX6_book (some .int) 8 RX6 wsX6_book) {D : va_G} {cA : Nat → ClassId} {z : Nat} {ad : Nat → Nat → Nat} {N : TN} (hK : va_K D vwCl (tysW cA) s) (hN : NW s) {S : TS} {P : TP} {M : TS} (a1 : Int32) (a2 : Int32) (a3 : Int32) (a4 : Int32) {v : Int32} {M' : TS} (hF : f6_book M a1 a2 a3 a4 = some (v, M'))
    {H : Heap} {ls : Array Slot} (hW : Wd D cA z ad N S P M H) {locs : List Loc} (hS : va_S (fun q => z ≤ q) s.heap H locs) (hl : lv_has ls 8 [(0, .ref (ad 6 0)), (1, .int a1), (2, .int a2), (3, .int a3), (4, .int a4)]) : W p l e rm6_book s m args below meth c H locs 0 0 (MQ below (Qi D cA z v (ad, N, S, P, M')) args s 0 0 (fun q => z ≤ q)) (F0 m 0 ls []) := by
  obtain ⟨hx, hb, hr, hml, hown, hts, hlk⟩ := id C
  unfold f6_book at hF
  refine lv_aload_n hx hb dX6_book_0 rfl (lv_at hl 0 rfl) ?_
  refine lv_iload_n hx hb dX6_book_1 rfl (lv_at hl 1 rfl) ?_
  replace hF := ob hF
  obtain ⟨v1, q2, hF⟩ := hF
  refine k_i (va_runV (As := [.int a1]) (rest := []) ⟨hx, hb, hml, hown, hts⟩ (c6_isSailing l a1 q2) (cwV 1 hts gX6_book_X6_isSailing rfl rfl rfl (by decide +kernel) ⟨Nat.le_of_ble_eq_true rfl, Nat.le_of_ble_eq_true rfl⟩) (k_preV hW hK hN (hW.fx 6 rfl) (EE_6 cA ad S P M 0) rfl) rfl rfl hl.1 rfl (lv_room (Nat.le_of_ble_eq_true rfl)) dX6_book_2 ⟨Nat.le_of_ble_eq_true rfl, Nat.le_of_ble_eq_true rfl⟩) hS ?_
  clear hW hS; intro H locs hW hS
  refine lv_if_eq (tgt := 83) hx hb dX6_book_5 (by decide) (fun hc => ?_) (fun hc => ?_)
  · replace hF := it_t hF hc
    refine lv_iconst (v := (-1 : Int32)) hx hb dX6_book_83 (by decide) ?_
    obtain ⟨hq1, hq2⟩ := Prod.mk.inj (Option.some.inj hF)
    subst hq1
    subst hq2
    exact e_i hx hb hr hlk hK hN hW hS dX6_book_84
  · replace hF := it_f hF hc
    refine lv_iload_n hx hb dX6_book_8 rfl (lv_at hl 2 rfl) ?_
    refine lv_bipush (v := (20 : Int32)) hx hb dX6_book_9 (by decide) ?_
    refine lv_sipush (v := (250 : Int32)) hx hb dX6_book_11 (by decide) ?_
    replace hF := ob hF
    obtain ⟨v3, q4, hF⟩ := hF
    refine k_i (va_runS (As := [.int a2, .int (20 : Int32), .int (250 : Int32)]) (rest := []) ⟨hx, hb, hml, hown, hts⟩ (c6_isIn l a2 (20 : Int32) (250 : Int32) q4) (va_cwS 3 hts gX6_book_X6_isIn rfl rfl rfl (by decide +kernel) ⟨Nat.le_of_ble_eq_true rfl, Nat.le_of_ble_eq_true rfl⟩) (k_preS hW hK hN) rfl rfl hl.1 rfl (lv_room (Nat.le_of_ble_eq_true rfl)) dX6_book_14 ⟨Nat.le_of_ble_eq_true rfl, Nat.le_of_ble_eq_true rfl⟩) hS ?_
    clear hW hS; intro H locs hW hS
    refine lv_if_eq (tgt := 83) hx hb dX6_book_17 (by decide) (fun hc => ?_) (fun hc => ?_)
    · replace hF := it_t hF hc
      refine lv_iconst (v := (-1 : Int32)) hx hb dX6_book_83 (by decide) ?_
      obtain ⟨hq1, hq2⟩ := Prod.mk.inj (Option.some.inj hF)
      subst hq1
      subst hq2
      exact e_i hx hb hr hlk hK hN hW hS dX6_book_84
    · replace hF := it_f hF hc
      refine lv_iload_n hx hb dX6_book_20 rfl (lv_at hl 3 rfl) ?_
      refine lv_iconst (v := (0 : Int32)) hx hb dX6_book_21 (by decide) ?_
      refine lv_iconst (v := (2 : Int32)) hx hb dX6_book_22 (by decide) ?_
      replace hF := ob hF
      obtain ⟨v5, q6, hF⟩ := hF
      refine k_i (va_runS (As := [.int a3, .int (0 : Int32), .int (2 : Int32)]) (rest := []) ⟨hx, hb, hml, hown, hts⟩ (c6_isIn l a3 (0 : Int32) (2 : Int32) q6) (va_cwS 3 hts gX6_book_X6_isIn rfl rfl rfl (by decide +kernel) ⟨Nat.le_of_ble_eq_true rfl, Nat.le_of_ble_eq_true rfl⟩) (k_preS hW hK hN) rfl rfl hl.1 rfl (lv_room (Nat.le_of_ble_eq_true rfl)) dX6_book_23 ⟨Nat.le_of_ble_eq_true rfl, Nat.le_of_ble_eq_true rfl⟩) hS ?_
      clear hW hS; intro H locs hW hS
      refine lv_if_eq (tgt := 83) hx hb dX6_book_26 (by decide) (fun hc => ?_) (fun hc => ?_)
      · replace hF := it_t hF hc
        refine lv_iconst (v := (-1 : Int32)) hx hb dX6_book_83 (by decide) ?_
        obtain ⟨hq1, hq2⟩ := Prod.mk.inj (Option.some.inj hF)
        subst hq1
        subst hq2
        exact e_i hx hb hr hlk hK hN hW hS dX6_book_84
      · replace hF := it_f hF hc
        refine lv_iload hx hb dX6_book_29 (lv_at hl 4 rfl) ?_
        refine lv_iconst (v := (0 : Int32)) hx hb dX6_book_31 (by decide) ?_
        refine lv_bipush (v := (6 : Int32)) hx hb dX6_book_32 (by decide) ?_
        replace hF := ob hF
        obtain ⟨v7, q8, hF⟩ := hF
        refine k_i (va_runS (As := [.int a4, .int (0 : Int32), .int (6 : Int32)]) (rest := []) ⟨hx, hb, hml, hown, hts⟩ (c6_isIn l a4 (0 : Int32) (6 : Int32) q8) (va_cwS 3 hts gX6_book_X6_isIn rfl rfl rfl (by decide +kernel) ⟨Nat.le_of_ble_eq_true rfl, Nat.le_of_ble_eq_true rfl⟩) (k_preS hW hK hN) rfl rfl hl.1 rfl (lv_room (Nat.le_of_ble_eq_true rfl)) dX6_book_34 ⟨Nat.le_of_ble_eq_true rfl, Nat.le_of_ble_eq_true rfl⟩) hS ?_
        clear hW hS; intro H locs hW hS
        refine lv_if_eq (tgt := 83) hx hb dX6_book_37 (by decide) (fun hc => ?_) (fun hc => ?_)
        · replace hF := it_t hF hc
          refine lv_iconst (v := (-1 : Int32)) hx hb dX6_book_83 (by decide) ?_
          obtain ⟨hq1, hq2⟩ := Prod.mk.inj (Option.some.inj hF)
          subst hq1
          subst hq2
          exact e_i hx hb hr hlk hK hN hW hS dX6_book_84
        · replace hF := it_f hF hc
          refine lv_aload_n hx hb dX6_book_40 rfl (lv_at hl 0 rfl) ?_
          refine lv_iload_n hx hb dX6_book_41 rfl (lv_at hl 1 rfl) ?_
          replace hF := ob hF
          obtain ⟨v9, q10, hF⟩ := hF
          refine k_i (va_runV (As := [.int a1]) (rest := []) ⟨hx, hb, hml, hown, hts⟩ (c6_isToGo l a1 q10) (cwV 1 hts gX6_book_X6_isToGo rfl rfl rfl (by decide +kernel) ⟨Nat.le_of_ble_eq_true rfl, Nat.le_of_ble_eq_true rfl⟩) (k_preV hW hK hN (hW.fx 6 rfl) (EE_6 cA ad S P M 0) rfl) rfl rfl hl.1 rfl (lv_room (Nat.le_of_ble_eq_true rfl)) dX6_book_42 ⟨Nat.le_of_ble_eq_true rfl, Nat.le_of_ble_eq_true rfl⟩) hS ?_
          clear hW hS; intro H locs hW hS
          refine lv_if_eq (tgt := 83) hx hb dX6_book_45 (by decide) (fun hc => ?_) (fun hc => ?_)
          · replace hF := it_t hF hc
            refine lv_iconst (v := (-1 : Int32)) hx hb dX6_book_83 (by decide) ?_
            obtain ⟨hq1, hq2⟩ := Prod.mk.inj (Option.some.inj hF)
            subst hq1
            subst hq2
            exact e_i hx hb hr hlk hK hN hW hS dX6_book_84
          · replace hF := it_f hF hc
            refine lv_aload_n hx hb dX6_book_48 rfl (lv_at hl 0 rfl) ?_
            refine g6_11 hx hb hts hi6_book_6 hown hK hW (hts (.fieldLink RX6 44 RX6 "recall" "[I") (by decide +kernel)) dX6_book_49 ?_
            refine lv_iload_n hx hb dX6_book_52 rfl (lv_at hl 1 rfl) ?_
            replace hF := ob hF
            obtain ⟨j11, ej11, hF⟩ := hF
            refine l31 hx hb hK hW ej11 dX6_book_53 ?_
            refine lv_iconst (v := (-1 : Int32)) hx hb dX6_book_54 (by decide) ?_
            refine lv_icmp_ne (tgt := 83) hx hb dX6_book_55 (by decide) (fun hc => ?_) (fun hc => ?_)
            · replace hF := it_f hF hc
              refine lv_iconst (v := (-1 : Int32)) hx hb dX6_book_83 (by decide) ?_
              obtain ⟨hq1, hq2⟩ := Prod.mk.inj (Option.some.inj hF)
              subst hq1
              subst hq2
              exact e_i hx hb hr hlk hK hN hW hS dX6_book_84
            · replace hF := it_t hF hc
              refine lv_aload_n hx hb dX6_book_58 rfl (lv_at hl 0 rfl) ?_
              refine g6_2 hx hb hts hi6_book_6 hown hK hW (hts (.fieldLink RX6 16 RX6 "lengths" "[I") (by decide +kernel)) dX6_book_59 ?_
              refine lv_aload_n hx hb dX6_book_62 rfl (lv_at hl 0 rfl) ?_
              refine g6_6 hx hb hts hi6_book_6 hown hK hW (hts (.fieldLink RX6 29 RX6 "ship" "[I") (by decide +kernel)) dX6_book_63 ?_
              refine lv_iload_n hx hb dX6_book_66 rfl (lv_at hl 1 rfl) ?_
              replace hF := ob hF
              obtain ⟨j12, ej12, hF⟩ := hF
              refine l26 hx hb hK hW ej12 dX6_book_67 ?_
              replace hF := ob hF
              obtain ⟨j13, ej13, hF⟩ := hF
              refine l22 hx hb hK hW ej13 dX6_book_68 ?_
              refine lv_iload_n hx hb dX6_book_69 rfl (lv_at hl 2 rfl) ?_
              refine lv_icmp_lt (tgt := 83) hx hb dX6_book_70 (by decide) (fun hc => ?_) (fun hc => ?_)
              · replace hF := it_t hF hc
                refine lv_iconst (v := (-1 : Int32)) hx hb dX6_book_83 (by decide) ?_
                obtain ⟨hq1, hq2⟩ := Prod.mk.inj (Option.some.inj hF)
                subst hq1
                subst hq2
                exact e_i hx hb hr hlk hK hN hW hS dX6_book_84
              · replace hF := it_f hF hc
                refine lv_aload_n hx hb dX6_book_73 rfl (lv_at hl 0 rfl) ?_
                refine g6_23 hx hb hts hi6_book_6 hown hK hW (hts (.fieldLink RX6 74 RX6 "tickets" "I") (by decide +kernel)) dX6_book_74 ?_
                refine lv_sipush (v := (400 : Int32)) hx hb dX6_book_77 (by decide) ?_
                refine lv_icmp_ne (tgt := 85) hx hb dX6_book_80 (by decide) (fun hc => ?_) (fun hc => ?_)
                · replace hF := it_f hF hc
                  refine lv_aload_n hx hb dX6_book_85 rfl (lv_at hl 0 rfl) ?_
                  refine g6_23 hx hb hts hi6_book_6 hown hK hW (hts (.fieldLink RX6 74 RX6 "tickets" "I") (by decide +kernel)) dX6_book_86 ?_
                  refine lv_istore (lv' := [(5, .int (M 623 0)), (0, .ref (ad 6 0)), (1, .int a1), (2, .int a2), (3, .int a3), (4, .int a4)]) hx hb dX6_book_89 hl (by decide) rfl ?_
                  clear hl; intro ls hl
                  refine lv_aload_n hx hb dX6_book_91 rfl (lv_at hl 1 rfl) ?_
                  refine lv_dup hx hb dX6_book_92 rfl ?_
                  refine g6_23 hx hb hts hi6_book_6 hown hK hW (hts (.fieldLink RX6 74 RX6 "tickets" "I") (by decide +kernel)) dX6_book_93 ?_
                  refine lv_iconst (v := (1 : Int32)) hx hb dX6_book_96 (by decide) ?_
                  refine lv_iadd hx hb dX6_book_97 ?_
                  replace hF := lt_ex hF
                  obtain ⟨M14, eM14, hF⟩ := hF
                  refine p6_23 hx hb hts hi6_book_6 hown hK hW hS eM14 (hts (.fieldLink RX6 74 RX6 "tickets" "I") (by decide +kernel)) dX6_book_98 ?_
                  clear hW hS; intro H locs hW hS
                  refine lv_sipush (v := (500 : Int32)) hx hb dX6_book_101 (by decide) ?_
                  refine lv_iconst (v := (3 : Int32)) hx hb dX6_book_104 (by decide) ?_
                  refine lv_iload_n hx hb dX6_book_105 rfl (lv_at hl 3 rfl) ?_
                  refine lv_imul hx hb dX6_book_106 ?_
                  refine lv_iadd hx hb dX6_book_107 ?_
                  refine lv_sipush (v := (700 : Int32)) hx hb dX6_book_108 (by decide) ?_
                  refine lv_iload_n hx hb dX6_book_111 rfl (lv_at hl 4 rfl) ?_
                  refine lv_imul hx hb dX6_book_112 ?_
                  refine lv_iadd hx hb dX6_book_113 ?_
                  refine lv_sipush (v := (1500 : Int32)) hx hb dX6_book_114 (by decide) ?_
                  refine lv_iload hx hb dX6_book_117 (lv_at hl 5 rfl) ?_
                  refine lv_imul hx hb dX6_book_119 ?_
                  refine lv_iadd hx hb dX6_book_120 ?_
                  refine lv_istore (lv' := [(6, .int ((((500 : Int32) + ((3 : Int32) * a2)) + ((700 : Int32) * a3)) + ((1500 : Int32) * a4))), (5, .int (M 623 0)), (0, .ref (ad 6 0)), (1, .int a1), (2, .int a2), (3, .int a3), (4, .int a4)]) hx hb dX6_book_121 hl (by decide) rfl ?_
                  clear hl; intro ls hl
                  refine lv_iconst (v := (0 : Int32)) hx hb dX6_book_123 (by decide) ?_
                  refine lv_istore (lv' := [(7, .int (0 : Int32)), (6, .int ((((500 : Int32) + ((3 : Int32) * a2)) + ((700 : Int32) * a3)) + ((1500 : Int32) * a4))), (5, .int (M 623 0)), (0, .ref (ad 6 0)), (1, .int a1), (2, .int a2), (3, .int a3), (4, .int a4)]) hx hb dX6_book_124 hl (by decide) rfl ?_
                  clear hl; intro ls hl
                  refine w6_book_126 C hK hN a1 a2 a3 a4 (M 623 0) ((((500 : Int32) + ((3 : Int32) * a2)) + ((700 : Int32) * a3)) + ((1500 : Int32) * a4)) (hE := ?_) FU M14 (0 : Int32) _ _ _ hF hW hS (lv_sub hl [3, 4, 5, 6, 7, 2, 1, 0] rfl)
                  intro M18 H locs ls hF hW hS hl
                  refine lv_aload_n hx hb dX6_book_165 rfl (lv_at hl 0 rfl) ?_
                  refine lv_iload hx hb dX6_book_166 (lv_at hl 5 rfl) ?_
                  refine lv_iconst (v := (0 : Int32)) hx hb dX6_book_168 (by decide) ?_
                  refine lv_iload_n hx hb dX6_book_169 rfl (lv_at hl 1 rfl) ?_
                  replace hF := ob hF
                  obtain ⟨M19, q20, hF⟩ := hF
                  refine k_v (va_runV (As := [.int (M 623 0), .int (0 : Int32), .int a1]) (rest := []) ⟨hx, hb, hml, hown, hts⟩ (c6_put l (M 623 0) (0 : Int32) a1 q20) (cwV 3 hts gX6_book_X6_put rfl rfl rfl (by decide +kernel) ⟨Nat.le_of_ble_eq_true rfl, Nat.le_of_ble_eq_true rfl⟩) (k_preV hW hK hN (hW.fx 6 rfl) (EE_6 cA ad S P M18 0) rfl) rfl rfl hl.1 rfl (lv_room (Nat.le_of_ble_eq_true rfl)) dX6_book_170 ⟨Nat.le_of_ble_eq_true rfl, Nat.le_of_ble_eq_true rfl⟩) hS ?_
                  clear hW hS; intro H locs hW hS
                  refine lv_aload_n hx hb dX6_book_173 rfl (lv_at hl 0 rfl) ?_
                  refine lv_iload hx hb dX6_book_174 (lv_at hl 5 rfl) ?_
                  refine lv_iconst (v := (1 : Int32)) hx hb dX6_book_176 (by decide) ?_
                  refine lv_iload_n hx hb dX6_book_177 rfl (lv_at hl 2 rfl) ?_
                  replace hF := ob hF
                  obtain ⟨M21, q22, hF⟩ := hF
                  refine k_v (va_runV (As := [.int (M 623 0), .int (1 : Int32), .int a2]) (rest := []) ⟨hx, hb, hml, hown, hts⟩ (c6_put l (M 623 0) (1 : Int32) a2 q22) (cwV 3 hts gX6_book_X6_put rfl rfl rfl (by decide +kernel) ⟨Nat.le_of_ble_eq_true rfl, Nat.le_of_ble_eq_true rfl⟩) (k_preV hW hK hN (hW.fx 6 rfl) (EE_6 cA ad S P M19 0) rfl) rfl rfl hl.1 rfl (lv_room (Nat.le_of_ble_eq_true rfl)) dX6_book_178 ⟨Nat.le_of_ble_eq_true rfl, Nat.le_of_ble_eq_true rfl⟩) hS ?_
                  clear hW hS; intro H locs hW hS
                  refine lv_aload_n hx hb dX6_book_181 rfl (lv_at hl 0 rfl) ?_
                  refine lv_iload hx hb dX6_book_182 (lv_at hl 5 rfl) ?_
                  refine lv_iconst (v := (2 : Int32)) hx hb dX6_book_184 (by decide) ?_
                  refine lv_iload_n hx hb dX6_book_185 rfl (lv_at hl 3 rfl) ?_
                  replace hF := ob hF
                  obtain ⟨M23, q24, hF⟩ := hF
                  refine k_v (va_runV (As := [.int (M 623 0), .int (2 : Int32), .int a3]) (rest := []) ⟨hx, hb, hml, hown, hts⟩ (c6_put l (M 623 0) (2 : Int32) a3 q24) (cwV 3 hts gX6_book_X6_put rfl rfl rfl (by decide +kernel) ⟨Nat.le_of_ble_eq_true rfl, Nat.le_of_ble_eq_true rfl⟩) (k_preV hW hK hN (hW.fx 6 rfl) (EE_6 cA ad S P M21 0) rfl) rfl rfl hl.1 rfl (lv_room (Nat.le_of_ble_eq_true rfl)) dX6_book_186 ⟨Nat.le_of_ble_eq_true rfl, Nat.le_of_ble_eq_true rfl⟩) hS ?_
                  clear hW hS; intro H locs hW hS
                  refine lv_aload_n hx hb dX6_book_189 rfl (lv_at hl 0 rfl) ?_
                  refine lv_iload hx hb dX6_book_190 (lv_at hl 5 rfl) ?_
                  refine lv_iconst (v := (3 : Int32)) hx hb dX6_book_192 (by decide) ?_
                  refine lv_iload hx hb dX6_book_193 (lv_at hl 4 rfl) ?_
                  replace hF := ob hF
                  obtain ⟨M25, q26, hF⟩ := hF
                  refine k_v (va_runV (As := [.int (M 623 0), .int (3 : Int32), .int a4]) (rest := []) ⟨hx, hb, hml, hown, hts⟩ (c6_put l (M 623 0) (3 : Int32) a4 q26) (cwV 3 hts gX6_book_X6_put rfl rfl rfl (by decide +kernel) ⟨Nat.le_of_ble_eq_true rfl, Nat.le_of_ble_eq_true rfl⟩) (k_preV hW hK hN (hW.fx 6 rfl) (EE_6 cA ad S P M23 0) rfl) rfl rfl hl.1 rfl (lv_room (Nat.le_of_ble_eq_true rfl)) dX6_book_195 ⟨Nat.le_of_ble_eq_true rfl, Nat.le_of_ble_eq_true rfl⟩) hS ?_
                  clear hW hS; intro H locs hW hS
                  refine lv_aload_n hx hb dX6_book_198 rfl (lv_at hl 0 rfl) ?_
                  refine lv_iload hx hb dX6_book_199 (lv_at hl 5 rfl) ?_
                  refine lv_bipush (v := (10 : Int32)) hx hb dX6_book_201 (by decide) ?_
                  refine lv_iload hx hb dX6_book_203 (lv_at hl 6 rfl) ?_
                  refine lv_bipush (v := (100 : Int32)) hx hb dX6_book_205 (by decide) ?_
                  refine lv_iconst (v := (5 : Int32)) hx hb dX6_book_207 (by decide) ?_
                  refine lv_aload_n hx hb dX6_book_208 rfl (lv_at hl 0 rfl) ?_
                  refine g6_8 hx hb hts hi6_book_6 hown hK hW (hts (.fieldLink RX6 35 RX6 "line" "[I") (by decide +kernel)) dX6_book_209 ?_
                  refine lv_iload_n hx hb dX6_book_212 rfl (lv_at hl 1 rfl) ?_
                  replace hF := ob hF
                  obtain ⟨j27, ej27, hF⟩ := hF
                  refine l28 hx hb hK hW ej27 dX6_book_213 ?_
                  refine lv_imul hx hb dX6_book_214 ?_
                  refine lv_iadd hx hb dX6_book_215 ?_
                  refine lv_imul hx hb dX6_book_216 ?_
                  refine lv_bipush (v := (50 : Int32)) hx hb dX6_book_217 (by decide) ?_
                  refine lv_iadd hx hb dX6_book_219 ?_
                  refine lv_bipush (v := (100 : Int32)) hx hb dX6_book_220 (by decide) ?_
                  refine lv_idiv hx hb dX6_book_222 (by decide) ?_
                  replace hF := ob hF
                  obtain ⟨M28, q29, hF⟩ := hF
                  refine k_v (va_runV (As := [.int (M 623 0), .int (10 : Int32), .int (((((((500 : Int32) + ((3 : Int32) * a2)) + ((700 : Int32) * a3)) + ((1500 : Int32) * a4)) * ((100 : Int32) + ((5 : Int32) * (M25 2800 j27)))) + (50 : Int32)) / (100 : Int32))]) (rest := []) ⟨hx, hb, hml, hown, hts⟩ (c6_put l (M 623 0) (10 : Int32) (((((((500 : Int32) + ((3 : Int32) * a2)) + ((700 : Int32) * a3)) + ((1500 : Int32) * a4)) * ((100 : Int32) + ((5 : Int32) * (M25 2800 j27)))) + (50 : Int32)) / (100 : Int32)) q29) (cwV 3 hts gX6_book_X6_put rfl rfl rfl (by decide +kernel) ⟨Nat.le_of_ble_eq_true rfl, Nat.le_of_ble_eq_true rfl⟩) (k_preV hW hK hN (hW.fx 6 rfl) (EE_6 cA ad S P M25 0) rfl) rfl rfl hl.1 rfl (lv_room (Nat.le_of_ble_eq_true rfl)) dX6_book_223 ⟨Nat.le_of_ble_eq_true rfl, Nat.le_of_ble_eq_true rfl⟩) hS ?_
                  clear hW hS; intro H locs hW hS
                  refine lv_iload hx hb dX6_book_226 (lv_at hl 5 rfl) ?_
                  obtain ⟨hq1, hq2⟩ := Prod.mk.inj (Option.some.inj hF)
                  subst hq1
                  subst hq2
                  exact e_i hx hb hr hlk hK hN hW hS dX6_book_228
                · replace hF := it_t hF hc
                  refine lv_iconst (v := (-1 : Int32)) hx hb dX6_book_83 (by decide) ?_
                  obtain ⟨hq1, hq2⟩ := Prod.mk.inj (Option.some.inj hF)
                  subst hq1
                  subst hq2
                  exact e_i hx hb hr hlk hK hN hW hS dX6_book_84

set_option maxHeartbeats 4000000 in
set_option maxRecDepth 100000 in
theorem c6_book (l : Launch) {D : va_G} {cA : Nat → ClassId} {z : Nat} {ad : Nat → Nat → Nat} {N : TN} {S : TS} {P : TP} {M : TS} (a1 : Int32) (a2 : Int32) (a3 : Int32) (a4 : Int32) {v : Int32} {M' : TS} (hF : f6_book M a1 a2 a3 a4 = some (v, M')) : Met l yX6_book wsX6_book rm6_book (va_Pc [.ref (ad 6 0), .int a1, .int a2, .int a3, .int a4] (Wl D cA z (ad, N, S, P, M))) (Qi D cA z v (ad, N, S, P, M')) 0 0 (fun q => z ≤ q) := by
  refine Met.ofW (cc := cX6_book) (maxL := 8) (ret := (some .int)) (by decide) rfl ?_
  intro p e s m args below meth c s₁ B hml hv
  obtain ⟨rfl, hW, hK, hN⟩ := hv
  have hl := lv_entry ([.ref (ad 6 0), .int a1, .int a2, .int a3, .int a4]) (n := 8) (Nat.le_of_ble_eq_true rfl)
  rw [lg_entry_eq]
  generalize (lg_sl ([.ref (ad 6 0), .int a1, .int a2, .int a3, .int a4]) ++ List.replicate (8 - (lg_sl ([.ref (ad 6 0), .int a1, .int a2, .int a3, .int a4])).length) Slot.unset).toArray = ls at hl ⊢
  exact w6_book ⟨B.exec, B.bytes, B.returns, hml, findClass_of_methodNamed B.named, atoms_spec (ws := wsX6_book) B.pre, B.notSynchronized⟩ hK hN a1 a2 a3 a4 hF hW va_S.rf hl

-- 6 cabin
abbrev rm6_cabin : Room := { frames := 1, cells := 0, slots := 0, locals := 22 }
def f6_cabin (M : TS) (a1 : Int32) (a2 : Int32) : Option (Int32 × TS) :=
  (f6_isShip M a1).bind fun (v1 : Int32) =>
  if v1 = 0 then
  (some ((-1 : Int32), M))
  else
  ((f6_isIn a2 (1 : Int32) (6 : Int32)).bind fun (v3 : Int32) =>
  if v3 = 0 then
  (some ((-1 : Int32), M))
  else
  (if (M 621 0) = (120 : Int32) then
  (some ((-1 : Int32), M))
  else
  ((ix (M 621 0) 120).bind fun (j5 : Nat) =>
  lt (up M 2400 j5 a1) fun (M6 : TS) =>
  (ix (M6 621 0) 120).bind fun (j7 : Nat) =>
  lt (up M6 2500 j7 a2) fun (M8 : TS) =>
  lt (up M8 621 0 ((M8 621 0) + (1 : Int32))) fun (M9 : TS) =>
  some (((M9 621 0) - (1 : Int32)), M9))))
set_option maxRecDepth 20000 in
theorem hi6_cabin_6 : ∀ w ∈ u_ws RX6 TX6 31, w ∈ wsX6_cabin := by decide +kernel
set_option maxHeartbeats 4000000 in
set_option maxRecDepth 100000 in
theorem w6_cabin {p : Program} {l : Launch} {e : Env} {s : State} {m : MethodId} {args : Array Value} {below : List Frame} {meth : Method} {c : Code} (C : MC p s m args meth c cX6_cabin (some .int) 3 RX6 wsX6_cabin) {D : va_G} {cA : Nat → ClassId} {z : Nat} {ad : Nat → Nat → Nat} {N : TN} (hK : va_K D vwCl (tysW cA) s) (hN : NW s) {S : TS} {P : TP} {M : TS} (a1 : Int32) (a2 : Int32) {v : Int32} {M' : TS} (hF : f6_cabin M a1 a2 = some (v, M'))
    {H : Heap} {ls : Array Slot} (hW : Wd D cA z ad N S P M H) {locs : List Loc} (hS : va_S (fun q => z ≤ q) s.heap H locs) (hl : lv_has ls 3 [(0, .ref (ad 6 0)), (1, .int a1), (2, .int a2)]) : W p l e rm6_cabin s m args below meth c H locs 0 0 (MQ below (Qi D cA z v (ad, N, S, P, M')) args s 0 0 (fun q => z ≤ q)) (F0 m 0 ls []) := by
  obtain ⟨hx, hb, hr, hml, hown, hts, hlk⟩ := id C
  unfold f6_cabin at hF
  refine lv_aload_n hx hb dX6_cabin_0 rfl (lv_at hl 0 rfl) ?_
  refine lv_iload_n hx hb dX6_cabin_1 rfl (lv_at hl 1 rfl) ?_
  replace hF := ob hF
  obtain ⟨v1, q2, hF⟩ := hF
  refine k_i (va_runV (As := [.int a1]) (rest := []) ⟨hx, hb, hml, hown, hts⟩ (c6_isShip l a1 q2) (cwV 1 hts gX6_cabin_X6_isShip rfl rfl rfl (by decide +kernel) ⟨Nat.le_of_ble_eq_true rfl, Nat.le_of_ble_eq_true rfl⟩) (k_preV hW hK hN (hW.fx 6 rfl) (EE_6 cA ad S P M 0) rfl) rfl rfl hl.1 rfl (lv_room (Nat.le_of_ble_eq_true rfl)) dX6_cabin_2 ⟨Nat.le_of_ble_eq_true rfl, Nat.le_of_ble_eq_true rfl⟩) hS ?_
  clear hW hS; intro H locs hW hS
  refine lv_if_eq (tgt := 27) hx hb dX6_cabin_5 (by decide) (fun hc => ?_) (fun hc => ?_)
  · replace hF := it_t hF hc
    refine lv_iconst (v := (-1 : Int32)) hx hb dX6_cabin_27 (by decide) ?_
    obtain ⟨hq1, hq2⟩ := Prod.mk.inj (Option.some.inj hF)
    subst hq1
    subst hq2
    exact e_i hx hb hr hlk hK hN hW hS dX6_cabin_28
  · replace hF := it_f hF hc
    refine lv_iload_n hx hb dX6_cabin_8 rfl (lv_at hl 2 rfl) ?_
    refine lv_iconst (v := (1 : Int32)) hx hb dX6_cabin_9 (by decide) ?_
    refine lv_bipush (v := (6 : Int32)) hx hb dX6_cabin_10 (by decide) ?_
    replace hF := ob hF
    obtain ⟨v3, q4, hF⟩ := hF
    refine k_i (va_runS (As := [.int a2, .int (1 : Int32), .int (6 : Int32)]) (rest := []) ⟨hx, hb, hml, hown, hts⟩ (c6_isIn l a2 (1 : Int32) (6 : Int32) q4) (va_cwS 3 hts gX6_cabin_X6_isIn rfl rfl rfl (by decide +kernel) ⟨Nat.le_of_ble_eq_true rfl, Nat.le_of_ble_eq_true rfl⟩) (k_preS hW hK hN) rfl rfl hl.1 rfl (lv_room (Nat.le_of_ble_eq_true rfl)) dX6_cabin_12 ⟨Nat.le_of_ble_eq_true rfl, Nat.le_of_ble_eq_true rfl⟩) hS ?_
    clear hW hS; intro H locs hW hS
    refine lv_if_eq (tgt := 27) hx hb dX6_cabin_15 (by decide) (fun hc => ?_) (fun hc => ?_)
    · replace hF := it_t hF hc
      refine lv_iconst (v := (-1 : Int32)) hx hb dX6_cabin_27 (by decide) ?_
      obtain ⟨hq1, hq2⟩ := Prod.mk.inj (Option.some.inj hF)
      subst hq1
      subst hq2
      exact e_i hx hb hr hlk hK hN hW hS dX6_cabin_28
    · replace hF := it_f hF hc
      refine lv_aload_n hx hb dX6_cabin_18 rfl (lv_at hl 0 rfl) ?_
      refine g6_21 hx hb hts hi6_cabin_6 hown hK hW (hts (.fieldLink RX6 92 RX6 "cabins" "I") (by decide +kernel)) dX6_cabin_19 ?_
      refine lv_bipush (v := (120 : Int32)) hx hb dX6_cabin_22 (by decide) ?_
      refine lv_icmp_ne (tgt := 29) hx hb dX6_cabin_24 (by decide) (fun hc => ?_) (fun hc => ?_)
      · replace hF := it_f hF hc
        refine lv_aload_n hx hb dX6_cabin_29 rfl (lv_at hl 0 rfl) ?_
        refine g6_4 hx hb hts hi6_cabin_6 hown hK hW (hts (.fieldLink RX6 23 RX6 "cabinShip" "[I") (by decide +kernel)) dX6_cabin_30 ?_
        refine lv_aload_n hx hb dX6_cabin_33 rfl (lv_at hl 0 rfl) ?_
        refine g6_21 hx hb hts hi6_cabin_6 hown hK hW (hts (.fieldLink RX6 92 RX6 "cabins" "I") (by decide +kernel)) dX6_cabin_34 ?_
        refine lv_iload_n hx hb dX6_cabin_37 rfl (lv_at hl 1 rfl) ?_
        replace hF := ob hF
        obtain ⟨j5, ej5, hF⟩ := hF
        replace hF := lt_ex hF
        obtain ⟨M6, eM6, hF⟩ := hF
        refine t24 hx hb hK hW hS ej5 eM6 dX6_cabin_38 ?_
        clear hW hS; intro H locs hW hS
        refine lv_aload_n hx hb dX6_cabin_39 rfl (lv_at hl 0 rfl) ?_
        refine g6_5 hx hb hts hi6_cabin_6 hown hK hW (hts (.fieldLink RX6 26 RX6 "beds" "[I") (by decide +kernel)) dX6_cabin_40 ?_
        refine lv_aload_n hx hb dX6_cabin_43 rfl (lv_at hl 0 rfl) ?_
        refine g6_21 hx hb hts hi6_cabin_6 hown hK hW (hts (.fieldLink RX6 92 RX6 "cabins" "I") (by decide +kernel)) dX6_cabin_44 ?_
        refine lv_iload_n hx hb dX6_cabin_47 rfl (lv_at hl 2 rfl) ?_
        replace hF := ob hF
        obtain ⟨j7, ej7, hF⟩ := hF
        replace hF := lt_ex hF
        obtain ⟨M8, eM8, hF⟩ := hF
        refine t25 hx hb hK hW hS ej7 eM8 dX6_cabin_48 ?_
        clear hW hS; intro H locs hW hS
        refine lv_aload_n hx hb dX6_cabin_49 rfl (lv_at hl 0 rfl) ?_
        refine lv_dup hx hb dX6_cabin_50 rfl ?_
        refine g6_21 hx hb hts hi6_cabin_6 hown hK hW (hts (.fieldLink RX6 92 RX6 "cabins" "I") (by decide +kernel)) dX6_cabin_51 ?_
        refine lv_iconst (v := (1 : Int32)) hx hb dX6_cabin_54 (by decide) ?_
        refine lv_iadd hx hb dX6_cabin_55 ?_
        replace hF := lt_ex hF
        obtain ⟨M9, eM9, hF⟩ := hF
        refine p6_21 hx hb hts hi6_cabin_6 hown hK hW hS eM9 (hts (.fieldLink RX6 92 RX6 "cabins" "I") (by decide +kernel)) dX6_cabin_56 ?_
        clear hW hS; intro H locs hW hS
        refine lv_aload_n hx hb dX6_cabin_59 rfl (lv_at hl 0 rfl) ?_
        refine g6_21 hx hb hts hi6_cabin_6 hown hK hW (hts (.fieldLink RX6 92 RX6 "cabins" "I") (by decide +kernel)) dX6_cabin_60 ?_
        refine lv_iconst (v := (1 : Int32)) hx hb dX6_cabin_63 (by decide) ?_
        refine lv_isub hx hb dX6_cabin_64 ?_
        obtain ⟨hq1, hq2⟩ := Prod.mk.inj (Option.some.inj hF)
        subst hq1
        subst hq2
        exact e_i hx hb hr hlk hK hN hW hS dX6_cabin_65
      · replace hF := it_t hF hc
        refine lv_iconst (v := (-1 : Int32)) hx hb dX6_cabin_27 (by decide) ?_
        obtain ⟨hq1, hq2⟩ := Prod.mk.inj (Option.some.inj hF)
        subst hq1
        subst hq2
        exact e_i hx hb hr hlk hK hN hW hS dX6_cabin_28

set_option maxHeartbeats 4000000 in
set_option maxRecDepth 100000 in
theorem c6_cabin (l : Launch) {D : va_G} {cA : Nat → ClassId} {z : Nat} {ad : Nat → Nat → Nat} {N : TN} {S : TS} {P : TP} {M : TS} (a1 : Int32) (a2 : Int32) {v : Int32} {M' : TS} (hF : f6_cabin M a1 a2 = some (v, M')) : Met l yX6_cabin wsX6_cabin rm6_cabin (va_Pc [.ref (ad 6 0), .int a1, .int a2] (Wl D cA z (ad, N, S, P, M))) (Qi D cA z v (ad, N, S, P, M')) 0 0 (fun q => z ≤ q) := by
  refine Met.ofW (cc := cX6_cabin) (maxL := 3) (ret := (some .int)) (by decide) rfl ?_
  intro p e s m args below meth c s₁ B hml hv
  obtain ⟨rfl, hW, hK, hN⟩ := hv
  have hl := lv_entry ([.ref (ad 6 0), .int a1, .int a2]) (n := 3) (Nat.le_of_ble_eq_true rfl)
  rw [lg_entry_eq]
  generalize (lg_sl ([.ref (ad 6 0), .int a1, .int a2]) ++ List.replicate (3 - (lg_sl ([.ref (ad 6 0), .int a1, .int a2])).length) Slot.unset).toArray = ls at hl ⊢
  exact w6_cabin ⟨B.exec, B.bytes, B.returns, hml, findClass_of_methodNamed B.named, atoms_spec (ws := wsX6_cabin) B.pre, B.notSynchronized⟩ hK hN a1 a2 hF hW va_S.rf hl


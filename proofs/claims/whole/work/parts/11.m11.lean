-- 6 depart
abbrev rm6_depart : Room := { frames := 5, cells := 0, slots := 0, locals := 110 }
def f6_depart_49 (K : TS → Int32 → Option (Int32 × TS)) (c1 : Int32) : Nat → TS → Int32 → Int32 → Option (Int32 × TS)
  | 0, _, _, _ => none
  | n + 1, M, y2, y3 =>
    if (M 623 0) ≤ y3 then
    (K M y2)
    else
    ((f6_of M y3 (0 : Int32)).bind fun (v10 : Int32) =>
    if v10 = c1 then
    ((f6_of M y3 (4 : Int32)).bind fun (v12 : Int32) =>
    if v12 = 0 then
    ((f6_put M y3 (4 : Int32) (7 : Int32)).bind fun (M14 : TS) =>
    (f6_of M14 y3 (10 : Int32)).bind fun (v16 : Int32) =>
    (f6_put M14 y3 (11 : Int32) (v16 / (2 : Int32))).bind fun (M18 : TS) =>
    f6_depart_49 K c1 n M18 y2 (y3 + 1))
    else
    (if v12 = 1 then
    (f6_depart_49 K c1 n M y2 (y3 + 1))
    else
    (if v12 = 2 then
    (f6_depart_49 K c1 n M y2 (y3 + 1))
    else
    (if v12 = 3 then
    ((f6_of M y3 (9 : Int32)).bind fun (v20 : Int32) =>
    (f6_comesOff M y3).bind fun (M22 : TS) =>
    (f6_put M22 y3 (9 : Int32) v20).bind fun (M24 : TS) =>
    (f6_put M24 y3 (4 : Int32) (6 : Int32)).bind fun (M26 : TS) =>
    f6_depart_49 K c1 n M26 (y2 + 1) (y3 + 1))
    else
    (if v12 = 4 then
    ((f6_put M y3 (4 : Int32) (5 : Int32)).bind fun (M28 : TS) =>
    (f6_of M28 y3 (10 : Int32)).bind fun (v30 : Int32) =>
    (f6_put M28 y3 (11 : Int32) v30).bind fun (M32 : TS) =>
    f6_depart_49 K c1 n M32 y2 (y3 + 1))
    else
    (f6_depart_49 K c1 n M y2 (y3 + 1)))))))
    else
    (f6_depart_49 K c1 n M y2 (y3 + 1)))

def f6_depart (M : TS) (a1 : Int32) : Option (Int32 × TS) :=
  (f6_isSailing M a1).bind fun (v1 : Int32) =>
  if v1 = 0 then
  (some ((-1 : Int32), M))
  else
  ((ix a1 60).bind fun (j3 : Nat) =>
  if (M 2900 j3) = (1 : Int32) then
  ((ix a1 60).bind fun (j4 : Nat) =>
  if (M 3100 j4) = (-1 : Int32) then
  (b2 (f6_hasTurn M a1) fun (v5 : Int32) (M6 : TS) =>
  if v5 = 0 then
  ((ix a1 60).bind fun (j8 : Nat) =>
  lt (up M6 2900 j8 (2 : Int32)) fun (M9 : TS) =>
  f6_depart_49 (fun (M34 : TS) (w35 : Int32) =>
  some (w35, M34)) a1 FU M9 (0 : Int32) (0 : Int32))
  else
  (some ((-1 : Int32), M6)))
  else
  (some ((-1 : Int32), M)))
  else
  (some ((-1 : Int32), M)))
set_option maxRecDepth 20000 in
theorem hi6_depart_6 : ∀ w ∈ u_ws RX6 TX6 31, w ∈ wsX6_depart := by decide +kernel
set_option maxHeartbeats 4000000 in
set_option maxRecDepth 100000 in
theorem w6_depart_49 {p : Program} {l : Launch} {e : Env} {s : State} {m : MethodId} {args : Array Value} {below : List Frame} {meth : Method} {c : Code} (C : MC p s m args meth c cX6_depart (some .int) 5 RX6 wsX6_depart) {D : va_G} {cA : Nat → ClassId} {z : Nat} {ad : Nat → Nat → Nat} {N : TN} (hK : va_K D vwCl (tysW cA) s) (hN : NW s) {S : TS} {P : TP} (c1 : Int32) {v : Int32} {M' : TS} {K : TS → Int32 → Option (Int32 × TS)}
    (hE : ∀ (M : TS) (e2 : Int32) (H : Heap) (locs : List Loc) (ls : Array Slot), K M e2 = some (v, M') → Wd D cA z ad N S P M H → va_S (fun q => z ≤ q) s.heap H locs → lv_has ls 5 [(2, .int e2)] → W p l e rm6_depart s m args below meth c H locs 0 0 (MQ below (Qi D cA z v (ad, N, S, P, M')) args s 0 0 (fun q => z ≤ q)) (F0 m 206 ls [])) :
    ∀ (n : Nat) (M : TS) (y2 : Int32) (y3 : Int32) (H : Heap) (locs : List Loc) (ls : Array Slot), f6_depart_49 K c1 n M y2 y3 = some (v, M') → Wd D cA z ad N S P M H → va_S (fun q => z ≤ q) s.heap H locs → lv_has ls 5 [(0, .ref (ad 6 0)), (1, .int c1), (2, .int y2), (3, .int y3)] → W p l e rm6_depart s m args below meth c H locs 0 0 (MQ below (Qi D cA z v (ad, N, S, P, M')) args s 0 0 (fun q => z ≤ q)) (F0 m 49 ls []) := by
  obtain ⟨hx, hb, hr, hml, hown, hts, hlk⟩ := id C
  intro n
  induction n with
  | zero => intro M y2 y3 H locs ls hF; cases hF
  | succ n ih =>
    intro M y2 y3 H locs ls hF hW hS hl
    rw [f6_depart_49] at hF
    refine lv_iload_n hx hb dX6_depart_49 rfl (lv_at hl 3 rfl) ?_
    refine lv_aload_n hx hb dX6_depart_50 rfl (lv_at hl 0 rfl) ?_
    refine g6_23 hx hb hts hi6_depart_6 hown hK hW (hts (.fieldLink RX6 74 RX6 "tickets" "I") (by decide +kernel)) dX6_depart_51 ?_
    refine lv_icmp_ge (tgt := 206) hx hb dX6_depart_54 (by decide) (fun hc => ?_) (fun hc => ?_)
    · replace hF := it_t hF hc
      exact hE M y2 _ _ _ hF hW hS (lv_sub hl [2] rfl)
    · replace hF := it_f hF hc
      refine lv_aload_n hx hb dX6_depart_57 rfl (lv_at hl 0 rfl) ?_
      refine lv_iload_n hx hb dX6_depart_58 rfl (lv_at hl 3 rfl) ?_
      refine lv_iconst (v := (0 : Int32)) hx hb dX6_depart_59 (by decide) ?_
      replace hF := ob hF
      obtain ⟨v10, q11, hF⟩ := hF
      refine k_i (va_runV (As := [.int y3, .int (0 : Int32)]) (rest := []) ⟨hx, hb, hml, hown, hts⟩ (c6_of l y3 (0 : Int32) q11) (cwV 2 hts gX6_depart_X6_of rfl rfl rfl (by decide +kernel) ⟨Nat.le_of_ble_eq_true rfl, Nat.le_of_ble_eq_true rfl⟩) (k_preV hW hK hN (hW.fx 6 rfl) (EE_6 cA ad S P M 0) rfl) rfl rfl hl.1 rfl (lv_room (Nat.le_of_ble_eq_true rfl)) dX6_depart_60 ⟨Nat.le_of_ble_eq_true rfl, Nat.le_of_ble_eq_true rfl⟩) hS ?_
      clear hW hS; intro H locs hW hS
      refine lv_iload_n hx hb dX6_depart_63 rfl (lv_at hl 1 rfl) ?_
      refine lv_icmp_eq (tgt := 70) hx hb dX6_depart_64 (by decide) (fun hc => ?_) (fun hc => ?_)
      · replace hF := it_t hF hc
        refine lv_aload_n hx hb dX6_depart_70 rfl (lv_at hl 0 rfl) ?_
        refine lv_iload_n hx hb dX6_depart_71 rfl (lv_at hl 3 rfl) ?_
        refine lv_iconst (v := (4 : Int32)) hx hb dX6_depart_72 (by decide) ?_
        replace hF := ob hF
        obtain ⟨v12, q13, hF⟩ := hF
        refine k_i (va_runV (As := [.int y3, .int (4 : Int32)]) (rest := []) ⟨hx, hb, hml, hown, hts⟩ (c6_of l y3 (4 : Int32) q13) (cwV 2 hts gX6_depart_X6_of rfl rfl rfl (by decide +kernel) ⟨Nat.le_of_ble_eq_true rfl, Nat.le_of_ble_eq_true rfl⟩) (k_preV hW hK hN (hW.fx 6 rfl) (EE_6 cA ad S P M 0) rfl) rfl rfl hl.1 rfl (lv_room (Nat.le_of_ble_eq_true rfl)) dX6_depart_73 ⟨Nat.le_of_ble_eq_true rfl, Nat.le_of_ble_eq_true rfl⟩) hS ?_
        clear hW hS; intro H locs hW hS
        by_cases hn0 : v12 = 0
        · replace hF := it_t hF hn0
          refine lv_tableIn (off := 97) (tgt := 173) hx hb dX6_depart_76 (by rw [hn0]; decide) (by rw [hn0]; decide) (by rw [hn0]; rfl) (by decide) ?_
          refine lv_aload_n hx hb dX6_depart_173 rfl (lv_at hl 0 rfl) ?_
          refine lv_iload_n hx hb dX6_depart_174 rfl (lv_at hl 3 rfl) ?_
          refine lv_iconst (v := (4 : Int32)) hx hb dX6_depart_175 (by decide) ?_
          refine lv_bipush (v := (7 : Int32)) hx hb dX6_depart_176 (by decide) ?_
          replace hF := ob hF
          obtain ⟨M14, q15, hF⟩ := hF
          refine k_v (va_runV (As := [.int y3, .int (4 : Int32), .int (7 : Int32)]) (rest := []) ⟨hx, hb, hml, hown, hts⟩ (c6_put l y3 (4 : Int32) (7 : Int32) q15) (cwV 3 hts gX6_depart_X6_put rfl rfl rfl (by decide +kernel) ⟨Nat.le_of_ble_eq_true rfl, Nat.le_of_ble_eq_true rfl⟩) (k_preV hW hK hN (hW.fx 6 rfl) (EE_6 cA ad S P M 0) rfl) rfl rfl hl.1 rfl (lv_room (Nat.le_of_ble_eq_true rfl)) dX6_depart_178 ⟨Nat.le_of_ble_eq_true rfl, Nat.le_of_ble_eq_true rfl⟩) hS ?_
          clear hW hS; intro H locs hW hS
          refine lv_aload_n hx hb dX6_depart_181 rfl (lv_at hl 0 rfl) ?_
          refine lv_iload_n hx hb dX6_depart_182 rfl (lv_at hl 3 rfl) ?_
          refine lv_bipush (v := (11 : Int32)) hx hb dX6_depart_183 (by decide) ?_
          refine lv_aload_n hx hb dX6_depart_185 rfl (lv_at hl 0 rfl) ?_
          refine lv_iload_n hx hb dX6_depart_186 rfl (lv_at hl 3 rfl) ?_
          refine lv_bipush (v := (10 : Int32)) hx hb dX6_depart_187 (by decide) ?_
          replace hF := ob hF
          obtain ⟨v16, q17, hF⟩ := hF
          refine k_i (va_runV (As := [.int y3, .int (10 : Int32)]) (rest := [.int (11 : Int32), .int y3, .ref (ad 6 0)]) ⟨hx, hb, hml, hown, hts⟩ (c6_of l y3 (10 : Int32) q17) (cwV 2 hts gX6_depart_X6_of rfl rfl rfl (by decide +kernel) ⟨Nat.le_of_ble_eq_true rfl, Nat.le_of_ble_eq_true rfl⟩) (k_preV hW hK hN (hW.fx 6 rfl) (EE_6 cA ad S P M14 0) rfl) rfl rfl hl.1 rfl (lv_room (Nat.le_of_ble_eq_true rfl)) dX6_depart_189 ⟨Nat.le_of_ble_eq_true rfl, Nat.le_of_ble_eq_true rfl⟩) hS ?_
          clear hW hS; intro H locs hW hS
          refine lv_iconst (v := (2 : Int32)) hx hb dX6_depart_192 (by decide) ?_
          refine lv_idiv hx hb dX6_depart_193 (by decide) ?_
          replace hF := ob hF
          obtain ⟨M18, q19, hF⟩ := hF
          refine k_v (va_runV (As := [.int y3, .int (11 : Int32), .int (v16 / (2 : Int32))]) (rest := []) ⟨hx, hb, hml, hown, hts⟩ (c6_put l y3 (11 : Int32) (v16 / (2 : Int32)) q19) (cwV 3 hts gX6_depart_X6_put rfl rfl rfl (by decide +kernel) ⟨Nat.le_of_ble_eq_true rfl, Nat.le_of_ble_eq_true rfl⟩) (k_preV hW hK hN (hW.fx 6 rfl) (EE_6 cA ad S P M14 0) rfl) rfl rfl hl.1 rfl (lv_room (Nat.le_of_ble_eq_true rfl)) dX6_depart_194 ⟨Nat.le_of_ble_eq_true rfl, Nat.le_of_ble_eq_true rfl⟩) hS ?_
          clear hW hS; intro H locs hW hS
          refine lv_goto (tgt := 200) hx hb dX6_depart_197 (by decide) ?_
          refine lv_iinc (v := y3 + 1) (lv' := [(3, .int (y3 + 1)), (0, .ref (ad 6 0)), (1, .int c1), (2, .int y2)]) hx hb dX6_depart_200 hl (k := 3) rfl rfl (by decide) rfl ?_
          clear hl; intro ls hl
          refine lv_goto (tgt := 49) hx hb dX6_depart_203 (by decide) ?_
          exact ih M18 y2 (y3 + 1) _ _ _ hF hW hS (lv_sub hl [1, 2, 3, 0] rfl)
        · replace hF := it_f hF hn0
          by_cases hn1 : v12 = 1
          · replace hF := it_t hF hn1
            refine lv_tableIn (off := 124) (tgt := 200) hx hb dX6_depart_76 (by rw [hn1]; decide) (by rw [hn1]; decide) (by rw [hn1]; rfl) (by decide) ?_
            refine lv_iinc (v := y3 + 1) (lv' := [(3, .int (y3 + 1)), (0, .ref (ad 6 0)), (1, .int c1), (2, .int y2)]) hx hb dX6_depart_200 hl (k := 3) rfl rfl (by decide) rfl ?_
            clear hl; intro ls hl
            refine lv_goto (tgt := 49) hx hb dX6_depart_203 (by decide) ?_
            exact ih M y2 (y3 + 1) _ _ _ hF hW hS (lv_sub hl [1, 2, 3, 0] rfl)
          · replace hF := it_f hF hn1
            by_cases hn2 : v12 = 2
            · replace hF := it_t hF hn2
              refine lv_tableIn (off := 124) (tgt := 200) hx hb dX6_depart_76 (by rw [hn2]; decide) (by rw [hn2]; decide) (by rw [hn2]; rfl) (by decide) ?_
              refine lv_iinc (v := y3 + 1) (lv' := [(3, .int (y3 + 1)), (0, .ref (ad 6 0)), (1, .int c1), (2, .int y2)]) hx hb dX6_depart_200 hl (k := 3) rfl rfl (by decide) rfl ?_
              clear hl; intro ls hl
              refine lv_goto (tgt := 49) hx hb dX6_depart_203 (by decide) ?_
              exact ih M y2 (y3 + 1) _ _ _ hF hW hS (lv_sub hl [1, 2, 3, 0] rfl)
            · replace hF := it_f hF hn2
              by_cases hn3 : v12 = 3
              · replace hF := it_t hF hn3
                refine lv_tableIn (off := 36) (tgt := 112) hx hb dX6_depart_76 (by rw [hn3]; decide) (by rw [hn3]; decide) (by rw [hn3]; rfl) (by decide) ?_
                refine lv_aload_n hx hb dX6_depart_112 rfl (lv_at hl 0 rfl) ?_
                refine lv_iload_n hx hb dX6_depart_113 rfl (lv_at hl 3 rfl) ?_
                refine lv_bipush (v := (9 : Int32)) hx hb dX6_depart_114 (by decide) ?_
                replace hF := ob hF
                obtain ⟨v20, q21, hF⟩ := hF
                refine k_i (va_runV (As := [.int y3, .int (9 : Int32)]) (rest := []) ⟨hx, hb, hml, hown, hts⟩ (c6_of l y3 (9 : Int32) q21) (cwV 2 hts gX6_depart_X6_of rfl rfl rfl (by decide +kernel) ⟨Nat.le_of_ble_eq_true rfl, Nat.le_of_ble_eq_true rfl⟩) (k_preV hW hK hN (hW.fx 6 rfl) (EE_6 cA ad S P M 0) rfl) rfl rfl hl.1 rfl (lv_room (Nat.le_of_ble_eq_true rfl)) dX6_depart_116 ⟨Nat.le_of_ble_eq_true rfl, Nat.le_of_ble_eq_true rfl⟩) hS ?_
                clear hW hS; intro H locs hW hS
                refine lv_istore (lv' := [(4, .int v20), (0, .ref (ad 6 0)), (1, .int c1), (2, .int y2), (3, .int y3)]) hx hb dX6_depart_119 hl (by decide) rfl ?_
                clear hl; intro ls hl
                refine lv_aload_n hx hb dX6_depart_121 rfl (lv_at hl 1 rfl) ?_
                refine lv_iload_n hx hb dX6_depart_122 rfl (lv_at hl 4 rfl) ?_
                replace hF := ob hF
                obtain ⟨M22, q23, hF⟩ := hF
                refine k_v (va_runV (As := [.int y3]) (rest := []) ⟨hx, hb, hml, hown, hts⟩ (c6_comesOff l y3 q23) (cwV 1 hts gX6_depart_X6_comesOff rfl rfl rfl (by decide +kernel) ⟨Nat.le_of_ble_eq_true rfl, Nat.le_of_ble_eq_true rfl⟩) (k_preV hW hK hN (hW.fx 6 rfl) (EE_6 cA ad S P M 0) rfl) rfl rfl hl.1 rfl (lv_room (Nat.le_of_ble_eq_true rfl)) dX6_depart_123 ⟨Nat.le_of_ble_eq_true rfl, Nat.le_of_ble_eq_true rfl⟩) hS ?_
                clear hW hS; intro H locs hW hS
                refine lv_aload_n hx hb dX6_depart_126 rfl (lv_at hl 1 rfl) ?_
                refine lv_iload_n hx hb dX6_depart_127 rfl (lv_at hl 4 rfl) ?_
                refine lv_bipush (v := (9 : Int32)) hx hb dX6_depart_128 (by decide) ?_
                refine lv_iload hx hb dX6_depart_130 (lv_at hl 0 rfl) ?_
                replace hF := ob hF
                obtain ⟨M24, q25, hF⟩ := hF
                refine k_v (va_runV (As := [.int y3, .int (9 : Int32), .int v20]) (rest := []) ⟨hx, hb, hml, hown, hts⟩ (c6_put l y3 (9 : Int32) v20 q25) (cwV 3 hts gX6_depart_X6_put rfl rfl rfl (by decide +kernel) ⟨Nat.le_of_ble_eq_true rfl, Nat.le_of_ble_eq_true rfl⟩) (k_preV hW hK hN (hW.fx 6 rfl) (EE_6 cA ad S P M22 0) rfl) rfl rfl hl.1 rfl (lv_room (Nat.le_of_ble_eq_true rfl)) dX6_depart_132 ⟨Nat.le_of_ble_eq_true rfl, Nat.le_of_ble_eq_true rfl⟩) hS ?_
                clear hW hS; intro H locs hW hS
                refine lv_aload_n hx hb dX6_depart_135 rfl (lv_at hl 1 rfl) ?_
                refine lv_iload_n hx hb dX6_depart_136 rfl (lv_at hl 4 rfl) ?_
                refine lv_iconst (v := (4 : Int32)) hx hb dX6_depart_137 (by decide) ?_
                refine lv_bipush (v := (6 : Int32)) hx hb dX6_depart_138 (by decide) ?_
                replace hF := ob hF
                obtain ⟨M26, q27, hF⟩ := hF
                refine k_v (va_runV (As := [.int y3, .int (4 : Int32), .int (6 : Int32)]) (rest := []) ⟨hx, hb, hml, hown, hts⟩ (c6_put l y3 (4 : Int32) (6 : Int32) q27) (cwV 3 hts gX6_depart_X6_put rfl rfl rfl (by decide +kernel) ⟨Nat.le_of_ble_eq_true rfl, Nat.le_of_ble_eq_true rfl⟩) (k_preV hW hK hN (hW.fx 6 rfl) (EE_6 cA ad S P M24 0) rfl) rfl rfl hl.1 rfl (lv_room (Nat.le_of_ble_eq_true rfl)) dX6_depart_140 ⟨Nat.le_of_ble_eq_true rfl, Nat.le_of_ble_eq_true rfl⟩) hS ?_
                clear hW hS; intro H locs hW hS
                refine lv_iinc (v := y2 + 1) (lv' := [(2, .int (y2 + 1)), (4, .int v20), (0, .ref (ad 6 0)), (1, .int c1), (3, .int y3)]) hx hb dX6_depart_143 hl (k := 3) rfl rfl (by decide) rfl ?_
                clear hl; intro ls hl
                refine lv_goto (tgt := 200) hx hb dX6_depart_146 (by decide) ?_
                refine lv_iinc (v := y3 + 1) (lv' := [(3, .int (y3 + 1)), (2, .int (y2 + 1)), (4, .int v20), (0, .ref (ad 6 0)), (1, .int c1)]) hx hb dX6_depart_200 hl (k := 4) rfl rfl (by decide) rfl ?_
                clear hl; intro ls hl
                refine lv_goto (tgt := 49) hx hb dX6_depart_203 (by decide) ?_
                exact ih M26 (y2 + 1) (y3 + 1) _ _ _ hF hW hS (lv_sub hl [3, 4, 1, 0] rfl)
              · replace hF := it_f hF hn3
                by_cases hn4 : v12 = 4
                · replace hF := it_t hF hn4
                  refine lv_tableIn (off := 73) (tgt := 149) hx hb dX6_depart_76 (by rw [hn4]; decide) (by rw [hn4]; decide) (by rw [hn4]; rfl) (by decide) ?_
                  refine lv_aload_n hx hb dX6_depart_149 rfl (lv_at hl 0 rfl) ?_
                  refine lv_iload_n hx hb dX6_depart_150 rfl (lv_at hl 3 rfl) ?_
                  refine lv_iconst (v := (4 : Int32)) hx hb dX6_depart_151 (by decide) ?_
                  refine lv_iconst (v := (5 : Int32)) hx hb dX6_depart_152 (by decide) ?_
                  replace hF := ob hF
                  obtain ⟨M28, q29, hF⟩ := hF
                  refine k_v (va_runV (As := [.int y3, .int (4 : Int32), .int (5 : Int32)]) (rest := []) ⟨hx, hb, hml, hown, hts⟩ (c6_put l y3 (4 : Int32) (5 : Int32) q29) (cwV 3 hts gX6_depart_X6_put rfl rfl rfl (by decide +kernel) ⟨Nat.le_of_ble_eq_true rfl, Nat.le_of_ble_eq_true rfl⟩) (k_preV hW hK hN (hW.fx 6 rfl) (EE_6 cA ad S P M 0) rfl) rfl rfl hl.1 rfl (lv_room (Nat.le_of_ble_eq_true rfl)) dX6_depart_153 ⟨Nat.le_of_ble_eq_true rfl, Nat.le_of_ble_eq_true rfl⟩) hS ?_
                  clear hW hS; intro H locs hW hS
                  refine lv_aload_n hx hb dX6_depart_156 rfl (lv_at hl 0 rfl) ?_
                  refine lv_iload_n hx hb dX6_depart_157 rfl (lv_at hl 3 rfl) ?_
                  refine lv_bipush (v := (11 : Int32)) hx hb dX6_depart_158 (by decide) ?_
                  refine lv_aload_n hx hb dX6_depart_160 rfl (lv_at hl 0 rfl) ?_
                  refine lv_iload_n hx hb dX6_depart_161 rfl (lv_at hl 3 rfl) ?_
                  refine lv_bipush (v := (10 : Int32)) hx hb dX6_depart_162 (by decide) ?_
                  replace hF := ob hF
                  obtain ⟨v30, q31, hF⟩ := hF
                  refine k_i (va_runV (As := [.int y3, .int (10 : Int32)]) (rest := [.int (11 : Int32), .int y3, .ref (ad 6 0)]) ⟨hx, hb, hml, hown, hts⟩ (c6_of l y3 (10 : Int32) q31) (cwV 2 hts gX6_depart_X6_of rfl rfl rfl (by decide +kernel) ⟨Nat.le_of_ble_eq_true rfl, Nat.le_of_ble_eq_true rfl⟩) (k_preV hW hK hN (hW.fx 6 rfl) (EE_6 cA ad S P M28 0) rfl) rfl rfl hl.1 rfl (lv_room (Nat.le_of_ble_eq_true rfl)) dX6_depart_164 ⟨Nat.le_of_ble_eq_true rfl, Nat.le_of_ble_eq_true rfl⟩) hS ?_
                  clear hW hS; intro H locs hW hS
                  replace hF := ob hF
                  obtain ⟨M32, q33, hF⟩ := hF
                  refine k_v (va_runV (As := [.int y3, .int (11 : Int32), .int v30]) (rest := []) ⟨hx, hb, hml, hown, hts⟩ (c6_put l y3 (11 : Int32) v30 q33) (cwV 3 hts gX6_depart_X6_put rfl rfl rfl (by decide +kernel) ⟨Nat.le_of_ble_eq_true rfl, Nat.le_of_ble_eq_true rfl⟩) (k_preV hW hK hN (hW.fx 6 rfl) (EE_6 cA ad S P M28 0) rfl) rfl rfl hl.1 rfl (lv_room (Nat.le_of_ble_eq_true rfl)) dX6_depart_167 ⟨Nat.le_of_ble_eq_true rfl, Nat.le_of_ble_eq_true rfl⟩) hS ?_
                  clear hW hS; intro H locs hW hS
                  refine lv_goto (tgt := 200) hx hb dX6_depart_170 (by decide) ?_
                  refine lv_iinc (v := y3 + 1) (lv' := [(3, .int (y3 + 1)), (0, .ref (ad 6 0)), (1, .int c1), (2, .int y2)]) hx hb dX6_depart_200 hl (k := 3) rfl rfl (by decide) rfl ?_
                  clear hl; intro ls hl
                  refine lv_goto (tgt := 49) hx hb dX6_depart_203 (by decide) ?_
                  exact ih M32 y2 (y3 + 1) _ _ _ hF hW hS (lv_sub hl [1, 2, 3, 0] rfl)
                · replace hF := it_f hF hn4
                  have hq0 := sw_ne hn0 (n := 0) (by decide)
                  have hq1 := sw_ne hn1 (n := 1) (by decide)
                  have hq2 := sw_ne hn2 (n := 2) (by decide)
                  have hq3 := sw_ne hn3 (n := 3) (by decide)
                  have hq4 := sw_ne hn4 (n := 4) (by decide)
                  refine lv_tableOut (tgt := 200) hx hb dX6_depart_76 (by omega) (by decide) ?_
                  refine lv_iinc (v := y3 + 1) (lv' := [(3, .int (y3 + 1)), (0, .ref (ad 6 0)), (1, .int c1), (2, .int y2)]) hx hb dX6_depart_200 hl (k := 3) rfl rfl (by decide) rfl ?_
                  clear hl; intro ls hl
                  refine lv_goto (tgt := 49) hx hb dX6_depart_203 (by decide) ?_
                  exact ih M y2 (y3 + 1) _ _ _ hF hW hS (lv_sub hl [1, 2, 3, 0] rfl)
      · replace hF := it_f hF hc
        refine lv_goto (tgt := 200) hx hb dX6_depart_67 (by decide) ?_
        refine lv_iinc (v := y3 + 1) (lv' := [(3, .int (y3 + 1)), (0, .ref (ad 6 0)), (1, .int c1), (2, .int y2)]) hx hb dX6_depart_200 hl (k := 3) rfl rfl (by decide) rfl ?_
        clear hl; intro ls hl
        refine lv_goto (tgt := 49) hx hb dX6_depart_203 (by decide) ?_
        exact ih M y2 (y3 + 1) _ _ _ hF hW hS (lv_sub hl [1, 2, 3, 0] rfl)

set_option maxHeartbeats 4000000 in
set_option maxRecDepth 100000 in
theorem w6_depart {p : Program} {l : Launch} {e : Env} {s : State} {m : MethodId} {args : Array Value} {below : List Frame} {meth : Method} {c : Code} (C : MC p s m args meth c cX6_depart (some .int) 5 RX6 wsX6_depart) {D : va_G} {cA : Nat → ClassId} {z : Nat} {ad : Nat → Nat → Nat} {N : TN} (hK : va_K D vwCl (tysW cA) s) (hN : NW s) {S : TS} {P : TP} {M : TS} (a1 : Int32) {v : Int32} {M' : TS} (hF : f6_depart M a1 = some (v, M'))
    {H : Heap} {ls : Array Slot} (hW : Wd D cA z ad N S P M H) {locs : List Loc} (hS : va_S (fun q => z ≤ q) s.heap H locs) (hl : lv_has ls 5 [(0, .ref (ad 6 0)), (1, .int a1)]) : W p l e rm6_depart s m args below meth c H locs 0 0 (MQ below (Qi D cA z v (ad, N, S, P, M')) args s 0 0 (fun q => z ≤ q)) (F0 m 0 ls []) := by
  obtain ⟨hx, hb, hr, hml, hown, hts, hlk⟩ := id C
  unfold f6_depart at hF
  refine lv_aload_n hx hb dX6_depart_0 rfl (lv_at hl 0 rfl) ?_
  refine lv_iload_n hx hb dX6_depart_1 rfl (lv_at hl 1 rfl) ?_
  replace hF := ob hF
  obtain ⟨v1, q2, hF⟩ := hF
  refine k_i (va_runV (As := [.int a1]) (rest := []) ⟨hx, hb, hml, hown, hts⟩ (c6_isSailing l a1 q2) (cwV 1 hts gX6_depart_X6_isSailing rfl rfl rfl (by decide +kernel) ⟨Nat.le_of_ble_eq_true rfl, Nat.le_of_ble_eq_true rfl⟩) (k_preV hW hK hN (hW.fx 6 rfl) (EE_6 cA ad S P M 0) rfl) rfl rfl hl.1 rfl (lv_room (Nat.le_of_ble_eq_true rfl)) dX6_depart_2 ⟨Nat.le_of_ble_eq_true rfl, Nat.le_of_ble_eq_true rfl⟩) hS ?_
  clear hW hS; intro H locs hW hS
  refine lv_if_eq (tgt := 36) hx hb dX6_depart_5 (by decide) (fun hc => ?_) (fun hc => ?_)
  · replace hF := it_t hF hc
    refine lv_iconst (v := (-1 : Int32)) hx hb dX6_depart_36 (by decide) ?_
    obtain ⟨hq1, hq2⟩ := Prod.mk.inj (Option.some.inj hF)
    subst hq1
    subst hq2
    exact e_i hx hb hr hlk hK hN hW hS dX6_depart_37
  · replace hF := it_f hF hc
    refine lv_aload_n hx hb dX6_depart_8 rfl (lv_at hl 0 rfl) ?_
    refine g6_9 hx hb hts hi6_depart_6 hown hK hW (hts (.fieldLink RX6 38 RX6 "how" "[I") (by decide +kernel)) dX6_depart_9 ?_
    refine lv_iload_n hx hb dX6_depart_12 rfl (lv_at hl 1 rfl) ?_
    replace hF := ob hF
    obtain ⟨j3, ej3, hF⟩ := hF
    refine l29 hx hb hK hW ej3 dX6_depart_13 ?_
    refine lv_iconst (v := (1 : Int32)) hx hb dX6_depart_14 (by decide) ?_
    refine lv_icmp_ne (tgt := 36) hx hb dX6_depart_15 (by decide) (fun hc => ?_) (fun hc => ?_)
    · replace hF := it_f hF hc
      refine lv_iconst (v := (-1 : Int32)) hx hb dX6_depart_36 (by decide) ?_
      obtain ⟨hq1, hq2⟩ := Prod.mk.inj (Option.some.inj hF)
      subst hq1
      subst hq2
      exact e_i hx hb hr hlk hK hN hW hS dX6_depart_37
    · replace hF := it_t hF hc
      refine lv_aload_n hx hb dX6_depart_18 rfl (lv_at hl 0 rfl) ?_
      refine g6_11 hx hb hts hi6_depart_6 hown hK hW (hts (.fieldLink RX6 44 RX6 "recall" "[I") (by decide +kernel)) dX6_depart_19 ?_
      refine lv_iload_n hx hb dX6_depart_22 rfl (lv_at hl 1 rfl) ?_
      replace hF := ob hF
      obtain ⟨j4, ej4, hF⟩ := hF
      refine l31 hx hb hK hW ej4 dX6_depart_23 ?_
      refine lv_iconst (v := (-1 : Int32)) hx hb dX6_depart_24 (by decide) ?_
      refine lv_icmp_ne (tgt := 36) hx hb dX6_depart_25 (by decide) (fun hc => ?_) (fun hc => ?_)
      · replace hF := it_f hF hc
        refine lv_iconst (v := (-1 : Int32)) hx hb dX6_depart_36 (by decide) ?_
        obtain ⟨hq1, hq2⟩ := Prod.mk.inj (Option.some.inj hF)
        subst hq1
        subst hq2
        exact e_i hx hb hr hlk hK hN hW hS dX6_depart_37
      · replace hF := it_t hF hc
        refine lv_aload_n hx hb dX6_depart_28 rfl (lv_at hl 0 rfl) ?_
        refine lv_iload_n hx hb dX6_depart_29 rfl (lv_at hl 1 rfl) ?_
        replace hF := ob2 hF
        obtain ⟨v5, M6, q7, hF⟩ := hF
        refine k_i (va_runV (As := [.int a1]) (rest := []) ⟨hx, hb, hml, hown, hts⟩ (c6_hasTurn l a1 q7) (cwV 1 hts gX6_depart_X6_hasTurn rfl rfl rfl (by decide +kernel) ⟨Nat.le_of_ble_eq_true rfl, Nat.le_of_ble_eq_true rfl⟩) (k_preV hW hK hN (hW.fx 6 rfl) (EE_6 cA ad S P M 0) rfl) rfl rfl hl.1 rfl (lv_room (Nat.le_of_ble_eq_true rfl)) dX6_depart_30 ⟨Nat.le_of_ble_eq_true rfl, Nat.le_of_ble_eq_true rfl⟩) hS ?_
        clear hW hS; intro H locs hW hS
        refine lv_if_eq (tgt := 38) hx hb dX6_depart_33 (by decide) (fun hc => ?_) (fun hc => ?_)
        · replace hF := it_t hF hc
          refine lv_aload_n hx hb dX6_depart_38 rfl (lv_at hl 0 rfl) ?_
          refine g6_9 hx hb hts hi6_depart_6 hown hK hW (hts (.fieldLink RX6 38 RX6 "how" "[I") (by decide +kernel)) dX6_depart_39 ?_
          refine lv_iload_n hx hb dX6_depart_42 rfl (lv_at hl 1 rfl) ?_
          refine lv_iconst (v := (2 : Int32)) hx hb dX6_depart_43 (by decide) ?_
          replace hF := ob hF
          obtain ⟨j8, ej8, hF⟩ := hF
          replace hF := lt_ex hF
          obtain ⟨M9, eM9, hF⟩ := hF
          refine t29 hx hb hK hW hS ej8 eM9 dX6_depart_44 ?_
          clear hW hS; intro H locs hW hS
          refine lv_iconst (v := (0 : Int32)) hx hb dX6_depart_45 (by decide) ?_
          refine lv_istore_n (lv' := [(2, .int (0 : Int32)), (0, .ref (ad 6 0)), (1, .int a1)]) hx hb dX6_depart_46 rfl hl (by decide) rfl ?_
          clear hl; intro ls hl
          refine lv_iconst (v := (0 : Int32)) hx hb dX6_depart_47 (by decide) ?_
          refine lv_istore_n (lv' := [(3, .int (0 : Int32)), (2, .int (0 : Int32)), (0, .ref (ad 6 0)), (1, .int a1)]) hx hb dX6_depart_48 rfl hl (by decide) rfl ?_
          clear hl; intro ls hl
          refine w6_depart_49 C hK hN a1 (hE := ?_) FU M9 (0 : Int32) (0 : Int32) _ _ _ hF hW hS (lv_sub hl [2, 3, 1, 0] rfl)
          intro M34 w35 H locs ls hF hW hS hl
          refine lv_iload_n hx hb dX6_depart_206 rfl (lv_at hl 0 rfl) ?_
          obtain ⟨hq1, hq2⟩ := Prod.mk.inj (Option.some.inj hF)
          subst hq1
          subst hq2
          exact e_i hx hb hr hlk hK hN hW hS dX6_depart_207
        · replace hF := it_f hF hc
          refine lv_iconst (v := (-1 : Int32)) hx hb dX6_depart_36 (by decide) ?_
          obtain ⟨hq1, hq2⟩ := Prod.mk.inj (Option.some.inj hF)
          subst hq1
          subst hq2
          exact e_i hx hb hr hlk hK hN hW hS dX6_depart_37

set_option maxHeartbeats 4000000 in
set_option maxRecDepth 100000 in
theorem c6_depart (l : Launch) {D : va_G} {cA : Nat → ClassId} {z : Nat} {ad : Nat → Nat → Nat} {N : TN} {S : TS} {P : TP} {M : TS} (a1 : Int32) {v : Int32} {M' : TS} (hF : f6_depart M a1 = some (v, M')) : Met l yX6_depart wsX6_depart rm6_depart (va_Pc [.ref (ad 6 0), .int a1] (Wl D cA z (ad, N, S, P, M))) (Qi D cA z v (ad, N, S, P, M')) 0 0 (fun q => z ≤ q) := by
  refine Met.ofW (cc := cX6_depart) (maxL := 5) (ret := (some .int)) (by decide) rfl ?_
  intro p e s m args below meth c s₁ B hml hv
  obtain ⟨rfl, hW, hK, hN⟩ := hv
  have hl := lv_entry ([.ref (ad 6 0), .int a1]) (n := 5) (Nat.le_of_ble_eq_true rfl)
  rw [lg_entry_eq]
  generalize (lg_sl ([.ref (ad 6 0), .int a1]) ++ List.replicate (5 - (lg_sl ([.ref (ad 6 0), .int a1])).length) Slot.unset).toArray = ls at hl ⊢
  exact w6_depart ⟨B.exec, B.bytes, B.returns, hml, findClass_of_methodNamed B.named, atoms_spec (ws := wsX6_depart) B.pre, B.notSynchronized⟩ hK hN a1 hF hW va_S.rf hl

-- 6 write
abbrev rm6_write : Room := { frames := 0, cells := 0, slots := 0, locals := 0 }
def f6_write (M : TS) (a1 : Int32) (a2 : Int32) (a3 : Int32) : Option (TS) :=
  lt (fun (M1 : TS) => (lt (up M1 624 0 ((M1 624 0) + (1 : Int32))) fun (M2 : TS) =>
  (ix a3 60).bind fun (j3 : Nat) =>
  (ix a3 60).bind fun (j4 : Nat) =>
  lt (up M2 3000 j4 ((M2 3000 j3) + (1 : Int32))) fun (M5 : TS) =>
  some M5)) fun (K40 : TS → Option (TS)) =>
  if (3000 : Int32) ≤ (M 624 0) then
  (K40 M)
  else
  ((ix (M 624 0) 3000).bind fun (j6 : Nat) =>
  lt (up M 3700 j6 a1) fun (M7 : TS) =>
  (ix (M7 624 0) 3000).bind fun (j8 : Nat) =>
  lt (up M7 3800 j8 a2) fun (M9 : TS) =>
  (ix (M9 624 0) 3000).bind fun (j10 : Nat) =>
  lt (up M9 3900 j10 a3) fun (M11 : TS) =>
  K40 M11)
set_option maxRecDepth 20000 in
theorem hi6_write_6 : ∀ w ∈ u_ws RX6 TX6 31, w ∈ wsX6_write := by decide +kernel
set_option maxHeartbeats 4000000 in
set_option maxRecDepth 100000 in
theorem w6_write {p : Program} {l : Launch} {e : Env} {s : State} {m : MethodId} {args : Array Value} {below : List Frame} {meth : Method} {c : Code} (C : MC p s m args meth c cX6_write none 4 RX6 wsX6_write) {D : va_G} {cA : Nat → ClassId} {z : Nat} {ad : Nat → Nat → Nat} {N : TN} (hK : va_K D vwCl (tysW cA) s) (hN : NW s) {S : TS} {P : TP} {M : TS} (a1 : Int32) (a2 : Int32) (a3 : Int32) {M' : TS} (hF : f6_write M a1 a2 a3 = some M')
    {H : Heap} {ls : Array Slot} (hW : Wd D cA z ad N S P M H) {locs : List Loc} (hS : va_S (fun q => z ≤ q) s.heap H locs) (hl : lv_has ls 4 [(0, .ref (ad 6 0)), (1, .int a1), (2, .int a2), (3, .int a3)]) : W p l e rm6_write s m args below meth c H locs 0 0 (MQ below (Qv D cA z (ad, N, S, P, M')) args s 0 0 (fun q => z ≤ q)) (F0 m 0 ls []) := by
  obtain ⟨hx, hb, hr, hml, hown, hts, hlk⟩ := id C
  unfold f6_write at hF
  refine lv_aload_n hx hb dX6_write_0 rfl (lv_at hl 0 rfl) ?_
  refine g6_24 hx hb hts hi6_write_6 hown hK hW (hts (.fieldLink RX6 172 RX6 "turns" "I") (by decide +kernel)) dX6_write_1 ?_
  refine lv_sipush (v := (3000 : Int32)) hx hb dX6_write_4 (by decide) ?_
  replace hF := lt_ex hF
  obtain ⟨K40, eK40, hF⟩ := hF
  have hK40 : ∀ (M1 : TS) (H : Heap) (locs : List Loc) (ls : Array Slot), K40 M1 = some M' → Wd D cA z ad N S P M1 H → va_S (fun q => z ≤ q) s.heap H locs → lv_has ls 4 [(0, .ref (ad 6 0)), (3, .int a3)] → W p l e rm6_write s m args below meth c H locs 0 0 (MQ below (Qv D cA z (ad, N, S, P, M')) args s 0 0 (fun q => z ≤ q)) (F0 m 40 ls []) := by
    intro M1 H locs ls hF hW hS hl
    subst eK40
    refine lv_aload_n hx hb dX6_write_40 rfl (lv_at hl 0 rfl) ?_
    refine lv_dup hx hb dX6_write_41 rfl ?_
    refine g6_24 hx hb hts hi6_write_6 hown hK hW (hts (.fieldLink RX6 172 RX6 "turns" "I") (by decide +kernel)) dX6_write_42 ?_
    refine lv_iconst (v := (1 : Int32)) hx hb dX6_write_45 (by decide) ?_
    refine lv_iadd hx hb dX6_write_46 ?_
    replace hF := lt_ex hF
    obtain ⟨M2, eM2, hF⟩ := hF
    refine p6_24 hx hb hts hi6_write_6 hown hK hW hS eM2 (hts (.fieldLink RX6 172 RX6 "turns" "I") (by decide +kernel)) dX6_write_47 ?_
    clear hW hS; intro H locs hW hS
    refine lv_aload_n hx hb dX6_write_50 rfl (lv_at hl 0 rfl) ?_
    refine g6_10 hx hb hts hi6_write_6 hown hK hW (hts (.fieldLink RX6 41 RX6 "done" "[I") (by decide +kernel)) dX6_write_51 ?_
    refine lv_iload_n hx hb dX6_write_54 rfl (lv_at hl 1 rfl) ?_
    refine lv_dup2_11 hx hb dX6_write_55 rfl rfl ?_
    replace hF := ob hF
    obtain ⟨j3, ej3, hF⟩ := hF
    refine l30 hx hb hK hW ej3 dX6_write_56 ?_
    refine lv_iconst (v := (1 : Int32)) hx hb dX6_write_57 (by decide) ?_
    refine lv_iadd hx hb dX6_write_58 ?_
    replace hF := ob hF
    obtain ⟨j4, ej4, hF⟩ := hF
    replace hF := lt_ex hF
    obtain ⟨M5, eM5, hF⟩ := hF
    refine t30 hx hb hK hW hS ej4 eM5 dX6_write_59 ?_
    clear hW hS; intro H locs hW hS
    have hq1 := Option.some.inj hF
    subst hq1
    exact e_v hx hb hr hlk hK hN hW hS dX6_write_60
  clear eK40
  refine lv_icmp_ge (tgt := 40) hx hb dX6_write_7 (by decide) (fun hc => ?_) (fun hc => ?_)
  · replace hF := it_t hF hc
    exact hK40 M _ _ _ hF hW hS (lv_sub hl [0, 3] rfl)
  · replace hF := it_f hF hc
    refine lv_aload_n hx hb dX6_write_10 rfl (lv_at hl 0 rfl) ?_
    refine g6_17 hx hb hts hi6_write_6 hown hK hW (hts (.fieldLink RX6 62 RX6 "logKind" "[I") (by decide +kernel)) dX6_write_11 ?_
    refine lv_aload_n hx hb dX6_write_14 rfl (lv_at hl 0 rfl) ?_
    refine g6_24 hx hb hts hi6_write_6 hown hK hW (hts (.fieldLink RX6 172 RX6 "turns" "I") (by decide +kernel)) dX6_write_15 ?_
    refine lv_iload_n hx hb dX6_write_18 rfl (lv_at hl 1 rfl) ?_
    replace hF := ob hF
    obtain ⟨j6, ej6, hF⟩ := hF
    replace hF := lt_ex hF
    obtain ⟨M7, eM7, hF⟩ := hF
    refine t37 hx hb hK hW hS ej6 eM7 dX6_write_19 ?_
    clear hW hS; intro H locs hW hS
    refine lv_aload_n hx hb dX6_write_20 rfl (lv_at hl 0 rfl) ?_
    refine g6_18 hx hb hts hi6_write_6 hown hK hW (hts (.fieldLink RX6 65 RX6 "logTicket" "[I") (by decide +kernel)) dX6_write_21 ?_
    refine lv_aload_n hx hb dX6_write_24 rfl (lv_at hl 0 rfl) ?_
    refine g6_24 hx hb hts hi6_write_6 hown hK hW (hts (.fieldLink RX6 172 RX6 "turns" "I") (by decide +kernel)) dX6_write_25 ?_
    refine lv_iload_n hx hb dX6_write_28 rfl (lv_at hl 2 rfl) ?_
    replace hF := ob hF
    obtain ⟨j8, ej8, hF⟩ := hF
    replace hF := lt_ex hF
    obtain ⟨M9, eM9, hF⟩ := hF
    refine t38 hx hb hK hW hS ej8 eM9 dX6_write_29 ?_
    clear hW hS; intro H locs hW hS
    refine lv_aload_n hx hb dX6_write_30 rfl (lv_at hl 0 rfl) ?_
    refine g6_19 hx hb hts hi6_write_6 hown hK hW (hts (.fieldLink RX6 68 RX6 "logSailing" "[I") (by decide +kernel)) dX6_write_31 ?_
    refine lv_aload_n hx hb dX6_write_34 rfl (lv_at hl 0 rfl) ?_
    refine g6_24 hx hb hts hi6_write_6 hown hK hW (hts (.fieldLink RX6 172 RX6 "turns" "I") (by decide +kernel)) dX6_write_35 ?_
    refine lv_iload_n hx hb dX6_write_38 rfl (lv_at hl 3 rfl) ?_
    replace hF := ob hF
    obtain ⟨j10, ej10, hF⟩ := hF
    replace hF := lt_ex hF
    obtain ⟨M11, eM11, hF⟩ := hF
    refine t39 hx hb hK hW hS ej10 eM11 dX6_write_39 ?_
    clear hW hS; intro H locs hW hS
    exact hK40 M11 _ _ _ hF hW hS (lv_sub hl [0, 3] rfl)

set_option maxHeartbeats 4000000 in
set_option maxRecDepth 100000 in
theorem c6_write (l : Launch) {D : va_G} {cA : Nat → ClassId} {z : Nat} {ad : Nat → Nat → Nat} {N : TN} {S : TS} {P : TP} {M : TS} (a1 : Int32) (a2 : Int32) (a3 : Int32) {M' : TS} (hF : f6_write M a1 a2 a3 = some M') : Met l yX6_write wsX6_write rm6_write (va_Pc [.ref (ad 6 0), .int a1, .int a2, .int a3] (Wl D cA z (ad, N, S, P, M))) (Qv D cA z (ad, N, S, P, M')) 0 0 (fun q => z ≤ q) := by
  refine Met.ofW (cc := cX6_write) (maxL := 4) (ret := none) (by decide) rfl ?_
  intro p e s m args below meth c s₁ B hml hv
  obtain ⟨rfl, hW, hK, hN⟩ := hv
  have hl := lv_entry ([.ref (ad 6 0), .int a1, .int a2, .int a3]) (n := 4) (Nat.le_of_ble_eq_true rfl)
  rw [lg_entry_eq]
  generalize (lg_sl ([.ref (ad 6 0), .int a1, .int a2, .int a3]) ++ List.replicate (4 - (lg_sl ([.ref (ad 6 0), .int a1, .int a2, .int a3])).length) Slot.unset).toArray = ls at hl ⊢
  exact w6_write ⟨B.exec, B.bytes, B.returns, hml, findClass_of_methodNamed B.named, atoms_spec (ws := wsX6_write) B.pre, B.notSynchronized⟩ hK hN a1 a2 a3 hF hW va_S.rf hl

-- 6 goesAway
abbrev rm6_goesAway : Room := { frames := 1, cells := 0, slots := 0, locals := 23 }
def f6_goesAway_5 (K : Int32 → Option (TS)) (M : TS) (c1 : Int32) (c2 : Int32) : Nat → Int32 → Int32 → Option (TS)
  | 0, _, _ => none
  | n + 1, y3, y4 =>
    if (M 622 0) ≤ y4 then
    (K y3)
    else
    ((ix y4 60).bind fun (j1 : Nat) =>
    (ix c2 60).bind fun (j2 : Nat) =>
    if (M 2800 j1) = (M 2800 j2) then
    ((f6_isToGo M y4).bind fun (v3 : Int32) =>
    if v3 = 0 then
    (f6_goesAway_5 K M c1 c2 n y3 (y4 + 1))
    else
    ((ix y4 60).bind fun (j5 : Nat) =>
    (ix c2 60).bind fun (j6 : Nat) =>
    if (M 2700 j5) ≤ (M 2700 j6) then
    (f6_goesAway_5 K M c1 c2 n y3 (y4 + 1))
    else
    ((ix y4 60).bind fun (j7 : Nat) =>
    if (M 3100 j7) = (-1 : Int32) then
    ((ix y4 60).bind fun (j8 : Nat) =>
    (ix (M 2600 j8) 12).bind fun (j9 : Nat) =>
    (f6_of M c1 (1 : Int32)).bind fun (v10 : Int32) =>
    if v10 ≤ (M 2200 j9) then
    (if y3 = (-1 : Int32) then
    (f6_goesAway_5 K M c1 c2 n y4 (y4 + 1))
    else
    ((ix y4 60).bind fun (j12 : Nat) =>
    (ix y3 60).bind fun (j13 : Nat) =>
    if (M 2700 j13) ≤ (M 2700 j12) then
    (f6_goesAway_5 K M c1 c2 n y3 (y4 + 1))
    else
    (f6_goesAway_5 K M c1 c2 n y4 (y4 + 1))))
    else
    (f6_goesAway_5 K M c1 c2 n y3 (y4 + 1)))
    else
    (f6_goesAway_5 K M c1 c2 n y3 (y4 + 1)))))
    else
    (f6_goesAway_5 K M c1 c2 n y3 (y4 + 1)))

def f6_goesAway (M : TS) (a1 : Int32) (a2 : Int32) : Option (TS) :=
  f6_goesAway_5 (fun (w14 : Int32) =>
  if w14 = (-1 : Int32) then
  ((f6_put M a1 (4 : Int32) (5 : Int32)).bind fun (M28 : TS) =>
  (f6_of M28 a1 (10 : Int32)).bind fun (v30 : Int32) =>
  (f6_put M28 a1 (11 : Int32) v30).bind fun (M32 : TS) =>
  (f6_write M32 (8 : Int32) a1 a2).bind fun (M34 : TS) =>
  some M34)
  else
  ((f6_put M a1 (0 : Int32) w14).bind fun (M15 : TS) =>
  (f6_of M15 a1 (4 : Int32)).bind fun (v17 : Int32) =>
  lt (if v17 = 0 then (0 : Int32) else (1 : Int32)) fun (x19 : Int32) =>
  (f6_put M15 a1 (4 : Int32) x19).bind fun (M20 : TS) =>
  (f6_of M20 a1 (12 : Int32)).bind fun (v22 : Int32) =>
  (f6_put M20 a1 (12 : Int32) (v22 + (1 : Int32))).bind fun (M24 : TS) =>
  (f6_write M24 (7 : Int32) a1 a2).bind fun (M26 : TS) =>
  some M26)) M a1 a2 FU (-1 : Int32) (0 : Int32)
set_option maxRecDepth 20000 in
theorem hi6_goesAway_6 : ∀ w ∈ u_ws RX6 TX6 31, w ∈ wsX6_goesAway := by decide +kernel
set_option maxHeartbeats 4000000 in
set_option maxRecDepth 100000 in
theorem w6_goesAway_5 {p : Program} {l : Launch} {e : Env} {s : State} {m : MethodId} {args : Array Value} {below : List Frame} {meth : Method} {c : Code} (C : MC p s m args meth c cX6_goesAway none 5 RX6 wsX6_goesAway) {D : va_G} {cA : Nat → ClassId} {z : Nat} {ad : Nat → Nat → Nat} {N : TN} (hK : va_K D vwCl (tysW cA) s) (hN : NW s) {S : TS} {P : TP} {M : TS} (c1 : Int32) (c2 : Int32) {M' : TS} {K : Int32 → Option (TS)}
    (hE : ∀ (e3 : Int32) (H : Heap) (locs : List Loc) (ls : Array Slot), K e3 = some M' → Wd D cA z ad N S P M H → va_S (fun q => z ≤ q) s.heap H locs → lv_has ls 5 [(0, .ref (ad 6 0)), (1, .int c1), (2, .int c2), (3, .int e3)] → W p l e rm6_goesAway s m args below meth c H locs 0 0 (MQ below (Qv D cA z (ad, N, S, P, M')) args s 0 0 (fun q => z ≤ q)) (F0 m 120 ls [])) :
    ∀ (n : Nat) (y3 : Int32) (y4 : Int32) (H : Heap) (locs : List Loc) (ls : Array Slot), f6_goesAway_5 K M c1 c2 n y3 y4 = some M' → Wd D cA z ad N S P M H → va_S (fun q => z ≤ q) s.heap H locs → lv_has ls 5 [(0, .ref (ad 6 0)), (1, .int c1), (2, .int c2), (3, .int y3), (4, .int y4)] → W p l e rm6_goesAway s m args below meth c H locs 0 0 (MQ below (Qv D cA z (ad, N, S, P, M')) args s 0 0 (fun q => z ≤ q)) (F0 m 5 ls []) := by
  obtain ⟨hx, hb, hr, hml, hown, hts, hlk⟩ := id C
  intro n
  induction n with
  | zero => intro y3 y4 H locs ls hF; cases hF
  | succ n ih =>
    intro y3 y4 H locs ls hF hW hS hl
    rw [f6_goesAway_5] at hF
    refine lv_iload hx hb dX6_goesAway_5 (lv_at hl 4 rfl) ?_
    refine lv_aload_n hx hb dX6_goesAway_7 rfl (lv_at hl 0 rfl) ?_
    refine g6_22 hx hb hts hi6_goesAway_6 hown hK hW (hts (.fieldLink RX6 78 RX6 "sailings" "I") (by decide +kernel)) dX6_goesAway_8 ?_
    refine lv_icmp_ge (tgt := 120) hx hb dX6_goesAway_11 (by decide) (fun hc => ?_) (fun hc => ?_)
    · replace hF := it_t hF hc
      exact hE y3 _ _ _ hF hW hS (lv_sub hl [0, 1, 2, 3] rfl)
    · replace hF := it_f hF hc
      refine lv_aload_n hx hb dX6_goesAway_14 rfl (lv_at hl 0 rfl) ?_
      refine g6_8 hx hb hts hi6_goesAway_6 hown hK hW (hts (.fieldLink RX6 35 RX6 "line" "[I") (by decide +kernel)) dX6_goesAway_15 ?_
      refine lv_iload hx hb dX6_goesAway_18 (lv_at hl 4 rfl) ?_
      replace hF := ob hF
      obtain ⟨j1, ej1, hF⟩ := hF
      refine l28 hx hb hK hW ej1 dX6_goesAway_20 ?_
      refine lv_aload_n hx hb dX6_goesAway_21 rfl (lv_at hl 0 rfl) ?_
      refine g6_8 hx hb hts hi6_goesAway_6 hown hK hW (hts (.fieldLink RX6 35 RX6 "line" "[I") (by decide +kernel)) dX6_goesAway_22 ?_
      refine lv_iload_n hx hb dX6_goesAway_25 rfl (lv_at hl 2 rfl) ?_
      replace hF := ob hF
      obtain ⟨j2, ej2, hF⟩ := hF
      refine l28 hx hb hK hW ej2 dX6_goesAway_26 ?_
      refine lv_icmp_ne (tgt := 114) hx hb dX6_goesAway_27 (by decide) (fun hc => ?_) (fun hc => ?_)
      · replace hF := it_f hF hc
        refine lv_iinc (v := y4 + 1) (lv' := [(4, .int (y4 + 1)), (0, .ref (ad 6 0)), (1, .int c1), (2, .int c2), (3, .int y3)]) hx hb dX6_goesAway_114 hl (k := 4) rfl rfl (by decide) rfl ?_
        clear hl; intro ls hl
        refine lv_goto (tgt := 5) hx hb dX6_goesAway_117 (by decide) ?_
        exact ih y3 (y4 + 1) _ _ _ hF hW hS (lv_sub hl [1, 2, 3, 4, 0] rfl)
      · replace hF := it_t hF hc
        refine lv_aload_n hx hb dX6_goesAway_30 rfl (lv_at hl 0 rfl) ?_
        refine lv_iload hx hb dX6_goesAway_31 (lv_at hl 4 rfl) ?_
        replace hF := ob hF
        obtain ⟨v3, q4, hF⟩ := hF
        refine k_i (va_runV (As := [.int y4]) (rest := []) ⟨hx, hb, hml, hown, hts⟩ (c6_isToGo l y4 q4) (cwV 1 hts gX6_goesAway_X6_isToGo rfl rfl rfl (by decide +kernel) ⟨Nat.le_of_ble_eq_true rfl, Nat.le_of_ble_eq_true rfl⟩) (k_preV hW hK hN (hW.fx 6 rfl) (EE_6 cA ad S P M 0) rfl) rfl rfl hl.1 rfl (lv_room (Nat.le_of_ble_eq_true rfl)) dX6_goesAway_33 ⟨Nat.le_of_ble_eq_true rfl, Nat.le_of_ble_eq_true rfl⟩) hS ?_
        clear hW hS; intro H locs hW hS
        refine lv_if_eq (tgt := 114) hx hb dX6_goesAway_36 (by decide) (fun hc => ?_) (fun hc => ?_)
        · replace hF := it_t hF hc
          refine lv_iinc (v := y4 + 1) (lv' := [(4, .int (y4 + 1)), (0, .ref (ad 6 0)), (1, .int c1), (2, .int c2), (3, .int y3)]) hx hb dX6_goesAway_114 hl (k := 4) rfl rfl (by decide) rfl ?_
          clear hl; intro ls hl
          refine lv_goto (tgt := 5) hx hb dX6_goesAway_117 (by decide) ?_
          exact ih y3 (y4 + 1) _ _ _ hF hW hS (lv_sub hl [1, 2, 3, 4, 0] rfl)
        · replace hF := it_f hF hc
          refine lv_aload_n hx hb dX6_goesAway_39 rfl (lv_at hl 0 rfl) ?_
          refine g6_7 hx hb hts hi6_goesAway_6 hown hK hW (hts (.fieldLink RX6 32 RX6 "minute" "[I") (by decide +kernel)) dX6_goesAway_40 ?_
          refine lv_iload hx hb dX6_goesAway_43 (lv_at hl 4 rfl) ?_
          replace hF := ob hF
          obtain ⟨j5, ej5, hF⟩ := hF
          refine l27 hx hb hK hW ej5 dX6_goesAway_45 ?_
          refine lv_aload_n hx hb dX6_goesAway_46 rfl (lv_at hl 0 rfl) ?_
          refine g6_7 hx hb hts hi6_goesAway_6 hown hK hW (hts (.fieldLink RX6 32 RX6 "minute" "[I") (by decide +kernel)) dX6_goesAway_47 ?_
          refine lv_iload_n hx hb dX6_goesAway_50 rfl (lv_at hl 2 rfl) ?_
          replace hF := ob hF
          obtain ⟨j6, ej6, hF⟩ := hF
          refine l27 hx hb hK hW ej6 dX6_goesAway_51 ?_
          refine lv_icmp_le (tgt := 114) hx hb dX6_goesAway_52 (by decide) (fun hc => ?_) (fun hc => ?_)
          · replace hF := it_t hF hc
            refine lv_iinc (v := y4 + 1) (lv' := [(4, .int (y4 + 1)), (0, .ref (ad 6 0)), (1, .int c1), (2, .int c2), (3, .int y3)]) hx hb dX6_goesAway_114 hl (k := 4) rfl rfl (by decide) rfl ?_
            clear hl; intro ls hl
            refine lv_goto (tgt := 5) hx hb dX6_goesAway_117 (by decide) ?_
            exact ih y3 (y4 + 1) _ _ _ hF hW hS (lv_sub hl [1, 2, 3, 4, 0] rfl)
          · replace hF := it_f hF hc
            refine lv_aload_n hx hb dX6_goesAway_55 rfl (lv_at hl 0 rfl) ?_
            refine g6_11 hx hb hts hi6_goesAway_6 hown hK hW (hts (.fieldLink RX6 44 RX6 "recall" "[I") (by decide +kernel)) dX6_goesAway_56 ?_
            refine lv_iload hx hb dX6_goesAway_59 (lv_at hl 4 rfl) ?_
            replace hF := ob hF
            obtain ⟨j7, ej7, hF⟩ := hF
            refine l31 hx hb hK hW ej7 dX6_goesAway_61 ?_
            refine lv_iconst (v := (-1 : Int32)) hx hb dX6_goesAway_62 (by decide) ?_
            refine lv_icmp_ne (tgt := 114) hx hb dX6_goesAway_63 (by decide) (fun hc => ?_) (fun hc => ?_)
            · replace hF := it_f hF hc
              refine lv_iinc (v := y4 + 1) (lv' := [(4, .int (y4 + 1)), (0, .ref (ad 6 0)), (1, .int c1), (2, .int c2), (3, .int y3)]) hx hb dX6_goesAway_114 hl (k := 4) rfl rfl (by decide) rfl ?_
              clear hl; intro ls hl
              refine lv_goto (tgt := 5) hx hb dX6_goesAway_117 (by decide) ?_
              exact ih y3 (y4 + 1) _ _ _ hF hW hS (lv_sub hl [1, 2, 3, 4, 0] rfl)
            · replace hF := it_t hF hc
              refine lv_aload_n hx hb dX6_goesAway_66 rfl (lv_at hl 0 rfl) ?_
              refine g6_2 hx hb hts hi6_goesAway_6 hown hK hW (hts (.fieldLink RX6 16 RX6 "lengths" "[I") (by decide +kernel)) dX6_goesAway_67 ?_
              refine lv_aload_n hx hb dX6_goesAway_70 rfl (lv_at hl 0 rfl) ?_
              refine g6_6 hx hb hts hi6_goesAway_6 hown hK hW (hts (.fieldLink RX6 29 RX6 "ship" "[I") (by decide +kernel)) dX6_goesAway_71 ?_
              refine lv_iload hx hb dX6_goesAway_74 (lv_at hl 4 rfl) ?_
              replace hF := ob hF
              obtain ⟨j8, ej8, hF⟩ := hF
              refine l26 hx hb hK hW ej8 dX6_goesAway_76 ?_
              replace hF := ob hF
              obtain ⟨j9, ej9, hF⟩ := hF
              refine l22 hx hb hK hW ej9 dX6_goesAway_77 ?_
              refine lv_aload_n hx hb dX6_goesAway_78 rfl (lv_at hl 0 rfl) ?_
              refine lv_iload_n hx hb dX6_goesAway_79 rfl (lv_at hl 1 rfl) ?_
              refine lv_iconst (v := (1 : Int32)) hx hb dX6_goesAway_80 (by decide) ?_
              replace hF := ob hF
              obtain ⟨v10, q11, hF⟩ := hF
              refine k_i (va_runV (As := [.int c1, .int (1 : Int32)]) (rest := [.int (M 2200 j9)]) ⟨hx, hb, hml, hown, hts⟩ (c6_of l c1 (1 : Int32) q11) (cwV 2 hts gX6_goesAway_X6_of rfl rfl rfl (by decide +kernel) ⟨Nat.le_of_ble_eq_true rfl, Nat.le_of_ble_eq_true rfl⟩) (k_preV hW hK hN (hW.fx 6 rfl) (EE_6 cA ad S P M 0) rfl) rfl rfl hl.1 rfl (lv_room (Nat.le_of_ble_eq_true rfl)) dX6_goesAway_81 ⟨Nat.le_of_ble_eq_true rfl, Nat.le_of_ble_eq_true rfl⟩) hS ?_
              clear hW hS; intro H locs hW hS
              refine lv_icmp_ge (tgt := 90) hx hb dX6_goesAway_84 (by decide) (fun hc => ?_) (fun hc => ?_)
              · replace hF := it_t hF hc
                refine lv_iload_n hx hb dX6_goesAway_90 rfl (lv_at hl 3 rfl) ?_
                refine lv_iconst (v := (-1 : Int32)) hx hb dX6_goesAway_91 (by decide) ?_
                refine lv_icmp_eq (tgt := 111) hx hb dX6_goesAway_92 (by decide) (fun hc => ?_) (fun hc => ?_)
                · replace hF := it_t hF hc
                  refine lv_iload hx hb dX6_goesAway_111 (lv_at hl 4 rfl) ?_
                  refine lv_istore_n (lv' := [(3, .int y4), (0, .ref (ad 6 0)), (1, .int c1), (2, .int c2), (4, .int y4)]) hx hb dX6_goesAway_113 rfl hl (by decide) rfl ?_
                  clear hl; intro ls hl
                  refine lv_iinc (v := y4 + 1) (lv' := [(4, .int (y4 + 1)), (3, .int y4), (0, .ref (ad 6 0)), (1, .int c1), (2, .int c2)]) hx hb dX6_goesAway_114 hl (k := 4) rfl rfl (by decide) rfl ?_
                  clear hl; intro ls hl
                  refine lv_goto (tgt := 5) hx hb dX6_goesAway_117 (by decide) ?_
                  exact ih y4 (y4 + 1) _ _ _ hF hW hS (lv_sub hl [2, 3, 4, 1, 0] rfl)
                · replace hF := it_f hF hc
                  refine lv_aload_n hx hb dX6_goesAway_95 rfl (lv_at hl 0 rfl) ?_
                  refine g6_7 hx hb hts hi6_goesAway_6 hown hK hW (hts (.fieldLink RX6 32 RX6 "minute" "[I") (by decide +kernel)) dX6_goesAway_96 ?_
                  refine lv_iload hx hb dX6_goesAway_99 (lv_at hl 4 rfl) ?_
                  replace hF := ob hF
                  obtain ⟨j12, ej12, hF⟩ := hF
                  refine l27 hx hb hK hW ej12 dX6_goesAway_101 ?_
                  refine lv_aload_n hx hb dX6_goesAway_102 rfl (lv_at hl 0 rfl) ?_
                  refine g6_7 hx hb hts hi6_goesAway_6 hown hK hW (hts (.fieldLink RX6 32 RX6 "minute" "[I") (by decide +kernel)) dX6_goesAway_103 ?_
                  refine lv_iload_n hx hb dX6_goesAway_106 rfl (lv_at hl 3 rfl) ?_
                  replace hF := ob hF
                  obtain ⟨j13, ej13, hF⟩ := hF
                  refine l27 hx hb hK hW ej13 dX6_goesAway_107 ?_
                  refine lv_icmp_ge (tgt := 114) hx hb dX6_goesAway_108 (by decide) (fun hc => ?_) (fun hc => ?_)
                  · replace hF := it_t hF hc
                    refine lv_iinc (v := y4 + 1) (lv' := [(4, .int (y4 + 1)), (0, .ref (ad 6 0)), (1, .int c1), (2, .int c2), (3, .int y3)]) hx hb dX6_goesAway_114 hl (k := 4) rfl rfl (by decide) rfl ?_
                    clear hl; intro ls hl
                    refine lv_goto (tgt := 5) hx hb dX6_goesAway_117 (by decide) ?_
                    exact ih y3 (y4 + 1) _ _ _ hF hW hS (lv_sub hl [1, 2, 3, 4, 0] rfl)
                  · replace hF := it_f hF hc
                    refine lv_iload hx hb dX6_goesAway_111 (lv_at hl 4 rfl) ?_
                    refine lv_istore_n (lv' := [(3, .int y4), (0, .ref (ad 6 0)), (1, .int c1), (2, .int c2), (4, .int y4)]) hx hb dX6_goesAway_113 rfl hl (by decide) rfl ?_
                    clear hl; intro ls hl
                    refine lv_iinc (v := y4 + 1) (lv' := [(4, .int (y4 + 1)), (3, .int y4), (0, .ref (ad 6 0)), (1, .int c1), (2, .int c2)]) hx hb dX6_goesAway_114 hl (k := 4) rfl rfl (by decide) rfl ?_
                    clear hl; intro ls hl
                    refine lv_goto (tgt := 5) hx hb dX6_goesAway_117 (by decide) ?_
                    exact ih y4 (y4 + 1) _ _ _ hF hW hS (lv_sub hl [2, 3, 4, 1, 0] rfl)
              · replace hF := it_f hF hc
                refine lv_goto (tgt := 114) hx hb dX6_goesAway_87 (by decide) ?_
                refine lv_iinc (v := y4 + 1) (lv' := [(4, .int (y4 + 1)), (0, .ref (ad 6 0)), (1, .int c1), (2, .int c2), (3, .int y3)]) hx hb dX6_goesAway_114 hl (k := 4) rfl rfl (by decide) rfl ?_
                clear hl; intro ls hl
                refine lv_goto (tgt := 5) hx hb dX6_goesAway_117 (by decide) ?_
                exact ih y3 (y4 + 1) _ _ _ hF hW hS (lv_sub hl [1, 2, 3, 4, 0] rfl)

set_option maxHeartbeats 4000000 in
set_option maxRecDepth 100000 in
theorem w6_goesAway {p : Program} {l : Launch} {e : Env} {s : State} {m : MethodId} {args : Array Value} {below : List Frame} {meth : Method} {c : Code} (C : MC p s m args meth c cX6_goesAway none 5 RX6 wsX6_goesAway) {D : va_G} {cA : Nat → ClassId} {z : Nat} {ad : Nat → Nat → Nat} {N : TN} (hK : va_K D vwCl (tysW cA) s) (hN : NW s) {S : TS} {P : TP} {M : TS} (a1 : Int32) (a2 : Int32) {M' : TS} (hF : f6_goesAway M a1 a2 = some M')
    {H : Heap} {ls : Array Slot} (hW : Wd D cA z ad N S P M H) {locs : List Loc} (hS : va_S (fun q => z ≤ q) s.heap H locs) (hl : lv_has ls 5 [(0, .ref (ad 6 0)), (1, .int a1), (2, .int a2)]) : W p l e rm6_goesAway s m args below meth c H locs 0 0 (MQ below (Qv D cA z (ad, N, S, P, M')) args s 0 0 (fun q => z ≤ q)) (F0 m 0 ls []) := by
  obtain ⟨hx, hb, hr, hml, hown, hts, hlk⟩ := id C
  unfold f6_goesAway at hF
  refine lv_iconst (v := (-1 : Int32)) hx hb dX6_goesAway_0 (by decide) ?_
  refine lv_istore_n (lv' := [(3, .int (-1 : Int32)), (0, .ref (ad 6 0)), (1, .int a1), (2, .int a2)]) hx hb dX6_goesAway_1 rfl hl (by decide) rfl ?_
  clear hl; intro ls hl
  refine lv_iconst (v := (0 : Int32)) hx hb dX6_goesAway_2 (by decide) ?_
  refine lv_istore (lv' := [(4, .int (0 : Int32)), (3, .int (-1 : Int32)), (0, .ref (ad 6 0)), (1, .int a1), (2, .int a2)]) hx hb dX6_goesAway_3 hl (by decide) rfl ?_
  clear hl; intro ls hl
  refine w6_goesAway_5 C hK hN a1 a2 (hE := ?_) FU (-1 : Int32) (0 : Int32) _ _ _ hF hW hS (lv_sub hl [2, 3, 4, 1, 0] rfl)
  intro w14 H locs ls hF hW hS hl
  refine lv_iload_n hx hb dX6_goesAway_120 rfl (lv_at hl 3 rfl) ?_
  refine lv_iconst (v := (-1 : Int32)) hx hb dX6_goesAway_121 (by decide) ?_
  refine lv_icmp_ne (tgt := 155) hx hb dX6_goesAway_122 (by decide) (fun hc => ?_) (fun hc => ?_)
  · replace hF := it_f hF hc
    refine lv_aload_n hx hb dX6_goesAway_155 rfl (lv_at hl 0 rfl) ?_
    refine lv_iload_n hx hb dX6_goesAway_156 rfl (lv_at hl 1 rfl) ?_
    refine lv_iconst (v := (0 : Int32)) hx hb dX6_goesAway_157 (by decide) ?_
    refine lv_iload_n hx hb dX6_goesAway_158 rfl (lv_at hl 3 rfl) ?_
    replace hF := ob hF
    obtain ⟨M15, q16, hF⟩ := hF
    refine k_v (va_runV (As := [.int a1, .int (0 : Int32), .int w14]) (rest := []) ⟨hx, hb, hml, hown, hts⟩ (c6_put l a1 (0 : Int32) w14 q16) (cwV 3 hts gX6_goesAway_X6_put rfl rfl rfl (by decide +kernel) ⟨Nat.le_of_ble_eq_true rfl, Nat.le_of_ble_eq_true rfl⟩) (k_preV hW hK hN (hW.fx 6 rfl) (EE_6 cA ad S P M 0) rfl) rfl rfl hl.1 rfl (lv_room (Nat.le_of_ble_eq_true rfl)) dX6_goesAway_159 ⟨Nat.le_of_ble_eq_true rfl, Nat.le_of_ble_eq_true rfl⟩) hS ?_
    clear hW hS; intro H locs hW hS
    refine lv_aload_n hx hb dX6_goesAway_162 rfl (lv_at hl 0 rfl) ?_
    refine lv_iload_n hx hb dX6_goesAway_163 rfl (lv_at hl 1 rfl) ?_
    refine lv_iconst (v := (4 : Int32)) hx hb dX6_goesAway_164 (by decide) ?_
    refine lv_aload_n hx hb dX6_goesAway_165 rfl (lv_at hl 0 rfl) ?_
    refine lv_iload_n hx hb dX6_goesAway_166 rfl (lv_at hl 1 rfl) ?_
    refine lv_iconst (v := (4 : Int32)) hx hb dX6_goesAway_167 (by decide) ?_
    replace hF := ob hF
    obtain ⟨v17, q18, hF⟩ := hF
    refine k_i (va_runV (As := [.int a1, .int (4 : Int32)]) (rest := [.int (4 : Int32), .int a1, .ref (ad 6 0)]) ⟨hx, hb, hml, hown, hts⟩ (c6_of l a1 (4 : Int32) q18) (cwV 2 hts gX6_goesAway_X6_of rfl rfl rfl (by decide +kernel) ⟨Nat.le_of_ble_eq_true rfl, Nat.le_of_ble_eq_true rfl⟩) (k_preV hW hK hN (hW.fx 6 rfl) (EE_6 cA ad S P M15 0) rfl) rfl rfl hl.1 rfl (lv_room (Nat.le_of_ble_eq_true rfl)) dX6_goesAway_168 ⟨Nat.le_of_ble_eq_true rfl, Nat.le_of_ble_eq_true rfl⟩) hS ?_
    clear hW hS; intro H locs hW hS
    replace hF := lt_ex hF
    obtain ⟨x19, ex19, hF⟩ := hF
    have hJ : W p l e rm6_goesAway s m args below meth c H locs 0 0 (MQ below (Qv D cA z (ad, N, S, P, M')) args s 0 0 (fun q => z ≤ q)) (F0 m 179 ls [.int x19, .int (4 : Int32), .int a1, .ref (ad 6 0)]) := by
      replace hF := ob hF
      obtain ⟨M20, q21, hF⟩ := hF
      refine k_v (va_runV (As := [.int a1, .int (4 : Int32), .int x19]) (rest := []) ⟨hx, hb, hml, hown, hts⟩ (c6_put l a1 (4 : Int32) x19 q21) (cwV 3 hts gX6_goesAway_X6_put rfl rfl rfl (by decide +kernel) ⟨Nat.le_of_ble_eq_true rfl, Nat.le_of_ble_eq_true rfl⟩) (k_preV hW hK hN (hW.fx 6 rfl) (EE_6 cA ad S P M15 0) rfl) rfl rfl hl.1 rfl (lv_room (Nat.le_of_ble_eq_true rfl)) dX6_goesAway_179 ⟨Nat.le_of_ble_eq_true rfl, Nat.le_of_ble_eq_true rfl⟩) hS ?_
      clear hW hS; intro H locs hW hS
      refine lv_aload_n hx hb dX6_goesAway_182 rfl (lv_at hl 0 rfl) ?_
      refine lv_iload_n hx hb dX6_goesAway_183 rfl (lv_at hl 1 rfl) ?_
      refine lv_bipush (v := (12 : Int32)) hx hb dX6_goesAway_184 (by decide) ?_
      refine lv_aload_n hx hb dX6_goesAway_186 rfl (lv_at hl 0 rfl) ?_
      refine lv_iload_n hx hb dX6_goesAway_187 rfl (lv_at hl 1 rfl) ?_
      refine lv_bipush (v := (12 : Int32)) hx hb dX6_goesAway_188 (by decide) ?_
      replace hF := ob hF
      obtain ⟨v22, q23, hF⟩ := hF
      refine k_i (va_runV (As := [.int a1, .int (12 : Int32)]) (rest := [.int (12 : Int32), .int a1, .ref (ad 6 0)]) ⟨hx, hb, hml, hown, hts⟩ (c6_of l a1 (12 : Int32) q23) (cwV 2 hts gX6_goesAway_X6_of rfl rfl rfl (by decide +kernel) ⟨Nat.le_of_ble_eq_true rfl, Nat.le_of_ble_eq_true rfl⟩) (k_preV hW hK hN (hW.fx 6 rfl) (EE_6 cA ad S P M20 0) rfl) rfl rfl hl.1 rfl (lv_room (Nat.le_of_ble_eq_true rfl)) dX6_goesAway_190 ⟨Nat.le_of_ble_eq_true rfl, Nat.le_of_ble_eq_true rfl⟩) hS ?_
      clear hW hS; intro H locs hW hS
      refine lv_iconst (v := (1 : Int32)) hx hb dX6_goesAway_193 (by decide) ?_
      refine lv_iadd hx hb dX6_goesAway_194 ?_
      replace hF := ob hF
      obtain ⟨M24, q25, hF⟩ := hF
      refine k_v (va_runV (As := [.int a1, .int (12 : Int32), .int (v22 + (1 : Int32))]) (rest := []) ⟨hx, hb, hml, hown, hts⟩ (c6_put l a1 (12 : Int32) (v22 + (1 : Int32)) q25) (cwV 3 hts gX6_goesAway_X6_put rfl rfl rfl (by decide +kernel) ⟨Nat.le_of_ble_eq_true rfl, Nat.le_of_ble_eq_true rfl⟩) (k_preV hW hK hN (hW.fx 6 rfl) (EE_6 cA ad S P M20 0) rfl) rfl rfl hl.1 rfl (lv_room (Nat.le_of_ble_eq_true rfl)) dX6_goesAway_195 ⟨Nat.le_of_ble_eq_true rfl, Nat.le_of_ble_eq_true rfl⟩) hS ?_
      clear hW hS; intro H locs hW hS
      refine lv_aload_n hx hb dX6_goesAway_198 rfl (lv_at hl 0 rfl) ?_
      refine lv_bipush (v := (7 : Int32)) hx hb dX6_goesAway_199 (by decide) ?_
      refine lv_iload_n hx hb dX6_goesAway_201 rfl (lv_at hl 1 rfl) ?_
      refine lv_iload_n hx hb dX6_goesAway_202 rfl (lv_at hl 2 rfl) ?_
      replace hF := ob hF
      obtain ⟨M26, q27, hF⟩ := hF
      refine k_v (va_runV (As := [.int (7 : Int32), .int a1, .int a2]) (rest := []) ⟨hx, hb, hml, hown, hts⟩ (c6_write l (7 : Int32) a1 a2 q27) (cwV 3 hts gX6_goesAway_X6_write rfl rfl rfl (by decide +kernel) ⟨Nat.le_of_ble_eq_true rfl, Nat.le_of_ble_eq_true rfl⟩) (k_preV hW hK hN (hW.fx 6 rfl) (EE_6 cA ad S P M24 0) rfl) rfl rfl hl.1 rfl (lv_room (Nat.le_of_ble_eq_true rfl)) dX6_goesAway_203 ⟨Nat.le_of_ble_eq_true rfl, Nat.le_of_ble_eq_true rfl⟩) hS ?_
      clear hW hS; intro H locs hW hS
      have hq1 := Option.some.inj hF
      subst hq1
      exact e_v hx hb hr hlk hK hN hW hS dX6_goesAway_206
    refine lv_if_ne (tgt := 178) hx hb dX6_goesAway_171 (by decide) (fun hc => ?_) (fun hc => ?_)
    · refine lv_iconst (v := (1 : Int32)) hx hb dX6_goesAway_178 (by decide) ?_
      exact W.eq (by rw [ex19, if_neg hc]) hJ
    · refine lv_iconst (v := (0 : Int32)) hx hb dX6_goesAway_174 (by decide) ?_
      refine lv_goto (tgt := 179) hx hb dX6_goesAway_175 (by decide) ?_
      exact W.eq (by rw [ex19, if_pos hc]) hJ
  · replace hF := it_t hF hc
    refine lv_aload_n hx hb dX6_goesAway_125 rfl (lv_at hl 0 rfl) ?_
    refine lv_iload_n hx hb dX6_goesAway_126 rfl (lv_at hl 1 rfl) ?_
    refine lv_iconst (v := (4 : Int32)) hx hb dX6_goesAway_127 (by decide) ?_
    refine lv_iconst (v := (5 : Int32)) hx hb dX6_goesAway_128 (by decide) ?_
    replace hF := ob hF
    obtain ⟨M28, q29, hF⟩ := hF
    refine k_v (va_runV (As := [.int a1, .int (4 : Int32), .int (5 : Int32)]) (rest := []) ⟨hx, hb, hml, hown, hts⟩ (c6_put l a1 (4 : Int32) (5 : Int32) q29) (cwV 3 hts gX6_goesAway_X6_put rfl rfl rfl (by decide +kernel) ⟨Nat.le_of_ble_eq_true rfl, Nat.le_of_ble_eq_true rfl⟩) (k_preV hW hK hN (hW.fx 6 rfl) (EE_6 cA ad S P M 0) rfl) rfl rfl hl.1 rfl (lv_room (Nat.le_of_ble_eq_true rfl)) dX6_goesAway_129 ⟨Nat.le_of_ble_eq_true rfl, Nat.le_of_ble_eq_true rfl⟩) hS ?_
    clear hW hS; intro H locs hW hS
    refine lv_aload_n hx hb dX6_goesAway_132 rfl (lv_at hl 0 rfl) ?_
    refine lv_iload_n hx hb dX6_goesAway_133 rfl (lv_at hl 1 rfl) ?_
    refine lv_bipush (v := (11 : Int32)) hx hb dX6_goesAway_134 (by decide) ?_
    refine lv_aload_n hx hb dX6_goesAway_136 rfl (lv_at hl 0 rfl) ?_
    refine lv_iload_n hx hb dX6_goesAway_137 rfl (lv_at hl 1 rfl) ?_
    refine lv_bipush (v := (10 : Int32)) hx hb dX6_goesAway_138 (by decide) ?_
    replace hF := ob hF
    obtain ⟨v30, q31, hF⟩ := hF
    refine k_i (va_runV (As := [.int a1, .int (10 : Int32)]) (rest := [.int (11 : Int32), .int a1, .ref (ad 6 0)]) ⟨hx, hb, hml, hown, hts⟩ (c6_of l a1 (10 : Int32) q31) (cwV 2 hts gX6_goesAway_X6_of rfl rfl rfl (by decide +kernel) ⟨Nat.le_of_ble_eq_true rfl, Nat.le_of_ble_eq_true rfl⟩) (k_preV hW hK hN (hW.fx 6 rfl) (EE_6 cA ad S P M28 0) rfl) rfl rfl hl.1 rfl (lv_room (Nat.le_of_ble_eq_true rfl)) dX6_goesAway_140 ⟨Nat.le_of_ble_eq_true rfl, Nat.le_of_ble_eq_true rfl⟩) hS ?_
    clear hW hS; intro H locs hW hS
    replace hF := ob hF
    obtain ⟨M32, q33, hF⟩ := hF
    refine k_v (va_runV (As := [.int a1, .int (11 : Int32), .int v30]) (rest := []) ⟨hx, hb, hml, hown, hts⟩ (c6_put l a1 (11 : Int32) v30 q33) (cwV 3 hts gX6_goesAway_X6_put rfl rfl rfl (by decide +kernel) ⟨Nat.le_of_ble_eq_true rfl, Nat.le_of_ble_eq_true rfl⟩) (k_preV hW hK hN (hW.fx 6 rfl) (EE_6 cA ad S P M28 0) rfl) rfl rfl hl.1 rfl (lv_room (Nat.le_of_ble_eq_true rfl)) dX6_goesAway_143 ⟨Nat.le_of_ble_eq_true rfl, Nat.le_of_ble_eq_true rfl⟩) hS ?_
    clear hW hS; intro H locs hW hS
    refine lv_aload_n hx hb dX6_goesAway_146 rfl (lv_at hl 0 rfl) ?_
    refine lv_bipush (v := (8 : Int32)) hx hb dX6_goesAway_147 (by decide) ?_
    refine lv_iload_n hx hb dX6_goesAway_149 rfl (lv_at hl 1 rfl) ?_
    refine lv_iload_n hx hb dX6_goesAway_150 rfl (lv_at hl 2 rfl) ?_
    replace hF := ob hF
    obtain ⟨M34, q35, hF⟩ := hF
    refine k_v (va_runV (As := [.int (8 : Int32), .int a1, .int a2]) (rest := []) ⟨hx, hb, hml, hown, hts⟩ (c6_write l (8 : Int32) a1 a2 q35) (cwV 3 hts gX6_goesAway_X6_write rfl rfl rfl (by decide +kernel) ⟨Nat.le_of_ble_eq_true rfl, Nat.le_of_ble_eq_true rfl⟩) (k_preV hW hK hN (hW.fx 6 rfl) (EE_6 cA ad S P M32 0) rfl) rfl rfl hl.1 rfl (lv_room (Nat.le_of_ble_eq_true rfl)) dX6_goesAway_151 ⟨Nat.le_of_ble_eq_true rfl, Nat.le_of_ble_eq_true rfl⟩) hS ?_
    clear hW hS; intro H locs hW hS
    have hq1 := Option.some.inj hF
    subst hq1
    exact e_v hx hb hr hlk hK hN hW hS dX6_goesAway_154

set_option maxHeartbeats 4000000 in
set_option maxRecDepth 100000 in
theorem c6_goesAway (l : Launch) {D : va_G} {cA : Nat → ClassId} {z : Nat} {ad : Nat → Nat → Nat} {N : TN} {S : TS} {P : TP} {M : TS} (a1 : Int32) (a2 : Int32) {M' : TS} (hF : f6_goesAway M a1 a2 = some M') : Met l yX6_goesAway wsX6_goesAway rm6_goesAway (va_Pc [.ref (ad 6 0), .int a1, .int a2] (Wl D cA z (ad, N, S, P, M))) (Qv D cA z (ad, N, S, P, M')) 0 0 (fun q => z ≤ q) := by
  refine Met.ofW (cc := cX6_goesAway) (maxL := 5) (ret := none) (by decide) rfl ?_
  intro p e s m args below meth c s₁ B hml hv
  obtain ⟨rfl, hW, hK, hN⟩ := hv
  have hl := lv_entry ([.ref (ad 6 0), .int a1, .int a2]) (n := 5) (Nat.le_of_ble_eq_true rfl)
  rw [lg_entry_eq]
  generalize (lg_sl ([.ref (ad 6 0), .int a1, .int a2]) ++ List.replicate (5 - (lg_sl ([.ref (ad 6 0), .int a1, .int a2])).length) Slot.unset).toArray = ls at hl ⊢
  exact w6_goesAway ⟨B.exec, B.bytes, B.returns, hml, findClass_of_methodNamed B.named, atoms_spec (ws := wsX6_goesAway) B.pre, B.notSynchronized⟩ hK hN a1 a2 hF hW va_S.rf hl

-- 6 goesOn
abbrev rm6_goesOn : Room := { frames := 3, cells := 0, slots := 0, locals := 69 }
def f6_goesOn (M : TS) (a1 : Int32) (a2 : Int32) : Option (TS) :=
  (ix a2 60).bind fun (j1 : Nat) =>
  if (M 3300 j1) = (1 : Int32) then
  ((ix a2 60).bind fun (j11 : Nat) =>
  lt (up M 3200 j11 (-1 : Int32)) fun (M12 : TS) =>
  (f6_write M12 (5 : Int32) a1 a2).bind fun (M13 : TS) =>
  some M13)
  else
  ((f6_cabinFor M a1 a2).bind fun (v2 : Int32) =>
  (f6_put M a1 (9 : Int32) v2).bind fun (M4 : TS) =>
  (ix a2 60).bind fun (j6 : Nat) =>
  lt (up M4 3300 j6 (1 : Int32)) fun (M7 : TS) =>
  lt (if v2 = (-1 : Int32) then (4 : Int32) else (3 : Int32)) fun (x8 : Int32) =>
  (f6_write M7 x8 a1 a2).bind fun (M9 : TS) =>
  some M9)
set_option maxRecDepth 20000 in
theorem hi6_goesOn_6 : ∀ w ∈ u_ws RX6 TX6 31, w ∈ wsX6_goesOn := by decide +kernel
set_option maxHeartbeats 4000000 in
set_option maxRecDepth 100000 in
theorem w6_goesOn {p : Program} {l : Launch} {e : Env} {s : State} {m : MethodId} {args : Array Value} {below : List Frame} {meth : Method} {c : Code} (C : MC p s m args meth c cX6_goesOn none 4 RX6 wsX6_goesOn) {D : va_G} {cA : Nat → ClassId} {z : Nat} {ad : Nat → Nat → Nat} {N : TN} (hK : va_K D vwCl (tysW cA) s) (hN : NW s) {S : TS} {P : TP} {M : TS} (a1 : Int32) (a2 : Int32) {M' : TS} (hF : f6_goesOn M a1 a2 = some M')
    {H : Heap} {ls : Array Slot} (hW : Wd D cA z ad N S P M H) {locs : List Loc} (hS : va_S (fun q => z ≤ q) s.heap H locs) (hl : lv_has ls 4 [(0, .ref (ad 6 0)), (1, .int a1), (2, .int a2)]) : W p l e rm6_goesOn s m args below meth c H locs 0 0 (MQ below (Qv D cA z (ad, N, S, P, M')) args s 0 0 (fun q => z ≤ q)) (F0 m 0 ls []) := by
  obtain ⟨hx, hb, hr, hml, hown, hts, hlk⟩ := id C
  unfold f6_goesOn at hF
  refine lv_aload_n hx hb dX6_goesOn_0 rfl (lv_at hl 0 rfl) ?_
  refine g6_13 hx hb hts hi6_goesOn_6 hown hK hW (hts (.fieldLink RX6 50 RX6 "stage" "[I") (by decide +kernel)) dX6_goesOn_1 ?_
  refine lv_iload_n hx hb dX6_goesOn_4 rfl (lv_at hl 2 rfl) ?_
  replace hF := ob hF
  obtain ⟨j1, ej1, hF⟩ := hF
  refine l33 hx hb hK hW ej1 dX6_goesOn_5 ?_
  refine lv_iconst (v := (1 : Int32)) hx hb dX6_goesOn_6 (by decide) ?_
  refine lv_icmp_ne (tgt := 25) hx hb dX6_goesOn_7 (by decide) (fun hc => ?_) (fun hc => ?_)
  · replace hF := it_f hF hc
    refine lv_aload_n hx hb dX6_goesOn_25 rfl (lv_at hl 0 rfl) ?_
    refine lv_iload_n hx hb dX6_goesOn_26 rfl (lv_at hl 1 rfl) ?_
    refine lv_iload_n hx hb dX6_goesOn_27 rfl (lv_at hl 2 rfl) ?_
    replace hF := ob hF
    obtain ⟨v2, q3, hF⟩ := hF
    refine k_i (va_runV (As := [.int a1, .int a2]) (rest := []) ⟨hx, hb, hml, hown, hts⟩ (c6_cabinFor l a1 a2 q3) (cwV 2 hts gX6_goesOn_X6_cabinFor rfl rfl rfl (by decide +kernel) ⟨Nat.le_of_ble_eq_true rfl, Nat.le_of_ble_eq_true rfl⟩) (k_preV hW hK hN (hW.fx 6 rfl) (EE_6 cA ad S P M 0) rfl) rfl rfl hl.1 rfl (lv_room (Nat.le_of_ble_eq_true rfl)) dX6_goesOn_28 ⟨Nat.le_of_ble_eq_true rfl, Nat.le_of_ble_eq_true rfl⟩) hS ?_
    clear hW hS; intro H locs hW hS
    refine lv_istore_n (lv' := [(3, .int v2), (0, .ref (ad 6 0)), (1, .int a1), (2, .int a2)]) hx hb dX6_goesOn_31 rfl hl (by decide) rfl ?_
    clear hl; intro ls hl
    refine lv_aload_n hx hb dX6_goesOn_32 rfl (lv_at hl 1 rfl) ?_
    refine lv_iload_n hx hb dX6_goesOn_33 rfl (lv_at hl 2 rfl) ?_
    refine lv_bipush (v := (9 : Int32)) hx hb dX6_goesOn_34 (by decide) ?_
    refine lv_iload_n hx hb dX6_goesOn_36 rfl (lv_at hl 0 rfl) ?_
    replace hF := ob hF
    obtain ⟨M4, q5, hF⟩ := hF
    refine k_v (va_runV (As := [.int a1, .int (9 : Int32), .int v2]) (rest := []) ⟨hx, hb, hml, hown, hts⟩ (c6_put l a1 (9 : Int32) v2 q5) (cwV 3 hts gX6_goesOn_X6_put rfl rfl rfl (by decide +kernel) ⟨Nat.le_of_ble_eq_true rfl, Nat.le_of_ble_eq_true rfl⟩) (k_preV hW hK hN (hW.fx 6 rfl) (EE_6 cA ad S P M 0) rfl) rfl rfl hl.1 rfl (lv_room (Nat.le_of_ble_eq_true rfl)) dX6_goesOn_37 ⟨Nat.le_of_ble_eq_true rfl, Nat.le_of_ble_eq_true rfl⟩) hS ?_
    clear hW hS; intro H locs hW hS
    refine lv_aload_n hx hb dX6_goesOn_40 rfl (lv_at hl 1 rfl) ?_
    refine g6_13 hx hb hts hi6_goesOn_6 hown hK hW (hts (.fieldLink RX6 50 RX6 "stage" "[I") (by decide +kernel)) dX6_goesOn_41 ?_
    refine lv_iload_n hx hb dX6_goesOn_44 rfl (lv_at hl 3 rfl) ?_
    refine lv_iconst (v := (1 : Int32)) hx hb dX6_goesOn_45 (by decide) ?_
    replace hF := ob hF
    obtain ⟨j6, ej6, hF⟩ := hF
    replace hF := lt_ex hF
    obtain ⟨M7, eM7, hF⟩ := hF
    refine t33 hx hb hK hW hS ej6 eM7 dX6_goesOn_46 ?_
    clear hW hS; intro H locs hW hS
    refine lv_aload_n hx hb dX6_goesOn_47 rfl (lv_at hl 1 rfl) ?_
    refine lv_iload_n hx hb dX6_goesOn_48 rfl (lv_at hl 0 rfl) ?_
    refine lv_iconst (v := (-1 : Int32)) hx hb dX6_goesOn_49 (by decide) ?_
    replace hF := lt_ex hF
    obtain ⟨x8, ex8, hF⟩ := hF
    have hJ : W p l e rm6_goesOn s m args below meth c H locs 0 0 (MQ below (Qv D cA z (ad, N, S, P, M')) args s 0 0 (fun q => z ≤ q)) (F0 m 58 ls [.int x8, .ref (ad 6 0)]) := by
      refine lv_iload_n hx hb dX6_goesOn_58 rfl (lv_at hl 2 rfl) ?_
      refine lv_iload_n hx hb dX6_goesOn_59 rfl (lv_at hl 3 rfl) ?_
      replace hF := ob hF
      obtain ⟨M9, q10, hF⟩ := hF
      refine k_v (va_runV (As := [.int x8, .int a1, .int a2]) (rest := []) ⟨hx, hb, hml, hown, hts⟩ (c6_write l x8 a1 a2 q10) (cwV 3 hts gX6_goesOn_X6_write rfl rfl rfl (by decide +kernel) ⟨Nat.le_of_ble_eq_true rfl, Nat.le_of_ble_eq_true rfl⟩) (k_preV hW hK hN (hW.fx 6 rfl) (EE_6 cA ad S P M7 0) rfl) rfl rfl hl.1 rfl (lv_room (Nat.le_of_ble_eq_true rfl)) dX6_goesOn_60 ⟨Nat.le_of_ble_eq_true rfl, Nat.le_of_ble_eq_true rfl⟩) hS ?_
      clear hW hS; intro H locs hW hS
      have hq1 := Option.some.inj hF
      subst hq1
      exact e_v hx hb hr hlk hK hN hW hS dX6_goesOn_63
    refine lv_icmp_ne (tgt := 57) hx hb dX6_goesOn_50 (by decide) (fun hc => ?_) (fun hc => ?_)
    · refine lv_iconst (v := (3 : Int32)) hx hb dX6_goesOn_57 (by decide) ?_
      exact W.eq (by rw [ex8, if_neg hc]) hJ
    · refine lv_iconst (v := (4 : Int32)) hx hb dX6_goesOn_53 (by decide) ?_
      refine lv_goto (tgt := 58) hx hb dX6_goesOn_54 (by decide) ?_
      exact W.eq (by rw [ex8, if_pos hc]) hJ
  · replace hF := it_t hF hc
    refine lv_aload_n hx hb dX6_goesOn_10 rfl (lv_at hl 0 rfl) ?_
    refine g6_12 hx hb hts hi6_goesOn_6 hown hK hW (hts (.fieldLink RX6 47 RX6 "begun" "[I") (by decide +kernel)) dX6_goesOn_11 ?_
    refine lv_iload_n hx hb dX6_goesOn_14 rfl (lv_at hl 2 rfl) ?_
    refine lv_iconst (v := (-1 : Int32)) hx hb dX6_goesOn_15 (by decide) ?_
    replace hF := ob hF
    obtain ⟨j11, ej11, hF⟩ := hF
    replace hF := lt_ex hF
    obtain ⟨M12, eM12, hF⟩ := hF
    refine t32 hx hb hK hW hS ej11 eM12 dX6_goesOn_16 ?_
    clear hW hS; intro H locs hW hS
    refine lv_aload_n hx hb dX6_goesOn_17 rfl (lv_at hl 0 rfl) ?_
    refine lv_iconst (v := (5 : Int32)) hx hb dX6_goesOn_18 (by decide) ?_
    refine lv_iload_n hx hb dX6_goesOn_19 rfl (lv_at hl 1 rfl) ?_
    refine lv_iload_n hx hb dX6_goesOn_20 rfl (lv_at hl 2 rfl) ?_
    replace hF := ob hF
    obtain ⟨M13, q14, hF⟩ := hF
    refine k_v (va_runV (As := [.int (5 : Int32), .int a1, .int a2]) (rest := []) ⟨hx, hb, hml, hown, hts⟩ (c6_write l (5 : Int32) a1 a2 q14) (cwV 3 hts gX6_goesOn_X6_write rfl rfl rfl (by decide +kernel) ⟨Nat.le_of_ble_eq_true rfl, Nat.le_of_ble_eq_true rfl⟩) (k_preV hW hK hN (hW.fx 6 rfl) (EE_6 cA ad S P M12 0) rfl) rfl rfl hl.1 rfl (lv_room (Nat.le_of_ble_eq_true rfl)) dX6_goesOn_21 ⟨Nat.le_of_ble_eq_true rfl, Nat.le_of_ble_eq_true rfl⟩) hS ?_
    clear hW hS; intro H locs hW hS
    have hq1 := Option.some.inj hF
    subst hq1
    exact e_v hx hb hr hlk hK hN hW hS dX6_goesOn_24

set_option maxHeartbeats 4000000 in
set_option maxRecDepth 100000 in
theorem c6_goesOn (l : Launch) {D : va_G} {cA : Nat → ClassId} {z : Nat} {ad : Nat → Nat → Nat} {N : TN} {S : TS} {P : TP} {M : TS} (a1 : Int32) (a2 : Int32) {M' : TS} (hF : f6_goesOn M a1 a2 = some M') : Met l yX6_goesOn wsX6_goesOn rm6_goesOn (va_Pc [.ref (ad 6 0), .int a1, .int a2] (Wl D cA z (ad, N, S, P, M))) (Qv D cA z (ad, N, S, P, M')) 0 0 (fun q => z ≤ q) := by
  refine Met.ofW (cc := cX6_goesOn) (maxL := 4) (ret := none) (by decide) rfl ?_
  intro p e s m args below meth c s₁ B hml hv
  obtain ⟨rfl, hW, hK, hN⟩ := hv
  have hl := lv_entry ([.ref (ad 6 0), .int a1, .int a2]) (n := 4) (Nat.le_of_ble_eq_true rfl)
  rw [lg_entry_eq]
  generalize (lg_sl ([.ref (ad 6 0), .int a1, .int a2]) ++ List.replicate (4 - (lg_sl ([.ref (ad 6 0), .int a1, .int a2])).length) Slot.unset).toArray = ls at hl ⊢
  exact w6_goesOn ⟨B.exec, B.bytes, B.returns, hml, findClass_of_methodNamed B.named, atoms_spec (ws := wsX6_goesOn) B.pre, B.notSynchronized⟩ hK hN a1 a2 hF hW va_S.rf hl

-- 6 kept
abbrev rm6_kept : Room := { frames := 1, cells := 0, slots := 0, locals := 22 }
def f6_kept_4 (K : Int64 → Option (Int64)) (M : TS) : Nat → Int64 → Int32 → Option (Int64)
  | 0, _, _ => none
  | n + 1, y1, y3 =>
    if (M 623 0) ≤ y3 then
    (K y1)
    else
    ((f6_of M y3 (10 : Int32)).bind fun (v1 : Int32) =>
    (f6_of M y3 (11 : Int32)).bind fun (v3 : Int32) =>
    f6_kept_4 K M n (y1 + ((v1 - v3).toInt64)) (y3 + 1))

def f6_kept (M : TS) : Option (Int64) :=
  f6_kept_4 (fun (w5 : Int64) =>
  some w5) M FU (0 : Int64) (0 : Int32)
set_option maxRecDepth 20000 in
theorem hi6_kept_6 : ∀ w ∈ u_ws RX6 TX6 31, w ∈ wsX6_kept := by decide +kernel
set_option maxHeartbeats 4000000 in
set_option maxRecDepth 100000 in
theorem w6_kept_4 {p : Program} {l : Launch} {e : Env} {s : State} {m : MethodId} {args : Array Value} {below : List Frame} {meth : Method} {c : Code} (C : MC p s m args meth c cX6_kept (some .long) 4 RX6 wsX6_kept) {D : va_G} {cA : Nat → ClassId} {z : Nat} {ad : Nat → Nat → Nat} {N : TN} (hK : va_K D vwCl (tysW cA) s) (hN : NW s) {S : TS} {P : TP} {M : TS} {v : Int64} {K : Int64 → Option (Int64)}
    (hE : ∀ (e1 : Int64) (H : Heap) (locs : List Loc) (ls : Array Slot), K e1 = some v → Wd D cA z ad N S P M H → va_S (fun q => z ≤ q) s.heap H locs → lv_has ls 4 [(1, .long e1)] → W p l e rm6_kept s m args below meth c H locs 0 0 (MQ below (Ql D cA z v (ad, N, S, P, M)) args s 0 0 (fun q => z ≤ q)) (F0 m 37 ls [])) :
    ∀ (n : Nat) (y1 : Int64) (y3 : Int32) (H : Heap) (locs : List Loc) (ls : Array Slot), f6_kept_4 K M n y1 y3 = some v → Wd D cA z ad N S P M H → va_S (fun q => z ≤ q) s.heap H locs → lv_has ls 4 [(0, .ref (ad 6 0)), (1, .long y1), (3, .int y3)] → W p l e rm6_kept s m args below meth c H locs 0 0 (MQ below (Ql D cA z v (ad, N, S, P, M)) args s 0 0 (fun q => z ≤ q)) (F0 m 4 ls []) := by
  obtain ⟨hx, hb, hr, hml, hown, hts, hlk⟩ := id C
  intro n
  induction n with
  | zero => intro y1 y3 H locs ls hF; cases hF
  | succ n ih =>
    intro y1 y3 H locs ls hF hW hS hl
    rw [f6_kept_4] at hF
    refine lv_iload_n hx hb dX6_kept_4 rfl (lv_at hl 2 rfl) ?_
    refine lv_aload_n hx hb dX6_kept_5 rfl (lv_at hl 0 rfl) ?_
    refine g6_23 hx hb hts hi6_kept_6 hown hK hW (hts (.fieldLink RX6 74 RX6 "tickets" "I") (by decide +kernel)) dX6_kept_6 ?_
    refine lv_icmp_ge (tgt := 37) hx hb dX6_kept_9 (by decide) (fun hc => ?_) (fun hc => ?_)
    · replace hF := it_t hF hc
      exact hE y1 _ _ _ hF hW hS (lv_sub hl [1] rfl)
    · replace hF := it_f hF hc
      refine lv_lload_n hx hb dX6_kept_12 rfl (lv_at hl 1 rfl) ?_
      refine lv_aload_n hx hb dX6_kept_13 rfl (lv_at hl 0 rfl) ?_
      refine lv_iload_n hx hb dX6_kept_14 rfl (lv_at hl 2 rfl) ?_
      refine lv_bipush (v := (10 : Int32)) hx hb dX6_kept_15 (by decide) ?_
      replace hF := ob hF
      obtain ⟨v1, q2, hF⟩ := hF
      refine k_i (va_runV (As := [.int y3, .int (10 : Int32)]) (rest := [.long y1]) ⟨hx, hb, hml, hown, hts⟩ (c6_of l y3 (10 : Int32) q2) (cwV 2 hts gX6_kept_X6_of rfl rfl rfl (by decide +kernel) ⟨Nat.le_of_ble_eq_true rfl, Nat.le_of_ble_eq_true rfl⟩) (k_preV hW hK hN (hW.fx 6 rfl) (EE_6 cA ad S P M 0) rfl) rfl rfl hl.1 rfl (lv_room (Nat.le_of_ble_eq_true rfl)) dX6_kept_17 ⟨Nat.le_of_ble_eq_true rfl, Nat.le_of_ble_eq_true rfl⟩) hS ?_
      clear hW hS; intro H locs hW hS
      refine lv_aload_n hx hb dX6_kept_20 rfl (lv_at hl 0 rfl) ?_
      refine lv_iload_n hx hb dX6_kept_21 rfl (lv_at hl 2 rfl) ?_
      refine lv_bipush (v := (11 : Int32)) hx hb dX6_kept_22 (by decide) ?_
      replace hF := ob hF
      obtain ⟨v3, q4, hF⟩ := hF
      refine k_i (va_runV (As := [.int y3, .int (11 : Int32)]) (rest := [.int v1, .long y1]) ⟨hx, hb, hml, hown, hts⟩ (c6_of l y3 (11 : Int32) q4) (cwV 2 hts gX6_kept_X6_of rfl rfl rfl (by decide +kernel) ⟨Nat.le_of_ble_eq_true rfl, Nat.le_of_ble_eq_true rfl⟩) (k_preV hW hK hN (hW.fx 6 rfl) (EE_6 cA ad S P M 0) rfl) rfl rfl hl.1 rfl (lv_room (Nat.le_of_ble_eq_true rfl)) dX6_kept_24 ⟨Nat.le_of_ble_eq_true rfl, Nat.le_of_ble_eq_true rfl⟩) hS ?_
      clear hW hS; intro H locs hW hS
      refine lv_isub hx hb dX6_kept_27 ?_
      refine lv_i2l hx hb dX6_kept_28 rfl ?_
      refine lv_ladd hx hb dX6_kept_29 ?_
      refine lv_lstore_n (lv' := [(1, .long (y1 + ((v1 - v3).toInt64))), (0, .ref (ad 6 0)), (3, .int y3)]) hx hb dX6_kept_30 rfl hl (by decide) rfl ?_
      clear hl; intro ls hl
      refine lv_iinc (v := y3 + 1) (lv' := [(3, .int (y3 + 1)), (1, .long (y1 + ((v1 - v3).toInt64))), (0, .ref (ad 6 0))]) hx hb dX6_kept_31 hl (k := 2) rfl rfl (by decide) rfl ?_
      clear hl; intro ls hl
      refine lv_goto (tgt := 4) hx hb dX6_kept_34 (by decide) ?_
      exact ih (y1 + ((v1 - v3).toInt64)) (y3 + 1) _ _ _ hF hW hS (lv_sub hl [2, 1, 0] rfl)

set_option maxHeartbeats 4000000 in
set_option maxRecDepth 100000 in
theorem w6_kept {p : Program} {l : Launch} {e : Env} {s : State} {m : MethodId} {args : Array Value} {below : List Frame} {meth : Method} {c : Code} (C : MC p s m args meth c cX6_kept (some .long) 4 RX6 wsX6_kept) {D : va_G} {cA : Nat → ClassId} {z : Nat} {ad : Nat → Nat → Nat} {N : TN} (hK : va_K D vwCl (tysW cA) s) (hN : NW s) {S : TS} {P : TP} {M : TS} {v : Int64} (hF : f6_kept M = some v)
    {H : Heap} {ls : Array Slot} (hW : Wd D cA z ad N S P M H) {locs : List Loc} (hS : va_S (fun q => z ≤ q) s.heap H locs) (hl : lv_has ls 4 [(0, .ref (ad 6 0))]) : W p l e rm6_kept s m args below meth c H locs 0 0 (MQ below (Ql D cA z v (ad, N, S, P, M)) args s 0 0 (fun q => z ≤ q)) (F0 m 0 ls []) := by
  obtain ⟨hx, hb, hr, hml, hown, hts, hlk⟩ := id C
  unfold f6_kept at hF
  refine lv_lconst (v := (0 : Int64)) hx hb dX6_kept_0 (by decide) ?_
  refine lv_lstore_n (lv' := [(1, .long (0 : Int64)), (0, .ref (ad 6 0))]) hx hb dX6_kept_1 rfl hl (by decide) rfl ?_
  clear hl; intro ls hl
  refine lv_iconst (v := (0 : Int32)) hx hb dX6_kept_2 (by decide) ?_
  refine lv_istore_n (lv' := [(3, .int (0 : Int32)), (1, .long (0 : Int64)), (0, .ref (ad 6 0))]) hx hb dX6_kept_3 rfl hl (by decide) rfl ?_
  clear hl; intro ls hl
  refine w6_kept_4 C hK hN  (hE := ?_) FU (0 : Int64) (0 : Int32) _ _ _ hF hW hS (lv_sub hl [2, 1, 0] rfl)
  intro w5 H locs ls hF hW hS hl
  refine lv_lload_n hx hb dX6_kept_37 rfl (lv_at hl 0 rfl) ?_
  have hq1 := Option.some.inj hF
  subst hq1
  exact e_l hx hb hr hlk hK hN hW hS dX6_kept_38

set_option maxHeartbeats 4000000 in
set_option maxRecDepth 100000 in
theorem c6_kept (l : Launch) {D : va_G} {cA : Nat → ClassId} {z : Nat} {ad : Nat → Nat → Nat} {N : TN} {S : TS} {P : TP} {M : TS} {v : Int64} (hF : f6_kept M = some v) : Met l yX6_kept wsX6_kept rm6_kept (va_Pc [.ref (ad 6 0)] (Wl D cA z (ad, N, S, P, M))) (Ql D cA z v (ad, N, S, P, M)) 0 0 (fun q => z ≤ q) := by
  refine Met.ofW (cc := cX6_kept) (maxL := 4) (ret := (some .long)) (by decide) rfl ?_
  intro p e s m args below meth c s₁ B hml hv
  obtain ⟨rfl, hW, hK, hN⟩ := hv
  have hl := lv_entry ([.ref (ad 6 0)]) (n := 4) (Nat.le_of_ble_eq_true rfl)
  rw [lg_entry_eq]
  generalize (lg_sl ([.ref (ad 6 0)]) ++ List.replicate (4 - (lg_sl ([.ref (ad 6 0)])).length) Slot.unset).toArray = ls at hl ⊢
  exact w6_kept ⟨B.exec, B.bytes, B.returns, hml, findClass_of_methodNamed B.named, atoms_spec (ws := wsX6_kept) B.pre, B.notSynchronized⟩ hK hN  hF hW va_S.rf hl

-- 6 lane
abbrev rm6_lane : Room := { frames := 3, cells := 0, slots := 0, locals := 73 }
def f6_lane (M : TS) (a1 : Int32) (a2 : Int32) (a3 : Int32) (a4 : Int32) : Option (Int32 × TS) :=
  (f6_isLane M a1 a2 a3).bind fun (v1 : Int32) =>
  if v1 = 0 then
  (some ((-1 : Int32), M))
  else
  ((f6_isIn a4 (0 : Int32) (4 : Int32)).bind fun (v3 : Int32) =>
  if v3 = 0 then
  (some ((-1 : Int32), M))
  else
  ((f6_openOf M a1).bind fun (v5 : Int32) =>
  if a4 ≤ (1 : Int32) then
  ((f6_measure M v5 a1 a2 a3 (1 : Int32)).bind fun (M7 : TS) =>
  if a4 = 0 then
  (some ((M7 627 0), M7))
  else
  (some ((M7 628 0), M7)))
  else
  ((f6_mayStand M v5 a1 a2 a3 (a4 - (2 : Int32))).bind fun (v9 : Int32) =>
  if v9 = 0 then
  (some ((0 : Int32), M))
  else
  (some ((1 : Int32), M)))))
set_option maxRecDepth 20000 in
theorem hi6_lane_6 : ∀ w ∈ u_ws RX6 TX6 31, w ∈ wsX6_lane := by decide +kernel
set_option maxHeartbeats 4000000 in
set_option maxRecDepth 100000 in
theorem w6_lane {p : Program} {l : Launch} {e : Env} {s : State} {m : MethodId} {args : Array Value} {below : List Frame} {meth : Method} {c : Code} (C : MC p s m args meth c cX6_lane (some .int) 6 RX6 wsX6_lane) {D : va_G} {cA : Nat → ClassId} {z : Nat} {ad : Nat → Nat → Nat} {N : TN} (hK : va_K D vwCl (tysW cA) s) (hN : NW s) {S : TS} {P : TP} {M : TS} (a1 : Int32) (a2 : Int32) (a3 : Int32) (a4 : Int32) {v : Int32} {M' : TS} (hF : f6_lane M a1 a2 a3 a4 = some (v, M'))
    {H : Heap} {ls : Array Slot} (hW : Wd D cA z ad N S P M H) {locs : List Loc} (hS : va_S (fun q => z ≤ q) s.heap H locs) (hl : lv_has ls 6 [(0, .ref (ad 6 0)), (1, .int a1), (2, .int a2), (3, .int a3), (4, .int a4)]) : W p l e rm6_lane s m args below meth c H locs 0 0 (MQ below (Qi D cA z v (ad, N, S, P, M')) args s 0 0 (fun q => z ≤ q)) (F0 m 0 ls []) := by
  obtain ⟨hx, hb, hr, hml, hown, hts, hlk⟩ := id C
  unfold f6_lane at hF
  refine lv_aload_n hx hb dX6_lane_0 rfl (lv_at hl 0 rfl) ?_
  refine lv_iload_n hx hb dX6_lane_1 rfl (lv_at hl 1 rfl) ?_
  refine lv_iload_n hx hb dX6_lane_2 rfl (lv_at hl 2 rfl) ?_
  refine lv_iload_n hx hb dX6_lane_3 rfl (lv_at hl 3 rfl) ?_
  replace hF := ob hF
  obtain ⟨v1, q2, hF⟩ := hF
  refine k_i (va_runV (As := [.int a1, .int a2, .int a3]) (rest := []) ⟨hx, hb, hml, hown, hts⟩ (c6_isLane l a1 a2 a3 q2) (cwV 3 hts gX6_lane_X6_isLane rfl rfl rfl (by decide +kernel) ⟨Nat.le_of_ble_eq_true rfl, Nat.le_of_ble_eq_true rfl⟩) (k_preV hW hK hN (hW.fx 6 rfl) (EE_6 cA ad S P M 0) rfl) rfl rfl hl.1 rfl (lv_room (Nat.le_of_ble_eq_true rfl)) dX6_lane_4 ⟨Nat.le_of_ble_eq_true rfl, Nat.le_of_ble_eq_true rfl⟩) hS ?_
  clear hW hS; intro H locs hW hS
  refine lv_if_eq (tgt := 20) hx hb dX6_lane_7 (by decide) (fun hc => ?_) (fun hc => ?_)
  · replace hF := it_t hF hc
    refine lv_iconst (v := (-1 : Int32)) hx hb dX6_lane_20 (by decide) ?_
    obtain ⟨hq1, hq2⟩ := Prod.mk.inj (Option.some.inj hF)
    subst hq1
    subst hq2
    exact e_i hx hb hr hlk hK hN hW hS dX6_lane_21
  · replace hF := it_f hF hc
    refine lv_iload hx hb dX6_lane_10 (lv_at hl 4 rfl) ?_
    refine lv_iconst (v := (0 : Int32)) hx hb dX6_lane_12 (by decide) ?_
    refine lv_iconst (v := (4 : Int32)) hx hb dX6_lane_13 (by decide) ?_
    replace hF := ob hF
    obtain ⟨v3, q4, hF⟩ := hF
    refine k_i (va_runS (As := [.int a4, .int (0 : Int32), .int (4 : Int32)]) (rest := []) ⟨hx, hb, hml, hown, hts⟩ (c6_isIn l a4 (0 : Int32) (4 : Int32) q4) (va_cwS 3 hts gX6_lane_X6_isIn rfl rfl rfl (by decide +kernel) ⟨Nat.le_of_ble_eq_true rfl, Nat.le_of_ble_eq_true rfl⟩) (k_preS hW hK hN) rfl rfl hl.1 rfl (lv_room (Nat.le_of_ble_eq_true rfl)) dX6_lane_14 ⟨Nat.le_of_ble_eq_true rfl, Nat.le_of_ble_eq_true rfl⟩) hS ?_
    clear hW hS; intro H locs hW hS
    refine lv_if_ne (tgt := 22) hx hb dX6_lane_17 (by decide) (fun hc => ?_) (fun hc => ?_)
    · replace hF := it_f hF hc
      refine lv_aload_n hx hb dX6_lane_22 rfl (lv_at hl 0 rfl) ?_
      refine lv_iload_n hx hb dX6_lane_23 rfl (lv_at hl 1 rfl) ?_
      replace hF := ob hF
      obtain ⟨v5, q6, hF⟩ := hF
      refine k_i (va_runV (As := [.int a1]) (rest := []) ⟨hx, hb, hml, hown, hts⟩ (c6_openOf l a1 q6) (cwV 1 hts gX6_lane_X6_openOf rfl rfl rfl (by decide +kernel) ⟨Nat.le_of_ble_eq_true rfl, Nat.le_of_ble_eq_true rfl⟩) (k_preV hW hK hN (hW.fx 6 rfl) (EE_6 cA ad S P M 0) rfl) rfl rfl hl.1 rfl (lv_room (Nat.le_of_ble_eq_true rfl)) dX6_lane_24 ⟨Nat.le_of_ble_eq_true rfl, Nat.le_of_ble_eq_true rfl⟩) hS ?_
      clear hW hS; intro H locs hW hS
      refine lv_istore (lv' := [(5, .int v5), (0, .ref (ad 6 0)), (1, .int a1), (2, .int a2), (3, .int a3), (4, .int a4)]) hx hb dX6_lane_27 hl (by decide) rfl ?_
      clear hl; intro ls hl
      refine lv_iload hx hb dX6_lane_29 (lv_at hl 5 rfl) ?_
      refine lv_iconst (v := (1 : Int32)) hx hb dX6_lane_31 (by decide) ?_
      refine lv_icmp_le (tgt := 57) hx hb dX6_lane_32 (by decide) (fun hc => ?_) (fun hc => ?_)
      · replace hF := it_t hF hc
        refine lv_aload_n hx hb dX6_lane_57 rfl (lv_at hl 1 rfl) ?_
        refine lv_iload hx hb dX6_lane_58 (lv_at hl 0 rfl) ?_
        refine lv_iload_n hx hb dX6_lane_60 rfl (lv_at hl 2 rfl) ?_
        refine lv_iload_n hx hb dX6_lane_61 rfl (lv_at hl 3 rfl) ?_
        refine lv_iload_n hx hb dX6_lane_62 rfl (lv_at hl 4 rfl) ?_
        refine lv_iconst (v := (1 : Int32)) hx hb dX6_lane_63 (by decide) ?_
        replace hF := ob hF
        obtain ⟨M7, q8, hF⟩ := hF
        refine k_v (va_runV (As := [.int v5, .int a1, .int a2, .int a3, .int (1 : Int32)]) (rest := []) ⟨hx, hb, hml, hown, hts⟩ (c6_measure l v5 a1 a2 a3 (1 : Int32) q8) (cwV 5 hts gX6_lane_X6_measure rfl rfl rfl (by decide +kernel) ⟨Nat.le_of_ble_eq_true rfl, Nat.le_of_ble_eq_true rfl⟩) (k_preV hW hK hN (hW.fx 6 rfl) (EE_6 cA ad S P M 0) rfl) rfl rfl hl.1 rfl (lv_room (Nat.le_of_ble_eq_true rfl)) dX6_lane_64 ⟨Nat.le_of_ble_eq_true rfl, Nat.le_of_ble_eq_true rfl⟩) hS ?_
        clear hW hS; intro H locs hW hS
        refine lv_iload hx hb dX6_lane_67 (lv_at hl 5 rfl) ?_
        refine lv_if_ne (tgt := 79) hx hb dX6_lane_69 (by decide) (fun hc => ?_) (fun hc => ?_)
        · replace hF := it_f hF hc
          refine lv_aload_n hx hb dX6_lane_79 rfl (lv_at hl 1 rfl) ?_
          refine g6_28 hx hb hts hi6_lane_6 hown hK hW (hts (.fieldLink RX6 137 RX6 "longest" "I") (by decide +kernel)) dX6_lane_80 ?_
          obtain ⟨hq1, hq2⟩ := Prod.mk.inj (Option.some.inj hF)
          subst hq1
          subst hq2
          exact e_i hx hb hr hlk hK hN hW hS dX6_lane_83
        · replace hF := it_t hF hc
          refine lv_aload_n hx hb dX6_lane_72 rfl (lv_at hl 1 rfl) ?_
          refine g6_27 hx hb hts hi6_lane_6 hown hK hW (hts (.fieldLink RX6 134 RX6 "free" "I") (by decide +kernel)) dX6_lane_73 ?_
          refine lv_goto (tgt := 83) hx hb dX6_lane_76 (by decide) ?_
          obtain ⟨hq1, hq2⟩ := Prod.mk.inj (Option.some.inj hF)
          subst hq1
          subst hq2
          exact e_i hx hb hr hlk hK hN hW hS dX6_lane_83
      · replace hF := it_f hF hc
        refine lv_aload_n hx hb dX6_lane_35 rfl (lv_at hl 1 rfl) ?_
        refine lv_iload hx hb dX6_lane_36 (lv_at hl 0 rfl) ?_
        refine lv_iload_n hx hb dX6_lane_38 rfl (lv_at hl 2 rfl) ?_
        refine lv_iload_n hx hb dX6_lane_39 rfl (lv_at hl 3 rfl) ?_
        refine lv_iload_n hx hb dX6_lane_40 rfl (lv_at hl 4 rfl) ?_
        refine lv_iload hx hb dX6_lane_41 (lv_at hl 5 rfl) ?_
        refine lv_iconst (v := (2 : Int32)) hx hb dX6_lane_43 (by decide) ?_
        refine lv_isub hx hb dX6_lane_44 ?_
        replace hF := ob hF
        obtain ⟨v9, q10, hF⟩ := hF
        refine k_i (va_runV (As := [.int v5, .int a1, .int a2, .int a3, .int (a4 - (2 : Int32))]) (rest := []) ⟨hx, hb, hml, hown, hts⟩ (c6_mayStand l v5 a1 a2 a3 (a4 - (2 : Int32)) q10) (cwV 5 hts gX6_lane_X6_mayStand rfl rfl rfl (by decide +kernel) ⟨Nat.le_of_ble_eq_true rfl, Nat.le_of_ble_eq_true rfl⟩) (k_preV hW hK hN (hW.fx 6 rfl) (EE_6 cA ad S P M 0) rfl) rfl rfl hl.1 rfl (lv_room (Nat.le_of_ble_eq_true rfl)) dX6_lane_45 ⟨Nat.le_of_ble_eq_true rfl, Nat.le_of_ble_eq_true rfl⟩) hS ?_
        clear hW hS; intro H locs hW hS
        refine lv_if_eq (tgt := 55) hx hb dX6_lane_48 (by decide) (fun hc => ?_) (fun hc => ?_)
        · replace hF := it_t hF hc
          refine lv_iconst (v := (0 : Int32)) hx hb dX6_lane_55 (by decide) ?_
          obtain ⟨hq1, hq2⟩ := Prod.mk.inj (Option.some.inj hF)
          subst hq1
          subst hq2
          exact e_i hx hb hr hlk hK hN hW hS dX6_lane_56
        · replace hF := it_f hF hc
          refine lv_iconst (v := (1 : Int32)) hx hb dX6_lane_51 (by decide) ?_
          refine lv_goto (tgt := 56) hx hb dX6_lane_52 (by decide) ?_
          obtain ⟨hq1, hq2⟩ := Prod.mk.inj (Option.some.inj hF)
          subst hq1
          subst hq2
          exact e_i hx hb hr hlk hK hN hW hS dX6_lane_56
    · replace hF := it_t hF hc
      refine lv_iconst (v := (-1 : Int32)) hx hb dX6_lane_20 (by decide) ?_
      obtain ⟨hq1, hq2⟩ := Prod.mk.inj (Option.some.inj hF)
      subst hq1
      subst hq2
      exact e_i hx hb hr hlk hK hN hW hS dX6_lane_21

set_option maxHeartbeats 4000000 in
set_option maxRecDepth 100000 in
theorem c6_lane (l : Launch) {D : va_G} {cA : Nat → ClassId} {z : Nat} {ad : Nat → Nat → Nat} {N : TN} {S : TS} {P : TP} {M : TS} (a1 : Int32) (a2 : Int32) (a3 : Int32) (a4 : Int32) {v : Int32} {M' : TS} (hF : f6_lane M a1 a2 a3 a4 = some (v, M')) : Met l yX6_lane wsX6_lane rm6_lane (va_Pc [.ref (ad 6 0), .int a1, .int a2, .int a3, .int a4] (Wl D cA z (ad, N, S, P, M))) (Qi D cA z v (ad, N, S, P, M')) 0 0 (fun q => z ≤ q) := by
  refine Met.ofW (cc := cX6_lane) (maxL := 6) (ret := (some .int)) (by decide) rfl ?_
  intro p e s m args below meth c s₁ B hml hv
  obtain ⟨rfl, hW, hK, hN⟩ := hv
  have hl := lv_entry ([.ref (ad 6 0), .int a1, .int a2, .int a3, .int a4]) (n := 6) (Nat.le_of_ble_eq_true rfl)
  rw [lg_entry_eq]
  generalize (lg_sl ([.ref (ad 6 0), .int a1, .int a2, .int a3, .int a4]) ++ List.replicate (6 - (lg_sl ([.ref (ad 6 0), .int a1, .int a2, .int a3, .int a4])).length) Slot.unset).toArray = ls at hl ⊢
  exact w6_lane ⟨B.exec, B.bytes, B.returns, hml, findClass_of_methodNamed B.named, atoms_spec (ws := wsX6_lane) B.pre, B.notSynchronized⟩ hK hN a1 a2 a3 a4 hF hW va_S.rf hl

-- 6 log
abbrev rm6_log : Room := { frames := 0, cells := 0, slots := 0, locals := 0 }
def f6_log (M : TS) (a1 : Int32) (a2 : Int32) : Option (Int32) :=
  if a1 < 0 then
  (some (-1 : Int32))
  else
  (if (M 624 0) ≤ a1 then
  (some (-1 : Int32))
  else
  (if a1 < (3000 : Int32) then
  (if a2 = 0 then
  ((ix a1 3000).bind fun (j3 : Nat) =>
  some (M 3700 j3))
  else
  (if a2 = (1 : Int32) then
  ((ix a1 3000).bind fun (j2 : Nat) =>
  some (M 3800 j2))
  else
  (if a2 = (2 : Int32) then
  ((ix a1 3000).bind fun (j1 : Nat) =>
  some (M 3900 j1))
  else
  (some (-1 : Int32)))))
  else
  (some (-1 : Int32))))
set_option maxRecDepth 20000 in
theorem hi6_log_6 : ∀ w ∈ u_ws RX6 TX6 31, w ∈ wsX6_log := by decide +kernel
set_option maxHeartbeats 4000000 in
set_option maxRecDepth 100000 in
theorem w6_log {p : Program} {l : Launch} {e : Env} {s : State} {m : MethodId} {args : Array Value} {below : List Frame} {meth : Method} {c : Code} (C : MC p s m args meth c cX6_log (some .int) 3 RX6 wsX6_log) {D : va_G} {cA : Nat → ClassId} {z : Nat} {ad : Nat → Nat → Nat} {N : TN} (hK : va_K D vwCl (tysW cA) s) (hN : NW s) {S : TS} {P : TP} {M : TS} (a1 : Int32) (a2 : Int32) {v : Int32} (hF : f6_log M a1 a2 = some v)
    {H : Heap} {ls : Array Slot} (hW : Wd D cA z ad N S P M H) {locs : List Loc} (hS : va_S (fun q => z ≤ q) s.heap H locs) (hl : lv_has ls 3 [(0, .ref (ad 6 0)), (1, .int a1), (2, .int a2)]) : W p l e rm6_log s m args below meth c H locs 0 0 (MQ below (Qi D cA z v (ad, N, S, P, M)) args s 0 0 (fun q => z ≤ q)) (F0 m 0 ls []) := by
  obtain ⟨hx, hb, hr, hml, hown, hts, hlk⟩ := id C
  unfold f6_log at hF
  refine lv_iload_n hx hb dX6_log_0 rfl (lv_at hl 1 rfl) ?_
  refine lv_if_lt (tgt := 19) hx hb dX6_log_1 (by decide) (fun hc => ?_) (fun hc => ?_)
  · replace hF := it_t hF hc
    refine lv_iconst (v := (-1 : Int32)) hx hb dX6_log_19 (by decide) ?_
    have hq1 := Option.some.inj hF
    subst hq1
    exact e_i hx hb hr hlk hK hN hW hS dX6_log_20
  · replace hF := it_f hF hc
    refine lv_iload_n hx hb dX6_log_4 rfl (lv_at hl 1 rfl) ?_
    refine lv_aload_n hx hb dX6_log_5 rfl (lv_at hl 0 rfl) ?_
    refine g6_24 hx hb hts hi6_log_6 hown hK hW (hts (.fieldLink RX6 172 RX6 "turns" "I") (by decide +kernel)) dX6_log_6 ?_
    refine lv_icmp_ge (tgt := 19) hx hb dX6_log_9 (by decide) (fun hc => ?_) (fun hc => ?_)
    · replace hF := it_t hF hc
      refine lv_iconst (v := (-1 : Int32)) hx hb dX6_log_19 (by decide) ?_
      have hq1 := Option.some.inj hF
      subst hq1
      exact e_i hx hb hr hlk hK hN hW hS dX6_log_20
    · replace hF := it_f hF hc
      refine lv_iload_n hx hb dX6_log_12 rfl (lv_at hl 1 rfl) ?_
      refine lv_sipush (v := (3000 : Int32)) hx hb dX6_log_13 (by decide) ?_
      refine lv_icmp_lt (tgt := 21) hx hb dX6_log_16 (by decide) (fun hc => ?_) (fun hc => ?_)
      · replace hF := it_t hF hc
        refine lv_iload_n hx hb dX6_log_21 rfl (lv_at hl 2 rfl) ?_
        refine lv_if_ne (tgt := 34) hx hb dX6_log_22 (by decide) (fun hc => ?_) (fun hc => ?_)
        · replace hF := it_f hF hc
          refine lv_iload_n hx hb dX6_log_34 rfl (lv_at hl 2 rfl) ?_
          refine lv_iconst (v := (1 : Int32)) hx hb dX6_log_35 (by decide) ?_
          refine lv_icmp_ne (tgt := 48) hx hb dX6_log_36 (by decide) (fun hc => ?_) (fun hc => ?_)
          · replace hF := it_f hF hc
            refine lv_iload_n hx hb dX6_log_48 rfl (lv_at hl 2 rfl) ?_
            refine lv_iconst (v := (2 : Int32)) hx hb dX6_log_49 (by decide) ?_
            refine lv_icmp_ne (tgt := 62) hx hb dX6_log_50 (by decide) (fun hc => ?_) (fun hc => ?_)
            · replace hF := it_f hF hc
              refine lv_iconst (v := (-1 : Int32)) hx hb dX6_log_62 (by decide) ?_
              have hq1 := Option.some.inj hF
              subst hq1
              exact e_i hx hb hr hlk hK hN hW hS dX6_log_63
            · replace hF := it_t hF hc
              refine lv_aload_n hx hb dX6_log_53 rfl (lv_at hl 0 rfl) ?_
              refine g6_19 hx hb hts hi6_log_6 hown hK hW (hts (.fieldLink RX6 68 RX6 "logSailing" "[I") (by decide +kernel)) dX6_log_54 ?_
              refine lv_iload_n hx hb dX6_log_57 rfl (lv_at hl 1 rfl) ?_
              replace hF := ob hF
              obtain ⟨j1, ej1, hF⟩ := hF
              refine l39 hx hb hK hW ej1 dX6_log_58 ?_
              refine lv_goto (tgt := 63) hx hb dX6_log_59 (by decide) ?_
              have hq1 := Option.some.inj hF
              subst hq1
              exact e_i hx hb hr hlk hK hN hW hS dX6_log_63
          · replace hF := it_t hF hc
            refine lv_aload_n hx hb dX6_log_39 rfl (lv_at hl 0 rfl) ?_
            refine g6_18 hx hb hts hi6_log_6 hown hK hW (hts (.fieldLink RX6 65 RX6 "logTicket" "[I") (by decide +kernel)) dX6_log_40 ?_
            refine lv_iload_n hx hb dX6_log_43 rfl (lv_at hl 1 rfl) ?_
            replace hF := ob hF
            obtain ⟨j2, ej2, hF⟩ := hF
            refine l38 hx hb hK hW ej2 dX6_log_44 ?_
            refine lv_goto (tgt := 63) hx hb dX6_log_45 (by decide) ?_
            have hq1 := Option.some.inj hF
            subst hq1
            exact e_i hx hb hr hlk hK hN hW hS dX6_log_63
        · replace hF := it_t hF hc
          refine lv_aload_n hx hb dX6_log_25 rfl (lv_at hl 0 rfl) ?_
          refine g6_17 hx hb hts hi6_log_6 hown hK hW (hts (.fieldLink RX6 62 RX6 "logKind" "[I") (by decide +kernel)) dX6_log_26 ?_
          refine lv_iload_n hx hb dX6_log_29 rfl (lv_at hl 1 rfl) ?_
          replace hF := ob hF
          obtain ⟨j3, ej3, hF⟩ := hF
          refine l37 hx hb hK hW ej3 dX6_log_30 ?_
          refine lv_goto (tgt := 63) hx hb dX6_log_31 (by decide) ?_
          have hq1 := Option.some.inj hF
          subst hq1
          exact e_i hx hb hr hlk hK hN hW hS dX6_log_63
      · replace hF := it_f hF hc
        refine lv_iconst (v := (-1 : Int32)) hx hb dX6_log_19 (by decide) ?_
        have hq1 := Option.some.inj hF
        subst hq1
        exact e_i hx hb hr hlk hK hN hW hS dX6_log_20

set_option maxHeartbeats 4000000 in
set_option maxRecDepth 100000 in
theorem c6_log (l : Launch) {D : va_G} {cA : Nat → ClassId} {z : Nat} {ad : Nat → Nat → Nat} {N : TN} {S : TS} {P : TP} {M : TS} (a1 : Int32) (a2 : Int32) {v : Int32} (hF : f6_log M a1 a2 = some v) : Met l yX6_log wsX6_log rm6_log (va_Pc [.ref (ad 6 0), .int a1, .int a2] (Wl D cA z (ad, N, S, P, M))) (Qi D cA z v (ad, N, S, P, M)) 0 0 (fun q => z ≤ q) := by
  refine Met.ofW (cc := cX6_log) (maxL := 3) (ret := (some .int)) (by decide) rfl ?_
  intro p e s m args below meth c s₁ B hml hv
  obtain ⟨rfl, hW, hK, hN⟩ := hv
  have hl := lv_entry ([.ref (ad 6 0), .int a1, .int a2]) (n := 3) (Nat.le_of_ble_eq_true rfl)
  rw [lg_entry_eq]
  generalize (lg_sl ([.ref (ad 6 0), .int a1, .int a2]) ++ List.replicate (3 - (lg_sl ([.ref (ad 6 0), .int a1, .int a2])).length) Slot.unset).toArray = ls at hl ⊢
  exact w6_log ⟨B.exec, B.bytes, B.returns, hml, findClass_of_methodNamed B.named, atoms_spec (ws := wsX6_log) B.pre, B.notSynchronized⟩ hK hN a1 a2 hF hW va_S.rf hl

-- 6 lookAtRecall
abbrev rm6_lookAtRecall : Room := { frames := 5, cells := 0, slots := 0, locals := 110 }
def f6_lookAtRecall (M : TS) (a1 : Int32) : Option (TS) :=
  (ix a1 60).bind fun (j1 : Nat) =>
  if (M 3100 j1) = (-1 : Int32) then
  (some M)
  else
  ((ix a1 60).bind fun (j2 : Nat) =>
  lt (fun (M3 : TS) => ((ix a1 60).bind fun (j4 : Nat) =>
  if (M3 3400 j4) = 0 then
  (some M3)
  else
  (b2 (f6_hasTurn M3 a1) fun (v5 : Int32) (M6 : TS) =>
  if v5 = 0 then
  ((ix a1 60).bind fun (j8 : Nat) =>
  lt (up M6 2900 j8 (3 : Int32)) fun (M9 : TS) =>
  some M9)
  else
  (some M6)))) fun (K58 : TS → Option (TS)) =>
  if (M 3400 j2) = 0 then
  ((ix a1 60).bind fun (j10 : Nat) =>
  lt (fun (M11 : TS) => ((ix a1 60).bind fun (j12 : Nat) =>
  lt (up M11 3400 j12 (1 : Int32)) fun (M13 : TS) =>
  (ix a1 60).bind fun (j14 : Nat) =>
  lt (up M13 3100 j14 (0 : Int32)) fun (M15 : TS) =>
  (ix a1 60).bind fun (j16 : Nat) =>
  lt (up M15 3200 j16 (-1 : Int32)) fun (M17 : TS) =>
  K58 M17)) fun (K37 : TS → Option (TS)) =>
  if (M 3100 j10) = 0 then
  (K37 M)
  else
  (b2 (f6_hasTurn M a1) fun (v18 : Int32) (M19 : TS) =>
  if v18 = 0 then
  (K37 M19)
  else
  (K58 M19)))
  else
  (K58 M))
set_option maxRecDepth 20000 in
theorem hi6_lookAtRecall_6 : ∀ w ∈ u_ws RX6 TX6 31, w ∈ wsX6_lookAtRecall := by decide +kernel
set_option maxHeartbeats 4000000 in
set_option maxRecDepth 100000 in
theorem w6_lookAtRecall {p : Program} {l : Launch} {e : Env} {s : State} {m : MethodId} {args : Array Value} {below : List Frame} {meth : Method} {c : Code} (C : MC p s m args meth c cX6_lookAtRecall none 2 RX6 wsX6_lookAtRecall) {D : va_G} {cA : Nat → ClassId} {z : Nat} {ad : Nat → Nat → Nat} {N : TN} (hK : va_K D vwCl (tysW cA) s) (hN : NW s) {S : TS} {P : TP} {M : TS} (a1 : Int32) {M' : TS} (hF : f6_lookAtRecall M a1 = some M')
    {H : Heap} {ls : Array Slot} (hW : Wd D cA z ad N S P M H) {locs : List Loc} (hS : va_S (fun q => z ≤ q) s.heap H locs) (hl : lv_has ls 2 [(0, .ref (ad 6 0)), (1, .int a1)]) : W p l e rm6_lookAtRecall s m args below meth c H locs 0 0 (MQ below (Qv D cA z (ad, N, S, P, M')) args s 0 0 (fun q => z ≤ q)) (F0 m 0 ls []) := by
  obtain ⟨hx, hb, hr, hml, hown, hts, hlk⟩ := id C
  unfold f6_lookAtRecall at hF
  refine lv_aload_n hx hb dX6_lookAtRecall_0 rfl (lv_at hl 0 rfl) ?_
  refine g6_11 hx hb hts hi6_lookAtRecall_6 hown hK hW (hts (.fieldLink RX6 44 RX6 "recall" "[I") (by decide +kernel)) dX6_lookAtRecall_1 ?_
  refine lv_iload_n hx hb dX6_lookAtRecall_4 rfl (lv_at hl 1 rfl) ?_
  replace hF := ob hF
  obtain ⟨j1, ej1, hF⟩ := hF
  refine l31 hx hb hK hW ej1 dX6_lookAtRecall_5 ?_
  refine lv_iconst (v := (-1 : Int32)) hx hb dX6_lookAtRecall_6 (by decide) ?_
  refine lv_icmp_ne (tgt := 11) hx hb dX6_lookAtRecall_7 (by decide) (fun hc => ?_) (fun hc => ?_)
  · replace hF := it_f hF hc
    refine lv_aload_n hx hb dX6_lookAtRecall_11 rfl (lv_at hl 0 rfl) ?_
    refine g6_14 hx hb hts hi6_lookAtRecall_6 hown hK hW (hts (.fieldLink RX6 53 RX6 "isOff" "[Z") (by decide +kernel)) dX6_lookAtRecall_12 ?_
    refine lv_iload_n hx hb dX6_lookAtRecall_15 rfl (lv_at hl 1 rfl) ?_
    replace hF := ob hF
    obtain ⟨j2, ej2, hF⟩ := hF
    refine l34 hx hb hK hW ej2 dX6_lookAtRecall_16 ?_
    replace hF := lt_ex hF
    obtain ⟨K58, eK58, hF⟩ := hF
    have hK58 : ∀ (M3 : TS) (H : Heap) (locs : List Loc) (ls : Array Slot), K58 M3 = some M' → Wd D cA z ad N S P M3 H → va_S (fun q => z ≤ q) s.heap H locs → lv_has ls 2 [(0, .ref (ad 6 0)), (1, .int a1)] → W p l e rm6_lookAtRecall s m args below meth c H locs 0 0 (MQ below (Qv D cA z (ad, N, S, P, M')) args s 0 0 (fun q => z ≤ q)) (F0 m 58 ls []) := by
      intro M3 H locs ls hF hW hS hl
      subst eK58
      refine lv_aload_n hx hb dX6_lookAtRecall_58 rfl (lv_at hl 0 rfl) ?_
      refine g6_14 hx hb hts hi6_lookAtRecall_6 hown hK hW (hts (.fieldLink RX6 53 RX6 "isOff" "[Z") (by decide +kernel)) dX6_lookAtRecall_59 ?_
      refine lv_iload_n hx hb dX6_lookAtRecall_62 rfl (lv_at hl 1 rfl) ?_
      replace hF := ob hF
      obtain ⟨j4, ej4, hF⟩ := hF
      refine l34 hx hb hK hW ej4 dX6_lookAtRecall_63 ?_
      refine lv_if_eq (tgt := 82) hx hb dX6_lookAtRecall_64 (by decide) (fun hc => ?_) (fun hc => ?_)
      · replace hF := it_t hF hc
        have hq1 := Option.some.inj hF
        subst hq1
        exact e_v hx hb hr hlk hK hN hW hS dX6_lookAtRecall_82
      · replace hF := it_f hF hc
        refine lv_aload_n hx hb dX6_lookAtRecall_67 rfl (lv_at hl 0 rfl) ?_
        refine lv_iload_n hx hb dX6_lookAtRecall_68 rfl (lv_at hl 1 rfl) ?_
        replace hF := ob2 hF
        obtain ⟨v5, M6, q7, hF⟩ := hF
        refine k_i (va_runV (As := [.int a1]) (rest := []) ⟨hx, hb, hml, hown, hts⟩ (c6_hasTurn l a1 q7) (cwV 1 hts gX6_lookAtRecall_X6_hasTurn rfl rfl rfl (by decide +kernel) ⟨Nat.le_of_ble_eq_true rfl, Nat.le_of_ble_eq_true rfl⟩) (k_preV hW hK hN (hW.fx 6 rfl) (EE_6 cA ad S P M3 0) rfl) rfl rfl hl.1 rfl (lv_room (Nat.le_of_ble_eq_true rfl)) dX6_lookAtRecall_69 ⟨Nat.le_of_ble_eq_true rfl, Nat.le_of_ble_eq_true rfl⟩) hS ?_
        clear hW hS; intro H locs hW hS
        refine lv_if_ne (tgt := 82) hx hb dX6_lookAtRecall_72 (by decide) (fun hc => ?_) (fun hc => ?_)
        · replace hF := it_f hF hc
          have hq1 := Option.some.inj hF
          subst hq1
          exact e_v hx hb hr hlk hK hN hW hS dX6_lookAtRecall_82
        · replace hF := it_t hF hc
          refine lv_aload_n hx hb dX6_lookAtRecall_75 rfl (lv_at hl 0 rfl) ?_
          refine g6_9 hx hb hts hi6_lookAtRecall_6 hown hK hW (hts (.fieldLink RX6 38 RX6 "how" "[I") (by decide +kernel)) dX6_lookAtRecall_76 ?_
          refine lv_iload_n hx hb dX6_lookAtRecall_79 rfl (lv_at hl 1 rfl) ?_
          refine lv_iconst (v := (3 : Int32)) hx hb dX6_lookAtRecall_80 (by decide) ?_
          replace hF := ob hF
          obtain ⟨j8, ej8, hF⟩ := hF
          replace hF := lt_ex hF
          obtain ⟨M9, eM9, hF⟩ := hF
          refine t29 hx hb hK hW hS ej8 eM9 dX6_lookAtRecall_81 ?_
          clear hW hS; intro H locs hW hS
          have hq1 := Option.some.inj hF
          subst hq1
          exact e_v hx hb hr hlk hK hN hW hS dX6_lookAtRecall_82
    clear eK58
    refine lv_if_ne (tgt := 58) hx hb dX6_lookAtRecall_17 (by decide) (fun hc => ?_) (fun hc => ?_)
    · replace hF := it_f hF hc
      exact hK58 M _ _ _ hF hW hS (lv_sub hl [0, 1] rfl)
    · replace hF := it_t hF hc
      refine lv_aload_n hx hb dX6_lookAtRecall_20 rfl (lv_at hl 0 rfl) ?_
      refine g6_11 hx hb hts hi6_lookAtRecall_6 hown hK hW (hts (.fieldLink RX6 44 RX6 "recall" "[I") (by decide +kernel)) dX6_lookAtRecall_21 ?_
      refine lv_iload_n hx hb dX6_lookAtRecall_24 rfl (lv_at hl 1 rfl) ?_
      replace hF := ob hF
      obtain ⟨j10, ej10, hF⟩ := hF
      refine l31 hx hb hK hW ej10 dX6_lookAtRecall_25 ?_
      replace hF := lt_ex hF
      obtain ⟨K37, eK37, hF⟩ := hF
      have hK37 : ∀ (M11 : TS) (H : Heap) (locs : List Loc) (ls : Array Slot), K37 M11 = some M' → Wd D cA z ad N S P M11 H → va_S (fun q => z ≤ q) s.heap H locs → lv_has ls 2 [(0, .ref (ad 6 0)), (1, .int a1)] → W p l e rm6_lookAtRecall s m args below meth c H locs 0 0 (MQ below (Qv D cA z (ad, N, S, P, M')) args s 0 0 (fun q => z ≤ q)) (F0 m 37 ls []) := by
        intro M11 H locs ls hF hW hS hl
        subst eK37
        refine lv_aload_n hx hb dX6_lookAtRecall_37 rfl (lv_at hl 0 rfl) ?_
        refine g6_14 hx hb hts hi6_lookAtRecall_6 hown hK hW (hts (.fieldLink RX6 53 RX6 "isOff" "[Z") (by decide +kernel)) dX6_lookAtRecall_38 ?_
        refine lv_iload_n hx hb dX6_lookAtRecall_41 rfl (lv_at hl 1 rfl) ?_
        refine lv_iconst (v := (1 : Int32)) hx hb dX6_lookAtRecall_42 (by decide) ?_
        replace hF := ob hF
        obtain ⟨j12, ej12, hF⟩ := hF
        replace hF := lt_ex hF
        obtain ⟨M13, eM13, hF⟩ := hF
        refine t34 hx hb hK hW hS ej12 (by decide) eM13 dX6_lookAtRecall_43 ?_
        clear hW hS; intro H locs hW hS
        refine lv_aload_n hx hb dX6_lookAtRecall_44 rfl (lv_at hl 0 rfl) ?_
        refine g6_11 hx hb hts hi6_lookAtRecall_6 hown hK hW (hts (.fieldLink RX6 44 RX6 "recall" "[I") (by decide +kernel)) dX6_lookAtRecall_45 ?_
        refine lv_iload_n hx hb dX6_lookAtRecall_48 rfl (lv_at hl 1 rfl) ?_
        refine lv_iconst (v := (0 : Int32)) hx hb dX6_lookAtRecall_49 (by decide) ?_
        replace hF := ob hF
        obtain ⟨j14, ej14, hF⟩ := hF
        replace hF := lt_ex hF
        obtain ⟨M15, eM15, hF⟩ := hF
        refine t31 hx hb hK hW hS ej14 eM15 dX6_lookAtRecall_50 ?_
        clear hW hS; intro H locs hW hS
        refine lv_aload_n hx hb dX6_lookAtRecall_51 rfl (lv_at hl 0 rfl) ?_
        refine g6_12 hx hb hts hi6_lookAtRecall_6 hown hK hW (hts (.fieldLink RX6 47 RX6 "begun" "[I") (by decide +kernel)) dX6_lookAtRecall_52 ?_
        refine lv_iload_n hx hb dX6_lookAtRecall_55 rfl (lv_at hl 1 rfl) ?_
        refine lv_iconst (v := (-1 : Int32)) hx hb dX6_lookAtRecall_56 (by decide) ?_
        replace hF := ob hF
        obtain ⟨j16, ej16, hF⟩ := hF
        replace hF := lt_ex hF
        obtain ⟨M17, eM17, hF⟩ := hF
        refine t32 hx hb hK hW hS ej16 eM17 dX6_lookAtRecall_57 ?_
        clear hW hS; intro H locs hW hS
        exact hK58 M17 _ _ _ hF hW hS (lv_sub hl [0, 1] rfl)
      clear eK37
      refine lv_if_eq (tgt := 37) hx hb dX6_lookAtRecall_26 (by decide) (fun hc => ?_) (fun hc => ?_)
      · replace hF := it_t hF hc
        exact hK37 M _ _ _ hF hW hS (lv_sub hl [0, 1] rfl)
      · replace hF := it_f hF hc
        refine lv_aload_n hx hb dX6_lookAtRecall_29 rfl (lv_at hl 0 rfl) ?_
        refine lv_iload_n hx hb dX6_lookAtRecall_30 rfl (lv_at hl 1 rfl) ?_
        replace hF := ob2 hF
        obtain ⟨v18, M19, q20, hF⟩ := hF
        refine k_i (va_runV (As := [.int a1]) (rest := []) ⟨hx, hb, hml, hown, hts⟩ (c6_hasTurn l a1 q20) (cwV 1 hts gX6_lookAtRecall_X6_hasTurn rfl rfl rfl (by decide +kernel) ⟨Nat.le_of_ble_eq_true rfl, Nat.le_of_ble_eq_true rfl⟩) (k_preV hW hK hN (hW.fx 6 rfl) (EE_6 cA ad S P M 0) rfl) rfl rfl hl.1 rfl (lv_room (Nat.le_of_ble_eq_true rfl)) dX6_lookAtRecall_31 ⟨Nat.le_of_ble_eq_true rfl, Nat.le_of_ble_eq_true rfl⟩) hS ?_
        clear hW hS; intro H locs hW hS
        refine lv_if_ne (tgt := 58) hx hb dX6_lookAtRecall_34 (by decide) (fun hc => ?_) (fun hc => ?_)
        · replace hF := it_f hF hc
          exact hK58 M19 _ _ _ hF hW hS (lv_sub hl [0, 1] rfl)
        · replace hF := it_t hF hc
          exact hK37 M19 _ _ _ hF hW hS (lv_sub hl [0, 1] rfl)
  · replace hF := it_t hF hc
    have hq1 := Option.some.inj hF
    subst hq1
    exact e_v hx hb hr hlk hK hN hW hS dX6_lookAtRecall_10

set_option maxHeartbeats 4000000 in
set_option maxRecDepth 100000 in
theorem c6_lookAtRecall (l : Launch) {D : va_G} {cA : Nat → ClassId} {z : Nat} {ad : Nat → Nat → Nat} {N : TN} {S : TS} {P : TP} {M : TS} (a1 : Int32) {M' : TS} (hF : f6_lookAtRecall M a1 = some M') : Met l yX6_lookAtRecall wsX6_lookAtRecall rm6_lookAtRecall (va_Pc [.ref (ad 6 0), .int a1] (Wl D cA z (ad, N, S, P, M))) (Qv D cA z (ad, N, S, P, M')) 0 0 (fun q => z ≤ q) := by
  refine Met.ofW (cc := cX6_lookAtRecall) (maxL := 2) (ret := none) (by decide) rfl ?_
  intro p e s m args below meth c s₁ B hml hv
  obtain ⟨rfl, hW, hK, hN⟩ := hv
  have hl := lv_entry ([.ref (ad 6 0), .int a1]) (n := 2) (Nat.le_of_ble_eq_true rfl)
  rw [lg_entry_eq]
  generalize (lg_sl ([.ref (ad 6 0), .int a1]) ++ List.replicate (2 - (lg_sl ([.ref (ad 6 0), .int a1])).length) Slot.unset).toArray = ls at hl ⊢
  exact w6_lookAtRecall ⟨B.exec, B.bytes, B.returns, hml, findClass_of_methodNamed B.named, atoms_spec (ws := wsX6_lookAtRecall) B.pre, B.notSynchronized⟩ hK hN a1 hF hW va_S.rf hl


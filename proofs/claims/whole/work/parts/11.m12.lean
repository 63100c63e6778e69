-- 6 off
abbrev rm6_off : Room := { frames := 2, cells := 0, slots := 0, locals := 44 }
def f6_off_61 (K : Option (Int32 × TS)) (M : TS) (c1 : Int32) (c2 : Int32) : Nat → Int32 → Option (Int32 × TS)
  | 0, _ => none
  | n + 1, y3 =>
    if (M 623 0) ≤ y3 then
    (K)
    else
    ((f6_isAboard M y3 c2).bind fun (v10 : Int32) =>
    if v10 = 0 then
    (f6_off_61 K M c1 c2 n (y3 + 1))
    else
    ((f6_of M y3 (6 : Int32)).bind fun (v12 : Int32) =>
    (f6_of M c1 (6 : Int32)).bind fun (v14 : Int32) =>
    if v12 = v14 then
    ((f6_of M y3 (7 : Int32)).bind fun (v16 : Int32) =>
    (f6_of M c1 (7 : Int32)).bind fun (v18 : Int32) =>
    if v16 = v18 then
    ((f6_of M y3 (8 : Int32)).bind fun (v20 : Int32) =>
    (f6_of M c1 (8 : Int32)).bind fun (v22 : Int32) =>
    if v20 ≤ v22 then
    (f6_off_61 K M c1 c2 n (y3 + 1))
    else
    (some ((0 : Int32), M)))
    else
    (f6_off_61 K M c1 c2 n (y3 + 1)))
    else
    (f6_off_61 K M c1 c2 n (y3 + 1))))

def f6_off (M : TS) (a1 : Int32) : Option (Int32 × TS) :=
  (f6_isTicket M a1).bind fun (v1 : Int32) =>
  if v1 = 0 then
  (some ((0 : Int32), M))
  else
  ((f6_of M a1 (4 : Int32)).bind fun (v3 : Int32) =>
  if v3 = (3 : Int32) then
  ((f6_of M a1 (0 : Int32)).bind fun (v5 : Int32) =>
  (ix v5 60).bind fun (j7 : Nat) =>
  if (M 2900 j7) = (1 : Int32) then
  ((ix v5 60).bind fun (j8 : Nat) =>
  if (M 3100 j8) = (-1 : Int32) then
  ((ix v5 60).bind fun (j9 : Nat) =>
  if (M 3200 j9) = a1 then
  (some ((0 : Int32), M))
  else
  (f6_off_61 ((f6_comesOff M a1).bind fun (M24 : TS) =>
  some ((1 : Int32), M24)) M a1 v5 FU (0 : Int32)))
  else
  (some ((0 : Int32), M)))
  else
  (some ((0 : Int32), M)))
  else
  (some ((0 : Int32), M)))
set_option maxRecDepth 20000 in
theorem hi6_off_6 : ∀ w ∈ u_ws RX6 TX6 31, w ∈ wsX6_off := by decide +kernel
set_option maxHeartbeats 4000000 in
set_option maxRecDepth 100000 in
theorem w6_off_61 {p : Program} {l : Launch} {e : Env} {s : State} {m : MethodId} {args : Array Value} {below : List Frame} {meth : Method} {c : Code} (C : MC p s m args meth c cX6_off (some .boolean) 4 RX6 wsX6_off) {D : va_G} {cA : Nat → ClassId} {z : Nat} {ad : Nat → Nat → Nat} {N : TN} (hK : va_K D vwCl (tysW cA) s) (hN : NW s) {S : TS} {P : TP} {M : TS} (c1 : Int32) (c2 : Int32) {v : Int32} {M' : TS} {K : Option (Int32 × TS)}
    (hE : ∀ (H : Heap) (locs : List Loc) (ls : Array Slot), K = some (v, M') → Wd D cA z ad N S P M H → va_S (fun q => z ≤ q) s.heap H locs → lv_has ls 4 [(0, .ref (ad 6 0)), (1, .int c1)] → W p l e rm6_off s m args below meth c H locs 0 0 (MQ below (Qi D cA z v (ad, N, S, P, M')) args s 0 0 (fun q => z ≤ q)) (F0 m 137 ls [])) :
    ∀ (n : Nat) (y3 : Int32) (H : Heap) (locs : List Loc) (ls : Array Slot), f6_off_61 K M c1 c2 n y3 = some (v, M') → Wd D cA z ad N S P M H → va_S (fun q => z ≤ q) s.heap H locs → lv_has ls 4 [(0, .ref (ad 6 0)), (1, .int c1), (2, .int c2), (3, .int y3)] → W p l e rm6_off s m args below meth c H locs 0 0 (MQ below (Qi D cA z v (ad, N, S, P, M')) args s 0 0 (fun q => z ≤ q)) (F0 m 61 ls []) := by
  obtain ⟨hx, hb, hr, hml, hown, hts, hlk⟩ := id C
  intro n
  induction n with
  | zero => intro y3 H locs ls hF; cases hF
  | succ n ih =>
    intro y3 H locs ls hF hW hS hl
    rw [f6_off_61] at hF
    refine lv_iload_n hx hb dX6_off_61 rfl (lv_at hl 3 rfl) ?_
    refine lv_aload_n hx hb dX6_off_62 rfl (lv_at hl 0 rfl) ?_
    refine g6_23 hx hb hts hi6_off_6 hown hK hW (hts (.fieldLink RX6 74 RX6 "tickets" "I") (by decide +kernel)) dX6_off_63 ?_
    refine lv_icmp_ge (tgt := 137) hx hb dX6_off_66 (by decide) (fun hc => ?_) (fun hc => ?_)
    · replace hF := it_t hF hc
      exact hE _ _ _ hF hW hS (lv_sub hl [0, 1] rfl)
    · replace hF := it_f hF hc
      refine lv_aload_n hx hb dX6_off_69 rfl (lv_at hl 0 rfl) ?_
      refine lv_iload_n hx hb dX6_off_70 rfl (lv_at hl 3 rfl) ?_
      refine lv_iload_n hx hb dX6_off_71 rfl (lv_at hl 2 rfl) ?_
      replace hF := ob hF
      obtain ⟨v10, q11, hF⟩ := hF
      refine k_i (va_runV (As := [.int y3, .int c2]) (rest := []) ⟨hx, hb, hml, hown, hts⟩ (c6_isAboard l y3 c2 q11) (cwV 2 hts gX6_off_X6_isAboard rfl rfl rfl (by decide +kernel) ⟨Nat.le_of_ble_eq_true rfl, Nat.le_of_ble_eq_true rfl⟩) (k_preV hW hK hN (hW.fx 6 rfl) (EE_6 cA ad S P M 0) rfl) rfl rfl hl.1 rfl (lv_room (Nat.le_of_ble_eq_true rfl)) dX6_off_72 ⟨Nat.le_of_ble_eq_true rfl, Nat.le_of_ble_eq_true rfl⟩) hS ?_
      clear hW hS; intro H locs hW hS
      refine lv_if_eq (tgt := 131) hx hb dX6_off_75 (by decide) (fun hc => ?_) (fun hc => ?_)
      · replace hF := it_t hF hc
        refine lv_iinc (v := y3 + 1) (lv' := [(3, .int (y3 + 1)), (0, .ref (ad 6 0)), (1, .int c1), (2, .int c2)]) hx hb dX6_off_131 hl (k := 3) rfl rfl (by decide) rfl ?_
        clear hl; intro ls hl
        refine lv_goto (tgt := 61) hx hb dX6_off_134 (by decide) ?_
        exact ih (y3 + 1) _ _ _ hF hW hS (lv_sub hl [1, 2, 3, 0] rfl)
      · replace hF := it_f hF hc
        refine lv_aload_n hx hb dX6_off_78 rfl (lv_at hl 0 rfl) ?_
        refine lv_iload_n hx hb dX6_off_79 rfl (lv_at hl 3 rfl) ?_
        refine lv_bipush (v := (6 : Int32)) hx hb dX6_off_80 (by decide) ?_
        replace hF := ob hF
        obtain ⟨v12, q13, hF⟩ := hF
        refine k_i (va_runV (As := [.int y3, .int (6 : Int32)]) (rest := []) ⟨hx, hb, hml, hown, hts⟩ (c6_of l y3 (6 : Int32) q13) (cwV 2 hts gX6_off_X6_of rfl rfl rfl (by decide +kernel) ⟨Nat.le_of_ble_eq_true rfl, Nat.le_of_ble_eq_true rfl⟩) (k_preV hW hK hN (hW.fx 6 rfl) (EE_6 cA ad S P M 0) rfl) rfl rfl hl.1 rfl (lv_room (Nat.le_of_ble_eq_true rfl)) dX6_off_82 ⟨Nat.le_of_ble_eq_true rfl, Nat.le_of_ble_eq_true rfl⟩) hS ?_
        clear hW hS; intro H locs hW hS
        refine lv_aload_n hx hb dX6_off_85 rfl (lv_at hl 0 rfl) ?_
        refine lv_iload_n hx hb dX6_off_86 rfl (lv_at hl 1 rfl) ?_
        refine lv_bipush (v := (6 : Int32)) hx hb dX6_off_87 (by decide) ?_
        replace hF := ob hF
        obtain ⟨v14, q15, hF⟩ := hF
        refine k_i (va_runV (As := [.int c1, .int (6 : Int32)]) (rest := [.int v12]) ⟨hx, hb, hml, hown, hts⟩ (c6_of l c1 (6 : Int32) q15) (cwV 2 hts gX6_off_X6_of rfl rfl rfl (by decide +kernel) ⟨Nat.le_of_ble_eq_true rfl, Nat.le_of_ble_eq_true rfl⟩) (k_preV hW hK hN (hW.fx 6 rfl) (EE_6 cA ad S P M 0) rfl) rfl rfl hl.1 rfl (lv_room (Nat.le_of_ble_eq_true rfl)) dX6_off_89 ⟨Nat.le_of_ble_eq_true rfl, Nat.le_of_ble_eq_true rfl⟩) hS ?_
        clear hW hS; intro H locs hW hS
        refine lv_icmp_ne (tgt := 131) hx hb dX6_off_92 (by decide) (fun hc => ?_) (fun hc => ?_)
        · replace hF := it_f hF hc
          refine lv_iinc (v := y3 + 1) (lv' := [(3, .int (y3 + 1)), (0, .ref (ad 6 0)), (1, .int c1), (2, .int c2)]) hx hb dX6_off_131 hl (k := 3) rfl rfl (by decide) rfl ?_
          clear hl; intro ls hl
          refine lv_goto (tgt := 61) hx hb dX6_off_134 (by decide) ?_
          exact ih (y3 + 1) _ _ _ hF hW hS (lv_sub hl [1, 2, 3, 0] rfl)
        · replace hF := it_t hF hc
          refine lv_aload_n hx hb dX6_off_95 rfl (lv_at hl 0 rfl) ?_
          refine lv_iload_n hx hb dX6_off_96 rfl (lv_at hl 3 rfl) ?_
          refine lv_bipush (v := (7 : Int32)) hx hb dX6_off_97 (by decide) ?_
          replace hF := ob hF
          obtain ⟨v16, q17, hF⟩ := hF
          refine k_i (va_runV (As := [.int y3, .int (7 : Int32)]) (rest := []) ⟨hx, hb, hml, hown, hts⟩ (c6_of l y3 (7 : Int32) q17) (cwV 2 hts gX6_off_X6_of rfl rfl rfl (by decide +kernel) ⟨Nat.le_of_ble_eq_true rfl, Nat.le_of_ble_eq_true rfl⟩) (k_preV hW hK hN (hW.fx 6 rfl) (EE_6 cA ad S P M 0) rfl) rfl rfl hl.1 rfl (lv_room (Nat.le_of_ble_eq_true rfl)) dX6_off_99 ⟨Nat.le_of_ble_eq_true rfl, Nat.le_of_ble_eq_true rfl⟩) hS ?_
          clear hW hS; intro H locs hW hS
          refine lv_aload_n hx hb dX6_off_102 rfl (lv_at hl 0 rfl) ?_
          refine lv_iload_n hx hb dX6_off_103 rfl (lv_at hl 1 rfl) ?_
          refine lv_bipush (v := (7 : Int32)) hx hb dX6_off_104 (by decide) ?_
          replace hF := ob hF
          obtain ⟨v18, q19, hF⟩ := hF
          refine k_i (va_runV (As := [.int c1, .int (7 : Int32)]) (rest := [.int v16]) ⟨hx, hb, hml, hown, hts⟩ (c6_of l c1 (7 : Int32) q19) (cwV 2 hts gX6_off_X6_of rfl rfl rfl (by decide +kernel) ⟨Nat.le_of_ble_eq_true rfl, Nat.le_of_ble_eq_true rfl⟩) (k_preV hW hK hN (hW.fx 6 rfl) (EE_6 cA ad S P M 0) rfl) rfl rfl hl.1 rfl (lv_room (Nat.le_of_ble_eq_true rfl)) dX6_off_106 ⟨Nat.le_of_ble_eq_true rfl, Nat.le_of_ble_eq_true rfl⟩) hS ?_
          clear hW hS; intro H locs hW hS
          refine lv_icmp_ne (tgt := 131) hx hb dX6_off_109 (by decide) (fun hc => ?_) (fun hc => ?_)
          · replace hF := it_f hF hc
            refine lv_iinc (v := y3 + 1) (lv' := [(3, .int (y3 + 1)), (0, .ref (ad 6 0)), (1, .int c1), (2, .int c2)]) hx hb dX6_off_131 hl (k := 3) rfl rfl (by decide) rfl ?_
            clear hl; intro ls hl
            refine lv_goto (tgt := 61) hx hb dX6_off_134 (by decide) ?_
            exact ih (y3 + 1) _ _ _ hF hW hS (lv_sub hl [1, 2, 3, 0] rfl)
          · replace hF := it_t hF hc
            refine lv_aload_n hx hb dX6_off_112 rfl (lv_at hl 0 rfl) ?_
            refine lv_iload_n hx hb dX6_off_113 rfl (lv_at hl 3 rfl) ?_
            refine lv_bipush (v := (8 : Int32)) hx hb dX6_off_114 (by decide) ?_
            replace hF := ob hF
            obtain ⟨v20, q21, hF⟩ := hF
            refine k_i (va_runV (As := [.int y3, .int (8 : Int32)]) (rest := []) ⟨hx, hb, hml, hown, hts⟩ (c6_of l y3 (8 : Int32) q21) (cwV 2 hts gX6_off_X6_of rfl rfl rfl (by decide +kernel) ⟨Nat.le_of_ble_eq_true rfl, Nat.le_of_ble_eq_true rfl⟩) (k_preV hW hK hN (hW.fx 6 rfl) (EE_6 cA ad S P M 0) rfl) rfl rfl hl.1 rfl (lv_room (Nat.le_of_ble_eq_true rfl)) dX6_off_116 ⟨Nat.le_of_ble_eq_true rfl, Nat.le_of_ble_eq_true rfl⟩) hS ?_
            clear hW hS; intro H locs hW hS
            refine lv_aload_n hx hb dX6_off_119 rfl (lv_at hl 0 rfl) ?_
            refine lv_iload_n hx hb dX6_off_120 rfl (lv_at hl 1 rfl) ?_
            refine lv_bipush (v := (8 : Int32)) hx hb dX6_off_121 (by decide) ?_
            replace hF := ob hF
            obtain ⟨v22, q23, hF⟩ := hF
            refine k_i (va_runV (As := [.int c1, .int (8 : Int32)]) (rest := [.int v20]) ⟨hx, hb, hml, hown, hts⟩ (c6_of l c1 (8 : Int32) q23) (cwV 2 hts gX6_off_X6_of rfl rfl rfl (by decide +kernel) ⟨Nat.le_of_ble_eq_true rfl, Nat.le_of_ble_eq_true rfl⟩) (k_preV hW hK hN (hW.fx 6 rfl) (EE_6 cA ad S P M 0) rfl) rfl rfl hl.1 rfl (lv_room (Nat.le_of_ble_eq_true rfl)) dX6_off_123 ⟨Nat.le_of_ble_eq_true rfl, Nat.le_of_ble_eq_true rfl⟩) hS ?_
            clear hW hS; intro H locs hW hS
            refine lv_icmp_le (tgt := 131) hx hb dX6_off_126 (by decide) (fun hc => ?_) (fun hc => ?_)
            · replace hF := it_t hF hc
              refine lv_iinc (v := y3 + 1) (lv' := [(3, .int (y3 + 1)), (0, .ref (ad 6 0)), (1, .int c1), (2, .int c2)]) hx hb dX6_off_131 hl (k := 3) rfl rfl (by decide) rfl ?_
              clear hl; intro ls hl
              refine lv_goto (tgt := 61) hx hb dX6_off_134 (by decide) ?_
              exact ih (y3 + 1) _ _ _ hF hW hS (lv_sub hl [1, 2, 3, 0] rfl)
            · replace hF := it_f hF hc
              refine lv_iconst (v := (0 : Int32)) hx hb dX6_off_129 (by decide) ?_
              obtain ⟨hq1, hq2⟩ := Prod.mk.inj (Option.some.inj hF)
              subst hq1
              subst hq2
              exact e_z hx hb hr hlk hK hN hW hS (by decide) dX6_off_130

set_option maxHeartbeats 4000000 in
set_option maxRecDepth 100000 in
theorem w6_off {p : Program} {l : Launch} {e : Env} {s : State} {m : MethodId} {args : Array Value} {below : List Frame} {meth : Method} {c : Code} (C : MC p s m args meth c cX6_off (some .boolean) 4 RX6 wsX6_off) {D : va_G} {cA : Nat → ClassId} {z : Nat} {ad : Nat → Nat → Nat} {N : TN} (hK : va_K D vwCl (tysW cA) s) (hN : NW s) {S : TS} {P : TP} {M : TS} (a1 : Int32) {v : Int32} {M' : TS} (hF : f6_off M a1 = some (v, M'))
    {H : Heap} {ls : Array Slot} (hW : Wd D cA z ad N S P M H) {locs : List Loc} (hS : va_S (fun q => z ≤ q) s.heap H locs) (hl : lv_has ls 4 [(0, .ref (ad 6 0)), (1, .int a1)]) : W p l e rm6_off s m args below meth c H locs 0 0 (MQ below (Qi D cA z v (ad, N, S, P, M')) args s 0 0 (fun q => z ≤ q)) (F0 m 0 ls []) := by
  obtain ⟨hx, hb, hr, hml, hown, hts, hlk⟩ := id C
  unfold f6_off at hF
  refine lv_aload_n hx hb dX6_off_0 rfl (lv_at hl 0 rfl) ?_
  refine lv_iload_n hx hb dX6_off_1 rfl (lv_at hl 1 rfl) ?_
  replace hF := ob hF
  obtain ⟨v1, q2, hF⟩ := hF
  refine k_i (va_runV (As := [.int a1]) (rest := []) ⟨hx, hb, hml, hown, hts⟩ (c6_isTicket l a1 q2) (cwV 1 hts gX6_off_X6_isTicket rfl rfl rfl (by decide +kernel) ⟨Nat.le_of_ble_eq_true rfl, Nat.le_of_ble_eq_true rfl⟩) (k_preV hW hK hN (hW.fx 6 rfl) (EE_6 cA ad S P M 0) rfl) rfl rfl hl.1 rfl (lv_room (Nat.le_of_ble_eq_true rfl)) dX6_off_2 ⟨Nat.le_of_ble_eq_true rfl, Nat.le_of_ble_eq_true rfl⟩) hS ?_
  clear hW hS; intro H locs hW hS
  refine lv_if_eq (tgt := 18) hx hb dX6_off_5 (by decide) (fun hc => ?_) (fun hc => ?_)
  · replace hF := it_t hF hc
    refine lv_iconst (v := (0 : Int32)) hx hb dX6_off_18 (by decide) ?_
    obtain ⟨hq1, hq2⟩ := Prod.mk.inj (Option.some.inj hF)
    subst hq1
    subst hq2
    exact e_z hx hb hr hlk hK hN hW hS (by decide) dX6_off_19
  · replace hF := it_f hF hc
    refine lv_aload_n hx hb dX6_off_8 rfl (lv_at hl 0 rfl) ?_
    refine lv_iload_n hx hb dX6_off_9 rfl (lv_at hl 1 rfl) ?_
    refine lv_iconst (v := (4 : Int32)) hx hb dX6_off_10 (by decide) ?_
    replace hF := ob hF
    obtain ⟨v3, q4, hF⟩ := hF
    refine k_i (va_runV (As := [.int a1, .int (4 : Int32)]) (rest := []) ⟨hx, hb, hml, hown, hts⟩ (c6_of l a1 (4 : Int32) q4) (cwV 2 hts gX6_off_X6_of rfl rfl rfl (by decide +kernel) ⟨Nat.le_of_ble_eq_true rfl, Nat.le_of_ble_eq_true rfl⟩) (k_preV hW hK hN (hW.fx 6 rfl) (EE_6 cA ad S P M 0) rfl) rfl rfl hl.1 rfl (lv_room (Nat.le_of_ble_eq_true rfl)) dX6_off_11 ⟨Nat.le_of_ble_eq_true rfl, Nat.le_of_ble_eq_true rfl⟩) hS ?_
    clear hW hS; intro H locs hW hS
    refine lv_iconst (v := (3 : Int32)) hx hb dX6_off_14 (by decide) ?_
    refine lv_icmp_eq (tgt := 20) hx hb dX6_off_15 (by decide) (fun hc => ?_) (fun hc => ?_)
    · replace hF := it_t hF hc
      refine lv_aload_n hx hb dX6_off_20 rfl (lv_at hl 0 rfl) ?_
      refine lv_iload_n hx hb dX6_off_21 rfl (lv_at hl 1 rfl) ?_
      refine lv_iconst (v := (0 : Int32)) hx hb dX6_off_22 (by decide) ?_
      replace hF := ob hF
      obtain ⟨v5, q6, hF⟩ := hF
      refine k_i (va_runV (As := [.int a1, .int (0 : Int32)]) (rest := []) ⟨hx, hb, hml, hown, hts⟩ (c6_of l a1 (0 : Int32) q6) (cwV 2 hts gX6_off_X6_of rfl rfl rfl (by decide +kernel) ⟨Nat.le_of_ble_eq_true rfl, Nat.le_of_ble_eq_true rfl⟩) (k_preV hW hK hN (hW.fx 6 rfl) (EE_6 cA ad S P M 0) rfl) rfl rfl hl.1 rfl (lv_room (Nat.le_of_ble_eq_true rfl)) dX6_off_23 ⟨Nat.le_of_ble_eq_true rfl, Nat.le_of_ble_eq_true rfl⟩) hS ?_
      clear hW hS; intro H locs hW hS
      refine lv_istore_n (lv' := [(2, .int v5), (0, .ref (ad 6 0)), (1, .int a1)]) hx hb dX6_off_26 rfl hl (by decide) rfl ?_
      clear hl; intro ls hl
      refine lv_aload_n hx hb dX6_off_27 rfl (lv_at hl 1 rfl) ?_
      refine g6_9 hx hb hts hi6_off_6 hown hK hW (hts (.fieldLink RX6 38 RX6 "how" "[I") (by decide +kernel)) dX6_off_28 ?_
      refine lv_iload_n hx hb dX6_off_31 rfl (lv_at hl 0 rfl) ?_
      replace hF := ob hF
      obtain ⟨j7, ej7, hF⟩ := hF
      refine l29 hx hb hK hW ej7 dX6_off_32 ?_
      refine lv_iconst (v := (1 : Int32)) hx hb dX6_off_33 (by decide) ?_
      refine lv_icmp_ne (tgt := 57) hx hb dX6_off_34 (by decide) (fun hc => ?_) (fun hc => ?_)
      · replace hF := it_f hF hc
        refine lv_iconst (v := (0 : Int32)) hx hb dX6_off_57 (by decide) ?_
        obtain ⟨hq1, hq2⟩ := Prod.mk.inj (Option.some.inj hF)
        subst hq1
        subst hq2
        exact e_z hx hb hr hlk hK hN hW hS (by decide) dX6_off_58
      · replace hF := it_t hF hc
        refine lv_aload_n hx hb dX6_off_37 rfl (lv_at hl 1 rfl) ?_
        refine g6_11 hx hb hts hi6_off_6 hown hK hW (hts (.fieldLink RX6 44 RX6 "recall" "[I") (by decide +kernel)) dX6_off_38 ?_
        refine lv_iload_n hx hb dX6_off_41 rfl (lv_at hl 0 rfl) ?_
        replace hF := ob hF
        obtain ⟨j8, ej8, hF⟩ := hF
        refine l31 hx hb hK hW ej8 dX6_off_42 ?_
        refine lv_iconst (v := (-1 : Int32)) hx hb dX6_off_43 (by decide) ?_
        refine lv_icmp_ne (tgt := 57) hx hb dX6_off_44 (by decide) (fun hc => ?_) (fun hc => ?_)
        · replace hF := it_f hF hc
          refine lv_iconst (v := (0 : Int32)) hx hb dX6_off_57 (by decide) ?_
          obtain ⟨hq1, hq2⟩ := Prod.mk.inj (Option.some.inj hF)
          subst hq1
          subst hq2
          exact e_z hx hb hr hlk hK hN hW hS (by decide) dX6_off_58
        · replace hF := it_t hF hc
          refine lv_aload_n hx hb dX6_off_47 rfl (lv_at hl 1 rfl) ?_
          refine g6_12 hx hb hts hi6_off_6 hown hK hW (hts (.fieldLink RX6 47 RX6 "begun" "[I") (by decide +kernel)) dX6_off_48 ?_
          refine lv_iload_n hx hb dX6_off_51 rfl (lv_at hl 0 rfl) ?_
          replace hF := ob hF
          obtain ⟨j9, ej9, hF⟩ := hF
          refine l32 hx hb hK hW ej9 dX6_off_52 ?_
          refine lv_iload_n hx hb dX6_off_53 rfl (lv_at hl 2 rfl) ?_
          refine lv_icmp_ne (tgt := 59) hx hb dX6_off_54 (by decide) (fun hc => ?_) (fun hc => ?_)
          · replace hF := it_f hF hc
            refine lv_iconst (v := (0 : Int32)) hx hb dX6_off_59 (by decide) ?_
            refine lv_istore_n (lv' := [(3, .int (0 : Int32)), (2, .int v5), (0, .ref (ad 6 0)), (1, .int a1)]) hx hb dX6_off_60 rfl hl (by decide) rfl ?_
            clear hl; intro ls hl
            refine w6_off_61 C hK hN a1 v5 (hE := ?_) FU (0 : Int32) _ _ _ hF hW hS (lv_sub hl [2, 3, 1, 0] rfl)
            intro  H locs ls hF hW hS hl
            refine lv_aload_n hx hb dX6_off_137 rfl (lv_at hl 0 rfl) ?_
            refine lv_iload_n hx hb dX6_off_138 rfl (lv_at hl 1 rfl) ?_
            replace hF := ob hF
            obtain ⟨M24, q25, hF⟩ := hF
            refine k_v (va_runV (As := [.int a1]) (rest := []) ⟨hx, hb, hml, hown, hts⟩ (c6_comesOff l a1 q25) (cwV 1 hts gX6_off_X6_comesOff rfl rfl rfl (by decide +kernel) ⟨Nat.le_of_ble_eq_true rfl, Nat.le_of_ble_eq_true rfl⟩) (k_preV hW hK hN (hW.fx 6 rfl) (EE_6 cA ad S P M 0) rfl) rfl rfl hl.1 rfl (lv_room (Nat.le_of_ble_eq_true rfl)) dX6_off_139 ⟨Nat.le_of_ble_eq_true rfl, Nat.le_of_ble_eq_true rfl⟩) hS ?_
            clear hW hS; intro H locs hW hS
            refine lv_iconst (v := (1 : Int32)) hx hb dX6_off_142 (by decide) ?_
            obtain ⟨hq1, hq2⟩ := Prod.mk.inj (Option.some.inj hF)
            subst hq1
            subst hq2
            exact e_z hx hb hr hlk hK hN hW hS (by decide) dX6_off_143
          · replace hF := it_t hF hc
            refine lv_iconst (v := (0 : Int32)) hx hb dX6_off_57 (by decide) ?_
            obtain ⟨hq1, hq2⟩ := Prod.mk.inj (Option.some.inj hF)
            subst hq1
            subst hq2
            exact e_z hx hb hr hlk hK hN hW hS (by decide) dX6_off_58
    · replace hF := it_f hF hc
      refine lv_iconst (v := (0 : Int32)) hx hb dX6_off_18 (by decide) ?_
      obtain ⟨hq1, hq2⟩ := Prod.mk.inj (Option.some.inj hF)
      subst hq1
      subst hq2
      exact e_z hx hb hr hlk hK hN hW hS (by decide) dX6_off_19

set_option maxHeartbeats 4000000 in
set_option maxRecDepth 100000 in
theorem c6_off (l : Launch) {D : va_G} {cA : Nat → ClassId} {z : Nat} {ad : Nat → Nat → Nat} {N : TN} {S : TS} {P : TP} {M : TS} (a1 : Int32) {v : Int32} {M' : TS} (hF : f6_off M a1 = some (v, M')) : Met l yX6_off wsX6_off rm6_off (va_Pc [.ref (ad 6 0), .int a1] (Wl D cA z (ad, N, S, P, M))) (Qi D cA z v (ad, N, S, P, M')) 0 0 (fun q => z ≤ q) := by
  refine Met.ofW (cc := cX6_off) (maxL := 4) (ret := (some .boolean)) (by decide) rfl ?_
  intro p e s m args below meth c s₁ B hml hv
  obtain ⟨rfl, hW, hK, hN⟩ := hv
  have hl := lv_entry ([.ref (ad 6 0), .int a1]) (n := 4) (Nat.le_of_ble_eq_true rfl)
  rw [lg_entry_eq]
  generalize (lg_sl ([.ref (ad 6 0), .int a1]) ++ List.replicate (4 - (lg_sl ([.ref (ad 6 0), .int a1])).length) Slot.unset).toArray = ls at hl ⊢
  exact w6_off ⟨B.exec, B.bytes, B.returns, hml, findClass_of_methodNamed B.named, atoms_spec (ws := wsX6_off) B.pre, B.notSynchronized⟩ hK hN a1 hF hW va_S.rf hl

-- 6 open
abbrev rm6_open : Room := { frames := 1, cells := 0, slots := 0, locals := 22 }
def f6_open (M : TS) (a1 : Int32) : Option (Int32 × TS) :=
  (f6_isSailing M a1).bind fun (v1 : Int32) =>
  if v1 = 0 then
  (some ((0 : Int32), M))
  else
  ((ix a1 60).bind fun (j3 : Nat) =>
  if (M 2900 j3) = 0 then
  ((ix a1 60).bind fun (j4 : Nat) =>
  (f6_openOf M (M 2600 j4)).bind fun (v5 : Int32) =>
  if v5 = (-1 : Int32) then
  ((ix a1 60).bind fun (j7 : Nat) =>
  lt (up M 2900 j7 (1 : Int32)) fun (M8 : TS) =>
  some ((1 : Int32), M8))
  else
  (some ((0 : Int32), M)))
  else
  (some ((0 : Int32), M)))
set_option maxRecDepth 20000 in
theorem hi6_open_6 : ∀ w ∈ u_ws RX6 TX6 31, w ∈ wsX6_open := by decide +kernel
set_option maxHeartbeats 4000000 in
set_option maxRecDepth 100000 in
theorem w6_open {p : Program} {l : Launch} {e : Env} {s : State} {m : MethodId} {args : Array Value} {below : List Frame} {meth : Method} {c : Code} (C : MC p s m args meth c cX6_open (some .boolean) 2 RX6 wsX6_open) {D : va_G} {cA : Nat → ClassId} {z : Nat} {ad : Nat → Nat → Nat} {N : TN} (hK : va_K D vwCl (tysW cA) s) (hN : NW s) {S : TS} {P : TP} {M : TS} (a1 : Int32) {v : Int32} {M' : TS} (hF : f6_open M a1 = some (v, M'))
    {H : Heap} {ls : Array Slot} (hW : Wd D cA z ad N S P M H) {locs : List Loc} (hS : va_S (fun q => z ≤ q) s.heap H locs) (hl : lv_has ls 2 [(0, .ref (ad 6 0)), (1, .int a1)]) : W p l e rm6_open s m args below meth c H locs 0 0 (MQ below (Qi D cA z v (ad, N, S, P, M')) args s 0 0 (fun q => z ≤ q)) (F0 m 0 ls []) := by
  obtain ⟨hx, hb, hr, hml, hown, hts, hlk⟩ := id C
  unfold f6_open at hF
  refine lv_aload_n hx hb dX6_open_0 rfl (lv_at hl 0 rfl) ?_
  refine lv_iload_n hx hb dX6_open_1 rfl (lv_at hl 1 rfl) ?_
  replace hF := ob hF
  obtain ⟨v1, q2, hF⟩ := hF
  refine k_i (va_runV (As := [.int a1]) (rest := []) ⟨hx, hb, hml, hown, hts⟩ (c6_isSailing l a1 q2) (cwV 1 hts gX6_open_X6_isSailing rfl rfl rfl (by decide +kernel) ⟨Nat.le_of_ble_eq_true rfl, Nat.le_of_ble_eq_true rfl⟩) (k_preV hW hK hN (hW.fx 6 rfl) (EE_6 cA ad S P M 0) rfl) rfl rfl hl.1 rfl (lv_room (Nat.le_of_ble_eq_true rfl)) dX6_open_2 ⟨Nat.le_of_ble_eq_true rfl, Nat.le_of_ble_eq_true rfl⟩) hS ?_
  clear hW hS; intro H locs hW hS
  refine lv_if_eq (tgt := 31) hx hb dX6_open_5 (by decide) (fun hc => ?_) (fun hc => ?_)
  · replace hF := it_t hF hc
    refine lv_iconst (v := (0 : Int32)) hx hb dX6_open_31 (by decide) ?_
    obtain ⟨hq1, hq2⟩ := Prod.mk.inj (Option.some.inj hF)
    subst hq1
    subst hq2
    exact e_z hx hb hr hlk hK hN hW hS (by decide) dX6_open_32
  · replace hF := it_f hF hc
    refine lv_aload_n hx hb dX6_open_8 rfl (lv_at hl 0 rfl) ?_
    refine g6_9 hx hb hts hi6_open_6 hown hK hW (hts (.fieldLink RX6 38 RX6 "how" "[I") (by decide +kernel)) dX6_open_9 ?_
    refine lv_iload_n hx hb dX6_open_12 rfl (lv_at hl 1 rfl) ?_
    replace hF := ob hF
    obtain ⟨j3, ej3, hF⟩ := hF
    refine l29 hx hb hK hW ej3 dX6_open_13 ?_
    refine lv_if_ne (tgt := 31) hx hb dX6_open_14 (by decide) (fun hc => ?_) (fun hc => ?_)
    · replace hF := it_f hF hc
      refine lv_iconst (v := (0 : Int32)) hx hb dX6_open_31 (by decide) ?_
      obtain ⟨hq1, hq2⟩ := Prod.mk.inj (Option.some.inj hF)
      subst hq1
      subst hq2
      exact e_z hx hb hr hlk hK hN hW hS (by decide) dX6_open_32
    · replace hF := it_t hF hc
      refine lv_aload_n hx hb dX6_open_17 rfl (lv_at hl 0 rfl) ?_
      refine lv_aload_n hx hb dX6_open_18 rfl (lv_at hl 0 rfl) ?_
      refine g6_6 hx hb hts hi6_open_6 hown hK hW (hts (.fieldLink RX6 29 RX6 "ship" "[I") (by decide +kernel)) dX6_open_19 ?_
      refine lv_iload_n hx hb dX6_open_22 rfl (lv_at hl 1 rfl) ?_
      replace hF := ob hF
      obtain ⟨j4, ej4, hF⟩ := hF
      refine l26 hx hb hK hW ej4 dX6_open_23 ?_
      replace hF := ob hF
      obtain ⟨v5, q6, hF⟩ := hF
      refine k_i (va_runV (As := [.int (M 2600 j4)]) (rest := []) ⟨hx, hb, hml, hown, hts⟩ (c6_openOf l (M 2600 j4) q6) (cwV 1 hts gX6_open_X6_openOf rfl rfl rfl (by decide +kernel) ⟨Nat.le_of_ble_eq_true rfl, Nat.le_of_ble_eq_true rfl⟩) (k_preV hW hK hN (hW.fx 6 rfl) (EE_6 cA ad S P M 0) rfl) rfl rfl hl.1 rfl (lv_room (Nat.le_of_ble_eq_true rfl)) dX6_open_24 ⟨Nat.le_of_ble_eq_true rfl, Nat.le_of_ble_eq_true rfl⟩) hS ?_
      clear hW hS; intro H locs hW hS
      refine lv_iconst (v := (-1 : Int32)) hx hb dX6_open_27 (by decide) ?_
      refine lv_icmp_eq (tgt := 33) hx hb dX6_open_28 (by decide) (fun hc => ?_) (fun hc => ?_)
      · replace hF := it_t hF hc
        refine lv_aload_n hx hb dX6_open_33 rfl (lv_at hl 0 rfl) ?_
        refine g6_9 hx hb hts hi6_open_6 hown hK hW (hts (.fieldLink RX6 38 RX6 "how" "[I") (by decide +kernel)) dX6_open_34 ?_
        refine lv_iload_n hx hb dX6_open_37 rfl (lv_at hl 1 rfl) ?_
        refine lv_iconst (v := (1 : Int32)) hx hb dX6_open_38 (by decide) ?_
        replace hF := ob hF
        obtain ⟨j7, ej7, hF⟩ := hF
        replace hF := lt_ex hF
        obtain ⟨M8, eM8, hF⟩ := hF
        refine t29 hx hb hK hW hS ej7 eM8 dX6_open_39 ?_
        clear hW hS; intro H locs hW hS
        refine lv_iconst (v := (1 : Int32)) hx hb dX6_open_40 (by decide) ?_
        obtain ⟨hq1, hq2⟩ := Prod.mk.inj (Option.some.inj hF)
        subst hq1
        subst hq2
        exact e_z hx hb hr hlk hK hN hW hS (by decide) dX6_open_41
      · replace hF := it_f hF hc
        refine lv_iconst (v := (0 : Int32)) hx hb dX6_open_31 (by decide) ?_
        obtain ⟨hq1, hq2⟩ := Prod.mk.inj (Option.some.inj hF)
        subst hq1
        subst hq2
        exact e_z hx hb hr hlk hK hN hW hS (by decide) dX6_open_32

set_option maxHeartbeats 4000000 in
set_option maxRecDepth 100000 in
theorem c6_open (l : Launch) {D : va_G} {cA : Nat → ClassId} {z : Nat} {ad : Nat → Nat → Nat} {N : TN} {S : TS} {P : TP} {M : TS} (a1 : Int32) {v : Int32} {M' : TS} (hF : f6_open M a1 = some (v, M')) : Met l yX6_open wsX6_open rm6_open (va_Pc [.ref (ad 6 0), .int a1] (Wl D cA z (ad, N, S, P, M))) (Qi D cA z v (ad, N, S, P, M')) 0 0 (fun q => z ≤ q) := by
  refine Met.ofW (cc := cX6_open) (maxL := 2) (ret := (some .boolean)) (by decide) rfl ?_
  intro p e s m args below meth c s₁ B hml hv
  obtain ⟨rfl, hW, hK, hN⟩ := hv
  have hl := lv_entry ([.ref (ad 6 0), .int a1]) (n := 2) (Nat.le_of_ble_eq_true rfl)
  rw [lg_entry_eq]
  generalize (lg_sl ([.ref (ad 6 0), .int a1]) ++ List.replicate (2 - (lg_sl ([.ref (ad 6 0), .int a1])).length) Slot.unset).toArray = ls at hl ⊢
  exact w6_open ⟨B.exec, B.bytes, B.returns, hml, findClass_of_methodNamed B.named, atoms_spec (ws := wsX6_open) B.pre, B.notSynchronized⟩ hK hN a1 hF hW va_S.rf hl

-- 6 recall
abbrev rm6_recall : Room := { frames := 6, cells := 0, slots := 0, locals := 131 }
def f6_recall (M : TS) (a1 : Int32) (a2 : Int32) : Option (Int32 × TS) :=
  (f6_isSailing M a1).bind fun (v1 : Int32) =>
  if v1 = 0 then
  (some ((0 : Int32), M))
  else
  ((ix a1 60).bind fun (j3 : Nat) =>
  if (M 2900 j3) = (1 : Int32) then
  ((ix a1 60).bind fun (j4 : Nat) =>
  if (M 3100 j4) = (-1 : Int32) then
  ((f6_isIn a2 (0 : Int32) (1000 : Int32)).bind fun (v5 : Int32) =>
  if v5 = 0 then
  (some ((0 : Int32), M))
  else
  ((ix a1 60).bind fun (j7 : Nat) =>
  lt (up M 3100 j7 a2) fun (M8 : TS) =>
  (f6_lookAtRecall M8 a1).bind fun (M9 : TS) =>
  some ((1 : Int32), M9)))
  else
  (some ((0 : Int32), M)))
  else
  (some ((0 : Int32), M)))
set_option maxRecDepth 20000 in
theorem hi6_recall_6 : ∀ w ∈ u_ws RX6 TX6 31, w ∈ wsX6_recall := by decide +kernel
set_option maxHeartbeats 4000000 in
set_option maxRecDepth 100000 in
theorem w6_recall {p : Program} {l : Launch} {e : Env} {s : State} {m : MethodId} {args : Array Value} {below : List Frame} {meth : Method} {c : Code} (C : MC p s m args meth c cX6_recall (some .boolean) 3 RX6 wsX6_recall) {D : va_G} {cA : Nat → ClassId} {z : Nat} {ad : Nat → Nat → Nat} {N : TN} (hK : va_K D vwCl (tysW cA) s) (hN : NW s) {S : TS} {P : TP} {M : TS} (a1 : Int32) (a2 : Int32) {v : Int32} {M' : TS} (hF : f6_recall M a1 a2 = some (v, M'))
    {H : Heap} {ls : Array Slot} (hW : Wd D cA z ad N S P M H) {locs : List Loc} (hS : va_S (fun q => z ≤ q) s.heap H locs) (hl : lv_has ls 3 [(0, .ref (ad 6 0)), (1, .int a1), (2, .int a2)]) : W p l e rm6_recall s m args below meth c H locs 0 0 (MQ below (Qi D cA z v (ad, N, S, P, M')) args s 0 0 (fun q => z ≤ q)) (F0 m 0 ls []) := by
  obtain ⟨hx, hb, hr, hml, hown, hts, hlk⟩ := id C
  unfold f6_recall at hF
  refine lv_aload_n hx hb dX6_recall_0 rfl (lv_at hl 0 rfl) ?_
  refine lv_iload_n hx hb dX6_recall_1 rfl (lv_at hl 1 rfl) ?_
  replace hF := ob hF
  obtain ⟨v1, q2, hF⟩ := hF
  refine k_i (va_runV (As := [.int a1]) (rest := []) ⟨hx, hb, hml, hown, hts⟩ (c6_isSailing l a1 q2) (cwV 1 hts gX6_recall_X6_isSailing rfl rfl rfl (by decide +kernel) ⟨Nat.le_of_ble_eq_true rfl, Nat.le_of_ble_eq_true rfl⟩) (k_preV hW hK hN (hW.fx 6 rfl) (EE_6 cA ad S P M 0) rfl) rfl rfl hl.1 rfl (lv_room (Nat.le_of_ble_eq_true rfl)) dX6_recall_2 ⟨Nat.le_of_ble_eq_true rfl, Nat.le_of_ble_eq_true rfl⟩) hS ?_
  clear hW hS; intro H locs hW hS
  refine lv_if_eq (tgt := 39) hx hb dX6_recall_5 (by decide) (fun hc => ?_) (fun hc => ?_)
  · replace hF := it_t hF hc
    refine lv_iconst (v := (0 : Int32)) hx hb dX6_recall_39 (by decide) ?_
    obtain ⟨hq1, hq2⟩ := Prod.mk.inj (Option.some.inj hF)
    subst hq1
    subst hq2
    exact e_z hx hb hr hlk hK hN hW hS (by decide) dX6_recall_40
  · replace hF := it_f hF hc
    refine lv_aload_n hx hb dX6_recall_8 rfl (lv_at hl 0 rfl) ?_
    refine g6_9 hx hb hts hi6_recall_6 hown hK hW (hts (.fieldLink RX6 38 RX6 "how" "[I") (by decide +kernel)) dX6_recall_9 ?_
    refine lv_iload_n hx hb dX6_recall_12 rfl (lv_at hl 1 rfl) ?_
    replace hF := ob hF
    obtain ⟨j3, ej3, hF⟩ := hF
    refine l29 hx hb hK hW ej3 dX6_recall_13 ?_
    refine lv_iconst (v := (1 : Int32)) hx hb dX6_recall_14 (by decide) ?_
    refine lv_icmp_ne (tgt := 39) hx hb dX6_recall_15 (by decide) (fun hc => ?_) (fun hc => ?_)
    · replace hF := it_f hF hc
      refine lv_iconst (v := (0 : Int32)) hx hb dX6_recall_39 (by decide) ?_
      obtain ⟨hq1, hq2⟩ := Prod.mk.inj (Option.some.inj hF)
      subst hq1
      subst hq2
      exact e_z hx hb hr hlk hK hN hW hS (by decide) dX6_recall_40
    · replace hF := it_t hF hc
      refine lv_aload_n hx hb dX6_recall_18 rfl (lv_at hl 0 rfl) ?_
      refine g6_11 hx hb hts hi6_recall_6 hown hK hW (hts (.fieldLink RX6 44 RX6 "recall" "[I") (by decide +kernel)) dX6_recall_19 ?_
      refine lv_iload_n hx hb dX6_recall_22 rfl (lv_at hl 1 rfl) ?_
      replace hF := ob hF
      obtain ⟨j4, ej4, hF⟩ := hF
      refine l31 hx hb hK hW ej4 dX6_recall_23 ?_
      refine lv_iconst (v := (-1 : Int32)) hx hb dX6_recall_24 (by decide) ?_
      refine lv_icmp_ne (tgt := 39) hx hb dX6_recall_25 (by decide) (fun hc => ?_) (fun hc => ?_)
      · replace hF := it_f hF hc
        refine lv_iconst (v := (0 : Int32)) hx hb dX6_recall_39 (by decide) ?_
        obtain ⟨hq1, hq2⟩ := Prod.mk.inj (Option.some.inj hF)
        subst hq1
        subst hq2
        exact e_z hx hb hr hlk hK hN hW hS (by decide) dX6_recall_40
      · replace hF := it_t hF hc
        refine lv_iload_n hx hb dX6_recall_28 rfl (lv_at hl 2 rfl) ?_
        refine lv_iconst (v := (0 : Int32)) hx hb dX6_recall_29 (by decide) ?_
        refine lv_sipush (v := (1000 : Int32)) hx hb dX6_recall_30 (by decide) ?_
        replace hF := ob hF
        obtain ⟨v5, q6, hF⟩ := hF
        refine k_i (va_runS (As := [.int a2, .int (0 : Int32), .int (1000 : Int32)]) (rest := []) ⟨hx, hb, hml, hown, hts⟩ (c6_isIn l a2 (0 : Int32) (1000 : Int32) q6) (va_cwS 3 hts gX6_recall_X6_isIn rfl rfl rfl (by decide +kernel) ⟨Nat.le_of_ble_eq_true rfl, Nat.le_of_ble_eq_true rfl⟩) (k_preS hW hK hN) rfl rfl hl.1 rfl (lv_room (Nat.le_of_ble_eq_true rfl)) dX6_recall_33 ⟨Nat.le_of_ble_eq_true rfl, Nat.le_of_ble_eq_true rfl⟩) hS ?_
        clear hW hS; intro H locs hW hS
        refine lv_if_ne (tgt := 41) hx hb dX6_recall_36 (by decide) (fun hc => ?_) (fun hc => ?_)
        · replace hF := it_f hF hc
          refine lv_aload_n hx hb dX6_recall_41 rfl (lv_at hl 0 rfl) ?_
          refine g6_11 hx hb hts hi6_recall_6 hown hK hW (hts (.fieldLink RX6 44 RX6 "recall" "[I") (by decide +kernel)) dX6_recall_42 ?_
          refine lv_iload_n hx hb dX6_recall_45 rfl (lv_at hl 1 rfl) ?_
          refine lv_iload_n hx hb dX6_recall_46 rfl (lv_at hl 2 rfl) ?_
          replace hF := ob hF
          obtain ⟨j7, ej7, hF⟩ := hF
          replace hF := lt_ex hF
          obtain ⟨M8, eM8, hF⟩ := hF
          refine t31 hx hb hK hW hS ej7 eM8 dX6_recall_47 ?_
          clear hW hS; intro H locs hW hS
          refine lv_aload_n hx hb dX6_recall_48 rfl (lv_at hl 0 rfl) ?_
          refine lv_iload_n hx hb dX6_recall_49 rfl (lv_at hl 1 rfl) ?_
          replace hF := ob hF
          obtain ⟨M9, q10, hF⟩ := hF
          refine k_v (va_runV (As := [.int a1]) (rest := []) ⟨hx, hb, hml, hown, hts⟩ (c6_lookAtRecall l a1 q10) (cwV 1 hts gX6_recall_X6_lookAtRecall rfl rfl rfl (by decide +kernel) ⟨Nat.le_of_ble_eq_true rfl, Nat.le_of_ble_eq_true rfl⟩) (k_preV hW hK hN (hW.fx 6 rfl) (EE_6 cA ad S P M8 0) rfl) rfl rfl hl.1 rfl (lv_room (Nat.le_of_ble_eq_true rfl)) dX6_recall_50 ⟨Nat.le_of_ble_eq_true rfl, Nat.le_of_ble_eq_true rfl⟩) hS ?_
          clear hW hS; intro H locs hW hS
          refine lv_iconst (v := (1 : Int32)) hx hb dX6_recall_53 (by decide) ?_
          obtain ⟨hq1, hq2⟩ := Prod.mk.inj (Option.some.inj hF)
          subst hq1
          subst hq2
          exact e_z hx hb hr hlk hK hN hW hS (by decide) dX6_recall_54
        · replace hF := it_t hF hc
          refine lv_iconst (v := (0 : Int32)) hx hb dX6_recall_39 (by decide) ?_
          obtain ⟨hq1, hq2⟩ := Prod.mk.inj (Option.some.inj hF)
          subst hq1
          subst hq2
          exact e_z hx hb hr hlk hK hN hW hS (by decide) dX6_recall_40

set_option maxHeartbeats 4000000 in
set_option maxRecDepth 100000 in
theorem c6_recall (l : Launch) {D : va_G} {cA : Nat → ClassId} {z : Nat} {ad : Nat → Nat → Nat} {N : TN} {S : TS} {P : TP} {M : TS} (a1 : Int32) (a2 : Int32) {v : Int32} {M' : TS} (hF : f6_recall M a1 a2 = some (v, M')) : Met l yX6_recall wsX6_recall rm6_recall (va_Pc [.ref (ad 6 0), .int a1, .int a2] (Wl D cA z (ad, N, S, P, M))) (Qi D cA z v (ad, N, S, P, M')) 0 0 (fun q => z ≤ q) := by
  refine Met.ofW (cc := cX6_recall) (maxL := 3) (ret := (some .boolean)) (by decide) rfl ?_
  intro p e s m args below meth c s₁ B hml hv
  obtain ⟨rfl, hW, hK, hN⟩ := hv
  have hl := lv_entry ([.ref (ad 6 0), .int a1, .int a2]) (n := 3) (Nat.le_of_ble_eq_true rfl)
  rw [lg_entry_eq]
  generalize (lg_sl ([.ref (ad 6 0), .int a1, .int a2]) ++ List.replicate (3 - (lg_sl ([.ref (ad 6 0), .int a1, .int a2])).length) Slot.unset).toArray = ls at hl ⊢
  exact w6_recall ⟨B.exec, B.bytes, B.returns, hml, findClass_of_methodNamed B.named, atoms_spec (ws := wsX6_recall) B.pre, B.notSynchronized⟩ hK hN a1 a2 hF hW va_S.rf hl

-- 6 sailing
abbrev rm6_sailing : Room := { frames := 1, cells := 0, slots := 0, locals := 22 }
def f6_sailing_42 (K : Option (Int32 × TS)) (M : TS) (c1 : Int32) (c2 : Int32) (c3 : Int32) : Nat → Int32 → Option (Int32 × TS)
  | 0, _ => none
  | n + 1, y4 =>
    if (M 622 0) ≤ y4 then
    (K)
    else
    ((ix y4 60).bind fun (j7 : Nat) =>
    if (M 2600 j7) = c1 then
    ((ix y4 60).bind fun (j8 : Nat) =>
    if (M 2900 j8) = (3 : Int32) then
    (f6_sailing_42 K M c1 c2 c3 n (y4 + 1))
    else
    ((ix y4 60).bind fun (j9 : Nat) =>
    lt (if 0 ≤ ((M 2700 j9) - c2) then ((M 2700 j9) - c2) else 0 - ((M 2700 j9) - c2)) fun (x10 : Int32) =>
    if (90 : Int32) ≤ x10 then
    (f6_sailing_42 K M c1 c2 c3 n (y4 + 1))
    else
    (some ((-1 : Int32), M))))
    else
    (f6_sailing_42 K M c1 c2 c3 n (y4 + 1)))

def f6_sailing (M : TS) (a1 : Int32) (a2 : Int32) (a3 : Int32) : Option (Int32 × TS) :=
  (f6_isShip M a1).bind fun (v1 : Int32) =>
  if v1 = 0 then
  (some ((-1 : Int32), M))
  else
  ((f6_isIn a2 (0 : Int32) (100000 : Int32)).bind fun (v3 : Int32) =>
  if v3 = 0 then
  (some ((-1 : Int32), M))
  else
  ((f6_isIn a3 (0 : Int32) (7 : Int32)).bind fun (v5 : Int32) =>
  if v5 = 0 then
  (some ((-1 : Int32), M))
  else
  (if (M 622 0) = (60 : Int32) then
  (some ((-1 : Int32), M))
  else
  (f6_sailing_42 (lt (up M 622 0 ((M 622 0) + (1 : Int32))) fun (M11 : TS) =>
  (ix (M 622 0) 60).bind fun (j12 : Nat) =>
  lt (up M11 2600 j12 a1) fun (M13 : TS) =>
  (ix (M 622 0) 60).bind fun (j14 : Nat) =>
  lt (up M13 2700 j14 a2) fun (M15 : TS) =>
  (ix (M 622 0) 60).bind fun (j16 : Nat) =>
  lt (up M15 2800 j16 a3) fun (M17 : TS) =>
  (ix (M 622 0) 60).bind fun (j18 : Nat) =>
  lt (up M17 3100 j18 (-1 : Int32)) fun (M19 : TS) =>
  (ix (M 622 0) 60).bind fun (j20 : Nat) =>
  lt (up M19 3200 j20 (-1 : Int32)) fun (M21 : TS) =>
  some ((M 622 0), M21)) M a1 a2 a3 FU (0 : Int32)))))
set_option maxRecDepth 20000 in
theorem hi6_sailing_6 : ∀ w ∈ u_ws RX6 TX6 31, w ∈ wsX6_sailing := by decide +kernel
set_option maxHeartbeats 4000000 in
set_option maxRecDepth 100000 in
theorem w6_sailing_42 {p : Program} {l : Launch} {e : Env} {s : State} {m : MethodId} {args : Array Value} {below : List Frame} {meth : Method} {c : Code} (C : MC p s m args meth c cX6_sailing (some .int) 5 RX6 wsX6_sailing) {D : va_G} {cA : Nat → ClassId} {z : Nat} {ad : Nat → Nat → Nat} {N : TN} (hK : va_K D vwCl (tysW cA) s) (hN : NW s) {S : TS} {P : TP} {M : TS} (c1 : Int32) (c2 : Int32) (c3 : Int32) {v : Int32} {M' : TS} {K : Option (Int32 × TS)}
    (hE : ∀ (H : Heap) (locs : List Loc) (ls : Array Slot), K = some (v, M') → Wd D cA z ad N S P M H → va_S (fun q => z ≤ q) s.heap H locs → lv_has ls 5 [(0, .ref (ad 6 0)), (1, .int c1), (2, .int c2), (3, .int c3)] → W p l e rm6_sailing s m args below meth c H locs 0 0 (MQ below (Qi D cA z v (ad, N, S, P, M')) args s 0 0 (fun q => z ≤ q)) (F0 m 98 ls [])) :
    ∀ (n : Nat) (y4 : Int32) (H : Heap) (locs : List Loc) (ls : Array Slot), f6_sailing_42 K M c1 c2 c3 n y4 = some (v, M') → Wd D cA z ad N S P M H → va_S (fun q => z ≤ q) s.heap H locs → lv_has ls 5 [(0, .ref (ad 6 0)), (1, .int c1), (2, .int c2), (3, .int c3), (4, .int y4)] → W p l e rm6_sailing s m args below meth c H locs 0 0 (MQ below (Qi D cA z v (ad, N, S, P, M')) args s 0 0 (fun q => z ≤ q)) (F0 m 42 ls []) := by
  obtain ⟨hx, hb, hr, hml, hown, hts, hlk⟩ := id C
  intro n
  induction n with
  | zero => intro y4 H locs ls hF; cases hF
  | succ n ih =>
    intro y4 H locs ls hF hW hS hl
    rw [f6_sailing_42] at hF
    refine lv_iload hx hb dX6_sailing_42 (lv_at hl 4 rfl) ?_
    refine lv_aload_n hx hb dX6_sailing_44 rfl (lv_at hl 0 rfl) ?_
    refine g6_22 hx hb hts hi6_sailing_6 hown hK hW (hts (.fieldLink RX6 78 RX6 "sailings" "I") (by decide +kernel)) dX6_sailing_45 ?_
    refine lv_icmp_ge (tgt := 98) hx hb dX6_sailing_48 (by decide) (fun hc => ?_) (fun hc => ?_)
    · replace hF := it_t hF hc
      exact hE _ _ _ hF hW hS (lv_sub hl [0, 1, 2, 3] rfl)
    · replace hF := it_f hF hc
      refine lv_aload_n hx hb dX6_sailing_51 rfl (lv_at hl 0 rfl) ?_
      refine g6_6 hx hb hts hi6_sailing_6 hown hK hW (hts (.fieldLink RX6 29 RX6 "ship" "[I") (by decide +kernel)) dX6_sailing_52 ?_
      refine lv_iload hx hb dX6_sailing_55 (lv_at hl 4 rfl) ?_
      replace hF := ob hF
      obtain ⟨j7, ej7, hF⟩ := hF
      refine l26 hx hb hK hW ej7 dX6_sailing_57 ?_
      refine lv_iload_n hx hb dX6_sailing_58 rfl (lv_at hl 1 rfl) ?_
      refine lv_icmp_ne (tgt := 92) hx hb dX6_sailing_59 (by decide) (fun hc => ?_) (fun hc => ?_)
      · replace hF := it_f hF hc
        refine lv_iinc (v := y4 + 1) (lv' := [(4, .int (y4 + 1)), (0, .ref (ad 6 0)), (1, .int c1), (2, .int c2), (3, .int c3)]) hx hb dX6_sailing_92 hl (k := 4) rfl rfl (by decide) rfl ?_
        clear hl; intro ls hl
        refine lv_goto (tgt := 42) hx hb dX6_sailing_95 (by decide) ?_
        exact ih (y4 + 1) _ _ _ hF hW hS (lv_sub hl [1, 2, 3, 4, 0] rfl)
      · replace hF := it_t hF hc
        refine lv_aload_n hx hb dX6_sailing_62 rfl (lv_at hl 0 rfl) ?_
        refine g6_9 hx hb hts hi6_sailing_6 hown hK hW (hts (.fieldLink RX6 38 RX6 "how" "[I") (by decide +kernel)) dX6_sailing_63 ?_
        refine lv_iload hx hb dX6_sailing_66 (lv_at hl 4 rfl) ?_
        replace hF := ob hF
        obtain ⟨j8, ej8, hF⟩ := hF
        refine l29 hx hb hK hW ej8 dX6_sailing_68 ?_
        refine lv_iconst (v := (3 : Int32)) hx hb dX6_sailing_69 (by decide) ?_
        refine lv_icmp_eq (tgt := 92) hx hb dX6_sailing_70 (by decide) (fun hc => ?_) (fun hc => ?_)
        · replace hF := it_t hF hc
          refine lv_iinc (v := y4 + 1) (lv' := [(4, .int (y4 + 1)), (0, .ref (ad 6 0)), (1, .int c1), (2, .int c2), (3, .int c3)]) hx hb dX6_sailing_92 hl (k := 4) rfl rfl (by decide) rfl ?_
          clear hl; intro ls hl
          refine lv_goto (tgt := 42) hx hb dX6_sailing_95 (by decide) ?_
          exact ih (y4 + 1) _ _ _ hF hW hS (lv_sub hl [1, 2, 3, 4, 0] rfl)
        · replace hF := it_f hF hc
          refine lv_aload_n hx hb dX6_sailing_73 rfl (lv_at hl 0 rfl) ?_
          refine g6_7 hx hb hts hi6_sailing_6 hown hK hW (hts (.fieldLink RX6 32 RX6 "minute" "[I") (by decide +kernel)) dX6_sailing_74 ?_
          refine lv_iload hx hb dX6_sailing_77 (lv_at hl 4 rfl) ?_
          replace hF := ob hF
          obtain ⟨j9, ej9, hF⟩ := hF
          refine l27 hx hb hK hW ej9 dX6_sailing_79 ?_
          refine lv_iload_n hx hb dX6_sailing_80 rfl (lv_at hl 2 rfl) ?_
          refine lv_isub hx hb dX6_sailing_81 ?_
          replace hF := lt_ex hF
          obtain ⟨x10, ex10, hF⟩ := hF
          refine va_mabs hx hb (hml.trans hl.1.symm) hown (hts (.methodLink RX6 96 Lib.Math.abs.name) (by decide +kernel)) (hts (.static Lib.Math.abs.name) (by decide +kernel)) (hts (.initialized "java/lang/Math") (by decide +kernel)) (hts (.code Lib.Math.abs.name Lib.Math.abs.code 1 (some .int)) (by decide +kernel)) (Nat.le_of_ble_eq_true rfl) (Nat.le_of_ble_eq_true rfl) (Nat.le_of_ble_eq_true rfl) (Nat.le_of_ble_eq_true rfl) dX6_sailing_82 ?_
          rw [← ex10]
          refine lv_bipush (v := (90 : Int32)) hx hb dX6_sailing_85 (by decide) ?_
          refine lv_icmp_ge (tgt := 92) hx hb dX6_sailing_87 (by decide) (fun hc => ?_) (fun hc => ?_)
          · replace hF := it_t hF hc
            refine lv_iinc (v := y4 + 1) (lv' := [(4, .int (y4 + 1)), (0, .ref (ad 6 0)), (1, .int c1), (2, .int c2), (3, .int c3)]) hx hb dX6_sailing_92 hl (k := 4) rfl rfl (by decide) rfl ?_
            clear hl; intro ls hl
            refine lv_goto (tgt := 42) hx hb dX6_sailing_95 (by decide) ?_
            exact ih (y4 + 1) _ _ _ hF hW hS (lv_sub hl [1, 2, 3, 4, 0] rfl)
          · replace hF := it_f hF hc
            refine lv_iconst (v := (-1 : Int32)) hx hb dX6_sailing_90 (by decide) ?_
            obtain ⟨hq1, hq2⟩ := Prod.mk.inj (Option.some.inj hF)
            subst hq1
            subst hq2
            exact e_i hx hb hr hlk hK hN hW hS dX6_sailing_91

set_option maxHeartbeats 4000000 in
set_option maxRecDepth 100000 in
theorem w6_sailing {p : Program} {l : Launch} {e : Env} {s : State} {m : MethodId} {args : Array Value} {below : List Frame} {meth : Method} {c : Code} (C : MC p s m args meth c cX6_sailing (some .int) 5 RX6 wsX6_sailing) {D : va_G} {cA : Nat → ClassId} {z : Nat} {ad : Nat → Nat → Nat} {N : TN} (hK : va_K D vwCl (tysW cA) s) (hN : NW s) {S : TS} {P : TP} {M : TS} (a1 : Int32) (a2 : Int32) (a3 : Int32) {v : Int32} {M' : TS} (hF : f6_sailing M a1 a2 a3 = some (v, M'))
    {H : Heap} {ls : Array Slot} (hW : Wd D cA z ad N S P M H) {locs : List Loc} (hS : va_S (fun q => z ≤ q) s.heap H locs) (hl : lv_has ls 5 [(0, .ref (ad 6 0)), (1, .int a1), (2, .int a2), (3, .int a3)]) : W p l e rm6_sailing s m args below meth c H locs 0 0 (MQ below (Qi D cA z v (ad, N, S, P, M')) args s 0 0 (fun q => z ≤ q)) (F0 m 0 ls []) := by
  obtain ⟨hx, hb, hr, hml, hown, hts, hlk⟩ := id C
  unfold f6_sailing at hF
  refine lv_aload_n hx hb dX6_sailing_0 rfl (lv_at hl 0 rfl) ?_
  refine lv_iload_n hx hb dX6_sailing_1 rfl (lv_at hl 1 rfl) ?_
  replace hF := ob hF
  obtain ⟨v1, q2, hF⟩ := hF
  refine k_i (va_runV (As := [.int a1]) (rest := []) ⟨hx, hb, hml, hown, hts⟩ (c6_isShip l a1 q2) (cwV 1 hts gX6_sailing_X6_isShip rfl rfl rfl (by decide +kernel) ⟨Nat.le_of_ble_eq_true rfl, Nat.le_of_ble_eq_true rfl⟩) (k_preV hW hK hN (hW.fx 6 rfl) (EE_6 cA ad S P M 0) rfl) rfl rfl hl.1 rfl (lv_room (Nat.le_of_ble_eq_true rfl)) dX6_sailing_2 ⟨Nat.le_of_ble_eq_true rfl, Nat.le_of_ble_eq_true rfl⟩) hS ?_
  clear hW hS; intro H locs hW hS
  refine lv_if_eq (tgt := 37) hx hb dX6_sailing_5 (by decide) (fun hc => ?_) (fun hc => ?_)
  · replace hF := it_t hF hc
    refine lv_iconst (v := (-1 : Int32)) hx hb dX6_sailing_37 (by decide) ?_
    obtain ⟨hq1, hq2⟩ := Prod.mk.inj (Option.some.inj hF)
    subst hq1
    subst hq2
    exact e_i hx hb hr hlk hK hN hW hS dX6_sailing_38
  · replace hF := it_f hF hc
    refine lv_iload_n hx hb dX6_sailing_8 rfl (lv_at hl 2 rfl) ?_
    refine lv_iconst (v := (0 : Int32)) hx hb dX6_sailing_9 (by decide) ?_
    refine lv_ldc (v := (100000 : Int32)) hx hb hown (hts (.constant RX6 95 (100000)) (by decide +kernel)) dX6_sailing_10 ?_
    replace hF := ob hF
    obtain ⟨v3, q4, hF⟩ := hF
    refine k_i (va_runS (As := [.int a2, .int (0 : Int32), .int (100000 : Int32)]) (rest := []) ⟨hx, hb, hml, hown, hts⟩ (c6_isIn l a2 (0 : Int32) (100000 : Int32) q4) (va_cwS 3 hts gX6_sailing_X6_isIn rfl rfl rfl (by decide +kernel) ⟨Nat.le_of_ble_eq_true rfl, Nat.le_of_ble_eq_true rfl⟩) (k_preS hW hK hN) rfl rfl hl.1 rfl (lv_room (Nat.le_of_ble_eq_true rfl)) dX6_sailing_12 ⟨Nat.le_of_ble_eq_true rfl, Nat.le_of_ble_eq_true rfl⟩) hS ?_
    clear hW hS; intro H locs hW hS
    refine lv_if_eq (tgt := 37) hx hb dX6_sailing_15 (by decide) (fun hc => ?_) (fun hc => ?_)
    · replace hF := it_t hF hc
      refine lv_iconst (v := (-1 : Int32)) hx hb dX6_sailing_37 (by decide) ?_
      obtain ⟨hq1, hq2⟩ := Prod.mk.inj (Option.some.inj hF)
      subst hq1
      subst hq2
      exact e_i hx hb hr hlk hK hN hW hS dX6_sailing_38
    · replace hF := it_f hF hc
      refine lv_iload_n hx hb dX6_sailing_18 rfl (lv_at hl 3 rfl) ?_
      refine lv_iconst (v := (0 : Int32)) hx hb dX6_sailing_19 (by decide) ?_
      refine lv_bipush (v := (7 : Int32)) hx hb dX6_sailing_20 (by decide) ?_
      replace hF := ob hF
      obtain ⟨v5, q6, hF⟩ := hF
      refine k_i (va_runS (As := [.int a3, .int (0 : Int32), .int (7 : Int32)]) (rest := []) ⟨hx, hb, hml, hown, hts⟩ (c6_isIn l a3 (0 : Int32) (7 : Int32) q6) (va_cwS 3 hts gX6_sailing_X6_isIn rfl rfl rfl (by decide +kernel) ⟨Nat.le_of_ble_eq_true rfl, Nat.le_of_ble_eq_true rfl⟩) (k_preS hW hK hN) rfl rfl hl.1 rfl (lv_room (Nat.le_of_ble_eq_true rfl)) dX6_sailing_22 ⟨Nat.le_of_ble_eq_true rfl, Nat.le_of_ble_eq_true rfl⟩) hS ?_
      clear hW hS; intro H locs hW hS
      refine lv_if_eq (tgt := 37) hx hb dX6_sailing_25 (by decide) (fun hc => ?_) (fun hc => ?_)
      · replace hF := it_t hF hc
        refine lv_iconst (v := (-1 : Int32)) hx hb dX6_sailing_37 (by decide) ?_
        obtain ⟨hq1, hq2⟩ := Prod.mk.inj (Option.some.inj hF)
        subst hq1
        subst hq2
        exact e_i hx hb hr hlk hK hN hW hS dX6_sailing_38
      · replace hF := it_f hF hc
        refine lv_aload_n hx hb dX6_sailing_28 rfl (lv_at hl 0 rfl) ?_
        refine g6_22 hx hb hts hi6_sailing_6 hown hK hW (hts (.fieldLink RX6 78 RX6 "sailings" "I") (by decide +kernel)) dX6_sailing_29 ?_
        refine lv_bipush (v := (60 : Int32)) hx hb dX6_sailing_32 (by decide) ?_
        refine lv_icmp_ne (tgt := 39) hx hb dX6_sailing_34 (by decide) (fun hc => ?_) (fun hc => ?_)
        · replace hF := it_f hF hc
          refine lv_iconst (v := (0 : Int32)) hx hb dX6_sailing_39 (by decide) ?_
          refine lv_istore (lv' := [(4, .int (0 : Int32)), (0, .ref (ad 6 0)), (1, .int a1), (2, .int a2), (3, .int a3)]) hx hb dX6_sailing_40 hl (by decide) rfl ?_
          clear hl; intro ls hl
          refine w6_sailing_42 C hK hN a1 a2 a3 (hE := ?_) FU (0 : Int32) _ _ _ hF hW hS (lv_sub hl [1, 2, 3, 4, 0] rfl)
          intro  H locs ls hF hW hS hl
          refine lv_aload_n hx hb dX6_sailing_98 rfl (lv_at hl 0 rfl) ?_
          refine g6_22 hx hb hts hi6_sailing_6 hown hK hW (hts (.fieldLink RX6 78 RX6 "sailings" "I") (by decide +kernel)) dX6_sailing_99 ?_
          refine lv_istore (lv' := [(4, .int (M 622 0)), (0, .ref (ad 6 0)), (1, .int a1), (2, .int a2), (3, .int a3)]) hx hb dX6_sailing_102 hl (by decide) rfl ?_
          clear hl; intro ls hl
          refine lv_aload_n hx hb dX6_sailing_104 rfl (lv_at hl 1 rfl) ?_
          refine lv_dup hx hb dX6_sailing_105 rfl ?_
          refine g6_22 hx hb hts hi6_sailing_6 hown hK hW (hts (.fieldLink RX6 78 RX6 "sailings" "I") (by decide +kernel)) dX6_sailing_106 ?_
          refine lv_iconst (v := (1 : Int32)) hx hb dX6_sailing_109 (by decide) ?_
          refine lv_iadd hx hb dX6_sailing_110 ?_
          replace hF := lt_ex hF
          obtain ⟨M11, eM11, hF⟩ := hF
          refine p6_22 hx hb hts hi6_sailing_6 hown hK hW hS eM11 (hts (.fieldLink RX6 78 RX6 "sailings" "I") (by decide +kernel)) dX6_sailing_111 ?_
          clear hW hS; intro H locs hW hS
          refine lv_aload_n hx hb dX6_sailing_114 rfl (lv_at hl 1 rfl) ?_
          refine g6_6 hx hb hts hi6_sailing_6 hown hK hW (hts (.fieldLink RX6 29 RX6 "ship" "[I") (by decide +kernel)) dX6_sailing_115 ?_
          refine lv_iload hx hb dX6_sailing_118 (lv_at hl 0 rfl) ?_
          refine lv_iload_n hx hb dX6_sailing_120 rfl (lv_at hl 2 rfl) ?_
          replace hF := ob hF
          obtain ⟨j12, ej12, hF⟩ := hF
          replace hF := lt_ex hF
          obtain ⟨M13, eM13, hF⟩ := hF
          refine t26 hx hb hK hW hS ej12 eM13 dX6_sailing_121 ?_
          clear hW hS; intro H locs hW hS
          refine lv_aload_n hx hb dX6_sailing_122 rfl (lv_at hl 1 rfl) ?_
          refine g6_7 hx hb hts hi6_sailing_6 hown hK hW (hts (.fieldLink RX6 32 RX6 "minute" "[I") (by decide +kernel)) dX6_sailing_123 ?_
          refine lv_iload hx hb dX6_sailing_126 (lv_at hl 0 rfl) ?_
          refine lv_iload_n hx hb dX6_sailing_128 rfl (lv_at hl 3 rfl) ?_
          replace hF := ob hF
          obtain ⟨j14, ej14, hF⟩ := hF
          replace hF := lt_ex hF
          obtain ⟨M15, eM15, hF⟩ := hF
          refine t27 hx hb hK hW hS ej14 eM15 dX6_sailing_129 ?_
          clear hW hS; intro H locs hW hS
          refine lv_aload_n hx hb dX6_sailing_130 rfl (lv_at hl 1 rfl) ?_
          refine g6_8 hx hb hts hi6_sailing_6 hown hK hW (hts (.fieldLink RX6 35 RX6 "line" "[I") (by decide +kernel)) dX6_sailing_131 ?_
          refine lv_iload hx hb dX6_sailing_134 (lv_at hl 0 rfl) ?_
          refine lv_iload_n hx hb dX6_sailing_136 rfl (lv_at hl 4 rfl) ?_
          replace hF := ob hF
          obtain ⟨j16, ej16, hF⟩ := hF
          replace hF := lt_ex hF
          obtain ⟨M17, eM17, hF⟩ := hF
          refine t28 hx hb hK hW hS ej16 eM17 dX6_sailing_137 ?_
          clear hW hS; intro H locs hW hS
          refine lv_aload_n hx hb dX6_sailing_138 rfl (lv_at hl 1 rfl) ?_
          refine g6_11 hx hb hts hi6_sailing_6 hown hK hW (hts (.fieldLink RX6 44 RX6 "recall" "[I") (by decide +kernel)) dX6_sailing_139 ?_
          refine lv_iload hx hb dX6_sailing_142 (lv_at hl 0 rfl) ?_
          refine lv_iconst (v := (-1 : Int32)) hx hb dX6_sailing_144 (by decide) ?_
          replace hF := ob hF
          obtain ⟨j18, ej18, hF⟩ := hF
          replace hF := lt_ex hF
          obtain ⟨M19, eM19, hF⟩ := hF
          refine t31 hx hb hK hW hS ej18 eM19 dX6_sailing_145 ?_
          clear hW hS; intro H locs hW hS
          refine lv_aload_n hx hb dX6_sailing_146 rfl (lv_at hl 1 rfl) ?_
          refine g6_12 hx hb hts hi6_sailing_6 hown hK hW (hts (.fieldLink RX6 47 RX6 "begun" "[I") (by decide +kernel)) dX6_sailing_147 ?_
          refine lv_iload hx hb dX6_sailing_150 (lv_at hl 0 rfl) ?_
          refine lv_iconst (v := (-1 : Int32)) hx hb dX6_sailing_152 (by decide) ?_
          replace hF := ob hF
          obtain ⟨j20, ej20, hF⟩ := hF
          replace hF := lt_ex hF
          obtain ⟨M21, eM21, hF⟩ := hF
          refine t32 hx hb hK hW hS ej20 eM21 dX6_sailing_153 ?_
          clear hW hS; intro H locs hW hS
          refine lv_iload hx hb dX6_sailing_154 (lv_at hl 0 rfl) ?_
          obtain ⟨hq1, hq2⟩ := Prod.mk.inj (Option.some.inj hF)
          subst hq1
          subst hq2
          exact e_i hx hb hr hlk hK hN hW hS dX6_sailing_156
        · replace hF := it_t hF hc
          refine lv_iconst (v := (-1 : Int32)) hx hb dX6_sailing_37 (by decide) ?_
          obtain ⟨hq1, hq2⟩ := Prod.mk.inj (Option.some.inj hF)
          subst hq1
          subst hq2
          exact e_i hx hb hr hlk hK hN hW hS dX6_sailing_38

set_option maxHeartbeats 4000000 in
set_option maxRecDepth 100000 in
theorem c6_sailing (l : Launch) {D : va_G} {cA : Nat → ClassId} {z : Nat} {ad : Nat → Nat → Nat} {N : TN} {S : TS} {P : TP} {M : TS} (a1 : Int32) (a2 : Int32) (a3 : Int32) {v : Int32} {M' : TS} (hF : f6_sailing M a1 a2 a3 = some (v, M')) : Met l yX6_sailing wsX6_sailing rm6_sailing (va_Pc [.ref (ad 6 0), .int a1, .int a2, .int a3] (Wl D cA z (ad, N, S, P, M))) (Qi D cA z v (ad, N, S, P, M')) 0 0 (fun q => z ≤ q) := by
  refine Met.ofW (cc := cX6_sailing) (maxL := 5) (ret := (some .int)) (by decide) rfl ?_
  intro p e s m args below meth c s₁ B hml hv
  obtain ⟨rfl, hW, hK, hN⟩ := hv
  have hl := lv_entry ([.ref (ad 6 0), .int a1, .int a2, .int a3]) (n := 5) (Nat.le_of_ble_eq_true rfl)
  rw [lg_entry_eq]
  generalize (lg_sl ([.ref (ad 6 0), .int a1, .int a2, .int a3]) ++ List.replicate (5 - (lg_sl ([.ref (ad 6 0), .int a1, .int a2, .int a3])).length) Slot.unset).toArray = ls at hl ⊢
  exact w6_sailing ⟨B.exec, B.bytes, B.returns, hml, findClass_of_methodNamed B.named, atoms_spec (ws := wsX6_sailing) B.pre, B.notSynchronized⟩ hK hN a1 a2 a3 hF hW va_S.rf hl

-- 6 sailingOf
abbrev rm6_sailingOf : Room := { frames := 1, cells := 0, slots := 0, locals := 22 }
def f6_sailingOf_99 (K : Int32 → Option (Int32)) (M : TS) (c1 : Int32) : Nat → Int32 → Int32 → Option (Int32)
  | 0, _, _ => none
  | n + 1, y3, y4 =>
    if (M 623 0) ≤ y4 then
    (K y3)
    else
    ((f6_of M y4 (0 : Int32)).bind fun (v9 : Int32) =>
    lt (if v9 = c1 then (1 : Int32) else (0 : Int32)) fun (x11 : Int32) =>
    f6_sailingOf_99 K M c1 n (y3 + x11) (y4 + 1))

def f6_sailingOf (M : TS) (a1 : Int32) (a2 : Int32) : Option (Int32) :=
  (f6_isSailing M a1).bind fun (v1 : Int32) =>
  if v1 = 0 then
  (some (-1 : Int32))
  else
  (if a2 = 0 then
  ((ix a1 60).bind fun (j3 : Nat) =>
  some (M 2600 j3))
  else
  (if a2 = 1 then
  ((ix a1 60).bind fun (j4 : Nat) =>
  some (M 2700 j4))
  else
  (if a2 = 2 then
  ((ix a1 60).bind fun (j5 : Nat) =>
  some (M 2800 j5))
  else
  (if a2 = 3 then
  ((ix a1 60).bind fun (j6 : Nat) =>
  some (M 2900 j6))
  else
  (if a2 = 4 then
  ((ix a1 60).bind fun (j7 : Nat) =>
  some (M 3000 j7))
  else
  (if a2 = 5 then
  ((ix a1 60).bind fun (j8 : Nat) =>
  some (M 3100 j8))
  else
  (if a2 = 6 then
  (f6_sailingOf_99 (fun (w12 : Int32) =>
  some w12) M a1 FU (0 : Int32) (0 : Int32))
  else
  (some (-1 : Int32)))))))))
set_option maxRecDepth 20000 in
theorem hi6_sailingOf_6 : ∀ w ∈ u_ws RX6 TX6 31, w ∈ wsX6_sailingOf := by decide +kernel
set_option maxHeartbeats 4000000 in
set_option maxRecDepth 100000 in
theorem w6_sailingOf_99 {p : Program} {l : Launch} {e : Env} {s : State} {m : MethodId} {args : Array Value} {below : List Frame} {meth : Method} {c : Code} (C : MC p s m args meth c cX6_sailingOf (some .int) 5 RX6 wsX6_sailingOf) {D : va_G} {cA : Nat → ClassId} {z : Nat} {ad : Nat → Nat → Nat} {N : TN} (hK : va_K D vwCl (tysW cA) s) (hN : NW s) {S : TS} {P : TP} {M : TS} (c1 : Int32) {v : Int32} {K : Int32 → Option (Int32)}
    (hE : ∀ (e3 : Int32) (H : Heap) (locs : List Loc) (ls : Array Slot), K e3 = some v → Wd D cA z ad N S P M H → va_S (fun q => z ≤ q) s.heap H locs → lv_has ls 5 [(3, .int e3)] → W p l e rm6_sailingOf s m args below meth c H locs 0 0 (MQ below (Qi D cA z v (ad, N, S, P, M)) args s 0 0 (fun q => z ≤ q)) (F0 m 133 ls [])) :
    ∀ (n : Nat) (y3 : Int32) (y4 : Int32) (H : Heap) (locs : List Loc) (ls : Array Slot), f6_sailingOf_99 K M c1 n y3 y4 = some v → Wd D cA z ad N S P M H → va_S (fun q => z ≤ q) s.heap H locs → lv_has ls 5 [(0, .ref (ad 6 0)), (1, .int c1), (3, .int y3), (4, .int y4)] → W p l e rm6_sailingOf s m args below meth c H locs 0 0 (MQ below (Qi D cA z v (ad, N, S, P, M)) args s 0 0 (fun q => z ≤ q)) (F0 m 99 ls []) := by
  obtain ⟨hx, hb, hr, hml, hown, hts, hlk⟩ := id C
  intro n
  induction n with
  | zero => intro y3 y4 H locs ls hF; cases hF
  | succ n ih =>
    intro y3 y4 H locs ls hF hW hS hl
    rw [f6_sailingOf_99] at hF
    refine lv_iload hx hb dX6_sailingOf_99 (lv_at hl 3 rfl) ?_
    refine lv_aload_n hx hb dX6_sailingOf_101 rfl (lv_at hl 0 rfl) ?_
    refine g6_23 hx hb hts hi6_sailingOf_6 hown hK hW (hts (.fieldLink RX6 74 RX6 "tickets" "I") (by decide +kernel)) dX6_sailingOf_102 ?_
    refine lv_icmp_ge (tgt := 133) hx hb dX6_sailingOf_105 (by decide) (fun hc => ?_) (fun hc => ?_)
    · replace hF := it_t hF hc
      exact hE y3 _ _ _ hF hW hS (lv_sub hl [2] rfl)
    · replace hF := it_f hF hc
      refine lv_iload_n hx hb dX6_sailingOf_108 rfl (lv_at hl 2 rfl) ?_
      refine lv_aload_n hx hb dX6_sailingOf_109 rfl (lv_at hl 0 rfl) ?_
      refine lv_iload hx hb dX6_sailingOf_110 (lv_at hl 3 rfl) ?_
      refine lv_iconst (v := (0 : Int32)) hx hb dX6_sailingOf_112 (by decide) ?_
      replace hF := ob hF
      obtain ⟨v9, q10, hF⟩ := hF
      refine k_i (va_runV (As := [.int y4, .int (0 : Int32)]) (rest := [.int y3]) ⟨hx, hb, hml, hown, hts⟩ (c6_of l y4 (0 : Int32) q10) (cwV 2 hts gX6_sailingOf_X6_of rfl rfl rfl (by decide +kernel) ⟨Nat.le_of_ble_eq_true rfl, Nat.le_of_ble_eq_true rfl⟩) (k_preV hW hK hN (hW.fx 6 rfl) (EE_6 cA ad S P M 0) rfl) rfl rfl hl.1 rfl (lv_room (Nat.le_of_ble_eq_true rfl)) dX6_sailingOf_113 ⟨Nat.le_of_ble_eq_true rfl, Nat.le_of_ble_eq_true rfl⟩) hS ?_
      clear hW hS; intro H locs hW hS
      refine lv_iload_n hx hb dX6_sailingOf_116 rfl (lv_at hl 1 rfl) ?_
      replace hF := lt_ex hF
      obtain ⟨x11, ex11, hF⟩ := hF
      have hJ : W p l e rm6_sailingOf s m args below meth c H locs 0 0 (MQ below (Qi D cA z v (ad, N, S, P, M)) args s 0 0 (fun q => z ≤ q)) (F0 m 125 ls [.int x11, .int y3]) := by
        refine lv_iadd hx hb dX6_sailingOf_125 ?_
        refine lv_istore_n (lv' := [(3, .int (y3 + x11)), (0, .ref (ad 6 0)), (1, .int c1), (4, .int y4)]) hx hb dX6_sailingOf_126 rfl hl (by decide) rfl ?_
        clear hl; intro ls hl
        refine lv_iinc (v := y4 + 1) (lv' := [(4, .int (y4 + 1)), (3, .int (y3 + x11)), (0, .ref (ad 6 0)), (1, .int c1)]) hx hb dX6_sailingOf_127 hl (k := 3) rfl rfl (by decide) rfl ?_
        clear hl; intro ls hl
        refine lv_goto (tgt := 99) hx hb dX6_sailingOf_130 (by decide) ?_
        exact ih (y3 + x11) (y4 + 1) _ _ _ hF hW hS (lv_sub hl [2, 3, 1, 0] rfl)
      refine lv_icmp_ne (tgt := 124) hx hb dX6_sailingOf_117 (by decide) (fun hc => ?_) (fun hc => ?_)
      · refine lv_iconst (v := (0 : Int32)) hx hb dX6_sailingOf_124 (by decide) ?_
        exact W.eq (by rw [ex11, if_neg hc]) hJ
      · refine lv_iconst (v := (1 : Int32)) hx hb dX6_sailingOf_120 (by decide) ?_
        refine lv_goto (tgt := 125) hx hb dX6_sailingOf_121 (by decide) ?_
        exact W.eq (by rw [ex11, if_pos hc]) hJ

set_option maxHeartbeats 4000000 in
set_option maxRecDepth 100000 in
theorem w6_sailingOf {p : Program} {l : Launch} {e : Env} {s : State} {m : MethodId} {args : Array Value} {below : List Frame} {meth : Method} {c : Code} (C : MC p s m args meth c cX6_sailingOf (some .int) 5 RX6 wsX6_sailingOf) {D : va_G} {cA : Nat → ClassId} {z : Nat} {ad : Nat → Nat → Nat} {N : TN} (hK : va_K D vwCl (tysW cA) s) (hN : NW s) {S : TS} {P : TP} {M : TS} (a1 : Int32) (a2 : Int32) {v : Int32} (hF : f6_sailingOf M a1 a2 = some v)
    {H : Heap} {ls : Array Slot} (hW : Wd D cA z ad N S P M H) {locs : List Loc} (hS : va_S (fun q => z ≤ q) s.heap H locs) (hl : lv_has ls 5 [(0, .ref (ad 6 0)), (1, .int a1), (2, .int a2)]) : W p l e rm6_sailingOf s m args below meth c H locs 0 0 (MQ below (Qi D cA z v (ad, N, S, P, M)) args s 0 0 (fun q => z ≤ q)) (F0 m 0 ls []) := by
  obtain ⟨hx, hb, hr, hml, hown, hts, hlk⟩ := id C
  unfold f6_sailingOf at hF
  refine lv_aload_n hx hb dX6_sailingOf_0 rfl (lv_at hl 0 rfl) ?_
  refine lv_iload_n hx hb dX6_sailingOf_1 rfl (lv_at hl 1 rfl) ?_
  replace hF := ob hF
  obtain ⟨v1, q2, hF⟩ := hF
  refine k_i (va_runV (As := [.int a1]) (rest := []) ⟨hx, hb, hml, hown, hts⟩ (c6_isSailing l a1 q2) (cwV 1 hts gX6_sailingOf_X6_isSailing rfl rfl rfl (by decide +kernel) ⟨Nat.le_of_ble_eq_true rfl, Nat.le_of_ble_eq_true rfl⟩) (k_preV hW hK hN (hW.fx 6 rfl) (EE_6 cA ad S P M 0) rfl) rfl rfl hl.1 rfl (lv_room (Nat.le_of_ble_eq_true rfl)) dX6_sailingOf_2 ⟨Nat.le_of_ble_eq_true rfl, Nat.le_of_ble_eq_true rfl⟩) hS ?_
  clear hW hS; intro H locs hW hS
  refine lv_if_ne (tgt := 10) hx hb dX6_sailingOf_5 (by decide) (fun hc => ?_) (fun hc => ?_)
  · replace hF := it_f hF hc
    refine lv_iload_n hx hb dX6_sailingOf_10 rfl (lv_at hl 2 rfl) ?_
    by_cases hn0 : a2 = 0
    · replace hF := it_t hF hn0
      refine lv_tableIn (off := 41) (tgt := 52) hx hb dX6_sailingOf_11 (by rw [hn0]; decide) (by rw [hn0]; decide) (by rw [hn0]; rfl) (by decide) ?_
      refine lv_aload_n hx hb dX6_sailingOf_52 rfl (lv_at hl 0 rfl) ?_
      refine g6_6 hx hb hts hi6_sailingOf_6 hown hK hW (hts (.fieldLink RX6 29 RX6 "ship" "[I") (by decide +kernel)) dX6_sailingOf_53 ?_
      refine lv_iload_n hx hb dX6_sailingOf_56 rfl (lv_at hl 1 rfl) ?_
      replace hF := ob hF
      obtain ⟨j3, ej3, hF⟩ := hF
      refine l26 hx hb hK hW ej3 dX6_sailingOf_57 ?_
      have hq1 := Option.some.inj hF
      subst hq1
      exact e_i hx hb hr hlk hK hN hW hS dX6_sailingOf_58
    · replace hF := it_f hF hn0
      by_cases hn1 : a2 = 1
      · replace hF := it_t hF hn1
        refine lv_tableIn (off := 48) (tgt := 59) hx hb dX6_sailingOf_11 (by rw [hn1]; decide) (by rw [hn1]; decide) (by rw [hn1]; rfl) (by decide) ?_
        refine lv_aload_n hx hb dX6_sailingOf_59 rfl (lv_at hl 0 rfl) ?_
        refine g6_7 hx hb hts hi6_sailingOf_6 hown hK hW (hts (.fieldLink RX6 32 RX6 "minute" "[I") (by decide +kernel)) dX6_sailingOf_60 ?_
        refine lv_iload_n hx hb dX6_sailingOf_63 rfl (lv_at hl 1 rfl) ?_
        replace hF := ob hF
        obtain ⟨j4, ej4, hF⟩ := hF
        refine l27 hx hb hK hW ej4 dX6_sailingOf_64 ?_
        have hq1 := Option.some.inj hF
        subst hq1
        exact e_i hx hb hr hlk hK hN hW hS dX6_sailingOf_65
      · replace hF := it_f hF hn1
        by_cases hn2 : a2 = 2
        · replace hF := it_t hF hn2
          refine lv_tableIn (off := 55) (tgt := 66) hx hb dX6_sailingOf_11 (by rw [hn2]; decide) (by rw [hn2]; decide) (by rw [hn2]; rfl) (by decide) ?_
          refine lv_aload_n hx hb dX6_sailingOf_66 rfl (lv_at hl 0 rfl) ?_
          refine g6_8 hx hb hts hi6_sailingOf_6 hown hK hW (hts (.fieldLink RX6 35 RX6 "line" "[I") (by decide +kernel)) dX6_sailingOf_67 ?_
          refine lv_iload_n hx hb dX6_sailingOf_70 rfl (lv_at hl 1 rfl) ?_
          replace hF := ob hF
          obtain ⟨j5, ej5, hF⟩ := hF
          refine l28 hx hb hK hW ej5 dX6_sailingOf_71 ?_
          have hq1 := Option.some.inj hF
          subst hq1
          exact e_i hx hb hr hlk hK hN hW hS dX6_sailingOf_72
        · replace hF := it_f hF hn2
          by_cases hn3 : a2 = 3
          · replace hF := it_t hF hn3
            refine lv_tableIn (off := 62) (tgt := 73) hx hb dX6_sailingOf_11 (by rw [hn3]; decide) (by rw [hn3]; decide) (by rw [hn3]; rfl) (by decide) ?_
            refine lv_aload_n hx hb dX6_sailingOf_73 rfl (lv_at hl 0 rfl) ?_
            refine g6_9 hx hb hts hi6_sailingOf_6 hown hK hW (hts (.fieldLink RX6 38 RX6 "how" "[I") (by decide +kernel)) dX6_sailingOf_74 ?_
            refine lv_iload_n hx hb dX6_sailingOf_77 rfl (lv_at hl 1 rfl) ?_
            replace hF := ob hF
            obtain ⟨j6, ej6, hF⟩ := hF
            refine l29 hx hb hK hW ej6 dX6_sailingOf_78 ?_
            have hq1 := Option.some.inj hF
            subst hq1
            exact e_i hx hb hr hlk hK hN hW hS dX6_sailingOf_79
          · replace hF := it_f hF hn3
            by_cases hn4 : a2 = 4
            · replace hF := it_t hF hn4
              refine lv_tableIn (off := 69) (tgt := 80) hx hb dX6_sailingOf_11 (by rw [hn4]; decide) (by rw [hn4]; decide) (by rw [hn4]; rfl) (by decide) ?_
              refine lv_aload_n hx hb dX6_sailingOf_80 rfl (lv_at hl 0 rfl) ?_
              refine g6_10 hx hb hts hi6_sailingOf_6 hown hK hW (hts (.fieldLink RX6 41 RX6 "done" "[I") (by decide +kernel)) dX6_sailingOf_81 ?_
              refine lv_iload_n hx hb dX6_sailingOf_84 rfl (lv_at hl 1 rfl) ?_
              replace hF := ob hF
              obtain ⟨j7, ej7, hF⟩ := hF
              refine l30 hx hb hK hW ej7 dX6_sailingOf_85 ?_
              have hq1 := Option.some.inj hF
              subst hq1
              exact e_i hx hb hr hlk hK hN hW hS dX6_sailingOf_86
            · replace hF := it_f hF hn4
              by_cases hn5 : a2 = 5
              · replace hF := it_t hF hn5
                refine lv_tableIn (off := 76) (tgt := 87) hx hb dX6_sailingOf_11 (by rw [hn5]; decide) (by rw [hn5]; decide) (by rw [hn5]; rfl) (by decide) ?_
                refine lv_aload_n hx hb dX6_sailingOf_87 rfl (lv_at hl 0 rfl) ?_
                refine g6_11 hx hb hts hi6_sailingOf_6 hown hK hW (hts (.fieldLink RX6 44 RX6 "recall" "[I") (by decide +kernel)) dX6_sailingOf_88 ?_
                refine lv_iload_n hx hb dX6_sailingOf_91 rfl (lv_at hl 1 rfl) ?_
                replace hF := ob hF
                obtain ⟨j8, ej8, hF⟩ := hF
                refine l31 hx hb hK hW ej8 dX6_sailingOf_92 ?_
                have hq1 := Option.some.inj hF
                subst hq1
                exact e_i hx hb hr hlk hK hN hW hS dX6_sailingOf_93
              · replace hF := it_f hF hn5
                by_cases hn6 : a2 = 6
                · replace hF := it_t hF hn6
                  refine lv_tableIn (off := 83) (tgt := 94) hx hb dX6_sailingOf_11 (by rw [hn6]; decide) (by rw [hn6]; decide) (by rw [hn6]; rfl) (by decide) ?_
                  refine lv_iconst (v := (0 : Int32)) hx hb dX6_sailingOf_94 (by decide) ?_
                  refine lv_istore_n (lv' := [(3, .int (0 : Int32)), (0, .ref (ad 6 0)), (1, .int a1), (2, .int a2)]) hx hb dX6_sailingOf_95 rfl hl (by decide) rfl ?_
                  clear hl; intro ls hl
                  refine lv_iconst (v := (0 : Int32)) hx hb dX6_sailingOf_96 (by decide) ?_
                  refine lv_istore (lv' := [(4, .int (0 : Int32)), (3, .int (0 : Int32)), (0, .ref (ad 6 0)), (1, .int a1), (2, .int a2)]) hx hb dX6_sailingOf_97 hl (by decide) rfl ?_
                  clear hl; intro ls hl
                  refine w6_sailingOf_99 C hK hN a1 (hE := ?_) FU (0 : Int32) (0 : Int32) _ _ _ hF hW hS (lv_sub hl [2, 3, 1, 0] rfl)
                  intro w12 H locs ls hF hW hS hl
                  refine lv_iload_n hx hb dX6_sailingOf_133 rfl (lv_at hl 0 rfl) ?_
                  have hq1 := Option.some.inj hF
                  subst hq1
                  exact e_i hx hb hr hlk hK hN hW hS dX6_sailingOf_134
                · replace hF := it_f hF hn6
                  have hq0 := sw_ne hn0 (n := 0) (by decide)
                  have hq1 := sw_ne hn1 (n := 1) (by decide)
                  have hq2 := sw_ne hn2 (n := 2) (by decide)
                  have hq3 := sw_ne hn3 (n := 3) (by decide)
                  have hq4 := sw_ne hn4 (n := 4) (by decide)
                  have hq5 := sw_ne hn5 (n := 5) (by decide)
                  have hq6 := sw_ne hn6 (n := 6) (by decide)
                  refine lv_tableOut (tgt := 135) hx hb dX6_sailingOf_11 (by omega) (by decide) ?_
                  refine lv_iconst (v := (-1 : Int32)) hx hb dX6_sailingOf_135 (by decide) ?_
                  have hq1 := Option.some.inj hF
                  subst hq1
                  exact e_i hx hb hr hlk hK hN hW hS dX6_sailingOf_136
  · replace hF := it_t hF hc
    refine lv_iconst (v := (-1 : Int32)) hx hb dX6_sailingOf_8 (by decide) ?_
    have hq1 := Option.some.inj hF
    subst hq1
    exact e_i hx hb hr hlk hK hN hW hS dX6_sailingOf_9

set_option maxHeartbeats 4000000 in
set_option maxRecDepth 100000 in
theorem c6_sailingOf (l : Launch) {D : va_G} {cA : Nat → ClassId} {z : Nat} {ad : Nat → Nat → Nat} {N : TN} {S : TS} {P : TP} {M : TS} (a1 : Int32) (a2 : Int32) {v : Int32} (hF : f6_sailingOf M a1 a2 = some v) : Met l yX6_sailingOf wsX6_sailingOf rm6_sailingOf (va_Pc [.ref (ad 6 0), .int a1, .int a2] (Wl D cA z (ad, N, S, P, M))) (Qi D cA z v (ad, N, S, P, M)) 0 0 (fun q => z ≤ q) := by
  refine Met.ofW (cc := cX6_sailingOf) (maxL := 5) (ret := (some .int)) (by decide) rfl ?_
  intro p e s m args below meth c s₁ B hml hv
  obtain ⟨rfl, hW, hK, hN⟩ := hv
  have hl := lv_entry ([.ref (ad 6 0), .int a1, .int a2]) (n := 5) (Nat.le_of_ble_eq_true rfl)
  rw [lg_entry_eq]
  generalize (lg_sl ([.ref (ad 6 0), .int a1, .int a2]) ++ List.replicate (5 - (lg_sl ([.ref (ad 6 0), .int a1, .int a2])).length) Slot.unset).toArray = ls at hl ⊢
  exact w6_sailingOf ⟨B.exec, B.bytes, B.returns, hml, findClass_of_methodNamed B.named, atoms_spec (ws := wsX6_sailingOf) B.pre, B.notSynchronized⟩ hK hN a1 a2 hF hW va_S.rf hl

-- 6 turn
abbrev rm6_turn : Room := { frames := 6, cells := 0, slots := 0, locals := 131 }
def f6_turn (M : TS) (a1 : Int32) : Option (Int32 × TS) :=
  b2 (f6_nextTurn M a1) fun (v1 : Int32) (M2 : TS) =>
  lt (fun (M4 : TS) => ((ix a1 60).bind fun (j5 : Nat) =>
  lt (fun (M6 : TS) => ((f6_lookAtRecall M6 a1).bind fun (M7 : TS) =>
  some ((1 : Int32), M7))) fun (K180 : TS → Option (Int32 × TS)) =>
  if (M4 3100 j5) ≤ 0 then
  (K180 M4)
  else
  ((ix a1 60).bind fun (j9 : Nat) =>
  (ix a1 60).bind fun (j10 : Nat) =>
  lt (up M4 3100 j10 ((M4 3100 j9) - (1 : Int32))) fun (M11 : TS) =>
  K180 M11))) fun (K161 : TS → Option (Int32 × TS)) =>
  if v1 = 0 then
  (some ((0 : Int32), M2))
  else
  (if v1 = 1 then
  ((f6_put M2 (M2 630 0) (4 : Int32) (2 : Int32)).bind fun (M12 : TS) =>
  (f6_write M12 (0 : Int32) (M2 630 0) a1).bind fun (M14 : TS) =>
  K161 M14)
  else
  (if v1 = 2 then
  ((f6_goesOn M2 (M2 630 0) a1).bind fun (M16 : TS) =>
  K161 M16)
  else
  (if v1 = 3 then
  (b2 (f6_boards M2 (M2 630 0) a1) fun (v18 : Int32) (M19 : TS) =>
  if v18 = 0 then
  ((f6_put M19 (M2 630 0) (4 : Int32) (4 : Int32)).bind fun (M21 : TS) =>
  (f6_write M21 (2 : Int32) (M2 630 0) a1).bind fun (M23 : TS) =>
  K161 M23)
  else
  ((ix a1 60).bind fun (j25 : Nat) =>
  lt (up M19 3200 j25 (M2 630 0)) fun (M26 : TS) =>
  (f6_of M26 (M2 630 0) (3 : Int32)).bind fun (v27 : Int32) =>
  lt (if v27 ≤ 0 then (1 : Int32) else (0 : Int32)) fun (x29 : Int32) =>
  (ix a1 60).bind fun (j30 : Nat) =>
  lt (up M26 3300 j30 x29) fun (M31 : TS) =>
  (f6_write M31 (1 : Int32) (M2 630 0) a1).bind fun (M32 : TS) =>
  K161 M32))
  else
  (if v1 = 4 then
  ((f6_comesOff M2 (M2 630 0)).bind fun (M34 : TS) =>
  (f6_write M34 (6 : Int32) (M2 630 0) a1).bind fun (M36 : TS) =>
  K161 M36)
  else
  ((f6_goesAway M2 (M2 630 0) a1).bind fun (M38 : TS) =>
  K161 M38)))))
set_option maxRecDepth 20000 in
theorem hi6_turn_6 : ∀ w ∈ u_ws RX6 TX6 31, w ∈ wsX6_turn := by decide +kernel
set_option maxHeartbeats 4000000 in
set_option maxRecDepth 100000 in
theorem w6_turn {p : Program} {l : Launch} {e : Env} {s : State} {m : MethodId} {args : Array Value} {below : List Frame} {meth : Method} {c : Code} (C : MC p s m args meth c cX6_turn (some .boolean) 4 RX6 wsX6_turn) {D : va_G} {cA : Nat → ClassId} {z : Nat} {ad : Nat → Nat → Nat} {N : TN} (hK : va_K D vwCl (tysW cA) s) (hN : NW s) {S : TS} {P : TP} {M : TS} (a1 : Int32) {v : Int32} {M' : TS} (hF : f6_turn M a1 = some (v, M'))
    {H : Heap} {ls : Array Slot} (hW : Wd D cA z ad N S P M H) {locs : List Loc} (hS : va_S (fun q => z ≤ q) s.heap H locs) (hl : lv_has ls 4 [(0, .ref (ad 6 0)), (1, .int a1)]) : W p l e rm6_turn s m args below meth c H locs 0 0 (MQ below (Qi D cA z v (ad, N, S, P, M')) args s 0 0 (fun q => z ≤ q)) (F0 m 0 ls []) := by
  obtain ⟨hx, hb, hr, hml, hown, hts, hlk⟩ := id C
  unfold f6_turn at hF
  refine lv_aload_n hx hb dX6_turn_0 rfl (lv_at hl 0 rfl) ?_
  refine lv_iload_n hx hb dX6_turn_1 rfl (lv_at hl 1 rfl) ?_
  replace hF := ob2 hF
  obtain ⟨v1, M2, q3, hF⟩ := hF
  refine k_i (va_runV (As := [.int a1]) (rest := []) ⟨hx, hb, hml, hown, hts⟩ (c6_nextTurn l a1 q3) (cwV 1 hts gX6_turn_X6_nextTurn rfl rfl rfl (by decide +kernel) ⟨Nat.le_of_ble_eq_true rfl, Nat.le_of_ble_eq_true rfl⟩) (k_preV hW hK hN (hW.fx 6 rfl) (EE_6 cA ad S P M 0) rfl) rfl rfl hl.1 rfl (lv_room (Nat.le_of_ble_eq_true rfl)) dX6_turn_2 ⟨Nat.le_of_ble_eq_true rfl, Nat.le_of_ble_eq_true rfl⟩) hS ?_
  clear hW hS; intro H locs hW hS
  refine lv_istore_n (lv' := [(2, .int v1), (0, .ref (ad 6 0)), (1, .int a1)]) hx hb dX6_turn_5 rfl hl (by decide) rfl ?_
  clear hl; intro ls hl
  refine lv_aload_n hx hb dX6_turn_6 rfl (lv_at hl 1 rfl) ?_
  refine g6_30 hx hb hts hi6_turn_6 hown hK hW (hts (.fieldLink RX6 157 RX6 "about" "I") (by decide +kernel)) dX6_turn_7 ?_
  refine lv_istore_n (lv' := [(3, .int (M2 630 0)), (2, .int v1), (0, .ref (ad 6 0)), (1, .int a1)]) hx hb dX6_turn_10 rfl hl (by decide) rfl ?_
  clear hl; intro ls hl
  refine lv_iload_n hx hb dX6_turn_11 rfl (lv_at hl 1 rfl) ?_
  replace hF := lt_ex hF
  obtain ⟨K161, eK161, hF⟩ := hF
  have hK161 : ∀ (M4 : TS) (H : Heap) (locs : List Loc) (ls : Array Slot), K161 M4 = some (v, M') → Wd D cA z ad N S P M4 H → va_S (fun q => z ≤ q) s.heap H locs → lv_has ls 4 [(0, .ref (ad 6 0)), (1, .int a1)] → W p l e rm6_turn s m args below meth c H locs 0 0 (MQ below (Qi D cA z v (ad, N, S, P, M')) args s 0 0 (fun q => z ≤ q)) (F0 m 161 ls []) := by
    intro M4 H locs ls hF hW hS hl
    subst eK161
    refine lv_aload_n hx hb dX6_turn_161 rfl (lv_at hl 0 rfl) ?_
    refine g6_11 hx hb hts hi6_turn_6 hown hK hW (hts (.fieldLink RX6 44 RX6 "recall" "[I") (by decide +kernel)) dX6_turn_162 ?_
    refine lv_iload_n hx hb dX6_turn_165 rfl (lv_at hl 1 rfl) ?_
    replace hF := ob hF
    obtain ⟨j5, ej5, hF⟩ := hF
    refine l31 hx hb hK hW ej5 dX6_turn_166 ?_
    replace hF := lt_ex hF
    obtain ⟨K180, eK180, hF⟩ := hF
    have hK180 : ∀ (M6 : TS) (H : Heap) (locs : List Loc) (ls : Array Slot), K180 M6 = some (v, M') → Wd D cA z ad N S P M6 H → va_S (fun q => z ≤ q) s.heap H locs → lv_has ls 4 [(0, .ref (ad 6 0)), (1, .int a1)] → W p l e rm6_turn s m args below meth c H locs 0 0 (MQ below (Qi D cA z v (ad, N, S, P, M')) args s 0 0 (fun q => z ≤ q)) (F0 m 180 ls []) := by
      intro M6 H locs ls hF hW hS hl
      subst eK180
      refine lv_aload_n hx hb dX6_turn_180 rfl (lv_at hl 0 rfl) ?_
      refine lv_iload_n hx hb dX6_turn_181 rfl (lv_at hl 1 rfl) ?_
      replace hF := ob hF
      obtain ⟨M7, q8, hF⟩ := hF
      refine k_v (va_runV (As := [.int a1]) (rest := []) ⟨hx, hb, hml, hown, hts⟩ (c6_lookAtRecall l a1 q8) (cwV 1 hts gX6_turn_X6_lookAtRecall rfl rfl rfl (by decide +kernel) ⟨Nat.le_of_ble_eq_true rfl, Nat.le_of_ble_eq_true rfl⟩) (k_preV hW hK hN (hW.fx 6 rfl) (EE_6 cA ad S P M6 0) rfl) rfl rfl hl.1 rfl (lv_room (Nat.le_of_ble_eq_true rfl)) dX6_turn_182 ⟨Nat.le_of_ble_eq_true rfl, Nat.le_of_ble_eq_true rfl⟩) hS ?_
      clear hW hS; intro H locs hW hS
      refine lv_iconst (v := (1 : Int32)) hx hb dX6_turn_185 (by decide) ?_
      obtain ⟨hq1, hq2⟩ := Prod.mk.inj (Option.some.inj hF)
      subst hq1
      subst hq2
      exact e_z hx hb hr hlk hK hN hW hS (by decide) dX6_turn_186
    clear eK180
    refine lv_if_le (tgt := 180) hx hb dX6_turn_167 (by decide) (fun hc => ?_) (fun hc => ?_)
    · replace hF := it_t hF hc
      exact hK180 M4 _ _ _ hF hW hS (lv_sub hl [0, 1] rfl)
    · replace hF := it_f hF hc
      refine lv_aload_n hx hb dX6_turn_170 rfl (lv_at hl 0 rfl) ?_
      refine g6_11 hx hb hts hi6_turn_6 hown hK hW (hts (.fieldLink RX6 44 RX6 "recall" "[I") (by decide +kernel)) dX6_turn_171 ?_
      refine lv_iload_n hx hb dX6_turn_174 rfl (lv_at hl 1 rfl) ?_
      refine lv_dup2_11 hx hb dX6_turn_175 rfl rfl ?_
      replace hF := ob hF
      obtain ⟨j9, ej9, hF⟩ := hF
      refine l31 hx hb hK hW ej9 dX6_turn_176 ?_
      refine lv_iconst (v := (1 : Int32)) hx hb dX6_turn_177 (by decide) ?_
      refine lv_isub hx hb dX6_turn_178 ?_
      replace hF := ob hF
      obtain ⟨j10, ej10, hF⟩ := hF
      replace hF := lt_ex hF
      obtain ⟨M11, eM11, hF⟩ := hF
      refine t31 hx hb hK hW hS ej10 eM11 dX6_turn_179 ?_
      clear hW hS; intro H locs hW hS
      exact hK180 M11 _ _ _ hF hW hS (lv_sub hl [0, 1] rfl)
  clear eK161
  by_cases hn0 : v1 = 0
  · replace hF := it_t hF hn0
    refine lv_tableIn (off := 36) (tgt := 48) hx hb dX6_turn_12 (by rw [hn0]; decide) (by rw [hn0]; decide) (by rw [hn0]; rfl) (by decide) ?_
    refine lv_iconst (v := (0 : Int32)) hx hb dX6_turn_48 (by decide) ?_
    obtain ⟨hq1, hq2⟩ := Prod.mk.inj (Option.some.inj hF)
    subst hq1
    subst hq2
    exact e_z hx hb hr hlk hK hN hW hS (by decide) dX6_turn_49
  · replace hF := it_f hF hn0
    by_cases hn1 : v1 = 1
    · replace hF := it_t hF hn1
      refine lv_tableIn (off := 38) (tgt := 50) hx hb dX6_turn_12 (by rw [hn1]; decide) (by rw [hn1]; decide) (by rw [hn1]; rfl) (by decide) ?_
      refine lv_aload_n hx hb dX6_turn_50 rfl (lv_at hl 2 rfl) ?_
      refine lv_iload_n hx hb dX6_turn_51 rfl (lv_at hl 0 rfl) ?_
      refine lv_iconst (v := (4 : Int32)) hx hb dX6_turn_52 (by decide) ?_
      refine lv_iconst (v := (2 : Int32)) hx hb dX6_turn_53 (by decide) ?_
      replace hF := ob hF
      obtain ⟨M12, q13, hF⟩ := hF
      refine k_v (va_runV (As := [.int (M2 630 0), .int (4 : Int32), .int (2 : Int32)]) (rest := []) ⟨hx, hb, hml, hown, hts⟩ (c6_put l (M2 630 0) (4 : Int32) (2 : Int32) q13) (cwV 3 hts gX6_turn_X6_put rfl rfl rfl (by decide +kernel) ⟨Nat.le_of_ble_eq_true rfl, Nat.le_of_ble_eq_true rfl⟩) (k_preV hW hK hN (hW.fx 6 rfl) (EE_6 cA ad S P M2 0) rfl) rfl rfl hl.1 rfl (lv_room (Nat.le_of_ble_eq_true rfl)) dX6_turn_54 ⟨Nat.le_of_ble_eq_true rfl, Nat.le_of_ble_eq_true rfl⟩) hS ?_
      clear hW hS; intro H locs hW hS
      refine lv_aload_n hx hb dX6_turn_57 rfl (lv_at hl 2 rfl) ?_
      refine lv_iconst (v := (0 : Int32)) hx hb dX6_turn_58 (by decide) ?_
      refine lv_iload_n hx hb dX6_turn_59 rfl (lv_at hl 0 rfl) ?_
      refine lv_iload_n hx hb dX6_turn_60 rfl (lv_at hl 3 rfl) ?_
      replace hF := ob hF
      obtain ⟨M14, q15, hF⟩ := hF
      refine k_v (va_runV (As := [.int (0 : Int32), .int (M2 630 0), .int a1]) (rest := []) ⟨hx, hb, hml, hown, hts⟩ (c6_write l (0 : Int32) (M2 630 0) a1 q15) (cwV 3 hts gX6_turn_X6_write rfl rfl rfl (by decide +kernel) ⟨Nat.le_of_ble_eq_true rfl, Nat.le_of_ble_eq_true rfl⟩) (k_preV hW hK hN (hW.fx 6 rfl) (EE_6 cA ad S P M12 0) rfl) rfl rfl hl.1 rfl (lv_room (Nat.le_of_ble_eq_true rfl)) dX6_turn_61 ⟨Nat.le_of_ble_eq_true rfl, Nat.le_of_ble_eq_true rfl⟩) hS ?_
      clear hW hS; intro H locs hW hS
      refine lv_goto (tgt := 161) hx hb dX6_turn_64 (by decide) ?_
      exact hK161 M14 _ _ _ hF hW hS (lv_sub hl [2, 3] rfl)
    · replace hF := it_f hF hn1
      by_cases hn2 : v1 = 2
      · replace hF := it_t hF hn2
        refine lv_tableIn (off := 55) (tgt := 67) hx hb dX6_turn_12 (by rw [hn2]; decide) (by rw [hn2]; decide) (by rw [hn2]; rfl) (by decide) ?_
        refine lv_aload_n hx hb dX6_turn_67 rfl (lv_at hl 2 rfl) ?_
        refine lv_iload_n hx hb dX6_turn_68 rfl (lv_at hl 0 rfl) ?_
        refine lv_iload_n hx hb dX6_turn_69 rfl (lv_at hl 3 rfl) ?_
        replace hF := ob hF
        obtain ⟨M16, q17, hF⟩ := hF
        refine k_v (va_runV (As := [.int (M2 630 0), .int a1]) (rest := []) ⟨hx, hb, hml, hown, hts⟩ (c6_goesOn l (M2 630 0) a1 q17) (cwV 2 hts gX6_turn_X6_goesOn rfl rfl rfl (by decide +kernel) ⟨Nat.le_of_ble_eq_true rfl, Nat.le_of_ble_eq_true rfl⟩) (k_preV hW hK hN (hW.fx 6 rfl) (EE_6 cA ad S P M2 0) rfl) rfl rfl hl.1 rfl (lv_room (Nat.le_of_ble_eq_true rfl)) dX6_turn_70 ⟨Nat.le_of_ble_eq_true rfl, Nat.le_of_ble_eq_true rfl⟩) hS ?_
        clear hW hS; intro H locs hW hS
        refine lv_goto (tgt := 161) hx hb dX6_turn_73 (by decide) ?_
        exact hK161 M16 _ _ _ hF hW hS (lv_sub hl [2, 3] rfl)
      · replace hF := it_f hF hn2
        by_cases hn3 : v1 = 3
        · replace hF := it_t hF hn3
          refine lv_tableIn (off := 64) (tgt := 76) hx hb dX6_turn_12 (by rw [hn3]; decide) (by rw [hn3]; decide) (by rw [hn3]; rfl) (by decide) ?_
          refine lv_aload_n hx hb dX6_turn_76 rfl (lv_at hl 2 rfl) ?_
          refine lv_iload_n hx hb dX6_turn_77 rfl (lv_at hl 0 rfl) ?_
          refine lv_iload_n hx hb dX6_turn_78 rfl (lv_at hl 3 rfl) ?_
          replace hF := ob2 hF
          obtain ⟨v18, M19, q20, hF⟩ := hF
          refine k_i (va_runV (As := [.int (M2 630 0), .int a1]) (rest := []) ⟨hx, hb, hml, hown, hts⟩ (c6_boards l (M2 630 0) a1 q20) (cwV 2 hts gX6_turn_X6_boards rfl rfl rfl (by decide +kernel) ⟨Nat.le_of_ble_eq_true rfl, Nat.le_of_ble_eq_true rfl⟩) (k_preV hW hK hN (hW.fx 6 rfl) (EE_6 cA ad S P M2 0) rfl) rfl rfl hl.1 rfl (lv_room (Nat.le_of_ble_eq_true rfl)) dX6_turn_79 ⟨Nat.le_of_ble_eq_true rfl, Nat.le_of_ble_eq_true rfl⟩) hS ?_
          clear hW hS; intro H locs hW hS
          refine lv_if_eq (tgt := 122) hx hb dX6_turn_82 (by decide) (fun hc => ?_) (fun hc => ?_)
          · replace hF := it_t hF hc
            refine lv_aload_n hx hb dX6_turn_122 rfl (lv_at hl 2 rfl) ?_
            refine lv_iload_n hx hb dX6_turn_123 rfl (lv_at hl 0 rfl) ?_
            refine lv_iconst (v := (4 : Int32)) hx hb dX6_turn_124 (by decide) ?_
            refine lv_iconst (v := (4 : Int32)) hx hb dX6_turn_125 (by decide) ?_
            replace hF := ob hF
            obtain ⟨M21, q22, hF⟩ := hF
            refine k_v (va_runV (As := [.int (M2 630 0), .int (4 : Int32), .int (4 : Int32)]) (rest := []) ⟨hx, hb, hml, hown, hts⟩ (c6_put l (M2 630 0) (4 : Int32) (4 : Int32) q22) (cwV 3 hts gX6_turn_X6_put rfl rfl rfl (by decide +kernel) ⟨Nat.le_of_ble_eq_true rfl, Nat.le_of_ble_eq_true rfl⟩) (k_preV hW hK hN (hW.fx 6 rfl) (EE_6 cA ad S P M19 0) rfl) rfl rfl hl.1 rfl (lv_room (Nat.le_of_ble_eq_true rfl)) dX6_turn_126 ⟨Nat.le_of_ble_eq_true rfl, Nat.le_of_ble_eq_true rfl⟩) hS ?_
            clear hW hS; intro H locs hW hS
            refine lv_aload_n hx hb dX6_turn_129 rfl (lv_at hl 2 rfl) ?_
            refine lv_iconst (v := (2 : Int32)) hx hb dX6_turn_130 (by decide) ?_
            refine lv_iload_n hx hb dX6_turn_131 rfl (lv_at hl 0 rfl) ?_
            refine lv_iload_n hx hb dX6_turn_132 rfl (lv_at hl 3 rfl) ?_
            replace hF := ob hF
            obtain ⟨M23, q24, hF⟩ := hF
            refine k_v (va_runV (As := [.int (2 : Int32), .int (M2 630 0), .int a1]) (rest := []) ⟨hx, hb, hml, hown, hts⟩ (c6_write l (2 : Int32) (M2 630 0) a1 q24) (cwV 3 hts gX6_turn_X6_write rfl rfl rfl (by decide +kernel) ⟨Nat.le_of_ble_eq_true rfl, Nat.le_of_ble_eq_true rfl⟩) (k_preV hW hK hN (hW.fx 6 rfl) (EE_6 cA ad S P M21 0) rfl) rfl rfl hl.1 rfl (lv_room (Nat.le_of_ble_eq_true rfl)) dX6_turn_133 ⟨Nat.le_of_ble_eq_true rfl, Nat.le_of_ble_eq_true rfl⟩) hS ?_
            clear hW hS; intro H locs hW hS
            refine lv_goto (tgt := 161) hx hb dX6_turn_136 (by decide) ?_
            exact hK161 M23 _ _ _ hF hW hS (lv_sub hl [2, 3] rfl)
          · replace hF := it_f hF hc
            refine lv_aload_n hx hb dX6_turn_85 rfl (lv_at hl 2 rfl) ?_
            refine g6_12 hx hb hts hi6_turn_6 hown hK hW (hts (.fieldLink RX6 47 RX6 "begun" "[I") (by decide +kernel)) dX6_turn_86 ?_
            refine lv_iload_n hx hb dX6_turn_89 rfl (lv_at hl 3 rfl) ?_
            refine lv_iload_n hx hb dX6_turn_90 rfl (lv_at hl 0 rfl) ?_
            replace hF := ob hF
            obtain ⟨j25, ej25, hF⟩ := hF
            replace hF := lt_ex hF
            obtain ⟨M26, eM26, hF⟩ := hF
            refine t32 hx hb hK hW hS ej25 eM26 dX6_turn_91 ?_
            clear hW hS; intro H locs hW hS
            refine lv_aload_n hx hb dX6_turn_92 rfl (lv_at hl 2 rfl) ?_
            refine g6_13 hx hb hts hi6_turn_6 hown hK hW (hts (.fieldLink RX6 50 RX6 "stage" "[I") (by decide +kernel)) dX6_turn_93 ?_
            refine lv_iload_n hx hb dX6_turn_96 rfl (lv_at hl 3 rfl) ?_
            refine lv_aload_n hx hb dX6_turn_97 rfl (lv_at hl 2 rfl) ?_
            refine lv_iload_n hx hb dX6_turn_98 rfl (lv_at hl 0 rfl) ?_
            refine lv_iconst (v := (3 : Int32)) hx hb dX6_turn_99 (by decide) ?_
            replace hF := ob hF
            obtain ⟨v27, q28, hF⟩ := hF
            refine k_i (va_runV (As := [.int (M2 630 0), .int (3 : Int32)]) (rest := [.int a1, .ref (ad 33 0)]) ⟨hx, hb, hml, hown, hts⟩ (c6_of l (M2 630 0) (3 : Int32) q28) (cwV 2 hts gX6_turn_X6_of rfl rfl rfl (by decide +kernel) ⟨Nat.le_of_ble_eq_true rfl, Nat.le_of_ble_eq_true rfl⟩) (k_preV hW hK hN (hW.fx 6 rfl) (EE_6 cA ad S P M26 0) rfl) rfl rfl hl.1 rfl (lv_room (Nat.le_of_ble_eq_true rfl)) dX6_turn_100 ⟨Nat.le_of_ble_eq_true rfl, Nat.le_of_ble_eq_true rfl⟩) hS ?_
            clear hW hS; intro H locs hW hS
            replace hF := lt_ex hF
            obtain ⟨x29, ex29, hF⟩ := hF
            have hJ : W p l e rm6_turn s m args below meth c H locs 0 0 (MQ below (Qi D cA z v (ad, N, S, P, M')) args s 0 0 (fun q => z ≤ q)) (F0 m 111 ls [.int x29, .int a1, .ref (ad 33 0)]) := by
              replace hF := ob hF
              obtain ⟨j30, ej30, hF⟩ := hF
              replace hF := lt_ex hF
              obtain ⟨M31, eM31, hF⟩ := hF
              refine t33 hx hb hK hW hS ej30 eM31 dX6_turn_111 ?_
              clear hW hS; intro H locs hW hS
              refine lv_aload_n hx hb dX6_turn_112 rfl (lv_at hl 2 rfl) ?_
              refine lv_iconst (v := (1 : Int32)) hx hb dX6_turn_113 (by decide) ?_
              refine lv_iload_n hx hb dX6_turn_114 rfl (lv_at hl 0 rfl) ?_
              refine lv_iload_n hx hb dX6_turn_115 rfl (lv_at hl 3 rfl) ?_
              replace hF := ob hF
              obtain ⟨M32, q33, hF⟩ := hF
              refine k_v (va_runV (As := [.int (1 : Int32), .int (M2 630 0), .int a1]) (rest := []) ⟨hx, hb, hml, hown, hts⟩ (c6_write l (1 : Int32) (M2 630 0) a1 q33) (cwV 3 hts gX6_turn_X6_write rfl rfl rfl (by decide +kernel) ⟨Nat.le_of_ble_eq_true rfl, Nat.le_of_ble_eq_true rfl⟩) (k_preV hW hK hN (hW.fx 6 rfl) (EE_6 cA ad S P M31 0) rfl) rfl rfl hl.1 rfl (lv_room (Nat.le_of_ble_eq_true rfl)) dX6_turn_116 ⟨Nat.le_of_ble_eq_true rfl, Nat.le_of_ble_eq_true rfl⟩) hS ?_
              clear hW hS; intro H locs hW hS
              refine lv_goto (tgt := 161) hx hb dX6_turn_119 (by decide) ?_
              exact hK161 M32 _ _ _ hF hW hS (lv_sub hl [2, 3] rfl)
            refine lv_if_le (tgt := 110) hx hb dX6_turn_103 (by decide) (fun hc => ?_) (fun hc => ?_)
            · refine lv_iconst (v := (1 : Int32)) hx hb dX6_turn_110 (by decide) ?_
              exact W.eq (by rw [ex29, if_pos hc]) hJ
            · refine lv_iconst (v := (0 : Int32)) hx hb dX6_turn_106 (by decide) ?_
              refine lv_goto (tgt := 111) hx hb dX6_turn_107 (by decide) ?_
              exact W.eq (by rw [ex29, if_neg hc]) hJ
        · replace hF := it_f hF hn3
          by_cases hn4 : v1 = 4
          · replace hF := it_t hF hn4
            refine lv_tableIn (off := 127) (tgt := 139) hx hb dX6_turn_12 (by rw [hn4]; decide) (by rw [hn4]; decide) (by rw [hn4]; rfl) (by decide) ?_
            refine lv_aload_n hx hb dX6_turn_139 rfl (lv_at hl 2 rfl) ?_
            refine lv_iload_n hx hb dX6_turn_140 rfl (lv_at hl 0 rfl) ?_
            replace hF := ob hF
            obtain ⟨M34, q35, hF⟩ := hF
            refine k_v (va_runV (As := [.int (M2 630 0)]) (rest := []) ⟨hx, hb, hml, hown, hts⟩ (c6_comesOff l (M2 630 0) q35) (cwV 1 hts gX6_turn_X6_comesOff rfl rfl rfl (by decide +kernel) ⟨Nat.le_of_ble_eq_true rfl, Nat.le_of_ble_eq_true rfl⟩) (k_preV hW hK hN (hW.fx 6 rfl) (EE_6 cA ad S P M2 0) rfl) rfl rfl hl.1 rfl (lv_room (Nat.le_of_ble_eq_true rfl)) dX6_turn_141 ⟨Nat.le_of_ble_eq_true rfl, Nat.le_of_ble_eq_true rfl⟩) hS ?_
            clear hW hS; intro H locs hW hS
            refine lv_aload_n hx hb dX6_turn_144 rfl (lv_at hl 2 rfl) ?_
            refine lv_bipush (v := (6 : Int32)) hx hb dX6_turn_145 (by decide) ?_
            refine lv_iload_n hx hb dX6_turn_147 rfl (lv_at hl 0 rfl) ?_
            refine lv_iload_n hx hb dX6_turn_148 rfl (lv_at hl 3 rfl) ?_
            replace hF := ob hF
            obtain ⟨M36, q37, hF⟩ := hF
            refine k_v (va_runV (As := [.int (6 : Int32), .int (M2 630 0), .int a1]) (rest := []) ⟨hx, hb, hml, hown, hts⟩ (c6_write l (6 : Int32) (M2 630 0) a1 q37) (cwV 3 hts gX6_turn_X6_write rfl rfl rfl (by decide +kernel) ⟨Nat.le_of_ble_eq_true rfl, Nat.le_of_ble_eq_true rfl⟩) (k_preV hW hK hN (hW.fx 6 rfl) (EE_6 cA ad S P M34 0) rfl) rfl rfl hl.1 rfl (lv_room (Nat.le_of_ble_eq_true rfl)) dX6_turn_149 ⟨Nat.le_of_ble_eq_true rfl, Nat.le_of_ble_eq_true rfl⟩) hS ?_
            clear hW hS; intro H locs hW hS
            refine lv_goto (tgt := 161) hx hb dX6_turn_152 (by decide) ?_
            exact hK161 M36 _ _ _ hF hW hS (lv_sub hl [2, 3] rfl)
          · replace hF := it_f hF hn4
            have hq0 := sw_ne hn0 (n := 0) (by decide)
            have hq1 := sw_ne hn1 (n := 1) (by decide)
            have hq2 := sw_ne hn2 (n := 2) (by decide)
            have hq3 := sw_ne hn3 (n := 3) (by decide)
            have hq4 := sw_ne hn4 (n := 4) (by decide)
            refine lv_tableOut (tgt := 155) hx hb dX6_turn_12 (by omega) (by decide) ?_
            refine lv_aload_n hx hb dX6_turn_155 rfl (lv_at hl 2 rfl) ?_
            refine lv_iload_n hx hb dX6_turn_156 rfl (lv_at hl 0 rfl) ?_
            refine lv_iload_n hx hb dX6_turn_157 rfl (lv_at hl 3 rfl) ?_
            replace hF := ob hF
            obtain ⟨M38, q39, hF⟩ := hF
            refine k_v (va_runV (As := [.int (M2 630 0), .int a1]) (rest := []) ⟨hx, hb, hml, hown, hts⟩ (c6_goesAway l (M2 630 0) a1 q39) (cwV 2 hts gX6_turn_X6_goesAway rfl rfl rfl (by decide +kernel) ⟨Nat.le_of_ble_eq_true rfl, Nat.le_of_ble_eq_true rfl⟩) (k_preV hW hK hN (hW.fx 6 rfl) (EE_6 cA ad S P M2 0) rfl) rfl rfl hl.1 rfl (lv_room (Nat.le_of_ble_eq_true rfl)) dX6_turn_158 ⟨Nat.le_of_ble_eq_true rfl, Nat.le_of_ble_eq_true rfl⟩) hS ?_
            clear hW hS; intro H locs hW hS
            exact hK161 M38 _ _ _ hF hW hS (lv_sub hl [2, 3] rfl)

set_option maxHeartbeats 4000000 in
set_option maxRecDepth 100000 in
theorem c6_turn (l : Launch) {D : va_G} {cA : Nat → ClassId} {z : Nat} {ad : Nat → Nat → Nat} {N : TN} {S : TS} {P : TP} {M : TS} (a1 : Int32) {v : Int32} {M' : TS} (hF : f6_turn M a1 = some (v, M')) : Met l yX6_turn wsX6_turn rm6_turn (va_Pc [.ref (ad 6 0), .int a1] (Wl D cA z (ad, N, S, P, M))) (Qi D cA z v (ad, N, S, P, M')) 0 0 (fun q => z ≤ q) := by
  refine Met.ofW (cc := cX6_turn) (maxL := 4) (ret := (some .boolean)) (by decide) rfl ?_
  intro p e s m args below meth c s₁ B hml hv
  obtain ⟨rfl, hW, hK, hN⟩ := hv
  have hl := lv_entry ([.ref (ad 6 0), .int a1]) (n := 4) (Nat.le_of_ble_eq_true rfl)
  rw [lg_entry_eq]
  generalize (lg_sl ([.ref (ad 6 0), .int a1]) ++ List.replicate (4 - (lg_sl ([.ref (ad 6 0), .int a1])).length) Slot.unset).toArray = ls at hl ⊢
  exact w6_turn ⟨B.exec, B.bytes, B.returns, hml, findClass_of_methodNamed B.named, atoms_spec (ws := wsX6_turn) B.pre, B.notSynchronized⟩ hK hN a1 hF hW va_S.rf hl

-- 6 settle
abbrev rm6_settle : Room := { frames := 7, cells := 0, slots := 0, locals := 154 }
def f6_settle_31 (K : TS → Int32 → Option (Int32 × TS)) (c1 : Int32) (c2 : Int32) : Nat → TS → Int32 → Int32 → Option (Int32 × TS)
  | 0, _, _, _ => none
  | n + 1, M, y3, y4 =>
    if (M 622 0) ≤ y4 then
    (K M y3)
    else
    (if y3 = 0 then
    (b2 (f6_turn M y4) fun (v3 : Int32) (M4 : TS) =>
    f6_settle_31 K c1 c2 n M4 v3 (y4 + 1))
    else
    (K M y3))

def f6_settle_17 (K : TS → Int32 → Option (Int32 × TS)) (c1 : Int32) : Nat → TS → Int32 → Int32 → Option (Int32 × TS)
  | 0, _, _, _ => none
  | n + 1, M, y2, y3 =>
    if y3 = 0 then
    (K M y2)
    else
    (if c1 ≤ y2 then
    (K M y2)
    else
    (f6_settle_31 (fun (M6 : TS) (w7 : Int32) =>
    if w7 = 0 then
    (f6_settle_17 K c1 n M6 y2 w7)
    else
    (f6_settle_17 K c1 n M6 (y2 + 1) w7)) c1 y2 FU M (0 : Int32) (0 : Int32)))

def f6_settle (M : TS) (a1 : Int32) : Option (Int32 × TS) :=
  (f6_isIn a1 (0 : Int32) (500 : Int32)).bind fun (v1 : Int32) =>
  if v1 = 0 then
  (some ((-1 : Int32), M))
  else
  (f6_settle_17 (fun (M8 : TS) (w9 : Int32) =>
  some (w9, M8)) a1 FU M (0 : Int32) (1 : Int32))
set_option maxRecDepth 20000 in
theorem hi6_settle_6 : ∀ w ∈ u_ws RX6 TX6 31, w ∈ wsX6_settle := by decide +kernel
set_option maxHeartbeats 4000000 in
set_option maxRecDepth 100000 in
theorem w6_settle_31 {p : Program} {l : Launch} {e : Env} {s : State} {m : MethodId} {args : Array Value} {below : List Frame} {meth : Method} {c : Code} (C : MC p s m args meth c cX6_settle (some .int) 5 RX6 wsX6_settle) {D : va_G} {cA : Nat → ClassId} {z : Nat} {ad : Nat → Nat → Nat} {N : TN} (hK : va_K D vwCl (tysW cA) s) (hN : NW s) {S : TS} {P : TP} (c1 : Int32) (c2 : Int32) {v : Int32} {M' : TS} {K : TS → Int32 → Option (Int32 × TS)}
    (hE : ∀ (M : TS) (e3 : Int32) (H : Heap) (locs : List Loc) (ls : Array Slot), K M e3 = some (v, M') → Wd D cA z ad N S P M H → va_S (fun q => z ≤ q) s.heap H locs → lv_has ls 5 [(0, .ref (ad 6 0)), (1, .int c1), (2, .int c2), (3, .int e3)] → W p l e rm6_settle s m args below meth c H locs 0 0 (MQ below (Qi D cA z v (ad, N, S, P, M')) args s 0 0 (fun q => z ≤ q)) (F0 m 57 ls [])) :
    ∀ (n : Nat) (M : TS) (y3 : Int32) (y4 : Int32) (H : Heap) (locs : List Loc) (ls : Array Slot), f6_settle_31 K c1 c2 n M y3 y4 = some (v, M') → Wd D cA z ad N S P M H → va_S (fun q => z ≤ q) s.heap H locs → lv_has ls 5 [(0, .ref (ad 6 0)), (1, .int c1), (2, .int c2), (3, .int y3), (4, .int y4)] → W p l e rm6_settle s m args below meth c H locs 0 0 (MQ below (Qi D cA z v (ad, N, S, P, M')) args s 0 0 (fun q => z ≤ q)) (F0 m 31 ls []) := by
  obtain ⟨hx, hb, hr, hml, hown, hts, hlk⟩ := id C
  intro n
  induction n with
  | zero => intro M y3 y4 H locs ls hF; cases hF
  | succ n ih =>
    intro M y3 y4 H locs ls hF hW hS hl
    rw [f6_settle_31] at hF
    refine lv_iload hx hb dX6_settle_31 (lv_at hl 4 rfl) ?_
    refine lv_aload_n hx hb dX6_settle_33 rfl (lv_at hl 0 rfl) ?_
    refine g6_22 hx hb hts hi6_settle_6 hown hK hW (hts (.fieldLink RX6 78 RX6 "sailings" "I") (by decide +kernel)) dX6_settle_34 ?_
    refine lv_icmp_ge (tgt := 57) hx hb dX6_settle_37 (by decide) (fun hc => ?_) (fun hc => ?_)
    · replace hF := it_t hF hc
      exact hE M y3 _ _ _ hF hW hS (lv_sub hl [0, 1, 2, 3] rfl)
    · replace hF := it_f hF hc
      refine lv_iload_n hx hb dX6_settle_40 rfl (lv_at hl 3 rfl) ?_
      refine lv_if_ne (tgt := 57) hx hb dX6_settle_41 (by decide) (fun hc => ?_) (fun hc => ?_)
      · replace hF := it_f hF hc
        exact hE M y3 _ _ _ hF hW hS (lv_sub hl [0, 1, 2, 3] rfl)
      · replace hF := it_t hF hc
        refine lv_aload_n hx hb dX6_settle_44 rfl (lv_at hl 0 rfl) ?_
        refine lv_iload hx hb dX6_settle_45 (lv_at hl 4 rfl) ?_
        replace hF := ob2 hF
        obtain ⟨v3, M4, q5, hF⟩ := hF
        refine k_i (va_runV (As := [.int y4]) (rest := []) ⟨hx, hb, hml, hown, hts⟩ (c6_turn l y4 q5) (cwV 1 hts gX6_settle_X6_turn rfl rfl rfl (by decide +kernel) ⟨Nat.le_of_ble_eq_true rfl, Nat.le_of_ble_eq_true rfl⟩) (k_preV hW hK hN (hW.fx 6 rfl) (EE_6 cA ad S P M 0) rfl) rfl rfl hl.1 rfl (lv_room (Nat.le_of_ble_eq_true rfl)) dX6_settle_47 ⟨Nat.le_of_ble_eq_true rfl, Nat.le_of_ble_eq_true rfl⟩) hS ?_
        clear hW hS; intro H locs hW hS
        refine lv_istore_n (lv' := [(3, .int v3), (0, .ref (ad 6 0)), (1, .int c1), (2, .int c2), (4, .int y4)]) hx hb dX6_settle_50 rfl hl (by decide) rfl ?_
        clear hl; intro ls hl
        refine lv_iinc (v := y4 + 1) (lv' := [(4, .int (y4 + 1)), (3, .int v3), (0, .ref (ad 6 0)), (1, .int c1), (2, .int c2)]) hx hb dX6_settle_51 hl (k := 4) rfl rfl (by decide) rfl ?_
        clear hl; intro ls hl
        refine lv_goto (tgt := 31) hx hb dX6_settle_54 (by decide) ?_
        exact ih M4 v3 (y4 + 1) _ _ _ hF hW hS (lv_sub hl [2, 3, 4, 1, 0] rfl)

set_option maxHeartbeats 4000000 in
set_option maxRecDepth 100000 in
theorem w6_settle_17 {p : Program} {l : Launch} {e : Env} {s : State} {m : MethodId} {args : Array Value} {below : List Frame} {meth : Method} {c : Code} (C : MC p s m args meth c cX6_settle (some .int) 5 RX6 wsX6_settle) {D : va_G} {cA : Nat → ClassId} {z : Nat} {ad : Nat → Nat → Nat} {N : TN} (hK : va_K D vwCl (tysW cA) s) (hN : NW s) {S : TS} {P : TP} (c1 : Int32) {v : Int32} {M' : TS} {K : TS → Int32 → Option (Int32 × TS)}
    (hE : ∀ (M : TS) (e2 : Int32) (H : Heap) (locs : List Loc) (ls : Array Slot), K M e2 = some (v, M') → Wd D cA z ad N S P M H → va_S (fun q => z ≤ q) s.heap H locs → lv_has ls 5 [(2, .int e2)] → W p l e rm6_settle s m args below meth c H locs 0 0 (MQ below (Qi D cA z v (ad, N, S, P, M')) args s 0 0 (fun q => z ≤ q)) (F0 m 67 ls [])) :
    ∀ (n : Nat) (M : TS) (y2 : Int32) (y3 : Int32) (H : Heap) (locs : List Loc) (ls : Array Slot), f6_settle_17 K c1 n M y2 y3 = some (v, M') → Wd D cA z ad N S P M H → va_S (fun q => z ≤ q) s.heap H locs → lv_has ls 5 [(0, .ref (ad 6 0)), (1, .int c1), (2, .int y2), (3, .int y3)] → W p l e rm6_settle s m args below meth c H locs 0 0 (MQ below (Qi D cA z v (ad, N, S, P, M')) args s 0 0 (fun q => z ≤ q)) (F0 m 17 ls []) := by
  obtain ⟨hx, hb, hr, hml, hown, hts, hlk⟩ := id C
  intro n
  induction n with
  | zero => intro M y2 y3 H locs ls hF; cases hF
  | succ n ih =>
    intro M y2 y3 H locs ls hF hW hS hl
    rw [f6_settle_17] at hF
    refine lv_iload_n hx hb dX6_settle_17 rfl (lv_at hl 3 rfl) ?_
    refine lv_if_eq (tgt := 67) hx hb dX6_settle_18 (by decide) (fun hc => ?_) (fun hc => ?_)
    · replace hF := it_t hF hc
      exact hE M y2 _ _ _ hF hW hS (lv_sub hl [2] rfl)
    · replace hF := it_f hF hc
      refine lv_iload_n hx hb dX6_settle_21 rfl (lv_at hl 2 rfl) ?_
      refine lv_iload_n hx hb dX6_settle_22 rfl (lv_at hl 1 rfl) ?_
      refine lv_icmp_ge (tgt := 67) hx hb dX6_settle_23 (by decide) (fun hc => ?_) (fun hc => ?_)
      · replace hF := it_t hF hc
        exact hE M y2 _ _ _ hF hW hS (lv_sub hl [2] rfl)
      · replace hF := it_f hF hc
        refine lv_iconst (v := (0 : Int32)) hx hb dX6_settle_26 (by decide) ?_
        refine lv_istore_n (lv' := [(3, .int (0 : Int32)), (0, .ref (ad 6 0)), (1, .int c1), (2, .int y2)]) hx hb dX6_settle_27 rfl hl (by decide) rfl ?_
        clear hl; intro ls hl
        refine lv_iconst (v := (0 : Int32)) hx hb dX6_settle_28 (by decide) ?_
        refine lv_istore (lv' := [(4, .int (0 : Int32)), (3, .int (0 : Int32)), (0, .ref (ad 6 0)), (1, .int c1), (2, .int y2)]) hx hb dX6_settle_29 hl (by decide) rfl ?_
        clear hl; intro ls hl
        refine w6_settle_31 C hK hN c1 y2 (hE := ?_) FU M (0 : Int32) (0 : Int32) _ _ _ hF hW hS (lv_sub hl [2, 3, 4, 1, 0] rfl)
        intro M6 w7 H locs ls hF hW hS hl
        refine lv_iload_n hx hb dX6_settle_57 rfl (lv_at hl 3 rfl) ?_
        refine lv_if_eq (tgt := 17) hx hb dX6_settle_58 (by decide) (fun hc => ?_) (fun hc => ?_)
        · replace hF := it_t hF hc
          exact ih M6 y2 w7 _ _ _ hF hW hS (lv_sub hl [0, 1, 2, 3] rfl)
        · replace hF := it_f hF hc
          refine lv_iinc (v := y2 + 1) (lv' := [(2, .int (y2 + 1)), (0, .ref (ad 6 0)), (1, .int c1), (3, .int w7)]) hx hb dX6_settle_61 hl (k := 2) rfl rfl (by decide) rfl ?_
          clear hl; intro ls hl
          refine lv_goto (tgt := 17) hx hb dX6_settle_64 (by decide) ?_
          exact ih M6 (y2 + 1) w7 _ _ _ hF hW hS (lv_sub hl [1, 2, 0, 3] rfl)

set_option maxHeartbeats 4000000 in
set_option maxRecDepth 100000 in
theorem w6_settle {p : Program} {l : Launch} {e : Env} {s : State} {m : MethodId} {args : Array Value} {below : List Frame} {meth : Method} {c : Code} (C : MC p s m args meth c cX6_settle (some .int) 5 RX6 wsX6_settle) {D : va_G} {cA : Nat → ClassId} {z : Nat} {ad : Nat → Nat → Nat} {N : TN} (hK : va_K D vwCl (tysW cA) s) (hN : NW s) {S : TS} {P : TP} {M : TS} (a1 : Int32) {v : Int32} {M' : TS} (hF : f6_settle M a1 = some (v, M'))
    {H : Heap} {ls : Array Slot} (hW : Wd D cA z ad N S P M H) {locs : List Loc} (hS : va_S (fun q => z ≤ q) s.heap H locs) (hl : lv_has ls 5 [(0, .ref (ad 6 0)), (1, .int a1)]) : W p l e rm6_settle s m args below meth c H locs 0 0 (MQ below (Qi D cA z v (ad, N, S, P, M')) args s 0 0 (fun q => z ≤ q)) (F0 m 0 ls []) := by
  obtain ⟨hx, hb, hr, hml, hown, hts, hlk⟩ := id C
  unfold f6_settle at hF
  refine lv_iload_n hx hb dX6_settle_0 rfl (lv_at hl 1 rfl) ?_
  refine lv_iconst (v := (0 : Int32)) hx hb dX6_settle_1 (by decide) ?_
  refine lv_sipush (v := (500 : Int32)) hx hb dX6_settle_2 (by decide) ?_
  replace hF := ob hF
  obtain ⟨v1, q2, hF⟩ := hF
  refine k_i (va_runS (As := [.int a1, .int (0 : Int32), .int (500 : Int32)]) (rest := []) ⟨hx, hb, hml, hown, hts⟩ (c6_isIn l a1 (0 : Int32) (500 : Int32) q2) (va_cwS 3 hts gX6_settle_X6_isIn rfl rfl rfl (by decide +kernel) ⟨Nat.le_of_ble_eq_true rfl, Nat.le_of_ble_eq_true rfl⟩) (k_preS hW hK hN) rfl rfl hl.1 rfl (lv_room (Nat.le_of_ble_eq_true rfl)) dX6_settle_5 ⟨Nat.le_of_ble_eq_true rfl, Nat.le_of_ble_eq_true rfl⟩) hS ?_
  clear hW hS; intro H locs hW hS
  refine lv_if_ne (tgt := 13) hx hb dX6_settle_8 (by decide) (fun hc => ?_) (fun hc => ?_)
  · replace hF := it_f hF hc
    refine lv_iconst (v := (0 : Int32)) hx hb dX6_settle_13 (by decide) ?_
    refine lv_istore_n (lv' := [(2, .int (0 : Int32)), (0, .ref (ad 6 0)), (1, .int a1)]) hx hb dX6_settle_14 rfl hl (by decide) rfl ?_
    clear hl; intro ls hl
    refine lv_iconst (v := (1 : Int32)) hx hb dX6_settle_15 (by decide) ?_
    refine lv_istore_n (lv' := [(3, .int (1 : Int32)), (2, .int (0 : Int32)), (0, .ref (ad 6 0)), (1, .int a1)]) hx hb dX6_settle_16 rfl hl (by decide) rfl ?_
    clear hl; intro ls hl
    refine w6_settle_17 C hK hN a1 (hE := ?_) FU M (0 : Int32) (1 : Int32) _ _ _ hF hW hS (lv_sub hl [2, 3, 1, 0] rfl)
    intro M8 w9 H locs ls hF hW hS hl
    refine lv_iload_n hx hb dX6_settle_67 rfl (lv_at hl 0 rfl) ?_
    obtain ⟨hq1, hq2⟩ := Prod.mk.inj (Option.some.inj hF)
    subst hq1
    subst hq2
    exact e_i hx hb hr hlk hK hN hW hS dX6_settle_68
  · replace hF := it_t hF hc
    refine lv_iconst (v := (-1 : Int32)) hx hb dX6_settle_11 (by decide) ?_
    obtain ⟨hq1, hq2⟩ := Prod.mk.inj (Option.some.inj hF)
    subst hq1
    subst hq2
    exact e_i hx hb hr hlk hK hN hW hS dX6_settle_12

set_option maxHeartbeats 4000000 in
set_option maxRecDepth 100000 in
theorem c6_settle (l : Launch) {D : va_G} {cA : Nat → ClassId} {z : Nat} {ad : Nat → Nat → Nat} {N : TN} {S : TS} {P : TP} {M : TS} (a1 : Int32) {v : Int32} {M' : TS} (hF : f6_settle M a1 = some (v, M')) : Met l yX6_settle wsX6_settle rm6_settle (va_Pc [.ref (ad 6 0), .int a1] (Wl D cA z (ad, N, S, P, M))) (Qi D cA z v (ad, N, S, P, M')) 0 0 (fun q => z ≤ q) := by
  refine Met.ofW (cc := cX6_settle) (maxL := 5) (ret := (some .int)) (by decide) rfl ?_
  intro p e s m args below meth c s₁ B hml hv
  obtain ⟨rfl, hW, hK, hN⟩ := hv
  have hl := lv_entry ([.ref (ad 6 0), .int a1]) (n := 5) (Nat.le_of_ble_eq_true rfl)
  rw [lg_entry_eq]
  generalize (lg_sl ([.ref (ad 6 0), .int a1]) ++ List.replicate (5 - (lg_sl ([.ref (ad 6 0), .int a1])).length) Slot.unset).toArray = ls at hl ⊢
  exact w6_settle ⟨B.exec, B.bytes, B.returns, hml, findClass_of_methodNamed B.named, atoms_spec (ws := wsX6_settle) B.pre, B.notSynchronized⟩ hK hN a1 hF hW va_S.rf hl


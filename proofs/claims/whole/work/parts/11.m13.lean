-- 6 ship
abbrev rm6_ship : Room := { frames := 1, cells := 0, slots := 0, locals := 22 }
def f6_ship (M : TS) (a1 : Int32) (a2 : Int32) (a3 : Int32) (a4 : Int32) : Option (Int32 × TS) :=
  (f6_isIn a1 (1 : Int32) (4 : Int32)).bind fun (v1 : Int32) =>
  if v1 = 0 then
  (some ((-1 : Int32), M))
  else
  ((f6_isIn a2 (1 : Int32) (6 : Int32)).bind fun (v3 : Int32) =>
  if v3 = 0 then
  (some ((-1 : Int32), M))
  else
  ((f6_isIn a3 (50 : Int32) (2000 : Int32)).bind fun (v5 : Int32) =>
  if v5 = 0 then
  (some ((-1 : Int32), M))
  else
  (lt (if (M 620 0) = (12 : Int32) then
  (some ((-1 : Int32), M))
  else
  ((ix (M 620 0) 12).bind fun (j7 : Nat) =>
  lt (up M 2000 j7 a1) fun (M8 : TS) =>
  (ix (M8 620 0) 12).bind fun (j9 : Nat) =>
  lt (up M8 2100 j9 a2) fun (M10 : TS) =>
  (ix (M10 620 0) 12).bind fun (j11 : Nat) =>
  lt (up M10 2200 j11 a3) fun (M12 : TS) =>
  (ix (M12 620 0) 12).bind fun (j13 : Nat) =>
  if a4 = 0 ∨ a4 = 1 then
  (lt (up M12 2300 j13 a4) fun (M14 : TS) =>
  lt (up M14 620 0 ((M14 620 0) + (1 : Int32))) fun (M16 : TS) =>
  some (((M16 620 0) - (1 : Int32)), M16))
  else none)) fun (K46 : Option (Int32 × TS)) =>
  if a4 = 0 then
  (K46)
  else
  (if a1 < (2 : Int32) then
  (some ((-1 : Int32), M))
  else
  (if a2 < (2 : Int32) then
  (some ((-1 : Int32), M))
  else
  (K46))))))
set_option maxRecDepth 20000 in
theorem hi6_ship_6 : ∀ w ∈ u_ws RX6 TX6 31, w ∈ wsX6_ship := by decide +kernel
set_option maxHeartbeats 4000000 in
set_option maxRecDepth 100000 in
theorem w6_ship {p : Program} {l : Launch} {e : Env} {s : State} {m : MethodId} {args : Array Value} {below : List Frame} {meth : Method} {c : Code} (C : MC p s m args meth c cX6_ship (some .int) 5 RX6 wsX6_ship) {D : va_G} {cA : Nat → ClassId} {z : Nat} {ad : Nat → Nat → Nat} {N : TN} (hK : va_K D vwCl (tysW cA) s) (hN : NW s) {S : TS} {P : TP} {M : TS} (a1 : Int32) (a2 : Int32) (a3 : Int32) (a4 : Int32) {v : Int32} {M' : TS} (hF : f6_ship M a1 a2 a3 a4 = some (v, M'))
    {H : Heap} {ls : Array Slot} (hW : Wd D cA z ad N S P M H) {locs : List Loc} (hS : va_S (fun q => z ≤ q) s.heap H locs) (hl : lv_has ls 5 [(0, .ref (ad 6 0)), (1, .int a1), (2, .int a2), (3, .int a3), (4, .int a4)]) : W p l e rm6_ship s m args below meth c H locs 0 0 (MQ below (Qi D cA z v (ad, N, S, P, M')) args s 0 0 (fun q => z ≤ q)) (F0 m 0 ls []) := by
  obtain ⟨hx, hb, hr, hml, hown, hts, hlk⟩ := id C
  unfold f6_ship at hF
  refine lv_iload_n hx hb dX6_ship_0 rfl (lv_at hl 1 rfl) ?_
  refine lv_iconst (v := (1 : Int32)) hx hb dX6_ship_1 (by decide) ?_
  refine lv_iconst (v := (4 : Int32)) hx hb dX6_ship_2 (by decide) ?_
  replace hF := ob hF
  obtain ⟨v1, q2, hF⟩ := hF
  refine k_i (va_runS (As := [.int a1, .int (1 : Int32), .int (4 : Int32)]) (rest := []) ⟨hx, hb, hml, hown, hts⟩ (c6_isIn l a1 (1 : Int32) (4 : Int32) q2) (va_cwS 3 hts gX6_ship_X6_isIn rfl rfl rfl (by decide +kernel) ⟨Nat.le_of_ble_eq_true rfl, Nat.le_of_ble_eq_true rfl⟩) (k_preS hW hK hN) rfl rfl hl.1 rfl (lv_room (Nat.le_of_ble_eq_true rfl)) dX6_ship_3 ⟨Nat.le_of_ble_eq_true rfl, Nat.le_of_ble_eq_true rfl⟩) hS ?_
  clear hW hS; intro H locs hW hS
  refine lv_if_eq (tgt := 55) hx hb dX6_ship_6 (by decide) (fun hc => ?_) (fun hc => ?_)
  · replace hF := it_t hF hc
    refine lv_iconst (v := (-1 : Int32)) hx hb dX6_ship_55 (by decide) ?_
    obtain ⟨hq1, hq2⟩ := Prod.mk.inj (Option.some.inj hF)
    subst hq1
    subst hq2
    exact e_i hx hb hr hlk hK hN hW hS dX6_ship_56
  · replace hF := it_f hF hc
    refine lv_iload_n hx hb dX6_ship_9 rfl (lv_at hl 2 rfl) ?_
    refine lv_iconst (v := (1 : Int32)) hx hb dX6_ship_10 (by decide) ?_
    refine lv_bipush (v := (6 : Int32)) hx hb dX6_ship_11 (by decide) ?_
    replace hF := ob hF
    obtain ⟨v3, q4, hF⟩ := hF
    refine k_i (va_runS (As := [.int a2, .int (1 : Int32), .int (6 : Int32)]) (rest := []) ⟨hx, hb, hml, hown, hts⟩ (c6_isIn l a2 (1 : Int32) (6 : Int32) q4) (va_cwS 3 hts gX6_ship_X6_isIn rfl rfl rfl (by decide +kernel) ⟨Nat.le_of_ble_eq_true rfl, Nat.le_of_ble_eq_true rfl⟩) (k_preS hW hK hN) rfl rfl hl.1 rfl (lv_room (Nat.le_of_ble_eq_true rfl)) dX6_ship_13 ⟨Nat.le_of_ble_eq_true rfl, Nat.le_of_ble_eq_true rfl⟩) hS ?_
    clear hW hS; intro H locs hW hS
    refine lv_if_eq (tgt := 55) hx hb dX6_ship_16 (by decide) (fun hc => ?_) (fun hc => ?_)
    · replace hF := it_t hF hc
      refine lv_iconst (v := (-1 : Int32)) hx hb dX6_ship_55 (by decide) ?_
      obtain ⟨hq1, hq2⟩ := Prod.mk.inj (Option.some.inj hF)
      subst hq1
      subst hq2
      exact e_i hx hb hr hlk hK hN hW hS dX6_ship_56
    · replace hF := it_f hF hc
      refine lv_iload_n hx hb dX6_ship_19 rfl (lv_at hl 3 rfl) ?_
      refine lv_bipush (v := (50 : Int32)) hx hb dX6_ship_20 (by decide) ?_
      refine lv_sipush (v := (2000 : Int32)) hx hb dX6_ship_22 (by decide) ?_
      replace hF := ob hF
      obtain ⟨v5, q6, hF⟩ := hF
      refine k_i (va_runS (As := [.int a3, .int (50 : Int32), .int (2000 : Int32)]) (rest := []) ⟨hx, hb, hml, hown, hts⟩ (c6_isIn l a3 (50 : Int32) (2000 : Int32) q6) (va_cwS 3 hts gX6_ship_X6_isIn rfl rfl rfl (by decide +kernel) ⟨Nat.le_of_ble_eq_true rfl, Nat.le_of_ble_eq_true rfl⟩) (k_preS hW hK hN) rfl rfl hl.1 rfl (lv_room (Nat.le_of_ble_eq_true rfl)) dX6_ship_25 ⟨Nat.le_of_ble_eq_true rfl, Nat.le_of_ble_eq_true rfl⟩) hS ?_
      clear hW hS; intro H locs hW hS
      refine lv_if_eq (tgt := 55) hx hb dX6_ship_28 (by decide) (fun hc => ?_) (fun hc => ?_)
      · replace hF := it_t hF hc
        refine lv_iconst (v := (-1 : Int32)) hx hb dX6_ship_55 (by decide) ?_
        obtain ⟨hq1, hq2⟩ := Prod.mk.inj (Option.some.inj hF)
        subst hq1
        subst hq2
        exact e_i hx hb hr hlk hK hN hW hS dX6_ship_56
      · replace hF := it_f hF hc
        refine lv_iload hx hb dX6_ship_31 (lv_at hl 4 rfl) ?_
        replace hF := lt_ex hF
        obtain ⟨K46, eK46, hF⟩ := hF
        have hK46 : ∀ (H : Heap) (locs : List Loc) (ls : Array Slot), K46 = some (v, M') → Wd D cA z ad N S P M H → va_S (fun q => z ≤ q) s.heap H locs → lv_has ls 5 [(0, .ref (ad 6 0)), (1, .int a1), (2, .int a2), (3, .int a3), (4, .int a4)] → W p l e rm6_ship s m args below meth c H locs 0 0 (MQ below (Qi D cA z v (ad, N, S, P, M')) args s 0 0 (fun q => z ≤ q)) (F0 m 46 ls []) := by
          intro H locs ls hF hW hS hl
          subst eK46
          refine lv_aload_n hx hb dX6_ship_46 rfl (lv_at hl 0 rfl) ?_
          refine g6_20 hx hb hts hi6_ship_6 hown hK hW (hts (.fieldLink RX6 81 RX6 "ships" "I") (by decide +kernel)) dX6_ship_47 ?_
          refine lv_bipush (v := (12 : Int32)) hx hb dX6_ship_50 (by decide) ?_
          refine lv_icmp_ne (tgt := 57) hx hb dX6_ship_52 (by decide) (fun hc => ?_) (fun hc => ?_)
          · replace hF := it_f hF hc
            refine lv_aload_n hx hb dX6_ship_57 rfl (lv_at hl 0 rfl) ?_
            refine g6_0 hx hb hts hi6_ship_6 hown hK hW (hts (.fieldLink RX6 7 RX6 "decks" "[I") (by decide +kernel)) dX6_ship_58 ?_
            refine lv_aload_n hx hb dX6_ship_61 rfl (lv_at hl 0 rfl) ?_
            refine g6_20 hx hb hts hi6_ship_6 hown hK hW (hts (.fieldLink RX6 81 RX6 "ships" "I") (by decide +kernel)) dX6_ship_62 ?_
            refine lv_iload_n hx hb dX6_ship_65 rfl (lv_at hl 1 rfl) ?_
            replace hF := ob hF
            obtain ⟨j7, ej7, hF⟩ := hF
            replace hF := lt_ex hF
            obtain ⟨M8, eM8, hF⟩ := hF
            refine t20 hx hb hK hW hS ej7 eM8 dX6_ship_66 ?_
            clear hW hS; intro H locs hW hS
            refine lv_aload_n hx hb dX6_ship_67 rfl (lv_at hl 0 rfl) ?_
            refine g6_1 hx hb hts hi6_ship_6 hown hK hW (hts (.fieldLink RX6 13 RX6 "lanes" "[I") (by decide +kernel)) dX6_ship_68 ?_
            refine lv_aload_n hx hb dX6_ship_71 rfl (lv_at hl 0 rfl) ?_
            refine g6_20 hx hb hts hi6_ship_6 hown hK hW (hts (.fieldLink RX6 81 RX6 "ships" "I") (by decide +kernel)) dX6_ship_72 ?_
            refine lv_iload_n hx hb dX6_ship_75 rfl (lv_at hl 2 rfl) ?_
            replace hF := ob hF
            obtain ⟨j9, ej9, hF⟩ := hF
            replace hF := lt_ex hF
            obtain ⟨M10, eM10, hF⟩ := hF
            refine t21 hx hb hK hW hS ej9 eM10 dX6_ship_76 ?_
            clear hW hS; intro H locs hW hS
            refine lv_aload_n hx hb dX6_ship_77 rfl (lv_at hl 0 rfl) ?_
            refine g6_2 hx hb hts hi6_ship_6 hown hK hW (hts (.fieldLink RX6 16 RX6 "lengths" "[I") (by decide +kernel)) dX6_ship_78 ?_
            refine lv_aload_n hx hb dX6_ship_81 rfl (lv_at hl 0 rfl) ?_
            refine g6_20 hx hb hts hi6_ship_6 hown hK hW (hts (.fieldLink RX6 81 RX6 "ships" "I") (by decide +kernel)) dX6_ship_82 ?_
            refine lv_iload_n hx hb dX6_ship_85 rfl (lv_at hl 3 rfl) ?_
            replace hF := ob hF
            obtain ⟨j11, ej11, hF⟩ := hF
            replace hF := lt_ex hF
            obtain ⟨M12, eM12, hF⟩ := hF
            refine t22 hx hb hK hW hS ej11 eM12 dX6_ship_86 ?_
            clear hW hS; intro H locs hW hS
            refine lv_aload_n hx hb dX6_ship_87 rfl (lv_at hl 0 rfl) ?_
            refine g6_3 hx hb hts hi6_ship_6 hown hK hW (hts (.fieldLink RX6 19 RX6 "half" "[Z") (by decide +kernel)) dX6_ship_88 ?_
            refine lv_aload_n hx hb dX6_ship_91 rfl (lv_at hl 0 rfl) ?_
            refine g6_20 hx hb hts hi6_ship_6 hown hK hW (hts (.fieldLink RX6 81 RX6 "ships" "I") (by decide +kernel)) dX6_ship_92 ?_
            refine lv_iload hx hb dX6_ship_95 (lv_at hl 4 rfl) ?_
            replace hF := ob hF
            obtain ⟨j13, ej13, hF⟩ := hF
            replace hF := it_ok hF
            obtain ⟨hz15, hF⟩ := hF
            replace hF := lt_ex hF
            obtain ⟨M14, eM14, hF⟩ := hF
            refine t23 hx hb hK hW hS ej13 hz15 eM14 dX6_ship_97 ?_
            clear hW hS; intro H locs hW hS
            refine lv_aload_n hx hb dX6_ship_98 rfl (lv_at hl 0 rfl) ?_
            refine lv_dup hx hb dX6_ship_99 rfl ?_
            refine g6_20 hx hb hts hi6_ship_6 hown hK hW (hts (.fieldLink RX6 81 RX6 "ships" "I") (by decide +kernel)) dX6_ship_100 ?_
            refine lv_iconst (v := (1 : Int32)) hx hb dX6_ship_103 (by decide) ?_
            refine lv_iadd hx hb dX6_ship_104 ?_
            replace hF := lt_ex hF
            obtain ⟨M16, eM16, hF⟩ := hF
            refine p6_20 hx hb hts hi6_ship_6 hown hK hW hS eM16 (hts (.fieldLink RX6 81 RX6 "ships" "I") (by decide +kernel)) dX6_ship_105 ?_
            clear hW hS; intro H locs hW hS
            refine lv_aload_n hx hb dX6_ship_108 rfl (lv_at hl 0 rfl) ?_
            refine g6_20 hx hb hts hi6_ship_6 hown hK hW (hts (.fieldLink RX6 81 RX6 "ships" "I") (by decide +kernel)) dX6_ship_109 ?_
            refine lv_iconst (v := (1 : Int32)) hx hb dX6_ship_112 (by decide) ?_
            refine lv_isub hx hb dX6_ship_113 ?_
            obtain ⟨hq1, hq2⟩ := Prod.mk.inj (Option.some.inj hF)
            subst hq1
            subst hq2
            exact e_i hx hb hr hlk hK hN hW hS dX6_ship_114
          · replace hF := it_t hF hc
            refine lv_iconst (v := (-1 : Int32)) hx hb dX6_ship_55 (by decide) ?_
            obtain ⟨hq1, hq2⟩ := Prod.mk.inj (Option.some.inj hF)
            subst hq1
            subst hq2
            exact e_i hx hb hr hlk hK hN hW hS dX6_ship_56
        clear eK46
        refine lv_if_eq (tgt := 46) hx hb dX6_ship_33 (by decide) (fun hc => ?_) (fun hc => ?_)
        · replace hF := it_t hF hc
          exact hK46 _ _ _ hF hW hS (lv_sub hl [0, 1, 2, 3, 4] rfl)
        · replace hF := it_f hF hc
          refine lv_iload_n hx hb dX6_ship_36 rfl (lv_at hl 1 rfl) ?_
          refine lv_iconst (v := (2 : Int32)) hx hb dX6_ship_37 (by decide) ?_
          refine lv_icmp_lt (tgt := 55) hx hb dX6_ship_38 (by decide) (fun hc => ?_) (fun hc => ?_)
          · replace hF := it_t hF hc
            refine lv_iconst (v := (-1 : Int32)) hx hb dX6_ship_55 (by decide) ?_
            obtain ⟨hq1, hq2⟩ := Prod.mk.inj (Option.some.inj hF)
            subst hq1
            subst hq2
            exact e_i hx hb hr hlk hK hN hW hS dX6_ship_56
          · replace hF := it_f hF hc
            refine lv_iload_n hx hb dX6_ship_41 rfl (lv_at hl 2 rfl) ?_
            refine lv_iconst (v := (2 : Int32)) hx hb dX6_ship_42 (by decide) ?_
            refine lv_icmp_lt (tgt := 55) hx hb dX6_ship_43 (by decide) (fun hc => ?_) (fun hc => ?_)
            · replace hF := it_t hF hc
              refine lv_iconst (v := (-1 : Int32)) hx hb dX6_ship_55 (by decide) ?_
              obtain ⟨hq1, hq2⟩ := Prod.mk.inj (Option.some.inj hF)
              subst hq1
              subst hq2
              exact e_i hx hb hr hlk hK hN hW hS dX6_ship_56
            · replace hF := it_f hF hc
              exact hK46 _ _ _ hF hW hS (lv_sub hl [0, 1, 2, 3, 4] rfl)

set_option maxHeartbeats 4000000 in
set_option maxRecDepth 100000 in
theorem c6_ship (l : Launch) {D : va_G} {cA : Nat → ClassId} {z : Nat} {ad : Nat → Nat → Nat} {N : TN} {S : TS} {P : TP} {M : TS} (a1 : Int32) (a2 : Int32) (a3 : Int32) (a4 : Int32) {v : Int32} {M' : TS} (hF : f6_ship M a1 a2 a3 a4 = some (v, M')) : Met l yX6_ship wsX6_ship rm6_ship (va_Pc [.ref (ad 6 0), .int a1, .int a2, .int a3, .int a4] (Wl D cA z (ad, N, S, P, M))) (Qi D cA z v (ad, N, S, P, M')) 0 0 (fun q => z ≤ q) := by
  refine Met.ofW (cc := cX6_ship) (maxL := 5) (ret := (some .int)) (by decide) rfl ?_
  intro p e s m args below meth c s₁ B hml hv
  obtain ⟨rfl, hW, hK, hN⟩ := hv
  have hl := lv_entry ([.ref (ad 6 0), .int a1, .int a2, .int a3, .int a4]) (n := 5) (Nat.le_of_ble_eq_true rfl)
  rw [lg_entry_eq]
  generalize (lg_sl ([.ref (ad 6 0), .int a1, .int a2, .int a3, .int a4]) ++ List.replicate (5 - (lg_sl ([.ref (ad 6 0), .int a1, .int a2, .int a3, .int a4])).length) Slot.unset).toArray = ls at hl ⊢
  exact w6_ship ⟨B.exec, B.bytes, B.returns, hml, findClass_of_methodNamed B.named, atoms_spec (ws := wsX6_ship) B.pre, B.notSynchronized⟩ hK hN a1 a2 a3 a4 hF hW va_S.rf hl

-- 6 shipOf
abbrev rm6_shipOf : Room := { frames := 2, cells := 0, slots := 0, locals := 44 }
def f6_shipOf_91 (K : Int32 → Option (Int32)) (M : TS) (c1 : Int32) : Nat → Int32 → Int32 → Option (Int32)
  | 0, _, _ => none
  | n + 1, y3, y4 =>
    if (M 621 0) ≤ y4 then
    (K y3)
    else
    ((ix y4 120).bind fun (j7 : Nat) =>
    lt (if (M 2400 j7) = c1 then (1 : Int32) else (0 : Int32)) fun (x8 : Int32) =>
    f6_shipOf_91 K M c1 n (y3 + x8) (y4 + 1))

def f6_shipOf_137 (K : Int32 → Option (Int32)) (M : TS) (c4 : Int32) : Nat → Int32 → Int32 → Option (Int32)
  | 0, _, _ => none
  | n + 1, y3, y5 =>
    if (M 623 0) ≤ y5 then
    (K y3)
    else
    (if c4 = (-1 : Int32) then
    (K y3)
    else
    ((f6_isAboard M y5 c4).bind fun (v12 : Int32) =>
    lt (if v12 = 0 then (0 : Int32) else (1 : Int32)) fun (x14 : Int32) =>
    f6_shipOf_137 K M c4 n (y3 + x14) (y5 + 1)))

def f6_shipOf (M : TS) (a1 : Int32) (a2 : Int32) : Option (Int32) :=
  (f6_isShip M a1).bind fun (v1 : Int32) =>
  if v1 = 0 then
  (some (-1 : Int32))
  else
  (if a2 = 0 then
  ((ix a1 12).bind fun (j3 : Nat) =>
  some (M 2000 j3))
  else
  (if a2 = 1 then
  ((ix a1 12).bind fun (j4 : Nat) =>
  some (M 2100 j4))
  else
  (if a2 = 2 then
  ((ix a1 12).bind fun (j5 : Nat) =>
  some (M 2200 j5))
  else
  (if a2 = 3 then
  ((ix a1 12).bind fun (j6 : Nat) =>
  if (M 2300 j6) = 0 then
  (some (0 : Int32))
  else
  (some (1 : Int32)))
  else
  (if a2 = 4 then
  (f6_shipOf_91 (fun (w9 : Int32) =>
  some w9) M a1 FU (0 : Int32) (0 : Int32))
  else
  (if a2 = 5 then
  ((f6_openOf M a1).bind fun (v10 : Int32) =>
  f6_shipOf_137 (fun (w15 : Int32) =>
  some w15) M v10 FU (0 : Int32) (0 : Int32))
  else
  (some (-1 : Int32))))))))
set_option maxRecDepth 20000 in
theorem hi6_shipOf_6 : ∀ w ∈ u_ws RX6 TX6 31, w ∈ wsX6_shipOf := by decide +kernel
set_option maxHeartbeats 4000000 in
set_option maxRecDepth 100000 in
theorem w6_shipOf_91 {p : Program} {l : Launch} {e : Env} {s : State} {m : MethodId} {args : Array Value} {below : List Frame} {meth : Method} {c : Code} (C : MC p s m args meth c cX6_shipOf (some .int) 6 RX6 wsX6_shipOf) {D : va_G} {cA : Nat → ClassId} {z : Nat} {ad : Nat → Nat → Nat} {N : TN} (hK : va_K D vwCl (tysW cA) s) (hN : NW s) {S : TS} {P : TP} {M : TS} (c1 : Int32) {v : Int32} {K : Int32 → Option (Int32)}
    (hE : ∀ (e3 : Int32) (H : Heap) (locs : List Loc) (ls : Array Slot), K e3 = some v → Wd D cA z ad N S P M H → va_S (fun q => z ≤ q) s.heap H locs → lv_has ls 6 [(3, .int e3)] → W p l e rm6_shipOf s m args below meth c H locs 0 0 (MQ below (Qi D cA z v (ad, N, S, P, M)) args s 0 0 (fun q => z ≤ q)) (F0 m 125 ls [])) :
    ∀ (n : Nat) (y3 : Int32) (y4 : Int32) (H : Heap) (locs : List Loc) (ls : Array Slot), f6_shipOf_91 K M c1 n y3 y4 = some v → Wd D cA z ad N S P M H → va_S (fun q => z ≤ q) s.heap H locs → lv_has ls 6 [(0, .ref (ad 6 0)), (1, .int c1), (3, .int y3), (4, .int y4)] → W p l e rm6_shipOf s m args below meth c H locs 0 0 (MQ below (Qi D cA z v (ad, N, S, P, M)) args s 0 0 (fun q => z ≤ q)) (F0 m 91 ls []) := by
  obtain ⟨hx, hb, hr, hml, hown, hts, hlk⟩ := id C
  intro n
  induction n with
  | zero => intro y3 y4 H locs ls hF; cases hF
  | succ n ih =>
    intro y3 y4 H locs ls hF hW hS hl
    rw [f6_shipOf_91] at hF
    refine lv_iload hx hb dX6_shipOf_91 (lv_at hl 3 rfl) ?_
    refine lv_aload_n hx hb dX6_shipOf_93 rfl (lv_at hl 0 rfl) ?_
    refine g6_21 hx hb hts hi6_shipOf_6 hown hK hW (hts (.fieldLink RX6 92 RX6 "cabins" "I") (by decide +kernel)) dX6_shipOf_94 ?_
    refine lv_icmp_ge (tgt := 125) hx hb dX6_shipOf_97 (by decide) (fun hc => ?_) (fun hc => ?_)
    · replace hF := it_t hF hc
      exact hE y3 _ _ _ hF hW hS (lv_sub hl [2] rfl)
    · replace hF := it_f hF hc
      refine lv_iload_n hx hb dX6_shipOf_100 rfl (lv_at hl 2 rfl) ?_
      refine lv_aload_n hx hb dX6_shipOf_101 rfl (lv_at hl 0 rfl) ?_
      refine g6_4 hx hb hts hi6_shipOf_6 hown hK hW (hts (.fieldLink RX6 23 RX6 "cabinShip" "[I") (by decide +kernel)) dX6_shipOf_102 ?_
      refine lv_iload hx hb dX6_shipOf_105 (lv_at hl 3 rfl) ?_
      replace hF := ob hF
      obtain ⟨j7, ej7, hF⟩ := hF
      refine l24 hx hb hK hW ej7 dX6_shipOf_107 ?_
      refine lv_iload_n hx hb dX6_shipOf_108 rfl (lv_at hl 1 rfl) ?_
      replace hF := lt_ex hF
      obtain ⟨x8, ex8, hF⟩ := hF
      have hJ : W p l e rm6_shipOf s m args below meth c H locs 0 0 (MQ below (Qi D cA z v (ad, N, S, P, M)) args s 0 0 (fun q => z ≤ q)) (F0 m 117 ls [.int x8, .int y3]) := by
        refine lv_iadd hx hb dX6_shipOf_117 ?_
        refine lv_istore_n (lv' := [(3, .int (y3 + x8)), (0, .ref (ad 6 0)), (1, .int c1), (4, .int y4)]) hx hb dX6_shipOf_118 rfl hl (by decide) rfl ?_
        clear hl; intro ls hl
        refine lv_iinc (v := y4 + 1) (lv' := [(4, .int (y4 + 1)), (3, .int (y3 + x8)), (0, .ref (ad 6 0)), (1, .int c1)]) hx hb dX6_shipOf_119 hl (k := 3) rfl rfl (by decide) rfl ?_
        clear hl; intro ls hl
        refine lv_goto (tgt := 91) hx hb dX6_shipOf_122 (by decide) ?_
        exact ih (y3 + x8) (y4 + 1) _ _ _ hF hW hS (lv_sub hl [2, 3, 1, 0] rfl)
      refine lv_icmp_ne (tgt := 116) hx hb dX6_shipOf_109 (by decide) (fun hc => ?_) (fun hc => ?_)
      · refine lv_iconst (v := (0 : Int32)) hx hb dX6_shipOf_116 (by decide) ?_
        exact W.eq (by rw [ex8, if_neg hc]) hJ
      · refine lv_iconst (v := (1 : Int32)) hx hb dX6_shipOf_112 (by decide) ?_
        refine lv_goto (tgt := 117) hx hb dX6_shipOf_113 (by decide) ?_
        exact W.eq (by rw [ex8, if_pos hc]) hJ

set_option maxHeartbeats 4000000 in
set_option maxRecDepth 100000 in
theorem w6_shipOf_137 {p : Program} {l : Launch} {e : Env} {s : State} {m : MethodId} {args : Array Value} {below : List Frame} {meth : Method} {c : Code} (C : MC p s m args meth c cX6_shipOf (some .int) 6 RX6 wsX6_shipOf) {D : va_G} {cA : Nat → ClassId} {z : Nat} {ad : Nat → Nat → Nat} {N : TN} (hK : va_K D vwCl (tysW cA) s) (hN : NW s) {S : TS} {P : TP} {M : TS} (c4 : Int32) {v : Int32} {K : Int32 → Option (Int32)}
    (hE : ∀ (e3 : Int32) (H : Heap) (locs : List Loc) (ls : Array Slot), K e3 = some v → Wd D cA z ad N S P M H → va_S (fun q => z ≤ q) s.heap H locs → lv_has ls 6 [(3, .int e3)] → W p l e rm6_shipOf s m args below meth c H locs 0 0 (MQ below (Qi D cA z v (ad, N, S, P, M)) args s 0 0 (fun q => z ≤ q)) (F0 m 177 ls [])) :
    ∀ (n : Nat) (y3 : Int32) (y5 : Int32) (H : Heap) (locs : List Loc) (ls : Array Slot), f6_shipOf_137 K M c4 n y3 y5 = some v → Wd D cA z ad N S P M H → va_S (fun q => z ≤ q) s.heap H locs → lv_has ls 6 [(0, .ref (ad 6 0)), (3, .int y3), (4, .int c4), (5, .int y5)] → W p l e rm6_shipOf s m args below meth c H locs 0 0 (MQ below (Qi D cA z v (ad, N, S, P, M)) args s 0 0 (fun q => z ≤ q)) (F0 m 137 ls []) := by
  obtain ⟨hx, hb, hr, hml, hown, hts, hlk⟩ := id C
  intro n
  induction n with
  | zero => intro y3 y5 H locs ls hF; cases hF
  | succ n ih =>
    intro y3 y5 H locs ls hF hW hS hl
    rw [f6_shipOf_137] at hF
    refine lv_iload hx hb dX6_shipOf_137 (lv_at hl 3 rfl) ?_
    refine lv_aload_n hx hb dX6_shipOf_139 rfl (lv_at hl 0 rfl) ?_
    refine g6_23 hx hb hts hi6_shipOf_6 hown hK hW (hts (.fieldLink RX6 74 RX6 "tickets" "I") (by decide +kernel)) dX6_shipOf_140 ?_
    refine lv_icmp_ge (tgt := 177) hx hb dX6_shipOf_143 (by decide) (fun hc => ?_) (fun hc => ?_)
    · replace hF := it_t hF hc
      exact hE y3 _ _ _ hF hW hS (lv_sub hl [1] rfl)
    · replace hF := it_f hF hc
      refine lv_iload hx hb dX6_shipOf_146 (lv_at hl 2 rfl) ?_
      refine lv_iconst (v := (-1 : Int32)) hx hb dX6_shipOf_148 (by decide) ?_
      refine lv_icmp_eq (tgt := 177) hx hb dX6_shipOf_149 (by decide) (fun hc => ?_) (fun hc => ?_)
      · replace hF := it_t hF hc
        exact hE y3 _ _ _ hF hW hS (lv_sub hl [1] rfl)
      · replace hF := it_f hF hc
        refine lv_iload_n hx hb dX6_shipOf_152 rfl (lv_at hl 1 rfl) ?_
        refine lv_aload_n hx hb dX6_shipOf_153 rfl (lv_at hl 0 rfl) ?_
        refine lv_iload hx hb dX6_shipOf_154 (lv_at hl 3 rfl) ?_
        refine lv_iload hx hb dX6_shipOf_156 (lv_at hl 2 rfl) ?_
        replace hF := ob hF
        obtain ⟨v12, q13, hF⟩ := hF
        refine k_i (va_runV (As := [.int y5, .int c4]) (rest := [.int y3]) ⟨hx, hb, hml, hown, hts⟩ (c6_isAboard l y5 c4 q13) (cwV 2 hts gX6_shipOf_X6_isAboard rfl rfl rfl (by decide +kernel) ⟨Nat.le_of_ble_eq_true rfl, Nat.le_of_ble_eq_true rfl⟩) (k_preV hW hK hN (hW.fx 6 rfl) (EE_6 cA ad S P M 0) rfl) rfl rfl hl.1 rfl (lv_room (Nat.le_of_ble_eq_true rfl)) dX6_shipOf_158 ⟨Nat.le_of_ble_eq_true rfl, Nat.le_of_ble_eq_true rfl⟩) hS ?_
        clear hW hS; intro H locs hW hS
        replace hF := lt_ex hF
        obtain ⟨x14, ex14, hF⟩ := hF
        have hJ : W p l e rm6_shipOf s m args below meth c H locs 0 0 (MQ below (Qi D cA z v (ad, N, S, P, M)) args s 0 0 (fun q => z ≤ q)) (F0 m 169 ls [.int x14, .int y3]) := by
          refine lv_iadd hx hb dX6_shipOf_169 ?_
          refine lv_istore_n (lv' := [(3, .int (y3 + x14)), (0, .ref (ad 6 0)), (4, .int c4), (5, .int y5)]) hx hb dX6_shipOf_170 rfl hl (by decide) rfl ?_
          clear hl; intro ls hl
          refine lv_iinc (v := y5 + 1) (lv' := [(5, .int (y5 + 1)), (3, .int (y3 + x14)), (0, .ref (ad 6 0)), (4, .int c4)]) hx hb dX6_shipOf_171 hl (k := 3) rfl rfl (by decide) rfl ?_
          clear hl; intro ls hl
          refine lv_goto (tgt := 137) hx hb dX6_shipOf_174 (by decide) ?_
          exact ih (y3 + x14) (y5 + 1) _ _ _ hF hW hS (lv_sub hl [2, 1, 3, 0] rfl)
        refine lv_if_eq (tgt := 168) hx hb dX6_shipOf_161 (by decide) (fun hc => ?_) (fun hc => ?_)
        · refine lv_iconst (v := (0 : Int32)) hx hb dX6_shipOf_168 (by decide) ?_
          exact W.eq (by rw [ex14, if_pos hc]) hJ
        · refine lv_iconst (v := (1 : Int32)) hx hb dX6_shipOf_164 (by decide) ?_
          refine lv_goto (tgt := 169) hx hb dX6_shipOf_165 (by decide) ?_
          exact W.eq (by rw [ex14, if_neg hc]) hJ

set_option maxHeartbeats 4000000 in
set_option maxRecDepth 100000 in
theorem w6_shipOf {p : Program} {l : Launch} {e : Env} {s : State} {m : MethodId} {args : Array Value} {below : List Frame} {meth : Method} {c : Code} (C : MC p s m args meth c cX6_shipOf (some .int) 6 RX6 wsX6_shipOf) {D : va_G} {cA : Nat → ClassId} {z : Nat} {ad : Nat → Nat → Nat} {N : TN} (hK : va_K D vwCl (tysW cA) s) (hN : NW s) {S : TS} {P : TP} {M : TS} (a1 : Int32) (a2 : Int32) {v : Int32} (hF : f6_shipOf M a1 a2 = some v)
    {H : Heap} {ls : Array Slot} (hW : Wd D cA z ad N S P M H) {locs : List Loc} (hS : va_S (fun q => z ≤ q) s.heap H locs) (hl : lv_has ls 6 [(0, .ref (ad 6 0)), (1, .int a1), (2, .int a2)]) : W p l e rm6_shipOf s m args below meth c H locs 0 0 (MQ below (Qi D cA z v (ad, N, S, P, M)) args s 0 0 (fun q => z ≤ q)) (F0 m 0 ls []) := by
  obtain ⟨hx, hb, hr, hml, hown, hts, hlk⟩ := id C
  unfold f6_shipOf at hF
  refine lv_aload_n hx hb dX6_shipOf_0 rfl (lv_at hl 0 rfl) ?_
  refine lv_iload_n hx hb dX6_shipOf_1 rfl (lv_at hl 1 rfl) ?_
  replace hF := ob hF
  obtain ⟨v1, q2, hF⟩ := hF
  refine k_i (va_runV (As := [.int a1]) (rest := []) ⟨hx, hb, hml, hown, hts⟩ (c6_isShip l a1 q2) (cwV 1 hts gX6_shipOf_X6_isShip rfl rfl rfl (by decide +kernel) ⟨Nat.le_of_ble_eq_true rfl, Nat.le_of_ble_eq_true rfl⟩) (k_preV hW hK hN (hW.fx 6 rfl) (EE_6 cA ad S P M 0) rfl) rfl rfl hl.1 rfl (lv_room (Nat.le_of_ble_eq_true rfl)) dX6_shipOf_2 ⟨Nat.le_of_ble_eq_true rfl, Nat.le_of_ble_eq_true rfl⟩) hS ?_
  clear hW hS; intro H locs hW hS
  refine lv_if_ne (tgt := 10) hx hb dX6_shipOf_5 (by decide) (fun hc => ?_) (fun hc => ?_)
  · replace hF := it_f hF hc
    refine lv_iconst (v := (0 : Int32)) hx hb dX6_shipOf_10 (by decide) ?_
    refine lv_istore_n (lv' := [(3, .int (0 : Int32)), (0, .ref (ad 6 0)), (1, .int a1), (2, .int a2)]) hx hb dX6_shipOf_11 rfl hl (by decide) rfl ?_
    clear hl; intro ls hl
    refine lv_iload_n hx hb dX6_shipOf_12 rfl (lv_at hl 3 rfl) ?_
    by_cases hn0 : a2 = 0
    · replace hF := it_t hF hn0
      refine lv_tableIn (off := 39) (tgt := 52) hx hb dX6_shipOf_13 (by rw [hn0]; decide) (by rw [hn0]; decide) (by rw [hn0]; rfl) (by decide) ?_
      refine lv_aload_n hx hb dX6_shipOf_52 rfl (lv_at hl 1 rfl) ?_
      refine g6_0 hx hb hts hi6_shipOf_6 hown hK hW (hts (.fieldLink RX6 7 RX6 "decks" "[I") (by decide +kernel)) dX6_shipOf_53 ?_
      refine lv_iload_n hx hb dX6_shipOf_56 rfl (lv_at hl 2 rfl) ?_
      replace hF := ob hF
      obtain ⟨j3, ej3, hF⟩ := hF
      refine l20 hx hb hK hW ej3 dX6_shipOf_57 ?_
      have hq1 := Option.some.inj hF
      subst hq1
      exact e_i hx hb hr hlk hK hN hW hS dX6_shipOf_58
    · replace hF := it_f hF hn0
      by_cases hn1 : a2 = 1
      · replace hF := it_t hF hn1
        refine lv_tableIn (off := 46) (tgt := 59) hx hb dX6_shipOf_13 (by rw [hn1]; decide) (by rw [hn1]; decide) (by rw [hn1]; rfl) (by decide) ?_
        refine lv_aload_n hx hb dX6_shipOf_59 rfl (lv_at hl 1 rfl) ?_
        refine g6_1 hx hb hts hi6_shipOf_6 hown hK hW (hts (.fieldLink RX6 13 RX6 "lanes" "[I") (by decide +kernel)) dX6_shipOf_60 ?_
        refine lv_iload_n hx hb dX6_shipOf_63 rfl (lv_at hl 2 rfl) ?_
        replace hF := ob hF
        obtain ⟨j4, ej4, hF⟩ := hF
        refine l21 hx hb hK hW ej4 dX6_shipOf_64 ?_
        have hq1 := Option.some.inj hF
        subst hq1
        exact e_i hx hb hr hlk hK hN hW hS dX6_shipOf_65
      · replace hF := it_f hF hn1
        by_cases hn2 : a2 = 2
        · replace hF := it_t hF hn2
          refine lv_tableIn (off := 53) (tgt := 66) hx hb dX6_shipOf_13 (by rw [hn2]; decide) (by rw [hn2]; decide) (by rw [hn2]; rfl) (by decide) ?_
          refine lv_aload_n hx hb dX6_shipOf_66 rfl (lv_at hl 1 rfl) ?_
          refine g6_2 hx hb hts hi6_shipOf_6 hown hK hW (hts (.fieldLink RX6 16 RX6 "lengths" "[I") (by decide +kernel)) dX6_shipOf_67 ?_
          refine lv_iload_n hx hb dX6_shipOf_70 rfl (lv_at hl 2 rfl) ?_
          replace hF := ob hF
          obtain ⟨j5, ej5, hF⟩ := hF
          refine l22 hx hb hK hW ej5 dX6_shipOf_71 ?_
          have hq1 := Option.some.inj hF
          subst hq1
          exact e_i hx hb hr hlk hK hN hW hS dX6_shipOf_72
        · replace hF := it_f hF hn2
          by_cases hn3 : a2 = 3
          · replace hF := it_t hF hn3
            refine lv_tableIn (off := 60) (tgt := 73) hx hb dX6_shipOf_13 (by rw [hn3]; decide) (by rw [hn3]; decide) (by rw [hn3]; rfl) (by decide) ?_
            refine lv_aload_n hx hb dX6_shipOf_73 rfl (lv_at hl 1 rfl) ?_
            refine g6_3 hx hb hts hi6_shipOf_6 hown hK hW (hts (.fieldLink RX6 19 RX6 "half" "[Z") (by decide +kernel)) dX6_shipOf_74 ?_
            refine lv_iload_n hx hb dX6_shipOf_77 rfl (lv_at hl 2 rfl) ?_
            replace hF := ob hF
            obtain ⟨j6, ej6, hF⟩ := hF
            refine l23 hx hb hK hW ej6 dX6_shipOf_78 ?_
            refine lv_if_eq (tgt := 86) hx hb dX6_shipOf_79 (by decide) (fun hc => ?_) (fun hc => ?_)
            · replace hF := it_t hF hc
              refine lv_iconst (v := (0 : Int32)) hx hb dX6_shipOf_86 (by decide) ?_
              have hq1 := Option.some.inj hF
              subst hq1
              exact e_i hx hb hr hlk hK hN hW hS dX6_shipOf_87
            · replace hF := it_f hF hc
              refine lv_iconst (v := (1 : Int32)) hx hb dX6_shipOf_82 (by decide) ?_
              refine lv_goto (tgt := 87) hx hb dX6_shipOf_83 (by decide) ?_
              have hq1 := Option.some.inj hF
              subst hq1
              exact e_i hx hb hr hlk hK hN hW hS dX6_shipOf_87
          · replace hF := it_f hF hn3
            by_cases hn4 : a2 = 4
            · replace hF := it_t hF hn4
              refine lv_tableIn (off := 75) (tgt := 88) hx hb dX6_shipOf_13 (by rw [hn4]; decide) (by rw [hn4]; decide) (by rw [hn4]; rfl) (by decide) ?_
              refine lv_iconst (v := (0 : Int32)) hx hb dX6_shipOf_88 (by decide) ?_
              refine lv_istore (lv' := [(4, .int (0 : Int32)), (3, .int (0 : Int32)), (0, .ref (ad 6 0)), (1, .int a1), (2, .int a2)]) hx hb dX6_shipOf_89 hl (by decide) rfl ?_
              clear hl; intro ls hl
              refine w6_shipOf_91 C hK hN a1 (hE := ?_) FU (0 : Int32) (0 : Int32) _ _ _ hF hW hS (lv_sub hl [2, 3, 1, 0] rfl)
              intro w9 H locs ls hF hW hS hl
              refine lv_iload_n hx hb dX6_shipOf_125 rfl (lv_at hl 0 rfl) ?_
              have hq1 := Option.some.inj hF
              subst hq1
              exact e_i hx hb hr hlk hK hN hW hS dX6_shipOf_126
            · replace hF := it_f hF hn4
              by_cases hn5 : a2 = 5
              · replace hF := it_t hF hn5
                refine lv_tableIn (off := 114) (tgt := 127) hx hb dX6_shipOf_13 (by rw [hn5]; decide) (by rw [hn5]; decide) (by rw [hn5]; rfl) (by decide) ?_
                refine lv_aload_n hx hb dX6_shipOf_127 rfl (lv_at hl 1 rfl) ?_
                refine lv_iload_n hx hb dX6_shipOf_128 rfl (lv_at hl 2 rfl) ?_
                replace hF := ob hF
                obtain ⟨v10, q11, hF⟩ := hF
                refine k_i (va_runV (As := [.int a1]) (rest := []) ⟨hx, hb, hml, hown, hts⟩ (c6_openOf l a1 q11) (cwV 1 hts gX6_shipOf_X6_openOf rfl rfl rfl (by decide +kernel) ⟨Nat.le_of_ble_eq_true rfl, Nat.le_of_ble_eq_true rfl⟩) (k_preV hW hK hN (hW.fx 6 rfl) (EE_6 cA ad S P M 0) rfl) rfl rfl hl.1 rfl (lv_room (Nat.le_of_ble_eq_true rfl)) dX6_shipOf_129 ⟨Nat.le_of_ble_eq_true rfl, Nat.le_of_ble_eq_true rfl⟩) hS ?_
                clear hW hS; intro H locs hW hS
                refine lv_istore (lv' := [(4, .int v10), (3, .int (0 : Int32)), (0, .ref (ad 6 0)), (1, .int a1), (2, .int a2)]) hx hb dX6_shipOf_132 hl (by decide) rfl ?_
                clear hl; intro ls hl
                refine lv_iconst (v := (0 : Int32)) hx hb dX6_shipOf_134 (by decide) ?_
                refine lv_istore (lv' := [(5, .int (0 : Int32)), (4, .int v10), (3, .int (0 : Int32)), (0, .ref (ad 6 0)), (1, .int a1), (2, .int a2)]) hx hb dX6_shipOf_135 hl (by decide) rfl ?_
                clear hl; intro ls hl
                refine w6_shipOf_137 C hK hN v10 (hE := ?_) FU (0 : Int32) (0 : Int32) _ _ _ hF hW hS (lv_sub hl [3, 2, 1, 0] rfl)
                intro w15 H locs ls hF hW hS hl
                refine lv_iload_n hx hb dX6_shipOf_177 rfl (lv_at hl 0 rfl) ?_
                have hq1 := Option.some.inj hF
                subst hq1
                exact e_i hx hb hr hlk hK hN hW hS dX6_shipOf_178
              · replace hF := it_f hF hn5
                have hq0 := sw_ne hn0 (n := 0) (by decide)
                have hq1 := sw_ne hn1 (n := 1) (by decide)
                have hq2 := sw_ne hn2 (n := 2) (by decide)
                have hq3 := sw_ne hn3 (n := 3) (by decide)
                have hq4 := sw_ne hn4 (n := 4) (by decide)
                have hq5 := sw_ne hn5 (n := 5) (by decide)
                refine lv_tableOut (tgt := 179) hx hb dX6_shipOf_13 (by omega) (by decide) ?_
                refine lv_iconst (v := (-1 : Int32)) hx hb dX6_shipOf_179 (by decide) ?_
                have hq1 := Option.some.inj hF
                subst hq1
                exact e_i hx hb hr hlk hK hN hW hS dX6_shipOf_180
  · replace hF := it_t hF hc
    refine lv_iconst (v := (-1 : Int32)) hx hb dX6_shipOf_8 (by decide) ?_
    have hq1 := Option.some.inj hF
    subst hq1
    exact e_i hx hb hr hlk hK hN hW hS dX6_shipOf_9

set_option maxHeartbeats 4000000 in
set_option maxRecDepth 100000 in
theorem c6_shipOf (l : Launch) {D : va_G} {cA : Nat → ClassId} {z : Nat} {ad : Nat → Nat → Nat} {N : TN} {S : TS} {P : TP} {M : TS} (a1 : Int32) (a2 : Int32) {v : Int32} (hF : f6_shipOf M a1 a2 = some v) : Met l yX6_shipOf wsX6_shipOf rm6_shipOf (va_Pc [.ref (ad 6 0), .int a1, .int a2] (Wl D cA z (ad, N, S, P, M))) (Qi D cA z v (ad, N, S, P, M)) 0 0 (fun q => z ≤ q) := by
  refine Met.ofW (cc := cX6_shipOf) (maxL := 6) (ret := (some .int)) (by decide) rfl ?_
  intro p e s m args below meth c s₁ B hml hv
  obtain ⟨rfl, hW, hK, hN⟩ := hv
  have hl := lv_entry ([.ref (ad 6 0), .int a1, .int a2]) (n := 6) (Nat.le_of_ble_eq_true rfl)
  rw [lg_entry_eq]
  generalize (lg_sl ([.ref (ad 6 0), .int a1, .int a2]) ++ List.replicate (6 - (lg_sl ([.ref (ad 6 0), .int a1, .int a2])).length) Slot.unset).toArray = ls at hl ⊢
  exact w6_shipOf ⟨B.exec, B.bytes, B.returns, hml, findClass_of_methodNamed B.named, atoms_spec (ws := wsX6_shipOf) B.pre, B.notSynchronized⟩ hK hN a1 a2 hF hW va_S.rf hl

-- 6 ticketOf
abbrev rm6_ticketOf : Room := { frames := 1, cells := 0, slots := 0, locals := 22 }
def f6_ticketOf (M : TS) (a1 : Int32) (a2 : Int32) : Option (Int32) :=
  (f6_isTicket M a1).bind fun (v1 : Int32) =>
  if v1 = 0 then
  (some (-1 : Int32))
  else
  ((f6_isIn a2 (0 : Int32) (12 : Int32)).bind fun (v3 : Int32) =>
  if v3 = 0 then
  (some (-1 : Int32))
  else
  ((f6_of M a1 a2).bind fun (v5 : Int32) =>
  some v5))
set_option maxHeartbeats 4000000 in
set_option maxRecDepth 100000 in
theorem w6_ticketOf {p : Program} {l : Launch} {e : Env} {s : State} {m : MethodId} {args : Array Value} {below : List Frame} {meth : Method} {c : Code} (C : MC p s m args meth c cX6_ticketOf (some .int) 3 RX6 wsX6_ticketOf) {D : va_G} {cA : Nat → ClassId} {z : Nat} {ad : Nat → Nat → Nat} {N : TN} (hK : va_K D vwCl (tysW cA) s) (hN : NW s) {S : TS} {P : TP} {M : TS} (a1 : Int32) (a2 : Int32) {v : Int32} (hF : f6_ticketOf M a1 a2 = some v)
    {H : Heap} {ls : Array Slot} (hW : Wd D cA z ad N S P M H) {locs : List Loc} (hS : va_S (fun q => z ≤ q) s.heap H locs) (hl : lv_has ls 3 [(0, .ref (ad 6 0)), (1, .int a1), (2, .int a2)]) : W p l e rm6_ticketOf s m args below meth c H locs 0 0 (MQ below (Qi D cA z v (ad, N, S, P, M)) args s 0 0 (fun q => z ≤ q)) (F0 m 0 ls []) := by
  obtain ⟨hx, hb, hr, hml, hown, hts, hlk⟩ := id C
  unfold f6_ticketOf at hF
  refine lv_aload_n hx hb dX6_ticketOf_0 rfl (lv_at hl 0 rfl) ?_
  refine lv_iload_n hx hb dX6_ticketOf_1 rfl (lv_at hl 1 rfl) ?_
  replace hF := ob hF
  obtain ⟨v1, q2, hF⟩ := hF
  refine k_i (va_runV (As := [.int a1]) (rest := []) ⟨hx, hb, hml, hown, hts⟩ (c6_isTicket l a1 q2) (cwV 1 hts gX6_ticketOf_X6_isTicket rfl rfl rfl (by decide +kernel) ⟨Nat.le_of_ble_eq_true rfl, Nat.le_of_ble_eq_true rfl⟩) (k_preV hW hK hN (hW.fx 6 rfl) (EE_6 cA ad S P M 0) rfl) rfl rfl hl.1 rfl (lv_room (Nat.le_of_ble_eq_true rfl)) dX6_ticketOf_2 ⟨Nat.le_of_ble_eq_true rfl, Nat.le_of_ble_eq_true rfl⟩) hS ?_
  clear hW hS; intro H locs hW hS
  refine lv_if_eq (tgt := 27) hx hb dX6_ticketOf_5 (by decide) (fun hc => ?_) (fun hc => ?_)
  · replace hF := it_t hF hc
    refine lv_iconst (v := (-1 : Int32)) hx hb dX6_ticketOf_27 (by decide) ?_
    have hq1 := Option.some.inj hF
    subst hq1
    exact e_i hx hb hr hlk hK hN hW hS dX6_ticketOf_28
  · replace hF := it_f hF hc
    refine lv_iload_n hx hb dX6_ticketOf_8 rfl (lv_at hl 2 rfl) ?_
    refine lv_iconst (v := (0 : Int32)) hx hb dX6_ticketOf_9 (by decide) ?_
    refine lv_bipush (v := (12 : Int32)) hx hb dX6_ticketOf_10 (by decide) ?_
    replace hF := ob hF
    obtain ⟨v3, q4, hF⟩ := hF
    refine k_i (va_runS (As := [.int a2, .int (0 : Int32), .int (12 : Int32)]) (rest := []) ⟨hx, hb, hml, hown, hts⟩ (c6_isIn l a2 (0 : Int32) (12 : Int32) q4) (va_cwS 3 hts gX6_ticketOf_X6_isIn rfl rfl rfl (by decide +kernel) ⟨Nat.le_of_ble_eq_true rfl, Nat.le_of_ble_eq_true rfl⟩) (k_preS hW hK hN) rfl rfl hl.1 rfl (lv_room (Nat.le_of_ble_eq_true rfl)) dX6_ticketOf_12 ⟨Nat.le_of_ble_eq_true rfl, Nat.le_of_ble_eq_true rfl⟩) hS ?_
    clear hW hS; intro H locs hW hS
    refine lv_if_eq (tgt := 27) hx hb dX6_ticketOf_15 (by decide) (fun hc => ?_) (fun hc => ?_)
    · replace hF := it_t hF hc
      refine lv_iconst (v := (-1 : Int32)) hx hb dX6_ticketOf_27 (by decide) ?_
      have hq1 := Option.some.inj hF
      subst hq1
      exact e_i hx hb hr hlk hK hN hW hS dX6_ticketOf_28
    · replace hF := it_f hF hc
      refine lv_aload_n hx hb dX6_ticketOf_18 rfl (lv_at hl 0 rfl) ?_
      refine lv_iload_n hx hb dX6_ticketOf_19 rfl (lv_at hl 1 rfl) ?_
      refine lv_iload_n hx hb dX6_ticketOf_20 rfl (lv_at hl 2 rfl) ?_
      replace hF := ob hF
      obtain ⟨v5, q6, hF⟩ := hF
      refine k_i (va_runV (As := [.int a1, .int a2]) (rest := []) ⟨hx, hb, hml, hown, hts⟩ (c6_of l a1 a2 q6) (cwV 2 hts gX6_ticketOf_X6_of rfl rfl rfl (by decide +kernel) ⟨Nat.le_of_ble_eq_true rfl, Nat.le_of_ble_eq_true rfl⟩) (k_preV hW hK hN (hW.fx 6 rfl) (EE_6 cA ad S P M 0) rfl) rfl rfl hl.1 rfl (lv_room (Nat.le_of_ble_eq_true rfl)) dX6_ticketOf_21 ⟨Nat.le_of_ble_eq_true rfl, Nat.le_of_ble_eq_true rfl⟩) hS ?_
      clear hW hS; intro H locs hW hS
      refine lv_goto (tgt := 28) hx hb dX6_ticketOf_24 (by decide) ?_
      have hq1 := Option.some.inj hF
      subst hq1
      exact e_i hx hb hr hlk hK hN hW hS dX6_ticketOf_28

set_option maxHeartbeats 4000000 in
set_option maxRecDepth 100000 in
theorem c6_ticketOf (l : Launch) {D : va_G} {cA : Nat → ClassId} {z : Nat} {ad : Nat → Nat → Nat} {N : TN} {S : TS} {P : TP} {M : TS} (a1 : Int32) (a2 : Int32) {v : Int32} (hF : f6_ticketOf M a1 a2 = some v) : Met l yX6_ticketOf wsX6_ticketOf rm6_ticketOf (va_Pc [.ref (ad 6 0), .int a1, .int a2] (Wl D cA z (ad, N, S, P, M))) (Qi D cA z v (ad, N, S, P, M)) 0 0 (fun q => z ≤ q) := by
  refine Met.ofW (cc := cX6_ticketOf) (maxL := 3) (ret := (some .int)) (by decide) rfl ?_
  intro p e s m args below meth c s₁ B hml hv
  obtain ⟨rfl, hW, hK, hN⟩ := hv
  have hl := lv_entry ([.ref (ad 6 0), .int a1, .int a2]) (n := 3) (Nat.le_of_ble_eq_true rfl)
  rw [lg_entry_eq]
  generalize (lg_sl ([.ref (ad 6 0), .int a1, .int a2]) ++ List.replicate (3 - (lg_sl ([.ref (ad 6 0), .int a1, .int a2])).length) Slot.unset).toArray = ls at hl ⊢
  exact w6_ticketOf ⟨B.exec, B.bytes, B.returns, hml, findClass_of_methodNamed B.named, atoms_spec (ws := wsX6_ticketOf) B.pre, B.notSynchronized⟩ hK hN a1 a2 hF hW va_S.rf hl

-- 6 total
abbrev rm6_total : Room := { frames := 1, cells := 0, slots := 0, locals := 22 }
def f6_total_24 (K : Int32 → Option (Int32)) (M : TS) (c1 : Int32) (c2 : Int32) : Nat → Int32 → Int32 → Option (Int32)
  | 0, _, _ => none
  | n + 1, y3, y4 =>
    if (M 623 0) ≤ y4 then
    (K y3)
    else
    ((f6_of M y4 (0 : Int32)).bind fun (v5 : Int32) =>
    if v5 = c1 then
    ((f6_of M y4 (4 : Int32)).bind fun (v7 : Int32) =>
    lt (lt (fun (k9 : Int32) => (f6_total_24 K M c1 c2 n (y3 + k9) (y4 + 1))) fun (K133 : Int32 → Option (Int32)) =>
    if c2 = 0 then
    (K133 (1 : Int32))
    else
    (if c2 = (1 : Int32) then
    ((f6_of M y4 (1 : Int32)).bind fun (v16 : Int32) =>
    K133 v16)
    else
    (if c2 = (3 : Int32) then
    ((f6_of M y4 (10 : Int32)).bind fun (v14 : Int32) =>
    K133 v14)
    else
    ((f6_of M y4 (9 : Int32)).bind fun (v10 : Int32) =>
    if v10 = (-1 : Int32) then
    (K133 (0 : Int32))
    else
    ((f6_of M y4 (3 : Int32)).bind fun (v12 : Int32) =>
    K133 v12))))) fun (K70 : Option (Int32)) =>
    if v7 = (3 : Int32) then
    (K70)
    else
    ((f6_of M y4 (4 : Int32)).bind fun (v18 : Int32) =>
    if v18 = (6 : Int32) then
    (K70)
    else
    (f6_total_24 K M c1 c2 n y3 (y4 + 1))))
    else
    (f6_total_24 K M c1 c2 n y3 (y4 + 1)))

def f6_total (M : TS) (a1 : Int32) (a2 : Int32) : Option (Int32) :=
  (f6_isSailing M a1).bind fun (v1 : Int32) =>
  if v1 = 0 then
  (some (-1 : Int32))
  else
  ((f6_isIn a2 (0 : Int32) (3 : Int32)).bind fun (v3 : Int32) =>
  if v3 = 0 then
  (some (-1 : Int32))
  else
  (f6_total_24 (fun (w20 : Int32) =>
  some w20) M a1 a2 FU (0 : Int32) (0 : Int32)))
set_option maxRecDepth 20000 in
theorem hi6_total_6 : ∀ w ∈ u_ws RX6 TX6 31, w ∈ wsX6_total := by decide +kernel
set_option maxHeartbeats 4000000 in
set_option maxRecDepth 100000 in
theorem w6_total_24 {p : Program} {l : Launch} {e : Env} {s : State} {m : MethodId} {args : Array Value} {below : List Frame} {meth : Method} {c : Code} (C : MC p s m args meth c cX6_total (some .int) 5 RX6 wsX6_total) {D : va_G} {cA : Nat → ClassId} {z : Nat} {ad : Nat → Nat → Nat} {N : TN} (hK : va_K D vwCl (tysW cA) s) (hN : NW s) {S : TS} {P : TP} {M : TS} (c1 : Int32) (c2 : Int32) {v : Int32} {K : Int32 → Option (Int32)}
    (hE : ∀ (e3 : Int32) (H : Heap) (locs : List Loc) (ls : Array Slot), K e3 = some v → Wd D cA z ad N S P M H → va_S (fun q => z ≤ q) s.heap H locs → lv_has ls 5 [(3, .int e3)] → W p l e rm6_total s m args below meth c H locs 0 0 (MQ below (Qi D cA z v (ad, N, S, P, M)) args s 0 0 (fun q => z ≤ q)) (F0 m 141 ls [])) :
    ∀ (n : Nat) (y3 : Int32) (y4 : Int32) (H : Heap) (locs : List Loc) (ls : Array Slot), f6_total_24 K M c1 c2 n y3 y4 = some v → Wd D cA z ad N S P M H → va_S (fun q => z ≤ q) s.heap H locs → lv_has ls 5 [(0, .ref (ad 6 0)), (1, .int c1), (2, .int c2), (3, .int y3), (4, .int y4)] → W p l e rm6_total s m args below meth c H locs 0 0 (MQ below (Qi D cA z v (ad, N, S, P, M)) args s 0 0 (fun q => z ≤ q)) (F0 m 24 ls []) := by
  obtain ⟨hx, hb, hr, hml, hown, hts, hlk⟩ := id C
  intro n
  induction n with
  | zero => intro y3 y4 H locs ls hF; cases hF
  | succ n ih =>
    intro y3 y4 H locs ls hF hW hS hl
    rw [f6_total_24] at hF
    refine lv_iload hx hb dX6_total_24 (lv_at hl 4 rfl) ?_
    refine lv_aload_n hx hb dX6_total_26 rfl (lv_at hl 0 rfl) ?_
    refine g6_23 hx hb hts hi6_total_6 hown hK hW (hts (.fieldLink RX6 74 RX6 "tickets" "I") (by decide +kernel)) dX6_total_27 ?_
    refine lv_icmp_ge (tgt := 141) hx hb dX6_total_30 (by decide) (fun hc => ?_) (fun hc => ?_)
    · replace hF := it_t hF hc
      exact hE y3 _ _ _ hF hW hS (lv_sub hl [3] rfl)
    · replace hF := it_f hF hc
      refine lv_aload_n hx hb dX6_total_33 rfl (lv_at hl 0 rfl) ?_
      refine lv_iload hx hb dX6_total_34 (lv_at hl 4 rfl) ?_
      refine lv_iconst (v := (0 : Int32)) hx hb dX6_total_36 (by decide) ?_
      replace hF := ob hF
      obtain ⟨v5, q6, hF⟩ := hF
      refine k_i (va_runV (As := [.int y4, .int (0 : Int32)]) (rest := []) ⟨hx, hb, hml, hown, hts⟩ (c6_of l y4 (0 : Int32) q6) (cwV 2 hts gX6_total_X6_of rfl rfl rfl (by decide +kernel) ⟨Nat.le_of_ble_eq_true rfl, Nat.le_of_ble_eq_true rfl⟩) (k_preV hW hK hN (hW.fx 6 rfl) (EE_6 cA ad S P M 0) rfl) rfl rfl hl.1 rfl (lv_room (Nat.le_of_ble_eq_true rfl)) dX6_total_37 ⟨Nat.le_of_ble_eq_true rfl, Nat.le_of_ble_eq_true rfl⟩) hS ?_
      clear hW hS; intro H locs hW hS
      refine lv_iload_n hx hb dX6_total_40 rfl (lv_at hl 1 rfl) ?_
      refine lv_icmp_ne (tgt := 135) hx hb dX6_total_41 (by decide) (fun hc => ?_) (fun hc => ?_)
      · replace hF := it_f hF hc
        refine lv_iinc (v := y4 + 1) (lv' := [(4, .int (y4 + 1)), (0, .ref (ad 6 0)), (1, .int c1), (2, .int c2), (3, .int y3)]) hx hb dX6_total_135 hl (k := 4) rfl rfl (by decide) rfl ?_
        clear hl; intro ls hl
        refine lv_goto (tgt := 24) hx hb dX6_total_138 (by decide) ?_
        exact ih y3 (y4 + 1) _ _ _ hF hW hS (lv_sub hl [1, 2, 3, 4, 0] rfl)
      · replace hF := it_t hF hc
        refine lv_aload_n hx hb dX6_total_44 rfl (lv_at hl 0 rfl) ?_
        refine lv_iload hx hb dX6_total_45 (lv_at hl 4 rfl) ?_
        refine lv_iconst (v := (4 : Int32)) hx hb dX6_total_47 (by decide) ?_
        replace hF := ob hF
        obtain ⟨v7, q8, hF⟩ := hF
        refine k_i (va_runV (As := [.int y4, .int (4 : Int32)]) (rest := []) ⟨hx, hb, hml, hown, hts⟩ (c6_of l y4 (4 : Int32) q8) (cwV 2 hts gX6_total_X6_of rfl rfl rfl (by decide +kernel) ⟨Nat.le_of_ble_eq_true rfl, Nat.le_of_ble_eq_true rfl⟩) (k_preV hW hK hN (hW.fx 6 rfl) (EE_6 cA ad S P M 0) rfl) rfl rfl hl.1 rfl (lv_room (Nat.le_of_ble_eq_true rfl)) dX6_total_48 ⟨Nat.le_of_ble_eq_true rfl, Nat.le_of_ble_eq_true rfl⟩) hS ?_
        clear hW hS; intro H locs hW hS
        refine lv_iconst (v := (3 : Int32)) hx hb dX6_total_51 (by decide) ?_
        replace hF := lt_ex hF
        obtain ⟨K70, eK70, hF⟩ := hF
        have hK70 : ∀ (H : Heap) (locs : List Loc) (ls : Array Slot), K70 = some v → Wd D cA z ad N S P M H → va_S (fun q => z ≤ q) s.heap H locs → lv_has ls 5 [(0, .ref (ad 6 0)), (1, .int c1), (2, .int c2), (3, .int y3), (4, .int y4)] → W p l e rm6_total s m args below meth c H locs 0 0 (MQ below (Qi D cA z v (ad, N, S, P, M)) args s 0 0 (fun q => z ≤ q)) (F0 m 70 ls []) := by
          intro H locs ls hF hW hS hl
          subst eK70
          refine lv_iload_n hx hb dX6_total_70 rfl (lv_at hl 3 rfl) ?_
          refine lv_iload_n hx hb dX6_total_71 rfl (lv_at hl 2 rfl) ?_
          replace hF := lt_ex hF
          obtain ⟨K133, eK133, hF⟩ := hF
          have hK133 : ∀ (k9 : Int32) (H : Heap) (locs : List Loc) (ls : Array Slot), K133 k9 = some v → Wd D cA z ad N S P M H → va_S (fun q => z ≤ q) s.heap H locs → lv_has ls 5 [(0, .ref (ad 6 0)), (1, .int c1), (2, .int c2), (4, .int y4)] → W p l e rm6_total s m args below meth c H locs 0 0 (MQ below (Qi D cA z v (ad, N, S, P, M)) args s 0 0 (fun q => z ≤ q)) (F0 m 133 ls [.int k9, .int y3]) := by
            intro k9 H locs ls hF hW hS hl
            subst eK133
            refine lv_iadd hx hb dX6_total_133 ?_
            refine lv_istore_n (lv' := [(3, .int (y3 + k9)), (0, .ref (ad 6 0)), (1, .int c1), (2, .int c2), (4, .int y4)]) hx hb dX6_total_134 rfl hl (by decide) rfl ?_
            clear hl; intro ls hl
            refine lv_iinc (v := y4 + 1) (lv' := [(4, .int (y4 + 1)), (3, .int (y3 + k9)), (0, .ref (ad 6 0)), (1, .int c1), (2, .int c2)]) hx hb dX6_total_135 hl (k := 4) rfl rfl (by decide) rfl ?_
            clear hl; intro ls hl
            refine lv_goto (tgt := 24) hx hb dX6_total_138 (by decide) ?_
            exact ih (y3 + k9) (y4 + 1) _ _ _ hF hW hS (lv_sub hl [2, 3, 4, 1, 0] rfl)
          clear eK133
          refine lv_if_ne (tgt := 79) hx hb dX6_total_72 (by decide) (fun hc => ?_) (fun hc => ?_)
          · replace hF := it_f hF hc
            refine lv_iload_n hx hb dX6_total_79 rfl (lv_at hl 2 rfl) ?_
            refine lv_iconst (v := (1 : Int32)) hx hb dX6_total_80 (by decide) ?_
            refine lv_icmp_ne (tgt := 94) hx hb dX6_total_81 (by decide) (fun hc => ?_) (fun hc => ?_)
            · replace hF := it_f hF hc
              refine lv_iload_n hx hb dX6_total_94 rfl (lv_at hl 2 rfl) ?_
              refine lv_iconst (v := (3 : Int32)) hx hb dX6_total_95 (by decide) ?_
              refine lv_icmp_ne (tgt := 110) hx hb dX6_total_96 (by decide) (fun hc => ?_) (fun hc => ?_)
              · replace hF := it_f hF hc
                refine lv_aload_n hx hb dX6_total_110 rfl (lv_at hl 0 rfl) ?_
                refine lv_iload hx hb dX6_total_111 (lv_at hl 4 rfl) ?_
                refine lv_bipush (v := (9 : Int32)) hx hb dX6_total_113 (by decide) ?_
                replace hF := ob hF
                obtain ⟨v10, q11, hF⟩ := hF
                refine k_i (va_runV (As := [.int y4, .int (9 : Int32)]) (rest := [.int y3]) ⟨hx, hb, hml, hown, hts⟩ (c6_of l y4 (9 : Int32) q11) (cwV 2 hts gX6_total_X6_of rfl rfl rfl (by decide +kernel) ⟨Nat.le_of_ble_eq_true rfl, Nat.le_of_ble_eq_true rfl⟩) (k_preV hW hK hN (hW.fx 6 rfl) (EE_6 cA ad S P M 0) rfl) rfl rfl hl.1 rfl (lv_room (Nat.le_of_ble_eq_true rfl)) dX6_total_115 ⟨Nat.le_of_ble_eq_true rfl, Nat.le_of_ble_eq_true rfl⟩) hS ?_
                clear hW hS; intro H locs hW hS
                refine lv_iconst (v := (-1 : Int32)) hx hb dX6_total_118 (by decide) ?_
                refine lv_icmp_ne (tgt := 126) hx hb dX6_total_119 (by decide) (fun hc => ?_) (fun hc => ?_)
                · replace hF := it_f hF hc
                  refine lv_aload_n hx hb dX6_total_126 rfl (lv_at hl 0 rfl) ?_
                  refine lv_iload hx hb dX6_total_127 (lv_at hl 4 rfl) ?_
                  refine lv_iconst (v := (3 : Int32)) hx hb dX6_total_129 (by decide) ?_
                  replace hF := ob hF
                  obtain ⟨v12, q13, hF⟩ := hF
                  refine k_i (va_runV (As := [.int y4, .int (3 : Int32)]) (rest := [.int y3]) ⟨hx, hb, hml, hown, hts⟩ (c6_of l y4 (3 : Int32) q13) (cwV 2 hts gX6_total_X6_of rfl rfl rfl (by decide +kernel) ⟨Nat.le_of_ble_eq_true rfl, Nat.le_of_ble_eq_true rfl⟩) (k_preV hW hK hN (hW.fx 6 rfl) (EE_6 cA ad S P M 0) rfl) rfl rfl hl.1 rfl (lv_room (Nat.le_of_ble_eq_true rfl)) dX6_total_130 ⟨Nat.le_of_ble_eq_true rfl, Nat.le_of_ble_eq_true rfl⟩) hS ?_
                  clear hW hS; intro H locs hW hS
                  exact hK133 v12 _ _ _ hF hW hS (lv_sub hl [0, 1, 2, 4] rfl)
                · replace hF := it_t hF hc
                  refine lv_iconst (v := (0 : Int32)) hx hb dX6_total_122 (by decide) ?_
                  refine lv_goto (tgt := 133) hx hb dX6_total_123 (by decide) ?_
                  exact hK133 (0 : Int32) _ _ _ hF hW hS (lv_sub hl [0, 1, 2, 4] rfl)
              · replace hF := it_t hF hc
                refine lv_aload_n hx hb dX6_total_99 rfl (lv_at hl 0 rfl) ?_
                refine lv_iload hx hb dX6_total_100 (lv_at hl 4 rfl) ?_
                refine lv_bipush (v := (10 : Int32)) hx hb dX6_total_102 (by decide) ?_
                replace hF := ob hF
                obtain ⟨v14, q15, hF⟩ := hF
                refine k_i (va_runV (As := [.int y4, .int (10 : Int32)]) (rest := [.int y3]) ⟨hx, hb, hml, hown, hts⟩ (c6_of l y4 (10 : Int32) q15) (cwV 2 hts gX6_total_X6_of rfl rfl rfl (by decide +kernel) ⟨Nat.le_of_ble_eq_true rfl, Nat.le_of_ble_eq_true rfl⟩) (k_preV hW hK hN (hW.fx 6 rfl) (EE_6 cA ad S P M 0) rfl) rfl rfl hl.1 rfl (lv_room (Nat.le_of_ble_eq_true rfl)) dX6_total_104 ⟨Nat.le_of_ble_eq_true rfl, Nat.le_of_ble_eq_true rfl⟩) hS ?_
                clear hW hS; intro H locs hW hS
                refine lv_goto (tgt := 133) hx hb dX6_total_107 (by decide) ?_
                exact hK133 v14 _ _ _ hF hW hS (lv_sub hl [0, 1, 2, 4] rfl)
            · replace hF := it_t hF hc
              refine lv_aload_n hx hb dX6_total_84 rfl (lv_at hl 0 rfl) ?_
              refine lv_iload hx hb dX6_total_85 (lv_at hl 4 rfl) ?_
              refine lv_iconst (v := (1 : Int32)) hx hb dX6_total_87 (by decide) ?_
              replace hF := ob hF
              obtain ⟨v16, q17, hF⟩ := hF
              refine k_i (va_runV (As := [.int y4, .int (1 : Int32)]) (rest := [.int y3]) ⟨hx, hb, hml, hown, hts⟩ (c6_of l y4 (1 : Int32) q17) (cwV 2 hts gX6_total_X6_of rfl rfl rfl (by decide +kernel) ⟨Nat.le_of_ble_eq_true rfl, Nat.le_of_ble_eq_true rfl⟩) (k_preV hW hK hN (hW.fx 6 rfl) (EE_6 cA ad S P M 0) rfl) rfl rfl hl.1 rfl (lv_room (Nat.le_of_ble_eq_true rfl)) dX6_total_88 ⟨Nat.le_of_ble_eq_true rfl, Nat.le_of_ble_eq_true rfl⟩) hS ?_
              clear hW hS; intro H locs hW hS
              refine lv_goto (tgt := 133) hx hb dX6_total_91 (by decide) ?_
              exact hK133 v16 _ _ _ hF hW hS (lv_sub hl [0, 1, 2, 4] rfl)
          · replace hF := it_t hF hc
            refine lv_iconst (v := (1 : Int32)) hx hb dX6_total_75 (by decide) ?_
            refine lv_goto (tgt := 133) hx hb dX6_total_76 (by decide) ?_
            exact hK133 (1 : Int32) _ _ _ hF hW hS (lv_sub hl [0, 1, 2, 4] rfl)
        clear eK70
        refine lv_icmp_eq (tgt := 70) hx hb dX6_total_52 (by decide) (fun hc => ?_) (fun hc => ?_)
        · replace hF := it_t hF hc
          exact hK70 _ _ _ hF hW hS (lv_sub hl [0, 1, 2, 3, 4] rfl)
        · replace hF := it_f hF hc
          refine lv_aload_n hx hb dX6_total_55 rfl (lv_at hl 0 rfl) ?_
          refine lv_iload hx hb dX6_total_56 (lv_at hl 4 rfl) ?_
          refine lv_iconst (v := (4 : Int32)) hx hb dX6_total_58 (by decide) ?_
          replace hF := ob hF
          obtain ⟨v18, q19, hF⟩ := hF
          refine k_i (va_runV (As := [.int y4, .int (4 : Int32)]) (rest := []) ⟨hx, hb, hml, hown, hts⟩ (c6_of l y4 (4 : Int32) q19) (cwV 2 hts gX6_total_X6_of rfl rfl rfl (by decide +kernel) ⟨Nat.le_of_ble_eq_true rfl, Nat.le_of_ble_eq_true rfl⟩) (k_preV hW hK hN (hW.fx 6 rfl) (EE_6 cA ad S P M 0) rfl) rfl rfl hl.1 rfl (lv_room (Nat.le_of_ble_eq_true rfl)) dX6_total_59 ⟨Nat.le_of_ble_eq_true rfl, Nat.le_of_ble_eq_true rfl⟩) hS ?_
          clear hW hS; intro H locs hW hS
          refine lv_bipush (v := (6 : Int32)) hx hb dX6_total_62 (by decide) ?_
          refine lv_icmp_eq (tgt := 70) hx hb dX6_total_64 (by decide) (fun hc => ?_) (fun hc => ?_)
          · replace hF := it_t hF hc
            exact hK70 _ _ _ hF hW hS (lv_sub hl [0, 1, 2, 3, 4] rfl)
          · replace hF := it_f hF hc
            refine lv_goto (tgt := 135) hx hb dX6_total_67 (by decide) ?_
            refine lv_iinc (v := y4 + 1) (lv' := [(4, .int (y4 + 1)), (0, .ref (ad 6 0)), (1, .int c1), (2, .int c2), (3, .int y3)]) hx hb dX6_total_135 hl (k := 4) rfl rfl (by decide) rfl ?_
            clear hl; intro ls hl
            refine lv_goto (tgt := 24) hx hb dX6_total_138 (by decide) ?_
            exact ih y3 (y4 + 1) _ _ _ hF hW hS (lv_sub hl [1, 2, 3, 4, 0] rfl)

set_option maxHeartbeats 4000000 in
set_option maxRecDepth 100000 in
theorem w6_total {p : Program} {l : Launch} {e : Env} {s : State} {m : MethodId} {args : Array Value} {below : List Frame} {meth : Method} {c : Code} (C : MC p s m args meth c cX6_total (some .int) 5 RX6 wsX6_total) {D : va_G} {cA : Nat → ClassId} {z : Nat} {ad : Nat → Nat → Nat} {N : TN} (hK : va_K D vwCl (tysW cA) s) (hN : NW s) {S : TS} {P : TP} {M : TS} (a1 : Int32) (a2 : Int32) {v : Int32} (hF : f6_total M a1 a2 = some v)
    {H : Heap} {ls : Array Slot} (hW : Wd D cA z ad N S P M H) {locs : List Loc} (hS : va_S (fun q => z ≤ q) s.heap H locs) (hl : lv_has ls 5 [(0, .ref (ad 6 0)), (1, .int a1), (2, .int a2)]) : W p l e rm6_total s m args below meth c H locs 0 0 (MQ below (Qi D cA z v (ad, N, S, P, M)) args s 0 0 (fun q => z ≤ q)) (F0 m 0 ls []) := by
  obtain ⟨hx, hb, hr, hml, hown, hts, hlk⟩ := id C
  unfold f6_total at hF
  refine lv_aload_n hx hb dX6_total_0 rfl (lv_at hl 0 rfl) ?_
  refine lv_iload_n hx hb dX6_total_1 rfl (lv_at hl 1 rfl) ?_
  replace hF := ob hF
  obtain ⟨v1, q2, hF⟩ := hF
  refine k_i (va_runV (As := [.int a1]) (rest := []) ⟨hx, hb, hml, hown, hts⟩ (c6_isSailing l a1 q2) (cwV 1 hts gX6_total_X6_isSailing rfl rfl rfl (by decide +kernel) ⟨Nat.le_of_ble_eq_true rfl, Nat.le_of_ble_eq_true rfl⟩) (k_preV hW hK hN (hW.fx 6 rfl) (EE_6 cA ad S P M 0) rfl) rfl rfl hl.1 rfl (lv_room (Nat.le_of_ble_eq_true rfl)) dX6_total_2 ⟨Nat.le_of_ble_eq_true rfl, Nat.le_of_ble_eq_true rfl⟩) hS ?_
  clear hW hS; intro H locs hW hS
  refine lv_if_eq (tgt := 17) hx hb dX6_total_5 (by decide) (fun hc => ?_) (fun hc => ?_)
  · replace hF := it_t hF hc
    refine lv_iconst (v := (-1 : Int32)) hx hb dX6_total_17 (by decide) ?_
    have hq1 := Option.some.inj hF
    subst hq1
    exact e_i hx hb hr hlk hK hN hW hS dX6_total_18
  · replace hF := it_f hF hc
    refine lv_iload_n hx hb dX6_total_8 rfl (lv_at hl 2 rfl) ?_
    refine lv_iconst (v := (0 : Int32)) hx hb dX6_total_9 (by decide) ?_
    refine lv_iconst (v := (3 : Int32)) hx hb dX6_total_10 (by decide) ?_
    replace hF := ob hF
    obtain ⟨v3, q4, hF⟩ := hF
    refine k_i (va_runS (As := [.int a2, .int (0 : Int32), .int (3 : Int32)]) (rest := []) ⟨hx, hb, hml, hown, hts⟩ (c6_isIn l a2 (0 : Int32) (3 : Int32) q4) (va_cwS 3 hts gX6_total_X6_isIn rfl rfl rfl (by decide +kernel) ⟨Nat.le_of_ble_eq_true rfl, Nat.le_of_ble_eq_true rfl⟩) (k_preS hW hK hN) rfl rfl hl.1 rfl (lv_room (Nat.le_of_ble_eq_true rfl)) dX6_total_11 ⟨Nat.le_of_ble_eq_true rfl, Nat.le_of_ble_eq_true rfl⟩) hS ?_
    clear hW hS; intro H locs hW hS
    refine lv_if_ne (tgt := 19) hx hb dX6_total_14 (by decide) (fun hc => ?_) (fun hc => ?_)
    · replace hF := it_f hF hc
      refine lv_iconst (v := (0 : Int32)) hx hb dX6_total_19 (by decide) ?_
      refine lv_istore_n (lv' := [(3, .int (0 : Int32)), (0, .ref (ad 6 0)), (1, .int a1), (2, .int a2)]) hx hb dX6_total_20 rfl hl (by decide) rfl ?_
      clear hl; intro ls hl
      refine lv_iconst (v := (0 : Int32)) hx hb dX6_total_21 (by decide) ?_
      refine lv_istore (lv' := [(4, .int (0 : Int32)), (3, .int (0 : Int32)), (0, .ref (ad 6 0)), (1, .int a1), (2, .int a2)]) hx hb dX6_total_22 hl (by decide) rfl ?_
      clear hl; intro ls hl
      refine w6_total_24 C hK hN a1 a2 (hE := ?_) FU (0 : Int32) (0 : Int32) _ _ _ hF hW hS (lv_sub hl [2, 3, 4, 1, 0] rfl)
      intro w20 H locs ls hF hW hS hl
      refine lv_iload_n hx hb dX6_total_141 rfl (lv_at hl 0 rfl) ?_
      have hq1 := Option.some.inj hF
      subst hq1
      exact e_i hx hb hr hlk hK hN hW hS dX6_total_142
    · replace hF := it_t hF hc
      refine lv_iconst (v := (-1 : Int32)) hx hb dX6_total_17 (by decide) ?_
      have hq1 := Option.some.inj hF
      subst hq1
      exact e_i hx hb hr hlk hK hN hW hS dX6_total_18

set_option maxHeartbeats 4000000 in
set_option maxRecDepth 100000 in
theorem c6_total (l : Launch) {D : va_G} {cA : Nat → ClassId} {z : Nat} {ad : Nat → Nat → Nat} {N : TN} {S : TS} {P : TP} {M : TS} (a1 : Int32) (a2 : Int32) {v : Int32} (hF : f6_total M a1 a2 = some v) : Met l yX6_total wsX6_total rm6_total (va_Pc [.ref (ad 6 0), .int a1, .int a2] (Wl D cA z (ad, N, S, P, M))) (Qi D cA z v (ad, N, S, P, M)) 0 0 (fun q => z ≤ q) := by
  refine Met.ofW (cc := cX6_total) (maxL := 5) (ret := (some .int)) (by decide) rfl ?_
  intro p e s m args below meth c s₁ B hml hv
  obtain ⟨rfl, hW, hK, hN⟩ := hv
  have hl := lv_entry ([.ref (ad 6 0), .int a1, .int a2]) (n := 5) (Nat.le_of_ble_eq_true rfl)
  rw [lg_entry_eq]
  generalize (lg_sl ([.ref (ad 6 0), .int a1, .int a2]) ++ List.replicate (5 - (lg_sl ([.ref (ad 6 0), .int a1, .int a2])).length) Slot.unset).toArray = ls at hl ⊢
  exact w6_total ⟨B.exec, B.bytes, B.returns, hml, findClass_of_methodNamed B.named, atoms_spec (ws := wsX6_total) B.pre, B.notSynchronized⟩ hK hN a1 a2 hF hW va_S.rf hl


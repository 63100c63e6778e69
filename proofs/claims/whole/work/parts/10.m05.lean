-- 5 doBoardingTurn
abbrev rm5_doBoardingTurn : Room := { frames := 6, cells := 0, slots := 0, locals := 141 }
def f5_doBoardingTurn (S : TS) (P : TP) (a1 : Nat) : Option (TS × TP) :=
  (f5_firstHere S P a1).bind fun (r1 : Option Nat) =>
  r1.elim (lt (P 207 a1 0) fun (r4 : Option Nat) =>
  r4.elim ((f5_firstOfBoardingList S P a1).bind fun (r6 : Option Nat) =>
  r6.elim (some (S, P))
  (fun (t8 : Nat) => b2 (f5_doRampTurn S P a1 t8) fun (S9 : TS) (P10 : TP) =>
  some (S9, P10)))
  (fun (t5 : Nat) => lt (P 207 a1 0) fun (r12 : Option Nat) =>
  r12.bind fun (t13 : Nat) =>
  b2 (f5_goOnAfterRamp S P a1 t13) fun (S14 : TS) (P15 : TP) =>
  some (S14, P15)))
  (fun (t3 : Nat) => lt (up S 406 t3 (2 : Int32)) fun (S17 : TS) =>
  b2 (f5_writeLog S17 P (0 : Int32) t3 a1) fun (S18 : TS) (P19 : TP) =>
  some (S18, P19))
set_option maxRecDepth 20000 in
theorem hi5_doBoardingTurn_2 : ∀ w ∈ u_ws RX2 TX2 9, w ∈ wsX5_doBoardingTurn := by decide +kernel
set_option maxRecDepth 20000 in
theorem hi5_doBoardingTurn_4 : ∀ w ∈ u_ws RX4 TX4 16, w ∈ wsX5_doBoardingTurn := by decide +kernel
set_option maxHeartbeats 4000000 in
set_option maxRecDepth 100000 in
theorem w5_doBoardingTurn {p : Program} {l : Launch} {e : Env} {s : State} {m : MethodId} {args : Array Value} {below : List Frame} {meth : Method} {c : Code} (C : MC p s m args meth c cX5_doBoardingTurn none 4 RX5 wsX5_doBoardingTurn) {D : va_G} {cA : Nat → ClassId} {z : Nat} {ad : Nat → Nat → Nat} {N : TN} (hK : va_K D vwCl (tysW cA) s) (hN : NW s) {S : TS} {P : TP} {M : TS} (a1 : Nat) (ha1 : a1 < N 2) {S' : TS} {P' : TP} (hF : f5_doBoardingTurn S P a1 = some (S', P'))
    {H : Heap} {ls : Array Slot} (hW : Wd D cA z ad N S P M H) {locs : List Loc} (hS : va_S (fun q => z ≤ q) s.heap H locs) (hl : lv_has ls 4 [(0, .ref (ad 5 0)), (1, .ref (ad 2 a1))]) : W p l e rm5_doBoardingTurn s m args below meth c H locs 0 0 (MQ below (Qv D cA z (ad, N, S', P', M)) args s 0 0 (fun q => z ≤ q)) (F0 m 0 ls []) := by
  obtain ⟨hx, hb, hr, hml, hown, hts, hlk⟩ := id C
  unfold f5_doBoardingTurn at hF
  refine lv_aload_n hx hb dX5_doBoardingTurn_0 rfl (lv_at hl 0 rfl) ?_
  refine lv_aload_n hx hb dX5_doBoardingTurn_1 rfl (lv_at hl 1 rfl) ?_
  replace hF := ob hF
  obtain ⟨r1, q2, hF⟩ := hF
  refine k_q (va_runV (As := [.ref (ad 2 a1)]) (rest := []) ⟨hx, hb, hml, hown, hts⟩ (c5_firstHere l a1 ha1 q2) (cwV 1 hts gX5_doBoardingTurn_X5_firstHere rfl rfl rfl (by decide +kernel) ⟨Nat.le_of_ble_eq_true rfl, Nat.le_of_ble_eq_true rfl⟩) (k_preV hW hK hN (hW.fx 5 rfl) (EE_5 cA ad S P M 0) rfl) rfl rfl hl.1 rfl (lv_room (Nat.le_of_ble_eq_true rfl)) dX5_doBoardingTurn_2 ⟨Nat.le_of_ble_eq_true rfl, Nat.le_of_ble_eq_true rfl⟩) hS (fun H locs hW hS hr1 => ?_)
  refine q_astore_n (lv' := [(2, va_rf (r1.map (ad 4))), (0, .ref (ad 5 0)), (1, .ref (ad 2 a1))]) hx hb dX5_doBoardingTurn_5 rfl hl (by decide) rfl ?_
  clear hl; intro ls hl
  refine q_aload_n hx hb dX5_doBoardingTurn_6 rfl (lv_at hl 0 rfl) ?_
  refine q_ifnull (tgt := 25) hx hb dX5_doBoardingTurn_7 (by decide) (fun hc => ?_) (fun t3 hc => ?_)
  · subst hc
    replace hF := el_n hF
    replace hl : lv_has ls 4 [(2, .null), (0, .ref (ad 5 0)), (1, .ref (ad 2 a1))] := hl
    refine lv_aload_n hx hb dX5_doBoardingTurn_25 rfl (lv_at hl 2 rfl) ?_
    replace hF := lt_ex hF
    obtain ⟨r4, er4, hF⟩ := hF
    have hr4 : ∀ y, r4 = some y → y < N 4 := hW.v er4
    refine gn2_7 hx hb hts hi5_doBoardingTurn_2 hown hK hW ha1 er4 (nf_19 hN) dX5_doBoardingTurn_26 ?_
    refine q_ifnull (tgt := 44) hx hb dX5_doBoardingTurn_29 (by decide) (fun hc => ?_) (fun t5 hc => ?_)
    · subst hc
      replace hF := el_n hF
      refine lv_aload_n hx hb dX5_doBoardingTurn_44 rfl (lv_at hl 1 rfl) ?_
      refine lv_aload_n hx hb dX5_doBoardingTurn_45 rfl (lv_at hl 2 rfl) ?_
      replace hF := ob hF
      obtain ⟨r6, q7, hF⟩ := hF
      refine k_q (va_runV (As := [.ref (ad 2 a1)]) (rest := []) ⟨hx, hb, hml, hown, hts⟩ (c5_firstOfBoardingList l a1 ha1 q7) (cwV 1 hts gX5_doBoardingTurn_X5_firstOfBoardingList rfl rfl rfl (by decide +kernel) ⟨Nat.le_of_ble_eq_true rfl, Nat.le_of_ble_eq_true rfl⟩) (k_preV hW hK hN (hW.fx 5 rfl) (EE_5 cA ad S P M 0) rfl) rfl rfl hl.1 rfl (lv_room (Nat.le_of_ble_eq_true rfl)) dX5_doBoardingTurn_46 ⟨Nat.le_of_ble_eq_true rfl, Nat.le_of_ble_eq_true rfl⟩) hS (fun H locs hW hS hr6 => ?_)
      refine q_astore_n (lv' := [(3, va_rf (r6.map (ad 4))), (2, .null), (0, .ref (ad 5 0)), (1, .ref (ad 2 a1))]) hx hb dX5_doBoardingTurn_49 rfl hl (by decide) rfl ?_
      clear hl; intro ls hl
      refine q_aload_n hx hb dX5_doBoardingTurn_50 rfl (lv_at hl 0 rfl) ?_
      refine q_ifnull (tgt := 60) hx hb dX5_doBoardingTurn_51 (by decide) (fun hc => ?_) (fun t8 hc => ?_)
      · subst hc
        replace hF := el_n hF
        replace hl : lv_has ls 4 [(3, .null), (2, .null), (0, .ref (ad 5 0)), (1, .ref (ad 2 a1))] := hl
        obtain ⟨hq1, hq2⟩ := Prod.mk.inj (Option.some.inj hF)
        subst hq1
        subst hq2
        exact e_v hx hb hr hlk hK hN hW hS dX5_doBoardingTurn_60
      · subst hc
        replace hF := el_s hF
        have ht8 := hr6 t8 rfl
        replace hl : lv_has ls 4 [(3, .ref (ad 4 t8)), (2, .null), (0, .ref (ad 5 0)), (1, .ref (ad 2 a1))] := hl
        refine lv_aload_n hx hb dX5_doBoardingTurn_54 rfl (lv_at hl 2 rfl) ?_
        refine lv_aload_n hx hb dX5_doBoardingTurn_55 rfl (lv_at hl 3 rfl) ?_
        refine lv_aload_n hx hb dX5_doBoardingTurn_56 rfl (lv_at hl 0 rfl) ?_
        replace hF := ob2 hF
        obtain ⟨S9, P10, q11, hF⟩ := hF
        refine k_v (va_runV (As := [.ref (ad 2 a1), .ref (ad 4 t8)]) (rest := []) ⟨hx, hb, hml, hown, hts⟩ (c5_doRampTurn l a1 t8 ha1 ht8 q11) (cwV 2 hts gX5_doBoardingTurn_X5_doRampTurn rfl rfl rfl (by decide +kernel) ⟨Nat.le_of_ble_eq_true rfl, Nat.le_of_ble_eq_true rfl⟩) (k_preV hW hK hN (hW.fx 5 rfl) (EE_5 cA ad S P M 0) rfl) rfl rfl hl.1 rfl (lv_room (Nat.le_of_ble_eq_true rfl)) dX5_doBoardingTurn_57 ⟨Nat.le_of_ble_eq_true rfl, Nat.le_of_ble_eq_true rfl⟩) hS ?_
        clear hW hS; intro H locs hW hS
        obtain ⟨hq1, hq2⟩ := Prod.mk.inj (Option.some.inj hF)
        subst hq1
        subst hq2
        exact e_v hx hb hr hlk hK hN hW hS dX5_doBoardingTurn_60
    · subst hc
      replace hF := el_s hF
      have ht5 := hr4 t5 rfl
      refine lv_aload_n hx hb dX5_doBoardingTurn_32 rfl (lv_at hl 1 rfl) ?_
      refine lv_aload_n hx hb dX5_doBoardingTurn_33 rfl (lv_at hl 2 rfl) ?_
      refine lv_aload_n hx hb dX5_doBoardingTurn_34 rfl (lv_at hl 2 rfl) ?_
      replace hF := lt_ex hF
      obtain ⟨r12, er12, hF⟩ := hF
      have hr12 : ∀ y, r12 = some y → y < N 4 := hW.v er12
      refine gn2_7 hx hb hts hi5_doBoardingTurn_2 hown hK hW ha1 er12 (nf_19 hN) dX5_doBoardingTurn_35 ?_
      replace hF := ob hF
      obtain ⟨t13, et13, hF⟩ := hF
      subst et13
      have ht13 := hr12 t13 rfl
      replace hF := ob2 hF
      obtain ⟨S14, P15, q16, hF⟩ := hF
      refine k_v (va_runV (As := [.ref (ad 2 a1), .ref (ad 4 t13)]) (rest := []) ⟨hx, hb, hml, hown, hts⟩ (c5_goOnAfterRamp l a1 t13 ha1 ht13 q16) (cwV 2 hts gX5_doBoardingTurn_X5_goOnAfterRamp rfl rfl rfl (by decide +kernel) ⟨Nat.le_of_ble_eq_true rfl, Nat.le_of_ble_eq_true rfl⟩) (k_preV hW hK hN (hW.fx 5 rfl) (EE_5 cA ad S P M 0) rfl) rfl rfl hl.1 rfl (lv_room (Nat.le_of_ble_eq_true rfl)) dX5_doBoardingTurn_38 ⟨Nat.le_of_ble_eq_true rfl, Nat.le_of_ble_eq_true rfl⟩) hS ?_
      clear hW hS; intro H locs hW hS
      refine lv_goto (tgt := 60) hx hb dX5_doBoardingTurn_41 (by decide) ?_
      obtain ⟨hq1, hq2⟩ := Prod.mk.inj (Option.some.inj hF)
      subst hq1
      subst hq2
      exact e_v hx hb hr hlk hK hN hW hS dX5_doBoardingTurn_60
  · subst hc
    replace hF := el_s hF
    have ht3 := hr1 t3 rfl
    replace hl : lv_has ls 4 [(2, .ref (ad 4 t3)), (0, .ref (ad 5 0)), (1, .ref (ad 2 a1))] := hl
    refine lv_aload_n hx hb dX5_doBoardingTurn_10 rfl (lv_at hl 0 rfl) ?_
    refine lv_iconst (v := (2 : Int32)) hx hb dX5_doBoardingTurn_11 (by decide) ?_
    replace hF := lt_ex hF
    obtain ⟨S17, eS17, hF⟩ := hF
    refine pn4_6 hx hb hts hi5_doBoardingTurn_4 hown hK hW hS ht3 eS17 (nf_28 hN) dX5_doBoardingTurn_12 ?_
    clear hW hS; intro H locs hW hS
    refine lv_aload_n hx hb dX5_doBoardingTurn_15 rfl (lv_at hl 1 rfl) ?_
    refine lv_iconst (v := (0 : Int32)) hx hb dX5_doBoardingTurn_16 (by decide) ?_
    refine lv_aload_n hx hb dX5_doBoardingTurn_17 rfl (lv_at hl 0 rfl) ?_
    refine lv_aload_n hx hb dX5_doBoardingTurn_18 rfl (lv_at hl 2 rfl) ?_
    replace hF := ob2 hF
    obtain ⟨S18, P19, q20, hF⟩ := hF
    refine k_v (va_runV (As := [.int (0 : Int32), .ref (ad 4 t3), .ref (ad 2 a1)]) (rest := []) ⟨hx, hb, hml, hown, hts⟩ (c5_writeLog l (0 : Int32) t3 a1 ht3 ha1 q20) (cwV 3 hts gX5_doBoardingTurn_X5_writeLog rfl rfl rfl (by decide +kernel) ⟨Nat.le_of_ble_eq_true rfl, Nat.le_of_ble_eq_true rfl⟩) (k_preV hW hK hN (hW.fx 5 rfl) (EE_5 cA ad S17 P M 0) rfl) rfl rfl hl.1 rfl (lv_room (Nat.le_of_ble_eq_true rfl)) dX5_doBoardingTurn_19 ⟨Nat.le_of_ble_eq_true rfl, Nat.le_of_ble_eq_true rfl⟩) hS ?_
    clear hW hS; intro H locs hW hS
    refine lv_goto (tgt := 60) hx hb dX5_doBoardingTurn_22 (by decide) ?_
    obtain ⟨hq1, hq2⟩ := Prod.mk.inj (Option.some.inj hF)
    subst hq1
    subst hq2
    exact e_v hx hb hr hlk hK hN hW hS dX5_doBoardingTurn_60

set_option maxHeartbeats 4000000 in
set_option maxRecDepth 100000 in
theorem c5_doBoardingTurn (l : Launch) {D : va_G} {cA : Nat → ClassId} {z : Nat} {ad : Nat → Nat → Nat} {N : TN} {S : TS} {P : TP} {M : TS} (a1 : Nat) (ha1 : a1 < N 2) {S' : TS} {P' : TP} (hF : f5_doBoardingTurn S P a1 = some (S', P')) : Met l yX5_doBoardingTurn wsX5_doBoardingTurn rm5_doBoardingTurn (va_Pc [.ref (ad 5 0), .ref (ad 2 a1)] (Wl D cA z (ad, N, S, P, M))) (Qv D cA z (ad, N, S', P', M)) 0 0 (fun q => z ≤ q) := by
  refine Met.ofW (cc := cX5_doBoardingTurn) (maxL := 4) (ret := none) (by decide) rfl ?_
  intro p e s m args below meth c s₁ B hml hv
  obtain ⟨rfl, hW, hK, hN⟩ := hv
  have hl := lv_entry ([.ref (ad 5 0), .ref (ad 2 a1)]) (n := 4) (Nat.le_of_ble_eq_true rfl)
  rw [lg_entry_eq]
  generalize (lg_sl ([.ref (ad 5 0), .ref (ad 2 a1)]) ++ List.replicate (4 - (lg_sl ([.ref (ad 5 0), .ref (ad 2 a1)])).length) Slot.unset).toArray = ls at hl ⊢
  exact w5_doBoardingTurn ⟨B.exec, B.bytes, B.returns, hml, findClass_of_methodNamed B.named, atoms_spec (ws := wsX5_doBoardingTurn) B.pre, B.notSynchronized⟩ hK hN a1 ha1 hF hW va_S.rf hl

-- 5 nextOfLine
abbrev rm5_nextOfLine : Room := { frames := 2, cells := 0, slots := 0, locals := 40 }
def f5_nextOfLine_5 (K : Option Nat → Option (Option Nat)) (S : TS) (P : TP) (c1 : Nat) (c2 : Int32) : Nat → Option Nat → Int32 → Option (Option Nat)
  | 0, _, _ => none
  | n + 1, y3, y4 =>
    if (S 505 0) ≤ y4 then
    (K y3)
    else
    ((ix y4 60).bind fun (j1 : Nat) =>
    lt (P 900 0 j1) fun (r2 : Option Nat) =>
    r2.bind fun (t3 : Nat) =>
    if (S 203 t3) = (S 203 c1) then
    (if (S 202 t3) ≤ (S 202 c1) then
    (f5_nextOfLine_5 K S P c1 c2 n y3 (y4 + 1))
    else
    ((f2_takesTickets S P t3).bind fun (v4 : Int32) =>
    if v4 = 0 then
    (f5_nextOfLine_5 K S P c1 c2 n y3 (y4 + 1))
    else
    (lt (P 201 t3 0) fun (r6 : Option Nat) =>
    r6.bind fun (t7 : Nat) =>
    if (S 303 t7) < c2 then
    (f5_nextOfLine_5 K S P c1 c2 n y3 (y4 + 1))
    else
    (y3.elim (f5_nextOfLine_5 K S P c1 c2 n (some t3) (y4 + 1))
    (fun (t8 : Nat) => if (S 202 t8) ≤ (S 202 t3) then
    (f5_nextOfLine_5 K S P c1 c2 n (some t8) (y4 + 1))
    else
    (f5_nextOfLine_5 K S P c1 c2 n (some t3) (y4 + 1)))))))
    else
    (f5_nextOfLine_5 K S P c1 c2 n y3 (y4 + 1)))

def f5_nextOfLine (S : TS) (P : TP) (a1 : Nat) (a2 : Int32) : Option (Option Nat) :=
  f5_nextOfLine_5 (fun (w9 : Option Nat) =>
  some w9) S P a1 a2 FU none (0 : Int32)
set_option maxRecDepth 20000 in
theorem hi5_nextOfLine_2 : ∀ w ∈ u_ws RX2 TX2 9, w ∈ wsX5_nextOfLine := by decide +kernel
set_option maxRecDepth 20000 in
theorem hi5_nextOfLine_3 : ∀ w ∈ u_ws RX3 TX3 8, w ∈ wsX5_nextOfLine := by decide +kernel
set_option maxRecDepth 20000 in
theorem hi5_nextOfLine_5 : ∀ w ∈ u_ws RX5 TX5 12, w ∈ wsX5_nextOfLine := by decide +kernel
set_option maxHeartbeats 4000000 in
set_option maxRecDepth 100000 in
theorem w5_nextOfLine_5 {p : Program} {l : Launch} {e : Env} {s : State} {m : MethodId} {args : Array Value} {below : List Frame} {meth : Method} {c : Code} (C : MC p s m args meth c cX5_nextOfLine (some (.object "FerryTerminal$Sailing")) 6 RX5 wsX5_nextOfLine) {D : va_G} {cA : Nat → ClassId} {z : Nat} {ad : Nat → Nat → Nat} {N : TN} (hK : va_K D vwCl (tysW cA) s) (hN : NW s) {M : TS} {S : TS} {P : TP} (c1 : Nat) (c2 : Int32) (hc1 : c1 < N 2) {v : Option Nat} {K : Option Nat → Option (Option Nat)}
    (hE : ∀ (e3 : Option Nat) (H : Heap) (locs : List Loc) (ls : Array Slot), (∀ y, e3 = some y → y < N 2) → K e3 = some v → Wd D cA z ad N S P M H → va_S (fun q => z ≤ q) s.heap H locs → lv_has ls 6 [(3, va_rf (e3.map (ad 2)))] → W p l e rm5_nextOfLine s m args below meth c H locs 0 0 (MQ below (Qq D cA z 2 v (ad, N, S, P, M)) args s 0 0 (fun q => z ≤ q)) (F0 m 92 ls [])) :
    ∀ (n : Nat) (y3 : Option Nat) (y4 : Int32) (H : Heap) (locs : List Loc) (ls : Array Slot), (∀ y, y3 = some y → y < N 2) → f5_nextOfLine_5 K S P c1 c2 n y3 y4 = some v → Wd D cA z ad N S P M H → va_S (fun q => z ≤ q) s.heap H locs → lv_has ls 6 [(0, .ref (ad 5 0)), (1, .ref (ad 2 c1)), (2, .int c2), (3, va_rf (y3.map (ad 2))), (4, .int y4)] → W p l e rm5_nextOfLine s m args below meth c H locs 0 0 (MQ below (Qq D cA z 2 v (ad, N, S, P, M)) args s 0 0 (fun q => z ≤ q)) (F0 m 5 ls []) := by
  obtain ⟨hx, hb, hr, hml, hown, hts, hlk⟩ := id C
  intro n
  induction n with
  | zero => intro y3 y4 H locs ls hy3 hF; cases hF
  | succ n ih =>
    intro y3 y4 H locs ls hy3 hF hW hS hl
    rw [f5_nextOfLine_5] at hF
    refine lv_iload hx hb dX5_nextOfLine_5 (lv_at hl 4 rfl) ?_
    refine lv_aload_n hx hb dX5_nextOfLine_7 rfl (lv_at hl 0 rfl) ?_
    refine g5_5 hx hb hts hi5_nextOfLine_5 hown hK hW (hts (.fieldLink RX5 65 RX5 "sailingCount" "I") (by decide +kernel)) dX5_nextOfLine_8 ?_
    refine lv_icmp_ge (tgt := 92) hx hb dX5_nextOfLine_11 (by decide) (fun hc => ?_) (fun hc => ?_)
    · replace hF := it_t hF hc
      exact hE y3 _ _ _ hy3 hF hW hS (lv_sub hl [3] rfl)
    · replace hF := it_f hF hc
      refine lv_aload_n hx hb dX5_nextOfLine_14 rfl (lv_at hl 0 rfl) ?_
      refine g5_4 hx hb hts hi5_nextOfLine_5 hown hK hW (hts (.fieldLink RX5 23 RX5 "sailings" "[LFerryTerminal$Sailing;") (by decide +kernel)) dX5_nextOfLine_15 ?_
      refine lv_iload hx hb dX5_nextOfLine_18 (lv_at hl 4 rfl) ?_
      replace hF := ob hF
      obtain ⟨j1, ej1, hF⟩ := hF
      replace hF := lt_ex hF
      obtain ⟨r2, er2, hF⟩ := hF
      have hr2 : ∀ y, r2 = some y → y < N 2 := hW.v er2
      refine l9 hx hb hK hW ej1 er2 dX5_nextOfLine_20 ?_
      refine q_astore (lv' := [(5, va_rf (r2.map (ad 2))), (0, .ref (ad 5 0)), (1, .ref (ad 2 c1)), (2, .int c2), (3, va_rf (y3.map (ad 2))), (4, .int y4)]) hx hb dX5_nextOfLine_21 hl (by decide) rfl ?_
      clear hl; intro ls hl
      refine q_aload hx hb dX5_nextOfLine_23 (lv_at hl 0 rfl) ?_
      replace hF := ob hF
      obtain ⟨t3, et3, hF⟩ := hF
      subst et3
      have ht3 := hr2 t3 rfl
      replace hl : lv_has ls 6 [(5, .ref (ad 2 t3)), (0, .ref (ad 5 0)), (1, .ref (ad 2 c1)), (2, .int c2), (3, va_rf (y3.map (ad 2))), (4, .int y4)] := hl
      refine gn2_3 hx hb hts hi5_nextOfLine_2 hown hK hW ht3 (nf_15 hN) dX5_nextOfLine_25 ?_
      refine lv_aload_n hx hb dX5_nextOfLine_28 rfl (lv_at hl 2 rfl) ?_
      refine gn2_3 hx hb hts hi5_nextOfLine_2 hown hK hW hc1 (nf_15 hN) dX5_nextOfLine_29 ?_
      refine lv_icmp_ne (tgt := 86) hx hb dX5_nextOfLine_32 (by decide) (fun hc => ?_) (fun hc => ?_)
      · replace hF := it_f hF hc
        refine lv_iinc (v := y4 + 1) (lv' := [(4, .int (y4 + 1)), (5, .ref (ad 2 t3)), (0, .ref (ad 5 0)), (1, .ref (ad 2 c1)), (2, .int c2), (3, va_rf (y3.map (ad 2)))]) hx hb dX5_nextOfLine_86 hl (k := 5) rfl rfl (by decide) (by cases y3 <;> rfl) ?_
        clear hl; intro ls hl
        refine lv_goto (tgt := 5) hx hb dX5_nextOfLine_89 (by decide) ?_
        exact ih y3 (y4 + 1) _ _ _ hy3 hF hW hS (lv_sub hl [2, 3, 4, 5, 0] rfl)
      · replace hF := it_t hF hc
        refine lv_aload hx hb dX5_nextOfLine_35 (lv_at hl 0 rfl) ?_
        refine gn2_2 hx hb hts hi5_nextOfLine_2 hown hK hW ht3 (nf_14 hN) dX5_nextOfLine_37 ?_
        refine lv_aload_n hx hb dX5_nextOfLine_40 rfl (lv_at hl 2 rfl) ?_
        refine gn2_2 hx hb hts hi5_nextOfLine_2 hown hK hW hc1 (nf_14 hN) dX5_nextOfLine_41 ?_
        refine lv_icmp_le (tgt := 86) hx hb dX5_nextOfLine_44 (by decide) (fun hc => ?_) (fun hc => ?_)
        · replace hF := it_t hF hc
          refine lv_iinc (v := y4 + 1) (lv' := [(4, .int (y4 + 1)), (5, .ref (ad 2 t3)), (0, .ref (ad 5 0)), (1, .ref (ad 2 c1)), (2, .int c2), (3, va_rf (y3.map (ad 2)))]) hx hb dX5_nextOfLine_86 hl (k := 5) rfl rfl (by decide) (by cases y3 <;> rfl) ?_
          clear hl; intro ls hl
          refine lv_goto (tgt := 5) hx hb dX5_nextOfLine_89 (by decide) ?_
          exact ih y3 (y4 + 1) _ _ _ hy3 hF hW hS (lv_sub hl [2, 3, 4, 5, 0] rfl)
        · replace hF := it_f hF hc
          refine lv_aload hx hb dX5_nextOfLine_47 (lv_at hl 0 rfl) ?_
          replace hF := ob hF
          obtain ⟨v4, q5, hF⟩ := hF
          refine k_i (va_runVN (C := RX2) (As := []) (rest := []) ⟨hx, hb, hml, hown, hts⟩ (c2_takesTickets l t3 ht3 q5) ⟨va_cnB 0 hts gX5_nextOfLine_X2_takesTickets_n96 rfl rfl rfl (nm_3 hN) (hts (.initialized RX2) (by decide +kernel)) (by decide +kernel) ⟨Nat.le_of_ble_eq_true rfl, Nat.le_of_ble_eq_true rfl⟩, hts (.instanceMethod yX2_takesTickets) (by decide +kernel), hts (.selects RX2 yX2_takesTickets yX2_takesTickets) (by decide +kernel)⟩ (k_preV hW hK hN ht3 (EE_2 cA ad S P M t3) rfl) rfl rfl hl.1 rfl (lv_room (Nat.le_of_ble_eq_true rfl)) dX5_nextOfLine_49 ⟨Nat.le_of_ble_eq_true rfl, Nat.le_of_ble_eq_true rfl⟩) hS ?_
          clear hW hS; intro H locs hW hS
          refine lv_if_eq (tgt := 86) hx hb dX5_nextOfLine_52 (by decide) (fun hc => ?_) (fun hc => ?_)
          · replace hF := it_t hF hc
            refine lv_iinc (v := y4 + 1) (lv' := [(4, .int (y4 + 1)), (5, .ref (ad 2 t3)), (0, .ref (ad 5 0)), (1, .ref (ad 2 c1)), (2, .int c2), (3, va_rf (y3.map (ad 2)))]) hx hb dX5_nextOfLine_86 hl (k := 5) rfl rfl (by decide) (by cases y3 <;> rfl) ?_
            clear hl; intro ls hl
            refine lv_goto (tgt := 5) hx hb dX5_nextOfLine_89 (by decide) ?_
            exact ih y3 (y4 + 1) _ _ _ hy3 hF hW hS (lv_sub hl [2, 3, 4, 5, 0] rfl)
          · replace hF := it_f hF hc
            refine lv_aload hx hb dX5_nextOfLine_55 (lv_at hl 0 rfl) ?_
            replace hF := lt_ex hF
            obtain ⟨r6, er6, hF⟩ := hF
            have hr6 : ∀ y, r6 = some y → y < N 3 := hW.v er6
            refine gn2_1 hx hb hts hi5_nextOfLine_2 hown hK hW ht3 er6 (nf_12 hN) dX5_nextOfLine_57 ?_
            replace hF := ob hF
            obtain ⟨t7, et7, hF⟩ := hF
            subst et7
            have ht7 := hr6 t7 rfl
            refine gn3_3 hx hb hts hi5_nextOfLine_3 hown hK hW ht7 (nf_3 hN) dX5_nextOfLine_60 ?_
            refine lv_iload_n hx hb dX5_nextOfLine_63 rfl (lv_at hl 3 rfl) ?_
            refine lv_icmp_lt (tgt := 86) hx hb dX5_nextOfLine_64 (by decide) (fun hc => ?_) (fun hc => ?_)
            · replace hF := it_t hF hc
              refine lv_iinc (v := y4 + 1) (lv' := [(4, .int (y4 + 1)), (5, .ref (ad 2 t3)), (0, .ref (ad 5 0)), (1, .ref (ad 2 c1)), (2, .int c2), (3, va_rf (y3.map (ad 2)))]) hx hb dX5_nextOfLine_86 hl (k := 5) rfl rfl (by decide) (by cases y3 <;> rfl) ?_
              clear hl; intro ls hl
              refine lv_goto (tgt := 5) hx hb dX5_nextOfLine_89 (by decide) ?_
              exact ih y3 (y4 + 1) _ _ _ hy3 hF hW hS (lv_sub hl [2, 3, 4, 5, 0] rfl)
            · replace hF := it_f hF hc
              refine q_aload_n hx hb dX5_nextOfLine_67 rfl (lv_at hl 4 rfl) ?_
              refine q_ifnull (tgt := 83) hx hb dX5_nextOfLine_68 (by decide) (fun hc => ?_) (fun t8 hc => ?_)
              · subst hc
                replace hF := el_n hF
                replace hl : lv_has ls 6 [(5, .ref (ad 2 t3)), (0, .ref (ad 5 0)), (1, .ref (ad 2 c1)), (2, .int c2), (3, .null), (4, .int y4)] := hl
                refine lv_aload hx hb dX5_nextOfLine_83 (lv_at hl 0 rfl) ?_
                refine lv_astore_n (lv' := [(3, .ref (ad 2 t3)), (5, .ref (ad 2 t3)), (0, .ref (ad 5 0)), (1, .ref (ad 2 c1)), (2, .int c2), (4, .int y4)]) hx hb dX5_nextOfLine_85 rfl hl (by decide) rfl ?_
                clear hl; intro ls hl
                refine lv_iinc (v := y4 + 1) (lv' := [(4, .int (y4 + 1)), (3, .ref (ad 2 t3)), (5, .ref (ad 2 t3)), (0, .ref (ad 5 0)), (1, .ref (ad 2 c1)), (2, .int c2)]) hx hb dX5_nextOfLine_86 hl (k := 5) rfl rfl (by decide) rfl ?_
                clear hl; intro ls hl
                refine lv_goto (tgt := 5) hx hb dX5_nextOfLine_89 (by decide) ?_
                exact ih (some t3) (y4 + 1) _ _ _ (q_some ht3) hF hW hS (lv_sub hl [3, 4, 5, 1, 0] rfl)
              · subst hc
                replace hF := el_s hF
                have ht8 := hy3 t8 rfl
                replace hl : lv_has ls 6 [(5, .ref (ad 2 t3)), (0, .ref (ad 5 0)), (1, .ref (ad 2 c1)), (2, .int c2), (3, .ref (ad 2 t8)), (4, .int y4)] := hl
                refine lv_aload hx hb dX5_nextOfLine_71 (lv_at hl 0 rfl) ?_
                refine gn2_2 hx hb hts hi5_nextOfLine_2 hown hK hW ht3 (nf_14 hN) dX5_nextOfLine_73 ?_
                refine lv_aload_n hx hb dX5_nextOfLine_76 rfl (lv_at hl 4 rfl) ?_
                refine gn2_2 hx hb hts hi5_nextOfLine_2 hown hK hW ht8 (nf_14 hN) dX5_nextOfLine_77 ?_
                refine lv_icmp_ge (tgt := 86) hx hb dX5_nextOfLine_80 (by decide) (fun hc => ?_) (fun hc => ?_)
                · replace hF := it_t hF hc
                  refine lv_iinc (v := y4 + 1) (lv' := [(4, .int (y4 + 1)), (5, .ref (ad 2 t3)), (0, .ref (ad 5 0)), (1, .ref (ad 2 c1)), (2, .int c2), (3, .ref (ad 2 t8))]) hx hb dX5_nextOfLine_86 hl (k := 5) rfl rfl (by decide) rfl ?_
                  clear hl; intro ls hl
                  refine lv_goto (tgt := 5) hx hb dX5_nextOfLine_89 (by decide) ?_
                  exact ih (some t8) (y4 + 1) _ _ _ (q_some ht8) hF hW hS (lv_sub hl [2, 3, 4, 5, 0] rfl)
                · replace hF := it_f hF hc
                  refine lv_aload hx hb dX5_nextOfLine_83 (lv_at hl 0 rfl) ?_
                  refine lv_astore_n (lv' := [(3, .ref (ad 2 t3)), (5, .ref (ad 2 t3)), (0, .ref (ad 5 0)), (1, .ref (ad 2 c1)), (2, .int c2), (4, .int y4)]) hx hb dX5_nextOfLine_85 rfl hl (by decide) rfl ?_
                  clear hl; intro ls hl
                  refine lv_iinc (v := y4 + 1) (lv' := [(4, .int (y4 + 1)), (3, .ref (ad 2 t3)), (5, .ref (ad 2 t3)), (0, .ref (ad 5 0)), (1, .ref (ad 2 c1)), (2, .int c2)]) hx hb dX5_nextOfLine_86 hl (k := 5) rfl rfl (by decide) rfl ?_
                  clear hl; intro ls hl
                  refine lv_goto (tgt := 5) hx hb dX5_nextOfLine_89 (by decide) ?_
                  exact ih (some t3) (y4 + 1) _ _ _ (q_some ht3) hF hW hS (lv_sub hl [3, 4, 5, 1, 0] rfl)

set_option maxHeartbeats 4000000 in
set_option maxRecDepth 100000 in
theorem w5_nextOfLine {p : Program} {l : Launch} {e : Env} {s : State} {m : MethodId} {args : Array Value} {below : List Frame} {meth : Method} {c : Code} (C : MC p s m args meth c cX5_nextOfLine (some (.object "FerryTerminal$Sailing")) 6 RX5 wsX5_nextOfLine) {D : va_G} {cA : Nat → ClassId} {z : Nat} {ad : Nat → Nat → Nat} {N : TN} (hK : va_K D vwCl (tysW cA) s) (hN : NW s) {S : TS} {P : TP} {M : TS} (a1 : Nat) (a2 : Int32) (ha1 : a1 < N 2) {v : Option Nat} (hF : f5_nextOfLine S P a1 a2 = some v)
    {H : Heap} {ls : Array Slot} (hW : Wd D cA z ad N S P M H) {locs : List Loc} (hS : va_S (fun q => z ≤ q) s.heap H locs) (hl : lv_has ls 6 [(0, .ref (ad 5 0)), (1, .ref (ad 2 a1)), (2, .int a2)]) : W p l e rm5_nextOfLine s m args below meth c H locs 0 0 (MQ below (Qq D cA z 2 v (ad, N, S, P, M)) args s 0 0 (fun q => z ≤ q)) (F0 m 0 ls []) := by
  obtain ⟨hx, hb, hr, hml, hown, hts, hlk⟩ := id C
  unfold f5_nextOfLine at hF
  refine lv_null hx hb dX5_nextOfLine_0 ?_
  refine q_astore_n (lv' := [(3, .null), (0, .ref (ad 5 0)), (1, .ref (ad 2 a1)), (2, .int a2)]) (r := none) hx hb dX5_nextOfLine_1 rfl hl (by decide) rfl ?_
  clear hl; intro ls hl
  refine lv_iconst (v := (0 : Int32)) hx hb dX5_nextOfLine_2 (by decide) ?_
  refine lv_istore (lv' := [(4, .int (0 : Int32)), (3, .null), (0, .ref (ad 5 0)), (1, .ref (ad 2 a1)), (2, .int a2)]) hx hb dX5_nextOfLine_3 hl (by decide) rfl ?_
  clear hl; intro ls hl
  refine w5_nextOfLine_5 C hK hN a1 a2 ha1 (hE := ?_) FU none (0 : Int32) _ _ _ q_none hF hW hS (lv_sub hl [2, 3, 4, 1, 0] rfl)
  intro w9 H locs ls hw9 hF hW hS hl
  refine q_aload_n hx hb dX5_nextOfLine_92 rfl (lv_at hl 0 rfl) ?_
  have hq1 := Option.some.inj hF
  subst hq1
  exact e_q (v := w9) hx hb hr hlk hK hN hW hS hw9 dX5_nextOfLine_93

set_option maxHeartbeats 4000000 in
set_option maxRecDepth 100000 in
theorem c5_nextOfLine (l : Launch) {D : va_G} {cA : Nat → ClassId} {z : Nat} {ad : Nat → Nat → Nat} {N : TN} {S : TS} {P : TP} {M : TS} (a1 : Nat) (a2 : Int32) (ha1 : a1 < N 2) {v : Option Nat} (hF : f5_nextOfLine S P a1 a2 = some v) : Met l yX5_nextOfLine wsX5_nextOfLine rm5_nextOfLine (va_Pc [.ref (ad 5 0), .ref (ad 2 a1), .int a2] (Wl D cA z (ad, N, S, P, M))) (Qq D cA z 2 v (ad, N, S, P, M)) 0 0 (fun q => z ≤ q) := by
  refine Met.ofW (cc := cX5_nextOfLine) (maxL := 6) (ret := (some (.object "FerryTerminal$Sailing"))) (by decide) rfl ?_
  intro p e s m args below meth c s₁ B hml hv
  obtain ⟨rfl, hW, hK, hN⟩ := hv
  have hl := lv_entry ([.ref (ad 5 0), .ref (ad 2 a1), .int a2]) (n := 6) (Nat.le_of_ble_eq_true rfl)
  rw [lg_entry_eq]
  generalize (lg_sl ([.ref (ad 5 0), .ref (ad 2 a1), .int a2]) ++ List.replicate (6 - (lg_sl ([.ref (ad 5 0), .ref (ad 2 a1), .int a2])).length) Slot.unset).toArray = ls at hl ⊢
  exact w5_nextOfLine ⟨B.exec, B.bytes, B.returns, hml, findClass_of_methodNamed B.named, atoms_spec (ws := wsX5_nextOfLine) B.pre, B.notSynchronized⟩ hK hN a1 a2 ha1 hF hW va_S.rf hl

-- 5 doRecallTurn
abbrev rm5_doRecallTurn : Room := { frames := 5, cells := 0, slots := 0, locals := 109 }
def f5_doRecallTurn (S : TS) (P : TP) (a1 : Nat) : Option (TS × TP) :=
  (f5_latestAboard S P a1).bind fun (r1 : Option Nat) =>
  r1.elim ((f5_firstToMoveOn S P a1).bind fun (r4 : Option Nat) =>
  r4.elim (some (S, P))
  (fun (t6 : Nat) => (f5_nextOfLine S P a1 (S 402 t6)).bind fun (r7 : Option Nat) =>
  r7.elim (lt (up S 406 t6 (5 : Int32)) fun (S10 : TS) =>
  lt (up S10 412 t6 (S10 405 t6)) fun (S11 : TS) =>
  b2 (f5_writeLog S11 P (8 : Int32) t6 a1) fun (S12 : TS) (P13 : TP) =>
  some (S12, P13))
  (fun (t9 : Nat) => lt (up3 P 401 t6 0 (some t9)) fun (P15 : TP) =>
  lt (if (S 406 t6) = 0 then (0 : Int32) else (1 : Int32)) fun (x16 : Int32) =>
  lt (up S 406 t6 x16) fun (S17 : TS) =>
  lt (up S17 413 t6 ((S17 413 t6) + (1 : Int32))) fun (S18 : TS) =>
  b2 (f5_writeLog S18 P15 (7 : Int32) t6 a1) fun (S19 : TS) (P20 : TP) =>
  some (S19, P20))))
  (fun (t3 : Nat) => b2 (f5_bringOff S P t3) fun (S22 : TS) (P23 : TP) =>
  b2 (f5_writeLog S22 P23 (6 : Int32) t3 a1) fun (S25 : TS) (P26 : TP) =>
  some (S25, P26))
set_option maxRecDepth 20000 in
theorem hi5_doRecallTurn_4 : ∀ w ∈ u_ws RX4 TX4 16, w ∈ wsX5_doRecallTurn := by decide +kernel
set_option maxHeartbeats 4000000 in
set_option maxRecDepth 100000 in
theorem w5_doRecallTurn {p : Program} {l : Launch} {e : Env} {s : State} {m : MethodId} {args : Array Value} {below : List Frame} {meth : Method} {c : Code} (C : MC p s m args meth c cX5_doRecallTurn none 5 RX5 wsX5_doRecallTurn) {D : va_G} {cA : Nat → ClassId} {z : Nat} {ad : Nat → Nat → Nat} {N : TN} (hK : va_K D vwCl (tysW cA) s) (hN : NW s) {S : TS} {P : TP} {M : TS} (a1 : Nat) (ha1 : a1 < N 2) {S' : TS} {P' : TP} (hF : f5_doRecallTurn S P a1 = some (S', P'))
    {H : Heap} {ls : Array Slot} (hW : Wd D cA z ad N S P M H) {locs : List Loc} (hS : va_S (fun q => z ≤ q) s.heap H locs) (hl : lv_has ls 5 [(0, .ref (ad 5 0)), (1, .ref (ad 2 a1))]) : W p l e rm5_doRecallTurn s m args below meth c H locs 0 0 (MQ below (Qv D cA z (ad, N, S', P', M)) args s 0 0 (fun q => z ≤ q)) (F0 m 0 ls []) := by
  obtain ⟨hx, hb, hr, hml, hown, hts, hlk⟩ := id C
  unfold f5_doRecallTurn at hF
  refine lv_aload_n hx hb dX5_doRecallTurn_0 rfl (lv_at hl 0 rfl) ?_
  refine lv_aload_n hx hb dX5_doRecallTurn_1 rfl (lv_at hl 1 rfl) ?_
  replace hF := ob hF
  obtain ⟨r1, q2, hF⟩ := hF
  refine k_q (va_runV (As := [.ref (ad 2 a1)]) (rest := []) ⟨hx, hb, hml, hown, hts⟩ (c5_latestAboard l a1 ha1 q2) (cwV 1 hts gX5_doRecallTurn_X5_latestAboard rfl rfl rfl (by decide +kernel) ⟨Nat.le_of_ble_eq_true rfl, Nat.le_of_ble_eq_true rfl⟩) (k_preV hW hK hN (hW.fx 5 rfl) (EE_5 cA ad S P M 0) rfl) rfl rfl hl.1 rfl (lv_room (Nat.le_of_ble_eq_true rfl)) dX5_doRecallTurn_2 ⟨Nat.le_of_ble_eq_true rfl, Nat.le_of_ble_eq_true rfl⟩) hS (fun H locs hW hS hr1 => ?_)
  refine q_astore_n (lv' := [(2, va_rf (r1.map (ad 4))), (0, .ref (ad 5 0)), (1, .ref (ad 2 a1))]) hx hb dX5_doRecallTurn_5 rfl hl (by decide) rfl ?_
  clear hl; intro ls hl
  refine q_aload_n hx hb dX5_doRecallTurn_6 rfl (lv_at hl 0 rfl) ?_
  refine q_ifnull (tgt := 24) hx hb dX5_doRecallTurn_7 (by decide) (fun hc => ?_) (fun t3 hc => ?_)
  · subst hc
    replace hF := el_n hF
    replace hl : lv_has ls 5 [(2, .null), (0, .ref (ad 5 0)), (1, .ref (ad 2 a1))] := hl
    refine lv_aload_n hx hb dX5_doRecallTurn_24 rfl (lv_at hl 1 rfl) ?_
    refine lv_aload_n hx hb dX5_doRecallTurn_25 rfl (lv_at hl 2 rfl) ?_
    replace hF := ob hF
    obtain ⟨r4, q5, hF⟩ := hF
    refine k_q (va_runV (As := [.ref (ad 2 a1)]) (rest := []) ⟨hx, hb, hml, hown, hts⟩ (c5_firstToMoveOn l a1 ha1 q5) (cwV 1 hts gX5_doRecallTurn_X5_firstToMoveOn rfl rfl rfl (by decide +kernel) ⟨Nat.le_of_ble_eq_true rfl, Nat.le_of_ble_eq_true rfl⟩) (k_preV hW hK hN (hW.fx 5 rfl) (EE_5 cA ad S P M 0) rfl) rfl rfl hl.1 rfl (lv_room (Nat.le_of_ble_eq_true rfl)) dX5_doRecallTurn_26 ⟨Nat.le_of_ble_eq_true rfl, Nat.le_of_ble_eq_true rfl⟩) hS (fun H locs hW hS hr4 => ?_)
    refine q_astore_n (lv' := [(3, va_rf (r4.map (ad 4))), (2, .null), (0, .ref (ad 5 0)), (1, .ref (ad 2 a1))]) hx hb dX5_doRecallTurn_29 rfl hl (by decide) rfl ?_
    clear hl; intro ls hl
    refine q_aload_n hx hb dX5_doRecallTurn_30 rfl (lv_at hl 0 rfl) ?_
    refine q_ifnonnull (tgt := 35) hx hb dX5_doRecallTurn_31 (by decide) (fun t6 hc => ?_) (fun hc => ?_)
    · subst hc
      replace hF := el_s hF
      have ht6 := hr4 t6 rfl
      replace hl : lv_has ls 5 [(3, .ref (ad 4 t6)), (2, .null), (0, .ref (ad 5 0)), (1, .ref (ad 2 a1))] := hl
      refine lv_aload_n hx hb dX5_doRecallTurn_35 rfl (lv_at hl 2 rfl) ?_
      refine lv_aload_n hx hb dX5_doRecallTurn_36 rfl (lv_at hl 3 rfl) ?_
      refine lv_aload_n hx hb dX5_doRecallTurn_37 rfl (lv_at hl 0 rfl) ?_
      refine gn4_2 hx hb hts hi5_doRecallTurn_4 hown hK hW ht6 (nf_24 hN) dX5_doRecallTurn_38 ?_
      replace hF := ob hF
      obtain ⟨r7, q8, hF⟩ := hF
      refine k_q (va_runV (As := [.ref (ad 2 a1), .int (S 402 t6)]) (rest := []) ⟨hx, hb, hml, hown, hts⟩ (c5_nextOfLine l a1 (S 402 t6) ha1 q8) (cwV 2 hts gX5_doRecallTurn_X5_nextOfLine rfl rfl rfl (by decide +kernel) ⟨Nat.le_of_ble_eq_true rfl, Nat.le_of_ble_eq_true rfl⟩) (k_preV hW hK hN (hW.fx 5 rfl) (EE_5 cA ad S P M 0) rfl) rfl rfl hl.1 rfl (lv_room (Nat.le_of_ble_eq_true rfl)) dX5_doRecallTurn_41 ⟨Nat.le_of_ble_eq_true rfl, Nat.le_of_ble_eq_true rfl⟩) hS (fun H locs hW hS hr7 => ?_)
      refine q_astore (lv' := [(4, va_rf (r7.map (ad 2))), (3, .ref (ad 4 t6)), (2, .null), (0, .ref (ad 5 0)), (1, .ref (ad 2 a1))]) hx hb dX5_doRecallTurn_44 hl (by decide) rfl ?_
      clear hl; intro ls hl
      refine q_aload hx hb dX5_doRecallTurn_46 (lv_at hl 0 rfl) ?_
      refine q_ifnonnull (tgt := 75) hx hb dX5_doRecallTurn_48 (by decide) (fun t9 hc => ?_) (fun hc => ?_)
      · subst hc
        replace hF := el_s hF
        have ht9 := hr7 t9 rfl
        replace hl : lv_has ls 5 [(4, .ref (ad 2 t9)), (3, .ref (ad 4 t6)), (2, .null), (0, .ref (ad 5 0)), (1, .ref (ad 2 a1))] := hl
        refine lv_aload_n hx hb dX5_doRecallTurn_75 rfl (lv_at hl 1 rfl) ?_
        refine lv_aload hx hb dX5_doRecallTurn_76 (lv_at hl 0 rfl) ?_
        replace hF := lt_ex hF
        obtain ⟨P15, eP15, hF⟩ := hF
        refine pn4_1 (r := (some t9)) hx hb hts hi5_doRecallTurn_4 hown hK hW hS ht6 (q_some ht9) eP15 (nf_22 hN) dX5_doRecallTurn_78 ?_
        clear hW hS; intro H locs hW hS
        refine lv_aload_n hx hb dX5_doRecallTurn_81 rfl (lv_at hl 1 rfl) ?_
        refine lv_aload_n hx hb dX5_doRecallTurn_82 rfl (lv_at hl 1 rfl) ?_
        refine gn4_6 hx hb hts hi5_doRecallTurn_4 hown hK hW ht6 (nf_28 hN) dX5_doRecallTurn_83 ?_
        replace hF := lt_ex hF
        obtain ⟨x16, ex16, hF⟩ := hF
        have hJ : W p l e rm5_doRecallTurn s m args below meth c H locs 0 0 (MQ below (Qv D cA z (ad, N, S', P', M)) args s 0 0 (fun q => z ≤ q)) (F0 m 94 ls [.int x16, .ref (ad 4 t6)]) := by
          replace hF := lt_ex hF
          obtain ⟨S17, eS17, hF⟩ := hF
          refine pn4_6 hx hb hts hi5_doRecallTurn_4 hown hK hW hS ht6 eS17 (nf_28 hN) dX5_doRecallTurn_94 ?_
          clear hW hS; intro H locs hW hS
          refine lv_aload_n hx hb dX5_doRecallTurn_97 rfl (lv_at hl 1 rfl) ?_
          refine lv_dup hx hb dX5_doRecallTurn_98 rfl ?_
          refine gn4_13 hx hb hts hi5_doRecallTurn_4 hown hK hW ht6 (nf_36 hN) dX5_doRecallTurn_99 ?_
          refine lv_iconst (v := (1 : Int32)) hx hb dX5_doRecallTurn_102 (by decide) ?_
          refine lv_iadd hx hb dX5_doRecallTurn_103 ?_
          replace hF := lt_ex hF
          obtain ⟨S18, eS18, hF⟩ := hF
          refine pn4_13 hx hb hts hi5_doRecallTurn_4 hown hK hW hS ht6 eS18 (nf_36 hN) dX5_doRecallTurn_104 ?_
          clear hW hS; intro H locs hW hS
          refine lv_aload_n hx hb dX5_doRecallTurn_107 rfl (lv_at hl 3 rfl) ?_
          refine lv_bipush (v := (7 : Int32)) hx hb dX5_doRecallTurn_108 (by decide) ?_
          refine lv_aload_n hx hb dX5_doRecallTurn_110 rfl (lv_at hl 1 rfl) ?_
          refine lv_aload_n hx hb dX5_doRecallTurn_111 rfl (lv_at hl 4 rfl) ?_
          replace hF := ob2 hF
          obtain ⟨S19, P20, q21, hF⟩ := hF
          refine k_v (va_runV (As := [.int (7 : Int32), .ref (ad 4 t6), .ref (ad 2 a1)]) (rest := []) ⟨hx, hb, hml, hown, hts⟩ (c5_writeLog l (7 : Int32) t6 a1 ht6 ha1 q21) (cwV 3 hts gX5_doRecallTurn_X5_writeLog rfl rfl rfl (by decide +kernel) ⟨Nat.le_of_ble_eq_true rfl, Nat.le_of_ble_eq_true rfl⟩) (k_preV hW hK hN (hW.fx 5 rfl) (EE_5 cA ad S18 P15 M 0) rfl) rfl rfl hl.1 rfl (lv_room (Nat.le_of_ble_eq_true rfl)) dX5_doRecallTurn_112 ⟨Nat.le_of_ble_eq_true rfl, Nat.le_of_ble_eq_true rfl⟩) hS ?_
          clear hW hS; intro H locs hW hS
          obtain ⟨hq1, hq2⟩ := Prod.mk.inj (Option.some.inj hF)
          subst hq1
          subst hq2
          exact e_v hx hb hr hlk hK hN hW hS dX5_doRecallTurn_115
        refine lv_if_ne (tgt := 93) hx hb dX5_doRecallTurn_86 (by decide) (fun hc => ?_) (fun hc => ?_)
        · refine lv_iconst (v := (1 : Int32)) hx hb dX5_doRecallTurn_93 (by decide) ?_
          exact W.eq (by rw [ex16, if_neg hc]) hJ
        · refine lv_iconst (v := (0 : Int32)) hx hb dX5_doRecallTurn_89 (by decide) ?_
          refine lv_goto (tgt := 94) hx hb dX5_doRecallTurn_90 (by decide) ?_
          exact W.eq (by rw [ex16, if_pos hc]) hJ
      · subst hc
        replace hF := el_n hF
        replace hl : lv_has ls 5 [(4, .null), (3, .ref (ad 4 t6)), (2, .null), (0, .ref (ad 5 0)), (1, .ref (ad 2 a1))] := hl
        refine lv_aload_n hx hb dX5_doRecallTurn_51 rfl (lv_at hl 1 rfl) ?_
        refine lv_iconst (v := (5 : Int32)) hx hb dX5_doRecallTurn_52 (by decide) ?_
        replace hF := lt_ex hF
        obtain ⟨S10, eS10, hF⟩ := hF
        refine pn4_6 hx hb hts hi5_doRecallTurn_4 hown hK hW hS ht6 eS10 (nf_28 hN) dX5_doRecallTurn_53 ?_
        clear hW hS; intro H locs hW hS
        refine lv_aload_n hx hb dX5_doRecallTurn_56 rfl (lv_at hl 1 rfl) ?_
        refine lv_aload_n hx hb dX5_doRecallTurn_57 rfl (lv_at hl 1 rfl) ?_
        refine gn4_5 hx hb hts hi5_doRecallTurn_4 hown hK hW ht6 (nf_27 hN) dX5_doRecallTurn_58 ?_
        replace hF := lt_ex hF
        obtain ⟨S11, eS11, hF⟩ := hF
        refine pn4_12 hx hb hts hi5_doRecallTurn_4 hown hK hW hS ht6 eS11 (nf_35 hN) dX5_doRecallTurn_61 ?_
        clear hW hS; intro H locs hW hS
        refine lv_aload_n hx hb dX5_doRecallTurn_64 rfl (lv_at hl 3 rfl) ?_
        refine lv_bipush (v := (8 : Int32)) hx hb dX5_doRecallTurn_65 (by decide) ?_
        refine lv_aload_n hx hb dX5_doRecallTurn_67 rfl (lv_at hl 1 rfl) ?_
        refine lv_aload_n hx hb dX5_doRecallTurn_68 rfl (lv_at hl 4 rfl) ?_
        replace hF := ob2 hF
        obtain ⟨S12, P13, q14, hF⟩ := hF
        refine k_v (va_runV (As := [.int (8 : Int32), .ref (ad 4 t6), .ref (ad 2 a1)]) (rest := []) ⟨hx, hb, hml, hown, hts⟩ (c5_writeLog l (8 : Int32) t6 a1 ht6 ha1 q14) (cwV 3 hts gX5_doRecallTurn_X5_writeLog rfl rfl rfl (by decide +kernel) ⟨Nat.le_of_ble_eq_true rfl, Nat.le_of_ble_eq_true rfl⟩) (k_preV hW hK hN (hW.fx 5 rfl) (EE_5 cA ad S11 P M 0) rfl) rfl rfl hl.1 rfl (lv_room (Nat.le_of_ble_eq_true rfl)) dX5_doRecallTurn_69 ⟨Nat.le_of_ble_eq_true rfl, Nat.le_of_ble_eq_true rfl⟩) hS ?_
        clear hW hS; intro H locs hW hS
        refine lv_goto (tgt := 115) hx hb dX5_doRecallTurn_72 (by decide) ?_
        obtain ⟨hq1, hq2⟩ := Prod.mk.inj (Option.some.inj hF)
        subst hq1
        subst hq2
        exact e_v hx hb hr hlk hK hN hW hS dX5_doRecallTurn_115
    · subst hc
      replace hF := el_n hF
      replace hl : lv_has ls 5 [(3, .null), (2, .null), (0, .ref (ad 5 0)), (1, .ref (ad 2 a1))] := hl
      obtain ⟨hq1, hq2⟩ := Prod.mk.inj (Option.some.inj hF)
      subst hq1
      subst hq2
      exact e_v hx hb hr hlk hK hN hW hS dX5_doRecallTurn_34
  · subst hc
    replace hF := el_s hF
    have ht3 := hr1 t3 rfl
    replace hl : lv_has ls 5 [(2, .ref (ad 4 t3)), (0, .ref (ad 5 0)), (1, .ref (ad 2 a1))] := hl
    refine lv_aload_n hx hb dX5_doRecallTurn_10 rfl (lv_at hl 1 rfl) ?_
    refine lv_aload_n hx hb dX5_doRecallTurn_11 rfl (lv_at hl 0 rfl) ?_
    replace hF := ob2 hF
    obtain ⟨S22, P23, q24, hF⟩ := hF
    refine k_v (va_runV (As := [.ref (ad 4 t3)]) (rest := []) ⟨hx, hb, hml, hown, hts⟩ (c5_bringOff l t3 ht3 q24) (cwV 1 hts gX5_doRecallTurn_X5_bringOff rfl rfl rfl (by decide +kernel) ⟨Nat.le_of_ble_eq_true rfl, Nat.le_of_ble_eq_true rfl⟩) (k_preV hW hK hN (hW.fx 5 rfl) (EE_5 cA ad S P M 0) rfl) rfl rfl hl.1 rfl (lv_room (Nat.le_of_ble_eq_true rfl)) dX5_doRecallTurn_12 ⟨Nat.le_of_ble_eq_true rfl, Nat.le_of_ble_eq_true rfl⟩) hS ?_
    clear hW hS; intro H locs hW hS
    refine lv_aload_n hx hb dX5_doRecallTurn_15 rfl (lv_at hl 1 rfl) ?_
    refine lv_bipush (v := (6 : Int32)) hx hb dX5_doRecallTurn_16 (by decide) ?_
    refine lv_aload_n hx hb dX5_doRecallTurn_18 rfl (lv_at hl 0 rfl) ?_
    refine lv_aload_n hx hb dX5_doRecallTurn_19 rfl (lv_at hl 2 rfl) ?_
    replace hF := ob2 hF
    obtain ⟨S25, P26, q27, hF⟩ := hF
    refine k_v (va_runV (As := [.int (6 : Int32), .ref (ad 4 t3), .ref (ad 2 a1)]) (rest := []) ⟨hx, hb, hml, hown, hts⟩ (c5_writeLog l (6 : Int32) t3 a1 ht3 ha1 q27) (cwV 3 hts gX5_doRecallTurn_X5_writeLog rfl rfl rfl (by decide +kernel) ⟨Nat.le_of_ble_eq_true rfl, Nat.le_of_ble_eq_true rfl⟩) (k_preV hW hK hN (hW.fx 5 rfl) (EE_5 cA ad S22 P23 M 0) rfl) rfl rfl hl.1 rfl (lv_room (Nat.le_of_ble_eq_true rfl)) dX5_doRecallTurn_20 ⟨Nat.le_of_ble_eq_true rfl, Nat.le_of_ble_eq_true rfl⟩) hS ?_
    clear hW hS; intro H locs hW hS
    obtain ⟨hq1, hq2⟩ := Prod.mk.inj (Option.some.inj hF)
    subst hq1
    subst hq2
    exact e_v hx hb hr hlk hK hN hW hS dX5_doRecallTurn_23

set_option maxHeartbeats 4000000 in
set_option maxRecDepth 100000 in
theorem c5_doRecallTurn (l : Launch) {D : va_G} {cA : Nat → ClassId} {z : Nat} {ad : Nat → Nat → Nat} {N : TN} {S : TS} {P : TP} {M : TS} (a1 : Nat) (ha1 : a1 < N 2) {S' : TS} {P' : TP} (hF : f5_doRecallTurn S P a1 = some (S', P')) : Met l yX5_doRecallTurn wsX5_doRecallTurn rm5_doRecallTurn (va_Pc [.ref (ad 5 0), .ref (ad 2 a1)] (Wl D cA z (ad, N, S, P, M))) (Qv D cA z (ad, N, S', P', M)) 0 0 (fun q => z ≤ q) := by
  refine Met.ofW (cc := cX5_doRecallTurn) (maxL := 5) (ret := none) (by decide) rfl ?_
  intro p e s m args below meth c s₁ B hml hv
  obtain ⟨rfl, hW, hK, hN⟩ := hv
  have hl := lv_entry ([.ref (ad 5 0), .ref (ad 2 a1)]) (n := 5) (Nat.le_of_ble_eq_true rfl)
  rw [lg_entry_eq]
  generalize (lg_sl ([.ref (ad 5 0), .ref (ad 2 a1)]) ++ List.replicate (5 - (lg_sl ([.ref (ad 5 0), .ref (ad 2 a1)])).length) Slot.unset).toArray = ls at hl ⊢
  exact w5_doRecallTurn ⟨B.exec, B.bytes, B.returns, hml, findClass_of_methodNamed B.named, atoms_spec (ws := wsX5_doRecallTurn) B.pre, B.notSynchronized⟩ hK hN a1 ha1 hF hW va_S.rf hl

-- 5 firstWithTurn
abbrev rm5_firstWithTurn : Room := { frames := 1, cells := 0, slots := 0, locals := 23 }
def f5_firstWithTurn_2 (K : Option (Option Nat)) (S : TS) (P : TP) : Nat → Int32 → Option (Option Nat)
  | 0, _ => none
  | n + 1, y1 =>
    if (S 505 0) ≤ y1 then
    (K)
    else
    ((ix y1 60).bind fun (j1 : Nat) =>
    lt (P 900 0 j1) fun (r2 : Option Nat) =>
    r2.bind fun (t3 : Nat) =>
    if (S 204 t3) = (1 : Int32) then
    (if (S 206 t3) = 0 then
    (some (some t3))
    else
    ((f5_hasBoardingTurn S P t3).bind fun (v4 : Int32) =>
    if v4 = 0 then
    (f5_firstWithTurn_2 K S P n (y1 + 1))
    else
    (some (some t3))))
    else
    (f5_firstWithTurn_2 K S P n (y1 + 1)))

def f5_firstWithTurn (S : TS) (P : TP) : Option (Option Nat) :=
  f5_firstWithTurn_2 (some none) S P FU (0 : Int32)
set_option maxRecDepth 20000 in
theorem hi5_firstWithTurn_2 : ∀ w ∈ u_ws RX2 TX2 9, w ∈ wsX5_firstWithTurn := by decide +kernel
set_option maxRecDepth 20000 in
theorem hi5_firstWithTurn_5 : ∀ w ∈ u_ws RX5 TX5 12, w ∈ wsX5_firstWithTurn := by decide +kernel
set_option maxHeartbeats 4000000 in
set_option maxRecDepth 100000 in
theorem w5_firstWithTurn_2 {p : Program} {l : Launch} {e : Env} {s : State} {m : MethodId} {args : Array Value} {below : List Frame} {meth : Method} {c : Code} (C : MC p s m args meth c cX5_firstWithTurn (some (.object "FerryTerminal$Sailing")) 3 RX5 wsX5_firstWithTurn) {D : va_G} {cA : Nat → ClassId} {z : Nat} {ad : Nat → Nat → Nat} {N : TN} (hK : va_K D vwCl (tysW cA) s) (hN : NW s) {M : TS} {S : TS} {P : TP} {v : Option Nat} {K : Option (Option Nat)}
    (hE : ∀ (H : Heap) (locs : List Loc) (ls : Array Slot), K = some v → Wd D cA z ad N S P M H → va_S (fun q => z ≤ q) s.heap H locs → lv_has ls 3 [] → W p l e rm5_firstWithTurn s m args below meth c H locs 0 0 (MQ below (Qq D cA z 2 v (ad, N, S, P, M)) args s 0 0 (fun q => z ≤ q)) (F0 m 48 ls [])) :
    ∀ (n : Nat) (y1 : Int32) (H : Heap) (locs : List Loc) (ls : Array Slot), f5_firstWithTurn_2 K S P n y1 = some v → Wd D cA z ad N S P M H → va_S (fun q => z ≤ q) s.heap H locs → lv_has ls 3 [(0, .ref (ad 5 0)), (1, .int y1)] → W p l e rm5_firstWithTurn s m args below meth c H locs 0 0 (MQ below (Qq D cA z 2 v (ad, N, S, P, M)) args s 0 0 (fun q => z ≤ q)) (F0 m 2 ls []) := by
  obtain ⟨hx, hb, hr, hml, hown, hts, hlk⟩ := id C
  intro n
  induction n with
  | zero => intro y1 H locs ls hF; cases hF
  | succ n ih =>
    intro y1 H locs ls hF hW hS hl
    rw [f5_firstWithTurn_2] at hF
    refine lv_iload_n hx hb dX5_firstWithTurn_2 rfl (lv_at hl 1 rfl) ?_
    refine lv_aload_n hx hb dX5_firstWithTurn_3 rfl (lv_at hl 0 rfl) ?_
    refine g5_5 hx hb hts hi5_firstWithTurn_5 hown hK hW (hts (.fieldLink RX5 65 RX5 "sailingCount" "I") (by decide +kernel)) dX5_firstWithTurn_4 ?_
    refine lv_icmp_ge (tgt := 48) hx hb dX5_firstWithTurn_7 (by decide) (fun hc => ?_) (fun hc => ?_)
    · replace hF := it_t hF hc
      exact hE _ _ _ hF hW hS (lv_sub hl [] rfl)
    · replace hF := it_f hF hc
      refine lv_aload_n hx hb dX5_firstWithTurn_10 rfl (lv_at hl 0 rfl) ?_
      refine g5_4 hx hb hts hi5_firstWithTurn_5 hown hK hW (hts (.fieldLink RX5 23 RX5 "sailings" "[LFerryTerminal$Sailing;") (by decide +kernel)) dX5_firstWithTurn_11 ?_
      refine lv_iload_n hx hb dX5_firstWithTurn_14 rfl (lv_at hl 1 rfl) ?_
      replace hF := ob hF
      obtain ⟨j1, ej1, hF⟩ := hF
      replace hF := lt_ex hF
      obtain ⟨r2, er2, hF⟩ := hF
      have hr2 : ∀ y, r2 = some y → y < N 2 := hW.v er2
      refine l9 hx hb hK hW ej1 er2 dX5_firstWithTurn_15 ?_
      refine q_astore_n (lv' := [(2, va_rf (r2.map (ad 2))), (0, .ref (ad 5 0)), (1, .int y1)]) hx hb dX5_firstWithTurn_16 rfl hl (by decide) rfl ?_
      clear hl; intro ls hl
      refine q_aload_n hx hb dX5_firstWithTurn_17 rfl (lv_at hl 0 rfl) ?_
      replace hF := ob hF
      obtain ⟨t3, et3, hF⟩ := hF
      subst et3
      have ht3 := hr2 t3 rfl
      replace hl : lv_has ls 3 [(2, .ref (ad 2 t3)), (0, .ref (ad 5 0)), (1, .int y1)] := hl
      refine gn2_4 hx hb hts hi5_firstWithTurn_2 hown hK hW ht3 (nf_16 hN) dX5_firstWithTurn_18 ?_
      refine lv_iconst (v := (1 : Int32)) hx hb dX5_firstWithTurn_21 (by decide) ?_
      refine lv_icmp_ne (tgt := 42) hx hb dX5_firstWithTurn_22 (by decide) (fun hc => ?_) (fun hc => ?_)
      · replace hF := it_f hF hc
        refine lv_iinc (v := y1 + 1) (lv' := [(1, .int (y1 + 1)), (2, .ref (ad 2 t3)), (0, .ref (ad 5 0))]) hx hb dX5_firstWithTurn_42 hl (k := 2) rfl rfl (by decide) rfl ?_
        clear hl; intro ls hl
        refine lv_goto (tgt := 2) hx hb dX5_firstWithTurn_45 (by decide) ?_
        exact ih (y1 + 1) _ _ _ hF hW hS (lv_sub hl [2, 0] rfl)
      · replace hF := it_t hF hc
        refine lv_aload_n hx hb dX5_firstWithTurn_25 rfl (lv_at hl 0 rfl) ?_
        refine gn2_6 hx hb hts hi5_firstWithTurn_2 hown hK hW ht3 (nf_18 hN) dX5_firstWithTurn_26 ?_
        refine lv_if_eq (tgt := 40) hx hb dX5_firstWithTurn_29 (by decide) (fun hc => ?_) (fun hc => ?_)
        · replace hF := it_t hF hc
          refine lv_aload_n hx hb dX5_firstWithTurn_40 rfl (lv_at hl 0 rfl) ?_
          have hq1 := Option.some.inj hF
          subst hq1
          exact e_q (v := (some t3)) hx hb hr hlk hK hN hW hS (q_some ht3) dX5_firstWithTurn_41
        · replace hF := it_f hF hc
          refine lv_aload_n hx hb dX5_firstWithTurn_32 rfl (lv_at hl 1 rfl) ?_
          refine lv_aload_n hx hb dX5_firstWithTurn_33 rfl (lv_at hl 0 rfl) ?_
          replace hF := ob hF
          obtain ⟨v4, q5, hF⟩ := hF
          refine k_i (va_runV (As := [.ref (ad 2 t3)]) (rest := []) ⟨hx, hb, hml, hown, hts⟩ (c5_hasBoardingTurn l t3 ht3 q5) (cwV 1 hts gX5_firstWithTurn_X5_hasBoardingTurn rfl rfl rfl (by decide +kernel) ⟨Nat.le_of_ble_eq_true rfl, Nat.le_of_ble_eq_true rfl⟩) (k_preV hW hK hN (hW.fx 5 rfl) (EE_5 cA ad S P M 0) rfl) rfl rfl hl.1 rfl (lv_room (Nat.le_of_ble_eq_true rfl)) dX5_firstWithTurn_34 ⟨Nat.le_of_ble_eq_true rfl, Nat.le_of_ble_eq_true rfl⟩) hS ?_
          clear hW hS; intro H locs hW hS
          refine lv_if_eq (tgt := 42) hx hb dX5_firstWithTurn_37 (by decide) (fun hc => ?_) (fun hc => ?_)
          · replace hF := it_t hF hc
            refine lv_iinc (v := y1 + 1) (lv' := [(1, .int (y1 + 1)), (2, .ref (ad 2 t3)), (0, .ref (ad 5 0))]) hx hb dX5_firstWithTurn_42 hl (k := 2) rfl rfl (by decide) rfl ?_
            clear hl; intro ls hl
            refine lv_goto (tgt := 2) hx hb dX5_firstWithTurn_45 (by decide) ?_
            exact ih (y1 + 1) _ _ _ hF hW hS (lv_sub hl [2, 0] rfl)
          · replace hF := it_f hF hc
            refine lv_aload_n hx hb dX5_firstWithTurn_40 rfl (lv_at hl 0 rfl) ?_
            have hq1 := Option.some.inj hF
            subst hq1
            exact e_q (v := (some t3)) hx hb hr hlk hK hN hW hS (q_some ht3) dX5_firstWithTurn_41

set_option maxHeartbeats 4000000 in
set_option maxRecDepth 100000 in
theorem w5_firstWithTurn {p : Program} {l : Launch} {e : Env} {s : State} {m : MethodId} {args : Array Value} {below : List Frame} {meth : Method} {c : Code} (C : MC p s m args meth c cX5_firstWithTurn (some (.object "FerryTerminal$Sailing")) 3 RX5 wsX5_firstWithTurn) {D : va_G} {cA : Nat → ClassId} {z : Nat} {ad : Nat → Nat → Nat} {N : TN} (hK : va_K D vwCl (tysW cA) s) (hN : NW s) {S : TS} {P : TP} {M : TS} {v : Option Nat} (hF : f5_firstWithTurn S P = some v)
    {H : Heap} {ls : Array Slot} (hW : Wd D cA z ad N S P M H) {locs : List Loc} (hS : va_S (fun q => z ≤ q) s.heap H locs) (hl : lv_has ls 3 [(0, .ref (ad 5 0))]) : W p l e rm5_firstWithTurn s m args below meth c H locs 0 0 (MQ below (Qq D cA z 2 v (ad, N, S, P, M)) args s 0 0 (fun q => z ≤ q)) (F0 m 0 ls []) := by
  obtain ⟨hx, hb, hr, hml, hown, hts, hlk⟩ := id C
  unfold f5_firstWithTurn at hF
  refine lv_iconst (v := (0 : Int32)) hx hb dX5_firstWithTurn_0 (by decide) ?_
  refine lv_istore_n (lv' := [(1, .int (0 : Int32)), (0, .ref (ad 5 0))]) hx hb dX5_firstWithTurn_1 rfl hl (by decide) rfl ?_
  clear hl; intro ls hl
  refine w5_firstWithTurn_2 C hK hN  (hE := ?_) FU (0 : Int32) _ _ _ hF hW hS (lv_sub hl [1, 0] rfl)
  intro  H locs ls hF hW hS hl
  refine lv_null hx hb dX5_firstWithTurn_48 ?_
  have hq1 := Option.some.inj hF
  subst hq1
  exact e_q (v := none) hx hb hr hlk hK hN hW hS q_none dX5_firstWithTurn_49

set_option maxHeartbeats 4000000 in
set_option maxRecDepth 100000 in
theorem c5_firstWithTurn (l : Launch) {D : va_G} {cA : Nat → ClassId} {z : Nat} {ad : Nat → Nat → Nat} {N : TN} {S : TS} {P : TP} {M : TS} {v : Option Nat} (hF : f5_firstWithTurn S P = some v) : Met l yX5_firstWithTurn wsX5_firstWithTurn rm5_firstWithTurn (va_Pc [.ref (ad 5 0)] (Wl D cA z (ad, N, S, P, M))) (Qq D cA z 2 v (ad, N, S, P, M)) 0 0 (fun q => z ≤ q) := by
  refine Met.ofW (cc := cX5_firstWithTurn) (maxL := 3) (ret := (some (.object "FerryTerminal$Sailing"))) (by decide) rfl ?_
  intro p e s m args below meth c s₁ B hml hv
  obtain ⟨rfl, hW, hK, hN⟩ := hv
  have hl := lv_entry ([.ref (ad 5 0)]) (n := 3) (Nat.le_of_ble_eq_true rfl)
  rw [lg_entry_eq]
  generalize (lg_sl ([.ref (ad 5 0)]) ++ List.replicate (3 - (lg_sl ([.ref (ad 5 0)])).length) Slot.unset).toArray = ls at hl ⊢
  exact w5_firstWithTurn ⟨B.exec, B.bytes, B.returns, hml, findClass_of_methodNamed B.named, atoms_spec (ws := wsX5_firstWithTurn) B.pre, B.notSynchronized⟩ hK hN  hF hW va_S.rf hl

-- 5 hasOpenSailing
abbrev rm5_hasOpenSailing : Room := { frames := 0, cells := 0, slots := 0, locals := 0 }
def f5_hasOpenSailing_2 (K : Option (Int32)) (S : TS) (P : TP) (c1 : Nat) : Nat → Int32 → Option (Int32)
  | 0, _ => none
  | n + 1, y2 =>
    if (S 505 0) ≤ y2 then
    (K)
    else
    ((ix y2 60).bind fun (j1 : Nat) =>
    lt (P 900 0 j1) fun (r2 : Option Nat) =>
    r2.bind fun (t3 : Nat) =>
    lt (P 201 t3 0) fun (r4 : Option Nat) =>
    if r4 = (some c1) then
    ((ix y2 60).bind fun (j5 : Nat) =>
    lt (P 900 0 j5) fun (r6 : Option Nat) =>
    r6.bind fun (t7 : Nat) =>
    if (S 204 t7) = (1 : Int32) then
    (some (1 : Int32))
    else
    (f5_hasOpenSailing_2 K S P c1 n (y2 + 1)))
    else
    (f5_hasOpenSailing_2 K S P c1 n (y2 + 1)))

def f5_hasOpenSailing (S : TS) (P : TP) (a1 : Nat) : Option (Int32) :=
  f5_hasOpenSailing_2 (some (0 : Int32)) S P a1 FU (0 : Int32)
set_option maxRecDepth 20000 in
theorem hi5_hasOpenSailing_2 : ∀ w ∈ u_ws RX2 TX2 9, w ∈ wsX5_hasOpenSailing := by decide +kernel
set_option maxRecDepth 20000 in
theorem hi5_hasOpenSailing_5 : ∀ w ∈ u_ws RX5 TX5 12, w ∈ wsX5_hasOpenSailing := by decide +kernel
set_option maxHeartbeats 4000000 in
set_option maxRecDepth 100000 in
theorem w5_hasOpenSailing_2 {p : Program} {l : Launch} {e : Env} {s : State} {m : MethodId} {args : Array Value} {below : List Frame} {meth : Method} {c : Code} (C : MC p s m args meth c cX5_hasOpenSailing (some .boolean) 3 RX5 wsX5_hasOpenSailing) {D : va_G} {cA : Nat → ClassId} {z : Nat} {ad : Nat → Nat → Nat} {N : TN} (hK : va_K D vwCl (tysW cA) s) (hN : NW s) {M : TS} {S : TS} {P : TP} (c1 : Nat) (hc1 : c1 < N 3) {v : Int32} {K : Option (Int32)}
    (hE : ∀ (H : Heap) (locs : List Loc) (ls : Array Slot), K = some v → Wd D cA z ad N S P M H → va_S (fun q => z ≤ q) s.heap H locs → lv_has ls 3 [] → W p l e rm5_hasOpenSailing s m args below meth c H locs 0 0 (MQ below (Qi D cA z v (ad, N, S, P, M)) args s 0 0 (fun q => z ≤ q)) (F0 m 44 ls [])) :
    ∀ (n : Nat) (y2 : Int32) (H : Heap) (locs : List Loc) (ls : Array Slot), f5_hasOpenSailing_2 K S P c1 n y2 = some v → Wd D cA z ad N S P M H → va_S (fun q => z ≤ q) s.heap H locs → lv_has ls 3 [(0, .ref (ad 5 0)), (1, .ref (ad 3 c1)), (2, .int y2)] → W p l e rm5_hasOpenSailing s m args below meth c H locs 0 0 (MQ below (Qi D cA z v (ad, N, S, P, M)) args s 0 0 (fun q => z ≤ q)) (F0 m 2 ls []) := by
  obtain ⟨hx, hb, hr, hml, hown, hts, hlk⟩ := id C
  intro n
  induction n with
  | zero => intro y2 H locs ls hF; cases hF
  | succ n ih =>
    intro y2 H locs ls hF hW hS hl
    rw [f5_hasOpenSailing_2] at hF
    refine lv_iload_n hx hb dX5_hasOpenSailing_2 rfl (lv_at hl 2 rfl) ?_
    refine lv_aload_n hx hb dX5_hasOpenSailing_3 rfl (lv_at hl 0 rfl) ?_
    refine g5_5 hx hb hts hi5_hasOpenSailing_5 hown hK hW (hts (.fieldLink RX5 65 RX5 "sailingCount" "I") (by decide +kernel)) dX5_hasOpenSailing_4 ?_
    refine lv_icmp_ge (tgt := 44) hx hb dX5_hasOpenSailing_7 (by decide) (fun hc => ?_) (fun hc => ?_)
    · replace hF := it_t hF hc
      exact hE _ _ _ hF hW hS (lv_sub hl [] rfl)
    · replace hF := it_f hF hc
      refine lv_aload_n hx hb dX5_hasOpenSailing_10 rfl (lv_at hl 0 rfl) ?_
      refine g5_4 hx hb hts hi5_hasOpenSailing_5 hown hK hW (hts (.fieldLink RX5 23 RX5 "sailings" "[LFerryTerminal$Sailing;") (by decide +kernel)) dX5_hasOpenSailing_11 ?_
      refine lv_iload_n hx hb dX5_hasOpenSailing_14 rfl (lv_at hl 2 rfl) ?_
      replace hF := ob hF
      obtain ⟨j1, ej1, hF⟩ := hF
      replace hF := lt_ex hF
      obtain ⟨r2, er2, hF⟩ := hF
      have hr2 : ∀ y, r2 = some y → y < N 2 := hW.v er2
      refine l9 hx hb hK hW ej1 er2 dX5_hasOpenSailing_15 ?_
      replace hF := ob hF
      obtain ⟨t3, et3, hF⟩ := hF
      subst et3
      have ht3 := hr2 t3 rfl
      replace hF := lt_ex hF
      obtain ⟨r4, er4, hF⟩ := hF
      have hr4 : ∀ y, r4 = some y → y < N 3 := hW.v er4
      refine gn2_1 hx hb hts hi5_hasOpenSailing_2 hown hK hW ht3 er4 (nf_12 hN) dX5_hasOpenSailing_16 ?_
      refine lv_aload_n hx hb dX5_hasOpenSailing_19 rfl (lv_at hl 1 rfl) ?_
      refine q_acmp_ne hx hb hW 3 r4 (some c1) hr4 (q_some hc1) (tgt := 38) dX5_hasOpenSailing_20 (by decide) (fun hc => ?_) (fun hc => ?_)
      · replace hF := it_f hF hc
        refine lv_iinc (v := y2 + 1) (lv' := [(2, .int (y2 + 1)), (0, .ref (ad 5 0)), (1, .ref (ad 3 c1))]) hx hb dX5_hasOpenSailing_38 hl (k := 2) rfl rfl (by decide) rfl ?_
        clear hl; intro ls hl
        refine lv_goto (tgt := 2) hx hb dX5_hasOpenSailing_41 (by decide) ?_
        exact ih (y2 + 1) _ _ _ hF hW hS (lv_sub hl [1, 2, 0] rfl)
      · replace hF := it_t hF hc
        refine lv_aload_n hx hb dX5_hasOpenSailing_23 rfl (lv_at hl 0 rfl) ?_
        refine g5_4 hx hb hts hi5_hasOpenSailing_5 hown hK hW (hts (.fieldLink RX5 23 RX5 "sailings" "[LFerryTerminal$Sailing;") (by decide +kernel)) dX5_hasOpenSailing_24 ?_
        refine lv_iload_n hx hb dX5_hasOpenSailing_27 rfl (lv_at hl 2 rfl) ?_
        replace hF := ob hF
        obtain ⟨j5, ej5, hF⟩ := hF
        replace hF := lt_ex hF
        obtain ⟨r6, er6, hF⟩ := hF
        have hr6 : ∀ y, r6 = some y → y < N 2 := hW.v er6
        refine l9 hx hb hK hW ej5 er6 dX5_hasOpenSailing_28 ?_
        replace hF := ob hF
        obtain ⟨t7, et7, hF⟩ := hF
        subst et7
        have ht7 := hr6 t7 rfl
        refine gn2_4 hx hb hts hi5_hasOpenSailing_2 hown hK hW ht7 (nf_16 hN) dX5_hasOpenSailing_29 ?_
        refine lv_iconst (v := (1 : Int32)) hx hb dX5_hasOpenSailing_32 (by decide) ?_
        refine lv_icmp_ne (tgt := 38) hx hb dX5_hasOpenSailing_33 (by decide) (fun hc => ?_) (fun hc => ?_)
        · replace hF := it_f hF hc
          refine lv_iinc (v := y2 + 1) (lv' := [(2, .int (y2 + 1)), (0, .ref (ad 5 0)), (1, .ref (ad 3 c1))]) hx hb dX5_hasOpenSailing_38 hl (k := 2) rfl rfl (by decide) rfl ?_
          clear hl; intro ls hl
          refine lv_goto (tgt := 2) hx hb dX5_hasOpenSailing_41 (by decide) ?_
          exact ih (y2 + 1) _ _ _ hF hW hS (lv_sub hl [1, 2, 0] rfl)
        · replace hF := it_t hF hc
          refine lv_iconst (v := (1 : Int32)) hx hb dX5_hasOpenSailing_36 (by decide) ?_
          have hq1 := Option.some.inj hF
          subst hq1
          exact e_z hx hb hr hlk hK hN hW hS (by decide) dX5_hasOpenSailing_37

set_option maxHeartbeats 4000000 in
set_option maxRecDepth 100000 in
theorem w5_hasOpenSailing {p : Program} {l : Launch} {e : Env} {s : State} {m : MethodId} {args : Array Value} {below : List Frame} {meth : Method} {c : Code} (C : MC p s m args meth c cX5_hasOpenSailing (some .boolean) 3 RX5 wsX5_hasOpenSailing) {D : va_G} {cA : Nat → ClassId} {z : Nat} {ad : Nat → Nat → Nat} {N : TN} (hK : va_K D vwCl (tysW cA) s) (hN : NW s) {S : TS} {P : TP} {M : TS} (a1 : Nat) (ha1 : a1 < N 3) {v : Int32} (hF : f5_hasOpenSailing S P a1 = some v)
    {H : Heap} {ls : Array Slot} (hW : Wd D cA z ad N S P M H) {locs : List Loc} (hS : va_S (fun q => z ≤ q) s.heap H locs) (hl : lv_has ls 3 [(0, .ref (ad 5 0)), (1, .ref (ad 3 a1))]) : W p l e rm5_hasOpenSailing s m args below meth c H locs 0 0 (MQ below (Qi D cA z v (ad, N, S, P, M)) args s 0 0 (fun q => z ≤ q)) (F0 m 0 ls []) := by
  obtain ⟨hx, hb, hr, hml, hown, hts, hlk⟩ := id C
  unfold f5_hasOpenSailing at hF
  refine lv_iconst (v := (0 : Int32)) hx hb dX5_hasOpenSailing_0 (by decide) ?_
  refine lv_istore_n (lv' := [(2, .int (0 : Int32)), (0, .ref (ad 5 0)), (1, .ref (ad 3 a1))]) hx hb dX5_hasOpenSailing_1 rfl hl (by decide) rfl ?_
  clear hl; intro ls hl
  refine w5_hasOpenSailing_2 C hK hN a1 ha1 (hE := ?_) FU (0 : Int32) _ _ _ hF hW hS (lv_sub hl [1, 2, 0] rfl)
  intro  H locs ls hF hW hS hl
  refine lv_iconst (v := (0 : Int32)) hx hb dX5_hasOpenSailing_44 (by decide) ?_
  have hq1 := Option.some.inj hF
  subst hq1
  exact e_z hx hb hr hlk hK hN hW hS (by decide) dX5_hasOpenSailing_45

set_option maxHeartbeats 4000000 in
set_option maxRecDepth 100000 in
theorem c5_hasOpenSailing (l : Launch) {D : va_G} {cA : Nat → ClassId} {z : Nat} {ad : Nat → Nat → Nat} {N : TN} {S : TS} {P : TP} {M : TS} (a1 : Nat) (ha1 : a1 < N 3) {v : Int32} (hF : f5_hasOpenSailing S P a1 = some v) : Met l yX5_hasOpenSailing wsX5_hasOpenSailing rm5_hasOpenSailing (va_Pc [.ref (ad 5 0), .ref (ad 3 a1)] (Wl D cA z (ad, N, S, P, M))) (Qi D cA z v (ad, N, S, P, M)) 0 0 (fun q => z ≤ q) := by
  refine Met.ofW (cc := cX5_hasOpenSailing) (maxL := 3) (ret := (some .boolean)) (by decide) rfl ?_
  intro p e s m args below meth c s₁ B hml hv
  obtain ⟨rfl, hW, hK, hN⟩ := hv
  have hl := lv_entry ([.ref (ad 5 0), .ref (ad 3 a1)]) (n := 3) (Nat.le_of_ble_eq_true rfl)
  rw [lg_entry_eq]
  generalize (lg_sl ([.ref (ad 5 0), .ref (ad 3 a1)]) ++ List.replicate (3 - (lg_sl ([.ref (ad 5 0), .ref (ad 3 a1)])).length) Slot.unset).toArray = ls at hl ⊢
  exact w5_hasOpenSailing ⟨B.exec, B.bytes, B.returns, hml, findClass_of_methodNamed B.named, atoms_spec (ws := wsX5_hasOpenSailing) B.pre, B.notSynchronized⟩ hK hN a1 ha1 hF hW va_S.rf hl

-- 5 kept
abbrev rm5_kept : Room := { frames := 0, cells := 0, slots := 0, locals := 0 }
def f5_kept_4 (K : Int64 → Option (Int64)) (S : TS) (P : TP) : Nat → Int64 → Int32 → Option (Int64)
  | 0, _, _ => none
  | n + 1, y1, y3 =>
    if (S 507 0) ≤ y3 then
    (K y1)
    else
    ((ix y3 400).bind fun (j1 : Nat) =>
    lt (P 1000 0 j1) fun (r2 : Option Nat) =>
    r2.bind fun (t3 : Nat) =>
    (ix y3 400).bind fun (j4 : Nat) =>
    lt (P 1000 0 j4) fun (r5 : Option Nat) =>
    r5.bind fun (t6 : Nat) =>
    f5_kept_4 K S P n (y1 + (((S 405 t3) - (S 412 t6)).toInt64)) (y3 + 1))

def f5_kept (S : TS) (P : TP) : Option (Int64) :=
  f5_kept_4 (fun (w7 : Int64) =>
  some w7) S P FU (0 : Int64) (0 : Int32)
set_option maxRecDepth 20000 in
theorem hi5_kept_4 : ∀ w ∈ u_ws RX4 TX4 16, w ∈ wsX5_kept := by decide +kernel
set_option maxRecDepth 20000 in
theorem hi5_kept_5 : ∀ w ∈ u_ws RX5 TX5 12, w ∈ wsX5_kept := by decide +kernel
set_option maxHeartbeats 4000000 in
set_option maxRecDepth 100000 in
theorem w5_kept_4 {p : Program} {l : Launch} {e : Env} {s : State} {m : MethodId} {args : Array Value} {below : List Frame} {meth : Method} {c : Code} (C : MC p s m args meth c cX5_kept (some .long) 4 RX5 wsX5_kept) {D : va_G} {cA : Nat → ClassId} {z : Nat} {ad : Nat → Nat → Nat} {N : TN} (hK : va_K D vwCl (tysW cA) s) (hN : NW s) {M : TS} {S : TS} {P : TP} {v : Int64} {K : Int64 → Option (Int64)}
    (hE : ∀ (e1 : Int64) (H : Heap) (locs : List Loc) (ls : Array Slot), K e1 = some v → Wd D cA z ad N S P M H → va_S (fun q => z ≤ q) s.heap H locs → lv_has ls 4 [(1, .long e1)] → W p l e rm5_kept s m args below meth c H locs 0 0 (MQ below (Ql D cA z v (ad, N, S, P, M)) args s 0 0 (fun q => z ≤ q)) (F0 m 41 ls [])) :
    ∀ (n : Nat) (y1 : Int64) (y3 : Int32) (H : Heap) (locs : List Loc) (ls : Array Slot), f5_kept_4 K S P n y1 y3 = some v → Wd D cA z ad N S P M H → va_S (fun q => z ≤ q) s.heap H locs → lv_has ls 4 [(0, .ref (ad 5 0)), (1, .long y1), (3, .int y3)] → W p l e rm5_kept s m args below meth c H locs 0 0 (MQ below (Ql D cA z v (ad, N, S, P, M)) args s 0 0 (fun q => z ≤ q)) (F0 m 4 ls []) := by
  obtain ⟨hx, hb, hr, hml, hown, hts, hlk⟩ := id C
  intro n
  induction n with
  | zero => intro y1 y3 H locs ls hF; cases hF
  | succ n ih =>
    intro y1 y3 H locs ls hF hW hS hl
    rw [f5_kept_4] at hF
    refine lv_iload_n hx hb dX5_kept_4 rfl (lv_at hl 2 rfl) ?_
    refine lv_aload_n hx hb dX5_kept_5 rfl (lv_at hl 0 rfl) ?_
    refine g5_7 hx hb hts hi5_kept_5 hown hK hW (hts (.fieldLink RX5 100 RX5 "ticketCount" "I") (by decide +kernel)) dX5_kept_6 ?_
    refine lv_icmp_ge (tgt := 41) hx hb dX5_kept_9 (by decide) (fun hc => ?_) (fun hc => ?_)
    · replace hF := it_t hF hc
      exact hE y1 _ _ _ hF hW hS (lv_sub hl [1] rfl)
    · replace hF := it_f hF hc
      refine lv_lload_n hx hb dX5_kept_12 rfl (lv_at hl 1 rfl) ?_
      refine lv_aload_n hx hb dX5_kept_13 rfl (lv_at hl 0 rfl) ?_
      refine g5_6 hx hb hts hi5_kept_5 hown hK hW (hts (.fieldLink RX5 29 RX5 "tickets" "[LFerryTerminal$Ticket;") (by decide +kernel)) dX5_kept_14 ?_
      refine lv_iload_n hx hb dX5_kept_17 rfl (lv_at hl 2 rfl) ?_
      replace hF := ob hF
      obtain ⟨j1, ej1, hF⟩ := hF
      replace hF := lt_ex hF
      obtain ⟨r2, er2, hF⟩ := hF
      have hr2 : ∀ y, r2 = some y → y < N 4 := hW.v er2
      refine l10 hx hb hK hW ej1 er2 dX5_kept_18 ?_
      replace hF := ob hF
      obtain ⟨t3, et3, hF⟩ := hF
      subst et3
      have ht3 := hr2 t3 rfl
      refine gn4_5 hx hb hts hi5_kept_4 hown hK hW ht3 (nf_27 hN) dX5_kept_19 ?_
      refine lv_aload_n hx hb dX5_kept_22 rfl (lv_at hl 0 rfl) ?_
      refine g5_6 hx hb hts hi5_kept_5 hown hK hW (hts (.fieldLink RX5 29 RX5 "tickets" "[LFerryTerminal$Ticket;") (by decide +kernel)) dX5_kept_23 ?_
      refine lv_iload_n hx hb dX5_kept_26 rfl (lv_at hl 2 rfl) ?_
      replace hF := ob hF
      obtain ⟨j4, ej4, hF⟩ := hF
      replace hF := lt_ex hF
      obtain ⟨r5, er5, hF⟩ := hF
      have hr5 : ∀ y, r5 = some y → y < N 4 := hW.v er5
      refine l10 hx hb hK hW ej4 er5 dX5_kept_27 ?_
      replace hF := ob hF
      obtain ⟨t6, et6, hF⟩ := hF
      subst et6
      have ht6 := hr5 t6 rfl
      refine gn4_12 hx hb hts hi5_kept_4 hown hK hW ht6 (nf_35 hN) dX5_kept_28 ?_
      refine lv_isub hx hb dX5_kept_31 ?_
      refine lv_i2l hx hb dX5_kept_32 rfl ?_
      refine lv_ladd hx hb dX5_kept_33 ?_
      refine lv_lstore_n (lv' := [(1, .long (y1 + (((S 405 t3) - (S 412 t6)).toInt64))), (0, .ref (ad 5 0)), (3, .int y3)]) hx hb dX5_kept_34 rfl hl (by decide) rfl ?_
      clear hl; intro ls hl
      refine lv_iinc (v := y3 + 1) (lv' := [(3, .int (y3 + 1)), (1, .long (y1 + (((S 405 t3) - (S 412 t6)).toInt64))), (0, .ref (ad 5 0))]) hx hb dX5_kept_35 hl (k := 2) rfl rfl (by decide) rfl ?_
      clear hl; intro ls hl
      refine lv_goto (tgt := 4) hx hb dX5_kept_38 (by decide) ?_
      exact ih (y1 + (((S 405 t3) - (S 412 t6)).toInt64)) (y3 + 1) _ _ _ hF hW hS (lv_sub hl [2, 1, 0] rfl)

set_option maxHeartbeats 4000000 in
set_option maxRecDepth 100000 in
theorem w5_kept {p : Program} {l : Launch} {e : Env} {s : State} {m : MethodId} {args : Array Value} {below : List Frame} {meth : Method} {c : Code} (C : MC p s m args meth c cX5_kept (some .long) 4 RX5 wsX5_kept) {D : va_G} {cA : Nat → ClassId} {z : Nat} {ad : Nat → Nat → Nat} {N : TN} (hK : va_K D vwCl (tysW cA) s) (hN : NW s) {S : TS} {P : TP} {M : TS} {v : Int64} (hF : f5_kept S P = some v)
    {H : Heap} {ls : Array Slot} (hW : Wd D cA z ad N S P M H) {locs : List Loc} (hS : va_S (fun q => z ≤ q) s.heap H locs) (hl : lv_has ls 4 [(0, .ref (ad 5 0))]) : W p l e rm5_kept s m args below meth c H locs 0 0 (MQ below (Ql D cA z v (ad, N, S, P, M)) args s 0 0 (fun q => z ≤ q)) (F0 m 0 ls []) := by
  obtain ⟨hx, hb, hr, hml, hown, hts, hlk⟩ := id C
  unfold f5_kept at hF
  refine lv_lconst (v := (0 : Int64)) hx hb dX5_kept_0 (by decide) ?_
  refine lv_lstore_n (lv' := [(1, .long (0 : Int64)), (0, .ref (ad 5 0))]) hx hb dX5_kept_1 rfl hl (by decide) rfl ?_
  clear hl; intro ls hl
  refine lv_iconst (v := (0 : Int32)) hx hb dX5_kept_2 (by decide) ?_
  refine lv_istore_n (lv' := [(3, .int (0 : Int32)), (1, .long (0 : Int64)), (0, .ref (ad 5 0))]) hx hb dX5_kept_3 rfl hl (by decide) rfl ?_
  clear hl; intro ls hl
  refine w5_kept_4 C hK hN  (hE := ?_) FU (0 : Int64) (0 : Int32) _ _ _ hF hW hS (lv_sub hl [2, 1, 0] rfl)
  intro w7 H locs ls hF hW hS hl
  refine lv_lload_n hx hb dX5_kept_41 rfl (lv_at hl 0 rfl) ?_
  have hq1 := Option.some.inj hF
  subst hq1
  exact e_l hx hb hr hlk hK hN hW hS dX5_kept_42

set_option maxHeartbeats 4000000 in
set_option maxRecDepth 100000 in
theorem c5_kept (l : Launch) {D : va_G} {cA : Nat → ClassId} {z : Nat} {ad : Nat → Nat → Nat} {N : TN} {S : TS} {P : TP} {M : TS} {v : Int64} (hF : f5_kept S P = some v) : Met l yX5_kept wsX5_kept rm5_kept (va_Pc [.ref (ad 5 0)] (Wl D cA z (ad, N, S, P, M))) (Ql D cA z v (ad, N, S, P, M)) 0 0 (fun q => z ≤ q) := by
  refine Met.ofW (cc := cX5_kept) (maxL := 4) (ret := (some .long)) (by decide) rfl ?_
  intro p e s m args below meth c s₁ B hml hv
  obtain ⟨rfl, hW, hK, hN⟩ := hv
  have hl := lv_entry ([.ref (ad 5 0)]) (n := 4) (Nat.le_of_ble_eq_true rfl)
  rw [lg_entry_eq]
  generalize (lg_sl ([.ref (ad 5 0)]) ++ List.replicate (4 - (lg_sl ([.ref (ad 5 0)])).length) Slot.unset).toArray = ls at hl ⊢
  exact w5_kept ⟨B.exec, B.bytes, B.returns, hml, findClass_of_methodNamed B.named, atoms_spec (ws := wsX5_kept) B.pre, B.notSynchronized⟩ hK hN  hF hW va_S.rf hl

-- 5 lane
abbrev rm5_lane : Room := { frames := 4, cells := 0, slots := 0, locals := 90 }
def f5_lane (S : TS) (P : TP) (a1 : Int32) (a2 : Int32) (a3 : Int32) (a4 : Int32) : Option (Int32) :=
  (f5_shipNumbered S P a1).bind fun (r1 : Option Nat) =>
  r1.elim (some (-1 : Int32))
  (fun (t3 : Nat) => (f3_hasLane S P t3 a2 a3).bind fun (v4 : Int32) =>
  if v4 = 0 then
  (some (-1 : Int32))
  else
  (if a4 = 0 then
  ((f3_freePlaces S P t3 a2 a3).bind fun (v6 : Int32) =>
  some v6)
  else
  (if a4 = 1 then
  ((f3_longestGap S P t3 a2 a3).bind fun (v8 : Int32) =>
  some v8)
  else
  (if a4 = 2 then
  ((f3_mayStand S P t3 a2 a3 (a4 - (2 : Int32))).bind fun (v10 : Int32) =>
  if v10 = 0 then
  (some (0 : Int32))
  else
  (some (1 : Int32)))
  else
  (if a4 = 3 then
  ((f3_mayStand S P t3 a2 a3 (a4 - (2 : Int32))).bind fun (v12 : Int32) =>
  if v12 = 0 then
  (some (0 : Int32))
  else
  (some (1 : Int32)))
  else
  (if a4 = 4 then
  ((f3_mayStand S P t3 a2 a3 (a4 - (2 : Int32))).bind fun (v14 : Int32) =>
  if v14 = 0 then
  (some (0 : Int32))
  else
  (some (1 : Int32)))
  else
  (some (-1 : Int32))))))))
set_option maxHeartbeats 4000000 in
set_option maxRecDepth 100000 in
theorem w5_lane {p : Program} {l : Launch} {e : Env} {s : State} {m : MethodId} {args : Array Value} {below : List Frame} {meth : Method} {c : Code} (C : MC p s m args meth c cX5_lane (some .int) 6 RX5 wsX5_lane) {D : va_G} {cA : Nat → ClassId} {z : Nat} {ad : Nat → Nat → Nat} {N : TN} (hK : va_K D vwCl (tysW cA) s) (hN : NW s) {S : TS} {P : TP} {M : TS} (a1 : Int32) (a2 : Int32) (a3 : Int32) (a4 : Int32) {v : Int32} (hF : f5_lane S P a1 a2 a3 a4 = some v)
    {H : Heap} {ls : Array Slot} (hW : Wd D cA z ad N S P M H) {locs : List Loc} (hS : va_S (fun q => z ≤ q) s.heap H locs) (hl : lv_has ls 6 [(0, .ref (ad 5 0)), (1, .int a1), (2, .int a2), (3, .int a3), (4, .int a4)]) : W p l e rm5_lane s m args below meth c H locs 0 0 (MQ below (Qi D cA z v (ad, N, S, P, M)) args s 0 0 (fun q => z ≤ q)) (F0 m 0 ls []) := by
  obtain ⟨hx, hb, hr, hml, hown, hts, hlk⟩ := id C
  unfold f5_lane at hF
  refine lv_aload_n hx hb dX5_lane_0 rfl (lv_at hl 0 rfl) ?_
  refine lv_iload_n hx hb dX5_lane_1 rfl (lv_at hl 1 rfl) ?_
  replace hF := ob hF
  obtain ⟨r1, q2, hF⟩ := hF
  refine k_q (va_runV (As := [.int a1]) (rest := []) ⟨hx, hb, hml, hown, hts⟩ (c5_shipNumbered l a1 q2) (cwV 1 hts gX5_lane_X5_shipNumbered rfl rfl rfl (by decide +kernel) ⟨Nat.le_of_ble_eq_true rfl, Nat.le_of_ble_eq_true rfl⟩) (k_preV hW hK hN (hW.fx 5 rfl) (EE_5 cA ad S P M 0) rfl) rfl rfl hl.1 rfl (lv_room (Nat.le_of_ble_eq_true rfl)) dX5_lane_2 ⟨Nat.le_of_ble_eq_true rfl, Nat.le_of_ble_eq_true rfl⟩) hS (fun H locs hW hS hr1 => ?_)
  refine q_astore (lv' := [(5, va_rf (r1.map (ad 3))), (0, .ref (ad 5 0)), (1, .int a1), (2, .int a2), (3, .int a3), (4, .int a4)]) hx hb dX5_lane_5 hl (by decide) rfl ?_
  clear hl; intro ls hl
  refine q_aload hx hb dX5_lane_7 (lv_at hl 0 rfl) ?_
  refine q_ifnull (tgt := 22) hx hb dX5_lane_9 (by decide) (fun hc => ?_) (fun t3 hc => ?_)
  · subst hc
    replace hF := el_n hF
    replace hl : lv_has ls 6 [(5, .null), (0, .ref (ad 5 0)), (1, .int a1), (2, .int a2), (3, .int a3), (4, .int a4)] := hl
    refine lv_iconst (v := (-1 : Int32)) hx hb dX5_lane_22 (by decide) ?_
    have hq1 := Option.some.inj hF
    subst hq1
    exact e_i hx hb hr hlk hK hN hW hS dX5_lane_23
  · subst hc
    replace hF := el_s hF
    have ht3 := hr1 t3 rfl
    replace hl : lv_has ls 6 [(5, .ref (ad 3 t3)), (0, .ref (ad 5 0)), (1, .int a1), (2, .int a2), (3, .int a3), (4, .int a4)] := hl
    refine lv_aload hx hb dX5_lane_12 (lv_at hl 0 rfl) ?_
    refine lv_iload_n hx hb dX5_lane_14 rfl (lv_at hl 3 rfl) ?_
    refine lv_iload_n hx hb dX5_lane_15 rfl (lv_at hl 4 rfl) ?_
    replace hF := ob hF
    obtain ⟨v4, q5, hF⟩ := hF
    refine k_i (va_runVN (C := RX3) (As := [.int a2, .int a3]) (rest := []) ⟨hx, hb, hml, hown, hts⟩ (c3_hasLane l t3 a2 a3 ht3 q5) ⟨va_cnB 2 hts gX5_lane_X3_hasLane_n281 rfl rfl rfl (nm_11 hN) (hts (.initialized RX3) (by decide +kernel)) (by decide +kernel) ⟨Nat.le_of_ble_eq_true rfl, Nat.le_of_ble_eq_true rfl⟩, hts (.instanceMethod yX3_hasLane) (by decide +kernel), hts (.selects RX3 yX3_hasLane yX3_hasLane) (by decide +kernel)⟩ (k_preV hW hK hN ht3 (EE_3 cA ad S P M t3) rfl) rfl rfl hl.1 rfl (lv_room (Nat.le_of_ble_eq_true rfl)) dX5_lane_16 ⟨Nat.le_of_ble_eq_true rfl, Nat.le_of_ble_eq_true rfl⟩) hS ?_
    clear hW hS; intro H locs hW hS
    refine lv_if_ne (tgt := 24) hx hb dX5_lane_19 (by decide) (fun hc => ?_) (fun hc => ?_)
    · replace hF := it_f hF hc
      refine lv_iload hx hb dX5_lane_24 (lv_at hl 5 rfl) ?_
      by_cases hn0 : a4 = 0
      · replace hF := it_t hF hn0
        refine lv_tableIn (off := 34) (tgt := 60) hx hb dX5_lane_26 (by rw [hn0]; decide) (by rw [hn0]; decide) (by rw [hn0]; rfl) (by decide) ?_
        refine lv_aload hx hb dX5_lane_60 (lv_at hl 0 rfl) ?_
        refine lv_iload_n hx hb dX5_lane_62 rfl (lv_at hl 3 rfl) ?_
        refine lv_iload_n hx hb dX5_lane_63 rfl (lv_at hl 4 rfl) ?_
        replace hF := ob hF
        obtain ⟨v6, q7, hF⟩ := hF
        refine k_i (va_runVN (C := RX3) (As := [.int a2, .int a3]) (rest := []) ⟨hx, hb, hml, hown, hts⟩ (c3_freePlaces l t3 a2 a3 ht3 q7) ⟨va_cnB 2 hts gX5_lane_X3_freePlaces_n285 rfl rfl rfl (nm_12 hN) (hts (.initialized RX3) (by decide +kernel)) (by decide +kernel) ⟨Nat.le_of_ble_eq_true rfl, Nat.le_of_ble_eq_true rfl⟩, hts (.instanceMethod yX3_freePlaces) (by decide +kernel), hts (.selects RX3 yX3_freePlaces yX3_freePlaces) (by decide +kernel)⟩ (k_preV hW hK hN ht3 (EE_3 cA ad S P M t3) rfl) rfl rfl hl.1 rfl (lv_room (Nat.le_of_ble_eq_true rfl)) dX5_lane_64 ⟨Nat.le_of_ble_eq_true rfl, Nat.le_of_ble_eq_true rfl⟩) hS ?_
        clear hW hS; intro H locs hW hS
        have hq1 := Option.some.inj hF
        subst hq1
        exact e_i hx hb hr hlk hK hN hW hS dX5_lane_67
      · replace hF := it_f hF hn0
        by_cases hn1 : a4 = 1
        · replace hF := it_t hF hn1
          refine lv_tableIn (off := 42) (tgt := 68) hx hb dX5_lane_26 (by rw [hn1]; decide) (by rw [hn1]; decide) (by rw [hn1]; rfl) (by decide) ?_
          refine lv_aload hx hb dX5_lane_68 (lv_at hl 0 rfl) ?_
          refine lv_iload_n hx hb dX5_lane_70 rfl (lv_at hl 3 rfl) ?_
          refine lv_iload_n hx hb dX5_lane_71 rfl (lv_at hl 4 rfl) ?_
          replace hF := ob hF
          obtain ⟨v8, q9, hF⟩ := hF
          refine k_i (va_runVN (C := RX3) (As := [.int a2, .int a3]) (rest := []) ⟨hx, hb, hml, hown, hts⟩ (c3_longestGap l t3 a2 a3 ht3 q9) ⟨va_cnB 2 hts gX5_lane_X3_longestGap_n289 rfl rfl rfl (nm_13 hN) (hts (.initialized RX3) (by decide +kernel)) (by decide +kernel) ⟨Nat.le_of_ble_eq_true rfl, Nat.le_of_ble_eq_true rfl⟩, hts (.instanceMethod yX3_longestGap) (by decide +kernel), hts (.selects RX3 yX3_longestGap yX3_longestGap) (by decide +kernel)⟩ (k_preV hW hK hN ht3 (EE_3 cA ad S P M t3) rfl) rfl rfl hl.1 rfl (lv_room (Nat.le_of_ble_eq_true rfl)) dX5_lane_72 ⟨Nat.le_of_ble_eq_true rfl, Nat.le_of_ble_eq_true rfl⟩) hS ?_
          clear hW hS; intro H locs hW hS
          have hq1 := Option.some.inj hF
          subst hq1
          exact e_i hx hb hr hlk hK hN hW hS dX5_lane_75
        · replace hF := it_f hF hn1
          by_cases hn2 : a4 = 2
          · replace hF := it_t hF hn2
            refine lv_tableIn (off := 50) (tgt := 76) hx hb dX5_lane_26 (by rw [hn2]; decide) (by rw [hn2]; decide) (by rw [hn2]; rfl) (by decide) ?_
            refine lv_aload hx hb dX5_lane_76 (lv_at hl 0 rfl) ?_
            refine lv_iload_n hx hb dX5_lane_78 rfl (lv_at hl 3 rfl) ?_
            refine lv_iload_n hx hb dX5_lane_79 rfl (lv_at hl 4 rfl) ?_
            refine lv_iload hx hb dX5_lane_80 (lv_at hl 5 rfl) ?_
            refine lv_iconst (v := (2 : Int32)) hx hb dX5_lane_82 (by decide) ?_
            refine lv_isub hx hb dX5_lane_83 ?_
            replace hF := ob hF
            obtain ⟨v10, q11, hF⟩ := hF
            refine k_i (va_runVN (C := RX3) (As := [.int a2, .int a3, .int (a4 - (2 : Int32))]) (rest := []) ⟨hx, hb, hml, hown, hts⟩ (c3_mayStand l t3 a2 a3 (a4 - (2 : Int32)) ht3 q11) ⟨va_cnB 3 hts gX5_lane_X3_mayStand_n292 rfl rfl rfl (nm_14 hN) (hts (.initialized RX3) (by decide +kernel)) (by decide +kernel) ⟨Nat.le_of_ble_eq_true rfl, Nat.le_of_ble_eq_true rfl⟩, hts (.instanceMethod yX3_mayStand) (by decide +kernel), hts (.selects RX3 yX3_mayStand yX3_mayStand) (by decide +kernel)⟩ (k_preV hW hK hN ht3 (EE_3 cA ad S P M t3) rfl) rfl rfl hl.1 rfl (lv_room (Nat.le_of_ble_eq_true rfl)) dX5_lane_84 ⟨Nat.le_of_ble_eq_true rfl, Nat.le_of_ble_eq_true rfl⟩) hS ?_
            clear hW hS; intro H locs hW hS
            refine lv_if_eq (tgt := 94) hx hb dX5_lane_87 (by decide) (fun hc => ?_) (fun hc => ?_)
            · replace hF := it_t hF hc
              refine lv_iconst (v := (0 : Int32)) hx hb dX5_lane_94 (by decide) ?_
              have hq1 := Option.some.inj hF
              subst hq1
              exact e_i hx hb hr hlk hK hN hW hS dX5_lane_95
            · replace hF := it_f hF hc
              refine lv_iconst (v := (1 : Int32)) hx hb dX5_lane_90 (by decide) ?_
              refine lv_goto (tgt := 95) hx hb dX5_lane_91 (by decide) ?_
              have hq1 := Option.some.inj hF
              subst hq1
              exact e_i hx hb hr hlk hK hN hW hS dX5_lane_95
          · replace hF := it_f hF hn2
            by_cases hn3 : a4 = 3
            · replace hF := it_t hF hn3
              refine lv_tableIn (off := 50) (tgt := 76) hx hb dX5_lane_26 (by rw [hn3]; decide) (by rw [hn3]; decide) (by rw [hn3]; rfl) (by decide) ?_
              refine lv_aload hx hb dX5_lane_76 (lv_at hl 0 rfl) ?_
              refine lv_iload_n hx hb dX5_lane_78 rfl (lv_at hl 3 rfl) ?_
              refine lv_iload_n hx hb dX5_lane_79 rfl (lv_at hl 4 rfl) ?_
              refine lv_iload hx hb dX5_lane_80 (lv_at hl 5 rfl) ?_
              refine lv_iconst (v := (2 : Int32)) hx hb dX5_lane_82 (by decide) ?_
              refine lv_isub hx hb dX5_lane_83 ?_
              replace hF := ob hF
              obtain ⟨v12, q13, hF⟩ := hF
              refine k_i (va_runVN (C := RX3) (As := [.int a2, .int a3, .int (a4 - (2 : Int32))]) (rest := []) ⟨hx, hb, hml, hown, hts⟩ (c3_mayStand l t3 a2 a3 (a4 - (2 : Int32)) ht3 q13) ⟨va_cnB 3 hts gX5_lane_X3_mayStand_n292 rfl rfl rfl (nm_14 hN) (hts (.initialized RX3) (by decide +kernel)) (by decide +kernel) ⟨Nat.le_of_ble_eq_true rfl, Nat.le_of_ble_eq_true rfl⟩, hts (.instanceMethod yX3_mayStand) (by decide +kernel), hts (.selects RX3 yX3_mayStand yX3_mayStand) (by decide +kernel)⟩ (k_preV hW hK hN ht3 (EE_3 cA ad S P M t3) rfl) rfl rfl hl.1 rfl (lv_room (Nat.le_of_ble_eq_true rfl)) dX5_lane_84 ⟨Nat.le_of_ble_eq_true rfl, Nat.le_of_ble_eq_true rfl⟩) hS ?_
              clear hW hS; intro H locs hW hS
              refine lv_if_eq (tgt := 94) hx hb dX5_lane_87 (by decide) (fun hc => ?_) (fun hc => ?_)
              · replace hF := it_t hF hc
                refine lv_iconst (v := (0 : Int32)) hx hb dX5_lane_94 (by decide) ?_
                have hq1 := Option.some.inj hF
                subst hq1
                exact e_i hx hb hr hlk hK hN hW hS dX5_lane_95
              · replace hF := it_f hF hc
                refine lv_iconst (v := (1 : Int32)) hx hb dX5_lane_90 (by decide) ?_
                refine lv_goto (tgt := 95) hx hb dX5_lane_91 (by decide) ?_
                have hq1 := Option.some.inj hF
                subst hq1
                exact e_i hx hb hr hlk hK hN hW hS dX5_lane_95
            · replace hF := it_f hF hn3
              by_cases hn4 : a4 = 4
              · replace hF := it_t hF hn4
                refine lv_tableIn (off := 50) (tgt := 76) hx hb dX5_lane_26 (by rw [hn4]; decide) (by rw [hn4]; decide) (by rw [hn4]; rfl) (by decide) ?_
                refine lv_aload hx hb dX5_lane_76 (lv_at hl 0 rfl) ?_
                refine lv_iload_n hx hb dX5_lane_78 rfl (lv_at hl 3 rfl) ?_
                refine lv_iload_n hx hb dX5_lane_79 rfl (lv_at hl 4 rfl) ?_
                refine lv_iload hx hb dX5_lane_80 (lv_at hl 5 rfl) ?_
                refine lv_iconst (v := (2 : Int32)) hx hb dX5_lane_82 (by decide) ?_
                refine lv_isub hx hb dX5_lane_83 ?_
                replace hF := ob hF
                obtain ⟨v14, q15, hF⟩ := hF
                refine k_i (va_runVN (C := RX3) (As := [.int a2, .int a3, .int (a4 - (2 : Int32))]) (rest := []) ⟨hx, hb, hml, hown, hts⟩ (c3_mayStand l t3 a2 a3 (a4 - (2 : Int32)) ht3 q15) ⟨va_cnB 3 hts gX5_lane_X3_mayStand_n292 rfl rfl rfl (nm_14 hN) (hts (.initialized RX3) (by decide +kernel)) (by decide +kernel) ⟨Nat.le_of_ble_eq_true rfl, Nat.le_of_ble_eq_true rfl⟩, hts (.instanceMethod yX3_mayStand) (by decide +kernel), hts (.selects RX3 yX3_mayStand yX3_mayStand) (by decide +kernel)⟩ (k_preV hW hK hN ht3 (EE_3 cA ad S P M t3) rfl) rfl rfl hl.1 rfl (lv_room (Nat.le_of_ble_eq_true rfl)) dX5_lane_84 ⟨Nat.le_of_ble_eq_true rfl, Nat.le_of_ble_eq_true rfl⟩) hS ?_
                clear hW hS; intro H locs hW hS
                refine lv_if_eq (tgt := 94) hx hb dX5_lane_87 (by decide) (fun hc => ?_) (fun hc => ?_)
                · replace hF := it_t hF hc
                  refine lv_iconst (v := (0 : Int32)) hx hb dX5_lane_94 (by decide) ?_
                  have hq1 := Option.some.inj hF
                  subst hq1
                  exact e_i hx hb hr hlk hK hN hW hS dX5_lane_95
                · replace hF := it_f hF hc
                  refine lv_iconst (v := (1 : Int32)) hx hb dX5_lane_90 (by decide) ?_
                  refine lv_goto (tgt := 95) hx hb dX5_lane_91 (by decide) ?_
                  have hq1 := Option.some.inj hF
                  subst hq1
                  exact e_i hx hb hr hlk hK hN hW hS dX5_lane_95
              · replace hF := it_f hF hn4
                have hq0 := sw_ne hn0 (n := 0) (by decide)
                have hq1 := sw_ne hn1 (n := 1) (by decide)
                have hq2 := sw_ne hn2 (n := 2) (by decide)
                have hq3 := sw_ne hn3 (n := 3) (by decide)
                have hq4 := sw_ne hn4 (n := 4) (by decide)
                refine lv_tableOut (tgt := 96) hx hb dX5_lane_26 (by omega) (by decide) ?_
                refine lv_iconst (v := (-1 : Int32)) hx hb dX5_lane_96 (by decide) ?_
                have hq1 := Option.some.inj hF
                subst hq1
                exact e_i hx hb hr hlk hK hN hW hS dX5_lane_97
    · replace hF := it_t hF hc
      refine lv_iconst (v := (-1 : Int32)) hx hb dX5_lane_22 (by decide) ?_
      have hq1 := Option.some.inj hF
      subst hq1
      exact e_i hx hb hr hlk hK hN hW hS dX5_lane_23

set_option maxHeartbeats 4000000 in
set_option maxRecDepth 100000 in
theorem c5_lane (l : Launch) {D : va_G} {cA : Nat → ClassId} {z : Nat} {ad : Nat → Nat → Nat} {N : TN} {S : TS} {P : TP} {M : TS} (a1 : Int32) (a2 : Int32) (a3 : Int32) (a4 : Int32) {v : Int32} (hF : f5_lane S P a1 a2 a3 a4 = some v) : Met l yX5_lane wsX5_lane rm5_lane (va_Pc [.ref (ad 5 0), .int a1, .int a2, .int a3, .int a4] (Wl D cA z (ad, N, S, P, M))) (Qi D cA z v (ad, N, S, P, M)) 0 0 (fun q => z ≤ q) := by
  refine Met.ofW (cc := cX5_lane) (maxL := 6) (ret := (some .int)) (by decide) rfl ?_
  intro p e s m args below meth c s₁ B hml hv
  obtain ⟨rfl, hW, hK, hN⟩ := hv
  have hl := lv_entry ([.ref (ad 5 0), .int a1, .int a2, .int a3, .int a4]) (n := 6) (Nat.le_of_ble_eq_true rfl)
  rw [lg_entry_eq]
  generalize (lg_sl ([.ref (ad 5 0), .int a1, .int a2, .int a3, .int a4]) ++ List.replicate (6 - (lg_sl ([.ref (ad 5 0), .int a1, .int a2, .int a3, .int a4])).length) Slot.unset).toArray = ls at hl ⊢
  exact w5_lane ⟨B.exec, B.bytes, B.returns, hml, findClass_of_methodNamed B.named, atoms_spec (ws := wsX5_lane) B.pre, B.notSynchronized⟩ hK hN a1 a2 a3 a4 hF hW va_S.rf hl

-- 5 liesTooNear
abbrev rm5_liesTooNear : Room := { frames := 1, cells := 0, slots := 0, locals := 21 }
def f5_liesTooNear_2 (K : Option (Int32)) (S : TS) (P : TP) (c1 : Nat) (c2 : Int32) : Nat → Int32 → Option (Int32)
  | 0, _ => none
  | n + 1, y3 =>
    if (S 505 0) ≤ y3 then
    (K)
    else
    ((ix y3 60).bind fun (j1 : Nat) =>
    lt (P 900 0 j1) fun (r2 : Option Nat) =>
    r2.bind fun (t3 : Nat) =>
    lt (P 201 t3 0) fun (r4 : Option Nat) =>
    if r4 = (some c1) then
    (if (S 204 t3) = (3 : Int32) then
    (f5_liesTooNear_2 K S P c1 c2 n (y3 + 1))
    else
    (lt (if 0 ≤ ((S 202 t3) - c2) then ((S 202 t3) - c2) else 0 - ((S 202 t3) - c2)) fun (x5 : Int32) =>
    if (90 : Int32) ≤ x5 then
    (f5_liesTooNear_2 K S P c1 c2 n (y3 + 1))
    else
    (some (1 : Int32))))
    else
    (f5_liesTooNear_2 K S P c1 c2 n (y3 + 1)))

def f5_liesTooNear (S : TS) (P : TP) (a1 : Nat) (a2 : Int32) : Option (Int32) :=
  f5_liesTooNear_2 (some (0 : Int32)) S P a1 a2 FU (0 : Int32)
set_option maxRecDepth 20000 in
theorem hi5_liesTooNear_2 : ∀ w ∈ u_ws RX2 TX2 9, w ∈ wsX5_liesTooNear := by decide +kernel
set_option maxRecDepth 20000 in
theorem hi5_liesTooNear_5 : ∀ w ∈ u_ws RX5 TX5 12, w ∈ wsX5_liesTooNear := by decide +kernel
set_option maxHeartbeats 4000000 in
set_option maxRecDepth 100000 in
theorem w5_liesTooNear_2 {p : Program} {l : Launch} {e : Env} {s : State} {m : MethodId} {args : Array Value} {below : List Frame} {meth : Method} {c : Code} (C : MC p s m args meth c cX5_liesTooNear (some .boolean) 5 RX5 wsX5_liesTooNear) {D : va_G} {cA : Nat → ClassId} {z : Nat} {ad : Nat → Nat → Nat} {N : TN} (hK : va_K D vwCl (tysW cA) s) (hN : NW s) {M : TS} {S : TS} {P : TP} (c1 : Nat) (c2 : Int32) (hc1 : c1 < N 3) {v : Int32} {K : Option (Int32)}
    (hE : ∀ (H : Heap) (locs : List Loc) (ls : Array Slot), K = some v → Wd D cA z ad N S P M H → va_S (fun q => z ≤ q) s.heap H locs → lv_has ls 5 [] → W p l e rm5_liesTooNear s m args below meth c H locs 0 0 (MQ below (Qi D cA z v (ad, N, S, P, M)) args s 0 0 (fun q => z ≤ q)) (F0 m 59 ls [])) :
    ∀ (n : Nat) (y3 : Int32) (H : Heap) (locs : List Loc) (ls : Array Slot), f5_liesTooNear_2 K S P c1 c2 n y3 = some v → Wd D cA z ad N S P M H → va_S (fun q => z ≤ q) s.heap H locs → lv_has ls 5 [(0, .ref (ad 5 0)), (1, .ref (ad 3 c1)), (2, .int c2), (3, .int y3)] → W p l e rm5_liesTooNear s m args below meth c H locs 0 0 (MQ below (Qi D cA z v (ad, N, S, P, M)) args s 0 0 (fun q => z ≤ q)) (F0 m 2 ls []) := by
  obtain ⟨hx, hb, hr, hml, hown, hts, hlk⟩ := id C
  intro n
  induction n with
  | zero => intro y3 H locs ls hF; cases hF
  | succ n ih =>
    intro y3 H locs ls hF hW hS hl
    rw [f5_liesTooNear_2] at hF
    refine lv_iload_n hx hb dX5_liesTooNear_2 rfl (lv_at hl 3 rfl) ?_
    refine lv_aload_n hx hb dX5_liesTooNear_3 rfl (lv_at hl 0 rfl) ?_
    refine g5_5 hx hb hts hi5_liesTooNear_5 hown hK hW (hts (.fieldLink RX5 65 RX5 "sailingCount" "I") (by decide +kernel)) dX5_liesTooNear_4 ?_
    refine lv_icmp_ge (tgt := 59) hx hb dX5_liesTooNear_7 (by decide) (fun hc => ?_) (fun hc => ?_)
    · replace hF := it_t hF hc
      exact hE _ _ _ hF hW hS (lv_sub hl [] rfl)
    · replace hF := it_f hF hc
      refine lv_aload_n hx hb dX5_liesTooNear_10 rfl (lv_at hl 0 rfl) ?_
      refine g5_4 hx hb hts hi5_liesTooNear_5 hown hK hW (hts (.fieldLink RX5 23 RX5 "sailings" "[LFerryTerminal$Sailing;") (by decide +kernel)) dX5_liesTooNear_11 ?_
      refine lv_iload_n hx hb dX5_liesTooNear_14 rfl (lv_at hl 3 rfl) ?_
      replace hF := ob hF
      obtain ⟨j1, ej1, hF⟩ := hF
      replace hF := lt_ex hF
      obtain ⟨r2, er2, hF⟩ := hF
      have hr2 : ∀ y, r2 = some y → y < N 2 := hW.v er2
      refine l9 hx hb hK hW ej1 er2 dX5_liesTooNear_15 ?_
      refine q_astore (lv' := [(4, va_rf (r2.map (ad 2))), (0, .ref (ad 5 0)), (1, .ref (ad 3 c1)), (2, .int c2), (3, .int y3)]) hx hb dX5_liesTooNear_16 hl (by decide) rfl ?_
      clear hl; intro ls hl
      refine q_aload hx hb dX5_liesTooNear_18 (lv_at hl 0 rfl) ?_
      replace hF := ob hF
      obtain ⟨t3, et3, hF⟩ := hF
      subst et3
      have ht3 := hr2 t3 rfl
      replace hl : lv_has ls 5 [(4, .ref (ad 2 t3)), (0, .ref (ad 5 0)), (1, .ref (ad 3 c1)), (2, .int c2), (3, .int y3)] := hl
      replace hF := lt_ex hF
      obtain ⟨r4, er4, hF⟩ := hF
      have hr4 : ∀ y, r4 = some y → y < N 3 := hW.v er4
      refine gn2_1 hx hb hts hi5_liesTooNear_2 hown hK hW ht3 er4 (nf_12 hN) dX5_liesTooNear_20 ?_
      refine lv_aload_n hx hb dX5_liesTooNear_23 rfl (lv_at hl 2 rfl) ?_
      refine q_acmp_ne hx hb hW 3 r4 (some c1) hr4 (q_some hc1) (tgt := 53) dX5_liesTooNear_24 (by decide) (fun hc => ?_) (fun hc => ?_)
      · replace hF := it_f hF hc
        refine lv_iinc (v := y3 + 1) (lv' := [(3, .int (y3 + 1)), (4, .ref (ad 2 t3)), (0, .ref (ad 5 0)), (1, .ref (ad 3 c1)), (2, .int c2)]) hx hb dX5_liesTooNear_53 hl (k := 4) rfl rfl (by decide) rfl ?_
        clear hl; intro ls hl
        refine lv_goto (tgt := 2) hx hb dX5_liesTooNear_56 (by decide) ?_
        exact ih (y3 + 1) _ _ _ hF hW hS (lv_sub hl [2, 3, 4, 0] rfl)
      · replace hF := it_t hF hc
        refine lv_aload hx hb dX5_liesTooNear_27 (lv_at hl 0 rfl) ?_
        refine gn2_4 hx hb hts hi5_liesTooNear_2 hown hK hW ht3 (nf_16 hN) dX5_liesTooNear_29 ?_
        refine lv_iconst (v := (3 : Int32)) hx hb dX5_liesTooNear_32 (by decide) ?_
        refine lv_icmp_eq (tgt := 53) hx hb dX5_liesTooNear_33 (by decide) (fun hc => ?_) (fun hc => ?_)
        · replace hF := it_t hF hc
          refine lv_iinc (v := y3 + 1) (lv' := [(3, .int (y3 + 1)), (4, .ref (ad 2 t3)), (0, .ref (ad 5 0)), (1, .ref (ad 3 c1)), (2, .int c2)]) hx hb dX5_liesTooNear_53 hl (k := 4) rfl rfl (by decide) rfl ?_
          clear hl; intro ls hl
          refine lv_goto (tgt := 2) hx hb dX5_liesTooNear_56 (by decide) ?_
          exact ih (y3 + 1) _ _ _ hF hW hS (lv_sub hl [2, 3, 4, 0] rfl)
        · replace hF := it_f hF hc
          refine lv_aload hx hb dX5_liesTooNear_36 (lv_at hl 0 rfl) ?_
          refine gn2_2 hx hb hts hi5_liesTooNear_2 hown hK hW ht3 (nf_14 hN) dX5_liesTooNear_38 ?_
          refine lv_iload_n hx hb dX5_liesTooNear_41 rfl (lv_at hl 3 rfl) ?_
          refine lv_isub hx hb dX5_liesTooNear_42 ?_
          replace hF := lt_ex hF
          obtain ⟨x5, ex5, hF⟩ := hF
          refine va_mabs hx hb (hml.trans hl.1.symm) hown (hts (.methodLink RX5 86 Lib.Math.abs.name) (by decide +kernel)) (hts (.static Lib.Math.abs.name) (by decide +kernel)) (hts (.initialized "java/lang/Math") (by decide +kernel)) (hts (.code Lib.Math.abs.name Lib.Math.abs.code 1 (some .int)) (by decide +kernel)) (Nat.le_of_ble_eq_true rfl) (Nat.le_of_ble_eq_true rfl) (Nat.le_of_ble_eq_true rfl) (Nat.le_of_ble_eq_true rfl) dX5_liesTooNear_43 ?_
          rw [← ex5]
          refine lv_bipush (v := (90 : Int32)) hx hb dX5_liesTooNear_46 (by decide) ?_
          refine lv_icmp_ge (tgt := 53) hx hb dX5_liesTooNear_48 (by decide) (fun hc => ?_) (fun hc => ?_)
          · replace hF := it_t hF hc
            refine lv_iinc (v := y3 + 1) (lv' := [(3, .int (y3 + 1)), (4, .ref (ad 2 t3)), (0, .ref (ad 5 0)), (1, .ref (ad 3 c1)), (2, .int c2)]) hx hb dX5_liesTooNear_53 hl (k := 4) rfl rfl (by decide) rfl ?_
            clear hl; intro ls hl
            refine lv_goto (tgt := 2) hx hb dX5_liesTooNear_56 (by decide) ?_
            exact ih (y3 + 1) _ _ _ hF hW hS (lv_sub hl [2, 3, 4, 0] rfl)
          · replace hF := it_f hF hc
            refine lv_iconst (v := (1 : Int32)) hx hb dX5_liesTooNear_51 (by decide) ?_
            have hq1 := Option.some.inj hF
            subst hq1
            exact e_z hx hb hr hlk hK hN hW hS (by decide) dX5_liesTooNear_52

set_option maxHeartbeats 4000000 in
set_option maxRecDepth 100000 in
theorem w5_liesTooNear {p : Program} {l : Launch} {e : Env} {s : State} {m : MethodId} {args : Array Value} {below : List Frame} {meth : Method} {c : Code} (C : MC p s m args meth c cX5_liesTooNear (some .boolean) 5 RX5 wsX5_liesTooNear) {D : va_G} {cA : Nat → ClassId} {z : Nat} {ad : Nat → Nat → Nat} {N : TN} (hK : va_K D vwCl (tysW cA) s) (hN : NW s) {S : TS} {P : TP} {M : TS} (a1 : Nat) (a2 : Int32) (ha1 : a1 < N 3) {v : Int32} (hF : f5_liesTooNear S P a1 a2 = some v)
    {H : Heap} {ls : Array Slot} (hW : Wd D cA z ad N S P M H) {locs : List Loc} (hS : va_S (fun q => z ≤ q) s.heap H locs) (hl : lv_has ls 5 [(0, .ref (ad 5 0)), (1, .ref (ad 3 a1)), (2, .int a2)]) : W p l e rm5_liesTooNear s m args below meth c H locs 0 0 (MQ below (Qi D cA z v (ad, N, S, P, M)) args s 0 0 (fun q => z ≤ q)) (F0 m 0 ls []) := by
  obtain ⟨hx, hb, hr, hml, hown, hts, hlk⟩ := id C
  unfold f5_liesTooNear at hF
  refine lv_iconst (v := (0 : Int32)) hx hb dX5_liesTooNear_0 (by decide) ?_
  refine lv_istore_n (lv' := [(3, .int (0 : Int32)), (0, .ref (ad 5 0)), (1, .ref (ad 3 a1)), (2, .int a2)]) hx hb dX5_liesTooNear_1 rfl hl (by decide) rfl ?_
  clear hl; intro ls hl
  refine w5_liesTooNear_2 C hK hN a1 a2 ha1 (hE := ?_) FU (0 : Int32) _ _ _ hF hW hS (lv_sub hl [1, 2, 3, 0] rfl)
  intro  H locs ls hF hW hS hl
  refine lv_iconst (v := (0 : Int32)) hx hb dX5_liesTooNear_59 (by decide) ?_
  have hq1 := Option.some.inj hF
  subst hq1
  exact e_z hx hb hr hlk hK hN hW hS (by decide) dX5_liesTooNear_60

set_option maxHeartbeats 4000000 in
set_option maxRecDepth 100000 in
theorem c5_liesTooNear (l : Launch) {D : va_G} {cA : Nat → ClassId} {z : Nat} {ad : Nat → Nat → Nat} {N : TN} {S : TS} {P : TP} {M : TS} (a1 : Nat) (a2 : Int32) (ha1 : a1 < N 3) {v : Int32} (hF : f5_liesTooNear S P a1 a2 = some v) : Met l yX5_liesTooNear wsX5_liesTooNear rm5_liesTooNear (va_Pc [.ref (ad 5 0), .ref (ad 3 a1), .int a2] (Wl D cA z (ad, N, S, P, M))) (Qi D cA z v (ad, N, S, P, M)) 0 0 (fun q => z ≤ q) := by
  refine Met.ofW (cc := cX5_liesTooNear) (maxL := 5) (ret := (some .boolean)) (by decide) rfl ?_
  intro p e s m args below meth c s₁ B hml hv
  obtain ⟨rfl, hW, hK, hN⟩ := hv
  have hl := lv_entry ([.ref (ad 5 0), .ref (ad 3 a1), .int a2]) (n := 5) (Nat.le_of_ble_eq_true rfl)
  rw [lg_entry_eq]
  generalize (lg_sl ([.ref (ad 5 0), .ref (ad 3 a1), .int a2]) ++ List.replicate (5 - (lg_sl ([.ref (ad 5 0), .ref (ad 3 a1), .int a2])).length) Slot.unset).toArray = ls at hl ⊢
  exact w5_liesTooNear ⟨B.exec, B.bytes, B.returns, hml, findClass_of_methodNamed B.named, atoms_spec (ws := wsX5_liesTooNear) B.pre, B.notSynchronized⟩ hK hN a1 a2 ha1 hF hW va_S.rf hl

-- 5 log
abbrev rm5_log : Room := { frames := 1, cells := 0, slots := 0, locals := 22 }
def f5_log (S : TS) (P : TP) (a1 : Int32) (a2 : Int32) : Option (Int32) :=
  lt (if (3000 : Int32) < (S 511 0) then (3000 : Int32) else (S 511 0)) fun (x1 : Int32) =>
  (f5_within a1 (0 : Int32) (x1 - (1 : Int32))).bind fun (v2 : Int32) =>
  if v2 = 0 then
  (some (-1 : Int32))
  else
  (if a2 = 0 then
  ((ix a1 3000).bind fun (j4 : Nat) =>
  some (S 1100 j4))
  else
  (if a2 = 1 then
  ((ix a1 3000).bind fun (j5 : Nat) =>
  some (S 1200 j5))
  else
  (if a2 = 2 then
  ((ix a1 3000).bind fun (j6 : Nat) =>
  some (S 1300 j6))
  else
  (some (-1 : Int32)))))
set_option maxRecDepth 20000 in
theorem hi5_log_5 : ∀ w ∈ u_ws RX5 TX5 12, w ∈ wsX5_log := by decide +kernel
set_option maxHeartbeats 4000000 in
set_option maxRecDepth 100000 in
theorem w5_log {p : Program} {l : Launch} {e : Env} {s : State} {m : MethodId} {args : Array Value} {below : List Frame} {meth : Method} {c : Code} (C : MC p s m args meth c cX5_log (some .int) 3 RX5 wsX5_log) {D : va_G} {cA : Nat → ClassId} {z : Nat} {ad : Nat → Nat → Nat} {N : TN} (hK : va_K D vwCl (tysW cA) s) (hN : NW s) {S : TS} {P : TP} {M : TS} (a1 : Int32) (a2 : Int32) {v : Int32} (hF : f5_log S P a1 a2 = some v)
    {H : Heap} {ls : Array Slot} (hW : Wd D cA z ad N S P M H) {locs : List Loc} (hS : va_S (fun q => z ≤ q) s.heap H locs) (hl : lv_has ls 3 [(0, .ref (ad 5 0)), (1, .int a1), (2, .int a2)]) : W p l e rm5_log s m args below meth c H locs 0 0 (MQ below (Qi D cA z v (ad, N, S, P, M)) args s 0 0 (fun q => z ≤ q)) (F0 m 0 ls []) := by
  obtain ⟨hx, hb, hr, hml, hown, hts, hlk⟩ := id C
  unfold f5_log at hF
  refine lv_iload_n hx hb dX5_log_0 rfl (lv_at hl 1 rfl) ?_
  refine lv_iconst (v := (0 : Int32)) hx hb dX5_log_1 (by decide) ?_
  refine lv_aload_n hx hb dX5_log_2 rfl (lv_at hl 0 rfl) ?_
  refine g5_11 hx hb hts hi5_log_5 hown hK hW (hts (.fieldLink RX5 159 RX5 "turnsEver" "I") (by decide +kernel)) dX5_log_3 ?_
  refine lv_sipush (v := (3000 : Int32)) hx hb dX5_log_6 (by decide) ?_
  replace hF := lt_ex hF
  obtain ⟨x1, ex1, hF⟩ := hF
  refine va_mmin hx hb (hml.trans hl.1.symm) hown (hts (.methodLink RX5 295 Lib.Math.min.name) (by decide +kernel)) (hts (.static Lib.Math.min.name) (by decide +kernel)) (hts (.initialized "java/lang/Math") (by decide +kernel)) (hts (.code Lib.Math.min.name Lib.Math.min.code 2 (some .int)) (by decide +kernel)) (Nat.le_of_ble_eq_true rfl) (Nat.le_of_ble_eq_true rfl) (Nat.le_of_ble_eq_true rfl) (Nat.le_of_ble_eq_true rfl) dX5_log_9 ?_
  rw [← ex1]
  refine lv_iconst (v := (1 : Int32)) hx hb dX5_log_12 (by decide) ?_
  refine lv_isub hx hb dX5_log_13 ?_
  replace hF := ob hF
  obtain ⟨v2, q3, hF⟩ := hF
  refine k_i (va_runS (As := [.int a1, .int (0 : Int32), .int (x1 - (1 : Int32))]) (rest := []) ⟨hx, hb, hml, hown, hts⟩ (c5_within l a1 (0 : Int32) (x1 - (1 : Int32)) q3) (va_cwS 3 hts gX5_log_X5_within rfl rfl rfl (by decide +kernel) ⟨Nat.le_of_ble_eq_true rfl, Nat.le_of_ble_eq_true rfl⟩) (k_preS hW hK hN) rfl rfl hl.1 rfl (lv_room (Nat.le_of_ble_eq_true rfl)) dX5_log_14 ⟨Nat.le_of_ble_eq_true rfl, Nat.le_of_ble_eq_true rfl⟩) hS ?_
  clear hW hS; intro H locs hW hS
  refine lv_if_ne (tgt := 22) hx hb dX5_log_17 (by decide) (fun hc => ?_) (fun hc => ?_)
  · replace hF := it_f hF hc
    refine lv_iload_n hx hb dX5_log_22 rfl (lv_at hl 2 rfl) ?_
    by_cases hn0 : a2 = 0
    · replace hF := it_t hF hn0
      refine lv_tableIn (off := 25) (tgt := 48) hx hb dX5_log_23 (by rw [hn0]; decide) (by rw [hn0]; decide) (by rw [hn0]; rfl) (by decide) ?_
      refine lv_aload_n hx hb dX5_log_48 rfl (lv_at hl 0 rfl) ?_
      refine g5_8 hx hb hts hi5_log_5 hown hK hW (hts (.fieldLink RX5 33 RX5 "logKinds" "[I") (by decide +kernel)) dX5_log_49 ?_
      refine lv_iload_n hx hb dX5_log_52 rfl (lv_at hl 1 rfl) ?_
      replace hF := ob hF
      obtain ⟨j4, ej4, hF⟩ := hF
      refine l11 hx hb hK hW ej4 dX5_log_53 ?_
      have hq1 := Option.some.inj hF
      subst hq1
      exact e_i hx hb hr hlk hK hN hW hS dX5_log_54
    · replace hF := it_f hF hn0
      by_cases hn1 : a2 = 1
      · replace hF := it_t hF hn1
        refine lv_tableIn (off := 32) (tgt := 55) hx hb dX5_log_23 (by rw [hn1]; decide) (by rw [hn1]; decide) (by rw [hn1]; rfl) (by decide) ?_
        refine lv_aload_n hx hb dX5_log_55 rfl (lv_at hl 0 rfl) ?_
        refine g5_9 hx hb hts hi5_log_5 hown hK hW (hts (.fieldLink RX5 37 RX5 "logTickets" "[I") (by decide +kernel)) dX5_log_56 ?_
        refine lv_iload_n hx hb dX5_log_59 rfl (lv_at hl 1 rfl) ?_
        replace hF := ob hF
        obtain ⟨j5, ej5, hF⟩ := hF
        refine l12 hx hb hK hW ej5 dX5_log_60 ?_
        have hq1 := Option.some.inj hF
        subst hq1
        exact e_i hx hb hr hlk hK hN hW hS dX5_log_61
      · replace hF := it_f hF hn1
        by_cases hn2 : a2 = 2
        · replace hF := it_t hF hn2
          refine lv_tableIn (off := 39) (tgt := 62) hx hb dX5_log_23 (by rw [hn2]; decide) (by rw [hn2]; decide) (by rw [hn2]; rfl) (by decide) ?_
          refine lv_aload_n hx hb dX5_log_62 rfl (lv_at hl 0 rfl) ?_
          refine g5_10 hx hb hts hi5_log_5 hown hK hW (hts (.fieldLink RX5 40 RX5 "logSailings" "[I") (by decide +kernel)) dX5_log_63 ?_
          refine lv_iload_n hx hb dX5_log_66 rfl (lv_at hl 1 rfl) ?_
          replace hF := ob hF
          obtain ⟨j6, ej6, hF⟩ := hF
          refine l13 hx hb hK hW ej6 dX5_log_67 ?_
          have hq1 := Option.some.inj hF
          subst hq1
          exact e_i hx hb hr hlk hK hN hW hS dX5_log_68
        · replace hF := it_f hF hn2
          have hq0 := sw_ne hn0 (n := 0) (by decide)
          have hq1 := sw_ne hn1 (n := 1) (by decide)
          have hq2 := sw_ne hn2 (n := 2) (by decide)
          refine lv_tableOut (tgt := 69) hx hb dX5_log_23 (by omega) (by decide) ?_
          refine lv_iconst (v := (-1 : Int32)) hx hb dX5_log_69 (by decide) ?_
          have hq1 := Option.some.inj hF
          subst hq1
          exact e_i hx hb hr hlk hK hN hW hS dX5_log_70
  · replace hF := it_t hF hc
    refine lv_iconst (v := (-1 : Int32)) hx hb dX5_log_20 (by decide) ?_
    have hq1 := Option.some.inj hF
    subst hq1
    exact e_i hx hb hr hlk hK hN hW hS dX5_log_21

set_option maxHeartbeats 4000000 in
set_option maxRecDepth 100000 in
theorem c5_log (l : Launch) {D : va_G} {cA : Nat → ClassId} {z : Nat} {ad : Nat → Nat → Nat} {N : TN} {S : TS} {P : TP} {M : TS} (a1 : Int32) (a2 : Int32) {v : Int32} (hF : f5_log S P a1 a2 = some v) : Met l yX5_log wsX5_log rm5_log (va_Pc [.ref (ad 5 0), .int a1, .int a2] (Wl D cA z (ad, N, S, P, M))) (Qi D cA z v (ad, N, S, P, M)) 0 0 (fun q => z ≤ q) := by
  refine Met.ofW (cc := cX5_log) (maxL := 3) (ret := (some .int)) (by decide) rfl ?_
  intro p e s m args below meth c s₁ B hml hv
  obtain ⟨rfl, hW, hK, hN⟩ := hv
  have hl := lv_entry ([.ref (ad 5 0), .int a1, .int a2]) (n := 3) (Nat.le_of_ble_eq_true rfl)
  rw [lg_entry_eq]
  generalize (lg_sl ([.ref (ad 5 0), .int a1, .int a2]) ++ List.replicate (3 - (lg_sl ([.ref (ad 5 0), .int a1, .int a2])).length) Slot.unset).toArray = ls at hl ⊢
  exact w5_log ⟨B.exec, B.bytes, B.returns, hml, findClass_of_methodNamed B.named, atoms_spec (ws := wsX5_log) B.pre, B.notSynchronized⟩ hK hN a1 a2 hF hW va_S.rf hl

-- 5 off
abbrev rm5_off : Room := { frames := 5, cells := 0, slots := 0, locals := 109 }
def f5_off (S : TS) (P : TP) (a1 : Int32) : Option (Int32 × TS × TP) :=
  (f5_ticketNumbered S P a1).bind fun (r1 : Option Nat) =>
  r1.elim (some ((0 : Int32), S, P))
  (fun (t3 : Nat) => if (S 406 t3) = (3 : Int32) then
  (lt (P 415 t3 0) fun (r4 : Option Nat) =>
  r4.elim (lt (P 401 t3 0) fun (r6 : Option Nat) =>
  r6.bind fun (t7 : Nat) =>
  if (S 204 t7) = (1 : Int32) then
  (lt (P 207 t7 0) fun (r8 : Option Nat) =>
  if r8 = (some t3) then
  (some ((0 : Int32), S, P))
  else
  (if (S 206 t7) = (-1 : Int32) then
  (b2 (f5_bringOff S P t3) fun (S9 : TS) (P10 : TP) =>
  some ((1 : Int32), S9, P10))
  else
  (some ((0 : Int32), S, P))))
  else
  (some ((0 : Int32), S, P)))
  (fun (t5 : Nat) => some ((0 : Int32), S, P)))
  else
  (some ((0 : Int32), S, P)))
set_option maxRecDepth 20000 in
theorem hi5_off_2 : ∀ w ∈ u_ws RX2 TX2 9, w ∈ wsX5_off := by decide +kernel
set_option maxRecDepth 20000 in
theorem hi5_off_4 : ∀ w ∈ u_ws RX4 TX4 16, w ∈ wsX5_off := by decide +kernel
set_option maxHeartbeats 4000000 in
set_option maxRecDepth 100000 in
theorem w5_off {p : Program} {l : Launch} {e : Env} {s : State} {m : MethodId} {args : Array Value} {below : List Frame} {meth : Method} {c : Code} (C : MC p s m args meth c cX5_off (some .boolean) 4 RX5 wsX5_off) {D : va_G} {cA : Nat → ClassId} {z : Nat} {ad : Nat → Nat → Nat} {N : TN} (hK : va_K D vwCl (tysW cA) s) (hN : NW s) {S : TS} {P : TP} {M : TS} (a1 : Int32) {v : Int32} {S' : TS} {P' : TP} (hF : f5_off S P a1 = some (v, S', P'))
    {H : Heap} {ls : Array Slot} (hW : Wd D cA z ad N S P M H) {locs : List Loc} (hS : va_S (fun q => z ≤ q) s.heap H locs) (hl : lv_has ls 4 [(0, .ref (ad 5 0)), (1, .int a1)]) : W p l e rm5_off s m args below meth c H locs 0 0 (MQ below (Qi D cA z v (ad, N, S', P', M)) args s 0 0 (fun q => z ≤ q)) (F0 m 0 ls []) := by
  obtain ⟨hx, hb, hr, hml, hown, hts, hlk⟩ := id C
  unfold f5_off at hF
  refine lv_aload_n hx hb dX5_off_0 rfl (lv_at hl 0 rfl) ?_
  refine lv_iload_n hx hb dX5_off_1 rfl (lv_at hl 1 rfl) ?_
  replace hF := ob hF
  obtain ⟨r1, q2, hF⟩ := hF
  refine k_q (va_runV (As := [.int a1]) (rest := []) ⟨hx, hb, hml, hown, hts⟩ (c5_ticketNumbered l a1 q2) (cwV 1 hts gX5_off_X5_ticketNumbered rfl rfl rfl (by decide +kernel) ⟨Nat.le_of_ble_eq_true rfl, Nat.le_of_ble_eq_true rfl⟩) (k_preV hW hK hN (hW.fx 5 rfl) (EE_5 cA ad S P M 0) rfl) rfl rfl hl.1 rfl (lv_room (Nat.le_of_ble_eq_true rfl)) dX5_off_2 ⟨Nat.le_of_ble_eq_true rfl, Nat.le_of_ble_eq_true rfl⟩) hS (fun H locs hW hS hr1 => ?_)
  refine q_astore_n (lv' := [(2, va_rf (r1.map (ad 4))), (0, .ref (ad 5 0)), (1, .int a1)]) hx hb dX5_off_5 rfl hl (by decide) rfl ?_
  clear hl; intro ls hl
  refine q_aload_n hx hb dX5_off_6 rfl (lv_at hl 0 rfl) ?_
  refine q_ifnull (tgt := 25) hx hb dX5_off_7 (by decide) (fun hc => ?_) (fun t3 hc => ?_)
  · subst hc
    replace hF := el_n hF
    replace hl : lv_has ls 4 [(2, .null), (0, .ref (ad 5 0)), (1, .int a1)] := hl
    refine lv_iconst (v := (0 : Int32)) hx hb dX5_off_25 (by decide) ?_
    obtain ⟨hq1, hq2⟩ := Prod.mk.inj (Option.some.inj hF)
    obtain ⟨hq2, hq3⟩ := Prod.mk.inj hq2
    subst hq1
    subst hq2
    subst hq3
    exact e_z hx hb hr hlk hK hN hW hS (by decide) dX5_off_26
  · subst hc
    replace hF := el_s hF
    have ht3 := hr1 t3 rfl
    replace hl : lv_has ls 4 [(2, .ref (ad 4 t3)), (0, .ref (ad 5 0)), (1, .int a1)] := hl
    refine lv_aload_n hx hb dX5_off_10 rfl (lv_at hl 0 rfl) ?_
    refine gn4_6 hx hb hts hi5_off_4 hown hK hW ht3 (nf_28 hN) dX5_off_11 ?_
    refine lv_iconst (v := (3 : Int32)) hx hb dX5_off_14 (by decide) ?_
    refine lv_icmp_ne (tgt := 25) hx hb dX5_off_15 (by decide) (fun hc => ?_) (fun hc => ?_)
    · replace hF := it_f hF hc
      refine lv_iconst (v := (0 : Int32)) hx hb dX5_off_25 (by decide) ?_
      obtain ⟨hq1, hq2⟩ := Prod.mk.inj (Option.some.inj hF)
      obtain ⟨hq2, hq3⟩ := Prod.mk.inj hq2
      subst hq1
      subst hq2
      subst hq3
      exact e_z hx hb hr hlk hK hN hW hS (by decide) dX5_off_26
    · replace hF := it_t hF hc
      refine lv_aload_n hx hb dX5_off_18 rfl (lv_at hl 0 rfl) ?_
      replace hF := lt_ex hF
      obtain ⟨r4, er4, hF⟩ := hF
      have hr4 : ∀ y, r4 = some y → y < N 4 := hW.v er4
      refine gn4_15 hx hb hts hi5_off_4 hown hK hW ht3 er4 (nf_39 hN) dX5_off_19 ?_
      refine q_ifnull (tgt := 27) hx hb dX5_off_22 (by decide) (fun hc => ?_) (fun t5 hc => ?_)
      · subst hc
        replace hF := el_n hF
        refine lv_aload_n hx hb dX5_off_27 rfl (lv_at hl 0 rfl) ?_
        replace hF := lt_ex hF
        obtain ⟨r6, er6, hF⟩ := hF
        have hr6 : ∀ y, r6 = some y → y < N 2 := hW.v er6
        refine gn4_1 hx hb hts hi5_off_4 hown hK hW ht3 er6 (nf_22 hN) dX5_off_28 ?_
        refine q_astore_n (lv' := [(3, va_rf (r6.map (ad 2))), (2, .ref (ad 4 t3)), (0, .ref (ad 5 0)), (1, .int a1)]) hx hb dX5_off_31 rfl hl (by decide) rfl ?_
        clear hl; intro ls hl
        refine q_aload_n hx hb dX5_off_32 rfl (lv_at hl 0 rfl) ?_
        replace hF := ob hF
        obtain ⟨t7, et7, hF⟩ := hF
        subst et7
        have ht7 := hr6 t7 rfl
        replace hl : lv_has ls 4 [(3, .ref (ad 2 t7)), (2, .ref (ad 4 t3)), (0, .ref (ad 5 0)), (1, .int a1)] := hl
        refine gn2_4 hx hb hts hi5_off_2 hown hK hW ht7 (nf_16 hN) dX5_off_33 ?_
        refine lv_iconst (v := (1 : Int32)) hx hb dX5_off_36 (by decide) ?_
        refine lv_icmp_ne (tgt := 56) hx hb dX5_off_37 (by decide) (fun hc => ?_) (fun hc => ?_)
        · replace hF := it_f hF hc
          refine lv_iconst (v := (0 : Int32)) hx hb dX5_off_56 (by decide) ?_
          obtain ⟨hq1, hq2⟩ := Prod.mk.inj (Option.some.inj hF)
          obtain ⟨hq2, hq3⟩ := Prod.mk.inj hq2
          subst hq1
          subst hq2
          subst hq3
          exact e_z hx hb hr hlk hK hN hW hS (by decide) dX5_off_57
        · replace hF := it_t hF hc
          refine lv_aload_n hx hb dX5_off_40 rfl (lv_at hl 0 rfl) ?_
          replace hF := lt_ex hF
          obtain ⟨r8, er8, hF⟩ := hF
          have hr8 : ∀ y, r8 = some y → y < N 4 := hW.v er8
          refine gn2_7 hx hb hts hi5_off_2 hown hK hW ht7 er8 (nf_19 hN) dX5_off_41 ?_
          refine lv_aload_n hx hb dX5_off_44 rfl (lv_at hl 1 rfl) ?_
          refine q_acmp_eq hx hb hW 4 r8 (some t3) hr8 (q_some ht3) (tgt := 56) dX5_off_45 (by decide) (fun hc => ?_) (fun hc => ?_)
          · replace hF := it_t hF hc
            refine lv_iconst (v := (0 : Int32)) hx hb dX5_off_56 (by decide) ?_
            obtain ⟨hq1, hq2⟩ := Prod.mk.inj (Option.some.inj hF)
            obtain ⟨hq2, hq3⟩ := Prod.mk.inj hq2
            subst hq1
            subst hq2
            subst hq3
            exact e_z hx hb hr hlk hK hN hW hS (by decide) dX5_off_57
          · replace hF := it_f hF hc
            refine lv_aload_n hx hb dX5_off_48 rfl (lv_at hl 0 rfl) ?_
            refine gn2_6 hx hb hts hi5_off_2 hown hK hW ht7 (nf_18 hN) dX5_off_49 ?_
            refine lv_iconst (v := (-1 : Int32)) hx hb dX5_off_52 (by decide) ?_
            refine lv_icmp_eq (tgt := 58) hx hb dX5_off_53 (by decide) (fun hc => ?_) (fun hc => ?_)
            · replace hF := it_t hF hc
              refine lv_aload_n hx hb dX5_off_58 rfl (lv_at hl 2 rfl) ?_
              refine lv_aload_n hx hb dX5_off_59 rfl (lv_at hl 1 rfl) ?_
              replace hF := ob2 hF
              obtain ⟨S9, P10, q11, hF⟩ := hF
              refine k_v (va_runV (As := [.ref (ad 4 t3)]) (rest := []) ⟨hx, hb, hml, hown, hts⟩ (c5_bringOff l t3 ht3 q11) (cwV 1 hts gX5_off_X5_bringOff rfl rfl rfl (by decide +kernel) ⟨Nat.le_of_ble_eq_true rfl, Nat.le_of_ble_eq_true rfl⟩) (k_preV hW hK hN (hW.fx 5 rfl) (EE_5 cA ad S P M 0) rfl) rfl rfl hl.1 rfl (lv_room (Nat.le_of_ble_eq_true rfl)) dX5_off_60 ⟨Nat.le_of_ble_eq_true rfl, Nat.le_of_ble_eq_true rfl⟩) hS ?_
              clear hW hS; intro H locs hW hS
              refine lv_iconst (v := (1 : Int32)) hx hb dX5_off_63 (by decide) ?_
              obtain ⟨hq1, hq2⟩ := Prod.mk.inj (Option.some.inj hF)
              obtain ⟨hq2, hq3⟩ := Prod.mk.inj hq2
              subst hq1
              subst hq2
              subst hq3
              exact e_z hx hb hr hlk hK hN hW hS (by decide) dX5_off_64
            · replace hF := it_f hF hc
              refine lv_iconst (v := (0 : Int32)) hx hb dX5_off_56 (by decide) ?_
              obtain ⟨hq1, hq2⟩ := Prod.mk.inj (Option.some.inj hF)
              obtain ⟨hq2, hq3⟩ := Prod.mk.inj hq2
              subst hq1
              subst hq2
              subst hq3
              exact e_z hx hb hr hlk hK hN hW hS (by decide) dX5_off_57
      · subst hc
        replace hF := el_s hF
        have ht5 := hr4 t5 rfl
        refine lv_iconst (v := (0 : Int32)) hx hb dX5_off_25 (by decide) ?_
        obtain ⟨hq1, hq2⟩ := Prod.mk.inj (Option.some.inj hF)
        obtain ⟨hq2, hq3⟩ := Prod.mk.inj hq2
        subst hq1
        subst hq2
        subst hq3
        exact e_z hx hb hr hlk hK hN hW hS (by decide) dX5_off_26

set_option maxHeartbeats 4000000 in
set_option maxRecDepth 100000 in
theorem c5_off (l : Launch) {D : va_G} {cA : Nat → ClassId} {z : Nat} {ad : Nat → Nat → Nat} {N : TN} {S : TS} {P : TP} {M : TS} (a1 : Int32) {v : Int32} {S' : TS} {P' : TP} (hF : f5_off S P a1 = some (v, S', P')) : Met l yX5_off wsX5_off rm5_off (va_Pc [.ref (ad 5 0), .int a1] (Wl D cA z (ad, N, S, P, M))) (Qi D cA z v (ad, N, S', P', M)) 0 0 (fun q => z ≤ q) := by
  refine Met.ofW (cc := cX5_off) (maxL := 4) (ret := (some .boolean)) (by decide) rfl ?_
  intro p e s m args below meth c s₁ B hml hv
  obtain ⟨rfl, hW, hK, hN⟩ := hv
  have hl := lv_entry ([.ref (ad 5 0), .int a1]) (n := 4) (Nat.le_of_ble_eq_true rfl)
  rw [lg_entry_eq]
  generalize (lg_sl ([.ref (ad 5 0), .int a1]) ++ List.replicate (4 - (lg_sl ([.ref (ad 5 0), .int a1])).length) Slot.unset).toArray = ls at hl ⊢
  exact w5_off ⟨B.exec, B.bytes, B.returns, hml, findClass_of_methodNamed B.named, atoms_spec (ws := wsX5_off) B.pre, B.notSynchronized⟩ hK hN a1 hF hW va_S.rf hl


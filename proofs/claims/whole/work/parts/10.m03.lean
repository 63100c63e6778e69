-- 5 firstWrong
abbrev rm5_firstWrong : Room := { frames := 4, cells := 0, slots := 0, locals := 97 }
def f5_firstWrong_2 (K : Option (Int32)) (S : TS) (P : TP) (c1 : Nat) : Nat → Int32 → Option (Int32)
  | 0, _ => none
  | n + 1, y2 =>
    if (S 507 0) ≤ y2 then
    (K)
    else
    ((ix y2 400).bind fun (j1 : Nat) =>
    lt (P 1000 0 j1) fun (r2 : Option Nat) =>
    r2.bind fun (t3 : Nat) =>
    (f5_placeAgrees S P c1 t3).bind fun (v4 : Int32) =>
    if v4 = 0 then
    (some y2)
    else
    ((f5_cabinAgrees S P c1 t3).bind fun (v6 : Int32) =>
    if v6 = 0 then
    (some y2)
    else
    ((f5_minuteAgrees S P c1 t3).bind fun (v8 : Int32) =>
    if v8 = 0 then
    (some y2)
    else
    ((f5_moneyAgrees S P c1 t3).bind fun (v10 : Int32) =>
    if v10 = 0 then
    (some y2)
    else
    (f5_firstWrong_2 K S P c1 n (y2 + 1))))))

def f5_firstWrong (S : TS) (P : TP) (a1 : Nat) : Option (Int32) :=
  f5_firstWrong_2 (some (-1 : Int32)) S P a1 FU (0 : Int32)
set_option maxRecDepth 20000 in
theorem hi5_firstWrong_5 : ∀ w ∈ u_ws RX5 TX5 12, w ∈ wsX5_firstWrong := by decide +kernel
set_option maxHeartbeats 4000000 in
set_option maxRecDepth 100000 in
theorem w5_firstWrong_2 {p : Program} {l : Launch} {e : Env} {s : State} {m : MethodId} {args : Array Value} {below : List Frame} {meth : Method} {c : Code} (C : MC p s m args meth c cX5_firstWrong (some .int) 4 RX5 wsX5_firstWrong) {D : va_G} {cA : Nat → ClassId} {z : Nat} {ad : Nat → Nat → Nat} {N : TN} (hK : va_K D vwCl (tysW cA) s) (hN : NW s) {M : TS} {S : TS} {P : TP} (c1 : Nat) (hc1 : c1 < N 0) {v : Int32} {K : Option (Int32)}
    (hE : ∀ (H : Heap) (locs : List Loc) (ls : Array Slot), K = some v → Wd D cA z ad N S P M H → va_S (fun q => z ≤ q) s.heap H locs → lv_has ls 4 [] → W p l e rm5_firstWrong s m args below meth c H locs 0 0 (MQ below (Qi D cA z v (ad, N, S, P, M)) args s 0 0 (fun q => z ≤ q)) (F0 m 59 ls [])) :
    ∀ (n : Nat) (y2 : Int32) (H : Heap) (locs : List Loc) (ls : Array Slot), f5_firstWrong_2 K S P c1 n y2 = some v → Wd D cA z ad N S P M H → va_S (fun q => z ≤ q) s.heap H locs → lv_has ls 4 [(0, .ref (ad 5 0)), (1, .ref (ad 0 c1)), (2, .int y2)] → W p l e rm5_firstWrong s m args below meth c H locs 0 0 (MQ below (Qi D cA z v (ad, N, S, P, M)) args s 0 0 (fun q => z ≤ q)) (F0 m 2 ls []) := by
  obtain ⟨hx, hb, hr, hml, hown, hts, hlk⟩ := id C
  intro n
  induction n with
  | zero => intro y2 H locs ls hF; cases hF
  | succ n ih =>
    intro y2 H locs ls hF hW hS hl
    rw [f5_firstWrong_2] at hF
    refine lv_iload_n hx hb dX5_firstWrong_2 rfl (lv_at hl 2 rfl) ?_
    refine lv_aload_n hx hb dX5_firstWrong_3 rfl (lv_at hl 0 rfl) ?_
    refine g5_7 hx hb hts hi5_firstWrong_5 hown hK hW (hts (.fieldLink RX5 100 RX5 "ticketCount" "I") (by decide +kernel)) dX5_firstWrong_4 ?_
    refine lv_icmp_ge (tgt := 59) hx hb dX5_firstWrong_7 (by decide) (fun hc => ?_) (fun hc => ?_)
    · replace hF := it_t hF hc
      exact hE _ _ _ hF hW hS (lv_sub hl [] rfl)
    · replace hF := it_f hF hc
      refine lv_aload_n hx hb dX5_firstWrong_10 rfl (lv_at hl 0 rfl) ?_
      refine g5_6 hx hb hts hi5_firstWrong_5 hown hK hW (hts (.fieldLink RX5 29 RX5 "tickets" "[LFerryTerminal$Ticket;") (by decide +kernel)) dX5_firstWrong_11 ?_
      refine lv_iload_n hx hb dX5_firstWrong_14 rfl (lv_at hl 2 rfl) ?_
      replace hF := ob hF
      obtain ⟨j1, ej1, hF⟩ := hF
      replace hF := lt_ex hF
      obtain ⟨r2, er2, hF⟩ := hF
      have hr2 : ∀ y, r2 = some y → y < N 4 := hW.v er2
      refine l10 hx hb hK hW ej1 er2 dX5_firstWrong_15 ?_
      refine q_astore_n (lv' := [(3, va_rf (r2.map (ad 4))), (0, .ref (ad 5 0)), (1, .ref (ad 0 c1)), (2, .int y2)]) hx hb dX5_firstWrong_16 rfl hl (by decide) rfl ?_
      clear hl; intro ls hl
      refine lv_aload_n hx hb dX5_firstWrong_17 rfl (lv_at hl 1 rfl) ?_
      refine lv_aload_n hx hb dX5_firstWrong_18 rfl (lv_at hl 2 rfl) ?_
      refine q_aload_n hx hb dX5_firstWrong_19 rfl (lv_at hl 0 rfl) ?_
      replace hF := ob hF
      obtain ⟨t3, et3, hF⟩ := hF
      subst et3
      have ht3 := hr2 t3 rfl
      replace hl : lv_has ls 4 [(3, .ref (ad 4 t3)), (0, .ref (ad 5 0)), (1, .ref (ad 0 c1)), (2, .int y2)] := hl
      replace hF := ob hF
      obtain ⟨v4, q5, hF⟩ := hF
      refine k_i (va_runV (As := [.ref (ad 0 c1), .ref (ad 4 t3)]) (rest := []) ⟨hx, hb, hml, hown, hts⟩ (c5_placeAgrees l c1 t3 hc1 ht3 q5) (cwV 2 hts gX5_firstWrong_X5_placeAgrees rfl rfl rfl (by decide +kernel) ⟨Nat.le_of_ble_eq_true rfl, Nat.le_of_ble_eq_true rfl⟩) (k_preV hW hK hN (hW.fx 5 rfl) (EE_5 cA ad S P M 0) rfl) rfl rfl hl.1 rfl (lv_room (Nat.le_of_ble_eq_true rfl)) dX5_firstWrong_20 ⟨Nat.le_of_ble_eq_true rfl, Nat.le_of_ble_eq_true rfl⟩) hS ?_
      clear hW hS; intro H locs hW hS
      refine lv_if_eq (tgt := 51) hx hb dX5_firstWrong_23 (by decide) (fun hc => ?_) (fun hc => ?_)
      · replace hF := it_t hF hc
        refine lv_iload_n hx hb dX5_firstWrong_51 rfl (lv_at hl 3 rfl) ?_
        have hq1 := Option.some.inj hF
        subst hq1
        exact e_i hx hb hr hlk hK hN hW hS dX5_firstWrong_52
      · replace hF := it_f hF hc
        refine lv_aload_n hx hb dX5_firstWrong_26 rfl (lv_at hl 1 rfl) ?_
        refine lv_aload_n hx hb dX5_firstWrong_27 rfl (lv_at hl 2 rfl) ?_
        refine lv_aload_n hx hb dX5_firstWrong_28 rfl (lv_at hl 0 rfl) ?_
        replace hF := ob hF
        obtain ⟨v6, q7, hF⟩ := hF
        refine k_i (va_runV (As := [.ref (ad 0 c1), .ref (ad 4 t3)]) (rest := []) ⟨hx, hb, hml, hown, hts⟩ (c5_cabinAgrees l c1 t3 hc1 ht3 q7) (cwV 2 hts gX5_firstWrong_X5_cabinAgrees rfl rfl rfl (by decide +kernel) ⟨Nat.le_of_ble_eq_true rfl, Nat.le_of_ble_eq_true rfl⟩) (k_preV hW hK hN (hW.fx 5 rfl) (EE_5 cA ad S P M 0) rfl) rfl rfl hl.1 rfl (lv_room (Nat.le_of_ble_eq_true rfl)) dX5_firstWrong_29 ⟨Nat.le_of_ble_eq_true rfl, Nat.le_of_ble_eq_true rfl⟩) hS ?_
        clear hW hS; intro H locs hW hS
        refine lv_if_eq (tgt := 51) hx hb dX5_firstWrong_32 (by decide) (fun hc => ?_) (fun hc => ?_)
        · replace hF := it_t hF hc
          refine lv_iload_n hx hb dX5_firstWrong_51 rfl (lv_at hl 3 rfl) ?_
          have hq1 := Option.some.inj hF
          subst hq1
          exact e_i hx hb hr hlk hK hN hW hS dX5_firstWrong_52
        · replace hF := it_f hF hc
          refine lv_aload_n hx hb dX5_firstWrong_35 rfl (lv_at hl 2 rfl) ?_
          refine lv_aload_n hx hb dX5_firstWrong_36 rfl (lv_at hl 0 rfl) ?_
          replace hF := ob hF
          obtain ⟨v8, q9, hF⟩ := hF
          refine k_i (va_runS (As := [.ref (ad 0 c1), .ref (ad 4 t3)]) (rest := []) ⟨hx, hb, hml, hown, hts⟩ (c5_minuteAgrees l c1 t3 hc1 ht3 q9) (va_cwS 2 hts gX5_firstWrong_X5_minuteAgrees rfl rfl rfl (by decide +kernel) ⟨Nat.le_of_ble_eq_true rfl, Nat.le_of_ble_eq_true rfl⟩) (k_preS hW hK hN) rfl rfl hl.1 rfl (lv_room (Nat.le_of_ble_eq_true rfl)) dX5_firstWrong_37 ⟨Nat.le_of_ble_eq_true rfl, Nat.le_of_ble_eq_true rfl⟩) hS ?_
          clear hW hS; intro H locs hW hS
          refine lv_if_eq (tgt := 51) hx hb dX5_firstWrong_40 (by decide) (fun hc => ?_) (fun hc => ?_)
          · replace hF := it_t hF hc
            refine lv_iload_n hx hb dX5_firstWrong_51 rfl (lv_at hl 3 rfl) ?_
            have hq1 := Option.some.inj hF
            subst hq1
            exact e_i hx hb hr hlk hK hN hW hS dX5_firstWrong_52
          · replace hF := it_f hF hc
            refine lv_aload_n hx hb dX5_firstWrong_43 rfl (lv_at hl 2 rfl) ?_
            refine lv_aload_n hx hb dX5_firstWrong_44 rfl (lv_at hl 0 rfl) ?_
            replace hF := ob hF
            obtain ⟨v10, q11, hF⟩ := hF
            refine k_i (va_runS (As := [.ref (ad 0 c1), .ref (ad 4 t3)]) (rest := []) ⟨hx, hb, hml, hown, hts⟩ (c5_moneyAgrees l c1 t3 hc1 ht3 q11) (va_cwS 2 hts gX5_firstWrong_X5_moneyAgrees rfl rfl rfl (by decide +kernel) ⟨Nat.le_of_ble_eq_true rfl, Nat.le_of_ble_eq_true rfl⟩) (k_preS hW hK hN) rfl rfl hl.1 rfl (lv_room (Nat.le_of_ble_eq_true rfl)) dX5_firstWrong_45 ⟨Nat.le_of_ble_eq_true rfl, Nat.le_of_ble_eq_true rfl⟩) hS ?_
            clear hW hS; intro H locs hW hS
            refine lv_if_ne (tgt := 53) hx hb dX5_firstWrong_48 (by decide) (fun hc => ?_) (fun hc => ?_)
            · replace hF := it_f hF hc
              refine lv_iinc (v := y2 + 1) (lv' := [(2, .int (y2 + 1)), (3, .ref (ad 4 t3)), (0, .ref (ad 5 0)), (1, .ref (ad 0 c1))]) hx hb dX5_firstWrong_53 hl (k := 3) rfl rfl (by decide) rfl ?_
              clear hl; intro ls hl
              refine lv_goto (tgt := 2) hx hb dX5_firstWrong_56 (by decide) ?_
              exact ih (y2 + 1) _ _ _ hF hW hS (lv_sub hl [2, 3, 0] rfl)
            · replace hF := it_t hF hc
              refine lv_iload_n hx hb dX5_firstWrong_51 rfl (lv_at hl 3 rfl) ?_
              have hq1 := Option.some.inj hF
              subst hq1
              exact e_i hx hb hr hlk hK hN hW hS dX5_firstWrong_52

set_option maxHeartbeats 4000000 in
set_option maxRecDepth 100000 in
theorem w5_firstWrong {p : Program} {l : Launch} {e : Env} {s : State} {m : MethodId} {args : Array Value} {below : List Frame} {meth : Method} {c : Code} (C : MC p s m args meth c cX5_firstWrong (some .int) 4 RX5 wsX5_firstWrong) {D : va_G} {cA : Nat → ClassId} {z : Nat} {ad : Nat → Nat → Nat} {N : TN} (hK : va_K D vwCl (tysW cA) s) (hN : NW s) {S : TS} {P : TP} {M : TS} (a1 : Nat) (ha1 : a1 < N 0) {v : Int32} (hF : f5_firstWrong S P a1 = some v)
    {H : Heap} {ls : Array Slot} (hW : Wd D cA z ad N S P M H) {locs : List Loc} (hS : va_S (fun q => z ≤ q) s.heap H locs) (hl : lv_has ls 4 [(0, .ref (ad 5 0)), (1, .ref (ad 0 a1))]) : W p l e rm5_firstWrong s m args below meth c H locs 0 0 (MQ below (Qi D cA z v (ad, N, S, P, M)) args s 0 0 (fun q => z ≤ q)) (F0 m 0 ls []) := by
  obtain ⟨hx, hb, hr, hml, hown, hts, hlk⟩ := id C
  unfold f5_firstWrong at hF
  refine lv_iconst (v := (0 : Int32)) hx hb dX5_firstWrong_0 (by decide) ?_
  refine lv_istore_n (lv' := [(2, .int (0 : Int32)), (0, .ref (ad 5 0)), (1, .ref (ad 0 a1))]) hx hb dX5_firstWrong_1 rfl hl (by decide) rfl ?_
  clear hl; intro ls hl
  refine w5_firstWrong_2 C hK hN a1 ha1 (hE := ?_) FU (0 : Int32) _ _ _ hF hW hS (lv_sub hl [1, 2, 0] rfl)
  intro  H locs ls hF hW hS hl
  refine lv_iconst (v := (-1 : Int32)) hx hb dX5_firstWrong_59 (by decide) ?_
  have hq1 := Option.some.inj hF
  subst hq1
  exact e_i hx hb hr hlk hK hN hW hS dX5_firstWrong_60

set_option maxHeartbeats 4000000 in
set_option maxRecDepth 100000 in
theorem c5_firstWrong (l : Launch) {D : va_G} {cA : Nat → ClassId} {z : Nat} {ad : Nat → Nat → Nat} {N : TN} {S : TS} {P : TP} {M : TS} (a1 : Nat) (ha1 : a1 < N 0) {v : Int32} (hF : f5_firstWrong S P a1 = some v) : Met l yX5_firstWrong wsX5_firstWrong rm5_firstWrong (va_Pc [.ref (ad 5 0), .ref (ad 0 a1)] (Wl D cA z (ad, N, S, P, M))) (Qi D cA z v (ad, N, S, P, M)) 0 0 (fun q => z ≤ q) := by
  refine Met.ofW (cc := cX5_firstWrong) (maxL := 4) (ret := (some .int)) (by decide) rfl ?_
  intro p e s m args below meth c s₁ B hml hv
  obtain ⟨rfl, hW, hK, hN⟩ := hv
  have hl := lv_entry ([.ref (ad 5 0), .ref (ad 0 a1)]) (n := 4) (Nat.le_of_ble_eq_true rfl)
  rw [lg_entry_eq]
  generalize (lg_sl ([.ref (ad 5 0), .ref (ad 0 a1)]) ++ List.replicate (4 - (lg_sl ([.ref (ad 5 0), .ref (ad 0 a1)])).length) Slot.unset).toArray = ls at hl ⊢
  exact w5_firstWrong ⟨B.exec, B.bytes, B.returns, hml, findClass_of_methodNamed B.named, atoms_spec (ws := wsX5_firstWrong) B.pre, B.notSynchronized⟩ hK hN a1 ha1 hF hW va_S.rf hl

-- 5 audit
abbrev rm5_audit : Room := { frames := 5, cells := 1, slots := 3, locals := 120 }
def f5_audit (S : TS) (P : TP) (N : TN) (a1 : Int32) (a2 : Int32) (a3 : Int32) : Option (Int32 × TS × TP × TN) :=
  if a2 = 0 then
  (lt (upN N 0) fun (N16 : TN) =>
  lt (clr S 0 (N 0)) fun (S17 : TS) =>
  lt (clrP P 0 (N 0)) fun (P18 : TP) =>
  b2 (f0_init S17 P18 (N 0) none a2 (0 : Int32)) fun (S21 : TS) (P22 : TP) =>
  (f5_firstWrong S21 P22 (N 0)).bind fun (v24 : Int32) =>
  some (v24, S21, P22, N16))
  else
  ((f5_ticketNumbered S P a1).bind fun (r1 : Option Nat) =>
  r1.elim (some ((-2 : Int32), S, P, N))
  (fun (t3 : Nat) => (f5_within a2 (4 : Int32) (11 : Int32)).bind fun (v4 : Int32) =>
  if v4 = 0 then
  (some ((-2 : Int32), S, P, N))
  else
  (lt (upN N 0) fun (N6 : TN) =>
  lt (clr S 0 (N 0)) fun (S7 : TS) =>
  lt (clrP P 0 (N 0)) fun (P8 : TP) =>
  b2 (f0_init S7 P8 (N 0) (some t3) a2 a3) fun (S11 : TS) (P12 : TP) =>
  (f5_firstWrong S11 P12 (N 0)).bind fun (v14 : Int32) =>
  some (v14, S11, P12, N6))))
set_option maxRecDepth 20000 in
theorem hi5_audit_0 : ∀ w ∈ u_ws RX0 TX0 3, w ∈ wsX5_audit := by decide +kernel
set_option maxHeartbeats 4000000 in
set_option maxRecDepth 100000 in
theorem w5_audit {p : Program} {l : Launch} {e : Env} {s : State} {m : MethodId} {args : Array Value} {below : List Frame} {meth : Method} {c : Code} (C : MC p s m args meth c cX5_audit (some .int) 5 RX5 wsX5_audit) {D : va_G} {cA : Nat → ClassId} {z : Nat} {ad : Nat → Nat → Nat} {N : TN} (hK : va_K D vwCl (tysW cA) s) (hN : NW s) {S : TS} {P : TP} {M : TS} (a1 : Int32) (a2 : Int32) (a3 : Int32) {v : Int32} {S' : TS} {P' : TP} {N' : TN} (hF : f5_audit S P N a1 a2 a3 = some (v, S', P', N'))
    {H : Heap} {ls : Array Slot} (hW : Wd D cA z ad N S P M H) {locs : List Loc} (hS : va_S (fun q => z ≤ q) s.heap H locs) (hl : lv_has ls 5 [(0, .ref (ad 5 0)), (1, .int a1), (2, .int a2), (3, .int a3)]) : W p l e rm5_audit s m args below meth c H locs 0 0 (MQ below (Qia D cA z ad N v N' S' P' M) args s 1 3 (fun q => z ≤ q)) (F0 m 0 ls []) := by
  obtain ⟨hx, hb, hr, hml, hown, hts, hlk⟩ := id C
  unfold f5_audit at hF
  refine lv_iload_n hx hb dX5_audit_0 rfl (lv_at hl 2 rfl) ?_
  refine lv_if_ne (tgt := 19) hx hb dX5_audit_1 (by decide) (fun hc => ?_) (fun hc => ?_)
  · replace hF := it_f hF hc
    refine lv_aload_n hx hb dX5_audit_19 rfl (lv_at hl 0 rfl) ?_
    refine lv_iload_n hx hb dX5_audit_20 rfl (lv_at hl 1 rfl) ?_
    replace hF := ob hF
    obtain ⟨r1, q2, hF⟩ := hF
    refine k_q (va_runV (As := [.int a1]) (rest := []) ⟨hx, hb, hml, hown, hts⟩ (c5_ticketNumbered l a1 q2) (cwV 1 hts gX5_audit_X5_ticketNumbered rfl rfl rfl (by decide +kernel) ⟨Nat.le_of_ble_eq_true rfl, Nat.le_of_ble_eq_true rfl⟩) (k_preV hW hK hN (hW.fx 5 rfl) (EE_5 cA ad S P M 0) rfl) rfl rfl hl.1 rfl (lv_room (Nat.le_of_ble_eq_true rfl)) dX5_audit_21 ⟨Nat.le_of_ble_eq_true rfl, Nat.le_of_ble_eq_true rfl⟩) hS (fun H locs hW hS hr1 => ?_)
    refine q_astore (lv' := [(4, va_rf (r1.map (ad 4))), (0, .ref (ad 5 0)), (1, .int a1), (2, .int a2), (3, .int a3)]) hx hb dX5_audit_24 hl (by decide) rfl ?_
    clear hl; intro ls hl
    refine q_aload hx hb dX5_audit_26 (lv_at hl 0 rfl) ?_
    refine q_ifnull (tgt := 41) hx hb dX5_audit_28 (by decide) (fun hc => ?_) (fun t3 hc => ?_)
    · subst hc
      replace hF := el_n hF
      replace hl : lv_has ls 5 [(4, .null), (0, .ref (ad 5 0)), (1, .int a1), (2, .int a2), (3, .int a3)] := hl
      refine lv_bipush (v := (-2 : Int32)) hx hb dX5_audit_41 (by decide) ?_
      obtain ⟨hq1, hq2⟩ := Prod.mk.inj (Option.some.inj hF)
      obtain ⟨hq2, hq3⟩ := Prod.mk.inj hq2
      obtain ⟨hq3, hq4⟩ := Prod.mk.inj hq3
      subst hq1
      subst hq2
      subst hq3
      subst hq4
      refine W.widen (k := 1) (n := 3) (by decide) (by decide) ?_
      exact e_ia hx hb hr hlk hK hN hW hS  (fun _ _ _ => rfl) (fun _ => Nat.le_refl _) dX5_audit_43
    · subst hc
      replace hF := el_s hF
      have ht3 := hr1 t3 rfl
      replace hl : lv_has ls 5 [(4, .ref (ad 4 t3)), (0, .ref (ad 5 0)), (1, .int a1), (2, .int a2), (3, .int a3)] := hl
      refine lv_iload_n hx hb dX5_audit_31 rfl (lv_at hl 3 rfl) ?_
      refine lv_iconst (v := (4 : Int32)) hx hb dX5_audit_32 (by decide) ?_
      refine lv_bipush (v := (11 : Int32)) hx hb dX5_audit_33 (by decide) ?_
      replace hF := ob hF
      obtain ⟨v4, q5, hF⟩ := hF
      refine k_i (va_runS (As := [.int a2, .int (4 : Int32), .int (11 : Int32)]) (rest := []) ⟨hx, hb, hml, hown, hts⟩ (c5_within l a2 (4 : Int32) (11 : Int32) q5) (va_cwS 3 hts gX5_audit_X5_within rfl rfl rfl (by decide +kernel) ⟨Nat.le_of_ble_eq_true rfl, Nat.le_of_ble_eq_true rfl⟩) (k_preS hW hK hN) rfl rfl hl.1 rfl (lv_room (Nat.le_of_ble_eq_true rfl)) dX5_audit_35 ⟨Nat.le_of_ble_eq_true rfl, Nat.le_of_ble_eq_true rfl⟩) hS ?_
      clear hW hS; intro H locs hW hS
      refine lv_if_ne (tgt := 44) hx hb dX5_audit_38 (by decide) (fun hc => ?_) (fun hc => ?_)
      · replace hF := it_f hF hc
        refine lv_aload_n hx hb dX5_audit_44 rfl (lv_at hl 1 rfl) ?_
        replace hF := lt_ex hF
        obtain ⟨N6, eN6, hF⟩ := hF
        replace hF := lt_ex hF
        obtain ⟨S7, eS7, hF⟩ := hF
        replace hF := lt_ex hF
        obtain ⟨P8, eP8, hF⟩ := hF
        have h0fx := hW
        refine r_new (k := 0) (fs := [.null, .int 0, .int 0]) (C := RX0) (T := TX0) (Nf := 3) hx hb hts hi5_audit_0 tyX0 tyX0_ok hown (hts (.classLink RX5 302 RX0) (by decide +kernel)) (hts (.instantiable RX0 3) (by decide +kernel)) (hts (.initialized RX0) (by decide +kernel)) hK hW hS rfl (by decide) (fun j hj => by rcases (show j = 0 ∨ j = 1 ∨ j = 2 by omega) with rfl | rfl | rfl <;> rfl) (fun ad' => by rw [EE_0]; simp [clr, clrP, va_rf]) eN6 eS7 eP8 (Nat.le_of_ble_eq_true rfl) (Nat.le_of_ble_eq_true rfl) dX5_audit_45 (fun H ad9 hgad9 hmad9 hW hS => ?_)
        have eaad9_0 : ad 5 0 = ad9 5 0 := (hgad9 _ _ (h0fx.fx 5 rfl)).symm
        have eaad9_1 : ad 4 t3 = ad9 4 t3 := (hgad9 _ _ ht3).symm
        have haad9_1 : t3 < N6 4 := Nat.lt_of_lt_of_le ht3 (hmad9 4)
        try rw [eaad9_0] at hl
        try rw [eaad9_1] at hl
        have hg_ad9 : ∀ k i, i < N k → ad9 k i = ad k i := fun k i h => (hgad9 k i (Nat.lt_of_lt_of_le h ((fun _ => Nat.le_refl _) k))).trans ((fun _ _ _ => rfl) k i h)
        have hmm_ad9 : ∀ k, N k ≤ N6 k := fun k => Nat.le_trans ((fun _ => Nat.le_refl _) k) (hmad9 k)
        have hn10 : N 0 < N6 0 := by rw [eN6]; exact upN_lt
        refine W.eq (g2 := F0 m 48 ls [.ref (ad9 0 (N 0)), .ref (ad9 5 0)]) (by first | rfl | (rw [eaad9_0]; try rfl)) ?_
        refine lv_dup hx hb dX5_audit_48 rfl ?_
        refine lv_aload hx hb dX5_audit_49 (lv_at hl 0 rfl) ?_
        refine lv_iload_n hx hb dX5_audit_51 rfl (lv_at hl 3 rfl) ?_
        refine lv_iload_n hx hb dX5_audit_52 rfl (lv_at hl 4 rfl) ?_
        replace hF := ob2 hF
        obtain ⟨S11, P12, q13, hF⟩ := hF
        refine k_v (va_runIN (b := ad9 0 (N 0)) (As := [va_rf ((some t3).map (ad9 4)), .int a2, .int a3]) (rest := [.ref (ad9 0 (N 0)), .ref (ad9 5 0)]) ⟨hx, hb, hml, hown, hts⟩ (c0_init l (N 0) (some t3) a2 a3 hn10 (q_some haad9_1) q13) ⟨va_cnB 3 hts gX5_audit_X0_init_n304 rfl rfl rfl (nm_15 hN) (hts (.initialized RX0) (by decide +kernel)) (by decide +kernel) ⟨Nat.le_of_ble_eq_true rfl, Nat.le_of_ble_eq_true rfl⟩, rfl, hts (.instanceMethod yX0_init) (by decide +kernel)⟩ (k_preS hW hK hN) rfl rfl hl.1 rfl (lv_room (Nat.le_of_ble_eq_true rfl)) dX5_audit_53 ⟨Nat.le_of_ble_eq_true rfl, Nat.le_of_ble_eq_true rfl⟩) hS ?_
        clear hW hS; intro H locs hW hS
        replace hF := ob hF
        obtain ⟨v14, q15, hF⟩ := hF
        refine k_i (va_runV (As := [.ref (ad9 0 (N 0))]) (rest := []) ⟨hx, hb, hml, hown, hts⟩ (c5_firstWrong l (N 0) hn10 q15) (cwV 1 hts gX5_audit_X5_firstWrong rfl rfl rfl (by decide +kernel) ⟨Nat.le_of_ble_eq_true rfl, Nat.le_of_ble_eq_true rfl⟩) (k_preV hW hK hN (hW.fx 5 rfl) (EE_5 cA ad9 S11 P12 M 0) rfl) rfl rfl hl.1 rfl (lv_room (Nat.le_of_ble_eq_true rfl)) dX5_audit_56 ⟨Nat.le_of_ble_eq_true rfl, Nat.le_of_ble_eq_true rfl⟩) hS ?_
        clear hW hS; intro H locs hW hS
        obtain ⟨hq1, hq2⟩ := Prod.mk.inj (Option.some.inj hF)
        obtain ⟨hq2, hq3⟩ := Prod.mk.inj hq2
        obtain ⟨hq3, hq4⟩ := Prod.mk.inj hq3
        subst hq1
        subst hq2
        subst hq3
        subst hq4
        exact e_ia hx hb hr hlk hK hN hW hS  hg_ad9 hmm_ad9 dX5_audit_59
      · replace hF := it_t hF hc
        refine lv_bipush (v := (-2 : Int32)) hx hb dX5_audit_41 (by decide) ?_
        obtain ⟨hq1, hq2⟩ := Prod.mk.inj (Option.some.inj hF)
        obtain ⟨hq2, hq3⟩ := Prod.mk.inj hq2
        obtain ⟨hq3, hq4⟩ := Prod.mk.inj hq3
        subst hq1
        subst hq2
        subst hq3
        subst hq4
        refine W.widen (k := 1) (n := 3) (by decide) (by decide) ?_
        exact e_ia hx hb hr hlk hK hN hW hS  (fun _ _ _ => rfl) (fun _ => Nat.le_refl _) dX5_audit_43
  · replace hF := it_t hF hc
    refine lv_aload_n hx hb dX5_audit_4 rfl (lv_at hl 0 rfl) ?_
    replace hF := lt_ex hF
    obtain ⟨N16, eN16, hF⟩ := hF
    replace hF := lt_ex hF
    obtain ⟨S17, eS17, hF⟩ := hF
    replace hF := lt_ex hF
    obtain ⟨P18, eP18, hF⟩ := hF
    have h0fx := hW
    refine r_new (k := 0) (fs := [.null, .int 0, .int 0]) (C := RX0) (T := TX0) (Nf := 3) hx hb hts hi5_audit_0 tyX0 tyX0_ok hown (hts (.classLink RX5 302 RX0) (by decide +kernel)) (hts (.instantiable RX0 3) (by decide +kernel)) (hts (.initialized RX0) (by decide +kernel)) hK hW hS rfl (by decide) (fun j hj => by rcases (show j = 0 ∨ j = 1 ∨ j = 2 by omega) with rfl | rfl | rfl <;> rfl) (fun ad' => by rw [EE_0]; simp [clr, clrP, va_rf]) eN16 eS17 eP18 (Nat.le_of_ble_eq_true rfl) (Nat.le_of_ble_eq_true rfl) dX5_audit_5 (fun H ad19 hgad19 hmad19 hW hS => ?_)
    have eaad19_0 : ad 5 0 = ad19 5 0 := (hgad19 _ _ (h0fx.fx 5 rfl)).symm
    try rw [eaad19_0] at hl
    have hg_ad19 : ∀ k i, i < N k → ad19 k i = ad k i := fun k i h => (hgad19 k i (Nat.lt_of_lt_of_le h ((fun _ => Nat.le_refl _) k))).trans ((fun _ _ _ => rfl) k i h)
    have hmm_ad19 : ∀ k, N k ≤ N16 k := fun k => Nat.le_trans ((fun _ => Nat.le_refl _) k) (hmad19 k)
    have hn20 : N 0 < N16 0 := by rw [eN16]; exact upN_lt
    refine W.eq (g2 := F0 m 8 ls [.ref (ad19 0 (N 0)), .ref (ad19 5 0)]) (by first | rfl | (rw [eaad19_0]; try rfl)) ?_
    refine lv_dup hx hb dX5_audit_8 rfl ?_
    refine lv_null hx hb dX5_audit_9 ?_
    refine lv_iload_n hx hb dX5_audit_10 rfl (lv_at hl 2 rfl) ?_
    refine lv_iconst (v := (0 : Int32)) hx hb dX5_audit_11 (by decide) ?_
    replace hF := ob2 hF
    obtain ⟨S21, P22, q23, hF⟩ := hF
    refine k_v (va_runIN (b := ad19 0 (N 0)) (As := [va_rf (none.map (ad19 4)), .int a2, .int (0 : Int32)]) (rest := [.ref (ad19 0 (N 0)), .ref (ad19 5 0)]) ⟨hx, hb, hml, hown, hts⟩ (c0_init l (N 0) none a2 (0 : Int32) hn20 q_none q23) ⟨va_cnB 3 hts gX5_audit_X0_init_n304 rfl rfl rfl (nm_15 hN) (hts (.initialized RX0) (by decide +kernel)) (by decide +kernel) ⟨Nat.le_of_ble_eq_true rfl, Nat.le_of_ble_eq_true rfl⟩, rfl, hts (.instanceMethod yX0_init) (by decide +kernel)⟩ (k_preS hW hK hN) rfl rfl hl.1 rfl (lv_room (Nat.le_of_ble_eq_true rfl)) dX5_audit_12 ⟨Nat.le_of_ble_eq_true rfl, Nat.le_of_ble_eq_true rfl⟩) hS ?_
    clear hW hS; intro H locs hW hS
    replace hF := ob hF
    obtain ⟨v24, q25, hF⟩ := hF
    refine k_i (va_runV (As := [.ref (ad19 0 (N 0))]) (rest := []) ⟨hx, hb, hml, hown, hts⟩ (c5_firstWrong l (N 0) hn20 q25) (cwV 1 hts gX5_audit_X5_firstWrong rfl rfl rfl (by decide +kernel) ⟨Nat.le_of_ble_eq_true rfl, Nat.le_of_ble_eq_true rfl⟩) (k_preV hW hK hN (hW.fx 5 rfl) (EE_5 cA ad19 S21 P22 M 0) rfl) rfl rfl hl.1 rfl (lv_room (Nat.le_of_ble_eq_true rfl)) dX5_audit_15 ⟨Nat.le_of_ble_eq_true rfl, Nat.le_of_ble_eq_true rfl⟩) hS ?_
    clear hW hS; intro H locs hW hS
    obtain ⟨hq1, hq2⟩ := Prod.mk.inj (Option.some.inj hF)
    obtain ⟨hq2, hq3⟩ := Prod.mk.inj hq2
    obtain ⟨hq3, hq4⟩ := Prod.mk.inj hq3
    subst hq1
    subst hq2
    subst hq3
    subst hq4
    exact e_ia hx hb hr hlk hK hN hW hS  hg_ad19 hmm_ad19 dX5_audit_18

set_option maxHeartbeats 4000000 in
set_option maxRecDepth 100000 in
theorem c5_audit (l : Launch) {D : va_G} {cA : Nat → ClassId} {z : Nat} {ad : Nat → Nat → Nat} {N : TN} {S : TS} {P : TP} {M : TS} (a1 : Int32) (a2 : Int32) (a3 : Int32) {v : Int32} {S' : TS} {P' : TP} {N' : TN} (hF : f5_audit S P N a1 a2 a3 = some (v, S', P', N')) : Met l yX5_audit wsX5_audit rm5_audit (va_Pc [.ref (ad 5 0), .int a1, .int a2, .int a3] (Wl D cA z (ad, N, S, P, M))) (Qia D cA z ad N v N' S' P' M) 1 3 (fun q => z ≤ q) := by
  refine Met.ofW (cc := cX5_audit) (maxL := 5) (ret := (some .int)) (by decide) rfl ?_
  intro p e s m args below meth c s₁ B hml hv
  obtain ⟨rfl, hW, hK, hN⟩ := hv
  have hl := lv_entry ([.ref (ad 5 0), .int a1, .int a2, .int a3]) (n := 5) (Nat.le_of_ble_eq_true rfl)
  rw [lg_entry_eq]
  generalize (lg_sl ([.ref (ad 5 0), .int a1, .int a2, .int a3]) ++ List.replicate (5 - (lg_sl ([.ref (ad 5 0), .int a1, .int a2, .int a3])).length) Slot.unset).toArray = ls at hl ⊢
  exact w5_audit ⟨B.exec, B.bytes, B.returns, hml, findClass_of_methodNamed B.named, atoms_spec (ws := wsX5_audit) B.pre, B.notSynchronized⟩ hK hN a1 a2 a3 hF hW va_S.rf hl

-- 5 sailingNumbered
abbrev rm5_sailingNumbered : Room := { frames := 1, cells := 0, slots := 0, locals := 22 }
def f5_sailingNumbered (S : TS) (P : TP) (a1 : Int32) : Option (Option Nat) :=
  (f5_within a1 (0 : Int32) ((S 505 0) - (1 : Int32))).bind fun (v1 : Int32) =>
  if v1 = 0 then
  (some none)
  else
  ((ix a1 60).bind fun (j3 : Nat) =>
  lt (P 900 0 j3) fun (r4 : Option Nat) =>
  some r4)
set_option maxRecDepth 20000 in
theorem hi5_sailingNumbered_5 : ∀ w ∈ u_ws RX5 TX5 12, w ∈ wsX5_sailingNumbered := by decide +kernel
set_option maxHeartbeats 4000000 in
set_option maxRecDepth 100000 in
theorem w5_sailingNumbered {p : Program} {l : Launch} {e : Env} {s : State} {m : MethodId} {args : Array Value} {below : List Frame} {meth : Method} {c : Code} (C : MC p s m args meth c cX5_sailingNumbered (some (.object "FerryTerminal$Sailing")) 2 RX5 wsX5_sailingNumbered) {D : va_G} {cA : Nat → ClassId} {z : Nat} {ad : Nat → Nat → Nat} {N : TN} (hK : va_K D vwCl (tysW cA) s) (hN : NW s) {S : TS} {P : TP} {M : TS} (a1 : Int32) {v : Option Nat} (hF : f5_sailingNumbered S P a1 = some v)
    {H : Heap} {ls : Array Slot} (hW : Wd D cA z ad N S P M H) {locs : List Loc} (hS : va_S (fun q => z ≤ q) s.heap H locs) (hl : lv_has ls 2 [(0, .ref (ad 5 0)), (1, .int a1)]) : W p l e rm5_sailingNumbered s m args below meth c H locs 0 0 (MQ below (Qq D cA z 2 v (ad, N, S, P, M)) args s 0 0 (fun q => z ≤ q)) (F0 m 0 ls []) := by
  obtain ⟨hx, hb, hr, hml, hown, hts, hlk⟩ := id C
  unfold f5_sailingNumbered at hF
  refine lv_iload_n hx hb dX5_sailingNumbered_0 rfl (lv_at hl 1 rfl) ?_
  refine lv_iconst (v := (0 : Int32)) hx hb dX5_sailingNumbered_1 (by decide) ?_
  refine lv_aload_n hx hb dX5_sailingNumbered_2 rfl (lv_at hl 0 rfl) ?_
  refine g5_5 hx hb hts hi5_sailingNumbered_5 hown hK hW (hts (.fieldLink RX5 65 RX5 "sailingCount" "I") (by decide +kernel)) dX5_sailingNumbered_3 ?_
  refine lv_iconst (v := (1 : Int32)) hx hb dX5_sailingNumbered_6 (by decide) ?_
  refine lv_isub hx hb dX5_sailingNumbered_7 ?_
  replace hF := ob hF
  obtain ⟨v1, q2, hF⟩ := hF
  refine k_i (va_runS (As := [.int a1, .int (0 : Int32), .int ((S 505 0) - (1 : Int32))]) (rest := []) ⟨hx, hb, hml, hown, hts⟩ (c5_within l a1 (0 : Int32) ((S 505 0) - (1 : Int32)) q2) (va_cwS 3 hts gX5_sailingNumbered_X5_within rfl rfl rfl (by decide +kernel) ⟨Nat.le_of_ble_eq_true rfl, Nat.le_of_ble_eq_true rfl⟩) (k_preS hW hK hN) rfl rfl hl.1 rfl (lv_room (Nat.le_of_ble_eq_true rfl)) dX5_sailingNumbered_8 ⟨Nat.le_of_ble_eq_true rfl, Nat.le_of_ble_eq_true rfl⟩) hS ?_
  clear hW hS; intro H locs hW hS
  refine lv_if_eq (tgt := 23) hx hb dX5_sailingNumbered_11 (by decide) (fun hc => ?_) (fun hc => ?_)
  · replace hF := it_t hF hc
    refine lv_null hx hb dX5_sailingNumbered_23 ?_
    have hq1 := Option.some.inj hF
    subst hq1
    exact e_q (v := none) hx hb hr hlk hK hN hW hS q_none dX5_sailingNumbered_24
  · replace hF := it_f hF hc
    refine lv_aload_n hx hb dX5_sailingNumbered_14 rfl (lv_at hl 0 rfl) ?_
    refine g5_4 hx hb hts hi5_sailingNumbered_5 hown hK hW (hts (.fieldLink RX5 23 RX5 "sailings" "[LFerryTerminal$Sailing;") (by decide +kernel)) dX5_sailingNumbered_15 ?_
    refine lv_iload_n hx hb dX5_sailingNumbered_18 rfl (lv_at hl 1 rfl) ?_
    replace hF := ob hF
    obtain ⟨j3, ej3, hF⟩ := hF
    replace hF := lt_ex hF
    obtain ⟨r4, er4, hF⟩ := hF
    have hr4 : ∀ y, r4 = some y → y < N 2 := hW.v er4
    refine l9 hx hb hK hW ej3 er4 dX5_sailingNumbered_19 ?_
    refine lv_goto (tgt := 24) hx hb dX5_sailingNumbered_20 (by decide) ?_
    have hq1 := Option.some.inj hF
    subst hq1
    exact e_q (v := r4) hx hb hr hlk hK hN hW hS hr4 dX5_sailingNumbered_24

set_option maxHeartbeats 4000000 in
set_option maxRecDepth 100000 in
theorem c5_sailingNumbered (l : Launch) {D : va_G} {cA : Nat → ClassId} {z : Nat} {ad : Nat → Nat → Nat} {N : TN} {S : TS} {P : TP} {M : TS} (a1 : Int32) {v : Option Nat} (hF : f5_sailingNumbered S P a1 = some v) : Met l yX5_sailingNumbered wsX5_sailingNumbered rm5_sailingNumbered (va_Pc [.ref (ad 5 0), .int a1] (Wl D cA z (ad, N, S, P, M))) (Qq D cA z 2 v (ad, N, S, P, M)) 0 0 (fun q => z ≤ q) := by
  refine Met.ofW (cc := cX5_sailingNumbered) (maxL := 2) (ret := (some (.object "FerryTerminal$Sailing"))) (by decide) rfl ?_
  intro p e s m args below meth c s₁ B hml hv
  obtain ⟨rfl, hW, hK, hN⟩ := hv
  have hl := lv_entry ([.ref (ad 5 0), .int a1]) (n := 2) (Nat.le_of_ble_eq_true rfl)
  rw [lg_entry_eq]
  generalize (lg_sl ([.ref (ad 5 0), .int a1]) ++ List.replicate (2 - (lg_sl ([.ref (ad 5 0), .int a1])).length) Slot.unset).toArray = ls at hl ⊢
  exact w5_sailingNumbered ⟨B.exec, B.bytes, B.returns, hml, findClass_of_methodNamed B.named, atoms_spec (ws := wsX5_sailingNumbered) B.pre, B.notSynchronized⟩ hK hN a1 hF hW va_S.rf hl

-- 5 fare
abbrev rm5_fare : Room := { frames := 0, cells := 0, slots := 0, locals := 0 }
def f5_fare (a0 : Int32) (a1 : Int32) (a2 : Int32) (a3 : Int32) : Option (Int32) :=
  some (((((((500 : Int32) + ((3 : Int32) * a0)) + ((700 : Int32) * a1)) + ((1500 : Int32) * a2)) * ((100 : Int32) + ((5 : Int32) * a3))) + (50 : Int32)) / (100 : Int32))
set_option maxHeartbeats 4000000 in
set_option maxRecDepth 100000 in
theorem w5_fare {p : Program} {l : Launch} {e : Env} {s : State} {m : MethodId} {args : Array Value} {below : List Frame} {meth : Method} {c : Code} (C : MC p s m args meth c cX5_fare (some .int) 5 RX5 wsX5_fare) {D : va_G} {cA : Nat → ClassId} {z : Nat} {ad : Nat → Nat → Nat} {N : TN} (hK : va_K D vwCl (tysW cA) s) (hN : NW s) {S : TS} {P : TP} {M : TS} (a0 : Int32) (a1 : Int32) (a2 : Int32) (a3 : Int32) {v : Int32} (hF : f5_fare a0 a1 a2 a3 = some v)
    {H : Heap} {ls : Array Slot} (hW : Wd D cA z ad N S P M H) {locs : List Loc} (hS : va_S (fun q => z ≤ q) s.heap H locs) (hl : lv_has ls 5 [(0, .int a0), (1, .int a1), (2, .int a2), (3, .int a3)]) : W p l e rm5_fare s m args below meth c H locs 0 0 (MQ below (Qi D cA z v (ad, N, S, P, M)) args s 0 0 (fun q => z ≤ q)) (F0 m 0 ls []) := by
  obtain ⟨hx, hb, hr, hml, hown, hts, hlk⟩ := id C
  unfold f5_fare at hF
  refine lv_sipush (v := (500 : Int32)) hx hb dX5_fare_0 (by decide) ?_
  refine lv_iconst (v := (3 : Int32)) hx hb dX5_fare_3 (by decide) ?_
  refine lv_iload_n hx hb dX5_fare_4 rfl (lv_at hl 0 rfl) ?_
  refine lv_imul hx hb dX5_fare_5 ?_
  refine lv_iadd hx hb dX5_fare_6 ?_
  refine lv_sipush (v := (700 : Int32)) hx hb dX5_fare_7 (by decide) ?_
  refine lv_iload_n hx hb dX5_fare_10 rfl (lv_at hl 1 rfl) ?_
  refine lv_imul hx hb dX5_fare_11 ?_
  refine lv_iadd hx hb dX5_fare_12 ?_
  refine lv_sipush (v := (1500 : Int32)) hx hb dX5_fare_13 (by decide) ?_
  refine lv_iload_n hx hb dX5_fare_16 rfl (lv_at hl 2 rfl) ?_
  refine lv_imul hx hb dX5_fare_17 ?_
  refine lv_iadd hx hb dX5_fare_18 ?_
  refine lv_istore (lv' := [(4, .int ((((500 : Int32) + ((3 : Int32) * a0)) + ((700 : Int32) * a1)) + ((1500 : Int32) * a2))), (0, .int a0), (1, .int a1), (2, .int a2), (3, .int a3)]) hx hb dX5_fare_19 hl (by decide) rfl ?_
  clear hl; intro ls hl
  refine lv_iload hx hb dX5_fare_21 (lv_at hl 0 rfl) ?_
  refine lv_bipush (v := (100 : Int32)) hx hb dX5_fare_23 (by decide) ?_
  refine lv_iconst (v := (5 : Int32)) hx hb dX5_fare_25 (by decide) ?_
  refine lv_iload_n hx hb dX5_fare_26 rfl (lv_at hl 4 rfl) ?_
  refine lv_imul hx hb dX5_fare_27 ?_
  refine lv_iadd hx hb dX5_fare_28 ?_
  refine lv_imul hx hb dX5_fare_29 ?_
  refine lv_bipush (v := (50 : Int32)) hx hb dX5_fare_30 (by decide) ?_
  refine lv_iadd hx hb dX5_fare_32 ?_
  refine lv_bipush (v := (100 : Int32)) hx hb dX5_fare_33 (by decide) ?_
  refine lv_idiv hx hb dX5_fare_35 (by decide) ?_
  have hq1 := Option.some.inj hF
  subst hq1
  exact e_i hx hb hr hlk hK hN hW hS dX5_fare_36

set_option maxHeartbeats 4000000 in
set_option maxRecDepth 100000 in
theorem c5_fare (l : Launch) {D : va_G} {cA : Nat → ClassId} {z : Nat} {ad : Nat → Nat → Nat} {N : TN} {S : TS} {P : TP} {M : TS} (a0 : Int32) (a1 : Int32) (a2 : Int32) (a3 : Int32) {v : Int32} (hF : f5_fare a0 a1 a2 a3 = some v) : Met l yX5_fare wsX5_fare rm5_fare (va_Pc [.int a0, .int a1, .int a2, .int a3] (Wl D cA z (ad, N, S, P, M))) (Qi D cA z v (ad, N, S, P, M)) 0 0 (fun q => z ≤ q) := by
  refine Met.ofW (cc := cX5_fare) (maxL := 5) (ret := (some .int)) (by decide) rfl ?_
  intro p e s m args below meth c s₁ B hml hv
  obtain ⟨rfl, hW, hK, hN⟩ := hv
  have hl := lv_entry ([.int a0, .int a1, .int a2, .int a3]) (n := 5) (Nat.le_of_ble_eq_true rfl)
  rw [lg_entry_eq]
  generalize (lg_sl ([.int a0, .int a1, .int a2, .int a3]) ++ List.replicate (5 - (lg_sl ([.int a0, .int a1, .int a2, .int a3])).length) Slot.unset).toArray = ls at hl ⊢
  exact w5_fare ⟨B.exec, B.bytes, B.returns, hml, findClass_of_methodNamed B.named, atoms_spec (ws := wsX5_fare) B.pre, B.notSynchronized⟩ hK hN a0 a1 a2 a3 hF hW va_S.rf hl

-- 5 book
abbrev rm5_book : Room := { frames := 2, cells := 1, slots := 16, locals := 46 }
def f5_book (S : TS) (P : TP) (N : TN) (a1 : Int32) (a2 : Int32) (a3 : Int32) (a4 : Int32) : Option (Int32 × TS × TP × TN) :=
  (f5_sailingNumbered S P a1).bind fun (r1 : Option Nat) =>
  r1.elim (some ((-1 : Int32), S, P, N))
  (fun (t3 : Nat) => (f2_takesTickets S P t3).bind fun (v4 : Int32) =>
  if v4 = 0 then
  (some ((-1 : Int32), S, P, N))
  else
  (if (S 507 0) < (400 : Int32) then
  ((f5_within a2 (20 : Int32) (250 : Int32)).bind fun (v6 : Int32) =>
  if v6 = 0 then
  (some ((-1 : Int32), S, P, N))
  else
  ((f5_within a3 (0 : Int32) (2 : Int32)).bind fun (v8 : Int32) =>
  if v8 = 0 then
  (some ((-1 : Int32), S, P, N))
  else
  ((f5_within a4 (0 : Int32) (6 : Int32)).bind fun (v10 : Int32) =>
  if v10 = 0 then
  (some ((-1 : Int32), S, P, N))
  else
  (lt (P 201 t3 0) fun (r12 : Option Nat) =>
  r12.bind fun (t13 : Nat) =>
  if a2 ≤ (S 303 t13) then
  ((f5_fare a2 a3 a4 (S 203 t3)).bind fun (v14 : Int32) =>
  lt (upN N 4) fun (N16 : TN) =>
  lt (clr S 4 (N 4)) fun (S17 : TS) =>
  lt (clrP P 4 (N 4)) fun (P18 : TP) =>
  b2 (f4_init S17 P18 (N 4) (S17 507 0) t3 a2 a3 a4 v14) fun (S21 : TS) (P22 : TP) =>
  (ix (S 507 0) 400).bind fun (j24 : Nat) =>
  lt (up3 P22 1000 0 j24 (some (N 4))) fun (P25 : TP) =>
  lt (up S21 507 0 ((S21 507 0) + (1 : Int32))) fun (S26 : TS) =>
  some ((S21 507 0), S26, P25, N16))
  else
  (some ((-1 : Int32), S, P, N))))))
  else
  (some ((-1 : Int32), S, P, N))))
set_option maxRecDepth 20000 in
theorem hi5_book_2 : ∀ w ∈ u_ws RX2 TX2 9, w ∈ wsX5_book := by decide +kernel
set_option maxRecDepth 20000 in
theorem hi5_book_3 : ∀ w ∈ u_ws RX3 TX3 8, w ∈ wsX5_book := by decide +kernel
set_option maxRecDepth 20000 in
theorem hi5_book_4 : ∀ w ∈ u_ws RX4 TX4 16, w ∈ wsX5_book := by decide +kernel
set_option maxRecDepth 20000 in
theorem hi5_book_5 : ∀ w ∈ u_ws RX5 TX5 12, w ∈ wsX5_book := by decide +kernel
set_option maxHeartbeats 4000000 in
set_option maxRecDepth 100000 in
theorem w5_book {p : Program} {l : Launch} {e : Env} {s : State} {m : MethodId} {args : Array Value} {below : List Frame} {meth : Method} {c : Code} (C : MC p s m args meth c cX5_book (some .int) 7 RX5 wsX5_book) {D : va_G} {cA : Nat → ClassId} {z : Nat} {ad : Nat → Nat → Nat} {N : TN} (hK : va_K D vwCl (tysW cA) s) (hN : NW s) {S : TS} {P : TP} {M : TS} (a1 : Int32) (a2 : Int32) (a3 : Int32) (a4 : Int32) {v : Int32} {S' : TS} {P' : TP} {N' : TN} (hF : f5_book S P N a1 a2 a3 a4 = some (v, S', P', N'))
    {H : Heap} {ls : Array Slot} (hW : Wd D cA z ad N S P M H) {locs : List Loc} (hS : va_S (fun q => z ≤ q) s.heap H locs) (hl : lv_has ls 7 [(0, .ref (ad 5 0)), (1, .int a1), (2, .int a2), (3, .int a3), (4, .int a4)]) : W p l e rm5_book s m args below meth c H locs 0 0 (MQ below (Qia D cA z ad N v N' S' P' M) args s 1 16 (fun q => z ≤ q)) (F0 m 0 ls []) := by
  obtain ⟨hx, hb, hr, hml, hown, hts, hlk⟩ := id C
  unfold f5_book at hF
  refine lv_aload_n hx hb dX5_book_0 rfl (lv_at hl 0 rfl) ?_
  refine lv_iload_n hx hb dX5_book_1 rfl (lv_at hl 1 rfl) ?_
  replace hF := ob hF
  obtain ⟨r1, q2, hF⟩ := hF
  refine k_q (va_runV (As := [.int a1]) (rest := []) ⟨hx, hb, hml, hown, hts⟩ (c5_sailingNumbered l a1 q2) (cwV 1 hts gX5_book_X5_sailingNumbered rfl rfl rfl (by decide +kernel) ⟨Nat.le_of_ble_eq_true rfl, Nat.le_of_ble_eq_true rfl⟩) (k_preV hW hK hN (hW.fx 5 rfl) (EE_5 cA ad S P M 0) rfl) rfl rfl hl.1 rfl (lv_room (Nat.le_of_ble_eq_true rfl)) dX5_book_2 ⟨Nat.le_of_ble_eq_true rfl, Nat.le_of_ble_eq_true rfl⟩) hS (fun H locs hW hS hr1 => ?_)
  refine q_astore (lv' := [(5, va_rf (r1.map (ad 2))), (0, .ref (ad 5 0)), (1, .int a1), (2, .int a2), (3, .int a3), (4, .int a4)]) hx hb dX5_book_5 hl (by decide) rfl ?_
  clear hl; intro ls hl
  refine q_aload hx hb dX5_book_7 (lv_at hl 0 rfl) ?_
  refine q_ifnull (tgt := 32) hx hb dX5_book_9 (by decide) (fun hc => ?_) (fun t3 hc => ?_)
  · subst hc
    replace hF := el_n hF
    replace hl : lv_has ls 7 [(5, .null), (0, .ref (ad 5 0)), (1, .int a1), (2, .int a2), (3, .int a3), (4, .int a4)] := hl
    refine lv_iconst (v := (-1 : Int32)) hx hb dX5_book_32 (by decide) ?_
    obtain ⟨hq1, hq2⟩ := Prod.mk.inj (Option.some.inj hF)
    obtain ⟨hq2, hq3⟩ := Prod.mk.inj hq2
    obtain ⟨hq3, hq4⟩ := Prod.mk.inj hq3
    subst hq1
    subst hq2
    subst hq3
    subst hq4
    refine W.widen (k := 1) (n := 16) (by decide) (by decide) ?_
    exact e_ia hx hb hr hlk hK hN hW hS  (fun _ _ _ => rfl) (fun _ => Nat.le_refl _) dX5_book_33
  · subst hc
    replace hF := el_s hF
    have ht3 := hr1 t3 rfl
    replace hl : lv_has ls 7 [(5, .ref (ad 2 t3)), (0, .ref (ad 5 0)), (1, .int a1), (2, .int a2), (3, .int a3), (4, .int a4)] := hl
    refine lv_aload hx hb dX5_book_12 (lv_at hl 0 rfl) ?_
    replace hF := ob hF
    obtain ⟨v4, q5, hF⟩ := hF
    refine k_i (va_runVN (C := RX2) (As := []) (rest := []) ⟨hx, hb, hml, hown, hts⟩ (c2_takesTickets l t3 ht3 q5) ⟨va_cnB 0 hts gX5_book_X2_takesTickets_n96 rfl rfl rfl (nm_3 hN) (hts (.initialized RX2) (by decide +kernel)) (by decide +kernel) ⟨Nat.le_of_ble_eq_true rfl, Nat.le_of_ble_eq_true rfl⟩, hts (.instanceMethod yX2_takesTickets) (by decide +kernel), hts (.selects RX2 yX2_takesTickets yX2_takesTickets) (by decide +kernel)⟩ (k_preV hW hK hN ht3 (EE_2 cA ad S P M t3) rfl) rfl rfl hl.1 rfl (lv_room (Nat.le_of_ble_eq_true rfl)) dX5_book_14 ⟨Nat.le_of_ble_eq_true rfl, Nat.le_of_ble_eq_true rfl⟩) hS ?_
    clear hW hS; intro H locs hW hS
    refine lv_if_eq (tgt := 32) hx hb dX5_book_17 (by decide) (fun hc => ?_) (fun hc => ?_)
    · replace hF := it_t hF hc
      refine lv_iconst (v := (-1 : Int32)) hx hb dX5_book_32 (by decide) ?_
      obtain ⟨hq1, hq2⟩ := Prod.mk.inj (Option.some.inj hF)
      obtain ⟨hq2, hq3⟩ := Prod.mk.inj hq2
      obtain ⟨hq3, hq4⟩ := Prod.mk.inj hq3
      subst hq1
      subst hq2
      subst hq3
      subst hq4
      refine W.widen (k := 1) (n := 16) (by decide) (by decide) ?_
      exact e_ia hx hb hr hlk hK hN hW hS  (fun _ _ _ => rfl) (fun _ => Nat.le_refl _) dX5_book_33
    · replace hF := it_f hF hc
      refine lv_aload_n hx hb dX5_book_20 rfl (lv_at hl 1 rfl) ?_
      refine g5_7 hx hb hts hi5_book_5 hown hK hW (hts (.fieldLink RX5 100 RX5 "ticketCount" "I") (by decide +kernel)) dX5_book_21 ?_
      refine lv_aload_n hx hb dX5_book_24 rfl (lv_at hl 1 rfl) ?_
      refine g5_6 hx hb hts hi5_book_5 hown hK hW (hts (.fieldLink RX5 29 RX5 "tickets" "[LFerryTerminal$Ticket;") (by decide +kernel)) dX5_book_25 ?_
      refine n10 hx hb hK hW dX5_book_28 ?_
      refine lv_icmp_lt (tgt := 34) hx hb dX5_book_29 (by decide) (fun hc => ?_) (fun hc => ?_)
      · replace hF := it_t hF hc
        refine lv_iload_n hx hb dX5_book_34 rfl (lv_at hl 3 rfl) ?_
        refine lv_bipush (v := (20 : Int32)) hx hb dX5_book_35 (by decide) ?_
        refine lv_sipush (v := (250 : Int32)) hx hb dX5_book_37 (by decide) ?_
        replace hF := ob hF
        obtain ⟨v6, q7, hF⟩ := hF
        refine k_i (va_runS (As := [.int a2, .int (20 : Int32), .int (250 : Int32)]) (rest := []) ⟨hx, hb, hml, hown, hts⟩ (c5_within l a2 (20 : Int32) (250 : Int32) q7) (va_cwS 3 hts gX5_book_X5_within rfl rfl rfl (by decide +kernel) ⟨Nat.le_of_ble_eq_true rfl, Nat.le_of_ble_eq_true rfl⟩) (k_preS hW hK hN) rfl rfl hl.1 rfl (lv_room (Nat.le_of_ble_eq_true rfl)) dX5_book_40 ⟨Nat.le_of_ble_eq_true rfl, Nat.le_of_ble_eq_true rfl⟩) hS ?_
        clear hW hS; intro H locs hW hS
        refine lv_if_eq (tgt := 78) hx hb dX5_book_43 (by decide) (fun hc => ?_) (fun hc => ?_)
        · replace hF := it_t hF hc
          refine lv_iconst (v := (-1 : Int32)) hx hb dX5_book_78 (by decide) ?_
          obtain ⟨hq1, hq2⟩ := Prod.mk.inj (Option.some.inj hF)
          obtain ⟨hq2, hq3⟩ := Prod.mk.inj hq2
          obtain ⟨hq3, hq4⟩ := Prod.mk.inj hq3
          subst hq1
          subst hq2
          subst hq3
          subst hq4
          refine W.widen (k := 1) (n := 16) (by decide) (by decide) ?_
          exact e_ia hx hb hr hlk hK hN hW hS  (fun _ _ _ => rfl) (fun _ => Nat.le_refl _) dX5_book_79
        · replace hF := it_f hF hc
          refine lv_iload_n hx hb dX5_book_46 rfl (lv_at hl 4 rfl) ?_
          refine lv_iconst (v := (0 : Int32)) hx hb dX5_book_47 (by decide) ?_
          refine lv_iconst (v := (2 : Int32)) hx hb dX5_book_48 (by decide) ?_
          replace hF := ob hF
          obtain ⟨v8, q9, hF⟩ := hF
          refine k_i (va_runS (As := [.int a3, .int (0 : Int32), .int (2 : Int32)]) (rest := []) ⟨hx, hb, hml, hown, hts⟩ (c5_within l a3 (0 : Int32) (2 : Int32) q9) (va_cwS 3 hts gX5_book_X5_within rfl rfl rfl (by decide +kernel) ⟨Nat.le_of_ble_eq_true rfl, Nat.le_of_ble_eq_true rfl⟩) (k_preS hW hK hN) rfl rfl hl.1 rfl (lv_room (Nat.le_of_ble_eq_true rfl)) dX5_book_49 ⟨Nat.le_of_ble_eq_true rfl, Nat.le_of_ble_eq_true rfl⟩) hS ?_
          clear hW hS; intro H locs hW hS
          refine lv_if_eq (tgt := 78) hx hb dX5_book_52 (by decide) (fun hc => ?_) (fun hc => ?_)
          · replace hF := it_t hF hc
            refine lv_iconst (v := (-1 : Int32)) hx hb dX5_book_78 (by decide) ?_
            obtain ⟨hq1, hq2⟩ := Prod.mk.inj (Option.some.inj hF)
            obtain ⟨hq2, hq3⟩ := Prod.mk.inj hq2
            obtain ⟨hq3, hq4⟩ := Prod.mk.inj hq3
            subst hq1
            subst hq2
            subst hq3
            subst hq4
            refine W.widen (k := 1) (n := 16) (by decide) (by decide) ?_
            exact e_ia hx hb hr hlk hK hN hW hS  (fun _ _ _ => rfl) (fun _ => Nat.le_refl _) dX5_book_79
          · replace hF := it_f hF hc
            refine lv_iload hx hb dX5_book_55 (lv_at hl 5 rfl) ?_
            refine lv_iconst (v := (0 : Int32)) hx hb dX5_book_57 (by decide) ?_
            refine lv_bipush (v := (6 : Int32)) hx hb dX5_book_58 (by decide) ?_
            replace hF := ob hF
            obtain ⟨v10, q11, hF⟩ := hF
            refine k_i (va_runS (As := [.int a4, .int (0 : Int32), .int (6 : Int32)]) (rest := []) ⟨hx, hb, hml, hown, hts⟩ (c5_within l a4 (0 : Int32) (6 : Int32) q11) (va_cwS 3 hts gX5_book_X5_within rfl rfl rfl (by decide +kernel) ⟨Nat.le_of_ble_eq_true rfl, Nat.le_of_ble_eq_true rfl⟩) (k_preS hW hK hN) rfl rfl hl.1 rfl (lv_room (Nat.le_of_ble_eq_true rfl)) dX5_book_60 ⟨Nat.le_of_ble_eq_true rfl, Nat.le_of_ble_eq_true rfl⟩) hS ?_
            clear hW hS; intro H locs hW hS
            refine lv_if_eq (tgt := 78) hx hb dX5_book_63 (by decide) (fun hc => ?_) (fun hc => ?_)
            · replace hF := it_t hF hc
              refine lv_iconst (v := (-1 : Int32)) hx hb dX5_book_78 (by decide) ?_
              obtain ⟨hq1, hq2⟩ := Prod.mk.inj (Option.some.inj hF)
              obtain ⟨hq2, hq3⟩ := Prod.mk.inj hq2
              obtain ⟨hq3, hq4⟩ := Prod.mk.inj hq3
              subst hq1
              subst hq2
              subst hq3
              subst hq4
              refine W.widen (k := 1) (n := 16) (by decide) (by decide) ?_
              exact e_ia hx hb hr hlk hK hN hW hS  (fun _ _ _ => rfl) (fun _ => Nat.le_refl _) dX5_book_79
            · replace hF := it_f hF hc
              refine lv_aload hx hb dX5_book_66 (lv_at hl 0 rfl) ?_
              replace hF := lt_ex hF
              obtain ⟨r12, er12, hF⟩ := hF
              have hr12 : ∀ y, r12 = some y → y < N 3 := hW.v er12
              refine gn2_1 hx hb hts hi5_book_2 hown hK hW ht3 er12 (nf_12 hN) dX5_book_68 ?_
              replace hF := ob hF
              obtain ⟨t13, et13, hF⟩ := hF
              subst et13
              have ht13 := hr12 t13 rfl
              refine gn3_3 hx hb hts hi5_book_3 hown hK hW ht13 (nf_3 hN) dX5_book_71 ?_
              refine lv_iload_n hx hb dX5_book_74 rfl (lv_at hl 3 rfl) ?_
              refine lv_icmp_ge (tgt := 80) hx hb dX5_book_75 (by decide) (fun hc => ?_) (fun hc => ?_)
              · replace hF := it_t hF hc
                refine lv_iload_n hx hb dX5_book_80 rfl (lv_at hl 3 rfl) ?_
                refine lv_iload_n hx hb dX5_book_81 rfl (lv_at hl 4 rfl) ?_
                refine lv_iload hx hb dX5_book_82 (lv_at hl 5 rfl) ?_
                refine lv_aload hx hb dX5_book_84 (lv_at hl 0 rfl) ?_
                refine gn2_3 hx hb hts hi5_book_2 hown hK hW ht3 (nf_15 hN) dX5_book_86 ?_
                replace hF := ob hF
                obtain ⟨v14, q15, hF⟩ := hF
                refine k_i (va_runS (As := [.int a2, .int a3, .int a4, .int (S 203 t3)]) (rest := []) ⟨hx, hb, hml, hown, hts⟩ (c5_fare l a2 a3 a4 (S 203 t3) q15) (va_cwS 4 hts gX5_book_X5_fare rfl rfl rfl (by decide +kernel) ⟨Nat.le_of_ble_eq_true rfl, Nat.le_of_ble_eq_true rfl⟩) (k_preS hW hK hN) rfl rfl hl.1 rfl (lv_room (Nat.le_of_ble_eq_true rfl)) dX5_book_89 ⟨Nat.le_of_ble_eq_true rfl, Nat.le_of_ble_eq_true rfl⟩) hS ?_
                clear hW hS; intro H locs hW hS
                refine lv_istore (lv' := [(6, .int v14), (5, .ref (ad 2 t3)), (0, .ref (ad 5 0)), (1, .int a1), (2, .int a2), (3, .int a3), (4, .int a4)]) hx hb dX5_book_92 hl (by decide) rfl ?_
                clear hl; intro ls hl
                refine lv_aload_n hx hb dX5_book_94 rfl (lv_at hl 2 rfl) ?_
                refine g5_6 hx hb hts hi5_book_5 hown hK hW (hts (.fieldLink RX5 29 RX5 "tickets" "[LFerryTerminal$Ticket;") (by decide +kernel)) dX5_book_95 ?_
                refine lv_aload_n hx hb dX5_book_98 rfl (lv_at hl 2 rfl) ?_
                refine g5_7 hx hb hts hi5_book_5 hown hK hW (hts (.fieldLink RX5 100 RX5 "ticketCount" "I") (by decide +kernel)) dX5_book_99 ?_
                replace hF := lt_ex hF
                obtain ⟨N16, eN16, hF⟩ := hF
                replace hF := lt_ex hF
                obtain ⟨S17, eS17, hF⟩ := hF
                replace hF := lt_ex hF
                obtain ⟨P18, eP18, hF⟩ := hF
                have h0fx := hW
                refine r_new (k := 4) (fs := [.int 0, .null, .int 0, .int 0, .int 0, .int 0, .int 0, .int 0, .int 0, .int 0, .int 0, .int 0, .int 0, .int 0, .int 0, .null]) (C := RX4) (T := TX4) (Nf := 16) hx hb hts hi5_book_4 tyX4 tyX4_ok hown (hts (.classLink RX5 27 RX4) (by decide +kernel)) (hts (.instantiable RX4 16) (by decide +kernel)) (hts (.initialized RX4) (by decide +kernel)) hK hW hS rfl (by decide) (fun j hj => by rcases (show j = 0 ∨ j = 1 ∨ j = 2 ∨ j = 3 ∨ j = 4 ∨ j = 5 ∨ j = 6 ∨ j = 7 ∨ j = 8 ∨ j = 9 ∨ j = 10 ∨ j = 11 ∨ j = 12 ∨ j = 13 ∨ j = 14 ∨ j = 15 by omega) with rfl | rfl | rfl | rfl | rfl | rfl | rfl | rfl | rfl | rfl | rfl | rfl | rfl | rfl | rfl | rfl <;> rfl) (fun ad' => by rw [EE_4]; simp [clr, clrP, va_rf]) eN16 eS17 eP18 (Nat.le_of_ble_eq_true rfl) (Nat.le_of_ble_eq_true rfl) dX5_book_102 (fun H ad19 hgad19 hmad19 hW hS => ?_)
                have eaad19_0 : ad 10 0 = ad19 10 0 := (hgad19 _ _ (h0fx.fx 10 rfl)).symm
                have eaad19_1 : ad 2 t3 = ad19 2 t3 := (hgad19 _ _ ht3).symm
                have haad19_1 : t3 < N16 2 := Nat.lt_of_lt_of_le ht3 (hmad19 2)
                have eaad19_2 : ad 5 0 = ad19 5 0 := (hgad19 _ _ (h0fx.fx 5 rfl)).symm
                try rw [eaad19_0] at hl
                try rw [eaad19_1] at hl
                try rw [eaad19_2] at hl
                have hg_ad19 : ∀ k i, i < N k → ad19 k i = ad k i := fun k i h => (hgad19 k i (Nat.lt_of_lt_of_le h ((fun _ => Nat.le_refl _) k))).trans ((fun _ _ _ => rfl) k i h)
                have hmm_ad19 : ∀ k, N k ≤ N16 k := fun k => Nat.le_trans ((fun _ => Nat.le_refl _) k) (hmad19 k)
                have hn20 : N 4 < N16 4 := by rw [eN16]; exact upN_lt
                refine W.eq (g2 := F0 m 105 ls [.ref (ad19 4 (N 4)), .int (S 507 0), .ref (ad19 10 0)]) (by first | rfl | (rw [eaad19_0]; try rfl)) ?_
                refine lv_dup hx hb dX5_book_105 rfl ?_
                refine lv_aload_n hx hb dX5_book_106 rfl (lv_at hl 2 rfl) ?_
                refine g5_7 hx hb hts hi5_book_5 hown hK hW (hts (.fieldLink RX5 100 RX5 "ticketCount" "I") (by decide +kernel)) dX5_book_107 ?_
                refine lv_aload hx hb dX5_book_110 (lv_at hl 1 rfl) ?_
                refine lv_iload_n hx hb dX5_book_112 rfl (lv_at hl 4 rfl) ?_
                refine lv_iload_n hx hb dX5_book_113 rfl (lv_at hl 5 rfl) ?_
                refine lv_iload hx hb dX5_book_114 (lv_at hl 6 rfl) ?_
                refine lv_iload hx hb dX5_book_116 (lv_at hl 0 rfl) ?_
                replace hF := ob2 hF
                obtain ⟨S21, P22, q23, hF⟩ := hF
                refine k_v (va_runIN (b := ad19 4 (N 4)) (As := [.int (S17 507 0), .ref (ad19 2 t3), .int a2, .int a3, .int a4, .int v14]) (rest := [.ref (ad19 4 (N 4)), .int (S 507 0), .ref (ad19 10 0)]) ⟨hx, hb, hml, hown, hts⟩ (c4_init l (N 4) (S17 507 0) t3 a2 a3 a4 v14 hn20 haad19_1 q23) ⟨va_cnB 6 hts gX5_book_X4_init_n113 rfl rfl rfl (nm_4 hN) (hts (.initialized RX4) (by decide +kernel)) (by decide +kernel) ⟨Nat.le_of_ble_eq_true rfl, Nat.le_of_ble_eq_true rfl⟩, rfl, hts (.instanceMethod yX4_init) (by decide +kernel)⟩ (k_preS hW hK hN) rfl rfl hl.1 rfl (lv_room (Nat.le_of_ble_eq_true rfl)) dX5_book_118 ⟨Nat.le_of_ble_eq_true rfl, Nat.le_of_ble_eq_true rfl⟩) hS ?_
                clear hW hS; intro H locs hW hS
                replace hF := ob hF
                obtain ⟨j24, ej24, hF⟩ := hF
                replace hF := lt_ex hF
                obtain ⟨P25, eP25, hF⟩ := hF
                refine t10 (r := (some (N 4))) hx hb hK hW hS ej24 (q_some hn20) eP25 dX5_book_121 ?_
                clear hW hS; intro H locs hW hS
                refine lv_aload_n hx hb dX5_book_122 rfl (lv_at hl 2 rfl) ?_
                refine lv_dup hx hb dX5_book_123 rfl ?_
                refine g5_7 hx hb hts hi5_book_5 hown hK hW (hts (.fieldLink RX5 100 RX5 "ticketCount" "I") (by decide +kernel)) dX5_book_124 ?_
                refine lv_dup_x1 hx hb dX5_book_127 rfl rfl ?_
                refine lv_iconst (v := (1 : Int32)) hx hb dX5_book_128 (by decide) ?_
                refine lv_iadd hx hb dX5_book_129 ?_
                replace hF := lt_ex hF
                obtain ⟨S26, eS26, hF⟩ := hF
                refine p5_7 hx hb hts hi5_book_5 hown hK hW hS eS26 (hts (.fieldLink RX5 100 RX5 "ticketCount" "I") (by decide +kernel)) dX5_book_130 ?_
                clear hW hS; intro H locs hW hS
                obtain ⟨hq1, hq2⟩ := Prod.mk.inj (Option.some.inj hF)
                obtain ⟨hq2, hq3⟩ := Prod.mk.inj hq2
                obtain ⟨hq3, hq4⟩ := Prod.mk.inj hq3
                subst hq1
                subst hq2
                subst hq3
                subst hq4
                exact e_ia hx hb hr hlk hK hN hW hS  hg_ad19 hmm_ad19 dX5_book_133
              · replace hF := it_f hF hc
                refine lv_iconst (v := (-1 : Int32)) hx hb dX5_book_78 (by decide) ?_
                obtain ⟨hq1, hq2⟩ := Prod.mk.inj (Option.some.inj hF)
                obtain ⟨hq2, hq3⟩ := Prod.mk.inj hq2
                obtain ⟨hq3, hq4⟩ := Prod.mk.inj hq3
                subst hq1
                subst hq2
                subst hq3
                subst hq4
                refine W.widen (k := 1) (n := 16) (by decide) (by decide) ?_
                exact e_ia hx hb hr hlk hK hN hW hS  (fun _ _ _ => rfl) (fun _ => Nat.le_refl _) dX5_book_79
      · replace hF := it_f hF hc
        refine lv_iconst (v := (-1 : Int32)) hx hb dX5_book_32 (by decide) ?_
        obtain ⟨hq1, hq2⟩ := Prod.mk.inj (Option.some.inj hF)
        obtain ⟨hq2, hq3⟩ := Prod.mk.inj hq2
        obtain ⟨hq3, hq4⟩ := Prod.mk.inj hq3
        subst hq1
        subst hq2
        subst hq3
        subst hq4
        refine W.widen (k := 1) (n := 16) (by decide) (by decide) ?_
        exact e_ia hx hb hr hlk hK hN hW hS  (fun _ _ _ => rfl) (fun _ => Nat.le_refl _) dX5_book_33

set_option maxHeartbeats 4000000 in
set_option maxRecDepth 100000 in
theorem c5_book (l : Launch) {D : va_G} {cA : Nat → ClassId} {z : Nat} {ad : Nat → Nat → Nat} {N : TN} {S : TS} {P : TP} {M : TS} (a1 : Int32) (a2 : Int32) (a3 : Int32) (a4 : Int32) {v : Int32} {S' : TS} {P' : TP} {N' : TN} (hF : f5_book S P N a1 a2 a3 a4 = some (v, S', P', N')) : Met l yX5_book wsX5_book rm5_book (va_Pc [.ref (ad 5 0), .int a1, .int a2, .int a3, .int a4] (Wl D cA z (ad, N, S, P, M))) (Qia D cA z ad N v N' S' P' M) 1 16 (fun q => z ≤ q) := by
  refine Met.ofW (cc := cX5_book) (maxL := 7) (ret := (some .int)) (by decide) rfl ?_
  intro p e s m args below meth c s₁ B hml hv
  obtain ⟨rfl, hW, hK, hN⟩ := hv
  have hl := lv_entry ([.ref (ad 5 0), .int a1, .int a2, .int a3, .int a4]) (n := 7) (Nat.le_of_ble_eq_true rfl)
  rw [lg_entry_eq]
  generalize (lg_sl ([.ref (ad 5 0), .int a1, .int a2, .int a3, .int a4]) ++ List.replicate (7 - (lg_sl ([.ref (ad 5 0), .int a1, .int a2, .int a3, .int a4])).length) Slot.unset).toArray = ls at hl ⊢
  exact w5_book ⟨B.exec, B.bytes, B.returns, hml, findClass_of_methodNamed B.named, atoms_spec (ws := wsX5_book) B.pre, B.notSynchronized⟩ hK hN a1 a2 a3 a4 hF hW va_S.rf hl

-- 5 freeCabin
abbrev rm5_freeCabin : Room := { frames := 1, cells := 0, slots := 0, locals := 22 }
def f5_freeCabin (S : TS) (P : TP) (a1 : Nat) : Option (TS × TP) :=
  (f5_within (S 411 a1) (0 : Int32) ((S 503 0) - (1 : Int32))).bind fun (v1 : Int32) =>
  if v1 = 0 then
  (some (S, P))
  else
  ((ix (S 411 a1) 120).bind fun (j3 : Nat) =>
  lt (P 800 0 j3) fun (r4 : Option Nat) =>
  r4.bind fun (t5 : Nat) =>
  lt (up S 102 t5 (0 : Int32)) fun (S6 : TS) =>
  some (S6, P))
set_option maxRecDepth 20000 in
theorem hi5_freeCabin_1 : ∀ w ∈ u_ws RX1 TX1 3, w ∈ wsX5_freeCabin := by decide +kernel
set_option maxRecDepth 20000 in
theorem hi5_freeCabin_4 : ∀ w ∈ u_ws RX4 TX4 16, w ∈ wsX5_freeCabin := by decide +kernel
set_option maxRecDepth 20000 in
theorem hi5_freeCabin_5 : ∀ w ∈ u_ws RX5 TX5 12, w ∈ wsX5_freeCabin := by decide +kernel
set_option maxHeartbeats 4000000 in
set_option maxRecDepth 100000 in
theorem w5_freeCabin {p : Program} {l : Launch} {e : Env} {s : State} {m : MethodId} {args : Array Value} {below : List Frame} {meth : Method} {c : Code} (C : MC p s m args meth c cX5_freeCabin none 2 RX5 wsX5_freeCabin) {D : va_G} {cA : Nat → ClassId} {z : Nat} {ad : Nat → Nat → Nat} {N : TN} (hK : va_K D vwCl (tysW cA) s) (hN : NW s) {S : TS} {P : TP} {M : TS} (a1 : Nat) (ha1 : a1 < N 4) {S' : TS} {P' : TP} (hF : f5_freeCabin S P a1 = some (S', P'))
    {H : Heap} {ls : Array Slot} (hW : Wd D cA z ad N S P M H) {locs : List Loc} (hS : va_S (fun q => z ≤ q) s.heap H locs) (hl : lv_has ls 2 [(0, .ref (ad 5 0)), (1, .ref (ad 4 a1))]) : W p l e rm5_freeCabin s m args below meth c H locs 0 0 (MQ below (Qv D cA z (ad, N, S', P', M)) args s 0 0 (fun q => z ≤ q)) (F0 m 0 ls []) := by
  obtain ⟨hx, hb, hr, hml, hown, hts, hlk⟩ := id C
  unfold f5_freeCabin at hF
  refine lv_aload_n hx hb dX5_freeCabin_0 rfl (lv_at hl 1 rfl) ?_
  refine gn4_11 hx hb hts hi5_freeCabin_4 hown hK hW ha1 (nf_34 hN) dX5_freeCabin_1 ?_
  refine lv_iconst (v := (0 : Int32)) hx hb dX5_freeCabin_4 (by decide) ?_
  refine lv_aload_n hx hb dX5_freeCabin_5 rfl (lv_at hl 0 rfl) ?_
  refine g5_3 hx hb hts hi5_freeCabin_5 hown hK hW (hts (.fieldLink RX5 58 RX5 "cabinCount" "I") (by decide +kernel)) dX5_freeCabin_6 ?_
  refine lv_iconst (v := (1 : Int32)) hx hb dX5_freeCabin_9 (by decide) ?_
  refine lv_isub hx hb dX5_freeCabin_10 ?_
  replace hF := ob hF
  obtain ⟨v1, q2, hF⟩ := hF
  refine k_i (va_runS (As := [.int (S 411 a1), .int (0 : Int32), .int ((S 503 0) - (1 : Int32))]) (rest := []) ⟨hx, hb, hml, hown, hts⟩ (c5_within l (S 411 a1) (0 : Int32) ((S 503 0) - (1 : Int32)) q2) (va_cwS 3 hts gX5_freeCabin_X5_within rfl rfl rfl (by decide +kernel) ⟨Nat.le_of_ble_eq_true rfl, Nat.le_of_ble_eq_true rfl⟩) (k_preS hW hK hN) rfl rfl hl.1 rfl (lv_room (Nat.le_of_ble_eq_true rfl)) dX5_freeCabin_11 ⟨Nat.le_of_ble_eq_true rfl, Nat.le_of_ble_eq_true rfl⟩) hS ?_
  clear hW hS; intro H locs hW hS
  refine lv_if_eq (tgt := 30) hx hb dX5_freeCabin_14 (by decide) (fun hc => ?_) (fun hc => ?_)
  · replace hF := it_t hF hc
    obtain ⟨hq1, hq2⟩ := Prod.mk.inj (Option.some.inj hF)
    subst hq1
    subst hq2
    exact e_v hx hb hr hlk hK hN hW hS dX5_freeCabin_30
  · replace hF := it_f hF hc
    refine lv_aload_n hx hb dX5_freeCabin_17 rfl (lv_at hl 0 rfl) ?_
    refine g5_2 hx hb hts hi5_freeCabin_5 hown hK hW (hts (.fieldLink RX5 17 RX5 "cabins" "[LFerryTerminal$Cabin;") (by decide +kernel)) dX5_freeCabin_18 ?_
    refine lv_aload_n hx hb dX5_freeCabin_21 rfl (lv_at hl 1 rfl) ?_
    refine gn4_11 hx hb hts hi5_freeCabin_4 hown hK hW ha1 (nf_34 hN) dX5_freeCabin_22 ?_
    replace hF := ob hF
    obtain ⟨j3, ej3, hF⟩ := hF
    replace hF := lt_ex hF
    obtain ⟨r4, er4, hF⟩ := hF
    have hr4 : ∀ y, r4 = some y → y < N 1 := hW.v er4
    refine l8 hx hb hK hW ej3 er4 dX5_freeCabin_25 ?_
    refine lv_iconst (v := (0 : Int32)) hx hb dX5_freeCabin_26 (by decide) ?_
    replace hF := ob hF
    obtain ⟨t5, et5, hF⟩ := hF
    subst et5
    have ht5 := hr4 t5 rfl
    replace hF := lt_ex hF
    obtain ⟨S6, eS6, hF⟩ := hF
    refine pn1_2 hx hb hts hi5_freeCabin_1 hown hK hW hS ht5 (by decide) eS6 (nf_9 hN) dX5_freeCabin_27 ?_
    clear hW hS; intro H locs hW hS
    obtain ⟨hq1, hq2⟩ := Prod.mk.inj (Option.some.inj hF)
    subst hq1
    subst hq2
    exact e_v hx hb hr hlk hK hN hW hS dX5_freeCabin_30

set_option maxHeartbeats 4000000 in
set_option maxRecDepth 100000 in
theorem c5_freeCabin (l : Launch) {D : va_G} {cA : Nat → ClassId} {z : Nat} {ad : Nat → Nat → Nat} {N : TN} {S : TS} {P : TP} {M : TS} (a1 : Nat) (ha1 : a1 < N 4) {S' : TS} {P' : TP} (hF : f5_freeCabin S P a1 = some (S', P')) : Met l yX5_freeCabin wsX5_freeCabin rm5_freeCabin (va_Pc [.ref (ad 5 0), .ref (ad 4 a1)] (Wl D cA z (ad, N, S, P, M))) (Qv D cA z (ad, N, S', P', M)) 0 0 (fun q => z ≤ q) := by
  refine Met.ofW (cc := cX5_freeCabin) (maxL := 2) (ret := none) (by decide) rfl ?_
  intro p e s m args below meth c s₁ B hml hv
  obtain ⟨rfl, hW, hK, hN⟩ := hv
  have hl := lv_entry ([.ref (ad 5 0), .ref (ad 4 a1)]) (n := 2) (Nat.le_of_ble_eq_true rfl)
  rw [lg_entry_eq]
  generalize (lg_sl ([.ref (ad 5 0), .ref (ad 4 a1)]) ++ List.replicate (2 - (lg_sl ([.ref (ad 5 0), .ref (ad 4 a1)])).length) Slot.unset).toArray = ls at hl ⊢
  exact w5_freeCabin ⟨B.exec, B.bytes, B.returns, hml, findClass_of_methodNamed B.named, atoms_spec (ws := wsX5_freeCabin) B.pre, B.notSynchronized⟩ hK hN a1 ha1 hF hW va_S.rf hl

-- 5 bringOff
abbrev rm5_bringOff : Room := { frames := 4, cells := 0, slots := 0, locals := 88 }
def f5_bringOff (S : TS) (P : TP) (a1 : Nat) : Option (TS × TP) :=
  lt (P 401 a1 0) fun (r1 : Option Nat) =>
  r1.bind fun (t2 : Nat) =>
  lt (P 201 t2 0) fun (r3 : Option Nat) =>
  r3.bind fun (t4 : Nat) =>
  b2 (f3_clearPlace S P t4 a1) fun (S5 : TS) (P6 : TP) =>
  b2 (f5_freeCabin S5 P6 a1) fun (S8 : TS) (P9 : TP) =>
  lt (up S8 411 a1 (-1 : Int32)) fun (S11 : TS) =>
  lt (up S11 406 a1 (2 : Int32)) fun (S12 : TS) =>
  some (S12, P9)
set_option maxRecDepth 20000 in
theorem hi5_bringOff_2 : ∀ w ∈ u_ws RX2 TX2 9, w ∈ wsX5_bringOff := by decide +kernel
set_option maxRecDepth 20000 in
theorem hi5_bringOff_4 : ∀ w ∈ u_ws RX4 TX4 16, w ∈ wsX5_bringOff := by decide +kernel
set_option maxHeartbeats 4000000 in
set_option maxRecDepth 100000 in
theorem w5_bringOff {p : Program} {l : Launch} {e : Env} {s : State} {m : MethodId} {args : Array Value} {below : List Frame} {meth : Method} {c : Code} (C : MC p s m args meth c cX5_bringOff none 2 RX5 wsX5_bringOff) {D : va_G} {cA : Nat → ClassId} {z : Nat} {ad : Nat → Nat → Nat} {N : TN} (hK : va_K D vwCl (tysW cA) s) (hN : NW s) {S : TS} {P : TP} {M : TS} (a1 : Nat) (ha1 : a1 < N 4) {S' : TS} {P' : TP} (hF : f5_bringOff S P a1 = some (S', P'))
    {H : Heap} {ls : Array Slot} (hW : Wd D cA z ad N S P M H) {locs : List Loc} (hS : va_S (fun q => z ≤ q) s.heap H locs) (hl : lv_has ls 2 [(0, .ref (ad 5 0)), (1, .ref (ad 4 a1))]) : W p l e rm5_bringOff s m args below meth c H locs 0 0 (MQ below (Qv D cA z (ad, N, S', P', M)) args s 0 0 (fun q => z ≤ q)) (F0 m 0 ls []) := by
  obtain ⟨hx, hb, hr, hml, hown, hts, hlk⟩ := id C
  unfold f5_bringOff at hF
  refine lv_aload_n hx hb dX5_bringOff_0 rfl (lv_at hl 1 rfl) ?_
  replace hF := lt_ex hF
  obtain ⟨r1, er1, hF⟩ := hF
  have hr1 : ∀ y, r1 = some y → y < N 2 := hW.v er1
  refine gn4_1 hx hb hts hi5_bringOff_4 hown hK hW ha1 er1 (nf_22 hN) dX5_bringOff_1 ?_
  replace hF := ob hF
  obtain ⟨t2, et2, hF⟩ := hF
  subst et2
  have ht2 := hr1 t2 rfl
  replace hF := lt_ex hF
  obtain ⟨r3, er3, hF⟩ := hF
  have hr3 : ∀ y, r3 = some y → y < N 3 := hW.v er3
  refine gn2_1 hx hb hts hi5_bringOff_2 hown hK hW ht2 er3 (nf_12 hN) dX5_bringOff_4 ?_
  refine lv_aload_n hx hb dX5_bringOff_7 rfl (lv_at hl 1 rfl) ?_
  replace hF := ob hF
  obtain ⟨t4, et4, hF⟩ := hF
  subst et4
  have ht4 := hr3 t4 rfl
  replace hF := ob2 hF
  obtain ⟨S5, P6, q7, hF⟩ := hF
  refine k_v (va_runVN (C := RX3) (As := [.ref (ad 4 a1)]) (rest := []) ⟨hx, hb, hml, hown, hts⟩ (c3_clearPlace l t4 a1 ht4 ha1 q7) ⟨va_cnB 1 hts gX5_bringOff_X3_clearPlace_n218 rfl rfl rfl (nm_6 hN) (hts (.initialized RX3) (by decide +kernel)) (by decide +kernel) ⟨Nat.le_of_ble_eq_true rfl, Nat.le_of_ble_eq_true rfl⟩, hts (.instanceMethod yX3_clearPlace) (by decide +kernel), hts (.selects RX3 yX3_clearPlace yX3_clearPlace) (by decide +kernel)⟩ (k_preV hW hK hN ht4 (EE_3 cA ad S P M t4) rfl) rfl rfl hl.1 rfl (lv_room (Nat.le_of_ble_eq_true rfl)) dX5_bringOff_8 ⟨Nat.le_of_ble_eq_true rfl, Nat.le_of_ble_eq_true rfl⟩) hS ?_
  clear hW hS; intro H locs hW hS
  refine lv_aload_n hx hb dX5_bringOff_11 rfl (lv_at hl 0 rfl) ?_
  refine lv_aload_n hx hb dX5_bringOff_12 rfl (lv_at hl 1 rfl) ?_
  replace hF := ob2 hF
  obtain ⟨S8, P9, q10, hF⟩ := hF
  refine k_v (va_runV (As := [.ref (ad 4 a1)]) (rest := []) ⟨hx, hb, hml, hown, hts⟩ (c5_freeCabin l a1 ha1 q10) (cwV 1 hts gX5_bringOff_X5_freeCabin rfl rfl rfl (by decide +kernel) ⟨Nat.le_of_ble_eq_true rfl, Nat.le_of_ble_eq_true rfl⟩) (k_preV hW hK hN (hW.fx 5 rfl) (EE_5 cA ad S5 P6 M 0) rfl) rfl rfl hl.1 rfl (lv_room (Nat.le_of_ble_eq_true rfl)) dX5_bringOff_13 ⟨Nat.le_of_ble_eq_true rfl, Nat.le_of_ble_eq_true rfl⟩) hS ?_
  clear hW hS; intro H locs hW hS
  refine lv_aload_n hx hb dX5_bringOff_16 rfl (lv_at hl 1 rfl) ?_
  refine lv_iconst (v := (-1 : Int32)) hx hb dX5_bringOff_17 (by decide) ?_
  replace hF := lt_ex hF
  obtain ⟨S11, eS11, hF⟩ := hF
  refine pn4_11 hx hb hts hi5_bringOff_4 hown hK hW hS ha1 eS11 (nf_34 hN) dX5_bringOff_18 ?_
  clear hW hS; intro H locs hW hS
  refine lv_aload_n hx hb dX5_bringOff_21 rfl (lv_at hl 1 rfl) ?_
  refine lv_iconst (v := (2 : Int32)) hx hb dX5_bringOff_22 (by decide) ?_
  replace hF := lt_ex hF
  obtain ⟨S12, eS12, hF⟩ := hF
  refine pn4_6 hx hb hts hi5_bringOff_4 hown hK hW hS ha1 eS12 (nf_28 hN) dX5_bringOff_23 ?_
  clear hW hS; intro H locs hW hS
  obtain ⟨hq1, hq2⟩ := Prod.mk.inj (Option.some.inj hF)
  subst hq1
  subst hq2
  exact e_v hx hb hr hlk hK hN hW hS dX5_bringOff_26

set_option maxHeartbeats 4000000 in
set_option maxRecDepth 100000 in
theorem c5_bringOff (l : Launch) {D : va_G} {cA : Nat → ClassId} {z : Nat} {ad : Nat → Nat → Nat} {N : TN} {S : TS} {P : TP} {M : TS} (a1 : Nat) (ha1 : a1 < N 4) {S' : TS} {P' : TP} (hF : f5_bringOff S P a1 = some (S', P')) : Met l yX5_bringOff wsX5_bringOff rm5_bringOff (va_Pc [.ref (ad 5 0), .ref (ad 4 a1)] (Wl D cA z (ad, N, S, P, M))) (Qv D cA z (ad, N, S', P', M)) 0 0 (fun q => z ≤ q) := by
  refine Met.ofW (cc := cX5_bringOff) (maxL := 2) (ret := none) (by decide) rfl ?_
  intro p e s m args below meth c s₁ B hml hv
  obtain ⟨rfl, hW, hK, hN⟩ := hv
  have hl := lv_entry ([.ref (ad 5 0), .ref (ad 4 a1)]) (n := 2) (Nat.le_of_ble_eq_true rfl)
  rw [lg_entry_eq]
  generalize (lg_sl ([.ref (ad 5 0), .ref (ad 4 a1)]) ++ List.replicate (2 - (lg_sl ([.ref (ad 5 0), .ref (ad 4 a1)])).length) Slot.unset).toArray = ls at hl ⊢
  exact w5_bringOff ⟨B.exec, B.bytes, B.returns, hml, findClass_of_methodNamed B.named, atoms_spec (ws := wsX5_bringOff) B.pre, B.notSynchronized⟩ hK hN a1 ha1 hF hW va_S.rf hl

-- 5 hasBoardingTurn
abbrev rm5_hasBoardingTurn : Room := { frames := 0, cells := 0, slots := 0, locals := 0 }
def f5_hasBoardingTurn_11 (K : Option (Int32)) (S : TS) (P : TP) (c1 : Nat) : Nat → Int32 → Option (Int32)
  | 0, _ => none
  | n + 1, y2 =>
    if (S 507 0) ≤ y2 then
    (K)
    else
    ((ix y2 400).bind fun (j3 : Nat) =>
    lt (P 1000 0 j3) fun (r4 : Option Nat) =>
    r4.bind fun (t5 : Nat) =>
    lt (P 401 t5 0) fun (r6 : Option Nat) =>
    if r6 = (some c1) then
    (if (S 406 t5) = (1 : Int32) then
    (some (1 : Int32))
    else
    (if (S 406 t5) = (2 : Int32) then
    (some (1 : Int32))
    else
    (f5_hasBoardingTurn_11 K S P c1 n (y2 + 1))))
    else
    (f5_hasBoardingTurn_11 K S P c1 n (y2 + 1)))

def f5_hasBoardingTurn (S : TS) (P : TP) (a1 : Nat) : Option (Int32) :=
  lt (P 207 a1 0) fun (r1 : Option Nat) =>
  r1.elim (f5_hasBoardingTurn_11 (some (0 : Int32)) S P a1 FU (0 : Int32))
  (fun (t2 : Nat) => some (1 : Int32))
set_option maxRecDepth 20000 in
theorem hi5_hasBoardingTurn_2 : ∀ w ∈ u_ws RX2 TX2 9, w ∈ wsX5_hasBoardingTurn := by decide +kernel
set_option maxRecDepth 20000 in
theorem hi5_hasBoardingTurn_4 : ∀ w ∈ u_ws RX4 TX4 16, w ∈ wsX5_hasBoardingTurn := by decide +kernel
set_option maxRecDepth 20000 in
theorem hi5_hasBoardingTurn_5 : ∀ w ∈ u_ws RX5 TX5 12, w ∈ wsX5_hasBoardingTurn := by decide +kernel
set_option maxHeartbeats 4000000 in
set_option maxRecDepth 100000 in
theorem w5_hasBoardingTurn_11 {p : Program} {l : Launch} {e : Env} {s : State} {m : MethodId} {args : Array Value} {below : List Frame} {meth : Method} {c : Code} (C : MC p s m args meth c cX5_hasBoardingTurn (some .boolean) 4 RX5 wsX5_hasBoardingTurn) {D : va_G} {cA : Nat → ClassId} {z : Nat} {ad : Nat → Nat → Nat} {N : TN} (hK : va_K D vwCl (tysW cA) s) (hN : NW s) {M : TS} {S : TS} {P : TP} (c1 : Nat) (hc1 : c1 < N 2) {v : Int32} {K : Option (Int32)}
    (hE : ∀ (H : Heap) (locs : List Loc) (ls : Array Slot), K = some v → Wd D cA z ad N S P M H → va_S (fun q => z ≤ q) s.heap H locs → lv_has ls 4 [] → W p l e rm5_hasBoardingTurn s m args below meth c H locs 0 0 (MQ below (Qi D cA z v (ad, N, S, P, M)) args s 0 0 (fun q => z ≤ q)) (F0 m 58 ls [])) :
    ∀ (n : Nat) (y2 : Int32) (H : Heap) (locs : List Loc) (ls : Array Slot), f5_hasBoardingTurn_11 K S P c1 n y2 = some v → Wd D cA z ad N S P M H → va_S (fun q => z ≤ q) s.heap H locs → lv_has ls 4 [(0, .ref (ad 5 0)), (1, .ref (ad 2 c1)), (2, .int y2)] → W p l e rm5_hasBoardingTurn s m args below meth c H locs 0 0 (MQ below (Qi D cA z v (ad, N, S, P, M)) args s 0 0 (fun q => z ≤ q)) (F0 m 11 ls []) := by
  obtain ⟨hx, hb, hr, hml, hown, hts, hlk⟩ := id C
  intro n
  induction n with
  | zero => intro y2 H locs ls hF; cases hF
  | succ n ih =>
    intro y2 H locs ls hF hW hS hl
    rw [f5_hasBoardingTurn_11] at hF
    refine lv_iload_n hx hb dX5_hasBoardingTurn_11 rfl (lv_at hl 2 rfl) ?_
    refine lv_aload_n hx hb dX5_hasBoardingTurn_12 rfl (lv_at hl 0 rfl) ?_
    refine g5_7 hx hb hts hi5_hasBoardingTurn_5 hown hK hW (hts (.fieldLink RX5 100 RX5 "ticketCount" "I") (by decide +kernel)) dX5_hasBoardingTurn_13 ?_
    refine lv_icmp_ge (tgt := 58) hx hb dX5_hasBoardingTurn_16 (by decide) (fun hc => ?_) (fun hc => ?_)
    · replace hF := it_t hF hc
      exact hE _ _ _ hF hW hS (lv_sub hl [] rfl)
    · replace hF := it_f hF hc
      refine lv_aload_n hx hb dX5_hasBoardingTurn_19 rfl (lv_at hl 0 rfl) ?_
      refine g5_6 hx hb hts hi5_hasBoardingTurn_5 hown hK hW (hts (.fieldLink RX5 29 RX5 "tickets" "[LFerryTerminal$Ticket;") (by decide +kernel)) dX5_hasBoardingTurn_20 ?_
      refine lv_iload_n hx hb dX5_hasBoardingTurn_23 rfl (lv_at hl 2 rfl) ?_
      replace hF := ob hF
      obtain ⟨j3, ej3, hF⟩ := hF
      replace hF := lt_ex hF
      obtain ⟨r4, er4, hF⟩ := hF
      have hr4 : ∀ y, r4 = some y → y < N 4 := hW.v er4
      refine l10 hx hb hK hW ej3 er4 dX5_hasBoardingTurn_24 ?_
      refine q_astore_n (lv' := [(3, va_rf (r4.map (ad 4))), (0, .ref (ad 5 0)), (1, .ref (ad 2 c1)), (2, .int y2)]) hx hb dX5_hasBoardingTurn_25 rfl hl (by decide) rfl ?_
      clear hl; intro ls hl
      refine q_aload_n hx hb dX5_hasBoardingTurn_26 rfl (lv_at hl 0 rfl) ?_
      replace hF := ob hF
      obtain ⟨t5, et5, hF⟩ := hF
      subst et5
      have ht5 := hr4 t5 rfl
      replace hl : lv_has ls 4 [(3, .ref (ad 4 t5)), (0, .ref (ad 5 0)), (1, .ref (ad 2 c1)), (2, .int y2)] := hl
      replace hF := lt_ex hF
      obtain ⟨r6, er6, hF⟩ := hF
      have hr6 : ∀ y, r6 = some y → y < N 2 := hW.v er6
      refine gn4_1 hx hb hts hi5_hasBoardingTurn_4 hown hK hW ht5 er6 (nf_22 hN) dX5_hasBoardingTurn_27 ?_
      refine lv_aload_n hx hb dX5_hasBoardingTurn_30 rfl (lv_at hl 2 rfl) ?_
      refine q_acmp_ne hx hb hW 2 r6 (some c1) hr6 (q_some hc1) (tgt := 52) dX5_hasBoardingTurn_31 (by decide) (fun hc => ?_) (fun hc => ?_)
      · replace hF := it_f hF hc
        refine lv_iinc (v := y2 + 1) (lv' := [(2, .int (y2 + 1)), (3, .ref (ad 4 t5)), (0, .ref (ad 5 0)), (1, .ref (ad 2 c1))]) hx hb dX5_hasBoardingTurn_52 hl (k := 3) rfl rfl (by decide) rfl ?_
        clear hl; intro ls hl
        refine lv_goto (tgt := 11) hx hb dX5_hasBoardingTurn_55 (by decide) ?_
        exact ih (y2 + 1) _ _ _ hF hW hS (lv_sub hl [2, 3, 0] rfl)
      · replace hF := it_t hF hc
        refine lv_aload_n hx hb dX5_hasBoardingTurn_34 rfl (lv_at hl 0 rfl) ?_
        refine gn4_6 hx hb hts hi5_hasBoardingTurn_4 hown hK hW ht5 (nf_28 hN) dX5_hasBoardingTurn_35 ?_
        refine lv_iconst (v := (1 : Int32)) hx hb dX5_hasBoardingTurn_38 (by decide) ?_
        refine lv_icmp_eq (tgt := 50) hx hb dX5_hasBoardingTurn_39 (by decide) (fun hc => ?_) (fun hc => ?_)
        · replace hF := it_t hF hc
          refine lv_iconst (v := (1 : Int32)) hx hb dX5_hasBoardingTurn_50 (by decide) ?_
          have hq1 := Option.some.inj hF
          subst hq1
          exact e_z hx hb hr hlk hK hN hW hS (by decide) dX5_hasBoardingTurn_51
        · replace hF := it_f hF hc
          refine lv_aload_n hx hb dX5_hasBoardingTurn_42 rfl (lv_at hl 0 rfl) ?_
          refine gn4_6 hx hb hts hi5_hasBoardingTurn_4 hown hK hW ht5 (nf_28 hN) dX5_hasBoardingTurn_43 ?_
          refine lv_iconst (v := (2 : Int32)) hx hb dX5_hasBoardingTurn_46 (by decide) ?_
          refine lv_icmp_ne (tgt := 52) hx hb dX5_hasBoardingTurn_47 (by decide) (fun hc => ?_) (fun hc => ?_)
          · replace hF := it_f hF hc
            refine lv_iinc (v := y2 + 1) (lv' := [(2, .int (y2 + 1)), (3, .ref (ad 4 t5)), (0, .ref (ad 5 0)), (1, .ref (ad 2 c1))]) hx hb dX5_hasBoardingTurn_52 hl (k := 3) rfl rfl (by decide) rfl ?_
            clear hl; intro ls hl
            refine lv_goto (tgt := 11) hx hb dX5_hasBoardingTurn_55 (by decide) ?_
            exact ih (y2 + 1) _ _ _ hF hW hS (lv_sub hl [2, 3, 0] rfl)
          · replace hF := it_t hF hc
            refine lv_iconst (v := (1 : Int32)) hx hb dX5_hasBoardingTurn_50 (by decide) ?_
            have hq1 := Option.some.inj hF
            subst hq1
            exact e_z hx hb hr hlk hK hN hW hS (by decide) dX5_hasBoardingTurn_51

set_option maxHeartbeats 4000000 in
set_option maxRecDepth 100000 in
theorem w5_hasBoardingTurn {p : Program} {l : Launch} {e : Env} {s : State} {m : MethodId} {args : Array Value} {below : List Frame} {meth : Method} {c : Code} (C : MC p s m args meth c cX5_hasBoardingTurn (some .boolean) 4 RX5 wsX5_hasBoardingTurn) {D : va_G} {cA : Nat → ClassId} {z : Nat} {ad : Nat → Nat → Nat} {N : TN} (hK : va_K D vwCl (tysW cA) s) (hN : NW s) {S : TS} {P : TP} {M : TS} (a1 : Nat) (ha1 : a1 < N 2) {v : Int32} (hF : f5_hasBoardingTurn S P a1 = some v)
    {H : Heap} {ls : Array Slot} (hW : Wd D cA z ad N S P M H) {locs : List Loc} (hS : va_S (fun q => z ≤ q) s.heap H locs) (hl : lv_has ls 4 [(0, .ref (ad 5 0)), (1, .ref (ad 2 a1))]) : W p l e rm5_hasBoardingTurn s m args below meth c H locs 0 0 (MQ below (Qi D cA z v (ad, N, S, P, M)) args s 0 0 (fun q => z ≤ q)) (F0 m 0 ls []) := by
  obtain ⟨hx, hb, hr, hml, hown, hts, hlk⟩ := id C
  unfold f5_hasBoardingTurn at hF
  refine lv_aload_n hx hb dX5_hasBoardingTurn_0 rfl (lv_at hl 1 rfl) ?_
  replace hF := lt_ex hF
  obtain ⟨r1, er1, hF⟩ := hF
  have hr1 : ∀ y, r1 = some y → y < N 4 := hW.v er1
  refine gn2_7 hx hb hts hi5_hasBoardingTurn_2 hown hK hW ha1 er1 (nf_19 hN) dX5_hasBoardingTurn_1 ?_
  refine q_ifnull (tgt := 9) hx hb dX5_hasBoardingTurn_4 (by decide) (fun hc => ?_) (fun t2 hc => ?_)
  · subst hc
    replace hF := el_n hF
    refine lv_iconst (v := (0 : Int32)) hx hb dX5_hasBoardingTurn_9 (by decide) ?_
    refine lv_istore_n (lv' := [(2, .int (0 : Int32)), (0, .ref (ad 5 0)), (1, .ref (ad 2 a1))]) hx hb dX5_hasBoardingTurn_10 rfl hl (by decide) rfl ?_
    clear hl; intro ls hl
    refine w5_hasBoardingTurn_11 C hK hN a1 ha1 (hE := ?_) FU (0 : Int32) _ _ _ hF hW hS (lv_sub hl [1, 2, 0] rfl)
    intro  H locs ls hF hW hS hl
    refine lv_iconst (v := (0 : Int32)) hx hb dX5_hasBoardingTurn_58 (by decide) ?_
    have hq1 := Option.some.inj hF
    subst hq1
    exact e_z hx hb hr hlk hK hN hW hS (by decide) dX5_hasBoardingTurn_59
  · subst hc
    replace hF := el_s hF
    have ht2 := hr1 t2 rfl
    refine lv_iconst (v := (1 : Int32)) hx hb dX5_hasBoardingTurn_7 (by decide) ?_
    have hq1 := Option.some.inj hF
    subst hq1
    exact e_z hx hb hr hlk hK hN hW hS (by decide) dX5_hasBoardingTurn_8

set_option maxHeartbeats 4000000 in
set_option maxRecDepth 100000 in
theorem c5_hasBoardingTurn (l : Launch) {D : va_G} {cA : Nat → ClassId} {z : Nat} {ad : Nat → Nat → Nat} {N : TN} {S : TS} {P : TP} {M : TS} (a1 : Nat) (ha1 : a1 < N 2) {v : Int32} (hF : f5_hasBoardingTurn S P a1 = some v) : Met l yX5_hasBoardingTurn wsX5_hasBoardingTurn rm5_hasBoardingTurn (va_Pc [.ref (ad 5 0), .ref (ad 2 a1)] (Wl D cA z (ad, N, S, P, M))) (Qi D cA z v (ad, N, S, P, M)) 0 0 (fun q => z ≤ q) := by
  refine Met.ofW (cc := cX5_hasBoardingTurn) (maxL := 4) (ret := (some .boolean)) (by decide) rfl ?_
  intro p e s m args below meth c s₁ B hml hv
  obtain ⟨rfl, hW, hK, hN⟩ := hv
  have hl := lv_entry ([.ref (ad 5 0), .ref (ad 2 a1)]) (n := 4) (Nat.le_of_ble_eq_true rfl)
  rw [lg_entry_eq]
  generalize (lg_sl ([.ref (ad 5 0), .ref (ad 2 a1)]) ++ List.replicate (4 - (lg_sl ([.ref (ad 5 0), .ref (ad 2 a1)])).length) Slot.unset).toArray = ls at hl ⊢
  exact w5_hasBoardingTurn ⟨B.exec, B.bytes, B.returns, hml, findClass_of_methodNamed B.named, atoms_spec (ws := wsX5_hasBoardingTurn) B.pre, B.notSynchronized⟩ hK hN a1 ha1 hF hW va_S.rf hl

-- 5 latestAboard
abbrev rm5_latestAboard : Room := { frames := 0, cells := 0, slots := 0, locals := 0 }
def f5_latestAboard_4 (K : Option Nat → Option (Option Nat)) (S : TS) (P : TP) (c1 : Nat) : Nat → Option Nat → Int32 → Option (Option Nat)
  | 0, _, _ => none
  | n + 1, y2, y3 =>
    if (S 507 0) ≤ y3 then
    (K y2)
    else
    ((ix y3 400).bind fun (j1 : Nat) =>
    lt (P 1000 0 j1) fun (r2 : Option Nat) =>
    r2.bind fun (t3 : Nat) =>
    lt (P 401 t3 0) fun (r4 : Option Nat) =>
    if r4 = (some c1) then
    (if (S 406 t3) = (3 : Int32) then
    (y2.elim (f5_latestAboard_4 K S P c1 n (some t3) (y3 + 1))
    (fun (t5 : Nat) => if (S 414 t3) ≤ (S 414 t5) then
    (f5_latestAboard_4 K S P c1 n (some t5) (y3 + 1))
    else
    (f5_latestAboard_4 K S P c1 n (some t3) (y3 + 1))))
    else
    (f5_latestAboard_4 K S P c1 n y2 (y3 + 1)))
    else
    (f5_latestAboard_4 K S P c1 n y2 (y3 + 1)))

def f5_latestAboard (S : TS) (P : TP) (a1 : Nat) : Option (Option Nat) :=
  f5_latestAboard_4 (fun (w6 : Option Nat) =>
  some w6) S P a1 FU none (0 : Int32)
set_option maxRecDepth 20000 in
theorem hi5_latestAboard_4 : ∀ w ∈ u_ws RX4 TX4 16, w ∈ wsX5_latestAboard := by decide +kernel
set_option maxRecDepth 20000 in
theorem hi5_latestAboard_5 : ∀ w ∈ u_ws RX5 TX5 12, w ∈ wsX5_latestAboard := by decide +kernel
set_option maxHeartbeats 4000000 in
set_option maxRecDepth 100000 in
theorem w5_latestAboard_4 {p : Program} {l : Launch} {e : Env} {s : State} {m : MethodId} {args : Array Value} {below : List Frame} {meth : Method} {c : Code} (C : MC p s m args meth c cX5_latestAboard (some (.object "FerryTerminal$Ticket")) 5 RX5 wsX5_latestAboard) {D : va_G} {cA : Nat → ClassId} {z : Nat} {ad : Nat → Nat → Nat} {N : TN} (hK : va_K D vwCl (tysW cA) s) (hN : NW s) {M : TS} {S : TS} {P : TP} (c1 : Nat) (hc1 : c1 < N 2) {v : Option Nat} {K : Option Nat → Option (Option Nat)}
    (hE : ∀ (e2 : Option Nat) (H : Heap) (locs : List Loc) (ls : Array Slot), (∀ y, e2 = some y → y < N 4) → K e2 = some v → Wd D cA z ad N S P M H → va_S (fun q => z ≤ q) s.heap H locs → lv_has ls 5 [(2, va_rf (e2.map (ad 4)))] → W p l e rm5_latestAboard s m args below meth c H locs 0 0 (MQ below (Qq D cA z 4 v (ad, N, S, P, M)) args s 0 0 (fun q => z ≤ q)) (F0 m 63 ls [])) :
    ∀ (n : Nat) (y2 : Option Nat) (y3 : Int32) (H : Heap) (locs : List Loc) (ls : Array Slot), (∀ y, y2 = some y → y < N 4) → f5_latestAboard_4 K S P c1 n y2 y3 = some v → Wd D cA z ad N S P M H → va_S (fun q => z ≤ q) s.heap H locs → lv_has ls 5 [(0, .ref (ad 5 0)), (1, .ref (ad 2 c1)), (2, va_rf (y2.map (ad 4))), (3, .int y3)] → W p l e rm5_latestAboard s m args below meth c H locs 0 0 (MQ below (Qq D cA z 4 v (ad, N, S, P, M)) args s 0 0 (fun q => z ≤ q)) (F0 m 4 ls []) := by
  obtain ⟨hx, hb, hr, hml, hown, hts, hlk⟩ := id C
  intro n
  induction n with
  | zero => intro y2 y3 H locs ls hy2 hF; cases hF
  | succ n ih =>
    intro y2 y3 H locs ls hy2 hF hW hS hl
    rw [f5_latestAboard_4] at hF
    refine lv_iload_n hx hb dX5_latestAboard_4 rfl (lv_at hl 3 rfl) ?_
    refine lv_aload_n hx hb dX5_latestAboard_5 rfl (lv_at hl 0 rfl) ?_
    refine g5_7 hx hb hts hi5_latestAboard_5 hown hK hW (hts (.fieldLink RX5 100 RX5 "ticketCount" "I") (by decide +kernel)) dX5_latestAboard_6 ?_
    refine lv_icmp_ge (tgt := 63) hx hb dX5_latestAboard_9 (by decide) (fun hc => ?_) (fun hc => ?_)
    · replace hF := it_t hF hc
      exact hE y2 _ _ _ hy2 hF hW hS (lv_sub hl [2] rfl)
    · replace hF := it_f hF hc
      refine lv_aload_n hx hb dX5_latestAboard_12 rfl (lv_at hl 0 rfl) ?_
      refine g5_6 hx hb hts hi5_latestAboard_5 hown hK hW (hts (.fieldLink RX5 29 RX5 "tickets" "[LFerryTerminal$Ticket;") (by decide +kernel)) dX5_latestAboard_13 ?_
      refine lv_iload_n hx hb dX5_latestAboard_16 rfl (lv_at hl 3 rfl) ?_
      replace hF := ob hF
      obtain ⟨j1, ej1, hF⟩ := hF
      replace hF := lt_ex hF
      obtain ⟨r2, er2, hF⟩ := hF
      have hr2 : ∀ y, r2 = some y → y < N 4 := hW.v er2
      refine l10 hx hb hK hW ej1 er2 dX5_latestAboard_17 ?_
      refine q_astore (lv' := [(4, va_rf (r2.map (ad 4))), (0, .ref (ad 5 0)), (1, .ref (ad 2 c1)), (2, va_rf (y2.map (ad 4))), (3, .int y3)]) hx hb dX5_latestAboard_18 hl (by decide) rfl ?_
      clear hl; intro ls hl
      refine q_aload hx hb dX5_latestAboard_20 (lv_at hl 0 rfl) ?_
      replace hF := ob hF
      obtain ⟨t3, et3, hF⟩ := hF
      subst et3
      have ht3 := hr2 t3 rfl
      replace hl : lv_has ls 5 [(4, .ref (ad 4 t3)), (0, .ref (ad 5 0)), (1, .ref (ad 2 c1)), (2, va_rf (y2.map (ad 4))), (3, .int y3)] := hl
      replace hF := lt_ex hF
      obtain ⟨r4, er4, hF⟩ := hF
      have hr4 : ∀ y, r4 = some y → y < N 2 := hW.v er4
      refine gn4_1 hx hb hts hi5_latestAboard_4 hown hK hW ht3 er4 (nf_22 hN) dX5_latestAboard_22 ?_
      refine lv_aload_n hx hb dX5_latestAboard_25 rfl (lv_at hl 2 rfl) ?_
      refine q_acmp_ne hx hb hW 2 r4 (some c1) hr4 (q_some hc1) (tgt := 57) dX5_latestAboard_26 (by decide) (fun hc => ?_) (fun hc => ?_)
      · replace hF := it_f hF hc
        refine lv_iinc (v := y3 + 1) (lv' := [(3, .int (y3 + 1)), (4, .ref (ad 4 t3)), (0, .ref (ad 5 0)), (1, .ref (ad 2 c1)), (2, va_rf (y2.map (ad 4)))]) hx hb dX5_latestAboard_57 hl (k := 4) rfl rfl (by decide) (by cases y2 <;> rfl) ?_
        clear hl; intro ls hl
        refine lv_goto (tgt := 4) hx hb dX5_latestAboard_60 (by decide) ?_
        exact ih y2 (y3 + 1) _ _ _ hy2 hF hW hS (lv_sub hl [2, 3, 4, 0] rfl)
      · replace hF := it_t hF hc
        refine lv_aload hx hb dX5_latestAboard_29 (lv_at hl 0 rfl) ?_
        refine gn4_6 hx hb hts hi5_latestAboard_4 hown hK hW ht3 (nf_28 hN) dX5_latestAboard_31 ?_
        refine lv_iconst (v := (3 : Int32)) hx hb dX5_latestAboard_34 (by decide) ?_
        refine lv_icmp_ne (tgt := 57) hx hb dX5_latestAboard_35 (by decide) (fun hc => ?_) (fun hc => ?_)
        · replace hF := it_f hF hc
          refine lv_iinc (v := y3 + 1) (lv' := [(3, .int (y3 + 1)), (4, .ref (ad 4 t3)), (0, .ref (ad 5 0)), (1, .ref (ad 2 c1)), (2, va_rf (y2.map (ad 4)))]) hx hb dX5_latestAboard_57 hl (k := 4) rfl rfl (by decide) (by cases y2 <;> rfl) ?_
          clear hl; intro ls hl
          refine lv_goto (tgt := 4) hx hb dX5_latestAboard_60 (by decide) ?_
          exact ih y2 (y3 + 1) _ _ _ hy2 hF hW hS (lv_sub hl [2, 3, 4, 0] rfl)
        · replace hF := it_t hF hc
          refine q_aload_n hx hb dX5_latestAboard_38 rfl (lv_at hl 3 rfl) ?_
          refine q_ifnull (tgt := 54) hx hb dX5_latestAboard_39 (by decide) (fun hc => ?_) (fun t5 hc => ?_)
          · subst hc
            replace hF := el_n hF
            replace hl : lv_has ls 5 [(4, .ref (ad 4 t3)), (0, .ref (ad 5 0)), (1, .ref (ad 2 c1)), (2, .null), (3, .int y3)] := hl
            refine lv_aload hx hb dX5_latestAboard_54 (lv_at hl 0 rfl) ?_
            refine lv_astore_n (lv' := [(2, .ref (ad 4 t3)), (4, .ref (ad 4 t3)), (0, .ref (ad 5 0)), (1, .ref (ad 2 c1)), (3, .int y3)]) hx hb dX5_latestAboard_56 rfl hl (by decide) rfl ?_
            clear hl; intro ls hl
            refine lv_iinc (v := y3 + 1) (lv' := [(3, .int (y3 + 1)), (2, .ref (ad 4 t3)), (4, .ref (ad 4 t3)), (0, .ref (ad 5 0)), (1, .ref (ad 2 c1))]) hx hb dX5_latestAboard_57 hl (k := 4) rfl rfl (by decide) rfl ?_
            clear hl; intro ls hl
            refine lv_goto (tgt := 4) hx hb dX5_latestAboard_60 (by decide) ?_
            exact ih (some t3) (y3 + 1) _ _ _ (q_some ht3) hF hW hS (lv_sub hl [3, 4, 1, 0] rfl)
          · subst hc
            replace hF := el_s hF
            have ht5 := hy2 t5 rfl
            replace hl : lv_has ls 5 [(4, .ref (ad 4 t3)), (0, .ref (ad 5 0)), (1, .ref (ad 2 c1)), (2, .ref (ad 4 t5)), (3, .int y3)] := hl
            refine lv_aload hx hb dX5_latestAboard_42 (lv_at hl 0 rfl) ?_
            refine gn4_14 hx hb hts hi5_latestAboard_4 hown hK hW ht3 (nf_37 hN) dX5_latestAboard_44 ?_
            refine lv_aload_n hx hb dX5_latestAboard_47 rfl (lv_at hl 3 rfl) ?_
            refine gn4_14 hx hb hts hi5_latestAboard_4 hown hK hW ht5 (nf_37 hN) dX5_latestAboard_48 ?_
            refine lv_icmp_le (tgt := 57) hx hb dX5_latestAboard_51 (by decide) (fun hc => ?_) (fun hc => ?_)
            · replace hF := it_t hF hc
              refine lv_iinc (v := y3 + 1) (lv' := [(3, .int (y3 + 1)), (4, .ref (ad 4 t3)), (0, .ref (ad 5 0)), (1, .ref (ad 2 c1)), (2, .ref (ad 4 t5))]) hx hb dX5_latestAboard_57 hl (k := 4) rfl rfl (by decide) rfl ?_
              clear hl; intro ls hl
              refine lv_goto (tgt := 4) hx hb dX5_latestAboard_60 (by decide) ?_
              exact ih (some t5) (y3 + 1) _ _ _ (q_some ht5) hF hW hS (lv_sub hl [2, 3, 4, 0] rfl)
            · replace hF := it_f hF hc
              refine lv_aload hx hb dX5_latestAboard_54 (lv_at hl 0 rfl) ?_
              refine lv_astore_n (lv' := [(2, .ref (ad 4 t3)), (4, .ref (ad 4 t3)), (0, .ref (ad 5 0)), (1, .ref (ad 2 c1)), (3, .int y3)]) hx hb dX5_latestAboard_56 rfl hl (by decide) rfl ?_
              clear hl; intro ls hl
              refine lv_iinc (v := y3 + 1) (lv' := [(3, .int (y3 + 1)), (2, .ref (ad 4 t3)), (4, .ref (ad 4 t3)), (0, .ref (ad 5 0)), (1, .ref (ad 2 c1))]) hx hb dX5_latestAboard_57 hl (k := 4) rfl rfl (by decide) rfl ?_
              clear hl; intro ls hl
              refine lv_goto (tgt := 4) hx hb dX5_latestAboard_60 (by decide) ?_
              exact ih (some t3) (y3 + 1) _ _ _ (q_some ht3) hF hW hS (lv_sub hl [3, 4, 1, 0] rfl)

set_option maxHeartbeats 4000000 in
set_option maxRecDepth 100000 in
theorem w5_latestAboard {p : Program} {l : Launch} {e : Env} {s : State} {m : MethodId} {args : Array Value} {below : List Frame} {meth : Method} {c : Code} (C : MC p s m args meth c cX5_latestAboard (some (.object "FerryTerminal$Ticket")) 5 RX5 wsX5_latestAboard) {D : va_G} {cA : Nat → ClassId} {z : Nat} {ad : Nat → Nat → Nat} {N : TN} (hK : va_K D vwCl (tysW cA) s) (hN : NW s) {S : TS} {P : TP} {M : TS} (a1 : Nat) (ha1 : a1 < N 2) {v : Option Nat} (hF : f5_latestAboard S P a1 = some v)
    {H : Heap} {ls : Array Slot} (hW : Wd D cA z ad N S P M H) {locs : List Loc} (hS : va_S (fun q => z ≤ q) s.heap H locs) (hl : lv_has ls 5 [(0, .ref (ad 5 0)), (1, .ref (ad 2 a1))]) : W p l e rm5_latestAboard s m args below meth c H locs 0 0 (MQ below (Qq D cA z 4 v (ad, N, S, P, M)) args s 0 0 (fun q => z ≤ q)) (F0 m 0 ls []) := by
  obtain ⟨hx, hb, hr, hml, hown, hts, hlk⟩ := id C
  unfold f5_latestAboard at hF
  refine lv_null hx hb dX5_latestAboard_0 ?_
  refine q_astore_n (lv' := [(2, .null), (0, .ref (ad 5 0)), (1, .ref (ad 2 a1))]) (r := none) hx hb dX5_latestAboard_1 rfl hl (by decide) rfl ?_
  clear hl; intro ls hl
  refine lv_iconst (v := (0 : Int32)) hx hb dX5_latestAboard_2 (by decide) ?_
  refine lv_istore_n (lv' := [(3, .int (0 : Int32)), (2, .null), (0, .ref (ad 5 0)), (1, .ref (ad 2 a1))]) hx hb dX5_latestAboard_3 rfl hl (by decide) rfl ?_
  clear hl; intro ls hl
  refine w5_latestAboard_4 C hK hN a1 ha1 (hE := ?_) FU none (0 : Int32) _ _ _ q_none hF hW hS (lv_sub hl [2, 3, 1, 0] rfl)
  intro w6 H locs ls hw6 hF hW hS hl
  refine q_aload_n hx hb dX5_latestAboard_63 rfl (lv_at hl 0 rfl) ?_
  have hq1 := Option.some.inj hF
  subst hq1
  exact e_q (v := w6) hx hb hr hlk hK hN hW hS hw6 dX5_latestAboard_64

set_option maxHeartbeats 4000000 in
set_option maxRecDepth 100000 in
theorem c5_latestAboard (l : Launch) {D : va_G} {cA : Nat → ClassId} {z : Nat} {ad : Nat → Nat → Nat} {N : TN} {S : TS} {P : TP} {M : TS} (a1 : Nat) (ha1 : a1 < N 2) {v : Option Nat} (hF : f5_latestAboard S P a1 = some v) : Met l yX5_latestAboard wsX5_latestAboard rm5_latestAboard (va_Pc [.ref (ad 5 0), .ref (ad 2 a1)] (Wl D cA z (ad, N, S, P, M))) (Qq D cA z 4 v (ad, N, S, P, M)) 0 0 (fun q => z ≤ q) := by
  refine Met.ofW (cc := cX5_latestAboard) (maxL := 5) (ret := (some (.object "FerryTerminal$Ticket"))) (by decide) rfl ?_
  intro p e s m args below meth c s₁ B hml hv
  obtain ⟨rfl, hW, hK, hN⟩ := hv
  have hl := lv_entry ([.ref (ad 5 0), .ref (ad 2 a1)]) (n := 5) (Nat.le_of_ble_eq_true rfl)
  rw [lg_entry_eq]
  generalize (lg_sl ([.ref (ad 5 0), .ref (ad 2 a1)]) ++ List.replicate (5 - (lg_sl ([.ref (ad 5 0), .ref (ad 2 a1)])).length) Slot.unset).toArray = ls at hl ⊢
  exact w5_latestAboard ⟨B.exec, B.bytes, B.returns, hml, findClass_of_methodNamed B.named, atoms_spec (ws := wsX5_latestAboard) B.pre, B.notSynchronized⟩ hK hN a1 ha1 hF hW va_S.rf hl

-- 5 firstToMoveOn
abbrev rm5_firstToMoveOn : Room := { frames := 0, cells := 0, slots := 0, locals := 0 }
def f5_firstToMoveOn_2 (K : Option (Option Nat)) (S : TS) (P : TP) (c1 : Nat) : Nat → Int32 → Option (Option Nat)
  | 0, _ => none
  | n + 1, y2 =>
    if (S 507 0) ≤ y2 then
    (K)
    else
    ((ix y2 400).bind fun (j1 : Nat) =>
    lt (P 1000 0 j1) fun (r2 : Option Nat) =>
    r2.bind fun (t3 : Nat) =>
    lt (P 401 t3 0) fun (r4 : Option Nat) =>
    if r4 = (some c1) then
    (if (4 : Int32) < (S 406 t3) then
    (f5_firstToMoveOn_2 K S P c1 n (y2 + 1))
    else
    (if (S 406 t3) = (3 : Int32) then
    (f5_firstToMoveOn_2 K S P c1 n (y2 + 1))
    else
    (some (some t3))))
    else
    (f5_firstToMoveOn_2 K S P c1 n (y2 + 1)))

def f5_firstToMoveOn (S : TS) (P : TP) (a1 : Nat) : Option (Option Nat) :=
  f5_firstToMoveOn_2 (some none) S P a1 FU (0 : Int32)
set_option maxRecDepth 20000 in
theorem hi5_firstToMoveOn_4 : ∀ w ∈ u_ws RX4 TX4 16, w ∈ wsX5_firstToMoveOn := by decide +kernel
set_option maxRecDepth 20000 in
theorem hi5_firstToMoveOn_5 : ∀ w ∈ u_ws RX5 TX5 12, w ∈ wsX5_firstToMoveOn := by decide +kernel
set_option maxHeartbeats 4000000 in
set_option maxRecDepth 100000 in
theorem w5_firstToMoveOn_2 {p : Program} {l : Launch} {e : Env} {s : State} {m : MethodId} {args : Array Value} {below : List Frame} {meth : Method} {c : Code} (C : MC p s m args meth c cX5_firstToMoveOn (some (.object "FerryTerminal$Ticket")) 4 RX5 wsX5_firstToMoveOn) {D : va_G} {cA : Nat → ClassId} {z : Nat} {ad : Nat → Nat → Nat} {N : TN} (hK : va_K D vwCl (tysW cA) s) (hN : NW s) {M : TS} {S : TS} {P : TP} (c1 : Nat) (hc1 : c1 < N 2) {v : Option Nat} {K : Option (Option Nat)}
    (hE : ∀ (H : Heap) (locs : List Loc) (ls : Array Slot), K = some v → Wd D cA z ad N S P M H → va_S (fun q => z ≤ q) s.heap H locs → lv_has ls 4 [] → W p l e rm5_firstToMoveOn s m args below meth c H locs 0 0 (MQ below (Qq D cA z 4 v (ad, N, S, P, M)) args s 0 0 (fun q => z ≤ q)) (F0 m 49 ls [])) :
    ∀ (n : Nat) (y2 : Int32) (H : Heap) (locs : List Loc) (ls : Array Slot), f5_firstToMoveOn_2 K S P c1 n y2 = some v → Wd D cA z ad N S P M H → va_S (fun q => z ≤ q) s.heap H locs → lv_has ls 4 [(0, .ref (ad 5 0)), (1, .ref (ad 2 c1)), (2, .int y2)] → W p l e rm5_firstToMoveOn s m args below meth c H locs 0 0 (MQ below (Qq D cA z 4 v (ad, N, S, P, M)) args s 0 0 (fun q => z ≤ q)) (F0 m 2 ls []) := by
  obtain ⟨hx, hb, hr, hml, hown, hts, hlk⟩ := id C
  intro n
  induction n with
  | zero => intro y2 H locs ls hF; cases hF
  | succ n ih =>
    intro y2 H locs ls hF hW hS hl
    rw [f5_firstToMoveOn_2] at hF
    refine lv_iload_n hx hb dX5_firstToMoveOn_2 rfl (lv_at hl 2 rfl) ?_
    refine lv_aload_n hx hb dX5_firstToMoveOn_3 rfl (lv_at hl 0 rfl) ?_
    refine g5_7 hx hb hts hi5_firstToMoveOn_5 hown hK hW (hts (.fieldLink RX5 100 RX5 "ticketCount" "I") (by decide +kernel)) dX5_firstToMoveOn_4 ?_
    refine lv_icmp_ge (tgt := 49) hx hb dX5_firstToMoveOn_7 (by decide) (fun hc => ?_) (fun hc => ?_)
    · replace hF := it_t hF hc
      exact hE _ _ _ hF hW hS (lv_sub hl [] rfl)
    · replace hF := it_f hF hc
      refine lv_aload_n hx hb dX5_firstToMoveOn_10 rfl (lv_at hl 0 rfl) ?_
      refine g5_6 hx hb hts hi5_firstToMoveOn_5 hown hK hW (hts (.fieldLink RX5 29 RX5 "tickets" "[LFerryTerminal$Ticket;") (by decide +kernel)) dX5_firstToMoveOn_11 ?_
      refine lv_iload_n hx hb dX5_firstToMoveOn_14 rfl (lv_at hl 2 rfl) ?_
      replace hF := ob hF
      obtain ⟨j1, ej1, hF⟩ := hF
      replace hF := lt_ex hF
      obtain ⟨r2, er2, hF⟩ := hF
      have hr2 : ∀ y, r2 = some y → y < N 4 := hW.v er2
      refine l10 hx hb hK hW ej1 er2 dX5_firstToMoveOn_15 ?_
      refine q_astore_n (lv' := [(3, va_rf (r2.map (ad 4))), (0, .ref (ad 5 0)), (1, .ref (ad 2 c1)), (2, .int y2)]) hx hb dX5_firstToMoveOn_16 rfl hl (by decide) rfl ?_
      clear hl; intro ls hl
      refine q_aload_n hx hb dX5_firstToMoveOn_17 rfl (lv_at hl 0 rfl) ?_
      replace hF := ob hF
      obtain ⟨t3, et3, hF⟩ := hF
      subst et3
      have ht3 := hr2 t3 rfl
      replace hl : lv_has ls 4 [(3, .ref (ad 4 t3)), (0, .ref (ad 5 0)), (1, .ref (ad 2 c1)), (2, .int y2)] := hl
      replace hF := lt_ex hF
      obtain ⟨r4, er4, hF⟩ := hF
      have hr4 : ∀ y, r4 = some y → y < N 2 := hW.v er4
      refine gn4_1 hx hb hts hi5_firstToMoveOn_4 hown hK hW ht3 er4 (nf_22 hN) dX5_firstToMoveOn_18 ?_
      refine lv_aload_n hx hb dX5_firstToMoveOn_21 rfl (lv_at hl 2 rfl) ?_
      refine q_acmp_ne hx hb hW 2 r4 (some c1) hr4 (q_some hc1) (tgt := 43) dX5_firstToMoveOn_22 (by decide) (fun hc => ?_) (fun hc => ?_)
      · replace hF := it_f hF hc
        refine lv_iinc (v := y2 + 1) (lv' := [(2, .int (y2 + 1)), (3, .ref (ad 4 t3)), (0, .ref (ad 5 0)), (1, .ref (ad 2 c1))]) hx hb dX5_firstToMoveOn_43 hl (k := 3) rfl rfl (by decide) rfl ?_
        clear hl; intro ls hl
        refine lv_goto (tgt := 2) hx hb dX5_firstToMoveOn_46 (by decide) ?_
        exact ih (y2 + 1) _ _ _ hF hW hS (lv_sub hl [2, 3, 0] rfl)
      · replace hF := it_t hF hc
        refine lv_aload_n hx hb dX5_firstToMoveOn_25 rfl (lv_at hl 0 rfl) ?_
        refine gn4_6 hx hb hts hi5_firstToMoveOn_4 hown hK hW ht3 (nf_28 hN) dX5_firstToMoveOn_26 ?_
        refine lv_iconst (v := (4 : Int32)) hx hb dX5_firstToMoveOn_29 (by decide) ?_
        refine lv_icmp_gt (tgt := 43) hx hb dX5_firstToMoveOn_30 (by decide) (fun hc => ?_) (fun hc => ?_)
        · replace hF := it_t hF hc
          refine lv_iinc (v := y2 + 1) (lv' := [(2, .int (y2 + 1)), (3, .ref (ad 4 t3)), (0, .ref (ad 5 0)), (1, .ref (ad 2 c1))]) hx hb dX5_firstToMoveOn_43 hl (k := 3) rfl rfl (by decide) rfl ?_
          clear hl; intro ls hl
          refine lv_goto (tgt := 2) hx hb dX5_firstToMoveOn_46 (by decide) ?_
          exact ih (y2 + 1) _ _ _ hF hW hS (lv_sub hl [2, 3, 0] rfl)
        · replace hF := it_f hF hc
          refine lv_aload_n hx hb dX5_firstToMoveOn_33 rfl (lv_at hl 0 rfl) ?_
          refine gn4_6 hx hb hts hi5_firstToMoveOn_4 hown hK hW ht3 (nf_28 hN) dX5_firstToMoveOn_34 ?_
          refine lv_iconst (v := (3 : Int32)) hx hb dX5_firstToMoveOn_37 (by decide) ?_
          refine lv_icmp_eq (tgt := 43) hx hb dX5_firstToMoveOn_38 (by decide) (fun hc => ?_) (fun hc => ?_)
          · replace hF := it_t hF hc
            refine lv_iinc (v := y2 + 1) (lv' := [(2, .int (y2 + 1)), (3, .ref (ad 4 t3)), (0, .ref (ad 5 0)), (1, .ref (ad 2 c1))]) hx hb dX5_firstToMoveOn_43 hl (k := 3) rfl rfl (by decide) rfl ?_
            clear hl; intro ls hl
            refine lv_goto (tgt := 2) hx hb dX5_firstToMoveOn_46 (by decide) ?_
            exact ih (y2 + 1) _ _ _ hF hW hS (lv_sub hl [2, 3, 0] rfl)
          · replace hF := it_f hF hc
            refine lv_aload_n hx hb dX5_firstToMoveOn_41 rfl (lv_at hl 0 rfl) ?_
            have hq1 := Option.some.inj hF
            subst hq1
            exact e_q (v := (some t3)) hx hb hr hlk hK hN hW hS (q_some ht3) dX5_firstToMoveOn_42

set_option maxHeartbeats 4000000 in
set_option maxRecDepth 100000 in
theorem w5_firstToMoveOn {p : Program} {l : Launch} {e : Env} {s : State} {m : MethodId} {args : Array Value} {below : List Frame} {meth : Method} {c : Code} (C : MC p s m args meth c cX5_firstToMoveOn (some (.object "FerryTerminal$Ticket")) 4 RX5 wsX5_firstToMoveOn) {D : va_G} {cA : Nat → ClassId} {z : Nat} {ad : Nat → Nat → Nat} {N : TN} (hK : va_K D vwCl (tysW cA) s) (hN : NW s) {S : TS} {P : TP} {M : TS} (a1 : Nat) (ha1 : a1 < N 2) {v : Option Nat} (hF : f5_firstToMoveOn S P a1 = some v)
    {H : Heap} {ls : Array Slot} (hW : Wd D cA z ad N S P M H) {locs : List Loc} (hS : va_S (fun q => z ≤ q) s.heap H locs) (hl : lv_has ls 4 [(0, .ref (ad 5 0)), (1, .ref (ad 2 a1))]) : W p l e rm5_firstToMoveOn s m args below meth c H locs 0 0 (MQ below (Qq D cA z 4 v (ad, N, S, P, M)) args s 0 0 (fun q => z ≤ q)) (F0 m 0 ls []) := by
  obtain ⟨hx, hb, hr, hml, hown, hts, hlk⟩ := id C
  unfold f5_firstToMoveOn at hF
  refine lv_iconst (v := (0 : Int32)) hx hb dX5_firstToMoveOn_0 (by decide) ?_
  refine lv_istore_n (lv' := [(2, .int (0 : Int32)), (0, .ref (ad 5 0)), (1, .ref (ad 2 a1))]) hx hb dX5_firstToMoveOn_1 rfl hl (by decide) rfl ?_
  clear hl; intro ls hl
  refine w5_firstToMoveOn_2 C hK hN a1 ha1 (hE := ?_) FU (0 : Int32) _ _ _ hF hW hS (lv_sub hl [1, 2, 0] rfl)
  intro  H locs ls hF hW hS hl
  refine lv_null hx hb dX5_firstToMoveOn_49 ?_
  have hq1 := Option.some.inj hF
  subst hq1
  exact e_q (v := none) hx hb hr hlk hK hN hW hS q_none dX5_firstToMoveOn_50

set_option maxHeartbeats 4000000 in
set_option maxRecDepth 100000 in
theorem c5_firstToMoveOn (l : Launch) {D : va_G} {cA : Nat → ClassId} {z : Nat} {ad : Nat → Nat → Nat} {N : TN} {S : TS} {P : TP} {M : TS} (a1 : Nat) (ha1 : a1 < N 2) {v : Option Nat} (hF : f5_firstToMoveOn S P a1 = some v) : Met l yX5_firstToMoveOn wsX5_firstToMoveOn rm5_firstToMoveOn (va_Pc [.ref (ad 5 0), .ref (ad 2 a1)] (Wl D cA z (ad, N, S, P, M))) (Qq D cA z 4 v (ad, N, S, P, M)) 0 0 (fun q => z ≤ q) := by
  refine Met.ofW (cc := cX5_firstToMoveOn) (maxL := 4) (ret := (some (.object "FerryTerminal$Ticket"))) (by decide) rfl ?_
  intro p e s m args below meth c s₁ B hml hv
  obtain ⟨rfl, hW, hK, hN⟩ := hv
  have hl := lv_entry ([.ref (ad 5 0), .ref (ad 2 a1)]) (n := 4) (Nat.le_of_ble_eq_true rfl)
  rw [lg_entry_eq]
  generalize (lg_sl ([.ref (ad 5 0), .ref (ad 2 a1)]) ++ List.replicate (4 - (lg_sl ([.ref (ad 5 0), .ref (ad 2 a1)])).length) Slot.unset).toArray = ls at hl ⊢
  exact w5_firstToMoveOn ⟨B.exec, B.bytes, B.returns, hml, findClass_of_methodNamed B.named, atoms_spec (ws := wsX5_firstToMoveOn) B.pre, B.notSynchronized⟩ hK hN a1 ha1 hF hW va_S.rf hl

-- 5 bringRecallOn
abbrev rm5_bringRecallOn : Room := { frames := 1, cells := 0, slots := 0, locals := 24 }
def f5_bringRecallOn (S : TS) (P : TP) (a1 : Nat) : Option (TS × TP) :=
  lt (fun (S1 : TS) (P2 : TP) => (if (S1 206 a1) = 0 then
  (lt (up3 P2 207 a1 0 none) fun (P3 : TP) =>
  (f5_latestAboard S1 P3 a1).bind fun (r4 : Option Nat) =>
  r4.elim ((f5_firstToMoveOn S1 P3 a1).bind fun (r7 : Option Nat) =>
  r7.elim (lt (up S1 204 a1 (3 : Int32)) fun (S10 : TS) =>
  some (S10, P3))
  (fun (t9 : Nat) => some (S1, P3)))
  (fun (t6 : Nat) => some (S1, P3)))
  else
  (some (S1, P2)))) fun (K20 : TS → TP → Option (TS × TP)) =>
  if (S 206 a1) ≤ 0 then
  (K20 S P)
  else
  ((f5_hasBoardingTurn S P a1).bind fun (v11 : Int32) =>
  if v11 = 0 then
  (lt (up S 206 a1 (0 : Int32)) fun (S13 : TS) =>
  K20 S13 P)
  else
  (K20 S P))
set_option maxRecDepth 20000 in
theorem hi5_bringRecallOn_2 : ∀ w ∈ u_ws RX2 TX2 9, w ∈ wsX5_bringRecallOn := by decide +kernel
set_option maxHeartbeats 4000000 in
set_option maxRecDepth 100000 in
theorem w5_bringRecallOn {p : Program} {l : Launch} {e : Env} {s : State} {m : MethodId} {args : Array Value} {below : List Frame} {meth : Method} {c : Code} (C : MC p s m args meth c cX5_bringRecallOn none 2 RX5 wsX5_bringRecallOn) {D : va_G} {cA : Nat → ClassId} {z : Nat} {ad : Nat → Nat → Nat} {N : TN} (hK : va_K D vwCl (tysW cA) s) (hN : NW s) {S : TS} {P : TP} {M : TS} (a1 : Nat) (ha1 : a1 < N 2) {S' : TS} {P' : TP} (hF : f5_bringRecallOn S P a1 = some (S', P'))
    {H : Heap} {ls : Array Slot} (hW : Wd D cA z ad N S P M H) {locs : List Loc} (hS : va_S (fun q => z ≤ q) s.heap H locs) (hl : lv_has ls 2 [(0, .ref (ad 5 0)), (1, .ref (ad 2 a1))]) : W p l e rm5_bringRecallOn s m args below meth c H locs 0 0 (MQ below (Qv D cA z (ad, N, S', P', M)) args s 0 0 (fun q => z ≤ q)) (F0 m 0 ls []) := by
  obtain ⟨hx, hb, hr, hml, hown, hts, hlk⟩ := id C
  unfold f5_bringRecallOn at hF
  refine lv_aload_n hx hb dX5_bringRecallOn_0 rfl (lv_at hl 1 rfl) ?_
  refine gn2_6 hx hb hts hi5_bringRecallOn_2 hown hK hW ha1 (nf_18 hN) dX5_bringRecallOn_1 ?_
  replace hF := lt_ex hF
  obtain ⟨K20, eK20, hF⟩ := hF
  have hK20 : ∀ (S1 : TS) (P2 : TP) (H : Heap) (locs : List Loc) (ls : Array Slot), K20 S1 P2 = some (S', P') → Wd D cA z ad N S1 P2 M H → va_S (fun q => z ≤ q) s.heap H locs → lv_has ls 2 [(0, .ref (ad 5 0)), (1, .ref (ad 2 a1))] → W p l e rm5_bringRecallOn s m args below meth c H locs 0 0 (MQ below (Qv D cA z (ad, N, S', P', M)) args s 0 0 (fun q => z ≤ q)) (F0 m 20 ls []) := by
    intro S1 P2 H locs ls hF hW hS hl
    subst eK20
    refine lv_aload_n hx hb dX5_bringRecallOn_20 rfl (lv_at hl 1 rfl) ?_
    refine gn2_6 hx hb hts hi5_bringRecallOn_2 hown hK hW ha1 (nf_18 hN) dX5_bringRecallOn_21 ?_
    refine lv_if_eq (tgt := 28) hx hb dX5_bringRecallOn_24 (by decide) (fun hc => ?_) (fun hc => ?_)
    · replace hF := it_t hF hc
      refine lv_aload_n hx hb dX5_bringRecallOn_28 rfl (lv_at hl 1 rfl) ?_
      refine lv_null hx hb dX5_bringRecallOn_29 ?_
      replace hF := lt_ex hF
      obtain ⟨P3, eP3, hF⟩ := hF
      refine pn2_7 (r := none) hx hb hts hi5_bringRecallOn_2 hown hK hW hS ha1 q_none eP3 (nf_19 hN) dX5_bringRecallOn_30 ?_
      clear hW hS; intro H locs hW hS
      refine lv_aload_n hx hb dX5_bringRecallOn_33 rfl (lv_at hl 0 rfl) ?_
      refine lv_aload_n hx hb dX5_bringRecallOn_34 rfl (lv_at hl 1 rfl) ?_
      replace hF := ob hF
      obtain ⟨r4, q5, hF⟩ := hF
      refine k_q (va_runV (As := [.ref (ad 2 a1)]) (rest := []) ⟨hx, hb, hml, hown, hts⟩ (c5_latestAboard l a1 ha1 q5) (cwV 1 hts gX5_bringRecallOn_X5_latestAboard rfl rfl rfl (by decide +kernel) ⟨Nat.le_of_ble_eq_true rfl, Nat.le_of_ble_eq_true rfl⟩) (k_preV hW hK hN (hW.fx 5 rfl) (EE_5 cA ad S1 P3 M 0) rfl) rfl rfl hl.1 rfl (lv_room (Nat.le_of_ble_eq_true rfl)) dX5_bringRecallOn_35 ⟨Nat.le_of_ble_eq_true rfl, Nat.le_of_ble_eq_true rfl⟩) hS (fun H locs hW hS hr4 => ?_)
      refine q_ifnonnull (tgt := 54) hx hb dX5_bringRecallOn_38 (by decide) (fun t6 hc => ?_) (fun hc => ?_)
      · subst hc
        replace hF := el_s hF
        have ht6 := hr4 t6 rfl
        obtain ⟨hq1, hq2⟩ := Prod.mk.inj (Option.some.inj hF)
        subst hq1
        subst hq2
        exact e_v hx hb hr hlk hK hN hW hS dX5_bringRecallOn_54
      · subst hc
        replace hF := el_n hF
        refine lv_aload_n hx hb dX5_bringRecallOn_41 rfl (lv_at hl 0 rfl) ?_
        refine lv_aload_n hx hb dX5_bringRecallOn_42 rfl (lv_at hl 1 rfl) ?_
        replace hF := ob hF
        obtain ⟨r7, q8, hF⟩ := hF
        refine k_q (va_runV (As := [.ref (ad 2 a1)]) (rest := []) ⟨hx, hb, hml, hown, hts⟩ (c5_firstToMoveOn l a1 ha1 q8) (cwV 1 hts gX5_bringRecallOn_X5_firstToMoveOn rfl rfl rfl (by decide +kernel) ⟨Nat.le_of_ble_eq_true rfl, Nat.le_of_ble_eq_true rfl⟩) (k_preV hW hK hN (hW.fx 5 rfl) (EE_5 cA ad S1 P3 M 0) rfl) rfl rfl hl.1 rfl (lv_room (Nat.le_of_ble_eq_true rfl)) dX5_bringRecallOn_43 ⟨Nat.le_of_ble_eq_true rfl, Nat.le_of_ble_eq_true rfl⟩) hS (fun H locs hW hS hr7 => ?_)
        refine q_ifnonnull (tgt := 54) hx hb dX5_bringRecallOn_46 (by decide) (fun t9 hc => ?_) (fun hc => ?_)
        · subst hc
          replace hF := el_s hF
          have ht9 := hr7 t9 rfl
          obtain ⟨hq1, hq2⟩ := Prod.mk.inj (Option.some.inj hF)
          subst hq1
          subst hq2
          exact e_v hx hb hr hlk hK hN hW hS dX5_bringRecallOn_54
        · subst hc
          replace hF := el_n hF
          refine lv_aload_n hx hb dX5_bringRecallOn_49 rfl (lv_at hl 1 rfl) ?_
          refine lv_iconst (v := (3 : Int32)) hx hb dX5_bringRecallOn_50 (by decide) ?_
          replace hF := lt_ex hF
          obtain ⟨S10, eS10, hF⟩ := hF
          refine pn2_4 hx hb hts hi5_bringRecallOn_2 hown hK hW hS ha1 eS10 (nf_16 hN) dX5_bringRecallOn_51 ?_
          clear hW hS; intro H locs hW hS
          obtain ⟨hq1, hq2⟩ := Prod.mk.inj (Option.some.inj hF)
          subst hq1
          subst hq2
          exact e_v hx hb hr hlk hK hN hW hS dX5_bringRecallOn_54
    · replace hF := it_f hF hc
      obtain ⟨hq1, hq2⟩ := Prod.mk.inj (Option.some.inj hF)
      subst hq1
      subst hq2
      exact e_v hx hb hr hlk hK hN hW hS dX5_bringRecallOn_27
  clear eK20
  refine lv_if_le (tgt := 20) hx hb dX5_bringRecallOn_4 (by decide) (fun hc => ?_) (fun hc => ?_)
  · replace hF := it_t hF hc
    exact hK20 S P _ _ _ hF hW hS (lv_sub hl [0, 1] rfl)
  · replace hF := it_f hF hc
    refine lv_aload_n hx hb dX5_bringRecallOn_7 rfl (lv_at hl 0 rfl) ?_
    refine lv_aload_n hx hb dX5_bringRecallOn_8 rfl (lv_at hl 1 rfl) ?_
    replace hF := ob hF
    obtain ⟨v11, q12, hF⟩ := hF
    refine k_i (va_runV (As := [.ref (ad 2 a1)]) (rest := []) ⟨hx, hb, hml, hown, hts⟩ (c5_hasBoardingTurn l a1 ha1 q12) (cwV 1 hts gX5_bringRecallOn_X5_hasBoardingTurn rfl rfl rfl (by decide +kernel) ⟨Nat.le_of_ble_eq_true rfl, Nat.le_of_ble_eq_true rfl⟩) (k_preV hW hK hN (hW.fx 5 rfl) (EE_5 cA ad S P M 0) rfl) rfl rfl hl.1 rfl (lv_room (Nat.le_of_ble_eq_true rfl)) dX5_bringRecallOn_9 ⟨Nat.le_of_ble_eq_true rfl, Nat.le_of_ble_eq_true rfl⟩) hS ?_
    clear hW hS; intro H locs hW hS
    refine lv_if_ne (tgt := 20) hx hb dX5_bringRecallOn_12 (by decide) (fun hc => ?_) (fun hc => ?_)
    · replace hF := it_f hF hc
      exact hK20 S P _ _ _ hF hW hS (lv_sub hl [0, 1] rfl)
    · replace hF := it_t hF hc
      refine lv_aload_n hx hb dX5_bringRecallOn_15 rfl (lv_at hl 1 rfl) ?_
      refine lv_iconst (v := (0 : Int32)) hx hb dX5_bringRecallOn_16 (by decide) ?_
      replace hF := lt_ex hF
      obtain ⟨S13, eS13, hF⟩ := hF
      refine pn2_6 hx hb hts hi5_bringRecallOn_2 hown hK hW hS ha1 eS13 (nf_18 hN) dX5_bringRecallOn_17 ?_
      clear hW hS; intro H locs hW hS
      exact hK20 S13 P _ _ _ hF hW hS (lv_sub hl [0, 1] rfl)

set_option maxHeartbeats 4000000 in
set_option maxRecDepth 100000 in
theorem c5_bringRecallOn (l : Launch) {D : va_G} {cA : Nat → ClassId} {z : Nat} {ad : Nat → Nat → Nat} {N : TN} {S : TS} {P : TP} {M : TS} (a1 : Nat) (ha1 : a1 < N 2) {S' : TS} {P' : TP} (hF : f5_bringRecallOn S P a1 = some (S', P')) : Met l yX5_bringRecallOn wsX5_bringRecallOn rm5_bringRecallOn (va_Pc [.ref (ad 5 0), .ref (ad 2 a1)] (Wl D cA z (ad, N, S, P, M))) (Qv D cA z (ad, N, S', P', M)) 0 0 (fun q => z ≤ q) := by
  refine Met.ofW (cc := cX5_bringRecallOn) (maxL := 2) (ret := none) (by decide) rfl ?_
  intro p e s m args below meth c s₁ B hml hv
  obtain ⟨rfl, hW, hK, hN⟩ := hv
  have hl := lv_entry ([.ref (ad 5 0), .ref (ad 2 a1)]) (n := 2) (Nat.le_of_ble_eq_true rfl)
  rw [lg_entry_eq]
  generalize (lg_sl ([.ref (ad 5 0), .ref (ad 2 a1)]) ++ List.replicate (2 - (lg_sl ([.ref (ad 5 0), .ref (ad 2 a1)])).length) Slot.unset).toArray = ls at hl ⊢
  exact w5_bringRecallOn ⟨B.exec, B.bytes, B.returns, hml, findClass_of_methodNamed B.named, atoms_spec (ws := wsX5_bringRecallOn) B.pre, B.notSynchronized⟩ hK hN a1 ha1 hF hW va_S.rf hl


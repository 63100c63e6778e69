-- 5 total
abbrev rm5_total : Room := { frames := 2, cells := 0, slots := 0, locals := 43 }
def f5_total_27 (K : Int32 → Option (Int32)) (S : TS) (P : TP) (c2 : Int32) (c3 : Nat) : Nat → Int32 → Int32 → Option (Int32)
  | 0, _, _ => none
  | n + 1, y4, y5 =>
    if (S 507 0) ≤ y5 then
    (K y4)
    else
    ((ix y5 400).bind fun (j6 : Nat) =>
    lt (P 1000 0 j6) fun (r7 : Option Nat) =>
    r7.bind fun (t8 : Nat) =>
    lt (P 401 t8 0) fun (r9 : Option Nat) =>
    if r9 = (some c3) then
    (lt (fun (k10 : Option Nat) => (k10.bind fun (t11 : Nat) =>
    (f5_shareOfTotal S P t11 c2).bind fun (v12 : Int32) =>
    f5_total_27 K S P c2 c3 n (y4 + v12) (y5 + 1))) fun (K73 : Option Nat → Option (Int32)) =>
    if (S 406 t8) = (3 : Int32) then
    (K73 (some t8))
    else
    (if (S 406 t8) = (6 : Int32) then
    (K73 (some t8))
    else
    (f5_total_27 K S P c2 c3 n y4 (y5 + 1))))
    else
    (f5_total_27 K S P c2 c3 n y4 (y5 + 1)))

def f5_total (S : TS) (P : TP) (a1 : Int32) (a2 : Int32) : Option (Int32) :=
  (f5_sailingNumbered S P a1).bind fun (r1 : Option Nat) =>
  r1.elim (some (-1 : Int32))
  (fun (t3 : Nat) => (f5_within a2 (0 : Int32) (3 : Int32)).bind fun (v4 : Int32) =>
  if v4 = 0 then
  (some (-1 : Int32))
  else
  (f5_total_27 (fun (w14 : Int32) =>
  some w14) S P a2 t3 FU (0 : Int32) (0 : Int32)))
set_option maxRecDepth 20000 in
theorem hi5_total_4 : ∀ w ∈ u_ws RX4 TX4 16, w ∈ wsX5_total := by decide +kernel
set_option maxRecDepth 20000 in
theorem hi5_total_5 : ∀ w ∈ u_ws RX5 TX5 12, w ∈ wsX5_total := by decide +kernel
set_option maxHeartbeats 4000000 in
set_option maxRecDepth 100000 in
theorem w5_total_27 {p : Program} {l : Launch} {e : Env} {s : State} {m : MethodId} {args : Array Value} {below : List Frame} {meth : Method} {c : Code} (C : MC p s m args meth c cX5_total (some .int) 7 RX5 wsX5_total) {D : va_G} {cA : Nat → ClassId} {z : Nat} {ad : Nat → Nat → Nat} {N : TN} (hK : va_K D vwCl (tysW cA) s) (hN : NW s) {M : TS} {S : TS} {P : TP} (c2 : Int32) (c3 : Nat) (hc3 : c3 < N 2) {v : Int32} {K : Int32 → Option (Int32)}
    (hE : ∀ (e4 : Int32) (H : Heap) (locs : List Loc) (ls : Array Slot), K e4 = some v → Wd D cA z ad N S P M H → va_S (fun q => z ≤ q) s.heap H locs → lv_has ls 7 [(4, .int e4)] → W p l e rm5_total s m args below meth c H locs 0 0 (MQ below (Qi D cA z v (ad, N, S, P, M)) args s 0 0 (fun q => z ≤ q)) (F0 m 90 ls [])) :
    ∀ (n : Nat) (y4 : Int32) (y5 : Int32) (H : Heap) (locs : List Loc) (ls : Array Slot), f5_total_27 K S P c2 c3 n y4 y5 = some v → Wd D cA z ad N S P M H → va_S (fun q => z ≤ q) s.heap H locs → lv_has ls 7 [(0, .ref (ad 5 0)), (2, .int c2), (3, .ref (ad 2 c3)), (4, .int y4), (5, .int y5)] → W p l e rm5_total s m args below meth c H locs 0 0 (MQ below (Qi D cA z v (ad, N, S, P, M)) args s 0 0 (fun q => z ≤ q)) (F0 m 27 ls []) := by
  obtain ⟨hx, hb, hr, hml, hown, hts, hlk⟩ := id C
  intro n
  induction n with
  | zero => intro y4 y5 H locs ls hF; cases hF
  | succ n ih =>
    intro y4 y5 H locs ls hF hW hS hl
    rw [f5_total_27] at hF
    refine lv_iload hx hb dX5_total_27 (lv_at hl 4 rfl) ?_
    refine lv_aload_n hx hb dX5_total_29 rfl (lv_at hl 0 rfl) ?_
    refine g5_7 hx hb hts hi5_total_5 hown hK hW (hts (.fieldLink RX5 100 RX5 "ticketCount" "I") (by decide +kernel)) dX5_total_30 ?_
    refine lv_icmp_ge (tgt := 90) hx hb dX5_total_33 (by decide) (fun hc => ?_) (fun hc => ?_)
    · replace hF := it_t hF hc
      exact hE y4 _ _ _ hF hW hS (lv_sub hl [3] rfl)
    · replace hF := it_f hF hc
      refine lv_aload_n hx hb dX5_total_36 rfl (lv_at hl 0 rfl) ?_
      refine g5_6 hx hb hts hi5_total_5 hown hK hW (hts (.fieldLink RX5 29 RX5 "tickets" "[LFerryTerminal$Ticket;") (by decide +kernel)) dX5_total_37 ?_
      refine lv_iload hx hb dX5_total_40 (lv_at hl 4 rfl) ?_
      replace hF := ob hF
      obtain ⟨j6, ej6, hF⟩ := hF
      replace hF := lt_ex hF
      obtain ⟨r7, er7, hF⟩ := hF
      have hr7 : ∀ y, r7 = some y → y < N 4 := hW.v er7
      refine l10 hx hb hK hW ej6 er7 dX5_total_42 ?_
      refine q_astore (lv' := [(6, va_rf (r7.map (ad 4))), (0, .ref (ad 5 0)), (2, .int c2), (3, .ref (ad 2 c3)), (4, .int y4), (5, .int y5)]) hx hb dX5_total_43 hl (by decide) rfl ?_
      clear hl; intro ls hl
      refine q_aload hx hb dX5_total_45 (lv_at hl 0 rfl) ?_
      replace hF := ob hF
      obtain ⟨t8, et8, hF⟩ := hF
      subst et8
      have ht8 := hr7 t8 rfl
      replace hl : lv_has ls 7 [(6, .ref (ad 4 t8)), (0, .ref (ad 5 0)), (2, .int c2), (3, .ref (ad 2 c3)), (4, .int y4), (5, .int y5)] := hl
      replace hF := lt_ex hF
      obtain ⟨r9, er9, hF⟩ := hF
      have hr9 : ∀ y, r9 = some y → y < N 2 := hW.v er9
      refine gn4_1 hx hb hts hi5_total_4 hown hK hW ht8 er9 (nf_22 hN) dX5_total_47 ?_
      refine lv_aload_n hx hb dX5_total_50 rfl (lv_at hl 3 rfl) ?_
      refine q_acmp_ne hx hb hW 2 r9 (some c3) hr9 (q_some hc3) (tgt := 84) dX5_total_51 (by decide) (fun hc => ?_) (fun hc => ?_)
      · replace hF := it_f hF hc
        refine lv_iinc (v := y5 + 1) (lv' := [(5, .int (y5 + 1)), (6, .ref (ad 4 t8)), (0, .ref (ad 5 0)), (2, .int c2), (3, .ref (ad 2 c3)), (4, .int y4)]) hx hb dX5_total_84 hl (k := 5) rfl rfl (by decide) rfl ?_
        clear hl; intro ls hl
        refine lv_goto (tgt := 27) hx hb dX5_total_87 (by decide) ?_
        exact ih y4 (y5 + 1) _ _ _ hF hW hS (lv_sub hl [2, 3, 4, 5, 0] rfl)
      · replace hF := it_t hF hc
        refine lv_aload hx hb dX5_total_54 (lv_at hl 0 rfl) ?_
        refine gn4_6 hx hb hts hi5_total_4 hown hK hW ht8 (nf_28 hN) dX5_total_56 ?_
        refine lv_iconst (v := (3 : Int32)) hx hb dX5_total_59 (by decide) ?_
        replace hF := lt_ex hF
        obtain ⟨K73, eK73, hF⟩ := hF
        have hK73 : ∀ (k10 : Option Nat) (H : Heap) (locs : List Loc) (ls : Array Slot), K73 k10 = some v → (∀ y, k10 = some y → y < N 4) → Wd D cA z ad N S P M H → va_S (fun q => z ≤ q) s.heap H locs → lv_has ls 7 [(0, .ref (ad 5 0)), (2, .int c2), (3, .ref (ad 2 c3)), (4, .int y4), (5, .int y5), (6, va_rf (k10.map (ad 4)))] → W p l e rm5_total s m args below meth c H locs 0 0 (MQ below (Qi D cA z v (ad, N, S, P, M)) args s 0 0 (fun q => z ≤ q)) (F0 m 73 ls []) := by
          intro k10 H locs ls hF hk10 hW hS hl
          subst eK73
          refine lv_iload hx hb dX5_total_73 (lv_at hl 3 rfl) ?_
          refine q_aload hx hb dX5_total_75 (lv_at hl 5 rfl) ?_
          refine lv_iload_n hx hb dX5_total_77 rfl (lv_at hl 1 rfl) ?_
          replace hF := ob hF
          obtain ⟨t11, et11, hF⟩ := hF
          subst et11
          have ht11 := hk10 t11 rfl
          replace hl : lv_has ls 7 [(0, .ref (ad 5 0)), (2, .int c2), (3, .ref (ad 2 c3)), (4, .int y4), (5, .int y5), (6, .ref (ad 4 t11))] := hl
          replace hF := ob hF
          obtain ⟨v12, q13, hF⟩ := hF
          refine k_i (va_runS (As := [.ref (ad 4 t11), .int c2]) (rest := [.int y4]) ⟨hx, hb, hml, hown, hts⟩ (c5_shareOfTotal l t11 c2 ht11 q13) (va_cwS 2 hts gX5_total_X5_shareOfTotal rfl rfl rfl (by decide +kernel) ⟨Nat.le_of_ble_eq_true rfl, Nat.le_of_ble_eq_true rfl⟩) (k_preS hW hK hN) rfl rfl hl.1 rfl (lv_room (Nat.le_of_ble_eq_true rfl)) dX5_total_78 ⟨Nat.le_of_ble_eq_true rfl, Nat.le_of_ble_eq_true rfl⟩) hS ?_
          clear hW hS; intro H locs hW hS
          refine lv_iadd hx hb dX5_total_81 ?_
          refine lv_istore (lv' := [(4, .int (y4 + v12)), (0, .ref (ad 5 0)), (2, .int c2), (3, .ref (ad 2 c3)), (5, .int y5), (6, .ref (ad 4 t11))]) hx hb dX5_total_82 hl (by decide) rfl ?_
          clear hl; intro ls hl
          refine lv_iinc (v := y5 + 1) (lv' := [(5, .int (y5 + 1)), (4, .int (y4 + v12)), (0, .ref (ad 5 0)), (2, .int c2), (3, .ref (ad 2 c3)), (6, .ref (ad 4 t11))]) hx hb dX5_total_84 hl (k := 4) rfl rfl (by decide) rfl ?_
          clear hl; intro ls hl
          refine lv_goto (tgt := 27) hx hb dX5_total_87 (by decide) ?_
          exact ih (y4 + v12) (y5 + 1) _ _ _ hF hW hS (lv_sub hl [2, 3, 4, 1, 0] rfl)
        clear eK73
        refine lv_icmp_eq (tgt := 73) hx hb dX5_total_60 (by decide) (fun hc => ?_) (fun hc => ?_)
        · replace hF := it_t hF hc
          exact hK73 (some t8) _ _ _ hF (q_some ht8) hW hS (lv_sub hl [1, 2, 3, 4, 5, 0] rfl)
        · replace hF := it_f hF hc
          refine lv_aload hx hb dX5_total_63 (lv_at hl 0 rfl) ?_
          refine gn4_6 hx hb hts hi5_total_4 hown hK hW ht8 (nf_28 hN) dX5_total_65 ?_
          refine lv_bipush (v := (6 : Int32)) hx hb dX5_total_68 (by decide) ?_
          refine lv_icmp_ne (tgt := 84) hx hb dX5_total_70 (by decide) (fun hc => ?_) (fun hc => ?_)
          · replace hF := it_f hF hc
            refine lv_iinc (v := y5 + 1) (lv' := [(5, .int (y5 + 1)), (6, .ref (ad 4 t8)), (0, .ref (ad 5 0)), (2, .int c2), (3, .ref (ad 2 c3)), (4, .int y4)]) hx hb dX5_total_84 hl (k := 5) rfl rfl (by decide) rfl ?_
            clear hl; intro ls hl
            refine lv_goto (tgt := 27) hx hb dX5_total_87 (by decide) ?_
            exact ih y4 (y5 + 1) _ _ _ hF hW hS (lv_sub hl [2, 3, 4, 5, 0] rfl)
          · replace hF := it_t hF hc
            exact hK73 (some t8) _ _ _ hF (q_some ht8) hW hS (lv_sub hl [1, 2, 3, 4, 5, 0] rfl)

set_option maxHeartbeats 4000000 in
set_option maxRecDepth 100000 in
theorem w5_total {p : Program} {l : Launch} {e : Env} {s : State} {m : MethodId} {args : Array Value} {below : List Frame} {meth : Method} {c : Code} (C : MC p s m args meth c cX5_total (some .int) 7 RX5 wsX5_total) {D : va_G} {cA : Nat → ClassId} {z : Nat} {ad : Nat → Nat → Nat} {N : TN} (hK : va_K D vwCl (tysW cA) s) (hN : NW s) {S : TS} {P : TP} {M : TS} (a1 : Int32) (a2 : Int32) {v : Int32} (hF : f5_total S P a1 a2 = some v)
    {H : Heap} {ls : Array Slot} (hW : Wd D cA z ad N S P M H) {locs : List Loc} (hS : va_S (fun q => z ≤ q) s.heap H locs) (hl : lv_has ls 7 [(0, .ref (ad 5 0)), (1, .int a1), (2, .int a2)]) : W p l e rm5_total s m args below meth c H locs 0 0 (MQ below (Qi D cA z v (ad, N, S, P, M)) args s 0 0 (fun q => z ≤ q)) (F0 m 0 ls []) := by
  obtain ⟨hx, hb, hr, hml, hown, hts, hlk⟩ := id C
  unfold f5_total at hF
  refine lv_aload_n hx hb dX5_total_0 rfl (lv_at hl 0 rfl) ?_
  refine lv_iload_n hx hb dX5_total_1 rfl (lv_at hl 1 rfl) ?_
  replace hF := ob hF
  obtain ⟨r1, q2, hF⟩ := hF
  refine k_q (va_runV (As := [.int a1]) (rest := []) ⟨hx, hb, hml, hown, hts⟩ (c5_sailingNumbered l a1 q2) (cwV 1 hts gX5_total_X5_sailingNumbered rfl rfl rfl (by decide +kernel) ⟨Nat.le_of_ble_eq_true rfl, Nat.le_of_ble_eq_true rfl⟩) (k_preV hW hK hN (hW.fx 5 rfl) (EE_5 cA ad S P M 0) rfl) rfl rfl hl.1 rfl (lv_room (Nat.le_of_ble_eq_true rfl)) dX5_total_2 ⟨Nat.le_of_ble_eq_true rfl, Nat.le_of_ble_eq_true rfl⟩) hS (fun H locs hW hS hr1 => ?_)
  refine q_astore_n (lv' := [(3, va_rf (r1.map (ad 2))), (0, .ref (ad 5 0)), (1, .int a1), (2, .int a2)]) hx hb dX5_total_5 rfl hl (by decide) rfl ?_
  clear hl; intro ls hl
  refine q_aload_n hx hb dX5_total_6 rfl (lv_at hl 0 rfl) ?_
  refine q_ifnull (tgt := 19) hx hb dX5_total_7 (by decide) (fun hc => ?_) (fun t3 hc => ?_)
  · subst hc
    replace hF := el_n hF
    replace hl : lv_has ls 7 [(3, .null), (0, .ref (ad 5 0)), (1, .int a1), (2, .int a2)] := hl
    refine lv_iconst (v := (-1 : Int32)) hx hb dX5_total_19 (by decide) ?_
    have hq1 := Option.some.inj hF
    subst hq1
    exact e_i hx hb hr hlk hK hN hW hS dX5_total_20
  · subst hc
    replace hF := el_s hF
    have ht3 := hr1 t3 rfl
    replace hl : lv_has ls 7 [(3, .ref (ad 2 t3)), (0, .ref (ad 5 0)), (1, .int a1), (2, .int a2)] := hl
    refine lv_iload_n hx hb dX5_total_10 rfl (lv_at hl 3 rfl) ?_
    refine lv_iconst (v := (0 : Int32)) hx hb dX5_total_11 (by decide) ?_
    refine lv_iconst (v := (3 : Int32)) hx hb dX5_total_12 (by decide) ?_
    replace hF := ob hF
    obtain ⟨v4, q5, hF⟩ := hF
    refine k_i (va_runS (As := [.int a2, .int (0 : Int32), .int (3 : Int32)]) (rest := []) ⟨hx, hb, hml, hown, hts⟩ (c5_within l a2 (0 : Int32) (3 : Int32) q5) (va_cwS 3 hts gX5_total_X5_within rfl rfl rfl (by decide +kernel) ⟨Nat.le_of_ble_eq_true rfl, Nat.le_of_ble_eq_true rfl⟩) (k_preS hW hK hN) rfl rfl hl.1 rfl (lv_room (Nat.le_of_ble_eq_true rfl)) dX5_total_13 ⟨Nat.le_of_ble_eq_true rfl, Nat.le_of_ble_eq_true rfl⟩) hS ?_
    clear hW hS; intro H locs hW hS
    refine lv_if_ne (tgt := 21) hx hb dX5_total_16 (by decide) (fun hc => ?_) (fun hc => ?_)
    · replace hF := it_f hF hc
      refine lv_iconst (v := (0 : Int32)) hx hb dX5_total_21 (by decide) ?_
      refine lv_istore (lv' := [(4, .int (0 : Int32)), (3, .ref (ad 2 t3)), (0, .ref (ad 5 0)), (1, .int a1), (2, .int a2)]) hx hb dX5_total_22 hl (by decide) rfl ?_
      clear hl; intro ls hl
      refine lv_iconst (v := (0 : Int32)) hx hb dX5_total_24 (by decide) ?_
      refine lv_istore (lv' := [(5, .int (0 : Int32)), (4, .int (0 : Int32)), (3, .ref (ad 2 t3)), (0, .ref (ad 5 0)), (1, .int a1), (2, .int a2)]) hx hb dX5_total_25 hl (by decide) rfl ?_
      clear hl; intro ls hl
      refine w5_total_27 C hK hN a2 t3 ht3 (hE := ?_) FU (0 : Int32) (0 : Int32) _ _ _ hF hW hS (lv_sub hl [3, 5, 2, 1, 0] rfl)
      intro w14 H locs ls hF hW hS hl
      refine lv_iload hx hb dX5_total_90 (lv_at hl 0 rfl) ?_
      have hq1 := Option.some.inj hF
      subst hq1
      exact e_i hx hb hr hlk hK hN hW hS dX5_total_92
    · replace hF := it_t hF hc
      refine lv_iconst (v := (-1 : Int32)) hx hb dX5_total_19 (by decide) ?_
      have hq1 := Option.some.inj hF
      subst hq1
      exact e_i hx hb hr hlk hK hN hW hS dX5_total_20

set_option maxHeartbeats 4000000 in
set_option maxRecDepth 100000 in
theorem c5_total (l : Launch) {D : va_G} {cA : Nat → ClassId} {z : Nat} {ad : Nat → Nat → Nat} {N : TN} {S : TS} {P : TP} {M : TS} (a1 : Int32) (a2 : Int32) {v : Int32} (hF : f5_total S P a1 a2 = some v) : Met l yX5_total wsX5_total rm5_total (va_Pc [.ref (ad 5 0), .int a1, .int a2] (Wl D cA z (ad, N, S, P, M))) (Qi D cA z v (ad, N, S, P, M)) 0 0 (fun q => z ≤ q) := by
  refine Met.ofW (cc := cX5_total) (maxL := 7) (ret := (some .int)) (by decide) rfl ?_
  intro p e s m args below meth c s₁ B hml hv
  obtain ⟨rfl, hW, hK, hN⟩ := hv
  have hl := lv_entry ([.ref (ad 5 0), .int a1, .int a2]) (n := 7) (Nat.le_of_ble_eq_true rfl)
  rw [lg_entry_eq]
  generalize (lg_sl ([.ref (ad 5 0), .int a1, .int a2]) ++ List.replicate (7 - (lg_sl ([.ref (ad 5 0), .int a1, .int a2])).length) Slot.unset).toArray = ls at hl ⊢
  exact w5_total ⟨B.exec, B.bytes, B.returns, hml, findClass_of_methodNamed B.named, atoms_spec (ws := wsX5_total) B.pre, B.notSynchronized⟩ hK hN a1 a2 hF hW va_S.rf hl

-- 6 of
abbrev rm6_of : Room := { frames := 0, cells := 0, slots := 0, locals := 0 }
def f6_of (M : TS) (a1 : Int32) (a2 : Int32) : Option (Int32) :=
  (ix (((13 : Int32) * a1) + a2) 5200).bind fun (j1 : Nat) =>
  some (M 3500 j1)
set_option maxRecDepth 20000 in
theorem hi6_of_6 : ∀ w ∈ u_ws RX6 TX6 31, w ∈ wsX6_of := by decide +kernel
set_option maxHeartbeats 4000000 in
set_option maxRecDepth 100000 in
theorem w6_of {p : Program} {l : Launch} {e : Env} {s : State} {m : MethodId} {args : Array Value} {below : List Frame} {meth : Method} {c : Code} (C : MC p s m args meth c cX6_of (some .int) 3 RX6 wsX6_of) {D : va_G} {cA : Nat → ClassId} {z : Nat} {ad : Nat → Nat → Nat} {N : TN} (hK : va_K D vwCl (tysW cA) s) (hN : NW s) {S : TS} {P : TP} {M : TS} (a1 : Int32) (a2 : Int32) {v : Int32} (hF : f6_of M a1 a2 = some v)
    {H : Heap} {ls : Array Slot} (hW : Wd D cA z ad N S P M H) {locs : List Loc} (hS : va_S (fun q => z ≤ q) s.heap H locs) (hl : lv_has ls 3 [(0, .ref (ad 6 0)), (1, .int a1), (2, .int a2)]) : W p l e rm6_of s m args below meth c H locs 0 0 (MQ below (Qi D cA z v (ad, N, S, P, M)) args s 0 0 (fun q => z ≤ q)) (F0 m 0 ls []) := by
  obtain ⟨hx, hb, hr, hml, hown, hts, hlk⟩ := id C
  unfold f6_of at hF
  refine lv_aload_n hx hb dX6_of_0 rfl (lv_at hl 0 rfl) ?_
  refine g6_15 hx hb hts hi6_of_6 hown hK hW (hts (.fieldLink RX6 56 RX6 "ticket" "[I") (by decide +kernel)) dX6_of_1 ?_
  refine lv_bipush (v := (13 : Int32)) hx hb dX6_of_4 (by decide) ?_
  refine lv_iload_n hx hb dX6_of_6 rfl (lv_at hl 1 rfl) ?_
  refine lv_imul hx hb dX6_of_7 ?_
  refine lv_iload_n hx hb dX6_of_8 rfl (lv_at hl 2 rfl) ?_
  refine lv_iadd hx hb dX6_of_9 ?_
  replace hF := ob hF
  obtain ⟨j1, ej1, hF⟩ := hF
  refine l35 hx hb hK hW ej1 dX6_of_10 ?_
  have hq1 := Option.some.inj hF
  subst hq1
  exact e_i hx hb hr hlk hK hN hW hS dX6_of_11

set_option maxHeartbeats 4000000 in
set_option maxRecDepth 100000 in
theorem c6_of (l : Launch) {D : va_G} {cA : Nat → ClassId} {z : Nat} {ad : Nat → Nat → Nat} {N : TN} {S : TS} {P : TP} {M : TS} (a1 : Int32) (a2 : Int32) {v : Int32} (hF : f6_of M a1 a2 = some v) : Met l yX6_of wsX6_of rm6_of (va_Pc [.ref (ad 6 0), .int a1, .int a2] (Wl D cA z (ad, N, S, P, M))) (Qi D cA z v (ad, N, S, P, M)) 0 0 (fun q => z ≤ q) := by
  refine Met.ofW (cc := cX6_of) (maxL := 3) (ret := (some .int)) (by decide) rfl ?_
  intro p e s m args below meth c s₁ B hml hv
  obtain ⟨rfl, hW, hK, hN⟩ := hv
  have hl := lv_entry ([.ref (ad 6 0), .int a1, .int a2]) (n := 3) (Nat.le_of_ble_eq_true rfl)
  rw [lg_entry_eq]
  generalize (lg_sl ([.ref (ad 6 0), .int a1, .int a2]) ++ List.replicate (3 - (lg_sl ([.ref (ad 6 0), .int a1, .int a2])).length) Slot.unset).toArray = ls at hl ⊢
  exact w6_of ⟨B.exec, B.bytes, B.returns, hml, findClass_of_methodNamed B.named, atoms_spec (ws := wsX6_of) B.pre, B.notSynchronized⟩ hK hN a1 a2 hF hW va_S.rf hl

-- 6 isIn
abbrev rm6_isIn : Room := { frames := 0, cells := 0, slots := 0, locals := 0 }
def f6_isIn (a0 : Int32) (a1 : Int32) (a2 : Int32) : Option (Int32) :=
  if a0 < a1 then
  (some (0 : Int32))
  else
  (if a2 < a0 then
  (some (0 : Int32))
  else
  (some (1 : Int32)))
set_option maxHeartbeats 4000000 in
set_option maxRecDepth 100000 in
theorem w6_isIn {p : Program} {l : Launch} {e : Env} {s : State} {m : MethodId} {args : Array Value} {below : List Frame} {meth : Method} {c : Code} (C : MC p s m args meth c cX6_isIn (some .boolean) 3 RX6 wsX6_isIn) {D : va_G} {cA : Nat → ClassId} {z : Nat} {ad : Nat → Nat → Nat} {N : TN} (hK : va_K D vwCl (tysW cA) s) (hN : NW s) {S : TS} {P : TP} {M : TS} (a0 : Int32) (a1 : Int32) (a2 : Int32) {v : Int32} (hF : f6_isIn a0 a1 a2 = some v)
    {H : Heap} {ls : Array Slot} (hW : Wd D cA z ad N S P M H) {locs : List Loc} (hS : va_S (fun q => z ≤ q) s.heap H locs) (hl : lv_has ls 3 [(0, .int a0), (1, .int a1), (2, .int a2)]) : W p l e rm6_isIn s m args below meth c H locs 0 0 (MQ below (Qi D cA z v (ad, N, S, P, M)) args s 0 0 (fun q => z ≤ q)) (F0 m 0 ls []) := by
  obtain ⟨hx, hb, hr, hml, hown, hts, hlk⟩ := id C
  unfold f6_isIn at hF
  refine lv_iload_n hx hb dX6_isIn_0 rfl (lv_at hl 0 rfl) ?_
  refine lv_iload_n hx hb dX6_isIn_1 rfl (lv_at hl 1 rfl) ?_
  refine lv_icmp_lt (tgt := 14) hx hb dX6_isIn_2 (by decide) (fun hc => ?_) (fun hc => ?_)
  · replace hF := it_t hF hc
    refine lv_iconst (v := (0 : Int32)) hx hb dX6_isIn_14 (by decide) ?_
    have hq1 := Option.some.inj hF
    subst hq1
    exact e_z hx hb hr hlk hK hN hW hS (by decide) dX6_isIn_15
  · replace hF := it_f hF hc
    refine lv_iload_n hx hb dX6_isIn_5 rfl (lv_at hl 0 rfl) ?_
    refine lv_iload_n hx hb dX6_isIn_6 rfl (lv_at hl 2 rfl) ?_
    refine lv_icmp_gt (tgt := 14) hx hb dX6_isIn_7 (by decide) (fun hc => ?_) (fun hc => ?_)
    · replace hF := it_t hF hc
      refine lv_iconst (v := (0 : Int32)) hx hb dX6_isIn_14 (by decide) ?_
      have hq1 := Option.some.inj hF
      subst hq1
      exact e_z hx hb hr hlk hK hN hW hS (by decide) dX6_isIn_15
    · replace hF := it_f hF hc
      refine lv_iconst (v := (1 : Int32)) hx hb dX6_isIn_10 (by decide) ?_
      refine lv_goto (tgt := 15) hx hb dX6_isIn_11 (by decide) ?_
      have hq1 := Option.some.inj hF
      subst hq1
      exact e_z hx hb hr hlk hK hN hW hS (by decide) dX6_isIn_15

set_option maxHeartbeats 4000000 in
set_option maxRecDepth 100000 in
theorem c6_isIn (l : Launch) {D : va_G} {cA : Nat → ClassId} {z : Nat} {ad : Nat → Nat → Nat} {N : TN} {S : TS} {P : TP} {M : TS} (a0 : Int32) (a1 : Int32) (a2 : Int32) {v : Int32} (hF : f6_isIn a0 a1 a2 = some v) : Met l yX6_isIn wsX6_isIn rm6_isIn (va_Pc [.int a0, .int a1, .int a2] (Wl D cA z (ad, N, S, P, M))) (Qi D cA z v (ad, N, S, P, M)) 0 0 (fun q => z ≤ q) := by
  refine Met.ofW (cc := cX6_isIn) (maxL := 3) (ret := (some .boolean)) (by decide) rfl ?_
  intro p e s m args below meth c s₁ B hml hv
  obtain ⟨rfl, hW, hK, hN⟩ := hv
  have hl := lv_entry ([.int a0, .int a1, .int a2]) (n := 3) (Nat.le_of_ble_eq_true rfl)
  rw [lg_entry_eq]
  generalize (lg_sl ([.int a0, .int a1, .int a2]) ++ List.replicate (3 - (lg_sl ([.int a0, .int a1, .int a2])).length) Slot.unset).toArray = ls at hl ⊢
  exact w6_isIn ⟨B.exec, B.bytes, B.returns, hml, findClass_of_methodNamed B.named, atoms_spec (ws := wsX6_isIn) B.pre, B.notSynchronized⟩ hK hN a0 a1 a2 hF hW va_S.rf hl

-- 6 isAboard
abbrev rm6_isAboard : Room := { frames := 1, cells := 0, slots := 0, locals := 22 }
def f6_isAboard (M : TS) (a1 : Int32) (a2 : Int32) : Option (Int32) :=
  (f6_of M a1 (0 : Int32)).bind fun (v1 : Int32) =>
  if v1 = a2 then
  ((f6_of M a1 (4 : Int32)).bind fun (v3 : Int32) =>
  if v3 = (3 : Int32) then
  (some (1 : Int32))
  else
  (some (0 : Int32)))
  else
  (some (0 : Int32))
set_option maxHeartbeats 4000000 in
set_option maxRecDepth 100000 in
theorem w6_isAboard {p : Program} {l : Launch} {e : Env} {s : State} {m : MethodId} {args : Array Value} {below : List Frame} {meth : Method} {c : Code} (C : MC p s m args meth c cX6_isAboard (some .boolean) 3 RX6 wsX6_isAboard) {D : va_G} {cA : Nat → ClassId} {z : Nat} {ad : Nat → Nat → Nat} {N : TN} (hK : va_K D vwCl (tysW cA) s) (hN : NW s) {S : TS} {P : TP} {M : TS} (a1 : Int32) (a2 : Int32) {v : Int32} (hF : f6_isAboard M a1 a2 = some v)
    {H : Heap} {ls : Array Slot} (hW : Wd D cA z ad N S P M H) {locs : List Loc} (hS : va_S (fun q => z ≤ q) s.heap H locs) (hl : lv_has ls 3 [(0, .ref (ad 6 0)), (1, .int a1), (2, .int a2)]) : W p l e rm6_isAboard s m args below meth c H locs 0 0 (MQ below (Qi D cA z v (ad, N, S, P, M)) args s 0 0 (fun q => z ≤ q)) (F0 m 0 ls []) := by
  obtain ⟨hx, hb, hr, hml, hown, hts, hlk⟩ := id C
  unfold f6_isAboard at hF
  refine lv_aload_n hx hb dX6_isAboard_0 rfl (lv_at hl 0 rfl) ?_
  refine lv_iload_n hx hb dX6_isAboard_1 rfl (lv_at hl 1 rfl) ?_
  refine lv_iconst (v := (0 : Int32)) hx hb dX6_isAboard_2 (by decide) ?_
  replace hF := ob hF
  obtain ⟨v1, q2, hF⟩ := hF
  refine k_i (va_runV (As := [.int a1, .int (0 : Int32)]) (rest := []) ⟨hx, hb, hml, hown, hts⟩ (c6_of l a1 (0 : Int32) q2) (cwV 2 hts gX6_isAboard_X6_of rfl rfl rfl (by decide +kernel) ⟨Nat.le_of_ble_eq_true rfl, Nat.le_of_ble_eq_true rfl⟩) (k_preV hW hK hN (hW.fx 6 rfl) (EE_6 cA ad S P M 0) rfl) rfl rfl hl.1 rfl (lv_room (Nat.le_of_ble_eq_true rfl)) dX6_isAboard_3 ⟨Nat.le_of_ble_eq_true rfl, Nat.le_of_ble_eq_true rfl⟩) hS ?_
  clear hW hS; intro H locs hW hS
  refine lv_iload_n hx hb dX6_isAboard_6 rfl (lv_at hl 2 rfl) ?_
  refine lv_icmp_ne (tgt := 24) hx hb dX6_isAboard_7 (by decide) (fun hc => ?_) (fun hc => ?_)
  · replace hF := it_f hF hc
    refine lv_iconst (v := (0 : Int32)) hx hb dX6_isAboard_24 (by decide) ?_
    have hq1 := Option.some.inj hF
    subst hq1
    exact e_z hx hb hr hlk hK hN hW hS (by decide) dX6_isAboard_25
  · replace hF := it_t hF hc
    refine lv_aload_n hx hb dX6_isAboard_10 rfl (lv_at hl 0 rfl) ?_
    refine lv_iload_n hx hb dX6_isAboard_11 rfl (lv_at hl 1 rfl) ?_
    refine lv_iconst (v := (4 : Int32)) hx hb dX6_isAboard_12 (by decide) ?_
    replace hF := ob hF
    obtain ⟨v3, q4, hF⟩ := hF
    refine k_i (va_runV (As := [.int a1, .int (4 : Int32)]) (rest := []) ⟨hx, hb, hml, hown, hts⟩ (c6_of l a1 (4 : Int32) q4) (cwV 2 hts gX6_isAboard_X6_of rfl rfl rfl (by decide +kernel) ⟨Nat.le_of_ble_eq_true rfl, Nat.le_of_ble_eq_true rfl⟩) (k_preV hW hK hN (hW.fx 6 rfl) (EE_6 cA ad S P M 0) rfl) rfl rfl hl.1 rfl (lv_room (Nat.le_of_ble_eq_true rfl)) dX6_isAboard_13 ⟨Nat.le_of_ble_eq_true rfl, Nat.le_of_ble_eq_true rfl⟩) hS ?_
    clear hW hS; intro H locs hW hS
    refine lv_iconst (v := (3 : Int32)) hx hb dX6_isAboard_16 (by decide) ?_
    refine lv_icmp_ne (tgt := 24) hx hb dX6_isAboard_17 (by decide) (fun hc => ?_) (fun hc => ?_)
    · replace hF := it_f hF hc
      refine lv_iconst (v := (0 : Int32)) hx hb dX6_isAboard_24 (by decide) ?_
      have hq1 := Option.some.inj hF
      subst hq1
      exact e_z hx hb hr hlk hK hN hW hS (by decide) dX6_isAboard_25
    · replace hF := it_t hF hc
      refine lv_iconst (v := (1 : Int32)) hx hb dX6_isAboard_20 (by decide) ?_
      refine lv_goto (tgt := 25) hx hb dX6_isAboard_21 (by decide) ?_
      have hq1 := Option.some.inj hF
      subst hq1
      exact e_z hx hb hr hlk hK hN hW hS (by decide) dX6_isAboard_25

set_option maxHeartbeats 4000000 in
set_option maxRecDepth 100000 in
theorem c6_isAboard (l : Launch) {D : va_G} {cA : Nat → ClassId} {z : Nat} {ad : Nat → Nat → Nat} {N : TN} {S : TS} {P : TP} {M : TS} (a1 : Int32) (a2 : Int32) {v : Int32} (hF : f6_isAboard M a1 a2 = some v) : Met l yX6_isAboard wsX6_isAboard rm6_isAboard (va_Pc [.ref (ad 6 0), .int a1, .int a2] (Wl D cA z (ad, N, S, P, M))) (Qi D cA z v (ad, N, S, P, M)) 0 0 (fun q => z ≤ q) := by
  refine Met.ofW (cc := cX6_isAboard) (maxL := 3) (ret := (some .boolean)) (by decide) rfl ?_
  intro p e s m args below meth c s₁ B hml hv
  obtain ⟨rfl, hW, hK, hN⟩ := hv
  have hl := lv_entry ([.ref (ad 6 0), .int a1, .int a2]) (n := 3) (Nat.le_of_ble_eq_true rfl)
  rw [lg_entry_eq]
  generalize (lg_sl ([.ref (ad 6 0), .int a1, .int a2]) ++ List.replicate (3 - (lg_sl ([.ref (ad 6 0), .int a1, .int a2])).length) Slot.unset).toArray = ls at hl ⊢
  exact w6_isAboard ⟨B.exec, B.bytes, B.returns, hml, findClass_of_methodNamed B.named, atoms_spec (ws := wsX6_isAboard) B.pre, B.notSynchronized⟩ hK hN a1 a2 hF hW va_S.rf hl

-- 6 isPlaceRight
abbrev rm6_isPlaceRight : Room := { frames := 2, cells := 0, slots := 0, locals := 44 }
def f6_isPlaceRight_131 (K : Option (Int32)) (M : TS) (c1 : Int32) (c2 : Int32) : Nat → Int32 → Option (Int32)
  | 0, _ => none
  | n + 1, y5 =>
    if (M 623 0) ≤ y5 then
    (K)
    else
    (if y5 = c1 then
    (f6_isPlaceRight_131 K M c1 c2 n (y5 + 1))
    else
    ((f6_isAboard M y5 c2).bind fun (v19 : Int32) =>
    if v19 = 0 then
    (f6_isPlaceRight_131 K M c1 c2 n (y5 + 1))
    else
    ((f6_of M y5 (6 : Int32)).bind fun (v21 : Int32) =>
    (f6_of M c1 (6 : Int32)).bind fun (v23 : Int32) =>
    if v21 = v23 then
    ((f6_of M y5 (7 : Int32)).bind fun (v25 : Int32) =>
    (f6_of M c1 (7 : Int32)).bind fun (v27 : Int32) =>
    if v25 = v27 then
    ((f6_of M y5 (8 : Int32)).bind fun (v29 : Int32) =>
    (f6_of M c1 (8 : Int32)).bind fun (v31 : Int32) =>
    (f6_of M c1 (1 : Int32)).bind fun (v33 : Int32) =>
    if 0 ≤ (lg_cmp ((v29).toInt64) ((v31 + v33).toInt64)) then
    (f6_isPlaceRight_131 K M c1 c2 n (y5 + 1))
    else
    ((f6_of M y5 (1 : Int32)).bind fun (v35 : Int32) =>
    (f6_of M c1 (8 : Int32)).bind fun (v37 : Int32) =>
    if (lg_cmp (((v29).toInt64) + ((v35).toInt64)) ((v37).toInt64)) ≤ 0 then
    (f6_isPlaceRight_131 K M c1 c2 n (y5 + 1))
    else
    (some (0 : Int32))))
    else
    (f6_isPlaceRight_131 K M c1 c2 n (y5 + 1)))
    else
    (f6_isPlaceRight_131 K M c1 c2 n (y5 + 1)))))

def f6_isPlaceRight (M : TS) (a1 : Int32) (a2 : Int32) (a3 : Int32) : Option (Int32) :=
  if a3 = (3 : Int32) then
  ((ix a2 60).bind fun (j1 : Nat) =>
  (f6_of M a1 (6 : Int32)).bind fun (v2 : Int32) =>
  (ix (M 2600 j1) 12).bind fun (j4 : Nat) =>
  (f6_isIn v2 (0 : Int32) ((M 2000 j4) - (1 : Int32))).bind fun (v5 : Int32) =>
  if v5 = 0 then
  (some (0 : Int32))
  else
  ((f6_of M a1 (7 : Int32)).bind fun (v7 : Int32) =>
  (ix (M 2600 j1) 12).bind fun (j9 : Nat) =>
  (f6_isIn v7 (0 : Int32) ((M 2100 j9) - (1 : Int32))).bind fun (v10 : Int32) =>
  if v10 = 0 then
  (some (0 : Int32))
  else
  ((f6_of M a1 (8 : Int32)).bind fun (v12 : Int32) =>
  (ix (M 2600 j1) 12).bind fun (j14 : Nat) =>
  (f6_of M a1 (1 : Int32)).bind fun (v15 : Int32) =>
  (f6_isIn v12 (0 : Int32) ((M 2200 j14) - v15)).bind fun (v17 : Int32) =>
  if v17 = 0 then
  (some (0 : Int32))
  else
  (f6_isPlaceRight_131 (some (1 : Int32)) M a1 a2 FU (0 : Int32)))))
  else
  ((f6_of M a1 (6 : Int32)).bind fun (v39 : Int32) =>
  if v39 = (-1 : Int32) then
  ((f6_of M a1 (7 : Int32)).bind fun (v41 : Int32) =>
  if v41 = (-1 : Int32) then
  ((f6_of M a1 (8 : Int32)).bind fun (v43 : Int32) =>
  if v43 = (-1 : Int32) then
  (some (1 : Int32))
  else
  (some (0 : Int32)))
  else
  (some (0 : Int32)))
  else
  (some (0 : Int32)))
set_option maxRecDepth 20000 in
theorem hi6_isPlaceRight_6 : ∀ w ∈ u_ws RX6 TX6 31, w ∈ wsX6_isPlaceRight := by decide +kernel
set_option maxHeartbeats 4000000 in
set_option maxRecDepth 100000 in
theorem w6_isPlaceRight_131 {p : Program} {l : Launch} {e : Env} {s : State} {m : MethodId} {args : Array Value} {below : List Frame} {meth : Method} {c : Code} (C : MC p s m args meth c cX6_isPlaceRight (some .boolean) 8 RX6 wsX6_isPlaceRight) {D : va_G} {cA : Nat → ClassId} {z : Nat} {ad : Nat → Nat → Nat} {N : TN} (hK : va_K D vwCl (tysW cA) s) (hN : NW s) {S : TS} {P : TP} {M : TS} (c1 : Int32) (c2 : Int32) {v : Int32} {K : Option (Int32)}
    (hE : ∀ (H : Heap) (locs : List Loc) (ls : Array Slot), K = some v → Wd D cA z ad N S P M H → va_S (fun q => z ≤ q) s.heap H locs → lv_has ls 8 [] → W p l e rm6_isPlaceRight s m args below meth c H locs 0 0 (MQ below (Qi D cA z v (ad, N, S, P, M)) args s 0 0 (fun q => z ≤ q)) (F0 m 258 ls [])) :
    ∀ (n : Nat) (y5 : Int32) (H : Heap) (locs : List Loc) (ls : Array Slot), f6_isPlaceRight_131 K M c1 c2 n y5 = some v → Wd D cA z ad N S P M H → va_S (fun q => z ≤ q) s.heap H locs → lv_has ls 8 [(0, .ref (ad 6 0)), (1, .int c1), (2, .int c2), (5, .int y5)] → W p l e rm6_isPlaceRight s m args below meth c H locs 0 0 (MQ below (Qi D cA z v (ad, N, S, P, M)) args s 0 0 (fun q => z ≤ q)) (F0 m 131 ls []) := by
  obtain ⟨hx, hb, hr, hml, hown, hts, hlk⟩ := id C
  intro n
  induction n with
  | zero => intro y5 H locs ls hF; cases hF
  | succ n ih =>
    intro y5 H locs ls hF hW hS hl
    rw [f6_isPlaceRight_131] at hF
    refine lv_iload hx hb dX6_isPlaceRight_131 (lv_at hl 3 rfl) ?_
    refine lv_aload_n hx hb dX6_isPlaceRight_133 rfl (lv_at hl 0 rfl) ?_
    refine g6_23 hx hb hts hi6_isPlaceRight_6 hown hK hW (hts (.fieldLink RX6 74 RX6 "tickets" "I") (by decide +kernel)) dX6_isPlaceRight_134 ?_
    refine lv_icmp_ge (tgt := 258) hx hb dX6_isPlaceRight_137 (by decide) (fun hc => ?_) (fun hc => ?_)
    · replace hF := it_t hF hc
      exact hE _ _ _ hF hW hS (lv_sub hl [] rfl)
    · replace hF := it_f hF hc
      refine lv_iload hx hb dX6_isPlaceRight_140 (lv_at hl 3 rfl) ?_
      refine lv_iload_n hx hb dX6_isPlaceRight_142 rfl (lv_at hl 1 rfl) ?_
      refine lv_icmp_eq (tgt := 252) hx hb dX6_isPlaceRight_143 (by decide) (fun hc => ?_) (fun hc => ?_)
      · replace hF := it_t hF hc
        refine lv_iinc (v := y5 + 1) (lv' := [(5, .int (y5 + 1)), (0, .ref (ad 6 0)), (1, .int c1), (2, .int c2)]) hx hb dX6_isPlaceRight_252 hl (k := 3) rfl rfl (by decide) rfl ?_
        clear hl; intro ls hl
        refine lv_goto (tgt := 131) hx hb dX6_isPlaceRight_255 (by decide) ?_
        exact ih (y5 + 1) _ _ _ hF hW hS (lv_sub hl [1, 2, 3, 0] rfl)
      · replace hF := it_f hF hc
        refine lv_aload_n hx hb dX6_isPlaceRight_146 rfl (lv_at hl 0 rfl) ?_
        refine lv_iload hx hb dX6_isPlaceRight_147 (lv_at hl 3 rfl) ?_
        refine lv_iload_n hx hb dX6_isPlaceRight_149 rfl (lv_at hl 2 rfl) ?_
        replace hF := ob hF
        obtain ⟨v19, q20, hF⟩ := hF
        refine k_i (va_runV (As := [.int y5, .int c2]) (rest := []) ⟨hx, hb, hml, hown, hts⟩ (c6_isAboard l y5 c2 q20) (cwV 2 hts gX6_isPlaceRight_X6_isAboard rfl rfl rfl (by decide +kernel) ⟨Nat.le_of_ble_eq_true rfl, Nat.le_of_ble_eq_true rfl⟩) (k_preV hW hK hN (hW.fx 6 rfl) (EE_6 cA ad S P M 0) rfl) rfl rfl hl.1 rfl (lv_room (Nat.le_of_ble_eq_true rfl)) dX6_isPlaceRight_150 ⟨Nat.le_of_ble_eq_true rfl, Nat.le_of_ble_eq_true rfl⟩) hS ?_
        clear hW hS; intro H locs hW hS
        refine lv_if_eq (tgt := 252) hx hb dX6_isPlaceRight_153 (by decide) (fun hc => ?_) (fun hc => ?_)
        · replace hF := it_t hF hc
          refine lv_iinc (v := y5 + 1) (lv' := [(5, .int (y5 + 1)), (0, .ref (ad 6 0)), (1, .int c1), (2, .int c2)]) hx hb dX6_isPlaceRight_252 hl (k := 3) rfl rfl (by decide) rfl ?_
          clear hl; intro ls hl
          refine lv_goto (tgt := 131) hx hb dX6_isPlaceRight_255 (by decide) ?_
          exact ih (y5 + 1) _ _ _ hF hW hS (lv_sub hl [1, 2, 3, 0] rfl)
        · replace hF := it_f hF hc
          refine lv_aload_n hx hb dX6_isPlaceRight_156 rfl (lv_at hl 0 rfl) ?_
          refine lv_iload hx hb dX6_isPlaceRight_157 (lv_at hl 3 rfl) ?_
          refine lv_bipush (v := (6 : Int32)) hx hb dX6_isPlaceRight_159 (by decide) ?_
          replace hF := ob hF
          obtain ⟨v21, q22, hF⟩ := hF
          refine k_i (va_runV (As := [.int y5, .int (6 : Int32)]) (rest := []) ⟨hx, hb, hml, hown, hts⟩ (c6_of l y5 (6 : Int32) q22) (cwV 2 hts gX6_isPlaceRight_X6_of rfl rfl rfl (by decide +kernel) ⟨Nat.le_of_ble_eq_true rfl, Nat.le_of_ble_eq_true rfl⟩) (k_preV hW hK hN (hW.fx 6 rfl) (EE_6 cA ad S P M 0) rfl) rfl rfl hl.1 rfl (lv_room (Nat.le_of_ble_eq_true rfl)) dX6_isPlaceRight_161 ⟨Nat.le_of_ble_eq_true rfl, Nat.le_of_ble_eq_true rfl⟩) hS ?_
          clear hW hS; intro H locs hW hS
          refine lv_aload_n hx hb dX6_isPlaceRight_164 rfl (lv_at hl 0 rfl) ?_
          refine lv_iload_n hx hb dX6_isPlaceRight_165 rfl (lv_at hl 1 rfl) ?_
          refine lv_bipush (v := (6 : Int32)) hx hb dX6_isPlaceRight_166 (by decide) ?_
          replace hF := ob hF
          obtain ⟨v23, q24, hF⟩ := hF
          refine k_i (va_runV (As := [.int c1, .int (6 : Int32)]) (rest := [.int v21]) ⟨hx, hb, hml, hown, hts⟩ (c6_of l c1 (6 : Int32) q24) (cwV 2 hts gX6_isPlaceRight_X6_of rfl rfl rfl (by decide +kernel) ⟨Nat.le_of_ble_eq_true rfl, Nat.le_of_ble_eq_true rfl⟩) (k_preV hW hK hN (hW.fx 6 rfl) (EE_6 cA ad S P M 0) rfl) rfl rfl hl.1 rfl (lv_room (Nat.le_of_ble_eq_true rfl)) dX6_isPlaceRight_168 ⟨Nat.le_of_ble_eq_true rfl, Nat.le_of_ble_eq_true rfl⟩) hS ?_
          clear hW hS; intro H locs hW hS
          refine lv_icmp_ne (tgt := 252) hx hb dX6_isPlaceRight_171 (by decide) (fun hc => ?_) (fun hc => ?_)
          · replace hF := it_f hF hc
            refine lv_iinc (v := y5 + 1) (lv' := [(5, .int (y5 + 1)), (0, .ref (ad 6 0)), (1, .int c1), (2, .int c2)]) hx hb dX6_isPlaceRight_252 hl (k := 3) rfl rfl (by decide) rfl ?_
            clear hl; intro ls hl
            refine lv_goto (tgt := 131) hx hb dX6_isPlaceRight_255 (by decide) ?_
            exact ih (y5 + 1) _ _ _ hF hW hS (lv_sub hl [1, 2, 3, 0] rfl)
          · replace hF := it_t hF hc
            refine lv_aload_n hx hb dX6_isPlaceRight_174 rfl (lv_at hl 0 rfl) ?_
            refine lv_iload hx hb dX6_isPlaceRight_175 (lv_at hl 3 rfl) ?_
            refine lv_bipush (v := (7 : Int32)) hx hb dX6_isPlaceRight_177 (by decide) ?_
            replace hF := ob hF
            obtain ⟨v25, q26, hF⟩ := hF
            refine k_i (va_runV (As := [.int y5, .int (7 : Int32)]) (rest := []) ⟨hx, hb, hml, hown, hts⟩ (c6_of l y5 (7 : Int32) q26) (cwV 2 hts gX6_isPlaceRight_X6_of rfl rfl rfl (by decide +kernel) ⟨Nat.le_of_ble_eq_true rfl, Nat.le_of_ble_eq_true rfl⟩) (k_preV hW hK hN (hW.fx 6 rfl) (EE_6 cA ad S P M 0) rfl) rfl rfl hl.1 rfl (lv_room (Nat.le_of_ble_eq_true rfl)) dX6_isPlaceRight_179 ⟨Nat.le_of_ble_eq_true rfl, Nat.le_of_ble_eq_true rfl⟩) hS ?_
            clear hW hS; intro H locs hW hS
            refine lv_aload_n hx hb dX6_isPlaceRight_182 rfl (lv_at hl 0 rfl) ?_
            refine lv_iload_n hx hb dX6_isPlaceRight_183 rfl (lv_at hl 1 rfl) ?_
            refine lv_bipush (v := (7 : Int32)) hx hb dX6_isPlaceRight_184 (by decide) ?_
            replace hF := ob hF
            obtain ⟨v27, q28, hF⟩ := hF
            refine k_i (va_runV (As := [.int c1, .int (7 : Int32)]) (rest := [.int v25]) ⟨hx, hb, hml, hown, hts⟩ (c6_of l c1 (7 : Int32) q28) (cwV 2 hts gX6_isPlaceRight_X6_of rfl rfl rfl (by decide +kernel) ⟨Nat.le_of_ble_eq_true rfl, Nat.le_of_ble_eq_true rfl⟩) (k_preV hW hK hN (hW.fx 6 rfl) (EE_6 cA ad S P M 0) rfl) rfl rfl hl.1 rfl (lv_room (Nat.le_of_ble_eq_true rfl)) dX6_isPlaceRight_186 ⟨Nat.le_of_ble_eq_true rfl, Nat.le_of_ble_eq_true rfl⟩) hS ?_
            clear hW hS; intro H locs hW hS
            refine lv_icmp_eq (tgt := 195) hx hb dX6_isPlaceRight_189 (by decide) (fun hc => ?_) (fun hc => ?_)
            · replace hF := it_t hF hc
              refine lv_aload_n hx hb dX6_isPlaceRight_195 rfl (lv_at hl 0 rfl) ?_
              refine lv_iload hx hb dX6_isPlaceRight_196 (lv_at hl 3 rfl) ?_
              refine lv_bipush (v := (8 : Int32)) hx hb dX6_isPlaceRight_198 (by decide) ?_
              replace hF := ob hF
              obtain ⟨v29, q30, hF⟩ := hF
              refine k_i (va_runV (As := [.int y5, .int (8 : Int32)]) (rest := []) ⟨hx, hb, hml, hown, hts⟩ (c6_of l y5 (8 : Int32) q30) (cwV 2 hts gX6_isPlaceRight_X6_of rfl rfl rfl (by decide +kernel) ⟨Nat.le_of_ble_eq_true rfl, Nat.le_of_ble_eq_true rfl⟩) (k_preV hW hK hN (hW.fx 6 rfl) (EE_6 cA ad S P M 0) rfl) rfl rfl hl.1 rfl (lv_room (Nat.le_of_ble_eq_true rfl)) dX6_isPlaceRight_200 ⟨Nat.le_of_ble_eq_true rfl, Nat.le_of_ble_eq_true rfl⟩) hS ?_
              clear hW hS; intro H locs hW hS
              refine lv_i2l hx hb dX6_isPlaceRight_203 rfl ?_
              refine lv_lstore (lv' := [(6, .long ((v29).toInt64)), (0, .ref (ad 6 0)), (1, .int c1), (2, .int c2), (5, .int y5)]) hx hb dX6_isPlaceRight_204 hl (by decide) rfl ?_
              clear hl; intro ls hl
              refine lv_lload hx hb dX6_isPlaceRight_206 (lv_at hl 0 rfl) ?_
              refine lv_aload_n hx hb dX6_isPlaceRight_208 rfl (lv_at hl 1 rfl) ?_
              refine lv_iload_n hx hb dX6_isPlaceRight_209 rfl (lv_at hl 2 rfl) ?_
              refine lv_bipush (v := (8 : Int32)) hx hb dX6_isPlaceRight_210 (by decide) ?_
              replace hF := ob hF
              obtain ⟨v31, q32, hF⟩ := hF
              refine k_i (va_runV (As := [.int c1, .int (8 : Int32)]) (rest := [.long ((v29).toInt64)]) ⟨hx, hb, hml, hown, hts⟩ (c6_of l c1 (8 : Int32) q32) (cwV 2 hts gX6_isPlaceRight_X6_of rfl rfl rfl (by decide +kernel) ⟨Nat.le_of_ble_eq_true rfl, Nat.le_of_ble_eq_true rfl⟩) (k_preV hW hK hN (hW.fx 6 rfl) (EE_6 cA ad S P M 0) rfl) rfl rfl hl.1 rfl (lv_room (Nat.le_of_ble_eq_true rfl)) dX6_isPlaceRight_212 ⟨Nat.le_of_ble_eq_true rfl, Nat.le_of_ble_eq_true rfl⟩) hS ?_
              clear hW hS; intro H locs hW hS
              refine lv_aload_n hx hb dX6_isPlaceRight_215 rfl (lv_at hl 1 rfl) ?_
              refine lv_iload_n hx hb dX6_isPlaceRight_216 rfl (lv_at hl 2 rfl) ?_
              refine lv_iconst (v := (1 : Int32)) hx hb dX6_isPlaceRight_217 (by decide) ?_
              replace hF := ob hF
              obtain ⟨v33, q34, hF⟩ := hF
              refine k_i (va_runV (As := [.int c1, .int (1 : Int32)]) (rest := [.int v31, .long ((v29).toInt64)]) ⟨hx, hb, hml, hown, hts⟩ (c6_of l c1 (1 : Int32) q34) (cwV 2 hts gX6_isPlaceRight_X6_of rfl rfl rfl (by decide +kernel) ⟨Nat.le_of_ble_eq_true rfl, Nat.le_of_ble_eq_true rfl⟩) (k_preV hW hK hN (hW.fx 6 rfl) (EE_6 cA ad S P M 0) rfl) rfl rfl hl.1 rfl (lv_room (Nat.le_of_ble_eq_true rfl)) dX6_isPlaceRight_218 ⟨Nat.le_of_ble_eq_true rfl, Nat.le_of_ble_eq_true rfl⟩) hS ?_
              clear hW hS; intro H locs hW hS
              refine lv_iadd hx hb dX6_isPlaceRight_221 ?_
              refine lv_i2l hx hb dX6_isPlaceRight_222 rfl ?_
              refine W.lcmp hx hb dX6_isPlaceRight_223 ?_
              refine lv_if_ge (tgt := 252) hx hb dX6_isPlaceRight_224 (by decide) (fun hc => ?_) (fun hc => ?_)
              · replace hF := it_t hF hc
                refine lv_iinc (v := y5 + 1) (lv' := [(5, .int (y5 + 1)), (6, .long ((v29).toInt64)), (0, .ref (ad 6 0)), (1, .int c1), (2, .int c2)]) hx hb dX6_isPlaceRight_252 hl (k := 4) rfl rfl (by decide) rfl ?_
                clear hl; intro ls hl
                refine lv_goto (tgt := 131) hx hb dX6_isPlaceRight_255 (by decide) ?_
                exact ih (y5 + 1) _ _ _ hF hW hS (lv_sub hl [2, 3, 4, 0] rfl)
              · replace hF := it_f hF hc
                refine lv_lload hx hb dX6_isPlaceRight_227 (lv_at hl 0 rfl) ?_
                refine lv_aload_n hx hb dX6_isPlaceRight_229 rfl (lv_at hl 1 rfl) ?_
                refine lv_iload hx hb dX6_isPlaceRight_230 (lv_at hl 4 rfl) ?_
                refine lv_iconst (v := (1 : Int32)) hx hb dX6_isPlaceRight_232 (by decide) ?_
                replace hF := ob hF
                obtain ⟨v35, q36, hF⟩ := hF
                refine k_i (va_runV (As := [.int y5, .int (1 : Int32)]) (rest := [.long ((v29).toInt64)]) ⟨hx, hb, hml, hown, hts⟩ (c6_of l y5 (1 : Int32) q36) (cwV 2 hts gX6_isPlaceRight_X6_of rfl rfl rfl (by decide +kernel) ⟨Nat.le_of_ble_eq_true rfl, Nat.le_of_ble_eq_true rfl⟩) (k_preV hW hK hN (hW.fx 6 rfl) (EE_6 cA ad S P M 0) rfl) rfl rfl hl.1 rfl (lv_room (Nat.le_of_ble_eq_true rfl)) dX6_isPlaceRight_233 ⟨Nat.le_of_ble_eq_true rfl, Nat.le_of_ble_eq_true rfl⟩) hS ?_
                clear hW hS; intro H locs hW hS
                refine lv_i2l hx hb dX6_isPlaceRight_236 rfl ?_
                refine lv_ladd hx hb dX6_isPlaceRight_237 ?_
                refine lv_aload_n hx hb dX6_isPlaceRight_238 rfl (lv_at hl 1 rfl) ?_
                refine lv_iload_n hx hb dX6_isPlaceRight_239 rfl (lv_at hl 2 rfl) ?_
                refine lv_bipush (v := (8 : Int32)) hx hb dX6_isPlaceRight_240 (by decide) ?_
                replace hF := ob hF
                obtain ⟨v37, q38, hF⟩ := hF
                refine k_i (va_runV (As := [.int c1, .int (8 : Int32)]) (rest := [.long (((v29).toInt64) + ((v35).toInt64))]) ⟨hx, hb, hml, hown, hts⟩ (c6_of l c1 (8 : Int32) q38) (cwV 2 hts gX6_isPlaceRight_X6_of rfl rfl rfl (by decide +kernel) ⟨Nat.le_of_ble_eq_true rfl, Nat.le_of_ble_eq_true rfl⟩) (k_preV hW hK hN (hW.fx 6 rfl) (EE_6 cA ad S P M 0) rfl) rfl rfl hl.1 rfl (lv_room (Nat.le_of_ble_eq_true rfl)) dX6_isPlaceRight_242 ⟨Nat.le_of_ble_eq_true rfl, Nat.le_of_ble_eq_true rfl⟩) hS ?_
                clear hW hS; intro H locs hW hS
                refine lv_i2l hx hb dX6_isPlaceRight_245 rfl ?_
                refine W.lcmp hx hb dX6_isPlaceRight_246 ?_
                refine lv_if_le (tgt := 252) hx hb dX6_isPlaceRight_247 (by decide) (fun hc => ?_) (fun hc => ?_)
                · replace hF := it_t hF hc
                  refine lv_iinc (v := y5 + 1) (lv' := [(5, .int (y5 + 1)), (6, .long ((v29).toInt64)), (0, .ref (ad 6 0)), (1, .int c1), (2, .int c2)]) hx hb dX6_isPlaceRight_252 hl (k := 4) rfl rfl (by decide) rfl ?_
                  clear hl; intro ls hl
                  refine lv_goto (tgt := 131) hx hb dX6_isPlaceRight_255 (by decide) ?_
                  exact ih (y5 + 1) _ _ _ hF hW hS (lv_sub hl [2, 3, 4, 0] rfl)
                · replace hF := it_f hF hc
                  refine lv_iconst (v := (0 : Int32)) hx hb dX6_isPlaceRight_250 (by decide) ?_
                  have hq1 := Option.some.inj hF
                  subst hq1
                  exact e_z hx hb hr hlk hK hN hW hS (by decide) dX6_isPlaceRight_251
            · replace hF := it_f hF hc
              refine lv_goto (tgt := 252) hx hb dX6_isPlaceRight_192 (by decide) ?_
              refine lv_iinc (v := y5 + 1) (lv' := [(5, .int (y5 + 1)), (0, .ref (ad 6 0)), (1, .int c1), (2, .int c2)]) hx hb dX6_isPlaceRight_252 hl (k := 3) rfl rfl (by decide) rfl ?_
              clear hl; intro ls hl
              refine lv_goto (tgt := 131) hx hb dX6_isPlaceRight_255 (by decide) ?_
              exact ih (y5 + 1) _ _ _ hF hW hS (lv_sub hl [1, 2, 3, 0] rfl)

set_option maxHeartbeats 4000000 in
set_option maxRecDepth 100000 in
theorem w6_isPlaceRight {p : Program} {l : Launch} {e : Env} {s : State} {m : MethodId} {args : Array Value} {below : List Frame} {meth : Method} {c : Code} (C : MC p s m args meth c cX6_isPlaceRight (some .boolean) 8 RX6 wsX6_isPlaceRight) {D : va_G} {cA : Nat → ClassId} {z : Nat} {ad : Nat → Nat → Nat} {N : TN} (hK : va_K D vwCl (tysW cA) s) (hN : NW s) {S : TS} {P : TP} {M : TS} (a1 : Int32) (a2 : Int32) (a3 : Int32) {v : Int32} (hF : f6_isPlaceRight M a1 a2 a3 = some v)
    {H : Heap} {ls : Array Slot} (hW : Wd D cA z ad N S P M H) {locs : List Loc} (hS : va_S (fun q => z ≤ q) s.heap H locs) (hl : lv_has ls 8 [(0, .ref (ad 6 0)), (1, .int a1), (2, .int a2), (3, .int a3)]) : W p l e rm6_isPlaceRight s m args below meth c H locs 0 0 (MQ below (Qi D cA z v (ad, N, S, P, M)) args s 0 0 (fun q => z ≤ q)) (F0 m 0 ls []) := by
  obtain ⟨hx, hb, hr, hml, hown, hts, hlk⟩ := id C
  unfold f6_isPlaceRight at hF
  refine lv_iload_n hx hb dX6_isPlaceRight_0 rfl (lv_at hl 3 rfl) ?_
  refine lv_iconst (v := (3 : Int32)) hx hb dX6_isPlaceRight_1 (by decide) ?_
  refine lv_icmp_eq (tgt := 44) hx hb dX6_isPlaceRight_2 (by decide) (fun hc => ?_) (fun hc => ?_)
  · replace hF := it_t hF hc
    refine lv_aload_n hx hb dX6_isPlaceRight_44 rfl (lv_at hl 0 rfl) ?_
    refine g6_6 hx hb hts hi6_isPlaceRight_6 hown hK hW (hts (.fieldLink RX6 29 RX6 "ship" "[I") (by decide +kernel)) dX6_isPlaceRight_45 ?_
    refine lv_iload_n hx hb dX6_isPlaceRight_48 rfl (lv_at hl 2 rfl) ?_
    replace hF := ob hF
    obtain ⟨j1, ej1, hF⟩ := hF
    refine l26 hx hb hK hW ej1 dX6_isPlaceRight_49 ?_
    refine lv_istore (lv' := [(4, .int (M 2600 j1)), (0, .ref (ad 6 0)), (1, .int a1), (2, .int a2), (3, .int a3)]) hx hb dX6_isPlaceRight_50 hl (by decide) rfl ?_
    clear hl; intro ls hl
    refine lv_aload_n hx hb dX6_isPlaceRight_52 rfl (lv_at hl 1 rfl) ?_
    refine lv_iload_n hx hb dX6_isPlaceRight_53 rfl (lv_at hl 2 rfl) ?_
    refine lv_bipush (v := (6 : Int32)) hx hb dX6_isPlaceRight_54 (by decide) ?_
    replace hF := ob hF
    obtain ⟨v2, q3, hF⟩ := hF
    refine k_i (va_runV (As := [.int a1, .int (6 : Int32)]) (rest := []) ⟨hx, hb, hml, hown, hts⟩ (c6_of l a1 (6 : Int32) q3) (cwV 2 hts gX6_isPlaceRight_X6_of rfl rfl rfl (by decide +kernel) ⟨Nat.le_of_ble_eq_true rfl, Nat.le_of_ble_eq_true rfl⟩) (k_preV hW hK hN (hW.fx 6 rfl) (EE_6 cA ad S P M 0) rfl) rfl rfl hl.1 rfl (lv_room (Nat.le_of_ble_eq_true rfl)) dX6_isPlaceRight_56 ⟨Nat.le_of_ble_eq_true rfl, Nat.le_of_ble_eq_true rfl⟩) hS ?_
    clear hW hS; intro H locs hW hS
    refine lv_iconst (v := (0 : Int32)) hx hb dX6_isPlaceRight_59 (by decide) ?_
    refine lv_aload_n hx hb dX6_isPlaceRight_60 rfl (lv_at hl 1 rfl) ?_
    refine g6_0 hx hb hts hi6_isPlaceRight_6 hown hK hW (hts (.fieldLink RX6 7 RX6 "decks" "[I") (by decide +kernel)) dX6_isPlaceRight_61 ?_
    refine lv_iload hx hb dX6_isPlaceRight_64 (lv_at hl 0 rfl) ?_
    replace hF := ob hF
    obtain ⟨j4, ej4, hF⟩ := hF
    refine l20 hx hb hK hW ej4 dX6_isPlaceRight_66 ?_
    refine lv_iconst (v := (1 : Int32)) hx hb dX6_isPlaceRight_67 (by decide) ?_
    refine lv_isub hx hb dX6_isPlaceRight_68 ?_
    replace hF := ob hF
    obtain ⟨v5, q6, hF⟩ := hF
    refine k_i (va_runS (As := [.int v2, .int (0 : Int32), .int ((M 2000 j4) - (1 : Int32))]) (rest := []) ⟨hx, hb, hml, hown, hts⟩ (c6_isIn l v2 (0 : Int32) ((M 2000 j4) - (1 : Int32)) q6) (va_cwS 3 hts gX6_isPlaceRight_X6_isIn rfl rfl rfl (by decide +kernel) ⟨Nat.le_of_ble_eq_true rfl, Nat.le_of_ble_eq_true rfl⟩) (k_preS hW hK hN) rfl rfl hl.1 rfl (lv_room (Nat.le_of_ble_eq_true rfl)) dX6_isPlaceRight_69 ⟨Nat.le_of_ble_eq_true rfl, Nat.le_of_ble_eq_true rfl⟩) hS ?_
    clear hW hS; intro H locs hW hS
    refine lv_if_eq (tgt := 126) hx hb dX6_isPlaceRight_72 (by decide) (fun hc => ?_) (fun hc => ?_)
    · replace hF := it_t hF hc
      refine lv_iconst (v := (0 : Int32)) hx hb dX6_isPlaceRight_126 (by decide) ?_
      have hq1 := Option.some.inj hF
      subst hq1
      exact e_z hx hb hr hlk hK hN hW hS (by decide) dX6_isPlaceRight_127
    · replace hF := it_f hF hc
      refine lv_aload_n hx hb dX6_isPlaceRight_75 rfl (lv_at hl 1 rfl) ?_
      refine lv_iload_n hx hb dX6_isPlaceRight_76 rfl (lv_at hl 2 rfl) ?_
      refine lv_bipush (v := (7 : Int32)) hx hb dX6_isPlaceRight_77 (by decide) ?_
      replace hF := ob hF
      obtain ⟨v7, q8, hF⟩ := hF
      refine k_i (va_runV (As := [.int a1, .int (7 : Int32)]) (rest := []) ⟨hx, hb, hml, hown, hts⟩ (c6_of l a1 (7 : Int32) q8) (cwV 2 hts gX6_isPlaceRight_X6_of rfl rfl rfl (by decide +kernel) ⟨Nat.le_of_ble_eq_true rfl, Nat.le_of_ble_eq_true rfl⟩) (k_preV hW hK hN (hW.fx 6 rfl) (EE_6 cA ad S P M 0) rfl) rfl rfl hl.1 rfl (lv_room (Nat.le_of_ble_eq_true rfl)) dX6_isPlaceRight_79 ⟨Nat.le_of_ble_eq_true rfl, Nat.le_of_ble_eq_true rfl⟩) hS ?_
      clear hW hS; intro H locs hW hS
      refine lv_iconst (v := (0 : Int32)) hx hb dX6_isPlaceRight_82 (by decide) ?_
      refine lv_aload_n hx hb dX6_isPlaceRight_83 rfl (lv_at hl 1 rfl) ?_
      refine g6_1 hx hb hts hi6_isPlaceRight_6 hown hK hW (hts (.fieldLink RX6 13 RX6 "lanes" "[I") (by decide +kernel)) dX6_isPlaceRight_84 ?_
      refine lv_iload hx hb dX6_isPlaceRight_87 (lv_at hl 0 rfl) ?_
      replace hF := ob hF
      obtain ⟨j9, ej9, hF⟩ := hF
      refine l21 hx hb hK hW ej9 dX6_isPlaceRight_89 ?_
      refine lv_iconst (v := (1 : Int32)) hx hb dX6_isPlaceRight_90 (by decide) ?_
      refine lv_isub hx hb dX6_isPlaceRight_91 ?_
      replace hF := ob hF
      obtain ⟨v10, q11, hF⟩ := hF
      refine k_i (va_runS (As := [.int v7, .int (0 : Int32), .int ((M 2100 j9) - (1 : Int32))]) (rest := []) ⟨hx, hb, hml, hown, hts⟩ (c6_isIn l v7 (0 : Int32) ((M 2100 j9) - (1 : Int32)) q11) (va_cwS 3 hts gX6_isPlaceRight_X6_isIn rfl rfl rfl (by decide +kernel) ⟨Nat.le_of_ble_eq_true rfl, Nat.le_of_ble_eq_true rfl⟩) (k_preS hW hK hN) rfl rfl hl.1 rfl (lv_room (Nat.le_of_ble_eq_true rfl)) dX6_isPlaceRight_92 ⟨Nat.le_of_ble_eq_true rfl, Nat.le_of_ble_eq_true rfl⟩) hS ?_
      clear hW hS; intro H locs hW hS
      refine lv_if_eq (tgt := 126) hx hb dX6_isPlaceRight_95 (by decide) (fun hc => ?_) (fun hc => ?_)
      · replace hF := it_t hF hc
        refine lv_iconst (v := (0 : Int32)) hx hb dX6_isPlaceRight_126 (by decide) ?_
        have hq1 := Option.some.inj hF
        subst hq1
        exact e_z hx hb hr hlk hK hN hW hS (by decide) dX6_isPlaceRight_127
      · replace hF := it_f hF hc
        refine lv_aload_n hx hb dX6_isPlaceRight_98 rfl (lv_at hl 1 rfl) ?_
        refine lv_iload_n hx hb dX6_isPlaceRight_99 rfl (lv_at hl 2 rfl) ?_
        refine lv_bipush (v := (8 : Int32)) hx hb dX6_isPlaceRight_100 (by decide) ?_
        replace hF := ob hF
        obtain ⟨v12, q13, hF⟩ := hF
        refine k_i (va_runV (As := [.int a1, .int (8 : Int32)]) (rest := []) ⟨hx, hb, hml, hown, hts⟩ (c6_of l a1 (8 : Int32) q13) (cwV 2 hts gX6_isPlaceRight_X6_of rfl rfl rfl (by decide +kernel) ⟨Nat.le_of_ble_eq_true rfl, Nat.le_of_ble_eq_true rfl⟩) (k_preV hW hK hN (hW.fx 6 rfl) (EE_6 cA ad S P M 0) rfl) rfl rfl hl.1 rfl (lv_room (Nat.le_of_ble_eq_true rfl)) dX6_isPlaceRight_102 ⟨Nat.le_of_ble_eq_true rfl, Nat.le_of_ble_eq_true rfl⟩) hS ?_
        clear hW hS; intro H locs hW hS
        refine lv_iconst (v := (0 : Int32)) hx hb dX6_isPlaceRight_105 (by decide) ?_
        refine lv_aload_n hx hb dX6_isPlaceRight_106 rfl (lv_at hl 1 rfl) ?_
        refine g6_2 hx hb hts hi6_isPlaceRight_6 hown hK hW (hts (.fieldLink RX6 16 RX6 "lengths" "[I") (by decide +kernel)) dX6_isPlaceRight_107 ?_
        refine lv_iload hx hb dX6_isPlaceRight_110 (lv_at hl 0 rfl) ?_
        replace hF := ob hF
        obtain ⟨j14, ej14, hF⟩ := hF
        refine l22 hx hb hK hW ej14 dX6_isPlaceRight_112 ?_
        refine lv_aload_n hx hb dX6_isPlaceRight_113 rfl (lv_at hl 1 rfl) ?_
        refine lv_iload_n hx hb dX6_isPlaceRight_114 rfl (lv_at hl 2 rfl) ?_
        refine lv_iconst (v := (1 : Int32)) hx hb dX6_isPlaceRight_115 (by decide) ?_
        replace hF := ob hF
        obtain ⟨v15, q16, hF⟩ := hF
        refine k_i (va_runV (As := [.int a1, .int (1 : Int32)]) (rest := [.int (M 2200 j14), .int (0 : Int32), .int v12]) ⟨hx, hb, hml, hown, hts⟩ (c6_of l a1 (1 : Int32) q16) (cwV 2 hts gX6_isPlaceRight_X6_of rfl rfl rfl (by decide +kernel) ⟨Nat.le_of_ble_eq_true rfl, Nat.le_of_ble_eq_true rfl⟩) (k_preV hW hK hN (hW.fx 6 rfl) (EE_6 cA ad S P M 0) rfl) rfl rfl hl.1 rfl (lv_room (Nat.le_of_ble_eq_true rfl)) dX6_isPlaceRight_116 ⟨Nat.le_of_ble_eq_true rfl, Nat.le_of_ble_eq_true rfl⟩) hS ?_
        clear hW hS; intro H locs hW hS
        refine lv_isub hx hb dX6_isPlaceRight_119 ?_
        replace hF := ob hF
        obtain ⟨v17, q18, hF⟩ := hF
        refine k_i (va_runS (As := [.int v12, .int (0 : Int32), .int ((M 2200 j14) - v15)]) (rest := []) ⟨hx, hb, hml, hown, hts⟩ (c6_isIn l v12 (0 : Int32) ((M 2200 j14) - v15) q18) (va_cwS 3 hts gX6_isPlaceRight_X6_isIn rfl rfl rfl (by decide +kernel) ⟨Nat.le_of_ble_eq_true rfl, Nat.le_of_ble_eq_true rfl⟩) (k_preS hW hK hN) rfl rfl hl.1 rfl (lv_room (Nat.le_of_ble_eq_true rfl)) dX6_isPlaceRight_120 ⟨Nat.le_of_ble_eq_true rfl, Nat.le_of_ble_eq_true rfl⟩) hS ?_
        clear hW hS; intro H locs hW hS
        refine lv_if_ne (tgt := 128) hx hb dX6_isPlaceRight_123 (by decide) (fun hc => ?_) (fun hc => ?_)
        · replace hF := it_f hF hc
          refine lv_iconst (v := (0 : Int32)) hx hb dX6_isPlaceRight_128 (by decide) ?_
          refine lv_istore (lv' := [(5, .int (0 : Int32)), (4, .int (M 2600 j1)), (0, .ref (ad 6 0)), (1, .int a1), (2, .int a2), (3, .int a3)]) hx hb dX6_isPlaceRight_129 hl (by decide) rfl ?_
          clear hl; intro ls hl
          refine w6_isPlaceRight_131 C hK hN a1 a2 (hE := ?_) FU (0 : Int32) _ _ _ hF hW hS (lv_sub hl [2, 3, 4, 0] rfl)
          intro  H locs ls hF hW hS hl
          refine lv_iconst (v := (1 : Int32)) hx hb dX6_isPlaceRight_258 (by decide) ?_
          have hq1 := Option.some.inj hF
          subst hq1
          exact e_z hx hb hr hlk hK hN hW hS (by decide) dX6_isPlaceRight_259
        · replace hF := it_t hF hc
          refine lv_iconst (v := (0 : Int32)) hx hb dX6_isPlaceRight_126 (by decide) ?_
          have hq1 := Option.some.inj hF
          subst hq1
          exact e_z hx hb hr hlk hK hN hW hS (by decide) dX6_isPlaceRight_127
  · replace hF := it_f hF hc
    refine lv_aload_n hx hb dX6_isPlaceRight_5 rfl (lv_at hl 0 rfl) ?_
    refine lv_iload_n hx hb dX6_isPlaceRight_6 rfl (lv_at hl 1 rfl) ?_
    refine lv_bipush (v := (6 : Int32)) hx hb dX6_isPlaceRight_7 (by decide) ?_
    replace hF := ob hF
    obtain ⟨v39, q40, hF⟩ := hF
    refine k_i (va_runV (As := [.int a1, .int (6 : Int32)]) (rest := []) ⟨hx, hb, hml, hown, hts⟩ (c6_of l a1 (6 : Int32) q40) (cwV 2 hts gX6_isPlaceRight_X6_of rfl rfl rfl (by decide +kernel) ⟨Nat.le_of_ble_eq_true rfl, Nat.le_of_ble_eq_true rfl⟩) (k_preV hW hK hN (hW.fx 6 rfl) (EE_6 cA ad S P M 0) rfl) rfl rfl hl.1 rfl (lv_room (Nat.le_of_ble_eq_true rfl)) dX6_isPlaceRight_9 ⟨Nat.le_of_ble_eq_true rfl, Nat.le_of_ble_eq_true rfl⟩) hS ?_
    clear hW hS; intro H locs hW hS
    refine lv_iconst (v := (-1 : Int32)) hx hb dX6_isPlaceRight_12 (by decide) ?_
    refine lv_icmp_ne (tgt := 42) hx hb dX6_isPlaceRight_13 (by decide) (fun hc => ?_) (fun hc => ?_)
    · replace hF := it_f hF hc
      refine lv_iconst (v := (0 : Int32)) hx hb dX6_isPlaceRight_42 (by decide) ?_
      have hq1 := Option.some.inj hF
      subst hq1
      exact e_z hx hb hr hlk hK hN hW hS (by decide) dX6_isPlaceRight_43
    · replace hF := it_t hF hc
      refine lv_aload_n hx hb dX6_isPlaceRight_16 rfl (lv_at hl 0 rfl) ?_
      refine lv_iload_n hx hb dX6_isPlaceRight_17 rfl (lv_at hl 1 rfl) ?_
      refine lv_bipush (v := (7 : Int32)) hx hb dX6_isPlaceRight_18 (by decide) ?_
      replace hF := ob hF
      obtain ⟨v41, q42, hF⟩ := hF
      refine k_i (va_runV (As := [.int a1, .int (7 : Int32)]) (rest := []) ⟨hx, hb, hml, hown, hts⟩ (c6_of l a1 (7 : Int32) q42) (cwV 2 hts gX6_isPlaceRight_X6_of rfl rfl rfl (by decide +kernel) ⟨Nat.le_of_ble_eq_true rfl, Nat.le_of_ble_eq_true rfl⟩) (k_preV hW hK hN (hW.fx 6 rfl) (EE_6 cA ad S P M 0) rfl) rfl rfl hl.1 rfl (lv_room (Nat.le_of_ble_eq_true rfl)) dX6_isPlaceRight_20 ⟨Nat.le_of_ble_eq_true rfl, Nat.le_of_ble_eq_true rfl⟩) hS ?_
      clear hW hS; intro H locs hW hS
      refine lv_iconst (v := (-1 : Int32)) hx hb dX6_isPlaceRight_23 (by decide) ?_
      refine lv_icmp_ne (tgt := 42) hx hb dX6_isPlaceRight_24 (by decide) (fun hc => ?_) (fun hc => ?_)
      · replace hF := it_f hF hc
        refine lv_iconst (v := (0 : Int32)) hx hb dX6_isPlaceRight_42 (by decide) ?_
        have hq1 := Option.some.inj hF
        subst hq1
        exact e_z hx hb hr hlk hK hN hW hS (by decide) dX6_isPlaceRight_43
      · replace hF := it_t hF hc
        refine lv_aload_n hx hb dX6_isPlaceRight_27 rfl (lv_at hl 0 rfl) ?_
        refine lv_iload_n hx hb dX6_isPlaceRight_28 rfl (lv_at hl 1 rfl) ?_
        refine lv_bipush (v := (8 : Int32)) hx hb dX6_isPlaceRight_29 (by decide) ?_
        replace hF := ob hF
        obtain ⟨v43, q44, hF⟩ := hF
        refine k_i (va_runV (As := [.int a1, .int (8 : Int32)]) (rest := []) ⟨hx, hb, hml, hown, hts⟩ (c6_of l a1 (8 : Int32) q44) (cwV 2 hts gX6_isPlaceRight_X6_of rfl rfl rfl (by decide +kernel) ⟨Nat.le_of_ble_eq_true rfl, Nat.le_of_ble_eq_true rfl⟩) (k_preV hW hK hN (hW.fx 6 rfl) (EE_6 cA ad S P M 0) rfl) rfl rfl hl.1 rfl (lv_room (Nat.le_of_ble_eq_true rfl)) dX6_isPlaceRight_31 ⟨Nat.le_of_ble_eq_true rfl, Nat.le_of_ble_eq_true rfl⟩) hS ?_
        clear hW hS; intro H locs hW hS
        refine lv_iconst (v := (-1 : Int32)) hx hb dX6_isPlaceRight_34 (by decide) ?_
        refine lv_icmp_ne (tgt := 42) hx hb dX6_isPlaceRight_35 (by decide) (fun hc => ?_) (fun hc => ?_)
        · replace hF := it_f hF hc
          refine lv_iconst (v := (0 : Int32)) hx hb dX6_isPlaceRight_42 (by decide) ?_
          have hq1 := Option.some.inj hF
          subst hq1
          exact e_z hx hb hr hlk hK hN hW hS (by decide) dX6_isPlaceRight_43
        · replace hF := it_t hF hc
          refine lv_iconst (v := (1 : Int32)) hx hb dX6_isPlaceRight_38 (by decide) ?_
          refine lv_goto (tgt := 43) hx hb dX6_isPlaceRight_39 (by decide) ?_
          have hq1 := Option.some.inj hF
          subst hq1
          exact e_z hx hb hr hlk hK hN hW hS (by decide) dX6_isPlaceRight_43

set_option maxHeartbeats 4000000 in
set_option maxRecDepth 100000 in
theorem c6_isPlaceRight (l : Launch) {D : va_G} {cA : Nat → ClassId} {z : Nat} {ad : Nat → Nat → Nat} {N : TN} {S : TS} {P : TP} {M : TS} (a1 : Int32) (a2 : Int32) (a3 : Int32) {v : Int32} (hF : f6_isPlaceRight M a1 a2 a3 = some v) : Met l yX6_isPlaceRight wsX6_isPlaceRight rm6_isPlaceRight (va_Pc [.ref (ad 6 0), .int a1, .int a2, .int a3] (Wl D cA z (ad, N, S, P, M))) (Qi D cA z v (ad, N, S, P, M)) 0 0 (fun q => z ≤ q) := by
  refine Met.ofW (cc := cX6_isPlaceRight) (maxL := 8) (ret := (some .boolean)) (by decide) rfl ?_
  intro p e s m args below meth c s₁ B hml hv
  obtain ⟨rfl, hW, hK, hN⟩ := hv
  have hl := lv_entry ([.ref (ad 6 0), .int a1, .int a2, .int a3]) (n := 8) (Nat.le_of_ble_eq_true rfl)
  rw [lg_entry_eq]
  generalize (lg_sl ([.ref (ad 6 0), .int a1, .int a2, .int a3]) ++ List.replicate (8 - (lg_sl ([.ref (ad 6 0), .int a1, .int a2, .int a3])).length) Slot.unset).toArray = ls at hl ⊢
  exact w6_isPlaceRight ⟨B.exec, B.bytes, B.returns, hml, findClass_of_methodNamed B.named, atoms_spec (ws := wsX6_isPlaceRight) B.pre, B.notSynchronized⟩ hK hN a1 a2 a3 hF hW va_S.rf hl

-- 6 isCabinRight
abbrev rm6_isCabinRight : Room := { frames := 1, cells := 0, slots := 0, locals := 22 }
def f6_isCabinRight_89 (K : Option (Int32)) (M : TS) (c1 : Int32) (c2 : Int32) (c4 : Int32) : Nat → Int32 → Option (Int32)
  | 0, _ => none
  | n + 1, y5 =>
    if (M 623 0) ≤ y5 then
    (K)
    else
    (if y5 = c1 then
    (f6_isCabinRight_89 K M c1 c2 c4 n (y5 + 1))
    else
    ((f6_of M y5 (0 : Int32)).bind fun (v12 : Int32) =>
    if v12 = c2 then
    ((f6_of M y5 (4 : Int32)).bind fun (v14 : Int32) =>
    lt ((f6_of M y5 (9 : Int32)).bind fun (v16 : Int32) =>
    if v16 = c4 then
    (some (0 : Int32))
    else
    (f6_isCabinRight_89 K M c1 c2 c4 n (y5 + 1))) fun (K138 : Option (Int32)) =>
    if v14 = (3 : Int32) then
    (K138)
    else
    ((f6_of M y5 (4 : Int32)).bind fun (v18 : Int32) =>
    if v18 = (6 : Int32) then
    (K138)
    else
    (f6_isCabinRight_89 K M c1 c2 c4 n (y5 + 1))))
    else
    (f6_isCabinRight_89 K M c1 c2 c4 n (y5 + 1))))

def f6_isCabinRight (M : TS) (a1 : Int32) (a2 : Int32) (a3 : Int32) : Option (Int32) :=
  (f6_of M a1 (9 : Int32)).bind fun (v1 : Int32) =>
  if v1 = (-1 : Int32) then
  (some (1 : Int32))
  else
  (lt ((f6_of M a1 (3 : Int32)).bind fun (v3 : Int32) =>
  if v3 = 0 then
  (some (0 : Int32))
  else
  ((f6_isIn v1 (0 : Int32) ((M 621 0) - (1 : Int32))).bind fun (v5 : Int32) =>
  if v5 = 0 then
  (some (0 : Int32))
  else
  ((ix v1 120).bind fun (j7 : Nat) =>
  (ix a2 60).bind fun (j8 : Nat) =>
  if (M 2400 j7) = (M 2600 j8) then
  ((ix v1 120).bind fun (j9 : Nat) =>
  (f6_of M a1 (3 : Int32)).bind fun (v10 : Int32) =>
  if v10 ≤ (M 2500 j9) then
  (f6_isCabinRight_89 (some (1 : Int32)) M a1 a2 v1 FU (0 : Int32))
  else
  (some (0 : Int32)))
  else
  (some (0 : Int32))))) fun (K28 : Option (Int32)) =>
  if a3 = (3 : Int32) then
  (K28)
  else
  (if a3 = (6 : Int32) then
  (K28)
  else
  (some (0 : Int32))))
set_option maxRecDepth 20000 in
theorem hi6_isCabinRight_6 : ∀ w ∈ u_ws RX6 TX6 31, w ∈ wsX6_isCabinRight := by decide +kernel
set_option maxHeartbeats 4000000 in
set_option maxRecDepth 100000 in
theorem w6_isCabinRight_89 {p : Program} {l : Launch} {e : Env} {s : State} {m : MethodId} {args : Array Value} {below : List Frame} {meth : Method} {c : Code} (C : MC p s m args meth c cX6_isCabinRight (some .boolean) 6 RX6 wsX6_isCabinRight) {D : va_G} {cA : Nat → ClassId} {z : Nat} {ad : Nat → Nat → Nat} {N : TN} (hK : va_K D vwCl (tysW cA) s) (hN : NW s) {S : TS} {P : TP} {M : TS} (c1 : Int32) (c2 : Int32) (c4 : Int32) {v : Int32} {K : Option (Int32)}
    (hE : ∀ (H : Heap) (locs : List Loc) (ls : Array Slot), K = some v → Wd D cA z ad N S P M H → va_S (fun q => z ≤ q) s.heap H locs → lv_has ls 6 [] → W p l e rm6_isCabinRight s m args below meth c H locs 0 0 (MQ below (Qi D cA z v (ad, N, S, P, M)) args s 0 0 (fun q => z ≤ q)) (F0 m 159 ls [])) :
    ∀ (n : Nat) (y5 : Int32) (H : Heap) (locs : List Loc) (ls : Array Slot), f6_isCabinRight_89 K M c1 c2 c4 n y5 = some v → Wd D cA z ad N S P M H → va_S (fun q => z ≤ q) s.heap H locs → lv_has ls 6 [(0, .ref (ad 6 0)), (1, .int c1), (2, .int c2), (4, .int c4), (5, .int y5)] → W p l e rm6_isCabinRight s m args below meth c H locs 0 0 (MQ below (Qi D cA z v (ad, N, S, P, M)) args s 0 0 (fun q => z ≤ q)) (F0 m 89 ls []) := by
  obtain ⟨hx, hb, hr, hml, hown, hts, hlk⟩ := id C
  intro n
  induction n with
  | zero => intro y5 H locs ls hF; cases hF
  | succ n ih =>
    intro y5 H locs ls hF hW hS hl
    rw [f6_isCabinRight_89] at hF
    refine lv_iload hx hb dX6_isCabinRight_89 (lv_at hl 4 rfl) ?_
    refine lv_aload_n hx hb dX6_isCabinRight_91 rfl (lv_at hl 0 rfl) ?_
    refine g6_23 hx hb hts hi6_isCabinRight_6 hown hK hW (hts (.fieldLink RX6 74 RX6 "tickets" "I") (by decide +kernel)) dX6_isCabinRight_92 ?_
    refine lv_icmp_ge (tgt := 159) hx hb dX6_isCabinRight_95 (by decide) (fun hc => ?_) (fun hc => ?_)
    · replace hF := it_t hF hc
      exact hE _ _ _ hF hW hS (lv_sub hl [] rfl)
    · replace hF := it_f hF hc
      refine lv_iload hx hb dX6_isCabinRight_98 (lv_at hl 4 rfl) ?_
      refine lv_iload_n hx hb dX6_isCabinRight_100 rfl (lv_at hl 1 rfl) ?_
      refine lv_icmp_eq (tgt := 153) hx hb dX6_isCabinRight_101 (by decide) (fun hc => ?_) (fun hc => ?_)
      · replace hF := it_t hF hc
        refine lv_iinc (v := y5 + 1) (lv' := [(5, .int (y5 + 1)), (0, .ref (ad 6 0)), (1, .int c1), (2, .int c2), (4, .int c4)]) hx hb dX6_isCabinRight_153 hl (k := 4) rfl rfl (by decide) rfl ?_
        clear hl; intro ls hl
        refine lv_goto (tgt := 89) hx hb dX6_isCabinRight_156 (by decide) ?_
        exact ih (y5 + 1) _ _ _ hF hW hS (lv_sub hl [1, 2, 3, 4, 0] rfl)
      · replace hF := it_f hF hc
        refine lv_aload_n hx hb dX6_isCabinRight_104 rfl (lv_at hl 0 rfl) ?_
        refine lv_iload hx hb dX6_isCabinRight_105 (lv_at hl 4 rfl) ?_
        refine lv_iconst (v := (0 : Int32)) hx hb dX6_isCabinRight_107 (by decide) ?_
        replace hF := ob hF
        obtain ⟨v12, q13, hF⟩ := hF
        refine k_i (va_runV (As := [.int y5, .int (0 : Int32)]) (rest := []) ⟨hx, hb, hml, hown, hts⟩ (c6_of l y5 (0 : Int32) q13) (cwV 2 hts gX6_isCabinRight_X6_of rfl rfl rfl (by decide +kernel) ⟨Nat.le_of_ble_eq_true rfl, Nat.le_of_ble_eq_true rfl⟩) (k_preV hW hK hN (hW.fx 6 rfl) (EE_6 cA ad S P M 0) rfl) rfl rfl hl.1 rfl (lv_room (Nat.le_of_ble_eq_true rfl)) dX6_isCabinRight_108 ⟨Nat.le_of_ble_eq_true rfl, Nat.le_of_ble_eq_true rfl⟩) hS ?_
        clear hW hS; intro H locs hW hS
        refine lv_iload_n hx hb dX6_isCabinRight_111 rfl (lv_at hl 2 rfl) ?_
        refine lv_icmp_ne (tgt := 153) hx hb dX6_isCabinRight_112 (by decide) (fun hc => ?_) (fun hc => ?_)
        · replace hF := it_f hF hc
          refine lv_iinc (v := y5 + 1) (lv' := [(5, .int (y5 + 1)), (0, .ref (ad 6 0)), (1, .int c1), (2, .int c2), (4, .int c4)]) hx hb dX6_isCabinRight_153 hl (k := 4) rfl rfl (by decide) rfl ?_
          clear hl; intro ls hl
          refine lv_goto (tgt := 89) hx hb dX6_isCabinRight_156 (by decide) ?_
          exact ih (y5 + 1) _ _ _ hF hW hS (lv_sub hl [1, 2, 3, 4, 0] rfl)
        · replace hF := it_t hF hc
          refine lv_aload_n hx hb dX6_isCabinRight_115 rfl (lv_at hl 0 rfl) ?_
          refine lv_iload hx hb dX6_isCabinRight_116 (lv_at hl 4 rfl) ?_
          refine lv_iconst (v := (4 : Int32)) hx hb dX6_isCabinRight_118 (by decide) ?_
          replace hF := ob hF
          obtain ⟨v14, q15, hF⟩ := hF
          refine k_i (va_runV (As := [.int y5, .int (4 : Int32)]) (rest := []) ⟨hx, hb, hml, hown, hts⟩ (c6_of l y5 (4 : Int32) q15) (cwV 2 hts gX6_isCabinRight_X6_of rfl rfl rfl (by decide +kernel) ⟨Nat.le_of_ble_eq_true rfl, Nat.le_of_ble_eq_true rfl⟩) (k_preV hW hK hN (hW.fx 6 rfl) (EE_6 cA ad S P M 0) rfl) rfl rfl hl.1 rfl (lv_room (Nat.le_of_ble_eq_true rfl)) dX6_isCabinRight_119 ⟨Nat.le_of_ble_eq_true rfl, Nat.le_of_ble_eq_true rfl⟩) hS ?_
          clear hW hS; intro H locs hW hS
          refine lv_iconst (v := (3 : Int32)) hx hb dX6_isCabinRight_122 (by decide) ?_
          replace hF := lt_ex hF
          obtain ⟨K138, eK138, hF⟩ := hF
          have hK138 : ∀ (H : Heap) (locs : List Loc) (ls : Array Slot), K138 = some v → Wd D cA z ad N S P M H → va_S (fun q => z ≤ q) s.heap H locs → lv_has ls 6 [(0, .ref (ad 6 0)), (1, .int c1), (2, .int c2), (4, .int c4), (5, .int y5)] → W p l e rm6_isCabinRight s m args below meth c H locs 0 0 (MQ below (Qi D cA z v (ad, N, S, P, M)) args s 0 0 (fun q => z ≤ q)) (F0 m 138 ls []) := by
            intro H locs ls hF hW hS hl
            subst eK138
            refine lv_aload_n hx hb dX6_isCabinRight_138 rfl (lv_at hl 0 rfl) ?_
            refine lv_iload hx hb dX6_isCabinRight_139 (lv_at hl 4 rfl) ?_
            refine lv_bipush (v := (9 : Int32)) hx hb dX6_isCabinRight_141 (by decide) ?_
            replace hF := ob hF
            obtain ⟨v16, q17, hF⟩ := hF
            refine k_i (va_runV (As := [.int y5, .int (9 : Int32)]) (rest := []) ⟨hx, hb, hml, hown, hts⟩ (c6_of l y5 (9 : Int32) q17) (cwV 2 hts gX6_isCabinRight_X6_of rfl rfl rfl (by decide +kernel) ⟨Nat.le_of_ble_eq_true rfl, Nat.le_of_ble_eq_true rfl⟩) (k_preV hW hK hN (hW.fx 6 rfl) (EE_6 cA ad S P M 0) rfl) rfl rfl hl.1 rfl (lv_room (Nat.le_of_ble_eq_true rfl)) dX6_isCabinRight_143 ⟨Nat.le_of_ble_eq_true rfl, Nat.le_of_ble_eq_true rfl⟩) hS ?_
            clear hW hS; intro H locs hW hS
            refine lv_iload hx hb dX6_isCabinRight_146 (lv_at hl 3 rfl) ?_
            refine lv_icmp_ne (tgt := 153) hx hb dX6_isCabinRight_148 (by decide) (fun hc => ?_) (fun hc => ?_)
            · replace hF := it_f hF hc
              refine lv_iinc (v := y5 + 1) (lv' := [(5, .int (y5 + 1)), (0, .ref (ad 6 0)), (1, .int c1), (2, .int c2), (4, .int c4)]) hx hb dX6_isCabinRight_153 hl (k := 4) rfl rfl (by decide) rfl ?_
              clear hl; intro ls hl
              refine lv_goto (tgt := 89) hx hb dX6_isCabinRight_156 (by decide) ?_
              exact ih (y5 + 1) _ _ _ hF hW hS (lv_sub hl [1, 2, 3, 4, 0] rfl)
            · replace hF := it_t hF hc
              refine lv_iconst (v := (0 : Int32)) hx hb dX6_isCabinRight_151 (by decide) ?_
              have hq1 := Option.some.inj hF
              subst hq1
              exact e_z hx hb hr hlk hK hN hW hS (by decide) dX6_isCabinRight_152
          clear eK138
          refine lv_icmp_eq (tgt := 138) hx hb dX6_isCabinRight_123 (by decide) (fun hc => ?_) (fun hc => ?_)
          · replace hF := it_t hF hc
            exact hK138 _ _ _ hF hW hS (lv_sub hl [0, 1, 2, 3, 4] rfl)
          · replace hF := it_f hF hc
            refine lv_aload_n hx hb dX6_isCabinRight_126 rfl (lv_at hl 0 rfl) ?_
            refine lv_iload hx hb dX6_isCabinRight_127 (lv_at hl 4 rfl) ?_
            refine lv_iconst (v := (4 : Int32)) hx hb dX6_isCabinRight_129 (by decide) ?_
            replace hF := ob hF
            obtain ⟨v18, q19, hF⟩ := hF
            refine k_i (va_runV (As := [.int y5, .int (4 : Int32)]) (rest := []) ⟨hx, hb, hml, hown, hts⟩ (c6_of l y5 (4 : Int32) q19) (cwV 2 hts gX6_isCabinRight_X6_of rfl rfl rfl (by decide +kernel) ⟨Nat.le_of_ble_eq_true rfl, Nat.le_of_ble_eq_true rfl⟩) (k_preV hW hK hN (hW.fx 6 rfl) (EE_6 cA ad S P M 0) rfl) rfl rfl hl.1 rfl (lv_room (Nat.le_of_ble_eq_true rfl)) dX6_isCabinRight_130 ⟨Nat.le_of_ble_eq_true rfl, Nat.le_of_ble_eq_true rfl⟩) hS ?_
            clear hW hS; intro H locs hW hS
            refine lv_bipush (v := (6 : Int32)) hx hb dX6_isCabinRight_133 (by decide) ?_
            refine lv_icmp_ne (tgt := 153) hx hb dX6_isCabinRight_135 (by decide) (fun hc => ?_) (fun hc => ?_)
            · replace hF := it_f hF hc
              refine lv_iinc (v := y5 + 1) (lv' := [(5, .int (y5 + 1)), (0, .ref (ad 6 0)), (1, .int c1), (2, .int c2), (4, .int c4)]) hx hb dX6_isCabinRight_153 hl (k := 4) rfl rfl (by decide) rfl ?_
              clear hl; intro ls hl
              refine lv_goto (tgt := 89) hx hb dX6_isCabinRight_156 (by decide) ?_
              exact ih (y5 + 1) _ _ _ hF hW hS (lv_sub hl [1, 2, 3, 4, 0] rfl)
            · replace hF := it_t hF hc
              exact hK138 _ _ _ hF hW hS (lv_sub hl [0, 1, 2, 3, 4] rfl)

set_option maxHeartbeats 4000000 in
set_option maxRecDepth 100000 in
theorem w6_isCabinRight {p : Program} {l : Launch} {e : Env} {s : State} {m : MethodId} {args : Array Value} {below : List Frame} {meth : Method} {c : Code} (C : MC p s m args meth c cX6_isCabinRight (some .boolean) 6 RX6 wsX6_isCabinRight) {D : va_G} {cA : Nat → ClassId} {z : Nat} {ad : Nat → Nat → Nat} {N : TN} (hK : va_K D vwCl (tysW cA) s) (hN : NW s) {S : TS} {P : TP} {M : TS} (a1 : Int32) (a2 : Int32) (a3 : Int32) {v : Int32} (hF : f6_isCabinRight M a1 a2 a3 = some v)
    {H : Heap} {ls : Array Slot} (hW : Wd D cA z ad N S P M H) {locs : List Loc} (hS : va_S (fun q => z ≤ q) s.heap H locs) (hl : lv_has ls 6 [(0, .ref (ad 6 0)), (1, .int a1), (2, .int a2), (3, .int a3)]) : W p l e rm6_isCabinRight s m args below meth c H locs 0 0 (MQ below (Qi D cA z v (ad, N, S, P, M)) args s 0 0 (fun q => z ≤ q)) (F0 m 0 ls []) := by
  obtain ⟨hx, hb, hr, hml, hown, hts, hlk⟩ := id C
  unfold f6_isCabinRight at hF
  refine lv_aload_n hx hb dX6_isCabinRight_0 rfl (lv_at hl 0 rfl) ?_
  refine lv_iload_n hx hb dX6_isCabinRight_1 rfl (lv_at hl 1 rfl) ?_
  refine lv_bipush (v := (9 : Int32)) hx hb dX6_isCabinRight_2 (by decide) ?_
  replace hF := ob hF
  obtain ⟨v1, q2, hF⟩ := hF
  refine k_i (va_runV (As := [.int a1, .int (9 : Int32)]) (rest := []) ⟨hx, hb, hml, hown, hts⟩ (c6_of l a1 (9 : Int32) q2) (cwV 2 hts gX6_isCabinRight_X6_of rfl rfl rfl (by decide +kernel) ⟨Nat.le_of_ble_eq_true rfl, Nat.le_of_ble_eq_true rfl⟩) (k_preV hW hK hN (hW.fx 6 rfl) (EE_6 cA ad S P M 0) rfl) rfl rfl hl.1 rfl (lv_room (Nat.le_of_ble_eq_true rfl)) dX6_isCabinRight_4 ⟨Nat.le_of_ble_eq_true rfl, Nat.le_of_ble_eq_true rfl⟩) hS ?_
  clear hW hS; intro H locs hW hS
  refine lv_istore (lv' := [(4, .int v1), (0, .ref (ad 6 0)), (1, .int a1), (2, .int a2), (3, .int a3)]) hx hb dX6_isCabinRight_7 hl (by decide) rfl ?_
  clear hl; intro ls hl
  refine lv_iload hx hb dX6_isCabinRight_9 (lv_at hl 0 rfl) ?_
  refine lv_iconst (v := (-1 : Int32)) hx hb dX6_isCabinRight_11 (by decide) ?_
  refine lv_icmp_ne (tgt := 17) hx hb dX6_isCabinRight_12 (by decide) (fun hc => ?_) (fun hc => ?_)
  · replace hF := it_f hF hc
    refine lv_iload_n hx hb dX6_isCabinRight_17 rfl (lv_at hl 4 rfl) ?_
    refine lv_iconst (v := (3 : Int32)) hx hb dX6_isCabinRight_18 (by decide) ?_
    replace hF := lt_ex hF
    obtain ⟨K28, eK28, hF⟩ := hF
    have hK28 : ∀ (H : Heap) (locs : List Loc) (ls : Array Slot), K28 = some v → Wd D cA z ad N S P M H → va_S (fun q => z ≤ q) s.heap H locs → lv_has ls 6 [(0, .ref (ad 6 0)), (1, .int a1), (2, .int a2), (4, .int v1)] → W p l e rm6_isCabinRight s m args below meth c H locs 0 0 (MQ below (Qi D cA z v (ad, N, S, P, M)) args s 0 0 (fun q => z ≤ q)) (F0 m 28 ls []) := by
      intro H locs ls hF hW hS hl
      subst eK28
      refine lv_aload_n hx hb dX6_isCabinRight_28 rfl (lv_at hl 0 rfl) ?_
      refine lv_iload_n hx hb dX6_isCabinRight_29 rfl (lv_at hl 1 rfl) ?_
      refine lv_iconst (v := (3 : Int32)) hx hb dX6_isCabinRight_30 (by decide) ?_
      replace hF := ob hF
      obtain ⟨v3, q4, hF⟩ := hF
      refine k_i (va_runV (As := [.int a1, .int (3 : Int32)]) (rest := []) ⟨hx, hb, hml, hown, hts⟩ (c6_of l a1 (3 : Int32) q4) (cwV 2 hts gX6_isCabinRight_X6_of rfl rfl rfl (by decide +kernel) ⟨Nat.le_of_ble_eq_true rfl, Nat.le_of_ble_eq_true rfl⟩) (k_preV hW hK hN (hW.fx 6 rfl) (EE_6 cA ad S P M 0) rfl) rfl rfl hl.1 rfl (lv_room (Nat.le_of_ble_eq_true rfl)) dX6_isCabinRight_31 ⟨Nat.le_of_ble_eq_true rfl, Nat.le_of_ble_eq_true rfl⟩) hS ?_
      clear hW hS; intro H locs hW hS
      refine lv_if_eq (tgt := 84) hx hb dX6_isCabinRight_34 (by decide) (fun hc => ?_) (fun hc => ?_)
      · replace hF := it_t hF hc
        refine lv_iconst (v := (0 : Int32)) hx hb dX6_isCabinRight_84 (by decide) ?_
        have hq1 := Option.some.inj hF
        subst hq1
        exact e_z hx hb hr hlk hK hN hW hS (by decide) dX6_isCabinRight_85
      · replace hF := it_f hF hc
        refine lv_iload hx hb dX6_isCabinRight_37 (lv_at hl 3 rfl) ?_
        refine lv_iconst (v := (0 : Int32)) hx hb dX6_isCabinRight_39 (by decide) ?_
        refine lv_aload_n hx hb dX6_isCabinRight_40 rfl (lv_at hl 0 rfl) ?_
        refine g6_21 hx hb hts hi6_isCabinRight_6 hown hK hW (hts (.fieldLink RX6 92 RX6 "cabins" "I") (by decide +kernel)) dX6_isCabinRight_41 ?_
        refine lv_iconst (v := (1 : Int32)) hx hb dX6_isCabinRight_44 (by decide) ?_
        refine lv_isub hx hb dX6_isCabinRight_45 ?_
        replace hF := ob hF
        obtain ⟨v5, q6, hF⟩ := hF
        refine k_i (va_runS (As := [.int v1, .int (0 : Int32), .int ((M 621 0) - (1 : Int32))]) (rest := []) ⟨hx, hb, hml, hown, hts⟩ (c6_isIn l v1 (0 : Int32) ((M 621 0) - (1 : Int32)) q6) (va_cwS 3 hts gX6_isCabinRight_X6_isIn rfl rfl rfl (by decide +kernel) ⟨Nat.le_of_ble_eq_true rfl, Nat.le_of_ble_eq_true rfl⟩) (k_preS hW hK hN) rfl rfl hl.1 rfl (lv_room (Nat.le_of_ble_eq_true rfl)) dX6_isCabinRight_46 ⟨Nat.le_of_ble_eq_true rfl, Nat.le_of_ble_eq_true rfl⟩) hS ?_
        clear hW hS; intro H locs hW hS
        refine lv_if_eq (tgt := 84) hx hb dX6_isCabinRight_49 (by decide) (fun hc => ?_) (fun hc => ?_)
        · replace hF := it_t hF hc
          refine lv_iconst (v := (0 : Int32)) hx hb dX6_isCabinRight_84 (by decide) ?_
          have hq1 := Option.some.inj hF
          subst hq1
          exact e_z hx hb hr hlk hK hN hW hS (by decide) dX6_isCabinRight_85
        · replace hF := it_f hF hc
          refine lv_aload_n hx hb dX6_isCabinRight_52 rfl (lv_at hl 0 rfl) ?_
          refine g6_4 hx hb hts hi6_isCabinRight_6 hown hK hW (hts (.fieldLink RX6 23 RX6 "cabinShip" "[I") (by decide +kernel)) dX6_isCabinRight_53 ?_
          refine lv_iload hx hb dX6_isCabinRight_56 (lv_at hl 3 rfl) ?_
          replace hF := ob hF
          obtain ⟨j7, ej7, hF⟩ := hF
          refine l24 hx hb hK hW ej7 dX6_isCabinRight_58 ?_
          refine lv_aload_n hx hb dX6_isCabinRight_59 rfl (lv_at hl 0 rfl) ?_
          refine g6_6 hx hb hts hi6_isCabinRight_6 hown hK hW (hts (.fieldLink RX6 29 RX6 "ship" "[I") (by decide +kernel)) dX6_isCabinRight_60 ?_
          refine lv_iload_n hx hb dX6_isCabinRight_63 rfl (lv_at hl 2 rfl) ?_
          replace hF := ob hF
          obtain ⟨j8, ej8, hF⟩ := hF
          refine l26 hx hb hK hW ej8 dX6_isCabinRight_64 ?_
          refine lv_icmp_ne (tgt := 84) hx hb dX6_isCabinRight_65 (by decide) (fun hc => ?_) (fun hc => ?_)
          · replace hF := it_f hF hc
            refine lv_iconst (v := (0 : Int32)) hx hb dX6_isCabinRight_84 (by decide) ?_
            have hq1 := Option.some.inj hF
            subst hq1
            exact e_z hx hb hr hlk hK hN hW hS (by decide) dX6_isCabinRight_85
          · replace hF := it_t hF hc
            refine lv_aload_n hx hb dX6_isCabinRight_68 rfl (lv_at hl 0 rfl) ?_
            refine g6_5 hx hb hts hi6_isCabinRight_6 hown hK hW (hts (.fieldLink RX6 26 RX6 "beds" "[I") (by decide +kernel)) dX6_isCabinRight_69 ?_
            refine lv_iload hx hb dX6_isCabinRight_72 (lv_at hl 3 rfl) ?_
            replace hF := ob hF
            obtain ⟨j9, ej9, hF⟩ := hF
            refine l25 hx hb hK hW ej9 dX6_isCabinRight_74 ?_
            refine lv_aload_n hx hb dX6_isCabinRight_75 rfl (lv_at hl 0 rfl) ?_
            refine lv_iload_n hx hb dX6_isCabinRight_76 rfl (lv_at hl 1 rfl) ?_
            refine lv_iconst (v := (3 : Int32)) hx hb dX6_isCabinRight_77 (by decide) ?_
            replace hF := ob hF
            obtain ⟨v10, q11, hF⟩ := hF
            refine k_i (va_runV (As := [.int a1, .int (3 : Int32)]) (rest := [.int (M 2500 j9)]) ⟨hx, hb, hml, hown, hts⟩ (c6_of l a1 (3 : Int32) q11) (cwV 2 hts gX6_isCabinRight_X6_of rfl rfl rfl (by decide +kernel) ⟨Nat.le_of_ble_eq_true rfl, Nat.le_of_ble_eq_true rfl⟩) (k_preV hW hK hN (hW.fx 6 rfl) (EE_6 cA ad S P M 0) rfl) rfl rfl hl.1 rfl (lv_room (Nat.le_of_ble_eq_true rfl)) dX6_isCabinRight_78 ⟨Nat.le_of_ble_eq_true rfl, Nat.le_of_ble_eq_true rfl⟩) hS ?_
            clear hW hS; intro H locs hW hS
            refine lv_icmp_ge (tgt := 86) hx hb dX6_isCabinRight_81 (by decide) (fun hc => ?_) (fun hc => ?_)
            · replace hF := it_t hF hc
              refine lv_iconst (v := (0 : Int32)) hx hb dX6_isCabinRight_86 (by decide) ?_
              refine lv_istore (lv' := [(5, .int (0 : Int32)), (0, .ref (ad 6 0)), (1, .int a1), (2, .int a2), (4, .int v1)]) hx hb dX6_isCabinRight_87 hl (by decide) rfl ?_
              clear hl; intro ls hl
              refine w6_isCabinRight_89 C hK hN a1 a2 v1 (hE := ?_) FU (0 : Int32) _ _ _ hF hW hS (lv_sub hl [1, 2, 3, 4, 0] rfl)
              intro  H locs ls hF hW hS hl
              refine lv_iconst (v := (1 : Int32)) hx hb dX6_isCabinRight_159 (by decide) ?_
              have hq1 := Option.some.inj hF
              subst hq1
              exact e_z hx hb hr hlk hK hN hW hS (by decide) dX6_isCabinRight_160
            · replace hF := it_f hF hc
              refine lv_iconst (v := (0 : Int32)) hx hb dX6_isCabinRight_84 (by decide) ?_
              have hq1 := Option.some.inj hF
              subst hq1
              exact e_z hx hb hr hlk hK hN hW hS (by decide) dX6_isCabinRight_85
    clear eK28
    refine lv_icmp_eq (tgt := 28) hx hb dX6_isCabinRight_19 (by decide) (fun hc => ?_) (fun hc => ?_)
    · replace hF := it_t hF hc
      exact hK28 _ _ _ hF hW hS (lv_sub hl [1, 2, 3, 0] rfl)
    · replace hF := it_f hF hc
      refine lv_iload_n hx hb dX6_isCabinRight_22 rfl (lv_at hl 4 rfl) ?_
      refine lv_bipush (v := (6 : Int32)) hx hb dX6_isCabinRight_23 (by decide) ?_
      refine lv_icmp_ne (tgt := 84) hx hb dX6_isCabinRight_25 (by decide) (fun hc => ?_) (fun hc => ?_)
      · replace hF := it_f hF hc
        refine lv_iconst (v := (0 : Int32)) hx hb dX6_isCabinRight_84 (by decide) ?_
        have hq1 := Option.some.inj hF
        subst hq1
        exact e_z hx hb hr hlk hK hN hW hS (by decide) dX6_isCabinRight_85
      · replace hF := it_t hF hc
        exact hK28 _ _ _ hF hW hS (lv_sub hl [1, 2, 3, 0] rfl)
  · replace hF := it_t hF hc
    refine lv_iconst (v := (1 : Int32)) hx hb dX6_isCabinRight_15 (by decide) ?_
    have hq1 := Option.some.inj hF
    subst hq1
    exact e_z hx hb hr hlk hK hN hW hS (by decide) dX6_isCabinRight_16

set_option maxHeartbeats 4000000 in
set_option maxRecDepth 100000 in
theorem c6_isCabinRight (l : Launch) {D : va_G} {cA : Nat → ClassId} {z : Nat} {ad : Nat → Nat → Nat} {N : TN} {S : TS} {P : TP} {M : TS} (a1 : Int32) (a2 : Int32) (a3 : Int32) {v : Int32} (hF : f6_isCabinRight M a1 a2 a3 = some v) : Met l yX6_isCabinRight wsX6_isCabinRight rm6_isCabinRight (va_Pc [.ref (ad 6 0), .int a1, .int a2, .int a3] (Wl D cA z (ad, N, S, P, M))) (Qi D cA z v (ad, N, S, P, M)) 0 0 (fun q => z ≤ q) := by
  refine Met.ofW (cc := cX6_isCabinRight) (maxL := 6) (ret := (some .boolean)) (by decide) rfl ?_
  intro p e s m args below meth c s₁ B hml hv
  obtain ⟨rfl, hW, hK, hN⟩ := hv
  have hl := lv_entry ([.ref (ad 6 0), .int a1, .int a2, .int a3]) (n := 6) (Nat.le_of_ble_eq_true rfl)
  rw [lg_entry_eq]
  generalize (lg_sl ([.ref (ad 6 0), .int a1, .int a2, .int a3]) ++ List.replicate (6 - (lg_sl ([.ref (ad 6 0), .int a1, .int a2, .int a3])).length) Slot.unset).toArray = ls at hl ⊢
  exact w6_isCabinRight ⟨B.exec, B.bytes, B.returns, hml, findClass_of_methodNamed B.named, atoms_spec (ws := wsX6_isCabinRight) B.pre, B.notSynchronized⟩ hK hN a1 a2 a3 hF hW va_S.rf hl

-- 6 agrees
abbrev rm6_agrees : Room := { frames := 3, cells := 0, slots := 0, locals := 71 }
def f6_agrees (M : TS) (a1 : Int32) : Option (Int32) :=
  (f6_of M a1 (4 : Int32)).bind fun (v1 : Int32) =>
  (f6_of M a1 (0 : Int32)).bind fun (v3 : Int32) =>
  (f6_isIn v1 (0 : Int32) (7 : Int32)).bind fun (v5 : Int32) =>
  if v5 = 0 then
  (some (0 : Int32))
  else
  ((f6_isPlaceRight M a1 v3 v1).bind fun (v7 : Int32) =>
  if v7 = 0 then
  (some (0 : Int32))
  else
  ((f6_isCabinRight M a1 v3 v1).bind fun (v9 : Int32) =>
  if v9 = 0 then
  (some (0 : Int32))
  else
  (lt (fun (k11 : Int32) => (lt (lt (lt (fun (k12 : Int32) => ((f6_of M a1 (11 : Int32)).bind fun (v13 : Int32) =>
  if v13 = k12 then
  ((f6_of M a1 (10 : Int32)).bind fun (v15 : Int32) =>
  if v15 < (500 : Int32) then
  (some (0 : Int32))
  else
  (some (1 : Int32)))
  else
  (some (0 : Int32)))) fun (K155 : Int32 → Option (Int32)) =>
  if v1 = (5 : Int32) then
  ((f6_of M a1 (10 : Int32)).bind fun (v19 : Int32) =>
  K155 v19)
  else
  (if v1 = (7 : Int32) then
  ((f6_of M a1 (10 : Int32)).bind fun (v17 : Int32) =>
  K155 (v17 / (2 : Int32)))
  else
  (K155 (0 : Int32)))) fun (K121 : Option (Int32)) =>
  lt ((f6_of M a1 (5 : Int32)).bind fun (v21 : Int32) =>
  if v21 = (-1 : Int32) then
  (K121)
  else
  (some (0 : Int32))) fun (K109 : Option (Int32)) =>
  if v1 = 0 then
  (K109)
  else
  (if v1 = (7 : Int32) then
  (K109)
  else
  (K121))) fun (K99 : Option (Int32)) =>
  if k11 = 0 then
  (K99)
  else
  ((f6_of M a1 (5 : Int32)).bind fun (v23 : Int32) =>
  (f6_isIn v23 (0 : Int32) (200000 : Int32)).bind fun (v25 : Int32) =>
  if v25 = 0 then
  (some (0 : Int32))
  else
  (K99)))) fun (K77 : Int32 → Option (Int32)) =>
  if v1 = (1 : Int32) then
  (K77 (1 : Int32))
  else
  (if v1 = (2 : Int32) then
  (K77 (1 : Int32))
  else
  (if v1 = (3 : Int32) then
  (K77 (1 : Int32))
  else
  (if v1 = (4 : Int32) then
  (K77 (1 : Int32))
  else
  (if v1 = (6 : Int32) then
  (K77 (1 : Int32))
  else
  (K77 (0 : Int32)))))))))
set_option maxHeartbeats 4000000 in
set_option maxRecDepth 100000 in
theorem w6_agrees {p : Program} {l : Launch} {e : Env} {s : State} {m : MethodId} {args : Array Value} {below : List Frame} {meth : Method} {c : Code} (C : MC p s m args meth c cX6_agrees (some .boolean) 6 RX6 wsX6_agrees) {D : va_G} {cA : Nat → ClassId} {z : Nat} {ad : Nat → Nat → Nat} {N : TN} (hK : va_K D vwCl (tysW cA) s) (hN : NW s) {S : TS} {P : TP} {M : TS} (a1 : Int32) {v : Int32} (hF : f6_agrees M a1 = some v)
    {H : Heap} {ls : Array Slot} (hW : Wd D cA z ad N S P M H) {locs : List Loc} (hS : va_S (fun q => z ≤ q) s.heap H locs) (hl : lv_has ls 6 [(0, .ref (ad 6 0)), (1, .int a1)]) : W p l e rm6_agrees s m args below meth c H locs 0 0 (MQ below (Qi D cA z v (ad, N, S, P, M)) args s 0 0 (fun q => z ≤ q)) (F0 m 0 ls []) := by
  obtain ⟨hx, hb, hr, hml, hown, hts, hlk⟩ := id C
  unfold f6_agrees at hF
  refine lv_aload_n hx hb dX6_agrees_0 rfl (lv_at hl 0 rfl) ?_
  refine lv_iload_n hx hb dX6_agrees_1 rfl (lv_at hl 1 rfl) ?_
  refine lv_iconst (v := (4 : Int32)) hx hb dX6_agrees_2 (by decide) ?_
  replace hF := ob hF
  obtain ⟨v1, q2, hF⟩ := hF
  refine k_i (va_runV (As := [.int a1, .int (4 : Int32)]) (rest := []) ⟨hx, hb, hml, hown, hts⟩ (c6_of l a1 (4 : Int32) q2) (cwV 2 hts gX6_agrees_X6_of rfl rfl rfl (by decide +kernel) ⟨Nat.le_of_ble_eq_true rfl, Nat.le_of_ble_eq_true rfl⟩) (k_preV hW hK hN (hW.fx 6 rfl) (EE_6 cA ad S P M 0) rfl) rfl rfl hl.1 rfl (lv_room (Nat.le_of_ble_eq_true rfl)) dX6_agrees_3 ⟨Nat.le_of_ble_eq_true rfl, Nat.le_of_ble_eq_true rfl⟩) hS ?_
  clear hW hS; intro H locs hW hS
  refine lv_istore_n (lv' := [(2, .int v1), (0, .ref (ad 6 0)), (1, .int a1)]) hx hb dX6_agrees_6 rfl hl (by decide) rfl ?_
  clear hl; intro ls hl
  refine lv_aload_n hx hb dX6_agrees_7 rfl (lv_at hl 1 rfl) ?_
  refine lv_iload_n hx hb dX6_agrees_8 rfl (lv_at hl 2 rfl) ?_
  refine lv_iconst (v := (0 : Int32)) hx hb dX6_agrees_9 (by decide) ?_
  replace hF := ob hF
  obtain ⟨v3, q4, hF⟩ := hF
  refine k_i (va_runV (As := [.int a1, .int (0 : Int32)]) (rest := []) ⟨hx, hb, hml, hown, hts⟩ (c6_of l a1 (0 : Int32) q4) (cwV 2 hts gX6_agrees_X6_of rfl rfl rfl (by decide +kernel) ⟨Nat.le_of_ble_eq_true rfl, Nat.le_of_ble_eq_true rfl⟩) (k_preV hW hK hN (hW.fx 6 rfl) (EE_6 cA ad S P M 0) rfl) rfl rfl hl.1 rfl (lv_room (Nat.le_of_ble_eq_true rfl)) dX6_agrees_10 ⟨Nat.le_of_ble_eq_true rfl, Nat.le_of_ble_eq_true rfl⟩) hS ?_
  clear hW hS; intro H locs hW hS
  refine lv_istore_n (lv' := [(3, .int v3), (2, .int v1), (0, .ref (ad 6 0)), (1, .int a1)]) hx hb dX6_agrees_13 rfl hl (by decide) rfl ?_
  clear hl; intro ls hl
  refine lv_iload_n hx hb dX6_agrees_14 rfl (lv_at hl 1 rfl) ?_
  refine lv_iconst (v := (0 : Int32)) hx hb dX6_agrees_15 (by decide) ?_
  refine lv_bipush (v := (7 : Int32)) hx hb dX6_agrees_16 (by decide) ?_
  replace hF := ob hF
  obtain ⟨v5, q6, hF⟩ := hF
  refine k_i (va_runS (As := [.int v1, .int (0 : Int32), .int (7 : Int32)]) (rest := []) ⟨hx, hb, hml, hown, hts⟩ (c6_isIn l v1 (0 : Int32) (7 : Int32) q6) (va_cwS 3 hts gX6_agrees_X6_isIn rfl rfl rfl (by decide +kernel) ⟨Nat.le_of_ble_eq_true rfl, Nat.le_of_ble_eq_true rfl⟩) (k_preS hW hK hN) rfl rfl hl.1 rfl (lv_room (Nat.le_of_ble_eq_true rfl)) dX6_agrees_18 ⟨Nat.le_of_ble_eq_true rfl, Nat.le_of_ble_eq_true rfl⟩) hS ?_
  clear hW hS; intro H locs hW hS
  refine lv_if_eq (tgt := 44) hx hb dX6_agrees_21 (by decide) (fun hc => ?_) (fun hc => ?_)
  · replace hF := it_t hF hc
    refine lv_iconst (v := (0 : Int32)) hx hb dX6_agrees_44 (by decide) ?_
    have hq1 := Option.some.inj hF
    subst hq1
    exact e_z hx hb hr hlk hK hN hW hS (by decide) dX6_agrees_45
  · replace hF := it_f hF hc
    refine lv_aload_n hx hb dX6_agrees_24 rfl (lv_at hl 2 rfl) ?_
    refine lv_iload_n hx hb dX6_agrees_25 rfl (lv_at hl 3 rfl) ?_
    refine lv_iload_n hx hb dX6_agrees_26 rfl (lv_at hl 0 rfl) ?_
    refine lv_iload_n hx hb dX6_agrees_27 rfl (lv_at hl 1 rfl) ?_
    replace hF := ob hF
    obtain ⟨v7, q8, hF⟩ := hF
    refine k_i (va_runV (As := [.int a1, .int v3, .int v1]) (rest := []) ⟨hx, hb, hml, hown, hts⟩ (c6_isPlaceRight l a1 v3 v1 q8) (cwV 3 hts gX6_agrees_X6_isPlaceRight rfl rfl rfl (by decide +kernel) ⟨Nat.le_of_ble_eq_true rfl, Nat.le_of_ble_eq_true rfl⟩) (k_preV hW hK hN (hW.fx 6 rfl) (EE_6 cA ad S P M 0) rfl) rfl rfl hl.1 rfl (lv_room (Nat.le_of_ble_eq_true rfl)) dX6_agrees_28 ⟨Nat.le_of_ble_eq_true rfl, Nat.le_of_ble_eq_true rfl⟩) hS ?_
    clear hW hS; intro H locs hW hS
    refine lv_if_eq (tgt := 44) hx hb dX6_agrees_31 (by decide) (fun hc => ?_) (fun hc => ?_)
    · replace hF := it_t hF hc
      refine lv_iconst (v := (0 : Int32)) hx hb dX6_agrees_44 (by decide) ?_
      have hq1 := Option.some.inj hF
      subst hq1
      exact e_z hx hb hr hlk hK hN hW hS (by decide) dX6_agrees_45
    · replace hF := it_f hF hc
      refine lv_aload_n hx hb dX6_agrees_34 rfl (lv_at hl 2 rfl) ?_
      refine lv_iload_n hx hb dX6_agrees_35 rfl (lv_at hl 3 rfl) ?_
      refine lv_iload_n hx hb dX6_agrees_36 rfl (lv_at hl 0 rfl) ?_
      refine lv_iload_n hx hb dX6_agrees_37 rfl (lv_at hl 1 rfl) ?_
      replace hF := ob hF
      obtain ⟨v9, q10, hF⟩ := hF
      refine k_i (va_runV (As := [.int a1, .int v3, .int v1]) (rest := []) ⟨hx, hb, hml, hown, hts⟩ (c6_isCabinRight l a1 v3 v1 q10) (cwV 3 hts gX6_agrees_X6_isCabinRight rfl rfl rfl (by decide +kernel) ⟨Nat.le_of_ble_eq_true rfl, Nat.le_of_ble_eq_true rfl⟩) (k_preV hW hK hN (hW.fx 6 rfl) (EE_6 cA ad S P M 0) rfl) rfl rfl hl.1 rfl (lv_room (Nat.le_of_ble_eq_true rfl)) dX6_agrees_38 ⟨Nat.le_of_ble_eq_true rfl, Nat.le_of_ble_eq_true rfl⟩) hS ?_
      clear hW hS; intro H locs hW hS
      refine lv_if_ne (tgt := 46) hx hb dX6_agrees_41 (by decide) (fun hc => ?_) (fun hc => ?_)
      · replace hF := it_f hF hc
        refine lv_iload_n hx hb dX6_agrees_46 rfl (lv_at hl 1 rfl) ?_
        refine lv_iconst (v := (1 : Int32)) hx hb dX6_agrees_47 (by decide) ?_
        replace hF := lt_ex hF
        obtain ⟨K77, eK77, hF⟩ := hF
        have hK77 : ∀ (k11 : Int32) (H : Heap) (locs : List Loc) (ls : Array Slot), K77 k11 = some v → Wd D cA z ad N S P M H → va_S (fun q => z ≤ q) s.heap H locs → lv_has ls 6 [(0, .ref (ad 6 0)), (1, .int a1), (2, .int v1)] → W p l e rm6_agrees s m args below meth c H locs 0 0 (MQ below (Qi D cA z v (ad, N, S, P, M)) args s 0 0 (fun q => z ≤ q)) (F0 m 77 ls [.int k11]) := by
          intro k11 H locs ls hF hW hS hl
          subst eK77
          refine lv_istore (lv' := [(4, .int k11), (0, .ref (ad 6 0)), (1, .int a1), (2, .int v1)]) hx hb dX6_agrees_77 hl (by decide) rfl ?_
          clear hl; intro ls hl
          refine lv_iload hx hb dX6_agrees_79 (lv_at hl 0 rfl) ?_
          replace hF := lt_ex hF
          obtain ⟨K99, eK99, hF⟩ := hF
          have hK99 : ∀ (H : Heap) (locs : List Loc) (ls : Array Slot), K99 = some v → Wd D cA z ad N S P M H → va_S (fun q => z ≤ q) s.heap H locs → lv_has ls 6 [(0, .ref (ad 6 0)), (1, .int a1), (2, .int v1)] → W p l e rm6_agrees s m args below meth c H locs 0 0 (MQ below (Qi D cA z v (ad, N, S, P, M)) args s 0 0 (fun q => z ≤ q)) (F0 m 99 ls []) := by
            intro H locs ls hF hW hS hl
            subst eK99
            refine lv_iload_n hx hb dX6_agrees_99 rfl (lv_at hl 2 rfl) ?_
            replace hF := lt_ex hF
            obtain ⟨K121, eK121, hF⟩ := hF
            have hK121 : ∀ (H : Heap) (locs : List Loc) (ls : Array Slot), K121 = some v → Wd D cA z ad N S P M H → va_S (fun q => z ≤ q) s.heap H locs → lv_has ls 6 [(0, .ref (ad 6 0)), (1, .int a1), (2, .int v1)] → W p l e rm6_agrees s m args below meth c H locs 0 0 (MQ below (Qi D cA z v (ad, N, S, P, M)) args s 0 0 (fun q => z ≤ q)) (F0 m 121 ls []) := by
              intro H locs ls hF hW hS hl
              subst eK121
              refine lv_iload_n hx hb dX6_agrees_121 rfl (lv_at hl 2 rfl) ?_
              refine lv_iconst (v := (5 : Int32)) hx hb dX6_agrees_122 (by decide) ?_
              replace hF := lt_ex hF
              obtain ⟨K155, eK155, hF⟩ := hF
              have hK155 : ∀ (k12 : Int32) (H : Heap) (locs : List Loc) (ls : Array Slot), K155 k12 = some v → Wd D cA z ad N S P M H → va_S (fun q => z ≤ q) s.heap H locs → lv_has ls 6 [(0, .ref (ad 6 0)), (1, .int a1)] → W p l e rm6_agrees s m args below meth c H locs 0 0 (MQ below (Qi D cA z v (ad, N, S, P, M)) args s 0 0 (fun q => z ≤ q)) (F0 m 155 ls [.int k12]) := by
                intro k12 H locs ls hF hW hS hl
                subst eK155
                refine lv_istore (lv' := [(5, .int k12), (0, .ref (ad 6 0)), (1, .int a1)]) hx hb dX6_agrees_155 hl (by decide) rfl ?_
                clear hl; intro ls hl
                refine lv_aload_n hx hb dX6_agrees_157 rfl (lv_at hl 1 rfl) ?_
                refine lv_iload_n hx hb dX6_agrees_158 rfl (lv_at hl 2 rfl) ?_
                refine lv_bipush (v := (11 : Int32)) hx hb dX6_agrees_159 (by decide) ?_
                replace hF := ob hF
                obtain ⟨v13, q14, hF⟩ := hF
                refine k_i (va_runV (As := [.int a1, .int (11 : Int32)]) (rest := []) ⟨hx, hb, hml, hown, hts⟩ (c6_of l a1 (11 : Int32) q14) (cwV 2 hts gX6_agrees_X6_of rfl rfl rfl (by decide +kernel) ⟨Nat.le_of_ble_eq_true rfl, Nat.le_of_ble_eq_true rfl⟩) (k_preV hW hK hN (hW.fx 6 rfl) (EE_6 cA ad S P M 0) rfl) rfl rfl hl.1 rfl (lv_room (Nat.le_of_ble_eq_true rfl)) dX6_agrees_161 ⟨Nat.le_of_ble_eq_true rfl, Nat.le_of_ble_eq_true rfl⟩) hS ?_
                clear hW hS; intro H locs hW hS
                refine lv_iload hx hb dX6_agrees_164 (lv_at hl 0 rfl) ?_
                refine lv_icmp_ne (tgt := 186) hx hb dX6_agrees_166 (by decide) (fun hc => ?_) (fun hc => ?_)
                · replace hF := it_f hF hc
                  refine lv_iconst (v := (0 : Int32)) hx hb dX6_agrees_186 (by decide) ?_
                  have hq1 := Option.some.inj hF
                  subst hq1
                  exact e_z hx hb hr hlk hK hN hW hS (by decide) dX6_agrees_187
                · replace hF := it_t hF hc
                  refine lv_aload_n hx hb dX6_agrees_169 rfl (lv_at hl 1 rfl) ?_
                  refine lv_iload_n hx hb dX6_agrees_170 rfl (lv_at hl 2 rfl) ?_
                  refine lv_bipush (v := (10 : Int32)) hx hb dX6_agrees_171 (by decide) ?_
                  replace hF := ob hF
                  obtain ⟨v15, q16, hF⟩ := hF
                  refine k_i (va_runV (As := [.int a1, .int (10 : Int32)]) (rest := []) ⟨hx, hb, hml, hown, hts⟩ (c6_of l a1 (10 : Int32) q16) (cwV 2 hts gX6_agrees_X6_of rfl rfl rfl (by decide +kernel) ⟨Nat.le_of_ble_eq_true rfl, Nat.le_of_ble_eq_true rfl⟩) (k_preV hW hK hN (hW.fx 6 rfl) (EE_6 cA ad S P M 0) rfl) rfl rfl hl.1 rfl (lv_room (Nat.le_of_ble_eq_true rfl)) dX6_agrees_173 ⟨Nat.le_of_ble_eq_true rfl, Nat.le_of_ble_eq_true rfl⟩) hS ?_
                  clear hW hS; intro H locs hW hS
                  refine lv_sipush (v := (500 : Int32)) hx hb dX6_agrees_176 (by decide) ?_
                  refine lv_icmp_lt (tgt := 186) hx hb dX6_agrees_179 (by decide) (fun hc => ?_) (fun hc => ?_)
                  · replace hF := it_t hF hc
                    refine lv_iconst (v := (0 : Int32)) hx hb dX6_agrees_186 (by decide) ?_
                    have hq1 := Option.some.inj hF
                    subst hq1
                    exact e_z hx hb hr hlk hK hN hW hS (by decide) dX6_agrees_187
                  · replace hF := it_f hF hc
                    refine lv_iconst (v := (1 : Int32)) hx hb dX6_agrees_182 (by decide) ?_
                    refine lv_goto (tgt := 187) hx hb dX6_agrees_183 (by decide) ?_
                    have hq1 := Option.some.inj hF
                    subst hq1
                    exact e_z hx hb hr hlk hK hN hW hS (by decide) dX6_agrees_187
              clear eK155
              refine lv_icmp_ne (tgt := 136) hx hb dX6_agrees_123 (by decide) (fun hc => ?_) (fun hc => ?_)
              · replace hF := it_f hF hc
                refine lv_iload_n hx hb dX6_agrees_136 rfl (lv_at hl 2 rfl) ?_
                refine lv_bipush (v := (7 : Int32)) hx hb dX6_agrees_137 (by decide) ?_
                refine lv_icmp_ne (tgt := 154) hx hb dX6_agrees_139 (by decide) (fun hc => ?_) (fun hc => ?_)
                · replace hF := it_f hF hc
                  refine lv_iconst (v := (0 : Int32)) hx hb dX6_agrees_154 (by decide) ?_
                  exact hK155 (0 : Int32) _ _ _ hF hW hS (lv_sub hl [0, 1] rfl)
                · replace hF := it_t hF hc
                  refine lv_aload_n hx hb dX6_agrees_142 rfl (lv_at hl 0 rfl) ?_
                  refine lv_iload_n hx hb dX6_agrees_143 rfl (lv_at hl 1 rfl) ?_
                  refine lv_bipush (v := (10 : Int32)) hx hb dX6_agrees_144 (by decide) ?_
                  replace hF := ob hF
                  obtain ⟨v17, q18, hF⟩ := hF
                  refine k_i (va_runV (As := [.int a1, .int (10 : Int32)]) (rest := []) ⟨hx, hb, hml, hown, hts⟩ (c6_of l a1 (10 : Int32) q18) (cwV 2 hts gX6_agrees_X6_of rfl rfl rfl (by decide +kernel) ⟨Nat.le_of_ble_eq_true rfl, Nat.le_of_ble_eq_true rfl⟩) (k_preV hW hK hN (hW.fx 6 rfl) (EE_6 cA ad S P M 0) rfl) rfl rfl hl.1 rfl (lv_room (Nat.le_of_ble_eq_true rfl)) dX6_agrees_146 ⟨Nat.le_of_ble_eq_true rfl, Nat.le_of_ble_eq_true rfl⟩) hS ?_
                  clear hW hS; intro H locs hW hS
                  refine lv_iconst (v := (2 : Int32)) hx hb dX6_agrees_149 (by decide) ?_
                  refine lv_idiv hx hb dX6_agrees_150 (by decide) ?_
                  refine lv_goto (tgt := 155) hx hb dX6_agrees_151 (by decide) ?_
                  exact hK155 (v17 / (2 : Int32)) _ _ _ hF hW hS (lv_sub hl [0, 1] rfl)
              · replace hF := it_t hF hc
                refine lv_aload_n hx hb dX6_agrees_126 rfl (lv_at hl 0 rfl) ?_
                refine lv_iload_n hx hb dX6_agrees_127 rfl (lv_at hl 1 rfl) ?_
                refine lv_bipush (v := (10 : Int32)) hx hb dX6_agrees_128 (by decide) ?_
                replace hF := ob hF
                obtain ⟨v19, q20, hF⟩ := hF
                refine k_i (va_runV (As := [.int a1, .int (10 : Int32)]) (rest := []) ⟨hx, hb, hml, hown, hts⟩ (c6_of l a1 (10 : Int32) q20) (cwV 2 hts gX6_agrees_X6_of rfl rfl rfl (by decide +kernel) ⟨Nat.le_of_ble_eq_true rfl, Nat.le_of_ble_eq_true rfl⟩) (k_preV hW hK hN (hW.fx 6 rfl) (EE_6 cA ad S P M 0) rfl) rfl rfl hl.1 rfl (lv_room (Nat.le_of_ble_eq_true rfl)) dX6_agrees_130 ⟨Nat.le_of_ble_eq_true rfl, Nat.le_of_ble_eq_true rfl⟩) hS ?_
                clear hW hS; intro H locs hW hS
                refine lv_goto (tgt := 155) hx hb dX6_agrees_133 (by decide) ?_
                exact hK155 v19 _ _ _ hF hW hS (lv_sub hl [0, 1] rfl)
            clear eK121
            replace hF := lt_ex hF
            obtain ⟨K109, eK109, hF⟩ := hF
            have hK109 : ∀ (H : Heap) (locs : List Loc) (ls : Array Slot), K109 = some v → Wd D cA z ad N S P M H → va_S (fun q => z ≤ q) s.heap H locs → lv_has ls 6 [(0, .ref (ad 6 0)), (1, .int a1), (2, .int v1)] → W p l e rm6_agrees s m args below meth c H locs 0 0 (MQ below (Qi D cA z v (ad, N, S, P, M)) args s 0 0 (fun q => z ≤ q)) (F0 m 109 ls []) := by
              intro H locs ls hF hW hS hl
              subst eK109
              refine lv_aload_n hx hb dX6_agrees_109 rfl (lv_at hl 0 rfl) ?_
              refine lv_iload_n hx hb dX6_agrees_110 rfl (lv_at hl 1 rfl) ?_
              refine lv_iconst (v := (5 : Int32)) hx hb dX6_agrees_111 (by decide) ?_
              replace hF := ob hF
              obtain ⟨v21, q22, hF⟩ := hF
              refine k_i (va_runV (As := [.int a1, .int (5 : Int32)]) (rest := []) ⟨hx, hb, hml, hown, hts⟩ (c6_of l a1 (5 : Int32) q22) (cwV 2 hts gX6_agrees_X6_of rfl rfl rfl (by decide +kernel) ⟨Nat.le_of_ble_eq_true rfl, Nat.le_of_ble_eq_true rfl⟩) (k_preV hW hK hN (hW.fx 6 rfl) (EE_6 cA ad S P M 0) rfl) rfl rfl hl.1 rfl (lv_room (Nat.le_of_ble_eq_true rfl)) dX6_agrees_112 ⟨Nat.le_of_ble_eq_true rfl, Nat.le_of_ble_eq_true rfl⟩) hS ?_
              clear hW hS; intro H locs hW hS
              refine lv_iconst (v := (-1 : Int32)) hx hb dX6_agrees_115 (by decide) ?_
              refine lv_icmp_eq (tgt := 121) hx hb dX6_agrees_116 (by decide) (fun hc => ?_) (fun hc => ?_)
              · replace hF := it_t hF hc
                exact hK121 _ _ _ hF hW hS (lv_sub hl [0, 1, 2] rfl)
              · replace hF := it_f hF hc
                refine lv_iconst (v := (0 : Int32)) hx hb dX6_agrees_119 (by decide) ?_
                have hq1 := Option.some.inj hF
                subst hq1
                exact e_z hx hb hr hlk hK hN hW hS (by decide) dX6_agrees_120
            clear eK109
            refine lv_if_eq (tgt := 109) hx hb dX6_agrees_100 (by decide) (fun hc => ?_) (fun hc => ?_)
            · replace hF := it_t hF hc
              exact hK109 _ _ _ hF hW hS (lv_sub hl [0, 1, 2] rfl)
            · replace hF := it_f hF hc
              refine lv_iload_n hx hb dX6_agrees_103 rfl (lv_at hl 2 rfl) ?_
              refine lv_bipush (v := (7 : Int32)) hx hb dX6_agrees_104 (by decide) ?_
              refine lv_icmp_ne (tgt := 121) hx hb dX6_agrees_106 (by decide) (fun hc => ?_) (fun hc => ?_)
              · replace hF := it_f hF hc
                exact hK121 _ _ _ hF hW hS (lv_sub hl [0, 1, 2] rfl)
              · replace hF := it_t hF hc
                exact hK109 _ _ _ hF hW hS (lv_sub hl [0, 1, 2] rfl)
          clear eK99
          refine lv_if_eq (tgt := 99) hx hb dX6_agrees_81 (by decide) (fun hc => ?_) (fun hc => ?_)
          · replace hF := it_t hF hc
            exact hK99 _ _ _ hF hW hS (lv_sub hl [1, 2, 3] rfl)
          · replace hF := it_f hF hc
            refine lv_aload_n hx hb dX6_agrees_84 rfl (lv_at hl 1 rfl) ?_
            refine lv_iload_n hx hb dX6_agrees_85 rfl (lv_at hl 2 rfl) ?_
            refine lv_iconst (v := (5 : Int32)) hx hb dX6_agrees_86 (by decide) ?_
            replace hF := ob hF
            obtain ⟨v23, q24, hF⟩ := hF
            refine k_i (va_runV (As := [.int a1, .int (5 : Int32)]) (rest := []) ⟨hx, hb, hml, hown, hts⟩ (c6_of l a1 (5 : Int32) q24) (cwV 2 hts gX6_agrees_X6_of rfl rfl rfl (by decide +kernel) ⟨Nat.le_of_ble_eq_true rfl, Nat.le_of_ble_eq_true rfl⟩) (k_preV hW hK hN (hW.fx 6 rfl) (EE_6 cA ad S P M 0) rfl) rfl rfl hl.1 rfl (lv_room (Nat.le_of_ble_eq_true rfl)) dX6_agrees_87 ⟨Nat.le_of_ble_eq_true rfl, Nat.le_of_ble_eq_true rfl⟩) hS ?_
            clear hW hS; intro H locs hW hS
            refine lv_iconst (v := (0 : Int32)) hx hb dX6_agrees_90 (by decide) ?_
            refine lv_ldc (v := (200000 : Int32)) hx hb hown (hts (.constant RX6 119 (200000)) (by decide +kernel)) dX6_agrees_91 ?_
            replace hF := ob hF
            obtain ⟨v25, q26, hF⟩ := hF
            refine k_i (va_runS (As := [.int v23, .int (0 : Int32), .int (200000 : Int32)]) (rest := []) ⟨hx, hb, hml, hown, hts⟩ (c6_isIn l v23 (0 : Int32) (200000 : Int32) q26) (va_cwS 3 hts gX6_agrees_X6_isIn rfl rfl rfl (by decide +kernel) ⟨Nat.le_of_ble_eq_true rfl, Nat.le_of_ble_eq_true rfl⟩) (k_preS hW hK hN) rfl rfl hl.1 rfl (lv_room (Nat.le_of_ble_eq_true rfl)) dX6_agrees_93 ⟨Nat.le_of_ble_eq_true rfl, Nat.le_of_ble_eq_true rfl⟩) hS ?_
            clear hW hS; intro H locs hW hS
            refine lv_if_eq (tgt := 119) hx hb dX6_agrees_96 (by decide) (fun hc => ?_) (fun hc => ?_)
            · replace hF := it_t hF hc
              refine lv_iconst (v := (0 : Int32)) hx hb dX6_agrees_119 (by decide) ?_
              have hq1 := Option.some.inj hF
              subst hq1
              exact e_z hx hb hr hlk hK hN hW hS (by decide) dX6_agrees_120
            · replace hF := it_f hF hc
              exact hK99 _ _ _ hF hW hS (lv_sub hl [1, 2, 3] rfl)
        clear eK77
        refine lv_icmp_eq (tgt := 72) hx hb dX6_agrees_48 (by decide) (fun hc => ?_) (fun hc => ?_)
        · replace hF := it_t hF hc
          refine lv_iconst (v := (1 : Int32)) hx hb dX6_agrees_72 (by decide) ?_
          refine lv_goto (tgt := 77) hx hb dX6_agrees_73 (by decide) ?_
          exact hK77 (1 : Int32) _ _ _ hF hW hS (lv_sub hl [2, 3, 1] rfl)
        · replace hF := it_f hF hc
          refine lv_iload_n hx hb dX6_agrees_51 rfl (lv_at hl 1 rfl) ?_
          refine lv_iconst (v := (2 : Int32)) hx hb dX6_agrees_52 (by decide) ?_
          refine lv_icmp_eq (tgt := 72) hx hb dX6_agrees_53 (by decide) (fun hc => ?_) (fun hc => ?_)
          · replace hF := it_t hF hc
            refine lv_iconst (v := (1 : Int32)) hx hb dX6_agrees_72 (by decide) ?_
            refine lv_goto (tgt := 77) hx hb dX6_agrees_73 (by decide) ?_
            exact hK77 (1 : Int32) _ _ _ hF hW hS (lv_sub hl [2, 3, 1] rfl)
          · replace hF := it_f hF hc
            refine lv_iload_n hx hb dX6_agrees_56 rfl (lv_at hl 1 rfl) ?_
            refine lv_iconst (v := (3 : Int32)) hx hb dX6_agrees_57 (by decide) ?_
            refine lv_icmp_eq (tgt := 72) hx hb dX6_agrees_58 (by decide) (fun hc => ?_) (fun hc => ?_)
            · replace hF := it_t hF hc
              refine lv_iconst (v := (1 : Int32)) hx hb dX6_agrees_72 (by decide) ?_
              refine lv_goto (tgt := 77) hx hb dX6_agrees_73 (by decide) ?_
              exact hK77 (1 : Int32) _ _ _ hF hW hS (lv_sub hl [2, 3, 1] rfl)
            · replace hF := it_f hF hc
              refine lv_iload_n hx hb dX6_agrees_61 rfl (lv_at hl 1 rfl) ?_
              refine lv_iconst (v := (4 : Int32)) hx hb dX6_agrees_62 (by decide) ?_
              refine lv_icmp_eq (tgt := 72) hx hb dX6_agrees_63 (by decide) (fun hc => ?_) (fun hc => ?_)
              · replace hF := it_t hF hc
                refine lv_iconst (v := (1 : Int32)) hx hb dX6_agrees_72 (by decide) ?_
                refine lv_goto (tgt := 77) hx hb dX6_agrees_73 (by decide) ?_
                exact hK77 (1 : Int32) _ _ _ hF hW hS (lv_sub hl [2, 3, 1] rfl)
              · replace hF := it_f hF hc
                refine lv_iload_n hx hb dX6_agrees_66 rfl (lv_at hl 1 rfl) ?_
                refine lv_bipush (v := (6 : Int32)) hx hb dX6_agrees_67 (by decide) ?_
                refine lv_icmp_ne (tgt := 76) hx hb dX6_agrees_69 (by decide) (fun hc => ?_) (fun hc => ?_)
                · replace hF := it_f hF hc
                  refine lv_iconst (v := (0 : Int32)) hx hb dX6_agrees_76 (by decide) ?_
                  exact hK77 (0 : Int32) _ _ _ hF hW hS (lv_sub hl [2, 3, 1] rfl)
                · replace hF := it_t hF hc
                  refine lv_iconst (v := (1 : Int32)) hx hb dX6_agrees_72 (by decide) ?_
                  refine lv_goto (tgt := 77) hx hb dX6_agrees_73 (by decide) ?_
                  exact hK77 (1 : Int32) _ _ _ hF hW hS (lv_sub hl [2, 3, 1] rfl)
      · replace hF := it_t hF hc
        refine lv_iconst (v := (0 : Int32)) hx hb dX6_agrees_44 (by decide) ?_
        have hq1 := Option.some.inj hF
        subst hq1
        exact e_z hx hb hr hlk hK hN hW hS (by decide) dX6_agrees_45

set_option maxHeartbeats 4000000 in
set_option maxRecDepth 100000 in
theorem c6_agrees (l : Launch) {D : va_G} {cA : Nat → ClassId} {z : Nat} {ad : Nat → Nat → Nat} {N : TN} {S : TS} {P : TP} {M : TS} (a1 : Int32) {v : Int32} (hF : f6_agrees M a1 = some v) : Met l yX6_agrees wsX6_agrees rm6_agrees (va_Pc [.ref (ad 6 0), .int a1] (Wl D cA z (ad, N, S, P, M))) (Qi D cA z v (ad, N, S, P, M)) 0 0 (fun q => z ≤ q) := by
  refine Met.ofW (cc := cX6_agrees) (maxL := 6) (ret := (some .boolean)) (by decide) rfl ?_
  intro p e s m args below meth c s₁ B hml hv
  obtain ⟨rfl, hW, hK, hN⟩ := hv
  have hl := lv_entry ([.ref (ad 6 0), .int a1]) (n := 6) (Nat.le_of_ble_eq_true rfl)
  rw [lg_entry_eq]
  generalize (lg_sl ([.ref (ad 6 0), .int a1]) ++ List.replicate (6 - (lg_sl ([.ref (ad 6 0), .int a1])).length) Slot.unset).toArray = ls at hl ⊢
  exact w6_agrees ⟨B.exec, B.bytes, B.returns, hml, findClass_of_methodNamed B.named, atoms_spec (ws := wsX6_agrees) B.pre, B.notSynchronized⟩ hK hN a1 hF hW va_S.rf hl

